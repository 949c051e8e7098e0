/-! ===== RUNS of the pure machine, without fuel: pe_E (from a place to an end), pe_C (a call) ===== -/
def pe_E (q : pj_M) (pc : Nat) (ls : pj_L) (st : List Value) (h : pj_H) (o : Option Value × pj_H) : Prop := ∃ n, pj_go n q pc ls st h = some o
def pe_C (y : pj_M) (as : List Value) (h : pj_H) (r : Option Value) (h' : pj_H) : Prop := pe_E y 0 (pj_ent as y.2.2.1) [] h (r, h')
theorem pe_fuel : ∀ (n : Nat) (q : pj_M) (pc : Nat) (ls : pj_L) (st : List Value) (h : pj_H) (o : Option Value × pj_H), pj_go n q pc ls st h = some o → pj_go (n + 1) q pc ls st h = some o
  | 0, _, _, _, _, _, _, hgo => by cases hgo
  | n + 1, q, pc, ls, st, h, o, hgo => by
    rw [pj_go] at hgo
    rw [pj_go]
    split at hgo
    · cases hgo
    · rename_i il hfind
      split at hgo
      · exact pe_fuel n _ _ _ _ _ _ hgo
      · split at hgo
        · exact pe_fuel n _ _ _ _ _ _ hgo
        · split at hgo
          · exact pe_fuel n _ _ _ _ _ _ hgo
          · split at hgo
            · exact pe_fuel n _ _ _ _ _ _ hgo
            · split at hgo
              · exact hgo
              · split at hgo
                · split at hgo
                  · rename_i o2 ho
                    rw [pe_fuel n _ _ _ _ _ _ ho]
                    exact pe_fuel n _ _ _ _ _ _ hgo
                  · cases hgo
                · cases hgo
theorem pe_fuel_le {n m : Nat} (hm : n ≤ m) {q : pj_M} {pc : Nat} {ls : pj_L} {st : List Value} {h : pj_H} {o : Option Value × pj_H} (hgo : pj_go n q pc ls st h = some o) : pj_go m q pc ls st h = some o := by
  induction hm with
  | refl => exact hgo
  | step _ ih => exact pe_fuel _ _ _ _ _ _ _ ih
theorem pe_det {q : pj_M} {pc : Nat} {ls : pj_L} {st : List Value} {h : pj_H} {o o2 : Option Value × pj_H} (h1 : pe_E q pc ls st h o) (h2 : pe_E q pc ls st h o2) : o = o2 := by
  obtain ⟨n, hn⟩ := h1
  obtain ⟨m, hm⟩ := h2
  have a := pe_fuel_le (Nat.le_max_left n m) hn
  have b := pe_fuel_le (Nat.le_max_right n m) hm
  exact Option.some.inj (a.symm.trans b)
/-- one step that goes on elsewhere -/
theorem pe_go {q q2 : pj_M} {pc pc2 : Nat} {ls ls2 : pj_L} {st st2 : List Value} {h h2 : pj_H} {o : Option Value × pj_H} (hs : ∀ n, pj_go (n + 1) q pc ls st h = pj_go n q2 pc2 ls2 st2 h2) : pe_E q pc ls st h o = pe_E q2 pc2 ls2 st2 h2 o := by
  apply propext
  constructor
  · rintro ⟨n, hn⟩
    cases n with
    | zero => cases hn
    | succ n => exact ⟨n, (hs n).symm.trans hn⟩
  · rintro ⟨n, hn⟩
    exact ⟨n + 1, (hs n).trans hn⟩
section PEO
variable {q : pj_M} {pc : Nat} {ls : pj_L} {st : List Value} {h : pj_H} {o : Option Value × pj_H}
theorem pe_op {ins : Instr} {len : Nat} {ls' : pj_L} {st' : List Value} (hf : pj_find pc q.2.2.2.2.2.2 = some (ins, len)) (ho : pj_op q.2.2.2.2.2.1 ins len ls st = some (ls', st')) : pe_E q pc ls st h o = pe_E q (pc + len) ls' st' h o :=
  pe_go (fun n => by rw [pj_go, hf]; simp only [ho])
theorem pe_iconst {n : Int} {v : Int32} (hf : pj_find pc q.2.2.2.2.2.2 = some (.iconst n, 1)) (hv : Int32.ofInt n = v) : pe_E q pc ls st h o = pe_E q (pc + 1) ls (.int v :: st) h o := by subst hv; exact pe_op hf rfl
theorem pe_bipush {n : Int} {v : Int32} (hf : pj_find pc q.2.2.2.2.2.2 = some (.bipush n, 2)) (hv : (Int8.ofInt n).toInt32 = v) : pe_E q pc ls st h o = pe_E q (pc + 2) ls (.int v :: st) h o := by subst hv; exact pe_op hf rfl
theorem pe_sipush {n : Int} {v : Int32} (hf : pj_find pc q.2.2.2.2.2.2 = some (.sipush n, 3)) (hv : (Int16.ofInt n).toInt32 = v) : pe_E q pc ls st h o = pe_E q (pc + 3) ls (.int v :: st) h o := by subst hv; exact pe_op hf rfl
theorem pe_lconst {n : Fin 2} {v : Int64} (hf : pj_find pc q.2.2.2.2.2.2 = some (.lconst n, 1)) (hv : Int64.ofNat n.val = v) : pe_E q pc ls st h o = pe_E q (pc + 1) ls (.long v :: st) h o := by subst hv; exact pe_op hf rfl
theorem pe_ldc {i : Nat} {v : Int32} {pl : Nat} (hf : pj_find pc q.2.2.2.2.2.2 = some (.ldc i, 2)) (hl : pj_lk q.2.2.2.2.2.1 i pj_ci = some (v, pl)) : pe_E q pc ls st h o = pe_E q (pc + 2) ls (.int v :: st) h o := pe_op hf (by show pj_cI _ _ _ _ _ _ = _; unfold pj_cI; rw [hl]; rfl)
theorem pe_ldcw {i : Nat} {v : Int32} {pl : Nat} (hf : pj_find pc q.2.2.2.2.2.2 = some (.ldc_w i, 3)) (hl : pj_lk q.2.2.2.2.2.1 i pj_ci = some (v, pl)) : pe_E q pc ls st h o = pe_E q (pc + 3) ls (.int v :: st) h o := pe_op hf (by show pj_cI _ _ _ _ _ _ = _; unfold pj_cI; rw [hl]; rfl)
theorem pe_ldc2 {i : Nat} {v : Int64} {pl : Nat} (hf : pj_find pc q.2.2.2.2.2.2 = some (.ldc2_w i, 3)) (hl : pj_lk q.2.2.2.2.2.1 i pj_cj = some (v, pl)) : pe_E q pc ls st h o = pe_E q (pc + 3) ls (.long v :: st) h o := pe_op hf (by show pj_cJ _ _ _ _ _ _ = _; unfold pj_cJ; rw [hl]; rfl)
theorem pe_iload_n {i : Fin 4} {x : Int32} (hf : pj_find pc q.2.2.2.2.2.2 = some (.iload_n i, 1)) (hg : pj_get ls i.val = some (.int x)) : pe_E q pc ls st h o = pe_E q (pc + 1) ls (.int x :: st) h o := pe_op hf (by show pj_iload _ _ _ _ _ = _; unfold pj_iload; rw [hg]; rfl)
theorem pe_iload {i : Nat} {x : Int32} (hf : pj_find pc q.2.2.2.2.2.2 = some (.iload i, 2)) (hg : pj_get ls i = some (.int x)) : pe_E q pc ls st h o = pe_E q (pc + 2) ls (.int x :: st) h o := pe_op hf (by show pj_iload _ _ _ _ _ = _; unfold pj_iload; rw [hg]; rfl)
theorem pe_lload_n {i : Fin 4} {x : Int64} (hf : pj_find pc q.2.2.2.2.2.2 = some (.lload_n i, 1)) (hg : pj_get ls i.val = some (.long x)) : pe_E q pc ls st h o = pe_E q (pc + 1) ls (.long x :: st) h o := pe_op hf (by show pj_lload _ _ _ _ _ = _; unfold pj_lload; rw [hg]; rfl)
theorem pe_lload {i : Nat} {x : Int64} (hf : pj_find pc q.2.2.2.2.2.2 = some (.lload i, 2)) (hg : pj_get ls i = some (.long x)) : pe_E q pc ls st h o = pe_E q (pc + 2) ls (.long x :: st) h o := pe_op hf (by show pj_lload _ _ _ _ _ = _; unfold pj_lload; rw [hg]; rfl)
theorem pe_aload_n {i : Fin 4} {x : Nat} (hf : pj_find pc q.2.2.2.2.2.2 = some (.aload_n i, 1)) (hg : pj_get ls i.val = some (.ref x)) : pe_E q pc ls st h o = pe_E q (pc + 1) ls (.ref x :: st) h o := pe_op hf (by show pj_aload _ _ _ _ _ = _; unfold pj_aload; rw [hg]; rfl)
theorem pe_aload {i : Nat} {x : Nat} (hf : pj_find pc q.2.2.2.2.2.2 = some (.aload i, 2)) (hg : pj_get ls i = some (.ref x)) : pe_E q pc ls st h o = pe_E q (pc + 2) ls (.ref x :: st) h o := pe_op hf (by show pj_aload _ _ _ _ _ = _; unfold pj_aload; rw [hg]; rfl)
theorem pe_istore_n {i : Fin 4} {x : Int32} {ls' : pj_L} (hf : pj_find pc q.2.2.2.2.2.2 = some (.istore_n i, 1)) (hs : pj_set ls i.val (.int x) = some ls') : pe_E q pc ls (.int x :: st) h o = pe_E q (pc + 1) ls' st h o := pe_op hf (by simp [pj_op, pj_istore, hs])
theorem pe_istore {i : Nat} {x : Int32} {ls' : pj_L} (hf : pj_find pc q.2.2.2.2.2.2 = some (.istore i, 2)) (hs : pj_set ls i (.int x) = some ls') : pe_E q pc ls (.int x :: st) h o = pe_E q (pc + 2) ls' st h o := pe_op hf (by simp [pj_op, pj_istore, hs])
theorem pe_lstore_n {i : Fin 4} {x : Int64} {ls' : pj_L} (hf : pj_find pc q.2.2.2.2.2.2 = some (.lstore_n i, 1)) (hs : pj_set2 ls i.val (.long x) = some ls') : pe_E q pc ls (.long x :: st) h o = pe_E q (pc + 1) ls' st h o := pe_op hf (by simp [pj_op, pj_lstore, hs])
theorem pe_lstore {i : Nat} {x : Int64} {ls' : pj_L} (hf : pj_find pc q.2.2.2.2.2.2 = some (.lstore i, 2)) (hs : pj_set2 ls i (.long x) = some ls') : pe_E q pc ls (.long x :: st) h o = pe_E q (pc + 2) ls' st h o := pe_op hf (by simp [pj_op, pj_lstore, hs])
theorem pe_astore_n {i : Fin 4} {x : Nat} {ls' : pj_L} (hf : pj_find pc q.2.2.2.2.2.2 = some (.astore_n i, 1)) (hs : pj_set ls i.val (.ref x) = some ls') : pe_E q pc ls (.ref x :: st) h o = pe_E q (pc + 1) ls' st h o := pe_op hf (by simp [pj_op, pj_astore, hs])
theorem pe_iinc {i : Nat} {n : Int} {x v : Int32} {ls' : pj_L} (hf : pj_find pc q.2.2.2.2.2.2 = some (.iinc i n, 3)) (hg : pj_get ls i = some (.int x)) (hv : Int32.ofInt n = v) (hs : pj_set ls i (.int (x + v)) = some ls') : pe_E q pc ls st h o = pe_E q (pc + 3) ls' st h o := by
  subst hv
  exact pe_op hf (by simp [pj_op, pj_iinc, hg, hs])
theorem pe_iadd {x y : Int32} (hf : pj_find pc q.2.2.2.2.2.2 = some (.iadd, 1)) : pe_E q pc ls (.int y :: .int x :: st) h o = pe_E q (pc + 1) ls (.int (x + y) :: st) h o := pe_op hf rfl
theorem pe_isub {x y : Int32} (hf : pj_find pc q.2.2.2.2.2.2 = some (.isub, 1)) : pe_E q pc ls (.int y :: .int x :: st) h o = pe_E q (pc + 1) ls (.int (x - y) :: st) h o := pe_op hf rfl
theorem pe_imul {x y : Int32} (hf : pj_find pc q.2.2.2.2.2.2 = some (.imul, 1)) : pe_E q pc ls (.int y :: .int x :: st) h o = pe_E q (pc + 1) ls (.int (x * y) :: st) h o := pe_op hf rfl
theorem pe_iand {x y : Int32} (hf : pj_find pc q.2.2.2.2.2.2 = some (.iand, 1)) : pe_E q pc ls (.int y :: .int x :: st) h o = pe_E q (pc + 1) ls (.int (x &&& y) :: st) h o := pe_op hf rfl
theorem pe_ior {x y : Int32} (hf : pj_find pc q.2.2.2.2.2.2 = some (.ior, 1)) : pe_E q pc ls (.int y :: .int x :: st) h o = pe_E q (pc + 1) ls (.int (x ||| y) :: st) h o := pe_op hf rfl
theorem pe_ixor {x y : Int32} (hf : pj_find pc q.2.2.2.2.2.2 = some (.ixor, 1)) : pe_E q pc ls (.int y :: .int x :: st) h o = pe_E q (pc + 1) ls (.int (x ^^^ y) :: st) h o := pe_op hf rfl
theorem pe_ishl {x y : Int32} (hf : pj_find pc q.2.2.2.2.2.2 = some (.ishl, 1)) : pe_E q pc ls (.int y :: .int x :: st) h o = pe_E q (pc + 1) ls (.int (x <<< (y &&& 31)) :: st) h o := pe_op hf rfl
theorem pe_ishr {x y : Int32} (hf : pj_find pc q.2.2.2.2.2.2 = some (.ishr, 1)) : pe_E q pc ls (.int y :: .int x :: st) h o = pe_E q (pc + 1) ls (.int (x >>> (y &&& 31)) :: st) h o := pe_op hf rfl
theorem pe_iushr {x y : Int32} (hf : pj_find pc q.2.2.2.2.2.2 = some (.iushr, 1)) : pe_E q pc ls (.int y :: .int x :: st) h o = pe_E q (pc + 1) ls (.int ((x.toUInt32 >>> (y.toUInt32 &&& Int32.toUInt32 31)).toInt32) :: st) h o := pe_op hf rfl
theorem pe_idiv {x y : Int32} (hf : pj_find pc q.2.2.2.2.2.2 = some (.idiv, 1)) (hy : ¬ y = 0) : pe_E q pc ls (.int y :: .int x :: st) h o = pe_E q (pc + 1) ls (.int (x / y) :: st) h o := pe_op hf (by simp [pj_op, pj_id, hy])
theorem pe_irem {x y : Int32} (hf : pj_find pc q.2.2.2.2.2.2 = some (.irem, 1)) (hy : ¬ y = 0) : pe_E q pc ls (.int y :: .int x :: st) h o = pe_E q (pc + 1) ls (.int (x - x / y * y) :: st) h o := pe_op hf (by simp [pj_op, pj_id, hy])
theorem pe_ineg {x : Int32} (hf : pj_find pc q.2.2.2.2.2.2 = some (.ineg, 1)) : pe_E q pc ls (.int x :: st) h o = pe_E q (pc + 1) ls (.int (-x) :: st) h o := pe_op hf rfl
theorem pe_ladd {x y : Int64} (hf : pj_find pc q.2.2.2.2.2.2 = some (.ladd, 1)) : pe_E q pc ls (.long y :: .long x :: st) h o = pe_E q (pc + 1) ls (.long (x + y) :: st) h o := pe_op hf rfl
theorem pe_lsub {x y : Int64} (hf : pj_find pc q.2.2.2.2.2.2 = some (.lsub, 1)) : pe_E q pc ls (.long y :: .long x :: st) h o = pe_E q (pc + 1) ls (.long (x - y) :: st) h o := pe_op hf rfl
theorem pe_lmul {x y : Int64} (hf : pj_find pc q.2.2.2.2.2.2 = some (.lmul, 1)) : pe_E q pc ls (.long y :: .long x :: st) h o = pe_E q (pc + 1) ls (.long (x * y) :: st) h o := pe_op hf rfl
theorem pe_land {x y : Int64} (hf : pj_find pc q.2.2.2.2.2.2 = some (.land, 1)) : pe_E q pc ls (.long y :: .long x :: st) h o = pe_E q (pc + 1) ls (.long (x &&& y) :: st) h o := pe_op hf rfl
theorem pe_lor {x y : Int64} (hf : pj_find pc q.2.2.2.2.2.2 = some (.lor, 1)) : pe_E q pc ls (.long y :: .long x :: st) h o = pe_E q (pc + 1) ls (.long (x ||| y) :: st) h o := pe_op hf rfl
theorem pe_lxor {x y : Int64} (hf : pj_find pc q.2.2.2.2.2.2 = some (.lxor, 1)) : pe_E q pc ls (.long y :: .long x :: st) h o = pe_E q (pc + 1) ls (.long (x ^^^ y) :: st) h o := pe_op hf rfl
theorem pe_ldiv {x y : Int64} (hf : pj_find pc q.2.2.2.2.2.2 = some (.ldiv, 1)) (hy : ¬ y = 0) : pe_E q pc ls (.long y :: .long x :: st) h o = pe_E q (pc + 1) ls (.long (x / y) :: st) h o := pe_op hf (by simp [pj_op, pj_ld, hy])
theorem pe_lrem {x y : Int64} (hf : pj_find pc q.2.2.2.2.2.2 = some (.lrem, 1)) (hy : ¬ y = 0) : pe_E q pc ls (.long y :: .long x :: st) h o = pe_E q (pc + 1) ls (.long (x - x / y * y) :: st) h o := pe_op hf (by simp [pj_op, pj_ld, hy])
theorem pe_lshl {x : Int64} {y : Int32} (hf : pj_find pc q.2.2.2.2.2.2 = some (.lshl, 1)) : pe_E q pc ls (.int y :: .long x :: st) h o = pe_E q (pc + 1) ls (.long (x <<< (y.toInt64 &&& 63)) :: st) h o := pe_op hf rfl
theorem pe_lushr {x : Int64} {y : Int32} (hf : pj_find pc q.2.2.2.2.2.2 = some (.lushr, 1)) : pe_E q pc ls (.int y :: .long x :: st) h o = pe_E q (pc + 1) ls (.long ((x.toUInt64 >>> (y.toInt64.toUInt64 &&& Int64.toUInt64 63)).toInt64) :: st) h o := pe_op hf rfl
theorem pe_i2l {x : Int32} (hf : pj_find pc q.2.2.2.2.2.2 = some (.i2l, 1)) : pe_E q pc ls (.int x :: st) h o = pe_E q (pc + 1) ls (.long x.toInt64 :: st) h o := pe_op hf rfl
theorem pe_l2i {x : Int64} (hf : pj_find pc q.2.2.2.2.2.2 = some (.l2i, 1)) : pe_E q pc ls (.long x :: st) h o = pe_E q (pc + 1) ls (.int x.toInt32 :: st) h o := pe_op hf rfl
theorem pe_lcmp {x y : Int64} (hf : pj_find pc q.2.2.2.2.2.2 = some (.lcmp, 1)) : pe_E q pc ls (.long y :: .long x :: st) h o = pe_E q (pc + 1) ls (.int (lg_cmp x y) :: st) h o := pe_op hf rfl
theorem pe_dup {v : Value} (hf : pj_find pc q.2.2.2.2.2.2 = some (.dup, 1)) (hc : v.category = 1) : pe_E q pc ls (v :: st) h o = pe_E q (pc + 1) ls (v :: v :: st) h o := pe_op hf (by simp [pj_op, pj_dup, hc])
theorem pe_pop {v : Value} (hf : pj_find pc q.2.2.2.2.2.2 = some (.pop, 1)) (hc : v.category = 1) : pe_E q pc ls (v :: st) h o = pe_E q (pc + 1) ls st h o := pe_op hf (by simp [pj_op, pj_pop, hc])
theorem pe_dup2 {v w : Value} (hf : pj_find pc q.2.2.2.2.2.2 = some (.dup2, 1)) (hc : v.category = 1) (hd : w.category = 1) : pe_E q pc ls (v :: w :: st) h o = pe_E q (pc + 1) ls (v :: w :: v :: w :: st) h o := pe_op hf (by simp [pj_op, pj_dup2, hc, hd])
/-! jumps -/
theorem pe_jmp {ins : Instr} {len pc' : Nat} {st' : List Value} (hf : pj_find pc q.2.2.2.2.2.2 = some (ins, len)) (h1 : pj_op q.2.2.2.2.2.1 ins len ls st = none) (hj : pj_jmp ins len pc st = some (pc', st')) : pe_E q pc ls st h o = pe_E q pc' ls st' h o :=
  pe_go (fun n => by rw [pj_go, hf]; simp only [h1, hj])
theorem pe_goto {off : Int} {t : Nat} (hf : pj_find pc q.2.2.2.2.2.2 = some (.goto off, 3)) (ht : pj_tgt pc off = some t) : pe_E q pc ls st h o = pe_E q t ls st h o := pe_jmp hf rfl (by simp [pj_jmp, ht])
theorem pe_if {cd : Jvm.ClassFile.Cond} {off : Int} {t : Nat} {x : Int32} {c : Prop} [Decidable c] (hf : pj_find pc q.2.2.2.2.2.2 = some (.ifCond cd off, 3)) (ht : pj_tgt pc off = some t) (hc : pj_cond cd x 0 = decide c) : pe_E q pc ls (.int x :: st) h o = if c then pe_E q t ls st h o else pe_E q (pc + 3) ls st h o := by
  have hj : pj_jmp (.ifCond cd off) 3 pc (.int x :: st) = some (if decide c = true then t else pc + 3, st) := by simp only [pj_jmp, pj_br, ht, hc, if_true]
  rw [pe_jmp hf rfl hj]
  by_cases hh : c <;> simp [hh]
theorem pe_icmp {cd : Jvm.ClassFile.Cond} {off : Int} {t : Nat} {x y : Int32} {c : Prop} [Decidable c] (hf : pj_find pc q.2.2.2.2.2.2 = some (.if_icmp cd off, 3)) (ht : pj_tgt pc off = some t) (hc : pj_cond cd x y = decide c) : pe_E q pc ls (.int y :: .int x :: st) h o = if c then pe_E q t ls st h o else pe_E q (pc + 3) ls st h o := by
  have hj : pj_jmp (.if_icmp cd off) 3 pc (.int y :: .int x :: st) = some (if decide c = true then t else pc + 3, st) := by simp only [pj_jmp, pj_br, ht, hc, if_true]
  rw [pe_jmp hf rfl hj]
  by_cases hh : c <;> simp [hh]
theorem pe_tabOut {dflt lo hi : Int} {offs : Array Int} {len t : Nat} {x : Int32} (hf : pj_find pc q.2.2.2.2.2.2 = some (.tableswitch dflt lo hi offs, len)) (hx : x.toInt < lo ∨ hi < x.toInt) (ht : pj_tgt pc dflt = some t) : pe_E q pc ls (.int x :: st) h o = pe_E q t ls st h o := pe_jmp hf rfl (by simp [pj_jmp, hx, ht])
theorem pe_tabIn {dflt lo hi : Int} {offs : Array Int} {len t : Nat} {x : Int32} {off : Int} (hf : pj_find pc q.2.2.2.2.2.2 = some (.tableswitch dflt lo hi offs, len)) (hx : ¬ (x.toInt < lo ∨ hi < x.toInt)) (ho : offs[(x.toInt - lo).toNat]? = some off) (ht : pj_tgt pc off = some t) : pe_E q pc ls (.int x :: st) h o = pe_E q t ls st h o := pe_jmp hf rfl (by simp only [pj_jmp, if_neg hx, ho, ht])
theorem pe_look {dflt : Int} {ps : Array (Int × Int)} {len t : Nat} {x : Int32} (hf : pj_find pc q.2.2.2.2.2.2 = some (.lookupswitch dflt ps, len)) (hs : (ps.toList.zip (ps.toList.drop 1)).all (fun (a, next) => a.1 < next.1) = true) (ht : pj_tgt pc (Op.lookupswitch.offset ps.toList dflt x.toInt) = some t) : pe_E q pc ls (.int x :: st) h o = pe_E q t ls st h o := pe_jmp hf rfl (by simp only [pj_jmp, if_pos hs, ht])
/-! heap -/
theorem pe_mem {ins : Instr} {len : Nat} {st' : List Value} {h' : pj_H} (hf : pj_find pc q.2.2.2.2.2.2 = some (ins, len)) (h1 : pj_op q.2.2.2.2.2.1 ins len ls st = none) (h2 : pj_jmp ins len pc st = none) (hm : pj_mem q ins len st h = some (st', h')) : pe_E q pc ls st h o = pe_E q (pc + len) ls st' h' o :=
  pe_go (fun n => by rw [pj_go, hf]; simp only [h1, h2, hm])
theorem pe_getf {idx ci j ne pl k : Nat} {fs : List Value} {t v : Value} (hf : pj_find pc q.2.2.2.2.2.2 = some (.getfield idx, 3)) (hl : pj_lk q.2.2.2.2.2.1 idx pj_fl = some (ci, j, ne, pl)) (hs : h.1[k + 1]? = some (.inr (ci, fs))) (ht : fs[j]? = some t) (hv : pj_fv h (k + 1) j t = v) : pe_E q pc ls (.ref (k + 1) :: st) h o = pe_E q (pc + 3) ls (v :: st) h o := by
  subst hv
  exact pe_mem hf rfl rfl (by simp [pj_mem, pj_getf, hl, hs, ht])
theorem pe_putI {idx ci j ne pl k : Nat} {fs : List Value} {x z : Int32} (hf : pj_find pc q.2.2.2.2.2.2 = some (.putfield idx, 3)) (hl : pj_lk q.2.2.2.2.2.1 idx pj_fl = some (ci, j, ne, pl)) (hs : h.1[k + 1]? = some (.inr (ci, fs))) (ht : fs[j]? = some (.int z)) (hty : pj_ty ci j = .int ∨ (pj_ty ci j = .boolean ∧ (x = 0 ∨ x = 1))) (hfi : pj_fin ci j = false) : pe_E q pc ls (.int x :: .ref (k + 1) :: st) h o = pe_E q (pc + 3) ls st (h.1, pj_up h.2.1 (k + 1) j x, h.2.2) o := by
  have hc : fits (pj_ty ci j) (.int x) = true ∧ narrow (pj_ty ci j) (.int x) = .int x := by
    rcases hty with e | ⟨e, rfl | rfl⟩ <;> rw [e] <;> exact ⟨rfl, rfl⟩
  exact pe_mem hf rfl rfl (by simp [pj_mem, pj_putf, hl, hs, ht, hc, hfi, pj_puth])
theorem pe_putJ {idx ci j ne pl k : Nat} {fs : List Value} {x z : Int64} (hf : pj_find pc q.2.2.2.2.2.2 = some (.putfield idx, 3)) (hl : pj_lk q.2.2.2.2.2.1 idx pj_fl = some (ci, j, ne, pl)) (hs : h.1[k + 1]? = some (.inr (ci, fs))) (ht : fs[j]? = some (.long z)) (hty : pj_ty ci j = .long) (hfi : pj_fin ci j = false) : pe_E q pc ls (.long x :: .ref (k + 1) :: st) h o = pe_E q (pc + 3) ls st (h.1, h.2.1, pj_uL h.2.2 (k + 1) j x) o := by
  have hc : fits (pj_ty ci j) (.long x) = true ∧ narrow (pj_ty ci j) (.long x) = .long x := by rw [hty]; exact ⟨rfl, rfl⟩
  exact pe_mem hf rfl rfl (by simp [pj_mem, pj_putf, hl, hs, ht, hc, hfi, pj_puth])
theorem pe_putR {idx ci j pl k a : Nat} {fs : List Value} (hf : pj_find pc q.2.2.2.2.2.2 = some (.putfield idx, 3)) (hl : pj_lk q.2.2.2.2.2.1 idx pj_fl = some (ci, j, 0, pl)) (hs : h.1[k + 1]? = some (.inr (ci, fs))) (ht : fs[j]? = some .null) (hty : fits (pj_ty ci j) (.ref a) = true) (hnm : q.1.name = "<init>") (hdc : pj_decl ci j = pj_cn q.2.2.2.2.2.1) : pe_E q pc ls (.ref a :: .ref (k + 1) :: st) h o = pe_E q (pc + 3) ls st (h.1.set (k + 1) (.inr (ci, fs.set j (.ref a))), h.2.1, h.2.2) o := by
  have hc : narrow (pj_ty ci j) (.ref a) = .ref a := by cases pj_ty ci j <;> rfl
  exact pe_mem hf rfl rfl (by simp [pj_mem, pj_putf, hl, hs, ht, hc, hty, hnm, hdc, pj_puth])
theorem pe_iald {k n : Nat} {i : Int32} (hf : pj_find pc q.2.2.2.2.2.2 = some (.iaload, 1)) (hs : h.1[k]? = some (.inl (.int, n))) (hi : ¬ (i < 0 ∨ n ≤ i.toNatClampNeg)) : pe_E q pc ls (.int i :: .ref k :: st) h o = pe_E q (pc + 1) ls (.int (h.2.1 k i.toNatClampNeg) :: st) h o :=
  pe_mem hf rfl rfl (by simp [-not_or, pj_mem, pj_al, hs, hi])
theorem pe_lald {k n : Nat} {i : Int32} (hf : pj_find pc q.2.2.2.2.2.2 = some (.laload, 1)) (hs : h.1[k + 1]? = some (.inl (.long, n))) (hi : ¬ (i < 0 ∨ n ≤ i.toNatClampNeg)) : pe_E q pc ls (.int i :: .ref (k + 1) :: st) h o = pe_E q (pc + 1) ls (.long (h.2.2 (k + 1) i.toNatClampNeg) :: st) h o :=
  pe_mem hf rfl rfl (by simp [-not_or, pj_mem, pj_al, hs, hi])
theorem pe_bald {k n : Nat} {i : Int32} (hf : pj_find pc q.2.2.2.2.2.2 = some (.baload, 1)) (hs : h.1[k + 1]? = some (.inl (.boolean, n))) (hi : ¬ (i < 0 ∨ n ≤ i.toNatClampNeg)) : pe_E q pc ls (.int i :: .ref (k + 1) :: st) h o = pe_E q (pc + 1) ls (.int (h.2.1 (k + 1) i.toNatClampNeg) :: st) h o :=
  pe_mem hf rfl rfl (by simp [-not_or, pj_mem, pj_al, hs, hi])
theorem pe_iast {k n : Nat} {i x : Int32} (hf : pj_find pc q.2.2.2.2.2.2 = some (.iastore, 1)) (hs : h.1[k + 1]? = some (.inl (.int, n))) (hi : ¬ (i < 0 ∨ n ≤ i.toNatClampNeg)) : pe_E q pc ls (.int x :: .int i :: .ref (k + 1) :: st) h o = pe_E q (pc + 1) ls st (h.1, pj_up h.2.1 (k + 1) i.toNatClampNeg x, h.2.2) o :=
  pe_mem hf rfl rfl (by simp [-not_or, pj_mem, pj_as, hs, hi])
theorem pe_last {k n : Nat} {i : Int32} {x : Int64} (hf : pj_find pc q.2.2.2.2.2.2 = some (.lastore, 1)) (hs : h.1[k + 1]? = some (.inl (.long, n))) (hi : ¬ (i < 0 ∨ n ≤ i.toNatClampNeg)) : pe_E q pc ls (.long x :: .int i :: .ref (k + 1) :: st) h o = pe_E q (pc + 1) ls st (h.1, h.2.1, pj_uL h.2.2 (k + 1) i.toNatClampNeg x) o :=
  pe_mem hf rfl rfl (by simp [-not_or, pj_mem, pj_as, hs, hi])
theorem pe_bast {k n : Nat} {i x : Int32} (hf : pj_find pc q.2.2.2.2.2.2 = some (.bastore, 1)) (hs : h.1[k + 1]? = some (.inl (.boolean, n))) (hi : ¬ (i < 0 ∨ n ≤ i.toNatClampNeg)) (hx : x = 0 ∨ x = 1) : pe_E q pc ls (.int x :: .int i :: .ref (k + 1) :: st) h o = pe_E q (pc + 1) ls st (h.1, pj_up h.2.1 (k + 1) i.toNatClampNeg x, h.2.2) o :=
  pe_mem hf rfl rfl (by simp [-not_or, pj_mem, pj_as, hs, hi, hx])
theorem pe_alen {k n : Nat} {ty : FieldType} {v : Int32} (hf : pj_find pc q.2.2.2.2.2.2 = some (.arraylength, 1)) (hs : h.1[k]? = some (.inl (ty, n))) (hv : Int32.ofNat n = v) : pe_E q pc ls (.ref k :: st) h o = pe_E q (pc + 1) ls (.int v :: st) h o := by
  subst hv
  exact pe_mem hf rfl rfl (by simp [pj_mem, pj_alen, hs])
theorem pe_obj {idx j n ne pl pk pd k : Nat} (hf : pj_find pc q.2.2.2.2.2.2 = some (.invokespecial idx, 3)) (hl : pj_lk q.2.2.2.2.2.1 idx pj_ml = some (j, n, ne, pl, 3, pk, pd)) (hr : 1 ≤ q.2.2.2.2.1) (hsum : (st.map fun v => v.category).sum ≤ 8) : pe_E q pc ls (.ref k :: st) h o = pe_E q (pc + 3) ls st h o :=
  pe_mem hf rfl rfl (by simp only [pj_mem, pj_bs, hl, if_true]; simp only [pj_bi, hl, if_true]; rw [if_pos ⟨by first | rfl | trivial, hr, hsum⟩])
theorem pe_max {idx j n ne pl pk pd : Nat} {x y : Int32} (hf : pj_find pc q.2.2.2.2.2.2 = some (.invokestatic idx, 3)) (hl : pj_lk q.2.2.2.2.2.1 idx pj_ml = some (j, n, ne, pl, 5, pk, pd)) (hr : 1 ≤ q.2.2.2.2.1) (hsum : (st.map fun v => v.category).sum ≤ 8) : pe_E q pc ls (.int y :: .int x :: st) h o = pe_E q (pc + 3) ls (.int (if x < y then y else x) :: st) h o :=
  pe_mem hf rfl rfl (by simp only [pj_mem, pj_bt, hl]; rw [if_neg (by first | decide | simp)]; simp only [pj_bi, hl]; rw [if_neg (by first | decide | simp), if_neg (by first | decide | simp), if_pos trivial, if_pos ⟨by first | rfl | trivial, hr, hsum⟩])
theorem pe_min {idx j n ne pl pk pd : Nat} {x y : Int32} (hf : pj_find pc q.2.2.2.2.2.2 = some (.invokestatic idx, 3)) (hl : pj_lk q.2.2.2.2.2.1 idx pj_ml = some (j, n, ne, pl, 6, pk, pd)) (hr : 1 ≤ q.2.2.2.2.1) (hsum : (st.map fun v => v.category).sum ≤ 8) : pe_E q pc ls (.int y :: .int x :: st) h o = pe_E q (pc + 3) ls (.int (if y < x then y else x) :: st) h o :=
  pe_mem hf rfl rfl (by simp only [pj_mem, pj_bt, hl]; rw [if_neg (by first | decide | simp)]; simp only [pj_bi, hl]; rw [if_neg (by first | decide | simp), if_neg (by first | decide | simp), if_neg (by first | decide | simp), if_pos trivial, if_pos ⟨by first | rfl | trivial, hr, hsum⟩])
theorem pe_acopy {idx j n0 ne pl pk pd d s a b : Nat} {sp dp n : Int32} (hf : pj_find pc q.2.2.2.2.2.2 = some (.invokestatic idx, 3)) (hl : pj_lk q.2.2.2.2.2.1 idx pj_ml = some (j, n0, ne, pl, 4, pk, pd)) (hr : 1 ≤ q.2.2.2.2.1) (hsum : (st.map fun v => v.category).sum ≤ 8) (h1 : h.1[s + 1]? = some (.inl (.int, a))) (h2 : h.1[d + 1]? = some (.inl (.int, b))) (c1 : ¬ sp < 0) (c2 : ¬ dp < 0) (c3 : ¬ n < 0) (c4 : sp.toNatClampNeg + n.toNatClampNeg ≤ a) (c5 : dp.toNatClampNeg + n.toNatClampNeg ≤ b) : pe_E q pc ls (.int n :: .int dp :: .ref (d + 1) :: .int sp :: .ref (s + 1) :: st) h o = pe_E q (pc + 3) ls st (h.1, pj_row h.2.1 (d + 1) (va_cpy (h.2.1 (s + 1)) (h.2.1 (d + 1)) sp.toNatClampNeg dp.toNatClampNeg n.toNatClampNeg), h.2.2) o :=
  pe_mem hf rfl rfl (by simp only [pj_mem, pj_bt, hl]; rw [if_neg (by first | decide | simp)]; simp only [pj_bi, hl]; rw [if_neg (by first | decide | simp), if_pos trivial]; simp only [h1, h2]; rw [if_pos ⟨by first | rfl | trivial, hr, hsum, by first | rfl | trivial, by first | rfl | trivial, c1, c2, c3, c4, c5⟩])
/-! making -/
theorem pe_nw {ins : Instr} {len : Nat} {st' : List Value} {h' : pj_H} (hf : pj_find pc q.2.2.2.2.2.2 = some (ins, len)) (h1 : pj_op q.2.2.2.2.2.1 ins len ls st = none) (h2 : pj_jmp ins len pc st = none) (h3 : pj_mem q ins len st h = none) (hm : pj_new q.2.2.2.2.2.1 ins len st h = some (st', h')) : pe_E q pc ls st h o = pe_E q (pc + len) ls st' h' o :=
  pe_go (fun n => by rw [pj_go, hf]; simp only [h1, h2, h3, hm])
theorem pe_new {idx ci pl m : Nat} {r : vw_C} (hf : pj_find pc q.2.2.2.2.2.2 = some (.new idx, 3)) (hl : pj_lk q.2.2.2.2.2.1 idx pj_cl = some (ci, pl)) (hr : vwCl[ci]? = some r) (hn : h.1.length = m + 1) : pe_E q pc ls st h o = pe_E q (pc + 3) ls (.ref (m + 1) :: st) (pj_born h (.inr (ci, pj_tm ci r.2.2))) o := by
  rw [← hn]
  exact pe_nw hf rfl rfl rfl (by simp only [pj_new, hl, hr]; rw [if_pos ⟨by first | rfl | trivial, fun e => by rw [e] at hn; cases hn⟩])
theorem pe_newa {t : ArrayType} {ty : FieldType} {n : Int32} {m N : Nat} (hf : pj_find pc q.2.2.2.2.2.2 = some (.newarray t, 2)) (ht : pj_aty t = some ty) (hn : h.1.length = m + 1) (h0 : ¬ n < 0) (hN : n.toNatClampNeg = N) (hby : N * componentBytes ty ≤ 536870912) : pe_E q pc ls (.int n :: st) h o = pe_E q (pc + 2) ls (.ref (m + 1) :: st) (pj_born h (.inl (ty, N))) o := by
  subst hN
  rw [← hn]
  exact pe_nw hf rfl rfl rfl (by simp only [pj_new, ht]; rw [if_pos ⟨by first | rfl | trivial, fun e => (by rw [e] at hn; cases hn), h0, hby⟩])
/-! ends -/
theorem pe_end {ins : Instr} {v : Option Value} (hf : pj_find pc q.2.2.2.2.2.2 = some (ins, 1)) (h1 : pj_op q.2.2.2.2.2.1 ins 1 ls st = none) (h2 : pj_jmp ins 1 pc st = none) (h3 : pj_mem q ins 1 st h = none) (h4 : pj_new q.2.2.2.2.2.1 ins 1 st h = none) (hr : pj_ret q.2.2.2.1 ins 1 st = some v) : pe_E q pc ls st h o = ((v, h) = o) := by
  apply propext
  constructor
  · rintro ⟨n, hn⟩
    cases n with
    | zero => cases hn
    | succ n =>
      rw [pj_go, hf] at hn
      simp only [h1, h2, h3, h4, hr] at hn
      exact Option.some.inj hn
  · intro e
    refine ⟨1, ?_⟩
    rw [pj_go, hf]
    simp only [h1, h2, h3, h4, hr, e]
theorem pe_iret {v : Int32} (hf : pj_find pc q.2.2.2.2.2.2 = some (.ireturn, 1)) (hr : q.2.2.2.1 = some .int) : pe_E q pc ls [.int v] h o = ((some (.int v), h) = o) := pe_end hf rfl rfl rfl rfl (by rw [hr]; simp [pj_ret])
theorem pe_zret {v : Int32} (hf : pj_find pc q.2.2.2.2.2.2 = some (.ireturn, 1)) (hr : q.2.2.2.1 = some .boolean) (hv : v = 0 ∨ v = 1) : pe_E q pc ls [.int v] h o = ((some (.int v), h) = o) := pe_end hf rfl rfl rfl rfl (by rw [hr]; simp [pj_ret, hv])
theorem pe_lret {v : Int64} (hf : pj_find pc q.2.2.2.2.2.2 = some (.lreturn, 1)) (hr : q.2.2.2.1 = some .long) : pe_E q pc ls [.long v] h o = ((some (.long v), h) = o) := pe_end hf rfl rfl rfl rfl (by rw [hr]; simp [pj_ret])
theorem pe_vret (hf : pj_find pc q.2.2.2.2.2.2 = some (.return_, 1)) (hr : q.2.2.2.1 = none) : pe_E q pc ls [] h o = ((none, h) = o) := pe_end hf rfl rfl rfl rfl (by rw [hr]; simp [pj_ret])
/-! calls -/
theorem pe_cl {ins : Instr} {y : pj_M} {as rest : List Value} {r : Option Value} {h1 : pj_H} (hf : pj_find pc q.2.2.2.2.2.2 = some (ins, 3)) (a1 : pj_op q.2.2.2.2.2.1 ins 3 ls st = none) (a2 : pj_jmp ins 3 pc st = none) (a3 : pj_mem q ins 3 st h = none) (a4 : pj_new q.2.2.2.2.2.1 ins 3 st h = none) (a5 : pj_ret q.2.2.2.1 ins 3 st = none) (hi : pj_inv q ins 3 st h = some (y, as, rest)) (hc : pe_C y as h r h1) : pe_E q pc ls st h o = pe_E q (pc + 3) ls (r.toList ++ rest) h1 o := by
  apply propext
  constructor
  · rintro ⟨n, hn⟩
    cases n with
    | zero => cases hn
    | succ n =>
      rw [pj_go, hf] at hn
      simp only [a1, a2, a3, a4, a5, hi] at hn
      split at hn
      · rename_i o2 ho
        have e := pe_det hc ⟨n, ho⟩
        subst e
        exact ⟨n, hn⟩
      · cases hn
  · rintro ⟨n, hn⟩
    obtain ⟨m, hm⟩ := hc
    refine ⟨max n m + 1, ?_⟩
    rw [pj_go, hf]
    simp only [a1, a2, a3, a4, a5, hi]
    rw [pe_fuel_le (Nat.le_max_right n m) hm]
    exact pe_fuel_le (Nat.le_max_left n m) hn
theorem pe_take (as rest : List Value) (n : Nat) (hn : as.length = n) : ((as.reverse ++ rest).take n).reverse = as ∧ (as.reverse ++ rest).drop n = rest ∧ n ≤ (as.reverse ++ rest).length := by
  subst hn
  refine ⟨?_, ?_, ?_⟩
  · rw [List.take_append_of_le_length (by simp), List.take_of_length_le (by simp), List.reverse_reverse]
  · rw [List.drop_append_of_le_length (by simp), List.drop_of_length_le (by simp), List.nil_append]
  · simp
/-- a static call -/
theorem pe_callS {idx j n ne pl pk pd : Nat} {y : pj_M} {r : Option Value} {h1 : pj_H} (as rest : List Value) (hf : pj_find pc q.2.2.2.2.2.2 = some (.invokestatic idx, 3)) (hl : pj_lk q.2.2.2.2.2.1 idx pj_ml = some (j, n, ne, pl, 0, pk, pd)) (hy : pj_ms[j]? = some y) (hr : y.2.2.2.2.1 < q.2.2.2.2.1) (hst : st = as.reverse ++ rest) (hn : as.length = n) (hfl : (pj_fl1 as).length ≤ y.2.2.1) (hsum : (rest.map fun v => v.category).sum ≤ 8) (hc : pe_C y as h r h1) : pe_E q pc ls st h o = pe_E q (pc + 3) ls (r.toList ++ rest) h1 o := by
  obtain ⟨t1, t2, t3⟩ := pe_take as rest n hn
  subst hst
  refine pe_cl hf rfl rfl ?_ rfl rfl ?_ hc
  · simp only [pj_mem, pj_bt, pj_bi, hl]
    rfl
  · show pj_iv q 0 _ _ _ _ = _
    simp only [pj_iv, hl, hy]
    rw [if_pos ⟨trivial, trivial, t3, hr⟩, if_pos trivial, t1, t2, if_pos ⟨hfl, hsum⟩]
/-- a call of an object's method -/
theorem pe_callV {idx j n ne pl pk pd k : Nat} {y : pj_M} {r : Option Value} {h1 : pj_H} (as rest : List Value) (hf : pj_find pc q.2.2.2.2.2.2 = some (.invokevirtual idx, 3)) (hl : pj_lk q.2.2.2.2.2.1 idx pj_ml = some (j, n, ne, pl, 1, pk, pd)) (hy : pj_ms[j]? = some y) (hr : y.2.2.2.2.1 < q.2.2.2.2.1) (hst : st = as.reverse ++ (.ref (k + 1) :: rest)) (hn : as.length = n) (hfl : (pj_fl1 (.ref (k + 1) :: as)).length ≤ y.2.2.1) (hsum : (rest.map fun v => v.category).sum ≤ 8) (hrc : pj_rc h (k + 1) y.2.2.2.2.2.1 = true) (hc : pe_C y (.ref (k + 1) :: as) h r h1) : pe_E q pc ls st h o = pe_E q (pc + 3) ls (r.toList ++ rest) h1 o := by
  obtain ⟨t1, t2, t3⟩ := pe_take as (.ref (k + 1) :: rest) n hn
  subst hst
  refine pe_cl hf rfl rfl rfl rfl rfl ?_ hc
  show pj_iv q 1 _ _ _ _ = _
  simp only [pj_iv, hl, hy]
  rw [if_pos ⟨trivial, trivial, t3, hr⟩, if_neg (by first | decide | simp), t1, t2]
  simp only
  rw [if_pos ⟨hfl, hsum, fun _ => hrc, fun e => absurd e (by decide)⟩]
/-- a constructor's call -/
theorem pe_callI {idx j n ne pl pk pd k : Nat} {y : pj_M} {r : Option Value} {h1 : pj_H} (as rest : List Value) (hf : pj_find pc q.2.2.2.2.2.2 = some (.invokespecial idx, 3)) (hl : pj_lk q.2.2.2.2.2.1 idx pj_ml = some (j, n, ne, pl, 2, pk, pd)) (hy : pj_ms[j]? = some y) (hr : y.2.2.2.2.1 < q.2.2.2.2.1) (hst : st = as.reverse ++ (.ref (k + 1) :: rest)) (hn : as.length = n) (hfl : (pj_fl1 (.ref (k + 1) :: as)).length ≤ y.2.2.1) (hsum : (rest.map fun v => v.category).sum ≤ 8) (hrt : y.2.2.2.1 = none) (hc : pe_C y (.ref (k + 1) :: as) h r h1) : pe_E q pc ls st h o = pe_E q (pc + 3) ls (r.toList ++ rest) h1 o := by
  obtain ⟨t1, t2, t3⟩ := pe_take as (.ref (k + 1) :: rest) n hn
  subst hst
  refine pe_cl hf rfl rfl ?_ rfl rfl ?_ hc
  · simp only [pj_mem, pj_bs, hl]
    rfl
  show pj_iv q 2 _ _ _ _ = _
  simp only [pj_iv, hl, hy]
  rw [if_pos ⟨trivial, trivial, t3, hr⟩, if_neg (by first | decide | simp), t1, t2]
  simp only
  rw [if_pos ⟨hfl, hsum, fun e => absurd e (by decide), fun _ => hrt⟩]
end PEO
/-- a loop: each round leads to the next -/
theorem pe_rep {P : Nat → Prop} (N : Nat) (h : ∀ k, k < N → P k = P (k + 1)) : P 0 = P N := by
  induction N with
  | zero => rfl
  | succ n ih => exact (ih (fun k hk => h k (Nat.lt_succ_of_lt hk))).trans (h n (Nat.lt_succ_self n))
