/-! ===== arrays, what is known without bytecode, making ===== -/
theorem pj_nar01 {x : Int32} (h : x = 0 ∨ x = 1) : vp_nar .boolean x = x := by
  rcases h with rfl | rfl <;> rfl
theorem pj_set_ws {g : ClassId × ClassId × ClassId} {ad : Nat → Nat} {h h' : pj_H} {k : Nat} {q : pj_C} (ho : h.1[k + 1]? = some q) (h1 : h'.1 = h.1) (h2 : ∀ i, i ≠ k + 1 → h'.2.1 i = h.2.1 i ∧ h'.2.2 i = h.2.2 i) : pj_ws ad g h' = (pj_ws ad g h).set k (ad (k + 1), pj_cell ad g h' (k + 1) q) :=
  pj_ws_set (List.getElem?_eq_some_iff.mp ho).1 (h1.trans (pj_same ho).symm) h2
section PJA
variable {p : Program} {l : Launch} {e : Env} {R : Room} {s : State} {m : MethodId} {args : Array Value} {below : List Frame} {meth : Method} {c : Code} {H : Heap} {locs : List Loc} {cells slots : Nat} {Q : State → Prop}
variable {cc : ByteArray} {pc : Nat} {lsA : Array Slot} {D : va_G} {g : ClassId × ClassId × ClassId} {b base L : Nat} {xs : Nat → Int32}
theorem pj_al_W (hx : p.tables.exec = Jvm.exec) (hb : c.code = cc) (hK : va_K D vwCl (pj_tys g) s) (hX : va_X b L xs s s.heap) (hbb : b < base) (hbs : base ≤ s.heap.size) {ty : FieldType} {ins : Instr} (hi : (ty = .int ∧ ins = .iaload) ∨ (ty = .long ∧ ins = .laload) ∨ (ty = .boolean ∧ ins = .baload)) {len : Nat} (hd : decode cc pc = .ok (ins, len)) {st : List Value} {h : pj_H} {a : List Value × pj_H} (hm : pj_al ty len st h = some a) (hG : pj_G D g b base L xs h H) (hS : va_S (fun z => base ≤ z) s.heap H locs)
    (k : a.2 = h → W p l e R s m args below meth c H locs cells slots Q (F0 m (pc + len) lsA (a.1.map (pj_mv (pj_ad b base))))) : W p l e R s m args below meth c H locs cells slots Q (F0 m pc lsA (st.map (pj_mv (pj_ad b base)))) := by
  unfold pj_al at hm
  split at hm
  · rename_i i k0 r
    split at hm
    · rename_i q hq
      split at hm
      · rename_i hc
        obtain ⟨rfl, hty, h0, hin⟩ := hc
        cases hm
        obtain ⟨t, n⟩ := q
        simp only at hty hin
        subst hty
        have k := k rfl
        cases k0 with
        | zero =>
          rw [hG.2.1] at hq
          cases hq
          rcases hi with ⟨-, rfl⟩ | ⟨h9, -⟩ | ⟨h9, -⟩
          · refine va_sld hx hb hX (Nat.lt_of_lt_of_le hbb hbs) (fun z => absurd hbb (Nat.not_lt.mpr z)) hS hin hd ?_
            rw [← hG.2.2]
            exact k
          · cases h9
          · cases h9
        | succ k1 =>
          rcases hi with ⟨rfl, rfl⟩ | ⟨rfl, rfl⟩ | ⟨rfl, rfl⟩
          · exact va_iald hx hb hK hG.1 k1 0 (pj_ws_of hq) rfl hin hd k
          · exact va_lald hx hb hK hG.1 k1 1 (pj_ws_of hq) rfl hin hd k
          · exact va_zald hx hb hK hG.1 k1 2 (pj_ws_of hq) rfl hin hd k
      · cases hm
    · cases hm
  · cases hm
theorem pj_as_W (hx : p.tables.exec = Jvm.exec) (hb : c.code = cc) (hK : va_K D vwCl (pj_tys g) s) {ty : FieldType} {ins : Instr} (hi : (ty = .int ∧ ins = .iastore) ∨ (ty = .long ∧ ins = .lastore) ∨ (ty = .boolean ∧ ins = .bastore)) {len : Nat} (hd : decode cc pc = .ok (ins, len)) {st : List Value} {h : pj_H} {a : List Value × pj_H} (hm : pj_as ty len st h = some a) (hG : pj_G D g b base L xs h H) (hS : va_S (fun z => base ≤ z) s.heap H locs)
    (k : ∀ H1 locs1, pj_G D g b base L xs a.2 H1 → va_S (fun z => base ≤ z) s.heap H1 locs1 → W p l e R s m args below meth c H1 locs1 cells slots Q (F0 m (pc + len) lsA (a.1.map (pj_mv (pj_ad b base))))) : W p l e R s m args below meth c H locs cells slots Q (F0 m pc lsA (st.map (pj_mv (pj_ad b base)))) := by
  unfold pj_as at hm
  split at hm
  · rename_i v i k0 r
    split at hm
    · rename_i q hq
      split at hm
      · rename_i hc
        obtain ⟨rfl, hty, hin⟩ := hc
        obtain ⟨t, n⟩ := q
        simp only at hty hin
        subst hty
        split at hm
        · rename_i x
          split at hm
          · rename_i ht
            cases hm
            have ew : pj_ws (pj_ad b base) g (h.1, pj_up h.2.1 (k0 + 1) i.toNatClampNeg x, h.2.2) = _ := pj_set_ws hq rfl (fun j hj => ⟨by simp [pj_up, hj], rfl⟩)
            rcases ht with rfl | ⟨rfl, hx01⟩
            · rcases hi with ⟨-, rfl⟩ | ⟨h9, -⟩ | ⟨h9, -⟩
              · refine va_iast hx hb hK hG.1 (pj_D g b base h) hS k0 0 (pj_ws_of hq) rfl hin hd (fun H1 locs1 hP1 _ hS1 => k H1 locs1 ⟨?_, hG.2.1, by simpa [pj_up] using hG.2.2⟩ hS1)
                rw [ew]
                simpa [pj_cell, pj_arr, pj_up] using hP1
              · cases h9
              · cases h9
            · rcases hi with ⟨h9, -⟩ | ⟨h9, -⟩ | ⟨-, rfl⟩
              · cases h9
              · cases h9
              · refine va_zast hx hb hK hG.1 (pj_D g b base h) hS k0 2 (pj_ws_of hq) rfl hin hd (fun H1 locs1 hP1 _ hS1 => k H1 locs1 ⟨?_, hG.2.1, by simpa [pj_up] using hG.2.2⟩ hS1)
                rw [ew]
                rw [pj_nar01 hx01] at hP1
                simpa [pj_cell, pj_arr, pj_up] using hP1
          · cases hm
        · rename_i x
          split at hm
          · rename_i ht
            cases hm
            subst ht
            have ew : pj_ws (pj_ad b base) g (h.1, h.2.1, pj_uL h.2.2 (k0 + 1) i.toNatClampNeg x) = _ := pj_set_ws hq rfl (fun j hj => ⟨rfl, by simp [pj_uL, hj]⟩)
            rcases hi with ⟨h9, -⟩ | ⟨-, rfl⟩ | ⟨h9, -⟩
            · cases h9
            · refine va_last hx hb hK hG.1 (pj_D g b base h) hS k0 1 (pj_ws_of hq) rfl hin hd (fun H1 locs1 hP1 _ hS1 => k H1 locs1 ⟨?_, hG.2.1, hG.2.2⟩ hS1)
              rw [ew]
              simpa [pj_cell, pj_arr, pj_uL] using hP1
            · cases h9
          · cases hm
        · cases hm
      · cases hm
    · cases hm
  · cases hm
theorem pj_alen_W (hx : p.tables.exec = Jvm.exec) (hb : c.code = cc) (hK : va_K D vwCl (pj_tys g) s) (hX : va_X b L xs s s.heap) (hbb : b < base) (hbs : base ≤ s.heap.size) {len : Nat} (hd : decode cc pc = .ok (.arraylength, len)) {st : List Value} {h : pj_H} {a : List Value × pj_H} (hm : pj_alen len st h = some a) (hG : pj_G D g b base L xs h H) (hS : va_S (fun z => base ≤ z) s.heap H locs)
    (k : a.2 = h → W p l e R s m args below meth c H locs cells slots Q (F0 m (pc + len) lsA (a.1.map (pj_mv (pj_ad b base))))) : W p l e R s m args below meth c H locs cells slots Q (F0 m pc lsA (st.map (pj_mv (pj_ad b base)))) := by
  unfold pj_alen at hm
  split at hm
  · rename_i k0 r
    split at hm
    · rename_i q hq
      split at hm
      · rename_i hc
        subst hc
        cases hm
        have k := k rfl
        cases k0 with
        | zero =>
          rw [hG.2.1] at hq
          cases hq
          exact va_slen hx hb hX (Nat.lt_of_lt_of_le hbb hbs) (fun z => absurd hbb (Nat.not_lt.mpr z)) hS hd k
        | succ k1 =>
          obtain ⟨t, n⟩ := q
          have hn : (pj_arr h (k1 + 1) t n).1 = n := by cases t <;> rfl
          cases t
          case int => exact va_alen hx hb hK hG.1 k1 0 (pj_ws_of hq) rfl rfl hd k
          case long => exact va_alen hx hb hK hG.1 k1 1 (pj_ws_of hq) rfl rfl hd k
          all_goals exact va_alen hx hb hK hG.1 k1 2 (pj_ws_of hq) rfl rfl hd k
      · cases hm
    · cases hm
  · cases hm
theorem pj_ml_bi {own idx : Nat} {f : Nat × Nat × Nat × Nat × Nat × Nat × Nat} (h : pj_lk own idx pj_ml = some f) :
    (f.2.2.2.2.1 = 3 → Jvm.Cond.methodLink (pj_cn own) idx objectInit ∈ pj_T) ∧ (f.2.2.2.2.1 = 4 → Jvm.Cond.methodLink (pj_cn own) idx arraycopyName ∈ pj_T) ∧ (f.2.2.2.2.1 = 5 → Jvm.Cond.methodLink (pj_cn own) idx Lib.Math.max.name ∈ pj_T) ∧ (f.2.2.2.2.1 = 6 → Jvm.Cond.methodLink (pj_cn own) idx Lib.Math.min.name ∈ pj_T) := by
  obtain ⟨hm, h1, h2⟩ := pj_lk_mem h
  have hq := List.all_eq_true.mp pj_mlok _ hm
  unfold pj_KOK at hq
  simp only [h1, h2] at hq
  refine ⟨fun e => ?_, fun e => ?_, fun e => ?_, fun e => ?_⟩
  · rw [if_pos e, Bool.and_eq_true] at hq
    exact pj_chk_in hq.2
  · rw [if_neg (by omega), if_pos e, Bool.and_eq_true] at hq
    exact pj_chk_in hq.2
  · rw [if_neg (by omega), if_neg (by omega), if_pos e, Bool.and_eq_true] at hq
    exact pj_chk_in hq.2
  · rw [if_neg (by omega), if_neg (by omega), if_neg (by omega), if_pos e, Bool.and_eq_true] at hq
    exact pj_chk_in hq.2
theorem pj_bi_W (hx : p.tables.exec = Jvm.exec) (hb : c.code = cc) {own : Nat} (hown : s.vm.findClass (pj_cn own) = some m.cls) (hts : ∀ w ∈ pj_T, w.before args s = true) (hK : va_K D vwCl (pj_tys g) s) (hml : c.maxLocals = lsA.size) {rk : Nat} (hrk : rk ≤ R.frames) (hlo : 36 * rk ≤ R.locals) (hcl : cells ≤ R.cells) (hsl : slots ≤ R.slots) {idx len : Nat} {ins : Instr} (hins : ins = .invokespecial idx ∨ ins = .invokestatic idx) (hd : decode cc pc = .ok (ins, len)) {st : List Value} {h : pj_H} {a : List Value × pj_H}
    (hm : pj_bi rk own idx len st h = some a) (hk3 : ∀ f, pj_lk own idx pj_ml = some f → (f.2.2.2.2.1 = 3 ↔ ins = .invokespecial idx)) (hG : pj_G D g b base L xs h H) (hS : va_S (fun z => base ≤ z) s.heap H locs)
    (k : ∀ H1 locs1, pj_G D g b base L xs a.2 H1 → va_S (fun z => base ≤ z) s.heap H1 locs1 → W p l e R s m args below meth c H1 locs1 cells slots Q (F0 m (pc + len) lsA (a.1.map (pj_mv (pj_ad b base))))) : W p l e R s m args below meth c H locs cells slots Q (F0 m pc lsA (st.map (pj_mv (pj_ad b base)))) := by
  unfold pj_bi at hm
  split at hm
  · rename_i f hf
    obtain ⟨hl3, hl4, hl5, hl6⟩ := pj_ml_bi hf
    have hi3 := hk3 f hf
    split at hm
    · rename_i e3
      have hin := hi3.mp e3
      subst hin
      split at hm
      · rename_i k0 r
        split at hm
        · rename_i hc
          obtain ⟨rfl, h1, h2⟩ := hc
          cases hm
          refine W.objInit hx hb hown (hts _ (hl3 e3)) (hts _ pj_oi1) (hts _ pj_oi2) rfl (by rw [hml]) rfl hd (by omega) ?_ (k H locs hG hS)
          show 2 * 0 + _ + 12 ≤ _
          have := pj_mv_sum (pj_ad b base) r
          omega
        · cases hm
      · cases hm
    · rename_i n3
      have hin : ins = .invokestatic idx := by
        rcases hins with h | h
        · exact absurd (hi3.mpr h) n3
        · exact h
      subst hin
      split at hm
      · rename_i e4
        split at hm
        · rename_i n dp d sp so r
          split at hm
          · rename_i qa qb ha hb'
            split at hm
            · rename_i hc
              obtain ⟨rfl, h1, h2, h3, h4, h5, h6, h7, h8, h9⟩ := hc
              cases hm
              obtain ⟨t1, n1⟩ := qa
              obtain ⟨t2, n2⟩ := qb
              simp only at h3 h4 h8 h9
              subst h3
              subst h4
              refine va_copyi hx hb hml hown (hts _ (hl4 e4)) (hts _ pj_ac1) (hts _ pj_ac2) (hts _ pj_ac3) hK hG.1 (pj_D g b base h) hS so d 0 0 (pj_ws_of ha) (pj_ws_of hb') rfl rfl rfl h5 h6 h7 h8 h9 (fun i _ => rfl) (by omega) ?_ hd (fun H1 locs1 hP1 _ hS1 => k H1 locs1 ⟨?_, hG.2.1, by simpa [pj_row] using hG.2.2⟩ hS1)
              · have := pj_mv_sum (pj_ad b base) r
                have e7 : nativeFrameWords "java/lang/System" "arraycopy" 5 = 7 := by decide +kernel
                rw [e7]
                omega
              · have ew : pj_ws (pj_ad b base) g (h.1, pj_row h.2.1 (d + 1) (va_cpy (h.2.1 (so + 1)) (h.2.1 (d + 1)) sp.toNatClampNeg dp.toNatClampNeg n.toNatClampNeg), h.2.2) = _ := pj_set_ws hb' rfl (fun j hj => ⟨by simp [pj_row, hj], rfl⟩)
                rw [ew]
                simpa [pj_cell, pj_arr, pj_row] using hP1
            · cases hm
          · cases hm
        · cases hm
      · split at hm
        · rename_i e5
          split at hm
          · rename_i y x r
            split at hm
            · rename_i hc
              obtain ⟨rfl, h1, h2⟩ := hc
              cases hm
              refine va_mmax hx hb hml hown (hts _ (hl5 e5)) (hts _ pj_mmax1) (hts _ pj_ma3) (hts _ pj_mmax2) (by omega) ?_ hcl hsl hd (k H locs hG hS)
              have := pj_mv_sum (pj_ad b base) r
              omega
            · cases hm
          · cases hm
        · split at hm
          · rename_i e6
            split at hm
            · rename_i y x r
              split at hm
              · rename_i hc
                obtain ⟨rfl, h1, h2⟩ := hc
                cases hm
                refine va_mmin hx hb hml hown (hts _ (hl6 e6)) (hts _ pj_mmin1) (hts _ pj_ma3) (hts _ pj_mmin2) (by omega) ?_ hcl hsl hd (k H locs hG hS)
                have := pj_mv_sum (pj_ad b base) r
                omega
              · cases hm
            · cases hm
          · cases hm
  · cases hm
end PJA
