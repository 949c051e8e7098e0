/-! ===== making; sizes; the theorem ===== -/
def pj_cs (q : pj_C) : Nat := match q with
  | .inl a => a.2
  | .inr o => o.2.length
def pj_sz (l : List pj_C) : Nat := (l.map pj_cs).sum
theorem pj_set_cs {l : List pj_C} {k : Nat} {q q' : pj_C} (h : l[k]? = some q) (e : pj_cs q' = pj_cs q) : (l.set k q').map pj_cs = l.map pj_cs := by
  apply List.ext_getElem?
  intro i
  rw [List.getElem?_map, List.getElem?_map]
  by_cases hi : i = k
  · subst hi
    rw [List.getElem?_set_self (List.getElem?_eq_some_iff.mp h).1, h]
    simp [e]
  · rw [List.getElem?_set_ne (Ne.symm hi)]
theorem pj_mem_shape {q : pj_M} {ins : Instr} {len : Nat} {st : List Value} {h : pj_H} {a : List Value × pj_H} (hm : pj_mem q ins len st h = some a) : a.2.1.map pj_cs = h.1.map pj_cs := by
  have al : ∀ ty, pj_al ty len st h = some a → a.2.1.map pj_cs = h.1.map pj_cs := by
    intro ty hm
    unfold pj_al at hm
    split at hm
    · split at hm
      · split at hm
        · cases hm
          rfl
        · cases hm
      · cases hm
    · cases hm
  have as : ∀ ty, pj_as ty len st h = some a → a.2.1.map pj_cs = h.1.map pj_cs := by
    intro ty hm
    unfold pj_as at hm
    split at hm
    · split at hm
      · split at hm
        · split at hm
          · split at hm
            · cases hm
              rfl
            · cases hm
          · split at hm
            · cases hm
              rfl
            · cases hm
          · cases hm
        · cases hm
      · cases hm
    · cases hm
  have bi : ∀ rk own idx, pj_bi rk own idx len st h = some a → a.2.1.map pj_cs = h.1.map pj_cs := by
    intro rk own idx hm
    unfold pj_bi at hm
    split at hm
    · split at hm
      · split at hm
        · split at hm
          · cases hm
            rfl
          · cases hm
        · cases hm
      · split at hm
        · split at hm
          · split at hm
            · split at hm
              · cases hm
                rfl
              · cases hm
            · cases hm
          · cases hm
        · split at hm
          · split at hm
            · split at hm
              · cases hm
                rfl
              · cases hm
            · cases hm
          · split at hm
            · split at hm
              · split at hm
                · cases hm
                  rfl
                · cases hm
              · cases hm
            · cases hm
    · cases hm
  unfold pj_mem at hm
  split at hm
  · unfold pj_getf at hm
    split at hm
    · split at hm
      · split at hm
        · split at hm
          · split at hm
            · cases hm
              rfl
            · cases hm
          · cases hm
        · cases hm
      · cases hm
    · cases hm
  · unfold pj_putf at hm
    split at hm
    · split at hm
      · split at hm
        · rename_i o ho
          split at hm
          · rename_i t ht
            split at hm
            · split at hm
              · rename_i h2 hp
                cases hm
                unfold pj_puth at hp
                split at hp
                · cases hp
                  rfl
                · cases hp
                  rfl
                · cases hp
                  exact pj_set_cs ho (by simp [pj_cs])
                · cases hp
              · cases hm
            · cases hm
          · cases hm
        · cases hm
      · cases hm
    · cases hm
  · exact al _ hm
  · exact al _ hm
  · exact al _ hm
  · exact as _ hm
  · exact as _ hm
  · exact as _ hm
  · unfold pj_alen at hm
    split at hm
    · split at hm
      · split at hm
        · cases hm
          rfl
        · cases hm
      · cases hm
    · cases hm
  · unfold pj_bs at hm
    split at hm
    · split at hm
      · exact bi _ _ _ hm
      · cases hm
    · cases hm
  · unfold pj_bt at hm
    split at hm
    · split at hm
      · cases hm
      · exact bi _ _ _ hm
    · cases hm
  · cases hm
theorem pj_new_inv {own : Nat} {ins : Instr} {len : Nat} {st : List Value} {h : pj_H} {a : List Value × pj_H} (hm : pj_new own ins len st h = some a) : ∃ q r, a = (.ref h.1.length :: r, pj_born h q) ∧ h.1 ≠ [] := by
  unfold pj_new at hm
  split at hm
  · split at hm
    · split at hm
      · split at hm
        · rename_i hc
          cases hm
          exact ⟨_, _, rfl, hc.2⟩
        · cases hm
      · cases hm
    · cases hm
  · split at hm
    · split at hm
      · rename_i hc
        cases hm
        exact ⟨_, _, rfl, hc.2.1⟩
      · cases hm
    · cases hm
  · cases hm
theorem pj_sz_of {l l' : List pj_C} (h : l'.map pj_cs = l.map pj_cs) : l'.length = l.length ∧ pj_sz l' = pj_sz l := by
  refine ⟨?_, by unfold pj_sz; rw [h]⟩
  have := congrArg List.length h
  simpa using this
theorem pj_sz_born (h : pj_H) (q : pj_C) : (pj_born h q).1.length = h.1.length + 1 ∧ pj_sz (pj_born h q).1 = pj_sz h.1 + pj_cs q := by
  simp [pj_born, pj_sz]
theorem pj_mono : ∀ (n : Nat) (q : pj_M) (pc : Nat) (ls : pj_L) (st : List Value) (h : pj_H) (r : Option Value) (h' : pj_H), pj_go n q pc ls st h = some (r, h') → h.1.length ≤ h'.1.length ∧ pj_sz h.1 ≤ pj_sz h'.1
  | 0, _, _, _, _, _, _, _, hgo => by cases hgo
  | n + 1, q, pc, ls, st, h, r, h', hgo => by
    unfold pj_go at hgo
    split at hgo
    · cases hgo
    · split at hgo
      · exact pj_mono n _ _ _ _ _ _ _ hgo
      · split at hgo
        · exact pj_mono n _ _ _ _ _ _ _ hgo
        · split at hgo
          · rename_i a hm
            have h1 := pj_sz_of (pj_mem_shape hm)
            have h2 := pj_mono n _ _ _ _ _ _ _ hgo
            omega
          · split at hgo
            · rename_i a hm
              obtain ⟨cq, r2, rfl, -⟩ := pj_new_inv hm
              have h1 := pj_sz_born h cq
              have h2 := pj_mono n _ _ _ _ _ _ _ hgo
              simp only at h2
              omega
            · split at hgo
              · cases hgo
                exact ⟨Nat.le_refl _, Nat.le_refl _⟩
              · split at hgo
                · split at hgo
                  · rename_i o ho
                    obtain ⟨v, h1⟩ := o
                    have a1 := pj_mono n _ _ _ _ _ _ _ ho
                    have a2 := pj_mono n _ _ _ _ _ _ _ hgo
                    simp only at a2
                    omega
                  · cases hgo
                · cases hgo
section PJN
variable {p : Program} {l : Launch} {e : Env} {R : Room} {s : State} {m : MethodId} {args : Array Value} {below : List Frame} {meth : Method} {c : Code} {H : Heap} {locs : List Loc} {cells slots : Nat} {Q : State → Prop} {T : State}
variable {cc : ByteArray} {pc : Nat} {lsA : Array Slot} {D : va_G} {g : ClassId × ClassId × ClassId} {b base L c0 : Nat} {xs : Nat → Int32}
theorem pj_size {h : pj_H} (X : Stand p l e R s m args below meth c T locs cells slots) (hT : T.heap = H) (hG : pj_G D g b base L xs h H) (hS : va_S (fun z => base ≤ z) s.heap H locs) (h0 : s.heap.size + 1 = base + c0) (h1 : 1 ≤ c0) (hcc : cells + c0 = h.1.length) : H.size + 1 = base + h.1.length := by
  have hu : T.heap.size ≤ s.heap.size + cells := X.same.2.2.1
  rw [hT] at hu
  have hlo := hS.1
  by_cases hl : h.1.length ≤ 1
  · omega
  · obtain ⟨q, hq⟩ : ∃ q, h.1[(h.1.length - 2) + 1]? = some q := ⟨h.1[(h.1.length - 2) + 1]'(by omega), List.getElem?_eq_getElem (by omega)⟩
    have := (hG.1 _ _ (pj_ws_of hq)).lt
    simp only [pj_ad] at this
    omega
theorem pj_new_W (hx : p.tables.exec = Jvm.exec) (hb : c.code = cc) {own : Nat} (hown : s.vm.findClass (pj_cn own) = some m.cls) (hts : ∀ w ∈ pj_T, w.before args s = true) (hK : va_K D vwCl (pj_tys g) s) (h0 : s.heap.size + 1 = base + c0) (h1 : 1 ≤ c0) {ins : Instr} {len : Nat} (hd : decode cc pc = .ok (ins, len)) {st : List Value} {h : pj_H} {a : List Value × pj_H} (hm : pj_new own ins len st h = some a) (hcc : cells + c0 = h.1.length) (hG : pj_G D g b base L xs h H) (hS : va_S (fun z => base ≤ z) s.heap H locs) (hcl : cells + 1 ≤ R.cells) (hsl : slots + (pj_sz a.2.1 - pj_sz h.1) ≤ R.slots)
    (k : ∀ H1, pj_G D g b base L xs a.2 H1 → va_S (fun z => base ≤ z) s.heap H1 locs → W p l e R s m args below meth c H1 locs (cells + 1) (slots + (pj_sz a.2.1 - pj_sz h.1)) Q (F0 m (pc + len) lsA (a.1.map (pj_mv (pj_ad b base))))) : W p l e R s m args below meth c H locs cells slots Q (F0 m pc lsA (st.map (pj_mv (pj_ad b base)))) := by
  intro T hT X
  have hz := pj_size X hT hG hS h0 h1 hcc
  have hl : 0 < h.1.length := by omega
  obtain ⟨j, hj⟩ : ∃ j, h.1.length = j + 1 := ⟨h.1.length - 1, by omega⟩
  have hz2 : H.size = base + j := by omega
  have had : pj_ad b base h.1.length = base + j := by rw [hj]; rfl
  have hn : h.1 ≠ [] := List.length_pos_iff.mp hl
  -- what the world is behind it
  have fin : ∀ (cq : pj_C) (H1 : Heap), (∀ z, z < base + j → H1[z]? = H[z]?) → H1.size = base + j + 1 → va_at D vwCl (base + j, pj_cell (pj_ad b base) g (pj_born h cq) h.1.length cq) H1 → pj_G D g b base L xs (pj_born h cq) H1 ∧ va_S (fun z => base ≤ z) s.heap H1 locs := by
    intro cq H1 ho hs he
    refine ⟨⟨?_, ?_, ?_⟩, ?_, fun z z1 z2 => ?_, hS.2.2⟩
    · rw [pj_ws_push (h := h) (h' := pj_born h cq) (q' := cq) hn rfl (fun i hi => ⟨by simp [pj_born, pj_row, hi], by simp [pj_born, pj_row, hi]⟩), had]
      refine (hG.1.kept (fun i x hx => ?_)).app (fun i x hx => ?_)
      · exact ho _ (by have := (hG.1 i x hx).lt; omega)
      · have hi : i < 1 := (List.getElem?_eq_some_iff.mp hx).1
        rw [show i = 0 by omega] at hx
        cases hx
        exact he
    · show (h.1 ++ [cq])[0]? = _
      rw [List.getElem?_append_left hl]
      exact hG.2.1
    · show pj_row h.2.1 h.1.length (fun _ => 0) 0 = xs
      rw [← hG.2.2]
      simp only [pj_row]
      rw [if_neg (by omega)]
    · rw [hs]
      have := hS.1
      omega
    · rw [ho z (by have := hS.1; omega)]
      exact hS.2.1 z z1 z2
  suffices hw : W p l e R s m args below meth c H locs cells slots Q (F0 m pc lsA (st.map (pj_mv (pj_ad b base)))) from hw T hT X
  unfold pj_new at hm
  split at hm
  · split at hm
    · rename_i idx _ f hf
      split at hm
      · rename_i r hr
        split at hm
        · rename_i hc
          obtain ⟨rfl, -⟩ := hc
          cases hm
          obtain ⟨C, Tf, N⟩ := r
          obtain ⟨_, _, hC⟩ := pj_cok _ _ hr
          obtain ⟨hm1, e1, e2⟩ := pj_lk_mem hf
          have hq := List.all_eq_true.mp pj_clok _ hm1
          unfold pj_LOK at hq
          simp only [e1, e2, hr] at hq
          have hKn := hK.1 f.1 _ hr
          have hb2 := (pj_sz_born h (.inr (f.1, pj_tm f.1 N))).2
          have hcs : pj_cs (.inr (f.1, pj_tm f.1 N)) = N := by simp [pj_cs, pj_tm]
          simp only [hb2, hcs, Nat.add_sub_cancel_left] at hsl k
          have hlnk : Jvm.Cond.classLink (pj_cn own) idx C ∈ pj_T := pj_chk_in hq
          have hins : Jvm.Cond.instantiable C N ∈ pj_T := pj_chk_in hC.2.2.2.1
          have hini : Jvm.Cond.initialized C ∈ pj_T := pj_chk_in hC.2.2.2.2
          have hfc : s.vm.findClass C = some (D.1 f.1) := hKn.2.1
          refine W.newcK (C := C) (n := N) hx hb hown (hts _ hlnk) (hts _ hins) (hts _ hini) rfl hd hcl hsl hfc hz2 (fun H1 kC hkC q1 q2 q3 => ?_)
          obtain ⟨g1, g2⟩ := fin (.inr (f.1, pj_tm f.1 N)) H1 q3 q2 (by
            refine ⟨_, hr, (u_born (pj_ty f.1) hts hC.1 hKn hkC q1 hC.2.1).to (fun i hi => ?_)⟩
            have hi : i < N := hi
            simp only [vp_V]
            rw [List.getD_eq_getElem?_getD, List.getElem?_map, pj_fs_at]
            have e5 : (pj_tm f.1 N)[i]? = some (defaultValue (pj_ty f.1 i)) := by
              unfold pj_tm
              rw [List.getElem?_map, List.getElem?_range hi]
              rfl
            rw [e5]
            simp only [Option.map_some, Option.getD_some]
            cases pj_ty f.1 i <;> simp [defaultValue, pj_fv, pj_mv, pj_born, pj_row])
          have k := k H1 g1 g2
          have e6 : (List.map (pj_mv (pj_ad b base)) (Value.ref h.1.length :: st)) = Value.ref (base + j) :: st.map (pj_mv (pj_ad b base)) := by
            rw [List.map_cons]
            simp only [pj_mv, had]
          rw [e6] at k
          exact k
        · cases hm
      · cases hm
    · cases hm
  · rename_i aty
    split at hm
    · rename_i ty n r hty
      split at hm
      · rename_i hc
        obtain ⟨rfl, -, hn0, hby⟩ := hc
        cases hm
        have hta : newarray.typeOf aty = ty := by
          cases aty <;> simp [pj_aty] at hty <;> (subst hty; rfl)
        have harr : Jvm.Cond.arrayClass (newarray.typeOf aty) ∈ pj_T := by
          cases aty <;> simp [pj_aty] at hty
          · exact pj_ar_boolean
          · exact pj_ar_int
          · exact pj_ar_long
        have hb2 := (pj_sz_born h (.inl (ty, n.toNatClampNeg))).2
        have hcs : pj_cs (.inl (ty, n.toNatClampNeg)) = n.toNatClampNeg := rfl
        simp only [hb2, hcs, Nat.add_sub_cancel_left] at hsl k
        refine va_newaK hx hb (hts _ harr) rfl hd rfl hn0 rfl (by rw [hta]; exact hby) hcl hsl hz2 (fun H1 cA q1 q2 q3 q4 q5 => ?_)
        have hcA : cA = pj_cA g ty := by
          rw [hta] at q5
          have h6 : ∃ i : Nat, (pj_tys g)[i]? = some (pj_cA g ty, ty) := by
            cases aty <;> simp [pj_aty] at hty <;> subst hty
            · exact ⟨2, rfl⟩
            · exact ⟨0, rfl⟩
            · exact ⟨1, rfl⟩
          obtain ⟨i, hi⟩ := h6
          have h7 := (hK.2 i _ hi).2
          have h8 : s.vm.findClass ("[" ++ ty.toString) = some (pj_cA g ty) := by
            cases aty <;> simp [pj_aty] at hty <;> subst hty <;> exact h7
          exact Option.some.inj (q5.symm.trans h8)
        obtain ⟨g1, g2⟩ := fin (.inl (ty, n.toNatClampNeg)) H1 q3 q2 (by
          show H1[base + j]? = some (vp_cell _ _)
          rw [q1, hta, hcA]
          congr 1
          cases aty <;> simp [pj_aty] at hty <;> subst hty <;> simp [pj_arr, pj_born, pj_row, vp_cell_i, vp_cell_l, defaultValue])
        have k := k H1 g1 g2
        have e6 : (List.map (pj_mv (pj_ad b base)) (Value.ref h.1.length :: r)) = Value.ref (base + j) :: r.map (pj_mv (pj_ad b base)) := by
          rw [List.map_cons]
          simp only [pj_mv, had]
        rw [e6] at k
        exact k
      · cases hm
    · cases hm
  · cases hm
end PJN
