/-! ===== the heap: logical cells in a row behind the script's heap ===== -/
def pj_ad (b base : Nat) (k : Nat) : Nat := match k with
  | 0 => b
  | j + 1 => base + j
def pj_cA (g : ClassId × ClassId × ClassId) (t : FieldType) : ClassId := match t with
  | .int => g.1
  | .long => g.2.1
  | _ => g.2.2
def pj_arr (h : pj_H) (k : Nat) (t : FieldType) (n : Nat) : vp_A := match t with
  | .long => (n, .inr (.inl (h.2.2 k)))
  | _ => (n, .inl (h.2.1 k))
def pj_cell (ad : Nat → Nat) (g : ClassId × ClassId × ClassId) (h : pj_H) (k : Nat) (q : pj_C) : va_E := match q with
  | .inl a => .inl (pj_cA g a.1, pj_arr h k a.1 a.2)
  | .inr o => .inr (o.1, (pj_fs h k o.2).map (pj_mv ad))
def pj_ws (ad : Nat → Nat) (g : ClassId × ClassId × ClassId) (h : pj_H) : va_W := (h.1.mapIdx (fun k q => (ad k, pj_cell ad g h k q))).tail
def pj_tys (g : ClassId × ClassId × ClassId) : List (ClassId × FieldType) := [(g.1, .int), (g.2.1, .long), (g.2.2, .boolean)]
section PJH
variable {ad : Nat → Nat} {g : ClassId × ClassId × ClassId}
theorem pj_ws_at (ad : Nat → Nat) (g : ClassId × ClassId × ClassId) (h : pj_H) (k : Nat) : (pj_ws ad g h)[k]? = (h.1[k + 1]?).map (fun q => (ad (k + 1), pj_cell ad g h (k + 1) q)) := by
  unfold pj_ws
  rw [List.getElem?_tail, List.getElem?_mapIdx]
theorem pj_ws_of {h : pj_H} {k : Nat} {q : pj_C} (hq : h.1[k + 1]? = some q) : (pj_ws ad g h)[k]? = some (ad (k + 1), pj_cell ad g h (k + 1) q) := by
  rw [pj_ws_at, hq]
  rfl
theorem pj_ws_len (h : pj_H) : (pj_ws ad g h).length = h.1.length - 1 := by simp [pj_ws]
theorem pj_cell_congr {h h' : pj_H} {k : Nat} (h1 : h'.2.1 k = h.2.1 k) (h2 : h'.2.2 k = h.2.2 k) (q : pj_C) : pj_cell ad g h' k q = pj_cell ad g h k q := by
  cases q with
  | inl a => simp only [pj_cell, pj_arr, h1, h2]
  | inr o => simp only [pj_cell, pj_fs, pj_fv, h1, h2]
theorem pj_ws_set {h h' : pj_H} {k : Nat} {q' : pj_C} (hk : k + 1 < h.1.length) (h1 : h'.1 = h.1.set (k + 1) q') (h2 : ∀ i, i ≠ k + 1 → h'.2.1 i = h.2.1 i ∧ h'.2.2 i = h.2.2 i) : pj_ws ad g h' = (pj_ws ad g h).set k (ad (k + 1), pj_cell ad g h' (k + 1) q') := by
  apply List.ext_getElem?
  intro i
  rw [pj_ws_at, h1]
  by_cases e : i = k
  · subst e
    rw [List.getElem?_set_self hk, List.getElem?_set_self (by rw [pj_ws_len]; omega)]
    rfl
  · rw [List.getElem?_set_ne (by omega), List.getElem?_set_ne (Ne.symm e), pj_ws_at]
    cases h.1[i + 1]? with
    | none => rfl
    | some q =>
      simp only [Option.map_some]
      rw [pj_cell_congr (h2 (i + 1) (by omega)).1 (h2 (i + 1) (by omega)).2]
theorem pj_ws_push {h h' : pj_H} {q' : pj_C} (hn : h.1 ≠ []) (h1 : h'.1 = h.1 ++ [q']) (h2 : ∀ i, i ≠ h.1.length → h'.2.1 i = h.2.1 i ∧ h'.2.2 i = h.2.2 i) : pj_ws ad g h' = pj_ws ad g h ++ [(ad h.1.length, pj_cell ad g h' h.1.length q')] := by
  have hl : 0 < h.1.length := List.length_pos_iff.mpr hn
  apply List.ext_getElem?
  intro i
  rw [pj_ws_at, h1]
  by_cases e : i + 1 < h.1.length
  · rw [List.getElem?_append_left e, List.getElem?_append_left (by rw [pj_ws_len]; omega), pj_ws_at]
    cases h.1[i + 1]? with
    | none => rfl
    | some q =>
      simp only [Option.map_some]
      rw [pj_cell_congr (h2 (i + 1) (by omega)).1 (h2 (i + 1) (by omega)).2]
  · by_cases e2 : i + 1 = h.1.length
    · rw [e2, List.getElem?_append_right (Nat.le_refl _), List.getElem?_append_right (by rw [pj_ws_len]; omega), pj_ws_len, show i - (h.1.length - 1) = 0 by omega, Nat.sub_self]
      rfl
    · rw [List.getElem?_eq_none (by rw [List.length_append, List.length_singleton]; omega), List.getElem?_eq_none (by rw [List.length_append, List.length_singleton, pj_ws_len]; omega)]
      rfl
theorem pj_same {h : pj_H} {k : Nat} {q : pj_C} (hq : h.1[k]? = some q) : h.1.set k q = h.1 := by
  obtain ⟨hl, e⟩ := List.getElem?_eq_some_iff.mp hq
  rw [← e]
  exact List.set_getElem_self hl
theorem pj_fs_at (h : pj_H) (k j : Nat) (fs : List Value) : (pj_fs h k fs)[j]? = (fs[j]?).map (fun v => pj_fv h k j v) := by
  unfold pj_fs
  rw [List.getElem?_mapIdx]
theorem pj_puth_ws {h h2 : pj_H} {k j ci : Nat} {fs : List Value} {t v : Value} (hp : pj_puth h (k + 1) j ci fs t v = some h2) (ho : h.1[k + 1]? = some (.inr (ci, fs))) (ht : fs[j]? = some t) : pj_ws ad g h2 = (pj_ws ad g h).set k (ad (k + 1), .inr (ci, ((pj_fs h (k + 1) fs).map (pj_mv ad)).set j (pj_mv ad v))) := by
  have hk : k + 1 < h.1.length := (List.getElem?_eq_some_iff.mp ho).1
  have hj : j < fs.length := (List.getElem?_eq_some_iff.mp ht).1
  unfold pj_puth at hp
  split at hp
  · rename_i y x
    cases hp
    rw [pj_ws_set (h := h) (h' := (h.1, pj_up h.2.1 (k + 1) j x, h.2.2)) (q' := .inr (ci, fs)) hk (pj_same ho).symm (fun i hi => ⟨by simp [pj_up, hi], rfl⟩)]
    congr 3
    show Sum.inr (ci, _) = _
    congr 2
    apply List.ext_getElem?
    intro i
    rw [List.getElem?_map, pj_fs_at]
    by_cases e : i = j
    · subst e
      rw [List.getElem?_set_self (by rw [List.length_map]; unfold pj_fs; rw [List.length_mapIdx]; exact hj), ht]
      simp [pj_fv, pj_up, upd, pj_mv]
    · rw [List.getElem?_set_ne (Ne.symm e), List.getElem?_map, pj_fs_at]
      cases fs[i]? with
      | none => rfl
      | some w =>
        simp only [Option.map_some]
        congr 2
        cases w <;> simp [pj_fv, pj_up, upd, e]
  · rename_i y x
    cases hp
    rw [pj_ws_set (h := h) (h' := (h.1, h.2.1, pj_uL h.2.2 (k + 1) j x)) (q' := .inr (ci, fs)) hk (pj_same ho).symm (fun i hi => ⟨rfl, by simp [pj_uL, hi]⟩)]
    congr 3
    show Sum.inr (ci, _) = _
    congr 2
    apply List.ext_getElem?
    intro i
    rw [List.getElem?_map, pj_fs_at]
    by_cases e : i = j
    · subst e
      rw [List.getElem?_set_self (by rw [List.length_map]; unfold pj_fs; rw [List.length_mapIdx]; exact hj), ht]
      simp [pj_fv, pj_uL, vp_updL, pj_mv]
    · rw [List.getElem?_set_ne (Ne.symm e), List.getElem?_map, pj_fs_at]
      cases fs[i]? with
      | none => rfl
      | some w =>
        simp only [Option.map_some]
        congr 2
        cases w <;> simp [pj_fv, pj_uL, vp_updL, e]
  · rename_i a
    cases hp
    rw [pj_ws_set (h := h) (h' := (h.1.set (k + 1) (.inr (ci, fs.set j (.ref a))), h.2.1, h.2.2)) (q' := .inr (ci, fs.set j (.ref a))) hk rfl (fun i hi => ⟨rfl, rfl⟩)]
    congr 3
    show Sum.inr (ci, _) = _
    congr 2
    apply List.ext_getElem?
    intro i
    rw [List.getElem?_map, pj_fs_at]
    by_cases e : i = j
    · subst e
      rw [List.getElem?_set_self hj, List.getElem?_set_self (by rw [List.length_map]; unfold pj_fs; rw [List.length_mapIdx]; exact hj)]
      rfl
    · rw [List.getElem?_set_ne (Ne.symm e), List.getElem?_set_ne (Ne.symm e), List.getElem?_map, pj_fs_at]
      rfl
  · cases hp
theorem pj_puth_0 {h h2 : pj_H} {k j ci : Nat} {fs : List Value} {t v : Value} (hp : pj_puth h (k + 1) j ci fs t v = some h2) : h2.1[0]? = h.1[0]? ∧ h2.2.1 0 = h.2.1 0 := by
  unfold pj_puth at hp
  split at hp
  · cases hp
    exact ⟨rfl, by simp [pj_up]⟩
  · cases hp
    exact ⟨rfl, rfl⟩
  · cases hp
    exact ⟨by simp, rfl⟩
  · cases hp
end PJH
def pj_G (D : va_G) (g : ClassId × ClassId × ClassId) (b base L : Nat) (xs : Nat → Int32) (h : pj_H) (H : Heap) : Prop := va_P D vwCl (pj_ws (pj_ad b base) g h) H ∧ h.1[0]? = some (.inl (.int, L)) ∧ h.2.1 0 = xs
theorem pj_D (g : ClassId × ClassId × ClassId) (b base : Nat) (h : pj_H) : va_D (fun z => base ≤ z) (pj_ws (pj_ad b base) g h) := by
  refine ⟨fun i j p q hi hj e => ?_, fun k q hk => ?_⟩
  · rw [pj_ws_at] at hi hj
    obtain ⟨a, -, rfl⟩ := Option.map_eq_some_iff.mp hi
    obtain ⟨a', -, rfl⟩ := Option.map_eq_some_iff.mp hj
    simp only [pj_ad] at e
    omega
  · rw [pj_ws_at] at hk
    obtain ⟨a, -, rfl⟩ := Option.map_eq_some_iff.mp hk
    simp only [pj_ad]
    omega
theorem pj_fl_spec {own idx : Nat} {f : Nat × Nat × Nat × Nat} (h : pj_lk own idx pj_fl = some f) : ∃ (C : String) (T : u_T) (N : Nat), vwCl[f.1]? = some (C, T, N) ∧ f.2.1 < N ∧ ((f.2.2.1 = 0 ∧ Jvm.Cond.fieldLink (pj_cn own) idx (T f.2.1).1 (T f.2.1).2.1 (T f.2.1).2.2.1 ∈ pj_T) ∨ (¬ f.2.2.1 = 0 ∧ Jvm.Cond.fieldLinkNest (pj_cn own) idx (T f.2.1).1 (T f.2.1).2.1 (T f.2.1).2.2.1 "StencilWall" ∈ pj_N)) := by
  obtain ⟨hm, h1, h2⟩ := pj_lk_mem h
  have hq := List.all_eq_true.mp pj_flok _ hm
  unfold pj_FOK at hq
  simp only [h1, h2] at hq
  split at hq
  · cases hq
  · rename_i r hr
    obtain ⟨C, T, N⟩ := r
    rw [Bool.and_eq_true, decide_eq_true_eq] at hq
    refine ⟨C, T, N, hr, hq.1, ?_⟩
    have h3 := hq.2
    split at h3
    · rename_i e
      exact Or.inl ⟨e, pj_chk_in h3⟩
    · rename_i e
      exact Or.inr ⟨e, pj_chkN_in h3⟩
theorem pj_narrow_mv {ad : Nat → Nat} {ty : FieldType} {v : Value} (h : narrow ty v = v) : narrow ty (pj_mv ad v) = pj_mv ad v := by
  cases v <;> first | exact h | (cases ty <;> rfl)
theorem pj_fits_mv {ad : Nat → Nat} {ty : FieldType} {v : Value} (h : fits ty v = true) : fits ty (pj_mv ad v) = true := by
  cases v <;> first | exact h | (cases ty <;> first | rfl | exact h)
section PJM
variable {p : Program} {l : Launch} {e : Env} {R : Room} {s : State} {m : MethodId} {args : Array Value} {below : List Frame} {meth : Method} {c : Code} {H : Heap} {locs : List Loc} {cells slots : Nat} {Q : State → Prop}
variable {cc : ByteArray} {pc : Nat} {lsA : Array Slot} {D : va_G} {g : ClassId × ClassId × ClassId} {b base L : Nat} {xs : Nat → Int32}
theorem pj_getf_W (hx : p.tables.exec = Jvm.exec) (hb : c.code = cc) {own : Nat} (hown : s.vm.findClass (pj_cn own) = some m.cls) (hts : ∀ w ∈ pj_T, w.before args s = true) (hN : ∀ w ∈ pj_N, va_Nw w s) (hK : va_K D vwCl (pj_tys g) s) {idx len : Nat} (hd : decode cc pc = .ok (.getfield idx, len)) {st : List Value} {h : pj_H} {a : List Value × pj_H} (hm : pj_getf own idx len st h = some a) (hG : pj_G D g b base L xs h H)
    (k : a.2 = h → W p l e R s m args below meth c H locs cells slots Q (F0 m (pc + len) lsA (a.1.map (pj_mv (pj_ad b base))))) : W p l e R s m args below meth c H locs cells slots Q (F0 m pc lsA (st.map (pj_mv (pj_ad b base)))) := by
  unfold pj_getf at hm
  split at hm
  · rename_i k0 r
    split at hm
    · rename_i f hf
      split at hm
      · rename_i o ho
        split at hm
        · rename_i t ht
          split at hm
          · rename_i hc
            obtain ⟨rfl, hci⟩ := hc
            cases hm
            obtain ⟨C, T, N, hcl, hlt, hlk⟩ := pj_fl_spec hf
            obtain ⟨ci, fs⟩ := o
            simp only at hci ht
            subst hci
            obtain ⟨_, _, hC⟩ := pj_cok _ _ hcl
            have hv : ((pj_fs h (k0 + 1) fs).map (pj_mv (pj_ad b base)))[f.2.1]? = some (pj_mv (pj_ad b base) (pj_fv h (k0 + 1) f.2.1 t)) := by
              rw [List.getElem?_map, pj_fs_at, ht]
              rfl
            rcases hlk with ⟨-, hlk⟩ | ⟨-, hlk⟩
            · exact va_get hx hb hts hC.1 hown hK hG.1 k0 (pj_ws_of ho) hcl f.2.1 hlt (hts _ hlk) (fun _ z => z) hv hd (k rfl)
            · exact va_getN hx hb hts hC.1 hown hK hG.1 k0 (pj_ws_of ho) hcl f.2.1 hlt (va_Nw.use rfl (hN _ hlk)) (fun _ z => z) hv hd (k rfl)
          · cases hm
        · cases hm
      · cases hm
    · cases hm
  · cases hm
theorem pj_putf_W (hx : p.tables.exec = Jvm.exec) (hb : c.code = cc) {own : Nat} {nm : String} (hnm : nm = "<init>" → meth.name = "<init>") (hown : s.vm.findClass (pj_cn own) = some m.cls) (hts : ∀ w ∈ pj_T, w.before args s = true) (hN : ∀ w ∈ pj_N, va_Nw w s) (hK : va_K D vwCl (pj_tys g) s) {idx len : Nat} (hd : decode cc pc = .ok (.putfield idx, len)) {st : List Value} {h : pj_H} {a : List Value × pj_H} (hm : pj_putf own nm idx len st h = some a) (hG : pj_G D g b base L xs h H) (hS : va_S (fun z => base ≤ z) s.heap H locs)
    (k : ∀ H1 locs1, pj_G D g b base L xs a.2 H1 → va_S (fun z => base ≤ z) s.heap H1 locs1 → W p l e R s m args below meth c H1 locs1 cells slots Q (F0 m (pc + len) lsA (a.1.map (pj_mv (pj_ad b base))))) : W p l e R s m args below meth c H locs cells slots Q (F0 m pc lsA (st.map (pj_mv (pj_ad b base)))) := by
  unfold pj_putf at hm
  split at hm
  · rename_i v k0 r
    split at hm
    · rename_i f hf
      split at hm
      · rename_i o ho
        split at hm
        · rename_i t ht
          split at hm
          · rename_i hc
            obtain ⟨rfl, hci, hfit, hnar, hfin⟩ := hc
            split at hm
            · rename_i h2 hp
              cases hm
              obtain ⟨C, T, N, hcl, hlt, hlk⟩ := pj_fl_spec hf
              obtain ⟨ci, fs⟩ := o
              simp only at hci ht hp
              subst hci
              obtain ⟨_, _, hC⟩ := pj_cok _ _ hcl
              have hl : f.2.1 < ((pj_fs h (k0 + 1) fs).map (pj_mv (pj_ad b base))).length := by
                rw [List.length_map]
                unfold pj_fs
                rw [List.length_mapIdx]
                exact (List.getElem?_eq_some_iff.mp ht).1
              have hz := pj_puth_0 hp
              have kk : ∀ (H1 : Heap) (locs1 : List Loc), va_P D vwCl ((pj_ws (pj_ad b base) g h).set k0 (pj_ad b base (k0 + 1), .inr (f.1, ((pj_fs h (k0 + 1) fs).map (pj_mv (pj_ad b base))).set f.2.1 (pj_mv (pj_ad b base) v)))) H1 → va_D (fun z => base ≤ z) ((pj_ws (pj_ad b base) g h).set k0 (pj_ad b base (k0 + 1), .inr (f.1, ((pj_fs h (k0 + 1) fs).map (pj_mv (pj_ad b base))).set f.2.1 (pj_mv (pj_ad b base) v)))) → va_S (fun z => base ≤ z) s.heap H1 locs1 → W p l e R s m args below meth c H1 locs1 cells slots Q (F0 m (pc + 3) lsA (r.map (pj_mv (pj_ad b base)))) := by
                intro H1 locs1 hP1 _ hS1
                refine k H1 locs1 ⟨?_, hz.1.trans hG.2.1, hz.2.trans hG.2.2⟩ hS1
                rw [pj_puth_ws hp ho ht]
                exact hP1
              have hT : (pj_fin f.1 f.2.1 = (T f.2.1).2.2.2) ∧ (pj_decl f.1 f.2.1 = (T f.2.1).1) := by
                unfold pj_fin pj_decl
                rw [hcl]
                exact ⟨rfl, rfl⟩
              by_cases hF : pj_fin f.1 f.2.1 = true
              · obtain ⟨h5, h6, h7⟩ := hfin hF
                rcases hlk with ⟨-, hlk⟩ | ⟨h8, -⟩
                · exact va_putF hx hb hts hC.1 (pj_ty f.1) hC.2.1 hC.2.2.1 hown hK hG.1 (pj_D g b base h) hS k0 (pj_ws_of ho) hcl f.2.1 hlt (hts _ hlk) (fun _ z => z) (hT.1 ▸ hF) (hnm h5) (hT.2 ▸ h7) (hC.2.1 _ hlt) (pj_narrow_mv hnar) (pj_fits_mv hfit) hl hd kk
                · exact absurd h6 h8
              · have hF2 : (T f.2.1).2.2.2 = false := by
                  rw [← hT.1]
                  exact Bool.eq_false_iff.mpr hF
                rcases hlk with ⟨-, hlk⟩ | ⟨-, hlk⟩
                · exact va_put hx hb hts hC.1 (pj_ty f.1) hC.2.1 hC.2.2.1 hown hK hG.1 (pj_D g b base h) hS k0 (pj_ws_of ho) hcl f.2.1 hlt (hts _ hlk) (fun _ z => z) hF2 (hC.2.1 _ hlt) (pj_narrow_mv hnar) (pj_fits_mv hfit) hl hd kk
                · exact va_putN hx hb hts hC.1 (pj_ty f.1) hC.2.1 hC.2.2.1 hown hK hG.1 (pj_D g b base h) hS k0 (pj_ws_of ho) hcl f.2.1 hlt (va_Nw.use rfl (hN _ hlk)) (fun _ z => z) hF2 (hC.2.1 _ hlt) (pj_narrow_mv hnar) (pj_fits_mv hfit) hl hd kk
            · cases hm
          · cases hm
        · cases hm
      · cases hm
    · cases hm
  · cases hm
end PJM
