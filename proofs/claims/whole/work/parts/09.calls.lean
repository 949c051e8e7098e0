/-! ===== calls; the theorem for every fuel ===== -/
theorem pj_c2_ok {own ci : Nat} (h : pj_c2 own = some ci) : ∃ (T : u_T) (N : Nat), vwCl[ci]? = some (pj_cn own, T, N) := by
  unfold pj_c2 at h
  split at h <;> first | (cases h; exact ⟨_, _, rfl⟩) | cases h
theorem pj_ml_spec {own idx : Nat} {f : Nat × Nat × Nat × Nat × Nat × Nat × Nat} {y : pj_M} (h : pj_lk own idx pj_ml = some f) (hk : f.2.2.2.2.1 ≤ 2) (hy : pj_ms[f.1]? = some y) :
    (parseMethodDescriptor y.1.desc).map (fun d => d.parameters.length) = some f.2.1 ∧ ((f.2.2.1 = 0 ∧ Jvm.Cond.methodLink (pj_cn own) idx y.1 ∈ pj_T) ∨ (¬ f.2.2.1 = 0 ∧ Jvm.Cond.methodLinkNest (pj_cn own) idx y.1 "StencilWall" ∈ pj_N)) ∧ (f.2.2.2.2.1 = 0 → Jvm.Cond.static y.1 ∈ pj_T) ∧ (f.2.2.2.2.1 = 1 → Jvm.Cond.instanceMethod y.1 ∈ pj_T ∧ Jvm.Cond.selects y.1.cls y.1 y.1 ∈ pj_T) ∧ (f.2.2.2.2.1 = 2 → y.1.name = "<init>" ∧ Jvm.Cond.instanceMethod y.1 ∈ pj_T) := by
  obtain ⟨hm, h1, h2⟩ := pj_lk_mem h
  have hq := List.all_eq_true.mp pj_mlok _ hm
  unfold pj_KOK at hq
  simp only [h1, h2, hy] at hq
  rw [if_neg (by omega), if_neg (by omega), if_neg (by omega), if_neg (by omega)] at hq
  simp only [Bool.and_eq_true, decide_eq_true_eq] at hq
  obtain ⟨⟨q1, q2⟩, q3⟩ := hq
  refine ⟨q1, ?_, fun e => ?_, fun e => ?_, fun e => ?_⟩
  · split at q2
    · rename_i e
      exact Or.inl ⟨e, pj_chk_in q2⟩
    · rename_i e
      exact Or.inr ⟨e, pj_chkN_in q2⟩
  · rw [if_pos e] at q3
    exact pj_chk_in q3
  · rw [if_neg (by omega), if_pos e, Bool.and_eq_true] at q3
    exact ⟨pj_chk_in q3.1, pj_chk_in q3.2⟩
  · rw [if_neg (by omega), if_neg (by omega), Bool.and_eq_true, decide_eq_true_eq] at q3
    exact ⟨q3.1, pj_chk_in q3.2⟩
theorem pj_iv_inv {q : pj_M} {kind idx len : Nat} {st : List Value} {h : pj_H} {a : pj_M × List Value × List Value} (hi : pj_iv q kind idx len st h = some a) : ∃ f, pj_lk q.2.2.2.2.2.1 idx pj_ml = some f ∧ pj_ms[f.1]? = some a.1 ∧ len = 3 ∧ f.2.2.2.2.1 = kind ∧ f.2.1 ≤ st.length ∧ a.1.2.2.2.2.1 < q.2.2.2.2.1 ∧ (pj_fl1 a.2.1).length ≤ a.1.2.2.1 ∧ (a.2.2.map fun v => v.category).sum ≤ 8 ∧
    ((kind = 0 ∧ a.2.1 = (st.take f.2.1).reverse ∧ a.2.2 = st.drop f.2.1) ∨ (¬ kind = 0 ∧ ∃ k, st.drop f.2.1 = .ref (k + 1) :: a.2.2 ∧ a.2.1 = .ref (k + 1) :: (st.take f.2.1).reverse ∧ (kind = 1 → pj_rc h (k + 1) a.1.2.2.2.2.2.1 = true) ∧ (kind = 2 → a.1.2.2.2.1 = none))) := by
  unfold pj_iv at hi
  split at hi
  · rename_i f hf
    split at hi
    · rename_i y hy
      split at hi
      · rename_i hc
        split at hi
        · rename_i hk
          split at hi
          · rename_i hc2
            cases hi
            exact ⟨f, hf, hy, hc.1, hc.2.1, hc.2.2.1, hc.2.2.2, hc2.1, hc2.2, Or.inl ⟨hk, rfl, rfl⟩⟩
          · cases hi
        · rename_i hk
          split at hi
          · rename_i k r hr
            split at hi
            · rename_i hc2
              cases hi
              exact ⟨f, hf, hy, hc.1, hc.2.1, hc.2.2.1, hc.2.2.2, hc2.1, hc2.2.1, Or.inr ⟨hk, k, hr, rfl, hc2.2.2⟩⟩
            · cases hi
          · cases hi
      · cases hi
    · cases hi
  · cases hi
theorem pj_goodIn {y : pj_M} {a : Nat} (h : pj_chk a (.code y.1 y.2.1 y.2.2.1 y.2.2.2.1) = true) : GoodIn pj_T (Jvm.Cond.code y.1 y.2.1 y.2.2.1 y.2.2.2.1 :: pj_T) := by
  intro w hw
  have hm : w ∈ pj_T := by
    rcases List.mem_cons.mp hw with rfl | hw
    · exact pj_chk_in h
    · exact hw
  exact ⟨hm, good_of_word (List.mem_filter.mp hm).2⟩
section PJK
variable {p : Program} {l : Launch} {e : Env} {R : Room} {s : State} {m : MethodId} {args : Array Value} {below : List Frame} {meth : Method} {c : Code} {H : Heap} {locs : List Loc} {cells slots : Nat} {Q : State → Prop}
variable {pc : Nat} {lsA : Array Slot} {D : va_G} {g : ClassId × ClassId × ClassId} {b base L : Nat} {xs : Nat → Int32}
theorem pj_call_W {mc ms : Nat} {st0 rest : List Value} {r : Option Value} {h1 : pj_H} {aA : Array Value} (hr : va_Run p l e R s m args below meth c H locs cells slots mc ms (F0 m pc lsA st0) rest (pj_Qc D g b base L xs r h1 aA) (fun z => base ≤ z)) (hS : va_S (fun z => base ≤ z) s.heap H locs)
    (kk : ∀ H1 locs1, pj_G D g b base L xs h1 H1 → va_S (fun z => base ≤ z) s.heap H1 locs1 → W p l e R s m args below meth c H1 locs1 (cells + mc) (slots + ms) Q (F0 m (pc + 3) lsA ((r.map (pj_mv (pj_ad b base))).toList ++ rest))) : W p l e R s m args below meth c H locs cells slots Q (F0 m pc lsA st0) := by
  intro T hT X
  obtain ⟨v, st₀, t, T', L', h0, X', hL, e1, e2, ⟨hv, hG1, hSt1, hz1, hz, hk⟩, st⟩ := hr T hT X
  cases hv
  rw [h0] at hz hk
  obtain ⟨t2, a1, b1⟩ := kk T'.heap (locs ++ L') (by rw [e1]; exact hG1)
    ⟨Nat.le_trans hS.1 (by rw [e1]; exact hz), fun q h1 h2 => by rw [e1, hk q (Nat.lt_of_lt_of_le h1 hS.1) h2]; exact hS.2.1 q h1 h2, fun q hq => by
      rcases List.mem_append.mp hq with h | h
      · exact hS.2.2 q h
      · exact hL q h⟩ T' rfl X'
  exact ⟨t2, st t2 a1, b1⟩
theorem pj_rev (ad : Nat → Nat) (st : List Value) (n : Nat) : st.map (pj_mv ad) = ((st.take n).reverse.map (pj_mv ad)).reverse ++ (st.drop n).map (pj_mv ad) := by
  rw [List.map_reverse, List.reverse_reverse, ← List.map_append, List.take_append_drop]
set_option maxHeartbeats 4000000 in
theorem pj_inv_W {n : Nat} (ih : pj_Snd n) {q : pj_M} {c0 s0 : Nat} (C : pj_Cx p s m args meth c D g b base L xs q c0) {ins : Instr} {len : Nat} (hd : decode q.2.1 pc = .ok (ins, len)) {st : List Value} {h h1 : pj_H} {a : pj_M × List Value × List Value} {r : Option Value} (hi : pj_inv q ins len st h = some a) (hgo : pj_go n a.1 0 (pj_ent a.2.1 a.1.2.2.1) [] h = some (r, h1)) (hl : lsA.size = q.2.2.1) (hG : pj_G D g b base L xs h H) (hS : va_S (fun z => base ≤ z) s.heap H locs) (hcc : cells + c0 = h.1.length) (hss : slots + s0 = pj_sz h.1) (hc1 : h1.1.length ≤ R.cells + c0) (hs1 : pj_sz h1.1 ≤ R.slots + s0) (hfr : q.2.2.2.2.1 ≤ R.frames) (hlo : 36 * q.2.2.2.2.1 ≤ R.locals)
    (kk : ∀ H1 locs1, pj_G D g b base L xs h1 H1 → va_S (fun z => base ≤ z) s.heap H1 locs1 → W p l e R s m args below meth c H1 locs1 (cells + (h1.1.length - h.1.length)) (slots + (pj_sz h1.1 - pj_sz h.1)) Q (F0 m (pc + 3) lsA ((r.toList ++ a.2.2).map (pj_mv (pj_ad b base))))) : W p l e R s m args below meth c H locs cells slots Q (F0 m pc lsA (st.map (pj_mv (pj_ad b base)))) := by
  obtain ⟨hx, hb, hml, hown, hts, hSt, h0, h01, hnm⟩ := C
  obtain ⟨kind, idx, hins, hi⟩ : ∃ kind idx, ((kind = 0 ∧ ins = .invokestatic idx) ∨ (kind = 1 ∧ ins = .invokevirtual idx) ∨ (kind = 2 ∧ ins = .invokespecial idx)) ∧ pj_iv q kind idx len st h = some a := by
    unfold pj_inv at hi
    split at hi
    · exact ⟨0, _, Or.inl ⟨rfl, rfl⟩, hi⟩
    · exact ⟨1, _, Or.inr (Or.inl ⟨rfl, rfl⟩), hi⟩
    · exact ⟨2, _, Or.inr (Or.inr ⟨rfl, rfl⟩), hi⟩
    · cases hi
  obtain ⟨f, hf, hy, rfl, hk, hle, hrk, hfl, hsum, hcase⟩ := pj_iv_inv hi
  obtain ⟨y, as, rest⟩ := a
  simp only at hy hrk hfl hsum hcase hgo kk
  have hyin : y ∈ pj_ms := List.mem_of_getElem? hy
  obtain ⟨hpd, hlink, hk0, hk1, hk2⟩ := pj_ml_spec hf (by rw [hk]; rcases hins with h | h | h <;> omega) hy
  rw [hk] at hk0 hk1 hk2
  obtain ⟨ka, kb, hM⟩ := pj_mok y hyin
  unfold pj_MOK at hM
  simp only [Bool.and_eq_true, decide_eq_true_eq] at hM
  obtain ⟨⟨⟨⟨⟨⟨m1, m2⟩, m3⟩, m4⟩, m5⟩, m6⟩, m7⟩ := hM
  have m6 := Nat.le_of_ble_eq_true m6
  have hmo := pj_mono n _ _ _ _ _ _ _ hgo
  have hbs : base ≤ s.heap.size := by omega
  have hl1 : 1 ≤ h.1.length := by omega
  have hmet := pj_met ih l hyin hfl hl1 hgo D g b base L xs
  have hR : y.2.2.2.2.1 + 1 ≤ R.frames ∧ 8 + (y.2.2.1 + 11) + 36 * y.2.2.2.2.1 ≤ R.locals := ⟨by omega, by omega⟩
  have hff : cells + (h1.1.length - h.1.length) ≤ R.cells ∧ slots + (pj_sz h1.1 - pj_sz h.1) ≤ R.slots := ⟨by omega, by omega⟩
  have hgd := pj_goodIn m1
  have hini := hts _ (pj_chk_in m2)
  have hsum2 : ((rest.map (pj_mv (pj_ad b base))).map fun v => v.category).sum ≤ 8 := by rw [pj_mv_sum]; exact hsum
  intro T hT X
  have hz := pj_size X hT hG hS h0 h01 hcc
  suffices hw : W p l e R s m args below meth c H locs cells slots Q (F0 m pc lsA (st.map (pj_mv (pj_ad b base)))) from hw T hT X
  have hpre : ∀ U : State, U.heap = H → s.WarmedH U.vm → pj_Pc D g b base L xs as h (as.map (pj_mv (pj_ad b base))).toArray U := by
    intro U hU hW
    subst hU
    exact ⟨rfl, hG, pj_St_warm hSt hbs hS hW, hz⟩
  have kk2 : ∀ H1 locs1, pj_G D g b base L xs h1 H1 → va_S (fun z => base ≤ z) s.heap H1 locs1 → W p l e R s m args below meth c H1 locs1 (cells + (h1.1.length - h.1.length)) (slots + (pj_sz h1.1 - pj_sz h.1)) Q (F0 m (pc + 3) lsA ((r.map (pj_mv (pj_ad b base))).toList ++ rest.map (pj_mv (pj_ad b base)))) := by
    intro H1 locs1 a1 a2
    have := kk H1 locs1 a1 a2
    rw [List.map_append] at this
    cases r
    · exact this
    · exact this
  have hlen : ((st.take f.2.1).reverse.map (pj_mv (pj_ad b base))).length = f.2.1 := by
    rw [List.length_map, List.length_reverse, List.length_take]
    omega
  have FX : CallFix p m c q.2.1 q.2.2.1 s args pj_T (pj_cn q.2.2.2.2.2.1) := ⟨hx, hb, hml, hown, hts⟩
  rcases hcase with ⟨rfl, has, hrest⟩ | ⟨hkn, k, hdr, has, hrc, hrn⟩
  · have hin : ins = .invokestatic idx := by
      rcases hins with h | h | h
      · exact h.2
      · exact absurd h.1 (by decide)
      · exact absurd h.1 (by decide)
    subst hin
    subst has
    subst hrest
    have hstk : st.map (pj_mv (pj_ad b base)) = _ := pj_rev (pj_ad b base) st f.2.1
    rw [hstk]
    rcases hlink with ⟨-, hlk⟩ | ⟨-, hlk⟩
    · exact pj_call_W (va_runS FX hmet ⟨callB_of f.2.1 hts hgd rfl rfl rfl hini (hts _ hlk) ⟨m3, m4, hpd⟩ hR, hts _ (hk0 rfl)⟩ ⟨pj_blind _ _ _ _ _ _ _ _, hpre⟩ rfl hlen hl rfl (lv_room hsum2) hd hff) hS kk2
    · exact pj_call_W (va_runSN FX hmet ⟨va_cnB f.2.1 hts hgd rfl rfl rfl (hSt.1 _ hlk) hini ⟨m3, m4, hpd⟩ hR, hts _ (hk0 rfl), trivial⟩ ⟨pj_blind _ _ _ _ _ _ _ _, hpre⟩ rfl hlen hl rfl (lv_room hsum2) hd hff) hS kk2
  · have hstk : st.map (pj_mv (pj_ad b base)) = ((st.take f.2.1).reverse.map (pj_mv (pj_ad b base))).reverse ++ (.ref (pj_ad b base (k + 1)) :: rest.map (pj_mv (pj_ad b base))) := by
      rw [pj_rev (pj_ad b base) st f.2.1, hdr]
      rfl
    rw [hstk]
    subst has
    have hpre2 : ∀ U : State, U.heap = H → s.WarmedH U.vm → pj_Pc D g b base L xs (.ref (k + 1) :: (st.take f.2.1).reverse) h (Value.ref (pj_ad b base (k + 1)) :: (st.take f.2.1).reverse.map (pj_mv (pj_ad b base))).toArray U := hpre
    rcases hins with h9 | ⟨rfl, rfl⟩ | ⟨rfl, rfl⟩
    · exact absurd h9.1 hkn
    · have hrc := hrc rfl
      unfold pj_rc at hrc
      split at hrc
      · rename_i o ho
        rw [decide_eq_true_eq] at hrc
        obtain ⟨T', N', hcl⟩ := pj_c2_ok hrc
        rw [← m7] at hcl
        have hrv := va_recv hSt.2.1 hG.1 hcl (pj_ws_of ho)
        rcases hlink with ⟨-, hlk⟩ | ⟨-, hlk⟩
        · exact pj_call_W (va_runV FX hmet ⟨callB_of f.2.1 hts hgd rfl rfl rfl hini (hts _ hlk) ⟨m3, m4, hpd⟩ hR, hts _ (hk1 rfl).1, hts _ (hk1 rfl).2⟩ ⟨pj_blind _ _ _ _ _ _ _ _, hrv, hpre2⟩ rfl hlen hl rfl (lv_room hsum2) hd hff) hS kk2
        · exact pj_call_W (va_runVN FX hmet ⟨va_cnB f.2.1 hts hgd rfl rfl rfl (hSt.1 _ hlk) hini ⟨m3, m4, hpd⟩ hR, hts _ (hk1 rfl).1, hts _ (hk1 rfl).2⟩ ⟨pj_blind _ _ _ _ _ _ _ _, hrv, hpre2⟩ rfl hlen hl rfl (lv_room hsum2) hd hff) hS kk2
      · cases hrc
    · have hrn := hrn rfl
      obtain ⟨yy, ycc, yml, yr, yt⟩ := y
      simp only at hrn
      subst hrn
      rcases hlink with ⟨-, hlk⟩ | ⟨-, hlk⟩
      · exact pj_call_W (va_runI FX hmet ⟨callB_of f.2.1 hts hgd rfl rfl rfl hini (hts _ hlk) ⟨m3, m4, hpd⟩ hR, (hk2 rfl).1, hts _ (hk2 rfl).2⟩ ⟨pj_blind _ _ _ _ _ _ _ _, hpre2⟩ rfl hlen hl rfl (lv_room hsum2) hd hff) hS kk2
      · exact pj_call_W (va_runIN FX hmet ⟨va_cnB f.2.1 hts hgd rfl rfl rfl (hSt.1 _ hlk) hini ⟨m3, m4, hpd⟩ hR, (hk2 rfl).1, hts _ (hk2 rfl).2⟩ ⟨pj_blind _ _ _ _ _ _ _ _, hpre2⟩ rfl hlen hl rfl (lv_room hsum2) hd hff) hS kk2
theorem pj_mem_W {q : pj_M} {c0 : Nat} (C : pj_Cx p s m args meth c D g b base L xs q c0) (hl : lsA.size = q.2.2.1) (hfr : q.2.2.2.2.1 ≤ R.frames) (hlo : 36 * q.2.2.2.2.1 ≤ R.locals) (hcl : cells ≤ R.cells) (hsl : slots ≤ R.slots) {ins : Instr} {len : Nat} (hd : decode q.2.1 pc = .ok (ins, len)) {st : List Value} {h : pj_H} {a : List Value × pj_H} (hm : pj_mem q ins len st h = some a) (hG : pj_G D g b base L xs h H) (hS : va_S (fun z => base ≤ z) s.heap H locs)
    (k : ∀ H1 locs1, pj_G D g b base L xs a.2 H1 → va_S (fun z => base ≤ z) s.heap H1 locs1 → W p l e R s m args below meth c H1 locs1 cells slots Q (F0 m (pc + len) lsA (a.1.map (pj_mv (pj_ad b base))))) : W p l e R s m args below meth c H locs cells slots Q (F0 m pc lsA (st.map (pj_mv (pj_ad b base)))) := by
  obtain ⟨hx, hb, hml, hown, hts, ⟨hN, hK, hX, hbb⟩, h0, h01, hnm⟩ := C
  have hbs : base ≤ s.heap.size := by omega
  have hml2 : c.maxLocals = lsA.size := hml.trans hl.symm
  have k0 : a.2 = h → W p l e R s m args below meth c H locs cells slots Q (F0 m (pc + len) lsA (a.1.map (pj_mv (pj_ad b base)))) := fun e9 => k H locs (by rw [e9]; exact hG) hS
  unfold pj_mem at hm
  split at hm
  · exact pj_getf_W hx hb hown hts hN hK hd hm hG k0
  · exact pj_putf_W hx hb hnm hown hts hN hK hd hm hG hS k
  · exact pj_al_W hx hb hK hX hbb hbs (Or.inl ⟨rfl, rfl⟩) hd hm hG hS k0
  · exact pj_al_W hx hb hK hX hbb hbs (Or.inr (Or.inl ⟨rfl, rfl⟩)) hd hm hG hS k0
  · exact pj_al_W hx hb hK hX hbb hbs (Or.inr (Or.inr ⟨rfl, rfl⟩)) hd hm hG hS k0
  · exact pj_as_W hx hb hK (Or.inl ⟨rfl, rfl⟩) hd hm hG hS k
  · exact pj_as_W hx hb hK (Or.inr (Or.inl ⟨rfl, rfl⟩)) hd hm hG hS k
  · exact pj_as_W hx hb hK (Or.inr (Or.inr ⟨rfl, rfl⟩)) hd hm hG hS k
  · exact pj_alen_W hx hb hK hX hbb hbs hd hm hG hS k0
  · unfold pj_bs at hm
    split at hm
    · rename_i f hf
      split at hm
      · rename_i e3
        exact pj_bi_W hx hb hown hts hK hml2 hfr hlo hcl hsl (Or.inl rfl) hd hm (fun f2 h2 => by rw [hf] at h2; cases h2; exact ⟨fun _ => rfl, fun _ => e3⟩) hG hS k
      · cases hm
    · cases hm
  · unfold pj_bt at hm
    split at hm
    · rename_i f hf
      split at hm
      · cases hm
      · rename_i e3
        exact pj_bi_W hx hb hown hts hK hml2 hfr hlo hcl hsl (Or.inr rfl) hd hm (fun f2 h2 => by rw [hf] at h2; cases h2; exact ⟨fun e4 => absurd e4 e3, fun e4 => by cases e4⟩) hG hS k
    · cases hm
  · cases hm
end PJK
theorem pj_row_ok {q : pj_M} (hq : q ∈ pj_all) {pc : Nat} {ins : Instr} {len : Nat} (h : pj_find pc q.2.2.2.2.2.2 = some (ins, len)) : decode q.2.1 pc = .ok (ins, len) := by
  have h9 : ∀ r ∈ q.2.2.2.2.2.2, decode q.2.1 r.1 = .ok r.2 := pj_dok q hq
  have h8 := pj_find_mem h
  exact h9 (pc, ins, len) h8
/-- what the pure machine answers, the machine answers -/
theorem pj_sound : ∀ n, pj_Snd n
  | 0 => by
    intro q hq pc ls st h r h' hgo
    cases hgo
  | n + 1 => by
    intro q hq pc ls st h r h' hgo p l e R s m args below meth c D g b base L xs c0 s0 Q H locs cells slots lsA C hG hS hl hcc hss hc1 hs1 hfr hlo K
    have ih := pj_sound n
    have C' := C
    obtain ⟨hx, hb, hml, hown, hts, hSt, h0, h01, hnm⟩ := C'
    unfold pj_go at hgo
    split at hgo
    · cases hgo
    · rename_i il hfind
      obtain ⟨ins, len⟩ := il
      simp only at hgo
      have hd := pj_row_ok hq hfind
      split at hgo
      · rename_i a ha
        exact pj_op_W hx hb hown hts hd ha hl (fun lsA' hl' => ih q hq _ _ _ _ _ _ hgo p l e R s m args below meth c D g b base L xs c0 s0 Q H locs cells slots lsA' C hG hS hl' hcc hss hc1 hs1 hfr hlo K)
      · split at hgo
        · rename_i a ha
          exact pj_jmp_W hx hb hd ha (ih q hq _ _ _ _ _ _ hgo p l e R s m args below meth c D g b base L xs c0 s0 Q H locs cells slots lsA C hG hS hl hcc hss hc1 hs1 hfr hlo K)
        · split at hgo
          · rename_i a ha
            have hmo := pj_mono n _ _ _ _ _ _ _ hgo
            have hsh := pj_sz_of (pj_mem_shape ha)
            exact pj_mem_W C hl.size hfr hlo (by omega) (by omega) hd ha hG hS (fun H1 locs1 hG1 hS1 => ih q hq _ _ _ _ _ _ hgo p l e R s m args below meth c D g b base L xs c0 s0 Q H1 locs1 cells slots lsA C hG1 hS1 hl (by rw [hsh.1]; exact hcc) (by rw [hsh.2]; exact hss) hc1 hs1 hfr hlo K)
          · split at hgo
            · rename_i a ha
              have hmo := pj_mono n _ _ _ _ _ _ _ hgo
              obtain ⟨cq, r2, e9, -⟩ := pj_new_inv ha
              have hsh := pj_sz_born h cq
              have e10 : a.2 = pj_born h cq := by rw [e9]
              rw [← e10] at hsh
              exact pj_new_W hx hb hown hts hSt.2.1 h0 h01 hd ha hcc hG hS (by omega) (by omega) (fun H1 hG1 hS1 => ih q hq _ _ _ _ _ _ hgo p l e R s m args below meth c D g b base L xs c0 s0 Q H1 locs _ _ lsA C hG1 hS1 hl (by omega) (by omega) hc1 hs1 hfr hlo K)
            · split at hgo
              · rename_i v hv
                cases hgo
                obtain ⟨e9, -, -⟩ := pj_ret_inv hv
                rw [e9] at hd hv
                exact K H locs cells slots lsA pc ins st hd hv hG hS hcc hss
              · split at hgo
                · rename_i a ha
                  split at hgo
                  · rename_i o ho
                    obtain ⟨v, h1⟩ := o
                    simp only at hgo
                    have hm1 := pj_mono n _ _ _ _ _ _ _ ho
                    have hm2 := pj_mono n _ _ _ _ _ _ _ hgo
                    exact pj_inv_W ih C hd ha ho hl.size hG hS hcc hss (by omega) (by omega) hfr hlo (fun H1 locs1 hG1 hS1 => ih q hq _ _ _ _ _ _ hgo p l e R s m args below meth c D g b base L xs c0 s0 Q H1 locs1 _ _ lsA C hG1 hS1 hl (by omega) (by omega) hc1 hs1 hfr hlo K)
                  · cases hgo
                · cases hgo
