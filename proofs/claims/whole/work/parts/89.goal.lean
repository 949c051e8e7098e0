/-! ===== the law on the pure machine ===== -/
def pj_h0 (L : Nat) (xs : Nat → Int32) : pj_H := ([.inl (.int, L)], fun k => if k = 0 then xs else fun _ => 0, fun _ _ => 0)
theorem pj_goal (L : Nat) (xs : Nat → Int32) (hL : L ≤ 2560) : ∃ n h', pj_go n pj_mL 0 (pj_ent [.ref 0] 4) [] (pj_h0 L xs) = some (some (.int 1), h') ∧ h'.1.length ≤ 42 ∧ pj_sz h'.1 ≤ 2399 + L := by
  obtain ⟨hi3, hl3, hE⟩ := pl_loop hL (pr_all L hL) L 0 _ (pu_16_hl (fun _ _ => 0)) (by omega) (by omega) (pr_start (fun k => if k = 0 then xs else fun _ => 0) _)
  have h2 : pe_E pj_mL 0 [some (.ref 0), none, none, none] [] ([.inl (.int, L)], (fun k => if k = 0 then xs else fun _ => 0), fun _ _ => 0) (some (.int 1), (pj_SH L, hi3, hl3)) := (pu_16 L _ _).mpr (pb_la_law_16.mpr hE)
  obtain ⟨n, hn⟩ := h2
  refine ⟨n, _, hn, Nat.le_of_ble_eq_true rfl, ?_⟩
  simp only [pj_SH, pj_sz, pj_cs, List.map_cons, List.map_nil, List.sum_cons, List.sum_nil, List.length_cons, List.length_nil]
  omega
