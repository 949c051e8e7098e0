/-! ===== the law on the pure machine ===== -/
def pj_h0 (L : Nat) (xs : Nat → Int32) : pj_H := ([.inl (.int, L)], fun k => if k = 0 then xs else fun _ => 0, fun _ _ => 0)
theorem pj_goal (L : Nat) (xs : Nat → Int32) (hL : L ≤ 2560) : ∃ n h', pj_go n pj_mL 0 (pj_ent [.ref 0] 4) [] (pj_h0 L xs) = some (some (.int 1), h') ∧ h'.1.length ≤ 42 ∧ pj_sz h'.1 ≤ 2399 + L := sorry
