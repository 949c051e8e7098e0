/-! ===== every pair of calls (what is still owed: sorry) ===== -/
theorem pr_all (L : Nat) (hL : L ≤ 2560) : pr_All pr_R L := sorry
