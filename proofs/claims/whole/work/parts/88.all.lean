/-! ===== every pair of calls ===== -/
theorem pr_all (L : Nat) (_ : L ≤ 2560) : pr_All pr_R L := ⟨pk_lay, pk_card, pk_can, pk_say, pk_wipe, pk_fault, pk_judge, pk_done, pk_behind, pk_left, pk_then, pk_turned, pk_patch, pk_box, pk_cover, pk_pictures, pk_made, pk_seen, pk_forget, pk_prints, pk_ask, pk_steps, pk_fall, pk_year, pk_image, pk_restore, pk_told⟩
