/-! ===== the 25 roads ===== -/
theorem new_9 : R9 (s00, [], []) z9 := by
  have h0 : ∀ i, i ≠ 2 → i ≠ 5 → i ≠ 9 → z9.1 i = 0 := fun i a b c => by
    show upd (upd (upd (fun _ => 0) 2 10) 5 (-1)) 9 (-1) i = 0
    rw [upd_n c, upd_n b, upd_n a]
  refine ⟨⟨⟨h0 0 (by omega) (by omega) (by omega), fun k q h => ?_⟩, ⟨h0 8 (by omega) (by omega) (by omega), fun k l h => ?_⟩, ⟨h0 6 (by omega) (by omega) (by omega), fun k c h => ?_⟩, h0 1 (by omega) (by omega) (by omega), ?_, h0 3 (by omega) (by omega) (by omega), h0 4 (by omega) (by omega) (by omega), ?_, h0 7 (by omega) (by omega) (by omega), ?_⟩, rfl, fun k s h => ?_, rfl, fun k b h => ?_⟩
  · simp [sWs, s00] at h
  · simp [sTx, s00] at h
  · simp [sPl, s00] at h
  · show upd (upd (upd (fun _ => 0) 2 10) 5 (-1)) 9 (-1) 2 = nI 10
    rw [upd_n (by omega), upd_n (by omega), upd_e]
    rfl
  · show upd (upd (upd (fun _ => 0) 2 10) 5 (-1)) 9 (-1) 5 = -1
    rw [upd_n (by omega), upd_e]
  · show upd (upd (upd (fun _ => 0) 2 10) 5 (-1)) 9 (-1) 9 = -1
    rw [upd_e]
  · simp at h
  · simp at h
theorem road (hD : Dbl) {x : T8} {m : T9} (hB : Both x m) (k a1 a2 : Int32) (ou : Nat → Int64) : ∃ o, stp k a1 a2 x m ou = some o ∧ Both o.1 o.2.1 := by
  have hB0 := hB
  obtain ⟨g, ho, h8, h9⟩ := hB
  unfold stp
  by_cases e : k = 0
  · rw [if_pos e]
    exact stw_ok (append_8 h8 ho a1) (append_9c h9 ho a1) (append_ok ho a1)
  rw [if_neg e]; clear e
  by_cases e : k = 1
  · rw [if_pos e]
    obtain ⟨r, r1, r2, r3⟩ := clearText_8 h8
    obtain ⟨m', q1, q2⟩ := clear_9c h9
    rw [r1, Option.bind_some, q1, Option.bind_some]
    dsimp only
    rw [if_pos r2]
    exact ⟨_, rfl, _, clear_ok ho, r3, q2⟩
  rw [if_neg e]; clear e
  by_cases e : k = 2
  · rw [if_pos e]
    obtain ⟨⟨r, r1, r2, r3⟩, r4⟩ := load_8 h8 ho
    obtain ⟨m', q1, q2⟩ := load_9c h9 ho
    rw [r1, Option.bind_some, q1, Option.bind_some]
    dsimp only
    rw [if_pos r2]
    exact ⟨_, rfl, _, r4, r3, q2⟩
  rw [if_neg e]; clear e
  by_cases e : k = 3
  · rw [if_pos e, nzB_b]
    exact stw_ok (ways_8 h8 ho _ a2) (ways_9c h9 ho _ a2) (ways_ok ho _ a2)
  rw [if_neg e]; clear e
  by_cases e : k = 4
  · rw [if_pos e]
    exact stw_same (word_8 h8 ho a1 a2) (word_9c h9 ho a1 a2) ho (word_st a1 a2)
  rw [if_neg e]; clear e
  by_cases e : k = 5
  · rw [if_pos e]
    exact stw_same (letter_8 h8 ho a1 a2) (letter_9c h9 ho a1 a2) ho (letter_st a1 a2)
  rw [if_neg e]; clear e
  by_cases e : k = 6
  · rw [if_pos e]
    exact stw_ok (press_8 h8 ho a1) (press_9c h9 ho a1) (press_ok h8 ho a1)
  rw [if_neg e]; clear e
  by_cases e : k = 7
  · rw [if_pos e]
    obtain ⟨⟨r, r1, r2, r3⟩, r4⟩ := pause_8 h8 ho
    obtain ⟨m', q1, q2⟩ := pause_9c h9 ho
    rw [r1, Option.bind_some, q1, Option.bind_some]
    dsimp only
    rw [if_pos r2]
    exact ⟨_, rfl, _, r4, r3, q2⟩
  rw [if_neg e]; clear e
  by_cases e : k = 8
  · rw [if_pos e, nzB_b]
    obtain ⟨⟨r, r1, r2, r3⟩, r4⟩ := mode_8 h8 ho (!decide (a1 = 0))
    obtain ⟨m', q1, q2⟩ := mode_9c h9 ho (!decide (a1 = 0))
    rw [r1, Option.bind_some, q1, Option.bind_some]
    dsimp only
    rw [if_pos r2]
    exact ⟨_, rfl, _, r4, r3, q2⟩
  rw [if_neg e]; clear e
  by_cases e : k = 9
  · rw [if_pos e]
    exact stw_ok (next_8 h8 ho) (next_9c h9 ho) (next_ok ho)
  rw [if_neg e]; clear e
  by_cases e : k = 10
  · rw [if_pos e]
    exact stw_ok (erase_8 h8 ho).1 (erase_9c h9 ho) (erase_8 (ou := ou) h8 ho).2
  rw [if_neg e]; clear e
  by_cases e : k = 11
  · rw [if_pos e]
    exact stw_ok (accept_8 h8 ho).1 (accept_9c h9 ho) (accept_8 (ou := ou) h8 ho).2
  rw [if_neg e]; clear e
  by_cases e : k = 12
  · rw [if_pos e]
    exact stw_ok (open_8 h8 ho a1).1 (open_9c h9 ho a1) (open_8 (ou := ou) h8 ho a1).2
  rw [if_neg e]; clear e
  by_cases e : k = 13
  · rw [if_pos e]
    exact stw_same (setting_8 h8 ho a1) (setting_9c h9 ho a1) ho (set_st a1)
  rw [if_neg e]; clear e
  by_cases e : k = 14
  · rw [if_pos e]
    exact stw_same (place_8 h8 ho a1) (place_9c h9 ho a1) ho (place_st a1)
  rw [if_neg e]; clear e
  by_cases e : k = 15
  · rw [if_pos e]
    exact stw_same (display_8 h8 ho a1) (display_9c h9 ho a1) ho (display_st a1)
  rw [if_neg e]; clear e
  by_cases e : k = 16
  · rw [if_pos e]
    exact stw_same (candidate_8 h8 ho a1) (candidate_9c h9 ho a1) ho (cand_st a1)
  rw [if_neg e]; clear e
  by_cases e : k = 17
  · rw [if_pos e]
    exact stw_same (written_8 h8 ho a1 a2) (written_9c h9 ho a1 a2) ho (written_st a1 a2)
  rw [if_neg e]; clear e
  by_cases e : k = 18
  · rw [if_pos e]
    exact stw_same (steps_8 h8 ho a1) (steps_9 h9 ho a1) ho (steps_st a1)
  rw [if_neg e]; clear e
  by_cases e : k = 19
  · rw [if_pos e, nzB_b]
    exact stw_same (presses_8 h8 ho a1 _) (presses_9c h9 ho a1 _) ho (presses_st a1 _)
  rw [if_neg e]; clear e
  by_cases e : k = 20
  · rw [if_pos e]
    obtain ⟨m', q1, q2⟩ := clashing_9c h9 ho
    rw [clashing_8 h8 ho, Option.bind_some, q1, Option.bind_some]
    dsimp only
    rw [if_pos rfl]
    exact ⟨_, rfl, g, ho, h8, q2⟩
  rw [if_neg e]; clear e
  by_cases e : k = 21
  · rw [if_pos e]
    obtain ⟨r, r1, r2, r3⟩ := saving_both hD h8 h9 ho
    rw [r1, Option.bind_some, r2, Option.bind_some]
    dsimp only
    rw [if_pos r3]
    exact ⟨_, rfl, g, ho, h8, h9⟩
  rw [if_neg e]; clear e
  by_cases e : k = 22
  · rw [if_pos e]
    exact stw_same (shortest_8 h8 ho a1) (shortest_9c h9 ho a1) ho (short_st a1)
  rw [if_neg e]; clear e
  by_cases e : k = 23
  · rw [if_pos e]
    exact stw_ok (undo_8 h8 ho).1 (undo_9c h9 ho) (undo_8 (ou := ou) h8 ho).2
  rw [if_neg e]; clear e
  by_cases e : k = 24
  · rw [if_pos e]
    obtain ⟨c, r1⟩ := digest_8 h8 ho
    obtain ⟨m', q1, q2⟩ := digest_9c h9 ho
    rw [r1, Option.bind_some, q1, Option.bind_some]
    dsimp only
    rw [if_pos rfl]
    exact ⟨_, rfl, g, ho, h8, q2⟩
  rw [if_neg e]
  exact ⟨_, rfl, hB0⟩
theorem pure_good0 (hD : Dbl) : Good Both := ⟨⟨(s00, [], []), new_ok, R8_new, new_9⟩, fun _ _ hB k a1 a2 ou => road hD hB k a1 a2 ou⟩
