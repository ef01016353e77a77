/-! ===== the reference's list text ===== -/
theorem append_9c {g : Sg} {m : T9} (hR : R9 g m) (ho : okSg g) (a : Int32) : An9 (f_X9_append m a) (anAppend g a) := by
  obtain ⟨h1, h2, h3, h4, h5⟩ := hR
  have hl := ho.2.2.1
  have hin : f_X9_in a.toInt64 0 127 = some (b01 (!decide (a < 0 ∨ 127 < a))) := by
    rw [in_9]
    congr 2
    have e2 : a.toInt64.toInt = a.toInt := Int32.toInt_toInt64 a
    have l1 : (0 ≤ a.toInt64) ↔ ¬ a < 0 := by
      rw [Int64.le_iff_toInt_le, e2, Int32.lt_iff_toInt_lt]
      show (0 : Int) ≤ a.toInt ↔ ¬ a.toInt < 0
      omega
    have l2 : (a.toInt64 ≤ 127) ↔ ¬ 127 < a := by
      rw [Int64.le_iff_toInt_le, e2, Int32.lt_iff_toInt_lt]
      show a.toInt ≤ (127 : Int) ↔ ¬ (127 : Int) < a.toInt
      omega
    by_cases c1 : a < 0 <;> by_cases c2 : 127 < a <;> simp [l1, l2, c1, c2]
  unfold f_X9_append anAppend
  rw [hin, Option.bind_some, h4]
  have hj : (if (150 : Int32) ≤ nI g.2.2.length then some (0 : Int32) else some 1) = some (b01 (decide (g.2.2.length < 150))) := by
    by_cases e : g.2.2.length < 150
    · rw [if_neg (show ¬ (150 : Int32) ≤ nI g.2.2.length from nI_ge (a := g.2.2.length) (b := 150) e (by omega)), decide_eq_true e]; rfl
    · rw [if_pos (show (150 : Int32) ≤ nI g.2.2.length from nI_le (a := 150) (by omega) (by omega)), decide_eq_false e]; rfl
  rw [hj, Option.bind_some, goes_9, Option.bind_some]
  by_cases c : a < 0 ∨ 127 < a
  · rw [decide_eq_true c, if_pos c]
    exact ⟨0, thr m 1, rfl, ⟨h1, h2, h3, h4, h5⟩, rfl, fun z => absurd z (show ¬ (1 : Int32) = 0 by decide)⟩
  · rw [decide_eq_false c, if_neg c]
    by_cases e : g.2.2.length < 150
    · rw [decide_eq_true e, if_pos e]
      simp only [Bool.not_false, if_true]
      rw [if_neg (by decide)]
      dsimp only [thr]
      rw [h4, wr_nI e (by omega), Option.bind_some, nI_1]
      refine ⟨_, _, rfl, ⟨h1, h2, h3, by simp, fun k b hk => ?_⟩, rfl, fun _ => rfl⟩
      show upd _ _ _ k = _
      unfold upd
      by_cases e2 : k = g.2.2.length
      · subst e2
        simp at hk
        subst hk
        rw [if_pos rfl]
        obtain ⟨j, hj, rfl⟩ := nI_of (fun z => c (Or.inl z) : ¬ a < 0)
        rw [nI_clamp hj]
      · have hkl := lt_of_get hk
        simp at hkl
        rw [List.getElem?_append_left (by omega)] at hk
        rw [if_neg e2]
        exact h5 k b hk
    · rw [decide_eq_false e, if_neg e]
      exact ⟨0, thr m 2, rfl, ⟨h1, h2, h3, h4, h5⟩, rfl, fun z => absurd z (show ¬ (2 : Int32) = 0 by decide)⟩
