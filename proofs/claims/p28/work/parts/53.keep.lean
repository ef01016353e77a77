/-! ===== what a call leaves is as it must be ===== -/
section GLUE
variable {g : Sg} {x : T8}
theorem append_ok (ho : okSg g) (a : Int32) : okSg (anAppend g a).2.2 := by
  unfold anAppend
  by_cases h : a < 0 ∨ 127 < a
  · rw [if_pos h]; exact ho
  · rw [if_neg h]
    by_cases e : g.2.2.length < 150
    · rw [if_pos e]
      have h0 : ¬ a < 0 := fun z => h (Or.inl z)
      obtain ⟨j, hj, rfl⟩ := nI_of h0
      have h1 : ¬ 127 < j := fun z => h (Or.inr (nI_lt (a := 127) z hj))
      refine ⟨ho.1, ho.2.1, ?_, fun b hb => ?_⟩
      · show (g.2.2 ++ [(nI j).toNatClampNeg]).length ≤ 150
        simp
        omega
      · have hb : b ∈ g.2.2 ++ [(nI j).toNatClampNeg] := hb
        rcases List.mem_append.mp hb with z | z
        · exact ho.2.2.2 b z
        · rw [List.mem_singleton.mp z, nI_clamp hj]
          omega
    · rw [if_neg e]; exact ho
theorem ways_ok (ho : okSg g) (c : Bool) (a : Int32) : okSg (anWays g c a).2.2 := by
  unfold anWays
  by_cases h : a < 1 ∨ 50 < a
  · rw [if_pos h]; exact ho
  · rw [if_neg h]
    have h0 : ¬ a < 0 := fun z => h (Or.inl (Int32.lt_trans z (by decide)))
    obtain ⟨j, hj, rfl⟩ := nI_of h0
    have h1 : ¬ j < 1 := fun z => h (Or.inl (show nI j < 1 from nI_lt (b := 1) z (by omega)))
    have h2 : ¬ 50 < j := fun z => h (Or.inr (nI_lt (a := 50) z hj))
    obtain ⟨o1, o2, o3, o4, o5, o6, o7⟩ := ho.1
    refine ho.save ⟨o1, o2, ?_, o4, o5, Or.inl rfl, o7⟩
    show 1 ≤ (nI j).toNatClampNeg ∧ (nI j).toNatClampNeg ≤ 50
    rw [nI_clamp hj]
    omega
theorem press_ok (hR : R8 g x) (ho : okSg g) (a : Int32) : okSg (anPress g a).2.2 := by
  obtain ⟨r1, r2, r3, r4⟩ := hR
  unfold anPress
  by_cases hk : a < 2 ∨ 9 < a
  · rw [if_pos hk]; exact ho
  · rw [if_neg hk]
    have hn : ¬ a < 0 := fun z => hk (Or.inl (Int32.lt_trans z (by decide)))
    obtain ⟨j, hj, rfl⟩ := nI_of hn
    have hj2 : 2 ≤ j ∧ j ≤ 9 := by
      constructor
      · have : ¬ j < 2 := fun z => hk (Or.inl (show nI j < 2 from nI_lt (b := 2) z (by omega)))
        omega
      · have : ¬ 9 < j := fun z => hk (Or.inr (show 9 < nI j from nI_lt (a := 9) z (by omega)))
        omega
    by_cases hp : sPen g.1 = nI j
    · rw [if_pos hp]
      have hp1 : sPen g.1 ≠ -1 := fun e => by
        rw [e] at hp
        exact nI_pos hj (by rw [← hp]; decide)
      obtain ⟨y, m1, m2, m3⟩ := turn_5 r3 ho.1 hp1
      exact ho.save m3
    · rw [if_neg hp]
      by_cases hl : (sPl g.1).length < 10
      · rw [if_pos hl, nI_clamp hj]
        obtain ⟨y, m1, m2, m3⟩ := add_5 r3 ho.1 hj2 hl
        exact ho.save m3
      · rw [if_neg hl]; exact ho
theorem word_st (a v : Int32) : (anWord g a v).2.2 = g := by
  unfold anWord
  split
  · rfl
  · split
    · rfl
    · split <;> rfl
theorem letter_st (a v : Int32) : (anLetter g a v).2.2 = g := by
  unfold anLetter
  split
  · rfl
  · split
    · split <;> rfl
    · rfl
theorem steps_st (a : Int32) : (anSteps g a).2.2 = g := by
  unfold anSteps
  split <;> rfl
theorem presses_st (a : Int32) (t : Bool) : (anPresses g a t).2.2 = g := by
  unfold anPresses
  split
  · rfl
  · split <;> rfl
theorem short_st (a : Int32) : (anShort g a).2.2 = g := by
  unfold anShort
  split
  · rfl
  · split <;> rfl
theorem place_st (a : Int32) : (anPlace g a).2.2 = g := by
  unfold anPlace
  split <;> rfl
theorem display_st (a : Int32) : (anDisplay g a).2.2 = g := by
  unfold anDisplay
  split <;> rfl
theorem cand_st (a : Int32) : (anCand g a).2.2 = g := by
  unfold anCand
  split <;> rfl
theorem set_st (a : Int32) : (anSet g a).2.2 = g := by
  unfold anSet
  split <;> rfl
theorem written_st (a i : Int32) : (anWritten g a i).2.2 = g := by
  unfold anWritten
  split
  · rfl
  · split
    · rfl
    · split
      · rfl
      · split <;> rfl
end GLUE
