/-! ===== class and reference, call by call ===== -/
def Both (x : T8) (m : T9) : Prop := ∃ g, okSg g ∧ R8 g x ∧ R9 g m
theorem stw_ok {r : Option (Int32 × T8 × (Nat → Int64))} {q : Option (Int32 × T9)} {a : An} (h8 : An8 r a) (h9 : An9 q a) (ho : okSg a.2.2) : ∃ o, stw r q = some o ∧ Both o.1 o.2.1 := by
  obtain ⟨x', ou', rfl, r1, r2⟩ := h8
  obtain ⟨v, m', rfl, q1, q2, q3⟩ := h9
  unfold stw
  rw [Option.bind_some, Option.bind_some]
  dsimp only
  rw [q2, Option.bind_some, if_pos rfl]
  by_cases e : a.1 = 0
  · rw [if_pos e, if_pos (by rw [r2 e, q3 e])]
    exact ⟨_, rfl, a.2.2, ho, r1, q1⟩
  · rw [if_neg e]
    exact ⟨_, rfl, a.2.2, ho, r1, q1⟩
theorem stw_same {g : Sg} {r : Option (Int32 × T8 × (Nat → Int64))} {q : Option (Int32 × T9)} {a : An} (h8 : An8 r a) (h9 : An9 q a) (ho : okSg g) (he : a.2.2 = g) : ∃ o, stw r q = some o ∧ Both o.1 o.2.1 := stw_ok h8 h9 (by rw [he]; exact ho)
theorem nzB_b (a : Int32) : nzB a = b01 (!decide (a = 0)) := by
  unfold nzB
  by_cases e : a = 0
  · rw [if_pos e, decide_eq_true e]; rfl
  · rw [if_neg e, decide_eq_false e]; rfl
section GLUE
variable {g : Sg} {x : T8} {m : T9}
theorem append_ok (ho : okSg g) (a : Int32) : okSg (anAppend g a).2.2 := by
  unfold anAppend
  by_cases h : a < 0 ∨ 127 < a
  · rw [if_pos h]; exact ho
  · rw [if_neg h]
    by_cases e : g.2.2.length < 150
    · rw [if_pos e]
      have h0 : ¬ a < 0 := fun z => h (Or.inl z)
      obtain ⟨j, hj, rfl⟩ := nI_of h0
      have h1 : ¬ 127 < j := fun z => h (Or.inr (nI_lt (a := 127) z hj))
      refine ⟨ho.1, ho.2.1, ?_, fun b hb => ?_⟩
      · show (g.2.2 ++ [(nI j).toNatClampNeg]).length ≤ 150
        simp
        omega
      · have hb : b ∈ g.2.2 ++ [(nI j).toNatClampNeg] := hb
        rcases List.mem_append.mp hb with z | z
        · exact ho.2.2.2 b z
        · rw [List.mem_singleton.mp z, nI_clamp hj]
          omega
    · rw [if_neg e]; exact ho
theorem ways_ok (ho : okSg g) (c : Bool) (a : Int32) : okSg (anWays g c a).2.2 := by
  unfold anWays
  by_cases h : a < 1 ∨ 50 < a
  · rw [if_pos h]; exact ho
  · rw [if_neg h]
    have h0 : ¬ a < 0 := fun z => h (Or.inl (Int32.lt_trans z (by decide)))
    obtain ⟨j, hj, rfl⟩ := nI_of h0
    have h1 : ¬ j < 1 := fun z => h (Or.inl (show nI j < 1 from nI_lt (b := 1) z (by omega)))
    have h2 : ¬ 50 < j := fun z => h (Or.inr (nI_lt (a := 50) z hj))
    obtain ⟨o1, o2, o3, o4, o5, o6, o7⟩ := ho.1
    refine ho.save ⟨o1, o2, ?_, o4, o5, Or.inl rfl, o7⟩
    show 1 ≤ (nI j).toNatClampNeg ∧ (nI j).toNatClampNeg ≤ 50
    rw [nI_clamp hj]
    omega
theorem press_ok (hR : R8 g x) (ho : okSg g) (a : Int32) : okSg (anPress g a).2.2 := by
  obtain ⟨r1, r2, r3, r4⟩ := hR
  unfold anPress
  by_cases hk : a < 2 ∨ 9 < a
  · rw [if_pos hk]; exact ho
  · rw [if_neg hk]
    have hn : ¬ a < 0 := fun z => hk (Or.inl (Int32.lt_trans z (by decide)))
    obtain ⟨j, hj, rfl⟩ := nI_of hn
    have hj2 : 2 ≤ j ∧ j ≤ 9 := by
      constructor
      · have : ¬ j < 2 := fun z => hk (Or.inl (show nI j < 2 from nI_lt (b := 2) z (by omega)))
        omega
      · have : ¬ 9 < j := fun z => hk (Or.inr (show 9 < nI j from nI_lt (a := 9) z (by omega)))
        omega
    by_cases hp : sPen g.1 = nI j
    · rw [if_pos hp]
      have hp1 : sPen g.1 ≠ -1 := fun e => by
        rw [e] at hp
        exact nI_pos hj (by rw [← hp]; decide)
      obtain ⟨y, m1, m2, m3⟩ := turn_5 r3 ho.1 hp1
      exact ho.save m3
    · rw [if_neg hp]
      by_cases hl : (sPl g.1).length < 10
      · rw [if_pos hl, nI_clamp hj]
        obtain ⟨y, m1, m2, m3⟩ := add_5 r3 ho.1 hj2 hl
        exact ho.save m3
      · rw [if_neg hl]; exact ho
theorem word_st (a v : Int32) : (anWord g a v).2.2 = g := by
  unfold anWord
  split
  · rfl
  · split
    · rfl
    · split <;> rfl
theorem letter_st (a v : Int32) : (anLetter g a v).2.2 = g := by
  unfold anLetter
  split
  · rfl
  · split
    · split <;> rfl
    · rfl
theorem steps_st (a : Int32) : (anSteps g a).2.2 = g := by
  unfold anSteps
  split <;> rfl
theorem presses_st (a : Int32) (t : Bool) : (anPresses g a t).2.2 = g := by
  unfold anPresses
  split
  · rfl
  · split <;> rfl
theorem short_st (a : Int32) : (anShort g a).2.2 = g := by
  unfold anShort
  split
  · rfl
  · split <;> rfl
theorem place_st (a : Int32) : (anPlace g a).2.2 = g := by
  unfold anPlace
  split <;> rfl
theorem display_st (a : Int32) : (anDisplay g a).2.2 = g := by
  unfold anDisplay
  split <;> rfl
theorem cand_st (a : Int32) : (anCand g a).2.2 = g := by
  unfold anCand
  split <;> rfl
theorem set_st (a : Int32) : (anSet g a).2.2 = g := by
  unfold anSet
  split <;> rfl
theorem written_st (a i : Int32) : (anWritten g a i).2.2 = g := by
  unfold anWritten
  split
  · rfl
  · split
    · rfl
    · split
      · rfl
      · split <;> rfl
/-- what is wanted of the doubles: a quotient of whole numbers is no NaN, and what is no NaN is equal to itself -/
def Dbl : Prop := (∀ a b : Int64, ¬ b = 0 → nn (FP.ddiv (FP.l2d a) (FP.l2d b)) = some ()) ∧ ∀ r : UInt64, nn r = some () → Op.cmpValue (FP.dcmp r r) .l = 0
theorem saving_both (hD : Dbl) (hR8 : R8 g x) (hR9 : R9 g m) (ho : okSg g) : ∃ r, f_X8_saving x = some r ∧ f_X9_saving m = some (r, thr m 0) ∧ Op.cmpValue (FP.dcmp r r) .l = 0 := by
  have h6 := saving_6 hR8.2.2.1.1 ho.1.1
  have h9 := saving_9 hR9.1.1 ho.1.1
  have hT := sumT_le ho.1.1 (sWs g.1).length
  have hl := ho.1.1.1
  have key : ∃ r, savO (sumS (sWs g.1) (sWs g.1).length) (sumT (sWs g.1) (sWs g.1).length) = some r ∧ nn r = some () := by
    unfold savO
    by_cases e : sumT (sWs g.1) (sWs g.1).length = 0
    · rw [if_pos e]
      exact ⟨_, rfl, by decide⟩
    · have hn := hD.1 (Int64.ofInt (sumS (sWs g.1) (sWs g.1).length)) (Int64.ofInt (sumT (sWs g.1) (sWs g.1).length : Int)) (fun z => e ((T64 (by omega)).mp z))
      rw [if_neg e, hn, Option.bind_some]
      exact ⟨_, rfl, hn⟩
  obtain ⟨r, k1, k2⟩ := key
  refine ⟨r, ?_, ?_, hD.2 r k2⟩
  · unfold f_X8_saving
    rw [h6, k1, Option.bind_some]
  · rw [h9, k1, Option.bind_some]
end GLUE
