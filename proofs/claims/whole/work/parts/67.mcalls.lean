/-! ===== the reference's calls ===== -/
theorem wAt_some {ws : List Wd} {a : Int32} {k : Nat} (h : wAt ws a = some k) : k < ws.length ∧ a = nI k := by
  unfold wAt at h
  split at h
  · cases h
  · rename_i h0
    split at h
    · rename_i h1
      cases h
      refine ⟨h1, ?_⟩
      obtain ⟨j, hj, e⟩ := nI_of h0
      rw [e, nI_clamp hj]
    · cases h
theorem one_9 (m : T9) (a : Bool) : f_X9_goes m (b01 a) 1 = some (if a then (1, thr m 0) else (0, thr m 1)) := by
  cases a <;> rfl
theorem letter_9c {g : Sg} {m : T9} (hR : R9 g m) (ho : okSg g) (a i : Int32) : An9 (f_X9_letter m a i) (anLetter g a i) := by
  have hW := hR.1.1
  unfold f_X9_letter anLetter
  rw [isWord_9 hW ho.1.1.1 a, Option.bind_some]
  cases h : wAt (sWs g.1) a with
  | none =>
    have h1 : f_X9_goes m 0 1 = _ := one_9 m false
    rw [if_pos (show b01 (none : Option Nat).isSome = 0 from rfl), Option.bind_some, h1]
    exact ⟨0, thr m 1, rfl, hR, rfl, fun z => absurd z (show ¬ (1 : Int32) = 0 by decide)⟩
  | some k =>
    obtain ⟨hk1, rfl⟩ := wAt_some h
    obtain ⟨q, hq⟩ := get_of_lt hk1
    have hqok := (ho.1.1.wd hq).1
    have hql := hqok.1
    dsimp only
    rw [hq, if_neg (show ¬ b01 (some k).isSome = 0 from by simp [b01]), len_9 hW ho.1.1.1 hq, Option.bind_some, inN_9 (by omega), Option.bind_some]
    dsimp only
    by_cases c : i < 0 ∨ q.1.length ≤ i.toNatClampNeg
    · have e1 : (!decide (i < 0) && decide (i.toNatClampNeg < q.1.length)) = false := by
        rcases c with c | c
        · rw [decide_eq_true c]; rfl
        · rw [decide_eq_false (show ¬ i.toNatClampNeg < q.1.length by omega), Bool.and_false]
      have h1 : f_X9_goes m 0 1 = _ := one_9 m false
      rw [e1, if_pos c, if_pos (show b01 false = 0 from rfl), Option.bind_some, h1]
      exact ⟨0, thr m 1, rfl, hR, rfl, fun z => absurd z (show ¬ (1 : Int32) = 0 by decide)⟩
    · have c0 : ¬ i < 0 := fun z => c (Or.inl z)
      have c1 : i.toNatClampNeg < q.1.length := Nat.lt_of_not_le (fun z => c (Or.inr z))
      have e1 : (!decide (i < 0) && decide (i.toNatClampNeg < q.1.length)) = true := by
        rw [decide_eq_false c0, decide_eq_true c1]; rfl
      have h1 : f_X9_goes m 1 1 = _ := one_9 m true
      obtain ⟨j, hj, rfl⟩ := nI_of c0
      rw [nI_clamp hj] at c1
      have hlt : f_X9_letterOf (thr m 0) (nI k) (nI j) = _ := letter_9 (m := thr m 0) hW ho.1.1.1 hq hqok c1
      rw [e1, if_neg c, if_neg (show ¬ b01 true = 0 from by decide), Option.bind_some, h1, Option.bind_some]
      simp only [if_true]
      rw [if_neg (by decide), hlt, Option.bind_some, nI_clamp hj]
      exact ⟨_, _, rfl, hR, rfl, fun _ => rfl⟩
