/-! ===== the reference's questions ===== -/
theorem in_9 {v lo hi : Int64} : f_X9_in v lo hi = some (b01 (decide (lo ≤ v) && decide (v ≤ hi))) := by
  unfold f_X9_in
  by_cases h1 : v < lo
  · rw [if_pos h1, decide_eq_false (Int64.not_le.mpr h1)]
    rfl
  · rw [if_neg h1, decide_eq_true (Int64.not_lt.mp h1)]
    by_cases h2 : hi < v
    · rw [if_pos h2, decide_eq_false (Int64.not_le.mpr h2)]
      rfl
    · rw [if_neg h2, decide_eq_true (Int64.not_lt.mp h2)]
      rfl
/-- the reference with another note of what was thrown -/
def thr (m : T9) (k : Int32) : T9 := (m.1, m.2.1, m.2.2.1, m.2.2.2.1, k, m.2.2.2.2.2)
theorem goes_9 (m : T9) (a b : Bool) : f_X9_goes m (b01 a) (b01 b) = some (if a then (if b then (1, thr m 0) else (0, thr m 2)) else (0, thr m 1)) := by
  cases a <;> cases b <;> rfl
theorem R9.thr {g : Sg} {m : T9} (h : R9 g m) (k : Int32) : R9 g (thr m k) := h
theorem thrown_9 (m : T9) (k : Int32) : f_X9_thrown (thr m k) = some k := rfl
/-- an index within n -/
theorem inN_9 {a : Int32} {n : Nat} (hn : n < 2 ^ 30) : f_X9_in a.toInt64 0 ((nI n).toInt64 - 1) = some (b01 (!decide (a < 0) && decide (a.toNatClampNeg < n))) := by
  rw [in_9]
  congr 2
  have e1 : ((nI n).toInt64 - 1).toInt = (n : Int) - 1 := by
    rw [Int64.toInt_sub, Int32.toInt_toInt64, nI_toInt (by omega)]
    show ((n : Int) - 1).bmod (2 ^ 64) = _
    exact Int.bmod_eq_of_le (by omega) (by omega)
  have e2 : a.toInt64.toInt = a.toInt := Int32.toInt_toInt64 a
  have l1 : (0 ≤ a.toInt64) ↔ ¬ a < 0 := by
    rw [Int64.le_iff_toInt_le, e2, Int32.lt_iff_toInt_lt]
    show (0 : Int) ≤ a.toInt ↔ ¬ a.toInt < 0
    omega
  have l2 : (a.toInt64 ≤ (nI n).toInt64 - 1) ↔ a.toInt ≤ (n : Int) - 1 := by
    rw [Int64.le_iff_toInt_le, e1, e2]
  by_cases h0 : a < 0
  · rw [decide_eq_false (fun z => (l1.mp z) h0), decide_eq_true h0]
    rfl
  · rw [decide_eq_true (l1.mpr h0), decide_eq_false h0]
    obtain ⟨j, hj, rfl⟩ := nI_of h0
    rw [nI_clamp hj]
    rw [nI_toInt hj] at l2
    by_cases h1 : j < n
    · rw [decide_eq_true (l2.mpr (by omega)), decide_eq_true h1]
      rfl
    · rw [decide_eq_false (fun z => h1 (by have := l2.mp z; omega)), decide_eq_false h1]
      rfl
theorem isWord_9 {m : T9} {ws : List Wd} (hW : R9w ws m.1) (hl : ws.length ≤ 50) (a : Int32) : f_X9_isWord m a = some (b01 (wAt ws a).isSome) := by
  unfold f_X9_isWord
  rw [many_9 hW, Option.bind_some, inN_9 (by omega), Option.bind_some, bz_01, Option.bind_some]
  unfold wAt
  by_cases h0 : a < 0
  · rw [if_pos h0, decide_eq_true h0]
    rfl
  · rw [if_neg h0, decide_eq_false h0]
    by_cases h1 : a.toNatClampNeg < ws.length
    · rw [if_pos h1, decide_eq_true h1]
      rfl
    · rw [if_neg h1, decide_eq_false h1]
      rfl
/-- what the reference answers -/
def An9 (f : Option (Int32 × T9)) (a : An) : Prop := ∃ v m', f = some (v, m') ∧ R9 a.2.2 m' ∧ f_X9_thrown m' = some a.1 ∧ (a.1 = 0 → v = a.2.1)
theorem steps_9 {g : Sg} {m : T9} (hR : R9 g m) (ho : okSg g) (a : Int32) : An9 (f_X9_steps m a) (anSteps g a) := by
  have hW := hR.1.1
  unfold f_X9_steps anSteps
  rw [isWord_9 hW ho.1.1.1 a, Option.bind_some]
  have hg := goes_9 m (wAt (sWs g.1) a).isSome true
  have hg : f_X9_goes m (b01 (wAt (sWs g.1) a).isSome) 1 = _ := hg
  rw [hg, Option.bind_some]
  cases h : wAt (sWs g.1) a with
  | none => exact ⟨0, thr m 1, rfl, hR, rfl, fun z => absurd z (show ¬ (1 : Int32) = 0 by decide)⟩
  | some k =>
    have hk : k < (sWs g.1).length ∧ a = nI k := by
      unfold wAt at h
      split at h
      · cases h
      · rename_i h0
        split at h
        · rename_i h1
          cases h
          refine ⟨h1, ?_⟩
          obtain ⟨j, hj, e⟩ := nI_of h0
          rw [e, nI_clamp hj]
        · cases h
    obtain ⟨hk1, rfl⟩ := hk
    obtain ⟨q, hq⟩ := get_of_lt hk1
    have hs : f_X9_stepsOf (thr m 0) (nI k) = _ := stepsOf_9 (m := thr m 0) hW ho.1.1 hq
    simp only [Option.isSome_some, if_true]
    rw [if_neg (by decide), hs, Option.bind_some]
    exact ⟨_, _, rfl, hR, rfl, fun _ => rfl⟩
