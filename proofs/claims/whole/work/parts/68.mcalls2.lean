/-! ===== the reference's calls, on ===== -/
theorem candidate_9c {g : Sg} {m : T9} (hR : R9 g m) (ho : okSg g) (a : Int32) : An9 (f_X9_candidate m a) (anCand g a) := by
  have hA := hR.1
  have hn := sN_le g.1
  have hwl := ho.1.1.1
  unfold f_X9_candidate anCand
  rw [candidates_9 hA.1 hA.2.2.1 hA.2.2.2.2.2.1 ho.1.1 ho.1.2.2.2.1, Option.bind_some, inN_9 (by omega), Option.bind_some]
  by_cases c : a < 0 ∨ sN g.1 ≤ a.toNatClampNeg
  · have e1 : (!decide (a < 0) && decide (a.toNatClampNeg < sN g.1)) = false := by
      rcases c with c | c
      · rw [decide_eq_true c]; rfl
      · rw [decide_eq_false (show ¬ a.toNatClampNeg < sN g.1 by omega), Bool.and_false]
    have h1 : f_X9_goes m (b01 false) 1 = _ := one_9 m false
    rw [e1, if_pos c, h1]
    exact ⟨0, thr m 1, rfl, hR, rfl, fun z => absurd z (show ¬ (1 : Int32) = 0 by decide)⟩
  · have c0 : ¬ a < 0 := fun z => c (Or.inl z)
    have c1 : a.toNatClampNeg < sN g.1 := Nat.lt_of_not_le (fun z => c (Or.inr z))
    have e1 : (!decide (a < 0) && decide (a.toNatClampNeg < sN g.1)) = true := by
      rw [decide_eq_false c0, decide_eq_true c1]; rfl
    have hne : sPl g.1 ≠ [] := fun e => by
      unfold sN at c1
      rw [if_pos e] at c1
      omega
    obtain ⟨j, hj, rfl⟩ := nI_of c0
    have hc : f_X9_candidateAt (thr m 0) (nI j) = _ := candidateAt_9 (m := thr m 0) hA.1 hA.2.2.1 hA.2.2.2.2.2.1 ho.1.1 ho.1.2.2.2.1 hne hj
    rw [e1, if_neg c, one_9 m true, Option.bind_some]
    simp only [if_true]
    rw [if_neg (by decide), hc, Option.bind_some, nI_clamp hj]
    exact ⟨_, _, rfl, hR, rfl, fun _ => rfl⟩
theorem pause_9c {g : Sg} {m : T9} (hR : R9 g m) (ho : okSg g) : ∃ m', f_X9_pause m = some (sPen g.1, m') ∧ R9 (saveG g (pauS g.1)) m' := by
  obtain ⟨sa, k1, k2⟩ := save_9 (m := thr m 0) hR ho
  obtain ⟨h1, h2, h3, h4, h5⟩ := hR
  have k1 : f_X9_save (m.1, m.2.1, m.2.2.1, m.2.2.2.1, 0, m.2.2.2.2.2.1, m.2.2.2.2.2.2.1, m.2.2.2.2.2.2.2.1, m.2.2.2.2.2.2.2.2.1, m.2.2.2.2.2.2.2.2.2) = _ := k1
  have hr : rd m.1 1050 5 = some (sPen g.1) := by
    have h : rd m.1 1050 (nI 5) = some (m.1 5) := rd_nI (by omega) (by omega)
    rw [h1.2.2.2.2.2.2.2.1] at h
    exact h
  have hw : wr m.1 1050 5 (-1) = some (upd m.1 5 (-1)) := wr_nI (i := 5) (by omega) (by omega)
  unfold f_X9_pause
  rw [k1, Option.bind_some]
  dsimp only [thr]
  rw [hr, Option.bind_some, hw, Option.bind_some]
  refine ⟨_, rfl, ?_, rfl, k2, h4, h5⟩
  obtain ⟨a1, a2, a3, a4, a5, a6, a7, a8, a9, a10⟩ := h1
  have hu : ∀ i, i ≠ 5 → upd m.1 5 (-1) i = m.1 i := fun i hi => by unfold upd; rw [if_neg hi]
  refine ⟨⟨(hu 0 (by omega)).trans a1.1, fun k q hk => ?_⟩, ⟨(hu 8 (by omega)).trans a2.1, fun k l hk => ?_⟩, ⟨(hu 6 (by omega)).trans a3.1, fun k c hk => ?_⟩, (hu 1 (by omega)).trans a4, (hu 2 (by omega)).trans a5, (hu 3 (by omega)).trans a6, (hu 4 (by omega)).trans a7, ?_, (hu 7 (by omega)).trans a9, (hu 9 (by omega)).trans a10⟩
  · obtain ⟨b1, b2, b3, b4, b5⟩ := a1.2 k q hk
    exact ⟨(hu _ (by omega)).trans b1, (hu _ (by omega)).trans b2, (hu _ (by omega)).trans b3, (hu _ (by omega)).trans b4, fun i a hi => (hu _ (by omega)).trans (b5 i a hi)⟩
  · obtain ⟨b1, b2⟩ := a2.2 k l hk
    exact ⟨(hu _ (by omega)).trans b1, fun i a hi => (hu _ (by omega)).trans (b2 i a hi)⟩
  · exact (hu _ (by omega)).trans (a3.2 k c hk)
  · show upd m.1 5 (-1) 5 = -1
    unfold upd
    rw [if_pos rfl]
