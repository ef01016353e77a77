/-! ===== the reference's load ===== -/
theorem load_9c {g : Sg} {m : T9} (hR : R9 g m) (ho : okSg g) : ∃ m', f_X9_load m = some ((anLoad g).1, m') ∧ R9 (anLoad g).2 m' := by
  have hT : Tb9 g.2.2 m := ⟨hR.2.2.2.1, hR.2.2.2.2⟩
  have hA := hR.1
  obtain ⟨hW, hTx, hP, h1, h2, h3, h4, h5, h7, h9⟩ := hR.1
  have ho1 := ho.1
  obtain ⟨o1, o2, o3, o4, o5, o6, o7⟩ := ho.1
  have hlay : f_X9_lays (m.1, m.2.1, m.2.2.1, m.2.2.2.1, 0, m.2.2.2.2.2.1, m.2.2.2.2.2.2.1, m.2.2.2.2.2.2.2.1, m.2.2.2.2.2.2.2.2.1, m.2.2.2.2.2.2.2.2.2) = _ := lays_9 (thr m 0)
  have hws : okWs (readN g.2.2).2 := items_ok okWs_nil
  unfold f_X9_load
  rw [hlay, Option.bind_some]
  dsimp only [thr]
  rw [wr_c (i := 0) 0 rfl (by omega), Option.bind_some]
  have hAA : ∀ i, i < 1050 → (fun i => if i < 1050 then m.1 i else m.2.2.1 i) i = m.1 i := fun i hi => if_pos hi
  generalize (fun i => if i < 1050 then m.1 i else m.2.2.1 i) = A at hAA ⊢
  obtain ⟨r, r1, r2, r3⟩ := items_9 (A := A) hT ho.2.2.1 ho.2.2.2 (F0 := m.1) 51 0 [] (upd m.1 0 0) rfl okWs_nil ⟨upd_e, fun k q hk => by simp at hk⟩ (fun i i0 hi => upd_n i0) (Nat.zero_le _) 5000 (by omega)
  rw [nI_0] at r1
  dsimp only [rdm] at r1
  rw [r1, Option.bind_some]
  unfold anLoad
  cases he : (readN g.2.2).1 with
  | some e =>
    obtain ⟨F', q1⟩ := r2 e he
    subst q1
    rw [Sum.elim_inl]
    refine ⟨_, rfl, hA.congr ho1 (fun i hi => ?_), hR.2⟩
    dsimp only
    rw [if_pos hi, hAA i hi]
  | none =>
    obtain ⟨F', p', q1, q2, q3⟩ := r3 he
    subst q1
    have q2 : R9w (readN g.2.2).2 F' := q2
    generalize (readN g.2.2).2 = ws at q2 hws ⊢
    rw [Sum.elim_inr]
    dsimp only [rdm]
    rw [wr_c (i := 7) 7 rfl (by omega), Option.bind_some]
    have x7 : upd F' 7 0 7 = 0 := upd_e
    have xn : ∀ i, i ≠ 7 → upd F' 7 0 i = F' i := fun i h => upd_n h
    generalize upd F' 7 0 = X at x7 xn ⊢
    have hswap : lp (σ := Int32 × T9) (ρ := T9) (fun v11 => (if 1050 ≤ v11.1 then (some (.inr v11.2)) else Option.bind (α := Int32) (rd v11.2.1 1050 v11.1) (fun x14 => Option.bind (α := Int32) (rd v11.2.2.2.1 1050 v11.1) (fun x15 => Option.bind (α := (Nat → Int32)) (wr v11.2.1 1050 v11.1 x15) (fun x16 => Option.bind (α := (Nat → Int32)) (wr v11.2.2.2.1 1050 v11.1 x14) (fun x17 => (some (.inl ((v11.1 + 1), (x16, v11.2.2.1, x17, v11.2.2.2.2.1, v11.2.2.2.2.2.1, v11.2.2.2.2.2.2.1, v11.2.2.2.2.2.2.2.1, v11.2.2.2.2.2.2.2.2.1, v11.2.2.2.2.2.2.2.2.2.1, v11.2.2.2.2.2.2.2.2.2.2)))))))))) 5000 (0, (X, m.2.1, A, m.2.2.2.1, 0, m.2.2.2.2.2.1, m.2.2.2.2.2.2.1, m.2.2.2.2.2.2.2.1, m.2.2.2.2.2.2.2.2.1, nI p')) = some ((fun i => if i < 1050 then A i else X i), m.2.1, (fun i => if i < 1050 then X i else A i), m.2.2.2.1, 0, m.2.2.2.2.2.1, m.2.2.2.2.2.2.1, m.2.2.2.2.2.2.2.1, m.2.2.2.2.2.2.2.2.1, nI p') := by
      refine lp_go (fun j => (nI j, (((fun i => if i < j then A i else X i), m.2.1, (fun i => if i < j then X i else A i), m.2.2.2.1, 0, m.2.2.2.2.2.1, m.2.2.2.2.2.2.1, m.2.2.2.2.2.2.2.1, m.2.2.2.2.2.2.2.2.1, nI p') : T9))) 1050 _ ?_ (fun j hj => ?_) ?_ (by omega)
      · have a1 : (fun i => if i < 0 then A i else X i) = X := by
          funext i
          rw [if_neg (by omega)]
        have a2 : (fun i => if i < 0 then X i else A i) = A := by
          funext i
          rw [if_neg (by omega)]
        rw [a1, a2, nI_0]
      · have step : ∀ (f f' : Nat → Int32), upd (fun i => if i < j then f i else f' i) j (f j) = (fun i => if i < j + 1 then f i else f' i) := by
          intro f f'
          funext i
          unfold upd
          by_cases e : i = j
          · rw [if_pos e, if_pos (by omega), e]
          · rw [if_neg e]
            dsimp only
            by_cases e3 : i < j
            · rw [if_pos e3, if_pos (by omega)]
            · rw [if_neg e3, if_neg (by omega)]
        dsimp only
        rw [if_neg (show ¬ (1050 : Int32) ≤ nI j from nI_ge (a := j) (b := 1050) hj (by omega)), rd_nI hj (by omega), Option.bind_some, rd_nI hj (by omega), Option.bind_some, wr_nI hj (by omega), Option.bind_some, wr_nI hj (by omega), Option.bind_some, nI_1, if_neg (Nat.lt_irrefl j), if_neg (Nat.lt_irrefl j), step, step]
      · dsimp only
        rw [if_pos (by decide)]
    rw [hswap, Option.bind_some]
    have hRS : R9 g ((fun i => if i < 1050 then A i else X i), m.2.1, (fun i => if i < 1050 then X i else A i), m.2.2.2.1, 0, m.2.2.2.2.2.1, m.2.2.2.2.2.2.1, m.2.2.2.2.2.2.2.1, m.2.2.2.2.2.2.2.2.1, nI p') := ⟨hA.congr ho1 (fun i hi => by dsimp only; rw [if_pos hi, hAA i hi]), hR.2⟩
    obtain ⟨sa, s1, s2⟩ := save_9 hRS ho
    rw [s1, Option.bind_some, takes_9, Option.bind_some]
    dsimp only
    have hKX : ∀ i, i < 1050 → (fun i => if i < 1050 then (if i < 1050 then X i else A i) else (if i < 1050 then A i else X i)) i = X i := fun i hi => by
      dsimp only
      rw [if_pos hi, if_pos hi]
    generalize (fun i => if i < 1050 then (if i < 1050 then X i else A i) else (if i < 1050 then A i else X i)) = K at hKX ⊢
    have hKF : ∀ i, i < 1050 → i ≠ 7 → K i = F' i := fun i hi h => by rw [hKX i hi, xn i h]
    have hK0 : K 0 = nI ws.length := by rw [hKF 0 (by omega) (by omega)]; exact q2.1
    have hKm : ∀ i, i ≠ 0 → i ≠ 7 → (i < 20 ∨ (720 ≤ i ∧ i < 1050)) → K i = m.1 i := fun i i0 i7 hi => by rw [hKF i (by omega) i7, q3 i i0 (by omega)]
    rw [rd_c (i := 0) 0 rfl (by omega) hK0, Option.bind_some]
    refine ⟨_, rfl, ⟨q2.cg hws (fun i hi => hKF i (by omega) (by omega)), hTx.cg o2 (fun i hi => hKm i (by omega) (by omega) (by omega)), hP.cg o4 (fun i hi => hKm i (by omega) (by omega) (by omega)), ?_, ?_, ?_, ?_, ?_, ?_, ?_⟩, rfl, s2, hR.2.2.2.1, hR.2.2.2.2⟩
    · exact (hKm 1 (by omega) (by omega) (by omega)).trans h1
    · exact (hKm 2 (by omega) (by omega) (by omega)).trans h2
    · exact (hKm 3 (by omega) (by omega) (by omega)).trans h3
    · exact (hKm 4 (by omega) (by omega) (by omega)).trans h4
    · exact (hKm 5 (by omega) (by omega) (by omega)).trans h5
    · exact (hKX 7 (by omega)).trans x7
    · exact (hKm 9 (by omega) (by omega) (by omega)).trans h9
