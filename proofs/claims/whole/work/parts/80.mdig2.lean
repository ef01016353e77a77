/-! ===== the reference: the digest, whole ===== -/
theorem digT_9 {m : T9} {tx : List (List Nat)} (hT : R9t tx m.1) (ho : okTx tx) {k : Nat} (hk : k < tx.length) (h : Int64) : lp (σ := Int64 × Int32) (ρ := Int64) (fun v28 => Option.bind (α := Int32) (rd m.1 1050 (720 + (11 * nI k))) (fun x30 => (if x30 < v28.2 then (some (.inr v28.1)) else Option.bind (α := Int32) (rd m.1 1050 ((720 + (11 * nI k)) + v28.2)) (fun x32 => Option.bind (α := Int64) (f_X9_sums v28.1 x32.toInt64) (fun x33 => (some (.inl (x33, (v28.2 + 1))))))))) 5000 (h, 0) = some (digT tx k h) := by
  have htl := ho.1
  obtain ⟨l, hl⟩ := get_of_lt hk
  have hok := (ho.2 l (List.mem_of_getElem? hl)).1
  have hll := hok.1
  obtain ⟨t1, t2⟩ := hT.2 k l hl
  have hv : ∀ i, i < l.length → m.1 (720 + 11 * k + (i + 1)) = nI (l.getD i 0) := fun i hi => by
    rw [show 720 + 11 * k + (i + 1) = 720 + 11 * k + 1 + i by omega, t2 i _ (List.getElem?_eq_getElem hi), List.getD_eq_getElem?_getD, List.getElem?_eq_getElem hi]
    rfl
  have hd : digT tx k h = foldN (fun i a => 31 * a + (m.1 (720 + 11 * k + i)).toInt64) h (l.length + 1) := by
    unfold digT
    rw [hl]
    dsimp only
    rw [fold_tx l h (fun i => (m.1 (720 + 11 * k + i)).toInt64) (by rw [Nat.add_zero, t1]) (fun i hi => by rw [hv i hi])]
  rw [hd, tx_at]
  unfold f_X9_sums
  refine lp_foldN (fun i a => 31 * a + (m.1 (720 + 11 * k + i)).toInt64) h (l.length + 1) _ (fun i hi => ?_) ?_ (by omega)
  · rw [rd_c _ rfl (by omega) t1, Option.bind_some]
    dsimp only
    rw [if_neg (nI_nlt (by omega) (by omega)), nI_add, rd_c _ rfl (by omega) rfl, Option.bind_some, Option.bind_some, nI_1]
  · rw [rd_c _ rfl (by omega) t1, Option.bind_some]
    dsimp only
    rw [if_pos (nI_lt (by omega) (by omega))]
theorem digest_9c {g : Sg} {m : T9} (hR : R9 g m) (ho : okSg g) : ∃ m', f_X9_digest m = some (digG g, m') ∧ R9 g m' := by
  have hA := hR.1
  obtain ⟨hW, hT, hP, a1, a2, a3, a4, a5, a7, a9⟩ := hR.1
  have ho1 := ho.1
  obtain ⟨o1, o2, o3, o4, o5, o6, o7⟩ := ho.1
  have hwl := o1.1
  have hpl := o4.1
  have htl := o2.1
  obtain ⟨sh, d1, d2⟩ := disp_9 (m := thr m 0) hA ho1
  have hs1 := (shL_ok ho1).1
  have hsl := hs1.1
  have d1 : f_X9_laysDisplay (m.1, m.2.1, m.2.2.1, m.2.2.2.1, 0, m.2.2.2.2.2.1, m.2.2.2.2.2.2.1, m.2.2.2.2.2.2.2.1, m.2.2.2.2.2.2.2.2.1, m.2.2.2.2.2.2.2.2.2) = _ := d1
  have hset : ∀ i, i < 11 → f_X9_settingOf (m.1, m.2.1, m.2.2.1, m.2.2.2.1, 0, m.2.2.2.2.2.1, m.2.2.2.2.2.2.1, m.2.2.2.2.2.2.2.1, m.2.2.2.2.2.2.2.2.1, m.2.2.2.2.2.2.2.2.2) (nI i) = some (setI g.1 (nI i)) := fun i hi => settingOf_9 (m := thr m 0) hA ho1 (nI_pos (by omega)) (show nI i < 11 from nI_lt (b := 11) hi (by omega))
  have hwd : ∀ i h, i < (sWs g.1).length → f_X9_withWord (m.1, m.2.1, m.2.2.1, m.2.2.2.1, 0, m.2.2.2.2.2.1, m.2.2.2.2.2.2.1, m.2.2.2.2.2.2.2.1, m.2.2.2.2.2.2.2.2.1, m.2.2.2.2.2.2.2.2.2) h (nI i) = some (digW (sWs g.1) i h) := fun i h hi => withWord_9 (m := thr m 0) hW o1 hi h
  have hpv : ∀ i, i < (sPl g.1).length → m.1 (10 + i) = placeI ((sPl g.1).getD i 0) := fun i hi => by
    rw [hP.2 i _ (List.getElem?_eq_getElem hi), List.getD_eq_getElem?_getD, List.getElem?_eq_getElem hi]
    rfl
  have hsv : ∀ i, i < (shL g.1).length → sh i = nI ((shL g.1).getD i 0) := fun i hi => by
    rw [d2 i _ (List.getElem?_eq_getElem hi), List.getD_eq_getElem?_getD, List.getElem?_eq_getElem hi]
    rfl
  refine ⟨shn (thr m 0) sh (nI (shL g.1).length), ?_, hR⟩
  unfold f_X9_digest
  have hs0 : f_X9_sums 3271 m.2.2.2.2.2.2.2.2.1.toInt64 = some (31 * 3271 + (nI g.2.2.length).toInt64) := by
    rw [hR.2.2.2.1]
    rfl
  have hsum : ∀ a b : Int64, f_X9_sums a b = some (31 * a + b) := fun a b => rfl
  rw [hs0, Option.bind_some]
  rw [lp_foldN (fun i a => 31 * a + (setI g.1 (nI i)).toInt64) (31 * 3271 + (nI g.2.2.length).toInt64) 11 (foldN (fun i a => 31 * a + (setI g.1 (nI i)).toInt64) (31 * 3271 + (nI g.2.2.length).toInt64) 11) (fun i hi => by
    dsimp only
    rw [if_neg (show ¬ (11 : Int32) ≤ nI i from nI_ge (a := i) (b := 11) hi (by omega)), hset i hi, Option.bind_some, hsum, Option.bind_some, nI_1]) (by
    dsimp only
    rw [if_pos (by decide)]) (by omega), Option.bind_some]
  unfold digG
  generalize foldN (fun i a => 31 * a + (setI g.1 (nI i)).toInt64) (31 * 3271 + (nI g.2.2.length).toInt64) 11 = y1
  rw [many_9 hW]
  rw [lp_foldN (fun k a => digW (sWs g.1) k a) y1 (sWs g.1).length (foldN (fun k a => digW (sWs g.1) k a) y1 (sWs g.1).length) (fun i hi => by
    rw [Option.bind_some]
    dsimp only
    rw [if_neg (nI_ge hi (by omega)), hwd i _ hi, Option.bind_some, nI_1]) (by
    rw [Option.bind_some]
    dsimp only
    rw [if_pos (nI_le (Nat.le_refl _) (by omega))]) (by omega), Option.bind_some]
  generalize foldN (fun k a => digW (sWs g.1) k a) y1 (sWs g.1).length = y2
  rw [places_9 hP]
  rw [lp_foldN (fun i a => 31 * a + (placeI ((sPl g.1).getD i 0)).toInt64) y2 (sPl g.1).length (foldN (fun i a => 31 * a + (placeI ((sPl g.1).getD i 0)).toInt64) y2 (sPl g.1).length) (fun i hi => by
    have e10 : (10 : Int32) + nI i = nI (10 + i) := nI_add 10 i
    rw [Option.bind_some]
    dsimp only
    rw [if_neg (nI_ge hi (by omega)), e10, rd_c _ rfl (by omega) (hpv i hi), Option.bind_some, hsum, Option.bind_some, nI_1]) (by
    rw [Option.bind_some]
    dsimp only
    rw [if_pos (nI_le (Nat.le_refl _) (by omega))]) (by omega), Option.bind_some]
  generalize foldN (fun i a => 31 * a + (placeI ((sPl g.1).getD i 0)).toInt64) y2 (sPl g.1).length = y3
  rw [d1, Option.bind_some]
  dsimp only [thr]
  rw [lp_foldN (fun i a => 31 * a + (nI ((shL g.1).getD i 0)).toInt64) y3 (shL g.1).length (digL y3 (shL g.1)) (fun i hi => by
    dsimp only
    rw [if_neg (nI_ge hi (by omega)), rd_nI (by omega) (by omega), Option.bind_some, hsv i hi, hsum, Option.bind_some, nI_1]) (by
    dsimp only
    rw [if_pos (nI_le (Nat.le_refl _) (by omega))]
    rfl) (by omega), Option.bind_some]
  generalize digL y3 (shL g.1) = y4
  have e8 : rd m.1 1050 8 = some (nI (sTx g.1).length) := rd_c 8 rfl (by omega) hT.1
  rw [e8]
  rw [lp_foldN (fun k a => digT (sTx g.1) k a) y4 (sTx g.1).length (foldN (fun k a => digT (sTx g.1) k a) y4 (sTx g.1).length) (fun i hi => by
    rw [Option.bind_some]
    dsimp only
    rw [if_neg (nI_ge hi (by omega)), digT_9 hT o2 hi, Option.bind_some, nI_1]) (by
    rw [Option.bind_some]
    dsimp only
    rw [if_pos (nI_le (Nat.le_refl _) (by omega))]) (by omega), Option.bind_some, hsum, Option.bind_some, hR.2.1]
