/-! ===== the digest ===== -/
def digL (h : Int64) (l : List Nat) : Int64 := foldN (fun i a => 31 * a + (nI (l.getD i 0)).toInt64) h l.length
def digV (ws : List Wd) (k : Nat) (q : Wd) (h : Int64) : Int64 := foldN (fun i a => 31 * a + (valI ws k q (nI i)).toInt64) h 5
def digW (ws : List Wd) (k : Nat) (h : Int64) : Int64 := match ws[k]? with
  | some q => 31 * digL (digV ws k q h) q.1 + (nI (stepsN ws k)).toInt64
  | none => h
def digT (tx : List (List Nat)) (k : Nat) (h : Int64) : Int64 := match tx[k]? with
  | some l => digL (31 * h + (nI l.length).toInt64) l
  | none => h
def digG (g : Sg) : Int64 :=
  31 * foldN (fun k a => digT (sTx g.1) k a) (digL (foldN (fun i a => 31 * a + (placeI ((sPl g.1).getD i 0)).toInt64) (foldN (fun k a => digW (sWs g.1) k a) (foldN (fun i a => 31 * a + (setI g.1 (nI i)).toInt64) (31 * 3271 + (nI g.2.2.length).toInt64) 11) (sWs g.1).length) (sPl g.1).length) (shL g.1)) (sTx g.1).length + (nI g.2.1.length).toInt64
theorem mixL_8 {l : List Nat} (h : okL l) (a : Int64) : f_X8_mixedLetters a (pk (cdL l)) = some (digL a l) := by
  have hl := h.1
  have e1 : (cdL l).length = l.length := by simp [cdL]
  unfold f_X8_mixedLetters
  rw [lengthOf_pk h.cd, Option.bind_some, e1]
  refine lp_foldN (fun i a => 31 * a + (nI (l.getD i 0)).toInt64) a l.length _ (fun i hi => ?_) ?_ (by omega)
  · dsimp only
    rw [if_neg (nI_ge hi (by omega)), letterAt_nI h hi, Option.bind_some]
    unfold f_X8_mixed
    rw [Option.bind_some, nI_1]
  · dsimp only
    rw [if_pos (nI_le (Nat.le_refl _) (by omega))]
    rfl
theorem mixW_8 {s : St} {y : T8} (hR : R5 s y.2.2.1) (ho : okSt s) {k : Nat} (hk : k < (sWs s).length) (h : Int64) : f_X8_mixedWord y h (nI k) = some (digW (sWs s) k h) := by
  obtain ⟨q, hq⟩ := get_of_lt hk
  have hw := hR.1
  unfold f_X8_mixedWord
  rw [lp_foldN (fun i a => 31 * a + (valI (sWs s) k q (nI i)).toInt64) h 5 (digV (sWs s) k q h) (fun i hi => ?_) ?_ (by omega), Option.bind_some, wordAt_6 hw ho.1.1 hq, Option.bind_some, mixL_8 (ho.1.wd hq).1, Option.bind_some, stepsTo_6 hw ho.1 hq, Option.bind_some]
  · unfold f_X8_mixed digW
    rw [Option.bind_some, hq]
  · dsimp only
    rw [if_pos (by decide)]
    rfl
  · dsimp only
    have hv : nI i = 0 ∨ nI i = 1 ∨ nI i = 2 ∨ nI i = 3 ∨ nI i = 4 := by
      rcases (show i = 0 ∨ i = 1 ∨ i = 2 ∨ i = 3 ∨ i = 4 by omega) with rfl | rfl | rfl | rfl | rfl <;> decide
    rw [if_neg (show ¬ (5 : Int32) ≤ nI i from nI_ge (a := i) (b := 5) hi (by omega)), valueOf_6 hw ho.1 hq hv, Option.bind_some]
    unfold f_X8_mixed
    rw [Option.bind_some, nI_1]
theorem digest_8 {g : Sg} {x : T8} (hR : R8 g x) (ho : okSg g) : ∃ c, f_X8_digest x = some (digG g, c) := by
  obtain ⟨r1, r2, r3, r4⟩ := hR
  have ho1 := ho.1
  have hwl := ho1.1.1
  have hpl := ho1.2.2.2.1.1
  have htl := ho1.2.1.1
  unfold f_X8_digest f_X8_mixed
  rw [Option.bind_some, r1.1]
  obtain ⟨y, y1, y2⟩ := lp_inv (body := fun (v2 : Int64 × Int32 × T0) => (if 11 ≤ v2.2.1 then (some (.inr (v2.1, v2.2.2))) else Option.bind (α := Int32 × T0) (f_X8_settingOf (x.1, x.2.1, x.2.2.1, x.2.2.2.1, v2.2.2) v2.2.1) (fun x5 => Option.bind (α := Int64) (some ((31 * v2.1) + x5.1.toInt64)) (fun x6 => (some (.inl (x6, (v2.2.1 + 1), x5.2)))))))
    (s0 := (31 * 3271 + (nI g.2.2.length).toInt64, 0, x.2.2.2.2)) (fun j v => v.1 = foldN (fun i a => 31 * a + (setI g.1 (nI i)).toInt64) (31 * 3271 + (nI g.2.2.length).toInt64) j ∧ v.2.1 = nI j) (fun r => r.1 = foldN (fun i a => 31 * a + (setI g.1 (nI i)).toInt64) (31 * 3271 + (nI g.2.2.length).toInt64) 11) 11 ⟨rfl, nI_0.symm⟩
    (fun j v hj hv => by
      obtain ⟨cc, hc⟩ := settingOf_8 (y := (x.1, x.2.1, x.2.2.1, x.2.2.2.1, v.2.2)) r3 ho1 (nI_pos (show j < 2 ^ 31 by omega)) (show nI j < 11 from nI_lt (b := 11) hj (by omega))
      rw [hv.2, if_neg (show ¬ (11 : Int32) ≤ nI j from nI_ge (a := j) (b := 11) hj (by omega)), hc, Option.bind_some, Option.bind_some, nI_1, hv.1]
      exact ⟨_, rfl, rfl, rfl⟩)
    (fun v hv => by
      rw [hv.2, if_pos (by decide)]
      exact ⟨_, rfl, hv.1⟩) (fuel := 5000) (by omega)
  rw [y1, Option.bind_some, r3.1.1, places_5 r3 ho1]
  rw [lp_foldN (fun k a => digW (sWs g.1) k a) y.1 (sWs g.1).length (foldN (fun k a => digW (sWs g.1) k a) y.1 (sWs g.1).length) (fun i hi => by
    dsimp only
    rw [if_neg (nI_ge hi (by omega)), mixW_8 (y := (x.1, x.2.1, x.2.2.1, x.2.2.2.1, y.2)) r3 ho1 hi, Option.bind_some, nI_1]) (by
    dsimp only
    rw [if_pos (nI_le (Nat.le_refl _) (by omega))]) (by omega), Option.bind_some, Option.bind_some]
  rw [lp_foldN (fun i a => 31 * a + (placeI ((sPl g.1).getD i 0)).toInt64) _ (sPl g.1).length (foldN (fun i a => 31 * a + (placeI ((sPl g.1).getD i 0)).toInt64) (foldN (fun k a => digW (sWs g.1) k a) y.1 (sWs g.1).length) (sPl g.1).length) (fun i hi => by
    dsimp only
    rw [if_neg (nI_ge hi (by omega)), placeValue_8 (y := (x.1, x.2.1, x.2.2.1, x.2.2.2.1, y.2)) r3 ho1 hi, Option.bind_some, Option.bind_some, nI_1]) (by
    dsimp only
    rw [if_pos (nI_le (Nat.le_refl _) (by omega))]) (by omega), Option.bind_some]
  obtain ⟨cc, hd⟩ := disp_8 (x := (x.1, x.2.1, x.2.2.1, x.2.2.2.1, y.2)) r3 ho1
  rw [hd, Option.bind_some, mixL_8 (shL_ok ho1).1, Option.bind_some, r3.2.2.1.1]
  rw [lp_foldN (fun k a => digT (sTx g.1) k a) _ (sTx g.1).length (foldN (fun k a => digT (sTx g.1) k a) (digL (foldN (fun i a => 31 * a + (placeI ((sPl g.1).getD i 0)).toInt64) (foldN (fun k a => digW (sWs g.1) k a) y.1 (sWs g.1).length) (sPl g.1).length) (shL g.1)) (sTx g.1).length) (fun i hi => by
    obtain ⟨l, hl⟩ := get_of_lt hi
    have hok := (ho1.2.1.2 l (List.mem_of_getElem? hl)).1
    have e1 : (cdL l).length = l.length := by simp [cdL]
    dsimp only
    rw [if_neg (nI_ge hi (by omega)), wordAt_7 r3.2.2.1 htl hl, Option.bind_some, lengthOf_pk hok.cd, Option.bind_some, Option.bind_some, mixL_8 hok, Option.bind_some, nI_1, e1]
    unfold digT
    rw [hl]) (by
    dsimp only
    rw [if_pos (nI_le (Nat.le_refl _) (by omega))]) (by omega), Option.bind_some, Option.bind_some]
  rw [r4.1, y2]
  exact ⟨_, rfl⟩
