/-! ===== the reference's calls: settings and places ===== -/
theorem inC_9 {a lo hi : Int32} {L H : Int64} (h1 : lo.toInt64 = L) (h2 : hi.toInt64 = H) : f_X9_in a.toInt64 L H = some (b01 (!decide (a < lo ∨ hi < a))) := by
  subst h1
  subst h2
  rw [in_9]
  congr 2
  have l1 : (lo.toInt64 ≤ a.toInt64) ↔ ¬ a < lo := by
    rw [Int64.le_iff_toInt_le, Int32.toInt_toInt64, Int32.toInt_toInt64, Int32.lt_iff_toInt_lt]
    omega
  have l2 : (a.toInt64 ≤ hi.toInt64) ↔ ¬ hi < a := by
    rw [Int64.le_iff_toInt_le, Int32.toInt_toInt64, Int32.toInt_toInt64, Int32.lt_iff_toInt_lt]
    omega
  by_cases c1 : a < lo <;> by_cases c2 : hi < a <;> simp [l1, l2, c1, c2]
/-- only the numbers ahead of the places have changed -/
theorem R9a.sc {s s' : St} {f f' : Nat → Int32} (h : R9a s f) (ho : okSt s) (hw : sWs s' = sWs s) (ht : sTx s' = sTx s) (hp : sPl s' = sPl s) (he : ∀ i, i = 0 ∨ i = 6 ∨ i = 8 ∨ 10 ≤ i → f' i = f i) (h1 : f' 1 = sClk s') (h2 : f' 2 = nI (sAge s')) (h3 : f' 3 = b01 (sCmp s')) (h4 : f' 4 = b01 (sTap s')) (h5 : f' 5 = sPen s') (h7 : f' 7 = nI (sCho s')) (h9 : f' 9 = idxI (sOpn s')) : R9a s' f' :=
  ⟨by rw [hw]; exact h.1.cg ho.1 (fun i hi => he i (by omega)), by rw [ht]; exact h.2.1.cg ho.2.1 (fun i hi => he i (by omega)), by rw [hp]; exact h.2.2.1.cg ho.2.2.2.1 (fun i hi => he i (by omega)), h1, h2, h3, h4, h5, h7, h9⟩
/-- the reference behind a save -/
abbrev svd (m : T9) (f sa : Nat → Int32) (n : Nat) : T9 := (f, sa, m.2.2.1, nI n, 0, m.2.2.2.2.2)
theorem saved_9 {g : Sg} {m : T9} (hR : R9 g m) (ho : okSg g) : ∃ sa, f_X9_save (thr m 0) = some (svd m m.1 sa (pushN g.2.1 g.1).length) ∧ ∀ (s' : St) (f : Nat → Int32) (sh : Nat → Int32) (n : Int32), R9a s' f → R9 (saveG g s') (shn (svd m f sa (pushN g.2.1 g.1).length) sh n) := by
  obtain ⟨sa, k1, k2⟩ := save_9 (m := thr m 0) hR ho
  exact ⟨sa, k1, fun s' f sh n h => ⟨h, rfl, k2, hR.2.2.2.1, hR.2.2.2.2⟩⟩
theorem ways_9c {g : Sg} {m : T9} (hR : R9 g m) (ho : okSg g) (c : Bool) (a : Int32) : An9 (f_X9_setWays m (b01 c) a) (anWays g c a) := by
  obtain ⟨sa, k1, k2⟩ := saved_9 hR ho
  have hA := hR.1
  have hin : f_X9_in a.toInt64 1 50 = _ := inC_9 (a := a) (lo := 1) (hi := 50) (by decide) (by decide)
  unfold f_X9_setWays anWays
  rw [hin, Option.bind_some, one_9, Option.bind_some]
  by_cases h : a < 1 ∨ 50 < a
  · rw [decide_eq_true h, if_pos h]
    exact ⟨0, thr m 1, rfl, hR, rfl, fun z => absurd z (show ¬ (1 : Int32) = 0 by decide)⟩
  · rw [decide_eq_false h, if_neg h]
    simp only [Bool.not_false, if_true]
    have hn : ¬ a < 0 := fun z => h (Or.inl (Int32.lt_trans z (by decide)))
    obtain ⟨j, hj, rfl⟩ := nI_of hn
    have hc : (if b01 c = 0 then some (0 : Int32) else some 1) = some (b01 c) := by cases c <;> rfl
    rw [if_neg (by decide), k1, Option.bind_some]
    dsimp only [svd]
    rw [rd_c (i := 2) 2 rfl (by omega) hA.2.2.2.2.1, Option.bind_some, wr_c (i := 2) 2 rfl (by omega), Option.bind_some, hc, Option.bind_some, wr_c (i := 3) 3 rfl (by omega), Option.bind_some, wr_c (i := 7) 7 rfl (by omega), Option.bind_some, nI_clamp hj]
    have hu : ∀ i, i ≠ 2 → i ≠ 3 → i ≠ 7 → upd (upd (upd m.1 2 (nI j)) 3 (b01 c)) 7 0 i = m.1 i := fun i a b c => by rw [upd_n c, upd_n b, upd_n a]
    have c2 : upd (upd (upd m.1 2 (nI j)) 3 (b01 c)) 7 0 2 = nI j := by rw [upd_n (by omega), upd_n (by omega), upd_e]
    have c3 : upd (upd (upd m.1 2 (nI j)) 3 (b01 c)) 7 0 3 = b01 c := by rw [upd_n (by omega), upd_e]
    have c7 : upd (upd (upd m.1 2 (nI j)) 3 (b01 c)) 7 0 7 = 0 := upd_e
    generalize upd (upd (upd m.1 2 (nI j)) 3 (b01 c)) 7 0 = F at hu c2 c3 c7 ⊢
    refine ⟨_, _, rfl, k2 (waysS g.1 c j) F _ _ (hA.sc ho.1 rfl rfl rfl (fun i hi => hu i (by omega) (by omega) (by omega)) ?_ c2 c3 ?_ ?_ c7 ?_), rfl, fun _ => rfl⟩
    · rw [hu 1 (by omega) (by omega) (by omega)]; exact hA.2.2.2.1
    · rw [hu 4 (by omega) (by omega) (by omega)]; exact hA.2.2.2.2.2.2.1
    · rw [hu 5 (by omega) (by omega) (by omega)]; exact hA.2.2.2.2.2.2.2.1
    · rw [hu 9 (by omega) (by omega) (by omega)]; exact hA.2.2.2.2.2.2.2.2.2
theorem R9p.set {p : List Nat} {f f' : Nat → Int32} (h : R9p p f) (hp : okP p) {k c : Nat} (hk : k < p.length) (h6 : f' 6 = f 6) (he : ∀ i, i < 10 → i ≠ k → f' (10 + i) = f (10 + i)) (hc : f' (10 + k) = placeI c) : R9p (p.set k c) f' := by
  have hl := hp.1
  refine ⟨by rw [h6, h.1]; simp, fun i d hi => ?_⟩
  rw [List.getElem?_set] at hi
  by_cases e : k = i
  · subst e
    rw [if_pos rfl, if_pos hk] at hi
    cases hi
    exact hc
  · rw [if_neg e] at hi
    have := lt_of_get hi
    rw [he i (by omega) (fun z => e z.symm), h.2 i d hi]
theorem R9p.app {p : List Nat} {f f' : Nat → Int32} (h : R9p p f) (hp : okP p) {c : Nat} (h6 : f' 6 = nI (p.length + 1)) (he : ∀ i, i < p.length → f' (10 + i) = f (10 + i)) (hc : f' (10 + p.length) = placeI c) : R9p (p ++ [c]) f' := by
  refine ⟨by rw [h6]; simp, fun i d hi => ?_⟩
  by_cases e : i = p.length
  · subst e
    simp at hi
    subst hi
    exact hc
  · have hil := lt_of_get hi
    simp at hil
    rw [List.getElem?_append_left (by omega)] at hi
    rw [he i (by omega), h.2 i d hi]
theorem press_9c {g : Sg} {m : T9} (hR : R9 g m) (ho : okSg g) (a : Int32) : An9 (f_X9_press m a) (anPress g a) := by
  obtain ⟨sa, k1, k2⟩ := saved_9 hR ho
  have hA := hR.1
  obtain ⟨hW, hT, hP, h1, h2, h3, h4, h5, h7, h9⟩ := hR.1
  have ho1 := ho.1
  obtain ⟨o1, o2, o3, o4, o5, o6, o7⟩ := ho.1
  have hpl := o4.1
  have hin : f_X9_in a.toInt64 2 9 = _ := inC_9 (a := a) (lo := 2) (hi := 9) (by decide) (by decide)
  have ht1 : ∀ {α : Type} (A B : α), (if b01 (sTap g.1) = 1 then A else B) = if sTap g.1 then A else B := fun A B => by cases sTap g.1 <;> rfl
  have e4 : rd m.1 1050 4 = some (b01 (sTap g.1)) := rd_c (i := 4) 4 rfl (by omega) h4
  have e5 : rd m.1 1050 5 = some (sPen g.1) := rd_c (i := 5) 5 rfl (by omega) h5
  have e6 : rd m.1 1050 6 = some (nI (sPl g.1).length) := rd_c (i := 6) 6 rfl (by omega) hP.1
  unfold f_X9_press anPress
  have hj2 : (if b01 (sTap g.1) = 1 then Option.bind (some (sPen g.1)) (fun x4 => (if x4 = a then some (1 : Int32) else some 0)) else some 0) = some (b01 (sTap g.1 && decide (sPen g.1 = a))) := by
    rw [ht1, Option.bind_some]
    cases sTap g.1 with
    | false => rfl
    | true =>
      rw [if_pos rfl]
      by_cases e : sPen g.1 = a
      · rw [if_pos e, decide_eq_true e]; rfl
      · rw [if_neg e, decide_eq_false e]; rfl
  rw [e4, Option.bind_some, e5, hj2, Option.bind_some, hin, Option.bind_some, e6]
  generalize hmv : (sTap g.1 && decide (sPen g.1 = a)) = mv
  have hj7 : (if b01 mv = 0 then Option.bind (some (nI (sPl g.1).length)) (fun x9 => (if (10 : Int32) ≤ x9 then some (0 : Int32) else some 1)) else some 1) = some (b01 (mv || decide ((sPl g.1).length < 10))) := by
    cases mv with
    | true => rfl
    | false =>
      rw [if_pos (show b01 false = 0 from rfl), Option.bind_some]
      by_cases e : (sPl g.1).length < 10
      · rw [if_neg (show ¬ (10 : Int32) ≤ nI (sPl g.1).length from nI_ge (a := (sPl g.1).length) (b := 10) e (by omega)), decide_eq_true e]; rfl
      · rw [if_pos (show (10 : Int32) ≤ nI (sPl g.1).length from nI_le (a := 10) (by omega) (by omega)), decide_eq_false e]; rfl
  rw [hj7, Option.bind_some, goes_9, Option.bind_some]
  by_cases hk : a < 2 ∨ 9 < a
  · rw [decide_eq_true hk, if_pos hk]
    exact ⟨0, thr m 1, rfl, hR, rfl, fun z => absurd z (show ¬ (1 : Int32) = 0 by decide)⟩
  · rw [decide_eq_false hk, if_neg hk]
    have hn : ¬ a < 0 := fun z => hk (Or.inl (Int32.lt_trans z (by decide)))
    obtain ⟨j, hj, rfl⟩ := nI_of hn
    have hj2 : 2 ≤ j ∧ j ≤ 9 := by
      constructor
      · have : ¬ j < 2 := fun z => hk (Or.inl (show nI j < 2 from nI_lt (b := 2) z (by omega)))
        omega
      · have : ¬ 9 < j := fun z => hk (Or.inr (show 9 < nI j from nI_lt (a := 9) z (by omega)))
        omega
    have hfl := firN_lt j (by omega)
    cases mv with
    | true =>
      rw [Bool.and_eq_true, decide_eq_true_eq] at hmv
      have hp1 : sPen g.1 ≠ -1 := fun e => by
        have := hmv.2
        rw [e] at this
        exact nI_pos hj (by rw [← this]; decide)
      obtain ⟨p1, p2, p3⟩ := o5 hp1
      have hl0 : 0 < (sPl g.1).length := List.length_pos_iff.mpr p2
      have hlast := getD_P o4 (i := (sPl g.1).length - 1) (by omega)
      have hcell : m.1 (10 + ((sPl g.1).length - 1)) = placeI ((sPl g.1).getD ((sPl g.1).length - 1) 0) := by
        have hlt : (sPl g.1).length - 1 < (sPl g.1).length := by omega
        have := hP.2 _ _ (List.getElem?_eq_getElem hlt)
        rw [this, List.getD_eq_getElem?_getD, List.getElem?_eq_getElem hlt]
        rfl
      have htn : turnN g.1 = (sWs g.1, sTx g.1, sClk g.1, sAge g.1, sCmp g.1, sTap g.1, sPen g.1, (sPl g.1).set ((sPl g.1).length - 1) (nexN ((sPl g.1).getD ((sPl g.1).length - 1) 0 - 1) + 1), 0, sOpn g.1) := rfl
      rw [if_pos hmv.2, htn]
      generalize hc : (sPl g.1).getD ((sPl g.1).length - 1) 0 = c at p3 hlast hcell ⊢
      have hnx := nexN_lt (c - 1) (by omega)
      have ei : (10 : Int32) + nI (sPl g.1).length - 1 = nI (10 + ((sPl g.1).length - 1)) := by
        have e10 : (10 : Int32) + nI (sPl g.1).length = nI (10 + (sPl g.1).length) := nI_add 10 _
        have := nI_sub (10 + (sPl g.1).length) 1 (by omega)
        rw [e10]
        rw [show 10 + (sPl g.1).length - 1 = 10 + ((sPl g.1).length - 1) by omega] at this
        exact this
      have ep : placeI c - 100 = nI (c - 1) := by
        unfold placeI
        rw [if_pos p3]
        have := nI_sub (100 + (c - 1)) 100 (by omega)
        rw [show 100 + (c - 1) - 100 = c - 1 by omega] at this
        exact this
      have en : (100 : Int32) + nI (nexN (c - 1)) = placeI (nexN (c - 1) + 1) := by
        unfold placeI
        rw [if_pos (by omega), Nat.add_sub_cancel]
        exact nI_add 100 _
      simp only [Bool.not_false, if_true, Bool.true_or]
      rw [if_neg (by decide), k1, Option.bind_some]
      dsimp only [svd]
      rw [wr_c (i := 7) 7 rfl (by omega), Option.bind_some, if_neg (show ¬ b01 true = 0 from by decide), rd_c (i := 6) 6 rfl (by omega) ((upd_n (by omega)).trans hP.1), Option.bind_some, ei, rd_c _ rfl (by omega) ((upd_n (by omega)).trans hcell), Option.bind_some, ep, nextOn_9 _ (by omega), Option.bind_some, wr_c _ rfl (by omega), Option.bind_some, rd_c (i := 6) 6 rfl (by omega) ((upd_n (by omega)).trans ((upd_n (by omega)).trans hP.1)), Option.bind_some, en]
      have hu : ∀ i, i ≠ 7 → i ≠ 10 + ((sPl g.1).length - 1) → upd (upd m.1 7 0) (10 + ((sPl g.1).length - 1)) (placeI (nexN (c - 1) + 1)) i = m.1 i := fun i a b => by rw [upd_n b, upd_n a]
      have c7 : upd (upd m.1 7 0) (10 + ((sPl g.1).length - 1)) (placeI (nexN (c - 1) + 1)) 7 = 0 := by rw [upd_n (by omega), upd_e]
      have cp : upd (upd m.1 7 0) (10 + ((sPl g.1).length - 1)) (placeI (nexN (c - 1) + 1)) (10 + ((sPl g.1).length - 1)) = placeI (nexN (c - 1) + 1) := upd_e
      generalize upd (upd m.1 7 0) (10 + ((sPl g.1).length - 1)) (placeI (nexN (c - 1) + 1)) = F at hu c7 cp ⊢
      refine ⟨_, _, rfl, k2 _ F _ _ ⟨hW.cg o1 (fun i hi => hu i (by omega) (by omega)), hT.cg o2 (fun i hi => hu i (by omega) (by omega)), hP.set o4 (by omega) (hu 6 (by omega) (by omega)) (fun i hi hne => hu _ (by omega) (by omega)) cp, ?_, ?_, ?_, ?_, ?_, c7, ?_⟩, rfl, fun _ => rfl⟩
      · rw [hu 1 (by omega) (by omega)]; exact h1
      · rw [hu 2 (by omega) (by omega)]; exact h2
      · rw [hu 3 (by omega) (by omega)]; exact h3
      · rw [hu 4 (by omega) (by omega)]; exact h4
      · rw [hu 5 (by omega) (by omega)]; exact h5
      · rw [hu 9 (by omega) (by omega)]; exact h9
    | false =>
      have hne : ¬ sPen g.1 = nI j := fun z => by
        have hp1 : sPen g.1 ≠ -1 := fun e => by
          rw [e] at z
          exact nI_pos hj (by rw [← z]; decide)
        rw [(o5 hp1).1, decide_eq_true z] at hmv
        cases hmv
      rw [if_neg hne]
      by_cases hl : (sPl g.1).length < 10
      · rw [if_pos hl, decide_eq_true hl]
        simp only [Bool.not_false, if_true, Bool.or_true]
        have e10 : (10 : Int32) + nI (sPl g.1).length = nI (10 + (sPl g.1).length) := nI_add 10 _
        have hv : (if sTap g.1 = true then Option.bind (f_X9_firstOf (nI j)) (fun x20 => some (100 + x20)) else some (nI j)) = some (placeI (if sTap g.1 then firN j + 1 else 30 + j)) := by
          cases sTap g.1 with
          | true =>
            rw [if_pos rfl, if_pos rfl, firstOf_9 j (by omega) hj2.1, Option.bind_some]
            unfold placeI
            rw [if_pos (by omega), Nat.add_sub_cancel]
            exact congrArg some (nI_add 100 _)
          | false =>
            rw [if_neg (by decide), if_neg (by decide)]
            unfold placeI
            rw [if_neg (by omega), Nat.add_sub_cancel_left]
        have hpn : (if sTap g.1 = true then some (nI j) else some (-1)) = some (if sTap g.1 then nI j else -1) := by cases sTap g.1 <;> rfl
        rw [if_neg (by decide), k1, Option.bind_some]
        dsimp only [svd]
        rw [wr_c (i := 7) 7 rfl (by omega), Option.bind_some, if_pos (show b01 false = 0 from rfl), rd_c (i := 6) 6 rfl (by omega) ((upd_n (by omega)).trans hP.1), Option.bind_some, rd_c (i := 4) 4 rfl (by omega) ((upd_n (by omega)).trans h4), Option.bind_some, ht1, hv, Option.bind_some, e10, wr_c _ rfl (by omega), Option.bind_some, rd_c (i := 6) 6 rfl (by omega) ((upd_n (by omega)).trans ((upd_n (by omega)).trans hP.1)), Option.bind_some, wr_c (i := 6) 6 rfl (by omega), Option.bind_some, nI_1, rd_c (i := 4) 4 rfl (by omega) ((upd_n (by omega)).trans ((upd_n (by omega)).trans ((upd_n (by omega)).trans h4))), Option.bind_some, ht1, hpn, Option.bind_some, wr_c (i := 5) 5 rfl (by omega), Option.bind_some, rd_c (i := 6) 6 rfl (by omega) ((upd_n (by omega)).trans upd_e), Option.bind_some, nI_clamp hj]
        have hu : ∀ i, i ≠ 7 → i ≠ 10 + (sPl g.1).length → i ≠ 6 → i ≠ 5 → upd (upd (upd (upd m.1 7 0) (10 + (sPl g.1).length) (placeI (if sTap g.1 then firN j + 1 else 30 + j))) 6 (nI ((sPl g.1).length + 1))) 5 (if sTap g.1 then nI j else -1) i = m.1 i := fun i a b c d => by rw [upd_n d, upd_n c, upd_n b, upd_n a]
        have c7 : upd (upd (upd (upd m.1 7 0) (10 + (sPl g.1).length) (placeI (if sTap g.1 then firN j + 1 else 30 + j))) 6 (nI ((sPl g.1).length + 1))) 5 (if sTap g.1 then nI j else -1) 7 = 0 := by rw [upd_n (by omega), upd_n (by omega), upd_n (by omega), upd_e]
        have cp : upd (upd (upd (upd m.1 7 0) (10 + (sPl g.1).length) (placeI (if sTap g.1 then firN j + 1 else 30 + j))) 6 (nI ((sPl g.1).length + 1))) 5 (if sTap g.1 then nI j else -1) (10 + (sPl g.1).length) = placeI (if sTap g.1 then firN j + 1 else 30 + j) := by rw [upd_n (by omega), upd_n (by omega), upd_e]
        have c6 : upd (upd (upd (upd m.1 7 0) (10 + (sPl g.1).length) (placeI (if sTap g.1 then firN j + 1 else 30 + j))) 6 (nI ((sPl g.1).length + 1))) 5 (if sTap g.1 then nI j else -1) 6 = nI ((sPl g.1).length + 1) := by rw [upd_n (by omega), upd_e]
        have c5 : upd (upd (upd (upd m.1 7 0) (10 + (sPl g.1).length) (placeI (if sTap g.1 then firN j + 1 else 30 + j))) 6 (nI ((sPl g.1).length + 1))) 5 (if sTap g.1 then nI j else -1) 5 = (if sTap g.1 then nI j else -1) := upd_e
        generalize upd (upd (upd (upd m.1 7 0) (10 + (sPl g.1).length) (placeI (if sTap g.1 then firN j + 1 else 30 + j))) 6 (nI ((sPl g.1).length + 1))) 5 (if sTap g.1 then nI j else -1) = F at hu c7 cp c6 c5 ⊢
        refine ⟨_, _, rfl, k2 (addN g.1 j) F _ _ ⟨hW.cg o1 (fun i hi => hu i (by omega) (by omega) (by omega) (by omega)), hT.cg o2 (fun i hi => hu i (by omega) (by omega) (by omega) (by omega)), hP.app o4 c6 (fun i hi => hu _ (by omega) (by omega) (by omega) (by omega)) cp, ?_, ?_, ?_, ?_, c5, c7, ?_⟩, rfl, fun _ => rfl⟩
        · rw [hu 1 (by omega) (by omega) (by omega) (by omega)]; exact h1
        · rw [hu 2 (by omega) (by omega) (by omega) (by omega)]; exact h2
        · rw [hu 3 (by omega) (by omega) (by omega) (by omega)]; exact h3
        · rw [hu 4 (by omega) (by omega) (by omega) (by omega)]; exact h4
        · rw [hu 9 (by omega) (by omega) (by omega) (by omega)]; exact h9
      · rw [if_neg hl, decide_eq_false hl]
        exact ⟨0, thr m 2, rfl, hR, rfl, fun z => absurd z (show ¬ (2 : Int32) = 0 by decide)⟩
