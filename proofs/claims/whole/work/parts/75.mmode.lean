/-! ===== the reference's calls: mode, next, erase ===== -/
theorem lp_use {σ ρ β : Type} (P : Option β → Prop) {body : σ → Option (σ ⊕ ρ)} {s0 : σ} {C : ρ → Option β} {fuel : Nat} (Inv : Nat → σ → Prop) (Post : ρ → Prop) (N : Nat) (h0 : Inv 0 s0) (h1 : ∀ j s, j < N → Inv j s → ∃ s', body s = some (.inl s') ∧ Inv (j + 1) s') (h2 : ∀ s, Inv N s → ∃ r, body s = some (.inr r) ∧ Post r) (hf : N < fuel) (hk : ∀ r, Post r → P (C r)) : P (Option.bind (lp body fuel s0) C) := by
  obtain ⟨r, e, hp⟩ := lp_inv Inv Post N h0 h1 h2 hf
  rw [e, Option.bind_some]
  exact hk r hp
theorem mode_9c {g : Sg} {m : T9} (hR : R9 g m) (ho : okSg g) (t : Bool) : ∃ m', f_X9_mode m (b01 t) = some (nI (sPl g.1).length, m') ∧ R9 (saveG g (modeS g.1 t)) m' := by
  obtain ⟨sa, k1, k2⟩ := saved_9 hR ho
  have hA := hR.1
  obtain ⟨hW, hT, hP, h1, h2, h3, h4, h5, h7, h9⟩ := hR.1
  have ho1 := ho.1
  obtain ⟨o1, o2, o3, o4, o5, o6, o7⟩ := ho.1
  have hpl := o4.1
  obtain ⟨hs1, hs2⟩ := shL_ok ho1
  have hsl := hs1.1
  have hcl : (cdL (shL g.1)).length = (shL g.1).length := by simp [cdL]
  have k1 : f_X9_save (m.1, m.2.1, m.2.2.1, m.2.2.2.1, 0, m.2.2.2.2.2.1, m.2.2.2.2.2.2.1, m.2.2.2.2.2.2.2.1, m.2.2.2.2.2.2.2.2.1, m.2.2.2.2.2.2.2.2.2) = _ := k1
  obtain ⟨sh, d1, d2⟩ := disp_9 (m := svd m m.1 sa (pushN g.2.1 g.1).length) hA ho1
  unfold f_X9_mode
  rw [k1, Option.bind_some, d1, Option.bind_some]
  cases t with
  | false =>
    refine lp_use (fun z => ∃ m', z = some (nI (sPl g.1).length, m') ∧ R9 (saveG g (modeS g.1 false)) m') (fun _ v => v = (0, shn (svd m m.1 sa (pushN g.2.1 g.1).length) sh (nI (shL g.1).length))) (fun r => r = shn (svd m m.1 sa (pushN g.2.1 g.1).length) sh (nI (shL g.1).length)) 0 rfl (fun j v hj => absurd hj (Nat.not_lt_zero j)) (fun v hv => ?_) (by omega) (fun r hr => ?_)
    · subst hv
      dsimp only [svd]
      rw [rd_c (i := 6) 6 rfl (by omega) hP.1, Option.bind_some]
      by_cases e : nI (sPl g.1).length ≤ 0
      · rw [if_pos e]
        exact ⟨_, rfl, rfl⟩
      · rw [if_neg e, if_pos (show b01 false = 0 from rfl)]
        exact ⟨_, rfl, rfl⟩
    · subst hr
      dsimp only [svd]
      rw [if_pos (show b01 false = 0 from rfl), Option.bind_some, wr_c (i := 4) 4 rfl (by omega), Option.bind_some, wr_c (i := 5) 5 rfl (by omega), Option.bind_some, wr_c (i := 7) 7 rfl (by omega), Option.bind_some, rd_c (i := 6) 6 rfl (by omega) ((upd_n (by omega)).trans ((upd_n (by omega)).trans ((upd_n (by omega)).trans hP.1))), Option.bind_some]
      have hu : ∀ i, i ≠ 4 → i ≠ 5 → i ≠ 7 → upd (upd (upd m.1 4 0) 5 (-1)) 7 0 i = m.1 i := fun i i4 i5 i7 => by rw [upd_n i7, upd_n i5, upd_n i4]
      have c4 : upd (upd (upd m.1 4 0) 5 (-1)) 7 0 4 = 0 := by rw [upd_n (by omega), upd_n (by omega), upd_e]
      have c5 : upd (upd (upd m.1 4 0) 5 (-1)) 7 0 5 = -1 := by rw [upd_n (by omega), upd_e]
      have c7 : upd (upd (upd m.1 4 0) 5 (-1)) 7 0 7 = 0 := upd_e
      generalize upd (upd (upd m.1 4 0) 5 (-1)) 7 0 = F at hu c4 c5 c7 ⊢
      refine ⟨_, rfl, k2 (modeS g.1 false) F _ _ (hA.sc ho1 rfl rfl rfl (fun i hi => hu i (by omega) (by omega) (by omega)) ?_ ?_ ?_ c4 c5 c7 ?_)⟩
      · rw [hu 1 (by omega) (by omega) (by omega)]; exact h1
      · rw [hu 2 (by omega) (by omega) (by omega)]; exact h2
      · rw [hu 3 (by omega) (by omega) (by omega)]; exact h3
      · rw [hu 9 (by omega) (by omega) (by omega)]; exact h9
  | true =>
    refine lp_use (fun z => ∃ m', z = some (nI (sPl g.1).length, m') ∧ R9 (saveG g (modeS g.1 true)) m') (fun j v => ∃ f, v = (nI j, shn (svd m f sa (pushN g.2.1 g.1).length) sh (nI (shL g.1).length)) ∧ (∀ i, (i < 10 ∨ 20 ≤ i) → f i = m.1 i) ∧ ∀ i, i < j → f (10 + i) = nI (100 + (shL g.1).getD i 0)) (fun r => ∃ f, r = shn (svd m f sa (pushN g.2.1 g.1).length) sh (nI (shL g.1).length) ∧ (∀ i, (i < 10 ∨ 20 ≤ i) → f i = m.1 i) ∧ ∀ i, i < (sPl g.1).length → f (10 + i) = nI (100 + (shL g.1).getD i 0)) (sPl g.1).length ⟨m.1, by rw [nI_0], fun _ _ => rfl, fun i h => absurd h (Nat.not_lt_zero i)⟩ (fun j v hj hv => ?_) (fun v hv => ?_) (by omega) (fun r hr => ?_)
    · obtain ⟨f, rfl, v1, v2⟩ := hv
      have hjs : j < (shL g.1).length := by omega
      have e10 : (10 : Int32) + nI j = nI (10 + j) := nI_add 10 j
      have e100 : (100 : Int32) + nI ((shL g.1).getD j 0) = nI (100 + (shL g.1).getD j 0) := nI_add 100 _
      have hsj : sh j = nI ((shL g.1).getD j 0) := by
        rw [d2 j _ (List.getElem?_eq_getElem hjs), List.getD_eq_getElem?_getD, List.getElem?_eq_getElem hjs]
        rfl
      dsimp only [svd]
      rw [rd_c (i := 6) 6 rfl (by omega) ((v1 6 (by omega)).trans hP.1), Option.bind_some, if_neg (nI_ge hj (by omega)), if_neg (show ¬ b01 true = 0 from by decide), rd_nI (by omega) (by omega), Option.bind_some, hsj, e10, e100, wr_c _ rfl (by omega), Option.bind_some, nI_1]
      refine ⟨_, rfl, upd f (10 + j) (nI (100 + (shL g.1).getD j 0)), rfl, fun i hi => ?_, fun i hi => ?_⟩
      · rw [upd_n (by omega)]; exact v1 i hi
      · by_cases e : i = j
        · rw [e, upd_e]
        · rw [upd_n (by omega)]; exact v2 i (by omega)
    · obtain ⟨f, rfl, v1, v2⟩ := hv
      dsimp only [svd]
      rw [rd_c (i := 6) 6 rfl (by omega) ((v1 6 (by omega)).trans hP.1), Option.bind_some, if_pos (nI_le (Nat.le_refl _) (by omega))]
      exact ⟨_, rfl, f, rfl, v1, v2⟩
    · obtain ⟨f, rfl, v1, v2⟩ := hr
      dsimp only [svd]
      rw [if_neg (show ¬ b01 true = 0 from by decide), Option.bind_some, wr_c (i := 4) 4 rfl (by omega), Option.bind_some, wr_c (i := 5) 5 rfl (by omega), Option.bind_some, wr_c (i := 7) 7 rfl (by omega), Option.bind_some, rd_c (i := 6) 6 rfl (by omega) ((upd_n (by omega)).trans ((upd_n (by omega)).trans ((upd_n (by omega)).trans ((v1 6 (by omega)).trans hP.1)))), Option.bind_some]
      have hu : ∀ i, i ≠ 4 → i ≠ 5 → i ≠ 7 → upd (upd (upd f 4 1) 5 (-1)) 7 0 i = f i := fun i i4 i5 i7 => by rw [upd_n i7, upd_n i5, upd_n i4]
      have c4 : upd (upd (upd f 4 1) 5 (-1)) 7 0 4 = 1 := by rw [upd_n (by omega), upd_n (by omega), upd_e]
      have c5 : upd (upd (upd f 4 1) 5 (-1)) 7 0 5 = -1 := by rw [upd_n (by omega), upd_e]
      have c7 : upd (upd (upd f 4 1) 5 (-1)) 7 0 7 = 0 := upd_e
      generalize upd (upd (upd f 4 1) 5 (-1)) 7 0 = F at hu c4 c5 c7 ⊢
      refine ⟨_, rfl, k2 (modeS g.1 true) F _ _ ⟨hW.cg o1 (fun i hi => ?_), hT.cg o2 (fun i hi => ?_), ⟨?_, fun k c hk => ?_⟩, ?_, ?_, ?_, c4, c5, c7, ?_⟩⟩
      · rw [hu i (by omega) (by omega) (by omega), v1 i (by omega)]
      · rw [hu i (by omega) (by omega) (by omega), v1 i (by omega)]
      · rw [hu 6 (by omega) (by omega) (by omega), v1 6 (by omega), hP.1]
        show _ = nI ((cdL (shL g.1)).take (sPl g.1).length).length
        rw [List.length_take, hcl, Nat.min_eq_left hs2]
      · have hk : ((cdL (shL g.1)).take (sPl g.1).length)[k]? = some c := hk
        have hkl := lt_of_get hk
        rw [List.length_take, hcl, Nat.min_eq_left hs2] at hkl
        rw [List.getElem?_take, if_pos hkl] at hk
        have hks : k < (shL g.1).length := by omega
        have hc : c = (shL g.1).getD k 0 + 1 := by
          rw [← cdL_get hks, List.getD_eq_getElem?_getD, hk]
          rfl
        have h26 := getD_lt26 hs1 hks
        rw [hu _ (by omega) (by omega) (by omega), v2 k hkl, hc]
        unfold placeI
        rw [if_pos (by omega), Nat.add_sub_cancel]
      · rw [hu 1 (by omega) (by omega) (by omega), v1 1 (by omega)]; exact h1
      · rw [hu 2 (by omega) (by omega) (by omega), v1 2 (by omega)]; exact h2
      · rw [hu 3 (by omega) (by omega) (by omega), v1 3 (by omega)]; exact h3
      · rw [hu 9 (by omega) (by omega) (by omega), v1 9 (by omega)]; exact h9
theorem next_9c {g : Sg} {m : T9} (hR : R9 g m) (ho : okSg g) : An9 (f_X9_next m) (anNext g) := by
  obtain ⟨sa, k1, k2⟩ := saved_9 hR ho
  have hA := hR.1
  obtain ⟨hW, hT, hP, h1, h2, h3, h4, h5, h7, h9⟩ := hR.1
  have ho1 := ho.1
  obtain ⟨o1, o2, o3, o4, o5, o6, o7⟩ := ho.1
  have hn := sN_le g.1
  have hwl := o1.1
  unfold f_X9_next anNext
  have hj : (if nI (sN g.1) ≤ 0 then some (0 : Int32) else some 1) = some (b01 (!decide (sN g.1 = 0))) := by
    by_cases e : sN g.1 = 0
    · rw [if_pos (show nI (sN g.1) ≤ 0 from by rw [e]; decide), decide_eq_true e]; rfl
    · rw [if_neg (show ¬ nI (sN g.1) ≤ 0 from nI_ge (a := 0) (by omega) (by omega)), decide_eq_false e]; rfl
  rw [candidates_9 hW hP h3 o1 o4, Option.bind_some, hj, Option.bind_some, one_9, Option.bind_some]
  by_cases e : sN g.1 = 0
  · rw [decide_eq_true e, if_pos e]
    exact ⟨0, thr m 1, rfl, hR, rfl, fun z => absurd z (show ¬ (1 : Int32) = 0 by decide)⟩
  · rw [decide_eq_false e, if_neg e]
    have hcho : sCho g.1 < sN g.1 := by rcases o6 with h | h <;> omega
    have hnz : nz (nI (sN g.1)) = some () := by unfold nz; rw [if_neg (nI_ne0 (by omega) (by omega))]
    have hmod : (sCho g.1 + 1) % sN g.1 = nextC g.1 := by
      unfold nextC
      by_cases c : sCho g.1 + 1 < sN g.1
      · rw [if_pos c, Nat.mod_eq_of_lt c]
      · rw [if_neg c, show sCho g.1 + 1 = sN g.1 by omega, Nat.mod_self]
    simp only [Bool.not_false, if_true]
    rw [if_neg (by decide), k1, Option.bind_some]
    dsimp only [svd]
    rw [rd_c (i := 7) 7 rfl (by omega) h7, Option.bind_some, hnz, Option.bind_some, nI_1, pk_rem (by omega) (by omega) (by omega), hmod, wr_c (i := 7) 7 rfl (by omega), Option.bind_some, rd_c (i := 7) 7 rfl (by omega) upd_e, Option.bind_some]
    have hu : ∀ i, i ≠ 7 → upd m.1 7 (nI (nextC g.1)) i = m.1 i := fun i h => upd_n h
    have c7 : upd m.1 7 (nI (nextC g.1)) 7 = nI (nextC g.1) := upd_e
    generalize upd m.1 7 (nI (nextC g.1)) = F at hu c7 ⊢
    refine ⟨_, _, rfl, k2 (choS g.1 (nextC g.1)) F _ _ (hA.sc ho1 rfl rfl rfl (fun i hi => hu i (by omega)) ?_ ?_ ?_ ?_ ?_ c7 ?_), rfl, fun _ => rfl⟩
    · rw [hu 1 (by omega)]; exact h1
    · rw [hu 2 (by omega)]; exact h2
    · rw [hu 3 (by omega)]; exact h3
    · rw [hu 4 (by omega)]; exact h4
    · rw [hu 5 (by omega)]; exact h5
    · rw [hu 9 (by omega)]; exact h9
theorem erase_9c {g : Sg} {m : T9} (hR : R9 g m) (ho : okSg g) : An9 (f_X9_erase m) (anErase g) := by
  obtain ⟨sa, k1, k2⟩ := saved_9 hR ho
  have hA := hR.1
  obtain ⟨hW, hT, hP, h1, h2, h3, h4, h5, h7, h9⟩ := hR.1
  have ho1 := ho.1
  obtain ⟨o1, o2, o3, o4, o5, o6, o7⟩ := ho.1
  have hpl := o4.1
  have htl := o2.1
  unfold f_X9_erase anErase
  have hj : (if nI (sPl g.1).length ≤ 0 then some (0 : Int32) else some 1) = some (b01 (!decide ((sPl g.1).length = 0))) := by
    by_cases e : (sPl g.1).length = 0
    · rw [if_pos (show nI (sPl g.1).length ≤ 0 from by rw [e]; decide), decide_eq_true e]; rfl
    · rw [if_neg (show ¬ nI (sPl g.1).length ≤ 0 from nI_ge (a := 0) (by omega) (by omega)), decide_eq_false e]; rfl
  rw [rd_c (i := 6) 6 rfl (by omega) hP.1, Option.bind_some, hj, Option.bind_some, one_9, Option.bind_some]
  by_cases e : (sPl g.1).length = 0
  · rw [decide_eq_true e, if_pos e]
    exact ⟨0, thr m 1, rfl, hR, rfl, fun z => absurd z (show ¬ (1 : Int32) = 0 by decide)⟩
  · rw [decide_eq_false e, if_neg e]
    simp only [Bool.not_false, if_true]
    have e1 : nI (sPl g.1).length - 1 = nI ((sPl g.1).length - 1) := nI_sub _ 1 (by omega)
    rw [if_neg (by decide), k1, Option.bind_some]
    dsimp only [svd]
    rw [rd_c (i := 6) 6 rfl (by omega) hP.1, Option.bind_some, e1, wr_c (i := 6) 6 rfl (by omega), Option.bind_some, wr_c (i := 5) 5 rfl (by omega), Option.bind_some, wr_c (i := 7) 7 rfl (by omega), Option.bind_some, rd_c (i := 6) 6 rfl (by omega) ((upd_n (by omega)).trans ((upd_n (by omega)).trans upd_e)), Option.bind_some]
    generalize hf : upd (upd (upd m.1 6 (nI ((sPl g.1).length - 1))) 5 (-1)) 7 0 = f
    have hu : ∀ i, i ≠ 6 → i ≠ 5 → i ≠ 7 → f i = m.1 i := fun i i6 i5 i7 => by rw [← hf, upd_n i7, upd_n i5, upd_n i6]
    have f6 : f 6 = nI ((sPl g.1).length - 1) := by rw [← hf, upd_n (by omega), upd_n (by omega), upd_e]
    have f5 : f 5 = -1 := by rw [← hf, upd_n (by omega), upd_e]
    have f7 : f 7 = 0 := by rw [← hf, upd_e]
    have f9 : f 9 = idxI (sOpn g.1) := by rw [hu 9 (by omega) (by omega) (by omega), h9]
    have hWf : R9w (sWs g.1) f := hW.cg o1 (fun i hi => hu i (by omega) (by omega) (by omega))
    have hTf : R9t (sTx g.1) f := hT.cg o2 (fun i hi => hu i (by omega) (by omega) (by omega))
    have hPf : R9p ((sPl g.1).take ((sPl g.1).length - 1)) f := by
      refine ⟨by rw [f6]; simp, fun k c hk => ?_⟩
      have hkl := lt_of_get hk
      rw [List.length_take] at hkl
      rw [List.getElem?_take, if_pos (by omega)] at hk
      rw [hu _ (by omega) (by omega) (by omega), hP.2 k c hk]
    by_cases c1 : (sPl g.1).length ≤ 1
    · rw [if_pos (show nI ((sPl g.1).length - 1) = 0 from by rw [show (sPl g.1).length - 1 = 0 by omega]; rfl), rd_c (i := 9) 9 rfl (by omega) f9, Option.bind_some, Option.bind_some]
      cases hop : sOpn g.1 with
      | none =>
        have hd : dropS g.1 = (sWs g.1, sTx g.1, sClk g.1, sAge g.1, sCmp g.1, sTap g.1, -1, (sPl g.1).take ((sPl g.1).length - 1), 0, none) := by
          unfold dropS
          rw [hop, if_pos c1]
        rw [if_pos (show idxI none = -1 from rfl), Option.bind_some]
        dsimp only
        rw [rd_c (i := 6) 6 rfl (by omega) f6, Option.bind_some, hd]
        refine ⟨_, _, rfl, k2 _ f _ _ ⟨hWf, hTf, hPf, ?_, ?_, ?_, ?_, f5, f7, ?_⟩, rfl, fun _ => rfl⟩
        · rw [hu 1 (by omega) (by omega) (by omega)]; exact h1
        · rw [hu 2 (by omega) (by omega) (by omega)]; exact h2
        · rw [hu 3 (by omega) (by omega) (by omega)]; exact h3
        · rw [hu 4 (by omega) (by omega) (by omega)]; exact h4
        · rw [f9, hop]; rfl
      | some k =>
        have hk := o7 k hop
        have hd : dropS g.1 = (sWs g.1, (sTx g.1).eraseIdx k, sClk g.1, sAge g.1, sCmp g.1, sTap g.1, -1, (sPl g.1).take ((sPl g.1).length - 1), 0, none) := by
          unfold dropS
          rw [hop, if_pos c1]
          dsimp only
          rw [if_pos c1]
        obtain ⟨f2, n1, n2, n3⟩ := goesText_9 (m := svd m f sa (pushN g.2.1 g.1).length) hTf o2 hk
        have n1 : f_X9_goesFromText (f, sa, m.2.2.1, nI (pushN g.2.1 g.1).length, 0, m.2.2.2.2.2.1, m.2.2.2.2.2.2.1, m.2.2.2.2.2.2.2.1, m.2.2.2.2.2.2.2.2.1, m.2.2.2.2.2.2.2.2.2) (idxI (some k)) = _ := n1
        rw [if_neg (idxI_some (by omega)), n1, Option.bind_some]
        dsimp only [svd]
        rw [wr_c (i := 9) 9 rfl (by omega), Option.bind_some, Option.bind_some]
        dsimp only
        have hu2 : ∀ i, i ≠ 8 → i ≠ 9 → i < 720 → upd f2 9 (-1) i = f i := fun i i8 i9 hi => by rw [upd_n i9, n3 i i8 hi]
        have ht2 : R9t ((sTx g.1).eraseIdx k) (upd f2 9 (-1)) := n2.cg (o2.erase k) (fun i hi => upd_n (by omega))
        have c9 : upd f2 9 (-1) 9 = -1 := upd_e
        rw [rd_c (i := 6) 6 rfl (by omega) ((hu2 6 (by omega) (by omega) (by omega)).trans f6), Option.bind_some, hd]
        generalize upd f2 9 (-1) = F at hu2 ht2 c9 ⊢
        refine ⟨_, _, rfl, k2 _ F _ _ ⟨hWf.cg o1 (fun i hi => hu2 i (by omega) (by omega) (by omega)), ht2, hPf.cg (o4.tk _) (fun i hi => hu2 i (by omega) (by omega) (by omega)), ?_, ?_, ?_, ?_, ?_, ?_, c9⟩, rfl, fun _ => rfl⟩
        · rw [hu2 1 (by omega) (by omega) (by omega), hu 1 (by omega) (by omega) (by omega)]; exact h1
        · rw [hu2 2 (by omega) (by omega) (by omega), hu 2 (by omega) (by omega) (by omega)]; exact h2
        · rw [hu2 3 (by omega) (by omega) (by omega), hu 3 (by omega) (by omega) (by omega)]; exact h3
        · rw [hu2 4 (by omega) (by omega) (by omega), hu 4 (by omega) (by omega) (by omega)]; exact h4
        · rw [hu2 5 (by omega) (by omega) (by omega)]; exact f5
        · rw [hu2 7 (by omega) (by omega) (by omega)]; exact f7
    · have hd : dropS g.1 = (sWs g.1, sTx g.1, sClk g.1, sAge g.1, sCmp g.1, sTap g.1, -1, (sPl g.1).take ((sPl g.1).length - 1), 0, sOpn g.1) := by
        unfold dropS
        rw [if_neg c1]
        cases sOpn g.1 with
        | none => rfl
        | some k => dsimp only; rw [if_neg c1]
      rw [if_neg (nI_ne0 (by omega) (by omega)), Option.bind_some]
      dsimp only
      rw [rd_c (i := 6) 6 rfl (by omega) f6, Option.bind_some, hd]
      refine ⟨_, _, rfl, k2 _ f _ _ ⟨hWf, hTf, hPf, ?_, ?_, ?_, ?_, f5, f7, f9⟩, rfl, fun _ => rfl⟩
      · rw [hu 1 (by omega) (by omega) (by omega)]; exact h1
      · rw [hu 2 (by omega) (by omega) (by omega)]; exact h2
      · rw [hu 3 (by omega) (by omega) (by omega)]; exact h3
      · rw [hu 4 (by omega) (by omega) (by omega)]; exact h4
