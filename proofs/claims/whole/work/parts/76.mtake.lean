/-! ===== the reference's calls: accept, open ===== -/
theorem R9t.put {tx : List (List Nat)} {f f' : Nat → Int32} (h : R9t tx f) (ho : okTx tx) {k : Nat} {l : List Nat} (hk : k < tx.length) (h8 : f' 8 = f 8) (he : ∀ i, 720 ≤ i → (i < 720 + 11 * k ∨ 720 + 11 * k + 11 ≤ i) → f' i = f i) (c0 : f' (720 + 11 * k) = nI l.length) (c1 : ∀ i a, l[i]? = some a → f' (720 + 11 * k + 1 + i) = nI a) : R9t (tx.set k l) f' := by
  refine ⟨by rw [h8, h.1]; simp, fun i p hi => ?_⟩
  rw [List.getElem?_set] at hi
  by_cases e : k = i
  · subst e
    rw [if_pos rfl, if_pos hk] at hi
    cases hi
    exact ⟨c0, c1⟩
  · rw [if_neg e] at hi
    have hp := (ho.2 p (List.mem_of_getElem? hi)).1.1
    obtain ⟨a1, a2⟩ := h.2 i p hi
    exact ⟨by rw [he _ (by omega) (by omega), a1], fun c a hc => by
      have := lt_of_get hc
      rw [he _ (by omega) (by omega), a2 c a hc]⟩
theorem R9t.app {tx : List (List Nat)} {f f' : Nat → Int32} (h : R9t tx f) (ho : okTx tx) {l : List Nat} (h8 : f' 8 = nI (tx.length + 1)) (he : ∀ i, 720 ≤ i → i < 720 + 11 * tx.length → f' i = f i) (c0 : f' (720 + 11 * tx.length) = nI l.length) (c1 : ∀ i a, l[i]? = some a → f' (720 + 11 * tx.length + 1 + i) = nI a) : R9t (tx ++ [l]) f' := by
  refine ⟨by rw [h8]; simp, fun i p hi => ?_⟩
  by_cases e : i = tx.length
  · subst e
    simp at hi
    subst hi
    exact ⟨c0, c1⟩
  · have hil := lt_of_get hi
    simp at hil
    rw [List.getElem?_append_left (by omega)] at hi
    have hp := (ho.2 p (List.mem_of_getElem? hi)).1.1
    obtain ⟨a1, a2⟩ := h.2 i p hi
    exact ⟨by rw [he _ (by omega) (by omega), a1], fun c a hc => by
      have := lt_of_get hc
      rw [he _ (by omega) (by omega), a2 c a hc]⟩
theorem accept_9c {g : Sg} {m : T9} (hR : R9 g m) (ho : okSg g) : An9 (f_X9_accept m) (anAccept g) := by
  obtain ⟨sa, k1, k2⟩ := saved_9 hR ho
  have hA := hR.1
  obtain ⟨hW, hT, hP, h1, h2, h3, h4, h5, h7, h9⟩ := hR.1
  have ho1 := ho.1
  obtain ⟨o1, o2, o3, o4, o5, o6, o7⟩ := ho.1
  have hpl := o4.1
  have htl := o2.1
  obtain ⟨hs1, hs2⟩ := shL_ok ho1
  have hsl := hs1.1
  have hopv : ∀ k, sOpn g.1 = some k → ¬ idxI (some k) = -1 := fun k hk => idxI_some (by have := o7 k hk; omega)
  unfold f_X9_accept anAccept
  have hj : (if nI (sPl g.1).length ≤ 0 then some (0 : Int32) else Option.bind (rd m.1 1050 9) (fun x4 => (if x4 = (-1) then Option.bind (rd m.1 1050 8) (fun x6 => (if (30 : Int32) ≤ x6 then some 0 else some 1)) else some 1))) = some (b01 (!decide ((sPl g.1).length = 0 ∨ (sOpn g.1 = none ∧ 30 ≤ (sTx g.1).length)))) := by
    by_cases e : (sPl g.1).length = 0
    · rw [if_pos (show nI (sPl g.1).length ≤ 0 from by rw [e]; decide), decide_eq_true (Or.inl e)]; rfl
    · rw [if_neg (show ¬ nI (sPl g.1).length ≤ 0 from nI_ge (a := 0) (by omega) (by omega)), rd_c (i := 9) 9 rfl (by omega) h9, Option.bind_some, rd_c (i := 8) 8 rfl (by omega) hT.1, Option.bind_some]
      cases hop : sOpn g.1 with
      | none =>
        rw [if_pos (show idxI none = -1 from rfl)]
        by_cases c : 30 ≤ (sTx g.1).length
        · rw [if_pos (show (30 : Int32) ≤ nI (sTx g.1).length from nI_le (a := 30) c (by omega)), decide_eq_true (Or.inr ⟨rfl, c⟩)]; rfl
        · rw [if_neg (show ¬ (30 : Int32) ≤ nI (sTx g.1).length from nI_ge (a := (sTx g.1).length) (b := 30) (by omega) (by omega)), decide_eq_false (fun z => z.elim e (fun q => c q.2))]; rfl
      | some k =>
        rw [if_neg (hopv k hop), decide_eq_false (fun z => z.elim e (fun q => by cases q.1))]; rfl
  rw [rd_c (i := 6) 6 rfl (by omega) hP.1, Option.bind_some, hj, Option.bind_some, one_9, Option.bind_some]
  by_cases e : (sPl g.1).length = 0 ∨ (sOpn g.1 = none ∧ 30 ≤ (sTx g.1).length)
  · rw [decide_eq_true e, if_pos e]
    exact ⟨0, thr m 1, rfl, hR, rfl, fun z => absurd z (show ¬ (1 : Int32) = 0 by decide)⟩
  · rw [decide_eq_false e, if_neg e]
    have hp0 : 0 < (sPl g.1).length := by
      have : ¬ (sPl g.1).length = 0 := fun z => e (Or.inl z)
      omega
    have hroom : sOpn g.1 = none → (sTx g.1).length < 30 := fun z => by
      have : ¬ 30 ≤ (sTx g.1).length := fun q => e (Or.inr ⟨z, q⟩)
      omega
    simp only [Bool.not_false, if_true]
    obtain ⟨sh, d1, d2⟩ := disp_9 (m := svd m m.1 sa (pushN g.2.1 g.1).length) hA ho1
    obtain ⟨f, u1, u2, u3, u4⟩ := uses_9 (m := shn (svd m m.1 sa (pushN g.2.1 g.1).length) sh (nI (shL g.1).length)) hW h1 h2 o1 o3 hs1 (by omega) rfl d2
    generalize hl : shL g.1 = l at d1 d2 u1 u2 u3 u4 hs1 hs2 hsl
    rw [if_neg (by decide), k1, Option.bind_some, d1, Option.bind_some, u1, Option.bind_some]
    dsimp only [shn, svd] at u4 ⊢
    have f9 : f 9 = idxI (sOpn g.1) := by rw [u4 9 (by omega) (by omega) (by omega)]; exact h9
    have f8 : f 8 = nI (sTx g.1).length := by rw [u4 8 (by omega) (by omega) (by omega)]; exact hT.1
    have hTf : R9t (sTx g.1) f := hT.cg o2 (fun i hi => u4 i (by omega) (by omega) (by omega))
    obtain ⟨idx, hidx, htx⟩ : ∃ idx, idx = (match sOpn g.1 with | some k => k | none => (sTx g.1).length) ∧ ∃ d, d = (match sOpn g.1 with | some _ => 0 | none => 1) ∧ idx < (sTx g.1).length + d ∧ (sTx g.1).length + d ≤ 30 := by
      refine ⟨_, rfl, _, rfl, ?_⟩
      cases hop : sOpn g.1 with
      | none => have := hroom hop; dsimp only; omega
      | some k => have := o7 k hop; dsimp only; omega
    obtain ⟨d, hd, hid, hd30⟩ := htx
    have hj14 : (if idxI (sOpn g.1) = (-1) then Option.bind (some (nI (sTx g.1).length)) (fun x16 => some x16) else Option.bind (some (idxI (sOpn g.1))) (fun x17 => some x17)) = some (nI idx) := by
      cases hop : sOpn g.1 with
      | none => rw [hop] at hidx; rw [if_pos (show idxI none = -1 from rfl), hidx]; rfl
      | some k => rw [hop] at hidx; rw [if_neg (hopv k hop), hidx]; rfl
    have hj20 : (if idxI (sOpn g.1) = (-1) then some (1 : Int32) else some 0) = some (nI d) := by
      cases hop : sOpn g.1 with
      | none => rw [hop] at hd; rw [if_pos (show idxI none = -1 from rfl), hd]; rfl
      | some k => rw [hop] at hd; rw [if_neg (hopv k hop), hd]; rfl
    have hlenT : (sTx (takeS g.1 l)).length = (sTx g.1).length + d := by
      show (match sOpn g.1 with | some k => (sTx g.1).set k l | none => sTx g.1 ++ [l]).length = _
      rw [hd]
      cases sOpn g.1 with
      | none => simp
      | some k => simp
    rw [rd_c (i := 9) 9 rfl (by omega) f9, Option.bind_some, rd_c (i := 8) 8 rfl (by omega) f8, hj14, Option.bind_some, Option.bind_some, Option.bind_some, hj20, Option.bind_some, nI_add, wr_c (i := 8) 8 rfl (by omega), Option.bind_some, tx_at, wr_c _ rfl (by omega), Option.bind_some, nI_1]
    have g0 : ∀ i, i ≠ 8 → i ≠ 720 + 11 * idx → upd (upd f 8 (nI ((sTx g.1).length + d))) (720 + 11 * idx) (nI l.length) i = f i := fun i a b => by rw [upd_n b, upd_n a]
    have g8 : upd (upd f 8 (nI ((sTx g.1).length + d))) (720 + 11 * idx) (nI l.length) 8 = nI ((sTx g.1).length + d) := by rw [upd_n (by omega), upd_e]
    have gx : upd (upd f 8 (nI ((sTx g.1).length + d))) (720 + 11 * idx) (nI l.length) (720 + 11 * idx) = nI l.length := upd_e
    generalize upd (upd f 8 (nI ((sTx g.1).length + d))) (720 + 11 * idx) (nI l.length) = G at g0 g8 gx ⊢
    refine lp_use (fun z => An9 z (0, nI (sTx (takeS g.1 l)).length, saveG g (takeS g.1 l))) (fun j v => ∃ F, v = (nI j, shn (svd m F sa (pushN g.2.1 g.1).length) sh (nI l.length)) ∧ (∀ i, (i < 720 + 11 * idx + 1 ∨ 720 + 11 * idx + 11 ≤ i) → F i = G i) ∧ ∀ i, i < j → F (720 + 11 * idx + 1 + i) = nI (l.getD i 0)) (fun r => ∃ F, r = shn (svd m F sa (pushN g.2.1 g.1).length) sh (nI l.length) ∧ (∀ i, (i < 720 + 11 * idx + 1 ∨ 720 + 11 * idx + 11 ≤ i) → F i = G i) ∧ ∀ i, i < l.length → F (720 + 11 * idx + 1 + i) = nI (l.getD i 0)) l.length ⟨G, by rw [nI_0], fun _ _ => rfl, fun i h => absurd h (Nat.not_lt_zero i)⟩ (fun j v hj hv => ?_) (fun v hv => ?_) (by omega) (fun r hr => ?_)
    · obtain ⟨F, rfl, v1, v2⟩ := hv
      have hsj : sh j = nI (l.getD j 0) := by
        rw [d2 j _ (List.getElem?_eq_getElem hj), List.getD_eq_getElem?_getD, List.getElem?_eq_getElem hj]
        rfl
      dsimp only [shn, svd]
      rw [if_neg (nI_ge hj (by omega)), rd_nI (by omega) (by omega), Option.bind_some, hsj, nI_add, wr_c _ rfl (by omega), Option.bind_some, nI_1]
      refine ⟨_, rfl, upd F (720 + 11 * idx + 1 + j) (nI (l.getD j 0)), rfl, fun i hi => ?_, fun i hi => ?_⟩
      · rw [upd_n (by omega)]; exact v1 i hi
      · by_cases ei : i = j
        · rw [ei, upd_e]
        · rw [upd_n (by omega)]; exact v2 i (by omega)
    · obtain ⟨F, rfl, v1, v2⟩ := hv
      dsimp only [shn, svd]
      rw [if_pos (nI_le (Nat.le_refl _) (by omega))]
      exact ⟨_, rfl, F, rfl, v1, v2⟩
    · obtain ⟨F, rfl, v1, v2⟩ := hr
      dsimp only [shn, svd]
      have F8 : F 8 = nI ((sTx g.1).length + d) := by rw [v1 8 (by omega), g8]
      rw [wr_c (i := 6) 6 rfl (by omega), Option.bind_some, wr_c (i := 5) 5 rfl (by omega), Option.bind_some, wr_c (i := 9) 9 rfl (by omega), Option.bind_some, wr_c (i := 7) 7 rfl (by omega), Option.bind_some, rd_c (i := 8) 8 rfl (by omega) ((upd_n (by omega)).trans ((upd_n (by omega)).trans ((upd_n (by omega)).trans ((upd_n (by omega)).trans F8)))), Option.bind_some]
      have hu : ∀ i, i ≠ 6 → i ≠ 5 → i ≠ 9 → i ≠ 7 → upd (upd (upd (upd F 6 0) 5 (-1)) 9 (-1)) 7 0 i = F i := fun i a b c d => by rw [upd_n d, upd_n c, upd_n b, upd_n a]
      have c6 : upd (upd (upd (upd F 6 0) 5 (-1)) 9 (-1)) 7 0 6 = 0 := by rw [upd_n (by omega), upd_n (by omega), upd_n (by omega), upd_e]
      have c5 : upd (upd (upd (upd F 6 0) 5 (-1)) 9 (-1)) 7 0 5 = -1 := by rw [upd_n (by omega), upd_n (by omega), upd_e]
      have c9 : upd (upd (upd (upd F 6 0) 5 (-1)) 9 (-1)) 7 0 9 = -1 := by rw [upd_n (by omega), upd_e]
      have c7 : upd (upd (upd (upd F 6 0) 5 (-1)) 9 (-1)) 7 0 7 = 0 := upd_e
      generalize upd (upd (upd (upd F 6 0) 5 (-1)) 9 (-1)) 7 0 = K at hu c6 c5 c9 c7 ⊢
      have hK : ∀ i, i ≠ 6 → i ≠ 5 → i ≠ 9 → i ≠ 7 → i ≠ 8 → i < 720 → K i = f i := fun i a b c d e2 h => by rw [hu i a b c d, v1 i (by omega), g0 i e2 (by omega)]
      have hKt : ∀ i, 720 ≤ i → (i < 720 + 11 * idx ∨ 720 + 11 * idx + 11 ≤ i) → K i = f i := fun i a b => by rw [hu i (by omega) (by omega) (by omega) (by omega), v1 i (by omega), g0 i (by omega) (by omega)]
      have hKx : K (720 + 11 * idx) = nI l.length := by rw [hu _ (by omega) (by omega) (by omega) (by omega), v1 _ (by omega), gx]
      have hKl : ∀ i a, l[i]? = some a → K (720 + 11 * idx + 1 + i) = nI a := fun i a hi => by
        rw [hu _ (by omega) (by omega) (by omega) (by omega), v2 i (lt_of_get hi), List.getD_eq_getElem?_getD, hi]
        rfl
      have hK8 : K 8 = nI ((sTx g.1).length + d) := by rw [hu 8 (by omega) (by omega) (by omega) (by omega), F8]
      have hTK : R9t (sTx (takeS g.1 l)) K := by
        show R9t (match sOpn g.1 with | some k => (sTx g.1).set k l | none => sTx g.1 ++ [l]) K
        cases hop : sOpn g.1 with
        | none =>
          rw [hop] at hidx hd
          dsimp only at hidx hd ⊢
          subst hidx
          subst hd
          exact hTf.app o2 hK8 (fun i a b => hKt i a (by omega)) hKx hKl
        | some k =>
          rw [hop] at hidx hd
          dsimp only at hidx hd ⊢
          subst hidx
          subst hd
          exact hTf.put o2 hid (by rw [hK8, f8]; rfl) hKt hKx hKl
      refine ⟨_, _, rfl, k2 (takeS g.1 l) K _ _ ⟨u2.cg ?_ (fun i hi => hK i (by omega) (by omega) (by omega) (by omega) (by omega) (by omega)), hTK, ⟨c6, fun k c hk => ?_⟩, ?_, ?_, ?_, ?_, c5, c7, c9⟩, rfl, fun _ => by rw [hlenT]⟩
      · unfold usedN
        split
        · exact (o1.use hs1 (by omega) _).age l
        · exact o1.use hs1 (by omega) _
      · have hk : ([] : List Nat)[k]? = some c := hk
        simp at hk
      · rw [hK 1 (by omega) (by omega) (by omega) (by omega) (by omega) (by omega)]; exact u3
      · rw [hK 2 (by omega) (by omega) (by omega) (by omega) (by omega) (by omega), u4 2 (by omega) (by omega) (by omega)]; exact h2
      · rw [hK 3 (by omega) (by omega) (by omega) (by omega) (by omega) (by omega), u4 3 (by omega) (by omega) (by omega)]; exact h3
      · rw [hK 4 (by omega) (by omega) (by omega) (by omega) (by omega) (by omega), u4 4 (by omega) (by omega) (by omega)]; exact h4
theorem open_9c {g : Sg} {m : T9} (hR : R9 g m) (ho : okSg g) (a : Int32) : An9 (f_X9_open m a) (anOpen g a) := by
  obtain ⟨sa, k1, k2⟩ := saved_9 hR ho
  have hA := hR.1
  obtain ⟨hW, hT, hP, h1, h2, h3, h4, h5, h7, h9⟩ := hR.1
  have ho1 := ho.1
  obtain ⟨o1, o2, o3, o4, o5, o6, o7⟩ := ho.1
  have hpl := o4.1
  have htl := o2.1
  unfold f_X9_open anOpen
  have hj : (if nI (sPl g.1).length = 0 then Option.bind (rd m.1 1050 9) (fun x6 => (if x6 = (-1) then some (1 : Int32) else some 0)) else some 0) = some (b01 (decide ((sPl g.1).length = 0 ∧ sOpn g.1 = none))) := by
    by_cases e : (sPl g.1).length = 0
    · rw [if_pos (by rw [e, nI_0]), rd_c (i := 9) 9 rfl (by omega) h9, Option.bind_some]
      cases hop : sOpn g.1 with
      | none => rw [if_pos (show idxI none = -1 from rfl), decide_eq_true ⟨e, rfl⟩]; rfl
      | some k =>
        have := o7 k hop
        rw [if_neg (idxI_some (by omega)), decide_eq_false (fun z => by cases z.2)]; rfl
    · rw [if_neg (nI_ne0 (by omega) (by omega)), decide_eq_false (fun z => e z.1)]; rfl
  rw [rd_c (i := 8) 8 rfl (by omega) hT.1, Option.bind_some, inN_9 (by omega), Option.bind_some, rd_c (i := 6) 6 rfl (by omega) hP.1, Option.bind_some, hj, Option.bind_some, goes_9, Option.bind_some]
  by_cases h0 : a < 0
  · rw [if_pos h0, decide_eq_true h0]
    exact ⟨0, thr m 1, rfl, hR, rfl, fun z => absurd z (show ¬ (1 : Int32) = 0 by decide)⟩
  · rw [if_neg h0, decide_eq_false h0]
    obtain ⟨k, hk, rfl⟩ := nI_of h0
    rw [nI_clamp hk]
    cases hg : (sTx g.1)[k]? with
    | none =>
      have hge : ¬ k < (sTx g.1).length := fun z => by
        rw [List.getElem?_eq_getElem z] at hg
        cases hg
      rw [decide_eq_false hge]
      exact ⟨0, thr m 1, rfl, hR, rfl, fun z => absurd z (show ¬ (1 : Int32) = 0 by decide)⟩
    | some l =>
      have hlt := lt_of_get hg
      have hl := (o2.2 l (List.mem_of_getElem? hg)).1
      have hll := hl.1
      obtain ⟨t1, t2⟩ := hT.2 k l hg
      have hcl : (cdL l).length = l.length := by simp [cdL]
      rw [decide_eq_true hlt]
      dsimp only
      by_cases e : (sPl g.1).length = 0 ∧ sOpn g.1 = none
      · rw [if_pos e, decide_eq_true e]
        simp only [Bool.not_false, Bool.and_self, if_true]
        rw [if_neg (by decide), k1, Option.bind_some]
        dsimp only [svd]
        rw [tx_at, rd_c _ rfl (by omega) t1, Option.bind_some, wr_c (i := 6) 6 rfl (by omega), Option.bind_some, nI_1]
        have g0 : ∀ i, i ≠ 6 → upd m.1 6 (nI l.length) i = m.1 i := fun i h => upd_n h
        have g6 : upd m.1 6 (nI l.length) 6 = nI l.length := upd_e
        generalize upd m.1 6 (nI l.length) = G at g0 g6 ⊢
        refine lp_use (fun z => An9 z (0, nI l.length, saveG g (openS g.1 k l))) (fun j v => ∃ F, v = (nI j, svd m F sa (pushN g.2.1 g.1).length) ∧ (∀ i, (i < 10 ∨ 20 ≤ i) → F i = G i) ∧ ∀ i, i < j → F (10 + i) = nI (100 + l.getD i 0)) (fun r => ∃ F, r = svd m F sa (pushN g.2.1 g.1).length ∧ (∀ i, (i < 10 ∨ 20 ≤ i) → F i = G i) ∧ ∀ i, i < l.length → F (10 + i) = nI (100 + l.getD i 0)) l.length ⟨G, by rw [nI_0], fun _ _ => rfl, fun i h => absurd h (Nat.not_lt_zero i)⟩ (fun j v hj hv => ?_) (fun v hv => ?_) (by omega) (fun r hr => ?_)
        · obtain ⟨F, rfl, v1, v2⟩ := hv
          have e10 : (10 : Int32) + nI j = nI (10 + j) := nI_add 10 j
          have e100 : (100 : Int32) + nI (l.getD j 0) = nI (100 + l.getD j 0) := nI_add 100 _
          have hc : F (720 + 11 * k + 1 + j) = nI (l.getD j 0) := by
            rw [v1 _ (by omega), g0 _ (by omega), t2 j _ (List.getElem?_eq_getElem hj), List.getD_eq_getElem?_getD, List.getElem?_eq_getElem hj]
            rfl
          dsimp only [svd]
          rw [rd_c (i := 6) 6 rfl (by omega) ((v1 6 (by omega)).trans g6), Option.bind_some, if_neg (nI_ge hj (by omega)), nI_add, rd_c _ rfl (by omega) hc, Option.bind_some, e10, e100, wr_c _ rfl (by omega), Option.bind_some, nI_1]
          refine ⟨_, rfl, upd F (10 + j) (nI (100 + l.getD j 0)), rfl, fun i hi => ?_, fun i hi => ?_⟩
          · rw [upd_n (by omega)]; exact v1 i hi
          · by_cases ei : i = j
            · rw [ei, upd_e]
            · rw [upd_n (by omega)]; exact v2 i (by omega)
        · obtain ⟨F, rfl, v1, v2⟩ := hv
          dsimp only [svd]
          rw [rd_c (i := 6) 6 rfl (by omega) ((v1 6 (by omega)).trans g6), Option.bind_some, if_pos (nI_le (Nat.le_refl _) (by omega))]
          exact ⟨_, rfl, F, rfl, v1, v2⟩
        · obtain ⟨F, rfl, v1, v2⟩ := hr
          dsimp only [svd]
          have F6 : F 6 = nI l.length := by rw [v1 6 (by omega), g6]
          rw [wr_c (i := 9) 9 rfl (by omega), Option.bind_some, wr_c (i := 7) 7 rfl (by omega), Option.bind_some, rd_c (i := 6) 6 rfl (by omega) ((upd_n (by omega)).trans ((upd_n (by omega)).trans F6)), Option.bind_some]
          have hu : ∀ i, i ≠ 9 → i ≠ 7 → upd (upd F 9 (nI k)) 7 0 i = F i := fun i a b => by rw [upd_n b, upd_n a]
          have c9 : upd (upd F 9 (nI k)) 7 0 9 = nI k := by rw [upd_n (by omega), upd_e]
          have c7 : upd (upd F 9 (nI k)) 7 0 7 = 0 := upd_e
          generalize upd (upd F 9 (nI k)) 7 0 = K at hu c9 c7 ⊢
          have hK : ∀ i, i ≠ 6 → i ≠ 9 → i ≠ 7 → (i < 10 ∨ 20 ≤ i) → K i = m.1 i := fun i a b c d => by rw [hu i b c, v1 i d, g0 i a]
          refine ⟨_, _, rfl, k2 (openS g.1 k l) K _ _ ⟨hW.cg o1 (fun i hi => hK i (by omega) (by omega) (by omega) (by omega)), hT.cg o2 (fun i hi => hK i (by omega) (by omega) (by omega) (by omega)), ⟨?_, fun i c hi => ?_⟩, ?_, ?_, ?_, ?_, ?_, c7, c9⟩, rfl, fun _ => rfl⟩
          · rw [hu 6 (by omega) (by omega), F6]
            show _ = nI (cdL l).length
            rw [hcl]
          · have hi : (cdL l)[i]? = some c := hi
            have hil := lt_of_get hi
            rw [hcl] at hil
            have hc : c = l.getD i 0 + 1 := by
              rw [← cdL_get hil, List.getD_eq_getElem?_getD, hi]
              rfl
            have h26 := getD_lt26 hl hil
            rw [hu _ (by omega) (by omega), v2 i hil, hc]
            unfold placeI
            rw [if_pos (by omega), Nat.add_sub_cancel]
          · rw [hK 1 (by omega) (by omega) (by omega) (by omega)]; exact h1
          · rw [hK 2 (by omega) (by omega) (by omega) (by omega)]; exact h2
          · rw [hK 3 (by omega) (by omega) (by omega) (by omega)]; exact h3
          · rw [hK 4 (by omega) (by omega) (by omega) (by omega)]; exact h4
          · rw [hK 5 (by omega) (by omega) (by omega) (by omega)]; exact h5
      · rw [if_neg e, decide_eq_false e]
        exact ⟨0, thr m 2, rfl, hR, rfl, fun z => absurd z (show ¬ (2 : Int32) = 0 by decide)⟩
