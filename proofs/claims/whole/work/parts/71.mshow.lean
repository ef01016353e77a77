/-! ===== the reference: cells read, written, kept; what is shown ===== -/
theorem rd_c {f : Nat → Int32} {v i : Int32} (k : Nat) (hi : i = nI k) (hk : k < 1050) (hv : f k = v) : rd f 1050 i = some v := by
  subst hi
  rw [rd_nI hk (by omega), hv]
theorem wr_c {f : Nat → Int32} {x i : Int32} (k : Nat) (hi : i = nI k) (hk : k < 1050) : wr f 1050 i x = some (upd f k x) := by
  subst hi
  rw [wr_nI hk (by omega)]
theorem upd_e {f : Nat → Int32} {k : Nat} {x : Int32} : upd f k x k = x := by unfold upd; rw [if_pos rfl]
theorem upd_n {f : Nat → Int32} {k i : Nat} {x : Int32} (h : i ≠ k) : upd f k x i = f i := by unfold upd; rw [if_neg h]
theorem R9w.cg {ws : List Wd} {f f' : Nat → Int32} (h : R9w ws f) (ho : okWs ws) (he : ∀ i, i = 0 ∨ (20 ≤ i ∧ i < 720) → f' i = f i) : R9w ws f' := by
  have hl := ho.1
  refine ⟨by rw [he 0 (Or.inl rfl), h.1], fun k q hk => ?_⟩
  have hkl := lt_of_get hk
  have hq := (ho.wd hk).1.1
  obtain ⟨a1, a2, a3, a4, a5⟩ := h.2 k q hk
  refine ⟨by rw [he _ (by omega), a1], by rw [he _ (by omega), a2], by rw [he _ (by omega), a3], by rw [he _ (by omega), a4], fun i a hi => ?_⟩
  have := lt_of_get hi
  rw [he _ (by omega), a5 i a hi]
theorem R9t.cg {tx : List (List Nat)} {f f' : Nat → Int32} (h : R9t tx f) (ho : okTx tx) (he : ∀ i, i = 8 ∨ (720 ≤ i ∧ i < 1050) → f' i = f i) : R9t tx f' := by
  have hl := ho.1
  refine ⟨by rw [he 8 (Or.inl rfl), h.1], fun k l hk => ?_⟩
  have hkl := lt_of_get hk
  have hq := (ho.2 l (List.mem_of_getElem? hk)).1.1
  obtain ⟨a1, a2⟩ := h.2 k l hk
  refine ⟨by rw [he _ (by omega), a1], fun i a hi => ?_⟩
  have := lt_of_get hi
  rw [he _ (by omega), a2 i a hi]
theorem R9p.cg {p : List Nat} {f f' : Nat → Int32} (h : R9p p f) (ho : okP p) (he : ∀ i, i = 6 ∨ (10 ≤ i ∧ i < 20) → f' i = f i) : R9p p f' := by
  have hl := ho.1
  refine ⟨by rw [he 6 (Or.inl rfl), h.1], fun k c hk => ?_⟩
  have hkl := lt_of_get hk
  rw [he _ (by omega), h.2 k c hk]
/-- the reference with other letters shown -/
abbrev shn (m : T9) (sh : Nat → Int32) (n : Int32) : T9 := (m.1, m.2.1, m.2.2.1, m.2.2.2.1, m.2.2.2.2.1, sh, n, m.2.2.2.2.2.2.2)
def Sh (l : List Nat) (sh : Nat → Int32) : Prop := ∀ i a, l[i]? = some a → sh i = nI a
theorem lays_loop {m : T9} {l : List Nat} {body : Int32 × T9 → Option ((Int32 × T9) ⊕ T9)} (hb : ∀ j sh, j < l.length → body (nI j, shn m sh (nI l.length)) = some (.inl (nI (j + 1), shn m (upd sh j (nI (l.getD j 0))) (nI l.length)))) (he : ∀ sh, body (nI l.length, shn m sh (nI l.length)) = some (.inr (shn m sh (nI l.length)))) (sh0 : Nat → Int32) {fuel : Nat} (hf : l.length < fuel) : ∃ sh, lp body fuel (0, shn m sh0 (nI l.length)) = some (shn m sh (nI l.length)) ∧ Sh l sh := by
  obtain ⟨r, h1, sh, h2, h3⟩ := lp_inv (body := body) (s0 := (0, shn m sh0 (nI l.length))) (fun j v => ∃ sh, v = (nI j, shn m sh (nI l.length)) ∧ ∀ i, i < j → sh i = nI (l.getD i 0)) (fun r => ∃ sh, r = shn m sh (nI l.length) ∧ ∀ i, i < l.length → sh i = nI (l.getD i 0)) l.length ⟨sh0, by rw [nI_0], fun i h => absurd h (Nat.not_lt_zero i)⟩
    (fun j v hj hv => by
      obtain ⟨sh, rfl, h⟩ := hv
      refine ⟨_, hb j sh hj, _, rfl, fun i hi => ?_⟩
      by_cases e : i = j
      · rw [e, upd_e]
      · rw [upd_n e, h i (by omega)])
    (fun v hv => by
      obtain ⟨sh, rfl, h⟩ := hv
      exact ⟨_, he sh, sh, rfl, h⟩) hf
  refine ⟨sh, by rw [h1, h2], fun i a hi => ?_⟩
  rw [h3 i (lt_of_get hi), List.getD_eq_getElem?_getD, hi]
  rfl
theorem disp_9 {m : T9} {s : St} (hA : R9a s m.1) (ho : okSt s) : ∃ sh, f_X9_laysDisplay m = some (shn m sh (nI (shL s).length)) ∧ Sh (shL s) sh := by
  obtain ⟨hW, hT, hP, h1, h2, h3, h4, h5, h7, h9⟩ := hA
  have ho1 := ho
  obtain ⟨o1, o2, o3, o4, o5, o6, o7⟩ := ho
  have hl := o1.1
  have hpl := o4.1
  have hn := sN_le s
  obtain ⟨hs1, hs2⟩ := shL_ok ho1
  have hsl := hs1.1
  have e4 : rd m.1 1050 4 = some (b01 (sTap s)) := rd_c 4 rfl (by omega) h4
  have e7 : rd m.1 1050 7 = some (nI (sCho s)) := rd_c 7 rfl (by omega) h7
  unfold f_X9_laysDisplay
  rw [e4, e7, Option.bind_some, candidates_9 hW hP h3 o1 o4, places_9 hP]
  by_cases hg : sTap s = false ∧ 0 < sN s
  · obtain ⟨i, q, c1, c2, c3⟩ := cand_some ho1 hg.2
    have hcho : sCho s < sN s := by rcases o6 with h | h <;> omega
    have hp : sPl s ≠ [] := fun e => by
      have := hg.2
      unfold sN at this
      rw [if_pos e] at this
      omega
    have esh : shL s = q.1 := by
      unfold shL
      rw [if_pos hg, c1]
      dsimp only
      rw [c2]
    have hq := (o1.wd c2).1
    have hql := hq.1
    rw [hg.1, if_pos (show b01 false = 0 from rfl), Option.bind_some, if_neg (show ¬ nI (sN s) ≤ 0 from nI_ge (a := 0) hg.2 (by omega)), Option.bind_some, if_neg (by decide), Option.bind_some, candidateAt_9 hW hP h3 o1 o4 hp (by omega), c1, Option.bind_some, Option.bind_some, if_neg (by decide)]
    have el : f_X9_of m (idxI (some i)) 0 = _ := len_9 hW hl c2
    rw [el, Option.bind_some, Option.bind_some, esh]
    refine lays_loop (m := m) (l := q.1) (fun j sh hj => ?_) (fun sh => ?_) _ (by omega)
    · have ea : f_X9_letterOf (shn m sh (nI q.1.length)) (idxI (some i)) (nI j) = _ := letter_9 (m := shn m sh (nI q.1.length)) hW hl c2 hq hj
      dsimp only [shn] at ea ⊢
      rw [if_neg (nI_ge hj (by omega)), if_neg (by decide), Option.bind_some, if_neg (by decide), ea, Option.bind_some, Option.bind_some, wr_nI (by omega) (by omega), Option.bind_some, nI_1]
    · dsimp only [shn]
      rw [if_pos (nI_le (Nat.le_refl _) (by omega))]
  · have esh : shL s = (sPl s).map (fun c => shC c - 1) := by
      unfold shL
      rw [if_neg hg]
    have hel : (shL s).length = (sPl s).length := by rw [esh, List.length_map]
    have hj2 : (if b01 (sTap s) = 0 then Option.bind (some (nI (sN s))) (fun x4 => (if x4 ≤ 0 then some (0 : Int32) else some 1)) else some 0) = some 0 := by
      cases ht : sTap s with
      | true => rw [if_neg (by decide)]
      | false =>
        have : sN s = 0 := by
          have : ¬ 0 < sN s := fun z => hg ⟨ht, z⟩
          omega
        rw [if_pos (show b01 false = 0 from rfl), Option.bind_some, this, if_pos (by decide)]
    rw [hj2, Option.bind_some, if_pos rfl, Option.bind_some, if_pos rfl, Option.bind_some, Option.bind_some, ← hel]
    refine lays_loop (m := m) (l := shL s) (fun j sh hj => ?_) (fun sh => ?_) _ (by omega)
    · have hj2 : j < (sPl s).length := by omega
      have e10 : (10 : Int32) + nI j = nI (10 + j) := nI_add 10 j
      have hc := getD_P o4 hj2
      have hpv : m.1 (10 + j) = placeI ((sPl s).getD j 0) := by
        have := hP.2 j _ (List.getElem?_eq_getElem hj2)
        rw [this, List.getD_eq_getElem?_getD, List.getElem?_eq_getElem hj2]
        rfl
      have hsh : (shL s).getD j 0 = shC ((sPl s).getD j 0) - 1 := by
        rw [esh]
        simp [List.getD_eq_getElem?_getD, List.getElem?_eq_getElem hj2]
      dsimp only [shn]
      rw [if_neg (nI_ge hj (by omega)), if_pos rfl, e10, rd_c (10 + j) rfl (by omega) hpv, Option.bind_some, Option.bind_some, if_pos rfl, hsh]
      generalize (sPl s).getD j 0 = c at hc
      have hv : (if placeI c < 100 then Option.bind (f_X9_firstOf (placeI c)) (fun x23 => some x23) else some (placeI c - 100)) = some (nI (shC c - 1)) := by
        unfold placeI shC
        by_cases e : c ≤ 26
        · rw [if_pos e, if_pos e, if_neg (show ¬ nI (100 + (c - 1)) < 100 from nI_nlt (b := 100) (by omega) (by omega))]
          have := nI_sub (100 + (c - 1)) 100 (by omega)
          rw [show 100 + (c - 1) - 100 = c - 1 by omega] at this
          exact congrArg some this
        · rw [if_neg e, if_neg e, if_pos (show nI (c - 30) < 100 from nI_lt (b := 100) (by omega) (by omega)), firstOf_9 _ (by omega) (by omega), Option.bind_some, Nat.add_sub_cancel]
      rw [hv, Option.bind_some, wr_nI (by omega) (by omega), Option.bind_some, nI_1]
    · dsimp only [shn]
      rw [if_pos (nI_le (Nat.le_refl _) (by omega))]
