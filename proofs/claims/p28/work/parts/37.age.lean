/-! ===== the ageing, word for word ===== -/
theorem aged_split {ws : List Wd} {l : List Nat} {i : Nat} {q : Wd} (hi : ws[i]? = some q) : agedTo ws l (i + 1) = ws.take i ++ q :: (ws.drop (i + 1)).filterMap (ageO l) ∧ agedTo ws l i = ws.take i ++ (match ageO l q with | some q' => q' :: (ws.drop (i + 1)).filterMap (ageO l) | none => (ws.drop (i + 1)).filterMap (ageO l)) := by
  obtain ⟨hl, e⟩ := List.getElem?_eq_some_iff.mp hi
  unfold agedTo
  constructor
  · rw [List.take_succ, hi]
    simp
  · rw [List.drop_eq_getElem_cons hl, e]
    congr 1
    cases h : ageO l q with
    | none => rw [List.filterMap_cons_none h]
    | some q' => rw [List.filterMap_cons_some h]
theorem set_get {α : Type} {l : List α} {k : Nat} {q : α} (h : l[k]? = some q) : l.set k q = l := by
  apply List.ext_getElem?
  intro i
  rw [List.getElem?_set]
  by_cases e : k = i
  · subst e
    rw [if_pos rfl, if_pos (lt_of_get h), h]
  · rw [if_neg e]
theorem set_mid {α : Type} (A : List α) (q q' : α) (B : List α) : (A ++ q :: B).set A.length q' = A ++ q' :: B := by
  rw [List.set_append_right _ _ (Nat.le_refl _), Nat.sub_self]
  rfl
theorem erase_mid {α : Type} (A : List α) (q : α) (B : List α) : (A ++ q :: B).eraseIdx A.length = A ++ B := by
  rw [List.eraseIdx_append_of_length_le (Nat.le_refl _), Nat.sub_self]
  rfl
theorem aged_get {ws : List Wd} {l : List Nat} {i : Nat} {q : Wd} (hi : ws[i]? = some q) : (agedTo ws l (i + 1))[i]? = some q := by
  have hl := lt_of_get hi
  rw [(aged_split hi).1, List.getElem?_append_right (by simp; omega)]
  simp [show i - min i ws.length = 0 by omega]
theorem aged_step {ws : List Wd} {l : List Nat} {i : Nat} {q : Wd} (hi : ws[i]? = some q) : agedTo ws l i = (match ageO l q with | some q' => (agedTo ws l (i + 1)).set i q' | none => (agedTo ws l (i + 1)).eraseIdx i) := by
  have hl := lt_of_get hi
  have ei : (ws.take i).length = i := by simp; omega
  rw [(aged_split hi).1, (aged_split hi).2]
  cases h : ageO l q with
  | none =>
    dsimp only
    conv => rhs; rw [← ei]
    have := erase_mid (ws.take i) q ((ws.drop (i + 1)).filterMap (ageO l))
    rw [ei] at this ⊢
    exact this.symm
  | some q' =>
    dsimp only
    have := set_mid (ws.take i) q q' ((ws.drop (i + 1)).filterMap (ageO l))
    rw [ei] at this
    exact this.symm
theorem aged_all (ws : List Wd) (l : List Nat) : agedTo ws l ws.length = ws := by simp [agedTo]
theorem aged_0 (ws : List Wd) (l : List Nat) : agedTo ws l 0 = ageN ws l := by simp [agedTo, ageN]
theorem ageO_ok {l : List Nat} {q q' : Wd} (h : okWd q) (e : ageO l q = some q') : okWd q' ∧ q'.1 = q.1 := by
  unfold ageO at e
  split at e
  · split at e
    · cases e
    · cases e
      refine ⟨⟨h.1, h.2.1, ?_, fun _ => ?_⟩, rfl⟩
      · have := h.2.2.1
        dsimp only; omega
      · dsimp only; omega
  · cases e
    exact ⟨h, rfl⟩
theorem okWs.agedTo {ws : List Wd} (h : okWs ws) (l : List Nat) : ∀ {k i : Nat}, i + k = ws.length → okWs (agedTo ws l i)
  | 0, i, e => by
    have : i = ws.length := by omega
    rw [this, aged_all]
    exact h
  | k + 1, i, e => by
    obtain ⟨q, hq⟩ := get_of_lt (show i < ws.length by omega)
    have ih : okWs (_root_.Jvm.Pilot.CKeypadWriterLaw_law_r4851_72e551.agedTo ws l (i + 1)) := okWs.agedTo h l (k := k) (by omega)
    rw [aged_step hq]
    cases h1 : ageO l q with
    | none => exact ih.erase i
    | some q' => exact ih.put (aged_get hq) (ageO_ok (h.wd hq) h1).1 (ageO_ok (h.wd hq) h1).2
theorem okWs.age {ws : List Wd} (h : okWs ws) (l : List Nat) : okWs (ageN ws l) := by
  rw [← aged_0]
  exact h.agedTo l (k := ws.length) (by omega)
theorem R6_count {ws : List Wd} {w : T6} (hR : R6 ws w) {k : Nat} {q : Wd} (hk : ws[k]? = some q) (c : Nat) : R6 (ws.set k (q.1, c, q.2.2.1, q.2.2.2)) (w.1, w.2.1, upd w.2.2.1 k (nI c), w.2.2.2.1, w.2.2.2.2.1, w.2.2.2.2.2) := by
  have hkl := lt_of_get hk
  refine ⟨by simpa using hR.1, fun i p hi => ?_⟩
  rw [List.getElem?_set] at hi
  by_cases e1 : k = i
  · subst e1
    rw [if_pos rfl, if_pos hkl] at hi
    cases hi
    obtain ⟨a1, a2, a3, a4, a5⟩ := hR.2 k q hk
    refine ⟨a1, a2, ?_, a4, a5⟩
    show upd _ _ _ _ = _
    unfold upd
    rw [if_pos rfl]
  · rw [if_neg e1] at hi
    obtain ⟨b1, b2, b3, b4, b5⟩ := hR.2 i p hi
    refine ⟨b1, b2, ?_, b4, b5⟩
    show upd _ _ _ _ = _
    unfold upd
    rw [if_neg (fun z => e1 z.symm)]; exact b3
theorem nI_m1 (a : Nat) : nI a + (-1) = nI a - 1 := (Int32.sub_eq_add_neg (a := nI a) (b := 1)).symm
theorem age_6 {ws : List Wd} {w : T6} (hR : R6 ws w) (ho : okWs ws) (hB : okB w) {l : List Nat} (h : okL l) : ∃ w', f_X6_ageAllBut w (pk (cdL l)) = some w' ∧ R6 (ageN ws l) w' ∧ okB w' := by
  have hl := ho.1
  unfold f_X6_ageAllBut
  rw [hR.1]
  refine lp_inv (fun j v => v.1 = nI (ws.length - j) - 1 ∧ R6 (agedTo ws l (ws.length - j)) v.2 ∧ okB v.2) (fun r => R6 (ageN ws l) r ∧ okB r) ws.length ⟨rfl, ?_, hB⟩ (fun j v hj hv => ?_) (fun v hv => ?_) (by omega)
  · rw [Nat.sub_zero, aged_all]; exact hR
  · obtain ⟨v1, v2, v3⟩ := hv
    obtain ⟨i, hi⟩ : ∃ i, ws.length - j = i + 1 := ⟨ws.length - j - 1, by omega⟩
    have hi2 : ws.length - (j + 1) = i := by omega
    obtain ⟨q, hq⟩ := get_of_lt (show i < ws.length by omega)
    rw [hi] at v1 v2
    rw [nI_pred] at v1
    rw [hi2]
    have hg := aged_get (l := l) hq
    have hla : (agedTo ws l (i + 1)).length ≤ 50 := (ho.agedTo l (k := j) (by omega)).1
    have hq6 := ho.wd hq
    rw [v1, if_neg (nI_pos (by omega)), isAdded_6 v2 hla hg, Option.bind_some, nI_m1]
    cases ha : q.2.2.2 with
    | false =>
      rw [if_pos (show b01 false = 0 from rfl)]
      refine ⟨_, rfl, rfl, ?_, v3⟩
      have e : ageO l q = some q := by unfold ageO; rw [ha]; rfl
      rw [aged_step hq, e]
      dsimp only
      rw [set_get hg]
      exact v2
    | true =>
      rw [if_neg (by decide), wordAt_6 v2 hla hg, Option.bind_some]
      by_cases e1 : q.1 = l
      · rw [if_pos (by rw [e1])]
        refine ⟨_, rfl, rfl, ?_, v3⟩
        have e : ageO l q = some q := by unfold ageO; rw [e1]; simp
        rw [aged_step hq, e]
        dsimp only
        rw [set_get hg]
        exact v2
      · have c1 := hq6.2.2.2 ha
        have c2 := hq6.2.2.1
        have eb : (q.2.2.2 && q.1 != l) = true := by rw [ha]; simpa using e1
        obtain ⟨a1, a2, a3, a4, a5⟩ := v2.2 i q hg
        have em : nI q.2.1 - 1 = nI (q.2.1 - 1) := nI_sub _ 1 c1
        have eu : upd v.2.2.2.1 i (nI (q.2.1 - 1)) i = nI (q.2.1 - 1) := by unfold upd; rw [if_pos rfl]
        rw [if_neg (fun z => e1 ((pkL_inj hq6.1 h).mp z)), rd_nI (by omega) (by omega), Option.bind_some, wr_nI (by omega) (by omega), Option.bind_some, rd_nI (by omega) (by omega), Option.bind_some, a3, em, eu]
        have R2 := R6_count v2 hg (q.2.1 - 1)
        by_cases e2 : q.2.1 ≤ 1
        · have e : ageO l q = none := by unfold ageO; rw [if_pos eb, if_pos e2]
          rw [if_neg (show ¬ 0 < nI (q.2.1 - 1) from by rw [show q.2.1 - 1 = 0 by omega]; decide)]
          obtain ⟨w2, k1, k2, k3⟩ := remove_6 R2 (by simpa using hla) v3 (k := i) (by simpa using lt_of_get hg)
          rw [k1, Option.bind_some]
          refine ⟨_, rfl, rfl, ?_, k3⟩
          rw [aged_step hq, e]
          dsimp only
          rw [List.eraseIdx_set_eq] at k2
          exact k2
        · have e : ageO l q = some (q.1, q.2.1 - 1, q.2.2.1, q.2.2.2) := by unfold ageO; rw [if_pos eb, if_neg e2]
          rw [if_pos (show (0 : Int32) < nI (q.2.1 - 1) from nI_lt (a := 0) (by omega) (by omega))]
          refine ⟨_, rfl, rfl, ?_, v3⟩
          rw [aged_step hq, e]
          exact R2
  · obtain ⟨v1, v2, v3⟩ := hv
    rw [Nat.sub_self] at v1 v2
    rw [v1, if_pos (by decide)]
    rw [aged_0] at v2
    exact ⟨v.2, rfl, v2, v3⟩
