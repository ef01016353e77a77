/-! ===== the reference's costs and its questions ===== -/
section M9
variable {m : T9} {ws : List Wd}
theorem haveKeys_9 (hW : R9w ws m.1) (ho : okWs ws) {j k : Nat} {a b : Wd} (hj : ws[j]? = some a) (hk : ws[k]? = some b) : f_X9_haveKeys m (nI j) (nI k) = some (b01 (sameK a b)) := by
  have hl := ho.1
  have oa := (ho.wd hj).1
  have ob := (ho.wd hk).1
  have oal := oa.1
  have obl := ob.1
  have la : (cdK a.1).length = a.1.length := by simp [cdK]
  have lb : (cdK b.1).length = b.1.length := by simp [cdK]
  have hbz : ∀ c : Bool, bz (b01 c) = some () := bz_01
  unfold f_X9_haveKeys
  rw [len_9 hW hl hj, len_9 hW hl hk, Option.bind_some, Option.bind_some]
  by_cases e : a.1.length = b.1.length
  · rw [if_pos (by rw [e]), Option.bind_some]
    cases hs : allB (fun i => keyN (a.1.getD i 0) == keyN (b.1.getD i 0)) a.1.length with
    | true =>
      have hall := allB_iff.mp hs
      have hsame : sameK a b = true := by
        unfold sameK
        rw [beq_iff_eq]
        apply List.ext_getElem?
        intro i
        by_cases hi : i < a.1.length
        · have := hall i hi
          simp [List.getD_eq_getElem?_getD, List.getElem?_eq_getElem hi, List.getElem?_eq_getElem (show i < b.1.length by omega)] at this
          simp [cdK, List.getElem?_eq_getElem hi, List.getElem?_eq_getElem (show i < b.1.length by omega), this]
        · rw [List.getElem?_eq_none (by omega), List.getElem?_eq_none (by omega)]
      rw [hsame]
      refine lp_go (fun i => (b01 true, nI i)) a.1.length _ (by rw [nI_0]; rfl) (fun i hi => ?_) ?_ (by omega)
      · have ka := getD_lt26 oa hi
        have kb := getD_lt26 ob (show i < b.1.length by omega)
        rw [Option.bind_some]
        dsimp only
        rw [if_neg (nI_ge hi (by omega)), if_neg (show ¬ b01 true = 0 from by decide), letter_9 hW hl hj oa hi, Option.bind_some, keyOf_9 _ ka, Option.bind_some, letter_9 hW hl hk ob (by omega), Option.bind_some, keyOf_9 _ kb, Option.bind_some, if_pos (by rw [beq_iff_eq.mp (hall i hi)]), Option.bind_some, nI_1]
        rfl
      · rw [Option.bind_some]
        dsimp only
        rw [if_pos (nI_le (Nat.le_refl _) (by omega)), hbz, Option.bind_some]
    | false =>
      obtain ⟨k0, f1, f2, f3⟩ := allB_first hs
      have hne : keyN (a.1.getD k0 0) ≠ keyN (b.1.getD k0 0) := by simpa using f2
      have hsame : sameK a b = false := by
        unfold sameK
        rw [beq_eq_false_iff_ne]
        intro z
        apply hne
        have e1 := cdK_get (show k0 < a.1.length by omega)
        have e2 := cdK_get (show k0 < b.1.length by omega)
        rw [z] at e1
        omega
      rw [hsame]
      refine lp_go (fun i => (b01 (decide (i ≤ k0)), nI i)) (k0 + 1) _ (by rw [nI_0, decide_eq_true (Nat.zero_le k0)]; rfl) (fun i hi => ?_) ?_ (by omega)
      · have ka := getD_lt26 oa (show i < a.1.length by omega)
        have kb := getD_lt26 ob (show i < b.1.length by omega)
        have ra := keyN_rng _ ka
        have rb := keyN_rng _ kb
        rw [Option.bind_some]
        dsimp only
        rw [decide_eq_true (show i ≤ k0 by omega), if_neg (nI_ge (by omega) (by omega)), if_neg (show ¬ b01 true = 0 from by decide), letter_9 hW hl hj oa (by omega), Option.bind_some, keyOf_9 _ ka, Option.bind_some, letter_9 hW hl hk ob (by omega), Option.bind_some, keyOf_9 _ kb, Option.bind_some, nI_1]
        by_cases ei : i = k0
        · rw [ei] at ra rb ⊢
          rw [if_neg (fun z => hne ((nI_eq (by omega) (by omega)).mp z)), Option.bind_some, decide_eq_false (show ¬ k0 + 1 ≤ k0 by omega)]
          rfl
        · rw [if_pos (by rw [beq_iff_eq.mp (f3 i (by omega))]), Option.bind_some, decide_eq_true (show i + 1 ≤ k0 by omega)]
          rfl
      · rw [Option.bind_some]
        dsimp only
        rw [decide_eq_false (show ¬ k0 + 1 ≤ k0 by omega)]
        by_cases e0 : nI a.1.length ≤ nI (k0 + 1)
        · rw [if_pos e0, hbz, Option.bind_some]
        · rw [if_neg e0, if_pos (show b01 false = 0 from rfl), hbz, Option.bind_some]
  · rw [if_neg (fun z => e ((nI_eq (by omega) (by omega)).mp z)), Option.bind_some]
    have hsame : sameK a b = false := by
      unfold sameK
      rw [beq_eq_false_iff_ne]
      intro z
      have := congrArg List.length z
      omega
    rw [hsame]
    refine lp_go (fun i => (b01 false, nI i)) 0 _ (by rw [nI_0]; rfl) (fun i hi => absurd hi (Nat.not_lt_zero i)) ?_ (by omega)
    rw [Option.bind_some]
    dsimp only
    by_cases e0 : nI a.1.length ≤ nI 0
    · rw [if_pos e0, hbz, Option.bind_some]
    · rw [if_neg e0, if_pos (show b01 false = 0 from rfl), hbz, Option.bind_some]
theorem stepsOf_9 (hW : R9w ws m.1) (ho : okWs ws) {k : Nat} {b : Wd} (hk : ws[k]? = some b) : f_X9_stepsOf m (nI k) = some (nI (stepsN ws k)) := by
  have hl := ho.1
  have hkl := lt_of_get hk
  unfold f_X9_stepsOf
  rw [many_9 hW]
  refine lp_count (fun j => sameKAt ws j k && aheadAt ws j k) ws.length (fun j c hj => ?_) (fun c => ?_) (by omega)
  · obtain ⟨a, ha⟩ := get_of_lt hj
    rw [Option.bind_some]
    dsimp only
    rw [if_neg (nI_ge hj (by omega)), nI_1, aheadAt_e ha hk, sameKAt_e ha hk]
    by_cases e : j = k
    · subst e
      rw [ha] at hk
      cases hk
      rw [if_pos rfl, Option.bind_some, ahead_irr]
      simp
    · rw [if_neg (fun z => e ((nI_eq (by omega) (by omega)).mp z)), haveKeys_9 hW ho ha hk, Option.bind_some, isAhead_9 hW ho ha hk, Option.bind_some]
      cases sameK a b <;> cases ahead a b <;> simp [b01]
  · rw [Option.bind_some]
    dsimp only
    rw [if_pos (nI_le (Nat.le_refl _) (by omega))]
end M9
