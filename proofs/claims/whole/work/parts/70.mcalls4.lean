/-! ===== the reference: a word's values, its presses ===== -/
theorem wordValue_9 {m : T9} {ws : List Wd} (hW : R9w ws m.1) (ho : okWs ws) {k : Nat} {q : Wd} (hk : ws[k]? = some q) {v : Int32} (h : v = 0 ∨ v = 1 ∨ v = 2 ∨ v = 3 ∨ v = 4) : f_X9_wordValue m (nI k) v = some (valI ws k q v) := by
  unfold f_X9_wordValue valI
  rcases h with rfl | rfl | rfl | rfl | rfl
  · rw [if_neg (by decide), if_pos rfl, len_9 hW ho.1 hk, Option.bind_some]
  · rw [if_neg (by decide), if_neg (by decide), if_pos rfl, count_9 hW ho.1 hk, Option.bind_some]
  · rw [if_neg (by decide), if_neg (by decide), if_neg (by decide), if_pos rfl, time_9 hW ho.1 hk, Option.bind_some]
  · rw [if_neg (by decide), if_neg (by decide), if_neg (by decide), if_neg (by decide), if_pos rfl, added_9 hW ho.1 hk, Option.bind_some]
  · rw [if_pos rfl, if_neg (by decide), if_neg (by decide), if_neg (by decide), if_neg (by decide), rankOf_9 hW ho hk, Option.bind_some]
theorem pressesOf_9 {m : T9} {ws : List Wd} (hW : R9w ws m.1) (ho : okWs ws) {k : Nat} {q : Wd} (hk : ws[k]? = some q) (t : Bool) : f_X9_pressesOf m (nI k) (b01 t) = some (if t then nI (tapsN q.1 q.1.length) else nI (q.1.length + stepsN ws k)) := by
  have hq := (ho.wd hk).1
  have hql := hq.1
  unfold f_X9_pressesOf
  cases t with
  | false =>
    rw [if_pos (show b01 false = 0 from rfl), len_9 hW ho.1 hk, Option.bind_some, stepsOf_9 hW ho hk, Option.bind_some, nI_add]
    rfl
  | true =>
    rw [if_neg (show ¬ b01 true = 0 from by decide), if_pos rfl]
    refine lp_go (fun j => (nI (tapsN q.1 j), (if j = 0 then (-1 : Int32) else nI (keyN (q.1.getD (j - 1) 0))), nI j)) q.1.length _ (by rw [tapsN, nI_0]; rfl) (fun j hj => ?_) ?_ (by omega)
    · have ha := getD_lt26 hq hj
      have hr := keyN_rng _ ha
      have hf := firN_le _ ha
      rw [len_9 hW ho.1 hk, Option.bind_some]
      dsimp only
      rw [if_neg (nI_ge hj (by omega)), letter_9 hW ho.1 hk hq hj, Option.bind_some, keyOf_9 _ ha, Option.bind_some, Option.bind_some, firstOf_9 _ (by omega) hr.1, Option.bind_some, nI_sub _ _ hf, nI_1, nI_1]
      have et : tapsN q.1 (j + 1) = tapsN q.1 j + tapAt q.1 j := rfl
      rw [et]
      unfold tapAt tapN
      by_cases h0 : j = 0
      · subst h0
        rw [if_pos rfl, if_neg (show ¬ nI (keyN (q.1.getD 0 0)) = -1 from fun z => nI_pos (n := keyN (q.1.getD 0 0)) (by omega) (by rw [z]; decide)), Option.bind_some, if_neg (show ¬ (0 < 0 ∧ keyN (q.1.getD 0 0) = keyN (q.1.getD (0 - 1) 0)) from fun z => absurd z.1 (Nat.lt_irrefl _)), if_neg (by omega)]
        have : nI (q.1.getD 0 0 - firN (keyN (q.1.getD 0 0)) + 1) + 0 = nI (q.1.getD 0 0 - firN (keyN (q.1.getD 0 0)) + 1 + 0) := nI_add _ 0
        rw [this, nI_add]
      · have hb := getD_lt26 hq (show j - 1 < q.1.length by omega)
        have hs := keyN_rng _ hb
        rw [if_neg h0, if_neg (show ¬ j + 1 = 0 by omega)]
        by_cases e : keyN (q.1.getD j 0) = keyN (q.1.getD (j - 1) 0)
        · rw [if_pos (by rw [e]), if_pos ⟨by omega, e⟩, Option.bind_some, nI_1, nI_add]
          rfl
        · rw [if_neg (fun z => e ((nI_eq (by omega) (by omega)).mp z)), if_neg (fun z => e z.2), Option.bind_some]
          have : nI (q.1.getD j 0 - firN (keyN (q.1.getD j 0)) + 1) + 0 = nI (q.1.getD j 0 - firN (keyN (q.1.getD j 0)) + 1 + 0) := nI_add _ 0
          rw [this, nI_add]
          rfl
    · rw [len_9 hW ho.1 hk, Option.bind_some]
      dsimp only
      rw [if_pos (nI_le (Nat.le_refl _) (by omega))]
