/-! ===== the reference's calls that only look ===== -/
theorem settingOf_9 {m : T9} {s : St} (hA : R9a s m.1) (ho : okSt s) {v : Int32} (h0 : ¬ v < 0) (h1 : v < 11) : f_X9_settingOf m v = some (setI s v) := by
  obtain ⟨hW, hT, hP, a1, a2, a3, a4, a5, a7, a9⟩ := hA
  have hn := sN_le s
  have hwl := ho.1.1
  have hc := candidates_9 hW hP a3 ho.1 ho.2.2.2.1
  unfold f_X9_settingOf setI
  rcases v11 h0 h1 with rfl | rfl | rfl | rfl | rfl | rfl | rfl | rfl | rfl | rfl | rfl
  · rw [if_pos (by decide), rd_c (i := 0) 0 rfl (by omega) hW.1]; rfl
  · rw [if_pos (by decide), rd_c (i := 1) 1 rfl (by omega) a1]; rfl
  · rw [if_pos (by decide), rd_c (i := 2) 2 rfl (by omega) a2]; rfl
  · rw [if_pos (by decide), rd_c (i := 3) 3 rfl (by omega) a3]; rfl
  · rw [if_pos (by decide), rd_c (i := 4) 4 rfl (by omega) a4]; rfl
  · rw [if_pos (by decide), rd_c (i := 5) 5 rfl (by omega) a5]; rfl
  · rw [if_pos (by decide), rd_c (i := 6) 6 rfl (by omega) hP.1]; rfl
  · rw [if_neg (by decide), if_pos rfl, hc]; rfl
  · rw [if_neg (by decide), if_neg (by decide), if_pos rfl, hc, Option.bind_some]
    by_cases e : 0 < sN s
    · rw [if_neg (show ¬ nI (sN s) ≤ 0 from nI_ge (a := 0) e (by omega)), rd_c (i := 7) 7 rfl (by omega) a7, if_pos e]; rfl
    · rw [if_pos (show nI (sN s) ≤ 0 from nI_le (b := 0) (by omega) (by omega)), if_neg e]; rfl
  · rw [if_neg (by decide), if_neg (by decide), if_neg (by decide), if_pos rfl, rd_c (i := 8) 8 rfl (by omega) hT.1]; rfl
  · rw [if_neg (by decide), if_neg (by decide), if_neg (by decide), if_neg (by decide), if_pos rfl, rd_c (i := 9) 9 rfl (by omega) a9]; rfl
section OPS9
variable {g : Sg} {m : T9}
theorem no_9 (hR : R9 g m) : An9 (some (0, thr m 1)) (1, 0, g) := ⟨0, thr m 1, rfl, hR, rfl, fun z => absurd z (show ¬ (1 : Int32) = 0 by decide)⟩
theorem no2_9 (hR : R9 g m) : An9 (some (0, thr m 2)) (2, 0, g) := ⟨0, thr m 2, rfl, hR, rfl, fun z => absurd z (show ¬ (2 : Int32) = 0 by decide)⟩
theorem ya_9 (hR : R9 g m) (v : Int32) : An9 (some (v, thr m 0)) (0, v, g) := ⟨v, thr m 0, rfl, hR, rfl, fun _ => rfl⟩
theorem setting_9c (hR : R9 g m) (ho : okSg g) (v : Int32) : An9 (f_X9_setting m v) (anSet g v) := by
  have hin : f_X9_in v.toInt64 0 10 = _ := inC_9 (a := v) (lo := 0) (hi := 10) (by decide) (by decide)
  unfold f_X9_setting anSet
  rw [hin, Option.bind_some, one_9, Option.bind_some]
  by_cases h : v < 0 ∨ 10 < v
  · rw [decide_eq_true h, if_pos h]
    exact no_9 hR
  · rw [decide_eq_false h, if_neg h]
    have h0 : ¬ v < 0 := fun z => h (Or.inl z)
    have h11 : v < 11 := by
      obtain ⟨j, hj, rfl⟩ := nI_of h0
      have : ¬ 10 < j := fun z => h (Or.inr (nI_lt (a := 10) z hj))
      exact nI_lt (b := 11) (by omega) (by omega)
    have hs : f_X9_settingOf (thr m 0) v = _ := settingOf_9 (m := thr m 0) hR.1 ho.1 h0 h11
    simp only [Bool.not_false, if_true]
    rw [if_neg (by decide), hs, Option.bind_some]
    exact ya_9 hR _
theorem place_9c (hR : R9 g m) (ho : okSg g) (a : Int32) : An9 (f_X9_place m a) (anPlace g a) := by
  have hP := hR.1.2.2.1
  have hpl := ho.1.2.2.2.1.1
  unfold f_X9_place anPlace
  rw [rd_c (i := 6) 6 rfl (by omega) hP.1, Option.bind_some, inN_9 (by omega), Option.bind_some, one_9, Option.bind_some]
  by_cases h0 : a < 0
  · rw [if_pos (Or.inl h0), decide_eq_true h0]
    exact no_9 hR
  · obtain ⟨k, hk, rfl⟩ := nI_of h0
    rw [decide_eq_false h0, nI_clamp hk]
    by_cases h1 : k < (sPl g.1).length
    · have hc : (thr m 0).1 (10 + k) = placeI ((sPl g.1).getD k 0) := by
        show m.1 (10 + k) = _
        rw [hP.2 k _ (List.getElem?_eq_getElem h1), List.getD_eq_getElem?_getD, List.getElem?_eq_getElem h1]
        rfl
      have e10 : (10 : Int32) + nI k = nI (10 + k) := nI_add 10 k
      have hnn : ¬ (nI k < 0 ∨ (sPl g.1).length ≤ k) := fun z => z.elim h0 (fun q => by omega)
      rw [decide_eq_true h1, if_neg hnn]
      simp only [Bool.not_false, Bool.and_self, if_true]
      rw [if_neg (by decide), e10, rd_c _ rfl (by omega) hc, Option.bind_some]
      exact ya_9 hR _
    · rw [decide_eq_false h1, if_pos (Or.inr (by omega))]
      exact no_9 hR
theorem display_9c (hR : R9 g m) (ho : okSg g) (a : Int32) : An9 (f_X9_display m a) (anDisplay g a) := by
  obtain ⟨sh, d1, d2⟩ := disp_9 (m := thr m 0) hR.1 ho.1
  have hs1 := (shL_ok ho.1).1
  have hsl := hs1.1
  unfold f_X9_display anDisplay
  have hj : (if a < 0 then some (0 : Int32) else some 1) = some (b01 (!decide (a < 0))) := by
    by_cases h0 : a < 0
    · rw [if_pos h0, decide_eq_true h0]; rfl
    · rw [if_neg h0, decide_eq_false h0]; rfl
  rw [hj, Option.bind_some, one_9, Option.bind_some]
  by_cases h0 : a < 0
  · rw [if_pos h0, decide_eq_true h0]
    exact no_9 hR
  · rw [if_neg h0, decide_eq_false h0]
    obtain ⟨k, hk, rfl⟩ := nI_of h0
    rw [nI_clamp hk]
    simp only [Bool.not_false, if_true]
    rw [if_neg (by decide), d1, Option.bind_some]
    dsimp only
    by_cases h1 : (shL g.1).length ≤ k
    · rw [if_pos (nI_le h1 hk), if_pos h1]
      exact ⟨_, _, rfl, hR, rfl, fun _ => rfl⟩
    · have hc : sh k = nI ((shL g.1).getD k 0) := by
        rw [d2 k _ (List.getElem?_eq_getElem (by omega)), List.getD_eq_getElem?_getD, List.getElem?_eq_getElem (by omega)]
        rfl
      rw [if_neg (nI_ge (by omega) (by omega)), if_neg h1, rd_nI (by omega) (by omega), Option.bind_some, hc]
      exact ⟨_, _, rfl, hR, rfl, fun _ => rfl⟩
theorem inM_9 {a : Int32} {n : Nat} (hn : n < 2 ^ 30) : f_X9_in a.toInt64 (-1) ((nI n).toInt64 - 1) = some (b01 (decide (a = -1) || (!decide (a < 0) && decide (a.toNatClampNeg < n)))) := by
  rw [in_9]
  congr 2
  have e1 : ((nI n).toInt64 - 1).toInt = (n : Int) - 1 := by
    rw [Int64.toInt_sub, Int32.toInt_toInt64, nI_toInt (by omega)]
    show ((n : Int) - 1).bmod (2 ^ 64) = _
    exact Int.bmod_eq_of_le (by omega) (by omega)
  have l1 : ((-1 : Int64) ≤ a.toInt64) ↔ -1 ≤ a.toInt := by
    rw [Int64.le_iff_toInt_le, Int32.toInt_toInt64]
    show (-1 : Int) ≤ a.toInt ↔ _
    exact Iff.rfl
  have l2 : (a.toInt64 ≤ (nI n).toInt64 - 1) ↔ a.toInt ≤ (n : Int) - 1 := by
    rw [Int64.le_iff_toInt_le, e1, Int32.toInt_toInt64]
  by_cases h0 : a < 0
  · rw [decide_eq_true h0]
    have h0' : a.toInt < 0 := Int32.lt_iff_toInt_lt.mp h0
    by_cases hm : a = -1
    · rw [decide_eq_true hm, decide_eq_true (l1.mpr (by rw [hm]; decide)), decide_eq_true (l2.mpr (by omega))]
      rfl
    · rw [decide_eq_false hm, decide_eq_false (fun z => hm (by
        have := l1.mp z
        apply Int32.toInt_inj.mp
        show a.toInt = -1
        omega))]
      rfl
  · rw [decide_eq_false h0]
    obtain ⟨j, hj, rfl⟩ := nI_of h0
    have hm : ¬ nI j = -1 := fun z => h0 (by rw [z]; decide)
    rw [nI_clamp hj, decide_eq_false hm, decide_eq_true (l1.mpr (by rw [nI_toInt hj]; omega))]
    rw [nI_toInt hj] at l2
    by_cases h1 : j < n
    · rw [decide_eq_true (l2.mpr (by omega)), decide_eq_true h1]
      rfl
    · rw [decide_eq_false (fun z => h1 (by have := l2.mp z; omega)), decide_eq_false h1]
      rfl
theorem written_9c (hR : R9 g m) (ho : okSg g) (a i : Int32) : An9 (f_X9_written m a i) (anWritten g a i) := by
  have hT := hR.1.2.1
  have o2 := ho.1.2.1
  have htl := o2.1
  unfold f_X9_written anWritten
  rw [rd_c (i := 8) 8 rfl (by omega) hT.1, Option.bind_some, inN_9 (by omega), Option.bind_some]
  have hno : Option.bind (α := Int32) ((if b01 false = 0 then some (720 : Int32) else some (720 + (11 * a)))) (fun j3 => Option.bind (α := Int32) ((if b01 false = 0 then some 0 else Option.bind (α := Int32) (rd m.1 1050 j3) (fun x7 => Option.bind (α := Int32) (f_X9_in i.toInt64 (-1) (x7.toInt64 - 1)) (fun x8 => (if x8 = 0 then some 0 else some 1))))) (fun j5 => Option.bind (α := Int32 × T9) (f_X9_goes m j5 1) (fun x10 => (if x10.1 = 0 then (some (0, x10.2)) else Option.bind (α := Int32) (rd x10.2.1 1050 ((j3 + 1) + i)) (fun x12 => (some (x12, x10.2))))))) = some (0, thr m 1) := rfl
  by_cases h0 : a < 0
  · rw [if_pos h0, decide_eq_true h0]
    simp only [Bool.not_true, Bool.false_and]
    rw [hno]
    exact no_9 hR
  · rw [if_neg h0, decide_eq_false h0]
    obtain ⟨k, hk, rfl⟩ := nI_of h0
    rw [nI_clamp hk]
    cases hg : (sTx g.1)[k]? with
    | none =>
      have hge : ¬ k < (sTx g.1).length := fun z => by
        rw [List.getElem?_eq_getElem z] at hg
        cases hg
      rw [decide_eq_false hge, Bool.and_false, hno]
      exact no_9 hR
    | some l =>
      have hlt := lt_of_get hg
      have hl := (o2.2 l (List.mem_of_getElem? hg)).1
      have hll := hl.1
      obtain ⟨t1, t2⟩ := hT.2 k l hg
      rw [decide_eq_true hlt, show (!false && true) = true from rfl, if_neg (show ¬ b01 true = 0 from by decide), Option.bind_some, if_neg (show ¬ b01 true = 0 from by decide), tx_at, rd_c _ rfl (by omega) t1, Option.bind_some, inM_9 (by omega), Option.bind_some]
      dsimp only
      have hf : ∀ b : Bool, (if b01 b = 0 then some (0 : Int32) else some 1) = some (b01 b) := fun b => by cases b <;> rfl
      rw [hf, Option.bind_some, one_9, Option.bind_some]
      by_cases hi : i = -1
      · rw [if_pos hi, decide_eq_true hi]
        simp only [Bool.true_or, if_true]
        have ei : nI (720 + 11 * k) + 1 + i = nI (720 + 11 * k) := by
          rw [hi, nI_1, nI_m1, nI_pred]
        have t1' : (thr m 0).1 (720 + 11 * k) = nI l.length := t1
        rw [if_neg (by decide), ei, rd_c _ rfl (by omega) t1', Option.bind_some]
        exact ya_9 hR _
      · rw [if_neg hi, decide_eq_false hi, Bool.false_or]
        by_cases h1 : i < 0
        · rw [if_pos (Or.inl h1), decide_eq_true h1]
          exact no_9 hR
        · obtain ⟨j, hj, rfl⟩ := nI_of h1
          rw [decide_eq_false h1, nI_clamp hj]
          by_cases h2 : j < l.length
          · have hc : (thr m 0).1 (720 + 11 * k + 1 + j) = nI (l.getD j 0) := by
              show m.1 _ = _
              rw [t2 j _ (List.getElem?_eq_getElem h2), List.getD_eq_getElem?_getD, List.getElem?_eq_getElem h2]
              rfl
            have hnn : ¬ (nI j < 0 ∨ l.length ≤ j) := fun z => z.elim h1 (fun q => by omega)
            rw [decide_eq_true h2, if_neg hnn]
            simp only [Bool.not_false, Bool.and_self, if_true]
            rw [if_neg (by decide), nI_1, nI_add, rd_c _ rfl (by omega) hc, Option.bind_some]
            exact ya_9 hR _
          · rw [decide_eq_false h2, if_pos (Or.inr (by omega))]
            exact no_9 hR
theorem clear_9c (hR : R9 g m) : ∃ m', f_X9_clearText m = some (nI g.2.2.length, m') ∧ R9 (g.1, g.2.1, []) m' := by
  obtain ⟨h1, h2, h3, h4, h5⟩ := hR
  unfold f_X9_clearText
  rw [h4]
  exact ⟨_, rfl, h1, h2, h3, rfl, fun k b hk => by simp at hk⟩
theorem word_9c (hR : R9 g m) (ho : okSg g) (a v : Int32) : An9 (f_X9_word m a v) (anWord g a v) := by
  have hW := hR.1.1
  have hin : f_X9_in v.toInt64 0 4 = _ := inC_9 (a := v) (lo := 0) (hi := 4) (by decide) (by decide)
  unfold f_X9_word anWord
  rw [isWord_9 hW ho.1.1.1 a, Option.bind_some, hin, Option.bind_some, goes_9, Option.bind_some]
  cases h : wAt (sWs g.1) a with
  | none => exact no_9 hR
  | some k =>
    obtain ⟨hk1, rfl⟩ := wAt_some h
    obtain ⟨q, hq⟩ := get_of_lt hk1
    dsimp only
    by_cases hv : v < 0 ∨ 4 < v
    · rw [decide_eq_true hv, if_pos hv]
      exact no2_9 hR
    · have h0 : ¬ v < 0 := fun z => hv (Or.inl z)
      have h5 : v < 5 := by
        obtain ⟨j, hj, rfl⟩ := nI_of h0
        have : ¬ 4 < j := fun z => hv (Or.inr (nI_lt (a := 4) z hj))
        exact nI_lt (b := 5) (by omega) (by omega)
      have hw : f_X9_wordValue (thr m 0) (nI k) v = _ := wordValue_9 (m := thr m 0) hW ho.1.1 hq (v5 h0 h5)
      rw [decide_eq_false hv, if_neg hv, hq]
      simp only [Option.isSome_some, Bool.not_false, if_true]
      rw [if_neg (by decide), hw, Option.bind_some]
      exact ya_9 hR _
theorem presses_9c (hR : R9 g m) (ho : okSg g) (a : Int32) (t : Bool) : An9 (f_X9_presses m a (b01 t)) (anPresses g a t) := by
  have hW := hR.1.1
  unfold f_X9_presses anPresses
  have h1 : ∀ b : Bool, f_X9_goes m (b01 b) 1 = _ := fun b => one_9 m b
  rw [isWord_9 hW ho.1.1.1 a, Option.bind_some, h1, Option.bind_some]
  cases h : wAt (sWs g.1) a with
  | none => exact no_9 hR
  | some k =>
    obtain ⟨hk1, rfl⟩ := wAt_some h
    obtain ⟨q, hq⟩ := get_of_lt hk1
    have hw : f_X9_pressesOf (thr m 0) (nI k) (b01 t) = _ := pressesOf_9 (m := thr m 0) hW ho.1.1 hq t
    dsimp only
    rw [hq]
    simp only [Option.isSome_some, if_true]
    rw [if_neg (by decide), hw, Option.bind_some]
    exact ya_9 hR _
theorem clashing_9c (hR : R9 g m) (ho : okSg g) : ∃ m', f_X9_clashing m = some (nI (clashN (sWs g.1)), m') ∧ R9 g m' := by
  have hW := hR.1.1
  have o1 := ho.1.1
  have hwl := o1.1
  refine ⟨thr m 0, ?_, hR⟩
  unfold f_X9_clashing
  rw [many_9 hW]
  refine lp_go (fun j => (nI (cnt (clashAt (sWs g.1)) j), nI j)) (sWs g.1).length _ (by rw [cnt, nI_0]) (fun k hk => ?_) ?_ (by omega)
  · obtain ⟨b, hb⟩ := get_of_lt hk
    rw [Option.bind_some]
    dsimp only
    rw [if_neg (nI_ge hk (by omega))]
    have hin : lp (σ := Int32 × Int32) (ρ := Int32) (fun v5 => Option.bind (some (nI (sWs g.1).length)) (fun x7 => (if x7 ≤ v5.2 then (some (.inr v5.1)) else Option.bind (α := Int32) ((if v5.1 = 0 then (if v5.2 = nI k then some 0 else Option.bind (α := Int32) (f_X9_haveKeys (m.1, m.2.1, m.2.2.1, m.2.2.2.1, 0, m.2.2.2.2.2.1, m.2.2.2.2.2.2.1, m.2.2.2.2.2.2.2.1, m.2.2.2.2.2.2.2.2.1, m.2.2.2.2.2.2.2.2.2) v5.2 (nI k)) (fun x12 => (if x12 = 0 then some 0 else some 1))) else some 1)) (fun j9 => (some (.inl (j9, (v5.2 + 1)))))))) 5000 (0, 0) = some (b01 (clashAt (sWs g.1) k)) := by
      refine lp_go (fun j => (b01 (!(allB (fun j => !(j != k && sameKAt (sWs g.1) j k)) j)), nI j)) (sWs g.1).length _ (by rw [nI_0]; rfl) (fun j hj => ?_) ?_ (by omega)
      · obtain ⟨a, ha⟩ := get_of_lt hj
        have hh : f_X9_haveKeys (m.1, m.2.1, m.2.2.1, m.2.2.2.1, 0, m.2.2.2.2.2.1, m.2.2.2.2.2.2.1, m.2.2.2.2.2.2.2.1, m.2.2.2.2.2.2.2.2.1, m.2.2.2.2.2.2.2.2.2) (nI j) (nI k) = some (b01 (sameK a b)) := haveKeys_9 (m := thr m 0) hW o1 ha hb
        have eL : allB (fun j => !(j != k && sameKAt (sWs g.1) j k)) (j + 1) = (allB (fun j => !(j != k && sameKAt (sWs g.1) j k)) j && !(j != k && sameKAt (sWs g.1) j k)) := rfl
        rw [Option.bind_some]
        dsimp only
        rw [if_neg (nI_ge hj (by omega)), nI_1, eL, sameKAt_e ha hb, hh]
        cases allB (fun j => !(j != k && sameKAt (sWs g.1) j k)) j with
        | false => rfl
        | true =>
          rw [if_pos (show b01 (!true) = 0 from rfl)]
          by_cases e : j = k
          · rw [if_pos (by rw [e]), Option.bind_some, e]
            simp [b01]
          · rw [if_neg (fun z => e ((nI_eq (by omega) (by omega)).mp z)), Option.bind_some, bne_iff_ne.mpr e]
            cases sameK a b <;> rfl
      · rw [Option.bind_some]
        dsimp only
        rw [if_pos (nI_le (Nat.le_refl _) (by omega))]
        rfl
    rw [hin, Option.bind_some, cnt_succ, nI_1]
    cases clashAt (sWs g.1) k with
    | false => rw [if_pos (show b01 false = 0 from rfl), Option.bind_some, if_neg (by decide)]; rw [show nI (cnt (clashAt (sWs g.1)) k) + 0 = nI (cnt (clashAt (sWs g.1)) k + 0) from nI_add _ 0]
    | true => rw [if_neg (show ¬ b01 true = 0 from by decide), Option.bind_some, if_pos rfl, nI_1]
  · rw [Option.bind_some]
    dsimp only
    rw [if_pos (nI_le (Nat.le_refl _) (by omega))]
    rfl
end OPS9
