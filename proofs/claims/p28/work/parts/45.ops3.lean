/-! ===== the class's calls that only look ===== -/
def wAt (ws : List Wd) (a : Int32) : Option Nat := if a < 0 then none else if a.toNatClampNeg < ws.length then some a.toNatClampNeg else none
theorem wAt_cases {ws : List Wd} {w : T6} (hR : R6 ws w) (hl : ws.length ≤ 50) (a : Int32) : (wAt ws a = none ∧ f_X6_has w a = some 0) ∨ ∃ k q, wAt ws a = some k ∧ a = nI k ∧ ws[k]? = some q := by
  unfold wAt
  by_cases h0 : a < 0
  · rw [if_pos h0]
    exact Or.inl ⟨rfl, has_6n h0⟩
  · rw [if_neg h0]
    obtain ⟨j, hj, rfl⟩ := nI_of h0
    rw [nI_clamp hj]
    by_cases h1 : j < ws.length
    · rw [if_pos h1]
      obtain ⟨q, hq⟩ := get_of_lt h1
      exact Or.inr ⟨j, q, rfl, rfl, hq⟩
    · rw [if_neg h1]
      exact Or.inl ⟨rfl, by rw [has_6 hR hl hj, if_neg h1]⟩
def valI (ws : List Wd) (k : Nat) (q : Wd) (v : Int32) : Int32 := if v = 0 then nI q.1.length else if v = 1 then nI q.2.1 else if v = 2 then q.2.2.1 else if v = 3 then b01 q.2.2.2 else nI (rankN ws k)
theorem v5 {v : Int32} (h0 : ¬ v < 0) (h1 : v < 5) : v = 0 ∨ v = 1 ∨ v = 2 ∨ v = 3 ∨ v = 4 := by
  obtain ⟨j, hj, rfl⟩ := nI_of h0
  have : j < 5 := (nI_ltI (a := j) (b := 5) hj (by omega)).mp h1
  rcases (show j = 0 ∨ j = 1 ∨ j = 2 ∨ j = 3 ∨ j = 4 by omega) with rfl | rfl | rfl | rfl | rfl <;> decide
theorem valueOf_6 {ws : List Wd} {w : T6} (hR : R6 ws w) (ho : okWs ws) {k : Nat} {q : Wd} (hk : ws[k]? = some q) {v : Int32} (h : v = 0 ∨ v = 1 ∨ v = 2 ∨ v = 3 ∨ v = 4) : f_X6_valueOf w (nI k) v = some (valI ws k q v) := by
  have e1 : (cdL q.1).length = q.1.length := by simp [cdL]
  unfold f_X6_valueOf valI
  rcases h with rfl | rfl | rfl | rfl | rfl
  · rw [if_neg (by decide), if_pos rfl, if_pos rfl, wordAt_6 hR ho.1 hk, Option.bind_some, lengthOf_pk (ho.wd hk).1.cd, Option.bind_some, e1]
  · rw [if_neg (by decide), if_neg (by decide), if_pos rfl, if_neg (by decide), if_pos rfl, countAt_6 hR ho.1 hk, Option.bind_some]
  · rw [if_neg (by decide), if_neg (by decide), if_neg (by decide), if_pos rfl, if_neg (by decide), if_neg (by decide), if_pos rfl, timeAt_6 hR ho.1 hk, Option.bind_some]
  · rw [if_neg (by decide), if_neg (by decide), if_neg (by decide), if_neg (by decide), if_pos rfl, if_neg (by decide), if_neg (by decide), if_neg (by decide), if_pos rfl, isAdded_6 hR ho.1 hk, Option.bind_some]
    cases q.2.2.2 <;> rfl
  · rw [if_neg (by decide), if_neg (by decide), if_neg (by decide), if_neg (by decide), if_neg (by decide), if_pos rfl, if_neg (by decide), if_neg (by decide), if_neg (by decide), if_neg (by decide), rankOf_6 hR ho hk, Option.bind_some]
section OPS
variable {g : Sg} {x : T8} {ou : Nat → Int64}
def anWord (g : Sg) (a v : Int32) : An := match wAt (sWs g.1) a with
  | none => (1, 0, g)
  | some k => if v < 0 ∨ 4 < v then (2, 0, g) else match (sWs g.1)[k]? with
    | some q => (0, valI (sWs g.1) k q v, g)
    | none => (1, 0, g)
theorem word_8 (hR : R8 g x) (ho : okSg g) (a v : Int32) : An8 (f_L_word x a v ou) (anWord g a v) := by
  obtain ⟨r1, r2, r3, r4⟩ := hR
  unfold anWord f_L_word
  rcases wAt_cases r3.1 ho.1.1.1 a with ⟨h1, h2⟩ | ⟨k, q, h1, rfl, h2⟩
  · rw [h1]
    exact An8U_l (k := 2) (by unfold f_X8_word; rw [h2, Option.bind_some, if_pos rfl]) rfl ⟨r1, r2, r3, r4⟩
  · rw [h1]
    dsimp only
    have hh := has_6i r3.1 ho.1.1.1 h2
    by_cases hv0 : v < 0
    · rw [if_pos (Or.inl hv0)]
      exact An8U_m (k := 0) (by unfold f_X8_word; rw [hh, Option.bind_some, if_neg (by decide), if_pos hv0]) (by simp) rfl ⟨r1, r2, r3, r4⟩
    · by_cases hv1 : 4 < v
      · rw [if_pos (Or.inr hv1)]
        refine An8U_m (k := 0) ?_ (by simp) rfl ⟨r1, r2, r3, r4⟩
        unfold f_X8_word
        rw [hh, Option.bind_some, if_neg (by decide), if_neg hv0, if_neg (show ¬ v < 5 from fun z => by
          rcases v5 hv0 z with rfl | rfl | rfl | rfl | rfl <;> exact absurd hv1 (by decide))]
      · rw [if_neg (fun z => z.elim hv0 hv1), h2]
        dsimp only
        have hv5 : v < 5 := by
          obtain ⟨j, hj, rfl⟩ := nI_of hv0
          have : ¬ 4 < j := fun z => hv1 (nI_lt (a := 4) z hj)
          exact nI_lt (b := 5) (by omega) (by omega)
        refine An8U_r ?_ ⟨r1, r2, r3, r4⟩
        unfold f_X8_word
        rw [hh, Option.bind_some, if_neg (by decide), if_neg hv0, if_pos hv5, valueOf_6 r3.1 ho.1.1 h2 (v5 hv0 hv5), Option.bind_some]
def anLetter (g : Sg) (a i : Int32) : An := match wAt (sWs g.1) a with
  | none => (1, 0, g)
  | some k => match (sWs g.1)[k]? with
    | some q => if i < 0 ∨ q.1.length ≤ i.toNatClampNeg then (1, 0, g) else (0, nI (q.1.getD i.toNatClampNeg 0), g)
    | none => (1, 0, g)
theorem has_L {l : List Nat} (h : okL l) (i : Int32) : (i < 0 ∨ l.length ≤ i.toNatClampNeg) ∧ f_X4_has (pk (cdL l)) i = some 0 ∨ ¬ (i < 0 ∨ l.length ≤ i.toNatClampNeg) ∧ f_X4_has (pk (cdL l)) i = some 1 ∧ f_X4_letterAt (pk (cdL l)) i = some (nI (l.getD i.toNatClampNeg 0)) := by
  have e1 : (cdL l).length = l.length := by simp [cdL]
  by_cases h0 : i < 0
  · refine Or.inl ⟨Or.inl h0, ?_⟩
    rw [has_pk h.cd, cdI, if_pos h0, if_pos rfl]
  · obtain ⟨j, hj, rfl⟩ := nI_of h0
    rw [nI_clamp hj]
    by_cases h1 : j < l.length
    · refine Or.inr ⟨fun z => z.elim h0 (fun q => by omega), ?_, letterAt_nI h h1⟩
      rw [has_nI h.cd hj, e1, if_pos h1]
    · refine Or.inl ⟨Or.inr (by omega), ?_⟩
      rw [has_nI h.cd hj, e1, if_neg h1]
theorem letter_8 (hR : R8 g x) (ho : okSg g) (a i : Int32) : An8 (f_L_letter x a i ou) (anLetter g a i) := by
  obtain ⟨r1, r2, r3, r4⟩ := hR
  unfold anLetter f_L_letter
  rcases wAt_cases r3.1 ho.1.1.1 a with ⟨h1, h2⟩ | ⟨k, q, h1, rfl, h2⟩
  · rw [h1]
    exact An8U_l (k := 2) (by unfold f_X8_letter; rw [h2, Option.bind_some, if_pos rfl]) rfl ⟨r1, r2, r3, r4⟩
  · rw [h1]
    dsimp only
    rw [h2]
    dsimp only
    have hh := has_6i r3.1 ho.1.1.1 h2
    rcases has_L (ho.1.1.wd h2).1 i with ⟨c1, c2⟩ | ⟨c1, c2, c3⟩
    · rw [if_pos c1]
      exact An8U_l (k := 2) (by unfold f_X8_letter; rw [hh, Option.bind_some, if_neg (by decide), wordAt_6 r3.1 ho.1.1.1 h2, Option.bind_some, c2, Option.bind_some, if_pos rfl]) rfl ⟨r1, r2, r3, r4⟩
    · rw [if_neg c1]
      exact An8U_r (by unfold f_X8_letter; rw [hh, Option.bind_some, if_neg (by decide), wordAt_6 r3.1 ho.1.1.1 h2, Option.bind_some, c2, Option.bind_some, if_neg (by decide), c3, Option.bind_some]) ⟨r1, r2, r3, r4⟩
def anSteps (g : Sg) (a : Int32) : An := match wAt (sWs g.1) a with
  | none => (1, 0, g)
  | some k => (0, nI (stepsN (sWs g.1) k), g)
theorem steps_8 (hR : R8 g x) (ho : okSg g) (a : Int32) : An8 (f_L_steps x a ou) (anSteps g a) := by
  obtain ⟨r1, r2, r3, r4⟩ := hR
  unfold anSteps f_L_steps
  rcases wAt_cases r3.1 ho.1.1.1 a with ⟨h1, h2⟩ | ⟨k, q, h1, rfl, h2⟩
  · rw [h1]
    exact An8U_l (k := 2) (by unfold f_X8_steps; rw [h2, Option.bind_some, if_pos rfl]) rfl ⟨r1, r2, r3, r4⟩
  · rw [h1]
    exact An8U_r (by unfold f_X8_steps; rw [has_6i r3.1 ho.1.1.1 h2, Option.bind_some, if_neg (by decide), stepsTo_6 r3.1 ho.1.1 h2, Option.bind_some]) ⟨r1, r2, r3, r4⟩
def anPresses (g : Sg) (a : Int32) (t : Bool) : An := match wAt (sWs g.1) a with
  | none => (1, 0, g)
  | some k => match (sWs g.1)[k]? with
    | some q => (0, (if t then nI (tapsN q.1 q.1.length) else nI (q.1.length + stepsN (sWs g.1) k)), g)
    | none => (1, 0, g)
theorem presses_8 (hR : R8 g x) (ho : okSg g) (a : Int32) (t : Bool) : An8 (f_L_presses x a (b01 t) ou) (anPresses g a t) := by
  obtain ⟨r1, r2, r3, r4⟩ := hR
  unfold anPresses f_L_presses
  rcases wAt_cases r3.1 ho.1.1.1 a with ⟨h1, h2⟩ | ⟨k, q, h1, rfl, h2⟩
  · rw [h1]
    exact An8U_l (k := 2) (by unfold f_X8_presses; rw [h2, Option.bind_some, if_pos rfl]) rfl ⟨r1, r2, r3, r4⟩
  · rw [h1]
    dsimp only
    rw [h2]
    dsimp only
    have hh := has_6i r3.1 ho.1.1.1 h2
    cases t with
    | false => exact An8U_r (by unfold f_X8_presses; rw [hh, Option.bind_some, if_neg (by decide), if_pos (show b01 false = 0 from rfl), guesses_6 r3.1 ho.1.1 h2, Option.bind_some]; rfl) ⟨r1, r2, r3, r4⟩
    | true => exact An8U_r (by unfold f_X8_presses; rw [hh, Option.bind_some, if_neg (by decide), if_neg (show ¬ b01 true = 0 from by decide), taps_6 r3.1 ho.1.1 h2, Option.bind_some]; rfl) ⟨r1, r2, r3, r4⟩
def placeI (c : Nat) : Int32 := if c ≤ 26 then nI (100 + (c - 1)) else nI (c - 30)
theorem placeValue_8 {s : St} {y : T8} (hR : R5 s y.2.2.1) (ho : okSt s) {i : Nat} (hi : i < (sPl s).length) : f_X8_placeValue y (nI i) = some (placeI ((sPl s).getD i 0)) := by
  have h6 : y.2.2.1.2.2.2.2.2.2.2.1 = pk (sPl s) := by rw [hR.2.2.2]
  have hl := ho.2.2.2.1.1
  have hc := getD_P ho.2.2.2.1 hi
  unfold f_X8_placeValue placeI
  rw [h6, codeAt_nI ho.2.2.2.1.c (by omega), Option.bind_some, isLetter_nI hc, Option.bind_some]
  by_cases e : (sPl s).getD i 0 ≤ 26
  · rw [if_pos e, if_pos e, if_neg (by decide)]
    unfold f_X4_letterOf
    rw [Option.bind_some]
    have e1 : nI ((sPl s).getD i 0) - 1 = nI ((sPl s).getD i 0 - 1) := nI_sub _ 1 (by omega)
    rw [e1]
    exact congrArg some (nI_add 100 _)
  · rw [if_neg e, if_neg e, if_pos rfl]
    unfold f_X4_keyOf
    rw [Option.bind_some]
    have e1 : nI ((sPl s).getD i 0) - 30 = nI ((sPl s).getD i 0 - 30) := nI_sub _ 30 (by omega)
    rw [e1]
def anPlace (g : Sg) (i : Int32) : An := if i < 0 ∨ (sPl g.1).length ≤ i.toNatClampNeg then (1, 0, g) else (0, placeI ((sPl g.1).getD i.toNatClampNeg 0), g)
def anDisplay (g : Sg) (i : Int32) : An := if i < 0 then (1, 0, g) else (0, (if (shL g.1).length ≤ i.toNatClampNeg then -1 else nI ((shL g.1).getD i.toNatClampNeg 0)), g)
theorem display_8 (hR : R8 g x) (ho : okSg g) (i : Int32) : An8 (f_L_display x i ou) (anDisplay g i) := by
  obtain ⟨r1, r2, r3, r4⟩ := hR
  obtain ⟨cc, hd⟩ := disp_8 (x := x) r3 ho.1
  have hs := (shL_ok ho.1).1
  unfold anDisplay f_L_display
  by_cases h0 : i < 0
  · rw [if_pos h0]
    exact An8_l (k := 0) (r := x.2.2.2.2) (by unfold f_X8_display; rw [if_neg (Int32.not_le.mpr h0)]) rfl ⟨r1, r2, r3, r4⟩
  · rw [if_neg h0]
    rcases has_L hs i with ⟨c1, c2⟩ | ⟨c1, c2, c3⟩
    · rw [if_pos (c1.resolve_left h0)]
      exact An8_r (r := cc) (by unfold f_X8_display; rw [if_pos (Int32.not_lt.mp h0), hd, Option.bind_some, c2, Option.bind_some, if_pos rfl]) ⟨r1, r2, r3, r4⟩
    · rw [if_neg (fun z => c1 (Or.inr z))]
      exact An8_r (r := cc) (by unfold f_X8_display; rw [if_pos (Int32.not_lt.mp h0), hd, Option.bind_some, c2, Option.bind_some, if_neg (by decide), c3, Option.bind_some]) ⟨r1, r2, r3, r4⟩
def anCand (g : Sg) (i : Int32) : An := if i < 0 ∨ sN g.1 ≤ i.toNatClampNeg then (1, 0, g) else (0, idxI (candAt (sWs g.1) (sCmp g.1) (sPl g.1) i.toNatClampNeg), g)
theorem candidate_8 (hR : R8 g x) (ho : okSg g) (i : Int32) : An8 (f_L_candidate x i ou) (anCand g i) := by
  obtain ⟨r1, r2, r3, r4⟩ := hR
  obtain ⟨w', l, k1, k2, k3, k4, k5⟩ := findS r3 ho.1 x.2.2.2.2
  unfold anCand f_L_candidate
  by_cases h0 : i < 0
  · rw [if_pos (Or.inl h0)]
    exact An8_l (k := 2) (r := w') (by unfold f_X8_candidate; rw [k1, Option.bind_some, if_pos h0]) rfl ⟨r1, r2, r3, r4⟩
  · obtain ⟨j, hj, rfl⟩ := nI_of h0
    rw [nI_clamp hj]
    by_cases h1 : j < sN g.1
    · rw [if_neg (fun z => z.elim h0 (fun q => by omega))]
      have hl := k5 (by omega)
      obtain ⟨c, hc⟩ := get_of_lt (show j < l.length by omega)
      rw [hl.candAt, hc]
      exact An8_r (r := w') (by unfold f_X8_candidate; rw [k1, Option.bind_some, if_neg h0, k2.1, if_pos (nI_lt (by omega) (by omega)), cwordAt_0 k2 k4 hc, Option.bind_some]; rfl) ⟨r1, r2, r3, r4⟩
    · rw [if_pos (Or.inr (by omega))]
      exact An8_l (k := 2) (r := w') (by unfold f_X8_candidate; rw [k1, Option.bind_some, if_neg h0, k2.1, if_neg (nI_nlt (by omega) (by omega))]) rfl ⟨r1, r2, r3, r4⟩
def anWritten (g : Sg) (a i : Int32) : An := if a < 0 then (1, 0, g) else match (sTx g.1)[a.toNatClampNeg]? with
  | none => (1, 0, g)
  | some l => if i = -1 then (0, nI l.length, g) else if i < 0 ∨ l.length ≤ i.toNatClampNeg then (1, 0, g) else (0, nI (l.getD i.toNatClampNeg 0), g)
theorem written_8 (hR : R8 g x) (ho : okSg g) (a i : Int32) : An8 (f_L_written x a i ou) (anWritten g a i) := by
  obtain ⟨r1, r2, r3, r4⟩ := hR
  have htl := ho.1.2.1.1
  unfold anWritten f_L_written
  by_cases h0 : a < 0
  · rw [if_pos h0]
    exact An8U_l (k := 2) (by unfold f_X8_written; rw [has_7n h0, Option.bind_some, if_pos rfl]) rfl ⟨r1, r2, r3, r4⟩
  · rw [if_neg h0]
    obtain ⟨j, hj, rfl⟩ := nI_of h0
    rw [nI_clamp hj]
    cases hg : (sTx g.1)[j]? with
    | none =>
      dsimp only
      have hge : ¬ j < (sTx g.1).length := fun z => by
        rw [List.getElem?_eq_getElem z] at hg
        cases hg
      exact An8U_l (k := 2) (by unfold f_X8_written; rw [has_7 r3.2.2.1 htl hj, if_neg hge, Option.bind_some, if_pos rfl]) rfl ⟨r1, r2, r3, r4⟩
    | some l =>
      dsimp only
      have hlt := lt_of_get hg
      have hl := (ho.1.2.1.2 l (List.mem_of_getElem? hg)).1
      have e1 : (cdL l).length = l.length := by simp [cdL]
      by_cases hi : i = -1
      · rw [if_pos hi]
        exact An8U_r (by unfold f_X8_written; rw [has_7 r3.2.2.1 htl hj, if_pos hlt, Option.bind_some, if_neg (by decide), wordAt_7 r3.2.2.1 htl hg, Option.bind_some, if_pos hi, lengthOf_pk hl.cd, Option.bind_some, e1]) ⟨r1, r2, r3, r4⟩
      · rw [if_neg hi]
        rcases has_L hl i with ⟨c1, c2⟩ | ⟨c1, c2, c3⟩
        · rw [if_pos c1]
          exact An8U_l (k := 2) (by unfold f_X8_written; rw [has_7 r3.2.2.1 htl hj, if_pos hlt, Option.bind_some, if_neg (by decide), wordAt_7 r3.2.2.1 htl hg, Option.bind_some, if_neg hi, c2, Option.bind_some, if_pos rfl]) rfl ⟨r1, r2, r3, r4⟩
        · rw [if_neg c1]
          exact An8U_r (by unfold f_X8_written; rw [has_7 r3.2.2.1 htl hj, if_pos hlt, Option.bind_some, if_neg (by decide), wordAt_7 r3.2.2.1 htl hg, Option.bind_some, if_neg hi, c2, Option.bind_some, if_neg (by decide), c3, Option.bind_some]) ⟨r1, r2, r3, r4⟩
end OPS
