/-! ===== the state's own calls, on ===== -/
def turnN (s : St) : St := (sWs s, sTx s, sClk s, sAge s, sCmp s, sTap s, sPen s, (sPl s).set ((sPl s).length - 1) (nexN ((sPl s).getD ((sPl s).length - 1) 0 - 1) + 1), 0, sOpn s)
theorem turn_5 {s : St} {w : T5} (hR : R5 s w) (ho : okSt s) (hp : sPen s ≠ -1) : ∃ x, f_X5_turnLastPlace w = some x ∧ R5 (turnN s) (w.1, w.2.1, x) ∧ okSt (turnN s) := by
  have hpl := places_5 hR ho
  obtain ⟨r1, r2, r3, r4⟩ := hR
  obtain ⟨o1, o2, o3, o4, o5, o6, o7⟩ := ho
  obtain ⟨p1, p2, p3⟩ := o5 hp
  have hl0 : 0 < (sPl s).length := List.length_pos_iff.mpr p2
  have hl := o4.1
  have hlast := getD_P o4 (i := (sPl s).length - 1) (by omega)
  generalize hc : (sPl s).getD ((sPl s).length - 1) 0 = c at p3 hlast
  have hn := nexN_lt (c - 1) (by omega)
  have e1 : nI (sPl s).length - 1 = nI ((sPl s).length - 1) := nI_sub _ 1 (by omega)
  have e2 : f_X4_letterAt (pk (sPl s)) (nI ((sPl s).length - 1)) = some (nI (c - 1)) := by
    unfold f_X4_letterAt f_X4_letterOf
    rw [codeAt_nI o4.c (by omega), Option.bind_some, Option.bind_some, hc]
    have : nI c - 1 = nI (c - 1) := nI_sub _ 1 (by omega)
    rw [this]
  have e3 : f_X4_codeOfLetter (nI (nexN (c - 1))) = some (nI (nexN (c - 1) + 1)) := by unfold f_X4_codeOfLetter; rw [nI_1]
  obtain ⟨a1, a2⟩ := with_set o4.c (i := (sPl s).length - 1) (c := nexN (c - 1) + 1) (by omega) (by omega)
  unfold f_X5_turnLastPlace
  rw [hpl, Option.bind_some, r4]
  dsimp only
  rw [e1, e2, Option.bind_some, letterBehind_nI _ (by omega), Option.bind_some, e3, Option.bind_some, a1, Option.bind_some]
  have et : turnN s = (sWs s, sTx s, sClk s, sAge s, sCmp s, sTap s, sPen s, (sPl s).set ((sPl s).length - 1) (nexN (c - 1) + 1), 0, sOpn s) := by unfold turnN; rw [hc]
  rw [et]
  refine ⟨_, rfl, ⟨r1, r2, r3, rfl⟩, o1, o2, o3, ⟨a2.1, fun d hd => ?_⟩, fun _ => ⟨p1, ?_, ?_⟩, Or.inl rfl, o7⟩
  · rcases List.mem_or_eq_of_mem_set hd with z | z
    · exact o4.2 d z
    · rw [z]; omega
  · show (sPl s).set ((sPl s).length - 1) (nexN (c - 1) + 1) ≠ []
    intro z
    have := congrArg List.length z
    simp at this
    exact p2 this
  · show ((sPl s).set ((sPl s).length - 1) (nexN (c - 1) + 1)).getD (((sPl s).set ((sPl s).length - 1) (nexN (c - 1) + 1)).length - 1) 0 ≤ 26
    rw [List.length_set, List.getD_eq_getElem?_getD, List.getElem?_set, if_pos rfl, if_pos (by omega)]
    show nexN (c - 1) + 1 ≤ 26
    omega
/-- the last place dropped -/
def dropS (s : St) : St := (sWs s, (match sOpn s with
  | some k => if (sPl s).length ≤ 1 then (sTx s).eraseIdx k else sTx s
  | none => sTx s), sClk s, sAge s, sCmp s, sTap s, -1, (sPl s).take ((sPl s).length - 1), 0, if (sPl s).length ≤ 1 then none else sOpn s)
theorem idxI_none : idxI none = -1 := rfl
theorem drop_5 {s : St} {w : T5} (hR : R5 s w) (ho : okSt s) (hp : 0 < (sPl s).length) : ∃ x, f_X5_dropLastPlace w = some x ∧ R5 (dropS s) (w.1, x.2, x.1) ∧ okSt (dropS s) := by
  have hpl := places_5 hR ho
  obtain ⟨r1, r2, r3, r4⟩ := hR
  obtain ⟨o1, o2, o3, o4, o5, o6, o7⟩ := ho
  have hl := o4.1
  have e1 : nI (sPl s).length - 1 = nI ((sPl s).length - 1) := nI_sub _ 1 (by omega)
  unfold f_X5_dropLastPlace
  rw [hpl, Option.bind_some, r4]
  dsimp only
  rw [e1, firstOf_pk o4.c (by omega), Option.bind_some]
  have hz : pk ((sPl s).take ((sPl s).length - 1)) = 0 ↔ (sPl s).length ≤ 1 := by
    rw [← pk_nil, pk_inj (o4.c.tk _) ⟨by simp, by simp⟩, List.take_eq_nil_iff]
    constructor
    · rintro (h | h)
      · omega
      · rw [h]; simp
    · exact fun h => Or.inl (by omega)
  unfold dropS
  by_cases h1 : (sPl s).length ≤ 1
  · rw [if_pos (hz.mpr h1), if_pos h1]
    cases hop : sOpn s with
    | none =>
      rw [if_pos (show idxI none = -1 from rfl)]
      exact ⟨_, rfl, ⟨r1, r2, r3, rfl⟩, o1, o2, o3, o4.tk _, fun h => absurd rfl h, Or.inl rfl, fun k h => by cases h⟩
    | some k =>
      have hk := o7 k hop
      have htl := o2.1
      obtain ⟨x, k1, k2⟩ := remove_7 r3 o2.1 hk
      have k1 : f_X7_remove w.2.1 (idxI (some k)) = some x := k1
      rw [if_neg (idxI_some (by omega)), k1, Option.bind_some]
      dsimp only
      rw [if_pos h1]
      exact ⟨_, rfl, ⟨r1, r2, k2, rfl⟩, o1, o2.erase k, o3, o4.tk _, fun h => absurd rfl h, Or.inl rfl, fun k h => by cases h⟩
  · rw [if_neg (fun z => h1 (hz.mp z)), if_neg h1]
    refine ⟨_, rfl, ⟨r1, r2, ?_, rfl⟩, o1, ?_, o3, o4.tk _, fun h => absurd rfl h, Or.inl rfl, ?_⟩
    · show R7 (match sOpn s with | some k => if (sPl s).length ≤ 1 then (sTx s).eraseIdx k else sTx s | none => sTx s) w.2.1
      cases sOpn s with
      | none => exact r3
      | some k => dsimp only; rw [if_neg h1]; exact r3
    · show okTx (match sOpn s with | some k => if (sPl s).length ≤ 1 then (sTx s).eraseIdx k else sTx s | none => sTx s)
      cases sOpn s with
      | none => exact o2
      | some k => dsimp only; rw [if_neg h1]; exact o2
    · intro k hk
      show k < (match sOpn s with | some k => if (sPl s).length ≤ 1 then (sTx s).eraseIdx k else sTx s | none => sTx s).length
      have hk : sOpn s = some k := hk
      rw [hk]
      dsimp only
      rw [if_neg h1]
      exact o7 k hk
/-- a written word taken up again -/
def openS (s : St) (k : Nat) (l : List Nat) : St := (sWs s, sTx s, sClk s, sAge s, sCmp s, sTap s, sPen s, cdL l, 0, some k)
theorem open_5 {s : St} {w : T5} (hR : R5 s w) (ho : okSt s) {k : Nat} {l : List Nat} (hk : (sTx s)[k]? = some l) (hp : sPl s = []) : ∃ x, f_X5_openWritten w (nI k) = some x ∧ R5 (openS s k l) (w.1, w.2.1, x) ∧ okSt (openS s k l) := by
  obtain ⟨r1, r2, r3, r4⟩ := hR
  obtain ⟨o1, o2, o3, o4, o5, o6, o7⟩ := ho
  have hl := o2.2 l (List.mem_of_getElem? hk)
  unfold f_X5_openWritten
  rw [wordAt_7 r3 o2.1 hk, Option.bind_some, r4]
  refine ⟨_, rfl, ⟨r1, r2, r3, rfl⟩, o1, o2, o3, hl.1.P, fun h => ?_, Or.inl rfl, fun j h => ?_⟩
  · exact absurd hp (o5 h).2.1
  · have h : some k = some j := h
    cases h
    exact lt_of_get hk
/-- the list after a use at its time -/
def usedN (s : St) (l : List Nat) : List Wd := if (sClk s + 1) - (sClk s + 1) / nI (sAge s) * nI (sAge s) = 0 then ageN (useN (sWs s) l (sClk s + 1)) l else useN (sWs s) l (sClk s + 1)
def takeS (s : St) (l : List Nat) : St := (usedN s l, (match sOpn s with
  | some k => (sTx s).set k l
  | none => sTx s ++ [l]), sClk s + 1, sAge s, sCmp s, sTap s, -1, [], 0, none)
theorem take_5 {s : St} {w : T5} (hR : R5 s w) (ho : okSt s) {l : List Nat} (hl : okL l) (h0 : 0 < l.length) (hr : sOpn s = none → (sTx s).length < 30) : ∃ x, f_X5_takeWord w (pk (cdL l)) = some x ∧ R5 (takeS s l) (x.2.1, x.2.2, x.1) ∧ okSt (takeS s l) := by
  obtain ⟨r1, r2, r3, r4⟩ := hR
  obtain ⟨o1, o2, o3, o4, o5, o6, o7⟩ := ho
  have hw : okWs (usedN s l) := by
    unfold usedN
    split
    · exact (o1.use hl h0 _).age l
    · exact o1.use hl h0 _
  obtain ⟨x1, a1, a2, a3⟩ := use_6 r1 o1 r2 hl (sClk s + 1)
  have hag : ∃ j2, (if nI (sAge s) ≤ 0 then some x1 else Option.bind (α := Unit) (nz (nI (sAge s))) (fun u4 => (if ((sClk s + 1) - (sClk s + 1) / nI (sAge s) * nI (sAge s)) = 0 then Option.bind (α := T6) (f_X6_ageAllBut x1 (pk (cdL l))) (fun x6 => some x6) else some x1))) = some j2 ∧ R6 (usedN s l) j2 ∧ okB j2 := by
    have hnz : nz (nI (sAge s)) = some () := by unfold nz; rw [if_neg (nI_ne0 (by omega) (by omega))]
    rw [if_neg (show ¬ nI (sAge s) ≤ 0 from nI_ge (a := 0) (by omega) (by omega)), hnz, Option.bind_some]
    unfold usedN
    by_cases e : ((sClk s + 1) - (sClk s + 1) / nI (sAge s) * nI (sAge s)) = 0
    · rw [if_pos e, if_pos e]
      obtain ⟨y, b1, b2, b3⟩ := age_6 a2 (o1.use hl h0 _) a3 hl
      rw [b1, Option.bind_some]
      exact ⟨y, rfl, b2, b3⟩
    · rw [if_neg e, if_neg e]
      exact ⟨x1, rfl, a2, a3⟩
  obtain ⟨j2, c1, c2, c3⟩ := hag
  unfold f_X5_takeWord
  rw [r4]
  dsimp only
  rw [a1, Option.bind_some, c1, Option.bind_some]
  unfold takeS
  cases hop : sOpn s with
  | none =>
    obtain ⟨y, d1, d2⟩ := add_7 r3 (hr hop) l
    rw [if_pos (show idxI none = -1 from rfl), d1, Option.bind_some, Option.bind_some]
    exact ⟨_, rfl, ⟨c2, c3, d2, rfl⟩, hw, o2.add ⟨hl, h0⟩ (hr hop), o3, ⟨by simp [sPl], by simp [sPl]⟩, fun h => absurd rfl h, Or.inl rfl, fun k h => by cases h⟩
  | some k =>
    have hk := o7 k hop
    have htl := o2.1
    obtain ⟨y, d1, d2⟩ := replace_7 r3 o2.1 hk l
    have d1 : f_X7_replace w.2.1 (idxI (some k)) (pk (cdL l)) = some y := d1
    rw [if_neg (idxI_some (by omega)), d1, Option.bind_some, Option.bind_some]
    exact ⟨_, rfl, ⟨c2, c3, d2, rfl⟩, hw, o2.put ⟨hl, h0⟩ k, o3, ⟨by simp [sPl], by simp [sPl]⟩, fun h => absurd rfl h, Or.inl rfl, fun k h => by cases h⟩
