/-! ===== the class's calls, on ===== -/
theorem okSg.save {g : Sg} (ho : okSg g) {s : St} (hs : okSt s) : okSg (saveG g s) := ⟨hs, ho.2.1.push ho.1, ho.2.2.1, ho.2.2.2⟩
section OPS
variable {g : Sg} {x : T8} {ou : Nat → Int64}
def choS (s : St) (c : Nat) : St := (sWs s, sTx s, sClk s, sAge s, sCmp s, sTap s, sPen s, sPl s, c, sOpn s)
theorem choS_ok {s : St} (ho : okSt s) {c : Nat} (hc : c = 0 ∨ c < sN s) : okSt (choS s c) := by
  obtain ⟨o1, o2, o3, o4, o5, o6, o7⟩ := ho
  exact ⟨o1, o2, o3, o4, o5, hc, o7⟩
def nextC (s : St) : Nat := if sCho s + 1 < sN s then sCho s + 1 else 0
def anNext (g : Sg) : An := if sN g.1 = 0 then (1, 0, g) else (0, nI (nextC g.1), saveG g (choS g.1 (nextC g.1)))
theorem next_8 (hR : R8 g x) (ho : okSg g) : An8 (f_L_next x ou) (anNext g) := by
  obtain ⟨r1, r2, r3, r4⟩ := hR
  have r34 := r3.2.2.2
  obtain ⟨w', l, k1, k2, k3, k4, k5⟩ := findS r3 ho.1 x.2.2.2.2
  unfold anNext f_L_next
  by_cases e : sN g.1 = 0
  · rw [if_pos e]
    exact An8_l (k := 1) (r := (x.2.2.1.2.2, x.2.2.2.1, w')) (by unfold f_X8_next; rw [k1, Option.bind_some, k2.1, if_pos (by rw [k3, e, nI_0])]) rfl ⟨r1, r2, r3, r4⟩
  · rw [if_neg e]
    obtain ⟨w3, m1, m2⟩ := push_3 r4 ho.2.1 ho.1 r3
    have hcho : sCho g.1 < sN g.1 := by rcases ho.1.2.2.2.2.2.1 with h | h <;> omega
    refine An8_r (r := ((sClk g.1, nI (sAge g.1), b01 (sCmp g.1), b01 (sTap g.1), sPen g.1, pk (sPl g.1), nI (nextC g.1), idxI (sOpn g.1)), w3, w')) ?_ ⟨r1, r2, ⟨r3.1, r3.2.1, r3.2.2.1, rfl⟩, m2⟩
    unfold f_X8_next
    rw [k1, Option.bind_some, k2.1, if_neg (nI_ne0 (by omega) (by omega)), m1, Option.bind_some, r34]
    dsimp only
    unfold nextC
    by_cases e2 : sCho g.1 + 1 < sN g.1
    · rw [nI_1, if_neg (show ¬ nI l.length ≤ nI (sCho g.1 + 1) from nI_ge (by omega) (by omega)), Option.bind_some, if_pos e2]
    · rw [nI_1, if_pos (show nI l.length ≤ nI (sCho g.1 + 1) from nI_le (by omega) (by omega)), Option.bind_some, if_neg e2, nI_0]
theorem next_ok (ho : okSg g) : okSg (anNext g).2.2 := by
  unfold anNext
  split
  · exact ho
  · refine ho.save (choS_ok ho.1 ?_)
    unfold nextC
    split
    · rename_i h; exact Or.inr h
    · exact Or.inl rfl
def anErase (g : Sg) : An := if (sPl g.1).length = 0 then (1, 0, g) else (0, nI ((sPl g.1).length - 1), saveG g (dropS g.1))
theorem erase_8 (hR : R8 g x) (ho : okSg g) : An8 (f_L_erase x ou) (anErase g) ∧ okSg (anErase g).2.2 := by
  obtain ⟨r1, r2, r3, r4⟩ := hR
  have hpl := ho.1.2.2.2.1.1
  unfold anErase f_L_erase
  by_cases e : (sPl g.1).length = 0
  · rw [if_pos e]
    refine ⟨An8_l (k := 1) (r := (x.2.2.1.2.2, x.2.2.1.2.1, x.2.2.2.1)) (by unfold f_X8_erase; rw [places_5 r3 ho.1, Option.bind_some, if_pos (by rw [e, nI_0])]) rfl ⟨r1, r2, r3, r4⟩, ho⟩
  · rw [if_neg e]
    obtain ⟨w3, m1, m2⟩ := push_3 r4 ho.2.1 ho.1 r3
    obtain ⟨y, n1, n2, n3⟩ := drop_5 r3 ho.1 (by omega)
    have hpp := places_5 n2 n3
    have hlen : (sPl (dropS g.1)).length = (sPl g.1).length - 1 := by
      show ((sPl g.1).take ((sPl g.1).length - 1)).length = _
      simp
    refine ⟨An8_r (r := (y.1, y.2, w3)) ?_ ⟨r1, r2, n2, m2⟩, ho.save n3⟩
    unfold f_X8_erase
    rw [places_5 r3 ho.1, Option.bind_some, if_neg (nI_ne0 (by omega) (by omega)), m1, Option.bind_some, n1, Option.bind_some, hpp, Option.bind_some, hlen]
def anAccept (g : Sg) : An := if (sPl g.1).length = 0 ∨ (sOpn g.1 = none ∧ 30 ≤ (sTx g.1).length) then (1, 0, g) else (0, nI (sTx (takeS g.1 (shL g.1))).length, saveG g (takeS g.1 (shL g.1)))
theorem accept_8 (hR : R8 g x) (ho : okSg g) : An8 (f_L_accept x ou) (anAccept g) ∧ okSg (anAccept g).2.2 := by
  obtain ⟨r1, r2, r3, r4⟩ := hR
  have hpl := ho.1.2.2.2.1.1
  have r34 := r3.2.2.2
  have htl := ho.1.2.1.1
  have ho7 := ho.1.2.2.2.2.2.2
  have hopn : x.2.2.1.2.2.2.2.2.2.2.2.2 = idxI (sOpn g.1) := by rw [r34]
  have hsz : x.2.2.1.2.1.2 = nI (sTx g.1).length := r3.2.2.1.1
  have same : R8 g (x.1, x.2.1, (x.2.2.1.1, x.2.2.1.2.1, x.2.2.1.2.2), x.2.2.2.1, x.2.2.2.2) := ⟨r1, r2, r3, r4⟩
  unfold anAccept f_L_accept
  by_cases e : (sPl g.1).length = 0
  · rw [if_pos (Or.inl e)]
    exact ⟨An8_l (k := 1) (r := (x.2.2.1.2.2, x.2.2.1.1, x.2.2.1.2.1, x.2.2.2.1, x.2.2.2.2)) (by unfold f_X8_accept; rw [places_5 r3 ho.1, Option.bind_some, if_pos (by rw [e, nI_0])]) rfl same, ho⟩
  · obtain ⟨w3, m1, m2⟩ := push_3 r4 ho.2.1 ho.1 r3
    obtain ⟨hs1, hs2⟩ := shL_ok ho.1
    obtain ⟨cc, hd⟩ := disp_8 (x := (x.1, x.2.1, x.2.2.1, w3, x.2.2.2.2)) r3 ho.1
    by_cases e1 : sOpn g.1 = none
    · by_cases e2 : 30 ≤ (sTx g.1).length
      · rw [if_pos (Or.inr ⟨e1, e2⟩)]
        exact ⟨An8_l (k := 1) (r := (x.2.2.1.2.2, x.2.2.1.1, x.2.2.1.2.1, x.2.2.2.1, x.2.2.2.2)) (by
          unfold f_X8_accept
          rw [places_5 r3 ho.1, Option.bind_some, if_neg (nI_ne0 (by omega) (by omega)), hopn, e1, if_pos (show idxI none = -1 from rfl), hsz, if_neg (show ¬ nI (sTx g.1).length < (30 : Int32) from nI_nlt (b := 30) e2 (by omega))]) rfl same, ho⟩
      · rw [if_neg (fun z => z.elim e (fun q => e2 q.2))]
        obtain ⟨y, n1, n2, n3⟩ := take_5 r3 ho.1 hs1 (by omega) (fun _ => by omega)
        refine ⟨An8_r (r := (y.1, y.2.1, y.2.2, w3, cc)) ?_ ⟨r1, r2, n2, m2⟩, ho.save n3⟩
        unfold f_X8_accept
        have hy : y.2.2.2 = nI (sTx (takeS g.1 (shL g.1))).length := n2.2.2.1.1
        rw [places_5 r3 ho.1, Option.bind_some, if_neg (nI_ne0 (by omega) (by omega)), hopn, e1, if_pos (show idxI none = -1 from rfl), hsz, if_pos (show nI (sTx g.1).length < (30 : Int32) from nI_lt (b := 30) (by omega) (by omega)), m1, Option.bind_some, hd, Option.bind_some, n1, Option.bind_some, hy]
    · rw [if_neg (fun z => z.elim e (fun q => e1 q.1))]
      obtain ⟨k, hk⟩ : ∃ k, sOpn g.1 = some k := by
        cases h : sOpn g.1 with
        | none => exact absurd h e1
        | some k => exact ⟨k, rfl⟩
      have hkl := ho7 k hk
      obtain ⟨y, n1, n2, n3⟩ := take_5 r3 ho.1 hs1 (by omega) (fun z => absurd z e1)
      refine ⟨An8_r (r := (y.1, y.2.1, y.2.2, w3, cc)) ?_ ⟨r1, r2, n2, m2⟩, ho.save n3⟩
      unfold f_X8_accept
      have hy : y.2.2.2 = nI (sTx (takeS g.1 (shL g.1))).length := n2.2.2.1.1
      rw [places_5 r3 ho.1, Option.bind_some, if_neg (nI_ne0 (by omega) (by omega)), hopn, hk, if_neg (idxI_some (by omega)), m1, Option.bind_some, hd, Option.bind_some, n1, Option.bind_some, hy]
def anOpen (g : Sg) (a : Int32) : An := if a < 0 then (1, 0, g) else match (sTx g.1)[a.toNatClampNeg]? with
  | none => (1, 0, g)
  | some l => if (sPl g.1).length = 0 ∧ sOpn g.1 = none then (0, nI l.length, saveG g (openS g.1 a.toNatClampNeg l)) else (2, 0, g)
theorem open_8 (hR : R8 g x) (ho : okSg g) (a : Int32) : An8 (f_L_open x a ou) (anOpen g a) ∧ okSg (anOpen g a).2.2 := by
  obtain ⟨r1, r2, r3, r4⟩ := hR
  have hpl := ho.1.2.2.2.1.1
  have r34 := r3.2.2.2
  have htl := ho.1.2.1.1
  have ho7 := ho.1.2.2.2.2.2.2
  have hopn : x.2.2.1.2.2.2.2.2.2.2.2.2 = idxI (sOpn g.1) := by rw [r34]
  have same : R8 g (x.1, x.2.1, (x.2.2.1.1, x.2.2.1.2.1, x.2.2.1.2.2), x.2.2.2.1, x.2.2.2.2) := ⟨r1, r2, r3, r4⟩
  unfold anOpen f_L_open
  by_cases h0 : a < 0
  · rw [if_pos h0]
    exact ⟨An8_l (k := 2) (r := (x.2.2.1.2.2, x.2.2.2.1)) (by unfold f_X8_open; rw [has_7n h0, Option.bind_some, if_pos rfl]) rfl same, ho⟩
  · rw [if_neg h0]
    obtain ⟨j, hj, rfl⟩ := nI_of h0
    rw [nI_clamp hj]
    cases hg : (sTx g.1)[j]? with
    | none =>
      dsimp only
      have hge : ¬ j < (sTx g.1).length := fun z => by
        rw [List.getElem?_eq_getElem z] at hg
        cases hg
      exact ⟨An8_l (k := 2) (r := (x.2.2.1.2.2, x.2.2.2.1)) (by unfold f_X8_open; rw [has_7 r3.2.2.1 htl hj, if_neg hge, Option.bind_some, if_pos rfl]) rfl same, ho⟩
    | some l =>
      dsimp only
      have hlt := lt_of_get hg
      by_cases e : (sPl g.1).length = 0 ∧ sOpn g.1 = none
      · rw [if_pos e]
        obtain ⟨w3, m1, m2⟩ := push_3 r4 ho.2.1 ho.1 r3
        obtain ⟨y, n1, n2, n3⟩ := open_5 r3 ho.1 hg (List.eq_nil_of_length_eq_zero e.1)
        have hpp := places_5 n2 n3
        have hlen : (sPl (openS g.1 j l)).length = l.length := by
          show (cdL l).length = _
          simp [cdL]
        refine ⟨An8_r (r := (y, w3)) ?_ ⟨r1, r2, n2, m2⟩, ho.save n3⟩
        unfold f_X8_open
        rw [has_7 r3.2.2.1 htl hj, if_pos hlt, Option.bind_some, if_neg (by decide), places_5 r3 ho.1, Option.bind_some, if_pos (by rw [e.1, nI_0]), hopn, e.2, if_pos (show idxI none = -1 from rfl), m1, Option.bind_some, n1, Option.bind_some, hpp, Option.bind_some, hlen]
      · rw [if_neg e]
        refine ⟨An8_m (k := 1) (r := (x.2.2.1.2.2, x.2.2.2.1)) ?_ (by simp) rfl same, ho⟩
        unfold f_X8_open
        rw [has_7 r3.2.2.1 htl hj, if_pos hlt, Option.bind_some, if_neg (by decide), places_5 r3 ho.1, Option.bind_some]
        by_cases e1 : (sPl g.1).length = 0
        · rw [if_pos (by rw [e1, nI_0]), hopn]
          obtain ⟨k, hk⟩ : ∃ k, sOpn g.1 = some k := by
            cases h : sOpn g.1 with
            | none => exact absurd ⟨e1, h⟩ e
            | some k => exact ⟨k, rfl⟩
          have hkl := ho7 k hk
          rw [hk, if_neg (idxI_some (by omega))]
        · rw [if_neg (nI_ne0 (by omega) (by omega))]
def anUndo (g : Sg) : An := match g.2.1.getLast? with
  | none => (1, 0, g)
  | some s => (0, nI (g.2.1.length - 1), (s, g.2.1.dropLast, g.2.2))
theorem undo_8 (hR : R8 g x) (ho : okSg g) : An8 (f_L_undo x ou) (anUndo g) ∧ okSg (anUndo g).2.2 := by
  obtain ⟨r1, r2, r3, r4⟩ := hR
  have hl := ho.2.1.1
  unfold anUndo f_L_undo
  cases hg : g.2.1.getLast? with
  | none =>
    dsimp only
    have he : g.2.1 = [] := by simpa using hg
    refine ⟨An8_l (k := 1) (r := (x.2.2.1.2.2, x.2.2.1.1, x.2.2.1.2.1, x.2.2.2.1)) ?_ rfl ⟨r1, r2, r3, r4⟩, ho⟩
    unfold f_X8_undo
    rw [r4.1, he, if_pos (by decide)]
  | some s =>
    dsimp only
    have hne : g.2.1 ≠ [] := fun e => by rw [e] at hg; simp at hg
    have hp : 0 < g.2.1.length := List.length_pos_iff.mpr hne
    obtain ⟨y, n1, n2, n3⟩ := pop_3 r4 ho.2.1 hg x.2.2.1
    have hy : y.1.2.2 = nI (g.2.1.length - 1) := by rw [n2.1, List.length_dropLast]
    refine ⟨An8_r (r := (y.2.1, y.2.2.1, y.2.2.2, y.1)) ?_ ⟨r1, r2, n3, n2⟩, ho.2.1.2 s (List.mem_of_getLast? hg), ⟨by simp; omega, fun q hq => ho.2.1.2 q (List.dropLast_subset _ hq)⟩, ho.2.2.1, ho.2.2.2⟩
    unfold f_X8_undo
    rw [r4.1, if_neg (nI_ne0 hp (by omega)), n1, Option.bind_some, hy]
end OPS
