/-! ===== settings, pause, mode, clearText, clashing ===== -/
def setI (s : St) (v : Int32) : Int32 := if v = 0 then nI (sWs s).length else if v = 1 then sClk s else if v = 2 then nI (sAge s) else if v = 3 then b01 (sCmp s) else if v = 4 then b01 (sTap s) else if v = 5 then sPen s else if v = 6 then nI (sPl s).length else if v = 7 then nI (sN s) else if v = 8 then (if 0 < sN s then nI (sCho s) else -1) else if v = 9 then nI (sTx s).length else idxI (sOpn s)
theorem v11 {v : Int32} (h0 : ¬ v < 0) (h1 : v < 11) : v = 0 ∨ v = 1 ∨ v = 2 ∨ v = 3 ∨ v = 4 ∨ v = 5 ∨ v = 6 ∨ v = 7 ∨ v = 8 ∨ v = 9 ∨ v = 10 := by
  obtain ⟨j, hj, rfl⟩ := nI_of h0
  have : j < 11 := (nI_ltI (a := j) (b := 11) hj (by omega)).mp h1
  rcases (show j = 0 ∨ j = 1 ∨ j = 2 ∨ j = 3 ∨ j = 4 ∨ j = 5 ∨ j = 6 ∨ j = 7 ∨ j = 8 ∨ j = 9 ∨ j = 10 by omega) with rfl | rfl | rfl | rfl | rfl | rfl | rfl | rfl | rfl | rfl | rfl <;> decide
theorem settingOf_8 {s : St} {y : T8} (hR : R5 s y.2.2.1) (ho : okSt s) {v : Int32} (h0 : ¬ v < 0) (h1 : v < 11) : ∃ c, f_X8_settingOf y v = some (setI s v, c) := by
  have r4 := hR.2.2.2
  have hw := hR.1.1
  have ht := hR.2.2.1.1
  have a1 : y.2.2.1.2.2.1 = sClk s := by rw [r4]
  have a2 : y.2.2.1.2.2.2.1 = nI (sAge s) := by rw [r4]
  have a3 : y.2.2.1.2.2.2.2.1 = b01 (sCmp s) := by rw [r4]
  have a4 : y.2.2.1.2.2.2.2.2.1 = b01 (sTap s) := by rw [r4]
  have a5 : y.2.2.1.2.2.2.2.2.2.1 = sPen s := by rw [r4]
  have a8 : y.2.2.1.2.2.2.2.2.2.2.2.1 = nI (sCho s) := by rw [r4]
  have a9 : y.2.2.1.2.2.2.2.2.2.2.2.2 = idxI (sOpn s) := by rw [r4]
  obtain ⟨w', l, k1, k2, k3, k4, k5⟩ := findS hR ho y.2.2.2.2
  unfold f_X8_settingOf setI
  rw [a1, a2, a3, a4, a5, a8, a9, hw, ht, k1, places_5 hR ho]
  simp only [Option.bind_some]
  rw [k2.1, k3]
  rcases v11 h0 h1 with rfl | rfl | rfl | rfl | rfl | rfl | rfl | rfl | rfl | rfl | rfl
  · exact ⟨_, rfl⟩
  · exact ⟨_, rfl⟩
  · exact ⟨_, rfl⟩
  · cases sCmp s <;> exact ⟨_, rfl⟩
  · cases sTap s <;> exact ⟨_, rfl⟩
  · exact ⟨_, rfl⟩
  · exact ⟨_, rfl⟩
  · exact ⟨_, rfl⟩
  · have hn := sN_le s
    have hwl := ho.1.1
    by_cases e : 0 < sN s
    · rw [if_pos e, if_neg (show ¬ nI (sN s) ≤ 0 from nI_ge (a := 0) e (by omega))]
      exact ⟨_, rfl⟩
    · rw [if_neg e, if_pos (show nI (sN s) ≤ 0 from nI_le (b := 0) (by omega) (by omega))]
      exact ⟨_, rfl⟩
  · exact ⟨_, rfl⟩
  · exact ⟨_, rfl⟩
section OPS
variable {g : Sg} {x : T8} {ou : Nat → Int64}
def anSet (g : Sg) (v : Int32) : An := if v < 0 ∨ 10 < v then (1, 0, g) else (0, setI g.1 v, g)
theorem setting_8 (hR : R8 g x) (ho : okSg g) (v : Int32) : An8 (f_L_setting x v ou) (anSet g v) := by
  obtain ⟨r1, r2, r3, r4⟩ := hR
  unfold anSet f_L_setting
  by_cases h0 : v < 0
  · rw [if_pos (Or.inl h0)]
    exact An8_l (k := 0) (r := x.2.2.2.2) (by unfold f_X8_setting; rw [if_pos h0]) rfl ⟨r1, r2, r3, r4⟩
  · obtain ⟨j, hj, hv⟩ := nI_of h0
    by_cases h1 : 10 < v
    · rw [if_pos (Or.inr h1)]
      refine An8_l (k := 0) (r := x.2.2.2.2) ?_ rfl ⟨r1, r2, r3, r4⟩
      unfold f_X8_setting
      rw [if_neg h0, if_neg (show ¬ v < 11 from fun z => by
        rw [hv] at z h1
        have := (nI_ltI (a := j) (b := 11) hj (by omega)).mp z
        have := (nI_ltI (a := 10) (b := j) (by omega) hj).mp h1
        omega)]
    · rw [if_neg (fun z => z.elim h0 h1)]
      have h11 : v < 11 := by
        rw [hv] at h1 ⊢
        have : ¬ 10 < j := fun z => h1 (nI_lt (a := 10) z hj)
        exact nI_lt (b := 11) (by omega) (by omega)
      obtain ⟨cc, hc⟩ := settingOf_8 (y := x) r3 ho.1 h0 h11
      exact An8_r (r := cc) (by unfold f_X8_setting; rw [if_neg h0, if_pos h11, hc, Option.bind_some]) ⟨r1, r2, r3, r4⟩
theorem clear_ok (ho : okSg g) : okSg (g.1, g.2.1, []) := ⟨ho.1, ho.2.1, Nat.zero_le _, fun b hb => by simp at hb⟩
def pauS (s : St) : St := (sWs s, sTx s, sClk s, sAge s, sCmp s, sTap s, -1, sPl s, sCho s, sOpn s)
theorem pause_8 (hR : R8 g x) (ho : okSg g) : (∃ r, f_X8_pause x = some r ∧ r.1 = sPen g.1 ∧ R8 (saveG g (pauS g.1)) (x.1, x.2.1, (x.2.2.1.1, x.2.2.1.2.1, r.2.1), r.2.2, x.2.2.2.2)) ∧ okSg (saveG g (pauS g.1)) := by
  obtain ⟨r1, r2, r3, r4⟩ := hR
  obtain ⟨o1, o2, o3, o4, o5, o6, o7⟩ := ho.1
  refine ⟨?_, ho.save ⟨o1, o2, o3, o4, fun h => absurd rfl h, o6, o7⟩⟩
  obtain ⟨w3, m1, m2⟩ := push_3 r4 ho.2.1 ho.1 r3
  unfold f_X8_pause
  rw [m1, Option.bind_some, r3.2.2.2]
  exact ⟨_, rfl, rfl, r1, r2, ⟨r3.1, r3.2.1, r3.2.2.1, rfl⟩, m2⟩
def modeS (s : St) (t : Bool) : St := (sWs s, sTx s, sClk s, sAge s, sCmp s, t, -1, (if t then (cdL (shL s)).take (sPl s).length else sPl s), 0, sOpn s)
theorem mode_8 (hR : R8 g x) (ho : okSg g) (t : Bool) : (∃ r, f_X8_mode x (b01 t) = some r ∧ r.1 = nI (sPl g.1).length ∧ R8 (saveG g (modeS g.1 t)) (x.1, x.2.1, (x.2.2.1.1, x.2.2.1.2.1, r.2.1), r.2.2.1, r.2.2.2)) ∧ okSg (saveG g (modeS g.1 t)) := by
  obtain ⟨r1, r2, r3, r4⟩ := hR
  have ho1 := ho.1
  obtain ⟨o1, o2, o3, o4, o5, o6, o7⟩ := ho.1
  obtain ⟨hs1, hs2⟩ := shL_ok ho1
  have hcl : (cdL (shL g.1)).length = (shL g.1).length := by simp [cdL]
  have hl := o4.1
  refine ⟨?_, ho.save ⟨o1, o2, o3, ?_, fun h => absurd rfl h, Or.inl rfl, o7⟩⟩
  · obtain ⟨w3, m1, m2⟩ := push_3 r4 ho.2.1 ho.1 r3
    obtain ⟨cc, hd⟩ := disp_8 (x := (x.1, x.2.1, x.2.2.1, w3, x.2.2.2.2)) r3 ho1
    unfold f_X8_mode
    rw [m1, Option.bind_some, places_5 r3 ho1, r3.2.2.2]
    dsimp only
    cases t with
    | false =>
      rw [if_pos (show b01 false = 0 from rfl), Option.bind_some, bz_01, Option.bind_some]
      rw [places_pk (p := sPl g.1) rfl o4, Option.bind_some]
      exact ⟨_, rfl, rfl, r1, r2, ⟨r3.1, r3.2.1, r3.2.2.1, rfl⟩, m2⟩
    | true =>
      have hd2 : f_X8_displayed (x.1, x.2.1, x.2.2.1, w3, x.2.2.2.2) = some (pk (cdL (shL g.1)), cc) := hd
      rw [if_neg (show ¬ b01 true = 0 from by decide), hd2, Option.bind_some, Option.bind_some, firstOf_pk hs1.cd (by omega), Option.bind_some, Option.bind_some, bz_01, Option.bind_some]
      rw [places_pk (p := (cdL (shL g.1)).take (sPl g.1).length) rfl (hs1.P.tk _), Option.bind_some]
      refine ⟨_, rfl, ?_, r1, r2, ⟨r3.1, r3.2.1, r3.2.2.1, rfl⟩, m2⟩
      show nI ((cdL (shL g.1)).take (sPl g.1).length).length = _
      rw [List.length_take, hcl, Nat.min_eq_left hs2]
  · show okP (if t then (cdL (shL g.1)).take (sPl g.1).length else sPl g.1)
    cases t with
    | false => exact o4
    | true => exact hs1.P.tk _
theorem clashing_8 (hR : R8 g x) (ho : okSg g) : f_X8_clashing x = some (nI (clashN (sWs g.1))) := by
  unfold f_X8_clashing
  rw [clashes_6 hR.2.2.1.1 ho.1.1, Option.bind_some]
end OPS
