/-! ===== the class's calls, as what they make of state, saved states and list text ===== -/
abbrev Sg := St × List St × List Nat
def R2 (tb : List Nat) (w : T2) : Prop := w.2.1 = nI tb.length ∧ ∀ k b, tb[k]? = some b → w.1 k = nI b
def okSg (g : Sg) : Prop := okSt g.1 ∧ okSv g.2.1 ∧ g.2.2.length ≤ 150 ∧ ∀ b ∈ g.2.2, b ≤ 127
def R8 (g : Sg) (x : T8) : Prop := R2 g.2.2 x.1 ∧ okB x.2.1 ∧ R5 g.1 x.2.2.1 ∧ R3 g.2.1 x.2.2.2.1
/-- a call's answer: which exception (0: none), the value, what there is then -/
abbrev An := Int32 × Int32 × Sg
def An8 (r : Option (Int32 × T8 × (Nat → Int64))) (a : An) : Prop := ∃ x' ou', r = some (a.1, x', ou') ∧ R8 a.2.2 x' ∧ (a.1 = 0 → ou' 0 = a.2.1.toInt64)
theorem An8_r {α : Type} {ks : List Nat} {mk : α → T8} {ou : Nat → Int64} {f : Option ((Nat × α) ⊕ (Int32 × α))} {v : Int32} {r : α} {g : Sg} (h : f = some (.inr (v, r))) (hR : R8 g (mk r)) : An8 (wrp ks mk ou f) (0, v, g) := by
  rw [h]
  exact ⟨_, _, rfl, hR, fun _ => by simp [vp_updL]⟩
theorem An8_l {α : Type} {ks : List Nat} {mk : α → T8} {ou : Nat → Int64} {f : Option ((Nat × α) ⊕ (Int32 × α))} {k : Nat} {r : α} {g : Sg} (h : f = some (.inl (k, r))) (hk : ks[0]? = some k) (hR : R8 g (mk r)) : An8 (wrp ks mk ou f) (1, 0, g) := by
  rw [h]
  refine ⟨mk r, ou, ?_, hR, fun e => absurd e (show ¬ (1 : Int32) = 0 from by decide)⟩
  simp [wrp, hk]
theorem An8_m {α : Type} {ks : List Nat} {mk : α → T8} {ou : Nat → Int64} {f : Option ((Nat × α) ⊕ (Int32 × α))} {k : Nat} {r : α} {g : Sg} (h : f = some (.inl (k, r))) (h0 : ks[0]? ≠ some k) (hk : ks[1]? = some k) (hR : R8 g (mk r)) : An8 (wrp ks mk ou f) (2, 0, g) := by
  rw [h]
  refine ⟨mk r, ou, ?_, hR, fun e => absurd e (show ¬ (2 : Int32) = 0 from by decide)⟩
  simp [wrp, h0, hk]
theorem An8U_r {ks : List Nat} {x : T8} {ou : Nat → Int64} {f : Option (Nat ⊕ Int32)} {v : Int32} {g : Sg} (h : f = some (.inr v)) (hR : R8 g x) : An8 (wrpU ks x ou f) (0, v, g) := by
  rw [h]
  exact ⟨_, _, rfl, hR, fun _ => by simp [vp_updL]⟩
theorem An8U_l {ks : List Nat} {x : T8} {ou : Nat → Int64} {f : Option (Nat ⊕ Int32)} {k : Nat} {g : Sg} (h : f = some (.inl k)) (hk : ks[0]? = some k) (hR : R8 g x) : An8 (wrpU ks x ou f) (1, 0, g) := by
  rw [h]
  refine ⟨x, ou, ?_, hR, fun e => absurd e (show ¬ (1 : Int32) = 0 from by decide)⟩
  simp [wrpU, hk]
theorem An8U_m {ks : List Nat} {x : T8} {ou : Nat → Int64} {f : Option (Nat ⊕ Int32)} {k : Nat} {g : Sg} (h : f = some (.inl k)) (h0 : ks[0]? ≠ some k) (hk : ks[1]? = some k) (hR : R8 g x) : An8 (wrpU ks x ou f) (2, 0, g) := by
  rw [h]
  refine ⟨x, ou, ?_, hR, fun e => absurd e (show ¬ (2 : Int32) = 0 from by decide)⟩
  simp [wrpU, h0, hk]
section OPS
variable {g : Sg} {x : T8} {ou : Nat → Int64}
def saveG (g : Sg) (s : St) : Sg := (s, pushN g.2.1 g.1, g.2.2)
def anAppend (g : Sg) (a : Int32) : An := if a < 0 ∨ 127 < a then (1, 0, g) else if g.2.2.length < 150 then (0, nI (g.2.2.length + 1), (g.1, g.2.1, g.2.2 ++ [a.toNatClampNeg])) else (2, 0, g)
theorem append_8 (hR : R8 g x) (ho : okSg g) (a : Int32) : An8 (f_L_append x a ou) (anAppend g a) := by
  obtain ⟨r1, r2, r3, r4⟩ := hR
  have hl := ho.2.2.1
  have hfull : f_X2_isFull x.1 = some (if g.2.2.length < 150 then 0 else 1) := by
    unfold f_X2_isFull
    rw [r1.1]
    by_cases e : g.2.2.length < 150
    · rw [if_pos (show nI g.2.2.length < (150 : Int32) from nI_lt (b := 150) e (by omega)), if_pos e]
    · rw [if_neg (show ¬ nI g.2.2.length < (150 : Int32) from nI_nlt (b := 150) (by omega) (by omega)), if_neg e]
  unfold anAppend f_L_append
  by_cases h0 : a < 0
  · rw [if_pos (Or.inl h0)]
    exact An8_l (k := 0) (r := x.1) (by unfold f_X8_append; rw [if_pos h0]) rfl ⟨r1, r2, r3, r4⟩
  · by_cases h1 : 127 < a
    · rw [if_pos (Or.inr h1)]
      exact An8_l (k := 0) (r := x.1) (by unfold f_X8_append; rw [if_neg h0, if_neg (Int32.not_le.mpr h1)]) rfl ⟨r1, r2, r3, r4⟩
    · rw [if_neg (fun z => z.elim h0 h1)]
      by_cases e : g.2.2.length < 150
      · rw [if_pos e]
        refine An8_r (r := (upd x.1.1 g.2.2.length a, nI (g.2.2.length + 1), x.1.2.2)) ?_ ⟨⟨by simp, fun k b hk => ?_⟩, r2, r3, r4⟩
        · unfold f_X8_append f_X2_addByte
          rw [if_neg h0, if_pos (Int32.not_lt.mp h1), hfull, if_pos e, Option.bind_some, if_pos rfl, Option.bind_some, if_pos rfl, r1.1, wr_nI e (by omega), Option.bind_some, Option.bind_some, nI_1]
        · show upd _ _ _ k = _
          unfold upd
          by_cases e2 : k = g.2.2.length
          · subst e2
            simp at hk
            subst hk
            rw [if_pos rfl]
            obtain ⟨j, hj, rfl⟩ := nI_of h0
            rw [nI_clamp hj]
          · have hkl := lt_of_get hk
            simp at hkl
            rw [List.getElem?_append_left (by omega)] at hk
            rw [if_neg e2]
            exact r1.2 k b hk
      · rw [if_neg e]
        exact An8_m (k := 1) (r := x.1) (by unfold f_X8_append; rw [if_neg h0, if_pos (Int32.not_lt.mp h1), hfull, if_neg e, Option.bind_some, if_neg (by decide)]) (by simp) rfl ⟨r1, r2, r3, r4⟩
def waysS (s : St) (c : Bool) (a : Nat) : St := (sWs s, sTx s, sClk s, a, c, sTap s, sPen s, sPl s, 0, sOpn s)
def anWays (g : Sg) (c : Bool) (a : Int32) : An := if a < 1 ∨ 50 < a then (1, 0, g) else (0, nI (sAge g.1), saveG g (waysS g.1 c a.toNatClampNeg))
theorem ways_8 (hR : R8 g x) (ho : okSg g) (c : Bool) (a : Int32) : An8 (f_L_setWays x (b01 c) a ou) (anWays g c a) := by
  obtain ⟨r1, r2, r3, r4⟩ := hR
  have r34 := r3.2.2.2
  unfold anWays f_L_setWays
  by_cases h0 : a < 1
  · rw [if_pos (Or.inl h0)]
    exact An8_l (k := 0) (r := (x.2.2.1.2.2, x.2.2.2.1)) (by unfold f_X8_setWays; rw [if_pos h0]) rfl ⟨r1, r2, r3, r4⟩
  · by_cases h1 : 50 < a
    · rw [if_pos (Or.inr h1)]
      exact An8_l (k := 0) (r := (x.2.2.1.2.2, x.2.2.2.1)) (by unfold f_X8_setWays; rw [if_neg h0, if_neg (Int32.not_le.mpr h1)]) rfl ⟨r1, r2, r3, r4⟩
    · rw [if_neg (fun z => z.elim h0 h1)]
      obtain ⟨w', k1, k2⟩ := push_3 r4 ho.2.1 ho.1 r3
      refine An8_r (r := ((sClk g.1, a, b01 c, b01 (sTap g.1), sPen g.1, pk (sPl g.1), 0, idxI (sOpn g.1)), w')) ?_ ⟨r1, r2, ⟨r3.1, r3.2.1, r3.2.2.1, ?_⟩, k2⟩
      · unfold f_X8_setWays
        rw [if_neg h0, if_pos (Int32.not_lt.mp h1), k1, Option.bind_some, bz_01, Option.bind_some, r34]
      · have hn : ¬ a < 0 := fun z => h0 (Int32.lt_trans z (by decide))
        obtain ⟨j, hj, rfl⟩ := nI_of hn
        show _ = (sClk g.1, nI ((nI j).toNatClampNeg), b01 c, b01 (sTap g.1), sPen g.1, pk (sPl g.1), nI 0, idxI (sOpn g.1))
        rw [nI_clamp hj, nI_0]
/-- a press -/
def anPress (g : Sg) (a : Int32) : An := if a < 2 ∨ 9 < a then (1, 0, g) else if sPen g.1 = a then (0, nI (sPl g.1).length, saveG g (turnN g.1)) else if (sPl g.1).length < 10 then (0, nI ((sPl g.1).length + 1), saveG g (addN g.1 a.toNatClampNeg)) else (2, 0, g)
theorem press_8 (hR : R8 g x) (ho : okSg g) (a : Int32) : An8 (f_L_press x a ou) (anPress g a) := by
  obtain ⟨r1, r2, r3, r4⟩ := hR
  have r34 := r3.2.2.2
  have hpl := ho.1.2.2.2.1.1
  have hpen : x.2.2.1.2.2.2.2.2.2.1 = sPen g.1 := by rw [r34]
  have hkey : f_X1_isKey a = some (if a < 2 ∨ 9 < a then 0 else 1) := by
    unfold f_X1_isKey
    by_cases h0 : a < 2
    · rw [if_pos h0, if_pos (Or.inl h0)]
    · rw [if_neg h0]
      by_cases h1 : 9 < a
      · rw [if_pos h1, if_pos (Or.inr h1)]
      · rw [if_neg h1, if_neg (fun z => z.elim h0 h1)]
  unfold anPress f_L_press
  by_cases hk : a < 2 ∨ 9 < a
  · rw [if_pos hk]
    exact An8_l (k := 0) (r := (x.2.2.1.2.2, x.2.2.2.1)) (by unfold f_X8_press; rw [hkey, if_pos hk, Option.bind_some, if_pos rfl]) rfl ⟨r1, r2, r3, r4⟩
  · rw [if_neg hk]
    have hn : ¬ a < 0 := fun z => hk (Or.inl (Int32.lt_trans z (by decide)))
    obtain ⟨j, hj, rfl⟩ := nI_of hn
    have hj2 : 2 ≤ j ∧ j ≤ 9 := by
      constructor
      · have : ¬ j < 2 := fun z => hk (Or.inl (show nI j < 2 from nI_lt (b := 2) z (by omega)))
        omega
      · have : ¬ 9 < j := fun z => hk (Or.inr (show 9 < nI j from nI_lt (a := 9) z (by omega)))
        omega
    obtain ⟨w', k1, k2⟩ := push_3 r4 ho.2.1 ho.1 r3
    by_cases hp : sPen g.1 = nI j
    · rw [if_pos hp]
      have hp1 : sPen g.1 ≠ -1 := fun e => by
        rw [e] at hp
        exact nI_pos hj (by rw [← hp]; decide)
      obtain ⟨y, m1, m2, m3⟩ := turn_5 r3 ho.1 hp1
      refine An8_r (r := (y, w')) ?_ ⟨r1, r2, m2, k2⟩
      have hpp := places_5 m2 m3
      have hlen : (sPl (turnN g.1)).length = (sPl g.1).length := by simp [turnN, sPl]
      unfold f_X8_press
      rw [hkey, if_neg hk, Option.bind_some, if_neg (by decide), hpen, if_pos hp, Option.bind_some, if_neg (by decide), k1, Option.bind_some, if_neg (by decide), m1, Option.bind_some, Option.bind_some, hpp, Option.bind_some, hlen]
    · rw [if_neg hp]
      by_cases hl : (sPl g.1).length < 10
      · rw [if_pos hl]
        obtain ⟨y, m1, m2, m3⟩ := add_5 r3 ho.1 hj2 hl
        refine An8_r (r := (y, w')) ?_ ⟨r1, r2, by rw [nI_clamp hj]; exact m2, k2⟩
        have hpp := places_5 m2 m3
        have hlen : (sPl (addN g.1 j)).length = (sPl g.1).length + 1 := by simp [addN, sPl]
        unfold f_X8_press
        rw [hkey, if_neg hk, Option.bind_some, if_neg (by decide), hpen, if_neg hp, Option.bind_some, if_pos rfl, places_5 r3 ho.1, Option.bind_some, if_pos (show nI (sPl g.1).length < (10 : Int32) from nI_lt (b := 10) hl (by omega)), k1, Option.bind_some, if_pos rfl, m1, Option.bind_some, Option.bind_some, hpp, Option.bind_some, hlen]
      · rw [if_neg hl]
        refine An8_m (k := 1) (r := (x.2.2.1.2.2, x.2.2.2.1)) ?_ (by simp) rfl ⟨r1, r2, r3, r4⟩
        unfold f_X8_press
        rw [hkey, if_neg hk, Option.bind_some, if_neg (by decide), hpen, if_neg hp, Option.bind_some, if_pos rfl, places_5 r3 ho.1, Option.bind_some, if_neg (show ¬ nI (sPl g.1).length < (10 : Int32) from nI_nlt (b := 10) (by omega) (by omega))]
end OPS
