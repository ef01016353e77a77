/-! ===== the law's items, put into the text and loaded ===== -/
/-- an int of the script, or what stands in its stead behind its end -/
def celN (sc : Nat × (Nat → Int32)) (i : Nat) : Int32 := if i < sc.1 then sc.2 i else 773529912 * (nI i + 523)
theorem cell_nI {sc : Nat × (Nat → Int32)} (hL : sc.1 ≤ 260) {i : Nat} (hi : i < 2 ^ 31) : f_L_cell sc (nI i) = some (celN sc i) := by
  unfold f_L_cell celN
  by_cases e : i < sc.1
  · rw [if_neg (nI_ge e (by omega)), rd_nI e (by omega), Option.bind_some, if_pos e]
  · rw [if_pos (nI_le (by omega) hi), if_neg e]
def itL (x : Int32) (l : Nat) : Nat := upN (x >>> ((3 + (4 * nI l)) &&& 31)) 9
/-- the k-th item: its letters and its count -/
def itK (sc : Nat × (Nat → Int32)) (k : Nat) : List Nat × Nat := (k % 5 :: k / 5 :: (List.range (upN (celN sc (1 + k)) 3)).map (itL (celN sc (1 + k))), upN (celN sc (1 + k) >>> ((12 : Int32) &&& 31)) 4)
theorem itK_ok (sc : Nat × (Nat → Int32)) {k : Nat} (hk : k < 20) : okIt (itK sc k) := by
  have h3 := upN_lt (celN sc (1 + k)) (n := 3) (by omega)
  refine ⟨by simp [itK]; omega, by simp [itK], fun a ha => ?_, ?_⟩
  · unfold itK at ha
    dsimp only at ha
    rcases List.mem_cons.mp ha with z | z
    · omega
    · rcases List.mem_cons.mp z with z | z
      · omega
      · obtain ⟨l, -, rfl⟩ := List.mem_map.mp z
        have := upN_lt (celN sc (1 + k) >>> ((3 + (4 * nI l)) &&& 31)) (n := 9) (by omega)
        unfold itL
        omega
  · have := upN_lt (celN sc (1 + k) >>> ((12 : Int32) &&& 31)) (n := 4) (by omega)
    show upN _ 4 < 10
    omega
theorem itK_ne (sc : Nat × (Nat → Int32)) {j k : Nat} (h : j ≠ k) : (itK sc j).1 ≠ (itK sc k).1 := by
  intro e
  unfold itK at e
  dsimp only at e
  injection e with e1 e2
  injection e2 with e3 e4
  omega
theorem itB_len (sc : Nat × (Nat → Int32)) (k : Nat) : (itB (itK sc k)).length ≤ 7 := by
  have h3 := upN_lt (celN sc (1 + k)) (n := 3) (by omega)
  simp [itB, upB, itK]
  omega
theorem k5_20 : ∀ k, k < 20 → (97 : Int32) + (nI k - nI k / 5 * 5) = nI (97 + k % 5) ∧ (97 : Int32) + nI k / 5 = nI (97 + k / 5) := by decide
section LOADS
variable {g h : Sg} {x y : T8} {sc : Nat × (Nat → Int32)}
theorem lawItem_ok (hL : sc.1 ≤ 260) (hA : Al g x) {k : Nat} (hk : k < 20) (hl : g.2.2.length + 7 ≤ 150) : ∃ r, f_L_item x sc (nI k) = some (1, r) ∧ Al (g.1, g.2.1, g.2.2 ++ itB (itK sc k)) (r, x.2.1, x.2.2.1, x.2.2.2.1, x.2.2.2.2) := by
  obtain ⟨k1, k2⟩ := k5_20 k hk
  have hm := upN_lt (celN sc (1 + k)) (n := 3) (by omega)
  have hd := upN_lt (celN sc (1 + k) >>> ((12 : Int32) &&& 31)) (n := 4) (by omega)
  have e1 : (1 : Int32) + nI k = nI (1 + k) := nI_add 1 k
  have u3 : f_L_up (celN sc (1 + k)) 3 = some (nI (upN (celN sc (1 + k)) 3)) := up_nI _ (n := 3) (by omega) (by omega)
  have u4 : f_L_up (celN sc (1 + k) >>> ((12 : Int32) &&& 31)) 4 = some (nI (upN (celN sc (1 + k) >>> ((12 : Int32) &&& 31)) 4)) := up_nI _ (n := 4) (by omega) (by omega)
  obtain ⟨r1, a1, A1⟩ := q_append hA (a := 97 + k % 5) (by omega) (by omega)
  obtain ⟨r2, a2, A2⟩ := q_append A1 (a := 97 + k / 5) (by omega) (by simp; omega)
  have a2 : jr (f_X8_append (r1, x.2.1, x.2.2.1, x.2.2.2.1, x.2.2.2.2) (nI (97 + k / 5))) = some (nI ((g.2.2 ++ [97 + k % 5]).length + 1), r2) := a2
  unfold f_L_item
  rw [e1, cell_nI hL (by omega), Option.bind_some, k1, k2, a1, Option.bind_some]
  dsimp only
  rw [if_neg (nI_nle (by omega) (by omega)), a2, Option.bind_some]
  dsimp only
  rw [if_neg (nI_nle (by omega) (by simp; omega)), Option.bind_some, u3, Option.bind_some]
  dsimp only
  refine lp_use (fun z => ∃ r, z = some ((1 : Int32), r) ∧ Al (g.1, g.2.1, g.2.2 ++ itB (itK sc k)) (r, x.2.1, x.2.2.1, x.2.2.2.1, x.2.2.2.2)) (fun j v => v.1 = 1 ∧ v.2.1 = nI j ∧ Al (g.1, g.2.1, g.2.2 ++ upB (k % 5 :: k / 5 :: (List.range j).map (itL (celN sc (1 + k))))) (v.2.2, x.2.1, x.2.2.1, x.2.2.2.1, x.2.2.2.2)) (fun r => r.1 = 1 ∧ Al (g.1, g.2.1, g.2.2 ++ upB (itK sc k).1) (r.2, x.2.1, x.2.2.1, x.2.2.2.1, x.2.2.2.2)) (upN (celN sc (1 + k)) 3) ⟨rfl, nI_0.symm, ?_⟩ (fun j v hj hv => ?_) (fun v hv => ?_) (by omega) (fun r hr => ?_)
  · have e : g.2.2 ++ upB (k % 5 :: k / 5 :: (List.range 0).map (itL (celN sc (1 + k)))) = g.2.2 ++ [97 + k % 5] ++ [97 + k / 5] := by simp [upB]
    rw [e]
    exact A2
  · obtain ⟨v1, v2, v3⟩ := hv
    have hl9 := upN_lt (celN sc (1 + k) >>> ((3 + (4 * nI j)) &&& 31)) (n := 9) (by omega)
    have u9 : f_L_up (celN sc (1 + k) >>> ((3 + (4 * nI j)) &&& 31)) 9 = some (nI (itL (celN sc (1 + k)) j)) := up_nI _ (n := 9) (by omega) (by omega)
    have e97 : (97 : Int32) + nI (itL (celN sc (1 + k)) j) = nI (97 + itL (celN sc (1 + k)) j) := nI_add 97 _
    have hll : itL (celN sc (1 + k)) j < 9 := hl9
    obtain ⟨r3, a3, A3⟩ := q_append v3 (a := 97 + itL (celN sc (1 + k)) j) (by omega) (by simp [upB]; omega)
    have a3 : jr (f_X8_append (v.2.2, x.2.1, x.2.2.1, x.2.2.2.1, x.2.2.2.2) (nI (97 + itL (celN sc (1 + k)) j))) = some (nI ((g.2.2 ++ upB (k % 5 :: k / 5 :: (List.range j).map (itL (celN sc (1 + k))))).length + 1), r3) := a3
    rw [v2, if_neg (nI_ge hj (by omega)), v1, if_neg (by decide), u9, Option.bind_some, e97, a3, Option.bind_some]
    dsimp only
    rw [if_neg (nI_nle (by omega) (by simp [upB]; omega)), Option.bind_some, nI_1]
    refine ⟨_, rfl, rfl, rfl, ?_⟩
    have e : g.2.2 ++ upB (k % 5 :: k / 5 :: (List.range (j + 1)).map (itL (celN sc (1 + k)))) = g.2.2 ++ upB (k % 5 :: k / 5 :: (List.range j).map (itL (celN sc (1 + k)))) ++ [97 + itL (celN sc (1 + k)) j] := by simp [upB, List.range_succ]
    rw [e]
    exact A3
  · obtain ⟨v1, v2, v3⟩ := hv
    rw [v2, if_pos (nI_le (Nat.le_refl _) (by omega))]
    exact ⟨_, rfl, v1, v3⟩
  · obtain ⟨hr1, hr2⟩ := hr
    have hwl : (upB (itK sc k).1).length ≤ 4 := by
      rw [upB_len]
      simp [itK]
      omega
    obtain ⟨r4, a4, A4⟩ := q_append hr2 (a := 44) (by omega) (by simp; omega)
    have a4 : jr (f_X8_append (r.2, x.2.1, x.2.2.1, x.2.2.2.1, x.2.2.2.2) 44) = some (nI ((g.2.2 ++ upB (itK sc k).1).length + 1), r4) := a4
    obtain ⟨r5, a5, A5⟩ := q_append A4 (a := 48 + (itK sc k).2) (by show 48 + upN _ 4 ≤ 127; omega) (by simp; omega)
    have e48 : (48 : Int32) + nI (upN (celN sc (1 + k) >>> ((12 : Int32) &&& 31)) 4) = nI (48 + (itK sc k).2) := nI_add 48 _
    have a5 : jr (f_X8_append (r4, x.2.1, x.2.2.1, x.2.2.2.1, x.2.2.2.2) (nI (48 + (itK sc k).2))) = some (nI ((g.2.2 ++ upB (itK sc k).1 ++ [44]).length + 1), r5) := a5
    obtain ⟨r6, a6, A6⟩ := q_append A5 (a := 59) (by omega) (by simp; omega)
    have a6 : jr (f_X8_append (r5, x.2.1, x.2.2.1, x.2.2.2.1, x.2.2.2.2) 59) = some (nI ((g.2.2 ++ upB (itK sc k).1 ++ [44] ++ [48 + (itK sc k).2]).length + 1), r6) := a6
    rw [hr1, if_neg (by decide), a4, Option.bind_some]
    dsimp only
    rw [if_neg (nI_nle (by omega) (by simp; omega)), u4, Option.bind_some, e48, a5, Option.bind_some]
    dsimp only
    rw [if_neg (nI_nle (by omega) (by simp; omega)), a6, Option.bind_some]
    dsimp only
    rw [if_neg (nI_nle (by omega) (by simp; omega))]
    refine ⟨_, rfl, ?_⟩
    have e : g.2.2 ++ itB (itK sc k) = g.2.2 ++ upB (itK sc k).1 ++ [44] ++ [48 + (itK sc k).2] ++ [59] := by simp [itB]
    rw [e]
    exact A6
end LOADS
