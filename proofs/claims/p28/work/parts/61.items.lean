/-! ===== a list text put together item by item, and read again ===== -/
theorem getD_mid (A : List Nat) (c : Nat) (R : List Nat) : (A ++ c :: R).getD A.length 0 = c := by
  simp [List.getD_eq_getElem?_getD]
theorem inB_mid {lo hi : Nat} (A : List Nat) (c : Nat) (R : List Nat) : inB (A ++ c :: R) lo hi A.length = (decide (lo ≤ c) && decide (c ≤ hi)) := by
  unfold inB
  rw [getD_mid, decide_eq_true (show A.length < (A ++ c :: R).length by simp), Bool.true_and]
theorem runN_run {lo hi : Nat} : ∀ (U A R : List Nat) (c m : Nat), (∀ b ∈ U, lo ≤ b ∧ b ≤ hi) → ¬ (lo ≤ c ∧ c ≤ hi) → U.length < m → runN (A ++ (U ++ c :: R)) lo hi m A.length = U.length
  | [], A, R, c, m, _, hc, hm => by
    obtain ⟨n, rfl⟩ := Nat.exists_eq_succ_of_ne_zero (show m ≠ 0 by omega)
    have e : inB (A ++ c :: R) lo hi A.length = false := by
      rw [inB_mid]
      cases h : (decide (lo ≤ c) && decide (c ≤ hi)) with
      | false => rfl
      | true =>
        simp only [Bool.and_eq_true, decide_eq_true_eq] at h
        exact absurd h hc
    show (if inB (A ++ c :: R) lo hi A.length then _ else 0) = 0
    rw [e, if_neg (by decide)]
  | b :: U, A, R, c, m, hU, hc, hm => by
    obtain ⟨n, rfl⟩ := Nat.exists_eq_succ_of_ne_zero (show m ≠ 0 by omega)
    have hb := hU b List.mem_cons_self
    have ih := runN_run U (A ++ [b]) R c n (fun z hz => hU z (List.mem_cons_of_mem _ hz)) hc (by simp at hm; omega)
    have e1 : (A ++ [b]) ++ (U ++ c :: R) = A ++ ((b :: U) ++ c :: R) := by simp
    have e2 : (A ++ [b]).length = A.length + 1 := by simp
    rw [e1, e2] at ih
    have e : inB (A ++ ((b :: U) ++ c :: R)) lo hi A.length = true := by
      rw [List.cons_append, inB_mid, decide_eq_true hb.1, decide_eq_true hb.2]
      rfl
    show (if inB (A ++ ((b :: U) ++ c :: R)) lo hi A.length then runN (A ++ ((b :: U) ++ c :: R)) lo hi n (A.length + 1) + 1 else 0) = _
    rw [e, if_pos rfl, ih, List.length_cons]
def upB (W : List Nat) : List Nat := W.map (fun a => 97 + a)
theorem upB_len (W : List Nat) : (upB W).length = W.length := by simp [upB]
theorem letP_run (A W R : List Nat) : letP (A ++ (upB W ++ R)) A.length W.length = W := by
  unfold letP
  apply List.ext_getElem?
  intro i
  rw [List.getElem?_map]
  by_cases hi : i < W.length
  · rw [List.getElem?_range hi, List.getElem?_eq_getElem hi]
    show some _ = _
    congr 1
    dsimp only
    rw [List.getD_eq_getElem?_getD, List.getElem?_append_right (by omega), Nat.add_sub_cancel_left, List.getElem?_append_left (by rw [upB_len]; exact hi)]
    unfold upB
    rw [List.getElem?_map, List.getElem?_eq_getElem hi]
    show 97 + W[i] - 97 = W[i]
    omega
  · rw [List.getElem?_eq_none (by simp; omega), List.getElem?_eq_none (by omega)]
    rfl
theorem byI_mid (A : List Nat) (c : Nat) (R : List Nat) : byI (A ++ c :: R) A.length = nI c := by
  unfold byI
  rw [if_pos (by simp), getD_mid]
theorem findN_no {ws : List Wd} {l : List Nat} (h : ∀ q ∈ ws, q.1 ≠ l) : findN ws l = none := by
  unfold findN
  rw [List.findIdx?_eq_none_iff]
  intro q hq
  simpa using h q hq
/-- the bytes of an item -/
def itB (i : List Nat × Nat) : List Nat := upB i.1 ++ [44, 48 + i.2, 59]
def okIt (i : List Nat × Nat) : Prop := i.1.length < 10 ∧ 0 < i.1.length ∧ (∀ a ∈ i.1, a < 26) ∧ i.2 < 10
def itQ (i : List Nat × Nat) : Wd := (i.1, i.2, 0, false)
theorem item_read {i : List Nat × Nat} (hi : okIt i) (A B : List Nat) {ws : List Wd} (hl : ws.length < 50) (hf : findN ws i.1 = none) : itemN (A ++ (itB i ++ B)) A.length ws = (true, (A ++ itB i).length, ws ++ [itQ i]) := by
  obtain ⟨h1, h2, h3, h4⟩ := hi
  have eB : A ++ (itB i ++ B) = A ++ (upB i.1 ++ 44 :: ((48 + i.2) :: 59 :: B)) := by simp [itB]
  have r1 : runN (A ++ (upB i.1 ++ 44 :: ((48 + i.2) :: 59 :: B))) 97 122 10 A.length = i.1.length := by
    rw [runN_run (upB i.1) A ((48 + i.2) :: 59 :: B) 44 10 (fun b hb => by
      obtain ⟨a, ha, rfl⟩ := List.mem_map.mp hb
      have := h3 a ha
      omega) (by omega) (by rw [upB_len]; exact h1), upB_len]
  have b1 : byI (A ++ (upB i.1 ++ 44 :: ((48 + i.2) :: 59 :: B))) (A.length + i.1.length) = 44 := by
    have := byI_mid (A ++ upB i.1) 44 ((48 + i.2) :: 59 :: B)
    rw [List.length_append, upB_len, List.append_assoc] at this
    exact this
  have lp1 : letP (A ++ (upB i.1 ++ 44 :: ((48 + i.2) :: 59 :: B))) A.length i.1.length = i.1 := letP_run A i.1 _
  have e2 : A ++ (upB i.1 ++ 44 :: ((48 + i.2) :: 59 :: B)) = (A ++ upB i.1 ++ [44]) ++ ([48 + i.2] ++ 59 :: B) := by simp
  have l2 : (A ++ upB i.1 ++ [44]).length = A.length + i.1.length + 1 := by simp [upB_len]; omega
  have r2 : runN (A ++ (upB i.1 ++ 44 :: ((48 + i.2) :: 59 :: B))) 48 57 3 (A.length + i.1.length + 1) = 1 := by
    have := runN_run (lo := 48) (hi := 57) [48 + i.2] (A ++ upB i.1 ++ [44]) B 59 3 (fun b hb => by
      rw [List.mem_singleton.mp hb]
      omega) (by omega) (by simp)
    rw [l2, ← e2] at this
    exact this
  have b2 : byI (A ++ (upB i.1 ++ 44 :: ((48 + i.2) :: 59 :: B))) (A.length + i.1.length + 1 + 1) = 59 := by
    have := byI_mid (A ++ upB i.1 ++ [44] ++ [48 + i.2]) 59 B
    have l3 : (A ++ upB i.1 ++ [44] ++ [48 + i.2]).length = A.length + i.1.length + 1 + 1 := by simp [upB_len]; omega
    have e3 : A ++ upB i.1 ++ [44] ++ [48 + i.2] ++ 59 :: B = A ++ (upB i.1 ++ 44 :: ((48 + i.2) :: 59 :: B)) := by simp
    rw [l3, e3] at this
    exact this
  have n1 : numP (A ++ (upB i.1 ++ 44 :: ((48 + i.2) :: 59 :: B))) (A.length + i.1.length + 1) 1 = i.2 := by
    have := getD_mid (A ++ upB i.1 ++ [44]) (48 + i.2) (59 :: B)
    rw [l2] at this
    have e4 : A ++ upB i.1 ++ [44] ++ (48 + i.2) :: 59 :: B = A ++ (upB i.1 ++ 44 :: ((48 + i.2) :: 59 :: B)) := by simp
    rw [e4] at this
    show 10 * 0 + ((A ++ (upB i.1 ++ 44 :: ((48 + i.2) :: 59 :: B))).getD (A.length + i.1.length + 1 + 0) 0 - 48) = _
    rw [Nat.add_zero, this]
    omega
  rw [eB]
  unfold itemN
  rw [r1, b1, lp1, r2, b2, n1, if_neg (by omega), if_neg (by rintro (z | z); omega; exact z rfl), hf, if_neg (by simp), if_neg (by rintro (z | z); omega; exact z rfl)]
  have l4 : (A ++ itB i).length = A.length + i.1.length + 1 + 1 + 1 := by simp [itB, upB_len]; omega
  rw [l4]
  rfl
def bts (its : List (List Nat × Nat)) : List Nat := its.flatMap itB
theorem items_read : ∀ (its : List (List Nat × Nat)) (A : List Nat) (ws : List Wd) (f : Nat), its.length ≤ f → ws.length + its.length ≤ 50 → (∀ i ∈ its, okIt i) → (∀ i ∈ its, ∀ q ∈ ws, q.1 ≠ i.1) → its.Pairwise (fun a b => a.1 ≠ b.1) → itemsN (A ++ bts its) f A.length ws = (none, ws ++ its.map itQ)
  | [], A, ws, f, _, _, _, _, _ => by
    have e : A ++ bts [] = A := by simp [bts]
    rw [e]
    cases f with
    | zero => simp [itemsN]
    | succ f =>
      unfold itemsN
      rw [if_neg (Nat.lt_irrefl _)]
      simp
  | i :: t, A, ws, f, hf, hl, ho, hd, hp => by
    obtain ⟨n, rfl⟩ := Nat.exists_eq_succ_of_ne_zero (show f ≠ 0 by simp at hf; omega)
    simp only [List.length_cons] at hf hl
    obtain ⟨p1, p2⟩ := List.pairwise_cons.mp hp
    have hi := ho i List.mem_cons_self
    have e : A ++ bts (i :: t) = A ++ (itB i ++ bts t) := by simp [bts]
    have hr := item_read hi A (bts t) (ws := ws) (by omega) (findN_no (fun q hq => hd i List.mem_cons_self q hq))
    have e2 : A ++ (itB i ++ bts t) = (A ++ itB i) ++ bts t := by simp
    have ih := items_read t (A ++ itB i) (ws ++ [itQ i]) n (by omega) (by simp; omega) (fun z hz => ho z (List.mem_cons_of_mem _ hz)) (fun z hz q hq => by
      rcases List.mem_append.mp hq with h | h
      · exact hd z (List.mem_cons_of_mem _ hz) q h
      · rw [List.mem_singleton.mp h]
        exact p1 z hz) p2
    have hlt : A.length < (A ++ (itB i ++ bts t)).length := by simp [itB]; omega
    rw [e]
    unfold itemsN
    rw [if_pos hlt, hr]
    dsimp only
    rw [if_pos rfl, e2, ih]
    simp
