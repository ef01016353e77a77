/-! ===== letters and keys ===== -/
def keyN (a : Nat) : Nat := [2, 2, 2, 3, 3, 3, 4, 4, 4, 5, 5, 5, 6, 6, 6, 7, 7, 7, 7, 8, 8, 8, 9, 9, 9, 9].getD a 0
def firN (k : Nat) : Nat := [0, 3, 6, 9, 12, 15, 19, 22].getD (k - 2) 0
def nexN (a : Nat) : Nat := if keyN (a + 1) = keyN a then a + 1 else firN (keyN a)
def tapN (a : Nat) : Nat := a - firN (keyN a) + 1
/-- a word: up to ten letters -/
def okL (l : List Nat) : Prop := l.length ≤ 10 ∧ ∀ a ∈ l, a < 26
def cdL (l : List Nat) : List Nat := l.map (fun a => a + 1)
def cdK (l : List Nat) : List Nat := l.map (fun a => 30 + keyN a)
/-- the places of a word being written: letters (1 to 26) and keys (32 to 39) -/
def okP (l : List Nat) : Prop := l.length ≤ 10 ∧ ∀ c ∈ l, (0 < c ∧ c ≤ 26) ∨ (32 ≤ c ∧ c ≤ 39)
def shC (c : Nat) : Nat := if c ≤ 26 then c else firN (c - 30) + 1
theorem keyN_rng : ∀ a, a < 26 → 2 ≤ keyN a ∧ keyN a ≤ 9 := by decide
theorem firN_le : ∀ a, a < 26 → firN (keyN a) ≤ a := by decide
theorem firN_lt : ∀ k, k < 10 → firN k < 26 := by decide
theorem keyN_firN : ∀ k, k < 10 → 2 ≤ k → keyN (firN k) = k := by decide
theorem nexN_lt : ∀ a, a < 26 → nexN a < 26 := by decide
theorem okL.cd {l : List Nat} (h : okL l) : okC (cdL l) := ⟨by simpa [cdL] using h.1, fun c hc => by
  obtain ⟨a, ha, rfl⟩ := List.mem_map.mp hc
  have := h.2 a ha
  omega⟩
theorem okL.ck {l : List Nat} (h : okL l) : okC (cdK l) := ⟨by simpa [cdK] using h.1, fun c hc => by
  obtain ⟨a, ha, rfl⟩ := List.mem_map.mp hc
  have := keyN_rng a (h.2 a ha)
  omega⟩
theorem okP.c {l : List Nat} (h : okP l) : okC l := ⟨h.1, fun c hc => by have := h.2 c hc; omega⟩
theorem okP.tk {l : List Nat} (h : okP l) (n : Nat) : okP (l.take n) := ⟨by have := h.1; simp; omega, fun c hc => h.2 c (List.mem_of_mem_take hc)⟩
theorem okC.tk {l : List Nat} (h : okC l) (n : Nat) : okC (l.take n) := ⟨by have := h.1; simp; omega, fun c hc => h.2 c (List.mem_of_mem_take hc)⟩
theorem okL.P {l : List Nat} (h : okL l) : okP (cdL l) := ⟨h.cd.1, fun c hc => by
  obtain ⟨a, ha, rfl⟩ := List.mem_map.mp hc
  have := h.2 a ha
  omega⟩
theorem shC_rng {c : Nat} (h : (0 < c ∧ c ≤ 26) ∨ (32 ≤ c ∧ c ≤ 39)) : 0 < shC c ∧ shC c ≤ 26 := by
  unfold shC
  split
  · omega
  · have := firN_lt (c - 30) (by omega)
    omega
theorem cdL_inj {l l' : List Nat} : cdL l = cdL l' ↔ l = l' := by
  unfold cdL
  exact ⟨fun h => (List.map_inj_right (fun a b e => by omega)).mp h, fun h => by rw [h]⟩
theorem pkL_inj {l l' : List Nat} (h : okL l) (h' : okL l') : pk (cdL l) = pk (cdL l') ↔ l = l' := (pk_inj h.cd h'.cd).trans cdL_inj
theorem cdL_get {l : List Nat} {i : Nat} (hi : i < l.length) : (cdL l).getD i 0 = l.getD i 0 + 1 := by
  simp [cdL, List.getD_eq_getElem?_getD, List.getElem?_eq_getElem hi]
theorem cdK_get {l : List Nat} {i : Nat} (hi : i < l.length) : (cdK l).getD i 0 = 30 + keyN (l.getD i 0) := by
  simp [cdK, List.getD_eq_getElem?_getD, List.getElem?_eq_getElem hi]
theorem getD_lt26 {l : List Nat} (h : okL l) {i : Nat} (hi : i < l.length) : l.getD i 0 < 26 := by
  rw [List.getD_eq_getElem?_getD, List.getElem?_eq_getElem hi]
  exact h.2 _ (List.getElem_mem hi)
theorem keyWith_nI {a : Nat} (h : a < 26) : f_X1_keyWith (nI a) = some (nI (keyN a)) := by
  unfold f_X1_keyWith
  rw [if_neg (nI_pos (by omega)), if_neg (show ¬ (26 : Int32) ≤ nI a from fun q => by have := (nI_leI (a := 26) (b := a) (by omega) (by omega)).mp q; omega), rd_nI h (by omega)]
  rfl
theorem isKey_nI {k : Nat} (h : k < 2 ^ 31) : f_X1_isKey (nI k) = some (if 2 ≤ k ∧ k ≤ 9 then 1 else 0) := by
  unfold f_X1_isKey
  by_cases h1 : nI k < 2
  · rw [if_pos h1]
    have := (nI_ltI (a := k) (b := 2) h (by omega)).mp h1
    rw [if_neg (by omega)]
  · rw [if_neg h1]
    have h1 : ¬ k < 2 := fun q => h1 ((nI_ltI (a := k) (b := 2) h (by omega)).mpr q)
    by_cases h2 : 9 < nI k
    · rw [if_pos h2]
      have := (nI_ltI (a := 9) (b := k) (by omega) h).mp h2
      rw [if_neg (by omega)]
    · rw [if_neg h2]
      have h2 : ¬ 9 < k := fun q => h2 ((nI_ltI (a := 9) (b := k) (by omega) h).mpr q)
      rw [if_pos (by omega)]
theorem firstLetter_nI {k : Nat} (h : 2 ≤ k ∧ k ≤ 9) : f_X1_firstLetter (nI k) = some (nI (firN k)) := by
  obtain ⟨h1, h2⟩ := h
  rcases (show k = 2 ∨ k = 3 ∨ k = 4 ∨ k = 5 ∨ k = 6 ∨ k = 7 ∨ k = 8 ∨ k = 9 by omega) with rfl | rfl | rfl | rfl | rfl | rfl | rfl | rfl <;> decide
theorem letterBehind_nI : ∀ a, a < 26 → f_X1_letterBehind (nI a) = some (nI (nexN a)) := by decide
theorem tapsOf_nI : ∀ a, a < 26 → f_X1_tapsOf (nI a) = some (nI (tapN a)) := by decide
theorem has_pk {l : List Nat} (h : okC l) (a : Int32) : f_X4_has (pk l) a = some (if cdI l a = 0 then 0 else 1) := by
  unfold f_X4_has
  rw [codeAt_pk h]
  show (if nI (cdI l a) = 0 then _ else _) = _
  have h64 : cdI l a < 64 := by
    unfold cdI
    split
    · omega
    · exact getD_lt64 h _
  by_cases e : cdI l a = 0
  · rw [e, if_pos rfl, if_pos nI_0]
  · rw [if_neg e, if_neg (nI_ne0 (by omega) (by omega))]
theorem has_nI {l : List Nat} (h : okC l) {i : Nat} (hi : i < 2 ^ 31) : f_X4_has (pk l) (nI i) = some (if i < l.length then 1 else 0) := by
  rw [has_pk h, cdI, if_neg (nI_pos hi), nI_clamp hi]
  by_cases e : i < l.length
  · rw [if_pos e, if_neg (Nat.pos_iff_ne_zero.mp (getD_pos h e))]
  · rw [if_neg e, if_pos (by rw [List.getD_eq_getElem?_getD, List.getElem?_eq_none (by omega)]; rfl)]
theorem letterAt_nI {l : List Nat} (h : okL l) {i : Nat} (hi : i < l.length) : f_X4_letterAt (pk (cdL l)) (nI i) = some (nI (l.getD i 0)) := by
  have := h.1
  unfold f_X4_letterAt f_X4_letterOf
  rw [codeAt_nI h.cd (by omega), cdL_get hi]
  show some (nI (l.getD i 0 + 1) - 1) = _
  rw [nI_pred]
theorem take_snoc {l : List Nat} {j : Nat} (hj : j < l.length) : l.take (j + 1) = l.take j ++ [l.getD j 0] := by
  rw [List.take_succ, List.getD_eq_getElem?_getD, List.getElem?_eq_getElem hj]
  rfl
/-- a row put together code by code -/
theorem with_take {l : List Nat} (h : okC l) {j : Nat} (hj : j < l.length) : f_X4_with (pk (l.take j)) (nI j) (nI (l.getD j 0)) = some (pk (l.take (j + 1))) := by
  have hl := h.1
  have e : (l.take j).length = j := by simp; omega
  have := (with_app (h.tk j) (c := l.getD j 0) (by omega) ⟨getD_pos h hj, getD_lt64 h j⟩).1
  rw [e] at this
  rw [this, take_snoc hj]
theorem ko_e3 {l : List Nat} {j : Nat} (hj : j < l.length) : f_X4_codeOfKey (nI (keyN (l.getD j 0))) = some (nI ((cdK l).getD j 0)) := by
  rw [cdK_get hj, ← nI_add]
  rfl
theorem ko_st {l : List Nat} (h : okL l) {j : Nat} (hj : j < l.length) : f_X4_with (pk ((cdK l).take j)) (nI j) (nI ((cdK l).getD j 0)) = some (pk ((cdK l).take (j + 1))) := by
  have e2 : (cdK l).length = l.length := by simp [cdK]
  exact with_take h.ck (by omega)
theorem keysOf_pk {l : List Nat} (h : okL l) : f_X4_keysOf (pk (cdL l)) = some (pk (cdK l)) := by
  have hl := h.1
  have e1 : (cdL l).length = l.length := by simp [cdL]
  have e2 : (cdK l).length = l.length := by simp [cdK]
  unfold f_X4_keysOf
  rw [lengthOf_pk h.cd, e1]
  rw [Option.bind_some]
  refine lp_go (fun j => (pk ((cdK l).take j), nI j)) l.length _ (by rw [List.take_zero, pk_nil, nI_0]) (fun j hj => ?_) ?_ (by omega)
  · dsimp only
    rw [if_neg (nI_ge hj (by omega)), letterAt_nI h hj, Option.bind_some, keyWith_nI (getD_lt26 h hj), Option.bind_some, ko_e3 hj, Option.bind_some, ko_st h hj, Option.bind_some, nI_1]
  · dsimp only
    rw [if_pos (nI_le (Nat.le_refl _) (by omega)), List.take_of_length_le (by omega)]
theorem firstOf_pk {l : List Nat} (h : okC l) {n : Nat} (hn : n ≤ l.length) : f_X4_firstOf (pk l) (nI n) = some (pk (l.take n)) := by
  have hl := h.1
  unfold f_X4_firstOf
  refine lp_go (fun j => (pk (l.take j), nI j)) n _ (by rw [List.take_zero, pk_nil, nI_0]) (fun j hj => ?_) ?_ (by omega)
  · show (if nI n ≤ nI j then _ else _) = _
    rw [if_neg (nI_ge hj (by omega)), if_neg (show ¬ (10 : Int32) ≤ nI j from fun q => by have := (nI_leI (a := 10) (b := j) (by omega) (by omega)).mp q; omega), codeAt_nI h (by omega)]
    simp only [Option.bind_some]
    rw [with_take h (by omega), nI_1]
    rfl
  · show (if nI n ≤ nI n then _ else _) = _
    rw [if_pos (nI_le (Nat.le_refl _) (by omega))]
theorem okP.sh {l : List Nat} (h : okP l) : okC (l.map shC) := ⟨by simpa using h.1, fun c hc => by
  obtain ⟨a, ha, rfl⟩ := List.mem_map.mp hc
  have := shC_rng (h.2 a ha)
  omega⟩
theorem getD_P {l : List Nat} (h : okP l) {i : Nat} (hi : i < l.length) : (0 < l.getD i 0 ∧ l.getD i 0 ≤ 26) ∨ (32 ≤ l.getD i 0 ∧ l.getD i 0 ≤ 39) := by
  rw [List.getD_eq_getElem?_getD, List.getElem?_eq_getElem hi]
  exact h.2 _ (List.getElem_mem hi)
theorem isLetter_nI {c : Nat} (h : (0 < c ∧ c ≤ 26) ∨ (32 ≤ c ∧ c ≤ 39)) : f_X4_isLetter (nI c) = some (if c ≤ 26 then 1 else 0) := by
  unfold f_X4_isLetter
  rw [if_neg (show ¬ nI c < 1 from nI_nlt (a := c) (b := 1) (by omega) (by omega))]
  by_cases e : c ≤ 26
  · rw [if_neg (show ¬ 26 < nI c from nI_nlt (a := 26) (b := c) e (by omega)), if_pos e]
  · rw [if_pos (show 26 < nI c from nI_lt (a := 26) (b := c) (by omega) (by omega)), if_neg e]
theorem nI_sub (a b : Nat) (h : b ≤ a) : nI a - nI b = nI (a - b) := by
  obtain ⟨k, rfl⟩ := Nat.exists_eq_add_of_le h
  rw [← nI_add, Nat.add_sub_cancel_left]
  rw [Int32.add_comm, Int32.add_sub_cancel]
theorem firstLetters_pk {l : List Nat} (h : okP l) : f_X4_firstLetters (pk l) = some (pk (l.map shC)) := by
  have hl := h.1
  have e2 : (l.map shC).length = l.length := by simp
  unfold f_X4_firstLetters
  rw [lengthOf_pk h.c]
  rw [Option.bind_some]
  refine lp_go (fun j => (pk ((l.map shC).take j), nI j)) l.length _ (by rw [List.take_zero, pk_nil, nI_0]) (fun j hj => ?_) ?_ (by omega)
  · show (if nI l.length ≤ nI j then _ else _) = _
    rw [if_neg (nI_ge hj (by omega)), codeAt_nI h.c (by omega)]
    simp only [Option.bind_some]
    have hp := getD_P h hj
    rw [isLetter_nI hp]
    simp only [Option.bind_some]
    have e3 : (l.map shC).getD j 0 = shC (l.getD j 0) := by simp [List.getD_eq_getElem?_getD, List.getElem?_eq_getElem hj]
    have e4 : (if (if l.getD j 0 ≤ 26 then (1 : Int32) else 0) = 0 then Option.bind (f_X4_keyOf (nI (l.getD j 0))) (fun x9 => Option.bind (f_X1_firstLetter x9) (fun x10 => Option.bind (f_X4_codeOfLetter x10) (fun x11 => some x11))) else some (nI (l.getD j 0))) = some (nI ((l.map shC).getD j 0)) := by
      rw [e3]
      unfold shC
      by_cases e : l.getD j 0 ≤ 26
      · rw [if_pos e, if_pos e, if_neg (by decide)]
      · rw [if_neg e, if_neg e, if_pos rfl]
        unfold f_X4_keyOf f_X4_codeOfLetter
        have e5 : nI (l.getD j 0) - 30 = nI (l.getD j 0 - 30) := nI_sub _ 30 (by omega)
        simp only [Option.bind_some]
        rw [e5, firstLetter_nI (by omega)]
        simp only [Option.bind_some]
        rw [nI_1]
    rw [e4]
    simp only [Option.bind_some]
    rw [with_take h.sh (by omega), nI_1]
    rfl
  · show (if nI l.length ≤ nI l.length then _ else _) = _
    rw [if_pos (nI_le (Nat.le_refl _) (by omega)), List.take_of_length_le (by omega)]
