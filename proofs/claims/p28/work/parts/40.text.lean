/-! ===== the written text ===== -/
def okTx (tx : List (List Nat)) : Prop := tx.length ≤ 30 ∧ ∀ l ∈ tx, okL l ∧ 0 < l.length
def R7 (tx : List (List Nat)) (w : T7) : Prop := w.2 = nI tx.length ∧ ∀ k l, tx[k]? = some l → w.1 k = pk (cdL l)
theorem has_7 {tx : List (List Nat)} {w : T7} (hR : R7 tx w) (hl : tx.length ≤ 30) {k : Nat} (hk : k < 2 ^ 31) : f_X7_has w (nI k) = some (if k < tx.length then 1 else 0) := by
  unfold f_X7_has
  rw [if_neg (nI_pos hk), hR.1]
  by_cases h1 : k < tx.length
  · rw [if_neg (nI_ge h1 (by omega)), if_neg (show ¬ (30 : Int32) ≤ nI k from nI_ge (a := k) (b := 30) (by omega) (by omega)), if_pos h1]
  · rw [if_pos (nI_le (by omega) hk), if_neg h1]
theorem has_7n {w : T7} {a : Int32} (ha : a < 0) : f_X7_has w a = some 0 := by
  unfold f_X7_has
  rw [if_pos ha]
theorem wordAt_7 {tx : List (List Nat)} {w : T7} (hR : R7 tx w) (hl : tx.length ≤ 30) {k : Nat} {l : List Nat} (hk : tx[k]? = some l) : f_X7_wordAt w (nI k) = some (pk (cdL l)) := by
  have := lt_of_get hk
  unfold f_X7_wordAt
  rw [has_7 hR hl (by omega), if_pos this, Option.bind_some, if_neg (by decide), rd_nI (by omega) (by omega), Option.bind_some, hR.2 k l hk]
theorem copy_7 {tx : List (List Nat)} {w0 w1 : T7} (hR : R7 tx w1) (hl : tx.length ≤ 30) : ∃ w, f_X7_copyFrom w0 w1 = some w ∧ R7 tx w := by
  unfold f_X7_copyFrom
  obtain ⟨r1, h1, e1⟩ := cpy_all (f := w1.1) (g := w0.1) (n := 30) (by omega)
  have h1 : cpy w1.1 w0.1 30 30 0 0 30 = some r1 := h1
  rw [h1, Option.bind_some]
  exact ⟨_, rfl, hR.1, fun k l hk => by
    have := lt_of_get hk
    show r1 k = _
    rw [e1 k (by omega), hR.2 k l hk]⟩
theorem add_7 {tx : List (List Nat)} {w : T7} (hR : R7 tx w) (hl : tx.length < 30) (l : List Nat) : ∃ w', f_X7_addWord w (pk (cdL l)) = some w' ∧ R7 (tx ++ [l]) w' := by
  unfold f_X7_addWord
  rw [hR.1, if_neg (show ¬ (30 : Int32) ≤ nI tx.length from nI_ge (a := tx.length) (b := 30) hl (by omega)), wrL_nI hl (by omega), Option.bind_some, nI_1]
  refine ⟨_, rfl, by simp, fun k l' hk => ?_⟩
  show vp_updL _ _ _ k = _
  unfold vp_updL
  by_cases e : k = tx.length
  · subst e
    simp at hk
    subst hk
    rw [if_pos rfl]
  · have hkl := lt_of_get hk
    simp at hkl
    rw [List.getElem?_append_left (by omega)] at hk
    rw [if_neg e, hR.2 k l' hk]
theorem replace_7 {tx : List (List Nat)} {w : T7} (hR : R7 tx w) (hl : tx.length ≤ 30) {k : Nat} (hk : k < tx.length) (l : List Nat) : ∃ w', f_X7_replace w (nI k) (pk (cdL l)) = some w' ∧ R7 (tx.set k l) w' := by
  unfold f_X7_replace
  rw [has_7 hR hl (by omega), if_pos hk, Option.bind_some, if_neg (by decide), wrL_nI (by omega) (by omega), Option.bind_some]
  refine ⟨_, rfl, by simpa using hR.1, fun i l' hi => ?_⟩
  show vp_updL _ _ _ i = _
  unfold vp_updL
  rw [List.getElem?_set] at hi
  by_cases e : k = i
  · subst e
    rw [if_pos rfl, if_pos hk] at hi
    cases hi
    rw [if_pos rfl]
  · rw [if_neg e] at hi
    rw [if_neg (fun z => e z.symm), hR.2 i l' hi]
theorem remove_7 {tx : List (List Nat)} {w : T7} (hR : R7 tx w) (hl : tx.length ≤ 30) {k : Nat} (hk : k < tx.length) : ∃ w', f_X7_remove w (nI k) = some w' ∧ R7 (tx.eraseIdx k) w' := by
  unfold f_X7_remove
  rw [has_7 hR hl (by omega), if_pos hk, Option.bind_some, if_neg (by decide)]
  rw [lp_go (fun j => (nI (k + 1 + j), ((shf w.1 k j, w.2) : T7))) (tx.length - (k + 1)) ((shf w.1 k (tx.length - (k + 1)), w.2) : T7) (by simp only [shf_0, nI_1, Nat.add_zero]) (fun j hj => ?_) ?_ (by omega), Option.bind_some]
  · refine ⟨_, rfl, ?_, fun i l hi => ?_⟩
    · show w.2 - 1 = _
      have e : nI tx.length - 1 = nI (tx.length - 1) := nI_sub tx.length 1 (by omega)
      rw [hR.1, e, List.length_eraseIdx, if_pos hk]
    · have hil := lt_of_get hi
      rw [List.length_eraseIdx, if_pos hk] at hil
      rw [List.getElem?_eraseIdx] at hi
      show shf _ _ _ i = _
      unfold shf
      by_cases e : i < k
      · rw [if_pos e] at hi
        rw [if_neg (by omega)]
        exact hR.2 i l hi
      · rw [if_neg e] at hi
        rw [if_pos (by omega)]
        exact hR.2 (i + 1) l hi
  · dsimp only
    rw [hR.1, if_pos (nI_le (by omega) (by omega))]
  · dsimp only
    have h1 : k + 1 + j < 30 := by omega
    have e1 : nI (k + 1 + j) - 1 = nI (k + j) := by
      have : nI (k + 1 + j) - 1 = nI (k + 1 + j - 1) := nI_sub _ 1 (by omega)
      rw [this]; congr 1; omega
    rw [hR.1, if_neg (nI_ge (by omega) (by omega)), e1, rd_nI h1 (by omega), Option.bind_some, wrL_nI (show k + j < 30 by omega) (by omega), Option.bind_some, shf_at, shf_upL, nI_1]
    rfl
theorem okTx.erase {tx : List (List Nat)} (h : okTx tx) (k : Nat) : okTx (tx.eraseIdx k) := ⟨Nat.le_trans (List.length_eraseIdx_le tx k) h.1, fun q hq => h.2 q (List.mem_of_mem_eraseIdx hq)⟩
theorem okTx.add {tx : List (List Nat)} (h : okTx tx) {l : List Nat} (hl : okL l ∧ 0 < l.length) (hn : tx.length < 30) : okTx (tx ++ [l]) := ⟨by simp; omega, fun q hq => by
  rcases List.mem_append.mp hq with z | z
  · exact h.2 q z
  · rw [List.mem_singleton.mp z]; exact hl⟩
theorem okTx.put {tx : List (List Nat)} (h : okTx tx) {l : List Nat} (hl : okL l ∧ 0 < l.length) (k : Nat) : okTx (tx.set k l) := ⟨by simpa using h.1, fun q hq => by
  rcases List.mem_or_eq_of_mem_set hq with z | z
  · exact h.2 q z
  · rw [z]; exact hl⟩
/-! ===== the state ===== -/
/-- words, text, clock, ageing, completing, tapping, pending, places, chosen, opened -/
abbrev St := List Wd × List (List Nat) × Int32 × Nat × Bool × Bool × Int32 × List Nat × Nat × Option Nat
def sWs (s : St) : List Wd := s.1
def sTx (s : St) : List (List Nat) := s.2.1
def sClk (s : St) : Int32 := s.2.2.1
def sAge (s : St) : Nat := s.2.2.2.1
def sCmp (s : St) : Bool := s.2.2.2.2.1
def sTap (s : St) : Bool := s.2.2.2.2.2.1
def sPen (s : St) : Int32 := s.2.2.2.2.2.2.1
def sPl (s : St) : List Nat := s.2.2.2.2.2.2.2.1
def sCho (s : St) : Nat := s.2.2.2.2.2.2.2.2.1
def sOpn (s : St) : Option Nat := s.2.2.2.2.2.2.2.2.2
/-- the number of candidates -/
def sN (s : St) : Nat := if sPl s = [] then 0 else candN (sWs s) (sCmp s) (sPl s)
def okPen (s : St) : Prop := sPen s ≠ -1 → sTap s = true ∧ sPl s ≠ [] ∧ (sPl s).getD ((sPl s).length - 1) 0 ≤ 26
def okSt (s : St) : Prop := okWs (sWs s) ∧ okTx (sTx s) ∧ (1 ≤ sAge s ∧ sAge s ≤ 50) ∧ okP (sPl s) ∧ okPen s ∧ (sCho s = 0 ∨ sCho s < sN s) ∧ (∀ k, sOpn s = some k → k < (sTx s).length)
def R5 (s : St) (w : T5) : Prop := R6 (sWs s) w.1 ∧ okB w.1 ∧ R7 (sTx s) w.2.1 ∧ w.2.2 = (sClk s, nI (sAge s), b01 (sCmp s), b01 (sTap s), sPen s, pk (sPl s), nI (sCho s), idxI (sOpn s))
theorem sN_le (s : St) : sN s ≤ (sWs s).length := by
  unfold sN
  split
  · exact Nat.zero_le _
  · exact cnt_le _ _
theorem bz_01 (b : Bool) : bz (b01 b) = some () := bz_b (by cases b <;> simp [b01])
theorem copy_5 {s : St} {w0 w1 : T5} (hR : R5 s w1) (ho : okSt s) : ∃ x, f_X5_copyFrom w0 w1 = some x ∧ R5 s (x.2.1, x.2.2, x.1) := by
  obtain ⟨h1, h2, h3, h4⟩ := hR
  obtain ⟨a, a1, a2, a3⟩ := copy_6 (w0 := w0.1) h1 ho.1.1 h2
  obtain ⟨b, b1, b2⟩ := copy_7 (w0 := w0.2.1) h3 ho.2.1.1
  unfold f_X5_copyFrom
  rw [a1, Option.bind_some, b1, Option.bind_some, h4]
  dsimp only
  rw [bz_01, Option.bind_some, bz_01, Option.bind_some]
  exact ⟨_, rfl, a2, a3, b2, rfl⟩
theorem places_5 {s : St} {w : T5} (hR : R5 s w) (ho : okSt s) : f_X5_places w = some (nI (sPl s).length) := by
  unfold f_X5_places
  rw [hR.2.2.2]
  dsimp only
  rw [lengthOf_pk ho.2.2.2.1.c, Option.bind_some]
theorem places_pk {w : T5} {p : List Nat} (h : w.2.2.2.2.2.2.2.1 = pk p) (hp : okP p) : f_X5_places w = some (nI p.length) := by
  unfold f_X5_places
  rw [h, lengthOf_pk hp.c, Option.bind_some]
/-! ===== the saved states ===== -/
def okPm (p : Nat → Nat) : Prop := (∀ i, i < 4 → p i < 4) ∧ ∀ i j, i < 4 → j < 4 → p i = p j → i = j
def R3 (sv : List St) (w : T3) : Prop := w.2.2 = nI sv.length ∧ okPm w.1 ∧ ∀ k s, sv[k]? = some s → R5 s (w.2.1 (w.1 k))
def okSv (sv : List St) : Prop := sv.length ≤ 4 ∧ ∀ s ∈ sv, okSt s
/-- the states from before, with one more; of five the oldest is dropped -/
def pushN (sv : List St) (s : St) : List St := (if sv.length = 4 then sv.tail else sv) ++ [s]
theorem okSv.push {sv : List St} (h : okSv sv) {s : St} (hs : okSt s) : okSv (pushN sv s) := by
  unfold pushN
  refine ⟨?_, fun q hq => ?_⟩
  · have := h.1
    split <;> simp <;> omega
  · rcases List.mem_append.mp hq with z | z
    · split at z
      · exact h.2 q (List.mem_of_mem_tail z)
      · exact h.2 q z
    · rw [List.mem_singleton.mp z]; exact hs
theorem put_3 {sv : List St} {w : T3} (hR : R3 sv w) (hl : sv.length < 4) {s : St} {v : T5} (hs : okSt s) (hv : R5 s v) : ∃ w', x3put w v = some w' ∧ R3 (sv ++ [s]) w' := by
  obtain ⟨h1, h2, h3⟩ := hR
  obtain ⟨x, k1, k2⟩ := copy_5 (w0 := w.2.1 (w.1 sv.length)) hv hs
  unfold x3put
  rw [h1, if_neg (nI_pos (by omega)), if_neg (show ¬ (4 : Int32) ≤ nI sv.length from nI_ge (a := sv.length) (b := 4) hl (by omega)), nI_clamp (by omega), if_pos (h2.1 _ hl), k1, Option.bind_some, nI_1]
  refine ⟨_, rfl, by simp, h2, fun k q hk => ?_⟩
  show R5 q (x3upd _ _ _ (w.1 k))
  by_cases e : k = sv.length
  · subst e
    simp at hk
    subst hk
    unfold x3upd
    rw [if_pos rfl]
    exact k2
  · have hkl := lt_of_get hk
    simp at hkl
    rw [List.getElem?_append_left (by omega)] at hk
    unfold x3upd
    rw [if_neg (fun z => e (h2.2 _ _ (by omega) hl z))]
    exact h3 k q hk
theorem push_3 {sv : List St} {w : T3} (hR : R3 sv w) (ho : okSv sv) {s : St} {v : T5} (hs : okSt s) (hv : R5 s v) : ∃ w', f_X3_push w v = some w' ∧ R3 (pushN sv s) w' := by
  unfold f_X3_push pushN
  have hl := ho.1
  by_cases e : sv.length = 4
  · obtain ⟨h1, h2, h3⟩ := hR
    rw [h1, if_pos (show (4 : Int32) ≤ nI sv.length from by rw [e]; decide), if_pos ⟨h2.1 0 (by omega), h2.1 1 (by omega), h2.1 2 (by omega), h2.1 3 (by omega)⟩, if_pos e]
    have e1 : nI sv.length - 1 = nI sv.tail.length := by
      rw [List.length_tail]
      exact nI_sub _ 1 (by omega)
    rw [e1]
    refine put_3 ⟨rfl, ⟨fun i hi => ?_, fun i j hi hj hij => ?_⟩, fun k q hk => ?_⟩ (by rw [List.length_tail]; omega) hs hv
    · show x3rot w.1 i < 4
      unfold x3rot
      split
      · exact h2.1 _ (by omega)
      · split
        · exact h2.1 _ (by omega)
        · exact h2.1 _ hi
    · have hij : x3rot w.1 i = x3rot w.1 j := hij
      unfold x3rot at hij
      by_cases a : i < 3 <;> by_cases b : j < 3
      · rw [if_pos a, if_pos b] at hij
        have := h2.2 _ _ (by omega) (by omega) hij
        omega
      · rw [if_pos a, if_neg b, if_pos (by omega)] at hij
        have := h2.2 _ _ (by omega) (by omega) hij
        omega
      · rw [if_neg a, if_pos (by omega), if_pos b] at hij
        have := h2.2 _ _ (by omega) (by omega) hij
        omega
      · omega
    · have hkl := lt_of_get hk
      rw [List.length_tail] at hkl
      rw [List.getElem?_tail] at hk
      show R5 q (w.2.1 (x3rot w.1 k))
      unfold x3rot
      rw [if_pos (by omega)]
      exact h3 (k + 1) q hk
  · rw [hR.1, if_neg (show ¬ (4 : Int32) ≤ nI sv.length from nI_ge (a := sv.length) (b := 4) (by omega) (by omega)), if_neg e]
    exact put_3 hR (by omega) hs hv
theorem pop_3 {sv : List St} {w : T3} (hR : R3 sv w) (ho : okSv sv) {s : St} (hs : sv.getLast? = some s) (v : T5) : ∃ x, f_X3_popInto w v = some x ∧ R3 sv.dropLast x.1 ∧ R5 s (x.2.2.1, x.2.2.2, x.2.1) := by
  obtain ⟨h1, h2, h3⟩ := hR
  have hl := ho.1
  have hne : sv ≠ [] := fun e => by rw [e] at hs; simp at hs
  have hp : 0 < sv.length := List.length_pos_iff.mpr hne
  rw [List.getLast?_eq_getElem?] at hs
  have hr := h3 _ s hs
  obtain ⟨x, k1, k2⟩ := copy_5 (w0 := v) hr (ho.2 s (List.mem_of_getElem? hs))
  have e1 : nI sv.length - 1 = nI (sv.length - 1) := nI_sub _ 1 (by omega)
  unfold f_X3_popInto
  rw [h1, e1, if_neg (nI_pos (by omega)), if_neg (show ¬ (4 : Int32) ≤ nI (sv.length - 1) from nI_ge (a := sv.length - 1) (b := 4) (by omega) (by omega)), nI_clamp (by omega), if_pos (h2.1 _ (by omega)), k1, Option.bind_some]
  refine ⟨_, rfl, ⟨by simp, h2, fun k q hk => ?_⟩, k2⟩
  have hkl := lt_of_get hk
  rw [List.length_dropLast] at hkl
  rw [List.getElem?_dropLast, if_pos hkl] at hk
  exact h3 k q hk
