/-! ===== the candidates ===== -/
def longC (q : Wd) (n : Nat) : Bool := decide (n < q.1.length)
def fitsC (cmp : Bool) (p : List Nat) (q : Wd) : Bool := (cmp || !longC q p.length) && fitsB q.1 p
def fitsCAt (ws : List Wd) (cmp : Bool) (p : List Nat) (i : Nat) : Bool := match ws[i]? with
  | some q => fitsC cmp p q
  | none => false
/-- a comes before b among the candidates for n places -/
def comes (n : Nat) (a b : Wd) : Bool := if longC a n = longC b n then ahead a b else !longC a n
def comesAt (ws : List Wd) (n i j : Nat) : Bool := match ws[i]?, ws[j]? with
  | some a, some b => comes n a b
  | _, _ => false
theorem comesAt_e {ws : List Wd} {n j k : Nat} {a b : Wd} (hj : ws[j]? = some a) (hk : ws[k]? = some b) : comesAt ws n j k = comes n a b := by
  unfold comesAt
  rw [hj, hk]
theorem comes_irr (n : Nat) (a : Wd) : comes n a a = false := by
  unfold comes
  rw [if_pos rfl, ahead_irr]
theorem comes_tr {n : Nat} {a b c : Wd} (h : comes n a b = true) (h' : comes n b c = true) : comes n a c = true := by
  unfold comes at *
  cases ha : longC a n <;> cases hb : longC b n <;> cases hc : longC c n <;> simp only [ha, hb, hc, if_true, reduceCtorEq, if_false, Bool.not_true, Bool.not_false, Bool.false_eq_true] at h h' ⊢
  · exact ahead_tr h h'
  · exact ahead_tr h h'
theorem comes_tot {n : Nat} {a b : Wd} (h : comes n a b = false) (h' : comes n b a = false) : a.1 = b.1 := by
  unfold comes at *
  cases ha : longC a n <;> cases hb : longC b n <;> simp only [ha, hb, if_true, reduceCtorEq, if_false, Bool.not_true, Bool.not_false, Bool.true_eq_false] at h h'
  · exact ahead_tot h h'
  · exact ahead_tot h h'
theorem comesAt_irr {ws : List Wd} {n i : Nat} : comesAt ws n i i = false := by
  unfold comesAt
  cases ws[i]? with
  | none => rfl
  | some q => exact comes_irr n q
theorem comesAt_tr {ws : List Wd} {n i j k : Nat} (h : comesAt ws n i j = true) (h' : comesAt ws n j k = true) : comesAt ws n i k = true := by
  unfold comesAt at *
  cases hi : ws[i]? with
  | none => simp [hi] at h
  | some a =>
    cases hj : ws[j]? with
    | none => simp [hj] at h'
    | some b =>
      cases hk : ws[k]? with
      | none => simp [hj, hk] at h'
      | some c =>
        simp only [hi, hj, hk] at h h' ⊢
        exact comes_tr h h'
theorem comesAt_tot {ws : List Wd} (ho : okWs ws) {n i j : Nat} (hi : i < ws.length) (hj : j < ws.length) (hne : i ≠ j) (h : comesAt ws n i j = false) : comesAt ws n j i = true := by
  obtain ⟨a, ha⟩ := get_of_lt hi
  obtain ⟨b, hb⟩ := get_of_lt hj
  cases h' : comesAt ws n j i with
  | true => rfl
  | false =>
    rw [comesAt_e ha hb] at h
    rw [comesAt_e hb ha] at h'
    exact absurd (ho.2.2 i j a b ha hb (comes_tot h h')) hne
def R0 (l : List Nat) (w : T0) : Prop := w.2 = nI l.length ∧ ∀ k i, l[k]? = some i → w.1 k = nI i
def srtC (ws : List Wd) (n : Nat) (l : List Nat) : Prop := l.Pairwise (fun i j => comesAt ws n i j = true)
theorem comes_0 {ws : List Wd} {w : T6} (hR : R6 ws w) (ho : okWs ws) {n i j : Nat} (hn : n < 2 ^ 31) (hi : i < ws.length) (hj : j < ws.length) : f_X0_comesBefore w (nI i) (nI j) (nI n) = some (b01 (comesAt ws n i j)) := by
  obtain ⟨a, ha⟩ := get_of_lt hi
  obtain ⟨b, hb⟩ := get_of_lt hj
  have hl := ho.1
  have e1 : (cdL a.1).length = a.1.length := by simp [cdL]
  have e2 : (cdL b.1).length = b.1.length := by simp [cdL]
  unfold f_X0_comesBefore
  rw [wordAt_6 hR hl ha, Option.bind_some, has_nI (ho.wd ha).1.cd hn, Option.bind_some, wordAt_6 hR hl hb, Option.bind_some, has_nI (ho.wd hb).1.cd hn, Option.bind_some, ranks_6 hR ho ha hb, Option.bind_some, e1, e2, comesAt_e ha hb]
  have hbz : bz (b01 (ahead a b)) = some () := bz_b (by cases ahead a b <;> simp [b01])
  rw [hbz, Option.bind_some]
  unfold comes longC
  by_cases h1 : n < a.1.length <;> by_cases h2 : n < b.1.length <;> simp [h1, h2, b01]
theorem cwordAt_0 {l : List Nat} {w : T0} (hR : R0 l w) (hl : l.length ≤ 50) {k i : Nat} (hk : l[k]? = some i) : f_X0_wordAt w (nI k) = some (nI i) := by
  have := lt_of_get hk
  unfold f_X0_wordAt
  rw [hR.1, if_neg (nI_pos (by omega)), if_neg (nI_ge this (by omega)), if_neg (show ¬ (50 : Int32) ≤ nI k from nI_ge (a := k) (b := 50) (by omega) (by omega)), rd_nI (by omega) (by omega), Option.bind_some, hR.2 k i hk]
/-- from number n on, all one up -/
def shu (f : Nat → Int32) (n m : Nat) : Nat → Int32 := fun i => if n < i ∧ i ≤ m then f (i - 1) else f i
theorem shu_up (f : Nat → Int32) {n m : Nat} (h : n + 1 ≤ m) : upd (shu f (n + 1) m) (n + 1) (f n) = shu f n m := by
  funext i
  unfold upd shu
  by_cases e : i = n + 1
  · rw [if_pos e, if_pos (by omega), e]; rfl
  · rw [if_neg e]
    by_cases e2 : n + 1 < i ∧ i ≤ m
    · rw [if_pos e2, if_pos (by omega)]
    · rw [if_neg e2, if_neg (by omega)]
theorem cinsert_0 {ws : List Wd} {w6 : T6} (hR6 : R6 ws w6) (ho : okWs ws) {l : List Nat} {w : T0} (hR : R0 l w) (hl : l.length < 50) {n x : Nat} (hn : n < 2 ^ 31) (hx : x < ws.length) (hm : ∀ i ∈ l, i < ws.length ∧ i ≠ x) (hs : srtC ws n l) : ∃ w' A B, l = A ++ B ∧ f_X0_insert w w6 (nI x) (nI n) = some w' ∧ R0 (A ++ x :: B) w' ∧ srtC ws n (A ++ x :: B) := by
  have hwl := ho.1
  -- how far it goes
  obtain ⟨N, hN, hall, hstop⟩ : ∃ N, N ≤ l.length ∧ (∀ j, j < N → ∃ i, l[l.length - 1 - j]? = some i ∧ comesAt ws n x i = true) ∧ (N < l.length → ∃ i, l[l.length - 1 - N]? = some i ∧ comesAt ws n x i = false) := by
    cases e : allB (fun j => comesAt ws n x (l.getD (l.length - 1 - j) 0)) l.length with
    | true =>
      refine ⟨l.length, Nat.le_refl _, fun j hj => ?_, fun h => absurd h (Nat.lt_irrefl _)⟩
      have hlt : l.length - 1 - j < l.length := by omega
      refine ⟨_, List.getElem?_eq_getElem hlt, ?_⟩
      have := allB_iff.mp e j hj
      simpa [List.getD_eq_getElem?_getD, List.getElem?_eq_getElem hlt] using this
    | false =>
      obtain ⟨k, h1, h2, h3⟩ := allB_first e
      refine ⟨k, by omega, fun j hj => ?_, fun _ => ?_⟩
      · have hlt : l.length - 1 - j < l.length := by omega
        refine ⟨_, List.getElem?_eq_getElem hlt, ?_⟩
        have := h3 j hj
        simpa [List.getD_eq_getElem?_getD, List.getElem?_eq_getElem hlt] using this
      · have hlt : l.length - 1 - k < l.length := by omega
        refine ⟨_, List.getElem?_eq_getElem hlt, ?_⟩
        simpa [List.getD_eq_getElem?_getD, List.getElem?_eq_getElem hlt] using h2
  have hrun : f_X0_insert w w6 (nI x) (nI n) = some (upd (shu w.1 (l.length - N) l.length) (l.length - N) (nI x), nI (l.length + 1)) := by
    unfold f_X0_insert
    rw [hR.1, if_pos (show nI l.length < (50 : Int32) from nI_lt (b := 50) hl (by omega))]
    rw [lp_go (fun j => (nI (l.length - j), ((shu w.1 (l.length - j) l.length, w.2) : T0))) N ((nI (l.length - N), ((shu w.1 (l.length - N) l.length, w.2) : T0)) : Int32 × T0) ?_ (fun j hj => ?_) ?_ (by omega), Option.bind_some]
    · dsimp only
      rw [wr_nI (by omega) (by omega), Option.bind_some, hR.1, nI_1]
    · have e0 : shu w.1 (l.length - 0) l.length = w.1 := by
        funext i
        unfold shu
        rw [if_neg (by omega)]
      rw [e0]; rfl
    · dsimp only
      by_cases hlt : N < l.length
      · obtain ⟨i, hi, hc⟩ := hstop hlt
        have ei : nI (l.length - N) - 1 = nI (l.length - 1 - N) := by
          have : nI (l.length - N) - 1 = nI (l.length - N - 1) := nI_sub _ 1 (by omega)
          rw [this]; congr 1; omega
        have es : shu w.1 (l.length - N) l.length (l.length - 1 - N) = nI i := by
          unfold shu
          rw [if_neg (by omega), hR.2 _ _ hi]
        have him := hm i (List.mem_of_getElem? hi)
        rw [if_neg (show ¬ nI (l.length - N) ≤ 0 from nI_ge (a := 0) (by omega) (by omega)), ei, rd_nI (by omega) (by omega), Option.bind_some, es, comes_0 hR6 ho hn hx him.1, Option.bind_some, hc, if_pos (show b01 false = 0 from rfl)]
      · have e0 : l.length - N = 0 := by omega
        rw [e0, if_pos (show nI 0 ≤ 0 from by decide)]
    · dsimp only
      obtain ⟨i, hi, hc⟩ := hall j hj
      have ei : nI (l.length - j) - 1 = nI (l.length - 1 - j) := by
        have : nI (l.length - j) - 1 = nI (l.length - j - 1) := nI_sub _ 1 (by omega)
        rw [this]; congr 1; omega
      have es : shu w.1 (l.length - j) l.length (l.length - 1 - j) = nI i := by
        unfold shu
        rw [if_neg (by omega), hR.2 _ _ hi]
      have him := hm i (List.mem_of_getElem? hi)
      rw [if_neg (show ¬ nI (l.length - j) ≤ 0 from nI_ge (a := 0) (by omega) (by omega)), nI_m1, ei, rd_nI (by omega) (by omega), Option.bind_some, es, comes_0 hR6 ho hn hx him.1, Option.bind_some, hc, if_neg (show ¬ b01 true = 0 from by decide), Option.bind_some, wr_nI (by omega) (by omega), Option.bind_some]
      have e1 : l.length - j = (l.length - (j + 1)) + 1 := by omega
      have e2 : l.length - 1 - j = l.length - (j + 1) := by omega
      have := shu_up w.1 (n := l.length - (j + 1)) (m := l.length) (by omega)
      rw [← e1] at this
      rw [← hR.2 _ _ hi, e2, this]
  refine ⟨_, l.take (l.length - N), l.drop (l.length - N), (List.take_append_drop _ _).symm, hrun, ⟨?_, fun k i hk => ?_⟩, ?_⟩
  · have hlen : (l.take (l.length - N) ++ x :: l.drop (l.length - N)).length = l.length + 1 := by simp; omega
    rw [hlen]
  · have et : (l.take (l.length - N)).length = l.length - N := by simp
    have hkl := lt_of_get hk
    have hlen : (l.take (l.length - N) ++ x :: l.drop (l.length - N)).length = l.length + 1 := by simp; omega
    rw [hlen] at hkl
    show upd _ _ _ k = _
    unfold upd
    by_cases e : k = l.length - N
    · rw [if_pos e]
      rw [List.getElem?_append_right (by omega), et, e, Nat.sub_self] at hk
      cases hk
      rfl
    · rw [if_neg e]
      unfold shu
      by_cases e2 : k < l.length - N
      · rw [if_neg (by omega)]
        rw [List.getElem?_append_left (by omega), List.getElem?_take, if_pos e2] at hk
        exact hR.2 k i hk
      · rw [if_pos (by omega)]
        rw [List.getElem?_append_right (by omega), et] at hk
        obtain ⟨d, hd⟩ : ∃ d, k - (l.length - N) = d + 1 := ⟨k - (l.length - N) - 1, by omega⟩
        rw [hd, List.getElem?_cons_succ, List.getElem?_drop] at hk
        have : l.length - N + d = k - 1 := by omega
        rw [this] at hk
        exact hR.2 (k - 1) i hk
  · unfold srtC at hs ⊢
    have hs2 := hs
    rw [← List.take_append_drop (l.length - N) l] at hs
    rw [List.pairwise_append] at hs ⊢
    have hdrop : ∀ i ∈ l.drop (l.length - N), comesAt ws n x i = true := by
      intro i hi
      obtain ⟨d, hd⟩ := List.getElem?_of_mem hi
      have hdl := lt_of_get hd
      simp only [List.length_drop] at hdl
      rw [List.getElem?_drop] at hd
      obtain ⟨i', h1, h2⟩ := hall (l.length - 1 - (l.length - N + d)) (by omega)
      rw [show l.length - 1 - (l.length - 1 - (l.length - N + d)) = l.length - N + d by omega, hd] at h1
      cases h1
      exact h2
    refine ⟨hs.1, List.pairwise_cons.mpr ⟨hdrop, hs.2.1⟩, fun a ha b hb => ?_⟩
    have hax : comesAt ws n a x = true := by
      obtain ⟨k, hk⟩ := List.getElem?_of_mem ha
      have hkl := lt_of_get hk
      simp only [List.length_take] at hkl
      rw [List.getElem?_take, if_pos (by omega)] at hk
      obtain ⟨i, hi, hc⟩ := hstop (by omega)
      have him := hm i (List.mem_of_getElem? hi)
      have hix := comesAt_tot ho hx him.1 him.2.symm hc
      by_cases e : k = l.length - 1 - N
      · rw [e, hi] at hk
        cases hk
        exact hix
      · have hil := lt_of_get hi
        have hkl2 := lt_of_get hk
        have := (List.pairwise_iff_getElem.mp hs2) k (l.length - 1 - N) hkl2 hil (by omega)
        rw [(List.getElem?_eq_some_iff.mp hk).2, (List.getElem?_eq_some_iff.mp hi).2] at this
        exact comesAt_tr this hix
    rcases List.mem_cons.mp hb with z | z
    · rw [z]; exact hax
    · exact hs.2.2 a ha b z
