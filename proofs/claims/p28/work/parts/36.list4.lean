/-! ===== the word list: a use, the ageing ===== -/
def addedAt (ws : List Wd) (j : Nat) : Bool := match ws[j]? with
  | some q => q.2.2.2
  | none => false
/-- of the first j words the added one that comes last in the ranking -/
def lastN (ws : List Wd) : Nat → Option Nat
  | 0 => none
  | j + 1 => if addedAt ws j then (match lastN ws j with
    | none => some j
    | some b => if aheadAt ws b j then some j else some b) else lastN ws j
theorem lastN_lt (ws : List Wd) : ∀ {n b : Nat}, lastN ws n = some b → b < n
  | 0, _, h => by cases h
  | n + 1, b, h => by
    unfold lastN at h
    split at h
    · split at h
      · cases h; omega
      · rename_i c hc
        split at h
        · cases h; omega
        · cases h
          have := lastN_lt ws hc
          omega
    · have := lastN_lt ws h
      omega
theorem idxI_some {b : Nat} (h : b < 2 ^ 31) : ¬ idxI (some b) = -1 := fun e => by
  have h1 := nI_pos h
  have e : nI b = -1 := e
  rw [e] at h1
  exact h1 (by decide)
theorem lastAdded_6 {ws : List Wd} {w : T6} (hR : R6 ws w) (ho : okWs ws) : f_X6_lastAdded w = some (idxI (lastN ws ws.length)) := by
  have hl := ho.1
  unfold f_X6_lastAdded
  refine lp_go (fun j => (idxI (lastN ws j), nI j)) ws.length _ (by rw [lastN, nI_0]; rfl) (fun j hj => ?_) ?_ (by omega)
  · obtain ⟨q, hq⟩ := get_of_lt hj
    have ea : addedAt ws j = q.2.2.2 := by unfold addedAt; rw [hq]
    have eL : lastN ws (j + 1) = if addedAt ws j then (match lastN ws j with | none => some j | some b => if aheadAt ws b j then some j else some b) else lastN ws j := rfl
    dsimp only
    rw [hR.1, if_neg (nI_ge hj (by omega)), isAdded_6 hR hl hq, Option.bind_some, nI_1, eL, ea]
    cases hqa : q.2.2.2 with
    | false => rfl
    | true =>
      rw [if_neg (by decide), if_pos rfl]
      cases hb : lastN ws j with
      | none => rfl
      | some b =>
        have hbj := lastN_lt ws hb
        obtain ⟨p, hp⟩ := get_of_lt (show b < ws.length by omega)
        rw [if_neg (idxI_some (by omega))]
        dsimp only
        have er : f_X6_ranksBefore w (idxI (some b)) (nI j) = some (b01 (ahead p q)) := ranks_6 hR ho hp hq
        rw [er, Option.bind_some, aheadAt_e hp hq]
        cases ahead p q <;> rfl
  · dsimp only
    rw [hR.1, if_pos (nI_le (Nat.le_refl _) (by omega))]
/-- the list when a word has been used -/
def roomN (ws : List Wd) : List Wd := if ws.length < 50 then ws else match lastN ws ws.length with
  | some b => ws.eraseIdx b
  | none => ws
def useN (ws : List Wd) (l : List Nat) (t : Int32) : List Wd := match findN ws l with
  | some k => (match ws[k]? with
    | some q => ws.set k (q.1, (if q.2.1 < 999 then q.2.1 + 1 else q.2.1), t, q.2.2.2)
    | none => ws)
  | none => if (roomN ws).length < 50 then roomN ws ++ [(l, 1, t, true)] else roomN ws
theorem findN_some {ws : List Wd} {l : List Nat} {k : Nat} (h : findN ws l = some k) : ∃ q, ws[k]? = some q ∧ q.1 = l := by
  unfold findN at h
  rw [List.findIdx?_eq_some_iff_getElem] at h
  obtain ⟨h1, h2, -⟩ := h
  exact ⟨_, List.getElem?_eq_getElem h1, by simpa using h2⟩
theorem findN_none {ws : List Wd} {l : List Nat} (h : findN ws l = none) : ∀ q ∈ ws, q.1 ≠ l := by
  unfold findN at h
  rw [List.findIdx?_eq_none_iff] at h
  intro q hq
  have := h q hq
  simpa using this
theorem okWs.erase {ws : List Wd} (h : okWs ws) (k : Nat) : okWs (ws.eraseIdx k) := by
  refine ⟨Nat.le_trans (List.length_eraseIdx_le ws k) h.1, fun q hq => h.2.1 q (List.mem_of_mem_eraseIdx hq), fun i j p q hi hj e => ?_⟩
  rw [List.getElem?_eraseIdx] at hi hj
  by_cases h1 : i < k
  · rw [if_pos h1] at hi
    by_cases h2 : j < k
    · rw [if_pos h2] at hj; exact h.2.2 i j p q hi hj e
    · rw [if_neg h2] at hj
      have := h.2.2 i (j + 1) p q hi hj e
      omega
  · rw [if_neg h1] at hi
    by_cases h2 : j < k
    · rw [if_pos h2] at hj
      have := h.2.2 (i + 1) j p q hi hj e
      omega
    · rw [if_neg h2] at hj
      have := h.2.2 (i + 1) (j + 1) p q hi hj e
      omega
theorem okWs.room {ws : List Wd} (h : okWs ws) : okWs (roomN ws) := by
  unfold roomN
  split
  · exact h
  · split
    · exact h.erase _
    · exact h
theorem roomN_mem {ws : List Wd} {q : Wd} (h : q ∈ roomN ws) : q ∈ ws := by
  unfold roomN at h
  split at h
  · exact h
  · split at h
    · exact List.mem_of_mem_eraseIdx h
    · exact h
theorem okWs.app {ws : List Wd} (h : okWs ws) {q : Wd} (hq : okWd q) (hl : ws.length < 50) (hn : ∀ p ∈ ws, p.1 ≠ q.1) : okWs (ws ++ [q]) := by
  refine ⟨by simp; omega, fun p hp => ?_, fun i j a b hi hj e => ?_⟩
  · rcases List.mem_append.mp hp with z | z
    · exact h.2.1 p z
    · rw [List.mem_singleton.mp z]; exact hq
  · have hil := lt_of_get hi
    have hjl := lt_of_get hj
    simp only [List.length_append, List.length_cons, List.length_nil] at hil hjl
    by_cases h1 : i < ws.length
    · rw [List.getElem?_append_left h1] at hi
      by_cases h2 : j < ws.length
      · rw [List.getElem?_append_left h2] at hj
        exact h.2.2 i j a b hi hj e
      · have ej : j = ws.length := by omega
        subst ej
        simp at hj
        subst hj
        exact absurd e (hn a (List.mem_of_getElem? hi))
    · have ei : i = ws.length := by omega
      subst ei
      simp at hi
      subst hi
      by_cases h2 : j < ws.length
      · rw [List.getElem?_append_left h2] at hj
        exact absurd e.symm (hn b (List.mem_of_getElem? hj))
      · omega
theorem okWs.put {ws : List Wd} (h : okWs ws) {k : Nat} {q q' : Wd} (hk : ws[k]? = some q) (hq : okWd q') (he : q'.1 = q.1) : okWs (ws.set k q') := by
  have hkl := lt_of_get hk
  refine ⟨by simpa using h.1, fun p hp => ?_, fun i j a b hi hj e => ?_⟩
  · rcases List.mem_or_eq_of_mem_set hp with z | z
    · exact h.2.1 p z
    · rw [z]; exact hq
  · rw [List.getElem?_set] at hi hj
    by_cases h1 : k = i
    · subst h1
      rw [if_pos rfl, if_pos hkl] at hi
      cases hi
      by_cases h2 : k = j
      · exact h2
      · rw [if_neg h2] at hj
        exact h.2.2 k j q b hk hj (he ▸ e)
    · rw [if_neg h1] at hi
      by_cases h2 : k = j
      · subst h2
        rw [if_pos rfl, if_pos hkl] at hj
        cases hj
        exact h.2.2 i k a q hi hk (he ▸ e)
      · rw [if_neg h2] at hj
        exact h.2.2 i j a b hi hj e
theorem okWs.use {ws : List Wd} (h : okWs ws) {l : List Nat} (hl : okL l) (h0 : 0 < l.length) (t : Int32) : okWs (useN ws l t) := by
  unfold useN
  cases hf : findN ws l with
  | some k =>
    obtain ⟨q, hq, e⟩ := findN_some hf
    dsimp only
    rw [hq]
    dsimp only
    have o := h.wd hq
    refine h.put hq ⟨o.1, o.2.1, ?_, fun z => ?_⟩ rfl
    · have := o.2.2.1
      dsimp only
      split <;> omega
    · have := o.2.2.2 z
      dsimp only
      split <;> omega
  | none =>
    dsimp only
    split
    · rename_i hr
      exact h.room.app ⟨hl, h0, (show 1 ≤ 999 from by decide), fun _ => Nat.le_refl 1⟩ hr (fun p hp => findN_none hf p (roomN_mem hp))
    · exact h.room
theorem use_6 {ws : List Wd} {w : T6} (hR : R6 ws w) (ho : okWs ws) (hB : okB w) {l : List Nat} (h : okL l) (t : Int32) : ∃ w', f_X6_countUse w (pk (cdL l)) t = some w' ∧ R6 (useN ws l t) w' ∧ okB w' := by
  have hl := ho.1
  unfold f_X6_countUse
  rw [find_6 hR ho h, Option.bind_some]
  unfold useN
  cases hf : findN ws l with
  | some k =>
    obtain ⟨q, hq, e⟩ := findN_some hf
    have hk := lt_of_get hq
    have o := (ho.wd hq).2.2.1
    have hh : f_X6_has w (idxI (some k)) = some 1 := has_6i hR hl hq
    obtain ⟨a1, a2, a3, a4, a5⟩ := hR.2 k q hq
    have ei : idxI (some k) = nI k := rfl
    rw [hh, Option.bind_some, if_neg (by decide), ei, rd_nI (by omega) (by omega), Option.bind_some, wr_nI (by omega) (by omega), Option.bind_some, wr_nI (by omega) (by omega), Option.bind_some, a3]
    dsimp only
    rw [hq]
    dsimp only
    refine ⟨_, rfl, ⟨by simpa using hR.1, fun i p hi => ?_⟩, hB⟩
    rw [List.getElem?_set] at hi
    by_cases e1 : k = i
    · subst e1
      rw [if_pos rfl, if_pos hk] at hi
      cases hi
      refine ⟨a1, a2, ?_, ?_, a5⟩
      · show upd _ _ _ _ = _
        unfold upd
        rw [if_pos rfl]
        by_cases e2 : q.2.1 < 999
        · rw [if_neg (show ¬ (999 : Int32) < nI q.2.1 + 1 from by rw [nI_1]; exact nI_nlt (a := 999) (b := q.2.1 + 1) (by omega) (by omega)), if_pos e2, nI_1]
        · have e3 : q.2.1 = 999 := by omega
          rw [e3]
          rfl
      · show upd _ _ _ _ = _
        unfold upd
        rw [if_pos rfl]
    · rw [if_neg e1] at hi
      obtain ⟨b1, b2, b3, b4, b5⟩ := hR.2 i p hi
      refine ⟨b1, b2, ?_, ?_, b5⟩
      · show upd _ _ _ _ = _
        unfold upd
        rw [if_neg (fun z => e1 z.symm)]; exact b3
      · show upd _ _ _ _ = _
        unfold upd
        rw [if_neg (fun z => e1 z.symm)]; exact b4
  | none =>
    have hh : f_X6_has w (idxI none) = some 0 := has_6n (by decide)
    rw [hh, Option.bind_some, if_pos rfl, isFull_6 hR hl, Option.bind_some]
    have hr : ∃ j5, (if (if ws.length < 50 then (0 : Int32) else 1) = 0 then some w else Option.bind (α := Int32) (f_X6_lastAdded w) (fun x7 => Option.bind (α := T6) (f_X6_remove w x7) (fun x8 => some x8))) = some j5 ∧ R6 (roomN ws) j5 ∧ okB j5 := by
      unfold roomN
      by_cases e : ws.length < 50
      · rw [if_pos e, if_pos rfl, if_pos e]
        exact ⟨w, rfl, hR, hB⟩
      · rw [if_neg e, if_neg (by decide), if_neg e, lastAdded_6 hR ho, Option.bind_some]
        cases hb : lastN ws ws.length with
        | none =>
          rw [remove_6n (show idxI none < 0 from by decide), Option.bind_some]
          exact ⟨w, rfl, hR, hB⟩
        | some b =>
          obtain ⟨w2, h1, h2, h3⟩ := remove_6 hR hl hB (lastN_lt ws hb)
          have h1 : f_X6_remove w (idxI (some b)) = some w2 := h1
          rw [h1, Option.bind_some]
          exact ⟨w2, rfl, h2, h3⟩
    obtain ⟨j5, h1, h2, h3⟩ := hr
    rw [h1, Option.bind_some]
    dsimp only
    by_cases e : (roomN ws).length < 50
    · rw [if_pos e]
      obtain ⟨w2, k1, k2, k3⟩ := insert_6 h2 e h3 h 1 t true
      have k1 : f_X6_insert j5 (pk (cdL l)) 1 t 1 = some w2 := k1
      rw [k1, Option.bind_some]
      exact ⟨w2, rfl, k2, k3⟩
    · rw [if_neg e]
      have k1 : f_X6_insert j5 (pk (cdL l)) 1 t 1 = some j5 := by
        unfold f_X6_insert
        rw [isFull_6 h2 ho.room.1, if_neg e, Option.bind_some, if_neg (by decide)]
      rw [k1, Option.bind_some]
      exact ⟨j5, rfl, h2, h3⟩
/-- what the ageing makes of a word; none: it leaves -/
def ageO (l : List Nat) (q : Wd) : Option Wd := if q.2.2.2 && q.1 != l then (if q.2.1 ≤ 1 then none else some (q.1, q.2.1 - 1, q.2.2.1, q.2.2.2)) else some q
def ageN (ws : List Wd) (l : List Nat) : List Wd := ws.filterMap (ageO l)
/-- the words from n on have aged already -/
def agedTo (ws : List Wd) (l : List Nat) (n : Nat) : List Wd := ws.take n ++ (ws.drop n).filterMap (ageO l)
