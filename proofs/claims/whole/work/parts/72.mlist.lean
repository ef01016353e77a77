/-! ===== the reference's list: a word leaves, is looked for, is added ===== -/
/-- the first j cells from a on take the ones d behind them -/
def shx (f : Nat → Int32) (a d j : Nat) : Nat → Int32 := fun i => if a ≤ i ∧ i < a + j then f (i + d) else f i
theorem shx_0 (f : Nat → Int32) (a d : Nat) : shx f a d 0 = f := by
  funext i
  unfold shx
  rw [if_neg (by omega)]
theorem shx_at {f : Nat → Int32} {a d j i : Nat} (h : a + j ≤ i) : shx f a d j i = f i := by
  unfold shx
  rw [if_neg (by omega)]
theorem shx_lo {f : Nat → Int32} {a d j i : Nat} (h : i < a) : shx f a d j i = f i := by
  unfold shx
  rw [if_neg (by omega)]
theorem shx_in {f : Nat → Int32} {a d j i : Nat} (h : a ≤ i) (h2 : i < a + j) : shx f a d j i = f (i + d) := by
  unfold shx
  rw [if_pos ⟨h, h2⟩]
theorem shx_up (f : Nat → Int32) (a d j : Nat) : upd (shx f a d j) (a + j) (f (a + j + d)) = shx f a d (j + 1) := by
  funext i
  unfold upd shx
  by_cases e : i = a + j
  · rw [if_pos e, if_pos (by omega), e]
  · rw [if_neg e]
    by_cases e2 : a ≤ i ∧ i < a + j
    · rw [if_pos e2, if_pos (by omega)]
    · rw [if_neg e2, if_neg (by omega)]
theorem at0_9 (k : Nat) : f_X9_at (nI k) 0 = some (nI (20 + 14 * k)) := at_9 (i := 0)
theorem at1_9 (k : Nat) : f_X9_at (nI k) 1 = some (nI (20 + 14 * k + 1)) := at_9 (i := 1)
theorem at2_9 (k : Nat) : f_X9_at (nI k) 2 = some (nI (20 + 14 * k + 2)) := at_9 (i := 2)
theorem at3_9 (k : Nat) : f_X9_at (nI k) 3 = some (nI (20 + 14 * k + 3)) := at_9 (i := 3)
theorem at4_9 (k i : Nat) : f_X9_at (nI k) (4 + nI i) = some (nI (20 + 14 * k + 4 + i)) := by
  have e4 : (4 : Int32) + nI i = nI (4 + i) := nI_add 4 i
  rw [e4, at_9, Nat.add_assoc (20 + 14 * k)]
/-- what is kept of the row while the words change -/
def kept (f f' : Nat → Int32) : Prop := ∀ i, i ≠ 0 → (i < 20 ∨ 720 ≤ i) → f' i = f i
theorem kept.rf {f : Nat → Int32} : kept f f := fun _ _ _ => rfl
theorem kept.tr {f g h : Nat → Int32} (h1 : kept f g) (h2 : kept g h) : kept f h := fun i a b => (h2 i a b).trans (h1 i a b)
theorem leaves_9 {m : T9} {ws : List Wd} (hW : R9w ws m.1) (hl : ws.length ≤ 50) (hlen : ∀ q ∈ ws, q.1.length ≤ 10) {k : Nat} (hk : k < ws.length) : ∃ f, f_X9_leaves m (nI k) = some (f, m.2) ∧ R9w (ws.eraseIdx k) f ∧ kept m.1 f := by
  have hf0 : upd m.1 0 (nI (ws.length - 1)) 0 = nI (ws.length - 1) := upd_e
  refine ⟨shx (upd m.1 0 (nI (ws.length - 1))) (20 + 14 * k) 14 (14 * (ws.length - 1 - k)), ?_, ⟨?_, fun i q hi => ?_⟩, fun i h0 hi => ?_⟩
  · unfold f_X9_leaves
    have e1 : nI ws.length - 1 = nI (ws.length - 1) := nI_sub _ 1 (by omega)
    rw [many_9 hW, Option.bind_some, e1, wr_c (i := 0) 0 rfl (by omega), Option.bind_some, at0_9, Option.bind_some]
    refine lp_go (fun j => (nI (20 + 14 * k + j), ((shx (upd m.1 0 (nI (ws.length - 1))) (20 + 14 * k) 14 j, m.2) : T9))) (14 * (ws.length - 1 - k)) _ (by rw [shx_0]; rfl) (fun j hj => ?_) ?_ (by omega)
    · have e14 : nI (20 + 14 * k + j) + 14 = nI (20 + 14 * k + j + 14) := nI_add _ 14
      dsimp only
      rw [rd_c (i := 0) 0 rfl (by omega) ((shx_lo (by omega)).trans hf0), Option.bind_some, at0_9, Option.bind_some, if_neg (nI_ge (by omega) (by omega)), e14, rd_c _ rfl (by omega) (shx_at (by omega)), Option.bind_some, wr_c _ rfl (by omega), Option.bind_some, shx_up, nI_1]
      rfl
    · dsimp only
      rw [rd_c (i := 0) 0 rfl (by omega) ((shx_lo (by omega)).trans hf0), Option.bind_some, at0_9, Option.bind_some, if_pos (nI_le (by omega) (by omega))]
  · rw [shx_lo (by omega), hf0, List.length_eraseIdx, if_pos hk]
  · have hil := lt_of_get hi
    rw [List.length_eraseIdx, if_pos hk] at hil
    rw [List.getElem?_eraseIdx] at hi
    have fin : ∀ c, c < 14 → shx (upd m.1 0 (nI (ws.length - 1))) (20 + 14 * k) 14 (14 * (ws.length - 1 - k)) (20 + 14 * i + c) = m.1 (20 + 14 * (if i < k then i else i + 1) + c) := fun c hc => by
      by_cases e : i < k
      · rw [shx_lo (by omega), upd_n (by omega), if_pos e]
      · rw [shx_in (by omega) (by omega), upd_n (by omega), if_neg e]
        rw [show 20 + 14 * i + c + 14 = 20 + 14 * (i + 1) + c by omega]
    have hq : (ws)[if i < k then i else i + 1]? = some q := by
      by_cases e : i < k
      · rw [if_pos e] at hi ⊢; exact hi
      · rw [if_neg e] at hi ⊢; exact hi
    have hql := hlen q (List.mem_of_getElem? hq)
    obtain ⟨a1, a2, a3, a4, a5⟩ := hW.2 _ q hq
    refine ⟨(fin 0 (by omega)).trans a1, (fin 1 (by omega)).trans a2, (fin 2 (by omega)).trans a3, (fin 3 (by omega)).trans a4, fun c a hc => ?_⟩
    have := lt_of_get hc
    rw [Nat.add_assoc, fin (4 + c) (by omega), ← Nat.add_assoc]
    exact a5 c a hc
  · rcases hi with h | h
    · rw [shx_lo (by omega), upd_n h0]
    · rw [shx_at (by omega), upd_n h0]
/-- a question asked place for place -/
theorem lp_flag {ρ : Type} {body : Int32 × Int32 → Option ((Int32 × Int32) ⊕ ρ)} (F : Bool → ρ) (p : Nat → Bool) (n : Nat) (b0 : Bool) (hb : b0 = true → ∀ i, i < n → body (b01 true, nI i) = some (.inl (b01 (p i), nI (i + 1)))) (hn : body (b01 true, nI n) = some (.inr (F true))) (hf : ∀ i, i ≤ n → body (b01 false, nI i) = some (.inr (F false))) {fuel : Nat} (hfu : n + 1 < fuel) : lp body fuel (b01 b0, 0) = some (F (b0 && allB p n)) := by
  cases b0 with
  | false => exact lp_go (fun i => (b01 false, nI i)) 0 _ (by rw [nI_0]) (fun i hi => absurd hi (Nat.not_lt_zero i)) (hf 0 (Nat.zero_le n)) (by omega)
  | true =>
    rw [Bool.true_and]
    cases hs : allB p n with
    | true =>
      have hall := allB_iff.mp hs
      exact lp_go (fun i => (b01 true, nI i)) n _ (by rw [nI_0]) (fun i hi => by rw [hb rfl i hi, hall i hi]) hn (by omega)
    | false =>
      obtain ⟨k0, f1, f2, f3⟩ := allB_first hs
      refine lp_go (fun i => (b01 (decide (i ≤ k0)), nI i)) (k0 + 1) _ (by rw [nI_0, decide_eq_true (Nat.zero_le k0)]) (fun i hi => ?_) ?_ (by omega)
      · rw [decide_eq_true (show i ≤ k0 by omega), hb rfl i (by omega)]
        by_cases e : i = k0
        · rw [e, f2, decide_eq_false (show ¬ k0 + 1 ≤ k0 by omega)]
        · rw [f3 i (by omega), decide_eq_true (show i + 1 ≤ k0 by omega)]
      · rw [decide_eq_false (show ¬ k0 + 1 ≤ k0 by omega)]
        exact hf (k0 + 1) (by omega)
theorem allB_eq {a b : List Nat} (h : a.length = b.length) : allB (fun i => a.getD i 0 == b.getD i 0) b.length = (a == b) := by
  rw [Bool.eq_iff_iff, allB_iff, beq_iff_eq]
  constructor
  · intro hh
    apply List.ext_getElem?
    intro i
    by_cases hi : i < b.length
    · have := hh i hi
      simp [List.getD_eq_getElem?_getD, List.getElem?_eq_getElem hi, List.getElem?_eq_getElem (show i < a.length by omega)] at this
      rw [List.getElem?_eq_getElem hi, List.getElem?_eq_getElem (show i < a.length by omega), this]
    · rw [List.getElem?_eq_none (by omega), List.getElem?_eq_none (by omega)]
  · intro e i _
    rw [e]
    simp
theorem isShown_9 {m : T9} {ws : List Wd} (hW : R9w ws m.1) (ho : okWs ws) {l : List Nat} (hl : okL l) (hn : m.2.2.2.2.2.2.1 = nI l.length) (hs : Sh l m.2.2.2.2.2.1) {k : Nat} {q : Wd} (hk : ws[k]? = some q) : f_X9_isShown m (nI k) = some (b01 (q.1 == l)) := by
  have hq := (ho.wd hk).1
  have hql := hq.1
  have hll := hl.1
  unfold f_X9_isShown
  rw [len_9 hW ho.1 hk, Option.bind_some, hn]
  have hj : (if nI q.1.length = nI l.length then some (1 : Int32) else some 0) = some (b01 (decide (q.1.length = l.length))) := by
    by_cases e : q.1.length = l.length
    · rw [if_pos (by rw [e]), decide_eq_true e]; rfl
    · rw [if_neg (fun z => e ((nI_eq (by omega) (by omega)).mp z)), decide_eq_false e]; rfl
  have hres : (q.1 == l) = (decide (q.1.length = l.length) && allB (fun i => q.1.getD i 0 == l.getD i 0) l.length) := by
    by_cases e : q.1.length = l.length
    · rw [allB_eq e, decide_eq_true e, Bool.true_and]
    · rw [decide_eq_false e, Bool.false_and, beq_eq_false_iff_ne]
      intro z
      exact e (by rw [z])
  rw [hj, Option.bind_some, hres]
  refine lp_flag (fun b => b01 b) (fun i => q.1.getD i 0 == l.getD i 0) l.length (decide (q.1.length = l.length)) (fun h0 i hi => ?_) ?_ (fun i hi => ?_) (by omega)
  · have e := of_decide_eq_true h0
    have ha := getD_lt26 hq (show i < q.1.length by omega)
    have hb := getD_lt26 hl hi
    have hsi : m.2.2.2.2.2.1 i = nI (l.getD i 0) := by
      rw [hs i _ (List.getElem?_eq_getElem hi), List.getD_eq_getElem?_getD, List.getElem?_eq_getElem hi]
      rfl
    dsimp only
    rw [if_neg (nI_ge hi (by omega)), if_neg (show ¬ b01 true = 0 from by decide), letter_9 hW ho.1 hk hq (by omega), Option.bind_some, rd_nI (by omega) (by omega), Option.bind_some, hsi, nI_1]
    by_cases e2 : q.1.getD i 0 = l.getD i 0
    · rw [if_pos (by rw [e2]), Option.bind_some, beq_iff_eq.mpr e2]; rfl
    · rw [if_neg (fun z => e2 ((nI_eq (by omega) (by omega)).mp z)), Option.bind_some, beq_false_of_ne e2]; rfl
  · dsimp only
    rw [if_pos (nI_le (Nat.le_refl _) (by omega)), bz_01, Option.bind_some]
  · dsimp only
    by_cases e : nI l.length ≤ nI i
    · rw [if_pos e, bz_01, Option.bind_some]
    · rw [if_neg e, if_pos (show b01 false = 0 from rfl), bz_01, Option.bind_some]
theorem shownWord_9 {m : T9} {ws : List Wd} (hW : R9w ws m.1) (ho : okWs ws) {l : List Nat} (hl : okL l) (hn : m.2.2.2.2.2.2.1 = nI l.length) (hs : Sh l m.2.2.2.2.2.1) : f_X9_shownWord m = some (idxI (findN ws l)) := by
  have hwl := ho.1
  unfold f_X9_shownWord
  rw [many_9 hW]
  refine lp_go (fun j => (idxI (match findN ws l with | some k => if k < j then some k else none | none => none), nI j)) ws.length _ ?_ (fun j hj => ?_) ?_ (by omega)
  · cases findN ws l <;> rfl
  · obtain ⟨q, hq⟩ := get_of_lt hj
    rw [Option.bind_some]
    dsimp only
    rw [if_neg (nI_ge hj (by omega)), isShown_9 hW ho hl hn hs hq, Option.bind_some, nI_1]
    by_cases e : q.1 = l
    · rw [beq_iff_eq.mpr e, if_neg (show ¬ b01 true = 0 from by decide), Option.bind_some]
      cases hf : findN ws l with
      | none => exact absurd e (findN_none hf q (List.mem_of_getElem? hq))
      | some k =>
        obtain ⟨p, hp, hpl⟩ := findN_some hf
        have ek := ho.2.2 k j p q hp hq (hpl.trans e.symm)
        subst ek
        dsimp only
        rw [if_pos (by omega)]
        rfl
    · rw [beq_false_of_ne e, if_pos (show b01 false = 0 from rfl), Option.bind_some]
      cases hf : findN ws l with
      | none => rfl
      | some k =>
        obtain ⟨p, hp, hpl⟩ := findN_some hf
        have hne : k ≠ j := fun z => by
          subst z
          rw [hp] at hq
          cases hq
          exact e hpl
        dsimp only
        by_cases c : k < j
        · rw [if_pos c, if_pos (by omega)]
        · rw [if_neg c, if_neg (by omega)]
  · rw [Option.bind_some]
    dsimp only
    rw [if_pos (nI_le (Nat.le_refl _) (by omega))]
    cases hf : findN ws l with
    | none => rfl
    | some k =>
      obtain ⟨p, hp, -⟩ := findN_some hf
      dsimp only
      rw [if_pos (lt_of_get hp)]
theorem lowest_9 {m : T9} {ws : List Wd} (hW : R9w ws m.1) (ho : okWs ws) : f_X9_lowestAdded m = some (idxI (lastN ws ws.length)) := by
  have hwl := ho.1
  unfold f_X9_lowestAdded
  rw [many_9 hW]
  refine lp_go (fun j => (idxI (lastN ws j), nI j)) ws.length _ (by rw [lastN, nI_0]; rfl) (fun j hj => ?_) ?_ (by omega)
  · obtain ⟨q, hq⟩ := get_of_lt hj
    have ea : addedAt ws j = q.2.2.2 := by unfold addedAt; rw [hq]
    have eL : lastN ws (j + 1) = if addedAt ws j then (match lastN ws j with | none => some j | some b => if aheadAt ws b j then some j else some b) else lastN ws j := rfl
    rw [Option.bind_some]
    dsimp only
    rw [if_neg (nI_ge hj (by omega)), nI_1, eL, ea, added_9 hW hwl hq]
    cases hb : lastN ws j with
    | none =>
      rw [if_pos (show idxI none = -1 from rfl), Option.bind_some, Option.bind_some]
      cases q.2.2.2 with
      | false => rw [if_neg (show ¬ b01 false = 1 from by decide), Option.bind_some, if_neg (by decide)]
      | true => rw [if_pos (show b01 true = 1 from rfl), if_neg (by decide), Option.bind_some, if_pos rfl]; rfl
    | some b =>
      have hbj := lastN_lt ws hb
      obtain ⟨p, hp⟩ := get_of_lt (show b < ws.length by omega)
      have er : f_X9_isAhead m (idxI (some b)) (nI j) = some (b01 (ahead p q)) := isAhead_9 hW ho hp hq
      dsimp only
      rw [if_neg (idxI_some (by omega)), er, Option.bind_some, aheadAt_e hp hq]
      cases ahead p q with
      | false =>
        rw [if_pos (show b01 false = 0 from rfl), Option.bind_some, Option.bind_some]
        cases q.2.2.2 with
        | false => rw [if_neg (show ¬ b01 false = 1 from by decide), Option.bind_some, if_neg (by decide)]
        | true => rw [if_pos (show b01 true = 1 from rfl), if_pos rfl, Option.bind_some, if_pos rfl, if_neg (by decide)]
      | true =>
        rw [if_neg (show ¬ b01 true = 0 from by decide), Option.bind_some, Option.bind_some]
        cases q.2.2.2 with
        | false => rw [if_neg (show ¬ b01 false = 1 from by decide), Option.bind_some, if_neg (by decide)]
        | true => rw [if_pos (show b01 true = 1 from rfl), if_neg (by decide), Option.bind_some, if_pos rfl, if_pos rfl]; rfl
  · rw [Option.bind_some]
    dsimp only
    rw [if_pos (nI_le (Nat.le_refl _) (by omega))]
theorem R9w.app {ws : List Wd} {f f' : Nat → Int32} {q : Wd} (h : R9w ws f) (ho : okWs ws) (h0 : f' 0 = nI (ws.length + 1)) (he : ∀ i, 20 ≤ i → i < 20 + 14 * ws.length → f' i = f i) (c0 : f' (20 + 14 * ws.length) = nI q.1.length) (c1 : f' (20 + 14 * ws.length + 1) = nI q.2.1) (c2 : f' (20 + 14 * ws.length + 2) = q.2.2.1) (c3 : f' (20 + 14 * ws.length + 3) = b01 q.2.2.2) (c4 : ∀ i a, q.1[i]? = some a → f' (20 + 14 * ws.length + 4 + i) = nI a) : R9w (ws ++ [q]) f' := by
  refine ⟨by rw [h0]; simp, fun k p hk => ?_⟩
  by_cases e : k = ws.length
  · subst e
    simp at hk
    subst hk
    exact ⟨c0, c1, c2, c3, c4⟩
  · have hkl := lt_of_get hk
    simp at hkl
    rw [List.getElem?_append_left (by omega)] at hk
    have hq := (ho.wd hk).1.1
    obtain ⟨a1, a2, a3, a4, a5⟩ := h.2 k p hk
    refine ⟨by rw [he _ (by omega) (by omega), a1], by rw [he _ (by omega) (by omega), a2], by rw [he _ (by omega) (by omega), a3], by rw [he _ (by omega) (by omega), a4], fun i a hi => ?_⟩
    have := lt_of_get hi
    rw [he _ (by omega) (by omega), a5 i a hi]
theorem adds_9 {m : T9} {ws : List Wd} (hW : R9w ws m.1) (ho : okWs ws) {l : List Nat} (hl : okL l) (hn : m.2.2.2.2.2.2.1 = nI l.length) (hs : Sh l m.2.2.2.2.2.1) (t : Int32) : ∃ f, f_X9_adds m t = some (f, m.2) ∧ R9w (if (roomN ws).length < 50 then roomN ws ++ [(l, 1, t, true)] else roomN ws) f ∧ kept m.1 f := by
  have hwl := ho.1
  have hll := hl.1
  -- room
  have hr : ∃ f, (Option.bind (if nI ws.length = 50 then Option.bind (α := Int32) (f_X9_lowestAdded m) (fun x4 => some x4) else some (-1)) (fun j2 => (if j2 = (-1) then some m else Option.bind (α := T9) (f_X9_leaves m j2) (fun x7 => some x7)))) = some (f, m.2) ∧ R9w (roomN ws) f ∧ kept m.1 f := by
    unfold roomN
    by_cases e : ws.length < 50
    · rw [if_neg (show ¬ nI ws.length = 50 from fun z => by have := (nI_eq (a := ws.length) (b := 50) (by omega) (by omega)).mp z; omega), Option.bind_some, if_pos rfl, if_pos e]
      exact ⟨m.1, rfl, hW, kept.rf⟩
    · rw [if_pos (show nI ws.length = 50 from by rw [show ws.length = 50 by omega]; rfl), if_neg e, lowest_9 hW ho, Option.bind_some, Option.bind_some]
      cases hb : lastN ws ws.length with
      | none =>
        rw [if_pos (show idxI none = -1 from rfl)]
        exact ⟨m.1, rfl, hW, kept.rf⟩
      | some b =>
        have hbl := lastN_lt ws hb
        obtain ⟨f, h1, h2, h3⟩ := leaves_9 hW hwl (fun q hq => (ho.2.1 q hq).1.1) hbl
        have h1 : f_X9_leaves m (idxI (some b)) = _ := h1
        rw [if_neg (idxI_some (by omega)), h1, Option.bind_some]
        exact ⟨f, rfl, h2, h3⟩
  obtain ⟨f, h1, h2, h3⟩ := hr
  have hro := ho.room
  have hrl := hro.1
  unfold f_X9_adds
  rw [many_9 hW, Option.bind_some]
  have hsplit : ∀ (A : Option Int32) (B : Int32 → Option T9) (C : T9 → Option T9) (y : T9), Option.bind A B = some y → Option.bind A (fun j2 => Option.bind (B j2) C) = C y := by
    intro A B C y h
    cases A with
    | none => cases h
    | some a =>
      rw [Option.bind_some] at h ⊢
      rw [h, Option.bind_some]
  rw [hsplit _ _ _ _ h1]
  dsimp only
  have hmany : rd f 1050 0 = some (nI (roomN ws).length) := rd_c (i := 0) 0 rfl (by omega) h2.1
  rw [hmany, Option.bind_some, Option.bind_some, Option.bind_some]
  by_cases e : (roomN ws).length < 50
  · rw [if_neg (show ¬ (50 : Int32) ≤ nI (roomN ws).length from nI_ge (a := (roomN ws).length) (b := 50) e (by omega)), if_pos e, wr_c (i := 0) 0 rfl (by omega), Option.bind_some, at0_9, Option.bind_some, wr_c _ rfl (by omega), Option.bind_some, at1_9, Option.bind_some, wr_c _ rfl (by omega), Option.bind_some, at2_9, Option.bind_some, wr_c _ rfl (by omega), Option.bind_some, at3_9, Option.bind_some, wr_c _ rfl (by omega), Option.bind_some, nI_1]
    generalize hg : upd (upd (upd (upd (upd f 0 (nI ((roomN ws).length + 1))) (20 + 14 * (roomN ws).length) m.2.2.2.2.2.2.1) (20 + 14 * (roomN ws).length + 1) 1) (20 + 14 * (roomN ws).length + 2) t) (20 + 14 * (roomN ws).length + 3) 1 = g
    have g0 : g 0 = nI ((roomN ws).length + 1) := by rw [← hg, upd_n (by omega), upd_n (by omega), upd_n (by omega), upd_n (by omega), upd_e]
    have c0 : g (20 + 14 * (roomN ws).length) = nI l.length := by rw [← hg, upd_n (by omega), upd_n (by omega), upd_n (by omega), upd_e, hn]
    have c1 : g (20 + 14 * (roomN ws).length + 1) = 1 := by rw [← hg, upd_n (by omega), upd_n (by omega), upd_e]
    have c2 : g (20 + 14 * (roomN ws).length + 2) = t := by rw [← hg, upd_n (by omega), upd_e]
    have c3 : g (20 + 14 * (roomN ws).length + 3) = 1 := by rw [← hg, upd_e]
    have ge : ∀ i, i ≠ 0 → (i < 20 + 14 * (roomN ws).length ∨ 20 + 14 * (roomN ws).length + 4 ≤ i) → g i = f i := fun i h0 hi => by rw [← hg, upd_n (by omega), upd_n (by omega), upd_n (by omega), upd_n (by omega), upd_n h0]
    obtain ⟨r, k1, f', k2, k3, k4⟩ := lp_inv (body := fun (v21 : Int32 × T9) => (if v21.2.2.2.2.2.2.2.1 ≤ v21.1 then (some (.inr v21.2)) else Option.bind (α := Int32) (f_X9_at (nI (roomN ws).length) (4 + v21.1)) (fun x24 => Option.bind (α := Int32) (rd v21.2.2.2.2.2.2.1 10 v21.1) (fun x25 => Option.bind (α := (Nat → Int32)) (wr v21.2.1 1050 x24 x25) (fun x26 => (some (.inl ((v21.1 + 1), (x26, v21.2.2.1, v21.2.2.2.1, v21.2.2.2.2.1, v21.2.2.2.2.2.1, v21.2.2.2.2.2.2.1, v21.2.2.2.2.2.2.2.1, v21.2.2.2.2.2.2.2.2.1, v21.2.2.2.2.2.2.2.2.2.1, v21.2.2.2.2.2.2.2.2.2.2)))))))))
      (s0 := (0, ((g, m.2) : T9))) (fun j v => v.1 = nI j ∧ ∃ f', v.2 = (f', m.2) ∧ (∀ i, (i < 20 + 14 * (roomN ws).length + 4 ∨ 20 + 14 * (roomN ws).length + 14 ≤ i) → f' i = g i) ∧ ∀ i, i < j → f' (20 + 14 * (roomN ws).length + 4 + i) = nI (l.getD i 0)) (fun r => ∃ f', r = (f', m.2) ∧ (∀ i, (i < 20 + 14 * (roomN ws).length + 4 ∨ 20 + 14 * (roomN ws).length + 14 ≤ i) → f' i = g i) ∧ ∀ i, i < l.length → f' (20 + 14 * (roomN ws).length + 4 + i) = nI (l.getD i 0)) l.length ⟨nI_0.symm, g, rfl, fun _ _ => rfl, fun i h => absurd h (Nat.not_lt_zero i)⟩
      (fun j v hj hv => by
        obtain ⟨v1, f', v2, v3, v4⟩ := hv
        obtain ⟨w1, w2⟩ := v
        dsimp only at v1 v2
        subst v1
        subst v2
        have hsj : m.2.2.2.2.2.1 j = nI (l.getD j 0) := by
          rw [hs j _ (List.getElem?_eq_getElem hj), List.getD_eq_getElem?_getD, List.getElem?_eq_getElem hj]
          rfl
        dsimp only
        rw [if_neg (show ¬ m.2.2.2.2.2.2.1 ≤ nI j from by rw [hn]; exact nI_ge hj (by omega)), at4_9, Option.bind_some, rd_nI (by omega) (by omega), Option.bind_some, hsj, wr_c _ rfl (by omega), Option.bind_some, nI_1]
        refine ⟨_, rfl, rfl, _, rfl, fun i hi => ?_, fun i hi => ?_⟩
        · rw [upd_n (by omega)]; exact v3 i hi
        · by_cases ei : i = j
          · rw [ei, upd_e]
          · rw [upd_n (by omega)]; exact v4 i (by omega))
      (fun v hv => by
        obtain ⟨v1, f', v2, v3, v4⟩ := hv
        obtain ⟨w1, w2⟩ := v
        dsimp only at v1 v2
        subst v1
        subst v2
        dsimp only
        rw [if_pos (show m.2.2.2.2.2.2.1 ≤ nI l.length from by rw [hn]; exact nI_le (Nat.le_refl _) (by omega))]
        exact ⟨_, rfl, f', rfl, v3, v4⟩) (fuel := 5000) (by omega)
    subst k2
    refine ⟨f', ?_, h2.app hro (by rw [k3 0 (by omega), g0]) (fun i h20 hi => by rw [k3 i (by omega), ge i (by omega) (by omega)]) (by rw [k3 _ (by omega), c0]) (by rw [k3 _ (by omega), c1]; rfl) (by rw [k3 _ (by omega), c2]) (by rw [k3 _ (by omega), c3]; rfl) (fun i a hi => ?_), h3.tr (fun i h0 hi => ?_)⟩
    · rw [← k1]
    · rw [k4 i (lt_of_get hi), List.getD_eq_getElem?_getD, hi]
      rfl
    · rw [k3 i (by omega), ge i h0 (by omega)]
  · rw [if_pos (show (50 : Int32) ≤ nI (roomN ws).length from nI_le (a := 50) (by omega) (by omega)), if_neg e]
    exact ⟨f, rfl, h2, h3⟩
