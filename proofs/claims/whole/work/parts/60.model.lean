/-! ===== THE REFERENCE: its row of ints, and its looks ===== -/
def R9w (ws : List Wd) (f : Nat → Int32) : Prop := f 0 = nI ws.length ∧ ∀ k q, ws[k]? = some q → f (20 + 14 * k) = nI q.1.length ∧ f (20 + 14 * k + 1) = nI q.2.1 ∧ f (20 + 14 * k + 2) = q.2.2.1 ∧ f (20 + 14 * k + 3) = b01 q.2.2.2 ∧ ∀ i a, q.1[i]? = some a → f (20 + 14 * k + 4 + i) = nI a
def R9t (tx : List (List Nat)) (f : Nat → Int32) : Prop := f 8 = nI tx.length ∧ ∀ k l, tx[k]? = some l → f (720 + 11 * k) = nI l.length ∧ ∀ i a, l[i]? = some a → f (720 + 11 * k + 1 + i) = nI a
def R9p (p : List Nat) (f : Nat → Int32) : Prop := f 6 = nI p.length ∧ ∀ k c, p[k]? = some c → f (10 + k) = placeI c
def R9a (s : St) (f : Nat → Int32) : Prop := R9w (sWs s) f ∧ R9t (sTx s) f ∧ R9p (sPl s) f ∧ f 1 = sClk s ∧ f 2 = nI (sAge s) ∧ f 3 = b01 (sCmp s) ∧ f 4 = b01 (sTap s) ∧ f 5 = sPen s ∧ f 7 = nI (sCho s) ∧ f 9 = idxI (sOpn s)
def R9 (g : Sg) (m : T9) : Prop := R9a g.1 m.1 ∧ m.2.2.2.1 = nI g.2.1.length ∧ (∀ k s, g.2.1[k]? = some s → R9a s (fun i => m.2.1 (1050 * k + i))) ∧ m.2.2.2.2.2.2.2.2.1 = nI g.2.2.length ∧ ∀ k b, g.2.2[k]? = some b → m.2.2.2.2.2.2.2.1 k = nI b
theorem keyOf_9 : ∀ a, a < 26 → f_X9_keyOf (nI a) = some (nI (keyN a)) := by decide
theorem firstOf_9 : ∀ k, k < 10 → 2 ≤ k → f_X9_firstOf (nI k) = some (nI (firN k)) := by decide
theorem nextOn_9 : ∀ a, a < 26 → f_X9_nextOn (nI a) = some (nI (nexN a)) := by decide
section M9
variable {m : T9} {ws : List Wd}
theorem at_9 {k i : Nat} : f_X9_at (nI k) (nI i) = some (nI (20 + 14 * k + i)) := by
  unfold f_X9_at
  have em : (14 : Int32) * nI k = nI (14 * k) := (Int32.ofNat_mul 14 k).symm
  have e2 : (20 : Int32) + nI (14 * k) = nI (20 + 14 * k) := nI_add 20 _
  rw [em, e2, nI_add]
theorem of_9 (hR : R9w ws m.1) (hl : ws.length ≤ 50) {k : Nat} {q : Wd} (hk : ws[k]? = some q) {i : Nat} (hi : i < 14) : f_X9_of m (nI k) (nI i) = some (m.1 (20 + 14 * k + i)) := by
  have := lt_of_get hk
  unfold f_X9_of
  rw [at_9, Option.bind_some, rd_nI (by omega) (by omega), Option.bind_some]
theorem len_9 (hR : R9w ws m.1) (hl : ws.length ≤ 50) {k : Nat} {q : Wd} (hk : ws[k]? = some q) : f_X9_of m (nI k) 0 = some (nI q.1.length) := by
  have h : f_X9_of m (nI k) (nI 0) = _ := of_9 hR hl hk (by omega)
  rw [nI_0, Nat.add_zero, (hR.2 k q hk).1] at h
  exact h
theorem count_9 (hR : R9w ws m.1) (hl : ws.length ≤ 50) {k : Nat} {q : Wd} (hk : ws[k]? = some q) : f_X9_of m (nI k) 1 = some (nI q.2.1) := by
  have h : f_X9_of m (nI k) (nI 1) = _ := of_9 hR hl hk (by omega)
  rw [(hR.2 k q hk).2.1] at h
  exact h
theorem time_9 (hR : R9w ws m.1) (hl : ws.length ≤ 50) {k : Nat} {q : Wd} (hk : ws[k]? = some q) : f_X9_of m (nI k) 2 = some q.2.2.1 := by
  have h : f_X9_of m (nI k) (nI 2) = _ := of_9 hR hl hk (by omega)
  rw [(hR.2 k q hk).2.2.1] at h
  exact h
theorem added_9 (hR : R9w ws m.1) (hl : ws.length ≤ 50) {k : Nat} {q : Wd} (hk : ws[k]? = some q) : f_X9_of m (nI k) 3 = some (b01 q.2.2.2) := by
  have h : f_X9_of m (nI k) (nI 3) = _ := of_9 hR hl hk (by omega)
  rw [(hR.2 k q hk).2.2.2.1] at h
  exact h
theorem letter_9 (hR : R9w ws m.1) (hl : ws.length ≤ 50) {k : Nat} {q : Wd} (hk : ws[k]? = some q) (hq : okL q.1) {i : Nat} (hi : i < q.1.length) : f_X9_letterOf m (nI k) (nI i) = some (nI (q.1.getD i 0)) := by
  have := lt_of_get hk
  have hql := hq.1
  unfold f_X9_letterOf
  have e4 : (4 : Int32) + nI i = nI (4 + i) := nI_add 4 i
  rw [e4, at_9, Option.bind_some, rd_nI (by omega) (by omega), Option.bind_some]
  have := (hR.2 k q hk).2.2.2.2 i _ (List.getElem?_eq_getElem hi)
  rw [Nat.add_assoc] at this
  rw [this, List.getD_eq_getElem?_getD, List.getElem?_eq_getElem hi]
  rfl
/-- up to the first j letters two words are the same -/
def sameTo (a b : List Nat) (j : Nat) : Bool := a.getD j 0 == b.getD j 0
theorem lex_split : ∀ (a b : List Nat) (j : Nat), j ≤ a.length → j ≤ b.length → (∀ i, i < j → a.getD i 0 = b.getD i 0) → lexLt a b = lexLt (a.drop j) (b.drop j)
  | _, _, 0, _, _, _ => rfl
  | [], _, j + 1, h, _, _ => by simp at h
  | _ :: _, [], j + 1, _, h, _ => by simp at h
  | x :: s, y :: t, j + 1, h, h', he => by
    have e0 := he 0 (by omega)
    simp at e0
    subst e0
    have := lex_split s t j (by simpa using h) (by simpa using h') (fun i hi => by simpa using he (i + 1) (by omega))
    simp only [lexLt, Nat.lt_irrefl, if_false, List.drop_succ_cons]
    exact this
theorem compares_9 (hR : R9w ws m.1) (ho : okWs ws) {j k : Nat} {a b : Wd} (hj : ws[j]? = some a) (hk : ws[k]? = some b) : ∃ r, f_X9_compares m (nI j) (nI k) = some r ∧ (0 ≤ r ↔ lexLt a.1 b.1 = false) := by
  have hl := ho.1
  have oa := (ho.wd hj).1
  have ob := (ho.wd hk).1
  have oal := oa.1
  have obl := ob.1
  have hsm : ∀ {u v : Nat}, u ≤ 26 → v ≤ 26 → (0 ≤ nI u - nI v ↔ v ≤ u) := by
    intro u v hu hv
    by_cases e : v ≤ u
    · rw [nI_sub u v e]
      exact ⟨fun _ => e, fun _ => nI_pos' (by omega)⟩
    · have e2 : nI u - nI v = -nI (v - u) := by
        have := nI_sub v u (by omega)
        rw [← this, Int32.neg_sub]
      rw [e2]
      constructor
      · intro h
        exfalso
        have hd : ∀ d, d < 27 → 0 < d → ¬ (0 : Int32) ≤ -nI d := by decide
        exact hd (v - u) (by omega) (by omega) h
      · intro h; omega
  -- how far they are the same
  let N := min a.1.length b.1.length
  unfold f_X9_compares
  rw [len_9 hR hl hj, len_9 hR hl hk]
  cases hs : allB (fun i => a.1.getD i 0 == b.1.getD i 0) (min a.1.length b.1.length) with
  | true =>
    have hall := allB_iff.mp hs
    rw [lp_go (fun i => nI i) (min a.1.length b.1.length) (.inr ()) nI_0.symm (fun i hi => by
      rw [Option.bind_some, if_neg (nI_ge (by omega) (by omega)), Option.bind_some, if_neg (nI_ge (by omega) (by omega)), letter_9 hR hl hj oa (by omega), Option.bind_some, letter_9 hR hl hk ob (by omega), Option.bind_some, if_pos (by rw [beq_iff_eq.mp (hall i hi)]), nI_1]) (by
      rw [Option.bind_some]
      by_cases e : a.1.length ≤ b.1.length
      · rw [if_pos (nI_le (by omega) (by omega))]
      · rw [if_neg (nI_ge (by omega) (by omega)), Option.bind_some, if_pos (nI_le (by omega) (by omega))]) (by omega), Option.bind_some]
    refine ⟨nI a.1.length - nI b.1.length, rfl, ?_⟩
    rw [hsm (by omega) (by omega), lex_split a.1 b.1 (min a.1.length b.1.length) (by omega) (by omega) (fun i hi => beq_iff_eq.mp (hall i hi))]
    by_cases e : b.1.length ≤ a.1.length
    · have e1 : b.1.drop (min a.1.length b.1.length) = [] := List.drop_eq_nil_of_le (by omega)
      rw [e1]
      refine ⟨fun _ => ?_, fun _ => e⟩
      cases a.1.drop (min a.1.length b.1.length) <;> rfl
    · have e1 : a.1.drop (min a.1.length b.1.length) = [] := List.drop_eq_nil_of_le (by omega)
      have e2 : b.1.drop (min a.1.length b.1.length) ≠ [] := by
        intro z
        have := congrArg List.length z
        simp at this
        omega
      rw [e1]
      cases hb : b.1.drop (min a.1.length b.1.length) with
      | nil => exact absurd hb e2
      | cons y t => simp [lexLt]; omega
  | false =>
    obtain ⟨i0, h1, h2, h3⟩ := allB_first hs
    have hne : a.1.getD i0 0 ≠ b.1.getD i0 0 := by simpa using h2
    have la := getD_lt26 oa (show i0 < a.1.length by omega)
    have lb := getD_lt26 ob (show i0 < b.1.length by omega)
    rw [lp_go (fun i => nI i) i0 (.inl (nI (a.1.getD i0 0) - nI (b.1.getD i0 0))) nI_0.symm (fun i hi => by
      rw [Option.bind_some, if_neg (nI_ge (by omega) (by omega)), Option.bind_some, if_neg (nI_ge (by omega) (by omega)), letter_9 hR hl hj oa (by omega), Option.bind_some, letter_9 hR hl hk ob (by omega), Option.bind_some, if_pos (by rw [beq_iff_eq.mp (h3 i hi)]), nI_1]) (by
      rw [Option.bind_some, if_neg (nI_ge (by omega) (by omega)), Option.bind_some, if_neg (nI_ge (by omega) (by omega)), letter_9 hR hl hj oa (by omega), Option.bind_some, letter_9 hR hl hk ob (by omega), Option.bind_some, if_neg (fun z => hne ((nI_eq (by omega) (by omega)).mp z)), Option.bind_some, Option.bind_some]) (by omega), Option.bind_some]
    refine ⟨nI (a.1.getD i0 0) - nI (b.1.getD i0 0), rfl, ?_⟩
    rw [hsm (by omega) (by omega), lex_split a.1 b.1 i0 (by omega) (by omega) (fun i hi => beq_iff_eq.mp (h3 i hi)), List.drop_eq_getElem_cons (show i0 < a.1.length by omega), List.drop_eq_getElem_cons (show i0 < b.1.length by omega)]
    have ea : a.1.getD i0 0 = a.1[i0] := by rw [List.getD_eq_getElem?_getD, List.getElem?_eq_getElem (by omega)]; rfl
    have eb : b.1.getD i0 0 = b.1[i0] := by rw [List.getD_eq_getElem?_getD, List.getElem?_eq_getElem (by omega)]; rfl
    have hne2 : a.1[i0] ≠ b.1[i0] := by rw [← ea, ← eb]; exact hne
    rw [ea, eb]
    unfold lexLt
    by_cases c1 : a.1[i0] < b.1[i0]
    · rw [if_pos c1]
      constructor
      · intro z; omega
      · intro z; cases z
    · rw [if_neg c1, if_pos (show b.1[i0] < a.1[i0] by omega)]
      exact ⟨fun _ => rfl, fun _ => by omega⟩
theorem isAhead_9 (hR : R9w ws m.1) (ho : okWs ws) {j k : Nat} {a b : Wd} (hj : ws[j]? = some a) (hk : ws[k]? = some b) : f_X9_isAhead m (nI j) (nI k) = some (b01 (ahead a b)) := by
  have hl := ho.1
  have oa := (ho.wd hj).2.2.1
  have ob := (ho.wd hk).2.2.1
  obtain ⟨r, r1, r2⟩ := compares_9 hR ho hj hk
  unfold f_X9_isAhead ahead
  rw [count_9 hR hl hj, count_9 hR hl hk, time_9 hR hl hj, time_9 hR hl hk, r1]
  simp only [Option.bind_some]
  by_cases e1 : a.2.1 = b.2.1
  · rw [if_pos (by rw [e1]), if_pos e1]
    by_cases e2 : a.2.2.1 = b.2.2.1
    · rw [if_pos e2, if_pos e2]
      by_cases e3 : 0 ≤ r
      · rw [if_pos e3, r2.mp e3]; rfl
      · rw [if_neg e3]
        cases h : lexLt a.1 b.1 with
        | true => rfl
        | false => exact absurd (r2.mpr h) e3
    · rw [if_neg e2, if_neg e2]
      by_cases e3 : b.2.2.1 < a.2.2.1
      · rw [if_neg (Int32.not_le.mpr e3), decide_eq_true e3]; rfl
      · rw [if_pos (Int32.not_lt.mp e3), decide_eq_false e3]; rfl
  · rw [if_neg (fun e => e1 ((nI_eq (by omega) (by omega)).mp e)), if_neg e1]
    by_cases e3 : b.2.1 < a.2.1
    · rw [if_neg (nI_ge e3 (by omega)), decide_eq_true e3]; rfl
    · rw [if_pos (nI_le (by omega) (by omega)), decide_eq_false e3]; rfl
theorem many_9 (hR : R9w ws m.1) : rd m.1 1050 0 = some (nI ws.length) := by
  have h : rd m.1 1050 (nI 0) = some (m.1 0) := rd_nI (by omega) (by omega)
  rw [nI_0, hR.1] at h
  exact h
theorem rankOf_9 (hR : R9w ws m.1) (ho : okWs ws) {k : Nat} {b : Wd} (hk : ws[k]? = some b) : f_X9_rankOf m (nI k) = some (nI (rankN ws k)) := by
  have hl := ho.1
  have hkl := lt_of_get hk
  unfold f_X9_rankOf
  rw [many_9 hR]
  refine lp_count (fun j => aheadAt ws j k) ws.length (fun i c hi => ?_) (fun c => ?_) (by omega)
  · obtain ⟨a, ha⟩ := get_of_lt hi
    rw [Option.bind_some, if_neg (nI_ge hi (by omega))]
    dsimp only
    by_cases e : i = k
    · subst e
      rw [ha] at hk
      cases hk
      rw [if_pos rfl, Option.bind_some, aheadAt_e ha ha, ahead_irr, nI_1]
      simp
    · rw [if_neg (fun z => e ((nI_eq (by omega) (by omega)).mp z)), isAhead_9 hR ho ha hk, Option.bind_some, aheadAt_e ha hk]
      cases ahead a b with
      | true => rw [if_neg (show ¬ b01 true = 0 from by decide), Option.bind_some, nI_1]; rfl
      | false => rw [if_pos (show b01 false = 0 from rfl), Option.bind_some, nI_1]; simp
  · rw [Option.bind_some, if_pos (nI_le (Nat.le_refl _) (by omega))]
end M9
