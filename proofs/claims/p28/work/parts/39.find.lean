/-! ===== the candidates, found ===== -/
/-- how many candidates -/
def candN (ws : List Wd) (cmp : Bool) (p : List Nat) : Nat := cnt (fitsCAt ws cmp p) ws.length
/-- how many candidates come before a word -/
def aheadC (ws : List Wd) (cmp : Bool) (p : List Nat) (i : Nat) : Nat := cnt (fun j => fitsCAt ws cmp p j && comesAt ws p.length j i) ws.length
theorem cnt_countP (p : Nat → Bool) : ∀ n, cnt p n = (List.range n).countP p
  | 0 => rfl
  | n + 1 => by
    rw [cnt_succ, cnt_countP p n, List.range_succ, List.countP_append]
    simp [List.countP_cons]
/-- the row of candidates: what it is -/
def isCand (ws : List Wd) (cmp : Bool) (p : List Nat) (m : Nat) (l : List Nat) : Prop := srtC ws p.length l ∧ ∀ i, i ∈ l ↔ i < m ∧ fitsCAt ws cmp p i = true
theorem srtC.nodup {ws : List Wd} {n : Nat} {l : List Nat} (h : srtC ws n l) : l.Nodup := by
  unfold List.Nodup
  exact List.Pairwise.imp (fun {a b} hab e => by rw [e, comesAt_irr] at hab; cases hab) h
theorem isCand.perm {ws : List Wd} {cmp : Bool} {p : List Nat} {m : Nat} {l : List Nat} (h : isCand ws cmp p m l) : l.Perm ((List.range m).filter (fitsCAt ws cmp p)) := by
  refine (List.perm_ext_iff_of_nodup h.1.nodup (List.Nodup.sublist List.filter_sublist List.nodup_range)).mpr (fun i => ?_)
  rw [h.2 i, List.mem_filter, List.mem_range]
theorem isCand.len {ws : List Wd} {cmp : Bool} {p : List Nat} {l : List Nat} (h : isCand ws cmp p ws.length l) : l.length = candN ws cmp p := by
  rw [candN, cnt_countP, List.countP_eq_length_filter]
  exact h.perm.length_eq
theorem srt_count {ws : List Wd} {n : Nat} : ∀ {l : List Nat}, srtC ws n l → ∀ {k i : Nat}, l[k]? = some i → l.countP (fun j => comesAt ws n j i) = k
  | [], _, k, i, hk => by simp at hk
  | x :: t, h, 0, i, hk => by
    simp at hk
    subst hk
    obtain ⟨h1, h2⟩ := List.pairwise_cons.mp h
    rw [List.countP_eq_zero]
    intro j hj
    rcases List.mem_cons.mp hj with z | z
    · rw [z, comesAt_irr]; decide
    · intro e
      have := comesAt_tr (h1 j z) e
      rw [comesAt_irr] at this
      cases this
  | x :: t, h, k + 1, i, hk => by
    rw [List.getElem?_cons_succ] at hk
    obtain ⟨h1, h2⟩ := List.pairwise_cons.mp h
    have := srt_count h2 hk
    rw [List.countP_cons, this, h1 i (List.mem_of_getElem? hk)]
    rfl
theorem isCand.at {ws : List Wd} {cmp : Bool} {p : List Nat} {l : List Nat} (h : isCand ws cmp p ws.length l) {k i : Nat} (hk : l[k]? = some i) : aheadC ws cmp p i = k := by
  have h1 := srt_count h.1 hk
  rw [← h1, aheadC, cnt_countP, h.perm.countP_eq, List.countP_filter]
  congr 1
  funext j
  exact Bool.and_comm _ _
/-- the candidate with a number: the word that this many candidates come before -/
def candAt (ws : List Wd) (cmp : Bool) (p : List Nat) (k : Nat) : Option Nat := (List.range ws.length).find? (fun i => fitsCAt ws cmp p i && aheadC ws cmp p i == k)
theorem isCand.candAt {ws : List Wd} {cmp : Bool} {p : List Nat} {l : List Nat} (h : isCand ws cmp p ws.length l) (k : Nat) : _root_.Jvm.Pilot.CKeypadWriterLaw_law_r4851_72e551.candAt ws cmp p k = l[k]? := by
  unfold Jvm.Pilot.CKeypadWriterLaw_law_r4851_72e551.candAt
  cases e : (List.range ws.length).find? (fun i => fitsCAt ws cmp p i && aheadC ws cmp p i == k) with
  | none =>
    rw [List.find?_eq_none] at e
    cases hk : l[k]? with
    | none => rfl
    | some i =>
      have h1 := (h.2 i).mp (List.mem_of_getElem? hk)
      have h2 := h.at hk
      have := e i (List.mem_range.mpr h1.1)
      rw [h1.2, h2] at this
      simp at this
  | some i =>
    have h1 := List.find?_some e
    have h2 := List.mem_range.mp (List.mem_of_find?_eq_some e)
    simp only [Bool.and_eq_true, beq_iff_eq] at h1
    obtain ⟨k', hk'⟩ := List.getElem?_of_mem ((h.2 i).mpr ⟨h2, h1.1⟩)
    have := h.at hk'
    rw [h1.2] at this
    rw [this, hk']
theorem fitsCAt_e {ws : List Wd} {cmp : Bool} {p : List Nat} {i : Nat} {q : Wd} (hi : ws[i]? = some q) : fitsCAt ws cmp p i = fitsC cmp p q := by
  unfold fitsCAt
  rw [hi]
/-- the class's search: the state's words, whether completing, the places -/
def R5s (clock ageing : Int32) (cmp tap : Bool) (pend : Int32) (p : List Nat) (cho opn : Int32) : T5s := (clock, ageing, b01 cmp, b01 tap, pend, pk p, cho, opn)
theorem find_0 {ws : List Wd} {w : T5} (hR6 : R6 ws w.1) (ho : okWs ws) {cmp : Bool} {p : List Nat} (hp : okP p) (hc : w.2.2.2.2.1 = b01 cmp) (hpr : w.2.2.2.2.2.2.2.1 = pk p) (w0 : T0) : ∃ w' l, f_X0_find w0 w = some w' ∧ R0 l w' ∧ (if p = [] then l = [] else isCand ws cmp p ws.length l) ∧ l.length ≤ 50 := by
  have hl := ho.1
  have hpl := hp.1
  unfold f_X0_find f_X5_places
  rw [hpr, lengthOf_pk hp.c, Option.bind_some, Option.bind_some, hR6.1, hc]
  by_cases e0 : p = []
  · subst e0
    rw [if_pos (show nI ([] : List Nat).length = 0 from by decide)]
    exact ⟨_, [], rfl, ⟨rfl, fun k i h => by simp at h⟩, by rw [if_pos rfl], Nat.zero_le _⟩
  · have hp0 : 0 < p.length := List.length_pos_iff.mpr e0
    rw [if_neg (nI_ne0 hp0 (by omega))]
    obtain ⟨w', h1, l, h2, h3, h4⟩ := lp_inv (body := fun (v3 : Int32 × T0) => (if nI ws.length ≤ v3.1 then (some (.inr v3.2)) else Option.bind (α := Int64) (f_X6_wordAt w.1 v3.1) (fun x6 => Option.bind (α := Int32) (f_X4_has x6 (nI p.length)) (fun x7 => (if b01 cmp = 0 then (if x7 = 0 then Option.bind (α := Int32) (f_X6_beginsWith w.1 v3.1 (pk p)) (fun x13 => (if x13 = 0 then (some (.inl ((v3.1 + 1), v3.2))) else Option.bind (α := T0) (f_X0_insert v3.2 w.1 v3.1 (nI p.length)) (fun x15 => (some (.inl ((v3.1 + 1), x15)))))) else (some (.inl ((v3.1 + 1), v3.2)))) else Option.bind (α := Int32) (f_X6_beginsWith w.1 v3.1 (pk p)) (fun x9 => (if x9 = 0 then (some (.inl ((v3.1 + 1), v3.2))) else Option.bind (α := T0) (f_X0_insert v3.2 w.1 v3.1 (nI p.length)) (fun x11 => (some (.inl ((v3.1 + 1), x11)))))))))))
      (s0 := (0, (w0.1, 0))) (fun j v => v.1 = nI j ∧ ∃ l, R0 l v.2 ∧ isCand ws cmp p j l ∧ l.length ≤ j) (fun r => ∃ l, R0 l r ∧ isCand ws cmp p ws.length l ∧ l.length ≤ ws.length) ws.length ⟨nI_0.symm, [], ⟨rfl, fun k i h => by simp at h⟩, ⟨List.Pairwise.nil, fun i => by simp⟩, Nat.le_refl _⟩
      (fun j v hj hv => by
        obtain ⟨v1, l, v2, v3, v4⟩ := hv
        obtain ⟨q, hq⟩ := get_of_lt hj
        have e1 : (cdL q.1).length = q.1.length := by simp [cdL]
        rw [v1, if_neg (nI_ge hj (by omega)), wordAt_6 hR6 hl hq, Option.bind_some, has_nI (ho.wd hq).1.cd (by omega), Option.bind_some, begins_6 hR6 ho hq hp, Option.bind_some, e1, nI_1]
        have hstay : fitsCAt ws cmp p j = false → isCand ws cmp p (j + 1) l := fun hf => ⟨v3.1, fun i => by
          rw [v3.2 i]
          constructor
          · exact fun h => ⟨by omega, h.2⟩
          · rintro ⟨h1, h2⟩
            refine ⟨?_, h2⟩
            by_cases e : i = j
            · rw [e, hf] at h2; cases h2
            · omega⟩
        have hput : fitsCAt ws cmp p j = true → ∃ x', f_X0_insert v.2 w.1 (nI j) (nI p.length) = some x' ∧ ∃ l', R0 l' x' ∧ isCand ws cmp p (j + 1) l' ∧ l'.length ≤ j + 1 := fun hf => by
          obtain ⟨x', A, B, k1, k2, k3, k4⟩ := cinsert_0 hR6 ho v2 (by omega) (show p.length < 2 ^ 31 by omega) hj (fun i hi => by
            have := (v3.2 i).mp hi
            exact ⟨by omega, by omega⟩) v3.1
          refine ⟨x', k2, _, k3, ⟨k4, fun i => ?_⟩, ?_⟩
          · have hm := v3.2 i
            rw [k1, List.mem_append] at hm
            rw [List.mem_append, List.mem_cons]
            constructor
            · rintro (h | h | h)
              · have := hm.mp (Or.inl h); exact ⟨by omega, this.2⟩
              · rw [h]; exact ⟨by omega, hf⟩
              · have := hm.mp (Or.inr h); exact ⟨by omega, this.2⟩
            · rintro ⟨h1, h2⟩
              by_cases e : i = j
              · exact Or.inr (Or.inl e)
              · rcases hm.mpr ⟨by omega, h2⟩ with h | h
                · exact Or.inl h
                · exact Or.inr (Or.inr h)
          · have : l.length = A.length + B.length := by rw [k1, List.length_append]
            simp; omega
        have ef : fitsCAt ws cmp p j = ((cmp || !decide (p.length < q.1.length)) && fitsB q.1 p) := by rw [fitsCAt_e hq]; rfl
        cases hcm : cmp with
        | false =>
          rw [hcm] at hstay hput ef
          rw [if_pos (show b01 false = 0 from rfl)]
          by_cases hlo : p.length < q.1.length
          · rw [if_pos hlo, if_neg (by decide)]
            exact ⟨_, rfl, rfl, l, v2, hcm ▸ hstay (by rw [ef]; simp [hlo]), by omega⟩
          · rw [if_neg hlo, if_pos rfl]
            cases hfb : fitsB q.1 p with
            | false =>
              rw [if_pos (show b01 false = 0 from rfl)]
              exact ⟨_, rfl, rfl, l, v2, hcm ▸ hstay (by rw [ef, hfb]; simp), by omega⟩
            | true =>
              rw [if_neg (show ¬ b01 true = 0 from by decide)]
              obtain ⟨x', k1, l', k2, k3, k4⟩ := hput (by rw [ef, hfb]; simp [hlo])
              rw [k1, Option.bind_some]
              exact ⟨_, rfl, rfl, l', k2, hcm ▸ k3, k4⟩
        | true =>
          rw [hcm] at hstay hput ef
          rw [if_neg (show ¬ b01 true = 0 from by decide)]
          cases hfb : fitsB q.1 p with
          | false =>
            rw [if_pos (show b01 false = 0 from rfl)]
            exact ⟨_, rfl, rfl, l, v2, hcm ▸ hstay (by rw [ef, hfb]; simp), by omega⟩
          | true =>
            rw [if_neg (show ¬ b01 true = 0 from by decide)]
            obtain ⟨x', k1, l', k2, k3, k4⟩ := hput (by rw [ef, hfb]; simp)
            rw [k1, Option.bind_some]
            exact ⟨_, rfl, rfl, l', k2, hcm ▸ k3, k4⟩)
      (fun v hv => by
        obtain ⟨v1, l, v2, v3, v4⟩ := hv
        rw [v1, if_pos (nI_le (Nat.le_refl _) (by omega))]
        exact ⟨_, rfl, l, v2, v3, v4⟩) (fuel := 5000) (by omega)
    rw [h1]
    exact ⟨w', l, rfl, h2, by rw [if_neg e0]; exact h3, by omega⟩
