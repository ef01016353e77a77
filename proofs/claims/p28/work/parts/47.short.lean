/-! ===== how few presses make a word the first candidate ===== -/
/-- the first number below n where it holds -/
def fstN (p : Nat → Bool) : Nat → Option Nat
  | 0 => none
  | n + 1 => match fstN p n with
    | some j => some j
    | none => if p n then some n else none
theorem fstN_none {p : Nat → Bool} : ∀ {n : Nat}, fstN p n = none → ∀ i, i < n → p i = false
  | 0, _, i, hi => by omega
  | n + 1, h, i, hi => by
    unfold fstN at h
    cases e : fstN p n with
    | some j => rw [e] at h; cases h
    | none =>
      rw [e] at h
      dsimp only at h
      by_cases hi2 : i = n
      · subst hi2
        cases hp : p i with
        | false => rfl
        | true => rw [hp, if_pos rfl] at h; cases h
      · exact fstN_none e i (by omega)
theorem fstN_some {p : Nat → Bool} : ∀ {n k : Nat}, fstN p n = some k → k < n ∧ p k = true ∧ ∀ i, i < k → p i = false
  | 0, k, h => by cases h
  | n + 1, k, h => by
    unfold fstN at h
    cases e : fstN p n with
    | some j =>
      rw [e] at h
      cases h
      obtain ⟨h1, h2, h3⟩ := fstN_some e
      exact ⟨by omega, h2, h3⟩
    | none =>
      rw [e] at h
      dsimp only at h
      cases hp : p n with
      | false => rw [hp, if_neg (by decide)] at h; cases h
      | true =>
        rw [hp, if_pos rfl] at h
        cases h
        exact ⟨by omega, hp, fstN_none e⟩
/-- whether a word begins with the first n keys of another -/
def begK (ws : List Wd) (k n o : Nat) : Bool := match ws[o]?, ws[k]? with
  | some a, some b => fitsB a.1 ((cdK b.1).take n)
  | _, _ => false
/-- whether word k is the first candidate behind its first n keys -/
def firstB (ws : List Wd) (k n : Nat) : Bool := allB (fun o => !(o != k && begK ws k n o) || comesAt ws n k o) ws.length
def shortI (ws : List Wd) (k : Nat) (q : Wd) : Int32 := match fstN (fun j => firstB ws k (j + 1)) q.1.length with
  | some j => nI (j + 1)
  | none => -1
/-- the best of the first j words that begin so -/
def bestN (ws : List Wd) (n : Nat) (p : Nat → Bool) : Nat → Option Nat
  | 0 => none
  | j + 1 => if p j then (match bestN ws n p j with
    | none => some j
    | some b => if comesAt ws n j b then some j else some b) else bestN ws n p j
theorem bestN_none {ws : List Wd} {n : Nat} {p : Nat → Bool} : ∀ {m : Nat}, bestN ws n p m = none → ∀ i, i < m → p i = false
  | 0, _, i, hi => by omega
  | m + 1, h, i, hi => by
    unfold bestN at h
    cases hp : p m with
    | true =>
      rw [hp, if_pos rfl] at h
      split at h
      · cases h
      · split at h <;> cases h
    | false =>
      rw [hp, if_neg (by decide)] at h
      by_cases e : i = m
      · rw [e]; exact hp
      · exact bestN_none h i (by omega)
theorem bestN_some {ws : List Wd} (ho : okWs ws) {n : Nat} {p : Nat → Bool} : ∀ {m b : Nat}, m ≤ ws.length → bestN ws n p m = some b → b < m ∧ p b = true ∧ ∀ i, i < m → i ≠ b → p i = true → comesAt ws n b i = true
  | 0, b, _, h => by cases h
  | m + 1, b, hm, h => by
    unfold bestN at h
    cases hp : p m with
    | true =>
      rw [hp, if_pos rfl] at h
      cases e : bestN ws n p m with
      | none =>
        rw [e] at h
        cases h
        refine ⟨by omega, hp, fun i hi hne hpi => ?_⟩
        have := bestN_none e i (by omega)
        rw [this] at hpi; cases hpi
      | some c =>
        rw [e] at h
        dsimp only at h
        obtain ⟨h1, h2, h3⟩ := bestN_some ho (by omega) e
        cases hc : comesAt ws n m c with
        | true =>
          rw [hc, if_pos rfl] at h
          cases h
          refine ⟨by omega, hp, fun i hi hne hpi => ?_⟩
          by_cases ei : i = c
          · rw [ei]; exact hc
          · exact comesAt_tr hc (h3 i (by omega) ei hpi)
        | false =>
          rw [hc, if_neg (by decide)] at h
          cases h
          refine ⟨by omega, h2, fun i hi hne hpi => ?_⟩
          by_cases ei : i = m
          · rw [ei]; exact comesAt_tot ho (by omega) (by omega) (by omega) hc
          · exact h3 i (by omega) hne hpi
    | false =>
      rw [hp, if_neg (by decide)] at h
      obtain ⟨h1, h2, h3⟩ := bestN_some ho (by omega) h
      refine ⟨by omega, h2, fun i hi hne hpi => ?_⟩
      by_cases ei : i = m
      · rw [ei, hp] at hpi; cases hpi
      · exact h3 i (by omega) hne hpi
section S6
variable {ws : List Wd} {w : T6}
theorem okK {l : List Nat} (h : okL l) (n : Nat) : okP ((cdK l).take n) := ⟨by have := h.ck.1; simp; omega, fun c hc => by
  obtain ⟨a, ha, rfl⟩ := List.mem_map.mp (List.mem_of_mem_take hc)
  have := keyN_rng a (h.2 a ha)
  omega⟩
theorem firstWith_0 (hR : R6 ws w) (ho : okWs ws) {p : List Nat} (hp : okP p) : f_X0_firstWith w (pk p) = some (idxI (bestN ws p.length (fun j => match ws[j]? with | some a => fitsB a.1 p | none => false) ws.length)) := by
  have hl := ho.1
  have hpl := hp.1
  unfold f_X0_firstWith
  rw [lengthOf_pk hp.c, Option.bind_some]
  refine lp_go (fun j => (idxI (bestN ws p.length (fun j => match ws[j]? with | some a => fitsB a.1 p | none => false) j), nI j)) ws.length _ (by rw [bestN, nI_0]; rfl) (fun j hj => ?_) ?_ (by omega)
  · obtain ⟨a, ha⟩ := get_of_lt hj
    have eb : bestN ws p.length (fun j => match ws[j]? with | some a => fitsB a.1 p | none => false) (j + 1) = if fitsB a.1 p then (match bestN ws p.length (fun j => match ws[j]? with | some a => fitsB a.1 p | none => false) j with | none => some j | some b => if comesAt ws p.length j b then some j else some b) else bestN ws p.length (fun j => match ws[j]? with | some a => fitsB a.1 p | none => false) j := by
      conv => lhs; unfold bestN
      simp only [ha]
    dsimp only
    rw [hR.1, if_neg (nI_ge hj (by omega)), begins_6 hR ho ha hp, Option.bind_some, nI_1, eb]
    cases hf : fitsB a.1 p with
    | false => rw [if_pos (show b01 false = 0 from rfl), if_neg (by decide)]
    | true =>
      rw [if_neg (show ¬ b01 true = 0 from by decide), if_pos rfl]
      cases hb : bestN ws p.length (fun j => match ws[j]? with | some a => fitsB a.1 p | none => false) j with
      | none => rfl
      | some b =>
        have hbl := (bestN_some ho (by omega) hb).1
        dsimp only
        rw [if_neg (idxI_some (by omega))]
        have hcb : f_X0_comesBefore w (nI j) (idxI (some b)) (nI p.length) = some (b01 (comesAt ws p.length j b)) := comes_0 hR ho (by omega) hj (by omega)
        rw [hcb, Option.bind_some]
        cases comesAt ws p.length j b <;> rfl
  · dsimp only
    rw [hR.1, if_pos (nI_le (Nat.le_refl _) (by omega))]
theorem fits_own {l : List Nat} {n : Nat} (hn : n ≤ l.length) : fitsB l ((cdK l).take n) = true := by
  unfold fitsB
  rw [allB_iff]
  intro i hi
  have hi2 : i < n := by simp at hi; omega
  unfold fitAt
  rw [decide_eq_true (show i < l.length by omega)]
  have : ((cdK l).take n).getD i 0 = 30 + keyN (l.getD i 0) := by
    rw [← cdK_get (show i < l.length by omega), List.getD_eq_getElem?_getD, List.getElem?_take, if_pos hi2, List.getD_eq_getElem?_getD]
  rw [this]
  simp
theorem first_iff (ho : okWs ws) {k n : Nat} {q : Wd} (hk : ws[k]? = some q) (hn : n ≤ q.1.length) : bestN ws n (begK ws k n) ws.length = some k ↔ firstB ws k n = true := by
  have hkl := lt_of_get hk
  have hown : begK ws k n k = true := by
    unfold begK
    rw [hk]
    exact fits_own hn
  unfold firstB
  rw [allB_iff]
  constructor
  · intro h o ho2
    obtain ⟨h1, h2, h3⟩ := bestN_some ho (Nat.le_refl _) h
    by_cases e : o = k
    · simp [e]
    · cases hb : begK ws k n o with
      | false => simp
      | true => rw [h3 o ho2 e hb]; simp
  · intro h
    cases hb : bestN ws n (begK ws k n) ws.length with
    | none =>
      have := bestN_none hb k hkl
      rw [hown] at this; cases this
    | some b =>
      obtain ⟨h1, h2, h3⟩ := bestN_some ho (Nat.le_refl _) hb
      by_cases e : b = k
      · rw [e]
      · have := h b h1
        simp only [h2, Bool.and_true, Bool.or_eq_true, Bool.not_eq_true', bne_eq_false_iff_eq, e, false_or] at this
        have h4 := h3 k hkl (fun z => e z.symm) hown
        have := comesAt_tr this h4
        rw [comesAt_irr] at this
        cases this
end S6
section OPS
variable {g : Sg} {x : T8} {ou : Nat → Int64}
def anShort (g : Sg) (a : Int32) : An := match wAt (sWs g.1) a with
  | none => (1, 0, g)
  | some k => match (sWs g.1)[k]? with
    | some q => (0, shortI (sWs g.1) k q, g)
    | none => (1, 0, g)
theorem shortest_8 (hR : R8 g x) (ho : okSg g) (a : Int32) : An8 (f_L_shortest x a ou) (anShort g a) := by
  obtain ⟨r1, r2, r3, r4⟩ := hR
  unfold anShort f_L_shortest
  rcases wAt_cases r3.1 ho.1.1.1 a with ⟨h1, h2⟩ | ⟨k, q, h1, rfl, h2⟩
  · rw [h1]
    exact An8U_l (k := 2) (by unfold f_X8_shortest; rw [h2, Option.bind_some, if_pos rfl]) rfl ⟨r1, r2, r3, r4⟩
  · rw [h1]
    dsimp only
    rw [h2]
    dsimp only
    have hq := (ho.1.1.wd h2).1
    have hql := hq.1
    have hkl := lt_of_get h2
    have hwl := ho.1.1.1
    have hkc : (cdK q.1).length = q.1.length := by simp [cdK]
    refine An8U_r ?_ ⟨r1, r2, r3, r4⟩
    unfold f_X8_shortest
    rw [has_6i r3.1 ho.1.1.1 h2, Option.bind_some, if_neg (by decide), keysAt_6 r3.1 ho.1.1.1 h2, Option.bind_some, lengthOf_pk hq.ck, Option.bind_some, hkc]
    have hfw : ∀ j, j < q.1.length → Option.bind (f_X4_firstOf (pk (cdK q.1)) (nI (1 + j))) (fun x8 => f_X0_firstWith x.2.2.1.1 x8) = some (idxI (bestN (sWs g.1) (1 + j) (begK (sWs g.1) k (1 + j)) (sWs g.1).length)) := by
      intro j hj
      have hn : ((cdK q.1).take (1 + j)).length = 1 + j := by simp; omega
      rw [firstOf_pk hq.ck (by omega), Option.bind_some, firstWith_0 r3.1 ho.1.1 (okK hq _), hn]
      have : (fun j_1 => match (sWs g.1)[j_1]? with | some a => fitsB a.1 ((cdK q.1).take (1 + j)) | none => false) = begK (sWs g.1) k (1 + j) := by
        funext o
        unfold begK
        rw [h2]
        cases (sWs g.1)[o]? <;> rfl
      rw [this]
    have hstep : ∀ j, j < q.1.length → (if nI q.1.length < nI (1 + j) then (some (.inr (.inr (-1))) : Option (Int32 ⊕ (Nat ⊕ Int32))) else Option.bind (f_X4_firstOf (pk (cdK q.1)) (nI (1 + j))) (fun x8 => Option.bind (f_X0_firstWith x.2.2.1.1 x8) (fun x9 => (if x9 = nI k then (some (.inr (.inr (nI (1 + j))))) else (some (.inl (nI (1 + j) + 1))))))) = if firstB (sWs g.1) k (j + 1) then some (.inr (.inr (nI (j + 1)))) else some (.inl (nI (1 + (j + 1)))) := by
      intro j hj
      have h5 := hfw j hj
      rw [firstOf_pk hq.ck (by omega), Option.bind_some] at h5 ⊢
      rw [if_neg (nI_nlt (by omega) (by omega)), h5, Option.bind_some]
      have hiff := first_iff ho.1.1 h2 (n := 1 + j) (by omega)
      have e1 : 1 + j = j + 1 := by omega
      by_cases hf : firstB (sWs g.1) k (j + 1) = true
      · rw [hiff.mpr (by rw [e1]; exact hf), if_pos (show idxI (some k) = nI k from rfl), if_pos hf, e1]
      · have hne : ¬ idxI (bestN (sWs g.1) (1 + j) (begK (sWs g.1) k (1 + j)) (sWs g.1).length) = nI k := fun z => by
          cases hb : bestN (sWs g.1) (1 + j) (begK (sWs g.1) k (1 + j)) (sWs g.1).length with
          | none =>
            rw [hb] at z
            exact nI_pos (n := k) (by omega) (by rw [← z]; decide)
          | some b =>
            rw [hb] at z
            have hbl := (bestN_some ho.1.1 (Nat.le_refl _) hb).1
            have := (nI_eq (a := b) (b := k) (by omega) (by omega)).mp z
            rw [this] at hb
            have := hiff.mp hb
            rw [e1] at this
            exact hf this
        rw [if_neg hne, if_neg hf, nI_1, show 1 + j + 1 = 1 + (j + 1) by omega]
    unfold shortI
    cases hs : fstN (fun j => firstB (sWs g.1) k (j + 1)) q.1.length with
    | none =>
      refine lp_go (fun j => nI (1 + j)) q.1.length _ (by decide) (fun j hj => ?_) ?_ (by omega)
      · rw [hstep j hj, fstN_none hs j hj, if_neg (by decide)]
      · rw [if_pos (nI_lt (by omega) (by omega))]
    | some j0 =>
      obtain ⟨s1, s2, s3⟩ := fstN_some hs
      refine lp_go (fun j => nI (1 + j)) j0 _ (by decide) (fun j hj => ?_) ?_ (by omega)
      · rw [hstep j (by omega), s3 j hj, if_neg (by decide)]
      · rw [hstep j0 s1, s2, if_pos rfl]
end OPS
