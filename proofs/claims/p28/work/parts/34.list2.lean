/-! ===== the word list: looks, costs ===== -/
/-- the number of the word with these letters -/
def findN (ws : List Wd) (l : List Nat) : Option Nat := ws.findIdx? (fun q => q.1 == l)
def idxI : Option Nat → Int32
  | some k => nI k
  | none => -1
def fitAt (l p : List Nat) (i : Nat) : Bool := decide (i < l.length) && (p.getD i 0 == l.getD i 0 + 1 || p.getD i 0 == 30 + keyN (l.getD i 0))
/-- whether a word begins with the places -/
def fitsB (l p : List Nat) : Bool := allB (fitAt l p) p.length
def sameK (a b : Wd) : Bool := cdK a.1 == cdK b.1
def sameKAt (ws : List Wd) (j k : Nat) : Bool := match ws[j]?, ws[k]? with
  | some a, some b => sameK a b
  | _, _ => false
def stepsN (ws : List Wd) (k : Nat) : Nat := cnt (fun j => sameKAt ws j k && aheadAt ws j k) ws.length
def tapAt (l : List Nat) (n : Nat) : Nat := tapN (l.getD n 0) + (if 0 < n ∧ keyN (l.getD n 0) = keyN (l.getD (n - 1) 0) then 1 else 0)
def tapsN (l : List Nat) : Nat → Nat
  | 0 => 0
  | n + 1 => tapsN l n + tapAt l n
def clashAt (ws : List Wd) (k : Nat) : Bool := !(allB (fun j => !(j != k && sameKAt ws j k)) ws.length)
def clashN (ws : List Wd) : Nat := cnt (clashAt ws) ws.length
theorem tapN_le : ∀ a, a < 26 → tapN a ≤ 4 := by decide
theorem tapAt_le {l : List Nat} (h : okL l) {n : Nat} (hn : n < l.length) : tapAt l n ≤ 5 := by
  have := tapN_le _ (getD_lt26 h hn)
  unfold tapAt
  split <;> omega
theorem tapsN_le {l : List Nat} (h : okL l) : ∀ {n : Nat}, n ≤ l.length → tapsN l n ≤ 5 * n
  | 0, _ => Nat.zero_le _
  | n + 1, hn => by
    have h1 := tapsN_le h (n := n) (by omega)
    have h2 := tapAt_le h (n := n) (by omega)
    show tapsN l n + tapAt l n ≤ _
    omega
theorem lp_first {ρ : Type} {body : Int32 → Option (Int32 ⊕ ρ)} (p : Nat → Bool) (n : Nat) (T : ρ) (F : Nat → ρ) (hb : ∀ i, i < n → body (nI i) = some (if p i then .inl (nI (i + 1)) else .inr (F i))) (he : body (nI n) = some (.inr T)) {fuel : Nat} (hf : n < fuel) : (allB p n = true ∧ lp body fuel 0 = some T) ∨ ∃ k, k < n ∧ p k = false ∧ (∀ i, i < k → p i = true) ∧ lp body fuel 0 = some (F k) := by
  cases e : allB p n with
  | true =>
    refine Or.inl ⟨rfl, lp_go (fun j => nI j) n _ nI_0.symm (fun j hj => ?_) ?_ hf⟩
    · rw [hb j hj, allB_iff.mp e j hj, if_pos rfl]
    · rw [he]
  | false =>
    obtain ⟨k, h1, h2, h3⟩ := allB_first e
    refine Or.inr ⟨k, h1, h2, h3, lp_go (fun j => nI j) k _ nI_0.symm (fun j hj => ?_) ?_ (by omega)⟩
    · rw [hb j (by omega), h3 j hj, if_pos rfl]
    · rw [hb k h1, h2, if_neg (by decide)]
section L6
variable {ws : List Wd} {w : T6}
theorem find_6 (hR : R6 ws w) (ho : okWs ws) {l : List Nat} (h : okL l) : f_X6_find w (pk (cdL l)) = some (idxI (findN ws l)) := by
  have hl := ho.1
  unfold f_X6_find
  have key : ∀ i, i < ws.length → ∃ q, ws[i]? = some q := fun i hi => get_of_lt hi
  have := lp_first (body := fun v1 => (if w.2.2.2.2.2 ≤ v1 then (some (.inr (-1))) else Option.bind (α := Int64) (f_X6_wordAt w v1) (fun x4 => (if x4 = pk (cdL l) then (some (.inr v1)) else (some (.inl (v1 + 1))))))) (fun i => match ws[i]? with | some q => !(q.1 == l) | none => true) ws.length (-1 : Int32) (fun i => nI i) (fun i hi => by
    obtain ⟨q, hq⟩ := key i hi
    rw [hR.1, if_neg (nI_ge hi (by omega)), wordAt_6 hR hl hq, Option.bind_some, nI_1]
    simp only [hq]
    by_cases e : q.1 = l
    · rw [if_pos (by rw [e])]; simp [e]
    · rw [if_neg (fun z => e ((pkL_inj (ho.wd hq).1 h).mp z))]; simp [e]) (by rw [hR.1, if_pos (nI_le (Nat.le_refl _) (by omega))]) (fuel := 5000) (by omega)
  rcases this with ⟨h1, h2⟩ | ⟨k, h1, h2, h3, h4⟩
  · rw [h2]
    have : findN ws l = none := by
      unfold findN
      rw [List.findIdx?_eq_none_iff]
      intro q hq
      obtain ⟨i, hi⟩ := List.getElem?_of_mem hq
      have := allB_iff.mp h1 i (lt_of_get hi)
      simp only [hi] at this
      simpa using this
    rw [this]; rfl
  · rw [h4]
    have : findN ws l = some k := by
      unfold findN
      rw [List.findIdx?_eq_some_iff_getElem]
      obtain ⟨q, hq⟩ := key k h1
      simp only [hq] at h2
      refine ⟨h1, ?_, fun j hj => ?_⟩
      · have e := (List.getElem?_eq_some_iff.mp hq).2
        rw [e]; simpa using h2
      · have hjl : j < ws.length := by omega
        have := h3 j hj
        simp only [List.getElem?_eq_getElem hjl] at this
        simpa using this
    rw [this]; rfl
theorem begins_6 (hR : R6 ws w) (ho : okWs ws) {k : Nat} {q : Wd} (hk : ws[k]? = some q) {p : List Nat} (hp : okP p) : f_X6_beginsWith w (nI k) (pk p) = some (b01 (fitsB q.1 p)) := by
  have hl := ho.1
  have hq := ho.wd hk
  have hpl := hp.1
  have hql := hq.1.1
  unfold f_X6_beginsWith
  rw [wordAt_6 hR hl hk, Option.bind_some, keysAt_6 hR hl hk, Option.bind_some]
  have e : b01 (fitsB q.1 p) = if allB (fitAt q.1 p) p.length then 1 else 0 := rfl
  rw [e]
  refine lp_all (fitAt q.1 p) p.length 1 0 (fun i hi => ?_) ?_ (by omega)
  · rw [if_neg (show ¬ (10 : Int32) ≤ nI i from fun z => by have := (nI_leI (a := 10) (b := i) (by omega) (by omega)).mp z; omega), codeAt_nI hp.c (by omega), Option.bind_some]
    have hc := getD_P hp hi
    rw [if_neg (nI_ne0 (by omega) (by omega)), codeAt_nI hq.1.cd (by omega), Option.bind_some, codeAt_nI hq.1.ck (by omega), Option.bind_some, nI_1]
    have l1 : (cdL q.1).getD i 0 < 64 := getD_lt64 hq.1.cd i
    have l2 : (cdK q.1).getD i 0 < 64 := getD_lt64 hq.1.ck i
    unfold fitAt
    by_cases hi2 : i < q.1.length
    · rw [cdL_get hi2] at l1 ⊢
      rw [cdK_get hi2] at l2 ⊢
      by_cases e1 : p.getD i 0 = q.1.getD i 0 + 1
      · rw [if_pos (by rw [e1]), decide_eq_true hi2, e1]; simp
      · rw [if_neg (fun z => e1 ((nI_eq (by omega) (by omega)).mp z))]
        by_cases e2 : p.getD i 0 = 30 + keyN (q.1.getD i 0)
        · rw [if_pos (by rw [e2]), decide_eq_true hi2, e2]; simp
        · rw [if_neg (fun z => e2 ((nI_eq (by omega) (by omega)).mp z)), beq_false_of_ne e1, beq_false_of_ne e2, decide_eq_true hi2]
          rfl
    · have n1 : (cdL q.1).getD i 0 = 0 := by rw [List.getD_eq_getElem?_getD, List.getElem?_eq_none (by simp [cdL]; omega)]; rfl
      have n2 : (cdK q.1).getD i 0 = 0 := by rw [List.getD_eq_getElem?_getD, List.getElem?_eq_none (by simp [cdK]; omega)]; rfl
      rw [n1, n2, if_neg (fun z => by have := (nI_eq (by omega) (by omega)).mp z; omega), if_neg (fun z => by have := (nI_eq (by omega) (by omega)).mp z; omega), decide_eq_false hi2]
      rfl
  · by_cases h10 : (10 : Int32) ≤ nI p.length
    · rw [if_pos h10]
    · rw [if_neg h10, codeAt_nI hp.c (by omega), Option.bind_some, List.getD_eq_getElem?_getD, List.getElem?_eq_none (Nat.le_refl _)]
      rfl
theorem sameKAt_e {j k : Nat} {a b : Wd} (hj : ws[j]? = some a) (hk : ws[k]? = some b) : sameKAt ws j k = sameK a b := by
  unfold sameKAt
  rw [hj, hk]
theorem sameK_iff {a b : Wd} (ha : okWd a) (hb : okWd b) : (pk (cdK a.1) = pk (cdK b.1)) ↔ sameK a b = true := by
  rw [pk_inj ha.1.ck hb.1.ck, sameK, beq_iff_eq]
theorem stepsTo_6 (hR : R6 ws w) (ho : okWs ws) {k : Nat} {b : Wd} (hk : ws[k]? = some b) : f_X6_stepsTo w (nI k) = some (nI (stepsN ws k)) := by
  have hl := ho.1
  unfold f_X6_stepsTo
  refine lp_count (fun j => sameKAt ws j k && aheadAt ws j k) ws.length (fun i c hi => ?_) (fun c => ?_) (by omega)
  · obtain ⟨a, ha⟩ := get_of_lt hi
    dsimp only
    rw [hR.1, if_neg (nI_ge hi (by omega)), keysAt_6 hR hl ha, Option.bind_some, keysAt_6 hR hl hk, Option.bind_some, ranks_6 hR ho ha hk, Option.bind_some, aheadAt_e ha hk, sameKAt_e ha hk, nI_1]
    by_cases e : sameK a b = true
    · rw [if_pos ((sameK_iff (ho.wd ha) (ho.wd hk)).mpr e), e]
      cases ahead a b <;> rfl
    · rw [if_neg (fun z => e ((sameK_iff (ho.wd ha) (ho.wd hk)).mp z)), (Bool.not_eq_true _).mp e]
      rfl
  · dsimp only
    rw [hR.1, if_pos (nI_le (Nat.le_refl _) (by omega))]
theorem stepsN_le (k : Nat) : stepsN ws k ≤ ws.length := cnt_le _ _
theorem guesses_6 (hR : R6 ws w) (ho : okWs ws) {k : Nat} {b : Wd} (hk : ws[k]? = some b) : f_X6_guessesFor w (nI k) = some (nI (b.1.length + stepsN ws k)) := by
  unfold f_X6_guessesFor
  rw [wordAt_6 hR ho.1 hk, Option.bind_some, lengthOf_pk (ho.wd hk).1.cd, Option.bind_some, stepsTo_6 hR ho hk, Option.bind_some, nI_add]
  simp [cdL]
theorem taps_6 (hR : R6 ws w) (ho : okWs ws) {k : Nat} {b : Wd} (hk : ws[k]? = some b) : f_X6_tapsFor w (nI k) = some (nI (tapsN b.1 b.1.length)) := by
  have hb := (ho.wd hk).1
  have hbl := hb.1
  have e1 : (cdL b.1).length = b.1.length := by simp [cdL]
  unfold f_X6_tapsFor
  rw [wordAt_6 hR ho.1 hk, Option.bind_some, keysAt_6 hR ho.1 hk, Option.bind_some, lengthOf_pk hb.cd, Option.bind_some, e1]
  refine lp_go (fun j => (nI (tapsN b.1 j), nI j)) b.1.length _ (by rw [tapsN, nI_0]) (fun j hj => ?_) ?_ (by omega)
  · dsimp only
    rw [if_neg (nI_ge hj (by omega)), letterAt_nI hb hj, Option.bind_some, tapsOf_nI _ (getD_lt26 hb hj), Option.bind_some]
    have et : tapsN b.1 (j + 1) = tapsN b.1 j + tapAt b.1 j := rfl
    rw [et]
    unfold tapAt
    by_cases h0 : j = 0
    · subst h0
      rw [if_pos (by decide), nI_add, nI_1, if_neg (by omega)]
      rfl
    · rw [if_neg (nI_nle (by omega) (by omega)), codeAt_nI hb.ck (by omega), Option.bind_some]
      have ej : nI j - 1 = nI (j - 1) := nI_sub j 1 (by omega)
      rw [ej, codeAt_nI hb.ck (by omega), Option.bind_some, cdK_get hj, cdK_get (show j - 1 < b.1.length by omega)]
      have k1 := keyN_rng _ (getD_lt26 hb hj)
      have k2 := keyN_rng _ (getD_lt26 hb (show j - 1 < b.1.length by omega))
      by_cases e : keyN (b.1.getD j 0) = keyN (b.1.getD (j - 1) 0)
      · rw [if_pos (by rw [e]), if_pos ⟨by omega, e⟩, nI_add, nI_1, nI_1]
        rfl
      · rw [if_neg (fun z => e (by have := (nI_eq (by omega) (by omega)).mp z; omega)), if_neg (fun z => e z.2), nI_add, nI_1]
        rfl
  · dsimp only
    rw [if_pos (nI_le (Nat.le_refl _) (by omega))]
theorem shares_6 (hR : R6 ws w) (ho : okWs ws) {k : Nat} {b : Wd} (hk : ws[k]? = some b) : f_X6_sharesKeys w (nI k) = some (b01 (clashAt ws k)) := by
  have hl := ho.1
  have hkl := lt_of_get hk
  unfold f_X6_sharesKeys
  have e : b01 (clashAt ws k) = if allB (fun j => !(j != k && sameKAt ws j k)) ws.length then (0 : Int32) else 1 := by
    unfold clashAt b01
    cases allB (fun j => !(j != k && sameKAt ws j k)) ws.length <;> rfl
  rw [e]
  refine lp_all (fun j => !(j != k && sameKAt ws j k)) ws.length 0 1 (fun i hi => ?_) ?_ (by omega)
  · obtain ⟨a, ha⟩ := get_of_lt hi
    rw [hR.1, if_neg (nI_ge hi (by omega)), nI_1]
    by_cases e1 : i = k
    · subst e1
      rw [if_pos rfl]
      simp
    · rw [if_neg (fun z => e1 ((nI_eq (by omega) (by omega)).mp z)), keysAt_6 hR hl ha, Option.bind_some, keysAt_6 hR hl hk, Option.bind_some, sameKAt_e ha hk]
      by_cases e2 : sameK a b = true
      · rw [if_pos ((sameK_iff (ho.wd ha) (ho.wd hk)).mpr e2), e2]
        simp [e1]
      · rw [if_neg (fun z => e2 ((sameK_iff (ho.wd ha) (ho.wd hk)).mp z)), (Bool.not_eq_true _).mp e2]
        simp
  · rw [hR.1, if_pos (nI_le (Nat.le_refl _) (by omega))]
theorem clashes_6 (hR : R6 ws w) (ho : okWs ws) : f_X6_clashes w = some (nI (clashN ws)) := by
  have hl := ho.1
  unfold f_X6_clashes
  refine lp_count (clashAt ws) ws.length (fun i c hi => ?_) (fun c => ?_) (by omega)
  · obtain ⟨a, ha⟩ := get_of_lt hi
    dsimp only
    rw [hR.1, if_neg (nI_ge hi (by omega)), shares_6 hR ho ha, Option.bind_some, nI_1]
    cases clashAt ws i <;> rfl
  · dsimp only
    rw [hR.1, if_pos (nI_le (Nat.le_refl _) (by omega))]
end L6
