/-! ===== loops by their roads ===== -/
def allB (p : Nat → Bool) : Nat → Bool
  | 0 => true
  | n + 1 => allB p n && p n
def cnt (p : Nat → Bool) : Nat → Nat
  | 0 => 0
  | n + 1 => cnt p n + (if p n then 1 else 0)
def foldN {α : Type} (g : Nat → α → α) (a : α) : Nat → α
  | 0 => a
  | n + 1 => g n (foldN g a n)
theorem allB_iff {p : Nat → Bool} : ∀ {n : Nat}, allB p n = true ↔ ∀ i, i < n → p i = true
  | 0 => by simp [allB]
  | n + 1 => by
    simp only [allB, Bool.and_eq_true, allB_iff (n := n)]
    constructor
    · rintro ⟨h1, h2⟩ i hi
      by_cases e : i = n
      · rw [e]; exact h2
      · exact h1 i (by omega)
    · exact fun h => ⟨fun i hi => h i (by omega), h n (by omega)⟩
theorem cnt_succ (p : Nat → Bool) (n : Nat) : cnt p (n + 1) = cnt p n + (if p n then 1 else 0) := rfl
theorem cnt_le (p : Nat → Bool) : ∀ n, cnt p n ≤ n
  | 0 => Nat.le_refl _
  | n + 1 => by
    have := cnt_le p n
    unfold cnt
    split <;> omega
theorem cnt_congr {p q : Nat → Bool} : ∀ {n : Nat}, (∀ i, i < n → p i = q i) → cnt p n = cnt q n
  | 0, _ => rfl
  | n + 1, h => by
    unfold cnt
    rw [cnt_congr (fun i hi => h i (by omega)), h n (by omega)]
theorem allB_congr {p q : Nat → Bool} {n : Nat} (h : ∀ i, i < n → p i = q i) : allB p n = allB q n := by
  rw [Bool.eq_iff_iff, allB_iff, allB_iff]
  exact ⟨fun k i hi => by rw [← h i hi]; exact k i hi, fun k i hi => by rw [h i hi]; exact k i hi⟩
/-- the first place where it fails -/
theorem allB_first {p : Nat → Bool} : ∀ {n : Nat}, allB p n = false → ∃ k, k < n ∧ p k = false ∧ ∀ i, i < k → p i = true
  | 0, h => by cases h
  | n + 1, h => by
    cases e : allB p n with
    | false =>
      obtain ⟨k, h1, h2, h3⟩ := allB_first e
      exact ⟨k, by omega, h2, h3⟩
    | true =>
      refine ⟨n, by omega, ?_, allB_iff.mp e⟩
      simpa [allB, e] using h
theorem lp_all {ρ : Type} {body : Int32 → Option (Int32 ⊕ ρ)} (p : Nat → Bool) (n : Nat) (T F : ρ) (hb : ∀ i, i < n → body (nI i) = some (if p i then .inl (nI (i + 1)) else .inr F)) (he : body (nI n) = some (.inr T)) {fuel : Nat} (hf : n < fuel) : lp body fuel 0 = some (if allB p n then T else F) := by
  cases e : allB p n with
  | true =>
    refine lp_go (fun j => nI j) n _ nI_0.symm (fun j hj => ?_) ?_ hf
    · rw [hb j hj, allB_iff.mp e j hj, if_pos rfl]
    · rw [he, if_pos rfl]
  | false =>
    obtain ⟨k, h1, h2, h3⟩ := allB_first e
    refine lp_go (fun j => nI j) k _ nI_0.symm (fun j hj => ?_) ?_ (by omega)
    · rw [hb j (by omega), h3 j hj, if_pos rfl]
    · rw [hb k h1, h2, if_neg (by decide), if_neg (by decide)]
theorem lp_count {body : Int32 × Int32 → Option ((Int32 × Int32) ⊕ Int32)} (p : Nat → Bool) (n : Nat) (hb : ∀ i c, i < n → body (c, nI i) = some (.inl (if p i then c + 1 else c, nI (i + 1)))) (he : ∀ c, body (c, nI n) = some (.inr c)) {fuel : Nat} (hf : n < fuel) : lp body fuel (0, 0) = some (nI (cnt p n)) := by
  refine lp_go (fun j => (nI (cnt p j), nI j)) n _ (by rw [cnt, nI_0]) (fun j hj => ?_) (he _) hf
  rw [hb j _ hj, cnt_succ]
  cases p j with
  | true => rw [if_pos rfl, if_pos rfl, nI_1]
  | false => simp only [Bool.false_eq_true, if_false, Nat.add_zero]
theorem lp_foldN {α ρ : Type} {body : α × Int32 → Option ((α × Int32) ⊕ ρ)} (g : Nat → α → α) (a : α) (n : Nat) (r : ρ) (hb : ∀ i, i < n → body (foldN g a i, nI i) = some (.inl (g i (foldN g a i), nI (i + 1)))) (he : body (foldN g a n, nI n) = some (.inr r)) {fuel : Nat} (hf : n < fuel) : lp body fuel (a, 0) = some r :=
  lp_go (fun j => (foldN g a j, nI j)) n _ (by rw [foldN, nI_0]) (fun j hj => hb j hj) he hf
/-! ===== the word list ===== -/
/-- a word: its letters, its count, its time, whether it was added -/
abbrev Wd := List Nat × Nat × Int32 × Bool
def b01 (b : Bool) : Int32 := if b then 1 else 0
theorem b01_0 {b : Bool} : b01 b = 0 ↔ b = false := by cases b <;> decide
def okWd (q : Wd) : Prop := okL q.1 ∧ 0 < q.1.length ∧ q.2.1 ≤ 999 ∧ (q.2.2.2 = true → 1 ≤ q.2.1)
def okWs (ws : List Wd) : Prop := ws.length ≤ 50 ∧ (∀ q ∈ ws, okWd q) ∧ ∀ (i j : Nat) (p q : Wd), ws[i]? = some p → ws[j]? = some q → p.1 = q.1 → i = j
def R6 (ws : List Wd) (w : T6) : Prop := w.2.2.2.2.2 = nI ws.length ∧ ∀ (k : Nat) (q : Wd), ws[k]? = some q → w.1 k = pk (cdL q.1) ∧ w.2.1 k = pk (cdK q.1) ∧ w.2.2.1 k = nI q.2.1 ∧ w.2.2.2.1 k = q.2.2.1 ∧ w.2.2.2.2.1 k = b01 q.2.2.2
theorem okWs.wd {ws : List Wd} (h : okWs ws) {k : Nat} {q : Wd} (hk : ws[k]? = some q) : okWd q := h.2.1 q (List.mem_of_getElem? hk)
theorem lt_of_get {α : Type} {l : List α} {k : Nat} {q : α} (hk : l[k]? = some q) : k < l.length := (List.getElem?_eq_some_iff.mp hk).1
theorem get_of_lt {α : Type} {l : List α} {k : Nat} (hk : k < l.length) : ∃ q, l[k]? = some q := ⟨_, List.getElem?_eq_getElem hk⟩
def ahead (a b : Wd) : Bool := if a.2.1 = b.2.1 then (if a.2.2.1 = b.2.2.1 then lexLt a.1 b.1 else decide (b.2.2.1 < a.2.2.1)) else decide (b.2.1 < a.2.1)
def aheadAt (ws : List Wd) (j k : Nat) : Bool := match ws[j]?, ws[k]? with
  | some a, some b => ahead a b
  | _, _ => false
theorem lexLt_irr : ∀ (l : List Nat), lexLt l l = false
  | [] => rfl
  | a :: t => by simp [lexLt, lexLt_irr t]
theorem lexLt_cd : ∀ (l l' : List Nat), lexLt (cdL l) (cdL l') = lexLt l l'
  | [], [] => rfl
  | [], _ :: _ => rfl
  | _ :: _, [] => rfl
  | a :: s, b :: t => by
    have := lexLt_cd s t
    unfold cdL at this
    simp only [cdL, List.map_cons, lexLt, this, Nat.add_lt_add_iff_right]
theorem lexLt_tot : ∀ {l l' : List Nat}, lexLt l l' = false → lexLt l' l = false → l = l'
  | [], [], _, _ => rfl
  | [], _ :: _, h, _ => by cases h
  | _ :: _, [], _, h => by cases h
  | a :: s, b :: t, h, h' => by
    simp only [lexLt] at h h'
    by_cases h1 : a < b
    · simp [h1] at h
    · by_cases h2 : b < a
      · simp [h2] at h'
      · have e : a = b := by omega
        subst e
        simp only [Nat.lt_irrefl, if_false] at h h'
        rw [lexLt_tot h h']
theorem lexLt_tr : ∀ {a b c : List Nat}, lexLt a b = true → lexLt b c = true → lexLt a c = true
  | [], _, _ :: _, _, _ => rfl
  | [], [], [], h, _ => h
  | [], _ :: _, [], _, h => by cases h
  | _ :: _, [], _, h, _ => by cases h
  | _ :: _, _ :: _, [], _, h => by cases h
  | x :: a, y :: b, z :: c, h, h' => by
    simp only [lexLt] at h h' ⊢
    by_cases h1 : x < y
    · by_cases h2 : y < z
      · rw [if_pos (show x < z by omega)]
      · rw [if_neg h2] at h'
        by_cases h3 : z < y
        · rw [if_pos h3] at h'; cases h'
        · rw [if_pos (show x < z by omega)]
    · rw [if_neg h1] at h
      by_cases h3 : y < x
      · rw [if_pos h3] at h; cases h
      · rw [if_neg h3] at h
        have e : x = y := by omega
        subst e
        by_cases h2 : x < z
        · rw [if_pos h2]
        · rw [if_neg h2] at h' ⊢
          by_cases h4 : z < x
          · rw [if_pos h4] at h'; cases h'
          · rw [if_neg h4] at h' ⊢
            exact lexLt_tr h h'
theorem ahead_irr (a : Wd) : ahead a a = false := by simp [ahead, lexLt_irr]
theorem ahead_tr {a b c : Wd} (h : ahead a b = true) (h' : ahead b c = true) : ahead a c = true := by
  unfold ahead at *
  by_cases h1 : a.2.1 = b.2.1
  · rw [if_pos h1] at h
    by_cases h2 : b.2.1 = c.2.1
    · rw [if_pos h2] at h'
      rw [if_pos (h1.trans h2)]
      by_cases h3 : a.2.2.1 = b.2.2.1
      · rw [if_pos h3] at h
        by_cases h4 : b.2.2.1 = c.2.2.1
        · rw [if_pos h4] at h'
          rw [if_pos (h3.trans h4)]
          exact lexLt_tr h h'
        · rw [if_neg h4] at h'
          rw [h3, if_neg h4]
          exact h'
      · rw [if_neg h3] at h
        by_cases h4 : b.2.2.1 = c.2.2.1
        · rw [← h4, if_neg h3]
          exact h
        · rw [if_neg h4] at h'
          simp only [decide_eq_true_eq] at h h'
          have h5 : c.2.2.1 < a.2.2.1 := Int32.lt_trans h' h
          rw [if_neg (fun e => by rw [e] at h5; exact Int32.lt_irrefl h5)]
          simpa using h5
    · rw [if_neg h2] at h'
      rw [h1, if_neg h2]
      exact h'
  · rw [if_neg h1] at h
    simp only [decide_eq_true_eq] at h
    by_cases h2 : b.2.1 = c.2.1
    · rw [← h2, if_neg h1]
      simpa using h
    · rw [if_neg h2] at h'
      simp only [decide_eq_true_eq] at h'
      rw [if_neg (by omega)]
      simp only [decide_eq_true_eq]
      omega
theorem ahead_tot {a b : Wd} (h : ahead a b = false) (h' : ahead b a = false) : a.1 = b.1 := by
  unfold ahead at *
  by_cases h1 : a.2.1 = b.2.1
  · rw [if_pos h1] at h
    rw [if_pos h1.symm] at h'
    by_cases h3 : a.2.2.1 = b.2.2.1
    · rw [if_pos h3] at h
      rw [if_pos h3.symm] at h'
      exact lexLt_tot h h'
    · rw [if_neg h3] at h
      rw [if_neg (fun e => h3 e.symm)] at h'
      simp only [decide_eq_false_iff_not] at h h'
      exact absurd (Int32.le_antisymm (Int32.not_lt.mp h) (Int32.not_lt.mp h')) h3
  · rw [if_neg h1] at h
    rw [if_neg (fun e => h1 e.symm)] at h'
    simp only [decide_eq_false_iff_not] at h h'
    omega
section L6
variable {ws : List Wd} {w : T6}
theorem has_6 (hR : R6 ws w) (hl : ws.length ≤ 50) {k : Nat} (hk : k < 2 ^ 31) : f_X6_has w (nI k) = some (if k < ws.length then 1 else 0) := by
  unfold f_X6_has
  rw [if_neg (nI_pos hk), hR.1]
  by_cases h1 : k < ws.length
  · rw [if_neg (nI_ge h1 (by omega)), if_neg (show ¬ (50 : Int32) ≤ nI k from fun q => by have := (nI_leI (a := 50) (b := k) (by omega) hk).mp q; omega), if_pos h1]
  · rw [if_pos (nI_le (by omega) hk), if_neg h1]
theorem has_6n {a : Int32} (ha : a < 0) : f_X6_has w a = some 0 := by
  unfold f_X6_has
  rw [if_pos ha]
theorem has_6i (hR : R6 ws w) (hl : ws.length ≤ 50) {k : Nat} {q : Wd} (hk : ws[k]? = some q) : f_X6_has w (nI k) = some 1 := by
  have := lt_of_get hk
  rw [has_6 hR hl (by omega), if_pos this]
theorem wordAt_6 (hR : R6 ws w) (hl : ws.length ≤ 50) {k : Nat} {q : Wd} (hk : ws[k]? = some q) : f_X6_wordAt w (nI k) = some (pk (cdL q.1)) := by
  have := lt_of_get hk
  unfold f_X6_wordAt
  rw [has_6i hR hl hk, Option.bind_some, if_neg (by decide), rd_nI (by omega) (by omega), Option.bind_some, (hR.2 k q hk).1]
theorem wordAt_6n {a : Int32} (ha : a < 0) : f_X6_wordAt w a = some 0 := by
  unfold f_X6_wordAt
  rw [has_6n ha, Option.bind_some, if_pos rfl]
theorem keysAt_6 (hR : R6 ws w) (hl : ws.length ≤ 50) {k : Nat} {q : Wd} (hk : ws[k]? = some q) : f_X6_keysAt w (nI k) = some (pk (cdK q.1)) := by
  have := lt_of_get hk
  unfold f_X6_keysAt
  rw [has_6i hR hl hk, Option.bind_some, if_neg (by decide), rd_nI (by omega) (by omega), Option.bind_some, (hR.2 k q hk).2.1]
theorem countAt_6 (hR : R6 ws w) (hl : ws.length ≤ 50) {k : Nat} {q : Wd} (hk : ws[k]? = some q) : f_X6_countAt w (nI k) = some (nI q.2.1) := by
  have := lt_of_get hk
  unfold f_X6_countAt
  rw [has_6i hR hl hk, Option.bind_some, if_neg (by decide), rd_nI (by omega) (by omega), Option.bind_some, (hR.2 k q hk).2.2.1]
theorem timeAt_6 (hR : R6 ws w) (hl : ws.length ≤ 50) {k : Nat} {q : Wd} (hk : ws[k]? = some q) : f_X6_timeAt w (nI k) = some q.2.2.1 := by
  have := lt_of_get hk
  unfold f_X6_timeAt
  rw [has_6i hR hl hk, Option.bind_some, if_neg (by decide), rd_nI (by omega) (by omega), Option.bind_some, (hR.2 k q hk).2.2.2.1]
theorem isAdded_6 (hR : R6 ws w) (hl : ws.length ≤ 50) {k : Nat} {q : Wd} (hk : ws[k]? = some q) : f_X6_isAdded w (nI k) = some (b01 q.2.2.2) := by
  have := lt_of_get hk
  unfold f_X6_isAdded
  rw [has_6i hR hl hk, Option.bind_some, if_neg (by decide), rd_nI (by omega) (by omega), Option.bind_some, (hR.2 k q hk).2.2.2.2]
  cases q.2.2.2 <;> rfl
theorem ranks_6 (hR : R6 ws w) (ho : okWs ws) {j k : Nat} {a b : Wd} (hj : ws[j]? = some a) (hk : ws[k]? = some b) : f_X6_ranksBefore w (nI j) (nI k) = some (b01 (ahead a b)) := by
  have hl := ho.1
  have h1 := lt_of_get hj
  have h2 := lt_of_get hk
  have oa := ho.wd hj
  have ob := ho.wd hk
  obtain ⟨a1, -, a3, a4, -⟩ := hR.2 j a hj
  obtain ⟨b1, -, b3, b4, -⟩ := hR.2 k b hk
  unfold f_X6_ranksBefore
  rw [has_6i hR hl hj, Option.bind_some, if_neg (by decide), has_6i hR hl hk, Option.bind_some, if_neg (by decide)]
  rw [rd_nI (by omega) (by omega), rd_nI (by omega) (by omega), rd_nI (by omega) (by omega), rd_nI (by omega) (by omega), rd_nI (by omega) (by omega), rd_nI (by omega) (by omega)]
  simp only [Option.bind_some, a1, a3, a4, b1, b3, b4]
  have oa3 := oa.2.2.1
  have ob3 := ob.2.2.1
  unfold ahead
  by_cases e1 : a.2.1 = b.2.1
  · rw [if_pos (by rw [e1]), if_pos e1]
    by_cases e2 : a.2.2.1 = b.2.2.1
    · rw [if_pos e2, if_pos e2]
      have := pk_ltI oa.1.cd ob.1.cd
      rw [lexLt_cd] at this
      by_cases e3 : lexLt a.1 b.1 = true
      · rw [if_neg (Int64.not_le.mpr (this.mpr e3)), e3]; rfl
      · rw [if_pos (Int64.not_lt.mp (fun q => e3 (this.mp q))), (Bool.not_eq_true _).mp e3]; rfl
    · rw [if_neg e2, if_neg e2]
      by_cases e3 : b.2.2.1 < a.2.2.1
      · rw [if_neg (Int32.not_le.mpr e3), decide_eq_true e3]; rfl
      · rw [if_pos (Int32.not_lt.mp e3), decide_eq_false e3]; rfl
  · rw [if_neg (fun e => e1 ((nI_eq (by omega) (by omega)).mp e)), if_neg e1]
    by_cases e3 : b.2.1 < a.2.1
    · rw [if_neg (nI_ge e3 (by omega)), decide_eq_true e3]; rfl
    · rw [if_pos (nI_le (by omega) (by omega)), decide_eq_false e3]; rfl
def rankN (ws : List Wd) (k : Nat) : Nat := cnt (fun j => aheadAt ws j k) ws.length
theorem aheadAt_e {j k : Nat} {a b : Wd} (hj : ws[j]? = some a) (hk : ws[k]? = some b) : aheadAt ws j k = ahead a b := by
  unfold aheadAt
  rw [hj, hk]
theorem rankOf_6 (hR : R6 ws w) (ho : okWs ws) {k : Nat} {b : Wd} (hk : ws[k]? = some b) : f_X6_rankOf w (nI k) = some (nI (rankN ws k)) := by
  have hl := ho.1
  unfold f_X6_rankOf
  refine lp_count (fun j => aheadAt ws j k) ws.length (fun i c hi => ?_) (fun c => ?_) (by omega)
  · obtain ⟨a, ha⟩ := get_of_lt hi
    dsimp only
    rw [hR.1, if_neg (nI_ge hi (by omega)), ranks_6 hR ho ha hk, Option.bind_some, aheadAt_e ha hk, nI_1]
    cases ahead a b <;> rfl
  · dsimp only
    rw [hR.1, if_pos (nI_le (Nat.le_refl _) (by omega))]
end L6
