/-! ===== a list read from the text ===== -/
/-- the byte at a position; -1: none -/
def byI (tb : List Nat) (p : Nat) : Int32 := if p < tb.length then nI (tb.getD p 0) else -1
def inB (tb : List Nat) (lo hi p : Nat) : Bool := decide (p < tb.length) && decide (lo ≤ tb.getD p 0) && decide (tb.getD p 0 ≤ hi)
/-- how many bytes in a range stand one behind the other, at most m -/
def runN (tb : List Nat) (lo hi : Nat) : Nat → Nat → Nat
  | 0, _ => 0
  | m + 1, p => if inB tb lo hi p then runN tb lo hi m (p + 1) + 1 else 0
def letP (tb : List Nat) (p n : Nat) : List Nat := (List.range n).map (fun i => tb.getD (p + i) 0 - 97)
def numP (tb : List Nat) (p : Nat) : Nat → Nat
  | 0 => 0
  | n + 1 => 10 * numP tb p n + (tb.getD (p + n) 0 - 48)
theorem runN_le (tb : List Nat) (lo hi : Nat) : ∀ m p, runN tb lo hi m p ≤ m
  | 0, _ => Nat.le_refl _
  | m + 1, p => by
    have := runN_le tb lo hi m (p + 1)
    unfold runN
    split <;> omega
theorem runN_in {tb : List Nat} {lo hi : Nat} : ∀ {m p i : Nat}, i < runN tb lo hi m p → inB tb lo hi (p + i) = true
  | 0, p, i, h => by simp [runN] at h
  | m + 1, p, i, h => by
    unfold runN at h
    cases hb : inB tb lo hi p with
    | false => rw [hb, if_neg (by decide)] at h; omega
    | true =>
      rw [hb, if_pos rfl] at h
      cases i with
      | zero => exact hb
      | succ i =>
        have := runN_in (tb := tb) (lo := lo) (hi := hi) (m := m) (p := p + 1) (i := i) (by omega)
        rw [← this]; congr 1; omega
theorem runN_end {tb : List Nat} {lo hi : Nat} : ∀ {m p : Nat}, runN tb lo hi m p < m → inB tb lo hi (p + runN tb lo hi m p) = false
  | 0, p, h => by omega
  | m + 1, p, h => by
    unfold runN at h ⊢
    cases hb : inB tb lo hi p with
    | false => rw [if_neg (by decide)]; exact hb
    | true =>
      rw [hb, if_pos rfl] at h
      rw [if_pos rfl]
      have := runN_end (tb := tb) (lo := lo) (hi := hi) (m := m) (p := p + 1) (by omega)
      rw [← this]; congr 1; omega
/-- the reading's state: the text, and where it stands -/
def R2p (tb : List Nat) (p : Nat) (w : T2) : Prop := R2 tb w ∧ w.2.2 = nI p
section RD
variable {tb : List Nat} {w : T2} {p : Nat}
theorem byte_2 (hR : R2p tb p w) (hl : tb.length ≤ 150) (hp : p < 2 ^ 31) : f_X2_byteHere w = some (byI tb p) := by
  obtain ⟨⟨h1, h2⟩, h3⟩ := hR
  unfold f_X2_byteHere byI
  rw [h3, h1, if_neg (nI_pos hp)]
  by_cases e : p < tb.length
  · obtain ⟨b, hb⟩ := get_of_lt e
    rw [if_neg (nI_ge e (by omega)), if_neg (show ¬ (150 : Int32) ≤ nI p from nI_ge (a := p) (b := 150) (by omega) (by omega)), rd_nI (by omega) (by omega), Option.bind_some, if_pos e, h2 p b hb, List.getD_eq_getElem?_getD, hb]
    rfl
  · rw [if_pos (nI_le (by omega) hp), if_neg e]
theorem isHere_2 (hR : R2p tb p w) (hl : tb.length ≤ 150) (hb : ∀ b ∈ tb, b ≤ 127) (hp : p < 2 ^ 31) {lo hi : Nat} (hlo : lo < 2 ^ 31) (hhi : hi < 2 ^ 31) : f_X2_isHere w (nI lo) (nI hi) = some (b01 (inB tb lo hi p)) := by
  unfold f_X2_isHere
  rw [byte_2 hR hl hp, Option.bind_some]
  unfold byI inB
  by_cases e : p < tb.length
  · have hle : tb.getD p 0 ≤ 127 := by
      rw [List.getD_eq_getElem?_getD, List.getElem?_eq_getElem e]
      exact hb _ (List.getElem_mem e)
    rw [if_pos e, decide_eq_true e]
    by_cases e1 : tb.getD p 0 < lo
    · rw [if_pos (nI_lt e1 hlo), decide_eq_false (show ¬ lo ≤ tb.getD p 0 by omega)]
      rfl
    · rw [if_neg (nI_nlt (by omega) (by omega)), decide_eq_true (show lo ≤ tb.getD p 0 by omega)]
      by_cases e2 : hi < tb.getD p 0
      · rw [if_pos (nI_lt e2 (by omega)), decide_eq_false (show ¬ tb.getD p 0 ≤ hi by omega)]
        rfl
      · rw [if_neg (nI_nlt (by omega) hhi), decide_eq_true (show tb.getD p 0 ≤ hi by omega)]
        rfl
  · rw [if_neg e, decide_eq_false e, if_pos (show (-1 : Int32) < nI lo from Int32.lt_of_lt_of_le (by decide) (nI_pos' hlo))]
    rfl
theorem inB_lt {lo hi : Nat} (h : inB tb lo hi p = true) : p < tb.length ∧ lo ≤ tb.getD p 0 ∧ tb.getD p 0 ≤ hi := by
  unfold inB at h
  simp only [Bool.and_eq_true, decide_eq_true_eq] at h
  exact ⟨h.1.1, h.1.2, h.2⟩
theorem letP_ok {n : Nat} (hn : n ≤ 10) (h : ∀ i, i < n → inB tb 97 122 (p + i) = true) : okL (letP tb p n) := by
  refine ⟨by simp [letP]; omega, fun a ha => ?_⟩
  obtain ⟨i, hi, rfl⟩ := List.mem_map.mp ha
  have := inB_lt (h i (List.mem_range.mp hi))
  omega
theorem letP_snoc (j : Nat) : letP tb p (j + 1) = letP tb p j ++ [tb.getD (p + j) 0 - 97] := by
  unfold letP
  rw [List.range_succ, List.map_append]
  rfl
theorem word_2 (hR : R2p tb p w) (hl : tb.length ≤ 150) (hb : ∀ b ∈ tb, b ≤ 127) (hp : p ≤ 150) : ∃ r, f_X2_readWord w = some r ∧ r.1 = pk (cdL (letP tb p (runN tb 97 122 10 p))) ∧ R2p tb (p + runN tb 97 122 10 p) r.2 := by
  generalize hn : runN tb 97 122 10 p = n
  have hn10 : n ≤ 10 := by rw [← hn]; exact runN_le _ _ _ _ _
  have hin : ∀ i, i < n → inB tb 97 122 (p + i) = true := fun i hi => runN_in (m := 10) (by rw [hn]; exact hi)
  obtain ⟨⟨h1, h2⟩, h3⟩ := hR
  have hst : ∀ j, R2p tb (p + j) (w.1, w.2.1, nI (p + j)) := fun j => ⟨⟨h1, h2⟩, rfl⟩
  refine ⟨(pk (cdL (letP tb p n)), (w.1, w.2.1, nI (p + n))), ?_, rfl, hst n⟩
  unfold f_X2_readWord
  refine lp_go (fun j => (pk (cdL (letP tb p j)), nI j, (w.1, w.2.1, nI (p + j)))) n _ ?_ (fun j hj => ?_) ?_ (by omega)
  · have e0 : letP tb p 0 = [] := rfl
    rw [e0, Nat.add_zero, ← h3, nI_0]
    rfl
  · have hi := hin j hj
    obtain ⟨b1, b2, b3⟩ := inB_lt hi
    have hok := letP_ok (tb := tb) (p := p) (n := j) (by omega) (fun i hi => hin i (by omega))
    have hlen : (cdL (letP tb p j)).length = j := by simp [cdL, letP]
    dsimp only
    rw [if_neg (show ¬ (10 : Int32) ≤ nI j from nI_ge (a := j) (b := 10) (by omega) (by omega))]
    have h97 : f_X2_isHere (w.1, w.2.1, nI (p + j)) 97 122 = some (b01 (inB tb 97 122 (p + j))) := isHere_2 (hst j) hl hb (by omega) (lo := 97) (hi := 122) (by omega) (by omega)
    rw [h97, hi, Option.bind_some, if_neg (show ¬ b01 true = 0 from by decide), byte_2 (hst j) hl (by omega), Option.bind_some]
    unfold byI f_X4_codeOfLetter
    rw [if_pos b1, Option.bind_some]
    have e1 : nI (tb.getD (p + j) 0) - 97 = nI (tb.getD (p + j) 0 - 97) := nI_sub _ 97 (by omega)
    obtain ⟨a1, -⟩ := with_app hok.cd (c := tb.getD (p + j) 0 - 97 + 1) (by omega) (by omega)
    rw [hlen] at a1
    rw [e1, nI_1, a1, Option.bind_some, nI_1, nI_1, letP_snoc]
    have e2 : cdL (letP tb p j ++ [tb.getD (p + j) 0 - 97]) = cdL (letP tb p j) ++ [tb.getD (p + j) 0 - 97 + 1] := by simp [cdL]
    rw [e2, Nat.add_assoc]
  · dsimp only
    by_cases e : n = 10
    · rw [if_pos (show (10 : Int32) ≤ nI n from by rw [e]; decide)]
    · have hend : inB tb 97 122 (p + n) = false := by
        have := runN_end (tb := tb) (lo := 97) (hi := 122) (m := 10) (p := p) (by omega)
        rw [hn] at this
        exact this
      have h97 : f_X2_isHere (w.1, w.2.1, nI (p + n)) 97 122 = some (b01 (inB tb 97 122 (p + n))) := isHere_2 (hst n) hl hb (by omega) (lo := 97) (hi := 122) (by omega) (by omega)
      rw [if_neg (show ¬ (10 : Int32) ≤ nI n from nI_ge (a := n) (b := 10) (by omega) (by omega)), h97, hend, Option.bind_some, if_pos (show b01 false = 0 from rfl)]
theorem numP_lt {n : Nat} (h : ∀ i, i < n → inB tb 48 57 (p + i) = true) : numP tb p n < 10 ^ n := by
  induction n with
  | zero => simp [numP]
  | succ n ih =>
    have h1 := ih (fun i hi => h i (by omega))
    obtain ⟨-, b2, b3⟩ := inB_lt (h n (by omega))
    have e : 10 ^ (n + 1) = 10 * 10 ^ n := by rw [Nat.pow_succ, Nat.mul_comm]
    show 10 * numP tb p n + (tb.getD (p + n) 0 - 48) < 10 ^ (n + 1)
    rw [e]
    omega
theorem count_2 (hR : R2p tb p w) (hl : tb.length ≤ 150) (hb : ∀ b ∈ tb, b ≤ 127) (hp : p ≤ 170) : ∃ r, f_X2_readCount w = some r ∧ r.1 = (if runN tb 48 57 3 p = 0 then -1 else nI (numP tb p (runN tb 48 57 3 p))) ∧ R2p tb (p + runN tb 48 57 3 p) r.2 := by
  have hfirst : runN tb 48 57 3 p = if inB tb 48 57 p then runN tb 48 57 2 (p + 1) + 1 else 0 := rfl
  generalize hn : runN tb 48 57 3 p = n at hfirst
  have hn3 : n ≤ 3 := by rw [← hn]; exact runN_le _ _ _ _ _
  have hin : ∀ i, i < n → inB tb 48 57 (p + i) = true := fun i hi => runN_in (m := 3) (by rw [hn]; exact hi)
  have hR0 := hR
  obtain ⟨⟨h1, h2⟩, h3⟩ := hR
  have hst : ∀ j, R2p tb (p + j) (w.1, w.2.1, nI (p + j)) := fun j => ⟨⟨h1, h2⟩, rfl⟩
  have hI : ∀ (v : T2) (q : Nat), R2p tb q v → q < 2 ^ 31 → f_X2_isHere v 48 57 = some (b01 (inB tb 48 57 q)) := fun v q hv hq => isHere_2 hv hl hb hq (lo := 48) (hi := 57) (by omega) (by omega)
  unfold f_X2_readCount
  rw [hI w p hR0 (by omega), Option.bind_some]
  cases hb0 : inB tb 48 57 p with
  | false =>
    rw [hb0, if_neg (by decide)] at hfirst
    rw [if_pos (show b01 false = 0 from rfl), if_pos hfirst, hfirst]
    exact ⟨_, rfl, rfl, hR0⟩
  | true =>
    rw [hb0, if_pos rfl] at hfirst
    rw [if_neg (show ¬ b01 true = 0 from by decide), if_neg (show ¬ n = 0 by omega)]
    refine ⟨(nI (numP tb p n), (w.1, w.2.1, nI (p + n))), ?_, rfl, hst n⟩
    refine lp_go (fun j => (nI (numP tb p j), nI j, (w.1, w.2.1, nI (p + j)))) n _ ?_ (fun j hj => ?_) ?_ (by omega)
    · rw [Nat.add_zero, ← h3, nI_0]
      rfl
    · have hi := hin j hj
      obtain ⟨b1, b2, b3⟩ := inB_lt hi
      dsimp only
      rw [if_neg (show ¬ (3 : Int32) ≤ nI j from nI_ge (a := j) (b := 3) (by omega) (by omega)), hI _ _ (hst j) (by omega), hi, Option.bind_some, if_neg (show ¬ b01 true = 0 from by decide), byte_2 (hst j) hl (by omega), Option.bind_some]
      unfold byI
      rw [if_pos b1]
      have e1 : 10 * nI (numP tb p j) + nI (tb.getD (p + j) 0) - 48 = nI (numP tb p (j + 1)) := by
        have em : (10 : Int32) * nI (numP tb p j) = nI (10 * numP tb p j) := (Int32.ofNat_mul 10 (numP tb p j)).symm
        rw [em, nI_add]
        have : nI (10 * numP tb p j + tb.getD (p + j) 0) - 48 = nI (10 * numP tb p j + tb.getD (p + j) 0 - 48) := nI_sub _ 48 (by omega)
        rw [this]
        show nI _ = nI (10 * numP tb p j + (tb.getD (p + j) 0 - 48))
        congr 1; omega
      rw [e1, nI_1, nI_1, Nat.add_assoc]
    · dsimp only
      by_cases e : n = 3
      · rw [if_pos (show (3 : Int32) ≤ nI n from by rw [e]; decide)]
      · have hend : inB tb 48 57 (p + n) = false := by
          have := runN_end (tb := tb) (lo := 48) (hi := 57) (m := 3) (p := p) (by omega)
          rw [hn] at this
          exact this
        rw [if_neg (show ¬ (3 : Int32) ≤ nI n from nI_ge (a := n) (b := 3) (by omega) (by omega)), hI _ _ (hst n) (by omega), hend, Option.bind_some, if_pos (show b01 false = 0 from rfl)]
end RD
