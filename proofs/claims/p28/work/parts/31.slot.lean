/-! ===== the rows' own operations ===== -/
theorem rd_nI {α : Type} {f : Nat → α} {n i : Nat} (h : i < n) (hn : n < 2 ^ 31) : rd f n (nI i) = some (f i) := by
  unfold rd
  rw [if_neg (nI_in h hn), nI_clamp (by omega)]
theorem wr_nI {f : Nat → Int32} {n i : Nat} {x : Int32} (h : i < n) (hn : n < 2 ^ 31) : wr f n (nI i) x = some (upd f i x) := by
  unfold wr
  rw [if_neg (nI_in h hn), nI_clamp (by omega)]
theorem wrL_nI {f : Nat → Int64} {n i : Nat} {x : Int64} (h : i < n) (hn : n < 2 ^ 31) : wrL f n (nI i) x = some (vp_updL f i x) := by
  unfold wrL
  rw [if_neg (nI_in h hn), nI_clamp (by omega)]
/-- a loop whose road is known -/
theorem lp_run {σ ρ : Type} {body : σ → Option (σ ⊕ ρ)} (st : Nat → σ) (N : Nat) (r : ρ) (h1 : ∀ j, j < N → body (st j) = some (.inl (st (j + 1)))) (h2 : body (st N) = some (.inr r)) {fuel : Nat} (hf : N < fuel) : lp body fuel (st 0) = some r := by
  have key : ∀ (k j fuel : Nat), j + k = N → k < fuel → lp body fuel (st j) = some r := by
    intro k
    induction k with
    | zero =>
      intro j fuel hj hk
      obtain ⟨n, rfl⟩ := Nat.exists_eq_succ_of_ne_zero (show fuel ≠ 0 by omega)
      have e : j = N := by omega
      subst e
      simp only [lp, h2]
    | succ k ih =>
      intro j fuel hj hk
      obtain ⟨n, rfl⟩ := Nat.exists_eq_succ_of_ne_zero (show fuel ≠ 0 by omega)
      simp only [lp, h1 j (by omega)]
      exact ih (j + 1) n (by omega) (by omega)
  exact key N 0 fuel (by omega) hf
theorem lp_go {σ ρ : Type} {body : σ → Option (σ ⊕ ρ)} {s0 : σ} (st : Nat → σ) (N : Nat) (r : ρ) (h0 : s0 = st 0) (h1 : ∀ j, j < N → body (st j) = some (.inl (st (j + 1)))) (h2 : body (st N) = some (.inr r)) {fuel : Nat} (hf : N < fuel) : lp body fuel s0 = some r := by
  rw [h0]
  exact lp_run st N r h1 h2 hf
theorem code_core (N s : Nat) (hs : s < 64) (hN : N < 2 ^ 60) : (((Int64.ofNat N).toUInt64 >>> (UInt64.ofNat s)).toInt64 &&& 63).toInt32 = nI (N / 2 ^ s % 64) := by
  have e : (UInt64.ofNat N >>> UInt64.ofNat s) &&& 63 = UInt64.ofNat (N / 2 ^ s % 64) := by
    apply UInt64.toNat_inj.mp
    rw [UInt64.toNat_and, UInt64.toNat_shiftRight, UInt64.toNat_ofNat', UInt64.toNat_ofNat', UInt64.toNat_ofNat']
    rw [Nat.mod_eq_of_lt (show N < 2 ^ 64 by omega), Nat.mod_eq_of_lt (show s < 2 ^ 64 by omega), Nat.mod_eq_of_lt hs]
    rw [Nat.shiftRight_eq_div_pow]
    have h63 : (63 : UInt64).toNat = 2 ^ 6 - 1 := rfl
    rw [h63, Nat.and_two_pow_sub_one_eq_mod]
    have : N / 2 ^ s % 64 < 64 := Nat.mod_lt _ (by omega)
    omega
  rw [Int64.toUInt64_ofNat']
  have e2 : ((UInt64.ofNat N >>> UInt64.ofNat s).toInt64 &&& 63) = ((UInt64.ofNat N >>> UInt64.ofNat s) &&& 63).toInt64 := rfl
  rw [e2, e, UInt64.toInt64_ofNat', Int64.toInt32_ofNat']
  rfl
theorem code_N {N : Nat} (hN : N < 2 ^ 60) {i : Nat} (hi : i < 10) : f_X4_codeAt (Int64.ofNat N) (nI i) = some (nI (fld N i)) := by
  unfold f_X4_codeAt
  rw [if_neg (nI_pos (by omega)), if_neg (show ¬ (10 : Int32) ≤ nI i from fun h => by have := (nI_leI (a := 10) (b := i) (by omega) (by omega)).mp h; omega)]
  refine congrArg some ?_
  have key : ((54 - (6 * nI i)).toInt64.toUInt64 &&& Int64.toUInt64 63) = UInt64.ofNat (54 - 6 * i) := by
    rcases (show i = 0 ∨ i = 1 ∨ i = 2 ∨ i = 3 ∨ i = 4 ∨ i = 5 ∨ i = 6 ∨ i = 7 ∨ i = 8 ∨ i = 9 by omega) with rfl | rfl | rfl | rfl | rfl | rfl | rfl | rfl | rfl | rfl <;> decide
  rw [key]
  exact code_core N (54 - 6 * i) (by omega) hN
/-- the code at a place; 0: none -/
def cdI (l : List Nat) (a : Int32) : Nat := if a < 0 then 0 else l.getD a.toNatClampNeg 0
theorem codeAt_pk {l : List Nat} (h : okC l) (a : Int32) : f_X4_codeAt (pk l) a = some (nI (cdI l a)) := by
  have hc : ∀ c ∈ l, c < 64 := fun c hc => (h.2 c hc).2
  by_cases h0 : a < 0
  · unfold f_X4_codeAt cdI
    rw [if_pos h0, if_pos h0]
    rfl
  · obtain ⟨i, hi, rfl⟩ := nI_of h0
    by_cases hi2 : i < 10
    · unfold pk
      rw [code_N (pkN_lt hc) hi2, pkN_at hc h.1 hi2, cdI, if_neg h0, nI_clamp hi]
    · unfold f_X4_codeAt cdI
      have h2 := h.1
      rw [if_neg h0, if_neg h0, if_pos (show (10 : Int32) ≤ nI i from (nI_leI (a := 10) (b := i) (by omega) hi).mpr (by omega)), nI_clamp hi, List.getD_eq_getElem?_getD, List.getElem?_eq_none (by omega)]
      rfl
theorem codeAt_nI {l : List Nat} (h : okC l) {i : Nat} (hi : i < 2 ^ 31) : f_X4_codeAt (pk l) (nI i) = some (nI (l.getD i 0)) := by
  rw [codeAt_pk h, cdI, if_neg (nI_pos hi), nI_clamp hi]
theorem getD_lt64 {l : List Nat} (h : okC l) (i : Nat) : l.getD i 0 < 64 := by
  rw [List.getD_eq_getElem?_getD]
  cases e : l[i]? with
  | none => simp
  | some c => exact (h.2 c (List.mem_of_getElem? e)).2
theorem getD_pos {l : List Nat} (h : okC l) {i : Nat} (hi : i < l.length) : 0 < l.getD i 0 := by
  rw [List.getD_eq_getElem?_getD, List.getElem?_eq_getElem hi]
  exact (h.2 _ (List.getElem_mem hi)).1
theorem lengthOf_pk {l : List Nat} (h : okC l) : f_X4_lengthOf (pk l) = some (nI l.length) := by
  have hl := h.1
  unfold f_X4_lengthOf
  refine lp_run (fun j => nI j) l.length (nI l.length) (fun j hj => ?_) ?_ (by omega)
  · rw [if_neg (show ¬ (10 : Int32) ≤ nI j from fun q => by have := (nI_leI (a := 10) (b := j) (by omega) (by omega)).mp q; omega), codeAt_nI h (by omega)]
    show (if nI (l.getD j 0) = 0 then _ else _) = _
    rw [if_neg (nI_ne0 (getD_pos h hj) (by have := getD_lt64 h j; omega)), nI_1]
  · by_cases h10 : (10 : Int32) ≤ nI l.length
    · rw [if_pos h10]
    · rw [if_neg h10, codeAt_nI h (by omega)]
      show (if nI (l.getD l.length 0) = 0 then _ else _) = _
      rw [List.getD_eq_getElem?_getD, List.getElem?_eq_none (Nat.le_refl _)]
      rfl
theorem with_core {N cn i : Nat} (hN : N < 2 ^ 60) (hc : cn < 64) (hi : i < 10) : ∃ M, M < 2 ^ 60 ∧ (∀ j, j < 10 → fld M j = if j = i then cn else fld N j) ∧ f_X4_with (Int64.ofNat N) (nI i) (nI cn) = some (Int64.ofNat M) := by
  have hf : f_X4_with (Int64.ofNat N) (nI i) (nI cn) = some ((Int64.ofNat N &&& (((63 : Int64) <<< (Int64.ofNat (54 - 6 * i))) ^^^ (-1))) ||| (Int64.ofNat cn <<< (Int64.ofNat (54 - 6 * i)))) := by
    unfold f_X4_with
    rw [if_neg (nI_pos (by omega)), if_pos (show nI i < (10 : Int32) from (nI_ltI (a := i) (b := 10) (by omega) (by omega)).mpr hi)]
    have key : ((54 - (6 * nI i)).toInt64 &&& 63) = Int64.ofNat (54 - 6 * i) := by
      rcases (show i = 0 ∨ i = 1 ∨ i = 2 ∨ i = 3 ∨ i = 4 ∨ i = 5 ∨ i = 6 ∨ i = 7 ∨ i = 8 ∨ i = 9 by omega) with rfl | rfl | rfl | rfl | rfl | rfl | rfl | rfl | rfl | rfl <;> decide
    have k2 : (nI cn).toInt64 = Int64.ofNat cn := nI_l (by omega)
    rw [key, k2]
  have hs : (Int64.ofNat (54 - 6 * i)).toBitVec.smod 64 = BitVec.ofNat 64 (54 - 6 * i) := by
    rcases (show i = 0 ∨ i = 1 ∨ i = 2 ∨ i = 3 ∨ i = 4 ∨ i = 5 ∨ i = 6 ∨ i = 7 ∨ i = 8 ∨ i = 9 by omega) with rfl | rfl | rfl | rfl | rfl | rfl | rfl | rfl | rfl | rfl <;> decide
  let R : BitVec 64 := (BitVec.ofNat 64 N &&& ((63#64 <<< (54 - 6 * i)) ^^^ (-1#64))) ||| (BitVec.ofNat 64 cn <<< (54 - 6 * i))
  have hR : ((Int64.ofNat N &&& (((63 : Int64) <<< (Int64.ofNat (54 - 6 * i))) ^^^ (-1))) ||| (Int64.ofNat cn <<< (Int64.ofNat (54 - 6 * i)))) = Int64.ofNat R.toNat := by
    apply Int64.toBitVec_inj.mp
    rw [Int64.toBitVec_or, Int64.toBitVec_and, Int64.toBitVec_xor, Int64.toBitVec_shiftLeft, Int64.toBitVec_shiftLeft, hs]
    simp only [R, Int64.toBitVec_ofNat', BitVec.shiftLeft_eq', BitVec.toNat_ofNat, Nat.mod_eq_of_lt (show 54 - 6 * i < 2 ^ 64 by omega), BitVec.ofNat_toNat, BitVec.setWidth_eq]
    rfl
  have hbit : ∀ j : Nat, R.toNat.testBit j = (decide (j < 64) && ((N.testBit j && !(decide (54 - 6 * i ≤ j) && Nat.testBit 63 (j - (54 - 6 * i)))) || (decide (54 - 6 * i ≤ j) && cn.testBit (j - (54 - 6 * i))))) := by
    intro j
    rw [BitVec.testBit_toNat]
    by_cases hj : j < 64
    · simp only [R, BitVec.getLsbD_or, BitVec.getLsbD_and, BitVec.getLsbD_xor, BitVec.getLsbD_shiftLeft, BitVec.getLsbD_ofNat, hj, decide_true, Bool.true_and]
      have e1 : (-1#64).getLsbD j = true := by
        have : (-1#64) = BitVec.allOnes 64 := by decide
        rw [this, BitVec.getLsbD_allOnes]
        simpa using hj
      rw [e1]
      by_cases hj2 : 54 - 6 * i ≤ j
      · have : j - (54 - 6 * i) < 64 := by omega
        simp [hj2, this, Nat.not_lt.mpr hj2]
      · simp [hj2, Nat.lt_of_not_le hj2]
    · simp [hj, BitVec.getLsbD_of_ge R j (by omega)]
  have h63 : ∀ b : Nat, Nat.testBit 63 b = decide (b < 6) := fun b => by
    have := Nat.testBit_two_pow_sub_one 6 b
    simpa using this
  have hcn : ∀ b : Nat, 6 ≤ b → cn.testBit b = false := fun b hb => Nat.testBit_lt_two_pow (Nat.lt_of_lt_of_le hc (show 64 ≤ 2 ^ b from Nat.pow_le_pow_right (n := 2) (by omega) hb))
  refine ⟨R.toNat, ?_, ?_, by rw [hf, hR]⟩
  · refine Nat.lt_pow_two_of_testBit _ (fun j hj => ?_)
    rw [hbit, h63, Nat.testBit_lt_two_pow (Nat.lt_of_lt_of_le hN (Nat.pow_le_pow_right (n := 2) (by omega) hj)), hcn (j - (54 - 6 * i)) (by omega)]
    simp
  · intro j hj
    have ht : ∀ (X k b : Nat), (X / 2 ^ k % 64).testBit b = (decide (b < 6) && X.testBit (k + b)) := fun X k b => by
      have := Nat.testBit_mod_two_pow (X / 2 ^ k) 6 b
      rw [show (64 : Nat) = 2 ^ 6 by rfl, this, Nat.testBit_div_two_pow, Nat.add_comm]
    apply Nat.eq_of_testBit_eq
    intro b
    by_cases hji : j = i
    · subst hji
      rw [if_pos rfl, fld, ht, hbit, h63]
      by_cases hb : b < 6
      · have e1 : 54 - 6 * j + b - (54 - 6 * j) = b := by omega
        simp [hb, e1, show 54 - 6 * j + b < 64 by omega]
      · rw [hcn b (by omega)]
        simp [hb]
    · rw [if_neg hji, fld, ht, hbit, h63, fld, ht]
      by_cases hb : b < 6
      · have hlt : 54 - 6 * j + b < 64 := by omega
        by_cases hij : j < i
        · have e1 : ¬ (54 - 6 * j + b - (54 - 6 * i) < 6) := by omega
          have e2 := hcn (54 - 6 * j + b - (54 - 6 * i)) (by omega)
          simp [hb, hlt, e1, e2]
        · have e1 : ¬ (54 - 6 * i ≤ 54 - 6 * j + b) := by omega
          simp [hb, hlt, e1]
      · simp [hb]
theorem with_pk {l l' : List Nat} (h : okC l) (h' : okC l') {i c : Nat} (hi : i < 10) (hc : c < 64) (he : ∀ j, j < 10 → l'.getD j 0 = if j = i then c else l.getD j 0) : f_X4_with (pk l) (nI i) (nI c) = some (pk l') := by
  obtain ⟨M, hM, hf, e⟩ := with_core (pkN_lt (fun c hc => (h.2 c hc).2)) hc hi
  unfold pk
  rw [e, pkN_of (fun c hc => (h'.2 c hc).2) h'.1 hM (fun j hj => by rw [hf j hj, he j hj]; split; rfl; exact pkN_at (fun c hc => (h.2 c hc).2) h.1 hj)]
theorem with_app {l : List Nat} (h : okC l) {c : Nat} (hl : l.length < 10) (hc : 0 < c ∧ c < 64) : f_X4_with (pk l) (nI l.length) (nI c) = some (pk (l ++ [c])) ∧ okC (l ++ [c]) := by
  have h' : okC (l ++ [c]) := ⟨by simp; omega, fun x hx => by
    rcases List.mem_append.mp hx with q | q
    · exact h.2 x q
    · rw [List.mem_singleton.mp q]; exact hc⟩
  refine ⟨with_pk h h' hl hc.2 (fun j hj => ?_), h'⟩
  simp only [List.getD_eq_getElem?_getD]
  by_cases e : j = l.length
  · subst e
    simp
  · rw [if_neg e]
    by_cases e2 : j < l.length
    · rw [List.getElem?_append_left e2]
    · rw [List.getElem?_eq_none (by simp; omega), List.getElem?_eq_none (by omega)]
theorem with_set {l : List Nat} (h : okC l) {i c : Nat} (hi : i < l.length) (hc : 0 < c ∧ c < 64) : f_X4_with (pk l) (nI i) (nI c) = some (pk (l.set i c)) ∧ okC (l.set i c) := by
  have h' : okC (l.set i c) := ⟨by simpa using h.1, fun x hx => by
    rcases List.mem_or_eq_of_mem_set hx with q | q
    · exact h.2 x q
    · rw [q]; exact hc⟩
  refine ⟨with_pk h h' (by have := h.1; omega) hc.2 (fun j hj => ?_), h'⟩
  simp only [List.getD_eq_getElem?_getD, List.getElem?_set]
  by_cases e : j = i
  · subst e
    simp [hi]
  · simp [e, Ne.symm e]
