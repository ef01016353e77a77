/-! ===== THE PURE SIDE: rows of letters in one long ===== -/
/-- a row's number: six bits each, the first one highest -/
def pkF : Nat → List Nat → Nat
  | _, [] => 0
  | 0, c :: _ => c
  | d + 1, c :: t => c * 64 ^ (d + 1) + pkF d t
def pkN (l : List Nat) : Nat := pkF 9 l
def pk (l : List Nat) : Int64 := Int64.ofNat (pkN l)
def okC (l : List Nat) : Prop := l.length ≤ 10 ∧ ∀ c ∈ l, 0 < c ∧ c < 64
theorem pkF_lt : ∀ (d : Nat) (l : List Nat), (∀ c ∈ l, c < 64) → pkF d l < 64 ^ (d + 1)
  | d, [], _ => by simp [pkF]; exact Nat.pos_of_ne_zero (by simp)
  | 0, c :: t, h => by
    have := h c List.mem_cons_self
    simpa [pkF] using this
  | d + 1, c :: t, h => by
    have h1 := h c List.mem_cons_self
    have h2 := pkF_lt d t (fun c hc => h c (List.mem_cons_of_mem _ hc))
    have h3 : c * 64 ^ (d + 1) ≤ 63 * 64 ^ (d + 1) := Nat.mul_le_mul_right _ (by omega)
    have e : 64 ^ (d + 1 + 1) = 64 * 64 ^ (d + 1) := by rw [Nat.pow_succ, Nat.mul_comm]
    show c * 64 ^ (d + 1) + pkF d t < 64 ^ (d + 1 + 1)
    rw [e]
    generalize 64 ^ (d + 1) = K at h2 h3 ⊢
    omega
theorem pkF_at : ∀ (d : Nat) (l : List Nat) (i : Nat), (∀ c ∈ l, c < 64) → l.length ≤ d + 1 → i ≤ d → pkF d l / 64 ^ (d - i) % 64 = l.getD i 0
  | d, [], i, _, _, _ => by simp [pkF]
  | 0, c :: t, i, h, hl, hi => by
    have h1 := h c List.mem_cons_self
    have e : i = 0 := by omega
    subst e
    simp [pkF]
    exact h1
  | d + 1, c :: t, 0, h, hl, hi => by
    have h1 := h c List.mem_cons_self
    have h2 := pkF_lt d t (fun c hc => h c (List.mem_cons_of_mem _ hc))
    show (c * 64 ^ (d + 1) + pkF d t) / 64 ^ (d + 1 - 0) % 64 = c
    rw [Nat.sub_zero, Nat.mul_comm, Nat.mul_add_div (Nat.pos_of_ne_zero (by simp)), Nat.div_eq_of_lt h2, Nat.add_zero, Nat.mod_eq_of_lt h1]
  | d + 1, c :: t, i + 1, h, hl, hi => by
    have h2 := pkF_at d t i (fun c hc => h c (List.mem_cons_of_mem _ hc)) (by simpa using hl) (by omega)
    show (c * 64 ^ (d + 1) + pkF d t) / 64 ^ (d + 1 - (i + 1)) % 64 = t.getD i 0
    rw [← h2, Nat.add_sub_add_right]
    have e : c * 64 ^ (d + 1) = 64 ^ (d - i) * (64 * (c * 64 ^ i)) := by
      have e1 : 64 ^ (d + 1) = 64 ^ (d - i) * (64 * 64 ^ i) := by
        rw [show d + 1 = (d - i) + (i + 1) by omega, Nat.pow_add, Nat.pow_succ (n := 64) (m := i), Nat.mul_comm (64 ^ i) 64]
      rw [e1]
      ac_rfl
    rw [e, Nat.mul_add_div (Nat.pos_of_ne_zero (by simp)), Nat.mul_add_mod]
theorem pkN_lt {l : List Nat} (h : ∀ c ∈ l, c < 64) : pkN l < 2 ^ 60 := pkF_lt 9 l h
/-- the i-th field of a number -/
def fld (N i : Nat) : Nat := N / 2 ^ (54 - 6 * i) % 64
theorem pkN_at {l : List Nat} (h : ∀ c ∈ l, c < 64) (hl : l.length ≤ 10) {i : Nat} (hi : i < 10) : fld (pkN l) i = l.getD i 0 := by
  have := pkF_at 9 l i h hl (by omega)
  unfold fld pkN
  rw [← this, show (64 : Nat) = 2 ^ 6 by rfl, ← Nat.pow_mul, show 54 - 6 * i = 6 * (9 - i) by omega]
/-- ten fields make the number -/
theorem fld_ext {N M : Nat} (hN : N < 2 ^ 60) (hM : M < 2 ^ 60) (h : ∀ i, i < 10 → fld N i = fld M i) : N = M := by
  have h0 := h 0 (by omega); have h1 := h 1 (by omega); have h2 := h 2 (by omega); have h3 := h 3 (by omega); have h4 := h 4 (by omega)
  have h5 := h 5 (by omega); have h6 := h 6 (by omega); have h7 := h 7 (by omega); have h8 := h 8 (by omega); have h9 := h 9 (by omega)
  simp only [fld] at h0 h1 h2 h3 h4 h5 h6 h7 h8 h9
  omega
theorem pkN_of {l : List Nat} (h : ∀ c ∈ l, c < 64) (hl : l.length ≤ 10) {N : Nat} (hN : N < 2 ^ 60) (hf : ∀ i, i < 10 → fld N i = l.getD i 0) : N = pkN l :=
  fld_ext hN (pkN_lt h) (fun i hi => (hf i hi).trans (pkN_at h hl hi).symm)
theorem pk_toInt {l : List Nat} (h : ∀ c ∈ l, c < 64) : (pk l).toInt = (pkN l : Int) := by
  have h1 := pkN_lt h
  unfold pk
  rw [Int64.toInt_ofNat_of_lt (by omega)]
theorem pk_nil : pk [] = 0 := rfl
theorem getD_inj : ∀ {l l' : List Nat}, (∀ c ∈ l, 0 < c) → (∀ c ∈ l', 0 < c) → (∀ i, l.getD i 0 = l'.getD i 0) → l = l'
  | [], [], _, _, _ => rfl
  | [], c :: t, _, h, e => by
    have := e 0
    have := h c List.mem_cons_self
    simp at *
    omega
  | c :: t, [], h, _, e => by
    have := e 0
    have := h c List.mem_cons_self
    simp at *
    omega
  | c :: t, c' :: t', h, h', e => by
    have e0 := e 0
    simp at e0
    subst e0
    rw [getD_inj (fun c hc => h c (List.mem_cons_of_mem _ hc)) (fun c hc => h' c (List.mem_cons_of_mem _ hc)) (fun i => by simpa using e (i + 1))]
theorem pk_inj {l l' : List Nat} (h : okC l) (h' : okC l') : pk l = pk l' ↔ l = l' := by
  refine ⟨fun e => ?_, fun e => by rw [e]⟩
  have e1 : pkN l = pkN l' := by
    have := congrArg Int64.toInt e
    rw [pk_toInt (fun c hc => (h.2 c hc).2), pk_toInt (fun c hc => (h'.2 c hc).2)] at this
    omega
  refine getD_inj (fun c hc => (h.2 c hc).1) (fun c hc => (h'.2 c hc).1) (fun i => ?_)
  by_cases hi : i < 10
  · rw [← pkN_at (fun c hc => (h.2 c hc).2) h.1 hi, e1, pkN_at (fun c hc => (h'.2 c hc).2) h'.1 hi]
  · have := h.1
    have := h'.1
    simp [List.getD_eq_getElem?_getD, List.getElem?_eq_none (show l.length ≤ i by omega), List.getElem?_eq_none (show l'.length ≤ i by omega)]
/-- words' order as the alphabet has it -/
def lexLt : List Nat → List Nat → Bool
  | [], [] => false
  | [], _ :: _ => true
  | _ :: _, [] => false
  | a :: s, b :: t => if a < b then true else if b < a then false else lexLt s t
theorem pkF_lex : ∀ (d : Nat) (l l' : List Nat), (∀ c ∈ l, 0 < c ∧ c < 64) → (∀ c ∈ l', 0 < c ∧ c < 64) → l.length ≤ d + 1 → l'.length ≤ d + 1 → (pkF d l < pkF d l' ↔ lexLt l l' = true)
  | d, [], [], _, _, _, _ => by simp [pkF, lexLt]
  | 0, [], c :: t, _, h, _, _ => by
    have := h c List.mem_cons_self
    simp [pkF, lexLt]; omega
  | d + 1, [], c :: t, _, h, _, _ => by
    have h1 := h c List.mem_cons_self
    have h3 : 0 < c * 64 ^ (d + 1) := Nat.mul_pos h1.1 (Nat.pos_of_ne_zero (by simp))
    simp only [pkF, lexLt, iff_true]
    omega
  | d, c :: t, [], _, _, _, _ => by simp [pkF, lexLt]
  | 0, c :: t, c' :: t', h, h', hl, hl' => by
    have e : t = [] := List.eq_nil_of_length_eq_zero (by simp at hl; simp [hl])
    have e' : t' = [] := List.eq_nil_of_length_eq_zero (by simp at hl'; simp [hl'])
    subst e; subst e'
    simp only [pkF, lexLt]
    by_cases h1 : c < c'
    · simp [h1]
    · by_cases h2 : c' < c
      · simp [h1, h2]
      · simp [h1, h2]
  | d + 1, c :: t, c' :: t', h, h', hl, hl' => by
    have k1 := pkF_lt d t (fun c hc => (h c (List.mem_cons_of_mem _ hc)).2)
    have k2 := pkF_lt d t' (fun c hc => (h' c (List.mem_cons_of_mem _ hc)).2)
    have ih := pkF_lex d t t' (fun c hc => h c (List.mem_cons_of_mem _ hc)) (fun c hc => h' c (List.mem_cons_of_mem _ hc)) (by simpa using hl) (by simpa using hl')
    show c * 64 ^ (d + 1) + pkF d t < c' * 64 ^ (d + 1) + pkF d t' ↔ lexLt (c :: t) (c' :: t') = true
    simp only [lexLt]
    generalize 64 ^ (d + 1) = K at k1 k2 ⊢
    by_cases h1 : c < c'
    · have : c * K + K ≤ c' * K := by rw [← Nat.succ_mul]; exact Nat.mul_le_mul_right _ h1
      simp only [h1, if_true, iff_true]
      omega
    · by_cases h2 : c' < c
      · have : c' * K + K ≤ c * K := by rw [← Nat.succ_mul]; exact Nat.mul_le_mul_right _ h2
        simp only [h1, h2, if_true, if_false, Bool.false_eq_true, iff_false]
        omega
      · have e : c = c' := by omega
        subst e
        simp only [h1, if_false, ← ih]
        omega
theorem pk_ltI {l l' : List Nat} (h : okC l) (h' : okC l') : pk l < pk l' ↔ lexLt l l' = true := by
  rw [Int64.lt_iff_toInt_lt, pk_toInt (fun c hc => (h.2 c hc).2), pk_toInt (fun c hc => (h'.2 c hc).2)]
  have := pkF_lex 9 l l' h.2 h'.2 h.1 h'.1
  rw [← this]
  unfold pkN
  omega
