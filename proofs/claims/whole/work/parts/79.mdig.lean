/-! ===== the reference: the digest ===== -/
theorem withWord_9 {m : T9} {ws : List Wd} (hW : R9w ws m.1) (ho : okWs ws) {k : Nat} (hk : k < ws.length) (h : Int64) : f_X9_withWord m h (nI k) = some (digW ws k h) := by
  obtain ⟨q, hq⟩ := get_of_lt hk
  have hqok := (ho.wd hq).1
  have hql := hqok.1
  have hv : ∀ i, i < 5 → f_X9_wordValue m (nI k) (nI i) = some (valI ws k q (nI i)) := fun i hi => wordValue_9 hW ho hq (by
    rcases (show i = 0 ∨ i = 1 ∨ i = 2 ∨ i = 3 ∨ i = 4 by omega) with rfl | rfl | rfl | rfl | rfl <;> decide)
  unfold f_X9_withWord f_X9_sums
  rw [lp_foldN (fun i a => 31 * a + (valI ws k q (nI i)).toInt64) h 5 (digV ws k q h) (fun i hi => by
    dsimp only
    rw [if_neg (show ¬ (5 : Int32) ≤ nI i from nI_ge (a := i) (b := 5) hi (by omega)), hv i hi, Option.bind_some, Option.bind_some, nI_1]) (by
    dsimp only
    rw [if_pos (by decide)]
    rfl) (by omega), Option.bind_some, len_9 hW ho.1 hq]
  rw [lp_foldN (fun i a => 31 * a + (nI (q.1.getD i 0)).toInt64) (digV ws k q h) q.1.length (digL (digV ws k q h) q.1) (fun i hi => by
    rw [Option.bind_some]
    dsimp only
    rw [if_neg (nI_ge hi (by omega)), letter_9 hW ho.1 hq hqok hi, Option.bind_some, Option.bind_some, nI_1]) (by
    rw [Option.bind_some]
    dsimp only
    rw [if_pos (nI_le (Nat.le_refl _) (by omega))]
    rfl) (by omega), Option.bind_some, stepsOf_9 hW ho hq, Option.bind_some, Option.bind_some]
  unfold digW
  rw [hq]
theorem fold_tx (l : List Nat) (h : Int64) (v : Nat → Int64) (h0 : v 0 = (nI l.length).toInt64) (h1 : ∀ i, i < l.length → v (i + 1) = (nI (l.getD i 0)).toInt64) : foldN (fun i a => 31 * a + v i) h (l.length + 1) = digL (31 * h + (nI l.length).toInt64) l := by
  have key : ∀ n, n ≤ l.length → foldN (fun i a => 31 * a + v i) h (n + 1) = foldN (fun i a => 31 * a + (nI (l.getD i 0)).toInt64) (31 * h + (nI l.length).toInt64) n := by
    intro n
    induction n with
    | zero =>
      intro _
      show 31 * h + v 0 = _
      rw [h0]
      rfl
    | succ n ih =>
      intro hn
      show 31 * foldN (fun i a => 31 * a + v i) h (n + 1) + v (n + 1) = 31 * foldN (fun i a => 31 * a + (nI (l.getD i 0)).toInt64) (31 * h + (nI l.length).toInt64) n + (nI (l.getD n 0)).toInt64
      rw [ih (by omega), h1 n (by omega)]
  exact key _ (Nat.le_refl _)
