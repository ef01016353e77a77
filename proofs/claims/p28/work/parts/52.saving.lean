/-! ===== the saving ===== -/
def cN (ws : List Wd) (k : Nat) : Nat := match ws[k]? with
  | some q => q.2.1
  | none => 0
def tN (ws : List Wd) (k : Nat) : Nat := match ws[k]? with
  | some q => tapsN q.1 q.1.length
  | none => 0
def gN2 (ws : List Wd) (k : Nat) : Nat := match ws[k]? with
  | some q => q.1.length + stepsN ws k
  | none => 0
def sumS (ws : List Wd) : Nat → Int
  | 0 => 0
  | k + 1 => sumS ws k + (cN ws k : Int) * ((tN ws k : Int) - (gN2 ws k : Int))
def sumT (ws : List Wd) : Nat → Nat
  | 0 => 0
  | k + 1 => sumT ws k + cN ws k * tN ws k
theorem cN_le {ws : List Wd} (ho : okWs ws) (k : Nat) : cN ws k ≤ 999 ∧ tN ws k ≤ 50 ∧ gN2 ws k ≤ 60 := by
  unfold cN tN gN2
  cases h : ws[k]? with
  | none => exact ⟨Nat.zero_le _, Nat.zero_le _, Nat.zero_le _⟩
  | some q =>
    have o := ho.wd h
    have h1 := tapsN_le o.1 (Nat.le_refl _)
    have h2 := o.1.1
    have h3 := stepsN_le (ws := ws) k
    have h4 := ho.1
    have h5 := o.2.2.1
    dsimp only
    omega
theorem sumS_le {ws : List Wd} (ho : okWs ws) : ∀ k, (sumS ws k).natAbs ≤ 60000 * k
  | 0 => Nat.zero_le _
  | k + 1 => by
    obtain ⟨h1, h2, h3⟩ := cN_le ho k
    have ih := sumS_le ho k
    have hb : ((cN ws k : Int) * ((tN ws k : Int) - (gN2 ws k : Int))).natAbs ≤ 60000 := by
      rw [Int.natAbs_mul]
      exact Nat.le_trans (Nat.mul_le_mul (show (cN ws k : Int).natAbs ≤ 999 by omega) (show ((tN ws k : Int) - (gN2 ws k : Int)).natAbs ≤ 60 by omega)) (by decide)
    show (sumS ws k + (cN ws k : Int) * ((tN ws k : Int) - (gN2 ws k : Int))).natAbs ≤ _
    generalize (cN ws k : Int) * ((tN ws k : Int) - (gN2 ws k : Int)) = z at hb ⊢
    omega
theorem sumT_le {ws : List Wd} (ho : okWs ws) : ∀ k, sumT ws k ≤ 60000 * k
  | 0 => Nat.zero_le _
  | k + 1 => by
    obtain ⟨h1, h2, h3⟩ := cN_le ho k
    have ih := sumT_le ho k
    have hb : cN ws k * tN ws k ≤ 60000 := Nat.le_trans (Nat.mul_le_mul h1 h2) (by decide)
    show sumT ws k + cN ws k * tN ws k ≤ _
    omega
theorem lI (c : Nat) (h : c < 2 ^ 31) : (nI c).toInt64 = Int64.ofInt (c : Int) := (nI_l h).trans Int64.ofInt_eq_ofNat.symm
theorem iI (c : Nat) : nI c = Int32.ofInt (c : Int) := Int32.ofInt_eq_ofNat.symm
def savO (S : Int) (T : Nat) : Option UInt64 := if T = 0 then some FP.dconst0 else Option.bind (nn (FP.ddiv (FP.l2d (Int64.ofInt S)) (FP.l2d (Int64.ofInt (T : Int))))) (fun _ => some (FP.ddiv (FP.l2d (Int64.ofInt S)) (FP.l2d (Int64.ofInt (T : Int)))))
theorem T64 {T : Nat} (h : T < 2 ^ 31) : Int64.ofInt (T : Int) = 0 ↔ T = 0 := by
  constructor
  · intro e
    have h1 : (Int64.ofInt (T : Int)).toInt = (T : Int) := Int64.toInt_ofInt_of_le (by omega) (by omega)
    rw [e] at h1
    have : (0 : Int64).toInt = 0 := rfl
    omega
  · intro e
    rw [e]
    rfl
theorem T32 {T : Nat} (h : T < 2 ^ 31) : Int32.ofInt (T : Int) = 0 ↔ T = 0 := by
  constructor
  · intro e
    have h1 : (Int32.ofInt (T : Int)).toInt = (T : Int) := Int32.toInt_ofInt_of_le (by omega) (by omega)
    rw [e] at h1
    have : (0 : Int32).toInt = 0 := rfl
    omega
  · intro e
    rw [e]
    rfl
theorem saving_6 {ws : List Wd} {w : T6} (hR : R6 ws w) (ho : okWs ws) : f_X6_savingOfAll w = savO (sumS ws ws.length) (sumT ws ws.length) := by
  have hwl := ho.1
  have hT := sumT_le ho ws.length
  unfold f_X6_savingOfAll
  rw [lp_go (fun j => (Int64.ofInt (sumS ws j), Int64.ofInt (sumT ws j : Int), nI j)) ws.length (Int64.ofInt (sumS ws ws.length), Int64.ofInt (sumT ws ws.length : Int)) (by rw [nI_0]; rfl) (fun k hk => by
    obtain ⟨q, hq⟩ := get_of_lt hk
    obtain ⟨h1, h2, h3⟩ := cN_le ho k
    have ec : cN ws k = q.2.1 := by unfold cN; rw [hq]
    have et : tN ws k = tapsN q.1 q.1.length := by unfold tN; rw [hq]
    have eg : gN2 ws k = q.1.length + stepsN ws k := by unfold gN2; rw [hq]
    have eS : sumS ws (k + 1) = sumS ws k + (cN ws k : Int) * ((tN ws k : Int) - (gN2 ws k : Int)) := rfl
    have eT : ((sumT ws (k + 1) : Nat) : Int) = (sumT ws k : Int) + (cN ws k : Int) * (tN ws k : Int) := by
      show ((sumT ws k + cN ws k * tN ws k : Nat) : Int) = _
      rw [Int.natCast_add, Int.natCast_mul]
    dsimp only
    rw [hR.1, if_neg (nI_ge hk (by omega)), countAt_6 hR hwl hq, Option.bind_some, taps_6 hR ho hq, Option.bind_some, guesses_6 hR ho hq, Option.bind_some, ← ec, ← et, ← eg, lI _ (by omega), lI _ (by omega), lI _ (by omega), nI_1, eS, eT, Int64.ofInt_add, Int64.ofInt_mul, Int64.ofInt_sub, Int64.ofInt_add, Int64.ofInt_mul]) (by
    dsimp only
    rw [hR.1, if_pos (nI_le (Nat.le_refl _) (by omega))]) (by omega), Option.bind_some]
  unfold savO
  dsimp only
  by_cases e : sumT ws ws.length = 0
  · rw [if_pos ((T64 (by omega)).mpr e), if_pos e]
  · rw [if_neg (fun z => e ((T64 (by omega)).mp z)), if_neg e]
