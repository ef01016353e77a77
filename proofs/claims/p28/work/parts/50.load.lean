/-! ===== a list read whole ===== -/
/-- an item: whether one was read, where the reading stands then, the list -/
def itemN (tb : List Nat) (p : Nat) (ws : List Wd) : Bool × Nat × List Wd :=
  if 50 ≤ ws.length then (false, p, ws) else
  if runN tb 97 122 10 p = 0 ∨ byI tb (p + runN tb 97 122 10 p) ≠ 44 then (false, p + runN tb 97 122 10 p, ws) else
  if findN ws (letP tb p (runN tb 97 122 10 p)) ≠ none then (false, p, ws) else
  if runN tb 48 57 3 (p + runN tb 97 122 10 p + 1) = 0 ∨ byI tb (p + runN tb 97 122 10 p + 1 + runN tb 48 57 3 (p + runN tb 97 122 10 p + 1)) ≠ 59 then (false, p + runN tb 97 122 10 p + 1 + runN tb 48 57 3 (p + runN tb 97 122 10 p + 1), ws) else
  (true, p + runN tb 97 122 10 p + 1 + runN tb 48 57 3 (p + runN tb 97 122 10 p + 1) + 1, ws ++ [(letP tb p (runN tb 97 122 10 p), numP tb (p + runN tb 97 122 10 p + 1) (runN tb 48 57 3 (p + runN tb 97 122 10 p + 1)), 0, false)])
theorem item_ok {tb : List Nat} {p : Nat} {ws : List Wd} (ho : okWs ws) : okWs (itemN tb p ws).2.2 := by
  unfold itemN
  split
  · exact ho
  · rename_i h1
    split
    · exact ho
    · rename_i h2
      split
      · exact ho
      · rename_i h3
        split
        · exact ho
        · rename_i h4
          have hn : runN tb 97 122 10 p ≤ 10 := runN_le _ _ _ _ _
          have hd : runN tb 48 57 3 (p + runN tb 97 122 10 p + 1) ≤ 3 := runN_le _ _ _ _ _
          have hc := numP_lt (tb := tb) (p := p + runN tb 97 122 10 p + 1) (n := runN tb 48 57 3 (p + runN tb 97 122 10 p + 1)) (fun i hi => runN_in hi)
          have h10 : 10 ^ (runN tb 48 57 3 (p + runN tb 97 122 10 p + 1)) ≤ 10 ^ 3 := Nat.pow_le_pow_right (by omega) hd
          refine ho.app ⟨letP_ok hn (fun i hi => runN_in hi), ?_, ?_, fun z => by cases z⟩ (by omega) (fun q hq => ?_)
          · show 0 < (letP tb p (runN tb 97 122 10 p)).length
            have : ¬ runN tb 97 122 10 p = 0 := fun z => h2 (Or.inl z)
            simp [letP]; omega
          · show numP tb _ _ ≤ 999
            omega
          · cases hf : findN ws (letP tb p (runN tb 97 122 10 p)) with
            | none => exact findN_none hf q hq
            | some k => exact absurd (by rw [hf]; simp) h3
theorem item_pos {tb : List Nat} {p : Nat} {ws : List Wd} (h : (itemN tb p ws).1 = true) : (itemN tb p ws).2.1 ≤ tb.length ∧ ws.length < 50 ∧ (itemN tb p ws).2.2.length = ws.length + 1 ∧ p < (itemN tb p ws).2.1 := by
  unfold itemN at h ⊢
  split at h
  · cases h
  · rename_i h1
    rw [if_neg h1]
    split at h
    · cases h
    · rename_i h2
      rw [if_neg h2]
      split at h
      · cases h
      · rename_i h3
        rw [if_neg h3]
        split at h
        · cases h
        · rename_i h4
          rw [if_neg h4]
          have h5 : byI tb (p + runN tb 97 122 10 p + 1 + runN tb 48 57 3 (p + runN tb 97 122 10 p + 1)) = 59 := by
            by_cases e : byI tb (p + runN tb 97 122 10 p + 1 + runN tb 48 57 3 (p + runN tb 97 122 10 p + 1)) = 59
            · exact e
            · exact absurd (Or.inr e) h4
          unfold byI at h5
          split at h5
          · rename_i h6
            exact ⟨by dsimp only; omega, by omega, by simp, by dsimp only; omega⟩
          · exact absurd h5 (by decide)
theorem item_2 {tb : List Nat} {p : Nat} {ws : List Wd} {w : T2} {w6 : T6} (hR : R2p tb p w) (hR6 : R6 ws w6) (ho : okWs ws) (hB : okB w6) (hl : tb.length ≤ 150) (hb : ∀ b ∈ tb, b ≤ 127) (hp : p ≤ 150) : ∃ r, f_X2_readItem w w6 = some r ∧ r.1 = b01 (itemN tb p ws).1 ∧ R2p tb (itemN tb p ws).2.1 r.2.1 ∧ R6 (itemN tb p ws).2.2 r.2.2 ∧ okB r.2.2 := by
  have hwl := ho.1
  unfold f_X2_readItem itemN
  rw [isFull_6 hR6 hwl, Option.bind_some]
  by_cases h1 : 50 ≤ ws.length
  · rw [if_pos h1, if_neg (show ¬ ws.length < 50 by omega), if_neg (by decide)]
    exact ⟨_, rfl, rfl, hR, hR6, hB⟩
  · rw [if_neg h1, if_pos (show ws.length < 50 by omega), if_pos rfl]
    obtain ⟨r, r1, r2, r3⟩ := word_2 hR hl hb hp
    rw [r1, Option.bind_some]
    generalize hn : runN tb 97 122 10 p = n at r2 r3 ⊢
    have hn10 : n ≤ 10 := by rw [← hn]; exact runN_le _ _ _ _ _
    have hin : ∀ i, i < n → inB tb 97 122 (p + i) = true := fun i hi => runN_in (m := 10) (by rw [hn]; exact hi)
    have hok := letP_ok hn10 hin
    have hz : r.1 = 0 ↔ n = 0 := by
      rw [r2, ← pk_nil, pk_inj hok.cd ⟨by simp, by simp⟩]
      constructor
      · intro h
        have := congrArg List.length h
        simpa [cdL, letP] using this
      · intro h; rw [h]; rfl
    by_cases h2 : n = 0
    · rw [if_pos (hz.mpr h2), if_pos (Or.inl h2)]
      exact ⟨_, rfl, rfl, r3, hR6, hB⟩
    · rw [if_neg (fun z => h2 (hz.mp z)), byte_2 r3 hl (by omega), Option.bind_some]
      by_cases h3 : byI tb (p + n) = 44
      · rw [if_pos h3, if_neg (fun z => z.elim h2 (fun q => q h3)), r2, find_6 hR6 ho hok, Option.bind_some]
        cases hf : findN ws (letP tb p n) with
        | some k =>
          obtain ⟨q, hq, -⟩ := findN_some hf
          have hkl := lt_of_get hq
          rw [if_neg (idxI_some (by omega)), if_pos (by simp)]
          exact ⟨_, rfl, rfl, ⟨r3.1, hR.2⟩, hR6, hB⟩
        | none =>
          rw [if_pos (show idxI none = -1 from rfl), if_neg (by simp)]
          have hR2 : R2p tb (p + n + 1) (r.2.1, r.2.2.1, (r.2.2.2 + 1)) := ⟨r3.1, by show r.2.2.2 + 1 = _; rw [r3.2, nI_1]⟩
          obtain ⟨c, c1, c2, c3⟩ := count_2 hR2 hl hb (by omega)
          rw [c1, Option.bind_some]
          generalize hd : runN tb 48 57 3 (p + n + 1) = d at c2 c3 ⊢
          have hd3 : d ≤ 3 := by rw [← hd]; exact runN_le _ _ _ _ _
          have hnum := numP_lt (tb := tb) (p := p + n + 1) (n := d) (fun i hi => runN_in (m := 3) (by rw [hd]; exact hi))
          have h10 : 10 ^ d ≤ 10 ^ 3 := Nat.pow_le_pow_right (by omega) hd3
          by_cases h4 : d = 0
          · rw [if_pos h4] at c2
            rw [if_pos c2, if_pos (Or.inl h4)]
            exact ⟨_, rfl, rfl, c3, hR6, hB⟩
          · rw [if_neg h4] at c2
            rw [if_neg (show ¬ c.1 = -1 from fun z => by
              rw [c2] at z
              exact nI_pos (n := numP tb (p + n + 1) d) (by omega) (by rw [z]; decide)), byte_2 c3 hl (by omega), Option.bind_some]
            by_cases h5 : byI tb (p + n + 1 + d) = 59
            · obtain ⟨w2, m1, m2, m3⟩ := insert_6 hR6 (by omega) hB hok (numP tb (p + n + 1) d) 0 false
              have m1 : f_X6_insert w6 (pk (cdL (letP tb p n))) (nI (numP tb (p + n + 1) d)) 0 0 = some w2 := m1
              rw [if_pos h5, if_neg (fun z => z.elim h4 (fun q => q h5)), c2, m1, Option.bind_some]
              exact ⟨_, rfl, rfl, ⟨c3.1, by show c.2.2.2 + 1 = _; rw [c3.2, nI_1]⟩, m2, m3⟩
            · rw [if_neg h5, if_pos (Or.inr h5)]
              exact ⟨_, rfl, rfl, c3, hR6, hB⟩
      · rw [if_neg h3, if_pos (Or.inr h3)]
        exact ⟨_, rfl, rfl, r3, hR6, hB⟩
/-- the items, one behind the other: none: all well, and the list; some: where it is wrong -/
def itemsN (tb : List Nat) : Nat → Nat → List Wd → Option Nat × List Wd
  | 0, _, ws => (none, ws)
  | f + 1, p, ws => if p < tb.length then (if (itemN tb p ws).1 then itemsN tb f (itemN tb p ws).2.1 (itemN tb p ws).2.2 else (some (itemN tb p ws).2.1, (itemN tb p ws).2.2)) else (none, ws)
def readN (tb : List Nat) : Option Nat × List Wd := itemsN tb 51 0 []
theorem items_ok {tb : List Nat} : ∀ {f p : Nat} {ws : List Wd}, okWs ws → okWs (itemsN tb f p ws).2
  | 0, _, _, h => h
  | f + 1, p, ws, h => by
    unfold itemsN
    split
    · split
      · exact items_ok (item_ok h)
      · exact item_ok h
    · exact h
theorem into_2 {tb : List Nat} {w : T2} {w6 : T6} (hR : R2 tb w) (hB : okB w6) (hl : tb.length ≤ 150) (hb : ∀ b ∈ tb, b ≤ 127) : ∃ r, f_X2_readInto w w6 = some r ∧ r.1 = idxI (readN tb).1 ∧ R2 tb r.2.1 ∧ okB r.2.2 ∧ R6 (readN tb).2 r.2.2 := by
  have ho0 : okWs [] := ⟨by simp, by simp, fun i j p q hi => by simp at hi⟩
  have key : ∀ (f j p : Nat) (ws : List Wd) (u : T2) (u6 : T6), f + j = 51 → j = ws.length → okWs ws → R2p tb p u → R6 ws u6 → okB u6 → p ≤ 150 → ∀ fuel, f < fuel → ∃ r, lp (σ := Int32 × T2 × T6) (ρ := Int32 × T2 × T6) (fun v2 => (if 50 < v2.1 then (some (.inr ((-1), v2.2.1, v2.2.2))) else (if v2.2.1.2.1 ≤ v2.2.1.2.2 then (some (.inr ((-1), v2.2.1, v2.2.2))) else Option.bind (α := Int32 × T2 × T6) (f_X2_readItem v2.2.1 v2.2.2) (fun x6 => (if x6.1 = 0 then (some (.inr (x6.2.1.2.2, x6.2.1, x6.2.2))) else (some (.inl ((v2.1 + 1), x6.2.1, x6.2.2)))))))) fuel (nI j, u, u6) = some r ∧ r.1 = idxI (itemsN tb f p ws).1 ∧ R2 tb r.2.1 ∧ okB r.2.2 ∧ R6 (itemsN tb f p ws).2 r.2.2 := by
    intro f
    induction f with
    | zero =>
      intro j p ws u u6 hj hw ho hu h6 hb6 hp fuel hf
      have := ho.1
      omega
    | succ f ih =>
      intro j p ws u u6 hj hw ho hu h6 hb6 hp fuel hf
      have hwl := ho.1
      obtain ⟨n, rfl⟩ := Nat.exists_eq_succ_of_ne_zero (show fuel ≠ 0 by omega)
      have hlen : u.2.1 = nI tb.length := hu.1.1
      have hpos : u.2.2 = nI p := hu.2
      unfold itemsN
      by_cases h1 : p < tb.length
      · obtain ⟨r, r1, r2, r3, r4, r5⟩ := item_2 hu h6 ho hb6 hl hb (by omega)
        rw [if_pos h1]
        cases hi : (itemN tb p ws).1 with
        | true =>
          obtain ⟨q1, q2, q3, q4⟩ := item_pos hi
          rw [hi] at r2
          rw [if_pos rfl]
          obtain ⟨t, t1, t2⟩ := ih (j + 1) (itemN tb p ws).2.1 (itemN tb p ws).2.2 r.2.1 r.2.2 (by omega) (by omega) (item_ok ho) r3 r4 r5 (by omega) n (by omega)
          refine ⟨t, ?_, t2⟩
          rw [← t1]
          conv => lhs; unfold lp
          dsimp only
          rw [if_neg (show ¬ (50 : Int32) < nI j from nI_nlt (a := 50) (b := j) (by omega) (by omega)), hlen, hpos, if_neg (nI_ge h1 (by omega)), r1, Option.bind_some, r2, if_neg (show ¬ b01 true = 0 from by decide), nI_1]
        | false =>
          rw [hi] at r2
          rw [if_neg (by decide)]
          refine ⟨(r.2.1.2.2, r.2.1, r.2.2), ?_, r3.2, r3.1, r5, r4⟩
          conv => lhs; unfold lp
          dsimp only
          rw [if_neg (show ¬ (50 : Int32) < nI j from nI_nlt (a := 50) (b := j) (by omega) (by omega)), hlen, hpos, if_neg (nI_ge h1 (by omega)), r1, Option.bind_some, r2, if_pos (show b01 false = 0 from rfl)]
      · rw [if_neg h1]
        refine ⟨(-1, u, u6), ?_, rfl, hu.1, hb6, h6⟩
        conv => lhs; unfold lp
        dsimp only
        rw [if_neg (show ¬ (50 : Int32) < nI j from nI_nlt (a := 50) (b := j) (by omega) (by omega)), hlen, hpos, if_pos (nI_le (by omega) (by omega))]
  unfold f_X2_readInto f_X6_clear
  rw [Option.bind_some]
  obtain ⟨r, k1, k2, k3, k4, k5⟩ := key 51 0 0 [] (w.1, w.2.1, 0) (w6.1, w6.2.1, w6.2.2.1, w6.2.2.2.1, w6.2.2.2.2.1, 0) rfl rfl ho0 ⟨hR, rfl⟩ ⟨rfl, fun k q hk => by simp at hk⟩ hB (by omega) 5000 (by omega)
  exact ⟨r, k1, k2, k3, k4, k5⟩
