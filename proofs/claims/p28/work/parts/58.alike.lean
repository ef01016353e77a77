/-! ===== two writers that are alike say so ===== -/
theorem lp_use {σ ρ β : Type} (P : Option β → Prop) {body : σ → Option (σ ⊕ ρ)} {s0 : σ} {C : ρ → Option β} {fuel : Nat} (Inv : Nat → σ → Prop) (Post : ρ → Prop) (N : Nat) (h0 : Inv 0 s0) (h1 : ∀ j s, j < N → Inv j s → ∃ s', body s = some (.inl s') ∧ Inv (j + 1) s') (h2 : ∀ s, Inv N s → ∃ r, body s = some (.inr r) ∧ Post r) (hf : N < fuel) (hk : ∀ r, Post r → P (C r)) : P (Option.bind (lp body fuel s0) C) := by
  obtain ⟨r, e, hp⟩ := lp_inv Inv Post N h0 h1 h2 hf
  rw [e, Option.bind_some]
  exact hk r hp
theorem lp_end {σ ρ : Type} (P : Option ρ → Prop) {body : σ → Option (σ ⊕ ρ)} {s0 : σ} {fuel : Nat} (Inv : Nat → σ → Prop) (Post : ρ → Prop) (N : Nat) (h0 : Inv 0 s0) (h1 : ∀ j s, j < N → Inv j s → ∃ s', body s = some (.inl s') ∧ Inv (j + 1) s') (h2 : ∀ s, Inv N s → ∃ r, body s = some (.inr r) ∧ Post r) (hf : N < fuel) (hk : ∀ r, Post r → P (some r)) : P (lp body fuel s0) := by
  obtain ⟨r, e, hp⟩ := lp_inv Inv Post N h0 h1 h2 hf
  rw [e]
  exact hk r hp
/-- what is wanted of the doubles -/
def Dbl : Prop := (∀ a b : Int64, ¬ b = 0 → nn (FP.ddiv (FP.l2d a) (FP.l2d b)) = some ()) ∧ (∀ r : UInt64, nn r = some () → Op.cmpValue (FP.dcmp r r) .l = 0) ∧ ∀ (S : Int) (T : Nat), 0 < T → T < 2 ^ 31 → -2 ^ 31 ≤ S → S ≤ (T : Int) → ¬ 0 < Op.cmpValue (FP.dcmp (FP.ddiv (FP.l2d (Int64.ofInt S)) (FP.l2d (Int64.ofInt (T : Int)))) FP.dconst1) .g
theorem savO_ok (hD : Dbl) {ws : List Wd} (ho : okWs ws) : ∃ r, savO (sumS ws ws.length) (sumT ws ws.length) = some r ∧ Op.cmpValue (FP.dcmp r r) .l = 0 := by
  have hT := sumT_le ho ws.length
  have hl := ho.1
  unfold savO
  by_cases e : sumT ws ws.length = 0
  · rw [if_pos e]
    exact ⟨_, rfl, hD.2.1 _ (by decide)⟩
  · have hn := hD.1 (Int64.ofInt (sumS ws ws.length)) (Int64.ofInt (sumT ws ws.length : Int)) (fun z => e ((T64 (by omega)).mp z))
    rw [if_neg e, hn, Option.bind_some]
    exact ⟨_, rfl, hD.2.1 _ hn⟩
theorem v5o : ((0 : Int32) = 0 ∨ (0 : Int32) = 1 ∨ (0 : Int32) = 2 ∨ (0 : Int32) = 3 ∨ (0 : Int32) = 4) ∧ ((1 : Int32) = 0 ∨ (1 : Int32) = 1 ∨ (1 : Int32) = 2 ∨ (1 : Int32) = 3 ∨ (1 : Int32) = 4) ∧ ((2 : Int32) = 0 ∨ (2 : Int32) = 1 ∨ (2 : Int32) = 2 ∨ (2 : Int32) = 3 ∨ (2 : Int32) = 4) ∧ ((3 : Int32) = 0 ∨ (3 : Int32) = 1 ∨ (3 : Int32) = 2 ∨ (3 : Int32) = 3 ∨ (3 : Int32) = 4) ∧ ((4 : Int32) = 0 ∨ (4 : Int32) = 1 ∨ (4 : Int32) = 2 ∨ (4 : Int32) = 3 ∨ (4 : Int32) = 4) := ⟨Or.inl rfl, Or.inr (Or.inl rfl), Or.inr (Or.inr (Or.inl rfl)), Or.inr (Or.inr (Or.inr (Or.inl rfl))), Or.inr (Or.inr (Or.inr (Or.inr rfl)))⟩
theorem val_0 (ws : List Wd) (k : Nat) (q : Wd) : valI ws k q 0 = nI q.1.length := by unfold valI; rw [if_pos rfl]
theorem val_1 (ws : List Wd) (k : Nat) (q : Wd) : valI ws k q 1 = nI q.2.1 := by unfold valI; rw [if_neg (by decide), if_pos rfl]
theorem val_3 (ws : List Wd) (k : Nat) (q : Wd) : valI ws k q 3 = b01 q.2.2.2 := by unfold valI; rw [if_neg (by decide), if_neg (by decide), if_neg (by decide), if_pos rfl]
theorem val_4 {ws : List Wd} {k : Nat} {q : Wd} (hk : ws[k]? = some q) : valI ws k q 4 = nI (rankW ws q) := by unfold valI; rw [if_neg (by decide), if_neg (by decide), if_neg (by decide), if_neg (by decide), rank_w hk]
theorem val_p {ws vs : List Wd} (h : ws.Perm vs) {i j : Nat} {q : Wd} (hi : ws[i]? = some q) (hj : vs[j]? = some q) (v : Int32) : valI ws i q v = valI vs j q v := by
  unfold valI
  rw [rank_w hi, rank_w hj, rankW_p h]
section ALIKE
variable {g h : Sg} {x y : T8}
theorem isWord_ok (hA : Al g x) (hB : Al h y) (hS : Sim g.1 h.1) {i j : Nat} {q : Wd} (hi : (sWs g.1)[i]? = some q) (hj : (sWs h.1)[j]? = some q) : f_L_isWord x (nI i) y (nI j) = some 1 := by
  have hv : ∀ v : Int32, (v = 0 ∨ v = 1 ∨ v = 2 ∨ v = 3 ∨ v = 4) → jr (f_X8_word y (nI j) v) = some (valI (sWs g.1) i q v) := fun v h => by rw [q_word hB hj h, val_p hS.1 hi hj]
  have hq := (hA.1.1.1.wd hi).1.1
  unfold f_L_isWord
  rw [q_word hA hi v5o.1, Option.bind_some, hv 0 v5o.1, Option.bind_some, if_pos rfl, Option.bind_some]
  rw [lp_go (fun j => ((1 : Int32), nI j)) q.1.length (1 : Int32) (by rw [nI_0]) (fun k hk => by
    dsimp only
    rw [Option.bind_some, val_0, if_neg (nI_ge hk (by omega)), if_neg (by decide), q_letter hA hi hk, Option.bind_some, q_letter hB hj hk, Option.bind_some, if_pos rfl, Option.bind_some, nI_1]) (by
    dsimp only
    rw [Option.bind_some, val_0, if_pos (nI_le (Nat.le_refl _) (by omega))]) (by omega), Option.bind_some, if_neg (by decide)]
  rw [q_word hA hi v5o.2.1, Option.bind_some, hv 1 v5o.2.1, Option.bind_some, if_pos rfl]
  rw [q_word hA hi v5o.2.2.1, Option.bind_some, hv 2 v5o.2.2.1, Option.bind_some, if_pos rfl]
  rw [q_word hA hi v5o.2.2.2.1, Option.bind_some, hv 3 v5o.2.2.2.1, Option.bind_some, if_pos rfl]
  rw [q_word hA hi v5o.2.2.2.2, Option.bind_some, hv 4 v5o.2.2.2.2, Option.bind_some, if_pos rfl]
  rw [q_steps hA hi, Option.bind_some, q_steps hB hj, Option.bind_some, stepsW_p hS.1, if_pos rfl]
  rw [q_short hA hi, Option.bind_some, q_short hB hj, Option.bind_some, shortW_p hS.1, if_pos rfl]
theorem areAlike_ok (hD : Dbl) (hA : Al g x) (hB : Al h y) (hS : Sim g.1 h.1) : ∃ c d, f_L_areAlike x y = some (1, c, d) := by
  have hwl := hA.1.1.1.1
  have hnl := sN_le g.1
  have htl := hA.1.1.2.1.1
  obtain ⟨r, s1, s2⟩ := savO_ok hD hA.1.1.1
  have s3 := q_saving hB
  rw [← sumS_p hS.1, ← sumT_p hS.1, s1] at s3
  unfold f_L_areAlike
  rw [q_clash hA, Option.bind_some, q_clash hB, Option.bind_some, clashW_p hS.1, if_pos rfl, q_saving hA, s1, Option.bind_some, s3, Option.bind_some, if_pos s2, Option.bind_some]
  refine lp_use (fun z => ∃ c d, z = some ((1 : Int32), c, d)) (fun j v => v.1 = 1 ∧ v.2.1 = nI j) (fun r => r.1 = 1) 11 ⟨rfl, nI_0.symm⟩ (fun j v hj hv => ?_) (fun v hv => ?_) (by omega) (fun r1 hr1 => ?_)
  · obtain ⟨c, h1⟩ := q_set (hA.c v.2.2.1) (v := nI j) (nI_pos (by omega)) (nI_lt (b := 11) hj (by omega))
    obtain ⟨d, h2⟩ := q_set (hB.c v.2.2.2) (v := nI j) (nI_pos (by omega)) (nI_lt (b := 11) hj (by omega))
    rw [hv.2, if_neg (show ¬ (11 : Int32) ≤ nI j from nI_ge (a := j) (b := 11) hj (by omega)), hv.1, if_neg (by decide), h1, Option.bind_some, h2, Option.bind_some, hS.set]
    dsimp only
    rw [if_pos rfl, Option.bind_some, nI_1]
    exact ⟨_, rfl, rfl, rfl⟩
  · rw [hv.2, if_pos (by decide)]
    exact ⟨_, rfl, hv.1⟩
  rw [hr1]
  refine lp_use (fun z => ∃ c d, z = some ((1 : Int32), c, d)) (fun j v => v.1 = 1 ∧ v.2.1 = nI j) (fun r => r.1 = 1) (sN g.1) ⟨rfl, nI_0.symm⟩ (fun j v hj hv => ?_) (fun v hv => ?_) (by omega) (fun r2 hr2 => ?_)
  · obtain ⟨c1, h1⟩ := q_set (hA.c v.2.2.1) (v := 7) (by decide) (by decide)
    obtain ⟨i, i', q, a1, b1, a2, b2⟩ := hS.cand hA.1.1 hB.1.1 hj
    obtain ⟨c2, h2⟩ := q_cand (hA.c c1) hj a1
    obtain ⟨d2, h3⟩ := q_cand (hB.c v.2.2.2) (k := j) (by rw [← hS.n]; exact hj) b1
    rw [h1, Option.bind_some, set_7]
    dsimp only
    rw [hv.2, if_neg (nI_ge hj (by omega)), hv.1, if_neg (by decide), h2, Option.bind_some, h3, Option.bind_some]
    dsimp only
    rw [isWord_ok (hA.c c2) (hB.c d2) hS a2 b2, Option.bind_some, nI_1]
    exact ⟨_, rfl, rfl, rfl⟩
  · obtain ⟨c1, h1⟩ := q_set (hA.c v.2.2.1) (v := 7) (by decide) (by decide)
    rw [h1, Option.bind_some, set_7]
    dsimp only
    rw [hv.2, if_pos (nI_le (Nat.le_refl _) (by omega))]
    exact ⟨_, rfl, hv.1⟩
  rw [hr2]
  refine lp_use (fun z => ∃ c d, z = some ((1 : Int32), c, d)) (fun j v => v.1 = 1 ∧ v.2.1 = nI j) (fun r => r.1 = 1) 11 ⟨rfl, nI_0.symm⟩ (fun j v hj hv => ?_) (fun v hv => ?_) (by omega) (fun r3 hr3 => ?_)
  · obtain ⟨c, h1⟩ := q_display (hA.c v.2.2.1) (i := j) (by omega)
    obtain ⟨d, h2⟩ := q_display (hB.c v.2.2.2) (i := j) (by omega)
    rw [hv.2, if_neg (show ¬ (11 : Int32) ≤ nI j from nI_ge (a := j) (b := 11) hj (by omega)), hv.1, if_neg (by decide), h1, Option.bind_some, h2, Option.bind_some, hS.sh hA.1.1 hB.1.1]
    dsimp only
    rw [if_pos rfl, Option.bind_some, nI_1]
    exact ⟨_, rfl, rfl, rfl⟩
  · rw [hv.2, if_pos (by decide)]
    exact ⟨_, rfl, hv.1⟩
  rw [hr3]
  refine lp_end (fun z => ∃ c d, z = some ((1 : Int32), c, d)) (fun j v => v.1 = 1 ∧ v.2.1 = nI j) (fun r => r.1 = 1) (sTx g.1).length ⟨rfl, nI_0.symm⟩ (fun j v hj hv => ?_) (fun v hv => ?_) (by omega) (fun r4 hr4 => ⟨r4.2.1, r4.2.2, by rw [← hr4]⟩)
  · obtain ⟨c1, h1⟩ := q_set (hA.c v.2.2) (v := 9) (by decide) (by decide)
    obtain ⟨l, hl⟩ := get_of_lt hj
    have hl2 : (sTx h.1)[j]? = some l := by rw [← hS.tx]; exact hl
    obtain ⟨l1, l2⟩ := hA.1.1.2.1.2 l (List.mem_of_getElem? hl)
    have l3 := l1.1
    have w1 : jr (f_X8_written (x.1, x.2.1, x.2.2.1, x.2.2.2.1, c1) (nI j) (-1)) = some (nI l.length) := q_wlen (hA.c c1) hl
    have w2 : jr (f_X8_written (y.1, y.2.1, y.2.2.1, y.2.2.2.1, r3.2.2) (nI j) (-1)) = some (nI l.length) := q_wlen (hB.c r3.2.2) hl2
    rw [h1, Option.bind_some, set_9]
    dsimp only
    rw [hv.2, if_neg (nI_ge hj (by omega)), hv.1, if_neg (by decide), w1, Option.bind_some, w2, Option.bind_some, if_pos rfl, if_neg (nI_nle l2 (by omega)), if_neg (show ¬ (10 : Int32) < nI l.length from nI_nlt (a := 10) (b := l.length) l3 (by omega)), Option.bind_some]
    rw [lp_go (fun j => ((1 : Int32), nI j)) l.length (1 : Int32) (by rw [nI_0]) (fun k hk => by
      have w3 : jr (f_X8_written (x.1, x.2.1, x.2.2.1, x.2.2.2.1, c1) (nI j) (nI k)) = some (nI (l.getD k 0)) := q_written (hA.c c1) hl hk
      have w4 : jr (f_X8_written (y.1, y.2.1, y.2.2.1, y.2.2.2.1, r3.2.2) (nI j) (nI k)) = some (nI (l.getD k 0)) := q_written (hB.c r3.2.2) hl2 hk
      dsimp only
      rw [if_neg (nI_ge hk (by omega)), if_neg (by decide), w3, Option.bind_some, w4, Option.bind_some, if_pos rfl, Option.bind_some, nI_1]) (by
      dsimp only
      rw [if_pos (nI_le (Nat.le_refl _) (by omega))]) (by omega), Option.bind_some, nI_1]
    exact ⟨_, rfl, rfl, rfl⟩
  · obtain ⟨c1, h1⟩ := q_set (hA.c v.2.2) (v := 9) (by decide) (by decide)
    rw [h1, Option.bind_some, set_9]
    dsimp only
    rw [hv.2, if_pos (nI_le (Nat.le_refl _) (by omega)), hv.1, bz_b (Or.inr rfl), Option.bind_some]
    exact ⟨_, rfl, rfl⟩
end ALIKE
