/-! ===== the reference reads an item, a list ===== -/
section RD9
variable {m : T9} {tb : List Nat} {ws : List Wd} {F A : Nat → Int32} {p : Nat}
theorem passes_9 (hT : Tb9 tb m) (hl : tb.length ≤ 150) (hp : p < 2 ^ 31) : f_X9_passesByte (rdm m F A (nI p)) 59 = some (b01 (decide (byI tb p = 59)), rdm m F A (nI (p + if byI tb p = 59 then 1 else 0))) := by
  unfold f_X9_passesByte
  rw [here_9 hT hl hp, Option.bind_some]
  by_cases e : byI tb p = 59
  · rw [if_pos e, Option.bind_some, if_neg (by decide), Option.bind_some, bz_b (Or.inr rfl), Option.bind_some, decide_eq_true e, if_pos e]
    dsimp only [rdm]
    rw [nI_1]
    rfl
  · rw [if_neg e, Option.bind_some, if_pos rfl, Option.bind_some, bz_b (Or.inl rfl), Option.bind_some, decide_eq_false e, if_neg e]
    dsimp only [rdm]
    rw [show nI p + 0 = nI (p + 0) from nI_add p 0]
    rfl
def rdItem (m : T9) (tb : List Nat) (ws : List Wd) (F A : Nat → Int32) (p : Nat) (z : Option (Int32 × T9)) : Prop :=
  ((itemN tb p ws).1 = true → ∃ F', z = some (1, rdm m F' A (nI (itemN tb p ws).2.1)) ∧ R9w (itemN tb p ws).2.2 F' ∧ kept F F') ∧
  ((itemN tb p ws).1 = false → ∃ F', z = some (0, rdm m F' A (nI (itemN tb p ws).2.1)))
theorem rdItem_no {q : Nat} {us : List Wd} {F' : Nat → Int32} (h : itemN tb p ws = (false, q, us)) : rdItem m tb ws F A p (some (0, rdm m F' A (nI q))) := by
  unfold rdItem
  rw [h]
  exact ⟨fun z => (by cases z), fun _ => ⟨F', rfl⟩⟩
theorem readsItem_9 (hT : Tb9 tb m) (hl : tb.length ≤ 150) (hb : ∀ b ∈ tb, b ≤ 127) (hp : p ≤ 150) (hW : R9w ws F) (ho : okWs ws) : rdItem m tb ws F A p (f_X9_readsItem (rdm m F A (nI p))) := by
  have hwl := ho.1
  have h0 : rd (rdm m F A (nI p)).1 1050 0 = some (nI ws.length) := rd_c 0 rfl (by omega) hW.1
  have hinb : ∀ q : Nat, f_X9_in (byI tb q).toInt64 48 57 = some (b01 (inB tb 48 57 q)) := fun q => inBy_9 hb (lo := 48) (hi := 57) (by decide) (by decide) (by omega) (by omega)
  unfold f_X9_readsItem
  rw [h0, Option.bind_some]
  by_cases h1 : 50 ≤ ws.length
  · rw [if_pos (show nI ws.length = 50 from by rw [show ws.length = 50 by omega]; rfl)]
    exact rdItem_no (F' := F) (by unfold itemN; rw [if_pos h1])
  · rw [if_neg (show ¬ nI ws.length = 50 from fun z => by have := (nI_eq (a := ws.length) (b := 50) (by omega) (by omega)).mp z; omega)]
    have hn10 : runN tb 97 122 10 p ≤ 10 := runN_le _ _ _ _ _
    rcases readsWord_9 (F := F) (A := A) hT hl hb hp hW ho (by omega) with ⟨c, F', e⟩ | ⟨c1, c2, F', e⟩ | ⟨c1, c2, F', e, g1, g2, g3⟩
    · rw [e, Option.bind_some]
      exact rdItem_no (F' := F') (by unfold itemN; rw [if_neg h1, if_pos c])
    · rw [e, Option.bind_some]
      exact rdItem_no (F' := F') (by unfold itemN; rw [if_neg h1, if_neg c1, if_pos c2])
    · have hit : itemN tb p ws = if runN tb 48 57 3 (p + runN tb 97 122 10 p + 1) = 0 ∨ byI tb (p + runN tb 97 122 10 p + 1 + runN tb 48 57 3 (p + runN tb 97 122 10 p + 1)) ≠ 59 then (false, p + runN tb 97 122 10 p + 1 + runN tb 48 57 3 (p + runN tb 97 122 10 p + 1), ws) else (true, p + runN tb 97 122 10 p + 1 + runN tb 48 57 3 (p + runN tb 97 122 10 p + 1) + 1, ws ++ [(letP tb p (runN tb 97 122 10 p), numP tb (p + runN tb 97 122 10 p + 1) (runN tb 48 57 3 (p + runN tb 97 122 10 p + 1)), 0, false)]) := by
        unfold itemN
        rw [if_neg h1, if_neg c1, if_neg (fun z => z c2)]
      rw [e, Option.bind_some]
      have hll : (letP tb p (runN tb 97 122 10 p)).length = runN tb 97 122 10 p := by simp [letP]
      have hin1 : ∀ i, i < runN tb 97 122 10 p → inB tb 97 122 (p + i) = true := fun i hi => runN_in (m := 10) hi
      generalize runN tb 97 122 10 p = n at hit hn10 e g1 g2 g3 hll c1 c2 hin1 ⊢
      generalize hB : p + n + 1 = B at hit e ⊢
      have hd3 : runN tb 48 57 3 B ≤ 3 := runN_le _ _ _ _ _
      have hin : ∀ i, i < runN tb 48 57 3 B → inB tb 48 57 (B + i) = true := fun i hi => runN_in (m := 3) hi
      have hend : runN tb 48 57 3 B < 3 → inB tb 48 57 (B + runN tb 48 57 3 B) = false := fun hx => runN_end (m := 3) hx
      have hnum := numP_lt (tb := tb) (p := B) (n := runN tb 48 57 3 B) hin
      generalize runN tb 48 57 3 B = d at hit hd3 hin hend hnum ⊢
      have h10 : 10 ^ d ≤ 10 ^ 3 := Nat.pow_le_pow_right (by omega) hd3
      have e3 : nI B + 3 = nI (B + 3) := nI_add B 3
      dsimp only
      rw [if_neg (show ¬ (1 : Int32) = 0 from by decide)]
      refine lp_use (fun z => rdItem m tb ws F A p z) (fun j v => v = (nI (numP tb B j), rdm m F' A (nI (B + j)))) (fun r => r = (nI (numP tb B d), rdm m F' A (nI (B + d)))) d (by rw [Nat.add_zero]; rfl) (fun j v hj hv => ?_) (fun v hv => ?_) (by omega) (fun r hr => ?_)
      · subst hv
        obtain ⟨b1, b2, b3⟩ := inB_lt (hin j hj)
        have ec : 10 * nI (numP tb B j) + byI tb (B + j) - 48 = nI (numP tb B (j + 1)) := by
          unfold byI
          rw [if_pos b1]
          have em : (10 : Int32) * nI (numP tb B j) = nI (10 * numP tb B j) := (Int32.ofNat_mul 10 (numP tb B j)).symm
          rw [em, nI_add]
          have : nI (10 * numP tb B j + tb.getD (B + j) 0) - 48 = nI (10 * numP tb B j + tb.getD (B + j) 0 - 48) := nI_sub _ 48 (by omega)
          rw [this]
          show nI _ = nI (10 * numP tb B j + (tb.getD (B + j) 0 - 48))
          congr 1; omega
        dsimp only [rdm]
        rw [here_9 hT hl (by omega), Option.bind_some, hinb, Option.bind_some, hin j hj, if_neg (show ¬ b01 true = 0 from by decide), e3, if_neg (nI_ge (by omega) (by omega)), Option.bind_some, ec, nI_1]
        exact ⟨_, rfl, rfl⟩
      · subst hv
        dsimp only [rdm]
        rw [here_9 hT hl (by omega), Option.bind_some, hinb, Option.bind_some]
        cases hbb : inB tb 48 57 (B + d) with
        | false =>
          rw [if_pos (show b01 false = 0 from rfl)]
          exact ⟨_, rfl, rfl⟩
        | true =>
          have hd : d = 3 := by
            by_cases e4 : d < 3
            · rw [hend e4] at hbb; cases hbb
            · omega
          rw [if_neg (show ¬ b01 true = 0 from by decide), e3, hd, if_pos (nI_le (Nat.le_refl _) (by omega))]
          exact ⟨_, rfl, rfl⟩
      · subst hr
        dsimp only [rdm]
        by_cases e0 : d = 0
        · rw [if_pos (show nI (B + d) = nI B from by rw [e0, Nat.add_zero])]
          rw [if_pos (Or.inl e0)] at hit
          exact rdItem_no (F' := F') hit
        · rw [if_neg (show ¬ nI (B + d) = nI B from fun z => by have := (nI_eq (by omega) (by omega)).mp z; omega)]
          have hpb := passes_9 (m := m) (tb := tb) (F := F') (A := A) (p := B + d) hT hl (by omega)
          dsimp only [rdm] at hpb
          rw [hpb, Option.bind_some]
          dsimp only
          by_cases e59 : byI tb (B + d) = 59
          · rw [if_neg (fun z => z.elim e0 (fun y => y e59))] at hit
            have f0 : F' 0 = nI ws.length := by rw [g1 0 (by omega)]; exact hW.1
            rw [decide_eq_true e59, if_neg (show ¬ b01 true = 0 from by decide), if_pos e59, rd_c (i := 0) 0 rfl (by omega) f0, Option.bind_some, at1_9, Option.bind_some, wr_c _ rfl (by omega), Option.bind_some, rd_c (i := 0) 0 rfl (by omega) ((upd_n (by omega)).trans f0), Option.bind_some, at2_9, Option.bind_some, wr_c _ rfl (by omega), Option.bind_some, rd_c (i := 0) 0 rfl (by omega) ((upd_n (by omega)).trans ((upd_n (by omega)).trans f0)), Option.bind_some, at3_9, Option.bind_some, wr_c _ rfl (by omega), Option.bind_some, rd_c (i := 0) 0 rfl (by omega) ((upd_n (by omega)).trans ((upd_n (by omega)).trans ((upd_n (by omega)).trans f0))), Option.bind_some, wr_c (i := 0) 0 rfl (by omega), Option.bind_some, nI_1]
            have k0 : upd (upd (upd (upd F' (20 + 14 * ws.length + 1) (nI (numP tb B d))) (20 + 14 * ws.length + 2) 0) (20 + 14 * ws.length + 3) 0) 0 (nI (ws.length + 1)) 0 = nI (ws.length + 1) := upd_e
            have k1 : upd (upd (upd (upd F' (20 + 14 * ws.length + 1) (nI (numP tb B d))) (20 + 14 * ws.length + 2) 0) (20 + 14 * ws.length + 3) 0) 0 (nI (ws.length + 1)) (20 + 14 * ws.length + 1) = nI (numP tb B d) := by rw [upd_n (by omega), upd_n (by omega), upd_n (by omega), upd_e]
            have k2 : upd (upd (upd (upd F' (20 + 14 * ws.length + 1) (nI (numP tb B d))) (20 + 14 * ws.length + 2) 0) (20 + 14 * ws.length + 3) 0) 0 (nI (ws.length + 1)) (20 + 14 * ws.length + 2) = 0 := by rw [upd_n (by omega), upd_n (by omega), upd_e]
            have k3 : upd (upd (upd (upd F' (20 + 14 * ws.length + 1) (nI (numP tb B d))) (20 + 14 * ws.length + 2) 0) (20 + 14 * ws.length + 3) 0) 0 (nI (ws.length + 1)) (20 + 14 * ws.length + 3) = 0 := by rw [upd_n (by omega), upd_e]
            have ku : ∀ i, i ≠ 0 → (i < 20 + 14 * ws.length + 1 ∨ 20 + 14 * ws.length + 4 ≤ i) → upd (upd (upd (upd F' (20 + 14 * ws.length + 1) (nI (numP tb B d))) (20 + 14 * ws.length + 2) 0) (20 + 14 * ws.length + 3) 0) 0 (nI (ws.length + 1)) i = F' i := fun i h0 hi => by rw [upd_n h0, upd_n (by omega), upd_n (by omega), upd_n (by omega)]
            generalize upd (upd (upd (upd F' (20 + 14 * ws.length + 1) (nI (numP tb B d))) (20 + 14 * ws.length + 2) 0) (20 + 14 * ws.length + 3) 0) 0 (nI (ws.length + 1)) = K at k0 k1 k2 k3 ku ⊢
            unfold rdItem
            rw [hit]
            refine ⟨fun _ => ⟨K, rfl, hW.app ho k0 (fun i h20 hi => by rw [ku i (by omega) (by omega), g1 i (by omega)]) (by rw [ku _ (by omega) (by omega), g2, hll]) k1 k2 k3 (fun i a hi => ?_), fun i i0 hi => by rw [ku i i0 (by omega), g1 i (by omega)]⟩, fun z => (by cases z)⟩
            have hil := lt_of_get hi
            rw [hll] at hil
            rw [ku _ (by omega) (by omega), g3 i hil, List.getD_eq_getElem?_getD, hi]
            rfl
          · rw [decide_eq_false e59, if_pos (show b01 false = 0 from rfl), if_neg e59, Nat.add_zero]
            rw [if_pos (Or.inr e59)] at hit
            exact rdItem_no (F' := F') hit
theorem takes_9 (m : T9) : f_X9_takesBack m = some ((fun i => if i < 1050 then m.2.2.1 i else m.1 i), m.2) := by
  unfold f_X9_takesBack
  refine lp_go (fun j => (nI j, (((fun i => if i < j then m.2.2.1 i else m.1 i), m.2) : T9))) 1050 _ ?_ (fun j hj => ?_) ?_ (by omega)
  · have : (fun i => if i < 0 then m.2.2.1 i else m.1 i) = m.1 := by
      funext i
      rw [if_neg (by omega)]
    rw [this, nI_0]
  · dsimp only
    rw [if_neg (show ¬ (1050 : Int32) ≤ nI j from nI_ge (a := j) (b := 1050) hj (by omega)), rd_nI hj (by omega), Option.bind_some, wr_nI hj (by omega), Option.bind_some, nI_1]
    have e2 : upd (fun i => if i < j then m.2.2.1 i else m.1 i) j (m.2.2.1 j) = (fun i => if i < j + 1 then m.2.2.1 i else m.1 i) := by
      funext i
      unfold upd
      by_cases e : i = j
      · rw [if_pos e, if_pos (by omega), e]
      · rw [if_neg e]
        dsimp only
        by_cases e3 : i < j
        · rw [if_pos e3, if_pos (by omega)]
        · rw [if_neg e3, if_neg (by omega)]
    rw [e2]
  · dsimp only
    rw [if_pos (by decide)]
theorem lays_9 (m : T9) : f_X9_lays m = some (m.1, m.2.1, (fun i => if i < 1050 then m.1 i else m.2.2.1 i), m.2.2.2) := by
  unfold f_X9_lays
  refine lp_go (fun j => (nI j, ((m.1, m.2.1, (fun i => if i < j then m.1 i else m.2.2.1 i), m.2.2.2) : T9))) 1050 _ ?_ (fun j hj => ?_) ?_ (by omega)
  · have : (fun i => if i < 0 then m.1 i else m.2.2.1 i) = m.2.2.1 := by
      funext i
      rw [if_neg (by omega)]
    rw [this, nI_0]
  · dsimp only
    rw [if_neg (show ¬ (1050 : Int32) ≤ nI j from nI_ge (a := j) (b := 1050) hj (by omega)), rd_nI hj (by omega), Option.bind_some, wr_nI hj (by omega), Option.bind_some, nI_1]
    have e2 : upd (fun i => if i < j then m.1 i else m.2.2.1 i) j (m.1 j) = (fun i => if i < j + 1 then m.1 i else m.2.2.1 i) := by
      funext i
      unfold upd
      by_cases e : i = j
      · rw [if_pos e, if_pos (by omega), e]
      · rw [if_neg e]
        dsimp only
        by_cases e3 : i < j
        · rw [if_pos e3, if_pos (by omega)]
        · rw [if_neg e3, if_neg (by omega)]
    rw [e2]
  · dsimp only
    rw [if_pos (by decide)]
theorem items_9 (hT : Tb9 tb m) (hl : tb.length ≤ 150) (hb : ∀ b ∈ tb, b ≤ 127) {F0 : Nat → Int32} : ∀ (f p : Nat) (ws : List Wd) (F : Nat → Int32), f + ws.length = 51 → okWs ws → R9w ws F → kept F0 F → p ≤ 150 → ∀ fuel, f < fuel → ∃ r, lp (σ := T9) (ρ := (Int32 × T9) ⊕ (T9)) (fun v3 => (if v3.2.2.2.2.2.2.2.2.1 ≤ v3.2.2.2.2.2.2.2.2.2 then (some (.inr (.inr v3))) else Option.bind (α := Int32 × T9) (f_X9_readsItem v3) (fun x6 => (if x6.1 = 0 then Option.bind (α := T9) (f_X9_takesBack x6.2) (fun x8 => (some (.inr (.inl (((-10) - x8.2.2.2.2.2.2.2.2.2), x8))))) else (some (.inl x6.2)))))) fuel (rdm m F A (nI p)) = some r ∧ (∀ e, (itemsN tb f p ws).1 = some e → ∃ F' : Nat → Int32, r = .inl (-10 - nI e, rdm m (fun i => if i < 1050 then A i else F' i) A (nI e))) ∧ ((itemsN tb f p ws).1 = none → ∃ (F' : Nat → Int32) (p' : Nat), r = .inr (rdm m F' A (nI p')) ∧ R9w (itemsN tb f p ws).2 F' ∧ kept F0 F') := by
  intro f
  induction f with
  | zero =>
    intro p ws F hf ho _ _ _ fuel _
    have := ho.1
    omega
  | succ f ih =>
    intro p ws F hf ho hW hk hp fuel hfu
    obtain ⟨n, rfl⟩ := Nat.exists_eq_succ_of_ne_zero (show fuel ≠ 0 by omega)
    have hlen : (rdm m F A (nI p)).2.2.2.2.2.2.2.2.1 = nI tb.length := hT.1
    have hri := readsItem_9 (F := F) (A := A) hT hl hb hp hW ho
    unfold rdItem at hri
    unfold itemsN
    by_cases h1 : p < tb.length
    · rw [if_pos h1]
      cases hi : (itemN tb p ws).1 with
      | true =>
        obtain ⟨F', q1, q2, q3⟩ := hri.1 hi
        obtain ⟨b1, b2, b3, b4⟩ := item_pos hi
        rw [if_pos rfl]
        obtain ⟨r, r1, r2⟩ := ih (itemN tb p ws).2.1 (itemN tb p ws).2.2 F' (by omega) (item_ok ho) q2 (hk.tr q3) (by omega) n (by omega)
        refine ⟨r, ?_, r2⟩
        rw [← r1]
        conv => lhs; unfold lp
        dsimp only
        rw [q1, hlen, if_neg (nI_ge h1 (by omega)), Option.bind_some, if_neg (show ¬ (1 : Int32) = 0 from by decide)]
      | false =>
        obtain ⟨F', q1⟩ := hri.2 hi
        rw [if_neg (by decide)]
        refine ⟨.inl (-10 - nI (itemN tb p ws).2.1, rdm m (fun i => if i < 1050 then A i else F' i) A (nI (itemN tb p ws).2.1)), ?_, fun e he => ?_, fun z => (by cases z)⟩
        · conv => lhs; unfold lp
          dsimp only
          rw [q1, hlen, if_neg (nI_ge h1 (by omega)), Option.bind_some, if_pos rfl, takes_9, Option.bind_some]
        · cases he
          exact ⟨F', rfl⟩
    · rw [if_neg h1]
      refine ⟨.inr (rdm m F A (nI p)), ?_, fun e he => (by cases he), fun _ => ⟨F, p, rfl, hW, hk⟩⟩
      conv => lhs; unfold lp
      dsimp only
      rw [hlen, if_pos (nI_le (by omega) (by omega))]
end RD9
