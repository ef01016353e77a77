/-! ===== the word list: changes ===== -/
theorem lp_inv {σ ρ : Type} {body : σ → Option (σ ⊕ ρ)} {s0 : σ} (Inv : Nat → σ → Prop) (Post : ρ → Prop) (N : Nat) (h0 : Inv 0 s0) (h1 : ∀ j s, j < N → Inv j s → ∃ s', body s = some (.inl s') ∧ Inv (j + 1) s') (h2 : ∀ s, Inv N s → ∃ r, body s = some (.inr r) ∧ Post r) {fuel : Nat} (hf : N < fuel) : ∃ r, lp body fuel s0 = some r ∧ Post r := by
  have key : ∀ (k j fuel : Nat) (s : σ), j + k = N → k < fuel → Inv j s → ∃ r, lp body fuel s = some r ∧ Post r := by
    intro k
    induction k with
    | zero =>
      intro j fuel s hj hk hi
      obtain ⟨n, rfl⟩ := Nat.exists_eq_succ_of_ne_zero (show fuel ≠ 0 by omega)
      have e : j = N := by omega
      subst e
      obtain ⟨r, hr, hp⟩ := h2 s hi
      exact ⟨r, by simp only [lp, hr], hp⟩
    | succ k ih =>
      intro j fuel s hj hk hi
      obtain ⟨n, rfl⟩ := Nat.exists_eq_succ_of_ne_zero (show fuel ≠ 0 by omega)
      obtain ⟨s', hs, hi'⟩ := h1 j s (by omega) hi
      obtain ⟨r, hr, hp⟩ := ih (j + 1) n s' (by omega) (by omega) hi'
      exact ⟨r, by simp only [lp, hs]; exact hr, hp⟩
  exact key N 0 fuel s0 (by omega) hf h0
/-- the bits are bits, all fifty -/
def okB (w : T6) : Prop := ∀ k, k < 50 → w.2.2.2.2.1 k = 0 ∨ w.2.2.2.2.1 k = 1
theorem bz_b {x : Int32} (h : x = 0 ∨ x = 1) : bz x = some () := by
  unfold bz
  rw [if_pos h]
theorem cpy_all {α : Type} {f g : Nat → α} {n : Nat} (hn : n < 2 ^ 31) : ∃ r, cpy f g n n 0 0 (nI n) = some r ∧ ∀ i, i < n → r i = f i := by
  unfold cpy
  have e0 : (0 : Int32).toNatClampNeg = 0 := rfl
  rw [if_neg (by
    rw [nI_clamp hn, e0]
    rintro (h | h | h | h | h)
    · exact absurd h (by decide)
    · exact absurd h (by decide)
    · exact nI_pos hn h
    · omega
    · omega)]
  refine ⟨_, rfl, fun i hi => ?_⟩
  rw [nI_clamp hn, e0]
  unfold va_cpy
  rw [if_pos (by omega)]
  congr 1
  omega
theorem copy_6 {ws : List Wd} {w0 w1 : T6} (hR : R6 ws w1) (hl : ws.length ≤ 50) (hB : okB w1) : ∃ w, f_X6_copyFrom w0 w1 = some w ∧ R6 ws w ∧ okB w := by
  unfold f_X6_copyFrom
  obtain ⟨r1, h1, e1⟩ := cpy_all (f := w1.1) (g := w0.1) (n := 50) (by omega)
  obtain ⟨r2, h2, e2⟩ := cpy_all (f := w1.2.1) (g := w0.2.1) (n := 50) (by omega)
  obtain ⟨r3, h3, e3⟩ := cpy_all (f := w1.2.2.1) (g := w0.2.2.1) (n := 50) (by omega)
  obtain ⟨r4, h4, e4⟩ := cpy_all (f := w1.2.2.2.1) (g := w0.2.2.2.1) (n := 50) (by omega)
  have h1 : cpy w1.1 w0.1 50 50 0 0 50 = some r1 := h1
  have h2 : cpy w1.2.1 w0.2.1 50 50 0 0 50 = some r2 := h2
  have h3 : cpy w1.2.2.1 w0.2.2.1 50 50 0 0 50 = some r3 := h3
  have h4 : cpy w1.2.2.2.1 w0.2.2.2.1 50 50 0 0 50 = some r4 := h4
  rw [h1, Option.bind_some, h2, Option.bind_some, h3, Option.bind_some, h4, Option.bind_some]
  obtain ⟨x, hx, hP⟩ := lp_inv (body := fun (v5 : Int32 × T6) => (if 50 ≤ v5.1 then (some (.inr v5.2)) else Option.bind (α := Int32) (rd w1.2.2.2.2.1 50 v5.1) (fun x8 => Option.bind (α := Unit) (bz x8) (fun u10 => Option.bind (α := (Nat → Int32)) (wr v5.2.2.2.2.2.1 50 v5.1 x8) (fun x9 => (some (.inl ((v5.1 + 1), (v5.2.1, v5.2.2.1, v5.2.2.2.1, v5.2.2.2.2.1, x9, v5.2.2.2.2.2.2)))))))))
    (s0 := (0, (r1, r2, r3, r4, w0.2.2.2.2.1, w0.2.2.2.2.2))) (fun j v => v.1 = nI j ∧ v.2.1 = r1 ∧ v.2.2.1 = r2 ∧ v.2.2.2.1 = r3 ∧ v.2.2.2.2.1 = r4 ∧ ∀ i, i < j → v.2.2.2.2.2.1 i = w1.2.2.2.2.1 i) (fun r => r.1 = r1 ∧ r.2.1 = r2 ∧ r.2.2.1 = r3 ∧ r.2.2.2.1 = r4 ∧ ∀ i, i < 50 → r.2.2.2.2.1 i = w1.2.2.2.2.1 i) 50 ⟨nI_0.symm, rfl, rfl, rfl, rfl, fun i h => absurd h (Nat.not_lt_zero i)⟩
    (fun j v hj hv => by
      obtain ⟨v1, v2, v3, v4, v5, v6⟩ := hv
      rw [v1, if_neg (show ¬ (50 : Int32) ≤ nI j from fun q => by have := (nI_leI (a := 50) (b := j) (by omega) (by omega)).mp q; omega), rd_nI hj (by omega), Option.bind_some, bz_b (hB j hj), Option.bind_some, wr_nI hj (by omega), Option.bind_some, nI_1]
      refine ⟨_, rfl, rfl, v2, v3, v4, v5, fun i hi => ?_⟩
      show upd _ j _ i = _
      unfold upd
      by_cases e : i = j
      · rw [if_pos e, e]
      · rw [if_neg e]; exact v6 i (by omega))
    (fun v hv => by
      obtain ⟨v1, v2, v3, v4, v5, v6⟩ := hv
      rw [v1]
      exact ⟨v.2, if_pos (show (50 : Int32) ≤ nI 50 from by decide), v2, v3, v4, v5, v6⟩) (fuel := 5000) (by omega)
  rw [hx, Option.bind_some]
  obtain ⟨p1, p2, p3, p4, p5⟩ := hP
  refine ⟨_, rfl, ⟨hR.1, fun k q hk => ?_⟩, fun k hk => ?_⟩
  · have hkl := lt_of_get hk
    obtain ⟨a1, a2, a3, a4, a5⟩ := hR.2 k q hk
    refine ⟨?_, ?_, ?_, ?_, ?_⟩
    · show x.1 k = _; rw [p1, e1 k (by omega), a1]
    · show x.2.1 k = _; rw [p2, e2 k (by omega), a2]
    · show x.2.2.1 k = _; rw [p3, e3 k (by omega), a3]
    · show x.2.2.2.1 k = _; rw [p4, e4 k (by omega), a4]
    · show x.2.2.2.2.1 k = _; rw [p5 k (by omega), a5]
  · show x.2.2.2.2.1 k = 0 ∨ x.2.2.2.2.1 k = 1
    rw [p5 k hk]; exact hB k hk
theorem isFull_6 {ws : List Wd} {w : T6} (hR : R6 ws w) (hl : ws.length ≤ 50) : f_X6_isFull w = some (if ws.length < 50 then 0 else 1) := by
  unfold f_X6_isFull
  rw [hR.1]
  by_cases e : ws.length < 50
  · rw [if_pos (show nI ws.length < (50 : Int32) from nI_lt (b := 50) e (by omega)), if_pos e]
  · rw [if_neg (show ¬ nI ws.length < (50 : Int32) from nI_nlt (b := 50) (by omega) (by omega)), if_neg e]
theorem insert_6 {ws : List Wd} {w : T6} (hR : R6 ws w) (hl : ws.length < 50) (hB : okB w) {l : List Nat} (h : okL l) (c : Nat) (t : Int32) (a : Bool) : ∃ w', f_X6_insert w (pk (cdL l)) (nI c) t (b01 a) = some w' ∧ R6 (ws ++ [(l, c, t, a)]) w' ∧ okB w' := by
  have hb : b01 a = 0 ∨ b01 a = 1 := by cases a <;> simp [b01]
  unfold f_X6_insert
  rw [isFull_6 hR (by omega), if_pos hl, Option.bind_some, if_pos rfl, hR.1, wrL_nI hl (by omega), Option.bind_some, keysOf_pk h, Option.bind_some, wrL_nI hl (by omega), Option.bind_some, wr_nI hl (by omega), Option.bind_some, wr_nI hl (by omega), Option.bind_some, bz_b hb, Option.bind_some, wr_nI hl (by omega), Option.bind_some, nI_1]
  refine ⟨_, rfl, ⟨by simp, fun k q hk => ?_⟩, fun k hk => ?_⟩
  · by_cases e : k = ws.length
    · subst e
      simp at hk
      subst hk
      refine ⟨?_, ?_, ?_, ?_, ?_⟩
      · show vp_updL _ _ _ _ = _; simp [vp_updL]
      · show vp_updL _ _ _ _ = _; simp [vp_updL]
      · show upd _ _ _ _ = _; simp [upd]
      · show upd _ _ _ _ = _; simp [upd]
      · show upd _ _ _ _ = _; simp [upd]
    · have hkl := lt_of_get hk
      simp at hkl
      rw [List.getElem?_append_left (by omega)] at hk
      obtain ⟨a1, a2, a3, a4, a5⟩ := hR.2 k q hk
      refine ⟨?_, ?_, ?_, ?_, ?_⟩
      · show vp_updL _ _ _ _ = _; simp [vp_updL, e, a1]
      · show vp_updL _ _ _ _ = _; simp [vp_updL, e, a2]
      · show upd _ _ _ _ = _; simp [upd, e, a3]
      · show upd _ _ _ _ = _; simp [upd, e, a4]
      · show upd _ _ _ _ = _; simp [upd, e, a5]
  · show upd _ _ _ k = 0 ∨ upd _ _ _ k = 1
    unfold upd
    split
    · exact hb
    · exact hB k hk
/-- all from k + 1 on, one down, the first j of them -/
def shf {α : Type} (f : Nat → α) (k j : Nat) : Nat → α := fun i => if k ≤ i ∧ i < k + j then f (i + 1) else f i
theorem shf_0 {α : Type} (f : Nat → α) (k : Nat) : shf f k 0 = f := by
  funext i
  unfold shf
  rw [if_neg (by omega)]
theorem shf_at {α : Type} (f : Nat → α) (k j : Nat) : shf f k j (k + 1 + j) = f (k + 1 + j) := by
  unfold shf
  rw [if_neg (by omega)]
theorem shf_up (f : Nat → Int32) (k j : Nat) : upd (shf f k j) (k + j) (f (k + 1 + j)) = shf f k (j + 1) := by
  funext i
  unfold upd shf
  by_cases e : i = k + j
  · rw [if_pos e, if_pos (by omega), e]; congr 1; omega
  · rw [if_neg e]
    by_cases e2 : k ≤ i ∧ i < k + j
    · rw [if_pos e2, if_pos (by omega)]
    · rw [if_neg e2, if_neg (by omega)]
theorem shf_upL (f : Nat → Int64) (k j : Nat) : vp_updL (shf f k j) (k + j) (f (k + 1 + j)) = shf f k (j + 1) := by
  funext i
  unfold vp_updL shf
  by_cases e : i = k + j
  · rw [if_pos e, if_pos (by omega), e]; congr 1; omega
  · rw [if_neg e]
    by_cases e2 : k ≤ i ∧ i < k + j
    · rw [if_pos e2, if_pos (by omega)]
    · rw [if_neg e2, if_neg (by omega)]
theorem remove_6 {ws : List Wd} {w : T6} (hR : R6 ws w) (hl : ws.length ≤ 50) (hB : okB w) {k : Nat} (hk : k < ws.length) : ∃ w', f_X6_remove w (nI k) = some w' ∧ R6 (ws.eraseIdx k) w' ∧ okB w' := by
  unfold f_X6_remove
  rw [has_6 hR hl (by omega), if_pos hk, Option.bind_some, if_neg (by decide)]
  rw [lp_go (fun j => (nI (k + 1 + j), ((shf w.1 k j, shf w.2.1 k j, shf w.2.2.1 k j, shf w.2.2.2.1 k j, shf w.2.2.2.2.1 k j, w.2.2.2.2.2) : T6))) (ws.length - (k + 1)) ((shf w.1 k (ws.length - (k + 1)), shf w.2.1 k (ws.length - (k + 1)), shf w.2.2.1 k (ws.length - (k + 1)), shf w.2.2.2.1 k (ws.length - (k + 1)), shf w.2.2.2.2.1 k (ws.length - (k + 1)), w.2.2.2.2.2) : T6) (by simp only [shf_0, nI_1, Nat.add_zero]) (fun j hj => ?_) ?_ (by omega), Option.bind_some]
  · refine ⟨_, rfl, ⟨?_, fun i q hi => ?_⟩, fun i hi => ?_⟩
    · show w.2.2.2.2.2 - 1 = _
      have e : nI ws.length - 1 = nI (ws.length - 1) := nI_sub ws.length 1 (by omega)
      rw [hR.1, e, List.length_eraseIdx, if_pos hk]
    · have hil := lt_of_get hi
      rw [List.length_eraseIdx, if_pos hk] at hil
      rw [List.getElem?_eraseIdx] at hi
      have fin : ∀ {α : Type} (f : Nat → α), shf f k (ws.length - (k + 1)) i = if i < k then f i else f (i + 1) := fun f => by
        unfold shf
        by_cases e : i < k
        · rw [if_neg (by omega), if_pos e]
        · rw [if_pos (by omega), if_neg e]
      show shf _ _ _ i = _ ∧ shf _ _ _ i = _ ∧ shf _ _ _ i = _ ∧ shf _ _ _ i = _ ∧ shf _ _ _ i = _
      rw [fin, fin, fin, fin, fin]
      by_cases e : i < k
      · rw [if_pos e] at hi ⊢
        rw [if_pos e, if_pos e, if_pos e, if_pos e]
        exact hR.2 i q hi
      · rw [if_neg e] at hi ⊢
        rw [if_neg e, if_neg e, if_neg e, if_neg e]
        exact hR.2 (i + 1) q hi
    · show shf _ _ _ i = 0 ∨ shf _ _ _ i = 1
      unfold shf
      split
      · exact hB (i + 1) (by omega)
      · exact hB i hi
  · dsimp only
    rw [hR.1, if_pos (nI_le (by omega) (by omega))]
  · dsimp only
    have h1 : k + 1 + j < 50 := by omega
    have e1 : nI (k + 1 + j) - 1 = nI (k + j) := by
      have : nI (k + 1 + j) - 1 = nI (k + 1 + j - 1) := nI_sub _ 1 (by omega)
      rw [this]; congr 1; omega
    rw [hR.1, if_neg (nI_ge (by omega) (by omega)), e1, rd_nI h1 (by omega), Option.bind_some, wrL_nI (show k + j < 50 by omega) (by omega), Option.bind_some, rd_nI h1 (by omega), Option.bind_some, wrL_nI (show k + j < 50 by omega) (by omega), Option.bind_some, rd_nI h1 (by omega), Option.bind_some, wr_nI (show k + j < 50 by omega) (by omega), Option.bind_some, rd_nI h1 (by omega), Option.bind_some, wr_nI (show k + j < 50 by omega) (by omega), Option.bind_some, rd_nI h1 (by omega), Option.bind_some]
    rw [shf_at, shf_at, shf_at, shf_at, shf_at, bz_b (hB _ h1), Option.bind_some, wr_nI (show k + j < 50 by omega) (by omega), Option.bind_some, shf_upL, shf_upL, shf_up, shf_up, shf_up, nI_1]
    rfl
theorem remove_6n {w : T6} {a : Int32} (ha : a < 0) : f_X6_remove w a = some w := by
  unfold f_X6_remove
  rw [has_6n ha, Option.bind_some, if_pos rfl]
