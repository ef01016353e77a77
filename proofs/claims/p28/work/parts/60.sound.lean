/-! ===== a writer is sound ===== -/
theorem stepsW_le (ws : List Wd) (q : Wd) : stepsW ws q ≤ ws.length := List.countP_le_length
section SOUND
variable {g : Sg} {x : T8}
theorem sound_word (hA : Al g x) {k : Nat} {q : Wd} (hk : (sWs g.1)[k]? = some q) (c : T0) : ∃ c', (if (1 : Int32) = 0 then some (0, c) else Option.bind (α := Int32 × T0) (jr (f_X8_setting (x.1, x.2.1, x.2.2.1, x.2.2.2.1, c) 0)) (fun x16 => (if x16.1 ≤ (nI (rankW (sWs g.1) q)) then some (0, x16.2) else Option.bind (α := Int32) (jr (f_X8_word (x.1, x.2.1, x.2.2.1, x.2.2.2.1, x16.2) (nI k) 3)) (fun x18 => (if x18 = 0 then Option.bind (α := Int32) (jr (f_X8_presses (x.1, x.2.1, x.2.2.1, x.2.2.2.1, x16.2) (nI k) 0)) (fun x20 => Option.bind (α := Int32) (jr (f_X8_word (x.1, x.2.1, x.2.2.1, x.2.2.2.1, x16.2) (nI k) 0)) (fun x21 => Option.bind (α := Int32) (jr (f_X8_steps (x.1, x.2.1, x.2.2.1, x.2.2.2.1, x16.2) (nI k))) (fun x22 => (if x20 = (x21 + x22) then Option.bind (α := Int32) (jr (f_X8_presses (x.1, x.2.1, x.2.2.1, x.2.2.2.1, x16.2) (nI k) 1)) (fun x24 => Option.bind (α := Int32) (jr (f_X8_word (x.1, x.2.1, x.2.2.1, x.2.2.2.1, x16.2) (nI k) 0)) (fun x25 => (if x24 < x25 then some (0, x16.2) else (if 0 ≤ (shortW (sWs g.1) q) then Option.bind (α := Int32) (jr (f_X8_word (x.1, x.2.1, x.2.2.1, x.2.2.2.1, x16.2) (nI k) 0)) (fun x28 => (if x28 < (shortW (sWs g.1) q) then some (0, x16.2) else some (1, x16.2))) else Option.bind (α := Int32) (jr (f_X8_steps (x.1, x.2.1, x.2.2.1, x.2.2.2.1, x16.2) (nI k))) (fun x30 => (if x30 ≤ 0 then some (0, x16.2) else some (1, x16.2))))))) else some (0, x16.2))))) else Option.bind (α := Int32) (jr (f_X8_word (x.1, x.2.1, x.2.2.1, x.2.2.2.1, x16.2) (nI k) 1)) (fun x32 => (if x32 ≤ 0 then some (0, x16.2) else Option.bind (α := Int32) (jr (f_X8_presses (x.1, x.2.1, x.2.2.1, x.2.2.2.1, x16.2) (nI k) 0)) (fun x34 => Option.bind (α := Int32) (jr (f_X8_word (x.1, x.2.1, x.2.2.1, x.2.2.2.1, x16.2) (nI k) 0)) (fun x35 => Option.bind (α := Int32) (jr (f_X8_steps (x.1, x.2.1, x.2.2.1, x.2.2.2.1, x16.2) (nI k))) (fun x36 => (if x34 = (x35 + x36) then Option.bind (α := Int32) (jr (f_X8_presses (x.1, x.2.1, x.2.2.1, x.2.2.2.1, x16.2) (nI k) 1)) (fun x38 => Option.bind (α := Int32) (jr (f_X8_word (x.1, x.2.1, x.2.2.1, x.2.2.2.1, x16.2) (nI k) 0)) (fun x39 => (if x38 < x39 then some (0, x16.2) else (if 0 ≤ (shortW (sWs g.1) q) then Option.bind (α := Int32) (jr (f_X8_word (x.1, x.2.1, x.2.2.1, x.2.2.2.1, x16.2) (nI k) 0)) (fun x42 => (if x42 < (shortW (sWs g.1) q) then some (0, x16.2) else some (1, x16.2))) else Option.bind (α := Int32) (jr (f_X8_steps (x.1, x.2.1, x.2.2.1, x.2.2.2.1, x16.2) (nI k))) (fun x44 => (if x44 ≤ 0 then some (0, x16.2) else some (1, x16.2))))))) else some (0, x16.2)))))))))))) = some ((1 : Int32), c') := by
  have hwl := hA.1.1.1.1
  have hq := List.mem_of_getElem? hk
  have okq := hA.1.1.1.wd hk
  have hql := okq.1.1
  have hr := rankW_len hq
  have hs := stepsW_le (sWs g.1) q
  have htp := tapsN_ge q.1 q.1.length
  have htl := tapsN_le okq.1 (Nat.le_refl _)
  obtain ⟨c2, h2⟩ := q_set (hA.c c) (v := 0) (by decide) (by decide)
  have p0 : jr (f_X8_presses (x.1, x.2.1, x.2.2.1, x.2.2.2.1, c2) (nI k) 0) = some (nI (q.1.length + stepsW (sWs g.1) q)) := q_presses (hA.c c2) hk false
  have p1 : jr (f_X8_presses (x.1, x.2.1, x.2.2.1, x.2.2.2.1, c2) (nI k) 1) = some (nI (tapsN q.1 q.1.length)) := q_presses (hA.c c2) hk true
  have a0 : jr (f_X8_word (x.1, x.2.1, x.2.2.1, x.2.2.2.1, c2) (nI k) 0) = some (nI q.1.length) := by rw [q_word (hA.c c2) hk v5o.1, val_0]
  have a1 : jr (f_X8_word (x.1, x.2.1, x.2.2.1, x.2.2.2.1, c2) (nI k) 1) = some (nI q.2.1) := by rw [q_word (hA.c c2) hk v5o.2.1, val_1]
  have a3 : jr (f_X8_word (x.1, x.2.1, x.2.2.1, x.2.2.2.1, c2) (nI k) 3) = some (b01 q.2.2.2) := by rw [q_word (hA.c c2) hk v5o.2.2.2.1, val_3]
  have st : jr (f_X8_steps (x.1, x.2.1, x.2.2.1, x.2.2.2.1, c2) (nI k)) = some (nI (stepsW (sWs g.1) q)) := q_steps (hA.c c2) hk
  rw [if_neg (by decide), h2, Option.bind_some, set_0]
  dsimp only
  rw [if_neg (nI_ge hr (by omega)), a3, Option.bind_some, p0, Option.bind_some, p1, Option.bind_some, a0, Option.bind_some, st, Option.bind_some, a1, Option.bind_some, nI_add, if_pos rfl, Option.bind_some, Option.bind_some, if_neg (nI_nlt htp (by omega))]
  have tail : ∃ c', (if 0 ≤ shortW (sWs g.1) q then (if nI q.1.length < shortW (sWs g.1) q then some ((0 : Int32), c2) else some (1, c2)) else (if nI (stepsW (sWs g.1) q) ≤ 0 then some (0, c2) else some (1, c2))) = some ((1 : Int32), c') := by
    rcases short_fact hA.1.1.1 hq with ⟨s1, s2⟩ | ⟨n, s1, s2⟩
    · rw [s1, if_neg (by decide), if_neg (nI_nle s2 (by omega))]
      exact ⟨_, rfl⟩
    · rw [s1, if_pos (nI_pos' (by omega)), if_neg (nI_nlt s2 (by omega))]
      exact ⟨_, rfl⟩
  obtain ⟨c', ht⟩ := tail
  refine ⟨c', ?_⟩
  cases ha : q.2.2.2 with
  | false =>
    rw [if_pos (show b01 false = 0 from rfl)]
    exact ht
  | true =>
    have hcn := okq.2.2.2 ha
    have hc9 := okq.2.2.1
    rw [if_neg (show ¬ b01 true = 0 from by decide), Option.bind_some, if_neg (nI_nle hcn (by omega))]
    exact ht
theorem sound_pair (hA : Al g x) {i j : Nat} {a b : Wd} (hi : (sWs g.1)[i]? = some a) (hj : (sWs g.1)[j]? = some b) (hf : (a.1.length = (sPl g.1).length ∧ (sPl g.1).length < b.1.length) ∨ rankW (sWs g.1) a < rankW (sWs g.1) b) (c : T0) : ∃ c', (if (1 : Int32) = 0 then some (0, c) else Option.bind (α := Int32) (jr (f_X8_word (x.1, x.2.1, x.2.2.1, x.2.2.2.1, c) (nI i) 0)) (fun x54 => Option.bind (α := Int32 × T0) (jr (f_X8_setting (x.1, x.2.1, x.2.2.1, x.2.2.2.1, c) 6)) (fun x55 => (if x54 = x55.1 then Option.bind (α := Int32) (jr (f_X8_word (x.1, x.2.1, x.2.2.1, x.2.2.2.1, x55.2) (nI j) 0)) (fun x60 => Option.bind (α := Int32 × T0) (jr (f_X8_setting (x.1, x.2.1, x.2.2.1, x.2.2.2.1, x55.2) 6)) (fun x61 => (if x61.1 < x60 then some (1, x61.2) else Option.bind (α := Int32) (jr (f_X8_word (x.1, x.2.1, x.2.2.1, x.2.2.2.1, x61.2) (nI i) 4)) (fun x63 => Option.bind (α := Int32) (jr (f_X8_word (x.1, x.2.1, x.2.2.1, x.2.2.2.1, x61.2) (nI j) 4)) (fun x64 => (if x64 ≤ x63 then some (0, x61.2) else some (1, x61.2))))))) else Option.bind (α := Int32) (jr (f_X8_word (x.1, x.2.1, x.2.2.1, x.2.2.2.1, x55.2) (nI i) 4)) (fun x57 => Option.bind (α := Int32) (jr (f_X8_word (x.1, x.2.1, x.2.2.1, x.2.2.2.1, x55.2) (nI j) 4)) (fun x58 => (if x58 ≤ x57 then some (0, x55.2) else some (1, x55.2)))))))) = some ((1 : Int32), c') := by
  have hwl := hA.1.1.1.1
  have oka := (hA.1.1.1.wd hi).1.1
  have okb := (hA.1.1.1.wd hj).1.1
  have hpl := hA.1.1.2.2.2.1.1
  have hra := rankW_len (List.mem_of_getElem? hi)
  have hrb := rankW_len (List.mem_of_getElem? hj)
  obtain ⟨c2, h2⟩ := q_set (hA.c c) (v := 6) (by decide) (by decide)
  obtain ⟨c3, h3⟩ := q_set (hA.c c2) (v := 6) (by decide) (by decide)
  have h3 : jr (f_X8_setting (x.1, x.2.1, x.2.2.1, x.2.2.2.1, c2) 6) = some (setI g.1 6, c3) := h3
  have a0 : ∀ c, jr (f_X8_word (x.1, x.2.1, x.2.2.1, x.2.2.2.1, c) (nI i) 0) = some (nI a.1.length) := fun c => by rw [q_word (hA.c c) hi v5o.1, val_0]
  have b0 : ∀ c, jr (f_X8_word (x.1, x.2.1, x.2.2.1, x.2.2.2.1, c) (nI j) 0) = some (nI b.1.length) := fun c => by rw [q_word (hA.c c) hj v5o.1, val_0]
  have a4 : ∀ c, jr (f_X8_word (x.1, x.2.1, x.2.2.1, x.2.2.2.1, c) (nI i) 4) = some (nI (rankW (sWs g.1) a)) := fun c => by rw [q_word (hA.c c) hi v5o.2.2.2.2, val_4 hi]
  have b4 : ∀ c, jr (f_X8_word (x.1, x.2.1, x.2.2.1, x.2.2.2.1, c) (nI j) 4) = some (nI (rankW (sWs g.1) b)) := fun c => by rw [q_word (hA.c c) hj v5o.2.2.2.2, val_4 hj]
  rw [if_neg (by decide), a0, Option.bind_some, h2, Option.bind_some, set_6]
  dsimp only
  by_cases e1 : a.1.length = (sPl g.1).length
  · rw [if_pos (by rw [e1]), b0, Option.bind_some, h3, Option.bind_some, set_6]
    dsimp only
    by_cases e2 : (sPl g.1).length < b.1.length
    · rw [if_pos (nI_lt e2 (by omega))]
      exact ⟨_, rfl⟩
    · have hr := hf.resolve_left (fun z => e2 z.2)
      rw [if_neg (nI_nlt (by omega) (by omega)), a4, Option.bind_some, b4, Option.bind_some, if_neg (nI_ge hr (by omega))]
      exact ⟨_, rfl⟩
  · have hr := hf.resolve_left (fun z => e1 z.1)
    rw [if_neg (fun z => e1 ((nI_eq (by omega) (by omega)).mp z)), a4, Option.bind_some, b4, Option.bind_some, if_neg (nI_ge hr (by omega))]
    exact ⟨_, rfl⟩
theorem isSound_ok (hD : Dbl) (hA : Al g x) : ∃ c, f_L_isSound x = some (1, c) := by
  have hwl := hA.1.1.1.1
  have hnl := sN_le g.1
  obtain ⟨r, s1, s2⟩ := savO_le hD hA.1.1.1
  obtain ⟨c0, h0⟩ := q_set hA (v := 0) (by decide) (by decide)
  have hcl := clashW_ne (ws := sWs g.1)
  have hcw : clashW (sWs g.1) ≤ (sWs g.1).length := List.countP_le_length
  have hs : f_X8_saving (x.1, x.2.1, x.2.2.1, x.2.2.2.1, c0) = some r := by rw [q_saving (hA.c c0), s1]
  unfold f_L_isSound
  rw [h0, Option.bind_some, set_0]
  dsimp only
  rw [if_neg (show ¬ (50 : Int32) < nI (sWs g.1).length from nI_nlt (a := 50) (b := (sWs g.1).length) hwl (by omega)), q_clash (hA.c c0), Option.bind_some, if_neg (show ¬ nI (clashW (sWs g.1)) = (1 : Int32) from fun z => hcl ((nI_eq (a := clashW (sWs g.1)) (b := 1) (by omega) (by omega)).mp z)), hs, Option.bind_some, if_neg s2, Option.bind_some]
  refine lp_use (fun z => ∃ c, z = some ((1 : Int32), c)) (fun j v => v.1 = 1 ∧ v.2.1 = nI (totN (rankW (sWs g.1)) ((sWs g.1).take j)) ∧ v.2.2.1 = nI j) (fun r => r.1 = 1 ∧ r.2.1 = nI (totN (rankW (sWs g.1)) (sWs g.1))) (sWs g.1).length ⟨rfl, by rw [List.take_zero]; exact nI_0.symm, nI_0.symm⟩ (fun j v hj hv => ?_) (fun v hv => ?_) (by omega) (fun r1 hr1 => ?_)
  · obtain ⟨v1, v2, v3⟩ := hv
    obtain ⟨q, hq⟩ := get_of_lt hj
    obtain ⟨c1, h1⟩ := q_set (hA.c v.2.2.2) (v := 0) (by decide) (by decide)
    have w4 : jr (f_X8_word (x.1, x.2.1, x.2.2.1, x.2.2.2.1, c1) (nI j) 4) = some (nI (rankW (sWs g.1) q)) := by rw [q_word (hA.c c1) hq v5o.2.2.2.2, val_4 hq]
    have ws' : jr (f_X8_shortest (x.1, x.2.1, x.2.2.1, x.2.2.2.1, c1) (nI j)) = some (shortW (sWs g.1) q) := q_short (hA.c c1) hq
    obtain ⟨c', hc'⟩ := sound_word hA hq c1
    rw [h1, Option.bind_some, set_0]
    dsimp only
    rw [v3, v1, if_neg (nI_ge hj (by omega)), w4, Option.bind_some, ws', Option.bind_some, hc', Option.bind_some]
    refine ⟨_, rfl, rfl, ?_, nI_1 j⟩
    show v.2.1 + nI (rankW (sWs g.1) q) = _
    rw [v2, nI_add, List.take_succ, hq]
    show _ = nI (totN (rankW (sWs g.1)) ((sWs g.1).take j ++ [q]))
    rw [totN_snoc]
  · obtain ⟨v1, v2, v3⟩ := hv
    obtain ⟨c1, h1⟩ := q_set (hA.c v.2.2.2) (v := 0) (by decide) (by decide)
    rw [h1, Option.bind_some, set_0]
    dsimp only
    rw [v3, if_pos (nI_le (Nat.le_refl _) (by omega))]
    rw [List.take_length] at v2
    exact ⟨_, rfl, v1, v2⟩
  rw [hr1.1, hr1.2]
  refine lp_use (fun z => ∃ c, z = some ((1 : Int32), c)) (fun j v => v.1 = 1 ∧ v.2.1 = nI (j + 1)) (fun r => r.1 = 1) (sN g.1 - 1) ⟨rfl, rfl⟩ (fun j v hj hv => ?_) (fun v hv => ?_) (by omega) (fun r2 hr2 => ?_)
  · obtain ⟨v1, v2⟩ := hv
    obtain ⟨c1, h1⟩ := q_set (hA.c v.2.2) (v := 7) (by decide) (by decide)
    obtain ⟨i, a, i1, i2, i3, i4⟩ := cand_at hA.1.1 (show j < sN g.1 by omega)
    obtain ⟨k, b, k1, k2, k3, k4⟩ := cand_at hA.1.1 (show j + 1 < sN g.1 by omega)
    obtain ⟨c2, h2⟩ := q_cand (hA.c c1) (show j < sN g.1 by omega) i1
    obtain ⟨c3, h3⟩ := q_cand (hA.c c2) (show j + 1 < sN g.1 by omega) k1
    have h3 : jr (f_X8_candidate (x.1, x.2.1, x.2.2.1, x.2.2.2.1, c2) (nI (j + 1))) = some (nI k, c3) := h3
    obtain ⟨c', hc'⟩ := sound_pair hA i2 k2 (cands_in_order hA.1.1.1 (List.mem_of_getElem? i2) (List.mem_of_getElem? k2) i3 k3 (by rw [i4, k4]; omega)) c3
    rw [h1, Option.bind_some, set_7]
    dsimp only
    rw [v2, v1, if_neg (nI_ge (show j + 1 < sN g.1 by omega) (by omega)), nI_pred, h2, Option.bind_some]
    dsimp only
    rw [h3, Option.bind_some]
    dsimp only
    rw [hc', Option.bind_some]
    exact ⟨_, rfl, rfl, nI_1 (j + 1)⟩
  · obtain ⟨v1, v2⟩ := hv
    obtain ⟨c1, h1⟩ := q_set (hA.c v.2.2) (v := 7) (by decide) (by decide)
    rw [h1, Option.bind_some, set_7]
    dsimp only
    rw [v2, if_pos (nI_le (by omega) (by omega))]
    exact ⟨_, rfl, v1⟩
  obtain ⟨c1, h1⟩ := q_set (hA.c r2.2) (v := 0) (by decide) (by decide)
  obtain ⟨c2, h2⟩ := q_set (hA.c c1) (v := 0) (by decide) (by decide)
  have h2 : jr (f_X8_setting (x.1, x.2.1, x.2.2.1, x.2.2.2.1, c1) 0) = some (setI g.1 0, c2) := h2
  rw [hr2, if_neg (by decide), h1, Option.bind_some]
  dsimp only
  rw [h2, Option.bind_some, set_0]
  dsimp only
  rw [tri_50 _ (by omega), ranks_all hA.1.1.1, if_pos rfl]
  exact ⟨_, rfl⟩
end SOUND
