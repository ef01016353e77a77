/-! ===== the reference saves ===== -/
theorem put_9 {g : Sg} {m : T9} {sv : List St} (hA : R9a g.1 m.1) (ho : okSg g) (hc : sv.length < 4) (hok : ∀ s ∈ sv, okSt s) (hm : m.2.2.2.1 = nI sv.length) (hs : ∀ k s, sv[k]? = some s → R9a s (fun i => m.2.1 (1050 * k + i))) :
    ∃ sa, lp (σ := Int32 × T9) (ρ := T9) (fun v8 => (if 1050 ≤ v8.1 then (some (.inr v8.2)) else Option.bind (α := Int32) (rd v8.2.1 1050 v8.1) (fun x11 => Option.bind (α := (Nat → Int32)) (wr v8.2.2.1 4200 ((1050 * v8.2.2.2.2.1) + v8.1) x11) (fun x12 => (some (.inl ((v8.1 + 1), (v8.2.1, x12, v8.2.2.2.1, v8.2.2.2.2.1, v8.2.2.2.2.2.1, v8.2.2.2.2.2.2.1, v8.2.2.2.2.2.2.2.1, v8.2.2.2.2.2.2.2.2.1, v8.2.2.2.2.2.2.2.2.2.1, v8.2.2.2.2.2.2.2.2.2.2)))))))) 5000 (0, m) = some (m.1, sa, m.2.2.1, m.2.2.2.1, m.2.2.2.2) ∧ ∀ k s, (sv ++ [g.1])[k]? = some s → R9a s (fun i => sa (1050 * k + i)) := by
  refine ⟨fun i => if 1050 * sv.length ≤ i ∧ i < 1050 * sv.length + 1050 then m.1 (i - 1050 * sv.length) else m.2.1 i, ?_, fun k s hk => ?_⟩
  · refine lp_go (fun j => (nI j, ((m.1, (fun i => if 1050 * sv.length ≤ i ∧ i < 1050 * sv.length + j then m.1 (i - 1050 * sv.length) else m.2.1 i), m.2.2.1, m.2.2.2.1, m.2.2.2.2) : T9))) 1050 _ ?_ (fun j hj => ?_) ?_ (by omega)
    · have : (fun i => if 1050 * sv.length ≤ i ∧ i < 1050 * sv.length + 0 then m.1 (i - 1050 * sv.length) else m.2.1 i) = m.2.1 := by
        funext i
        rw [if_neg (by omega)]
      rw [this, nI_0]
    · have e1 : (1050 : Int32) * nI sv.length = nI (1050 * sv.length) := (Int32.ofNat_mul 1050 sv.length).symm
      dsimp only
      rw [if_neg (show ¬ (1050 : Int32) ≤ nI j from nI_ge (a := j) (b := 1050) hj (by omega)), rd_nI hj (by omega), Option.bind_some, hm, e1, nI_add, wr_nI (by omega) (by omega), Option.bind_some, nI_1]
      have e2 : upd (fun i => if 1050 * sv.length ≤ i ∧ i < 1050 * sv.length + j then m.1 (i - 1050 * sv.length) else m.2.1 i) (1050 * sv.length + j) (m.1 j) = (fun i => if 1050 * sv.length ≤ i ∧ i < 1050 * sv.length + (j + 1) then m.1 (i - 1050 * sv.length) else m.2.1 i) := by
        funext i
        unfold upd
        by_cases e : i = 1050 * sv.length + j
        · rw [if_pos e, if_pos (by omega), e, Nat.add_sub_cancel_left]
        · rw [if_neg e]
          dsimp only
          by_cases e3 : 1050 * sv.length ≤ i ∧ i < 1050 * sv.length + j
          · rw [if_pos e3, if_pos (by omega)]
          · rw [if_neg e3, if_neg (by omega)]
      rw [e2]
    · dsimp only
      rw [if_pos (by decide)]
  · by_cases e : k = sv.length
    · subst e
      simp at hk
      subst hk
      refine hA.congr ho.1 (fun i hi => ?_)
      dsimp only
      rw [if_pos (by omega), Nat.add_sub_cancel_left]
    · have hkl := lt_of_get hk
      simp at hkl
      rw [List.getElem?_append_left (by omega)] at hk
      refine (hs k s hk).congr (hok s (List.mem_of_getElem? hk)) (fun i hi => ?_)
      dsimp only
      rw [if_neg (by omega)]
theorem save_9 {g : Sg} {m : T9} (hR : R9 g m) (ho : okSg g) : ∃ sa, f_X9_save m = some (m.1, sa, m.2.2.1, nI (pushN g.2.1 g.1).length, m.2.2.2.2) ∧ ∀ k s, (pushN g.2.1 g.1)[k]? = some s → R9a s (fun i => sa (1050 * k + i)) := by
  obtain ⟨h1, h2, h3, h4, h5⟩ := hR
  have hl := ho.2.1.1
  unfold f_X9_save pushN
  by_cases e : g.2.1.length = 4
  · rw [h2, if_pos (by rw [e]; decide), if_pos e]
    have hsh : lp (σ := Int32 × T9) (ρ := T9) (fun v3 => (if 3150 ≤ v3.1 then (some (.inr v3.2)) else Option.bind (α := Int32) (rd v3.2.2.1 4200 (v3.1 + 1050)) (fun x6 => Option.bind (α := (Nat → Int32)) (wr v3.2.2.1 4200 v3.1 x6) (fun x7 => (some (.inl ((v3.1 + 1), (v3.2.1, x7, v3.2.2.2.1, v3.2.2.2.2.1, v3.2.2.2.2.2.1, v3.2.2.2.2.2.2.1, v3.2.2.2.2.2.2.2.1, v3.2.2.2.2.2.2.2.2.1, v3.2.2.2.2.2.2.2.2.2.1, v3.2.2.2.2.2.2.2.2.2.2)))))))) 5000 (0, m) = some (m.1, (fun i => if i < 3150 then m.2.1 (i + 1050) else m.2.1 i), m.2.2) := by
      refine lp_go (fun j => (nI j, ((m.1, (fun i => if i < j then m.2.1 (i + 1050) else m.2.1 i), m.2.2) : T9))) 3150 _ ?_ (fun j hj => ?_) ?_ (by omega)
      · have : (fun i => if i < 0 then m.2.1 (i + 1050) else m.2.1 i) = m.2.1 := by
          funext i
          rw [if_neg (by omega)]
        rw [this, nI_0]
      · have ea : nI j + 1050 = nI (j + 1050) := nI_add j 1050
        dsimp only
        rw [if_neg (show ¬ (3150 : Int32) ≤ nI j from nI_ge (a := j) (b := 3150) hj (by omega)), ea, rd_nI (by omega) (by omega), Option.bind_some, wr_nI (by omega) (by omega), Option.bind_some, nI_1, if_neg (by omega)]
        have e2 : upd (fun i => if i < j then m.2.1 (i + 1050) else m.2.1 i) j (m.2.1 (j + 1050)) = (fun i => if i < j + 1 then m.2.1 (i + 1050) else m.2.1 i) := by
          funext i
          unfold upd
          by_cases e : i = j
          · rw [if_pos e, if_pos (by omega), e]
          · rw [if_neg e]
            dsimp only
            by_cases e3 : i < j
            · rw [if_pos e3, if_pos (by omega)]
            · rw [if_neg e3, if_neg (by omega)]
        rw [e2]
      · dsimp only
        rw [if_pos (by decide)]
    rw [hsh, Option.bind_some, Option.bind_some]
    have et : nI g.2.1.length - 1 = nI g.2.1.tail.length := by
      rw [List.length_tail]
      exact nI_sub _ 1 (by omega)
    obtain ⟨sa, k1, k2⟩ := put_9 (g := g) (m := (m.1, (fun i => if i < 3150 then m.2.1 (i + 1050) else m.2.1 i), m.2.2.1, nI g.2.1.tail.length, m.2.2.2.2)) (sv := g.2.1.tail) h1 ho (by rw [List.length_tail]; omega) (fun s hs => ho.2.1.2 s (List.mem_of_mem_tail hs)) rfl (fun k s hk => by
      have hkl := lt_of_get hk
      rw [List.length_tail] at hkl
      rw [List.getElem?_tail] at hk
      refine (h3 (k + 1) s hk).congr (ho.2.1.2 s (List.mem_of_getElem? hk)) (fun i hi => ?_)
      dsimp only
      rw [if_pos (by omega), show 1050 * k + i + 1050 = 1050 * (k + 1) + i by omega])
    refine ⟨sa, ?_, k2⟩
    dsimp only at k1 ⊢
    rw [h2, et, k1, Option.bind_some]
    dsimp only
    rw [nI_1]
    simp
  · rw [h2, if_neg (show ¬ nI g.2.1.length = 4 from fun z => e ((nI_eq (a := g.2.1.length) (b := 4) (by omega) (by omega)).mp z)), if_neg e, Option.bind_some]
    obtain ⟨sa, k1, k2⟩ := put_9 (g := g) (m := m) (sv := g.2.1) h1 ho (by omega) ho.2.1.2 h2 h3
    refine ⟨sa, ?_, k2⟩
    rw [k1, Option.bind_some]
    dsimp only
    rw [h2, nI_1]
    simp
