/-! ===== the reference's list: the ageing, a use; the text loses a word ===== -/
theorem R9w.put {ws : List Wd} {f f' : Nat → Int32} (h : R9w ws f) (ho : okWs ws) {k : Nat} {q : Wd} (hk : ws[k]? = some q) (c : Nat) (t : Int32) (he : ∀ i, i ≠ 20 + 14 * k + 1 → i ≠ 20 + 14 * k + 2 → f' i = f i) (h1 : f' (20 + 14 * k + 1) = nI c) (h2 : f' (20 + 14 * k + 2) = t) : R9w (ws.set k (q.1, c, t, q.2.2.2)) f' := by
  have hkl := lt_of_get hk
  refine ⟨by rw [he 0 (by omega) (by omega), h.1]; simp, fun i p hi => ?_⟩
  rw [List.getElem?_set] at hi
  by_cases e1 : k = i
  · subst e1
    rw [if_pos rfl, if_pos hkl] at hi
    cases hi
    obtain ⟨a1, a2, a3, a4, a5⟩ := h.2 k q hk
    exact ⟨by rw [he _ (by omega) (by omega), a1], h1, h2, by rw [he _ (by omega) (by omega), a4], fun c a hc => by rw [he _ (by omega) (by omega), a5 c a hc]⟩
  · rw [if_neg e1] at hi
    have hp := (ho.wd hi).1.1
    obtain ⟨a1, a2, a3, a4, a5⟩ := h.2 i p hi
    exact ⟨by rw [he _ (by omega) (by omega), a1], by rw [he _ (by omega) (by omega), a2], by rw [he _ (by omega) (by omega), a3], by rw [he _ (by omega) (by omega), a4], fun c a hc => by
      have := lt_of_get hc
      rw [he _ (by omega) (by omega), a5 c a hc]⟩
theorem ages_9 {m : T9} {ws : List Wd} (hW : R9w ws m.1) (ho : okWs ws) {l : List Nat} (hl : okL l) (hn : m.2.2.2.2.2.2.1 = nI l.length) (hs : Sh l m.2.2.2.2.2.1) : ∃ f, f_X9_ages m = some (f, m.2) ∧ R9w (ageN ws l) f ∧ kept m.1 f := by
  have hwl := ho.1
  unfold f_X9_ages
  rw [many_9 hW, Option.bind_some]
  obtain ⟨r, k1, f, k2, k3, k4⟩ := lp_inv (body := fun (v2 : Int32 × T9) => (if v2.1 < 0 then (some (.inr v2.2)) else Option.bind (α := Int32) (f_X9_of v2.2 v2.1 3) (fun x5 => (if x5 = 1 then Option.bind (α := Int32) (f_X9_isShown v2.2 v2.1) (fun x7 => (if x7 = 0 then Option.bind (α := Int32) (f_X9_at v2.1 1) (fun x9 => Option.bind (α := Int32) (rd v2.2.1 1050 x9) (fun x10 => Option.bind (α := (Nat → Int32)) (wr v2.2.1 1050 x9 (x10 - 1)) (fun x11 => Option.bind (α := Int32) (f_X9_of (x11, v2.2.2.1, v2.2.2.2.1, v2.2.2.2.2.1, v2.2.2.2.2.2.1, v2.2.2.2.2.2.2.1, v2.2.2.2.2.2.2.2.1, v2.2.2.2.2.2.2.2.2.1, v2.2.2.2.2.2.2.2.2.2.1, v2.2.2.2.2.2.2.2.2.2.2) v2.1 1) (fun x12 => (if x12 = 0 then Option.bind (α := T9) (f_X9_leaves (x11, v2.2.2.1, v2.2.2.2.1, v2.2.2.2.2.1, v2.2.2.2.2.2.1, v2.2.2.2.2.2.2.1, v2.2.2.2.2.2.2.2.1, v2.2.2.2.2.2.2.2.2.1, v2.2.2.2.2.2.2.2.2.2.1, v2.2.2.2.2.2.2.2.2.2.2) v2.1) (fun x14 => (some (.inl ((v2.1 + (-1)), x14)))) else (some (.inl ((v2.1 + (-1)), (x11, v2.2.2.1, v2.2.2.2.1, v2.2.2.2.2.1, v2.2.2.2.2.2.1, v2.2.2.2.2.2.2.1, v2.2.2.2.2.2.2.2.1, v2.2.2.2.2.2.2.2.2.1, v2.2.2.2.2.2.2.2.2.2.1, v2.2.2.2.2.2.2.2.2.2.2))))))))) else (some (.inl ((v2.1 + (-1)), v2.2))))) else (some (.inl ((v2.1 + (-1)), v2.2)))))))
    (s0 := (nI ws.length - 1, m)) (fun j v => v.1 = nI (ws.length - j) - 1 ∧ ∃ f, v.2 = (f, m.2) ∧ R9w (agedTo ws l (ws.length - j)) f ∧ kept m.1 f) (fun r => ∃ f, r = (f, m.2) ∧ R9w (ageN ws l) f ∧ kept m.1 f) ws.length ⟨rfl, m.1, rfl, by rw [Nat.sub_zero, aged_all]; exact hW, kept.rf⟩
    (fun j v hj hv => by
      obtain ⟨v1, f, v2, v3, v4⟩ := hv
      obtain ⟨w1, w2⟩ := v
      dsimp only at v1 v2
      subst v2
      obtain ⟨i, hi⟩ : ∃ i, ws.length - j = i + 1 := ⟨ws.length - j - 1, by omega⟩
      have hi2 : ws.length - (j + 1) = i := by omega
      obtain ⟨q, hq⟩ := get_of_lt (show i < ws.length by omega)
      rw [hi] at v1 v3
      rw [nI_pred] at v1
      subst v1
      rw [hi2]
      have hg := aged_get (l := l) hq
      have hoa := ho.agedTo l (k := j) (i := i + 1) (by omega)
      have hla := hoa.1
      have hq6 := ho.wd hq
      have e3 : f_X9_of (f, m.2) (nI i) 3 = _ := added_9 (m := (f, m.2)) v3 hla hg
      dsimp only
      rw [if_neg (nI_pos (by omega)), e3, Option.bind_some, nI_m1]
      cases ha : q.2.2.2 with
      | false =>
        rw [if_neg (show ¬ b01 false = 1 from by decide)]
        refine ⟨_, rfl, rfl, f, rfl, ?_, v4⟩
        have e : ageO l q = some q := by unfold ageO; rw [ha]; rfl
        rw [aged_step hq, e]
        dsimp only
        rw [set_get hg]
        exact v3
      | true =>
        have es : f_X9_isShown (f, m.2) (nI i) = _ := isShown_9 (m := (f, m.2)) v3 hoa hl hn hs hg
        rw [if_pos (show b01 true = 1 from rfl), es, Option.bind_some]
        by_cases e1 : q.1 = l
        · rw [beq_iff_eq.mpr e1, if_neg (show ¬ b01 true = 0 from by decide)]
          refine ⟨_, rfl, rfl, f, rfl, ?_, v4⟩
          have e : ageO l q = some q := by unfold ageO; rw [e1]; simp
          rw [aged_step hq, e]
          dsimp only
          rw [set_get hg]
          exact v3
        · have c1 := hq6.2.2.2 ha
          have c2 := hq6.2.2.1
          have eb : (q.2.2.2 && q.1 != l) = true := by rw [ha]; simpa using e1
          have em : nI q.2.1 - 1 = nI (q.2.1 - 1) := nI_sub _ 1 c1
          have hc := (v3.2 i q hg).2.1
          have ht := (v3.2 i q hg).2.2.1
          have hput : R9w ((agedTo ws l (i + 1)).set i (q.1, q.2.1 - 1, q.2.2.1, q.2.2.2)) (upd f (20 + 14 * i + 1) (nI (q.2.1 - 1))) := v3.put hoa hg _ _ (fun x h1 h2 => upd_n h1) upd_e (by rw [upd_n (by omega)]; exact ht)
          have hgl := lt_of_get hg
          have hset : ((agedTo ws l (i + 1)).set i (q.1, q.2.1 - 1, q.2.2.1, q.2.2.2))[i]? = some (q.1, q.2.1 - 1, q.2.2.1, q.2.2.2) := by
            rw [List.getElem?_set, if_pos rfl, if_pos hgl]
          have hk1 : kept m.1 (upd f (20 + 14 * i + 1) (nI (q.2.1 - 1))) := v4.tr (fun x h0 hx => upd_n (by omega))
          have hcnt : f_X9_of (upd f (20 + 14 * i + 1) (nI (q.2.1 - 1)), m.2.1, m.2.2.1, m.2.2.2.1, m.2.2.2.2.1, m.2.2.2.2.2.1, m.2.2.2.2.2.2.1, m.2.2.2.2.2.2.2.1, m.2.2.2.2.2.2.2.2.1, m.2.2.2.2.2.2.2.2.2) (nI i) 1 = some (nI (q.2.1 - 1)) := count_9 (m := (upd f (20 + 14 * i + 1) (nI (q.2.1 - 1)), m.2)) hput (by simpa using hla) hset
          rw [beq_false_of_ne e1, if_pos (show b01 false = 0 from rfl), at1_9, Option.bind_some, rd_c _ rfl (by omega) hc, Option.bind_some, wr_c _ rfl (by omega), Option.bind_some, em, hcnt, Option.bind_some]
          by_cases e2 : q.2.1 ≤ 1
          · have e : ageO l q = none := by unfold ageO; rw [if_pos eb, if_pos e2]
            obtain ⟨f2, n1, n2, n3⟩ := leaves_9 (m := (upd f (20 + 14 * i + 1) (nI (q.2.1 - 1)), m.2)) hput (by simpa using hla) (fun p hp => by
              rcases List.mem_or_eq_of_mem_set hp with z | z
              · exact (hoa.2.1 p z).1.1
              · rw [z]; exact hq6.1.1) (k := i) (by simpa using hgl)
            rw [List.eraseIdx_set_eq] at n2
            have n1 : f_X9_leaves (upd f (20 + 14 * i + 1) (nI (q.2.1 - 1)), m.2.1, m.2.2.1, m.2.2.2.1, m.2.2.2.2.1, m.2.2.2.2.2.1, m.2.2.2.2.2.2.1, m.2.2.2.2.2.2.2.1, m.2.2.2.2.2.2.2.2.1, m.2.2.2.2.2.2.2.2.2) (nI i) = some (f2, m.2) := n1
            rw [if_pos (show nI (q.2.1 - 1) = 0 from by rw [show q.2.1 - 1 = 0 by omega]; rfl), n1, Option.bind_some]
            refine ⟨_, rfl, rfl, f2, rfl, ?_, hk1.tr n3⟩
            rw [aged_step hq, e]
            exact n2
          · have e : ageO l q = some (q.1, q.2.1 - 1, q.2.2.1, q.2.2.2) := by unfold ageO; rw [if_pos eb, if_neg e2]
            rw [if_neg (nI_ne0 (by omega) (by omega))]
            refine ⟨_, rfl, rfl, _, rfl, ?_, hk1⟩
            rw [aged_step hq, e]
            exact hput)
    (fun v hv => by
      obtain ⟨v1, f, v2, v3, v4⟩ := hv
      rw [Nat.sub_self] at v1 v3
      rw [v1, if_pos (by decide)]
      rw [aged_0] at v3
      exact ⟨v.2, rfl, f, v2, v3, v4⟩) (fuel := 5000) (by omega)
  rw [k1, k2]
  exact ⟨f, rfl, k3, k4⟩
theorem uses_9 {m : T9} {s : St} (hW : R9w (sWs s) m.1) (h1 : m.1 1 = sClk s) (h2 : m.1 2 = nI (sAge s)) (ho : okWs (sWs s)) (hag : 1 ≤ sAge s ∧ sAge s ≤ 50) {l : List Nat} (hl : okL l) (h0 : 0 < l.length) (hn : m.2.2.2.2.2.2.1 = nI l.length) (hs : Sh l m.2.2.2.2.2.1) : ∃ f, f_X9_uses m = some (f, m.2) ∧ R9w (usedN s l) f ∧ f 1 = sClk s + 1 ∧ ∀ i, i ≠ 0 → i ≠ 1 → (i < 20 ∨ 720 ≤ i) → f i = m.1 i := by
  have hwl := ho.1
  unfold f_X9_uses
  rw [rd_c (i := 1) 1 rfl (by omega) h1, Option.bind_some, wr_c (i := 1) 1 rfl (by omega), Option.bind_some, rd_c (i := 1) 1 rfl (by omega) upd_e, Option.bind_some]
  generalize hg : upd m.1 1 (sClk s + 1) = g
  have hge : ∀ i, i ≠ 1 → g i = m.1 i := fun i hi => by rw [← hg]; exact upd_n hi
  have hg1 : g 1 = sClk s + 1 := by rw [← hg]; exact upd_e
  have hWg : R9w (sWs s) g := hW.cg ho (fun i hi => hge i (by omega))
  generalize hty : sClk s + 1 = t at *
  have hu : ∃ f, (if idxI (findN (sWs s) l) = (-1) then Option.bind (α := T9) (f_X9_adds (g, m.2.1, m.2.2.1, m.2.2.2.1, m.2.2.2.2.1, m.2.2.2.2.2.1, m.2.2.2.2.2.2.1, m.2.2.2.2.2.2.2.1, m.2.2.2.2.2.2.2.2.1, m.2.2.2.2.2.2.2.2.2) t) (fun x15 => some x15) else Option.bind (α := Int32) (f_X9_at (idxI (findN (sWs s) l)) 1) (fun x7 => Option.bind (α := Int32) (rd g 1050 x7) (fun x8 => Option.bind (α := Int32) (f_X9_of (g, m.2.1, m.2.2.1, m.2.2.2.1, m.2.2.2.2.1, m.2.2.2.2.2.1, m.2.2.2.2.2.2.1, m.2.2.2.2.2.2.2.1, m.2.2.2.2.2.2.2.2.1, m.2.2.2.2.2.2.2.2.2) (idxI (findN (sWs s) l)) 1) (fun x9 => Option.bind (α := Int32) ((if 999 ≤ x9 then some 0 else some 1)) (fun j10 => Option.bind (α := (Nat → Int32)) (wr g 1050 x7 (x8 + j10)) (fun x12 => Option.bind (α := Int32) (f_X9_at (idxI (findN (sWs s) l)) 2) (fun x13 => Option.bind (α := (Nat → Int32)) (wr x12 1050 x13 t) (fun x14 => some (x14, m.2.1, m.2.2.1, m.2.2.2.1, m.2.2.2.2.1, m.2.2.2.2.2.1, m.2.2.2.2.2.2.1, m.2.2.2.2.2.2.2.1, m.2.2.2.2.2.2.2.2.1, m.2.2.2.2.2.2.2.2.2))))))))) = some (f, m.2) ∧ R9w (useN (sWs s) l t) f ∧ kept g f := by
    unfold useN
    cases hf : findN (sWs s) l with
    | none =>
      obtain ⟨f, n1, n2, n3⟩ := adds_9 (m := (g, m.2)) hWg ho hl hn hs t
      have n1 : f_X9_adds (g, m.2.1, m.2.2.1, m.2.2.2.1, m.2.2.2.2.1, m.2.2.2.2.2.1, m.2.2.2.2.2.2.1, m.2.2.2.2.2.2.2.1, m.2.2.2.2.2.2.2.2.1, m.2.2.2.2.2.2.2.2.2) t = some (f, m.2) := n1
      rw [if_pos (show idxI none = -1 from rfl), n1, Option.bind_some]
      exact ⟨f, rfl, n2, n3⟩
    | some k =>
      obtain ⟨q, hq, e⟩ := findN_some hf
      have hk := lt_of_get hq
      have o := (ho.wd hq).2.2.1
      have hcell := (hWg.2 k q hq).2.1
      have hcnt : f_X9_of (g, m.2.1, m.2.2.1, m.2.2.2.1, m.2.2.2.2.1, m.2.2.2.2.2.1, m.2.2.2.2.2.2.1, m.2.2.2.2.2.2.2.1, m.2.2.2.2.2.2.2.2.1, m.2.2.2.2.2.2.2.2.2) (nI k) 1 = some (nI q.2.1) := count_9 (m := (g, m.2)) hWg hwl hq
      have ei : idxI (some k) = nI k := rfl
      rw [if_neg (idxI_some (by omega)), ei, at1_9, Option.bind_some, rd_c _ rfl (by omega) hcell, Option.bind_some, hcnt, Option.bind_some]
      dsimp only
      rw [hq]
      dsimp only
      have hj : (if (999 : Int32) ≤ nI q.2.1 then some (0 : Int32) else some 1) = some (nI (if q.2.1 < 999 then 1 else 0)) := by
        by_cases e2 : q.2.1 < 999
        · rw [if_neg (show ¬ (999 : Int32) ≤ nI q.2.1 from nI_ge (a := q.2.1) (b := 999) e2 (by omega)), if_pos e2]; rfl
        · rw [if_pos (show (999 : Int32) ≤ nI q.2.1 from nI_le (a := 999) (by omega) (by omega)), if_neg e2]; rfl
      rw [hj, Option.bind_some, wr_c _ rfl (by omega), Option.bind_some, at2_9, Option.bind_some, wr_c _ rfl (by omega), Option.bind_some, nI_add]
      refine ⟨_, rfl, hWg.put ho hq _ _ (fun x h1 h2 => by rw [upd_n h2, upd_n h1]) ?_ upd_e, fun i h0 hi => by rw [upd_n (by omega), upd_n (by omega)]⟩
      rw [upd_n (by omega), upd_e]
      by_cases e2 : q.2.1 < 999
      · rw [if_pos e2, if_pos e2]
      · rw [if_neg e2, if_neg e2, Nat.add_zero]
  obtain ⟨f, n1, n2, n3⟩ := hu
  have hsw : f_X9_shownWord (g, m.2.1, m.2.2.1, m.2.2.2.1, m.2.2.2.2.1, m.2.2.2.2.2.1, m.2.2.2.2.2.2.1, m.2.2.2.2.2.2.2.1, m.2.2.2.2.2.2.2.2.1, m.2.2.2.2.2.2.2.2.2) = some (idxI (findN (sWs s) l)) := shownWord_9 (m := (g, m.2)) hWg ho hl hn hs
  have hou := ho.use hl h0 t
  rw [hsw, Option.bind_some, n1, Option.bind_some]
  have hf2 : f 2 = nI (sAge s) := by rw [n3 2 (by omega) (by omega), hge 2 (by omega), h2]
  have hf1 : f 1 = t := by rw [n3 1 (by omega) (by omega), hg1]
  have hnz : nz (nI (sAge s)) = some () := by unfold nz; rw [if_neg (nI_ne0 (by omega) (by omega))]
  dsimp only
  rw [rd_c (i := 2) 2 rfl (by omega) hf2, Option.bind_some, hnz, Option.bind_some]
  unfold usedN
  rw [hty]
  by_cases e : (t - t / nI (sAge s) * nI (sAge s)) = 0
  · rw [if_pos e, if_pos e]
    obtain ⟨f2, p1, p2, p3⟩ := ages_9 (m := (f, m.2)) n2 hou hl hn hs
    rw [p1, Option.bind_some]
    exact ⟨f2, rfl, p2, by rw [p3 1 (by omega) (by omega)]; exact hf1, fun i i0 i1 hi => by rw [p3 i i0 hi]; exact (n3 i i0 hi).trans (hge i i1)⟩
  · rw [if_neg e, if_neg e]
    exact ⟨f, rfl, n2, hf1, fun i i0 i1 hi => (n3 i i0 hi).trans (hge i i1)⟩
theorem tx_at (k : Nat) : (720 : Int32) + 11 * nI k = nI (720 + 11 * k) := by
  have em : (11 : Int32) * nI k = nI (11 * k) := (Int32.ofNat_mul 11 k).symm
  rw [em]
  exact nI_add 720 _
theorem goesText_9 {m : T9} {tx : List (List Nat)} (hT : R9t tx m.1) (ho : okTx tx) {k : Nat} (hk : k < tx.length) : ∃ f, f_X9_goesFromText m (nI k) = some (f, m.2) ∧ R9t (tx.eraseIdx k) f ∧ ∀ i, i ≠ 8 → i < 720 → f i = m.1 i := by
  have hl := ho.1
  have hf0 : upd m.1 8 (nI (tx.length - 1)) 8 = nI (tx.length - 1) := upd_e
  refine ⟨shx (upd m.1 8 (nI (tx.length - 1))) (720 + 11 * k) 11 (11 * (tx.length - 1 - k)), ?_, ⟨?_, fun i q hi => ?_⟩, fun i h0 hi => by rw [shx_lo (by omega), upd_n h0]⟩
  · unfold f_X9_goesFromText
    have e1 : nI tx.length - 1 = nI (tx.length - 1) := nI_sub _ 1 (by omega)
    rw [rd_c (i := 8) 8 rfl (by omega) hT.1, Option.bind_some, e1, wr_c (i := 8) 8 rfl (by omega), Option.bind_some, tx_at]
    refine lp_go (fun j => (nI (720 + 11 * k + j), ((shx (upd m.1 8 (nI (tx.length - 1))) (720 + 11 * k) 11 j, m.2) : T9))) (11 * (tx.length - 1 - k)) _ (by rw [shx_0]; rfl) (fun j hj => ?_) ?_ (by omega)
    · have e14 : nI (720 + 11 * k + j) + 11 = nI (720 + 11 * k + j + 11) := nI_add _ 11
      dsimp only
      rw [rd_c (i := 8) 8 rfl (by omega) ((shx_lo (by omega)).trans hf0), Option.bind_some, tx_at, if_neg (nI_ge (by omega) (by omega)), e14, rd_c _ rfl (by omega) (shx_at (by omega)), Option.bind_some, wr_c _ rfl (by omega), Option.bind_some, shx_up, nI_1]
      rfl
    · dsimp only
      rw [rd_c (i := 8) 8 rfl (by omega) ((shx_lo (by omega)).trans hf0), Option.bind_some, tx_at, if_pos (nI_le (by omega) (by omega))]
  · rw [shx_lo (by omega), hf0, List.length_eraseIdx, if_pos hk]
  · have hil := lt_of_get hi
    rw [List.length_eraseIdx, if_pos hk] at hil
    rw [List.getElem?_eraseIdx] at hi
    have fin : ∀ c, c < 11 → shx (upd m.1 8 (nI (tx.length - 1))) (720 + 11 * k) 11 (11 * (tx.length - 1 - k)) (720 + 11 * i + c) = m.1 (720 + 11 * (if i < k then i else i + 1) + c) := fun c hc => by
      by_cases e : i < k
      · rw [shx_lo (by omega), upd_n (by omega), if_pos e]
      · rw [shx_in (by omega) (by omega), upd_n (by omega), if_neg e]
        rw [show 720 + 11 * i + c + 11 = 720 + 11 * (i + 1) + c by omega]
    have hq : tx[if i < k then i else i + 1]? = some q := by
      by_cases e : i < k
      · rw [if_pos e] at hi ⊢; exact hi
      · rw [if_neg e] at hi ⊢; exact hi
    have hql := (ho.2 q (List.mem_of_getElem? hq)).1.1
    obtain ⟨a1, a5⟩ := hT.2 _ q hq
    refine ⟨(fin 0 (by omega)).trans a1, fun c a hc => ?_⟩
    have := lt_of_get hc
    rw [Nat.add_assoc, fin (1 + c) (by omega), ← Nat.add_assoc]
    exact a5 c a hc
