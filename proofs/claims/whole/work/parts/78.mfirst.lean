/-! ===== the reference: shortest, undo ===== -/
theorem fitsK {a b : List Nat} (ha : okL a) (hb : okL b) {n : Nat} (hn : n ≤ b.length) : fitsB a ((cdK b).take n) = (decide (n ≤ a.length) && allB (fun i => keyN (a.getD i 0) == keyN (b.getD i 0)) n) := by
  have hbl := hb.1
  have e2 : (cdK b).length = b.length := by simp [cdK]
  have hlen : ((cdK b).take n).length = n := by rw [List.length_take, e2]; omega
  have hget : ∀ i, i < n → ((cdK b).take n).getD i 0 = 30 + keyN (b.getD i 0) := fun i hi => by
    rw [← cdK_get (show i < b.length by omega), List.getD_eq_getElem?_getD, List.getElem?_take, if_pos hi, List.getD_eq_getElem?_getD]
  rw [Bool.eq_iff_iff]
  constructor
  · intro h
    have hle := fitsB_le h
    rw [hlen] at hle
    rw [decide_eq_true hle, Bool.true_and, allB_iff]
    intro i hi
    unfold fitsB at h
    rw [hlen] at h
    have := allB_iff.mp h i hi
    unfold fitAt at this
    rw [hget i hi] at this
    simp only [Bool.and_eq_true, decide_eq_true_eq, Bool.or_eq_true, beq_iff_eq] at this
    have h26 := getD_lt26 ha (show i < a.length by omega)
    have hk := keyN_rng _ (getD_lt26 hb (show i < b.length by omega))
    rw [beq_iff_eq]
    omega
  · intro h
    rw [Bool.and_eq_true, decide_eq_true_eq, allB_iff] at h
    unfold fitsB
    rw [hlen, allB_iff]
    intro i hi
    have := beq_iff_eq.mp (h.2 i hi)
    unfold fitAt
    rw [hget i hi, decide_eq_true (show i < a.length by omega), this]
    simp
theorem isFirst_9 {m : T9} {ws : List Wd} (hW : R9w ws m.1) (ho : okWs ws) {k : Nat} {b : Wd} (hk : ws[k]? = some b) {n : Nat} (hn : n ≤ b.1.length) : f_X9_isFirst m (nI k) (nI n) = some (b01 (firstB ws k n)) := by
  have hwl := ho.1
  have hkl := lt_of_get hk
  have ob := (ho.wd hk).1
  have obl := ob.1
  unfold f_X9_isFirst firstB
  rw [many_9 hW]
  rw [← Bool.true_and (allB _ _)]
  refine lp_flag (fun c => b01 c) (fun o => !(o != k && begK ws k n o) || comesAt ws n k o) ws.length true (fun _ o hlo => ?_) ?_ (fun i hi => ?_) (by omega)
  · obtain ⟨a, ha⟩ := get_of_lt hlo
    have oa := (ho.wd ha).1
    have oal := oa.1
    have hj8 : (if nI o = nI k then some (0 : Int32) else Option.bind (α := Int32) (f_X9_of m (nI o) 0) (fun x10 => (if x10 < nI n then some 0 else some 1))) = some (b01 (decide (o ≠ k) && decide (n ≤ a.1.length))) := by
      by_cases e : o = k
      · rw [if_pos (by rw [e]), decide_eq_false (fun z => z e)]; rfl
      · rw [if_neg (fun z => e ((nI_eq (by omega) (by omega)).mp z)), len_9 hW hwl ha, Option.bind_some, decide_eq_true e]
        by_cases c : n ≤ a.1.length
        · rw [if_neg (nI_nlt c (by omega)), decide_eq_true c]; rfl
        · rw [if_pos (nI_lt (by omega) (by omega)), decide_eq_false c]; rfl
    have hin := lp_flag (body := fun (v12 : Int32 × Int32) => (if nI n ≤ v12.2 then (some (.inr v12.1)) else (if v12.1 = 0 then (some (.inr v12.1)) else Option.bind (α := Int32) (f_X9_letterOf m (nI o) v12.2) (fun x16 => Option.bind (α := Int32) (f_X9_keyOf x16) (fun x17 => Option.bind (α := Int32) (f_X9_letterOf m (nI k) v12.2) (fun x18 => Option.bind (α := Int32) (f_X9_keyOf x18) (fun x19 => Option.bind (α := Int32) ((if x17 = x19 then some 1 else some 0)) (fun j20 => (some (.inl (j20, (v12.2 + 1))))))))))))
      (fun c => b01 c) (fun i => keyN (a.1.getD i 0) == keyN (b.1.getD i 0)) n (decide (o ≠ k) && decide (n ≤ a.1.length)) (fun h0 i hi => by
        rw [Bool.and_eq_true, decide_eq_true_eq, decide_eq_true_eq] at h0
        have la := getD_lt26 oa (show i < a.1.length by omega)
        have lb := getD_lt26 ob (show i < b.1.length by omega)
        have ka := keyN_rng _ la
        have kb := keyN_rng _ lb
        dsimp only
        rw [if_neg (nI_ge hi (by omega)), if_neg (show ¬ b01 true = 0 from by decide), letter_9 hW hwl ha oa (by omega), Option.bind_some, keyOf_9 _ la, Option.bind_some, letter_9 hW hwl hk ob (by omega), Option.bind_some, keyOf_9 _ lb, Option.bind_some, nI_1]
        by_cases e : keyN (a.1.getD i 0) = keyN (b.1.getD i 0)
        · rw [if_pos (by rw [e]), Option.bind_some, beq_iff_eq.mpr e]; rfl
        · rw [if_neg (fun z => e ((nI_eq (by omega) (by omega)).mp z)), Option.bind_some, beq_false_of_ne e]; rfl) (by
        dsimp only
        rw [if_pos (nI_le (Nat.le_refl _) (by omega))]) (fun i hi => by
        dsimp only
        by_cases e : nI n ≤ nI i
        · rw [if_pos e]
        · rw [if_neg e, if_pos (show b01 false = 0 from rfl)]) (fuel := 5000) (by omega)
    have hbeg : (decide (o ≠ k) && decide (n ≤ a.1.length) && allB (fun i => keyN (a.1.getD i 0) == keyN (b.1.getD i 0)) n) = (o != k && begK ws k n o) := by
      have : begK ws k n o = fitsB a.1 ((cdK b.1).take n) := by
        unfold begK
        rw [ha, hk]
      rw [this, fitsK oa ob hn, Bool.and_assoc]
      congr 1
      by_cases e : o = k
      · rw [decide_eq_false (fun z => z e), e]; simp
      · rw [decide_eq_true e, bne_iff_ne.mpr e]
    rw [hbeg] at hin
    rw [Option.bind_some]
    dsimp only
    rw [if_neg (nI_ge hlo (by omega)), if_neg (show ¬ b01 true = 0 from by decide), hj8, Option.bind_some, hin, Option.bind_some, len_9 hW hwl ha, Option.bind_some, len_9 hW hwl hk, nI_1]
    have hx : ∀ L, L ≤ 10 → (if nI L = nI n then some (1 : Int32) else some 0) = some (b01 (decide (L = n))) := fun L hL => by
      by_cases e : L = n
      · rw [if_pos (by rw [e]), decide_eq_true e]; rfl
      · rw [if_neg (fun z => e ((nI_eq (by omega) (by omega)).mp z)), decide_eq_false e]; rfl
    rw [hx _ oal, Option.bind_some, Option.bind_some, hx _ obl, Option.bind_some, isAhead_9 hW ho hk ha, Option.bind_some, comesAt_e hk ha]
    cases hbb : (o != k && begK ws k n o) with
    | false =>
      rw [if_pos (show b01 false = 0 from rfl), Option.bind_some]
      rfl
    | true =>
      rw [Bool.and_eq_true] at hbb
      have hbe := hbb.2
      have : begK ws k n o = fitsB a.1 ((cdK b.1).take n) := by
        unfold begK
        rw [ha, hk]
      rw [this, fitsK oa ob hn, Bool.and_eq_true, decide_eq_true_eq] at hbe
      have hna := hbe.1
      rw [if_neg (show ¬ b01 true = 0 from by decide)]
      unfold comes longC
      by_cases ea : a.1.length = n <;> by_cases eb : b.1.length = n
      · rw [decide_eq_true ea, decide_eq_true eb, if_pos rfl, decide_eq_false (show ¬ n < b.1.length by omega), decide_eq_false (show ¬ n < a.1.length by omega), if_pos rfl]
        cases ahead b a <;> rfl
      · rw [decide_eq_true ea, decide_eq_false eb, if_neg (by decide), if_pos (show b01 false = 0 from rfl), decide_eq_true (show n < b.1.length by omega), decide_eq_false (show ¬ n < a.1.length by omega), if_neg (by decide)]
        rfl
      · rw [decide_eq_false ea, decide_eq_true eb, if_neg (by decide), if_neg (show ¬ b01 true = 0 from by decide), decide_eq_false (show ¬ n < b.1.length by omega), decide_eq_true (show n < a.1.length by omega), if_neg (by decide)]
        rfl
      · rw [decide_eq_false ea, decide_eq_false eb, if_pos rfl, decide_eq_true (show n < b.1.length by omega), decide_eq_true (show n < a.1.length by omega), if_pos rfl]
        cases ahead b a <;> rfl
  · rw [Option.bind_some]
    dsimp only
    rw [if_pos (nI_le (Nat.le_refl _) (by omega)), bz_01, Option.bind_some]
  · rw [Option.bind_some]
    dsimp only
    by_cases e : nI ws.length ≤ nI i
    · rw [if_pos e, bz_01, Option.bind_some]
    · rw [if_neg e, if_pos (show b01 false = 0 from rfl), bz_01, Option.bind_some]
section OPS9
variable {g : Sg} {m : T9}
theorem shortest_9c (hR : R9 g m) (ho : okSg g) (a : Int32) : An9 (f_X9_shortest m a) (anShort g a) := by
  have hW := hR.1.1
  have o1 := ho.1.1
  have hwl := o1.1
  have h1 : ∀ b : Bool, f_X9_goes m (b01 b) 1 = _ := fun b => one_9 m b
  unfold f_X9_shortest anShort
  rw [isWord_9 hW hwl a, Option.bind_some, h1, Option.bind_some]
  cases h : wAt (sWs g.1) a with
  | none => exact no_9 hR
  | some k =>
    obtain ⟨hk1, rfl⟩ := wAt_some h
    obtain ⟨q, hq⟩ := get_of_lt hk1
    have hql := (o1.wd hq).1.1
    have hlen : f_X9_of (thr m 0) (nI k) 0 = _ := len_9 (m := thr m 0) hW hwl hq
    dsimp only
    rw [hq]
    simp only [Option.isSome_some, if_true]
    rw [if_neg (by decide), hlen]
    have hfin : ∀ v : Int32, some (v, thr m 0) = some (v, thr m 0) → An9 (some (v, thr m 0)) (0, v, g) := fun v _ => ya_9 hR v
    have hstep : ∀ j, j < q.1.length → Option.bind (some (nI q.1.length)) (fun x6 => (if x6 < nI (1 + j) then (some (.inr ((-1), thr m 0)) : Option (Int32 ⊕ (Int32 × T9))) else Option.bind (α := Int32) (f_X9_isFirst (thr m 0) (nI k) (nI (1 + j))) (fun x8 => (if x8 = 0 then (some (.inl (nI (1 + j) + 1))) else (some (.inr (nI (1 + j), thr m 0))))))) = if firstB (sWs g.1) k (j + 1) then some (.inr (nI (j + 1), thr m 0)) else some (.inl (nI (1 + (j + 1)))) := by
      intro j hj
      have hf : f_X9_isFirst (thr m 0) (nI k) (nI (1 + j)) = _ := isFirst_9 (m := thr m 0) hW o1 hq (n := 1 + j) (by omega)
      rw [Option.bind_some, if_neg (nI_nlt (by omega) (by omega)), hf, Option.bind_some, nI_1, show 1 + j = j + 1 by omega]
      cases firstB (sWs g.1) k (j + 1) with
      | false => rw [if_pos (show b01 false = 0 from rfl), if_neg (by decide), show j + 1 + 1 = 1 + (j + 1) by omega]
      | true => rw [if_neg (show ¬ b01 true = 0 from by decide), if_pos rfl]
    have hres : lp (σ := Int32) (ρ := Int32 × T9) (fun v4 => Option.bind (α := Int32) (some (nI q.1.length)) (fun x6 => (if x6 < v4 then (some (.inr ((-1), thr m 0))) else Option.bind (α := Int32) (f_X9_isFirst (thr m 0) (nI k) v4) (fun x8 => (if x8 = 0 then (some (.inl (v4 + 1))) else (some (.inr (v4, thr m 0)))))))) 5000 1 = some (shortI (sWs g.1) k q, thr m 0) := by
      unfold shortI
      cases hs : fstN (fun j => firstB (sWs g.1) k (j + 1)) q.1.length with
      | none =>
        refine lp_go (fun j => nI (1 + j)) q.1.length _ (by decide) (fun j hj => ?_) ?_ (by omega)
        · rw [hstep j hj, fstN_none hs j hj, if_neg (by decide)]
        · rw [Option.bind_some, if_pos (nI_lt (by omega) (by omega))]
      | some j0 =>
        obtain ⟨s1, s2, s3⟩ := fstN_some hs
        refine lp_go (fun j => nI (1 + j)) j0 _ (by decide) (fun j hj => ?_) ?_ (by omega)
        · rw [hstep j (by omega), s3 j hj, if_neg (by decide)]
        · rw [hstep j0 s1, s2, if_pos rfl]
    rw [hres]
    exact ya_9 hR _
theorem undo_9c (hR : R9 g m) (ho : okSg g) : An9 (f_X9_undo m) (anUndo g) := by
  have hR0 := hR
  obtain ⟨h1, h2, h3, h4, h5⟩ := hR
  have hl := ho.2.1.1
  unfold f_X9_undo anUndo
  have hj : (if m.2.2.2.1 ≤ 0 then some (0 : Int32) else some 1) = some (b01 (!decide (g.2.1.length = 0))) := by
    rw [h2]
    by_cases e : g.2.1.length = 0
    · rw [if_pos (show nI g.2.1.length ≤ 0 from by rw [e]; decide), decide_eq_true e]; rfl
    · rw [if_neg (show ¬ nI g.2.1.length ≤ 0 from nI_ge (a := 0) (by omega) (by omega)), decide_eq_false e]; rfl
  rw [hj, Option.bind_some, one_9, Option.bind_some]
  cases hg : g.2.1.getLast? with
  | none =>
    have he : g.2.1 = [] := by simpa using hg
    rw [decide_eq_true (by rw [he]; rfl)]
    exact no_9 hR0
  | some s =>
    have hne : g.2.1 ≠ [] := fun e => by rw [e] at hg; simp at hg
    have hp : 0 < g.2.1.length := List.length_pos_iff.mpr hne
    rw [List.getLast?_eq_getElem?] at hg
    have hs := ho.2.1.2 s (List.mem_of_getElem? hg)
    have hsa := h3 _ s hg
    have e1 : nI g.2.1.length - 1 = nI (g.2.1.length - 1) := nI_sub _ 1 (by omega)
    rw [decide_eq_false (by omega)]
    simp only [Bool.not_false, if_true]
    rw [if_neg (by decide)]
    dsimp only [thr]
    rw [h2, e1]
    generalize hc : g.2.1.length - 1 = c at hsa hg
    have hres : lp (σ := Int32 × T9) (ρ := Int32 × T9) (fun v5 => (if 1050 ≤ v5.1 then (some (.inr (v5.2.2.2.2.1, v5.2))) else Option.bind (α := Int32) (rd v5.2.2.1 4200 ((1050 * v5.2.2.2.2.1) + v5.1)) (fun x8 => Option.bind (α := (Nat → Int32)) (wr v5.2.1 1050 v5.1 x8) (fun x9 => (some (.inl ((v5.1 + 1), (x9, v5.2.2.1, v5.2.2.2.1, v5.2.2.2.2.1, v5.2.2.2.2.2.1, v5.2.2.2.2.2.2.1, v5.2.2.2.2.2.2.2.1, v5.2.2.2.2.2.2.2.2.1, v5.2.2.2.2.2.2.2.2.2.1, v5.2.2.2.2.2.2.2.2.2.2)))))))) 5000 (0, (m.1, m.2.1, m.2.2.1, nI c, 0, m.2.2.2.2.2)) = some (nI c, ((fun i => if i < 1050 then m.2.1 (1050 * c + i) else m.1 i), m.2.1, m.2.2.1, nI c, 0, m.2.2.2.2.2)) := by
      refine lp_go (fun j => (nI j, (((fun i => if i < j then m.2.1 (1050 * c + i) else m.1 i), m.2.1, m.2.2.1, nI c, 0, m.2.2.2.2.2) : T9))) 1050 _ ?_ (fun j hj => ?_) ?_ (by omega)
      · have : (fun i => if i < 0 then m.2.1 (1050 * c + i) else m.1 i) = m.1 := by
          funext i
          rw [if_neg (by omega)]
        rw [this, nI_0]
      · have em : (1050 : Int32) * nI c = nI (1050 * c) := (Int32.ofNat_mul 1050 c).symm
        dsimp only
        rw [if_neg (show ¬ (1050 : Int32) ≤ nI j from nI_ge (a := j) (b := 1050) hj (by omega)), em, nI_add, rd_nI (by omega) (by omega), Option.bind_some, wr_nI hj (by omega), Option.bind_some, nI_1]
        have e2 : upd (fun i => if i < j then m.2.1 (1050 * c + i) else m.1 i) j (m.2.1 (1050 * c + j)) = (fun i => if i < j + 1 then m.2.1 (1050 * c + i) else m.1 i) := by
          funext i
          unfold upd
          by_cases e : i = j
          · rw [if_pos e, if_pos (by omega), e]
          · rw [if_neg e]
            dsimp only
            by_cases e3 : i < j
            · rw [if_pos e3, if_pos (by omega)]
            · rw [if_neg e3, if_neg (by omega)]
        rw [e2]
      · dsimp only
        rw [if_pos (by decide)]
    have hres2 : lp (σ := Int32 × T9) (ρ := Int32 × T9) (fun v5 => (if 1050 ≤ v5.1 then (some (.inr (v5.2.2.2.2.1, v5.2))) else Option.bind (α := Int32) (rd v5.2.2.1 4200 ((1050 * v5.2.2.2.2.1) + v5.1)) (fun x8 => Option.bind (α := (Nat → Int32)) (wr v5.2.1 1050 v5.1 x8) (fun x9 => (some (.inl ((v5.1 + 1), (x9, v5.2.2.1, v5.2.2.2.1, v5.2.2.2.2.1, v5.2.2.2.2.2.1, v5.2.2.2.2.2.2.1, v5.2.2.2.2.2.2.2.1, v5.2.2.2.2.2.2.2.2.1, v5.2.2.2.2.2.2.2.2.2.1, v5.2.2.2.2.2.2.2.2.2.2)))))))) 5000 (0, (m.1, m.2.1, m.2.2.1, nI c, 0, m.2.2.2.2.2.1, m.2.2.2.2.2.2.1, m.2.2.2.2.2.2.2.1, m.2.2.2.2.2.2.2.2.1, m.2.2.2.2.2.2.2.2.2)) = _ := hres
    rw [hres2]
    refine ⟨_, _, rfl, ⟨?_, ?_, fun k s' hk => ?_, h4, h5⟩, rfl, fun _ => rfl⟩
    · exact hsa.congr hs (fun i hi => by dsimp only; rw [if_pos hi])
    · show nI c = nI g.2.1.dropLast.length
      rw [List.length_dropLast, hc]
    · have hk : g.2.1.dropLast[k]? = some s' := hk
      have hkl := lt_of_get hk
      rw [List.length_dropLast] at hkl
      rw [List.getElem?_dropLast, if_pos hkl] at hk
      exact h3 k s' hk
end OPS9
