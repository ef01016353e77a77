/-! ===== both lists loaded ===== -/
theorem load_its {its : List (List Nat × Nat)} (hl : its.length ≤ 50) (ho : ∀ i ∈ its, okIt i) (hp : its.Pairwise (fun a b => a.1 ≠ b.1)) : anLoad (s00, [], bts its) = (nI its.length, saveG (s00, [], bts its) (loadS s00 (its.map itQ))) := by
  have h := items_read its [] [] 51 (by omega) (by simpa using hl) ho (fun i _ q hq => by cases hq) hp
  have hr : readN (bts its) = (none, its.map itQ) := by
    unfold readN
    simpa using h
  unfold anLoad
  dsimp only
  rw [hr]
  dsimp only
  rw [List.length_map]
theorem q_load {its : List (List Nat × Nat)} {x : T8} (hA : Al (s00, [], bts its) x) (hl : its.length ≤ 50) (ho : ∀ i ∈ its, okIt i) (hp : its.Pairwise (fun a b => a.1 ≠ b.1)) : ∃ r, f_X8_load x = some (nI its.length, r) ∧ Al (saveG (s00, [], bts its) (loadS s00 (its.map itQ))) (r.1, r.2.1, (r.2.2.2.1, x.2.2.1.2.1, r.2.2.1), r.2.2.2.2, x.2.2.2.2) := by
  obtain ⟨⟨r, l1, l2, l3⟩, l4⟩ := load_8 hA.2 hA.1
  rw [load_its hl ho hp] at l2 l3 l4
  have l2 : r.1 = nI its.length := l2
  exact ⟨r.2, by rw [l1, ← l2], l4, l3⟩
theorem bts_len (sc : Nat × (Nat → Int32)) (f : Nat → Nat) : ∀ l : List Nat, (bts (l.map (fun i => itK sc (f i)))).length ≤ 7 * l.length
  | [] => Nat.zero_le _
  | a :: l => by
    have h1 := bts_len sc f l
    have h2 := itB_len sc (f a)
    have e : bts ((a :: l).map (fun i => itK sc (f i))) = itB (itK sc (f a)) ++ bts (l.map (fun i => itK sc (f i))) := by simp [bts]
    rw [e, List.length_append, List.length_cons]
    omega
theorem bts_snoc (f : Nat → List Nat × Nat) (j : Nat) : bts ((List.range (j + 1)).map f) = bts ((List.range j).map f) ++ itB (f j) := by simp [bts, List.range_succ]
theorem map_back {α : Type} (f : Nat → α) (n : Nat) : (List.range n).map (fun i => f (n - 1 - i)) = ((List.range n).map f).reverse := by
  apply List.ext_getElem?
  intro i
  by_cases hi : i < n
  · rw [List.getElem?_reverse (by simpa using hi), List.getElem?_map, List.getElem?_map, List.getElem?_range hi, List.length_map, List.length_range, List.getElem?_range (by omega)]
    rfl
  · rw [List.getElem?_eq_none (by simp; omega), List.getElem?_eq_none (by simp; omega)]
theorem its_ok (sc : Nat × (Nat → Int32)) {n : Nat} (hn : n ≤ 20) (f : Nat → Nat) (hf : ∀ i, i < n → f i < n) (hi : ∀ i j, i < n → j < n → f i = f j → i = j) : (∀ i ∈ (List.range n).map (fun i => itK sc (f i)), okIt i) ∧ ((List.range n).map (fun i => itK sc (f i))).Pairwise (fun a b => a.1 ≠ b.1) := by
  constructor
  · intro i hi
    obtain ⟨j, hj, rfl⟩ := List.mem_map.mp hi
    have := hf j (List.mem_range.mp hj)
    exact itK_ok sc (by omega)
  · rw [List.pairwise_iff_getElem]
    intro i j h1 h2 hij
    simp only [List.length_map, List.length_range] at h1 h2
    simp only [List.getElem_map, List.getElem_range]
    exact itK_ne sc (fun e => by
      have := hi i j h1 h2 e
      omega)
/-- both lists were loaded, and the two writers are alike behind it -/
def LoadOk (x y : T8) (z : Option (Int32 × T2 × T6 × T5s × T6 × T3 × T2 × T6 × T5s × T6 × T3)) : Prop := ∃ r, z = some r ∧ r.1 = 1 ∧ ∃ g h, Al g (r.2.1, r.2.2.1, (r.2.2.2.2.1, x.2.2.1.2.1, r.2.2.2.1), r.2.2.2.2.2.1, x.2.2.2.2) ∧ Al h (r.2.2.2.2.2.2.1, r.2.2.2.2.2.2.2.1, (r.2.2.2.2.2.2.2.2.2.1, y.2.2.1.2.1, r.2.2.2.2.2.2.2.2.1), r.2.2.2.2.2.2.2.2.2.2, y.2.2.2.2) ∧ Sim g.1 h.1
section LAWP
variable {g h : Sg} {x y : T8} {sc : Nat × (Nat → Int32)}
theorem loads_ok (hL : sc.1 ≤ 260) (hA : Al (s00, [], []) x) (hB : Al (s00, [], []) y) {n : Nat} (hn : n ≤ 20) : LoadOk x y (f_L_loads x y sc (nI n)) := by
  unfold f_L_loads
  refine lp_use (fun z => LoadOk x y z)
    (fun (j : Nat) (v : Int32 × Int32 × T2 × T2) => v.1 = 1 ∧ v.2.1 = nI j ∧ Al (s00, [], bts ((List.range j).map (fun i => itK sc i))) (v.2.2.1, x.2.1, x.2.2.1, x.2.2.2.1, x.2.2.2.2) ∧ Al (s00, [], bts ((List.range j).map (fun i => itK sc (n - 1 - i)))) (v.2.2.2, y.2.1, y.2.2.1, y.2.2.2.1, y.2.2.2.2))
    (fun (r : Int32 × T2 × T2) => r.1 = 1 ∧ Al (s00, [], bts ((List.range n).map (fun i => itK sc i))) (r.2.1, x.2.1, x.2.2.1, x.2.2.2.1, x.2.2.2.2) ∧ Al (s00, [], bts ((List.range n).map (fun i => itK sc (n - 1 - i)))) (r.2.2, y.2.1, y.2.2.1, y.2.2.2.1, y.2.2.2.2)) n ⟨rfl, nI_0.symm, hA, hB⟩ (fun j v hj hv => ?_) (fun v hv => ?_) (by omega) (fun r hr => ?_)
  · obtain ⟨v1, v2, v3, v4⟩ := hv
    have b1 := bts_len sc (fun i => i) (List.range j)
    have b2 := bts_len sc (fun i => n - 1 - i) (List.range j)
    rw [List.length_range] at b1 b2
    obtain ⟨r1, a1, A1⟩ := lawItem_ok hL v3 (k := j) (by omega) (by show (bts ((List.range j).map (fun i => itK sc i))).length + 7 ≤ 150; omega)
    obtain ⟨r2, a2, A2⟩ := lawItem_ok hL v4 (k := n - 1 - j) (by omega) (by show (bts ((List.range j).map (fun i => itK sc (n - 1 - i)))).length + 7 ≤ 150; omega)
    have a1 : f_L_item (v.2.2.1, x.2.1, x.2.2.1, x.2.2.2.1, x.2.2.2.2) sc (nI j) = some (1, r1) := a1
    have a2 : f_L_item (v.2.2.2, y.2.1, y.2.2.1, y.2.2.2.1, y.2.2.2.2) sc (nI (n - 1 - j)) = some (1, r2) := a2
    have e1 : nI n - 1 = nI (n - 1) := nI_sub n 1 (by omega)
    rw [v2, if_neg (nI_ge hj (by omega)), v1, if_neg (by decide), a1, Option.bind_some]
    dsimp only
    rw [if_neg (by decide), e1, nI_sub _ _ (by omega), a2, Option.bind_some]
    dsimp only
    rw [if_neg (by decide), Option.bind_some, nI_1]
    refine ⟨_, rfl, rfl, rfl, ?_, ?_⟩
    · rw [bts_snoc]
      exact A1
    · rw [bts_snoc]
      exact A2
  · obtain ⟨v1, v2, v3, v4⟩ := hv
    rw [v2, if_pos (nI_le (Nat.le_refl _) (by omega))]
    exact ⟨_, rfl, v1, v3, v4⟩
  · obtain ⟨r1, r2, r3⟩ := hr
    obtain ⟨o1, p1⟩ := its_ok sc hn (fun i => i) (fun i h => h) (fun i j _ _ h => h)
    obtain ⟨o2, p2⟩ := its_ok sc hn (fun i => n - 1 - i) (fun i h => by omega) (fun i j _ _ h => by omega)
    have l1 : ((List.range n).map (fun i => itK sc i)).length = n := by simp
    have l2 : ((List.range n).map (fun i => itK sc (n - 1 - i))).length = n := by simp
    obtain ⟨t1, a1, A1⟩ := q_load r2 (by omega) o1 p1
    obtain ⟨t2, a2, A2⟩ := q_load r3 (by omega) o2 p2
    rw [l1] at a1
    rw [l2] at a2
    rw [r1, if_neg (by decide), a1, Option.bind_some]
    dsimp only
    rw [if_pos rfl, a2, Option.bind_some]
    dsimp only
    rw [if_pos rfl]
    refine ⟨_, rfl, rfl, _, _, A1, A2, ?_, rfl⟩
    show (((List.range n).map (fun i => itK sc i)).map itQ).Perm (((List.range n).map (fun i => itK sc (n - 1 - i))).map itQ)
    rw [map_back (fun i => itK sc i) n]
    exact ((List.reverse_perm _).symm).map _
theorem mode_len (ho : okSt g.1) : (sPl (modeS g.1 true)).length = (sPl g.1).length := by
  obtain ⟨hs1, hs2⟩ := shL_ok ho
  have hcl : (cdL (shL g.1)).length = (shL g.1).length := by simp [cdL]
  show ((cdL (shL g.1)).take (sPl g.1).length).length = _
  rw [List.length_take, hcl, Nat.min_eq_left hs2]
theorem digG_at (s : St) (sv sv' : List St) (tb : List Nat) (h : sv'.length = sv.length) : digG (s, sv', tb) = digG (s, sv, tb) := by
  unfold digG
  dsimp only
  rw [h]
theorem digG_1 (s : St) (sv sv' : List St) (tb : List Nat) (h : sv.length = 4) (h' : sv'.length = 3) : digG (s, sv', tb) = digG (s, sv, tb) - 1 := by
  unfold digG
  dsimp only
  rw [h, h', Int64.sub_eq_add_neg, Int64.add_assoc]
  congr 1
theorem push_last (sv : List St) (s : St) : (pushN sv s).getLast? = some s := by
  unfold pushN
  simp
theorem push_drop (sv : List St) (s : St) : (pushN sv s).dropLast = if sv.length = 4 then sv.tail else sv := by
  unfold pushN
  simp
set_option maxHeartbeats 4000000 in
theorem law_1 (hD : Dbl) (hL : sc.1 ≤ 260) : f_L_law z8 z8 sc = some 1 := by
  have hZ : Al (s00, [], []) z8 := ⟨new_ok, R8_new⟩
  have c0 : f_L_cell sc 0 = some (celN sc 0) := cell_nI hL (i := 0) (by omega)
  have u20 : f_L_up (celN sc 0) 20 = some (nI (upN (celN sc 0) 20)) := up_nI _ (n := 20) (by omega) (by omega)
  have hu := upN_lt (celN sc 0) (n := 20) (by omega)
  have e1 : (1 : Int32) + nI (upN (celN sc 0) 20) = nI (1 + upN (celN sc 0) 20) := nI_add 1 _
  obtain ⟨x3, l1, l2, g, h, A3, B3, S3⟩ := loads_ok hL hZ hZ (n := 1 + upN (celN sc 0) 20) (by omega)
  obtain ⟨c4, d4, k4⟩ := areAlike_ok hD A3 B3 S3
  unfold f_L_law
  rw [c0, Option.bind_some, u20, Option.bind_some, e1, l1, Option.bind_some, l2, if_neg (by decide), k4, Option.bind_some]
  dsimp only
  rw [if_neg (by decide), Option.bind_some]
  dsimp only
  refine lp_use (fun z => z = some 1)
    (fun (j : Nat) (v : Int32 × Int32 × T5s × T6 × T7 × T3 × T0 × T5s × T6 × T7 × T3 × T0) => v.1 = 1 ∧ v.2.1 = nI j ∧ ∃ g h, Al g (x3.2.1, x3.2.2.1, (v.2.2.2.1, v.2.2.2.2.1, v.2.2.1), v.2.2.2.2.2.1, v.2.2.2.2.2.2.1) ∧ Al h (x3.2.2.2.2.2.2.1, x3.2.2.2.2.2.2.2.1, (v.2.2.2.2.2.2.2.2.1, v.2.2.2.2.2.2.2.2.2.1, v.2.2.2.2.2.2.2.1), v.2.2.2.2.2.2.2.2.2.2.1, v.2.2.2.2.2.2.2.2.2.2.2) ∧ Sim g.1 h.1)
    (fun (r : Int32 × T5s × T6 × T7 × T3 × T0 × T5s × T6 × T7 × T3 × T0) => r.1 = 1 ∧ ∃ g h, Al g (x3.2.1, x3.2.2.1, (r.2.2.1, r.2.2.2.1, r.2.1), r.2.2.2.2.1, r.2.2.2.2.2.1) ∧ Al h (x3.2.2.2.2.2.2.1, x3.2.2.2.2.2.2.2.1, (r.2.2.2.2.2.2.2.1, r.2.2.2.2.2.2.2.2.1, r.2.2.2.2.2.2.1), r.2.2.2.2.2.2.2.2.2.1, r.2.2.2.2.2.2.2.2.2.2) ∧ Sim g.1 h.1) 40 ⟨rfl, nI_0.symm, g, h, A3, B3, S3⟩ (fun j v hj hv => ?_) (fun v hv => ?_) (by omega) (fun x9 hr => ?_)
  · obtain ⟨v1, v2, g, h, A, B, S⟩ := hv
    have e22 : (22 : Int32) + nI j = nI (22 + j) := nI_add 22 j
    obtain ⟨x13, s1, s2, g1, h1, A1, B1, S1⟩ := isStep_ok A B S (celN sc (22 + j))
    dsimp only at A1 B1
    obtain ⟨c5, d5, k5⟩ := areAlike_ok hD A1 B1 S1
    obtain ⟨c6, k6⟩ := isSound_ok hD (A1.c c5)
    have k6 : f_L_isSound (x3.2.1, x3.2.2.1, (x13.2.2.1, x13.2.2.2.1, x13.2.1), x13.2.2.2.2.1, c5) = some (1, c6) := k6
    rw [v2, if_neg (show ¬ (40 : Int32) ≤ nI j from nI_ge (a := j) (b := 40) hj (by omega)), v1, if_neg (by decide), e22, cell_nI hL (by omega), Option.bind_some, s1, Option.bind_some, s2, if_neg (by decide), k5, Option.bind_some]
    dsimp only
    rw [if_neg (by decide), k6, Option.bind_some]
    dsimp only
    rw [if_neg (by decide), Option.bind_some, nI_1]
    exact ⟨_, rfl, rfl, rfl, g1, h1, A1, B1, S1⟩
  · obtain ⟨v1, v2, v3⟩ := hv
    rw [v2, if_pos (by decide)]
    exact ⟨_, rfl, v1, v3⟩
  · obtain ⟨r1, g, h, A, B, S⟩ := hr
    have hpl := A.1.1.2.2.2.1.1
    have hsv := A.1.2.1.1
    obtain ⟨c20, k20⟩ := q_digest A
    obtain ⟨x23, k23, A23⟩ := q_mode (A.c c20) true
    have k23 : f_X8_mode (x3.2.1, x3.2.2.1, (x9.2.2.1, x9.2.2.2.1, x9.2.1), x9.2.2.2.2.1, c20) 1 = some (nI (sPl g.1).length, x23) := k23
    dsimp only at A23
    obtain ⟨c24, k24⟩ := q_set A23 (v := 6) (by decide) (by decide)
    have e24 : setI (saveG g (modeS g.1 true)).1 6 = nI (sPl g.1).length := by
      rw [set_6]
      exact congrArg nI (mode_len A.1.1)
    rw [e24] at k24
    obtain ⟨x26, k26, A26⟩ := q_undo (A23.c c24) (s := g.1) (push_last g.2.1 g.1)
    have hpl5 : (saveG g (modeS g.1 true)).2.1.length ≤ 4 := A23.1.2.1.1
    have k26 : jr (f_X8_undo (x3.2.1, x3.2.2.1, (x9.2.2.1, x9.2.2.2.1, x23.1), x23.2.1, c24)) = some (nI ((saveG g (modeS g.1 true)).2.1.length - 1), x26) := k26
    dsimp only at A26
    have A26 : Al (g.1, (pushN g.2.1 g.1).dropLast, g.2.2) (x3.2.1, x3.2.2.1, (x26.2.1, x26.2.2.1, x26.1), x26.2.2.2, c24) := A26
    obtain ⟨c29, k29⟩ := q_digest A26
    obtain ⟨c33, k33⟩ := q_digest (A26.c c29)
    have k33 : f_X8_digest (x3.2.1, x3.2.2.1, (x26.2.1, x26.2.2.1, x26.1), x26.2.2.2, c29) = some (digG (g.1, (pushN g.2.1 g.1).dropLast, g.2.2), c33) := k33
    obtain ⟨c31, d31, k31⟩ := areAlike_ok hD (A26.c c29) B S
    have k31 : f_L_areAlike (x3.2.1, x3.2.2.1, (x26.2.1, x26.2.2.1, x26.1), x26.2.2.2, c29) (x3.2.2.2.2.2.2.1, x3.2.2.2.2.2.2.2.1, (x9.2.2.2.2.2.2.2.1, x9.2.2.2.2.2.2.2.2.1, x9.2.2.2.2.2.2.1), x9.2.2.2.2.2.2.2.2.2.1, x9.2.2.2.2.2.2.2.2.2.2) = some (1, c31, d31) := k31
    obtain ⟨c35, d35, k35⟩ := areAlike_ok hD (A26.c c33) B S
    have k35 : f_L_areAlike (x3.2.1, x3.2.2.1, (x26.2.1, x26.2.2.1, x26.1), x26.2.2.2, c33) (x3.2.2.2.2.2.2.1, x3.2.2.2.2.2.2.2.1, (x9.2.2.2.2.2.2.2.1, x9.2.2.2.2.2.2.2.2.1, x9.2.2.2.2.2.2.1), x9.2.2.2.2.2.2.2.2.2.1, x9.2.2.2.2.2.2.2.2.2.2) = some (1, c35, d35) := k35
    rw [k20, Option.bind_some, r1, if_neg (by decide)]
    dsimp only
    rw [k23, Option.bind_some]
    dsimp only
    rw [k24, Option.bind_some]
    dsimp only
    rw [if_pos rfl, k26, Option.bind_some]
    dsimp only
    rw [if_neg (nI_pos (by omega)), Option.bind_some]
    dsimp only
    rw [if_neg (by decide), k29, Option.bind_some]
    dsimp only
    by_cases e : digG (g.1, (pushN g.2.1 g.1).dropLast, g.2.2) = digG g
    · rw [if_pos e, k31, Option.bind_some]
      dsimp only
      rw [if_neg (by decide)]
    · rw [if_neg e, k33, Option.bind_some]
      dsimp only
      have e2 : digG (g.1, (pushN g.2.1 g.1).dropLast, g.2.2) = digG g - 1 := by
        by_cases h4 : g.2.1.length = 4
        · exact digG_1 g.1 g.2.1 _ g.2.2 h4 (by rw [push_drop, if_pos h4, List.length_tail]; omega)
        · exact absurd (digG_at g.1 g.2.1 _ g.2.2 (by rw [push_drop, if_neg h4])) e
      rw [if_pos e2, k35, Option.bind_some]
      dsimp only
      rw [if_neg (by decide)]
end LAWP
