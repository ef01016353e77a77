/-! ===== the start: what the tables and the first state say, as gK and gX have it ===== -/
def lw_fl : List Cond := flatC (Cond.and given_1 narrow_1)
theorem st_nest : ∀ w ∈ gx_nest, w ∈ lw_tbl := by decide +kernel
theorem st_strs : ∀ q ∈ gx_strs, Cond.stringRef RX8 q.1 q.2 ∈ lw_tbl := by decide +kernel
def tmK : Term := .static RX1 "KEY_OF_LETTER" "[I"
def tmF : Term := .static RX1 "FIRST_LETTER_FROM_KEY_2" "[I"
theorem st_K : ∀ j : Nat, j < 26 → Cond.eq (.elem tmK (.int (Int32.ofNat j))) (.int (gkol j)) ∈ lw_fl := by decide +kernel
theorem st_F : ∀ j : Nat, j < 8 → Cond.eq (.elem tmF (.int (Int32.ofNat j))) (.int (gflk j)) ∈ lw_fl := by decide +kernel
theorem st_eq {args : Array Value} {s : State} {a : Term} {y : Int32} (h : (Cond.eq a (.int y)).before args s = true) : a.eval args s none [] s = some (.int y) := by
  obtain ⟨z, h1, h2⟩ := Cond.eq_one h
  cases h2
  exact h1
theorem st_arr {args : Array Value} {s : State} {ty : FieldType} (h : (Cond.arrayClass ty).before args s = true) : ∃ c : ClassId, ArrOfT s c ty ∧ s.vm.findClass ("[" ++ ty.toString) = some c := by
  obtain ⟨c, k, comp, h1, h2, h3⟩ := Cond.arrayClass_spec h
  exact ⟨c, fun n z => ⟨fun k h => (by cases h), k, h2, comp, h3⟩, h1⟩
theorem st_arrO {args : Array Value} {s : State} {C : String} (h : (Cond.arrayOver (.object C)).before args s = true) : ∃ c : ClassId, ArrOfT s c (.object C) ∧ va_RA s c (.object C) := by
  obtain ⟨comp, c, k, h1, h2, h3, h4, h5⟩ := Cond.arrayOver_spec h
  exact ⟨c, fun n z => ⟨fun k h => (by cases h), k, h3, comp, h4⟩, k, comp, h3, h4, h1, h5⟩
theorem st_E {args : Array Value} {s : State} (hts : ∀ w ∈ lw_tbl, w.before args s = true) (hgv : (Cond.and given_1 narrow_1).before args s = true) {b L : Nat} {xs : Nat → Int32} (hSc : va_X b L xs s s.heap) (hbl : b < s.heap.size) : ∃ E : gEnv, E.2.2.1 = (s.heap.size, b, L, xs) ∧ gK E s ∧ gX E s s.heap := by
  have ht : ∀ w ∈ gx_G, w.before args s = true := fun w h => hts w (gx_sub w h)
  have hs : ∀ w ∈ lw_fl, w.before args s = true := flat_of_before _ hgv
  obtain ⟨c0, i0, k0⟩ := u_known ht gx_inX0 (ht _ gw_157)
  obtain ⟨c2, i2, k2⟩ := u_known ht gx_inX2 (ht _ gw_27)
  obtain ⟨c3, i3, k3⟩ := u_known ht gx_inX3 (ht _ gw_140)
  obtain ⟨c5, i5, k5⟩ := u_known ht gx_inX5 (ht _ gw_74)
  obtain ⟨c6, i6, k6⟩ := u_known ht gx_inX6 (ht _ gw_45)
  obtain ⟨c7, i7, k7⟩ := u_known ht gx_inX7 (ht _ gw_82)
  obtain ⟨c8, i8, k8⟩ := u_known ht gx_inX8 (ht _ gw_19)
  obtain ⟨cI, aI, nI⟩ := st_arr (ht _ gw_43)
  obtain ⟨cJ, aJ, nJ⟩ := st_arr (ht _ gw_71)
  obtain ⟨cZ, aZ, nZ⟩ := st_arr (ht _ gw_72)
  have hAO : (Cond.arrayOver (.object "KeypadWriter$State")).before args s = true := hts _ (by decide +kernel)
  obtain ⟨cS, aS, nS⟩ := st_arrO hAO
  have hA : ∀ a : Nat, a < s.heap.size → ¬ s.heap.size ≤ a := fun a h => Nat.not_le.mpr h
  obtain ⟨t1, e1, T1⟩ := va_Tof (tm := tmK) (ty := .int) (N := 26) (f := fun j => .int (gkol j)) (A := fun q => s.heap.size ≤ q) (by decide) (hs _ (by decide +kernel)) (st_eq (hs _ (by decide +kernel))) (fun j hj => st_eq (hs _ (st_K j hj))) hA
  obtain ⟨t2, e2, T2⟩ := va_Tof (tm := tmF) (ty := .int) (N := 8) (f := fun j => .int (gflk j)) (A := fun q => s.heap.size ≤ q) (by decide) (hs _ (by decide +kernel)) (st_eq (hs _ (by decide +kernel))) (fun j hj => st_eq (hs _ (st_F j hj))) hA
  refine ⟨((fun c => ([c0, c2, c3, c5, c6, c7, c8] : List ClassId).getD c 0, fun c => ([i0, i2, i3, i5, i6, i7, i8] : List (Nat → Nat)).getD c (fun _ => 0)), (cI, cJ, cZ, cS), ((s.heap.size, b, L, xs), t1, t2)), rfl, ⟨⟨?_, ?_⟩, ?_, ?_, va_AO.of hAO⟩, ⟨?_, T1⟩, ⟨?_, T2⟩, ?_⟩
  · intro c q hq
    rcases c with _ | _ | _ | _ | _ | _ | _ | c
    · cases hq; exact k0
    · cases hq; exact k2
    · cases hq; exact k3
    · cases hq; exact k5
    · cases hq; exact k6
    · cases hq; exact k7
    · cases hq; exact k8
    · cases hq
  · intro k q hq
    rcases k with _ | _ | _ | _ | k
    · cases hq; exact ⟨aI, nI⟩
    · cases hq; exact ⟨aJ, nJ⟩
    · cases hq; exact ⟨aZ, nZ⟩
    · cases hq; exact ⟨aS, nS⟩
    · cases hq
  · exact fun w hw => va_Nw.of (gx_nest_on w hw) (hts _ (st_nest w hw))
  · intro q hq
    have h1 := hts _ (st_strs q hq)
    obtain ⟨k, cf, i, a, -, -, -, -, -, h2⟩ := Cond.stringRef_spec k8.2.1 h1
    exact ⟨a, vk_R.of h1 h2⟩
  · exact va_Zof (hts _ (by decide +kernel)) (ht _ gw_14) e1 hA
  · exact va_Zof (hts _ (by decide +kernel)) (ht _ gw_14) e2 hA
  · obtain ⟨scr, x1, x2, x3, x4, x5⟩ := hSc
    exact ⟨scr, x1, x2, x3, Nat.le_of_eq x4.symm, by rw [x4], x5, hA b hbl⟩
