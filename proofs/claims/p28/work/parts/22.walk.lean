/-! ===== the law from its entry ===== -/
theorem gN_of {A : Nat → Prop} {S : List va_W} (h : va_D A S.flatten) : gN A (S.map gas) := by
  have e : (S.map gas).flatten = S.flatten.map Prod.fst := (List.map_flatten (f := Prod.fst) (L := S)).symm
  refine ⟨?_, fun q hq => ?_⟩
  · rw [e]
    unfold List.Nodup
    rw [List.pairwise_iff_getElem]
    intro i j hi hj hij heq
    simp only [List.length_map] at hi hj
    simp only [List.getElem_map] at heq
    have := h.1 i j _ _ (List.getElem?_eq_getElem hi) (List.getElem?_eq_getElem hj) heq
    omega
  · rw [e] at hq
    obtain ⟨z, hz, rfl⟩ := List.mem_map.mp hq
    obtain ⟨k, hk⟩ := List.getElem?_of_mem hz
    exact h.2 k z hk
set_option maxHeartbeats 4000000 in
theorem law_all {p : Program} {e : Env} {s : State} {m : MethodId} {below : List Frame} {meth : Method} {c : Code} {l : Launch} {b L : Nat} {xs : Nat → Int32} (hpure : f_L_law z8 z8 (L, xs) = some 1) (F : gF p m c cL_law 7 s #[Value.ref b] RL) (hr : meth.sig.returnType = ret) (hlk : meth.locks = false) (hts : ∀ w ∈ lw_tbl, w.before #[Value.ref b] s = true) (hSc : va_X b L xs s s.heap) (hbl : b < s.heap.size) (hgv : (Cond.and given_1 narrow_1).before #[Value.ref b] s = true) :
    ∀ ls : Array Slot, lv_has ls 7 [(0, .ref b)] → W p l e room_1 s m #[Value.ref b] below meth c s.heap [] 0 0 (lw_Z below #[Value.ref b] s) (F0 m 0 ls []) := by
  intro ls hl
  obtain ⟨E, hE, hK, hX⟩ := st_E hts hgv hSc hbl
  have hAB : ∀ q, Alw s q → gB E q := fun q h => by unfold gB; rw [hE]; exact h
  have eb : E.2.2.1.2.1 = b := by rw [hE]
  have hf : f_L_law z8 z8 E.2.2.1.2.2 = some 1 := by rw [hE]; exact hpure
  have hx := F.1
  have hb := F.2.1
  have hP : va_P E.1 vwCl [] s.heap := fun k q h => by cases h
  have hD : va_D (Alw s) [] := ⟨fun i j p q h => (by cases h), fun k q h => (by cases h)⟩
  have hA : ∀ q, s.heap.size ≤ q → Alw s q := fun q h => h
  have hS : va_S (Alw s) s.heap s.heap [] := va_S.rf
  refine r_new (tf := tyX8) (fs := [.null, .null, .null, .null, .null]) F hK hP hD hS hA 6 rfl gx_inX8 tyX8_ok gw_18 gw_19 gw_1 (fun j hj => by rcases (show j = 0 ∨ j = 1 ∨ j = 2 ∨ j = 3 ∨ j = 4 by omega) with rfl | rfl | rfl | rfl | rfl <;> rfl) (Nat.le_of_ble_eq_true rfl) (Nat.le_of_ble_eq_true rfl) dL_law_0 (fun q0 H hP hD hS => ?_)
  refine lv_dup hx hb dL_law_3 rfl ?_
  refine r_callP (rest := [.ref q0]) (wr := []) F hK hP hD hS hA (c_X8_init q0) gw_22 gw_20 gw_1 gw_21 rfl hiX8 rfl rfl ⟨Nat.le_of_ble_eq_true rfl, Nat.le_of_ble_eq_true rfl⟩ 0 rfl [] rfl rfl (by decide) hl.1 (lv_room (Nat.le_of_ble_eq_true rfl)) ⟨Nat.le_of_ble_eq_true rfl, Nat.le_of_ble_eq_true rfl⟩ dL_law_4 (fun p1 H locs ep1 hP2 hD2 hS2 => ?_)
  clear hP hD hS
  subst ep1
  have hP := hP2
  have hD := hD2
  have hS := hS2
  clear hP2 hD2 hS2
  refine lv_astore_n (lv' := [(1, .ref (p1 0)), (0, .ref b)]) hx hb dL_law_7 rfl hl (Nat.le_of_ble_eq_true rfl) rfl (fun ls hl => ?_)
  refine r_new (tf := tyX8) (fs := [.null, .null, .null, .null, .null]) F hK hP hD hS hA 6 rfl gx_inX8 tyX8_ok gw_18 gw_19 gw_1 (fun j hj => by rcases (show j = 0 ∨ j = 1 ∨ j = 2 ∨ j = 3 ∨ j = 4 by omega) with rfl | rfl | rfl | rfl | rfl <;> rfl) (Nat.le_of_ble_eq_true rfl) (Nat.le_of_ble_eq_true rfl) dL_law_8 (fun q2 H hP hD hS => ?_)
  refine lv_dup hx hb dL_law_11 rfl ?_
  refine r_callP (rest := [.ref q2]) (wr := [C8 E p1 0, C2 E p1 (0+1) z2, C6 E p1 (0+3) z6, C5 E p1 (0+9) z5s, C6 E p1 ((0+9)+1) z6, C7 E p1 ((0+9)+7) z7, C3 E p1 (0+18) z3, C0 E p1 (0+20) z0].flatten) F hK hP hD hS hA (c_X8_init q2) gw_22 gw_20 gw_1 gw_21 rfl hiX8 rfl rfl ⟨Nat.le_of_ble_eq_true rfl, Nat.le_of_ble_eq_true rfl⟩ 58 rfl (List.range 58) rfl rfl (by decide) hl.1 (lv_room (Nat.le_of_ble_eq_true rfl)) ⟨Nat.le_of_ble_eq_true rfl, Nat.le_of_ble_eq_true rfl⟩ dL_law_12 (fun p3 H locs ep3 hP2 hD2 hS2 => ?_)
  clear hP hD hS
  subst ep3
  have hP := hP2
  have hD := hD2
  have hS := hS2
  clear hP2 hD2 hS2
  refine lv_astore_n (lv' := [(2, .ref (p3 0)), (1, .ref (p1 0)), (0, .ref b)]) hx hb dL_law_15 rfl hl (Nat.le_of_ble_eq_true rfl) rfl (fun ls hl => ?_)
  have hG : gS E (Alw s) s.heap [C8 E p1 0, C2 E p1 (0+1) z8.1, C6 E p1 (0+3) z8.2.1, C5 E p1 (0+9) z8.2.2.1.2.2, C6 E p1 ((0+9)+1) z8.2.2.1.1, C7 E p1 ((0+9)+7) z8.2.2.1.2.1, C3 E p1 (0+18) z8.2.2.2.1, C0 E p1 (0+20) z8.2.2.2.2, C8 E p3 0, C2 E p3 (0+1) z8.1, C6 E p3 (0+3) z8.2.1, C5 E p3 (0+9) z8.2.2.1.2.2, C6 E p3 ((0+9)+1) z8.2.2.1.1, C7 E p3 ((0+9)+7) z8.2.2.1.2.1, C3 E p3 (0+18) z8.2.2.2.1, C0 E p3 (0+20) z8.2.2.2.2] H locs := by
    refine ⟨gP_flat.mpr ?_, gN_of ?_, hS⟩
    · exact hP
    · exact hD
  exact law_rest F hr hlk hK hX hAB (h1 := p1) (h2 := p3) z8 z8 hf H locs hG ls (by rw [eb]; exact lv_sub hl [2, 1, 0] rfl)
