/-! ===== the law's loop, and its start ===== -/
def Good (Rel : T8 → T9 → Prop) : Prop := Rel z8 z9 ∧ ∀ (x : T8) (m9 : T9), Rel x m9 → ∀ (k a1 a2 : Int32) (ou : Nat → Int64), ∃ o, stp k a1 a2 x m9 ou = some o ∧ Rel o.1 o.2.1
theorem stp_def {k a1 a2 : Int32} {x : T8} {m9 : T9} {ou : Nat → Int64} (h : ¬ k = 0 ∧ ¬ k = 1 ∧ ¬ k = 2 ∧ ¬ k = 3 ∧ ¬ k = 4 ∧ ¬ k = 5 ∧ ¬ k = 6 ∧ ¬ k = 7 ∧ ¬ k = 8 ∧ ¬ k = 9 ∧ ¬ k = 10 ∧ ¬ k = 11 ∧ ¬ k = 12 ∧ ¬ k = 13 ∧ ¬ k = 14 ∧ ¬ k = 15 ∧ ¬ k = 16 ∧ ¬ k = 17 ∧ ¬ k = 18 ∧ ¬ k = 19 ∧ ¬ k = 20 ∧ ¬ k = 21 ∧ ¬ k = 22 ∧ ¬ k = 23 ∧ ¬ k = 24) : stp k a1 a2 x m9 ou = some (x, m9, ou) := by
  obtain ⟨h0, h1, h2, h3, h4, h5, h6, h7, h8, h9, h10, h11, h12, h13, h14, h15, h16, h17, h18, h19, h20, h21, h22, h23, h24⟩ := h
  unfold stp
  rw [if_neg h0, if_neg h1, if_neg h2, if_neg h3, if_neg h4, if_neg h5, if_neg h6, if_neg h7, if_neg h8, if_neg h9, if_neg h10, if_neg h11, if_neg h12, if_neg h13, if_neg h14, if_neg h15, if_neg h16, if_neg h17, if_neg h18, if_neg h19, if_neg h20, if_neg h21, if_neg h22, if_neg h23, if_neg h24]
theorem k25 {k : Int32} (h : ¬ (k < 0 ∨ 24 < k)) : k = 0 ∨ k = 1 ∨ k = 2 ∨ k = 3 ∨ k = 4 ∨ k = 5 ∨ k = 6 ∨ k = 7 ∨ k = 8 ∨ k = 9 ∨ k = 10 ∨ k = 11 ∨ k = 12 ∨ k = 13 ∨ k = 14 ∨ k = 15 ∨ k = 16 ∨ k = 17 ∨ k = 18 ∨ k = 19 ∨ k = 20 ∨ k = 21 ∨ k = 22 ∨ k = 23 ∨ k = 24 := by
  have h1 : ¬ k.toInt < 0 := fun z => h (Or.inl (Int32.lt_iff_toInt_lt.mpr z))
  have h2 : ¬ 24 < k.toInt := fun z => h (Or.inr (Int32.lt_iff_toInt_lt.mpr z))
  have e : k.toInt = 0 ∨ k.toInt = 1 ∨ k.toInt = 2 ∨ k.toInt = 3 ∨ k.toInt = 4 ∨ k.toInt = 5 ∨ k.toInt = 6 ∨ k.toInt = 7 ∨ k.toInt = 8 ∨ k.toInt = 9 ∨ k.toInt = 10 ∨ k.toInt = 11 ∨ k.toInt = 12 ∨ k.toInt = 13 ∨ k.toInt = 14 ∨ k.toInt = 15 ∨ k.toInt = 16 ∨ k.toInt = 17 ∨ k.toInt = 18 ∨ k.toInt = 19 ∨ k.toInt = 20 ∨ k.toInt = 21 ∨ k.toInt = 22 ∨ k.toInt = 23 ∨ k.toInt = 24 := by omega
  rcases e with e | e | e | e | e | e | e | e | e | e | e | e | e | e | e | e | e | e | e | e | e | e | e | e | e
  · exact Or.inl (Int32.toInt_inj.mp e)
  · exact Or.inr (Or.inl (Int32.toInt_inj.mp e))
  · exact Or.inr (Or.inr (Or.inl (Int32.toInt_inj.mp e)))
  · exact Or.inr (Or.inr (Or.inr (Or.inl (Int32.toInt_inj.mp e))))
  · exact Or.inr (Or.inr (Or.inr (Or.inr (Or.inl (Int32.toInt_inj.mp e)))))
  · exact Or.inr (Or.inr (Or.inr (Or.inr (Or.inr (Or.inl (Int32.toInt_inj.mp e))))))
  · exact Or.inr (Or.inr (Or.inr (Or.inr (Or.inr (Or.inr (Or.inl (Int32.toInt_inj.mp e)))))))
  · exact Or.inr (Or.inr (Or.inr (Or.inr (Or.inr (Or.inr (Or.inr (Or.inl (Int32.toInt_inj.mp e))))))))
  · exact Or.inr (Or.inr (Or.inr (Or.inr (Or.inr (Or.inr (Or.inr (Or.inr (Or.inl (Int32.toInt_inj.mp e)))))))))
  · exact Or.inr (Or.inr (Or.inr (Or.inr (Or.inr (Or.inr (Or.inr (Or.inr (Or.inr (Or.inl (Int32.toInt_inj.mp e))))))))))
  · exact Or.inr (Or.inr (Or.inr (Or.inr (Or.inr (Or.inr (Or.inr (Or.inr (Or.inr (Or.inr (Or.inl (Int32.toInt_inj.mp e)))))))))))
  · exact Or.inr (Or.inr (Or.inr (Or.inr (Or.inr (Or.inr (Or.inr (Or.inr (Or.inr (Or.inr (Or.inr (Or.inl (Int32.toInt_inj.mp e))))))))))))
  · exact Or.inr (Or.inr (Or.inr (Or.inr (Or.inr (Or.inr (Or.inr (Or.inr (Or.inr (Or.inr (Or.inr (Or.inr (Or.inl (Int32.toInt_inj.mp e)))))))))))))
  · exact Or.inr (Or.inr (Or.inr (Or.inr (Or.inr (Or.inr (Or.inr (Or.inr (Or.inr (Or.inr (Or.inr (Or.inr (Or.inr (Or.inl (Int32.toInt_inj.mp e))))))))))))))
  · exact Or.inr (Or.inr (Or.inr (Or.inr (Or.inr (Or.inr (Or.inr (Or.inr (Or.inr (Or.inr (Or.inr (Or.inr (Or.inr (Or.inr (Or.inl (Int32.toInt_inj.mp e)))))))))))))))
  · exact Or.inr (Or.inr (Or.inr (Or.inr (Or.inr (Or.inr (Or.inr (Or.inr (Or.inr (Or.inr (Or.inr (Or.inr (Or.inr (Or.inr (Or.inr (Or.inl (Int32.toInt_inj.mp e))))))))))))))))
  · exact Or.inr (Or.inr (Or.inr (Or.inr (Or.inr (Or.inr (Or.inr (Or.inr (Or.inr (Or.inr (Or.inr (Or.inr (Or.inr (Or.inr (Or.inr (Or.inr (Or.inl (Int32.toInt_inj.mp e)))))))))))))))))
  · exact Or.inr (Or.inr (Or.inr (Or.inr (Or.inr (Or.inr (Or.inr (Or.inr (Or.inr (Or.inr (Or.inr (Or.inr (Or.inr (Or.inr (Or.inr (Or.inr (Or.inr (Or.inl (Int32.toInt_inj.mp e))))))))))))))))))
  · exact Or.inr (Or.inr (Or.inr (Or.inr (Or.inr (Or.inr (Or.inr (Or.inr (Or.inr (Or.inr (Or.inr (Or.inr (Or.inr (Or.inr (Or.inr (Or.inr (Or.inr (Or.inr (Or.inl (Int32.toInt_inj.mp e)))))))))))))))))))
  · exact Or.inr (Or.inr (Or.inr (Or.inr (Or.inr (Or.inr (Or.inr (Or.inr (Or.inr (Or.inr (Or.inr (Or.inr (Or.inr (Or.inr (Or.inr (Or.inr (Or.inr (Or.inr (Or.inr (Or.inl (Int32.toInt_inj.mp e))))))))))))))))))))
  · exact Or.inr (Or.inr (Or.inr (Or.inr (Or.inr (Or.inr (Or.inr (Or.inr (Or.inr (Or.inr (Or.inr (Or.inr (Or.inr (Or.inr (Or.inr (Or.inr (Or.inr (Or.inr (Or.inr (Or.inr (Or.inl (Int32.toInt_inj.mp e)))))))))))))))))))))
  · exact Or.inr (Or.inr (Or.inr (Or.inr (Or.inr (Or.inr (Or.inr (Or.inr (Or.inr (Or.inr (Or.inr (Or.inr (Or.inr (Or.inr (Or.inr (Or.inr (Or.inr (Or.inr (Or.inr (Or.inr (Or.inr (Or.inl (Int32.toInt_inj.mp e))))))))))))))))))))))
  · exact Or.inr (Or.inr (Or.inr (Or.inr (Or.inr (Or.inr (Or.inr (Or.inr (Or.inr (Or.inr (Or.inr (Or.inr (Or.inr (Or.inr (Or.inr (Or.inr (Or.inr (Or.inr (Or.inr (Or.inr (Or.inr (Or.inr (Or.inl (Int32.toInt_inj.mp e)))))))))))))))))))))))
  · exact Or.inr (Or.inr (Or.inr (Or.inr (Or.inr (Or.inr (Or.inr (Or.inr (Or.inr (Or.inr (Or.inr (Or.inr (Or.inr (Or.inr (Or.inr (Or.inr (Or.inr (Or.inr (Or.inr (Or.inr (Or.inr (Or.inr (Or.inr (Or.inl (Int32.toInt_inj.mp e))))))))))))))))))))))))
  · exact Or.inr (Or.inr (Or.inr (Or.inr (Or.inr (Or.inr (Or.inr (Or.inr (Or.inr (Or.inr (Or.inr (Or.inr (Or.inr (Or.inr (Or.inr (Or.inr (Or.inr (Or.inr (Or.inr (Or.inr (Or.inr (Or.inr (Or.inr (Or.inr ((Int32.toInt_inj.mp e)))))))))))))))))))))))))
theorem k25n {k : Int32} (h : k < 0 ∨ 24 < k) : ¬ k = 0 ∧ ¬ k = 1 ∧ ¬ k = 2 ∧ ¬ k = 3 ∧ ¬ k = 4 ∧ ¬ k = 5 ∧ ¬ k = 6 ∧ ¬ k = 7 ∧ ¬ k = 8 ∧ ¬ k = 9 ∧ ¬ k = 10 ∧ ¬ k = 11 ∧ ¬ k = 12 ∧ ¬ k = 13 ∧ ¬ k = 14 ∧ ¬ k = 15 ∧ ¬ k = 16 ∧ ¬ k = 17 ∧ ¬ k = 18 ∧ ¬ k = 19 ∧ ¬ k = 20 ∧ ¬ k = 21 ∧ ¬ k = 22 ∧ ¬ k = 23 ∧ ¬ k = 24 := by
  refine ⟨?_, ?_, ?_, ?_, ?_, ?_, ?_, ?_, ?_, ?_, ?_, ?_, ?_, ?_, ?_, ?_, ?_, ?_, ?_, ?_, ?_, ?_, ?_, ?_, ?_⟩ <;> (rintro rfl; revert h; decide)
theorem gN_of {A : Nat → Prop} {S : List va_W} (h : va_D A S.flatten) : gN A (S.map gas) := by
  have e : (S.map gas).flatten = S.flatten.map Prod.fst := (List.map_flatten (f := Prod.fst) (L := S)).symm
  refine ⟨?_, fun q hq => ?_⟩
  · rw [e]
    unfold List.Nodup
    rw [List.pairwise_iff_getElem]
    intro i j hi hj hij heq
    simp only [List.length_map] at hi hj
    simp only [List.getElem_map] at heq
    have := h.1 i j _ _ (List.getElem?_eq_getElem hi) (List.getElem?_eq_getElem hj) heq
    omega
  · rw [e] at hq
    obtain ⟨z, hz, rfl⟩ := List.mem_map.mp hq
    obtain ⟨k, hk⟩ := List.getElem?_of_mem hz
    exact h.2 k z hk
section LAWL
variable {p : Program} {l : Launch} {e : Env} {s : State} {m : MethodId} {below : List Frame} {meth : Method} {c : Code} {b : Nat}
set_option maxHeartbeats 4000000 in
theorem law_loop {Rel : T8 → T9 → Prop} (hRel : Good Rel) (hst : l.stackTraces = false) (F : gF p m c cL_law 9 s #[Value.ref b] RL) (hr : meth.sig.returnType = ret) (hlk : meth.locks = false) {E : gEnv} (hK : gK E s) (hNc : gNc s) (hX : gX E s s.heap) (hAB : ∀ q, Alw s q → gB E q) {L : Nat} {xs : Nat → Int32} (hL : L ≤ 1536) (hSc : va_X b L xs s s.heap) (hbl : b < s.heap.size) {h hm ho : Nat → Nat} :
    ∀ (n j : Nat), L < 3 * j + n → 3 * j ≤ L + 3 → ∀ (x : T8) (m9 : T9) (ou : Nat → Int64), Rel x m9 → ∀ (H : Heap) (locs : List Loc), gS E (Alw s) s.heap (WL E h hm ho x m9 ou) H locs → ∀ ls : Array Slot, lv_has ls 9 [(4, .int (nI (3 * j))), (3, .ref (ho 0)), (2, .ref (hm 0)), (1, .ref (h 0)), (0, .ref b)] →
      W p l e room_1 s m #[Value.ref b] below meth c H locs (65 + j) (8433 + 6 * j) (lw_Z below #[Value.ref b] s) (F0 m 23 ls []) := by
  intro n
  induction n using Nat.strongRecOn with
  | _ n ih =>
  intro j hn hj x m9 ou hxm H locs hG ls hl
  have hx := F.1
  have hb := F.2.1
  have hbA : ¬ Alw s b := Nat.not_le.mpr hbl
  refine lv_iload hx hb dL_law_23 (lv_at hl 0 rfl) ?_
  refine lv_aload_n hx hb dL_law_25 rfl (lv_at hl 4 rfl) ?_
  refine va_slen hx hb hSc hbl hbA hG.2.2 dL_law_26 ?_
  refine lv_iconst (v := 3) hx hb dL_law_27 (by decide) ?_
  refine lv_isub hx hb dL_law_28 ?_
  refine lv_icmp_gt (tgt := 1358) hx hb dL_law_29 (by decide) (fun c1 => ?_) (fun c1 => ?_)
  · refine lv_iconst (v := 1) hx hb dL_law_1358 (by decide) ?_
    refine va_forget (fun q hq => hG.2.2.2.2 q hq) ?_
    refine W.widen (k := 601024) (n := 7293034) (by omega) (by omega) ?_
    exact lw_ret (d0 := s.drawn) (Drawn.sameBut.refl s.drawn lw_cs) hx hb hr hlk dL_law_1359
  · have hlt : 3 * j + 3 ≤ L := by
      have h1 : (Int32.ofNat L - 3).toInt = (L : Int) - 3 := by
        have h0 : (Int32.ofNat L).toInt = (L : Int) := nI_toInt (n := L) (by omega)
        rw [Int32.toInt_sub, h0]
        show ((L : Int) - 3).bmod (2 ^ 32) = _
        exact Int.bmod_eq_of_le (by omega) (by omega)
      have h2 : (nI (3 * j)).toInt = ((3 * j : Nat) : Int) := nI_toInt (by omega)
      have h3 : ¬ ((L : Int) - 3 < ((3 * j : Nat) : Int)) := by
        intro z
        apply c1
        rw [Int32.lt_iff_toInt_lt, h1, h2]
        exact z
      omega
    have i0 : vp_in (nI (3 * j)) L := vp_in_nI (by omega) (by omega)
    have i1 : vp_in (nI (3 * j) + 1) L := by rw [nI_1]; exact vp_in_nI (by omega) (by omega)
    have i2 : vp_in (nI (3 * j) + 2) L := by
      have e2 : nI (3 * j) + 2 = nI (3 * j + 2) := nI_add (3 * j) 2
      rw [e2]; exact vp_in_nI (by omega) (by omega)
    refine lv_aload_n hx hb dL_law_32 rfl (lv_at hl 4 rfl) ?_
    refine lv_iload hx hb dL_law_33 (lv_at hl 0 rfl) ?_
    refine va_sld hx hb hSc hbl hbA hG.2.2 i0 dL_law_35 ?_
    refine lv_bipush (v := 31) hx hb dL_law_36 (by decide) ?_
    refine lv_iand hx hb dL_law_38 ?_
    generalize hk : xs (nI (3 * j)).toNatClampNeg &&& 31 = k
    generalize ha1 : xs (nI (3 * j) + 1).toNatClampNeg = a1
    generalize ha2 : xs (nI (3 * j) + 2).toNatClampNeg = a2
    obtain ⟨o, ho1, ho2⟩ := hRel.2 x m9 hxm k a1 a2 ou
    have hc : 65 + j + 1 ≤ room_1.cells ∧ 8433 + 6 * j + 6 ≤ room_1.slots := ⟨Nat.le_trans (show 65 + j + 1 ≤ 601024 by omega) (Nat.le_refl _), Nat.le_trans (show 8433 + 6 * j + 6 ≤ 7293034 by omega) (Nat.le_refl _)⟩
    have kk : ∀ (H1 : Heap) (locs1 : List Loc) (ls1 : Array Slot), lv_has ls1 9 [(4, .int (nI (3 * j))), (3, .ref (ho 0)), (2, .ref (hm 0)), (1, .ref (h 0)), (0, .ref b)] → gS E (Alw s) s.heap (WL E h hm ho o.1 o.2.1 o.2.2) H1 locs1 → W p l e room_1 s m #[Value.ref b] below meth c H1 locs1 (65 + j + 1) (8433 + 6 * j + 6) (lw_Z below #[Value.ref b] s) (F0 m 1352 ls1 []) := by
      intro H1 locs1 ls1 hl1 hG1
      have e3 : nI (3 * j) + Int32.ofInt 3 = nI (3 * (j + 1)) := nI_add (3 * j) 3
      refine lv_iinc (v := nI (3 * (j + 1))) (lv' := [(4, .int (nI (3 * (j + 1)))), (3, .ref (ho 0)), (2, .ref (hm 0)), (1, .ref (h 0)), (0, .ref b)]) hx hb dL_law_1352 hl1 (k := 0) rfl e3 (by decide) rfl (fun ls2 hl2 => ?_)
      refine lv_goto (tgt := 23) hx hb dL_law_1355 (by decide) ?_
      have := ih (n - 3) (by omega) (j + 1) (by omega) (by omega) o.1 o.2.1 o.2.2 ho2 H1 locs1 hG1 ls2 hl2
      rw [show 65 + (j + 1) = 65 + j + 1 by omega, show 8433 + 6 * (j + 1) = 8433 + 6 * j + 6 by omega] at this
      exact this
    by_cases hd : k < 0 ∨ 24 < k
    · refine g_tabOut (kl := 0) (kh := 24) (tgt := 1352) hd hx hb dL_law_39 (by decide) (by decide) (by decide) ?_
      rw [stp_def (k25n hd)] at ho1
      cases ho1
      exact W.widen (Nat.le_add_right _ 1) (Nat.le_add_right _ 6) (kk _ _ _ hl hG)
    · rcases k25 hd with rfl | rfl | rfl | rfl | rfl | rfl | rfl | rfl | rfl | rfl | rfl | rfl | rfl | rfl | rfl | rfl | rfl | rfl | rfl | rfl | rfl | rfl | rfl | rfl | rfl
      · refine g_tabIn (kx := 0) (tgt := 152) rfl hx hb dL_law_39 (by decide) (by decide) rfl (by decide) ?_
        exact law_0 hst F hK hNc hX hAB hSc hbl i1 i2 ha1 ha2 hl hc hG ho1 kk
      · refine g_tabIn (kx := 1) (tgt := 208) rfl hx hb dL_law_39 (by decide) (by decide) rfl (by decide) ?_
        exact law_1 hst F hK hNc hX hAB hSc hbl i1 i2 ha1 ha2 hl hc hG ho1 kk
      · refine g_tabIn (kx := 2) (tgt := 221) rfl hx hb dL_law_39 (by decide) (by decide) rfl (by decide) ?_
        exact law_2 hst F hK hNc hX hAB hSc hbl i1 i2 ha1 ha2 hl hc hG ho1 kk
      · refine g_tabIn (kx := 3) (tgt := 234) rfl hx hb dL_law_39 (by decide) (by decide) rfl (by decide) ?_
        exact law_3 hst F hK hNc hX hAB hSc hbl i1 i2 ha1 ha2 hl hc hG ho1 kk
      · refine g_tabIn (kx := 4) (tgt := 318) rfl hx hb dL_law_39 (by decide) (by decide) rfl (by decide) ?_
        exact law_4 hst F hK hNc hX hAB hSc hbl i1 i2 ha1 ha2 hl hc hG ho1 kk
      · refine g_tabIn (kx := 5) (tgt := 386) rfl hx hb dL_law_39 (by decide) (by decide) rfl (by decide) ?_
        exact law_5 hst F hK hNc hX hAB hSc hbl i1 i2 ha1 ha2 hl hc hG ho1 kk
      · refine g_tabIn (kx := 6) (tgt := 454) rfl hx hb dL_law_39 (by decide) (by decide) rfl (by decide) ?_
        exact law_6 hst F hK hNc hX hAB hSc hbl i1 i2 ha1 ha2 hl hc hG ho1 kk
      · refine g_tabIn (kx := 7) (tgt := 510) rfl hx hb dL_law_39 (by decide) (by decide) rfl (by decide) ?_
        exact law_7 hst F hK hNc hX hAB hSc hbl i1 i2 ha1 ha2 hl hc hG ho1 kk
      · refine g_tabIn (kx := 8) (tgt := 523) rfl hx hb dL_law_39 (by decide) (by decide) rfl (by decide) ?_
        exact law_8 hst F hK hNc hX hAB hSc hbl i1 i2 ha1 ha2 hl hc hG ho1 kk
      · refine g_tabIn (kx := 9) (tgt := 564) rfl hx hb dL_law_39 (by decide) (by decide) rfl (by decide) ?_
        exact law_9 hst F hK hNc hX hAB hSc hbl i1 i2 ha1 ha2 hl hc hG ho1 kk
      · refine g_tabIn (kx := 10) (tgt := 608) rfl hx hb dL_law_39 (by decide) (by decide) rfl (by decide) ?_
        exact law_10 hst F hK hNc hX hAB hSc hbl i1 i2 ha1 ha2 hl hc hG ho1 kk
      · refine g_tabIn (kx := 11) (tgt := 652) rfl hx hb dL_law_39 (by decide) (by decide) rfl (by decide) ?_
        exact law_11 hst F hK hNc hX hAB hSc hbl i1 i2 ha1 ha2 hl hc hG ho1 kk
      · refine g_tabIn (kx := 12) (tgt := 696) rfl hx hb dL_law_39 (by decide) (by decide) rfl (by decide) ?_
        exact law_12 hst F hK hNc hX hAB hSc hbl i1 i2 ha1 ha2 hl hc hG ho1 kk
      · refine g_tabIn (kx := 13) (tgt := 752) rfl hx hb dL_law_39 (by decide) (by decide) rfl (by decide) ?_
        exact law_13 hst F hK hNc hX hAB hSc hbl i1 i2 ha1 ha2 hl hc hG ho1 kk
      · refine g_tabIn (kx := 14) (tgt := 808) rfl hx hb dL_law_39 (by decide) (by decide) rfl (by decide) ?_
        exact law_14 hst F hK hNc hX hAB hSc hbl i1 i2 ha1 ha2 hl hc hG ho1 kk
      · refine g_tabIn (kx := 15) (tgt := 864) rfl hx hb dL_law_39 (by decide) (by decide) rfl (by decide) ?_
        exact law_15 hst F hK hNc hX hAB hSc hbl i1 i2 ha1 ha2 hl hc hG ho1 kk
      · refine g_tabIn (kx := 16) (tgt := 920) rfl hx hb dL_law_39 (by decide) (by decide) rfl (by decide) ?_
        exact law_16 hst F hK hNc hX hAB hSc hbl i1 i2 ha1 ha2 hl hc hG ho1 kk
      · refine g_tabIn (kx := 17) (tgt := 976) rfl hx hb dL_law_39 (by decide) (by decide) rfl (by decide) ?_
        exact law_17 hst F hK hNc hX hAB hSc hbl i1 i2 ha1 ha2 hl hc hG ho1 kk
      · refine g_tabIn (kx := 18) (tgt := 1044) rfl hx hb dL_law_39 (by decide) (by decide) rfl (by decide) ?_
        exact law_18 hst F hK hNc hX hAB hSc hbl i1 i2 ha1 ha2 hl hc hG ho1 kk
      · refine g_tabIn (kx := 19) (tgt := 1100) rfl hx hb dL_law_39 (by decide) (by decide) rfl (by decide) ?_
        exact law_19 hst F hK hNc hX hAB hSc hbl i1 i2 ha1 ha2 hl hc hG ho1 kk
      · refine g_tabIn (kx := 20) (tgt := 1184) rfl hx hb dL_law_39 (by decide) (by decide) rfl (by decide) ?_
        exact law_20 hst F hK hNc hX hAB hSc hbl i1 i2 ha1 ha2 hl hc hG ho1 kk
      · refine g_tabIn (kx := 21) (tgt := 1197) rfl hx hb dL_law_39 (by decide) (by decide) rfl (by decide) ?_
        exact law_21 hst F hK hNc hX hAB hSc hbl i1 i2 ha1 ha2 hl hc hG ho1 kk
      · refine g_tabIn (kx := 22) (tgt := 1238) rfl hx hb dL_law_39 (by decide) (by decide) rfl (by decide) ?_
        exact law_22 hst F hK hNc hX hAB hSc hbl i1 i2 ha1 ha2 hl hc hG ho1 kk
      · refine g_tabIn (kx := 23) (tgt := 1294) rfl hx hb dL_law_39 (by decide) (by decide) rfl (by decide) ?_
        exact law_23 hst F hK hNc hX hAB hSc hbl i1 i2 ha1 ha2 hl hc hG ho1 kk
      · refine g_tabIn (kx := 24) (tgt := 1338) rfl hx hb dL_law_39 (by decide) (by decide) rfl (by decide) ?_
        exact law_24 hst F hK hNc hX hAB hSc hbl i1 i2 ha1 ha2 hl hc hG ho1 kk
end LAWL
/-- the law's own road from its entry, given what holds of the two records at every call -/
theorem law_all {Rel : T8 → T9 → Prop} (hRel : Good Rel) {p : Program} {e : Env} {s : State} {m : MethodId} {below : List Frame} {meth : Method} {c : Code} {l : Launch} (hst : l.stackTraces = false) {b L : Nat} {xs : Nat → Int32} (hL : L ≤ 1536) (F : gF p m c cL_law 9 s #[Value.ref b] RL) (hr : meth.sig.returnType = ret) (hlk : meth.locks = false) (hts : ∀ w ∈ lw_tbl, w.before #[Value.ref b] s = true) (hSc : va_X b L xs s s.heap) (hbl : b < s.heap.size) (hgv : (Cond.and given_1 narrow_1).before #[Value.ref b] s = true) :
    ∀ ls : Array Slot, lv_has ls 9 [(0, .ref b)] → W p l e room_1 s m #[Value.ref b] below meth c s.heap [] 0 0 (lw_Z below #[Value.ref b] s) (F0 m 0 ls []) := by
  intro ls hl
  obtain ⟨E, hE, hK, hNc, hX⟩ := st_E hts hgv
  have hAB : ∀ q, Alw s q → gB E q := fun q h => by unfold gB; rw [hE]; exact h
  have hx := F.1
  have hb := F.2.1
  have hP : va_P E.1 vwCl [] s.heap := fun k q h => by cases h
  have hD : va_D (Alw s) [] := ⟨fun i j p q h => (by cases h), fun k q h => (by cases h)⟩
  have hA : ∀ q, s.heap.size ≤ q → Alw s q := fun q h => h
  have hS : va_S (Alw s) s.heap s.heap [] := va_S.rf
  refine r_new (tf := tyX8) (fs := [.null, .null, .null, .null, .null]) F hK hP hD hS hA 6 rfl gx_inX8 tyX8_ok gw_19 gw_20 gw_1 (fun j hj => by rcases (show j = 0 ∨ j = 1 ∨ j = 2 ∨ j = 3 ∨ j = 4 by omega) with rfl | rfl | rfl | rfl | rfl <;> rfl) (Nat.le_of_ble_eq_true rfl) (Nat.le_of_ble_eq_true rfl) dL_law_0 (fun q0 H hP hD hS => ?_)
  refine lv_dup hx hb dL_law_3 rfl ?_
  refine r_callP (rest := [.ref q0]) (wr := []) F hK hP hD hS hA (c_X8_init q0) gw_23 gw_21 gw_1 gw_22 rfl hiX8 rfl rfl ⟨Nat.le_of_ble_eq_true rfl, Nat.le_of_ble_eq_true rfl⟩ 0 rfl [] rfl rfl (by decide) hl.1 (lv_room (Nat.le_of_ble_eq_true rfl)) ⟨Nat.le_of_ble_eq_true rfl, Nat.le_of_ble_eq_true rfl⟩ dL_law_4 (fun p1 H locs ep1 hP2 hD2 hS2 => ?_)
  clear hP hD hS
  subst ep1
  have hP := hP2
  have hD := hD2
  have hS := hS2
  clear hP2 hD2 hS2
  refine lv_astore_n (lv' := [(1, .ref (p1 0)), (0, .ref b)]) hx hb dL_law_7 rfl hl (Nat.le_of_ble_eq_true rfl) rfl (fun ls hl => ?_)
  refine r_new (tf := tyX9) (fs := [.null, .null, .null, .int 0, .int 0, .null, .int 0, .null, .int 0, .int 0]) F hK hP hD hS hA 7 rfl gx_inX9 tyX9_ok gw_812 gw_813 gw_8 (fun j hj => by rcases (show j = 0 ∨ j = 1 ∨ j = 2 ∨ j = 3 ∨ j = 4 ∨ j = 5 ∨ j = 6 ∨ j = 7 ∨ j = 8 ∨ j = 9 by omega) with rfl | rfl | rfl | rfl | rfl | rfl | rfl | rfl | rfl | rfl <;> rfl) (Nat.le_of_ble_eq_true rfl) (Nat.le_of_ble_eq_true rfl) dL_law_8 (fun q2 H hP hD hS => ?_)
  refine lv_dup hx hb dL_law_11 rfl ?_
  refine r_callP (rest := [.ref q2]) (wr := [C8 E p1 0, C2 E p1 (0+1) z2, C6 E p1 (0+3) z6, C5 E p1 (0+9) z5s, C6 E p1 ((0+9)+1) z6, C7 E p1 ((0+9)+7) z7, C3 E p1 (0+18) z3, C0 E p1 (0+20) z0].flatten) F hK hP hD hS hA (c_X9_init q2) gw_816 gw_814 gw_8 gw_815 rfl hiX9 rfl rfl ⟨Nat.le_of_ble_eq_true rfl, Nat.le_of_ble_eq_true rfl⟩ 58 rfl (List.range 58) rfl rfl (by decide) hl.1 (lv_room (Nat.le_of_ble_eq_true rfl)) ⟨Nat.le_of_ble_eq_true rfl, Nat.le_of_ble_eq_true rfl⟩ dL_law_12 (fun p3 H locs ep3 hP2 hD2 hS2 => ?_)
  clear hP hD hS
  subst ep3
  have hP := hP2
  have hD := hD2
  have hS := hS2
  clear hP2 hD2 hS2
  refine lv_astore_n (lv' := [(2, .ref (p3 0)), (1, .ref (p1 0)), (0, .ref b)]) hx hb dL_law_15 rfl hl (Nat.le_of_ble_eq_true rfl) rfl (fun ls hl => ?_)
  refine lv_iconst (v := 1) hx hb dL_law_16 (by decide) ?_
  refine r_newJ F hK hP hD hS hA 1 (by decide) (by decide) (by decide) (Nat.le_of_ble_eq_true rfl) (Nat.le_of_ble_eq_true rfl) dL_law_17 (fun q4 H hP hD hS => ?_)
  refine lv_astore_n (lv' := [(3, .ref q4), (2, .ref (p3 0)), (1, .ref (p1 0)), (0, .ref b)]) hx hb dL_law_19 rfl hl (Nat.le_of_ble_eq_true rfl) rfl (fun ls hl => ?_)
  refine lv_iconst (v := 0) hx hb dL_law_20 (by decide) ?_
  refine lv_istore (lv' := [(4, .int 0), (3, .ref q4), (2, .ref (p3 0)), (1, .ref (p1 0)), (0, .ref b)]) hx hb dL_law_21 hl (by decide) rfl (fun ls hl => ?_)
  have hG : gS E (Alw s) s.heap (WL E p1 p3 (fun _ => q4) z8 z9 (fun _ => 0)) H locs := by
    refine ⟨gP_flat.mpr ?_, gN_of ?_, hS⟩
    · exact hP
    · exact hD
  exact law_loop hRel hst F hr hlk hK hNc hX hAB hL hSc hbl (h := p1) (hm := p3) (ho := fun _ => q4) (L + 1) 0 (by omega) (by omega) z8 z9 (fun _ => 0) hRel.1 H locs hG ls hl
