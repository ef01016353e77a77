set_option maxHeartbeats 4000000 in
set_option maxRecDepth 100000 in
theorem c_L_cell {l : Launch} {E : gEnv}  (a1 : Int32) {o : Int32} (hf : f_L_cell E.2.2.1.2.2 a1 = some o) : gR l yL_cell cL_cell 2 (some .int) rL_cell E [.ref E.2.2.1.2.1, .int a1] [] (some (.int o)) := by
  refine gR.of (by decide +kernel) (Nat.le_of_ble_eq_true rfl) ?_
  intro p e s m below meth c F hr hlk hK hX hP ls hl
  have F : gF p m c cL_cell 2 s ([.ref E.2.2.1.2.1, .int a1] : List Value).toArray RL := F
  generalize ([.ref E.2.2.1.2.1, .int a1] : List Value).toArray = args at F ⊢
  generalize hQ : MQ below _ _ _ _ _ _ = Q
  have hl : lv_has ls 2 [(0, .ref E.2.2.1.2.1), (1, .int a1)] := hl
  have hx := F.1
  have hb := F.2.1
  unfold f_L_cell at hf
  refine lv_iload_n hx hb dL_cell_0 rfl (lv_at hl 1 rfl) ?_
  refine lv_aload_n hx hb dL_cell_1 rfl (lv_at hl 0 rfl) ?_
  refine va_tlen (v := (nI E.2.2.1.2.2.1)) hx hb hX.2.2 va_S.rf rfl dL_cell_2 ?_
  refine lv_icmp_ge (tgt := 12) hx hb dL_cell_3 (by decide) (fun c1 => ?_) (fun c1 => ?_)
  · have hf := g_it c1 hf
    refine lv_ldc (v := 773529912) hx hb F.2.2.2.1 (F.2.2.2.2 _ gw_471) dL_cell_12 ?_
    refine lv_iload_n hx hb dL_cell_14 rfl (lv_at hl 1 rfl) ?_
    refine lv_sipush (v := 523) hx hb dL_cell_15 (by decide) ?_
    refine lv_iadd hx hb dL_cell_18 ?_
    refine lv_imul hx hb dL_cell_19 ?_
    have ho := Option.some.inj hf
    rw [← hQ, ← ho]
    exact g_retI F hr hlk dL_cell_20
  · have hf := g_if c1 hf
    refine lv_aload_n hx hb dL_cell_6 rfl (lv_at hl 0 rfl) ?_
    refine lv_iload_n hx hb dL_cell_7 rfl (lv_at hl 1 rfl) ?_
    obtain ⟨x2, hx2, hf⟩ := g_bnd hf
    refine va_ti hx hb hX.2.2 va_S.rf (rd_in hx2).1 (congrArg Value.int (rd_in hx2).2) dL_cell_8 ?_
    refine lv_goto (tgt := 20) hx hb dL_cell_9 (by decide) ?_
    have ho := Option.some.inj hf
    rw [← hQ, ← ho]
    exact g_retI F hr hlk dL_cell_20
set_option maxHeartbeats 4000000 in
set_option maxRecDepth 100000 in
theorem c_L_up {l : Launch} {E : gEnv}  (a0 : Int32) (a1 : Int32) {o : Int32} (hf : f_L_up a0 a1 = some o) : gR l yL_up cL_up 2 (some .int) rL_up E [.int a0, .int a1] [] (some (.int o)) := by
  refine gR.of (by decide +kernel) (Nat.le_of_ble_eq_true rfl) ?_
  intro p e s m below meth c F hr hlk hK hX hP ls hl
  have F : gF p m c cL_up 2 s ([.int a0, .int a1] : List Value).toArray RL := F
  generalize ([.int a0, .int a1] : List Value).toArray = args at F ⊢
  generalize hQ : MQ below _ _ _ _ _ _ = Q
  have hl : lv_has ls 2 [(0, .int a0), (1, .int a1)] := hl
  have hx := F.1
  have hb := F.2.1
  unfold f_L_up at hf
  refine lv_iload_n hx hb dL_up_0 rfl (lv_at hl 0 rfl) ?_
  refine lv_ldc (v := 2147483647) hx hb F.2.2.2.1 (F.2.2.2.2 _ gw_475) dL_up_1 ?_
  refine lv_iand hx hb dL_up_3 ?_
  refine lv_iload_n hx hb dL_up_4 rfl (lv_at hl 1 rfl) ?_
  obtain ⟨u1, hu1, hf⟩ := g_bnd hf
  refine lv_irem hx hb dL_up_5 (nz_ne hu1) ?_
  have ho := Option.some.inj hf
  rw [← hQ, ← ho]
  exact g_retI F hr hlk dL_up_6
set_option maxHeartbeats 4000000 in
set_option maxRecDepth 100000 in
theorem c_L_item {l : Launch} {E : gEnv} (h0 : Nat → Nat) (b0 : Nat) (w0 : T8) (a2 : Int32) {o : Int32 × T2} (hf : f_L_item w0 E.2.2.1.2.2 a2 = some o) : gM l yL_item cL_item 7 (some .boolean) rL_item E [.ref (h0 b0), .ref E.2.2.1.2.1, .int a2] [C8 E h0 b0, C2 E h0 (b0+1) w0.1, C6 E h0 (b0+3) w0.2.1, C5 E h0 (b0+9) w0.2.2.1.2.2, C6 E h0 ((b0+9)+1) w0.2.2.1.1, C7 E h0 ((b0+9)+7) w0.2.2.1.2.1, C3 E h0 (b0+18) w0.2.2.2.1, C0 E h0 (b0+20) w0.2.2.2.2] (some (.int o.1)) [C8 E h0 b0, C2 E h0 (b0+1) o.2, C6 E h0 (b0+3) w0.2.1, C5 E h0 (b0+9) w0.2.2.1.2.2, C6 E h0 ((b0+9)+1) w0.2.2.1.1, C7 E h0 ((b0+9)+7) w0.2.2.1.2.1, C3 E h0 (b0+18) w0.2.2.2.1, C0 E h0 (b0+20) w0.2.2.2.2] := by
  refine gM.of (by decide +kernel) (Nat.le_of_ble_eq_true rfl) rfl ?_
  intro p e s m below meth c F hr hlk hK hX hAB ls hl H locs hG
  have F : gF p m c cL_item 7 s ([.ref (h0 b0), .ref E.2.2.1.2.1, .int a2] : List Value).toArray RL := F
  generalize ([.ref (h0 b0), .ref E.2.2.1.2.1, .int a2] : List Value).toArray = args at F ⊢
  generalize hQ : MQ below _ _ _ _ _ _ = Q
  generalize hA : gAd [C8 E h0 b0, C2 E h0 (b0+1) w0.1, C6 E h0 (b0+3) w0.2.1, C5 E h0 (b0+9) w0.2.2.1.2.2, C6 E h0 ((b0+9)+1) w0.2.2.1.1, C7 E h0 ((b0+9)+7) w0.2.2.1.2.1, C3 E h0 (b0+18) w0.2.2.2.1, C0 E h0 (b0+20) w0.2.2.2.2] = A at hAB hG
  have hl : lv_has ls 7 [(0, .ref (h0 b0)), (1, .ref E.2.2.1.2.1), (2, .int a2)] := hl
  have hx := F.1
  have hb := F.2.1
  unfold f_L_item at hf
  refine lv_aload_n hx hb dL_item_0 rfl (lv_at hl 1 rfl) ?_
  refine lv_iconst (v := 1) hx hb dL_item_1 (by decide) ?_
  refine lv_iload_n hx hb dL_item_2 rfl (lv_at hl 2 rfl) ?_
  refine lv_iadd hx hb dL_item_3 ?_
  obtain ⟨x1, hx1, hf⟩ := g_bnd hf
  refine g_rs (As := [.ref E.2.2.1.2.1, .int (1 + a2)]) (rest := []) F hK (hG.X hX hAB) hG.1 [] rfl (c_L_cell  (1 + a2) hx1) (kL_21 F.2.2.2.2 ⟨Nat.le_of_ble_eq_true rfl, Nat.le_of_ble_eq_true rfl⟩) rfl hl.1 rfl (lv_room (Nat.le_of_ble_eq_true rfl)) ⟨Nat.zero_le _, Nat.zero_le _⟩ dL_item_4 ?_
  refine lv_istore_n (lv' := [(3, .int x1), (0, .ref (h0 b0)), (1, .ref E.2.2.1.2.1), (2, .int a2)]) hx hb dL_item_7 rfl hl (by decide) rfl (fun ls hl => ?_)
  refine lv_aload_n hx hb dL_item_8 rfl (lv_at hl 1 rfl) ?_
  refine lv_bipush (v := 97) hx hb dL_item_9 (by decide) ?_
  refine lv_iload_n hx hb dL_item_11 rfl (lv_at hl 3 rfl) ?_
  refine lv_iconst (v := 5) hx hb dL_item_12 (by decide) ?_
  refine lv_irem hx hb dL_item_13 (by decide) ?_
  refine lv_iadd hx hb dL_item_14 ?_
  obtain ⟨x2, hx2, hf⟩ := g_bnd hf
  refine g_mv (S' := [C8 E h0 b0, C2 E h0 (b0+1) x2.2, C6 E h0 (b0+3) w0.2.1, C5 E h0 (b0+9) w0.2.2.1.2.2, C6 E h0 ((b0+9)+1) w0.2.2.1.1, C7 E h0 ((b0+9)+7) w0.2.2.1.2.1, C3 E h0 (b0+18) w0.2.2.2.1, C0 E h0 (b0+20) w0.2.2.2.2]) (As := [.int (97 + (a2 - a2 / 5 * 5))]) (rest := []) F hK hX hAB hG [0, 1, 2, 3, 4, 5, 6, 7] rfl rfl (c_X8_append h0 b0 w0 (97 + (a2 - a2 / 5 * 5)) (jr_in hx2)) rfl (kL_25 F.2.2.2.2 ⟨Nat.le_of_ble_eq_true rfl, Nat.le_of_ble_eq_true rfl⟩) rfl rfl rfl rfl hl.1 rfl (lv_room (Nat.le_of_ble_eq_true rfl)) ⟨Nat.zero_le _, Nat.zero_le _⟩ dL_item_15 (fun H locs hG => ?_)
  obtain ⟨j3, hf, hfj3⟩ := g_bnd hf
  have hJj3 : ∀ (H : Heap) (locs : List Loc), gS E A s.heap [C8 E h0 b0, C2 E h0 (b0+1) j3.2, C6 E h0 (b0+3) w0.2.1, C5 E h0 (b0+9) w0.2.2.1.2.2, C6 E h0 ((b0+9)+1) w0.2.2.1.1, C7 E h0 ((b0+9)+7) w0.2.2.1.2.1, C3 E h0 (b0+18) w0.2.2.2.1, C0 E h0 (b0+20) w0.2.2.2.2] H locs → ∀ ls : Array Slot, lv_has ls 7 [(0, .ref (h0 b0)), (3, .int x1)] → W p l e rL_item s m args below meth c H locs 0 0 Q (F0 m 39 ls [.int j3.1]) := by
    intro H locs hG ls hl
    have hf := hfj3
    refine lv_istore (lv' := [(4, .int j3.1), (0, .ref (h0 b0)), (3, .int x1)]) hx hb dL_item_39 hl (by decide) rfl (fun ls hl => ?_)
    refine lv_iload_n hx hb dL_item_41 rfl (lv_at hl 2 rfl) ?_
    refine lv_iconst (v := 3) hx hb dL_item_42 (by decide) ?_
    obtain ⟨x7, hx7, hf⟩ := g_bnd hf
    refine g_rs (As := [.int x1, .int 3]) (rest := []) F hK (hG.X hX hAB) hG.1 [] rfl (c_L_up  x1 3 hx7) (kL_29 F.2.2.2.2 ⟨Nat.le_of_ble_eq_true rfl, Nat.le_of_ble_eq_true rfl⟩) rfl hl.1 rfl (lv_room (Nat.le_of_ble_eq_true rfl)) ⟨Nat.zero_le _, Nat.zero_le _⟩ dL_item_43 ?_
    refine lv_istore (lv' := [(5, .int x7), (4, .int j3.1), (0, .ref (h0 b0)), (3, .int x1)]) hx hb dL_item_46 hl (by decide) rfl (fun ls hl => ?_)
    refine lv_iconst (v := 0) hx hb dL_item_48 (by decide) ?_
    refine lv_istore (lv' := [(6, .int 0), (5, .int x7), (4, .int j3.1), (0, .ref (h0 b0)), (3, .int x1)]) hx hb dL_item_49 hl (by decide) rfl (fun ls hl => ?_)
    obtain ⟨x9, hx9, hfx9⟩ := g_bnd hf
    have hEx9 : ∀ (H : Heap) (locs : List Loc), gS E A s.heap [C8 E h0 b0, C2 E h0 (b0+1) x9.2, C6 E h0 (b0+3) w0.2.1, C5 E h0 (b0+9) w0.2.2.1.2.2, C6 E h0 ((b0+9)+1) w0.2.2.1.1, C7 E h0 ((b0+9)+7) w0.2.2.1.2.1, C3 E h0 (b0+18) w0.2.2.2.1, C0 E h0 (b0+20) w0.2.2.2.2] H locs → ∀ ls : Array Slot, lv_has ls 7 [(0, .ref (h0 b0)), (3, .int x1), (4, .int x9.1)] → W p l e rL_item s m args below meth c H locs 0 0 Q (F0 m 99 ls []) := by
      intro H locs hG ls hl
      have hf := hfx9
      refine lv_iload hx hb dL_item_99 (lv_at hl 2 rfl) ?_
      refine lv_if_eq (tgt := 144) hx hb dL_item_101 (by decide) (fun c16 => ?_) (fun c16 => ?_)
      · have hf := g_it c16 hf
        refine lv_iconst (v := 0) hx hb dL_item_144 (by decide) ?_
        have ho := Option.some.inj hf
        subst hA
        rw [← hQ, ← ho]
        exact g_mretZ F hr hlk hG narrow_b0 dL_item_145
      · have hf := g_if c16 hf
        refine lv_aload_n hx hb dL_item_104 rfl (lv_at hl 0 rfl) ?_
        refine lv_bipush (v := 44) hx hb dL_item_105 (by decide) ?_
        obtain ⟨x17, hx17, hf⟩ := g_bnd hf
        refine g_mv (S' := [C8 E h0 b0, C2 E h0 (b0+1) x17.2, C6 E h0 (b0+3) w0.2.1, C5 E h0 (b0+9) w0.2.2.1.2.2, C6 E h0 ((b0+9)+1) w0.2.2.1.1, C7 E h0 ((b0+9)+7) w0.2.2.1.2.1, C3 E h0 (b0+18) w0.2.2.2.1, C0 E h0 (b0+20) w0.2.2.2.2]) (As := [.int 44]) (rest := []) F hK hX hAB hG [0, 1, 2, 3, 4, 5, 6, 7] rfl rfl (c_X8_append h0 b0 (x9.2, w0.2.1, w0.2.2.1, w0.2.2.2.1, w0.2.2.2.2) 44 (jr_in hx17)) rfl (kL_25 F.2.2.2.2 ⟨Nat.le_of_ble_eq_true rfl, Nat.le_of_ble_eq_true rfl⟩) rfl rfl rfl rfl hl.1 rfl (lv_room (Nat.le_of_ble_eq_true rfl)) ⟨Nat.zero_le _, Nat.zero_le _⟩ dL_item_107 (fun H locs hG => ?_)
        refine lv_if_le (tgt := 144) hx hb dL_item_110 (by decide) (fun c18 => ?_) (fun c18 => ?_)
        · have hf := g_it c18 hf
          refine lv_iconst (v := 0) hx hb dL_item_144 (by decide) ?_
          have ho := Option.some.inj hf
          subst hA
          rw [← hQ, ← ho]
          exact g_mretZ F hr hlk hG narrow_b0 dL_item_145
        · have hf := g_if c18 hf
          refine lv_aload_n hx hb dL_item_113 rfl (lv_at hl 0 rfl) ?_
          refine lv_bipush (v := 48) hx hb dL_item_114 (by decide) ?_
          refine lv_iload_n hx hb dL_item_116 rfl (lv_at hl 1 rfl) ?_
          refine lv_bipush (v := 12) hx hb dL_item_117 (by decide) ?_
          refine lv_ishr hx hb dL_item_119 ?_
          refine lv_iconst (v := 4) hx hb dL_item_120 (by decide) ?_
          obtain ⟨x19, hx19, hf⟩ := g_bnd hf
          refine g_rs (As := [.int (x1 >>> ((12 : Int32) &&& 31)), .int 4]) (rest := [.int 48, .ref (h0 b0)]) F hK (hG.X hX hAB) hG.1 [] rfl (c_L_up  (x1 >>> ((12 : Int32) &&& 31)) 4 hx19) (kL_29 F.2.2.2.2 ⟨Nat.le_of_ble_eq_true rfl, Nat.le_of_ble_eq_true rfl⟩) rfl hl.1 rfl (lv_room (Nat.le_of_ble_eq_true rfl)) ⟨Nat.zero_le _, Nat.zero_le _⟩ dL_item_121 ?_
          refine lv_iadd hx hb dL_item_124 ?_
          obtain ⟨x20, hx20, hf⟩ := g_bnd hf
          refine g_mv (S' := [C8 E h0 b0, C2 E h0 (b0+1) x20.2, C6 E h0 (b0+3) w0.2.1, C5 E h0 (b0+9) w0.2.2.1.2.2, C6 E h0 ((b0+9)+1) w0.2.2.1.1, C7 E h0 ((b0+9)+7) w0.2.2.1.2.1, C3 E h0 (b0+18) w0.2.2.2.1, C0 E h0 (b0+20) w0.2.2.2.2]) (As := [.int (48 + x19)]) (rest := []) F hK hX hAB hG [0, 1, 2, 3, 4, 5, 6, 7] rfl rfl (c_X8_append h0 b0 (x17.2, w0.2.1, w0.2.2.1, w0.2.2.2.1, w0.2.2.2.2) (48 + x19) (jr_in hx20)) rfl (kL_25 F.2.2.2.2 ⟨Nat.le_of_ble_eq_true rfl, Nat.le_of_ble_eq_true rfl⟩) rfl rfl rfl rfl hl.1 rfl (lv_room (Nat.le_of_ble_eq_true rfl)) ⟨Nat.zero_le _, Nat.zero_le _⟩ dL_item_125 (fun H locs hG => ?_)
          refine lv_if_le (tgt := 144) hx hb dL_item_128 (by decide) (fun c21 => ?_) (fun c21 => ?_)
          · have hf := g_it c21 hf
            refine lv_iconst (v := 0) hx hb dL_item_144 (by decide) ?_
            have ho := Option.some.inj hf
            subst hA
            rw [← hQ, ← ho]
            exact g_mretZ F hr hlk hG narrow_b0 dL_item_145
          · have hf := g_if c21 hf
            refine lv_aload_n hx hb dL_item_131 rfl (lv_at hl 0 rfl) ?_
            refine lv_bipush (v := 59) hx hb dL_item_132 (by decide) ?_
            obtain ⟨x22, hx22, hf⟩ := g_bnd hf
            refine g_mv (S' := [C8 E h0 b0, C2 E h0 (b0+1) x22.2, C6 E h0 (b0+3) w0.2.1, C5 E h0 (b0+9) w0.2.2.1.2.2, C6 E h0 ((b0+9)+1) w0.2.2.1.1, C7 E h0 ((b0+9)+7) w0.2.2.1.2.1, C3 E h0 (b0+18) w0.2.2.2.1, C0 E h0 (b0+20) w0.2.2.2.2]) (As := [.int 59]) (rest := []) F hK hX hAB hG [0, 1, 2, 3, 4, 5, 6, 7] rfl rfl (c_X8_append h0 b0 (x20.2, w0.2.1, w0.2.2.1, w0.2.2.2.1, w0.2.2.2.2) 59 (jr_in hx22)) rfl (kL_25 F.2.2.2.2 ⟨Nat.le_of_ble_eq_true rfl, Nat.le_of_ble_eq_true rfl⟩) rfl rfl rfl rfl hl.1 rfl (lv_room (Nat.le_of_ble_eq_true rfl)) ⟨Nat.zero_le _, Nat.zero_le _⟩ dL_item_134 (fun H locs hG => ?_)
            refine lv_if_le (tgt := 144) hx hb dL_item_137 (by decide) (fun c23 => ?_) (fun c23 => ?_)
            · have hf := g_it c23 hf
              refine lv_iconst (v := 0) hx hb dL_item_144 (by decide) ?_
              have ho := Option.some.inj hf
              subst hA
              rw [← hQ, ← ho]
              exact g_mretZ F hr hlk hG narrow_b0 dL_item_145
            · have hf := g_if c23 hf
              refine lv_iconst (v := 1) hx hb dL_item_140 (by decide) ?_
              refine lv_goto (tgt := 145) hx hb dL_item_141 (by decide) ?_
              have ho := Option.some.inj hf
              subst hA
              rw [← hQ, ← ho]
              exact g_mretZ F hr hlk hG narrow_b1 dL_item_145
    refine lp_rule (fun (v8 : Int32 × Int32 × T2) => ∀ (H : Heap) (locs : List Loc), gS E A s.heap [C8 E h0 b0, C2 E h0 (b0+1) v8.2.2, C6 E h0 (b0+3) w0.2.1, C5 E h0 (b0+9) w0.2.2.1.2.2, C6 E h0 ((b0+9)+1) w0.2.2.1.1, C7 E h0 ((b0+9)+7) w0.2.2.1.2.1, C3 E h0 (b0+18) w0.2.2.2.1, C0 E h0 (b0+20) w0.2.2.2.2] H locs → ∀ ls : Array Slot, lv_has ls 7 [(0, .ref (h0 b0)), (3, .int x1), (4, .int v8.1), (5, .int x7), (6, .int v8.2.1)] → W p l e rL_item s m args below meth c H locs 0 0 Q (F0 m 51 ls [])) ?_ _ _ hx9 _ _ hG ls (lv_sub hl [3, 4, 2, 1, 0] rfl)
    intro v8 y hf hbackv8 hexitv8 H locs hG ls hl
    refine lv_iload hx hb dL_item_51 (lv_at hl 4 rfl) ?_
    refine lv_iload hx hb dL_item_53 (lv_at hl 3 rfl) ?_
    refine lv_icmp_ge (tgt := 99) hx hb dL_item_55 (by decide) (fun c10 => ?_) (fun c10 => ?_)
    · have hf := g_it c10 hf
      obtain rfl := hexitv8 _ (Option.some.inj hf).symm
      exact hEx9 _ _ hG ls (lv_sub hl [0, 1, 2] rfl)
    · have hf := g_if c10 hf
      refine lv_iload hx hb dL_item_58 (lv_at hl 2 rfl) ?_
      obtain ⟨j11, hf, hfj11⟩ := g_bnd hf
      have hJj11 : ∀ (H : Heap) (locs : List Loc), gS E A s.heap [C8 E h0 b0, C2 E h0 (b0+1) j11.2, C6 E h0 (b0+3) w0.2.1, C5 E h0 (b0+9) w0.2.2.1.2.2, C6 E h0 ((b0+9)+1) w0.2.2.1.1, C7 E h0 ((b0+9)+7) w0.2.2.1.2.1, C3 E h0 (b0+18) w0.2.2.2.1, C0 E h0 (b0+20) w0.2.2.2.2] H locs → ∀ ls : Array Slot, lv_has ls 7 [(0, .ref (h0 b0)), (3, .int x1), (5, .int x7), (6, .int v8.2.1)] → W p l e rL_item s m args below meth c H locs 0 0 Q (F0 m 91 ls [.int j11.1]) := by
        intro H locs hG ls hl
        have hf := hfj11
        refine lv_istore (lv' := [(4, .int j11.1), (0, .ref (h0 b0)), (3, .int x1), (5, .int x7), (6, .int v8.2.1)]) hx hb dL_item_91 hl (by decide) rfl (fun ls hl => ?_)
        refine lv_iinc (v := (v8.2.1 + 1)) (lv' := [(6, .int (v8.2.1 + 1)), (4, .int j11.1), (0, .ref (h0 b0)), (3, .int x1), (5, .int x7)]) hx hb dL_item_93 hl (k := 4) rfl rfl (by decide) rfl (fun ls hl => ?_)
        refine lv_goto (tgt := 51) hx hb dL_item_96 (by decide) ?_
        exact hbackv8 _ (Option.some.inj hf).symm _ _ hG ls (lv_sub hl [2, 3, 1, 4, 0] rfl)
      refine lv_if_eq (tgt := 90) hx hb dL_item_60 (by decide) (fun c12 => ?_) (fun c12 => ?_)
      · have hf := g_it c12 hf
        refine lv_iconst (v := 0) hx hb dL_item_90 (by decide) ?_
        obtain rfl := Option.some.inj hf
        exact hJj11 _ _ hG ls (lv_sub hl [0, 1, 3, 4] rfl)
      · have hf := g_if c12 hf
        refine lv_aload_n hx hb dL_item_63 rfl (lv_at hl 0 rfl) ?_
        refine lv_bipush (v := 97) hx hb dL_item_64 (by decide) ?_
        refine lv_iload_n hx hb dL_item_66 rfl (lv_at hl 1 rfl) ?_
        refine lv_iconst (v := 3) hx hb dL_item_67 (by decide) ?_
        refine lv_iconst (v := 4) hx hb dL_item_68 (by decide) ?_
        refine lv_iload hx hb dL_item_69 (lv_at hl 4 rfl) ?_
        refine lv_imul hx hb dL_item_71 ?_
        refine lv_iadd hx hb dL_item_72 ?_
        refine lv_ishr hx hb dL_item_73 ?_
        refine lv_bipush (v := 9) hx hb dL_item_74 (by decide) ?_
        obtain ⟨x13, hx13, hf⟩ := g_bnd hf
        refine g_rs (As := [.int (x1 >>> ((3 + (4 * v8.2.1)) &&& 31)), .int 9]) (rest := [.int 97, .ref (h0 b0)]) F hK (hG.X hX hAB) hG.1 [] rfl (c_L_up  (x1 >>> ((3 + (4 * v8.2.1)) &&& 31)) 9 hx13) (kL_29 F.2.2.2.2 ⟨Nat.le_of_ble_eq_true rfl, Nat.le_of_ble_eq_true rfl⟩) rfl hl.1 rfl (lv_room (Nat.le_of_ble_eq_true rfl)) ⟨Nat.zero_le _, Nat.zero_le _⟩ dL_item_76 ?_
        refine lv_iadd hx hb dL_item_79 ?_
        obtain ⟨x14, hx14, hf⟩ := g_bnd hf
        refine g_mv (S' := [C8 E h0 b0, C2 E h0 (b0+1) x14.2, C6 E h0 (b0+3) w0.2.1, C5 E h0 (b0+9) w0.2.2.1.2.2, C6 E h0 ((b0+9)+1) w0.2.2.1.1, C7 E h0 ((b0+9)+7) w0.2.2.1.2.1, C3 E h0 (b0+18) w0.2.2.2.1, C0 E h0 (b0+20) w0.2.2.2.2]) (As := [.int (97 + x13)]) (rest := []) F hK hX hAB hG [0, 1, 2, 3, 4, 5, 6, 7] rfl rfl (c_X8_append h0 b0 (v8.2.2, w0.2.1, w0.2.2.1, w0.2.2.2.1, w0.2.2.2.2) (97 + x13) (jr_in hx14)) rfl (kL_25 F.2.2.2.2 ⟨Nat.le_of_ble_eq_true rfl, Nat.le_of_ble_eq_true rfl⟩) rfl rfl rfl rfl hl.1 rfl (lv_room (Nat.le_of_ble_eq_true rfl)) ⟨Nat.zero_le _, Nat.zero_le _⟩ dL_item_80 (fun H locs hG => ?_)
        refine lv_if_le (tgt := 90) hx hb dL_item_83 (by decide) (fun c15 => ?_) (fun c15 => ?_)
        · have hf := g_it c15 hf
          refine lv_iconst (v := 0) hx hb dL_item_90 (by decide) ?_
          obtain rfl := Option.some.inj hf
          exact hJj11 _ _ hG ls (lv_sub hl [0, 1, 3, 4] rfl)
        · have hf := g_if c15 hf
          refine lv_iconst (v := 1) hx hb dL_item_86 (by decide) ?_
          refine lv_goto (tgt := 91) hx hb dL_item_87 (by decide) ?_
          obtain rfl := Option.some.inj hf
          exact hJj11 _ _ hG ls (lv_sub hl [0, 1, 3, 4] rfl)
  refine lv_if_le (tgt := 38) hx hb dL_item_18 (by decide) (fun c4 => ?_) (fun c4 => ?_)
  · have hf := g_it c4 hf
    refine lv_iconst (v := 0) hx hb dL_item_38 (by decide) ?_
    obtain rfl := Option.some.inj hf
    exact hJj3 _ _ hG ls (lv_sub hl [1, 0] rfl)
  · have hf := g_if c4 hf
    refine lv_aload_n hx hb dL_item_21 rfl (lv_at hl 1 rfl) ?_
    refine lv_bipush (v := 97) hx hb dL_item_22 (by decide) ?_
    refine lv_iload_n hx hb dL_item_24 rfl (lv_at hl 3 rfl) ?_
    refine lv_iconst (v := 5) hx hb dL_item_25 (by decide) ?_
    refine lv_idiv hx hb dL_item_26 (by decide) ?_
    refine lv_iadd hx hb dL_item_27 ?_
    obtain ⟨x5, hx5, hf⟩ := g_bnd hf
    refine g_mv (S' := [C8 E h0 b0, C2 E h0 (b0+1) x5.2, C6 E h0 (b0+3) w0.2.1, C5 E h0 (b0+9) w0.2.2.1.2.2, C6 E h0 ((b0+9)+1) w0.2.2.1.1, C7 E h0 ((b0+9)+7) w0.2.2.1.2.1, C3 E h0 (b0+18) w0.2.2.2.1, C0 E h0 (b0+20) w0.2.2.2.2]) (As := [.int (97 + (a2 / 5))]) (rest := []) F hK hX hAB hG [0, 1, 2, 3, 4, 5, 6, 7] rfl rfl (c_X8_append h0 b0 (x2.2, w0.2.1, w0.2.2.1, w0.2.2.2.1, w0.2.2.2.2) (97 + (a2 / 5)) (jr_in hx5)) rfl (kL_25 F.2.2.2.2 ⟨Nat.le_of_ble_eq_true rfl, Nat.le_of_ble_eq_true rfl⟩) rfl rfl rfl rfl hl.1 rfl (lv_room (Nat.le_of_ble_eq_true rfl)) ⟨Nat.zero_le _, Nat.zero_le _⟩ dL_item_28 (fun H locs hG => ?_)
    refine lv_if_le (tgt := 38) hx hb dL_item_31 (by decide) (fun c6 => ?_) (fun c6 => ?_)
    · have hf := g_it c6 hf
      refine lv_iconst (v := 0) hx hb dL_item_38 (by decide) ?_
      obtain rfl := Option.some.inj hf
      exact hJj3 _ _ hG ls (lv_sub hl [1, 0] rfl)
    · have hf := g_if c6 hf
      refine lv_iconst (v := 1) hx hb dL_item_34 (by decide) ?_
      refine lv_goto (tgt := 39) hx hb dL_item_35 (by decide) ?_
      obtain rfl := Option.some.inj hf
      exact hJj3 _ _ hG ls (lv_sub hl [1, 0] rfl)
set_option maxHeartbeats 4000000 in
set_option maxRecDepth 100000 in
theorem c_L_loads {l : Launch} {E : gEnv} (h0 : Nat → Nat) (h1 : Nat → Nat) (b0 : Nat) (w0 : T8) (b1 : Nat) (w1 : T8) (a3 : Int32) {o : Int32 × T2 × T6 × T5s × T6 × T3 × T2 × T6 × T5s × T6 × T3} (hf : f_L_loads w0 w1 E.2.2.1.2.2 a3 = some o) : gM l yL_loads cL_loads 6 (some .boolean) rL_loads E [.ref (h0 b0), .ref (h1 b1), .ref E.2.2.1.2.1, .int a3] [C8 E h0 b0, C2 E h0 (b0+1) w0.1, C6 E h0 (b0+3) w0.2.1, C5 E h0 (b0+9) w0.2.2.1.2.2, C6 E h0 ((b0+9)+1) w0.2.2.1.1, C7 E h0 ((b0+9)+7) w0.2.2.1.2.1, C3 E h0 (b0+18) w0.2.2.2.1, C0 E h0 (b0+20) w0.2.2.2.2, C8 E h1 b1, C2 E h1 (b1+1) w1.1, C6 E h1 (b1+3) w1.2.1, C5 E h1 (b1+9) w1.2.2.1.2.2, C6 E h1 ((b1+9)+1) w1.2.2.1.1, C7 E h1 ((b1+9)+7) w1.2.2.1.2.1, C3 E h1 (b1+18) w1.2.2.2.1, C0 E h1 (b1+20) w1.2.2.2.2] (some (.int o.1)) [C8 E h0 b0, C2 E h0 (b0+1) o.2.1, C6 E h0 (b0+3) o.2.2.1, C5 E h0 (b0+9) o.2.2.2.1, C6 E h0 ((b0+9)+1) o.2.2.2.2.1, C7 E h0 ((b0+9)+7) w0.2.2.1.2.1, C3 E h0 (b0+18) o.2.2.2.2.2.1, C0 E h0 (b0+20) w0.2.2.2.2, C8 E h1 b1, C2 E h1 (b1+1) o.2.2.2.2.2.2.1, C6 E h1 (b1+3) o.2.2.2.2.2.2.2.1, C5 E h1 (b1+9) o.2.2.2.2.2.2.2.2.1, C6 E h1 ((b1+9)+1) o.2.2.2.2.2.2.2.2.2.1, C7 E h1 ((b1+9)+7) w1.2.2.1.2.1, C3 E h1 (b1+18) o.2.2.2.2.2.2.2.2.2.2, C0 E h1 (b1+20) w1.2.2.2.2] := by
  refine gM.of (by decide +kernel) (Nat.le_of_ble_eq_true rfl) rfl ?_
  intro p e s m below meth c F hr hlk hK hX hAB ls hl H locs hG
  have F : gF p m c cL_loads 6 s ([.ref (h0 b0), .ref (h1 b1), .ref E.2.2.1.2.1, .int a3] : List Value).toArray RL := F
  generalize ([.ref (h0 b0), .ref (h1 b1), .ref E.2.2.1.2.1, .int a3] : List Value).toArray = args at F ⊢
  generalize hQ : MQ below _ _ _ _ _ _ = Q
  generalize hA : gAd [C8 E h0 b0, C2 E h0 (b0+1) w0.1, C6 E h0 (b0+3) w0.2.1, C5 E h0 (b0+9) w0.2.2.1.2.2, C6 E h0 ((b0+9)+1) w0.2.2.1.1, C7 E h0 ((b0+9)+7) w0.2.2.1.2.1, C3 E h0 (b0+18) w0.2.2.2.1, C0 E h0 (b0+20) w0.2.2.2.2, C8 E h1 b1, C2 E h1 (b1+1) w1.1, C6 E h1 (b1+3) w1.2.1, C5 E h1 (b1+9) w1.2.2.1.2.2, C6 E h1 ((b1+9)+1) w1.2.2.1.1, C7 E h1 ((b1+9)+7) w1.2.2.1.2.1, C3 E h1 (b1+18) w1.2.2.2.1, C0 E h1 (b1+20) w1.2.2.2.2] = A at hAB hG
  have hl : lv_has ls 6 [(0, .ref (h0 b0)), (1, .ref (h1 b1)), (2, .ref E.2.2.1.2.1), (3, .int a3)] := hl
  have hx := F.1
  have hb := F.2.1
  unfold f_L_loads at hf
  refine lv_iconst (v := 1) hx hb dL_loads_0 (by decide) ?_
  refine lv_istore (lv' := [(4, .int 1), (0, .ref (h0 b0)), (1, .ref (h1 b1)), (2, .ref E.2.2.1.2.1), (3, .int a3)]) hx hb dL_loads_1 hl (by decide) rfl (fun ls hl => ?_)
  refine lv_iconst (v := 0) hx hb dL_loads_3 (by decide) ?_
  refine lv_istore (lv' := [(5, .int 0), (4, .int 1), (0, .ref (h0 b0)), (1, .ref (h1 b1)), (2, .ref E.2.2.1.2.1), (3, .int a3)]) hx hb dL_loads_4 hl (by decide) rfl (fun ls hl => ?_)
  obtain ⟨x2, hx2, hfx2⟩ := g_bnd hf
  have hEx2 : ∀ (H : Heap) (locs : List Loc), gS E A s.heap [C8 E h0 b0, C2 E h0 (b0+1) x2.2.1, C6 E h0 (b0+3) w0.2.1, C5 E h0 (b0+9) w0.2.2.1.2.2, C6 E h0 ((b0+9)+1) w0.2.2.1.1, C7 E h0 ((b0+9)+7) w0.2.2.1.2.1, C3 E h0 (b0+18) w0.2.2.2.1, C0 E h0 (b0+20) w0.2.2.2.2, C8 E h1 b1, C2 E h1 (b1+1) x2.2.2, C6 E h1 (b1+3) w1.2.1, C5 E h1 (b1+9) w1.2.2.1.2.2, C6 E h1 ((b1+9)+1) w1.2.2.1.1, C7 E h1 ((b1+9)+7) w1.2.2.1.2.1, C3 E h1 (b1+18) w1.2.2.2.1, C0 E h1 (b1+20) w1.2.2.2.2] H locs → ∀ ls : Array Slot, lv_has ls 6 [(0, .ref (h0 b0)), (1, .ref (h1 b1)), (3, .int a3), (4, .int x2.1)] → W p l e rL_loads s m args below meth c H locs 0 0 Q (F0 m 54 ls []) := by
    intro H locs hG ls hl
    have hf := hfx2
    refine lv_iload hx hb dL_loads_54 (lv_at hl 3 rfl) ?_
    refine lv_if_eq (tgt := 79) hx hb dL_loads_56 (by decide) (fun c10 => ?_) (fun c10 => ?_)
    · have hf := g_it c10 hf
      refine lv_iconst (v := 0) hx hb dL_loads_79 (by decide) ?_
      have ho := Option.some.inj hf
      subst hA
      rw [← hQ, ← ho]
      exact g_mretZ F hr hlk hG narrow_b0 dL_loads_80
    · have hf := g_if c10 hf
      refine lv_aload_n hx hb dL_loads_59 rfl (lv_at hl 0 rfl) ?_
      obtain ⟨x11, hx11, hf⟩ := g_bnd hf
      refine g_mv (S' := [C8 E h0 b0, C2 E h0 (b0+1) x11.2.1, C6 E h0 (b0+3) x11.2.2.1, C5 E h0 (b0+9) x11.2.2.2.1, C6 E h0 ((b0+9)+1) x11.2.2.2.2.1, C7 E h0 ((b0+9)+7) w0.2.2.1.2.1, C3 E h0 (b0+18) x11.2.2.2.2.2, C0 E h0 (b0+20) w0.2.2.2.2, C8 E h1 b1, C2 E h1 (b1+1) x2.2.2, C6 E h1 (b1+3) w1.2.1, C5 E h1 (b1+9) w1.2.2.1.2.2, C6 E h1 ((b1+9)+1) w1.2.2.1.1, C7 E h1 ((b1+9)+7) w1.2.2.1.2.1, C3 E h1 (b1+18) w1.2.2.2.1, C0 E h1 (b1+20) w1.2.2.2.2]) (As := []) (rest := []) F hK hX hAB hG [0, 1, 2, 3, 4, 5, 6, 7] rfl rfl (c_X8_load h0 b0 (x2.2.1, w0.2.1, w0.2.2.1, w0.2.2.2.1, w0.2.2.2.2) hx11) rfl (kL_15 F.2.2.2.2 ⟨Nat.le_of_ble_eq_true rfl, Nat.le_of_ble_eq_true rfl⟩) rfl rfl rfl rfl hl.1 rfl (lv_room (Nat.le_of_ble_eq_true rfl)) ⟨Nat.zero_le _, Nat.zero_le _⟩ dL_loads_60 (fun H locs hG => ?_)
      refine lv_iload_n hx hb dL_loads_63 rfl (lv_at hl 2 rfl) ?_
      refine lv_icmp_ne (tgt := 79) hx hb dL_loads_64 (by decide) (fun c12 => ?_) (fun c12 => ?_)
      · have hf := g_if c12 hf
        refine lv_iconst (v := 0) hx hb dL_loads_79 (by decide) ?_
        have ho := Option.some.inj hf
        subst hA
        rw [← hQ, ← ho]
        exact g_mretZ F hr hlk hG narrow_b0 dL_loads_80
      · have hf := g_it c12 hf
        refine lv_aload_n hx hb dL_loads_67 rfl (lv_at hl 1 rfl) ?_
        obtain ⟨x13, hx13, hf⟩ := g_bnd hf
        refine g_mv (S' := [C8 E h0 b0, C2 E h0 (b0+1) x11.2.1, C6 E h0 (b0+3) x11.2.2.1, C5 E h0 (b0+9) x11.2.2.2.1, C6 E h0 ((b0+9)+1) x11.2.2.2.2.1, C7 E h0 ((b0+9)+7) w0.2.2.1.2.1, C3 E h0 (b0+18) x11.2.2.2.2.2, C0 E h0 (b0+20) w0.2.2.2.2, C8 E h1 b1, C2 E h1 (b1+1) x13.2.1, C6 E h1 (b1+3) x13.2.2.1, C5 E h1 (b1+9) x13.2.2.2.1, C6 E h1 ((b1+9)+1) x13.2.2.2.2.1, C7 E h1 ((b1+9)+7) w1.2.2.1.2.1, C3 E h1 (b1+18) x13.2.2.2.2.2, C0 E h1 (b1+20) w1.2.2.2.2]) (As := []) (rest := []) F hK hX hAB hG [8, 9, 10, 11, 12, 13, 14, 15] rfl rfl (c_X8_load h1 b1 (x2.2.2, w1.2.1, w1.2.2.1, w1.2.2.2.1, w1.2.2.2.2) hx13) rfl (kL_15 F.2.2.2.2 ⟨Nat.le_of_ble_eq_true rfl, Nat.le_of_ble_eq_true rfl⟩) rfl rfl rfl rfl hl.1 rfl (lv_room (Nat.le_of_ble_eq_true rfl)) ⟨Nat.zero_le _, Nat.zero_le _⟩ dL_loads_68 (fun H locs hG => ?_)
        refine lv_iload_n hx hb dL_loads_71 rfl (lv_at hl 2 rfl) ?_
        refine lv_icmp_ne (tgt := 79) hx hb dL_loads_72 (by decide) (fun c14 => ?_) (fun c14 => ?_)
        · have hf := g_if c14 hf
          refine lv_iconst (v := 0) hx hb dL_loads_79 (by decide) ?_
          have ho := Option.some.inj hf
          subst hA
          rw [← hQ, ← ho]
          exact g_mretZ F hr hlk hG narrow_b0 dL_loads_80
        · have hf := g_it c14 hf
          refine lv_iconst (v := 1) hx hb dL_loads_75 (by decide) ?_
          refine lv_goto (tgt := 80) hx hb dL_loads_76 (by decide) ?_
          have ho := Option.some.inj hf
          subst hA
          rw [← hQ, ← ho]
          exact g_mretZ F hr hlk hG narrow_b1 dL_loads_80
  refine lp_rule (fun (v1 : Int32 × Int32 × T2 × T2) => ∀ (H : Heap) (locs : List Loc), gS E A s.heap [C8 E h0 b0, C2 E h0 (b0+1) v1.2.2.1, C6 E h0 (b0+3) w0.2.1, C5 E h0 (b0+9) w0.2.2.1.2.2, C6 E h0 ((b0+9)+1) w0.2.2.1.1, C7 E h0 ((b0+9)+7) w0.2.2.1.2.1, C3 E h0 (b0+18) w0.2.2.2.1, C0 E h0 (b0+20) w0.2.2.2.2, C8 E h1 b1, C2 E h1 (b1+1) v1.2.2.2, C6 E h1 (b1+3) w1.2.1, C5 E h1 (b1+9) w1.2.2.1.2.2, C6 E h1 ((b1+9)+1) w1.2.2.1.1, C7 E h1 ((b1+9)+7) w1.2.2.1.2.1, C3 E h1 (b1+18) w1.2.2.2.1, C0 E h1 (b1+20) w1.2.2.2.2] H locs → ∀ ls : Array Slot, lv_has ls 6 [(0, .ref (h0 b0)), (1, .ref (h1 b1)), (2, .ref E.2.2.1.2.1), (3, .int a3), (4, .int v1.1), (5, .int v1.2.1)] → W p l e rL_loads s m args below meth c H locs 0 0 Q (F0 m 6 ls [])) ?_ _ _ hx2 _ _ hG ls (lv_sub hl [2, 3, 4, 5, 1, 0] rfl)
  intro v1 y hf hbackv1 hexitv1 H locs hG ls hl
  refine lv_iload hx hb dL_loads_6 (lv_at hl 5 rfl) ?_
  refine lv_iload_n hx hb dL_loads_8 rfl (lv_at hl 3 rfl) ?_
  refine lv_icmp_ge (tgt := 54) hx hb dL_loads_9 (by decide) (fun c3 => ?_) (fun c3 => ?_)
  · have hf := g_it c3 hf
    obtain rfl := hexitv1 _ (Option.some.inj hf).symm
    exact hEx2 _ _ hG ls (lv_sub hl [0, 1, 3, 4] rfl)
  · have hf := g_if c3 hf
    refine lv_iload hx hb dL_loads_12 (lv_at hl 4 rfl) ?_
    obtain ⟨j4, hf, hfj4⟩ := g_bnd hf
    have hJj4 : ∀ (H : Heap) (locs : List Loc), gS E A s.heap [C8 E h0 b0, C2 E h0 (b0+1) j4.2.1, C6 E h0 (b0+3) w0.2.1, C5 E h0 (b0+9) w0.2.2.1.2.2, C6 E h0 ((b0+9)+1) w0.2.2.1.1, C7 E h0 ((b0+9)+7) w0.2.2.1.2.1, C3 E h0 (b0+18) w0.2.2.2.1, C0 E h0 (b0+20) w0.2.2.2.2, C8 E h1 b1, C2 E h1 (b1+1) j4.2.2, C6 E h1 (b1+3) w1.2.1, C5 E h1 (b1+9) w1.2.2.1.2.2, C6 E h1 ((b1+9)+1) w1.2.2.1.1, C7 E h1 ((b1+9)+7) w1.2.2.1.2.1, C3 E h1 (b1+18) w1.2.2.2.1, C0 E h1 (b1+20) w1.2.2.2.2] H locs → ∀ ls : Array Slot, lv_has ls 6 [(0, .ref (h0 b0)), (1, .ref (h1 b1)), (2, .ref E.2.2.1.2.1), (3, .int a3), (5, .int v1.2.1)] → W p l e rL_loads s m args below meth c H locs 0 0 Q (F0 m 46 ls [.int j4.1]) := by
      intro H locs hG ls hl
      have hf := hfj4
      refine lv_istore (lv' := [(4, .int j4.1), (0, .ref (h0 b0)), (1, .ref (h1 b1)), (2, .ref E.2.2.1.2.1), (3, .int a3), (5, .int v1.2.1)]) hx hb dL_loads_46 hl (by decide) rfl (fun ls hl => ?_)
      refine lv_iinc (v := (v1.2.1 + 1)) (lv' := [(5, .int (v1.2.1 + 1)), (4, .int j4.1), (0, .ref (h0 b0)), (1, .ref (h1 b1)), (2, .ref E.2.2.1.2.1), (3, .int a3)]) hx hb dL_loads_48 hl (k := 5) rfl rfl (by decide) rfl (fun ls hl => ?_)
      refine lv_goto (tgt := 6) hx hb dL_loads_51 (by decide) ?_
      exact hbackv1 _ (Option.some.inj hf).symm _ _ hG ls (lv_sub hl [2, 3, 4, 5, 1, 0] rfl)
    refine lv_if_eq (tgt := 45) hx hb dL_loads_14 (by decide) (fun c5 => ?_) (fun c5 => ?_)
    · have hf := g_it c5 hf
      refine lv_iconst (v := 0) hx hb dL_loads_45 (by decide) ?_
      obtain rfl := Option.some.inj hf
      exact hJj4 _ _ hG ls (lv_sub hl [0, 1, 2, 3, 5] rfl)
    · have hf := g_if c5 hf
      refine lv_aload_n hx hb dL_loads_17 rfl (lv_at hl 0 rfl) ?_
      refine lv_aload_n hx hb dL_loads_18 rfl (lv_at hl 2 rfl) ?_
      refine lv_iload hx hb dL_loads_19 (lv_at hl 5 rfl) ?_
      obtain ⟨x6, hx6, hf⟩ := g_bnd hf
      refine g_ms (S' := [C8 E h0 b0, C2 E h0 (b0+1) x6.2, C6 E h0 (b0+3) w0.2.1, C5 E h0 (b0+9) w0.2.2.1.2.2, C6 E h0 ((b0+9)+1) w0.2.2.1.1, C7 E h0 ((b0+9)+7) w0.2.2.1.2.1, C3 E h0 (b0+18) w0.2.2.2.1, C0 E h0 (b0+20) w0.2.2.2.2, C8 E h1 b1, C2 E h1 (b1+1) v1.2.2.2, C6 E h1 (b1+3) w1.2.1, C5 E h1 (b1+9) w1.2.2.1.2.2, C6 E h1 ((b1+9)+1) w1.2.2.1.1, C7 E h1 ((b1+9)+7) w1.2.2.1.2.1, C3 E h1 (b1+18) w1.2.2.2.1, C0 E h1 (b1+20) w1.2.2.2.2]) (As := [.ref (h0 b0), .ref E.2.2.1.2.1, .int v1.2.1]) (rest := []) F hK hX hAB hG [0, 1, 2, 3, 4, 5, 6, 7] rfl rfl (c_L_item h0 b0 (v1.2.2.1, w0.2.1, w0.2.2.1, w0.2.2.2.1, w0.2.2.2.2) v1.2.1 hx6) rfl (kL_9 F.2.2.2.2 ⟨Nat.le_of_ble_eq_true rfl, Nat.le_of_ble_eq_true rfl⟩) rfl hl.1 rfl (lv_room (Nat.le_of_ble_eq_true rfl)) ⟨Nat.zero_le _, Nat.zero_le _⟩ dL_loads_21 (fun H locs hG => ?_)
      refine lv_if_eq (tgt := 45) hx hb dL_loads_24 (by decide) (fun c7 => ?_) (fun c7 => ?_)
      · have hf := g_it c7 hf
        refine lv_iconst (v := 0) hx hb dL_loads_45 (by decide) ?_
        obtain rfl := Option.some.inj hf
        exact hJj4 _ _ hG ls (lv_sub hl [0, 1, 2, 3, 5] rfl)
      · have hf := g_if c7 hf
        refine lv_aload_n hx hb dL_loads_27 rfl (lv_at hl 1 rfl) ?_
        refine lv_aload_n hx hb dL_loads_28 rfl (lv_at hl 2 rfl) ?_
        refine lv_iload_n hx hb dL_loads_29 rfl (lv_at hl 3 rfl) ?_
        refine lv_iconst (v := 1) hx hb dL_loads_30 (by decide) ?_
        refine lv_isub hx hb dL_loads_31 ?_
        refine lv_iload hx hb dL_loads_32 (lv_at hl 5 rfl) ?_
        refine lv_isub hx hb dL_loads_34 ?_
        obtain ⟨x8, hx8, hf⟩ := g_bnd hf
        refine g_ms (S' := [C8 E h0 b0, C2 E h0 (b0+1) x6.2, C6 E h0 (b0+3) w0.2.1, C5 E h0 (b0+9) w0.2.2.1.2.2, C6 E h0 ((b0+9)+1) w0.2.2.1.1, C7 E h0 ((b0+9)+7) w0.2.2.1.2.1, C3 E h0 (b0+18) w0.2.2.2.1, C0 E h0 (b0+20) w0.2.2.2.2, C8 E h1 b1, C2 E h1 (b1+1) x8.2, C6 E h1 (b1+3) w1.2.1, C5 E h1 (b1+9) w1.2.2.1.2.2, C6 E h1 ((b1+9)+1) w1.2.2.1.1, C7 E h1 ((b1+9)+7) w1.2.2.1.2.1, C3 E h1 (b1+18) w1.2.2.2.1, C0 E h1 (b1+20) w1.2.2.2.2]) (As := [.ref (h1 b1), .ref E.2.2.1.2.1, .int ((a3 - 1) - v1.2.1)]) (rest := []) F hK hX hAB hG [8, 9, 10, 11, 12, 13, 14, 15] rfl rfl (c_L_item h1 b1 (v1.2.2.2, w1.2.1, w1.2.2.1, w1.2.2.2.1, w1.2.2.2.2) ((a3 - 1) - v1.2.1) hx8) rfl (kL_9 F.2.2.2.2 ⟨Nat.le_of_ble_eq_true rfl, Nat.le_of_ble_eq_true rfl⟩) rfl hl.1 rfl (lv_room (Nat.le_of_ble_eq_true rfl)) ⟨Nat.zero_le _, Nat.zero_le _⟩ dL_loads_35 (fun H locs hG => ?_)
        refine lv_if_eq (tgt := 45) hx hb dL_loads_38 (by decide) (fun c9 => ?_) (fun c9 => ?_)
        · have hf := g_it c9 hf
          refine lv_iconst (v := 0) hx hb dL_loads_45 (by decide) ?_
          obtain rfl := Option.some.inj hf
          exact hJj4 _ _ hG ls (lv_sub hl [0, 1, 2, 3, 5] rfl)
        · have hf := g_if c9 hf
          refine lv_iconst (v := 1) hx hb dL_loads_41 (by decide) ?_
          refine lv_goto (tgt := 46) hx hb dL_loads_42 (by decide) ?_
          obtain rfl := Option.some.inj hf
          exact hJj4 _ _ hG ls (lv_sub hl [0, 1, 2, 3, 5] rfl)
set_option maxHeartbeats 4000000 in
set_option maxRecDepth 100000 in
theorem c_L_isStep {l : Launch} {E : gEnv} (h0 : Nat → Nat) (h1 : Nat → Nat) (b0 : Nat) (w0 : T8) (b1 : Nat) (w1 : T8) (a2 : Int32) {o : Int32 × T5s × T6 × T7 × T3 × T0 × T5s × T6 × T7 × T3 × T0} (hf : f_L_isStep w0 w1 a2 = some o) : gM l yL_isStep cL_isStep 5 (some .boolean) rL_isStep E [.ref (h0 b0), .ref (h1 b1), .int a2] [C8 E h0 b0, C2 E h0 (b0+1) w0.1, C6 E h0 (b0+3) w0.2.1, C5 E h0 (b0+9) w0.2.2.1.2.2, C6 E h0 ((b0+9)+1) w0.2.2.1.1, C7 E h0 ((b0+9)+7) w0.2.2.1.2.1, C3 E h0 (b0+18) w0.2.2.2.1, C0 E h0 (b0+20) w0.2.2.2.2, C8 E h1 b1, C2 E h1 (b1+1) w1.1, C6 E h1 (b1+3) w1.2.1, C5 E h1 (b1+9) w1.2.2.1.2.2, C6 E h1 ((b1+9)+1) w1.2.2.1.1, C7 E h1 ((b1+9)+7) w1.2.2.1.2.1, C3 E h1 (b1+18) w1.2.2.2.1, C0 E h1 (b1+20) w1.2.2.2.2] (some (.int o.1)) [C8 E h0 b0, C2 E h0 (b0+1) w0.1, C6 E h0 (b0+3) w0.2.1, C5 E h0 (b0+9) o.2.1, C6 E h0 ((b0+9)+1) o.2.2.1, C7 E h0 ((b0+9)+7) o.2.2.2.1, C3 E h0 (b0+18) o.2.2.2.2.1, C0 E h0 (b0+20) o.2.2.2.2.2.1, C8 E h1 b1, C2 E h1 (b1+1) w1.1, C6 E h1 (b1+3) w1.2.1, C5 E h1 (b1+9) o.2.2.2.2.2.2.1, C6 E h1 ((b1+9)+1) o.2.2.2.2.2.2.2.1, C7 E h1 ((b1+9)+7) o.2.2.2.2.2.2.2.2.1, C3 E h1 (b1+18) o.2.2.2.2.2.2.2.2.2.1, C0 E h1 (b1+20) o.2.2.2.2.2.2.2.2.2.2] := by
  refine gM.of (by decide +kernel) (Nat.le_of_ble_eq_true rfl) rfl ?_
  intro p e s m below meth c F hr hlk hK hX hAB ls hl H locs hG
  have F : gF p m c cL_isStep 5 s ([.ref (h0 b0), .ref (h1 b1), .int a2] : List Value).toArray RL := F
  generalize ([.ref (h0 b0), .ref (h1 b1), .int a2] : List Value).toArray = args at F ⊢
  generalize hQ : MQ below _ _ _ _ _ _ = Q
  generalize hA : gAd [C8 E h0 b0, C2 E h0 (b0+1) w0.1, C6 E h0 (b0+3) w0.2.1, C5 E h0 (b0+9) w0.2.2.1.2.2, C6 E h0 ((b0+9)+1) w0.2.2.1.1, C7 E h0 ((b0+9)+7) w0.2.2.1.2.1, C3 E h0 (b0+18) w0.2.2.2.1, C0 E h0 (b0+20) w0.2.2.2.2, C8 E h1 b1, C2 E h1 (b1+1) w1.1, C6 E h1 (b1+3) w1.2.1, C5 E h1 (b1+9) w1.2.2.1.2.2, C6 E h1 ((b1+9)+1) w1.2.2.1.1, C7 E h1 ((b1+9)+7) w1.2.2.1.2.1, C3 E h1 (b1+18) w1.2.2.2.1, C0 E h1 (b1+20) w1.2.2.2.2] = A at hAB hG
  have hl : lv_has ls 5 [(0, .ref (h0 b0)), (1, .ref (h1 b1)), (2, .int a2)] := hl
  have hx := F.1
  have hb := F.2.1
  unfold f_L_isStep at hf
  refine lv_iload_n hx hb dL_isStep_0 rfl (lv_at hl 2 rfl) ?_
  refine lv_bipush (v := 12) hx hb dL_isStep_1 (by decide) ?_
  obtain ⟨x1, hx1, hf⟩ := g_bnd hf
  refine g_rs (As := [.int a2, .int 12]) (rest := []) F hK (hG.X hX hAB) hG.1 [] rfl (c_L_up  a2 12 hx1) (kL_29 F.2.2.2.2 ⟨Nat.le_of_ble_eq_true rfl, Nat.le_of_ble_eq_true rfl⟩) rfl hl.1 rfl (lv_room (Nat.le_of_ble_eq_true rfl)) ⟨Nat.zero_le _, Nat.zero_le _⟩ dL_isStep_3 ?_
  by_cases c2 : x1 < 0 ∨ 8 < x1
  · have hf := g_it c2 hf
    refine g_tabOut (tgt := 361) c2 hx hb dL_isStep_6 (by decide) (by decide) (by decide) ?_
    refine lv_iconst (v := 2) hx hb dL_isStep_361 (by decide) ?_
    refine lv_iload_n hx hb dL_isStep_362 rfl (lv_at hl 2 rfl) ?_
    refine lv_iconst (v := 4) hx hb dL_isStep_363 (by decide) ?_
    refine lv_ishr hx hb dL_isStep_364 ?_
    refine lv_iconst (v := 4) hx hb dL_isStep_365 (by decide) ?_
    obtain ⟨x3, hx3, hf⟩ := g_bnd hf
    refine g_rs (As := [.int (a2 >>> ((4 : Int32) &&& 31)), .int 4]) (rest := [.int 2]) F hK (hG.X hX hAB) hG.1 [] rfl (c_L_up  (a2 >>> ((4 : Int32) &&& 31)) 4 hx3) (kL_29 F.2.2.2.2 ⟨Nat.le_of_ble_eq_true rfl, Nat.le_of_ble_eq_true rfl⟩) rfl hl.1 rfl (lv_room (Nat.le_of_ble_eq_true rfl)) ⟨Nat.zero_le _, Nat.zero_le _⟩ dL_isStep_366 ?_
    refine lv_iadd hx hb dL_isStep_369 ?_
    refine lv_istore_n (lv' := [(3, .int (2 + x3)), (0, .ref (h0 b0)), (1, .ref (h1 b1)), (2, .int a2)]) hx hb dL_isStep_370 rfl hl (by decide) rfl (fun ls hl => ?_)
    refine lv_aload_n hx hb dL_isStep_371 rfl (lv_at hl 1 rfl) ?_
    refine lv_bipush (v := 6) hx hb dL_isStep_372 (by decide) ?_
    obtain ⟨x4, hx4, hf⟩ := g_bnd hf
    refine g_mv (S' := [C8 E h0 b0, C2 E h0 (b0+1) w0.1, C6 E h0 (b0+3) w0.2.1, C5 E h0 (b0+9) w0.2.2.1.2.2, C6 E h0 ((b0+9)+1) w0.2.2.1.1, C7 E h0 ((b0+9)+7) w0.2.2.1.2.1, C3 E h0 (b0+18) w0.2.2.2.1, C0 E h0 (b0+20) x4.2, C8 E h1 b1, C2 E h1 (b1+1) w1.1, C6 E h1 (b1+3) w1.2.1, C5 E h1 (b1+9) w1.2.2.1.2.2, C6 E h1 ((b1+9)+1) w1.2.2.1.1, C7 E h1 ((b1+9)+7) w1.2.2.1.2.1, C3 E h1 (b1+18) w1.2.2.2.1, C0 E h1 (b1+20) w1.2.2.2.2]) (As := [.int 6]) (rest := []) F hK hX hAB hG [0, 1, 2, 3, 4, 5, 6, 7] rfl rfl (c_X8_setting h0 b0 w0 6 (jr_in hx4)) rfl (kL_33 F.2.2.2.2 ⟨Nat.le_of_ble_eq_true rfl, Nat.le_of_ble_eq_true rfl⟩) rfl rfl rfl rfl hl.1 rfl (lv_room (Nat.le_of_ble_eq_true rfl)) ⟨Nat.zero_le _, Nat.zero_le _⟩ dL_isStep_374 (fun H locs hG => ?_)
    refine lv_bipush (v := 10) hx hb dL_isStep_377 (by decide) ?_
    obtain ⟨j5, hf, hfj5⟩ := g_bnd hf
    have hJj5 : ∀ (H : Heap) (locs : List Loc), gS E A s.heap [C8 E h0 b0, C2 E h0 (b0+1) w0.1, C6 E h0 (b0+3) w0.2.1, C5 E h0 (b0+9) w0.2.2.1.2.2, C6 E h0 ((b0+9)+1) w0.2.2.1.1, C7 E h0 ((b0+9)+7) w0.2.2.1.2.1, C3 E h0 (b0+18) w0.2.2.2.1, C0 E h0 (b0+20) j5.2, C8 E h1 b1, C2 E h1 (b1+1) w1.1, C6 E h1 (b1+3) w1.2.1, C5 E h1 (b1+9) w1.2.2.1.2.2, C6 E h1 ((b1+9)+1) w1.2.2.1.1, C7 E h1 ((b1+9)+7) w1.2.2.1.2.1, C3 E h1 (b1+18) w1.2.2.2.1, C0 E h1 (b1+20) w1.2.2.2.2] H locs → ∀ ls : Array Slot, lv_has ls 5 [(0, .ref (h0 b0)), (1, .ref (h1 b1)), (3, .int (2 + x3))] → W p l e rL_isStep s m args below meth c H locs 0 0 Q (F0 m 396 ls [.int j5.1]) := by
      intro H locs hG ls hl
      have hf := hfj5
      refine lv_istore (lv' := [(4, .int j5.1), (0, .ref (h0 b0)), (1, .ref (h1 b1)), (3, .int (2 + x3))]) hx hb dL_isStep_396 hl (by decide) rfl (fun ls hl => ?_)
      refine lv_iload hx hb dL_isStep_398 (lv_at hl 0 rfl) ?_
      refine lv_if_eq (tgt := 416) hx hb dL_isStep_400 (by decide) (fun c9 => ?_) (fun c9 => ?_)
      · have hf := g_it c9 hf
        refine lv_iconst (v := 1) hx hb dL_isStep_416 (by decide) ?_
        refine lv_goto (tgt := 421) hx hb dL_isStep_417 (by decide) ?_
        have ho := Option.some.inj hf
        subst hA
        rw [← hQ, ← ho]
        exact g_mretZ F hr hlk hG narrow_b1 dL_isStep_421
      · have hf := g_if c9 hf
        refine lv_aload_n hx hb dL_isStep_403 rfl (lv_at hl 1 rfl) ?_
        refine lv_iload_n hx hb dL_isStep_404 rfl (lv_at hl 3 rfl) ?_
        obtain ⟨x10, hx10, hf⟩ := g_bnd hf
        refine g_mv (S' := [C8 E h0 b0, C2 E h0 (b0+1) w0.1, C6 E h0 (b0+3) w0.2.1, C5 E h0 (b0+9) x10.2.1, C6 E h0 ((b0+9)+1) w0.2.2.1.1, C7 E h0 ((b0+9)+7) w0.2.2.1.2.1, C3 E h0 (b0+18) x10.2.2, C0 E h0 (b0+20) j5.2, C8 E h1 b1, C2 E h1 (b1+1) w1.1, C6 E h1 (b1+3) w1.2.1, C5 E h1 (b1+9) w1.2.2.1.2.2, C6 E h1 ((b1+9)+1) w1.2.2.1.1, C7 E h1 ((b1+9)+7) w1.2.2.1.2.1, C3 E h1 (b1+18) w1.2.2.2.1, C0 E h1 (b1+20) w1.2.2.2.2]) (As := [.int (2 + x3)]) (rest := []) F hK hX hAB hG [0, 1, 2, 3, 4, 5, 6, 7] rfl rfl (c_X8_press h0 b0 (w0.1, w0.2.1, w0.2.2.1, w0.2.2.2.1, j5.2) (2 + x3) (jr_in hx10)) rfl (kL_59 F.2.2.2.2 ⟨Nat.le_of_ble_eq_true rfl, Nat.le_of_ble_eq_true rfl⟩) rfl rfl rfl rfl hl.1 rfl (lv_room (Nat.le_of_ble_eq_true rfl)) ⟨Nat.zero_le _, Nat.zero_le _⟩ dL_isStep_405 (fun H locs hG => ?_)
        refine lv_aload_n hx hb dL_isStep_408 rfl (lv_at hl 2 rfl) ?_
        refine lv_iload_n hx hb dL_isStep_409 rfl (lv_at hl 3 rfl) ?_
        obtain ⟨x11, hx11, hf⟩ := g_bnd hf
        refine g_mv (S' := [C8 E h0 b0, C2 E h0 (b0+1) w0.1, C6 E h0 (b0+3) w0.2.1, C5 E h0 (b0+9) x10.2.1, C6 E h0 ((b0+9)+1) w0.2.2.1.1, C7 E h0 ((b0+9)+7) w0.2.2.1.2.1, C3 E h0 (b0+18) x10.2.2, C0 E h0 (b0+20) j5.2, C8 E h1 b1, C2 E h1 (b1+1) w1.1, C6 E h1 (b1+3) w1.2.1, C5 E h1 (b1+9) x11.2.1, C6 E h1 ((b1+9)+1) w1.2.2.1.1, C7 E h1 ((b1+9)+7) w1.2.2.1.2.1, C3 E h1 (b1+18) x11.2.2, C0 E h1 (b1+20) w1.2.2.2.2]) (As := [.int (2 + x3)]) (rest := [.int x10.1]) F hK hX hAB hG [8, 9, 10, 11, 12, 13, 14, 15] rfl rfl (c_X8_press h1 b1 w1 (2 + x3) (jr_in hx11)) rfl (kL_59 F.2.2.2.2 ⟨Nat.le_of_ble_eq_true rfl, Nat.le_of_ble_eq_true rfl⟩) rfl rfl rfl rfl hl.1 rfl (lv_room (Nat.le_of_ble_eq_true rfl)) ⟨Nat.zero_le _, Nat.zero_le _⟩ dL_isStep_410 (fun H locs hG => ?_)
        refine lv_icmp_ne (tgt := 420) hx hb dL_isStep_413 (by decide) (fun c12 => ?_) (fun c12 => ?_)
        · have hf := g_if c12 hf
          refine lv_iconst (v := 0) hx hb dL_isStep_420 (by decide) ?_
          have ho := Option.some.inj hf
          subst hA
          rw [← hQ, ← ho]
          exact g_mretZ F hr hlk hG narrow_b0 dL_isStep_421
        · have hf := g_it c12 hf
          refine lv_iconst (v := 1) hx hb dL_isStep_416 (by decide) ?_
          refine lv_goto (tgt := 421) hx hb dL_isStep_417 (by decide) ?_
          have ho := Option.some.inj hf
          subst hA
          rw [← hQ, ← ho]
          exact g_mretZ F hr hlk hG narrow_b1 dL_isStep_421
    refine lv_icmp_lt (tgt := 391) hx hb dL_isStep_379 (by decide) (fun c6 => ?_) (fun c6 => ?_)
    · have hf := g_it c6 hf
      refine lv_iconst (v := 1) hx hb dL_isStep_391 (by decide) ?_
      refine lv_goto (tgt := 396) hx hb dL_isStep_392 (by decide) ?_
      obtain rfl := Option.some.inj hf
      exact hJj5 _ _ hG ls (lv_sub hl [1, 2, 0] rfl)
    · have hf := g_if c6 hf
      refine lv_aload_n hx hb dL_isStep_382 rfl (lv_at hl 1 rfl) ?_
      refine lv_iconst (v := 5) hx hb dL_isStep_383 (by decide) ?_
      obtain ⟨x7, hx7, hf⟩ := g_bnd hf
      refine g_mv (S' := [C8 E h0 b0, C2 E h0 (b0+1) w0.1, C6 E h0 (b0+3) w0.2.1, C5 E h0 (b0+9) w0.2.2.1.2.2, C6 E h0 ((b0+9)+1) w0.2.2.1.1, C7 E h0 ((b0+9)+7) w0.2.2.1.2.1, C3 E h0 (b0+18) w0.2.2.2.1, C0 E h0 (b0+20) x7.2, C8 E h1 b1, C2 E h1 (b1+1) w1.1, C6 E h1 (b1+3) w1.2.1, C5 E h1 (b1+9) w1.2.2.1.2.2, C6 E h1 ((b1+9)+1) w1.2.2.1.1, C7 E h1 ((b1+9)+7) w1.2.2.1.2.1, C3 E h1 (b1+18) w1.2.2.2.1, C0 E h1 (b1+20) w1.2.2.2.2]) (As := [.int 5]) (rest := []) F hK hX hAB hG [0, 1, 2, 3, 4, 5, 6, 7] rfl rfl (c_X8_setting h0 b0 (w0.1, w0.2.1, w0.2.2.1, w0.2.2.2.1, x4.2) 5 (jr_in hx7)) rfl (kL_33 F.2.2.2.2 ⟨Nat.le_of_ble_eq_true rfl, Nat.le_of_ble_eq_true rfl⟩) rfl rfl rfl rfl hl.1 rfl (lv_room (Nat.le_of_ble_eq_true rfl)) ⟨Nat.zero_le _, Nat.zero_le _⟩ dL_isStep_384 (fun H locs hG => ?_)
      refine lv_iload_n hx hb dL_isStep_387 rfl (lv_at hl 0 rfl) ?_
      refine lv_icmp_ne (tgt := 395) hx hb dL_isStep_388 (by decide) (fun c8 => ?_) (fun c8 => ?_)
      · have hf := g_if c8 hf
        refine lv_iconst (v := 0) hx hb dL_isStep_395 (by decide) ?_
        obtain rfl := Option.some.inj hf
        exact hJj5 _ _ hG ls (lv_sub hl [1, 2, 0] rfl)
      · have hf := g_it c8 hf
        refine lv_iconst (v := 1) hx hb dL_isStep_391 (by decide) ?_
        refine lv_goto (tgt := 396) hx hb dL_isStep_392 (by decide) ?_
        obtain rfl := Option.some.inj hf
        exact hJj5 _ _ hG ls (lv_sub hl [1, 2, 0] rfl)
  · have hf := g_if c2 hf
    by_cases c25 : x1 = 0
    · have hf := g_it c25 hf
      refine g_tabIn (tgt := 56) c25 hx hb dL_isStep_6 (by decide) (by decide) rfl (by decide) ?_
      refine lv_aload_n hx hb dL_isStep_56 rfl (lv_at hl 0 rfl) ?_
      refine lv_bipush (v := 6) hx hb dL_isStep_57 (by decide) ?_
      obtain ⟨x13, hx13, hf⟩ := g_bnd hf
      refine g_mv (S' := [C8 E h0 b0, C2 E h0 (b0+1) w0.1, C6 E h0 (b0+3) w0.2.1, C5 E h0 (b0+9) w0.2.2.1.2.2, C6 E h0 ((b0+9)+1) w0.2.2.1.1, C7 E h0 ((b0+9)+7) w0.2.2.1.2.1, C3 E h0 (b0+18) w0.2.2.2.1, C0 E h0 (b0+20) x13.2, C8 E h1 b1, C2 E h1 (b1+1) w1.1, C6 E h1 (b1+3) w1.2.1, C5 E h1 (b1+9) w1.2.2.1.2.2, C6 E h1 ((b1+9)+1) w1.2.2.1.1, C7 E h1 ((b1+9)+7) w1.2.2.1.2.1, C3 E h1 (b1+18) w1.2.2.2.1, C0 E h1 (b1+20) w1.2.2.2.2]) (As := [.int 6]) (rest := []) F hK hX hAB hG [0, 1, 2, 3, 4, 5, 6, 7] rfl rfl (c_X8_setting h0 b0 w0 6 (jr_in hx13)) rfl (kL_33 F.2.2.2.2 ⟨Nat.le_of_ble_eq_true rfl, Nat.le_of_ble_eq_true rfl⟩) rfl rfl rfl rfl hl.1 rfl (lv_room (Nat.le_of_ble_eq_true rfl)) ⟨Nat.zero_le _, Nat.zero_le _⟩ dL_isStep_59 (fun H locs hG => ?_)
      refine lv_if_eq (tgt := 96) hx hb dL_isStep_62 (by decide) (fun c14 => ?_) (fun c14 => ?_)
      · have hf := g_it c14 hf
        refine lv_iconst (v := 1) hx hb dL_isStep_96 (by decide) ?_
        refine lv_goto (tgt := 101) hx hb dL_isStep_97 (by decide) ?_
        have ho := Option.some.inj hf
        subst hA
        rw [← hQ, ← ho]
        exact g_mretZ F hr hlk hG narrow_b1 dL_isStep_101
      · have hf := g_if c14 hf
        refine lv_aload_n hx hb dL_isStep_65 rfl (lv_at hl 0 rfl) ?_
        refine lv_bipush (v := 10) hx hb dL_isStep_66 (by decide) ?_
        obtain ⟨x15, hx15, hf⟩ := g_bnd hf
        refine g_mv (S' := [C8 E h0 b0, C2 E h0 (b0+1) w0.1, C6 E h0 (b0+3) w0.2.1, C5 E h0 (b0+9) w0.2.2.1.2.2, C6 E h0 ((b0+9)+1) w0.2.2.1.1, C7 E h0 ((b0+9)+7) w0.2.2.1.2.1, C3 E h0 (b0+18) w0.2.2.2.1, C0 E h0 (b0+20) x15.2, C8 E h1 b1, C2 E h1 (b1+1) w1.1, C6 E h1 (b1+3) w1.2.1, C5 E h1 (b1+9) w1.2.2.1.2.2, C6 E h1 ((b1+9)+1) w1.2.2.1.1, C7 E h1 ((b1+9)+7) w1.2.2.1.2.1, C3 E h1 (b1+18) w1.2.2.2.1, C0 E h1 (b1+20) w1.2.2.2.2]) (As := [.int 10]) (rest := []) F hK hX hAB hG [0, 1, 2, 3, 4, 5, 6, 7] rfl rfl (c_X8_setting h0 b0 (w0.1, w0.2.1, w0.2.2.1, w0.2.2.2.1, x13.2) 10 (jr_in hx15)) rfl (kL_33 F.2.2.2.2 ⟨Nat.le_of_ble_eq_true rfl, Nat.le_of_ble_eq_true rfl⟩) rfl rfl rfl rfl hl.1 rfl (lv_room (Nat.le_of_ble_eq_true rfl)) ⟨Nat.zero_le _, Nat.zero_le _⟩ dL_isStep_68 (fun H locs hG => ?_)
        refine lv_if_ge (tgt := 85) hx hb dL_isStep_71 (by decide) (fun c16 => ?_) (fun c16 => ?_)
        · have hf := g_it c16 hf
          refine lv_aload_n hx hb dL_isStep_85 rfl (lv_at hl 0 rfl) ?_
          obtain ⟨x17, hx17, hf⟩ := g_bnd hf
          refine g_mv (S' := [C8 E h0 b0, C2 E h0 (b0+1) w0.1, C6 E h0 (b0+3) w0.2.1, C5 E h0 (b0+9) x17.2.1, C6 E h0 ((b0+9)+1) x17.2.2.1, C7 E h0 ((b0+9)+7) x17.2.2.2.1, C3 E h0 (b0+18) x17.2.2.2.2.1, C0 E h0 (b0+20) x17.2.2.2.2.2, C8 E h1 b1, C2 E h1 (b1+1) w1.1, C6 E h1 (b1+3) w1.2.1, C5 E h1 (b1+9) w1.2.2.1.2.2, C6 E h1 ((b1+9)+1) w1.2.2.1.1, C7 E h1 ((b1+9)+7) w1.2.2.1.2.1, C3 E h1 (b1+18) w1.2.2.2.1, C0 E h1 (b1+20) w1.2.2.2.2]) (As := []) (rest := []) F hK hX hAB hG [0, 1, 2, 3, 4, 5, 6, 7] rfl rfl (c_X8_accept h0 b0 (w0.1, w0.2.1, w0.2.2.1, w0.2.2.2.1, x15.2) (jr_in hx17)) rfl (kL_36 F.2.2.2.2 ⟨Nat.le_of_ble_eq_true rfl, Nat.le_of_ble_eq_true rfl⟩) rfl rfl rfl rfl hl.1 rfl (lv_room (Nat.le_of_ble_eq_true rfl)) ⟨Nat.zero_le _, Nat.zero_le _⟩ dL_isStep_86 (fun H locs hG => ?_)
          refine lv_aload_n hx hb dL_isStep_89 rfl (lv_at hl 1 rfl) ?_
          obtain ⟨x18, hx18, hf⟩ := g_bnd hf
          refine g_mv (S' := [C8 E h0 b0, C2 E h0 (b0+1) w0.1, C6 E h0 (b0+3) w0.2.1, C5 E h0 (b0+9) x17.2.1, C6 E h0 ((b0+9)+1) x17.2.2.1, C7 E h0 ((b0+9)+7) x17.2.2.2.1, C3 E h0 (b0+18) x17.2.2.2.2.1, C0 E h0 (b0+20) x17.2.2.2.2.2, C8 E h1 b1, C2 E h1 (b1+1) w1.1, C6 E h1 (b1+3) w1.2.1, C5 E h1 (b1+9) x18.2.1, C6 E h1 ((b1+9)+1) x18.2.2.1, C7 E h1 ((b1+9)+7) x18.2.2.2.1, C3 E h1 (b1+18) x18.2.2.2.2.1, C0 E h1 (b1+20) x18.2.2.2.2.2]) (As := []) (rest := [.int x17.1]) F hK hX hAB hG [8, 9, 10, 11, 12, 13, 14, 15] rfl rfl (c_X8_accept h1 b1 w1 (jr_in hx18)) rfl (kL_36 F.2.2.2.2 ⟨Nat.le_of_ble_eq_true rfl, Nat.le_of_ble_eq_true rfl⟩) rfl rfl rfl rfl hl.1 rfl (lv_room (Nat.le_of_ble_eq_true rfl)) ⟨Nat.zero_le _, Nat.zero_le _⟩ dL_isStep_90 (fun H locs hG => ?_)
          refine lv_icmp_ne (tgt := 100) hx hb dL_isStep_93 (by decide) (fun c19 => ?_) (fun c19 => ?_)
          · have hf := g_if c19 hf
            refine lv_iconst (v := 0) hx hb dL_isStep_100 (by decide) ?_
            have ho := Option.some.inj hf
            subst hA
            rw [← hQ, ← ho]
            exact g_mretZ F hr hlk hG narrow_b0 dL_isStep_101
          · have hf := g_it c19 hf
            refine lv_iconst (v := 1) hx hb dL_isStep_96 (by decide) ?_
            refine lv_goto (tgt := 101) hx hb dL_isStep_97 (by decide) ?_
            have ho := Option.some.inj hf
            subst hA
            rw [← hQ, ← ho]
            exact g_mretZ F hr hlk hG narrow_b1 dL_isStep_101
        · have hf := g_if c16 hf
          refine lv_aload_n hx hb dL_isStep_74 rfl (lv_at hl 0 rfl) ?_
          refine lv_bipush (v := 9) hx hb dL_isStep_75 (by decide) ?_
          obtain ⟨x20, hx20, hf⟩ := g_bnd hf
          refine g_mv (S' := [C8 E h0 b0, C2 E h0 (b0+1) w0.1, C6 E h0 (b0+3) w0.2.1, C5 E h0 (b0+9) w0.2.2.1.2.2, C6 E h0 ((b0+9)+1) w0.2.2.1.1, C7 E h0 ((b0+9)+7) w0.2.2.1.2.1, C3 E h0 (b0+18) w0.2.2.2.1, C0 E h0 (b0+20) x20.2, C8 E h1 b1, C2 E h1 (b1+1) w1.1, C6 E h1 (b1+3) w1.2.1, C5 E h1 (b1+9) w1.2.2.1.2.2, C6 E h1 ((b1+9)+1) w1.2.2.1.1, C7 E h1 ((b1+9)+7) w1.2.2.1.2.1, C3 E h1 (b1+18) w1.2.2.2.1, C0 E h1 (b1+20) w1.2.2.2.2]) (As := [.int 9]) (rest := []) F hK hX hAB hG [0, 1, 2, 3, 4, 5, 6, 7] rfl rfl (c_X8_setting h0 b0 (w0.1, w0.2.1, w0.2.2.1, w0.2.2.2.1, x15.2) 9 (jr_in hx20)) rfl (kL_33 F.2.2.2.2 ⟨Nat.le_of_ble_eq_true rfl, Nat.le_of_ble_eq_true rfl⟩) rfl rfl rfl rfl hl.1 rfl (lv_room (Nat.le_of_ble_eq_true rfl)) ⟨Nat.zero_le _, Nat.zero_le _⟩ dL_isStep_77 (fun H locs hG => ?_)
          refine lv_bipush (v := 30) hx hb dL_isStep_80 (by decide) ?_
          refine lv_icmp_eq (tgt := 96) hx hb dL_isStep_82 (by decide) (fun c21 => ?_) (fun c21 => ?_)
          · have hf := g_it c21 hf
            refine lv_iconst (v := 1) hx hb dL_isStep_96 (by decide) ?_
            refine lv_goto (tgt := 101) hx hb dL_isStep_97 (by decide) ?_
            have ho := Option.some.inj hf
            subst hA
            rw [← hQ, ← ho]
            exact g_mretZ F hr hlk hG narrow_b1 dL_isStep_101
          · have hf := g_if c21 hf
            refine lv_aload_n hx hb dL_isStep_85 rfl (lv_at hl 0 rfl) ?_
            obtain ⟨x22, hx22, hf⟩ := g_bnd hf
            refine g_mv (S' := [C8 E h0 b0, C2 E h0 (b0+1) w0.1, C6 E h0 (b0+3) w0.2.1, C5 E h0 (b0+9) x22.2.1, C6 E h0 ((b0+9)+1) x22.2.2.1, C7 E h0 ((b0+9)+7) x22.2.2.2.1, C3 E h0 (b0+18) x22.2.2.2.2.1, C0 E h0 (b0+20) x22.2.2.2.2.2, C8 E h1 b1, C2 E h1 (b1+1) w1.1, C6 E h1 (b1+3) w1.2.1, C5 E h1 (b1+9) w1.2.2.1.2.2, C6 E h1 ((b1+9)+1) w1.2.2.1.1, C7 E h1 ((b1+9)+7) w1.2.2.1.2.1, C3 E h1 (b1+18) w1.2.2.2.1, C0 E h1 (b1+20) w1.2.2.2.2]) (As := []) (rest := []) F hK hX hAB hG [0, 1, 2, 3, 4, 5, 6, 7] rfl rfl (c_X8_accept h0 b0 (w0.1, w0.2.1, w0.2.2.1, w0.2.2.2.1, x20.2) (jr_in hx22)) rfl (kL_36 F.2.2.2.2 ⟨Nat.le_of_ble_eq_true rfl, Nat.le_of_ble_eq_true rfl⟩) rfl rfl rfl rfl hl.1 rfl (lv_room (Nat.le_of_ble_eq_true rfl)) ⟨Nat.zero_le _, Nat.zero_le _⟩ dL_isStep_86 (fun H locs hG => ?_)
            refine lv_aload_n hx hb dL_isStep_89 rfl (lv_at hl 1 rfl) ?_
            obtain ⟨x23, hx23, hf⟩ := g_bnd hf
            refine g_mv (S' := [C8 E h0 b0, C2 E h0 (b0+1) w0.1, C6 E h0 (b0+3) w0.2.1, C5 E h0 (b0+9) x22.2.1, C6 E h0 ((b0+9)+1) x22.2.2.1, C7 E h0 ((b0+9)+7) x22.2.2.2.1, C3 E h0 (b0+18) x22.2.2.2.2.1, C0 E h0 (b0+20) x22.2.2.2.2.2, C8 E h1 b1, C2 E h1 (b1+1) w1.1, C6 E h1 (b1+3) w1.2.1, C5 E h1 (b1+9) x23.2.1, C6 E h1 ((b1+9)+1) x23.2.2.1, C7 E h1 ((b1+9)+7) x23.2.2.2.1, C3 E h1 (b1+18) x23.2.2.2.2.1, C0 E h1 (b1+20) x23.2.2.2.2.2]) (As := []) (rest := [.int x22.1]) F hK hX hAB hG [8, 9, 10, 11, 12, 13, 14, 15] rfl rfl (c_X8_accept h1 b1 w1 (jr_in hx23)) rfl (kL_36 F.2.2.2.2 ⟨Nat.le_of_ble_eq_true rfl, Nat.le_of_ble_eq_true rfl⟩) rfl rfl rfl rfl hl.1 rfl (lv_room (Nat.le_of_ble_eq_true rfl)) ⟨Nat.zero_le _, Nat.zero_le _⟩ dL_isStep_90 (fun H locs hG => ?_)
            refine lv_icmp_ne (tgt := 100) hx hb dL_isStep_93 (by decide) (fun c24 => ?_) (fun c24 => ?_)
            · have hf := g_if c24 hf
              refine lv_iconst (v := 0) hx hb dL_isStep_100 (by decide) ?_
              have ho := Option.some.inj hf
              subst hA
              rw [← hQ, ← ho]
              exact g_mretZ F hr hlk hG narrow_b0 dL_isStep_101
            · have hf := g_it c24 hf
              refine lv_iconst (v := 1) hx hb dL_isStep_96 (by decide) ?_
              refine lv_goto (tgt := 101) hx hb dL_isStep_97 (by decide) ?_
              have ho := Option.some.inj hf
              subst hA
              rw [← hQ, ← ho]
              exact g_mretZ F hr hlk hG narrow_b1 dL_isStep_101
    have hf := g_if c25 hf
    by_cases c38 : x1 = 1
    · have hf := g_it c38 hf
      refine g_tabIn (tgt := 56) c38 hx hb dL_isStep_6 (by decide) (by decide) rfl (by decide) ?_
      refine lv_aload_n hx hb dL_isStep_56 rfl (lv_at hl 0 rfl) ?_
      refine lv_bipush (v := 6) hx hb dL_isStep_57 (by decide) ?_
      obtain ⟨x26, hx26, hf⟩ := g_bnd hf
      refine g_mv (S' := [C8 E h0 b0, C2 E h0 (b0+1) w0.1, C6 E h0 (b0+3) w0.2.1, C5 E h0 (b0+9) w0.2.2.1.2.2, C6 E h0 ((b0+9)+1) w0.2.2.1.1, C7 E h0 ((b0+9)+7) w0.2.2.1.2.1, C3 E h0 (b0+18) w0.2.2.2.1, C0 E h0 (b0+20) x26.2, C8 E h1 b1, C2 E h1 (b1+1) w1.1, C6 E h1 (b1+3) w1.2.1, C5 E h1 (b1+9) w1.2.2.1.2.2, C6 E h1 ((b1+9)+1) w1.2.2.1.1, C7 E h1 ((b1+9)+7) w1.2.2.1.2.1, C3 E h1 (b1+18) w1.2.2.2.1, C0 E h1 (b1+20) w1.2.2.2.2]) (As := [.int 6]) (rest := []) F hK hX hAB hG [0, 1, 2, 3, 4, 5, 6, 7] rfl rfl (c_X8_setting h0 b0 w0 6 (jr_in hx26)) rfl (kL_33 F.2.2.2.2 ⟨Nat.le_of_ble_eq_true rfl, Nat.le_of_ble_eq_true rfl⟩) rfl rfl rfl rfl hl.1 rfl (lv_room (Nat.le_of_ble_eq_true rfl)) ⟨Nat.zero_le _, Nat.zero_le _⟩ dL_isStep_59 (fun H locs hG => ?_)
      refine lv_if_eq (tgt := 96) hx hb dL_isStep_62 (by decide) (fun c27 => ?_) (fun c27 => ?_)
      · have hf := g_it c27 hf
        refine lv_iconst (v := 1) hx hb dL_isStep_96 (by decide) ?_
        refine lv_goto (tgt := 101) hx hb dL_isStep_97 (by decide) ?_
        have ho := Option.some.inj hf
        subst hA
        rw [← hQ, ← ho]
        exact g_mretZ F hr hlk hG narrow_b1 dL_isStep_101
      · have hf := g_if c27 hf
        refine lv_aload_n hx hb dL_isStep_65 rfl (lv_at hl 0 rfl) ?_
        refine lv_bipush (v := 10) hx hb dL_isStep_66 (by decide) ?_
        obtain ⟨x28, hx28, hf⟩ := g_bnd hf
        refine g_mv (S' := [C8 E h0 b0, C2 E h0 (b0+1) w0.1, C6 E h0 (b0+3) w0.2.1, C5 E h0 (b0+9) w0.2.2.1.2.2, C6 E h0 ((b0+9)+1) w0.2.2.1.1, C7 E h0 ((b0+9)+7) w0.2.2.1.2.1, C3 E h0 (b0+18) w0.2.2.2.1, C0 E h0 (b0+20) x28.2, C8 E h1 b1, C2 E h1 (b1+1) w1.1, C6 E h1 (b1+3) w1.2.1, C5 E h1 (b1+9) w1.2.2.1.2.2, C6 E h1 ((b1+9)+1) w1.2.2.1.1, C7 E h1 ((b1+9)+7) w1.2.2.1.2.1, C3 E h1 (b1+18) w1.2.2.2.1, C0 E h1 (b1+20) w1.2.2.2.2]) (As := [.int 10]) (rest := []) F hK hX hAB hG [0, 1, 2, 3, 4, 5, 6, 7] rfl rfl (c_X8_setting h0 b0 (w0.1, w0.2.1, w0.2.2.1, w0.2.2.2.1, x26.2) 10 (jr_in hx28)) rfl (kL_33 F.2.2.2.2 ⟨Nat.le_of_ble_eq_true rfl, Nat.le_of_ble_eq_true rfl⟩) rfl rfl rfl rfl hl.1 rfl (lv_room (Nat.le_of_ble_eq_true rfl)) ⟨Nat.zero_le _, Nat.zero_le _⟩ dL_isStep_68 (fun H locs hG => ?_)
        refine lv_if_ge (tgt := 85) hx hb dL_isStep_71 (by decide) (fun c29 => ?_) (fun c29 => ?_)
        · have hf := g_it c29 hf
          refine lv_aload_n hx hb dL_isStep_85 rfl (lv_at hl 0 rfl) ?_
          obtain ⟨x30, hx30, hf⟩ := g_bnd hf
          refine g_mv (S' := [C8 E h0 b0, C2 E h0 (b0+1) w0.1, C6 E h0 (b0+3) w0.2.1, C5 E h0 (b0+9) x30.2.1, C6 E h0 ((b0+9)+1) x30.2.2.1, C7 E h0 ((b0+9)+7) x30.2.2.2.1, C3 E h0 (b0+18) x30.2.2.2.2.1, C0 E h0 (b0+20) x30.2.2.2.2.2, C8 E h1 b1, C2 E h1 (b1+1) w1.1, C6 E h1 (b1+3) w1.2.1, C5 E h1 (b1+9) w1.2.2.1.2.2, C6 E h1 ((b1+9)+1) w1.2.2.1.1, C7 E h1 ((b1+9)+7) w1.2.2.1.2.1, C3 E h1 (b1+18) w1.2.2.2.1, C0 E h1 (b1+20) w1.2.2.2.2]) (As := []) (rest := []) F hK hX hAB hG [0, 1, 2, 3, 4, 5, 6, 7] rfl rfl (c_X8_accept h0 b0 (w0.1, w0.2.1, w0.2.2.1, w0.2.2.2.1, x28.2) (jr_in hx30)) rfl (kL_36 F.2.2.2.2 ⟨Nat.le_of_ble_eq_true rfl, Nat.le_of_ble_eq_true rfl⟩) rfl rfl rfl rfl hl.1 rfl (lv_room (Nat.le_of_ble_eq_true rfl)) ⟨Nat.zero_le _, Nat.zero_le _⟩ dL_isStep_86 (fun H locs hG => ?_)
          refine lv_aload_n hx hb dL_isStep_89 rfl (lv_at hl 1 rfl) ?_
          obtain ⟨x31, hx31, hf⟩ := g_bnd hf
          refine g_mv (S' := [C8 E h0 b0, C2 E h0 (b0+1) w0.1, C6 E h0 (b0+3) w0.2.1, C5 E h0 (b0+9) x30.2.1, C6 E h0 ((b0+9)+1) x30.2.2.1, C7 E h0 ((b0+9)+7) x30.2.2.2.1, C3 E h0 (b0+18) x30.2.2.2.2.1, C0 E h0 (b0+20) x30.2.2.2.2.2, C8 E h1 b1, C2 E h1 (b1+1) w1.1, C6 E h1 (b1+3) w1.2.1, C5 E h1 (b1+9) x31.2.1, C6 E h1 ((b1+9)+1) x31.2.2.1, C7 E h1 ((b1+9)+7) x31.2.2.2.1, C3 E h1 (b1+18) x31.2.2.2.2.1, C0 E h1 (b1+20) x31.2.2.2.2.2]) (As := []) (rest := [.int x30.1]) F hK hX hAB hG [8, 9, 10, 11, 12, 13, 14, 15] rfl rfl (c_X8_accept h1 b1 w1 (jr_in hx31)) rfl (kL_36 F.2.2.2.2 ⟨Nat.le_of_ble_eq_true rfl, Nat.le_of_ble_eq_true rfl⟩) rfl rfl rfl rfl hl.1 rfl (lv_room (Nat.le_of_ble_eq_true rfl)) ⟨Nat.zero_le _, Nat.zero_le _⟩ dL_isStep_90 (fun H locs hG => ?_)
          refine lv_icmp_ne (tgt := 100) hx hb dL_isStep_93 (by decide) (fun c32 => ?_) (fun c32 => ?_)
          · have hf := g_if c32 hf
            refine lv_iconst (v := 0) hx hb dL_isStep_100 (by decide) ?_
            have ho := Option.some.inj hf
            subst hA
            rw [← hQ, ← ho]
            exact g_mretZ F hr hlk hG narrow_b0 dL_isStep_101
          · have hf := g_it c32 hf
            refine lv_iconst (v := 1) hx hb dL_isStep_96 (by decide) ?_
            refine lv_goto (tgt := 101) hx hb dL_isStep_97 (by decide) ?_
            have ho := Option.some.inj hf
            subst hA
            rw [← hQ, ← ho]
            exact g_mretZ F hr hlk hG narrow_b1 dL_isStep_101
        · have hf := g_if c29 hf
          refine lv_aload_n hx hb dL_isStep_74 rfl (lv_at hl 0 rfl) ?_
          refine lv_bipush (v := 9) hx hb dL_isStep_75 (by decide) ?_
          obtain ⟨x33, hx33, hf⟩ := g_bnd hf
          refine g_mv (S' := [C8 E h0 b0, C2 E h0 (b0+1) w0.1, C6 E h0 (b0+3) w0.2.1, C5 E h0 (b0+9) w0.2.2.1.2.2, C6 E h0 ((b0+9)+1) w0.2.2.1.1, C7 E h0 ((b0+9)+7) w0.2.2.1.2.1, C3 E h0 (b0+18) w0.2.2.2.1, C0 E h0 (b0+20) x33.2, C8 E h1 b1, C2 E h1 (b1+1) w1.1, C6 E h1 (b1+3) w1.2.1, C5 E h1 (b1+9) w1.2.2.1.2.2, C6 E h1 ((b1+9)+1) w1.2.2.1.1, C7 E h1 ((b1+9)+7) w1.2.2.1.2.1, C3 E h1 (b1+18) w1.2.2.2.1, C0 E h1 (b1+20) w1.2.2.2.2]) (As := [.int 9]) (rest := []) F hK hX hAB hG [0, 1, 2, 3, 4, 5, 6, 7] rfl rfl (c_X8_setting h0 b0 (w0.1, w0.2.1, w0.2.2.1, w0.2.2.2.1, x28.2) 9 (jr_in hx33)) rfl (kL_33 F.2.2.2.2 ⟨Nat.le_of_ble_eq_true rfl, Nat.le_of_ble_eq_true rfl⟩) rfl rfl rfl rfl hl.1 rfl (lv_room (Nat.le_of_ble_eq_true rfl)) ⟨Nat.zero_le _, Nat.zero_le _⟩ dL_isStep_77 (fun H locs hG => ?_)
          refine lv_bipush (v := 30) hx hb dL_isStep_80 (by decide) ?_
          refine lv_icmp_eq (tgt := 96) hx hb dL_isStep_82 (by decide) (fun c34 => ?_) (fun c34 => ?_)
          · have hf := g_it c34 hf
            refine lv_iconst (v := 1) hx hb dL_isStep_96 (by decide) ?_
            refine lv_goto (tgt := 101) hx hb dL_isStep_97 (by decide) ?_
            have ho := Option.some.inj hf
            subst hA
            rw [← hQ, ← ho]
            exact g_mretZ F hr hlk hG narrow_b1 dL_isStep_101
          · have hf := g_if c34 hf
            refine lv_aload_n hx hb dL_isStep_85 rfl (lv_at hl 0 rfl) ?_
            obtain ⟨x35, hx35, hf⟩ := g_bnd hf
            refine g_mv (S' := [C8 E h0 b0, C2 E h0 (b0+1) w0.1, C6 E h0 (b0+3) w0.2.1, C5 E h0 (b0+9) x35.2.1, C6 E h0 ((b0+9)+1) x35.2.2.1, C7 E h0 ((b0+9)+7) x35.2.2.2.1, C3 E h0 (b0+18) x35.2.2.2.2.1, C0 E h0 (b0+20) x35.2.2.2.2.2, C8 E h1 b1, C2 E h1 (b1+1) w1.1, C6 E h1 (b1+3) w1.2.1, C5 E h1 (b1+9) w1.2.2.1.2.2, C6 E h1 ((b1+9)+1) w1.2.2.1.1, C7 E h1 ((b1+9)+7) w1.2.2.1.2.1, C3 E h1 (b1+18) w1.2.2.2.1, C0 E h1 (b1+20) w1.2.2.2.2]) (As := []) (rest := []) F hK hX hAB hG [0, 1, 2, 3, 4, 5, 6, 7] rfl rfl (c_X8_accept h0 b0 (w0.1, w0.2.1, w0.2.2.1, w0.2.2.2.1, x33.2) (jr_in hx35)) rfl (kL_36 F.2.2.2.2 ⟨Nat.le_of_ble_eq_true rfl, Nat.le_of_ble_eq_true rfl⟩) rfl rfl rfl rfl hl.1 rfl (lv_room (Nat.le_of_ble_eq_true rfl)) ⟨Nat.zero_le _, Nat.zero_le _⟩ dL_isStep_86 (fun H locs hG => ?_)
            refine lv_aload_n hx hb dL_isStep_89 rfl (lv_at hl 1 rfl) ?_
            obtain ⟨x36, hx36, hf⟩ := g_bnd hf
            refine g_mv (S' := [C8 E h0 b0, C2 E h0 (b0+1) w0.1, C6 E h0 (b0+3) w0.2.1, C5 E h0 (b0+9) x35.2.1, C6 E h0 ((b0+9)+1) x35.2.2.1, C7 E h0 ((b0+9)+7) x35.2.2.2.1, C3 E h0 (b0+18) x35.2.2.2.2.1, C0 E h0 (b0+20) x35.2.2.2.2.2, C8 E h1 b1, C2 E h1 (b1+1) w1.1, C6 E h1 (b1+3) w1.2.1, C5 E h1 (b1+9) x36.2.1, C6 E h1 ((b1+9)+1) x36.2.2.1, C7 E h1 ((b1+9)+7) x36.2.2.2.1, C3 E h1 (b1+18) x36.2.2.2.2.1, C0 E h1 (b1+20) x36.2.2.2.2.2]) (As := []) (rest := [.int x35.1]) F hK hX hAB hG [8, 9, 10, 11, 12, 13, 14, 15] rfl rfl (c_X8_accept h1 b1 w1 (jr_in hx36)) rfl (kL_36 F.2.2.2.2 ⟨Nat.le_of_ble_eq_true rfl, Nat.le_of_ble_eq_true rfl⟩) rfl rfl rfl rfl hl.1 rfl (lv_room (Nat.le_of_ble_eq_true rfl)) ⟨Nat.zero_le _, Nat.zero_le _⟩ dL_isStep_90 (fun H locs hG => ?_)
            refine lv_icmp_ne (tgt := 100) hx hb dL_isStep_93 (by decide) (fun c37 => ?_) (fun c37 => ?_)
            · have hf := g_if c37 hf
              refine lv_iconst (v := 0) hx hb dL_isStep_100 (by decide) ?_
              have ho := Option.some.inj hf
              subst hA
              rw [← hQ, ← ho]
              exact g_mretZ F hr hlk hG narrow_b0 dL_isStep_101
            · have hf := g_it c37 hf
              refine lv_iconst (v := 1) hx hb dL_isStep_96 (by decide) ?_
              refine lv_goto (tgt := 101) hx hb dL_isStep_97 (by decide) ?_
              have ho := Option.some.inj hf
              subst hA
              rw [← hQ, ← ho]
              exact g_mretZ F hr hlk hG narrow_b1 dL_isStep_101
    have hf := g_if c38 hf
    by_cases c44 : x1 = 2
    · have hf := g_it c44 hf
      refine g_tabIn (tgt := 102) c44 hx hb dL_isStep_6 (by decide) (by decide) rfl (by decide) ?_
      refine lv_aload_n hx hb dL_isStep_102 rfl (lv_at hl 0 rfl) ?_
      refine lv_bipush (v := 6) hx hb dL_isStep_103 (by decide) ?_
      obtain ⟨x39, hx39, hf⟩ := g_bnd hf
      refine g_mv (S' := [C8 E h0 b0, C2 E h0 (b0+1) w0.1, C6 E h0 (b0+3) w0.2.1, C5 E h0 (b0+9) w0.2.2.1.2.2, C6 E h0 ((b0+9)+1) w0.2.2.1.1, C7 E h0 ((b0+9)+7) w0.2.2.1.2.1, C3 E h0 (b0+18) w0.2.2.2.1, C0 E h0 (b0+20) x39.2, C8 E h1 b1, C2 E h1 (b1+1) w1.1, C6 E h1 (b1+3) w1.2.1, C5 E h1 (b1+9) w1.2.2.1.2.2, C6 E h1 ((b1+9)+1) w1.2.2.1.1, C7 E h1 ((b1+9)+7) w1.2.2.1.2.1, C3 E h1 (b1+18) w1.2.2.2.1, C0 E h1 (b1+20) w1.2.2.2.2]) (As := [.int 6]) (rest := []) F hK hX hAB hG [0, 1, 2, 3, 4, 5, 6, 7] rfl rfl (c_X8_setting h0 b0 w0 6 (jr_in hx39)) rfl (kL_33 F.2.2.2.2 ⟨Nat.le_of_ble_eq_true rfl, Nat.le_of_ble_eq_true rfl⟩) rfl rfl rfl rfl hl.1 rfl (lv_room (Nat.le_of_ble_eq_true rfl)) ⟨Nat.zero_le _, Nat.zero_le _⟩ dL_isStep_105 (fun H locs hG => ?_)
      refine lv_if_eq (tgt := 122) hx hb dL_isStep_108 (by decide) (fun c40 => ?_) (fun c40 => ?_)
      · have hf := g_it c40 hf
        refine lv_iconst (v := 1) hx hb dL_isStep_122 (by decide) ?_
        refine lv_goto (tgt := 127) hx hb dL_isStep_123 (by decide) ?_
        have ho := Option.some.inj hf
        subst hA
        rw [← hQ, ← ho]
        exact g_mretZ F hr hlk hG narrow_b1 dL_isStep_127
      · have hf := g_if c40 hf
        refine lv_aload_n hx hb dL_isStep_111 rfl (lv_at hl 0 rfl) ?_
        obtain ⟨x41, hx41, hf⟩ := g_bnd hf
        refine g_mv (S' := [C8 E h0 b0, C2 E h0 (b0+1) w0.1, C6 E h0 (b0+3) w0.2.1, C5 E h0 (b0+9) x41.2.1, C6 E h0 ((b0+9)+1) w0.2.2.1.1, C7 E h0 ((b0+9)+7) x41.2.2.1, C3 E h0 (b0+18) x41.2.2.2, C0 E h0 (b0+20) x39.2, C8 E h1 b1, C2 E h1 (b1+1) w1.1, C6 E h1 (b1+3) w1.2.1, C5 E h1 (b1+9) w1.2.2.1.2.2, C6 E h1 ((b1+9)+1) w1.2.2.1.1, C7 E h1 ((b1+9)+7) w1.2.2.1.2.1, C3 E h1 (b1+18) w1.2.2.2.1, C0 E h1 (b1+20) w1.2.2.2.2]) (As := []) (rest := []) F hK hX hAB hG [0, 1, 2, 3, 4, 5, 6, 7] rfl rfl (c_X8_erase h0 b0 (w0.1, w0.2.1, w0.2.2.1, w0.2.2.2.1, x39.2) (jr_in hx41)) rfl (kL_39 F.2.2.2.2 ⟨Nat.le_of_ble_eq_true rfl, Nat.le_of_ble_eq_true rfl⟩) rfl rfl rfl rfl hl.1 rfl (lv_room (Nat.le_of_ble_eq_true rfl)) ⟨Nat.zero_le _, Nat.zero_le _⟩ dL_isStep_112 (fun H locs hG => ?_)
        refine lv_aload_n hx hb dL_isStep_115 rfl (lv_at hl 1 rfl) ?_
        obtain ⟨x42, hx42, hf⟩ := g_bnd hf
        refine g_mv (S' := [C8 E h0 b0, C2 E h0 (b0+1) w0.1, C6 E h0 (b0+3) w0.2.1, C5 E h0 (b0+9) x41.2.1, C6 E h0 ((b0+9)+1) w0.2.2.1.1, C7 E h0 ((b0+9)+7) x41.2.2.1, C3 E h0 (b0+18) x41.2.2.2, C0 E h0 (b0+20) x39.2, C8 E h1 b1, C2 E h1 (b1+1) w1.1, C6 E h1 (b1+3) w1.2.1, C5 E h1 (b1+9) x42.2.1, C6 E h1 ((b1+9)+1) w1.2.2.1.1, C7 E h1 ((b1+9)+7) x42.2.2.1, C3 E h1 (b1+18) x42.2.2.2, C0 E h1 (b1+20) w1.2.2.2.2]) (As := []) (rest := [.int x41.1]) F hK hX hAB hG [8, 9, 10, 11, 12, 13, 14, 15] rfl rfl (c_X8_erase h1 b1 w1 (jr_in hx42)) rfl (kL_39 F.2.2.2.2 ⟨Nat.le_of_ble_eq_true rfl, Nat.le_of_ble_eq_true rfl⟩) rfl rfl rfl rfl hl.1 rfl (lv_room (Nat.le_of_ble_eq_true rfl)) ⟨Nat.zero_le _, Nat.zero_le _⟩ dL_isStep_116 (fun H locs hG => ?_)
        refine lv_icmp_ne (tgt := 126) hx hb dL_isStep_119 (by decide) (fun c43 => ?_) (fun c43 => ?_)
        · have hf := g_if c43 hf
          refine lv_iconst (v := 0) hx hb dL_isStep_126 (by decide) ?_
          have ho := Option.some.inj hf
          subst hA
          rw [← hQ, ← ho]
          exact g_mretZ F hr hlk hG narrow_b0 dL_isStep_127
        · have hf := g_it c43 hf
          refine lv_iconst (v := 1) hx hb dL_isStep_122 (by decide) ?_
          refine lv_goto (tgt := 127) hx hb dL_isStep_123 (by decide) ?_
          have ho := Option.some.inj hf
          subst hA
          rw [← hQ, ← ho]
          exact g_mretZ F hr hlk hG narrow_b1 dL_isStep_127
    have hf := g_if c44 hf
    by_cases c60 : x1 = 3
    · have hf := g_it c60 hf
      refine g_tabIn (tgt := 128) c60 hx hb dL_isStep_6 (by decide) (by decide) rfl (by decide) ?_
      refine lv_aload_n hx hb dL_isStep_128 rfl (lv_at hl 0 rfl) ?_
      refine lv_bipush (v := 9) hx hb dL_isStep_129 (by decide) ?_
      obtain ⟨x45, hx45, hf⟩ := g_bnd hf
      refine g_mv (S' := [C8 E h0 b0, C2 E h0 (b0+1) w0.1, C6 E h0 (b0+3) w0.2.1, C5 E h0 (b0+9) w0.2.2.1.2.2, C6 E h0 ((b0+9)+1) w0.2.2.1.1, C7 E h0 ((b0+9)+7) w0.2.2.1.2.1, C3 E h0 (b0+18) w0.2.2.2.1, C0 E h0 (b0+20) x45.2, C8 E h1 b1, C2 E h1 (b1+1) w1.1, C6 E h1 (b1+3) w1.2.1, C5 E h1 (b1+9) w1.2.2.1.2.2, C6 E h1 ((b1+9)+1) w1.2.2.1.1, C7 E h1 ((b1+9)+7) w1.2.2.1.2.1, C3 E h1 (b1+18) w1.2.2.2.1, C0 E h1 (b1+20) w1.2.2.2.2]) (As := [.int 9]) (rest := []) F hK hX hAB hG [0, 1, 2, 3, 4, 5, 6, 7] rfl rfl (c_X8_setting h0 b0 w0 9 (jr_in hx45)) rfl (kL_33 F.2.2.2.2 ⟨Nat.le_of_ble_eq_true rfl, Nat.le_of_ble_eq_true rfl⟩) rfl rfl rfl rfl hl.1 rfl (lv_room (Nat.le_of_ble_eq_true rfl)) ⟨Nat.zero_le _, Nat.zero_le _⟩ dL_isStep_131 (fun H locs hG => ?_)
      obtain ⟨j46, hf, hfj46⟩ := g_bnd hf
      have hJj46 : ∀ (H : Heap) (locs : List Loc), gS E A s.heap [C8 E h0 b0, C2 E h0 (b0+1) w0.1, C6 E h0 (b0+3) w0.2.1, C5 E h0 (b0+9) w0.2.2.1.2.2, C6 E h0 ((b0+9)+1) w0.2.2.1.1, C7 E h0 ((b0+9)+7) w0.2.2.1.2.1, C3 E h0 (b0+18) w0.2.2.2.1, C0 E h0 (b0+20) j46.2, C8 E h1 b1, C2 E h1 (b1+1) w1.1, C6 E h1 (b1+3) w1.2.1, C5 E h1 (b1+9) w1.2.2.1.2.2, C6 E h1 ((b1+9)+1) w1.2.2.1.1, C7 E h1 ((b1+9)+7) w1.2.2.1.2.1, C3 E h1 (b1+18) w1.2.2.2.1, C0 E h1 (b1+20) w1.2.2.2.2] H locs → ∀ ls : Array Slot, lv_has ls 5 [(0, .ref (h0 b0)), (1, .ref (h1 b1)), (2, .int a2)] → W p l e rL_isStep s m args below meth c H locs 0 0 Q (F0 m 160 ls [.int j46.1]) := by
        intro H locs hG ls hl
        have hf := hfj46
        refine lv_istore_n (lv' := [(3, .int j46.1), (0, .ref (h0 b0)), (1, .ref (h1 b1)), (2, .int a2)]) hx hb dL_isStep_160 rfl hl (by decide) rfl (fun ls hl => ?_)
        refine lv_iload_n hx hb dL_isStep_161 rfl (lv_at hl 0 rfl) ?_
        obtain ⟨j52, hf, hfj52⟩ := g_bnd hf
        have hJj52 : ∀ (H : Heap) (locs : List Loc), gS E A s.heap [C8 E h0 b0, C2 E h0 (b0+1) w0.1, C6 E h0 (b0+3) w0.2.1, C5 E h0 (b0+9) w0.2.2.1.2.2, C6 E h0 ((b0+9)+1) w0.2.2.1.1, C7 E h0 ((b0+9)+7) w0.2.2.1.2.1, C3 E h0 (b0+18) w0.2.2.2.1, C0 E h0 (b0+20) j52.2, C8 E h1 b1, C2 E h1 (b1+1) w1.1, C6 E h1 (b1+3) w1.2.1, C5 E h1 (b1+9) w1.2.2.1.2.2, C6 E h1 ((b1+9)+1) w1.2.2.1.1, C7 E h1 ((b1+9)+7) w1.2.2.1.2.1, C3 E h1 (b1+18) w1.2.2.2.1, C0 E h1 (b1+20) w1.2.2.2.2] H locs → ∀ ls : Array Slot, lv_has ls 5 [(0, .ref (h0 b0)), (1, .ref (h1 b1)), (3, .int j46.1)] → W p l e rL_isStep s m args below meth c H locs 0 0 Q (F0 m 181 ls [.int j52.1]) := by
          intro H locs hG ls hl
          have hf := hfj52
          refine lv_istore (lv' := [(4, .int j52.1), (0, .ref (h0 b0)), (1, .ref (h1 b1)), (3, .int j46.1)]) hx hb dL_isStep_181 hl (by decide) rfl (fun ls hl => ?_)
          refine lv_iload_n hx hb dL_isStep_183 rfl (lv_at hl 3 rfl) ?_
          refine lv_if_eq (tgt := 202) hx hb dL_isStep_184 (by decide) (fun c56 => ?_) (fun c56 => ?_)
          · have hf := g_it c56 hf
            refine lv_iconst (v := 1) hx hb dL_isStep_202 (by decide) ?_
            refine lv_goto (tgt := 207) hx hb dL_isStep_203 (by decide) ?_
            have ho := Option.some.inj hf
            subst hA
            rw [← hQ, ← ho]
            exact g_mretZ F hr hlk hG narrow_b1 dL_isStep_207
          · have hf := g_if c56 hf
            refine lv_aload_n hx hb dL_isStep_187 rfl (lv_at hl 1 rfl) ?_
            refine lv_iload hx hb dL_isStep_188 (lv_at hl 0 rfl) ?_
            obtain ⟨x57, hx57, hf⟩ := g_bnd hf
            refine g_mv (S' := [C8 E h0 b0, C2 E h0 (b0+1) w0.1, C6 E h0 (b0+3) w0.2.1, C5 E h0 (b0+9) x57.2.1, C6 E h0 ((b0+9)+1) w0.2.2.1.1, C7 E h0 ((b0+9)+7) w0.2.2.1.2.1, C3 E h0 (b0+18) x57.2.2, C0 E h0 (b0+20) j52.2, C8 E h1 b1, C2 E h1 (b1+1) w1.1, C6 E h1 (b1+3) w1.2.1, C5 E h1 (b1+9) w1.2.2.1.2.2, C6 E h1 ((b1+9)+1) w1.2.2.1.1, C7 E h1 ((b1+9)+7) w1.2.2.1.2.1, C3 E h1 (b1+18) w1.2.2.2.1, C0 E h1 (b1+20) w1.2.2.2.2]) (As := [.int j52.1]) (rest := []) F hK hX hAB hG [0, 1, 2, 3, 4, 5, 6, 7] rfl rfl (c_X8_open h0 b0 (w0.1, w0.2.1, w0.2.2.1, w0.2.2.2.1, j52.2) j52.1 (jr_in hx57)) rfl (kL_42 F.2.2.2.2 ⟨Nat.le_of_ble_eq_true rfl, Nat.le_of_ble_eq_true rfl⟩) rfl rfl rfl rfl hl.1 rfl (lv_room (Nat.le_of_ble_eq_true rfl)) ⟨Nat.zero_le _, Nat.zero_le _⟩ dL_isStep_190 (fun H locs hG => ?_)
            refine lv_aload_n hx hb dL_isStep_193 rfl (lv_at hl 2 rfl) ?_
            refine lv_iload hx hb dL_isStep_194 (lv_at hl 0 rfl) ?_
            obtain ⟨x58, hx58, hf⟩ := g_bnd hf
            refine g_mv (S' := [C8 E h0 b0, C2 E h0 (b0+1) w0.1, C6 E h0 (b0+3) w0.2.1, C5 E h0 (b0+9) x57.2.1, C6 E h0 ((b0+9)+1) w0.2.2.1.1, C7 E h0 ((b0+9)+7) w0.2.2.1.2.1, C3 E h0 (b0+18) x57.2.2, C0 E h0 (b0+20) j52.2, C8 E h1 b1, C2 E h1 (b1+1) w1.1, C6 E h1 (b1+3) w1.2.1, C5 E h1 (b1+9) x58.2.1, C6 E h1 ((b1+9)+1) w1.2.2.1.1, C7 E h1 ((b1+9)+7) w1.2.2.1.2.1, C3 E h1 (b1+18) x58.2.2, C0 E h1 (b1+20) w1.2.2.2.2]) (As := [.int j52.1]) (rest := [.int x57.1]) F hK hX hAB hG [8, 9, 10, 11, 12, 13, 14, 15] rfl rfl (c_X8_open h1 b1 w1 j52.1 (jr_in hx58)) rfl (kL_42 F.2.2.2.2 ⟨Nat.le_of_ble_eq_true rfl, Nat.le_of_ble_eq_true rfl⟩) rfl rfl rfl rfl hl.1 rfl (lv_room (Nat.le_of_ble_eq_true rfl)) ⟨Nat.zero_le _, Nat.zero_le _⟩ dL_isStep_196 (fun H locs hG => ?_)
            refine lv_icmp_ne (tgt := 206) hx hb dL_isStep_199 (by decide) (fun c59 => ?_) (fun c59 => ?_)
            · have hf := g_if c59 hf
              refine lv_iconst (v := 0) hx hb dL_isStep_206 (by decide) ?_
              have ho := Option.some.inj hf
              subst hA
              rw [← hQ, ← ho]
              exact g_mretZ F hr hlk hG narrow_b0 dL_isStep_207
            · have hf := g_it c59 hf
              refine lv_iconst (v := 1) hx hb dL_isStep_202 (by decide) ?_
              refine lv_goto (tgt := 207) hx hb dL_isStep_203 (by decide) ?_
              have ho := Option.some.inj hf
              subst hA
              rw [← hQ, ← ho]
              exact g_mretZ F hr hlk hG narrow_b1 dL_isStep_207
        refine lv_if_eq (tgt := 180) hx hb dL_isStep_162 (by decide) (fun c53 => ?_) (fun c53 => ?_)
        · have hf := g_it c53 hf
          refine lv_iconst (v := 0) hx hb dL_isStep_180 (by decide) ?_
          obtain rfl := Option.some.inj hf
          exact hJj52 _ _ hG ls (lv_sub hl [1, 2, 0] rfl)
        · have hf := g_if c53 hf
          refine lv_iload_n hx hb dL_isStep_165 rfl (lv_at hl 3 rfl) ?_
          refine lv_iconst (v := 4) hx hb dL_isStep_166 (by decide) ?_
          refine lv_ishr hx hb dL_isStep_167 ?_
          refine lv_aload_n hx hb dL_isStep_168 rfl (lv_at hl 1 rfl) ?_
          refine lv_bipush (v := 9) hx hb dL_isStep_169 (by decide) ?_
          obtain ⟨x54, hx54, hf⟩ := g_bnd hf
          refine g_mv (S' := [C8 E h0 b0, C2 E h0 (b0+1) w0.1, C6 E h0 (b0+3) w0.2.1, C5 E h0 (b0+9) w0.2.2.1.2.2, C6 E h0 ((b0+9)+1) w0.2.2.1.1, C7 E h0 ((b0+9)+7) w0.2.2.1.2.1, C3 E h0 (b0+18) w0.2.2.2.1, C0 E h0 (b0+20) x54.2, C8 E h1 b1, C2 E h1 (b1+1) w1.1, C6 E h1 (b1+3) w1.2.1, C5 E h1 (b1+9) w1.2.2.1.2.2, C6 E h1 ((b1+9)+1) w1.2.2.1.1, C7 E h1 ((b1+9)+7) w1.2.2.1.2.1, C3 E h1 (b1+18) w1.2.2.2.1, C0 E h1 (b1+20) w1.2.2.2.2]) (As := [.int 9]) (rest := [.int (a2 >>> ((4 : Int32) &&& 31))]) F hK hX hAB hG [0, 1, 2, 3, 4, 5, 6, 7] rfl rfl (c_X8_setting h0 b0 (w0.1, w0.2.1, w0.2.2.1, w0.2.2.2.1, j46.2) 9 (jr_in hx54)) rfl (kL_33 F.2.2.2.2 ⟨Nat.le_of_ble_eq_true rfl, Nat.le_of_ble_eq_true rfl⟩) rfl rfl rfl rfl hl.1 rfl (lv_room (Nat.le_of_ble_eq_true rfl)) ⟨Nat.zero_le _, Nat.zero_le _⟩ dL_isStep_171 (fun H locs hG => ?_)
          obtain ⟨x55, hx55, hf⟩ := g_bnd hf
          refine g_rs (As := [.int (a2 >>> ((4 : Int32) &&& 31)), .int x54.1]) (rest := []) F hK (hG.X hX hAB) hG.1 [] rfl (c_L_up  (a2 >>> ((4 : Int32) &&& 31)) x54.1 hx55) (kL_29 F.2.2.2.2 ⟨Nat.le_of_ble_eq_true rfl, Nat.le_of_ble_eq_true rfl⟩) rfl hl.1 rfl (lv_room (Nat.le_of_ble_eq_true rfl)) ⟨Nat.zero_le _, Nat.zero_le _⟩ dL_isStep_174 ?_
          refine lv_goto (tgt := 181) hx hb dL_isStep_177 (by decide) ?_
          obtain rfl := Option.some.inj hf
          exact hJj52 _ _ hG ls (lv_sub hl [1, 2, 0] rfl)
      refine lv_if_le (tgt := 159) hx hb dL_isStep_134 (by decide) (fun c47 => ?_) (fun c47 => ?_)
      · have hf := g_it c47 hf
        refine lv_iconst (v := 0) hx hb dL_isStep_159 (by decide) ?_
        obtain rfl := Option.some.inj hf
        exact hJj46 _ _ hG ls (lv_sub hl [0, 1, 2] rfl)
      · have hf := g_if c47 hf
        refine lv_aload_n hx hb dL_isStep_137 rfl (lv_at hl 0 rfl) ?_
        refine lv_bipush (v := 6) hx hb dL_isStep_138 (by decide) ?_
        obtain ⟨x48, hx48, hf⟩ := g_bnd hf
        refine g_mv (S' := [C8 E h0 b0, C2 E h0 (b0+1) w0.1, C6 E h0 (b0+3) w0.2.1, C5 E h0 (b0+9) w0.2.2.1.2.2, C6 E h0 ((b0+9)+1) w0.2.2.1.1, C7 E h0 ((b0+9)+7) w0.2.2.1.2.1, C3 E h0 (b0+18) w0.2.2.2.1, C0 E h0 (b0+20) x48.2, C8 E h1 b1, C2 E h1 (b1+1) w1.1, C6 E h1 (b1+3) w1.2.1, C5 E h1 (b1+9) w1.2.2.1.2.2, C6 E h1 ((b1+9)+1) w1.2.2.1.1, C7 E h1 ((b1+9)+7) w1.2.2.1.2.1, C3 E h1 (b1+18) w1.2.2.2.1, C0 E h1 (b1+20) w1.2.2.2.2]) (As := [.int 6]) (rest := []) F hK hX hAB hG [0, 1, 2, 3, 4, 5, 6, 7] rfl rfl (c_X8_setting h0 b0 (w0.1, w0.2.1, w0.2.2.1, w0.2.2.2.1, x45.2) 6 (jr_in hx48)) rfl (kL_33 F.2.2.2.2 ⟨Nat.le_of_ble_eq_true rfl, Nat.le_of_ble_eq_true rfl⟩) rfl rfl rfl rfl hl.1 rfl (lv_room (Nat.le_of_ble_eq_true rfl)) ⟨Nat.zero_le _, Nat.zero_le _⟩ dL_isStep_140 (fun H locs hG => ?_)
        refine lv_if_ne (tgt := 159) hx hb dL_isStep_143 (by decide) (fun c49 => ?_) (fun c49 => ?_)
        · have hf := g_if c49 hf
          refine lv_iconst (v := 0) hx hb dL_isStep_159 (by decide) ?_
          obtain rfl := Option.some.inj hf
          exact hJj46 _ _ hG ls (lv_sub hl [0, 1, 2] rfl)
        · have hf := g_it c49 hf
          refine lv_aload_n hx hb dL_isStep_146 rfl (lv_at hl 0 rfl) ?_
          refine lv_bipush (v := 10) hx hb dL_isStep_147 (by decide) ?_
          obtain ⟨x50, hx50, hf⟩ := g_bnd hf
          refine g_mv (S' := [C8 E h0 b0, C2 E h0 (b0+1) w0.1, C6 E h0 (b0+3) w0.2.1, C5 E h0 (b0+9) w0.2.2.1.2.2, C6 E h0 ((b0+9)+1) w0.2.2.1.1, C7 E h0 ((b0+9)+7) w0.2.2.1.2.1, C3 E h0 (b0+18) w0.2.2.2.1, C0 E h0 (b0+20) x50.2, C8 E h1 b1, C2 E h1 (b1+1) w1.1, C6 E h1 (b1+3) w1.2.1, C5 E h1 (b1+9) w1.2.2.1.2.2, C6 E h1 ((b1+9)+1) w1.2.2.1.1, C7 E h1 ((b1+9)+7) w1.2.2.1.2.1, C3 E h1 (b1+18) w1.2.2.2.1, C0 E h1 (b1+20) w1.2.2.2.2]) (As := [.int 10]) (rest := []) F hK hX hAB hG [0, 1, 2, 3, 4, 5, 6, 7] rfl rfl (c_X8_setting h0 b0 (w0.1, w0.2.1, w0.2.2.1, w0.2.2.2.1, x48.2) 10 (jr_in hx50)) rfl (kL_33 F.2.2.2.2 ⟨Nat.le_of_ble_eq_true rfl, Nat.le_of_ble_eq_true rfl⟩) rfl rfl rfl rfl hl.1 rfl (lv_room (Nat.le_of_ble_eq_true rfl)) ⟨Nat.zero_le _, Nat.zero_le _⟩ dL_isStep_149 (fun H locs hG => ?_)
          refine lv_if_ge (tgt := 159) hx hb dL_isStep_152 (by decide) (fun c51 => ?_) (fun c51 => ?_)
          · have hf := g_it c51 hf
            refine lv_iconst (v := 0) hx hb dL_isStep_159 (by decide) ?_
            obtain rfl := Option.some.inj hf
            exact hJj46 _ _ hG ls (lv_sub hl [0, 1, 2] rfl)
          · have hf := g_if c51 hf
            refine lv_iconst (v := 1) hx hb dL_isStep_155 (by decide) ?_
            refine lv_goto (tgt := 160) hx hb dL_isStep_156 (by decide) ?_
            obtain rfl := Option.some.inj hf
            exact hJj46 _ _ hG ls (lv_sub hl [0, 1, 2] rfl)
    have hf := g_if c60 hf
    by_cases c68 : x1 = 4
    · have hf := g_it c68 hf
      refine g_tabIn (tgt := 208) c68 hx hb dL_isStep_6 (by decide) (by decide) rfl (by decide) ?_
      refine lv_aload_n hx hb dL_isStep_208 rfl (lv_at hl 0 rfl) ?_
      refine lv_iload_n hx hb dL_isStep_209 rfl (lv_at hl 2 rfl) ?_
      refine lv_iconst (v := 4) hx hb dL_isStep_210 (by decide) ?_
      refine lv_ishr hx hb dL_isStep_211 ?_
      refine lv_iconst (v := 1) hx hb dL_isStep_212 (by decide) ?_
      refine lv_iand hx hb dL_isStep_213 ?_
      refine lv_iconst (v := 1) hx hb dL_isStep_214 (by decide) ?_
      obtain ⟨j61, hf, hfj61⟩ := g_bnd hf
      have hJj61 : ∀ (H : Heap) (locs : List Loc), gS E A s.heap [C8 E h0 b0, C2 E h0 (b0+1) w0.1, C6 E h0 (b0+3) w0.2.1, C5 E h0 (b0+9) w0.2.2.1.2.2, C6 E h0 ((b0+9)+1) w0.2.2.1.1, C7 E h0 ((b0+9)+7) w0.2.2.1.2.1, C3 E h0 (b0+18) w0.2.2.2.1, C0 E h0 (b0+20) w0.2.2.2.2, C8 E h1 b1, C2 E h1 (b1+1) w1.1, C6 E h1 (b1+3) w1.2.1, C5 E h1 (b1+9) w1.2.2.1.2.2, C6 E h1 ((b1+9)+1) w1.2.2.1.1, C7 E h1 ((b1+9)+7) w1.2.2.1.2.1, C3 E h1 (b1+18) w1.2.2.2.1, C0 E h1 (b1+20) w1.2.2.2.2] H locs → ∀ ls : Array Slot, lv_has ls 5 [(1, .ref (h1 b1)), (2, .int a2)] → W p l e rL_isStep s m args below meth c H locs 0 0 Q (F0 m 223 ls [.int j61, .ref (h0 b0)]) := by
        intro H locs hG ls hl
        have hf := hfj61
        obtain ⟨x63, hx63, hf⟩ := g_bnd hf
        refine g_mv (S' := [C8 E h0 b0, C2 E h0 (b0+1) w0.1, C6 E h0 (b0+3) w0.2.1, C5 E h0 (b0+9) x63.2.1, C6 E h0 ((b0+9)+1) w0.2.2.1.1, C7 E h0 ((b0+9)+7) w0.2.2.1.2.1, C3 E h0 (b0+18) x63.2.2.1, C0 E h0 (b0+20) x63.2.2.2, C8 E h1 b1, C2 E h1 (b1+1) w1.1, C6 E h1 (b1+3) w1.2.1, C5 E h1 (b1+9) w1.2.2.1.2.2, C6 E h1 ((b1+9)+1) w1.2.2.1.1, C7 E h1 ((b1+9)+7) w1.2.2.1.2.1, C3 E h1 (b1+18) w1.2.2.2.1, C0 E h1 (b1+20) w1.2.2.2.2]) (As := [.int j61]) (rest := []) F hK hX hAB hG [0, 1, 2, 3, 4, 5, 6, 7] rfl rfl (c_X8_mode h0 b0 w0 j61 hx63) rfl (kL_45 F.2.2.2.2 ⟨Nat.le_of_ble_eq_true rfl, Nat.le_of_ble_eq_true rfl⟩) rfl rfl rfl rfl hl.1 rfl (lv_room (Nat.le_of_ble_eq_true rfl)) ⟨Nat.zero_le _, Nat.zero_le _⟩ dL_isStep_223 (fun H locs hG => ?_)
        refine lv_aload_n hx hb dL_isStep_226 rfl (lv_at hl 0 rfl) ?_
        refine lv_iload_n hx hb dL_isStep_227 rfl (lv_at hl 1 rfl) ?_
        refine lv_iconst (v := 4) hx hb dL_isStep_228 (by decide) ?_
        refine lv_ishr hx hb dL_isStep_229 ?_
        refine lv_iconst (v := 1) hx hb dL_isStep_230 (by decide) ?_
        refine lv_iand hx hb dL_isStep_231 ?_
        refine lv_iconst (v := 1) hx hb dL_isStep_232 (by decide) ?_
        obtain ⟨j64, hf, hfj64⟩ := g_bnd hf
        have hJj64 : ∀ (H : Heap) (locs : List Loc), gS E A s.heap [C8 E h0 b0, C2 E h0 (b0+1) w0.1, C6 E h0 (b0+3) w0.2.1, C5 E h0 (b0+9) x63.2.1, C6 E h0 ((b0+9)+1) w0.2.2.1.1, C7 E h0 ((b0+9)+7) w0.2.2.1.2.1, C3 E h0 (b0+18) x63.2.2.1, C0 E h0 (b0+20) x63.2.2.2, C8 E h1 b1, C2 E h1 (b1+1) w1.1, C6 E h1 (b1+3) w1.2.1, C5 E h1 (b1+9) w1.2.2.1.2.2, C6 E h1 ((b1+9)+1) w1.2.2.1.1, C7 E h1 ((b1+9)+7) w1.2.2.1.2.1, C3 E h1 (b1+18) w1.2.2.2.1, C0 E h1 (b1+20) w1.2.2.2.2] H locs → ∀ ls : Array Slot, lv_has ls 5 [] → W p l e rL_isStep s m args below meth c H locs 0 0 Q (F0 m 241 ls [.int j64, .ref (h1 b1), .int x63.1]) := by
          intro H locs hG ls hl
          have hf := hfj64
          obtain ⟨x66, hx66, hf⟩ := g_bnd hf
          refine g_mv (S' := [C8 E h0 b0, C2 E h0 (b0+1) w0.1, C6 E h0 (b0+3) w0.2.1, C5 E h0 (b0+9) x63.2.1, C6 E h0 ((b0+9)+1) w0.2.2.1.1, C7 E h0 ((b0+9)+7) w0.2.2.1.2.1, C3 E h0 (b0+18) x63.2.2.1, C0 E h0 (b0+20) x63.2.2.2, C8 E h1 b1, C2 E h1 (b1+1) w1.1, C6 E h1 (b1+3) w1.2.1, C5 E h1 (b1+9) x66.2.1, C6 E h1 ((b1+9)+1) w1.2.2.1.1, C7 E h1 ((b1+9)+7) w1.2.2.1.2.1, C3 E h1 (b1+18) x66.2.2.1, C0 E h1 (b1+20) x66.2.2.2]) (As := [.int j64]) (rest := [.int x63.1]) F hK hX hAB hG [8, 9, 10, 11, 12, 13, 14, 15] rfl rfl (c_X8_mode h1 b1 w1 j64 hx66) rfl (kL_45 F.2.2.2.2 ⟨Nat.le_of_ble_eq_true rfl, Nat.le_of_ble_eq_true rfl⟩) rfl rfl rfl rfl hl.1 rfl (lv_room (Nat.le_of_ble_eq_true rfl)) ⟨Nat.zero_le _, Nat.zero_le _⟩ dL_isStep_241 (fun H locs hG => ?_)
          refine lv_icmp_ne (tgt := 251) hx hb dL_isStep_244 (by decide) (fun c67 => ?_) (fun c67 => ?_)
          · have hf := g_if c67 hf
            refine lv_iconst (v := 0) hx hb dL_isStep_251 (by decide) ?_
            have ho := Option.some.inj hf
            subst hA
            rw [← hQ, ← ho]
            exact g_mretZ F hr hlk hG narrow_b0 dL_isStep_252
          · have hf := g_it c67 hf
            refine lv_iconst (v := 1) hx hb dL_isStep_247 (by decide) ?_
            refine lv_goto (tgt := 252) hx hb dL_isStep_248 (by decide) ?_
            have ho := Option.some.inj hf
            subst hA
            rw [← hQ, ← ho]
            exact g_mretZ F hr hlk hG narrow_b1 dL_isStep_252
        refine lv_icmp_ne (tgt := 240) hx hb dL_isStep_233 (by decide) (fun c65 => ?_) (fun c65 => ?_)
        · have hf := g_if c65 hf
          refine lv_iconst (v := 0) hx hb dL_isStep_240 (by decide) ?_
          obtain rfl := Option.some.inj hf
          exact hJj64 _ _ hG ls (lv_sub hl [] rfl)
        · have hf := g_it c65 hf
          refine lv_iconst (v := 1) hx hb dL_isStep_236 (by decide) ?_
          refine lv_goto (tgt := 241) hx hb dL_isStep_237 (by decide) ?_
          obtain rfl := Option.some.inj hf
          exact hJj64 _ _ hG ls (lv_sub hl [] rfl)
      refine lv_icmp_ne (tgt := 222) hx hb dL_isStep_215 (by decide) (fun c62 => ?_) (fun c62 => ?_)
      · have hf := g_if c62 hf
        refine lv_iconst (v := 0) hx hb dL_isStep_222 (by decide) ?_
        obtain rfl := Option.some.inj hf
        exact hJj61 _ _ hG ls (lv_sub hl [1, 2] rfl)
      · have hf := g_it c62 hf
        refine lv_iconst (v := 1) hx hb dL_isStep_218 (by decide) ?_
        refine lv_goto (tgt := 223) hx hb dL_isStep_219 (by decide) ?_
        obtain rfl := Option.some.inj hf
        exact hJj61 _ _ hG ls (lv_sub hl [1, 2] rfl)
    have hf := g_if c68 hf
    by_cases c74 : x1 = 5
    · have hf := g_it c74 hf
      refine g_tabIn (tgt := 253) c74 hx hb dL_isStep_6 (by decide) (by decide) rfl (by decide) ?_
      refine lv_aload_n hx hb dL_isStep_253 rfl (lv_at hl 0 rfl) ?_
      refine lv_bipush (v := 7) hx hb dL_isStep_254 (by decide) ?_
      obtain ⟨x69, hx69, hf⟩ := g_bnd hf
      refine g_mv (S' := [C8 E h0 b0, C2 E h0 (b0+1) w0.1, C6 E h0 (b0+3) w0.2.1, C5 E h0 (b0+9) w0.2.2.1.2.2, C6 E h0 ((b0+9)+1) w0.2.2.1.1, C7 E h0 ((b0+9)+7) w0.2.2.1.2.1, C3 E h0 (b0+18) w0.2.2.2.1, C0 E h0 (b0+20) x69.2, C8 E h1 b1, C2 E h1 (b1+1) w1.1, C6 E h1 (b1+3) w1.2.1, C5 E h1 (b1+9) w1.2.2.1.2.2, C6 E h1 ((b1+9)+1) w1.2.2.1.1, C7 E h1 ((b1+9)+7) w1.2.2.1.2.1, C3 E h1 (b1+18) w1.2.2.2.1, C0 E h1 (b1+20) w1.2.2.2.2]) (As := [.int 7]) (rest := []) F hK hX hAB hG [0, 1, 2, 3, 4, 5, 6, 7] rfl rfl (c_X8_setting h0 b0 w0 7 (jr_in hx69)) rfl (kL_33 F.2.2.2.2 ⟨Nat.le_of_ble_eq_true rfl, Nat.le_of_ble_eq_true rfl⟩) rfl rfl rfl rfl hl.1 rfl (lv_room (Nat.le_of_ble_eq_true rfl)) ⟨Nat.zero_le _, Nat.zero_le _⟩ dL_isStep_256 (fun H locs hG => ?_)
      refine lv_if_eq (tgt := 273) hx hb dL_isStep_259 (by decide) (fun c70 => ?_) (fun c70 => ?_)
      · have hf := g_it c70 hf
        refine lv_iconst (v := 1) hx hb dL_isStep_273 (by decide) ?_
        refine lv_goto (tgt := 278) hx hb dL_isStep_274 (by decide) ?_
        have ho := Option.some.inj hf
        subst hA
        rw [← hQ, ← ho]
        exact g_mretZ F hr hlk hG narrow_b1 dL_isStep_278
      · have hf := g_if c70 hf
        refine lv_aload_n hx hb dL_isStep_262 rfl (lv_at hl 0 rfl) ?_
        obtain ⟨x71, hx71, hf⟩ := g_bnd hf
        refine g_mv (S' := [C8 E h0 b0, C2 E h0 (b0+1) w0.1, C6 E h0 (b0+3) w0.2.1, C5 E h0 (b0+9) x71.2.1, C6 E h0 ((b0+9)+1) w0.2.2.1.1, C7 E h0 ((b0+9)+7) w0.2.2.1.2.1, C3 E h0 (b0+18) x71.2.2.1, C0 E h0 (b0+20) x71.2.2.2, C8 E h1 b1, C2 E h1 (b1+1) w1.1, C6 E h1 (b1+3) w1.2.1, C5 E h1 (b1+9) w1.2.2.1.2.2, C6 E h1 ((b1+9)+1) w1.2.2.1.1, C7 E h1 ((b1+9)+7) w1.2.2.1.2.1, C3 E h1 (b1+18) w1.2.2.2.1, C0 E h1 (b1+20) w1.2.2.2.2]) (As := []) (rest := []) F hK hX hAB hG [0, 1, 2, 3, 4, 5, 6, 7] rfl rfl (c_X8_next h0 b0 (w0.1, w0.2.1, w0.2.2.1, w0.2.2.2.1, x69.2) (jr_in hx71)) rfl (kL_49 F.2.2.2.2 ⟨Nat.le_of_ble_eq_true rfl, Nat.le_of_ble_eq_true rfl⟩) rfl rfl rfl rfl hl.1 rfl (lv_room (Nat.le_of_ble_eq_true rfl)) ⟨Nat.zero_le _, Nat.zero_le _⟩ dL_isStep_263 (fun H locs hG => ?_)
        refine lv_aload_n hx hb dL_isStep_266 rfl (lv_at hl 1 rfl) ?_
        obtain ⟨x72, hx72, hf⟩ := g_bnd hf
        refine g_mv (S' := [C8 E h0 b0, C2 E h0 (b0+1) w0.1, C6 E h0 (b0+3) w0.2.1, C5 E h0 (b0+9) x71.2.1, C6 E h0 ((b0+9)+1) w0.2.2.1.1, C7 E h0 ((b0+9)+7) w0.2.2.1.2.1, C3 E h0 (b0+18) x71.2.2.1, C0 E h0 (b0+20) x71.2.2.2, C8 E h1 b1, C2 E h1 (b1+1) w1.1, C6 E h1 (b1+3) w1.2.1, C5 E h1 (b1+9) x72.2.1, C6 E h1 ((b1+9)+1) w1.2.2.1.1, C7 E h1 ((b1+9)+7) w1.2.2.1.2.1, C3 E h1 (b1+18) x72.2.2.1, C0 E h1 (b1+20) x72.2.2.2]) (As := []) (rest := [.int x71.1]) F hK hX hAB hG [8, 9, 10, 11, 12, 13, 14, 15] rfl rfl (c_X8_next h1 b1 w1 (jr_in hx72)) rfl (kL_49 F.2.2.2.2 ⟨Nat.le_of_ble_eq_true rfl, Nat.le_of_ble_eq_true rfl⟩) rfl rfl rfl rfl hl.1 rfl (lv_room (Nat.le_of_ble_eq_true rfl)) ⟨Nat.zero_le _, Nat.zero_le _⟩ dL_isStep_267 (fun H locs hG => ?_)
        refine lv_icmp_ne (tgt := 277) hx hb dL_isStep_270 (by decide) (fun c73 => ?_) (fun c73 => ?_)
        · have hf := g_if c73 hf
          refine lv_iconst (v := 0) hx hb dL_isStep_277 (by decide) ?_
          have ho := Option.some.inj hf
          subst hA
          rw [← hQ, ← ho]
          exact g_mretZ F hr hlk hG narrow_b0 dL_isStep_278
        · have hf := g_it c73 hf
          refine lv_iconst (v := 1) hx hb dL_isStep_273 (by decide) ?_
          refine lv_goto (tgt := 278) hx hb dL_isStep_274 (by decide) ?_
          have ho := Option.some.inj hf
          subst hA
          rw [← hQ, ← ho]
          exact g_mretZ F hr hlk hG narrow_b1 dL_isStep_278
    have hf := g_if c74 hf
    by_cases c80 : x1 = 6
    · have hf := g_it c80 hf
      refine g_tabIn (tgt := 253) c80 hx hb dL_isStep_6 (by decide) (by decide) rfl (by decide) ?_
      refine lv_aload_n hx hb dL_isStep_253 rfl (lv_at hl 0 rfl) ?_
      refine lv_bipush (v := 7) hx hb dL_isStep_254 (by decide) ?_
      obtain ⟨x75, hx75, hf⟩ := g_bnd hf
      refine g_mv (S' := [C8 E h0 b0, C2 E h0 (b0+1) w0.1, C6 E h0 (b0+3) w0.2.1, C5 E h0 (b0+9) w0.2.2.1.2.2, C6 E h0 ((b0+9)+1) w0.2.2.1.1, C7 E h0 ((b0+9)+7) w0.2.2.1.2.1, C3 E h0 (b0+18) w0.2.2.2.1, C0 E h0 (b0+20) x75.2, C8 E h1 b1, C2 E h1 (b1+1) w1.1, C6 E h1 (b1+3) w1.2.1, C5 E h1 (b1+9) w1.2.2.1.2.2, C6 E h1 ((b1+9)+1) w1.2.2.1.1, C7 E h1 ((b1+9)+7) w1.2.2.1.2.1, C3 E h1 (b1+18) w1.2.2.2.1, C0 E h1 (b1+20) w1.2.2.2.2]) (As := [.int 7]) (rest := []) F hK hX hAB hG [0, 1, 2, 3, 4, 5, 6, 7] rfl rfl (c_X8_setting h0 b0 w0 7 (jr_in hx75)) rfl (kL_33 F.2.2.2.2 ⟨Nat.le_of_ble_eq_true rfl, Nat.le_of_ble_eq_true rfl⟩) rfl rfl rfl rfl hl.1 rfl (lv_room (Nat.le_of_ble_eq_true rfl)) ⟨Nat.zero_le _, Nat.zero_le _⟩ dL_isStep_256 (fun H locs hG => ?_)
      refine lv_if_eq (tgt := 273) hx hb dL_isStep_259 (by decide) (fun c76 => ?_) (fun c76 => ?_)
      · have hf := g_it c76 hf
        refine lv_iconst (v := 1) hx hb dL_isStep_273 (by decide) ?_
        refine lv_goto (tgt := 278) hx hb dL_isStep_274 (by decide) ?_
        have ho := Option.some.inj hf
        subst hA
        rw [← hQ, ← ho]
        exact g_mretZ F hr hlk hG narrow_b1 dL_isStep_278
      · have hf := g_if c76 hf
        refine lv_aload_n hx hb dL_isStep_262 rfl (lv_at hl 0 rfl) ?_
        obtain ⟨x77, hx77, hf⟩ := g_bnd hf
        refine g_mv (S' := [C8 E h0 b0, C2 E h0 (b0+1) w0.1, C6 E h0 (b0+3) w0.2.1, C5 E h0 (b0+9) x77.2.1, C6 E h0 ((b0+9)+1) w0.2.2.1.1, C7 E h0 ((b0+9)+7) w0.2.2.1.2.1, C3 E h0 (b0+18) x77.2.2.1, C0 E h0 (b0+20) x77.2.2.2, C8 E h1 b1, C2 E h1 (b1+1) w1.1, C6 E h1 (b1+3) w1.2.1, C5 E h1 (b1+9) w1.2.2.1.2.2, C6 E h1 ((b1+9)+1) w1.2.2.1.1, C7 E h1 ((b1+9)+7) w1.2.2.1.2.1, C3 E h1 (b1+18) w1.2.2.2.1, C0 E h1 (b1+20) w1.2.2.2.2]) (As := []) (rest := []) F hK hX hAB hG [0, 1, 2, 3, 4, 5, 6, 7] rfl rfl (c_X8_next h0 b0 (w0.1, w0.2.1, w0.2.2.1, w0.2.2.2.1, x75.2) (jr_in hx77)) rfl (kL_49 F.2.2.2.2 ⟨Nat.le_of_ble_eq_true rfl, Nat.le_of_ble_eq_true rfl⟩) rfl rfl rfl rfl hl.1 rfl (lv_room (Nat.le_of_ble_eq_true rfl)) ⟨Nat.zero_le _, Nat.zero_le _⟩ dL_isStep_263 (fun H locs hG => ?_)
        refine lv_aload_n hx hb dL_isStep_266 rfl (lv_at hl 1 rfl) ?_
        obtain ⟨x78, hx78, hf⟩ := g_bnd hf
        refine g_mv (S' := [C8 E h0 b0, C2 E h0 (b0+1) w0.1, C6 E h0 (b0+3) w0.2.1, C5 E h0 (b0+9) x77.2.1, C6 E h0 ((b0+9)+1) w0.2.2.1.1, C7 E h0 ((b0+9)+7) w0.2.2.1.2.1, C3 E h0 (b0+18) x77.2.2.1, C0 E h0 (b0+20) x77.2.2.2, C8 E h1 b1, C2 E h1 (b1+1) w1.1, C6 E h1 (b1+3) w1.2.1, C5 E h1 (b1+9) x78.2.1, C6 E h1 ((b1+9)+1) w1.2.2.1.1, C7 E h1 ((b1+9)+7) w1.2.2.1.2.1, C3 E h1 (b1+18) x78.2.2.1, C0 E h1 (b1+20) x78.2.2.2]) (As := []) (rest := [.int x77.1]) F hK hX hAB hG [8, 9, 10, 11, 12, 13, 14, 15] rfl rfl (c_X8_next h1 b1 w1 (jr_in hx78)) rfl (kL_49 F.2.2.2.2 ⟨Nat.le_of_ble_eq_true rfl, Nat.le_of_ble_eq_true rfl⟩) rfl rfl rfl rfl hl.1 rfl (lv_room (Nat.le_of_ble_eq_true rfl)) ⟨Nat.zero_le _, Nat.zero_le _⟩ dL_isStep_267 (fun H locs hG => ?_)
        refine lv_icmp_ne (tgt := 277) hx hb dL_isStep_270 (by decide) (fun c79 => ?_) (fun c79 => ?_)
        · have hf := g_if c79 hf
          refine lv_iconst (v := 0) hx hb dL_isStep_277 (by decide) ?_
          have ho := Option.some.inj hf
          subst hA
          rw [← hQ, ← ho]
          exact g_mretZ F hr hlk hG narrow_b0 dL_isStep_278
        · have hf := g_it c79 hf
          refine lv_iconst (v := 1) hx hb dL_isStep_273 (by decide) ?_
          refine lv_goto (tgt := 278) hx hb dL_isStep_274 (by decide) ?_
          have ho := Option.some.inj hf
          subst hA
          rw [← hQ, ← ho]
          exact g_mretZ F hr hlk hG narrow_b1 dL_isStep_278
    have hf := g_if c80 hf
    by_cases c84 : x1 = 7
    · have hf := g_it c84 hf
      refine g_tabIn (tgt := 279) c84 hx hb dL_isStep_6 (by decide) (by decide) rfl (by decide) ?_
      refine lv_aload_n hx hb dL_isStep_279 rfl (lv_at hl 0 rfl) ?_
      obtain ⟨x81, hx81, hf⟩ := g_bnd hf
      refine g_mv (S' := [C8 E h0 b0, C2 E h0 (b0+1) w0.1, C6 E h0 (b0+3) w0.2.1, C5 E h0 (b0+9) x81.2.1, C6 E h0 ((b0+9)+1) w0.2.2.1.1, C7 E h0 ((b0+9)+7) w0.2.2.1.2.1, C3 E h0 (b0+18) x81.2.2, C0 E h0 (b0+20) w0.2.2.2.2, C8 E h1 b1, C2 E h1 (b1+1) w1.1, C6 E h1 (b1+3) w1.2.1, C5 E h1 (b1+9) w1.2.2.1.2.2, C6 E h1 ((b1+9)+1) w1.2.2.1.1, C7 E h1 ((b1+9)+7) w1.2.2.1.2.1, C3 E h1 (b1+18) w1.2.2.2.1, C0 E h1 (b1+20) w1.2.2.2.2]) (As := []) (rest := []) F hK hX hAB hG [0, 1, 2, 3, 4, 5, 6, 7] rfl rfl (c_X8_pause h0 b0 w0 hx81) rfl (kL_52 F.2.2.2.2 ⟨Nat.le_of_ble_eq_true rfl, Nat.le_of_ble_eq_true rfl⟩) rfl rfl rfl rfl hl.1 rfl (lv_room (Nat.le_of_ble_eq_true rfl)) ⟨Nat.zero_le _, Nat.zero_le _⟩ dL_isStep_280 (fun H locs hG => ?_)
      refine lv_aload_n hx hb dL_isStep_283 rfl (lv_at hl 1 rfl) ?_
      obtain ⟨x82, hx82, hf⟩ := g_bnd hf
      refine g_mv (S' := [C8 E h0 b0, C2 E h0 (b0+1) w0.1, C6 E h0 (b0+3) w0.2.1, C5 E h0 (b0+9) x81.2.1, C6 E h0 ((b0+9)+1) w0.2.2.1.1, C7 E h0 ((b0+9)+7) w0.2.2.1.2.1, C3 E h0 (b0+18) x81.2.2, C0 E h0 (b0+20) w0.2.2.2.2, C8 E h1 b1, C2 E h1 (b1+1) w1.1, C6 E h1 (b1+3) w1.2.1, C5 E h1 (b1+9) x82.2.1, C6 E h1 ((b1+9)+1) w1.2.2.1.1, C7 E h1 ((b1+9)+7) w1.2.2.1.2.1, C3 E h1 (b1+18) x82.2.2, C0 E h1 (b1+20) w1.2.2.2.2]) (As := []) (rest := [.int x81.1]) F hK hX hAB hG [8, 9, 10, 11, 12, 13, 14, 15] rfl rfl (c_X8_pause h1 b1 w1 hx82) rfl (kL_52 F.2.2.2.2 ⟨Nat.le_of_ble_eq_true rfl, Nat.le_of_ble_eq_true rfl⟩) rfl rfl rfl rfl hl.1 rfl (lv_room (Nat.le_of_ble_eq_true rfl)) ⟨Nat.zero_le _, Nat.zero_le _⟩ dL_isStep_284 (fun H locs hG => ?_)
      refine lv_icmp_ne (tgt := 294) hx hb dL_isStep_287 (by decide) (fun c83 => ?_) (fun c83 => ?_)
      · have hf := g_if c83 hf
        refine lv_iconst (v := 0) hx hb dL_isStep_294 (by decide) ?_
        have ho := Option.some.inj hf
        subst hA
        rw [← hQ, ← ho]
        exact g_mretZ F hr hlk hG narrow_b0 dL_isStep_295
      · have hf := g_it c83 hf
        refine lv_iconst (v := 1) hx hb dL_isStep_290 (by decide) ?_
        refine lv_goto (tgt := 295) hx hb dL_isStep_291 (by decide) ?_
        have ho := Option.some.inj hf
        subst hA
        rw [← hQ, ← ho]
        exact g_mretZ F hr hlk hG narrow_b1 dL_isStep_295
    have hf := g_if c84 hf
    by_cases c94 : x1 = 8
    · have hf := g_it c94 hf
      refine g_tabIn (tgt := 296) c94 hx hb dL_isStep_6 (by decide) (by decide) rfl (by decide) ?_
      refine lv_aload_n hx hb dL_isStep_296 rfl (lv_at hl 0 rfl) ?_
      refine lv_iload_n hx hb dL_isStep_297 rfl (lv_at hl 2 rfl) ?_
      refine lv_iconst (v := 4) hx hb dL_isStep_298 (by decide) ?_
      refine lv_ishr hx hb dL_isStep_299 ?_
      refine lv_iconst (v := 1) hx hb dL_isStep_300 (by decide) ?_
      refine lv_iand hx hb dL_isStep_301 ?_
      refine lv_iconst (v := 1) hx hb dL_isStep_302 (by decide) ?_
      obtain ⟨j85, hf, hfj85⟩ := g_bnd hf
      have hJj85 : ∀ (H : Heap) (locs : List Loc), gS E A s.heap [C8 E h0 b0, C2 E h0 (b0+1) w0.1, C6 E h0 (b0+3) w0.2.1, C5 E h0 (b0+9) w0.2.2.1.2.2, C6 E h0 ((b0+9)+1) w0.2.2.1.1, C7 E h0 ((b0+9)+7) w0.2.2.1.2.1, C3 E h0 (b0+18) w0.2.2.2.1, C0 E h0 (b0+20) w0.2.2.2.2, C8 E h1 b1, C2 E h1 (b1+1) w1.1, C6 E h1 (b1+3) w1.2.1, C5 E h1 (b1+9) w1.2.2.1.2.2, C6 E h1 ((b1+9)+1) w1.2.2.1.1, C7 E h1 ((b1+9)+7) w1.2.2.1.2.1, C3 E h1 (b1+18) w1.2.2.2.1, C0 E h1 (b1+20) w1.2.2.2.2] H locs → ∀ ls : Array Slot, lv_has ls 5 [(1, .ref (h1 b1)), (2, .int a2)] → W p l e rL_isStep s m args below meth c H locs 0 0 Q (F0 m 311 ls [.int j85, .ref (h0 b0)]) := by
        intro H locs hG ls hl
        have hf := hfj85
        refine lv_iconst (v := 1) hx hb dL_isStep_311 (by decide) ?_
        refine lv_iload_n hx hb dL_isStep_312 rfl (lv_at hl 1 rfl) ?_
        refine lv_iconst (v := 5) hx hb dL_isStep_313 (by decide) ?_
        refine lv_ishr hx hb dL_isStep_314 ?_
        refine lv_bipush (v := 6) hx hb dL_isStep_315 (by decide) ?_
        obtain ⟨x87, hx87, hf⟩ := g_bnd hf
        refine g_rs (As := [.int (a2 >>> ((5 : Int32) &&& 31)), .int 6]) (rest := [.int 1, .int j85, .ref (h0 b0)]) F hK (hG.X hX hAB) hG.1 [] rfl (c_L_up  (a2 >>> ((5 : Int32) &&& 31)) 6 hx87) (kL_29 F.2.2.2.2 ⟨Nat.le_of_ble_eq_true rfl, Nat.le_of_ble_eq_true rfl⟩) rfl hl.1 rfl (lv_room (Nat.le_of_ble_eq_true rfl)) ⟨Nat.zero_le _, Nat.zero_le _⟩ dL_isStep_317 ?_
        refine lv_iadd hx hb dL_isStep_320 ?_
        obtain ⟨x88, hx88, hf⟩ := g_bnd hf
        refine g_mv (S' := [C8 E h0 b0, C2 E h0 (b0+1) w0.1, C6 E h0 (b0+3) w0.2.1, C5 E h0 (b0+9) x88.2.1, C6 E h0 ((b0+9)+1) w0.2.2.1.1, C7 E h0 ((b0+9)+7) w0.2.2.1.2.1, C3 E h0 (b0+18) x88.2.2, C0 E h0 (b0+20) w0.2.2.2.2, C8 E h1 b1, C2 E h1 (b1+1) w1.1, C6 E h1 (b1+3) w1.2.1, C5 E h1 (b1+9) w1.2.2.1.2.2, C6 E h1 ((b1+9)+1) w1.2.2.1.1, C7 E h1 ((b1+9)+7) w1.2.2.1.2.1, C3 E h1 (b1+18) w1.2.2.2.1, C0 E h1 (b1+20) w1.2.2.2.2]) (As := [.int j85, .int (1 + x87)]) (rest := []) F hK hX hAB hG [0, 1, 2, 3, 4, 5, 6, 7] rfl rfl (c_X8_setWays h0 b0 w0 j85 (1 + x87) (jr_in hx88)) rfl (kL_55 F.2.2.2.2 ⟨Nat.le_of_ble_eq_true rfl, Nat.le_of_ble_eq_true rfl⟩) rfl rfl rfl rfl hl.1 rfl (lv_room (Nat.le_of_ble_eq_true rfl)) ⟨Nat.zero_le _, Nat.zero_le _⟩ dL_isStep_321 (fun H locs hG => ?_)
        refine lv_aload_n hx hb dL_isStep_324 rfl (lv_at hl 0 rfl) ?_
        refine lv_iload_n hx hb dL_isStep_325 rfl (lv_at hl 1 rfl) ?_
        refine lv_iconst (v := 4) hx hb dL_isStep_326 (by decide) ?_
        refine lv_ishr hx hb dL_isStep_327 ?_
        refine lv_iconst (v := 1) hx hb dL_isStep_328 (by decide) ?_
        refine lv_iand hx hb dL_isStep_329 ?_
        refine lv_iconst (v := 1) hx hb dL_isStep_330 (by decide) ?_
        obtain ⟨j89, hf, hfj89⟩ := g_bnd hf
        have hJj89 : ∀ (H : Heap) (locs : List Loc), gS E A s.heap [C8 E h0 b0, C2 E h0 (b0+1) w0.1, C6 E h0 (b0+3) w0.2.1, C5 E h0 (b0+9) x88.2.1, C6 E h0 ((b0+9)+1) w0.2.2.1.1, C7 E h0 ((b0+9)+7) w0.2.2.1.2.1, C3 E h0 (b0+18) x88.2.2, C0 E h0 (b0+20) w0.2.2.2.2, C8 E h1 b1, C2 E h1 (b1+1) w1.1, C6 E h1 (b1+3) w1.2.1, C5 E h1 (b1+9) w1.2.2.1.2.2, C6 E h1 ((b1+9)+1) w1.2.2.1.1, C7 E h1 ((b1+9)+7) w1.2.2.1.2.1, C3 E h1 (b1+18) w1.2.2.2.1, C0 E h1 (b1+20) w1.2.2.2.2] H locs → ∀ ls : Array Slot, lv_has ls 5 [(2, .int a2)] → W p l e rL_isStep s m args below meth c H locs 0 0 Q (F0 m 339 ls [.int j89, .ref (h1 b1), .int x88.1]) := by
          intro H locs hG ls hl
          have hf := hfj89
          refine lv_iconst (v := 1) hx hb dL_isStep_339 (by decide) ?_
          refine lv_iload_n hx hb dL_isStep_340 rfl (lv_at hl 0 rfl) ?_
          refine lv_iconst (v := 5) hx hb dL_isStep_341 (by decide) ?_
          refine lv_ishr hx hb dL_isStep_342 ?_
          refine lv_bipush (v := 6) hx hb dL_isStep_343 (by decide) ?_
          obtain ⟨x91, hx91, hf⟩ := g_bnd hf
          refine g_rs (As := [.int (a2 >>> ((5 : Int32) &&& 31)), .int 6]) (rest := [.int 1, .int j89, .ref (h1 b1), .int x88.1]) F hK (hG.X hX hAB) hG.1 [] rfl (c_L_up  (a2 >>> ((5 : Int32) &&& 31)) 6 hx91) (kL_29 F.2.2.2.2 ⟨Nat.le_of_ble_eq_true rfl, Nat.le_of_ble_eq_true rfl⟩) rfl hl.1 rfl (lv_room (Nat.le_of_ble_eq_true rfl)) ⟨Nat.zero_le _, Nat.zero_le _⟩ dL_isStep_345 ?_
          refine lv_iadd hx hb dL_isStep_348 ?_
          obtain ⟨x92, hx92, hf⟩ := g_bnd hf
          refine g_mv (S' := [C8 E h0 b0, C2 E h0 (b0+1) w0.1, C6 E h0 (b0+3) w0.2.1, C5 E h0 (b0+9) x88.2.1, C6 E h0 ((b0+9)+1) w0.2.2.1.1, C7 E h0 ((b0+9)+7) w0.2.2.1.2.1, C3 E h0 (b0+18) x88.2.2, C0 E h0 (b0+20) w0.2.2.2.2, C8 E h1 b1, C2 E h1 (b1+1) w1.1, C6 E h1 (b1+3) w1.2.1, C5 E h1 (b1+9) x92.2.1, C6 E h1 ((b1+9)+1) w1.2.2.1.1, C7 E h1 ((b1+9)+7) w1.2.2.1.2.1, C3 E h1 (b1+18) x92.2.2, C0 E h1 (b1+20) w1.2.2.2.2]) (As := [.int j89, .int (1 + x91)]) (rest := [.int x88.1]) F hK hX hAB hG [8, 9, 10, 11, 12, 13, 14, 15] rfl rfl (c_X8_setWays h1 b1 w1 j89 (1 + x91) (jr_in hx92)) rfl (kL_55 F.2.2.2.2 ⟨Nat.le_of_ble_eq_true rfl, Nat.le_of_ble_eq_true rfl⟩) rfl rfl rfl rfl hl.1 rfl (lv_room (Nat.le_of_ble_eq_true rfl)) ⟨Nat.zero_le _, Nat.zero_le _⟩ dL_isStep_349 (fun H locs hG => ?_)
          refine lv_icmp_ne (tgt := 359) hx hb dL_isStep_352 (by decide) (fun c93 => ?_) (fun c93 => ?_)
          · have hf := g_if c93 hf
            refine lv_iconst (v := 0) hx hb dL_isStep_359 (by decide) ?_
            have ho := Option.some.inj hf
            subst hA
            rw [← hQ, ← ho]
            exact g_mretZ F hr hlk hG narrow_b0 dL_isStep_360
          · have hf := g_it c93 hf
            refine lv_iconst (v := 1) hx hb dL_isStep_355 (by decide) ?_
            refine lv_goto (tgt := 360) hx hb dL_isStep_356 (by decide) ?_
            have ho := Option.some.inj hf
            subst hA
            rw [← hQ, ← ho]
            exact g_mretZ F hr hlk hG narrow_b1 dL_isStep_360
        refine lv_icmp_ne (tgt := 338) hx hb dL_isStep_331 (by decide) (fun c90 => ?_) (fun c90 => ?_)
        · have hf := g_if c90 hf
          refine lv_iconst (v := 0) hx hb dL_isStep_338 (by decide) ?_
          obtain rfl := Option.some.inj hf
          exact hJj89 _ _ hG ls (lv_sub hl [1] rfl)
        · have hf := g_it c90 hf
          refine lv_iconst (v := 1) hx hb dL_isStep_334 (by decide) ?_
          refine lv_goto (tgt := 339) hx hb dL_isStep_335 (by decide) ?_
          obtain rfl := Option.some.inj hf
          exact hJj89 _ _ hG ls (lv_sub hl [1] rfl)
      refine lv_icmp_ne (tgt := 310) hx hb dL_isStep_303 (by decide) (fun c86 => ?_) (fun c86 => ?_)
      · have hf := g_if c86 hf
        refine lv_iconst (v := 0) hx hb dL_isStep_310 (by decide) ?_
        obtain rfl := Option.some.inj hf
        exact hJj85 _ _ hG ls (lv_sub hl [1, 2] rfl)
      · have hf := g_it c86 hf
        refine lv_iconst (v := 1) hx hb dL_isStep_306 (by decide) ?_
        refine lv_goto (tgt := 311) hx hb dL_isStep_307 (by decide) ?_
        obtain rfl := Option.some.inj hf
        exact hJj85 _ _ hG ls (lv_sub hl [1, 2] rfl)
    have hf := g_if c94 hf
    exact absurd hf (fun h => nomatch h)
set_option maxHeartbeats 4000000 in
set_option maxRecDepth 100000 in
theorem c_L_isWord {l : Launch} {E : gEnv} (h0 : Nat → Nat) (h2 : Nat → Nat) (b0 : Nat) (w0 : T8) (a1 : Int32) (b2 : Nat) (w2 : T8) (a3 : Int32) {o : Int32} (hf : f_L_isWord w0 a1 w2 a3 = some o) : gR l yL_isWord cL_isWord 6 (some .boolean) rL_isWord E [.ref (h0 b0), .int a1, .ref (h2 b2), .int a3] [C8 E h0 b0, C2 E h0 (b0+1) w0.1, C6 E h0 (b0+3) w0.2.1, C5 E h0 (b0+9) w0.2.2.1.2.2, C6 E h0 ((b0+9)+1) w0.2.2.1.1, C7 E h0 ((b0+9)+7) w0.2.2.1.2.1, C3 E h0 (b0+18) w0.2.2.2.1, C0 E h0 (b0+20) w0.2.2.2.2, C8 E h2 b2, C2 E h2 (b2+1) w2.1, C6 E h2 (b2+3) w2.2.1, C5 E h2 (b2+9) w2.2.2.1.2.2, C6 E h2 ((b2+9)+1) w2.2.2.1.1, C7 E h2 ((b2+9)+7) w2.2.2.1.2.1, C3 E h2 (b2+18) w2.2.2.2.1, C0 E h2 (b2+20) w2.2.2.2.2] (some (.int o)) := by
  refine gR.of (by decide +kernel) (Nat.le_of_ble_eq_true rfl) ?_
  intro p e s m below meth c F hr hlk hK hX hP ls hl
  have F : gF p m c cL_isWord 6 s ([.ref (h0 b0), .int a1, .ref (h2 b2), .int a3] : List Value).toArray RL := F
  generalize ([.ref (h0 b0), .int a1, .ref (h2 b2), .int a3] : List Value).toArray = args at F ⊢
  generalize hQ : MQ below _ _ _ _ _ _ = Q
  have hl : lv_has ls 6 [(0, .ref (h0 b0)), (1, .int a1), (2, .ref (h2 b2)), (3, .int a3)] := hl
  have hx := F.1
  have hb := F.2.1
  unfold f_L_isWord at hf
  refine lv_aload_n hx hb dL_isWord_0 rfl (lv_at hl 0 rfl) ?_
  refine lv_iload_n hx hb dL_isWord_1 rfl (lv_at hl 1 rfl) ?_
  refine lv_iconst (v := 0) hx hb dL_isWord_2 (by decide) ?_
  obtain ⟨x1, hx1, hf⟩ := g_bnd hf
  refine g_rv (As := [.int a1, .int 0]) (rest := []) F hK hX hP [0, 1, 2, 3, 4, 5, 6, 7] rfl (c_X8_word h0 b0 w0 a1 0 (jr_in hx1)) (kL_62 F.2.2.2.2 ⟨Nat.le_of_ble_eq_true rfl, Nat.le_of_ble_eq_true rfl⟩) rfl rfl rfl rfl hl.1 rfl (lv_room (Nat.le_of_ble_eq_true rfl)) ⟨Nat.zero_le _, Nat.zero_le _⟩ dL_isWord_3 ?_
  refine lv_aload_n hx hb dL_isWord_6 rfl (lv_at hl 2 rfl) ?_
  refine lv_iload_n hx hb dL_isWord_7 rfl (lv_at hl 3 rfl) ?_
  refine lv_iconst (v := 0) hx hb dL_isWord_8 (by decide) ?_
  obtain ⟨x2, hx2, hf⟩ := g_bnd hf
  refine g_rv (As := [.int a3, .int 0]) (rest := [.int x1]) F hK hX hP [8, 9, 10, 11, 12, 13, 14, 15] rfl (c_X8_word h2 b2 w2 a3 0 (jr_in hx2)) (kL_62 F.2.2.2.2 ⟨Nat.le_of_ble_eq_true rfl, Nat.le_of_ble_eq_true rfl⟩) rfl rfl rfl rfl hl.1 rfl (lv_room (Nat.le_of_ble_eq_true rfl)) ⟨Nat.zero_le _, Nat.zero_le _⟩ dL_isWord_9 ?_
  obtain ⟨j3, hf, hfj3⟩ := g_bnd hf
  have hJj3 : ∀ ls : Array Slot, lv_has ls 6 [(0, .ref (h0 b0)), (1, .int a1), (2, .ref (h2 b2)), (3, .int a3)] → W p l e rL_isWord s m args below meth c s.heap [] 0 0 Q (F0 m 20 ls [.int j3]) := by
    intro ls hl
    have hf := hfj3
    refine lv_istore (lv' := [(4, .int j3), (0, .ref (h0 b0)), (1, .int a1), (2, .ref (h2 b2)), (3, .int a3)]) hx hb dL_isWord_20 hl (by decide) rfl (fun ls hl => ?_)
    refine lv_iconst (v := 0) hx hb dL_isWord_22 (by decide) ?_
    refine lv_istore (lv' := [(5, .int 0), (4, .int j3), (0, .ref (h0 b0)), (1, .int a1), (2, .ref (h2 b2)), (3, .int a3)]) hx hb dL_isWord_23 hl (by decide) rfl (fun ls hl => ?_)
    obtain ⟨x6, hx6, hfx6⟩ := g_bnd hf
    have hEx6 : ∀ ls : Array Slot, lv_has ls 6 [(0, .ref (h0 b0)), (1, .int a1), (2, .ref (h2 b2)), (3, .int a3), (4, .int x6)] → W p l e rL_isWord s m args below meth c s.heap [] 0 0 Q (F0 m 71 ls []) := by
      intro ls hl
      have hf := hfx6
      refine lv_iload hx hb dL_isWord_71 (lv_at hl 4 rfl) ?_
      refine lv_if_eq (tgt := 166) hx hb dL_isWord_73 (by decide) (fun c14 => ?_) (fun c14 => ?_)
      · have hf := g_it c14 hf
        refine lv_iconst (v := 0) hx hb dL_isWord_166 (by decide) ?_
        have ho := Option.some.inj hf
        rw [← hQ, ← ho]
        exact g_retZ F hr hlk narrow_b0 dL_isWord_167
      · have hf := g_if c14 hf
        refine lv_aload_n hx hb dL_isWord_76 rfl (lv_at hl 0 rfl) ?_
        refine lv_iload_n hx hb dL_isWord_77 rfl (lv_at hl 1 rfl) ?_
        refine lv_iconst (v := 1) hx hb dL_isWord_78 (by decide) ?_
        obtain ⟨x15, hx15, hf⟩ := g_bnd hf
        refine g_rv (As := [.int a1, .int 1]) (rest := []) F hK hX hP [0, 1, 2, 3, 4, 5, 6, 7] rfl (c_X8_word h0 b0 w0 a1 1 (jr_in hx15)) (kL_62 F.2.2.2.2 ⟨Nat.le_of_ble_eq_true rfl, Nat.le_of_ble_eq_true rfl⟩) rfl rfl rfl rfl hl.1 rfl (lv_room (Nat.le_of_ble_eq_true rfl)) ⟨Nat.zero_le _, Nat.zero_le _⟩ dL_isWord_79 ?_
        refine lv_aload_n hx hb dL_isWord_82 rfl (lv_at hl 2 rfl) ?_
        refine lv_iload_n hx hb dL_isWord_83 rfl (lv_at hl 3 rfl) ?_
        refine lv_iconst (v := 1) hx hb dL_isWord_84 (by decide) ?_
        obtain ⟨x16, hx16, hf⟩ := g_bnd hf
        refine g_rv (As := [.int a3, .int 1]) (rest := [.int x15]) F hK hX hP [8, 9, 10, 11, 12, 13, 14, 15] rfl (c_X8_word h2 b2 w2 a3 1 (jr_in hx16)) (kL_62 F.2.2.2.2 ⟨Nat.le_of_ble_eq_true rfl, Nat.le_of_ble_eq_true rfl⟩) rfl rfl rfl rfl hl.1 rfl (lv_room (Nat.le_of_ble_eq_true rfl)) ⟨Nat.zero_le _, Nat.zero_le _⟩ dL_isWord_85 ?_
        refine lv_icmp_ne (tgt := 166) hx hb dL_isWord_88 (by decide) (fun c17 => ?_) (fun c17 => ?_)
        · have hf := g_if c17 hf
          refine lv_iconst (v := 0) hx hb dL_isWord_166 (by decide) ?_
          have ho := Option.some.inj hf
          rw [← hQ, ← ho]
          exact g_retZ F hr hlk narrow_b0 dL_isWord_167
        · have hf := g_it c17 hf
          refine lv_aload_n hx hb dL_isWord_91 rfl (lv_at hl 0 rfl) ?_
          refine lv_iload_n hx hb dL_isWord_92 rfl (lv_at hl 1 rfl) ?_
          refine lv_iconst (v := 2) hx hb dL_isWord_93 (by decide) ?_
          obtain ⟨x18, hx18, hf⟩ := g_bnd hf
          refine g_rv (As := [.int a1, .int 2]) (rest := []) F hK hX hP [0, 1, 2, 3, 4, 5, 6, 7] rfl (c_X8_word h0 b0 w0 a1 2 (jr_in hx18)) (kL_62 F.2.2.2.2 ⟨Nat.le_of_ble_eq_true rfl, Nat.le_of_ble_eq_true rfl⟩) rfl rfl rfl rfl hl.1 rfl (lv_room (Nat.le_of_ble_eq_true rfl)) ⟨Nat.zero_le _, Nat.zero_le _⟩ dL_isWord_94 ?_
          refine lv_aload_n hx hb dL_isWord_97 rfl (lv_at hl 2 rfl) ?_
          refine lv_iload_n hx hb dL_isWord_98 rfl (lv_at hl 3 rfl) ?_
          refine lv_iconst (v := 2) hx hb dL_isWord_99 (by decide) ?_
          obtain ⟨x19, hx19, hf⟩ := g_bnd hf
          refine g_rv (As := [.int a3, .int 2]) (rest := [.int x18]) F hK hX hP [8, 9, 10, 11, 12, 13, 14, 15] rfl (c_X8_word h2 b2 w2 a3 2 (jr_in hx19)) (kL_62 F.2.2.2.2 ⟨Nat.le_of_ble_eq_true rfl, Nat.le_of_ble_eq_true rfl⟩) rfl rfl rfl rfl hl.1 rfl (lv_room (Nat.le_of_ble_eq_true rfl)) ⟨Nat.zero_le _, Nat.zero_le _⟩ dL_isWord_100 ?_
          refine lv_icmp_ne (tgt := 166) hx hb dL_isWord_103 (by decide) (fun c20 => ?_) (fun c20 => ?_)
          · have hf := g_if c20 hf
            refine lv_iconst (v := 0) hx hb dL_isWord_166 (by decide) ?_
            have ho := Option.some.inj hf
            rw [← hQ, ← ho]
            exact g_retZ F hr hlk narrow_b0 dL_isWord_167
          · have hf := g_it c20 hf
            refine lv_aload_n hx hb dL_isWord_106 rfl (lv_at hl 0 rfl) ?_
            refine lv_iload_n hx hb dL_isWord_107 rfl (lv_at hl 1 rfl) ?_
            refine lv_iconst (v := 3) hx hb dL_isWord_108 (by decide) ?_
            obtain ⟨x21, hx21, hf⟩ := g_bnd hf
            refine g_rv (As := [.int a1, .int 3]) (rest := []) F hK hX hP [0, 1, 2, 3, 4, 5, 6, 7] rfl (c_X8_word h0 b0 w0 a1 3 (jr_in hx21)) (kL_62 F.2.2.2.2 ⟨Nat.le_of_ble_eq_true rfl, Nat.le_of_ble_eq_true rfl⟩) rfl rfl rfl rfl hl.1 rfl (lv_room (Nat.le_of_ble_eq_true rfl)) ⟨Nat.zero_le _, Nat.zero_le _⟩ dL_isWord_109 ?_
            refine lv_aload_n hx hb dL_isWord_112 rfl (lv_at hl 2 rfl) ?_
            refine lv_iload_n hx hb dL_isWord_113 rfl (lv_at hl 3 rfl) ?_
            refine lv_iconst (v := 3) hx hb dL_isWord_114 (by decide) ?_
            obtain ⟨x22, hx22, hf⟩ := g_bnd hf
            refine g_rv (As := [.int a3, .int 3]) (rest := [.int x21]) F hK hX hP [8, 9, 10, 11, 12, 13, 14, 15] rfl (c_X8_word h2 b2 w2 a3 3 (jr_in hx22)) (kL_62 F.2.2.2.2 ⟨Nat.le_of_ble_eq_true rfl, Nat.le_of_ble_eq_true rfl⟩) rfl rfl rfl rfl hl.1 rfl (lv_room (Nat.le_of_ble_eq_true rfl)) ⟨Nat.zero_le _, Nat.zero_le _⟩ dL_isWord_115 ?_
            refine lv_icmp_ne (tgt := 166) hx hb dL_isWord_118 (by decide) (fun c23 => ?_) (fun c23 => ?_)
            · have hf := g_if c23 hf
              refine lv_iconst (v := 0) hx hb dL_isWord_166 (by decide) ?_
              have ho := Option.some.inj hf
              rw [← hQ, ← ho]
              exact g_retZ F hr hlk narrow_b0 dL_isWord_167
            · have hf := g_it c23 hf
              refine lv_aload_n hx hb dL_isWord_121 rfl (lv_at hl 0 rfl) ?_
              refine lv_iload_n hx hb dL_isWord_122 rfl (lv_at hl 1 rfl) ?_
              refine lv_iconst (v := 4) hx hb dL_isWord_123 (by decide) ?_
              obtain ⟨x24, hx24, hf⟩ := g_bnd hf
              refine g_rv (As := [.int a1, .int 4]) (rest := []) F hK hX hP [0, 1, 2, 3, 4, 5, 6, 7] rfl (c_X8_word h0 b0 w0 a1 4 (jr_in hx24)) (kL_62 F.2.2.2.2 ⟨Nat.le_of_ble_eq_true rfl, Nat.le_of_ble_eq_true rfl⟩) rfl rfl rfl rfl hl.1 rfl (lv_room (Nat.le_of_ble_eq_true rfl)) ⟨Nat.zero_le _, Nat.zero_le _⟩ dL_isWord_124 ?_
              refine lv_aload_n hx hb dL_isWord_127 rfl (lv_at hl 2 rfl) ?_
              refine lv_iload_n hx hb dL_isWord_128 rfl (lv_at hl 3 rfl) ?_
              refine lv_iconst (v := 4) hx hb dL_isWord_129 (by decide) ?_
              obtain ⟨x25, hx25, hf⟩ := g_bnd hf
              refine g_rv (As := [.int a3, .int 4]) (rest := [.int x24]) F hK hX hP [8, 9, 10, 11, 12, 13, 14, 15] rfl (c_X8_word h2 b2 w2 a3 4 (jr_in hx25)) (kL_62 F.2.2.2.2 ⟨Nat.le_of_ble_eq_true rfl, Nat.le_of_ble_eq_true rfl⟩) rfl rfl rfl rfl hl.1 rfl (lv_room (Nat.le_of_ble_eq_true rfl)) ⟨Nat.zero_le _, Nat.zero_le _⟩ dL_isWord_130 ?_
              refine lv_icmp_ne (tgt := 166) hx hb dL_isWord_133 (by decide) (fun c26 => ?_) (fun c26 => ?_)
              · have hf := g_if c26 hf
                refine lv_iconst (v := 0) hx hb dL_isWord_166 (by decide) ?_
                have ho := Option.some.inj hf
                rw [← hQ, ← ho]
                exact g_retZ F hr hlk narrow_b0 dL_isWord_167
              · have hf := g_it c26 hf
                refine lv_aload_n hx hb dL_isWord_136 rfl (lv_at hl 0 rfl) ?_
                refine lv_iload_n hx hb dL_isWord_137 rfl (lv_at hl 1 rfl) ?_
                obtain ⟨x27, hx27, hf⟩ := g_bnd hf
                refine g_rv (As := [.int a1]) (rest := []) F hK hX hP [0, 1, 2, 3, 4, 5, 6, 7] rfl (c_X8_steps h0 b0 w0 a1 (jr_in hx27)) (kL_68 F.2.2.2.2 ⟨Nat.le_of_ble_eq_true rfl, Nat.le_of_ble_eq_true rfl⟩) rfl rfl rfl rfl hl.1 rfl (lv_room (Nat.le_of_ble_eq_true rfl)) ⟨Nat.zero_le _, Nat.zero_le _⟩ dL_isWord_138 ?_
                refine lv_aload_n hx hb dL_isWord_141 rfl (lv_at hl 2 rfl) ?_
                refine lv_iload_n hx hb dL_isWord_142 rfl (lv_at hl 3 rfl) ?_
                obtain ⟨x28, hx28, hf⟩ := g_bnd hf
                refine g_rv (As := [.int a3]) (rest := [.int x27]) F hK hX hP [8, 9, 10, 11, 12, 13, 14, 15] rfl (c_X8_steps h2 b2 w2 a3 (jr_in hx28)) (kL_68 F.2.2.2.2 ⟨Nat.le_of_ble_eq_true rfl, Nat.le_of_ble_eq_true rfl⟩) rfl rfl rfl rfl hl.1 rfl (lv_room (Nat.le_of_ble_eq_true rfl)) ⟨Nat.zero_le _, Nat.zero_le _⟩ dL_isWord_143 ?_
                refine lv_icmp_ne (tgt := 166) hx hb dL_isWord_146 (by decide) (fun c29 => ?_) (fun c29 => ?_)
                · have hf := g_if c29 hf
                  refine lv_iconst (v := 0) hx hb dL_isWord_166 (by decide) ?_
                  have ho := Option.some.inj hf
                  rw [← hQ, ← ho]
                  exact g_retZ F hr hlk narrow_b0 dL_isWord_167
                · have hf := g_it c29 hf
                  refine lv_aload_n hx hb dL_isWord_149 rfl (lv_at hl 0 rfl) ?_
                  refine lv_iload_n hx hb dL_isWord_150 rfl (lv_at hl 1 rfl) ?_
                  obtain ⟨x30, hx30, hf⟩ := g_bnd hf
                  refine g_rv (As := [.int a1]) (rest := []) F hK hX hP [0, 1, 2, 3, 4, 5, 6, 7] rfl (c_X8_shortest h0 b0 w0 a1 (jr_in hx30)) (kL_71 F.2.2.2.2 ⟨Nat.le_of_ble_eq_true rfl, Nat.le_of_ble_eq_true rfl⟩) rfl rfl rfl rfl hl.1 rfl (lv_room (Nat.le_of_ble_eq_true rfl)) ⟨Nat.zero_le _, Nat.zero_le _⟩ dL_isWord_151 ?_
                  refine lv_aload_n hx hb dL_isWord_154 rfl (lv_at hl 2 rfl) ?_
                  refine lv_iload_n hx hb dL_isWord_155 rfl (lv_at hl 3 rfl) ?_
                  obtain ⟨x31, hx31, hf⟩ := g_bnd hf
                  refine g_rv (As := [.int a3]) (rest := [.int x30]) F hK hX hP [8, 9, 10, 11, 12, 13, 14, 15] rfl (c_X8_shortest h2 b2 w2 a3 (jr_in hx31)) (kL_71 F.2.2.2.2 ⟨Nat.le_of_ble_eq_true rfl, Nat.le_of_ble_eq_true rfl⟩) rfl rfl rfl rfl hl.1 rfl (lv_room (Nat.le_of_ble_eq_true rfl)) ⟨Nat.zero_le _, Nat.zero_le _⟩ dL_isWord_156 ?_
                  refine lv_icmp_ne (tgt := 166) hx hb dL_isWord_159 (by decide) (fun c32 => ?_) (fun c32 => ?_)
                  · have hf := g_if c32 hf
                    refine lv_iconst (v := 0) hx hb dL_isWord_166 (by decide) ?_
                    have ho := Option.some.inj hf
                    rw [← hQ, ← ho]
                    exact g_retZ F hr hlk narrow_b0 dL_isWord_167
                  · have hf := g_it c32 hf
                    refine lv_iconst (v := 1) hx hb dL_isWord_162 (by decide) ?_
                    refine lv_goto (tgt := 167) hx hb dL_isWord_163 (by decide) ?_
                    have ho := Option.some.inj hf
                    rw [← hQ, ← ho]
                    exact g_retZ F hr hlk narrow_b1 dL_isWord_167
    refine lp_rule (fun (v5 : Int32 × Int32) => ∀ ls : Array Slot, lv_has ls 6 [(0, .ref (h0 b0)), (1, .int a1), (2, .ref (h2 b2)), (3, .int a3), (4, .int v5.1), (5, .int v5.2)] → W p l e rL_isWord s m args below meth c s.heap [] 0 0 Q (F0 m 25 ls [])) ?_ _ _ hx6 ls (lv_sub hl [2, 3, 4, 5, 1, 0] rfl)
    intro v5 y hf hbackv5 hexitv5 ls hl
    refine lv_iload hx hb dL_isWord_25 (lv_at hl 5 rfl) ?_
    refine lv_aload_n hx hb dL_isWord_27 rfl (lv_at hl 0 rfl) ?_
    refine lv_iload_n hx hb dL_isWord_28 rfl (lv_at hl 1 rfl) ?_
    refine lv_iconst (v := 0) hx hb dL_isWord_29 (by decide) ?_
    obtain ⟨x7, hx7, hf⟩ := g_bnd hf
    refine g_rv (As := [.int a1, .int 0]) (rest := [.int v5.2]) F hK hX hP [0, 1, 2, 3, 4, 5, 6, 7] rfl (c_X8_word h0 b0 w0 a1 0 (jr_in hx7)) (kL_62 F.2.2.2.2 ⟨Nat.le_of_ble_eq_true rfl, Nat.le_of_ble_eq_true rfl⟩) rfl rfl rfl rfl hl.1 rfl (lv_room (Nat.le_of_ble_eq_true rfl)) ⟨Nat.zero_le _, Nat.zero_le _⟩ dL_isWord_30 ?_
    refine lv_icmp_ge (tgt := 71) hx hb dL_isWord_33 (by decide) (fun c8 => ?_) (fun c8 => ?_)
    · have hf := g_it c8 hf
      obtain rfl := hexitv5 _ (Option.some.inj hf).symm
      exact hEx6 ls (lv_sub hl [0, 1, 2, 3, 4] rfl)
    · have hf := g_if c8 hf
      refine lv_iload hx hb dL_isWord_36 (lv_at hl 4 rfl) ?_
      refine lv_if_eq (tgt := 71) hx hb dL_isWord_38 (by decide) (fun c9 => ?_) (fun c9 => ?_)
      · have hf := g_it c9 hf
        obtain rfl := hexitv5 _ (Option.some.inj hf).symm
        exact hEx6 ls (lv_sub hl [0, 1, 2, 3, 4] rfl)
      · have hf := g_if c9 hf
        refine lv_aload_n hx hb dL_isWord_41 rfl (lv_at hl 0 rfl) ?_
        refine lv_iload_n hx hb dL_isWord_42 rfl (lv_at hl 1 rfl) ?_
        refine lv_iload hx hb dL_isWord_43 (lv_at hl 5 rfl) ?_
        obtain ⟨x10, hx10, hf⟩ := g_bnd hf
        refine g_rv (As := [.int a1, .int v5.2]) (rest := []) F hK hX hP [0, 1, 2, 3, 4, 5, 6, 7] rfl (c_X8_letter h0 b0 w0 a1 v5.2 (jr_in hx10)) (kL_65 F.2.2.2.2 ⟨Nat.le_of_ble_eq_true rfl, Nat.le_of_ble_eq_true rfl⟩) rfl rfl rfl rfl hl.1 rfl (lv_room (Nat.le_of_ble_eq_true rfl)) ⟨Nat.zero_le _, Nat.zero_le _⟩ dL_isWord_45 ?_
        refine lv_aload_n hx hb dL_isWord_48 rfl (lv_at hl 2 rfl) ?_
        refine lv_iload_n hx hb dL_isWord_49 rfl (lv_at hl 3 rfl) ?_
        refine lv_iload hx hb dL_isWord_50 (lv_at hl 5 rfl) ?_
        obtain ⟨x11, hx11, hf⟩ := g_bnd hf
        refine g_rv (As := [.int a3, .int v5.2]) (rest := [.int x10]) F hK hX hP [8, 9, 10, 11, 12, 13, 14, 15] rfl (c_X8_letter h2 b2 w2 a3 v5.2 (jr_in hx11)) (kL_65 F.2.2.2.2 ⟨Nat.le_of_ble_eq_true rfl, Nat.le_of_ble_eq_true rfl⟩) rfl rfl rfl rfl hl.1 rfl (lv_room (Nat.le_of_ble_eq_true rfl)) ⟨Nat.zero_le _, Nat.zero_le _⟩ dL_isWord_52 ?_
        obtain ⟨j12, hf, hfj12⟩ := g_bnd hf
        have hJj12 : ∀ ls : Array Slot, lv_has ls 6 [(0, .ref (h0 b0)), (1, .int a1), (2, .ref (h2 b2)), (3, .int a3), (5, .int v5.2)] → W p l e rL_isWord s m args below meth c s.heap [] 0 0 Q (F0 m 63 ls [.int j12]) := by
          intro ls hl
          have hf := hfj12
          refine lv_istore (lv' := [(4, .int j12), (0, .ref (h0 b0)), (1, .int a1), (2, .ref (h2 b2)), (3, .int a3), (5, .int v5.2)]) hx hb dL_isWord_63 hl (by decide) rfl (fun ls hl => ?_)
          refine lv_iinc (v := (v5.2 + 1)) (lv' := [(5, .int (v5.2 + 1)), (4, .int j12), (0, .ref (h0 b0)), (1, .int a1), (2, .ref (h2 b2)), (3, .int a3)]) hx hb dL_isWord_65 hl (k := 5) rfl rfl (by decide) rfl (fun ls hl => ?_)
          refine lv_goto (tgt := 25) hx hb dL_isWord_68 (by decide) ?_
          exact hbackv5 _ (Option.some.inj hf).symm ls (lv_sub hl [2, 3, 4, 5, 1, 0] rfl)
        refine lv_icmp_ne (tgt := 62) hx hb dL_isWord_55 (by decide) (fun c13 => ?_) (fun c13 => ?_)
        · have hf := g_if c13 hf
          refine lv_iconst (v := 0) hx hb dL_isWord_62 (by decide) ?_
          obtain rfl := Option.some.inj hf
          exact hJj12 ls (lv_sub hl [0, 1, 2, 3, 5] rfl)
        · have hf := g_it c13 hf
          refine lv_iconst (v := 1) hx hb dL_isWord_58 (by decide) ?_
          refine lv_goto (tgt := 63) hx hb dL_isWord_59 (by decide) ?_
          obtain rfl := Option.some.inj hf
          exact hJj12 ls (lv_sub hl [0, 1, 2, 3, 5] rfl)
  refine lv_icmp_ne (tgt := 19) hx hb dL_isWord_12 (by decide) (fun c4 => ?_) (fun c4 => ?_)
  · have hf := g_if c4 hf
    refine lv_iconst (v := 0) hx hb dL_isWord_19 (by decide) ?_
    obtain rfl := Option.some.inj hf
    exact hJj3 ls (lv_sub hl [0, 1, 2, 3] rfl)
  · have hf := g_it c4 hf
    refine lv_iconst (v := 1) hx hb dL_isWord_15 (by decide) ?_
    refine lv_goto (tgt := 20) hx hb dL_isWord_16 (by decide) ?_
    obtain rfl := Option.some.inj hf
    exact hJj3 ls (lv_sub hl [0, 1, 2, 3] rfl)
set_option maxHeartbeats 4000000 in
set_option maxRecDepth 100000 in
theorem c_L_areAlike {l : Launch} {E : gEnv} (h0 : Nat → Nat) (h1 : Nat → Nat) (b0 : Nat) (w0 : T8) (b1 : Nat) (w1 : T8) {o : Int32 × T0 × T0} (hf : f_L_areAlike w0 w1 = some o) : gM l yL_areAlike cL_areAlike 6 (some .boolean) rL_areAlike E [.ref (h0 b0), .ref (h1 b1)] [C8 E h0 b0, C2 E h0 (b0+1) w0.1, C6 E h0 (b0+3) w0.2.1, C5 E h0 (b0+9) w0.2.2.1.2.2, C6 E h0 ((b0+9)+1) w0.2.2.1.1, C7 E h0 ((b0+9)+7) w0.2.2.1.2.1, C3 E h0 (b0+18) w0.2.2.2.1, C0 E h0 (b0+20) w0.2.2.2.2, C8 E h1 b1, C2 E h1 (b1+1) w1.1, C6 E h1 (b1+3) w1.2.1, C5 E h1 (b1+9) w1.2.2.1.2.2, C6 E h1 ((b1+9)+1) w1.2.2.1.1, C7 E h1 ((b1+9)+7) w1.2.2.1.2.1, C3 E h1 (b1+18) w1.2.2.2.1, C0 E h1 (b1+20) w1.2.2.2.2] (some (.int o.1)) [C8 E h0 b0, C2 E h0 (b0+1) w0.1, C6 E h0 (b0+3) w0.2.1, C5 E h0 (b0+9) w0.2.2.1.2.2, C6 E h0 ((b0+9)+1) w0.2.2.1.1, C7 E h0 ((b0+9)+7) w0.2.2.1.2.1, C3 E h0 (b0+18) w0.2.2.2.1, C0 E h0 (b0+20) o.2.1, C8 E h1 b1, C2 E h1 (b1+1) w1.1, C6 E h1 (b1+3) w1.2.1, C5 E h1 (b1+9) w1.2.2.1.2.2, C6 E h1 ((b1+9)+1) w1.2.2.1.1, C7 E h1 ((b1+9)+7) w1.2.2.1.2.1, C3 E h1 (b1+18) w1.2.2.2.1, C0 E h1 (b1+20) o.2.2] := by
  refine gM.of (by decide +kernel) (Nat.le_of_ble_eq_true rfl) rfl ?_
  intro p e s m below meth c F hr hlk hK hX hAB ls hl H locs hG
  have F : gF p m c cL_areAlike 6 s ([.ref (h0 b0), .ref (h1 b1)] : List Value).toArray RL := F
  generalize ([.ref (h0 b0), .ref (h1 b1)] : List Value).toArray = args at F ⊢
  generalize hQ : MQ below _ _ _ _ _ _ = Q
  generalize hA : gAd [C8 E h0 b0, C2 E h0 (b0+1) w0.1, C6 E h0 (b0+3) w0.2.1, C5 E h0 (b0+9) w0.2.2.1.2.2, C6 E h0 ((b0+9)+1) w0.2.2.1.1, C7 E h0 ((b0+9)+7) w0.2.2.1.2.1, C3 E h0 (b0+18) w0.2.2.2.1, C0 E h0 (b0+20) w0.2.2.2.2, C8 E h1 b1, C2 E h1 (b1+1) w1.1, C6 E h1 (b1+3) w1.2.1, C5 E h1 (b1+9) w1.2.2.1.2.2, C6 E h1 ((b1+9)+1) w1.2.2.1.1, C7 E h1 ((b1+9)+7) w1.2.2.1.2.1, C3 E h1 (b1+18) w1.2.2.2.1, C0 E h1 (b1+20) w1.2.2.2.2] = A at hAB hG
  have hl : lv_has ls 6 [(0, .ref (h0 b0)), (1, .ref (h1 b1))] := hl
  have hx := F.1
  have hb := F.2.1
  unfold f_L_areAlike at hf
  refine lv_aload_n hx hb dL_areAlike_0 rfl (lv_at hl 0 rfl) ?_
  obtain ⟨x1, hx1, hf⟩ := g_bnd hf
  refine g_rv (As := []) (rest := []) F hK (hG.X hX hAB) hG.1 [0, 1, 2, 3, 4, 5, 6, 7] rfl (c_X8_clashing h0 b0 w0 hx1) (kL_74 F.2.2.2.2 ⟨Nat.le_of_ble_eq_true rfl, Nat.le_of_ble_eq_true rfl⟩) rfl rfl rfl rfl hl.1 rfl (lv_room (Nat.le_of_ble_eq_true rfl)) ⟨Nat.zero_le _, Nat.zero_le _⟩ dL_areAlike_1 ?_
  refine lv_aload_n hx hb dL_areAlike_4 rfl (lv_at hl 1 rfl) ?_
  obtain ⟨x2, hx2, hf⟩ := g_bnd hf
  refine g_rv (As := []) (rest := [.int x1]) F hK (hG.X hX hAB) hG.1 [8, 9, 10, 11, 12, 13, 14, 15] rfl (c_X8_clashing h1 b1 w1 hx2) (kL_74 F.2.2.2.2 ⟨Nat.le_of_ble_eq_true rfl, Nat.le_of_ble_eq_true rfl⟩) rfl rfl rfl rfl hl.1 rfl (lv_room (Nat.le_of_ble_eq_true rfl)) ⟨Nat.zero_le _, Nat.zero_le _⟩ dL_areAlike_5 ?_
  obtain ⟨j3, hf, hfj3⟩ := g_bnd hf
  have hJj3 : ∀ (H : Heap) (locs : List Loc), gS E A s.heap [C8 E h0 b0, C2 E h0 (b0+1) w0.1, C6 E h0 (b0+3) w0.2.1, C5 E h0 (b0+9) w0.2.2.1.2.2, C6 E h0 ((b0+9)+1) w0.2.2.1.1, C7 E h0 ((b0+9)+7) w0.2.2.1.2.1, C3 E h0 (b0+18) w0.2.2.2.1, C0 E h0 (b0+20) w0.2.2.2.2, C8 E h1 b1, C2 E h1 (b1+1) w1.1, C6 E h1 (b1+3) w1.2.1, C5 E h1 (b1+9) w1.2.2.1.2.2, C6 E h1 ((b1+9)+1) w1.2.2.1.1, C7 E h1 ((b1+9)+7) w1.2.2.1.2.1, C3 E h1 (b1+18) w1.2.2.2.1, C0 E h1 (b1+20) w1.2.2.2.2] H locs → ∀ ls : Array Slot, lv_has ls 6 [(0, .ref (h0 b0)), (1, .ref (h1 b1))] → W p l e rL_areAlike s m args below meth c H locs 0 0 Q (F0 m 28 ls [.int j3]) := by
    intro H locs hG ls hl
    have hf := hfj3
    refine lv_istore_n (lv' := [(2, .int j3), (0, .ref (h0 b0)), (1, .ref (h1 b1))]) hx hb dL_areAlike_28 rfl hl (by decide) rfl (fun ls hl => ?_)
    refine lv_iconst (v := 0) hx hb dL_areAlike_29 (by decide) ?_
    refine lv_istore_n (lv' := [(3, .int 0), (2, .int j3), (0, .ref (h0 b0)), (1, .ref (h1 b1))]) hx hb dL_areAlike_30 rfl hl (by decide) rfl (fun ls hl => ?_)
    obtain ⟨x9, hx9, hfx9⟩ := g_bnd hf
    have hEx9 : ∀ (H : Heap) (locs : List Loc), gS E A s.heap [C8 E h0 b0, C2 E h0 (b0+1) w0.1, C6 E h0 (b0+3) w0.2.1, C5 E h0 (b0+9) w0.2.2.1.2.2, C6 E h0 ((b0+9)+1) w0.2.2.1.1, C7 E h0 ((b0+9)+7) w0.2.2.1.2.1, C3 E h0 (b0+18) w0.2.2.2.1, C0 E h0 (b0+20) x9.2.1, C8 E h1 b1, C2 E h1 (b1+1) w1.1, C6 E h1 (b1+3) w1.2.1, C5 E h1 (b1+9) w1.2.2.1.2.2, C6 E h1 ((b1+9)+1) w1.2.2.1.1, C7 E h1 ((b1+9)+7) w1.2.2.1.2.1, C3 E h1 (b1+18) w1.2.2.2.1, C0 E h1 (b1+20) x9.2.2] H locs → ∀ ls : Array Slot, lv_has ls 6 [(0, .ref (h0 b0)), (1, .ref (h1 b1)), (2, .int x9.1)] → W p l e rL_areAlike s m args below meth c H locs 0 0 Q (F0 m 66 ls []) := by
      intro H locs hG ls hl
      have hf := hfx9
      refine lv_iconst (v := 0) hx hb dL_areAlike_66 (by decide) ?_
      refine lv_istore_n (lv' := [(3, .int 0), (0, .ref (h0 b0)), (1, .ref (h1 b1)), (2, .int x9.1)]) hx hb dL_areAlike_67 rfl hl (by decide) rfl (fun ls hl => ?_)
      obtain ⟨x17, hx17, hfx17⟩ := g_bnd hf
      have hEx17 : ∀ (H : Heap) (locs : List Loc), gS E A s.heap [C8 E h0 b0, C2 E h0 (b0+1) w0.1, C6 E h0 (b0+3) w0.2.1, C5 E h0 (b0+9) w0.2.2.1.2.2, C6 E h0 ((b0+9)+1) w0.2.2.1.1, C7 E h0 ((b0+9)+7) w0.2.2.1.2.1, C3 E h0 (b0+18) w0.2.2.2.1, C0 E h0 (b0+20) x17.2.1, C8 E h1 b1, C2 E h1 (b1+1) w1.1, C6 E h1 (b1+3) w1.2.1, C5 E h1 (b1+9) w1.2.2.1.2.2, C6 E h1 ((b1+9)+1) w1.2.2.1.1, C7 E h1 ((b1+9)+7) w1.2.2.1.2.1, C3 E h1 (b1+18) w1.2.2.2.1, C0 E h1 (b1+20) x17.2.2] H locs → ∀ ls : Array Slot, lv_has ls 6 [(0, .ref (h0 b0)), (1, .ref (h1 b1)), (2, .int x17.1)] → W p l e rL_areAlike s m args below meth c H locs 0 0 Q (F0 m 104 ls []) := by
        intro H locs hG ls hl
        have hf := hfx17
        refine lv_iconst (v := 0) hx hb dL_areAlike_104 (by decide) ?_
        refine lv_istore_n (lv' := [(3, .int 0), (0, .ref (h0 b0)), (1, .ref (h1 b1)), (2, .int x17.1)]) hx hb dL_areAlike_105 rfl hl (by decide) rfl (fun ls hl => ?_)
        obtain ⟨x25, hx25, hfx25⟩ := g_bnd hf
        have hEx25 : ∀ (H : Heap) (locs : List Loc), gS E A s.heap [C8 E h0 b0, C2 E h0 (b0+1) w0.1, C6 E h0 (b0+3) w0.2.1, C5 E h0 (b0+9) w0.2.2.1.2.2, C6 E h0 ((b0+9)+1) w0.2.2.1.1, C7 E h0 ((b0+9)+7) w0.2.2.1.2.1, C3 E h0 (b0+18) w0.2.2.2.1, C0 E h0 (b0+20) x25.2.1, C8 E h1 b1, C2 E h1 (b1+1) w1.1, C6 E h1 (b1+3) w1.2.1, C5 E h1 (b1+9) w1.2.2.1.2.2, C6 E h1 ((b1+9)+1) w1.2.2.1.1, C7 E h1 ((b1+9)+7) w1.2.2.1.2.1, C3 E h1 (b1+18) w1.2.2.2.1, C0 E h1 (b1+20) x25.2.2] H locs → ∀ ls : Array Slot, lv_has ls 6 [(0, .ref (h0 b0)), (1, .ref (h1 b1)), (2, .int x25.1)] → W p l e rL_areAlike s m args below meth c H locs 0 0 Q (F0 m 141 ls []) := by
          intro H locs hG ls hl
          have hf := hfx25
          refine lv_iconst (v := 0) hx hb dL_areAlike_141 (by decide) ?_
          refine lv_istore_n (lv' := [(3, .int 0), (0, .ref (h0 b0)), (1, .ref (h1 b1)), (2, .int x25.1)]) hx hb dL_areAlike_142 rfl hl (by decide) rfl (fun ls hl => ?_)
          refine lp_rule (fun (v32 : Int32 × Int32 × T0) => ∀ (H : Heap) (locs : List Loc), gS E A s.heap [C8 E h0 b0, C2 E h0 (b0+1) w0.1, C6 E h0 (b0+3) w0.2.1, C5 E h0 (b0+9) w0.2.2.1.2.2, C6 E h0 ((b0+9)+1) w0.2.2.1.1, C7 E h0 ((b0+9)+7) w0.2.2.1.2.1, C3 E h0 (b0+18) w0.2.2.2.1, C0 E h0 (b0+20) v32.2.2, C8 E h1 b1, C2 E h1 (b1+1) w1.1, C6 E h1 (b1+3) w1.2.1, C5 E h1 (b1+9) w1.2.2.1.2.2, C6 E h1 ((b1+9)+1) w1.2.2.1.1, C7 E h1 ((b1+9)+7) w1.2.2.1.2.1, C3 E h1 (b1+18) w1.2.2.2.1, C0 E h1 (b1+20) x25.2.2] H locs → ∀ ls : Array Slot, lv_has ls 6 [(0, .ref (h0 b0)), (1, .ref (h1 b1)), (2, .int v32.1), (3, .int v32.2.1)] → W p l e rL_areAlike s m args below meth c H locs 0 0 Q (F0 m 143 ls [])) ?_ _ _ hf _ _ hG ls (lv_sub hl [1, 2, 3, 0] rfl)
          intro v32 y hf hbackv32 hexitv32 H locs hG ls hl
          refine lv_iload_n hx hb dL_areAlike_143 rfl (lv_at hl 3 rfl) ?_
          refine lv_aload_n hx hb dL_areAlike_144 rfl (lv_at hl 0 rfl) ?_
          refine lv_bipush (v := 9) hx hb dL_areAlike_145 (by decide) ?_
          obtain ⟨x34, hx34, hf⟩ := g_bnd hf
          refine g_mv (S' := [C8 E h0 b0, C2 E h0 (b0+1) w0.1, C6 E h0 (b0+3) w0.2.1, C5 E h0 (b0+9) w0.2.2.1.2.2, C6 E h0 ((b0+9)+1) w0.2.2.1.1, C7 E h0 ((b0+9)+7) w0.2.2.1.2.1, C3 E h0 (b0+18) w0.2.2.2.1, C0 E h0 (b0+20) x34.2, C8 E h1 b1, C2 E h1 (b1+1) w1.1, C6 E h1 (b1+3) w1.2.1, C5 E h1 (b1+9) w1.2.2.1.2.2, C6 E h1 ((b1+9)+1) w1.2.2.1.1, C7 E h1 ((b1+9)+7) w1.2.2.1.2.1, C3 E h1 (b1+18) w1.2.2.2.1, C0 E h1 (b1+20) x25.2.2]) (As := [.int 9]) (rest := [.int v32.2.1]) F hK hX hAB hG [0, 1, 2, 3, 4, 5, 6, 7] rfl rfl (c_X8_setting h0 b0 (w0.1, w0.2.1, w0.2.2.1, w0.2.2.2.1, v32.2.2) 9 (jr_in hx34)) rfl (kL_33 F.2.2.2.2 ⟨Nat.le_of_ble_eq_true rfl, Nat.le_of_ble_eq_true rfl⟩) rfl rfl rfl rfl hl.1 rfl (lv_room (Nat.le_of_ble_eq_true rfl)) ⟨Nat.zero_le _, Nat.zero_le _⟩ dL_areAlike_147 (fun H locs hG => ?_)
          refine lv_icmp_ge (tgt := 243) hx hb dL_areAlike_150 (by decide) (fun c35 => ?_) (fun c35 => ?_)
          · have hf := g_it c35 hf
            refine lv_iload_n hx hb dL_areAlike_243 rfl (lv_at hl 2 rfl) ?_
            obtain ⟨u36, hu36, hf⟩ := g_bnd hf
            have ho := hexitv32 _ (Option.some.inj hf).symm
            subst hA
            rw [← hQ, ← ho]
            exact g_mretZ F hr hlk hG (bz_nar hu36) dL_areAlike_244
          · have hf := g_if c35 hf
            refine lv_iload_n hx hb dL_areAlike_153 rfl (lv_at hl 2 rfl) ?_
            refine lv_if_eq (tgt := 243) hx hb dL_areAlike_154 (by decide) (fun c37 => ?_) (fun c37 => ?_)
            · have hf := g_it c37 hf
              refine lv_iload_n hx hb dL_areAlike_243 rfl (lv_at hl 2 rfl) ?_
              obtain ⟨u38, hu38, hf⟩ := g_bnd hf
              have ho := hexitv32 _ (Option.some.inj hf).symm
              subst hA
              rw [← hQ, ← ho]
              exact g_mretZ F hr hlk hG (bz_nar hu38) dL_areAlike_244
            · have hf := g_if c37 hf
              refine lv_aload_n hx hb dL_areAlike_157 rfl (lv_at hl 0 rfl) ?_
              refine lv_iload_n hx hb dL_areAlike_158 rfl (lv_at hl 3 rfl) ?_
              refine lv_iconst (v := (-1)) hx hb dL_areAlike_159 (by decide) ?_
              obtain ⟨x39, hx39, hf⟩ := g_bnd hf
              refine g_rv (As := [.int v32.2.1, .int (-1)]) (rest := []) F hK (hG.X hX hAB) hG.1 [0, 1, 2, 3, 4, 5, 6, 7] rfl (c_X8_written h0 b0 (w0.1, w0.2.1, w0.2.2.1, w0.2.2.2.1, x34.2) v32.2.1 (-1) (jr_in hx39)) (kL_91 F.2.2.2.2 ⟨Nat.le_of_ble_eq_true rfl, Nat.le_of_ble_eq_true rfl⟩) rfl rfl rfl rfl hl.1 rfl (lv_room (Nat.le_of_ble_eq_true rfl)) ⟨Nat.zero_le _, Nat.zero_le _⟩ dL_areAlike_160 ?_
              refine lv_istore (lv' := [(4, .int x39), (0, .ref (h0 b0)), (1, .ref (h1 b1)), (2, .int v32.1), (3, .int v32.2.1)]) hx hb dL_areAlike_163 hl (by decide) rfl (fun ls hl => ?_)
              refine lv_iload hx hb dL_areAlike_165 (lv_at hl 0 rfl) ?_
              refine lv_aload_n hx hb dL_areAlike_167 rfl (lv_at hl 2 rfl) ?_
              refine lv_iload_n hx hb dL_areAlike_168 rfl (lv_at hl 4 rfl) ?_
              refine lv_iconst (v := (-1)) hx hb dL_areAlike_169 (by decide) ?_
              obtain ⟨x40, hx40, hf⟩ := g_bnd hf
              refine g_rv (As := [.int v32.2.1, .int (-1)]) (rest := [.int x39]) F hK (hG.X hX hAB) hG.1 [8, 9, 10, 11, 12, 13, 14, 15] rfl (c_X8_written h1 b1 (w1.1, w1.2.1, w1.2.2.1, w1.2.2.2.1, x25.2.2) v32.2.1 (-1) (jr_in hx40)) (kL_91 F.2.2.2.2 ⟨Nat.le_of_ble_eq_true rfl, Nat.le_of_ble_eq_true rfl⟩) rfl rfl rfl rfl hl.1 rfl (lv_room (Nat.le_of_ble_eq_true rfl)) ⟨Nat.zero_le _, Nat.zero_le _⟩ dL_areAlike_170 ?_
              obtain ⟨j41, hf, hfj41⟩ := g_bnd hf
              have hJj41 : ∀ (H : Heap) (locs : List Loc), gS E A s.heap [C8 E h0 b0, C2 E h0 (b0+1) w0.1, C6 E h0 (b0+3) w0.2.1, C5 E h0 (b0+9) w0.2.2.1.2.2, C6 E h0 ((b0+9)+1) w0.2.2.1.1, C7 E h0 ((b0+9)+7) w0.2.2.1.2.1, C3 E h0 (b0+18) w0.2.2.2.1, C0 E h0 (b0+20) x34.2, C8 E h1 b1, C2 E h1 (b1+1) w1.1, C6 E h1 (b1+3) w1.2.1, C5 E h1 (b1+9) w1.2.2.1.2.2, C6 E h1 ((b1+9)+1) w1.2.2.1.1, C7 E h1 ((b1+9)+7) w1.2.2.1.2.1, C3 E h1 (b1+18) w1.2.2.2.1, C0 E h1 (b1+20) x25.2.2] H locs → ∀ ls : Array Slot, lv_has ls 6 [(0, .ref (h0 b0)), (1, .ref (h1 b1)), (3, .int v32.2.1), (4, .int x39)] → W p l e rL_areAlike s m args below meth c H locs 0 0 Q (F0 m 193 ls [.int j41]) := by
                intro H locs hG ls hl
                have hf := hfj41
                refine lv_istore_n (lv' := [(2, .int j41), (0, .ref (h0 b0)), (1, .ref (h1 b1)), (3, .int v32.2.1), (4, .int x39)]) hx hb dL_areAlike_193 rfl hl (by decide) rfl (fun ls hl => ?_)
                refine lv_iconst (v := 0) hx hb dL_areAlike_194 (by decide) ?_
                refine lv_istore (lv' := [(5, .int 0), (2, .int j41), (0, .ref (h0 b0)), (1, .ref (h1 b1)), (3, .int v32.2.1), (4, .int x39)]) hx hb dL_areAlike_195 hl (by decide) rfl (fun ls hl => ?_)
                obtain ⟨x46, hx46, hfx46⟩ := g_bnd hf
                have hEx46 : ∀ (H : Heap) (locs : List Loc), gS E A s.heap [C8 E h0 b0, C2 E h0 (b0+1) w0.1, C6 E h0 (b0+3) w0.2.1, C5 E h0 (b0+9) w0.2.2.1.2.2, C6 E h0 ((b0+9)+1) w0.2.2.1.1, C7 E h0 ((b0+9)+7) w0.2.2.1.2.1, C3 E h0 (b0+18) w0.2.2.2.1, C0 E h0 (b0+20) x34.2, C8 E h1 b1, C2 E h1 (b1+1) w1.1, C6 E h1 (b1+3) w1.2.1, C5 E h1 (b1+9) w1.2.2.1.2.2, C6 E h1 ((b1+9)+1) w1.2.2.1.1, C7 E h1 ((b1+9)+7) w1.2.2.1.2.1, C3 E h1 (b1+18) w1.2.2.2.1, C0 E h1 (b1+20) x25.2.2] H locs → ∀ ls : Array Slot, lv_has ls 6 [(0, .ref (h0 b0)), (1, .ref (h1 b1)), (2, .int x46), (3, .int v32.2.1)] → W p l e rL_areAlike s m args below meth c H locs 0 0 Q (F0 m 237 ls []) := by
                  intro H locs hG ls hl
                  have hf := hfx46
                  refine lv_iinc (v := (v32.2.1 + 1)) (lv' := [(3, .int (v32.2.1 + 1)), (0, .ref (h0 b0)), (1, .ref (h1 b1)), (2, .int x46)]) hx hb dL_areAlike_237 hl (k := 3) rfl rfl (by decide) rfl (fun ls hl => ?_)
                  refine lv_goto (tgt := 143) hx hb dL_areAlike_240 (by decide) ?_
                  exact hbackv32 _ (Option.some.inj hf).symm _ _ hG ls (lv_sub hl [1, 2, 3, 0] rfl)
                refine lp_rule (fun (v45 : Int32 × Int32) => ∀ (H : Heap) (locs : List Loc), gS E A s.heap [C8 E h0 b0, C2 E h0 (b0+1) w0.1, C6 E h0 (b0+3) w0.2.1, C5 E h0 (b0+9) w0.2.2.1.2.2, C6 E h0 ((b0+9)+1) w0.2.2.1.1, C7 E h0 ((b0+9)+7) w0.2.2.1.2.1, C3 E h0 (b0+18) w0.2.2.2.1, C0 E h0 (b0+20) x34.2, C8 E h1 b1, C2 E h1 (b1+1) w1.1, C6 E h1 (b1+3) w1.2.1, C5 E h1 (b1+9) w1.2.2.1.2.2, C6 E h1 ((b1+9)+1) w1.2.2.1.1, C7 E h1 ((b1+9)+7) w1.2.2.1.2.1, C3 E h1 (b1+18) w1.2.2.2.1, C0 E h1 (b1+20) x25.2.2] H locs → ∀ ls : Array Slot, lv_has ls 6 [(0, .ref (h0 b0)), (1, .ref (h1 b1)), (2, .int v45.1), (3, .int v32.2.1), (4, .int x39), (5, .int v45.2)] → W p l e rL_areAlike s m args below meth c H locs 0 0 Q (F0 m 197 ls [])) ?_ _ _ hx46 _ _ hG ls (lv_sub hl [2, 3, 1, 4, 5, 0] rfl)
                intro v45 y hf hbackv45 hexitv45 H locs hG ls hl
                refine lv_iload hx hb dL_areAlike_197 (lv_at hl 5 rfl) ?_
                refine lv_iload hx hb dL_areAlike_199 (lv_at hl 4 rfl) ?_
                refine lv_icmp_ge (tgt := 237) hx hb dL_areAlike_201 (by decide) (fun c47 => ?_) (fun c47 => ?_)
                · have hf := g_it c47 hf
                  obtain rfl := hexitv45 _ (Option.some.inj hf).symm
                  exact hEx46 _ _ hG ls (lv_sub hl [0, 1, 2, 3] rfl)
                · have hf := g_if c47 hf
                  refine lv_iload_n hx hb dL_areAlike_204 rfl (lv_at hl 2 rfl) ?_
                  refine lv_if_eq (tgt := 237) hx hb dL_areAlike_205 (by decide) (fun c48 => ?_) (fun c48 => ?_)
                  · have hf := g_it c48 hf
                    obtain rfl := hexitv45 _ (Option.some.inj hf).symm
                    exact hEx46 _ _ hG ls (lv_sub hl [0, 1, 2, 3] rfl)
                  · have hf := g_if c48 hf
                    refine lv_aload_n hx hb dL_areAlike_208 rfl (lv_at hl 0 rfl) ?_
                    refine lv_iload_n hx hb dL_areAlike_209 rfl (lv_at hl 3 rfl) ?_
                    refine lv_iload hx hb dL_areAlike_210 (lv_at hl 5 rfl) ?_
                    obtain ⟨x49, hx49, hf⟩ := g_bnd hf
                    refine g_rv (As := [.int v32.2.1, .int v45.2]) (rest := []) F hK (hG.X hX hAB) hG.1 [0, 1, 2, 3, 4, 5, 6, 7] rfl (c_X8_written h0 b0 (w0.1, w0.2.1, w0.2.2.1, w0.2.2.2.1, x34.2) v32.2.1 v45.2 (jr_in hx49)) (kL_91 F.2.2.2.2 ⟨Nat.le_of_ble_eq_true rfl, Nat.le_of_ble_eq_true rfl⟩) rfl rfl rfl rfl hl.1 rfl (lv_room (Nat.le_of_ble_eq_true rfl)) ⟨Nat.zero_le _, Nat.zero_le _⟩ dL_areAlike_212 ?_
                    refine lv_aload_n hx hb dL_areAlike_215 rfl (lv_at hl 1 rfl) ?_
                    refine lv_iload_n hx hb dL_areAlike_216 rfl (lv_at hl 3 rfl) ?_
                    refine lv_iload hx hb dL_areAlike_217 (lv_at hl 5 rfl) ?_
                    obtain ⟨x50, hx50, hf⟩ := g_bnd hf
                    refine g_rv (As := [.int v32.2.1, .int v45.2]) (rest := [.int x49]) F hK (hG.X hX hAB) hG.1 [8, 9, 10, 11, 12, 13, 14, 15] rfl (c_X8_written h1 b1 (w1.1, w1.2.1, w1.2.2.1, w1.2.2.2.1, x25.2.2) v32.2.1 v45.2 (jr_in hx50)) (kL_91 F.2.2.2.2 ⟨Nat.le_of_ble_eq_true rfl, Nat.le_of_ble_eq_true rfl⟩) rfl rfl rfl rfl hl.1 rfl (lv_room (Nat.le_of_ble_eq_true rfl)) ⟨Nat.zero_le _, Nat.zero_le _⟩ dL_areAlike_219 ?_
                    obtain ⟨j51, hf, hfj51⟩ := g_bnd hf
                    have hJj51 : ∀ (H : Heap) (locs : List Loc), gS E A s.heap [C8 E h0 b0, C2 E h0 (b0+1) w0.1, C6 E h0 (b0+3) w0.2.1, C5 E h0 (b0+9) w0.2.2.1.2.2, C6 E h0 ((b0+9)+1) w0.2.2.1.1, C7 E h0 ((b0+9)+7) w0.2.2.1.2.1, C3 E h0 (b0+18) w0.2.2.2.1, C0 E h0 (b0+20) x34.2, C8 E h1 b1, C2 E h1 (b1+1) w1.1, C6 E h1 (b1+3) w1.2.1, C5 E h1 (b1+9) w1.2.2.1.2.2, C6 E h1 ((b1+9)+1) w1.2.2.1.1, C7 E h1 ((b1+9)+7) w1.2.2.1.2.1, C3 E h1 (b1+18) w1.2.2.2.1, C0 E h1 (b1+20) x25.2.2] H locs → ∀ ls : Array Slot, lv_has ls 6 [(0, .ref (h0 b0)), (1, .ref (h1 b1)), (3, .int v32.2.1), (4, .int x39), (5, .int v45.2)] → W p l e rL_areAlike s m args below meth c H locs 0 0 Q (F0 m 230 ls [.int j51]) := by
                      intro H locs hG ls hl
                      have hf := hfj51
                      refine lv_istore_n (lv' := [(2, .int j51), (0, .ref (h0 b0)), (1, .ref (h1 b1)), (3, .int v32.2.1), (4, .int x39), (5, .int v45.2)]) hx hb dL_areAlike_230 rfl hl (by decide) rfl (fun ls hl => ?_)
                      refine lv_iinc (v := (v45.2 + 1)) (lv' := [(5, .int (v45.2 + 1)), (2, .int j51), (0, .ref (h0 b0)), (1, .ref (h1 b1)), (3, .int v32.2.1), (4, .int x39)]) hx hb dL_areAlike_231 hl (k := 5) rfl rfl (by decide) rfl (fun ls hl => ?_)
                      refine lv_goto (tgt := 197) hx hb dL_areAlike_234 (by decide) ?_
                      exact hbackv45 _ (Option.some.inj hf).symm _ _ hG ls (lv_sub hl [2, 3, 1, 4, 5, 0] rfl)
                    refine lv_icmp_ne (tgt := 229) hx hb dL_areAlike_222 (by decide) (fun c52 => ?_) (fun c52 => ?_)
                    · have hf := g_if c52 hf
                      refine lv_iconst (v := 0) hx hb dL_areAlike_229 (by decide) ?_
                      obtain rfl := Option.some.inj hf
                      exact hJj51 _ _ hG ls (lv_sub hl [0, 1, 3, 4, 5] rfl)
                    · have hf := g_it c52 hf
                      refine lv_iconst (v := 1) hx hb dL_areAlike_225 (by decide) ?_
                      refine lv_goto (tgt := 230) hx hb dL_areAlike_226 (by decide) ?_
                      obtain rfl := Option.some.inj hf
                      exact hJj51 _ _ hG ls (lv_sub hl [0, 1, 3, 4, 5] rfl)
              refine lv_icmp_ne (tgt := 192) hx hb dL_areAlike_173 (by decide) (fun c42 => ?_) (fun c42 => ?_)
              · have hf := g_if c42 hf
                refine lv_iconst (v := 0) hx hb dL_areAlike_192 (by decide) ?_
                obtain rfl := Option.some.inj hf
                exact hJj41 _ _ hG ls (lv_sub hl [1, 2, 4, 0] rfl)
              · have hf := g_it c42 hf
                refine lv_iload hx hb dL_areAlike_176 (lv_at hl 0 rfl) ?_
                refine lv_if_le (tgt := 192) hx hb dL_areAlike_178 (by decide) (fun c43 => ?_) (fun c43 => ?_)
                · have hf := g_it c43 hf
                  refine lv_iconst (v := 0) hx hb dL_areAlike_192 (by decide) ?_
                  obtain rfl := Option.some.inj hf
                  exact hJj41 _ _ hG ls (lv_sub hl [1, 2, 4, 0] rfl)
                · have hf := g_if c43 hf
                  refine lv_iload hx hb dL_areAlike_181 (lv_at hl 0 rfl) ?_
                  refine lv_bipush (v := 10) hx hb dL_areAlike_183 (by decide) ?_
                  refine lv_icmp_gt (tgt := 192) hx hb dL_areAlike_185 (by decide) (fun c44 => ?_) (fun c44 => ?_)
                  · have hf := g_it c44 hf
                    refine lv_iconst (v := 0) hx hb dL_areAlike_192 (by decide) ?_
                    obtain rfl := Option.some.inj hf
                    exact hJj41 _ _ hG ls (lv_sub hl [1, 2, 4, 0] rfl)
                  · have hf := g_if c44 hf
                    refine lv_iconst (v := 1) hx hb dL_areAlike_188 (by decide) ?_
                    refine lv_goto (tgt := 193) hx hb dL_areAlike_189 (by decide) ?_
                    obtain rfl := Option.some.inj hf
                    exact hJj41 _ _ hG ls (lv_sub hl [1, 2, 4, 0] rfl)
        refine lp_rule (fun (v24 : Int32 × Int32 × T0 × T0) => ∀ (H : Heap) (locs : List Loc), gS E A s.heap [C8 E h0 b0, C2 E h0 (b0+1) w0.1, C6 E h0 (b0+3) w0.2.1, C5 E h0 (b0+9) w0.2.2.1.2.2, C6 E h0 ((b0+9)+1) w0.2.2.1.1, C7 E h0 ((b0+9)+7) w0.2.2.1.2.1, C3 E h0 (b0+18) w0.2.2.2.1, C0 E h0 (b0+20) v24.2.2.1, C8 E h1 b1, C2 E h1 (b1+1) w1.1, C6 E h1 (b1+3) w1.2.1, C5 E h1 (b1+9) w1.2.2.1.2.2, C6 E h1 ((b1+9)+1) w1.2.2.1.1, C7 E h1 ((b1+9)+7) w1.2.2.1.2.1, C3 E h1 (b1+18) w1.2.2.2.1, C0 E h1 (b1+20) v24.2.2.2] H locs → ∀ ls : Array Slot, lv_has ls 6 [(0, .ref (h0 b0)), (1, .ref (h1 b1)), (2, .int v24.1), (3, .int v24.2.1)] → W p l e rL_areAlike s m args below meth c H locs 0 0 Q (F0 m 106 ls [])) ?_ _ _ hx25 _ _ hG ls (lv_sub hl [1, 2, 3, 0] rfl)
        intro v24 y hf hbackv24 hexitv24 H locs hG ls hl
        refine lv_iload_n hx hb dL_areAlike_106 rfl (lv_at hl 3 rfl) ?_
        refine lv_bipush (v := 11) hx hb dL_areAlike_107 (by decide) ?_
        refine lv_icmp_ge (tgt := 141) hx hb dL_areAlike_109 (by decide) (fun c26 => ?_) (fun c26 => ?_)
        · have hf := g_it c26 hf
          obtain rfl := hexitv24 _ (Option.some.inj hf).symm
          exact hEx25 _ _ hG ls (lv_sub hl [0, 1, 2] rfl)
        · have hf := g_if c26 hf
          refine lv_iload_n hx hb dL_areAlike_112 rfl (lv_at hl 2 rfl) ?_
          obtain ⟨j27, hf, hfj27⟩ := g_bnd hf
          have hJj27 : ∀ (H : Heap) (locs : List Loc), gS E A s.heap [C8 E h0 b0, C2 E h0 (b0+1) w0.1, C6 E h0 (b0+3) w0.2.1, C5 E h0 (b0+9) w0.2.2.1.2.2, C6 E h0 ((b0+9)+1) w0.2.2.1.1, C7 E h0 ((b0+9)+7) w0.2.2.1.2.1, C3 E h0 (b0+18) w0.2.2.2.1, C0 E h0 (b0+20) j27.2.1, C8 E h1 b1, C2 E h1 (b1+1) w1.1, C6 E h1 (b1+3) w1.2.1, C5 E h1 (b1+9) w1.2.2.1.2.2, C6 E h1 ((b1+9)+1) w1.2.2.1.1, C7 E h1 ((b1+9)+7) w1.2.2.1.2.1, C3 E h1 (b1+18) w1.2.2.2.1, C0 E h1 (b1+20) j27.2.2] H locs → ∀ ls : Array Slot, lv_has ls 6 [(0, .ref (h0 b0)), (1, .ref (h1 b1)), (3, .int v24.2.1)] → W p l e rL_areAlike s m args below meth c H locs 0 0 Q (F0 m 134 ls [.int j27.1]) := by
            intro H locs hG ls hl
            have hf := hfj27
            refine lv_istore_n (lv' := [(2, .int j27.1), (0, .ref (h0 b0)), (1, .ref (h1 b1)), (3, .int v24.2.1)]) hx hb dL_areAlike_134 rfl hl (by decide) rfl (fun ls hl => ?_)
            refine lv_iinc (v := (v24.2.1 + 1)) (lv' := [(3, .int (v24.2.1 + 1)), (2, .int j27.1), (0, .ref (h0 b0)), (1, .ref (h1 b1))]) hx hb dL_areAlike_135 hl (k := 3) rfl rfl (by decide) rfl (fun ls hl => ?_)
            refine lv_goto (tgt := 106) hx hb dL_areAlike_138 (by decide) ?_
            exact hbackv24 _ (Option.some.inj hf).symm _ _ hG ls (lv_sub hl [2, 3, 1, 0] rfl)
          refine lv_if_eq (tgt := 133) hx hb dL_areAlike_113 (by decide) (fun c28 => ?_) (fun c28 => ?_)
          · have hf := g_it c28 hf
            refine lv_iconst (v := 0) hx hb dL_areAlike_133 (by decide) ?_
            obtain rfl := Option.some.inj hf
            exact hJj27 _ _ hG ls (lv_sub hl [0, 1, 3] rfl)
          · have hf := g_if c28 hf
            refine lv_aload_n hx hb dL_areAlike_116 rfl (lv_at hl 0 rfl) ?_
            refine lv_iload_n hx hb dL_areAlike_117 rfl (lv_at hl 3 rfl) ?_
            obtain ⟨x29, hx29, hf⟩ := g_bnd hf
            refine g_mv (S' := [C8 E h0 b0, C2 E h0 (b0+1) w0.1, C6 E h0 (b0+3) w0.2.1, C5 E h0 (b0+9) w0.2.2.1.2.2, C6 E h0 ((b0+9)+1) w0.2.2.1.1, C7 E h0 ((b0+9)+7) w0.2.2.1.2.1, C3 E h0 (b0+18) w0.2.2.2.1, C0 E h0 (b0+20) x29.2, C8 E h1 b1, C2 E h1 (b1+1) w1.1, C6 E h1 (b1+3) w1.2.1, C5 E h1 (b1+9) w1.2.2.1.2.2, C6 E h1 ((b1+9)+1) w1.2.2.1.1, C7 E h1 ((b1+9)+7) w1.2.2.1.2.1, C3 E h1 (b1+18) w1.2.2.2.1, C0 E h1 (b1+20) v24.2.2.2]) (As := [.int v24.2.1]) (rest := []) F hK hX hAB hG [0, 1, 2, 3, 4, 5, 6, 7] rfl rfl (c_X8_display h0 b0 (w0.1, w0.2.1, w0.2.2.1, w0.2.2.2.1, v24.2.2.1) v24.2.1 (jr_in hx29)) rfl (kL_88 F.2.2.2.2 ⟨Nat.le_of_ble_eq_true rfl, Nat.le_of_ble_eq_true rfl⟩) rfl rfl rfl rfl hl.1 rfl (lv_room (Nat.le_of_ble_eq_true rfl)) ⟨Nat.zero_le _, Nat.zero_le _⟩ dL_areAlike_118 (fun H locs hG => ?_)
            refine lv_aload_n hx hb dL_areAlike_121 rfl (lv_at hl 1 rfl) ?_
            refine lv_iload_n hx hb dL_areAlike_122 rfl (lv_at hl 3 rfl) ?_
            obtain ⟨x30, hx30, hf⟩ := g_bnd hf
            refine g_mv (S' := [C8 E h0 b0, C2 E h0 (b0+1) w0.1, C6 E h0 (b0+3) w0.2.1, C5 E h0 (b0+9) w0.2.2.1.2.2, C6 E h0 ((b0+9)+1) w0.2.2.1.1, C7 E h0 ((b0+9)+7) w0.2.2.1.2.1, C3 E h0 (b0+18) w0.2.2.2.1, C0 E h0 (b0+20) x29.2, C8 E h1 b1, C2 E h1 (b1+1) w1.1, C6 E h1 (b1+3) w1.2.1, C5 E h1 (b1+9) w1.2.2.1.2.2, C6 E h1 ((b1+9)+1) w1.2.2.1.1, C7 E h1 ((b1+9)+7) w1.2.2.1.2.1, C3 E h1 (b1+18) w1.2.2.2.1, C0 E h1 (b1+20) x30.2]) (As := [.int v24.2.1]) (rest := [.int x29.1]) F hK hX hAB hG [8, 9, 10, 11, 12, 13, 14, 15] rfl rfl (c_X8_display h1 b1 (w1.1, w1.2.1, w1.2.2.1, w1.2.2.2.1, v24.2.2.2) v24.2.1 (jr_in hx30)) rfl (kL_88 F.2.2.2.2 ⟨Nat.le_of_ble_eq_true rfl, Nat.le_of_ble_eq_true rfl⟩) rfl rfl rfl rfl hl.1 rfl (lv_room (Nat.le_of_ble_eq_true rfl)) ⟨Nat.zero_le _, Nat.zero_le _⟩ dL_areAlike_123 (fun H locs hG => ?_)
            refine lv_icmp_ne (tgt := 133) hx hb dL_areAlike_126 (by decide) (fun c31 => ?_) (fun c31 => ?_)
            · have hf := g_if c31 hf
              refine lv_iconst (v := 0) hx hb dL_areAlike_133 (by decide) ?_
              obtain rfl := Option.some.inj hf
              exact hJj27 _ _ hG ls (lv_sub hl [0, 1, 3] rfl)
            · have hf := g_it c31 hf
              refine lv_iconst (v := 1) hx hb dL_areAlike_129 (by decide) ?_
              refine lv_goto (tgt := 134) hx hb dL_areAlike_130 (by decide) ?_
              obtain rfl := Option.some.inj hf
              exact hJj27 _ _ hG ls (lv_sub hl [0, 1, 3] rfl)
      refine lp_rule (fun (v16 : Int32 × Int32 × T0 × T0) => ∀ (H : Heap) (locs : List Loc), gS E A s.heap [C8 E h0 b0, C2 E h0 (b0+1) w0.1, C6 E h0 (b0+3) w0.2.1, C5 E h0 (b0+9) w0.2.2.1.2.2, C6 E h0 ((b0+9)+1) w0.2.2.1.1, C7 E h0 ((b0+9)+7) w0.2.2.1.2.1, C3 E h0 (b0+18) w0.2.2.2.1, C0 E h0 (b0+20) v16.2.2.1, C8 E h1 b1, C2 E h1 (b1+1) w1.1, C6 E h1 (b1+3) w1.2.1, C5 E h1 (b1+9) w1.2.2.1.2.2, C6 E h1 ((b1+9)+1) w1.2.2.1.1, C7 E h1 ((b1+9)+7) w1.2.2.1.2.1, C3 E h1 (b1+18) w1.2.2.2.1, C0 E h1 (b1+20) v16.2.2.2] H locs → ∀ ls : Array Slot, lv_has ls 6 [(0, .ref (h0 b0)), (1, .ref (h1 b1)), (2, .int v16.1), (3, .int v16.2.1)] → W p l e rL_areAlike s m args below meth c H locs 0 0 Q (F0 m 68 ls [])) ?_ _ _ hx17 _ _ hG ls (lv_sub hl [1, 2, 3, 0] rfl)
      intro v16 y hf hbackv16 hexitv16 H locs hG ls hl
      refine lv_iload_n hx hb dL_areAlike_68 rfl (lv_at hl 3 rfl) ?_
      refine lv_aload_n hx hb dL_areAlike_69 rfl (lv_at hl 0 rfl) ?_
      refine lv_bipush (v := 7) hx hb dL_areAlike_70 (by decide) ?_
      obtain ⟨x18, hx18, hf⟩ := g_bnd hf
      refine g_mv (S' := [C8 E h0 b0, C2 E h0 (b0+1) w0.1, C6 E h0 (b0+3) w0.2.1, C5 E h0 (b0+9) w0.2.2.1.2.2, C6 E h0 ((b0+9)+1) w0.2.2.1.1, C7 E h0 ((b0+9)+7) w0.2.2.1.2.1, C3 E h0 (b0+18) w0.2.2.2.1, C0 E h0 (b0+20) x18.2, C8 E h1 b1, C2 E h1 (b1+1) w1.1, C6 E h1 (b1+3) w1.2.1, C5 E h1 (b1+9) w1.2.2.1.2.2, C6 E h1 ((b1+9)+1) w1.2.2.1.1, C7 E h1 ((b1+9)+7) w1.2.2.1.2.1, C3 E h1 (b1+18) w1.2.2.2.1, C0 E h1 (b1+20) v16.2.2.2]) (As := [.int 7]) (rest := [.int v16.2.1]) F hK hX hAB hG [0, 1, 2, 3, 4, 5, 6, 7] rfl rfl (c_X8_setting h0 b0 (w0.1, w0.2.1, w0.2.2.1, w0.2.2.2.1, v16.2.2.1) 7 (jr_in hx18)) rfl (kL_33 F.2.2.2.2 ⟨Nat.le_of_ble_eq_true rfl, Nat.le_of_ble_eq_true rfl⟩) rfl rfl rfl rfl hl.1 rfl (lv_room (Nat.le_of_ble_eq_true rfl)) ⟨Nat.zero_le _, Nat.zero_le _⟩ dL_areAlike_72 (fun H locs hG => ?_)
      refine lv_icmp_ge (tgt := 104) hx hb dL_areAlike_75 (by decide) (fun c19 => ?_) (fun c19 => ?_)
      · have hf := g_it c19 hf
        obtain rfl := hexitv16 _ (Option.some.inj hf).symm
        exact hEx17 _ _ hG ls (lv_sub hl [0, 1, 2] rfl)
      · have hf := g_if c19 hf
        refine lv_iload_n hx hb dL_areAlike_78 rfl (lv_at hl 2 rfl) ?_
        refine lv_if_eq (tgt := 104) hx hb dL_areAlike_79 (by decide) (fun c20 => ?_) (fun c20 => ?_)
        · have hf := g_it c20 hf
          obtain rfl := hexitv16 _ (Option.some.inj hf).symm
          exact hEx17 _ _ hG ls (lv_sub hl [0, 1, 2] rfl)
        · have hf := g_if c20 hf
          refine lv_aload_n hx hb dL_areAlike_82 rfl (lv_at hl 0 rfl) ?_
          refine lv_aload_n hx hb dL_areAlike_83 rfl (lv_at hl 0 rfl) ?_
          refine lv_iload_n hx hb dL_areAlike_84 rfl (lv_at hl 3 rfl) ?_
          obtain ⟨x21, hx21, hf⟩ := g_bnd hf
          refine g_mv (S' := [C8 E h0 b0, C2 E h0 (b0+1) w0.1, C6 E h0 (b0+3) w0.2.1, C5 E h0 (b0+9) w0.2.2.1.2.2, C6 E h0 ((b0+9)+1) w0.2.2.1.1, C7 E h0 ((b0+9)+7) w0.2.2.1.2.1, C3 E h0 (b0+18) w0.2.2.2.1, C0 E h0 (b0+20) x21.2, C8 E h1 b1, C2 E h1 (b1+1) w1.1, C6 E h1 (b1+3) w1.2.1, C5 E h1 (b1+9) w1.2.2.1.2.2, C6 E h1 ((b1+9)+1) w1.2.2.1.1, C7 E h1 ((b1+9)+7) w1.2.2.1.2.1, C3 E h1 (b1+18) w1.2.2.2.1, C0 E h1 (b1+20) v16.2.2.2]) (As := [.int v16.2.1]) (rest := [.ref (h0 b0)]) F hK hX hAB hG [0, 1, 2, 3, 4, 5, 6, 7] rfl rfl (c_X8_candidate h0 b0 (w0.1, w0.2.1, w0.2.2.1, w0.2.2.2.1, x18.2) v16.2.1 (jr_in hx21)) rfl (kL_81 F.2.2.2.2 ⟨Nat.le_of_ble_eq_true rfl, Nat.le_of_ble_eq_true rfl⟩) rfl rfl rfl rfl hl.1 rfl (lv_room (Nat.le_of_ble_eq_true rfl)) ⟨Nat.zero_le _, Nat.zero_le _⟩ dL_areAlike_85 (fun H locs hG => ?_)
          refine lv_aload_n hx hb dL_areAlike_88 rfl (lv_at hl 1 rfl) ?_
          refine lv_aload_n hx hb dL_areAlike_89 rfl (lv_at hl 1 rfl) ?_
          refine lv_iload_n hx hb dL_areAlike_90 rfl (lv_at hl 3 rfl) ?_
          obtain ⟨x22, hx22, hf⟩ := g_bnd hf
          refine g_mv (S' := [C8 E h0 b0, C2 E h0 (b0+1) w0.1, C6 E h0 (b0+3) w0.2.1, C5 E h0 (b0+9) w0.2.2.1.2.2, C6 E h0 ((b0+9)+1) w0.2.2.1.1, C7 E h0 ((b0+9)+7) w0.2.2.1.2.1, C3 E h0 (b0+18) w0.2.2.2.1, C0 E h0 (b0+20) x21.2, C8 E h1 b1, C2 E h1 (b1+1) w1.1, C6 E h1 (b1+3) w1.2.1, C5 E h1 (b1+9) w1.2.2.1.2.2, C6 E h1 ((b1+9)+1) w1.2.2.1.1, C7 E h1 ((b1+9)+7) w1.2.2.1.2.1, C3 E h1 (b1+18) w1.2.2.2.1, C0 E h1 (b1+20) x22.2]) (As := [.int v16.2.1]) (rest := [.ref (h1 b1), .int x21.1, .ref (h0 b0)]) F hK hX hAB hG [8, 9, 10, 11, 12, 13, 14, 15] rfl rfl (c_X8_candidate h1 b1 (w1.1, w1.2.1, w1.2.2.1, w1.2.2.2.1, v16.2.2.2) v16.2.1 (jr_in hx22)) rfl (kL_81 F.2.2.2.2 ⟨Nat.le_of_ble_eq_true rfl, Nat.le_of_ble_eq_true rfl⟩) rfl rfl rfl rfl hl.1 rfl (lv_room (Nat.le_of_ble_eq_true rfl)) ⟨Nat.zero_le _, Nat.zero_le _⟩ dL_areAlike_91 (fun H locs hG => ?_)
          obtain ⟨x23, hx23, hf⟩ := g_bnd hf
          refine g_rs (As := [.ref (h0 b0), .int x21.1, .ref (h1 b1), .int x22.1]) (rest := []) F hK (hG.X hX hAB) hG.1 [0, 1, 2, 3, 4, 5, 6, 7, 8, 9, 10, 11, 12, 13, 14, 15] rfl (c_L_isWord h0 h1 b0 (w0.1, w0.2.1, w0.2.2.1, w0.2.2.2.1, x21.2) x21.1 b1 (w1.1, w1.2.1, w1.2.2.1, w1.2.2.2.1, x22.2) x22.1 hx23) (kL_84 F.2.2.2.2 ⟨Nat.le_of_ble_eq_true rfl, Nat.le_of_ble_eq_true rfl⟩) rfl hl.1 rfl (lv_room (Nat.le_of_ble_eq_true rfl)) ⟨Nat.zero_le _, Nat.zero_le _⟩ dL_areAlike_94 ?_
          refine lv_istore_n (lv' := [(2, .int x23), (0, .ref (h0 b0)), (1, .ref (h1 b1)), (3, .int v16.2.1)]) hx hb dL_areAlike_97 rfl hl (by decide) rfl (fun ls hl => ?_)
          refine lv_iinc (v := (v16.2.1 + 1)) (lv' := [(3, .int (v16.2.1 + 1)), (2, .int x23), (0, .ref (h0 b0)), (1, .ref (h1 b1))]) hx hb dL_areAlike_98 hl (k := 3) rfl rfl (by decide) rfl (fun ls hl => ?_)
          refine lv_goto (tgt := 68) hx hb dL_areAlike_101 (by decide) ?_
          exact hbackv16 _ (Option.some.inj hf).symm _ _ hG ls (lv_sub hl [2, 3, 1, 0] rfl)
    refine lp_rule (fun (v8 : Int32 × Int32 × T0 × T0) => ∀ (H : Heap) (locs : List Loc), gS E A s.heap [C8 E h0 b0, C2 E h0 (b0+1) w0.1, C6 E h0 (b0+3) w0.2.1, C5 E h0 (b0+9) w0.2.2.1.2.2, C6 E h0 ((b0+9)+1) w0.2.2.1.1, C7 E h0 ((b0+9)+7) w0.2.2.1.2.1, C3 E h0 (b0+18) w0.2.2.2.1, C0 E h0 (b0+20) v8.2.2.1, C8 E h1 b1, C2 E h1 (b1+1) w1.1, C6 E h1 (b1+3) w1.2.1, C5 E h1 (b1+9) w1.2.2.1.2.2, C6 E h1 ((b1+9)+1) w1.2.2.1.1, C7 E h1 ((b1+9)+7) w1.2.2.1.2.1, C3 E h1 (b1+18) w1.2.2.2.1, C0 E h1 (b1+20) v8.2.2.2] H locs → ∀ ls : Array Slot, lv_has ls 6 [(0, .ref (h0 b0)), (1, .ref (h1 b1)), (2, .int v8.1), (3, .int v8.2.1)] → W p l e rL_areAlike s m args below meth c H locs 0 0 Q (F0 m 31 ls [])) ?_ _ _ hx9 _ _ hG ls (lv_sub hl [2, 3, 1, 0] rfl)
    intro v8 y hf hbackv8 hexitv8 H locs hG ls hl
    refine lv_iload_n hx hb dL_areAlike_31 rfl (lv_at hl 3 rfl) ?_
    refine lv_bipush (v := 11) hx hb dL_areAlike_32 (by decide) ?_
    refine lv_icmp_ge (tgt := 66) hx hb dL_areAlike_34 (by decide) (fun c10 => ?_) (fun c10 => ?_)
    · have hf := g_it c10 hf
      obtain rfl := hexitv8 _ (Option.some.inj hf).symm
      exact hEx9 _ _ hG ls (lv_sub hl [0, 1, 2] rfl)
    · have hf := g_if c10 hf
      refine lv_iload_n hx hb dL_areAlike_37 rfl (lv_at hl 2 rfl) ?_
      obtain ⟨j11, hf, hfj11⟩ := g_bnd hf
      have hJj11 : ∀ (H : Heap) (locs : List Loc), gS E A s.heap [C8 E h0 b0, C2 E h0 (b0+1) w0.1, C6 E h0 (b0+3) w0.2.1, C5 E h0 (b0+9) w0.2.2.1.2.2, C6 E h0 ((b0+9)+1) w0.2.2.1.1, C7 E h0 ((b0+9)+7) w0.2.2.1.2.1, C3 E h0 (b0+18) w0.2.2.2.1, C0 E h0 (b0+20) j11.2.1, C8 E h1 b1, C2 E h1 (b1+1) w1.1, C6 E h1 (b1+3) w1.2.1, C5 E h1 (b1+9) w1.2.2.1.2.2, C6 E h1 ((b1+9)+1) w1.2.2.1.1, C7 E h1 ((b1+9)+7) w1.2.2.1.2.1, C3 E h1 (b1+18) w1.2.2.2.1, C0 E h1 (b1+20) j11.2.2] H locs → ∀ ls : Array Slot, lv_has ls 6 [(0, .ref (h0 b0)), (1, .ref (h1 b1)), (3, .int v8.2.1)] → W p l e rL_areAlike s m args below meth c H locs 0 0 Q (F0 m 59 ls [.int j11.1]) := by
        intro H locs hG ls hl
        have hf := hfj11
        refine lv_istore_n (lv' := [(2, .int j11.1), (0, .ref (h0 b0)), (1, .ref (h1 b1)), (3, .int v8.2.1)]) hx hb dL_areAlike_59 rfl hl (by decide) rfl (fun ls hl => ?_)
        refine lv_iinc (v := (v8.2.1 + 1)) (lv' := [(3, .int (v8.2.1 + 1)), (2, .int j11.1), (0, .ref (h0 b0)), (1, .ref (h1 b1))]) hx hb dL_areAlike_60 hl (k := 3) rfl rfl (by decide) rfl (fun ls hl => ?_)
        refine lv_goto (tgt := 31) hx hb dL_areAlike_63 (by decide) ?_
        exact hbackv8 _ (Option.some.inj hf).symm _ _ hG ls (lv_sub hl [2, 3, 1, 0] rfl)
      refine lv_if_eq (tgt := 58) hx hb dL_areAlike_38 (by decide) (fun c12 => ?_) (fun c12 => ?_)
      · have hf := g_it c12 hf
        refine lv_iconst (v := 0) hx hb dL_areAlike_58 (by decide) ?_
        obtain rfl := Option.some.inj hf
        exact hJj11 _ _ hG ls (lv_sub hl [0, 1, 3] rfl)
      · have hf := g_if c12 hf
        refine lv_aload_n hx hb dL_areAlike_41 rfl (lv_at hl 0 rfl) ?_
        refine lv_iload_n hx hb dL_areAlike_42 rfl (lv_at hl 3 rfl) ?_
        obtain ⟨x13, hx13, hf⟩ := g_bnd hf
        refine g_mv (S' := [C8 E h0 b0, C2 E h0 (b0+1) w0.1, C6 E h0 (b0+3) w0.2.1, C5 E h0 (b0+9) w0.2.2.1.2.2, C6 E h0 ((b0+9)+1) w0.2.2.1.1, C7 E h0 ((b0+9)+7) w0.2.2.1.2.1, C3 E h0 (b0+18) w0.2.2.2.1, C0 E h0 (b0+20) x13.2, C8 E h1 b1, C2 E h1 (b1+1) w1.1, C6 E h1 (b1+3) w1.2.1, C5 E h1 (b1+9) w1.2.2.1.2.2, C6 E h1 ((b1+9)+1) w1.2.2.1.1, C7 E h1 ((b1+9)+7) w1.2.2.1.2.1, C3 E h1 (b1+18) w1.2.2.2.1, C0 E h1 (b1+20) v8.2.2.2]) (As := [.int v8.2.1]) (rest := []) F hK hX hAB hG [0, 1, 2, 3, 4, 5, 6, 7] rfl rfl (c_X8_setting h0 b0 (w0.1, w0.2.1, w0.2.2.1, w0.2.2.2.1, v8.2.2.1) v8.2.1 (jr_in hx13)) rfl (kL_33 F.2.2.2.2 ⟨Nat.le_of_ble_eq_true rfl, Nat.le_of_ble_eq_true rfl⟩) rfl rfl rfl rfl hl.1 rfl (lv_room (Nat.le_of_ble_eq_true rfl)) ⟨Nat.zero_le _, Nat.zero_le _⟩ dL_areAlike_43 (fun H locs hG => ?_)
        refine lv_aload_n hx hb dL_areAlike_46 rfl (lv_at hl 1 rfl) ?_
        refine lv_iload_n hx hb dL_areAlike_47 rfl (lv_at hl 3 rfl) ?_
        obtain ⟨x14, hx14, hf⟩ := g_bnd hf
        refine g_mv (S' := [C8 E h0 b0, C2 E h0 (b0+1) w0.1, C6 E h0 (b0+3) w0.2.1, C5 E h0 (b0+9) w0.2.2.1.2.2, C6 E h0 ((b0+9)+1) w0.2.2.1.1, C7 E h0 ((b0+9)+7) w0.2.2.1.2.1, C3 E h0 (b0+18) w0.2.2.2.1, C0 E h0 (b0+20) x13.2, C8 E h1 b1, C2 E h1 (b1+1) w1.1, C6 E h1 (b1+3) w1.2.1, C5 E h1 (b1+9) w1.2.2.1.2.2, C6 E h1 ((b1+9)+1) w1.2.2.1.1, C7 E h1 ((b1+9)+7) w1.2.2.1.2.1, C3 E h1 (b1+18) w1.2.2.2.1, C0 E h1 (b1+20) x14.2]) (As := [.int v8.2.1]) (rest := [.int x13.1]) F hK hX hAB hG [8, 9, 10, 11, 12, 13, 14, 15] rfl rfl (c_X8_setting h1 b1 (w1.1, w1.2.1, w1.2.2.1, w1.2.2.2.1, v8.2.2.2) v8.2.1 (jr_in hx14)) rfl (kL_33 F.2.2.2.2 ⟨Nat.le_of_ble_eq_true rfl, Nat.le_of_ble_eq_true rfl⟩) rfl rfl rfl rfl hl.1 rfl (lv_room (Nat.le_of_ble_eq_true rfl)) ⟨Nat.zero_le _, Nat.zero_le _⟩ dL_areAlike_48 (fun H locs hG => ?_)
        refine lv_icmp_ne (tgt := 58) hx hb dL_areAlike_51 (by decide) (fun c15 => ?_) (fun c15 => ?_)
        · have hf := g_if c15 hf
          refine lv_iconst (v := 0) hx hb dL_areAlike_58 (by decide) ?_
          obtain rfl := Option.some.inj hf
          exact hJj11 _ _ hG ls (lv_sub hl [0, 1, 3] rfl)
        · have hf := g_it c15 hf
          refine lv_iconst (v := 1) hx hb dL_areAlike_54 (by decide) ?_
          refine lv_goto (tgt := 59) hx hb dL_areAlike_55 (by decide) ?_
          obtain rfl := Option.some.inj hf
          exact hJj11 _ _ hG ls (lv_sub hl [0, 1, 3] rfl)
  refine lv_icmp_ne (tgt := 27) hx hb dL_areAlike_8 (by decide) (fun c4 => ?_) (fun c4 => ?_)
  · have hf := g_if c4 hf
    refine lv_iconst (v := 0) hx hb dL_areAlike_27 (by decide) ?_
    obtain rfl := Option.some.inj hf
    exact hJj3 _ _ hG ls (lv_sub hl [0, 1] rfl)
  · have hf := g_it c4 hf
    refine lv_aload_n hx hb dL_areAlike_11 rfl (lv_at hl 0 rfl) ?_
    obtain ⟨x5, hx5, hf⟩ := g_bnd hf
    refine g_rv (As := []) (rest := []) F hK (hG.X hX hAB) hG.1 [0, 1, 2, 3, 4, 5, 6, 7] rfl (c_X8_saving h0 b0 w0 hx5) (kL_77 F.2.2.2.2 ⟨Nat.le_of_ble_eq_true rfl, Nat.le_of_ble_eq_true rfl⟩) rfl rfl rfl rfl hl.1 rfl (lv_room (Nat.le_of_ble_eq_true rfl)) ⟨Nat.zero_le _, Nat.zero_le _⟩ dL_areAlike_12 ?_
    refine lv_aload_n hx hb dL_areAlike_15 rfl (lv_at hl 1 rfl) ?_
    obtain ⟨x6, hx6, hf⟩ := g_bnd hf
    refine g_rv (As := []) (rest := [.double x5]) F hK (hG.X hX hAB) hG.1 [8, 9, 10, 11, 12, 13, 14, 15] rfl (c_X8_saving h1 b1 w1 hx6) (kL_77 F.2.2.2.2 ⟨Nat.le_of_ble_eq_true rfl, Nat.le_of_ble_eq_true rfl⟩) rfl rfl rfl rfl hl.1 rfl (lv_room (Nat.le_of_ble_eq_true rfl)) ⟨Nat.zero_le _, Nat.zero_le _⟩ dL_areAlike_16 ?_
    refine lv_dcmp hx hb dL_areAlike_19 ?_
    refine lv_if_ne (tgt := 27) hx hb dL_areAlike_20 (by decide) (fun c7 => ?_) (fun c7 => ?_)
    · have hf := g_if c7 hf
      refine lv_iconst (v := 0) hx hb dL_areAlike_27 (by decide) ?_
      obtain rfl := Option.some.inj hf
      exact hJj3 _ _ hG ls (lv_sub hl [0, 1] rfl)
    · have hf := g_it c7 hf
      refine lv_iconst (v := 1) hx hb dL_areAlike_23 (by decide) ?_
      refine lv_goto (tgt := 28) hx hb dL_areAlike_24 (by decide) ?_
      obtain rfl := Option.some.inj hf
      exact hJj3 _ _ hG ls (lv_sub hl [0, 1] rfl)
set_option maxHeartbeats 4000000 in
set_option maxRecDepth 100000 in
theorem c_L_isSound {l : Launch} {E : gEnv} (h0 : Nat → Nat) (b0 : Nat) (w0 : T8) {o : Int32 × T0} (hf : f_L_isSound w0 = some o) : gM l yL_isSound cL_isSound 6 (some .boolean) rL_isSound E [.ref (h0 b0)] [C8 E h0 b0, C2 E h0 (b0+1) w0.1, C6 E h0 (b0+3) w0.2.1, C5 E h0 (b0+9) w0.2.2.1.2.2, C6 E h0 ((b0+9)+1) w0.2.2.1.1, C7 E h0 ((b0+9)+7) w0.2.2.1.2.1, C3 E h0 (b0+18) w0.2.2.2.1, C0 E h0 (b0+20) w0.2.2.2.2] (some (.int o.1)) [C8 E h0 b0, C2 E h0 (b0+1) w0.1, C6 E h0 (b0+3) w0.2.1, C5 E h0 (b0+9) w0.2.2.1.2.2, C6 E h0 ((b0+9)+1) w0.2.2.1.1, C7 E h0 ((b0+9)+7) w0.2.2.1.2.1, C3 E h0 (b0+18) w0.2.2.2.1, C0 E h0 (b0+20) o.2] := by
  refine gM.of (by decide +kernel) (Nat.le_of_ble_eq_true rfl) rfl ?_
  intro p e s m below meth c F hr hlk hK hX hAB ls hl H locs hG
  have F : gF p m c cL_isSound 6 s ([.ref (h0 b0)] : List Value).toArray RL := F
  generalize ([.ref (h0 b0)] : List Value).toArray = args at F ⊢
  generalize hQ : MQ below _ _ _ _ _ _ = Q
  generalize hA : gAd [C8 E h0 b0, C2 E h0 (b0+1) w0.1, C6 E h0 (b0+3) w0.2.1, C5 E h0 (b0+9) w0.2.2.1.2.2, C6 E h0 ((b0+9)+1) w0.2.2.1.1, C7 E h0 ((b0+9)+7) w0.2.2.1.2.1, C3 E h0 (b0+18) w0.2.2.2.1, C0 E h0 (b0+20) w0.2.2.2.2] = A at hAB hG
  have hl : lv_has ls 6 [(0, .ref (h0 b0))] := hl
  have hx := F.1
  have hb := F.2.1
  unfold f_L_isSound at hf
  refine lv_aload_n hx hb dL_isSound_0 rfl (lv_at hl 0 rfl) ?_
  refine lv_iconst (v := 0) hx hb dL_isSound_1 (by decide) ?_
  obtain ⟨x1, hx1, hf⟩ := g_bnd hf
  refine g_mv (S' := [C8 E h0 b0, C2 E h0 (b0+1) w0.1, C6 E h0 (b0+3) w0.2.1, C5 E h0 (b0+9) w0.2.2.1.2.2, C6 E h0 ((b0+9)+1) w0.2.2.1.1, C7 E h0 ((b0+9)+7) w0.2.2.1.2.1, C3 E h0 (b0+18) w0.2.2.2.1, C0 E h0 (b0+20) x1.2]) (As := [.int 0]) (rest := []) F hK hX hAB hG [0, 1, 2, 3, 4, 5, 6, 7] rfl rfl (c_X8_setting h0 b0 w0 0 (jr_in hx1)) rfl (kL_33 F.2.2.2.2 ⟨Nat.le_of_ble_eq_true rfl, Nat.le_of_ble_eq_true rfl⟩) rfl rfl rfl rfl hl.1 rfl (lv_room (Nat.le_of_ble_eq_true rfl)) ⟨Nat.zero_le _, Nat.zero_le _⟩ dL_isSound_2 (fun H locs hG => ?_)
  refine lv_bipush (v := 50) hx hb dL_isSound_5 (by decide) ?_
  obtain ⟨j2, hf, hfj2⟩ := g_bnd hf
  have hJj2 : ∀ (H : Heap) (locs : List Loc), gS E A s.heap [C8 E h0 b0, C2 E h0 (b0+1) w0.1, C6 E h0 (b0+3) w0.2.1, C5 E h0 (b0+9) w0.2.2.1.2.2, C6 E h0 ((b0+9)+1) w0.2.2.1.1, C7 E h0 ((b0+9)+7) w0.2.2.1.2.1, C3 E h0 (b0+18) w0.2.2.2.1, C0 E h0 (b0+20) x1.2] H locs → ∀ ls : Array Slot, lv_has ls 6 [(0, .ref (h0 b0))] → W p l e rL_isSound s m args below meth c H locs 0 0 Q (F0 m 32 ls [.int j2]) := by
    intro H locs hG ls hl
    have hf := hfj2
    refine lv_istore_n (lv' := [(1, .int j2), (0, .ref (h0 b0))]) hx hb dL_isSound_32 rfl hl (by decide) rfl (fun ls hl => ?_)
    refine lv_iconst (v := 0) hx hb dL_isSound_33 (by decide) ?_
    refine lv_istore_n (lv' := [(2, .int 0), (1, .int j2), (0, .ref (h0 b0))]) hx hb dL_isSound_34 rfl hl (by decide) rfl (fun ls hl => ?_)
    refine lv_iconst (v := 0) hx hb dL_isSound_35 (by decide) ?_
    refine lv_istore_n (lv' := [(3, .int 0), (2, .int 0), (1, .int j2), (0, .ref (h0 b0))]) hx hb dL_isSound_36 rfl hl (by decide) rfl (fun ls hl => ?_)
    obtain ⟨x9, hx9, hfx9⟩ := g_bnd hf
    have hEx9 : ∀ (H : Heap) (locs : List Loc), gS E A s.heap [C8 E h0 b0, C2 E h0 (b0+1) w0.1, C6 E h0 (b0+3) w0.2.1, C5 E h0 (b0+9) w0.2.2.1.2.2, C6 E h0 ((b0+9)+1) w0.2.2.1.1, C7 E h0 ((b0+9)+7) w0.2.2.1.2.1, C3 E h0 (b0+18) w0.2.2.2.1, C0 E h0 (b0+20) x9.2.2] H locs → ∀ ls : Array Slot, lv_has ls 6 [(0, .ref (h0 b0)), (1, .int x9.1), (2, .int x9.2.1)] → W p l e rL_isSound s m args below meth c H locs 0 0 Q (F0 m 173 ls []) := by
      intro H locs hG ls hl
      have hf := hfx9
      refine lv_iconst (v := 1) hx hb dL_isSound_173 (by decide) ?_
      refine lv_istore_n (lv' := [(3, .int 1), (0, .ref (h0 b0)), (1, .int x9.1), (2, .int x9.2.1)]) hx hb dL_isSound_174 rfl hl (by decide) rfl (fun ls hl => ?_)
      obtain ⟨x47, hx47, hfx47⟩ := g_bnd hf
      have hEx47 : ∀ (H : Heap) (locs : List Loc), gS E A s.heap [C8 E h0 b0, C2 E h0 (b0+1) w0.1, C6 E h0 (b0+3) w0.2.1, C5 E h0 (b0+9) w0.2.2.1.2.2, C6 E h0 ((b0+9)+1) w0.2.2.1.1, C7 E h0 ((b0+9)+7) w0.2.2.1.2.1, C3 E h0 (b0+18) w0.2.2.2.1, C0 E h0 (b0+20) x47.2] H locs → ∀ ls : Array Slot, lv_has ls 6 [(0, .ref (h0 b0)), (1, .int x47.1), (2, .int x9.2.1)] → W p l e rL_isSound s m args below meth c H locs 0 0 Q (F0 m 266 ls []) := by
        intro H locs hG ls hl
        have hf := hfx47
        refine lv_iload_n hx hb dL_isSound_266 rfl (lv_at hl 1 rfl) ?_
        refine lv_if_eq (tgt := 293) hx hb dL_isSound_267 (by decide) (fun c66 => ?_) (fun c66 => ?_)
        · have hf := g_it c66 hf
          refine lv_iconst (v := 0) hx hb dL_isSound_293 (by decide) ?_
          have ho := Option.some.inj hf
          subst hA
          rw [← hQ, ← ho]
          exact g_mretZ F hr hlk hG narrow_b0 dL_isSound_294
        · have hf := g_if c66 hf
          refine lv_iload_n hx hb dL_isSound_270 rfl (lv_at hl 2 rfl) ?_
          refine lv_aload_n hx hb dL_isSound_271 rfl (lv_at hl 0 rfl) ?_
          refine lv_iconst (v := 0) hx hb dL_isSound_272 (by decide) ?_
          obtain ⟨x67, hx67, hf⟩ := g_bnd hf
          refine g_mv (S' := [C8 E h0 b0, C2 E h0 (b0+1) w0.1, C6 E h0 (b0+3) w0.2.1, C5 E h0 (b0+9) w0.2.2.1.2.2, C6 E h0 ((b0+9)+1) w0.2.2.1.1, C7 E h0 ((b0+9)+7) w0.2.2.1.2.1, C3 E h0 (b0+18) w0.2.2.2.1, C0 E h0 (b0+20) x67.2]) (As := [.int 0]) (rest := [.int x9.2.1]) F hK hX hAB hG [0, 1, 2, 3, 4, 5, 6, 7] rfl rfl (c_X8_setting h0 b0 (w0.1, w0.2.1, w0.2.2.1, w0.2.2.2.1, x47.2) 0 (jr_in hx67)) rfl (kL_33 F.2.2.2.2 ⟨Nat.le_of_ble_eq_true rfl, Nat.le_of_ble_eq_true rfl⟩) rfl rfl rfl rfl hl.1 rfl (lv_room (Nat.le_of_ble_eq_true rfl)) ⟨Nat.zero_le _, Nat.zero_le _⟩ dL_isSound_273 (fun H locs hG => ?_)
          refine lv_aload_n hx hb dL_isSound_276 rfl (lv_at hl 0 rfl) ?_
          refine lv_iconst (v := 0) hx hb dL_isSound_277 (by decide) ?_
          obtain ⟨x68, hx68, hf⟩ := g_bnd hf
          refine g_mv (S' := [C8 E h0 b0, C2 E h0 (b0+1) w0.1, C6 E h0 (b0+3) w0.2.1, C5 E h0 (b0+9) w0.2.2.1.2.2, C6 E h0 ((b0+9)+1) w0.2.2.1.1, C7 E h0 ((b0+9)+7) w0.2.2.1.2.1, C3 E h0 (b0+18) w0.2.2.2.1, C0 E h0 (b0+20) x68.2]) (As := [.int 0]) (rest := [.int x67.1, .int x9.2.1]) F hK hX hAB hG [0, 1, 2, 3, 4, 5, 6, 7] rfl rfl (c_X8_setting h0 b0 (w0.1, w0.2.1, w0.2.2.1, w0.2.2.2.1, x67.2) 0 (jr_in hx68)) rfl (kL_33 F.2.2.2.2 ⟨Nat.le_of_ble_eq_true rfl, Nat.le_of_ble_eq_true rfl⟩) rfl rfl rfl rfl hl.1 rfl (lv_room (Nat.le_of_ble_eq_true rfl)) ⟨Nat.zero_le _, Nat.zero_le _⟩ dL_isSound_278 (fun H locs hG => ?_)
          refine lv_iconst (v := 1) hx hb dL_isSound_281 (by decide) ?_
          refine lv_isub hx hb dL_isSound_282 ?_
          refine lv_imul hx hb dL_isSound_283 ?_
          refine lv_iconst (v := 2) hx hb dL_isSound_284 (by decide) ?_
          refine lv_idiv hx hb dL_isSound_285 (by decide) ?_
          refine lv_icmp_ne (tgt := 293) hx hb dL_isSound_286 (by decide) (fun c69 => ?_) (fun c69 => ?_)
          · have hf := g_if c69 hf
            refine lv_iconst (v := 0) hx hb dL_isSound_293 (by decide) ?_
            have ho := Option.some.inj hf
            subst hA
            rw [← hQ, ← ho]
            exact g_mretZ F hr hlk hG narrow_b0 dL_isSound_294
          · have hf := g_it c69 hf
            refine lv_iconst (v := 1) hx hb dL_isSound_289 (by decide) ?_
            refine lv_goto (tgt := 294) hx hb dL_isSound_290 (by decide) ?_
            have ho := Option.some.inj hf
            subst hA
            rw [← hQ, ← ho]
            exact g_mretZ F hr hlk hG narrow_b1 dL_isSound_294
      refine lp_rule (fun (v46 : Int32 × Int32 × T0) => ∀ (H : Heap) (locs : List Loc), gS E A s.heap [C8 E h0 b0, C2 E h0 (b0+1) w0.1, C6 E h0 (b0+3) w0.2.1, C5 E h0 (b0+9) w0.2.2.1.2.2, C6 E h0 ((b0+9)+1) w0.2.2.1.1, C7 E h0 ((b0+9)+7) w0.2.2.1.2.1, C3 E h0 (b0+18) w0.2.2.2.1, C0 E h0 (b0+20) v46.2.2] H locs → ∀ ls : Array Slot, lv_has ls 6 [(0, .ref (h0 b0)), (1, .int v46.1), (2, .int x9.2.1), (3, .int v46.2.1)] → W p l e rL_isSound s m args below meth c H locs 0 0 Q (F0 m 175 ls [])) ?_ _ _ hx47 _ _ hG ls (lv_sub hl [1, 2, 3, 0] rfl)
      intro v46 y hf hbackv46 hexitv46 H locs hG ls hl
      refine lv_iload_n hx hb dL_isSound_175 rfl (lv_at hl 3 rfl) ?_
      refine lv_aload_n hx hb dL_isSound_176 rfl (lv_at hl 0 rfl) ?_
      refine lv_bipush (v := 7) hx hb dL_isSound_177 (by decide) ?_
      obtain ⟨x48, hx48, hf⟩ := g_bnd hf
      refine g_mv (S' := [C8 E h0 b0, C2 E h0 (b0+1) w0.1, C6 E h0 (b0+3) w0.2.1, C5 E h0 (b0+9) w0.2.2.1.2.2, C6 E h0 ((b0+9)+1) w0.2.2.1.1, C7 E h0 ((b0+9)+7) w0.2.2.1.2.1, C3 E h0 (b0+18) w0.2.2.2.1, C0 E h0 (b0+20) x48.2]) (As := [.int 7]) (rest := [.int v46.2.1]) F hK hX hAB hG [0, 1, 2, 3, 4, 5, 6, 7] rfl rfl (c_X8_setting h0 b0 (w0.1, w0.2.1, w0.2.2.1, w0.2.2.2.1, v46.2.2) 7 (jr_in hx48)) rfl (kL_33 F.2.2.2.2 ⟨Nat.le_of_ble_eq_true rfl, Nat.le_of_ble_eq_true rfl⟩) rfl rfl rfl rfl hl.1 rfl (lv_room (Nat.le_of_ble_eq_true rfl)) ⟨Nat.zero_le _, Nat.zero_le _⟩ dL_isSound_179 (fun H locs hG => ?_)
      refine lv_icmp_ge (tgt := 266) hx hb dL_isSound_182 (by decide) (fun c49 => ?_) (fun c49 => ?_)
      · have hf := g_it c49 hf
        obtain rfl := hexitv46 _ (Option.some.inj hf).symm
        exact hEx47 _ _ hG ls (lv_sub hl [0, 1, 2] rfl)
      · have hf := g_if c49 hf
        refine lv_aload_n hx hb dL_isSound_185 rfl (lv_at hl 0 rfl) ?_
        refine lv_iload_n hx hb dL_isSound_186 rfl (lv_at hl 3 rfl) ?_
        refine lv_iconst (v := 1) hx hb dL_isSound_187 (by decide) ?_
        refine lv_isub hx hb dL_isSound_188 ?_
        obtain ⟨x50, hx50, hf⟩ := g_bnd hf
        refine g_mv (S' := [C8 E h0 b0, C2 E h0 (b0+1) w0.1, C6 E h0 (b0+3) w0.2.1, C5 E h0 (b0+9) w0.2.2.1.2.2, C6 E h0 ((b0+9)+1) w0.2.2.1.1, C7 E h0 ((b0+9)+7) w0.2.2.1.2.1, C3 E h0 (b0+18) w0.2.2.2.1, C0 E h0 (b0+20) x50.2]) (As := [.int (v46.2.1 - 1)]) (rest := []) F hK hX hAB hG [0, 1, 2, 3, 4, 5, 6, 7] rfl rfl (c_X8_candidate h0 b0 (w0.1, w0.2.1, w0.2.2.1, w0.2.2.2.1, x48.2) (v46.2.1 - 1) (jr_in hx50)) rfl (kL_81 F.2.2.2.2 ⟨Nat.le_of_ble_eq_true rfl, Nat.le_of_ble_eq_true rfl⟩) rfl rfl rfl rfl hl.1 rfl (lv_room (Nat.le_of_ble_eq_true rfl)) ⟨Nat.zero_le _, Nat.zero_le _⟩ dL_isSound_189 (fun H locs hG => ?_)
        refine lv_istore (lv' := [(4, .int x50.1), (0, .ref (h0 b0)), (1, .int v46.1), (2, .int x9.2.1), (3, .int v46.2.1)]) hx hb dL_isSound_192 hl (by decide) rfl (fun ls hl => ?_)
        refine lv_aload_n hx hb dL_isSound_194 rfl (lv_at hl 1 rfl) ?_
        refine lv_iload_n hx hb dL_isSound_195 rfl (lv_at hl 4 rfl) ?_
        obtain ⟨x51, hx51, hf⟩ := g_bnd hf
        refine g_mv (S' := [C8 E h0 b0, C2 E h0 (b0+1) w0.1, C6 E h0 (b0+3) w0.2.1, C5 E h0 (b0+9) w0.2.2.1.2.2, C6 E h0 ((b0+9)+1) w0.2.2.1.1, C7 E h0 ((b0+9)+7) w0.2.2.1.2.1, C3 E h0 (b0+18) w0.2.2.2.1, C0 E h0 (b0+20) x51.2]) (As := [.int v46.2.1]) (rest := []) F hK hX hAB hG [0, 1, 2, 3, 4, 5, 6, 7] rfl rfl (c_X8_candidate h0 b0 (w0.1, w0.2.1, w0.2.2.1, w0.2.2.2.1, x50.2) v46.2.1 (jr_in hx51)) rfl (kL_81 F.2.2.2.2 ⟨Nat.le_of_ble_eq_true rfl, Nat.le_of_ble_eq_true rfl⟩) rfl rfl rfl rfl hl.1 rfl (lv_room (Nat.le_of_ble_eq_true rfl)) ⟨Nat.zero_le _, Nat.zero_le _⟩ dL_isSound_196 (fun H locs hG => ?_)
        refine lv_istore (lv' := [(5, .int x51.1), (4, .int x50.1), (0, .ref (h0 b0)), (1, .int v46.1), (2, .int x9.2.1), (3, .int v46.2.1)]) hx hb dL_isSound_199 hl (by decide) rfl (fun ls hl => ?_)
        refine lv_iload_n hx hb dL_isSound_201 rfl (lv_at hl 3 rfl) ?_
        obtain ⟨j52, hf, hfj52⟩ := g_bnd hf
        have hJj52 : ∀ (H : Heap) (locs : List Loc), gS E A s.heap [C8 E h0 b0, C2 E h0 (b0+1) w0.1, C6 E h0 (b0+3) w0.2.1, C5 E h0 (b0+9) w0.2.2.1.2.2, C6 E h0 ((b0+9)+1) w0.2.2.1.1, C7 E h0 ((b0+9)+7) w0.2.2.1.2.1, C3 E h0 (b0+18) w0.2.2.2.1, C0 E h0 (b0+20) j52.2] H locs → ∀ ls : Array Slot, lv_has ls 6 [(0, .ref (h0 b0)), (2, .int x9.2.1), (3, .int v46.2.1)] → W p l e rL_isSound s m args below meth c H locs 0 0 Q (F0 m 259 ls [.int j52.1]) := by
          intro H locs hG ls hl
          have hf := hfj52
          refine lv_istore_n (lv' := [(1, .int j52.1), (0, .ref (h0 b0)), (2, .int x9.2.1), (3, .int v46.2.1)]) hx hb dL_isSound_259 rfl hl (by decide) rfl (fun ls hl => ?_)
          refine lv_iinc (v := (v46.2.1 + 1)) (lv' := [(3, .int (v46.2.1 + 1)), (1, .int j52.1), (0, .ref (h0 b0)), (2, .int x9.2.1)]) hx hb dL_isSound_260 hl (k := 3) rfl rfl (by decide) rfl (fun ls hl => ?_)
          refine lv_goto (tgt := 175) hx hb dL_isSound_263 (by decide) ?_
          exact hbackv46 _ (Option.some.inj hf).symm _ _ hG ls (lv_sub hl [2, 1, 3, 0] rfl)
        refine lv_if_eq (tgt := 258) hx hb dL_isSound_202 (by decide) (fun c53 => ?_) (fun c53 => ?_)
        · have hf := g_it c53 hf
          refine lv_iconst (v := 0) hx hb dL_isSound_258 (by decide) ?_
          obtain rfl := Option.some.inj hf
          exact hJj52 _ _ hG ls (lv_sub hl [2, 4, 5] rfl)
        · have hf := g_if c53 hf
          refine lv_aload_n hx hb dL_isSound_205 rfl (lv_at hl 2 rfl) ?_
          refine lv_iload hx hb dL_isSound_206 (lv_at hl 1 rfl) ?_
          refine lv_iconst (v := 0) hx hb dL_isSound_208 (by decide) ?_
          obtain ⟨x54, hx54, hf⟩ := g_bnd hf
          refine g_rv (As := [.int x50.1, .int 0]) (rest := []) F hK (hG.X hX hAB) hG.1 [0, 1, 2, 3, 4, 5, 6, 7] rfl (c_X8_word h0 b0 (w0.1, w0.2.1, w0.2.2.1, w0.2.2.2.1, x51.2) x50.1 0 (jr_in hx54)) (kL_62 F.2.2.2.2 ⟨Nat.le_of_ble_eq_true rfl, Nat.le_of_ble_eq_true rfl⟩) rfl rfl rfl rfl hl.1 rfl (lv_room (Nat.le_of_ble_eq_true rfl)) ⟨Nat.zero_le _, Nat.zero_le _⟩ dL_isSound_209 ?_
          refine lv_aload_n hx hb dL_isSound_212 rfl (lv_at hl 2 rfl) ?_
          refine lv_bipush (v := 6) hx hb dL_isSound_213 (by decide) ?_
          obtain ⟨x55, hx55, hf⟩ := g_bnd hf
          refine g_mv (S' := [C8 E h0 b0, C2 E h0 (b0+1) w0.1, C6 E h0 (b0+3) w0.2.1, C5 E h0 (b0+9) w0.2.2.1.2.2, C6 E h0 ((b0+9)+1) w0.2.2.1.1, C7 E h0 ((b0+9)+7) w0.2.2.1.2.1, C3 E h0 (b0+18) w0.2.2.2.1, C0 E h0 (b0+20) x55.2]) (As := [.int 6]) (rest := [.int x54]) F hK hX hAB hG [0, 1, 2, 3, 4, 5, 6, 7] rfl rfl (c_X8_setting h0 b0 (w0.1, w0.2.1, w0.2.2.1, w0.2.2.2.1, x51.2) 6 (jr_in hx55)) rfl (kL_33 F.2.2.2.2 ⟨Nat.le_of_ble_eq_true rfl, Nat.le_of_ble_eq_true rfl⟩) rfl rfl rfl rfl hl.1 rfl (lv_room (Nat.le_of_ble_eq_true rfl)) ⟨Nat.zero_le _, Nat.zero_le _⟩ dL_isSound_215 (fun H locs hG => ?_)
          refine lv_icmp_ne (tgt := 237) hx hb dL_isSound_218 (by decide) (fun c56 => ?_) (fun c56 => ?_)
          · have hf := g_if c56 hf
            refine lv_aload_n hx hb dL_isSound_237 rfl (lv_at hl 2 rfl) ?_
            refine lv_iload hx hb dL_isSound_238 (lv_at hl 1 rfl) ?_
            refine lv_iconst (v := 4) hx hb dL_isSound_240 (by decide) ?_
            obtain ⟨x57, hx57, hf⟩ := g_bnd hf
            refine g_rv (As := [.int x50.1, .int 4]) (rest := []) F hK (hG.X hX hAB) hG.1 [0, 1, 2, 3, 4, 5, 6, 7] rfl (c_X8_word h0 b0 (w0.1, w0.2.1, w0.2.2.1, w0.2.2.2.1, x55.2) x50.1 4 (jr_in hx57)) (kL_62 F.2.2.2.2 ⟨Nat.le_of_ble_eq_true rfl, Nat.le_of_ble_eq_true rfl⟩) rfl rfl rfl rfl hl.1 rfl (lv_room (Nat.le_of_ble_eq_true rfl)) ⟨Nat.zero_le _, Nat.zero_le _⟩ dL_isSound_241 ?_
            refine lv_aload_n hx hb dL_isSound_244 rfl (lv_at hl 2 rfl) ?_
            refine lv_iload hx hb dL_isSound_245 (lv_at hl 0 rfl) ?_
            refine lv_iconst (v := 4) hx hb dL_isSound_247 (by decide) ?_
            obtain ⟨x58, hx58, hf⟩ := g_bnd hf
            refine g_rv (As := [.int x51.1, .int 4]) (rest := [.int x57]) F hK (hG.X hX hAB) hG.1 [0, 1, 2, 3, 4, 5, 6, 7] rfl (c_X8_word h0 b0 (w0.1, w0.2.1, w0.2.2.1, w0.2.2.2.1, x55.2) x51.1 4 (jr_in hx58)) (kL_62 F.2.2.2.2 ⟨Nat.le_of_ble_eq_true rfl, Nat.le_of_ble_eq_true rfl⟩) rfl rfl rfl rfl hl.1 rfl (lv_room (Nat.le_of_ble_eq_true rfl)) ⟨Nat.zero_le _, Nat.zero_le _⟩ dL_isSound_248 ?_
            refine lv_icmp_ge (tgt := 258) hx hb dL_isSound_251 (by decide) (fun c59 => ?_) (fun c59 => ?_)
            · have hf := g_it c59 hf
              refine lv_iconst (v := 0) hx hb dL_isSound_258 (by decide) ?_
              obtain rfl := Option.some.inj hf
              exact hJj52 _ _ hG ls (lv_sub hl [2, 4, 5] rfl)
            · have hf := g_if c59 hf
              refine lv_iconst (v := 1) hx hb dL_isSound_254 (by decide) ?_
              refine lv_goto (tgt := 259) hx hb dL_isSound_255 (by decide) ?_
              obtain rfl := Option.some.inj hf
              exact hJj52 _ _ hG ls (lv_sub hl [2, 4, 5] rfl)
          · have hf := g_it c56 hf
            refine lv_aload_n hx hb dL_isSound_221 rfl (lv_at hl 2 rfl) ?_
            refine lv_iload hx hb dL_isSound_222 (lv_at hl 0 rfl) ?_
            refine lv_iconst (v := 0) hx hb dL_isSound_224 (by decide) ?_
            obtain ⟨x60, hx60, hf⟩ := g_bnd hf
            refine g_rv (As := [.int x51.1, .int 0]) (rest := []) F hK (hG.X hX hAB) hG.1 [0, 1, 2, 3, 4, 5, 6, 7] rfl (c_X8_word h0 b0 (w0.1, w0.2.1, w0.2.2.1, w0.2.2.2.1, x55.2) x51.1 0 (jr_in hx60)) (kL_62 F.2.2.2.2 ⟨Nat.le_of_ble_eq_true rfl, Nat.le_of_ble_eq_true rfl⟩) rfl rfl rfl rfl hl.1 rfl (lv_room (Nat.le_of_ble_eq_true rfl)) ⟨Nat.zero_le _, Nat.zero_le _⟩ dL_isSound_225 ?_
            refine lv_aload_n hx hb dL_isSound_228 rfl (lv_at hl 2 rfl) ?_
            refine lv_bipush (v := 6) hx hb dL_isSound_229 (by decide) ?_
            obtain ⟨x61, hx61, hf⟩ := g_bnd hf
            refine g_mv (S' := [C8 E h0 b0, C2 E h0 (b0+1) w0.1, C6 E h0 (b0+3) w0.2.1, C5 E h0 (b0+9) w0.2.2.1.2.2, C6 E h0 ((b0+9)+1) w0.2.2.1.1, C7 E h0 ((b0+9)+7) w0.2.2.1.2.1, C3 E h0 (b0+18) w0.2.2.2.1, C0 E h0 (b0+20) x61.2]) (As := [.int 6]) (rest := [.int x60]) F hK hX hAB hG [0, 1, 2, 3, 4, 5, 6, 7] rfl rfl (c_X8_setting h0 b0 (w0.1, w0.2.1, w0.2.2.1, w0.2.2.2.1, x55.2) 6 (jr_in hx61)) rfl (kL_33 F.2.2.2.2 ⟨Nat.le_of_ble_eq_true rfl, Nat.le_of_ble_eq_true rfl⟩) rfl rfl rfl rfl hl.1 rfl (lv_room (Nat.le_of_ble_eq_true rfl)) ⟨Nat.zero_le _, Nat.zero_le _⟩ dL_isSound_231 (fun H locs hG => ?_)
            refine lv_icmp_gt (tgt := 254) hx hb dL_isSound_234 (by decide) (fun c62 => ?_) (fun c62 => ?_)
            · have hf := g_it c62 hf
              refine lv_iconst (v := 1) hx hb dL_isSound_254 (by decide) ?_
              refine lv_goto (tgt := 259) hx hb dL_isSound_255 (by decide) ?_
              obtain rfl := Option.some.inj hf
              exact hJj52 _ _ hG ls (lv_sub hl [2, 4, 5] rfl)
            · have hf := g_if c62 hf
              refine lv_aload_n hx hb dL_isSound_237 rfl (lv_at hl 2 rfl) ?_
              refine lv_iload hx hb dL_isSound_238 (lv_at hl 1 rfl) ?_
              refine lv_iconst (v := 4) hx hb dL_isSound_240 (by decide) ?_
              obtain ⟨x63, hx63, hf⟩ := g_bnd hf
              refine g_rv (As := [.int x50.1, .int 4]) (rest := []) F hK (hG.X hX hAB) hG.1 [0, 1, 2, 3, 4, 5, 6, 7] rfl (c_X8_word h0 b0 (w0.1, w0.2.1, w0.2.2.1, w0.2.2.2.1, x61.2) x50.1 4 (jr_in hx63)) (kL_62 F.2.2.2.2 ⟨Nat.le_of_ble_eq_true rfl, Nat.le_of_ble_eq_true rfl⟩) rfl rfl rfl rfl hl.1 rfl (lv_room (Nat.le_of_ble_eq_true rfl)) ⟨Nat.zero_le _, Nat.zero_le _⟩ dL_isSound_241 ?_
              refine lv_aload_n hx hb dL_isSound_244 rfl (lv_at hl 2 rfl) ?_
              refine lv_iload hx hb dL_isSound_245 (lv_at hl 0 rfl) ?_
              refine lv_iconst (v := 4) hx hb dL_isSound_247 (by decide) ?_
              obtain ⟨x64, hx64, hf⟩ := g_bnd hf
              refine g_rv (As := [.int x51.1, .int 4]) (rest := [.int x63]) F hK (hG.X hX hAB) hG.1 [0, 1, 2, 3, 4, 5, 6, 7] rfl (c_X8_word h0 b0 (w0.1, w0.2.1, w0.2.2.1, w0.2.2.2.1, x61.2) x51.1 4 (jr_in hx64)) (kL_62 F.2.2.2.2 ⟨Nat.le_of_ble_eq_true rfl, Nat.le_of_ble_eq_true rfl⟩) rfl rfl rfl rfl hl.1 rfl (lv_room (Nat.le_of_ble_eq_true rfl)) ⟨Nat.zero_le _, Nat.zero_le _⟩ dL_isSound_248 ?_
              refine lv_icmp_ge (tgt := 258) hx hb dL_isSound_251 (by decide) (fun c65 => ?_) (fun c65 => ?_)
              · have hf := g_it c65 hf
                refine lv_iconst (v := 0) hx hb dL_isSound_258 (by decide) ?_
                obtain rfl := Option.some.inj hf
                exact hJj52 _ _ hG ls (lv_sub hl [2, 4, 5] rfl)
              · have hf := g_if c65 hf
                refine lv_iconst (v := 1) hx hb dL_isSound_254 (by decide) ?_
                refine lv_goto (tgt := 259) hx hb dL_isSound_255 (by decide) ?_
                obtain rfl := Option.some.inj hf
                exact hJj52 _ _ hG ls (lv_sub hl [2, 4, 5] rfl)
    refine lp_rule (fun (v8 : Int32 × Int32 × Int32 × T0) => ∀ (H : Heap) (locs : List Loc), gS E A s.heap [C8 E h0 b0, C2 E h0 (b0+1) w0.1, C6 E h0 (b0+3) w0.2.1, C5 E h0 (b0+9) w0.2.2.1.2.2, C6 E h0 ((b0+9)+1) w0.2.2.1.1, C7 E h0 ((b0+9)+7) w0.2.2.1.2.1, C3 E h0 (b0+18) w0.2.2.2.1, C0 E h0 (b0+20) v8.2.2.2] H locs → ∀ ls : Array Slot, lv_has ls 6 [(0, .ref (h0 b0)), (1, .int v8.1), (2, .int v8.2.1), (3, .int v8.2.2.1)] → W p l e rL_isSound s m args below meth c H locs 0 0 Q (F0 m 37 ls [])) ?_ _ _ hx9 _ _ hG ls (lv_sub hl [3, 2, 1, 0] rfl)
    intro v8 y hf hbackv8 hexitv8 H locs hG ls hl
    refine lv_iload_n hx hb dL_isSound_37 rfl (lv_at hl 3 rfl) ?_
    refine lv_aload_n hx hb dL_isSound_38 rfl (lv_at hl 0 rfl) ?_
    refine lv_iconst (v := 0) hx hb dL_isSound_39 (by decide) ?_
    obtain ⟨x10, hx10, hf⟩ := g_bnd hf
    refine g_mv (S' := [C8 E h0 b0, C2 E h0 (b0+1) w0.1, C6 E h0 (b0+3) w0.2.1, C5 E h0 (b0+9) w0.2.2.1.2.2, C6 E h0 ((b0+9)+1) w0.2.2.1.1, C7 E h0 ((b0+9)+7) w0.2.2.1.2.1, C3 E h0 (b0+18) w0.2.2.2.1, C0 E h0 (b0+20) x10.2]) (As := [.int 0]) (rest := [.int v8.2.2.1]) F hK hX hAB hG [0, 1, 2, 3, 4, 5, 6, 7] rfl rfl (c_X8_setting h0 b0 (w0.1, w0.2.1, w0.2.2.1, w0.2.2.2.1, v8.2.2.2) 0 (jr_in hx10)) rfl (kL_33 F.2.2.2.2 ⟨Nat.le_of_ble_eq_true rfl, Nat.le_of_ble_eq_true rfl⟩) rfl rfl rfl rfl hl.1 rfl (lv_room (Nat.le_of_ble_eq_true rfl)) ⟨Nat.zero_le _, Nat.zero_le _⟩ dL_isSound_40 (fun H locs hG => ?_)
    refine lv_icmp_ge (tgt := 173) hx hb dL_isSound_43 (by decide) (fun c11 => ?_) (fun c11 => ?_)
    · have hf := g_it c11 hf
      obtain rfl := hexitv8 _ (Option.some.inj hf).symm
      exact hEx9 _ _ hG ls (lv_sub hl [0, 1, 2] rfl)
    · have hf := g_if c11 hf
      refine lv_aload_n hx hb dL_isSound_46 rfl (lv_at hl 0 rfl) ?_
      refine lv_iload_n hx hb dL_isSound_47 rfl (lv_at hl 3 rfl) ?_
      refine lv_iconst (v := 4) hx hb dL_isSound_48 (by decide) ?_
      obtain ⟨x12, hx12, hf⟩ := g_bnd hf
      refine g_rv (As := [.int v8.2.2.1, .int 4]) (rest := []) F hK (hG.X hX hAB) hG.1 [0, 1, 2, 3, 4, 5, 6, 7] rfl (c_X8_word h0 b0 (w0.1, w0.2.1, w0.2.2.1, w0.2.2.2.1, x10.2) v8.2.2.1 4 (jr_in hx12)) (kL_62 F.2.2.2.2 ⟨Nat.le_of_ble_eq_true rfl, Nat.le_of_ble_eq_true rfl⟩) rfl rfl rfl rfl hl.1 rfl (lv_room (Nat.le_of_ble_eq_true rfl)) ⟨Nat.zero_le _, Nat.zero_le _⟩ dL_isSound_49 ?_
      refine lv_istore (lv' := [(4, .int x12), (0, .ref (h0 b0)), (1, .int v8.1), (2, .int v8.2.1), (3, .int v8.2.2.1)]) hx hb dL_isSound_52 hl (by decide) rfl (fun ls hl => ?_)
      refine lv_iload_n hx hb dL_isSound_54 rfl (lv_at hl 3 rfl) ?_
      refine lv_iload hx hb dL_isSound_55 (lv_at hl 0 rfl) ?_
      refine lv_iadd hx hb dL_isSound_57 ?_
      refine lv_istore_n (lv' := [(2, .int (v8.2.1 + x12)), (4, .int x12), (0, .ref (h0 b0)), (1, .int v8.1), (3, .int v8.2.2.1)]) hx hb dL_isSound_58 rfl hl (by decide) rfl (fun ls hl => ?_)
      refine lv_aload_n hx hb dL_isSound_59 rfl (lv_at hl 2 rfl) ?_
      refine lv_iload_n hx hb dL_isSound_60 rfl (lv_at hl 4 rfl) ?_
      obtain ⟨x13, hx13, hf⟩ := g_bnd hf
      refine g_rv (As := [.int v8.2.2.1]) (rest := []) F hK (hG.X hX hAB) hG.1 [0, 1, 2, 3, 4, 5, 6, 7] rfl (c_X8_shortest h0 b0 (w0.1, w0.2.1, w0.2.2.1, w0.2.2.2.1, x10.2) v8.2.2.1 (jr_in hx13)) (kL_71 F.2.2.2.2 ⟨Nat.le_of_ble_eq_true rfl, Nat.le_of_ble_eq_true rfl⟩) rfl rfl rfl rfl hl.1 rfl (lv_room (Nat.le_of_ble_eq_true rfl)) ⟨Nat.zero_le _, Nat.zero_le _⟩ dL_isSound_61 ?_
      refine lv_istore (lv' := [(5, .int x13), (2, .int (v8.2.1 + x12)), (4, .int x12), (0, .ref (h0 b0)), (1, .int v8.1), (3, .int v8.2.2.1)]) hx hb dL_isSound_64 hl (by decide) rfl (fun ls hl => ?_)
      refine lv_iload_n hx hb dL_isSound_66 rfl (lv_at hl 4 rfl) ?_
      obtain ⟨j14, hf, hfj14⟩ := g_bnd hf
      have hJj14 : ∀ (H : Heap) (locs : List Loc), gS E A s.heap [C8 E h0 b0, C2 E h0 (b0+1) w0.1, C6 E h0 (b0+3) w0.2.1, C5 E h0 (b0+9) w0.2.2.1.2.2, C6 E h0 ((b0+9)+1) w0.2.2.1.1, C7 E h0 ((b0+9)+7) w0.2.2.1.2.1, C3 E h0 (b0+18) w0.2.2.2.1, C0 E h0 (b0+20) j14.2] H locs → ∀ ls : Array Slot, lv_has ls 6 [(0, .ref (h0 b0)), (2, .int (v8.2.1 + x12)), (3, .int v8.2.2.1)] → W p l e rL_isSound s m args below meth c H locs 0 0 Q (F0 m 166 ls [.int j14.1]) := by
        intro H locs hG ls hl
        have hf := hfj14
        refine lv_istore_n (lv' := [(1, .int j14.1), (0, .ref (h0 b0)), (2, .int (v8.2.1 + x12)), (3, .int v8.2.2.1)]) hx hb dL_isSound_166 rfl hl (by decide) rfl (fun ls hl => ?_)
        refine lv_iinc (v := (v8.2.2.1 + 1)) (lv' := [(3, .int (v8.2.2.1 + 1)), (1, .int j14.1), (0, .ref (h0 b0)), (2, .int (v8.2.1 + x12))]) hx hb dL_isSound_167 hl (k := 3) rfl rfl (by decide) rfl (fun ls hl => ?_)
        refine lv_goto (tgt := 37) hx hb dL_isSound_170 (by decide) ?_
        exact hbackv8 _ (Option.some.inj hf).symm _ _ hG ls (lv_sub hl [2, 1, 3, 0] rfl)
      refine lv_if_eq (tgt := 165) hx hb dL_isSound_67 (by decide) (fun c15 => ?_) (fun c15 => ?_)
      · have hf := g_it c15 hf
        refine lv_iconst (v := 0) hx hb dL_isSound_165 (by decide) ?_
        obtain rfl := Option.some.inj hf
        exact hJj14 _ _ hG ls (lv_sub hl [3, 1, 5] rfl)
      · have hf := g_if c15 hf
        refine lv_iload hx hb dL_isSound_70 (lv_at hl 2 rfl) ?_
        refine lv_aload_n hx hb dL_isSound_72 rfl (lv_at hl 3 rfl) ?_
        refine lv_iconst (v := 0) hx hb dL_isSound_73 (by decide) ?_
        obtain ⟨x16, hx16, hf⟩ := g_bnd hf
        refine g_mv (S' := [C8 E h0 b0, C2 E h0 (b0+1) w0.1, C6 E h0 (b0+3) w0.2.1, C5 E h0 (b0+9) w0.2.2.1.2.2, C6 E h0 ((b0+9)+1) w0.2.2.1.1, C7 E h0 ((b0+9)+7) w0.2.2.1.2.1, C3 E h0 (b0+18) w0.2.2.2.1, C0 E h0 (b0+20) x16.2]) (As := [.int 0]) (rest := [.int x12]) F hK hX hAB hG [0, 1, 2, 3, 4, 5, 6, 7] rfl rfl (c_X8_setting h0 b0 (w0.1, w0.2.1, w0.2.2.1, w0.2.2.2.1, x10.2) 0 (jr_in hx16)) rfl (kL_33 F.2.2.2.2 ⟨Nat.le_of_ble_eq_true rfl, Nat.le_of_ble_eq_true rfl⟩) rfl rfl rfl rfl hl.1 rfl (lv_room (Nat.le_of_ble_eq_true rfl)) ⟨Nat.zero_le _, Nat.zero_le _⟩ dL_isSound_74 (fun H locs hG => ?_)
        refine lv_icmp_ge (tgt := 165) hx hb dL_isSound_77 (by decide) (fun c17 => ?_) (fun c17 => ?_)
        · have hf := g_it c17 hf
          refine lv_iconst (v := 0) hx hb dL_isSound_165 (by decide) ?_
          obtain rfl := Option.some.inj hf
          exact hJj14 _ _ hG ls (lv_sub hl [3, 1, 5] rfl)
        · have hf := g_if c17 hf
          refine lv_aload_n hx hb dL_isSound_80 rfl (lv_at hl 3 rfl) ?_
          refine lv_iload_n hx hb dL_isSound_81 rfl (lv_at hl 5 rfl) ?_
          refine lv_iconst (v := 3) hx hb dL_isSound_82 (by decide) ?_
          obtain ⟨x18, hx18, hf⟩ := g_bnd hf
          refine g_rv (As := [.int v8.2.2.1, .int 3]) (rest := []) F hK (hG.X hX hAB) hG.1 [0, 1, 2, 3, 4, 5, 6, 7] rfl (c_X8_word h0 b0 (w0.1, w0.2.1, w0.2.2.1, w0.2.2.2.1, x16.2) v8.2.2.1 3 (jr_in hx18)) (kL_62 F.2.2.2.2 ⟨Nat.le_of_ble_eq_true rfl, Nat.le_of_ble_eq_true rfl⟩) rfl rfl rfl rfl hl.1 rfl (lv_room (Nat.le_of_ble_eq_true rfl)) ⟨Nat.zero_le _, Nat.zero_le _⟩ dL_isSound_83 ?_
          refine lv_if_eq (tgt := 98) hx hb dL_isSound_86 (by decide) (fun c19 => ?_) (fun c19 => ?_)
          · have hf := g_it c19 hf
            refine lv_aload_n hx hb dL_isSound_98 rfl (lv_at hl 3 rfl) ?_
            refine lv_iload_n hx hb dL_isSound_99 rfl (lv_at hl 5 rfl) ?_
            refine lv_iconst (v := 0) hx hb dL_isSound_100 (by decide) ?_
            obtain ⟨x20, hx20, hf⟩ := g_bnd hf
            refine g_rv (As := [.int v8.2.2.1, .int 0]) (rest := []) F hK (hG.X hX hAB) hG.1 [0, 1, 2, 3, 4, 5, 6, 7] rfl (c_X8_presses h0 b0 (w0.1, w0.2.1, w0.2.2.1, w0.2.2.2.1, x16.2) v8.2.2.1 0 (jr_in hx20)) (kL_94 F.2.2.2.2 ⟨Nat.le_of_ble_eq_true rfl, Nat.le_of_ble_eq_true rfl⟩) rfl rfl rfl rfl hl.1 rfl (lv_room (Nat.le_of_ble_eq_true rfl)) ⟨Nat.zero_le _, Nat.zero_le _⟩ dL_isSound_101 ?_
            refine lv_aload_n hx hb dL_isSound_104 rfl (lv_at hl 3 rfl) ?_
            refine lv_iload_n hx hb dL_isSound_105 rfl (lv_at hl 5 rfl) ?_
            refine lv_iconst (v := 0) hx hb dL_isSound_106 (by decide) ?_
            obtain ⟨x21, hx21, hf⟩ := g_bnd hf
            refine g_rv (As := [.int v8.2.2.1, .int 0]) (rest := [.int x20]) F hK (hG.X hX hAB) hG.1 [0, 1, 2, 3, 4, 5, 6, 7] rfl (c_X8_word h0 b0 (w0.1, w0.2.1, w0.2.2.1, w0.2.2.2.1, x16.2) v8.2.2.1 0 (jr_in hx21)) (kL_62 F.2.2.2.2 ⟨Nat.le_of_ble_eq_true rfl, Nat.le_of_ble_eq_true rfl⟩) rfl rfl rfl rfl hl.1 rfl (lv_room (Nat.le_of_ble_eq_true rfl)) ⟨Nat.zero_le _, Nat.zero_le _⟩ dL_isSound_107 ?_
            refine lv_aload_n hx hb dL_isSound_110 rfl (lv_at hl 3 rfl) ?_
            refine lv_iload_n hx hb dL_isSound_111 rfl (lv_at hl 5 rfl) ?_
            obtain ⟨x22, hx22, hf⟩ := g_bnd hf
            refine g_rv (As := [.int v8.2.2.1]) (rest := [.int x21, .int x20]) F hK (hG.X hX hAB) hG.1 [0, 1, 2, 3, 4, 5, 6, 7] rfl (c_X8_steps h0 b0 (w0.1, w0.2.1, w0.2.2.1, w0.2.2.2.1, x16.2) v8.2.2.1 (jr_in hx22)) (kL_68 F.2.2.2.2 ⟨Nat.le_of_ble_eq_true rfl, Nat.le_of_ble_eq_true rfl⟩) rfl rfl rfl rfl hl.1 rfl (lv_room (Nat.le_of_ble_eq_true rfl)) ⟨Nat.zero_le _, Nat.zero_le _⟩ dL_isSound_112 ?_
            refine lv_iadd hx hb dL_isSound_115 ?_
            refine lv_icmp_ne (tgt := 165) hx hb dL_isSound_116 (by decide) (fun c23 => ?_) (fun c23 => ?_)
            · have hf := g_if c23 hf
              refine lv_iconst (v := 0) hx hb dL_isSound_165 (by decide) ?_
              obtain rfl := Option.some.inj hf
              exact hJj14 _ _ hG ls (lv_sub hl [3, 1, 5] rfl)
            · have hf := g_it c23 hf
              refine lv_aload_n hx hb dL_isSound_119 rfl (lv_at hl 3 rfl) ?_
              refine lv_iload_n hx hb dL_isSound_120 rfl (lv_at hl 5 rfl) ?_
              refine lv_iconst (v := 1) hx hb dL_isSound_121 (by decide) ?_
              obtain ⟨x24, hx24, hf⟩ := g_bnd hf
              refine g_rv (As := [.int v8.2.2.1, .int 1]) (rest := []) F hK (hG.X hX hAB) hG.1 [0, 1, 2, 3, 4, 5, 6, 7] rfl (c_X8_presses h0 b0 (w0.1, w0.2.1, w0.2.2.1, w0.2.2.2.1, x16.2) v8.2.2.1 1 (jr_in hx24)) (kL_94 F.2.2.2.2 ⟨Nat.le_of_ble_eq_true rfl, Nat.le_of_ble_eq_true rfl⟩) rfl rfl rfl rfl hl.1 rfl (lv_room (Nat.le_of_ble_eq_true rfl)) ⟨Nat.zero_le _, Nat.zero_le _⟩ dL_isSound_122 ?_
              refine lv_aload_n hx hb dL_isSound_125 rfl (lv_at hl 3 rfl) ?_
              refine lv_iload_n hx hb dL_isSound_126 rfl (lv_at hl 5 rfl) ?_
              refine lv_iconst (v := 0) hx hb dL_isSound_127 (by decide) ?_
              obtain ⟨x25, hx25, hf⟩ := g_bnd hf
              refine g_rv (As := [.int v8.2.2.1, .int 0]) (rest := [.int x24]) F hK (hG.X hX hAB) hG.1 [0, 1, 2, 3, 4, 5, 6, 7] rfl (c_X8_word h0 b0 (w0.1, w0.2.1, w0.2.2.1, w0.2.2.2.1, x16.2) v8.2.2.1 0 (jr_in hx25)) (kL_62 F.2.2.2.2 ⟨Nat.le_of_ble_eq_true rfl, Nat.le_of_ble_eq_true rfl⟩) rfl rfl rfl rfl hl.1 rfl (lv_room (Nat.le_of_ble_eq_true rfl)) ⟨Nat.zero_le _, Nat.zero_le _⟩ dL_isSound_128 ?_
              refine lv_icmp_lt (tgt := 165) hx hb dL_isSound_131 (by decide) (fun c26 => ?_) (fun c26 => ?_)
              · have hf := g_it c26 hf
                refine lv_iconst (v := 0) hx hb dL_isSound_165 (by decide) ?_
                obtain rfl := Option.some.inj hf
                exact hJj14 _ _ hG ls (lv_sub hl [3, 1, 5] rfl)
              · have hf := g_if c26 hf
                refine lv_iload hx hb dL_isSound_134 (lv_at hl 0 rfl) ?_
                refine lv_if_ge (tgt := 150) hx hb dL_isSound_136 (by decide) (fun c27 => ?_) (fun c27 => ?_)
                · have hf := g_it c27 hf
                  refine lv_iload hx hb dL_isSound_150 (lv_at hl 0 rfl) ?_
                  refine lv_aload_n hx hb dL_isSound_152 rfl (lv_at hl 3 rfl) ?_
                  refine lv_iload_n hx hb dL_isSound_153 rfl (lv_at hl 5 rfl) ?_
                  refine lv_iconst (v := 0) hx hb dL_isSound_154 (by decide) ?_
                  obtain ⟨x28, hx28, hf⟩ := g_bnd hf
                  refine g_rv (As := [.int v8.2.2.1, .int 0]) (rest := [.int x13]) F hK (hG.X hX hAB) hG.1 [0, 1, 2, 3, 4, 5, 6, 7] rfl (c_X8_word h0 b0 (w0.1, w0.2.1, w0.2.2.1, w0.2.2.2.1, x16.2) v8.2.2.1 0 (jr_in hx28)) (kL_62 F.2.2.2.2 ⟨Nat.le_of_ble_eq_true rfl, Nat.le_of_ble_eq_true rfl⟩) rfl rfl rfl rfl hl.1 rfl (lv_room (Nat.le_of_ble_eq_true rfl)) ⟨Nat.zero_le _, Nat.zero_le _⟩ dL_isSound_155 ?_
                  refine lv_icmp_gt (tgt := 165) hx hb dL_isSound_158 (by decide) (fun c29 => ?_) (fun c29 => ?_)
                  · have hf := g_it c29 hf
                    refine lv_iconst (v := 0) hx hb dL_isSound_165 (by decide) ?_
                    obtain rfl := Option.some.inj hf
                    exact hJj14 _ _ hG ls (lv_sub hl [3, 1, 5] rfl)
                  · have hf := g_if c29 hf
                    refine lv_iconst (v := 1) hx hb dL_isSound_161 (by decide) ?_
                    refine lv_goto (tgt := 166) hx hb dL_isSound_162 (by decide) ?_
                    obtain rfl := Option.some.inj hf
                    exact hJj14 _ _ hG ls (lv_sub hl [3, 1, 5] rfl)
                · have hf := g_if c27 hf
                  refine lv_aload_n hx hb dL_isSound_139 rfl (lv_at hl 3 rfl) ?_
                  refine lv_iload_n hx hb dL_isSound_140 rfl (lv_at hl 5 rfl) ?_
                  obtain ⟨x30, hx30, hf⟩ := g_bnd hf
                  refine g_rv (As := [.int v8.2.2.1]) (rest := []) F hK (hG.X hX hAB) hG.1 [0, 1, 2, 3, 4, 5, 6, 7] rfl (c_X8_steps h0 b0 (w0.1, w0.2.1, w0.2.2.1, w0.2.2.2.1, x16.2) v8.2.2.1 (jr_in hx30)) (kL_68 F.2.2.2.2 ⟨Nat.le_of_ble_eq_true rfl, Nat.le_of_ble_eq_true rfl⟩) rfl rfl rfl rfl hl.1 rfl (lv_room (Nat.le_of_ble_eq_true rfl)) ⟨Nat.zero_le _, Nat.zero_le _⟩ dL_isSound_141 ?_
                  refine lv_if_le (tgt := 165) hx hb dL_isSound_144 (by decide) (fun c31 => ?_) (fun c31 => ?_)
                  · have hf := g_it c31 hf
                    refine lv_iconst (v := 0) hx hb dL_isSound_165 (by decide) ?_
                    obtain rfl := Option.some.inj hf
                    exact hJj14 _ _ hG ls (lv_sub hl [3, 1, 5] rfl)
                  · have hf := g_if c31 hf
                    refine lv_goto (tgt := 161) hx hb dL_isSound_147 (by decide) ?_
                    refine lv_iconst (v := 1) hx hb dL_isSound_161 (by decide) ?_
                    refine lv_goto (tgt := 166) hx hb dL_isSound_162 (by decide) ?_
                    obtain rfl := Option.some.inj hf
                    exact hJj14 _ _ hG ls (lv_sub hl [3, 1, 5] rfl)
          · have hf := g_if c19 hf
            refine lv_aload_n hx hb dL_isSound_89 rfl (lv_at hl 3 rfl) ?_
            refine lv_iload_n hx hb dL_isSound_90 rfl (lv_at hl 5 rfl) ?_
            refine lv_iconst (v := 1) hx hb dL_isSound_91 (by decide) ?_
            obtain ⟨x32, hx32, hf⟩ := g_bnd hf
            refine g_rv (As := [.int v8.2.2.1, .int 1]) (rest := []) F hK (hG.X hX hAB) hG.1 [0, 1, 2, 3, 4, 5, 6, 7] rfl (c_X8_word h0 b0 (w0.1, w0.2.1, w0.2.2.1, w0.2.2.2.1, x16.2) v8.2.2.1 1 (jr_in hx32)) (kL_62 F.2.2.2.2 ⟨Nat.le_of_ble_eq_true rfl, Nat.le_of_ble_eq_true rfl⟩) rfl rfl rfl rfl hl.1 rfl (lv_room (Nat.le_of_ble_eq_true rfl)) ⟨Nat.zero_le _, Nat.zero_le _⟩ dL_isSound_92 ?_
            refine lv_if_le (tgt := 165) hx hb dL_isSound_95 (by decide) (fun c33 => ?_) (fun c33 => ?_)
            · have hf := g_it c33 hf
              refine lv_iconst (v := 0) hx hb dL_isSound_165 (by decide) ?_
              obtain rfl := Option.some.inj hf
              exact hJj14 _ _ hG ls (lv_sub hl [3, 1, 5] rfl)
            · have hf := g_if c33 hf
              refine lv_aload_n hx hb dL_isSound_98 rfl (lv_at hl 3 rfl) ?_
              refine lv_iload_n hx hb dL_isSound_99 rfl (lv_at hl 5 rfl) ?_
              refine lv_iconst (v := 0) hx hb dL_isSound_100 (by decide) ?_
              obtain ⟨x34, hx34, hf⟩ := g_bnd hf
              refine g_rv (As := [.int v8.2.2.1, .int 0]) (rest := []) F hK (hG.X hX hAB) hG.1 [0, 1, 2, 3, 4, 5, 6, 7] rfl (c_X8_presses h0 b0 (w0.1, w0.2.1, w0.2.2.1, w0.2.2.2.1, x16.2) v8.2.2.1 0 (jr_in hx34)) (kL_94 F.2.2.2.2 ⟨Nat.le_of_ble_eq_true rfl, Nat.le_of_ble_eq_true rfl⟩) rfl rfl rfl rfl hl.1 rfl (lv_room (Nat.le_of_ble_eq_true rfl)) ⟨Nat.zero_le _, Nat.zero_le _⟩ dL_isSound_101 ?_
              refine lv_aload_n hx hb dL_isSound_104 rfl (lv_at hl 3 rfl) ?_
              refine lv_iload_n hx hb dL_isSound_105 rfl (lv_at hl 5 rfl) ?_
              refine lv_iconst (v := 0) hx hb dL_isSound_106 (by decide) ?_
              obtain ⟨x35, hx35, hf⟩ := g_bnd hf
              refine g_rv (As := [.int v8.2.2.1, .int 0]) (rest := [.int x34]) F hK (hG.X hX hAB) hG.1 [0, 1, 2, 3, 4, 5, 6, 7] rfl (c_X8_word h0 b0 (w0.1, w0.2.1, w0.2.2.1, w0.2.2.2.1, x16.2) v8.2.2.1 0 (jr_in hx35)) (kL_62 F.2.2.2.2 ⟨Nat.le_of_ble_eq_true rfl, Nat.le_of_ble_eq_true rfl⟩) rfl rfl rfl rfl hl.1 rfl (lv_room (Nat.le_of_ble_eq_true rfl)) ⟨Nat.zero_le _, Nat.zero_le _⟩ dL_isSound_107 ?_
              refine lv_aload_n hx hb dL_isSound_110 rfl (lv_at hl 3 rfl) ?_
              refine lv_iload_n hx hb dL_isSound_111 rfl (lv_at hl 5 rfl) ?_
              obtain ⟨x36, hx36, hf⟩ := g_bnd hf
              refine g_rv (As := [.int v8.2.2.1]) (rest := [.int x35, .int x34]) F hK (hG.X hX hAB) hG.1 [0, 1, 2, 3, 4, 5, 6, 7] rfl (c_X8_steps h0 b0 (w0.1, w0.2.1, w0.2.2.1, w0.2.2.2.1, x16.2) v8.2.2.1 (jr_in hx36)) (kL_68 F.2.2.2.2 ⟨Nat.le_of_ble_eq_true rfl, Nat.le_of_ble_eq_true rfl⟩) rfl rfl rfl rfl hl.1 rfl (lv_room (Nat.le_of_ble_eq_true rfl)) ⟨Nat.zero_le _, Nat.zero_le _⟩ dL_isSound_112 ?_
              refine lv_iadd hx hb dL_isSound_115 ?_
              refine lv_icmp_ne (tgt := 165) hx hb dL_isSound_116 (by decide) (fun c37 => ?_) (fun c37 => ?_)
              · have hf := g_if c37 hf
                refine lv_iconst (v := 0) hx hb dL_isSound_165 (by decide) ?_
                obtain rfl := Option.some.inj hf
                exact hJj14 _ _ hG ls (lv_sub hl [3, 1, 5] rfl)
              · have hf := g_it c37 hf
                refine lv_aload_n hx hb dL_isSound_119 rfl (lv_at hl 3 rfl) ?_
                refine lv_iload_n hx hb dL_isSound_120 rfl (lv_at hl 5 rfl) ?_
                refine lv_iconst (v := 1) hx hb dL_isSound_121 (by decide) ?_
                obtain ⟨x38, hx38, hf⟩ := g_bnd hf
                refine g_rv (As := [.int v8.2.2.1, .int 1]) (rest := []) F hK (hG.X hX hAB) hG.1 [0, 1, 2, 3, 4, 5, 6, 7] rfl (c_X8_presses h0 b0 (w0.1, w0.2.1, w0.2.2.1, w0.2.2.2.1, x16.2) v8.2.2.1 1 (jr_in hx38)) (kL_94 F.2.2.2.2 ⟨Nat.le_of_ble_eq_true rfl, Nat.le_of_ble_eq_true rfl⟩) rfl rfl rfl rfl hl.1 rfl (lv_room (Nat.le_of_ble_eq_true rfl)) ⟨Nat.zero_le _, Nat.zero_le _⟩ dL_isSound_122 ?_
                refine lv_aload_n hx hb dL_isSound_125 rfl (lv_at hl 3 rfl) ?_
                refine lv_iload_n hx hb dL_isSound_126 rfl (lv_at hl 5 rfl) ?_
                refine lv_iconst (v := 0) hx hb dL_isSound_127 (by decide) ?_
                obtain ⟨x39, hx39, hf⟩ := g_bnd hf
                refine g_rv (As := [.int v8.2.2.1, .int 0]) (rest := [.int x38]) F hK (hG.X hX hAB) hG.1 [0, 1, 2, 3, 4, 5, 6, 7] rfl (c_X8_word h0 b0 (w0.1, w0.2.1, w0.2.2.1, w0.2.2.2.1, x16.2) v8.2.2.1 0 (jr_in hx39)) (kL_62 F.2.2.2.2 ⟨Nat.le_of_ble_eq_true rfl, Nat.le_of_ble_eq_true rfl⟩) rfl rfl rfl rfl hl.1 rfl (lv_room (Nat.le_of_ble_eq_true rfl)) ⟨Nat.zero_le _, Nat.zero_le _⟩ dL_isSound_128 ?_
                refine lv_icmp_lt (tgt := 165) hx hb dL_isSound_131 (by decide) (fun c40 => ?_) (fun c40 => ?_)
                · have hf := g_it c40 hf
                  refine lv_iconst (v := 0) hx hb dL_isSound_165 (by decide) ?_
                  obtain rfl := Option.some.inj hf
                  exact hJj14 _ _ hG ls (lv_sub hl [3, 1, 5] rfl)
                · have hf := g_if c40 hf
                  refine lv_iload hx hb dL_isSound_134 (lv_at hl 0 rfl) ?_
                  refine lv_if_ge (tgt := 150) hx hb dL_isSound_136 (by decide) (fun c41 => ?_) (fun c41 => ?_)
                  · have hf := g_it c41 hf
                    refine lv_iload hx hb dL_isSound_150 (lv_at hl 0 rfl) ?_
                    refine lv_aload_n hx hb dL_isSound_152 rfl (lv_at hl 3 rfl) ?_
                    refine lv_iload_n hx hb dL_isSound_153 rfl (lv_at hl 5 rfl) ?_
                    refine lv_iconst (v := 0) hx hb dL_isSound_154 (by decide) ?_
                    obtain ⟨x42, hx42, hf⟩ := g_bnd hf
                    refine g_rv (As := [.int v8.2.2.1, .int 0]) (rest := [.int x13]) F hK (hG.X hX hAB) hG.1 [0, 1, 2, 3, 4, 5, 6, 7] rfl (c_X8_word h0 b0 (w0.1, w0.2.1, w0.2.2.1, w0.2.2.2.1, x16.2) v8.2.2.1 0 (jr_in hx42)) (kL_62 F.2.2.2.2 ⟨Nat.le_of_ble_eq_true rfl, Nat.le_of_ble_eq_true rfl⟩) rfl rfl rfl rfl hl.1 rfl (lv_room (Nat.le_of_ble_eq_true rfl)) ⟨Nat.zero_le _, Nat.zero_le _⟩ dL_isSound_155 ?_
                    refine lv_icmp_gt (tgt := 165) hx hb dL_isSound_158 (by decide) (fun c43 => ?_) (fun c43 => ?_)
                    · have hf := g_it c43 hf
                      refine lv_iconst (v := 0) hx hb dL_isSound_165 (by decide) ?_
                      obtain rfl := Option.some.inj hf
                      exact hJj14 _ _ hG ls (lv_sub hl [3, 1, 5] rfl)
                    · have hf := g_if c43 hf
                      refine lv_iconst (v := 1) hx hb dL_isSound_161 (by decide) ?_
                      refine lv_goto (tgt := 166) hx hb dL_isSound_162 (by decide) ?_
                      obtain rfl := Option.some.inj hf
                      exact hJj14 _ _ hG ls (lv_sub hl [3, 1, 5] rfl)
                  · have hf := g_if c41 hf
                    refine lv_aload_n hx hb dL_isSound_139 rfl (lv_at hl 3 rfl) ?_
                    refine lv_iload_n hx hb dL_isSound_140 rfl (lv_at hl 5 rfl) ?_
                    obtain ⟨x44, hx44, hf⟩ := g_bnd hf
                    refine g_rv (As := [.int v8.2.2.1]) (rest := []) F hK (hG.X hX hAB) hG.1 [0, 1, 2, 3, 4, 5, 6, 7] rfl (c_X8_steps h0 b0 (w0.1, w0.2.1, w0.2.2.1, w0.2.2.2.1, x16.2) v8.2.2.1 (jr_in hx44)) (kL_68 F.2.2.2.2 ⟨Nat.le_of_ble_eq_true rfl, Nat.le_of_ble_eq_true rfl⟩) rfl rfl rfl rfl hl.1 rfl (lv_room (Nat.le_of_ble_eq_true rfl)) ⟨Nat.zero_le _, Nat.zero_le _⟩ dL_isSound_141 ?_
                    refine lv_if_le (tgt := 165) hx hb dL_isSound_144 (by decide) (fun c45 => ?_) (fun c45 => ?_)
                    · have hf := g_it c45 hf
                      refine lv_iconst (v := 0) hx hb dL_isSound_165 (by decide) ?_
                      obtain rfl := Option.some.inj hf
                      exact hJj14 _ _ hG ls (lv_sub hl [3, 1, 5] rfl)
                    · have hf := g_if c45 hf
                      refine lv_goto (tgt := 161) hx hb dL_isSound_147 (by decide) ?_
                      refine lv_iconst (v := 1) hx hb dL_isSound_161 (by decide) ?_
                      refine lv_goto (tgt := 166) hx hb dL_isSound_162 (by decide) ?_
                      obtain rfl := Option.some.inj hf
                      exact hJj14 _ _ hG ls (lv_sub hl [3, 1, 5] rfl)
  refine lv_icmp_gt (tgt := 31) hx hb dL_isSound_7 (by decide) (fun c3 => ?_) (fun c3 => ?_)
  · have hf := g_it c3 hf
    refine lv_iconst (v := 0) hx hb dL_isSound_31 (by decide) ?_
    obtain rfl := Option.some.inj hf
    exact hJj2 _ _ hG ls (lv_sub hl [0] rfl)
  · have hf := g_if c3 hf
    refine lv_aload_n hx hb dL_isSound_10 rfl (lv_at hl 0 rfl) ?_
    obtain ⟨x4, hx4, hf⟩ := g_bnd hf
    refine g_rv (As := []) (rest := []) F hK (hG.X hX hAB) hG.1 [0, 1, 2, 3, 4, 5, 6, 7] rfl (c_X8_clashing h0 b0 (w0.1, w0.2.1, w0.2.2.1, w0.2.2.2.1, x1.2) hx4) (kL_74 F.2.2.2.2 ⟨Nat.le_of_ble_eq_true rfl, Nat.le_of_ble_eq_true rfl⟩) rfl rfl rfl rfl hl.1 rfl (lv_room (Nat.le_of_ble_eq_true rfl)) ⟨Nat.zero_le _, Nat.zero_le _⟩ dL_isSound_11 ?_
    refine lv_iconst (v := 1) hx hb dL_isSound_14 (by decide) ?_
    refine lv_icmp_eq (tgt := 31) hx hb dL_isSound_15 (by decide) (fun c5 => ?_) (fun c5 => ?_)
    · have hf := g_it c5 hf
      refine lv_iconst (v := 0) hx hb dL_isSound_31 (by decide) ?_
      obtain rfl := Option.some.inj hf
      exact hJj2 _ _ hG ls (lv_sub hl [0] rfl)
    · have hf := g_if c5 hf
      refine lv_aload_n hx hb dL_isSound_18 rfl (lv_at hl 0 rfl) ?_
      obtain ⟨x6, hx6, hf⟩ := g_bnd hf
      refine g_rv (As := []) (rest := []) F hK (hG.X hX hAB) hG.1 [0, 1, 2, 3, 4, 5, 6, 7] rfl (c_X8_saving h0 b0 (w0.1, w0.2.1, w0.2.2.1, w0.2.2.2.1, x1.2) hx6) (kL_77 F.2.2.2.2 ⟨Nat.le_of_ble_eq_true rfl, Nat.le_of_ble_eq_true rfl⟩) rfl rfl rfl rfl hl.1 rfl (lv_room (Nat.le_of_ble_eq_true rfl)) ⟨Nat.zero_le _, Nat.zero_le _⟩ dL_isSound_19 ?_
      refine lv_dconst1 hx hb dL_isSound_22 ?_
      refine lv_dcmp hx hb dL_isSound_23 ?_
      refine lv_if_gt (tgt := 31) hx hb dL_isSound_24 (by decide) (fun c7 => ?_) (fun c7 => ?_)
      · have hf := g_it c7 hf
        refine lv_iconst (v := 0) hx hb dL_isSound_31 (by decide) ?_
        obtain rfl := Option.some.inj hf
        exact hJj2 _ _ hG ls (lv_sub hl [0] rfl)
      · have hf := g_if c7 hf
        refine lv_iconst (v := 1) hx hb dL_isSound_27 (by decide) ?_
        refine lv_goto (tgt := 32) hx hb dL_isSound_28 (by decide) ?_
        obtain rfl := Option.some.inj hf
        exact hJj2 _ _ hG ls (lv_sub hl [0] rfl)
