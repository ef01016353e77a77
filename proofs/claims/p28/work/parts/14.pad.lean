set_option maxHeartbeats 4000000 in
set_option maxRecDepth 100000 in
theorem c_X8_append {l : Launch} {E : gEnv} (h : Nat → Nat) (b0 : Nat) (w0 : T8) (a1 : Int32) {o : Int32 × T2} (hf : f_X8_append w0 a1 = some (.inr o)) : gM l yX8_append cX8_append 2 (some .int) rX8_append E [.ref (h b0), .int a1] [C8 E h b0, C2 E h (b0+1) w0.1, C6 E h (b0+3) w0.2.1, C5 E h (b0+9) w0.2.2.1.2.2, C6 E h ((b0+9)+1) w0.2.2.1.1, C7 E h ((b0+9)+7) w0.2.2.1.2.1, C3 E h (b0+18) w0.2.2.2.1, C0 E h (b0+20) w0.2.2.2.2] (some (.int o.1)) [C8 E h b0, C2 E h (b0+1) o.2, C6 E h (b0+3) w0.2.1, C5 E h (b0+9) w0.2.2.1.2.2, C6 E h ((b0+9)+1) w0.2.2.1.1, C7 E h ((b0+9)+7) w0.2.2.1.2.1, C3 E h (b0+18) w0.2.2.2.1, C0 E h (b0+20) w0.2.2.2.2] := by
  refine gM.of (by decide +kernel) (Nat.le_of_ble_eq_true rfl) rfl ?_
  intro p e s m below meth c F hr hlk hK hX hAB ls hl H locs hG
  have F : gF p m c cX8_append 2 s ([.ref (h b0), .int a1] : List Value).toArray RX8 := F
  generalize ([.ref (h b0), .int a1] : List Value).toArray = args at F ⊢
  generalize hQ : MQ below _ _ _ _ _ _ = Q
  generalize hA : gAd [C8 E h b0, C2 E h (b0+1) w0.1, C6 E h (b0+3) w0.2.1, C5 E h (b0+9) w0.2.2.1.2.2, C6 E h ((b0+9)+1) w0.2.2.1.1, C7 E h ((b0+9)+7) w0.2.2.1.2.1, C3 E h (b0+18) w0.2.2.2.1, C0 E h (b0+20) w0.2.2.2.2] = A at hAB hG
  have hl : lv_has ls 2 [(0, .ref (h b0)), (1, .int a1)] := hl
  have hx := F.1
  have hb := F.2.1
  unfold f_X8_append at hf
  refine lv_iload_n hx hb dX8_append_0 rfl (lv_at hl 1 rfl) ?_
  refine lv_if_lt (tgt := 10) hx hb dX8_append_1 (by decide) (fun c1 => ?_) (fun c1 => ?_)
  · have hf := g_it c1 hf
    exact absurd (Option.some.inj hf) (fun z => nomatch z)
  · have hf := g_if c1 hf
    refine lv_iload_n hx hb dX8_append_4 rfl (lv_at hl 1 rfl) ?_
    refine lv_bipush (v := 127) hx hb dX8_append_5 (by decide) ?_
    refine lv_icmp_le (tgt := 20) hx hb dX8_append_7 (by decide) (fun c2 => ?_) (fun c2 => ?_)
    · have hf := g_it c2 hf
      refine lv_aload_n hx hb dX8_append_20 rfl (lv_at hl 0 rfl) ?_
      refine g_get F hK hG.1 0 0 0 flX8_10 rfl rfl rfl dX8_append_21 ?_
      obtain ⟨x3, hx3, hf⟩ := g_bnd hf
      refine g_rv (As := []) (rest := []) F hK (hG.X hX hAB) hG.1 [1] rfl (c_X2_isFull h (b0+1) w0.1 hx3) (kX8_51 F.2.2.2.2 ⟨Nat.le_of_ble_eq_true rfl, Nat.le_of_ble_eq_true rfl⟩) rfl rfl rfl rfl hl.1 rfl (lv_room (Nat.le_of_ble_eq_true rfl)) ⟨Nat.zero_le _, Nat.zero_le _⟩ dX8_append_24 ?_
      refine lv_if_eq (tgt := 40) hx hb dX8_append_27 (by decide) (fun c4 => ?_) (fun c4 => ?_)
      · have hf := g_it c4 hf
        refine lv_aload_n hx hb dX8_append_40 rfl (lv_at hl 0 rfl) ?_
        refine g_get F hK hG.1 0 0 0 flX8_10 rfl rfl rfl dX8_append_41 ?_
        refine lv_iload_n hx hb dX8_append_44 rfl (lv_at hl 1 rfl) ?_
        obtain ⟨x5, hx5, hf⟩ := g_bnd hf
        refine g_mvv (S' := [C8 E h b0, C2 E h (b0+1) x5, C6 E h (b0+3) w0.2.1, C5 E h (b0+9) w0.2.2.1.2.2, C6 E h ((b0+9)+1) w0.2.2.1.1, C7 E h ((b0+9)+7) w0.2.2.1.2.1, C3 E h (b0+18) w0.2.2.2.1, C0 E h (b0+20) w0.2.2.2.2]) (As := [.int a1]) (rest := []) F hK hX hAB hG [1] rfl rfl (c_X2_addByte h (b0+1) w0.1 a1 hx5) rfl (kX8_60 F.2.2.2.2 ⟨Nat.le_of_ble_eq_true rfl, Nat.le_of_ble_eq_true rfl⟩) rfl rfl rfl rfl hl.1 rfl (lv_room (Nat.le_of_ble_eq_true rfl)) ⟨Nat.zero_le _, Nat.zero_le _⟩ dX8_append_45 (fun H locs hG => ?_)
        refine lv_aload_n hx hb dX8_append_48 rfl (lv_at hl 0 rfl) ?_
        refine g_get F hK hG.1 0 0 0 flX8_10 rfl rfl rfl dX8_append_49 ?_
        refine g_get F hK hG.1 1 0 1 flX8_64 rfl rfl rfl dX8_append_52 ?_
        have ho := Option.some.inj hf
        subst hA
        have ho := Sum.inr.inj ho
        rw [← hQ, ← ho]
        exact g_mretI F hr hlk hG dX8_append_55
      · have hf := g_if c4 hf
        exact absurd (Option.some.inj hf) (fun z => nomatch z)
    · have hf := g_if c2 hf
      exact absurd (Option.some.inj hf) (fun z => nomatch z)
set_option maxHeartbeats 4000000 in
set_option maxRecDepth 100000 in
theorem c_X8_load {l : Launch} {E : gEnv} (h : Nat → Nat) (b0 : Nat) (w0 : T8) {o : Int32 × T2 × T6 × T5s × T6 × T3} (hf : f_X8_load w0 = some o) : gM l yX8_load cX8_load 2 (some .int) rX8_load E [.ref (h b0)] [C8 E h b0, C2 E h (b0+1) w0.1, C6 E h (b0+3) w0.2.1, C5 E h (b0+9) w0.2.2.1.2.2, C6 E h ((b0+9)+1) w0.2.2.1.1, C7 E h ((b0+9)+7) w0.2.2.1.2.1, C3 E h (b0+18) w0.2.2.2.1, C0 E h (b0+20) w0.2.2.2.2] (some (.int o.1)) [C8 E h b0, C2 E h (b0+1) o.2.1, C6 E h (b0+3) o.2.2.1, C5 E h (b0+9) o.2.2.2.1, C6 E h ((b0+9)+1) o.2.2.2.2.1, C7 E h ((b0+9)+7) w0.2.2.1.2.1, C3 E h (b0+18) o.2.2.2.2.2, C0 E h (b0+20) w0.2.2.2.2] := by
  refine gM.of (by decide +kernel) (Nat.le_of_ble_eq_true rfl) rfl ?_
  intro p e s m below meth c F hr hlk hK hX hAB ls hl H locs hG
  have F : gF p m c cX8_load 2 s ([.ref (h b0)] : List Value).toArray RX8 := F
  generalize ([.ref (h b0)] : List Value).toArray = args at F ⊢
  generalize hQ : MQ below _ _ _ _ _ _ = Q
  generalize hA : gAd [C8 E h b0, C2 E h (b0+1) w0.1, C6 E h (b0+3) w0.2.1, C5 E h (b0+9) w0.2.2.1.2.2, C6 E h ((b0+9)+1) w0.2.2.1.1, C7 E h ((b0+9)+7) w0.2.2.1.2.1, C3 E h (b0+18) w0.2.2.2.1, C0 E h (b0+20) w0.2.2.2.2] = A at hAB hG
  have hl : lv_has ls 2 [(0, .ref (h b0))] := hl
  have hx := F.1
  have hb := F.2.1
  unfold f_X8_load at hf
  refine lv_aload_n hx hb dX8_load_0 rfl (lv_at hl 0 rfl) ?_
  refine g_get F hK hG.1 0 0 0 flX8_10 rfl rfl rfl dX8_load_1 ?_
  refine lv_aload_n hx hb dX8_load_4 rfl (lv_at hl 0 rfl) ?_
  refine g_get F hK hG.1 0 0 1 flX8_19 rfl rfl rfl dX8_load_5 ?_
  obtain ⟨x1, hx1, hf⟩ := g_bnd hf
  refine g_mv (S' := [C8 E h b0, C2 E h (b0+1) x1.2.1, C6 E h (b0+3) x1.2.2, C5 E h (b0+9) w0.2.2.1.2.2, C6 E h ((b0+9)+1) w0.2.2.1.1, C7 E h ((b0+9)+7) w0.2.2.1.2.1, C3 E h (b0+18) w0.2.2.2.1, C0 E h (b0+20) w0.2.2.2.2]) (As := [.ref (h (b0+3))]) (rest := []) F hK hX hAB hG [1, 2] rfl rfl (c_X2_readInto h (b0+1) w0.1 (b0+3) w0.2.1 hx1) rfl (kX8_71 F.2.2.2.2 ⟨Nat.le_of_ble_eq_true rfl, Nat.le_of_ble_eq_true rfl⟩) rfl rfl rfl rfl hl.1 rfl (lv_room (Nat.le_of_ble_eq_true rfl)) ⟨Nat.zero_le _, Nat.zero_le _⟩ dX8_load_8 (fun H locs hG => ?_)
  refine lv_istore_n (lv' := [(1, .int x1.1), (0, .ref (h b0))]) hx hb dX8_load_11 rfl hl (by decide) rfl (fun ls hl => ?_)
  refine lv_iload_n hx hb dX8_load_12 rfl (lv_at hl 0 rfl) ?_
  refine lv_iconst (v := (-1)) hx hb dX8_load_13 (by decide) ?_
  refine lv_icmp_eq (tgt := 22) hx hb dX8_load_14 (by decide) (fun c2 => ?_) (fun c2 => ?_)
  · have hf := g_it c2 hf
    refine lv_aload_n hx hb dX8_load_22 rfl (lv_at hl 1 rfl) ?_
    refine g_get F hK hG.1 0 0 3 flX8_33 rfl rfl rfl dX8_load_23 ?_
    refine lv_aload_n hx hb dX8_load_26 rfl (lv_at hl 1 rfl) ?_
    refine g_get F hK hG.1 0 0 2 flX8_26 rfl rfl rfl dX8_load_27 ?_
    obtain ⟨x3, hx3, hf⟩ := g_bnd hf
    refine g_mvv (S' := [C8 E h b0, C2 E h (b0+1) x1.2.1, C6 E h (b0+3) x1.2.2, C5 E h (b0+9) w0.2.2.1.2.2, C6 E h ((b0+9)+1) w0.2.2.1.1, C7 E h ((b0+9)+7) w0.2.2.1.2.1, C3 E h (b0+18) x3, C0 E h (b0+20) w0.2.2.2.2]) (As := [.ref (h (b0+9))]) (rest := []) F hK hX hAB hG [6, 3, 4, 5] rfl rfl (c_X3_push h (b0+18) w0.2.2.2.1 (b0+9) w0.2.2.1 hx3) rfl (kX8_75 F.2.2.2.2 ⟨Nat.le_of_ble_eq_true rfl, Nat.le_of_ble_eq_true rfl⟩) rfl rfl rfl rfl hl.1 rfl (lv_room (Nat.le_of_ble_eq_true rfl)) ⟨Nat.zero_le _, Nat.zero_le _⟩ dX8_load_30 (fun H locs hG => ?_)
    refine lv_aload_n hx hb dX8_load_33 rfl (lv_at hl 1 rfl) ?_
    refine g_get F hK hG.1 0 0 2 flX8_26 rfl rfl rfl dX8_load_34 ?_
    refine g_get F hK hG.1 3 0 0 flX8_79 rfl rfl rfl dX8_load_37 ?_
    refine lv_aload_n hx hb dX8_load_40 rfl (lv_at hl 1 rfl) ?_
    refine g_get F hK hG.1 0 0 1 flX8_19 rfl rfl rfl dX8_load_41 ?_
    obtain ⟨x4, hx4, hf⟩ := g_bnd hf
    refine g_mvv (S' := [C8 E h b0, C2 E h (b0+1) x1.2.1, C6 E h (b0+3) x1.2.2, C5 E h (b0+9) w0.2.2.1.2.2, C6 E h ((b0+9)+1) x4, C7 E h ((b0+9)+7) w0.2.2.1.2.1, C3 E h (b0+18) x3, C0 E h (b0+20) w0.2.2.2.2]) (As := [.ref (h (b0+3))]) (rest := []) F hK hX hAB hG [4, 2] rfl rfl (c_X6_copyFrom h ((b0+9)+1) w0.2.2.1.1 (b0+3) x1.2.2 hx4) rfl (kX8_82 F.2.2.2.2 ⟨Nat.le_of_ble_eq_true rfl, Nat.le_of_ble_eq_true rfl⟩) rfl rfl rfl rfl hl.1 rfl (lv_room (Nat.le_of_ble_eq_true rfl)) ⟨Nat.zero_le _, Nat.zero_le _⟩ dX8_load_44 (fun H locs hG => ?_)
    refine lv_aload_n hx hb dX8_load_47 rfl (lv_at hl 1 rfl) ?_
    refine g_get F hK hG.1 0 0 2 flX8_26 rfl rfl rfl dX8_load_48 ?_
    refine lv_iconst (v := 0) hx hb dX8_load_51 (by decide) ?_
    refine g_put F hK hG 3 0 8 pfX8_86 rfl rfl (Nat.le_of_ble_eq_true rfl) rfl rfl dX8_load_52 (fun H locs hG => ?_)
    have hG : gS E A s.heap [C8 E h b0, C2 E h (b0+1) x1.2.1, C6 E h (b0+3) x1.2.2, C5 E h (b0+9) (w0.2.2.1.2.2.1, w0.2.2.1.2.2.2.1, w0.2.2.1.2.2.2.2.1, w0.2.2.1.2.2.2.2.2.1, w0.2.2.1.2.2.2.2.2.2.1, w0.2.2.1.2.2.2.2.2.2.2.1, 0, w0.2.2.1.2.2.2.2.2.2.2.2.2), C6 E h ((b0+9)+1) x4, C7 E h ((b0+9)+7) w0.2.2.1.2.1, C3 E h (b0+18) x3, C0 E h (b0+20) w0.2.2.2.2] H locs := hG
    refine lv_aload_n hx hb dX8_load_55 rfl (lv_at hl 1 rfl) ?_
    refine g_get F hK hG.1 0 0 2 flX8_26 rfl rfl rfl dX8_load_56 ?_
    refine g_get F hK hG.1 3 0 0 flX8_79 rfl rfl rfl dX8_load_59 ?_
    refine g_get F hK hG.1 4 0 5 flX8_89 rfl rfl rfl dX8_load_62 ?_
    have ho := Option.some.inj hf
    subst hA
    rw [← hQ, ← ho]
    exact g_mretI F hr hlk hG dX8_load_65
  · have hf := g_if c2 hf
    refine lv_bipush (v := (-10)) hx hb dX8_load_17 (by decide) ?_
    refine lv_iload_n hx hb dX8_load_19 rfl (lv_at hl 0 rfl) ?_
    refine lv_isub hx hb dX8_load_20 ?_
    have ho := Option.some.inj hf
    subst hA
    rw [← hQ, ← ho]
    exact g_mretI F hr hlk hG dX8_load_21
set_option maxHeartbeats 4000000 in
set_option maxRecDepth 100000 in
theorem c_X8_setWays {l : Launch} {E : gEnv} (h : Nat → Nat) (b0 : Nat) (w0 : T8) (a1 : Int32) (a2 : Int32) {o : Int32 × T5s × T3} (hf : f_X8_setWays w0 a1 a2 = some (.inr o)) : gM l yX8_setWays cX8_setWays 4 (some .int) rX8_setWays E [.ref (h b0), .int a1, .int a2] [C8 E h b0, C2 E h (b0+1) w0.1, C6 E h (b0+3) w0.2.1, C5 E h (b0+9) w0.2.2.1.2.2, C6 E h ((b0+9)+1) w0.2.2.1.1, C7 E h ((b0+9)+7) w0.2.2.1.2.1, C3 E h (b0+18) w0.2.2.2.1, C0 E h (b0+20) w0.2.2.2.2] (some (.int o.1)) [C8 E h b0, C2 E h (b0+1) w0.1, C6 E h (b0+3) w0.2.1, C5 E h (b0+9) o.2.1, C6 E h ((b0+9)+1) w0.2.2.1.1, C7 E h ((b0+9)+7) w0.2.2.1.2.1, C3 E h (b0+18) o.2.2, C0 E h (b0+20) w0.2.2.2.2] := by
  refine gM.of (by decide +kernel) (Nat.le_of_ble_eq_true rfl) rfl ?_
  intro p e s m below meth c F hr hlk hK hX hAB ls hl H locs hG
  have F : gF p m c cX8_setWays 4 s ([.ref (h b0), .int a1, .int a2] : List Value).toArray RX8 := F
  generalize ([.ref (h b0), .int a1, .int a2] : List Value).toArray = args at F ⊢
  generalize hQ : MQ below _ _ _ _ _ _ = Q
  generalize hA : gAd [C8 E h b0, C2 E h (b0+1) w0.1, C6 E h (b0+3) w0.2.1, C5 E h (b0+9) w0.2.2.1.2.2, C6 E h ((b0+9)+1) w0.2.2.1.1, C7 E h ((b0+9)+7) w0.2.2.1.2.1, C3 E h (b0+18) w0.2.2.2.1, C0 E h (b0+20) w0.2.2.2.2] = A at hAB hG
  have hl : lv_has ls 4 [(0, .ref (h b0)), (1, .int a1), (2, .int a2)] := hl
  have hx := F.1
  have hb := F.2.1
  unfold f_X8_setWays at hf
  refine lv_iload_n hx hb dX8_setWays_0 rfl (lv_at hl 2 rfl) ?_
  refine lv_iconst (v := 1) hx hb dX8_setWays_1 (by decide) ?_
  refine lv_icmp_lt (tgt := 11) hx hb dX8_setWays_2 (by decide) (fun c1 => ?_) (fun c1 => ?_)
  · have hf := g_it c1 hf
    exact absurd (Option.some.inj hf) (fun z => nomatch z)
  · have hf := g_if c1 hf
    refine lv_iload_n hx hb dX8_setWays_5 rfl (lv_at hl 2 rfl) ?_
    refine lv_bipush (v := 50) hx hb dX8_setWays_6 (by decide) ?_
    refine lv_icmp_le (tgt := 21) hx hb dX8_setWays_8 (by decide) (fun c2 => ?_) (fun c2 => ?_)
    · have hf := g_it c2 hf
      refine lv_aload_n hx hb dX8_setWays_21 rfl (lv_at hl 0 rfl) ?_
      refine g_get F hK hG.1 0 0 3 flX8_33 rfl rfl rfl dX8_setWays_22 ?_
      refine lv_aload_n hx hb dX8_setWays_25 rfl (lv_at hl 0 rfl) ?_
      refine g_get F hK hG.1 0 0 2 flX8_26 rfl rfl rfl dX8_setWays_26 ?_
      obtain ⟨x3, hx3, hf⟩ := g_bnd hf
      refine g_mvv (S' := [C8 E h b0, C2 E h (b0+1) w0.1, C6 E h (b0+3) w0.2.1, C5 E h (b0+9) w0.2.2.1.2.2, C6 E h ((b0+9)+1) w0.2.2.1.1, C7 E h ((b0+9)+7) w0.2.2.1.2.1, C3 E h (b0+18) x3, C0 E h (b0+20) w0.2.2.2.2]) (As := [.ref (h (b0+9))]) (rest := []) F hK hX hAB hG [6, 3, 4, 5] rfl rfl (c_X3_push h (b0+18) w0.2.2.2.1 (b0+9) w0.2.2.1 hx3) rfl (kX8_75 F.2.2.2.2 ⟨Nat.le_of_ble_eq_true rfl, Nat.le_of_ble_eq_true rfl⟩) rfl rfl rfl rfl hl.1 rfl (lv_room (Nat.le_of_ble_eq_true rfl)) ⟨Nat.zero_le _, Nat.zero_le _⟩ dX8_setWays_29 (fun H locs hG => ?_)
      refine lv_aload_n hx hb dX8_setWays_32 rfl (lv_at hl 0 rfl) ?_
      refine g_get F hK hG.1 0 0 2 flX8_26 rfl rfl rfl dX8_setWays_33 ?_
      refine g_get F hK hG.1 3 0 3 flX8_94 rfl rfl rfl dX8_setWays_36 ?_
      refine lv_istore_n (lv' := [(3, .int w0.2.2.1.2.2.2.1), (0, .ref (h b0)), (1, .int a1), (2, .int a2)]) hx hb dX8_setWays_39 rfl hl (by decide) rfl (fun ls hl => ?_)
      refine lv_aload_n hx hb dX8_setWays_40 rfl (lv_at hl 1 rfl) ?_
      refine g_get F hK hG.1 0 0 2 flX8_26 rfl rfl rfl dX8_setWays_41 ?_
      refine lv_iload_n hx hb dX8_setWays_44 rfl (lv_at hl 2 rfl) ?_
      obtain ⟨u4, hu4, hf⟩ := g_bnd hf
      refine g_put F hK hG 3 0 4 pfX8_97 rfl rfl (Nat.le_of_ble_eq_true rfl) (bz_nar hu4) (bz_fit hu4) dX8_setWays_45 (fun H locs hG => ?_)
      have hG : gS E A s.heap [C8 E h b0, C2 E h (b0+1) w0.1, C6 E h (b0+3) w0.2.1, C5 E h (b0+9) (w0.2.2.1.2.2.1, w0.2.2.1.2.2.2.1, a1, w0.2.2.1.2.2.2.2.2.1, w0.2.2.1.2.2.2.2.2.2.1, w0.2.2.1.2.2.2.2.2.2.2.1, w0.2.2.1.2.2.2.2.2.2.2.2.1, w0.2.2.1.2.2.2.2.2.2.2.2.2), C6 E h ((b0+9)+1) w0.2.2.1.1, C7 E h ((b0+9)+7) w0.2.2.1.2.1, C3 E h (b0+18) x3, C0 E h (b0+20) w0.2.2.2.2] H locs := hG
      refine lv_aload_n hx hb dX8_setWays_48 rfl (lv_at hl 1 rfl) ?_
      refine g_get F hK hG.1 0 0 2 flX8_26 rfl rfl rfl dX8_setWays_49 ?_
      refine lv_iload_n hx hb dX8_setWays_52 rfl (lv_at hl 3 rfl) ?_
      refine g_put F hK hG 3 0 3 pfX8_94 rfl rfl (Nat.le_of_ble_eq_true rfl) rfl rfl dX8_setWays_53 (fun H locs hG => ?_)
      have hG : gS E A s.heap [C8 E h b0, C2 E h (b0+1) w0.1, C6 E h (b0+3) w0.2.1, C5 E h (b0+9) (w0.2.2.1.2.2.1, a2, a1, w0.2.2.1.2.2.2.2.2.1, w0.2.2.1.2.2.2.2.2.2.1, w0.2.2.1.2.2.2.2.2.2.2.1, w0.2.2.1.2.2.2.2.2.2.2.2.1, w0.2.2.1.2.2.2.2.2.2.2.2.2), C6 E h ((b0+9)+1) w0.2.2.1.1, C7 E h ((b0+9)+7) w0.2.2.1.2.1, C3 E h (b0+18) x3, C0 E h (b0+20) w0.2.2.2.2] H locs := hG
      refine lv_aload_n hx hb dX8_setWays_56 rfl (lv_at hl 1 rfl) ?_
      refine g_get F hK hG.1 0 0 2 flX8_26 rfl rfl rfl dX8_setWays_57 ?_
      refine lv_iconst (v := 0) hx hb dX8_setWays_60 (by decide) ?_
      refine g_put F hK hG 3 0 8 pfX8_86 rfl rfl (Nat.le_of_ble_eq_true rfl) rfl rfl dX8_setWays_61 (fun H locs hG => ?_)
      have hG : gS E A s.heap [C8 E h b0, C2 E h (b0+1) w0.1, C6 E h (b0+3) w0.2.1, C5 E h (b0+9) (w0.2.2.1.2.2.1, a2, a1, w0.2.2.1.2.2.2.2.2.1, w0.2.2.1.2.2.2.2.2.2.1, w0.2.2.1.2.2.2.2.2.2.2.1, 0, w0.2.2.1.2.2.2.2.2.2.2.2.2), C6 E h ((b0+9)+1) w0.2.2.1.1, C7 E h ((b0+9)+7) w0.2.2.1.2.1, C3 E h (b0+18) x3, C0 E h (b0+20) w0.2.2.2.2] H locs := hG
      refine lv_iload_n hx hb dX8_setWays_64 rfl (lv_at hl 0 rfl) ?_
      have ho := Option.some.inj hf
      subst hA
      have ho := Sum.inr.inj ho
      rw [← hQ, ← ho]
      exact g_mretI F hr hlk hG dX8_setWays_65
    · have hf := g_if c2 hf
      exact absurd (Option.some.inj hf) (fun z => nomatch z)
set_option maxHeartbeats 4000000 in
set_option maxRecDepth 100000 in
theorem c_X8_word {l : Launch} {E : gEnv} (h : Nat → Nat) (b0 : Nat) (w0 : T8) (a1 : Int32) (a2 : Int32) {o : Int32} (hf : f_X8_word w0 a1 a2 = some (.inr o)) : gR l yX8_word cX8_word 3 (some .int) rX8_word E [.ref (h b0), .int a1, .int a2] [C8 E h b0, C2 E h (b0+1) w0.1, C6 E h (b0+3) w0.2.1, C5 E h (b0+9) w0.2.2.1.2.2, C6 E h ((b0+9)+1) w0.2.2.1.1, C7 E h ((b0+9)+7) w0.2.2.1.2.1, C3 E h (b0+18) w0.2.2.2.1, C0 E h (b0+20) w0.2.2.2.2] (some (.int o)) := by
  refine gR.of (by decide +kernel) (Nat.le_of_ble_eq_true rfl) ?_
  intro p e s m below meth c F hr hlk hK hX hP ls hl
  have F : gF p m c cX8_word 3 s ([.ref (h b0), .int a1, .int a2] : List Value).toArray RX8 := F
  generalize ([.ref (h b0), .int a1, .int a2] : List Value).toArray = args at F ⊢
  generalize hQ : MQ below _ _ _ _ _ _ = Q
  have hl : lv_has ls 3 [(0, .ref (h b0)), (1, .int a1), (2, .int a2)] := hl
  have hx := F.1
  have hb := F.2.1
  unfold f_X8_word at hf
  refine lv_aload_n hx hb dX8_word_0 rfl (lv_at hl 0 rfl) ?_
  refine g_get F hK hP 0 0 2 flX8_26 rfl rfl rfl dX8_word_1 ?_
  refine g_get F hK hP 3 0 0 flX8_79 rfl rfl rfl dX8_word_4 ?_
  refine lv_iload_n hx hb dX8_word_7 rfl (lv_at hl 1 rfl) ?_
  obtain ⟨x1, hx1, hf⟩ := g_bnd hf
  refine g_rv (As := [.int a1]) (rest := []) F hK hX hP [4] rfl (c_X6_has h ((b0+9)+1) w0.2.2.1.1 a1 hx1) (kX8_101 F.2.2.2.2 ⟨Nat.le_of_ble_eq_true rfl, Nat.le_of_ble_eq_true rfl⟩) rfl rfl rfl rfl hl.1 rfl (lv_room (Nat.le_of_ble_eq_true rfl)) ⟨Nat.zero_le _, Nat.zero_le _⟩ dX8_word_8 ?_
  refine lv_if_ne (tgt := 24) hx hb dX8_word_11 (by decide) (fun c2 => ?_) (fun c2 => ?_)
  · have hf := g_if c2 hf
    refine lv_iload_n hx hb dX8_word_24 rfl (lv_at hl 2 rfl) ?_
    refine lv_if_lt (tgt := 33) hx hb dX8_word_25 (by decide) (fun c3 => ?_) (fun c3 => ?_)
    · have hf := g_it c3 hf
      exact absurd (Option.some.inj hf) (fun z => nomatch z)
    · have hf := g_if c3 hf
      refine lv_iload_n hx hb dX8_word_28 rfl (lv_at hl 2 rfl) ?_
      refine lv_iconst (v := 5) hx hb dX8_word_29 (by decide) ?_
      refine lv_icmp_lt (tgt := 43) hx hb dX8_word_30 (by decide) (fun c4 => ?_) (fun c4 => ?_)
      · have hf := g_it c4 hf
        refine lv_aload_n hx hb dX8_word_43 rfl (lv_at hl 0 rfl) ?_
        refine g_get F hK hP 0 0 2 flX8_26 rfl rfl rfl dX8_word_44 ?_
        refine g_get F hK hP 3 0 0 flX8_79 rfl rfl rfl dX8_word_47 ?_
        refine lv_iload_n hx hb dX8_word_50 rfl (lv_at hl 1 rfl) ?_
        refine lv_iload_n hx hb dX8_word_51 rfl (lv_at hl 2 rfl) ?_
        obtain ⟨x5, hx5, hf⟩ := g_bnd hf
        refine g_rv (As := [.int a1, .int a2]) (rest := []) F hK hX hP [4] rfl (c_X6_valueOf h ((b0+9)+1) w0.2.2.1.1 a1 a2 hx5) (kX8_112 F.2.2.2.2 ⟨Nat.le_of_ble_eq_true rfl, Nat.le_of_ble_eq_true rfl⟩) rfl rfl rfl rfl hl.1 rfl (lv_room (Nat.le_of_ble_eq_true rfl)) ⟨Nat.zero_le _, Nat.zero_le _⟩ dX8_word_52 ?_
        have ho := Option.some.inj hf
        have ho := Sum.inr.inj ho
        rw [← hQ, ← ho]
        exact g_retI F hr hlk dX8_word_55
      · have hf := g_if c4 hf
        exact absurd (Option.some.inj hf) (fun z => nomatch z)
  · have hf := g_it c2 hf
    exact absurd (Option.some.inj hf) (fun z => nomatch z)
set_option maxHeartbeats 4000000 in
set_option maxRecDepth 100000 in
theorem c_X8_letter {l : Launch} {E : gEnv} (h : Nat → Nat) (b0 : Nat) (w0 : T8) (a1 : Int32) (a2 : Int32) {o : Int32} (hf : f_X8_letter w0 a1 a2 = some (.inr o)) : gR l yX8_letter cX8_letter 5 (some .int) rX8_letter E [.ref (h b0), .int a1, .int a2] [C8 E h b0, C2 E h (b0+1) w0.1, C6 E h (b0+3) w0.2.1, C5 E h (b0+9) w0.2.2.1.2.2, C6 E h ((b0+9)+1) w0.2.2.1.1, C7 E h ((b0+9)+7) w0.2.2.1.2.1, C3 E h (b0+18) w0.2.2.2.1, C0 E h (b0+20) w0.2.2.2.2] (some (.int o)) := by
  refine gR.of (by decide +kernel) (Nat.le_of_ble_eq_true rfl) ?_
  intro p e s m below meth c F hr hlk hK hX hP ls hl
  have F : gF p m c cX8_letter 5 s ([.ref (h b0), .int a1, .int a2] : List Value).toArray RX8 := F
  generalize ([.ref (h b0), .int a1, .int a2] : List Value).toArray = args at F ⊢
  generalize hQ : MQ below _ _ _ _ _ _ = Q
  have hl : lv_has ls 5 [(0, .ref (h b0)), (1, .int a1), (2, .int a2)] := hl
  have hx := F.1
  have hb := F.2.1
  unfold f_X8_letter at hf
  refine lv_aload_n hx hb dX8_letter_0 rfl (lv_at hl 0 rfl) ?_
  refine g_get F hK hP 0 0 2 flX8_26 rfl rfl rfl dX8_letter_1 ?_
  refine g_get F hK hP 3 0 0 flX8_79 rfl rfl rfl dX8_letter_4 ?_
  refine lv_iload_n hx hb dX8_letter_7 rfl (lv_at hl 1 rfl) ?_
  obtain ⟨x1, hx1, hf⟩ := g_bnd hf
  refine g_rv (As := [.int a1]) (rest := []) F hK hX hP [4] rfl (c_X6_has h ((b0+9)+1) w0.2.2.1.1 a1 hx1) (kX8_101 F.2.2.2.2 ⟨Nat.le_of_ble_eq_true rfl, Nat.le_of_ble_eq_true rfl⟩) rfl rfl rfl rfl hl.1 rfl (lv_room (Nat.le_of_ble_eq_true rfl)) ⟨Nat.zero_le _, Nat.zero_le _⟩ dX8_letter_8 ?_
  refine lv_if_ne (tgt := 24) hx hb dX8_letter_11 (by decide) (fun c2 => ?_) (fun c2 => ?_)
  · have hf := g_if c2 hf
    refine lv_aload_n hx hb dX8_letter_24 rfl (lv_at hl 0 rfl) ?_
    refine g_get F hK hP 0 0 2 flX8_26 rfl rfl rfl dX8_letter_25 ?_
    refine g_get F hK hP 3 0 0 flX8_79 rfl rfl rfl dX8_letter_28 ?_
    refine lv_iload_n hx hb dX8_letter_31 rfl (lv_at hl 1 rfl) ?_
    obtain ⟨x3, hx3, hf⟩ := g_bnd hf
    refine g_rv (As := [.int a1]) (rest := []) F hK hX hP [4] rfl (c_X6_wordAt h ((b0+9)+1) w0.2.2.1.1 a1 hx3) (kX8_116 F.2.2.2.2 ⟨Nat.le_of_ble_eq_true rfl, Nat.le_of_ble_eq_true rfl⟩) rfl rfl rfl rfl hl.1 rfl (lv_room (Nat.le_of_ble_eq_true rfl)) ⟨Nat.zero_le _, Nat.zero_le _⟩ dX8_letter_32 ?_
    refine lv_lstore_n (lv' := [(3, .long x3), (0, .ref (h b0)), (1, .int a1), (2, .int a2)]) hx hb dX8_letter_35 rfl hl (by decide) rfl (fun ls hl => ?_)
    refine lv_lload_n hx hb dX8_letter_36 rfl (lv_at hl 0 rfl) ?_
    refine lv_iload_n hx hb dX8_letter_37 rfl (lv_at hl 3 rfl) ?_
    obtain ⟨x4, hx4, hf⟩ := g_bnd hf
    refine g_rs (As := [.long x3, .int a2]) (rest := []) F hK hX hP [] rfl (c_X4_has h x3 a2 hx4) (kX8_120 F.2.2.2.2 ⟨Nat.le_of_ble_eq_true rfl, Nat.le_of_ble_eq_true rfl⟩) rfl hl.1 rfl (lv_room (Nat.le_of_ble_eq_true rfl)) ⟨Nat.zero_le _, Nat.zero_le _⟩ dX8_letter_38 ?_
    refine lv_if_ne (tgt := 54) hx hb dX8_letter_41 (by decide) (fun c5 => ?_) (fun c5 => ?_)
    · have hf := g_if c5 hf
      refine lv_lload_n hx hb dX8_letter_54 rfl (lv_at hl 0 rfl) ?_
      refine lv_iload_n hx hb dX8_letter_55 rfl (lv_at hl 3 rfl) ?_
      obtain ⟨x6, hx6, hf⟩ := g_bnd hf
      refine g_rs (As := [.long x3, .int a2]) (rest := []) F hK hX hP [] rfl (c_X4_letterAt h x3 a2 hx6) (kX8_127 F.2.2.2.2 ⟨Nat.le_of_ble_eq_true rfl, Nat.le_of_ble_eq_true rfl⟩) rfl hl.1 rfl (lv_room (Nat.le_of_ble_eq_true rfl)) ⟨Nat.zero_le _, Nat.zero_le _⟩ dX8_letter_56 ?_
      have ho := Option.some.inj hf
      have ho := Sum.inr.inj ho
      rw [← hQ, ← ho]
      exact g_retI F hr hlk dX8_letter_59
    · have hf := g_it c5 hf
      exact absurd (Option.some.inj hf) (fun z => nomatch z)
  · have hf := g_it c2 hf
    exact absurd (Option.some.inj hf) (fun z => nomatch z)
set_option maxHeartbeats 4000000 in
set_option maxRecDepth 100000 in
theorem c_X8_press {l : Launch} {E : gEnv} (h : Nat → Nat) (b0 : Nat) (w0 : T8) (a1 : Int32) {o : Int32 × T5s × T3} (hf : f_X8_press w0 a1 = some (.inr o)) : gM l yX8_press cX8_press 3 (some .int) rX8_press E [.ref (h b0), .int a1] [C8 E h b0, C2 E h (b0+1) w0.1, C6 E h (b0+3) w0.2.1, C5 E h (b0+9) w0.2.2.1.2.2, C6 E h ((b0+9)+1) w0.2.2.1.1, C7 E h ((b0+9)+7) w0.2.2.1.2.1, C3 E h (b0+18) w0.2.2.2.1, C0 E h (b0+20) w0.2.2.2.2] (some (.int o.1)) [C8 E h b0, C2 E h (b0+1) w0.1, C6 E h (b0+3) w0.2.1, C5 E h (b0+9) o.2.1, C6 E h ((b0+9)+1) w0.2.2.1.1, C7 E h ((b0+9)+7) w0.2.2.1.2.1, C3 E h (b0+18) o.2.2, C0 E h (b0+20) w0.2.2.2.2] := by
  refine gM.of (by decide +kernel) (Nat.le_of_ble_eq_true rfl) rfl ?_
  intro p e s m below meth c F hr hlk hK hX hAB ls hl H locs hG
  have F : gF p m c cX8_press 3 s ([.ref (h b0), .int a1] : List Value).toArray RX8 := F
  generalize ([.ref (h b0), .int a1] : List Value).toArray = args at F ⊢
  generalize hQ : MQ below _ _ _ _ _ _ = Q
  generalize hA : gAd [C8 E h b0, C2 E h (b0+1) w0.1, C6 E h (b0+3) w0.2.1, C5 E h (b0+9) w0.2.2.1.2.2, C6 E h ((b0+9)+1) w0.2.2.1.1, C7 E h ((b0+9)+7) w0.2.2.1.2.1, C3 E h (b0+18) w0.2.2.2.1, C0 E h (b0+20) w0.2.2.2.2] = A at hAB hG
  have hl : lv_has ls 3 [(0, .ref (h b0)), (1, .int a1)] := hl
  have hx := F.1
  have hb := F.2.1
  unfold f_X8_press at hf
  refine lv_iload_n hx hb dX8_press_0 rfl (lv_at hl 1 rfl) ?_
  obtain ⟨x1, hx1, hf⟩ := g_bnd hf
  refine g_rs (As := [.int a1]) (rest := []) F hK (hG.X hX hAB) hG.1 [] rfl (c_X1_isKey h a1 hx1) (kX8_131 F.2.2.2.2 ⟨Nat.le_of_ble_eq_true rfl, Nat.le_of_ble_eq_true rfl⟩) rfl hl.1 rfl (lv_room (Nat.le_of_ble_eq_true rfl)) ⟨Nat.zero_le _, Nat.zero_le _⟩ dX8_press_1 ?_
  refine lv_if_ne (tgt := 17) hx hb dX8_press_4 (by decide) (fun c2 => ?_) (fun c2 => ?_)
  · have hf := g_if c2 hf
    refine lv_aload_n hx hb dX8_press_17 rfl (lv_at hl 0 rfl) ?_
    refine g_get F hK hG.1 0 0 2 flX8_26 rfl rfl rfl dX8_press_18 ?_
    refine g_get F hK hG.1 3 0 6 flX8_138 rfl rfl rfl dX8_press_21 ?_
    refine lv_iload_n hx hb dX8_press_24 rfl (lv_at hl 1 rfl) ?_
    obtain ⟨j3, hf, hfj3⟩ := g_bnd hf
    have hJj3 : ∀ (H : Heap) (locs : List Loc), gS E A s.heap [C8 E h b0, C2 E h (b0+1) w0.1, C6 E h (b0+3) w0.2.1, C5 E h (b0+9) w0.2.2.1.2.2, C6 E h ((b0+9)+1) w0.2.2.1.1, C7 E h ((b0+9)+7) w0.2.2.1.2.1, C3 E h (b0+18) w0.2.2.2.1, C0 E h (b0+20) w0.2.2.2.2] H locs → ∀ ls : Array Slot, lv_has ls 3 [(0, .ref (h b0)), (1, .int a1)] → W p l e rX8_press s m args below meth c H locs 0 0 Q (F0 m 33 ls [.int j3]) := by
      intro H locs hG ls hl
      have hf := hfj3
      refine lv_istore_n (lv' := [(2, .int j3), (0, .ref (h b0)), (1, .int a1)]) hx hb dX8_press_33 rfl hl (by decide) rfl (fun ls hl => ?_)
      refine lv_iload_n hx hb dX8_press_34 rfl (lv_at hl 0 rfl) ?_
      refine lv_if_ne (tgt := 60) hx hb dX8_press_35 (by decide) (fun c5 => ?_) (fun c5 => ?_)
      · have hf := g_if c5 hf
        refine lv_aload_n hx hb dX8_press_60 rfl (lv_at hl 1 rfl) ?_
        refine g_get F hK hG.1 0 0 3 flX8_33 rfl rfl rfl dX8_press_61 ?_
        refine lv_aload_n hx hb dX8_press_64 rfl (lv_at hl 1 rfl) ?_
        refine g_get F hK hG.1 0 0 2 flX8_26 rfl rfl rfl dX8_press_65 ?_
        obtain ⟨x6, hx6, hf⟩ := g_bnd hf
        refine g_mvv (S' := [C8 E h b0, C2 E h (b0+1) w0.1, C6 E h (b0+3) w0.2.1, C5 E h (b0+9) w0.2.2.1.2.2, C6 E h ((b0+9)+1) w0.2.2.1.1, C7 E h ((b0+9)+7) w0.2.2.1.2.1, C3 E h (b0+18) x6, C0 E h (b0+20) w0.2.2.2.2]) (As := [.ref (h (b0+9))]) (rest := []) F hK hX hAB hG [6, 3, 4, 5] rfl rfl (c_X3_push h (b0+18) w0.2.2.2.1 (b0+9) w0.2.2.1 hx6) rfl (kX8_75 F.2.2.2.2 ⟨Nat.le_of_ble_eq_true rfl, Nat.le_of_ble_eq_true rfl⟩) rfl rfl rfl rfl hl.1 rfl (lv_room (Nat.le_of_ble_eq_true rfl)) ⟨Nat.zero_le _, Nat.zero_le _⟩ dX8_press_68 (fun H locs hG => ?_)
        refine lv_iload_n hx hb dX8_press_71 rfl (lv_at hl 0 rfl) ?_
        obtain ⟨j7, hf, hfj7⟩ := g_bnd hf
        have hJj7 : ∀ (H : Heap) (locs : List Loc), gS E A s.heap [C8 E h b0, C2 E h (b0+1) w0.1, C6 E h (b0+3) w0.2.1, C5 E h (b0+9) j7, C6 E h ((b0+9)+1) w0.2.2.1.1, C7 E h ((b0+9)+7) w0.2.2.1.2.1, C3 E h (b0+18) x6, C0 E h (b0+20) w0.2.2.2.2] H locs → ∀ ls : Array Slot, lv_has ls 3 [(0, .ref (h b0))] → W p l e rX8_press s m args below meth c H locs 0 0 Q (F0 m 93 ls []) := by
          intro H locs hG ls hl
          have hf := hfj7
          refine lv_aload_n hx hb dX8_press_93 rfl (lv_at hl 0 rfl) ?_
          refine g_get F hK hG.1 0 0 2 flX8_26 rfl rfl rfl dX8_press_94 ?_
          obtain ⟨x11, hx11, hf⟩ := g_bnd hf
          refine g_rv (As := []) (rest := []) F hK (hG.X hX hAB) hG.1 [3, 4, 5] rfl (c_X5_places h (b0+9) (w0.2.2.1.1, w0.2.2.1.2.1, j7) hx11) (kX8_141 F.2.2.2.2 ⟨Nat.le_of_ble_eq_true rfl, Nat.le_of_ble_eq_true rfl⟩) rfl rfl rfl rfl hl.1 rfl (lv_room (Nat.le_of_ble_eq_true rfl)) ⟨Nat.zero_le _, Nat.zero_le _⟩ dX8_press_97 ?_
          have ho := Option.some.inj hf
          subst hA
          have ho := Sum.inr.inj ho
          rw [← hQ, ← ho]
          exact g_mretI F hr hlk hG dX8_press_100
        refine lv_if_eq (tgt := 85) hx hb dX8_press_72 (by decide) (fun c8 => ?_) (fun c8 => ?_)
        · have hf := g_it c8 hf
          refine lv_aload_n hx hb dX8_press_85 rfl (lv_at hl 1 rfl) ?_
          refine g_get F hK hG.1 0 0 2 flX8_26 rfl rfl rfl dX8_press_86 ?_
          refine lv_iload_n hx hb dX8_press_89 rfl (lv_at hl 2 rfl) ?_
          obtain ⟨x9, hx9, hf⟩ := g_bnd hf
          refine g_mvv (S' := [C8 E h b0, C2 E h (b0+1) w0.1, C6 E h (b0+3) w0.2.1, C5 E h (b0+9) x9, C6 E h ((b0+9)+1) w0.2.2.1.1, C7 E h ((b0+9)+7) w0.2.2.1.2.1, C3 E h (b0+18) x6, C0 E h (b0+20) w0.2.2.2.2]) (As := [.int a1]) (rest := []) F hK hX hAB hG [3, 4, 5] rfl rfl (c_X5_addPlace h (b0+9) w0.2.2.1 a1 hx9) rfl (kX8_150 F.2.2.2.2 ⟨Nat.le_of_ble_eq_true rfl, Nat.le_of_ble_eq_true rfl⟩) rfl rfl rfl rfl hl.1 rfl (lv_room (Nat.le_of_ble_eq_true rfl)) ⟨Nat.zero_le _, Nat.zero_le _⟩ dX8_press_90 (fun H locs hG => ?_)
          obtain rfl := Option.some.inj hf
          exact hJj7 _ _ hG ls (lv_sub hl [1] rfl)
        · have hf := g_if c8 hf
          refine lv_aload_n hx hb dX8_press_75 rfl (lv_at hl 1 rfl) ?_
          refine g_get F hK hG.1 0 0 2 flX8_26 rfl rfl rfl dX8_press_76 ?_
          obtain ⟨x10, hx10, hf⟩ := g_bnd hf
          refine g_mvv (S' := [C8 E h b0, C2 E h (b0+1) w0.1, C6 E h (b0+3) w0.2.1, C5 E h (b0+9) x10, C6 E h ((b0+9)+1) w0.2.2.1.1, C7 E h ((b0+9)+7) w0.2.2.1.2.1, C3 E h (b0+18) x6, C0 E h (b0+20) w0.2.2.2.2]) (As := []) (rest := []) F hK hX hAB hG [3, 4, 5] rfl rfl (c_X5_turnLastPlace h (b0+9) w0.2.2.1 hx10) rfl (kX8_147 F.2.2.2.2 ⟨Nat.le_of_ble_eq_true rfl, Nat.le_of_ble_eq_true rfl⟩) rfl rfl rfl rfl hl.1 rfl (lv_room (Nat.le_of_ble_eq_true rfl)) ⟨Nat.zero_le _, Nat.zero_le _⟩ dX8_press_79 (fun H locs hG => ?_)
          refine lv_goto (tgt := 93) hx hb dX8_press_82 (by decide) ?_
          obtain rfl := Option.some.inj hf
          exact hJj7 _ _ hG ls (lv_sub hl [1] rfl)
      · have hf := g_it c5 hf
        refine lv_aload_n hx hb dX8_press_38 rfl (lv_at hl 1 rfl) ?_
        refine g_get F hK hG.1 0 0 2 flX8_26 rfl rfl rfl dX8_press_39 ?_
        obtain ⟨x12, hx12, hf⟩ := g_bnd hf
        refine g_rv (As := []) (rest := []) F hK (hG.X hX hAB) hG.1 [3, 4, 5] rfl (c_X5_places h (b0+9) w0.2.2.1 hx12) (kX8_141 F.2.2.2.2 ⟨Nat.le_of_ble_eq_true rfl, Nat.le_of_ble_eq_true rfl⟩) rfl rfl rfl rfl hl.1 rfl (lv_room (Nat.le_of_ble_eq_true rfl)) ⟨Nat.zero_le _, Nat.zero_le _⟩ dX8_press_42 ?_
        refine lv_bipush (v := 10) hx hb dX8_press_45 (by decide) ?_
        refine lv_icmp_lt (tgt := 60) hx hb dX8_press_47 (by decide) (fun c13 => ?_) (fun c13 => ?_)
        · have hf := g_it c13 hf
          refine lv_aload_n hx hb dX8_press_60 rfl (lv_at hl 1 rfl) ?_
          refine g_get F hK hG.1 0 0 3 flX8_33 rfl rfl rfl dX8_press_61 ?_
          refine lv_aload_n hx hb dX8_press_64 rfl (lv_at hl 1 rfl) ?_
          refine g_get F hK hG.1 0 0 2 flX8_26 rfl rfl rfl dX8_press_65 ?_
          obtain ⟨x14, hx14, hf⟩ := g_bnd hf
          refine g_mvv (S' := [C8 E h b0, C2 E h (b0+1) w0.1, C6 E h (b0+3) w0.2.1, C5 E h (b0+9) w0.2.2.1.2.2, C6 E h ((b0+9)+1) w0.2.2.1.1, C7 E h ((b0+9)+7) w0.2.2.1.2.1, C3 E h (b0+18) x14, C0 E h (b0+20) w0.2.2.2.2]) (As := [.ref (h (b0+9))]) (rest := []) F hK hX hAB hG [6, 3, 4, 5] rfl rfl (c_X3_push h (b0+18) w0.2.2.2.1 (b0+9) w0.2.2.1 hx14) rfl (kX8_75 F.2.2.2.2 ⟨Nat.le_of_ble_eq_true rfl, Nat.le_of_ble_eq_true rfl⟩) rfl rfl rfl rfl hl.1 rfl (lv_room (Nat.le_of_ble_eq_true rfl)) ⟨Nat.zero_le _, Nat.zero_le _⟩ dX8_press_68 (fun H locs hG => ?_)
          refine lv_iload_n hx hb dX8_press_71 rfl (lv_at hl 0 rfl) ?_
          obtain ⟨j15, hf, hfj15⟩ := g_bnd hf
          have hJj15 : ∀ (H : Heap) (locs : List Loc), gS E A s.heap [C8 E h b0, C2 E h (b0+1) w0.1, C6 E h (b0+3) w0.2.1, C5 E h (b0+9) j15, C6 E h ((b0+9)+1) w0.2.2.1.1, C7 E h ((b0+9)+7) w0.2.2.1.2.1, C3 E h (b0+18) x14, C0 E h (b0+20) w0.2.2.2.2] H locs → ∀ ls : Array Slot, lv_has ls 3 [(0, .ref (h b0))] → W p l e rX8_press s m args below meth c H locs 0 0 Q (F0 m 93 ls []) := by
            intro H locs hG ls hl
            have hf := hfj15
            refine lv_aload_n hx hb dX8_press_93 rfl (lv_at hl 0 rfl) ?_
            refine g_get F hK hG.1 0 0 2 flX8_26 rfl rfl rfl dX8_press_94 ?_
            obtain ⟨x19, hx19, hf⟩ := g_bnd hf
            refine g_rv (As := []) (rest := []) F hK (hG.X hX hAB) hG.1 [3, 4, 5] rfl (c_X5_places h (b0+9) (w0.2.2.1.1, w0.2.2.1.2.1, j15) hx19) (kX8_141 F.2.2.2.2 ⟨Nat.le_of_ble_eq_true rfl, Nat.le_of_ble_eq_true rfl⟩) rfl rfl rfl rfl hl.1 rfl (lv_room (Nat.le_of_ble_eq_true rfl)) ⟨Nat.zero_le _, Nat.zero_le _⟩ dX8_press_97 ?_
            have ho := Option.some.inj hf
            subst hA
            have ho := Sum.inr.inj ho
            rw [← hQ, ← ho]
            exact g_mretI F hr hlk hG dX8_press_100
          refine lv_if_eq (tgt := 85) hx hb dX8_press_72 (by decide) (fun c16 => ?_) (fun c16 => ?_)
          · have hf := g_it c16 hf
            refine lv_aload_n hx hb dX8_press_85 rfl (lv_at hl 1 rfl) ?_
            refine g_get F hK hG.1 0 0 2 flX8_26 rfl rfl rfl dX8_press_86 ?_
            refine lv_iload_n hx hb dX8_press_89 rfl (lv_at hl 2 rfl) ?_
            obtain ⟨x17, hx17, hf⟩ := g_bnd hf
            refine g_mvv (S' := [C8 E h b0, C2 E h (b0+1) w0.1, C6 E h (b0+3) w0.2.1, C5 E h (b0+9) x17, C6 E h ((b0+9)+1) w0.2.2.1.1, C7 E h ((b0+9)+7) w0.2.2.1.2.1, C3 E h (b0+18) x14, C0 E h (b0+20) w0.2.2.2.2]) (As := [.int a1]) (rest := []) F hK hX hAB hG [3, 4, 5] rfl rfl (c_X5_addPlace h (b0+9) w0.2.2.1 a1 hx17) rfl (kX8_150 F.2.2.2.2 ⟨Nat.le_of_ble_eq_true rfl, Nat.le_of_ble_eq_true rfl⟩) rfl rfl rfl rfl hl.1 rfl (lv_room (Nat.le_of_ble_eq_true rfl)) ⟨Nat.zero_le _, Nat.zero_le _⟩ dX8_press_90 (fun H locs hG => ?_)
            obtain rfl := Option.some.inj hf
            exact hJj15 _ _ hG ls (lv_sub hl [1] rfl)
          · have hf := g_if c16 hf
            refine lv_aload_n hx hb dX8_press_75 rfl (lv_at hl 1 rfl) ?_
            refine g_get F hK hG.1 0 0 2 flX8_26 rfl rfl rfl dX8_press_76 ?_
            obtain ⟨x18, hx18, hf⟩ := g_bnd hf
            refine g_mvv (S' := [C8 E h b0, C2 E h (b0+1) w0.1, C6 E h (b0+3) w0.2.1, C5 E h (b0+9) x18, C6 E h ((b0+9)+1) w0.2.2.1.1, C7 E h ((b0+9)+7) w0.2.2.1.2.1, C3 E h (b0+18) x14, C0 E h (b0+20) w0.2.2.2.2]) (As := []) (rest := []) F hK hX hAB hG [3, 4, 5] rfl rfl (c_X5_turnLastPlace h (b0+9) w0.2.2.1 hx18) rfl (kX8_147 F.2.2.2.2 ⟨Nat.le_of_ble_eq_true rfl, Nat.le_of_ble_eq_true rfl⟩) rfl rfl rfl rfl hl.1 rfl (lv_room (Nat.le_of_ble_eq_true rfl)) ⟨Nat.zero_le _, Nat.zero_le _⟩ dX8_press_79 (fun H locs hG => ?_)
            refine lv_goto (tgt := 93) hx hb dX8_press_82 (by decide) ?_
            obtain rfl := Option.some.inj hf
            exact hJj15 _ _ hG ls (lv_sub hl [1] rfl)
        · have hf := g_if c13 hf
          exact absurd (Option.some.inj hf) (fun z => nomatch z)
    refine lv_icmp_ne (tgt := 32) hx hb dX8_press_25 (by decide) (fun c4 => ?_) (fun c4 => ?_)
    · have hf := g_if c4 hf
      refine lv_iconst (v := 0) hx hb dX8_press_32 (by decide) ?_
      obtain rfl := Option.some.inj hf
      exact hJj3 _ _ hG ls (lv_sub hl [0, 1] rfl)
    · have hf := g_it c4 hf
      refine lv_iconst (v := 1) hx hb dX8_press_28 (by decide) ?_
      refine lv_goto (tgt := 33) hx hb dX8_press_29 (by decide) ?_
      obtain rfl := Option.some.inj hf
      exact hJj3 _ _ hG ls (lv_sub hl [0, 1] rfl)
  · have hf := g_it c2 hf
    exact absurd (Option.some.inj hf) (fun z => nomatch z)
set_option maxHeartbeats 4000000 in
set_option maxRecDepth 100000 in
theorem c_X8_pause {l : Launch} {E : gEnv} (h : Nat → Nat) (b0 : Nat) (w0 : T8) {o : Int32 × T5s × T3} (hf : f_X8_pause w0 = some o) : gM l yX8_pause cX8_pause 2 (some .int) rX8_pause E [.ref (h b0)] [C8 E h b0, C2 E h (b0+1) w0.1, C6 E h (b0+3) w0.2.1, C5 E h (b0+9) w0.2.2.1.2.2, C6 E h ((b0+9)+1) w0.2.2.1.1, C7 E h ((b0+9)+7) w0.2.2.1.2.1, C3 E h (b0+18) w0.2.2.2.1, C0 E h (b0+20) w0.2.2.2.2] (some (.int o.1)) [C8 E h b0, C2 E h (b0+1) w0.1, C6 E h (b0+3) w0.2.1, C5 E h (b0+9) o.2.1, C6 E h ((b0+9)+1) w0.2.2.1.1, C7 E h ((b0+9)+7) w0.2.2.1.2.1, C3 E h (b0+18) o.2.2, C0 E h (b0+20) w0.2.2.2.2] := by
  refine gM.of (by decide +kernel) (Nat.le_of_ble_eq_true rfl) rfl ?_
  intro p e s m below meth c F hr hlk hK hX hAB ls hl H locs hG
  have F : gF p m c cX8_pause 2 s ([.ref (h b0)] : List Value).toArray RX8 := F
  generalize ([.ref (h b0)] : List Value).toArray = args at F ⊢
  generalize hQ : MQ below _ _ _ _ _ _ = Q
  generalize hA : gAd [C8 E h b0, C2 E h (b0+1) w0.1, C6 E h (b0+3) w0.2.1, C5 E h (b0+9) w0.2.2.1.2.2, C6 E h ((b0+9)+1) w0.2.2.1.1, C7 E h ((b0+9)+7) w0.2.2.1.2.1, C3 E h (b0+18) w0.2.2.2.1, C0 E h (b0+20) w0.2.2.2.2] = A at hAB hG
  have hl : lv_has ls 2 [(0, .ref (h b0))] := hl
  have hx := F.1
  have hb := F.2.1
  unfold f_X8_pause at hf
  refine lv_aload_n hx hb dX8_pause_0 rfl (lv_at hl 0 rfl) ?_
  refine g_get F hK hG.1 0 0 3 flX8_33 rfl rfl rfl dX8_pause_1 ?_
  refine lv_aload_n hx hb dX8_pause_4 rfl (lv_at hl 0 rfl) ?_
  refine g_get F hK hG.1 0 0 2 flX8_26 rfl rfl rfl dX8_pause_5 ?_
  obtain ⟨x1, hx1, hf⟩ := g_bnd hf
  refine g_mvv (S' := [C8 E h b0, C2 E h (b0+1) w0.1, C6 E h (b0+3) w0.2.1, C5 E h (b0+9) w0.2.2.1.2.2, C6 E h ((b0+9)+1) w0.2.2.1.1, C7 E h ((b0+9)+7) w0.2.2.1.2.1, C3 E h (b0+18) x1, C0 E h (b0+20) w0.2.2.2.2]) (As := [.ref (h (b0+9))]) (rest := []) F hK hX hAB hG [6, 3, 4, 5] rfl rfl (c_X3_push h (b0+18) w0.2.2.2.1 (b0+9) w0.2.2.1 hx1) rfl (kX8_75 F.2.2.2.2 ⟨Nat.le_of_ble_eq_true rfl, Nat.le_of_ble_eq_true rfl⟩) rfl rfl rfl rfl hl.1 rfl (lv_room (Nat.le_of_ble_eq_true rfl)) ⟨Nat.zero_le _, Nat.zero_le _⟩ dX8_pause_8 (fun H locs hG => ?_)
  refine lv_aload_n hx hb dX8_pause_11 rfl (lv_at hl 0 rfl) ?_
  refine g_get F hK hG.1 0 0 2 flX8_26 rfl rfl rfl dX8_pause_12 ?_
  refine g_get F hK hG.1 3 0 6 flX8_138 rfl rfl rfl dX8_pause_15 ?_
  refine lv_istore_n (lv' := [(1, .int w0.2.2.1.2.2.2.2.2.2.1), (0, .ref (h b0))]) hx hb dX8_pause_18 rfl hl (by decide) rfl (fun ls hl => ?_)
  refine lv_aload_n hx hb dX8_pause_19 rfl (lv_at hl 1 rfl) ?_
  refine g_get F hK hG.1 0 0 2 flX8_26 rfl rfl rfl dX8_pause_20 ?_
  refine lv_iconst (v := (-1)) hx hb dX8_pause_23 (by decide) ?_
  refine g_put F hK hG 3 0 6 pfX8_138 rfl rfl (Nat.le_of_ble_eq_true rfl) rfl rfl dX8_pause_24 (fun H locs hG => ?_)
  have hG : gS E A s.heap [C8 E h b0, C2 E h (b0+1) w0.1, C6 E h (b0+3) w0.2.1, C5 E h (b0+9) (w0.2.2.1.2.2.1, w0.2.2.1.2.2.2.1, w0.2.2.1.2.2.2.2.1, w0.2.2.1.2.2.2.2.2.1, (-1), w0.2.2.1.2.2.2.2.2.2.2.1, w0.2.2.1.2.2.2.2.2.2.2.2.1, w0.2.2.1.2.2.2.2.2.2.2.2.2), C6 E h ((b0+9)+1) w0.2.2.1.1, C7 E h ((b0+9)+7) w0.2.2.1.2.1, C3 E h (b0+18) x1, C0 E h (b0+20) w0.2.2.2.2] H locs := hG
  refine lv_iload_n hx hb dX8_pause_27 rfl (lv_at hl 0 rfl) ?_
  have ho := Option.some.inj hf
  subst hA
  rw [← hQ, ← ho]
  exact g_mretI F hr hlk hG dX8_pause_28
set_option maxHeartbeats 4000000 in
set_option maxRecDepth 100000 in
theorem c_X8_displayed {l : Launch} {E : gEnv} (h : Nat → Nat) (b0 : Nat) (w0 : T8) {o : Int64 × T0} (hf : f_X8_displayed w0 = some o) : gM l yX8_displayed cX8_displayed 1 (some .long) rX8_displayed E [.ref (h b0)] [C8 E h b0, C2 E h (b0+1) w0.1, C6 E h (b0+3) w0.2.1, C5 E h (b0+9) w0.2.2.1.2.2, C6 E h ((b0+9)+1) w0.2.2.1.1, C7 E h ((b0+9)+7) w0.2.2.1.2.1, C3 E h (b0+18) w0.2.2.2.1, C0 E h (b0+20) w0.2.2.2.2] (some (.long o.1)) [C8 E h b0, C2 E h (b0+1) w0.1, C6 E h (b0+3) w0.2.1, C5 E h (b0+9) w0.2.2.1.2.2, C6 E h ((b0+9)+1) w0.2.2.1.1, C7 E h ((b0+9)+7) w0.2.2.1.2.1, C3 E h (b0+18) w0.2.2.2.1, C0 E h (b0+20) o.2] := by
  refine gM.of (by decide +kernel) (Nat.le_of_ble_eq_true rfl) rfl ?_
  intro p e s m below meth c F hr hlk hK hX hAB ls hl H locs hG
  have F : gF p m c cX8_displayed 1 s ([.ref (h b0)] : List Value).toArray RX8 := F
  generalize ([.ref (h b0)] : List Value).toArray = args at F ⊢
  generalize hQ : MQ below _ _ _ _ _ _ = Q
  generalize hA : gAd [C8 E h b0, C2 E h (b0+1) w0.1, C6 E h (b0+3) w0.2.1, C5 E h (b0+9) w0.2.2.1.2.2, C6 E h ((b0+9)+1) w0.2.2.1.1, C7 E h ((b0+9)+7) w0.2.2.1.2.1, C3 E h (b0+18) w0.2.2.2.1, C0 E h (b0+20) w0.2.2.2.2] = A at hAB hG
  have hl : lv_has ls 1 [(0, .ref (h b0))] := hl
  have hx := F.1
  have hb := F.2.1
  unfold f_X8_displayed at hf
  refine lv_aload_n hx hb dX8_displayed_0 rfl (lv_at hl 0 rfl) ?_
  refine g_get F hK hG.1 0 0 2 flX8_26 rfl rfl rfl dX8_displayed_1 ?_
  refine g_get F hK hG.1 3 0 5 flX8_165 rfl rfl rfl dX8_displayed_4 ?_
  refine lv_if_ne (tgt := 56) hx hb dX8_displayed_7 (by decide) (fun c1 => ?_) (fun c1 => ?_)
  · have hf := g_if c1 hf
    refine lv_aload_n hx hb dX8_displayed_56 rfl (lv_at hl 0 rfl) ?_
    refine g_get F hK hG.1 0 0 2 flX8_26 rfl rfl rfl dX8_displayed_57 ?_
    refine g_get F hK hG.1 3 0 7 flX8_161 rfl rfl rfl dX8_displayed_60 ?_
    obtain ⟨x2, hx2, hf⟩ := g_bnd hf
    refine g_rs (As := [.long w0.2.2.1.2.2.2.2.2.2.2.1]) (rest := []) F hK (hG.X hX hAB) hG.1 [] rfl (c_X4_firstLetters h w0.2.2.1.2.2.2.2.2.2.2.1 hx2) (kX8_283 F.2.2.2.2 ⟨Nat.le_of_ble_eq_true rfl, Nat.le_of_ble_eq_true rfl⟩) rfl hl.1 rfl (lv_room (Nat.le_of_ble_eq_true rfl)) ⟨Nat.zero_le _, Nat.zero_le _⟩ dX8_displayed_63 ?_
    have ho := Option.some.inj hf
    subst hA
    rw [← hQ, ← ho]
    exact g_mretL F hr hlk hG dX8_displayed_66
  · have hf := g_it c1 hf
    refine lv_aload_n hx hb dX8_displayed_10 rfl (lv_at hl 0 rfl) ?_
    refine g_get F hK hG.1 0 0 4 flX8_40 rfl rfl rfl dX8_displayed_11 ?_
    refine lv_aload_n hx hb dX8_displayed_14 rfl (lv_at hl 0 rfl) ?_
    refine g_get F hK hG.1 0 0 2 flX8_26 rfl rfl rfl dX8_displayed_15 ?_
    obtain ⟨x3, hx3, hf⟩ := g_bnd hf
    refine g_mvv (S' := [C8 E h b0, C2 E h (b0+1) w0.1, C6 E h (b0+3) w0.2.1, C5 E h (b0+9) w0.2.2.1.2.2, C6 E h ((b0+9)+1) w0.2.2.1.1, C7 E h ((b0+9)+7) w0.2.2.1.2.1, C3 E h (b0+18) w0.2.2.2.1, C0 E h (b0+20) x3]) (As := [.ref (h (b0+9))]) (rest := []) F hK hX hAB hG [7, 3, 4, 5] rfl rfl (c_X0_find h (b0+20) w0.2.2.2.2 (b0+9) w0.2.2.1 hx3) rfl (kX8_168 F.2.2.2.2 ⟨Nat.le_of_ble_eq_true rfl, Nat.le_of_ble_eq_true rfl⟩) rfl rfl rfl rfl hl.1 rfl (lv_room (Nat.le_of_ble_eq_true rfl)) ⟨Nat.zero_le _, Nat.zero_le _⟩ dX8_displayed_18 (fun H locs hG => ?_)
    refine lv_aload_n hx hb dX8_displayed_21 rfl (lv_at hl 0 rfl) ?_
    refine g_get F hK hG.1 0 0 4 flX8_40 rfl rfl rfl dX8_displayed_22 ?_
    refine g_get F hK hG.1 7 0 1 flX8_171 rfl rfl rfl dX8_displayed_25 ?_
    refine lv_if_le (tgt := 56) hx hb dX8_displayed_28 (by decide) (fun c4 => ?_) (fun c4 => ?_)
    · have hf := g_it c4 hf
      refine lv_aload_n hx hb dX8_displayed_56 rfl (lv_at hl 0 rfl) ?_
      refine g_get F hK hG.1 0 0 2 flX8_26 rfl rfl rfl dX8_displayed_57 ?_
      refine g_get F hK hG.1 3 0 7 flX8_161 rfl rfl rfl dX8_displayed_60 ?_
      obtain ⟨x5, hx5, hf⟩ := g_bnd hf
      refine g_rs (As := [.long w0.2.2.1.2.2.2.2.2.2.2.1]) (rest := []) F hK (hG.X hX hAB) hG.1 [] rfl (c_X4_firstLetters h w0.2.2.1.2.2.2.2.2.2.2.1 hx5) (kX8_283 F.2.2.2.2 ⟨Nat.le_of_ble_eq_true rfl, Nat.le_of_ble_eq_true rfl⟩) rfl hl.1 rfl (lv_room (Nat.le_of_ble_eq_true rfl)) ⟨Nat.zero_le _, Nat.zero_le _⟩ dX8_displayed_63 ?_
      have ho := Option.some.inj hf
      subst hA
      rw [← hQ, ← ho]
      exact g_mretL F hr hlk hG dX8_displayed_66
    · have hf := g_if c4 hf
      refine lv_aload_n hx hb dX8_displayed_31 rfl (lv_at hl 0 rfl) ?_
      refine g_get F hK hG.1 0 0 2 flX8_26 rfl rfl rfl dX8_displayed_32 ?_
      refine g_get F hK hG.1 3 0 0 flX8_79 rfl rfl rfl dX8_displayed_35 ?_
      refine lv_aload_n hx hb dX8_displayed_38 rfl (lv_at hl 0 rfl) ?_
      refine g_get F hK hG.1 0 0 4 flX8_40 rfl rfl rfl dX8_displayed_39 ?_
      refine lv_aload_n hx hb dX8_displayed_42 rfl (lv_at hl 0 rfl) ?_
      refine g_get F hK hG.1 0 0 2 flX8_26 rfl rfl rfl dX8_displayed_43 ?_
      refine g_get F hK hG.1 3 0 8 flX8_86 rfl rfl rfl dX8_displayed_46 ?_
      obtain ⟨x6, hx6, hf⟩ := g_bnd hf
      refine g_rv (As := [.int w0.2.2.1.2.2.2.2.2.2.2.2.1]) (rest := [.ref (h ((b0+9)+1))]) F hK (hG.X hX hAB) hG.1 [7] rfl (c_X0_wordAt h (b0+20) x3 w0.2.2.1.2.2.2.2.2.2.2.2.1 hx6) (kX8_218 F.2.2.2.2 ⟨Nat.le_of_ble_eq_true rfl, Nat.le_of_ble_eq_true rfl⟩) rfl rfl rfl rfl hl.1 rfl (lv_room (Nat.le_of_ble_eq_true rfl)) ⟨Nat.zero_le _, Nat.zero_le _⟩ dX8_displayed_49 ?_
      obtain ⟨x7, hx7, hf⟩ := g_bnd hf
      refine g_rv (As := [.int x6]) (rest := []) F hK (hG.X hX hAB) hG.1 [4] rfl (c_X6_wordAt h ((b0+9)+1) w0.2.2.1.1 x6 hx7) (kX8_116 F.2.2.2.2 ⟨Nat.le_of_ble_eq_true rfl, Nat.le_of_ble_eq_true rfl⟩) rfl rfl rfl rfl hl.1 rfl (lv_room (Nat.le_of_ble_eq_true rfl)) ⟨Nat.zero_le _, Nat.zero_le _⟩ dX8_displayed_52 ?_
      have ho := Option.some.inj hf
      subst hA
      rw [← hQ, ← ho]
      exact g_mretL F hr hlk hG dX8_displayed_55
set_option maxHeartbeats 4000000 in
set_option maxRecDepth 100000 in
theorem c_X8_mode {l : Launch} {E : gEnv} (h : Nat → Nat) (b0 : Nat) (w0 : T8) (a1 : Int32) {o : Int32 × T5s × T3 × T0} (hf : f_X8_mode w0 a1 = some o) : gM l yX8_mode cX8_mode 2 (some .int) rX8_mode E [.ref (h b0), .int a1] [C8 E h b0, C2 E h (b0+1) w0.1, C6 E h (b0+3) w0.2.1, C5 E h (b0+9) w0.2.2.1.2.2, C6 E h ((b0+9)+1) w0.2.2.1.1, C7 E h ((b0+9)+7) w0.2.2.1.2.1, C3 E h (b0+18) w0.2.2.2.1, C0 E h (b0+20) w0.2.2.2.2] (some (.int o.1)) [C8 E h b0, C2 E h (b0+1) w0.1, C6 E h (b0+3) w0.2.1, C5 E h (b0+9) o.2.1, C6 E h ((b0+9)+1) w0.2.2.1.1, C7 E h ((b0+9)+7) w0.2.2.1.2.1, C3 E h (b0+18) o.2.2.1, C0 E h (b0+20) o.2.2.2] := by
  refine gM.of (by decide +kernel) (Nat.le_of_ble_eq_true rfl) rfl ?_
  intro p e s m below meth c F hr hlk hK hX hAB ls hl H locs hG
  have F : gF p m c cX8_mode 2 s ([.ref (h b0), .int a1] : List Value).toArray RX8 := F
  generalize ([.ref (h b0), .int a1] : List Value).toArray = args at F ⊢
  generalize hQ : MQ below _ _ _ _ _ _ = Q
  generalize hA : gAd [C8 E h b0, C2 E h (b0+1) w0.1, C6 E h (b0+3) w0.2.1, C5 E h (b0+9) w0.2.2.1.2.2, C6 E h ((b0+9)+1) w0.2.2.1.1, C7 E h ((b0+9)+7) w0.2.2.1.2.1, C3 E h (b0+18) w0.2.2.2.1, C0 E h (b0+20) w0.2.2.2.2] = A at hAB hG
  have hl : lv_has ls 2 [(0, .ref (h b0)), (1, .int a1)] := hl
  have hx := F.1
  have hb := F.2.1
  unfold f_X8_mode at hf
  refine lv_aload_n hx hb dX8_mode_0 rfl (lv_at hl 0 rfl) ?_
  refine g_get F hK hG.1 0 0 3 flX8_33 rfl rfl rfl dX8_mode_1 ?_
  refine lv_aload_n hx hb dX8_mode_4 rfl (lv_at hl 0 rfl) ?_
  refine g_get F hK hG.1 0 0 2 flX8_26 rfl rfl rfl dX8_mode_5 ?_
  obtain ⟨x1, hx1, hf⟩ := g_bnd hf
  refine g_mvv (S' := [C8 E h b0, C2 E h (b0+1) w0.1, C6 E h (b0+3) w0.2.1, C5 E h (b0+9) w0.2.2.1.2.2, C6 E h ((b0+9)+1) w0.2.2.1.1, C7 E h ((b0+9)+7) w0.2.2.1.2.1, C3 E h (b0+18) x1, C0 E h (b0+20) w0.2.2.2.2]) (As := [.ref (h (b0+9))]) (rest := []) F hK hX hAB hG [6, 3, 4, 5] rfl rfl (c_X3_push h (b0+18) w0.2.2.2.1 (b0+9) w0.2.2.1 hx1) rfl (kX8_75 F.2.2.2.2 ⟨Nat.le_of_ble_eq_true rfl, Nat.le_of_ble_eq_true rfl⟩) rfl rfl rfl rfl hl.1 rfl (lv_room (Nat.le_of_ble_eq_true rfl)) ⟨Nat.zero_le _, Nat.zero_le _⟩ dX8_mode_8 (fun H locs hG => ?_)
  refine lv_iload_n hx hb dX8_mode_11 rfl (lv_at hl 1 rfl) ?_
  obtain ⟨j2, hf, hfj2⟩ := g_bnd hf
  have hJj2 : ∀ (H : Heap) (locs : List Loc), gS E A s.heap [C8 E h b0, C2 E h (b0+1) w0.1, C6 E h (b0+3) w0.2.1, C5 E h (b0+9) j2.1, C6 E h ((b0+9)+1) w0.2.2.1.1, C7 E h ((b0+9)+7) w0.2.2.1.2.1, C3 E h (b0+18) x1, C0 E h (b0+20) j2.2] H locs → ∀ ls : Array Slot, lv_has ls 2 [(0, .ref (h b0)), (1, .int a1)] → W p l e rX8_mode s m args below meth c H locs 0 0 Q (F0 m 36 ls []) := by
    intro H locs hG ls hl
    have hf := hfj2
    refine lv_aload_n hx hb dX8_mode_36 rfl (lv_at hl 0 rfl) ?_
    refine g_get F hK hG.1 0 0 2 flX8_26 rfl rfl rfl dX8_mode_37 ?_
    refine lv_iload_n hx hb dX8_mode_40 rfl (lv_at hl 1 rfl) ?_
    obtain ⟨u7, hu7, hf⟩ := g_bnd hf
    refine g_put F hK hG 3 0 5 pfX8_165 rfl rfl (Nat.le_of_ble_eq_true rfl) (bz_nar hu7) (bz_fit hu7) dX8_mode_41 (fun H locs hG => ?_)
    have hG : gS E A s.heap [C8 E h b0, C2 E h (b0+1) w0.1, C6 E h (b0+3) w0.2.1, C5 E h (b0+9) (j2.1.1, j2.1.2.1, j2.1.2.2.1, a1, j2.1.2.2.2.2.1, j2.1.2.2.2.2.2.1, j2.1.2.2.2.2.2.2.1, j2.1.2.2.2.2.2.2.2), C6 E h ((b0+9)+1) w0.2.2.1.1, C7 E h ((b0+9)+7) w0.2.2.1.2.1, C3 E h (b0+18) x1, C0 E h (b0+20) j2.2] H locs := hG
    refine lv_aload_n hx hb dX8_mode_44 rfl (lv_at hl 0 rfl) ?_
    refine g_get F hK hG.1 0 0 2 flX8_26 rfl rfl rfl dX8_mode_45 ?_
    refine lv_iconst (v := (-1)) hx hb dX8_mode_48 (by decide) ?_
    refine g_put F hK hG 3 0 6 pfX8_138 rfl rfl (Nat.le_of_ble_eq_true rfl) rfl rfl dX8_mode_49 (fun H locs hG => ?_)
    have hG : gS E A s.heap [C8 E h b0, C2 E h (b0+1) w0.1, C6 E h (b0+3) w0.2.1, C5 E h (b0+9) (j2.1.1, j2.1.2.1, j2.1.2.2.1, a1, (-1), j2.1.2.2.2.2.2.1, j2.1.2.2.2.2.2.2.1, j2.1.2.2.2.2.2.2.2), C6 E h ((b0+9)+1) w0.2.2.1.1, C7 E h ((b0+9)+7) w0.2.2.1.2.1, C3 E h (b0+18) x1, C0 E h (b0+20) j2.2] H locs := hG
    refine lv_aload_n hx hb dX8_mode_52 rfl (lv_at hl 0 rfl) ?_
    refine g_get F hK hG.1 0 0 2 flX8_26 rfl rfl rfl dX8_mode_53 ?_
    refine lv_iconst (v := 0) hx hb dX8_mode_56 (by decide) ?_
    refine g_put F hK hG 3 0 8 pfX8_86 rfl rfl (Nat.le_of_ble_eq_true rfl) rfl rfl dX8_mode_57 (fun H locs hG => ?_)
    have hG : gS E A s.heap [C8 E h b0, C2 E h (b0+1) w0.1, C6 E h (b0+3) w0.2.1, C5 E h (b0+9) (j2.1.1, j2.1.2.1, j2.1.2.2.1, a1, (-1), j2.1.2.2.2.2.2.1, 0, j2.1.2.2.2.2.2.2.2), C6 E h ((b0+9)+1) w0.2.2.1.1, C7 E h ((b0+9)+7) w0.2.2.1.2.1, C3 E h (b0+18) x1, C0 E h (b0+20) j2.2] H locs := hG
    refine lv_aload_n hx hb dX8_mode_60 rfl (lv_at hl 0 rfl) ?_
    refine g_get F hK hG.1 0 0 2 flX8_26 rfl rfl rfl dX8_mode_61 ?_
    obtain ⟨x8, hx8, hf⟩ := g_bnd hf
    refine g_rv (As := []) (rest := []) F hK (hG.X hX hAB) hG.1 [3, 4, 5] rfl (c_X5_places h (b0+9) (w0.2.2.1.1, w0.2.2.1.2.1, (j2.1.1, j2.1.2.1, j2.1.2.2.1, a1, (-1), j2.1.2.2.2.2.2.1, 0, j2.1.2.2.2.2.2.2.2)) hx8) (kX8_141 F.2.2.2.2 ⟨Nat.le_of_ble_eq_true rfl, Nat.le_of_ble_eq_true rfl⟩) rfl rfl rfl rfl hl.1 rfl (lv_room (Nat.le_of_ble_eq_true rfl)) ⟨Nat.zero_le _, Nat.zero_le _⟩ dX8_mode_64 ?_
    have ho := Option.some.inj hf
    subst hA
    rw [← hQ, ← ho]
    exact g_mretI F hr hlk hG dX8_mode_67
  refine lv_if_eq (tgt := 36) hx hb dX8_mode_12 (by decide) (fun c3 => ?_) (fun c3 => ?_)
  · have hf := g_it c3 hf
    obtain rfl := Option.some.inj hf
    exact hJj2 _ _ hG ls (lv_sub hl [0, 1] rfl)
  · have hf := g_if c3 hf
    refine lv_aload_n hx hb dX8_mode_15 rfl (lv_at hl 0 rfl) ?_
    refine g_get F hK hG.1 0 0 2 flX8_26 rfl rfl rfl dX8_mode_16 ?_
    refine lv_aload_n hx hb dX8_mode_19 rfl (lv_at hl 0 rfl) ?_
    obtain ⟨x4, hx4, hf⟩ := g_bnd hf
    refine g_mv (S' := [C8 E h b0, C2 E h (b0+1) w0.1, C6 E h (b0+3) w0.2.1, C5 E h (b0+9) w0.2.2.1.2.2, C6 E h ((b0+9)+1) w0.2.2.1.1, C7 E h ((b0+9)+7) w0.2.2.1.2.1, C3 E h (b0+18) x1, C0 E h (b0+20) x4.2]) (As := []) (rest := [.ref (h (b0+9))]) F hK hX hAB hG [0, 1, 2, 3, 4, 5, 6, 7] rfl rfl (c_X8_displayed h b0 (w0.1, w0.2.1, w0.2.2.1, x1, w0.2.2.2.2) hx4) rfl (kX8_153 F.2.2.2.2 ⟨Nat.le_of_ble_eq_true rfl, Nat.le_of_ble_eq_true rfl⟩) rfl rfl rfl rfl hl.1 rfl (lv_room (Nat.le_of_ble_eq_true rfl)) ⟨Nat.zero_le _, Nat.zero_le _⟩ dX8_mode_20 (fun H locs hG => ?_)
    refine lv_aload_n hx hb dX8_mode_23 rfl (lv_at hl 0 rfl) ?_
    refine g_get F hK hG.1 0 0 2 flX8_26 rfl rfl rfl dX8_mode_24 ?_
    obtain ⟨x5, hx5, hf⟩ := g_bnd hf
    refine g_rv (As := []) (rest := [.long x4.1, .ref (h (b0+9))]) F hK (hG.X hX hAB) hG.1 [3, 4, 5] rfl (c_X5_places h (b0+9) w0.2.2.1 hx5) (kX8_141 F.2.2.2.2 ⟨Nat.le_of_ble_eq_true rfl, Nat.le_of_ble_eq_true rfl⟩) rfl rfl rfl rfl hl.1 rfl (lv_room (Nat.le_of_ble_eq_true rfl)) ⟨Nat.zero_le _, Nat.zero_le _⟩ dX8_mode_27 ?_
    obtain ⟨x6, hx6, hf⟩ := g_bnd hf
    refine g_rs (As := [.long x4.1, .int x5]) (rest := [.ref (h (b0+9))]) F hK (hG.X hX hAB) hG.1 [] rfl (c_X4_firstOf h x4.1 x5 hx6) (kX8_157 F.2.2.2.2 ⟨Nat.le_of_ble_eq_true rfl, Nat.le_of_ble_eq_true rfl⟩) rfl hl.1 rfl (lv_room (Nat.le_of_ble_eq_true rfl)) ⟨Nat.zero_le _, Nat.zero_le _⟩ dX8_mode_30 ?_
    refine g_put F hK hG 3 0 7 pfX8_161 rfl rfl (Nat.le_of_ble_eq_true rfl) rfl rfl dX8_mode_33 (fun H locs hG => ?_)
    have hG : gS E A s.heap [C8 E h b0, C2 E h (b0+1) w0.1, C6 E h (b0+3) w0.2.1, C5 E h (b0+9) (w0.2.2.1.2.2.1, w0.2.2.1.2.2.2.1, w0.2.2.1.2.2.2.2.1, w0.2.2.1.2.2.2.2.2.1, w0.2.2.1.2.2.2.2.2.2.1, x6, w0.2.2.1.2.2.2.2.2.2.2.2.1, w0.2.2.1.2.2.2.2.2.2.2.2.2), C6 E h ((b0+9)+1) w0.2.2.1.1, C7 E h ((b0+9)+7) w0.2.2.1.2.1, C3 E h (b0+18) x1, C0 E h (b0+20) x4.2] H locs := hG
    obtain rfl := Option.some.inj hf
    exact hJj2 _ _ hG ls (lv_sub hl [0, 1] rfl)
set_option maxHeartbeats 4000000 in
set_option maxRecDepth 100000 in
theorem c_X8_next {l : Launch} {E : gEnv} (h : Nat → Nat) (b0 : Nat) (w0 : T8) {o : Int32 × T5s × T3 × T0} (hf : f_X8_next w0 = some (.inr o)) : gM l yX8_next cX8_next 2 (some .int) rX8_next E [.ref (h b0)] [C8 E h b0, C2 E h (b0+1) w0.1, C6 E h (b0+3) w0.2.1, C5 E h (b0+9) w0.2.2.1.2.2, C6 E h ((b0+9)+1) w0.2.2.1.1, C7 E h ((b0+9)+7) w0.2.2.1.2.1, C3 E h (b0+18) w0.2.2.2.1, C0 E h (b0+20) w0.2.2.2.2] (some (.int o.1)) [C8 E h b0, C2 E h (b0+1) w0.1, C6 E h (b0+3) w0.2.1, C5 E h (b0+9) o.2.1, C6 E h ((b0+9)+1) w0.2.2.1.1, C7 E h ((b0+9)+7) w0.2.2.1.2.1, C3 E h (b0+18) o.2.2.1, C0 E h (b0+20) o.2.2.2] := by
  refine gM.of (by decide +kernel) (Nat.le_of_ble_eq_true rfl) rfl ?_
  intro p e s m below meth c F hr hlk hK hX hAB ls hl H locs hG
  have F : gF p m c cX8_next 2 s ([.ref (h b0)] : List Value).toArray RX8 := F
  generalize ([.ref (h b0)] : List Value).toArray = args at F ⊢
  generalize hQ : MQ below _ _ _ _ _ _ = Q
  generalize hA : gAd [C8 E h b0, C2 E h (b0+1) w0.1, C6 E h (b0+3) w0.2.1, C5 E h (b0+9) w0.2.2.1.2.2, C6 E h ((b0+9)+1) w0.2.2.1.1, C7 E h ((b0+9)+7) w0.2.2.1.2.1, C3 E h (b0+18) w0.2.2.2.1, C0 E h (b0+20) w0.2.2.2.2] = A at hAB hG
  have hl : lv_has ls 2 [(0, .ref (h b0))] := hl
  have hx := F.1
  have hb := F.2.1
  unfold f_X8_next at hf
  refine lv_aload_n hx hb dX8_next_0 rfl (lv_at hl 0 rfl) ?_
  refine g_get F hK hG.1 0 0 4 flX8_40 rfl rfl rfl dX8_next_1 ?_
  refine lv_aload_n hx hb dX8_next_4 rfl (lv_at hl 0 rfl) ?_
  refine g_get F hK hG.1 0 0 2 flX8_26 rfl rfl rfl dX8_next_5 ?_
  obtain ⟨x1, hx1, hf⟩ := g_bnd hf
  refine g_mvv (S' := [C8 E h b0, C2 E h (b0+1) w0.1, C6 E h (b0+3) w0.2.1, C5 E h (b0+9) w0.2.2.1.2.2, C6 E h ((b0+9)+1) w0.2.2.1.1, C7 E h ((b0+9)+7) w0.2.2.1.2.1, C3 E h (b0+18) w0.2.2.2.1, C0 E h (b0+20) x1]) (As := [.ref (h (b0+9))]) (rest := []) F hK hX hAB hG [7, 3, 4, 5] rfl rfl (c_X0_find h (b0+20) w0.2.2.2.2 (b0+9) w0.2.2.1 hx1) rfl (kX8_168 F.2.2.2.2 ⟨Nat.le_of_ble_eq_true rfl, Nat.le_of_ble_eq_true rfl⟩) rfl rfl rfl rfl hl.1 rfl (lv_room (Nat.le_of_ble_eq_true rfl)) ⟨Nat.zero_le _, Nat.zero_le _⟩ dX8_next_8 (fun H locs hG => ?_)
  refine lv_aload_n hx hb dX8_next_11 rfl (lv_at hl 0 rfl) ?_
  refine g_get F hK hG.1 0 0 4 flX8_40 rfl rfl rfl dX8_next_12 ?_
  refine g_get F hK hG.1 7 0 1 flX8_171 rfl rfl rfl dX8_next_15 ?_
  refine lv_if_ne (tgt := 31) hx hb dX8_next_18 (by decide) (fun c2 => ?_) (fun c2 => ?_)
  · have hf := g_if c2 hf
    refine lv_aload_n hx hb dX8_next_31 rfl (lv_at hl 0 rfl) ?_
    refine g_get F hK hG.1 0 0 3 flX8_33 rfl rfl rfl dX8_next_32 ?_
    refine lv_aload_n hx hb dX8_next_35 rfl (lv_at hl 0 rfl) ?_
    refine g_get F hK hG.1 0 0 2 flX8_26 rfl rfl rfl dX8_next_36 ?_
    obtain ⟨x3, hx3, hf⟩ := g_bnd hf
    refine g_mvv (S' := [C8 E h b0, C2 E h (b0+1) w0.1, C6 E h (b0+3) w0.2.1, C5 E h (b0+9) w0.2.2.1.2.2, C6 E h ((b0+9)+1) w0.2.2.1.1, C7 E h ((b0+9)+7) w0.2.2.1.2.1, C3 E h (b0+18) x3, C0 E h (b0+20) x1]) (As := [.ref (h (b0+9))]) (rest := []) F hK hX hAB hG [6, 3, 4, 5] rfl rfl (c_X3_push h (b0+18) w0.2.2.2.1 (b0+9) w0.2.2.1 hx3) rfl (kX8_75 F.2.2.2.2 ⟨Nat.le_of_ble_eq_true rfl, Nat.le_of_ble_eq_true rfl⟩) rfl rfl rfl rfl hl.1 rfl (lv_room (Nat.le_of_ble_eq_true rfl)) ⟨Nat.zero_le _, Nat.zero_le _⟩ dX8_next_39 (fun H locs hG => ?_)
    refine lv_aload_n hx hb dX8_next_42 rfl (lv_at hl 0 rfl) ?_
    refine g_get F hK hG.1 0 0 2 flX8_26 rfl rfl rfl dX8_next_43 ?_
    refine g_get F hK hG.1 3 0 8 flX8_86 rfl rfl rfl dX8_next_46 ?_
    refine lv_iconst (v := 1) hx hb dX8_next_49 (by decide) ?_
    refine lv_iadd hx hb dX8_next_50 ?_
    refine lv_istore_n (lv' := [(1, .int (w0.2.2.1.2.2.2.2.2.2.2.2.1 + 1)), (0, .ref (h b0))]) hx hb dX8_next_51 rfl hl (by decide) rfl (fun ls hl => ?_)
    refine lv_aload_n hx hb dX8_next_52 rfl (lv_at hl 1 rfl) ?_
    refine g_get F hK hG.1 0 0 2 flX8_26 rfl rfl rfl dX8_next_53 ?_
    refine lv_iload_n hx hb dX8_next_56 rfl (lv_at hl 0 rfl) ?_
    refine lv_aload_n hx hb dX8_next_57 rfl (lv_at hl 1 rfl) ?_
    refine g_get F hK hG.1 0 0 4 flX8_40 rfl rfl rfl dX8_next_58 ?_
    refine g_get F hK hG.1 7 0 1 flX8_171 rfl rfl rfl dX8_next_61 ?_
    obtain ⟨j4, hf, hfj4⟩ := g_bnd hf
    have hJj4 : ∀ (H : Heap) (locs : List Loc), gS E A s.heap [C8 E h b0, C2 E h (b0+1) w0.1, C6 E h (b0+3) w0.2.1, C5 E h (b0+9) w0.2.2.1.2.2, C6 E h ((b0+9)+1) w0.2.2.1.1, C7 E h ((b0+9)+7) w0.2.2.1.2.1, C3 E h (b0+18) x3, C0 E h (b0+20) x1] H locs → ∀ ls : Array Slot, lv_has ls 2 [(0, .ref (h b0))] → W p l e rX8_next s m args below meth c H locs 0 0 Q (F0 m 72 ls [.int j4, .ref (h (b0+9))]) := by
      intro H locs hG ls hl
      have hf := hfj4
      refine g_put F hK hG 3 0 8 pfX8_86 rfl rfl (Nat.le_of_ble_eq_true rfl) rfl rfl dX8_next_72 (fun H locs hG => ?_)
      have hG : gS E A s.heap [C8 E h b0, C2 E h (b0+1) w0.1, C6 E h (b0+3) w0.2.1, C5 E h (b0+9) (w0.2.2.1.2.2.1, w0.2.2.1.2.2.2.1, w0.2.2.1.2.2.2.2.1, w0.2.2.1.2.2.2.2.2.1, w0.2.2.1.2.2.2.2.2.2.1, w0.2.2.1.2.2.2.2.2.2.2.1, j4, w0.2.2.1.2.2.2.2.2.2.2.2.2), C6 E h ((b0+9)+1) w0.2.2.1.1, C7 E h ((b0+9)+7) w0.2.2.1.2.1, C3 E h (b0+18) x3, C0 E h (b0+20) x1] H locs := hG
      refine lv_aload_n hx hb dX8_next_75 rfl (lv_at hl 0 rfl) ?_
      refine g_get F hK hG.1 0 0 2 flX8_26 rfl rfl rfl dX8_next_76 ?_
      refine g_get F hK hG.1 3 0 8 flX8_86 rfl rfl rfl dX8_next_79 ?_
      have ho := Option.some.inj hf
      subst hA
      have ho := Sum.inr.inj ho
      rw [← hQ, ← ho]
      exact g_mretI F hr hlk hG dX8_next_82
    refine lv_icmp_ge (tgt := 71) hx hb dX8_next_64 (by decide) (fun c5 => ?_) (fun c5 => ?_)
    · have hf := g_it c5 hf
      refine lv_iconst (v := 0) hx hb dX8_next_71 (by decide) ?_
      obtain rfl := Option.some.inj hf
      exact hJj4 _ _ hG ls (lv_sub hl [1] rfl)
    · have hf := g_if c5 hf
      refine lv_iload_n hx hb dX8_next_67 rfl (lv_at hl 0 rfl) ?_
      refine lv_goto (tgt := 72) hx hb dX8_next_68 (by decide) ?_
      obtain rfl := Option.some.inj hf
      exact hJj4 _ _ hG ls (lv_sub hl [1] rfl)
  · have hf := g_it c2 hf
    exact absurd (Option.some.inj hf) (fun z => nomatch z)
set_option maxHeartbeats 4000000 in
set_option maxRecDepth 100000 in
theorem c_X8_erase {l : Launch} {E : gEnv} (h : Nat → Nat) (b0 : Nat) (w0 : T8) {o : Int32 × T5s × T7 × T3} (hf : f_X8_erase w0 = some (.inr o)) : gM l yX8_erase cX8_erase 1 (some .int) rX8_erase E [.ref (h b0)] [C8 E h b0, C2 E h (b0+1) w0.1, C6 E h (b0+3) w0.2.1, C5 E h (b0+9) w0.2.2.1.2.2, C6 E h ((b0+9)+1) w0.2.2.1.1, C7 E h ((b0+9)+7) w0.2.2.1.2.1, C3 E h (b0+18) w0.2.2.2.1, C0 E h (b0+20) w0.2.2.2.2] (some (.int o.1)) [C8 E h b0, C2 E h (b0+1) w0.1, C6 E h (b0+3) w0.2.1, C5 E h (b0+9) o.2.1, C6 E h ((b0+9)+1) w0.2.2.1.1, C7 E h ((b0+9)+7) o.2.2.1, C3 E h (b0+18) o.2.2.2, C0 E h (b0+20) w0.2.2.2.2] := by
  refine gM.of (by decide +kernel) (Nat.le_of_ble_eq_true rfl) rfl ?_
  intro p e s m below meth c F hr hlk hK hX hAB ls hl H locs hG
  have F : gF p m c cX8_erase 1 s ([.ref (h b0)] : List Value).toArray RX8 := F
  generalize ([.ref (h b0)] : List Value).toArray = args at F ⊢
  generalize hQ : MQ below _ _ _ _ _ _ = Q
  generalize hA : gAd [C8 E h b0, C2 E h (b0+1) w0.1, C6 E h (b0+3) w0.2.1, C5 E h (b0+9) w0.2.2.1.2.2, C6 E h ((b0+9)+1) w0.2.2.1.1, C7 E h ((b0+9)+7) w0.2.2.1.2.1, C3 E h (b0+18) w0.2.2.2.1, C0 E h (b0+20) w0.2.2.2.2] = A at hAB hG
  have hl : lv_has ls 1 [(0, .ref (h b0))] := hl
  have hx := F.1
  have hb := F.2.1
  unfold f_X8_erase at hf
  refine lv_aload_n hx hb dX8_erase_0 rfl (lv_at hl 0 rfl) ?_
  refine g_get F hK hG.1 0 0 2 flX8_26 rfl rfl rfl dX8_erase_1 ?_
  obtain ⟨x1, hx1, hf⟩ := g_bnd hf
  refine g_rv (As := []) (rest := []) F hK (hG.X hX hAB) hG.1 [3, 4, 5] rfl (c_X5_places h (b0+9) w0.2.2.1 hx1) (kX8_141 F.2.2.2.2 ⟨Nat.le_of_ble_eq_true rfl, Nat.le_of_ble_eq_true rfl⟩) rfl rfl rfl rfl hl.1 rfl (lv_room (Nat.le_of_ble_eq_true rfl)) ⟨Nat.zero_le _, Nat.zero_le _⟩ dX8_erase_4 ?_
  refine lv_if_ne (tgt := 20) hx hb dX8_erase_7 (by decide) (fun c2 => ?_) (fun c2 => ?_)
  · have hf := g_if c2 hf
    refine lv_aload_n hx hb dX8_erase_20 rfl (lv_at hl 0 rfl) ?_
    refine g_get F hK hG.1 0 0 3 flX8_33 rfl rfl rfl dX8_erase_21 ?_
    refine lv_aload_n hx hb dX8_erase_24 rfl (lv_at hl 0 rfl) ?_
    refine g_get F hK hG.1 0 0 2 flX8_26 rfl rfl rfl dX8_erase_25 ?_
    obtain ⟨x3, hx3, hf⟩ := g_bnd hf
    refine g_mvv (S' := [C8 E h b0, C2 E h (b0+1) w0.1, C6 E h (b0+3) w0.2.1, C5 E h (b0+9) w0.2.2.1.2.2, C6 E h ((b0+9)+1) w0.2.2.1.1, C7 E h ((b0+9)+7) w0.2.2.1.2.1, C3 E h (b0+18) x3, C0 E h (b0+20) w0.2.2.2.2]) (As := [.ref (h (b0+9))]) (rest := []) F hK hX hAB hG [6, 3, 4, 5] rfl rfl (c_X3_push h (b0+18) w0.2.2.2.1 (b0+9) w0.2.2.1 hx3) rfl (kX8_75 F.2.2.2.2 ⟨Nat.le_of_ble_eq_true rfl, Nat.le_of_ble_eq_true rfl⟩) rfl rfl rfl rfl hl.1 rfl (lv_room (Nat.le_of_ble_eq_true rfl)) ⟨Nat.zero_le _, Nat.zero_le _⟩ dX8_erase_28 (fun H locs hG => ?_)
    refine lv_aload_n hx hb dX8_erase_31 rfl (lv_at hl 0 rfl) ?_
    refine g_get F hK hG.1 0 0 2 flX8_26 rfl rfl rfl dX8_erase_32 ?_
    obtain ⟨x4, hx4, hf⟩ := g_bnd hf
    refine g_mvv (S' := [C8 E h b0, C2 E h (b0+1) w0.1, C6 E h (b0+3) w0.2.1, C5 E h (b0+9) x4.1, C6 E h ((b0+9)+1) w0.2.2.1.1, C7 E h ((b0+9)+7) x4.2, C3 E h (b0+18) x3, C0 E h (b0+20) w0.2.2.2.2]) (As := []) (rest := []) F hK hX hAB hG [3, 4, 5] rfl rfl (c_X5_dropLastPlace h (b0+9) w0.2.2.1 hx4) rfl (kX8_176 F.2.2.2.2 ⟨Nat.le_of_ble_eq_true rfl, Nat.le_of_ble_eq_true rfl⟩) rfl rfl rfl rfl hl.1 rfl (lv_room (Nat.le_of_ble_eq_true rfl)) ⟨Nat.zero_le _, Nat.zero_le _⟩ dX8_erase_35 (fun H locs hG => ?_)
    refine lv_aload_n hx hb dX8_erase_38 rfl (lv_at hl 0 rfl) ?_
    refine g_get F hK hG.1 0 0 2 flX8_26 rfl rfl rfl dX8_erase_39 ?_
    obtain ⟨x5, hx5, hf⟩ := g_bnd hf
    refine g_rv (As := []) (rest := []) F hK (hG.X hX hAB) hG.1 [3, 4, 5] rfl (c_X5_places h (b0+9) (w0.2.2.1.1, x4.2, x4.1) hx5) (kX8_141 F.2.2.2.2 ⟨Nat.le_of_ble_eq_true rfl, Nat.le_of_ble_eq_true rfl⟩) rfl rfl rfl rfl hl.1 rfl (lv_room (Nat.le_of_ble_eq_true rfl)) ⟨Nat.zero_le _, Nat.zero_le _⟩ dX8_erase_42 ?_
    have ho := Option.some.inj hf
    subst hA
    have ho := Sum.inr.inj ho
    rw [← hQ, ← ho]
    exact g_mretI F hr hlk hG dX8_erase_45
  · have hf := g_it c2 hf
    exact absurd (Option.some.inj hf) (fun z => nomatch z)
set_option maxHeartbeats 4000000 in
set_option maxRecDepth 100000 in
theorem c_X8_accept {l : Launch} {E : gEnv} (h : Nat → Nat) (b0 : Nat) (w0 : T8) {o : Int32 × T5s × T6 × T7 × T3 × T0} (hf : f_X8_accept w0 = some (.inr o)) : gM l yX8_accept cX8_accept 1 (some .int) rX8_accept E [.ref (h b0)] [C8 E h b0, C2 E h (b0+1) w0.1, C6 E h (b0+3) w0.2.1, C5 E h (b0+9) w0.2.2.1.2.2, C6 E h ((b0+9)+1) w0.2.2.1.1, C7 E h ((b0+9)+7) w0.2.2.1.2.1, C3 E h (b0+18) w0.2.2.2.1, C0 E h (b0+20) w0.2.2.2.2] (some (.int o.1)) [C8 E h b0, C2 E h (b0+1) w0.1, C6 E h (b0+3) w0.2.1, C5 E h (b0+9) o.2.1, C6 E h ((b0+9)+1) o.2.2.1, C7 E h ((b0+9)+7) o.2.2.2.1, C3 E h (b0+18) o.2.2.2.2.1, C0 E h (b0+20) o.2.2.2.2.2] := by
  refine gM.of (by decide +kernel) (Nat.le_of_ble_eq_true rfl) rfl ?_
  intro p e s m below meth c F hr hlk hK hX hAB ls hl H locs hG
  have F : gF p m c cX8_accept 1 s ([.ref (h b0)] : List Value).toArray RX8 := F
  generalize ([.ref (h b0)] : List Value).toArray = args at F ⊢
  generalize hQ : MQ below _ _ _ _ _ _ = Q
  generalize hA : gAd [C8 E h b0, C2 E h (b0+1) w0.1, C6 E h (b0+3) w0.2.1, C5 E h (b0+9) w0.2.2.1.2.2, C6 E h ((b0+9)+1) w0.2.2.1.1, C7 E h ((b0+9)+7) w0.2.2.1.2.1, C3 E h (b0+18) w0.2.2.2.1, C0 E h (b0+20) w0.2.2.2.2] = A at hAB hG
  have hl : lv_has ls 1 [(0, .ref (h b0))] := hl
  have hx := F.1
  have hb := F.2.1
  unfold f_X8_accept at hf
  refine lv_aload_n hx hb dX8_accept_0 rfl (lv_at hl 0 rfl) ?_
  refine g_get F hK hG.1 0 0 2 flX8_26 rfl rfl rfl dX8_accept_1 ?_
  obtain ⟨x1, hx1, hf⟩ := g_bnd hf
  refine g_rv (As := []) (rest := []) F hK (hG.X hX hAB) hG.1 [3, 4, 5] rfl (c_X5_places h (b0+9) w0.2.2.1 hx1) (kX8_141 F.2.2.2.2 ⟨Nat.le_of_ble_eq_true rfl, Nat.le_of_ble_eq_true rfl⟩) rfl rfl rfl rfl hl.1 rfl (lv_room (Nat.le_of_ble_eq_true rfl)) ⟨Nat.zero_le _, Nat.zero_le _⟩ dX8_accept_4 ?_
  refine lv_if_ne (tgt := 20) hx hb dX8_accept_7 (by decide) (fun c2 => ?_) (fun c2 => ?_)
  · have hf := g_if c2 hf
    refine lv_aload_n hx hb dX8_accept_20 rfl (lv_at hl 0 rfl) ?_
    refine g_get F hK hG.1 0 0 2 flX8_26 rfl rfl rfl dX8_accept_21 ?_
    refine g_get F hK hG.1 3 0 9 flX8_179 rfl rfl rfl dX8_accept_24 ?_
    refine lv_iconst (v := (-1)) hx hb dX8_accept_27 (by decide) ?_
    refine lv_icmp_ne (tgt := 56) hx hb dX8_accept_28 (by decide) (fun c3 => ?_) (fun c3 => ?_)
    · have hf := g_if c3 hf
      refine lv_aload_n hx hb dX8_accept_56 rfl (lv_at hl 0 rfl) ?_
      refine g_get F hK hG.1 0 0 3 flX8_33 rfl rfl rfl dX8_accept_57 ?_
      refine lv_aload_n hx hb dX8_accept_60 rfl (lv_at hl 0 rfl) ?_
      refine g_get F hK hG.1 0 0 2 flX8_26 rfl rfl rfl dX8_accept_61 ?_
      obtain ⟨x4, hx4, hf⟩ := g_bnd hf
      refine g_mvv (S' := [C8 E h b0, C2 E h (b0+1) w0.1, C6 E h (b0+3) w0.2.1, C5 E h (b0+9) w0.2.2.1.2.2, C6 E h ((b0+9)+1) w0.2.2.1.1, C7 E h ((b0+9)+7) w0.2.2.1.2.1, C3 E h (b0+18) x4, C0 E h (b0+20) w0.2.2.2.2]) (As := [.ref (h (b0+9))]) (rest := []) F hK hX hAB hG [6, 3, 4, 5] rfl rfl (c_X3_push h (b0+18) w0.2.2.2.1 (b0+9) w0.2.2.1 hx4) rfl (kX8_75 F.2.2.2.2 ⟨Nat.le_of_ble_eq_true rfl, Nat.le_of_ble_eq_true rfl⟩) rfl rfl rfl rfl hl.1 rfl (lv_room (Nat.le_of_ble_eq_true rfl)) ⟨Nat.zero_le _, Nat.zero_le _⟩ dX8_accept_64 (fun H locs hG => ?_)
      refine lv_aload_n hx hb dX8_accept_67 rfl (lv_at hl 0 rfl) ?_
      refine g_get F hK hG.1 0 0 2 flX8_26 rfl rfl rfl dX8_accept_68 ?_
      refine lv_aload_n hx hb dX8_accept_71 rfl (lv_at hl 0 rfl) ?_
      obtain ⟨x5, hx5, hf⟩ := g_bnd hf
      refine g_mv (S' := [C8 E h b0, C2 E h (b0+1) w0.1, C6 E h (b0+3) w0.2.1, C5 E h (b0+9) w0.2.2.1.2.2, C6 E h ((b0+9)+1) w0.2.2.1.1, C7 E h ((b0+9)+7) w0.2.2.1.2.1, C3 E h (b0+18) x4, C0 E h (b0+20) x5.2]) (As := []) (rest := [.ref (h (b0+9))]) F hK hX hAB hG [0, 1, 2, 3, 4, 5, 6, 7] rfl rfl (c_X8_displayed h b0 (w0.1, w0.2.1, w0.2.2.1, x4, w0.2.2.2.2) hx5) rfl (kX8_153 F.2.2.2.2 ⟨Nat.le_of_ble_eq_true rfl, Nat.le_of_ble_eq_true rfl⟩) rfl rfl rfl rfl hl.1 rfl (lv_room (Nat.le_of_ble_eq_true rfl)) ⟨Nat.zero_le _, Nat.zero_le _⟩ dX8_accept_72 (fun H locs hG => ?_)
      obtain ⟨x6, hx6, hf⟩ := g_bnd hf
      refine g_mvv (S' := [C8 E h b0, C2 E h (b0+1) w0.1, C6 E h (b0+3) w0.2.1, C5 E h (b0+9) x6.1, C6 E h ((b0+9)+1) x6.2.1, C7 E h ((b0+9)+7) x6.2.2, C3 E h (b0+18) x4, C0 E h (b0+20) x5.2]) (As := [.long x5.1]) (rest := []) F hK hX hAB hG [3, 4, 5] rfl rfl (c_X5_takeWord h (b0+9) w0.2.2.1 x5.1 hx6) rfl (kX8_191 F.2.2.2.2 ⟨Nat.le_of_ble_eq_true rfl, Nat.le_of_ble_eq_true rfl⟩) rfl rfl rfl rfl hl.1 rfl (lv_room (Nat.le_of_ble_eq_true rfl)) ⟨Nat.zero_le _, Nat.zero_le _⟩ dX8_accept_75 (fun H locs hG => ?_)
      refine lv_aload_n hx hb dX8_accept_78 rfl (lv_at hl 0 rfl) ?_
      refine g_get F hK hG.1 0 0 2 flX8_26 rfl rfl rfl dX8_accept_79 ?_
      refine g_get F hK hG.1 3 0 1 flX8_182 rfl rfl rfl dX8_accept_82 ?_
      refine g_get F hK hG.1 5 0 1 flX8_186 rfl rfl rfl dX8_accept_85 ?_
      have ho := Option.some.inj hf
      subst hA
      have ho := Sum.inr.inj ho
      rw [← hQ, ← ho]
      exact g_mretI F hr hlk hG dX8_accept_88
    · have hf := g_it c3 hf
      refine lv_aload_n hx hb dX8_accept_31 rfl (lv_at hl 0 rfl) ?_
      refine g_get F hK hG.1 0 0 2 flX8_26 rfl rfl rfl dX8_accept_32 ?_
      refine g_get F hK hG.1 3 0 1 flX8_182 rfl rfl rfl dX8_accept_35 ?_
      refine g_get F hK hG.1 5 0 1 flX8_186 rfl rfl rfl dX8_accept_38 ?_
      refine lv_bipush (v := 30) hx hb dX8_accept_41 (by decide) ?_
      refine lv_icmp_lt (tgt := 56) hx hb dX8_accept_43 (by decide) (fun c7 => ?_) (fun c7 => ?_)
      · have hf := g_it c7 hf
        refine lv_aload_n hx hb dX8_accept_56 rfl (lv_at hl 0 rfl) ?_
        refine g_get F hK hG.1 0 0 3 flX8_33 rfl rfl rfl dX8_accept_57 ?_
        refine lv_aload_n hx hb dX8_accept_60 rfl (lv_at hl 0 rfl) ?_
        refine g_get F hK hG.1 0 0 2 flX8_26 rfl rfl rfl dX8_accept_61 ?_
        obtain ⟨x8, hx8, hf⟩ := g_bnd hf
        refine g_mvv (S' := [C8 E h b0, C2 E h (b0+1) w0.1, C6 E h (b0+3) w0.2.1, C5 E h (b0+9) w0.2.2.1.2.2, C6 E h ((b0+9)+1) w0.2.2.1.1, C7 E h ((b0+9)+7) w0.2.2.1.2.1, C3 E h (b0+18) x8, C0 E h (b0+20) w0.2.2.2.2]) (As := [.ref (h (b0+9))]) (rest := []) F hK hX hAB hG [6, 3, 4, 5] rfl rfl (c_X3_push h (b0+18) w0.2.2.2.1 (b0+9) w0.2.2.1 hx8) rfl (kX8_75 F.2.2.2.2 ⟨Nat.le_of_ble_eq_true rfl, Nat.le_of_ble_eq_true rfl⟩) rfl rfl rfl rfl hl.1 rfl (lv_room (Nat.le_of_ble_eq_true rfl)) ⟨Nat.zero_le _, Nat.zero_le _⟩ dX8_accept_64 (fun H locs hG => ?_)
        refine lv_aload_n hx hb dX8_accept_67 rfl (lv_at hl 0 rfl) ?_
        refine g_get F hK hG.1 0 0 2 flX8_26 rfl rfl rfl dX8_accept_68 ?_
        refine lv_aload_n hx hb dX8_accept_71 rfl (lv_at hl 0 rfl) ?_
        obtain ⟨x9, hx9, hf⟩ := g_bnd hf
        refine g_mv (S' := [C8 E h b0, C2 E h (b0+1) w0.1, C6 E h (b0+3) w0.2.1, C5 E h (b0+9) w0.2.2.1.2.2, C6 E h ((b0+9)+1) w0.2.2.1.1, C7 E h ((b0+9)+7) w0.2.2.1.2.1, C3 E h (b0+18) x8, C0 E h (b0+20) x9.2]) (As := []) (rest := [.ref (h (b0+9))]) F hK hX hAB hG [0, 1, 2, 3, 4, 5, 6, 7] rfl rfl (c_X8_displayed h b0 (w0.1, w0.2.1, w0.2.2.1, x8, w0.2.2.2.2) hx9) rfl (kX8_153 F.2.2.2.2 ⟨Nat.le_of_ble_eq_true rfl, Nat.le_of_ble_eq_true rfl⟩) rfl rfl rfl rfl hl.1 rfl (lv_room (Nat.le_of_ble_eq_true rfl)) ⟨Nat.zero_le _, Nat.zero_le _⟩ dX8_accept_72 (fun H locs hG => ?_)
        obtain ⟨x10, hx10, hf⟩ := g_bnd hf
        refine g_mvv (S' := [C8 E h b0, C2 E h (b0+1) w0.1, C6 E h (b0+3) w0.2.1, C5 E h (b0+9) x10.1, C6 E h ((b0+9)+1) x10.2.1, C7 E h ((b0+9)+7) x10.2.2, C3 E h (b0+18) x8, C0 E h (b0+20) x9.2]) (As := [.long x9.1]) (rest := []) F hK hX hAB hG [3, 4, 5] rfl rfl (c_X5_takeWord h (b0+9) w0.2.2.1 x9.1 hx10) rfl (kX8_191 F.2.2.2.2 ⟨Nat.le_of_ble_eq_true rfl, Nat.le_of_ble_eq_true rfl⟩) rfl rfl rfl rfl hl.1 rfl (lv_room (Nat.le_of_ble_eq_true rfl)) ⟨Nat.zero_le _, Nat.zero_le _⟩ dX8_accept_75 (fun H locs hG => ?_)
        refine lv_aload_n hx hb dX8_accept_78 rfl (lv_at hl 0 rfl) ?_
        refine g_get F hK hG.1 0 0 2 flX8_26 rfl rfl rfl dX8_accept_79 ?_
        refine g_get F hK hG.1 3 0 1 flX8_182 rfl rfl rfl dX8_accept_82 ?_
        refine g_get F hK hG.1 5 0 1 flX8_186 rfl rfl rfl dX8_accept_85 ?_
        have ho := Option.some.inj hf
        subst hA
        have ho := Sum.inr.inj ho
        rw [← hQ, ← ho]
        exact g_mretI F hr hlk hG dX8_accept_88
      · have hf := g_if c7 hf
        exact absurd (Option.some.inj hf) (fun z => nomatch z)
  · have hf := g_it c2 hf
    exact absurd (Option.some.inj hf) (fun z => nomatch z)
set_option maxHeartbeats 4000000 in
set_option maxRecDepth 100000 in
theorem c_X8_open {l : Launch} {E : gEnv} (h : Nat → Nat) (b0 : Nat) (w0 : T8) (a1 : Int32) {o : Int32 × T5s × T3} (hf : f_X8_open w0 a1 = some (.inr o)) : gM l yX8_open cX8_open 2 (some .int) rX8_open E [.ref (h b0), .int a1] [C8 E h b0, C2 E h (b0+1) w0.1, C6 E h (b0+3) w0.2.1, C5 E h (b0+9) w0.2.2.1.2.2, C6 E h ((b0+9)+1) w0.2.2.1.1, C7 E h ((b0+9)+7) w0.2.2.1.2.1, C3 E h (b0+18) w0.2.2.2.1, C0 E h (b0+20) w0.2.2.2.2] (some (.int o.1)) [C8 E h b0, C2 E h (b0+1) w0.1, C6 E h (b0+3) w0.2.1, C5 E h (b0+9) o.2.1, C6 E h ((b0+9)+1) w0.2.2.1.1, C7 E h ((b0+9)+7) w0.2.2.1.2.1, C3 E h (b0+18) o.2.2, C0 E h (b0+20) w0.2.2.2.2] := by
  refine gM.of (by decide +kernel) (Nat.le_of_ble_eq_true rfl) rfl ?_
  intro p e s m below meth c F hr hlk hK hX hAB ls hl H locs hG
  have F : gF p m c cX8_open 2 s ([.ref (h b0), .int a1] : List Value).toArray RX8 := F
  generalize ([.ref (h b0), .int a1] : List Value).toArray = args at F ⊢
  generalize hQ : MQ below _ _ _ _ _ _ = Q
  generalize hA : gAd [C8 E h b0, C2 E h (b0+1) w0.1, C6 E h (b0+3) w0.2.1, C5 E h (b0+9) w0.2.2.1.2.2, C6 E h ((b0+9)+1) w0.2.2.1.1, C7 E h ((b0+9)+7) w0.2.2.1.2.1, C3 E h (b0+18) w0.2.2.2.1, C0 E h (b0+20) w0.2.2.2.2] = A at hAB hG
  have hl : lv_has ls 2 [(0, .ref (h b0)), (1, .int a1)] := hl
  have hx := F.1
  have hb := F.2.1
  unfold f_X8_open at hf
  refine lv_aload_n hx hb dX8_open_0 rfl (lv_at hl 0 rfl) ?_
  refine g_get F hK hG.1 0 0 2 flX8_26 rfl rfl rfl dX8_open_1 ?_
  refine g_get F hK hG.1 3 0 1 flX8_182 rfl rfl rfl dX8_open_4 ?_
  refine lv_iload_n hx hb dX8_open_7 rfl (lv_at hl 1 rfl) ?_
  obtain ⟨x1, hx1, hf⟩ := g_bnd hf
  refine g_rv (As := [.int a1]) (rest := []) F hK (hG.X hX hAB) hG.1 [5] rfl (c_X7_has h ((b0+9)+7) w0.2.2.1.2.1 a1 hx1) (kX8_195 F.2.2.2.2 ⟨Nat.le_of_ble_eq_true rfl, Nat.le_of_ble_eq_true rfl⟩) rfl rfl rfl rfl hl.1 rfl (lv_room (Nat.le_of_ble_eq_true rfl)) ⟨Nat.zero_le _, Nat.zero_le _⟩ dX8_open_8 ?_
  refine lv_if_ne (tgt := 24) hx hb dX8_open_11 (by decide) (fun c2 => ?_) (fun c2 => ?_)
  · have hf := g_if c2 hf
    refine lv_aload_n hx hb dX8_open_24 rfl (lv_at hl 0 rfl) ?_
    refine g_get F hK hG.1 0 0 2 flX8_26 rfl rfl rfl dX8_open_25 ?_
    obtain ⟨x3, hx3, hf⟩ := g_bnd hf
    refine g_rv (As := []) (rest := []) F hK (hG.X hX hAB) hG.1 [3, 4, 5] rfl (c_X5_places h (b0+9) w0.2.2.1 hx3) (kX8_141 F.2.2.2.2 ⟨Nat.le_of_ble_eq_true rfl, Nat.le_of_ble_eq_true rfl⟩) rfl rfl rfl rfl hl.1 rfl (lv_room (Nat.le_of_ble_eq_true rfl)) ⟨Nat.zero_le _, Nat.zero_le _⟩ dX8_open_28 ?_
    refine lv_if_ne (tgt := 45) hx hb dX8_open_31 (by decide) (fun c4 => ?_) (fun c4 => ?_)
    · have hf := g_if c4 hf
      exact absurd (Option.some.inj hf) (fun z => nomatch z)
    · have hf := g_it c4 hf
      refine lv_aload_n hx hb dX8_open_34 rfl (lv_at hl 0 rfl) ?_
      refine g_get F hK hG.1 0 0 2 flX8_26 rfl rfl rfl dX8_open_35 ?_
      refine g_get F hK hG.1 3 0 9 flX8_179 rfl rfl rfl dX8_open_38 ?_
      refine lv_iconst (v := (-1)) hx hb dX8_open_41 (by decide) ?_
      refine lv_icmp_eq (tgt := 55) hx hb dX8_open_42 (by decide) (fun c5 => ?_) (fun c5 => ?_)
      · have hf := g_it c5 hf
        refine lv_aload_n hx hb dX8_open_55 rfl (lv_at hl 0 rfl) ?_
        refine g_get F hK hG.1 0 0 3 flX8_33 rfl rfl rfl dX8_open_56 ?_
        refine lv_aload_n hx hb dX8_open_59 rfl (lv_at hl 0 rfl) ?_
        refine g_get F hK hG.1 0 0 2 flX8_26 rfl rfl rfl dX8_open_60 ?_
        obtain ⟨x6, hx6, hf⟩ := g_bnd hf
        refine g_mvv (S' := [C8 E h b0, C2 E h (b0+1) w0.1, C6 E h (b0+3) w0.2.1, C5 E h (b0+9) w0.2.2.1.2.2, C6 E h ((b0+9)+1) w0.2.2.1.1, C7 E h ((b0+9)+7) w0.2.2.1.2.1, C3 E h (b0+18) x6, C0 E h (b0+20) w0.2.2.2.2]) (As := [.ref (h (b0+9))]) (rest := []) F hK hX hAB hG [6, 3, 4, 5] rfl rfl (c_X3_push h (b0+18) w0.2.2.2.1 (b0+9) w0.2.2.1 hx6) rfl (kX8_75 F.2.2.2.2 ⟨Nat.le_of_ble_eq_true rfl, Nat.le_of_ble_eq_true rfl⟩) rfl rfl rfl rfl hl.1 rfl (lv_room (Nat.le_of_ble_eq_true rfl)) ⟨Nat.zero_le _, Nat.zero_le _⟩ dX8_open_63 (fun H locs hG => ?_)
        refine lv_aload_n hx hb dX8_open_66 rfl (lv_at hl 0 rfl) ?_
        refine g_get F hK hG.1 0 0 2 flX8_26 rfl rfl rfl dX8_open_67 ?_
        refine lv_iload_n hx hb dX8_open_70 rfl (lv_at hl 1 rfl) ?_
        obtain ⟨x7, hx7, hf⟩ := g_bnd hf
        refine g_mvv (S' := [C8 E h b0, C2 E h (b0+1) w0.1, C6 E h (b0+3) w0.2.1, C5 E h (b0+9) x7, C6 E h ((b0+9)+1) w0.2.2.1.1, C7 E h ((b0+9)+7) w0.2.2.1.2.1, C3 E h (b0+18) x6, C0 E h (b0+20) w0.2.2.2.2]) (As := [.int a1]) (rest := []) F hK hX hAB hG [3, 4, 5] rfl rfl (c_X5_openWritten h (b0+9) w0.2.2.1 a1 hx7) rfl (kX8_200 F.2.2.2.2 ⟨Nat.le_of_ble_eq_true rfl, Nat.le_of_ble_eq_true rfl⟩) rfl rfl rfl rfl hl.1 rfl (lv_room (Nat.le_of_ble_eq_true rfl)) ⟨Nat.zero_le _, Nat.zero_le _⟩ dX8_open_71 (fun H locs hG => ?_)
        refine lv_aload_n hx hb dX8_open_74 rfl (lv_at hl 0 rfl) ?_
        refine g_get F hK hG.1 0 0 2 flX8_26 rfl rfl rfl dX8_open_75 ?_
        obtain ⟨x8, hx8, hf⟩ := g_bnd hf
        refine g_rv (As := []) (rest := []) F hK (hG.X hX hAB) hG.1 [3, 4, 5] rfl (c_X5_places h (b0+9) (w0.2.2.1.1, w0.2.2.1.2.1, x7) hx8) (kX8_141 F.2.2.2.2 ⟨Nat.le_of_ble_eq_true rfl, Nat.le_of_ble_eq_true rfl⟩) rfl rfl rfl rfl hl.1 rfl (lv_room (Nat.le_of_ble_eq_true rfl)) ⟨Nat.zero_le _, Nat.zero_le _⟩ dX8_open_78 ?_
        have ho := Option.some.inj hf
        subst hA
        have ho := Sum.inr.inj ho
        rw [← hQ, ← ho]
        exact g_mretI F hr hlk hG dX8_open_81
      · have hf := g_if c5 hf
        exact absurd (Option.some.inj hf) (fun z => nomatch z)
  · have hf := g_it c2 hf
    exact absurd (Option.some.inj hf) (fun z => nomatch z)
set_option maxHeartbeats 4000000 in
set_option maxRecDepth 100000 in
theorem c_X8_settingOf {l : Launch} {E : gEnv} (h : Nat → Nat) (b0 : Nat) (w0 : T8) (a1 : Int32) {o : Int32 × T0} (hf : f_X8_settingOf w0 a1 = some o) : gM l yX8_settingOf cX8_settingOf 2 (some .int) rX8_settingOf E [.ref (h b0), .int a1] [C8 E h b0, C2 E h (b0+1) w0.1, C6 E h (b0+3) w0.2.1, C5 E h (b0+9) w0.2.2.1.2.2, C6 E h ((b0+9)+1) w0.2.2.1.1, C7 E h ((b0+9)+7) w0.2.2.1.2.1, C3 E h (b0+18) w0.2.2.2.1, C0 E h (b0+20) w0.2.2.2.2] (some (.int o.1)) [C8 E h b0, C2 E h (b0+1) w0.1, C6 E h (b0+3) w0.2.1, C5 E h (b0+9) w0.2.2.1.2.2, C6 E h ((b0+9)+1) w0.2.2.1.1, C7 E h ((b0+9)+7) w0.2.2.1.2.1, C3 E h (b0+18) w0.2.2.2.1, C0 E h (b0+20) o.2] := by
  refine gM.of (by decide +kernel) (Nat.le_of_ble_eq_true rfl) rfl ?_
  intro p e s m below meth c F hr hlk hK hX hAB ls hl H locs hG
  have F : gF p m c cX8_settingOf 2 s ([.ref (h b0), .int a1] : List Value).toArray RX8 := F
  generalize ([.ref (h b0), .int a1] : List Value).toArray = args at F ⊢
  generalize hQ : MQ below _ _ _ _ _ _ = Q
  generalize hA : gAd [C8 E h b0, C2 E h (b0+1) w0.1, C6 E h (b0+3) w0.2.1, C5 E h (b0+9) w0.2.2.1.2.2, C6 E h ((b0+9)+1) w0.2.2.1.1, C7 E h ((b0+9)+7) w0.2.2.1.2.1, C3 E h (b0+18) w0.2.2.2.1, C0 E h (b0+20) w0.2.2.2.2] = A at hAB hG
  have hl : lv_has ls 2 [(0, .ref (h b0)), (1, .int a1)] := hl
  have hx := F.1
  have hb := F.2.1
  unfold f_X8_settingOf at hf
  refine lv_iload_n hx hb dX8_settingOf_0 rfl (lv_at hl 1 rfl) ?_
  by_cases c1 : a1 < 0 ∨ 10 < a1
  · have hf := g_it c1 hf
    refine g_tabOut (tgt := 206) c1 hx hb dX8_settingOf_1 (by decide) (by decide) (by decide) ?_
    refine lv_iconst (v := (-1)) hx hb dX8_settingOf_206 (by decide) ?_
    have ho := Option.some.inj hf
    subst hA
    rw [← hQ, ← ho]
    exact g_mretI F hr hlk hG dX8_settingOf_207
  · have hf := g_if c1 hf
    by_cases c2 : a1 = 0
    · have hf := g_it c2 hf
      refine g_tabIn (tgt := 60) c2 hx hb dX8_settingOf_1 (by decide) (by decide) rfl (by decide) ?_
      refine lv_aload_n hx hb dX8_settingOf_60 rfl (lv_at hl 0 rfl) ?_
      refine g_get F hK hG.1 0 0 2 flX8_26 rfl rfl rfl dX8_settingOf_61 ?_
      refine g_get F hK hG.1 3 0 0 flX8_79 rfl rfl rfl dX8_settingOf_64 ?_
      refine g_get F hK hG.1 4 0 5 flX8_89 rfl rfl rfl dX8_settingOf_67 ?_
      have ho := Option.some.inj hf
      subst hA
      rw [← hQ, ← ho]
      exact g_mretI F hr hlk hG dX8_settingOf_70
    have hf := g_if c2 hf
    by_cases c3 : a1 = 1
    · have hf := g_it c3 hf
      refine g_tabIn (tgt := 71) c3 hx hb dX8_settingOf_1 (by decide) (by decide) rfl (by decide) ?_
      refine lv_aload_n hx hb dX8_settingOf_71 rfl (lv_at hl 0 rfl) ?_
      refine g_get F hK hG.1 0 0 2 flX8_26 rfl rfl rfl dX8_settingOf_72 ?_
      refine g_get F hK hG.1 3 0 2 flX8_268 rfl rfl rfl dX8_settingOf_75 ?_
      have ho := Option.some.inj hf
      subst hA
      rw [← hQ, ← ho]
      exact g_mretI F hr hlk hG dX8_settingOf_78
    have hf := g_if c3 hf
    by_cases c4 : a1 = 2
    · have hf := g_it c4 hf
      refine g_tabIn (tgt := 79) c4 hx hb dX8_settingOf_1 (by decide) (by decide) rfl (by decide) ?_
      refine lv_aload_n hx hb dX8_settingOf_79 rfl (lv_at hl 0 rfl) ?_
      refine g_get F hK hG.1 0 0 2 flX8_26 rfl rfl rfl dX8_settingOf_80 ?_
      refine g_get F hK hG.1 3 0 3 flX8_94 rfl rfl rfl dX8_settingOf_83 ?_
      have ho := Option.some.inj hf
      subst hA
      rw [← hQ, ← ho]
      exact g_mretI F hr hlk hG dX8_settingOf_86
    have hf := g_if c4 hf
    by_cases c6 : a1 = 3
    · have hf := g_it c6 hf
      refine g_tabIn (tgt := 87) c6 hx hb dX8_settingOf_1 (by decide) (by decide) rfl (by decide) ?_
      refine lv_aload_n hx hb dX8_settingOf_87 rfl (lv_at hl 0 rfl) ?_
      refine g_get F hK hG.1 0 0 2 flX8_26 rfl rfl rfl dX8_settingOf_88 ?_
      refine g_get F hK hG.1 3 0 4 flX8_97 rfl rfl rfl dX8_settingOf_91 ?_
      refine lv_if_eq (tgt := 101) hx hb dX8_settingOf_94 (by decide) (fun c5 => ?_) (fun c5 => ?_)
      · have hf := g_it c5 hf
        refine lv_iconst (v := 0) hx hb dX8_settingOf_101 (by decide) ?_
        have ho := Option.some.inj hf
        subst hA
        rw [← hQ, ← ho]
        exact g_mretI F hr hlk hG dX8_settingOf_102
      · have hf := g_if c5 hf
        refine lv_iconst (v := 1) hx hb dX8_settingOf_97 (by decide) ?_
        refine lv_goto (tgt := 102) hx hb dX8_settingOf_98 (by decide) ?_
        have ho := Option.some.inj hf
        subst hA
        rw [← hQ, ← ho]
        exact g_mretI F hr hlk hG dX8_settingOf_102
    have hf := g_if c6 hf
    by_cases c8 : a1 = 4
    · have hf := g_it c8 hf
      refine g_tabIn (tgt := 103) c8 hx hb dX8_settingOf_1 (by decide) (by decide) rfl (by decide) ?_
      refine lv_aload_n hx hb dX8_settingOf_103 rfl (lv_at hl 0 rfl) ?_
      refine g_get F hK hG.1 0 0 2 flX8_26 rfl rfl rfl dX8_settingOf_104 ?_
      refine g_get F hK hG.1 3 0 5 flX8_165 rfl rfl rfl dX8_settingOf_107 ?_
      refine lv_if_eq (tgt := 117) hx hb dX8_settingOf_110 (by decide) (fun c7 => ?_) (fun c7 => ?_)
      · have hf := g_it c7 hf
        refine lv_iconst (v := 0) hx hb dX8_settingOf_117 (by decide) ?_
        have ho := Option.some.inj hf
        subst hA
        rw [← hQ, ← ho]
        exact g_mretI F hr hlk hG dX8_settingOf_118
      · have hf := g_if c7 hf
        refine lv_iconst (v := 1) hx hb dX8_settingOf_113 (by decide) ?_
        refine lv_goto (tgt := 118) hx hb dX8_settingOf_114 (by decide) ?_
        have ho := Option.some.inj hf
        subst hA
        rw [← hQ, ← ho]
        exact g_mretI F hr hlk hG dX8_settingOf_118
    have hf := g_if c8 hf
    by_cases c9 : a1 = 5
    · have hf := g_it c9 hf
      refine g_tabIn (tgt := 119) c9 hx hb dX8_settingOf_1 (by decide) (by decide) rfl (by decide) ?_
      refine lv_aload_n hx hb dX8_settingOf_119 rfl (lv_at hl 0 rfl) ?_
      refine g_get F hK hG.1 0 0 2 flX8_26 rfl rfl rfl dX8_settingOf_120 ?_
      refine g_get F hK hG.1 3 0 6 flX8_138 rfl rfl rfl dX8_settingOf_123 ?_
      have ho := Option.some.inj hf
      subst hA
      rw [← hQ, ← ho]
      exact g_mretI F hr hlk hG dX8_settingOf_126
    have hf := g_if c9 hf
    by_cases c11 : a1 = 6
    · have hf := g_it c11 hf
      refine g_tabIn (tgt := 127) c11 hx hb dX8_settingOf_1 (by decide) (by decide) rfl (by decide) ?_
      refine lv_aload_n hx hb dX8_settingOf_127 rfl (lv_at hl 0 rfl) ?_
      refine g_get F hK hG.1 0 0 2 flX8_26 rfl rfl rfl dX8_settingOf_128 ?_
      obtain ⟨x10, hx10, hf⟩ := g_bnd hf
      refine g_rv (As := []) (rest := []) F hK (hG.X hX hAB) hG.1 [3, 4, 5] rfl (c_X5_places h (b0+9) w0.2.2.1 hx10) (kX8_141 F.2.2.2.2 ⟨Nat.le_of_ble_eq_true rfl, Nat.le_of_ble_eq_true rfl⟩) rfl rfl rfl rfl hl.1 rfl (lv_room (Nat.le_of_ble_eq_true rfl)) ⟨Nat.zero_le _, Nat.zero_le _⟩ dX8_settingOf_131 ?_
      have ho := Option.some.inj hf
      subst hA
      rw [← hQ, ← ho]
      exact g_mretI F hr hlk hG dX8_settingOf_134
    have hf := g_if c11 hf
    by_cases c13 : a1 = 7
    · have hf := g_it c13 hf
      refine g_tabIn (tgt := 135) c13 hx hb dX8_settingOf_1 (by decide) (by decide) rfl (by decide) ?_
      refine lv_aload_n hx hb dX8_settingOf_135 rfl (lv_at hl 0 rfl) ?_
      refine g_get F hK hG.1 0 0 4 flX8_40 rfl rfl rfl dX8_settingOf_136 ?_
      refine lv_aload_n hx hb dX8_settingOf_139 rfl (lv_at hl 0 rfl) ?_
      refine g_get F hK hG.1 0 0 2 flX8_26 rfl rfl rfl dX8_settingOf_140 ?_
      obtain ⟨x12, hx12, hf⟩ := g_bnd hf
      refine g_mvv (S' := [C8 E h b0, C2 E h (b0+1) w0.1, C6 E h (b0+3) w0.2.1, C5 E h (b0+9) w0.2.2.1.2.2, C6 E h ((b0+9)+1) w0.2.2.1.1, C7 E h ((b0+9)+7) w0.2.2.1.2.1, C3 E h (b0+18) w0.2.2.2.1, C0 E h (b0+20) x12]) (As := [.ref (h (b0+9))]) (rest := []) F hK hX hAB hG [7, 3, 4, 5] rfl rfl (c_X0_find h (b0+20) w0.2.2.2.2 (b0+9) w0.2.2.1 hx12) rfl (kX8_168 F.2.2.2.2 ⟨Nat.le_of_ble_eq_true rfl, Nat.le_of_ble_eq_true rfl⟩) rfl rfl rfl rfl hl.1 rfl (lv_room (Nat.le_of_ble_eq_true rfl)) ⟨Nat.zero_le _, Nat.zero_le _⟩ dX8_settingOf_143 (fun H locs hG => ?_)
      refine lv_aload_n hx hb dX8_settingOf_146 rfl (lv_at hl 0 rfl) ?_
      refine g_get F hK hG.1 0 0 4 flX8_40 rfl rfl rfl dX8_settingOf_147 ?_
      refine g_get F hK hG.1 7 0 1 flX8_171 rfl rfl rfl dX8_settingOf_150 ?_
      have ho := Option.some.inj hf
      subst hA
      rw [← hQ, ← ho]
      exact g_mretI F hr hlk hG dX8_settingOf_153
    have hf := g_if c13 hf
    by_cases c16 : a1 = 8
    · have hf := g_it c16 hf
      refine g_tabIn (tgt := 154) c16 hx hb dX8_settingOf_1 (by decide) (by decide) rfl (by decide) ?_
      refine lv_aload_n hx hb dX8_settingOf_154 rfl (lv_at hl 0 rfl) ?_
      refine g_get F hK hG.1 0 0 4 flX8_40 rfl rfl rfl dX8_settingOf_155 ?_
      refine lv_aload_n hx hb dX8_settingOf_158 rfl (lv_at hl 0 rfl) ?_
      refine g_get F hK hG.1 0 0 2 flX8_26 rfl rfl rfl dX8_settingOf_159 ?_
      obtain ⟨x14, hx14, hf⟩ := g_bnd hf
      refine g_mvv (S' := [C8 E h b0, C2 E h (b0+1) w0.1, C6 E h (b0+3) w0.2.1, C5 E h (b0+9) w0.2.2.1.2.2, C6 E h ((b0+9)+1) w0.2.2.1.1, C7 E h ((b0+9)+7) w0.2.2.1.2.1, C3 E h (b0+18) w0.2.2.2.1, C0 E h (b0+20) x14]) (As := [.ref (h (b0+9))]) (rest := []) F hK hX hAB hG [7, 3, 4, 5] rfl rfl (c_X0_find h (b0+20) w0.2.2.2.2 (b0+9) w0.2.2.1 hx14) rfl (kX8_168 F.2.2.2.2 ⟨Nat.le_of_ble_eq_true rfl, Nat.le_of_ble_eq_true rfl⟩) rfl rfl rfl rfl hl.1 rfl (lv_room (Nat.le_of_ble_eq_true rfl)) ⟨Nat.zero_le _, Nat.zero_le _⟩ dX8_settingOf_162 (fun H locs hG => ?_)
      refine lv_aload_n hx hb dX8_settingOf_165 rfl (lv_at hl 0 rfl) ?_
      refine g_get F hK hG.1 0 0 4 flX8_40 rfl rfl rfl dX8_settingOf_166 ?_
      refine g_get F hK hG.1 7 0 1 flX8_171 rfl rfl rfl dX8_settingOf_169 ?_
      refine lv_if_le (tgt := 185) hx hb dX8_settingOf_172 (by decide) (fun c15 => ?_) (fun c15 => ?_)
      · have hf := g_it c15 hf
        refine lv_iconst (v := (-1)) hx hb dX8_settingOf_185 (by decide) ?_
        have ho := Option.some.inj hf
        subst hA
        rw [← hQ, ← ho]
        exact g_mretI F hr hlk hG dX8_settingOf_186
      · have hf := g_if c15 hf
        refine lv_aload_n hx hb dX8_settingOf_175 rfl (lv_at hl 0 rfl) ?_
        refine g_get F hK hG.1 0 0 2 flX8_26 rfl rfl rfl dX8_settingOf_176 ?_
        refine g_get F hK hG.1 3 0 8 flX8_86 rfl rfl rfl dX8_settingOf_179 ?_
        refine lv_goto (tgt := 186) hx hb dX8_settingOf_182 (by decide) ?_
        have ho := Option.some.inj hf
        subst hA
        rw [← hQ, ← ho]
        exact g_mretI F hr hlk hG dX8_settingOf_186
    have hf := g_if c16 hf
    by_cases c17 : a1 = 9
    · have hf := g_it c17 hf
      refine g_tabIn (tgt := 187) c17 hx hb dX8_settingOf_1 (by decide) (by decide) rfl (by decide) ?_
      refine lv_aload_n hx hb dX8_settingOf_187 rfl (lv_at hl 0 rfl) ?_
      refine g_get F hK hG.1 0 0 2 flX8_26 rfl rfl rfl dX8_settingOf_188 ?_
      refine g_get F hK hG.1 3 0 1 flX8_182 rfl rfl rfl dX8_settingOf_191 ?_
      refine g_get F hK hG.1 5 0 1 flX8_186 rfl rfl rfl dX8_settingOf_194 ?_
      have ho := Option.some.inj hf
      subst hA
      rw [← hQ, ← ho]
      exact g_mretI F hr hlk hG dX8_settingOf_197
    have hf := g_if c17 hf
    by_cases c18 : a1 = 10
    · have hf := g_it c18 hf
      refine g_tabIn (tgt := 198) c18 hx hb dX8_settingOf_1 (by decide) (by decide) rfl (by decide) ?_
      refine lv_aload_n hx hb dX8_settingOf_198 rfl (lv_at hl 0 rfl) ?_
      refine g_get F hK hG.1 0 0 2 flX8_26 rfl rfl rfl dX8_settingOf_199 ?_
      refine g_get F hK hG.1 3 0 9 flX8_179 rfl rfl rfl dX8_settingOf_202 ?_
      have ho := Option.some.inj hf
      subst hA
      rw [← hQ, ← ho]
      exact g_mretI F hr hlk hG dX8_settingOf_205
    have hf := g_if c18 hf
    exact absurd hf (fun h => nomatch h)
set_option maxHeartbeats 4000000 in
set_option maxRecDepth 100000 in
theorem c_X8_setting {l : Launch} {E : gEnv} (h : Nat → Nat) (b0 : Nat) (w0 : T8) (a1 : Int32) {o : Int32 × T0} (hf : f_X8_setting w0 a1 = some (.inr o)) : gM l yX8_setting cX8_setting 2 (some .int) rX8_setting E [.ref (h b0), .int a1] [C8 E h b0, C2 E h (b0+1) w0.1, C6 E h (b0+3) w0.2.1, C5 E h (b0+9) w0.2.2.1.2.2, C6 E h ((b0+9)+1) w0.2.2.1.1, C7 E h ((b0+9)+7) w0.2.2.1.2.1, C3 E h (b0+18) w0.2.2.2.1, C0 E h (b0+20) w0.2.2.2.2] (some (.int o.1)) [C8 E h b0, C2 E h (b0+1) w0.1, C6 E h (b0+3) w0.2.1, C5 E h (b0+9) w0.2.2.1.2.2, C6 E h ((b0+9)+1) w0.2.2.1.1, C7 E h ((b0+9)+7) w0.2.2.1.2.1, C3 E h (b0+18) w0.2.2.2.1, C0 E h (b0+20) o.2] := by
  refine gM.of (by decide +kernel) (Nat.le_of_ble_eq_true rfl) rfl ?_
  intro p e s m below meth c F hr hlk hK hX hAB ls hl H locs hG
  have F : gF p m c cX8_setting 2 s ([.ref (h b0), .int a1] : List Value).toArray RX8 := F
  generalize ([.ref (h b0), .int a1] : List Value).toArray = args at F ⊢
  generalize hQ : MQ below _ _ _ _ _ _ = Q
  generalize hA : gAd [C8 E h b0, C2 E h (b0+1) w0.1, C6 E h (b0+3) w0.2.1, C5 E h (b0+9) w0.2.2.1.2.2, C6 E h ((b0+9)+1) w0.2.2.1.1, C7 E h ((b0+9)+7) w0.2.2.1.2.1, C3 E h (b0+18) w0.2.2.2.1, C0 E h (b0+20) w0.2.2.2.2] = A at hAB hG
  have hl : lv_has ls 2 [(0, .ref (h b0)), (1, .int a1)] := hl
  have hx := F.1
  have hb := F.2.1
  unfold f_X8_setting at hf
  refine lv_iload_n hx hb dX8_setting_0 rfl (lv_at hl 1 rfl) ?_
  refine lv_if_lt (tgt := 10) hx hb dX8_setting_1 (by decide) (fun c1 => ?_) (fun c1 => ?_)
  · have hf := g_it c1 hf
    exact absurd (Option.some.inj hf) (fun z => nomatch z)
  · have hf := g_if c1 hf
    refine lv_iload_n hx hb dX8_setting_4 rfl (lv_at hl 1 rfl) ?_
    refine lv_bipush (v := 11) hx hb dX8_setting_5 (by decide) ?_
    refine lv_icmp_lt (tgt := 20) hx hb dX8_setting_7 (by decide) (fun c2 => ?_) (fun c2 => ?_)
    · have hf := g_it c2 hf
      refine lv_aload_n hx hb dX8_setting_20 rfl (lv_at hl 0 rfl) ?_
      refine lv_iload_n hx hb dX8_setting_21 rfl (lv_at hl 1 rfl) ?_
      obtain ⟨x3, hx3, hf⟩ := g_bnd hf
      refine g_mv (S' := [C8 E h b0, C2 E h (b0+1) w0.1, C6 E h (b0+3) w0.2.1, C5 E h (b0+9) w0.2.2.1.2.2, C6 E h ((b0+9)+1) w0.2.2.1.1, C7 E h ((b0+9)+7) w0.2.2.1.2.1, C3 E h (b0+18) w0.2.2.2.1, C0 E h (b0+20) x3.2]) (As := [.int a1]) (rest := []) F hK hX hAB hG [0, 1, 2, 3, 4, 5, 6, 7] rfl rfl (c_X8_settingOf h b0 w0 a1 hx3) rfl (kX8_205 F.2.2.2.2 ⟨Nat.le_of_ble_eq_true rfl, Nat.le_of_ble_eq_true rfl⟩) rfl rfl rfl rfl hl.1 rfl (lv_room (Nat.le_of_ble_eq_true rfl)) ⟨Nat.zero_le _, Nat.zero_le _⟩ dX8_setting_22 (fun H locs hG => ?_)
      have ho := Option.some.inj hf
      subst hA
      have ho := Sum.inr.inj ho
      rw [← hQ, ← ho]
      exact g_mretI F hr hlk hG dX8_setting_25
    · have hf := g_if c2 hf
      exact absurd (Option.some.inj hf) (fun z => nomatch z)
set_option maxHeartbeats 4000000 in
set_option maxRecDepth 100000 in
theorem c_X8_display {l : Launch} {E : gEnv} (h : Nat → Nat) (b0 : Nat) (w0 : T8) (a1 : Int32) {o : Int32 × T0} (hf : f_X8_display w0 a1 = some (.inr o)) : gM l yX8_display cX8_display 4 (some .int) rX8_display E [.ref (h b0), .int a1] [C8 E h b0, C2 E h (b0+1) w0.1, C6 E h (b0+3) w0.2.1, C5 E h (b0+9) w0.2.2.1.2.2, C6 E h ((b0+9)+1) w0.2.2.1.1, C7 E h ((b0+9)+7) w0.2.2.1.2.1, C3 E h (b0+18) w0.2.2.2.1, C0 E h (b0+20) w0.2.2.2.2] (some (.int o.1)) [C8 E h b0, C2 E h (b0+1) w0.1, C6 E h (b0+3) w0.2.1, C5 E h (b0+9) w0.2.2.1.2.2, C6 E h ((b0+9)+1) w0.2.2.1.1, C7 E h ((b0+9)+7) w0.2.2.1.2.1, C3 E h (b0+18) w0.2.2.2.1, C0 E h (b0+20) o.2] := by
  refine gM.of (by decide +kernel) (Nat.le_of_ble_eq_true rfl) rfl ?_
  intro p e s m below meth c F hr hlk hK hX hAB ls hl H locs hG
  have F : gF p m c cX8_display 4 s ([.ref (h b0), .int a1] : List Value).toArray RX8 := F
  generalize ([.ref (h b0), .int a1] : List Value).toArray = args at F ⊢
  generalize hQ : MQ below _ _ _ _ _ _ = Q
  generalize hA : gAd [C8 E h b0, C2 E h (b0+1) w0.1, C6 E h (b0+3) w0.2.1, C5 E h (b0+9) w0.2.2.1.2.2, C6 E h ((b0+9)+1) w0.2.2.1.1, C7 E h ((b0+9)+7) w0.2.2.1.2.1, C3 E h (b0+18) w0.2.2.2.1, C0 E h (b0+20) w0.2.2.2.2] = A at hAB hG
  have hl : lv_has ls 4 [(0, .ref (h b0)), (1, .int a1)] := hl
  have hx := F.1
  have hb := F.2.1
  unfold f_X8_display at hf
  refine lv_iload_n hx hb dX8_display_0 rfl (lv_at hl 1 rfl) ?_
  refine lv_if_ge (tgt := 14) hx hb dX8_display_1 (by decide) (fun c1 => ?_) (fun c1 => ?_)
  · have hf := g_it c1 hf
    refine lv_aload_n hx hb dX8_display_14 rfl (lv_at hl 0 rfl) ?_
    obtain ⟨x2, hx2, hf⟩ := g_bnd hf
    refine g_mv (S' := [C8 E h b0, C2 E h (b0+1) w0.1, C6 E h (b0+3) w0.2.1, C5 E h (b0+9) w0.2.2.1.2.2, C6 E h ((b0+9)+1) w0.2.2.1.1, C7 E h ((b0+9)+7) w0.2.2.1.2.1, C3 E h (b0+18) w0.2.2.2.1, C0 E h (b0+20) x2.2]) (As := []) (rest := []) F hK hX hAB hG [0, 1, 2, 3, 4, 5, 6, 7] rfl rfl (c_X8_displayed h b0 w0 hx2) rfl (kX8_153 F.2.2.2.2 ⟨Nat.le_of_ble_eq_true rfl, Nat.le_of_ble_eq_true rfl⟩) rfl rfl rfl rfl hl.1 rfl (lv_room (Nat.le_of_ble_eq_true rfl)) ⟨Nat.zero_le _, Nat.zero_le _⟩ dX8_display_15 (fun H locs hG => ?_)
    refine lv_lstore_n (lv' := [(2, .long x2.1), (0, .ref (h b0)), (1, .int a1)]) hx hb dX8_display_18 rfl hl (by decide) rfl (fun ls hl => ?_)
    refine lv_lload_n hx hb dX8_display_19 rfl (lv_at hl 0 rfl) ?_
    refine lv_iload_n hx hb dX8_display_20 rfl (lv_at hl 2 rfl) ?_
    obtain ⟨x3, hx3, hf⟩ := g_bnd hf
    refine g_rs (As := [.long x2.1, .int a1]) (rest := []) F hK (hG.X hX hAB) hG.1 [] rfl (c_X4_has h x2.1 a1 hx3) (kX8_120 F.2.2.2.2 ⟨Nat.le_of_ble_eq_true rfl, Nat.le_of_ble_eq_true rfl⟩) rfl hl.1 rfl (lv_room (Nat.le_of_ble_eq_true rfl)) ⟨Nat.zero_le _, Nat.zero_le _⟩ dX8_display_21 ?_
    refine lv_if_eq (tgt := 35) hx hb dX8_display_24 (by decide) (fun c4 => ?_) (fun c4 => ?_)
    · have hf := g_it c4 hf
      refine lv_iconst (v := (-1)) hx hb dX8_display_35 (by decide) ?_
      have ho := Option.some.inj hf
      subst hA
      have ho := Sum.inr.inj ho
      rw [← hQ, ← ho]
      exact g_mretI F hr hlk hG dX8_display_36
    · have hf := g_if c4 hf
      refine lv_lload_n hx hb dX8_display_27 rfl (lv_at hl 0 rfl) ?_
      refine lv_iload_n hx hb dX8_display_28 rfl (lv_at hl 2 rfl) ?_
      obtain ⟨x5, hx5, hf⟩ := g_bnd hf
      refine g_rs (As := [.long x2.1, .int a1]) (rest := []) F hK (hG.X hX hAB) hG.1 [] rfl (c_X4_letterAt h x2.1 a1 hx5) (kX8_127 F.2.2.2.2 ⟨Nat.le_of_ble_eq_true rfl, Nat.le_of_ble_eq_true rfl⟩) rfl hl.1 rfl (lv_room (Nat.le_of_ble_eq_true rfl)) ⟨Nat.zero_le _, Nat.zero_le _⟩ dX8_display_29 ?_
      refine lv_goto (tgt := 36) hx hb dX8_display_32 (by decide) ?_
      have ho := Option.some.inj hf
      subst hA
      have ho := Sum.inr.inj ho
      rw [← hQ, ← ho]
      exact g_mretI F hr hlk hG dX8_display_36
  · have hf := g_if c1 hf
    exact absurd (Option.some.inj hf) (fun z => nomatch z)
set_option maxHeartbeats 4000000 in
set_option maxRecDepth 100000 in
theorem c_X8_candidate {l : Launch} {E : gEnv} (h : Nat → Nat) (b0 : Nat) (w0 : T8) (a1 : Int32) {o : Int32 × T0} (hf : f_X8_candidate w0 a1 = some (.inr o)) : gM l yX8_candidate cX8_candidate 2 (some .int) rX8_candidate E [.ref (h b0), .int a1] [C8 E h b0, C2 E h (b0+1) w0.1, C6 E h (b0+3) w0.2.1, C5 E h (b0+9) w0.2.2.1.2.2, C6 E h ((b0+9)+1) w0.2.2.1.1, C7 E h ((b0+9)+7) w0.2.2.1.2.1, C3 E h (b0+18) w0.2.2.2.1, C0 E h (b0+20) w0.2.2.2.2] (some (.int o.1)) [C8 E h b0, C2 E h (b0+1) w0.1, C6 E h (b0+3) w0.2.1, C5 E h (b0+9) w0.2.2.1.2.2, C6 E h ((b0+9)+1) w0.2.2.1.1, C7 E h ((b0+9)+7) w0.2.2.1.2.1, C3 E h (b0+18) w0.2.2.2.1, C0 E h (b0+20) o.2] := by
  refine gM.of (by decide +kernel) (Nat.le_of_ble_eq_true rfl) rfl ?_
  intro p e s m below meth c F hr hlk hK hX hAB ls hl H locs hG
  have F : gF p m c cX8_candidate 2 s ([.ref (h b0), .int a1] : List Value).toArray RX8 := F
  generalize ([.ref (h b0), .int a1] : List Value).toArray = args at F ⊢
  generalize hQ : MQ below _ _ _ _ _ _ = Q
  generalize hA : gAd [C8 E h b0, C2 E h (b0+1) w0.1, C6 E h (b0+3) w0.2.1, C5 E h (b0+9) w0.2.2.1.2.2, C6 E h ((b0+9)+1) w0.2.2.1.1, C7 E h ((b0+9)+7) w0.2.2.1.2.1, C3 E h (b0+18) w0.2.2.2.1, C0 E h (b0+20) w0.2.2.2.2] = A at hAB hG
  have hl : lv_has ls 2 [(0, .ref (h b0)), (1, .int a1)] := hl
  have hx := F.1
  have hb := F.2.1
  unfold f_X8_candidate at hf
  refine lv_aload_n hx hb dX8_candidate_0 rfl (lv_at hl 0 rfl) ?_
  refine g_get F hK hG.1 0 0 4 flX8_40 rfl rfl rfl dX8_candidate_1 ?_
  refine lv_aload_n hx hb dX8_candidate_4 rfl (lv_at hl 0 rfl) ?_
  refine g_get F hK hG.1 0 0 2 flX8_26 rfl rfl rfl dX8_candidate_5 ?_
  obtain ⟨x1, hx1, hf⟩ := g_bnd hf
  refine g_mvv (S' := [C8 E h b0, C2 E h (b0+1) w0.1, C6 E h (b0+3) w0.2.1, C5 E h (b0+9) w0.2.2.1.2.2, C6 E h ((b0+9)+1) w0.2.2.1.1, C7 E h ((b0+9)+7) w0.2.2.1.2.1, C3 E h (b0+18) w0.2.2.2.1, C0 E h (b0+20) x1]) (As := [.ref (h (b0+9))]) (rest := []) F hK hX hAB hG [7, 3, 4, 5] rfl rfl (c_X0_find h (b0+20) w0.2.2.2.2 (b0+9) w0.2.2.1 hx1) rfl (kX8_168 F.2.2.2.2 ⟨Nat.le_of_ble_eq_true rfl, Nat.le_of_ble_eq_true rfl⟩) rfl rfl rfl rfl hl.1 rfl (lv_room (Nat.le_of_ble_eq_true rfl)) ⟨Nat.zero_le _, Nat.zero_le _⟩ dX8_candidate_8 (fun H locs hG => ?_)
  refine lv_iload_n hx hb dX8_candidate_11 rfl (lv_at hl 1 rfl) ?_
  refine lv_if_lt (tgt := 26) hx hb dX8_candidate_12 (by decide) (fun c2 => ?_) (fun c2 => ?_)
  · have hf := g_it c2 hf
    exact absurd (Option.some.inj hf) (fun z => nomatch z)
  · have hf := g_if c2 hf
    refine lv_iload_n hx hb dX8_candidate_15 rfl (lv_at hl 1 rfl) ?_
    refine lv_aload_n hx hb dX8_candidate_16 rfl (lv_at hl 0 rfl) ?_
    refine g_get F hK hG.1 0 0 4 flX8_40 rfl rfl rfl dX8_candidate_17 ?_
    refine g_get F hK hG.1 7 0 1 flX8_171 rfl rfl rfl dX8_candidate_20 ?_
    refine lv_icmp_lt (tgt := 36) hx hb dX8_candidate_23 (by decide) (fun c3 => ?_) (fun c3 => ?_)
    · have hf := g_it c3 hf
      refine lv_aload_n hx hb dX8_candidate_36 rfl (lv_at hl 0 rfl) ?_
      refine g_get F hK hG.1 0 0 4 flX8_40 rfl rfl rfl dX8_candidate_37 ?_
      refine lv_iload_n hx hb dX8_candidate_40 rfl (lv_at hl 1 rfl) ?_
      obtain ⟨x4, hx4, hf⟩ := g_bnd hf
      refine g_rv (As := [.int a1]) (rest := []) F hK (hG.X hX hAB) hG.1 [7] rfl (c_X0_wordAt h (b0+20) x1 a1 hx4) (kX8_218 F.2.2.2.2 ⟨Nat.le_of_ble_eq_true rfl, Nat.le_of_ble_eq_true rfl⟩) rfl rfl rfl rfl hl.1 rfl (lv_room (Nat.le_of_ble_eq_true rfl)) ⟨Nat.zero_le _, Nat.zero_le _⟩ dX8_candidate_41 ?_
      have ho := Option.some.inj hf
      subst hA
      have ho := Sum.inr.inj ho
      rw [← hQ, ← ho]
      exact g_mretI F hr hlk hG dX8_candidate_44
    · have hf := g_if c3 hf
      exact absurd (Option.some.inj hf) (fun z => nomatch z)
set_option maxHeartbeats 4000000 in
set_option maxRecDepth 100000 in
theorem c_X8_written {l : Launch} {E : gEnv} (h : Nat → Nat) (b0 : Nat) (w0 : T8) (a1 : Int32) (a2 : Int32) {o : Int32} (hf : f_X8_written w0 a1 a2 = some (.inr o)) : gR l yX8_written cX8_written 5 (some .int) rX8_written E [.ref (h b0), .int a1, .int a2] [C8 E h b0, C2 E h (b0+1) w0.1, C6 E h (b0+3) w0.2.1, C5 E h (b0+9) w0.2.2.1.2.2, C6 E h ((b0+9)+1) w0.2.2.1.1, C7 E h ((b0+9)+7) w0.2.2.1.2.1, C3 E h (b0+18) w0.2.2.2.1, C0 E h (b0+20) w0.2.2.2.2] (some (.int o)) := by
  refine gR.of (by decide +kernel) (Nat.le_of_ble_eq_true rfl) ?_
  intro p e s m below meth c F hr hlk hK hX hP ls hl
  have F : gF p m c cX8_written 5 s ([.ref (h b0), .int a1, .int a2] : List Value).toArray RX8 := F
  generalize ([.ref (h b0), .int a1, .int a2] : List Value).toArray = args at F ⊢
  generalize hQ : MQ below _ _ _ _ _ _ = Q
  have hl : lv_has ls 5 [(0, .ref (h b0)), (1, .int a1), (2, .int a2)] := hl
  have hx := F.1
  have hb := F.2.1
  unfold f_X8_written at hf
  refine lv_aload_n hx hb dX8_written_0 rfl (lv_at hl 0 rfl) ?_
  refine g_get F hK hP 0 0 2 flX8_26 rfl rfl rfl dX8_written_1 ?_
  refine g_get F hK hP 3 0 1 flX8_182 rfl rfl rfl dX8_written_4 ?_
  refine lv_iload_n hx hb dX8_written_7 rfl (lv_at hl 1 rfl) ?_
  obtain ⟨x1, hx1, hf⟩ := g_bnd hf
  refine g_rv (As := [.int a1]) (rest := []) F hK hX hP [5] rfl (c_X7_has h ((b0+9)+7) w0.2.2.1.2.1 a1 hx1) (kX8_195 F.2.2.2.2 ⟨Nat.le_of_ble_eq_true rfl, Nat.le_of_ble_eq_true rfl⟩) rfl rfl rfl rfl hl.1 rfl (lv_room (Nat.le_of_ble_eq_true rfl)) ⟨Nat.zero_le _, Nat.zero_le _⟩ dX8_written_8 ?_
  refine lv_if_ne (tgt := 24) hx hb dX8_written_11 (by decide) (fun c2 => ?_) (fun c2 => ?_)
  · have hf := g_if c2 hf
    refine lv_aload_n hx hb dX8_written_24 rfl (lv_at hl 0 rfl) ?_
    refine g_get F hK hP 0 0 2 flX8_26 rfl rfl rfl dX8_written_25 ?_
    refine g_get F hK hP 3 0 1 flX8_182 rfl rfl rfl dX8_written_28 ?_
    refine lv_iload_n hx hb dX8_written_31 rfl (lv_at hl 1 rfl) ?_
    obtain ⟨x3, hx3, hf⟩ := g_bnd hf
    refine g_rv (As := [.int a1]) (rest := []) F hK hX hP [5] rfl (c_X7_wordAt h ((b0+9)+7) w0.2.2.1.2.1 a1 hx3) (kX8_220 F.2.2.2.2 ⟨Nat.le_of_ble_eq_true rfl, Nat.le_of_ble_eq_true rfl⟩) rfl rfl rfl rfl hl.1 rfl (lv_room (Nat.le_of_ble_eq_true rfl)) ⟨Nat.zero_le _, Nat.zero_le _⟩ dX8_written_32 ?_
    refine lv_lstore_n (lv' := [(3, .long x3), (0, .ref (h b0)), (1, .int a1), (2, .int a2)]) hx hb dX8_written_35 rfl hl (by decide) rfl (fun ls hl => ?_)
    refine lv_iload_n hx hb dX8_written_36 rfl (lv_at hl 3 rfl) ?_
    refine lv_iconst (v := (-1)) hx hb dX8_written_37 (by decide) ?_
    refine lv_icmp_ne (tgt := 46) hx hb dX8_written_38 (by decide) (fun c4 => ?_) (fun c4 => ?_)
    · have hf := g_if c4 hf
      refine lv_lload_n hx hb dX8_written_46 rfl (lv_at hl 0 rfl) ?_
      refine lv_iload_n hx hb dX8_written_47 rfl (lv_at hl 3 rfl) ?_
      obtain ⟨x5, hx5, hf⟩ := g_bnd hf
      refine g_rs (As := [.long x3, .int a2]) (rest := []) F hK hX hP [] rfl (c_X4_has h x3 a2 hx5) (kX8_120 F.2.2.2.2 ⟨Nat.le_of_ble_eq_true rfl, Nat.le_of_ble_eq_true rfl⟩) rfl hl.1 rfl (lv_room (Nat.le_of_ble_eq_true rfl)) ⟨Nat.zero_le _, Nat.zero_le _⟩ dX8_written_48 ?_
      refine lv_if_ne (tgt := 64) hx hb dX8_written_51 (by decide) (fun c6 => ?_) (fun c6 => ?_)
      · have hf := g_if c6 hf
        refine lv_lload_n hx hb dX8_written_64 rfl (lv_at hl 0 rfl) ?_
        refine lv_iload_n hx hb dX8_written_65 rfl (lv_at hl 3 rfl) ?_
        obtain ⟨x7, hx7, hf⟩ := g_bnd hf
        refine g_rs (As := [.long x3, .int a2]) (rest := []) F hK hX hP [] rfl (c_X4_letterAt h x3 a2 hx7) (kX8_127 F.2.2.2.2 ⟨Nat.le_of_ble_eq_true rfl, Nat.le_of_ble_eq_true rfl⟩) rfl hl.1 rfl (lv_room (Nat.le_of_ble_eq_true rfl)) ⟨Nat.zero_le _, Nat.zero_le _⟩ dX8_written_66 ?_
        have ho := Option.some.inj hf
        have ho := Sum.inr.inj ho
        rw [← hQ, ← ho]
        exact g_retI F hr hlk dX8_written_69
      · have hf := g_it c6 hf
        exact absurd (Option.some.inj hf) (fun z => nomatch z)
    · have hf := g_it c4 hf
      refine lv_lload_n hx hb dX8_written_41 rfl (lv_at hl 0 rfl) ?_
      obtain ⟨x8, hx8, hf⟩ := g_bnd hf
      refine g_rs (As := [.long x3]) (rest := []) F hK hX hP [] rfl (c_X4_lengthOf h x3 hx8) (kX8_221 F.2.2.2.2 ⟨Nat.le_of_ble_eq_true rfl, Nat.le_of_ble_eq_true rfl⟩) rfl hl.1 rfl (lv_room (Nat.le_of_ble_eq_true rfl)) ⟨Nat.zero_le _, Nat.zero_le _⟩ dX8_written_42 ?_
      have ho := Option.some.inj hf
      have ho := Sum.inr.inj ho
      rw [← hQ, ← ho]
      exact g_retI F hr hlk dX8_written_45
  · have hf := g_it c2 hf
    exact absurd (Option.some.inj hf) (fun z => nomatch z)
set_option maxHeartbeats 4000000 in
set_option maxRecDepth 100000 in
theorem c_X8_steps {l : Launch} {E : gEnv} (h : Nat → Nat) (b0 : Nat) (w0 : T8) (a1 : Int32) {o : Int32} (hf : f_X8_steps w0 a1 = some (.inr o)) : gR l yX8_steps cX8_steps 2 (some .int) rX8_steps E [.ref (h b0), .int a1] [C8 E h b0, C2 E h (b0+1) w0.1, C6 E h (b0+3) w0.2.1, C5 E h (b0+9) w0.2.2.1.2.2, C6 E h ((b0+9)+1) w0.2.2.1.1, C7 E h ((b0+9)+7) w0.2.2.1.2.1, C3 E h (b0+18) w0.2.2.2.1, C0 E h (b0+20) w0.2.2.2.2] (some (.int o)) := by
  refine gR.of (by decide +kernel) (Nat.le_of_ble_eq_true rfl) ?_
  intro p e s m below meth c F hr hlk hK hX hP ls hl
  have F : gF p m c cX8_steps 2 s ([.ref (h b0), .int a1] : List Value).toArray RX8 := F
  generalize ([.ref (h b0), .int a1] : List Value).toArray = args at F ⊢
  generalize hQ : MQ below _ _ _ _ _ _ = Q
  have hl : lv_has ls 2 [(0, .ref (h b0)), (1, .int a1)] := hl
  have hx := F.1
  have hb := F.2.1
  unfold f_X8_steps at hf
  refine lv_aload_n hx hb dX8_steps_0 rfl (lv_at hl 0 rfl) ?_
  refine g_get F hK hP 0 0 2 flX8_26 rfl rfl rfl dX8_steps_1 ?_
  refine g_get F hK hP 3 0 0 flX8_79 rfl rfl rfl dX8_steps_4 ?_
  refine lv_iload_n hx hb dX8_steps_7 rfl (lv_at hl 1 rfl) ?_
  obtain ⟨x1, hx1, hf⟩ := g_bnd hf
  refine g_rv (As := [.int a1]) (rest := []) F hK hX hP [4] rfl (c_X6_has h ((b0+9)+1) w0.2.2.1.1 a1 hx1) (kX8_101 F.2.2.2.2 ⟨Nat.le_of_ble_eq_true rfl, Nat.le_of_ble_eq_true rfl⟩) rfl rfl rfl rfl hl.1 rfl (lv_room (Nat.le_of_ble_eq_true rfl)) ⟨Nat.zero_le _, Nat.zero_le _⟩ dX8_steps_8 ?_
  refine lv_if_ne (tgt := 24) hx hb dX8_steps_11 (by decide) (fun c2 => ?_) (fun c2 => ?_)
  · have hf := g_if c2 hf
    refine lv_aload_n hx hb dX8_steps_24 rfl (lv_at hl 0 rfl) ?_
    refine g_get F hK hP 0 0 2 flX8_26 rfl rfl rfl dX8_steps_25 ?_
    refine g_get F hK hP 3 0 0 flX8_79 rfl rfl rfl dX8_steps_28 ?_
    refine lv_iload_n hx hb dX8_steps_31 rfl (lv_at hl 1 rfl) ?_
    obtain ⟨x3, hx3, hf⟩ := g_bnd hf
    refine g_rv (As := [.int a1]) (rest := []) F hK hX hP [4] rfl (c_X6_stepsTo h ((b0+9)+1) w0.2.2.1.1 a1 hx3) (kX8_225 F.2.2.2.2 ⟨Nat.le_of_ble_eq_true rfl, Nat.le_of_ble_eq_true rfl⟩) rfl rfl rfl rfl hl.1 rfl (lv_room (Nat.le_of_ble_eq_true rfl)) ⟨Nat.zero_le _, Nat.zero_le _⟩ dX8_steps_32 ?_
    have ho := Option.some.inj hf
    have ho := Sum.inr.inj ho
    rw [← hQ, ← ho]
    exact g_retI F hr hlk dX8_steps_35
  · have hf := g_it c2 hf
    exact absurd (Option.some.inj hf) (fun z => nomatch z)
set_option maxHeartbeats 4000000 in
set_option maxRecDepth 100000 in
theorem c_X8_presses {l : Launch} {E : gEnv} (h : Nat → Nat) (b0 : Nat) (w0 : T8) (a1 : Int32) (a2 : Int32) {o : Int32} (hf : f_X8_presses w0 a1 a2 = some (.inr o)) : gR l yX8_presses cX8_presses 3 (some .int) rX8_presses E [.ref (h b0), .int a1, .int a2] [C8 E h b0, C2 E h (b0+1) w0.1, C6 E h (b0+3) w0.2.1, C5 E h (b0+9) w0.2.2.1.2.2, C6 E h ((b0+9)+1) w0.2.2.1.1, C7 E h ((b0+9)+7) w0.2.2.1.2.1, C3 E h (b0+18) w0.2.2.2.1, C0 E h (b0+20) w0.2.2.2.2] (some (.int o)) := by
  refine gR.of (by decide +kernel) (Nat.le_of_ble_eq_true rfl) ?_
  intro p e s m below meth c F hr hlk hK hX hP ls hl
  have F : gF p m c cX8_presses 3 s ([.ref (h b0), .int a1, .int a2] : List Value).toArray RX8 := F
  generalize ([.ref (h b0), .int a1, .int a2] : List Value).toArray = args at F ⊢
  generalize hQ : MQ below _ _ _ _ _ _ = Q
  have hl : lv_has ls 3 [(0, .ref (h b0)), (1, .int a1), (2, .int a2)] := hl
  have hx := F.1
  have hb := F.2.1
  unfold f_X8_presses at hf
  refine lv_aload_n hx hb dX8_presses_0 rfl (lv_at hl 0 rfl) ?_
  refine g_get F hK hP 0 0 2 flX8_26 rfl rfl rfl dX8_presses_1 ?_
  refine g_get F hK hP 3 0 0 flX8_79 rfl rfl rfl dX8_presses_4 ?_
  refine lv_iload_n hx hb dX8_presses_7 rfl (lv_at hl 1 rfl) ?_
  obtain ⟨x1, hx1, hf⟩ := g_bnd hf
  refine g_rv (As := [.int a1]) (rest := []) F hK hX hP [4] rfl (c_X6_has h ((b0+9)+1) w0.2.2.1.1 a1 hx1) (kX8_101 F.2.2.2.2 ⟨Nat.le_of_ble_eq_true rfl, Nat.le_of_ble_eq_true rfl⟩) rfl rfl rfl rfl hl.1 rfl (lv_room (Nat.le_of_ble_eq_true rfl)) ⟨Nat.zero_le _, Nat.zero_le _⟩ dX8_presses_8 ?_
  refine lv_if_ne (tgt := 24) hx hb dX8_presses_11 (by decide) (fun c2 => ?_) (fun c2 => ?_)
  · have hf := g_if c2 hf
    refine lv_iload_n hx hb dX8_presses_24 rfl (lv_at hl 2 rfl) ?_
    refine lv_if_eq (tgt := 42) hx hb dX8_presses_25 (by decide) (fun c3 => ?_) (fun c3 => ?_)
    · have hf := g_it c3 hf
      refine lv_aload_n hx hb dX8_presses_42 rfl (lv_at hl 0 rfl) ?_
      refine g_get F hK hP 0 0 2 flX8_26 rfl rfl rfl dX8_presses_43 ?_
      refine g_get F hK hP 3 0 0 flX8_79 rfl rfl rfl dX8_presses_46 ?_
      refine lv_iload_n hx hb dX8_presses_49 rfl (lv_at hl 1 rfl) ?_
      obtain ⟨x4, hx4, hf⟩ := g_bnd hf
      refine g_rv (As := [.int a1]) (rest := []) F hK hX hP [4] rfl (c_X6_guessesFor h ((b0+9)+1) w0.2.2.1.1 a1 hx4) (kX8_231 F.2.2.2.2 ⟨Nat.le_of_ble_eq_true rfl, Nat.le_of_ble_eq_true rfl⟩) rfl rfl rfl rfl hl.1 rfl (lv_room (Nat.le_of_ble_eq_true rfl)) ⟨Nat.zero_le _, Nat.zero_le _⟩ dX8_presses_50 ?_
      have ho := Option.some.inj hf
      have ho := Sum.inr.inj ho
      rw [← hQ, ← ho]
      exact g_retI F hr hlk dX8_presses_53
    · have hf := g_if c3 hf
      refine lv_aload_n hx hb dX8_presses_28 rfl (lv_at hl 0 rfl) ?_
      refine g_get F hK hP 0 0 2 flX8_26 rfl rfl rfl dX8_presses_29 ?_
      refine g_get F hK hP 3 0 0 flX8_79 rfl rfl rfl dX8_presses_32 ?_
      refine lv_iload_n hx hb dX8_presses_35 rfl (lv_at hl 1 rfl) ?_
      obtain ⟨x5, hx5, hf⟩ := g_bnd hf
      refine g_rv (As := [.int a1]) (rest := []) F hK hX hP [4] rfl (c_X6_tapsFor h ((b0+9)+1) w0.2.2.1.1 a1 hx5) (kX8_228 F.2.2.2.2 ⟨Nat.le_of_ble_eq_true rfl, Nat.le_of_ble_eq_true rfl⟩) rfl rfl rfl rfl hl.1 rfl (lv_room (Nat.le_of_ble_eq_true rfl)) ⟨Nat.zero_le _, Nat.zero_le _⟩ dX8_presses_36 ?_
      refine lv_goto (tgt := 53) hx hb dX8_presses_39 (by decide) ?_
      have ho := Option.some.inj hf
      have ho := Sum.inr.inj ho
      rw [← hQ, ← ho]
      exact g_retI F hr hlk dX8_presses_53
  · have hf := g_it c2 hf
    exact absurd (Option.some.inj hf) (fun z => nomatch z)
set_option maxHeartbeats 4000000 in
set_option maxRecDepth 100000 in
theorem c_X8_clashing {l : Launch} {E : gEnv} (h : Nat → Nat) (b0 : Nat) (w0 : T8) {o : Int32} (hf : f_X8_clashing w0 = some o) : gR l yX8_clashing cX8_clashing 1 (some .int) rX8_clashing E [.ref (h b0)] [C8 E h b0, C2 E h (b0+1) w0.1, C6 E h (b0+3) w0.2.1, C5 E h (b0+9) w0.2.2.1.2.2, C6 E h ((b0+9)+1) w0.2.2.1.1, C7 E h ((b0+9)+7) w0.2.2.1.2.1, C3 E h (b0+18) w0.2.2.2.1, C0 E h (b0+20) w0.2.2.2.2] (some (.int o)) := by
  refine gR.of (by decide +kernel) (Nat.le_of_ble_eq_true rfl) ?_
  intro p e s m below meth c F hr hlk hK hX hP ls hl
  have F : gF p m c cX8_clashing 1 s ([.ref (h b0)] : List Value).toArray RX8 := F
  generalize ([.ref (h b0)] : List Value).toArray = args at F ⊢
  generalize hQ : MQ below _ _ _ _ _ _ = Q
  have hl : lv_has ls 1 [(0, .ref (h b0))] := hl
  have hx := F.1
  have hb := F.2.1
  unfold f_X8_clashing at hf
  refine lv_aload_n hx hb dX8_clashing_0 rfl (lv_at hl 0 rfl) ?_
  refine g_get F hK hP 0 0 2 flX8_26 rfl rfl rfl dX8_clashing_1 ?_
  refine g_get F hK hP 3 0 0 flX8_79 rfl rfl rfl dX8_clashing_4 ?_
  obtain ⟨x1, hx1, hf⟩ := g_bnd hf
  refine g_rv (As := []) (rest := []) F hK hX hP [4] rfl (c_X6_clashes h ((b0+9)+1) w0.2.2.1.1 hx1) (kX8_234 F.2.2.2.2 ⟨Nat.le_of_ble_eq_true rfl, Nat.le_of_ble_eq_true rfl⟩) rfl rfl rfl rfl hl.1 rfl (lv_room (Nat.le_of_ble_eq_true rfl)) ⟨Nat.zero_le _, Nat.zero_le _⟩ dX8_clashing_7 ?_
  have ho := Option.some.inj hf
  rw [← hQ, ← ho]
  exact g_retI F hr hlk dX8_clashing_10
set_option maxHeartbeats 4000000 in
set_option maxRecDepth 100000 in
theorem c_X8_saving {l : Launch} {E : gEnv} (h : Nat → Nat) (b0 : Nat) (w0 : T8) {o : UInt64} (hf : f_X8_saving w0 = some o) : gR l yX8_saving cX8_saving 1 (some .double) rX8_saving E [.ref (h b0)] [C8 E h b0, C2 E h (b0+1) w0.1, C6 E h (b0+3) w0.2.1, C5 E h (b0+9) w0.2.2.1.2.2, C6 E h ((b0+9)+1) w0.2.2.1.1, C7 E h ((b0+9)+7) w0.2.2.1.2.1, C3 E h (b0+18) w0.2.2.2.1, C0 E h (b0+20) w0.2.2.2.2] (some (.double o)) := by
  refine gR.of (by decide +kernel) (Nat.le_of_ble_eq_true rfl) ?_
  intro p e s m below meth c F hr hlk hK hX hP ls hl
  have F : gF p m c cX8_saving 1 s ([.ref (h b0)] : List Value).toArray RX8 := F
  generalize ([.ref (h b0)] : List Value).toArray = args at F ⊢
  generalize hQ : MQ below _ _ _ _ _ _ = Q
  have hl : lv_has ls 1 [(0, .ref (h b0))] := hl
  have hx := F.1
  have hb := F.2.1
  unfold f_X8_saving at hf
  refine lv_aload_n hx hb dX8_saving_0 rfl (lv_at hl 0 rfl) ?_
  refine g_get F hK hP 0 0 2 flX8_26 rfl rfl rfl dX8_saving_1 ?_
  refine g_get F hK hP 3 0 0 flX8_79 rfl rfl rfl dX8_saving_4 ?_
  obtain ⟨x1, hx1, hf⟩ := g_bnd hf
  refine g_rv (As := []) (rest := []) F hK hX hP [4] rfl (c_X6_savingOfAll h ((b0+9)+1) w0.2.2.1.1 hx1) (kX8_237 F.2.2.2.2 ⟨Nat.le_of_ble_eq_true rfl, Nat.le_of_ble_eq_true rfl⟩) rfl rfl rfl rfl hl.1 rfl (lv_room (Nat.le_of_ble_eq_true rfl)) ⟨Nat.zero_le _, Nat.zero_le _⟩ dX8_saving_7 ?_
  have ho := Option.some.inj hf
  rw [← hQ, ← ho]
  exact g_retD F hr hlk dX8_saving_10
set_option maxHeartbeats 4000000 in
set_option maxRecDepth 100000 in
theorem c_X8_shortest {l : Launch} {E : gEnv} (h : Nat → Nat) (b0 : Nat) (w0 : T8) (a1 : Int32) {o : Int32} (hf : f_X8_shortest w0 a1 = some (.inr o)) : gR l yX8_shortest cX8_shortest 6 (some .int) rX8_shortest E [.ref (h b0), .int a1] [C8 E h b0, C2 E h (b0+1) w0.1, C6 E h (b0+3) w0.2.1, C5 E h (b0+9) w0.2.2.1.2.2, C6 E h ((b0+9)+1) w0.2.2.1.1, C7 E h ((b0+9)+7) w0.2.2.1.2.1, C3 E h (b0+18) w0.2.2.2.1, C0 E h (b0+20) w0.2.2.2.2] (some (.int o)) := by
  refine gR.of (by decide +kernel) (Nat.le_of_ble_eq_true rfl) ?_
  intro p e s m below meth c F hr hlk hK hX hP ls hl
  have F : gF p m c cX8_shortest 6 s ([.ref (h b0), .int a1] : List Value).toArray RX8 := F
  generalize ([.ref (h b0), .int a1] : List Value).toArray = args at F ⊢
  generalize hQ : MQ below _ _ _ _ _ _ = Q
  have hl : lv_has ls 6 [(0, .ref (h b0)), (1, .int a1)] := hl
  have hx := F.1
  have hb := F.2.1
  unfold f_X8_shortest at hf
  refine lv_aload_n hx hb dX8_shortest_0 rfl (lv_at hl 0 rfl) ?_
  refine g_get F hK hP 0 0 2 flX8_26 rfl rfl rfl dX8_shortest_1 ?_
  refine g_get F hK hP 3 0 0 flX8_79 rfl rfl rfl dX8_shortest_4 ?_
  refine lv_iload_n hx hb dX8_shortest_7 rfl (lv_at hl 1 rfl) ?_
  obtain ⟨x1, hx1, hf⟩ := g_bnd hf
  refine g_rv (As := [.int a1]) (rest := []) F hK hX hP [4] rfl (c_X6_has h ((b0+9)+1) w0.2.2.1.1 a1 hx1) (kX8_101 F.2.2.2.2 ⟨Nat.le_of_ble_eq_true rfl, Nat.le_of_ble_eq_true rfl⟩) rfl rfl rfl rfl hl.1 rfl (lv_room (Nat.le_of_ble_eq_true rfl)) ⟨Nat.zero_le _, Nat.zero_le _⟩ dX8_shortest_8 ?_
  refine lv_if_ne (tgt := 24) hx hb dX8_shortest_11 (by decide) (fun c2 => ?_) (fun c2 => ?_)
  · have hf := g_if c2 hf
    refine lv_aload_n hx hb dX8_shortest_24 rfl (lv_at hl 0 rfl) ?_
    refine g_get F hK hP 0 0 2 flX8_26 rfl rfl rfl dX8_shortest_25 ?_
    refine g_get F hK hP 3 0 0 flX8_79 rfl rfl rfl dX8_shortest_28 ?_
    refine lv_iload_n hx hb dX8_shortest_31 rfl (lv_at hl 1 rfl) ?_
    obtain ⟨x3, hx3, hf⟩ := g_bnd hf
    refine g_rv (As := [.int a1]) (rest := []) F hK hX hP [4] rfl (c_X6_keysAt h ((b0+9)+1) w0.2.2.1.1 a1 hx3) (kX8_241 F.2.2.2.2 ⟨Nat.le_of_ble_eq_true rfl, Nat.le_of_ble_eq_true rfl⟩) rfl rfl rfl rfl hl.1 rfl (lv_room (Nat.le_of_ble_eq_true rfl)) ⟨Nat.zero_le _, Nat.zero_le _⟩ dX8_shortest_32 ?_
    refine lv_lstore_n (lv' := [(2, .long x3), (0, .ref (h b0)), (1, .int a1)]) hx hb dX8_shortest_35 rfl hl (by decide) rfl (fun ls hl => ?_)
    refine lv_lload_n hx hb dX8_shortest_36 rfl (lv_at hl 0 rfl) ?_
    obtain ⟨x4, hx4, hf⟩ := g_bnd hf
    refine g_rs (As := [.long x3]) (rest := []) F hK hX hP [] rfl (c_X4_lengthOf h x3 hx4) (kX8_221 F.2.2.2.2 ⟨Nat.le_of_ble_eq_true rfl, Nat.le_of_ble_eq_true rfl⟩) rfl hl.1 rfl (lv_room (Nat.le_of_ble_eq_true rfl)) ⟨Nat.zero_le _, Nat.zero_le _⟩ dX8_shortest_37 ?_
    refine lv_istore (lv' := [(4, .int x4), (2, .long x3), (0, .ref (h b0)), (1, .int a1)]) hx hb dX8_shortest_40 hl (by decide) rfl (fun ls hl => ?_)
    refine lv_iconst (v := 1) hx hb dX8_shortest_42 (by decide) ?_
    refine lv_istore (lv' := [(5, .int 1), (4, .int x4), (2, .long x3), (0, .ref (h b0)), (1, .int a1)]) hx hb dX8_shortest_43 hl (by decide) rfl (fun ls hl => ?_)
    refine lp_rule (fun (v5 : Int32) => ∀ ls : Array Slot, lv_has ls 6 [(0, .ref (h b0)), (1, .int a1), (2, .long x3), (4, .int x4), (5, .int v5)] → W p l e rX8_shortest s m args below meth c s.heap [] 0 0 Q (F0 m 45 ls [])) ?_ _ _ hf ls (lv_sub hl [3, 4, 2, 1, 0] rfl)
    intro v5 y hf hbackv5 hexitv5 ls hl
    refine lv_iload hx hb dX8_shortest_45 (lv_at hl 4 rfl) ?_
    refine lv_iload hx hb dX8_shortest_47 (lv_at hl 3 rfl) ?_
    refine lv_icmp_gt (tgt := 81) hx hb dX8_shortest_49 (by decide) (fun c7 => ?_) (fun c7 => ?_)
    · have hf := g_it c7 hf
      refine lv_iconst (v := (-1)) hx hb dX8_shortest_81 (by decide) ?_
      have ho := hexitv5 _ (Option.some.inj hf).symm
      have ho := Sum.inr.inj ho
      rw [← hQ, ← ho]
      exact g_retI F hr hlk dX8_shortest_82
    · have hf := g_if c7 hf
      refine lv_aload_n hx hb dX8_shortest_52 rfl (lv_at hl 0 rfl) ?_
      refine g_get F hK hP 0 0 2 flX8_26 rfl rfl rfl dX8_shortest_53 ?_
      refine g_get F hK hP 3 0 0 flX8_79 rfl rfl rfl dX8_shortest_56 ?_
      refine lv_lload_n hx hb dX8_shortest_59 rfl (lv_at hl 2 rfl) ?_
      refine lv_iload hx hb dX8_shortest_60 (lv_at hl 4 rfl) ?_
      obtain ⟨x8, hx8, hf⟩ := g_bnd hf
      refine g_rs (As := [.long x3, .int v5]) (rest := [.ref (h ((b0+9)+1))]) F hK hX hP [] rfl (c_X4_firstOf h x3 v5 hx8) (kX8_157 F.2.2.2.2 ⟨Nat.le_of_ble_eq_true rfl, Nat.le_of_ble_eq_true rfl⟩) rfl hl.1 rfl (lv_room (Nat.le_of_ble_eq_true rfl)) ⟨Nat.zero_le _, Nat.zero_le _⟩ dX8_shortest_62 ?_
      obtain ⟨x9, hx9, hf⟩ := g_bnd hf
      refine g_rs (As := [.ref (h ((b0+9)+1)), .long x8]) (rest := []) F hK hX hP [4] rfl (c_X0_firstWith h ((b0+9)+1) w0.2.2.1.1 x8 hx9) (kX8_244 F.2.2.2.2 ⟨Nat.le_of_ble_eq_true rfl, Nat.le_of_ble_eq_true rfl⟩) rfl hl.1 rfl (lv_room (Nat.le_of_ble_eq_true rfl)) ⟨Nat.zero_le _, Nat.zero_le _⟩ dX8_shortest_65 ?_
      refine lv_iload_n hx hb dX8_shortest_68 rfl (lv_at hl 1 rfl) ?_
      refine lv_icmp_ne (tgt := 75) hx hb dX8_shortest_69 (by decide) (fun c10 => ?_) (fun c10 => ?_)
      · have hf := g_if c10 hf
        refine lv_iinc (v := (v5 + 1)) (lv' := [(5, .int (v5 + 1)), (0, .ref (h b0)), (1, .int a1), (2, .long x3), (4, .int x4)]) hx hb dX8_shortest_75 hl (k := 4) rfl rfl (by decide) rfl (fun ls hl => ?_)
        refine lv_goto (tgt := 45) hx hb dX8_shortest_78 (by decide) ?_
        exact hbackv5 _ (Option.some.inj hf).symm ls (lv_sub hl [1, 2, 3, 4, 0] rfl)
      · have hf := g_it c10 hf
        refine lv_iload hx hb dX8_shortest_72 (lv_at hl 4 rfl) ?_
        have ho := hexitv5 _ (Option.some.inj hf).symm
        have ho := Sum.inr.inj ho
        rw [← hQ, ← ho]
        exact g_retI F hr hlk dX8_shortest_74
  · have hf := g_it c2 hf
    exact absurd (Option.some.inj hf) (fun z => nomatch z)
set_option maxHeartbeats 4000000 in
set_option maxRecDepth 100000 in
theorem c_X8_undo {l : Launch} {E : gEnv} (h : Nat → Nat) (b0 : Nat) (w0 : T8) {o : Int32 × T5s × T6 × T7 × T3} (hf : f_X8_undo w0 = some (.inr o)) : gM l yX8_undo cX8_undo 1 (some .int) rX8_undo E [.ref (h b0)] [C8 E h b0, C2 E h (b0+1) w0.1, C6 E h (b0+3) w0.2.1, C5 E h (b0+9) w0.2.2.1.2.2, C6 E h ((b0+9)+1) w0.2.2.1.1, C7 E h ((b0+9)+7) w0.2.2.1.2.1, C3 E h (b0+18) w0.2.2.2.1, C0 E h (b0+20) w0.2.2.2.2] (some (.int o.1)) [C8 E h b0, C2 E h (b0+1) w0.1, C6 E h (b0+3) w0.2.1, C5 E h (b0+9) o.2.1, C6 E h ((b0+9)+1) o.2.2.1, C7 E h ((b0+9)+7) o.2.2.2.1, C3 E h (b0+18) o.2.2.2.2, C0 E h (b0+20) w0.2.2.2.2] := by
  refine gM.of (by decide +kernel) (Nat.le_of_ble_eq_true rfl) rfl ?_
  intro p e s m below meth c F hr hlk hK hX hAB ls hl H locs hG
  have F : gF p m c cX8_undo 1 s ([.ref (h b0)] : List Value).toArray RX8 := F
  generalize ([.ref (h b0)] : List Value).toArray = args at F ⊢
  generalize hQ : MQ below _ _ _ _ _ _ = Q
  generalize hA : gAd [C8 E h b0, C2 E h (b0+1) w0.1, C6 E h (b0+3) w0.2.1, C5 E h (b0+9) w0.2.2.1.2.2, C6 E h ((b0+9)+1) w0.2.2.1.1, C7 E h ((b0+9)+7) w0.2.2.1.2.1, C3 E h (b0+18) w0.2.2.2.1, C0 E h (b0+20) w0.2.2.2.2] = A at hAB hG
  have hl : lv_has ls 1 [(0, .ref (h b0))] := hl
  have hx := F.1
  have hb := F.2.1
  unfold f_X8_undo at hf
  refine lv_aload_n hx hb dX8_undo_0 rfl (lv_at hl 0 rfl) ?_
  refine g_get F hK hG.1 0 0 3 flX8_33 rfl rfl rfl dX8_undo_1 ?_
  refine g_get F hK hG.1 6 0 1 flX8_248 rfl rfl rfl dX8_undo_4 ?_
  refine lv_if_ne (tgt := 20) hx hb dX8_undo_7 (by decide) (fun c1 => ?_) (fun c1 => ?_)
  · have hf := g_if c1 hf
    refine lv_aload_n hx hb dX8_undo_20 rfl (lv_at hl 0 rfl) ?_
    refine g_get F hK hG.1 0 0 3 flX8_33 rfl rfl rfl dX8_undo_21 ?_
    refine lv_aload_n hx hb dX8_undo_24 rfl (lv_at hl 0 rfl) ?_
    refine g_get F hK hG.1 0 0 2 flX8_26 rfl rfl rfl dX8_undo_25 ?_
    obtain ⟨x2, hx2, hf⟩ := g_bnd hf
    refine g_mvv (S' := [C8 E h b0, C2 E h (b0+1) w0.1, C6 E h (b0+3) w0.2.1, C5 E h (b0+9) x2.2.1, C6 E h ((b0+9)+1) x2.2.2.1, C7 E h ((b0+9)+7) x2.2.2.2, C3 E h (b0+18) x2.1, C0 E h (b0+20) w0.2.2.2.2]) (As := [.ref (h (b0+9))]) (rest := []) F hK hX hAB hG [6, 3, 4, 5] rfl rfl (c_X3_popInto h (b0+18) w0.2.2.2.1 (b0+9) w0.2.2.1 hx2) rfl (kX8_251 F.2.2.2.2 ⟨Nat.le_of_ble_eq_true rfl, Nat.le_of_ble_eq_true rfl⟩) rfl rfl rfl rfl hl.1 rfl (lv_room (Nat.le_of_ble_eq_true rfl)) ⟨Nat.zero_le _, Nat.zero_le _⟩ dX8_undo_28 (fun H locs hG => ?_)
    refine lv_aload_n hx hb dX8_undo_31 rfl (lv_at hl 0 rfl) ?_
    refine g_get F hK hG.1 0 0 3 flX8_33 rfl rfl rfl dX8_undo_32 ?_
    refine g_get F hK hG.1 6 0 1 flX8_248 rfl rfl rfl dX8_undo_35 ?_
    have ho := Option.some.inj hf
    subst hA
    have ho := Sum.inr.inj ho
    rw [← hQ, ← ho]
    exact g_mretI F hr hlk hG dX8_undo_38
  · have hf := g_it c1 hf
    exact absurd (Option.some.inj hf) (fun z => nomatch z)
set_option maxHeartbeats 4000000 in
set_option maxRecDepth 100000 in
theorem c_X8_mixed {l : Launch} {E : gEnv} (h : Nat → Nat) (a0 : Int64) (a1 : Int32) {o : Int64} (hf : f_X8_mixed a0 a1 = some o) : gR l yX8_mixed cX8_mixed 3 (some .long) rX8_mixed E [.long a0, .int a1] [] (some (.long o)) := by
  refine gR.of (by decide +kernel) (Nat.le_of_ble_eq_true rfl) ?_
  intro p e s m below meth c F hr hlk hK hX hP ls hl
  have F : gF p m c cX8_mixed 3 s ([.long a0, .int a1] : List Value).toArray RX8 := F
  generalize ([.long a0, .int a1] : List Value).toArray = args at F ⊢
  generalize hQ : MQ below _ _ _ _ _ _ = Q
  have hl : lv_has ls 3 [(0, .long a0), (2, .int a1)] := hl
  have hx := F.1
  have hb := F.2.1
  unfold f_X8_mixed at hf
  refine lv_ldc2 (v := 31) hx hb F.2.2.2.1 (F.2.2.2.2 _ gw_411) dX8_mixed_0 ?_
  refine lv_lload_n hx hb dX8_mixed_3 rfl (lv_at hl 0 rfl) ?_
  refine lv_lmul hx hb dX8_mixed_4 ?_
  refine lv_iload_n hx hb dX8_mixed_5 rfl (lv_at hl 1 rfl) ?_
  refine lv_i2l hx hb dX8_mixed_6 rfl ?_
  refine lv_ladd hx hb dX8_mixed_7 ?_
  have ho := Option.some.inj hf
  rw [← hQ, ← ho]
  exact g_retL F hr hlk dX8_mixed_8
set_option maxHeartbeats 4000000 in
set_option maxRecDepth 100000 in
theorem c_X8_mixedLetters {l : Launch} {E : gEnv} (h : Nat → Nat) (a0 : Int64) (a1 : Int64) {o : Int64} (hf : f_X8_mixedLetters a0 a1 = some o) : gR l yX8_mixedLetters cX8_mixedLetters 8 (some .long) rX8_mixedLetters E [.long a0, .long a1] [] (some (.long o)) := by
  refine gR.of (by decide +kernel) (Nat.le_of_ble_eq_true rfl) ?_
  intro p e s m below meth c F hr hlk hK hX hP ls hl
  have F : gF p m c cX8_mixedLetters 8 s ([.long a0, .long a1] : List Value).toArray RX8 := F
  generalize ([.long a0, .long a1] : List Value).toArray = args at F ⊢
  generalize hQ : MQ below _ _ _ _ _ _ = Q
  have hl : lv_has ls 8 [(0, .long a0), (2, .long a1)] := hl
  have hx := F.1
  have hb := F.2.1
  unfold f_X8_mixedLetters at hf
  refine lv_lload_n hx hb dX8_mixedLetters_0 rfl (lv_at hl 0 rfl) ?_
  refine lv_lstore (lv' := [(4, .long a0), (0, .long a0), (2, .long a1)]) hx hb dX8_mixedLetters_1 hl (by decide) rfl (fun ls hl => ?_)
  refine lv_lload_n hx hb dX8_mixedLetters_3 rfl (lv_at hl 2 rfl) ?_
  obtain ⟨x1, hx1, hf⟩ := g_bnd hf
  refine g_rs (As := [.long a1]) (rest := []) F hK hX hP [] rfl (c_X4_lengthOf h a1 hx1) (kX8_221 F.2.2.2.2 ⟨Nat.le_of_ble_eq_true rfl, Nat.le_of_ble_eq_true rfl⟩) rfl hl.1 rfl (lv_room (Nat.le_of_ble_eq_true rfl)) ⟨Nat.zero_le _, Nat.zero_le _⟩ dX8_mixedLetters_4 ?_
  refine lv_istore (lv' := [(6, .int x1), (4, .long a0), (0, .long a0), (2, .long a1)]) hx hb dX8_mixedLetters_7 hl (by decide) rfl (fun ls hl => ?_)
  refine lv_iconst (v := 0) hx hb dX8_mixedLetters_9 (by decide) ?_
  refine lv_istore (lv' := [(7, .int 0), (6, .int x1), (4, .long a0), (0, .long a0), (2, .long a1)]) hx hb dX8_mixedLetters_10 hl (by decide) rfl (fun ls hl => ?_)
  refine lp_rule (fun (v2 : Int64 × Int32) => ∀ ls : Array Slot, lv_has ls 8 [(2, .long a1), (4, .long v2.1), (6, .int x1), (7, .int v2.2)] → W p l e rX8_mixedLetters s m args below meth c s.heap [] 0 0 Q (F0 m 12 ls [])) ?_ _ _ hf ls (lv_sub hl [4, 2, 1, 0] rfl)
  intro v2 y hf hbackv2 hexitv2 ls hl
  refine lv_iload hx hb dX8_mixedLetters_12 (lv_at hl 3 rfl) ?_
  refine lv_iload hx hb dX8_mixedLetters_14 (lv_at hl 2 rfl) ?_
  refine lv_icmp_ge (tgt := 38) hx hb dX8_mixedLetters_16 (by decide) (fun c4 => ?_) (fun c4 => ?_)
  · have hf := g_it c4 hf
    refine lv_lload hx hb dX8_mixedLetters_38 (lv_at hl 1 rfl) ?_
    have ho := hexitv2 _ (Option.some.inj hf).symm
    rw [← hQ, ← ho]
    exact g_retL F hr hlk dX8_mixedLetters_40
  · have hf := g_if c4 hf
    refine lv_lload hx hb dX8_mixedLetters_19 (lv_at hl 1 rfl) ?_
    refine lv_lload_n hx hb dX8_mixedLetters_21 rfl (lv_at hl 0 rfl) ?_
    refine lv_iload hx hb dX8_mixedLetters_22 (lv_at hl 3 rfl) ?_
    obtain ⟨x5, hx5, hf⟩ := g_bnd hf
    refine g_rs (As := [.long a1, .int v2.2]) (rest := [.long v2.1]) F hK hX hP [] rfl (c_X4_letterAt h a1 v2.2 hx5) (kX8_127 F.2.2.2.2 ⟨Nat.le_of_ble_eq_true rfl, Nat.le_of_ble_eq_true rfl⟩) rfl hl.1 rfl (lv_room (Nat.le_of_ble_eq_true rfl)) ⟨Nat.zero_le _, Nat.zero_le _⟩ dX8_mixedLetters_24 ?_
    obtain ⟨x6, hx6, hf⟩ := g_bnd hf
    refine g_rs (As := [.long v2.1, .int x5]) (rest := []) F hK hX hP [] rfl (c_X8_mixed h v2.1 x5 hx6) (kX8_256 F.2.2.2.2 ⟨Nat.le_of_ble_eq_true rfl, Nat.le_of_ble_eq_true rfl⟩) rfl hl.1 rfl (lv_room (Nat.le_of_ble_eq_true rfl)) ⟨Nat.zero_le _, Nat.zero_le _⟩ dX8_mixedLetters_27 ?_
    refine lv_lstore (lv' := [(4, .long x6), (2, .long a1), (6, .int x1), (7, .int v2.2)]) hx hb dX8_mixedLetters_30 hl (by decide) rfl (fun ls hl => ?_)
    refine lv_iinc (v := (v2.2 + 1)) (lv' := [(7, .int (v2.2 + 1)), (4, .long x6), (2, .long a1), (6, .int x1)]) hx hb dX8_mixedLetters_32 hl (k := 3) rfl rfl (by decide) rfl (fun ls hl => ?_)
    refine lv_goto (tgt := 12) hx hb dX8_mixedLetters_35 (by decide) ?_
    exact hbackv2 _ (Option.some.inj hf).symm ls (lv_sub hl [2, 1, 3, 0] rfl)
set_option maxHeartbeats 4000000 in
set_option maxRecDepth 100000 in
theorem c_X8_mixedWord {l : Launch} {E : gEnv} (h : Nat → Nat) (b0 : Nat) (w0 : T8) (a1 : Int64) (a2 : Int32) {o : Int64} (hf : f_X8_mixedWord w0 a1 a2 = some o) : gR l yX8_mixedWord cX8_mixedWord 7 (some .long) rX8_mixedWord E [.ref (h b0), .long a1, .int a2] [C8 E h b0, C2 E h (b0+1) w0.1, C6 E h (b0+3) w0.2.1, C5 E h (b0+9) w0.2.2.1.2.2, C6 E h ((b0+9)+1) w0.2.2.1.1, C7 E h ((b0+9)+7) w0.2.2.1.2.1, C3 E h (b0+18) w0.2.2.2.1, C0 E h (b0+20) w0.2.2.2.2] (some (.long o)) := by
  refine gR.of (by decide +kernel) (Nat.le_of_ble_eq_true rfl) ?_
  intro p e s m below meth c F hr hlk hK hX hP ls hl
  have F : gF p m c cX8_mixedWord 7 s ([.ref (h b0), .long a1, .int a2] : List Value).toArray RX8 := F
  generalize ([.ref (h b0), .long a1, .int a2] : List Value).toArray = args at F ⊢
  generalize hQ : MQ below _ _ _ _ _ _ = Q
  have hl : lv_has ls 7 [(0, .ref (h b0)), (1, .long a1), (3, .int a2)] := hl
  have hx := F.1
  have hb := F.2.1
  unfold f_X8_mixedWord at hf
  refine lv_lload_n hx hb dX8_mixedWord_0 rfl (lv_at hl 1 rfl) ?_
  refine lv_lstore (lv' := [(4, .long a1), (0, .ref (h b0)), (1, .long a1), (3, .int a2)]) hx hb dX8_mixedWord_1 hl (by decide) rfl (fun ls hl => ?_)
  refine lv_iconst (v := 0) hx hb dX8_mixedWord_3 (by decide) ?_
  refine lv_istore (lv' := [(6, .int 0), (4, .long a1), (0, .ref (h b0)), (1, .long a1), (3, .int a2)]) hx hb dX8_mixedWord_4 hl (by decide) rfl (fun ls hl => ?_)
  obtain ⟨x2, hx2, hfx2⟩ := g_bnd hf
  have hEx2 : ∀ ls : Array Slot, lv_has ls 7 [(0, .ref (h b0)), (3, .int a2), (4, .long x2)] → W p l e rX8_mixedWord s m args below meth c s.heap [] 0 0 Q (F0 m 38 ls []) := by
    intro ls hl
    have hf := hfx2
    refine lv_lload hx hb dX8_mixedWord_38 (lv_at hl 2 rfl) ?_
    refine lv_aload_n hx hb dX8_mixedWord_40 rfl (lv_at hl 0 rfl) ?_
    refine g_get F hK hP 0 0 2 flX8_26 rfl rfl rfl dX8_mixedWord_41 ?_
    refine g_get F hK hP 3 0 0 flX8_79 rfl rfl rfl dX8_mixedWord_44 ?_
    refine lv_iload_n hx hb dX8_mixedWord_47 rfl (lv_at hl 1 rfl) ?_
    obtain ⟨x6, hx6, hf⟩ := g_bnd hf
    refine g_rv (As := [.int a2]) (rest := [.long x2]) F hK hX hP [4] rfl (c_X6_wordAt h ((b0+9)+1) w0.2.2.1.1 a2 hx6) (kX8_116 F.2.2.2.2 ⟨Nat.le_of_ble_eq_true rfl, Nat.le_of_ble_eq_true rfl⟩) rfl rfl rfl rfl hl.1 rfl (lv_room (Nat.le_of_ble_eq_true rfl)) ⟨Nat.zero_le _, Nat.zero_le _⟩ dX8_mixedWord_48 ?_
    obtain ⟨x7, hx7, hf⟩ := g_bnd hf
    refine g_rs (As := [.long x2, .long x6]) (rest := []) F hK hX hP [] rfl (c_X8_mixedLetters h x2 x6 hx7) (kX8_262 F.2.2.2.2 ⟨Nat.le_of_ble_eq_true rfl, Nat.le_of_ble_eq_true rfl⟩) rfl hl.1 rfl (lv_room (Nat.le_of_ble_eq_true rfl)) ⟨Nat.zero_le _, Nat.zero_le _⟩ dX8_mixedWord_51 ?_
    refine lv_lstore (lv' := [(4, .long x7), (0, .ref (h b0)), (3, .int a2)]) hx hb dX8_mixedWord_54 hl (by decide) rfl (fun ls hl => ?_)
    refine lv_lload hx hb dX8_mixedWord_56 (lv_at hl 0 rfl) ?_
    refine lv_aload_n hx hb dX8_mixedWord_58 rfl (lv_at hl 1 rfl) ?_
    refine g_get F hK hP 0 0 2 flX8_26 rfl rfl rfl dX8_mixedWord_59 ?_
    refine g_get F hK hP 3 0 0 flX8_79 rfl rfl rfl dX8_mixedWord_62 ?_
    refine lv_iload_n hx hb dX8_mixedWord_65 rfl (lv_at hl 2 rfl) ?_
    obtain ⟨x8, hx8, hf⟩ := g_bnd hf
    refine g_rv (As := [.int a2]) (rest := [.long x7]) F hK hX hP [4] rfl (c_X6_stepsTo h ((b0+9)+1) w0.2.2.1.1 a2 hx8) (kX8_225 F.2.2.2.2 ⟨Nat.le_of_ble_eq_true rfl, Nat.le_of_ble_eq_true rfl⟩) rfl rfl rfl rfl hl.1 rfl (lv_room (Nat.le_of_ble_eq_true rfl)) ⟨Nat.zero_le _, Nat.zero_le _⟩ dX8_mixedWord_66 ?_
    obtain ⟨x9, hx9, hf⟩ := g_bnd hf
    refine g_rs (As := [.long x7, .int x8]) (rest := []) F hK hX hP [] rfl (c_X8_mixed h x7 x8 hx9) (kX8_256 F.2.2.2.2 ⟨Nat.le_of_ble_eq_true rfl, Nat.le_of_ble_eq_true rfl⟩) rfl hl.1 rfl (lv_room (Nat.le_of_ble_eq_true rfl)) ⟨Nat.zero_le _, Nat.zero_le _⟩ dX8_mixedWord_69 ?_
    have ho := Option.some.inj hf
    rw [← hQ, ← ho]
    exact g_retL F hr hlk dX8_mixedWord_72
  refine lp_rule (fun (v1 : Int64 × Int32) => ∀ ls : Array Slot, lv_has ls 7 [(0, .ref (h b0)), (3, .int a2), (4, .long v1.1), (6, .int v1.2)] → W p l e rX8_mixedWord s m args below meth c s.heap [] 0 0 Q (F0 m 6 ls [])) ?_ _ _ hx2 ls (lv_sub hl [2, 4, 1, 0] rfl)
  intro v1 y hf hbackv1 hexitv1 ls hl
  refine lv_iload hx hb dX8_mixedWord_6 (lv_at hl 3 rfl) ?_
  refine lv_iconst (v := 5) hx hb dX8_mixedWord_8 (by decide) ?_
  refine lv_icmp_ge (tgt := 38) hx hb dX8_mixedWord_9 (by decide) (fun c3 => ?_) (fun c3 => ?_)
  · have hf := g_it c3 hf
    obtain rfl := hexitv1 _ (Option.some.inj hf).symm
    exact hEx2 ls (lv_sub hl [0, 1, 2] rfl)
  · have hf := g_if c3 hf
    refine lv_lload hx hb dX8_mixedWord_12 (lv_at hl 2 rfl) ?_
    refine lv_aload_n hx hb dX8_mixedWord_14 rfl (lv_at hl 0 rfl) ?_
    refine g_get F hK hP 0 0 2 flX8_26 rfl rfl rfl dX8_mixedWord_15 ?_
    refine g_get F hK hP 3 0 0 flX8_79 rfl rfl rfl dX8_mixedWord_18 ?_
    refine lv_iload_n hx hb dX8_mixedWord_21 rfl (lv_at hl 1 rfl) ?_
    refine lv_iload hx hb dX8_mixedWord_22 (lv_at hl 3 rfl) ?_
    obtain ⟨x4, hx4, hf⟩ := g_bnd hf
    refine g_rv (As := [.int a2, .int v1.2]) (rest := [.long v1.1]) F hK hX hP [4] rfl (c_X6_valueOf h ((b0+9)+1) w0.2.2.1.1 a2 v1.2 hx4) (kX8_112 F.2.2.2.2 ⟨Nat.le_of_ble_eq_true rfl, Nat.le_of_ble_eq_true rfl⟩) rfl rfl rfl rfl hl.1 rfl (lv_room (Nat.le_of_ble_eq_true rfl)) ⟨Nat.zero_le _, Nat.zero_le _⟩ dX8_mixedWord_24 ?_
    obtain ⟨x5, hx5, hf⟩ := g_bnd hf
    refine g_rs (As := [.long v1.1, .int x4]) (rest := []) F hK hX hP [] rfl (c_X8_mixed h v1.1 x4 hx5) (kX8_256 F.2.2.2.2 ⟨Nat.le_of_ble_eq_true rfl, Nat.le_of_ble_eq_true rfl⟩) rfl hl.1 rfl (lv_room (Nat.le_of_ble_eq_true rfl)) ⟨Nat.zero_le _, Nat.zero_le _⟩ dX8_mixedWord_27 ?_
    refine lv_lstore (lv' := [(4, .long x5), (0, .ref (h b0)), (3, .int a2), (6, .int v1.2)]) hx hb dX8_mixedWord_30 hl (by decide) rfl (fun ls hl => ?_)
    refine lv_iinc (v := (v1.2 + 1)) (lv' := [(6, .int (v1.2 + 1)), (4, .long x5), (0, .ref (h b0)), (3, .int a2)]) hx hb dX8_mixedWord_32 hl (k := 3) rfl rfl (by decide) rfl (fun ls hl => ?_)
    refine lv_goto (tgt := 6) hx hb dX8_mixedWord_35 (by decide) ?_
    exact hbackv1 _ (Option.some.inj hf).symm ls (lv_sub hl [2, 3, 1, 0] rfl)
set_option maxHeartbeats 4000000 in
set_option maxRecDepth 100000 in
theorem c_X8_placeValue {l : Launch} {E : gEnv} (h : Nat → Nat) (b0 : Nat) (w0 : T8) (a1 : Int32) {o : Int32} (hf : f_X8_placeValue w0 a1 = some o) : gR l yX8_placeValue cX8_placeValue 3 (some .int) rX8_placeValue E [.ref (h b0), .int a1] [C8 E h b0, C2 E h (b0+1) w0.1, C6 E h (b0+3) w0.2.1, C5 E h (b0+9) w0.2.2.1.2.2, C6 E h ((b0+9)+1) w0.2.2.1.1, C7 E h ((b0+9)+7) w0.2.2.1.2.1, C3 E h (b0+18) w0.2.2.2.1, C0 E h (b0+20) w0.2.2.2.2] (some (.int o)) := by
  refine gR.of (by decide +kernel) (Nat.le_of_ble_eq_true rfl) ?_
  intro p e s m below meth c F hr hlk hK hX hP ls hl
  have F : gF p m c cX8_placeValue 3 s ([.ref (h b0), .int a1] : List Value).toArray RX8 := F
  generalize ([.ref (h b0), .int a1] : List Value).toArray = args at F ⊢
  generalize hQ : MQ below _ _ _ _ _ _ = Q
  have hl : lv_has ls 3 [(0, .ref (h b0)), (1, .int a1)] := hl
  have hx := F.1
  have hb := F.2.1
  unfold f_X8_placeValue at hf
  refine lv_aload_n hx hb dX8_placeValue_0 rfl (lv_at hl 0 rfl) ?_
  refine g_get F hK hP 0 0 2 flX8_26 rfl rfl rfl dX8_placeValue_1 ?_
  refine g_get F hK hP 3 0 7 flX8_161 rfl rfl rfl dX8_placeValue_4 ?_
  refine lv_iload_n hx hb dX8_placeValue_7 rfl (lv_at hl 1 rfl) ?_
  obtain ⟨x1, hx1, hf⟩ := g_bnd hf
  refine g_rs (As := [.long w0.2.2.1.2.2.2.2.2.2.2.1, .int a1]) (rest := []) F hK hX hP [] rfl (c_X4_codeAt h w0.2.2.1.2.2.2.2.2.2.2.1 a1 hx1) (kX8_271 F.2.2.2.2 ⟨Nat.le_of_ble_eq_true rfl, Nat.le_of_ble_eq_true rfl⟩) rfl hl.1 rfl (lv_room (Nat.le_of_ble_eq_true rfl)) ⟨Nat.zero_le _, Nat.zero_le _⟩ dX8_placeValue_8 ?_
  refine lv_istore_n (lv' := [(2, .int x1), (0, .ref (h b0)), (1, .int a1)]) hx hb dX8_placeValue_11 rfl hl (by decide) rfl (fun ls hl => ?_)
  refine lv_iload_n hx hb dX8_placeValue_12 rfl (lv_at hl 0 rfl) ?_
  obtain ⟨x2, hx2, hf⟩ := g_bnd hf
  refine g_rs (As := [.int x1]) (rest := []) F hK hX hP [] rfl (c_X4_isLetter h x1 hx2) (kX8_274 F.2.2.2.2 ⟨Nat.le_of_ble_eq_true rfl, Nat.le_of_ble_eq_true rfl⟩) rfl hl.1 rfl (lv_room (Nat.le_of_ble_eq_true rfl)) ⟨Nat.zero_le _, Nat.zero_le _⟩ dX8_placeValue_13 ?_
  refine lv_if_eq (tgt := 29) hx hb dX8_placeValue_16 (by decide) (fun c3 => ?_) (fun c3 => ?_)
  · have hf := g_it c3 hf
    refine lv_iload_n hx hb dX8_placeValue_29 rfl (lv_at hl 0 rfl) ?_
    obtain ⟨x4, hx4, hf⟩ := g_bnd hf
    refine g_rs (As := [.int x1]) (rest := []) F hK hX hP [] rfl (c_X4_keyOf h x1 hx4) (kX8_280 F.2.2.2.2 ⟨Nat.le_of_ble_eq_true rfl, Nat.le_of_ble_eq_true rfl⟩) rfl hl.1 rfl (lv_room (Nat.le_of_ble_eq_true rfl)) ⟨Nat.zero_le _, Nat.zero_le _⟩ dX8_placeValue_30 ?_
    have ho := Option.some.inj hf
    rw [← hQ, ← ho]
    exact g_retI F hr hlk dX8_placeValue_33
  · have hf := g_if c3 hf
    refine lv_bipush (v := 100) hx hb dX8_placeValue_19 (by decide) ?_
    refine lv_iload_n hx hb dX8_placeValue_21 rfl (lv_at hl 0 rfl) ?_
    obtain ⟨x5, hx5, hf⟩ := g_bnd hf
    refine g_rs (As := [.int x1]) (rest := [.int 100]) F hK hX hP [] rfl (c_X4_letterOf h x1 hx5) (kX8_277 F.2.2.2.2 ⟨Nat.le_of_ble_eq_true rfl, Nat.le_of_ble_eq_true rfl⟩) rfl hl.1 rfl (lv_room (Nat.le_of_ble_eq_true rfl)) ⟨Nat.zero_le _, Nat.zero_le _⟩ dX8_placeValue_22 ?_
    refine lv_iadd hx hb dX8_placeValue_25 ?_
    refine lv_goto (tgt := 33) hx hb dX8_placeValue_26 (by decide) ?_
    have ho := Option.some.inj hf
    rw [← hQ, ← ho]
    exact g_retI F hr hlk dX8_placeValue_33
set_option maxHeartbeats 4000000 in
set_option maxRecDepth 100000 in
theorem c_X8_digest {l : Launch} {E : gEnv} (h : Nat → Nat) (b0 : Nat) (w0 : T8) {o : Int64 × T0} (hf : f_X8_digest w0 = some o) : gM l yX8_digest cX8_digest 7 (some .long) rX8_digest E [.ref (h b0)] [C8 E h b0, C2 E h (b0+1) w0.1, C6 E h (b0+3) w0.2.1, C5 E h (b0+9) w0.2.2.1.2.2, C6 E h ((b0+9)+1) w0.2.2.1.1, C7 E h ((b0+9)+7) w0.2.2.1.2.1, C3 E h (b0+18) w0.2.2.2.1, C0 E h (b0+20) w0.2.2.2.2] (some (.long o.1)) [C8 E h b0, C2 E h (b0+1) w0.1, C6 E h (b0+3) w0.2.1, C5 E h (b0+9) w0.2.2.1.2.2, C6 E h ((b0+9)+1) w0.2.2.1.1, C7 E h ((b0+9)+7) w0.2.2.1.2.1, C3 E h (b0+18) w0.2.2.2.1, C0 E h (b0+20) o.2] := by
  refine gM.of (by decide +kernel) (Nat.le_of_ble_eq_true rfl) rfl ?_
  intro p e s m below meth c F hr hlk hK hX hAB ls hl H locs hG
  have F : gF p m c cX8_digest 7 s ([.ref (h b0)] : List Value).toArray RX8 := F
  generalize ([.ref (h b0)] : List Value).toArray = args at F ⊢
  generalize hQ : MQ below _ _ _ _ _ _ = Q
  generalize hA : gAd [C8 E h b0, C2 E h (b0+1) w0.1, C6 E h (b0+3) w0.2.1, C5 E h (b0+9) w0.2.2.1.2.2, C6 E h ((b0+9)+1) w0.2.2.1.1, C7 E h ((b0+9)+7) w0.2.2.1.2.1, C3 E h (b0+18) w0.2.2.2.1, C0 E h (b0+20) w0.2.2.2.2] = A at hAB hG
  have hl : lv_has ls 7 [(0, .ref (h b0))] := hl
  have hx := F.1
  have hb := F.2.1
  unfold f_X8_digest at hf
  refine lv_ldc2 (v := 3271) hx hb F.2.2.2.1 (F.2.2.2.2 _ gw_407) dX8_digest_0 ?_
  refine lv_aload_n hx hb dX8_digest_3 rfl (lv_at hl 0 rfl) ?_
  refine g_get F hK hG.1 0 0 0 flX8_10 rfl rfl rfl dX8_digest_4 ?_
  refine g_get F hK hG.1 1 0 1 flX8_64 rfl rfl rfl dX8_digest_7 ?_
  obtain ⟨x1, hx1, hf⟩ := g_bnd hf
  refine g_rs (As := [.long 3271, .int w0.1.2.1]) (rest := []) F hK (hG.X hX hAB) hG.1 [] rfl (c_X8_mixed h 3271 w0.1.2.1 hx1) (kX8_256 F.2.2.2.2 ⟨Nat.le_of_ble_eq_true rfl, Nat.le_of_ble_eq_true rfl⟩) rfl hl.1 rfl (lv_room (Nat.le_of_ble_eq_true rfl)) ⟨Nat.zero_le _, Nat.zero_le _⟩ dX8_digest_10 ?_
  refine lv_lstore_n (lv' := [(1, .long x1), (0, .ref (h b0))]) hx hb dX8_digest_13 rfl hl (by decide) rfl (fun ls hl => ?_)
  refine lv_iconst (v := 0) hx hb dX8_digest_14 (by decide) ?_
  refine lv_istore_n (lv' := [(3, .int 0), (1, .long x1), (0, .ref (h b0))]) hx hb dX8_digest_15 rfl hl (by decide) rfl (fun ls hl => ?_)
  obtain ⟨x3, hx3, hfx3⟩ := g_bnd hf
  have hEx3 : ∀ (H : Heap) (locs : List Loc), gS E A s.heap [C8 E h b0, C2 E h (b0+1) w0.1, C6 E h (b0+3) w0.2.1, C5 E h (b0+9) w0.2.2.1.2.2, C6 E h ((b0+9)+1) w0.2.2.1.1, C7 E h ((b0+9)+7) w0.2.2.1.2.1, C3 E h (b0+18) w0.2.2.2.1, C0 E h (b0+20) x3.2] H locs → ∀ ls : Array Slot, lv_has ls 7 [(0, .ref (h b0)), (1, .long x3.1)] → W p l e rX8_digest s m args below meth c H locs 0 0 Q (F0 m 38 ls []) := by
    intro H locs hG ls hl
    have hf := hfx3
    refine lv_iconst (v := 0) hx hb dX8_digest_38 (by decide) ?_
    refine lv_istore_n (lv' := [(3, .int 0), (0, .ref (h b0)), (1, .long x3.1)]) hx hb dX8_digest_39 rfl hl (by decide) rfl (fun ls hl => ?_)
    obtain ⟨x8, hx8, hfx8⟩ := g_bnd hf
    have hEx8 : ∀ (H : Heap) (locs : List Loc), gS E A s.heap [C8 E h b0, C2 E h (b0+1) w0.1, C6 E h (b0+3) w0.2.1, C5 E h (b0+9) w0.2.2.1.2.2, C6 E h ((b0+9)+1) w0.2.2.1.1, C7 E h ((b0+9)+7) w0.2.2.1.2.1, C3 E h (b0+18) w0.2.2.2.1, C0 E h (b0+20) x3.2] H locs → ∀ ls : Array Slot, lv_has ls 7 [(0, .ref (h b0)), (1, .long x8)] → W p l e rX8_digest s m args below meth c H locs 0 0 Q (F0 m 67 ls []) := by
      intro H locs hG ls hl
      have hf := hfx8
      refine lv_aload_n hx hb dX8_digest_67 rfl (lv_at hl 0 rfl) ?_
      refine g_get F hK hG.1 0 0 2 flX8_26 rfl rfl rfl dX8_digest_68 ?_
      obtain ⟨x11, hx11, hf⟩ := g_bnd hf
      refine g_rv (As := []) (rest := []) F hK (hG.X hX hAB) hG.1 [3, 4, 5] rfl (c_X5_places h (b0+9) w0.2.2.1 hx11) (kX8_141 F.2.2.2.2 ⟨Nat.le_of_ble_eq_true rfl, Nat.le_of_ble_eq_true rfl⟩) rfl rfl rfl rfl hl.1 rfl (lv_room (Nat.le_of_ble_eq_true rfl)) ⟨Nat.zero_le _, Nat.zero_le _⟩ dX8_digest_71 ?_
      refine lv_istore_n (lv' := [(3, .int x11), (0, .ref (h b0)), (1, .long x8)]) hx hb dX8_digest_74 rfl hl (by decide) rfl (fun ls hl => ?_)
      refine lv_iconst (v := 0) hx hb dX8_digest_75 (by decide) ?_
      refine lv_istore (lv' := [(4, .int 0), (3, .int x11), (0, .ref (h b0)), (1, .long x8)]) hx hb dX8_digest_76 hl (by decide) rfl (fun ls hl => ?_)
      obtain ⟨x13, hx13, hfx13⟩ := g_bnd hf
      have hEx13 : ∀ (H : Heap) (locs : List Loc), gS E A s.heap [C8 E h b0, C2 E h (b0+1) w0.1, C6 E h (b0+3) w0.2.1, C5 E h (b0+9) w0.2.2.1.2.2, C6 E h ((b0+9)+1) w0.2.2.1.1, C7 E h ((b0+9)+7) w0.2.2.1.2.1, C3 E h (b0+18) w0.2.2.2.1, C0 E h (b0+20) x3.2] H locs → ∀ ls : Array Slot, lv_has ls 7 [(0, .ref (h b0)), (1, .long x13)] → W p l e rX8_digest s m args below meth c H locs 0 0 Q (F0 m 101 ls []) := by
        intro H locs hG ls hl
        have hf := hfx13
        refine lv_lload_n hx hb dX8_digest_101 rfl (lv_at hl 1 rfl) ?_
        refine lv_aload_n hx hb dX8_digest_102 rfl (lv_at hl 0 rfl) ?_
        obtain ⟨x17, hx17, hf⟩ := g_bnd hf
        refine g_mv (S' := [C8 E h b0, C2 E h (b0+1) w0.1, C6 E h (b0+3) w0.2.1, C5 E h (b0+9) w0.2.2.1.2.2, C6 E h ((b0+9)+1) w0.2.2.1.1, C7 E h ((b0+9)+7) w0.2.2.1.2.1, C3 E h (b0+18) w0.2.2.2.1, C0 E h (b0+20) x17.2]) (As := []) (rest := [.long x13]) F hK hX hAB hG [0, 1, 2, 3, 4, 5, 6, 7] rfl rfl (c_X8_displayed h b0 (w0.1, w0.2.1, w0.2.2.1, w0.2.2.2.1, x3.2) hx17) rfl (kX8_153 F.2.2.2.2 ⟨Nat.le_of_ble_eq_true rfl, Nat.le_of_ble_eq_true rfl⟩) rfl rfl rfl rfl hl.1 rfl (lv_room (Nat.le_of_ble_eq_true rfl)) ⟨Nat.zero_le _, Nat.zero_le _⟩ dX8_digest_103 (fun H locs hG => ?_)
        obtain ⟨x18, hx18, hf⟩ := g_bnd hf
        refine g_rs (As := [.long x13, .long x17.1]) (rest := []) F hK (hG.X hX hAB) hG.1 [] rfl (c_X8_mixedLetters h x13 x17.1 hx18) (kX8_262 F.2.2.2.2 ⟨Nat.le_of_ble_eq_true rfl, Nat.le_of_ble_eq_true rfl⟩) rfl hl.1 rfl (lv_room (Nat.le_of_ble_eq_true rfl)) ⟨Nat.zero_le _, Nat.zero_le _⟩ dX8_digest_106 ?_
        refine lv_lstore_n (lv' := [(1, .long x18), (0, .ref (h b0))]) hx hb dX8_digest_109 rfl hl (by decide) rfl (fun ls hl => ?_)
        refine lv_iconst (v := 0) hx hb dX8_digest_110 (by decide) ?_
        refine lv_istore (lv' := [(4, .int 0), (1, .long x18), (0, .ref (h b0))]) hx hb dX8_digest_111 hl (by decide) rfl (fun ls hl => ?_)
        obtain ⟨x20, hx20, hfx20⟩ := g_bnd hf
        have hEx20 : ∀ (H : Heap) (locs : List Loc), gS E A s.heap [C8 E h b0, C2 E h (b0+1) w0.1, C6 E h (b0+3) w0.2.1, C5 E h (b0+9) w0.2.2.1.2.2, C6 E h ((b0+9)+1) w0.2.2.1.1, C7 E h ((b0+9)+7) w0.2.2.1.2.1, C3 E h (b0+18) w0.2.2.2.1, C0 E h (b0+20) x17.2] H locs → ∀ ls : Array Slot, lv_has ls 7 [(0, .ref (h b0)), (1, .long x20)] → W p l e rX8_digest s m args below meth c H locs 0 0 Q (F0 m 165 ls []) := by
          intro H locs hG ls hl
          have hf := hfx20
          refine lv_lload_n hx hb dX8_digest_165 rfl (lv_at hl 1 rfl) ?_
          refine lv_aload_n hx hb dX8_digest_166 rfl (lv_at hl 0 rfl) ?_
          refine g_get F hK hG.1 0 0 3 flX8_33 rfl rfl rfl dX8_digest_167 ?_
          refine g_get F hK hG.1 6 0 1 flX8_248 rfl rfl rfl dX8_digest_170 ?_
          obtain ⟨x26, hx26, hf⟩ := g_bnd hf
          refine g_rs (As := [.long x20, .int w0.2.2.2.1.2.2]) (rest := []) F hK (hG.X hX hAB) hG.1 [] rfl (c_X8_mixed h x20 w0.2.2.2.1.2.2 hx26) (kX8_256 F.2.2.2.2 ⟨Nat.le_of_ble_eq_true rfl, Nat.le_of_ble_eq_true rfl⟩) rfl hl.1 rfl (lv_room (Nat.le_of_ble_eq_true rfl)) ⟨Nat.zero_le _, Nat.zero_le _⟩ dX8_digest_173 ?_
          have ho := Option.some.inj hf
          subst hA
          rw [← hQ, ← ho]
          exact g_mretL F hr hlk hG dX8_digest_176
        refine lp_rule (fun (v19 : Int64 × Int32) => ∀ (H : Heap) (locs : List Loc), gS E A s.heap [C8 E h b0, C2 E h (b0+1) w0.1, C6 E h (b0+3) w0.2.1, C5 E h (b0+9) w0.2.2.1.2.2, C6 E h ((b0+9)+1) w0.2.2.1.1, C7 E h ((b0+9)+7) w0.2.2.1.2.1, C3 E h (b0+18) w0.2.2.2.1, C0 E h (b0+20) x17.2] H locs → ∀ ls : Array Slot, lv_has ls 7 [(0, .ref (h b0)), (1, .long v19.1), (4, .int v19.2)] → W p l e rX8_digest s m args below meth c H locs 0 0 Q (F0 m 113 ls [])) ?_ _ _ hx20 _ _ hG ls (lv_sub hl [2, 1, 0] rfl)
        intro v19 y hf hbackv19 hexitv19 H locs hG ls hl
        refine lv_iload hx hb dX8_digest_113 (lv_at hl 2 rfl) ?_
        refine lv_aload_n hx hb dX8_digest_115 rfl (lv_at hl 0 rfl) ?_
        refine g_get F hK hG.1 0 0 2 flX8_26 rfl rfl rfl dX8_digest_116 ?_
        refine g_get F hK hG.1 3 0 1 flX8_182 rfl rfl rfl dX8_digest_119 ?_
        refine g_get F hK hG.1 5 0 1 flX8_186 rfl rfl rfl dX8_digest_122 ?_
        refine lv_icmp_ge (tgt := 165) hx hb dX8_digest_125 (by decide) (fun c21 => ?_) (fun c21 => ?_)
        · have hf := g_it c21 hf
          obtain rfl := hexitv19 _ (Option.some.inj hf).symm
          exact hEx20 _ _ hG ls (lv_sub hl [0, 1] rfl)
        · have hf := g_if c21 hf
          refine lv_aload_n hx hb dX8_digest_128 rfl (lv_at hl 0 rfl) ?_
          refine g_get F hK hG.1 0 0 2 flX8_26 rfl rfl rfl dX8_digest_129 ?_
          refine g_get F hK hG.1 3 0 1 flX8_182 rfl rfl rfl dX8_digest_132 ?_
          refine lv_iload hx hb dX8_digest_135 (lv_at hl 2 rfl) ?_
          obtain ⟨x22, hx22, hf⟩ := g_bnd hf
          refine g_rv (As := [.int v19.2]) (rest := []) F hK (hG.X hX hAB) hG.1 [5] rfl (c_X7_wordAt h ((b0+9)+7) w0.2.2.1.2.1 v19.2 hx22) (kX8_220 F.2.2.2.2 ⟨Nat.le_of_ble_eq_true rfl, Nat.le_of_ble_eq_true rfl⟩) rfl rfl rfl rfl hl.1 rfl (lv_room (Nat.le_of_ble_eq_true rfl)) ⟨Nat.zero_le _, Nat.zero_le _⟩ dX8_digest_137 ?_
          refine lv_lstore (lv' := [(5, .long x22), (0, .ref (h b0)), (1, .long v19.1), (4, .int v19.2)]) hx hb dX8_digest_140 hl (by decide) rfl (fun ls hl => ?_)
          refine lv_lload_n hx hb dX8_digest_142 rfl (lv_at hl 2 rfl) ?_
          refine lv_lload hx hb dX8_digest_143 (lv_at hl 0 rfl) ?_
          obtain ⟨x23, hx23, hf⟩ := g_bnd hf
          refine g_rs (As := [.long x22]) (rest := [.long v19.1]) F hK (hG.X hX hAB) hG.1 [] rfl (c_X4_lengthOf h x22 hx23) (kX8_221 F.2.2.2.2 ⟨Nat.le_of_ble_eq_true rfl, Nat.le_of_ble_eq_true rfl⟩) rfl hl.1 rfl (lv_room (Nat.le_of_ble_eq_true rfl)) ⟨Nat.zero_le _, Nat.zero_le _⟩ dX8_digest_145 ?_
          obtain ⟨x24, hx24, hf⟩ := g_bnd hf
          refine g_rs (As := [.long v19.1, .int x23]) (rest := []) F hK (hG.X hX hAB) hG.1 [] rfl (c_X8_mixed h v19.1 x23 hx24) (kX8_256 F.2.2.2.2 ⟨Nat.le_of_ble_eq_true rfl, Nat.le_of_ble_eq_true rfl⟩) rfl hl.1 rfl (lv_room (Nat.le_of_ble_eq_true rfl)) ⟨Nat.zero_le _, Nat.zero_le _⟩ dX8_digest_148 ?_
          refine lv_lstore_n (lv' := [(1, .long x24), (5, .long x22), (0, .ref (h b0)), (4, .int v19.2)]) hx hb dX8_digest_151 rfl hl (by decide) rfl (fun ls hl => ?_)
          refine lv_lload_n hx hb dX8_digest_152 rfl (lv_at hl 0 rfl) ?_
          refine lv_lload hx hb dX8_digest_153 (lv_at hl 1 rfl) ?_
          obtain ⟨x25, hx25, hf⟩ := g_bnd hf
          refine g_rs (As := [.long x24, .long x22]) (rest := []) F hK (hG.X hX hAB) hG.1 [] rfl (c_X8_mixedLetters h x24 x22 hx25) (kX8_262 F.2.2.2.2 ⟨Nat.le_of_ble_eq_true rfl, Nat.le_of_ble_eq_true rfl⟩) rfl hl.1 rfl (lv_room (Nat.le_of_ble_eq_true rfl)) ⟨Nat.zero_le _, Nat.zero_le _⟩ dX8_digest_155 ?_
          refine lv_lstore_n (lv' := [(1, .long x25), (5, .long x22), (0, .ref (h b0)), (4, .int v19.2)]) hx hb dX8_digest_158 rfl hl (by decide) rfl (fun ls hl => ?_)
          refine lv_iinc (v := (v19.2 + 1)) (lv' := [(4, .int (v19.2 + 1)), (1, .long x25), (5, .long x22), (0, .ref (h b0))]) hx hb dX8_digest_159 hl (k := 3) rfl rfl (by decide) rfl (fun ls hl => ?_)
          refine lv_goto (tgt := 113) hx hb dX8_digest_162 (by decide) ?_
          exact hbackv19 _ (Option.some.inj hf).symm _ _ hG ls (lv_sub hl [3, 1, 0] rfl)
      refine lp_rule (fun (v12 : Int64 × Int32) => ∀ (H : Heap) (locs : List Loc), gS E A s.heap [C8 E h b0, C2 E h (b0+1) w0.1, C6 E h (b0+3) w0.2.1, C5 E h (b0+9) w0.2.2.1.2.2, C6 E h ((b0+9)+1) w0.2.2.1.1, C7 E h ((b0+9)+7) w0.2.2.1.2.1, C3 E h (b0+18) w0.2.2.2.1, C0 E h (b0+20) x3.2] H locs → ∀ ls : Array Slot, lv_has ls 7 [(0, .ref (h b0)), (1, .long v12.1), (3, .int x11), (4, .int v12.2)] → W p l e rX8_digest s m args below meth c H locs 0 0 Q (F0 m 78 ls [])) ?_ _ _ hx13 _ _ hG ls (lv_sub hl [2, 3, 1, 0] rfl)
      intro v12 y hf hbackv12 hexitv12 H locs hG ls hl
      refine lv_iload hx hb dX8_digest_78 (lv_at hl 3 rfl) ?_
      refine lv_iload_n hx hb dX8_digest_80 rfl (lv_at hl 2 rfl) ?_
      refine lv_icmp_ge (tgt := 101) hx hb dX8_digest_81 (by decide) (fun c14 => ?_) (fun c14 => ?_)
      · have hf := g_it c14 hf
        obtain rfl := hexitv12 _ (Option.some.inj hf).symm
        exact hEx13 _ _ hG ls (lv_sub hl [0, 1] rfl)
      · have hf := g_if c14 hf
        refine lv_lload_n hx hb dX8_digest_84 rfl (lv_at hl 1 rfl) ?_
        refine lv_aload_n hx hb dX8_digest_85 rfl (lv_at hl 0 rfl) ?_
        refine lv_iload hx hb dX8_digest_86 (lv_at hl 3 rfl) ?_
        obtain ⟨x15, hx15, hf⟩ := g_bnd hf
        refine g_rv (As := [.int v12.2]) (rest := [.long v12.1]) F hK (hG.X hX hAB) hG.1 [0, 1, 2, 3, 4, 5, 6, 7] rfl (c_X8_placeValue h b0 (w0.1, w0.2.1, w0.2.2.1, w0.2.2.2.1, x3.2) v12.2 hx15) (kX8_211 F.2.2.2.2 ⟨Nat.le_of_ble_eq_true rfl, Nat.le_of_ble_eq_true rfl⟩) rfl rfl rfl rfl hl.1 rfl (lv_room (Nat.le_of_ble_eq_true rfl)) ⟨Nat.zero_le _, Nat.zero_le _⟩ dX8_digest_88 ?_
        obtain ⟨x16, hx16, hf⟩ := g_bnd hf
        refine g_rs (As := [.long v12.1, .int x15]) (rest := []) F hK (hG.X hX hAB) hG.1 [] rfl (c_X8_mixed h v12.1 x15 hx16) (kX8_256 F.2.2.2.2 ⟨Nat.le_of_ble_eq_true rfl, Nat.le_of_ble_eq_true rfl⟩) rfl hl.1 rfl (lv_room (Nat.le_of_ble_eq_true rfl)) ⟨Nat.zero_le _, Nat.zero_le _⟩ dX8_digest_91 ?_
        refine lv_lstore_n (lv' := [(1, .long x16), (0, .ref (h b0)), (3, .int x11), (4, .int v12.2)]) hx hb dX8_digest_94 rfl hl (by decide) rfl (fun ls hl => ?_)
        refine lv_iinc (v := (v12.2 + 1)) (lv' := [(4, .int (v12.2 + 1)), (1, .long x16), (0, .ref (h b0)), (3, .int x11)]) hx hb dX8_digest_95 hl (k := 3) rfl rfl (by decide) rfl (fun ls hl => ?_)
        refine lv_goto (tgt := 78) hx hb dX8_digest_98 (by decide) ?_
        exact hbackv12 _ (Option.some.inj hf).symm _ _ hG ls (lv_sub hl [2, 1, 3, 0] rfl)
    refine lp_rule (fun (v7 : Int64 × Int32) => ∀ (H : Heap) (locs : List Loc), gS E A s.heap [C8 E h b0, C2 E h (b0+1) w0.1, C6 E h (b0+3) w0.2.1, C5 E h (b0+9) w0.2.2.1.2.2, C6 E h ((b0+9)+1) w0.2.2.1.1, C7 E h ((b0+9)+7) w0.2.2.1.2.1, C3 E h (b0+18) w0.2.2.2.1, C0 E h (b0+20) x3.2] H locs → ∀ ls : Array Slot, lv_has ls 7 [(0, .ref (h b0)), (1, .long v7.1), (3, .int v7.2)] → W p l e rX8_digest s m args below meth c H locs 0 0 Q (F0 m 40 ls [])) ?_ _ _ hx8 _ _ hG ls (lv_sub hl [1, 2, 0] rfl)
    intro v7 y hf hbackv7 hexitv7 H locs hG ls hl
    refine lv_iload_n hx hb dX8_digest_40 rfl (lv_at hl 2 rfl) ?_
    refine lv_aload_n hx hb dX8_digest_41 rfl (lv_at hl 0 rfl) ?_
    refine g_get F hK hG.1 0 0 2 flX8_26 rfl rfl rfl dX8_digest_42 ?_
    refine g_get F hK hG.1 3 0 0 flX8_79 rfl rfl rfl dX8_digest_45 ?_
    refine g_get F hK hG.1 4 0 5 flX8_89 rfl rfl rfl dX8_digest_48 ?_
    refine lv_icmp_ge (tgt := 67) hx hb dX8_digest_51 (by decide) (fun c9 => ?_) (fun c9 => ?_)
    · have hf := g_it c9 hf
      obtain rfl := hexitv7 _ (Option.some.inj hf).symm
      exact hEx8 _ _ hG ls (lv_sub hl [0, 1] rfl)
    · have hf := g_if c9 hf
      refine lv_aload_n hx hb dX8_digest_54 rfl (lv_at hl 0 rfl) ?_
      refine lv_lload_n hx hb dX8_digest_55 rfl (lv_at hl 1 rfl) ?_
      refine lv_iload_n hx hb dX8_digest_56 rfl (lv_at hl 2 rfl) ?_
      obtain ⟨x10, hx10, hf⟩ := g_bnd hf
      refine g_rv (As := [.long v7.1, .int v7.2]) (rest := []) F hK (hG.X hX hAB) hG.1 [0, 1, 2, 3, 4, 5, 6, 7] rfl (c_X8_mixedWord h b0 (w0.1, w0.2.1, w0.2.2.1, w0.2.2.2.1, x3.2) v7.1 v7.2 hx10) (kX8_259 F.2.2.2.2 ⟨Nat.le_of_ble_eq_true rfl, Nat.le_of_ble_eq_true rfl⟩) rfl rfl rfl rfl hl.1 rfl (lv_room (Nat.le_of_ble_eq_true rfl)) ⟨Nat.zero_le _, Nat.zero_le _⟩ dX8_digest_57 ?_
      refine lv_lstore_n (lv' := [(1, .long x10), (0, .ref (h b0)), (3, .int v7.2)]) hx hb dX8_digest_60 rfl hl (by decide) rfl (fun ls hl => ?_)
      refine lv_iinc (v := (v7.2 + 1)) (lv' := [(3, .int (v7.2 + 1)), (1, .long x10), (0, .ref (h b0))]) hx hb dX8_digest_61 hl (k := 2) rfl rfl (by decide) rfl (fun ls hl => ?_)
      refine lv_goto (tgt := 40) hx hb dX8_digest_64 (by decide) ?_
      exact hbackv7 _ (Option.some.inj hf).symm _ _ hG ls (lv_sub hl [2, 1, 0] rfl)
  refine lp_rule (fun (v2 : Int64 × Int32 × T0) => ∀ (H : Heap) (locs : List Loc), gS E A s.heap [C8 E h b0, C2 E h (b0+1) w0.1, C6 E h (b0+3) w0.2.1, C5 E h (b0+9) w0.2.2.1.2.2, C6 E h ((b0+9)+1) w0.2.2.1.1, C7 E h ((b0+9)+7) w0.2.2.1.2.1, C3 E h (b0+18) w0.2.2.2.1, C0 E h (b0+20) v2.2.2] H locs → ∀ ls : Array Slot, lv_has ls 7 [(0, .ref (h b0)), (1, .long v2.1), (3, .int v2.2.1)] → W p l e rX8_digest s m args below meth c H locs 0 0 Q (F0 m 16 ls [])) ?_ _ _ hx3 _ _ hG ls (lv_sub hl [2, 1, 0] rfl)
  intro v2 y hf hbackv2 hexitv2 H locs hG ls hl
  refine lv_iload_n hx hb dX8_digest_16 rfl (lv_at hl 2 rfl) ?_
  refine lv_bipush (v := 11) hx hb dX8_digest_17 (by decide) ?_
  refine lv_icmp_ge (tgt := 38) hx hb dX8_digest_19 (by decide) (fun c4 => ?_) (fun c4 => ?_)
  · have hf := g_it c4 hf
    obtain rfl := hexitv2 _ (Option.some.inj hf).symm
    exact hEx3 _ _ hG ls (lv_sub hl [0, 1] rfl)
  · have hf := g_if c4 hf
    refine lv_lload_n hx hb dX8_digest_22 rfl (lv_at hl 1 rfl) ?_
    refine lv_aload_n hx hb dX8_digest_23 rfl (lv_at hl 0 rfl) ?_
    refine lv_iload_n hx hb dX8_digest_24 rfl (lv_at hl 2 rfl) ?_
    obtain ⟨x5, hx5, hf⟩ := g_bnd hf
    refine g_mv (S' := [C8 E h b0, C2 E h (b0+1) w0.1, C6 E h (b0+3) w0.2.1, C5 E h (b0+9) w0.2.2.1.2.2, C6 E h ((b0+9)+1) w0.2.2.1.1, C7 E h ((b0+9)+7) w0.2.2.1.2.1, C3 E h (b0+18) w0.2.2.2.1, C0 E h (b0+20) x5.2]) (As := [.int v2.2.1]) (rest := [.long v2.1]) F hK hX hAB hG [0, 1, 2, 3, 4, 5, 6, 7] rfl rfl (c_X8_settingOf h b0 (w0.1, w0.2.1, w0.2.2.1, w0.2.2.2.1, v2.2.2) v2.2.1 hx5) rfl (kX8_205 F.2.2.2.2 ⟨Nat.le_of_ble_eq_true rfl, Nat.le_of_ble_eq_true rfl⟩) rfl rfl rfl rfl hl.1 rfl (lv_room (Nat.le_of_ble_eq_true rfl)) ⟨Nat.zero_le _, Nat.zero_le _⟩ dX8_digest_25 (fun H locs hG => ?_)
    obtain ⟨x6, hx6, hf⟩ := g_bnd hf
    refine g_rs (As := [.long v2.1, .int x5.1]) (rest := []) F hK (hG.X hX hAB) hG.1 [] rfl (c_X8_mixed h v2.1 x5.1 hx6) (kX8_256 F.2.2.2.2 ⟨Nat.le_of_ble_eq_true rfl, Nat.le_of_ble_eq_true rfl⟩) rfl hl.1 rfl (lv_room (Nat.le_of_ble_eq_true rfl)) ⟨Nat.zero_le _, Nat.zero_le _⟩ dX8_digest_28 ?_
    refine lv_lstore_n (lv' := [(1, .long x6), (0, .ref (h b0)), (3, .int v2.2.1)]) hx hb dX8_digest_31 rfl hl (by decide) rfl (fun ls hl => ?_)
    refine lv_iinc (v := (v2.2.1 + 1)) (lv' := [(3, .int (v2.2.1 + 1)), (1, .long x6), (0, .ref (h b0))]) hx hb dX8_digest_32 hl (k := 2) rfl rfl (by decide) rfl (fun ls hl => ?_)
    refine lv_goto (tgt := 16) hx hb dX8_digest_35 (by decide) ?_
    exact hbackv2 _ (Option.some.inj hf).symm _ _ hG ls (lv_sub hl [2, 1, 0] rfl)
