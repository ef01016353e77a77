set_option maxHeartbeats 4000000 in
set_option maxRecDepth 100000 in
theorem c_X2_isFull {l : Launch} {E : gEnv} (h : Nat → Nat) (b0 : Nat) (w0 : T2) {o : Int32} (hf : f_X2_isFull w0 = some o) : gR l yX2_isFull cX2_isFull 1 (some .boolean) rX2_isFull E [.ref (h b0)] [C2 E h b0 w0] (some (.int o)) := by
  refine gR.of (by decide +kernel) (Nat.le_of_ble_eq_true rfl) ?_
  intro p e s m below meth c F hr hlk hK hX hP ls hl
  have F : gF p m c cX2_isFull 1 s ([.ref (h b0)] : List Value).toArray RX2 := F
  generalize ([.ref (h b0)] : List Value).toArray = args at F ⊢
  generalize hQ : MQ below _ _ _ _ _ _ = Q
  have hl : lv_has ls 1 [(0, .ref (h b0))] := hl
  have hx := F.1
  have hb := F.2.1
  unfold f_X2_isFull at hf
  refine lv_aload_n hx hb dX2_isFull_0 rfl (lv_at hl 0 rfl) ?_
  refine g_get F hK hP 0 0 1 flX2_15 rfl rfl rfl dX2_isFull_1 ?_
  refine lv_sipush (v := 150) hx hb dX2_isFull_4 (by decide) ?_
  refine lv_icmp_lt (tgt := 14) hx hb dX2_isFull_7 (by decide) (fun c1 => ?_) (fun c1 => ?_)
  · have hf := g_it c1 hf
    refine lv_iconst (v := 0) hx hb dX2_isFull_14 (by decide) ?_
    have ho := Option.some.inj hf
    rw [← hQ, ← ho]
    exact g_retZ F hr hlk narrow_b0 dX2_isFull_15
  · have hf := g_if c1 hf
    refine lv_iconst (v := 1) hx hb dX2_isFull_10 (by decide) ?_
    refine lv_goto (tgt := 15) hx hb dX2_isFull_11 (by decide) ?_
    have ho := Option.some.inj hf
    rw [← hQ, ← ho]
    exact g_retZ F hr hlk narrow_b1 dX2_isFull_15
set_option maxHeartbeats 4000000 in
set_option maxRecDepth 100000 in
theorem c_X2_addByte {l : Launch} {E : gEnv} (h : Nat → Nat) (b0 : Nat) (w0 : T2) (a1 : Int32) {o : T2} (hf : f_X2_addByte w0 a1 = some o) : gM l yX2_addByte cX2_addByte 2 none rX2_addByte E [.ref (h b0), .int a1] [C2 E h b0 w0] (none) [C2 E h b0 o] := by
  refine gM.of (by decide +kernel) (Nat.le_of_ble_eq_true rfl) rfl ?_
  intro p e s m below meth c F hr hlk hK hX hAB ls hl H locs hG
  have F : gF p m c cX2_addByte 2 s ([.ref (h b0), .int a1] : List Value).toArray RX2 := F
  generalize ([.ref (h b0), .int a1] : List Value).toArray = args at F ⊢
  generalize hQ : MQ below _ _ _ _ _ _ = Q
  generalize hA : gAd [C2 E h b0 w0] = A at hAB hG
  have hl : lv_has ls 2 [(0, .ref (h b0)), (1, .int a1)] := hl
  have hx := F.1
  have hb := F.2.1
  unfold f_X2_addByte at hf
  refine lv_aload_n hx hb dX2_addByte_0 rfl (lv_at hl 0 rfl) ?_
  obtain ⟨x1, hx1, hf⟩ := g_bnd hf
  refine g_rv (As := []) (rest := []) F hK (hG.X hX hAB) hG.1 [0] rfl (c_X2_isFull h b0 w0 hx1) (kX2_19 F.2.2.2.2 ⟨Nat.le_of_ble_eq_true rfl, Nat.le_of_ble_eq_true rfl⟩) rfl rfl rfl rfl hl.1 rfl (lv_room (Nat.le_of_ble_eq_true rfl)) ⟨Nat.zero_le _, Nat.zero_le _⟩ dX2_addByte_1 ?_
  refine lv_if_ne (tgt := 27) hx hb dX2_addByte_4 (by decide) (fun c2 => ?_) (fun c2 => ?_)
  · have hf := g_if c2 hf
    have ho := Option.some.inj hf
    subst hA
    rw [← hQ, ← ho]
    exact g_mretV F hr hlk hG dX2_addByte_27
  · have hf := g_it c2 hf
    refine lv_aload_n hx hb dX2_addByte_7 rfl (lv_at hl 0 rfl) ?_
    refine g_get F hK hG.1 0 0 0 flX2_9 rfl rfl rfl dX2_addByte_8 ?_
    refine lv_aload_n hx hb dX2_addByte_11 rfl (lv_at hl 0 rfl) ?_
    refine g_get F hK hG.1 0 0 1 flX2_15 rfl rfl rfl dX2_addByte_12 ?_
    refine lv_iload_n hx hb dX2_addByte_15 rfl (lv_at hl 1 rfl) ?_
    obtain ⟨x3, hx3, hf⟩ := g_bnd hf
    refine g_iast F hK hG 0 1 rfl rfl hx3 dX2_addByte_16 (fun H locs hG => ?_)
    have hG : gS E A s.heap [C2 E h b0 (x3, w0.2.1, w0.2.2)] H locs := hG
    refine lv_aload_n hx hb dX2_addByte_17 rfl (lv_at hl 0 rfl) ?_
    refine lv_dup hx hb dX2_addByte_18 rfl ?_
    refine g_get F hK hG.1 0 0 1 flX2_15 rfl rfl rfl dX2_addByte_19 ?_
    refine lv_iconst (v := 1) hx hb dX2_addByte_22 (by decide) ?_
    refine lv_iadd hx hb dX2_addByte_23 ?_
    refine g_put F hK hG 0 0 1 pfX2_15 rfl rfl (Nat.le_of_ble_eq_true rfl) rfl rfl dX2_addByte_24 (fun H locs hG => ?_)
    have hG : gS E A s.heap [C2 E h b0 (x3, (w0.2.1 + 1), w0.2.2)] H locs := hG
    have ho := Option.some.inj hf
    subst hA
    rw [← hQ, ← ho]
    exact g_mretV F hr hlk hG dX2_addByte_27
set_option maxHeartbeats 4000000 in
set_option maxRecDepth 100000 in
theorem c_X2_byteHere {l : Launch} {E : gEnv} (h : Nat → Nat) (b0 : Nat) (w0 : T2) {o : Int32} (hf : f_X2_byteHere w0 = some o) : gR l yX2_byteHere cX2_byteHere 1 (some .int) rX2_byteHere E [.ref (h b0)] [C2 E h b0 w0] (some (.int o)) := by
  refine gR.of (by decide +kernel) (Nat.le_of_ble_eq_true rfl) ?_
  intro p e s m below meth c F hr hlk hK hX hP ls hl
  have F : gF p m c cX2_byteHere 1 s ([.ref (h b0)] : List Value).toArray RX2 := F
  generalize ([.ref (h b0)] : List Value).toArray = args at F ⊢
  generalize hQ : MQ below _ _ _ _ _ _ = Q
  have hl : lv_has ls 1 [(0, .ref (h b0))] := hl
  have hx := F.1
  have hb := F.2.1
  unfold f_X2_byteHere at hf
  refine lv_aload_n hx hb dX2_byteHere_0 rfl (lv_at hl 0 rfl) ?_
  refine g_get F hK hP 0 0 2 flX2_28 rfl rfl rfl dX2_byteHere_1 ?_
  refine lv_if_lt (tgt := 40) hx hb dX2_byteHere_4 (by decide) (fun c1 => ?_) (fun c1 => ?_)
  · have hf := g_it c1 hf
    refine lv_iconst (v := (-1)) hx hb dX2_byteHere_40 (by decide) ?_
    have ho := Option.some.inj hf
    rw [← hQ, ← ho]
    exact g_retI F hr hlk dX2_byteHere_41
  · have hf := g_if c1 hf
    refine lv_aload_n hx hb dX2_byteHere_7 rfl (lv_at hl 0 rfl) ?_
    refine g_get F hK hP 0 0 2 flX2_28 rfl rfl rfl dX2_byteHere_8 ?_
    refine lv_aload_n hx hb dX2_byteHere_11 rfl (lv_at hl 0 rfl) ?_
    refine g_get F hK hP 0 0 1 flX2_15 rfl rfl rfl dX2_byteHere_12 ?_
    refine lv_icmp_ge (tgt := 40) hx hb dX2_byteHere_15 (by decide) (fun c2 => ?_) (fun c2 => ?_)
    · have hf := g_it c2 hf
      refine lv_iconst (v := (-1)) hx hb dX2_byteHere_40 (by decide) ?_
      have ho := Option.some.inj hf
      rw [← hQ, ← ho]
      exact g_retI F hr hlk dX2_byteHere_41
    · have hf := g_if c2 hf
      refine lv_aload_n hx hb dX2_byteHere_18 rfl (lv_at hl 0 rfl) ?_
      refine g_get F hK hP 0 0 2 flX2_28 rfl rfl rfl dX2_byteHere_19 ?_
      refine lv_sipush (v := 150) hx hb dX2_byteHere_22 (by decide) ?_
      refine lv_icmp_ge (tgt := 40) hx hb dX2_byteHere_25 (by decide) (fun c3 => ?_) (fun c3 => ?_)
      · have hf := g_it c3 hf
        refine lv_iconst (v := (-1)) hx hb dX2_byteHere_40 (by decide) ?_
        have ho := Option.some.inj hf
        rw [← hQ, ← ho]
        exact g_retI F hr hlk dX2_byteHere_41
      · have hf := g_if c3 hf
        refine lv_aload_n hx hb dX2_byteHere_28 rfl (lv_at hl 0 rfl) ?_
        refine g_get F hK hP 0 0 0 flX2_9 rfl rfl rfl dX2_byteHere_29 ?_
        refine lv_aload_n hx hb dX2_byteHere_32 rfl (lv_at hl 0 rfl) ?_
        refine g_get F hK hP 0 0 2 flX2_28 rfl rfl rfl dX2_byteHere_33 ?_
        obtain ⟨x4, hx4, hf⟩ := g_bnd hf
        refine g_iald F hK hP 0 1 rfl rfl hx4 dX2_byteHere_36 ?_
        refine lv_goto (tgt := 41) hx hb dX2_byteHere_37 (by decide) ?_
        have ho := Option.some.inj hf
        rw [← hQ, ← ho]
        exact g_retI F hr hlk dX2_byteHere_41
set_option maxHeartbeats 4000000 in
set_option maxRecDepth 100000 in
theorem c_X2_isHere {l : Launch} {E : gEnv} (h : Nat → Nat) (b0 : Nat) (w0 : T2) (a1 : Int32) (a2 : Int32) {o : Int32} (hf : f_X2_isHere w0 a1 a2 = some o) : gR l yX2_isHere cX2_isHere 4 (some .boolean) rX2_isHere E [.ref (h b0), .int a1, .int a2] [C2 E h b0 w0] (some (.int o)) := by
  refine gR.of (by decide +kernel) (Nat.le_of_ble_eq_true rfl) ?_
  intro p e s m below meth c F hr hlk hK hX hP ls hl
  have F : gF p m c cX2_isHere 4 s ([.ref (h b0), .int a1, .int a2] : List Value).toArray RX2 := F
  generalize ([.ref (h b0), .int a1, .int a2] : List Value).toArray = args at F ⊢
  generalize hQ : MQ below _ _ _ _ _ _ = Q
  have hl : lv_has ls 4 [(0, .ref (h b0)), (1, .int a1), (2, .int a2)] := hl
  have hx := F.1
  have hb := F.2.1
  unfold f_X2_isHere at hf
  refine lv_aload_n hx hb dX2_isHere_0 rfl (lv_at hl 0 rfl) ?_
  obtain ⟨x1, hx1, hf⟩ := g_bnd hf
  refine g_rv (As := []) (rest := []) F hK hX hP [0] rfl (c_X2_byteHere h b0 w0 hx1) (kX2_42 F.2.2.2.2 ⟨Nat.le_of_ble_eq_true rfl, Nat.le_of_ble_eq_true rfl⟩) rfl rfl rfl rfl hl.1 rfl (lv_room (Nat.le_of_ble_eq_true rfl)) ⟨Nat.zero_le _, Nat.zero_le _⟩ dX2_isHere_1 ?_
  refine lv_istore_n (lv' := [(3, .int x1), (0, .ref (h b0)), (1, .int a1), (2, .int a2)]) hx hb dX2_isHere_4 rfl hl (by decide) rfl (fun ls hl => ?_)
  refine lv_iload_n hx hb dX2_isHere_5 rfl (lv_at hl 0 rfl) ?_
  refine lv_iload_n hx hb dX2_isHere_6 rfl (lv_at hl 2 rfl) ?_
  refine lv_icmp_lt (tgt := 19) hx hb dX2_isHere_7 (by decide) (fun c2 => ?_) (fun c2 => ?_)
  · have hf := g_it c2 hf
    refine lv_iconst (v := 0) hx hb dX2_isHere_19 (by decide) ?_
    have ho := Option.some.inj hf
    rw [← hQ, ← ho]
    exact g_retZ F hr hlk narrow_b0 dX2_isHere_20
  · have hf := g_if c2 hf
    refine lv_iload_n hx hb dX2_isHere_10 rfl (lv_at hl 0 rfl) ?_
    refine lv_iload_n hx hb dX2_isHere_11 rfl (lv_at hl 3 rfl) ?_
    refine lv_icmp_gt (tgt := 19) hx hb dX2_isHere_12 (by decide) (fun c3 => ?_) (fun c3 => ?_)
    · have hf := g_it c3 hf
      refine lv_iconst (v := 0) hx hb dX2_isHere_19 (by decide) ?_
      have ho := Option.some.inj hf
      rw [← hQ, ← ho]
      exact g_retZ F hr hlk narrow_b0 dX2_isHere_20
    · have hf := g_if c3 hf
      refine lv_iconst (v := 1) hx hb dX2_isHere_15 (by decide) ?_
      refine lv_goto (tgt := 20) hx hb dX2_isHere_16 (by decide) ?_
      have ho := Option.some.inj hf
      rw [← hQ, ← ho]
      exact g_retZ F hr hlk narrow_b1 dX2_isHere_20
set_option maxHeartbeats 4000000 in
set_option maxRecDepth 100000 in
theorem c_X2_readWord {l : Launch} {E : gEnv} (h : Nat → Nat) (b0 : Nat) (w0 : T2) {o : Int64 × T2} (hf : f_X2_readWord w0 = some o) : gM l yX2_readWord cX2_readWord 4 (some .long) rX2_readWord E [.ref (h b0)] [C2 E h b0 w0] (some (.long o.1)) [C2 E h b0 o.2] := by
  refine gM.of (by decide +kernel) (Nat.le_of_ble_eq_true rfl) rfl ?_
  intro p e s m below meth c F hr hlk hK hX hAB ls hl H locs hG
  have F : gF p m c cX2_readWord 4 s ([.ref (h b0)] : List Value).toArray RX2 := F
  generalize ([.ref (h b0)] : List Value).toArray = args at F ⊢
  generalize hQ : MQ below _ _ _ _ _ _ = Q
  generalize hA : gAd [C2 E h b0 w0] = A at hAB hG
  have hl : lv_has ls 4 [(0, .ref (h b0))] := hl
  have hx := F.1
  have hb := F.2.1
  unfold f_X2_readWord at hf
  refine lv_lconst (v := 0) hx hb dX2_readWord_0 rfl ?_
  refine lv_lstore_n (lv' := [(1, .long 0), (0, .ref (h b0))]) hx hb dX2_readWord_1 rfl hl (by decide) rfl (fun ls hl => ?_)
  refine lv_iconst (v := 0) hx hb dX2_readWord_2 (by decide) ?_
  refine lv_istore_n (lv' := [(3, .int 0), (1, .long 0), (0, .ref (h b0))]) hx hb dX2_readWord_3 rfl hl (by decide) rfl (fun ls hl => ?_)
  refine lp_rule (fun (v1 : Int64 × Int32 × T2) => ∀ (H : Heap) (locs : List Loc), gS E A s.heap [C2 E h b0 v1.2.2] H locs → ∀ ls : Array Slot, lv_has ls 4 [(0, .ref (h b0)), (1, .long v1.1), (3, .int v1.2.1)] → W p l e rX2_readWord s m args below meth c H locs 0 0 Q (F0 m 4 ls [])) ?_ _ _ hf _ _ hG ls (lv_sub hl [2, 1, 0] rfl)
  intro v1 y hf hbackv1 hexitv1 H locs hG ls hl
  refine lv_iload_n hx hb dX2_readWord_4 rfl (lv_at hl 2 rfl) ?_
  refine lv_bipush (v := 10) hx hb dX2_readWord_5 (by decide) ?_
  refine lv_icmp_ge (tgt := 53) hx hb dX2_readWord_7 (by decide) (fun c3 => ?_) (fun c3 => ?_)
  · have hf := g_it c3 hf
    refine lv_lload_n hx hb dX2_readWord_53 rfl (lv_at hl 1 rfl) ?_
    have ho := hexitv1 _ (Option.some.inj hf).symm
    subst hA
    rw [← hQ, ← ho]
    exact g_mretL F hr hlk hG dX2_readWord_54
  · have hf := g_if c3 hf
    refine lv_aload_n hx hb dX2_readWord_10 rfl (lv_at hl 0 rfl) ?_
    refine lv_bipush (v := 97) hx hb dX2_readWord_11 (by decide) ?_
    refine lv_bipush (v := 122) hx hb dX2_readWord_13 (by decide) ?_
    obtain ⟨x4, hx4, hf⟩ := g_bnd hf
    refine g_rv (As := [.int 97, .int 122]) (rest := []) F hK (hG.X hX hAB) hG.1 [0] rfl (c_X2_isHere h b0 v1.2.2 97 122 hx4) (kX2_57 F.2.2.2.2 ⟨Nat.le_of_ble_eq_true rfl, Nat.le_of_ble_eq_true rfl⟩) rfl rfl rfl rfl hl.1 rfl (lv_room (Nat.le_of_ble_eq_true rfl)) ⟨Nat.zero_le _, Nat.zero_le _⟩ dX2_readWord_15 ?_
    refine lv_if_eq (tgt := 53) hx hb dX2_readWord_18 (by decide) (fun c5 => ?_) (fun c5 => ?_)
    · have hf := g_it c5 hf
      refine lv_lload_n hx hb dX2_readWord_53 rfl (lv_at hl 1 rfl) ?_
      have ho := hexitv1 _ (Option.some.inj hf).symm
      subst hA
      rw [← hQ, ← ho]
      exact g_mretL F hr hlk hG dX2_readWord_54
    · have hf := g_if c5 hf
      refine lv_lload_n hx hb dX2_readWord_21 rfl (lv_at hl 1 rfl) ?_
      refine lv_iload_n hx hb dX2_readWord_22 rfl (lv_at hl 2 rfl) ?_
      refine lv_aload_n hx hb dX2_readWord_23 rfl (lv_at hl 0 rfl) ?_
      obtain ⟨x6, hx6, hf⟩ := g_bnd hf
      refine g_rv (As := []) (rest := [.int v1.2.1, .long v1.1]) F hK (hG.X hX hAB) hG.1 [0] rfl (c_X2_byteHere h b0 v1.2.2 hx6) (kX2_42 F.2.2.2.2 ⟨Nat.le_of_ble_eq_true rfl, Nat.le_of_ble_eq_true rfl⟩) rfl rfl rfl rfl hl.1 rfl (lv_room (Nat.le_of_ble_eq_true rfl)) ⟨Nat.zero_le _, Nat.zero_le _⟩ dX2_readWord_24 ?_
      refine lv_bipush (v := 97) hx hb dX2_readWord_27 (by decide) ?_
      refine lv_isub hx hb dX2_readWord_29 ?_
      obtain ⟨x7, hx7, hf⟩ := g_bnd hf
      refine g_rs (As := [.int (x6 - 97)]) (rest := [.int v1.2.1, .long v1.1]) F hK (hG.X hX hAB) hG.1 [] rfl (c_X4_codeOfLetter h (x6 - 97) hx7) (kX2_61 F.2.2.2.2 ⟨Nat.le_of_ble_eq_true rfl, Nat.le_of_ble_eq_true rfl⟩) rfl hl.1 rfl (lv_room (Nat.le_of_ble_eq_true rfl)) ⟨Nat.zero_le _, Nat.zero_le _⟩ dX2_readWord_30 ?_
      obtain ⟨x8, hx8, hf⟩ := g_bnd hf
      refine g_rs (As := [.long v1.1, .int v1.2.1, .int x7]) (rest := []) F hK (hG.X hX hAB) hG.1 [] rfl (c_X4_with h v1.1 v1.2.1 x7 hx8) (kX2_65 F.2.2.2.2 ⟨Nat.le_of_ble_eq_true rfl, Nat.le_of_ble_eq_true rfl⟩) rfl hl.1 rfl (lv_room (Nat.le_of_ble_eq_true rfl)) ⟨Nat.zero_le _, Nat.zero_le _⟩ dX2_readWord_33 ?_
      refine lv_lstore_n (lv' := [(1, .long x8), (0, .ref (h b0)), (3, .int v1.2.1)]) hx hb dX2_readWord_36 rfl hl (by decide) rfl (fun ls hl => ?_)
      refine lv_aload_n hx hb dX2_readWord_37 rfl (lv_at hl 1 rfl) ?_
      refine lv_dup hx hb dX2_readWord_38 rfl ?_
      refine g_get F hK hG.1 0 0 2 flX2_28 rfl rfl rfl dX2_readWord_39 ?_
      refine lv_iconst (v := 1) hx hb dX2_readWord_42 (by decide) ?_
      refine lv_iadd hx hb dX2_readWord_43 ?_
      refine g_put F hK hG 0 0 2 pfX2_28 rfl rfl (Nat.le_of_ble_eq_true rfl) rfl rfl dX2_readWord_44 (fun H locs hG => ?_)
      have hG : gS E A s.heap [C2 E h b0 (v1.2.2.1, v1.2.2.2.1, (v1.2.2.2.2 + 1))] H locs := hG
      refine lv_iinc (v := (v1.2.1 + 1)) (lv' := [(3, .int (v1.2.1 + 1)), (1, .long x8), (0, .ref (h b0))]) hx hb dX2_readWord_47 hl (k := 2) rfl rfl (by decide) rfl (fun ls hl => ?_)
      refine lv_goto (tgt := 4) hx hb dX2_readWord_50 (by decide) ?_
      exact hbackv1 _ (Option.some.inj hf).symm _ _ hG ls (lv_sub hl [2, 1, 0] rfl)
set_option maxHeartbeats 4000000 in
set_option maxRecDepth 100000 in
theorem c_X2_readCount {l : Launch} {E : gEnv} (h : Nat → Nat) (b0 : Nat) (w0 : T2) {o : Int32 × T2} (hf : f_X2_readCount w0 = some o) : gM l yX2_readCount cX2_readCount 3 (some .int) rX2_readCount E [.ref (h b0)] [C2 E h b0 w0] (some (.int o.1)) [C2 E h b0 o.2] := by
  refine gM.of (by decide +kernel) (Nat.le_of_ble_eq_true rfl) rfl ?_
  intro p e s m below meth c F hr hlk hK hX hAB ls hl H locs hG
  have F : gF p m c cX2_readCount 3 s ([.ref (h b0)] : List Value).toArray RX2 := F
  generalize ([.ref (h b0)] : List Value).toArray = args at F ⊢
  generalize hQ : MQ below _ _ _ _ _ _ = Q
  generalize hA : gAd [C2 E h b0 w0] = A at hAB hG
  have hl : lv_has ls 3 [(0, .ref (h b0))] := hl
  have hx := F.1
  have hb := F.2.1
  unfold f_X2_readCount at hf
  refine lv_aload_n hx hb dX2_readCount_0 rfl (lv_at hl 0 rfl) ?_
  refine lv_bipush (v := 48) hx hb dX2_readCount_1 (by decide) ?_
  refine lv_bipush (v := 57) hx hb dX2_readCount_3 (by decide) ?_
  obtain ⟨x1, hx1, hf⟩ := g_bnd hf
  refine g_rv (As := [.int 48, .int 57]) (rest := []) F hK (hG.X hX hAB) hG.1 [0] rfl (c_X2_isHere h b0 w0 48 57 hx1) (kX2_57 F.2.2.2.2 ⟨Nat.le_of_ble_eq_true rfl, Nat.le_of_ble_eq_true rfl⟩) rfl rfl rfl rfl hl.1 rfl (lv_room (Nat.le_of_ble_eq_true rfl)) ⟨Nat.zero_le _, Nat.zero_le _⟩ dX2_readCount_5 ?_
  refine lv_if_ne (tgt := 13) hx hb dX2_readCount_8 (by decide) (fun c2 => ?_) (fun c2 => ?_)
  · have hf := g_if c2 hf
    refine lv_iconst (v := 0) hx hb dX2_readCount_13 (by decide) ?_
    refine lv_istore_n (lv' := [(1, .int 0), (0, .ref (h b0))]) hx hb dX2_readCount_14 rfl hl (by decide) rfl (fun ls hl => ?_)
    refine lv_iconst (v := 0) hx hb dX2_readCount_15 (by decide) ?_
    refine lv_istore_n (lv' := [(2, .int 0), (1, .int 0), (0, .ref (h b0))]) hx hb dX2_readCount_16 rfl hl (by decide) rfl (fun ls hl => ?_)
    refine lp_rule (fun (v3 : Int32 × Int32 × T2) => ∀ (H : Heap) (locs : List Loc), gS E A s.heap [C2 E h b0 v3.2.2] H locs → ∀ ls : Array Slot, lv_has ls 3 [(0, .ref (h b0)), (1, .int v3.1), (2, .int v3.2.1)] → W p l e rX2_readCount s m args below meth c H locs 0 0 Q (F0 m 17 ls [])) ?_ _ _ hf _ _ hG ls (lv_sub hl [2, 1, 0] rfl)
    intro v3 y hf hbackv3 hexitv3 H locs hG ls hl
    refine lv_iload_n hx hb dX2_readCount_17 rfl (lv_at hl 2 rfl) ?_
    refine lv_iconst (v := 3) hx hb dX2_readCount_18 (by decide) ?_
    refine lv_icmp_ge (tgt := 62) hx hb dX2_readCount_19 (by decide) (fun c5 => ?_) (fun c5 => ?_)
    · have hf := g_it c5 hf
      refine lv_iload_n hx hb dX2_readCount_62 rfl (lv_at hl 1 rfl) ?_
      have ho := hexitv3 _ (Option.some.inj hf).symm
      subst hA
      rw [← hQ, ← ho]
      exact g_mretI F hr hlk hG dX2_readCount_63
    · have hf := g_if c5 hf
      refine lv_aload_n hx hb dX2_readCount_22 rfl (lv_at hl 0 rfl) ?_
      refine lv_bipush (v := 48) hx hb dX2_readCount_23 (by decide) ?_
      refine lv_bipush (v := 57) hx hb dX2_readCount_25 (by decide) ?_
      obtain ⟨x6, hx6, hf⟩ := g_bnd hf
      refine g_rv (As := [.int 48, .int 57]) (rest := []) F hK (hG.X hX hAB) hG.1 [0] rfl (c_X2_isHere h b0 v3.2.2 48 57 hx6) (kX2_57 F.2.2.2.2 ⟨Nat.le_of_ble_eq_true rfl, Nat.le_of_ble_eq_true rfl⟩) rfl rfl rfl rfl hl.1 rfl (lv_room (Nat.le_of_ble_eq_true rfl)) ⟨Nat.zero_le _, Nat.zero_le _⟩ dX2_readCount_27 ?_
      refine lv_if_eq (tgt := 62) hx hb dX2_readCount_30 (by decide) (fun c7 => ?_) (fun c7 => ?_)
      · have hf := g_it c7 hf
        refine lv_iload_n hx hb dX2_readCount_62 rfl (lv_at hl 1 rfl) ?_
        have ho := hexitv3 _ (Option.some.inj hf).symm
        subst hA
        rw [← hQ, ← ho]
        exact g_mretI F hr hlk hG dX2_readCount_63
      · have hf := g_if c7 hf
        refine lv_bipush (v := 10) hx hb dX2_readCount_33 (by decide) ?_
        refine lv_iload_n hx hb dX2_readCount_35 rfl (lv_at hl 1 rfl) ?_
        refine lv_imul hx hb dX2_readCount_36 ?_
        refine lv_aload_n hx hb dX2_readCount_37 rfl (lv_at hl 0 rfl) ?_
        obtain ⟨x8, hx8, hf⟩ := g_bnd hf
        refine g_rv (As := []) (rest := [.int (10 * v3.1)]) F hK (hG.X hX hAB) hG.1 [0] rfl (c_X2_byteHere h b0 v3.2.2 hx8) (kX2_42 F.2.2.2.2 ⟨Nat.le_of_ble_eq_true rfl, Nat.le_of_ble_eq_true rfl⟩) rfl rfl rfl rfl hl.1 rfl (lv_room (Nat.le_of_ble_eq_true rfl)) ⟨Nat.zero_le _, Nat.zero_le _⟩ dX2_readCount_38 ?_
        refine lv_iadd hx hb dX2_readCount_41 ?_
        refine lv_bipush (v := 48) hx hb dX2_readCount_42 (by decide) ?_
        refine lv_isub hx hb dX2_readCount_44 ?_
        refine lv_istore_n (lv' := [(1, .int (((10 * v3.1) + x8) - 48)), (0, .ref (h b0)), (2, .int v3.2.1)]) hx hb dX2_readCount_45 rfl hl (by decide) rfl (fun ls hl => ?_)
        refine lv_aload_n hx hb dX2_readCount_46 rfl (lv_at hl 1 rfl) ?_
        refine lv_dup hx hb dX2_readCount_47 rfl ?_
        refine g_get F hK hG.1 0 0 2 flX2_28 rfl rfl rfl dX2_readCount_48 ?_
        refine lv_iconst (v := 1) hx hb dX2_readCount_51 (by decide) ?_
        refine lv_iadd hx hb dX2_readCount_52 ?_
        refine g_put F hK hG 0 0 2 pfX2_28 rfl rfl (Nat.le_of_ble_eq_true rfl) rfl rfl dX2_readCount_53 (fun H locs hG => ?_)
        have hG : gS E A s.heap [C2 E h b0 (v3.2.2.1, v3.2.2.2.1, (v3.2.2.2.2 + 1))] H locs := hG
        refine lv_iinc (v := (v3.2.1 + 1)) (lv' := [(2, .int (v3.2.1 + 1)), (1, .int (((10 * v3.1) + x8) - 48)), (0, .ref (h b0))]) hx hb dX2_readCount_56 hl (k := 2) rfl rfl (by decide) rfl (fun ls hl => ?_)
        refine lv_goto (tgt := 17) hx hb dX2_readCount_59 (by decide) ?_
        exact hbackv3 _ (Option.some.inj hf).symm _ _ hG ls (lv_sub hl [2, 1, 0] rfl)
  · have hf := g_it c2 hf
    refine lv_iconst (v := (-1)) hx hb dX2_readCount_11 (by decide) ?_
    have ho := Option.some.inj hf
    subst hA
    rw [← hQ, ← ho]
    exact g_mretI F hr hlk hG dX2_readCount_12
set_option maxHeartbeats 4000000 in
set_option maxRecDepth 100000 in
theorem c_X2_readItem {l : Launch} {E : gEnv} (h : Nat → Nat) (b0 : Nat) (w0 : T2) (b1 : Nat) (w1 : T6) {o : Int32 × T2 × T6} (hf : f_X2_readItem w0 w1 = some o) : gM l yX2_readItem cX2_readItem 6 (some .boolean) rX2_readItem E [.ref (h b0), .ref (h b1)] [C2 E h b0 w0, C6 E h b1 w1] (some (.int o.1)) [C2 E h b0 o.2.1, C6 E h b1 o.2.2] := by
  refine gM.of (by decide +kernel) (Nat.le_of_ble_eq_true rfl) rfl ?_
  intro p e s m below meth c F hr hlk hK hX hAB ls hl H locs hG
  have F : gF p m c cX2_readItem 6 s ([.ref (h b0), .ref (h b1)] : List Value).toArray RX2 := F
  generalize ([.ref (h b0), .ref (h b1)] : List Value).toArray = args at F ⊢
  generalize hQ : MQ below _ _ _ _ _ _ = Q
  generalize hA : gAd [C2 E h b0 w0, C6 E h b1 w1] = A at hAB hG
  have hl : lv_has ls 6 [(0, .ref (h b0)), (1, .ref (h b1))] := hl
  have hx := F.1
  have hb := F.2.1
  unfold f_X2_readItem at hf
  refine lv_aload_n hx hb dX2_readItem_0 rfl (lv_at hl 0 rfl) ?_
  refine g_get F hK hG.1 0 0 2 flX2_28 rfl rfl rfl dX2_readItem_1 ?_
  refine lv_istore_n (lv' := [(2, .int w0.2.2), (0, .ref (h b0)), (1, .ref (h b1))]) hx hb dX2_readItem_4 rfl hl (by decide) rfl (fun ls hl => ?_)
  refine lv_aload_n hx hb dX2_readItem_5 rfl (lv_at hl 2 rfl) ?_
  obtain ⟨x1, hx1, hf⟩ := g_bnd hf
  refine g_rv (As := []) (rest := []) F hK (hG.X hX hAB) hG.1 [1] rfl (c_X6_isFull h b1 w1 hx1) (kX2_35 F.2.2.2.2 ⟨Nat.le_of_ble_eq_true rfl, Nat.le_of_ble_eq_true rfl⟩) rfl rfl rfl rfl hl.1 rfl (lv_room (Nat.le_of_ble_eq_true rfl)) ⟨Nat.zero_le _, Nat.zero_le _⟩ dX2_readItem_6 ?_
  refine lv_if_eq (tgt := 14) hx hb dX2_readItem_9 (by decide) (fun c2 => ?_) (fun c2 => ?_)
  · have hf := g_it c2 hf
    refine lv_aload_n hx hb dX2_readItem_14 rfl (lv_at hl 1 rfl) ?_
    obtain ⟨x3, hx3, hf⟩ := g_bnd hf
    refine g_mv (S' := [C2 E h b0 x3.2, C6 E h b1 w1]) (As := []) (rest := []) F hK hX hAB hG [0] rfl rfl (c_X2_readWord h b0 w0 hx3) rfl (kX2_36 F.2.2.2.2 ⟨Nat.le_of_ble_eq_true rfl, Nat.le_of_ble_eq_true rfl⟩) rfl rfl rfl rfl hl.1 rfl (lv_room (Nat.le_of_ble_eq_true rfl)) ⟨Nat.zero_le _, Nat.zero_le _⟩ dX2_readItem_15 (fun H locs hG => ?_)
    refine lv_lstore_n (lv' := [(3, .long x3.1), (2, .int w0.2.2), (0, .ref (h b0)), (1, .ref (h b1))]) hx hb dX2_readItem_18 rfl hl (by decide) rfl (fun ls hl => ?_)
    refine lv_lload_n hx hb dX2_readItem_19 rfl (lv_at hl 0 rfl) ?_
    refine lv_lconst (v := 0) hx hb dX2_readItem_20 rfl ?_
    refine g_lc_eq (tgt := 34) hx hb dX2_readItem_21 dX2_readItem_22 (by decide) (fun c4 => ?_) (fun c4 => ?_)
    · have hf := g_it c4 hf
      refine lv_iconst (v := 0) hx hb dX2_readItem_34 (by decide) ?_
      have ho := Option.some.inj hf
      subst hA
      rw [← hQ, ← ho]
      exact g_mretZ F hr hlk hG narrow_b0 dX2_readItem_35
    · have hf := g_if c4 hf
      refine lv_aload_n hx hb dX2_readItem_25 rfl (lv_at hl 2 rfl) ?_
      obtain ⟨x5, hx5, hf⟩ := g_bnd hf
      refine g_rv (As := []) (rest := []) F hK (hG.X hX hAB) hG.1 [0] rfl (c_X2_byteHere h b0 x3.2 hx5) (kX2_42 F.2.2.2.2 ⟨Nat.le_of_ble_eq_true rfl, Nat.le_of_ble_eq_true rfl⟩) rfl rfl rfl rfl hl.1 rfl (lv_room (Nat.le_of_ble_eq_true rfl)) ⟨Nat.zero_le _, Nat.zero_le _⟩ dX2_readItem_26 ?_
      refine lv_bipush (v := 44) hx hb dX2_readItem_29 (by decide) ?_
      refine lv_icmp_eq (tgt := 36) hx hb dX2_readItem_31 (by decide) (fun c6 => ?_) (fun c6 => ?_)
      · have hf := g_it c6 hf
        refine lv_aload_n hx hb dX2_readItem_36 rfl (lv_at hl 3 rfl) ?_
        refine lv_lload_n hx hb dX2_readItem_37 rfl (lv_at hl 0 rfl) ?_
        obtain ⟨x7, hx7, hf⟩ := g_bnd hf
        refine g_rv (As := [.long x3.1]) (rest := []) F hK (hG.X hX hAB) hG.1 [1] rfl (c_X6_find h b1 w1 x3.1 hx7) (kX2_46 F.2.2.2.2 ⟨Nat.le_of_ble_eq_true rfl, Nat.le_of_ble_eq_true rfl⟩) rfl rfl rfl rfl hl.1 rfl (lv_room (Nat.le_of_ble_eq_true rfl)) ⟨Nat.zero_le _, Nat.zero_le _⟩ dX2_readItem_38 ?_
        refine lv_iconst (v := (-1)) hx hb dX2_readItem_41 (by decide) ?_
        refine lv_icmp_eq (tgt := 52) hx hb dX2_readItem_42 (by decide) (fun c8 => ?_) (fun c8 => ?_)
        · have hf := g_it c8 hf
          refine lv_aload_n hx hb dX2_readItem_52 rfl (lv_at hl 2 rfl) ?_
          refine lv_dup hx hb dX2_readItem_53 rfl ?_
          refine g_get F hK hG.1 0 0 2 flX2_28 rfl rfl rfl dX2_readItem_54 ?_
          refine lv_iconst (v := 1) hx hb dX2_readItem_57 (by decide) ?_
          refine lv_iadd hx hb dX2_readItem_58 ?_
          refine g_put F hK hG 0 0 2 pfX2_28 rfl rfl (Nat.le_of_ble_eq_true rfl) rfl rfl dX2_readItem_59 (fun H locs hG => ?_)
          have hG : gS E A s.heap [C2 E h b0 (x3.2.1, x3.2.2.1, (x3.2.2.2 + 1)), C6 E h b1 w1] H locs := hG
          refine lv_aload_n hx hb dX2_readItem_62 rfl (lv_at hl 2 rfl) ?_
          obtain ⟨x9, hx9, hf⟩ := g_bnd hf
          refine g_mv (S' := [C2 E h b0 x9.2, C6 E h b1 w1]) (As := []) (rest := []) F hK hX hAB hG [0] rfl rfl (c_X2_readCount h b0 (x3.2.1, x3.2.2.1, (x3.2.2.2 + 1)) hx9) rfl (kX2_50 F.2.2.2.2 ⟨Nat.le_of_ble_eq_true rfl, Nat.le_of_ble_eq_true rfl⟩) rfl rfl rfl rfl hl.1 rfl (lv_room (Nat.le_of_ble_eq_true rfl)) ⟨Nat.zero_le _, Nat.zero_le _⟩ dX2_readItem_63 (fun H locs hG => ?_)
          refine lv_istore (lv' := [(5, .int x9.1), (3, .long x3.1), (2, .int w0.2.2), (0, .ref (h b0)), (1, .ref (h b1))]) hx hb dX2_readItem_66 hl (by decide) rfl (fun ls hl => ?_)
          refine lv_iload hx hb dX2_readItem_68 (lv_at hl 0 rfl) ?_
          refine lv_iconst (v := (-1)) hx hb dX2_readItem_70 (by decide) ?_
          refine lv_icmp_eq (tgt := 83) hx hb dX2_readItem_71 (by decide) (fun c10 => ?_) (fun c10 => ?_)
          · have hf := g_it c10 hf
            refine lv_iconst (v := 0) hx hb dX2_readItem_83 (by decide) ?_
            have ho := Option.some.inj hf
            subst hA
            rw [← hQ, ← ho]
            exact g_mretZ F hr hlk hG narrow_b0 dX2_readItem_84
          · have hf := g_if c10 hf
            refine lv_aload_n hx hb dX2_readItem_74 rfl (lv_at hl 3 rfl) ?_
            obtain ⟨x11, hx11, hf⟩ := g_bnd hf
            refine g_rv (As := []) (rest := []) F hK (hG.X hX hAB) hG.1 [0] rfl (c_X2_byteHere h b0 x9.2 hx11) (kX2_42 F.2.2.2.2 ⟨Nat.le_of_ble_eq_true rfl, Nat.le_of_ble_eq_true rfl⟩) rfl rfl rfl rfl hl.1 rfl (lv_room (Nat.le_of_ble_eq_true rfl)) ⟨Nat.zero_le _, Nat.zero_le _⟩ dX2_readItem_75 ?_
            refine lv_bipush (v := 59) hx hb dX2_readItem_78 (by decide) ?_
            refine lv_icmp_eq (tgt := 85) hx hb dX2_readItem_80 (by decide) (fun c12 => ?_) (fun c12 => ?_)
            · have hf := g_it c12 hf
              refine lv_aload_n hx hb dX2_readItem_85 rfl (lv_at hl 3 rfl) ?_
              refine lv_dup hx hb dX2_readItem_86 rfl ?_
              refine g_get F hK hG.1 0 0 2 flX2_28 rfl rfl rfl dX2_readItem_87 ?_
              refine lv_iconst (v := 1) hx hb dX2_readItem_90 (by decide) ?_
              refine lv_iadd hx hb dX2_readItem_91 ?_
              refine g_put F hK hG 0 0 2 pfX2_28 rfl rfl (Nat.le_of_ble_eq_true rfl) rfl rfl dX2_readItem_92 (fun H locs hG => ?_)
              have hG : gS E A s.heap [C2 E h b0 (x9.2.1, x9.2.2.1, (x9.2.2.2 + 1)), C6 E h b1 w1] H locs := hG
              refine lv_aload_n hx hb dX2_readItem_95 rfl (lv_at hl 4 rfl) ?_
              refine lv_lload_n hx hb dX2_readItem_96 rfl (lv_at hl 1 rfl) ?_
              refine lv_iload hx hb dX2_readItem_97 (lv_at hl 0 rfl) ?_
              refine lv_iconst (v := 0) hx hb dX2_readItem_99 (by decide) ?_
              refine lv_iconst (v := 0) hx hb dX2_readItem_100 (by decide) ?_
              obtain ⟨x13, hx13, hf⟩ := g_bnd hf
              refine g_mvv (S' := [C2 E h b0 (x9.2.1, x9.2.2.1, (x9.2.2.2 + 1)), C6 E h b1 x13]) (As := [.long x3.1, .int x9.1, .int 0, .int 0]) (rest := []) F hK hX hAB hG [1] rfl rfl (c_X6_insert h b1 w1 x3.1 x9.1 0 0 hx13) rfl (kX2_53 F.2.2.2.2 ⟨Nat.le_of_ble_eq_true rfl, Nat.le_of_ble_eq_true rfl⟩) rfl rfl rfl rfl hl.1 rfl (lv_room (Nat.le_of_ble_eq_true rfl)) ⟨Nat.zero_le _, Nat.zero_le _⟩ dX2_readItem_101 (fun H locs hG => ?_)
              refine lv_iconst (v := 1) hx hb dX2_readItem_104 (by decide) ?_
              have ho := Option.some.inj hf
              subst hA
              rw [← hQ, ← ho]
              exact g_mretZ F hr hlk hG narrow_b1 dX2_readItem_105
            · have hf := g_if c12 hf
              refine lv_iconst (v := 0) hx hb dX2_readItem_83 (by decide) ?_
              have ho := Option.some.inj hf
              subst hA
              rw [← hQ, ← ho]
              exact g_mretZ F hr hlk hG narrow_b0 dX2_readItem_84
        · have hf := g_if c8 hf
          refine lv_aload_n hx hb dX2_readItem_45 rfl (lv_at hl 2 rfl) ?_
          refine lv_iload_n hx hb dX2_readItem_46 rfl (lv_at hl 1 rfl) ?_
          refine g_put F hK hG 0 0 2 pfX2_28 rfl rfl (Nat.le_of_ble_eq_true rfl) rfl rfl dX2_readItem_47 (fun H locs hG => ?_)
          have hG : gS E A s.heap [C2 E h b0 (x3.2.1, x3.2.2.1, w0.2.2), C6 E h b1 w1] H locs := hG
          refine lv_iconst (v := 0) hx hb dX2_readItem_50 (by decide) ?_
          have ho := Option.some.inj hf
          subst hA
          rw [← hQ, ← ho]
          exact g_mretZ F hr hlk hG narrow_b0 dX2_readItem_51
      · have hf := g_if c6 hf
        refine lv_iconst (v := 0) hx hb dX2_readItem_34 (by decide) ?_
        have ho := Option.some.inj hf
        subst hA
        rw [← hQ, ← ho]
        exact g_mretZ F hr hlk hG narrow_b0 dX2_readItem_35
  · have hf := g_if c2 hf
    refine lv_iconst (v := 0) hx hb dX2_readItem_12 (by decide) ?_
    have ho := Option.some.inj hf
    subst hA
    rw [← hQ, ← ho]
    exact g_mretZ F hr hlk hG narrow_b0 dX2_readItem_13
set_option maxHeartbeats 4000000 in
set_option maxRecDepth 100000 in
theorem c_X2_readInto {l : Launch} {E : gEnv} (h : Nat → Nat) (b0 : Nat) (w0 : T2) (b1 : Nat) (w1 : T6) {o : Int32 × T2 × T6} (hf : f_X2_readInto w0 w1 = some o) : gM l yX2_readInto cX2_readInto 3 (some .int) rX2_readInto E [.ref (h b0), .ref (h b1)] [C2 E h b0 w0, C6 E h b1 w1] (some (.int o.1)) [C2 E h b0 o.2.1, C6 E h b1 o.2.2] := by
  refine gM.of (by decide +kernel) (Nat.le_of_ble_eq_true rfl) rfl ?_
  intro p e s m below meth c F hr hlk hK hX hAB ls hl H locs hG
  have F : gF p m c cX2_readInto 3 s ([.ref (h b0), .ref (h b1)] : List Value).toArray RX2 := F
  generalize ([.ref (h b0), .ref (h b1)] : List Value).toArray = args at F ⊢
  generalize hQ : MQ below _ _ _ _ _ _ = Q
  generalize hA : gAd [C2 E h b0 w0, C6 E h b1 w1] = A at hAB hG
  have hl : lv_has ls 3 [(0, .ref (h b0)), (1, .ref (h b1))] := hl
  have hx := F.1
  have hb := F.2.1
  unfold f_X2_readInto at hf
  refine lv_aload_n hx hb dX2_readInto_0 rfl (lv_at hl 1 rfl) ?_
  obtain ⟨x1, hx1, hf⟩ := g_bnd hf
  refine g_mvv (S' := [C2 E h b0 w0, C6 E h b1 x1]) (As := []) (rest := []) F hK hX hAB hG [1] rfl rfl (c_X6_clear h b1 w1 hx1) rfl (kX2_23 F.2.2.2.2 ⟨Nat.le_of_ble_eq_true rfl, Nat.le_of_ble_eq_true rfl⟩) rfl rfl rfl rfl hl.1 rfl (lv_room (Nat.le_of_ble_eq_true rfl)) ⟨Nat.zero_le _, Nat.zero_le _⟩ dX2_readInto_1 (fun H locs hG => ?_)
  refine lv_aload_n hx hb dX2_readInto_4 rfl (lv_at hl 0 rfl) ?_
  refine lv_iconst (v := 0) hx hb dX2_readInto_5 (by decide) ?_
  refine g_put F hK hG 0 0 2 pfX2_28 rfl rfl (Nat.le_of_ble_eq_true rfl) rfl rfl dX2_readInto_6 (fun H locs hG => ?_)
  have hG : gS E A s.heap [C2 E h b0 (w0.1, w0.2.1, 0), C6 E h b1 x1] H locs := hG
  refine lv_iconst (v := 0) hx hb dX2_readInto_9 (by decide) ?_
  refine lv_istore_n (lv' := [(2, .int 0), (0, .ref (h b0)), (1, .ref (h b1))]) hx hb dX2_readInto_10 rfl hl (by decide) rfl (fun ls hl => ?_)
  refine lp_rule (fun (v2 : Int32 × T2 × T6) => ∀ (H : Heap) (locs : List Loc), gS E A s.heap [C2 E h b0 v2.2.1, C6 E h b1 v2.2.2] H locs → ∀ ls : Array Slot, lv_has ls 3 [(0, .ref (h b0)), (1, .ref (h b1)), (2, .int v2.1)] → W p l e rX2_readInto s m args below meth c H locs 0 0 Q (F0 m 11 ls [])) ?_ _ _ hf _ _ hG ls (lv_sub hl [1, 2, 0] rfl)
  intro v2 y hf hbackv2 hexitv2 H locs hG ls hl
  refine lv_iload_n hx hb dX2_readInto_11 rfl (lv_at hl 2 rfl) ?_
  refine lv_bipush (v := 50) hx hb dX2_readInto_12 (by decide) ?_
  refine lv_icmp_gt (tgt := 47) hx hb dX2_readInto_14 (by decide) (fun c4 => ?_) (fun c4 => ?_)
  · have hf := g_it c4 hf
    refine lv_iconst (v := (-1)) hx hb dX2_readInto_47 (by decide) ?_
    have ho := hexitv2 _ (Option.some.inj hf).symm
    subst hA
    rw [← hQ, ← ho]
    exact g_mretI F hr hlk hG dX2_readInto_48
  · have hf := g_if c4 hf
    refine lv_aload_n hx hb dX2_readInto_17 rfl (lv_at hl 0 rfl) ?_
    refine g_get F hK hG.1 0 0 2 flX2_28 rfl rfl rfl dX2_readInto_18 ?_
    refine lv_aload_n hx hb dX2_readInto_21 rfl (lv_at hl 0 rfl) ?_
    refine g_get F hK hG.1 0 0 1 flX2_15 rfl rfl rfl dX2_readInto_22 ?_
    refine lv_icmp_ge (tgt := 47) hx hb dX2_readInto_25 (by decide) (fun c5 => ?_) (fun c5 => ?_)
    · have hf := g_it c5 hf
      refine lv_iconst (v := (-1)) hx hb dX2_readInto_47 (by decide) ?_
      have ho := hexitv2 _ (Option.some.inj hf).symm
      subst hA
      rw [← hQ, ← ho]
      exact g_mretI F hr hlk hG dX2_readInto_48
    · have hf := g_if c5 hf
      refine lv_aload_n hx hb dX2_readInto_28 rfl (lv_at hl 0 rfl) ?_
      refine lv_aload_n hx hb dX2_readInto_29 rfl (lv_at hl 1 rfl) ?_
      obtain ⟨x6, hx6, hf⟩ := g_bnd hf
      refine g_mv (S' := [C2 E h b0 x6.2.1, C6 E h b1 x6.2.2]) (As := [.ref (h b1)]) (rest := []) F hK hX hAB hG [0, 1] rfl rfl (c_X2_readItem h b0 v2.2.1 b1 v2.2.2 hx6) rfl (kX2_31 F.2.2.2.2 ⟨Nat.le_of_ble_eq_true rfl, Nat.le_of_ble_eq_true rfl⟩) rfl rfl rfl rfl hl.1 rfl (lv_room (Nat.le_of_ble_eq_true rfl)) ⟨Nat.zero_le _, Nat.zero_le _⟩ dX2_readInto_30 (fun H locs hG => ?_)
      refine lv_if_ne (tgt := 41) hx hb dX2_readInto_33 (by decide) (fun c7 => ?_) (fun c7 => ?_)
      · have hf := g_if c7 hf
        refine lv_iinc (v := (v2.1 + 1)) (lv' := [(2, .int (v2.1 + 1)), (0, .ref (h b0)), (1, .ref (h b1))]) hx hb dX2_readInto_41 hl (k := 2) rfl rfl (by decide) rfl (fun ls hl => ?_)
        refine lv_goto (tgt := 11) hx hb dX2_readInto_44 (by decide) ?_
        exact hbackv2 _ (Option.some.inj hf).symm _ _ hG ls (lv_sub hl [1, 2, 0] rfl)
      · have hf := g_it c7 hf
        refine lv_aload_n hx hb dX2_readInto_36 rfl (lv_at hl 0 rfl) ?_
        refine g_get F hK hG.1 0 0 2 flX2_28 rfl rfl rfl dX2_readInto_37 ?_
        have ho := hexitv2 _ (Option.some.inj hf).symm
        subst hA
        rw [← hQ, ← ho]
        exact g_mretI F hr hlk hG dX2_readInto_40
set_option maxHeartbeats 4000000 in
set_option maxRecDepth 100000 in
theorem c_X7_copyFrom {l : Launch} {E : gEnv} (h : Nat → Nat) (b0 : Nat) (w0 : T7) (b1 : Nat) (w1 : T7) {o : T7} (hf : f_X7_copyFrom w0 w1 = some o) : gM l yX7_copyFrom cX7_copyFrom 2 none rX7_copyFrom E [.ref (h b0), .ref (h b1)] [C7 E h b0 w0, C7 E h b1 w1] (none) [C7 E h b0 o, C7 E h b1 w1] := by
  refine gM.of (by decide +kernel) (Nat.le_of_ble_eq_true rfl) rfl ?_
  intro p e s m below meth c F hr hlk hK hX hAB ls hl H locs hG
  have F : gF p m c cX7_copyFrom 2 s ([.ref (h b0), .ref (h b1)] : List Value).toArray RX7 := F
  generalize ([.ref (h b0), .ref (h b1)] : List Value).toArray = args at F ⊢
  generalize hQ : MQ below _ _ _ _ _ _ = Q
  generalize hA : gAd [C7 E h b0 w0, C7 E h b1 w1] = A at hAB hG
  have hl : lv_has ls 2 [(0, .ref (h b0)), (1, .ref (h b1))] := hl
  have hx := F.1
  have hb := F.2.1
  unfold f_X7_copyFrom at hf
  refine lv_aload_n hx hb dX7_copyFrom_0 rfl (lv_at hl 1 rfl) ?_
  refine g_get F hK hG.1 1 0 0 flX7_9 rfl rfl rfl dX7_copyFrom_1 ?_
  refine lv_iconst (v := 0) hx hb dX7_copyFrom_4 (by decide) ?_
  refine lv_aload_n hx hb dX7_copyFrom_5 rfl (lv_at hl 0 rfl) ?_
  refine g_get F hK hG.1 0 0 0 flX7_9 rfl rfl rfl dX7_copyFrom_6 ?_
  refine lv_iconst (v := 0) hx hb dX7_copyFrom_9 (by decide) ?_
  refine lv_bipush (v := 30) hx hb dX7_copyFrom_10 (by decide) ?_
  obtain ⟨x1, hx1, hf⟩ := g_bnd hf
  refine g_copyl F hK hG 1 1 0 1 (F.2.2.2.2 _ gw_217) rfl rfl rfl rfl hx1 (F.2.2.1.trans hl.1.symm) (Nat.le_of_ble_eq_true rfl) (Nat.le_of_ble_eq_true rfl) dX7_copyFrom_12 (fun H locs hG => ?_)
  have hG : gS E A s.heap [C7 E h b0 (x1, w0.2), C7 E h b1 w1] H locs := hG
  refine lv_aload_n hx hb dX7_copyFrom_15 rfl (lv_at hl 0 rfl) ?_
  refine lv_aload_n hx hb dX7_copyFrom_16 rfl (lv_at hl 1 rfl) ?_
  refine g_get F hK hG.1 1 0 1 flX7_21 rfl rfl rfl dX7_copyFrom_17 ?_
  refine g_put F hK hG 0 0 1 pfX7_21 rfl rfl (Nat.le_of_ble_eq_true rfl) rfl rfl dX7_copyFrom_20 (fun H locs hG => ?_)
  have hG : gS E A s.heap [C7 E h b0 (x1, w1.2), C7 E h b1 w1] H locs := hG
  have ho := Option.some.inj hf
  subst hA
  rw [← hQ, ← ho]
  exact g_mretV F hr hlk hG dX7_copyFrom_23
set_option maxHeartbeats 4000000 in
set_option maxRecDepth 100000 in
theorem c_X5_copyFrom {l : Launch} {E : gEnv} (h : Nat → Nat) (b0 : Nat) (w0 : T5) (b1 : Nat) (w1 : T5) {o : T5s × T6 × T7} (hf : f_X5_copyFrom w0 w1 = some o) : gM l yX5_copyFrom cX5_copyFrom 2 none rX5_copyFrom E [.ref (h b0), .ref (h b1)] [C5 E h b0 w0.2.2, C6 E h (b0+1) w0.1, C7 E h (b0+7) w0.2.1, C5 E h b1 w1.2.2, C6 E h (b1+1) w1.1, C7 E h (b1+7) w1.2.1] (none) [C5 E h b0 o.1, C6 E h (b0+1) o.2.1, C7 E h (b0+7) o.2.2, C5 E h b1 w1.2.2, C6 E h (b1+1) w1.1, C7 E h (b1+7) w1.2.1] := by
  refine gM.of (by decide +kernel) (Nat.le_of_ble_eq_true rfl) rfl ?_
  intro p e s m below meth c F hr hlk hK hX hAB ls hl H locs hG
  have F : gF p m c cX5_copyFrom 2 s ([.ref (h b0), .ref (h b1)] : List Value).toArray RX5 := F
  generalize ([.ref (h b0), .ref (h b1)] : List Value).toArray = args at F ⊢
  generalize hQ : MQ below _ _ _ _ _ _ = Q
  generalize hA : gAd [C5 E h b0 w0.2.2, C6 E h (b0+1) w0.1, C7 E h (b0+7) w0.2.1, C5 E h b1 w1.2.2, C6 E h (b1+1) w1.1, C7 E h (b1+7) w1.2.1] = A at hAB hG
  have hl : lv_has ls 2 [(0, .ref (h b0)), (1, .ref (h b1))] := hl
  have hx := F.1
  have hb := F.2.1
  unfold f_X5_copyFrom at hf
  refine lv_aload_n hx hb dX5_copyFrom_0 rfl (lv_at hl 0 rfl) ?_
  refine g_get F hK hG.1 0 0 0 flX5_12 rfl rfl rfl dX5_copyFrom_1 ?_
  refine lv_aload_n hx hb dX5_copyFrom_4 rfl (lv_at hl 1 rfl) ?_
  refine g_get F hK hG.1 3 0 0 flX5_12 rfl rfl rfl dX5_copyFrom_5 ?_
  obtain ⟨x1, hx1, hf⟩ := g_bnd hf
  refine g_mvv (S' := [C5 E h b0 w0.2.2, C6 E h (b0+1) x1, C7 E h (b0+7) w0.2.1, C5 E h b1 w1.2.2, C6 E h (b1+1) w1.1, C7 E h (b1+7) w1.2.1]) (As := [.ref (h (b1+1))]) (rest := []) F hK hX hAB hG [1, 4] rfl rfl (c_X6_copyFrom h (b0+1) w0.1 (b1+1) w1.1 hx1) rfl (kX5_41 F.2.2.2.2 ⟨Nat.le_of_ble_eq_true rfl, Nat.le_of_ble_eq_true rfl⟩) rfl rfl rfl rfl hl.1 rfl (lv_room (Nat.le_of_ble_eq_true rfl)) ⟨Nat.zero_le _, Nat.zero_le _⟩ dX5_copyFrom_8 (fun H locs hG => ?_)
  refine lv_aload_n hx hb dX5_copyFrom_11 rfl (lv_at hl 0 rfl) ?_
  refine g_get F hK hG.1 0 0 1 flX5_21 rfl rfl rfl dX5_copyFrom_12 ?_
  refine lv_aload_n hx hb dX5_copyFrom_15 rfl (lv_at hl 1 rfl) ?_
  refine g_get F hK hG.1 3 0 1 flX5_21 rfl rfl rfl dX5_copyFrom_16 ?_
  obtain ⟨x2, hx2, hf⟩ := g_bnd hf
  refine g_mvv (S' := [C5 E h b0 w0.2.2, C6 E h (b0+1) x1, C7 E h (b0+7) x2, C5 E h b1 w1.2.2, C6 E h (b1+1) w1.1, C7 E h (b1+7) w1.2.1]) (As := [.ref (h (b1+7))]) (rest := []) F hK hX hAB hG [2, 5] rfl rfl (c_X7_copyFrom h (b0+7) w0.2.1 (b1+7) w1.2.1 hx2) rfl (kX5_45 F.2.2.2.2 ⟨Nat.le_of_ble_eq_true rfl, Nat.le_of_ble_eq_true rfl⟩) rfl rfl rfl rfl hl.1 rfl (lv_room (Nat.le_of_ble_eq_true rfl)) ⟨Nat.zero_le _, Nat.zero_le _⟩ dX5_copyFrom_19 (fun H locs hG => ?_)
  refine lv_aload_n hx hb dX5_copyFrom_22 rfl (lv_at hl 0 rfl) ?_
  refine lv_aload_n hx hb dX5_copyFrom_23 rfl (lv_at hl 1 rfl) ?_
  refine g_get F hK hG.1 3 0 2 flX5_48 rfl rfl rfl dX5_copyFrom_24 ?_
  refine g_put F hK hG 0 0 2 pfX5_48 rfl rfl (Nat.le_of_ble_eq_true rfl) rfl rfl dX5_copyFrom_27 (fun H locs hG => ?_)
  have hG : gS E A s.heap [C5 E h b0 (w1.2.2.1, w0.2.2.2.1, w0.2.2.2.2.1, w0.2.2.2.2.2.1, w0.2.2.2.2.2.2.1, w0.2.2.2.2.2.2.2.1, w0.2.2.2.2.2.2.2.2.1, w0.2.2.2.2.2.2.2.2.2), C6 E h (b0+1) x1, C7 E h (b0+7) x2, C5 E h b1 w1.2.2, C6 E h (b1+1) w1.1, C7 E h (b1+7) w1.2.1] H locs := hG
  refine lv_aload_n hx hb dX5_copyFrom_30 rfl (lv_at hl 0 rfl) ?_
  refine lv_aload_n hx hb dX5_copyFrom_31 rfl (lv_at hl 1 rfl) ?_
  refine g_get F hK hG.1 3 0 3 flX5_25 rfl rfl rfl dX5_copyFrom_32 ?_
  refine g_put F hK hG 0 0 3 pfX5_25 rfl rfl (Nat.le_of_ble_eq_true rfl) rfl rfl dX5_copyFrom_35 (fun H locs hG => ?_)
  have hG : gS E A s.heap [C5 E h b0 (w1.2.2.1, w1.2.2.2.1, w0.2.2.2.2.1, w0.2.2.2.2.2.1, w0.2.2.2.2.2.2.1, w0.2.2.2.2.2.2.2.1, w0.2.2.2.2.2.2.2.2.1, w0.2.2.2.2.2.2.2.2.2), C6 E h (b0+1) x1, C7 E h (b0+7) x2, C5 E h b1 w1.2.2, C6 E h (b1+1) w1.1, C7 E h (b1+7) w1.2.1] H locs := hG
  refine lv_aload_n hx hb dX5_copyFrom_38 rfl (lv_at hl 0 rfl) ?_
  refine lv_aload_n hx hb dX5_copyFrom_39 rfl (lv_at hl 1 rfl) ?_
  refine g_get F hK hG.1 3 0 4 flX5_51 rfl rfl rfl dX5_copyFrom_40 ?_
  obtain ⟨u3, hu3, hf⟩ := g_bnd hf
  refine g_put F hK hG 0 0 4 pfX5_51 rfl rfl (Nat.le_of_ble_eq_true rfl) (bz_nar hu3) (bz_fit hu3) dX5_copyFrom_43 (fun H locs hG => ?_)
  have hG : gS E A s.heap [C5 E h b0 (w1.2.2.1, w1.2.2.2.1, w1.2.2.2.2.1, w0.2.2.2.2.2.1, w0.2.2.2.2.2.2.1, w0.2.2.2.2.2.2.2.1, w0.2.2.2.2.2.2.2.2.1, w0.2.2.2.2.2.2.2.2.2), C6 E h (b0+1) x1, C7 E h (b0+7) x2, C5 E h b1 w1.2.2, C6 E h (b1+1) w1.1, C7 E h (b1+7) w1.2.1] H locs := hG
  refine lv_aload_n hx hb dX5_copyFrom_46 rfl (lv_at hl 0 rfl) ?_
  refine lv_aload_n hx hb dX5_copyFrom_47 rfl (lv_at hl 1 rfl) ?_
  refine g_get F hK hG.1 3 0 5 flX5_55 rfl rfl rfl dX5_copyFrom_48 ?_
  obtain ⟨u4, hu4, hf⟩ := g_bnd hf
  refine g_put F hK hG 0 0 5 pfX5_55 rfl rfl (Nat.le_of_ble_eq_true rfl) (bz_nar hu4) (bz_fit hu4) dX5_copyFrom_51 (fun H locs hG => ?_)
  have hG : gS E A s.heap [C5 E h b0 (w1.2.2.1, w1.2.2.2.1, w1.2.2.2.2.1, w1.2.2.2.2.2.1, w0.2.2.2.2.2.2.1, w0.2.2.2.2.2.2.2.1, w0.2.2.2.2.2.2.2.2.1, w0.2.2.2.2.2.2.2.2.2), C6 E h (b0+1) x1, C7 E h (b0+7) x2, C5 E h b1 w1.2.2, C6 E h (b1+1) w1.1, C7 E h (b1+7) w1.2.1] H locs := hG
  refine lv_aload_n hx hb dX5_copyFrom_54 rfl (lv_at hl 0 rfl) ?_
  refine lv_aload_n hx hb dX5_copyFrom_55 rfl (lv_at hl 1 rfl) ?_
  refine g_get F hK hG.1 3 0 6 flX5_29 rfl rfl rfl dX5_copyFrom_56 ?_
  refine g_put F hK hG 0 0 6 pfX5_29 rfl rfl (Nat.le_of_ble_eq_true rfl) rfl rfl dX5_copyFrom_59 (fun H locs hG => ?_)
  have hG : gS E A s.heap [C5 E h b0 (w1.2.2.1, w1.2.2.2.1, w1.2.2.2.2.1, w1.2.2.2.2.2.1, w1.2.2.2.2.2.2.1, w0.2.2.2.2.2.2.2.1, w0.2.2.2.2.2.2.2.2.1, w0.2.2.2.2.2.2.2.2.2), C6 E h (b0+1) x1, C7 E h (b0+7) x2, C5 E h b1 w1.2.2, C6 E h (b1+1) w1.1, C7 E h (b1+7) w1.2.1] H locs := hG
  refine lv_aload_n hx hb dX5_copyFrom_62 rfl (lv_at hl 0 rfl) ?_
  refine lv_aload_n hx hb dX5_copyFrom_63 rfl (lv_at hl 1 rfl) ?_
  refine g_get F hK hG.1 3 0 7 flX5_34 rfl rfl rfl dX5_copyFrom_64 ?_
  refine g_put F hK hG 0 0 7 pfX5_34 rfl rfl (Nat.le_of_ble_eq_true rfl) rfl rfl dX5_copyFrom_67 (fun H locs hG => ?_)
  have hG : gS E A s.heap [C5 E h b0 (w1.2.2.1, w1.2.2.2.1, w1.2.2.2.2.1, w1.2.2.2.2.2.1, w1.2.2.2.2.2.2.1, w1.2.2.2.2.2.2.2.1, w0.2.2.2.2.2.2.2.2.1, w0.2.2.2.2.2.2.2.2.2), C6 E h (b0+1) x1, C7 E h (b0+7) x2, C5 E h b1 w1.2.2, C6 E h (b1+1) w1.1, C7 E h (b1+7) w1.2.1] H locs := hG
  refine lv_aload_n hx hb dX5_copyFrom_70 rfl (lv_at hl 0 rfl) ?_
  refine lv_aload_n hx hb dX5_copyFrom_71 rfl (lv_at hl 1 rfl) ?_
  refine g_get F hK hG.1 3 0 8 flX5_58 rfl rfl rfl dX5_copyFrom_72 ?_
  refine g_put F hK hG 0 0 8 pfX5_58 rfl rfl (Nat.le_of_ble_eq_true rfl) rfl rfl dX5_copyFrom_75 (fun H locs hG => ?_)
  have hG : gS E A s.heap [C5 E h b0 (w1.2.2.1, w1.2.2.2.1, w1.2.2.2.2.1, w1.2.2.2.2.2.1, w1.2.2.2.2.2.2.1, w1.2.2.2.2.2.2.2.1, w1.2.2.2.2.2.2.2.2.1, w0.2.2.2.2.2.2.2.2.2), C6 E h (b0+1) x1, C7 E h (b0+7) x2, C5 E h b1 w1.2.2, C6 E h (b1+1) w1.1, C7 E h (b1+7) w1.2.1] H locs := hG
  refine lv_aload_n hx hb dX5_copyFrom_78 rfl (lv_at hl 0 rfl) ?_
  refine lv_aload_n hx hb dX5_copyFrom_79 rfl (lv_at hl 1 rfl) ?_
  refine g_get F hK hG.1 3 0 9 flX5_38 rfl rfl rfl dX5_copyFrom_80 ?_
  refine g_put F hK hG 0 0 9 pfX5_38 rfl rfl (Nat.le_of_ble_eq_true rfl) rfl rfl dX5_copyFrom_83 (fun H locs hG => ?_)
  have hG : gS E A s.heap [C5 E h b0 (w1.2.2.1, w1.2.2.2.1, w1.2.2.2.2.1, w1.2.2.2.2.2.1, w1.2.2.2.2.2.2.1, w1.2.2.2.2.2.2.2.1, w1.2.2.2.2.2.2.2.2.1, w1.2.2.2.2.2.2.2.2.2), C6 E h (b0+1) x1, C7 E h (b0+7) x2, C5 E h b1 w1.2.2, C6 E h (b1+1) w1.1, C7 E h (b1+7) w1.2.1] H locs := hG
  have ho := Option.some.inj hf
  subst hA
  rw [← hQ, ← ho]
  exact g_mretV F hr hlk hG dX5_copyFrom_86
set_option maxHeartbeats 4000000 in
set_option maxRecDepth 100000 in
theorem c_X5_places {l : Launch} {E : gEnv} (h : Nat → Nat) (b0 : Nat) (w0 : T5) {o : Int32} (hf : f_X5_places w0 = some o) : gR l yX5_places cX5_places 1 (some .int) rX5_places E [.ref (h b0)] [C5 E h b0 w0.2.2, C6 E h (b0+1) w0.1, C7 E h (b0+7) w0.2.1] (some (.int o)) := by
  refine gR.of (by decide +kernel) (Nat.le_of_ble_eq_true rfl) ?_
  intro p e s m below meth c F hr hlk hK hX hP ls hl
  have F : gF p m c cX5_places 1 s ([.ref (h b0)] : List Value).toArray RX5 := F
  generalize ([.ref (h b0)] : List Value).toArray = args at F ⊢
  generalize hQ : MQ below _ _ _ _ _ _ = Q
  have hl : lv_has ls 1 [(0, .ref (h b0))] := hl
  have hx := F.1
  have hb := F.2.1
  unfold f_X5_places at hf
  refine lv_aload_n hx hb dX5_places_0 rfl (lv_at hl 0 rfl) ?_
  refine g_get F hK hP 0 0 7 flX5_34 rfl rfl rfl dX5_places_1 ?_
  obtain ⟨x1, hx1, hf⟩ := g_bnd hf
  refine g_rs (As := [.long w0.2.2.2.2.2.2.2.1]) (rest := []) F hK hX hP [] rfl (c_X4_lengthOf h w0.2.2.2.2.2.2.2.1 hx1) (kX5_61 F.2.2.2.2 ⟨Nat.le_of_ble_eq_true rfl, Nat.le_of_ble_eq_true rfl⟩) rfl hl.1 rfl (lv_room (Nat.le_of_ble_eq_true rfl)) ⟨Nat.zero_le _, Nat.zero_le _⟩ dX5_places_4 ?_
  have ho := Option.some.inj hf
  rw [← hQ, ← ho]
  exact g_retI F hr hlk dX5_places_7
set_option maxHeartbeats 4000000 in
set_option maxRecDepth 100000 in
theorem c_X5_turnLastPlace {l : Launch} {E : gEnv} (h : Nat → Nat) (b0 : Nat) (w0 : T5) {o : T5s} (hf : f_X5_turnLastPlace w0 = some o) : gM l yX5_turnLastPlace cX5_turnLastPlace 3 none rX5_turnLastPlace E [.ref (h b0)] [C5 E h b0 w0.2.2, C6 E h (b0+1) w0.1, C7 E h (b0+7) w0.2.1] (none) [C5 E h b0 o, C6 E h (b0+1) w0.1, C7 E h (b0+7) w0.2.1] := by
  refine gM.of (by decide +kernel) (Nat.le_of_ble_eq_true rfl) rfl ?_
  intro p e s m below meth c F hr hlk hK hX hAB ls hl H locs hG
  have F : gF p m c cX5_turnLastPlace 3 s ([.ref (h b0)] : List Value).toArray RX5 := F
  generalize ([.ref (h b0)] : List Value).toArray = args at F ⊢
  generalize hQ : MQ below _ _ _ _ _ _ = Q
  generalize hA : gAd [C5 E h b0 w0.2.2, C6 E h (b0+1) w0.1, C7 E h (b0+7) w0.2.1] = A at hAB hG
  have hl : lv_has ls 3 [(0, .ref (h b0))] := hl
  have hx := F.1
  have hb := F.2.1
  unfold f_X5_turnLastPlace at hf
  refine lv_aload_n hx hb dX5_turnLastPlace_0 rfl (lv_at hl 0 rfl) ?_
  obtain ⟨x1, hx1, hf⟩ := g_bnd hf
  refine g_rv (As := []) (rest := []) F hK (hG.X hX hAB) hG.1 [0, 1, 2] rfl (c_X5_places h b0 w0 hx1) (kX5_65 F.2.2.2.2 ⟨Nat.le_of_ble_eq_true rfl, Nat.le_of_ble_eq_true rfl⟩) rfl rfl rfl rfl hl.1 rfl (lv_room (Nat.le_of_ble_eq_true rfl)) ⟨Nat.zero_le _, Nat.zero_le _⟩ dX5_turnLastPlace_1 ?_
  refine lv_iconst (v := 1) hx hb dX5_turnLastPlace_4 (by decide) ?_
  refine lv_isub hx hb dX5_turnLastPlace_5 ?_
  refine lv_istore_n (lv' := [(1, .int (x1 - 1)), (0, .ref (h b0))]) hx hb dX5_turnLastPlace_6 rfl hl (by decide) rfl (fun ls hl => ?_)
  refine lv_aload_n hx hb dX5_turnLastPlace_7 rfl (lv_at hl 1 rfl) ?_
  refine g_get F hK hG.1 0 0 7 flX5_34 rfl rfl rfl dX5_turnLastPlace_8 ?_
  refine lv_iload_n hx hb dX5_turnLastPlace_11 rfl (lv_at hl 0 rfl) ?_
  obtain ⟨x2, hx2, hf⟩ := g_bnd hf
  refine g_rs (As := [.long w0.2.2.2.2.2.2.2.1, .int (x1 - 1)]) (rest := []) F hK (hG.X hX hAB) hG.1 [] rfl (c_X4_letterAt h w0.2.2.2.2.2.2.2.1 (x1 - 1) hx2) (kX5_85 F.2.2.2.2 ⟨Nat.le_of_ble_eq_true rfl, Nat.le_of_ble_eq_true rfl⟩) rfl hl.1 rfl (lv_room (Nat.le_of_ble_eq_true rfl)) ⟨Nat.zero_le _, Nat.zero_le _⟩ dX5_turnLastPlace_12 ?_
  obtain ⟨x3, hx3, hf⟩ := g_bnd hf
  refine g_rs (As := [.int x2]) (rest := []) F hK (hG.X hX hAB) hG.1 [] rfl (c_X1_letterBehind h x2 hx3) (kX5_89 F.2.2.2.2 ⟨Nat.le_of_ble_eq_true rfl, Nat.le_of_ble_eq_true rfl⟩) rfl hl.1 rfl (lv_room (Nat.le_of_ble_eq_true rfl)) ⟨Nat.zero_le _, Nat.zero_le _⟩ dX5_turnLastPlace_15 ?_
  refine lv_istore_n (lv' := [(2, .int x3), (1, .int (x1 - 1)), (0, .ref (h b0))]) hx hb dX5_turnLastPlace_18 rfl hl (by decide) rfl (fun ls hl => ?_)
  refine lv_aload_n hx hb dX5_turnLastPlace_19 rfl (lv_at hl 2 rfl) ?_
  refine lv_aload_n hx hb dX5_turnLastPlace_20 rfl (lv_at hl 2 rfl) ?_
  refine g_get F hK hG.1 0 0 7 flX5_34 rfl rfl rfl dX5_turnLastPlace_21 ?_
  refine lv_iload_n hx hb dX5_turnLastPlace_24 rfl (lv_at hl 1 rfl) ?_
  refine lv_iload_n hx hb dX5_turnLastPlace_25 rfl (lv_at hl 0 rfl) ?_
  obtain ⟨x4, hx4, hf⟩ := g_bnd hf
  refine g_rs (As := [.int x3]) (rest := [.int (x1 - 1), .long w0.2.2.2.2.2.2.2.1, .ref (h b0)]) F hK (hG.X hX hAB) hG.1 [] rfl (c_X4_codeOfLetter h x3 hx4) (kX5_75 F.2.2.2.2 ⟨Nat.le_of_ble_eq_true rfl, Nat.le_of_ble_eq_true rfl⟩) rfl hl.1 rfl (lv_room (Nat.le_of_ble_eq_true rfl)) ⟨Nat.zero_le _, Nat.zero_le _⟩ dX5_turnLastPlace_26 ?_
  obtain ⟨x5, hx5, hf⟩ := g_bnd hf
  refine g_rs (As := [.long w0.2.2.2.2.2.2.2.1, .int (x1 - 1), .int x4]) (rest := [.ref (h b0)]) F hK (hG.X hX hAB) hG.1 [] rfl (c_X4_with h w0.2.2.2.2.2.2.2.1 (x1 - 1) x4 hx5) (kX5_78 F.2.2.2.2 ⟨Nat.le_of_ble_eq_true rfl, Nat.le_of_ble_eq_true rfl⟩) rfl hl.1 rfl (lv_room (Nat.le_of_ble_eq_true rfl)) ⟨Nat.zero_le _, Nat.zero_le _⟩ dX5_turnLastPlace_29 ?_
  refine g_put F hK hG 0 0 7 pfX5_34 rfl rfl (Nat.le_of_ble_eq_true rfl) rfl rfl dX5_turnLastPlace_32 (fun H locs hG => ?_)
  have hG : gS E A s.heap [C5 E h b0 (w0.2.2.1, w0.2.2.2.1, w0.2.2.2.2.1, w0.2.2.2.2.2.1, w0.2.2.2.2.2.2.1, x5, w0.2.2.2.2.2.2.2.2.1, w0.2.2.2.2.2.2.2.2.2), C6 E h (b0+1) w0.1, C7 E h (b0+7) w0.2.1] H locs := hG
  refine lv_aload_n hx hb dX5_turnLastPlace_35 rfl (lv_at hl 2 rfl) ?_
  refine lv_iconst (v := 0) hx hb dX5_turnLastPlace_36 (by decide) ?_
  refine g_put F hK hG 0 0 8 pfX5_58 rfl rfl (Nat.le_of_ble_eq_true rfl) rfl rfl dX5_turnLastPlace_37 (fun H locs hG => ?_)
  have hG : gS E A s.heap [C5 E h b0 (w0.2.2.1, w0.2.2.2.1, w0.2.2.2.2.1, w0.2.2.2.2.2.1, w0.2.2.2.2.2.2.1, x5, 0, w0.2.2.2.2.2.2.2.2.2), C6 E h (b0+1) w0.1, C7 E h (b0+7) w0.2.1] H locs := hG
  have ho := Option.some.inj hf
  subst hA
  rw [← hQ, ← ho]
  exact g_mretV F hr hlk hG dX5_turnLastPlace_40
set_option maxHeartbeats 4000000 in
set_option maxRecDepth 100000 in
theorem c_X5_addPlace {l : Launch} {E : gEnv} (h : Nat → Nat) (b0 : Nat) (w0 : T5) (a1 : Int32) {o : T5s} (hf : f_X5_addPlace w0 a1 = some o) : gM l yX5_addPlace cX5_addPlace 2 none rX5_addPlace E [.ref (h b0), .int a1] [C5 E h b0 w0.2.2, C6 E h (b0+1) w0.1, C7 E h (b0+7) w0.2.1] (none) [C5 E h b0 o, C6 E h (b0+1) w0.1, C7 E h (b0+7) w0.2.1] := by
  refine gM.of (by decide +kernel) (Nat.le_of_ble_eq_true rfl) rfl ?_
  intro p e s m below meth c F hr hlk hK hX hAB ls hl H locs hG
  have F : gF p m c cX5_addPlace 2 s ([.ref (h b0), .int a1] : List Value).toArray RX5 := F
  generalize ([.ref (h b0), .int a1] : List Value).toArray = args at F ⊢
  generalize hQ : MQ below _ _ _ _ _ _ = Q
  generalize hA : gAd [C5 E h b0 w0.2.2, C6 E h (b0+1) w0.1, C7 E h (b0+7) w0.2.1] = A at hAB hG
  have hl : lv_has ls 2 [(0, .ref (h b0)), (1, .int a1)] := hl
  have hx := F.1
  have hb := F.2.1
  unfold f_X5_addPlace at hf
  refine lv_aload_n hx hb dX5_addPlace_0 rfl (lv_at hl 0 rfl) ?_
  refine g_get F hK hG.1 0 0 5 flX5_55 rfl rfl rfl dX5_addPlace_1 ?_
  obtain ⟨j1, hf, hfj1⟩ := g_bnd hf
  have hJj1 : ∀ (H : Heap) (locs : List Loc), gS E A s.heap [C5 E h b0 j1, C6 E h (b0+1) w0.1, C7 E h (b0+7) w0.2.1] H locs → ∀ ls : Array Slot, lv_has ls 2 [(0, .ref (h b0))] → W p l e rX5_addPlace s m args below meth c H locs 0 0 Q (F0 m 56 ls []) := by
    intro H locs hG ls hl
    have hf := hfj1
    refine lv_aload_n hx hb dX5_addPlace_56 rfl (lv_at hl 0 rfl) ?_
    refine lv_iconst (v := 0) hx hb dX5_addPlace_57 (by decide) ?_
    refine g_put F hK hG 0 0 8 pfX5_58 rfl rfl (Nat.le_of_ble_eq_true rfl) rfl rfl dX5_addPlace_58 (fun H locs hG => ?_)
    have hG : gS E A s.heap [C5 E h b0 (j1.1, j1.2.1, j1.2.2.1, j1.2.2.2.1, j1.2.2.2.2.1, j1.2.2.2.2.2.1, 0, j1.2.2.2.2.2.2.2), C6 E h (b0+1) w0.1, C7 E h (b0+7) w0.2.1] H locs := hG
    have ho := Option.some.inj hf
    subst hA
    rw [← hQ, ← ho]
    exact g_mretV F hr hlk hG dX5_addPlace_61
  refine lv_if_eq (tgt := 37) hx hb dX5_addPlace_4 (by decide) (fun c2 => ?_) (fun c2 => ?_)
  · have hf := g_it c2 hf
    refine lv_aload_n hx hb dX5_addPlace_37 rfl (lv_at hl 0 rfl) ?_
    refine lv_aload_n hx hb dX5_addPlace_38 rfl (lv_at hl 0 rfl) ?_
    refine g_get F hK hG.1 0 0 7 flX5_34 rfl rfl rfl dX5_addPlace_39 ?_
    refine lv_aload_n hx hb dX5_addPlace_42 rfl (lv_at hl 0 rfl) ?_
    obtain ⟨x3, hx3, hf⟩ := g_bnd hf
    refine g_rv (As := []) (rest := [.long w0.2.2.2.2.2.2.2.1, .ref (h b0)]) F hK (hG.X hX hAB) hG.1 [0, 1, 2] rfl (c_X5_places h b0 w0 hx3) (kX5_65 F.2.2.2.2 ⟨Nat.le_of_ble_eq_true rfl, Nat.le_of_ble_eq_true rfl⟩) rfl rfl rfl rfl hl.1 rfl (lv_room (Nat.le_of_ble_eq_true rfl)) ⟨Nat.zero_le _, Nat.zero_le _⟩ dX5_addPlace_43 ?_
    refine lv_iload_n hx hb dX5_addPlace_46 rfl (lv_at hl 1 rfl) ?_
    obtain ⟨x4, hx4, hf⟩ := g_bnd hf
    refine g_rs (As := [.int a1]) (rest := [.int x3, .long w0.2.2.2.2.2.2.2.1, .ref (h b0)]) F hK (hG.X hX hAB) hG.1 [] rfl (c_X4_codeOfKey h a1 hx4) (kX5_82 F.2.2.2.2 ⟨Nat.le_of_ble_eq_true rfl, Nat.le_of_ble_eq_true rfl⟩) rfl hl.1 rfl (lv_room (Nat.le_of_ble_eq_true rfl)) ⟨Nat.zero_le _, Nat.zero_le _⟩ dX5_addPlace_47 ?_
    obtain ⟨x5, hx5, hf⟩ := g_bnd hf
    refine g_rs (As := [.long w0.2.2.2.2.2.2.2.1, .int x3, .int x4]) (rest := [.ref (h b0)]) F hK (hG.X hX hAB) hG.1 [] rfl (c_X4_with h w0.2.2.2.2.2.2.2.1 x3 x4 hx5) (kX5_78 F.2.2.2.2 ⟨Nat.le_of_ble_eq_true rfl, Nat.le_of_ble_eq_true rfl⟩) rfl hl.1 rfl (lv_room (Nat.le_of_ble_eq_true rfl)) ⟨Nat.zero_le _, Nat.zero_le _⟩ dX5_addPlace_50 ?_
    refine g_put F hK hG 0 0 7 pfX5_34 rfl rfl (Nat.le_of_ble_eq_true rfl) rfl rfl dX5_addPlace_53 (fun H locs hG => ?_)
    have hG : gS E A s.heap [C5 E h b0 (w0.2.2.1, w0.2.2.2.1, w0.2.2.2.2.1, w0.2.2.2.2.2.1, w0.2.2.2.2.2.2.1, x5, w0.2.2.2.2.2.2.2.2.1, w0.2.2.2.2.2.2.2.2.2), C6 E h (b0+1) w0.1, C7 E h (b0+7) w0.2.1] H locs := hG
    obtain rfl := Option.some.inj hf
    exact hJj1 _ _ hG ls (lv_sub hl [0] rfl)
  · have hf := g_if c2 hf
    refine lv_aload_n hx hb dX5_addPlace_7 rfl (lv_at hl 0 rfl) ?_
    refine lv_aload_n hx hb dX5_addPlace_8 rfl (lv_at hl 0 rfl) ?_
    refine g_get F hK hG.1 0 0 7 flX5_34 rfl rfl rfl dX5_addPlace_9 ?_
    refine lv_aload_n hx hb dX5_addPlace_12 rfl (lv_at hl 0 rfl) ?_
    obtain ⟨x6, hx6, hf⟩ := g_bnd hf
    refine g_rv (As := []) (rest := [.long w0.2.2.2.2.2.2.2.1, .ref (h b0)]) F hK (hG.X hX hAB) hG.1 [0, 1, 2] rfl (c_X5_places h b0 w0 hx6) (kX5_65 F.2.2.2.2 ⟨Nat.le_of_ble_eq_true rfl, Nat.le_of_ble_eq_true rfl⟩) rfl rfl rfl rfl hl.1 rfl (lv_room (Nat.le_of_ble_eq_true rfl)) ⟨Nat.zero_le _, Nat.zero_le _⟩ dX5_addPlace_13 ?_
    refine lv_iload_n hx hb dX5_addPlace_16 rfl (lv_at hl 1 rfl) ?_
    obtain ⟨x7, hx7, hf⟩ := g_bnd hf
    refine g_rs (As := [.int a1]) (rest := [.int x6, .long w0.2.2.2.2.2.2.2.1, .ref (h b0)]) F hK (hG.X hX hAB) hG.1 [] rfl (c_X1_firstLetter h a1 hx7) (kX5_69 F.2.2.2.2 ⟨Nat.le_of_ble_eq_true rfl, Nat.le_of_ble_eq_true rfl⟩) rfl hl.1 rfl (lv_room (Nat.le_of_ble_eq_true rfl)) ⟨Nat.zero_le _, Nat.zero_le _⟩ dX5_addPlace_17 ?_
    obtain ⟨x8, hx8, hf⟩ := g_bnd hf
    refine g_rs (As := [.int x7]) (rest := [.int x6, .long w0.2.2.2.2.2.2.2.1, .ref (h b0)]) F hK (hG.X hX hAB) hG.1 [] rfl (c_X4_codeOfLetter h x7 hx8) (kX5_75 F.2.2.2.2 ⟨Nat.le_of_ble_eq_true rfl, Nat.le_of_ble_eq_true rfl⟩) rfl hl.1 rfl (lv_room (Nat.le_of_ble_eq_true rfl)) ⟨Nat.zero_le _, Nat.zero_le _⟩ dX5_addPlace_20 ?_
    obtain ⟨x9, hx9, hf⟩ := g_bnd hf
    refine g_rs (As := [.long w0.2.2.2.2.2.2.2.1, .int x6, .int x8]) (rest := [.ref (h b0)]) F hK (hG.X hX hAB) hG.1 [] rfl (c_X4_with h w0.2.2.2.2.2.2.2.1 x6 x8 hx9) (kX5_78 F.2.2.2.2 ⟨Nat.le_of_ble_eq_true rfl, Nat.le_of_ble_eq_true rfl⟩) rfl hl.1 rfl (lv_room (Nat.le_of_ble_eq_true rfl)) ⟨Nat.zero_le _, Nat.zero_le _⟩ dX5_addPlace_23 ?_
    refine g_put F hK hG 0 0 7 pfX5_34 rfl rfl (Nat.le_of_ble_eq_true rfl) rfl rfl dX5_addPlace_26 (fun H locs hG => ?_)
    have hG : gS E A s.heap [C5 E h b0 (w0.2.2.1, w0.2.2.2.1, w0.2.2.2.2.1, w0.2.2.2.2.2.1, w0.2.2.2.2.2.2.1, x9, w0.2.2.2.2.2.2.2.2.1, w0.2.2.2.2.2.2.2.2.2), C6 E h (b0+1) w0.1, C7 E h (b0+7) w0.2.1] H locs := hG
    refine lv_aload_n hx hb dX5_addPlace_29 rfl (lv_at hl 0 rfl) ?_
    refine lv_iload_n hx hb dX5_addPlace_30 rfl (lv_at hl 1 rfl) ?_
    refine g_put F hK hG 0 0 6 pfX5_29 rfl rfl (Nat.le_of_ble_eq_true rfl) rfl rfl dX5_addPlace_31 (fun H locs hG => ?_)
    have hG : gS E A s.heap [C5 E h b0 (w0.2.2.1, w0.2.2.2.1, w0.2.2.2.2.1, w0.2.2.2.2.2.1, a1, x9, w0.2.2.2.2.2.2.2.2.1, w0.2.2.2.2.2.2.2.2.2), C6 E h (b0+1) w0.1, C7 E h (b0+7) w0.2.1] H locs := hG
    refine lv_goto (tgt := 56) hx hb dX5_addPlace_34 (by decide) ?_
    obtain rfl := Option.some.inj hf
    exact hJj1 _ _ hG ls (lv_sub hl [0] rfl)
set_option maxHeartbeats 4000000 in
set_option maxRecDepth 100000 in
theorem c_X0_comesBefore {l : Launch} {E : gEnv} (h : Nat → Nat) (b0 : Nat) (w0 : T6) (a1 : Int32) (a2 : Int32) (a3 : Int32) {o : Int32} (hf : f_X0_comesBefore w0 a1 a2 a3 = some o) : gR l yX0_comesBefore cX0_comesBefore 5 (some .boolean) rX0_comesBefore E [.ref (h b0), .int a1, .int a2, .int a3] [C6 E h b0 w0] (some (.int o)) := by
  refine gR.of (by decide +kernel) (Nat.le_of_ble_eq_true rfl) ?_
  intro p e s m below meth c F hr hlk hK hX hP ls hl
  have F : gF p m c cX0_comesBefore 5 s ([.ref (h b0), .int a1, .int a2, .int a3] : List Value).toArray RX0 := F
  generalize ([.ref (h b0), .int a1, .int a2, .int a3] : List Value).toArray = args at F ⊢
  generalize hQ : MQ below _ _ _ _ _ _ = Q
  have hl : lv_has ls 5 [(0, .ref (h b0)), (1, .int a1), (2, .int a2), (3, .int a3)] := hl
  have hx := F.1
  have hb := F.2.1
  unfold f_X0_comesBefore at hf
  refine lv_aload_n hx hb dX0_comesBefore_0 rfl (lv_at hl 0 rfl) ?_
  refine lv_iload_n hx hb dX0_comesBefore_1 rfl (lv_at hl 1 rfl) ?_
  obtain ⟨x1, hx1, hf⟩ := g_bnd hf
  refine g_rv (As := [.int a1]) (rest := []) F hK hX hP [0] rfl (c_X6_wordAt h b0 w0 a1 hx1) (kX0_32 F.2.2.2.2 ⟨Nat.le_of_ble_eq_true rfl, Nat.le_of_ble_eq_true rfl⟩) rfl rfl rfl rfl hl.1 rfl (lv_room (Nat.le_of_ble_eq_true rfl)) ⟨Nat.zero_le _, Nat.zero_le _⟩ dX0_comesBefore_2 ?_
  refine lv_iload_n hx hb dX0_comesBefore_5 rfl (lv_at hl 3 rfl) ?_
  obtain ⟨x2, hx2, hf⟩ := g_bnd hf
  refine g_rs (As := [.long x1, .int a3]) (rest := []) F hK hX hP [] rfl (c_X4_has h x1 a3 hx2) (kX0_36 F.2.2.2.2 ⟨Nat.le_of_ble_eq_true rfl, Nat.le_of_ble_eq_true rfl⟩) rfl hl.1 rfl (lv_room (Nat.le_of_ble_eq_true rfl)) ⟨Nat.zero_le _, Nat.zero_le _⟩ dX0_comesBefore_6 ?_
  refine lv_istore (lv' := [(4, .int x2), (0, .ref (h b0)), (1, .int a1), (2, .int a2), (3, .int a3)]) hx hb dX0_comesBefore_9 hl (by decide) rfl (fun ls hl => ?_)
  refine lv_iload hx hb dX0_comesBefore_11 (lv_at hl 0 rfl) ?_
  refine lv_aload_n hx hb dX0_comesBefore_13 rfl (lv_at hl 1 rfl) ?_
  refine lv_iload_n hx hb dX0_comesBefore_14 rfl (lv_at hl 3 rfl) ?_
  obtain ⟨x3, hx3, hf⟩ := g_bnd hf
  refine g_rv (As := [.int a2]) (rest := [.int x2]) F hK hX hP [0] rfl (c_X6_wordAt h b0 w0 a2 hx3) (kX0_32 F.2.2.2.2 ⟨Nat.le_of_ble_eq_true rfl, Nat.le_of_ble_eq_true rfl⟩) rfl rfl rfl rfl hl.1 rfl (lv_room (Nat.le_of_ble_eq_true rfl)) ⟨Nat.zero_le _, Nat.zero_le _⟩ dX0_comesBefore_15 ?_
  refine lv_iload_n hx hb dX0_comesBefore_18 rfl (lv_at hl 4 rfl) ?_
  obtain ⟨x4, hx4, hf⟩ := g_bnd hf
  refine g_rs (As := [.long x3, .int a3]) (rest := [.int x2]) F hK hX hP [] rfl (c_X4_has h x3 a3 hx4) (kX0_36 F.2.2.2.2 ⟨Nat.le_of_ble_eq_true rfl, Nat.le_of_ble_eq_true rfl⟩) rfl hl.1 rfl (lv_room (Nat.le_of_ble_eq_true rfl)) ⟨Nat.zero_le _, Nat.zero_le _⟩ dX0_comesBefore_19 ?_
  refine lv_icmp_eq (tgt := 36) hx hb dX0_comesBefore_22 (by decide) (fun c5 => ?_) (fun c5 => ?_)
  · have hf := g_it c5 hf
    refine lv_aload_n hx hb dX0_comesBefore_36 rfl (lv_at hl 1 rfl) ?_
    refine lv_iload_n hx hb dX0_comesBefore_37 rfl (lv_at hl 2 rfl) ?_
    refine lv_iload_n hx hb dX0_comesBefore_38 rfl (lv_at hl 3 rfl) ?_
    obtain ⟨x6, hx6, hf⟩ := g_bnd hf
    refine g_rv (As := [.int a1, .int a2]) (rest := []) F hK hX hP [0] rfl (c_X6_ranksBefore h b0 w0 a1 a2 hx6) (kX0_66 F.2.2.2.2 ⟨Nat.le_of_ble_eq_true rfl, Nat.le_of_ble_eq_true rfl⟩) rfl rfl rfl rfl hl.1 rfl (lv_room (Nat.le_of_ble_eq_true rfl)) ⟨Nat.zero_le _, Nat.zero_le _⟩ dX0_comesBefore_39 ?_
    obtain ⟨u7, hu7, hf⟩ := g_bnd hf
    have ho := Option.some.inj hf
    rw [← hQ, ← ho]
    exact g_retZ F hr hlk (bz_nar hu7) dX0_comesBefore_42
  · have hf := g_if c5 hf
    refine lv_iload hx hb dX0_comesBefore_25 (lv_at hl 0 rfl) ?_
    refine lv_if_ne (tgt := 34) hx hb dX0_comesBefore_27 (by decide) (fun c8 => ?_) (fun c8 => ?_)
    · have hf := g_if c8 hf
      refine lv_iconst (v := 0) hx hb dX0_comesBefore_34 (by decide) ?_
      have ho := Option.some.inj hf
      rw [← hQ, ← ho]
      exact g_retZ F hr hlk narrow_b0 dX0_comesBefore_35
    · have hf := g_it c8 hf
      refine lv_iconst (v := 1) hx hb dX0_comesBefore_30 (by decide) ?_
      refine lv_goto (tgt := 35) hx hb dX0_comesBefore_31 (by decide) ?_
      have ho := Option.some.inj hf
      rw [← hQ, ← ho]
      exact g_retZ F hr hlk narrow_b1 dX0_comesBefore_35
set_option maxHeartbeats 4000000 in
set_option maxRecDepth 100000 in
theorem c_X0_insert {l : Launch} {E : gEnv} (h : Nat → Nat) (b0 : Nat) (w0 : T0) (b1 : Nat) (w1 : T6) (a2 : Int32) (a3 : Int32) {o : T0} (hf : f_X0_insert w0 w1 a2 a3 = some o) : gM l yX0_insert cX0_insert 5 none rX0_insert E [.ref (h b0), .ref (h b1), .int a2, .int a3] [C0 E h b0 w0, C6 E h b1 w1] (none) [C0 E h b0 o, C6 E h b1 w1] := by
  refine gM.of (by decide +kernel) (Nat.le_of_ble_eq_true rfl) rfl ?_
  intro p e s m below meth c F hr hlk hK hX hAB ls hl H locs hG
  have F : gF p m c cX0_insert 5 s ([.ref (h b0), .ref (h b1), .int a2, .int a3] : List Value).toArray RX0 := F
  generalize ([.ref (h b0), .ref (h b1), .int a2, .int a3] : List Value).toArray = args at F ⊢
  generalize hQ : MQ below _ _ _ _ _ _ = Q
  generalize hA : gAd [C0 E h b0 w0, C6 E h b1 w1] = A at hAB hG
  have hl : lv_has ls 5 [(0, .ref (h b0)), (1, .ref (h b1)), (2, .int a2), (3, .int a3)] := hl
  have hx := F.1
  have hb := F.2.1
  unfold f_X0_insert at hf
  refine lv_aload_n hx hb dX0_insert_0 rfl (lv_at hl 0 rfl) ?_
  refine g_get F hK hG.1 0 0 1 flX0_15 rfl rfl rfl dX0_insert_1 ?_
  refine lv_bipush (v := 50) hx hb dX0_insert_4 (by decide) ?_
  refine lv_icmp_lt (tgt := 10) hx hb dX0_insert_6 (by decide) (fun c1 => ?_) (fun c1 => ?_)
  · have hf := g_it c1 hf
    refine lv_aload_n hx hb dX0_insert_10 rfl (lv_at hl 0 rfl) ?_
    refine g_get F hK hG.1 0 0 1 flX0_15 rfl rfl rfl dX0_insert_11 ?_
    refine lv_istore (lv' := [(4, .int w0.2), (0, .ref (h b0)), (1, .ref (h b1)), (2, .int a2), (3, .int a3)]) hx hb dX0_insert_14 hl (by decide) rfl (fun ls hl => ?_)
    obtain ⟨x3, hx3, hfx3⟩ := g_bnd hf
    have hEx3 : ∀ (H : Heap) (locs : List Loc), gS E A s.heap [C0 E h b0 x3.2, C6 E h b1 w1] H locs → ∀ ls : Array Slot, lv_has ls 5 [(0, .ref (h b0)), (2, .int a2), (4, .int x3.1)] → W p l e rX0_insert s m args below meth c H locs 0 0 Q (F0 m 61 ls []) := by
      intro H locs hG ls hl
      have hf := hfx3
      refine lv_aload_n hx hb dX0_insert_61 rfl (lv_at hl 0 rfl) ?_
      refine g_get F hK hG.1 0 0 0 flX0_9 rfl rfl rfl dX0_insert_62 ?_
      refine lv_iload hx hb dX0_insert_65 (lv_at hl 2 rfl) ?_
      refine lv_iload_n hx hb dX0_insert_67 rfl (lv_at hl 1 rfl) ?_
      obtain ⟨x10, hx10, hf⟩ := g_bnd hf
      refine g_iast F hK hG 0 1 rfl rfl hx10 dX0_insert_68 (fun H locs hG => ?_)
      have hG : gS E A s.heap [C0 E h b0 (x10, x3.2.2), C6 E h b1 w1] H locs := hG
      refine lv_aload_n hx hb dX0_insert_69 rfl (lv_at hl 0 rfl) ?_
      refine lv_dup hx hb dX0_insert_70 rfl ?_
      refine g_get F hK hG.1 0 0 1 flX0_15 rfl rfl rfl dX0_insert_71 ?_
      refine lv_iconst (v := 1) hx hb dX0_insert_74 (by decide) ?_
      refine lv_iadd hx hb dX0_insert_75 ?_
      refine g_put F hK hG 0 0 1 pfX0_15 rfl rfl (Nat.le_of_ble_eq_true rfl) rfl rfl dX0_insert_76 (fun H locs hG => ?_)
      have hG : gS E A s.heap [C0 E h b0 (x10, (x3.2.2 + 1)), C6 E h b1 w1] H locs := hG
      have ho := Option.some.inj hf
      subst hA
      rw [← hQ, ← ho]
      exact g_mretV F hr hlk hG dX0_insert_79
    refine lp_rule (fun (v2 : Int32 × T0) => ∀ (H : Heap) (locs : List Loc), gS E A s.heap [C0 E h b0 v2.2, C6 E h b1 w1] H locs → ∀ ls : Array Slot, lv_has ls 5 [(0, .ref (h b0)), (1, .ref (h b1)), (2, .int a2), (3, .int a3), (4, .int v2.1)] → W p l e rX0_insert s m args below meth c H locs 0 0 Q (F0 m 16 ls [])) ?_ _ _ hx3 _ _ hG ls (lv_sub hl [1, 2, 3, 4, 0] rfl)
    intro v2 y hf hbackv2 hexitv2 H locs hG ls hl
    refine lv_iload hx hb dX0_insert_16 (lv_at hl 4 rfl) ?_
    refine lv_if_le (tgt := 61) hx hb dX0_insert_18 (by decide) (fun c4 => ?_) (fun c4 => ?_)
    · have hf := g_it c4 hf
      obtain rfl := hexitv2 _ (Option.some.inj hf).symm
      exact hEx3 _ _ hG ls (lv_sub hl [0, 2, 4] rfl)
    · have hf := g_if c4 hf
      refine lv_aload_n hx hb dX0_insert_21 rfl (lv_at hl 1 rfl) ?_
      refine lv_iload_n hx hb dX0_insert_22 rfl (lv_at hl 2 rfl) ?_
      refine lv_aload_n hx hb dX0_insert_23 rfl (lv_at hl 0 rfl) ?_
      refine g_get F hK hG.1 0 0 0 flX0_9 rfl rfl rfl dX0_insert_24 ?_
      refine lv_iload hx hb dX0_insert_27 (lv_at hl 4 rfl) ?_
      refine lv_iconst (v := 1) hx hb dX0_insert_29 (by decide) ?_
      refine lv_isub hx hb dX0_insert_30 ?_
      obtain ⟨x5, hx5, hf⟩ := g_bnd hf
      refine g_iald F hK hG.1 0 1 rfl rfl hx5 dX0_insert_31 ?_
      refine lv_iload_n hx hb dX0_insert_32 rfl (lv_at hl 3 rfl) ?_
      obtain ⟨x6, hx6, hf⟩ := g_bnd hf
      refine g_rs (As := [.ref (h b1), .int a2, .int x5, .int a3]) (rest := []) F hK (hG.X hX hAB) hG.1 [1] rfl (c_X0_comesBefore h b1 w1 a2 x5 a3 hx6) (kX0_58 F.2.2.2.2 ⟨Nat.le_of_ble_eq_true rfl, Nat.le_of_ble_eq_true rfl⟩) rfl hl.1 rfl (lv_room (Nat.le_of_ble_eq_true rfl)) ⟨Nat.zero_le _, Nat.zero_le _⟩ dX0_insert_33 ?_
      refine lv_if_eq (tgt := 61) hx hb dX0_insert_36 (by decide) (fun c7 => ?_) (fun c7 => ?_)
      · have hf := g_it c7 hf
        obtain rfl := hexitv2 _ (Option.some.inj hf).symm
        exact hEx3 _ _ hG ls (lv_sub hl [0, 2, 4] rfl)
      · have hf := g_if c7 hf
        refine lv_aload_n hx hb dX0_insert_39 rfl (lv_at hl 0 rfl) ?_
        refine g_get F hK hG.1 0 0 0 flX0_9 rfl rfl rfl dX0_insert_40 ?_
        refine lv_iload hx hb dX0_insert_43 (lv_at hl 4 rfl) ?_
        refine lv_aload_n hx hb dX0_insert_45 rfl (lv_at hl 0 rfl) ?_
        refine g_get F hK hG.1 0 0 0 flX0_9 rfl rfl rfl dX0_insert_46 ?_
        refine lv_iload hx hb dX0_insert_49 (lv_at hl 4 rfl) ?_
        refine lv_iconst (v := 1) hx hb dX0_insert_51 (by decide) ?_
        refine lv_isub hx hb dX0_insert_52 ?_
        obtain ⟨x8, hx8, hf⟩ := g_bnd hf
        refine g_iald F hK hG.1 0 1 rfl rfl hx8 dX0_insert_53 ?_
        obtain ⟨x9, hx9, hf⟩ := g_bnd hf
        refine g_iast F hK hG 0 1 rfl rfl hx9 dX0_insert_54 (fun H locs hG => ?_)
        have hG : gS E A s.heap [C0 E h b0 (x9, v2.2.2), C6 E h b1 w1] H locs := hG
        refine lv_iinc (v := (v2.1 + (-1))) (lv' := [(4, .int (v2.1 + (-1))), (0, .ref (h b0)), (1, .ref (h b1)), (2, .int a2), (3, .int a3)]) hx hb dX0_insert_55 hl (k := 4) rfl rfl (by decide) rfl (fun ls hl => ?_)
        refine lv_goto (tgt := 16) hx hb dX0_insert_58 (by decide) ?_
        exact hbackv2 _ (Option.some.inj hf).symm _ _ hG ls (lv_sub hl [1, 2, 3, 4, 0] rfl)
  · have hf := g_if c1 hf
    have ho := Option.some.inj hf
    subst hA
    rw [← hQ, ← ho]
    exact g_mretV F hr hlk hG dX0_insert_9
set_option maxHeartbeats 4000000 in
set_option maxRecDepth 100000 in
theorem c_X0_find {l : Launch} {E : gEnv} (h : Nat → Nat) (b0 : Nat) (w0 : T0) (b1 : Nat) (w1 : T5) {o : T0} (hf : f_X0_find w0 w1 = some o) : gM l yX0_find cX0_find 6 none rX0_find E [.ref (h b0), .ref (h b1)] [C0 E h b0 w0, C5 E h b1 w1.2.2, C6 E h (b1+1) w1.1, C7 E h (b1+7) w1.2.1] (none) [C0 E h b0 o, C5 E h b1 w1.2.2, C6 E h (b1+1) w1.1, C7 E h (b1+7) w1.2.1] := by
  refine gM.of (by decide +kernel) (Nat.le_of_ble_eq_true rfl) rfl ?_
  intro p e s m below meth c F hr hlk hK hX hAB ls hl H locs hG
  have F : gF p m c cX0_find 6 s ([.ref (h b0), .ref (h b1)] : List Value).toArray RX0 := F
  generalize ([.ref (h b0), .ref (h b1)] : List Value).toArray = args at F ⊢
  generalize hQ : MQ below _ _ _ _ _ _ = Q
  generalize hA : gAd [C0 E h b0 w0, C5 E h b1 w1.2.2, C6 E h (b1+1) w1.1, C7 E h (b1+7) w1.2.1] = A at hAB hG
  have hl : lv_has ls 6 [(0, .ref (h b0)), (1, .ref (h b1))] := hl
  have hx := F.1
  have hb := F.2.1
  unfold f_X0_find at hf
  refine lv_aload_n hx hb dX0_find_0 rfl (lv_at hl 0 rfl) ?_
  refine lv_iconst (v := 0) hx hb dX0_find_1 (by decide) ?_
  refine g_put F hK hG 0 0 1 pfX0_15 rfl rfl (Nat.le_of_ble_eq_true rfl) rfl rfl dX0_find_2 (fun H locs hG => ?_)
  have hG : gS E A s.heap [C0 E h b0 (w0.1, 0), C5 E h b1 w1.2.2, C6 E h (b1+1) w1.1, C7 E h (b1+7) w1.2.1] H locs := hG
  refine lv_aload_n hx hb dX0_find_5 rfl (lv_at hl 1 rfl) ?_
  obtain ⟨x1, hx1, hf⟩ := g_bnd hf
  refine g_rv (As := []) (rest := []) F hK (hG.X hX hAB) hG.1 [1, 2, 3] rfl (c_X5_places h b1 w1 hx1) (kX0_19 F.2.2.2.2 ⟨Nat.le_of_ble_eq_true rfl, Nat.le_of_ble_eq_true rfl⟩) rfl rfl rfl rfl hl.1 rfl (lv_room (Nat.le_of_ble_eq_true rfl)) ⟨Nat.zero_le _, Nat.zero_le _⟩ dX0_find_6 ?_
  refine lv_istore_n (lv' := [(2, .int x1), (0, .ref (h b0)), (1, .ref (h b1))]) hx hb dX0_find_9 rfl hl (by decide) rfl (fun ls hl => ?_)
  refine lv_iload_n hx hb dX0_find_10 rfl (lv_at hl 0 rfl) ?_
  refine lv_if_ne (tgt := 15) hx hb dX0_find_11 (by decide) (fun c2 => ?_) (fun c2 => ?_)
  · have hf := g_if c2 hf
    refine lv_aload_n hx hb dX0_find_15 rfl (lv_at hl 2 rfl) ?_
    refine g_get F hK hG.1 1 0 0 flX0_25 rfl rfl rfl dX0_find_16 ?_
    refine lv_astore_n (lv' := [(3, .ref (h (b1+1))), (2, .int x1), (0, .ref (h b0)), (1, .ref (h b1))]) hx hb dX0_find_19 rfl hl (by decide) rfl (fun ls hl => ?_)
    refine lv_iconst (v := 0) hx hb dX0_find_20 (by decide) ?_
    refine lv_istore (lv' := [(4, .int 0), (3, .ref (h (b1+1))), (2, .int x1), (0, .ref (h b0)), (1, .ref (h b1))]) hx hb dX0_find_21 hl (by decide) rfl (fun ls hl => ?_)
    refine lp_rule (fun (v3 : Int32 × T0) => ∀ (H : Heap) (locs : List Loc), gS E A s.heap [C0 E h b0 v3.2, C5 E h b1 w1.2.2, C6 E h (b1+1) w1.1, C7 E h (b1+7) w1.2.1] H locs → ∀ ls : Array Slot, lv_has ls 6 [(0, .ref (h b0)), (1, .ref (h b1)), (2, .int x1), (3, .ref (h (b1+1))), (4, .int v3.1)] → W p l e rX0_find s m args below meth c H locs 0 0 Q (F0 m 23 ls [])) ?_ _ _ hf _ _ hG ls (lv_sub hl [3, 4, 2, 1, 0] rfl)
    intro v3 y hf hbackv3 hexitv3 H locs hG ls hl
    refine lv_iload hx hb dX0_find_23 (lv_at hl 4 rfl) ?_
    refine lv_aload_n hx hb dX0_find_25 rfl (lv_at hl 3 rfl) ?_
    refine g_get F hK hG.1 2 0 5 flX0_29 rfl rfl rfl dX0_find_26 ?_
    refine lv_icmp_ge (tgt := 83) hx hb dX0_find_29 (by decide) (fun c5 => ?_) (fun c5 => ?_)
    · have hf := g_it c5 hf
      have ho := hexitv3 _ (Option.some.inj hf).symm
      subst hA
      rw [← hQ, ← ho]
      exact g_mretV F hr hlk hG dX0_find_83
    · have hf := g_if c5 hf
      refine lv_aload_n hx hb dX0_find_32 rfl (lv_at hl 3 rfl) ?_
      refine lv_iload hx hb dX0_find_33 (lv_at hl 4 rfl) ?_
      obtain ⟨x6, hx6, hf⟩ := g_bnd hf
      refine g_rv (As := [.int v3.1]) (rest := []) F hK (hG.X hX hAB) hG.1 [2] rfl (c_X6_wordAt h (b1+1) w1.1 v3.1 hx6) (kX0_32 F.2.2.2.2 ⟨Nat.le_of_ble_eq_true rfl, Nat.le_of_ble_eq_true rfl⟩) rfl rfl rfl rfl hl.1 rfl (lv_room (Nat.le_of_ble_eq_true rfl)) ⟨Nat.zero_le _, Nat.zero_le _⟩ dX0_find_35 ?_
      refine lv_iload_n hx hb dX0_find_38 rfl (lv_at hl 2 rfl) ?_
      obtain ⟨x7, hx7, hf⟩ := g_bnd hf
      refine g_rs (As := [.long x6, .int x1]) (rest := []) F hK (hG.X hX hAB) hG.1 [] rfl (c_X4_has h x6 x1 hx7) (kX0_36 F.2.2.2.2 ⟨Nat.le_of_ble_eq_true rfl, Nat.le_of_ble_eq_true rfl⟩) rfl hl.1 rfl (lv_room (Nat.le_of_ble_eq_true rfl)) ⟨Nat.zero_le _, Nat.zero_le _⟩ dX0_find_39 ?_
      refine lv_istore (lv' := [(5, .int x7), (0, .ref (h b0)), (1, .ref (h b1)), (2, .int x1), (3, .ref (h (b1+1))), (4, .int v3.1)]) hx hb dX0_find_42 hl (by decide) rfl (fun ls hl => ?_)
      refine lv_aload_n hx hb dX0_find_44 rfl (lv_at hl 2 rfl) ?_
      refine g_get F hK hG.1 1 0 4 flX0_42 rfl rfl rfl dX0_find_45 ?_
      refine lv_if_ne (tgt := 56) hx hb dX0_find_48 (by decide) (fun c8 => ?_) (fun c8 => ?_)
      · have hf := g_if c8 hf
        refine lv_aload_n hx hb dX0_find_56 rfl (lv_at hl 4 rfl) ?_
        refine lv_iload hx hb dX0_find_57 (lv_at hl 5 rfl) ?_
        refine lv_aload_n hx hb dX0_find_59 rfl (lv_at hl 2 rfl) ?_
        refine g_get F hK hG.1 1 0 7 flX0_46 rfl rfl rfl dX0_find_60 ?_
        obtain ⟨x9, hx9, hf⟩ := g_bnd hf
        refine g_rv (As := [.int v3.1, .long w1.2.2.2.2.2.2.2.1]) (rest := []) F hK (hG.X hX hAB) hG.1 [2] rfl (c_X6_beginsWith h (b1+1) w1.1 v3.1 w1.2.2.2.2.2.2.2.1 hx9) (kX0_50 F.2.2.2.2 ⟨Nat.le_of_ble_eq_true rfl, Nat.le_of_ble_eq_true rfl⟩) rfl rfl rfl rfl hl.1 rfl (lv_room (Nat.le_of_ble_eq_true rfl)) ⟨Nat.zero_le _, Nat.zero_le _⟩ dX0_find_63 ?_
        refine lv_if_eq (tgt := 77) hx hb dX0_find_66 (by decide) (fun c10 => ?_) (fun c10 => ?_)
        · have hf := g_it c10 hf
          refine lv_iinc (v := (v3.1 + 1)) (lv' := [(4, .int (v3.1 + 1)), (5, .int x7), (0, .ref (h b0)), (1, .ref (h b1)), (2, .int x1), (3, .ref (h (b1+1)))]) hx hb dX0_find_77 hl (k := 5) rfl rfl (by decide) rfl (fun ls hl => ?_)
          refine lv_goto (tgt := 23) hx hb dX0_find_80 (by decide) ?_
          exact hbackv3 _ (Option.some.inj hf).symm _ _ hG ls (lv_sub hl [2, 3, 4, 5, 0] rfl)
        · have hf := g_if c10 hf
          refine lv_aload_n hx hb dX0_find_69 rfl (lv_at hl 1 rfl) ?_
          refine lv_aload_n hx hb dX0_find_70 rfl (lv_at hl 4 rfl) ?_
          refine lv_iload hx hb dX0_find_71 (lv_at hl 5 rfl) ?_
          refine lv_iload_n hx hb dX0_find_73 rfl (lv_at hl 3 rfl) ?_
          obtain ⟨x11, hx11, hf⟩ := g_bnd hf
          refine g_mvv (S' := [C0 E h b0 x11, C5 E h b1 w1.2.2, C6 E h (b1+1) w1.1, C7 E h (b1+7) w1.2.1]) (As := [.ref (h (b1+1)), .int v3.1, .int x1]) (rest := []) F hK hX hAB hG [0, 2] rfl rfl (c_X0_insert h b0 v3.2 (b1+1) w1.1 v3.1 x1 hx11) rfl (kX0_54 F.2.2.2.2 ⟨Nat.le_of_ble_eq_true rfl, Nat.le_of_ble_eq_true rfl⟩) rfl rfl rfl rfl hl.1 rfl (lv_room (Nat.le_of_ble_eq_true rfl)) ⟨Nat.zero_le _, Nat.zero_le _⟩ dX0_find_74 (fun H locs hG => ?_)
          refine lv_iinc (v := (v3.1 + 1)) (lv' := [(4, .int (v3.1 + 1)), (5, .int x7), (0, .ref (h b0)), (1, .ref (h b1)), (2, .int x1), (3, .ref (h (b1+1)))]) hx hb dX0_find_77 hl (k := 5) rfl rfl (by decide) rfl (fun ls hl => ?_)
          refine lv_goto (tgt := 23) hx hb dX0_find_80 (by decide) ?_
          exact hbackv3 _ (Option.some.inj hf).symm _ _ hG ls (lv_sub hl [2, 3, 4, 5, 0] rfl)
      · have hf := g_it c8 hf
        refine lv_iload hx hb dX0_find_51 (lv_at hl 0 rfl) ?_
        refine lv_if_ne (tgt := 77) hx hb dX0_find_53 (by decide) (fun c12 => ?_) (fun c12 => ?_)
        · have hf := g_if c12 hf
          refine lv_iinc (v := (v3.1 + 1)) (lv' := [(4, .int (v3.1 + 1)), (5, .int x7), (0, .ref (h b0)), (1, .ref (h b1)), (2, .int x1), (3, .ref (h (b1+1)))]) hx hb dX0_find_77 hl (k := 5) rfl rfl (by decide) rfl (fun ls hl => ?_)
          refine lv_goto (tgt := 23) hx hb dX0_find_80 (by decide) ?_
          exact hbackv3 _ (Option.some.inj hf).symm _ _ hG ls (lv_sub hl [2, 3, 4, 5, 0] rfl)
        · have hf := g_it c12 hf
          refine lv_aload_n hx hb dX0_find_56 rfl (lv_at hl 4 rfl) ?_
          refine lv_iload hx hb dX0_find_57 (lv_at hl 5 rfl) ?_
          refine lv_aload_n hx hb dX0_find_59 rfl (lv_at hl 2 rfl) ?_
          refine g_get F hK hG.1 1 0 7 flX0_46 rfl rfl rfl dX0_find_60 ?_
          obtain ⟨x13, hx13, hf⟩ := g_bnd hf
          refine g_rv (As := [.int v3.1, .long w1.2.2.2.2.2.2.2.1]) (rest := []) F hK (hG.X hX hAB) hG.1 [2] rfl (c_X6_beginsWith h (b1+1) w1.1 v3.1 w1.2.2.2.2.2.2.2.1 hx13) (kX0_50 F.2.2.2.2 ⟨Nat.le_of_ble_eq_true rfl, Nat.le_of_ble_eq_true rfl⟩) rfl rfl rfl rfl hl.1 rfl (lv_room (Nat.le_of_ble_eq_true rfl)) ⟨Nat.zero_le _, Nat.zero_le _⟩ dX0_find_63 ?_
          refine lv_if_eq (tgt := 77) hx hb dX0_find_66 (by decide) (fun c14 => ?_) (fun c14 => ?_)
          · have hf := g_it c14 hf
            refine lv_iinc (v := (v3.1 + 1)) (lv' := [(4, .int (v3.1 + 1)), (5, .int x7), (0, .ref (h b0)), (1, .ref (h b1)), (2, .int x1), (3, .ref (h (b1+1)))]) hx hb dX0_find_77 hl (k := 5) rfl rfl (by decide) rfl (fun ls hl => ?_)
            refine lv_goto (tgt := 23) hx hb dX0_find_80 (by decide) ?_
            exact hbackv3 _ (Option.some.inj hf).symm _ _ hG ls (lv_sub hl [2, 3, 4, 5, 0] rfl)
          · have hf := g_if c14 hf
            refine lv_aload_n hx hb dX0_find_69 rfl (lv_at hl 1 rfl) ?_
            refine lv_aload_n hx hb dX0_find_70 rfl (lv_at hl 4 rfl) ?_
            refine lv_iload hx hb dX0_find_71 (lv_at hl 5 rfl) ?_
            refine lv_iload_n hx hb dX0_find_73 rfl (lv_at hl 3 rfl) ?_
            obtain ⟨x15, hx15, hf⟩ := g_bnd hf
            refine g_mvv (S' := [C0 E h b0 x15, C5 E h b1 w1.2.2, C6 E h (b1+1) w1.1, C7 E h (b1+7) w1.2.1]) (As := [.ref (h (b1+1)), .int v3.1, .int x1]) (rest := []) F hK hX hAB hG [0, 2] rfl rfl (c_X0_insert h b0 v3.2 (b1+1) w1.1 v3.1 x1 hx15) rfl (kX0_54 F.2.2.2.2 ⟨Nat.le_of_ble_eq_true rfl, Nat.le_of_ble_eq_true rfl⟩) rfl rfl rfl rfl hl.1 rfl (lv_room (Nat.le_of_ble_eq_true rfl)) ⟨Nat.zero_le _, Nat.zero_le _⟩ dX0_find_74 (fun H locs hG => ?_)
            refine lv_iinc (v := (v3.1 + 1)) (lv' := [(4, .int (v3.1 + 1)), (5, .int x7), (0, .ref (h b0)), (1, .ref (h b1)), (2, .int x1), (3, .ref (h (b1+1)))]) hx hb dX0_find_77 hl (k := 5) rfl rfl (by decide) rfl (fun ls hl => ?_)
            refine lv_goto (tgt := 23) hx hb dX0_find_80 (by decide) ?_
            exact hbackv3 _ (Option.some.inj hf).symm _ _ hG ls (lv_sub hl [2, 3, 4, 5, 0] rfl)
  · have hf := g_it c2 hf
    have ho := Option.some.inj hf
    subst hA
    rw [← hQ, ← ho]
    exact g_mretV F hr hlk hG dX0_find_14
set_option maxHeartbeats 4000000 in
set_option maxRecDepth 100000 in
theorem c_X0_wordAt {l : Launch} {E : gEnv} (h : Nat → Nat) (b0 : Nat) (w0 : T0) (a1 : Int32) {o : Int32} (hf : f_X0_wordAt w0 a1 = some o) : gR l yX0_wordAt cX0_wordAt 2 (some .int) rX0_wordAt E [.ref (h b0), .int a1] [C0 E h b0 w0] (some (.int o)) := by
  refine gR.of (by decide +kernel) (Nat.le_of_ble_eq_true rfl) ?_
  intro p e s m below meth c F hr hlk hK hX hP ls hl
  have F : gF p m c cX0_wordAt 2 s ([.ref (h b0), .int a1] : List Value).toArray RX0 := F
  generalize ([.ref (h b0), .int a1] : List Value).toArray = args at F ⊢
  generalize hQ : MQ below _ _ _ _ _ _ = Q
  have hl : lv_has ls 2 [(0, .ref (h b0)), (1, .int a1)] := hl
  have hx := F.1
  have hb := F.2.1
  unfold f_X0_wordAt at hf
  refine lv_iload_n hx hb dX0_wordAt_0 rfl (lv_at hl 1 rfl) ?_
  refine lv_if_lt (tgt := 27) hx hb dX0_wordAt_1 (by decide) (fun c1 => ?_) (fun c1 => ?_)
  · have hf := g_it c1 hf
    refine lv_iconst (v := (-1)) hx hb dX0_wordAt_27 (by decide) ?_
    have ho := Option.some.inj hf
    rw [← hQ, ← ho]
    exact g_retI F hr hlk dX0_wordAt_28
  · have hf := g_if c1 hf
    refine lv_iload_n hx hb dX0_wordAt_4 rfl (lv_at hl 1 rfl) ?_
    refine lv_aload_n hx hb dX0_wordAt_5 rfl (lv_at hl 0 rfl) ?_
    refine g_get F hK hP 0 0 1 flX0_15 rfl rfl rfl dX0_wordAt_6 ?_
    refine lv_icmp_ge (tgt := 27) hx hb dX0_wordAt_9 (by decide) (fun c2 => ?_) (fun c2 => ?_)
    · have hf := g_it c2 hf
      refine lv_iconst (v := (-1)) hx hb dX0_wordAt_27 (by decide) ?_
      have ho := Option.some.inj hf
      rw [← hQ, ← ho]
      exact g_retI F hr hlk dX0_wordAt_28
    · have hf := g_if c2 hf
      refine lv_iload_n hx hb dX0_wordAt_12 rfl (lv_at hl 1 rfl) ?_
      refine lv_bipush (v := 50) hx hb dX0_wordAt_13 (by decide) ?_
      refine lv_icmp_ge (tgt := 27) hx hb dX0_wordAt_15 (by decide) (fun c3 => ?_) (fun c3 => ?_)
      · have hf := g_it c3 hf
        refine lv_iconst (v := (-1)) hx hb dX0_wordAt_27 (by decide) ?_
        have ho := Option.some.inj hf
        rw [← hQ, ← ho]
        exact g_retI F hr hlk dX0_wordAt_28
      · have hf := g_if c3 hf
        refine lv_aload_n hx hb dX0_wordAt_18 rfl (lv_at hl 0 rfl) ?_
        refine g_get F hK hP 0 0 0 flX0_9 rfl rfl rfl dX0_wordAt_19 ?_
        refine lv_iload_n hx hb dX0_wordAt_22 rfl (lv_at hl 1 rfl) ?_
        obtain ⟨x4, hx4, hf⟩ := g_bnd hf
        refine g_iald F hK hP 0 1 rfl rfl hx4 dX0_wordAt_23 ?_
        refine lv_goto (tgt := 28) hx hb dX0_wordAt_24 (by decide) ?_
        have ho := Option.some.inj hf
        rw [← hQ, ← ho]
        exact g_retI F hr hlk dX0_wordAt_28
set_option maxHeartbeats 4000000 in
set_option maxRecDepth 100000 in
theorem c_X7_has {l : Launch} {E : gEnv} (h : Nat → Nat) (b0 : Nat) (w0 : T7) (a1 : Int32) {o : Int32} (hf : f_X7_has w0 a1 = some o) : gR l yX7_has cX7_has 2 (some .boolean) rX7_has E [.ref (h b0), .int a1] [C7 E h b0 w0] (some (.int o)) := by
  refine gR.of (by decide +kernel) (Nat.le_of_ble_eq_true rfl) ?_
  intro p e s m below meth c F hr hlk hK hX hP ls hl
  have F : gF p m c cX7_has 2 s ([.ref (h b0), .int a1] : List Value).toArray RX7 := F
  generalize ([.ref (h b0), .int a1] : List Value).toArray = args at F ⊢
  generalize hQ : MQ below _ _ _ _ _ _ = Q
  have hl : lv_has ls 2 [(0, .ref (h b0)), (1, .int a1)] := hl
  have hx := F.1
  have hb := F.2.1
  unfold f_X7_has at hf
  refine lv_iload_n hx hb dX7_has_0 rfl (lv_at hl 1 rfl) ?_
  refine lv_if_lt (tgt := 22) hx hb dX7_has_1 (by decide) (fun c1 => ?_) (fun c1 => ?_)
  · have hf := g_it c1 hf
    refine lv_iconst (v := 0) hx hb dX7_has_22 (by decide) ?_
    have ho := Option.some.inj hf
    rw [← hQ, ← ho]
    exact g_retZ F hr hlk narrow_b0 dX7_has_23
  · have hf := g_if c1 hf
    refine lv_iload_n hx hb dX7_has_4 rfl (lv_at hl 1 rfl) ?_
    refine lv_aload_n hx hb dX7_has_5 rfl (lv_at hl 0 rfl) ?_
    refine g_get F hK hP 0 0 1 flX7_21 rfl rfl rfl dX7_has_6 ?_
    refine lv_icmp_ge (tgt := 22) hx hb dX7_has_9 (by decide) (fun c2 => ?_) (fun c2 => ?_)
    · have hf := g_it c2 hf
      refine lv_iconst (v := 0) hx hb dX7_has_22 (by decide) ?_
      have ho := Option.some.inj hf
      rw [← hQ, ← ho]
      exact g_retZ F hr hlk narrow_b0 dX7_has_23
    · have hf := g_if c2 hf
      refine lv_iload_n hx hb dX7_has_12 rfl (lv_at hl 1 rfl) ?_
      refine lv_bipush (v := 30) hx hb dX7_has_13 (by decide) ?_
      refine lv_icmp_ge (tgt := 22) hx hb dX7_has_15 (by decide) (fun c3 => ?_) (fun c3 => ?_)
      · have hf := g_it c3 hf
        refine lv_iconst (v := 0) hx hb dX7_has_22 (by decide) ?_
        have ho := Option.some.inj hf
        rw [← hQ, ← ho]
        exact g_retZ F hr hlk narrow_b0 dX7_has_23
      · have hf := g_if c3 hf
        refine lv_iconst (v := 1) hx hb dX7_has_18 (by decide) ?_
        refine lv_goto (tgt := 23) hx hb dX7_has_19 (by decide) ?_
        have ho := Option.some.inj hf
        rw [← hQ, ← ho]
        exact g_retZ F hr hlk narrow_b1 dX7_has_23
set_option maxHeartbeats 4000000 in
set_option maxRecDepth 100000 in
theorem c_X7_remove {l : Launch} {E : gEnv} (h : Nat → Nat) (b0 : Nat) (w0 : T7) (a1 : Int32) {o : T7} (hf : f_X7_remove w0 a1 = some o) : gM l yX7_remove cX7_remove 3 none rX7_remove E [.ref (h b0), .int a1] [C7 E h b0 w0] (none) [C7 E h b0 o] := by
  refine gM.of (by decide +kernel) (Nat.le_of_ble_eq_true rfl) rfl ?_
  intro p e s m below meth c F hr hlk hK hX hAB ls hl H locs hG
  have F : gF p m c cX7_remove 3 s ([.ref (h b0), .int a1] : List Value).toArray RX7 := F
  generalize ([.ref (h b0), .int a1] : List Value).toArray = args at F ⊢
  generalize hQ : MQ below _ _ _ _ _ _ = Q
  generalize hA : gAd [C7 E h b0 w0] = A at hAB hG
  have hl : lv_has ls 3 [(0, .ref (h b0)), (1, .int a1)] := hl
  have hx := F.1
  have hb := F.2.1
  unfold f_X7_remove at hf
  refine lv_aload_n hx hb dX7_remove_0 rfl (lv_at hl 0 rfl) ?_
  refine lv_iload_n hx hb dX7_remove_1 rfl (lv_at hl 1 rfl) ?_
  obtain ⟨x1, hx1, hf⟩ := g_bnd hf
  refine g_rv (As := [.int a1]) (rest := []) F hK (hG.X hX hAB) hG.1 [0] rfl (c_X7_has h b0 w0 a1 hx1) (kX7_25 F.2.2.2.2 ⟨Nat.le_of_ble_eq_true rfl, Nat.le_of_ble_eq_true rfl⟩) rfl rfl rfl rfl hl.1 rfl (lv_room (Nat.le_of_ble_eq_true rfl)) ⟨Nat.zero_le _, Nat.zero_le _⟩ dX7_remove_2 ?_
  refine lv_if_ne (tgt := 9) hx hb dX7_remove_5 (by decide) (fun c2 => ?_) (fun c2 => ?_)
  · have hf := g_if c2 hf
    refine lv_iload_n hx hb dX7_remove_9 rfl (lv_at hl 1 rfl) ?_
    refine lv_iconst (v := 1) hx hb dX7_remove_10 (by decide) ?_
    refine lv_iadd hx hb dX7_remove_11 ?_
    refine lv_istore_n (lv' := [(2, .int (a1 + 1)), (0, .ref (h b0)), (1, .int a1)]) hx hb dX7_remove_12 rfl hl (by decide) rfl (fun ls hl => ?_)
    obtain ⟨x4, hx4, hfx4⟩ := g_bnd hf
    have hEx4 : ∀ (H : Heap) (locs : List Loc), gS E A s.heap [C7 E h b0 x4] H locs → ∀ ls : Array Slot, lv_has ls 3 [(0, .ref (h b0))] → W p l e rX7_remove s m args below meth c H locs 0 0 Q (F0 m 41 ls []) := by
      intro H locs hG ls hl
      have hf := hfx4
      refine lv_aload_n hx hb dX7_remove_41 rfl (lv_at hl 0 rfl) ?_
      refine lv_dup hx hb dX7_remove_42 rfl ?_
      refine g_get F hK hG.1 0 0 1 flX7_21 rfl rfl rfl dX7_remove_43 ?_
      refine lv_iconst (v := 1) hx hb dX7_remove_46 (by decide) ?_
      refine lv_isub hx hb dX7_remove_47 ?_
      refine g_put F hK hG 0 0 1 pfX7_21 rfl rfl (Nat.le_of_ble_eq_true rfl) rfl rfl dX7_remove_48 (fun H locs hG => ?_)
      have hG : gS E A s.heap [C7 E h b0 (x4.1, (x4.2 - 1))] H locs := hG
      have ho := Option.some.inj hf
      subst hA
      rw [← hQ, ← ho]
      exact g_mretV F hr hlk hG dX7_remove_51
    refine lp_rule (fun (v3 : Int32 × T7) => ∀ (H : Heap) (locs : List Loc), gS E A s.heap [C7 E h b0 v3.2] H locs → ∀ ls : Array Slot, lv_has ls 3 [(0, .ref (h b0)), (2, .int v3.1)] → W p l e rX7_remove s m args below meth c H locs 0 0 Q (F0 m 13 ls [])) ?_ _ _ hx4 _ _ hG ls (lv_sub hl [1, 0] rfl)
    intro v3 y hf hbackv3 hexitv3 H locs hG ls hl
    refine lv_iload_n hx hb dX7_remove_13 rfl (lv_at hl 1 rfl) ?_
    refine lv_aload_n hx hb dX7_remove_14 rfl (lv_at hl 0 rfl) ?_
    refine g_get F hK hG.1 0 0 1 flX7_21 rfl rfl rfl dX7_remove_15 ?_
    refine lv_icmp_ge (tgt := 41) hx hb dX7_remove_18 (by decide) (fun c5 => ?_) (fun c5 => ?_)
    · have hf := g_it c5 hf
      obtain rfl := hexitv3 _ (Option.some.inj hf).symm
      exact hEx4 _ _ hG ls (lv_sub hl [0] rfl)
    · have hf := g_if c5 hf
      refine lv_aload_n hx hb dX7_remove_21 rfl (lv_at hl 0 rfl) ?_
      refine g_get F hK hG.1 0 0 0 flX7_9 rfl rfl rfl dX7_remove_22 ?_
      refine lv_iload_n hx hb dX7_remove_25 rfl (lv_at hl 1 rfl) ?_
      refine lv_iconst (v := 1) hx hb dX7_remove_26 (by decide) ?_
      refine lv_isub hx hb dX7_remove_27 ?_
      refine lv_aload_n hx hb dX7_remove_28 rfl (lv_at hl 0 rfl) ?_
      refine g_get F hK hG.1 0 0 0 flX7_9 rfl rfl rfl dX7_remove_29 ?_
      refine lv_iload_n hx hb dX7_remove_32 rfl (lv_at hl 1 rfl) ?_
      obtain ⟨x6, hx6, hf⟩ := g_bnd hf
      refine g_lald F hK hG.1 0 1 rfl rfl hx6 dX7_remove_33 ?_
      obtain ⟨x7, hx7, hf⟩ := g_bnd hf
      refine g_last F hK hG 0 1 rfl rfl hx7 dX7_remove_34 (fun H locs hG => ?_)
      have hG : gS E A s.heap [C7 E h b0 (x7, v3.2.2)] H locs := hG
      refine lv_iinc (v := (v3.1 + 1)) (lv' := [(2, .int (v3.1 + 1)), (0, .ref (h b0))]) hx hb dX7_remove_35 hl (k := 1) rfl rfl (by decide) rfl (fun ls hl => ?_)
      refine lv_goto (tgt := 13) hx hb dX7_remove_38 (by decide) ?_
      exact hbackv3 _ (Option.some.inj hf).symm _ _ hG ls (lv_sub hl [1, 0] rfl)
  · have hf := g_it c2 hf
    have ho := Option.some.inj hf
    subst hA
    rw [← hQ, ← ho]
    exact g_mretV F hr hlk hG dX7_remove_8
set_option maxHeartbeats 4000000 in
set_option maxRecDepth 100000 in
theorem c_X5_dropLastPlace {l : Launch} {E : gEnv} (h : Nat → Nat) (b0 : Nat) (w0 : T5) {o : T5s × T7} (hf : f_X5_dropLastPlace w0 = some o) : gM l yX5_dropLastPlace cX5_dropLastPlace 1 none rX5_dropLastPlace E [.ref (h b0)] [C5 E h b0 w0.2.2, C6 E h (b0+1) w0.1, C7 E h (b0+7) w0.2.1] (none) [C5 E h b0 o.1, C6 E h (b0+1) w0.1, C7 E h (b0+7) o.2] := by
  refine gM.of (by decide +kernel) (Nat.le_of_ble_eq_true rfl) rfl ?_
  intro p e s m below meth c F hr hlk hK hX hAB ls hl H locs hG
  have F : gF p m c cX5_dropLastPlace 1 s ([.ref (h b0)] : List Value).toArray RX5 := F
  generalize ([.ref (h b0)] : List Value).toArray = args at F ⊢
  generalize hQ : MQ below _ _ _ _ _ _ = Q
  generalize hA : gAd [C5 E h b0 w0.2.2, C6 E h (b0+1) w0.1, C7 E h (b0+7) w0.2.1] = A at hAB hG
  have hl : lv_has ls 1 [(0, .ref (h b0))] := hl
  have hx := F.1
  have hb := F.2.1
  unfold f_X5_dropLastPlace at hf
  refine lv_aload_n hx hb dX5_dropLastPlace_0 rfl (lv_at hl 0 rfl) ?_
  refine lv_aload_n hx hb dX5_dropLastPlace_1 rfl (lv_at hl 0 rfl) ?_
  refine g_get F hK hG.1 0 0 7 flX5_34 rfl rfl rfl dX5_dropLastPlace_2 ?_
  refine lv_aload_n hx hb dX5_dropLastPlace_5 rfl (lv_at hl 0 rfl) ?_
  obtain ⟨x1, hx1, hf⟩ := g_bnd hf
  refine g_rv (As := []) (rest := [.long w0.2.2.2.2.2.2.2.1, .ref (h b0)]) F hK (hG.X hX hAB) hG.1 [0, 1, 2] rfl (c_X5_places h b0 w0 hx1) (kX5_65 F.2.2.2.2 ⟨Nat.le_of_ble_eq_true rfl, Nat.le_of_ble_eq_true rfl⟩) rfl rfl rfl rfl hl.1 rfl (lv_room (Nat.le_of_ble_eq_true rfl)) ⟨Nat.zero_le _, Nat.zero_le _⟩ dX5_dropLastPlace_6 ?_
  refine lv_iconst (v := 1) hx hb dX5_dropLastPlace_9 (by decide) ?_
  refine lv_isub hx hb dX5_dropLastPlace_10 ?_
  obtain ⟨x2, hx2, hf⟩ := g_bnd hf
  refine g_rs (As := [.long w0.2.2.2.2.2.2.2.1, .int (x1 - 1)]) (rest := [.ref (h b0)]) F hK (hG.X hX hAB) hG.1 [] rfl (c_X4_firstOf h w0.2.2.2.2.2.2.2.1 (x1 - 1) hx2) (kX5_92 F.2.2.2.2 ⟨Nat.le_of_ble_eq_true rfl, Nat.le_of_ble_eq_true rfl⟩) rfl hl.1 rfl (lv_room (Nat.le_of_ble_eq_true rfl)) ⟨Nat.zero_le _, Nat.zero_le _⟩ dX5_dropLastPlace_11 ?_
  refine g_put F hK hG 0 0 7 pfX5_34 rfl rfl (Nat.le_of_ble_eq_true rfl) rfl rfl dX5_dropLastPlace_14 (fun H locs hG => ?_)
  have hG : gS E A s.heap [C5 E h b0 (w0.2.2.1, w0.2.2.2.1, w0.2.2.2.2.1, w0.2.2.2.2.2.1, w0.2.2.2.2.2.2.1, x2, w0.2.2.2.2.2.2.2.2.1, w0.2.2.2.2.2.2.2.2.2), C6 E h (b0+1) w0.1, C7 E h (b0+7) w0.2.1] H locs := hG
  refine lv_aload_n hx hb dX5_dropLastPlace_17 rfl (lv_at hl 0 rfl) ?_
  refine lv_iconst (v := (-1)) hx hb dX5_dropLastPlace_18 (by decide) ?_
  refine g_put F hK hG 0 0 6 pfX5_29 rfl rfl (Nat.le_of_ble_eq_true rfl) rfl rfl dX5_dropLastPlace_19 (fun H locs hG => ?_)
  have hG : gS E A s.heap [C5 E h b0 (w0.2.2.1, w0.2.2.2.1, w0.2.2.2.2.1, w0.2.2.2.2.2.1, (-1), x2, w0.2.2.2.2.2.2.2.2.1, w0.2.2.2.2.2.2.2.2.2), C6 E h (b0+1) w0.1, C7 E h (b0+7) w0.2.1] H locs := hG
  refine lv_aload_n hx hb dX5_dropLastPlace_22 rfl (lv_at hl 0 rfl) ?_
  refine lv_iconst (v := 0) hx hb dX5_dropLastPlace_23 (by decide) ?_
  refine g_put F hK hG 0 0 8 pfX5_58 rfl rfl (Nat.le_of_ble_eq_true rfl) rfl rfl dX5_dropLastPlace_24 (fun H locs hG => ?_)
  have hG : gS E A s.heap [C5 E h b0 (w0.2.2.1, w0.2.2.2.1, w0.2.2.2.2.1, w0.2.2.2.2.2.1, (-1), x2, 0, w0.2.2.2.2.2.2.2.2.2), C6 E h (b0+1) w0.1, C7 E h (b0+7) w0.2.1] H locs := hG
  refine lv_aload_n hx hb dX5_dropLastPlace_27 rfl (lv_at hl 0 rfl) ?_
  refine g_get F hK hG.1 0 0 7 flX5_34 rfl rfl rfl dX5_dropLastPlace_28 ?_
  refine lv_lconst (v := 0) hx hb dX5_dropLastPlace_31 rfl ?_
  refine g_lc_ne (tgt := 60) hx hb dX5_dropLastPlace_32 dX5_dropLastPlace_33 (by decide) (fun c3 => ?_) (fun c3 => ?_)
  · have hf := g_if c3 hf
    have ho := Option.some.inj hf
    subst hA
    rw [← hQ, ← ho]
    exact g_mretV F hr hlk hG dX5_dropLastPlace_60
  · have hf := g_it c3 hf
    refine lv_aload_n hx hb dX5_dropLastPlace_36 rfl (lv_at hl 0 rfl) ?_
    refine g_get F hK hG.1 0 0 9 flX5_38 rfl rfl rfl dX5_dropLastPlace_37 ?_
    refine lv_iconst (v := (-1)) hx hb dX5_dropLastPlace_40 (by decide) ?_
    refine lv_icmp_eq (tgt := 60) hx hb dX5_dropLastPlace_41 (by decide) (fun c4 => ?_) (fun c4 => ?_)
    · have hf := g_it c4 hf
      have ho := Option.some.inj hf
      subst hA
      rw [← hQ, ← ho]
      exact g_mretV F hr hlk hG dX5_dropLastPlace_60
    · have hf := g_if c4 hf
      refine lv_aload_n hx hb dX5_dropLastPlace_44 rfl (lv_at hl 0 rfl) ?_
      refine g_get F hK hG.1 0 0 1 flX5_21 rfl rfl rfl dX5_dropLastPlace_45 ?_
      refine lv_aload_n hx hb dX5_dropLastPlace_48 rfl (lv_at hl 0 rfl) ?_
      refine g_get F hK hG.1 0 0 9 flX5_38 rfl rfl rfl dX5_dropLastPlace_49 ?_
      obtain ⟨x5, hx5, hf⟩ := g_bnd hf
      refine g_mvv (S' := [C5 E h b0 (w0.2.2.1, w0.2.2.2.1, w0.2.2.2.2.1, w0.2.2.2.2.2.1, (-1), x2, 0, w0.2.2.2.2.2.2.2.2.2), C6 E h (b0+1) w0.1, C7 E h (b0+7) x5]) (As := [.int w0.2.2.2.2.2.2.2.2.2]) (rest := []) F hK hX hAB hG [2] rfl rfl (c_X7_remove h (b0+7) w0.2.1 w0.2.2.2.2.2.2.2.2.2 hx5) rfl (kX5_96 F.2.2.2.2 ⟨Nat.le_of_ble_eq_true rfl, Nat.le_of_ble_eq_true rfl⟩) rfl rfl rfl rfl hl.1 rfl (lv_room (Nat.le_of_ble_eq_true rfl)) ⟨Nat.zero_le _, Nat.zero_le _⟩ dX5_dropLastPlace_52 (fun H locs hG => ?_)
      refine lv_aload_n hx hb dX5_dropLastPlace_55 rfl (lv_at hl 0 rfl) ?_
      refine lv_iconst (v := (-1)) hx hb dX5_dropLastPlace_56 (by decide) ?_
      refine g_put F hK hG 0 0 9 pfX5_38 rfl rfl (Nat.le_of_ble_eq_true rfl) rfl rfl dX5_dropLastPlace_57 (fun H locs hG => ?_)
      have hG : gS E A s.heap [C5 E h b0 (w0.2.2.1, w0.2.2.2.1, w0.2.2.2.2.1, w0.2.2.2.2.2.1, (-1), x2, 0, (-1)), C6 E h (b0+1) w0.1, C7 E h (b0+7) x5] H locs := hG
      have ho := Option.some.inj hf
      subst hA
      rw [← hQ, ← ho]
      exact g_mretV F hr hlk hG dX5_dropLastPlace_60
set_option maxHeartbeats 4000000 in
set_option maxRecDepth 100000 in
theorem c_X7_addWord {l : Launch} {E : gEnv} (h : Nat → Nat) (b0 : Nat) (w0 : T7) (a1 : Int64) {o : T7} (hf : f_X7_addWord w0 a1 = some o) : gM l yX7_addWord cX7_addWord 3 none rX7_addWord E [.ref (h b0), .long a1] [C7 E h b0 w0] (none) [C7 E h b0 o] := by
  refine gM.of (by decide +kernel) (Nat.le_of_ble_eq_true rfl) rfl ?_
  intro p e s m below meth c F hr hlk hK hX hAB ls hl H locs hG
  have F : gF p m c cX7_addWord 3 s ([.ref (h b0), .long a1] : List Value).toArray RX7 := F
  generalize ([.ref (h b0), .long a1] : List Value).toArray = args at F ⊢
  generalize hQ : MQ below _ _ _ _ _ _ = Q
  generalize hA : gAd [C7 E h b0 w0] = A at hAB hG
  have hl : lv_has ls 3 [(0, .ref (h b0)), (1, .long a1)] := hl
  have hx := F.1
  have hb := F.2.1
  unfold f_X7_addWord at hf
  refine lv_aload_n hx hb dX7_addWord_0 rfl (lv_at hl 0 rfl) ?_
  refine g_get F hK hG.1 0 0 1 flX7_21 rfl rfl rfl dX7_addWord_1 ?_
  refine lv_bipush (v := 30) hx hb dX7_addWord_4 (by decide) ?_
  refine lv_icmp_ge (tgt := 29) hx hb dX7_addWord_6 (by decide) (fun c1 => ?_) (fun c1 => ?_)
  · have hf := g_it c1 hf
    have ho := Option.some.inj hf
    subst hA
    rw [← hQ, ← ho]
    exact g_mretV F hr hlk hG dX7_addWord_29
  · have hf := g_if c1 hf
    refine lv_aload_n hx hb dX7_addWord_9 rfl (lv_at hl 0 rfl) ?_
    refine g_get F hK hG.1 0 0 0 flX7_9 rfl rfl rfl dX7_addWord_10 ?_
    refine lv_aload_n hx hb dX7_addWord_13 rfl (lv_at hl 0 rfl) ?_
    refine g_get F hK hG.1 0 0 1 flX7_21 rfl rfl rfl dX7_addWord_14 ?_
    refine lv_lload_n hx hb dX7_addWord_17 rfl (lv_at hl 1 rfl) ?_
    obtain ⟨x2, hx2, hf⟩ := g_bnd hf
    refine g_last F hK hG 0 1 rfl rfl hx2 dX7_addWord_18 (fun H locs hG => ?_)
    have hG : gS E A s.heap [C7 E h b0 (x2, w0.2)] H locs := hG
    refine lv_aload_n hx hb dX7_addWord_19 rfl (lv_at hl 0 rfl) ?_
    refine lv_dup hx hb dX7_addWord_20 rfl ?_
    refine g_get F hK hG.1 0 0 1 flX7_21 rfl rfl rfl dX7_addWord_21 ?_
    refine lv_iconst (v := 1) hx hb dX7_addWord_24 (by decide) ?_
    refine lv_iadd hx hb dX7_addWord_25 ?_
    refine g_put F hK hG 0 0 1 pfX7_21 rfl rfl (Nat.le_of_ble_eq_true rfl) rfl rfl dX7_addWord_26 (fun H locs hG => ?_)
    have hG : gS E A s.heap [C7 E h b0 (x2, (w0.2 + 1))] H locs := hG
    have ho := Option.some.inj hf
    subst hA
    rw [← hQ, ← ho]
    exact g_mretV F hr hlk hG dX7_addWord_29
set_option maxHeartbeats 4000000 in
set_option maxRecDepth 100000 in
theorem c_X7_replace {l : Launch} {E : gEnv} (h : Nat → Nat) (b0 : Nat) (w0 : T7) (a1 : Int32) (a2 : Int64) {o : T7} (hf : f_X7_replace w0 a1 a2 = some o) : gM l yX7_replace cX7_replace 4 none rX7_replace E [.ref (h b0), .int a1, .long a2] [C7 E h b0 w0] (none) [C7 E h b0 o] := by
  refine gM.of (by decide +kernel) (Nat.le_of_ble_eq_true rfl) rfl ?_
  intro p e s m below meth c F hr hlk hK hX hAB ls hl H locs hG
  have F : gF p m c cX7_replace 4 s ([.ref (h b0), .int a1, .long a2] : List Value).toArray RX7 := F
  generalize ([.ref (h b0), .int a1, .long a2] : List Value).toArray = args at F ⊢
  generalize hQ : MQ below _ _ _ _ _ _ = Q
  generalize hA : gAd [C7 E h b0 w0] = A at hAB hG
  have hl : lv_has ls 4 [(0, .ref (h b0)), (1, .int a1), (2, .long a2)] := hl
  have hx := F.1
  have hb := F.2.1
  unfold f_X7_replace at hf
  refine lv_aload_n hx hb dX7_replace_0 rfl (lv_at hl 0 rfl) ?_
  refine lv_iload_n hx hb dX7_replace_1 rfl (lv_at hl 1 rfl) ?_
  obtain ⟨x1, hx1, hf⟩ := g_bnd hf
  refine g_rv (As := [.int a1]) (rest := []) F hK (hG.X hX hAB) hG.1 [0] rfl (c_X7_has h b0 w0 a1 hx1) (kX7_25 F.2.2.2.2 ⟨Nat.le_of_ble_eq_true rfl, Nat.le_of_ble_eq_true rfl⟩) rfl rfl rfl rfl hl.1 rfl (lv_room (Nat.le_of_ble_eq_true rfl)) ⟨Nat.zero_le _, Nat.zero_le _⟩ dX7_replace_2 ?_
  refine lv_if_eq (tgt := 15) hx hb dX7_replace_5 (by decide) (fun c2 => ?_) (fun c2 => ?_)
  · have hf := g_it c2 hf
    have ho := Option.some.inj hf
    subst hA
    rw [← hQ, ← ho]
    exact g_mretV F hr hlk hG dX7_replace_15
  · have hf := g_if c2 hf
    refine lv_aload_n hx hb dX7_replace_8 rfl (lv_at hl 0 rfl) ?_
    refine g_get F hK hG.1 0 0 0 flX7_9 rfl rfl rfl dX7_replace_9 ?_
    refine lv_iload_n hx hb dX7_replace_12 rfl (lv_at hl 1 rfl) ?_
    refine lv_lload_n hx hb dX7_replace_13 rfl (lv_at hl 2 rfl) ?_
    obtain ⟨x3, hx3, hf⟩ := g_bnd hf
    refine g_last F hK hG 0 1 rfl rfl hx3 dX7_replace_14 (fun H locs hG => ?_)
    have hG : gS E A s.heap [C7 E h b0 (x3, w0.2)] H locs := hG
    have ho := Option.some.inj hf
    subst hA
    rw [← hQ, ← ho]
    exact g_mretV F hr hlk hG dX7_replace_15
set_option maxHeartbeats 4000000 in
set_option maxRecDepth 100000 in
theorem c_X5_takeWord {l : Launch} {E : gEnv} (h : Nat → Nat) (b0 : Nat) (w0 : T5) (a1 : Int64) {o : T5s × T6 × T7} (hf : f_X5_takeWord w0 a1 = some o) : gM l yX5_takeWord cX5_takeWord 3 none rX5_takeWord E [.ref (h b0), .long a1] [C5 E h b0 w0.2.2, C6 E h (b0+1) w0.1, C7 E h (b0+7) w0.2.1] (none) [C5 E h b0 o.1, C6 E h (b0+1) o.2.1, C7 E h (b0+7) o.2.2] := by
  refine gM.of (by decide +kernel) (Nat.le_of_ble_eq_true rfl) rfl ?_
  intro p e s m below meth c F hr hlk hK hX hAB ls hl H locs hG
  have F : gF p m c cX5_takeWord 3 s ([.ref (h b0), .long a1] : List Value).toArray RX5 := F
  generalize ([.ref (h b0), .long a1] : List Value).toArray = args at F ⊢
  generalize hQ : MQ below _ _ _ _ _ _ = Q
  generalize hA : gAd [C5 E h b0 w0.2.2, C6 E h (b0+1) w0.1, C7 E h (b0+7) w0.2.1] = A at hAB hG
  have hl : lv_has ls 3 [(0, .ref (h b0)), (1, .long a1)] := hl
  have hx := F.1
  have hb := F.2.1
  unfold f_X5_takeWord at hf
  refine lv_aload_n hx hb dX5_takeWord_0 rfl (lv_at hl 0 rfl) ?_
  refine lv_dup hx hb dX5_takeWord_1 rfl ?_
  refine g_get F hK hG.1 0 0 2 flX5_48 rfl rfl rfl dX5_takeWord_2 ?_
  refine lv_iconst (v := 1) hx hb dX5_takeWord_5 (by decide) ?_
  refine lv_iadd hx hb dX5_takeWord_6 ?_
  refine g_put F hK hG 0 0 2 pfX5_48 rfl rfl (Nat.le_of_ble_eq_true rfl) rfl rfl dX5_takeWord_7 (fun H locs hG => ?_)
  have hG : gS E A s.heap [C5 E h b0 ((w0.2.2.1 + 1), w0.2.2.2.1, w0.2.2.2.2.1, w0.2.2.2.2.2.1, w0.2.2.2.2.2.2.1, w0.2.2.2.2.2.2.2.1, w0.2.2.2.2.2.2.2.2.1, w0.2.2.2.2.2.2.2.2.2), C6 E h (b0+1) w0.1, C7 E h (b0+7) w0.2.1] H locs := hG
  refine lv_aload_n hx hb dX5_takeWord_10 rfl (lv_at hl 0 rfl) ?_
  refine g_get F hK hG.1 0 0 0 flX5_12 rfl rfl rfl dX5_takeWord_11 ?_
  refine lv_lload_n hx hb dX5_takeWord_14 rfl (lv_at hl 1 rfl) ?_
  refine lv_aload_n hx hb dX5_takeWord_15 rfl (lv_at hl 0 rfl) ?_
  refine g_get F hK hG.1 0 0 2 flX5_48 rfl rfl rfl dX5_takeWord_16 ?_
  obtain ⟨x1, hx1, hf⟩ := g_bnd hf
  refine g_mvv (S' := [C5 E h b0 ((w0.2.2.1 + 1), w0.2.2.2.1, w0.2.2.2.2.1, w0.2.2.2.2.2.1, w0.2.2.2.2.2.2.1, w0.2.2.2.2.2.2.2.1, w0.2.2.2.2.2.2.2.2.1, w0.2.2.2.2.2.2.2.2.2), C6 E h (b0+1) x1, C7 E h (b0+7) w0.2.1]) (As := [.long a1, .int (w0.2.2.1 + 1)]) (rest := []) F hK hX hAB hG [1] rfl rfl (c_X6_countUse h (b0+1) w0.1 a1 (w0.2.2.1 + 1) hx1) rfl (kX5_104 F.2.2.2.2 ⟨Nat.le_of_ble_eq_true rfl, Nat.le_of_ble_eq_true rfl⟩) rfl rfl rfl rfl hl.1 rfl (lv_room (Nat.le_of_ble_eq_true rfl)) ⟨Nat.zero_le _, Nat.zero_le _⟩ dX5_takeWord_19 (fun H locs hG => ?_)
  refine lv_aload_n hx hb dX5_takeWord_22 rfl (lv_at hl 0 rfl) ?_
  refine g_get F hK hG.1 0 0 3 flX5_25 rfl rfl rfl dX5_takeWord_23 ?_
  obtain ⟨j2, hf, hfj2⟩ := g_bnd hf
  have hJj2 : ∀ (H : Heap) (locs : List Loc), gS E A s.heap [C5 E h b0 ((w0.2.2.1 + 1), w0.2.2.2.1, w0.2.2.2.2.1, w0.2.2.2.2.2.1, w0.2.2.2.2.2.2.1, w0.2.2.2.2.2.2.2.1, w0.2.2.2.2.2.2.2.2.1, w0.2.2.2.2.2.2.2.2.2), C6 E h (b0+1) j2, C7 E h (b0+7) w0.2.1] H locs → ∀ ls : Array Slot, lv_has ls 3 [(0, .ref (h b0)), (1, .long a1)] → W p l e rX5_takeWord s m args below meth c H locs 0 0 Q (F0 m 49 ls []) := by
    intro H locs hG ls hl
    have hf := hfj2
    refine lv_aload_n hx hb dX5_takeWord_49 rfl (lv_at hl 0 rfl) ?_
    refine g_get F hK hG.1 0 0 9 flX5_38 rfl rfl rfl dX5_takeWord_50 ?_
    refine lv_iconst (v := (-1)) hx hb dX5_takeWord_53 (by decide) ?_
    obtain ⟨j7, hf, hfj7⟩ := g_bnd hf
    have hJj7 : ∀ (H : Heap) (locs : List Loc), gS E A s.heap [C5 E h b0 ((w0.2.2.1 + 1), w0.2.2.2.1, w0.2.2.2.2.1, w0.2.2.2.2.2.1, w0.2.2.2.2.2.2.1, w0.2.2.2.2.2.2.2.1, w0.2.2.2.2.2.2.2.2.1, w0.2.2.2.2.2.2.2.2.2), C6 E h (b0+1) j2, C7 E h (b0+7) j7] H locs → ∀ ls : Array Slot, lv_has ls 3 [(0, .ref (h b0))] → W p l e rX5_takeWord s m args below meth c H locs 0 0 Q (F0 m 80 ls []) := by
      intro H locs hG ls hl
      have hf := hfj7
      refine lv_aload_n hx hb dX5_takeWord_80 rfl (lv_at hl 0 rfl) ?_
      refine lv_lconst (v := 0) hx hb dX5_takeWord_81 rfl ?_
      refine g_put F hK hG 0 0 7 pfX5_34 rfl rfl (Nat.le_of_ble_eq_true rfl) rfl rfl dX5_takeWord_82 (fun H locs hG => ?_)
      have hG : gS E A s.heap [C5 E h b0 ((w0.2.2.1 + 1), w0.2.2.2.1, w0.2.2.2.2.1, w0.2.2.2.2.2.1, w0.2.2.2.2.2.2.1, 0, w0.2.2.2.2.2.2.2.2.1, w0.2.2.2.2.2.2.2.2.2), C6 E h (b0+1) j2, C7 E h (b0+7) j7] H locs := hG
      refine lv_aload_n hx hb dX5_takeWord_85 rfl (lv_at hl 0 rfl) ?_
      refine lv_iconst (v := (-1)) hx hb dX5_takeWord_86 (by decide) ?_
      refine g_put F hK hG 0 0 6 pfX5_29 rfl rfl (Nat.le_of_ble_eq_true rfl) rfl rfl dX5_takeWord_87 (fun H locs hG => ?_)
      have hG : gS E A s.heap [C5 E h b0 ((w0.2.2.1 + 1), w0.2.2.2.1, w0.2.2.2.2.1, w0.2.2.2.2.2.1, (-1), 0, w0.2.2.2.2.2.2.2.2.1, w0.2.2.2.2.2.2.2.2.2), C6 E h (b0+1) j2, C7 E h (b0+7) j7] H locs := hG
      refine lv_aload_n hx hb dX5_takeWord_90 rfl (lv_at hl 0 rfl) ?_
      refine lv_iconst (v := 0) hx hb dX5_takeWord_91 (by decide) ?_
      refine g_put F hK hG 0 0 8 pfX5_58 rfl rfl (Nat.le_of_ble_eq_true rfl) rfl rfl dX5_takeWord_92 (fun H locs hG => ?_)
      have hG : gS E A s.heap [C5 E h b0 ((w0.2.2.1 + 1), w0.2.2.2.1, w0.2.2.2.2.1, w0.2.2.2.2.2.1, (-1), 0, 0, w0.2.2.2.2.2.2.2.2.2), C6 E h (b0+1) j2, C7 E h (b0+7) j7] H locs := hG
      refine lv_aload_n hx hb dX5_takeWord_95 rfl (lv_at hl 0 rfl) ?_
      refine lv_iconst (v := (-1)) hx hb dX5_takeWord_96 (by decide) ?_
      refine g_put F hK hG 0 0 9 pfX5_38 rfl rfl (Nat.le_of_ble_eq_true rfl) rfl rfl dX5_takeWord_97 (fun H locs hG => ?_)
      have hG : gS E A s.heap [C5 E h b0 ((w0.2.2.1 + 1), w0.2.2.2.1, w0.2.2.2.2.1, w0.2.2.2.2.2.1, (-1), 0, 0, (-1)), C6 E h (b0+1) j2, C7 E h (b0+7) j7] H locs := hG
      have ho := Option.some.inj hf
      subst hA
      rw [← hQ, ← ho]
      exact g_mretV F hr hlk hG dX5_takeWord_100
    refine lv_icmp_ne (tgt := 68) hx hb dX5_takeWord_54 (by decide) (fun c8 => ?_) (fun c8 => ?_)
    · have hf := g_if c8 hf
      refine lv_aload_n hx hb dX5_takeWord_68 rfl (lv_at hl 0 rfl) ?_
      refine g_get F hK hG.1 0 0 1 flX5_21 rfl rfl rfl dX5_takeWord_69 ?_
      refine lv_aload_n hx hb dX5_takeWord_72 rfl (lv_at hl 0 rfl) ?_
      refine g_get F hK hG.1 0 0 9 flX5_38 rfl rfl rfl dX5_takeWord_73 ?_
      refine lv_lload_n hx hb dX5_takeWord_76 rfl (lv_at hl 1 rfl) ?_
      obtain ⟨x9, hx9, hf⟩ := g_bnd hf
      refine g_mvv (S' := [C5 E h b0 ((w0.2.2.1 + 1), w0.2.2.2.1, w0.2.2.2.2.1, w0.2.2.2.2.2.1, w0.2.2.2.2.2.2.1, w0.2.2.2.2.2.2.2.1, w0.2.2.2.2.2.2.2.2.1, w0.2.2.2.2.2.2.2.2.2), C6 E h (b0+1) j2, C7 E h (b0+7) x9]) (As := [.int w0.2.2.2.2.2.2.2.2.2, .long a1]) (rest := []) F hK hX hAB hG [2] rfl rfl (c_X7_replace h (b0+7) w0.2.1 w0.2.2.2.2.2.2.2.2.2 a1 hx9) rfl (kX5_115 F.2.2.2.2 ⟨Nat.le_of_ble_eq_true rfl, Nat.le_of_ble_eq_true rfl⟩) rfl rfl rfl rfl hl.1 rfl (lv_room (Nat.le_of_ble_eq_true rfl)) ⟨Nat.zero_le _, Nat.zero_le _⟩ dX5_takeWord_77 (fun H locs hG => ?_)
      obtain rfl := Option.some.inj hf
      exact hJj7 _ _ hG ls (lv_sub hl [0] rfl)
    · have hf := g_it c8 hf
      refine lv_aload_n hx hb dX5_takeWord_57 rfl (lv_at hl 0 rfl) ?_
      refine g_get F hK hG.1 0 0 1 flX5_21 rfl rfl rfl dX5_takeWord_58 ?_
      refine lv_lload_n hx hb dX5_takeWord_61 rfl (lv_at hl 1 rfl) ?_
      obtain ⟨x10, hx10, hf⟩ := g_bnd hf
      refine g_mvv (S' := [C5 E h b0 ((w0.2.2.1 + 1), w0.2.2.2.1, w0.2.2.2.2.1, w0.2.2.2.2.2.1, w0.2.2.2.2.2.2.1, w0.2.2.2.2.2.2.2.1, w0.2.2.2.2.2.2.2.2.1, w0.2.2.2.2.2.2.2.2.2), C6 E h (b0+1) j2, C7 E h (b0+7) x10]) (As := [.long a1]) (rest := []) F hK hX hAB hG [2] rfl rfl (c_X7_addWord h (b0+7) w0.2.1 a1 hx10) rfl (kX5_112 F.2.2.2.2 ⟨Nat.le_of_ble_eq_true rfl, Nat.le_of_ble_eq_true rfl⟩) rfl rfl rfl rfl hl.1 rfl (lv_room (Nat.le_of_ble_eq_true rfl)) ⟨Nat.zero_le _, Nat.zero_le _⟩ dX5_takeWord_62 (fun H locs hG => ?_)
      refine lv_goto (tgt := 80) hx hb dX5_takeWord_65 (by decide) ?_
      obtain rfl := Option.some.inj hf
      exact hJj7 _ _ hG ls (lv_sub hl [0] rfl)
  refine lv_if_le (tgt := 49) hx hb dX5_takeWord_26 (by decide) (fun c3 => ?_) (fun c3 => ?_)
  · have hf := g_it c3 hf
    obtain rfl := Option.some.inj hf
    exact hJj2 _ _ hG ls (lv_sub hl [0, 1] rfl)
  · have hf := g_if c3 hf
    refine lv_aload_n hx hb dX5_takeWord_29 rfl (lv_at hl 0 rfl) ?_
    refine g_get F hK hG.1 0 0 2 flX5_48 rfl rfl rfl dX5_takeWord_30 ?_
    refine lv_aload_n hx hb dX5_takeWord_33 rfl (lv_at hl 0 rfl) ?_
    refine g_get F hK hG.1 0 0 3 flX5_25 rfl rfl rfl dX5_takeWord_34 ?_
    obtain ⟨u4, hu4, hf⟩ := g_bnd hf
    refine lv_irem hx hb dX5_takeWord_37 (nz_ne hu4) ?_
    refine lv_if_ne (tgt := 49) hx hb dX5_takeWord_38 (by decide) (fun c5 => ?_) (fun c5 => ?_)
    · have hf := g_if c5 hf
      obtain rfl := Option.some.inj hf
      exact hJj2 _ _ hG ls (lv_sub hl [0, 1] rfl)
    · have hf := g_it c5 hf
      refine lv_aload_n hx hb dX5_takeWord_41 rfl (lv_at hl 0 rfl) ?_
      refine g_get F hK hG.1 0 0 0 flX5_12 rfl rfl rfl dX5_takeWord_42 ?_
      refine lv_lload_n hx hb dX5_takeWord_45 rfl (lv_at hl 1 rfl) ?_
      obtain ⟨x6, hx6, hf⟩ := g_bnd hf
      refine g_mvv (S' := [C5 E h b0 ((w0.2.2.1 + 1), w0.2.2.2.1, w0.2.2.2.2.1, w0.2.2.2.2.2.1, w0.2.2.2.2.2.2.1, w0.2.2.2.2.2.2.2.1, w0.2.2.2.2.2.2.2.2.1, w0.2.2.2.2.2.2.2.2.2), C6 E h (b0+1) x6, C7 E h (b0+7) w0.2.1]) (As := [.long a1]) (rest := []) F hK hX hAB hG [1] rfl rfl (c_X6_ageAllBut h (b0+1) x1 a1 hx6) rfl (kX5_108 F.2.2.2.2 ⟨Nat.le_of_ble_eq_true rfl, Nat.le_of_ble_eq_true rfl⟩) rfl rfl rfl rfl hl.1 rfl (lv_room (Nat.le_of_ble_eq_true rfl)) ⟨Nat.zero_le _, Nat.zero_le _⟩ dX5_takeWord_46 (fun H locs hG => ?_)
      obtain rfl := Option.some.inj hf
      exact hJj2 _ _ hG ls (lv_sub hl [0, 1] rfl)
set_option maxHeartbeats 4000000 in
set_option maxRecDepth 100000 in
theorem c_X7_wordAt {l : Launch} {E : gEnv} (h : Nat → Nat) (b0 : Nat) (w0 : T7) (a1 : Int32) {o : Int64} (hf : f_X7_wordAt w0 a1 = some o) : gR l yX7_wordAt cX7_wordAt 2 (some .long) rX7_wordAt E [.ref (h b0), .int a1] [C7 E h b0 w0] (some (.long o)) := by
  refine gR.of (by decide +kernel) (Nat.le_of_ble_eq_true rfl) ?_
  intro p e s m below meth c F hr hlk hK hX hP ls hl
  have F : gF p m c cX7_wordAt 2 s ([.ref (h b0), .int a1] : List Value).toArray RX7 := F
  generalize ([.ref (h b0), .int a1] : List Value).toArray = args at F ⊢
  generalize hQ : MQ below _ _ _ _ _ _ = Q
  have hl : lv_has ls 2 [(0, .ref (h b0)), (1, .int a1)] := hl
  have hx := F.1
  have hb := F.2.1
  unfold f_X7_wordAt at hf
  refine lv_aload_n hx hb dX7_wordAt_0 rfl (lv_at hl 0 rfl) ?_
  refine lv_iload_n hx hb dX7_wordAt_1 rfl (lv_at hl 1 rfl) ?_
  obtain ⟨x1, hx1, hf⟩ := g_bnd hf
  refine g_rv (As := [.int a1]) (rest := []) F hK hX hP [0] rfl (c_X7_has h b0 w0 a1 hx1) (kX7_25 F.2.2.2.2 ⟨Nat.le_of_ble_eq_true rfl, Nat.le_of_ble_eq_true rfl⟩) rfl rfl rfl rfl hl.1 rfl (lv_room (Nat.le_of_ble_eq_true rfl)) ⟨Nat.zero_le _, Nat.zero_le _⟩ dX7_wordAt_2 ?_
  refine lv_if_eq (tgt := 17) hx hb dX7_wordAt_5 (by decide) (fun c2 => ?_) (fun c2 => ?_)
  · have hf := g_it c2 hf
    refine lv_lconst (v := 0) hx hb dX7_wordAt_17 rfl ?_
    have ho := Option.some.inj hf
    rw [← hQ, ← ho]
    exact g_retL F hr hlk dX7_wordAt_18
  · have hf := g_if c2 hf
    refine lv_aload_n hx hb dX7_wordAt_8 rfl (lv_at hl 0 rfl) ?_
    refine g_get F hK hP 0 0 0 flX7_9 rfl rfl rfl dX7_wordAt_9 ?_
    refine lv_iload_n hx hb dX7_wordAt_12 rfl (lv_at hl 1 rfl) ?_
    obtain ⟨x3, hx3, hf⟩ := g_bnd hf
    refine g_lald F hK hP 0 1 rfl rfl hx3 dX7_wordAt_13 ?_
    refine lv_goto (tgt := 18) hx hb dX7_wordAt_14 (by decide) ?_
    have ho := Option.some.inj hf
    rw [← hQ, ← ho]
    exact g_retL F hr hlk dX7_wordAt_18
set_option maxHeartbeats 4000000 in
set_option maxRecDepth 100000 in
theorem c_X5_openWritten {l : Launch} {E : gEnv} (h : Nat → Nat) (b0 : Nat) (w0 : T5) (a1 : Int32) {o : T5s} (hf : f_X5_openWritten w0 a1 = some o) : gM l yX5_openWritten cX5_openWritten 2 none rX5_openWritten E [.ref (h b0), .int a1] [C5 E h b0 w0.2.2, C6 E h (b0+1) w0.1, C7 E h (b0+7) w0.2.1] (none) [C5 E h b0 o, C6 E h (b0+1) w0.1, C7 E h (b0+7) w0.2.1] := by
  refine gM.of (by decide +kernel) (Nat.le_of_ble_eq_true rfl) rfl ?_
  intro p e s m below meth c F hr hlk hK hX hAB ls hl H locs hG
  have F : gF p m c cX5_openWritten 2 s ([.ref (h b0), .int a1] : List Value).toArray RX5 := F
  generalize ([.ref (h b0), .int a1] : List Value).toArray = args at F ⊢
  generalize hQ : MQ below _ _ _ _ _ _ = Q
  generalize hA : gAd [C5 E h b0 w0.2.2, C6 E h (b0+1) w0.1, C7 E h (b0+7) w0.2.1] = A at hAB hG
  have hl : lv_has ls 2 [(0, .ref (h b0)), (1, .int a1)] := hl
  have hx := F.1
  have hb := F.2.1
  unfold f_X5_openWritten at hf
  refine lv_aload_n hx hb dX5_openWritten_0 rfl (lv_at hl 0 rfl) ?_
  refine lv_aload_n hx hb dX5_openWritten_1 rfl (lv_at hl 0 rfl) ?_
  refine g_get F hK hG.1 0 0 1 flX5_21 rfl rfl rfl dX5_openWritten_2 ?_
  refine lv_iload_n hx hb dX5_openWritten_5 rfl (lv_at hl 1 rfl) ?_
  obtain ⟨x1, hx1, hf⟩ := g_bnd hf
  refine g_rv (As := [.int a1]) (rest := [.ref (h b0)]) F hK (hG.X hX hAB) hG.1 [2] rfl (c_X7_wordAt h (b0+7) w0.2.1 a1 hx1) (kX5_100 F.2.2.2.2 ⟨Nat.le_of_ble_eq_true rfl, Nat.le_of_ble_eq_true rfl⟩) rfl rfl rfl rfl hl.1 rfl (lv_room (Nat.le_of_ble_eq_true rfl)) ⟨Nat.zero_le _, Nat.zero_le _⟩ dX5_openWritten_6 ?_
  refine g_put F hK hG 0 0 7 pfX5_34 rfl rfl (Nat.le_of_ble_eq_true rfl) rfl rfl dX5_openWritten_9 (fun H locs hG => ?_)
  have hG : gS E A s.heap [C5 E h b0 (w0.2.2.1, w0.2.2.2.1, w0.2.2.2.2.1, w0.2.2.2.2.2.1, w0.2.2.2.2.2.2.1, x1, w0.2.2.2.2.2.2.2.2.1, w0.2.2.2.2.2.2.2.2.2), C6 E h (b0+1) w0.1, C7 E h (b0+7) w0.2.1] H locs := hG
  refine lv_aload_n hx hb dX5_openWritten_12 rfl (lv_at hl 0 rfl) ?_
  refine lv_iload_n hx hb dX5_openWritten_13 rfl (lv_at hl 1 rfl) ?_
  refine g_put F hK hG 0 0 9 pfX5_38 rfl rfl (Nat.le_of_ble_eq_true rfl) rfl rfl dX5_openWritten_14 (fun H locs hG => ?_)
  have hG : gS E A s.heap [C5 E h b0 (w0.2.2.1, w0.2.2.2.1, w0.2.2.2.2.1, w0.2.2.2.2.2.1, w0.2.2.2.2.2.2.1, x1, w0.2.2.2.2.2.2.2.2.1, a1), C6 E h (b0+1) w0.1, C7 E h (b0+7) w0.2.1] H locs := hG
  refine lv_aload_n hx hb dX5_openWritten_17 rfl (lv_at hl 0 rfl) ?_
  refine lv_iconst (v := 0) hx hb dX5_openWritten_18 (by decide) ?_
  refine g_put F hK hG 0 0 8 pfX5_58 rfl rfl (Nat.le_of_ble_eq_true rfl) rfl rfl dX5_openWritten_19 (fun H locs hG => ?_)
  have hG : gS E A s.heap [C5 E h b0 (w0.2.2.1, w0.2.2.2.1, w0.2.2.2.2.1, w0.2.2.2.2.2.1, w0.2.2.2.2.2.2.1, x1, 0, a1), C6 E h (b0+1) w0.1, C7 E h (b0+7) w0.2.1] H locs := hG
  have ho := Option.some.inj hf
  subst hA
  rw [← hQ, ← ho]
  exact g_mretV F hr hlk hG dX5_openWritten_22
set_option maxHeartbeats 4000000 in
set_option maxRecDepth 100000 in
theorem c_X0_firstWith {l : Launch} {E : gEnv} (h : Nat → Nat) (b0 : Nat) (w0 : T6) (a1 : Int64) {o : Int32} (hf : f_X0_firstWith w0 a1 = some o) : gR l yX0_firstWith cX0_firstWith 6 (some .int) rX0_firstWith E [.ref (h b0), .long a1] [C6 E h b0 w0] (some (.int o)) := by
  refine gR.of (by decide +kernel) (Nat.le_of_ble_eq_true rfl) ?_
  intro p e s m below meth c F hr hlk hK hX hP ls hl
  have F : gF p m c cX0_firstWith 6 s ([.ref (h b0), .long a1] : List Value).toArray RX0 := F
  generalize ([.ref (h b0), .long a1] : List Value).toArray = args at F ⊢
  generalize hQ : MQ below _ _ _ _ _ _ = Q
  have hl : lv_has ls 6 [(0, .ref (h b0)), (1, .long a1)] := hl
  have hx := F.1
  have hb := F.2.1
  unfold f_X0_firstWith at hf
  refine lv_lload_n hx hb dX0_firstWith_0 rfl (lv_at hl 1 rfl) ?_
  obtain ⟨x1, hx1, hf⟩ := g_bnd hf
  refine g_rs (As := [.long a1]) (rest := []) F hK hX hP [] rfl (c_X4_lengthOf h a1 hx1) (kX0_62 F.2.2.2.2 ⟨Nat.le_of_ble_eq_true rfl, Nat.le_of_ble_eq_true rfl⟩) rfl hl.1 rfl (lv_room (Nat.le_of_ble_eq_true rfl)) ⟨Nat.zero_le _, Nat.zero_le _⟩ dX0_firstWith_1 ?_
  refine lv_istore_n (lv' := [(3, .int x1), (0, .ref (h b0)), (1, .long a1)]) hx hb dX0_firstWith_4 rfl hl (by decide) rfl (fun ls hl => ?_)
  refine lv_iconst (v := (-1)) hx hb dX0_firstWith_5 (by decide) ?_
  refine lv_istore (lv' := [(4, .int (-1)), (3, .int x1), (0, .ref (h b0)), (1, .long a1)]) hx hb dX0_firstWith_6 hl (by decide) rfl (fun ls hl => ?_)
  refine lv_iconst (v := 0) hx hb dX0_firstWith_8 (by decide) ?_
  refine lv_istore (lv' := [(5, .int 0), (4, .int (-1)), (3, .int x1), (0, .ref (h b0)), (1, .long a1)]) hx hb dX0_firstWith_9 hl (by decide) rfl (fun ls hl => ?_)
  refine lp_rule (fun (v2 : Int32 × Int32) => ∀ ls : Array Slot, lv_has ls 6 [(0, .ref (h b0)), (1, .long a1), (3, .int x1), (4, .int v2.1), (5, .int v2.2)] → W p l e rX0_firstWith s m args below meth c s.heap [] 0 0 Q (F0 m 11 ls [])) ?_ _ _ hf ls (lv_sub hl [3, 4, 2, 1, 0] rfl)
  intro v2 y hf hbackv2 hexitv2 ls hl
  refine lv_iload hx hb dX0_firstWith_11 (lv_at hl 4 rfl) ?_
  refine lv_aload_n hx hb dX0_firstWith_13 rfl (lv_at hl 0 rfl) ?_
  refine g_get F hK hP 0 0 5 flX0_29 rfl rfl rfl dX0_firstWith_14 ?_
  refine lv_icmp_ge (tgt := 58) hx hb dX0_firstWith_17 (by decide) (fun c4 => ?_) (fun c4 => ?_)
  · have hf := g_it c4 hf
    refine lv_iload hx hb dX0_firstWith_58 (lv_at hl 3 rfl) ?_
    have ho := hexitv2 _ (Option.some.inj hf).symm
    rw [← hQ, ← ho]
    exact g_retI F hr hlk dX0_firstWith_60
  · have hf := g_if c4 hf
    refine lv_aload_n hx hb dX0_firstWith_20 rfl (lv_at hl 0 rfl) ?_
    refine lv_iload hx hb dX0_firstWith_21 (lv_at hl 4 rfl) ?_
    refine lv_lload_n hx hb dX0_firstWith_23 rfl (lv_at hl 1 rfl) ?_
    obtain ⟨x5, hx5, hf⟩ := g_bnd hf
    refine g_rv (As := [.int v2.2, .long a1]) (rest := []) F hK hX hP [0] rfl (c_X6_beginsWith h b0 w0 v2.2 a1 hx5) (kX0_50 F.2.2.2.2 ⟨Nat.le_of_ble_eq_true rfl, Nat.le_of_ble_eq_true rfl⟩) rfl rfl rfl rfl hl.1 rfl (lv_room (Nat.le_of_ble_eq_true rfl)) ⟨Nat.zero_le _, Nat.zero_le _⟩ dX0_firstWith_24 ?_
    refine lv_if_eq (tgt := 52) hx hb dX0_firstWith_27 (by decide) (fun c6 => ?_) (fun c6 => ?_)
    · have hf := g_it c6 hf
      refine lv_iinc (v := (v2.2 + 1)) (lv' := [(5, .int (v2.2 + 1)), (0, .ref (h b0)), (1, .long a1), (3, .int x1), (4, .int v2.1)]) hx hb dX0_firstWith_52 hl (k := 4) rfl rfl (by decide) rfl (fun ls hl => ?_)
      refine lv_goto (tgt := 11) hx hb dX0_firstWith_55 (by decide) ?_
      exact hbackv2 _ (Option.some.inj hf).symm ls (lv_sub hl [1, 2, 3, 4, 0] rfl)
    · have hf := g_if c6 hf
      refine lv_iload hx hb dX0_firstWith_30 (lv_at hl 3 rfl) ?_
      refine lv_iconst (v := (-1)) hx hb dX0_firstWith_32 (by decide) ?_
      refine lv_icmp_eq (tgt := 48) hx hb dX0_firstWith_33 (by decide) (fun c7 => ?_) (fun c7 => ?_)
      · have hf := g_it c7 hf
        refine lv_iload hx hb dX0_firstWith_48 (lv_at hl 4 rfl) ?_
        refine lv_istore (lv' := [(4, .int v2.2), (0, .ref (h b0)), (1, .long a1), (3, .int x1), (5, .int v2.2)]) hx hb dX0_firstWith_50 hl (by decide) rfl (fun ls hl => ?_)
        refine lv_iinc (v := (v2.2 + 1)) (lv' := [(5, .int (v2.2 + 1)), (4, .int v2.2), (0, .ref (h b0)), (1, .long a1), (3, .int x1)]) hx hb dX0_firstWith_52 hl (k := 4) rfl rfl (by decide) rfl (fun ls hl => ?_)
        refine lv_goto (tgt := 11) hx hb dX0_firstWith_55 (by decide) ?_
        exact hbackv2 _ (Option.some.inj hf).symm ls (lv_sub hl [2, 3, 4, 1, 0] rfl)
      · have hf := g_if c7 hf
        refine lv_aload_n hx hb dX0_firstWith_36 rfl (lv_at hl 0 rfl) ?_
        refine lv_iload hx hb dX0_firstWith_37 (lv_at hl 4 rfl) ?_
        refine lv_iload hx hb dX0_firstWith_39 (lv_at hl 3 rfl) ?_
        refine lv_iload_n hx hb dX0_firstWith_41 rfl (lv_at hl 2 rfl) ?_
        obtain ⟨x8, hx8, hf⟩ := g_bnd hf
        refine g_rs (As := [.ref (h b0), .int v2.2, .int v2.1, .int x1]) (rest := []) F hK hX hP [0] rfl (c_X0_comesBefore h b0 w0 v2.2 v2.1 x1 hx8) (kX0_58 F.2.2.2.2 ⟨Nat.le_of_ble_eq_true rfl, Nat.le_of_ble_eq_true rfl⟩) rfl hl.1 rfl (lv_room (Nat.le_of_ble_eq_true rfl)) ⟨Nat.zero_le _, Nat.zero_le _⟩ dX0_firstWith_42 ?_
        refine lv_if_eq (tgt := 52) hx hb dX0_firstWith_45 (by decide) (fun c9 => ?_) (fun c9 => ?_)
        · have hf := g_it c9 hf
          refine lv_iinc (v := (v2.2 + 1)) (lv' := [(5, .int (v2.2 + 1)), (0, .ref (h b0)), (1, .long a1), (3, .int x1), (4, .int v2.1)]) hx hb dX0_firstWith_52 hl (k := 4) rfl rfl (by decide) rfl (fun ls hl => ?_)
          refine lv_goto (tgt := 11) hx hb dX0_firstWith_55 (by decide) ?_
          exact hbackv2 _ (Option.some.inj hf).symm ls (lv_sub hl [1, 2, 3, 4, 0] rfl)
        · have hf := g_if c9 hf
          refine lv_iload hx hb dX0_firstWith_48 (lv_at hl 4 rfl) ?_
          refine lv_istore (lv' := [(4, .int v2.2), (0, .ref (h b0)), (1, .long a1), (3, .int x1), (5, .int v2.2)]) hx hb dX0_firstWith_50 hl (by decide) rfl (fun ls hl => ?_)
          refine lv_iinc (v := (v2.2 + 1)) (lv' := [(5, .int (v2.2 + 1)), (4, .int v2.2), (0, .ref (h b0)), (1, .long a1), (3, .int x1)]) hx hb dX0_firstWith_52 hl (k := 4) rfl rfl (by decide) rfl (fun ls hl => ?_)
          refine lv_goto (tgt := 11) hx hb dX0_firstWith_55 (by decide) ?_
          exact hbackv2 _ (Option.some.inj hf).symm ls (lv_sub hl [2, 3, 4, 1, 0] rfl)
