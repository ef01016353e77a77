set_option maxHeartbeats 4000000 in
set_option maxRecDepth 100000 in
theorem c_X6_clear {l : Launch} {E : gEnv} (h : Nat → Nat) (b0 : Nat) (w0 : T6) {o : T6} (hf : f_X6_clear w0 = some o) : gM l yX6_clear cX6_clear 1 none rX6_clear E [.ref (h b0)] [C6 E h b0 w0] (none) [C6 E h b0 o] := by
  refine gM.of (by decide +kernel) (Nat.le_of_ble_eq_true rfl) rfl ?_
  intro p e s m below meth c F hr hlk hK hX hAB ls hl H locs hG
  have F : gF p m c cX6_clear 1 s ([.ref (h b0)] : List Value).toArray RX6 := F
  generalize ([.ref (h b0)] : List Value).toArray = args at F ⊢
  generalize hQ : MQ below _ _ _ _ _ _ = Q
  generalize hA : gAd [C6 E h b0 w0] = A at hAB hG
  have hl : lv_has ls 1 [(0, .ref (h b0))] := hl
  have hx := F.1
  have hb := F.2.1
  unfold f_X6_clear at hf
  refine lv_aload_n hx hb dX6_clear_0 rfl (lv_at hl 0 rfl) ?_
  refine lv_iconst (v := 0) hx hb dX6_clear_1 (by decide) ?_
  refine g_put F hK hG 0 0 5 pfX6_29 rfl rfl (Nat.le_of_ble_eq_true rfl) rfl rfl dX6_clear_2 (fun H locs hG => ?_)
  have hG : gS E A s.heap [C6 E h b0 (w0.1, w0.2.1, w0.2.2.1, w0.2.2.2.1, w0.2.2.2.2.1, 0)] H locs := hG
  have ho := Option.some.inj hf
  subst hA
  rw [← hQ, ← ho]
  exact g_mretV F hr hlk hG dX6_clear_5
set_option maxHeartbeats 4000000 in
set_option maxRecDepth 100000 in
theorem c_X6_isFull {l : Launch} {E : gEnv} (h : Nat → Nat) (b0 : Nat) (w0 : T6) {o : Int32} (hf : f_X6_isFull w0 = some o) : gR l yX6_isFull cX6_isFull 1 (some .boolean) rX6_isFull E [.ref (h b0)] [C6 E h b0 w0] (some (.int o)) := by
  refine gR.of (by decide +kernel) (Nat.le_of_ble_eq_true rfl) ?_
  intro p e s m below meth c F hr hlk hK hX hP ls hl
  have F : gF p m c cX6_isFull 1 s ([.ref (h b0)] : List Value).toArray RX6 := F
  generalize ([.ref (h b0)] : List Value).toArray = args at F ⊢
  generalize hQ : MQ below _ _ _ _ _ _ = Q
  have hl : lv_has ls 1 [(0, .ref (h b0))] := hl
  have hx := F.1
  have hb := F.2.1
  unfold f_X6_isFull at hf
  refine lv_aload_n hx hb dX6_isFull_0 rfl (lv_at hl 0 rfl) ?_
  refine g_get F hK hP 0 0 5 flX6_29 rfl rfl rfl dX6_isFull_1 ?_
  refine lv_bipush (v := 50) hx hb dX6_isFull_4 (by decide) ?_
  refine lv_icmp_lt (tgt := 13) hx hb dX6_isFull_6 (by decide) (fun c1 => ?_) (fun c1 => ?_)
  · have hf := g_it c1 hf
    refine lv_iconst (v := 0) hx hb dX6_isFull_13 (by decide) ?_
    have ho := Option.some.inj hf
    rw [← hQ, ← ho]
    exact g_retZ F hr hlk narrow_b0 dX6_isFull_14
  · have hf := g_if c1 hf
    refine lv_iconst (v := 1) hx hb dX6_isFull_9 (by decide) ?_
    refine lv_goto (tgt := 14) hx hb dX6_isFull_10 (by decide) ?_
    have ho := Option.some.inj hf
    rw [← hQ, ← ho]
    exact g_retZ F hr hlk narrow_b1 dX6_isFull_14
set_option maxHeartbeats 4000000 in
set_option maxRecDepth 100000 in
theorem c_X6_has {l : Launch} {E : gEnv} (h : Nat → Nat) (b0 : Nat) (w0 : T6) (a1 : Int32) {o : Int32} (hf : f_X6_has w0 a1 = some o) : gR l yX6_has cX6_has 2 (some .boolean) rX6_has E [.ref (h b0), .int a1] [C6 E h b0 w0] (some (.int o)) := by
  refine gR.of (by decide +kernel) (Nat.le_of_ble_eq_true rfl) ?_
  intro p e s m below meth c F hr hlk hK hX hP ls hl
  have F : gF p m c cX6_has 2 s ([.ref (h b0), .int a1] : List Value).toArray RX6 := F
  generalize ([.ref (h b0), .int a1] : List Value).toArray = args at F ⊢
  generalize hQ : MQ below _ _ _ _ _ _ = Q
  have hl : lv_has ls 2 [(0, .ref (h b0)), (1, .int a1)] := hl
  have hx := F.1
  have hb := F.2.1
  unfold f_X6_has at hf
  refine lv_iload_n hx hb dX6_has_0 rfl (lv_at hl 1 rfl) ?_
  refine lv_if_lt (tgt := 22) hx hb dX6_has_1 (by decide) (fun c1 => ?_) (fun c1 => ?_)
  · have hf := g_it c1 hf
    refine lv_iconst (v := 0) hx hb dX6_has_22 (by decide) ?_
    have ho := Option.some.inj hf
    rw [← hQ, ← ho]
    exact g_retZ F hr hlk narrow_b0 dX6_has_23
  · have hf := g_if c1 hf
    refine lv_iload_n hx hb dX6_has_4 rfl (lv_at hl 1 rfl) ?_
    refine lv_aload_n hx hb dX6_has_5 rfl (lv_at hl 0 rfl) ?_
    refine g_get F hK hP 0 0 5 flX6_29 rfl rfl rfl dX6_has_6 ?_
    refine lv_icmp_ge (tgt := 22) hx hb dX6_has_9 (by decide) (fun c2 => ?_) (fun c2 => ?_)
    · have hf := g_it c2 hf
      refine lv_iconst (v := 0) hx hb dX6_has_22 (by decide) ?_
      have ho := Option.some.inj hf
      rw [← hQ, ← ho]
      exact g_retZ F hr hlk narrow_b0 dX6_has_23
    · have hf := g_if c2 hf
      refine lv_iload_n hx hb dX6_has_12 rfl (lv_at hl 1 rfl) ?_
      refine lv_bipush (v := 50) hx hb dX6_has_13 (by decide) ?_
      refine lv_icmp_ge (tgt := 22) hx hb dX6_has_15 (by decide) (fun c3 => ?_) (fun c3 => ?_)
      · have hf := g_it c3 hf
        refine lv_iconst (v := 0) hx hb dX6_has_22 (by decide) ?_
        have ho := Option.some.inj hf
        rw [← hQ, ← ho]
        exact g_retZ F hr hlk narrow_b0 dX6_has_23
      · have hf := g_if c3 hf
        refine lv_iconst (v := 1) hx hb dX6_has_18 (by decide) ?_
        refine lv_goto (tgt := 23) hx hb dX6_has_19 (by decide) ?_
        have ho := Option.some.inj hf
        rw [← hQ, ← ho]
        exact g_retZ F hr hlk narrow_b1 dX6_has_23
set_option maxHeartbeats 4000000 in
set_option maxRecDepth 100000 in
theorem c_X6_wordAt {l : Launch} {E : gEnv} (h : Nat → Nat) (b0 : Nat) (w0 : T6) (a1 : Int32) {o : Int64} (hf : f_X6_wordAt w0 a1 = some o) : gR l yX6_wordAt cX6_wordAt 2 (some .long) rX6_wordAt E [.ref (h b0), .int a1] [C6 E h b0 w0] (some (.long o)) := by
  refine gR.of (by decide +kernel) (Nat.le_of_ble_eq_true rfl) ?_
  intro p e s m below meth c F hr hlk hK hX hP ls hl
  have F : gF p m c cX6_wordAt 2 s ([.ref (h b0), .int a1] : List Value).toArray RX6 := F
  generalize ([.ref (h b0), .int a1] : List Value).toArray = args at F ⊢
  generalize hQ : MQ below _ _ _ _ _ _ = Q
  have hl : lv_has ls 2 [(0, .ref (h b0)), (1, .int a1)] := hl
  have hx := F.1
  have hb := F.2.1
  unfold f_X6_wordAt at hf
  refine lv_aload_n hx hb dX6_wordAt_0 rfl (lv_at hl 0 rfl) ?_
  refine lv_iload_n hx hb dX6_wordAt_1 rfl (lv_at hl 1 rfl) ?_
  obtain ⟨x1, hx1, hf⟩ := g_bnd hf
  refine g_rv (As := [.int a1]) (rest := []) F hK hX hP [0] rfl (c_X6_has h b0 w0 a1 hx1) (kX6_39 F.2.2.2.2 ⟨Nat.le_of_ble_eq_true rfl, Nat.le_of_ble_eq_true rfl⟩) rfl rfl rfl rfl hl.1 rfl (lv_room (Nat.le_of_ble_eq_true rfl)) ⟨Nat.zero_le _, Nat.zero_le _⟩ dX6_wordAt_2 ?_
  refine lv_if_eq (tgt := 17) hx hb dX6_wordAt_5 (by decide) (fun c2 => ?_) (fun c2 => ?_)
  · have hf := g_it c2 hf
    refine lv_lconst (v := 0) hx hb dX6_wordAt_17 rfl ?_
    have ho := Option.some.inj hf
    rw [← hQ, ← ho]
    exact g_retL F hr hlk dX6_wordAt_18
  · have hf := g_if c2 hf
    refine lv_aload_n hx hb dX6_wordAt_8 rfl (lv_at hl 0 rfl) ?_
    refine g_get F hK hP 0 0 0 flX6_9 rfl rfl rfl dX6_wordAt_9 ?_
    refine lv_iload_n hx hb dX6_wordAt_12 rfl (lv_at hl 1 rfl) ?_
    obtain ⟨x3, hx3, hf⟩ := g_bnd hf
    refine g_lald F hK hP 0 1 rfl rfl hx3 dX6_wordAt_13 ?_
    refine lv_goto (tgt := 18) hx hb dX6_wordAt_14 (by decide) ?_
    have ho := Option.some.inj hf
    rw [← hQ, ← ho]
    exact g_retL F hr hlk dX6_wordAt_18
set_option maxHeartbeats 4000000 in
set_option maxRecDepth 100000 in
theorem c_X6_find {l : Launch} {E : gEnv} (h : Nat → Nat) (b0 : Nat) (w0 : T6) (a1 : Int64) {o : Int32} (hf : f_X6_find w0 a1 = some o) : gR l yX6_find cX6_find 4 (some .int) rX6_find E [.ref (h b0), .long a1] [C6 E h b0 w0] (some (.int o)) := by
  refine gR.of (by decide +kernel) (Nat.le_of_ble_eq_true rfl) ?_
  intro p e s m below meth c F hr hlk hK hX hP ls hl
  have F : gF p m c cX6_find 4 s ([.ref (h b0), .long a1] : List Value).toArray RX6 := F
  generalize ([.ref (h b0), .long a1] : List Value).toArray = args at F ⊢
  generalize hQ : MQ below _ _ _ _ _ _ = Q
  have hl : lv_has ls 4 [(0, .ref (h b0)), (1, .long a1)] := hl
  have hx := F.1
  have hb := F.2.1
  unfold f_X6_find at hf
  refine lv_iconst (v := 0) hx hb dX6_find_0 (by decide) ?_
  refine lv_istore_n (lv' := [(3, .int 0), (0, .ref (h b0)), (1, .long a1)]) hx hb dX6_find_1 rfl hl (by decide) rfl (fun ls hl => ?_)
  refine lp_rule (fun (v1 : Int32) => ∀ ls : Array Slot, lv_has ls 4 [(0, .ref (h b0)), (1, .long a1), (3, .int v1)] → W p l e rX6_find s m args below meth c s.heap [] 0 0 Q (F0 m 2 ls [])) ?_ _ _ hf ls (lv_sub hl [1, 2, 0] rfl)
  intro v1 y hf hbackv1 hexitv1 ls hl
  refine lv_iload_n hx hb dX6_find_2 rfl (lv_at hl 2 rfl) ?_
  refine lv_aload_n hx hb dX6_find_3 rfl (lv_at hl 0 rfl) ?_
  refine g_get F hK hP 0 0 5 flX6_29 rfl rfl rfl dX6_find_4 ?_
  refine lv_icmp_ge (tgt := 28) hx hb dX6_find_7 (by decide) (fun c3 => ?_) (fun c3 => ?_)
  · have hf := g_it c3 hf
    refine lv_iconst (v := (-1)) hx hb dX6_find_28 (by decide) ?_
    have ho := hexitv1 _ (Option.some.inj hf).symm
    rw [← hQ, ← ho]
    exact g_retI F hr hlk dX6_find_29
  · have hf := g_if c3 hf
    refine lv_aload_n hx hb dX6_find_10 rfl (lv_at hl 0 rfl) ?_
    refine lv_iload_n hx hb dX6_find_11 rfl (lv_at hl 2 rfl) ?_
    obtain ⟨x4, hx4, hf⟩ := g_bnd hf
    refine g_rv (As := [.int v1]) (rest := []) F hK hX hP [0] rfl (c_X6_wordAt h b0 w0 v1 hx4) (kX6_45 F.2.2.2.2 ⟨Nat.le_of_ble_eq_true rfl, Nat.le_of_ble_eq_true rfl⟩) rfl rfl rfl rfl hl.1 rfl (lv_room (Nat.le_of_ble_eq_true rfl)) ⟨Nat.zero_le _, Nat.zero_le _⟩ dX6_find_12 ?_
    refine lv_lload_n hx hb dX6_find_15 rfl (lv_at hl 1 rfl) ?_
    refine g_lc_ne (tgt := 22) hx hb dX6_find_16 dX6_find_17 (by decide) (fun c5 => ?_) (fun c5 => ?_)
    · have hf := g_if c5 hf
      refine lv_iinc (v := (v1 + 1)) (lv' := [(3, .int (v1 + 1)), (0, .ref (h b0)), (1, .long a1)]) hx hb dX6_find_22 hl (k := 2) rfl rfl (by decide) rfl (fun ls hl => ?_)
      refine lv_goto (tgt := 2) hx hb dX6_find_25 (by decide) ?_
      exact hbackv1 _ (Option.some.inj hf).symm ls (lv_sub hl [1, 2, 0] rfl)
    · have hf := g_it c5 hf
      refine lv_iload_n hx hb dX6_find_20 rfl (lv_at hl 2 rfl) ?_
      have ho := hexitv1 _ (Option.some.inj hf).symm
      rw [← hQ, ← ho]
      exact g_retI F hr hlk dX6_find_21
set_option maxHeartbeats 4000000 in
set_option maxRecDepth 100000 in
theorem c_X6_insert {l : Launch} {E : gEnv} (h : Nat → Nat) (b0 : Nat) (w0 : T6) (a1 : Int64) (a2 : Int32) (a3 : Int32) (a4 : Int32) {o : T6} (hf : f_X6_insert w0 a1 a2 a3 a4 = some o) : gM l yX6_insert cX6_insert 6 none rX6_insert E [.ref (h b0), .long a1, .int a2, .int a3, .int a4] [C6 E h b0 w0] (none) [C6 E h b0 o] := by
  refine gM.of (by decide +kernel) (Nat.le_of_ble_eq_true rfl) rfl ?_
  intro p e s m below meth c F hr hlk hK hX hAB ls hl H locs hG
  have F : gF p m c cX6_insert 6 s ([.ref (h b0), .long a1, .int a2, .int a3, .int a4] : List Value).toArray RX6 := F
  generalize ([.ref (h b0), .long a1, .int a2, .int a3, .int a4] : List Value).toArray = args at F ⊢
  generalize hQ : MQ below _ _ _ _ _ _ = Q
  generalize hA : gAd [C6 E h b0 w0] = A at hAB hG
  have hl : lv_has ls 6 [(0, .ref (h b0)), (1, .long a1), (3, .int a2), (4, .int a3), (5, .int a4)] := hl
  have hx := F.1
  have hb := F.2.1
  unfold f_X6_insert at hf
  refine lv_aload_n hx hb dX6_insert_0 rfl (lv_at hl 0 rfl) ?_
  obtain ⟨x1, hx1, hf⟩ := g_bnd hf
  refine g_rv (As := []) (rest := []) F hK (hG.X hX hAB) hG.1 [0] rfl (c_X6_isFull h b0 w0 hx1) (kX6_77 F.2.2.2.2 ⟨Nat.le_of_ble_eq_true rfl, Nat.le_of_ble_eq_true rfl⟩) rfl rfl rfl rfl hl.1 rfl (lv_room (Nat.le_of_ble_eq_true rfl)) ⟨Nat.zero_le _, Nat.zero_le _⟩ dX6_insert_1 ?_
  refine lv_if_eq (tgt := 8) hx hb dX6_insert_4 (by decide) (fun c2 => ?_) (fun c2 => ?_)
  · have hf := g_it c2 hf
    refine lv_aload_n hx hb dX6_insert_8 rfl (lv_at hl 0 rfl) ?_
    refine g_get F hK hG.1 0 0 0 flX6_9 rfl rfl rfl dX6_insert_9 ?_
    refine lv_aload_n hx hb dX6_insert_12 rfl (lv_at hl 0 rfl) ?_
    refine g_get F hK hG.1 0 0 5 flX6_29 rfl rfl rfl dX6_insert_13 ?_
    refine lv_lload_n hx hb dX6_insert_16 rfl (lv_at hl 1 rfl) ?_
    obtain ⟨x3, hx3, hf⟩ := g_bnd hf
    refine g_last F hK hG 0 1 rfl rfl hx3 dX6_insert_17 (fun H locs hG => ?_)
    have hG : gS E A s.heap [C6 E h b0 (x3, w0.2.1, w0.2.2.1, w0.2.2.2.1, w0.2.2.2.2.1, w0.2.2.2.2.2)] H locs := hG
    refine lv_aload_n hx hb dX6_insert_18 rfl (lv_at hl 0 rfl) ?_
    refine g_get F hK hG.1 0 0 1 flX6_15 rfl rfl rfl dX6_insert_19 ?_
    refine lv_aload_n hx hb dX6_insert_22 rfl (lv_at hl 0 rfl) ?_
    refine g_get F hK hG.1 0 0 5 flX6_29 rfl rfl rfl dX6_insert_23 ?_
    refine lv_lload_n hx hb dX6_insert_26 rfl (lv_at hl 1 rfl) ?_
    obtain ⟨x4, hx4, hf⟩ := g_bnd hf
    refine g_rs (As := [.long a1]) (rest := [.int w0.2.2.2.2.2, .ref (h (b0+2))]) F hK (hG.X hX hAB) hG.1 [] rfl (c_X4_keysOf h a1 hx4) (kX6_81 F.2.2.2.2 ⟨Nat.le_of_ble_eq_true rfl, Nat.le_of_ble_eq_true rfl⟩) rfl hl.1 rfl (lv_room (Nat.le_of_ble_eq_true rfl)) ⟨Nat.zero_le _, Nat.zero_le _⟩ dX6_insert_27 ?_
    obtain ⟨x5, hx5, hf⟩ := g_bnd hf
    refine g_last F hK hG 0 2 rfl rfl hx5 dX6_insert_30 (fun H locs hG => ?_)
    have hG : gS E A s.heap [C6 E h b0 (x3, x5, w0.2.2.1, w0.2.2.2.1, w0.2.2.2.2.1, w0.2.2.2.2.2)] H locs := hG
    refine lv_aload_n hx hb dX6_insert_31 rfl (lv_at hl 0 rfl) ?_
    refine g_get F hK hG.1 0 0 2 flX6_18 rfl rfl rfl dX6_insert_32 ?_
    refine lv_aload_n hx hb dX6_insert_35 rfl (lv_at hl 0 rfl) ?_
    refine g_get F hK hG.1 0 0 5 flX6_29 rfl rfl rfl dX6_insert_36 ?_
    refine lv_iload_n hx hb dX6_insert_39 rfl (lv_at hl 2 rfl) ?_
    obtain ⟨x6, hx6, hf⟩ := g_bnd hf
    refine g_iast F hK hG 0 3 rfl rfl hx6 dX6_insert_40 (fun H locs hG => ?_)
    have hG : gS E A s.heap [C6 E h b0 (x3, x5, x6, w0.2.2.2.1, w0.2.2.2.2.1, w0.2.2.2.2.2)] H locs := hG
    refine lv_aload_n hx hb dX6_insert_41 rfl (lv_at hl 0 rfl) ?_
    refine g_get F hK hG.1 0 0 3 flX6_22 rfl rfl rfl dX6_insert_42 ?_
    refine lv_aload_n hx hb dX6_insert_45 rfl (lv_at hl 0 rfl) ?_
    refine g_get F hK hG.1 0 0 5 flX6_29 rfl rfl rfl dX6_insert_46 ?_
    refine lv_iload hx hb dX6_insert_49 (lv_at hl 3 rfl) ?_
    obtain ⟨x7, hx7, hf⟩ := g_bnd hf
    refine g_iast F hK hG 0 4 rfl rfl hx7 dX6_insert_51 (fun H locs hG => ?_)
    have hG : gS E A s.heap [C6 E h b0 (x3, x5, x6, x7, w0.2.2.2.2.1, w0.2.2.2.2.2)] H locs := hG
    refine lv_aload_n hx hb dX6_insert_52 rfl (lv_at hl 0 rfl) ?_
    refine g_get F hK hG.1 0 0 4 flX6_25 rfl rfl rfl dX6_insert_53 ?_
    refine lv_aload_n hx hb dX6_insert_56 rfl (lv_at hl 0 rfl) ?_
    refine g_get F hK hG.1 0 0 5 flX6_29 rfl rfl rfl dX6_insert_57 ?_
    refine lv_iload hx hb dX6_insert_60 (lv_at hl 4 rfl) ?_
    obtain ⟨u9, hu9, hf⟩ := g_bnd hf
    obtain ⟨x8, hx8, hf⟩ := g_bnd hf
    refine g_zast F hK hG 0 5 rfl rfl hx8 (bz_vn hu9) dX6_insert_62 (fun H locs hG => ?_)
    have hG : gS E A s.heap [C6 E h b0 (x3, x5, x6, x7, x8, w0.2.2.2.2.2)] H locs := hG
    refine lv_aload_n hx hb dX6_insert_63 rfl (lv_at hl 0 rfl) ?_
    refine lv_dup hx hb dX6_insert_64 rfl ?_
    refine g_get F hK hG.1 0 0 5 flX6_29 rfl rfl rfl dX6_insert_65 ?_
    refine lv_iconst (v := 1) hx hb dX6_insert_68 (by decide) ?_
    refine lv_iadd hx hb dX6_insert_69 ?_
    refine g_put F hK hG 0 0 5 pfX6_29 rfl rfl (Nat.le_of_ble_eq_true rfl) rfl rfl dX6_insert_70 (fun H locs hG => ?_)
    have hG : gS E A s.heap [C6 E h b0 (x3, x5, x6, x7, x8, (w0.2.2.2.2.2 + 1))] H locs := hG
    have ho := Option.some.inj hf
    subst hA
    rw [← hQ, ← ho]
    exact g_mretV F hr hlk hG dX6_insert_73
  · have hf := g_if c2 hf
    have ho := Option.some.inj hf
    subst hA
    rw [← hQ, ← ho]
    exact g_mretV F hr hlk hG dX6_insert_7
set_option maxHeartbeats 4000000 in
set_option maxRecDepth 100000 in
theorem c_X6_copyFrom {l : Launch} {E : gEnv} (h : Nat → Nat) (b0 : Nat) (w0 : T6) (b1 : Nat) (w1 : T6) {o : T6} (hf : f_X6_copyFrom w0 w1 = some o) : gM l yX6_copyFrom cX6_copyFrom 3 none rX6_copyFrom E [.ref (h b0), .ref (h b1)] [C6 E h b0 w0, C6 E h b1 w1] (none) [C6 E h b0 o, C6 E h b1 w1] := by
  refine gM.of (by decide +kernel) (Nat.le_of_ble_eq_true rfl) rfl ?_
  intro p e s m below meth c F hr hlk hK hX hAB ls hl H locs hG
  have F : gF p m c cX6_copyFrom 3 s ([.ref (h b0), .ref (h b1)] : List Value).toArray RX6 := F
  generalize ([.ref (h b0), .ref (h b1)] : List Value).toArray = args at F ⊢
  generalize hQ : MQ below _ _ _ _ _ _ = Q
  generalize hA : gAd [C6 E h b0 w0, C6 E h b1 w1] = A at hAB hG
  have hl : lv_has ls 3 [(0, .ref (h b0)), (1, .ref (h b1))] := hl
  have hx := F.1
  have hb := F.2.1
  unfold f_X6_copyFrom at hf
  refine lv_aload_n hx hb dX6_copyFrom_0 rfl (lv_at hl 1 rfl) ?_
  refine g_get F hK hG.1 1 0 0 flX6_9 rfl rfl rfl dX6_copyFrom_1 ?_
  refine lv_iconst (v := 0) hx hb dX6_copyFrom_4 (by decide) ?_
  refine lv_aload_n hx hb dX6_copyFrom_5 rfl (lv_at hl 0 rfl) ?_
  refine g_get F hK hG.1 0 0 0 flX6_9 rfl rfl rfl dX6_copyFrom_6 ?_
  refine lv_iconst (v := 0) hx hb dX6_copyFrom_9 (by decide) ?_
  refine lv_bipush (v := 50) hx hb dX6_copyFrom_10 (by decide) ?_
  obtain ⟨x1, hx1, hf⟩ := g_bnd hf
  refine g_copyl F hK hG 1 1 0 1 (F.2.2.2.2 _ gw_210) rfl rfl rfl rfl hx1 (F.2.2.1.trans hl.1.symm) (Nat.le_of_ble_eq_true rfl) (Nat.le_of_ble_eq_true rfl) dX6_copyFrom_12 (fun H locs hG => ?_)
  have hG : gS E A s.heap [C6 E h b0 (x1, w0.2.1, w0.2.2.1, w0.2.2.2.1, w0.2.2.2.2.1, w0.2.2.2.2.2), C6 E h b1 w1] H locs := hG
  refine lv_aload_n hx hb dX6_copyFrom_15 rfl (lv_at hl 1 rfl) ?_
  refine g_get F hK hG.1 1 0 1 flX6_15 rfl rfl rfl dX6_copyFrom_16 ?_
  refine lv_iconst (v := 0) hx hb dX6_copyFrom_19 (by decide) ?_
  refine lv_aload_n hx hb dX6_copyFrom_20 rfl (lv_at hl 0 rfl) ?_
  refine g_get F hK hG.1 0 0 1 flX6_15 rfl rfl rfl dX6_copyFrom_21 ?_
  refine lv_iconst (v := 0) hx hb dX6_copyFrom_24 (by decide) ?_
  refine lv_bipush (v := 50) hx hb dX6_copyFrom_25 (by decide) ?_
  obtain ⟨x2, hx2, hf⟩ := g_bnd hf
  refine g_copyl F hK hG 1 2 0 2 (F.2.2.2.2 _ gw_210) rfl rfl rfl rfl hx2 (F.2.2.1.trans hl.1.symm) (Nat.le_of_ble_eq_true rfl) (Nat.le_of_ble_eq_true rfl) dX6_copyFrom_27 (fun H locs hG => ?_)
  have hG : gS E A s.heap [C6 E h b0 (x1, x2, w0.2.2.1, w0.2.2.2.1, w0.2.2.2.2.1, w0.2.2.2.2.2), C6 E h b1 w1] H locs := hG
  refine lv_aload_n hx hb dX6_copyFrom_30 rfl (lv_at hl 1 rfl) ?_
  refine g_get F hK hG.1 1 0 2 flX6_18 rfl rfl rfl dX6_copyFrom_31 ?_
  refine lv_iconst (v := 0) hx hb dX6_copyFrom_34 (by decide) ?_
  refine lv_aload_n hx hb dX6_copyFrom_35 rfl (lv_at hl 0 rfl) ?_
  refine g_get F hK hG.1 0 0 2 flX6_18 rfl rfl rfl dX6_copyFrom_36 ?_
  refine lv_iconst (v := 0) hx hb dX6_copyFrom_39 (by decide) ?_
  refine lv_bipush (v := 50) hx hb dX6_copyFrom_40 (by decide) ?_
  obtain ⟨x3, hx3, hf⟩ := g_bnd hf
  refine g_copyi F hK hG 1 3 0 3 (F.2.2.2.2 _ gw_210) rfl rfl rfl rfl hx3 (F.2.2.1.trans hl.1.symm) (Nat.le_of_ble_eq_true rfl) (Nat.le_of_ble_eq_true rfl) dX6_copyFrom_42 (fun H locs hG => ?_)
  have hG : gS E A s.heap [C6 E h b0 (x1, x2, x3, w0.2.2.2.1, w0.2.2.2.2.1, w0.2.2.2.2.2), C6 E h b1 w1] H locs := hG
  refine lv_aload_n hx hb dX6_copyFrom_45 rfl (lv_at hl 1 rfl) ?_
  refine g_get F hK hG.1 1 0 3 flX6_22 rfl rfl rfl dX6_copyFrom_46 ?_
  refine lv_iconst (v := 0) hx hb dX6_copyFrom_49 (by decide) ?_
  refine lv_aload_n hx hb dX6_copyFrom_50 rfl (lv_at hl 0 rfl) ?_
  refine g_get F hK hG.1 0 0 3 flX6_22 rfl rfl rfl dX6_copyFrom_51 ?_
  refine lv_iconst (v := 0) hx hb dX6_copyFrom_54 (by decide) ?_
  refine lv_bipush (v := 50) hx hb dX6_copyFrom_55 (by decide) ?_
  obtain ⟨x4, hx4, hf⟩ := g_bnd hf
  refine g_copyi F hK hG 1 4 0 4 (F.2.2.2.2 _ gw_210) rfl rfl rfl rfl hx4 (F.2.2.1.trans hl.1.symm) (Nat.le_of_ble_eq_true rfl) (Nat.le_of_ble_eq_true rfl) dX6_copyFrom_57 (fun H locs hG => ?_)
  have hG : gS E A s.heap [C6 E h b0 (x1, x2, x3, x4, w0.2.2.2.2.1, w0.2.2.2.2.2), C6 E h b1 w1] H locs := hG
  refine lv_iconst (v := 0) hx hb dX6_copyFrom_60 (by decide) ?_
  refine lv_istore_n (lv' := [(2, .int 0), (0, .ref (h b0)), (1, .ref (h b1))]) hx hb dX6_copyFrom_61 rfl hl (by decide) rfl (fun ls hl => ?_)
  obtain ⟨x6, hx6, hfx6⟩ := g_bnd hf
  have hEx6 : ∀ (H : Heap) (locs : List Loc), gS E A s.heap [C6 E h b0 x6, C6 E h b1 w1] H locs → ∀ ls : Array Slot, lv_has ls 3 [(0, .ref (h b0)), (1, .ref (h b1))] → W p l e rX6_copyFrom s m args below meth c H locs 0 0 Q (F0 m 86 ls []) := by
    intro H locs hG ls hl
    have hf := hfx6
    refine lv_aload_n hx hb dX6_copyFrom_86 rfl (lv_at hl 0 rfl) ?_
    refine lv_aload_n hx hb dX6_copyFrom_87 rfl (lv_at hl 1 rfl) ?_
    refine g_get F hK hG.1 1 0 5 flX6_29 rfl rfl rfl dX6_copyFrom_88 ?_
    refine g_put F hK hG 0 0 5 pfX6_29 rfl rfl (Nat.le_of_ble_eq_true rfl) rfl rfl dX6_copyFrom_91 (fun H locs hG => ?_)
    have hG : gS E A s.heap [C6 E h b0 (x6.1, x6.2.1, x6.2.2.1, x6.2.2.2.1, x6.2.2.2.2.1, w1.2.2.2.2.2), C6 E h b1 w1] H locs := hG
    have ho := Option.some.inj hf
    subst hA
    rw [← hQ, ← ho]
    exact g_mretV F hr hlk hG dX6_copyFrom_94
  refine lp_rule (fun (v5 : Int32 × T6) => ∀ (H : Heap) (locs : List Loc), gS E A s.heap [C6 E h b0 v5.2, C6 E h b1 w1] H locs → ∀ ls : Array Slot, lv_has ls 3 [(0, .ref (h b0)), (1, .ref (h b1)), (2, .int v5.1)] → W p l e rX6_copyFrom s m args below meth c H locs 0 0 Q (F0 m 62 ls [])) ?_ _ _ hx6 _ _ hG ls (lv_sub hl [1, 2, 0] rfl)
  intro v5 y hf hbackv5 hexitv5 H locs hG ls hl
  refine lv_iload_n hx hb dX6_copyFrom_62 rfl (lv_at hl 2 rfl) ?_
  refine lv_bipush (v := 50) hx hb dX6_copyFrom_63 (by decide) ?_
  refine lv_icmp_ge (tgt := 86) hx hb dX6_copyFrom_65 (by decide) (fun c7 => ?_) (fun c7 => ?_)
  · have hf := g_it c7 hf
    obtain rfl := hexitv5 _ (Option.some.inj hf).symm
    exact hEx6 _ _ hG ls (lv_sub hl [0, 1] rfl)
  · have hf := g_if c7 hf
    refine lv_aload_n hx hb dX6_copyFrom_68 rfl (lv_at hl 0 rfl) ?_
    refine g_get F hK hG.1 0 0 4 flX6_25 rfl rfl rfl dX6_copyFrom_69 ?_
    refine lv_iload_n hx hb dX6_copyFrom_72 rfl (lv_at hl 2 rfl) ?_
    refine lv_aload_n hx hb dX6_copyFrom_73 rfl (lv_at hl 1 rfl) ?_
    refine g_get F hK hG.1 1 0 4 flX6_25 rfl rfl rfl dX6_copyFrom_74 ?_
    refine lv_iload_n hx hb dX6_copyFrom_77 rfl (lv_at hl 2 rfl) ?_
    obtain ⟨x8, hx8, hf⟩ := g_bnd hf
    refine g_zald F hK hG.1 1 5 rfl rfl hx8 dX6_copyFrom_78 ?_
    obtain ⟨u10, hu10, hf⟩ := g_bnd hf
    obtain ⟨x9, hx9, hf⟩ := g_bnd hf
    refine g_zast F hK hG 0 5 rfl rfl hx9 (bz_vn hu10) dX6_copyFrom_79 (fun H locs hG => ?_)
    have hG : gS E A s.heap [C6 E h b0 (v5.2.1, v5.2.2.1, v5.2.2.2.1, v5.2.2.2.2.1, x9, v5.2.2.2.2.2.2), C6 E h b1 w1] H locs := hG
    refine lv_iinc (v := (v5.1 + 1)) (lv' := [(2, .int (v5.1 + 1)), (0, .ref (h b0)), (1, .ref (h b1))]) hx hb dX6_copyFrom_80 hl (k := 2) rfl rfl (by decide) rfl (fun ls hl => ?_)
    refine lv_goto (tgt := 62) hx hb dX6_copyFrom_83 (by decide) ?_
    exact hbackv5 _ (Option.some.inj hf).symm _ _ hG ls (lv_sub hl [1, 2, 0] rfl)
set_option maxHeartbeats 4000000 in
set_option maxRecDepth 100000 in
theorem c_X6_countAt {l : Launch} {E : gEnv} (h : Nat → Nat) (b0 : Nat) (w0 : T6) (a1 : Int32) {o : Int32} (hf : f_X6_countAt w0 a1 = some o) : gR l yX6_countAt cX6_countAt 2 (some .int) rX6_countAt E [.ref (h b0), .int a1] [C6 E h b0 w0] (some (.int o)) := by
  refine gR.of (by decide +kernel) (Nat.le_of_ble_eq_true rfl) ?_
  intro p e s m below meth c F hr hlk hK hX hP ls hl
  have F : gF p m c cX6_countAt 2 s ([.ref (h b0), .int a1] : List Value).toArray RX6 := F
  generalize ([.ref (h b0), .int a1] : List Value).toArray = args at F ⊢
  generalize hQ : MQ below _ _ _ _ _ _ = Q
  have hl : lv_has ls 2 [(0, .ref (h b0)), (1, .int a1)] := hl
  have hx := F.1
  have hb := F.2.1
  unfold f_X6_countAt at hf
  refine lv_aload_n hx hb dX6_countAt_0 rfl (lv_at hl 0 rfl) ?_
  refine lv_iload_n hx hb dX6_countAt_1 rfl (lv_at hl 1 rfl) ?_
  obtain ⟨x1, hx1, hf⟩ := g_bnd hf
  refine g_rv (As := [.int a1]) (rest := []) F hK hX hP [0] rfl (c_X6_has h b0 w0 a1 hx1) (kX6_39 F.2.2.2.2 ⟨Nat.le_of_ble_eq_true rfl, Nat.le_of_ble_eq_true rfl⟩) rfl rfl rfl rfl hl.1 rfl (lv_room (Nat.le_of_ble_eq_true rfl)) ⟨Nat.zero_le _, Nat.zero_le _⟩ dX6_countAt_2 ?_
  refine lv_if_eq (tgt := 17) hx hb dX6_countAt_5 (by decide) (fun c2 => ?_) (fun c2 => ?_)
  · have hf := g_it c2 hf
    refine lv_iconst (v := 0) hx hb dX6_countAt_17 (by decide) ?_
    have ho := Option.some.inj hf
    rw [← hQ, ← ho]
    exact g_retI F hr hlk dX6_countAt_18
  · have hf := g_if c2 hf
    refine lv_aload_n hx hb dX6_countAt_8 rfl (lv_at hl 0 rfl) ?_
    refine g_get F hK hP 0 0 2 flX6_18 rfl rfl rfl dX6_countAt_9 ?_
    refine lv_iload_n hx hb dX6_countAt_12 rfl (lv_at hl 1 rfl) ?_
    obtain ⟨x3, hx3, hf⟩ := g_bnd hf
    refine g_iald F hK hP 0 3 rfl rfl hx3 dX6_countAt_13 ?_
    refine lv_goto (tgt := 18) hx hb dX6_countAt_14 (by decide) ?_
    have ho := Option.some.inj hf
    rw [← hQ, ← ho]
    exact g_retI F hr hlk dX6_countAt_18
set_option maxHeartbeats 4000000 in
set_option maxRecDepth 100000 in
theorem c_X6_timeAt {l : Launch} {E : gEnv} (h : Nat → Nat) (b0 : Nat) (w0 : T6) (a1 : Int32) {o : Int32} (hf : f_X6_timeAt w0 a1 = some o) : gR l yX6_timeAt cX6_timeAt 2 (some .int) rX6_timeAt E [.ref (h b0), .int a1] [C6 E h b0 w0] (some (.int o)) := by
  refine gR.of (by decide +kernel) (Nat.le_of_ble_eq_true rfl) ?_
  intro p e s m below meth c F hr hlk hK hX hP ls hl
  have F : gF p m c cX6_timeAt 2 s ([.ref (h b0), .int a1] : List Value).toArray RX6 := F
  generalize ([.ref (h b0), .int a1] : List Value).toArray = args at F ⊢
  generalize hQ : MQ below _ _ _ _ _ _ = Q
  have hl : lv_has ls 2 [(0, .ref (h b0)), (1, .int a1)] := hl
  have hx := F.1
  have hb := F.2.1
  unfold f_X6_timeAt at hf
  refine lv_aload_n hx hb dX6_timeAt_0 rfl (lv_at hl 0 rfl) ?_
  refine lv_iload_n hx hb dX6_timeAt_1 rfl (lv_at hl 1 rfl) ?_
  obtain ⟨x1, hx1, hf⟩ := g_bnd hf
  refine g_rv (As := [.int a1]) (rest := []) F hK hX hP [0] rfl (c_X6_has h b0 w0 a1 hx1) (kX6_39 F.2.2.2.2 ⟨Nat.le_of_ble_eq_true rfl, Nat.le_of_ble_eq_true rfl⟩) rfl rfl rfl rfl hl.1 rfl (lv_room (Nat.le_of_ble_eq_true rfl)) ⟨Nat.zero_le _, Nat.zero_le _⟩ dX6_timeAt_2 ?_
  refine lv_if_eq (tgt := 17) hx hb dX6_timeAt_5 (by decide) (fun c2 => ?_) (fun c2 => ?_)
  · have hf := g_it c2 hf
    refine lv_iconst (v := 0) hx hb dX6_timeAt_17 (by decide) ?_
    have ho := Option.some.inj hf
    rw [← hQ, ← ho]
    exact g_retI F hr hlk dX6_timeAt_18
  · have hf := g_if c2 hf
    refine lv_aload_n hx hb dX6_timeAt_8 rfl (lv_at hl 0 rfl) ?_
    refine g_get F hK hP 0 0 3 flX6_22 rfl rfl rfl dX6_timeAt_9 ?_
    refine lv_iload_n hx hb dX6_timeAt_12 rfl (lv_at hl 1 rfl) ?_
    obtain ⟨x3, hx3, hf⟩ := g_bnd hf
    refine g_iald F hK hP 0 4 rfl rfl hx3 dX6_timeAt_13 ?_
    refine lv_goto (tgt := 18) hx hb dX6_timeAt_14 (by decide) ?_
    have ho := Option.some.inj hf
    rw [← hQ, ← ho]
    exact g_retI F hr hlk dX6_timeAt_18
set_option maxHeartbeats 4000000 in
set_option maxRecDepth 100000 in
theorem c_X6_isAdded {l : Launch} {E : gEnv} (h : Nat → Nat) (b0 : Nat) (w0 : T6) (a1 : Int32) {o : Int32} (hf : f_X6_isAdded w0 a1 = some o) : gR l yX6_isAdded cX6_isAdded 2 (some .boolean) rX6_isAdded E [.ref (h b0), .int a1] [C6 E h b0 w0] (some (.int o)) := by
  refine gR.of (by decide +kernel) (Nat.le_of_ble_eq_true rfl) ?_
  intro p e s m below meth c F hr hlk hK hX hP ls hl
  have F : gF p m c cX6_isAdded 2 s ([.ref (h b0), .int a1] : List Value).toArray RX6 := F
  generalize ([.ref (h b0), .int a1] : List Value).toArray = args at F ⊢
  generalize hQ : MQ below _ _ _ _ _ _ = Q
  have hl : lv_has ls 2 [(0, .ref (h b0)), (1, .int a1)] := hl
  have hx := F.1
  have hb := F.2.1
  unfold f_X6_isAdded at hf
  refine lv_aload_n hx hb dX6_isAdded_0 rfl (lv_at hl 0 rfl) ?_
  refine lv_iload_n hx hb dX6_isAdded_1 rfl (lv_at hl 1 rfl) ?_
  obtain ⟨x1, hx1, hf⟩ := g_bnd hf
  refine g_rv (As := [.int a1]) (rest := []) F hK hX hP [0] rfl (c_X6_has h b0 w0 a1 hx1) (kX6_39 F.2.2.2.2 ⟨Nat.le_of_ble_eq_true rfl, Nat.le_of_ble_eq_true rfl⟩) rfl rfl rfl rfl hl.1 rfl (lv_room (Nat.le_of_ble_eq_true rfl)) ⟨Nat.zero_le _, Nat.zero_le _⟩ dX6_isAdded_2 ?_
  refine lv_if_eq (tgt := 21) hx hb dX6_isAdded_5 (by decide) (fun c2 => ?_) (fun c2 => ?_)
  · have hf := g_it c2 hf
    refine lv_iconst (v := 0) hx hb dX6_isAdded_21 (by decide) ?_
    have ho := Option.some.inj hf
    rw [← hQ, ← ho]
    exact g_retZ F hr hlk narrow_b0 dX6_isAdded_22
  · have hf := g_if c2 hf
    refine lv_aload_n hx hb dX6_isAdded_8 rfl (lv_at hl 0 rfl) ?_
    refine g_get F hK hP 0 0 4 flX6_25 rfl rfl rfl dX6_isAdded_9 ?_
    refine lv_iload_n hx hb dX6_isAdded_12 rfl (lv_at hl 1 rfl) ?_
    obtain ⟨x3, hx3, hf⟩ := g_bnd hf
    refine g_zald F hK hP 0 5 rfl rfl hx3 dX6_isAdded_13 ?_
    refine lv_if_eq (tgt := 21) hx hb dX6_isAdded_14 (by decide) (fun c4 => ?_) (fun c4 => ?_)
    · have hf := g_it c4 hf
      refine lv_iconst (v := 0) hx hb dX6_isAdded_21 (by decide) ?_
      have ho := Option.some.inj hf
      rw [← hQ, ← ho]
      exact g_retZ F hr hlk narrow_b0 dX6_isAdded_22
    · have hf := g_if c4 hf
      refine lv_iconst (v := 1) hx hb dX6_isAdded_17 (by decide) ?_
      refine lv_goto (tgt := 22) hx hb dX6_isAdded_18 (by decide) ?_
      have ho := Option.some.inj hf
      rw [← hQ, ← ho]
      exact g_retZ F hr hlk narrow_b1 dX6_isAdded_22
set_option maxHeartbeats 4000000 in
set_option maxRecDepth 100000 in
theorem c_X6_ranksBefore {l : Launch} {E : gEnv} (h : Nat → Nat) (b0 : Nat) (w0 : T6) (a1 : Int32) (a2 : Int32) {o : Int32} (hf : f_X6_ranksBefore w0 a1 a2 = some o) : gR l yX6_ranksBefore cX6_ranksBefore 3 (some .boolean) rX6_ranksBefore E [.ref (h b0), .int a1, .int a2] [C6 E h b0 w0] (some (.int o)) := by
  refine gR.of (by decide +kernel) (Nat.le_of_ble_eq_true rfl) ?_
  intro p e s m below meth c F hr hlk hK hX hP ls hl
  have F : gF p m c cX6_ranksBefore 3 s ([.ref (h b0), .int a1, .int a2] : List Value).toArray RX6 := F
  generalize ([.ref (h b0), .int a1, .int a2] : List Value).toArray = args at F ⊢
  generalize hQ : MQ below _ _ _ _ _ _ = Q
  have hl : lv_has ls 3 [(0, .ref (h b0)), (1, .int a1), (2, .int a2)] := hl
  have hx := F.1
  have hb := F.2.1
  unfold f_X6_ranksBefore at hf
  refine lv_aload_n hx hb dX6_ranksBefore_0 rfl (lv_at hl 0 rfl) ?_
  refine lv_iload_n hx hb dX6_ranksBefore_1 rfl (lv_at hl 1 rfl) ?_
  obtain ⟨x1, hx1, hf⟩ := g_bnd hf
  refine g_rv (As := [.int a1]) (rest := []) F hK hX hP [0] rfl (c_X6_has h b0 w0 a1 hx1) (kX6_39 F.2.2.2.2 ⟨Nat.le_of_ble_eq_true rfl, Nat.le_of_ble_eq_true rfl⟩) rfl rfl rfl rfl hl.1 rfl (lv_room (Nat.le_of_ble_eq_true rfl)) ⟨Nat.zero_le _, Nat.zero_le _⟩ dX6_ranksBefore_2 ?_
  refine lv_if_eq (tgt := 16) hx hb dX6_ranksBefore_5 (by decide) (fun c2 => ?_) (fun c2 => ?_)
  · have hf := g_it c2 hf
    refine lv_iconst (v := 0) hx hb dX6_ranksBefore_16 (by decide) ?_
    have ho := Option.some.inj hf
    rw [← hQ, ← ho]
    exact g_retZ F hr hlk narrow_b0 dX6_ranksBefore_17
  · have hf := g_if c2 hf
    refine lv_aload_n hx hb dX6_ranksBefore_8 rfl (lv_at hl 0 rfl) ?_
    refine lv_iload_n hx hb dX6_ranksBefore_9 rfl (lv_at hl 2 rfl) ?_
    obtain ⟨x3, hx3, hf⟩ := g_bnd hf
    refine g_rv (As := [.int a2]) (rest := []) F hK hX hP [0] rfl (c_X6_has h b0 w0 a2 hx3) (kX6_39 F.2.2.2.2 ⟨Nat.le_of_ble_eq_true rfl, Nat.le_of_ble_eq_true rfl⟩) rfl rfl rfl rfl hl.1 rfl (lv_room (Nat.le_of_ble_eq_true rfl)) ⟨Nat.zero_le _, Nat.zero_le _⟩ dX6_ranksBefore_10 ?_
    refine lv_if_ne (tgt := 18) hx hb dX6_ranksBefore_13 (by decide) (fun c4 => ?_) (fun c4 => ?_)
    · have hf := g_if c4 hf
      refine lv_aload_n hx hb dX6_ranksBefore_18 rfl (lv_at hl 0 rfl) ?_
      refine g_get F hK hP 0 0 2 flX6_18 rfl rfl rfl dX6_ranksBefore_19 ?_
      refine lv_iload_n hx hb dX6_ranksBefore_22 rfl (lv_at hl 1 rfl) ?_
      obtain ⟨x5, hx5, hf⟩ := g_bnd hf
      refine g_iald F hK hP 0 3 rfl rfl hx5 dX6_ranksBefore_23 ?_
      refine lv_aload_n hx hb dX6_ranksBefore_24 rfl (lv_at hl 0 rfl) ?_
      refine g_get F hK hP 0 0 2 flX6_18 rfl rfl rfl dX6_ranksBefore_25 ?_
      refine lv_iload_n hx hb dX6_ranksBefore_28 rfl (lv_at hl 2 rfl) ?_
      obtain ⟨x6, hx6, hf⟩ := g_bnd hf
      refine g_iald F hK hP 0 3 rfl rfl hx6 dX6_ranksBefore_29 ?_
      refine lv_icmp_eq (tgt := 54) hx hb dX6_ranksBefore_30 (by decide) (fun c7 => ?_) (fun c7 => ?_)
      · have hf := g_it c7 hf
        refine lv_aload_n hx hb dX6_ranksBefore_54 rfl (lv_at hl 0 rfl) ?_
        refine g_get F hK hP 0 0 3 flX6_22 rfl rfl rfl dX6_ranksBefore_55 ?_
        refine lv_iload_n hx hb dX6_ranksBefore_58 rfl (lv_at hl 1 rfl) ?_
        obtain ⟨x8, hx8, hf⟩ := g_bnd hf
        refine g_iald F hK hP 0 4 rfl rfl hx8 dX6_ranksBefore_59 ?_
        refine lv_aload_n hx hb dX6_ranksBefore_60 rfl (lv_at hl 0 rfl) ?_
        refine g_get F hK hP 0 0 3 flX6_22 rfl rfl rfl dX6_ranksBefore_61 ?_
        refine lv_iload_n hx hb dX6_ranksBefore_64 rfl (lv_at hl 2 rfl) ?_
        obtain ⟨x9, hx9, hf⟩ := g_bnd hf
        refine g_iald F hK hP 0 4 rfl rfl hx9 dX6_ranksBefore_65 ?_
        refine lv_icmp_eq (tgt := 90) hx hb dX6_ranksBefore_66 (by decide) (fun c10 => ?_) (fun c10 => ?_)
        · have hf := g_it c10 hf
          refine lv_aload_n hx hb dX6_ranksBefore_90 rfl (lv_at hl 0 rfl) ?_
          refine g_get F hK hP 0 0 0 flX6_9 rfl rfl rfl dX6_ranksBefore_91 ?_
          refine lv_iload_n hx hb dX6_ranksBefore_94 rfl (lv_at hl 1 rfl) ?_
          obtain ⟨x11, hx11, hf⟩ := g_bnd hf
          refine g_lald F hK hP 0 1 rfl rfl hx11 dX6_ranksBefore_95 ?_
          refine lv_aload_n hx hb dX6_ranksBefore_96 rfl (lv_at hl 0 rfl) ?_
          refine g_get F hK hP 0 0 0 flX6_9 rfl rfl rfl dX6_ranksBefore_97 ?_
          refine lv_iload_n hx hb dX6_ranksBefore_100 rfl (lv_at hl 2 rfl) ?_
          obtain ⟨x12, hx12, hf⟩ := g_bnd hf
          refine g_lald F hK hP 0 1 rfl rfl hx12 dX6_ranksBefore_101 ?_
          refine g_lc_ge (tgt := 110) hx hb dX6_ranksBefore_102 dX6_ranksBefore_103 (by decide) (fun c13 => ?_) (fun c13 => ?_)
          · have hf := g_it c13 hf
            refine lv_iconst (v := 0) hx hb dX6_ranksBefore_110 (by decide) ?_
            have ho := Option.some.inj hf
            rw [← hQ, ← ho]
            exact g_retZ F hr hlk narrow_b0 dX6_ranksBefore_111
          · have hf := g_if c13 hf
            refine lv_iconst (v := 1) hx hb dX6_ranksBefore_106 (by decide) ?_
            refine lv_goto (tgt := 111) hx hb dX6_ranksBefore_107 (by decide) ?_
            have ho := Option.some.inj hf
            rw [← hQ, ← ho]
            exact g_retZ F hr hlk narrow_b1 dX6_ranksBefore_111
        · have hf := g_if c10 hf
          refine lv_aload_n hx hb dX6_ranksBefore_69 rfl (lv_at hl 0 rfl) ?_
          refine g_get F hK hP 0 0 3 flX6_22 rfl rfl rfl dX6_ranksBefore_70 ?_
          refine lv_iload_n hx hb dX6_ranksBefore_73 rfl (lv_at hl 1 rfl) ?_
          obtain ⟨x14, hx14, hf⟩ := g_bnd hf
          refine g_iald F hK hP 0 4 rfl rfl hx14 dX6_ranksBefore_74 ?_
          refine lv_aload_n hx hb dX6_ranksBefore_75 rfl (lv_at hl 0 rfl) ?_
          refine g_get F hK hP 0 0 3 flX6_22 rfl rfl rfl dX6_ranksBefore_76 ?_
          refine lv_iload_n hx hb dX6_ranksBefore_79 rfl (lv_at hl 2 rfl) ?_
          obtain ⟨x15, hx15, hf⟩ := g_bnd hf
          refine g_iald F hK hP 0 4 rfl rfl hx15 dX6_ranksBefore_80 ?_
          refine lv_icmp_le (tgt := 88) hx hb dX6_ranksBefore_81 (by decide) (fun c16 => ?_) (fun c16 => ?_)
          · have hf := g_it c16 hf
            refine lv_iconst (v := 0) hx hb dX6_ranksBefore_88 (by decide) ?_
            have ho := Option.some.inj hf
            rw [← hQ, ← ho]
            exact g_retZ F hr hlk narrow_b0 dX6_ranksBefore_89
          · have hf := g_if c16 hf
            refine lv_iconst (v := 1) hx hb dX6_ranksBefore_84 (by decide) ?_
            refine lv_goto (tgt := 89) hx hb dX6_ranksBefore_85 (by decide) ?_
            have ho := Option.some.inj hf
            rw [← hQ, ← ho]
            exact g_retZ F hr hlk narrow_b1 dX6_ranksBefore_89
      · have hf := g_if c7 hf
        refine lv_aload_n hx hb dX6_ranksBefore_33 rfl (lv_at hl 0 rfl) ?_
        refine g_get F hK hP 0 0 2 flX6_18 rfl rfl rfl dX6_ranksBefore_34 ?_
        refine lv_iload_n hx hb dX6_ranksBefore_37 rfl (lv_at hl 1 rfl) ?_
        obtain ⟨x17, hx17, hf⟩ := g_bnd hf
        refine g_iald F hK hP 0 3 rfl rfl hx17 dX6_ranksBefore_38 ?_
        refine lv_aload_n hx hb dX6_ranksBefore_39 rfl (lv_at hl 0 rfl) ?_
        refine g_get F hK hP 0 0 2 flX6_18 rfl rfl rfl dX6_ranksBefore_40 ?_
        refine lv_iload_n hx hb dX6_ranksBefore_43 rfl (lv_at hl 2 rfl) ?_
        obtain ⟨x18, hx18, hf⟩ := g_bnd hf
        refine g_iald F hK hP 0 3 rfl rfl hx18 dX6_ranksBefore_44 ?_
        refine lv_icmp_le (tgt := 52) hx hb dX6_ranksBefore_45 (by decide) (fun c19 => ?_) (fun c19 => ?_)
        · have hf := g_it c19 hf
          refine lv_iconst (v := 0) hx hb dX6_ranksBefore_52 (by decide) ?_
          have ho := Option.some.inj hf
          rw [← hQ, ← ho]
          exact g_retZ F hr hlk narrow_b0 dX6_ranksBefore_53
        · have hf := g_if c19 hf
          refine lv_iconst (v := 1) hx hb dX6_ranksBefore_48 (by decide) ?_
          refine lv_goto (tgt := 53) hx hb dX6_ranksBefore_49 (by decide) ?_
          have ho := Option.some.inj hf
          rw [← hQ, ← ho]
          exact g_retZ F hr hlk narrow_b1 dX6_ranksBefore_53
    · have hf := g_it c4 hf
      refine lv_iconst (v := 0) hx hb dX6_ranksBefore_16 (by decide) ?_
      have ho := Option.some.inj hf
      rw [← hQ, ← ho]
      exact g_retZ F hr hlk narrow_b0 dX6_ranksBefore_17
set_option maxHeartbeats 4000000 in
set_option maxRecDepth 100000 in
theorem c_X6_rankOf {l : Launch} {E : gEnv} (h : Nat → Nat) (b0 : Nat) (w0 : T6) (a1 : Int32) {o : Int32} (hf : f_X6_rankOf w0 a1 = some o) : gR l yX6_rankOf cX6_rankOf 4 (some .int) rX6_rankOf E [.ref (h b0), .int a1] [C6 E h b0 w0] (some (.int o)) := by
  refine gR.of (by decide +kernel) (Nat.le_of_ble_eq_true rfl) ?_
  intro p e s m below meth c F hr hlk hK hX hP ls hl
  have F : gF p m c cX6_rankOf 4 s ([.ref (h b0), .int a1] : List Value).toArray RX6 := F
  generalize ([.ref (h b0), .int a1] : List Value).toArray = args at F ⊢
  generalize hQ : MQ below _ _ _ _ _ _ = Q
  have hl : lv_has ls 4 [(0, .ref (h b0)), (1, .int a1)] := hl
  have hx := F.1
  have hb := F.2.1
  unfold f_X6_rankOf at hf
  refine lv_iconst (v := 0) hx hb dX6_rankOf_0 (by decide) ?_
  refine lv_istore_n (lv' := [(2, .int 0), (0, .ref (h b0)), (1, .int a1)]) hx hb dX6_rankOf_1 rfl hl (by decide) rfl (fun ls hl => ?_)
  refine lv_iconst (v := 0) hx hb dX6_rankOf_2 (by decide) ?_
  refine lv_istore_n (lv' := [(3, .int 0), (2, .int 0), (0, .ref (h b0)), (1, .int a1)]) hx hb dX6_rankOf_3 rfl hl (by decide) rfl (fun ls hl => ?_)
  refine lp_rule (fun (v1 : Int32 × Int32) => ∀ ls : Array Slot, lv_has ls 4 [(0, .ref (h b0)), (1, .int a1), (2, .int v1.1), (3, .int v1.2)] → W p l e rX6_rankOf s m args below meth c s.heap [] 0 0 Q (F0 m 4 ls [])) ?_ _ _ hf ls (lv_sub hl [2, 3, 1, 0] rfl)
  intro v1 y hf hbackv1 hexitv1 ls hl
  refine lv_iload_n hx hb dX6_rankOf_4 rfl (lv_at hl 3 rfl) ?_
  refine lv_aload_n hx hb dX6_rankOf_5 rfl (lv_at hl 0 rfl) ?_
  refine g_get F hK hP 0 0 5 flX6_29 rfl rfl rfl dX6_rankOf_6 ?_
  refine lv_icmp_ge (tgt := 30) hx hb dX6_rankOf_9 (by decide) (fun c3 => ?_) (fun c3 => ?_)
  · have hf := g_it c3 hf
    refine lv_iload_n hx hb dX6_rankOf_30 rfl (lv_at hl 2 rfl) ?_
    have ho := hexitv1 _ (Option.some.inj hf).symm
    rw [← hQ, ← ho]
    exact g_retI F hr hlk dX6_rankOf_31
  · have hf := g_if c3 hf
    refine lv_aload_n hx hb dX6_rankOf_12 rfl (lv_at hl 0 rfl) ?_
    refine lv_iload_n hx hb dX6_rankOf_13 rfl (lv_at hl 3 rfl) ?_
    refine lv_iload_n hx hb dX6_rankOf_14 rfl (lv_at hl 1 rfl) ?_
    obtain ⟨x4, hx4, hf⟩ := g_bnd hf
    refine g_rv (As := [.int v1.2, .int a1]) (rest := []) F hK hX hP [0] rfl (c_X6_ranksBefore h b0 w0 v1.2 a1 hx4) (kX6_66 F.2.2.2.2 ⟨Nat.le_of_ble_eq_true rfl, Nat.le_of_ble_eq_true rfl⟩) rfl rfl rfl rfl hl.1 rfl (lv_room (Nat.le_of_ble_eq_true rfl)) ⟨Nat.zero_le _, Nat.zero_le _⟩ dX6_rankOf_15 ?_
    refine lv_if_eq (tgt := 24) hx hb dX6_rankOf_18 (by decide) (fun c5 => ?_) (fun c5 => ?_)
    · have hf := g_it c5 hf
      refine lv_iinc (v := (v1.2 + 1)) (lv' := [(3, .int (v1.2 + 1)), (0, .ref (h b0)), (1, .int a1), (2, .int v1.1)]) hx hb dX6_rankOf_24 hl (k := 3) rfl rfl (by decide) rfl (fun ls hl => ?_)
      refine lv_goto (tgt := 4) hx hb dX6_rankOf_27 (by decide) ?_
      exact hbackv1 _ (Option.some.inj hf).symm ls (lv_sub hl [1, 2, 3, 0] rfl)
    · have hf := g_if c5 hf
      refine lv_iinc (v := (v1.1 + 1)) (lv' := [(2, .int (v1.1 + 1)), (0, .ref (h b0)), (1, .int a1), (3, .int v1.2)]) hx hb dX6_rankOf_21 hl (k := 2) rfl rfl (by decide) rfl (fun ls hl => ?_)
      refine lv_iinc (v := (v1.2 + 1)) (lv' := [(3, .int (v1.2 + 1)), (2, .int (v1.1 + 1)), (0, .ref (h b0)), (1, .int a1)]) hx hb dX6_rankOf_24 hl (k := 3) rfl rfl (by decide) rfl (fun ls hl => ?_)
      refine lv_goto (tgt := 4) hx hb dX6_rankOf_27 (by decide) ?_
      exact hbackv1 _ (Option.some.inj hf).symm ls (lv_sub hl [2, 3, 1, 0] rfl)
set_option maxHeartbeats 4000000 in
set_option maxRecDepth 100000 in
theorem c_X6_valueOf {l : Launch} {E : gEnv} (h : Nat → Nat) (b0 : Nat) (w0 : T6) (a1 : Int32) (a2 : Int32) {o : Int32} (hf : f_X6_valueOf w0 a1 a2 = some o) : gR l yX6_valueOf cX6_valueOf 3 (some .int) rX6_valueOf E [.ref (h b0), .int a1, .int a2] [C6 E h b0 w0] (some (.int o)) := by
  refine gR.of (by decide +kernel) (Nat.le_of_ble_eq_true rfl) ?_
  intro p e s m below meth c F hr hlk hK hX hP ls hl
  have F : gF p m c cX6_valueOf 3 s ([.ref (h b0), .int a1, .int a2] : List Value).toArray RX6 := F
  generalize ([.ref (h b0), .int a1, .int a2] : List Value).toArray = args at F ⊢
  generalize hQ : MQ below _ _ _ _ _ _ = Q
  have hl : lv_has ls 3 [(0, .ref (h b0)), (1, .int a1), (2, .int a2)] := hl
  have hx := F.1
  have hb := F.2.1
  unfold f_X6_valueOf at hf
  refine lv_iload_n hx hb dX6_valueOf_0 rfl (lv_at hl 2 rfl) ?_
  by_cases c1 : a2 < 0 ∨ 4 < a2
  · have hf := g_it c1 hf
    refine g_tabOut (tgt := 77) c1 hx hb dX6_valueOf_1 (by decide) (by decide) (by decide) ?_
    refine lv_iconst (v := (-1)) hx hb dX6_valueOf_77 (by decide) ?_
    have ho := Option.some.inj hf
    rw [← hQ, ← ho]
    exact g_retI F hr hlk dX6_valueOf_78
  · have hf := g_if c1 hf
    by_cases c4 : a2 = 0
    · have hf := g_it c4 hf
      refine g_tabIn (tgt := 36) c4 hx hb dX6_valueOf_1 (by decide) (by decide) rfl (by decide) ?_
      refine lv_aload_n hx hb dX6_valueOf_36 rfl (lv_at hl 0 rfl) ?_
      refine lv_iload_n hx hb dX6_valueOf_37 rfl (lv_at hl 1 rfl) ?_
      obtain ⟨x2, hx2, hf⟩ := g_bnd hf
      refine g_rv (As := [.int a1]) (rest := []) F hK hX hP [0] rfl (c_X6_wordAt h b0 w0 a1 hx2) (kX6_45 F.2.2.2.2 ⟨Nat.le_of_ble_eq_true rfl, Nat.le_of_ble_eq_true rfl⟩) rfl rfl rfl rfl hl.1 rfl (lv_room (Nat.le_of_ble_eq_true rfl)) ⟨Nat.zero_le _, Nat.zero_le _⟩ dX6_valueOf_38 ?_
      obtain ⟨x3, hx3, hf⟩ := g_bnd hf
      refine g_rs (As := [.long x2]) (rest := []) F hK hX hP [] rfl (c_X4_lengthOf h x2 hx3) (kX6_49 F.2.2.2.2 ⟨Nat.le_of_ble_eq_true rfl, Nat.le_of_ble_eq_true rfl⟩) rfl hl.1 rfl (lv_room (Nat.le_of_ble_eq_true rfl)) ⟨Nat.zero_le _, Nat.zero_le _⟩ dX6_valueOf_41 ?_
      have ho := Option.some.inj hf
      rw [← hQ, ← ho]
      exact g_retI F hr hlk dX6_valueOf_44
    have hf := g_if c4 hf
    by_cases c6 : a2 = 1
    · have hf := g_it c6 hf
      refine g_tabIn (tgt := 45) c6 hx hb dX6_valueOf_1 (by decide) (by decide) rfl (by decide) ?_
      refine lv_aload_n hx hb dX6_valueOf_45 rfl (lv_at hl 0 rfl) ?_
      refine lv_iload_n hx hb dX6_valueOf_46 rfl (lv_at hl 1 rfl) ?_
      obtain ⟨x5, hx5, hf⟩ := g_bnd hf
      refine g_rv (As := [.int a1]) (rest := []) F hK hX hP [0] rfl (c_X6_countAt h b0 w0 a1 hx5) (kX6_53 F.2.2.2.2 ⟨Nat.le_of_ble_eq_true rfl, Nat.le_of_ble_eq_true rfl⟩) rfl rfl rfl rfl hl.1 rfl (lv_room (Nat.le_of_ble_eq_true rfl)) ⟨Nat.zero_le _, Nat.zero_le _⟩ dX6_valueOf_47 ?_
      have ho := Option.some.inj hf
      rw [← hQ, ← ho]
      exact g_retI F hr hlk dX6_valueOf_50
    have hf := g_if c6 hf
    by_cases c8 : a2 = 2
    · have hf := g_it c8 hf
      refine g_tabIn (tgt := 51) c8 hx hb dX6_valueOf_1 (by decide) (by decide) rfl (by decide) ?_
      refine lv_aload_n hx hb dX6_valueOf_51 rfl (lv_at hl 0 rfl) ?_
      refine lv_iload_n hx hb dX6_valueOf_52 rfl (lv_at hl 1 rfl) ?_
      obtain ⟨x7, hx7, hf⟩ := g_bnd hf
      refine g_rv (As := [.int a1]) (rest := []) F hK hX hP [0] rfl (c_X6_timeAt h b0 w0 a1 hx7) (kX6_57 F.2.2.2.2 ⟨Nat.le_of_ble_eq_true rfl, Nat.le_of_ble_eq_true rfl⟩) rfl rfl rfl rfl hl.1 rfl (lv_room (Nat.le_of_ble_eq_true rfl)) ⟨Nat.zero_le _, Nat.zero_le _⟩ dX6_valueOf_53 ?_
      have ho := Option.some.inj hf
      rw [← hQ, ← ho]
      exact g_retI F hr hlk dX6_valueOf_56
    have hf := g_if c8 hf
    by_cases c11 : a2 = 3
    · have hf := g_it c11 hf
      refine g_tabIn (tgt := 57) c11 hx hb dX6_valueOf_1 (by decide) (by decide) rfl (by decide) ?_
      refine lv_aload_n hx hb dX6_valueOf_57 rfl (lv_at hl 0 rfl) ?_
      refine lv_iload_n hx hb dX6_valueOf_58 rfl (lv_at hl 1 rfl) ?_
      obtain ⟨x9, hx9, hf⟩ := g_bnd hf
      refine g_rv (As := [.int a1]) (rest := []) F hK hX hP [0] rfl (c_X6_isAdded h b0 w0 a1 hx9) (kX6_60 F.2.2.2.2 ⟨Nat.le_of_ble_eq_true rfl, Nat.le_of_ble_eq_true rfl⟩) rfl rfl rfl rfl hl.1 rfl (lv_room (Nat.le_of_ble_eq_true rfl)) ⟨Nat.zero_le _, Nat.zero_le _⟩ dX6_valueOf_59 ?_
      refine lv_if_eq (tgt := 69) hx hb dX6_valueOf_62 (by decide) (fun c10 => ?_) (fun c10 => ?_)
      · have hf := g_it c10 hf
        refine lv_iconst (v := 0) hx hb dX6_valueOf_69 (by decide) ?_
        have ho := Option.some.inj hf
        rw [← hQ, ← ho]
        exact g_retI F hr hlk dX6_valueOf_70
      · have hf := g_if c10 hf
        refine lv_iconst (v := 1) hx hb dX6_valueOf_65 (by decide) ?_
        refine lv_goto (tgt := 70) hx hb dX6_valueOf_66 (by decide) ?_
        have ho := Option.some.inj hf
        rw [← hQ, ← ho]
        exact g_retI F hr hlk dX6_valueOf_70
    have hf := g_if c11 hf
    by_cases c13 : a2 = 4
    · have hf := g_it c13 hf
      refine g_tabIn (tgt := 71) c13 hx hb dX6_valueOf_1 (by decide) (by decide) rfl (by decide) ?_
      refine lv_aload_n hx hb dX6_valueOf_71 rfl (lv_at hl 0 rfl) ?_
      refine lv_iload_n hx hb dX6_valueOf_72 rfl (lv_at hl 1 rfl) ?_
      obtain ⟨x12, hx12, hf⟩ := g_bnd hf
      refine g_rv (As := [.int a1]) (rest := []) F hK hX hP [0] rfl (c_X6_rankOf h b0 w0 a1 hx12) (kX6_63 F.2.2.2.2 ⟨Nat.le_of_ble_eq_true rfl, Nat.le_of_ble_eq_true rfl⟩) rfl rfl rfl rfl hl.1 rfl (lv_room (Nat.le_of_ble_eq_true rfl)) ⟨Nat.zero_le _, Nat.zero_le _⟩ dX6_valueOf_73 ?_
      have ho := Option.some.inj hf
      rw [← hQ, ← ho]
      exact g_retI F hr hlk dX6_valueOf_76
    have hf := g_if c13 hf
    exact absurd hf (fun h => nomatch h)
set_option maxHeartbeats 4000000 in
set_option maxRecDepth 100000 in
theorem c_X6_keysAt {l : Launch} {E : gEnv} (h : Nat → Nat) (b0 : Nat) (w0 : T6) (a1 : Int32) {o : Int64} (hf : f_X6_keysAt w0 a1 = some o) : gR l yX6_keysAt cX6_keysAt 2 (some .long) rX6_keysAt E [.ref (h b0), .int a1] [C6 E h b0 w0] (some (.long o)) := by
  refine gR.of (by decide +kernel) (Nat.le_of_ble_eq_true rfl) ?_
  intro p e s m below meth c F hr hlk hK hX hP ls hl
  have F : gF p m c cX6_keysAt 2 s ([.ref (h b0), .int a1] : List Value).toArray RX6 := F
  generalize ([.ref (h b0), .int a1] : List Value).toArray = args at F ⊢
  generalize hQ : MQ below _ _ _ _ _ _ = Q
  have hl : lv_has ls 2 [(0, .ref (h b0)), (1, .int a1)] := hl
  have hx := F.1
  have hb := F.2.1
  unfold f_X6_keysAt at hf
  refine lv_aload_n hx hb dX6_keysAt_0 rfl (lv_at hl 0 rfl) ?_
  refine lv_iload_n hx hb dX6_keysAt_1 rfl (lv_at hl 1 rfl) ?_
  obtain ⟨x1, hx1, hf⟩ := g_bnd hf
  refine g_rv (As := [.int a1]) (rest := []) F hK hX hP [0] rfl (c_X6_has h b0 w0 a1 hx1) (kX6_39 F.2.2.2.2 ⟨Nat.le_of_ble_eq_true rfl, Nat.le_of_ble_eq_true rfl⟩) rfl rfl rfl rfl hl.1 rfl (lv_room (Nat.le_of_ble_eq_true rfl)) ⟨Nat.zero_le _, Nat.zero_le _⟩ dX6_keysAt_2 ?_
  refine lv_if_eq (tgt := 17) hx hb dX6_keysAt_5 (by decide) (fun c2 => ?_) (fun c2 => ?_)
  · have hf := g_it c2 hf
    refine lv_lconst (v := 0) hx hb dX6_keysAt_17 rfl ?_
    have ho := Option.some.inj hf
    rw [← hQ, ← ho]
    exact g_retL F hr hlk dX6_keysAt_18
  · have hf := g_if c2 hf
    refine lv_aload_n hx hb dX6_keysAt_8 rfl (lv_at hl 0 rfl) ?_
    refine g_get F hK hP 0 0 1 flX6_15 rfl rfl rfl dX6_keysAt_9 ?_
    refine lv_iload_n hx hb dX6_keysAt_12 rfl (lv_at hl 1 rfl) ?_
    obtain ⟨x3, hx3, hf⟩ := g_bnd hf
    refine g_lald F hK hP 0 2 rfl rfl hx3 dX6_keysAt_13 ?_
    refine lv_goto (tgt := 18) hx hb dX6_keysAt_14 (by decide) ?_
    have ho := Option.some.inj hf
    rw [← hQ, ← ho]
    exact g_retL F hr hlk dX6_keysAt_18
set_option maxHeartbeats 4000000 in
set_option maxRecDepth 100000 in
theorem c_X6_beginsWith {l : Launch} {E : gEnv} (h : Nat → Nat) (b0 : Nat) (w0 : T6) (a1 : Int32) (a2 : Int64) {o : Int32} (hf : f_X6_beginsWith w0 a1 a2 = some o) : gR l yX6_beginsWith cX6_beginsWith 10 (some .boolean) rX6_beginsWith E [.ref (h b0), .int a1, .long a2] [C6 E h b0 w0] (some (.int o)) := by
  refine gR.of (by decide +kernel) (Nat.le_of_ble_eq_true rfl) ?_
  intro p e s m below meth c F hr hlk hK hX hP ls hl
  have F : gF p m c cX6_beginsWith 10 s ([.ref (h b0), .int a1, .long a2] : List Value).toArray RX6 := F
  generalize ([.ref (h b0), .int a1, .long a2] : List Value).toArray = args at F ⊢
  generalize hQ : MQ below _ _ _ _ _ _ = Q
  have hl : lv_has ls 10 [(0, .ref (h b0)), (1, .int a1), (2, .long a2)] := hl
  have hx := F.1
  have hb := F.2.1
  unfold f_X6_beginsWith at hf
  refine lv_aload_n hx hb dX6_beginsWith_0 rfl (lv_at hl 0 rfl) ?_
  refine lv_iload_n hx hb dX6_beginsWith_1 rfl (lv_at hl 1 rfl) ?_
  obtain ⟨x1, hx1, hf⟩ := g_bnd hf
  refine g_rv (As := [.int a1]) (rest := []) F hK hX hP [0] rfl (c_X6_wordAt h b0 w0 a1 hx1) (kX6_45 F.2.2.2.2 ⟨Nat.le_of_ble_eq_true rfl, Nat.le_of_ble_eq_true rfl⟩) rfl rfl rfl rfl hl.1 rfl (lv_room (Nat.le_of_ble_eq_true rfl)) ⟨Nat.zero_le _, Nat.zero_le _⟩ dX6_beginsWith_2 ?_
  refine lv_lstore (lv' := [(4, .long x1), (0, .ref (h b0)), (1, .int a1), (2, .long a2)]) hx hb dX6_beginsWith_5 hl (by decide) rfl (fun ls hl => ?_)
  refine lv_aload_n hx hb dX6_beginsWith_7 rfl (lv_at hl 1 rfl) ?_
  refine lv_iload_n hx hb dX6_beginsWith_8 rfl (lv_at hl 2 rfl) ?_
  obtain ⟨x2, hx2, hf⟩ := g_bnd hf
  refine g_rv (As := [.int a1]) (rest := []) F hK hX hP [0] rfl (c_X6_keysAt h b0 w0 a1 hx2) (kX6_70 F.2.2.2.2 ⟨Nat.le_of_ble_eq_true rfl, Nat.le_of_ble_eq_true rfl⟩) rfl rfl rfl rfl hl.1 rfl (lv_room (Nat.le_of_ble_eq_true rfl)) ⟨Nat.zero_le _, Nat.zero_le _⟩ dX6_beginsWith_9 ?_
  refine lv_lstore (lv' := [(6, .long x2), (4, .long x1), (0, .ref (h b0)), (1, .int a1), (2, .long a2)]) hx hb dX6_beginsWith_12 hl (by decide) rfl (fun ls hl => ?_)
  refine lv_iconst (v := 0) hx hb dX6_beginsWith_14 (by decide) ?_
  refine lv_istore (lv' := [(8, .int 0), (6, .long x2), (4, .long x1), (0, .ref (h b0)), (1, .int a1), (2, .long a2)]) hx hb dX6_beginsWith_15 hl (by decide) rfl (fun ls hl => ?_)
  refine lp_rule (fun (v3 : Int32) => ∀ ls : Array Slot, lv_has ls 10 [(2, .long a2), (4, .long x1), (6, .long x2), (8, .int v3)] → W p l e rX6_beginsWith s m args below meth c s.heap [] 0 0 Q (F0 m 17 ls [])) ?_ _ _ hf ls (lv_sub hl [5, 2, 1, 0] rfl)
  intro v3 y hf hbackv3 hexitv3 ls hl
  refine lv_iload hx hb dX6_beginsWith_17 (lv_at hl 3 rfl) ?_
  refine lv_bipush (v := 10) hx hb dX6_beginsWith_19 (by decide) ?_
  refine lv_icmp_ge (tgt := 71) hx hb dX6_beginsWith_21 (by decide) (fun c5 => ?_) (fun c5 => ?_)
  · have hf := g_it c5 hf
    refine lv_iconst (v := 1) hx hb dX6_beginsWith_71 (by decide) ?_
    have ho := hexitv3 _ (Option.some.inj hf).symm
    rw [← hQ, ← ho]
    exact g_retZ F hr hlk narrow_b1 dX6_beginsWith_72
  · have hf := g_if c5 hf
    refine lv_lload_n hx hb dX6_beginsWith_24 rfl (lv_at hl 0 rfl) ?_
    refine lv_iload hx hb dX6_beginsWith_25 (lv_at hl 3 rfl) ?_
    obtain ⟨x6, hx6, hf⟩ := g_bnd hf
    refine g_rs (As := [.long a2, .int v3]) (rest := []) F hK hX hP [] rfl (c_X4_codeAt h a2 v3 hx6) (kX6_73 F.2.2.2.2 ⟨Nat.le_of_ble_eq_true rfl, Nat.le_of_ble_eq_true rfl⟩) rfl hl.1 rfl (lv_room (Nat.le_of_ble_eq_true rfl)) ⟨Nat.zero_le _, Nat.zero_le _⟩ dX6_beginsWith_27 ?_
    refine lv_istore (lv' := [(9, .int x6), (2, .long a2), (4, .long x1), (6, .long x2), (8, .int v3)]) hx hb dX6_beginsWith_30 hl (by decide) rfl (fun ls hl => ?_)
    refine lv_iload hx hb dX6_beginsWith_32 (lv_at hl 0 rfl) ?_
    refine lv_if_ne (tgt := 39) hx hb dX6_beginsWith_34 (by decide) (fun c7 => ?_) (fun c7 => ?_)
    · have hf := g_if c7 hf
      refine lv_iload hx hb dX6_beginsWith_39 (lv_at hl 0 rfl) ?_
      refine lv_lload hx hb dX6_beginsWith_41 (lv_at hl 2 rfl) ?_
      refine lv_iload hx hb dX6_beginsWith_43 (lv_at hl 4 rfl) ?_
      obtain ⟨x8, hx8, hf⟩ := g_bnd hf
      refine g_rs (As := [.long x1, .int v3]) (rest := [.int x6]) F hK hX hP [] rfl (c_X4_codeAt h x1 v3 hx8) (kX6_73 F.2.2.2.2 ⟨Nat.le_of_ble_eq_true rfl, Nat.le_of_ble_eq_true rfl⟩) rfl hl.1 rfl (lv_room (Nat.le_of_ble_eq_true rfl)) ⟨Nat.zero_le _, Nat.zero_le _⟩ dX6_beginsWith_45 ?_
      refine lv_icmp_eq (tgt := 65) hx hb dX6_beginsWith_48 (by decide) (fun c9 => ?_) (fun c9 => ?_)
      · have hf := g_it c9 hf
        refine lv_iinc (v := (v3 + 1)) (lv' := [(8, .int (v3 + 1)), (9, .int x6), (2, .long a2), (4, .long x1), (6, .long x2)]) hx hb dX6_beginsWith_65 hl (k := 4) rfl rfl (by decide) rfl (fun ls hl => ?_)
        refine lv_goto (tgt := 17) hx hb dX6_beginsWith_68 (by decide) ?_
        exact hbackv3 _ (Option.some.inj hf).symm ls (lv_sub hl [2, 3, 4, 0] rfl)
      · have hf := g_if c9 hf
        refine lv_iload hx hb dX6_beginsWith_51 (lv_at hl 0 rfl) ?_
        refine lv_lload hx hb dX6_beginsWith_53 (lv_at hl 3 rfl) ?_
        refine lv_iload hx hb dX6_beginsWith_55 (lv_at hl 4 rfl) ?_
        obtain ⟨x10, hx10, hf⟩ := g_bnd hf
        refine g_rs (As := [.long x2, .int v3]) (rest := [.int x6]) F hK hX hP [] rfl (c_X4_codeAt h x2 v3 hx10) (kX6_73 F.2.2.2.2 ⟨Nat.le_of_ble_eq_true rfl, Nat.le_of_ble_eq_true rfl⟩) rfl hl.1 rfl (lv_room (Nat.le_of_ble_eq_true rfl)) ⟨Nat.zero_le _, Nat.zero_le _⟩ dX6_beginsWith_57 ?_
        refine lv_icmp_eq (tgt := 65) hx hb dX6_beginsWith_60 (by decide) (fun c11 => ?_) (fun c11 => ?_)
        · have hf := g_it c11 hf
          refine lv_iinc (v := (v3 + 1)) (lv' := [(8, .int (v3 + 1)), (9, .int x6), (2, .long a2), (4, .long x1), (6, .long x2)]) hx hb dX6_beginsWith_65 hl (k := 4) rfl rfl (by decide) rfl (fun ls hl => ?_)
          refine lv_goto (tgt := 17) hx hb dX6_beginsWith_68 (by decide) ?_
          exact hbackv3 _ (Option.some.inj hf).symm ls (lv_sub hl [2, 3, 4, 0] rfl)
        · have hf := g_if c11 hf
          refine lv_iconst (v := 0) hx hb dX6_beginsWith_63 (by decide) ?_
          have ho := hexitv3 _ (Option.some.inj hf).symm
          rw [← hQ, ← ho]
          exact g_retZ F hr hlk narrow_b0 dX6_beginsWith_64
    · have hf := g_it c7 hf
      refine lv_iconst (v := 1) hx hb dX6_beginsWith_37 (by decide) ?_
      have ho := hexitv3 _ (Option.some.inj hf).symm
      rw [← hQ, ← ho]
      exact g_retZ F hr hlk narrow_b1 dX6_beginsWith_38
set_option maxHeartbeats 4000000 in
set_option maxRecDepth 100000 in
theorem c_X6_lastAdded {l : Launch} {E : gEnv} (h : Nat → Nat) (b0 : Nat) (w0 : T6) {o : Int32} (hf : f_X6_lastAdded w0 = some o) : gR l yX6_lastAdded cX6_lastAdded 3 (some .int) rX6_lastAdded E [.ref (h b0)] [C6 E h b0 w0] (some (.int o)) := by
  refine gR.of (by decide +kernel) (Nat.le_of_ble_eq_true rfl) ?_
  intro p e s m below meth c F hr hlk hK hX hP ls hl
  have F : gF p m c cX6_lastAdded 3 s ([.ref (h b0)] : List Value).toArray RX6 := F
  generalize ([.ref (h b0)] : List Value).toArray = args at F ⊢
  generalize hQ : MQ below _ _ _ _ _ _ = Q
  have hl : lv_has ls 3 [(0, .ref (h b0))] := hl
  have hx := F.1
  have hb := F.2.1
  unfold f_X6_lastAdded at hf
  refine lv_iconst (v := (-1)) hx hb dX6_lastAdded_0 (by decide) ?_
  refine lv_istore_n (lv' := [(1, .int (-1)), (0, .ref (h b0))]) hx hb dX6_lastAdded_1 rfl hl (by decide) rfl (fun ls hl => ?_)
  refine lv_iconst (v := 0) hx hb dX6_lastAdded_2 (by decide) ?_
  refine lv_istore_n (lv' := [(2, .int 0), (1, .int (-1)), (0, .ref (h b0))]) hx hb dX6_lastAdded_3 rfl hl (by decide) rfl (fun ls hl => ?_)
  refine lp_rule (fun (v1 : Int32 × Int32) => ∀ ls : Array Slot, lv_has ls 3 [(0, .ref (h b0)), (1, .int v1.1), (2, .int v1.2)] → W p l e rX6_lastAdded s m args below meth c s.heap [] 0 0 Q (F0 m 4 ls [])) ?_ _ _ hf ls (lv_sub hl [2, 1, 0] rfl)
  intro v1 y hf hbackv1 hexitv1 ls hl
  refine lv_iload_n hx hb dX6_lastAdded_4 rfl (lv_at hl 2 rfl) ?_
  refine lv_aload_n hx hb dX6_lastAdded_5 rfl (lv_at hl 0 rfl) ?_
  refine g_get F hK hP 0 0 5 flX6_29 rfl rfl rfl dX6_lastAdded_6 ?_
  refine lv_icmp_ge (tgt := 42) hx hb dX6_lastAdded_9 (by decide) (fun c3 => ?_) (fun c3 => ?_)
  · have hf := g_it c3 hf
    refine lv_iload_n hx hb dX6_lastAdded_42 rfl (lv_at hl 1 rfl) ?_
    have ho := hexitv1 _ (Option.some.inj hf).symm
    rw [← hQ, ← ho]
    exact g_retI F hr hlk dX6_lastAdded_43
  · have hf := g_if c3 hf
    refine lv_aload_n hx hb dX6_lastAdded_12 rfl (lv_at hl 0 rfl) ?_
    refine lv_iload_n hx hb dX6_lastAdded_13 rfl (lv_at hl 2 rfl) ?_
    obtain ⟨x4, hx4, hf⟩ := g_bnd hf
    refine g_rv (As := [.int v1.2]) (rest := []) F hK hX hP [0] rfl (c_X6_isAdded h b0 w0 v1.2 hx4) (kX6_60 F.2.2.2.2 ⟨Nat.le_of_ble_eq_true rfl, Nat.le_of_ble_eq_true rfl⟩) rfl rfl rfl rfl hl.1 rfl (lv_room (Nat.le_of_ble_eq_true rfl)) ⟨Nat.zero_le _, Nat.zero_le _⟩ dX6_lastAdded_14 ?_
    refine lv_if_eq (tgt := 36) hx hb dX6_lastAdded_17 (by decide) (fun c5 => ?_) (fun c5 => ?_)
    · have hf := g_it c5 hf
      refine lv_iinc (v := (v1.2 + 1)) (lv' := [(2, .int (v1.2 + 1)), (0, .ref (h b0)), (1, .int v1.1)]) hx hb dX6_lastAdded_36 hl (k := 2) rfl rfl (by decide) rfl (fun ls hl => ?_)
      refine lv_goto (tgt := 4) hx hb dX6_lastAdded_39 (by decide) ?_
      exact hbackv1 _ (Option.some.inj hf).symm ls (lv_sub hl [1, 2, 0] rfl)
    · have hf := g_if c5 hf
      refine lv_iload_n hx hb dX6_lastAdded_20 rfl (lv_at hl 1 rfl) ?_
      refine lv_iconst (v := (-1)) hx hb dX6_lastAdded_21 (by decide) ?_
      refine lv_icmp_eq (tgt := 34) hx hb dX6_lastAdded_22 (by decide) (fun c6 => ?_) (fun c6 => ?_)
      · have hf := g_it c6 hf
        refine lv_iload_n hx hb dX6_lastAdded_34 rfl (lv_at hl 2 rfl) ?_
        refine lv_istore_n (lv' := [(1, .int v1.2), (0, .ref (h b0)), (2, .int v1.2)]) hx hb dX6_lastAdded_35 rfl hl (by decide) rfl (fun ls hl => ?_)
        refine lv_iinc (v := (v1.2 + 1)) (lv' := [(2, .int (v1.2 + 1)), (1, .int v1.2), (0, .ref (h b0))]) hx hb dX6_lastAdded_36 hl (k := 2) rfl rfl (by decide) rfl (fun ls hl => ?_)
        refine lv_goto (tgt := 4) hx hb dX6_lastAdded_39 (by decide) ?_
        exact hbackv1 _ (Option.some.inj hf).symm ls (lv_sub hl [2, 1, 0] rfl)
      · have hf := g_if c6 hf
        refine lv_aload_n hx hb dX6_lastAdded_25 rfl (lv_at hl 0 rfl) ?_
        refine lv_iload_n hx hb dX6_lastAdded_26 rfl (lv_at hl 1 rfl) ?_
        refine lv_iload_n hx hb dX6_lastAdded_27 rfl (lv_at hl 2 rfl) ?_
        obtain ⟨x7, hx7, hf⟩ := g_bnd hf
        refine g_rv (As := [.int v1.1, .int v1.2]) (rest := []) F hK hX hP [0] rfl (c_X6_ranksBefore h b0 w0 v1.1 v1.2 hx7) (kX6_66 F.2.2.2.2 ⟨Nat.le_of_ble_eq_true rfl, Nat.le_of_ble_eq_true rfl⟩) rfl rfl rfl rfl hl.1 rfl (lv_room (Nat.le_of_ble_eq_true rfl)) ⟨Nat.zero_le _, Nat.zero_le _⟩ dX6_lastAdded_28 ?_
        refine lv_if_eq (tgt := 36) hx hb dX6_lastAdded_31 (by decide) (fun c8 => ?_) (fun c8 => ?_)
        · have hf := g_it c8 hf
          refine lv_iinc (v := (v1.2 + 1)) (lv' := [(2, .int (v1.2 + 1)), (0, .ref (h b0)), (1, .int v1.1)]) hx hb dX6_lastAdded_36 hl (k := 2) rfl rfl (by decide) rfl (fun ls hl => ?_)
          refine lv_goto (tgt := 4) hx hb dX6_lastAdded_39 (by decide) ?_
          exact hbackv1 _ (Option.some.inj hf).symm ls (lv_sub hl [1, 2, 0] rfl)
        · have hf := g_if c8 hf
          refine lv_iload_n hx hb dX6_lastAdded_34 rfl (lv_at hl 2 rfl) ?_
          refine lv_istore_n (lv' := [(1, .int v1.2), (0, .ref (h b0)), (2, .int v1.2)]) hx hb dX6_lastAdded_35 rfl hl (by decide) rfl (fun ls hl => ?_)
          refine lv_iinc (v := (v1.2 + 1)) (lv' := [(2, .int (v1.2 + 1)), (1, .int v1.2), (0, .ref (h b0))]) hx hb dX6_lastAdded_36 hl (k := 2) rfl rfl (by decide) rfl (fun ls hl => ?_)
          refine lv_goto (tgt := 4) hx hb dX6_lastAdded_39 (by decide) ?_
          exact hbackv1 _ (Option.some.inj hf).symm ls (lv_sub hl [2, 1, 0] rfl)
set_option maxHeartbeats 4000000 in
set_option maxRecDepth 100000 in
theorem c_X6_remove {l : Launch} {E : gEnv} (h : Nat → Nat) (b0 : Nat) (w0 : T6) (a1 : Int32) {o : T6} (hf : f_X6_remove w0 a1 = some o) : gM l yX6_remove cX6_remove 4 none rX6_remove E [.ref (h b0), .int a1] [C6 E h b0 w0] (none) [C6 E h b0 o] := by
  refine gM.of (by decide +kernel) (Nat.le_of_ble_eq_true rfl) rfl ?_
  intro p e s m below meth c F hr hlk hK hX hAB ls hl H locs hG
  have F : gF p m c cX6_remove 4 s ([.ref (h b0), .int a1] : List Value).toArray RX6 := F
  generalize ([.ref (h b0), .int a1] : List Value).toArray = args at F ⊢
  generalize hQ : MQ below _ _ _ _ _ _ = Q
  generalize hA : gAd [C6 E h b0 w0] = A at hAB hG
  have hl : lv_has ls 4 [(0, .ref (h b0)), (1, .int a1)] := hl
  have hx := F.1
  have hb := F.2.1
  unfold f_X6_remove at hf
  refine lv_aload_n hx hb dX6_remove_0 rfl (lv_at hl 0 rfl) ?_
  refine lv_iload_n hx hb dX6_remove_1 rfl (lv_at hl 1 rfl) ?_
  obtain ⟨x1, hx1, hf⟩ := g_bnd hf
  refine g_rv (As := [.int a1]) (rest := []) F hK (hG.X hX hAB) hG.1 [0] rfl (c_X6_has h b0 w0 a1 hx1) (kX6_39 F.2.2.2.2 ⟨Nat.le_of_ble_eq_true rfl, Nat.le_of_ble_eq_true rfl⟩) rfl rfl rfl rfl hl.1 rfl (lv_room (Nat.le_of_ble_eq_true rfl)) ⟨Nat.zero_le _, Nat.zero_le _⟩ dX6_remove_2 ?_
  refine lv_if_ne (tgt := 9) hx hb dX6_remove_5 (by decide) (fun c2 => ?_) (fun c2 => ?_)
  · have hf := g_if c2 hf
    refine lv_iload_n hx hb dX6_remove_9 rfl (lv_at hl 1 rfl) ?_
    refine lv_iconst (v := 1) hx hb dX6_remove_10 (by decide) ?_
    refine lv_iadd hx hb dX6_remove_11 ?_
    refine lv_istore_n (lv' := [(2, .int (a1 + 1)), (0, .ref (h b0)), (1, .int a1)]) hx hb dX6_remove_12 rfl hl (by decide) rfl (fun ls hl => ?_)
    obtain ⟨x4, hx4, hfx4⟩ := g_bnd hf
    have hEx4 : ∀ (H : Heap) (locs : List Loc), gS E A s.heap [C6 E h b0 x4] H locs → ∀ ls : Array Slot, lv_has ls 4 [(0, .ref (h b0))] → W p l e rX6_remove s m args below meth c H locs 0 0 Q (F0 m 91 ls []) := by
      intro H locs hG ls hl
      have hf := hfx4
      refine lv_aload_n hx hb dX6_remove_91 rfl (lv_at hl 0 rfl) ?_
      refine lv_dup hx hb dX6_remove_92 rfl ?_
      refine g_get F hK hG.1 0 0 5 flX6_29 rfl rfl rfl dX6_remove_93 ?_
      refine lv_iconst (v := 1) hx hb dX6_remove_96 (by decide) ?_
      refine lv_isub hx hb dX6_remove_97 ?_
      refine g_put F hK hG 0 0 5 pfX6_29 rfl rfl (Nat.le_of_ble_eq_true rfl) rfl rfl dX6_remove_98 (fun H locs hG => ?_)
      have hG : gS E A s.heap [C6 E h b0 (x4.1, x4.2.1, x4.2.2.1, x4.2.2.2.1, x4.2.2.2.2.1, (x4.2.2.2.2.2 - 1))] H locs := hG
      have ho := Option.some.inj hf
      subst hA
      rw [← hQ, ← ho]
      exact g_mretV F hr hlk hG dX6_remove_101
    refine lp_rule (fun (v3 : Int32 × T6) => ∀ (H : Heap) (locs : List Loc), gS E A s.heap [C6 E h b0 v3.2] H locs → ∀ ls : Array Slot, lv_has ls 4 [(0, .ref (h b0)), (2, .int v3.1)] → W p l e rX6_remove s m args below meth c H locs 0 0 Q (F0 m 13 ls [])) ?_ _ _ hx4 _ _ hG ls (lv_sub hl [1, 0] rfl)
    intro v3 y hf hbackv3 hexitv3 H locs hG ls hl
    refine lv_iload_n hx hb dX6_remove_13 rfl (lv_at hl 1 rfl) ?_
    refine lv_aload_n hx hb dX6_remove_14 rfl (lv_at hl 0 rfl) ?_
    refine g_get F hK hG.1 0 0 5 flX6_29 rfl rfl rfl dX6_remove_15 ?_
    refine lv_icmp_ge (tgt := 91) hx hb dX6_remove_18 (by decide) (fun c5 => ?_) (fun c5 => ?_)
    · have hf := g_it c5 hf
      obtain rfl := hexitv3 _ (Option.some.inj hf).symm
      exact hEx4 _ _ hG ls (lv_sub hl [0] rfl)
    · have hf := g_if c5 hf
      refine lv_iload_n hx hb dX6_remove_21 rfl (lv_at hl 1 rfl) ?_
      refine lv_iconst (v := 1) hx hb dX6_remove_22 (by decide) ?_
      refine lv_isub hx hb dX6_remove_23 ?_
      refine lv_istore_n (lv' := [(3, .int (v3.1 - 1)), (0, .ref (h b0)), (2, .int v3.1)]) hx hb dX6_remove_24 rfl hl (by decide) rfl (fun ls hl => ?_)
      refine lv_aload_n hx hb dX6_remove_25 rfl (lv_at hl 1 rfl) ?_
      refine g_get F hK hG.1 0 0 0 flX6_9 rfl rfl rfl dX6_remove_26 ?_
      refine lv_iload_n hx hb dX6_remove_29 rfl (lv_at hl 0 rfl) ?_
      refine lv_aload_n hx hb dX6_remove_30 rfl (lv_at hl 1 rfl) ?_
      refine g_get F hK hG.1 0 0 0 flX6_9 rfl rfl rfl dX6_remove_31 ?_
      refine lv_iload_n hx hb dX6_remove_34 rfl (lv_at hl 2 rfl) ?_
      obtain ⟨x6, hx6, hf⟩ := g_bnd hf
      refine g_lald F hK hG.1 0 1 rfl rfl hx6 dX6_remove_35 ?_
      obtain ⟨x7, hx7, hf⟩ := g_bnd hf
      refine g_last F hK hG 0 1 rfl rfl hx7 dX6_remove_36 (fun H locs hG => ?_)
      have hG : gS E A s.heap [C6 E h b0 (x7, v3.2.2.1, v3.2.2.2.1, v3.2.2.2.2.1, v3.2.2.2.2.2.1, v3.2.2.2.2.2.2)] H locs := hG
      refine lv_aload_n hx hb dX6_remove_37 rfl (lv_at hl 1 rfl) ?_
      refine g_get F hK hG.1 0 0 1 flX6_15 rfl rfl rfl dX6_remove_38 ?_
      refine lv_iload_n hx hb dX6_remove_41 rfl (lv_at hl 0 rfl) ?_
      refine lv_aload_n hx hb dX6_remove_42 rfl (lv_at hl 1 rfl) ?_
      refine g_get F hK hG.1 0 0 1 flX6_15 rfl rfl rfl dX6_remove_43 ?_
      refine lv_iload_n hx hb dX6_remove_46 rfl (lv_at hl 2 rfl) ?_
      obtain ⟨x8, hx8, hf⟩ := g_bnd hf
      refine g_lald F hK hG.1 0 2 rfl rfl hx8 dX6_remove_47 ?_
      obtain ⟨x9, hx9, hf⟩ := g_bnd hf
      refine g_last F hK hG 0 2 rfl rfl hx9 dX6_remove_48 (fun H locs hG => ?_)
      have hG : gS E A s.heap [C6 E h b0 (x7, x9, v3.2.2.2.1, v3.2.2.2.2.1, v3.2.2.2.2.2.1, v3.2.2.2.2.2.2)] H locs := hG
      refine lv_aload_n hx hb dX6_remove_49 rfl (lv_at hl 1 rfl) ?_
      refine g_get F hK hG.1 0 0 2 flX6_18 rfl rfl rfl dX6_remove_50 ?_
      refine lv_iload_n hx hb dX6_remove_53 rfl (lv_at hl 0 rfl) ?_
      refine lv_aload_n hx hb dX6_remove_54 rfl (lv_at hl 1 rfl) ?_
      refine g_get F hK hG.1 0 0 2 flX6_18 rfl rfl rfl dX6_remove_55 ?_
      refine lv_iload_n hx hb dX6_remove_58 rfl (lv_at hl 2 rfl) ?_
      obtain ⟨x10, hx10, hf⟩ := g_bnd hf
      refine g_iald F hK hG.1 0 3 rfl rfl hx10 dX6_remove_59 ?_
      obtain ⟨x11, hx11, hf⟩ := g_bnd hf
      refine g_iast F hK hG 0 3 rfl rfl hx11 dX6_remove_60 (fun H locs hG => ?_)
      have hG : gS E A s.heap [C6 E h b0 (x7, x9, x11, v3.2.2.2.2.1, v3.2.2.2.2.2.1, v3.2.2.2.2.2.2)] H locs := hG
      refine lv_aload_n hx hb dX6_remove_61 rfl (lv_at hl 1 rfl) ?_
      refine g_get F hK hG.1 0 0 3 flX6_22 rfl rfl rfl dX6_remove_62 ?_
      refine lv_iload_n hx hb dX6_remove_65 rfl (lv_at hl 0 rfl) ?_
      refine lv_aload_n hx hb dX6_remove_66 rfl (lv_at hl 1 rfl) ?_
      refine g_get F hK hG.1 0 0 3 flX6_22 rfl rfl rfl dX6_remove_67 ?_
      refine lv_iload_n hx hb dX6_remove_70 rfl (lv_at hl 2 rfl) ?_
      obtain ⟨x12, hx12, hf⟩ := g_bnd hf
      refine g_iald F hK hG.1 0 4 rfl rfl hx12 dX6_remove_71 ?_
      obtain ⟨x13, hx13, hf⟩ := g_bnd hf
      refine g_iast F hK hG 0 4 rfl rfl hx13 dX6_remove_72 (fun H locs hG => ?_)
      have hG : gS E A s.heap [C6 E h b0 (x7, x9, x11, x13, v3.2.2.2.2.2.1, v3.2.2.2.2.2.2)] H locs := hG
      refine lv_aload_n hx hb dX6_remove_73 rfl (lv_at hl 1 rfl) ?_
      refine g_get F hK hG.1 0 0 4 flX6_25 rfl rfl rfl dX6_remove_74 ?_
      refine lv_iload_n hx hb dX6_remove_77 rfl (lv_at hl 0 rfl) ?_
      refine lv_aload_n hx hb dX6_remove_78 rfl (lv_at hl 1 rfl) ?_
      refine g_get F hK hG.1 0 0 4 flX6_25 rfl rfl rfl dX6_remove_79 ?_
      refine lv_iload_n hx hb dX6_remove_82 rfl (lv_at hl 2 rfl) ?_
      obtain ⟨x14, hx14, hf⟩ := g_bnd hf
      refine g_zald F hK hG.1 0 5 rfl rfl hx14 dX6_remove_83 ?_
      obtain ⟨u16, hu16, hf⟩ := g_bnd hf
      obtain ⟨x15, hx15, hf⟩ := g_bnd hf
      refine g_zast F hK hG 0 5 rfl rfl hx15 (bz_vn hu16) dX6_remove_84 (fun H locs hG => ?_)
      have hG : gS E A s.heap [C6 E h b0 (x7, x9, x11, x13, x15, v3.2.2.2.2.2.2)] H locs := hG
      refine lv_iinc (v := (v3.1 + 1)) (lv' := [(2, .int (v3.1 + 1)), (3, .int (v3.1 - 1)), (0, .ref (h b0))]) hx hb dX6_remove_85 hl (k := 2) rfl rfl (by decide) rfl (fun ls hl => ?_)
      refine lv_goto (tgt := 13) hx hb dX6_remove_88 (by decide) ?_
      exact hbackv3 _ (Option.some.inj hf).symm _ _ hG ls (lv_sub hl [2, 0] rfl)
  · have hf := g_it c2 hf
    have ho := Option.some.inj hf
    subst hA
    rw [← hQ, ← ho]
    exact g_mretV F hr hlk hG dX6_remove_8
set_option maxHeartbeats 4000000 in
set_option maxRecDepth 100000 in
theorem c_X6_countUse {l : Launch} {E : gEnv} (h : Nat → Nat) (b0 : Nat) (w0 : T6) (a1 : Int64) (a2 : Int32) {o : T6} (hf : f_X6_countUse w0 a1 a2 = some o) : gM l yX6_countUse cX6_countUse 5 none rX6_countUse E [.ref (h b0), .long a1, .int a2] [C6 E h b0 w0] (none) [C6 E h b0 o] := by
  refine gM.of (by decide +kernel) (Nat.le_of_ble_eq_true rfl) rfl ?_
  intro p e s m below meth c F hr hlk hK hX hAB ls hl H locs hG
  have F : gF p m c cX6_countUse 5 s ([.ref (h b0), .long a1, .int a2] : List Value).toArray RX6 := F
  generalize ([.ref (h b0), .long a1, .int a2] : List Value).toArray = args at F ⊢
  generalize hQ : MQ below _ _ _ _ _ _ = Q
  generalize hA : gAd [C6 E h b0 w0] = A at hAB hG
  have hl : lv_has ls 5 [(0, .ref (h b0)), (1, .long a1), (3, .int a2)] := hl
  have hx := F.1
  have hb := F.2.1
  unfold f_X6_countUse at hf
  refine lv_aload_n hx hb dX6_countUse_0 rfl (lv_at hl 0 rfl) ?_
  refine lv_lload_n hx hb dX6_countUse_1 rfl (lv_at hl 1 rfl) ?_
  obtain ⟨x1, hx1, hf⟩ := g_bnd hf
  refine g_rv (As := [.long a1]) (rest := []) F hK (hG.X hX hAB) hG.1 [0] rfl (c_X6_find h b0 w0 a1 hx1) (kX6_85 F.2.2.2.2 ⟨Nat.le_of_ble_eq_true rfl, Nat.le_of_ble_eq_true rfl⟩) rfl rfl rfl rfl hl.1 rfl (lv_room (Nat.le_of_ble_eq_true rfl)) ⟨Nat.zero_le _, Nat.zero_le _⟩ dX6_countUse_2 ?_
  refine lv_istore (lv' := [(4, .int x1), (0, .ref (h b0)), (1, .long a1), (3, .int a2)]) hx hb dX6_countUse_5 hl (by decide) rfl (fun ls hl => ?_)
  refine lv_aload_n hx hb dX6_countUse_7 rfl (lv_at hl 1 rfl) ?_
  refine lv_iload hx hb dX6_countUse_8 (lv_at hl 0 rfl) ?_
  obtain ⟨x2, hx2, hf⟩ := g_bnd hf
  refine g_rv (As := [.int x1]) (rest := []) F hK (hG.X hX hAB) hG.1 [0] rfl (c_X6_has h b0 w0 x1 hx2) (kX6_39 F.2.2.2.2 ⟨Nat.le_of_ble_eq_true rfl, Nat.le_of_ble_eq_true rfl⟩) rfl rfl rfl rfl hl.1 rfl (lv_room (Nat.le_of_ble_eq_true rfl)) ⟨Nat.zero_le _, Nat.zero_le _⟩ dX6_countUse_10 ?_
  refine lv_if_eq (tgt := 47) hx hb dX6_countUse_13 (by decide) (fun c3 => ?_) (fun c3 => ?_)
  · have hf := g_it c3 hf
    refine lv_aload_n hx hb dX6_countUse_47 rfl (lv_at hl 1 rfl) ?_
    obtain ⟨x4, hx4, hf⟩ := g_bnd hf
    refine g_rv (As := []) (rest := []) F hK (hG.X hX hAB) hG.1 [0] rfl (c_X6_isFull h b0 w0 hx4) (kX6_77 F.2.2.2.2 ⟨Nat.le_of_ble_eq_true rfl, Nat.le_of_ble_eq_true rfl⟩) rfl rfl rfl rfl hl.1 rfl (lv_room (Nat.le_of_ble_eq_true rfl)) ⟨Nat.zero_le _, Nat.zero_le _⟩ dX6_countUse_48 ?_
    obtain ⟨j5, hf, hfj5⟩ := g_bnd hf
    have hJj5 : ∀ (H : Heap) (locs : List Loc), gS E A s.heap [C6 E h b0 j5] H locs → ∀ ls : Array Slot, lv_has ls 5 [(0, .ref (h b0)), (1, .long a1), (3, .int a2)] → W p l e rX6_countUse s m args below meth c H locs 0 0 Q (F0 m 62 ls []) := by
      intro H locs hG ls hl
      have hf := hfj5
      refine lv_aload_n hx hb dX6_countUse_62 rfl (lv_at hl 0 rfl) ?_
      refine lv_lload_n hx hb dX6_countUse_63 rfl (lv_at hl 1 rfl) ?_
      refine lv_iconst (v := 1) hx hb dX6_countUse_64 (by decide) ?_
      refine lv_iload_n hx hb dX6_countUse_65 rfl (lv_at hl 2 rfl) ?_
      refine lv_iconst (v := 1) hx hb dX6_countUse_66 (by decide) ?_
      obtain ⟨x9, hx9, hf⟩ := g_bnd hf
      refine g_mvv (S' := [C6 E h b0 x9]) (As := [.long a1, .int 1, .int a2, .int 1]) (rest := []) F hK hX hAB hG [0] rfl rfl (c_X6_insert h b0 j5 a1 1 a2 1 hx9) rfl (kX6_102 F.2.2.2.2 ⟨Nat.le_of_ble_eq_true rfl, Nat.le_of_ble_eq_true rfl⟩) rfl rfl rfl rfl hl.1 rfl (lv_room (Nat.le_of_ble_eq_true rfl)) ⟨Nat.zero_le _, Nat.zero_le _⟩ dX6_countUse_67 (fun H locs hG => ?_)
      have ho := Option.some.inj hf
      subst hA
      rw [← hQ, ← ho]
      exact g_mretV F hr hlk hG dX6_countUse_70
    refine lv_if_eq (tgt := 62) hx hb dX6_countUse_51 (by decide) (fun c6 => ?_) (fun c6 => ?_)
    · have hf := g_it c6 hf
      obtain rfl := Option.some.inj hf
      exact hJj5 _ _ hG ls (lv_sub hl [1, 2, 3] rfl)
    · have hf := g_if c6 hf
      refine lv_aload_n hx hb dX6_countUse_54 rfl (lv_at hl 1 rfl) ?_
      refine lv_aload_n hx hb dX6_countUse_55 rfl (lv_at hl 1 rfl) ?_
      obtain ⟨x7, hx7, hf⟩ := g_bnd hf
      refine g_rv (As := []) (rest := [.ref (h b0)]) F hK (hG.X hX hAB) hG.1 [0] rfl (c_X6_lastAdded h b0 w0 hx7) (kX6_94 F.2.2.2.2 ⟨Nat.le_of_ble_eq_true rfl, Nat.le_of_ble_eq_true rfl⟩) rfl rfl rfl rfl hl.1 rfl (lv_room (Nat.le_of_ble_eq_true rfl)) ⟨Nat.zero_le _, Nat.zero_le _⟩ dX6_countUse_56 ?_
      obtain ⟨x8, hx8, hf⟩ := g_bnd hf
      refine g_mvv (S' := [C6 E h b0 x8]) (As := [.int x7]) (rest := []) F hK hX hAB hG [0] rfl rfl (c_X6_remove h b0 w0 x7 hx8) rfl (kX6_98 F.2.2.2.2 ⟨Nat.le_of_ble_eq_true rfl, Nat.le_of_ble_eq_true rfl⟩) rfl rfl rfl rfl hl.1 rfl (lv_room (Nat.le_of_ble_eq_true rfl)) ⟨Nat.zero_le _, Nat.zero_le _⟩ dX6_countUse_59 (fun H locs hG => ?_)
      obtain rfl := Option.some.inj hf
      exact hJj5 _ _ hG ls (lv_sub hl [1, 2, 3] rfl)
  · have hf := g_if c3 hf
    refine lv_aload_n hx hb dX6_countUse_16 rfl (lv_at hl 1 rfl) ?_
    refine g_get F hK hG.1 0 0 2 flX6_18 rfl rfl rfl dX6_countUse_17 ?_
    refine lv_iload hx hb dX6_countUse_20 (lv_at hl 0 rfl) ?_
    refine lv_aload_n hx hb dX6_countUse_22 rfl (lv_at hl 1 rfl) ?_
    refine g_get F hK hG.1 0 0 2 flX6_18 rfl rfl rfl dX6_countUse_23 ?_
    refine lv_iload hx hb dX6_countUse_26 (lv_at hl 0 rfl) ?_
    obtain ⟨x10, hx10, hf⟩ := g_bnd hf
    refine g_iald F hK hG.1 0 3 rfl rfl hx10 dX6_countUse_28 ?_
    refine lv_iconst (v := 1) hx hb dX6_countUse_29 (by decide) ?_
    refine lv_iadd hx hb dX6_countUse_30 ?_
    refine lv_sipush (v := 999) hx hb dX6_countUse_31 (by decide) ?_
    refine va_mmin hx hb (F.2.2.1.trans hl.1.symm) F.2.2.2.1 (F.2.2.2.2 _ gw_575) (F.2.2.2.2 _ gw_576) (F.2.2.2.2 _ gw_17) (F.2.2.2.2 _ gw_577) (Nat.le_of_ble_eq_true rfl) (Nat.le_of_ble_eq_true rfl) (Nat.zero_le _) (Nat.zero_le _) dX6_countUse_34 ?_
    obtain ⟨x11, hx11, hf⟩ := g_bnd hf
    refine g_iast F hK hG 0 3 rfl rfl hx11 dX6_countUse_37 (fun H locs hG => ?_)
    have hG : gS E A s.heap [C6 E h b0 (w0.1, w0.2.1, x11, w0.2.2.2.1, w0.2.2.2.2.1, w0.2.2.2.2.2)] H locs := hG
    refine lv_aload_n hx hb dX6_countUse_38 rfl (lv_at hl 1 rfl) ?_
    refine g_get F hK hG.1 0 0 3 flX6_22 rfl rfl rfl dX6_countUse_39 ?_
    refine lv_iload hx hb dX6_countUse_42 (lv_at hl 0 rfl) ?_
    refine lv_iload_n hx hb dX6_countUse_44 rfl (lv_at hl 3 rfl) ?_
    obtain ⟨x12, hx12, hf⟩ := g_bnd hf
    refine g_iast F hK hG 0 4 rfl rfl hx12 dX6_countUse_45 (fun H locs hG => ?_)
    have hG : gS E A s.heap [C6 E h b0 (w0.1, w0.2.1, x11, x12, w0.2.2.2.2.1, w0.2.2.2.2.2)] H locs := hG
    have ho := Option.some.inj hf
    subst hA
    rw [← hQ, ← ho]
    exact g_mretV F hr hlk hG dX6_countUse_46
set_option maxHeartbeats 4000000 in
set_option maxRecDepth 100000 in
theorem c_X6_ageAllBut {l : Launch} {E : gEnv} (h : Nat → Nat) (b0 : Nat) (w0 : T6) (a1 : Int64) {o : T6} (hf : f_X6_ageAllBut w0 a1 = some o) : gM l yX6_ageAllBut cX6_ageAllBut 4 none rX6_ageAllBut E [.ref (h b0), .long a1] [C6 E h b0 w0] (none) [C6 E h b0 o] := by
  refine gM.of (by decide +kernel) (Nat.le_of_ble_eq_true rfl) rfl ?_
  intro p e s m below meth c F hr hlk hK hX hAB ls hl H locs hG
  have F : gF p m c cX6_ageAllBut 4 s ([.ref (h b0), .long a1] : List Value).toArray RX6 := F
  generalize ([.ref (h b0), .long a1] : List Value).toArray = args at F ⊢
  generalize hQ : MQ below _ _ _ _ _ _ = Q
  generalize hA : gAd [C6 E h b0 w0] = A at hAB hG
  have hl : lv_has ls 4 [(0, .ref (h b0)), (1, .long a1)] := hl
  have hx := F.1
  have hb := F.2.1
  unfold f_X6_ageAllBut at hf
  refine lv_aload_n hx hb dX6_ageAllBut_0 rfl (lv_at hl 0 rfl) ?_
  refine g_get F hK hG.1 0 0 5 flX6_29 rfl rfl rfl dX6_ageAllBut_1 ?_
  refine lv_iconst (v := 1) hx hb dX6_ageAllBut_4 (by decide) ?_
  refine lv_isub hx hb dX6_ageAllBut_5 ?_
  refine lv_istore_n (lv' := [(3, .int (w0.2.2.2.2.2 - 1)), (0, .ref (h b0)), (1, .long a1)]) hx hb dX6_ageAllBut_6 rfl hl (by decide) rfl (fun ls hl => ?_)
  refine lp_rule (fun (v1 : Int32 × T6) => ∀ (H : Heap) (locs : List Loc), gS E A s.heap [C6 E h b0 v1.2] H locs → ∀ ls : Array Slot, lv_has ls 4 [(0, .ref (h b0)), (1, .long a1), (3, .int v1.1)] → W p l e rX6_ageAllBut s m args below meth c H locs 0 0 Q (F0 m 7 ls [])) ?_ _ _ hf _ _ hG ls (lv_sub hl [1, 2, 0] rfl)
  intro v1 y hf hbackv1 hexitv1 H locs hG ls hl
  refine lv_iload_n hx hb dX6_ageAllBut_7 rfl (lv_at hl 2 rfl) ?_
  refine lv_if_lt (tgt := 59) hx hb dX6_ageAllBut_8 (by decide) (fun c3 => ?_) (fun c3 => ?_)
  · have hf := g_it c3 hf
    have ho := hexitv1 _ (Option.some.inj hf).symm
    subst hA
    rw [← hQ, ← ho]
    exact g_mretV F hr hlk hG dX6_ageAllBut_59
  · have hf := g_if c3 hf
    refine lv_aload_n hx hb dX6_ageAllBut_11 rfl (lv_at hl 0 rfl) ?_
    refine lv_iload_n hx hb dX6_ageAllBut_12 rfl (lv_at hl 2 rfl) ?_
    obtain ⟨x4, hx4, hf⟩ := g_bnd hf
    refine g_rv (As := [.int v1.1]) (rest := []) F hK (hG.X hX hAB) hG.1 [0] rfl (c_X6_isAdded h b0 v1.2 v1.1 hx4) (kX6_60 F.2.2.2.2 ⟨Nat.le_of_ble_eq_true rfl, Nat.le_of_ble_eq_true rfl⟩) rfl rfl rfl rfl hl.1 rfl (lv_room (Nat.le_of_ble_eq_true rfl)) ⟨Nat.zero_le _, Nat.zero_le _⟩ dX6_ageAllBut_13 ?_
    refine lv_if_eq (tgt := 53) hx hb dX6_ageAllBut_16 (by decide) (fun c5 => ?_) (fun c5 => ?_)
    · have hf := g_it c5 hf
      refine lv_iinc (v := (v1.1 + (-1))) (lv' := [(3, .int (v1.1 + (-1))), (0, .ref (h b0)), (1, .long a1)]) hx hb dX6_ageAllBut_53 hl (k := 2) rfl rfl (by decide) rfl (fun ls hl => ?_)
      refine lv_goto (tgt := 7) hx hb dX6_ageAllBut_56 (by decide) ?_
      exact hbackv1 _ (Option.some.inj hf).symm _ _ hG ls (lv_sub hl [1, 2, 0] rfl)
    · have hf := g_if c5 hf
      refine lv_aload_n hx hb dX6_ageAllBut_19 rfl (lv_at hl 0 rfl) ?_
      refine lv_iload_n hx hb dX6_ageAllBut_20 rfl (lv_at hl 2 rfl) ?_
      obtain ⟨x6, hx6, hf⟩ := g_bnd hf
      refine g_rv (As := [.int v1.1]) (rest := []) F hK (hG.X hX hAB) hG.1 [0] rfl (c_X6_wordAt h b0 v1.2 v1.1 hx6) (kX6_45 F.2.2.2.2 ⟨Nat.le_of_ble_eq_true rfl, Nat.le_of_ble_eq_true rfl⟩) rfl rfl rfl rfl hl.1 rfl (lv_room (Nat.le_of_ble_eq_true rfl)) ⟨Nat.zero_le _, Nat.zero_le _⟩ dX6_ageAllBut_21 ?_
      refine lv_lload_n hx hb dX6_ageAllBut_24 rfl (lv_at hl 1 rfl) ?_
      refine g_lc_eq (tgt := 53) hx hb dX6_ageAllBut_25 dX6_ageAllBut_26 (by decide) (fun c7 => ?_) (fun c7 => ?_)
      · have hf := g_it c7 hf
        refine lv_iinc (v := (v1.1 + (-1))) (lv' := [(3, .int (v1.1 + (-1))), (0, .ref (h b0)), (1, .long a1)]) hx hb dX6_ageAllBut_53 hl (k := 2) rfl rfl (by decide) rfl (fun ls hl => ?_)
        refine lv_goto (tgt := 7) hx hb dX6_ageAllBut_56 (by decide) ?_
        exact hbackv1 _ (Option.some.inj hf).symm _ _ hG ls (lv_sub hl [1, 2, 0] rfl)
      · have hf := g_if c7 hf
        refine lv_aload_n hx hb dX6_ageAllBut_29 rfl (lv_at hl 0 rfl) ?_
        refine g_get F hK hG.1 0 0 2 flX6_18 rfl rfl rfl dX6_ageAllBut_30 ?_
        refine lv_iload_n hx hb dX6_ageAllBut_33 rfl (lv_at hl 2 rfl) ?_
        refine lv_dup2_11 hx hb dX6_ageAllBut_34 rfl rfl ?_
        obtain ⟨x8, hx8, hf⟩ := g_bnd hf
        refine g_iald F hK hG.1 0 3 rfl rfl hx8 dX6_ageAllBut_35 ?_
        refine lv_iconst (v := 1) hx hb dX6_ageAllBut_36 (by decide) ?_
        refine lv_isub hx hb dX6_ageAllBut_37 ?_
        obtain ⟨x9, hx9, hf⟩ := g_bnd hf
        refine g_iast F hK hG 0 3 rfl rfl hx9 dX6_ageAllBut_38 (fun H locs hG => ?_)
        have hG : gS E A s.heap [C6 E h b0 (v1.2.1, v1.2.2.1, x9, v1.2.2.2.2.1, v1.2.2.2.2.2.1, v1.2.2.2.2.2.2)] H locs := hG
        refine lv_aload_n hx hb dX6_ageAllBut_39 rfl (lv_at hl 0 rfl) ?_
        refine g_get F hK hG.1 0 0 2 flX6_18 rfl rfl rfl dX6_ageAllBut_40 ?_
        refine lv_iload_n hx hb dX6_ageAllBut_43 rfl (lv_at hl 2 rfl) ?_
        obtain ⟨x10, hx10, hf⟩ := g_bnd hf
        refine g_iald F hK hG.1 0 3 rfl rfl hx10 dX6_ageAllBut_44 ?_
        refine lv_if_gt (tgt := 53) hx hb dX6_ageAllBut_45 (by decide) (fun c11 => ?_) (fun c11 => ?_)
        · have hf := g_it c11 hf
          refine lv_iinc (v := (v1.1 + (-1))) (lv' := [(3, .int (v1.1 + (-1))), (0, .ref (h b0)), (1, .long a1)]) hx hb dX6_ageAllBut_53 hl (k := 2) rfl rfl (by decide) rfl (fun ls hl => ?_)
          refine lv_goto (tgt := 7) hx hb dX6_ageAllBut_56 (by decide) ?_
          exact hbackv1 _ (Option.some.inj hf).symm _ _ hG ls (lv_sub hl [1, 2, 0] rfl)
        · have hf := g_if c11 hf
          refine lv_aload_n hx hb dX6_ageAllBut_48 rfl (lv_at hl 0 rfl) ?_
          refine lv_iload_n hx hb dX6_ageAllBut_49 rfl (lv_at hl 2 rfl) ?_
          obtain ⟨x12, hx12, hf⟩ := g_bnd hf
          refine g_mvv (S' := [C6 E h b0 x12]) (As := [.int v1.1]) (rest := []) F hK hX hAB hG [0] rfl rfl (c_X6_remove h b0 (v1.2.1, v1.2.2.1, x9, v1.2.2.2.2.1, v1.2.2.2.2.2.1, v1.2.2.2.2.2.2) v1.1 hx12) rfl (kX6_98 F.2.2.2.2 ⟨Nat.le_of_ble_eq_true rfl, Nat.le_of_ble_eq_true rfl⟩) rfl rfl rfl rfl hl.1 rfl (lv_room (Nat.le_of_ble_eq_true rfl)) ⟨Nat.zero_le _, Nat.zero_le _⟩ dX6_ageAllBut_50 (fun H locs hG => ?_)
          refine lv_iinc (v := (v1.1 + (-1))) (lv' := [(3, .int (v1.1 + (-1))), (0, .ref (h b0)), (1, .long a1)]) hx hb dX6_ageAllBut_53 hl (k := 2) rfl rfl (by decide) rfl (fun ls hl => ?_)
          refine lv_goto (tgt := 7) hx hb dX6_ageAllBut_56 (by decide) ?_
          exact hbackv1 _ (Option.some.inj hf).symm _ _ hG ls (lv_sub hl [1, 2, 0] rfl)
set_option maxHeartbeats 4000000 in
set_option maxRecDepth 100000 in
theorem c_X6_stepsTo {l : Launch} {E : gEnv} (h : Nat → Nat) (b0 : Nat) (w0 : T6) (a1 : Int32) {o : Int32} (hf : f_X6_stepsTo w0 a1 = some o) : gR l yX6_stepsTo cX6_stepsTo 4 (some .int) rX6_stepsTo E [.ref (h b0), .int a1] [C6 E h b0 w0] (some (.int o)) := by
  refine gR.of (by decide +kernel) (Nat.le_of_ble_eq_true rfl) ?_
  intro p e s m below meth c F hr hlk hK hX hP ls hl
  have F : gF p m c cX6_stepsTo 4 s ([.ref (h b0), .int a1] : List Value).toArray RX6 := F
  generalize ([.ref (h b0), .int a1] : List Value).toArray = args at F ⊢
  generalize hQ : MQ below _ _ _ _ _ _ = Q
  have hl : lv_has ls 4 [(0, .ref (h b0)), (1, .int a1)] := hl
  have hx := F.1
  have hb := F.2.1
  unfold f_X6_stepsTo at hf
  refine lv_iconst (v := 0) hx hb dX6_stepsTo_0 (by decide) ?_
  refine lv_istore_n (lv' := [(2, .int 0), (0, .ref (h b0)), (1, .int a1)]) hx hb dX6_stepsTo_1 rfl hl (by decide) rfl (fun ls hl => ?_)
  refine lv_iconst (v := 0) hx hb dX6_stepsTo_2 (by decide) ?_
  refine lv_istore_n (lv' := [(3, .int 0), (2, .int 0), (0, .ref (h b0)), (1, .int a1)]) hx hb dX6_stepsTo_3 rfl hl (by decide) rfl (fun ls hl => ?_)
  refine lp_rule (fun (v1 : Int32 × Int32) => ∀ ls : Array Slot, lv_has ls 4 [(0, .ref (h b0)), (1, .int a1), (2, .int v1.1), (3, .int v1.2)] → W p l e rX6_stepsTo s m args below meth c s.heap [] 0 0 Q (F0 m 4 ls [])) ?_ _ _ hf ls (lv_sub hl [2, 3, 1, 0] rfl)
  intro v1 y hf hbackv1 hexitv1 ls hl
  refine lv_iload_n hx hb dX6_stepsTo_4 rfl (lv_at hl 3 rfl) ?_
  refine lv_aload_n hx hb dX6_stepsTo_5 rfl (lv_at hl 0 rfl) ?_
  refine g_get F hK hP 0 0 5 flX6_29 rfl rfl rfl dX6_stepsTo_6 ?_
  refine lv_icmp_ge (tgt := 44) hx hb dX6_stepsTo_9 (by decide) (fun c3 => ?_) (fun c3 => ?_)
  · have hf := g_it c3 hf
    refine lv_iload_n hx hb dX6_stepsTo_44 rfl (lv_at hl 2 rfl) ?_
    have ho := hexitv1 _ (Option.some.inj hf).symm
    rw [← hQ, ← ho]
    exact g_retI F hr hlk dX6_stepsTo_45
  · have hf := g_if c3 hf
    refine lv_aload_n hx hb dX6_stepsTo_12 rfl (lv_at hl 0 rfl) ?_
    refine lv_iload_n hx hb dX6_stepsTo_13 rfl (lv_at hl 3 rfl) ?_
    obtain ⟨x4, hx4, hf⟩ := g_bnd hf
    refine g_rv (As := [.int v1.2]) (rest := []) F hK hX hP [0] rfl (c_X6_keysAt h b0 w0 v1.2 hx4) (kX6_70 F.2.2.2.2 ⟨Nat.le_of_ble_eq_true rfl, Nat.le_of_ble_eq_true rfl⟩) rfl rfl rfl rfl hl.1 rfl (lv_room (Nat.le_of_ble_eq_true rfl)) ⟨Nat.zero_le _, Nat.zero_le _⟩ dX6_stepsTo_14 ?_
    refine lv_aload_n hx hb dX6_stepsTo_17 rfl (lv_at hl 0 rfl) ?_
    refine lv_iload_n hx hb dX6_stepsTo_18 rfl (lv_at hl 1 rfl) ?_
    obtain ⟨x5, hx5, hf⟩ := g_bnd hf
    refine g_rv (As := [.int a1]) (rest := [.long x4]) F hK hX hP [0] rfl (c_X6_keysAt h b0 w0 a1 hx5) (kX6_70 F.2.2.2.2 ⟨Nat.le_of_ble_eq_true rfl, Nat.le_of_ble_eq_true rfl⟩) rfl rfl rfl rfl hl.1 rfl (lv_room (Nat.le_of_ble_eq_true rfl)) ⟨Nat.zero_le _, Nat.zero_le _⟩ dX6_stepsTo_19 ?_
    refine g_lc_ne (tgt := 38) hx hb dX6_stepsTo_22 dX6_stepsTo_23 (by decide) (fun c6 => ?_) (fun c6 => ?_)
    · have hf := g_if c6 hf
      refine lv_iinc (v := (v1.2 + 1)) (lv' := [(3, .int (v1.2 + 1)), (0, .ref (h b0)), (1, .int a1), (2, .int v1.1)]) hx hb dX6_stepsTo_38 hl (k := 3) rfl rfl (by decide) rfl (fun ls hl => ?_)
      refine lv_goto (tgt := 4) hx hb dX6_stepsTo_41 (by decide) ?_
      exact hbackv1 _ (Option.some.inj hf).symm ls (lv_sub hl [1, 2, 3, 0] rfl)
    · have hf := g_it c6 hf
      refine lv_aload_n hx hb dX6_stepsTo_26 rfl (lv_at hl 0 rfl) ?_
      refine lv_iload_n hx hb dX6_stepsTo_27 rfl (lv_at hl 3 rfl) ?_
      refine lv_iload_n hx hb dX6_stepsTo_28 rfl (lv_at hl 1 rfl) ?_
      obtain ⟨x7, hx7, hf⟩ := g_bnd hf
      refine g_rv (As := [.int v1.2, .int a1]) (rest := []) F hK hX hP [0] rfl (c_X6_ranksBefore h b0 w0 v1.2 a1 hx7) (kX6_66 F.2.2.2.2 ⟨Nat.le_of_ble_eq_true rfl, Nat.le_of_ble_eq_true rfl⟩) rfl rfl rfl rfl hl.1 rfl (lv_room (Nat.le_of_ble_eq_true rfl)) ⟨Nat.zero_le _, Nat.zero_le _⟩ dX6_stepsTo_29 ?_
      refine lv_if_eq (tgt := 38) hx hb dX6_stepsTo_32 (by decide) (fun c8 => ?_) (fun c8 => ?_)
      · have hf := g_it c8 hf
        refine lv_iinc (v := (v1.2 + 1)) (lv' := [(3, .int (v1.2 + 1)), (0, .ref (h b0)), (1, .int a1), (2, .int v1.1)]) hx hb dX6_stepsTo_38 hl (k := 3) rfl rfl (by decide) rfl (fun ls hl => ?_)
        refine lv_goto (tgt := 4) hx hb dX6_stepsTo_41 (by decide) ?_
        exact hbackv1 _ (Option.some.inj hf).symm ls (lv_sub hl [1, 2, 3, 0] rfl)
      · have hf := g_if c8 hf
        refine lv_iinc (v := (v1.1 + 1)) (lv' := [(2, .int (v1.1 + 1)), (0, .ref (h b0)), (1, .int a1), (3, .int v1.2)]) hx hb dX6_stepsTo_35 hl (k := 2) rfl rfl (by decide) rfl (fun ls hl => ?_)
        refine lv_iinc (v := (v1.2 + 1)) (lv' := [(3, .int (v1.2 + 1)), (2, .int (v1.1 + 1)), (0, .ref (h b0)), (1, .int a1)]) hx hb dX6_stepsTo_38 hl (k := 3) rfl rfl (by decide) rfl (fun ls hl => ?_)
        refine lv_goto (tgt := 4) hx hb dX6_stepsTo_41 (by decide) ?_
        exact hbackv1 _ (Option.some.inj hf).symm ls (lv_sub hl [2, 3, 1, 0] rfl)
set_option maxHeartbeats 4000000 in
set_option maxRecDepth 100000 in
theorem c_X6_tapsFor {l : Launch} {E : gEnv} (h : Nat → Nat) (b0 : Nat) (w0 : T6) (a1 : Int32) {o : Int32} (hf : f_X6_tapsFor w0 a1 = some o) : gR l yX6_tapsFor cX6_tapsFor 9 (some .int) rX6_tapsFor E [.ref (h b0), .int a1] [C6 E h b0 w0] (some (.int o)) := by
  refine gR.of (by decide +kernel) (Nat.le_of_ble_eq_true rfl) ?_
  intro p e s m below meth c F hr hlk hK hX hP ls hl
  have F : gF p m c cX6_tapsFor 9 s ([.ref (h b0), .int a1] : List Value).toArray RX6 := F
  generalize ([.ref (h b0), .int a1] : List Value).toArray = args at F ⊢
  generalize hQ : MQ below _ _ _ _ _ _ = Q
  have hl : lv_has ls 9 [(0, .ref (h b0)), (1, .int a1)] := hl
  have hx := F.1
  have hb := F.2.1
  unfold f_X6_tapsFor at hf
  refine lv_aload_n hx hb dX6_tapsFor_0 rfl (lv_at hl 0 rfl) ?_
  refine lv_iload_n hx hb dX6_tapsFor_1 rfl (lv_at hl 1 rfl) ?_
  obtain ⟨x1, hx1, hf⟩ := g_bnd hf
  refine g_rv (As := [.int a1]) (rest := []) F hK hX hP [0] rfl (c_X6_wordAt h b0 w0 a1 hx1) (kX6_45 F.2.2.2.2 ⟨Nat.le_of_ble_eq_true rfl, Nat.le_of_ble_eq_true rfl⟩) rfl rfl rfl rfl hl.1 rfl (lv_room (Nat.le_of_ble_eq_true rfl)) ⟨Nat.zero_le _, Nat.zero_le _⟩ dX6_tapsFor_2 ?_
  refine lv_lstore_n (lv' := [(2, .long x1), (0, .ref (h b0)), (1, .int a1)]) hx hb dX6_tapsFor_5 rfl hl (by decide) rfl (fun ls hl => ?_)
  refine lv_aload_n hx hb dX6_tapsFor_6 rfl (lv_at hl 1 rfl) ?_
  refine lv_iload_n hx hb dX6_tapsFor_7 rfl (lv_at hl 2 rfl) ?_
  obtain ⟨x2, hx2, hf⟩ := g_bnd hf
  refine g_rv (As := [.int a1]) (rest := []) F hK hX hP [0] rfl (c_X6_keysAt h b0 w0 a1 hx2) (kX6_70 F.2.2.2.2 ⟨Nat.le_of_ble_eq_true rfl, Nat.le_of_ble_eq_true rfl⟩) rfl rfl rfl rfl hl.1 rfl (lv_room (Nat.le_of_ble_eq_true rfl)) ⟨Nat.zero_le _, Nat.zero_le _⟩ dX6_tapsFor_8 ?_
  refine lv_lstore (lv' := [(4, .long x2), (2, .long x1), (0, .ref (h b0)), (1, .int a1)]) hx hb dX6_tapsFor_11 hl (by decide) rfl (fun ls hl => ?_)
  refine lv_lload_n hx hb dX6_tapsFor_13 rfl (lv_at hl 1 rfl) ?_
  obtain ⟨x3, hx3, hf⟩ := g_bnd hf
  refine g_rs (As := [.long x1]) (rest := []) F hK hX hP [] rfl (c_X4_lengthOf h x1 hx3) (kX6_49 F.2.2.2.2 ⟨Nat.le_of_ble_eq_true rfl, Nat.le_of_ble_eq_true rfl⟩) rfl hl.1 rfl (lv_room (Nat.le_of_ble_eq_true rfl)) ⟨Nat.zero_le _, Nat.zero_le _⟩ dX6_tapsFor_14 ?_
  refine lv_istore (lv' := [(6, .int x3), (4, .long x2), (2, .long x1), (0, .ref (h b0)), (1, .int a1)]) hx hb dX6_tapsFor_17 hl (by decide) rfl (fun ls hl => ?_)
  refine lv_iconst (v := 0) hx hb dX6_tapsFor_19 (by decide) ?_
  refine lv_istore (lv' := [(7, .int 0), (6, .int x3), (4, .long x2), (2, .long x1), (0, .ref (h b0)), (1, .int a1)]) hx hb dX6_tapsFor_20 hl (by decide) rfl (fun ls hl => ?_)
  refine lv_iconst (v := 0) hx hb dX6_tapsFor_22 (by decide) ?_
  refine lv_istore (lv' := [(8, .int 0), (7, .int 0), (6, .int x3), (4, .long x2), (2, .long x1), (0, .ref (h b0)), (1, .int a1)]) hx hb dX6_tapsFor_23 hl (by decide) rfl (fun ls hl => ?_)
  refine lp_rule (fun (v4 : Int32 × Int32) => ∀ ls : Array Slot, lv_has ls 9 [(2, .long x1), (4, .long x2), (6, .int x3), (7, .int v4.1), (8, .int v4.2)] → W p l e rX6_tapsFor s m args below meth c s.heap [] 0 0 Q (F0 m 25 ls [])) ?_ _ _ hf ls (lv_sub hl [4, 3, 2, 1, 0] rfl)
  intro v4 y hf hbackv4 hexitv4 ls hl
  refine lv_iload hx hb dX6_tapsFor_25 (lv_at hl 4 rfl) ?_
  refine lv_iload hx hb dX6_tapsFor_27 (lv_at hl 2 rfl) ?_
  refine lv_icmp_ge (tgt := 79) hx hb dX6_tapsFor_29 (by decide) (fun c6 => ?_) (fun c6 => ?_)
  · have hf := g_it c6 hf
    refine lv_iload hx hb dX6_tapsFor_79 (lv_at hl 3 rfl) ?_
    have ho := hexitv4 _ (Option.some.inj hf).symm
    rw [← hQ, ← ho]
    exact g_retI F hr hlk dX6_tapsFor_81
  · have hf := g_if c6 hf
    refine lv_iload hx hb dX6_tapsFor_32 (lv_at hl 3 rfl) ?_
    refine lv_lload_n hx hb dX6_tapsFor_34 rfl (lv_at hl 0 rfl) ?_
    refine lv_iload hx hb dX6_tapsFor_35 (lv_at hl 4 rfl) ?_
    obtain ⟨x7, hx7, hf⟩ := g_bnd hf
    refine g_rs (As := [.long x1, .int v4.2]) (rest := [.int v4.1]) F hK hX hP [] rfl (c_X4_letterAt h x1 v4.2 hx7) (kX6_109 F.2.2.2.2 ⟨Nat.le_of_ble_eq_true rfl, Nat.le_of_ble_eq_true rfl⟩) rfl hl.1 rfl (lv_room (Nat.le_of_ble_eq_true rfl)) ⟨Nat.zero_le _, Nat.zero_le _⟩ dX6_tapsFor_37 ?_
    obtain ⟨x8, hx8, hf⟩ := g_bnd hf
    refine g_rs (As := [.int x7]) (rest := [.int v4.1]) F hK hX hP [] rfl (c_X1_tapsOf h x7 hx8) (kX6_112 F.2.2.2.2 ⟨Nat.le_of_ble_eq_true rfl, Nat.le_of_ble_eq_true rfl⟩) rfl hl.1 rfl (lv_room (Nat.le_of_ble_eq_true rfl)) ⟨Nat.zero_le _, Nat.zero_le _⟩ dX6_tapsFor_40 ?_
    refine lv_iadd hx hb dX6_tapsFor_43 ?_
    refine lv_istore (lv' := [(7, .int (v4.1 + x8)), (2, .long x1), (4, .long x2), (6, .int x3), (8, .int v4.2)]) hx hb dX6_tapsFor_44 hl (by decide) rfl (fun ls hl => ?_)
    refine lv_iload hx hb dX6_tapsFor_46 (lv_at hl 4 rfl) ?_
    refine lv_if_le (tgt := 73) hx hb dX6_tapsFor_48 (by decide) (fun c9 => ?_) (fun c9 => ?_)
    · have hf := g_it c9 hf
      refine lv_iinc (v := (v4.2 + 1)) (lv' := [(8, .int (v4.2 + 1)), (7, .int (v4.1 + x8)), (2, .long x1), (4, .long x2), (6, .int x3)]) hx hb dX6_tapsFor_73 hl (k := 4) rfl rfl (by decide) rfl (fun ls hl => ?_)
      refine lv_goto (tgt := 25) hx hb dX6_tapsFor_76 (by decide) ?_
      exact hbackv4 _ (Option.some.inj hf).symm ls (lv_sub hl [2, 3, 4, 1, 0] rfl)
    · have hf := g_if c9 hf
      refine lv_lload hx hb dX6_tapsFor_51 (lv_at hl 2 rfl) ?_
      refine lv_iload hx hb dX6_tapsFor_53 (lv_at hl 4 rfl) ?_
      obtain ⟨x10, hx10, hf⟩ := g_bnd hf
      refine g_rs (As := [.long x2, .int v4.2]) (rest := []) F hK hX hP [] rfl (c_X4_codeAt h x2 v4.2 hx10) (kX6_73 F.2.2.2.2 ⟨Nat.le_of_ble_eq_true rfl, Nat.le_of_ble_eq_true rfl⟩) rfl hl.1 rfl (lv_room (Nat.le_of_ble_eq_true rfl)) ⟨Nat.zero_le _, Nat.zero_le _⟩ dX6_tapsFor_55 ?_
      refine lv_lload hx hb dX6_tapsFor_58 (lv_at hl 2 rfl) ?_
      refine lv_iload hx hb dX6_tapsFor_60 (lv_at hl 4 rfl) ?_
      refine lv_iconst (v := 1) hx hb dX6_tapsFor_62 (by decide) ?_
      refine lv_isub hx hb dX6_tapsFor_63 ?_
      obtain ⟨x11, hx11, hf⟩ := g_bnd hf
      refine g_rs (As := [.long x2, .int (v4.2 - 1)]) (rest := [.int x10]) F hK hX hP [] rfl (c_X4_codeAt h x2 (v4.2 - 1) hx11) (kX6_73 F.2.2.2.2 ⟨Nat.le_of_ble_eq_true rfl, Nat.le_of_ble_eq_true rfl⟩) rfl hl.1 rfl (lv_room (Nat.le_of_ble_eq_true rfl)) ⟨Nat.zero_le _, Nat.zero_le _⟩ dX6_tapsFor_64 ?_
      refine lv_icmp_ne (tgt := 73) hx hb dX6_tapsFor_67 (by decide) (fun c12 => ?_) (fun c12 => ?_)
      · have hf := g_if c12 hf
        refine lv_iinc (v := (v4.2 + 1)) (lv' := [(8, .int (v4.2 + 1)), (7, .int (v4.1 + x8)), (2, .long x1), (4, .long x2), (6, .int x3)]) hx hb dX6_tapsFor_73 hl (k := 4) rfl rfl (by decide) rfl (fun ls hl => ?_)
        refine lv_goto (tgt := 25) hx hb dX6_tapsFor_76 (by decide) ?_
        exact hbackv4 _ (Option.some.inj hf).symm ls (lv_sub hl [2, 3, 4, 1, 0] rfl)
      · have hf := g_it c12 hf
        refine lv_iinc (v := ((v4.1 + x8) + 1)) (lv' := [(7, .int ((v4.1 + x8) + 1)), (2, .long x1), (4, .long x2), (6, .int x3), (8, .int v4.2)]) hx hb dX6_tapsFor_70 hl (k := 0) rfl rfl (by decide) rfl (fun ls hl => ?_)
        refine lv_iinc (v := (v4.2 + 1)) (lv' := [(8, .int (v4.2 + 1)), (7, .int ((v4.1 + x8) + 1)), (2, .long x1), (4, .long x2), (6, .int x3)]) hx hb dX6_tapsFor_73 hl (k := 4) rfl rfl (by decide) rfl (fun ls hl => ?_)
        refine lv_goto (tgt := 25) hx hb dX6_tapsFor_76 (by decide) ?_
        exact hbackv4 _ (Option.some.inj hf).symm ls (lv_sub hl [2, 3, 4, 1, 0] rfl)
set_option maxHeartbeats 4000000 in
set_option maxRecDepth 100000 in
theorem c_X6_guessesFor {l : Launch} {E : gEnv} (h : Nat → Nat) (b0 : Nat) (w0 : T6) (a1 : Int32) {o : Int32} (hf : f_X6_guessesFor w0 a1 = some o) : gR l yX6_guessesFor cX6_guessesFor 2 (some .int) rX6_guessesFor E [.ref (h b0), .int a1] [C6 E h b0 w0] (some (.int o)) := by
  refine gR.of (by decide +kernel) (Nat.le_of_ble_eq_true rfl) ?_
  intro p e s m below meth c F hr hlk hK hX hP ls hl
  have F : gF p m c cX6_guessesFor 2 s ([.ref (h b0), .int a1] : List Value).toArray RX6 := F
  generalize ([.ref (h b0), .int a1] : List Value).toArray = args at F ⊢
  generalize hQ : MQ below _ _ _ _ _ _ = Q
  have hl : lv_has ls 2 [(0, .ref (h b0)), (1, .int a1)] := hl
  have hx := F.1
  have hb := F.2.1
  unfold f_X6_guessesFor at hf
  refine lv_aload_n hx hb dX6_guessesFor_0 rfl (lv_at hl 0 rfl) ?_
  refine lv_iload_n hx hb dX6_guessesFor_1 rfl (lv_at hl 1 rfl) ?_
  obtain ⟨x1, hx1, hf⟩ := g_bnd hf
  refine g_rv (As := [.int a1]) (rest := []) F hK hX hP [0] rfl (c_X6_wordAt h b0 w0 a1 hx1) (kX6_45 F.2.2.2.2 ⟨Nat.le_of_ble_eq_true rfl, Nat.le_of_ble_eq_true rfl⟩) rfl rfl rfl rfl hl.1 rfl (lv_room (Nat.le_of_ble_eq_true rfl)) ⟨Nat.zero_le _, Nat.zero_le _⟩ dX6_guessesFor_2 ?_
  obtain ⟨x2, hx2, hf⟩ := g_bnd hf
  refine g_rs (As := [.long x1]) (rest := []) F hK hX hP [] rfl (c_X4_lengthOf h x1 hx2) (kX6_49 F.2.2.2.2 ⟨Nat.le_of_ble_eq_true rfl, Nat.le_of_ble_eq_true rfl⟩) rfl hl.1 rfl (lv_room (Nat.le_of_ble_eq_true rfl)) ⟨Nat.zero_le _, Nat.zero_le _⟩ dX6_guessesFor_5 ?_
  refine lv_aload_n hx hb dX6_guessesFor_8 rfl (lv_at hl 0 rfl) ?_
  refine lv_iload_n hx hb dX6_guessesFor_9 rfl (lv_at hl 1 rfl) ?_
  obtain ⟨x3, hx3, hf⟩ := g_bnd hf
  refine g_rv (As := [.int a1]) (rest := [.int x2]) F hK hX hP [0] rfl (c_X6_stepsTo h b0 w0 a1 hx3) (kX6_106 F.2.2.2.2 ⟨Nat.le_of_ble_eq_true rfl, Nat.le_of_ble_eq_true rfl⟩) rfl rfl rfl rfl hl.1 rfl (lv_room (Nat.le_of_ble_eq_true rfl)) ⟨Nat.zero_le _, Nat.zero_le _⟩ dX6_guessesFor_10 ?_
  refine lv_iadd hx hb dX6_guessesFor_13 ?_
  have ho := Option.some.inj hf
  rw [← hQ, ← ho]
  exact g_retI F hr hlk dX6_guessesFor_14
set_option maxHeartbeats 4000000 in
set_option maxRecDepth 100000 in
theorem c_X6_sharesKeys {l : Launch} {E : gEnv} (h : Nat → Nat) (b0 : Nat) (w0 : T6) (a1 : Int32) {o : Int32} (hf : f_X6_sharesKeys w0 a1 = some o) : gR l yX6_sharesKeys cX6_sharesKeys 3 (some .boolean) rX6_sharesKeys E [.ref (h b0), .int a1] [C6 E h b0 w0] (some (.int o)) := by
  refine gR.of (by decide +kernel) (Nat.le_of_ble_eq_true rfl) ?_
  intro p e s m below meth c F hr hlk hK hX hP ls hl
  have F : gF p m c cX6_sharesKeys 3 s ([.ref (h b0), .int a1] : List Value).toArray RX6 := F
  generalize ([.ref (h b0), .int a1] : List Value).toArray = args at F ⊢
  generalize hQ : MQ below _ _ _ _ _ _ = Q
  have hl : lv_has ls 3 [(0, .ref (h b0)), (1, .int a1)] := hl
  have hx := F.1
  have hb := F.2.1
  unfold f_X6_sharesKeys at hf
  refine lv_iconst (v := 0) hx hb dX6_sharesKeys_0 (by decide) ?_
  refine lv_istore_n (lv' := [(2, .int 0), (0, .ref (h b0)), (1, .int a1)]) hx hb dX6_sharesKeys_1 rfl hl (by decide) rfl (fun ls hl => ?_)
  refine lp_rule (fun (v1 : Int32) => ∀ ls : Array Slot, lv_has ls 3 [(0, .ref (h b0)), (1, .int a1), (2, .int v1)] → W p l e rX6_sharesKeys s m args below meth c s.heap [] 0 0 Q (F0 m 2 ls [])) ?_ _ _ hf ls (lv_sub hl [1, 2, 0] rfl)
  intro v1 y hf hbackv1 hexitv1 ls hl
  refine lv_iload_n hx hb dX6_sharesKeys_2 rfl (lv_at hl 2 rfl) ?_
  refine lv_aload_n hx hb dX6_sharesKeys_3 rfl (lv_at hl 0 rfl) ?_
  refine g_get F hK hP 0 0 5 flX6_29 rfl rfl rfl dX6_sharesKeys_4 ?_
  refine lv_icmp_ge (tgt := 37) hx hb dX6_sharesKeys_7 (by decide) (fun c3 => ?_) (fun c3 => ?_)
  · have hf := g_it c3 hf
    refine lv_iconst (v := 0) hx hb dX6_sharesKeys_37 (by decide) ?_
    have ho := hexitv1 _ (Option.some.inj hf).symm
    rw [← hQ, ← ho]
    exact g_retZ F hr hlk narrow_b0 dX6_sharesKeys_38
  · have hf := g_if c3 hf
    refine lv_iload_n hx hb dX6_sharesKeys_10 rfl (lv_at hl 2 rfl) ?_
    refine lv_iload_n hx hb dX6_sharesKeys_11 rfl (lv_at hl 1 rfl) ?_
    refine lv_icmp_eq (tgt := 31) hx hb dX6_sharesKeys_12 (by decide) (fun c4 => ?_) (fun c4 => ?_)
    · have hf := g_it c4 hf
      refine lv_iinc (v := (v1 + 1)) (lv' := [(2, .int (v1 + 1)), (0, .ref (h b0)), (1, .int a1)]) hx hb dX6_sharesKeys_31 hl (k := 2) rfl rfl (by decide) rfl (fun ls hl => ?_)
      refine lv_goto (tgt := 2) hx hb dX6_sharesKeys_34 (by decide) ?_
      exact hbackv1 _ (Option.some.inj hf).symm ls (lv_sub hl [1, 2, 0] rfl)
    · have hf := g_if c4 hf
      refine lv_aload_n hx hb dX6_sharesKeys_15 rfl (lv_at hl 0 rfl) ?_
      refine lv_iload_n hx hb dX6_sharesKeys_16 rfl (lv_at hl 2 rfl) ?_
      obtain ⟨x5, hx5, hf⟩ := g_bnd hf
      refine g_rv (As := [.int v1]) (rest := []) F hK hX hP [0] rfl (c_X6_keysAt h b0 w0 v1 hx5) (kX6_70 F.2.2.2.2 ⟨Nat.le_of_ble_eq_true rfl, Nat.le_of_ble_eq_true rfl⟩) rfl rfl rfl rfl hl.1 rfl (lv_room (Nat.le_of_ble_eq_true rfl)) ⟨Nat.zero_le _, Nat.zero_le _⟩ dX6_sharesKeys_17 ?_
      refine lv_aload_n hx hb dX6_sharesKeys_20 rfl (lv_at hl 0 rfl) ?_
      refine lv_iload_n hx hb dX6_sharesKeys_21 rfl (lv_at hl 1 rfl) ?_
      obtain ⟨x6, hx6, hf⟩ := g_bnd hf
      refine g_rv (As := [.int a1]) (rest := [.long x5]) F hK hX hP [0] rfl (c_X6_keysAt h b0 w0 a1 hx6) (kX6_70 F.2.2.2.2 ⟨Nat.le_of_ble_eq_true rfl, Nat.le_of_ble_eq_true rfl⟩) rfl rfl rfl rfl hl.1 rfl (lv_room (Nat.le_of_ble_eq_true rfl)) ⟨Nat.zero_le _, Nat.zero_le _⟩ dX6_sharesKeys_22 ?_
      refine g_lc_ne (tgt := 31) hx hb dX6_sharesKeys_25 dX6_sharesKeys_26 (by decide) (fun c7 => ?_) (fun c7 => ?_)
      · have hf := g_if c7 hf
        refine lv_iinc (v := (v1 + 1)) (lv' := [(2, .int (v1 + 1)), (0, .ref (h b0)), (1, .int a1)]) hx hb dX6_sharesKeys_31 hl (k := 2) rfl rfl (by decide) rfl (fun ls hl => ?_)
        refine lv_goto (tgt := 2) hx hb dX6_sharesKeys_34 (by decide) ?_
        exact hbackv1 _ (Option.some.inj hf).symm ls (lv_sub hl [1, 2, 0] rfl)
      · have hf := g_it c7 hf
        refine lv_iconst (v := 1) hx hb dX6_sharesKeys_29 (by decide) ?_
        have ho := hexitv1 _ (Option.some.inj hf).symm
        rw [← hQ, ← ho]
        exact g_retZ F hr hlk narrow_b1 dX6_sharesKeys_30
set_option maxHeartbeats 4000000 in
set_option maxRecDepth 100000 in
theorem c_X6_clashes {l : Launch} {E : gEnv} (h : Nat → Nat) (b0 : Nat) (w0 : T6) {o : Int32} (hf : f_X6_clashes w0 = some o) : gR l yX6_clashes cX6_clashes 3 (some .int) rX6_clashes E [.ref (h b0)] [C6 E h b0 w0] (some (.int o)) := by
  refine gR.of (by decide +kernel) (Nat.le_of_ble_eq_true rfl) ?_
  intro p e s m below meth c F hr hlk hK hX hP ls hl
  have F : gF p m c cX6_clashes 3 s ([.ref (h b0)] : List Value).toArray RX6 := F
  generalize ([.ref (h b0)] : List Value).toArray = args at F ⊢
  generalize hQ : MQ below _ _ _ _ _ _ = Q
  have hl : lv_has ls 3 [(0, .ref (h b0))] := hl
  have hx := F.1
  have hb := F.2.1
  unfold f_X6_clashes at hf
  refine lv_iconst (v := 0) hx hb dX6_clashes_0 (by decide) ?_
  refine lv_istore_n (lv' := [(1, .int 0), (0, .ref (h b0))]) hx hb dX6_clashes_1 rfl hl (by decide) rfl (fun ls hl => ?_)
  refine lv_iconst (v := 0) hx hb dX6_clashes_2 (by decide) ?_
  refine lv_istore_n (lv' := [(2, .int 0), (1, .int 0), (0, .ref (h b0))]) hx hb dX6_clashes_3 rfl hl (by decide) rfl (fun ls hl => ?_)
  refine lp_rule (fun (v1 : Int32 × Int32) => ∀ ls : Array Slot, lv_has ls 3 [(0, .ref (h b0)), (1, .int v1.1), (2, .int v1.2)] → W p l e rX6_clashes s m args below meth c s.heap [] 0 0 Q (F0 m 4 ls [])) ?_ _ _ hf ls (lv_sub hl [2, 1, 0] rfl)
  intro v1 y hf hbackv1 hexitv1 ls hl
  refine lv_iload_n hx hb dX6_clashes_4 rfl (lv_at hl 2 rfl) ?_
  refine lv_aload_n hx hb dX6_clashes_5 rfl (lv_at hl 0 rfl) ?_
  refine g_get F hK hP 0 0 5 flX6_29 rfl rfl rfl dX6_clashes_6 ?_
  refine lv_icmp_ge (tgt := 29) hx hb dX6_clashes_9 (by decide) (fun c3 => ?_) (fun c3 => ?_)
  · have hf := g_it c3 hf
    refine lv_iload_n hx hb dX6_clashes_29 rfl (lv_at hl 1 rfl) ?_
    have ho := hexitv1 _ (Option.some.inj hf).symm
    rw [← hQ, ← ho]
    exact g_retI F hr hlk dX6_clashes_30
  · have hf := g_if c3 hf
    refine lv_aload_n hx hb dX6_clashes_12 rfl (lv_at hl 0 rfl) ?_
    refine lv_iload_n hx hb dX6_clashes_13 rfl (lv_at hl 2 rfl) ?_
    obtain ⟨x4, hx4, hf⟩ := g_bnd hf
    refine g_rv (As := [.int v1.2]) (rest := []) F hK hX hP [0] rfl (c_X6_sharesKeys h b0 w0 v1.2 hx4) (kX6_117 F.2.2.2.2 ⟨Nat.le_of_ble_eq_true rfl, Nat.le_of_ble_eq_true rfl⟩) rfl rfl rfl rfl hl.1 rfl (lv_room (Nat.le_of_ble_eq_true rfl)) ⟨Nat.zero_le _, Nat.zero_le _⟩ dX6_clashes_14 ?_
    refine lv_if_eq (tgt := 23) hx hb dX6_clashes_17 (by decide) (fun c5 => ?_) (fun c5 => ?_)
    · have hf := g_it c5 hf
      refine lv_iinc (v := (v1.2 + 1)) (lv' := [(2, .int (v1.2 + 1)), (0, .ref (h b0)), (1, .int v1.1)]) hx hb dX6_clashes_23 hl (k := 2) rfl rfl (by decide) rfl (fun ls hl => ?_)
      refine lv_goto (tgt := 4) hx hb dX6_clashes_26 (by decide) ?_
      exact hbackv1 _ (Option.some.inj hf).symm ls (lv_sub hl [1, 2, 0] rfl)
    · have hf := g_if c5 hf
      refine lv_iinc (v := (v1.1 + 1)) (lv' := [(1, .int (v1.1 + 1)), (0, .ref (h b0)), (2, .int v1.2)]) hx hb dX6_clashes_20 hl (k := 1) rfl rfl (by decide) rfl (fun ls hl => ?_)
      refine lv_iinc (v := (v1.2 + 1)) (lv' := [(2, .int (v1.2 + 1)), (1, .int (v1.1 + 1)), (0, .ref (h b0))]) hx hb dX6_clashes_23 hl (k := 2) rfl rfl (by decide) rfl (fun ls hl => ?_)
      refine lv_goto (tgt := 4) hx hb dX6_clashes_26 (by decide) ?_
      exact hbackv1 _ (Option.some.inj hf).symm ls (lv_sub hl [2, 1, 0] rfl)
set_option maxHeartbeats 4000000 in
set_option maxRecDepth 100000 in
theorem c_X6_savingOfAll {l : Launch} {E : gEnv} (h : Nat → Nat) (b0 : Nat) (w0 : T6) {o : UInt64} (hf : f_X6_savingOfAll w0 = some o) : gR l yX6_savingOfAll cX6_savingOfAll 10 (some .double) rX6_savingOfAll E [.ref (h b0)] [C6 E h b0 w0] (some (.double o)) := by
  refine gR.of (by decide +kernel) (Nat.le_of_ble_eq_true rfl) ?_
  intro p e s m below meth c F hr hlk hK hX hP ls hl
  have F : gF p m c cX6_savingOfAll 10 s ([.ref (h b0)] : List Value).toArray RX6 := F
  generalize ([.ref (h b0)] : List Value).toArray = args at F ⊢
  generalize hQ : MQ below _ _ _ _ _ _ = Q
  have hl : lv_has ls 10 [(0, .ref (h b0))] := hl
  have hx := F.1
  have hb := F.2.1
  unfold f_X6_savingOfAll at hf
  refine lv_lconst (v := 0) hx hb dX6_savingOfAll_0 rfl ?_
  refine lv_lstore_n (lv' := [(1, .long 0), (0, .ref (h b0))]) hx hb dX6_savingOfAll_1 rfl hl (by decide) rfl (fun ls hl => ?_)
  refine lv_lconst (v := 0) hx hb dX6_savingOfAll_2 rfl ?_
  refine lv_lstore_n (lv' := [(3, .long 0), (1, .long 0), (0, .ref (h b0))]) hx hb dX6_savingOfAll_3 rfl hl (by decide) rfl (fun ls hl => ?_)
  refine lv_iconst (v := 0) hx hb dX6_savingOfAll_4 (by decide) ?_
  refine lv_istore (lv' := [(5, .int 0), (3, .long 0), (1, .long 0), (0, .ref (h b0))]) hx hb dX6_savingOfAll_5 hl (by decide) rfl (fun ls hl => ?_)
  obtain ⟨x2, hx2, hfx2⟩ := g_bnd hf
  have hEx2 : ∀ ls : Array Slot, lv_has ls 10 [(1, .long x2.1), (3, .long x2.2)] → W p l e rX6_savingOfAll s m args below meth c s.heap [] 0 0 Q (F0 m 64 ls []) := by
    intro ls hl
    have hf := hfx2
    refine lv_lload_n hx hb dX6_savingOfAll_64 rfl (lv_at hl 1 rfl) ?_
    refine lv_lconst (v := 0) hx hb dX6_savingOfAll_65 rfl ?_
    refine g_lc_ne (tgt := 74) hx hb dX6_savingOfAll_66 dX6_savingOfAll_67 (by decide) (fun c7 => ?_) (fun c7 => ?_)
    · have hf := g_if c7 hf
      refine lv_lload_n hx hb dX6_savingOfAll_74 rfl (lv_at hl 0 rfl) ?_
      refine lv_l2d hx hb dX6_savingOfAll_75 ?_
      refine lv_lload_n hx hb dX6_savingOfAll_76 rfl (lv_at hl 1 rfl) ?_
      refine lv_l2d hx hb dX6_savingOfAll_77 ?_
      obtain ⟨u8, hu8, hf⟩ := g_bnd hf
      refine lv_ddiv hx hb dX6_savingOfAll_78 (nn_ok hu8) ?_
      have ho := Option.some.inj hf
      rw [← hQ, ← ho]
      exact g_retD F hr hlk dX6_savingOfAll_79
    · have hf := g_it c7 hf
      refine lv_dconst0 hx hb dX6_savingOfAll_70 ?_
      refine lv_goto (tgt := 79) hx hb dX6_savingOfAll_71 (by decide) ?_
      have ho := Option.some.inj hf
      rw [← hQ, ← ho]
      exact g_retD F hr hlk dX6_savingOfAll_79
  refine lp_rule (fun (v1 : Int64 × Int64 × Int32) => ∀ ls : Array Slot, lv_has ls 10 [(0, .ref (h b0)), (1, .long v1.1), (3, .long v1.2.1), (5, .int v1.2.2)] → W p l e rX6_savingOfAll s m args below meth c s.heap [] 0 0 Q (F0 m 7 ls [])) ?_ _ _ hx2 ls (lv_sub hl [3, 2, 1, 0] rfl)
  intro v1 y hf hbackv1 hexitv1 ls hl
  refine lv_iload hx hb dX6_savingOfAll_7 (lv_at hl 3 rfl) ?_
  refine lv_aload_n hx hb dX6_savingOfAll_9 rfl (lv_at hl 0 rfl) ?_
  refine g_get F hK hP 0 0 5 flX6_29 rfl rfl rfl dX6_savingOfAll_10 ?_
  refine lv_icmp_ge (tgt := 64) hx hb dX6_savingOfAll_13 (by decide) (fun c3 => ?_) (fun c3 => ?_)
  · have hf := g_it c3 hf
    obtain rfl := hexitv1 _ (Option.some.inj hf).symm
    exact hEx2 ls (lv_sub hl [1, 2] rfl)
  · have hf := g_if c3 hf
    refine lv_aload_n hx hb dX6_savingOfAll_16 rfl (lv_at hl 0 rfl) ?_
    refine lv_iload hx hb dX6_savingOfAll_17 (lv_at hl 3 rfl) ?_
    obtain ⟨x4, hx4, hf⟩ := g_bnd hf
    refine g_rv (As := [.int v1.2.2]) (rest := []) F hK hX hP [0] rfl (c_X6_countAt h b0 w0 v1.2.2 hx4) (kX6_53 F.2.2.2.2 ⟨Nat.le_of_ble_eq_true rfl, Nat.le_of_ble_eq_true rfl⟩) rfl rfl rfl rfl hl.1 rfl (lv_room (Nat.le_of_ble_eq_true rfl)) ⟨Nat.zero_le _, Nat.zero_le _⟩ dX6_savingOfAll_19 ?_
    refine lv_i2l hx hb dX6_savingOfAll_22 rfl ?_
    refine lv_lstore (lv' := [(6, .long x4.toInt64), (0, .ref (h b0)), (1, .long v1.1), (3, .long v1.2.1), (5, .int v1.2.2)]) hx hb dX6_savingOfAll_23 hl (by decide) rfl (fun ls hl => ?_)
    refine lv_aload_n hx hb dX6_savingOfAll_25 rfl (lv_at hl 1 rfl) ?_
    refine lv_iload hx hb dX6_savingOfAll_26 (lv_at hl 4 rfl) ?_
    obtain ⟨x5, hx5, hf⟩ := g_bnd hf
    refine g_rv (As := [.int v1.2.2]) (rest := []) F hK hX hP [0] rfl (c_X6_tapsFor h b0 w0 v1.2.2 hx5) (kX6_120 F.2.2.2.2 ⟨Nat.le_of_ble_eq_true rfl, Nat.le_of_ble_eq_true rfl⟩) rfl rfl rfl rfl hl.1 rfl (lv_room (Nat.le_of_ble_eq_true rfl)) ⟨Nat.zero_le _, Nat.zero_le _⟩ dX6_savingOfAll_28 ?_
    refine lv_i2l hx hb dX6_savingOfAll_31 rfl ?_
    refine lv_lstore (lv' := [(8, .long x5.toInt64), (6, .long x4.toInt64), (0, .ref (h b0)), (1, .long v1.1), (3, .long v1.2.1), (5, .int v1.2.2)]) hx hb dX6_savingOfAll_32 hl (by decide) rfl (fun ls hl => ?_)
    refine lv_lload_n hx hb dX6_savingOfAll_34 rfl (lv_at hl 3 rfl) ?_
    refine lv_lload hx hb dX6_savingOfAll_35 (lv_at hl 1 rfl) ?_
    refine lv_lload hx hb dX6_savingOfAll_37 (lv_at hl 0 rfl) ?_
    refine lv_aload_n hx hb dX6_savingOfAll_39 rfl (lv_at hl 2 rfl) ?_
    refine lv_iload hx hb dX6_savingOfAll_40 (lv_at hl 5 rfl) ?_
    obtain ⟨x6, hx6, hf⟩ := g_bnd hf
    refine g_rv (As := [.int v1.2.2]) (rest := [.long x5.toInt64, .long x4.toInt64, .long v1.1]) F hK hX hP [0] rfl (c_X6_guessesFor h b0 w0 v1.2.2 hx6) (kX6_123 F.2.2.2.2 ⟨Nat.le_of_ble_eq_true rfl, Nat.le_of_ble_eq_true rfl⟩) rfl rfl rfl rfl hl.1 rfl (lv_room (Nat.le_of_ble_eq_true rfl)) ⟨Nat.zero_le _, Nat.zero_le _⟩ dX6_savingOfAll_42 ?_
    refine lv_i2l hx hb dX6_savingOfAll_45 rfl ?_
    refine lv_lsub hx hb dX6_savingOfAll_46 ?_
    refine lv_lmul hx hb dX6_savingOfAll_47 ?_
    refine lv_ladd hx hb dX6_savingOfAll_48 ?_
    refine lv_lstore_n (lv' := [(1, .long (v1.1 + (x4.toInt64 * (x5.toInt64 - x6.toInt64)))), (8, .long x5.toInt64), (6, .long x4.toInt64), (0, .ref (h b0)), (3, .long v1.2.1), (5, .int v1.2.2)]) hx hb dX6_savingOfAll_49 rfl hl (by decide) rfl (fun ls hl => ?_)
    refine lv_lload_n hx hb dX6_savingOfAll_50 rfl (lv_at hl 4 rfl) ?_
    refine lv_lload hx hb dX6_savingOfAll_51 (lv_at hl 2 rfl) ?_
    refine lv_lload hx hb dX6_savingOfAll_53 (lv_at hl 1 rfl) ?_
    refine lv_lmul hx hb dX6_savingOfAll_55 ?_
    refine lv_ladd hx hb dX6_savingOfAll_56 ?_
    refine lv_lstore_n (lv' := [(3, .long (v1.2.1 + (x4.toInt64 * x5.toInt64))), (1, .long (v1.1 + (x4.toInt64 * (x5.toInt64 - x6.toInt64)))), (8, .long x5.toInt64), (6, .long x4.toInt64), (0, .ref (h b0)), (5, .int v1.2.2)]) hx hb dX6_savingOfAll_57 rfl hl (by decide) rfl (fun ls hl => ?_)
    refine lv_iinc (v := (v1.2.2 + 1)) (lv' := [(5, .int (v1.2.2 + 1)), (3, .long (v1.2.1 + (x4.toInt64 * x5.toInt64))), (1, .long (v1.1 + (x4.toInt64 * (x5.toInt64 - x6.toInt64)))), (8, .long x5.toInt64), (6, .long x4.toInt64), (0, .ref (h b0))]) hx hb dX6_savingOfAll_58 hl (k := 5) rfl rfl (by decide) rfl (fun ls hl => ?_)
    refine lv_goto (tgt := 7) hx hb dX6_savingOfAll_61 (by decide) ?_
    exact hbackv1 _ (Option.some.inj hf).symm ls (lv_sub hl [5, 2, 1, 0] rfl)
