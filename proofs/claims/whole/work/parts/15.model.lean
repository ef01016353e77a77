set_option maxHeartbeats 4000000 in
set_option maxRecDepth 100000 in
theorem c_X9_thrown {l : Launch} {E : gEnv} (h : Nat → Nat) (b0 : Nat) (w0 : T9) {o : Int32} (hf : f_X9_thrown w0 = some o) : gR l yX9_thrown cX9_thrown 1 (some .int) rX9_thrown E [.ref (h b0)] [C9 E h b0 w0] (some (.int o)) := by
  refine gR.of (by decide +kernel) (Nat.le_of_ble_eq_true rfl) ?_
  intro p e s m below meth c F hr hlk hK hX hP ls hl
  have F : gF p m c cX9_thrown 1 s ([.ref (h b0)] : List Value).toArray RX9 := F
  generalize ([.ref (h b0)] : List Value).toArray = args at F ⊢
  generalize hQ : MQ below _ _ _ _ _ _ = Q
  have hl : lv_has ls 1 [(0, .ref (h b0))] := hl
  have hx := F.1
  have hb := F.2.1
  unfold f_X9_thrown at hf
  refine lv_aload_n hx hb dX9_thrown_0 rfl (lv_at hl 0 rfl) ?_
  refine g_get F hK hP 0 0 4 flX9_25 rfl rfl rfl dX9_thrown_1 ?_
  have ho := Option.some.inj hf
  rw [← hQ, ← ho]
  exact g_retI F hr hlk dX9_thrown_4
set_option maxHeartbeats 4000000 in
set_option maxRecDepth 100000 in
theorem c_X9_in {l : Launch} {E : gEnv} (h : Nat → Nat) (a0 : Int64) (a1 : Int64) (a2 : Int64) {o : Int32} (hf : f_X9_in a0 a1 a2 = some o) : gR l yX9_in cX9_in 6 (some .boolean) rX9_in E [.long a0, .long a1, .long a2] [] (some (.int o)) := by
  refine gR.of (by decide +kernel) (Nat.le_of_ble_eq_true rfl) ?_
  intro p e s m below meth c F hr hlk hK hX hP ls hl
  have F : gF p m c cX9_in 6 s ([.long a0, .long a1, .long a2] : List Value).toArray RX9 := F
  generalize ([.long a0, .long a1, .long a2] : List Value).toArray = args at F ⊢
  generalize hQ : MQ below _ _ _ _ _ _ = Q
  have hl : lv_has ls 6 [(0, .long a0), (2, .long a1), (4, .long a2)] := hl
  have hx := F.1
  have hb := F.2.1
  unfold f_X9_in at hf
  refine lv_lload_n hx hb dX9_in_0 rfl (lv_at hl 0 rfl) ?_
  refine lv_lload_n hx hb dX9_in_1 rfl (lv_at hl 1 rfl) ?_
  refine g_lc_lt (tgt := 17) hx hb dX9_in_2 dX9_in_3 (by decide) (fun c1 => ?_) (fun c1 => ?_)
  · have hf := g_it c1 hf
    refine lv_iconst (v := 0) hx hb dX9_in_17 (by decide) ?_
    have ho := Option.some.inj hf
    rw [← hQ, ← ho]
    exact g_retZ F hr hlk narrow_b0 dX9_in_18
  · have hf := g_if c1 hf
    refine lv_lload_n hx hb dX9_in_6 rfl (lv_at hl 0 rfl) ?_
    refine lv_lload hx hb dX9_in_7 (lv_at hl 2 rfl) ?_
    refine g_lc_gt (tgt := 17) hx hb dX9_in_9 dX9_in_10 (by decide) (fun c2 => ?_) (fun c2 => ?_)
    · have hf := g_it c2 hf
      refine lv_iconst (v := 0) hx hb dX9_in_17 (by decide) ?_
      have ho := Option.some.inj hf
      rw [← hQ, ← ho]
      exact g_retZ F hr hlk narrow_b0 dX9_in_18
    · have hf := g_if c2 hf
      refine lv_iconst (v := 1) hx hb dX9_in_13 (by decide) ?_
      refine lv_goto (tgt := 18) hx hb dX9_in_14 (by decide) ?_
      have ho := Option.some.inj hf
      rw [← hQ, ← ho]
      exact g_retZ F hr hlk narrow_b1 dX9_in_18
set_option maxHeartbeats 4000000 in
set_option maxRecDepth 100000 in
theorem c_X9_goes {l : Launch} {E : gEnv} (h : Nat → Nat) (b0 : Nat) (w0 : T9) (a1 : Int32) (a2 : Int32) {o : Int32 × T9} (hf : f_X9_goes w0 a1 a2 = some o) : gM l yX9_goes cX9_goes 3 (some .boolean) rX9_goes E [.ref (h b0), .int a1, .int a2] [C9 E h b0 w0] (some (.int o.1)) [C9 E h b0 o.2] := by
  refine gM.of (by decide +kernel) (Nat.le_of_ble_eq_true rfl) rfl ?_
  intro p e s m below meth c F hr hlk hK hX hAB ls hl H locs hG
  have F : gF p m c cX9_goes 3 s ([.ref (h b0), .int a1, .int a2] : List Value).toArray RX9 := F
  generalize ([.ref (h b0), .int a1, .int a2] : List Value).toArray = args at F ⊢
  generalize hQ : MQ below _ _ _ _ _ _ = Q
  generalize hA : gAd [C9 E h b0 w0] = A at hAB hG
  have hl : lv_has ls 3 [(0, .ref (h b0)), (1, .int a1), (2, .int a2)] := hl
  have hx := F.1
  have hb := F.2.1
  unfold f_X9_goes at hf
  refine lv_aload_n hx hb dX9_goes_0 rfl (lv_at hl 0 rfl) ?_
  refine lv_iload_n hx hb dX9_goes_1 rfl (lv_at hl 1 rfl) ?_
  obtain ⟨j1, hf, hfj1⟩ := g_bnd hf
  have hJj1 : ∀ (H : Heap) (locs : List Loc), gS E A s.heap [C9 E h b0 w0] H locs → ∀ ls : Array Slot, lv_has ls 3 [(0, .ref (h b0))] → W p l e rX9_goes s m args below meth c H locs 0 0 Q (F0 m 18 ls [.int j1, .ref (h b0)]) := by
    intro H locs hG ls hl
    have hf := hfj1
    refine g_put F hK hG 0 0 4 pfX9_25 rfl rfl (Nat.le_of_ble_eq_true rfl) rfl rfl dX9_goes_18 (fun H locs hG => ?_)
    have hG : gS E A s.heap [C9 E h b0 (w0.1, w0.2.1, w0.2.2.1, w0.2.2.2.1, j1, w0.2.2.2.2.2.1, w0.2.2.2.2.2.2.1, w0.2.2.2.2.2.2.2.1, w0.2.2.2.2.2.2.2.2.1, w0.2.2.2.2.2.2.2.2.2)] H locs := hG
    refine lv_aload_n hx hb dX9_goes_21 rfl (lv_at hl 0 rfl) ?_
    refine g_get F hK hG.1 0 0 4 flX9_25 rfl rfl rfl dX9_goes_22 ?_
    refine lv_if_ne (tgt := 32) hx hb dX9_goes_25 (by decide) (fun c4 => ?_) (fun c4 => ?_)
    · have hf := g_if c4 hf
      refine lv_iconst (v := 0) hx hb dX9_goes_32 (by decide) ?_
      have ho := Option.some.inj hf
      subst hA
      rw [← hQ, ← ho]
      exact g_mretZ F hr hlk hG narrow_b0 dX9_goes_33
    · have hf := g_it c4 hf
      refine lv_iconst (v := 1) hx hb dX9_goes_28 (by decide) ?_
      refine lv_goto (tgt := 33) hx hb dX9_goes_29 (by decide) ?_
      have ho := Option.some.inj hf
      subst hA
      rw [← hQ, ← ho]
      exact g_mretZ F hr hlk hG narrow_b1 dX9_goes_33
  refine lv_if_ne (tgt := 9) hx hb dX9_goes_2 (by decide) (fun c2 => ?_) (fun c2 => ?_)
  · have hf := g_if c2 hf
    refine lv_iload_n hx hb dX9_goes_9 rfl (lv_at hl 2 rfl) ?_
    refine lv_if_ne (tgt := 17) hx hb dX9_goes_10 (by decide) (fun c3 => ?_) (fun c3 => ?_)
    · have hf := g_if c3 hf
      refine lv_iconst (v := 0) hx hb dX9_goes_17 (by decide) ?_
      obtain rfl := Option.some.inj hf
      exact hJj1 _ _ hG ls (lv_sub hl [0] rfl)
    · have hf := g_it c3 hf
      refine lv_iconst (v := 2) hx hb dX9_goes_13 (by decide) ?_
      refine lv_goto (tgt := 18) hx hb dX9_goes_14 (by decide) ?_
      obtain rfl := Option.some.inj hf
      exact hJj1 _ _ hG ls (lv_sub hl [0] rfl)
  · have hf := g_it c2 hf
    refine lv_iconst (v := 1) hx hb dX9_goes_5 (by decide) ?_
    refine lv_goto (tgt := 18) hx hb dX9_goes_6 (by decide) ?_
    obtain rfl := Option.some.inj hf
    exact hJj1 _ _ hG ls (lv_sub hl [0] rfl)
set_option maxHeartbeats 4000000 in
set_option maxRecDepth 100000 in
theorem c_X9_save {l : Launch} {E : gEnv} (h : Nat → Nat) (b0 : Nat) (w0 : T9) {o : T9} (hf : f_X9_save w0 = some o) : gM l yX9_save cX9_save 2 none rX9_save E [.ref (h b0)] [C9 E h b0 w0] (none) [C9 E h b0 o] := by
  refine gM.of (by decide +kernel) (Nat.le_of_ble_eq_true rfl) rfl ?_
  intro p e s m below meth c F hr hlk hK hX hAB ls hl H locs hG
  have F : gF p m c cX9_save 2 s ([.ref (h b0)] : List Value).toArray RX9 := F
  generalize ([.ref (h b0)] : List Value).toArray = args at F ⊢
  generalize hQ : MQ below _ _ _ _ _ _ = Q
  generalize hA : gAd [C9 E h b0 w0] = A at hAB hG
  have hl : lv_has ls 2 [(0, .ref (h b0))] := hl
  have hx := F.1
  have hb := F.2.1
  unfold f_X9_save at hf
  refine lv_aload_n hx hb dX9_save_0 rfl (lv_at hl 0 rfl) ?_
  refine g_get F hK hG.1 0 0 3 flX9_29 rfl rfl rfl dX9_save_1 ?_
  refine lv_iconst (v := 4) hx hb dX9_save_4 (by decide) ?_
  obtain ⟨j1, hf, hfj1⟩ := g_bnd hf
  have hJj1 : ∀ (H : Heap) (locs : List Loc), gS E A s.heap [C9 E h b0 j1] H locs → ∀ ls : Array Slot, lv_has ls 2 [(0, .ref (h b0))] → W p l e rX9_save s m args below meth c H locs 0 0 Q (F0 m 49 ls []) := by
    intro H locs hG ls hl
    have hf := hfj1
    refine lv_iconst (v := 0) hx hb dX9_save_49 (by decide) ?_
    refine lv_istore_n (lv' := [(1, .int 0), (0, .ref (h b0))]) hx hb dX9_save_50 rfl hl (by decide) rfl (fun ls hl => ?_)
    obtain ⟨x9, hx9, hfx9⟩ := g_bnd hf
    have hEx9 : ∀ (H : Heap) (locs : List Loc), gS E A s.heap [C9 E h b0 x9] H locs → ∀ ls : Array Slot, lv_has ls 2 [(0, .ref (h b0))] → W p l e rX9_save s m args below meth c H locs 0 0 Q (F0 m 85 ls []) := by
      intro H locs hG ls hl
      have hf := hfx9
      refine lv_aload_n hx hb dX9_save_85 rfl (lv_at hl 0 rfl) ?_
      refine lv_dup hx hb dX9_save_86 rfl ?_
      refine g_get F hK hG.1 0 0 3 flX9_29 rfl rfl rfl dX9_save_87 ?_
      refine lv_iconst (v := 1) hx hb dX9_save_90 (by decide) ?_
      refine lv_iadd hx hb dX9_save_91 ?_
      refine g_put F hK hG 0 0 3 pfX9_29 rfl rfl (Nat.le_of_ble_eq_true rfl) rfl rfl dX9_save_92 (fun H locs hG => ?_)
      have hG : gS E A s.heap [C9 E h b0 (x9.1, x9.2.1, x9.2.2.1, (x9.2.2.2.1 + 1), x9.2.2.2.2.1, x9.2.2.2.2.2.1, x9.2.2.2.2.2.2.1, x9.2.2.2.2.2.2.2.1, x9.2.2.2.2.2.2.2.2.1, x9.2.2.2.2.2.2.2.2.2)] H locs := hG
      have ho := Option.some.inj hf
      subst hA
      rw [← hQ, ← ho]
      exact g_mretV F hr hlk hG dX9_save_95
    refine lp_rule (fun (v8 : Int32 × T9) => ∀ (H : Heap) (locs : List Loc), gS E A s.heap [C9 E h b0 v8.2] H locs → ∀ ls : Array Slot, lv_has ls 2 [(0, .ref (h b0)), (1, .int v8.1)] → W p l e rX9_save s m args below meth c H locs 0 0 Q (F0 m 51 ls [])) ?_ _ _ hx9 _ _ hG ls (lv_sub hl [1, 0] rfl)
    intro v8 y hf hbackv8 hexitv8 H locs hG ls hl
    refine lv_iload_n hx hb dX9_save_51 rfl (lv_at hl 1 rfl) ?_
    refine lv_sipush (v := 1050) hx hb dX9_save_52 (by decide) ?_
    refine lv_icmp_ge (tgt := 85) hx hb dX9_save_55 (by decide) (fun c10 => ?_) (fun c10 => ?_)
    · have hf := g_it c10 hf
      obtain rfl := hexitv8 _ (Option.some.inj hf).symm
      exact hEx9 _ _ hG ls (lv_sub hl [0] rfl)
    · have hf := g_if c10 hf
      refine lv_aload_n hx hb dX9_save_58 rfl (lv_at hl 0 rfl) ?_
      refine g_get F hK hG.1 0 0 1 flX9_13 rfl rfl rfl dX9_save_59 ?_
      refine lv_sipush (v := 1050) hx hb dX9_save_62 (by decide) ?_
      refine lv_aload_n hx hb dX9_save_65 rfl (lv_at hl 0 rfl) ?_
      refine g_get F hK hG.1 0 0 3 flX9_29 rfl rfl rfl dX9_save_66 ?_
      refine lv_imul hx hb dX9_save_69 ?_
      refine lv_iload_n hx hb dX9_save_70 rfl (lv_at hl 1 rfl) ?_
      refine lv_iadd hx hb dX9_save_71 ?_
      refine lv_aload_n hx hb dX9_save_72 rfl (lv_at hl 0 rfl) ?_
      refine g_get F hK hG.1 0 0 0 flX9_7 rfl rfl rfl dX9_save_73 ?_
      refine lv_iload_n hx hb dX9_save_76 rfl (lv_at hl 1 rfl) ?_
      obtain ⟨x11, hx11, hf⟩ := g_bnd hf
      refine g_iald F hK hG.1 0 1 rfl rfl hx11 dX9_save_77 ?_
      obtain ⟨x12, hx12, hf⟩ := g_bnd hf
      refine g_iast F hK hG 0 2 rfl rfl hx12 dX9_save_78 (fun H locs hG => ?_)
      have hG : gS E A s.heap [C9 E h b0 (v8.2.1, x12, v8.2.2.2.1, v8.2.2.2.2.1, v8.2.2.2.2.2.1, v8.2.2.2.2.2.2.1, v8.2.2.2.2.2.2.2.1, v8.2.2.2.2.2.2.2.2.1, v8.2.2.2.2.2.2.2.2.2.1, v8.2.2.2.2.2.2.2.2.2.2)] H locs := hG
      refine lv_iinc (v := (v8.1 + 1)) (lv' := [(1, .int (v8.1 + 1)), (0, .ref (h b0))]) hx hb dX9_save_79 hl (k := 1) rfl rfl (by decide) rfl (fun ls hl => ?_)
      refine lv_goto (tgt := 51) hx hb dX9_save_82 (by decide) ?_
      exact hbackv8 _ (Option.some.inj hf).symm _ _ hG ls (lv_sub hl [1, 0] rfl)
  refine lv_icmp_ne (tgt := 49) hx hb dX9_save_5 (by decide) (fun c2 => ?_) (fun c2 => ?_)
  · have hf := g_if c2 hf
    obtain rfl := Option.some.inj hf
    exact hJj1 _ _ hG ls (lv_sub hl [0] rfl)
  · have hf := g_it c2 hf
    refine lv_iconst (v := 0) hx hb dX9_save_8 (by decide) ?_
    refine lv_istore_n (lv' := [(1, .int 0), (0, .ref (h b0))]) hx hb dX9_save_9 rfl hl (by decide) rfl (fun ls hl => ?_)
    obtain ⟨x4, hx4, hfx4⟩ := g_bnd hf
    have hEx4 : ∀ (H : Heap) (locs : List Loc), gS E A s.heap [C9 E h b0 x4] H locs → ∀ ls : Array Slot, lv_has ls 2 [(0, .ref (h b0))] → W p l e rX9_save s m args below meth c H locs 0 0 Q (F0 m 39 ls []) := by
      intro H locs hG ls hl
      have hf := hfx4
      refine lv_aload_n hx hb dX9_save_39 rfl (lv_at hl 0 rfl) ?_
      refine lv_dup hx hb dX9_save_40 rfl ?_
      refine g_get F hK hG.1 0 0 3 flX9_29 rfl rfl rfl dX9_save_41 ?_
      refine lv_iconst (v := 1) hx hb dX9_save_44 (by decide) ?_
      refine lv_isub hx hb dX9_save_45 ?_
      refine g_put F hK hG 0 0 3 pfX9_29 rfl rfl (Nat.le_of_ble_eq_true rfl) rfl rfl dX9_save_46 (fun H locs hG => ?_)
      have hG : gS E A s.heap [C9 E h b0 (x4.1, x4.2.1, x4.2.2.1, (x4.2.2.2.1 - 1), x4.2.2.2.2.1, x4.2.2.2.2.2.1, x4.2.2.2.2.2.2.1, x4.2.2.2.2.2.2.2.1, x4.2.2.2.2.2.2.2.2.1, x4.2.2.2.2.2.2.2.2.2)] H locs := hG
      obtain rfl := Option.some.inj hf
      exact hJj1 _ _ hG ls (lv_sub hl [0] rfl)
    refine lp_rule (fun (v3 : Int32 × T9) => ∀ (H : Heap) (locs : List Loc), gS E A s.heap [C9 E h b0 v3.2] H locs → ∀ ls : Array Slot, lv_has ls 2 [(0, .ref (h b0)), (1, .int v3.1)] → W p l e rX9_save s m args below meth c H locs 0 0 Q (F0 m 10 ls [])) ?_ _ _ hx4 _ _ hG ls (lv_sub hl [1, 0] rfl)
    intro v3 y hf hbackv3 hexitv3 H locs hG ls hl
    refine lv_iload_n hx hb dX9_save_10 rfl (lv_at hl 1 rfl) ?_
    refine lv_sipush (v := 3150) hx hb dX9_save_11 (by decide) ?_
    refine lv_icmp_ge (tgt := 39) hx hb dX9_save_14 (by decide) (fun c5 => ?_) (fun c5 => ?_)
    · have hf := g_it c5 hf
      obtain rfl := hexitv3 _ (Option.some.inj hf).symm
      exact hEx4 _ _ hG ls (lv_sub hl [0] rfl)
    · have hf := g_if c5 hf
      refine lv_aload_n hx hb dX9_save_17 rfl (lv_at hl 0 rfl) ?_
      refine g_get F hK hG.1 0 0 1 flX9_13 rfl rfl rfl dX9_save_18 ?_
      refine lv_iload_n hx hb dX9_save_21 rfl (lv_at hl 1 rfl) ?_
      refine lv_aload_n hx hb dX9_save_22 rfl (lv_at hl 0 rfl) ?_
      refine g_get F hK hG.1 0 0 1 flX9_13 rfl rfl rfl dX9_save_23 ?_
      refine lv_iload_n hx hb dX9_save_26 rfl (lv_at hl 1 rfl) ?_
      refine lv_sipush (v := 1050) hx hb dX9_save_27 (by decide) ?_
      refine lv_iadd hx hb dX9_save_30 ?_
      obtain ⟨x6, hx6, hf⟩ := g_bnd hf
      refine g_iald F hK hG.1 0 2 rfl rfl hx6 dX9_save_31 ?_
      obtain ⟨x7, hx7, hf⟩ := g_bnd hf
      refine g_iast F hK hG 0 2 rfl rfl hx7 dX9_save_32 (fun H locs hG => ?_)
      have hG : gS E A s.heap [C9 E h b0 (v3.2.1, x7, v3.2.2.2.1, v3.2.2.2.2.1, v3.2.2.2.2.2.1, v3.2.2.2.2.2.2.1, v3.2.2.2.2.2.2.2.1, v3.2.2.2.2.2.2.2.2.1, v3.2.2.2.2.2.2.2.2.2.1, v3.2.2.2.2.2.2.2.2.2.2)] H locs := hG
      refine lv_iinc (v := (v3.1 + 1)) (lv' := [(1, .int (v3.1 + 1)), (0, .ref (h b0))]) hx hb dX9_save_33 hl (k := 1) rfl rfl (by decide) rfl (fun ls hl => ?_)
      refine lv_goto (tgt := 10) hx hb dX9_save_36 (by decide) ?_
      exact hbackv3 _ (Option.some.inj hf).symm _ _ hG ls (lv_sub hl [1, 0] rfl)
set_option maxHeartbeats 4000000 in
set_option maxRecDepth 100000 in
theorem c_X9_lays {l : Launch} {E : gEnv} (h : Nat → Nat) (b0 : Nat) (w0 : T9) {o : T9} (hf : f_X9_lays w0 = some o) : gM l yX9_lays cX9_lays 2 none rX9_lays E [.ref (h b0)] [C9 E h b0 w0] (none) [C9 E h b0 o] := by
  refine gM.of (by decide +kernel) (Nat.le_of_ble_eq_true rfl) rfl ?_
  intro p e s m below meth c F hr hlk hK hX hAB ls hl H locs hG
  have F : gF p m c cX9_lays 2 s ([.ref (h b0)] : List Value).toArray RX9 := F
  generalize ([.ref (h b0)] : List Value).toArray = args at F ⊢
  generalize hQ : MQ below _ _ _ _ _ _ = Q
  generalize hA : gAd [C9 E h b0 w0] = A at hAB hG
  have hl : lv_has ls 2 [(0, .ref (h b0))] := hl
  have hx := F.1
  have hb := F.2.1
  unfold f_X9_lays at hf
  refine lv_iconst (v := 0) hx hb dX9_lays_0 (by decide) ?_
  refine lv_istore_n (lv' := [(1, .int 0), (0, .ref (h b0))]) hx hb dX9_lays_1 rfl hl (by decide) rfl (fun ls hl => ?_)
  refine lp_rule (fun (v1 : Int32 × T9) => ∀ (H : Heap) (locs : List Loc), gS E A s.heap [C9 E h b0 v1.2] H locs → ∀ ls : Array Slot, lv_has ls 2 [(0, .ref (h b0)), (1, .int v1.1)] → W p l e rX9_lays s m args below meth c H locs 0 0 Q (F0 m 2 ls [])) ?_ _ _ hf _ _ hG ls (lv_sub hl [1, 0] rfl)
  intro v1 y hf hbackv1 hexitv1 H locs hG ls hl
  refine lv_iload_n hx hb dX9_lays_2 rfl (lv_at hl 1 rfl) ?_
  refine lv_sipush (v := 1050) hx hb dX9_lays_3 (by decide) ?_
  refine lv_icmp_ge (tgt := 27) hx hb dX9_lays_6 (by decide) (fun c3 => ?_) (fun c3 => ?_)
  · have hf := g_it c3 hf
    have ho := hexitv1 _ (Option.some.inj hf).symm
    subst hA
    rw [← hQ, ← ho]
    exact g_mretV F hr hlk hG dX9_lays_27
  · have hf := g_if c3 hf
    refine lv_aload_n hx hb dX9_lays_9 rfl (lv_at hl 0 rfl) ?_
    refine g_get F hK hG.1 0 0 2 flX9_16 rfl rfl rfl dX9_lays_10 ?_
    refine lv_iload_n hx hb dX9_lays_13 rfl (lv_at hl 1 rfl) ?_
    refine lv_aload_n hx hb dX9_lays_14 rfl (lv_at hl 0 rfl) ?_
    refine g_get F hK hG.1 0 0 0 flX9_7 rfl rfl rfl dX9_lays_15 ?_
    refine lv_iload_n hx hb dX9_lays_18 rfl (lv_at hl 1 rfl) ?_
    obtain ⟨x4, hx4, hf⟩ := g_bnd hf
    refine g_iald F hK hG.1 0 1 rfl rfl hx4 dX9_lays_19 ?_
    obtain ⟨x5, hx5, hf⟩ := g_bnd hf
    refine g_iast F hK hG 0 3 rfl rfl hx5 dX9_lays_20 (fun H locs hG => ?_)
    have hG : gS E A s.heap [C9 E h b0 (v1.2.1, v1.2.2.1, x5, v1.2.2.2.2.1, v1.2.2.2.2.2.1, v1.2.2.2.2.2.2.1, v1.2.2.2.2.2.2.2.1, v1.2.2.2.2.2.2.2.2.1, v1.2.2.2.2.2.2.2.2.2.1, v1.2.2.2.2.2.2.2.2.2.2)] H locs := hG
    refine lv_iinc (v := (v1.1 + 1)) (lv' := [(1, .int (v1.1 + 1)), (0, .ref (h b0))]) hx hb dX9_lays_21 hl (k := 1) rfl rfl (by decide) rfl (fun ls hl => ?_)
    refine lv_goto (tgt := 2) hx hb dX9_lays_24 (by decide) ?_
    exact hbackv1 _ (Option.some.inj hf).symm _ _ hG ls (lv_sub hl [1, 0] rfl)
set_option maxHeartbeats 4000000 in
set_option maxRecDepth 100000 in
theorem c_X9_takesBack {l : Launch} {E : gEnv} (h : Nat → Nat) (b0 : Nat) (w0 : T9) {o : T9} (hf : f_X9_takesBack w0 = some o) : gM l yX9_takesBack cX9_takesBack 2 none rX9_takesBack E [.ref (h b0)] [C9 E h b0 w0] (none) [C9 E h b0 o] := by
  refine gM.of (by decide +kernel) (Nat.le_of_ble_eq_true rfl) rfl ?_
  intro p e s m below meth c F hr hlk hK hX hAB ls hl H locs hG
  have F : gF p m c cX9_takesBack 2 s ([.ref (h b0)] : List Value).toArray RX9 := F
  generalize ([.ref (h b0)] : List Value).toArray = args at F ⊢
  generalize hQ : MQ below _ _ _ _ _ _ = Q
  generalize hA : gAd [C9 E h b0 w0] = A at hAB hG
  have hl : lv_has ls 2 [(0, .ref (h b0))] := hl
  have hx := F.1
  have hb := F.2.1
  unfold f_X9_takesBack at hf
  refine lv_iconst (v := 0) hx hb dX9_takesBack_0 (by decide) ?_
  refine lv_istore_n (lv' := [(1, .int 0), (0, .ref (h b0))]) hx hb dX9_takesBack_1 rfl hl (by decide) rfl (fun ls hl => ?_)
  refine lp_rule (fun (v1 : Int32 × T9) => ∀ (H : Heap) (locs : List Loc), gS E A s.heap [C9 E h b0 v1.2] H locs → ∀ ls : Array Slot, lv_has ls 2 [(0, .ref (h b0)), (1, .int v1.1)] → W p l e rX9_takesBack s m args below meth c H locs 0 0 Q (F0 m 2 ls [])) ?_ _ _ hf _ _ hG ls (lv_sub hl [1, 0] rfl)
  intro v1 y hf hbackv1 hexitv1 H locs hG ls hl
  refine lv_iload_n hx hb dX9_takesBack_2 rfl (lv_at hl 1 rfl) ?_
  refine lv_sipush (v := 1050) hx hb dX9_takesBack_3 (by decide) ?_
  refine lv_icmp_ge (tgt := 27) hx hb dX9_takesBack_6 (by decide) (fun c3 => ?_) (fun c3 => ?_)
  · have hf := g_it c3 hf
    have ho := hexitv1 _ (Option.some.inj hf).symm
    subst hA
    rw [← hQ, ← ho]
    exact g_mretV F hr hlk hG dX9_takesBack_27
  · have hf := g_if c3 hf
    refine lv_aload_n hx hb dX9_takesBack_9 rfl (lv_at hl 0 rfl) ?_
    refine g_get F hK hG.1 0 0 0 flX9_7 rfl rfl rfl dX9_takesBack_10 ?_
    refine lv_iload_n hx hb dX9_takesBack_13 rfl (lv_at hl 1 rfl) ?_
    refine lv_aload_n hx hb dX9_takesBack_14 rfl (lv_at hl 0 rfl) ?_
    refine g_get F hK hG.1 0 0 2 flX9_16 rfl rfl rfl dX9_takesBack_15 ?_
    refine lv_iload_n hx hb dX9_takesBack_18 rfl (lv_at hl 1 rfl) ?_
    obtain ⟨x4, hx4, hf⟩ := g_bnd hf
    refine g_iald F hK hG.1 0 3 rfl rfl hx4 dX9_takesBack_19 ?_
    obtain ⟨x5, hx5, hf⟩ := g_bnd hf
    refine g_iast F hK hG 0 1 rfl rfl hx5 dX9_takesBack_20 (fun H locs hG => ?_)
    have hG : gS E A s.heap [C9 E h b0 (x5, v1.2.2.1, v1.2.2.2.1, v1.2.2.2.2.1, v1.2.2.2.2.2.1, v1.2.2.2.2.2.2.1, v1.2.2.2.2.2.2.2.1, v1.2.2.2.2.2.2.2.2.1, v1.2.2.2.2.2.2.2.2.2.1, v1.2.2.2.2.2.2.2.2.2.2)] H locs := hG
    refine lv_iinc (v := (v1.1 + 1)) (lv' := [(1, .int (v1.1 + 1)), (0, .ref (h b0))]) hx hb dX9_takesBack_21 hl (k := 1) rfl rfl (by decide) rfl (fun ls hl => ?_)
    refine lv_goto (tgt := 2) hx hb dX9_takesBack_24 (by decide) ?_
    exact hbackv1 _ (Option.some.inj hf).symm _ _ hG ls (lv_sub hl [1, 0] rfl)
set_option maxHeartbeats 4000000 in
set_option maxRecDepth 100000 in
theorem c_X9_keyOf {l : Launch} {E : gEnv} (h : Nat → Nat) (a0 : Int32) {o : Int32} (hf : f_X9_keyOf a0 = some o) : gR l yX9_keyOf cX9_keyOf 1 (some .int) rX9_keyOf E [.int a0] [] (some (.int o)) := by
  refine gR.of (by decide +kernel) (Nat.le_of_ble_eq_true rfl) ?_
  intro p e s m below meth c F hr hlk hK hX hP ls hl
  have F : gF p m c cX9_keyOf 1 s ([.int a0] : List Value).toArray RX9 := F
  generalize ([.int a0] : List Value).toArray = args at F ⊢
  generalize hQ : MQ below _ _ _ _ _ _ = Q
  have hl : lv_has ls 1 [(0, .int a0)] := hl
  have hx := F.1
  have hb := F.2.1
  unfold f_X9_keyOf at hf
  refine lv_iload_n hx hb dX9_keyOf_0 rfl (lv_at hl 0 rfl) ?_
  refine lv_bipush (v := 15) hx hb dX9_keyOf_1 (by decide) ?_
  refine lv_icmp_ge (tgt := 14) hx hb dX9_keyOf_3 (by decide) (fun c1 => ?_) (fun c1 => ?_)
  · have hf := g_it c1 hf
    refine lv_iload_n hx hb dX9_keyOf_14 rfl (lv_at hl 0 rfl) ?_
    refine lv_bipush (v := 19) hx hb dX9_keyOf_15 (by decide) ?_
    refine lv_icmp_ge (tgt := 25) hx hb dX9_keyOf_17 (by decide) (fun c2 => ?_) (fun c2 => ?_)
    · have hf := g_it c2 hf
      refine lv_iload_n hx hb dX9_keyOf_25 rfl (lv_at hl 0 rfl) ?_
      refine lv_bipush (v := 22) hx hb dX9_keyOf_26 (by decide) ?_
      refine lv_icmp_ge (tgt := 36) hx hb dX9_keyOf_28 (by decide) (fun c3 => ?_) (fun c3 => ?_)
      · have hf := g_it c3 hf
        refine lv_bipush (v := 9) hx hb dX9_keyOf_36 (by decide) ?_
        have ho := Option.some.inj hf
        rw [← hQ, ← ho]
        exact g_retI F hr hlk dX9_keyOf_38
      · have hf := g_if c3 hf
        refine lv_bipush (v := 8) hx hb dX9_keyOf_31 (by decide) ?_
        refine lv_goto (tgt := 38) hx hb dX9_keyOf_33 (by decide) ?_
        have ho := Option.some.inj hf
        rw [← hQ, ← ho]
        exact g_retI F hr hlk dX9_keyOf_38
    · have hf := g_if c2 hf
      refine lv_bipush (v := 7) hx hb dX9_keyOf_20 (by decide) ?_
      refine lv_goto (tgt := 38) hx hb dX9_keyOf_22 (by decide) ?_
      have ho := Option.some.inj hf
      rw [← hQ, ← ho]
      exact g_retI F hr hlk dX9_keyOf_38
  · have hf := g_if c1 hf
    refine lv_iconst (v := 2) hx hb dX9_keyOf_6 (by decide) ?_
    refine lv_iload_n hx hb dX9_keyOf_7 rfl (lv_at hl 0 rfl) ?_
    refine lv_iconst (v := 3) hx hb dX9_keyOf_8 (by decide) ?_
    refine lv_idiv hx hb dX9_keyOf_9 (by decide) ?_
    refine lv_iadd hx hb dX9_keyOf_10 ?_
    refine lv_goto (tgt := 38) hx hb dX9_keyOf_11 (by decide) ?_
    have ho := Option.some.inj hf
    rw [← hQ, ← ho]
    exact g_retI F hr hlk dX9_keyOf_38
set_option maxHeartbeats 4000000 in
set_option maxRecDepth 100000 in
theorem c_X9_firstOf {l : Launch} {E : gEnv} (h : Nat → Nat) (a0 : Int32) {o : Int32} (hf : f_X9_firstOf a0 = some o) : gR l yX9_firstOf cX9_firstOf 1 (some .int) rX9_firstOf E [.int a0] [] (some (.int o)) := by
  refine gR.of (by decide +kernel) (Nat.le_of_ble_eq_true rfl) ?_
  intro p e s m below meth c F hr hlk hK hX hP ls hl
  have F : gF p m c cX9_firstOf 1 s ([.int a0] : List Value).toArray RX9 := F
  generalize ([.int a0] : List Value).toArray = args at F ⊢
  generalize hQ : MQ below _ _ _ _ _ _ = Q
  have hl : lv_has ls 1 [(0, .int a0)] := hl
  have hx := F.1
  have hb := F.2.1
  unfold f_X9_firstOf at hf
  refine lv_iload_n hx hb dX9_firstOf_0 rfl (lv_at hl 0 rfl) ?_
  refine lv_bipush (v := 8) hx hb dX9_firstOf_1 (by decide) ?_
  refine lv_icmp_ge (tgt := 14) hx hb dX9_firstOf_3 (by decide) (fun c1 => ?_) (fun c1 => ?_)
  · have hf := g_it c1 hf
    refine lv_iload_n hx hb dX9_firstOf_14 rfl (lv_at hl 0 rfl) ?_
    refine lv_bipush (v := 8) hx hb dX9_firstOf_15 (by decide) ?_
    refine lv_icmp_ne (tgt := 25) hx hb dX9_firstOf_17 (by decide) (fun c2 => ?_) (fun c2 => ?_)
    · have hf := g_if c2 hf
      refine lv_bipush (v := 22) hx hb dX9_firstOf_25 (by decide) ?_
      have ho := Option.some.inj hf
      rw [← hQ, ← ho]
      exact g_retI F hr hlk dX9_firstOf_27
    · have hf := g_it c2 hf
      refine lv_bipush (v := 19) hx hb dX9_firstOf_20 (by decide) ?_
      refine lv_goto (tgt := 27) hx hb dX9_firstOf_22 (by decide) ?_
      have ho := Option.some.inj hf
      rw [← hQ, ← ho]
      exact g_retI F hr hlk dX9_firstOf_27
  · have hf := g_if c1 hf
    refine lv_iconst (v := 3) hx hb dX9_firstOf_6 (by decide) ?_
    refine lv_iload_n hx hb dX9_firstOf_7 rfl (lv_at hl 0 rfl) ?_
    refine lv_iconst (v := 2) hx hb dX9_firstOf_8 (by decide) ?_
    refine lv_isub hx hb dX9_firstOf_9 ?_
    refine lv_imul hx hb dX9_firstOf_10 ?_
    refine lv_goto (tgt := 27) hx hb dX9_firstOf_11 (by decide) ?_
    have ho := Option.some.inj hf
    rw [← hQ, ← ho]
    exact g_retI F hr hlk dX9_firstOf_27
set_option maxHeartbeats 4000000 in
set_option maxRecDepth 100000 in
theorem c_X9_lettersOn {l : Launch} {E : gEnv} (h : Nat → Nat) (a0 : Int32) {o : Int32} (hf : f_X9_lettersOn a0 = some o) : gR l yX9_lettersOn cX9_lettersOn 1 (some .int) rX9_lettersOn E [.int a0] [] (some (.int o)) := by
  refine gR.of (by decide +kernel) (Nat.le_of_ble_eq_true rfl) ?_
  intro p e s m below meth c F hr hlk hK hX hP ls hl
  have F : gF p m c cX9_lettersOn 1 s ([.int a0] : List Value).toArray RX9 := F
  generalize ([.int a0] : List Value).toArray = args at F ⊢
  generalize hQ : MQ below _ _ _ _ _ _ = Q
  have hl : lv_has ls 1 [(0, .int a0)] := hl
  have hx := F.1
  have hb := F.2.1
  unfold f_X9_lettersOn at hf
  refine lv_iload_n hx hb dX9_lettersOn_0 rfl (lv_at hl 0 rfl) ?_
  refine lv_bipush (v := 7) hx hb dX9_lettersOn_1 (by decide) ?_
  refine lv_icmp_eq (tgt := 12) hx hb dX9_lettersOn_3 (by decide) (fun c1 => ?_) (fun c1 => ?_)
  · have hf := g_it c1 hf
    refine lv_iconst (v := 4) hx hb dX9_lettersOn_12 (by decide) ?_
    refine lv_goto (tgt := 17) hx hb dX9_lettersOn_13 (by decide) ?_
    have ho := Option.some.inj hf
    rw [← hQ, ← ho]
    exact g_retI F hr hlk dX9_lettersOn_17
  · have hf := g_if c1 hf
    refine lv_iload_n hx hb dX9_lettersOn_6 rfl (lv_at hl 0 rfl) ?_
    refine lv_bipush (v := 9) hx hb dX9_lettersOn_7 (by decide) ?_
    refine lv_icmp_ne (tgt := 16) hx hb dX9_lettersOn_9 (by decide) (fun c2 => ?_) (fun c2 => ?_)
    · have hf := g_if c2 hf
      refine lv_iconst (v := 3) hx hb dX9_lettersOn_16 (by decide) ?_
      have ho := Option.some.inj hf
      rw [← hQ, ← ho]
      exact g_retI F hr hlk dX9_lettersOn_17
    · have hf := g_it c2 hf
      refine lv_iconst (v := 4) hx hb dX9_lettersOn_12 (by decide) ?_
      refine lv_goto (tgt := 17) hx hb dX9_lettersOn_13 (by decide) ?_
      have ho := Option.some.inj hf
      rw [← hQ, ← ho]
      exact g_retI F hr hlk dX9_lettersOn_17
set_option maxHeartbeats 4000000 in
set_option maxRecDepth 100000 in
theorem c_X9_nextOn {l : Launch} {E : gEnv} (h : Nat → Nat) (a0 : Int32) {o : Int32} (hf : f_X9_nextOn a0 = some o) : gR l yX9_nextOn cX9_nextOn 2 (some .int) rX9_nextOn E [.int a0] [] (some (.int o)) := by
  refine gR.of (by decide +kernel) (Nat.le_of_ble_eq_true rfl) ?_
  intro p e s m below meth c F hr hlk hK hX hP ls hl
  have F : gF p m c cX9_nextOn 2 s ([.int a0] : List Value).toArray RX9 := F
  generalize ([.int a0] : List Value).toArray = args at F ⊢
  generalize hQ : MQ below _ _ _ _ _ _ = Q
  have hl : lv_has ls 2 [(0, .int a0)] := hl
  have hx := F.1
  have hb := F.2.1
  unfold f_X9_nextOn at hf
  refine lv_iload_n hx hb dX9_nextOn_0 rfl (lv_at hl 0 rfl) ?_
  obtain ⟨x1, hx1, hf⟩ := g_bnd hf
  refine g_rs (As := [.int a0]) (rest := []) F hK hX hP [] rfl (c_X9_keyOf h a0 hx1) (kX9_32 F.2.2.2.2 ⟨Nat.le_of_ble_eq_true rfl, Nat.le_of_ble_eq_true rfl⟩) rfl hl.1 rfl (lv_room (Nat.le_of_ble_eq_true rfl)) ⟨Nat.zero_le _, Nat.zero_le _⟩ dX9_nextOn_1 ?_
  refine lv_istore_n (lv' := [(1, .int x1), (0, .int a0)]) hx hb dX9_nextOn_4 rfl hl (by decide) rfl (fun ls hl => ?_)
  refine lv_iload_n hx hb dX9_nextOn_5 rfl (lv_at hl 0 rfl) ?_
  obtain ⟨x2, hx2, hf⟩ := g_bnd hf
  refine g_rs (As := [.int x1]) (rest := []) F hK hX hP [] rfl (c_X9_firstOf h x1 hx2) (kX9_36 F.2.2.2.2 ⟨Nat.le_of_ble_eq_true rfl, Nat.le_of_ble_eq_true rfl⟩) rfl hl.1 rfl (lv_room (Nat.le_of_ble_eq_true rfl)) ⟨Nat.zero_le _, Nat.zero_le _⟩ dX9_nextOn_6 ?_
  refine lv_iload_n hx hb dX9_nextOn_9 rfl (lv_at hl 1 rfl) ?_
  refine lv_iload_n hx hb dX9_nextOn_10 rfl (lv_at hl 0 rfl) ?_
  obtain ⟨x3, hx3, hf⟩ := g_bnd hf
  refine g_rs (As := [.int x1]) (rest := [.int a0, .int x2]) F hK hX hP [] rfl (c_X9_firstOf h x1 hx3) (kX9_36 F.2.2.2.2 ⟨Nat.le_of_ble_eq_true rfl, Nat.le_of_ble_eq_true rfl⟩) rfl hl.1 rfl (lv_room (Nat.le_of_ble_eq_true rfl)) ⟨Nat.zero_le _, Nat.zero_le _⟩ dX9_nextOn_11 ?_
  refine lv_isub hx hb dX9_nextOn_14 ?_
  refine lv_iconst (v := 1) hx hb dX9_nextOn_15 (by decide) ?_
  refine lv_iadd hx hb dX9_nextOn_16 ?_
  refine lv_iload_n hx hb dX9_nextOn_17 rfl (lv_at hl 0 rfl) ?_
  obtain ⟨x4, hx4, hf⟩ := g_bnd hf
  refine g_rs (As := [.int x1]) (rest := [.int ((a0 - x3) + 1), .int x2]) F hK hX hP [] rfl (c_X9_lettersOn h x1 hx4) (kX9_39 F.2.2.2.2 ⟨Nat.le_of_ble_eq_true rfl, Nat.le_of_ble_eq_true rfl⟩) rfl hl.1 rfl (lv_room (Nat.le_of_ble_eq_true rfl)) ⟨Nat.zero_le _, Nat.zero_le _⟩ dX9_nextOn_18 ?_
  obtain ⟨u5, hu5, hf⟩ := g_bnd hf
  refine lv_irem hx hb dX9_nextOn_21 (nz_ne hu5) ?_
  refine lv_iadd hx hb dX9_nextOn_22 ?_
  have ho := Option.some.inj hf
  rw [← hQ, ← ho]
  exact g_retI F hr hlk dX9_nextOn_23
set_option maxHeartbeats 4000000 in
set_option maxRecDepth 100000 in
theorem c_X9_at {l : Launch} {E : gEnv} (h : Nat → Nat) (a0 : Int32) (a1 : Int32) {o : Int32} (hf : f_X9_at a0 a1 = some o) : gR l yX9_at cX9_at 2 (some .int) rX9_at E [.int a0, .int a1] [] (some (.int o)) := by
  refine gR.of (by decide +kernel) (Nat.le_of_ble_eq_true rfl) ?_
  intro p e s m below meth c F hr hlk hK hX hP ls hl
  have F : gF p m c cX9_at 2 s ([.int a0, .int a1] : List Value).toArray RX9 := F
  generalize ([.int a0, .int a1] : List Value).toArray = args at F ⊢
  generalize hQ : MQ below _ _ _ _ _ _ = Q
  have hl : lv_has ls 2 [(0, .int a0), (1, .int a1)] := hl
  have hx := F.1
  have hb := F.2.1
  unfold f_X9_at at hf
  refine lv_bipush (v := 20) hx hb dX9_at_0 (by decide) ?_
  refine lv_bipush (v := 14) hx hb dX9_at_2 (by decide) ?_
  refine lv_iload_n hx hb dX9_at_4 rfl (lv_at hl 0 rfl) ?_
  refine lv_imul hx hb dX9_at_5 ?_
  refine lv_iadd hx hb dX9_at_6 ?_
  refine lv_iload_n hx hb dX9_at_7 rfl (lv_at hl 1 rfl) ?_
  refine lv_iadd hx hb dX9_at_8 ?_
  have ho := Option.some.inj hf
  rw [← hQ, ← ho]
  exact g_retI F hr hlk dX9_at_9
set_option maxHeartbeats 4000000 in
set_option maxRecDepth 100000 in
theorem c_X9_of {l : Launch} {E : gEnv} (h : Nat → Nat) (b0 : Nat) (w0 : T9) (a1 : Int32) (a2 : Int32) {o : Int32} (hf : f_X9_of w0 a1 a2 = some o) : gR l yX9_of cX9_of 3 (some .int) rX9_of E [.ref (h b0), .int a1, .int a2] [C9 E h b0 w0] (some (.int o)) := by
  refine gR.of (by decide +kernel) (Nat.le_of_ble_eq_true rfl) ?_
  intro p e s m below meth c F hr hlk hK hX hP ls hl
  have F : gF p m c cX9_of 3 s ([.ref (h b0), .int a1, .int a2] : List Value).toArray RX9 := F
  generalize ([.ref (h b0), .int a1, .int a2] : List Value).toArray = args at F ⊢
  generalize hQ : MQ below _ _ _ _ _ _ = Q
  have hl : lv_has ls 3 [(0, .ref (h b0)), (1, .int a1), (2, .int a2)] := hl
  have hx := F.1
  have hb := F.2.1
  unfold f_X9_of at hf
  refine lv_aload_n hx hb dX9_of_0 rfl (lv_at hl 0 rfl) ?_
  refine g_get F hK hP 0 0 0 flX9_7 rfl rfl rfl dX9_of_1 ?_
  refine lv_iload_n hx hb dX9_of_4 rfl (lv_at hl 1 rfl) ?_
  refine lv_iload_n hx hb dX9_of_5 rfl (lv_at hl 2 rfl) ?_
  obtain ⟨x1, hx1, hf⟩ := g_bnd hf
  refine g_rs (As := [.int a1, .int a2]) (rest := [.ref (h (b0+1))]) F hK hX hP [] rfl (c_X9_at h a1 a2 hx1) (kX9_42 F.2.2.2.2 ⟨Nat.le_of_ble_eq_true rfl, Nat.le_of_ble_eq_true rfl⟩) rfl hl.1 rfl (lv_room (Nat.le_of_ble_eq_true rfl)) ⟨Nat.zero_le _, Nat.zero_le _⟩ dX9_of_6 ?_
  obtain ⟨x2, hx2, hf⟩ := g_bnd hf
  refine g_iald F hK hP 0 1 rfl rfl hx2 dX9_of_9 ?_
  have ho := Option.some.inj hf
  rw [← hQ, ← ho]
  exact g_retI F hr hlk dX9_of_10
set_option maxHeartbeats 4000000 in
set_option maxRecDepth 100000 in
theorem c_X9_letterOf {l : Launch} {E : gEnv} (h : Nat → Nat) (b0 : Nat) (w0 : T9) (a1 : Int32) (a2 : Int32) {o : Int32} (hf : f_X9_letterOf w0 a1 a2 = some o) : gR l yX9_letterOf cX9_letterOf 3 (some .int) rX9_letterOf E [.ref (h b0), .int a1, .int a2] [C9 E h b0 w0] (some (.int o)) := by
  refine gR.of (by decide +kernel) (Nat.le_of_ble_eq_true rfl) ?_
  intro p e s m below meth c F hr hlk hK hX hP ls hl
  have F : gF p m c cX9_letterOf 3 s ([.ref (h b0), .int a1, .int a2] : List Value).toArray RX9 := F
  generalize ([.ref (h b0), .int a1, .int a2] : List Value).toArray = args at F ⊢
  generalize hQ : MQ below _ _ _ _ _ _ = Q
  have hl : lv_has ls 3 [(0, .ref (h b0)), (1, .int a1), (2, .int a2)] := hl
  have hx := F.1
  have hb := F.2.1
  unfold f_X9_letterOf at hf
  refine lv_aload_n hx hb dX9_letterOf_0 rfl (lv_at hl 0 rfl) ?_
  refine g_get F hK hP 0 0 0 flX9_7 rfl rfl rfl dX9_letterOf_1 ?_
  refine lv_iload_n hx hb dX9_letterOf_4 rfl (lv_at hl 1 rfl) ?_
  refine lv_iconst (v := 4) hx hb dX9_letterOf_5 (by decide) ?_
  refine lv_iload_n hx hb dX9_letterOf_6 rfl (lv_at hl 2 rfl) ?_
  refine lv_iadd hx hb dX9_letterOf_7 ?_
  obtain ⟨x1, hx1, hf⟩ := g_bnd hf
  refine g_rs (As := [.int a1, .int (4 + a2)]) (rest := [.ref (h (b0+1))]) F hK hX hP [] rfl (c_X9_at h a1 (4 + a2) hx1) (kX9_42 F.2.2.2.2 ⟨Nat.le_of_ble_eq_true rfl, Nat.le_of_ble_eq_true rfl⟩) rfl hl.1 rfl (lv_room (Nat.le_of_ble_eq_true rfl)) ⟨Nat.zero_le _, Nat.zero_le _⟩ dX9_letterOf_8 ?_
  obtain ⟨x2, hx2, hf⟩ := g_bnd hf
  refine g_iald F hK hP 0 1 rfl rfl hx2 dX9_letterOf_11 ?_
  have ho := Option.some.inj hf
  rw [← hQ, ← ho]
  exact g_retI F hr hlk dX9_letterOf_12
set_option maxHeartbeats 4000000 in
set_option maxRecDepth 100000 in
theorem c_X9_isWord {l : Launch} {E : gEnv} (h : Nat → Nat) (b0 : Nat) (w0 : T9) (a1 : Int32) {o : Int32} (hf : f_X9_isWord w0 a1 = some o) : gR l yX9_isWord cX9_isWord 2 (some .boolean) rX9_isWord E [.ref (h b0), .int a1] [C9 E h b0 w0] (some (.int o)) := by
  refine gR.of (by decide +kernel) (Nat.le_of_ble_eq_true rfl) ?_
  intro p e s m below meth c F hr hlk hK hX hP ls hl
  have F : gF p m c cX9_isWord 2 s ([.ref (h b0), .int a1] : List Value).toArray RX9 := F
  generalize ([.ref (h b0), .int a1] : List Value).toArray = args at F ⊢
  generalize hQ : MQ below _ _ _ _ _ _ = Q
  have hl : lv_has ls 2 [(0, .ref (h b0)), (1, .int a1)] := hl
  have hx := F.1
  have hb := F.2.1
  unfold f_X9_isWord at hf
  refine lv_iload_n hx hb dX9_isWord_0 rfl (lv_at hl 1 rfl) ?_
  refine lv_i2l hx hb dX9_isWord_1 rfl ?_
  refine lv_lconst (v := 0) hx hb dX9_isWord_2 rfl ?_
  refine lv_aload_n hx hb dX9_isWord_3 rfl (lv_at hl 0 rfl) ?_
  refine g_get F hK hP 0 0 0 flX9_7 rfl rfl rfl dX9_isWord_4 ?_
  refine lv_iconst (v := 0) hx hb dX9_isWord_7 (by decide) ?_
  obtain ⟨x1, hx1, hf⟩ := g_bnd hf
  refine g_iald F hK hP 0 1 rfl rfl hx1 dX9_isWord_8 ?_
  refine lv_i2l hx hb dX9_isWord_9 rfl ?_
  refine lv_lconst (v := 1) hx hb dX9_isWord_10 rfl ?_
  refine lv_lsub hx hb dX9_isWord_11 ?_
  obtain ⟨x2, hx2, hf⟩ := g_bnd hf
  refine g_rs (As := [.long a1.toInt64, .long 0, .long (x1.toInt64 - 1)]) (rest := []) F hK hX hP [] rfl (c_X9_in h a1.toInt64 0 (x1.toInt64 - 1) hx2) (kX9_46 F.2.2.2.2 ⟨Nat.le_of_ble_eq_true rfl, Nat.le_of_ble_eq_true rfl⟩) rfl hl.1 rfl (lv_room (Nat.le_of_ble_eq_true rfl)) ⟨Nat.zero_le _, Nat.zero_le _⟩ dX9_isWord_12 ?_
  obtain ⟨u3, hu3, hf⟩ := g_bnd hf
  have ho := Option.some.inj hf
  rw [← hQ, ← ho]
  exact g_retZ F hr hlk (bz_nar hu3) dX9_isWord_15
set_option maxHeartbeats 4000000 in
set_option maxRecDepth 100000 in
theorem c_X9_compares {l : Launch} {E : gEnv} (h : Nat → Nat) (b0 : Nat) (w0 : T9) (a1 : Int32) (a2 : Int32) {o : Int32} (hf : f_X9_compares w0 a1 a2 = some o) : gR l yX9_compares cX9_compares 4 (some .int) rX9_compares E [.ref (h b0), .int a1, .int a2] [C9 E h b0 w0] (some (.int o)) := by
  refine gR.of (by decide +kernel) (Nat.le_of_ble_eq_true rfl) ?_
  intro p e s m below meth c F hr hlk hK hX hP ls hl
  have F : gF p m c cX9_compares 4 s ([.ref (h b0), .int a1, .int a2] : List Value).toArray RX9 := F
  generalize ([.ref (h b0), .int a1, .int a2] : List Value).toArray = args at F ⊢
  generalize hQ : MQ below _ _ _ _ _ _ = Q
  have hl : lv_has ls 4 [(0, .ref (h b0)), (1, .int a1), (2, .int a2)] := hl
  have hx := F.1
  have hb := F.2.1
  unfold f_X9_compares at hf
  refine lv_iconst (v := 0) hx hb dX9_compares_0 (by decide) ?_
  refine lv_istore_n (lv' := [(3, .int 0), (0, .ref (h b0)), (1, .int a1), (2, .int a2)]) hx hb dX9_compares_1 rfl hl (by decide) rfl (fun ls hl => ?_)
  obtain ⟨x2, hx2, hfx2⟩ := g_bnd hf
  have hEx2 : ∀ z12, x2 = Sum.inr z12 → ∀ ls : Array Slot, lv_has ls 4 [(0, .ref (h b0)), (1, .int a1), (2, .int a2)] → W p l e rX9_compares s m args below meth c s.heap [] 0 0 Q (F0 m 57 ls []) := by
    intro z12 ez12
    intro ls hl
    subst ez12
    have hf := hfx2
    simp only [Sum.elim_inr] at hf
    refine lv_aload_n hx hb dX9_compares_57 rfl (lv_at hl 0 rfl) ?_
    refine lv_iload_n hx hb dX9_compares_58 rfl (lv_at hl 1 rfl) ?_
    refine lv_iconst (v := 0) hx hb dX9_compares_59 (by decide) ?_
    obtain ⟨x13, hx13, hf⟩ := g_bnd hf
    refine g_rv (As := [.int a1, .int 0]) (rest := []) F hK hX hP [0] rfl (c_X9_of h b0 w0 a1 0 hx13) (kX9_50 F.2.2.2.2 ⟨Nat.le_of_ble_eq_true rfl, Nat.le_of_ble_eq_true rfl⟩) rfl rfl rfl rfl hl.1 rfl (lv_room (Nat.le_of_ble_eq_true rfl)) ⟨Nat.zero_le _, Nat.zero_le _⟩ dX9_compares_60 ?_
    refine lv_aload_n hx hb dX9_compares_63 rfl (lv_at hl 0 rfl) ?_
    refine lv_iload_n hx hb dX9_compares_64 rfl (lv_at hl 2 rfl) ?_
    refine lv_iconst (v := 0) hx hb dX9_compares_65 (by decide) ?_
    obtain ⟨x14, hx14, hf⟩ := g_bnd hf
    refine g_rv (As := [.int a2, .int 0]) (rest := [.int x13]) F hK hX hP [0] rfl (c_X9_of h b0 w0 a2 0 hx14) (kX9_50 F.2.2.2.2 ⟨Nat.le_of_ble_eq_true rfl, Nat.le_of_ble_eq_true rfl⟩) rfl rfl rfl rfl hl.1 rfl (lv_room (Nat.le_of_ble_eq_true rfl)) ⟨Nat.zero_le _, Nat.zero_le _⟩ dX9_compares_66 ?_
    refine lv_isub hx hb dX9_compares_69 ?_
    have ho := Option.some.inj hf
    rw [← hQ, ← ho]
    exact g_retI F hr hlk dX9_compares_70
  refine lp_rule (fun (v1 : Int32) => ∀ ls : Array Slot, lv_has ls 4 [(0, .ref (h b0)), (1, .int a1), (2, .int a2), (3, .int v1)] → W p l e rX9_compares s m args below meth c s.heap [] 0 0 Q (F0 m 2 ls [])) ?_ _ _ hx2 ls (lv_sub hl [1, 2, 3, 0] rfl)
  intro v1 y hf hbackv1 hexitv1 ls hl
  refine lv_iload_n hx hb dX9_compares_2 rfl (lv_at hl 3 rfl) ?_
  refine lv_aload_n hx hb dX9_compares_3 rfl (lv_at hl 0 rfl) ?_
  refine lv_iload_n hx hb dX9_compares_4 rfl (lv_at hl 1 rfl) ?_
  refine lv_iconst (v := 0) hx hb dX9_compares_5 (by decide) ?_
  obtain ⟨x3, hx3, hf⟩ := g_bnd hf
  refine g_rv (As := [.int a1, .int 0]) (rest := [.int v1]) F hK hX hP [0] rfl (c_X9_of h b0 w0 a1 0 hx3) (kX9_50 F.2.2.2.2 ⟨Nat.le_of_ble_eq_true rfl, Nat.le_of_ble_eq_true rfl⟩) rfl rfl rfl rfl hl.1 rfl (lv_room (Nat.le_of_ble_eq_true rfl)) ⟨Nat.zero_le _, Nat.zero_le _⟩ dX9_compares_6 ?_
  refine lv_icmp_ge (tgt := 57) hx hb dX9_compares_9 (by decide) (fun c4 => ?_) (fun c4 => ?_)
  · have hf := g_it c4 hf
    exact hEx2 _ (hexitv1 _ (Option.some.inj hf).symm).symm ls (lv_sub hl [0, 1, 2] rfl)
  · have hf := g_if c4 hf
    refine lv_iload_n hx hb dX9_compares_12 rfl (lv_at hl 3 rfl) ?_
    refine lv_aload_n hx hb dX9_compares_13 rfl (lv_at hl 0 rfl) ?_
    refine lv_iload_n hx hb dX9_compares_14 rfl (lv_at hl 2 rfl) ?_
    refine lv_iconst (v := 0) hx hb dX9_compares_15 (by decide) ?_
    obtain ⟨x5, hx5, hf⟩ := g_bnd hf
    refine g_rv (As := [.int a2, .int 0]) (rest := [.int v1]) F hK hX hP [0] rfl (c_X9_of h b0 w0 a2 0 hx5) (kX9_50 F.2.2.2.2 ⟨Nat.le_of_ble_eq_true rfl, Nat.le_of_ble_eq_true rfl⟩) rfl rfl rfl rfl hl.1 rfl (lv_room (Nat.le_of_ble_eq_true rfl)) ⟨Nat.zero_le _, Nat.zero_le _⟩ dX9_compares_16 ?_
    refine lv_icmp_ge (tgt := 57) hx hb dX9_compares_19 (by decide) (fun c6 => ?_) (fun c6 => ?_)
    · have hf := g_it c6 hf
      exact hEx2 _ (hexitv1 _ (Option.some.inj hf).symm).symm ls (lv_sub hl [0, 1, 2] rfl)
    · have hf := g_if c6 hf
      refine lv_aload_n hx hb dX9_compares_22 rfl (lv_at hl 0 rfl) ?_
      refine lv_iload_n hx hb dX9_compares_23 rfl (lv_at hl 1 rfl) ?_
      refine lv_iload_n hx hb dX9_compares_24 rfl (lv_at hl 3 rfl) ?_
      obtain ⟨x7, hx7, hf⟩ := g_bnd hf
      refine g_rv (As := [.int a1, .int v1]) (rest := []) F hK hX hP [0] rfl (c_X9_letterOf h b0 w0 a1 v1 hx7) (kX9_53 F.2.2.2.2 ⟨Nat.le_of_ble_eq_true rfl, Nat.le_of_ble_eq_true rfl⟩) rfl rfl rfl rfl hl.1 rfl (lv_room (Nat.le_of_ble_eq_true rfl)) ⟨Nat.zero_le _, Nat.zero_le _⟩ dX9_compares_25 ?_
      refine lv_aload_n hx hb dX9_compares_28 rfl (lv_at hl 0 rfl) ?_
      refine lv_iload_n hx hb dX9_compares_29 rfl (lv_at hl 2 rfl) ?_
      refine lv_iload_n hx hb dX9_compares_30 rfl (lv_at hl 3 rfl) ?_
      obtain ⟨x8, hx8, hf⟩ := g_bnd hf
      refine g_rv (As := [.int a2, .int v1]) (rest := [.int x7]) F hK hX hP [0] rfl (c_X9_letterOf h b0 w0 a2 v1 hx8) (kX9_53 F.2.2.2.2 ⟨Nat.le_of_ble_eq_true rfl, Nat.le_of_ble_eq_true rfl⟩) rfl rfl rfl rfl hl.1 rfl (lv_room (Nat.le_of_ble_eq_true rfl)) ⟨Nat.zero_le _, Nat.zero_le _⟩ dX9_compares_31 ?_
      refine lv_icmp_eq (tgt := 51) hx hb dX9_compares_34 (by decide) (fun c9 => ?_) (fun c9 => ?_)
      · have hf := g_it c9 hf
        refine lv_iinc (v := (v1 + 1)) (lv' := [(3, .int (v1 + 1)), (0, .ref (h b0)), (1, .int a1), (2, .int a2)]) hx hb dX9_compares_51 hl (k := 3) rfl rfl (by decide) rfl (fun ls hl => ?_)
        refine lv_goto (tgt := 2) hx hb dX9_compares_54 (by decide) ?_
        exact hbackv1 _ (Option.some.inj hf).symm ls (lv_sub hl [1, 2, 3, 0] rfl)
      · have hf := g_if c9 hf
        refine lv_aload_n hx hb dX9_compares_37 rfl (lv_at hl 0 rfl) ?_
        refine lv_iload_n hx hb dX9_compares_38 rfl (lv_at hl 1 rfl) ?_
        refine lv_iload_n hx hb dX9_compares_39 rfl (lv_at hl 3 rfl) ?_
        obtain ⟨x10, hx10, hf⟩ := g_bnd hf
        refine g_rv (As := [.int a1, .int v1]) (rest := []) F hK hX hP [0] rfl (c_X9_letterOf h b0 w0 a1 v1 hx10) (kX9_53 F.2.2.2.2 ⟨Nat.le_of_ble_eq_true rfl, Nat.le_of_ble_eq_true rfl⟩) rfl rfl rfl rfl hl.1 rfl (lv_room (Nat.le_of_ble_eq_true rfl)) ⟨Nat.zero_le _, Nat.zero_le _⟩ dX9_compares_40 ?_
        refine lv_aload_n hx hb dX9_compares_43 rfl (lv_at hl 0 rfl) ?_
        refine lv_iload_n hx hb dX9_compares_44 rfl (lv_at hl 2 rfl) ?_
        refine lv_iload_n hx hb dX9_compares_45 rfl (lv_at hl 3 rfl) ?_
        obtain ⟨x11, hx11, hf⟩ := g_bnd hf
        refine g_rv (As := [.int a2, .int v1]) (rest := [.int x10]) F hK hX hP [0] rfl (c_X9_letterOf h b0 w0 a2 v1 hx11) (kX9_53 F.2.2.2.2 ⟨Nat.le_of_ble_eq_true rfl, Nat.le_of_ble_eq_true rfl⟩) rfl rfl rfl rfl hl.1 rfl (lv_room (Nat.le_of_ble_eq_true rfl)) ⟨Nat.zero_le _, Nat.zero_le _⟩ dX9_compares_46 ?_
        refine lv_isub hx hb dX9_compares_49 ?_
        have hs := hexitv1 _ (Option.some.inj hf).symm
        subst hs
        have hf := hfx2
        simp only [Sum.elim_inl] at hf
        have ho := Option.some.inj hf
        rw [← hQ, ← ho]
        exact g_retI F hr hlk dX9_compares_50
set_option maxHeartbeats 4000000 in
set_option maxRecDepth 100000 in
theorem c_X9_isAhead {l : Launch} {E : gEnv} (h : Nat → Nat) (b0 : Nat) (w0 : T9) (a1 : Int32) (a2 : Int32) {o : Int32} (hf : f_X9_isAhead w0 a1 a2 = some o) : gR l yX9_isAhead cX9_isAhead 3 (some .boolean) rX9_isAhead E [.ref (h b0), .int a1, .int a2] [C9 E h b0 w0] (some (.int o)) := by
  refine gR.of (by decide +kernel) (Nat.le_of_ble_eq_true rfl) ?_
  intro p e s m below meth c F hr hlk hK hX hP ls hl
  have F : gF p m c cX9_isAhead 3 s ([.ref (h b0), .int a1, .int a2] : List Value).toArray RX9 := F
  generalize ([.ref (h b0), .int a1, .int a2] : List Value).toArray = args at F ⊢
  generalize hQ : MQ below _ _ _ _ _ _ = Q
  have hl : lv_has ls 3 [(0, .ref (h b0)), (1, .int a1), (2, .int a2)] := hl
  have hx := F.1
  have hb := F.2.1
  unfold f_X9_isAhead at hf
  refine lv_aload_n hx hb dX9_isAhead_0 rfl (lv_at hl 0 rfl) ?_
  refine lv_iload_n hx hb dX9_isAhead_1 rfl (lv_at hl 1 rfl) ?_
  refine lv_iconst (v := 1) hx hb dX9_isAhead_2 (by decide) ?_
  obtain ⟨x1, hx1, hf⟩ := g_bnd hf
  refine g_rv (As := [.int a1, .int 1]) (rest := []) F hK hX hP [0] rfl (c_X9_of h b0 w0 a1 1 hx1) (kX9_50 F.2.2.2.2 ⟨Nat.le_of_ble_eq_true rfl, Nat.le_of_ble_eq_true rfl⟩) rfl rfl rfl rfl hl.1 rfl (lv_room (Nat.le_of_ble_eq_true rfl)) ⟨Nat.zero_le _, Nat.zero_le _⟩ dX9_isAhead_3 ?_
  refine lv_aload_n hx hb dX9_isAhead_6 rfl (lv_at hl 0 rfl) ?_
  refine lv_iload_n hx hb dX9_isAhead_7 rfl (lv_at hl 2 rfl) ?_
  refine lv_iconst (v := 1) hx hb dX9_isAhead_8 (by decide) ?_
  obtain ⟨x2, hx2, hf⟩ := g_bnd hf
  refine g_rv (As := [.int a2, .int 1]) (rest := [.int x1]) F hK hX hP [0] rfl (c_X9_of h b0 w0 a2 1 hx2) (kX9_50 F.2.2.2.2 ⟨Nat.le_of_ble_eq_true rfl, Nat.le_of_ble_eq_true rfl⟩) rfl rfl rfl rfl hl.1 rfl (lv_room (Nat.le_of_ble_eq_true rfl)) ⟨Nat.zero_le _, Nat.zero_le _⟩ dX9_isAhead_9 ?_
  refine lv_icmp_eq (tgt := 36) hx hb dX9_isAhead_12 (by decide) (fun c3 => ?_) (fun c3 => ?_)
  · have hf := g_it c3 hf
    refine lv_aload_n hx hb dX9_isAhead_36 rfl (lv_at hl 0 rfl) ?_
    refine lv_iload_n hx hb dX9_isAhead_37 rfl (lv_at hl 1 rfl) ?_
    refine lv_iconst (v := 2) hx hb dX9_isAhead_38 (by decide) ?_
    obtain ⟨x4, hx4, hf⟩ := g_bnd hf
    refine g_rv (As := [.int a1, .int 2]) (rest := []) F hK hX hP [0] rfl (c_X9_of h b0 w0 a1 2 hx4) (kX9_50 F.2.2.2.2 ⟨Nat.le_of_ble_eq_true rfl, Nat.le_of_ble_eq_true rfl⟩) rfl rfl rfl rfl hl.1 rfl (lv_room (Nat.le_of_ble_eq_true rfl)) ⟨Nat.zero_le _, Nat.zero_le _⟩ dX9_isAhead_39 ?_
    refine lv_aload_n hx hb dX9_isAhead_42 rfl (lv_at hl 0 rfl) ?_
    refine lv_iload_n hx hb dX9_isAhead_43 rfl (lv_at hl 2 rfl) ?_
    refine lv_iconst (v := 2) hx hb dX9_isAhead_44 (by decide) ?_
    obtain ⟨x5, hx5, hf⟩ := g_bnd hf
    refine g_rv (As := [.int a2, .int 2]) (rest := [.int x4]) F hK hX hP [0] rfl (c_X9_of h b0 w0 a2 2 hx5) (kX9_50 F.2.2.2.2 ⟨Nat.le_of_ble_eq_true rfl, Nat.le_of_ble_eq_true rfl⟩) rfl rfl rfl rfl hl.1 rfl (lv_room (Nat.le_of_ble_eq_true rfl)) ⟨Nat.zero_le _, Nat.zero_le _⟩ dX9_isAhead_45 ?_
    refine lv_icmp_eq (tgt := 74) hx hb dX9_isAhead_48 (by decide) (fun c6 => ?_) (fun c6 => ?_)
    · have hf := g_it c6 hf
      refine lv_aload_n hx hb dX9_isAhead_74 rfl (lv_at hl 0 rfl) ?_
      refine lv_iload_n hx hb dX9_isAhead_75 rfl (lv_at hl 1 rfl) ?_
      refine lv_iload_n hx hb dX9_isAhead_76 rfl (lv_at hl 2 rfl) ?_
      obtain ⟨x7, hx7, hf⟩ := g_bnd hf
      refine g_rv (As := [.int a1, .int a2]) (rest := []) F hK hX hP [0] rfl (c_X9_compares h b0 w0 a1 a2 hx7) (kX9_56 F.2.2.2.2 ⟨Nat.le_of_ble_eq_true rfl, Nat.le_of_ble_eq_true rfl⟩) rfl rfl rfl rfl hl.1 rfl (lv_room (Nat.le_of_ble_eq_true rfl)) ⟨Nat.zero_le _, Nat.zero_le _⟩ dX9_isAhead_77 ?_
      refine lv_if_ge (tgt := 87) hx hb dX9_isAhead_80 (by decide) (fun c8 => ?_) (fun c8 => ?_)
      · have hf := g_it c8 hf
        refine lv_iconst (v := 0) hx hb dX9_isAhead_87 (by decide) ?_
        have ho := Option.some.inj hf
        rw [← hQ, ← ho]
        exact g_retZ F hr hlk narrow_b0 dX9_isAhead_88
      · have hf := g_if c8 hf
        refine lv_iconst (v := 1) hx hb dX9_isAhead_83 (by decide) ?_
        refine lv_goto (tgt := 88) hx hb dX9_isAhead_84 (by decide) ?_
        have ho := Option.some.inj hf
        rw [← hQ, ← ho]
        exact g_retZ F hr hlk narrow_b1 dX9_isAhead_88
    · have hf := g_if c6 hf
      refine lv_aload_n hx hb dX9_isAhead_51 rfl (lv_at hl 0 rfl) ?_
      refine lv_iload_n hx hb dX9_isAhead_52 rfl (lv_at hl 1 rfl) ?_
      refine lv_iconst (v := 2) hx hb dX9_isAhead_53 (by decide) ?_
      obtain ⟨x9, hx9, hf⟩ := g_bnd hf
      refine g_rv (As := [.int a1, .int 2]) (rest := []) F hK hX hP [0] rfl (c_X9_of h b0 w0 a1 2 hx9) (kX9_50 F.2.2.2.2 ⟨Nat.le_of_ble_eq_true rfl, Nat.le_of_ble_eq_true rfl⟩) rfl rfl rfl rfl hl.1 rfl (lv_room (Nat.le_of_ble_eq_true rfl)) ⟨Nat.zero_le _, Nat.zero_le _⟩ dX9_isAhead_54 ?_
      refine lv_aload_n hx hb dX9_isAhead_57 rfl (lv_at hl 0 rfl) ?_
      refine lv_iload_n hx hb dX9_isAhead_58 rfl (lv_at hl 2 rfl) ?_
      refine lv_iconst (v := 2) hx hb dX9_isAhead_59 (by decide) ?_
      obtain ⟨x10, hx10, hf⟩ := g_bnd hf
      refine g_rv (As := [.int a2, .int 2]) (rest := [.int x9]) F hK hX hP [0] rfl (c_X9_of h b0 w0 a2 2 hx10) (kX9_50 F.2.2.2.2 ⟨Nat.le_of_ble_eq_true rfl, Nat.le_of_ble_eq_true rfl⟩) rfl rfl rfl rfl hl.1 rfl (lv_room (Nat.le_of_ble_eq_true rfl)) ⟨Nat.zero_le _, Nat.zero_le _⟩ dX9_isAhead_60 ?_
      refine lv_icmp_le (tgt := 70) hx hb dX9_isAhead_63 (by decide) (fun c11 => ?_) (fun c11 => ?_)
      · have hf := g_it c11 hf
        refine lv_iconst (v := 0) hx hb dX9_isAhead_70 (by decide) ?_
        refine lv_goto (tgt := 88) hx hb dX9_isAhead_71 (by decide) ?_
        have ho := Option.some.inj hf
        rw [← hQ, ← ho]
        exact g_retZ F hr hlk narrow_b0 dX9_isAhead_88
      · have hf := g_if c11 hf
        refine lv_iconst (v := 1) hx hb dX9_isAhead_66 (by decide) ?_
        refine lv_goto (tgt := 88) hx hb dX9_isAhead_67 (by decide) ?_
        have ho := Option.some.inj hf
        rw [← hQ, ← ho]
        exact g_retZ F hr hlk narrow_b1 dX9_isAhead_88
  · have hf := g_if c3 hf
    refine lv_aload_n hx hb dX9_isAhead_15 rfl (lv_at hl 0 rfl) ?_
    refine lv_iload_n hx hb dX9_isAhead_16 rfl (lv_at hl 1 rfl) ?_
    refine lv_iconst (v := 1) hx hb dX9_isAhead_17 (by decide) ?_
    obtain ⟨x12, hx12, hf⟩ := g_bnd hf
    refine g_rv (As := [.int a1, .int 1]) (rest := []) F hK hX hP [0] rfl (c_X9_of h b0 w0 a1 1 hx12) (kX9_50 F.2.2.2.2 ⟨Nat.le_of_ble_eq_true rfl, Nat.le_of_ble_eq_true rfl⟩) rfl rfl rfl rfl hl.1 rfl (lv_room (Nat.le_of_ble_eq_true rfl)) ⟨Nat.zero_le _, Nat.zero_le _⟩ dX9_isAhead_18 ?_
    refine lv_aload_n hx hb dX9_isAhead_21 rfl (lv_at hl 0 rfl) ?_
    refine lv_iload_n hx hb dX9_isAhead_22 rfl (lv_at hl 2 rfl) ?_
    refine lv_iconst (v := 1) hx hb dX9_isAhead_23 (by decide) ?_
    obtain ⟨x13, hx13, hf⟩ := g_bnd hf
    refine g_rv (As := [.int a2, .int 1]) (rest := [.int x12]) F hK hX hP [0] rfl (c_X9_of h b0 w0 a2 1 hx13) (kX9_50 F.2.2.2.2 ⟨Nat.le_of_ble_eq_true rfl, Nat.le_of_ble_eq_true rfl⟩) rfl rfl rfl rfl hl.1 rfl (lv_room (Nat.le_of_ble_eq_true rfl)) ⟨Nat.zero_le _, Nat.zero_le _⟩ dX9_isAhead_24 ?_
    refine lv_icmp_le (tgt := 34) hx hb dX9_isAhead_27 (by decide) (fun c14 => ?_) (fun c14 => ?_)
    · have hf := g_it c14 hf
      refine lv_iconst (v := 0) hx hb dX9_isAhead_34 (by decide) ?_
      have ho := Option.some.inj hf
      rw [← hQ, ← ho]
      exact g_retZ F hr hlk narrow_b0 dX9_isAhead_35
    · have hf := g_if c14 hf
      refine lv_iconst (v := 1) hx hb dX9_isAhead_30 (by decide) ?_
      refine lv_goto (tgt := 35) hx hb dX9_isAhead_31 (by decide) ?_
      have ho := Option.some.inj hf
      rw [← hQ, ← ho]
      exact g_retZ F hr hlk narrow_b1 dX9_isAhead_35
set_option maxHeartbeats 4000000 in
set_option maxRecDepth 100000 in
theorem c_X9_rankOf {l : Launch} {E : gEnv} (h : Nat → Nat) (b0 : Nat) (w0 : T9) (a1 : Int32) {o : Int32} (hf : f_X9_rankOf w0 a1 = some o) : gR l yX9_rankOf cX9_rankOf 4 (some .int) rX9_rankOf E [.ref (h b0), .int a1] [C9 E h b0 w0] (some (.int o)) := by
  refine gR.of (by decide +kernel) (Nat.le_of_ble_eq_true rfl) ?_
  intro p e s m below meth c F hr hlk hK hX hP ls hl
  have F : gF p m c cX9_rankOf 4 s ([.ref (h b0), .int a1] : List Value).toArray RX9 := F
  generalize ([.ref (h b0), .int a1] : List Value).toArray = args at F ⊢
  generalize hQ : MQ below _ _ _ _ _ _ = Q
  have hl : lv_has ls 4 [(0, .ref (h b0)), (1, .int a1)] := hl
  have hx := F.1
  have hb := F.2.1
  unfold f_X9_rankOf at hf
  refine lv_iconst (v := 0) hx hb dX9_rankOf_0 (by decide) ?_
  refine lv_istore_n (lv' := [(2, .int 0), (0, .ref (h b0)), (1, .int a1)]) hx hb dX9_rankOf_1 rfl hl (by decide) rfl (fun ls hl => ?_)
  refine lv_iconst (v := 0) hx hb dX9_rankOf_2 (by decide) ?_
  refine lv_istore_n (lv' := [(3, .int 0), (2, .int 0), (0, .ref (h b0)), (1, .int a1)]) hx hb dX9_rankOf_3 rfl hl (by decide) rfl (fun ls hl => ?_)
  refine lp_rule (fun (v1 : Int32 × Int32) => ∀ ls : Array Slot, lv_has ls 4 [(0, .ref (h b0)), (1, .int a1), (2, .int v1.1), (3, .int v1.2)] → W p l e rX9_rankOf s m args below meth c s.heap [] 0 0 Q (F0 m 4 ls [])) ?_ _ _ hf ls (lv_sub hl [2, 3, 1, 0] rfl)
  intro v1 y hf hbackv1 hexitv1 ls hl
  refine lv_iload_n hx hb dX9_rankOf_4 rfl (lv_at hl 3 rfl) ?_
  refine lv_aload_n hx hb dX9_rankOf_5 rfl (lv_at hl 0 rfl) ?_
  refine g_get F hK hP 0 0 0 flX9_7 rfl rfl rfl dX9_rankOf_6 ?_
  refine lv_iconst (v := 0) hx hb dX9_rankOf_9 (by decide) ?_
  obtain ⟨x3, hx3, hf⟩ := g_bnd hf
  refine g_iald F hK hP 0 1 rfl rfl hx3 dX9_rankOf_10 ?_
  refine lv_icmp_ge (tgt := 42) hx hb dX9_rankOf_11 (by decide) (fun c4 => ?_) (fun c4 => ?_)
  · have hf := g_it c4 hf
    refine lv_iload_n hx hb dX9_rankOf_42 rfl (lv_at hl 2 rfl) ?_
    have ho := hexitv1 _ (Option.some.inj hf).symm
    rw [← hQ, ← ho]
    exact g_retI F hr hlk dX9_rankOf_43
  · have hf := g_if c4 hf
    refine lv_iload_n hx hb dX9_rankOf_14 rfl (lv_at hl 2 rfl) ?_
    refine lv_iload_n hx hb dX9_rankOf_15 rfl (lv_at hl 3 rfl) ?_
    refine lv_iload_n hx hb dX9_rankOf_16 rfl (lv_at hl 1 rfl) ?_
    obtain ⟨j5, hf, hfj5⟩ := g_bnd hf
    have hJj5 : ∀ ls : Array Slot, lv_has ls 4 [(0, .ref (h b0)), (1, .int a1), (3, .int v1.2)] → W p l e rX9_rankOf s m args below meth c s.heap [] 0 0 Q (F0 m 34 ls [.int j5, .int v1.1]) := by
      intro ls hl
      have hf := hfj5
      refine lv_iadd hx hb dX9_rankOf_34 ?_
      refine lv_istore_n (lv' := [(2, .int (v1.1 + j5)), (0, .ref (h b0)), (1, .int a1), (3, .int v1.2)]) hx hb dX9_rankOf_35 rfl hl (by decide) rfl (fun ls hl => ?_)
      refine lv_iinc (v := (v1.2 + 1)) (lv' := [(3, .int (v1.2 + 1)), (2, .int (v1.1 + j5)), (0, .ref (h b0)), (1, .int a1)]) hx hb dX9_rankOf_36 hl (k := 3) rfl rfl (by decide) rfl (fun ls hl => ?_)
      refine lv_goto (tgt := 4) hx hb dX9_rankOf_39 (by decide) ?_
      exact hbackv1 _ (Option.some.inj hf).symm ls (lv_sub hl [2, 3, 1, 0] rfl)
    refine lv_icmp_eq (tgt := 33) hx hb dX9_rankOf_17 (by decide) (fun c6 => ?_) (fun c6 => ?_)
    · have hf := g_it c6 hf
      refine lv_iconst (v := 0) hx hb dX9_rankOf_33 (by decide) ?_
      obtain rfl := Option.some.inj hf
      exact hJj5 ls (lv_sub hl [0, 1, 3] rfl)
    · have hf := g_if c6 hf
      refine lv_aload_n hx hb dX9_rankOf_20 rfl (lv_at hl 0 rfl) ?_
      refine lv_iload_n hx hb dX9_rankOf_21 rfl (lv_at hl 3 rfl) ?_
      refine lv_iload_n hx hb dX9_rankOf_22 rfl (lv_at hl 1 rfl) ?_
      obtain ⟨x7, hx7, hf⟩ := g_bnd hf
      refine g_rv (As := [.int v1.2, .int a1]) (rest := [.int v1.1]) F hK hX hP [0] rfl (c_X9_isAhead h b0 w0 v1.2 a1 hx7) (kX9_59 F.2.2.2.2 ⟨Nat.le_of_ble_eq_true rfl, Nat.le_of_ble_eq_true rfl⟩) rfl rfl rfl rfl hl.1 rfl (lv_room (Nat.le_of_ble_eq_true rfl)) ⟨Nat.zero_le _, Nat.zero_le _⟩ dX9_rankOf_23 ?_
      refine lv_if_eq (tgt := 33) hx hb dX9_rankOf_26 (by decide) (fun c8 => ?_) (fun c8 => ?_)
      · have hf := g_it c8 hf
        refine lv_iconst (v := 0) hx hb dX9_rankOf_33 (by decide) ?_
        obtain rfl := Option.some.inj hf
        exact hJj5 ls (lv_sub hl [0, 1, 3] rfl)
      · have hf := g_if c8 hf
        refine lv_iconst (v := 1) hx hb dX9_rankOf_29 (by decide) ?_
        refine lv_goto (tgt := 34) hx hb dX9_rankOf_30 (by decide) ?_
        obtain rfl := Option.some.inj hf
        exact hJj5 ls (lv_sub hl [0, 1, 3] rfl)
set_option maxHeartbeats 4000000 in
set_option maxRecDepth 100000 in
theorem c_X9_wordValue {l : Launch} {E : gEnv} (h : Nat → Nat) (b0 : Nat) (w0 : T9) (a1 : Int32) (a2 : Int32) {o : Int32} (hf : f_X9_wordValue w0 a1 a2 = some o) : gR l yX9_wordValue cX9_wordValue 3 (some .int) rX9_wordValue E [.ref (h b0), .int a1, .int a2] [C9 E h b0 w0] (some (.int o)) := by
  refine gR.of (by decide +kernel) (Nat.le_of_ble_eq_true rfl) ?_
  intro p e s m below meth c F hr hlk hK hX hP ls hl
  have F : gF p m c cX9_wordValue 3 s ([.ref (h b0), .int a1, .int a2] : List Value).toArray RX9 := F
  generalize ([.ref (h b0), .int a1, .int a2] : List Value).toArray = args at F ⊢
  generalize hQ : MQ below _ _ _ _ _ _ = Q
  have hl : lv_has ls 3 [(0, .ref (h b0)), (1, .int a1), (2, .int a2)] := hl
  have hx := F.1
  have hb := F.2.1
  unfold f_X9_wordValue at hf
  refine lv_iload_n hx hb dX9_wordValue_0 rfl (lv_at hl 2 rfl) ?_
  refine lv_iconst (v := 4) hx hb dX9_wordValue_1 (by decide) ?_
  refine lv_icmp_ne (tgt := 13) hx hb dX9_wordValue_2 (by decide) (fun c1 => ?_) (fun c1 => ?_)
  · have hf := g_if c1 hf
    refine lv_aload_n hx hb dX9_wordValue_13 rfl (lv_at hl 0 rfl) ?_
    refine lv_iload_n hx hb dX9_wordValue_14 rfl (lv_at hl 1 rfl) ?_
    refine lv_iload_n hx hb dX9_wordValue_15 rfl (lv_at hl 2 rfl) ?_
    obtain ⟨x2, hx2, hf⟩ := g_bnd hf
    refine g_rv (As := [.int a1, .int a2]) (rest := []) F hK hX hP [0] rfl (c_X9_of h b0 w0 a1 a2 hx2) (kX9_50 F.2.2.2.2 ⟨Nat.le_of_ble_eq_true rfl, Nat.le_of_ble_eq_true rfl⟩) rfl rfl rfl rfl hl.1 rfl (lv_room (Nat.le_of_ble_eq_true rfl)) ⟨Nat.zero_le _, Nat.zero_le _⟩ dX9_wordValue_16 ?_
    have ho := Option.some.inj hf
    rw [← hQ, ← ho]
    exact g_retI F hr hlk dX9_wordValue_19
  · have hf := g_it c1 hf
    refine lv_aload_n hx hb dX9_wordValue_5 rfl (lv_at hl 0 rfl) ?_
    refine lv_iload_n hx hb dX9_wordValue_6 rfl (lv_at hl 1 rfl) ?_
    obtain ⟨x3, hx3, hf⟩ := g_bnd hf
    refine g_rv (As := [.int a1]) (rest := []) F hK hX hP [0] rfl (c_X9_rankOf h b0 w0 a1 hx3) (kX9_63 F.2.2.2.2 ⟨Nat.le_of_ble_eq_true rfl, Nat.le_of_ble_eq_true rfl⟩) rfl rfl rfl rfl hl.1 rfl (lv_room (Nat.le_of_ble_eq_true rfl)) ⟨Nat.zero_le _, Nat.zero_le _⟩ dX9_wordValue_7 ?_
    refine lv_goto (tgt := 19) hx hb dX9_wordValue_10 (by decide) ?_
    have ho := Option.some.inj hf
    rw [← hQ, ← ho]
    exact g_retI F hr hlk dX9_wordValue_19
set_option maxHeartbeats 4000000 in
set_option maxRecDepth 100000 in
theorem c_X9_word {l : Launch} {E : gEnv} (h : Nat → Nat) (b0 : Nat) (w0 : T9) (a1 : Int32) (a2 : Int32) {o : Int32 × T9} (hf : f_X9_word w0 a1 a2 = some o) : gM l yX9_word cX9_word 3 (some .int) rX9_word E [.ref (h b0), .int a1, .int a2] [C9 E h b0 w0] (some (.int o.1)) [C9 E h b0 o.2] := by
  refine gM.of (by decide +kernel) (Nat.le_of_ble_eq_true rfl) rfl ?_
  intro p e s m below meth c F hr hlk hK hX hAB ls hl H locs hG
  have F : gF p m c cX9_word 3 s ([.ref (h b0), .int a1, .int a2] : List Value).toArray RX9 := F
  generalize ([.ref (h b0), .int a1, .int a2] : List Value).toArray = args at F ⊢
  generalize hQ : MQ below _ _ _ _ _ _ = Q
  generalize hA : gAd [C9 E h b0 w0] = A at hAB hG
  have hl : lv_has ls 3 [(0, .ref (h b0)), (1, .int a1), (2, .int a2)] := hl
  have hx := F.1
  have hb := F.2.1
  unfold f_X9_word at hf
  refine lv_aload_n hx hb dX9_word_0 rfl (lv_at hl 0 rfl) ?_
  refine lv_aload_n hx hb dX9_word_1 rfl (lv_at hl 0 rfl) ?_
  refine lv_iload_n hx hb dX9_word_2 rfl (lv_at hl 1 rfl) ?_
  obtain ⟨x1, hx1, hf⟩ := g_bnd hf
  refine g_rv (As := [.int a1]) (rest := [.ref (h b0)]) F hK (hG.X hX hAB) hG.1 [0] rfl (c_X9_isWord h b0 w0 a1 hx1) (kX9_66 F.2.2.2.2 ⟨Nat.le_of_ble_eq_true rfl, Nat.le_of_ble_eq_true rfl⟩) rfl rfl rfl rfl hl.1 rfl (lv_room (Nat.le_of_ble_eq_true rfl)) ⟨Nat.zero_le _, Nat.zero_le _⟩ dX9_word_3 ?_
  refine lv_iload_n hx hb dX9_word_6 rfl (lv_at hl 2 rfl) ?_
  refine lv_i2l hx hb dX9_word_7 rfl ?_
  refine lv_lconst (v := 0) hx hb dX9_word_8 rfl ?_
  refine lv_ldc2 (v := 4) hx hb F.2.2.2.1 (F.2.2.2.2 _ gw_864) dX9_word_9 ?_
  obtain ⟨x2, hx2, hf⟩ := g_bnd hf
  refine g_rs (As := [.long a2.toInt64, .long 0, .long 4]) (rest := [.int x1, .ref (h b0)]) F hK (hG.X hX hAB) hG.1 [] rfl (c_X9_in h a2.toInt64 0 4 hx2) (kX9_46 F.2.2.2.2 ⟨Nat.le_of_ble_eq_true rfl, Nat.le_of_ble_eq_true rfl⟩) rfl hl.1 rfl (lv_room (Nat.le_of_ble_eq_true rfl)) ⟨Nat.zero_le _, Nat.zero_le _⟩ dX9_word_12 ?_
  obtain ⟨x3, hx3, hf⟩ := g_bnd hf
  refine g_mv (S' := [C9 E h b0 x3.2]) (As := [.int x1, .int x2]) (rest := []) F hK hX hAB hG [0] rfl rfl (c_X9_goes h b0 w0 x1 x2 hx3) rfl (kX9_72 F.2.2.2.2 ⟨Nat.le_of_ble_eq_true rfl, Nat.le_of_ble_eq_true rfl⟩) rfl rfl rfl rfl hl.1 rfl (lv_room (Nat.le_of_ble_eq_true rfl)) ⟨Nat.zero_le _, Nat.zero_le _⟩ dX9_word_15 (fun H locs hG => ?_)
  refine lv_if_eq (tgt := 30) hx hb dX9_word_18 (by decide) (fun c4 => ?_) (fun c4 => ?_)
  · have hf := g_it c4 hf
    refine lv_iconst (v := 0) hx hb dX9_word_30 (by decide) ?_
    have ho := Option.some.inj hf
    subst hA
    rw [← hQ, ← ho]
    exact g_mretI F hr hlk hG dX9_word_31
  · have hf := g_if c4 hf
    refine lv_aload_n hx hb dX9_word_21 rfl (lv_at hl 0 rfl) ?_
    refine lv_iload_n hx hb dX9_word_22 rfl (lv_at hl 1 rfl) ?_
    refine lv_iload_n hx hb dX9_word_23 rfl (lv_at hl 2 rfl) ?_
    obtain ⟨x5, hx5, hf⟩ := g_bnd hf
    refine g_rv (As := [.int a1, .int a2]) (rest := []) F hK (hG.X hX hAB) hG.1 [0] rfl (c_X9_wordValue h b0 x3.2 a1 a2 hx5) (kX9_76 F.2.2.2.2 ⟨Nat.le_of_ble_eq_true rfl, Nat.le_of_ble_eq_true rfl⟩) rfl rfl rfl rfl hl.1 rfl (lv_room (Nat.le_of_ble_eq_true rfl)) ⟨Nat.zero_le _, Nat.zero_le _⟩ dX9_word_24 ?_
    refine lv_goto (tgt := 31) hx hb dX9_word_27 (by decide) ?_
    have ho := Option.some.inj hf
    subst hA
    rw [← hQ, ← ho]
    exact g_mretI F hr hlk hG dX9_word_31
set_option maxHeartbeats 4000000 in
set_option maxRecDepth 100000 in
theorem c_X9_letter {l : Launch} {E : gEnv} (h : Nat → Nat) (b0 : Nat) (w0 : T9) (a1 : Int32) (a2 : Int32) {o : Int32 × T9} (hf : f_X9_letter w0 a1 a2 = some o) : gM l yX9_letter cX9_letter 3 (some .int) rX9_letter E [.ref (h b0), .int a1, .int a2] [C9 E h b0 w0] (some (.int o.1)) [C9 E h b0 o.2] := by
  refine gM.of (by decide +kernel) (Nat.le_of_ble_eq_true rfl) rfl ?_
  intro p e s m below meth c F hr hlk hK hX hAB ls hl H locs hG
  have F : gF p m c cX9_letter 3 s ([.ref (h b0), .int a1, .int a2] : List Value).toArray RX9 := F
  generalize ([.ref (h b0), .int a1, .int a2] : List Value).toArray = args at F ⊢
  generalize hQ : MQ below _ _ _ _ _ _ = Q
  generalize hA : gAd [C9 E h b0 w0] = A at hAB hG
  have hl : lv_has ls 3 [(0, .ref (h b0)), (1, .int a1), (2, .int a2)] := hl
  have hx := F.1
  have hb := F.2.1
  unfold f_X9_letter at hf
  refine lv_aload_n hx hb dX9_letter_0 rfl (lv_at hl 0 rfl) ?_
  refine lv_aload_n hx hb dX9_letter_1 rfl (lv_at hl 0 rfl) ?_
  refine lv_iload_n hx hb dX9_letter_2 rfl (lv_at hl 1 rfl) ?_
  obtain ⟨x1, hx1, hf⟩ := g_bnd hf
  refine g_rv (As := [.int a1]) (rest := [.ref (h b0)]) F hK (hG.X hX hAB) hG.1 [0] rfl (c_X9_isWord h b0 w0 a1 hx1) (kX9_66 F.2.2.2.2 ⟨Nat.le_of_ble_eq_true rfl, Nat.le_of_ble_eq_true rfl⟩) rfl rfl rfl rfl hl.1 rfl (lv_room (Nat.le_of_ble_eq_true rfl)) ⟨Nat.zero_le _, Nat.zero_le _⟩ dX9_letter_3 ?_
  obtain ⟨j2, hf, hfj2⟩ := g_bnd hf
  have hJj2 : ∀ (H : Heap) (locs : List Loc), gS E A s.heap [C9 E h b0 w0] H locs → ∀ ls : Array Slot, lv_has ls 3 [(0, .ref (h b0)), (1, .int a1), (2, .int a2)] → W p l e rX9_letter s m args below meth c H locs 0 0 Q (F0 m 32 ls [.int j2, .ref (h b0)]) := by
    intro H locs hG ls hl
    have hf := hfj2
    refine lv_iconst (v := 1) hx hb dX9_letter_32 (by decide) ?_
    obtain ⟨x7, hx7, hf⟩ := g_bnd hf
    refine g_mv (S' := [C9 E h b0 x7.2]) (As := [.int j2, .int 1]) (rest := []) F hK hX hAB hG [0] rfl rfl (c_X9_goes h b0 w0 j2 1 hx7) rfl (kX9_72 F.2.2.2.2 ⟨Nat.le_of_ble_eq_true rfl, Nat.le_of_ble_eq_true rfl⟩) rfl rfl rfl rfl hl.1 rfl (lv_room (Nat.le_of_ble_eq_true rfl)) ⟨Nat.zero_le _, Nat.zero_le _⟩ dX9_letter_33 (fun H locs hG => ?_)
    refine lv_if_eq (tgt := 48) hx hb dX9_letter_36 (by decide) (fun c8 => ?_) (fun c8 => ?_)
    · have hf := g_it c8 hf
      refine lv_iconst (v := 0) hx hb dX9_letter_48 (by decide) ?_
      have ho := Option.some.inj hf
      subst hA
      rw [← hQ, ← ho]
      exact g_mretI F hr hlk hG dX9_letter_49
    · have hf := g_if c8 hf
      refine lv_aload_n hx hb dX9_letter_39 rfl (lv_at hl 0 rfl) ?_
      refine lv_iload_n hx hb dX9_letter_40 rfl (lv_at hl 1 rfl) ?_
      refine lv_iload_n hx hb dX9_letter_41 rfl (lv_at hl 2 rfl) ?_
      obtain ⟨x9, hx9, hf⟩ := g_bnd hf
      refine g_rv (As := [.int a1, .int a2]) (rest := []) F hK (hG.X hX hAB) hG.1 [0] rfl (c_X9_letterOf h b0 x7.2 a1 a2 hx9) (kX9_53 F.2.2.2.2 ⟨Nat.le_of_ble_eq_true rfl, Nat.le_of_ble_eq_true rfl⟩) rfl rfl rfl rfl hl.1 rfl (lv_room (Nat.le_of_ble_eq_true rfl)) ⟨Nat.zero_le _, Nat.zero_le _⟩ dX9_letter_42 ?_
      refine lv_goto (tgt := 49) hx hb dX9_letter_45 (by decide) ?_
      have ho := Option.some.inj hf
      subst hA
      rw [← hQ, ← ho]
      exact g_mretI F hr hlk hG dX9_letter_49
  refine lv_if_eq (tgt := 31) hx hb dX9_letter_6 (by decide) (fun c3 => ?_) (fun c3 => ?_)
  · have hf := g_it c3 hf
    refine lv_iconst (v := 0) hx hb dX9_letter_31 (by decide) ?_
    obtain rfl := Option.some.inj hf
    exact hJj2 _ _ hG ls (lv_sub hl [0, 1, 2] rfl)
  · have hf := g_if c3 hf
    refine lv_iload_n hx hb dX9_letter_9 rfl (lv_at hl 2 rfl) ?_
    refine lv_i2l hx hb dX9_letter_10 rfl ?_
    refine lv_lconst (v := 0) hx hb dX9_letter_11 rfl ?_
    refine lv_aload_n hx hb dX9_letter_12 rfl (lv_at hl 0 rfl) ?_
    refine lv_iload_n hx hb dX9_letter_13 rfl (lv_at hl 1 rfl) ?_
    refine lv_iconst (v := 0) hx hb dX9_letter_14 (by decide) ?_
    obtain ⟨x4, hx4, hf⟩ := g_bnd hf
    refine g_rv (As := [.int a1, .int 0]) (rest := [.long 0, .long a2.toInt64, .ref (h b0)]) F hK (hG.X hX hAB) hG.1 [0] rfl (c_X9_of h b0 w0 a1 0 hx4) (kX9_50 F.2.2.2.2 ⟨Nat.le_of_ble_eq_true rfl, Nat.le_of_ble_eq_true rfl⟩) rfl rfl rfl rfl hl.1 rfl (lv_room (Nat.le_of_ble_eq_true rfl)) ⟨Nat.zero_le _, Nat.zero_le _⟩ dX9_letter_15 ?_
    refine lv_i2l hx hb dX9_letter_18 rfl ?_
    refine lv_lconst (v := 1) hx hb dX9_letter_19 rfl ?_
    refine lv_lsub hx hb dX9_letter_20 ?_
    obtain ⟨x5, hx5, hf⟩ := g_bnd hf
    refine g_rs (As := [.long a2.toInt64, .long 0, .long (x4.toInt64 - 1)]) (rest := [.ref (h b0)]) F hK (hG.X hX hAB) hG.1 [] rfl (c_X9_in h a2.toInt64 0 (x4.toInt64 - 1) hx5) (kX9_46 F.2.2.2.2 ⟨Nat.le_of_ble_eq_true rfl, Nat.le_of_ble_eq_true rfl⟩) rfl hl.1 rfl (lv_room (Nat.le_of_ble_eq_true rfl)) ⟨Nat.zero_le _, Nat.zero_le _⟩ dX9_letter_21 ?_
    refine lv_if_eq (tgt := 31) hx hb dX9_letter_24 (by decide) (fun c6 => ?_) (fun c6 => ?_)
    · have hf := g_it c6 hf
      refine lv_iconst (v := 0) hx hb dX9_letter_31 (by decide) ?_
      obtain rfl := Option.some.inj hf
      exact hJj2 _ _ hG ls (lv_sub hl [0, 1, 2] rfl)
    · have hf := g_if c6 hf
      refine lv_iconst (v := 1) hx hb dX9_letter_27 (by decide) ?_
      refine lv_goto (tgt := 32) hx hb dX9_letter_28 (by decide) ?_
      obtain rfl := Option.some.inj hf
      exact hJj2 _ _ hG ls (lv_sub hl [0, 1, 2] rfl)
set_option maxHeartbeats 4000000 in
set_option maxRecDepth 100000 in
theorem c_X9_leaves {l : Launch} {E : gEnv} (h : Nat → Nat) (b0 : Nat) (w0 : T9) (a1 : Int32) {o : T9} (hf : f_X9_leaves w0 a1 = some o) : gM l yX9_leaves cX9_leaves 3 none rX9_leaves E [.ref (h b0), .int a1] [C9 E h b0 w0] (none) [C9 E h b0 o] := by
  refine gM.of (by decide +kernel) (Nat.le_of_ble_eq_true rfl) rfl ?_
  intro p e s m below meth c F hr hlk hK hX hAB ls hl H locs hG
  have F : gF p m c cX9_leaves 3 s ([.ref (h b0), .int a1] : List Value).toArray RX9 := F
  generalize ([.ref (h b0), .int a1] : List Value).toArray = args at F ⊢
  generalize hQ : MQ below _ _ _ _ _ _ = Q
  generalize hA : gAd [C9 E h b0 w0] = A at hAB hG
  have hl : lv_has ls 3 [(0, .ref (h b0)), (1, .int a1)] := hl
  have hx := F.1
  have hb := F.2.1
  unfold f_X9_leaves at hf
  refine lv_aload_n hx hb dX9_leaves_0 rfl (lv_at hl 0 rfl) ?_
  refine g_get F hK hG.1 0 0 0 flX9_7 rfl rfl rfl dX9_leaves_1 ?_
  refine lv_iconst (v := 0) hx hb dX9_leaves_4 (by decide) ?_
  refine lv_dup2_11 hx hb dX9_leaves_5 rfl rfl ?_
  obtain ⟨x1, hx1, hf⟩ := g_bnd hf
  refine g_iald F hK hG.1 0 1 rfl rfl hx1 dX9_leaves_6 ?_
  refine lv_iconst (v := 1) hx hb dX9_leaves_7 (by decide) ?_
  refine lv_isub hx hb dX9_leaves_8 ?_
  obtain ⟨x2, hx2, hf⟩ := g_bnd hf
  refine g_iast F hK hG 0 1 rfl rfl hx2 dX9_leaves_9 (fun H locs hG => ?_)
  have hG : gS E A s.heap [C9 E h b0 (x2, w0.2.1, w0.2.2.1, w0.2.2.2.1, w0.2.2.2.2.1, w0.2.2.2.2.2.1, w0.2.2.2.2.2.2.1, w0.2.2.2.2.2.2.2.1, w0.2.2.2.2.2.2.2.2.1, w0.2.2.2.2.2.2.2.2.2)] H locs := hG
  refine lv_iload_n hx hb dX9_leaves_10 rfl (lv_at hl 1 rfl) ?_
  refine lv_iconst (v := 0) hx hb dX9_leaves_11 (by decide) ?_
  obtain ⟨x3, hx3, hf⟩ := g_bnd hf
  refine g_rs (As := [.int a1, .int 0]) (rest := []) F hK (hG.X hX hAB) hG.1 [] rfl (c_X9_at h a1 0 hx3) (kX9_42 F.2.2.2.2 ⟨Nat.le_of_ble_eq_true rfl, Nat.le_of_ble_eq_true rfl⟩) rfl hl.1 rfl (lv_room (Nat.le_of_ble_eq_true rfl)) ⟨Nat.zero_le _, Nat.zero_le _⟩ dX9_leaves_12 ?_
  refine lv_istore_n (lv' := [(2, .int x3), (0, .ref (h b0)), (1, .int a1)]) hx hb dX9_leaves_15 rfl hl (by decide) rfl (fun ls hl => ?_)
  refine lp_rule (fun (v4 : Int32 × T9) => ∀ (H : Heap) (locs : List Loc), gS E A s.heap [C9 E h b0 v4.2] H locs → ∀ ls : Array Slot, lv_has ls 3 [(0, .ref (h b0)), (2, .int v4.1)] → W p l e rX9_leaves s m args below meth c H locs 0 0 Q (F0 m 16 ls [])) ?_ _ _ hf _ _ hG ls (lv_sub hl [1, 0] rfl)
  intro v4 y hf hbackv4 hexitv4 H locs hG ls hl
  refine lv_iload_n hx hb dX9_leaves_16 rfl (lv_at hl 1 rfl) ?_
  refine lv_aload_n hx hb dX9_leaves_17 rfl (lv_at hl 0 rfl) ?_
  refine g_get F hK hG.1 0 0 0 flX9_7 rfl rfl rfl dX9_leaves_18 ?_
  refine lv_iconst (v := 0) hx hb dX9_leaves_21 (by decide) ?_
  obtain ⟨x6, hx6, hf⟩ := g_bnd hf
  refine g_iald F hK hG.1 0 1 rfl rfl hx6 dX9_leaves_22 ?_
  refine lv_iconst (v := 0) hx hb dX9_leaves_23 (by decide) ?_
  obtain ⟨x7, hx7, hf⟩ := g_bnd hf
  refine g_rs (As := [.int x6, .int 0]) (rest := [.int v4.1]) F hK (hG.X hX hAB) hG.1 [] rfl (c_X9_at h x6 0 hx7) (kX9_42 F.2.2.2.2 ⟨Nat.le_of_ble_eq_true rfl, Nat.le_of_ble_eq_true rfl⟩) rfl hl.1 rfl (lv_room (Nat.le_of_ble_eq_true rfl)) ⟨Nat.zero_le _, Nat.zero_le _⟩ dX9_leaves_24 ?_
  refine lv_icmp_ge (tgt := 51) hx hb dX9_leaves_27 (by decide) (fun c8 => ?_) (fun c8 => ?_)
  · have hf := g_it c8 hf
    have ho := hexitv4 _ (Option.some.inj hf).symm
    subst hA
    rw [← hQ, ← ho]
    exact g_mretV F hr hlk hG dX9_leaves_51
  · have hf := g_if c8 hf
    refine lv_aload_n hx hb dX9_leaves_30 rfl (lv_at hl 0 rfl) ?_
    refine g_get F hK hG.1 0 0 0 flX9_7 rfl rfl rfl dX9_leaves_31 ?_
    refine lv_iload_n hx hb dX9_leaves_34 rfl (lv_at hl 1 rfl) ?_
    refine lv_aload_n hx hb dX9_leaves_35 rfl (lv_at hl 0 rfl) ?_
    refine g_get F hK hG.1 0 0 0 flX9_7 rfl rfl rfl dX9_leaves_36 ?_
    refine lv_iload_n hx hb dX9_leaves_39 rfl (lv_at hl 1 rfl) ?_
    refine lv_bipush (v := 14) hx hb dX9_leaves_40 (by decide) ?_
    refine lv_iadd hx hb dX9_leaves_42 ?_
    obtain ⟨x9, hx9, hf⟩ := g_bnd hf
    refine g_iald F hK hG.1 0 1 rfl rfl hx9 dX9_leaves_43 ?_
    obtain ⟨x10, hx10, hf⟩ := g_bnd hf
    refine g_iast F hK hG 0 1 rfl rfl hx10 dX9_leaves_44 (fun H locs hG => ?_)
    have hG : gS E A s.heap [C9 E h b0 (x10, v4.2.2.1, v4.2.2.2.1, v4.2.2.2.2.1, v4.2.2.2.2.2.1, v4.2.2.2.2.2.2.1, v4.2.2.2.2.2.2.2.1, v4.2.2.2.2.2.2.2.2.1, v4.2.2.2.2.2.2.2.2.2.1, v4.2.2.2.2.2.2.2.2.2.2)] H locs := hG
    refine lv_iinc (v := (v4.1 + 1)) (lv' := [(2, .int (v4.1 + 1)), (0, .ref (h b0))]) hx hb dX9_leaves_45 hl (k := 1) rfl rfl (by decide) rfl (fun ls hl => ?_)
    refine lv_goto (tgt := 16) hx hb dX9_leaves_48 (by decide) ?_
    exact hbackv4 _ (Option.some.inj hf).symm _ _ hG ls (lv_sub hl [1, 0] rfl)
set_option maxHeartbeats 4000000 in
set_option maxRecDepth 100000 in
theorem c_X9_fits {l : Launch} {E : gEnv} (h : Nat → Nat) (b0 : Nat) (w0 : T9) (a1 : Int32) (a2 : Int32) {o : Int32} (hf : f_X9_fits w0 a1 a2 = some o) : gR l yX9_fits cX9_fits 5 (some .boolean) rX9_fits E [.ref (h b0), .int a1, .int a2] [C9 E h b0 w0] (some (.int o)) := by
  refine gR.of (by decide +kernel) (Nat.le_of_ble_eq_true rfl) ?_
  intro p e s m below meth c F hr hlk hK hX hP ls hl
  have F : gF p m c cX9_fits 5 s ([.ref (h b0), .int a1, .int a2] : List Value).toArray RX9 := F
  generalize ([.ref (h b0), .int a1, .int a2] : List Value).toArray = args at F ⊢
  generalize hQ : MQ below _ _ _ _ _ _ = Q
  have hl : lv_has ls 5 [(0, .ref (h b0)), (1, .int a1), (2, .int a2)] := hl
  have hx := F.1
  have hb := F.2.1
  unfold f_X9_fits at hf
  refine lv_aload_n hx hb dX9_fits_0 rfl (lv_at hl 0 rfl) ?_
  refine g_get F hK hP 0 0 0 flX9_7 rfl rfl rfl dX9_fits_1 ?_
  refine lv_bipush (v := 10) hx hb dX9_fits_4 (by decide) ?_
  refine lv_iload_n hx hb dX9_fits_6 rfl (lv_at hl 2 rfl) ?_
  refine lv_iadd hx hb dX9_fits_7 ?_
  obtain ⟨x1, hx1, hf⟩ := g_bnd hf
  refine g_iald F hK hP 0 1 rfl rfl hx1 dX9_fits_8 ?_
  refine lv_istore_n (lv' := [(3, .int x1), (0, .ref (h b0)), (1, .int a1), (2, .int a2)]) hx hb dX9_fits_9 rfl hl (by decide) rfl (fun ls hl => ?_)
  refine lv_aload_n hx hb dX9_fits_10 rfl (lv_at hl 1 rfl) ?_
  refine lv_iload_n hx hb dX9_fits_11 rfl (lv_at hl 2 rfl) ?_
  refine lv_iload_n hx hb dX9_fits_12 rfl (lv_at hl 3 rfl) ?_
  obtain ⟨x2, hx2, hf⟩ := g_bnd hf
  refine g_rv (As := [.int a1, .int a2]) (rest := []) F hK hX hP [0] rfl (c_X9_letterOf h b0 w0 a1 a2 hx2) (kX9_53 F.2.2.2.2 ⟨Nat.le_of_ble_eq_true rfl, Nat.le_of_ble_eq_true rfl⟩) rfl rfl rfl rfl hl.1 rfl (lv_room (Nat.le_of_ble_eq_true rfl)) ⟨Nat.zero_le _, Nat.zero_le _⟩ dX9_fits_13 ?_
  refine lv_istore (lv' := [(4, .int x2), (3, .int x1), (0, .ref (h b0)), (1, .int a1), (2, .int a2)]) hx hb dX9_fits_16 hl (by decide) rfl (fun ls hl => ?_)
  refine lv_iload_n hx hb dX9_fits_18 rfl (lv_at hl 1 rfl) ?_
  refine lv_bipush (v := 100) hx hb dX9_fits_19 (by decide) ?_
  refine lv_icmp_lt (tgt := 41) hx hb dX9_fits_21 (by decide) (fun c3 => ?_) (fun c3 => ?_)
  · have hf := g_it c3 hf
    refine lv_iload_n hx hb dX9_fits_41 rfl (lv_at hl 1 rfl) ?_
    refine lv_iload hx hb dX9_fits_42 (lv_at hl 0 rfl) ?_
    obtain ⟨x4, hx4, hf⟩ := g_bnd hf
    refine g_rs (As := [.int x2]) (rest := [.int x1]) F hK hX hP [] rfl (c_X9_keyOf h x2 hx4) (kX9_32 F.2.2.2.2 ⟨Nat.le_of_ble_eq_true rfl, Nat.le_of_ble_eq_true rfl⟩) rfl hl.1 rfl (lv_room (Nat.le_of_ble_eq_true rfl)) ⟨Nat.zero_le _, Nat.zero_le _⟩ dX9_fits_44 ?_
    refine lv_icmp_ne (tgt := 54) hx hb dX9_fits_47 (by decide) (fun c5 => ?_) (fun c5 => ?_)
    · have hf := g_if c5 hf
      refine lv_iconst (v := 0) hx hb dX9_fits_54 (by decide) ?_
      have ho := Option.some.inj hf
      rw [← hQ, ← ho]
      exact g_retZ F hr hlk narrow_b0 dX9_fits_55
    · have hf := g_it c5 hf
      refine lv_iconst (v := 1) hx hb dX9_fits_50 (by decide) ?_
      refine lv_goto (tgt := 55) hx hb dX9_fits_51 (by decide) ?_
      have ho := Option.some.inj hf
      rw [← hQ, ← ho]
      exact g_retZ F hr hlk narrow_b1 dX9_fits_55
  · have hf := g_if c3 hf
    refine lv_iload_n hx hb dX9_fits_24 rfl (lv_at hl 1 rfl) ?_
    refine lv_bipush (v := 100) hx hb dX9_fits_25 (by decide) ?_
    refine lv_isub hx hb dX9_fits_27 ?_
    refine lv_iload hx hb dX9_fits_28 (lv_at hl 0 rfl) ?_
    refine lv_icmp_ne (tgt := 37) hx hb dX9_fits_30 (by decide) (fun c6 => ?_) (fun c6 => ?_)
    · have hf := g_if c6 hf
      refine lv_iconst (v := 0) hx hb dX9_fits_37 (by decide) ?_
      refine lv_goto (tgt := 55) hx hb dX9_fits_38 (by decide) ?_
      have ho := Option.some.inj hf
      rw [← hQ, ← ho]
      exact g_retZ F hr hlk narrow_b0 dX9_fits_55
    · have hf := g_it c6 hf
      refine lv_iconst (v := 1) hx hb dX9_fits_33 (by decide) ?_
      refine lv_goto (tgt := 55) hx hb dX9_fits_34 (by decide) ?_
      have ho := Option.some.inj hf
      rw [← hQ, ← ho]
      exact g_retZ F hr hlk narrow_b1 dX9_fits_55
set_option maxHeartbeats 4000000 in
set_option maxRecDepth 100000 in
theorem c_X9_groupOf {l : Launch} {E : gEnv} (h : Nat → Nat) (b0 : Nat) (w0 : T9) (a1 : Int32) {o : Int32} (hf : f_X9_groupOf w0 a1 = some o) : gR l yX9_groupOf cX9_groupOf 5 (some .int) rX9_groupOf E [.ref (h b0), .int a1] [C9 E h b0 w0] (some (.int o)) := by
  refine gR.of (by decide +kernel) (Nat.le_of_ble_eq_true rfl) ?_
  intro p e s m below meth c F hr hlk hK hX hP ls hl
  have F : gF p m c cX9_groupOf 5 s ([.ref (h b0), .int a1] : List Value).toArray RX9 := F
  generalize ([.ref (h b0), .int a1] : List Value).toArray = args at F ⊢
  generalize hQ : MQ below _ _ _ _ _ _ = Q
  have hl : lv_has ls 5 [(0, .ref (h b0)), (1, .int a1)] := hl
  have hx := F.1
  have hb := F.2.1
  unfold f_X9_groupOf at hf
  refine lv_aload_n hx hb dX9_groupOf_0 rfl (lv_at hl 0 rfl) ?_
  refine g_get F hK hP 0 0 0 flX9_7 rfl rfl rfl dX9_groupOf_1 ?_
  refine lv_bipush (v := 6) hx hb dX9_groupOf_4 (by decide) ?_
  obtain ⟨x1, hx1, hf⟩ := g_bnd hf
  refine g_iald F hK hP 0 1 rfl rfl hx1 dX9_groupOf_6 ?_
  refine lv_istore_n (lv' := [(2, .int x1), (0, .ref (h b0)), (1, .int a1)]) hx hb dX9_groupOf_7 rfl hl (by decide) rfl (fun ls hl => ?_)
  refine lv_iload_n hx hb dX9_groupOf_8 rfl (lv_at hl 0 rfl) ?_
  obtain ⟨j2, hf, hfj2⟩ := g_bnd hf
  have hJj2 : ∀ ls : Array Slot, lv_has ls 5 [(0, .ref (h b0)), (1, .int a1), (2, .int x1)] → W p l e rX9_groupOf s m args below meth c s.heap [] 0 0 Q (F0 m 47 ls [.int j2]) := by
    intro ls hl
    have hf := hfj2
    refine lv_istore_n (lv' := [(3, .int j2), (0, .ref (h b0)), (1, .int a1), (2, .int x1)]) hx hb dX9_groupOf_47 rfl hl (by decide) rfl (fun ls hl => ?_)
    refine lv_iconst (v := 0) hx hb dX9_groupOf_48 (by decide) ?_
    refine lv_istore (lv' := [(4, .int 0), (3, .int j2), (0, .ref (h b0)), (1, .int a1), (2, .int x1)]) hx hb dX9_groupOf_49 hl (by decide) rfl (fun ls hl => ?_)
    obtain ⟨x11, hx11, hfx11⟩ := g_bnd hf
    have hEx11 : ∀ ls : Array Slot, lv_has ls 5 [(0, .ref (h b0)), (1, .int a1), (2, .int x1), (3, .int x11)] → W p l e rX9_groupOf s m args below meth c s.heap [] 0 0 Q (F0 m 75 ls []) := by
      intro ls hl
      have hf := hfx11
      refine lv_iload_n hx hb dX9_groupOf_75 rfl (lv_at hl 3 rfl) ?_
      refine lv_if_ne (tgt := 83) hx hb dX9_groupOf_76 (by decide) (fun c15 => ?_) (fun c15 => ?_)
      · have hf := g_if c15 hf
        refine lv_aload_n hx hb dX9_groupOf_83 rfl (lv_at hl 0 rfl) ?_
        refine lv_iload_n hx hb dX9_groupOf_84 rfl (lv_at hl 1 rfl) ?_
        refine lv_iconst (v := 0) hx hb dX9_groupOf_85 (by decide) ?_
        obtain ⟨x16, hx16, hf⟩ := g_bnd hf
        refine g_rv (As := [.int a1, .int 0]) (rest := []) F hK hX hP [0] rfl (c_X9_of h b0 w0 a1 0 hx16) (kX9_50 F.2.2.2.2 ⟨Nat.le_of_ble_eq_true rfl, Nat.le_of_ble_eq_true rfl⟩) rfl rfl rfl rfl hl.1 rfl (lv_room (Nat.le_of_ble_eq_true rfl)) ⟨Nat.zero_le _, Nat.zero_le _⟩ dX9_groupOf_86 ?_
        refine lv_iload_n hx hb dX9_groupOf_89 rfl (lv_at hl 2 rfl) ?_
        refine lv_icmp_ne (tgt := 97) hx hb dX9_groupOf_90 (by decide) (fun c17 => ?_) (fun c17 => ?_)
        · have hf := g_if c17 hf
          refine lv_iconst (v := 1) hx hb dX9_groupOf_97 (by decide) ?_
          have ho := Option.some.inj hf
          rw [← hQ, ← ho]
          exact g_retI F hr hlk dX9_groupOf_98
        · have hf := g_it c17 hf
          refine lv_iconst (v := 0) hx hb dX9_groupOf_93 (by decide) ?_
          refine lv_goto (tgt := 98) hx hb dX9_groupOf_94 (by decide) ?_
          have ho := Option.some.inj hf
          rw [← hQ, ← ho]
          exact g_retI F hr hlk dX9_groupOf_98
      · have hf := g_it c15 hf
        refine lv_iconst (v := (-1)) hx hb dX9_groupOf_79 (by decide) ?_
        refine lv_goto (tgt := 98) hx hb dX9_groupOf_80 (by decide) ?_
        have ho := Option.some.inj hf
        rw [← hQ, ← ho]
        exact g_retI F hr hlk dX9_groupOf_98
    refine lp_rule (fun (v10 : Int32 × Int32) => ∀ ls : Array Slot, lv_has ls 5 [(0, .ref (h b0)), (1, .int a1), (2, .int x1), (3, .int v10.1), (4, .int v10.2)] → W p l e rX9_groupOf s m args below meth c s.heap [] 0 0 Q (F0 m 51 ls [])) ?_ _ _ hx11 ls (lv_sub hl [2, 3, 4, 1, 0] rfl)
    intro v10 y hf hbackv10 hexitv10 ls hl
    refine lv_iload hx hb dX9_groupOf_51 (lv_at hl 4 rfl) ?_
    refine lv_iload_n hx hb dX9_groupOf_53 rfl (lv_at hl 2 rfl) ?_
    refine lv_icmp_ge (tgt := 75) hx hb dX9_groupOf_54 (by decide) (fun c12 => ?_) (fun c12 => ?_)
    · have hf := g_it c12 hf
      obtain rfl := hexitv10 _ (Option.some.inj hf).symm
      exact hEx11 ls (lv_sub hl [0, 1, 2, 3] rfl)
    · have hf := g_if c12 hf
      refine lv_iload_n hx hb dX9_groupOf_57 rfl (lv_at hl 3 rfl) ?_
      refine lv_if_eq (tgt := 75) hx hb dX9_groupOf_58 (by decide) (fun c13 => ?_) (fun c13 => ?_)
      · have hf := g_it c13 hf
        obtain rfl := hexitv10 _ (Option.some.inj hf).symm
        exact hEx11 ls (lv_sub hl [0, 1, 2, 3] rfl)
      · have hf := g_if c13 hf
        refine lv_aload_n hx hb dX9_groupOf_61 rfl (lv_at hl 0 rfl) ?_
        refine lv_iload_n hx hb dX9_groupOf_62 rfl (lv_at hl 1 rfl) ?_
        refine lv_iload hx hb dX9_groupOf_63 (lv_at hl 4 rfl) ?_
        obtain ⟨x14, hx14, hf⟩ := g_bnd hf
        refine g_rv (As := [.int a1, .int v10.2]) (rest := []) F hK hX hP [0] rfl (c_X9_fits h b0 w0 a1 v10.2 hx14) (kX9_79 F.2.2.2.2 ⟨Nat.le_of_ble_eq_true rfl, Nat.le_of_ble_eq_true rfl⟩) rfl rfl rfl rfl hl.1 rfl (lv_room (Nat.le_of_ble_eq_true rfl)) ⟨Nat.zero_le _, Nat.zero_le _⟩ dX9_groupOf_65 ?_
        refine lv_istore_n (lv' := [(3, .int x14), (0, .ref (h b0)), (1, .int a1), (2, .int x1), (4, .int v10.2)]) hx hb dX9_groupOf_68 rfl hl (by decide) rfl (fun ls hl => ?_)
        refine lv_iinc (v := (v10.2 + 1)) (lv' := [(4, .int (v10.2 + 1)), (3, .int x14), (0, .ref (h b0)), (1, .int a1), (2, .int x1)]) hx hb dX9_groupOf_69 hl (k := 4) rfl rfl (by decide) rfl (fun ls hl => ?_)
        refine lv_goto (tgt := 51) hx hb dX9_groupOf_72 (by decide) ?_
        exact hbackv10 _ (Option.some.inj hf).symm ls (lv_sub hl [2, 3, 4, 1, 0] rfl)
  refine lv_if_le (tgt := 46) hx hb dX9_groupOf_9 (by decide) (fun c3 => ?_) (fun c3 => ?_)
  · have hf := g_it c3 hf
    refine lv_iconst (v := 0) hx hb dX9_groupOf_46 (by decide) ?_
    obtain rfl := Option.some.inj hf
    exact hJj2 ls (lv_sub hl [1, 2, 0] rfl)
  · have hf := g_if c3 hf
    refine lv_aload_n hx hb dX9_groupOf_12 rfl (lv_at hl 1 rfl) ?_
    refine lv_iload_n hx hb dX9_groupOf_13 rfl (lv_at hl 2 rfl) ?_
    refine lv_iconst (v := 0) hx hb dX9_groupOf_14 (by decide) ?_
    obtain ⟨x4, hx4, hf⟩ := g_bnd hf
    refine g_rv (As := [.int a1, .int 0]) (rest := []) F hK hX hP [0] rfl (c_X9_of h b0 w0 a1 0 hx4) (kX9_50 F.2.2.2.2 ⟨Nat.le_of_ble_eq_true rfl, Nat.le_of_ble_eq_true rfl⟩) rfl rfl rfl rfl hl.1 rfl (lv_room (Nat.le_of_ble_eq_true rfl)) ⟨Nat.zero_le _, Nat.zero_le _⟩ dX9_groupOf_15 ?_
    refine lv_iload_n hx hb dX9_groupOf_18 rfl (lv_at hl 0 rfl) ?_
    refine lv_icmp_eq (tgt := 42) hx hb dX9_groupOf_19 (by decide) (fun c5 => ?_) (fun c5 => ?_)
    · have hf := g_it c5 hf
      refine lv_iconst (v := 1) hx hb dX9_groupOf_42 (by decide) ?_
      refine lv_goto (tgt := 47) hx hb dX9_groupOf_43 (by decide) ?_
      obtain rfl := Option.some.inj hf
      exact hJj2 ls (lv_sub hl [1, 2, 0] rfl)
    · have hf := g_if c5 hf
      refine lv_aload_n hx hb dX9_groupOf_22 rfl (lv_at hl 1 rfl) ?_
      refine g_get F hK hP 0 0 0 flX9_7 rfl rfl rfl dX9_groupOf_23 ?_
      refine lv_iconst (v := 3) hx hb dX9_groupOf_26 (by decide) ?_
      obtain ⟨x6, hx6, hf⟩ := g_bnd hf
      refine g_iald F hK hP 0 1 rfl rfl hx6 dX9_groupOf_27 ?_
      refine lv_iconst (v := 1) hx hb dX9_groupOf_28 (by decide) ?_
      refine lv_icmp_ne (tgt := 46) hx hb dX9_groupOf_29 (by decide) (fun c7 => ?_) (fun c7 => ?_)
      · have hf := g_if c7 hf
        refine lv_iconst (v := 0) hx hb dX9_groupOf_46 (by decide) ?_
        obtain rfl := Option.some.inj hf
        exact hJj2 ls (lv_sub hl [1, 2, 0] rfl)
      · have hf := g_it c7 hf
        refine lv_aload_n hx hb dX9_groupOf_32 rfl (lv_at hl 1 rfl) ?_
        refine lv_iload_n hx hb dX9_groupOf_33 rfl (lv_at hl 2 rfl) ?_
        refine lv_iconst (v := 0) hx hb dX9_groupOf_34 (by decide) ?_
        obtain ⟨x8, hx8, hf⟩ := g_bnd hf
        refine g_rv (As := [.int a1, .int 0]) (rest := []) F hK hX hP [0] rfl (c_X9_of h b0 w0 a1 0 hx8) (kX9_50 F.2.2.2.2 ⟨Nat.le_of_ble_eq_true rfl, Nat.le_of_ble_eq_true rfl⟩) rfl rfl rfl rfl hl.1 rfl (lv_room (Nat.le_of_ble_eq_true rfl)) ⟨Nat.zero_le _, Nat.zero_le _⟩ dX9_groupOf_35 ?_
        refine lv_iload_n hx hb dX9_groupOf_38 rfl (lv_at hl 0 rfl) ?_
        refine lv_icmp_le (tgt := 46) hx hb dX9_groupOf_39 (by decide) (fun c9 => ?_) (fun c9 => ?_)
        · have hf := g_it c9 hf
          refine lv_iconst (v := 0) hx hb dX9_groupOf_46 (by decide) ?_
          obtain rfl := Option.some.inj hf
          exact hJj2 ls (lv_sub hl [1, 2, 0] rfl)
        · have hf := g_if c9 hf
          refine lv_iconst (v := 1) hx hb dX9_groupOf_42 (by decide) ?_
          refine lv_goto (tgt := 47) hx hb dX9_groupOf_43 (by decide) ?_
          obtain rfl := Option.some.inj hf
          exact hJj2 ls (lv_sub hl [1, 2, 0] rfl)
set_option maxHeartbeats 4000000 in
set_option maxRecDepth 100000 in
theorem c_X9_candidates {l : Launch} {E : gEnv} (h : Nat → Nat) (b0 : Nat) (w0 : T9) {o : Int32} (hf : f_X9_candidates w0 = some o) : gR l yX9_candidates cX9_candidates 3 (some .int) rX9_candidates E [.ref (h b0)] [C9 E h b0 w0] (some (.int o)) := by
  refine gR.of (by decide +kernel) (Nat.le_of_ble_eq_true rfl) ?_
  intro p e s m below meth c F hr hlk hK hX hP ls hl
  have F : gF p m c cX9_candidates 3 s ([.ref (h b0)] : List Value).toArray RX9 := F
  generalize ([.ref (h b0)] : List Value).toArray = args at F ⊢
  generalize hQ : MQ below _ _ _ _ _ _ = Q
  have hl : lv_has ls 3 [(0, .ref (h b0))] := hl
  have hx := F.1
  have hb := F.2.1
  unfold f_X9_candidates at hf
  refine lv_iconst (v := 0) hx hb dX9_candidates_0 (by decide) ?_
  refine lv_istore_n (lv' := [(1, .int 0), (0, .ref (h b0))]) hx hb dX9_candidates_1 rfl hl (by decide) rfl (fun ls hl => ?_)
  refine lv_iconst (v := 0) hx hb dX9_candidates_2 (by decide) ?_
  refine lv_istore_n (lv' := [(2, .int 0), (1, .int 0), (0, .ref (h b0))]) hx hb dX9_candidates_3 rfl hl (by decide) rfl (fun ls hl => ?_)
  refine lp_rule (fun (v1 : Int32 × Int32) => ∀ ls : Array Slot, lv_has ls 3 [(0, .ref (h b0)), (1, .int v1.1), (2, .int v1.2)] → W p l e rX9_candidates s m args below meth c s.heap [] 0 0 Q (F0 m 4 ls [])) ?_ _ _ hf ls (lv_sub hl [2, 1, 0] rfl)
  intro v1 y hf hbackv1 hexitv1 ls hl
  refine lv_iload_n hx hb dX9_candidates_4 rfl (lv_at hl 2 rfl) ?_
  refine lv_aload_n hx hb dX9_candidates_5 rfl (lv_at hl 0 rfl) ?_
  refine g_get F hK hP 0 0 0 flX9_7 rfl rfl rfl dX9_candidates_6 ?_
  refine lv_iconst (v := 0) hx hb dX9_candidates_9 (by decide) ?_
  obtain ⟨x3, hx3, hf⟩ := g_bnd hf
  refine g_iald F hK hP 0 1 rfl rfl hx3 dX9_candidates_10 ?_
  refine lv_icmp_ge (tgt := 37) hx hb dX9_candidates_11 (by decide) (fun c4 => ?_) (fun c4 => ?_)
  · have hf := g_it c4 hf
    refine lv_iload_n hx hb dX9_candidates_37 rfl (lv_at hl 1 rfl) ?_
    have ho := hexitv1 _ (Option.some.inj hf).symm
    rw [← hQ, ← ho]
    exact g_retI F hr hlk dX9_candidates_38
  · have hf := g_if c4 hf
    refine lv_iload_n hx hb dX9_candidates_14 rfl (lv_at hl 1 rfl) ?_
    refine lv_aload_n hx hb dX9_candidates_15 rfl (lv_at hl 0 rfl) ?_
    refine lv_iload_n hx hb dX9_candidates_16 rfl (lv_at hl 2 rfl) ?_
    obtain ⟨x5, hx5, hf⟩ := g_bnd hf
    refine g_rv (As := [.int v1.2]) (rest := [.int v1.1]) F hK hX hP [0] rfl (c_X9_groupOf h b0 w0 v1.2 hx5) (kX9_82 F.2.2.2.2 ⟨Nat.le_of_ble_eq_true rfl, Nat.le_of_ble_eq_true rfl⟩) rfl rfl rfl rfl hl.1 rfl (lv_room (Nat.le_of_ble_eq_true rfl)) ⟨Nat.zero_le _, Nat.zero_le _⟩ dX9_candidates_17 ?_
    refine lv_iconst (v := (-1)) hx hb dX9_candidates_20 (by decide) ?_
    obtain ⟨j6, hf, hfj6⟩ := g_bnd hf
    have hJj6 : ∀ ls : Array Slot, lv_has ls 3 [(0, .ref (h b0)), (2, .int v1.2)] → W p l e rX9_candidates s m args below meth c s.heap [] 0 0 Q (F0 m 29 ls [.int j6, .int v1.1]) := by
      intro ls hl
      have hf := hfj6
      refine lv_iadd hx hb dX9_candidates_29 ?_
      refine lv_istore_n (lv' := [(1, .int (v1.1 + j6)), (0, .ref (h b0)), (2, .int v1.2)]) hx hb dX9_candidates_30 rfl hl (by decide) rfl (fun ls hl => ?_)
      refine lv_iinc (v := (v1.2 + 1)) (lv' := [(2, .int (v1.2 + 1)), (1, .int (v1.1 + j6)), (0, .ref (h b0))]) hx hb dX9_candidates_31 hl (k := 2) rfl rfl (by decide) rfl (fun ls hl => ?_)
      refine lv_goto (tgt := 4) hx hb dX9_candidates_34 (by decide) ?_
      exact hbackv1 _ (Option.some.inj hf).symm ls (lv_sub hl [2, 1, 0] rfl)
    refine lv_icmp_eq (tgt := 28) hx hb dX9_candidates_21 (by decide) (fun c7 => ?_) (fun c7 => ?_)
    · have hf := g_it c7 hf
      refine lv_iconst (v := 0) hx hb dX9_candidates_28 (by decide) ?_
      obtain rfl := Option.some.inj hf
      exact hJj6 ls (lv_sub hl [0, 2] rfl)
    · have hf := g_if c7 hf
      refine lv_iconst (v := 1) hx hb dX9_candidates_24 (by decide) ?_
      refine lv_goto (tgt := 29) hx hb dX9_candidates_25 (by decide) ?_
      obtain rfl := Option.some.inj hf
      exact hJj6 ls (lv_sub hl [0, 2] rfl)
set_option maxHeartbeats 4000000 in
set_option maxRecDepth 100000 in
theorem c_X9_candidateAt {l : Launch} {E : gEnv} (h : Nat → Nat) (b0 : Nat) (w0 : T9) (a1 : Int32) {o : Int32} (hf : f_X9_candidateAt w0 a1 = some o) : gR l yX9_candidateAt cX9_candidateAt 7 (some .int) rX9_candidateAt E [.ref (h b0), .int a1] [C9 E h b0 w0] (some (.int o)) := by
  refine gR.of (by decide +kernel) (Nat.le_of_ble_eq_true rfl) ?_
  intro p e s m below meth c F hr hlk hK hX hP ls hl
  have F : gF p m c cX9_candidateAt 7 s ([.ref (h b0), .int a1] : List Value).toArray RX9 := F
  generalize ([.ref (h b0), .int a1] : List Value).toArray = args at F ⊢
  generalize hQ : MQ below _ _ _ _ _ _ = Q
  have hl : lv_has ls 7 [(0, .ref (h b0)), (1, .int a1)] := hl
  have hx := F.1
  have hb := F.2.1
  unfold f_X9_candidateAt at hf
  refine lv_iconst (v := 0) hx hb dX9_candidateAt_0 (by decide) ?_
  refine lv_istore_n (lv' := [(2, .int 0), (0, .ref (h b0)), (1, .int a1)]) hx hb dX9_candidateAt_1 rfl hl (by decide) rfl (fun ls hl => ?_)
  refine lp_rule (fun (v1 : Int32) => ∀ ls : Array Slot, lv_has ls 7 [(0, .ref (h b0)), (1, .int a1), (2, .int v1)] → W p l e rX9_candidateAt s m args below meth c s.heap [] 0 0 Q (F0 m 2 ls [])) ?_ _ _ hf ls (lv_sub hl [1, 2, 0] rfl)
  intro v1 y hf hbackv1 hexitv1 ls hl
  refine lv_iload_n hx hb dX9_candidateAt_2 rfl (lv_at hl 2 rfl) ?_
  refine lv_aload_n hx hb dX9_candidateAt_3 rfl (lv_at hl 0 rfl) ?_
  refine g_get F hK hP 0 0 0 flX9_7 rfl rfl rfl dX9_candidateAt_4 ?_
  refine lv_iconst (v := 0) hx hb dX9_candidateAt_7 (by decide) ?_
  obtain ⟨x3, hx3, hf⟩ := g_bnd hf
  refine g_iald F hK hP 0 1 rfl rfl hx3 dX9_candidateAt_8 ?_
  refine lv_icmp_ge (tgt := 112) hx hb dX9_candidateAt_9 (by decide) (fun c4 => ?_) (fun c4 => ?_)
  · have hf := g_it c4 hf
    refine lv_iconst (v := (-1)) hx hb dX9_candidateAt_112 (by decide) ?_
    have ho := hexitv1 _ (Option.some.inj hf).symm
    rw [← hQ, ← ho]
    exact g_retI F hr hlk dX9_candidateAt_113
  · have hf := g_if c4 hf
    refine lv_aload_n hx hb dX9_candidateAt_12 rfl (lv_at hl 0 rfl) ?_
    refine lv_iload_n hx hb dX9_candidateAt_13 rfl (lv_at hl 2 rfl) ?_
    obtain ⟨x5, hx5, hf⟩ := g_bnd hf
    refine g_rv (As := [.int v1]) (rest := []) F hK hX hP [0] rfl (c_X9_groupOf h b0 w0 v1 hx5) (kX9_82 F.2.2.2.2 ⟨Nat.le_of_ble_eq_true rfl, Nat.le_of_ble_eq_true rfl⟩) rfl rfl rfl rfl hl.1 rfl (lv_room (Nat.le_of_ble_eq_true rfl)) ⟨Nat.zero_le _, Nat.zero_le _⟩ dX9_candidateAt_14 ?_
    refine lv_istore_n (lv' := [(3, .int x5), (0, .ref (h b0)), (1, .int a1), (2, .int v1)]) hx hb dX9_candidateAt_17 rfl hl (by decide) rfl (fun ls hl => ?_)
    refine lv_iload_n hx hb dX9_candidateAt_18 rfl (lv_at hl 0 rfl) ?_
    refine lv_iconst (v := (-1)) hx hb dX9_candidateAt_19 (by decide) ?_
    refine lv_icmp_eq (tgt := 106) hx hb dX9_candidateAt_20 (by decide) (fun c6 => ?_) (fun c6 => ?_)
    · have hf := g_it c6 hf
      refine lv_iinc (v := (v1 + 1)) (lv' := [(2, .int (v1 + 1)), (3, .int x5), (0, .ref (h b0)), (1, .int a1)]) hx hb dX9_candidateAt_106 hl (k := 3) rfl rfl (by decide) rfl (fun ls hl => ?_)
      refine lv_goto (tgt := 2) hx hb dX9_candidateAt_109 (by decide) ?_
      exact hbackv1 _ (Option.some.inj hf).symm ls (lv_sub hl [2, 3, 0] rfl)
    · have hf := g_if c6 hf
      refine lv_iconst (v := 0) hx hb dX9_candidateAt_23 (by decide) ?_
      refine lv_istore (lv' := [(4, .int 0), (3, .int x5), (0, .ref (h b0)), (1, .int a1), (2, .int v1)]) hx hb dX9_candidateAt_24 hl (by decide) rfl (fun ls hl => ?_)
      refine lv_iconst (v := 0) hx hb dX9_candidateAt_26 (by decide) ?_
      refine lv_istore (lv' := [(5, .int 0), (4, .int 0), (3, .int x5), (0, .ref (h b0)), (1, .int a1), (2, .int v1)]) hx hb dX9_candidateAt_27 hl (by decide) rfl (fun ls hl => ?_)
      obtain ⟨x8, hx8, hfx8⟩ := g_bnd hf
      have hEx8 : ∀ ls : Array Slot, lv_has ls 7 [(0, .ref (h b0)), (1, .int a1), (2, .int v1), (4, .int x8)] → W p l e rX9_candidateAt s m args below meth c s.heap [] 0 0 Q (F0 m 98 ls []) := by
        intro ls hl
        have hf := hfx8
        refine lv_iload hx hb dX9_candidateAt_98 (lv_at hl 3 rfl) ?_
        refine lv_iload_n hx hb dX9_candidateAt_100 rfl (lv_at hl 1 rfl) ?_
        refine lv_icmp_ne (tgt := 106) hx hb dX9_candidateAt_101 (by decide) (fun c19 => ?_) (fun c19 => ?_)
        · have hf := g_if c19 hf
          refine lv_iinc (v := (v1 + 1)) (lv' := [(2, .int (v1 + 1)), (0, .ref (h b0)), (1, .int a1), (4, .int x8)]) hx hb dX9_candidateAt_106 hl (k := 2) rfl rfl (by decide) rfl (fun ls hl => ?_)
          refine lv_goto (tgt := 2) hx hb dX9_candidateAt_109 (by decide) ?_
          exact hbackv1 _ (Option.some.inj hf).symm ls (lv_sub hl [1, 2, 0] rfl)
        · have hf := g_it c19 hf
          refine lv_iload_n hx hb dX9_candidateAt_104 rfl (lv_at hl 2 rfl) ?_
          have ho := hexitv1 _ (Option.some.inj hf).symm
          rw [← hQ, ← ho]
          exact g_retI F hr hlk dX9_candidateAt_105
      refine lp_rule (fun (v7 : Int32 × Int32) => ∀ ls : Array Slot, lv_has ls 7 [(0, .ref (h b0)), (1, .int a1), (2, .int v1), (3, .int x5), (4, .int v7.1), (5, .int v7.2)] → W p l e rX9_candidateAt s m args below meth c s.heap [] 0 0 Q (F0 m 29 ls [])) ?_ _ _ hx8 ls (lv_sub hl [3, 4, 5, 2, 1, 0] rfl)
      intro v7 y hf hbackv7 hexitv7 ls hl
      refine lv_iload hx hb dX9_candidateAt_29 (lv_at hl 5 rfl) ?_
      refine lv_aload_n hx hb dX9_candidateAt_31 rfl (lv_at hl 0 rfl) ?_
      refine g_get F hK hP 0 0 0 flX9_7 rfl rfl rfl dX9_candidateAt_32 ?_
      refine lv_iconst (v := 0) hx hb dX9_candidateAt_35 (by decide) ?_
      obtain ⟨x9, hx9, hf⟩ := g_bnd hf
      refine g_iald F hK hP 0 1 rfl rfl hx9 dX9_candidateAt_36 ?_
      refine lv_icmp_ge (tgt := 98) hx hb dX9_candidateAt_37 (by decide) (fun c10 => ?_) (fun c10 => ?_)
      · have hf := g_it c10 hf
        obtain rfl := hexitv7 _ (Option.some.inj hf).symm
        exact hEx8 ls (lv_sub hl [0, 1, 2, 4] rfl)
      · have hf := g_if c10 hf
        refine lv_aload_n hx hb dX9_candidateAt_40 rfl (lv_at hl 0 rfl) ?_
        refine lv_iload hx hb dX9_candidateAt_41 (lv_at hl 5 rfl) ?_
        obtain ⟨x11, hx11, hf⟩ := g_bnd hf
        refine g_rv (As := [.int v7.2]) (rest := []) F hK hX hP [0] rfl (c_X9_groupOf h b0 w0 v7.2 hx11) (kX9_82 F.2.2.2.2 ⟨Nat.le_of_ble_eq_true rfl, Nat.le_of_ble_eq_true rfl⟩) rfl rfl rfl rfl hl.1 rfl (lv_room (Nat.le_of_ble_eq_true rfl)) ⟨Nat.zero_le _, Nat.zero_le _⟩ dX9_candidateAt_43 ?_
        refine lv_istore (lv' := [(6, .int x11), (0, .ref (h b0)), (1, .int a1), (2, .int v1), (3, .int x5), (4, .int v7.1), (5, .int v7.2)]) hx hb dX9_candidateAt_46 hl (by decide) rfl (fun ls hl => ?_)
        refine lv_iload hx hb dX9_candidateAt_48 (lv_at hl 5 rfl) ?_
        refine lv_iload hx hb dX9_candidateAt_50 (lv_at hl 0 rfl) ?_
        refine lv_iconst (v := (-1)) hx hb dX9_candidateAt_52 (by decide) ?_
        obtain ⟨j12, hf, hfj12⟩ := g_bnd hf
        have hJj12 : ∀ ls : Array Slot, lv_has ls 7 [(0, .ref (h b0)), (1, .int a1), (2, .int v1), (3, .int x5), (5, .int v7.2)] → W p l e rX9_candidateAt s m args below meth c s.heap [] 0 0 Q (F0 m 89 ls [.int j12, .int v7.1]) := by
          intro ls hl
          have hf := hfj12
          refine lv_iadd hx hb dX9_candidateAt_89 ?_
          refine lv_istore (lv' := [(4, .int (v7.1 + j12)), (0, .ref (h b0)), (1, .int a1), (2, .int v1), (3, .int x5), (5, .int v7.2)]) hx hb dX9_candidateAt_90 hl (by decide) rfl (fun ls hl => ?_)
          refine lv_iinc (v := (v7.2 + 1)) (lv' := [(5, .int (v7.2 + 1)), (4, .int (v7.1 + j12)), (0, .ref (h b0)), (1, .int a1), (2, .int v1), (3, .int x5)]) hx hb dX9_candidateAt_92 hl (k := 5) rfl rfl (by decide) rfl (fun ls hl => ?_)
          refine lv_goto (tgt := 29) hx hb dX9_candidateAt_95 (by decide) ?_
          exact hbackv7 _ (Option.some.inj hf).symm ls (lv_sub hl [2, 3, 4, 5, 1, 0] rfl)
        refine lv_icmp_eq (tgt := 88) hx hb dX9_candidateAt_53 (by decide) (fun c13 => ?_) (fun c13 => ?_)
        · have hf := g_it c13 hf
          refine lv_iconst (v := 0) hx hb dX9_candidateAt_88 (by decide) ?_
          obtain rfl := Option.some.inj hf
          exact hJj12 ls (lv_sub hl [1, 2, 3, 4, 6] rfl)
        · have hf := g_if c13 hf
          refine lv_iload hx hb dX9_candidateAt_56 (lv_at hl 0 rfl) ?_
          refine lv_iload_n hx hb dX9_candidateAt_58 rfl (lv_at hl 4 rfl) ?_
          refine lv_icmp_lt (tgt := 84) hx hb dX9_candidateAt_59 (by decide) (fun c14 => ?_) (fun c14 => ?_)
          · have hf := g_it c14 hf
            refine lv_iconst (v := 1) hx hb dX9_candidateAt_84 (by decide) ?_
            refine lv_goto (tgt := 89) hx hb dX9_candidateAt_85 (by decide) ?_
            obtain rfl := Option.some.inj hf
            exact hJj12 ls (lv_sub hl [1, 2, 3, 4, 6] rfl)
          · have hf := g_if c14 hf
            refine lv_iload hx hb dX9_candidateAt_62 (lv_at hl 0 rfl) ?_
            refine lv_iload_n hx hb dX9_candidateAt_64 rfl (lv_at hl 4 rfl) ?_
            refine lv_icmp_ne (tgt := 88) hx hb dX9_candidateAt_65 (by decide) (fun c15 => ?_) (fun c15 => ?_)
            · have hf := g_if c15 hf
              refine lv_iconst (v := 0) hx hb dX9_candidateAt_88 (by decide) ?_
              obtain rfl := Option.some.inj hf
              exact hJj12 ls (lv_sub hl [1, 2, 3, 4, 6] rfl)
            · have hf := g_it c15 hf
              refine lv_iload hx hb dX9_candidateAt_68 (lv_at hl 6 rfl) ?_
              refine lv_iload_n hx hb dX9_candidateAt_70 rfl (lv_at hl 3 rfl) ?_
              refine lv_icmp_eq (tgt := 88) hx hb dX9_candidateAt_71 (by decide) (fun c16 => ?_) (fun c16 => ?_)
              · have hf := g_it c16 hf
                refine lv_iconst (v := 0) hx hb dX9_candidateAt_88 (by decide) ?_
                obtain rfl := Option.some.inj hf
                exact hJj12 ls (lv_sub hl [1, 2, 3, 4, 6] rfl)
              · have hf := g_if c16 hf
                refine lv_aload_n hx hb dX9_candidateAt_74 rfl (lv_at hl 1 rfl) ?_
                refine lv_iload hx hb dX9_candidateAt_75 (lv_at hl 6 rfl) ?_
                refine lv_iload_n hx hb dX9_candidateAt_77 rfl (lv_at hl 3 rfl) ?_
                obtain ⟨x17, hx17, hf⟩ := g_bnd hf
                refine g_rv (As := [.int v7.2, .int v1]) (rest := [.int v7.1]) F hK hX hP [0] rfl (c_X9_isAhead h b0 w0 v7.2 v1 hx17) (kX9_59 F.2.2.2.2 ⟨Nat.le_of_ble_eq_true rfl, Nat.le_of_ble_eq_true rfl⟩) rfl rfl rfl rfl hl.1 rfl (lv_room (Nat.le_of_ble_eq_true rfl)) ⟨Nat.zero_le _, Nat.zero_le _⟩ dX9_candidateAt_78 ?_
                refine lv_if_eq (tgt := 88) hx hb dX9_candidateAt_81 (by decide) (fun c18 => ?_) (fun c18 => ?_)
                · have hf := g_it c18 hf
                  refine lv_iconst (v := 0) hx hb dX9_candidateAt_88 (by decide) ?_
                  obtain rfl := Option.some.inj hf
                  exact hJj12 ls (lv_sub hl [1, 2, 3, 4, 6] rfl)
                · have hf := g_if c18 hf
                  refine lv_iconst (v := 1) hx hb dX9_candidateAt_84 (by decide) ?_
                  refine lv_goto (tgt := 89) hx hb dX9_candidateAt_85 (by decide) ?_
                  obtain rfl := Option.some.inj hf
                  exact hJj12 ls (lv_sub hl [1, 2, 3, 4, 6] rfl)
set_option maxHeartbeats 4000000 in
set_option maxRecDepth 100000 in
theorem c_X9_candidate {l : Launch} {E : gEnv} (h : Nat → Nat) (b0 : Nat) (w0 : T9) (a1 : Int32) {o : Int32 × T9} (hf : f_X9_candidate w0 a1 = some o) : gM l yX9_candidate cX9_candidate 2 (some .int) rX9_candidate E [.ref (h b0), .int a1] [C9 E h b0 w0] (some (.int o.1)) [C9 E h b0 o.2] := by
  refine gM.of (by decide +kernel) (Nat.le_of_ble_eq_true rfl) rfl ?_
  intro p e s m below meth c F hr hlk hK hX hAB ls hl H locs hG
  have F : gF p m c cX9_candidate 2 s ([.ref (h b0), .int a1] : List Value).toArray RX9 := F
  generalize ([.ref (h b0), .int a1] : List Value).toArray = args at F ⊢
  generalize hQ : MQ below _ _ _ _ _ _ = Q
  generalize hA : gAd [C9 E h b0 w0] = A at hAB hG
  have hl : lv_has ls 2 [(0, .ref (h b0)), (1, .int a1)] := hl
  have hx := F.1
  have hb := F.2.1
  unfold f_X9_candidate at hf
  refine lv_aload_n hx hb dX9_candidate_0 rfl (lv_at hl 0 rfl) ?_
  refine lv_iload_n hx hb dX9_candidate_1 rfl (lv_at hl 1 rfl) ?_
  refine lv_i2l hx hb dX9_candidate_2 rfl ?_
  refine lv_lconst (v := 0) hx hb dX9_candidate_3 rfl ?_
  refine lv_aload_n hx hb dX9_candidate_4 rfl (lv_at hl 0 rfl) ?_
  obtain ⟨x1, hx1, hf⟩ := g_bnd hf
  refine g_rv (As := []) (rest := [.long 0, .long a1.toInt64, .ref (h b0)]) F hK (hG.X hX hAB) hG.1 [0] rfl (c_X9_candidates h b0 w0 hx1) (kX9_85 F.2.2.2.2 ⟨Nat.le_of_ble_eq_true rfl, Nat.le_of_ble_eq_true rfl⟩) rfl rfl rfl rfl hl.1 rfl (lv_room (Nat.le_of_ble_eq_true rfl)) ⟨Nat.zero_le _, Nat.zero_le _⟩ dX9_candidate_5 ?_
  refine lv_i2l hx hb dX9_candidate_8 rfl ?_
  refine lv_lconst (v := 1) hx hb dX9_candidate_9 rfl ?_
  refine lv_lsub hx hb dX9_candidate_10 ?_
  obtain ⟨x2, hx2, hf⟩ := g_bnd hf
  refine g_rs (As := [.long a1.toInt64, .long 0, .long (x1.toInt64 - 1)]) (rest := [.ref (h b0)]) F hK (hG.X hX hAB) hG.1 [] rfl (c_X9_in h a1.toInt64 0 (x1.toInt64 - 1) hx2) (kX9_46 F.2.2.2.2 ⟨Nat.le_of_ble_eq_true rfl, Nat.le_of_ble_eq_true rfl⟩) rfl hl.1 rfl (lv_room (Nat.le_of_ble_eq_true rfl)) ⟨Nat.zero_le _, Nat.zero_le _⟩ dX9_candidate_11 ?_
  refine lv_iconst (v := 1) hx hb dX9_candidate_14 (by decide) ?_
  obtain ⟨x3, hx3, hf⟩ := g_bnd hf
  refine g_mv (S' := [C9 E h b0 x3.2]) (As := [.int x2, .int 1]) (rest := []) F hK hX hAB hG [0] rfl rfl (c_X9_goes h b0 w0 x2 1 hx3) rfl (kX9_72 F.2.2.2.2 ⟨Nat.le_of_ble_eq_true rfl, Nat.le_of_ble_eq_true rfl⟩) rfl rfl rfl rfl hl.1 rfl (lv_room (Nat.le_of_ble_eq_true rfl)) ⟨Nat.zero_le _, Nat.zero_le _⟩ dX9_candidate_15 (fun H locs hG => ?_)
  refine lv_if_eq (tgt := 29) hx hb dX9_candidate_18 (by decide) (fun c4 => ?_) (fun c4 => ?_)
  · have hf := g_it c4 hf
    refine lv_iconst (v := 0) hx hb dX9_candidate_29 (by decide) ?_
    have ho := Option.some.inj hf
    subst hA
    rw [← hQ, ← ho]
    exact g_mretI F hr hlk hG dX9_candidate_30
  · have hf := g_if c4 hf
    refine lv_aload_n hx hb dX9_candidate_21 rfl (lv_at hl 0 rfl) ?_
    refine lv_iload_n hx hb dX9_candidate_22 rfl (lv_at hl 1 rfl) ?_
    obtain ⟨x5, hx5, hf⟩ := g_bnd hf
    refine g_rv (As := [.int a1]) (rest := []) F hK (hG.X hX hAB) hG.1 [0] rfl (c_X9_candidateAt h b0 x3.2 a1 hx5) (kX9_89 F.2.2.2.2 ⟨Nat.le_of_ble_eq_true rfl, Nat.le_of_ble_eq_true rfl⟩) rfl rfl rfl rfl hl.1 rfl (lv_room (Nat.le_of_ble_eq_true rfl)) ⟨Nat.zero_le _, Nat.zero_le _⟩ dX9_candidate_23 ?_
    refine lv_goto (tgt := 30) hx hb dX9_candidate_26 (by decide) ?_
    have ho := Option.some.inj hf
    subst hA
    rw [← hQ, ← ho]
    exact g_mretI F hr hlk hG dX9_candidate_30
set_option maxHeartbeats 4000000 in
set_option maxRecDepth 100000 in
theorem c_X9_laysDisplay {l : Launch} {E : gEnv} (h : Nat → Nat) (b0 : Nat) (w0 : T9) {o : T9} (hf : f_X9_laysDisplay w0 = some o) : gM l yX9_laysDisplay cX9_laysDisplay 5 none rX9_laysDisplay E [.ref (h b0)] [C9 E h b0 w0] (none) [C9 E h b0 o] := by
  refine gM.of (by decide +kernel) (Nat.le_of_ble_eq_true rfl) rfl ?_
  intro p e s m below meth c F hr hlk hK hX hAB ls hl H locs hG
  have F : gF p m c cX9_laysDisplay 5 s ([.ref (h b0)] : List Value).toArray RX9 := F
  generalize ([.ref (h b0)] : List Value).toArray = args at F ⊢
  generalize hQ : MQ below _ _ _ _ _ _ = Q
  generalize hA : gAd [C9 E h b0 w0] = A at hAB hG
  have hl : lv_has ls 5 [(0, .ref (h b0))] := hl
  have hx := F.1
  have hb := F.2.1
  unfold f_X9_laysDisplay at hf
  refine lv_aload_n hx hb dX9_laysDisplay_0 rfl (lv_at hl 0 rfl) ?_
  refine g_get F hK hG.1 0 0 0 flX9_7 rfl rfl rfl dX9_laysDisplay_1 ?_
  refine lv_iconst (v := 4) hx hb dX9_laysDisplay_4 (by decide) ?_
  obtain ⟨x1, hx1, hf⟩ := g_bnd hf
  refine g_iald F hK hG.1 0 1 rfl rfl hx1 dX9_laysDisplay_5 ?_
  obtain ⟨j2, hf, hfj2⟩ := g_bnd hf
  have hJj2 : ∀ (H : Heap) (locs : List Loc), gS E A s.heap [C9 E h b0 w0] H locs → ∀ ls : Array Slot, lv_has ls 5 [(0, .ref (h b0))] → W p l e rX9_laysDisplay s m args below meth c H locs 0 0 Q (F0 m 21 ls [.int j2]) := by
    intro H locs hG ls hl
    have hf := hfj2
    refine lv_istore_n (lv' := [(1, .int j2), (0, .ref (h b0))]) hx hb dX9_laysDisplay_21 rfl hl (by decide) rfl (fun ls hl => ?_)
    refine lv_iload_n hx hb dX9_laysDisplay_22 rfl (lv_at hl 0 rfl) ?_
    obtain ⟨j6, hf, hfj6⟩ := g_bnd hf
    have hJj6 : ∀ (H : Heap) (locs : List Loc), gS E A s.heap [C9 E h b0 w0] H locs → ∀ ls : Array Slot, lv_has ls 5 [(0, .ref (h b0)), (1, .int j2)] → W p l e rX9_laysDisplay s m args below meth c H locs 0 0 Q (F0 m 41 ls [.int j6]) := by
      intro H locs hG ls hl
      have hf := hfj6
      refine lv_istore_n (lv' := [(2, .int j6), (0, .ref (h b0)), (1, .int j2)]) hx hb dX9_laysDisplay_41 rfl hl (by decide) rfl (fun ls hl => ?_)
      refine lv_aload_n hx hb dX9_laysDisplay_42 rfl (lv_at hl 1 rfl) ?_
      refine lv_iload_n hx hb dX9_laysDisplay_43 rfl (lv_at hl 2 rfl) ?_
      obtain ⟨j10, hf, hfj10⟩ := g_bnd hf
      have hJj10 : ∀ (H : Heap) (locs : List Loc), gS E A s.heap [C9 E h b0 w0] H locs → ∀ ls : Array Slot, lv_has ls 5 [(0, .ref (h b0)), (1, .int j2), (2, .int j6)] → W p l e rX9_laysDisplay s m args below meth c H locs 0 0 Q (F0 m 63 ls [.int j10, .ref (h b0)]) := by
        intro H locs hG ls hl
        have hf := hfj10
        refine g_put F hK hG 0 0 6 pfX9_92 rfl rfl (Nat.le_of_ble_eq_true rfl) rfl rfl dX9_laysDisplay_63 (fun H locs hG => ?_)
        have hG : gS E A s.heap [C9 E h b0 (w0.1, w0.2.1, w0.2.2.1, w0.2.2.2.1, w0.2.2.2.2.1, w0.2.2.2.2.2.1, j10, w0.2.2.2.2.2.2.2.1, w0.2.2.2.2.2.2.2.2.1, w0.2.2.2.2.2.2.2.2.2)] H locs := hG
        refine lv_iconst (v := 0) hx hb dX9_laysDisplay_66 (by decide) ?_
        refine lv_istore_n (lv' := [(3, .int 0), (0, .ref (h b0)), (1, .int j2), (2, .int j6)]) hx hb dX9_laysDisplay_67 rfl hl (by decide) rfl (fun ls hl => ?_)
        refine lp_rule (fun (v14 : Int32 × T9) => ∀ (H : Heap) (locs : List Loc), gS E A s.heap [C9 E h b0 v14.2] H locs → ∀ ls : Array Slot, lv_has ls 5 [(0, .ref (h b0)), (1, .int j2), (2, .int j6), (3, .int v14.1)] → W p l e rX9_laysDisplay s m args below meth c H locs 0 0 Q (F0 m 68 ls [])) ?_ _ _ hf _ _ hG ls (lv_sub hl [1, 2, 3, 0] rfl)
        intro v14 y hf hbackv14 hexitv14 H locs hG ls hl
        refine lv_iload_n hx hb dX9_laysDisplay_68 rfl (lv_at hl 3 rfl) ?_
        refine lv_aload_n hx hb dX9_laysDisplay_69 rfl (lv_at hl 0 rfl) ?_
        refine g_get F hK hG.1 0 0 6 flX9_92 rfl rfl rfl dX9_laysDisplay_70 ?_
        refine lv_icmp_ge (tgt := 140) hx hb dX9_laysDisplay_73 (by decide) (fun c16 => ?_) (fun c16 => ?_)
        · have hf := g_it c16 hf
          have ho := hexitv14 _ (Option.some.inj hf).symm
          subst hA
          rw [← hQ, ← ho]
          exact g_mretV F hr hlk hG dX9_laysDisplay_140
        · have hf := g_if c16 hf
          refine lv_iload_n hx hb dX9_laysDisplay_76 rfl (lv_at hl 1 rfl) ?_
          obtain ⟨j17, hf, hfj17⟩ := g_bnd hf
          have hJj17 : ∀ (H : Heap) (locs : List Loc), gS E A s.heap [C9 E h b0 v14.2] H locs → ∀ ls : Array Slot, lv_has ls 5 [(0, .ref (h b0)), (1, .int j2), (2, .int j6), (3, .int v14.1)] → W p l e rX9_laysDisplay s m args below meth c H locs 0 0 Q (F0 m 93 ls [.int j17]) := by
            intro H locs hG ls hl
            have hf := hfj17
            refine lv_istore (lv' := [(4, .int j17), (0, .ref (h b0)), (1, .int j2), (2, .int j6), (3, .int v14.1)]) hx hb dX9_laysDisplay_93 hl (by decide) rfl (fun ls hl => ?_)
            refine lv_aload_n hx hb dX9_laysDisplay_95 rfl (lv_at hl 1 rfl) ?_
            refine g_get F hK hG.1 0 0 5 flX9_19 rfl rfl rfl dX9_laysDisplay_96 ?_
            refine lv_iload_n hx hb dX9_laysDisplay_99 rfl (lv_at hl 4 rfl) ?_
            refine lv_iload_n hx hb dX9_laysDisplay_100 rfl (lv_at hl 2 rfl) ?_
            obtain ⟨j20, hf, hfj20⟩ := g_bnd hf
            have hJj20 : ∀ (H : Heap) (locs : List Loc), gS E A s.heap [C9 E h b0 v14.2] H locs → ∀ ls : Array Slot, lv_has ls 5 [(0, .ref (h b0)), (1, .int j2), (2, .int j6), (3, .int v14.1)] → W p l e rX9_laysDisplay s m args below meth c H locs 0 0 Q (F0 m 133 ls [.int j20, .int v14.1, .ref (h (b0+4))]) := by
              intro H locs hG ls hl
              have hf := hfj20
              obtain ⟨x25, hx25, hf⟩ := g_bnd hf
              refine g_iast F hK hG 0 4 rfl rfl hx25 dX9_laysDisplay_133 (fun H locs hG => ?_)
              have hG : gS E A s.heap [C9 E h b0 (v14.2.1, v14.2.2.1, v14.2.2.2.1, v14.2.2.2.2.1, v14.2.2.2.2.2.1, x25, v14.2.2.2.2.2.2.2.1, v14.2.2.2.2.2.2.2.2.1, v14.2.2.2.2.2.2.2.2.2.1, v14.2.2.2.2.2.2.2.2.2.2)] H locs := hG
              refine lv_iinc (v := (v14.1 + 1)) (lv' := [(3, .int (v14.1 + 1)), (0, .ref (h b0)), (1, .int j2), (2, .int j6)]) hx hb dX9_laysDisplay_134 hl (k := 3) rfl rfl (by decide) rfl (fun ls hl => ?_)
              refine lv_goto (tgt := 68) hx hb dX9_laysDisplay_137 (by decide) ?_
              exact hbackv14 _ (Option.some.inj hf).symm _ _ hG ls (lv_sub hl [1, 2, 3, 0] rfl)
            refine lv_if_eq (tgt := 113) hx hb dX9_laysDisplay_101 (by decide) (fun c21 => ?_) (fun c21 => ?_)
            · have hf := g_it c21 hf
              refine lv_iload hx hb dX9_laysDisplay_113 (lv_at hl 0 rfl) ?_
              refine lv_bipush (v := 100) hx hb dX9_laysDisplay_115 (by decide) ?_
              refine lv_icmp_lt (tgt := 128) hx hb dX9_laysDisplay_117 (by decide) (fun c22 => ?_) (fun c22 => ?_)
              · have hf := g_it c22 hf
                refine lv_iload hx hb dX9_laysDisplay_128 (lv_at hl 0 rfl) ?_
                obtain ⟨x23, hx23, hf⟩ := g_bnd hf
                refine g_rs (As := [.int j17]) (rest := [.int v14.1, .ref (h (b0+4))]) F hK (hG.X hX hAB) hG.1 [] rfl (c_X9_firstOf h j17 hx23) (kX9_36 F.2.2.2.2 ⟨Nat.le_of_ble_eq_true rfl, Nat.le_of_ble_eq_true rfl⟩) rfl hl.1 rfl (lv_room (Nat.le_of_ble_eq_true rfl)) ⟨Nat.zero_le _, Nat.zero_le _⟩ dX9_laysDisplay_130 ?_
                obtain rfl := Option.some.inj hf
                exact hJj20 _ _ hG ls (lv_sub hl [1, 2, 3, 4] rfl)
              · have hf := g_if c22 hf
                refine lv_iload hx hb dX9_laysDisplay_120 (lv_at hl 0 rfl) ?_
                refine lv_bipush (v := 100) hx hb dX9_laysDisplay_122 (by decide) ?_
                refine lv_isub hx hb dX9_laysDisplay_124 ?_
                refine lv_goto (tgt := 133) hx hb dX9_laysDisplay_125 (by decide) ?_
                obtain rfl := Option.some.inj hf
                exact hJj20 _ _ hG ls (lv_sub hl [1, 2, 3, 4] rfl)
            · have hf := g_if c21 hf
              refine lv_aload_n hx hb dX9_laysDisplay_104 rfl (lv_at hl 1 rfl) ?_
              refine lv_iload_n hx hb dX9_laysDisplay_105 rfl (lv_at hl 3 rfl) ?_
              refine lv_iload_n hx hb dX9_laysDisplay_106 rfl (lv_at hl 4 rfl) ?_
              obtain ⟨x24, hx24, hf⟩ := g_bnd hf
              refine g_rv (As := [.int j6, .int v14.1]) (rest := [.int v14.1, .ref (h (b0+4))]) F hK (hG.X hX hAB) hG.1 [0] rfl (c_X9_letterOf h b0 v14.2 j6 v14.1 hx24) (kX9_53 F.2.2.2.2 ⟨Nat.le_of_ble_eq_true rfl, Nat.le_of_ble_eq_true rfl⟩) rfl rfl rfl rfl hl.1 rfl (lv_room (Nat.le_of_ble_eq_true rfl)) ⟨Nat.zero_le _, Nat.zero_le _⟩ dX9_laysDisplay_107 ?_
              refine lv_goto (tgt := 133) hx hb dX9_laysDisplay_110 (by decide) ?_
              obtain rfl := Option.some.inj hf
              exact hJj20 _ _ hG ls (lv_sub hl [1, 2, 3, 4] rfl)
          refine lv_if_eq (tgt := 84) hx hb dX9_laysDisplay_77 (by decide) (fun c18 => ?_) (fun c18 => ?_)
          · have hf := g_it c18 hf
            refine lv_aload_n hx hb dX9_laysDisplay_84 rfl (lv_at hl 0 rfl) ?_
            refine g_get F hK hG.1 0 0 0 flX9_7 rfl rfl rfl dX9_laysDisplay_85 ?_
            refine lv_bipush (v := 10) hx hb dX9_laysDisplay_88 (by decide) ?_
            refine lv_iload_n hx hb dX9_laysDisplay_90 rfl (lv_at hl 3 rfl) ?_
            refine lv_iadd hx hb dX9_laysDisplay_91 ?_
            obtain ⟨x19, hx19, hf⟩ := g_bnd hf
            refine g_iald F hK hG.1 0 1 rfl rfl hx19 dX9_laysDisplay_92 ?_
            obtain rfl := Option.some.inj hf
            exact hJj17 _ _ hG ls (lv_sub hl [0, 1, 2, 3] rfl)
          · have hf := g_if c18 hf
            refine lv_iconst (v := 0) hx hb dX9_laysDisplay_80 (by decide) ?_
            refine lv_goto (tgt := 93) hx hb dX9_laysDisplay_81 (by decide) ?_
            obtain rfl := Option.some.inj hf
            exact hJj17 _ _ hG ls (lv_sub hl [0, 1, 2, 3] rfl)
      refine lv_if_eq (tgt := 56) hx hb dX9_laysDisplay_44 (by decide) (fun c11 => ?_) (fun c11 => ?_)
      · have hf := g_it c11 hf
        refine lv_aload_n hx hb dX9_laysDisplay_56 rfl (lv_at hl 1 rfl) ?_
        refine g_get F hK hG.1 0 0 0 flX9_7 rfl rfl rfl dX9_laysDisplay_57 ?_
        refine lv_bipush (v := 6) hx hb dX9_laysDisplay_60 (by decide) ?_
        obtain ⟨x12, hx12, hf⟩ := g_bnd hf
        refine g_iald F hK hG.1 0 1 rfl rfl hx12 dX9_laysDisplay_62 ?_
        obtain rfl := Option.some.inj hf
        exact hJj10 _ _ hG ls (lv_sub hl [1, 2, 0] rfl)
      · have hf := g_if c11 hf
        refine lv_aload_n hx hb dX9_laysDisplay_47 rfl (lv_at hl 1 rfl) ?_
        refine lv_iload_n hx hb dX9_laysDisplay_48 rfl (lv_at hl 0 rfl) ?_
        refine lv_iconst (v := 0) hx hb dX9_laysDisplay_49 (by decide) ?_
        obtain ⟨x13, hx13, hf⟩ := g_bnd hf
        refine g_rv (As := [.int j6, .int 0]) (rest := [.ref (h b0)]) F hK (hG.X hX hAB) hG.1 [0] rfl (c_X9_of h b0 w0 j6 0 hx13) (kX9_50 F.2.2.2.2 ⟨Nat.le_of_ble_eq_true rfl, Nat.le_of_ble_eq_true rfl⟩) rfl rfl rfl rfl hl.1 rfl (lv_room (Nat.le_of_ble_eq_true rfl)) ⟨Nat.zero_le _, Nat.zero_le _⟩ dX9_laysDisplay_50 ?_
        refine lv_goto (tgt := 63) hx hb dX9_laysDisplay_53 (by decide) ?_
        obtain rfl := Option.some.inj hf
        exact hJj10 _ _ hG ls (lv_sub hl [1, 2, 0] rfl)
    refine lv_if_eq (tgt := 40) hx hb dX9_laysDisplay_23 (by decide) (fun c7 => ?_) (fun c7 => ?_)
    · have hf := g_it c7 hf
      refine lv_iconst (v := (-1)) hx hb dX9_laysDisplay_40 (by decide) ?_
      obtain rfl := Option.some.inj hf
      exact hJj6 _ _ hG ls (lv_sub hl [1, 0] rfl)
    · have hf := g_if c7 hf
      refine lv_aload_n hx hb dX9_laysDisplay_26 rfl (lv_at hl 1 rfl) ?_
      refine lv_aload_n hx hb dX9_laysDisplay_27 rfl (lv_at hl 1 rfl) ?_
      refine g_get F hK hG.1 0 0 0 flX9_7 rfl rfl rfl dX9_laysDisplay_28 ?_
      refine lv_bipush (v := 7) hx hb dX9_laysDisplay_31 (by decide) ?_
      obtain ⟨x8, hx8, hf⟩ := g_bnd hf
      refine g_iald F hK hG.1 0 1 rfl rfl hx8 dX9_laysDisplay_33 ?_
      obtain ⟨x9, hx9, hf⟩ := g_bnd hf
      refine g_rv (As := [.int x8]) (rest := []) F hK (hG.X hX hAB) hG.1 [0] rfl (c_X9_candidateAt h b0 w0 x8 hx9) (kX9_89 F.2.2.2.2 ⟨Nat.le_of_ble_eq_true rfl, Nat.le_of_ble_eq_true rfl⟩) rfl rfl rfl rfl hl.1 rfl (lv_room (Nat.le_of_ble_eq_true rfl)) ⟨Nat.zero_le _, Nat.zero_le _⟩ dX9_laysDisplay_34 ?_
      refine lv_goto (tgt := 41) hx hb dX9_laysDisplay_37 (by decide) ?_
      obtain rfl := Option.some.inj hf
      exact hJj6 _ _ hG ls (lv_sub hl [1, 0] rfl)
  refine lv_if_ne (tgt := 20) hx hb dX9_laysDisplay_6 (by decide) (fun c3 => ?_) (fun c3 => ?_)
  · have hf := g_if c3 hf
    refine lv_iconst (v := 0) hx hb dX9_laysDisplay_20 (by decide) ?_
    obtain rfl := Option.some.inj hf
    exact hJj2 _ _ hG ls (lv_sub hl [0] rfl)
  · have hf := g_it c3 hf
    refine lv_aload_n hx hb dX9_laysDisplay_9 rfl (lv_at hl 0 rfl) ?_
    obtain ⟨x4, hx4, hf⟩ := g_bnd hf
    refine g_rv (As := []) (rest := []) F hK (hG.X hX hAB) hG.1 [0] rfl (c_X9_candidates h b0 w0 hx4) (kX9_85 F.2.2.2.2 ⟨Nat.le_of_ble_eq_true rfl, Nat.le_of_ble_eq_true rfl⟩) rfl rfl rfl rfl hl.1 rfl (lv_room (Nat.le_of_ble_eq_true rfl)) ⟨Nat.zero_le _, Nat.zero_le _⟩ dX9_laysDisplay_10 ?_
    refine lv_if_le (tgt := 20) hx hb dX9_laysDisplay_13 (by decide) (fun c5 => ?_) (fun c5 => ?_)
    · have hf := g_it c5 hf
      refine lv_iconst (v := 0) hx hb dX9_laysDisplay_20 (by decide) ?_
      obtain rfl := Option.some.inj hf
      exact hJj2 _ _ hG ls (lv_sub hl [0] rfl)
    · have hf := g_if c5 hf
      refine lv_iconst (v := 1) hx hb dX9_laysDisplay_16 (by decide) ?_
      refine lv_goto (tgt := 21) hx hb dX9_laysDisplay_17 (by decide) ?_
      obtain rfl := Option.some.inj hf
      exact hJj2 _ _ hG ls (lv_sub hl [0] rfl)
set_option maxHeartbeats 4000000 in
set_option maxRecDepth 100000 in
theorem c_X9_setWays {l : Launch} {E : gEnv} (h : Nat → Nat) (b0 : Nat) (w0 : T9) (a1 : Int32) (a2 : Int32) {o : Int32 × T9} (hf : f_X9_setWays w0 a1 a2 = some o) : gM l yX9_setWays cX9_setWays 4 (some .int) rX9_setWays E [.ref (h b0), .int a1, .int a2] [C9 E h b0 w0] (some (.int o.1)) [C9 E h b0 o.2] := by
  refine gM.of (by decide +kernel) (Nat.le_of_ble_eq_true rfl) rfl ?_
  intro p e s m below meth c F hr hlk hK hX hAB ls hl H locs hG
  have F : gF p m c cX9_setWays 4 s ([.ref (h b0), .int a1, .int a2] : List Value).toArray RX9 := F
  generalize ([.ref (h b0), .int a1, .int a2] : List Value).toArray = args at F ⊢
  generalize hQ : MQ below _ _ _ _ _ _ = Q
  generalize hA : gAd [C9 E h b0 w0] = A at hAB hG
  have hl : lv_has ls 4 [(0, .ref (h b0)), (1, .int a1), (2, .int a2)] := hl
  have hx := F.1
  have hb := F.2.1
  unfold f_X9_setWays at hf
  refine lv_aload_n hx hb dX9_setWays_0 rfl (lv_at hl 0 rfl) ?_
  refine lv_iload_n hx hb dX9_setWays_1 rfl (lv_at hl 2 rfl) ?_
  refine lv_i2l hx hb dX9_setWays_2 rfl ?_
  refine lv_lconst (v := 1) hx hb dX9_setWays_3 rfl ?_
  refine lv_ldc2 (v := 50) hx hb F.2.2.2.1 (F.2.2.2.2 _ gw_927) dX9_setWays_4 ?_
  obtain ⟨x1, hx1, hf⟩ := g_bnd hf
  refine g_rs (As := [.long a2.toInt64, .long 1, .long 50]) (rest := [.ref (h b0)]) F hK (hG.X hX hAB) hG.1 [] rfl (c_X9_in h a2.toInt64 1 50 hx1) (kX9_46 F.2.2.2.2 ⟨Nat.le_of_ble_eq_true rfl, Nat.le_of_ble_eq_true rfl⟩) rfl hl.1 rfl (lv_room (Nat.le_of_ble_eq_true rfl)) ⟨Nat.zero_le _, Nat.zero_le _⟩ dX9_setWays_7 ?_
  refine lv_iconst (v := 1) hx hb dX9_setWays_10 (by decide) ?_
  obtain ⟨x2, hx2, hf⟩ := g_bnd hf
  refine g_mv (S' := [C9 E h b0 x2.2]) (As := [.int x1, .int 1]) (rest := []) F hK hX hAB hG [0] rfl rfl (c_X9_goes h b0 w0 x1 1 hx2) rfl (kX9_72 F.2.2.2.2 ⟨Nat.le_of_ble_eq_true rfl, Nat.le_of_ble_eq_true rfl⟩) rfl rfl rfl rfl hl.1 rfl (lv_room (Nat.le_of_ble_eq_true rfl)) ⟨Nat.zero_le _, Nat.zero_le _⟩ dX9_setWays_11 (fun H locs hG => ?_)
  refine lv_if_ne (tgt := 19) hx hb dX9_setWays_14 (by decide) (fun c3 => ?_) (fun c3 => ?_)
  · have hf := g_if c3 hf
    refine lv_aload_n hx hb dX9_setWays_19 rfl (lv_at hl 0 rfl) ?_
    obtain ⟨x4, hx4, hf⟩ := g_bnd hf
    refine g_mvv (S' := [C9 E h b0 x4]) (As := []) (rest := []) F hK hX hAB hG [0] rfl rfl (c_X9_save h b0 x2.2 hx4) rfl (kX9_97 F.2.2.2.2 ⟨Nat.le_of_ble_eq_true rfl, Nat.le_of_ble_eq_true rfl⟩) rfl rfl rfl rfl hl.1 rfl (lv_room (Nat.le_of_ble_eq_true rfl)) ⟨Nat.zero_le _, Nat.zero_le _⟩ dX9_setWays_20 (fun H locs hG => ?_)
    refine lv_aload_n hx hb dX9_setWays_23 rfl (lv_at hl 0 rfl) ?_
    refine g_get F hK hG.1 0 0 0 flX9_7 rfl rfl rfl dX9_setWays_24 ?_
    refine lv_iconst (v := 2) hx hb dX9_setWays_27 (by decide) ?_
    obtain ⟨x5, hx5, hf⟩ := g_bnd hf
    refine g_iald F hK hG.1 0 1 rfl rfl hx5 dX9_setWays_28 ?_
    refine lv_istore_n (lv' := [(3, .int x5), (0, .ref (h b0)), (1, .int a1), (2, .int a2)]) hx hb dX9_setWays_29 rfl hl (by decide) rfl (fun ls hl => ?_)
    refine lv_aload_n hx hb dX9_setWays_30 rfl (lv_at hl 1 rfl) ?_
    refine g_get F hK hG.1 0 0 0 flX9_7 rfl rfl rfl dX9_setWays_31 ?_
    refine lv_iconst (v := 2) hx hb dX9_setWays_34 (by decide) ?_
    refine lv_iload_n hx hb dX9_setWays_35 rfl (lv_at hl 3 rfl) ?_
    obtain ⟨x6, hx6, hf⟩ := g_bnd hf
    refine g_iast F hK hG 0 1 rfl rfl hx6 dX9_setWays_36 (fun H locs hG => ?_)
    have hG : gS E A s.heap [C9 E h b0 (x6, x4.2.1, x4.2.2.1, x4.2.2.2.1, x4.2.2.2.2.1, x4.2.2.2.2.2.1, x4.2.2.2.2.2.2.1, x4.2.2.2.2.2.2.2.1, x4.2.2.2.2.2.2.2.2.1, x4.2.2.2.2.2.2.2.2.2)] H locs := hG
    refine lv_aload_n hx hb dX9_setWays_37 rfl (lv_at hl 1 rfl) ?_
    refine g_get F hK hG.1 0 0 0 flX9_7 rfl rfl rfl dX9_setWays_38 ?_
    refine lv_iconst (v := 3) hx hb dX9_setWays_41 (by decide) ?_
    refine lv_iload_n hx hb dX9_setWays_42 rfl (lv_at hl 2 rfl) ?_
    obtain ⟨j7, hf, hfj7⟩ := g_bnd hf
    have hJj7 : ∀ (H : Heap) (locs : List Loc), gS E A s.heap [C9 E h b0 (x6, x4.2.1, x4.2.2.1, x4.2.2.2.1, x4.2.2.2.2.1, x4.2.2.2.2.2.1, x4.2.2.2.2.2.2.1, x4.2.2.2.2.2.2.2.1, x4.2.2.2.2.2.2.2.2.1, x4.2.2.2.2.2.2.2.2.2)] H locs → ∀ ls : Array Slot, lv_has ls 4 [(0, .ref (h b0)), (3, .int x5)] → W p l e rX9_setWays s m args below meth c H locs 0 0 Q (F0 m 51 ls [.int j7, .int 3, .ref (h (b0+1))]) := by
      intro H locs hG ls hl
      have hf := hfj7
      obtain ⟨x9, hx9, hf⟩ := g_bnd hf
      refine g_iast F hK hG 0 1 rfl rfl hx9 dX9_setWays_51 (fun H locs hG => ?_)
      have hG : gS E A s.heap [C9 E h b0 (x9, x4.2.1, x4.2.2.1, x4.2.2.2.1, x4.2.2.2.2.1, x4.2.2.2.2.2.1, x4.2.2.2.2.2.2.1, x4.2.2.2.2.2.2.2.1, x4.2.2.2.2.2.2.2.2.1, x4.2.2.2.2.2.2.2.2.2)] H locs := hG
      refine lv_aload_n hx hb dX9_setWays_52 rfl (lv_at hl 0 rfl) ?_
      refine g_get F hK hG.1 0 0 0 flX9_7 rfl rfl rfl dX9_setWays_53 ?_
      refine lv_bipush (v := 7) hx hb dX9_setWays_56 (by decide) ?_
      refine lv_iconst (v := 0) hx hb dX9_setWays_58 (by decide) ?_
      obtain ⟨x10, hx10, hf⟩ := g_bnd hf
      refine g_iast F hK hG 0 1 rfl rfl hx10 dX9_setWays_59 (fun H locs hG => ?_)
      have hG : gS E A s.heap [C9 E h b0 (x10, x4.2.1, x4.2.2.1, x4.2.2.2.1, x4.2.2.2.2.1, x4.2.2.2.2.2.1, x4.2.2.2.2.2.2.1, x4.2.2.2.2.2.2.2.1, x4.2.2.2.2.2.2.2.2.1, x4.2.2.2.2.2.2.2.2.2)] H locs := hG
      refine lv_iload_n hx hb dX9_setWays_60 rfl (lv_at hl 1 rfl) ?_
      have ho := Option.some.inj hf
      subst hA
      rw [← hQ, ← ho]
      exact g_mretI F hr hlk hG dX9_setWays_61
    refine lv_if_eq (tgt := 50) hx hb dX9_setWays_43 (by decide) (fun c8 => ?_) (fun c8 => ?_)
    · have hf := g_it c8 hf
      refine lv_iconst (v := 0) hx hb dX9_setWays_50 (by decide) ?_
      obtain rfl := Option.some.inj hf
      exact hJj7 _ _ hG ls (lv_sub hl [1, 0] rfl)
    · have hf := g_if c8 hf
      refine lv_iconst (v := 1) hx hb dX9_setWays_46 (by decide) ?_
      refine lv_goto (tgt := 51) hx hb dX9_setWays_47 (by decide) ?_
      obtain rfl := Option.some.inj hf
      exact hJj7 _ _ hG ls (lv_sub hl [1, 0] rfl)
  · have hf := g_it c3 hf
    refine lv_iconst (v := 0) hx hb dX9_setWays_17 (by decide) ?_
    have ho := Option.some.inj hf
    subst hA
    rw [← hQ, ← ho]
    exact g_mretI F hr hlk hG dX9_setWays_18
set_option maxHeartbeats 4000000 in
set_option maxRecDepth 100000 in
theorem c_X9_press {l : Launch} {E : gEnv} (h : Nat → Nat) (b0 : Nat) (w0 : T9) (a1 : Int32) {o : Int32 × T9} (hf : f_X9_press w0 a1 = some o) : gM l yX9_press cX9_press 4 (some .int) rX9_press E [.ref (h b0), .int a1] [C9 E h b0 w0] (some (.int o.1)) [C9 E h b0 o.2] := by
  refine gM.of (by decide +kernel) (Nat.le_of_ble_eq_true rfl) rfl ?_
  intro p e s m below meth c F hr hlk hK hX hAB ls hl H locs hG
  have F : gF p m c cX9_press 4 s ([.ref (h b0), .int a1] : List Value).toArray RX9 := F
  generalize ([.ref (h b0), .int a1] : List Value).toArray = args at F ⊢
  generalize hQ : MQ below _ _ _ _ _ _ = Q
  generalize hA : gAd [C9 E h b0 w0] = A at hAB hG
  have hl : lv_has ls 4 [(0, .ref (h b0)), (1, .int a1)] := hl
  have hx := F.1
  have hb := F.2.1
  unfold f_X9_press at hf
  refine lv_aload_n hx hb dX9_press_0 rfl (lv_at hl 0 rfl) ?_
  refine g_get F hK hG.1 0 0 0 flX9_7 rfl rfl rfl dX9_press_1 ?_
  refine lv_iconst (v := 4) hx hb dX9_press_4 (by decide) ?_
  obtain ⟨x1, hx1, hf⟩ := g_bnd hf
  refine g_iald F hK hG.1 0 1 rfl rfl hx1 dX9_press_5 ?_
  refine lv_iconst (v := 1) hx hb dX9_press_6 (by decide) ?_
  obtain ⟨j2, hf, hfj2⟩ := g_bnd hf
  have hJj2 : ∀ (H : Heap) (locs : List Loc), gS E A s.heap [C9 E h b0 w0] H locs → ∀ ls : Array Slot, lv_has ls 4 [(0, .ref (h b0)), (1, .int a1)] → W p l e rX9_press s m args below meth c H locs 0 0 Q (F0 m 25 ls [.int j2]) := by
    intro H locs hG ls hl
    have hf := hfj2
    refine lv_istore_n (lv' := [(2, .int j2), (0, .ref (h b0)), (1, .int a1)]) hx hb dX9_press_25 rfl hl (by decide) rfl (fun ls hl => ?_)
    refine lv_aload_n hx hb dX9_press_26 rfl (lv_at hl 1 rfl) ?_
    refine lv_iload_n hx hb dX9_press_27 rfl (lv_at hl 2 rfl) ?_
    refine lv_i2l hx hb dX9_press_28 rfl ?_
    refine lv_ldc2 (v := 2) hx hb F.2.2.2.1 (F.2.2.2.2 _ gw_936) dX9_press_29 ?_
    refine lv_ldc2 (v := 9) hx hb F.2.2.2.1 (F.2.2.2.2 _ gw_937) dX9_press_32 ?_
    obtain ⟨x6, hx6, hf⟩ := g_bnd hf
    refine g_rs (As := [.long a1.toInt64, .long 2, .long 9]) (rest := [.ref (h b0)]) F hK (hG.X hX hAB) hG.1 [] rfl (c_X9_in h a1.toInt64 2 9 hx6) (kX9_46 F.2.2.2.2 ⟨Nat.le_of_ble_eq_true rfl, Nat.le_of_ble_eq_true rfl⟩) rfl hl.1 rfl (lv_room (Nat.le_of_ble_eq_true rfl)) ⟨Nat.zero_le _, Nat.zero_le _⟩ dX9_press_35 ?_
    refine lv_iload_n hx hb dX9_press_38 rfl (lv_at hl 0 rfl) ?_
    obtain ⟨j7, hf, hfj7⟩ := g_bnd hf
    have hJj7 : ∀ (H : Heap) (locs : List Loc), gS E A s.heap [C9 E h b0 w0] H locs → ∀ ls : Array Slot, lv_has ls 4 [(0, .ref (h b0)), (1, .int a1), (2, .int j2)] → W p l e rX9_press s m args below meth c H locs 0 0 Q (F0 m 59 ls [.int j7, .int x6, .ref (h b0)]) := by
      intro H locs hG ls hl
      have hf := hfj7
      obtain ⟨x11, hx11, hf⟩ := g_bnd hf
      refine g_mv (S' := [C9 E h b0 x11.2]) (As := [.int x6, .int j7]) (rest := []) F hK hX hAB hG [0] rfl rfl (c_X9_goes h b0 w0 x6 j7 hx11) rfl (kX9_72 F.2.2.2.2 ⟨Nat.le_of_ble_eq_true rfl, Nat.le_of_ble_eq_true rfl⟩) rfl rfl rfl rfl hl.1 rfl (lv_room (Nat.le_of_ble_eq_true rfl)) ⟨Nat.zero_le _, Nat.zero_le _⟩ dX9_press_59 (fun H locs hG => ?_)
      refine lv_if_ne (tgt := 67) hx hb dX9_press_62 (by decide) (fun c12 => ?_) (fun c12 => ?_)
      · have hf := g_if c12 hf
        refine lv_aload_n hx hb dX9_press_67 rfl (lv_at hl 0 rfl) ?_
        obtain ⟨x13, hx13, hf⟩ := g_bnd hf
        refine g_mvv (S' := [C9 E h b0 x13]) (As := []) (rest := []) F hK hX hAB hG [0] rfl rfl (c_X9_save h b0 x11.2 hx13) rfl (kX9_97 F.2.2.2.2 ⟨Nat.le_of_ble_eq_true rfl, Nat.le_of_ble_eq_true rfl⟩) rfl rfl rfl rfl hl.1 rfl (lv_room (Nat.le_of_ble_eq_true rfl)) ⟨Nat.zero_le _, Nat.zero_le _⟩ dX9_press_68 (fun H locs hG => ?_)
        refine lv_aload_n hx hb dX9_press_71 rfl (lv_at hl 0 rfl) ?_
        refine g_get F hK hG.1 0 0 0 flX9_7 rfl rfl rfl dX9_press_72 ?_
        refine lv_bipush (v := 7) hx hb dX9_press_75 (by decide) ?_
        refine lv_iconst (v := 0) hx hb dX9_press_77 (by decide) ?_
        obtain ⟨x14, hx14, hf⟩ := g_bnd hf
        refine g_iast F hK hG 0 1 rfl rfl hx14 dX9_press_78 (fun H locs hG => ?_)
        have hG : gS E A s.heap [C9 E h b0 (x14, x13.2.1, x13.2.2.1, x13.2.2.2.1, x13.2.2.2.2.1, x13.2.2.2.2.2.1, x13.2.2.2.2.2.2.1, x13.2.2.2.2.2.2.2.1, x13.2.2.2.2.2.2.2.2.1, x13.2.2.2.2.2.2.2.2.2)] H locs := hG
        refine lv_iload_n hx hb dX9_press_79 rfl (lv_at hl 2 rfl) ?_
        refine lv_if_eq (tgt := 125) hx hb dX9_press_80 (by decide) (fun c15 => ?_) (fun c15 => ?_)
        · have hf := g_it c15 hf
          refine lv_aload_n hx hb dX9_press_125 rfl (lv_at hl 0 rfl) ?_
          refine g_get F hK hG.1 0 0 0 flX9_7 rfl rfl rfl dX9_press_126 ?_
          refine lv_bipush (v := 10) hx hb dX9_press_129 (by decide) ?_
          refine lv_aload_n hx hb dX9_press_131 rfl (lv_at hl 0 rfl) ?_
          refine g_get F hK hG.1 0 0 0 flX9_7 rfl rfl rfl dX9_press_132 ?_
          refine lv_bipush (v := 6) hx hb dX9_press_135 (by decide) ?_
          obtain ⟨x16, hx16, hf⟩ := g_bnd hf
          refine g_iald F hK hG.1 0 1 rfl rfl hx16 dX9_press_137 ?_
          refine lv_iadd hx hb dX9_press_138 ?_
          refine lv_aload_n hx hb dX9_press_139 rfl (lv_at hl 0 rfl) ?_
          refine g_get F hK hG.1 0 0 0 flX9_7 rfl rfl rfl dX9_press_140 ?_
          refine lv_iconst (v := 4) hx hb dX9_press_143 (by decide) ?_
          obtain ⟨x17, hx17, hf⟩ := g_bnd hf
          refine g_iald F hK hG.1 0 1 rfl rfl hx17 dX9_press_144 ?_
          refine lv_iconst (v := 1) hx hb dX9_press_145 (by decide) ?_
          obtain ⟨j18, hf, hfj18⟩ := g_bnd hf
          have hJj18 : ∀ (H : Heap) (locs : List Loc), gS E A s.heap [C9 E h b0 (x14, x13.2.1, x13.2.2.1, x13.2.2.2.1, x13.2.2.2.2.1, x13.2.2.2.2.2.1, x13.2.2.2.2.2.2.1, x13.2.2.2.2.2.2.2.1, x13.2.2.2.2.2.2.2.2.1, x13.2.2.2.2.2.2.2.2.2)] H locs → ∀ ls : Array Slot, lv_has ls 4 [(0, .ref (h b0)), (1, .int a1)] → W p l e rX9_press s m args below meth c H locs 0 0 Q (F0 m 160 ls [.int j18, .int (10 + x16), .ref (h (b0+1))]) := by
            intro H locs hG ls hl
            have hf := hfj18
            obtain ⟨x21, hx21, hf⟩ := g_bnd hf
            refine g_iast F hK hG 0 1 rfl rfl hx21 dX9_press_160 (fun H locs hG => ?_)
            have hG : gS E A s.heap [C9 E h b0 (x21, x13.2.1, x13.2.2.1, x13.2.2.2.1, x13.2.2.2.2.1, x13.2.2.2.2.2.1, x13.2.2.2.2.2.2.1, x13.2.2.2.2.2.2.2.1, x13.2.2.2.2.2.2.2.2.1, x13.2.2.2.2.2.2.2.2.2)] H locs := hG
            refine lv_aload_n hx hb dX9_press_161 rfl (lv_at hl 0 rfl) ?_
            refine g_get F hK hG.1 0 0 0 flX9_7 rfl rfl rfl dX9_press_162 ?_
            refine lv_bipush (v := 6) hx hb dX9_press_165 (by decide) ?_
            refine lv_dup2_11 hx hb dX9_press_167 rfl rfl ?_
            obtain ⟨x22, hx22, hf⟩ := g_bnd hf
            refine g_iald F hK hG.1 0 1 rfl rfl hx22 dX9_press_168 ?_
            refine lv_iconst (v := 1) hx hb dX9_press_169 (by decide) ?_
            refine lv_iadd hx hb dX9_press_170 ?_
            obtain ⟨x23, hx23, hf⟩ := g_bnd hf
            refine g_iast F hK hG 0 1 rfl rfl hx23 dX9_press_171 (fun H locs hG => ?_)
            have hG : gS E A s.heap [C9 E h b0 (x23, x13.2.1, x13.2.2.1, x13.2.2.2.1, x13.2.2.2.2.1, x13.2.2.2.2.2.1, x13.2.2.2.2.2.2.1, x13.2.2.2.2.2.2.2.1, x13.2.2.2.2.2.2.2.2.1, x13.2.2.2.2.2.2.2.2.2)] H locs := hG
            refine lv_aload_n hx hb dX9_press_172 rfl (lv_at hl 0 rfl) ?_
            refine g_get F hK hG.1 0 0 0 flX9_7 rfl rfl rfl dX9_press_173 ?_
            refine lv_iconst (v := 5) hx hb dX9_press_176 (by decide) ?_
            refine lv_aload_n hx hb dX9_press_177 rfl (lv_at hl 0 rfl) ?_
            refine g_get F hK hG.1 0 0 0 flX9_7 rfl rfl rfl dX9_press_178 ?_
            refine lv_iconst (v := 4) hx hb dX9_press_181 (by decide) ?_
            obtain ⟨x24, hx24, hf⟩ := g_bnd hf
            refine g_iald F hK hG.1 0 1 rfl rfl hx24 dX9_press_182 ?_
            refine lv_iconst (v := 1) hx hb dX9_press_183 (by decide) ?_
            obtain ⟨j25, hf, hfj25⟩ := g_bnd hf
            have hJj25 : ∀ (H : Heap) (locs : List Loc), gS E A s.heap [C9 E h b0 (x23, x13.2.1, x13.2.2.1, x13.2.2.2.1, x13.2.2.2.2.1, x13.2.2.2.2.2.1, x13.2.2.2.2.2.2.1, x13.2.2.2.2.2.2.2.1, x13.2.2.2.2.2.2.2.2.1, x13.2.2.2.2.2.2.2.2.2)] H locs → ∀ ls : Array Slot, lv_has ls 4 [(0, .ref (h b0))] → W p l e rX9_press s m args below meth c H locs 0 0 Q (F0 m 192 ls [.int j25, .int 5, .ref (h (b0+1))]) := by
              intro H locs hG ls hl
              have hf := hfj25
              obtain ⟨x27, hx27, hf⟩ := g_bnd hf
              refine g_iast F hK hG 0 1 rfl rfl hx27 dX9_press_192 (fun H locs hG => ?_)
              have hG : gS E A s.heap [C9 E h b0 (x27, x13.2.1, x13.2.2.1, x13.2.2.2.1, x13.2.2.2.2.1, x13.2.2.2.2.2.1, x13.2.2.2.2.2.2.1, x13.2.2.2.2.2.2.2.1, x13.2.2.2.2.2.2.2.2.1, x13.2.2.2.2.2.2.2.2.2)] H locs := hG
              refine lv_aload_n hx hb dX9_press_193 rfl (lv_at hl 0 rfl) ?_
              refine g_get F hK hG.1 0 0 0 flX9_7 rfl rfl rfl dX9_press_194 ?_
              refine lv_bipush (v := 6) hx hb dX9_press_197 (by decide) ?_
              obtain ⟨x28, hx28, hf⟩ := g_bnd hf
              refine g_iald F hK hG.1 0 1 rfl rfl hx28 dX9_press_199 ?_
              have ho := Option.some.inj hf
              subst hA
              rw [← hQ, ← ho]
              exact g_mretI F hr hlk hG dX9_press_200
            refine lv_icmp_ne (tgt := 191) hx hb dX9_press_184 (by decide) (fun c26 => ?_) (fun c26 => ?_)
            · have hf := g_if c26 hf
              refine lv_iconst (v := (-1)) hx hb dX9_press_191 (by decide) ?_
              obtain rfl := Option.some.inj hf
              exact hJj25 _ _ hG ls (lv_sub hl [0] rfl)
            · have hf := g_it c26 hf
              refine lv_iload_n hx hb dX9_press_187 rfl (lv_at hl 1 rfl) ?_
              refine lv_goto (tgt := 192) hx hb dX9_press_188 (by decide) ?_
              obtain rfl := Option.some.inj hf
              exact hJj25 _ _ hG ls (lv_sub hl [0] rfl)
          refine lv_icmp_ne (tgt := 159) hx hb dX9_press_146 (by decide) (fun c19 => ?_) (fun c19 => ?_)
          · have hf := g_if c19 hf
            refine lv_iload_n hx hb dX9_press_159 rfl (lv_at hl 1 rfl) ?_
            obtain rfl := Option.some.inj hf
            exact hJj18 _ _ hG ls (lv_sub hl [0, 1] rfl)
          · have hf := g_it c19 hf
            refine lv_bipush (v := 100) hx hb dX9_press_149 (by decide) ?_
            refine lv_iload_n hx hb dX9_press_151 rfl (lv_at hl 1 rfl) ?_
            obtain ⟨x20, hx20, hf⟩ := g_bnd hf
            refine g_rs (As := [.int a1]) (rest := [.int 100, .int (10 + x16), .ref (h (b0+1))]) F hK (hG.X hX hAB) hG.1 [] rfl (c_X9_firstOf h a1 hx20) (kX9_36 F.2.2.2.2 ⟨Nat.le_of_ble_eq_true rfl, Nat.le_of_ble_eq_true rfl⟩) rfl hl.1 rfl (lv_room (Nat.le_of_ble_eq_true rfl)) ⟨Nat.zero_le _, Nat.zero_le _⟩ dX9_press_152 ?_
            refine lv_iadd hx hb dX9_press_155 ?_
            refine lv_goto (tgt := 160) hx hb dX9_press_156 (by decide) ?_
            obtain rfl := Option.some.inj hf
            exact hJj18 _ _ hG ls (lv_sub hl [0, 1] rfl)
        · have hf := g_if c15 hf
          refine lv_bipush (v := 10) hx hb dX9_press_83 (by decide) ?_
          refine lv_aload_n hx hb dX9_press_85 rfl (lv_at hl 0 rfl) ?_
          refine g_get F hK hG.1 0 0 0 flX9_7 rfl rfl rfl dX9_press_86 ?_
          refine lv_bipush (v := 6) hx hb dX9_press_89 (by decide) ?_
          obtain ⟨x29, hx29, hf⟩ := g_bnd hf
          refine g_iald F hK hG.1 0 1 rfl rfl hx29 dX9_press_91 ?_
          refine lv_iadd hx hb dX9_press_92 ?_
          refine lv_iconst (v := 1) hx hb dX9_press_93 (by decide) ?_
          refine lv_isub hx hb dX9_press_94 ?_
          refine lv_istore_n (lv' := [(3, .int ((10 + x29) - 1)), (0, .ref (h b0)), (1, .int a1), (2, .int j2)]) hx hb dX9_press_95 rfl hl (by decide) rfl (fun ls hl => ?_)
          refine lv_aload_n hx hb dX9_press_96 rfl (lv_at hl 1 rfl) ?_
          refine g_get F hK hG.1 0 0 0 flX9_7 rfl rfl rfl dX9_press_97 ?_
          refine lv_iload_n hx hb dX9_press_100 rfl (lv_at hl 0 rfl) ?_
          refine lv_bipush (v := 100) hx hb dX9_press_101 (by decide) ?_
          refine lv_aload_n hx hb dX9_press_103 rfl (lv_at hl 1 rfl) ?_
          refine g_get F hK hG.1 0 0 0 flX9_7 rfl rfl rfl dX9_press_104 ?_
          refine lv_iload_n hx hb dX9_press_107 rfl (lv_at hl 0 rfl) ?_
          obtain ⟨x30, hx30, hf⟩ := g_bnd hf
          refine g_iald F hK hG.1 0 1 rfl rfl hx30 dX9_press_108 ?_
          refine lv_bipush (v := 100) hx hb dX9_press_109 (by decide) ?_
          refine lv_isub hx hb dX9_press_111 ?_
          obtain ⟨x31, hx31, hf⟩ := g_bnd hf
          refine g_rs (As := [.int (x30 - 100)]) (rest := [.int 100, .int ((10 + x29) - 1), .ref (h (b0+1))]) F hK (hG.X hX hAB) hG.1 [] rfl (c_X9_nextOn h (x30 - 100) hx31) (kX9_104 F.2.2.2.2 ⟨Nat.le_of_ble_eq_true rfl, Nat.le_of_ble_eq_true rfl⟩) rfl hl.1 rfl (lv_room (Nat.le_of_ble_eq_true rfl)) ⟨Nat.zero_le _, Nat.zero_le _⟩ dX9_press_112 ?_
          refine lv_iadd hx hb dX9_press_115 ?_
          obtain ⟨x32, hx32, hf⟩ := g_bnd hf
          refine g_iast F hK hG 0 1 rfl rfl hx32 dX9_press_116 (fun H locs hG => ?_)
          have hG : gS E A s.heap [C9 E h b0 (x32, x13.2.1, x13.2.2.1, x13.2.2.2.1, x13.2.2.2.2.1, x13.2.2.2.2.2.1, x13.2.2.2.2.2.2.1, x13.2.2.2.2.2.2.2.1, x13.2.2.2.2.2.2.2.2.1, x13.2.2.2.2.2.2.2.2.2)] H locs := hG
          refine lv_aload_n hx hb dX9_press_117 rfl (lv_at hl 1 rfl) ?_
          refine g_get F hK hG.1 0 0 0 flX9_7 rfl rfl rfl dX9_press_118 ?_
          refine lv_bipush (v := 6) hx hb dX9_press_121 (by decide) ?_
          obtain ⟨x33, hx33, hf⟩ := g_bnd hf
          refine g_iald F hK hG.1 0 1 rfl rfl hx33 dX9_press_123 ?_
          have ho := Option.some.inj hf
          subst hA
          rw [← hQ, ← ho]
          exact g_mretI F hr hlk hG dX9_press_124
      · have hf := g_it c12 hf
        refine lv_iconst (v := 0) hx hb dX9_press_65 (by decide) ?_
        have ho := Option.some.inj hf
        subst hA
        rw [← hQ, ← ho]
        exact g_mretI F hr hlk hG dX9_press_66
    refine lv_if_ne (tgt := 54) hx hb dX9_press_39 (by decide) (fun c8 => ?_) (fun c8 => ?_)
    · have hf := g_if c8 hf
      refine lv_iconst (v := 1) hx hb dX9_press_54 (by decide) ?_
      refine lv_goto (tgt := 59) hx hb dX9_press_55 (by decide) ?_
      obtain rfl := Option.some.inj hf
      exact hJj7 _ _ hG ls (lv_sub hl [1, 2, 0] rfl)
    · have hf := g_it c8 hf
      refine lv_aload_n hx hb dX9_press_42 rfl (lv_at hl 1 rfl) ?_
      refine g_get F hK hG.1 0 0 0 flX9_7 rfl rfl rfl dX9_press_43 ?_
      refine lv_bipush (v := 6) hx hb dX9_press_46 (by decide) ?_
      obtain ⟨x9, hx9, hf⟩ := g_bnd hf
      refine g_iald F hK hG.1 0 1 rfl rfl hx9 dX9_press_48 ?_
      refine lv_bipush (v := 10) hx hb dX9_press_49 (by decide) ?_
      refine lv_icmp_ge (tgt := 58) hx hb dX9_press_51 (by decide) (fun c10 => ?_) (fun c10 => ?_)
      · have hf := g_it c10 hf
        refine lv_iconst (v := 0) hx hb dX9_press_58 (by decide) ?_
        obtain rfl := Option.some.inj hf
        exact hJj7 _ _ hG ls (lv_sub hl [1, 2, 0] rfl)
      · have hf := g_if c10 hf
        refine lv_iconst (v := 1) hx hb dX9_press_54 (by decide) ?_
        refine lv_goto (tgt := 59) hx hb dX9_press_55 (by decide) ?_
        obtain rfl := Option.some.inj hf
        exact hJj7 _ _ hG ls (lv_sub hl [1, 2, 0] rfl)
  refine lv_icmp_ne (tgt := 24) hx hb dX9_press_7 (by decide) (fun c3 => ?_) (fun c3 => ?_)
  · have hf := g_if c3 hf
    refine lv_iconst (v := 0) hx hb dX9_press_24 (by decide) ?_
    obtain rfl := Option.some.inj hf
    exact hJj2 _ _ hG ls (lv_sub hl [0, 1] rfl)
  · have hf := g_it c3 hf
    refine lv_aload_n hx hb dX9_press_10 rfl (lv_at hl 0 rfl) ?_
    refine g_get F hK hG.1 0 0 0 flX9_7 rfl rfl rfl dX9_press_11 ?_
    refine lv_iconst (v := 5) hx hb dX9_press_14 (by decide) ?_
    obtain ⟨x4, hx4, hf⟩ := g_bnd hf
    refine g_iald F hK hG.1 0 1 rfl rfl hx4 dX9_press_15 ?_
    refine lv_iload_n hx hb dX9_press_16 rfl (lv_at hl 1 rfl) ?_
    refine lv_icmp_ne (tgt := 24) hx hb dX9_press_17 (by decide) (fun c5 => ?_) (fun c5 => ?_)
    · have hf := g_if c5 hf
      refine lv_iconst (v := 0) hx hb dX9_press_24 (by decide) ?_
      obtain rfl := Option.some.inj hf
      exact hJj2 _ _ hG ls (lv_sub hl [0, 1] rfl)
    · have hf := g_it c5 hf
      refine lv_iconst (v := 1) hx hb dX9_press_20 (by decide) ?_
      refine lv_goto (tgt := 25) hx hb dX9_press_21 (by decide) ?_
      obtain rfl := Option.some.inj hf
      exact hJj2 _ _ hG ls (lv_sub hl [0, 1] rfl)
set_option maxHeartbeats 4000000 in
set_option maxRecDepth 100000 in
theorem c_X9_pause {l : Launch} {E : gEnv} (h : Nat → Nat) (b0 : Nat) (w0 : T9) {o : Int32 × T9} (hf : f_X9_pause w0 = some o) : gM l yX9_pause cX9_pause 2 (some .int) rX9_pause E [.ref (h b0)] [C9 E h b0 w0] (some (.int o.1)) [C9 E h b0 o.2] := by
  refine gM.of (by decide +kernel) (Nat.le_of_ble_eq_true rfl) rfl ?_
  intro p e s m below meth c F hr hlk hK hX hAB ls hl H locs hG
  have F : gF p m c cX9_pause 2 s ([.ref (h b0)] : List Value).toArray RX9 := F
  generalize ([.ref (h b0)] : List Value).toArray = args at F ⊢
  generalize hQ : MQ below _ _ _ _ _ _ = Q
  generalize hA : gAd [C9 E h b0 w0] = A at hAB hG
  have hl : lv_has ls 2 [(0, .ref (h b0))] := hl
  have hx := F.1
  have hb := F.2.1
  unfold f_X9_pause at hf
  refine lv_aload_n hx hb dX9_pause_0 rfl (lv_at hl 0 rfl) ?_
  refine lv_iconst (v := 0) hx hb dX9_pause_1 (by decide) ?_
  refine g_put F hK hG 0 0 4 pfX9_25 rfl rfl (Nat.le_of_ble_eq_true rfl) rfl rfl dX9_pause_2 (fun H locs hG => ?_)
  have hG : gS E A s.heap [C9 E h b0 (w0.1, w0.2.1, w0.2.2.1, w0.2.2.2.1, 0, w0.2.2.2.2.2.1, w0.2.2.2.2.2.2.1, w0.2.2.2.2.2.2.2.1, w0.2.2.2.2.2.2.2.2.1, w0.2.2.2.2.2.2.2.2.2)] H locs := hG
  refine lv_aload_n hx hb dX9_pause_5 rfl (lv_at hl 0 rfl) ?_
  obtain ⟨x1, hx1, hf⟩ := g_bnd hf
  refine g_mvv (S' := [C9 E h b0 x1]) (As := []) (rest := []) F hK hX hAB hG [0] rfl rfl (c_X9_save h b0 (w0.1, w0.2.1, w0.2.2.1, w0.2.2.2.1, 0, w0.2.2.2.2.2.1, w0.2.2.2.2.2.2.1, w0.2.2.2.2.2.2.2.1, w0.2.2.2.2.2.2.2.2.1, w0.2.2.2.2.2.2.2.2.2) hx1) rfl (kX9_97 F.2.2.2.2 ⟨Nat.le_of_ble_eq_true rfl, Nat.le_of_ble_eq_true rfl⟩) rfl rfl rfl rfl hl.1 rfl (lv_room (Nat.le_of_ble_eq_true rfl)) ⟨Nat.zero_le _, Nat.zero_le _⟩ dX9_pause_6 (fun H locs hG => ?_)
  refine lv_aload_n hx hb dX9_pause_9 rfl (lv_at hl 0 rfl) ?_
  refine g_get F hK hG.1 0 0 0 flX9_7 rfl rfl rfl dX9_pause_10 ?_
  refine lv_iconst (v := 5) hx hb dX9_pause_13 (by decide) ?_
  obtain ⟨x2, hx2, hf⟩ := g_bnd hf
  refine g_iald F hK hG.1 0 1 rfl rfl hx2 dX9_pause_14 ?_
  refine lv_istore_n (lv' := [(1, .int x2), (0, .ref (h b0))]) hx hb dX9_pause_15 rfl hl (by decide) rfl (fun ls hl => ?_)
  refine lv_aload_n hx hb dX9_pause_16 rfl (lv_at hl 1 rfl) ?_
  refine g_get F hK hG.1 0 0 0 flX9_7 rfl rfl rfl dX9_pause_17 ?_
  refine lv_iconst (v := 5) hx hb dX9_pause_20 (by decide) ?_
  refine lv_iconst (v := (-1)) hx hb dX9_pause_21 (by decide) ?_
  obtain ⟨x3, hx3, hf⟩ := g_bnd hf
  refine g_iast F hK hG 0 1 rfl rfl hx3 dX9_pause_22 (fun H locs hG => ?_)
  have hG : gS E A s.heap [C9 E h b0 (x3, x1.2.1, x1.2.2.1, x1.2.2.2.1, x1.2.2.2.2.1, x1.2.2.2.2.2.1, x1.2.2.2.2.2.2.1, x1.2.2.2.2.2.2.2.1, x1.2.2.2.2.2.2.2.2.1, x1.2.2.2.2.2.2.2.2.2)] H locs := hG
  refine lv_iload_n hx hb dX9_pause_23 rfl (lv_at hl 0 rfl) ?_
  have ho := Option.some.inj hf
  subst hA
  rw [← hQ, ← ho]
  exact g_mretI F hr hlk hG dX9_pause_24
set_option maxHeartbeats 4000000 in
set_option maxRecDepth 100000 in
theorem c_X9_mode {l : Launch} {E : gEnv} (h : Nat → Nat) (b0 : Nat) (w0 : T9) (a1 : Int32) {o : Int32 × T9} (hf : f_X9_mode w0 a1 = some o) : gM l yX9_mode cX9_mode 3 (some .int) rX9_mode E [.ref (h b0), .int a1] [C9 E h b0 w0] (some (.int o.1)) [C9 E h b0 o.2] := by
  refine gM.of (by decide +kernel) (Nat.le_of_ble_eq_true rfl) rfl ?_
  intro p e s m below meth c F hr hlk hK hX hAB ls hl H locs hG
  have F : gF p m c cX9_mode 3 s ([.ref (h b0), .int a1] : List Value).toArray RX9 := F
  generalize ([.ref (h b0), .int a1] : List Value).toArray = args at F ⊢
  generalize hQ : MQ below _ _ _ _ _ _ = Q
  generalize hA : gAd [C9 E h b0 w0] = A at hAB hG
  have hl : lv_has ls 3 [(0, .ref (h b0)), (1, .int a1)] := hl
  have hx := F.1
  have hb := F.2.1
  unfold f_X9_mode at hf
  refine lv_aload_n hx hb dX9_mode_0 rfl (lv_at hl 0 rfl) ?_
  refine lv_iconst (v := 0) hx hb dX9_mode_1 (by decide) ?_
  refine g_put F hK hG 0 0 4 pfX9_25 rfl rfl (Nat.le_of_ble_eq_true rfl) rfl rfl dX9_mode_2 (fun H locs hG => ?_)
  have hG : gS E A s.heap [C9 E h b0 (w0.1, w0.2.1, w0.2.2.1, w0.2.2.2.1, 0, w0.2.2.2.2.2.1, w0.2.2.2.2.2.2.1, w0.2.2.2.2.2.2.2.1, w0.2.2.2.2.2.2.2.2.1, w0.2.2.2.2.2.2.2.2.2)] H locs := hG
  refine lv_aload_n hx hb dX9_mode_5 rfl (lv_at hl 0 rfl) ?_
  obtain ⟨x1, hx1, hf⟩ := g_bnd hf
  refine g_mvv (S' := [C9 E h b0 x1]) (As := []) (rest := []) F hK hX hAB hG [0] rfl rfl (c_X9_save h b0 (w0.1, w0.2.1, w0.2.2.1, w0.2.2.2.1, 0, w0.2.2.2.2.2.1, w0.2.2.2.2.2.2.1, w0.2.2.2.2.2.2.2.1, w0.2.2.2.2.2.2.2.2.1, w0.2.2.2.2.2.2.2.2.2) hx1) rfl (kX9_97 F.2.2.2.2 ⟨Nat.le_of_ble_eq_true rfl, Nat.le_of_ble_eq_true rfl⟩) rfl rfl rfl rfl hl.1 rfl (lv_room (Nat.le_of_ble_eq_true rfl)) ⟨Nat.zero_le _, Nat.zero_le _⟩ dX9_mode_6 (fun H locs hG => ?_)
  refine lv_aload_n hx hb dX9_mode_9 rfl (lv_at hl 0 rfl) ?_
  obtain ⟨x2, hx2, hf⟩ := g_bnd hf
  refine g_mvv (S' := [C9 E h b0 x2]) (As := []) (rest := []) F hK hX hAB hG [0] rfl rfl (c_X9_laysDisplay h b0 x1 hx2) rfl (kX9_107 F.2.2.2.2 ⟨Nat.le_of_ble_eq_true rfl, Nat.le_of_ble_eq_true rfl⟩) rfl rfl rfl rfl hl.1 rfl (lv_room (Nat.le_of_ble_eq_true rfl)) ⟨Nat.zero_le _, Nat.zero_le _⟩ dX9_mode_10 (fun H locs hG => ?_)
  refine lv_iconst (v := 0) hx hb dX9_mode_13 (by decide) ?_
  refine lv_istore_n (lv' := [(2, .int 0), (0, .ref (h b0)), (1, .int a1)]) hx hb dX9_mode_14 rfl hl (by decide) rfl (fun ls hl => ?_)
  obtain ⟨x4, hx4, hfx4⟩ := g_bnd hf
  have hEx4 : ∀ (H : Heap) (locs : List Loc), gS E A s.heap [C9 E h b0 x4] H locs → ∀ ls : Array Slot, lv_has ls 3 [(0, .ref (h b0)), (1, .int a1)] → W p l e rX9_mode s m args below meth c H locs 0 0 Q (F0 m 54 ls []) := by
    intro H locs hG ls hl
    have hf := hfx4
    refine lv_aload_n hx hb dX9_mode_54 rfl (lv_at hl 0 rfl) ?_
    refine g_get F hK hG.1 0 0 0 flX9_7 rfl rfl rfl dX9_mode_55 ?_
    refine lv_iconst (v := 4) hx hb dX9_mode_58 (by decide) ?_
    refine lv_iload_n hx hb dX9_mode_59 rfl (lv_at hl 1 rfl) ?_
    obtain ⟨j10, hf, hfj10⟩ := g_bnd hf
    have hJj10 : ∀ (H : Heap) (locs : List Loc), gS E A s.heap [C9 E h b0 x4] H locs → ∀ ls : Array Slot, lv_has ls 3 [(0, .ref (h b0))] → W p l e rX9_mode s m args below meth c H locs 0 0 Q (F0 m 68 ls [.int j10, .int 4, .ref (h (b0+1))]) := by
      intro H locs hG ls hl
      have hf := hfj10
      obtain ⟨x12, hx12, hf⟩ := g_bnd hf
      refine g_iast F hK hG 0 1 rfl rfl hx12 dX9_mode_68 (fun H locs hG => ?_)
      have hG : gS E A s.heap [C9 E h b0 (x12, x4.2.1, x4.2.2.1, x4.2.2.2.1, x4.2.2.2.2.1, x4.2.2.2.2.2.1, x4.2.2.2.2.2.2.1, x4.2.2.2.2.2.2.2.1, x4.2.2.2.2.2.2.2.2.1, x4.2.2.2.2.2.2.2.2.2)] H locs := hG
      refine lv_aload_n hx hb dX9_mode_69 rfl (lv_at hl 0 rfl) ?_
      refine g_get F hK hG.1 0 0 0 flX9_7 rfl rfl rfl dX9_mode_70 ?_
      refine lv_iconst (v := 5) hx hb dX9_mode_73 (by decide) ?_
      refine lv_iconst (v := (-1)) hx hb dX9_mode_74 (by decide) ?_
      obtain ⟨x13, hx13, hf⟩ := g_bnd hf
      refine g_iast F hK hG 0 1 rfl rfl hx13 dX9_mode_75 (fun H locs hG => ?_)
      have hG : gS E A s.heap [C9 E h b0 (x13, x4.2.1, x4.2.2.1, x4.2.2.2.1, x4.2.2.2.2.1, x4.2.2.2.2.2.1, x4.2.2.2.2.2.2.1, x4.2.2.2.2.2.2.2.1, x4.2.2.2.2.2.2.2.2.1, x4.2.2.2.2.2.2.2.2.2)] H locs := hG
      refine lv_aload_n hx hb dX9_mode_76 rfl (lv_at hl 0 rfl) ?_
      refine g_get F hK hG.1 0 0 0 flX9_7 rfl rfl rfl dX9_mode_77 ?_
      refine lv_bipush (v := 7) hx hb dX9_mode_80 (by decide) ?_
      refine lv_iconst (v := 0) hx hb dX9_mode_82 (by decide) ?_
      obtain ⟨x14, hx14, hf⟩ := g_bnd hf
      refine g_iast F hK hG 0 1 rfl rfl hx14 dX9_mode_83 (fun H locs hG => ?_)
      have hG : gS E A s.heap [C9 E h b0 (x14, x4.2.1, x4.2.2.1, x4.2.2.2.1, x4.2.2.2.2.1, x4.2.2.2.2.2.1, x4.2.2.2.2.2.2.1, x4.2.2.2.2.2.2.2.1, x4.2.2.2.2.2.2.2.2.1, x4.2.2.2.2.2.2.2.2.2)] H locs := hG
      refine lv_aload_n hx hb dX9_mode_84 rfl (lv_at hl 0 rfl) ?_
      refine g_get F hK hG.1 0 0 0 flX9_7 rfl rfl rfl dX9_mode_85 ?_
      refine lv_bipush (v := 6) hx hb dX9_mode_88 (by decide) ?_
      obtain ⟨x15, hx15, hf⟩ := g_bnd hf
      refine g_iald F hK hG.1 0 1 rfl rfl hx15 dX9_mode_90 ?_
      have ho := Option.some.inj hf
      subst hA
      rw [← hQ, ← ho]
      exact g_mretI F hr hlk hG dX9_mode_91
    refine lv_if_eq (tgt := 67) hx hb dX9_mode_60 (by decide) (fun c11 => ?_) (fun c11 => ?_)
    · have hf := g_it c11 hf
      refine lv_iconst (v := 0) hx hb dX9_mode_67 (by decide) ?_
      obtain rfl := Option.some.inj hf
      exact hJj10 _ _ hG ls (lv_sub hl [0] rfl)
    · have hf := g_if c11 hf
      refine lv_iconst (v := 1) hx hb dX9_mode_63 (by decide) ?_
      refine lv_goto (tgt := 68) hx hb dX9_mode_64 (by decide) ?_
      obtain rfl := Option.some.inj hf
      exact hJj10 _ _ hG ls (lv_sub hl [0] rfl)
  refine lp_rule (fun (v3 : Int32 × T9) => ∀ (H : Heap) (locs : List Loc), gS E A s.heap [C9 E h b0 v3.2] H locs → ∀ ls : Array Slot, lv_has ls 3 [(0, .ref (h b0)), (1, .int a1), (2, .int v3.1)] → W p l e rX9_mode s m args below meth c H locs 0 0 Q (F0 m 15 ls [])) ?_ _ _ hx4 _ _ hG ls (lv_sub hl [1, 2, 0] rfl)
  intro v3 y hf hbackv3 hexitv3 H locs hG ls hl
  refine lv_iload_n hx hb dX9_mode_15 rfl (lv_at hl 2 rfl) ?_
  refine lv_aload_n hx hb dX9_mode_16 rfl (lv_at hl 0 rfl) ?_
  refine g_get F hK hG.1 0 0 0 flX9_7 rfl rfl rfl dX9_mode_17 ?_
  refine lv_bipush (v := 6) hx hb dX9_mode_20 (by decide) ?_
  obtain ⟨x5, hx5, hf⟩ := g_bnd hf
  refine g_iald F hK hG.1 0 1 rfl rfl hx5 dX9_mode_22 ?_
  refine lv_icmp_ge (tgt := 54) hx hb dX9_mode_23 (by decide) (fun c6 => ?_) (fun c6 => ?_)
  · have hf := g_it c6 hf
    obtain rfl := hexitv3 _ (Option.some.inj hf).symm
    exact hEx4 _ _ hG ls (lv_sub hl [0, 1] rfl)
  · have hf := g_if c6 hf
    refine lv_iload_n hx hb dX9_mode_26 rfl (lv_at hl 1 rfl) ?_
    refine lv_if_eq (tgt := 54) hx hb dX9_mode_27 (by decide) (fun c7 => ?_) (fun c7 => ?_)
    · have hf := g_it c7 hf
      obtain rfl := hexitv3 _ (Option.some.inj hf).symm
      exact hEx4 _ _ hG ls (lv_sub hl [0, 1] rfl)
    · have hf := g_if c7 hf
      refine lv_aload_n hx hb dX9_mode_30 rfl (lv_at hl 0 rfl) ?_
      refine g_get F hK hG.1 0 0 0 flX9_7 rfl rfl rfl dX9_mode_31 ?_
      refine lv_bipush (v := 10) hx hb dX9_mode_34 (by decide) ?_
      refine lv_iload_n hx hb dX9_mode_36 rfl (lv_at hl 2 rfl) ?_
      refine lv_iadd hx hb dX9_mode_37 ?_
      refine lv_bipush (v := 100) hx hb dX9_mode_38 (by decide) ?_
      refine lv_aload_n hx hb dX9_mode_40 rfl (lv_at hl 0 rfl) ?_
      refine g_get F hK hG.1 0 0 5 flX9_19 rfl rfl rfl dX9_mode_41 ?_
      refine lv_iload_n hx hb dX9_mode_44 rfl (lv_at hl 2 rfl) ?_
      obtain ⟨x8, hx8, hf⟩ := g_bnd hf
      refine g_iald F hK hG.1 0 4 rfl rfl hx8 dX9_mode_45 ?_
      refine lv_iadd hx hb dX9_mode_46 ?_
      obtain ⟨x9, hx9, hf⟩ := g_bnd hf
      refine g_iast F hK hG 0 1 rfl rfl hx9 dX9_mode_47 (fun H locs hG => ?_)
      have hG : gS E A s.heap [C9 E h b0 (x9, v3.2.2.1, v3.2.2.2.1, v3.2.2.2.2.1, v3.2.2.2.2.2.1, v3.2.2.2.2.2.2.1, v3.2.2.2.2.2.2.2.1, v3.2.2.2.2.2.2.2.2.1, v3.2.2.2.2.2.2.2.2.2.1, v3.2.2.2.2.2.2.2.2.2.2)] H locs := hG
      refine lv_iinc (v := (v3.1 + 1)) (lv' := [(2, .int (v3.1 + 1)), (0, .ref (h b0)), (1, .int a1)]) hx hb dX9_mode_48 hl (k := 2) rfl rfl (by decide) rfl (fun ls hl => ?_)
      refine lv_goto (tgt := 15) hx hb dX9_mode_51 (by decide) ?_
      exact hbackv3 _ (Option.some.inj hf).symm _ _ hG ls (lv_sub hl [1, 2, 0] rfl)
set_option maxHeartbeats 4000000 in
set_option maxRecDepth 100000 in
theorem c_X9_next {l : Launch} {E : gEnv} (h : Nat → Nat) (b0 : Nat) (w0 : T9) {o : Int32 × T9} (hf : f_X9_next w0 = some o) : gM l yX9_next cX9_next 2 (some .int) rX9_next E [.ref (h b0)] [C9 E h b0 w0] (some (.int o.1)) [C9 E h b0 o.2] := by
  refine gM.of (by decide +kernel) (Nat.le_of_ble_eq_true rfl) rfl ?_
  intro p e s m below meth c F hr hlk hK hX hAB ls hl H locs hG
  have F : gF p m c cX9_next 2 s ([.ref (h b0)] : List Value).toArray RX9 := F
  generalize ([.ref (h b0)] : List Value).toArray = args at F ⊢
  generalize hQ : MQ below _ _ _ _ _ _ = Q
  generalize hA : gAd [C9 E h b0 w0] = A at hAB hG
  have hl : lv_has ls 2 [(0, .ref (h b0))] := hl
  have hx := F.1
  have hb := F.2.1
  unfold f_X9_next at hf
  refine lv_aload_n hx hb dX9_next_0 rfl (lv_at hl 0 rfl) ?_
  obtain ⟨x1, hx1, hf⟩ := g_bnd hf
  refine g_rv (As := []) (rest := []) F hK (hG.X hX hAB) hG.1 [0] rfl (c_X9_candidates h b0 w0 hx1) (kX9_85 F.2.2.2.2 ⟨Nat.le_of_ble_eq_true rfl, Nat.le_of_ble_eq_true rfl⟩) rfl rfl rfl rfl hl.1 rfl (lv_room (Nat.le_of_ble_eq_true rfl)) ⟨Nat.zero_le _, Nat.zero_le _⟩ dX9_next_1 ?_
  refine lv_istore_n (lv' := [(1, .int x1), (0, .ref (h b0))]) hx hb dX9_next_4 rfl hl (by decide) rfl (fun ls hl => ?_)
  refine lv_aload_n hx hb dX9_next_5 rfl (lv_at hl 1 rfl) ?_
  refine lv_iload_n hx hb dX9_next_6 rfl (lv_at hl 0 rfl) ?_
  obtain ⟨j2, hf, hfj2⟩ := g_bnd hf
  have hJj2 : ∀ (H : Heap) (locs : List Loc), gS E A s.heap [C9 E h b0 w0] H locs → ∀ ls : Array Slot, lv_has ls 2 [(0, .ref (h b0)), (1, .int x1)] → W p l e rX9_next s m args below meth c H locs 0 0 Q (F0 m 15 ls [.int j2, .ref (h b0)]) := by
    intro H locs hG ls hl
    have hf := hfj2
    refine lv_iconst (v := 1) hx hb dX9_next_15 (by decide) ?_
    obtain ⟨x4, hx4, hf⟩ := g_bnd hf
    refine g_mv (S' := [C9 E h b0 x4.2]) (As := [.int j2, .int 1]) (rest := []) F hK hX hAB hG [0] rfl rfl (c_X9_goes h b0 w0 j2 1 hx4) rfl (kX9_72 F.2.2.2.2 ⟨Nat.le_of_ble_eq_true rfl, Nat.le_of_ble_eq_true rfl⟩) rfl rfl rfl rfl hl.1 rfl (lv_room (Nat.le_of_ble_eq_true rfl)) ⟨Nat.zero_le _, Nat.zero_le _⟩ dX9_next_16 (fun H locs hG => ?_)
    refine lv_if_ne (tgt := 24) hx hb dX9_next_19 (by decide) (fun c5 => ?_) (fun c5 => ?_)
    · have hf := g_if c5 hf
      refine lv_aload_n hx hb dX9_next_24 rfl (lv_at hl 0 rfl) ?_
      obtain ⟨x6, hx6, hf⟩ := g_bnd hf
      refine g_mvv (S' := [C9 E h b0 x6]) (As := []) (rest := []) F hK hX hAB hG [0] rfl rfl (c_X9_save h b0 x4.2 hx6) rfl (kX9_97 F.2.2.2.2 ⟨Nat.le_of_ble_eq_true rfl, Nat.le_of_ble_eq_true rfl⟩) rfl rfl rfl rfl hl.1 rfl (lv_room (Nat.le_of_ble_eq_true rfl)) ⟨Nat.zero_le _, Nat.zero_le _⟩ dX9_next_25 (fun H locs hG => ?_)
      refine lv_aload_n hx hb dX9_next_28 rfl (lv_at hl 0 rfl) ?_
      refine g_get F hK hG.1 0 0 0 flX9_7 rfl rfl rfl dX9_next_29 ?_
      refine lv_bipush (v := 7) hx hb dX9_next_32 (by decide) ?_
      refine lv_aload_n hx hb dX9_next_34 rfl (lv_at hl 0 rfl) ?_
      refine g_get F hK hG.1 0 0 0 flX9_7 rfl rfl rfl dX9_next_35 ?_
      refine lv_bipush (v := 7) hx hb dX9_next_38 (by decide) ?_
      obtain ⟨x7, hx7, hf⟩ := g_bnd hf
      refine g_iald F hK hG.1 0 1 rfl rfl hx7 dX9_next_40 ?_
      refine lv_iconst (v := 1) hx hb dX9_next_41 (by decide) ?_
      refine lv_iadd hx hb dX9_next_42 ?_
      refine lv_iload_n hx hb dX9_next_43 rfl (lv_at hl 1 rfl) ?_
      obtain ⟨u8, hu8, hf⟩ := g_bnd hf
      refine lv_irem hx hb dX9_next_44 (nz_ne hu8) ?_
      obtain ⟨x9, hx9, hf⟩ := g_bnd hf
      refine g_iast F hK hG 0 1 rfl rfl hx9 dX9_next_45 (fun H locs hG => ?_)
      have hG : gS E A s.heap [C9 E h b0 (x9, x6.2.1, x6.2.2.1, x6.2.2.2.1, x6.2.2.2.2.1, x6.2.2.2.2.2.1, x6.2.2.2.2.2.2.1, x6.2.2.2.2.2.2.2.1, x6.2.2.2.2.2.2.2.2.1, x6.2.2.2.2.2.2.2.2.2)] H locs := hG
      refine lv_aload_n hx hb dX9_next_46 rfl (lv_at hl 0 rfl) ?_
      refine g_get F hK hG.1 0 0 0 flX9_7 rfl rfl rfl dX9_next_47 ?_
      refine lv_bipush (v := 7) hx hb dX9_next_50 (by decide) ?_
      obtain ⟨x10, hx10, hf⟩ := g_bnd hf
      refine g_iald F hK hG.1 0 1 rfl rfl hx10 dX9_next_52 ?_
      have ho := Option.some.inj hf
      subst hA
      rw [← hQ, ← ho]
      exact g_mretI F hr hlk hG dX9_next_53
    · have hf := g_it c5 hf
      refine lv_iconst (v := 0) hx hb dX9_next_22 (by decide) ?_
      have ho := Option.some.inj hf
      subst hA
      rw [← hQ, ← ho]
      exact g_mretI F hr hlk hG dX9_next_23
  refine lv_if_le (tgt := 14) hx hb dX9_next_7 (by decide) (fun c3 => ?_) (fun c3 => ?_)
  · have hf := g_it c3 hf
    refine lv_iconst (v := 0) hx hb dX9_next_14 (by decide) ?_
    obtain rfl := Option.some.inj hf
    exact hJj2 _ _ hG ls (lv_sub hl [1, 0] rfl)
  · have hf := g_if c3 hf
    refine lv_iconst (v := 1) hx hb dX9_next_10 (by decide) ?_
    refine lv_goto (tgt := 15) hx hb dX9_next_11 (by decide) ?_
    obtain rfl := Option.some.inj hf
    exact hJj2 _ _ hG ls (lv_sub hl [1, 0] rfl)
set_option maxHeartbeats 4000000 in
set_option maxRecDepth 100000 in
theorem c_X9_goesFromText {l : Launch} {E : gEnv} (h : Nat → Nat) (b0 : Nat) (w0 : T9) (a1 : Int32) {o : T9} (hf : f_X9_goesFromText w0 a1 = some o) : gM l yX9_goesFromText cX9_goesFromText 3 none rX9_goesFromText E [.ref (h b0), .int a1] [C9 E h b0 w0] (none) [C9 E h b0 o] := by
  refine gM.of (by decide +kernel) (Nat.le_of_ble_eq_true rfl) rfl ?_
  intro p e s m below meth c F hr hlk hK hX hAB ls hl H locs hG
  have F : gF p m c cX9_goesFromText 3 s ([.ref (h b0), .int a1] : List Value).toArray RX9 := F
  generalize ([.ref (h b0), .int a1] : List Value).toArray = args at F ⊢
  generalize hQ : MQ below _ _ _ _ _ _ = Q
  generalize hA : gAd [C9 E h b0 w0] = A at hAB hG
  have hl : lv_has ls 3 [(0, .ref (h b0)), (1, .int a1)] := hl
  have hx := F.1
  have hb := F.2.1
  unfold f_X9_goesFromText at hf
  refine lv_aload_n hx hb dX9_goesFromText_0 rfl (lv_at hl 0 rfl) ?_
  refine g_get F hK hG.1 0 0 0 flX9_7 rfl rfl rfl dX9_goesFromText_1 ?_
  refine lv_bipush (v := 8) hx hb dX9_goesFromText_4 (by decide) ?_
  refine lv_dup2_11 hx hb dX9_goesFromText_6 rfl rfl ?_
  obtain ⟨x1, hx1, hf⟩ := g_bnd hf
  refine g_iald F hK hG.1 0 1 rfl rfl hx1 dX9_goesFromText_7 ?_
  refine lv_iconst (v := 1) hx hb dX9_goesFromText_8 (by decide) ?_
  refine lv_isub hx hb dX9_goesFromText_9 ?_
  obtain ⟨x2, hx2, hf⟩ := g_bnd hf
  refine g_iast F hK hG 0 1 rfl rfl hx2 dX9_goesFromText_10 (fun H locs hG => ?_)
  have hG : gS E A s.heap [C9 E h b0 (x2, w0.2.1, w0.2.2.1, w0.2.2.2.1, w0.2.2.2.2.1, w0.2.2.2.2.2.1, w0.2.2.2.2.2.2.1, w0.2.2.2.2.2.2.2.1, w0.2.2.2.2.2.2.2.2.1, w0.2.2.2.2.2.2.2.2.2)] H locs := hG
  refine lv_sipush (v := 720) hx hb dX9_goesFromText_11 (by decide) ?_
  refine lv_bipush (v := 11) hx hb dX9_goesFromText_14 (by decide) ?_
  refine lv_iload_n hx hb dX9_goesFromText_16 rfl (lv_at hl 1 rfl) ?_
  refine lv_imul hx hb dX9_goesFromText_17 ?_
  refine lv_iadd hx hb dX9_goesFromText_18 ?_
  refine lv_istore_n (lv' := [(2, .int (720 + (11 * a1))), (0, .ref (h b0)), (1, .int a1)]) hx hb dX9_goesFromText_19 rfl hl (by decide) rfl (fun ls hl => ?_)
  refine lp_rule (fun (v3 : Int32 × T9) => ∀ (H : Heap) (locs : List Loc), gS E A s.heap [C9 E h b0 v3.2] H locs → ∀ ls : Array Slot, lv_has ls 3 [(0, .ref (h b0)), (2, .int v3.1)] → W p l e rX9_goesFromText s m args below meth c H locs 0 0 Q (F0 m 20 ls [])) ?_ _ _ hf _ _ hG ls (lv_sub hl [1, 0] rfl)
  intro v3 y hf hbackv3 hexitv3 H locs hG ls hl
  refine lv_iload_n hx hb dX9_goesFromText_20 rfl (lv_at hl 1 rfl) ?_
  refine lv_sipush (v := 720) hx hb dX9_goesFromText_21 (by decide) ?_
  refine lv_bipush (v := 11) hx hb dX9_goesFromText_24 (by decide) ?_
  refine lv_aload_n hx hb dX9_goesFromText_26 rfl (lv_at hl 0 rfl) ?_
  refine g_get F hK hG.1 0 0 0 flX9_7 rfl rfl rfl dX9_goesFromText_27 ?_
  refine lv_bipush (v := 8) hx hb dX9_goesFromText_30 (by decide) ?_
  obtain ⟨x5, hx5, hf⟩ := g_bnd hf
  refine g_iald F hK hG.1 0 1 rfl rfl hx5 dX9_goesFromText_32 ?_
  refine lv_imul hx hb dX9_goesFromText_33 ?_
  refine lv_iadd hx hb dX9_goesFromText_34 ?_
  refine lv_icmp_ge (tgt := 59) hx hb dX9_goesFromText_35 (by decide) (fun c6 => ?_) (fun c6 => ?_)
  · have hf := g_it c6 hf
    have ho := hexitv3 _ (Option.some.inj hf).symm
    subst hA
    rw [← hQ, ← ho]
    exact g_mretV F hr hlk hG dX9_goesFromText_59
  · have hf := g_if c6 hf
    refine lv_aload_n hx hb dX9_goesFromText_38 rfl (lv_at hl 0 rfl) ?_
    refine g_get F hK hG.1 0 0 0 flX9_7 rfl rfl rfl dX9_goesFromText_39 ?_
    refine lv_iload_n hx hb dX9_goesFromText_42 rfl (lv_at hl 1 rfl) ?_
    refine lv_aload_n hx hb dX9_goesFromText_43 rfl (lv_at hl 0 rfl) ?_
    refine g_get F hK hG.1 0 0 0 flX9_7 rfl rfl rfl dX9_goesFromText_44 ?_
    refine lv_iload_n hx hb dX9_goesFromText_47 rfl (lv_at hl 1 rfl) ?_
    refine lv_bipush (v := 11) hx hb dX9_goesFromText_48 (by decide) ?_
    refine lv_iadd hx hb dX9_goesFromText_50 ?_
    obtain ⟨x7, hx7, hf⟩ := g_bnd hf
    refine g_iald F hK hG.1 0 1 rfl rfl hx7 dX9_goesFromText_51 ?_
    obtain ⟨x8, hx8, hf⟩ := g_bnd hf
    refine g_iast F hK hG 0 1 rfl rfl hx8 dX9_goesFromText_52 (fun H locs hG => ?_)
    have hG : gS E A s.heap [C9 E h b0 (x8, v3.2.2.1, v3.2.2.2.1, v3.2.2.2.2.1, v3.2.2.2.2.2.1, v3.2.2.2.2.2.2.1, v3.2.2.2.2.2.2.2.1, v3.2.2.2.2.2.2.2.2.1, v3.2.2.2.2.2.2.2.2.2.1, v3.2.2.2.2.2.2.2.2.2.2)] H locs := hG
    refine lv_iinc (v := (v3.1 + 1)) (lv' := [(2, .int (v3.1 + 1)), (0, .ref (h b0))]) hx hb dX9_goesFromText_53 hl (k := 1) rfl rfl (by decide) rfl (fun ls hl => ?_)
    refine lv_goto (tgt := 20) hx hb dX9_goesFromText_56 (by decide) ?_
    exact hbackv3 _ (Option.some.inj hf).symm _ _ hG ls (lv_sub hl [1, 0] rfl)
set_option maxHeartbeats 4000000 in
set_option maxRecDepth 100000 in
theorem c_X9_erase {l : Launch} {E : gEnv} (h : Nat → Nat) (b0 : Nat) (w0 : T9) {o : Int32 × T9} (hf : f_X9_erase w0 = some o) : gM l yX9_erase cX9_erase 1 (some .int) rX9_erase E [.ref (h b0)] [C9 E h b0 w0] (some (.int o.1)) [C9 E h b0 o.2] := by
  refine gM.of (by decide +kernel) (Nat.le_of_ble_eq_true rfl) rfl ?_
  intro p e s m below meth c F hr hlk hK hX hAB ls hl H locs hG
  have F : gF p m c cX9_erase 1 s ([.ref (h b0)] : List Value).toArray RX9 := F
  generalize ([.ref (h b0)] : List Value).toArray = args at F ⊢
  generalize hQ : MQ below _ _ _ _ _ _ = Q
  generalize hA : gAd [C9 E h b0 w0] = A at hAB hG
  have hl : lv_has ls 1 [(0, .ref (h b0))] := hl
  have hx := F.1
  have hb := F.2.1
  unfold f_X9_erase at hf
  refine lv_aload_n hx hb dX9_erase_0 rfl (lv_at hl 0 rfl) ?_
  refine lv_aload_n hx hb dX9_erase_1 rfl (lv_at hl 0 rfl) ?_
  refine g_get F hK hG.1 0 0 0 flX9_7 rfl rfl rfl dX9_erase_2 ?_
  refine lv_bipush (v := 6) hx hb dX9_erase_5 (by decide) ?_
  obtain ⟨x1, hx1, hf⟩ := g_bnd hf
  refine g_iald F hK hG.1 0 1 rfl rfl hx1 dX9_erase_7 ?_
  obtain ⟨j2, hf, hfj2⟩ := g_bnd hf
  have hJj2 : ∀ (H : Heap) (locs : List Loc), gS E A s.heap [C9 E h b0 w0] H locs → ∀ ls : Array Slot, lv_has ls 1 [(0, .ref (h b0))] → W p l e rX9_erase s m args below meth c H locs 0 0 Q (F0 m 16 ls [.int j2, .ref (h b0)]) := by
    intro H locs hG ls hl
    have hf := hfj2
    refine lv_iconst (v := 1) hx hb dX9_erase_16 (by decide) ?_
    obtain ⟨x4, hx4, hf⟩ := g_bnd hf
    refine g_mv (S' := [C9 E h b0 x4.2]) (As := [.int j2, .int 1]) (rest := []) F hK hX hAB hG [0] rfl rfl (c_X9_goes h b0 w0 j2 1 hx4) rfl (kX9_72 F.2.2.2.2 ⟨Nat.le_of_ble_eq_true rfl, Nat.le_of_ble_eq_true rfl⟩) rfl rfl rfl rfl hl.1 rfl (lv_room (Nat.le_of_ble_eq_true rfl)) ⟨Nat.zero_le _, Nat.zero_le _⟩ dX9_erase_17 (fun H locs hG => ?_)
    refine lv_if_ne (tgt := 25) hx hb dX9_erase_20 (by decide) (fun c5 => ?_) (fun c5 => ?_)
    · have hf := g_if c5 hf
      refine lv_aload_n hx hb dX9_erase_25 rfl (lv_at hl 0 rfl) ?_
      obtain ⟨x6, hx6, hf⟩ := g_bnd hf
      refine g_mvv (S' := [C9 E h b0 x6]) (As := []) (rest := []) F hK hX hAB hG [0] rfl rfl (c_X9_save h b0 x4.2 hx6) rfl (kX9_97 F.2.2.2.2 ⟨Nat.le_of_ble_eq_true rfl, Nat.le_of_ble_eq_true rfl⟩) rfl rfl rfl rfl hl.1 rfl (lv_room (Nat.le_of_ble_eq_true rfl)) ⟨Nat.zero_le _, Nat.zero_le _⟩ dX9_erase_26 (fun H locs hG => ?_)
      refine lv_aload_n hx hb dX9_erase_29 rfl (lv_at hl 0 rfl) ?_
      refine g_get F hK hG.1 0 0 0 flX9_7 rfl rfl rfl dX9_erase_30 ?_
      refine lv_bipush (v := 6) hx hb dX9_erase_33 (by decide) ?_
      refine lv_dup2_11 hx hb dX9_erase_35 rfl rfl ?_
      obtain ⟨x7, hx7, hf⟩ := g_bnd hf
      refine g_iald F hK hG.1 0 1 rfl rfl hx7 dX9_erase_36 ?_
      refine lv_iconst (v := 1) hx hb dX9_erase_37 (by decide) ?_
      refine lv_isub hx hb dX9_erase_38 ?_
      obtain ⟨x8, hx8, hf⟩ := g_bnd hf
      refine g_iast F hK hG 0 1 rfl rfl hx8 dX9_erase_39 (fun H locs hG => ?_)
      have hG : gS E A s.heap [C9 E h b0 (x8, x6.2.1, x6.2.2.1, x6.2.2.2.1, x6.2.2.2.2.1, x6.2.2.2.2.2.1, x6.2.2.2.2.2.2.1, x6.2.2.2.2.2.2.2.1, x6.2.2.2.2.2.2.2.2.1, x6.2.2.2.2.2.2.2.2.2)] H locs := hG
      refine lv_aload_n hx hb dX9_erase_40 rfl (lv_at hl 0 rfl) ?_
      refine g_get F hK hG.1 0 0 0 flX9_7 rfl rfl rfl dX9_erase_41 ?_
      refine lv_iconst (v := 5) hx hb dX9_erase_44 (by decide) ?_
      refine lv_iconst (v := (-1)) hx hb dX9_erase_45 (by decide) ?_
      obtain ⟨x9, hx9, hf⟩ := g_bnd hf
      refine g_iast F hK hG 0 1 rfl rfl hx9 dX9_erase_46 (fun H locs hG => ?_)
      have hG : gS E A s.heap [C9 E h b0 (x9, x6.2.1, x6.2.2.1, x6.2.2.2.1, x6.2.2.2.2.1, x6.2.2.2.2.2.1, x6.2.2.2.2.2.2.1, x6.2.2.2.2.2.2.2.1, x6.2.2.2.2.2.2.2.2.1, x6.2.2.2.2.2.2.2.2.2)] H locs := hG
      refine lv_aload_n hx hb dX9_erase_47 rfl (lv_at hl 0 rfl) ?_
      refine g_get F hK hG.1 0 0 0 flX9_7 rfl rfl rfl dX9_erase_48 ?_
      refine lv_bipush (v := 7) hx hb dX9_erase_51 (by decide) ?_
      refine lv_iconst (v := 0) hx hb dX9_erase_53 (by decide) ?_
      obtain ⟨x10, hx10, hf⟩ := g_bnd hf
      refine g_iast F hK hG 0 1 rfl rfl hx10 dX9_erase_54 (fun H locs hG => ?_)
      have hG : gS E A s.heap [C9 E h b0 (x10, x6.2.1, x6.2.2.1, x6.2.2.2.1, x6.2.2.2.2.1, x6.2.2.2.2.2.1, x6.2.2.2.2.2.2.1, x6.2.2.2.2.2.2.2.1, x6.2.2.2.2.2.2.2.2.1, x6.2.2.2.2.2.2.2.2.2)] H locs := hG
      refine lv_aload_n hx hb dX9_erase_55 rfl (lv_at hl 0 rfl) ?_
      refine g_get F hK hG.1 0 0 0 flX9_7 rfl rfl rfl dX9_erase_56 ?_
      refine lv_bipush (v := 6) hx hb dX9_erase_59 (by decide) ?_
      obtain ⟨x11, hx11, hf⟩ := g_bnd hf
      refine g_iald F hK hG.1 0 1 rfl rfl hx11 dX9_erase_61 ?_
      obtain ⟨j12, hf, hfj12⟩ := g_bnd hf
      have hJj12 : ∀ (H : Heap) (locs : List Loc), gS E A s.heap [C9 E h b0 j12] H locs → ∀ ls : Array Slot, lv_has ls 1 [(0, .ref (h b0))] → W p l e rX9_erase s m args below meth c H locs 0 0 Q (F0 m 95 ls []) := by
        intro H locs hG ls hl
        have hf := hfj12
        refine lv_aload_n hx hb dX9_erase_95 rfl (lv_at hl 0 rfl) ?_
        refine g_get F hK hG.1 0 0 0 flX9_7 rfl rfl rfl dX9_erase_96 ?_
        refine lv_bipush (v := 6) hx hb dX9_erase_99 (by decide) ?_
        obtain ⟨x19, hx19, hf⟩ := g_bnd hf
        refine g_iald F hK hG.1 0 1 rfl rfl hx19 dX9_erase_101 ?_
        have ho := Option.some.inj hf
        subst hA
        rw [← hQ, ← ho]
        exact g_mretI F hr hlk hG dX9_erase_102
      refine lv_if_ne (tgt := 95) hx hb dX9_erase_62 (by decide) (fun c13 => ?_) (fun c13 => ?_)
      · have hf := g_if c13 hf
        obtain rfl := Option.some.inj hf
        exact hJj12 _ _ hG ls (lv_sub hl [0] rfl)
      · have hf := g_it c13 hf
        refine lv_aload_n hx hb dX9_erase_65 rfl (lv_at hl 0 rfl) ?_
        refine g_get F hK hG.1 0 0 0 flX9_7 rfl rfl rfl dX9_erase_66 ?_
        refine lv_bipush (v := 9) hx hb dX9_erase_69 (by decide) ?_
        obtain ⟨x14, hx14, hf⟩ := g_bnd hf
        refine g_iald F hK hG.1 0 1 rfl rfl hx14 dX9_erase_71 ?_
        refine lv_iconst (v := (-1)) hx hb dX9_erase_72 (by decide) ?_
        refine lv_icmp_eq (tgt := 95) hx hb dX9_erase_73 (by decide) (fun c15 => ?_) (fun c15 => ?_)
        · have hf := g_it c15 hf
          obtain rfl := Option.some.inj hf
          exact hJj12 _ _ hG ls (lv_sub hl [0] rfl)
        · have hf := g_if c15 hf
          refine lv_aload_n hx hb dX9_erase_76 rfl (lv_at hl 0 rfl) ?_
          refine lv_aload_n hx hb dX9_erase_77 rfl (lv_at hl 0 rfl) ?_
          refine g_get F hK hG.1 0 0 0 flX9_7 rfl rfl rfl dX9_erase_78 ?_
          refine lv_bipush (v := 9) hx hb dX9_erase_81 (by decide) ?_
          obtain ⟨x16, hx16, hf⟩ := g_bnd hf
          refine g_iald F hK hG.1 0 1 rfl rfl hx16 dX9_erase_83 ?_
          obtain ⟨x17, hx17, hf⟩ := g_bnd hf
          refine g_mvv (S' := [C9 E h b0 x17]) (As := [.int x16]) (rest := []) F hK hX hAB hG [0] rfl rfl (c_X9_goesFromText h b0 (x10, x6.2.1, x6.2.2.1, x6.2.2.2.1, x6.2.2.2.2.1, x6.2.2.2.2.2.1, x6.2.2.2.2.2.2.1, x6.2.2.2.2.2.2.2.1, x6.2.2.2.2.2.2.2.2.1, x6.2.2.2.2.2.2.2.2.2) x16 hx17) rfl (kX9_110 F.2.2.2.2 ⟨Nat.le_of_ble_eq_true rfl, Nat.le_of_ble_eq_true rfl⟩) rfl rfl rfl rfl hl.1 rfl (lv_room (Nat.le_of_ble_eq_true rfl)) ⟨Nat.zero_le _, Nat.zero_le _⟩ dX9_erase_84 (fun H locs hG => ?_)
          refine lv_aload_n hx hb dX9_erase_87 rfl (lv_at hl 0 rfl) ?_
          refine g_get F hK hG.1 0 0 0 flX9_7 rfl rfl rfl dX9_erase_88 ?_
          refine lv_bipush (v := 9) hx hb dX9_erase_91 (by decide) ?_
          refine lv_iconst (v := (-1)) hx hb dX9_erase_93 (by decide) ?_
          obtain ⟨x18, hx18, hf⟩ := g_bnd hf
          refine g_iast F hK hG 0 1 rfl rfl hx18 dX9_erase_94 (fun H locs hG => ?_)
          have hG : gS E A s.heap [C9 E h b0 (x18, x17.2.1, x17.2.2.1, x17.2.2.2.1, x17.2.2.2.2.1, x17.2.2.2.2.2.1, x17.2.2.2.2.2.2.1, x17.2.2.2.2.2.2.2.1, x17.2.2.2.2.2.2.2.2.1, x17.2.2.2.2.2.2.2.2.2)] H locs := hG
          obtain rfl := Option.some.inj hf
          exact hJj12 _ _ hG ls (lv_sub hl [0] rfl)
    · have hf := g_it c5 hf
      refine lv_iconst (v := 0) hx hb dX9_erase_23 (by decide) ?_
      have ho := Option.some.inj hf
      subst hA
      rw [← hQ, ← ho]
      exact g_mretI F hr hlk hG dX9_erase_24
  refine lv_if_le (tgt := 15) hx hb dX9_erase_8 (by decide) (fun c3 => ?_) (fun c3 => ?_)
  · have hf := g_it c3 hf
    refine lv_iconst (v := 0) hx hb dX9_erase_15 (by decide) ?_
    obtain rfl := Option.some.inj hf
    exact hJj2 _ _ hG ls (lv_sub hl [0] rfl)
  · have hf := g_if c3 hf
    refine lv_iconst (v := 1) hx hb dX9_erase_11 (by decide) ?_
    refine lv_goto (tgt := 16) hx hb dX9_erase_12 (by decide) ?_
    obtain rfl := Option.some.inj hf
    exact hJj2 _ _ hG ls (lv_sub hl [0] rfl)
set_option maxHeartbeats 4000000 in
set_option maxRecDepth 100000 in
theorem c_X9_isShown {l : Launch} {E : gEnv} (h : Nat → Nat) (b0 : Nat) (w0 : T9) (a1 : Int32) {o : Int32} (hf : f_X9_isShown w0 a1 = some o) : gR l yX9_isShown cX9_isShown 4 (some .boolean) rX9_isShown E [.ref (h b0), .int a1] [C9 E h b0 w0] (some (.int o)) := by
  refine gR.of (by decide +kernel) (Nat.le_of_ble_eq_true rfl) ?_
  intro p e s m below meth c F hr hlk hK hX hP ls hl
  have F : gF p m c cX9_isShown 4 s ([.ref (h b0), .int a1] : List Value).toArray RX9 := F
  generalize ([.ref (h b0), .int a1] : List Value).toArray = args at F ⊢
  generalize hQ : MQ below _ _ _ _ _ _ = Q
  have hl : lv_has ls 4 [(0, .ref (h b0)), (1, .int a1)] := hl
  have hx := F.1
  have hb := F.2.1
  unfold f_X9_isShown at hf
  refine lv_aload_n hx hb dX9_isShown_0 rfl (lv_at hl 0 rfl) ?_
  refine lv_iload_n hx hb dX9_isShown_1 rfl (lv_at hl 1 rfl) ?_
  refine lv_iconst (v := 0) hx hb dX9_isShown_2 (by decide) ?_
  obtain ⟨x1, hx1, hf⟩ := g_bnd hf
  refine g_rv (As := [.int a1, .int 0]) (rest := []) F hK hX hP [0] rfl (c_X9_of h b0 w0 a1 0 hx1) (kX9_50 F.2.2.2.2 ⟨Nat.le_of_ble_eq_true rfl, Nat.le_of_ble_eq_true rfl⟩) rfl rfl rfl rfl hl.1 rfl (lv_room (Nat.le_of_ble_eq_true rfl)) ⟨Nat.zero_le _, Nat.zero_le _⟩ dX9_isShown_3 ?_
  refine lv_aload_n hx hb dX9_isShown_6 rfl (lv_at hl 0 rfl) ?_
  refine g_get F hK hP 0 0 6 flX9_92 rfl rfl rfl dX9_isShown_7 ?_
  obtain ⟨j2, hf, hfj2⟩ := g_bnd hf
  have hJj2 : ∀ ls : Array Slot, lv_has ls 4 [(0, .ref (h b0)), (1, .int a1)] → W p l e rX9_isShown s m args below meth c s.heap [] 0 0 Q (F0 m 18 ls [.int j2]) := by
    intro ls hl
    have hf := hfj2
    refine lv_istore_n (lv' := [(2, .int j2), (0, .ref (h b0)), (1, .int a1)]) hx hb dX9_isShown_18 rfl hl (by decide) rfl (fun ls hl => ?_)
    refine lv_iconst (v := 0) hx hb dX9_isShown_19 (by decide) ?_
    refine lv_istore_n (lv' := [(3, .int 0), (2, .int j2), (0, .ref (h b0)), (1, .int a1)]) hx hb dX9_isShown_20 rfl hl (by decide) rfl (fun ls hl => ?_)
    refine lp_rule (fun (v4 : Int32 × Int32) => ∀ ls : Array Slot, lv_has ls 4 [(0, .ref (h b0)), (1, .int a1), (2, .int v4.1), (3, .int v4.2)] → W p l e rX9_isShown s m args below meth c s.heap [] 0 0 Q (F0 m 21 ls [])) ?_ _ _ hf ls (lv_sub hl [2, 3, 1, 0] rfl)
    intro v4 y hf hbackv4 hexitv4 ls hl
    refine lv_iload_n hx hb dX9_isShown_21 rfl (lv_at hl 3 rfl) ?_
    refine lv_aload_n hx hb dX9_isShown_22 rfl (lv_at hl 0 rfl) ?_
    refine g_get F hK hP 0 0 6 flX9_92 rfl rfl rfl dX9_isShown_23 ?_
    refine lv_icmp_ge (tgt := 60) hx hb dX9_isShown_26 (by decide) (fun c6 => ?_) (fun c6 => ?_)
    · have hf := g_it c6 hf
      refine lv_iload_n hx hb dX9_isShown_60 rfl (lv_at hl 2 rfl) ?_
      obtain ⟨u7, hu7, hf⟩ := g_bnd hf
      have ho := hexitv4 _ (Option.some.inj hf).symm
      rw [← hQ, ← ho]
      exact g_retZ F hr hlk (bz_nar hu7) dX9_isShown_61
    · have hf := g_if c6 hf
      refine lv_iload_n hx hb dX9_isShown_29 rfl (lv_at hl 2 rfl) ?_
      refine lv_if_eq (tgt := 60) hx hb dX9_isShown_30 (by decide) (fun c8 => ?_) (fun c8 => ?_)
      · have hf := g_it c8 hf
        refine lv_iload_n hx hb dX9_isShown_60 rfl (lv_at hl 2 rfl) ?_
        obtain ⟨u9, hu9, hf⟩ := g_bnd hf
        have ho := hexitv4 _ (Option.some.inj hf).symm
        rw [← hQ, ← ho]
        exact g_retZ F hr hlk (bz_nar hu9) dX9_isShown_61
      · have hf := g_if c8 hf
        refine lv_aload_n hx hb dX9_isShown_33 rfl (lv_at hl 0 rfl) ?_
        refine lv_iload_n hx hb dX9_isShown_34 rfl (lv_at hl 1 rfl) ?_
        refine lv_iload_n hx hb dX9_isShown_35 rfl (lv_at hl 3 rfl) ?_
        obtain ⟨x10, hx10, hf⟩ := g_bnd hf
        refine g_rv (As := [.int a1, .int v4.2]) (rest := []) F hK hX hP [0] rfl (c_X9_letterOf h b0 w0 a1 v4.2 hx10) (kX9_53 F.2.2.2.2 ⟨Nat.le_of_ble_eq_true rfl, Nat.le_of_ble_eq_true rfl⟩) rfl rfl rfl rfl hl.1 rfl (lv_room (Nat.le_of_ble_eq_true rfl)) ⟨Nat.zero_le _, Nat.zero_le _⟩ dX9_isShown_36 ?_
        refine lv_aload_n hx hb dX9_isShown_39 rfl (lv_at hl 0 rfl) ?_
        refine g_get F hK hP 0 0 5 flX9_19 rfl rfl rfl dX9_isShown_40 ?_
        refine lv_iload_n hx hb dX9_isShown_43 rfl (lv_at hl 3 rfl) ?_
        obtain ⟨x11, hx11, hf⟩ := g_bnd hf
        refine g_iald F hK hP 0 4 rfl rfl hx11 dX9_isShown_44 ?_
        obtain ⟨j12, hf, hfj12⟩ := g_bnd hf
        have hJj12 : ∀ ls : Array Slot, lv_has ls 4 [(0, .ref (h b0)), (1, .int a1), (3, .int v4.2)] → W p l e rX9_isShown s m args below meth c s.heap [] 0 0 Q (F0 m 53 ls [.int j12]) := by
          intro ls hl
          have hf := hfj12
          refine lv_istore_n (lv' := [(2, .int j12), (0, .ref (h b0)), (1, .int a1), (3, .int v4.2)]) hx hb dX9_isShown_53 rfl hl (by decide) rfl (fun ls hl => ?_)
          refine lv_iinc (v := (v4.2 + 1)) (lv' := [(3, .int (v4.2 + 1)), (2, .int j12), (0, .ref (h b0)), (1, .int a1)]) hx hb dX9_isShown_54 hl (k := 3) rfl rfl (by decide) rfl (fun ls hl => ?_)
          refine lv_goto (tgt := 21) hx hb dX9_isShown_57 (by decide) ?_
          exact hbackv4 _ (Option.some.inj hf).symm ls (lv_sub hl [2, 3, 1, 0] rfl)
        refine lv_icmp_ne (tgt := 52) hx hb dX9_isShown_45 (by decide) (fun c13 => ?_) (fun c13 => ?_)
        · have hf := g_if c13 hf
          refine lv_iconst (v := 0) hx hb dX9_isShown_52 (by decide) ?_
          obtain rfl := Option.some.inj hf
          exact hJj12 ls (lv_sub hl [0, 1, 3] rfl)
        · have hf := g_it c13 hf
          refine lv_iconst (v := 1) hx hb dX9_isShown_48 (by decide) ?_
          refine lv_goto (tgt := 53) hx hb dX9_isShown_49 (by decide) ?_
          obtain rfl := Option.some.inj hf
          exact hJj12 ls (lv_sub hl [0, 1, 3] rfl)
  refine lv_icmp_ne (tgt := 17) hx hb dX9_isShown_10 (by decide) (fun c3 => ?_) (fun c3 => ?_)
  · have hf := g_if c3 hf
    refine lv_iconst (v := 0) hx hb dX9_isShown_17 (by decide) ?_
    obtain rfl := Option.some.inj hf
    exact hJj2 ls (lv_sub hl [0, 1] rfl)
  · have hf := g_it c3 hf
    refine lv_iconst (v := 1) hx hb dX9_isShown_13 (by decide) ?_
    refine lv_goto (tgt := 18) hx hb dX9_isShown_14 (by decide) ?_
    obtain rfl := Option.some.inj hf
    exact hJj2 ls (lv_sub hl [0, 1] rfl)
set_option maxHeartbeats 4000000 in
set_option maxRecDepth 100000 in
theorem c_X9_shownWord {l : Launch} {E : gEnv} (h : Nat → Nat) (b0 : Nat) (w0 : T9) {o : Int32} (hf : f_X9_shownWord w0 = some o) : gR l yX9_shownWord cX9_shownWord 3 (some .int) rX9_shownWord E [.ref (h b0)] [C9 E h b0 w0] (some (.int o)) := by
  refine gR.of (by decide +kernel) (Nat.le_of_ble_eq_true rfl) ?_
  intro p e s m below meth c F hr hlk hK hX hP ls hl
  have F : gF p m c cX9_shownWord 3 s ([.ref (h b0)] : List Value).toArray RX9 := F
  generalize ([.ref (h b0)] : List Value).toArray = args at F ⊢
  generalize hQ : MQ below _ _ _ _ _ _ = Q
  have hl : lv_has ls 3 [(0, .ref (h b0))] := hl
  have hx := F.1
  have hb := F.2.1
  unfold f_X9_shownWord at hf
  refine lv_iconst (v := (-1)) hx hb dX9_shownWord_0 (by decide) ?_
  refine lv_istore_n (lv' := [(1, .int (-1)), (0, .ref (h b0))]) hx hb dX9_shownWord_1 rfl hl (by decide) rfl (fun ls hl => ?_)
  refine lv_iconst (v := 0) hx hb dX9_shownWord_2 (by decide) ?_
  refine lv_istore_n (lv' := [(2, .int 0), (1, .int (-1)), (0, .ref (h b0))]) hx hb dX9_shownWord_3 rfl hl (by decide) rfl (fun ls hl => ?_)
  refine lp_rule (fun (v1 : Int32 × Int32) => ∀ ls : Array Slot, lv_has ls 3 [(0, .ref (h b0)), (1, .int v1.1), (2, .int v1.2)] → W p l e rX9_shownWord s m args below meth c s.heap [] 0 0 Q (F0 m 4 ls [])) ?_ _ _ hf ls (lv_sub hl [2, 1, 0] rfl)
  intro v1 y hf hbackv1 hexitv1 ls hl
  refine lv_iload_n hx hb dX9_shownWord_4 rfl (lv_at hl 2 rfl) ?_
  refine lv_aload_n hx hb dX9_shownWord_5 rfl (lv_at hl 0 rfl) ?_
  refine g_get F hK hP 0 0 0 flX9_7 rfl rfl rfl dX9_shownWord_6 ?_
  refine lv_iconst (v := 0) hx hb dX9_shownWord_9 (by decide) ?_
  obtain ⟨x3, hx3, hf⟩ := g_bnd hf
  refine g_iald F hK hP 0 1 rfl rfl hx3 dX9_shownWord_10 ?_
  refine lv_icmp_ge (tgt := 34) hx hb dX9_shownWord_11 (by decide) (fun c4 => ?_) (fun c4 => ?_)
  · have hf := g_it c4 hf
    refine lv_iload_n hx hb dX9_shownWord_34 rfl (lv_at hl 1 rfl) ?_
    have ho := hexitv1 _ (Option.some.inj hf).symm
    rw [← hQ, ← ho]
    exact g_retI F hr hlk dX9_shownWord_35
  · have hf := g_if c4 hf
    refine lv_aload_n hx hb dX9_shownWord_14 rfl (lv_at hl 0 rfl) ?_
    refine lv_iload_n hx hb dX9_shownWord_15 rfl (lv_at hl 2 rfl) ?_
    obtain ⟨x5, hx5, hf⟩ := g_bnd hf
    refine g_rv (As := [.int v1.2]) (rest := []) F hK hX hP [0] rfl (c_X9_isShown h b0 w0 v1.2 hx5) (kX9_114 F.2.2.2.2 ⟨Nat.le_of_ble_eq_true rfl, Nat.le_of_ble_eq_true rfl⟩) rfl rfl rfl rfl hl.1 rfl (lv_room (Nat.le_of_ble_eq_true rfl)) ⟨Nat.zero_le _, Nat.zero_le _⟩ dX9_shownWord_16 ?_
    obtain ⟨j6, hf, hfj6⟩ := g_bnd hf
    have hJj6 : ∀ ls : Array Slot, lv_has ls 3 [(0, .ref (h b0)), (2, .int v1.2)] → W p l e rX9_shownWord s m args below meth c s.heap [] 0 0 Q (F0 m 27 ls [.int j6]) := by
      intro ls hl
      have hf := hfj6
      refine lv_istore_n (lv' := [(1, .int j6), (0, .ref (h b0)), (2, .int v1.2)]) hx hb dX9_shownWord_27 rfl hl (by decide) rfl (fun ls hl => ?_)
      refine lv_iinc (v := (v1.2 + 1)) (lv' := [(2, .int (v1.2 + 1)), (1, .int j6), (0, .ref (h b0))]) hx hb dX9_shownWord_28 hl (k := 2) rfl rfl (by decide) rfl (fun ls hl => ?_)
      refine lv_goto (tgt := 4) hx hb dX9_shownWord_31 (by decide) ?_
      exact hbackv1 _ (Option.some.inj hf).symm ls (lv_sub hl [2, 1, 0] rfl)
    refine lv_if_eq (tgt := 26) hx hb dX9_shownWord_19 (by decide) (fun c7 => ?_) (fun c7 => ?_)
    · have hf := g_it c7 hf
      refine lv_iload_n hx hb dX9_shownWord_26 rfl (lv_at hl 1 rfl) ?_
      obtain rfl := Option.some.inj hf
      exact hJj6 ls (lv_sub hl [0, 2] rfl)
    · have hf := g_if c7 hf
      refine lv_iload_n hx hb dX9_shownWord_22 rfl (lv_at hl 2 rfl) ?_
      refine lv_goto (tgt := 27) hx hb dX9_shownWord_23 (by decide) ?_
      obtain rfl := Option.some.inj hf
      exact hJj6 ls (lv_sub hl [0, 2] rfl)
set_option maxHeartbeats 4000000 in
set_option maxRecDepth 100000 in
theorem c_X9_lowestAdded {l : Launch} {E : gEnv} (h : Nat → Nat) (b0 : Nat) (w0 : T9) {o : Int32} (hf : f_X9_lowestAdded w0 = some o) : gR l yX9_lowestAdded cX9_lowestAdded 4 (some .int) rX9_lowestAdded E [.ref (h b0)] [C9 E h b0 w0] (some (.int o)) := by
  refine gR.of (by decide +kernel) (Nat.le_of_ble_eq_true rfl) ?_
  intro p e s m below meth c F hr hlk hK hX hP ls hl
  have F : gF p m c cX9_lowestAdded 4 s ([.ref (h b0)] : List Value).toArray RX9 := F
  generalize ([.ref (h b0)] : List Value).toArray = args at F ⊢
  generalize hQ : MQ below _ _ _ _ _ _ = Q
  have hl : lv_has ls 4 [(0, .ref (h b0))] := hl
  have hx := F.1
  have hb := F.2.1
  unfold f_X9_lowestAdded at hf
  refine lv_iconst (v := (-1)) hx hb dX9_lowestAdded_0 (by decide) ?_
  refine lv_istore_n (lv' := [(1, .int (-1)), (0, .ref (h b0))]) hx hb dX9_lowestAdded_1 rfl hl (by decide) rfl (fun ls hl => ?_)
  refine lv_iconst (v := 0) hx hb dX9_lowestAdded_2 (by decide) ?_
  refine lv_istore_n (lv' := [(2, .int 0), (1, .int (-1)), (0, .ref (h b0))]) hx hb dX9_lowestAdded_3 rfl hl (by decide) rfl (fun ls hl => ?_)
  refine lp_rule (fun (v1 : Int32 × Int32) => ∀ ls : Array Slot, lv_has ls 4 [(0, .ref (h b0)), (1, .int v1.1), (2, .int v1.2)] → W p l e rX9_lowestAdded s m args below meth c s.heap [] 0 0 Q (F0 m 4 ls [])) ?_ _ _ hf ls (lv_sub hl [2, 1, 0] rfl)
  intro v1 y hf hbackv1 hexitv1 ls hl
  refine lv_iload_n hx hb dX9_lowestAdded_4 rfl (lv_at hl 2 rfl) ?_
  refine lv_aload_n hx hb dX9_lowestAdded_5 rfl (lv_at hl 0 rfl) ?_
  refine g_get F hK hP 0 0 0 flX9_7 rfl rfl rfl dX9_lowestAdded_6 ?_
  refine lv_iconst (v := 0) hx hb dX9_lowestAdded_9 (by decide) ?_
  obtain ⟨x3, hx3, hf⟩ := g_bnd hf
  refine g_iald F hK hP 0 1 rfl rfl hx3 dX9_lowestAdded_10 ?_
  refine lv_icmp_ge (tgt := 60) hx hb dX9_lowestAdded_11 (by decide) (fun c4 => ?_) (fun c4 => ?_)
  · have hf := g_it c4 hf
    refine lv_iload_n hx hb dX9_lowestAdded_60 rfl (lv_at hl 1 rfl) ?_
    have ho := hexitv1 _ (Option.some.inj hf).symm
    rw [← hQ, ← ho]
    exact g_retI F hr hlk dX9_lowestAdded_61
  · have hf := g_if c4 hf
    refine lv_iload_n hx hb dX9_lowestAdded_14 rfl (lv_at hl 1 rfl) ?_
    refine lv_iconst (v := (-1)) hx hb dX9_lowestAdded_15 (by decide) ?_
    obtain ⟨j5, hf, hfj5⟩ := g_bnd hf
    have hJj5 : ∀ ls : Array Slot, lv_has ls 4 [(0, .ref (h b0)), (1, .int v1.1), (2, .int v1.2)] → W p l e rX9_lowestAdded s m args below meth c s.heap [] 0 0 Q (F0 m 33 ls [.int j5]) := by
      intro ls hl
      have hf := hfj5
      refine lv_istore_n (lv' := [(3, .int j5), (0, .ref (h b0)), (1, .int v1.1), (2, .int v1.2)]) hx hb dX9_lowestAdded_33 rfl hl (by decide) rfl (fun ls hl => ?_)
      refine lv_aload_n hx hb dX9_lowestAdded_34 rfl (lv_at hl 1 rfl) ?_
      refine lv_iload_n hx hb dX9_lowestAdded_35 rfl (lv_at hl 3 rfl) ?_
      refine lv_iconst (v := 3) hx hb dX9_lowestAdded_36 (by decide) ?_
      obtain ⟨x9, hx9, hf⟩ := g_bnd hf
      refine g_rv (As := [.int v1.2, .int 3]) (rest := []) F hK hX hP [0] rfl (c_X9_of h b0 w0 v1.2 3 hx9) (kX9_50 F.2.2.2.2 ⟨Nat.le_of_ble_eq_true rfl, Nat.le_of_ble_eq_true rfl⟩) rfl rfl rfl rfl hl.1 rfl (lv_room (Nat.le_of_ble_eq_true rfl)) ⟨Nat.zero_le _, Nat.zero_le _⟩ dX9_lowestAdded_37 ?_
      refine lv_iconst (v := 1) hx hb dX9_lowestAdded_40 (by decide) ?_
      obtain ⟨j10, hf, hfj10⟩ := g_bnd hf
      have hJj10 : ∀ ls : Array Slot, lv_has ls 4 [(0, .ref (h b0)), (2, .int v1.2)] → W p l e rX9_lowestAdded s m args below meth c s.heap [] 0 0 Q (F0 m 53 ls [.int j10]) := by
        intro ls hl
        have hf := hfj10
        refine lv_istore_n (lv' := [(1, .int j10), (0, .ref (h b0)), (2, .int v1.2)]) hx hb dX9_lowestAdded_53 rfl hl (by decide) rfl (fun ls hl => ?_)
        refine lv_iinc (v := (v1.2 + 1)) (lv' := [(2, .int (v1.2 + 1)), (1, .int j10), (0, .ref (h b0))]) hx hb dX9_lowestAdded_54 hl (k := 2) rfl rfl (by decide) rfl (fun ls hl => ?_)
        refine lv_goto (tgt := 4) hx hb dX9_lowestAdded_57 (by decide) ?_
        exact hbackv1 _ (Option.some.inj hf).symm ls (lv_sub hl [2, 1, 0] rfl)
      refine lv_icmp_ne (tgt := 52) hx hb dX9_lowestAdded_41 (by decide) (fun c11 => ?_) (fun c11 => ?_)
      · have hf := g_if c11 hf
        refine lv_iload_n hx hb dX9_lowestAdded_52 rfl (lv_at hl 2 rfl) ?_
        obtain rfl := Option.some.inj hf
        exact hJj10 ls (lv_sub hl [1, 3] rfl)
      · have hf := g_it c11 hf
        refine lv_iload_n hx hb dX9_lowestAdded_44 rfl (lv_at hl 0 rfl) ?_
        refine lv_if_eq (tgt := 52) hx hb dX9_lowestAdded_45 (by decide) (fun c12 => ?_) (fun c12 => ?_)
        · have hf := g_it c12 hf
          refine lv_iload_n hx hb dX9_lowestAdded_52 rfl (lv_at hl 2 rfl) ?_
          obtain rfl := Option.some.inj hf
          exact hJj10 ls (lv_sub hl [1, 3] rfl)
        · have hf := g_if c12 hf
          refine lv_iload_n hx hb dX9_lowestAdded_48 rfl (lv_at hl 3 rfl) ?_
          refine lv_goto (tgt := 53) hx hb dX9_lowestAdded_49 (by decide) ?_
          obtain rfl := Option.some.inj hf
          exact hJj10 ls (lv_sub hl [1, 3] rfl)
    refine lv_icmp_eq (tgt := 28) hx hb dX9_lowestAdded_16 (by decide) (fun c6 => ?_) (fun c6 => ?_)
    · have hf := g_it c6 hf
      refine lv_iconst (v := 1) hx hb dX9_lowestAdded_28 (by decide) ?_
      refine lv_goto (tgt := 33) hx hb dX9_lowestAdded_29 (by decide) ?_
      obtain rfl := Option.some.inj hf
      exact hJj5 ls (lv_sub hl [0, 1, 2] rfl)
    · have hf := g_if c6 hf
      refine lv_aload_n hx hb dX9_lowestAdded_19 rfl (lv_at hl 0 rfl) ?_
      refine lv_iload_n hx hb dX9_lowestAdded_20 rfl (lv_at hl 1 rfl) ?_
      refine lv_iload_n hx hb dX9_lowestAdded_21 rfl (lv_at hl 2 rfl) ?_
      obtain ⟨x7, hx7, hf⟩ := g_bnd hf
      refine g_rv (As := [.int v1.1, .int v1.2]) (rest := []) F hK hX hP [0] rfl (c_X9_isAhead h b0 w0 v1.1 v1.2 hx7) (kX9_59 F.2.2.2.2 ⟨Nat.le_of_ble_eq_true rfl, Nat.le_of_ble_eq_true rfl⟩) rfl rfl rfl rfl hl.1 rfl (lv_room (Nat.le_of_ble_eq_true rfl)) ⟨Nat.zero_le _, Nat.zero_le _⟩ dX9_lowestAdded_22 ?_
      refine lv_if_eq (tgt := 32) hx hb dX9_lowestAdded_25 (by decide) (fun c8 => ?_) (fun c8 => ?_)
      · have hf := g_it c8 hf
        refine lv_iconst (v := 0) hx hb dX9_lowestAdded_32 (by decide) ?_
        obtain rfl := Option.some.inj hf
        exact hJj5 ls (lv_sub hl [0, 1, 2] rfl)
      · have hf := g_if c8 hf
        refine lv_iconst (v := 1) hx hb dX9_lowestAdded_28 (by decide) ?_
        refine lv_goto (tgt := 33) hx hb dX9_lowestAdded_29 (by decide) ?_
        obtain rfl := Option.some.inj hf
        exact hJj5 ls (lv_sub hl [0, 1, 2] rfl)
set_option maxHeartbeats 4000000 in
set_option maxRecDepth 100000 in
theorem c_X9_adds {l : Launch} {E : gEnv} (h : Nat → Nat) (b0 : Nat) (w0 : T9) (a1 : Int32) {o : T9} (hf : f_X9_adds w0 a1 = some o) : gM l yX9_adds cX9_adds 5 none rX9_adds E [.ref (h b0), .int a1] [C9 E h b0 w0] (none) [C9 E h b0 o] := by
  refine gM.of (by decide +kernel) (Nat.le_of_ble_eq_true rfl) rfl ?_
  intro p e s m below meth c F hr hlk hK hX hAB ls hl H locs hG
  have F : gF p m c cX9_adds 5 s ([.ref (h b0), .int a1] : List Value).toArray RX9 := F
  generalize ([.ref (h b0), .int a1] : List Value).toArray = args at F ⊢
  generalize hQ : MQ below _ _ _ _ _ _ = Q
  generalize hA : gAd [C9 E h b0 w0] = A at hAB hG
  have hl : lv_has ls 5 [(0, .ref (h b0)), (1, .int a1)] := hl
  have hx := F.1
  have hb := F.2.1
  unfold f_X9_adds at hf
  refine lv_aload_n hx hb dX9_adds_0 rfl (lv_at hl 0 rfl) ?_
  refine g_get F hK hG.1 0 0 0 flX9_7 rfl rfl rfl dX9_adds_1 ?_
  refine lv_iconst (v := 0) hx hb dX9_adds_4 (by decide) ?_
  obtain ⟨x1, hx1, hf⟩ := g_bnd hf
  refine g_iald F hK hG.1 0 1 rfl rfl hx1 dX9_adds_5 ?_
  refine lv_bipush (v := 50) hx hb dX9_adds_6 (by decide) ?_
  obtain ⟨j2, hf, hfj2⟩ := g_bnd hf
  have hJj2 : ∀ (H : Heap) (locs : List Loc), gS E A s.heap [C9 E h b0 w0] H locs → ∀ ls : Array Slot, lv_has ls 5 [(0, .ref (h b0)), (1, .int a1)] → W p l e rX9_adds s m args below meth c H locs 0 0 Q (F0 m 19 ls [.int j2]) := by
    intro H locs hG ls hl
    have hf := hfj2
    refine lv_istore_n (lv' := [(2, .int j2), (0, .ref (h b0)), (1, .int a1)]) hx hb dX9_adds_19 rfl hl (by decide) rfl (fun ls hl => ?_)
    refine lv_iload_n hx hb dX9_adds_20 rfl (lv_at hl 0 rfl) ?_
    refine lv_iconst (v := (-1)) hx hb dX9_adds_21 (by decide) ?_
    obtain ⟨j5, hf, hfj5⟩ := g_bnd hf
    have hJj5 : ∀ (H : Heap) (locs : List Loc), gS E A s.heap [C9 E h b0 j5] H locs → ∀ ls : Array Slot, lv_has ls 5 [(0, .ref (h b0)), (1, .int a1)] → W p l e rX9_adds s m args below meth c H locs 0 0 Q (F0 m 30 ls []) := by
      intro H locs hG ls hl
      have hf := hfj5
      refine lv_aload_n hx hb dX9_adds_30 rfl (lv_at hl 0 rfl) ?_
      refine g_get F hK hG.1 0 0 0 flX9_7 rfl rfl rfl dX9_adds_31 ?_
      refine lv_iconst (v := 0) hx hb dX9_adds_34 (by decide) ?_
      obtain ⟨x8, hx8, hf⟩ := g_bnd hf
      refine g_iald F hK hG.1 0 1 rfl rfl hx8 dX9_adds_35 ?_
      refine lv_bipush (v := 50) hx hb dX9_adds_36 (by decide) ?_
      refine lv_icmp_ge (tgt := 143) hx hb dX9_adds_38 (by decide) (fun c9 => ?_) (fun c9 => ?_)
      · have hf := g_it c9 hf
        have ho := Option.some.inj hf
        subst hA
        rw [← hQ, ← ho]
        exact g_mretV F hr hlk hG dX9_adds_143
      · have hf := g_if c9 hf
        refine lv_aload_n hx hb dX9_adds_41 rfl (lv_at hl 0 rfl) ?_
        refine g_get F hK hG.1 0 0 0 flX9_7 rfl rfl rfl dX9_adds_42 ?_
        refine lv_iconst (v := 0) hx hb dX9_adds_45 (by decide) ?_
        obtain ⟨x10, hx10, hf⟩ := g_bnd hf
        refine g_iald F hK hG.1 0 1 rfl rfl hx10 dX9_adds_46 ?_
        refine lv_istore_n (lv' := [(3, .int x10), (0, .ref (h b0)), (1, .int a1)]) hx hb dX9_adds_47 rfl hl (by decide) rfl (fun ls hl => ?_)
        refine lv_aload_n hx hb dX9_adds_48 rfl (lv_at hl 1 rfl) ?_
        refine g_get F hK hG.1 0 0 0 flX9_7 rfl rfl rfl dX9_adds_49 ?_
        refine lv_iconst (v := 0) hx hb dX9_adds_52 (by decide) ?_
        refine lv_dup2_11 hx hb dX9_adds_53 rfl rfl ?_
        obtain ⟨x11, hx11, hf⟩ := g_bnd hf
        refine g_iald F hK hG.1 0 1 rfl rfl hx11 dX9_adds_54 ?_
        refine lv_iconst (v := 1) hx hb dX9_adds_55 (by decide) ?_
        refine lv_iadd hx hb dX9_adds_56 ?_
        obtain ⟨x12, hx12, hf⟩ := g_bnd hf
        refine g_iast F hK hG 0 1 rfl rfl hx12 dX9_adds_57 (fun H locs hG => ?_)
        have hG : gS E A s.heap [C9 E h b0 (x12, j5.2.1, j5.2.2.1, j5.2.2.2.1, j5.2.2.2.2.1, j5.2.2.2.2.2.1, j5.2.2.2.2.2.2.1, j5.2.2.2.2.2.2.2.1, j5.2.2.2.2.2.2.2.2.1, j5.2.2.2.2.2.2.2.2.2)] H locs := hG
        refine lv_aload_n hx hb dX9_adds_58 rfl (lv_at hl 1 rfl) ?_
        refine g_get F hK hG.1 0 0 0 flX9_7 rfl rfl rfl dX9_adds_59 ?_
        refine lv_iload_n hx hb dX9_adds_62 rfl (lv_at hl 0 rfl) ?_
        refine lv_iconst (v := 0) hx hb dX9_adds_63 (by decide) ?_
        obtain ⟨x13, hx13, hf⟩ := g_bnd hf
        refine g_rs (As := [.int x10, .int 0]) (rest := [.ref (h (b0+1))]) F hK (hG.X hX hAB) hG.1 [] rfl (c_X9_at h x10 0 hx13) (kX9_42 F.2.2.2.2 ⟨Nat.le_of_ble_eq_true rfl, Nat.le_of_ble_eq_true rfl⟩) rfl hl.1 rfl (lv_room (Nat.le_of_ble_eq_true rfl)) ⟨Nat.zero_le _, Nat.zero_le _⟩ dX9_adds_64 ?_
        refine lv_aload_n hx hb dX9_adds_67 rfl (lv_at hl 1 rfl) ?_
        refine g_get F hK hG.1 0 0 6 flX9_92 rfl rfl rfl dX9_adds_68 ?_
        obtain ⟨x14, hx14, hf⟩ := g_bnd hf
        refine g_iast F hK hG 0 1 rfl rfl hx14 dX9_adds_71 (fun H locs hG => ?_)
        have hG : gS E A s.heap [C9 E h b0 (x14, j5.2.1, j5.2.2.1, j5.2.2.2.1, j5.2.2.2.2.1, j5.2.2.2.2.2.1, j5.2.2.2.2.2.2.1, j5.2.2.2.2.2.2.2.1, j5.2.2.2.2.2.2.2.2.1, j5.2.2.2.2.2.2.2.2.2)] H locs := hG
        refine lv_aload_n hx hb dX9_adds_72 rfl (lv_at hl 1 rfl) ?_
        refine g_get F hK hG.1 0 0 0 flX9_7 rfl rfl rfl dX9_adds_73 ?_
        refine lv_iload_n hx hb dX9_adds_76 rfl (lv_at hl 0 rfl) ?_
        refine lv_iconst (v := 1) hx hb dX9_adds_77 (by decide) ?_
        obtain ⟨x15, hx15, hf⟩ := g_bnd hf
        refine g_rs (As := [.int x10, .int 1]) (rest := [.ref (h (b0+1))]) F hK (hG.X hX hAB) hG.1 [] rfl (c_X9_at h x10 1 hx15) (kX9_42 F.2.2.2.2 ⟨Nat.le_of_ble_eq_true rfl, Nat.le_of_ble_eq_true rfl⟩) rfl hl.1 rfl (lv_room (Nat.le_of_ble_eq_true rfl)) ⟨Nat.zero_le _, Nat.zero_le _⟩ dX9_adds_78 ?_
        refine lv_iconst (v := 1) hx hb dX9_adds_81 (by decide) ?_
        obtain ⟨x16, hx16, hf⟩ := g_bnd hf
        refine g_iast F hK hG 0 1 rfl rfl hx16 dX9_adds_82 (fun H locs hG => ?_)
        have hG : gS E A s.heap [C9 E h b0 (x16, j5.2.1, j5.2.2.1, j5.2.2.2.1, j5.2.2.2.2.1, j5.2.2.2.2.2.1, j5.2.2.2.2.2.2.1, j5.2.2.2.2.2.2.2.1, j5.2.2.2.2.2.2.2.2.1, j5.2.2.2.2.2.2.2.2.2)] H locs := hG
        refine lv_aload_n hx hb dX9_adds_83 rfl (lv_at hl 1 rfl) ?_
        refine g_get F hK hG.1 0 0 0 flX9_7 rfl rfl rfl dX9_adds_84 ?_
        refine lv_iload_n hx hb dX9_adds_87 rfl (lv_at hl 0 rfl) ?_
        refine lv_iconst (v := 2) hx hb dX9_adds_88 (by decide) ?_
        obtain ⟨x17, hx17, hf⟩ := g_bnd hf
        refine g_rs (As := [.int x10, .int 2]) (rest := [.ref (h (b0+1))]) F hK (hG.X hX hAB) hG.1 [] rfl (c_X9_at h x10 2 hx17) (kX9_42 F.2.2.2.2 ⟨Nat.le_of_ble_eq_true rfl, Nat.le_of_ble_eq_true rfl⟩) rfl hl.1 rfl (lv_room (Nat.le_of_ble_eq_true rfl)) ⟨Nat.zero_le _, Nat.zero_le _⟩ dX9_adds_89 ?_
        refine lv_iload_n hx hb dX9_adds_92 rfl (lv_at hl 2 rfl) ?_
        obtain ⟨x18, hx18, hf⟩ := g_bnd hf
        refine g_iast F hK hG 0 1 rfl rfl hx18 dX9_adds_93 (fun H locs hG => ?_)
        have hG : gS E A s.heap [C9 E h b0 (x18, j5.2.1, j5.2.2.1, j5.2.2.2.1, j5.2.2.2.2.1, j5.2.2.2.2.2.1, j5.2.2.2.2.2.2.1, j5.2.2.2.2.2.2.2.1, j5.2.2.2.2.2.2.2.2.1, j5.2.2.2.2.2.2.2.2.2)] H locs := hG
        refine lv_aload_n hx hb dX9_adds_94 rfl (lv_at hl 1 rfl) ?_
        refine g_get F hK hG.1 0 0 0 flX9_7 rfl rfl rfl dX9_adds_95 ?_
        refine lv_iload_n hx hb dX9_adds_98 rfl (lv_at hl 0 rfl) ?_
        refine lv_iconst (v := 3) hx hb dX9_adds_99 (by decide) ?_
        obtain ⟨x19, hx19, hf⟩ := g_bnd hf
        refine g_rs (As := [.int x10, .int 3]) (rest := [.ref (h (b0+1))]) F hK (hG.X hX hAB) hG.1 [] rfl (c_X9_at h x10 3 hx19) (kX9_42 F.2.2.2.2 ⟨Nat.le_of_ble_eq_true rfl, Nat.le_of_ble_eq_true rfl⟩) rfl hl.1 rfl (lv_room (Nat.le_of_ble_eq_true rfl)) ⟨Nat.zero_le _, Nat.zero_le _⟩ dX9_adds_100 ?_
        refine lv_iconst (v := 1) hx hb dX9_adds_103 (by decide) ?_
        obtain ⟨x20, hx20, hf⟩ := g_bnd hf
        refine g_iast F hK hG 0 1 rfl rfl hx20 dX9_adds_104 (fun H locs hG => ?_)
        have hG : gS E A s.heap [C9 E h b0 (x20, j5.2.1, j5.2.2.1, j5.2.2.2.1, j5.2.2.2.2.1, j5.2.2.2.2.2.1, j5.2.2.2.2.2.2.1, j5.2.2.2.2.2.2.2.1, j5.2.2.2.2.2.2.2.2.1, j5.2.2.2.2.2.2.2.2.2)] H locs := hG
        refine lv_iconst (v := 0) hx hb dX9_adds_105 (by decide) ?_
        refine lv_istore (lv' := [(4, .int 0), (3, .int x10), (0, .ref (h b0)), (1, .int a1)]) hx hb dX9_adds_106 hl (by decide) rfl (fun ls hl => ?_)
        refine lp_rule (fun (v21 : Int32 × T9) => ∀ (H : Heap) (locs : List Loc), gS E A s.heap [C9 E h b0 v21.2] H locs → ∀ ls : Array Slot, lv_has ls 5 [(0, .ref (h b0)), (3, .int x10), (4, .int v21.1)] → W p l e rX9_adds s m args below meth c H locs 0 0 Q (F0 m 108 ls [])) ?_ _ _ hf _ _ hG ls (lv_sub hl [2, 1, 0] rfl)
        intro v21 y hf hbackv21 hexitv21 H locs hG ls hl
        refine lv_iload hx hb dX9_adds_108 (lv_at hl 2 rfl) ?_
        refine lv_aload_n hx hb dX9_adds_110 rfl (lv_at hl 0 rfl) ?_
        refine g_get F hK hG.1 0 0 6 flX9_92 rfl rfl rfl dX9_adds_111 ?_
        refine lv_icmp_ge (tgt := 143) hx hb dX9_adds_114 (by decide) (fun c23 => ?_) (fun c23 => ?_)
        · have hf := g_it c23 hf
          have ho := hexitv21 _ (Option.some.inj hf).symm
          subst hA
          rw [← hQ, ← ho]
          exact g_mretV F hr hlk hG dX9_adds_143
        · have hf := g_if c23 hf
          refine lv_aload_n hx hb dX9_adds_117 rfl (lv_at hl 0 rfl) ?_
          refine g_get F hK hG.1 0 0 0 flX9_7 rfl rfl rfl dX9_adds_118 ?_
          refine lv_iload_n hx hb dX9_adds_121 rfl (lv_at hl 1 rfl) ?_
          refine lv_iconst (v := 4) hx hb dX9_adds_122 (by decide) ?_
          refine lv_iload hx hb dX9_adds_123 (lv_at hl 2 rfl) ?_
          refine lv_iadd hx hb dX9_adds_125 ?_
          obtain ⟨x24, hx24, hf⟩ := g_bnd hf
          refine g_rs (As := [.int x10, .int (4 + v21.1)]) (rest := [.ref (h (b0+1))]) F hK (hG.X hX hAB) hG.1 [] rfl (c_X9_at h x10 (4 + v21.1) hx24) (kX9_42 F.2.2.2.2 ⟨Nat.le_of_ble_eq_true rfl, Nat.le_of_ble_eq_true rfl⟩) rfl hl.1 rfl (lv_room (Nat.le_of_ble_eq_true rfl)) ⟨Nat.zero_le _, Nat.zero_le _⟩ dX9_adds_126 ?_
          refine lv_aload_n hx hb dX9_adds_129 rfl (lv_at hl 0 rfl) ?_
          refine g_get F hK hG.1 0 0 5 flX9_19 rfl rfl rfl dX9_adds_130 ?_
          refine lv_iload hx hb dX9_adds_133 (lv_at hl 2 rfl) ?_
          obtain ⟨x25, hx25, hf⟩ := g_bnd hf
          refine g_iald F hK hG.1 0 4 rfl rfl hx25 dX9_adds_135 ?_
          obtain ⟨x26, hx26, hf⟩ := g_bnd hf
          refine g_iast F hK hG 0 1 rfl rfl hx26 dX9_adds_136 (fun H locs hG => ?_)
          have hG : gS E A s.heap [C9 E h b0 (x26, v21.2.2.1, v21.2.2.2.1, v21.2.2.2.2.1, v21.2.2.2.2.2.1, v21.2.2.2.2.2.2.1, v21.2.2.2.2.2.2.2.1, v21.2.2.2.2.2.2.2.2.1, v21.2.2.2.2.2.2.2.2.2.1, v21.2.2.2.2.2.2.2.2.2.2)] H locs := hG
          refine lv_iinc (v := (v21.1 + 1)) (lv' := [(4, .int (v21.1 + 1)), (0, .ref (h b0)), (3, .int x10)]) hx hb dX9_adds_137 hl (k := 2) rfl rfl (by decide) rfl (fun ls hl => ?_)
          refine lv_goto (tgt := 108) hx hb dX9_adds_140 (by decide) ?_
          exact hbackv21 _ (Option.some.inj hf).symm _ _ hG ls (lv_sub hl [1, 2, 0] rfl)
    refine lv_icmp_eq (tgt := 30) hx hb dX9_adds_22 (by decide) (fun c6 => ?_) (fun c6 => ?_)
    · have hf := g_it c6 hf
      obtain rfl := Option.some.inj hf
      exact hJj5 _ _ hG ls (lv_sub hl [1, 2] rfl)
    · have hf := g_if c6 hf
      refine lv_aload_n hx hb dX9_adds_25 rfl (lv_at hl 1 rfl) ?_
      refine lv_iload_n hx hb dX9_adds_26 rfl (lv_at hl 0 rfl) ?_
      obtain ⟨x7, hx7, hf⟩ := g_bnd hf
      refine g_mvv (S' := [C9 E h b0 x7]) (As := [.int j2]) (rest := []) F hK hX hAB hG [0] rfl rfl (c_X9_leaves h b0 w0 j2 hx7) rfl (kX9_120 F.2.2.2.2 ⟨Nat.le_of_ble_eq_true rfl, Nat.le_of_ble_eq_true rfl⟩) rfl rfl rfl rfl hl.1 rfl (lv_room (Nat.le_of_ble_eq_true rfl)) ⟨Nat.zero_le _, Nat.zero_le _⟩ dX9_adds_27 (fun H locs hG => ?_)
      obtain rfl := Option.some.inj hf
      exact hJj5 _ _ hG ls (lv_sub hl [1, 2] rfl)
  refine lv_icmp_ne (tgt := 18) hx hb dX9_adds_8 (by decide) (fun c3 => ?_) (fun c3 => ?_)
  · have hf := g_if c3 hf
    refine lv_iconst (v := (-1)) hx hb dX9_adds_18 (by decide) ?_
    obtain rfl := Option.some.inj hf
    exact hJj2 _ _ hG ls (lv_sub hl [0, 1] rfl)
  · have hf := g_it c3 hf
    refine lv_aload_n hx hb dX9_adds_11 rfl (lv_at hl 0 rfl) ?_
    obtain ⟨x4, hx4, hf⟩ := g_bnd hf
    refine g_rv (As := []) (rest := []) F hK (hG.X hX hAB) hG.1 [0] rfl (c_X9_lowestAdded h b0 w0 hx4) (kX9_117 F.2.2.2.2 ⟨Nat.le_of_ble_eq_true rfl, Nat.le_of_ble_eq_true rfl⟩) rfl rfl rfl rfl hl.1 rfl (lv_room (Nat.le_of_ble_eq_true rfl)) ⟨Nat.zero_le _, Nat.zero_le _⟩ dX9_adds_12 ?_
    refine lv_goto (tgt := 19) hx hb dX9_adds_15 (by decide) ?_
    obtain rfl := Option.some.inj hf
    exact hJj2 _ _ hG ls (lv_sub hl [0, 1] rfl)
set_option maxHeartbeats 4000000 in
set_option maxRecDepth 100000 in
theorem c_X9_ages {l : Launch} {E : gEnv} (h : Nat → Nat) (b0 : Nat) (w0 : T9) {o : T9} (hf : f_X9_ages w0 = some o) : gM l yX9_ages cX9_ages 2 none rX9_ages E [.ref (h b0)] [C9 E h b0 w0] (none) [C9 E h b0 o] := by
  refine gM.of (by decide +kernel) (Nat.le_of_ble_eq_true rfl) rfl ?_
  intro p e s m below meth c F hr hlk hK hX hAB ls hl H locs hG
  have F : gF p m c cX9_ages 2 s ([.ref (h b0)] : List Value).toArray RX9 := F
  generalize ([.ref (h b0)] : List Value).toArray = args at F ⊢
  generalize hQ : MQ below _ _ _ _ _ _ = Q
  generalize hA : gAd [C9 E h b0 w0] = A at hAB hG
  have hl : lv_has ls 2 [(0, .ref (h b0))] := hl
  have hx := F.1
  have hb := F.2.1
  unfold f_X9_ages at hf
  refine lv_aload_n hx hb dX9_ages_0 rfl (lv_at hl 0 rfl) ?_
  refine g_get F hK hG.1 0 0 0 flX9_7 rfl rfl rfl dX9_ages_1 ?_
  refine lv_iconst (v := 0) hx hb dX9_ages_4 (by decide) ?_
  obtain ⟨x1, hx1, hf⟩ := g_bnd hf
  refine g_iald F hK hG.1 0 1 rfl rfl hx1 dX9_ages_5 ?_
  refine lv_iconst (v := 1) hx hb dX9_ages_6 (by decide) ?_
  refine lv_isub hx hb dX9_ages_7 ?_
  refine lv_istore_n (lv' := [(1, .int (x1 - 1)), (0, .ref (h b0))]) hx hb dX9_ages_8 rfl hl (by decide) rfl (fun ls hl => ?_)
  refine lp_rule (fun (v2 : Int32 × T9) => ∀ (H : Heap) (locs : List Loc), gS E A s.heap [C9 E h b0 v2.2] H locs → ∀ ls : Array Slot, lv_has ls 2 [(0, .ref (h b0)), (1, .int v2.1)] → W p l e rX9_ages s m args below meth c H locs 0 0 Q (F0 m 9 ls [])) ?_ _ _ hf _ _ hG ls (lv_sub hl [1, 0] rfl)
  intro v2 y hf hbackv2 hexitv2 H locs hG ls hl
  refine lv_iload_n hx hb dX9_ages_9 rfl (lv_at hl 1 rfl) ?_
  refine lv_if_lt (tgt := 65) hx hb dX9_ages_10 (by decide) (fun c4 => ?_) (fun c4 => ?_)
  · have hf := g_it c4 hf
    have ho := hexitv2 _ (Option.some.inj hf).symm
    subst hA
    rw [← hQ, ← ho]
    exact g_mretV F hr hlk hG dX9_ages_65
  · have hf := g_if c4 hf
    refine lv_aload_n hx hb dX9_ages_13 rfl (lv_at hl 0 rfl) ?_
    refine lv_iload_n hx hb dX9_ages_14 rfl (lv_at hl 1 rfl) ?_
    refine lv_iconst (v := 3) hx hb dX9_ages_15 (by decide) ?_
    obtain ⟨x5, hx5, hf⟩ := g_bnd hf
    refine g_rv (As := [.int v2.1, .int 3]) (rest := []) F hK (hG.X hX hAB) hG.1 [0] rfl (c_X9_of h b0 v2.2 v2.1 3 hx5) (kX9_50 F.2.2.2.2 ⟨Nat.le_of_ble_eq_true rfl, Nat.le_of_ble_eq_true rfl⟩) rfl rfl rfl rfl hl.1 rfl (lv_room (Nat.le_of_ble_eq_true rfl)) ⟨Nat.zero_le _, Nat.zero_le _⟩ dX9_ages_16 ?_
    refine lv_iconst (v := 1) hx hb dX9_ages_19 (by decide) ?_
    refine lv_icmp_ne (tgt := 59) hx hb dX9_ages_20 (by decide) (fun c6 => ?_) (fun c6 => ?_)
    · have hf := g_if c6 hf
      refine lv_iinc (v := (v2.1 + (-1))) (lv' := [(1, .int (v2.1 + (-1))), (0, .ref (h b0))]) hx hb dX9_ages_59 hl (k := 1) rfl rfl (by decide) rfl (fun ls hl => ?_)
      refine lv_goto (tgt := 9) hx hb dX9_ages_62 (by decide) ?_
      exact hbackv2 _ (Option.some.inj hf).symm _ _ hG ls (lv_sub hl [1, 0] rfl)
    · have hf := g_it c6 hf
      refine lv_aload_n hx hb dX9_ages_23 rfl (lv_at hl 0 rfl) ?_
      refine lv_iload_n hx hb dX9_ages_24 rfl (lv_at hl 1 rfl) ?_
      obtain ⟨x7, hx7, hf⟩ := g_bnd hf
      refine g_rv (As := [.int v2.1]) (rest := []) F hK (hG.X hX hAB) hG.1 [0] rfl (c_X9_isShown h b0 v2.2 v2.1 hx7) (kX9_114 F.2.2.2.2 ⟨Nat.le_of_ble_eq_true rfl, Nat.le_of_ble_eq_true rfl⟩) rfl rfl rfl rfl hl.1 rfl (lv_room (Nat.le_of_ble_eq_true rfl)) ⟨Nat.zero_le _, Nat.zero_le _⟩ dX9_ages_25 ?_
      refine lv_if_ne (tgt := 59) hx hb dX9_ages_28 (by decide) (fun c8 => ?_) (fun c8 => ?_)
      · have hf := g_if c8 hf
        refine lv_iinc (v := (v2.1 + (-1))) (lv' := [(1, .int (v2.1 + (-1))), (0, .ref (h b0))]) hx hb dX9_ages_59 hl (k := 1) rfl rfl (by decide) rfl (fun ls hl => ?_)
        refine lv_goto (tgt := 9) hx hb dX9_ages_62 (by decide) ?_
        exact hbackv2 _ (Option.some.inj hf).symm _ _ hG ls (lv_sub hl [1, 0] rfl)
      · have hf := g_it c8 hf
        refine lv_aload_n hx hb dX9_ages_31 rfl (lv_at hl 0 rfl) ?_
        refine g_get F hK hG.1 0 0 0 flX9_7 rfl rfl rfl dX9_ages_32 ?_
        refine lv_iload_n hx hb dX9_ages_35 rfl (lv_at hl 1 rfl) ?_
        refine lv_iconst (v := 1) hx hb dX9_ages_36 (by decide) ?_
        obtain ⟨x9, hx9, hf⟩ := g_bnd hf
        refine g_rs (As := [.int v2.1, .int 1]) (rest := [.ref (h (b0+1))]) F hK (hG.X hX hAB) hG.1 [] rfl (c_X9_at h v2.1 1 hx9) (kX9_42 F.2.2.2.2 ⟨Nat.le_of_ble_eq_true rfl, Nat.le_of_ble_eq_true rfl⟩) rfl hl.1 rfl (lv_room (Nat.le_of_ble_eq_true rfl)) ⟨Nat.zero_le _, Nat.zero_le _⟩ dX9_ages_37 ?_
        refine lv_dup2_11 hx hb dX9_ages_40 rfl rfl ?_
        obtain ⟨x10, hx10, hf⟩ := g_bnd hf
        refine g_iald F hK hG.1 0 1 rfl rfl hx10 dX9_ages_41 ?_
        refine lv_iconst (v := 1) hx hb dX9_ages_42 (by decide) ?_
        refine lv_isub hx hb dX9_ages_43 ?_
        obtain ⟨x11, hx11, hf⟩ := g_bnd hf
        refine g_iast F hK hG 0 1 rfl rfl hx11 dX9_ages_44 (fun H locs hG => ?_)
        have hG : gS E A s.heap [C9 E h b0 (x11, v2.2.2.1, v2.2.2.2.1, v2.2.2.2.2.1, v2.2.2.2.2.2.1, v2.2.2.2.2.2.2.1, v2.2.2.2.2.2.2.2.1, v2.2.2.2.2.2.2.2.2.1, v2.2.2.2.2.2.2.2.2.2.1, v2.2.2.2.2.2.2.2.2.2.2)] H locs := hG
        refine lv_aload_n hx hb dX9_ages_45 rfl (lv_at hl 0 rfl) ?_
        refine lv_iload_n hx hb dX9_ages_46 rfl (lv_at hl 1 rfl) ?_
        refine lv_iconst (v := 1) hx hb dX9_ages_47 (by decide) ?_
        obtain ⟨x12, hx12, hf⟩ := g_bnd hf
        refine g_rv (As := [.int v2.1, .int 1]) (rest := []) F hK (hG.X hX hAB) hG.1 [0] rfl (c_X9_of h b0 (x11, v2.2.2.1, v2.2.2.2.1, v2.2.2.2.2.1, v2.2.2.2.2.2.1, v2.2.2.2.2.2.2.1, v2.2.2.2.2.2.2.2.1, v2.2.2.2.2.2.2.2.2.1, v2.2.2.2.2.2.2.2.2.2.1, v2.2.2.2.2.2.2.2.2.2.2) v2.1 1 hx12) (kX9_50 F.2.2.2.2 ⟨Nat.le_of_ble_eq_true rfl, Nat.le_of_ble_eq_true rfl⟩) rfl rfl rfl rfl hl.1 rfl (lv_room (Nat.le_of_ble_eq_true rfl)) ⟨Nat.zero_le _, Nat.zero_le _⟩ dX9_ages_48 ?_
        refine lv_if_ne (tgt := 59) hx hb dX9_ages_51 (by decide) (fun c13 => ?_) (fun c13 => ?_)
        · have hf := g_if c13 hf
          refine lv_iinc (v := (v2.1 + (-1))) (lv' := [(1, .int (v2.1 + (-1))), (0, .ref (h b0))]) hx hb dX9_ages_59 hl (k := 1) rfl rfl (by decide) rfl (fun ls hl => ?_)
          refine lv_goto (tgt := 9) hx hb dX9_ages_62 (by decide) ?_
          exact hbackv2 _ (Option.some.inj hf).symm _ _ hG ls (lv_sub hl [1, 0] rfl)
        · have hf := g_it c13 hf
          refine lv_aload_n hx hb dX9_ages_54 rfl (lv_at hl 0 rfl) ?_
          refine lv_iload_n hx hb dX9_ages_55 rfl (lv_at hl 1 rfl) ?_
          obtain ⟨x14, hx14, hf⟩ := g_bnd hf
          refine g_mvv (S' := [C9 E h b0 x14]) (As := [.int v2.1]) (rest := []) F hK hX hAB hG [0] rfl rfl (c_X9_leaves h b0 (x11, v2.2.2.1, v2.2.2.2.1, v2.2.2.2.2.1, v2.2.2.2.2.2.1, v2.2.2.2.2.2.2.1, v2.2.2.2.2.2.2.2.1, v2.2.2.2.2.2.2.2.2.1, v2.2.2.2.2.2.2.2.2.2.1, v2.2.2.2.2.2.2.2.2.2.2) v2.1 hx14) rfl (kX9_120 F.2.2.2.2 ⟨Nat.le_of_ble_eq_true rfl, Nat.le_of_ble_eq_true rfl⟩) rfl rfl rfl rfl hl.1 rfl (lv_room (Nat.le_of_ble_eq_true rfl)) ⟨Nat.zero_le _, Nat.zero_le _⟩ dX9_ages_56 (fun H locs hG => ?_)
          refine lv_iinc (v := (v2.1 + (-1))) (lv' := [(1, .int (v2.1 + (-1))), (0, .ref (h b0))]) hx hb dX9_ages_59 hl (k := 1) rfl rfl (by decide) rfl (fun ls hl => ?_)
          refine lv_goto (tgt := 9) hx hb dX9_ages_62 (by decide) ?_
          exact hbackv2 _ (Option.some.inj hf).symm _ _ hG ls (lv_sub hl [1, 0] rfl)
set_option maxHeartbeats 4000000 in
set_option maxRecDepth 100000 in
theorem c_X9_uses {l : Launch} {E : gEnv} (h : Nat → Nat) (b0 : Nat) (w0 : T9) {o : T9} (hf : f_X9_uses w0 = some o) : gM l yX9_uses cX9_uses 3 none rX9_uses E [.ref (h b0)] [C9 E h b0 w0] (none) [C9 E h b0 o] := by
  refine gM.of (by decide +kernel) (Nat.le_of_ble_eq_true rfl) rfl ?_
  intro p e s m below meth c F hr hlk hK hX hAB ls hl H locs hG
  have F : gF p m c cX9_uses 3 s ([.ref (h b0)] : List Value).toArray RX9 := F
  generalize ([.ref (h b0)] : List Value).toArray = args at F ⊢
  generalize hQ : MQ below _ _ _ _ _ _ = Q
  generalize hA : gAd [C9 E h b0 w0] = A at hAB hG
  have hl : lv_has ls 3 [(0, .ref (h b0))] := hl
  have hx := F.1
  have hb := F.2.1
  unfold f_X9_uses at hf
  refine lv_aload_n hx hb dX9_uses_0 rfl (lv_at hl 0 rfl) ?_
  refine g_get F hK hG.1 0 0 0 flX9_7 rfl rfl rfl dX9_uses_1 ?_
  refine lv_iconst (v := 1) hx hb dX9_uses_4 (by decide) ?_
  refine lv_dup2_11 hx hb dX9_uses_5 rfl rfl ?_
  obtain ⟨x1, hx1, hf⟩ := g_bnd hf
  refine g_iald F hK hG.1 0 1 rfl rfl hx1 dX9_uses_6 ?_
  refine lv_iconst (v := 1) hx hb dX9_uses_7 (by decide) ?_
  refine lv_iadd hx hb dX9_uses_8 ?_
  obtain ⟨x2, hx2, hf⟩ := g_bnd hf
  refine g_iast F hK hG 0 1 rfl rfl hx2 dX9_uses_9 (fun H locs hG => ?_)
  have hG : gS E A s.heap [C9 E h b0 (x2, w0.2.1, w0.2.2.1, w0.2.2.2.1, w0.2.2.2.2.1, w0.2.2.2.2.2.1, w0.2.2.2.2.2.2.1, w0.2.2.2.2.2.2.2.1, w0.2.2.2.2.2.2.2.2.1, w0.2.2.2.2.2.2.2.2.2)] H locs := hG
  refine lv_aload_n hx hb dX9_uses_10 rfl (lv_at hl 0 rfl) ?_
  refine g_get F hK hG.1 0 0 0 flX9_7 rfl rfl rfl dX9_uses_11 ?_
  refine lv_iconst (v := 1) hx hb dX9_uses_14 (by decide) ?_
  obtain ⟨x3, hx3, hf⟩ := g_bnd hf
  refine g_iald F hK hG.1 0 1 rfl rfl hx3 dX9_uses_15 ?_
  refine lv_istore_n (lv' := [(1, .int x3), (0, .ref (h b0))]) hx hb dX9_uses_16 rfl hl (by decide) rfl (fun ls hl => ?_)
  refine lv_aload_n hx hb dX9_uses_17 rfl (lv_at hl 1 rfl) ?_
  obtain ⟨x4, hx4, hf⟩ := g_bnd hf
  refine g_rv (As := []) (rest := []) F hK (hG.X hX hAB) hG.1 [0] rfl (c_X9_shownWord h b0 (x2, w0.2.1, w0.2.2.1, w0.2.2.2.1, w0.2.2.2.2.1, w0.2.2.2.2.2.1, w0.2.2.2.2.2.2.1, w0.2.2.2.2.2.2.2.1, w0.2.2.2.2.2.2.2.2.1, w0.2.2.2.2.2.2.2.2.2) hx4) (kX9_123 F.2.2.2.2 ⟨Nat.le_of_ble_eq_true rfl, Nat.le_of_ble_eq_true rfl⟩) rfl rfl rfl rfl hl.1 rfl (lv_room (Nat.le_of_ble_eq_true rfl)) ⟨Nat.zero_le _, Nat.zero_le _⟩ dX9_uses_18 ?_
  refine lv_istore_n (lv' := [(2, .int x4), (1, .int x3), (0, .ref (h b0))]) hx hb dX9_uses_21 rfl hl (by decide) rfl (fun ls hl => ?_)
  refine lv_iload_n hx hb dX9_uses_22 rfl (lv_at hl 0 rfl) ?_
  refine lv_iconst (v := (-1)) hx hb dX9_uses_23 (by decide) ?_
  obtain ⟨j5, hf, hfj5⟩ := g_bnd hf
  have hJj5 : ∀ (H : Heap) (locs : List Loc), gS E A s.heap [C9 E h b0 j5] H locs → ∀ ls : Array Slot, lv_has ls 3 [(0, .ref (h b0)), (1, .int x3)] → W p l e rX9_uses s m args below meth c H locs 0 0 Q (F0 m 76 ls []) := by
    intro H locs hG ls hl
    have hf := hfj5
    refine lv_iload_n hx hb dX9_uses_76 rfl (lv_at hl 1 rfl) ?_
    refine lv_aload_n hx hb dX9_uses_77 rfl (lv_at hl 0 rfl) ?_
    refine g_get F hK hG.1 0 0 0 flX9_7 rfl rfl rfl dX9_uses_78 ?_
    refine lv_iconst (v := 2) hx hb dX9_uses_81 (by decide) ?_
    obtain ⟨x16, hx16, hf⟩ := g_bnd hf
    refine g_iald F hK hG.1 0 1 rfl rfl hx16 dX9_uses_82 ?_
    obtain ⟨u17, hu17, hf⟩ := g_bnd hf
    refine lv_irem hx hb dX9_uses_83 (nz_ne hu17) ?_
    refine lv_if_ne (tgt := 91) hx hb dX9_uses_84 (by decide) (fun c18 => ?_) (fun c18 => ?_)
    · have hf := g_if c18 hf
      have ho := Option.some.inj hf
      subst hA
      rw [← hQ, ← ho]
      exact g_mretV F hr hlk hG dX9_uses_91
    · have hf := g_it c18 hf
      refine lv_aload_n hx hb dX9_uses_87 rfl (lv_at hl 0 rfl) ?_
      obtain ⟨x19, hx19, hf⟩ := g_bnd hf
      refine g_mvv (S' := [C9 E h b0 x19]) (As := []) (rest := []) F hK hX hAB hG [0] rfl rfl (c_X9_ages h b0 j5 hx19) rfl (kX9_129 F.2.2.2.2 ⟨Nat.le_of_ble_eq_true rfl, Nat.le_of_ble_eq_true rfl⟩) rfl rfl rfl rfl hl.1 rfl (lv_room (Nat.le_of_ble_eq_true rfl)) ⟨Nat.zero_le _, Nat.zero_le _⟩ dX9_uses_88 (fun H locs hG => ?_)
      have ho := Option.some.inj hf
      subst hA
      rw [← hQ, ← ho]
      exact g_mretV F hr hlk hG dX9_uses_91
  refine lv_icmp_ne (tgt := 35) hx hb dX9_uses_24 (by decide) (fun c6 => ?_) (fun c6 => ?_)
  · have hf := g_if c6 hf
    refine lv_aload_n hx hb dX9_uses_35 rfl (lv_at hl 2 rfl) ?_
    refine g_get F hK hG.1 0 0 0 flX9_7 rfl rfl rfl dX9_uses_36 ?_
    refine lv_iload_n hx hb dX9_uses_39 rfl (lv_at hl 0 rfl) ?_
    refine lv_iconst (v := 1) hx hb dX9_uses_40 (by decide) ?_
    obtain ⟨x7, hx7, hf⟩ := g_bnd hf
    refine g_rs (As := [.int x4, .int 1]) (rest := [.ref (h (b0+1))]) F hK (hG.X hX hAB) hG.1 [] rfl (c_X9_at h x4 1 hx7) (kX9_42 F.2.2.2.2 ⟨Nat.le_of_ble_eq_true rfl, Nat.le_of_ble_eq_true rfl⟩) rfl hl.1 rfl (lv_room (Nat.le_of_ble_eq_true rfl)) ⟨Nat.zero_le _, Nat.zero_le _⟩ dX9_uses_41 ?_
    refine lv_dup2_11 hx hb dX9_uses_44 rfl rfl ?_
    obtain ⟨x8, hx8, hf⟩ := g_bnd hf
    refine g_iald F hK hG.1 0 1 rfl rfl hx8 dX9_uses_45 ?_
    refine lv_aload_n hx hb dX9_uses_46 rfl (lv_at hl 2 rfl) ?_
    refine lv_iload_n hx hb dX9_uses_47 rfl (lv_at hl 0 rfl) ?_
    refine lv_iconst (v := 1) hx hb dX9_uses_48 (by decide) ?_
    obtain ⟨x9, hx9, hf⟩ := g_bnd hf
    refine g_rv (As := [.int x4, .int 1]) (rest := [.int x8, .int x7, .ref (h (b0+1))]) F hK (hG.X hX hAB) hG.1 [0] rfl (c_X9_of h b0 (x2, w0.2.1, w0.2.2.1, w0.2.2.2.1, w0.2.2.2.2.1, w0.2.2.2.2.2.1, w0.2.2.2.2.2.2.1, w0.2.2.2.2.2.2.2.1, w0.2.2.2.2.2.2.2.2.1, w0.2.2.2.2.2.2.2.2.2) x4 1 hx9) (kX9_50 F.2.2.2.2 ⟨Nat.le_of_ble_eq_true rfl, Nat.le_of_ble_eq_true rfl⟩) rfl rfl rfl rfl hl.1 rfl (lv_room (Nat.le_of_ble_eq_true rfl)) ⟨Nat.zero_le _, Nat.zero_le _⟩ dX9_uses_49 ?_
    refine lv_sipush (v := 999) hx hb dX9_uses_52 (by decide) ?_
    obtain ⟨j10, hf, hfj10⟩ := g_bnd hf
    have hJj10 : ∀ (H : Heap) (locs : List Loc), gS E A s.heap [C9 E h b0 (x2, w0.2.1, w0.2.2.1, w0.2.2.2.1, w0.2.2.2.2.1, w0.2.2.2.2.2.1, w0.2.2.2.2.2.2.1, w0.2.2.2.2.2.2.2.1, w0.2.2.2.2.2.2.2.2.1, w0.2.2.2.2.2.2.2.2.2)] H locs → ∀ ls : Array Slot, lv_has ls 3 [(0, .ref (h b0)), (1, .int x3), (2, .int x4)] → W p l e rX9_uses s m args below meth c H locs 0 0 Q (F0 m 63 ls [.int j10, .int x8, .int x7, .ref (h (b0+1))]) := by
      intro H locs hG ls hl
      have hf := hfj10
      refine lv_iadd hx hb dX9_uses_63 ?_
      obtain ⟨x12, hx12, hf⟩ := g_bnd hf
      refine g_iast F hK hG 0 1 rfl rfl hx12 dX9_uses_64 (fun H locs hG => ?_)
      have hG : gS E A s.heap [C9 E h b0 (x12, w0.2.1, w0.2.2.1, w0.2.2.2.1, w0.2.2.2.2.1, w0.2.2.2.2.2.1, w0.2.2.2.2.2.2.1, w0.2.2.2.2.2.2.2.1, w0.2.2.2.2.2.2.2.2.1, w0.2.2.2.2.2.2.2.2.2)] H locs := hG
      refine lv_aload_n hx hb dX9_uses_65 rfl (lv_at hl 0 rfl) ?_
      refine g_get F hK hG.1 0 0 0 flX9_7 rfl rfl rfl dX9_uses_66 ?_
      refine lv_iload_n hx hb dX9_uses_69 rfl (lv_at hl 2 rfl) ?_
      refine lv_iconst (v := 2) hx hb dX9_uses_70 (by decide) ?_
      obtain ⟨x13, hx13, hf⟩ := g_bnd hf
      refine g_rs (As := [.int x4, .int 2]) (rest := [.ref (h (b0+1))]) F hK (hG.X hX hAB) hG.1 [] rfl (c_X9_at h x4 2 hx13) (kX9_42 F.2.2.2.2 ⟨Nat.le_of_ble_eq_true rfl, Nat.le_of_ble_eq_true rfl⟩) rfl hl.1 rfl (lv_room (Nat.le_of_ble_eq_true rfl)) ⟨Nat.zero_le _, Nat.zero_le _⟩ dX9_uses_71 ?_
      refine lv_iload_n hx hb dX9_uses_74 rfl (lv_at hl 1 rfl) ?_
      obtain ⟨x14, hx14, hf⟩ := g_bnd hf
      refine g_iast F hK hG 0 1 rfl rfl hx14 dX9_uses_75 (fun H locs hG => ?_)
      have hG : gS E A s.heap [C9 E h b0 (x14, w0.2.1, w0.2.2.1, w0.2.2.2.1, w0.2.2.2.2.1, w0.2.2.2.2.2.1, w0.2.2.2.2.2.2.1, w0.2.2.2.2.2.2.2.1, w0.2.2.2.2.2.2.2.2.1, w0.2.2.2.2.2.2.2.2.2)] H locs := hG
      obtain rfl := Option.some.inj hf
      exact hJj5 _ _ hG ls (lv_sub hl [0, 1] rfl)
    refine lv_icmp_ge (tgt := 62) hx hb dX9_uses_55 (by decide) (fun c11 => ?_) (fun c11 => ?_)
    · have hf := g_it c11 hf
      refine lv_iconst (v := 0) hx hb dX9_uses_62 (by decide) ?_
      obtain rfl := Option.some.inj hf
      exact hJj10 _ _ hG ls (lv_sub hl [2, 1, 0] rfl)
    · have hf := g_if c11 hf
      refine lv_iconst (v := 1) hx hb dX9_uses_58 (by decide) ?_
      refine lv_goto (tgt := 63) hx hb dX9_uses_59 (by decide) ?_
      obtain rfl := Option.some.inj hf
      exact hJj10 _ _ hG ls (lv_sub hl [2, 1, 0] rfl)
  · have hf := g_it c6 hf
    refine lv_aload_n hx hb dX9_uses_27 rfl (lv_at hl 2 rfl) ?_
    refine lv_iload_n hx hb dX9_uses_28 rfl (lv_at hl 1 rfl) ?_
    obtain ⟨x15, hx15, hf⟩ := g_bnd hf
    refine g_mvv (S' := [C9 E h b0 x15]) (As := [.int x3]) (rest := []) F hK hX hAB hG [0] rfl rfl (c_X9_adds h b0 (x2, w0.2.1, w0.2.2.1, w0.2.2.2.1, w0.2.2.2.2.1, w0.2.2.2.2.2.1, w0.2.2.2.2.2.2.1, w0.2.2.2.2.2.2.2.1, w0.2.2.2.2.2.2.2.2.1, w0.2.2.2.2.2.2.2.2.2) x3 hx15) rfl (kX9_126 F.2.2.2.2 ⟨Nat.le_of_ble_eq_true rfl, Nat.le_of_ble_eq_true rfl⟩) rfl rfl rfl rfl hl.1 rfl (lv_room (Nat.le_of_ble_eq_true rfl)) ⟨Nat.zero_le _, Nat.zero_le _⟩ dX9_uses_29 (fun H locs hG => ?_)
    refine lv_goto (tgt := 76) hx hb dX9_uses_32 (by decide) ?_
    obtain rfl := Option.some.inj hf
    exact hJj5 _ _ hG ls (lv_sub hl [2, 1] rfl)
set_option maxHeartbeats 4000000 in
set_option maxRecDepth 100000 in
theorem c_X9_accept {l : Launch} {E : gEnv} (h : Nat → Nat) (b0 : Nat) (w0 : T9) {o : Int32 × T9} (hf : f_X9_accept w0 = some o) : gM l yX9_accept cX9_accept 4 (some .int) rX9_accept E [.ref (h b0)] [C9 E h b0 w0] (some (.int o.1)) [C9 E h b0 o.2] := by
  refine gM.of (by decide +kernel) (Nat.le_of_ble_eq_true rfl) rfl ?_
  intro p e s m below meth c F hr hlk hK hX hAB ls hl H locs hG
  have F : gF p m c cX9_accept 4 s ([.ref (h b0)] : List Value).toArray RX9 := F
  generalize ([.ref (h b0)] : List Value).toArray = args at F ⊢
  generalize hQ : MQ below _ _ _ _ _ _ = Q
  generalize hA : gAd [C9 E h b0 w0] = A at hAB hG
  have hl : lv_has ls 4 [(0, .ref (h b0))] := hl
  have hx := F.1
  have hb := F.2.1
  unfold f_X9_accept at hf
  refine lv_aload_n hx hb dX9_accept_0 rfl (lv_at hl 0 rfl) ?_
  refine lv_aload_n hx hb dX9_accept_1 rfl (lv_at hl 0 rfl) ?_
  refine g_get F hK hG.1 0 0 0 flX9_7 rfl rfl rfl dX9_accept_2 ?_
  refine lv_bipush (v := 6) hx hb dX9_accept_5 (by decide) ?_
  obtain ⟨x1, hx1, hf⟩ := g_bnd hf
  refine g_iald F hK hG.1 0 1 rfl rfl hx1 dX9_accept_7 ?_
  obtain ⟨j2, hf, hfj2⟩ := g_bnd hf
  have hJj2 : ∀ (H : Heap) (locs : List Loc), gS E A s.heap [C9 E h b0 w0] H locs → ∀ ls : Array Slot, lv_has ls 4 [(0, .ref (h b0))] → W p l e rX9_accept s m args below meth c H locs 0 0 Q (F0 m 39 ls [.int j2, .ref (h b0)]) := by
    intro H locs hG ls hl
    have hf := hfj2
    refine lv_iconst (v := 1) hx hb dX9_accept_39 (by decide) ?_
    obtain ⟨x8, hx8, hf⟩ := g_bnd hf
    refine g_mv (S' := [C9 E h b0 x8.2]) (As := [.int j2, .int 1]) (rest := []) F hK hX hAB hG [0] rfl rfl (c_X9_goes h b0 w0 j2 1 hx8) rfl (kX9_72 F.2.2.2.2 ⟨Nat.le_of_ble_eq_true rfl, Nat.le_of_ble_eq_true rfl⟩) rfl rfl rfl rfl hl.1 rfl (lv_room (Nat.le_of_ble_eq_true rfl)) ⟨Nat.zero_le _, Nat.zero_le _⟩ dX9_accept_40 (fun H locs hG => ?_)
    refine lv_if_ne (tgt := 48) hx hb dX9_accept_43 (by decide) (fun c9 => ?_) (fun c9 => ?_)
    · have hf := g_if c9 hf
      refine lv_aload_n hx hb dX9_accept_48 rfl (lv_at hl 0 rfl) ?_
      obtain ⟨x10, hx10, hf⟩ := g_bnd hf
      refine g_mvv (S' := [C9 E h b0 x10]) (As := []) (rest := []) F hK hX hAB hG [0] rfl rfl (c_X9_save h b0 x8.2 hx10) rfl (kX9_97 F.2.2.2.2 ⟨Nat.le_of_ble_eq_true rfl, Nat.le_of_ble_eq_true rfl⟩) rfl rfl rfl rfl hl.1 rfl (lv_room (Nat.le_of_ble_eq_true rfl)) ⟨Nat.zero_le _, Nat.zero_le _⟩ dX9_accept_49 (fun H locs hG => ?_)
      refine lv_aload_n hx hb dX9_accept_52 rfl (lv_at hl 0 rfl) ?_
      obtain ⟨x11, hx11, hf⟩ := g_bnd hf
      refine g_mvv (S' := [C9 E h b0 x11]) (As := []) (rest := []) F hK hX hAB hG [0] rfl rfl (c_X9_laysDisplay h b0 x10 hx11) rfl (kX9_107 F.2.2.2.2 ⟨Nat.le_of_ble_eq_true rfl, Nat.le_of_ble_eq_true rfl⟩) rfl rfl rfl rfl hl.1 rfl (lv_room (Nat.le_of_ble_eq_true rfl)) ⟨Nat.zero_le _, Nat.zero_le _⟩ dX9_accept_53 (fun H locs hG => ?_)
      refine lv_aload_n hx hb dX9_accept_56 rfl (lv_at hl 0 rfl) ?_
      obtain ⟨x12, hx12, hf⟩ := g_bnd hf
      refine g_mvv (S' := [C9 E h b0 x12]) (As := []) (rest := []) F hK hX hAB hG [0] rfl rfl (c_X9_uses h b0 x11 hx12) rfl (kX9_132 F.2.2.2.2 ⟨Nat.le_of_ble_eq_true rfl, Nat.le_of_ble_eq_true rfl⟩) rfl rfl rfl rfl hl.1 rfl (lv_room (Nat.le_of_ble_eq_true rfl)) ⟨Nat.zero_le _, Nat.zero_le _⟩ dX9_accept_57 (fun H locs hG => ?_)
      refine lv_aload_n hx hb dX9_accept_60 rfl (lv_at hl 0 rfl) ?_
      refine g_get F hK hG.1 0 0 0 flX9_7 rfl rfl rfl dX9_accept_61 ?_
      refine lv_bipush (v := 9) hx hb dX9_accept_64 (by decide) ?_
      obtain ⟨x13, hx13, hf⟩ := g_bnd hf
      refine g_iald F hK hG.1 0 1 rfl rfl hx13 dX9_accept_66 ?_
      refine lv_iconst (v := (-1)) hx hb dX9_accept_67 (by decide) ?_
      obtain ⟨j14, hf, hfj14⟩ := g_bnd hf
      have hJj14 : ∀ (H : Heap) (locs : List Loc), gS E A s.heap [C9 E h b0 x12] H locs → ∀ ls : Array Slot, lv_has ls 4 [(0, .ref (h b0))] → W p l e rX9_accept s m args below meth c H locs 0 0 Q (F0 m 88 ls [.int j14]) := by
        intro H locs hG ls hl
        have hf := hfj14
        refine lv_istore_n (lv' := [(1, .int j14), (0, .ref (h b0))]) hx hb dX9_accept_88 rfl hl (by decide) rfl (fun ls hl => ?_)
        refine lv_aload_n hx hb dX9_accept_89 rfl (lv_at hl 1 rfl) ?_
        refine g_get F hK hG.1 0 0 0 flX9_7 rfl rfl rfl dX9_accept_90 ?_
        refine lv_bipush (v := 8) hx hb dX9_accept_93 (by decide) ?_
        refine lv_dup2_11 hx hb dX9_accept_95 rfl rfl ?_
        obtain ⟨x18, hx18, hf⟩ := g_bnd hf
        refine g_iald F hK hG.1 0 1 rfl rfl hx18 dX9_accept_96 ?_
        refine lv_aload_n hx hb dX9_accept_97 rfl (lv_at hl 1 rfl) ?_
        refine g_get F hK hG.1 0 0 0 flX9_7 rfl rfl rfl dX9_accept_98 ?_
        refine lv_bipush (v := 9) hx hb dX9_accept_101 (by decide) ?_
        obtain ⟨x19, hx19, hf⟩ := g_bnd hf
        refine g_iald F hK hG.1 0 1 rfl rfl hx19 dX9_accept_103 ?_
        refine lv_iconst (v := (-1)) hx hb dX9_accept_104 (by decide) ?_
        obtain ⟨j20, hf, hfj20⟩ := g_bnd hf
        have hJj20 : ∀ (H : Heap) (locs : List Loc), gS E A s.heap [C9 E h b0 x12] H locs → ∀ ls : Array Slot, lv_has ls 4 [(0, .ref (h b0)), (1, .int j14)] → W p l e rX9_accept s m args below meth c H locs 0 0 Q (F0 m 113 ls [.int j20, .int x18, .int 8, .ref (h (b0+1))]) := by
          intro H locs hG ls hl
          have hf := hfj20
          refine lv_iadd hx hb dX9_accept_113 ?_
          obtain ⟨x22, hx22, hf⟩ := g_bnd hf
          refine g_iast F hK hG 0 1 rfl rfl hx22 dX9_accept_114 (fun H locs hG => ?_)
          have hG : gS E A s.heap [C9 E h b0 (x22, x12.2.1, x12.2.2.1, x12.2.2.2.1, x12.2.2.2.2.1, x12.2.2.2.2.2.1, x12.2.2.2.2.2.2.1, x12.2.2.2.2.2.2.2.1, x12.2.2.2.2.2.2.2.2.1, x12.2.2.2.2.2.2.2.2.2)] H locs := hG
          refine lv_sipush (v := 720) hx hb dX9_accept_115 (by decide) ?_
          refine lv_bipush (v := 11) hx hb dX9_accept_118 (by decide) ?_
          refine lv_iload_n hx hb dX9_accept_120 rfl (lv_at hl 1 rfl) ?_
          refine lv_imul hx hb dX9_accept_121 ?_
          refine lv_iadd hx hb dX9_accept_122 ?_
          refine lv_istore_n (lv' := [(2, .int (720 + (11 * j14))), (0, .ref (h b0)), (1, .int j14)]) hx hb dX9_accept_123 rfl hl (by decide) rfl (fun ls hl => ?_)
          refine lv_aload_n hx hb dX9_accept_124 rfl (lv_at hl 1 rfl) ?_
          refine g_get F hK hG.1 0 0 0 flX9_7 rfl rfl rfl dX9_accept_125 ?_
          refine lv_iload_n hx hb dX9_accept_128 rfl (lv_at hl 0 rfl) ?_
          refine lv_aload_n hx hb dX9_accept_129 rfl (lv_at hl 1 rfl) ?_
          refine g_get F hK hG.1 0 0 6 flX9_92 rfl rfl rfl dX9_accept_130 ?_
          obtain ⟨x23, hx23, hf⟩ := g_bnd hf
          refine g_iast F hK hG 0 1 rfl rfl hx23 dX9_accept_133 (fun H locs hG => ?_)
          have hG : gS E A s.heap [C9 E h b0 (x23, x12.2.1, x12.2.2.1, x12.2.2.2.1, x12.2.2.2.2.1, x12.2.2.2.2.2.1, x12.2.2.2.2.2.2.1, x12.2.2.2.2.2.2.2.1, x12.2.2.2.2.2.2.2.2.1, x12.2.2.2.2.2.2.2.2.2)] H locs := hG
          refine lv_iconst (v := 0) hx hb dX9_accept_134 (by decide) ?_
          refine lv_istore_n (lv' := [(3, .int 0), (2, .int (720 + (11 * j14))), (0, .ref (h b0)), (1, .int j14)]) hx hb dX9_accept_135 rfl hl (by decide) rfl (fun ls hl => ?_)
          obtain ⟨x25, hx25, hfx25⟩ := g_bnd hf
          have hEx25 : ∀ (H : Heap) (locs : List Loc), gS E A s.heap [C9 E h b0 x25] H locs → ∀ ls : Array Slot, lv_has ls 4 [(0, .ref (h b0))] → W p l e rX9_accept s m args below meth c H locs 0 0 Q (F0 m 166 ls []) := by
            intro H locs hG ls hl
            have hf := hfx25
            refine lv_aload_n hx hb dX9_accept_166 rfl (lv_at hl 0 rfl) ?_
            refine g_get F hK hG.1 0 0 0 flX9_7 rfl rfl rfl dX9_accept_167 ?_
            refine lv_bipush (v := 6) hx hb dX9_accept_170 (by decide) ?_
            refine lv_iconst (v := 0) hx hb dX9_accept_172 (by decide) ?_
            obtain ⟨x29, hx29, hf⟩ := g_bnd hf
            refine g_iast F hK hG 0 1 rfl rfl hx29 dX9_accept_173 (fun H locs hG => ?_)
            have hG : gS E A s.heap [C9 E h b0 (x29, x25.2.1, x25.2.2.1, x25.2.2.2.1, x25.2.2.2.2.1, x25.2.2.2.2.2.1, x25.2.2.2.2.2.2.1, x25.2.2.2.2.2.2.2.1, x25.2.2.2.2.2.2.2.2.1, x25.2.2.2.2.2.2.2.2.2)] H locs := hG
            refine lv_aload_n hx hb dX9_accept_174 rfl (lv_at hl 0 rfl) ?_
            refine g_get F hK hG.1 0 0 0 flX9_7 rfl rfl rfl dX9_accept_175 ?_
            refine lv_iconst (v := 5) hx hb dX9_accept_178 (by decide) ?_
            refine lv_iconst (v := (-1)) hx hb dX9_accept_179 (by decide) ?_
            obtain ⟨x30, hx30, hf⟩ := g_bnd hf
            refine g_iast F hK hG 0 1 rfl rfl hx30 dX9_accept_180 (fun H locs hG => ?_)
            have hG : gS E A s.heap [C9 E h b0 (x30, x25.2.1, x25.2.2.1, x25.2.2.2.1, x25.2.2.2.2.1, x25.2.2.2.2.2.1, x25.2.2.2.2.2.2.1, x25.2.2.2.2.2.2.2.1, x25.2.2.2.2.2.2.2.2.1, x25.2.2.2.2.2.2.2.2.2)] H locs := hG
            refine lv_aload_n hx hb dX9_accept_181 rfl (lv_at hl 0 rfl) ?_
            refine g_get F hK hG.1 0 0 0 flX9_7 rfl rfl rfl dX9_accept_182 ?_
            refine lv_bipush (v := 9) hx hb dX9_accept_185 (by decide) ?_
            refine lv_iconst (v := (-1)) hx hb dX9_accept_187 (by decide) ?_
            obtain ⟨x31, hx31, hf⟩ := g_bnd hf
            refine g_iast F hK hG 0 1 rfl rfl hx31 dX9_accept_188 (fun H locs hG => ?_)
            have hG : gS E A s.heap [C9 E h b0 (x31, x25.2.1, x25.2.2.1, x25.2.2.2.1, x25.2.2.2.2.1, x25.2.2.2.2.2.1, x25.2.2.2.2.2.2.1, x25.2.2.2.2.2.2.2.1, x25.2.2.2.2.2.2.2.2.1, x25.2.2.2.2.2.2.2.2.2)] H locs := hG
            refine lv_aload_n hx hb dX9_accept_189 rfl (lv_at hl 0 rfl) ?_
            refine g_get F hK hG.1 0 0 0 flX9_7 rfl rfl rfl dX9_accept_190 ?_
            refine lv_bipush (v := 7) hx hb dX9_accept_193 (by decide) ?_
            refine lv_iconst (v := 0) hx hb dX9_accept_195 (by decide) ?_
            obtain ⟨x32, hx32, hf⟩ := g_bnd hf
            refine g_iast F hK hG 0 1 rfl rfl hx32 dX9_accept_196 (fun H locs hG => ?_)
            have hG : gS E A s.heap [C9 E h b0 (x32, x25.2.1, x25.2.2.1, x25.2.2.2.1, x25.2.2.2.2.1, x25.2.2.2.2.2.1, x25.2.2.2.2.2.2.1, x25.2.2.2.2.2.2.2.1, x25.2.2.2.2.2.2.2.2.1, x25.2.2.2.2.2.2.2.2.2)] H locs := hG
            refine lv_aload_n hx hb dX9_accept_197 rfl (lv_at hl 0 rfl) ?_
            refine g_get F hK hG.1 0 0 0 flX9_7 rfl rfl rfl dX9_accept_198 ?_
            refine lv_bipush (v := 8) hx hb dX9_accept_201 (by decide) ?_
            obtain ⟨x33, hx33, hf⟩ := g_bnd hf
            refine g_iald F hK hG.1 0 1 rfl rfl hx33 dX9_accept_203 ?_
            have ho := Option.some.inj hf
            subst hA
            rw [← hQ, ← ho]
            exact g_mretI F hr hlk hG dX9_accept_204
          refine lp_rule (fun (v24 : Int32 × T9) => ∀ (H : Heap) (locs : List Loc), gS E A s.heap [C9 E h b0 v24.2] H locs → ∀ ls : Array Slot, lv_has ls 4 [(0, .ref (h b0)), (2, .int (720 + (11 * j14))), (3, .int v24.1)] → W p l e rX9_accept s m args below meth c H locs 0 0 Q (F0 m 136 ls [])) ?_ _ _ hx25 _ _ hG ls (lv_sub hl [2, 1, 0] rfl)
          intro v24 y hf hbackv24 hexitv24 H locs hG ls hl
          refine lv_iload_n hx hb dX9_accept_136 rfl (lv_at hl 2 rfl) ?_
          refine lv_aload_n hx hb dX9_accept_137 rfl (lv_at hl 0 rfl) ?_
          refine g_get F hK hG.1 0 0 6 flX9_92 rfl rfl rfl dX9_accept_138 ?_
          refine lv_icmp_ge (tgt := 166) hx hb dX9_accept_141 (by decide) (fun c26 => ?_) (fun c26 => ?_)
          · have hf := g_it c26 hf
            obtain rfl := hexitv24 _ (Option.some.inj hf).symm
            exact hEx25 _ _ hG ls (lv_sub hl [0] rfl)
          · have hf := g_if c26 hf
            refine lv_aload_n hx hb dX9_accept_144 rfl (lv_at hl 0 rfl) ?_
            refine g_get F hK hG.1 0 0 0 flX9_7 rfl rfl rfl dX9_accept_145 ?_
            refine lv_iload_n hx hb dX9_accept_148 rfl (lv_at hl 1 rfl) ?_
            refine lv_iconst (v := 1) hx hb dX9_accept_149 (by decide) ?_
            refine lv_iadd hx hb dX9_accept_150 ?_
            refine lv_iload_n hx hb dX9_accept_151 rfl (lv_at hl 2 rfl) ?_
            refine lv_iadd hx hb dX9_accept_152 ?_
            refine lv_aload_n hx hb dX9_accept_153 rfl (lv_at hl 0 rfl) ?_
            refine g_get F hK hG.1 0 0 5 flX9_19 rfl rfl rfl dX9_accept_154 ?_
            refine lv_iload_n hx hb dX9_accept_157 rfl (lv_at hl 2 rfl) ?_
            obtain ⟨x27, hx27, hf⟩ := g_bnd hf
            refine g_iald F hK hG.1 0 4 rfl rfl hx27 dX9_accept_158 ?_
            obtain ⟨x28, hx28, hf⟩ := g_bnd hf
            refine g_iast F hK hG 0 1 rfl rfl hx28 dX9_accept_159 (fun H locs hG => ?_)
            have hG : gS E A s.heap [C9 E h b0 (x28, v24.2.2.1, v24.2.2.2.1, v24.2.2.2.2.1, v24.2.2.2.2.2.1, v24.2.2.2.2.2.2.1, v24.2.2.2.2.2.2.2.1, v24.2.2.2.2.2.2.2.2.1, v24.2.2.2.2.2.2.2.2.2.1, v24.2.2.2.2.2.2.2.2.2.2)] H locs := hG
            refine lv_iinc (v := (v24.1 + 1)) (lv' := [(3, .int (v24.1 + 1)), (0, .ref (h b0)), (2, .int (720 + (11 * j14)))]) hx hb dX9_accept_160 hl (k := 2) rfl rfl (by decide) rfl (fun ls hl => ?_)
            refine lv_goto (tgt := 136) hx hb dX9_accept_163 (by decide) ?_
            exact hbackv24 _ (Option.some.inj hf).symm _ _ hG ls (lv_sub hl [1, 2, 0] rfl)
        refine lv_icmp_ne (tgt := 112) hx hb dX9_accept_105 (by decide) (fun c21 => ?_) (fun c21 => ?_)
        · have hf := g_if c21 hf
          refine lv_iconst (v := 0) hx hb dX9_accept_112 (by decide) ?_
          obtain rfl := Option.some.inj hf
          exact hJj20 _ _ hG ls (lv_sub hl [1, 0] rfl)
        · have hf := g_it c21 hf
          refine lv_iconst (v := 1) hx hb dX9_accept_108 (by decide) ?_
          refine lv_goto (tgt := 113) hx hb dX9_accept_109 (by decide) ?_
          obtain rfl := Option.some.inj hf
          exact hJj20 _ _ hG ls (lv_sub hl [1, 0] rfl)
      refine lv_icmp_eq (tgt := 81) hx hb dX9_accept_68 (by decide) (fun c15 => ?_) (fun c15 => ?_)
      · have hf := g_it c15 hf
        refine lv_aload_n hx hb dX9_accept_81 rfl (lv_at hl 0 rfl) ?_
        refine g_get F hK hG.1 0 0 0 flX9_7 rfl rfl rfl dX9_accept_82 ?_
        refine lv_bipush (v := 8) hx hb dX9_accept_85 (by decide) ?_
        obtain ⟨x16, hx16, hf⟩ := g_bnd hf
        refine g_iald F hK hG.1 0 1 rfl rfl hx16 dX9_accept_87 ?_
        obtain rfl := Option.some.inj hf
        exact hJj14 _ _ hG ls (lv_sub hl [0] rfl)
      · have hf := g_if c15 hf
        refine lv_aload_n hx hb dX9_accept_71 rfl (lv_at hl 0 rfl) ?_
        refine g_get F hK hG.1 0 0 0 flX9_7 rfl rfl rfl dX9_accept_72 ?_
        refine lv_bipush (v := 9) hx hb dX9_accept_75 (by decide) ?_
        obtain ⟨x17, hx17, hf⟩ := g_bnd hf
        refine g_iald F hK hG.1 0 1 rfl rfl hx17 dX9_accept_77 ?_
        refine lv_goto (tgt := 88) hx hb dX9_accept_78 (by decide) ?_
        obtain rfl := Option.some.inj hf
        exact hJj14 _ _ hG ls (lv_sub hl [0] rfl)
    · have hf := g_it c9 hf
      refine lv_iconst (v := 0) hx hb dX9_accept_46 (by decide) ?_
      have ho := Option.some.inj hf
      subst hA
      rw [← hQ, ← ho]
      exact g_mretI F hr hlk hG dX9_accept_47
  refine lv_if_le (tgt := 38) hx hb dX9_accept_8 (by decide) (fun c3 => ?_) (fun c3 => ?_)
  · have hf := g_it c3 hf
    refine lv_iconst (v := 0) hx hb dX9_accept_38 (by decide) ?_
    obtain rfl := Option.some.inj hf
    exact hJj2 _ _ hG ls (lv_sub hl [0] rfl)
  · have hf := g_if c3 hf
    refine lv_aload_n hx hb dX9_accept_11 rfl (lv_at hl 0 rfl) ?_
    refine g_get F hK hG.1 0 0 0 flX9_7 rfl rfl rfl dX9_accept_12 ?_
    refine lv_bipush (v := 9) hx hb dX9_accept_15 (by decide) ?_
    obtain ⟨x4, hx4, hf⟩ := g_bnd hf
    refine g_iald F hK hG.1 0 1 rfl rfl hx4 dX9_accept_17 ?_
    refine lv_iconst (v := (-1)) hx hb dX9_accept_18 (by decide) ?_
    refine lv_icmp_ne (tgt := 34) hx hb dX9_accept_19 (by decide) (fun c5 => ?_) (fun c5 => ?_)
    · have hf := g_if c5 hf
      refine lv_iconst (v := 1) hx hb dX9_accept_34 (by decide) ?_
      refine lv_goto (tgt := 39) hx hb dX9_accept_35 (by decide) ?_
      obtain rfl := Option.some.inj hf
      exact hJj2 _ _ hG ls (lv_sub hl [0] rfl)
    · have hf := g_it c5 hf
      refine lv_aload_n hx hb dX9_accept_22 rfl (lv_at hl 0 rfl) ?_
      refine g_get F hK hG.1 0 0 0 flX9_7 rfl rfl rfl dX9_accept_23 ?_
      refine lv_bipush (v := 8) hx hb dX9_accept_26 (by decide) ?_
      obtain ⟨x6, hx6, hf⟩ := g_bnd hf
      refine g_iald F hK hG.1 0 1 rfl rfl hx6 dX9_accept_28 ?_
      refine lv_bipush (v := 30) hx hb dX9_accept_29 (by decide) ?_
      refine lv_icmp_ge (tgt := 38) hx hb dX9_accept_31 (by decide) (fun c7 => ?_) (fun c7 => ?_)
      · have hf := g_it c7 hf
        refine lv_iconst (v := 0) hx hb dX9_accept_38 (by decide) ?_
        obtain rfl := Option.some.inj hf
        exact hJj2 _ _ hG ls (lv_sub hl [0] rfl)
      · have hf := g_if c7 hf
        refine lv_iconst (v := 1) hx hb dX9_accept_34 (by decide) ?_
        refine lv_goto (tgt := 39) hx hb dX9_accept_35 (by decide) ?_
        obtain rfl := Option.some.inj hf
        exact hJj2 _ _ hG ls (lv_sub hl [0] rfl)
set_option maxHeartbeats 4000000 in
set_option maxRecDepth 100000 in
theorem c_X9_open {l : Launch} {E : gEnv} (h : Nat → Nat) (b0 : Nat) (w0 : T9) (a1 : Int32) {o : Int32 × T9} (hf : f_X9_open w0 a1 = some o) : gM l yX9_open cX9_open 4 (some .int) rX9_open E [.ref (h b0), .int a1] [C9 E h b0 w0] (some (.int o.1)) [C9 E h b0 o.2] := by
  refine gM.of (by decide +kernel) (Nat.le_of_ble_eq_true rfl) rfl ?_
  intro p e s m below meth c F hr hlk hK hX hAB ls hl H locs hG
  have F : gF p m c cX9_open 4 s ([.ref (h b0), .int a1] : List Value).toArray RX9 := F
  generalize ([.ref (h b0), .int a1] : List Value).toArray = args at F ⊢
  generalize hQ : MQ below _ _ _ _ _ _ = Q
  generalize hA : gAd [C9 E h b0 w0] = A at hAB hG
  have hl : lv_has ls 4 [(0, .ref (h b0)), (1, .int a1)] := hl
  have hx := F.1
  have hb := F.2.1
  unfold f_X9_open at hf
  refine lv_aload_n hx hb dX9_open_0 rfl (lv_at hl 0 rfl) ?_
  refine lv_iload_n hx hb dX9_open_1 rfl (lv_at hl 1 rfl) ?_
  refine lv_i2l hx hb dX9_open_2 rfl ?_
  refine lv_lconst (v := 0) hx hb dX9_open_3 rfl ?_
  refine lv_aload_n hx hb dX9_open_4 rfl (lv_at hl 0 rfl) ?_
  refine g_get F hK hG.1 0 0 0 flX9_7 rfl rfl rfl dX9_open_5 ?_
  refine lv_bipush (v := 8) hx hb dX9_open_8 (by decide) ?_
  obtain ⟨x1, hx1, hf⟩ := g_bnd hf
  refine g_iald F hK hG.1 0 1 rfl rfl hx1 dX9_open_10 ?_
  refine lv_i2l hx hb dX9_open_11 rfl ?_
  refine lv_lconst (v := 1) hx hb dX9_open_12 rfl ?_
  refine lv_lsub hx hb dX9_open_13 ?_
  obtain ⟨x2, hx2, hf⟩ := g_bnd hf
  refine g_rs (As := [.long a1.toInt64, .long 0, .long (x1.toInt64 - 1)]) (rest := [.ref (h b0)]) F hK (hG.X hX hAB) hG.1 [] rfl (c_X9_in h a1.toInt64 0 (x1.toInt64 - 1) hx2) (kX9_46 F.2.2.2.2 ⟨Nat.le_of_ble_eq_true rfl, Nat.le_of_ble_eq_true rfl⟩) rfl hl.1 rfl (lv_room (Nat.le_of_ble_eq_true rfl)) ⟨Nat.zero_le _, Nat.zero_le _⟩ dX9_open_14 ?_
  refine lv_aload_n hx hb dX9_open_17 rfl (lv_at hl 0 rfl) ?_
  refine g_get F hK hG.1 0 0 0 flX9_7 rfl rfl rfl dX9_open_18 ?_
  refine lv_bipush (v := 6) hx hb dX9_open_21 (by decide) ?_
  obtain ⟨x3, hx3, hf⟩ := g_bnd hf
  refine g_iald F hK hG.1 0 1 rfl rfl hx3 dX9_open_23 ?_
  obtain ⟨j4, hf, hfj4⟩ := g_bnd hf
  have hJj4 : ∀ (H : Heap) (locs : List Loc), gS E A s.heap [C9 E h b0 w0] H locs → ∀ ls : Array Slot, lv_has ls 4 [(0, .ref (h b0)), (1, .int a1)] → W p l e rX9_open s m args below meth c H locs 0 0 Q (F0 m 43 ls [.int j4, .int x2, .ref (h b0)]) := by
    intro H locs hG ls hl
    have hf := hfj4
    obtain ⟨x8, hx8, hf⟩ := g_bnd hf
    refine g_mv (S' := [C9 E h b0 x8.2]) (As := [.int x2, .int j4]) (rest := []) F hK hX hAB hG [0] rfl rfl (c_X9_goes h b0 w0 x2 j4 hx8) rfl (kX9_72 F.2.2.2.2 ⟨Nat.le_of_ble_eq_true rfl, Nat.le_of_ble_eq_true rfl⟩) rfl rfl rfl rfl hl.1 rfl (lv_room (Nat.le_of_ble_eq_true rfl)) ⟨Nat.zero_le _, Nat.zero_le _⟩ dX9_open_43 (fun H locs hG => ?_)
    refine lv_if_ne (tgt := 51) hx hb dX9_open_46 (by decide) (fun c9 => ?_) (fun c9 => ?_)
    · have hf := g_if c9 hf
      refine lv_aload_n hx hb dX9_open_51 rfl (lv_at hl 0 rfl) ?_
      obtain ⟨x10, hx10, hf⟩ := g_bnd hf
      refine g_mvv (S' := [C9 E h b0 x10]) (As := []) (rest := []) F hK hX hAB hG [0] rfl rfl (c_X9_save h b0 x8.2 hx10) rfl (kX9_97 F.2.2.2.2 ⟨Nat.le_of_ble_eq_true rfl, Nat.le_of_ble_eq_true rfl⟩) rfl rfl rfl rfl hl.1 rfl (lv_room (Nat.le_of_ble_eq_true rfl)) ⟨Nat.zero_le _, Nat.zero_le _⟩ dX9_open_52 (fun H locs hG => ?_)
      refine lv_sipush (v := 720) hx hb dX9_open_55 (by decide) ?_
      refine lv_bipush (v := 11) hx hb dX9_open_58 (by decide) ?_
      refine lv_iload_n hx hb dX9_open_60 rfl (lv_at hl 1 rfl) ?_
      refine lv_imul hx hb dX9_open_61 ?_
      refine lv_iadd hx hb dX9_open_62 ?_
      refine lv_istore_n (lv' := [(2, .int (720 + (11 * a1))), (0, .ref (h b0)), (1, .int a1)]) hx hb dX9_open_63 rfl hl (by decide) rfl (fun ls hl => ?_)
      refine lv_aload_n hx hb dX9_open_64 rfl (lv_at hl 1 rfl) ?_
      refine g_get F hK hG.1 0 0 0 flX9_7 rfl rfl rfl dX9_open_65 ?_
      refine lv_bipush (v := 6) hx hb dX9_open_68 (by decide) ?_
      refine lv_aload_n hx hb dX9_open_70 rfl (lv_at hl 1 rfl) ?_
      refine g_get F hK hG.1 0 0 0 flX9_7 rfl rfl rfl dX9_open_71 ?_
      refine lv_iload_n hx hb dX9_open_74 rfl (lv_at hl 0 rfl) ?_
      obtain ⟨x11, hx11, hf⟩ := g_bnd hf
      refine g_iald F hK hG.1 0 1 rfl rfl hx11 dX9_open_75 ?_
      obtain ⟨x12, hx12, hf⟩ := g_bnd hf
      refine g_iast F hK hG 0 1 rfl rfl hx12 dX9_open_76 (fun H locs hG => ?_)
      have hG : gS E A s.heap [C9 E h b0 (x12, x10.2.1, x10.2.2.1, x10.2.2.2.1, x10.2.2.2.2.1, x10.2.2.2.2.2.1, x10.2.2.2.2.2.2.1, x10.2.2.2.2.2.2.2.1, x10.2.2.2.2.2.2.2.2.1, x10.2.2.2.2.2.2.2.2.2)] H locs := hG
      refine lv_iconst (v := 0) hx hb dX9_open_77 (by decide) ?_
      refine lv_istore_n (lv' := [(3, .int 0), (2, .int (720 + (11 * a1))), (0, .ref (h b0)), (1, .int a1)]) hx hb dX9_open_78 rfl hl (by decide) rfl (fun ls hl => ?_)
      obtain ⟨x14, hx14, hfx14⟩ := g_bnd hf
      have hEx14 : ∀ (H : Heap) (locs : List Loc), gS E A s.heap [C9 E h b0 x14] H locs → ∀ ls : Array Slot, lv_has ls 4 [(0, .ref (h b0)), (1, .int a1)] → W p l e rX9_open s m args below meth c H locs 0 0 Q (F0 m 118 ls []) := by
        intro H locs hG ls hl
        have hf := hfx14
        refine lv_aload_n hx hb dX9_open_118 rfl (lv_at hl 0 rfl) ?_
        refine g_get F hK hG.1 0 0 0 flX9_7 rfl rfl rfl dX9_open_119 ?_
        refine lv_bipush (v := 9) hx hb dX9_open_122 (by decide) ?_
        refine lv_iload_n hx hb dX9_open_124 rfl (lv_at hl 1 rfl) ?_
        obtain ⟨x19, hx19, hf⟩ := g_bnd hf
        refine g_iast F hK hG 0 1 rfl rfl hx19 dX9_open_125 (fun H locs hG => ?_)
        have hG : gS E A s.heap [C9 E h b0 (x19, x14.2.1, x14.2.2.1, x14.2.2.2.1, x14.2.2.2.2.1, x14.2.2.2.2.2.1, x14.2.2.2.2.2.2.1, x14.2.2.2.2.2.2.2.1, x14.2.2.2.2.2.2.2.2.1, x14.2.2.2.2.2.2.2.2.2)] H locs := hG
        refine lv_aload_n hx hb dX9_open_126 rfl (lv_at hl 0 rfl) ?_
        refine g_get F hK hG.1 0 0 0 flX9_7 rfl rfl rfl dX9_open_127 ?_
        refine lv_bipush (v := 7) hx hb dX9_open_130 (by decide) ?_
        refine lv_iconst (v := 0) hx hb dX9_open_132 (by decide) ?_
        obtain ⟨x20, hx20, hf⟩ := g_bnd hf
        refine g_iast F hK hG 0 1 rfl rfl hx20 dX9_open_133 (fun H locs hG => ?_)
        have hG : gS E A s.heap [C9 E h b0 (x20, x14.2.1, x14.2.2.1, x14.2.2.2.1, x14.2.2.2.2.1, x14.2.2.2.2.2.1, x14.2.2.2.2.2.2.1, x14.2.2.2.2.2.2.2.1, x14.2.2.2.2.2.2.2.2.1, x14.2.2.2.2.2.2.2.2.2)] H locs := hG
        refine lv_aload_n hx hb dX9_open_134 rfl (lv_at hl 0 rfl) ?_
        refine g_get F hK hG.1 0 0 0 flX9_7 rfl rfl rfl dX9_open_135 ?_
        refine lv_bipush (v := 6) hx hb dX9_open_138 (by decide) ?_
        obtain ⟨x21, hx21, hf⟩ := g_bnd hf
        refine g_iald F hK hG.1 0 1 rfl rfl hx21 dX9_open_140 ?_
        have ho := Option.some.inj hf
        subst hA
        rw [← hQ, ← ho]
        exact g_mretI F hr hlk hG dX9_open_141
      refine lp_rule (fun (v13 : Int32 × T9) => ∀ (H : Heap) (locs : List Loc), gS E A s.heap [C9 E h b0 v13.2] H locs → ∀ ls : Array Slot, lv_has ls 4 [(0, .ref (h b0)), (1, .int a1), (2, .int (720 + (11 * a1))), (3, .int v13.1)] → W p l e rX9_open s m args below meth c H locs 0 0 Q (F0 m 79 ls [])) ?_ _ _ hx14 _ _ hG ls (lv_sub hl [2, 3, 1, 0] rfl)
      intro v13 y hf hbackv13 hexitv13 H locs hG ls hl
      refine lv_iload_n hx hb dX9_open_79 rfl (lv_at hl 3 rfl) ?_
      refine lv_aload_n hx hb dX9_open_80 rfl (lv_at hl 0 rfl) ?_
      refine g_get F hK hG.1 0 0 0 flX9_7 rfl rfl rfl dX9_open_81 ?_
      refine lv_bipush (v := 6) hx hb dX9_open_84 (by decide) ?_
      obtain ⟨x15, hx15, hf⟩ := g_bnd hf
      refine g_iald F hK hG.1 0 1 rfl rfl hx15 dX9_open_86 ?_
      refine lv_icmp_ge (tgt := 118) hx hb dX9_open_87 (by decide) (fun c16 => ?_) (fun c16 => ?_)
      · have hf := g_it c16 hf
        obtain rfl := hexitv13 _ (Option.some.inj hf).symm
        exact hEx14 _ _ hG ls (lv_sub hl [0, 1] rfl)
      · have hf := g_if c16 hf
        refine lv_aload_n hx hb dX9_open_90 rfl (lv_at hl 0 rfl) ?_
        refine g_get F hK hG.1 0 0 0 flX9_7 rfl rfl rfl dX9_open_91 ?_
        refine lv_bipush (v := 10) hx hb dX9_open_94 (by decide) ?_
        refine lv_iload_n hx hb dX9_open_96 rfl (lv_at hl 3 rfl) ?_
        refine lv_iadd hx hb dX9_open_97 ?_
        refine lv_bipush (v := 100) hx hb dX9_open_98 (by decide) ?_
        refine lv_aload_n hx hb dX9_open_100 rfl (lv_at hl 0 rfl) ?_
        refine g_get F hK hG.1 0 0 0 flX9_7 rfl rfl rfl dX9_open_101 ?_
        refine lv_iload_n hx hb dX9_open_104 rfl (lv_at hl 2 rfl) ?_
        refine lv_iconst (v := 1) hx hb dX9_open_105 (by decide) ?_
        refine lv_iadd hx hb dX9_open_106 ?_
        refine lv_iload_n hx hb dX9_open_107 rfl (lv_at hl 3 rfl) ?_
        refine lv_iadd hx hb dX9_open_108 ?_
        obtain ⟨x17, hx17, hf⟩ := g_bnd hf
        refine g_iald F hK hG.1 0 1 rfl rfl hx17 dX9_open_109 ?_
        refine lv_iadd hx hb dX9_open_110 ?_
        obtain ⟨x18, hx18, hf⟩ := g_bnd hf
        refine g_iast F hK hG 0 1 rfl rfl hx18 dX9_open_111 (fun H locs hG => ?_)
        have hG : gS E A s.heap [C9 E h b0 (x18, v13.2.2.1, v13.2.2.2.1, v13.2.2.2.2.1, v13.2.2.2.2.2.1, v13.2.2.2.2.2.2.1, v13.2.2.2.2.2.2.2.1, v13.2.2.2.2.2.2.2.2.1, v13.2.2.2.2.2.2.2.2.2.1, v13.2.2.2.2.2.2.2.2.2.2)] H locs := hG
        refine lv_iinc (v := (v13.1 + 1)) (lv' := [(3, .int (v13.1 + 1)), (0, .ref (h b0)), (1, .int a1), (2, .int (720 + (11 * a1)))]) hx hb dX9_open_112 hl (k := 3) rfl rfl (by decide) rfl (fun ls hl => ?_)
        refine lv_goto (tgt := 79) hx hb dX9_open_115 (by decide) ?_
        exact hbackv13 _ (Option.some.inj hf).symm _ _ hG ls (lv_sub hl [1, 2, 3, 0] rfl)
    · have hf := g_it c9 hf
      refine lv_iconst (v := 0) hx hb dX9_open_49 (by decide) ?_
      have ho := Option.some.inj hf
      subst hA
      rw [← hQ, ← ho]
      exact g_mretI F hr hlk hG dX9_open_50
  refine lv_if_ne (tgt := 42) hx hb dX9_open_24 (by decide) (fun c5 => ?_) (fun c5 => ?_)
  · have hf := g_if c5 hf
    refine lv_iconst (v := 0) hx hb dX9_open_42 (by decide) ?_
    obtain rfl := Option.some.inj hf
    exact hJj4 _ _ hG ls (lv_sub hl [0, 1] rfl)
  · have hf := g_it c5 hf
    refine lv_aload_n hx hb dX9_open_27 rfl (lv_at hl 0 rfl) ?_
    refine g_get F hK hG.1 0 0 0 flX9_7 rfl rfl rfl dX9_open_28 ?_
    refine lv_bipush (v := 9) hx hb dX9_open_31 (by decide) ?_
    obtain ⟨x6, hx6, hf⟩ := g_bnd hf
    refine g_iald F hK hG.1 0 1 rfl rfl hx6 dX9_open_33 ?_
    refine lv_iconst (v := (-1)) hx hb dX9_open_34 (by decide) ?_
    refine lv_icmp_ne (tgt := 42) hx hb dX9_open_35 (by decide) (fun c7 => ?_) (fun c7 => ?_)
    · have hf := g_if c7 hf
      refine lv_iconst (v := 0) hx hb dX9_open_42 (by decide) ?_
      obtain rfl := Option.some.inj hf
      exact hJj4 _ _ hG ls (lv_sub hl [0, 1] rfl)
    · have hf := g_it c7 hf
      refine lv_iconst (v := 1) hx hb dX9_open_38 (by decide) ?_
      refine lv_goto (tgt := 43) hx hb dX9_open_39 (by decide) ?_
      obtain rfl := Option.some.inj hf
      exact hJj4 _ _ hG ls (lv_sub hl [0, 1] rfl)
set_option maxHeartbeats 4000000 in
set_option maxRecDepth 100000 in
theorem c_X9_settingOf {l : Launch} {E : gEnv} (h : Nat → Nat) (b0 : Nat) (w0 : T9) (a1 : Int32) {o : Int32} (hf : f_X9_settingOf w0 a1 = some o) : gR l yX9_settingOf cX9_settingOf 2 (some .int) rX9_settingOf E [.ref (h b0), .int a1] [C9 E h b0 w0] (some (.int o)) := by
  refine gR.of (by decide +kernel) (Nat.le_of_ble_eq_true rfl) ?_
  intro p e s m below meth c F hr hlk hK hX hP ls hl
  have F : gF p m c cX9_settingOf 2 s ([.ref (h b0), .int a1] : List Value).toArray RX9 := F
  generalize ([.ref (h b0), .int a1] : List Value).toArray = args at F ⊢
  generalize hQ : MQ below _ _ _ _ _ _ = Q
  have hl : lv_has ls 2 [(0, .ref (h b0)), (1, .int a1)] := hl
  have hx := F.1
  have hb := F.2.1
  unfold f_X9_settingOf at hf
  refine lv_iload_n hx hb dX9_settingOf_0 rfl (lv_at hl 1 rfl) ?_
  by_cases c1 : a1 < 7 ∨ 10 < a1
  · have hf := g_it c1 hf
    refine g_tabOut (tgt := 72) c1 hx hb dX9_settingOf_1 (by decide) (by decide) (by decide) ?_
    refine lv_aload_n hx hb dX9_settingOf_72 rfl (lv_at hl 0 rfl) ?_
    refine g_get F hK hP 0 0 0 flX9_7 rfl rfl rfl dX9_settingOf_73 ?_
    refine lv_iload_n hx hb dX9_settingOf_76 rfl (lv_at hl 1 rfl) ?_
    obtain ⟨x2, hx2, hf⟩ := g_bnd hf
    refine g_iald F hK hP 0 1 rfl rfl hx2 dX9_settingOf_77 ?_
    have ho := Option.some.inj hf
    rw [← hQ, ← ho]
    exact g_retI F hr hlk dX9_settingOf_78
  · have hf := g_if c1 hf
    by_cases c4 : a1 = 7
    · have hf := g_it c4 hf
      refine g_tabIn (tgt := 32) c4 hx hb dX9_settingOf_1 (by decide) (by decide) rfl (by decide) ?_
      refine lv_aload_n hx hb dX9_settingOf_32 rfl (lv_at hl 0 rfl) ?_
      obtain ⟨x3, hx3, hf⟩ := g_bnd hf
      refine g_rv (As := []) (rest := []) F hK hX hP [0] rfl (c_X9_candidates h b0 w0 hx3) (kX9_85 F.2.2.2.2 ⟨Nat.le_of_ble_eq_true rfl, Nat.le_of_ble_eq_true rfl⟩) rfl rfl rfl rfl hl.1 rfl (lv_room (Nat.le_of_ble_eq_true rfl)) ⟨Nat.zero_le _, Nat.zero_le _⟩ dX9_settingOf_33 ?_
      have ho := Option.some.inj hf
      rw [← hQ, ← ho]
      exact g_retI F hr hlk dX9_settingOf_36
    have hf := g_if c4 hf
    by_cases c8 : a1 = 8
    · have hf := g_it c8 hf
      refine g_tabIn (tgt := 37) c8 hx hb dX9_settingOf_1 (by decide) (by decide) rfl (by decide) ?_
      refine lv_aload_n hx hb dX9_settingOf_37 rfl (lv_at hl 0 rfl) ?_
      obtain ⟨x5, hx5, hf⟩ := g_bnd hf
      refine g_rv (As := []) (rest := []) F hK hX hP [0] rfl (c_X9_candidates h b0 w0 hx5) (kX9_85 F.2.2.2.2 ⟨Nat.le_of_ble_eq_true rfl, Nat.le_of_ble_eq_true rfl⟩) rfl rfl rfl rfl hl.1 rfl (lv_room (Nat.le_of_ble_eq_true rfl)) ⟨Nat.zero_le _, Nat.zero_le _⟩ dX9_settingOf_38 ?_
      refine lv_if_le (tgt := 54) hx hb dX9_settingOf_41 (by decide) (fun c6 => ?_) (fun c6 => ?_)
      · have hf := g_it c6 hf
        refine lv_iconst (v := (-1)) hx hb dX9_settingOf_54 (by decide) ?_
        have ho := Option.some.inj hf
        rw [← hQ, ← ho]
        exact g_retI F hr hlk dX9_settingOf_55
      · have hf := g_if c6 hf
        refine lv_aload_n hx hb dX9_settingOf_44 rfl (lv_at hl 0 rfl) ?_
        refine g_get F hK hP 0 0 0 flX9_7 rfl rfl rfl dX9_settingOf_45 ?_
        refine lv_bipush (v := 7) hx hb dX9_settingOf_48 (by decide) ?_
        obtain ⟨x7, hx7, hf⟩ := g_bnd hf
        refine g_iald F hK hP 0 1 rfl rfl hx7 dX9_settingOf_50 ?_
        refine lv_goto (tgt := 55) hx hb dX9_settingOf_51 (by decide) ?_
        have ho := Option.some.inj hf
        rw [← hQ, ← ho]
        exact g_retI F hr hlk dX9_settingOf_55
    have hf := g_if c8 hf
    by_cases c10 : a1 = 9
    · have hf := g_it c10 hf
      refine g_tabIn (tgt := 56) c10 hx hb dX9_settingOf_1 (by decide) (by decide) rfl (by decide) ?_
      refine lv_aload_n hx hb dX9_settingOf_56 rfl (lv_at hl 0 rfl) ?_
      refine g_get F hK hP 0 0 0 flX9_7 rfl rfl rfl dX9_settingOf_57 ?_
      refine lv_bipush (v := 8) hx hb dX9_settingOf_60 (by decide) ?_
      obtain ⟨x9, hx9, hf⟩ := g_bnd hf
      refine g_iald F hK hP 0 1 rfl rfl hx9 dX9_settingOf_62 ?_
      have ho := Option.some.inj hf
      rw [← hQ, ← ho]
      exact g_retI F hr hlk dX9_settingOf_63
    have hf := g_if c10 hf
    by_cases c12 : a1 = 10
    · have hf := g_it c12 hf
      refine g_tabIn (tgt := 64) c12 hx hb dX9_settingOf_1 (by decide) (by decide) rfl (by decide) ?_
      refine lv_aload_n hx hb dX9_settingOf_64 rfl (lv_at hl 0 rfl) ?_
      refine g_get F hK hP 0 0 0 flX9_7 rfl rfl rfl dX9_settingOf_65 ?_
      refine lv_bipush (v := 9) hx hb dX9_settingOf_68 (by decide) ?_
      obtain ⟨x11, hx11, hf⟩ := g_bnd hf
      refine g_iald F hK hP 0 1 rfl rfl hx11 dX9_settingOf_70 ?_
      have ho := Option.some.inj hf
      rw [← hQ, ← ho]
      exact g_retI F hr hlk dX9_settingOf_71
    have hf := g_if c12 hf
    exact absurd hf (fun h => nomatch h)
set_option maxHeartbeats 4000000 in
set_option maxRecDepth 100000 in
theorem c_X9_setting {l : Launch} {E : gEnv} (h : Nat → Nat) (b0 : Nat) (w0 : T9) (a1 : Int32) {o : Int32 × T9} (hf : f_X9_setting w0 a1 = some o) : gM l yX9_setting cX9_setting 2 (some .int) rX9_setting E [.ref (h b0), .int a1] [C9 E h b0 w0] (some (.int o.1)) [C9 E h b0 o.2] := by
  refine gM.of (by decide +kernel) (Nat.le_of_ble_eq_true rfl) rfl ?_
  intro p e s m below meth c F hr hlk hK hX hAB ls hl H locs hG
  have F : gF p m c cX9_setting 2 s ([.ref (h b0), .int a1] : List Value).toArray RX9 := F
  generalize ([.ref (h b0), .int a1] : List Value).toArray = args at F ⊢
  generalize hQ : MQ below _ _ _ _ _ _ = Q
  generalize hA : gAd [C9 E h b0 w0] = A at hAB hG
  have hl : lv_has ls 2 [(0, .ref (h b0)), (1, .int a1)] := hl
  have hx := F.1
  have hb := F.2.1
  unfold f_X9_setting at hf
  refine lv_aload_n hx hb dX9_setting_0 rfl (lv_at hl 0 rfl) ?_
  refine lv_iload_n hx hb dX9_setting_1 rfl (lv_at hl 1 rfl) ?_
  refine lv_i2l hx hb dX9_setting_2 rfl ?_
  refine lv_lconst (v := 0) hx hb dX9_setting_3 rfl ?_
  refine lv_ldc2 (v := 10) hx hb F.2.2.2.1 (F.2.2.2.2 _ gw_1011) dX9_setting_4 ?_
  obtain ⟨x1, hx1, hf⟩ := g_bnd hf
  refine g_rs (As := [.long a1.toInt64, .long 0, .long 10]) (rest := [.ref (h b0)]) F hK (hG.X hX hAB) hG.1 [] rfl (c_X9_in h a1.toInt64 0 10 hx1) (kX9_46 F.2.2.2.2 ⟨Nat.le_of_ble_eq_true rfl, Nat.le_of_ble_eq_true rfl⟩) rfl hl.1 rfl (lv_room (Nat.le_of_ble_eq_true rfl)) ⟨Nat.zero_le _, Nat.zero_le _⟩ dX9_setting_7 ?_
  refine lv_iconst (v := 1) hx hb dX9_setting_10 (by decide) ?_
  obtain ⟨x2, hx2, hf⟩ := g_bnd hf
  refine g_mv (S' := [C9 E h b0 x2.2]) (As := [.int x1, .int 1]) (rest := []) F hK hX hAB hG [0] rfl rfl (c_X9_goes h b0 w0 x1 1 hx2) rfl (kX9_72 F.2.2.2.2 ⟨Nat.le_of_ble_eq_true rfl, Nat.le_of_ble_eq_true rfl⟩) rfl rfl rfl rfl hl.1 rfl (lv_room (Nat.le_of_ble_eq_true rfl)) ⟨Nat.zero_le _, Nat.zero_le _⟩ dX9_setting_11 (fun H locs hG => ?_)
  refine lv_if_eq (tgt := 25) hx hb dX9_setting_14 (by decide) (fun c3 => ?_) (fun c3 => ?_)
  · have hf := g_it c3 hf
    refine lv_iconst (v := 0) hx hb dX9_setting_25 (by decide) ?_
    have ho := Option.some.inj hf
    subst hA
    rw [← hQ, ← ho]
    exact g_mretI F hr hlk hG dX9_setting_26
  · have hf := g_if c3 hf
    refine lv_aload_n hx hb dX9_setting_17 rfl (lv_at hl 0 rfl) ?_
    refine lv_iload_n hx hb dX9_setting_18 rfl (lv_at hl 1 rfl) ?_
    obtain ⟨x4, hx4, hf⟩ := g_bnd hf
    refine g_rv (As := [.int a1]) (rest := []) F hK (hG.X hX hAB) hG.1 [0] rfl (c_X9_settingOf h b0 x2.2 a1 hx4) (kX9_137 F.2.2.2.2 ⟨Nat.le_of_ble_eq_true rfl, Nat.le_of_ble_eq_true rfl⟩) rfl rfl rfl rfl hl.1 rfl (lv_room (Nat.le_of_ble_eq_true rfl)) ⟨Nat.zero_le _, Nat.zero_le _⟩ dX9_setting_19 ?_
    refine lv_goto (tgt := 26) hx hb dX9_setting_22 (by decide) ?_
    have ho := Option.some.inj hf
    subst hA
    rw [← hQ, ← ho]
    exact g_mretI F hr hlk hG dX9_setting_26
set_option maxHeartbeats 4000000 in
set_option maxRecDepth 100000 in
theorem c_X9_place {l : Launch} {E : gEnv} (h : Nat → Nat) (b0 : Nat) (w0 : T9) (a1 : Int32) {o : Int32 × T9} (hf : f_X9_place w0 a1 = some o) : gM l yX9_place cX9_place 2 (some .int) rX9_place E [.ref (h b0), .int a1] [C9 E h b0 w0] (some (.int o.1)) [C9 E h b0 o.2] := by
  refine gM.of (by decide +kernel) (Nat.le_of_ble_eq_true rfl) rfl ?_
  intro p e s m below meth c F hr hlk hK hX hAB ls hl H locs hG
  have F : gF p m c cX9_place 2 s ([.ref (h b0), .int a1] : List Value).toArray RX9 := F
  generalize ([.ref (h b0), .int a1] : List Value).toArray = args at F ⊢
  generalize hQ : MQ below _ _ _ _ _ _ = Q
  generalize hA : gAd [C9 E h b0 w0] = A at hAB hG
  have hl : lv_has ls 2 [(0, .ref (h b0)), (1, .int a1)] := hl
  have hx := F.1
  have hb := F.2.1
  unfold f_X9_place at hf
  refine lv_aload_n hx hb dX9_place_0 rfl (lv_at hl 0 rfl) ?_
  refine lv_iload_n hx hb dX9_place_1 rfl (lv_at hl 1 rfl) ?_
  refine lv_i2l hx hb dX9_place_2 rfl ?_
  refine lv_lconst (v := 0) hx hb dX9_place_3 rfl ?_
  refine lv_aload_n hx hb dX9_place_4 rfl (lv_at hl 0 rfl) ?_
  refine g_get F hK hG.1 0 0 0 flX9_7 rfl rfl rfl dX9_place_5 ?_
  refine lv_bipush (v := 6) hx hb dX9_place_8 (by decide) ?_
  obtain ⟨x1, hx1, hf⟩ := g_bnd hf
  refine g_iald F hK hG.1 0 1 rfl rfl hx1 dX9_place_10 ?_
  refine lv_i2l hx hb dX9_place_11 rfl ?_
  refine lv_lconst (v := 1) hx hb dX9_place_12 rfl ?_
  refine lv_lsub hx hb dX9_place_13 ?_
  obtain ⟨x2, hx2, hf⟩ := g_bnd hf
  refine g_rs (As := [.long a1.toInt64, .long 0, .long (x1.toInt64 - 1)]) (rest := [.ref (h b0)]) F hK (hG.X hX hAB) hG.1 [] rfl (c_X9_in h a1.toInt64 0 (x1.toInt64 - 1) hx2) (kX9_46 F.2.2.2.2 ⟨Nat.le_of_ble_eq_true rfl, Nat.le_of_ble_eq_true rfl⟩) rfl hl.1 rfl (lv_room (Nat.le_of_ble_eq_true rfl)) ⟨Nat.zero_le _, Nat.zero_le _⟩ dX9_place_14 ?_
  refine lv_iconst (v := 1) hx hb dX9_place_17 (by decide) ?_
  obtain ⟨x3, hx3, hf⟩ := g_bnd hf
  refine g_mv (S' := [C9 E h b0 x3.2]) (As := [.int x2, .int 1]) (rest := []) F hK hX hAB hG [0] rfl rfl (c_X9_goes h b0 w0 x2 1 hx3) rfl (kX9_72 F.2.2.2.2 ⟨Nat.le_of_ble_eq_true rfl, Nat.le_of_ble_eq_true rfl⟩) rfl rfl rfl rfl hl.1 rfl (lv_room (Nat.le_of_ble_eq_true rfl)) ⟨Nat.zero_le _, Nat.zero_le _⟩ dX9_place_18 (fun H locs hG => ?_)
  refine lv_if_eq (tgt := 36) hx hb dX9_place_21 (by decide) (fun c4 => ?_) (fun c4 => ?_)
  · have hf := g_it c4 hf
    refine lv_iconst (v := 0) hx hb dX9_place_36 (by decide) ?_
    have ho := Option.some.inj hf
    subst hA
    rw [← hQ, ← ho]
    exact g_mretI F hr hlk hG dX9_place_37
  · have hf := g_if c4 hf
    refine lv_aload_n hx hb dX9_place_24 rfl (lv_at hl 0 rfl) ?_
    refine g_get F hK hG.1 0 0 0 flX9_7 rfl rfl rfl dX9_place_25 ?_
    refine lv_bipush (v := 10) hx hb dX9_place_28 (by decide) ?_
    refine lv_iload_n hx hb dX9_place_30 rfl (lv_at hl 1 rfl) ?_
    refine lv_iadd hx hb dX9_place_31 ?_
    obtain ⟨x5, hx5, hf⟩ := g_bnd hf
    refine g_iald F hK hG.1 0 1 rfl rfl hx5 dX9_place_32 ?_
    refine lv_goto (tgt := 37) hx hb dX9_place_33 (by decide) ?_
    have ho := Option.some.inj hf
    subst hA
    rw [← hQ, ← ho]
    exact g_mretI F hr hlk hG dX9_place_37
set_option maxHeartbeats 4000000 in
set_option maxRecDepth 100000 in
theorem c_X9_display {l : Launch} {E : gEnv} (h : Nat → Nat) (b0 : Nat) (w0 : T9) (a1 : Int32) {o : Int32 × T9} (hf : f_X9_display w0 a1 = some o) : gM l yX9_display cX9_display 2 (some .int) rX9_display E [.ref (h b0), .int a1] [C9 E h b0 w0] (some (.int o.1)) [C9 E h b0 o.2] := by
  refine gM.of (by decide +kernel) (Nat.le_of_ble_eq_true rfl) rfl ?_
  intro p e s m below meth c F hr hlk hK hX hAB ls hl H locs hG
  have F : gF p m c cX9_display 2 s ([.ref (h b0), .int a1] : List Value).toArray RX9 := F
  generalize ([.ref (h b0), .int a1] : List Value).toArray = args at F ⊢
  generalize hQ : MQ below _ _ _ _ _ _ = Q
  generalize hA : gAd [C9 E h b0 w0] = A at hAB hG
  have hl : lv_has ls 2 [(0, .ref (h b0)), (1, .int a1)] := hl
  have hx := F.1
  have hb := F.2.1
  unfold f_X9_display at hf
  refine lv_aload_n hx hb dX9_display_0 rfl (lv_at hl 0 rfl) ?_
  refine lv_iload_n hx hb dX9_display_1 rfl (lv_at hl 1 rfl) ?_
  obtain ⟨j1, hf, hfj1⟩ := g_bnd hf
  have hJj1 : ∀ (H : Heap) (locs : List Loc), gS E A s.heap [C9 E h b0 w0] H locs → ∀ ls : Array Slot, lv_has ls 2 [(0, .ref (h b0)), (1, .int a1)] → W p l e rX9_display s m args below meth c H locs 0 0 Q (F0 m 10 ls [.int j1, .ref (h b0)]) := by
    intro H locs hG ls hl
    have hf := hfj1
    refine lv_iconst (v := 1) hx hb dX9_display_10 (by decide) ?_
    obtain ⟨x3, hx3, hf⟩ := g_bnd hf
    refine g_mv (S' := [C9 E h b0 x3.2]) (As := [.int j1, .int 1]) (rest := []) F hK hX hAB hG [0] rfl rfl (c_X9_goes h b0 w0 j1 1 hx3) rfl (kX9_72 F.2.2.2.2 ⟨Nat.le_of_ble_eq_true rfl, Nat.le_of_ble_eq_true rfl⟩) rfl rfl rfl rfl hl.1 rfl (lv_room (Nat.le_of_ble_eq_true rfl)) ⟨Nat.zero_le _, Nat.zero_le _⟩ dX9_display_11 (fun H locs hG => ?_)
    refine lv_if_ne (tgt := 19) hx hb dX9_display_14 (by decide) (fun c4 => ?_) (fun c4 => ?_)
    · have hf := g_if c4 hf
      refine lv_aload_n hx hb dX9_display_19 rfl (lv_at hl 0 rfl) ?_
      obtain ⟨x5, hx5, hf⟩ := g_bnd hf
      refine g_mvv (S' := [C9 E h b0 x5]) (As := []) (rest := []) F hK hX hAB hG [0] rfl rfl (c_X9_laysDisplay h b0 x3.2 hx5) rfl (kX9_107 F.2.2.2.2 ⟨Nat.le_of_ble_eq_true rfl, Nat.le_of_ble_eq_true rfl⟩) rfl rfl rfl rfl hl.1 rfl (lv_room (Nat.le_of_ble_eq_true rfl)) ⟨Nat.zero_le _, Nat.zero_le _⟩ dX9_display_20 (fun H locs hG => ?_)
      refine lv_iload_n hx hb dX9_display_23 rfl (lv_at hl 1 rfl) ?_
      refine lv_aload_n hx hb dX9_display_24 rfl (lv_at hl 0 rfl) ?_
      refine g_get F hK hG.1 0 0 6 flX9_92 rfl rfl rfl dX9_display_25 ?_
      refine lv_icmp_ge (tgt := 40) hx hb dX9_display_28 (by decide) (fun c6 => ?_) (fun c6 => ?_)
      · have hf := g_it c6 hf
        refine lv_iconst (v := (-1)) hx hb dX9_display_40 (by decide) ?_
        have ho := Option.some.inj hf
        subst hA
        rw [← hQ, ← ho]
        exact g_mretI F hr hlk hG dX9_display_41
      · have hf := g_if c6 hf
        refine lv_aload_n hx hb dX9_display_31 rfl (lv_at hl 0 rfl) ?_
        refine g_get F hK hG.1 0 0 5 flX9_19 rfl rfl rfl dX9_display_32 ?_
        refine lv_iload_n hx hb dX9_display_35 rfl (lv_at hl 1 rfl) ?_
        obtain ⟨x7, hx7, hf⟩ := g_bnd hf
        refine g_iald F hK hG.1 0 4 rfl rfl hx7 dX9_display_36 ?_
        refine lv_goto (tgt := 41) hx hb dX9_display_37 (by decide) ?_
        have ho := Option.some.inj hf
        subst hA
        rw [← hQ, ← ho]
        exact g_mretI F hr hlk hG dX9_display_41
    · have hf := g_it c4 hf
      refine lv_iconst (v := 0) hx hb dX9_display_17 (by decide) ?_
      have ho := Option.some.inj hf
      subst hA
      rw [← hQ, ← ho]
      exact g_mretI F hr hlk hG dX9_display_18
  refine lv_if_lt (tgt := 9) hx hb dX9_display_2 (by decide) (fun c2 => ?_) (fun c2 => ?_)
  · have hf := g_it c2 hf
    refine lv_iconst (v := 0) hx hb dX9_display_9 (by decide) ?_
    obtain rfl := Option.some.inj hf
    exact hJj1 _ _ hG ls (lv_sub hl [0, 1] rfl)
  · have hf := g_if c2 hf
    refine lv_iconst (v := 1) hx hb dX9_display_5 (by decide) ?_
    refine lv_goto (tgt := 10) hx hb dX9_display_6 (by decide) ?_
    obtain rfl := Option.some.inj hf
    exact hJj1 _ _ hG ls (lv_sub hl [0, 1] rfl)
set_option maxHeartbeats 4000000 in
set_option maxRecDepth 100000 in
theorem c_X9_written {l : Launch} {E : gEnv} (h : Nat → Nat) (b0 : Nat) (w0 : T9) (a1 : Int32) (a2 : Int32) {o : Int32 × T9} (hf : f_X9_written w0 a1 a2 = some o) : gM l yX9_written cX9_written 5 (some .int) rX9_written E [.ref (h b0), .int a1, .int a2] [C9 E h b0 w0] (some (.int o.1)) [C9 E h b0 o.2] := by
  refine gM.of (by decide +kernel) (Nat.le_of_ble_eq_true rfl) rfl ?_
  intro p e s m below meth c F hr hlk hK hX hAB ls hl H locs hG
  have F : gF p m c cX9_written 5 s ([.ref (h b0), .int a1, .int a2] : List Value).toArray RX9 := F
  generalize ([.ref (h b0), .int a1, .int a2] : List Value).toArray = args at F ⊢
  generalize hQ : MQ below _ _ _ _ _ _ = Q
  generalize hA : gAd [C9 E h b0 w0] = A at hAB hG
  have hl : lv_has ls 5 [(0, .ref (h b0)), (1, .int a1), (2, .int a2)] := hl
  have hx := F.1
  have hb := F.2.1
  unfold f_X9_written at hf
  refine lv_iload_n hx hb dX9_written_0 rfl (lv_at hl 1 rfl) ?_
  refine lv_i2l hx hb dX9_written_1 rfl ?_
  refine lv_lconst (v := 0) hx hb dX9_written_2 rfl ?_
  refine lv_aload_n hx hb dX9_written_3 rfl (lv_at hl 0 rfl) ?_
  refine g_get F hK hG.1 0 0 0 flX9_7 rfl rfl rfl dX9_written_4 ?_
  refine lv_bipush (v := 8) hx hb dX9_written_7 (by decide) ?_
  obtain ⟨x1, hx1, hf⟩ := g_bnd hf
  refine g_iald F hK hG.1 0 1 rfl rfl hx1 dX9_written_9 ?_
  refine lv_i2l hx hb dX9_written_10 rfl ?_
  refine lv_lconst (v := 1) hx hb dX9_written_11 rfl ?_
  refine lv_lsub hx hb dX9_written_12 ?_
  obtain ⟨x2, hx2, hf⟩ := g_bnd hf
  refine g_rs (As := [.long a1.toInt64, .long 0, .long (x1.toInt64 - 1)]) (rest := []) F hK (hG.X hX hAB) hG.1 [] rfl (c_X9_in h a1.toInt64 0 (x1.toInt64 - 1) hx2) (kX9_46 F.2.2.2.2 ⟨Nat.le_of_ble_eq_true rfl, Nat.le_of_ble_eq_true rfl⟩) rfl hl.1 rfl (lv_room (Nat.le_of_ble_eq_true rfl)) ⟨Nat.zero_le _, Nat.zero_le _⟩ dX9_written_13 ?_
  refine lv_istore_n (lv' := [(3, .int x2), (0, .ref (h b0)), (1, .int a1), (2, .int a2)]) hx hb dX9_written_16 rfl hl (by decide) rfl (fun ls hl => ?_)
  refine lv_iload_n hx hb dX9_written_17 rfl (lv_at hl 0 rfl) ?_
  obtain ⟨j3, hf, hfj3⟩ := g_bnd hf
  have hJj3 : ∀ (H : Heap) (locs : List Loc), gS E A s.heap [C9 E h b0 w0] H locs → ∀ ls : Array Slot, lv_has ls 5 [(0, .ref (h b0)), (2, .int a2), (3, .int x2)] → W p l e rX9_written s m args below meth c H locs 0 0 Q (F0 m 35 ls [.int j3]) := by
    intro H locs hG ls hl
    have hf := hfj3
    refine lv_istore (lv' := [(4, .int j3), (0, .ref (h b0)), (2, .int a2), (3, .int x2)]) hx hb dX9_written_35 hl (by decide) rfl (fun ls hl => ?_)
    refine lv_aload_n hx hb dX9_written_37 rfl (lv_at hl 1 rfl) ?_
    refine lv_iload_n hx hb dX9_written_38 rfl (lv_at hl 3 rfl) ?_
    obtain ⟨j5, hf, hfj5⟩ := g_bnd hf
    have hJj5 : ∀ (H : Heap) (locs : List Loc), gS E A s.heap [C9 E h b0 w0] H locs → ∀ ls : Array Slot, lv_has ls 5 [(0, .ref (h b0)), (2, .int a2), (4, .int j3)] → W p l e rX9_written s m args below meth c H locs 0 0 Q (F0 m 68 ls [.int j5, .ref (h b0)]) := by
      intro H locs hG ls hl
      have hf := hfj5
      refine lv_iconst (v := 1) hx hb dX9_written_68 (by decide) ?_
      obtain ⟨x10, hx10, hf⟩ := g_bnd hf
      refine g_mv (S' := [C9 E h b0 x10.2]) (As := [.int j5, .int 1]) (rest := []) F hK hX hAB hG [0] rfl rfl (c_X9_goes h b0 w0 j5 1 hx10) rfl (kX9_72 F.2.2.2.2 ⟨Nat.le_of_ble_eq_true rfl, Nat.le_of_ble_eq_true rfl⟩) rfl rfl rfl rfl hl.1 rfl (lv_room (Nat.le_of_ble_eq_true rfl)) ⟨Nat.zero_le _, Nat.zero_le _⟩ dX9_written_69 (fun H locs hG => ?_)
      refine lv_if_eq (tgt := 89) hx hb dX9_written_72 (by decide) (fun c11 => ?_) (fun c11 => ?_)
      · have hf := g_it c11 hf
        refine lv_iconst (v := 0) hx hb dX9_written_89 (by decide) ?_
        have ho := Option.some.inj hf
        subst hA
        rw [← hQ, ← ho]
        exact g_mretI F hr hlk hG dX9_written_90
      · have hf := g_if c11 hf
        refine lv_aload_n hx hb dX9_written_75 rfl (lv_at hl 0 rfl) ?_
        refine g_get F hK hG.1 0 0 0 flX9_7 rfl rfl rfl dX9_written_76 ?_
        refine lv_iload hx hb dX9_written_79 (lv_at hl 2 rfl) ?_
        refine lv_iconst (v := 1) hx hb dX9_written_81 (by decide) ?_
        refine lv_iadd hx hb dX9_written_82 ?_
        refine lv_iload_n hx hb dX9_written_83 rfl (lv_at hl 1 rfl) ?_
        refine lv_iadd hx hb dX9_written_84 ?_
        obtain ⟨x12, hx12, hf⟩ := g_bnd hf
        refine g_iald F hK hG.1 0 1 rfl rfl hx12 dX9_written_85 ?_
        refine lv_goto (tgt := 90) hx hb dX9_written_86 (by decide) ?_
        have ho := Option.some.inj hf
        subst hA
        rw [← hQ, ← ho]
        exact g_mretI F hr hlk hG dX9_written_90
    refine lv_if_eq (tgt := 67) hx hb dX9_written_39 (by decide) (fun c6 => ?_) (fun c6 => ?_)
    · have hf := g_it c6 hf
      refine lv_iconst (v := 0) hx hb dX9_written_67 (by decide) ?_
      obtain rfl := Option.some.inj hf
      exact hJj5 _ _ hG ls (lv_sub hl [1, 2, 0] rfl)
    · have hf := g_if c6 hf
      refine lv_iload_n hx hb dX9_written_42 rfl (lv_at hl 2 rfl) ?_
      refine lv_i2l hx hb dX9_written_43 rfl ?_
      refine lv_ldc2 (v := (-1)) hx hb F.2.2.2.1 (F.2.2.2.2 _ gw_1028) dX9_written_44 ?_
      refine lv_aload_n hx hb dX9_written_47 rfl (lv_at hl 1 rfl) ?_
      refine g_get F hK hG.1 0 0 0 flX9_7 rfl rfl rfl dX9_written_48 ?_
      refine lv_iload hx hb dX9_written_51 (lv_at hl 0 rfl) ?_
      obtain ⟨x7, hx7, hf⟩ := g_bnd hf
      refine g_iald F hK hG.1 0 1 rfl rfl hx7 dX9_written_53 ?_
      refine lv_i2l hx hb dX9_written_54 rfl ?_
      refine lv_lconst (v := 1) hx hb dX9_written_55 rfl ?_
      refine lv_lsub hx hb dX9_written_56 ?_
      obtain ⟨x8, hx8, hf⟩ := g_bnd hf
      refine g_rs (As := [.long a2.toInt64, .long (-1), .long (x7.toInt64 - 1)]) (rest := [.ref (h b0)]) F hK (hG.X hX hAB) hG.1 [] rfl (c_X9_in h a2.toInt64 (-1) (x7.toInt64 - 1) hx8) (kX9_46 F.2.2.2.2 ⟨Nat.le_of_ble_eq_true rfl, Nat.le_of_ble_eq_true rfl⟩) rfl hl.1 rfl (lv_room (Nat.le_of_ble_eq_true rfl)) ⟨Nat.zero_le _, Nat.zero_le _⟩ dX9_written_57 ?_
      refine lv_if_eq (tgt := 67) hx hb dX9_written_60 (by decide) (fun c9 => ?_) (fun c9 => ?_)
      · have hf := g_it c9 hf
        refine lv_iconst (v := 0) hx hb dX9_written_67 (by decide) ?_
        obtain rfl := Option.some.inj hf
        exact hJj5 _ _ hG ls (lv_sub hl [1, 2, 0] rfl)
      · have hf := g_if c9 hf
        refine lv_iconst (v := 1) hx hb dX9_written_63 (by decide) ?_
        refine lv_goto (tgt := 68) hx hb dX9_written_64 (by decide) ?_
        obtain rfl := Option.some.inj hf
        exact hJj5 _ _ hG ls (lv_sub hl [1, 2, 0] rfl)
  refine lv_if_eq (tgt := 32) hx hb dX9_written_18 (by decide) (fun c4 => ?_) (fun c4 => ?_)
  · have hf := g_it c4 hf
    refine lv_sipush (v := 720) hx hb dX9_written_32 (by decide) ?_
    obtain rfl := Option.some.inj hf
    exact hJj3 _ _ hG ls (lv_sub hl [1, 3, 0] rfl)
  · have hf := g_if c4 hf
    refine lv_sipush (v := 720) hx hb dX9_written_21 (by decide) ?_
    refine lv_bipush (v := 11) hx hb dX9_written_24 (by decide) ?_
    refine lv_iload_n hx hb dX9_written_26 rfl (lv_at hl 2 rfl) ?_
    refine lv_imul hx hb dX9_written_27 ?_
    refine lv_iadd hx hb dX9_written_28 ?_
    refine lv_goto (tgt := 35) hx hb dX9_written_29 (by decide) ?_
    obtain rfl := Option.some.inj hf
    exact hJj3 _ _ hG ls (lv_sub hl [1, 3, 0] rfl)
set_option maxHeartbeats 4000000 in
set_option maxRecDepth 100000 in
theorem c_X9_haveKeys {l : Launch} {E : gEnv} (h : Nat → Nat) (b0 : Nat) (w0 : T9) (a1 : Int32) (a2 : Int32) {o : Int32} (hf : f_X9_haveKeys w0 a1 a2 = some o) : gR l yX9_haveKeys cX9_haveKeys 5 (some .boolean) rX9_haveKeys E [.ref (h b0), .int a1, .int a2] [C9 E h b0 w0] (some (.int o)) := by
  refine gR.of (by decide +kernel) (Nat.le_of_ble_eq_true rfl) ?_
  intro p e s m below meth c F hr hlk hK hX hP ls hl
  have F : gF p m c cX9_haveKeys 5 s ([.ref (h b0), .int a1, .int a2] : List Value).toArray RX9 := F
  generalize ([.ref (h b0), .int a1, .int a2] : List Value).toArray = args at F ⊢
  generalize hQ : MQ below _ _ _ _ _ _ = Q
  have hl : lv_has ls 5 [(0, .ref (h b0)), (1, .int a1), (2, .int a2)] := hl
  have hx := F.1
  have hb := F.2.1
  unfold f_X9_haveKeys at hf
  refine lv_aload_n hx hb dX9_haveKeys_0 rfl (lv_at hl 0 rfl) ?_
  refine lv_iload_n hx hb dX9_haveKeys_1 rfl (lv_at hl 1 rfl) ?_
  refine lv_iconst (v := 0) hx hb dX9_haveKeys_2 (by decide) ?_
  obtain ⟨x1, hx1, hf⟩ := g_bnd hf
  refine g_rv (As := [.int a1, .int 0]) (rest := []) F hK hX hP [0] rfl (c_X9_of h b0 w0 a1 0 hx1) (kX9_50 F.2.2.2.2 ⟨Nat.le_of_ble_eq_true rfl, Nat.le_of_ble_eq_true rfl⟩) rfl rfl rfl rfl hl.1 rfl (lv_room (Nat.le_of_ble_eq_true rfl)) ⟨Nat.zero_le _, Nat.zero_le _⟩ dX9_haveKeys_3 ?_
  refine lv_aload_n hx hb dX9_haveKeys_6 rfl (lv_at hl 0 rfl) ?_
  refine lv_iload_n hx hb dX9_haveKeys_7 rfl (lv_at hl 2 rfl) ?_
  refine lv_iconst (v := 0) hx hb dX9_haveKeys_8 (by decide) ?_
  obtain ⟨x2, hx2, hf⟩ := g_bnd hf
  refine g_rv (As := [.int a2, .int 0]) (rest := [.int x1]) F hK hX hP [0] rfl (c_X9_of h b0 w0 a2 0 hx2) (kX9_50 F.2.2.2.2 ⟨Nat.le_of_ble_eq_true rfl, Nat.le_of_ble_eq_true rfl⟩) rfl rfl rfl rfl hl.1 rfl (lv_room (Nat.le_of_ble_eq_true rfl)) ⟨Nat.zero_le _, Nat.zero_le _⟩ dX9_haveKeys_9 ?_
  obtain ⟨j3, hf, hfj3⟩ := g_bnd hf
  have hJj3 : ∀ ls : Array Slot, lv_has ls 5 [(0, .ref (h b0)), (1, .int a1), (2, .int a2)] → W p l e rX9_haveKeys s m args below meth c s.heap [] 0 0 Q (F0 m 20 ls [.int j3]) := by
    intro ls hl
    have hf := hfj3
    refine lv_istore_n (lv' := [(3, .int j3), (0, .ref (h b0)), (1, .int a1), (2, .int a2)]) hx hb dX9_haveKeys_20 rfl hl (by decide) rfl (fun ls hl => ?_)
    refine lv_iconst (v := 0) hx hb dX9_haveKeys_21 (by decide) ?_
    refine lv_istore (lv' := [(4, .int 0), (3, .int j3), (0, .ref (h b0)), (1, .int a1), (2, .int a2)]) hx hb dX9_haveKeys_22 hl (by decide) rfl (fun ls hl => ?_)
    refine lp_rule (fun (v5 : Int32 × Int32) => ∀ ls : Array Slot, lv_has ls 5 [(0, .ref (h b0)), (1, .int a1), (2, .int a2), (3, .int v5.1), (4, .int v5.2)] → W p l e rX9_haveKeys s m args below meth c s.heap [] 0 0 Q (F0 m 24 ls [])) ?_ _ _ hf ls (lv_sub hl [2, 3, 4, 1, 0] rfl)
    intro v5 y hf hbackv5 hexitv5 ls hl
    refine lv_iload hx hb dX9_haveKeys_24 (lv_at hl 4 rfl) ?_
    refine lv_aload_n hx hb dX9_haveKeys_26 rfl (lv_at hl 0 rfl) ?_
    refine lv_iload_n hx hb dX9_haveKeys_27 rfl (lv_at hl 1 rfl) ?_
    refine lv_iconst (v := 0) hx hb dX9_haveKeys_28 (by decide) ?_
    obtain ⟨x7, hx7, hf⟩ := g_bnd hf
    refine g_rv (As := [.int a1, .int 0]) (rest := [.int v5.2]) F hK hX hP [0] rfl (c_X9_of h b0 w0 a1 0 hx7) (kX9_50 F.2.2.2.2 ⟨Nat.le_of_ble_eq_true rfl, Nat.le_of_ble_eq_true rfl⟩) rfl rfl rfl rfl hl.1 rfl (lv_room (Nat.le_of_ble_eq_true rfl)) ⟨Nat.zero_le _, Nat.zero_le _⟩ dX9_haveKeys_29 ?_
    refine lv_icmp_ge (tgt := 74) hx hb dX9_haveKeys_32 (by decide) (fun c8 => ?_) (fun c8 => ?_)
    · have hf := g_it c8 hf
      refine lv_iload_n hx hb dX9_haveKeys_74 rfl (lv_at hl 3 rfl) ?_
      obtain ⟨u9, hu9, hf⟩ := g_bnd hf
      have ho := hexitv5 _ (Option.some.inj hf).symm
      rw [← hQ, ← ho]
      exact g_retZ F hr hlk (bz_nar hu9) dX9_haveKeys_75
    · have hf := g_if c8 hf
      refine lv_iload_n hx hb dX9_haveKeys_35 rfl (lv_at hl 3 rfl) ?_
      refine lv_if_eq (tgt := 74) hx hb dX9_haveKeys_36 (by decide) (fun c10 => ?_) (fun c10 => ?_)
      · have hf := g_it c10 hf
        refine lv_iload_n hx hb dX9_haveKeys_74 rfl (lv_at hl 3 rfl) ?_
        obtain ⟨u11, hu11, hf⟩ := g_bnd hf
        have ho := hexitv5 _ (Option.some.inj hf).symm
        rw [← hQ, ← ho]
        exact g_retZ F hr hlk (bz_nar hu11) dX9_haveKeys_75
      · have hf := g_if c10 hf
        refine lv_aload_n hx hb dX9_haveKeys_39 rfl (lv_at hl 0 rfl) ?_
        refine lv_iload_n hx hb dX9_haveKeys_40 rfl (lv_at hl 1 rfl) ?_
        refine lv_iload hx hb dX9_haveKeys_41 (lv_at hl 4 rfl) ?_
        obtain ⟨x12, hx12, hf⟩ := g_bnd hf
        refine g_rv (As := [.int a1, .int v5.2]) (rest := []) F hK hX hP [0] rfl (c_X9_letterOf h b0 w0 a1 v5.2 hx12) (kX9_53 F.2.2.2.2 ⟨Nat.le_of_ble_eq_true rfl, Nat.le_of_ble_eq_true rfl⟩) rfl rfl rfl rfl hl.1 rfl (lv_room (Nat.le_of_ble_eq_true rfl)) ⟨Nat.zero_le _, Nat.zero_le _⟩ dX9_haveKeys_43 ?_
        obtain ⟨x13, hx13, hf⟩ := g_bnd hf
        refine g_rs (As := [.int x12]) (rest := []) F hK hX hP [] rfl (c_X9_keyOf h x12 hx13) (kX9_32 F.2.2.2.2 ⟨Nat.le_of_ble_eq_true rfl, Nat.le_of_ble_eq_true rfl⟩) rfl hl.1 rfl (lv_room (Nat.le_of_ble_eq_true rfl)) ⟨Nat.zero_le _, Nat.zero_le _⟩ dX9_haveKeys_46 ?_
        refine lv_aload_n hx hb dX9_haveKeys_49 rfl (lv_at hl 0 rfl) ?_
        refine lv_iload_n hx hb dX9_haveKeys_50 rfl (lv_at hl 2 rfl) ?_
        refine lv_iload hx hb dX9_haveKeys_51 (lv_at hl 4 rfl) ?_
        obtain ⟨x14, hx14, hf⟩ := g_bnd hf
        refine g_rv (As := [.int a2, .int v5.2]) (rest := [.int x13]) F hK hX hP [0] rfl (c_X9_letterOf h b0 w0 a2 v5.2 hx14) (kX9_53 F.2.2.2.2 ⟨Nat.le_of_ble_eq_true rfl, Nat.le_of_ble_eq_true rfl⟩) rfl rfl rfl rfl hl.1 rfl (lv_room (Nat.le_of_ble_eq_true rfl)) ⟨Nat.zero_le _, Nat.zero_le _⟩ dX9_haveKeys_53 ?_
        obtain ⟨x15, hx15, hf⟩ := g_bnd hf
        refine g_rs (As := [.int x14]) (rest := [.int x13]) F hK hX hP [] rfl (c_X9_keyOf h x14 hx15) (kX9_32 F.2.2.2.2 ⟨Nat.le_of_ble_eq_true rfl, Nat.le_of_ble_eq_true rfl⟩) rfl hl.1 rfl (lv_room (Nat.le_of_ble_eq_true rfl)) ⟨Nat.zero_le _, Nat.zero_le _⟩ dX9_haveKeys_56 ?_
        obtain ⟨j16, hf, hfj16⟩ := g_bnd hf
        have hJj16 : ∀ ls : Array Slot, lv_has ls 5 [(0, .ref (h b0)), (1, .int a1), (2, .int a2), (4, .int v5.2)] → W p l e rX9_haveKeys s m args below meth c s.heap [] 0 0 Q (F0 m 67 ls [.int j16]) := by
          intro ls hl
          have hf := hfj16
          refine lv_istore_n (lv' := [(3, .int j16), (0, .ref (h b0)), (1, .int a1), (2, .int a2), (4, .int v5.2)]) hx hb dX9_haveKeys_67 rfl hl (by decide) rfl (fun ls hl => ?_)
          refine lv_iinc (v := (v5.2 + 1)) (lv' := [(4, .int (v5.2 + 1)), (3, .int j16), (0, .ref (h b0)), (1, .int a1), (2, .int a2)]) hx hb dX9_haveKeys_68 hl (k := 4) rfl rfl (by decide) rfl (fun ls hl => ?_)
          refine lv_goto (tgt := 24) hx hb dX9_haveKeys_71 (by decide) ?_
          exact hbackv5 _ (Option.some.inj hf).symm ls (lv_sub hl [2, 3, 4, 1, 0] rfl)
        refine lv_icmp_ne (tgt := 66) hx hb dX9_haveKeys_59 (by decide) (fun c17 => ?_) (fun c17 => ?_)
        · have hf := g_if c17 hf
          refine lv_iconst (v := 0) hx hb dX9_haveKeys_66 (by decide) ?_
          obtain rfl := Option.some.inj hf
          exact hJj16 ls (lv_sub hl [0, 1, 2, 4] rfl)
        · have hf := g_it c17 hf
          refine lv_iconst (v := 1) hx hb dX9_haveKeys_62 (by decide) ?_
          refine lv_goto (tgt := 67) hx hb dX9_haveKeys_63 (by decide) ?_
          obtain rfl := Option.some.inj hf
          exact hJj16 ls (lv_sub hl [0, 1, 2, 4] rfl)
  refine lv_icmp_ne (tgt := 19) hx hb dX9_haveKeys_12 (by decide) (fun c4 => ?_) (fun c4 => ?_)
  · have hf := g_if c4 hf
    refine lv_iconst (v := 0) hx hb dX9_haveKeys_19 (by decide) ?_
    obtain rfl := Option.some.inj hf
    exact hJj3 ls (lv_sub hl [0, 1, 2] rfl)
  · have hf := g_it c4 hf
    refine lv_iconst (v := 1) hx hb dX9_haveKeys_15 (by decide) ?_
    refine lv_goto (tgt := 20) hx hb dX9_haveKeys_16 (by decide) ?_
    obtain rfl := Option.some.inj hf
    exact hJj3 ls (lv_sub hl [0, 1, 2] rfl)
set_option maxHeartbeats 4000000 in
set_option maxRecDepth 100000 in
theorem c_X9_stepsOf {l : Launch} {E : gEnv} (h : Nat → Nat) (b0 : Nat) (w0 : T9) (a1 : Int32) {o : Int32} (hf : f_X9_stepsOf w0 a1 = some o) : gR l yX9_stepsOf cX9_stepsOf 4 (some .int) rX9_stepsOf E [.ref (h b0), .int a1] [C9 E h b0 w0] (some (.int o)) := by
  refine gR.of (by decide +kernel) (Nat.le_of_ble_eq_true rfl) ?_
  intro p e s m below meth c F hr hlk hK hX hP ls hl
  have F : gF p m c cX9_stepsOf 4 s ([.ref (h b0), .int a1] : List Value).toArray RX9 := F
  generalize ([.ref (h b0), .int a1] : List Value).toArray = args at F ⊢
  generalize hQ : MQ below _ _ _ _ _ _ = Q
  have hl : lv_has ls 4 [(0, .ref (h b0)), (1, .int a1)] := hl
  have hx := F.1
  have hb := F.2.1
  unfold f_X9_stepsOf at hf
  refine lv_iconst (v := 0) hx hb dX9_stepsOf_0 (by decide) ?_
  refine lv_istore_n (lv' := [(2, .int 0), (0, .ref (h b0)), (1, .int a1)]) hx hb dX9_stepsOf_1 rfl hl (by decide) rfl (fun ls hl => ?_)
  refine lv_iconst (v := 0) hx hb dX9_stepsOf_2 (by decide) ?_
  refine lv_istore_n (lv' := [(3, .int 0), (2, .int 0), (0, .ref (h b0)), (1, .int a1)]) hx hb dX9_stepsOf_3 rfl hl (by decide) rfl (fun ls hl => ?_)
  refine lp_rule (fun (v1 : Int32 × Int32) => ∀ ls : Array Slot, lv_has ls 4 [(0, .ref (h b0)), (1, .int a1), (2, .int v1.1), (3, .int v1.2)] → W p l e rX9_stepsOf s m args below meth c s.heap [] 0 0 Q (F0 m 4 ls [])) ?_ _ _ hf ls (lv_sub hl [2, 3, 1, 0] rfl)
  intro v1 y hf hbackv1 hexitv1 ls hl
  refine lv_iload_n hx hb dX9_stepsOf_4 rfl (lv_at hl 3 rfl) ?_
  refine lv_aload_n hx hb dX9_stepsOf_5 rfl (lv_at hl 0 rfl) ?_
  refine g_get F hK hP 0 0 0 flX9_7 rfl rfl rfl dX9_stepsOf_6 ?_
  refine lv_iconst (v := 0) hx hb dX9_stepsOf_9 (by decide) ?_
  obtain ⟨x3, hx3, hf⟩ := g_bnd hf
  refine g_iald F hK hP 0 1 rfl rfl hx3 dX9_stepsOf_10 ?_
  refine lv_icmp_ge (tgt := 51) hx hb dX9_stepsOf_11 (by decide) (fun c4 => ?_) (fun c4 => ?_)
  · have hf := g_it c4 hf
    refine lv_iload_n hx hb dX9_stepsOf_51 rfl (lv_at hl 2 rfl) ?_
    have ho := hexitv1 _ (Option.some.inj hf).symm
    rw [← hQ, ← ho]
    exact g_retI F hr hlk dX9_stepsOf_52
  · have hf := g_if c4 hf
    refine lv_iload_n hx hb dX9_stepsOf_14 rfl (lv_at hl 2 rfl) ?_
    refine lv_iload_n hx hb dX9_stepsOf_15 rfl (lv_at hl 3 rfl) ?_
    refine lv_iload_n hx hb dX9_stepsOf_16 rfl (lv_at hl 1 rfl) ?_
    obtain ⟨j5, hf, hfj5⟩ := g_bnd hf
    have hJj5 : ∀ ls : Array Slot, lv_has ls 4 [(0, .ref (h b0)), (1, .int a1), (3, .int v1.2)] → W p l e rX9_stepsOf s m args below meth c s.heap [] 0 0 Q (F0 m 43 ls [.int j5, .int v1.1]) := by
      intro ls hl
      have hf := hfj5
      refine lv_iadd hx hb dX9_stepsOf_43 ?_
      refine lv_istore_n (lv' := [(2, .int (v1.1 + j5)), (0, .ref (h b0)), (1, .int a1), (3, .int v1.2)]) hx hb dX9_stepsOf_44 rfl hl (by decide) rfl (fun ls hl => ?_)
      refine lv_iinc (v := (v1.2 + 1)) (lv' := [(3, .int (v1.2 + 1)), (2, .int (v1.1 + j5)), (0, .ref (h b0)), (1, .int a1)]) hx hb dX9_stepsOf_45 hl (k := 3) rfl rfl (by decide) rfl (fun ls hl => ?_)
      refine lv_goto (tgt := 4) hx hb dX9_stepsOf_48 (by decide) ?_
      exact hbackv1 _ (Option.some.inj hf).symm ls (lv_sub hl [2, 3, 1, 0] rfl)
    refine lv_icmp_eq (tgt := 42) hx hb dX9_stepsOf_17 (by decide) (fun c6 => ?_) (fun c6 => ?_)
    · have hf := g_it c6 hf
      refine lv_iconst (v := 0) hx hb dX9_stepsOf_42 (by decide) ?_
      obtain rfl := Option.some.inj hf
      exact hJj5 ls (lv_sub hl [0, 1, 3] rfl)
    · have hf := g_if c6 hf
      refine lv_aload_n hx hb dX9_stepsOf_20 rfl (lv_at hl 0 rfl) ?_
      refine lv_iload_n hx hb dX9_stepsOf_21 rfl (lv_at hl 3 rfl) ?_
      refine lv_iload_n hx hb dX9_stepsOf_22 rfl (lv_at hl 1 rfl) ?_
      obtain ⟨x7, hx7, hf⟩ := g_bnd hf
      refine g_rv (As := [.int v1.2, .int a1]) (rest := [.int v1.1]) F hK hX hP [0] rfl (c_X9_haveKeys h b0 w0 v1.2 a1 hx7) (kX9_142 F.2.2.2.2 ⟨Nat.le_of_ble_eq_true rfl, Nat.le_of_ble_eq_true rfl⟩) rfl rfl rfl rfl hl.1 rfl (lv_room (Nat.le_of_ble_eq_true rfl)) ⟨Nat.zero_le _, Nat.zero_le _⟩ dX9_stepsOf_23 ?_
      refine lv_if_eq (tgt := 42) hx hb dX9_stepsOf_26 (by decide) (fun c8 => ?_) (fun c8 => ?_)
      · have hf := g_it c8 hf
        refine lv_iconst (v := 0) hx hb dX9_stepsOf_42 (by decide) ?_
        obtain rfl := Option.some.inj hf
        exact hJj5 ls (lv_sub hl [0, 1, 3] rfl)
      · have hf := g_if c8 hf
        refine lv_aload_n hx hb dX9_stepsOf_29 rfl (lv_at hl 0 rfl) ?_
        refine lv_iload_n hx hb dX9_stepsOf_30 rfl (lv_at hl 3 rfl) ?_
        refine lv_iload_n hx hb dX9_stepsOf_31 rfl (lv_at hl 1 rfl) ?_
        obtain ⟨x9, hx9, hf⟩ := g_bnd hf
        refine g_rv (As := [.int v1.2, .int a1]) (rest := [.int v1.1]) F hK hX hP [0] rfl (c_X9_isAhead h b0 w0 v1.2 a1 hx9) (kX9_59 F.2.2.2.2 ⟨Nat.le_of_ble_eq_true rfl, Nat.le_of_ble_eq_true rfl⟩) rfl rfl rfl rfl hl.1 rfl (lv_room (Nat.le_of_ble_eq_true rfl)) ⟨Nat.zero_le _, Nat.zero_le _⟩ dX9_stepsOf_32 ?_
        refine lv_if_eq (tgt := 42) hx hb dX9_stepsOf_35 (by decide) (fun c10 => ?_) (fun c10 => ?_)
        · have hf := g_it c10 hf
          refine lv_iconst (v := 0) hx hb dX9_stepsOf_42 (by decide) ?_
          obtain rfl := Option.some.inj hf
          exact hJj5 ls (lv_sub hl [0, 1, 3] rfl)
        · have hf := g_if c10 hf
          refine lv_iconst (v := 1) hx hb dX9_stepsOf_38 (by decide) ?_
          refine lv_goto (tgt := 43) hx hb dX9_stepsOf_39 (by decide) ?_
          obtain rfl := Option.some.inj hf
          exact hJj5 ls (lv_sub hl [0, 1, 3] rfl)
set_option maxHeartbeats 4000000 in
set_option maxRecDepth 100000 in
theorem c_X9_steps {l : Launch} {E : gEnv} (h : Nat → Nat) (b0 : Nat) (w0 : T9) (a1 : Int32) {o : Int32 × T9} (hf : f_X9_steps w0 a1 = some o) : gM l yX9_steps cX9_steps 2 (some .int) rX9_steps E [.ref (h b0), .int a1] [C9 E h b0 w0] (some (.int o.1)) [C9 E h b0 o.2] := by
  refine gM.of (by decide +kernel) (Nat.le_of_ble_eq_true rfl) rfl ?_
  intro p e s m below meth c F hr hlk hK hX hAB ls hl H locs hG
  have F : gF p m c cX9_steps 2 s ([.ref (h b0), .int a1] : List Value).toArray RX9 := F
  generalize ([.ref (h b0), .int a1] : List Value).toArray = args at F ⊢
  generalize hQ : MQ below _ _ _ _ _ _ = Q
  generalize hA : gAd [C9 E h b0 w0] = A at hAB hG
  have hl : lv_has ls 2 [(0, .ref (h b0)), (1, .int a1)] := hl
  have hx := F.1
  have hb := F.2.1
  unfold f_X9_steps at hf
  refine lv_aload_n hx hb dX9_steps_0 rfl (lv_at hl 0 rfl) ?_
  refine lv_aload_n hx hb dX9_steps_1 rfl (lv_at hl 0 rfl) ?_
  refine lv_iload_n hx hb dX9_steps_2 rfl (lv_at hl 1 rfl) ?_
  obtain ⟨x1, hx1, hf⟩ := g_bnd hf
  refine g_rv (As := [.int a1]) (rest := [.ref (h b0)]) F hK (hG.X hX hAB) hG.1 [0] rfl (c_X9_isWord h b0 w0 a1 hx1) (kX9_66 F.2.2.2.2 ⟨Nat.le_of_ble_eq_true rfl, Nat.le_of_ble_eq_true rfl⟩) rfl rfl rfl rfl hl.1 rfl (lv_room (Nat.le_of_ble_eq_true rfl)) ⟨Nat.zero_le _, Nat.zero_le _⟩ dX9_steps_3 ?_
  refine lv_iconst (v := 1) hx hb dX9_steps_6 (by decide) ?_
  obtain ⟨x2, hx2, hf⟩ := g_bnd hf
  refine g_mv (S' := [C9 E h b0 x2.2]) (As := [.int x1, .int 1]) (rest := []) F hK hX hAB hG [0] rfl rfl (c_X9_goes h b0 w0 x1 1 hx2) rfl (kX9_72 F.2.2.2.2 ⟨Nat.le_of_ble_eq_true rfl, Nat.le_of_ble_eq_true rfl⟩) rfl rfl rfl rfl hl.1 rfl (lv_room (Nat.le_of_ble_eq_true rfl)) ⟨Nat.zero_le _, Nat.zero_le _⟩ dX9_steps_7 (fun H locs hG => ?_)
  refine lv_if_eq (tgt := 21) hx hb dX9_steps_10 (by decide) (fun c3 => ?_) (fun c3 => ?_)
  · have hf := g_it c3 hf
    refine lv_iconst (v := 0) hx hb dX9_steps_21 (by decide) ?_
    have ho := Option.some.inj hf
    subst hA
    rw [← hQ, ← ho]
    exact g_mretI F hr hlk hG dX9_steps_22
  · have hf := g_if c3 hf
    refine lv_aload_n hx hb dX9_steps_13 rfl (lv_at hl 0 rfl) ?_
    refine lv_iload_n hx hb dX9_steps_14 rfl (lv_at hl 1 rfl) ?_
    obtain ⟨x4, hx4, hf⟩ := g_bnd hf
    refine g_rv (As := [.int a1]) (rest := []) F hK (hG.X hX hAB) hG.1 [0] rfl (c_X9_stepsOf h b0 x2.2 a1 hx4) (kX9_145 F.2.2.2.2 ⟨Nat.le_of_ble_eq_true rfl, Nat.le_of_ble_eq_true rfl⟩) rfl rfl rfl rfl hl.1 rfl (lv_room (Nat.le_of_ble_eq_true rfl)) ⟨Nat.zero_le _, Nat.zero_le _⟩ dX9_steps_15 ?_
    refine lv_goto (tgt := 22) hx hb dX9_steps_18 (by decide) ?_
    have ho := Option.some.inj hf
    subst hA
    rw [← hQ, ← ho]
    exact g_mretI F hr hlk hG dX9_steps_22
set_option maxHeartbeats 4000000 in
set_option maxRecDepth 100000 in
theorem c_X9_pressesOf {l : Launch} {E : gEnv} (h : Nat → Nat) (b0 : Nat) (w0 : T9) (a1 : Int32) (a2 : Int32) {o : Int32} (hf : f_X9_pressesOf w0 a1 a2 = some o) : gR l yX9_pressesOf cX9_pressesOf 7 (some .int) rX9_pressesOf E [.ref (h b0), .int a1, .int a2] [C9 E h b0 w0] (some (.int o)) := by
  refine gR.of (by decide +kernel) (Nat.le_of_ble_eq_true rfl) ?_
  intro p e s m below meth c F hr hlk hK hX hP ls hl
  have F : gF p m c cX9_pressesOf 7 s ([.ref (h b0), .int a1, .int a2] : List Value).toArray RX9 := F
  generalize ([.ref (h b0), .int a1, .int a2] : List Value).toArray = args at F ⊢
  generalize hQ : MQ below _ _ _ _ _ _ = Q
  have hl : lv_has ls 7 [(0, .ref (h b0)), (1, .int a1), (2, .int a2)] := hl
  have hx := F.1
  have hb := F.2.1
  unfold f_X9_pressesOf at hf
  refine lv_iload_n hx hb dX9_pressesOf_0 rfl (lv_at hl 2 rfl) ?_
  refine lv_if_ne (tgt := 17) hx hb dX9_pressesOf_1 (by decide) (fun c1 => ?_) (fun c1 => ?_)
  · have hf := g_if c1 hf
    refine lv_iconst (v := 0) hx hb dX9_pressesOf_17 (by decide) ?_
    refine lv_istore_n (lv' := [(3, .int 0), (0, .ref (h b0)), (1, .int a1), (2, .int a2)]) hx hb dX9_pressesOf_18 rfl hl (by decide) rfl (fun ls hl => ?_)
    refine lv_iconst (v := (-1)) hx hb dX9_pressesOf_19 (by decide) ?_
    refine lv_istore (lv' := [(4, .int (-1)), (3, .int 0), (0, .ref (h b0)), (1, .int a1), (2, .int a2)]) hx hb dX9_pressesOf_20 hl (by decide) rfl (fun ls hl => ?_)
    refine lv_iconst (v := 0) hx hb dX9_pressesOf_22 (by decide) ?_
    refine lv_istore (lv' := [(5, .int 0), (4, .int (-1)), (3, .int 0), (0, .ref (h b0)), (1, .int a1), (2, .int a2)]) hx hb dX9_pressesOf_23 hl (by decide) rfl (fun ls hl => ?_)
    refine lp_rule (fun (v2 : Int32 × Int32 × Int32) => ∀ ls : Array Slot, lv_has ls 7 [(0, .ref (h b0)), (1, .int a1), (3, .int v2.1), (4, .int v2.2.1), (5, .int v2.2.2)] → W p l e rX9_pressesOf s m args below meth c s.heap [] 0 0 Q (F0 m 25 ls [])) ?_ _ _ hf ls (lv_sub hl [3, 4, 2, 1, 0] rfl)
    intro v2 y hf hbackv2 hexitv2 ls hl
    refine lv_iload hx hb dX9_pressesOf_25 (lv_at hl 4 rfl) ?_
    refine lv_aload_n hx hb dX9_pressesOf_27 rfl (lv_at hl 0 rfl) ?_
    refine lv_iload_n hx hb dX9_pressesOf_28 rfl (lv_at hl 1 rfl) ?_
    refine lv_iconst (v := 0) hx hb dX9_pressesOf_29 (by decide) ?_
    obtain ⟨x4, hx4, hf⟩ := g_bnd hf
    refine g_rv (As := [.int a1, .int 0]) (rest := [.int v2.2.2]) F hK hX hP [0] rfl (c_X9_of h b0 w0 a1 0 hx4) (kX9_50 F.2.2.2.2 ⟨Nat.le_of_ble_eq_true rfl, Nat.le_of_ble_eq_true rfl⟩) rfl rfl rfl rfl hl.1 rfl (lv_room (Nat.le_of_ble_eq_true rfl)) ⟨Nat.zero_le _, Nat.zero_le _⟩ dX9_pressesOf_30 ?_
    refine lv_icmp_ge (tgt := 89) hx hb dX9_pressesOf_33 (by decide) (fun c5 => ?_) (fun c5 => ?_)
    · have hf := g_it c5 hf
      refine lv_iload_n hx hb dX9_pressesOf_89 rfl (lv_at hl 2 rfl) ?_
      have ho := hexitv2 _ (Option.some.inj hf).symm
      rw [← hQ, ← ho]
      exact g_retI F hr hlk dX9_pressesOf_90
    · have hf := g_if c5 hf
      refine lv_aload_n hx hb dX9_pressesOf_36 rfl (lv_at hl 0 rfl) ?_
      refine lv_iload_n hx hb dX9_pressesOf_37 rfl (lv_at hl 1 rfl) ?_
      refine lv_iload hx hb dX9_pressesOf_38 (lv_at hl 4 rfl) ?_
      obtain ⟨x6, hx6, hf⟩ := g_bnd hf
      refine g_rv (As := [.int a1, .int v2.2.2]) (rest := []) F hK hX hP [0] rfl (c_X9_letterOf h b0 w0 a1 v2.2.2 hx6) (kX9_53 F.2.2.2.2 ⟨Nat.le_of_ble_eq_true rfl, Nat.le_of_ble_eq_true rfl⟩) rfl rfl rfl rfl hl.1 rfl (lv_room (Nat.le_of_ble_eq_true rfl)) ⟨Nat.zero_le _, Nat.zero_le _⟩ dX9_pressesOf_40 ?_
      obtain ⟨x7, hx7, hf⟩ := g_bnd hf
      refine g_rs (As := [.int x6]) (rest := []) F hK hX hP [] rfl (c_X9_keyOf h x6 hx7) (kX9_32 F.2.2.2.2 ⟨Nat.le_of_ble_eq_true rfl, Nat.le_of_ble_eq_true rfl⟩) rfl hl.1 rfl (lv_room (Nat.le_of_ble_eq_true rfl)) ⟨Nat.zero_le _, Nat.zero_le _⟩ dX9_pressesOf_43 ?_
      refine lv_istore (lv' := [(6, .int x7), (0, .ref (h b0)), (1, .int a1), (3, .int v2.1), (4, .int v2.2.1), (5, .int v2.2.2)]) hx hb dX9_pressesOf_46 hl (by decide) rfl (fun ls hl => ?_)
      refine lv_iload_n hx hb dX9_pressesOf_48 rfl (lv_at hl 3 rfl) ?_
      refine lv_aload_n hx hb dX9_pressesOf_49 rfl (lv_at hl 1 rfl) ?_
      refine lv_iload_n hx hb dX9_pressesOf_50 rfl (lv_at hl 2 rfl) ?_
      refine lv_iload hx hb dX9_pressesOf_51 (lv_at hl 5 rfl) ?_
      obtain ⟨x8, hx8, hf⟩ := g_bnd hf
      refine g_rv (As := [.int a1, .int v2.2.2]) (rest := [.int v2.1]) F hK hX hP [0] rfl (c_X9_letterOf h b0 w0 a1 v2.2.2 hx8) (kX9_53 F.2.2.2.2 ⟨Nat.le_of_ble_eq_true rfl, Nat.le_of_ble_eq_true rfl⟩) rfl rfl rfl rfl hl.1 rfl (lv_room (Nat.le_of_ble_eq_true rfl)) ⟨Nat.zero_le _, Nat.zero_le _⟩ dX9_pressesOf_53 ?_
      refine lv_iload hx hb dX9_pressesOf_56 (lv_at hl 0 rfl) ?_
      obtain ⟨x9, hx9, hf⟩ := g_bnd hf
      refine g_rs (As := [.int x7]) (rest := [.int x8, .int v2.1]) F hK hX hP [] rfl (c_X9_firstOf h x7 hx9) (kX9_36 F.2.2.2.2 ⟨Nat.le_of_ble_eq_true rfl, Nat.le_of_ble_eq_true rfl⟩) rfl hl.1 rfl (lv_room (Nat.le_of_ble_eq_true rfl)) ⟨Nat.zero_le _, Nat.zero_le _⟩ dX9_pressesOf_58 ?_
      refine lv_isub hx hb dX9_pressesOf_61 ?_
      refine lv_iconst (v := 1) hx hb dX9_pressesOf_62 (by decide) ?_
      refine lv_iadd hx hb dX9_pressesOf_63 ?_
      refine lv_iload hx hb dX9_pressesOf_64 (lv_at hl 0 rfl) ?_
      refine lv_iload hx hb dX9_pressesOf_66 (lv_at hl 4 rfl) ?_
      obtain ⟨j10, hf, hfj10⟩ := g_bnd hf
      have hJj10 : ∀ ls : Array Slot, lv_has ls 7 [(0, .ref (h b0)), (1, .int a1), (5, .int v2.2.2), (6, .int x7)] → W p l e rX9_pressesOf s m args below meth c s.heap [] 0 0 Q (F0 m 76 ls [.int j10, .int ((x8 - x9) + 1), .int v2.1]) := by
        intro ls hl
        have hf := hfj10
        refine lv_iadd hx hb dX9_pressesOf_76 ?_
        refine lv_iadd hx hb dX9_pressesOf_77 ?_
        refine lv_istore_n (lv' := [(3, .int (v2.1 + (((x8 - x9) + 1) + j10))), (0, .ref (h b0)), (1, .int a1), (5, .int v2.2.2), (6, .int x7)]) hx hb dX9_pressesOf_78 rfl hl (by decide) rfl (fun ls hl => ?_)
        refine lv_iload hx hb dX9_pressesOf_79 (lv_at hl 4 rfl) ?_
        refine lv_istore (lv' := [(4, .int x7), (3, .int (v2.1 + (((x8 - x9) + 1) + j10))), (0, .ref (h b0)), (1, .int a1), (5, .int v2.2.2), (6, .int x7)]) hx hb dX9_pressesOf_81 hl (by decide) rfl (fun ls hl => ?_)
        refine lv_iinc (v := (v2.2.2 + 1)) (lv' := [(5, .int (v2.2.2 + 1)), (4, .int x7), (3, .int (v2.1 + (((x8 - x9) + 1) + j10))), (0, .ref (h b0)), (1, .int a1), (6, .int x7)]) hx hb dX9_pressesOf_83 hl (k := 4) rfl rfl (by decide) rfl (fun ls hl => ?_)
        refine lv_goto (tgt := 25) hx hb dX9_pressesOf_86 (by decide) ?_
        exact hbackv2 _ (Option.some.inj hf).symm ls (lv_sub hl [3, 4, 2, 1, 0] rfl)
      refine lv_icmp_ne (tgt := 75) hx hb dX9_pressesOf_68 (by decide) (fun c11 => ?_) (fun c11 => ?_)
      · have hf := g_if c11 hf
        refine lv_iconst (v := 0) hx hb dX9_pressesOf_75 (by decide) ?_
        obtain rfl := Option.some.inj hf
        exact hJj10 ls (lv_sub hl [1, 2, 5, 0] rfl)
      · have hf := g_it c11 hf
        refine lv_iconst (v := 1) hx hb dX9_pressesOf_71 (by decide) ?_
        refine lv_goto (tgt := 76) hx hb dX9_pressesOf_72 (by decide) ?_
        obtain rfl := Option.some.inj hf
        exact hJj10 ls (lv_sub hl [1, 2, 5, 0] rfl)
  · have hf := g_it c1 hf
    refine lv_aload_n hx hb dX9_pressesOf_4 rfl (lv_at hl 0 rfl) ?_
    refine lv_iload_n hx hb dX9_pressesOf_5 rfl (lv_at hl 1 rfl) ?_
    refine lv_iconst (v := 0) hx hb dX9_pressesOf_6 (by decide) ?_
    obtain ⟨x12, hx12, hf⟩ := g_bnd hf
    refine g_rv (As := [.int a1, .int 0]) (rest := []) F hK hX hP [0] rfl (c_X9_of h b0 w0 a1 0 hx12) (kX9_50 F.2.2.2.2 ⟨Nat.le_of_ble_eq_true rfl, Nat.le_of_ble_eq_true rfl⟩) rfl rfl rfl rfl hl.1 rfl (lv_room (Nat.le_of_ble_eq_true rfl)) ⟨Nat.zero_le _, Nat.zero_le _⟩ dX9_pressesOf_7 ?_
    refine lv_aload_n hx hb dX9_pressesOf_10 rfl (lv_at hl 0 rfl) ?_
    refine lv_iload_n hx hb dX9_pressesOf_11 rfl (lv_at hl 1 rfl) ?_
    obtain ⟨x13, hx13, hf⟩ := g_bnd hf
    refine g_rv (As := [.int a1]) (rest := [.int x12]) F hK hX hP [0] rfl (c_X9_stepsOf h b0 w0 a1 hx13) (kX9_145 F.2.2.2.2 ⟨Nat.le_of_ble_eq_true rfl, Nat.le_of_ble_eq_true rfl⟩) rfl rfl rfl rfl hl.1 rfl (lv_room (Nat.le_of_ble_eq_true rfl)) ⟨Nat.zero_le _, Nat.zero_le _⟩ dX9_pressesOf_12 ?_
    refine lv_iadd hx hb dX9_pressesOf_15 ?_
    have ho := Option.some.inj hf
    rw [← hQ, ← ho]
    exact g_retI F hr hlk dX9_pressesOf_16
set_option maxHeartbeats 4000000 in
set_option maxRecDepth 100000 in
theorem c_X9_presses {l : Launch} {E : gEnv} (h : Nat → Nat) (b0 : Nat) (w0 : T9) (a1 : Int32) (a2 : Int32) {o : Int32 × T9} (hf : f_X9_presses w0 a1 a2 = some o) : gM l yX9_presses cX9_presses 3 (some .int) rX9_presses E [.ref (h b0), .int a1, .int a2] [C9 E h b0 w0] (some (.int o.1)) [C9 E h b0 o.2] := by
  refine gM.of (by decide +kernel) (Nat.le_of_ble_eq_true rfl) rfl ?_
  intro p e s m below meth c F hr hlk hK hX hAB ls hl H locs hG
  have F : gF p m c cX9_presses 3 s ([.ref (h b0), .int a1, .int a2] : List Value).toArray RX9 := F
  generalize ([.ref (h b0), .int a1, .int a2] : List Value).toArray = args at F ⊢
  generalize hQ : MQ below _ _ _ _ _ _ = Q
  generalize hA : gAd [C9 E h b0 w0] = A at hAB hG
  have hl : lv_has ls 3 [(0, .ref (h b0)), (1, .int a1), (2, .int a2)] := hl
  have hx := F.1
  have hb := F.2.1
  unfold f_X9_presses at hf
  refine lv_aload_n hx hb dX9_presses_0 rfl (lv_at hl 0 rfl) ?_
  refine lv_aload_n hx hb dX9_presses_1 rfl (lv_at hl 0 rfl) ?_
  refine lv_iload_n hx hb dX9_presses_2 rfl (lv_at hl 1 rfl) ?_
  obtain ⟨x1, hx1, hf⟩ := g_bnd hf
  refine g_rv (As := [.int a1]) (rest := [.ref (h b0)]) F hK (hG.X hX hAB) hG.1 [0] rfl (c_X9_isWord h b0 w0 a1 hx1) (kX9_66 F.2.2.2.2 ⟨Nat.le_of_ble_eq_true rfl, Nat.le_of_ble_eq_true rfl⟩) rfl rfl rfl rfl hl.1 rfl (lv_room (Nat.le_of_ble_eq_true rfl)) ⟨Nat.zero_le _, Nat.zero_le _⟩ dX9_presses_3 ?_
  refine lv_iconst (v := 1) hx hb dX9_presses_6 (by decide) ?_
  obtain ⟨x2, hx2, hf⟩ := g_bnd hf
  refine g_mv (S' := [C9 E h b0 x2.2]) (As := [.int x1, .int 1]) (rest := []) F hK hX hAB hG [0] rfl rfl (c_X9_goes h b0 w0 x1 1 hx2) rfl (kX9_72 F.2.2.2.2 ⟨Nat.le_of_ble_eq_true rfl, Nat.le_of_ble_eq_true rfl⟩) rfl rfl rfl rfl hl.1 rfl (lv_room (Nat.le_of_ble_eq_true rfl)) ⟨Nat.zero_le _, Nat.zero_le _⟩ dX9_presses_7 (fun H locs hG => ?_)
  refine lv_if_eq (tgt := 22) hx hb dX9_presses_10 (by decide) (fun c3 => ?_) (fun c3 => ?_)
  · have hf := g_it c3 hf
    refine lv_iconst (v := 0) hx hb dX9_presses_22 (by decide) ?_
    have ho := Option.some.inj hf
    subst hA
    rw [← hQ, ← ho]
    exact g_mretI F hr hlk hG dX9_presses_23
  · have hf := g_if c3 hf
    refine lv_aload_n hx hb dX9_presses_13 rfl (lv_at hl 0 rfl) ?_
    refine lv_iload_n hx hb dX9_presses_14 rfl (lv_at hl 1 rfl) ?_
    refine lv_iload_n hx hb dX9_presses_15 rfl (lv_at hl 2 rfl) ?_
    obtain ⟨x4, hx4, hf⟩ := g_bnd hf
    refine g_rv (As := [.int a1, .int a2]) (rest := []) F hK (hG.X hX hAB) hG.1 [0] rfl (c_X9_pressesOf h b0 x2.2 a1 a2 hx4) (kX9_148 F.2.2.2.2 ⟨Nat.le_of_ble_eq_true rfl, Nat.le_of_ble_eq_true rfl⟩) rfl rfl rfl rfl hl.1 rfl (lv_room (Nat.le_of_ble_eq_true rfl)) ⟨Nat.zero_le _, Nat.zero_le _⟩ dX9_presses_16 ?_
    refine lv_goto (tgt := 23) hx hb dX9_presses_19 (by decide) ?_
    have ho := Option.some.inj hf
    subst hA
    rw [← hQ, ← ho]
    exact g_mretI F hr hlk hG dX9_presses_23
set_option maxHeartbeats 4000000 in
set_option maxRecDepth 100000 in
theorem c_X9_clashing {l : Launch} {E : gEnv} (h : Nat → Nat) (b0 : Nat) (w0 : T9) {o : Int32 × T9} (hf : f_X9_clashing w0 = some o) : gM l yX9_clashing cX9_clashing 5 (some .int) rX9_clashing E [.ref (h b0)] [C9 E h b0 w0] (some (.int o.1)) [C9 E h b0 o.2] := by
  refine gM.of (by decide +kernel) (Nat.le_of_ble_eq_true rfl) rfl ?_
  intro p e s m below meth c F hr hlk hK hX hAB ls hl H locs hG
  have F : gF p m c cX9_clashing 5 s ([.ref (h b0)] : List Value).toArray RX9 := F
  generalize ([.ref (h b0)] : List Value).toArray = args at F ⊢
  generalize hQ : MQ below _ _ _ _ _ _ = Q
  generalize hA : gAd [C9 E h b0 w0] = A at hAB hG
  have hl : lv_has ls 5 [(0, .ref (h b0))] := hl
  have hx := F.1
  have hb := F.2.1
  unfold f_X9_clashing at hf
  refine lv_aload_n hx hb dX9_clashing_0 rfl (lv_at hl 0 rfl) ?_
  refine lv_iconst (v := 0) hx hb dX9_clashing_1 (by decide) ?_
  refine g_put F hK hG 0 0 4 pfX9_25 rfl rfl (Nat.le_of_ble_eq_true rfl) rfl rfl dX9_clashing_2 (fun H locs hG => ?_)
  have hG : gS E A s.heap [C9 E h b0 (w0.1, w0.2.1, w0.2.2.1, w0.2.2.2.1, 0, w0.2.2.2.2.2.1, w0.2.2.2.2.2.2.1, w0.2.2.2.2.2.2.2.1, w0.2.2.2.2.2.2.2.2.1, w0.2.2.2.2.2.2.2.2.2)] H locs := hG
  refine lv_iconst (v := 0) hx hb dX9_clashing_5 (by decide) ?_
  refine lv_istore_n (lv' := [(1, .int 0), (0, .ref (h b0))]) hx hb dX9_clashing_6 rfl hl (by decide) rfl (fun ls hl => ?_)
  refine lv_iconst (v := 0) hx hb dX9_clashing_7 (by decide) ?_
  refine lv_istore_n (lv' := [(2, .int 0), (1, .int 0), (0, .ref (h b0))]) hx hb dX9_clashing_8 rfl hl (by decide) rfl (fun ls hl => ?_)
  refine lp_rule (fun (v1 : Int32 × Int32) => ∀ (H : Heap) (locs : List Loc), gS E A s.heap [C9 E h b0 (w0.1, w0.2.1, w0.2.2.1, w0.2.2.2.1, 0, w0.2.2.2.2.2.1, w0.2.2.2.2.2.2.1, w0.2.2.2.2.2.2.2.1, w0.2.2.2.2.2.2.2.2.1, w0.2.2.2.2.2.2.2.2.2)] H locs → ∀ ls : Array Slot, lv_has ls 5 [(0, .ref (h b0)), (1, .int v1.1), (2, .int v1.2)] → W p l e rX9_clashing s m args below meth c H locs 0 0 Q (F0 m 9 ls [])) ?_ _ _ hf _ _ hG ls (lv_sub hl [2, 1, 0] rfl)
  intro v1 y hf hbackv1 hexitv1 H locs hG ls hl
  refine lv_iload_n hx hb dX9_clashing_9 rfl (lv_at hl 2 rfl) ?_
  refine lv_aload_n hx hb dX9_clashing_10 rfl (lv_at hl 0 rfl) ?_
  refine g_get F hK hG.1 0 0 0 flX9_7 rfl rfl rfl dX9_clashing_11 ?_
  refine lv_iconst (v := 0) hx hb dX9_clashing_14 (by decide) ?_
  obtain ⟨x3, hx3, hf⟩ := g_bnd hf
  refine g_iald F hK hG.1 0 1 rfl rfl hx3 dX9_clashing_15 ?_
  refine lv_icmp_ge (tgt := 85) hx hb dX9_clashing_16 (by decide) (fun c4 => ?_) (fun c4 => ?_)
  · have hf := g_it c4 hf
    refine lv_iload_n hx hb dX9_clashing_85 rfl (lv_at hl 1 rfl) ?_
    have ho := hexitv1 _ (Option.some.inj hf).symm
    subst hA
    rw [← hQ, ← ho]
    exact g_mretI F hr hlk hG dX9_clashing_86
  · have hf := g_if c4 hf
    refine lv_iconst (v := 0) hx hb dX9_clashing_19 (by decide) ?_
    refine lv_istore_n (lv' := [(3, .int 0), (0, .ref (h b0)), (1, .int v1.1), (2, .int v1.2)]) hx hb dX9_clashing_20 rfl hl (by decide) rfl (fun ls hl => ?_)
    refine lv_iconst (v := 0) hx hb dX9_clashing_21 (by decide) ?_
    refine lv_istore (lv' := [(4, .int 0), (3, .int 0), (0, .ref (h b0)), (1, .int v1.1), (2, .int v1.2)]) hx hb dX9_clashing_22 hl (by decide) rfl (fun ls hl => ?_)
    obtain ⟨x6, hx6, hfx6⟩ := g_bnd hf
    have hEx6 : ∀ (H : Heap) (locs : List Loc), gS E A s.heap [C9 E h b0 (w0.1, w0.2.1, w0.2.2.1, w0.2.2.2.1, 0, w0.2.2.2.2.2.1, w0.2.2.2.2.2.2.1, w0.2.2.2.2.2.2.2.1, w0.2.2.2.2.2.2.2.2.1, w0.2.2.2.2.2.2.2.2.2)] H locs → ∀ ls : Array Slot, lv_has ls 5 [(0, .ref (h b0)), (1, .int v1.1), (2, .int v1.2), (3, .int x6)] → W p l e rX9_clashing s m args below meth c H locs 0 0 Q (F0 m 67 ls []) := by
      intro H locs hG ls hl
      have hf := hfx6
      refine lv_iload_n hx hb dX9_clashing_67 rfl (lv_at hl 1 rfl) ?_
      refine lv_iload_n hx hb dX9_clashing_68 rfl (lv_at hl 3 rfl) ?_
      obtain ⟨j14, hf, hfj14⟩ := g_bnd hf
      have hJj14 : ∀ (H : Heap) (locs : List Loc), gS E A s.heap [C9 E h b0 (w0.1, w0.2.1, w0.2.2.1, w0.2.2.2.1, 0, w0.2.2.2.2.2.1, w0.2.2.2.2.2.2.1, w0.2.2.2.2.2.2.2.1, w0.2.2.2.2.2.2.2.2.1, w0.2.2.2.2.2.2.2.2.2)] H locs → ∀ ls : Array Slot, lv_has ls 5 [(0, .ref (h b0)), (2, .int v1.2)] → W p l e rX9_clashing s m args below meth c H locs 0 0 Q (F0 m 77 ls [.int j14, .int v1.1]) := by
        intro H locs hG ls hl
        have hf := hfj14
        refine lv_iadd hx hb dX9_clashing_77 ?_
        refine lv_istore_n (lv' := [(1, .int (v1.1 + j14)), (0, .ref (h b0)), (2, .int v1.2)]) hx hb dX9_clashing_78 rfl hl (by decide) rfl (fun ls hl => ?_)
        refine lv_iinc (v := (v1.2 + 1)) (lv' := [(2, .int (v1.2 + 1)), (1, .int (v1.1 + j14)), (0, .ref (h b0))]) hx hb dX9_clashing_79 hl (k := 2) rfl rfl (by decide) rfl (fun ls hl => ?_)
        refine lv_goto (tgt := 9) hx hb dX9_clashing_82 (by decide) ?_
        exact hbackv1 _ (Option.some.inj hf).symm _ _ hG ls (lv_sub hl [2, 1, 0] rfl)
      refine lv_if_eq (tgt := 76) hx hb dX9_clashing_69 (by decide) (fun c15 => ?_) (fun c15 => ?_)
      · have hf := g_it c15 hf
        refine lv_iconst (v := 0) hx hb dX9_clashing_76 (by decide) ?_
        obtain rfl := Option.some.inj hf
        exact hJj14 _ _ hG ls (lv_sub hl [0, 2] rfl)
      · have hf := g_if c15 hf
        refine lv_iconst (v := 1) hx hb dX9_clashing_72 (by decide) ?_
        refine lv_goto (tgt := 77) hx hb dX9_clashing_73 (by decide) ?_
        obtain rfl := Option.some.inj hf
        exact hJj14 _ _ hG ls (lv_sub hl [0, 2] rfl)
    refine lp_rule (fun (v5 : Int32 × Int32) => ∀ (H : Heap) (locs : List Loc), gS E A s.heap [C9 E h b0 (w0.1, w0.2.1, w0.2.2.1, w0.2.2.2.1, 0, w0.2.2.2.2.2.1, w0.2.2.2.2.2.2.1, w0.2.2.2.2.2.2.2.1, w0.2.2.2.2.2.2.2.2.1, w0.2.2.2.2.2.2.2.2.2)] H locs → ∀ ls : Array Slot, lv_has ls 5 [(0, .ref (h b0)), (1, .int v1.1), (2, .int v1.2), (3, .int v5.1), (4, .int v5.2)] → W p l e rX9_clashing s m args below meth c H locs 0 0 Q (F0 m 24 ls [])) ?_ _ _ hx6 _ _ hG ls (lv_sub hl [2, 3, 4, 1, 0] rfl)
    intro v5 y hf hbackv5 hexitv5 H locs hG ls hl
    refine lv_iload hx hb dX9_clashing_24 (lv_at hl 4 rfl) ?_
    refine lv_aload_n hx hb dX9_clashing_26 rfl (lv_at hl 0 rfl) ?_
    refine g_get F hK hG.1 0 0 0 flX9_7 rfl rfl rfl dX9_clashing_27 ?_
    refine lv_iconst (v := 0) hx hb dX9_clashing_30 (by decide) ?_
    obtain ⟨x7, hx7, hf⟩ := g_bnd hf
    refine g_iald F hK hG.1 0 1 rfl rfl hx7 dX9_clashing_31 ?_
    refine lv_icmp_ge (tgt := 67) hx hb dX9_clashing_32 (by decide) (fun c8 => ?_) (fun c8 => ?_)
    · have hf := g_it c8 hf
      obtain rfl := hexitv5 _ (Option.some.inj hf).symm
      exact hEx6 _ _ hG ls (lv_sub hl [0, 1, 2, 3] rfl)
    · have hf := g_if c8 hf
      refine lv_iload_n hx hb dX9_clashing_35 rfl (lv_at hl 3 rfl) ?_
      obtain ⟨j9, hf, hfj9⟩ := g_bnd hf
      have hJj9 : ∀ (H : Heap) (locs : List Loc), gS E A s.heap [C9 E h b0 (w0.1, w0.2.1, w0.2.2.1, w0.2.2.2.1, 0, w0.2.2.2.2.2.1, w0.2.2.2.2.2.2.1, w0.2.2.2.2.2.2.2.1, w0.2.2.2.2.2.2.2.2.1, w0.2.2.2.2.2.2.2.2.2)] H locs → ∀ ls : Array Slot, lv_has ls 5 [(0, .ref (h b0)), (1, .int v1.1), (2, .int v1.2), (4, .int v5.2)] → W p l e rX9_clashing s m args below meth c H locs 0 0 Q (F0 m 60 ls [.int j9]) := by
        intro H locs hG ls hl
        have hf := hfj9
        refine lv_istore_n (lv' := [(3, .int j9), (0, .ref (h b0)), (1, .int v1.1), (2, .int v1.2), (4, .int v5.2)]) hx hb dX9_clashing_60 rfl hl (by decide) rfl (fun ls hl => ?_)
        refine lv_iinc (v := (v5.2 + 1)) (lv' := [(4, .int (v5.2 + 1)), (3, .int j9), (0, .ref (h b0)), (1, .int v1.1), (2, .int v1.2)]) hx hb dX9_clashing_61 hl (k := 4) rfl rfl (by decide) rfl (fun ls hl => ?_)
        refine lv_goto (tgt := 24) hx hb dX9_clashing_64 (by decide) ?_
        exact hbackv5 _ (Option.some.inj hf).symm _ _ hG ls (lv_sub hl [2, 3, 4, 1, 0] rfl)
      refine lv_if_ne (tgt := 55) hx hb dX9_clashing_36 (by decide) (fun c10 => ?_) (fun c10 => ?_)
      · have hf := g_if c10 hf
        refine lv_iconst (v := 1) hx hb dX9_clashing_55 (by decide) ?_
        refine lv_goto (tgt := 60) hx hb dX9_clashing_56 (by decide) ?_
        obtain rfl := Option.some.inj hf
        exact hJj9 _ _ hG ls (lv_sub hl [0, 1, 2, 4] rfl)
      · have hf := g_it c10 hf
        refine lv_iload hx hb dX9_clashing_39 (lv_at hl 4 rfl) ?_
        refine lv_iload_n hx hb dX9_clashing_41 rfl (lv_at hl 2 rfl) ?_
        refine lv_icmp_eq (tgt := 59) hx hb dX9_clashing_42 (by decide) (fun c11 => ?_) (fun c11 => ?_)
        · have hf := g_it c11 hf
          refine lv_iconst (v := 0) hx hb dX9_clashing_59 (by decide) ?_
          obtain rfl := Option.some.inj hf
          exact hJj9 _ _ hG ls (lv_sub hl [0, 1, 2, 4] rfl)
        · have hf := g_if c11 hf
          refine lv_aload_n hx hb dX9_clashing_45 rfl (lv_at hl 0 rfl) ?_
          refine lv_iload hx hb dX9_clashing_46 (lv_at hl 4 rfl) ?_
          refine lv_iload_n hx hb dX9_clashing_48 rfl (lv_at hl 2 rfl) ?_
          obtain ⟨x12, hx12, hf⟩ := g_bnd hf
          refine g_rv (As := [.int v5.2, .int v1.2]) (rest := []) F hK (hG.X hX hAB) hG.1 [0] rfl (c_X9_haveKeys h b0 (w0.1, w0.2.1, w0.2.2.1, w0.2.2.2.1, 0, w0.2.2.2.2.2.1, w0.2.2.2.2.2.2.1, w0.2.2.2.2.2.2.2.1, w0.2.2.2.2.2.2.2.2.1, w0.2.2.2.2.2.2.2.2.2) v5.2 v1.2 hx12) (kX9_142 F.2.2.2.2 ⟨Nat.le_of_ble_eq_true rfl, Nat.le_of_ble_eq_true rfl⟩) rfl rfl rfl rfl hl.1 rfl (lv_room (Nat.le_of_ble_eq_true rfl)) ⟨Nat.zero_le _, Nat.zero_le _⟩ dX9_clashing_49 ?_
          refine lv_if_eq (tgt := 59) hx hb dX9_clashing_52 (by decide) (fun c13 => ?_) (fun c13 => ?_)
          · have hf := g_it c13 hf
            refine lv_iconst (v := 0) hx hb dX9_clashing_59 (by decide) ?_
            obtain rfl := Option.some.inj hf
            exact hJj9 _ _ hG ls (lv_sub hl [0, 1, 2, 4] rfl)
          · have hf := g_if c13 hf
            refine lv_iconst (v := 1) hx hb dX9_clashing_55 (by decide) ?_
            refine lv_goto (tgt := 60) hx hb dX9_clashing_56 (by decide) ?_
            obtain rfl := Option.some.inj hf
            exact hJj9 _ _ hG ls (lv_sub hl [0, 1, 2, 4] rfl)
set_option maxHeartbeats 4000000 in
set_option maxRecDepth 100000 in
theorem c_X9_saving {l : Launch} {E : gEnv} (h : Nat → Nat) (b0 : Nat) (w0 : T9) {o : UInt64 × T9} (hf : f_X9_saving w0 = some o) : gM l yX9_saving cX9_saving 5 (some .double) rX9_saving E [.ref (h b0)] [C9 E h b0 w0] (some (.double o.1)) [C9 E h b0 o.2] := by
  refine gM.of (by decide +kernel) (Nat.le_of_ble_eq_true rfl) rfl ?_
  intro p e s m below meth c F hr hlk hK hX hAB ls hl H locs hG
  have F : gF p m c cX9_saving 5 s ([.ref (h b0)] : List Value).toArray RX9 := F
  generalize ([.ref (h b0)] : List Value).toArray = args at F ⊢
  generalize hQ : MQ below _ _ _ _ _ _ = Q
  generalize hA : gAd [C9 E h b0 w0] = A at hAB hG
  have hl : lv_has ls 5 [(0, .ref (h b0))] := hl
  have hx := F.1
  have hb := F.2.1
  unfold f_X9_saving at hf
  refine lv_aload_n hx hb dX9_saving_0 rfl (lv_at hl 0 rfl) ?_
  refine lv_iconst (v := 0) hx hb dX9_saving_1 (by decide) ?_
  refine g_put F hK hG 0 0 4 pfX9_25 rfl rfl (Nat.le_of_ble_eq_true rfl) rfl rfl dX9_saving_2 (fun H locs hG => ?_)
  have hG : gS E A s.heap [C9 E h b0 (w0.1, w0.2.1, w0.2.2.1, w0.2.2.2.1, 0, w0.2.2.2.2.2.1, w0.2.2.2.2.2.2.1, w0.2.2.2.2.2.2.2.1, w0.2.2.2.2.2.2.2.2.1, w0.2.2.2.2.2.2.2.2.2)] H locs := hG
  refine lv_iconst (v := 0) hx hb dX9_saving_5 (by decide) ?_
  refine lv_istore_n (lv' := [(1, .int 0), (0, .ref (h b0))]) hx hb dX9_saving_6 rfl hl (by decide) rfl (fun ls hl => ?_)
  refine lv_iconst (v := 0) hx hb dX9_saving_7 (by decide) ?_
  refine lv_istore_n (lv' := [(2, .int 0), (1, .int 0), (0, .ref (h b0))]) hx hb dX9_saving_8 rfl hl (by decide) rfl (fun ls hl => ?_)
  refine lv_iconst (v := 0) hx hb dX9_saving_9 (by decide) ?_
  refine lv_istore_n (lv' := [(3, .int 0), (2, .int 0), (1, .int 0), (0, .ref (h b0))]) hx hb dX9_saving_10 rfl hl (by decide) rfl (fun ls hl => ?_)
  obtain ⟨x2, hx2, hfx2⟩ := g_bnd hf
  have hEx2 : ∀ (H : Heap) (locs : List Loc), gS E A s.heap [C9 E h b0 (w0.1, w0.2.1, w0.2.2.1, w0.2.2.2.1, 0, w0.2.2.2.2.2.1, w0.2.2.2.2.2.2.1, w0.2.2.2.2.2.2.2.1, w0.2.2.2.2.2.2.2.2.1, w0.2.2.2.2.2.2.2.2.2)] H locs → ∀ ls : Array Slot, lv_has ls 5 [(1, .int x2.1), (2, .int x2.2)] → W p l e rX9_saving s m args below meth c H locs 0 0 Q (F0 m 66 ls []) := by
    intro H locs hG ls hl
    have hf := hfx2
    refine lv_iload_n hx hb dX9_saving_66 rfl (lv_at hl 1 rfl) ?_
    refine lv_if_ne (tgt := 74) hx hb dX9_saving_67 (by decide) (fun c9 => ?_) (fun c9 => ?_)
    · have hf := g_if c9 hf
      refine lv_iload_n hx hb dX9_saving_74 rfl (lv_at hl 0 rfl) ?_
      refine lv_i2d hx hb dX9_saving_75 ?_
      refine lv_iload_n hx hb dX9_saving_76 rfl (lv_at hl 1 rfl) ?_
      refine lv_i2d hx hb dX9_saving_77 ?_
      obtain ⟨u10, hu10, hf⟩ := g_bnd hf
      refine lv_ddiv hx hb dX9_saving_78 (nn_ok hu10) ?_
      have ho := Option.some.inj hf
      subst hA
      rw [← hQ, ← ho]
      exact g_mretD F hr hlk hG dX9_saving_79
    · have hf := g_it c9 hf
      refine lv_dconst0 hx hb dX9_saving_70 ?_
      refine lv_goto (tgt := 79) hx hb dX9_saving_71 (by decide) ?_
      have ho := Option.some.inj hf
      subst hA
      rw [← hQ, ← ho]
      exact g_mretD F hr hlk hG dX9_saving_79
  refine lp_rule (fun (v1 : Int32 × Int32 × Int32) => ∀ (H : Heap) (locs : List Loc), gS E A s.heap [C9 E h b0 (w0.1, w0.2.1, w0.2.2.1, w0.2.2.2.1, 0, w0.2.2.2.2.2.1, w0.2.2.2.2.2.2.1, w0.2.2.2.2.2.2.2.1, w0.2.2.2.2.2.2.2.2.1, w0.2.2.2.2.2.2.2.2.2)] H locs → ∀ ls : Array Slot, lv_has ls 5 [(0, .ref (h b0)), (1, .int v1.1), (2, .int v1.2.1), (3, .int v1.2.2)] → W p l e rX9_saving s m args below meth c H locs 0 0 Q (F0 m 11 ls [])) ?_ _ _ hx2 _ _ hG ls (lv_sub hl [3, 2, 1, 0] rfl)
  intro v1 y hf hbackv1 hexitv1 H locs hG ls hl
  refine lv_iload_n hx hb dX9_saving_11 rfl (lv_at hl 3 rfl) ?_
  refine lv_aload_n hx hb dX9_saving_12 rfl (lv_at hl 0 rfl) ?_
  refine g_get F hK hG.1 0 0 0 flX9_7 rfl rfl rfl dX9_saving_13 ?_
  refine lv_iconst (v := 0) hx hb dX9_saving_16 (by decide) ?_
  obtain ⟨x3, hx3, hf⟩ := g_bnd hf
  refine g_iald F hK hG.1 0 1 rfl rfl hx3 dX9_saving_17 ?_
  refine lv_icmp_ge (tgt := 66) hx hb dX9_saving_18 (by decide) (fun c4 => ?_) (fun c4 => ?_)
  · have hf := g_it c4 hf
    obtain rfl := hexitv1 _ (Option.some.inj hf).symm
    exact hEx2 _ _ hG ls (lv_sub hl [1, 2] rfl)
  · have hf := g_if c4 hf
    refine lv_aload_n hx hb dX9_saving_21 rfl (lv_at hl 0 rfl) ?_
    refine lv_iload_n hx hb dX9_saving_22 rfl (lv_at hl 3 rfl) ?_
    refine lv_iconst (v := 1) hx hb dX9_saving_23 (by decide) ?_
    obtain ⟨x5, hx5, hf⟩ := g_bnd hf
    refine g_rv (As := [.int v1.2.2, .int 1]) (rest := []) F hK (hG.X hX hAB) hG.1 [0] rfl (c_X9_pressesOf h b0 (w0.1, w0.2.1, w0.2.2.1, w0.2.2.2.1, 0, w0.2.2.2.2.2.1, w0.2.2.2.2.2.2.1, w0.2.2.2.2.2.2.2.1, w0.2.2.2.2.2.2.2.2.1, w0.2.2.2.2.2.2.2.2.2) v1.2.2 1 hx5) (kX9_148 F.2.2.2.2 ⟨Nat.le_of_ble_eq_true rfl, Nat.le_of_ble_eq_true rfl⟩) rfl rfl rfl rfl hl.1 rfl (lv_room (Nat.le_of_ble_eq_true rfl)) ⟨Nat.zero_le _, Nat.zero_le _⟩ dX9_saving_24 ?_
    refine lv_istore (lv' := [(4, .int x5), (0, .ref (h b0)), (1, .int v1.1), (2, .int v1.2.1), (3, .int v1.2.2)]) hx hb dX9_saving_27 hl (by decide) rfl (fun ls hl => ?_)
    refine lv_iload_n hx hb dX9_saving_29 rfl (lv_at hl 2 rfl) ?_
    refine lv_aload_n hx hb dX9_saving_30 rfl (lv_at hl 1 rfl) ?_
    refine lv_iload_n hx hb dX9_saving_31 rfl (lv_at hl 4 rfl) ?_
    refine lv_iconst (v := 1) hx hb dX9_saving_32 (by decide) ?_
    obtain ⟨x6, hx6, hf⟩ := g_bnd hf
    refine g_rv (As := [.int v1.2.2, .int 1]) (rest := [.int v1.1]) F hK (hG.X hX hAB) hG.1 [0] rfl (c_X9_of h b0 (w0.1, w0.2.1, w0.2.2.1, w0.2.2.2.1, 0, w0.2.2.2.2.2.1, w0.2.2.2.2.2.2.1, w0.2.2.2.2.2.2.2.1, w0.2.2.2.2.2.2.2.2.1, w0.2.2.2.2.2.2.2.2.2) v1.2.2 1 hx6) (kX9_50 F.2.2.2.2 ⟨Nat.le_of_ble_eq_true rfl, Nat.le_of_ble_eq_true rfl⟩) rfl rfl rfl rfl hl.1 rfl (lv_room (Nat.le_of_ble_eq_true rfl)) ⟨Nat.zero_le _, Nat.zero_le _⟩ dX9_saving_33 ?_
    refine lv_iload hx hb dX9_saving_36 (lv_at hl 0 rfl) ?_
    refine lv_aload_n hx hb dX9_saving_38 rfl (lv_at hl 1 rfl) ?_
    refine lv_iload_n hx hb dX9_saving_39 rfl (lv_at hl 4 rfl) ?_
    refine lv_iconst (v := 0) hx hb dX9_saving_40 (by decide) ?_
    obtain ⟨x7, hx7, hf⟩ := g_bnd hf
    refine g_rv (As := [.int v1.2.2, .int 0]) (rest := [.int x5, .int x6, .int v1.1]) F hK (hG.X hX hAB) hG.1 [0] rfl (c_X9_pressesOf h b0 (w0.1, w0.2.1, w0.2.2.1, w0.2.2.2.1, 0, w0.2.2.2.2.2.1, w0.2.2.2.2.2.2.1, w0.2.2.2.2.2.2.2.1, w0.2.2.2.2.2.2.2.2.1, w0.2.2.2.2.2.2.2.2.2) v1.2.2 0 hx7) (kX9_148 F.2.2.2.2 ⟨Nat.le_of_ble_eq_true rfl, Nat.le_of_ble_eq_true rfl⟩) rfl rfl rfl rfl hl.1 rfl (lv_room (Nat.le_of_ble_eq_true rfl)) ⟨Nat.zero_le _, Nat.zero_le _⟩ dX9_saving_41 ?_
    refine lv_isub hx hb dX9_saving_44 ?_
    refine lv_imul hx hb dX9_saving_45 ?_
    refine lv_iadd hx hb dX9_saving_46 ?_
    refine lv_istore_n (lv' := [(1, .int (v1.1 + (x6 * (x5 - x7)))), (4, .int x5), (0, .ref (h b0)), (2, .int v1.2.1), (3, .int v1.2.2)]) hx hb dX9_saving_47 rfl hl (by decide) rfl (fun ls hl => ?_)
    refine lv_iload_n hx hb dX9_saving_48 rfl (lv_at hl 3 rfl) ?_
    refine lv_aload_n hx hb dX9_saving_49 rfl (lv_at hl 2 rfl) ?_
    refine lv_iload_n hx hb dX9_saving_50 rfl (lv_at hl 4 rfl) ?_
    refine lv_iconst (v := 1) hx hb dX9_saving_51 (by decide) ?_
    obtain ⟨x8, hx8, hf⟩ := g_bnd hf
    refine g_rv (As := [.int v1.2.2, .int 1]) (rest := [.int v1.2.1]) F hK (hG.X hX hAB) hG.1 [0] rfl (c_X9_of h b0 (w0.1, w0.2.1, w0.2.2.1, w0.2.2.2.1, 0, w0.2.2.2.2.2.1, w0.2.2.2.2.2.2.1, w0.2.2.2.2.2.2.2.1, w0.2.2.2.2.2.2.2.2.1, w0.2.2.2.2.2.2.2.2.2) v1.2.2 1 hx8) (kX9_50 F.2.2.2.2 ⟨Nat.le_of_ble_eq_true rfl, Nat.le_of_ble_eq_true rfl⟩) rfl rfl rfl rfl hl.1 rfl (lv_room (Nat.le_of_ble_eq_true rfl)) ⟨Nat.zero_le _, Nat.zero_le _⟩ dX9_saving_52 ?_
    refine lv_iload hx hb dX9_saving_55 (lv_at hl 1 rfl) ?_
    refine lv_imul hx hb dX9_saving_57 ?_
    refine lv_iadd hx hb dX9_saving_58 ?_
    refine lv_istore_n (lv' := [(2, .int (v1.2.1 + (x8 * x5))), (1, .int (v1.1 + (x6 * (x5 - x7)))), (4, .int x5), (0, .ref (h b0)), (3, .int v1.2.2)]) hx hb dX9_saving_59 rfl hl (by decide) rfl (fun ls hl => ?_)
    refine lv_iinc (v := (v1.2.2 + 1)) (lv' := [(3, .int (v1.2.2 + 1)), (2, .int (v1.2.1 + (x8 * x5))), (1, .int (v1.1 + (x6 * (x5 - x7)))), (4, .int x5), (0, .ref (h b0))]) hx hb dX9_saving_60 hl (k := 4) rfl rfl (by decide) rfl (fun ls hl => ?_)
    refine lv_goto (tgt := 11) hx hb dX9_saving_63 (by decide) ?_
    exact hbackv1 _ (Option.some.inj hf).symm _ _ hG ls (lv_sub hl [4, 2, 1, 0] rfl)
set_option maxHeartbeats 4000000 in
set_option maxRecDepth 100000 in
theorem c_X9_isFirst {l : Launch} {E : gEnv} (h : Nat → Nat) (b0 : Nat) (w0 : T9) (a1 : Int32) (a2 : Int32) {o : Int32} (hf : f_X9_isFirst w0 a1 a2 = some o) : gR l yX9_isFirst cX9_isFirst 8 (some .boolean) rX9_isFirst E [.ref (h b0), .int a1, .int a2] [C9 E h b0 w0] (some (.int o)) := by
  refine gR.of (by decide +kernel) (Nat.le_of_ble_eq_true rfl) ?_
  intro p e s m below meth c F hr hlk hK hX hP ls hl
  have F : gF p m c cX9_isFirst 8 s ([.ref (h b0), .int a1, .int a2] : List Value).toArray RX9 := F
  generalize ([.ref (h b0), .int a1, .int a2] : List Value).toArray = args at F ⊢
  generalize hQ : MQ below _ _ _ _ _ _ = Q
  have hl : lv_has ls 8 [(0, .ref (h b0)), (1, .int a1), (2, .int a2)] := hl
  have hx := F.1
  have hb := F.2.1
  unfold f_X9_isFirst at hf
  refine lv_iconst (v := 1) hx hb dX9_isFirst_0 (by decide) ?_
  refine lv_istore_n (lv' := [(3, .int 1), (0, .ref (h b0)), (1, .int a1), (2, .int a2)]) hx hb dX9_isFirst_1 rfl hl (by decide) rfl (fun ls hl => ?_)
  refine lv_iconst (v := 0) hx hb dX9_isFirst_2 (by decide) ?_
  refine lv_istore (lv' := [(4, .int 0), (3, .int 1), (0, .ref (h b0)), (1, .int a1), (2, .int a2)]) hx hb dX9_isFirst_3 hl (by decide) rfl (fun ls hl => ?_)
  refine lp_rule (fun (v1 : Int32 × Int32) => ∀ ls : Array Slot, lv_has ls 8 [(0, .ref (h b0)), (1, .int a1), (2, .int a2), (3, .int v1.1), (4, .int v1.2)] → W p l e rX9_isFirst s m args below meth c s.heap [] 0 0 Q (F0 m 5 ls [])) ?_ _ _ hf ls (lv_sub hl [2, 3, 4, 1, 0] rfl)
  intro v1 y hf hbackv1 hexitv1 ls hl
  refine lv_iload hx hb dX9_isFirst_5 (lv_at hl 4 rfl) ?_
  refine lv_aload_n hx hb dX9_isFirst_7 rfl (lv_at hl 0 rfl) ?_
  refine g_get F hK hP 0 0 0 flX9_7 rfl rfl rfl dX9_isFirst_8 ?_
  refine lv_iconst (v := 0) hx hb dX9_isFirst_11 (by decide) ?_
  obtain ⟨x3, hx3, hf⟩ := g_bnd hf
  refine g_iald F hK hP 0 1 rfl rfl hx3 dX9_isFirst_12 ?_
  refine lv_icmp_ge (tgt := 172) hx hb dX9_isFirst_13 (by decide) (fun c4 => ?_) (fun c4 => ?_)
  · have hf := g_it c4 hf
    refine lv_iload_n hx hb dX9_isFirst_172 rfl (lv_at hl 3 rfl) ?_
    obtain ⟨u5, hu5, hf⟩ := g_bnd hf
    have ho := hexitv1 _ (Option.some.inj hf).symm
    rw [← hQ, ← ho]
    exact g_retZ F hr hlk (bz_nar hu5) dX9_isFirst_173
  · have hf := g_if c4 hf
    refine lv_iload_n hx hb dX9_isFirst_16 rfl (lv_at hl 3 rfl) ?_
    refine lv_if_eq (tgt := 172) hx hb dX9_isFirst_17 (by decide) (fun c6 => ?_) (fun c6 => ?_)
    · have hf := g_it c6 hf
      refine lv_iload_n hx hb dX9_isFirst_172 rfl (lv_at hl 3 rfl) ?_
      obtain ⟨u7, hu7, hf⟩ := g_bnd hf
      have ho := hexitv1 _ (Option.some.inj hf).symm
      rw [← hQ, ← ho]
      exact g_retZ F hr hlk (bz_nar hu7) dX9_isFirst_173
    · have hf := g_if c6 hf
      refine lv_iload hx hb dX9_isFirst_20 (lv_at hl 4 rfl) ?_
      refine lv_iload_n hx hb dX9_isFirst_22 rfl (lv_at hl 1 rfl) ?_
      obtain ⟨j8, hf, hfj8⟩ := g_bnd hf
      have hJj8 : ∀ ls : Array Slot, lv_has ls 8 [(0, .ref (h b0)), (1, .int a1), (2, .int a2), (4, .int v1.2)] → W p l e rX9_isFirst s m args below meth c s.heap [] 0 0 Q (F0 m 42 ls [.int j8]) := by
        intro ls hl
        have hf := hfj8
        refine lv_istore (lv' := [(5, .int j8), (0, .ref (h b0)), (1, .int a1), (2, .int a2), (4, .int v1.2)]) hx hb dX9_isFirst_42 hl (by decide) rfl (fun ls hl => ?_)
        refine lv_iconst (v := 0) hx hb dX9_isFirst_44 (by decide) ?_
        refine lv_istore (lv' := [(6, .int 0), (5, .int j8), (0, .ref (h b0)), (1, .int a1), (2, .int a2), (4, .int v1.2)]) hx hb dX9_isFirst_45 hl (by decide) rfl (fun ls hl => ?_)
        obtain ⟨x13, hx13, hfx13⟩ := g_bnd hf
        have hEx13 : ∀ ls : Array Slot, lv_has ls 8 [(0, .ref (h b0)), (1, .int a1), (2, .int a2), (4, .int v1.2), (5, .int x13)] → W p l e rX9_isFirst s m args below meth c s.heap [] 0 0 Q (F0 m 95 ls []) := by
          intro ls hl
          have hf := hfx13
          refine lv_aload_n hx hb dX9_isFirst_95 rfl (lv_at hl 0 rfl) ?_
          refine lv_iload hx hb dX9_isFirst_96 (lv_at hl 3 rfl) ?_
          refine lv_iconst (v := 0) hx hb dX9_isFirst_98 (by decide) ?_
          obtain ⟨x22, hx22, hf⟩ := g_bnd hf
          refine g_rv (As := [.int v1.2, .int 0]) (rest := []) F hK hX hP [0] rfl (c_X9_of h b0 w0 v1.2 0 hx22) (kX9_50 F.2.2.2.2 ⟨Nat.le_of_ble_eq_true rfl, Nat.le_of_ble_eq_true rfl⟩) rfl rfl rfl rfl hl.1 rfl (lv_room (Nat.le_of_ble_eq_true rfl)) ⟨Nat.zero_le _, Nat.zero_le _⟩ dX9_isFirst_99 ?_
          refine lv_iload_n hx hb dX9_isFirst_102 rfl (lv_at hl 2 rfl) ?_
          obtain ⟨j23, hf, hfj23⟩ := g_bnd hf
          have hJj23 : ∀ ls : Array Slot, lv_has ls 8 [(0, .ref (h b0)), (1, .int a1), (2, .int a2), (4, .int v1.2), (5, .int x13)] → W p l e rX9_isFirst s m args below meth c s.heap [] 0 0 Q (F0 m 111 ls [.int j23]) := by
            intro ls hl
            have hf := hfj23
            refine lv_istore (lv' := [(6, .int j23), (0, .ref (h b0)), (1, .int a1), (2, .int a2), (4, .int v1.2), (5, .int x13)]) hx hb dX9_isFirst_111 hl (by decide) rfl (fun ls hl => ?_)
            refine lv_aload_n hx hb dX9_isFirst_113 rfl (lv_at hl 1 rfl) ?_
            refine lv_iload_n hx hb dX9_isFirst_114 rfl (lv_at hl 2 rfl) ?_
            refine lv_iconst (v := 0) hx hb dX9_isFirst_115 (by decide) ?_
            obtain ⟨x25, hx25, hf⟩ := g_bnd hf
            refine g_rv (As := [.int a1, .int 0]) (rest := []) F hK hX hP [0] rfl (c_X9_of h b0 w0 a1 0 hx25) (kX9_50 F.2.2.2.2 ⟨Nat.le_of_ble_eq_true rfl, Nat.le_of_ble_eq_true rfl⟩) rfl rfl rfl rfl hl.1 rfl (lv_room (Nat.le_of_ble_eq_true rfl)) ⟨Nat.zero_le _, Nat.zero_le _⟩ dX9_isFirst_116 ?_
            refine lv_iload_n hx hb dX9_isFirst_119 rfl (lv_at hl 3 rfl) ?_
            obtain ⟨j26, hf, hfj26⟩ := g_bnd hf
            have hJj26 : ∀ ls : Array Slot, lv_has ls 8 [(0, .ref (h b0)), (1, .int a1), (2, .int a2), (4, .int v1.2), (5, .int x13), (6, .int j23)] → W p l e rX9_isFirst s m args below meth c s.heap [] 0 0 Q (F0 m 128 ls [.int j26]) := by
              intro ls hl
              have hf := hfj26
              refine lv_istore (lv' := [(7, .int j26), (0, .ref (h b0)), (1, .int a1), (2, .int a2), (4, .int v1.2), (5, .int x13), (6, .int j23)]) hx hb dX9_isFirst_128 hl (by decide) rfl (fun ls hl => ?_)
              refine lv_iload hx hb dX9_isFirst_130 (lv_at hl 5 rfl) ?_
              obtain ⟨j28, hf, hfj28⟩ := g_bnd hf
              have hJj28 : ∀ ls : Array Slot, lv_has ls 8 [(0, .ref (h b0)), (1, .int a1), (2, .int a2), (4, .int v1.2)] → W p l e rX9_isFirst s m args below meth c s.heap [] 0 0 Q (F0 m 165 ls [.int j28]) := by
                intro ls hl
                have hf := hfj28
                refine lv_istore_n (lv' := [(3, .int j28), (0, .ref (h b0)), (1, .int a1), (2, .int a2), (4, .int v1.2)]) hx hb dX9_isFirst_165 rfl hl (by decide) rfl (fun ls hl => ?_)
                refine lv_iinc (v := (v1.2 + 1)) (lv' := [(4, .int (v1.2 + 1)), (3, .int j28), (0, .ref (h b0)), (1, .int a1), (2, .int a2)]) hx hb dX9_isFirst_166 hl (k := 4) rfl rfl (by decide) rfl (fun ls hl => ?_)
                refine lv_goto (tgt := 5) hx hb dX9_isFirst_169 (by decide) ?_
                exact hbackv1 _ (Option.some.inj hf).symm ls (lv_sub hl [2, 3, 4, 1, 0] rfl)
              refine lv_if_eq (tgt := 160) hx hb dX9_isFirst_132 (by decide) (fun c29 => ?_) (fun c29 => ?_)
              · have hf := g_it c29 hf
                refine lv_iconst (v := 1) hx hb dX9_isFirst_160 (by decide) ?_
                refine lv_goto (tgt := 165) hx hb dX9_isFirst_161 (by decide) ?_
                obtain rfl := Option.some.inj hf
                exact hJj28 ls (lv_sub hl [1, 2, 3, 4] rfl)
              · have hf := g_if c29 hf
                refine lv_iload hx hb dX9_isFirst_135 (lv_at hl 6 rfl) ?_
                refine lv_iload hx hb dX9_isFirst_137 (lv_at hl 0 rfl) ?_
                refine lv_icmp_ne (tgt := 155) hx hb dX9_isFirst_139 (by decide) (fun c30 => ?_) (fun c30 => ?_)
                · have hf := g_if c30 hf
                  refine lv_iload hx hb dX9_isFirst_155 (lv_at hl 0 rfl) ?_
                  refine lv_if_eq (tgt := 164) hx hb dX9_isFirst_157 (by decide) (fun c31 => ?_) (fun c31 => ?_)
                  · have hf := g_it c31 hf
                    refine lv_iconst (v := 0) hx hb dX9_isFirst_164 (by decide) ?_
                    obtain rfl := Option.some.inj hf
                    exact hJj28 ls (lv_sub hl [1, 2, 3, 4] rfl)
                  · have hf := g_if c31 hf
                    refine lv_iconst (v := 1) hx hb dX9_isFirst_160 (by decide) ?_
                    refine lv_goto (tgt := 165) hx hb dX9_isFirst_161 (by decide) ?_
                    obtain rfl := Option.some.inj hf
                    exact hJj28 ls (lv_sub hl [1, 2, 3, 4] rfl)
                · have hf := g_it c30 hf
                  refine lv_aload_n hx hb dX9_isFirst_142 rfl (lv_at hl 1 rfl) ?_
                  refine lv_iload_n hx hb dX9_isFirst_143 rfl (lv_at hl 2 rfl) ?_
                  refine lv_iload hx hb dX9_isFirst_144 (lv_at hl 4 rfl) ?_
                  obtain ⟨x32, hx32, hf⟩ := g_bnd hf
                  refine g_rv (As := [.int a1, .int v1.2]) (rest := []) F hK hX hP [0] rfl (c_X9_isAhead h b0 w0 a1 v1.2 hx32) (kX9_59 F.2.2.2.2 ⟨Nat.le_of_ble_eq_true rfl, Nat.le_of_ble_eq_true rfl⟩) rfl rfl rfl rfl hl.1 rfl (lv_room (Nat.le_of_ble_eq_true rfl)) ⟨Nat.zero_le _, Nat.zero_le _⟩ dX9_isFirst_146 ?_
                  refine lv_if_eq (tgt := 164) hx hb dX9_isFirst_149 (by decide) (fun c33 => ?_) (fun c33 => ?_)
                  · have hf := g_it c33 hf
                    refine lv_iconst (v := 0) hx hb dX9_isFirst_164 (by decide) ?_
                    obtain rfl := Option.some.inj hf
                    exact hJj28 ls (lv_sub hl [1, 2, 3, 4] rfl)
                  · have hf := g_if c33 hf
                    refine lv_goto (tgt := 160) hx hb dX9_isFirst_152 (by decide) ?_
                    refine lv_iconst (v := 1) hx hb dX9_isFirst_160 (by decide) ?_
                    refine lv_goto (tgt := 165) hx hb dX9_isFirst_161 (by decide) ?_
                    obtain rfl := Option.some.inj hf
                    exact hJj28 ls (lv_sub hl [1, 2, 3, 4] rfl)
            refine lv_icmp_ne (tgt := 127) hx hb dX9_isFirst_120 (by decide) (fun c27 => ?_) (fun c27 => ?_)
            · have hf := g_if c27 hf
              refine lv_iconst (v := 0) hx hb dX9_isFirst_127 (by decide) ?_
              obtain rfl := Option.some.inj hf
              exact hJj26 ls (lv_sub hl [1, 2, 3, 4, 5, 0] rfl)
            · have hf := g_it c27 hf
              refine lv_iconst (v := 1) hx hb dX9_isFirst_123 (by decide) ?_
              refine lv_goto (tgt := 128) hx hb dX9_isFirst_124 (by decide) ?_
              obtain rfl := Option.some.inj hf
              exact hJj26 ls (lv_sub hl [1, 2, 3, 4, 5, 0] rfl)
          refine lv_icmp_ne (tgt := 110) hx hb dX9_isFirst_103 (by decide) (fun c24 => ?_) (fun c24 => ?_)
          · have hf := g_if c24 hf
            refine lv_iconst (v := 0) hx hb dX9_isFirst_110 (by decide) ?_
            obtain rfl := Option.some.inj hf
            exact hJj23 ls (lv_sub hl [0, 1, 2, 3, 4] rfl)
          · have hf := g_it c24 hf
            refine lv_iconst (v := 1) hx hb dX9_isFirst_106 (by decide) ?_
            refine lv_goto (tgt := 111) hx hb dX9_isFirst_107 (by decide) ?_
            obtain rfl := Option.some.inj hf
            exact hJj23 ls (lv_sub hl [0, 1, 2, 3, 4] rfl)
        refine lp_rule (fun (v12 : Int32 × Int32) => ∀ ls : Array Slot, lv_has ls 8 [(0, .ref (h b0)), (1, .int a1), (2, .int a2), (4, .int v1.2), (5, .int v12.1), (6, .int v12.2)] → W p l e rX9_isFirst s m args below meth c s.heap [] 0 0 Q (F0 m 47 ls [])) ?_ _ _ hx13 ls (lv_sub hl [2, 3, 4, 5, 1, 0] rfl)
        intro v12 y hf hbackv12 hexitv12 ls hl
        refine lv_iload hx hb dX9_isFirst_47 (lv_at hl 5 rfl) ?_
        refine lv_iload_n hx hb dX9_isFirst_49 rfl (lv_at hl 2 rfl) ?_
        refine lv_icmp_ge (tgt := 95) hx hb dX9_isFirst_50 (by decide) (fun c14 => ?_) (fun c14 => ?_)
        · have hf := g_it c14 hf
          obtain rfl := hexitv12 _ (Option.some.inj hf).symm
          exact hEx13 ls (lv_sub hl [0, 1, 2, 3, 4] rfl)
        · have hf := g_if c14 hf
          refine lv_iload hx hb dX9_isFirst_53 (lv_at hl 4 rfl) ?_
          refine lv_if_eq (tgt := 95) hx hb dX9_isFirst_55 (by decide) (fun c15 => ?_) (fun c15 => ?_)
          · have hf := g_it c15 hf
            obtain rfl := hexitv12 _ (Option.some.inj hf).symm
            exact hEx13 ls (lv_sub hl [0, 1, 2, 3, 4] rfl)
          · have hf := g_if c15 hf
            refine lv_aload_n hx hb dX9_isFirst_58 rfl (lv_at hl 0 rfl) ?_
            refine lv_iload hx hb dX9_isFirst_59 (lv_at hl 3 rfl) ?_
            refine lv_iload hx hb dX9_isFirst_61 (lv_at hl 5 rfl) ?_
            obtain ⟨x16, hx16, hf⟩ := g_bnd hf
            refine g_rv (As := [.int v1.2, .int v12.2]) (rest := []) F hK hX hP [0] rfl (c_X9_letterOf h b0 w0 v1.2 v12.2 hx16) (kX9_53 F.2.2.2.2 ⟨Nat.le_of_ble_eq_true rfl, Nat.le_of_ble_eq_true rfl⟩) rfl rfl rfl rfl hl.1 rfl (lv_room (Nat.le_of_ble_eq_true rfl)) ⟨Nat.zero_le _, Nat.zero_le _⟩ dX9_isFirst_63 ?_
            obtain ⟨x17, hx17, hf⟩ := g_bnd hf
            refine g_rs (As := [.int x16]) (rest := []) F hK hX hP [] rfl (c_X9_keyOf h x16 hx17) (kX9_32 F.2.2.2.2 ⟨Nat.le_of_ble_eq_true rfl, Nat.le_of_ble_eq_true rfl⟩) rfl hl.1 rfl (lv_room (Nat.le_of_ble_eq_true rfl)) ⟨Nat.zero_le _, Nat.zero_le _⟩ dX9_isFirst_66 ?_
            refine lv_aload_n hx hb dX9_isFirst_69 rfl (lv_at hl 0 rfl) ?_
            refine lv_iload_n hx hb dX9_isFirst_70 rfl (lv_at hl 1 rfl) ?_
            refine lv_iload hx hb dX9_isFirst_71 (lv_at hl 5 rfl) ?_
            obtain ⟨x18, hx18, hf⟩ := g_bnd hf
            refine g_rv (As := [.int a1, .int v12.2]) (rest := [.int x17]) F hK hX hP [0] rfl (c_X9_letterOf h b0 w0 a1 v12.2 hx18) (kX9_53 F.2.2.2.2 ⟨Nat.le_of_ble_eq_true rfl, Nat.le_of_ble_eq_true rfl⟩) rfl rfl rfl rfl hl.1 rfl (lv_room (Nat.le_of_ble_eq_true rfl)) ⟨Nat.zero_le _, Nat.zero_le _⟩ dX9_isFirst_73 ?_
            obtain ⟨x19, hx19, hf⟩ := g_bnd hf
            refine g_rs (As := [.int x18]) (rest := [.int x17]) F hK hX hP [] rfl (c_X9_keyOf h x18 hx19) (kX9_32 F.2.2.2.2 ⟨Nat.le_of_ble_eq_true rfl, Nat.le_of_ble_eq_true rfl⟩) rfl hl.1 rfl (lv_room (Nat.le_of_ble_eq_true rfl)) ⟨Nat.zero_le _, Nat.zero_le _⟩ dX9_isFirst_76 ?_
            obtain ⟨j20, hf, hfj20⟩ := g_bnd hf
            have hJj20 : ∀ ls : Array Slot, lv_has ls 8 [(0, .ref (h b0)), (1, .int a1), (2, .int a2), (4, .int v1.2), (6, .int v12.2)] → W p l e rX9_isFirst s m args below meth c s.heap [] 0 0 Q (F0 m 87 ls [.int j20]) := by
              intro ls hl
              have hf := hfj20
              refine lv_istore (lv' := [(5, .int j20), (0, .ref (h b0)), (1, .int a1), (2, .int a2), (4, .int v1.2), (6, .int v12.2)]) hx hb dX9_isFirst_87 hl (by decide) rfl (fun ls hl => ?_)
              refine lv_iinc (v := (v12.2 + 1)) (lv' := [(6, .int (v12.2 + 1)), (5, .int j20), (0, .ref (h b0)), (1, .int a1), (2, .int a2), (4, .int v1.2)]) hx hb dX9_isFirst_89 hl (k := 5) rfl rfl (by decide) rfl (fun ls hl => ?_)
              refine lv_goto (tgt := 47) hx hb dX9_isFirst_92 (by decide) ?_
              exact hbackv12 _ (Option.some.inj hf).symm ls (lv_sub hl [2, 3, 4, 5, 1, 0] rfl)
            refine lv_icmp_ne (tgt := 86) hx hb dX9_isFirst_79 (by decide) (fun c21 => ?_) (fun c21 => ?_)
            · have hf := g_if c21 hf
              refine lv_iconst (v := 0) hx hb dX9_isFirst_86 (by decide) ?_
              obtain rfl := Option.some.inj hf
              exact hJj20 ls (lv_sub hl [0, 1, 2, 3, 5] rfl)
            · have hf := g_it c21 hf
              refine lv_iconst (v := 1) hx hb dX9_isFirst_82 (by decide) ?_
              refine lv_goto (tgt := 87) hx hb dX9_isFirst_83 (by decide) ?_
              obtain rfl := Option.some.inj hf
              exact hJj20 ls (lv_sub hl [0, 1, 2, 3, 5] rfl)
      refine lv_icmp_eq (tgt := 41) hx hb dX9_isFirst_23 (by decide) (fun c9 => ?_) (fun c9 => ?_)
      · have hf := g_it c9 hf
        refine lv_iconst (v := 0) hx hb dX9_isFirst_41 (by decide) ?_
        obtain rfl := Option.some.inj hf
        exact hJj8 ls (lv_sub hl [0, 1, 2, 4] rfl)
      · have hf := g_if c9 hf
        refine lv_aload_n hx hb dX9_isFirst_26 rfl (lv_at hl 0 rfl) ?_
        refine lv_iload hx hb dX9_isFirst_27 (lv_at hl 4 rfl) ?_
        refine lv_iconst (v := 0) hx hb dX9_isFirst_29 (by decide) ?_
        obtain ⟨x10, hx10, hf⟩ := g_bnd hf
        refine g_rv (As := [.int v1.2, .int 0]) (rest := []) F hK hX hP [0] rfl (c_X9_of h b0 w0 v1.2 0 hx10) (kX9_50 F.2.2.2.2 ⟨Nat.le_of_ble_eq_true rfl, Nat.le_of_ble_eq_true rfl⟩) rfl rfl rfl rfl hl.1 rfl (lv_room (Nat.le_of_ble_eq_true rfl)) ⟨Nat.zero_le _, Nat.zero_le _⟩ dX9_isFirst_30 ?_
        refine lv_iload_n hx hb dX9_isFirst_33 rfl (lv_at hl 2 rfl) ?_
        refine lv_icmp_lt (tgt := 41) hx hb dX9_isFirst_34 (by decide) (fun c11 => ?_) (fun c11 => ?_)
        · have hf := g_it c11 hf
          refine lv_iconst (v := 0) hx hb dX9_isFirst_41 (by decide) ?_
          obtain rfl := Option.some.inj hf
          exact hJj8 ls (lv_sub hl [0, 1, 2, 4] rfl)
        · have hf := g_if c11 hf
          refine lv_iconst (v := 1) hx hb dX9_isFirst_37 (by decide) ?_
          refine lv_goto (tgt := 42) hx hb dX9_isFirst_38 (by decide) ?_
          obtain rfl := Option.some.inj hf
          exact hJj8 ls (lv_sub hl [0, 1, 2, 4] rfl)
set_option maxHeartbeats 4000000 in
set_option maxRecDepth 100000 in
theorem c_X9_shortest {l : Launch} {E : gEnv} (h : Nat → Nat) (b0 : Nat) (w0 : T9) (a1 : Int32) {o : Int32 × T9} (hf : f_X9_shortest w0 a1 = some o) : gM l yX9_shortest cX9_shortest 3 (some .int) rX9_shortest E [.ref (h b0), .int a1] [C9 E h b0 w0] (some (.int o.1)) [C9 E h b0 o.2] := by
  refine gM.of (by decide +kernel) (Nat.le_of_ble_eq_true rfl) rfl ?_
  intro p e s m below meth c F hr hlk hK hX hAB ls hl H locs hG
  have F : gF p m c cX9_shortest 3 s ([.ref (h b0), .int a1] : List Value).toArray RX9 := F
  generalize ([.ref (h b0), .int a1] : List Value).toArray = args at F ⊢
  generalize hQ : MQ below _ _ _ _ _ _ = Q
  generalize hA : gAd [C9 E h b0 w0] = A at hAB hG
  have hl : lv_has ls 3 [(0, .ref (h b0)), (1, .int a1)] := hl
  have hx := F.1
  have hb := F.2.1
  unfold f_X9_shortest at hf
  refine lv_aload_n hx hb dX9_shortest_0 rfl (lv_at hl 0 rfl) ?_
  refine lv_aload_n hx hb dX9_shortest_1 rfl (lv_at hl 0 rfl) ?_
  refine lv_iload_n hx hb dX9_shortest_2 rfl (lv_at hl 1 rfl) ?_
  obtain ⟨x1, hx1, hf⟩ := g_bnd hf
  refine g_rv (As := [.int a1]) (rest := [.ref (h b0)]) F hK (hG.X hX hAB) hG.1 [0] rfl (c_X9_isWord h b0 w0 a1 hx1) (kX9_66 F.2.2.2.2 ⟨Nat.le_of_ble_eq_true rfl, Nat.le_of_ble_eq_true rfl⟩) rfl rfl rfl rfl hl.1 rfl (lv_room (Nat.le_of_ble_eq_true rfl)) ⟨Nat.zero_le _, Nat.zero_le _⟩ dX9_shortest_3 ?_
  refine lv_iconst (v := 1) hx hb dX9_shortest_6 (by decide) ?_
  obtain ⟨x2, hx2, hf⟩ := g_bnd hf
  refine g_mv (S' := [C9 E h b0 x2.2]) (As := [.int x1, .int 1]) (rest := []) F hK hX hAB hG [0] rfl rfl (c_X9_goes h b0 w0 x1 1 hx2) rfl (kX9_72 F.2.2.2.2 ⟨Nat.le_of_ble_eq_true rfl, Nat.le_of_ble_eq_true rfl⟩) rfl rfl rfl rfl hl.1 rfl (lv_room (Nat.le_of_ble_eq_true rfl)) ⟨Nat.zero_le _, Nat.zero_le _⟩ dX9_shortest_7 (fun H locs hG => ?_)
  refine lv_if_ne (tgt := 15) hx hb dX9_shortest_10 (by decide) (fun c3 => ?_) (fun c3 => ?_)
  · have hf := g_if c3 hf
    refine lv_iconst (v := 1) hx hb dX9_shortest_15 (by decide) ?_
    refine lv_istore_n (lv' := [(2, .int 1), (0, .ref (h b0)), (1, .int a1)]) hx hb dX9_shortest_16 rfl hl (by decide) rfl (fun ls hl => ?_)
    refine lp_rule (fun (v4 : Int32) => ∀ (H : Heap) (locs : List Loc), gS E A s.heap [C9 E h b0 x2.2] H locs → ∀ ls : Array Slot, lv_has ls 3 [(0, .ref (h b0)), (1, .int a1), (2, .int v4)] → W p l e rX9_shortest s m args below meth c H locs 0 0 Q (F0 m 17 ls [])) ?_ _ _ hf _ _ hG ls (lv_sub hl [1, 2, 0] rfl)
    intro v4 y hf hbackv4 hexitv4 H locs hG ls hl
    refine lv_iload_n hx hb dX9_shortest_17 rfl (lv_at hl 2 rfl) ?_
    refine lv_aload_n hx hb dX9_shortest_18 rfl (lv_at hl 0 rfl) ?_
    refine lv_iload_n hx hb dX9_shortest_19 rfl (lv_at hl 1 rfl) ?_
    refine lv_iconst (v := 0) hx hb dX9_shortest_20 (by decide) ?_
    obtain ⟨x6, hx6, hf⟩ := g_bnd hf
    refine g_rv (As := [.int a1, .int 0]) (rest := [.int v4]) F hK (hG.X hX hAB) hG.1 [0] rfl (c_X9_of h b0 x2.2 a1 0 hx6) (kX9_50 F.2.2.2.2 ⟨Nat.le_of_ble_eq_true rfl, Nat.le_of_ble_eq_true rfl⟩) rfl rfl rfl rfl hl.1 rfl (lv_room (Nat.le_of_ble_eq_true rfl)) ⟨Nat.zero_le _, Nat.zero_le _⟩ dX9_shortest_21 ?_
    refine lv_icmp_gt (tgt := 44) hx hb dX9_shortest_24 (by decide) (fun c7 => ?_) (fun c7 => ?_)
    · have hf := g_it c7 hf
      refine lv_iconst (v := (-1)) hx hb dX9_shortest_44 (by decide) ?_
      have ho := hexitv4 _ (Option.some.inj hf).symm
      subst hA
      rw [← hQ, ← ho]
      exact g_mretI F hr hlk hG dX9_shortest_45
    · have hf := g_if c7 hf
      refine lv_aload_n hx hb dX9_shortest_27 rfl (lv_at hl 0 rfl) ?_
      refine lv_iload_n hx hb dX9_shortest_28 rfl (lv_at hl 1 rfl) ?_
      refine lv_iload_n hx hb dX9_shortest_29 rfl (lv_at hl 2 rfl) ?_
      obtain ⟨x8, hx8, hf⟩ := g_bnd hf
      refine g_rv (As := [.int a1, .int v4]) (rest := []) F hK (hG.X hX hAB) hG.1 [0] rfl (c_X9_isFirst h b0 x2.2 a1 v4 hx8) (kX9_152 F.2.2.2.2 ⟨Nat.le_of_ble_eq_true rfl, Nat.le_of_ble_eq_true rfl⟩) rfl rfl rfl rfl hl.1 rfl (lv_room (Nat.le_of_ble_eq_true rfl)) ⟨Nat.zero_le _, Nat.zero_le _⟩ dX9_shortest_30 ?_
      refine lv_if_eq (tgt := 38) hx hb dX9_shortest_33 (by decide) (fun c9 => ?_) (fun c9 => ?_)
      · have hf := g_it c9 hf
        refine lv_iinc (v := (v4 + 1)) (lv' := [(2, .int (v4 + 1)), (0, .ref (h b0)), (1, .int a1)]) hx hb dX9_shortest_38 hl (k := 2) rfl rfl (by decide) rfl (fun ls hl => ?_)
        refine lv_goto (tgt := 17) hx hb dX9_shortest_41 (by decide) ?_
        exact hbackv4 _ (Option.some.inj hf).symm _ _ hG ls (lv_sub hl [1, 2, 0] rfl)
      · have hf := g_if c9 hf
        refine lv_iload_n hx hb dX9_shortest_36 rfl (lv_at hl 2 rfl) ?_
        have ho := hexitv4 _ (Option.some.inj hf).symm
        subst hA
        rw [← hQ, ← ho]
        exact g_mretI F hr hlk hG dX9_shortest_37
  · have hf := g_it c3 hf
    refine lv_iconst (v := 0) hx hb dX9_shortest_13 (by decide) ?_
    have ho := Option.some.inj hf
    subst hA
    rw [← hQ, ← ho]
    exact g_mretI F hr hlk hG dX9_shortest_14
set_option maxHeartbeats 4000000 in
set_option maxRecDepth 100000 in
theorem c_X9_append {l : Launch} {E : gEnv} (h : Nat → Nat) (b0 : Nat) (w0 : T9) (a1 : Int32) {o : Int32 × T9} (hf : f_X9_append w0 a1 = some o) : gM l yX9_append cX9_append 2 (some .int) rX9_append E [.ref (h b0), .int a1] [C9 E h b0 w0] (some (.int o.1)) [C9 E h b0 o.2] := by
  refine gM.of (by decide +kernel) (Nat.le_of_ble_eq_true rfl) rfl ?_
  intro p e s m below meth c F hr hlk hK hX hAB ls hl H locs hG
  have F : gF p m c cX9_append 2 s ([.ref (h b0), .int a1] : List Value).toArray RX9 := F
  generalize ([.ref (h b0), .int a1] : List Value).toArray = args at F ⊢
  generalize hQ : MQ below _ _ _ _ _ _ = Q
  generalize hA : gAd [C9 E h b0 w0] = A at hAB hG
  have hl : lv_has ls 2 [(0, .ref (h b0)), (1, .int a1)] := hl
  have hx := F.1
  have hb := F.2.1
  unfold f_X9_append at hf
  refine lv_aload_n hx hb dX9_append_0 rfl (lv_at hl 0 rfl) ?_
  refine lv_iload_n hx hb dX9_append_1 rfl (lv_at hl 1 rfl) ?_
  refine lv_i2l hx hb dX9_append_2 rfl ?_
  refine lv_lconst (v := 0) hx hb dX9_append_3 rfl ?_
  refine lv_ldc2 (v := 127) hx hb F.2.2.2.1 (F.2.2.2.2 _ gw_1069) dX9_append_4 ?_
  obtain ⟨x1, hx1, hf⟩ := g_bnd hf
  refine g_rs (As := [.long a1.toInt64, .long 0, .long 127]) (rest := [.ref (h b0)]) F hK (hG.X hX hAB) hG.1 [] rfl (c_X9_in h a1.toInt64 0 127 hx1) (kX9_46 F.2.2.2.2 ⟨Nat.le_of_ble_eq_true rfl, Nat.le_of_ble_eq_true rfl⟩) rfl hl.1 rfl (lv_room (Nat.le_of_ble_eq_true rfl)) ⟨Nat.zero_le _, Nat.zero_le _⟩ dX9_append_7 ?_
  refine lv_aload_n hx hb dX9_append_10 rfl (lv_at hl 0 rfl) ?_
  refine g_get F hK hG.1 0 0 8 flX9_157 rfl rfl rfl dX9_append_11 ?_
  refine lv_sipush (v := 150) hx hb dX9_append_14 (by decide) ?_
  obtain ⟨j2, hf, hfj2⟩ := g_bnd hf
  have hJj2 : ∀ (H : Heap) (locs : List Loc), gS E A s.heap [C9 E h b0 w0] H locs → ∀ ls : Array Slot, lv_has ls 2 [(0, .ref (h b0)), (1, .int a1)] → W p l e rX9_append s m args below meth c H locs 0 0 Q (F0 m 25 ls [.int j2, .int x1, .ref (h b0)]) := by
    intro H locs hG ls hl
    have hf := hfj2
    obtain ⟨x4, hx4, hf⟩ := g_bnd hf
    refine g_mv (S' := [C9 E h b0 x4.2]) (As := [.int x1, .int j2]) (rest := []) F hK hX hAB hG [0] rfl rfl (c_X9_goes h b0 w0 x1 j2 hx4) rfl (kX9_72 F.2.2.2.2 ⟨Nat.le_of_ble_eq_true rfl, Nat.le_of_ble_eq_true rfl⟩) rfl rfl rfl rfl hl.1 rfl (lv_room (Nat.le_of_ble_eq_true rfl)) ⟨Nat.zero_le _, Nat.zero_le _⟩ dX9_append_25 (fun H locs hG => ?_)
    refine lv_if_ne (tgt := 33) hx hb dX9_append_28 (by decide) (fun c5 => ?_) (fun c5 => ?_)
    · have hf := g_if c5 hf
      refine lv_aload_n hx hb dX9_append_33 rfl (lv_at hl 0 rfl) ?_
      refine g_get F hK hG.1 0 0 7 flX9_22 rfl rfl rfl dX9_append_34 ?_
      refine lv_aload_n hx hb dX9_append_37 rfl (lv_at hl 0 rfl) ?_
      refine g_get F hK hG.1 0 0 8 flX9_157 rfl rfl rfl dX9_append_38 ?_
      refine lv_iload_n hx hb dX9_append_41 rfl (lv_at hl 1 rfl) ?_
      obtain ⟨x6, hx6, hf⟩ := g_bnd hf
      refine g_iast F hK hG 0 5 rfl rfl hx6 dX9_append_42 (fun H locs hG => ?_)
      have hG : gS E A s.heap [C9 E h b0 (x4.2.1, x4.2.2.1, x4.2.2.2.1, x4.2.2.2.2.1, x4.2.2.2.2.2.1, x4.2.2.2.2.2.2.1, x4.2.2.2.2.2.2.2.1, x6, x4.2.2.2.2.2.2.2.2.2.1, x4.2.2.2.2.2.2.2.2.2.2)] H locs := hG
      refine lv_aload_n hx hb dX9_append_43 rfl (lv_at hl 0 rfl) ?_
      refine lv_dup hx hb dX9_append_44 rfl ?_
      refine g_get F hK hG.1 0 0 8 flX9_157 rfl rfl rfl dX9_append_45 ?_
      refine lv_iconst (v := 1) hx hb dX9_append_48 (by decide) ?_
      refine lv_iadd hx hb dX9_append_49 ?_
      refine g_put F hK hG 0 0 8 pfX9_157 rfl rfl (Nat.le_of_ble_eq_true rfl) rfl rfl dX9_append_50 (fun H locs hG => ?_)
      have hG : gS E A s.heap [C9 E h b0 (x4.2.1, x4.2.2.1, x4.2.2.2.1, x4.2.2.2.2.1, x4.2.2.2.2.2.1, x4.2.2.2.2.2.2.1, x4.2.2.2.2.2.2.2.1, x6, (x4.2.2.2.2.2.2.2.2.2.1 + 1), x4.2.2.2.2.2.2.2.2.2.2)] H locs := hG
      refine lv_aload_n hx hb dX9_append_53 rfl (lv_at hl 0 rfl) ?_
      refine g_get F hK hG.1 0 0 8 flX9_157 rfl rfl rfl dX9_append_54 ?_
      have ho := Option.some.inj hf
      subst hA
      rw [← hQ, ← ho]
      exact g_mretI F hr hlk hG dX9_append_57
    · have hf := g_it c5 hf
      refine lv_iconst (v := 0) hx hb dX9_append_31 (by decide) ?_
      have ho := Option.some.inj hf
      subst hA
      rw [← hQ, ← ho]
      exact g_mretI F hr hlk hG dX9_append_32
  refine lv_icmp_ge (tgt := 24) hx hb dX9_append_17 (by decide) (fun c3 => ?_) (fun c3 => ?_)
  · have hf := g_it c3 hf
    refine lv_iconst (v := 0) hx hb dX9_append_24 (by decide) ?_
    obtain rfl := Option.some.inj hf
    exact hJj2 _ _ hG ls (lv_sub hl [0, 1] rfl)
  · have hf := g_if c3 hf
    refine lv_iconst (v := 1) hx hb dX9_append_20 (by decide) ?_
    refine lv_goto (tgt := 25) hx hb dX9_append_21 (by decide) ?_
    obtain rfl := Option.some.inj hf
    exact hJj2 _ _ hG ls (lv_sub hl [0, 1] rfl)
set_option maxHeartbeats 4000000 in
set_option maxRecDepth 100000 in
theorem c_X9_clearText {l : Launch} {E : gEnv} (h : Nat → Nat) (b0 : Nat) (w0 : T9) {o : Int32 × T9} (hf : f_X9_clearText w0 = some o) : gM l yX9_clearText cX9_clearText 2 (some .int) rX9_clearText E [.ref (h b0)] [C9 E h b0 w0] (some (.int o.1)) [C9 E h b0 o.2] := by
  refine gM.of (by decide +kernel) (Nat.le_of_ble_eq_true rfl) rfl ?_
  intro p e s m below meth c F hr hlk hK hX hAB ls hl H locs hG
  have F : gF p m c cX9_clearText 2 s ([.ref (h b0)] : List Value).toArray RX9 := F
  generalize ([.ref (h b0)] : List Value).toArray = args at F ⊢
  generalize hQ : MQ below _ _ _ _ _ _ = Q
  generalize hA : gAd [C9 E h b0 w0] = A at hAB hG
  have hl : lv_has ls 2 [(0, .ref (h b0))] := hl
  have hx := F.1
  have hb := F.2.1
  unfold f_X9_clearText at hf
  refine lv_aload_n hx hb dX9_clearText_0 rfl (lv_at hl 0 rfl) ?_
  refine lv_iconst (v := 0) hx hb dX9_clearText_1 (by decide) ?_
  refine g_put F hK hG 0 0 4 pfX9_25 rfl rfl (Nat.le_of_ble_eq_true rfl) rfl rfl dX9_clearText_2 (fun H locs hG => ?_)
  have hG : gS E A s.heap [C9 E h b0 (w0.1, w0.2.1, w0.2.2.1, w0.2.2.2.1, 0, w0.2.2.2.2.2.1, w0.2.2.2.2.2.2.1, w0.2.2.2.2.2.2.2.1, w0.2.2.2.2.2.2.2.2.1, w0.2.2.2.2.2.2.2.2.2)] H locs := hG
  refine lv_aload_n hx hb dX9_clearText_5 rfl (lv_at hl 0 rfl) ?_
  refine g_get F hK hG.1 0 0 8 flX9_157 rfl rfl rfl dX9_clearText_6 ?_
  refine lv_istore_n (lv' := [(1, .int w0.2.2.2.2.2.2.2.2.1), (0, .ref (h b0))]) hx hb dX9_clearText_9 rfl hl (by decide) rfl (fun ls hl => ?_)
  refine lv_aload_n hx hb dX9_clearText_10 rfl (lv_at hl 1 rfl) ?_
  refine lv_iconst (v := 0) hx hb dX9_clearText_11 (by decide) ?_
  refine g_put F hK hG 0 0 8 pfX9_157 rfl rfl (Nat.le_of_ble_eq_true rfl) rfl rfl dX9_clearText_12 (fun H locs hG => ?_)
  have hG : gS E A s.heap [C9 E h b0 (w0.1, w0.2.1, w0.2.2.1, w0.2.2.2.1, 0, w0.2.2.2.2.2.1, w0.2.2.2.2.2.2.1, w0.2.2.2.2.2.2.2.1, 0, w0.2.2.2.2.2.2.2.2.2)] H locs := hG
  refine lv_iload_n hx hb dX9_clearText_15 rfl (lv_at hl 0 rfl) ?_
  have ho := Option.some.inj hf
  subst hA
  rw [← hQ, ← ho]
  exact g_mretI F hr hlk hG dX9_clearText_16
set_option maxHeartbeats 4000000 in
set_option maxRecDepth 100000 in
theorem c_X9_here {l : Launch} {E : gEnv} (h : Nat → Nat) (b0 : Nat) (w0 : T9) {o : Int32} (hf : f_X9_here w0 = some o) : gR l yX9_here cX9_here 1 (some .int) rX9_here E [.ref (h b0)] [C9 E h b0 w0] (some (.int o)) := by
  refine gR.of (by decide +kernel) (Nat.le_of_ble_eq_true rfl) ?_
  intro p e s m below meth c F hr hlk hK hX hP ls hl
  have F : gF p m c cX9_here 1 s ([.ref (h b0)] : List Value).toArray RX9 := F
  generalize ([.ref (h b0)] : List Value).toArray = args at F ⊢
  generalize hQ : MQ below _ _ _ _ _ _ = Q
  have hl : lv_has ls 1 [(0, .ref (h b0))] := hl
  have hx := F.1
  have hb := F.2.1
  unfold f_X9_here at hf
  refine lv_aload_n hx hb dX9_here_0 rfl (lv_at hl 0 rfl) ?_
  refine g_get F hK hP 0 0 9 flX9_160 rfl rfl rfl dX9_here_1 ?_
  refine lv_aload_n hx hb dX9_here_4 rfl (lv_at hl 0 rfl) ?_
  refine g_get F hK hP 0 0 8 flX9_157 rfl rfl rfl dX9_here_5 ?_
  refine lv_icmp_ge (tgt := 23) hx hb dX9_here_8 (by decide) (fun c1 => ?_) (fun c1 => ?_)
  · have hf := g_it c1 hf
    refine lv_iconst (v := (-1)) hx hb dX9_here_23 (by decide) ?_
    have ho := Option.some.inj hf
    rw [← hQ, ← ho]
    exact g_retI F hr hlk dX9_here_24
  · have hf := g_if c1 hf
    refine lv_aload_n hx hb dX9_here_11 rfl (lv_at hl 0 rfl) ?_
    refine g_get F hK hP 0 0 7 flX9_22 rfl rfl rfl dX9_here_12 ?_
    refine lv_aload_n hx hb dX9_here_15 rfl (lv_at hl 0 rfl) ?_
    refine g_get F hK hP 0 0 9 flX9_160 rfl rfl rfl dX9_here_16 ?_
    obtain ⟨x2, hx2, hf⟩ := g_bnd hf
    refine g_iald F hK hP 0 5 rfl rfl hx2 dX9_here_19 ?_
    refine lv_goto (tgt := 24) hx hb dX9_here_20 (by decide) ?_
    have ho := Option.some.inj hf
    rw [← hQ, ← ho]
    exact g_retI F hr hlk dX9_here_24
set_option maxHeartbeats 4000000 in
set_option maxRecDepth 100000 in
theorem c_X9_passesByte {l : Launch} {E : gEnv} (h : Nat → Nat) (b0 : Nat) (w0 : T9) (a1 : Int32) {o : Int32 × T9} (hf : f_X9_passesByte w0 a1 = some o) : gM l yX9_passesByte cX9_passesByte 3 (some .boolean) rX9_passesByte E [.ref (h b0), .int a1] [C9 E h b0 w0] (some (.int o.1)) [C9 E h b0 o.2] := by
  refine gM.of (by decide +kernel) (Nat.le_of_ble_eq_true rfl) rfl ?_
  intro p e s m below meth c F hr hlk hK hX hAB ls hl H locs hG
  have F : gF p m c cX9_passesByte 3 s ([.ref (h b0), .int a1] : List Value).toArray RX9 := F
  generalize ([.ref (h b0), .int a1] : List Value).toArray = args at F ⊢
  generalize hQ : MQ below _ _ _ _ _ _ = Q
  generalize hA : gAd [C9 E h b0 w0] = A at hAB hG
  have hl : lv_has ls 3 [(0, .ref (h b0)), (1, .int a1)] := hl
  have hx := F.1
  have hb := F.2.1
  unfold f_X9_passesByte at hf
  refine lv_aload_n hx hb dX9_passesByte_0 rfl (lv_at hl 0 rfl) ?_
  obtain ⟨x1, hx1, hf⟩ := g_bnd hf
  refine g_rv (As := []) (rest := []) F hK (hG.X hX hAB) hG.1 [0] rfl (c_X9_here h b0 w0 hx1) (kX9_163 F.2.2.2.2 ⟨Nat.le_of_ble_eq_true rfl, Nat.le_of_ble_eq_true rfl⟩) rfl rfl rfl rfl hl.1 rfl (lv_room (Nat.le_of_ble_eq_true rfl)) ⟨Nat.zero_le _, Nat.zero_le _⟩ dX9_passesByte_1 ?_
  refine lv_iload_n hx hb dX9_passesByte_4 rfl (lv_at hl 1 rfl) ?_
  obtain ⟨j2, hf, hfj2⟩ := g_bnd hf
  have hJj2 : ∀ (H : Heap) (locs : List Loc), gS E A s.heap [C9 E h b0 w0] H locs → ∀ ls : Array Slot, lv_has ls 3 [(0, .ref (h b0))] → W p l e rX9_passesByte s m args below meth c H locs 0 0 Q (F0 m 13 ls [.int j2]) := by
    intro H locs hG ls hl
    have hf := hfj2
    refine lv_istore_n (lv' := [(2, .int j2), (0, .ref (h b0))]) hx hb dX9_passesByte_13 rfl hl (by decide) rfl (fun ls hl => ?_)
    refine lv_aload_n hx hb dX9_passesByte_14 rfl (lv_at hl 1 rfl) ?_
    refine lv_dup hx hb dX9_passesByte_15 rfl ?_
    refine g_get F hK hG.1 0 0 9 flX9_160 rfl rfl rfl dX9_passesByte_16 ?_
    refine lv_iload_n hx hb dX9_passesByte_19 rfl (lv_at hl 0 rfl) ?_
    obtain ⟨j4, hf, hfj4⟩ := g_bnd hf
    have hJj4 : ∀ (H : Heap) (locs : List Loc), gS E A s.heap [C9 E h b0 w0] H locs → ∀ ls : Array Slot, lv_has ls 3 [(2, .int j2)] → W p l e rX9_passesByte s m args below meth c H locs 0 0 Q (F0 m 28 ls [.int j4, .int w0.2.2.2.2.2.2.2.2.2, .ref (h b0)]) := by
      intro H locs hG ls hl
      have hf := hfj4
      refine lv_iadd hx hb dX9_passesByte_28 ?_
      refine g_put F hK hG 0 0 9 pfX9_160 rfl rfl (Nat.le_of_ble_eq_true rfl) rfl rfl dX9_passesByte_29 (fun H locs hG => ?_)
      have hG : gS E A s.heap [C9 E h b0 (w0.1, w0.2.1, w0.2.2.1, w0.2.2.2.1, w0.2.2.2.2.1, w0.2.2.2.2.2.1, w0.2.2.2.2.2.2.1, w0.2.2.2.2.2.2.2.1, w0.2.2.2.2.2.2.2.2.1, (w0.2.2.2.2.2.2.2.2.2 + j4))] H locs := hG
      refine lv_iload_n hx hb dX9_passesByte_32 rfl (lv_at hl 0 rfl) ?_
      obtain ⟨u6, hu6, hf⟩ := g_bnd hf
      have ho := Option.some.inj hf
      subst hA
      rw [← hQ, ← ho]
      exact g_mretZ F hr hlk hG (bz_nar hu6) dX9_passesByte_33
    refine lv_if_eq (tgt := 27) hx hb dX9_passesByte_20 (by decide) (fun c5 => ?_) (fun c5 => ?_)
    · have hf := g_it c5 hf
      refine lv_iconst (v := 0) hx hb dX9_passesByte_27 (by decide) ?_
      obtain rfl := Option.some.inj hf
      exact hJj4 _ _ hG ls (lv_sub hl [0] rfl)
    · have hf := g_if c5 hf
      refine lv_iconst (v := 1) hx hb dX9_passesByte_23 (by decide) ?_
      refine lv_goto (tgt := 28) hx hb dX9_passesByte_24 (by decide) ?_
      obtain rfl := Option.some.inj hf
      exact hJj4 _ _ hG ls (lv_sub hl [0] rfl)
  refine lv_icmp_ne (tgt := 12) hx hb dX9_passesByte_5 (by decide) (fun c3 => ?_) (fun c3 => ?_)
  · have hf := g_if c3 hf
    refine lv_iconst (v := 0) hx hb dX9_passesByte_12 (by decide) ?_
    obtain rfl := Option.some.inj hf
    exact hJj2 _ _ hG ls (lv_sub hl [0] rfl)
  · have hf := g_it c3 hf
    refine lv_iconst (v := 1) hx hb dX9_passesByte_8 (by decide) ?_
    refine lv_goto (tgt := 13) hx hb dX9_passesByte_9 (by decide) ?_
    obtain rfl := Option.some.inj hf
    exact hJj2 _ _ hG ls (lv_sub hl [0] rfl)
set_option maxHeartbeats 4000000 in
set_option maxRecDepth 100000 in
theorem c_X9_readsWord {l : Launch} {E : gEnv} (h : Nat → Nat) (b0 : Nat) (w0 : T9) {o : Int32 × T9} (hf : f_X9_readsWord w0 = some o) : gM l yX9_readsWord cX9_readsWord 6 (some .boolean) rX9_readsWord E [.ref (h b0)] [C9 E h b0 w0] (some (.int o.1)) [C9 E h b0 o.2] := by
  refine gM.of (by decide +kernel) (Nat.le_of_ble_eq_true rfl) rfl ?_
  intro p e s m below meth c F hr hlk hK hX hAB ls hl H locs hG
  have F : gF p m c cX9_readsWord 6 s ([.ref (h b0)] : List Value).toArray RX9 := F
  generalize ([.ref (h b0)] : List Value).toArray = args at F ⊢
  generalize hQ : MQ below _ _ _ _ _ _ = Q
  generalize hA : gAd [C9 E h b0 w0] = A at hAB hG
  have hl : lv_has ls 6 [(0, .ref (h b0))] := hl
  have hx := F.1
  have hb := F.2.1
  unfold f_X9_readsWord at hf
  refine lv_aload_n hx hb dX9_readsWord_0 rfl (lv_at hl 0 rfl) ?_
  refine g_get F hK hG.1 0 0 0 flX9_7 rfl rfl rfl dX9_readsWord_1 ?_
  refine lv_iconst (v := 0) hx hb dX9_readsWord_4 (by decide) ?_
  obtain ⟨x1, hx1, hf⟩ := g_bnd hf
  refine g_iald F hK hG.1 0 1 rfl rfl hx1 dX9_readsWord_5 ?_
  refine lv_istore_n (lv' := [(1, .int x1), (0, .ref (h b0))]) hx hb dX9_readsWord_6 rfl hl (by decide) rfl (fun ls hl => ?_)
  refine lv_aload_n hx hb dX9_readsWord_7 rfl (lv_at hl 1 rfl) ?_
  refine g_get F hK hG.1 0 0 9 flX9_160 rfl rfl rfl dX9_readsWord_8 ?_
  refine lv_istore_n (lv' := [(2, .int w0.2.2.2.2.2.2.2.2.2), (1, .int x1), (0, .ref (h b0))]) hx hb dX9_readsWord_11 rfl hl (by decide) rfl (fun ls hl => ?_)
  refine lv_iconst (v := 0) hx hb dX9_readsWord_12 (by decide) ?_
  refine lv_istore_n (lv' := [(3, .int 0), (2, .int w0.2.2.2.2.2.2.2.2.2), (1, .int x1), (0, .ref (h b0))]) hx hb dX9_readsWord_13 rfl hl (by decide) rfl (fun ls hl => ?_)
  obtain ⟨x3, hx3, hfx3⟩ := g_bnd hf
  have hEx3 : ∀ (H : Heap) (locs : List Loc), gS E A s.heap [C9 E h b0 x3.2] H locs → ∀ ls : Array Slot, lv_has ls 6 [(0, .ref (h b0)), (1, .int x1), (2, .int w0.2.2.2.2.2.2.2.2.2), (3, .int x3.1)] → W p l e rX9_readsWord s m args below meth c H locs 0 0 Q (F0 m 72 ls []) := by
    intro H locs hG ls hl
    have hf := hfx3
    refine lv_iload_n hx hb dX9_readsWord_72 rfl (lv_at hl 3 rfl) ?_
    refine lv_if_eq (tgt := 85) hx hb dX9_readsWord_73 (by decide) (fun c11 => ?_) (fun c11 => ?_)
    · have hf := g_it c11 hf
      refine lv_iconst (v := 0) hx hb dX9_readsWord_85 (by decide) ?_
      have ho := Option.some.inj hf
      subst hA
      rw [← hQ, ← ho]
      exact g_mretZ F hr hlk hG narrow_b0 dX9_readsWord_86
    · have hf := g_if c11 hf
      refine lv_aload_n hx hb dX9_readsWord_76 rfl (lv_at hl 0 rfl) ?_
      obtain ⟨x12, hx12, hf⟩ := g_bnd hf
      refine g_rv (As := []) (rest := []) F hK (hG.X hX hAB) hG.1 [0] rfl (c_X9_here h b0 x3.2 hx12) (kX9_163 F.2.2.2.2 ⟨Nat.le_of_ble_eq_true rfl, Nat.le_of_ble_eq_true rfl⟩) rfl rfl rfl rfl hl.1 rfl (lv_room (Nat.le_of_ble_eq_true rfl)) ⟨Nat.zero_le _, Nat.zero_le _⟩ dX9_readsWord_77 ?_
      refine lv_bipush (v := 44) hx hb dX9_readsWord_80 (by decide) ?_
      refine lv_icmp_eq (tgt := 87) hx hb dX9_readsWord_82 (by decide) (fun c13 => ?_) (fun c13 => ?_)
      · have hf := g_it c13 hf
        refine lv_aload_n hx hb dX9_readsWord_87 rfl (lv_at hl 0 rfl) ?_
        refine g_get F hK hG.1 0 0 0 flX9_7 rfl rfl rfl dX9_readsWord_88 ?_
        refine lv_iload_n hx hb dX9_readsWord_91 rfl (lv_at hl 1 rfl) ?_
        refine lv_iconst (v := 0) hx hb dX9_readsWord_92 (by decide) ?_
        obtain ⟨x14, hx14, hf⟩ := g_bnd hf
        refine g_rs (As := [.int x1, .int 0]) (rest := [.ref (h (b0+1))]) F hK (hG.X hX hAB) hG.1 [] rfl (c_X9_at h x1 0 hx14) (kX9_42 F.2.2.2.2 ⟨Nat.le_of_ble_eq_true rfl, Nat.le_of_ble_eq_true rfl⟩) rfl hl.1 rfl (lv_room (Nat.le_of_ble_eq_true rfl)) ⟨Nat.zero_le _, Nat.zero_le _⟩ dX9_readsWord_93 ?_
        refine lv_iload_n hx hb dX9_readsWord_96 rfl (lv_at hl 3 rfl) ?_
        obtain ⟨x15, hx15, hf⟩ := g_bnd hf
        refine g_iast F hK hG 0 1 rfl rfl hx15 dX9_readsWord_97 (fun H locs hG => ?_)
        have hG : gS E A s.heap [C9 E h b0 (x15, x3.2.2.1, x3.2.2.2.1, x3.2.2.2.2.1, x3.2.2.2.2.2.1, x3.2.2.2.2.2.2.1, x3.2.2.2.2.2.2.2.1, x3.2.2.2.2.2.2.2.2.1, x3.2.2.2.2.2.2.2.2.2.1, x3.2.2.2.2.2.2.2.2.2.2)] H locs := hG
        refine lv_iconst (v := 0) hx hb dX9_readsWord_98 (by decide) ?_
        refine lv_istore (lv' := [(4, .int 0), (0, .ref (h b0)), (1, .int x1), (2, .int w0.2.2.2.2.2.2.2.2.2), (3, .int x3.1)]) hx hb dX9_readsWord_99 hl (by decide) rfl (fun ls hl => ?_)
        refine lv_iconst (v := 0) hx hb dX9_readsWord_101 (by decide) ?_
        refine lv_istore (lv' := [(5, .int 0), (4, .int 0), (0, .ref (h b0)), (1, .int x1), (2, .int w0.2.2.2.2.2.2.2.2.2), (3, .int x3.1)]) hx hb dX9_readsWord_102 hl (by decide) rfl (fun ls hl => ?_)
        obtain ⟨x17, hx17, hfx17⟩ := g_bnd hf
        have hEx17 : ∀ (H : Heap) (locs : List Loc), gS E A s.heap [C9 E h b0 (x15, x3.2.2.1, x3.2.2.2.1, x3.2.2.2.2.1, x3.2.2.2.2.2.1, x3.2.2.2.2.2.2.1, x3.2.2.2.2.2.2.2.1, x3.2.2.2.2.2.2.2.2.1, x3.2.2.2.2.2.2.2.2.2.1, x3.2.2.2.2.2.2.2.2.2.2)] H locs → ∀ ls : Array Slot, lv_has ls 6 [(0, .ref (h b0)), (2, .int w0.2.2.2.2.2.2.2.2.2), (4, .int x17)] → W p l e rX9_readsWord s m args below meth c H locs 0 0 Q (F0 m 138 ls []) := by
          intro H locs hG ls hl
          have hf := hfx17
          refine lv_aload_n hx hb dX9_readsWord_138 rfl (lv_at hl 0 rfl) ?_
          refine lv_iload hx hb dX9_readsWord_139 (lv_at hl 2 rfl) ?_
          obtain ⟨j23, hf, hfj23⟩ := g_bnd hf
          have hJj23 : ∀ (H : Heap) (locs : List Loc), gS E A s.heap [C9 E h b0 (x15, x3.2.2.1, x3.2.2.2.1, x3.2.2.2.2.1, x3.2.2.2.2.2.1, x3.2.2.2.2.2.2.1, x3.2.2.2.2.2.2.2.1, x3.2.2.2.2.2.2.2.2.1, x3.2.2.2.2.2.2.2.2.2.1, x3.2.2.2.2.2.2.2.2.2.2)] H locs → ∀ ls : Array Slot, lv_has ls 6 [(4, .int x17)] → W p l e rX9_readsWord s m args below meth c H locs 0 0 Q (F0 m 154 ls [.int j23, .ref (h b0)]) := by
            intro H locs hG ls hl
            have hf := hfj23
            refine g_put F hK hG 0 0 9 pfX9_160 rfl rfl (Nat.le_of_ble_eq_true rfl) rfl rfl dX9_readsWord_154 (fun H locs hG => ?_)
            have hG : gS E A s.heap [C9 E h b0 (x15, x3.2.2.1, x3.2.2.2.1, x3.2.2.2.2.1, x3.2.2.2.2.2.1, x3.2.2.2.2.2.2.1, x3.2.2.2.2.2.2.2.1, x3.2.2.2.2.2.2.2.2.1, x3.2.2.2.2.2.2.2.2.2.1, j23)] H locs := hG
            refine lv_iload hx hb dX9_readsWord_157 (lv_at hl 0 rfl) ?_
            refine lv_if_ne (tgt := 166) hx hb dX9_readsWord_159 (by decide) (fun c25 => ?_) (fun c25 => ?_)
            · have hf := g_if c25 hf
              refine lv_iconst (v := 0) hx hb dX9_readsWord_166 (by decide) ?_
              have ho := Option.some.inj hf
              subst hA
              rw [← hQ, ← ho]
              exact g_mretZ F hr hlk hG narrow_b0 dX9_readsWord_167
            · have hf := g_it c25 hf
              refine lv_iconst (v := 1) hx hb dX9_readsWord_162 (by decide) ?_
              refine lv_goto (tgt := 167) hx hb dX9_readsWord_163 (by decide) ?_
              have ho := Option.some.inj hf
              subst hA
              rw [← hQ, ← ho]
              exact g_mretZ F hr hlk hG narrow_b1 dX9_readsWord_167
          refine lv_if_eq (tgt := 148) hx hb dX9_readsWord_141 (by decide) (fun c24 => ?_) (fun c24 => ?_)
          · have hf := g_it c24 hf
            refine lv_aload_n hx hb dX9_readsWord_148 rfl (lv_at hl 0 rfl) ?_
            refine g_get F hK hG.1 0 0 9 flX9_160 rfl rfl rfl dX9_readsWord_149 ?_
            refine lv_iconst (v := 1) hx hb dX9_readsWord_152 (by decide) ?_
            refine lv_iadd hx hb dX9_readsWord_153 ?_
            obtain rfl := Option.some.inj hf
            exact hJj23 _ _ hG ls (lv_sub hl [2] rfl)
          · have hf := g_if c24 hf
            refine lv_iload_n hx hb dX9_readsWord_144 rfl (lv_at hl 1 rfl) ?_
            refine lv_goto (tgt := 154) hx hb dX9_readsWord_145 (by decide) ?_
            obtain rfl := Option.some.inj hf
            exact hJj23 _ _ hG ls (lv_sub hl [2] rfl)
        refine lp_rule (fun (v16 : Int32 × Int32) => ∀ (H : Heap) (locs : List Loc), gS E A s.heap [C9 E h b0 (x15, x3.2.2.1, x3.2.2.2.1, x3.2.2.2.2.1, x3.2.2.2.2.2.1, x3.2.2.2.2.2.2.1, x3.2.2.2.2.2.2.2.1, x3.2.2.2.2.2.2.2.2.1, x3.2.2.2.2.2.2.2.2.2.1, x3.2.2.2.2.2.2.2.2.2.2)] H locs → ∀ ls : Array Slot, lv_has ls 6 [(0, .ref (h b0)), (1, .int x1), (2, .int w0.2.2.2.2.2.2.2.2.2), (4, .int v16.1), (5, .int v16.2)] → W p l e rX9_readsWord s m args below meth c H locs 0 0 Q (F0 m 104 ls [])) ?_ _ _ hx17 _ _ hG ls (lv_sub hl [2, 3, 4, 1, 0] rfl)
        intro v16 y hf hbackv16 hexitv16 H locs hG ls hl
        refine lv_iload hx hb dX9_readsWord_104 (lv_at hl 4 rfl) ?_
        refine lv_iload_n hx hb dX9_readsWord_106 rfl (lv_at hl 1 rfl) ?_
        refine lv_icmp_ge (tgt := 138) hx hb dX9_readsWord_107 (by decide) (fun c18 => ?_) (fun c18 => ?_)
        · have hf := g_it c18 hf
          obtain rfl := hexitv16 _ (Option.some.inj hf).symm
          exact hEx17 _ _ hG ls (lv_sub hl [0, 2, 3] rfl)
        · have hf := g_if c18 hf
          refine lv_iload hx hb dX9_readsWord_110 (lv_at hl 3 rfl) ?_
          obtain ⟨j19, hf, hfj19⟩ := g_bnd hf
          have hJj19 : ∀ (H : Heap) (locs : List Loc), gS E A s.heap [C9 E h b0 (x15, x3.2.2.1, x3.2.2.2.1, x3.2.2.2.2.1, x3.2.2.2.2.2.1, x3.2.2.2.2.2.2.1, x3.2.2.2.2.2.2.2.1, x3.2.2.2.2.2.2.2.2.1, x3.2.2.2.2.2.2.2.2.2.1, x3.2.2.2.2.2.2.2.2.2.2)] H locs → ∀ ls : Array Slot, lv_has ls 6 [(0, .ref (h b0)), (1, .int x1), (2, .int w0.2.2.2.2.2.2.2.2.2), (5, .int v16.2)] → W p l e rX9_readsWord s m args below meth c H locs 0 0 Q (F0 m 130 ls [.int j19]) := by
            intro H locs hG ls hl
            have hf := hfj19
            refine lv_istore (lv' := [(4, .int j19), (0, .ref (h b0)), (1, .int x1), (2, .int w0.2.2.2.2.2.2.2.2.2), (5, .int v16.2)]) hx hb dX9_readsWord_130 hl (by decide) rfl (fun ls hl => ?_)
            refine lv_iinc (v := (v16.2 + 1)) (lv' := [(5, .int (v16.2 + 1)), (4, .int j19), (0, .ref (h b0)), (1, .int x1), (2, .int w0.2.2.2.2.2.2.2.2.2)]) hx hb dX9_readsWord_132 hl (k := 4) rfl rfl (by decide) rfl (fun ls hl => ?_)
            refine lv_goto (tgt := 104) hx hb dX9_readsWord_135 (by decide) ?_
            exact hbackv16 _ (Option.some.inj hf).symm _ _ hG ls (lv_sub hl [2, 3, 4, 1, 0] rfl)
          refine lv_if_ne (tgt := 125) hx hb dX9_readsWord_112 (by decide) (fun c20 => ?_) (fun c20 => ?_)
          · have hf := g_if c20 hf
            refine lv_iconst (v := 1) hx hb dX9_readsWord_125 (by decide) ?_
            refine lv_goto (tgt := 130) hx hb dX9_readsWord_126 (by decide) ?_
            obtain rfl := Option.some.inj hf
            exact hJj19 _ _ hG ls (lv_sub hl [0, 1, 2, 4] rfl)
          · have hf := g_it c20 hf
            refine lv_aload_n hx hb dX9_readsWord_115 rfl (lv_at hl 0 rfl) ?_
            refine lv_iload hx hb dX9_readsWord_116 (lv_at hl 4 rfl) ?_
            refine lv_iload_n hx hb dX9_readsWord_118 rfl (lv_at hl 1 rfl) ?_
            obtain ⟨x21, hx21, hf⟩ := g_bnd hf
            refine g_rv (As := [.int v16.2, .int x1]) (rest := []) F hK (hG.X hX hAB) hG.1 [0] rfl (c_X9_compares h b0 (x15, x3.2.2.1, x3.2.2.2.1, x3.2.2.2.2.1, x3.2.2.2.2.2.1, x3.2.2.2.2.2.2.1, x3.2.2.2.2.2.2.2.1, x3.2.2.2.2.2.2.2.2.1, x3.2.2.2.2.2.2.2.2.2.1, x3.2.2.2.2.2.2.2.2.2.2) v16.2 x1 hx21) (kX9_56 F.2.2.2.2 ⟨Nat.le_of_ble_eq_true rfl, Nat.le_of_ble_eq_true rfl⟩) rfl rfl rfl rfl hl.1 rfl (lv_room (Nat.le_of_ble_eq_true rfl)) ⟨Nat.zero_le _, Nat.zero_le _⟩ dX9_readsWord_119 ?_
            refine lv_if_ne (tgt := 129) hx hb dX9_readsWord_122 (by decide) (fun c22 => ?_) (fun c22 => ?_)
            · have hf := g_if c22 hf
              refine lv_iconst (v := 0) hx hb dX9_readsWord_129 (by decide) ?_
              obtain rfl := Option.some.inj hf
              exact hJj19 _ _ hG ls (lv_sub hl [0, 1, 2, 4] rfl)
            · have hf := g_it c22 hf
              refine lv_iconst (v := 1) hx hb dX9_readsWord_125 (by decide) ?_
              refine lv_goto (tgt := 130) hx hb dX9_readsWord_126 (by decide) ?_
              obtain rfl := Option.some.inj hf
              exact hJj19 _ _ hG ls (lv_sub hl [0, 1, 2, 4] rfl)
      · have hf := g_if c13 hf
        refine lv_iconst (v := 0) hx hb dX9_readsWord_85 (by decide) ?_
        have ho := Option.some.inj hf
        subst hA
        rw [← hQ, ← ho]
        exact g_mretZ F hr hlk hG narrow_b0 dX9_readsWord_86
  refine lp_rule (fun (v2 : Int32 × T9) => ∀ (H : Heap) (locs : List Loc), gS E A s.heap [C9 E h b0 v2.2] H locs → ∀ ls : Array Slot, lv_has ls 6 [(0, .ref (h b0)), (1, .int x1), (2, .int w0.2.2.2.2.2.2.2.2.2), (3, .int v2.1)] → W p l e rX9_readsWord s m args below meth c H locs 0 0 Q (F0 m 14 ls [])) ?_ _ _ hx3 _ _ hG ls (lv_sub hl [3, 2, 1, 0] rfl)
  intro v2 y hf hbackv2 hexitv2 H locs hG ls hl
  refine lv_aload_n hx hb dX9_readsWord_14 rfl (lv_at hl 0 rfl) ?_
  obtain ⟨x4, hx4, hf⟩ := g_bnd hf
  refine g_rv (As := []) (rest := []) F hK (hG.X hX hAB) hG.1 [0] rfl (c_X9_here h b0 v2.2 hx4) (kX9_163 F.2.2.2.2 ⟨Nat.le_of_ble_eq_true rfl, Nat.le_of_ble_eq_true rfl⟩) rfl rfl rfl rfl hl.1 rfl (lv_room (Nat.le_of_ble_eq_true rfl)) ⟨Nat.zero_le _, Nat.zero_le _⟩ dX9_readsWord_15 ?_
  refine lv_i2l hx hb dX9_readsWord_18 rfl ?_
  refine lv_ldc2 (v := 97) hx hb F.2.2.2.1 (F.2.2.2.2 _ gw_1094) dX9_readsWord_19 ?_
  refine lv_ldc2 (v := 122) hx hb F.2.2.2.1 (F.2.2.2.2 _ gw_1095) dX9_readsWord_22 ?_
  obtain ⟨x5, hx5, hf⟩ := g_bnd hf
  refine g_rs (As := [.long x4.toInt64, .long 97, .long 122]) (rest := []) F hK (hG.X hX hAB) hG.1 [] rfl (c_X9_in h x4.toInt64 97 122 hx5) (kX9_46 F.2.2.2.2 ⟨Nat.le_of_ble_eq_true rfl, Nat.le_of_ble_eq_true rfl⟩) rfl hl.1 rfl (lv_room (Nat.le_of_ble_eq_true rfl)) ⟨Nat.zero_le _, Nat.zero_le _⟩ dX9_readsWord_25 ?_
  refine lv_if_eq (tgt := 72) hx hb dX9_readsWord_28 (by decide) (fun c6 => ?_) (fun c6 => ?_)
  · have hf := g_it c6 hf
    obtain rfl := hexitv2 _ (Option.some.inj hf).symm
    exact hEx3 _ _ hG ls (lv_sub hl [0, 1, 2, 3] rfl)
  · have hf := g_if c6 hf
    refine lv_iload_n hx hb dX9_readsWord_31 rfl (lv_at hl 3 rfl) ?_
    refine lv_bipush (v := 10) hx hb dX9_readsWord_32 (by decide) ?_
    refine lv_icmp_ge (tgt := 72) hx hb dX9_readsWord_34 (by decide) (fun c7 => ?_) (fun c7 => ?_)
    · have hf := g_it c7 hf
      obtain rfl := hexitv2 _ (Option.some.inj hf).symm
      exact hEx3 _ _ hG ls (lv_sub hl [0, 1, 2, 3] rfl)
    · have hf := g_if c7 hf
      refine lv_aload_n hx hb dX9_readsWord_37 rfl (lv_at hl 0 rfl) ?_
      refine g_get F hK hG.1 0 0 0 flX9_7 rfl rfl rfl dX9_readsWord_38 ?_
      refine lv_iload_n hx hb dX9_readsWord_41 rfl (lv_at hl 1 rfl) ?_
      refine lv_iconst (v := 4) hx hb dX9_readsWord_42 (by decide) ?_
      refine lv_iload_n hx hb dX9_readsWord_43 rfl (lv_at hl 3 rfl) ?_
      refine lv_iadd hx hb dX9_readsWord_44 ?_
      obtain ⟨x8, hx8, hf⟩ := g_bnd hf
      refine g_rs (As := [.int x1, .int (4 + v2.1)]) (rest := [.ref (h (b0+1))]) F hK (hG.X hX hAB) hG.1 [] rfl (c_X9_at h x1 (4 + v2.1) hx8) (kX9_42 F.2.2.2.2 ⟨Nat.le_of_ble_eq_true rfl, Nat.le_of_ble_eq_true rfl⟩) rfl hl.1 rfl (lv_room (Nat.le_of_ble_eq_true rfl)) ⟨Nat.zero_le _, Nat.zero_le _⟩ dX9_readsWord_45 ?_
      refine lv_aload_n hx hb dX9_readsWord_48 rfl (lv_at hl 0 rfl) ?_
      obtain ⟨x9, hx9, hf⟩ := g_bnd hf
      refine g_rv (As := []) (rest := [.int x8, .ref (h (b0+1))]) F hK (hG.X hX hAB) hG.1 [0] rfl (c_X9_here h b0 v2.2 hx9) (kX9_163 F.2.2.2.2 ⟨Nat.le_of_ble_eq_true rfl, Nat.le_of_ble_eq_true rfl⟩) rfl rfl rfl rfl hl.1 rfl (lv_room (Nat.le_of_ble_eq_true rfl)) ⟨Nat.zero_le _, Nat.zero_le _⟩ dX9_readsWord_49 ?_
      refine lv_bipush (v := 97) hx hb dX9_readsWord_52 (by decide) ?_
      refine lv_isub hx hb dX9_readsWord_54 ?_
      obtain ⟨x10, hx10, hf⟩ := g_bnd hf
      refine g_iast F hK hG 0 1 rfl rfl hx10 dX9_readsWord_55 (fun H locs hG => ?_)
      have hG : gS E A s.heap [C9 E h b0 (x10, v2.2.2.1, v2.2.2.2.1, v2.2.2.2.2.1, v2.2.2.2.2.2.1, v2.2.2.2.2.2.2.1, v2.2.2.2.2.2.2.2.1, v2.2.2.2.2.2.2.2.2.1, v2.2.2.2.2.2.2.2.2.2.1, v2.2.2.2.2.2.2.2.2.2.2)] H locs := hG
      refine lv_iinc (v := (v2.1 + 1)) (lv' := [(3, .int (v2.1 + 1)), (0, .ref (h b0)), (1, .int x1), (2, .int w0.2.2.2.2.2.2.2.2.2)]) hx hb dX9_readsWord_56 hl (k := 3) rfl rfl (by decide) rfl (fun ls hl => ?_)
      refine lv_aload_n hx hb dX9_readsWord_59 rfl (lv_at hl 1 rfl) ?_
      refine lv_dup hx hb dX9_readsWord_60 rfl ?_
      refine g_get F hK hG.1 0 0 9 flX9_160 rfl rfl rfl dX9_readsWord_61 ?_
      refine lv_iconst (v := 1) hx hb dX9_readsWord_64 (by decide) ?_
      refine lv_iadd hx hb dX9_readsWord_65 ?_
      refine g_put F hK hG 0 0 9 pfX9_160 rfl rfl (Nat.le_of_ble_eq_true rfl) rfl rfl dX9_readsWord_66 (fun H locs hG => ?_)
      have hG : gS E A s.heap [C9 E h b0 (x10, v2.2.2.1, v2.2.2.2.1, v2.2.2.2.2.1, v2.2.2.2.2.2.1, v2.2.2.2.2.2.2.1, v2.2.2.2.2.2.2.2.1, v2.2.2.2.2.2.2.2.2.1, v2.2.2.2.2.2.2.2.2.2.1, (v2.2.2.2.2.2.2.2.2.2.2 + 1))] H locs := hG
      refine lv_goto (tgt := 14) hx hb dX9_readsWord_69 (by decide) ?_
      exact hbackv2 _ (Option.some.inj hf).symm _ _ hG ls (lv_sub hl [1, 2, 3, 0] rfl)
set_option maxHeartbeats 4000000 in
set_option maxRecDepth 100000 in
theorem c_X9_readsItem {l : Launch} {E : gEnv} (h : Nat → Nat) (b0 : Nat) (w0 : T9) {o : Int32 × T9} (hf : f_X9_readsItem w0 = some o) : gM l yX9_readsItem cX9_readsItem 3 (some .boolean) rX9_readsItem E [.ref (h b0)] [C9 E h b0 w0] (some (.int o.1)) [C9 E h b0 o.2] := by
  refine gM.of (by decide +kernel) (Nat.le_of_ble_eq_true rfl) rfl ?_
  intro p e s m below meth c F hr hlk hK hX hAB ls hl H locs hG
  have F : gF p m c cX9_readsItem 3 s ([.ref (h b0)] : List Value).toArray RX9 := F
  generalize ([.ref (h b0)] : List Value).toArray = args at F ⊢
  generalize hQ : MQ below _ _ _ _ _ _ = Q
  generalize hA : gAd [C9 E h b0 w0] = A at hAB hG
  have hl : lv_has ls 3 [(0, .ref (h b0))] := hl
  have hx := F.1
  have hb := F.2.1
  unfold f_X9_readsItem at hf
  refine lv_aload_n hx hb dX9_readsItem_0 rfl (lv_at hl 0 rfl) ?_
  refine g_get F hK hG.1 0 0 0 flX9_7 rfl rfl rfl dX9_readsItem_1 ?_
  refine lv_iconst (v := 0) hx hb dX9_readsItem_4 (by decide) ?_
  obtain ⟨x1, hx1, hf⟩ := g_bnd hf
  refine g_iald F hK hG.1 0 1 rfl rfl hx1 dX9_readsItem_5 ?_
  refine lv_bipush (v := 50) hx hb dX9_readsItem_6 (by decide) ?_
  refine lv_icmp_eq (tgt := 18) hx hb dX9_readsItem_8 (by decide) (fun c2 => ?_) (fun c2 => ?_)
  · have hf := g_it c2 hf
    refine lv_iconst (v := 0) hx hb dX9_readsItem_18 (by decide) ?_
    have ho := Option.some.inj hf
    subst hA
    rw [← hQ, ← ho]
    exact g_mretZ F hr hlk hG narrow_b0 dX9_readsItem_19
  · have hf := g_if c2 hf
    refine lv_aload_n hx hb dX9_readsItem_11 rfl (lv_at hl 0 rfl) ?_
    obtain ⟨x3, hx3, hf⟩ := g_bnd hf
    refine g_mv (S' := [C9 E h b0 x3.2]) (As := []) (rest := []) F hK hX hAB hG [0] rfl rfl (c_X9_readsWord h b0 w0 hx3) rfl (kX9_170 F.2.2.2.2 ⟨Nat.le_of_ble_eq_true rfl, Nat.le_of_ble_eq_true rfl⟩) rfl rfl rfl rfl hl.1 rfl (lv_room (Nat.le_of_ble_eq_true rfl)) ⟨Nat.zero_le _, Nat.zero_le _⟩ dX9_readsItem_12 (fun H locs hG => ?_)
    refine lv_if_ne (tgt := 20) hx hb dX9_readsItem_15 (by decide) (fun c4 => ?_) (fun c4 => ?_)
    · have hf := g_if c4 hf
      refine lv_aload_n hx hb dX9_readsItem_20 rfl (lv_at hl 0 rfl) ?_
      refine g_get F hK hG.1 0 0 9 flX9_160 rfl rfl rfl dX9_readsItem_21 ?_
      refine lv_istore_n (lv' := [(1, .int x3.2.2.2.2.2.2.2.2.2.2), (0, .ref (h b0))]) hx hb dX9_readsItem_24 rfl hl (by decide) rfl (fun ls hl => ?_)
      refine lv_iconst (v := 0) hx hb dX9_readsItem_25 (by decide) ?_
      refine lv_istore_n (lv' := [(2, .int 0), (1, .int x3.2.2.2.2.2.2.2.2.2.2), (0, .ref (h b0))]) hx hb dX9_readsItem_26 rfl hl (by decide) rfl (fun ls hl => ?_)
      obtain ⟨x6, hx6, hfx6⟩ := g_bnd hf
      have hEx6 : ∀ (H : Heap) (locs : List Loc), gS E A s.heap [C9 E h b0 x6.2] H locs → ∀ ls : Array Slot, lv_has ls 3 [(0, .ref (h b0)), (1, .int x3.2.2.2.2.2.2.2.2.2.2), (2, .int x6.1)] → W p l e rX9_readsItem s m args below meth c H locs 0 0 Q (F0 m 80 ls []) := by
        intro H locs hG ls hl
        have hf := hfx6
        refine lv_aload_n hx hb dX9_readsItem_80 rfl (lv_at hl 0 rfl) ?_
        refine g_get F hK hG.1 0 0 9 flX9_160 rfl rfl rfl dX9_readsItem_81 ?_
        refine lv_iload_n hx hb dX9_readsItem_84 rfl (lv_at hl 1 rfl) ?_
        refine lv_icmp_eq (tgt := 97) hx hb dX9_readsItem_85 (by decide) (fun c12 => ?_) (fun c12 => ?_)
        · have hf := g_it c12 hf
          refine lv_iconst (v := 0) hx hb dX9_readsItem_97 (by decide) ?_
          have ho := Option.some.inj hf
          subst hA
          rw [← hQ, ← ho]
          exact g_mretZ F hr hlk hG narrow_b0 dX9_readsItem_98
        · have hf := g_if c12 hf
          refine lv_aload_n hx hb dX9_readsItem_88 rfl (lv_at hl 0 rfl) ?_
          refine lv_bipush (v := 59) hx hb dX9_readsItem_89 (by decide) ?_
          obtain ⟨x13, hx13, hf⟩ := g_bnd hf
          refine g_mv (S' := [C9 E h b0 x13.2]) (As := [.int 59]) (rest := []) F hK hX hAB hG [0] rfl rfl (c_X9_passesByte h b0 x6.2 59 hx13) rfl (kX9_178 F.2.2.2.2 ⟨Nat.le_of_ble_eq_true rfl, Nat.le_of_ble_eq_true rfl⟩) rfl rfl rfl rfl hl.1 rfl (lv_room (Nat.le_of_ble_eq_true rfl)) ⟨Nat.zero_le _, Nat.zero_le _⟩ dX9_readsItem_91 (fun H locs hG => ?_)
          refine lv_if_ne (tgt := 99) hx hb dX9_readsItem_94 (by decide) (fun c14 => ?_) (fun c14 => ?_)
          · have hf := g_if c14 hf
            refine lv_aload_n hx hb dX9_readsItem_99 rfl (lv_at hl 0 rfl) ?_
            refine g_get F hK hG.1 0 0 0 flX9_7 rfl rfl rfl dX9_readsItem_100 ?_
            refine lv_aload_n hx hb dX9_readsItem_103 rfl (lv_at hl 0 rfl) ?_
            refine g_get F hK hG.1 0 0 0 flX9_7 rfl rfl rfl dX9_readsItem_104 ?_
            refine lv_iconst (v := 0) hx hb dX9_readsItem_107 (by decide) ?_
            obtain ⟨x15, hx15, hf⟩ := g_bnd hf
            refine g_iald F hK hG.1 0 1 rfl rfl hx15 dX9_readsItem_108 ?_
            refine lv_iconst (v := 1) hx hb dX9_readsItem_109 (by decide) ?_
            obtain ⟨x16, hx16, hf⟩ := g_bnd hf
            refine g_rs (As := [.int x15, .int 1]) (rest := [.ref (h (b0+1))]) F hK (hG.X hX hAB) hG.1 [] rfl (c_X9_at h x15 1 hx16) (kX9_42 F.2.2.2.2 ⟨Nat.le_of_ble_eq_true rfl, Nat.le_of_ble_eq_true rfl⟩) rfl hl.1 rfl (lv_room (Nat.le_of_ble_eq_true rfl)) ⟨Nat.zero_le _, Nat.zero_le _⟩ dX9_readsItem_110 ?_
            refine lv_iload_n hx hb dX9_readsItem_113 rfl (lv_at hl 2 rfl) ?_
            obtain ⟨x17, hx17, hf⟩ := g_bnd hf
            refine g_iast F hK hG 0 1 rfl rfl hx17 dX9_readsItem_114 (fun H locs hG => ?_)
            have hG : gS E A s.heap [C9 E h b0 (x17, x13.2.2.1, x13.2.2.2.1, x13.2.2.2.2.1, x13.2.2.2.2.2.1, x13.2.2.2.2.2.2.1, x13.2.2.2.2.2.2.2.1, x13.2.2.2.2.2.2.2.2.1, x13.2.2.2.2.2.2.2.2.2.1, x13.2.2.2.2.2.2.2.2.2.2)] H locs := hG
            refine lv_aload_n hx hb dX9_readsItem_115 rfl (lv_at hl 0 rfl) ?_
            refine g_get F hK hG.1 0 0 0 flX9_7 rfl rfl rfl dX9_readsItem_116 ?_
            refine lv_aload_n hx hb dX9_readsItem_119 rfl (lv_at hl 0 rfl) ?_
            refine g_get F hK hG.1 0 0 0 flX9_7 rfl rfl rfl dX9_readsItem_120 ?_
            refine lv_iconst (v := 0) hx hb dX9_readsItem_123 (by decide) ?_
            obtain ⟨x18, hx18, hf⟩ := g_bnd hf
            refine g_iald F hK hG.1 0 1 rfl rfl hx18 dX9_readsItem_124 ?_
            refine lv_iconst (v := 2) hx hb dX9_readsItem_125 (by decide) ?_
            obtain ⟨x19, hx19, hf⟩ := g_bnd hf
            refine g_rs (As := [.int x18, .int 2]) (rest := [.ref (h (b0+1))]) F hK (hG.X hX hAB) hG.1 [] rfl (c_X9_at h x18 2 hx19) (kX9_42 F.2.2.2.2 ⟨Nat.le_of_ble_eq_true rfl, Nat.le_of_ble_eq_true rfl⟩) rfl hl.1 rfl (lv_room (Nat.le_of_ble_eq_true rfl)) ⟨Nat.zero_le _, Nat.zero_le _⟩ dX9_readsItem_126 ?_
            refine lv_iconst (v := 0) hx hb dX9_readsItem_129 (by decide) ?_
            obtain ⟨x20, hx20, hf⟩ := g_bnd hf
            refine g_iast F hK hG 0 1 rfl rfl hx20 dX9_readsItem_130 (fun H locs hG => ?_)
            have hG : gS E A s.heap [C9 E h b0 (x20, x13.2.2.1, x13.2.2.2.1, x13.2.2.2.2.1, x13.2.2.2.2.2.1, x13.2.2.2.2.2.2.1, x13.2.2.2.2.2.2.2.1, x13.2.2.2.2.2.2.2.2.1, x13.2.2.2.2.2.2.2.2.2.1, x13.2.2.2.2.2.2.2.2.2.2)] H locs := hG
            refine lv_aload_n hx hb dX9_readsItem_131 rfl (lv_at hl 0 rfl) ?_
            refine g_get F hK hG.1 0 0 0 flX9_7 rfl rfl rfl dX9_readsItem_132 ?_
            refine lv_aload_n hx hb dX9_readsItem_135 rfl (lv_at hl 0 rfl) ?_
            refine g_get F hK hG.1 0 0 0 flX9_7 rfl rfl rfl dX9_readsItem_136 ?_
            refine lv_iconst (v := 0) hx hb dX9_readsItem_139 (by decide) ?_
            obtain ⟨x21, hx21, hf⟩ := g_bnd hf
            refine g_iald F hK hG.1 0 1 rfl rfl hx21 dX9_readsItem_140 ?_
            refine lv_iconst (v := 3) hx hb dX9_readsItem_141 (by decide) ?_
            obtain ⟨x22, hx22, hf⟩ := g_bnd hf
            refine g_rs (As := [.int x21, .int 3]) (rest := [.ref (h (b0+1))]) F hK (hG.X hX hAB) hG.1 [] rfl (c_X9_at h x21 3 hx22) (kX9_42 F.2.2.2.2 ⟨Nat.le_of_ble_eq_true rfl, Nat.le_of_ble_eq_true rfl⟩) rfl hl.1 rfl (lv_room (Nat.le_of_ble_eq_true rfl)) ⟨Nat.zero_le _, Nat.zero_le _⟩ dX9_readsItem_142 ?_
            refine lv_iconst (v := 0) hx hb dX9_readsItem_145 (by decide) ?_
            obtain ⟨x23, hx23, hf⟩ := g_bnd hf
            refine g_iast F hK hG 0 1 rfl rfl hx23 dX9_readsItem_146 (fun H locs hG => ?_)
            have hG : gS E A s.heap [C9 E h b0 (x23, x13.2.2.1, x13.2.2.2.1, x13.2.2.2.2.1, x13.2.2.2.2.2.1, x13.2.2.2.2.2.2.1, x13.2.2.2.2.2.2.2.1, x13.2.2.2.2.2.2.2.2.1, x13.2.2.2.2.2.2.2.2.2.1, x13.2.2.2.2.2.2.2.2.2.2)] H locs := hG
            refine lv_aload_n hx hb dX9_readsItem_147 rfl (lv_at hl 0 rfl) ?_
            refine g_get F hK hG.1 0 0 0 flX9_7 rfl rfl rfl dX9_readsItem_148 ?_
            refine lv_iconst (v := 0) hx hb dX9_readsItem_151 (by decide) ?_
            refine lv_dup2_11 hx hb dX9_readsItem_152 rfl rfl ?_
            obtain ⟨x24, hx24, hf⟩ := g_bnd hf
            refine g_iald F hK hG.1 0 1 rfl rfl hx24 dX9_readsItem_153 ?_
            refine lv_iconst (v := 1) hx hb dX9_readsItem_154 (by decide) ?_
            refine lv_iadd hx hb dX9_readsItem_155 ?_
            obtain ⟨x25, hx25, hf⟩ := g_bnd hf
            refine g_iast F hK hG 0 1 rfl rfl hx25 dX9_readsItem_156 (fun H locs hG => ?_)
            have hG : gS E A s.heap [C9 E h b0 (x25, x13.2.2.1, x13.2.2.2.1, x13.2.2.2.2.1, x13.2.2.2.2.2.1, x13.2.2.2.2.2.2.1, x13.2.2.2.2.2.2.2.1, x13.2.2.2.2.2.2.2.2.1, x13.2.2.2.2.2.2.2.2.2.1, x13.2.2.2.2.2.2.2.2.2.2)] H locs := hG
            refine lv_iconst (v := 1) hx hb dX9_readsItem_157 (by decide) ?_
            have ho := Option.some.inj hf
            subst hA
            rw [← hQ, ← ho]
            exact g_mretZ F hr hlk hG narrow_b1 dX9_readsItem_158
          · have hf := g_it c14 hf
            refine lv_iconst (v := 0) hx hb dX9_readsItem_97 (by decide) ?_
            have ho := Option.some.inj hf
            subst hA
            rw [← hQ, ← ho]
            exact g_mretZ F hr hlk hG narrow_b0 dX9_readsItem_98
      refine lp_rule (fun (v5 : Int32 × T9) => ∀ (H : Heap) (locs : List Loc), gS E A s.heap [C9 E h b0 v5.2] H locs → ∀ ls : Array Slot, lv_has ls 3 [(0, .ref (h b0)), (1, .int x3.2.2.2.2.2.2.2.2.2.2), (2, .int v5.1)] → W p l e rX9_readsItem s m args below meth c H locs 0 0 Q (F0 m 27 ls [])) ?_ _ _ hx6 _ _ hG ls (lv_sub hl [2, 1, 0] rfl)
      intro v5 y hf hbackv5 hexitv5 H locs hG ls hl
      refine lv_aload_n hx hb dX9_readsItem_27 rfl (lv_at hl 0 rfl) ?_
      obtain ⟨x7, hx7, hf⟩ := g_bnd hf
      refine g_rv (As := []) (rest := []) F hK (hG.X hX hAB) hG.1 [0] rfl (c_X9_here h b0 v5.2 hx7) (kX9_163 F.2.2.2.2 ⟨Nat.le_of_ble_eq_true rfl, Nat.le_of_ble_eq_true rfl⟩) rfl rfl rfl rfl hl.1 rfl (lv_room (Nat.le_of_ble_eq_true rfl)) ⟨Nat.zero_le _, Nat.zero_le _⟩ dX9_readsItem_28 ?_
      refine lv_i2l hx hb dX9_readsItem_31 rfl ?_
      refine lv_ldc2 (v := 48) hx hb F.2.2.2.1 (F.2.2.2.2 _ gw_1096) dX9_readsItem_32 ?_
      refine lv_ldc2 (v := 57) hx hb F.2.2.2.1 (F.2.2.2.2 _ gw_1097) dX9_readsItem_35 ?_
      obtain ⟨x8, hx8, hf⟩ := g_bnd hf
      refine g_rs (As := [.long x7.toInt64, .long 48, .long 57]) (rest := []) F hK (hG.X hX hAB) hG.1 [] rfl (c_X9_in h x7.toInt64 48 57 hx8) (kX9_46 F.2.2.2.2 ⟨Nat.le_of_ble_eq_true rfl, Nat.le_of_ble_eq_true rfl⟩) rfl hl.1 rfl (lv_room (Nat.le_of_ble_eq_true rfl)) ⟨Nat.zero_le _, Nat.zero_le _⟩ dX9_readsItem_38 ?_
      refine lv_if_eq (tgt := 80) hx hb dX9_readsItem_41 (by decide) (fun c9 => ?_) (fun c9 => ?_)
      · have hf := g_it c9 hf
        obtain rfl := hexitv5 _ (Option.some.inj hf).symm
        exact hEx6 _ _ hG ls (lv_sub hl [0, 1, 2] rfl)
      · have hf := g_if c9 hf
        refine lv_aload_n hx hb dX9_readsItem_44 rfl (lv_at hl 0 rfl) ?_
        refine g_get F hK hG.1 0 0 9 flX9_160 rfl rfl rfl dX9_readsItem_45 ?_
        refine lv_iload_n hx hb dX9_readsItem_48 rfl (lv_at hl 1 rfl) ?_
        refine lv_iconst (v := 3) hx hb dX9_readsItem_49 (by decide) ?_
        refine lv_iadd hx hb dX9_readsItem_50 ?_
        refine lv_icmp_ge (tgt := 80) hx hb dX9_readsItem_51 (by decide) (fun c10 => ?_) (fun c10 => ?_)
        · have hf := g_it c10 hf
          obtain rfl := hexitv5 _ (Option.some.inj hf).symm
          exact hEx6 _ _ hG ls (lv_sub hl [0, 1, 2] rfl)
        · have hf := g_if c10 hf
          refine lv_bipush (v := 10) hx hb dX9_readsItem_54 (by decide) ?_
          refine lv_iload_n hx hb dX9_readsItem_56 rfl (lv_at hl 2 rfl) ?_
          refine lv_imul hx hb dX9_readsItem_57 ?_
          refine lv_aload_n hx hb dX9_readsItem_58 rfl (lv_at hl 0 rfl) ?_
          obtain ⟨x11, hx11, hf⟩ := g_bnd hf
          refine g_rv (As := []) (rest := [.int (10 * v5.1)]) F hK (hG.X hX hAB) hG.1 [0] rfl (c_X9_here h b0 v5.2 hx11) (kX9_163 F.2.2.2.2 ⟨Nat.le_of_ble_eq_true rfl, Nat.le_of_ble_eq_true rfl⟩) rfl rfl rfl rfl hl.1 rfl (lv_room (Nat.le_of_ble_eq_true rfl)) ⟨Nat.zero_le _, Nat.zero_le _⟩ dX9_readsItem_59 ?_
          refine lv_iadd hx hb dX9_readsItem_62 ?_
          refine lv_bipush (v := 48) hx hb dX9_readsItem_63 (by decide) ?_
          refine lv_isub hx hb dX9_readsItem_65 ?_
          refine lv_istore_n (lv' := [(2, .int (((10 * v5.1) + x11) - 48)), (0, .ref (h b0)), (1, .int x3.2.2.2.2.2.2.2.2.2.2)]) hx hb dX9_readsItem_66 rfl hl (by decide) rfl (fun ls hl => ?_)
          refine lv_aload_n hx hb dX9_readsItem_67 rfl (lv_at hl 1 rfl) ?_
          refine lv_dup hx hb dX9_readsItem_68 rfl ?_
          refine g_get F hK hG.1 0 0 9 flX9_160 rfl rfl rfl dX9_readsItem_69 ?_
          refine lv_iconst (v := 1) hx hb dX9_readsItem_72 (by decide) ?_
          refine lv_iadd hx hb dX9_readsItem_73 ?_
          refine g_put F hK hG 0 0 9 pfX9_160 rfl rfl (Nat.le_of_ble_eq_true rfl) rfl rfl dX9_readsItem_74 (fun H locs hG => ?_)
          have hG : gS E A s.heap [C9 E h b0 (v5.2.1, v5.2.2.1, v5.2.2.2.1, v5.2.2.2.2.1, v5.2.2.2.2.2.1, v5.2.2.2.2.2.2.1, v5.2.2.2.2.2.2.2.1, v5.2.2.2.2.2.2.2.2.1, v5.2.2.2.2.2.2.2.2.2.1, (v5.2.2.2.2.2.2.2.2.2.2 + 1))] H locs := hG
          refine lv_goto (tgt := 27) hx hb dX9_readsItem_77 (by decide) ?_
          exact hbackv5 _ (Option.some.inj hf).symm _ _ hG ls (lv_sub hl [1, 2, 0] rfl)
    · have hf := g_it c4 hf
      refine lv_iconst (v := 0) hx hb dX9_readsItem_18 (by decide) ?_
      have ho := Option.some.inj hf
      subst hA
      rw [← hQ, ← ho]
      exact g_mretZ F hr hlk hG narrow_b0 dX9_readsItem_19
set_option maxHeartbeats 4000000 in
set_option maxRecDepth 100000 in
theorem c_X9_load {l : Launch} {E : gEnv} (h : Nat → Nat) (b0 : Nat) (w0 : T9) {o : Int32 × T9} (hf : f_X9_load w0 = some o) : gM l yX9_load cX9_load 3 (some .int) rX9_load E [.ref (h b0)] [C9 E h b0 w0] (some (.int o.1)) [C9 E h b0 o.2] := by
  refine gM.of (by decide +kernel) (Nat.le_of_ble_eq_true rfl) rfl ?_
  intro p e s m below meth c F hr hlk hK hX hAB ls hl H locs hG
  have F : gF p m c cX9_load 3 s ([.ref (h b0)] : List Value).toArray RX9 := F
  generalize ([.ref (h b0)] : List Value).toArray = args at F ⊢
  generalize hQ : MQ below _ _ _ _ _ _ = Q
  generalize hA : gAd [C9 E h b0 w0] = A at hAB hG
  have hl : lv_has ls 3 [(0, .ref (h b0))] := hl
  have hx := F.1
  have hb := F.2.1
  unfold f_X9_load at hf
  refine lv_aload_n hx hb dX9_load_0 rfl (lv_at hl 0 rfl) ?_
  refine lv_iconst (v := 0) hx hb dX9_load_1 (by decide) ?_
  refine g_put F hK hG 0 0 4 pfX9_25 rfl rfl (Nat.le_of_ble_eq_true rfl) rfl rfl dX9_load_2 (fun H locs hG => ?_)
  have hG : gS E A s.heap [C9 E h b0 (w0.1, w0.2.1, w0.2.2.1, w0.2.2.2.1, 0, w0.2.2.2.2.2.1, w0.2.2.2.2.2.2.1, w0.2.2.2.2.2.2.2.1, w0.2.2.2.2.2.2.2.2.1, w0.2.2.2.2.2.2.2.2.2)] H locs := hG
  refine lv_aload_n hx hb dX9_load_5 rfl (lv_at hl 0 rfl) ?_
  obtain ⟨x1, hx1, hf⟩ := g_bnd hf
  refine g_mvv (S' := [C9 E h b0 x1]) (As := []) (rest := []) F hK hX hAB hG [0] rfl rfl (c_X9_lays h b0 (w0.1, w0.2.1, w0.2.2.1, w0.2.2.2.1, 0, w0.2.2.2.2.2.1, w0.2.2.2.2.2.2.1, w0.2.2.2.2.2.2.2.1, w0.2.2.2.2.2.2.2.2.1, w0.2.2.2.2.2.2.2.2.2) hx1) rfl (kX9_181 F.2.2.2.2 ⟨Nat.le_of_ble_eq_true rfl, Nat.le_of_ble_eq_true rfl⟩) rfl rfl rfl rfl hl.1 rfl (lv_room (Nat.le_of_ble_eq_true rfl)) ⟨Nat.zero_le _, Nat.zero_le _⟩ dX9_load_6 (fun H locs hG => ?_)
  refine lv_aload_n hx hb dX9_load_9 rfl (lv_at hl 0 rfl) ?_
  refine g_get F hK hG.1 0 0 0 flX9_7 rfl rfl rfl dX9_load_10 ?_
  refine lv_iconst (v := 0) hx hb dX9_load_13 (by decide) ?_
  refine lv_iconst (v := 0) hx hb dX9_load_14 (by decide) ?_
  obtain ⟨x2, hx2, hf⟩ := g_bnd hf
  refine g_iast F hK hG 0 1 rfl rfl hx2 dX9_load_15 (fun H locs hG => ?_)
  have hG : gS E A s.heap [C9 E h b0 (x2, x1.2.1, x1.2.2.1, x1.2.2.2.1, x1.2.2.2.2.1, x1.2.2.2.2.2.1, x1.2.2.2.2.2.2.1, x1.2.2.2.2.2.2.2.1, x1.2.2.2.2.2.2.2.2.1, x1.2.2.2.2.2.2.2.2.2)] H locs := hG
  refine lv_aload_n hx hb dX9_load_16 rfl (lv_at hl 0 rfl) ?_
  refine lv_iconst (v := 0) hx hb dX9_load_17 (by decide) ?_
  refine g_put F hK hG 0 0 9 pfX9_160 rfl rfl (Nat.le_of_ble_eq_true rfl) rfl rfl dX9_load_18 (fun H locs hG => ?_)
  have hG : gS E A s.heap [C9 E h b0 (x2, x1.2.1, x1.2.2.1, x1.2.2.2.1, x1.2.2.2.2.1, x1.2.2.2.2.2.1, x1.2.2.2.2.2.2.1, x1.2.2.2.2.2.2.2.1, x1.2.2.2.2.2.2.2.2.1, 0)] H locs := hG
  obtain ⟨x4, hx4, hfx4⟩ := g_bnd hf
  have hEx4 : ∀ z9, x4 = Sum.inr z9 → ∀ (H : Heap) (locs : List Loc), gS E A s.heap [C9 E h b0 z9] H locs → ∀ ls : Array Slot, lv_has ls 3 [(0, .ref (h b0))] → W p l e rX9_load s m args below meth c H locs 0 0 Q (F0 m 51 ls []) := by
    intro z9 ez9
    intro H locs hG ls hl
    subst ez9
    have hf := hfx4
    simp only [Sum.elim_inr] at hf
    refine lv_aload_n hx hb dX9_load_51 rfl (lv_at hl 0 rfl) ?_
    refine g_get F hK hG.1 0 0 0 flX9_7 rfl rfl rfl dX9_load_52 ?_
    refine lv_bipush (v := 7) hx hb dX9_load_55 (by decide) ?_
    refine lv_iconst (v := 0) hx hb dX9_load_57 (by decide) ?_
    obtain ⟨x10, hx10, hf⟩ := g_bnd hf
    refine g_iast F hK hG 0 1 rfl rfl hx10 dX9_load_58 (fun H locs hG => ?_)
    have hG : gS E A s.heap [C9 E h b0 (x10, z9.2.1, z9.2.2.1, z9.2.2.2.1, z9.2.2.2.2.1, z9.2.2.2.2.2.1, z9.2.2.2.2.2.2.1, z9.2.2.2.2.2.2.2.1, z9.2.2.2.2.2.2.2.2.1, z9.2.2.2.2.2.2.2.2.2)] H locs := hG
    refine lv_iconst (v := 0) hx hb dX9_load_59 (by decide) ?_
    refine lv_istore_n (lv' := [(1, .int 0), (0, .ref (h b0))]) hx hb dX9_load_60 rfl hl (by decide) rfl (fun ls hl => ?_)
    obtain ⟨x12, hx12, hfx12⟩ := g_bnd hf
    have hEx12 : ∀ (H : Heap) (locs : List Loc), gS E A s.heap [C9 E h b0 x12] H locs → ∀ ls : Array Slot, lv_has ls 3 [(0, .ref (h b0))] → W p l e rX9_load s m args below meth c H locs 0 0 Q (F0 m 100 ls []) := by
      intro H locs hG ls hl
      have hf := hfx12
      refine lv_aload_n hx hb dX9_load_100 rfl (lv_at hl 0 rfl) ?_
      obtain ⟨x18, hx18, hf⟩ := g_bnd hf
      refine g_mvv (S' := [C9 E h b0 x18]) (As := []) (rest := []) F hK hX hAB hG [0] rfl rfl (c_X9_save h b0 x12 hx18) rfl (kX9_97 F.2.2.2.2 ⟨Nat.le_of_ble_eq_true rfl, Nat.le_of_ble_eq_true rfl⟩) rfl rfl rfl rfl hl.1 rfl (lv_room (Nat.le_of_ble_eq_true rfl)) ⟨Nat.zero_le _, Nat.zero_le _⟩ dX9_load_101 (fun H locs hG => ?_)
      refine lv_aload_n hx hb dX9_load_104 rfl (lv_at hl 0 rfl) ?_
      obtain ⟨x19, hx19, hf⟩ := g_bnd hf
      refine g_mvv (S' := [C9 E h b0 x19]) (As := []) (rest := []) F hK hX hAB hG [0] rfl rfl (c_X9_takesBack h b0 x18 hx19) rfl (kX9_187 F.2.2.2.2 ⟨Nat.le_of_ble_eq_true rfl, Nat.le_of_ble_eq_true rfl⟩) rfl rfl rfl rfl hl.1 rfl (lv_room (Nat.le_of_ble_eq_true rfl)) ⟨Nat.zero_le _, Nat.zero_le _⟩ dX9_load_105 (fun H locs hG => ?_)
      refine lv_aload_n hx hb dX9_load_108 rfl (lv_at hl 0 rfl) ?_
      refine g_get F hK hG.1 0 0 0 flX9_7 rfl rfl rfl dX9_load_109 ?_
      refine lv_iconst (v := 0) hx hb dX9_load_112 (by decide) ?_
      obtain ⟨x20, hx20, hf⟩ := g_bnd hf
      refine g_iald F hK hG.1 0 1 rfl rfl hx20 dX9_load_113 ?_
      have ho := Option.some.inj hf
      subst hA
      rw [← hQ, ← ho]
      exact g_mretI F hr hlk hG dX9_load_114
    refine lp_rule (fun (v11 : Int32 × T9) => ∀ (H : Heap) (locs : List Loc), gS E A s.heap [C9 E h b0 v11.2] H locs → ∀ ls : Array Slot, lv_has ls 3 [(0, .ref (h b0)), (1, .int v11.1)] → W p l e rX9_load s m args below meth c H locs 0 0 Q (F0 m 61 ls [])) ?_ _ _ hx12 _ _ hG ls (lv_sub hl [1, 0] rfl)
    intro v11 y hf hbackv11 hexitv11 H locs hG ls hl
    refine lv_iload_n hx hb dX9_load_61 rfl (lv_at hl 1 rfl) ?_
    refine lv_sipush (v := 1050) hx hb dX9_load_62 (by decide) ?_
    refine lv_icmp_ge (tgt := 100) hx hb dX9_load_65 (by decide) (fun c13 => ?_) (fun c13 => ?_)
    · have hf := g_it c13 hf
      obtain rfl := hexitv11 _ (Option.some.inj hf).symm
      exact hEx12 _ _ hG ls (lv_sub hl [0] rfl)
    · have hf := g_if c13 hf
      refine lv_aload_n hx hb dX9_load_68 rfl (lv_at hl 0 rfl) ?_
      refine g_get F hK hG.1 0 0 0 flX9_7 rfl rfl rfl dX9_load_69 ?_
      refine lv_iload_n hx hb dX9_load_72 rfl (lv_at hl 1 rfl) ?_
      obtain ⟨x14, hx14, hf⟩ := g_bnd hf
      refine g_iald F hK hG.1 0 1 rfl rfl hx14 dX9_load_73 ?_
      refine lv_istore_n (lv' := [(2, .int x14), (0, .ref (h b0)), (1, .int v11.1)]) hx hb dX9_load_74 rfl hl (by decide) rfl (fun ls hl => ?_)
      refine lv_aload_n hx hb dX9_load_75 rfl (lv_at hl 1 rfl) ?_
      refine g_get F hK hG.1 0 0 0 flX9_7 rfl rfl rfl dX9_load_76 ?_
      refine lv_iload_n hx hb dX9_load_79 rfl (lv_at hl 2 rfl) ?_
      refine lv_aload_n hx hb dX9_load_80 rfl (lv_at hl 1 rfl) ?_
      refine g_get F hK hG.1 0 0 2 flX9_16 rfl rfl rfl dX9_load_81 ?_
      refine lv_iload_n hx hb dX9_load_84 rfl (lv_at hl 2 rfl) ?_
      obtain ⟨x15, hx15, hf⟩ := g_bnd hf
      refine g_iald F hK hG.1 0 3 rfl rfl hx15 dX9_load_85 ?_
      obtain ⟨x16, hx16, hf⟩ := g_bnd hf
      refine g_iast F hK hG 0 1 rfl rfl hx16 dX9_load_86 (fun H locs hG => ?_)
      have hG : gS E A s.heap [C9 E h b0 (x16, v11.2.2.1, v11.2.2.2.1, v11.2.2.2.2.1, v11.2.2.2.2.2.1, v11.2.2.2.2.2.2.1, v11.2.2.2.2.2.2.2.1, v11.2.2.2.2.2.2.2.2.1, v11.2.2.2.2.2.2.2.2.2.1, v11.2.2.2.2.2.2.2.2.2.2)] H locs := hG
      refine lv_aload_n hx hb dX9_load_87 rfl (lv_at hl 1 rfl) ?_
      refine g_get F hK hG.1 0 0 2 flX9_16 rfl rfl rfl dX9_load_88 ?_
      refine lv_iload_n hx hb dX9_load_91 rfl (lv_at hl 2 rfl) ?_
      refine lv_iload_n hx hb dX9_load_92 rfl (lv_at hl 0 rfl) ?_
      obtain ⟨x17, hx17, hf⟩ := g_bnd hf
      refine g_iast F hK hG 0 3 rfl rfl hx17 dX9_load_93 (fun H locs hG => ?_)
      have hG : gS E A s.heap [C9 E h b0 (x16, v11.2.2.1, x17, v11.2.2.2.2.1, v11.2.2.2.2.2.1, v11.2.2.2.2.2.2.1, v11.2.2.2.2.2.2.2.1, v11.2.2.2.2.2.2.2.2.1, v11.2.2.2.2.2.2.2.2.2.1, v11.2.2.2.2.2.2.2.2.2.2)] H locs := hG
      refine lv_iinc (v := (v11.1 + 1)) (lv' := [(1, .int (v11.1 + 1)), (2, .int x14), (0, .ref (h b0))]) hx hb dX9_load_94 hl (k := 2) rfl rfl (by decide) rfl (fun ls hl => ?_)
      refine lv_goto (tgt := 61) hx hb dX9_load_97 (by decide) ?_
      exact hbackv11 _ (Option.some.inj hf).symm _ _ hG ls (lv_sub hl [2, 0] rfl)
  refine lp_rule (fun (v3 : T9) => ∀ (H : Heap) (locs : List Loc), gS E A s.heap [C9 E h b0 v3] H locs → ∀ ls : Array Slot, lv_has ls 3 [(0, .ref (h b0))] → W p l e rX9_load s m args below meth c H locs 0 0 Q (F0 m 21 ls [])) ?_ _ _ hx4 _ _ hG ls (lv_sub hl [0] rfl)
  intro v3 y hf hbackv3 hexitv3 H locs hG ls hl
  refine lv_aload_n hx hb dX9_load_21 rfl (lv_at hl 0 rfl) ?_
  refine g_get F hK hG.1 0 0 9 flX9_160 rfl rfl rfl dX9_load_22 ?_
  refine lv_aload_n hx hb dX9_load_25 rfl (lv_at hl 0 rfl) ?_
  refine g_get F hK hG.1 0 0 8 flX9_157 rfl rfl rfl dX9_load_26 ?_
  refine lv_icmp_ge (tgt := 51) hx hb dX9_load_29 (by decide) (fun c5 => ?_) (fun c5 => ?_)
  · have hf := g_it c5 hf
    exact hEx4 _ (hexitv3 _ (Option.some.inj hf).symm).symm _ _ hG ls (lv_sub hl [0] rfl)
  · have hf := g_if c5 hf
    refine lv_aload_n hx hb dX9_load_32 rfl (lv_at hl 0 rfl) ?_
    obtain ⟨x6, hx6, hf⟩ := g_bnd hf
    refine g_mv (S' := [C9 E h b0 x6.2]) (As := []) (rest := []) F hK hX hAB hG [0] rfl rfl (c_X9_readsItem h b0 v3 hx6) rfl (kX9_184 F.2.2.2.2 ⟨Nat.le_of_ble_eq_true rfl, Nat.le_of_ble_eq_true rfl⟩) rfl rfl rfl rfl hl.1 rfl (lv_room (Nat.le_of_ble_eq_true rfl)) ⟨Nat.zero_le _, Nat.zero_le _⟩ dX9_load_33 (fun H locs hG => ?_)
    refine lv_if_ne (tgt := 21) hx hb dX9_load_36 (by decide) (fun c7 => ?_) (fun c7 => ?_)
    · have hf := g_if c7 hf
      exact hbackv3 _ (Option.some.inj hf).symm _ _ hG ls (lv_sub hl [0] rfl)
    · have hf := g_it c7 hf
      refine lv_aload_n hx hb dX9_load_39 rfl (lv_at hl 0 rfl) ?_
      obtain ⟨x8, hx8, hf⟩ := g_bnd hf
      refine g_mvv (S' := [C9 E h b0 x8]) (As := []) (rest := []) F hK hX hAB hG [0] rfl rfl (c_X9_takesBack h b0 x6.2 hx8) rfl (kX9_187 F.2.2.2.2 ⟨Nat.le_of_ble_eq_true rfl, Nat.le_of_ble_eq_true rfl⟩) rfl rfl rfl rfl hl.1 rfl (lv_room (Nat.le_of_ble_eq_true rfl)) ⟨Nat.zero_le _, Nat.zero_le _⟩ dX9_load_40 (fun H locs hG => ?_)
      refine lv_bipush (v := (-10)) hx hb dX9_load_43 (by decide) ?_
      refine lv_aload_n hx hb dX9_load_45 rfl (lv_at hl 0 rfl) ?_
      refine g_get F hK hG.1 0 0 9 flX9_160 rfl rfl rfl dX9_load_46 ?_
      refine lv_isub hx hb dX9_load_49 ?_
      have hs := hexitv3 _ (Option.some.inj hf).symm
      subst hs
      have hf := hfx4
      simp only [Sum.elim_inl] at hf
      have ho := Option.some.inj hf
      subst hA
      rw [← hQ, ← ho]
      exact g_mretI F hr hlk hG dX9_load_50
set_option maxHeartbeats 4000000 in
set_option maxRecDepth 100000 in
theorem c_X9_undo {l : Launch} {E : gEnv} (h : Nat → Nat) (b0 : Nat) (w0 : T9) {o : Int32 × T9} (hf : f_X9_undo w0 = some o) : gM l yX9_undo cX9_undo 2 (some .int) rX9_undo E [.ref (h b0)] [C9 E h b0 w0] (some (.int o.1)) [C9 E h b0 o.2] := by
  refine gM.of (by decide +kernel) (Nat.le_of_ble_eq_true rfl) rfl ?_
  intro p e s m below meth c F hr hlk hK hX hAB ls hl H locs hG
  have F : gF p m c cX9_undo 2 s ([.ref (h b0)] : List Value).toArray RX9 := F
  generalize ([.ref (h b0)] : List Value).toArray = args at F ⊢
  generalize hQ : MQ below _ _ _ _ _ _ = Q
  generalize hA : gAd [C9 E h b0 w0] = A at hAB hG
  have hl : lv_has ls 2 [(0, .ref (h b0))] := hl
  have hx := F.1
  have hb := F.2.1
  unfold f_X9_undo at hf
  refine lv_aload_n hx hb dX9_undo_0 rfl (lv_at hl 0 rfl) ?_
  refine lv_aload_n hx hb dX9_undo_1 rfl (lv_at hl 0 rfl) ?_
  refine g_get F hK hG.1 0 0 3 flX9_29 rfl rfl rfl dX9_undo_2 ?_
  obtain ⟨j1, hf, hfj1⟩ := g_bnd hf
  have hJj1 : ∀ (H : Heap) (locs : List Loc), gS E A s.heap [C9 E h b0 w0] H locs → ∀ ls : Array Slot, lv_has ls 2 [(0, .ref (h b0))] → W p l e rX9_undo s m args below meth c H locs 0 0 Q (F0 m 13 ls [.int j1, .ref (h b0)]) := by
    intro H locs hG ls hl
    have hf := hfj1
    refine lv_iconst (v := 1) hx hb dX9_undo_13 (by decide) ?_
    obtain ⟨x3, hx3, hf⟩ := g_bnd hf
    refine g_mv (S' := [C9 E h b0 x3.2]) (As := [.int j1, .int 1]) (rest := []) F hK hX hAB hG [0] rfl rfl (c_X9_goes h b0 w0 j1 1 hx3) rfl (kX9_72 F.2.2.2.2 ⟨Nat.le_of_ble_eq_true rfl, Nat.le_of_ble_eq_true rfl⟩) rfl rfl rfl rfl hl.1 rfl (lv_room (Nat.le_of_ble_eq_true rfl)) ⟨Nat.zero_le _, Nat.zero_le _⟩ dX9_undo_14 (fun H locs hG => ?_)
    refine lv_if_ne (tgt := 22) hx hb dX9_undo_17 (by decide) (fun c4 => ?_) (fun c4 => ?_)
    · have hf := g_if c4 hf
      refine lv_aload_n hx hb dX9_undo_22 rfl (lv_at hl 0 rfl) ?_
      refine lv_dup hx hb dX9_undo_23 rfl ?_
      refine g_get F hK hG.1 0 0 3 flX9_29 rfl rfl rfl dX9_undo_24 ?_
      refine lv_iconst (v := 1) hx hb dX9_undo_27 (by decide) ?_
      refine lv_isub hx hb dX9_undo_28 ?_
      refine g_put F hK hG 0 0 3 pfX9_29 rfl rfl (Nat.le_of_ble_eq_true rfl) rfl rfl dX9_undo_29 (fun H locs hG => ?_)
      have hG : gS E A s.heap [C9 E h b0 (x3.2.1, x3.2.2.1, x3.2.2.2.1, (x3.2.2.2.2.1 - 1), x3.2.2.2.2.2.1, x3.2.2.2.2.2.2.1, x3.2.2.2.2.2.2.2.1, x3.2.2.2.2.2.2.2.2.1, x3.2.2.2.2.2.2.2.2.2.1, x3.2.2.2.2.2.2.2.2.2.2)] H locs := hG
      refine lv_iconst (v := 0) hx hb dX9_undo_32 (by decide) ?_
      refine lv_istore_n (lv' := [(1, .int 0), (0, .ref (h b0))]) hx hb dX9_undo_33 rfl hl (by decide) rfl (fun ls hl => ?_)
      refine lp_rule (fun (v5 : Int32 × T9) => ∀ (H : Heap) (locs : List Loc), gS E A s.heap [C9 E h b0 v5.2] H locs → ∀ ls : Array Slot, lv_has ls 2 [(0, .ref (h b0)), (1, .int v5.1)] → W p l e rX9_undo s m args below meth c H locs 0 0 Q (F0 m 34 ls [])) ?_ _ _ hf _ _ hG ls (lv_sub hl [1, 0] rfl)
      intro v5 y hf hbackv5 hexitv5 H locs hG ls hl
      refine lv_iload_n hx hb dX9_undo_34 rfl (lv_at hl 1 rfl) ?_
      refine lv_sipush (v := 1050) hx hb dX9_undo_35 (by decide) ?_
      refine lv_icmp_ge (tgt := 68) hx hb dX9_undo_38 (by decide) (fun c7 => ?_) (fun c7 => ?_)
      · have hf := g_it c7 hf
        refine lv_aload_n hx hb dX9_undo_68 rfl (lv_at hl 0 rfl) ?_
        refine g_get F hK hG.1 0 0 3 flX9_29 rfl rfl rfl dX9_undo_69 ?_
        have ho := hexitv5 _ (Option.some.inj hf).symm
        subst hA
        rw [← hQ, ← ho]
        exact g_mretI F hr hlk hG dX9_undo_72
      · have hf := g_if c7 hf
        refine lv_aload_n hx hb dX9_undo_41 rfl (lv_at hl 0 rfl) ?_
        refine g_get F hK hG.1 0 0 0 flX9_7 rfl rfl rfl dX9_undo_42 ?_
        refine lv_iload_n hx hb dX9_undo_45 rfl (lv_at hl 1 rfl) ?_
        refine lv_aload_n hx hb dX9_undo_46 rfl (lv_at hl 0 rfl) ?_
        refine g_get F hK hG.1 0 0 1 flX9_13 rfl rfl rfl dX9_undo_47 ?_
        refine lv_sipush (v := 1050) hx hb dX9_undo_50 (by decide) ?_
        refine lv_aload_n hx hb dX9_undo_53 rfl (lv_at hl 0 rfl) ?_
        refine g_get F hK hG.1 0 0 3 flX9_29 rfl rfl rfl dX9_undo_54 ?_
        refine lv_imul hx hb dX9_undo_57 ?_
        refine lv_iload_n hx hb dX9_undo_58 rfl (lv_at hl 1 rfl) ?_
        refine lv_iadd hx hb dX9_undo_59 ?_
        obtain ⟨x8, hx8, hf⟩ := g_bnd hf
        refine g_iald F hK hG.1 0 2 rfl rfl hx8 dX9_undo_60 ?_
        obtain ⟨x9, hx9, hf⟩ := g_bnd hf
        refine g_iast F hK hG 0 1 rfl rfl hx9 dX9_undo_61 (fun H locs hG => ?_)
        have hG : gS E A s.heap [C9 E h b0 (x9, v5.2.2.1, v5.2.2.2.1, v5.2.2.2.2.1, v5.2.2.2.2.2.1, v5.2.2.2.2.2.2.1, v5.2.2.2.2.2.2.2.1, v5.2.2.2.2.2.2.2.2.1, v5.2.2.2.2.2.2.2.2.2.1, v5.2.2.2.2.2.2.2.2.2.2)] H locs := hG
        refine lv_iinc (v := (v5.1 + 1)) (lv' := [(1, .int (v5.1 + 1)), (0, .ref (h b0))]) hx hb dX9_undo_62 hl (k := 1) rfl rfl (by decide) rfl (fun ls hl => ?_)
        refine lv_goto (tgt := 34) hx hb dX9_undo_65 (by decide) ?_
        exact hbackv5 _ (Option.some.inj hf).symm _ _ hG ls (lv_sub hl [1, 0] rfl)
    · have hf := g_it c4 hf
      refine lv_iconst (v := 0) hx hb dX9_undo_20 (by decide) ?_
      have ho := Option.some.inj hf
      subst hA
      rw [← hQ, ← ho]
      exact g_mretI F hr hlk hG dX9_undo_21
  refine lv_if_le (tgt := 12) hx hb dX9_undo_5 (by decide) (fun c2 => ?_) (fun c2 => ?_)
  · have hf := g_it c2 hf
    refine lv_iconst (v := 0) hx hb dX9_undo_12 (by decide) ?_
    obtain rfl := Option.some.inj hf
    exact hJj1 _ _ hG ls (lv_sub hl [0] rfl)
  · have hf := g_if c2 hf
    refine lv_iconst (v := 1) hx hb dX9_undo_8 (by decide) ?_
    refine lv_goto (tgt := 13) hx hb dX9_undo_9 (by decide) ?_
    obtain rfl := Option.some.inj hf
    exact hJj1 _ _ hG ls (lv_sub hl [0] rfl)
set_option maxHeartbeats 4000000 in
set_option maxRecDepth 100000 in
theorem c_X9_sums {l : Launch} {E : gEnv} (h : Nat → Nat) (a0 : Int64) (a1 : Int64) {o : Int64} (hf : f_X9_sums a0 a1 = some o) : gR l yX9_sums cX9_sums 4 (some .long) rX9_sums E [.long a0, .long a1] [] (some (.long o)) := by
  refine gR.of (by decide +kernel) (Nat.le_of_ble_eq_true rfl) ?_
  intro p e s m below meth c F hr hlk hK hX hP ls hl
  have F : gF p m c cX9_sums 4 s ([.long a0, .long a1] : List Value).toArray RX9 := F
  generalize ([.long a0, .long a1] : List Value).toArray = args at F ⊢
  generalize hQ : MQ below _ _ _ _ _ _ = Q
  have hl : lv_has ls 4 [(0, .long a0), (2, .long a1)] := hl
  have hx := F.1
  have hb := F.2.1
  unfold f_X9_sums at hf
  refine lv_ldc2 (v := 31) hx hb F.2.2.2.1 (F.2.2.2.2 _ gw_1118) dX9_sums_0 ?_
  refine lv_lload_n hx hb dX9_sums_3 rfl (lv_at hl 0 rfl) ?_
  refine lv_lmul hx hb dX9_sums_4 ?_
  refine lv_lload_n hx hb dX9_sums_5 rfl (lv_at hl 1 rfl) ?_
  refine lv_ladd hx hb dX9_sums_6 ?_
  have ho := Option.some.inj hf
  rw [← hQ, ← ho]
  exact g_retL F hr hlk dX9_sums_7
set_option maxHeartbeats 4000000 in
set_option maxRecDepth 100000 in
theorem c_X9_withWord {l : Launch} {E : gEnv} (h : Nat → Nat) (b0 : Nat) (w0 : T9) (a1 : Int64) (a2 : Int32) {o : Int64} (hf : f_X9_withWord w0 a1 a2 = some o) : gR l yX9_withWord cX9_withWord 7 (some .long) rX9_withWord E [.ref (h b0), .long a1, .int a2] [C9 E h b0 w0] (some (.long o)) := by
  refine gR.of (by decide +kernel) (Nat.le_of_ble_eq_true rfl) ?_
  intro p e s m below meth c F hr hlk hK hX hP ls hl
  have F : gF p m c cX9_withWord 7 s ([.ref (h b0), .long a1, .int a2] : List Value).toArray RX9 := F
  generalize ([.ref (h b0), .long a1, .int a2] : List Value).toArray = args at F ⊢
  generalize hQ : MQ below _ _ _ _ _ _ = Q
  have hl : lv_has ls 7 [(0, .ref (h b0)), (1, .long a1), (3, .int a2)] := hl
  have hx := F.1
  have hb := F.2.1
  unfold f_X9_withWord at hf
  refine lv_lload_n hx hb dX9_withWord_0 rfl (lv_at hl 1 rfl) ?_
  refine lv_lstore (lv' := [(4, .long a1), (0, .ref (h b0)), (1, .long a1), (3, .int a2)]) hx hb dX9_withWord_1 hl (by decide) rfl (fun ls hl => ?_)
  refine lv_iconst (v := 0) hx hb dX9_withWord_3 (by decide) ?_
  refine lv_istore (lv' := [(6, .int 0), (4, .long a1), (0, .ref (h b0)), (1, .long a1), (3, .int a2)]) hx hb dX9_withWord_4 hl (by decide) rfl (fun ls hl => ?_)
  obtain ⟨x2, hx2, hfx2⟩ := g_bnd hf
  have hEx2 : ∀ ls : Array Slot, lv_has ls 7 [(0, .ref (h b0)), (3, .int a2), (4, .long x2)] → W p l e rX9_withWord s m args below meth c s.heap [] 0 0 Q (F0 m 33 ls []) := by
    intro ls hl
    have hf := hfx2
    refine lv_iconst (v := 0) hx hb dX9_withWord_33 (by decide) ?_
    refine lv_istore (lv' := [(6, .int 0), (0, .ref (h b0)), (3, .int a2), (4, .long x2)]) hx hb dX9_withWord_34 hl (by decide) rfl (fun ls hl => ?_)
    obtain ⟨x7, hx7, hfx7⟩ := g_bnd hf
    have hEx7 : ∀ ls : Array Slot, lv_has ls 7 [(0, .ref (h b0)), (3, .int a2), (4, .long x7)] → W p l e rX9_withWord s m args below meth c s.heap [] 0 0 Q (F0 m 68 ls []) := by
      intro ls hl
      have hf := hfx7
      refine lv_lload hx hb dX9_withWord_68 (lv_at hl 2 rfl) ?_
      refine lv_aload_n hx hb dX9_withWord_70 rfl (lv_at hl 0 rfl) ?_
      refine lv_iload_n hx hb dX9_withWord_71 rfl (lv_at hl 1 rfl) ?_
      obtain ⟨x12, hx12, hf⟩ := g_bnd hf
      refine g_rv (As := [.int a2]) (rest := [.long x7]) F hK hX hP [0] rfl (c_X9_stepsOf h b0 w0 a2 hx12) (kX9_145 F.2.2.2.2 ⟨Nat.le_of_ble_eq_true rfl, Nat.le_of_ble_eq_true rfl⟩) rfl rfl rfl rfl hl.1 rfl (lv_room (Nat.le_of_ble_eq_true rfl)) ⟨Nat.zero_le _, Nat.zero_le _⟩ dX9_withWord_72 ?_
      refine lv_i2l hx hb dX9_withWord_75 rfl ?_
      obtain ⟨x13, hx13, hf⟩ := g_bnd hf
      refine g_rs (As := [.long x7, .long x12.toInt64]) (rest := []) F hK hX hP [] rfl (c_X9_sums h x7 x12.toInt64 hx13) (kX9_192 F.2.2.2.2 ⟨Nat.le_of_ble_eq_true rfl, Nat.le_of_ble_eq_true rfl⟩) rfl hl.1 rfl (lv_room (Nat.le_of_ble_eq_true rfl)) ⟨Nat.zero_le _, Nat.zero_le _⟩ dX9_withWord_76 ?_
      have ho := Option.some.inj hf
      rw [← hQ, ← ho]
      exact g_retL F hr hlk dX9_withWord_79
    refine lp_rule (fun (v6 : Int64 × Int32) => ∀ ls : Array Slot, lv_has ls 7 [(0, .ref (h b0)), (3, .int a2), (4, .long v6.1), (6, .int v6.2)] → W p l e rX9_withWord s m args below meth c s.heap [] 0 0 Q (F0 m 36 ls [])) ?_ _ _ hx7 ls (lv_sub hl [1, 2, 3, 0] rfl)
    intro v6 y hf hbackv6 hexitv6 ls hl
    refine lv_iload hx hb dX9_withWord_36 (lv_at hl 3 rfl) ?_
    refine lv_aload_n hx hb dX9_withWord_38 rfl (lv_at hl 0 rfl) ?_
    refine lv_iload_n hx hb dX9_withWord_39 rfl (lv_at hl 1 rfl) ?_
    refine lv_iconst (v := 0) hx hb dX9_withWord_40 (by decide) ?_
    obtain ⟨x8, hx8, hf⟩ := g_bnd hf
    refine g_rv (As := [.int a2, .int 0]) (rest := [.int v6.2]) F hK hX hP [0] rfl (c_X9_of h b0 w0 a2 0 hx8) (kX9_50 F.2.2.2.2 ⟨Nat.le_of_ble_eq_true rfl, Nat.le_of_ble_eq_true rfl⟩) rfl rfl rfl rfl hl.1 rfl (lv_room (Nat.le_of_ble_eq_true rfl)) ⟨Nat.zero_le _, Nat.zero_le _⟩ dX9_withWord_41 ?_
    refine lv_icmp_ge (tgt := 68) hx hb dX9_withWord_44 (by decide) (fun c9 => ?_) (fun c9 => ?_)
    · have hf := g_it c9 hf
      obtain rfl := hexitv6 _ (Option.some.inj hf).symm
      exact hEx7 ls (lv_sub hl [0, 1, 2] rfl)
    · have hf := g_if c9 hf
      refine lv_lload hx hb dX9_withWord_47 (lv_at hl 2 rfl) ?_
      refine lv_aload_n hx hb dX9_withWord_49 rfl (lv_at hl 0 rfl) ?_
      refine lv_iload_n hx hb dX9_withWord_50 rfl (lv_at hl 1 rfl) ?_
      refine lv_iload hx hb dX9_withWord_51 (lv_at hl 3 rfl) ?_
      obtain ⟨x10, hx10, hf⟩ := g_bnd hf
      refine g_rv (As := [.int a2, .int v6.2]) (rest := [.long v6.1]) F hK hX hP [0] rfl (c_X9_letterOf h b0 w0 a2 v6.2 hx10) (kX9_53 F.2.2.2.2 ⟨Nat.le_of_ble_eq_true rfl, Nat.le_of_ble_eq_true rfl⟩) rfl rfl rfl rfl hl.1 rfl (lv_room (Nat.le_of_ble_eq_true rfl)) ⟨Nat.zero_le _, Nat.zero_le _⟩ dX9_withWord_53 ?_
      refine lv_i2l hx hb dX9_withWord_56 rfl ?_
      obtain ⟨x11, hx11, hf⟩ := g_bnd hf
      refine g_rs (As := [.long v6.1, .long x10.toInt64]) (rest := []) F hK hX hP [] rfl (c_X9_sums h v6.1 x10.toInt64 hx11) (kX9_192 F.2.2.2.2 ⟨Nat.le_of_ble_eq_true rfl, Nat.le_of_ble_eq_true rfl⟩) rfl hl.1 rfl (lv_room (Nat.le_of_ble_eq_true rfl)) ⟨Nat.zero_le _, Nat.zero_le _⟩ dX9_withWord_57 ?_
      refine lv_lstore (lv' := [(4, .long x11), (0, .ref (h b0)), (3, .int a2), (6, .int v6.2)]) hx hb dX9_withWord_60 hl (by decide) rfl (fun ls hl => ?_)
      refine lv_iinc (v := (v6.2 + 1)) (lv' := [(6, .int (v6.2 + 1)), (4, .long x11), (0, .ref (h b0)), (3, .int a2)]) hx hb dX9_withWord_62 hl (k := 3) rfl rfl (by decide) rfl (fun ls hl => ?_)
      refine lv_goto (tgt := 36) hx hb dX9_withWord_65 (by decide) ?_
      exact hbackv6 _ (Option.some.inj hf).symm ls (lv_sub hl [2, 3, 1, 0] rfl)
  refine lp_rule (fun (v1 : Int64 × Int32) => ∀ ls : Array Slot, lv_has ls 7 [(0, .ref (h b0)), (3, .int a2), (4, .long v1.1), (6, .int v1.2)] → W p l e rX9_withWord s m args below meth c s.heap [] 0 0 Q (F0 m 6 ls [])) ?_ _ _ hx2 ls (lv_sub hl [2, 4, 1, 0] rfl)
  intro v1 y hf hbackv1 hexitv1 ls hl
  refine lv_iload hx hb dX9_withWord_6 (lv_at hl 3 rfl) ?_
  refine lv_iconst (v := 5) hx hb dX9_withWord_8 (by decide) ?_
  refine lv_icmp_ge (tgt := 33) hx hb dX9_withWord_9 (by decide) (fun c3 => ?_) (fun c3 => ?_)
  · have hf := g_it c3 hf
    obtain rfl := hexitv1 _ (Option.some.inj hf).symm
    exact hEx2 ls (lv_sub hl [0, 1, 2] rfl)
  · have hf := g_if c3 hf
    refine lv_lload hx hb dX9_withWord_12 (lv_at hl 2 rfl) ?_
    refine lv_aload_n hx hb dX9_withWord_14 rfl (lv_at hl 0 rfl) ?_
    refine lv_iload_n hx hb dX9_withWord_15 rfl (lv_at hl 1 rfl) ?_
    refine lv_iload hx hb dX9_withWord_16 (lv_at hl 3 rfl) ?_
    obtain ⟨x4, hx4, hf⟩ := g_bnd hf
    refine g_rv (As := [.int a2, .int v1.2]) (rest := [.long v1.1]) F hK hX hP [0] rfl (c_X9_wordValue h b0 w0 a2 v1.2 hx4) (kX9_76 F.2.2.2.2 ⟨Nat.le_of_ble_eq_true rfl, Nat.le_of_ble_eq_true rfl⟩) rfl rfl rfl rfl hl.1 rfl (lv_room (Nat.le_of_ble_eq_true rfl)) ⟨Nat.zero_le _, Nat.zero_le _⟩ dX9_withWord_18 ?_
    refine lv_i2l hx hb dX9_withWord_21 rfl ?_
    obtain ⟨x5, hx5, hf⟩ := g_bnd hf
    refine g_rs (As := [.long v1.1, .long x4.toInt64]) (rest := []) F hK hX hP [] rfl (c_X9_sums h v1.1 x4.toInt64 hx5) (kX9_192 F.2.2.2.2 ⟨Nat.le_of_ble_eq_true rfl, Nat.le_of_ble_eq_true rfl⟩) rfl hl.1 rfl (lv_room (Nat.le_of_ble_eq_true rfl)) ⟨Nat.zero_le _, Nat.zero_le _⟩ dX9_withWord_22 ?_
    refine lv_lstore (lv' := [(4, .long x5), (0, .ref (h b0)), (3, .int a2), (6, .int v1.2)]) hx hb dX9_withWord_25 hl (by decide) rfl (fun ls hl => ?_)
    refine lv_iinc (v := (v1.2 + 1)) (lv' := [(6, .int (v1.2 + 1)), (4, .long x5), (0, .ref (h b0)), (3, .int a2)]) hx hb dX9_withWord_27 hl (k := 3) rfl rfl (by decide) rfl (fun ls hl => ?_)
    refine lv_goto (tgt := 6) hx hb dX9_withWord_30 (by decide) ?_
    exact hbackv1 _ (Option.some.inj hf).symm ls (lv_sub hl [2, 3, 1, 0] rfl)
set_option maxHeartbeats 4000000 in
set_option maxRecDepth 100000 in
theorem c_X9_digest {l : Launch} {E : gEnv} (h : Nat → Nat) (b0 : Nat) (w0 : T9) {o : Int64 × T9} (hf : f_X9_digest w0 = some o) : gM l yX9_digest cX9_digest 6 (some .long) rX9_digest E [.ref (h b0)] [C9 E h b0 w0] (some (.long o.1)) [C9 E h b0 o.2] := by
  refine gM.of (by decide +kernel) (Nat.le_of_ble_eq_true rfl) rfl ?_
  intro p e s m below meth c F hr hlk hK hX hAB ls hl H locs hG
  have F : gF p m c cX9_digest 6 s ([.ref (h b0)] : List Value).toArray RX9 := F
  generalize ([.ref (h b0)] : List Value).toArray = args at F ⊢
  generalize hQ : MQ below _ _ _ _ _ _ = Q
  generalize hA : gAd [C9 E h b0 w0] = A at hAB hG
  have hl : lv_has ls 6 [(0, .ref (h b0))] := hl
  have hx := F.1
  have hb := F.2.1
  unfold f_X9_digest at hf
  refine lv_aload_n hx hb dX9_digest_0 rfl (lv_at hl 0 rfl) ?_
  refine lv_iconst (v := 0) hx hb dX9_digest_1 (by decide) ?_
  refine g_put F hK hG 0 0 4 pfX9_25 rfl rfl (Nat.le_of_ble_eq_true rfl) rfl rfl dX9_digest_2 (fun H locs hG => ?_)
  have hG : gS E A s.heap [C9 E h b0 (w0.1, w0.2.1, w0.2.2.1, w0.2.2.2.1, 0, w0.2.2.2.2.2.1, w0.2.2.2.2.2.2.1, w0.2.2.2.2.2.2.2.1, w0.2.2.2.2.2.2.2.2.1, w0.2.2.2.2.2.2.2.2.2)] H locs := hG
  refine lv_ldc2 (v := 3271) hx hb F.2.2.2.1 (F.2.2.2.2 _ gw_1114) dX9_digest_5 ?_
  refine lv_aload_n hx hb dX9_digest_8 rfl (lv_at hl 0 rfl) ?_
  refine g_get F hK hG.1 0 0 8 flX9_157 rfl rfl rfl dX9_digest_9 ?_
  refine lv_i2l hx hb dX9_digest_12 rfl ?_
  obtain ⟨x1, hx1, hf⟩ := g_bnd hf
  refine g_rs (As := [.long 3271, .long w0.2.2.2.2.2.2.2.2.1.toInt64]) (rest := []) F hK (hG.X hX hAB) hG.1 [] rfl (c_X9_sums h 3271 w0.2.2.2.2.2.2.2.2.1.toInt64 hx1) (kX9_192 F.2.2.2.2 ⟨Nat.le_of_ble_eq_true rfl, Nat.le_of_ble_eq_true rfl⟩) rfl hl.1 rfl (lv_room (Nat.le_of_ble_eq_true rfl)) ⟨Nat.zero_le _, Nat.zero_le _⟩ dX9_digest_13 ?_
  refine lv_lstore_n (lv' := [(1, .long x1), (0, .ref (h b0))]) hx hb dX9_digest_16 rfl hl (by decide) rfl (fun ls hl => ?_)
  refine lv_iconst (v := 0) hx hb dX9_digest_17 (by decide) ?_
  refine lv_istore_n (lv' := [(3, .int 0), (1, .long x1), (0, .ref (h b0))]) hx hb dX9_digest_18 rfl hl (by decide) rfl (fun ls hl => ?_)
  obtain ⟨x3, hx3, hfx3⟩ := g_bnd hf
  have hEx3 : ∀ (H : Heap) (locs : List Loc), gS E A s.heap [C9 E h b0 (w0.1, w0.2.1, w0.2.2.1, w0.2.2.2.1, 0, w0.2.2.2.2.2.1, w0.2.2.2.2.2.2.1, w0.2.2.2.2.2.2.2.1, w0.2.2.2.2.2.2.2.2.1, w0.2.2.2.2.2.2.2.2.2)] H locs → ∀ ls : Array Slot, lv_has ls 6 [(0, .ref (h b0)), (1, .long x3)] → W p l e rX9_digest s m args below meth c H locs 0 0 Q (F0 m 42 ls []) := by
    intro H locs hG ls hl
    have hf := hfx3
    refine lv_iconst (v := 0) hx hb dX9_digest_42 (by decide) ?_
    refine lv_istore_n (lv' := [(3, .int 0), (0, .ref (h b0)), (1, .long x3)]) hx hb dX9_digest_43 rfl hl (by decide) rfl (fun ls hl => ?_)
    obtain ⟨x8, hx8, hfx8⟩ := g_bnd hf
    have hEx8 : ∀ (H : Heap) (locs : List Loc), gS E A s.heap [C9 E h b0 (w0.1, w0.2.1, w0.2.2.1, w0.2.2.2.1, 0, w0.2.2.2.2.2.1, w0.2.2.2.2.2.2.1, w0.2.2.2.2.2.2.2.1, w0.2.2.2.2.2.2.2.2.1, w0.2.2.2.2.2.2.2.2.2)] H locs → ∀ ls : Array Slot, lv_has ls 6 [(0, .ref (h b0)), (1, .long x8)] → W p l e rX9_digest s m args below meth c H locs 0 0 Q (F0 m 67 ls []) := by
      intro H locs hG ls hl
      have hf := hfx8
      refine lv_iconst (v := 0) hx hb dX9_digest_67 (by decide) ?_
      refine lv_istore_n (lv' := [(3, .int 0), (0, .ref (h b0)), (1, .long x8)]) hx hb dX9_digest_68 rfl hl (by decide) rfl (fun ls hl => ?_)
      obtain ⟨x13, hx13, hfx13⟩ := g_bnd hf
      have hEx13 : ∀ (H : Heap) (locs : List Loc), gS E A s.heap [C9 E h b0 (w0.1, w0.2.1, w0.2.2.1, w0.2.2.2.1, 0, w0.2.2.2.2.2.1, w0.2.2.2.2.2.2.1, w0.2.2.2.2.2.2.2.1, w0.2.2.2.2.2.2.2.2.1, w0.2.2.2.2.2.2.2.2.2)] H locs → ∀ ls : Array Slot, lv_has ls 6 [(0, .ref (h b0)), (1, .long x13)] → W p l e rX9_digest s m args below meth c H locs 0 0 Q (F0 m 101 ls []) := by
        intro H locs hG ls hl
        have hf := hfx13
        refine lv_aload_n hx hb dX9_digest_101 rfl (lv_at hl 0 rfl) ?_
        obtain ⟨x18, hx18, hf⟩ := g_bnd hf
        refine g_mvv (S' := [C9 E h b0 x18]) (As := []) (rest := []) F hK hX hAB hG [0] rfl rfl (c_X9_laysDisplay h b0 (w0.1, w0.2.1, w0.2.2.1, w0.2.2.2.1, 0, w0.2.2.2.2.2.1, w0.2.2.2.2.2.2.1, w0.2.2.2.2.2.2.2.1, w0.2.2.2.2.2.2.2.2.1, w0.2.2.2.2.2.2.2.2.2) hx18) rfl (kX9_107 F.2.2.2.2 ⟨Nat.le_of_ble_eq_true rfl, Nat.le_of_ble_eq_true rfl⟩) rfl rfl rfl rfl hl.1 rfl (lv_room (Nat.le_of_ble_eq_true rfl)) ⟨Nat.zero_le _, Nat.zero_le _⟩ dX9_digest_102 (fun H locs hG => ?_)
        refine lv_iconst (v := 0) hx hb dX9_digest_105 (by decide) ?_
        refine lv_istore_n (lv' := [(3, .int 0), (0, .ref (h b0)), (1, .long x13)]) hx hb dX9_digest_106 rfl hl (by decide) rfl (fun ls hl => ?_)
        obtain ⟨x20, hx20, hfx20⟩ := g_bnd hf
        have hEx20 : ∀ (H : Heap) (locs : List Loc), gS E A s.heap [C9 E h b0 x18] H locs → ∀ ls : Array Slot, lv_has ls 6 [(0, .ref (h b0)), (1, .long x20)] → W p l e rX9_digest s m args below meth c H locs 0 0 Q (F0 m 133 ls []) := by
          intro H locs hG ls hl
          have hf := hfx20
          refine lv_iconst (v := 0) hx hb dX9_digest_133 (by decide) ?_
          refine lv_istore_n (lv' := [(3, .int 0), (0, .ref (h b0)), (1, .long x20)]) hx hb dX9_digest_134 rfl hl (by decide) rfl (fun ls hl => ?_)
          obtain ⟨x25, hx25, hfx25⟩ := g_bnd hf
          have hEx25 : ∀ (H : Heap) (locs : List Loc), gS E A s.heap [C9 E h b0 x18] H locs → ∀ ls : Array Slot, lv_has ls 6 [(0, .ref (h b0)), (1, .long x25)] → W p l e rX9_digest s m args below meth c H locs 0 0 Q (F0 m 199 ls []) := by
            intro H locs hG ls hl
            have hf := hfx25
            refine lv_lload_n hx hb dX9_digest_199 rfl (lv_at hl 1 rfl) ?_
            refine lv_aload_n hx hb dX9_digest_200 rfl (lv_at hl 0 rfl) ?_
            refine g_get F hK hG.1 0 0 3 flX9_29 rfl rfl rfl dX9_digest_201 ?_
            refine lv_i2l hx hb dX9_digest_204 rfl ?_
            obtain ⟨x34, hx34, hf⟩ := g_bnd hf
            refine g_rs (As := [.long x25, .long x18.2.2.2.1.toInt64]) (rest := []) F hK (hG.X hX hAB) hG.1 [] rfl (c_X9_sums h x25 x18.2.2.2.1.toInt64 hx34) (kX9_192 F.2.2.2.2 ⟨Nat.le_of_ble_eq_true rfl, Nat.le_of_ble_eq_true rfl⟩) rfl hl.1 rfl (lv_room (Nat.le_of_ble_eq_true rfl)) ⟨Nat.zero_le _, Nat.zero_le _⟩ dX9_digest_205 ?_
            have ho := Option.some.inj hf
            subst hA
            rw [← hQ, ← ho]
            exact g_mretL F hr hlk hG dX9_digest_208
          refine lp_rule (fun (v24 : Int64 × Int32) => ∀ (H : Heap) (locs : List Loc), gS E A s.heap [C9 E h b0 x18] H locs → ∀ ls : Array Slot, lv_has ls 6 [(0, .ref (h b0)), (1, .long v24.1), (3, .int v24.2)] → W p l e rX9_digest s m args below meth c H locs 0 0 Q (F0 m 135 ls [])) ?_ _ _ hx25 _ _ hG ls (lv_sub hl [1, 2, 0] rfl)
          intro v24 y hf hbackv24 hexitv24 H locs hG ls hl
          refine lv_iload_n hx hb dX9_digest_135 rfl (lv_at hl 2 rfl) ?_
          refine lv_aload_n hx hb dX9_digest_136 rfl (lv_at hl 0 rfl) ?_
          refine g_get F hK hG.1 0 0 0 flX9_7 rfl rfl rfl dX9_digest_137 ?_
          refine lv_bipush (v := 8) hx hb dX9_digest_140 (by decide) ?_
          obtain ⟨x26, hx26, hf⟩ := g_bnd hf
          refine g_iald F hK hG.1 0 1 rfl rfl hx26 dX9_digest_142 ?_
          refine lv_icmp_ge (tgt := 199) hx hb dX9_digest_143 (by decide) (fun c27 => ?_) (fun c27 => ?_)
          · have hf := g_it c27 hf
            obtain rfl := hexitv24 _ (Option.some.inj hf).symm
            exact hEx25 _ _ hG ls (lv_sub hl [0, 1] rfl)
          · have hf := g_if c27 hf
            refine lv_sipush (v := 720) hx hb dX9_digest_146 (by decide) ?_
            refine lv_bipush (v := 11) hx hb dX9_digest_149 (by decide) ?_
            refine lv_iload_n hx hb dX9_digest_151 rfl (lv_at hl 2 rfl) ?_
            refine lv_imul hx hb dX9_digest_152 ?_
            refine lv_iadd hx hb dX9_digest_153 ?_
            refine lv_istore (lv' := [(4, .int (720 + (11 * v24.2))), (0, .ref (h b0)), (1, .long v24.1), (3, .int v24.2)]) hx hb dX9_digest_154 hl (by decide) rfl (fun ls hl => ?_)
            refine lv_iconst (v := 0) hx hb dX9_digest_156 (by decide) ?_
            refine lv_istore (lv' := [(5, .int 0), (4, .int (720 + (11 * v24.2))), (0, .ref (h b0)), (1, .long v24.1), (3, .int v24.2)]) hx hb dX9_digest_157 hl (by decide) rfl (fun ls hl => ?_)
            obtain ⟨x29, hx29, hfx29⟩ := g_bnd hf
            have hEx29 : ∀ (H : Heap) (locs : List Loc), gS E A s.heap [C9 E h b0 x18] H locs → ∀ ls : Array Slot, lv_has ls 6 [(0, .ref (h b0)), (1, .long x29), (3, .int v24.2)] → W p l e rX9_digest s m args below meth c H locs 0 0 Q (F0 m 193 ls []) := by
              intro H locs hG ls hl
              have hf := hfx29
              refine lv_iinc (v := (v24.2 + 1)) (lv' := [(3, .int (v24.2 + 1)), (0, .ref (h b0)), (1, .long x29)]) hx hb dX9_digest_193 hl (k := 2) rfl rfl (by decide) rfl (fun ls hl => ?_)
              refine lv_goto (tgt := 135) hx hb dX9_digest_196 (by decide) ?_
              exact hbackv24 _ (Option.some.inj hf).symm _ _ hG ls (lv_sub hl [1, 2, 0] rfl)
            refine lp_rule (fun (v28 : Int64 × Int32) => ∀ (H : Heap) (locs : List Loc), gS E A s.heap [C9 E h b0 x18] H locs → ∀ ls : Array Slot, lv_has ls 6 [(0, .ref (h b0)), (1, .long v28.1), (3, .int v24.2), (4, .int (720 + (11 * v24.2))), (5, .int v28.2)] → W p l e rX9_digest s m args below meth c H locs 0 0 Q (F0 m 159 ls [])) ?_ _ _ hx29 _ _ hG ls (lv_sub hl [2, 3, 4, 1, 0] rfl)
            intro v28 y hf hbackv28 hexitv28 H locs hG ls hl
            refine lv_iload hx hb dX9_digest_159 (lv_at hl 4 rfl) ?_
            refine lv_aload_n hx hb dX9_digest_161 rfl (lv_at hl 0 rfl) ?_
            refine g_get F hK hG.1 0 0 0 flX9_7 rfl rfl rfl dX9_digest_162 ?_
            refine lv_iload hx hb dX9_digest_165 (lv_at hl 3 rfl) ?_
            obtain ⟨x30, hx30, hf⟩ := g_bnd hf
            refine g_iald F hK hG.1 0 1 rfl rfl hx30 dX9_digest_167 ?_
            refine lv_icmp_gt (tgt := 193) hx hb dX9_digest_168 (by decide) (fun c31 => ?_) (fun c31 => ?_)
            · have hf := g_it c31 hf
              obtain rfl := hexitv28 _ (Option.some.inj hf).symm
              exact hEx29 _ _ hG ls (lv_sub hl [0, 1, 2] rfl)
            · have hf := g_if c31 hf
              refine lv_lload_n hx hb dX9_digest_171 rfl (lv_at hl 1 rfl) ?_
              refine lv_aload_n hx hb dX9_digest_172 rfl (lv_at hl 0 rfl) ?_
              refine g_get F hK hG.1 0 0 0 flX9_7 rfl rfl rfl dX9_digest_173 ?_
              refine lv_iload hx hb dX9_digest_176 (lv_at hl 3 rfl) ?_
              refine lv_iload hx hb dX9_digest_178 (lv_at hl 4 rfl) ?_
              refine lv_iadd hx hb dX9_digest_180 ?_
              obtain ⟨x32, hx32, hf⟩ := g_bnd hf
              refine g_iald F hK hG.1 0 1 rfl rfl hx32 dX9_digest_181 ?_
              refine lv_i2l hx hb dX9_digest_182 rfl ?_
              obtain ⟨x33, hx33, hf⟩ := g_bnd hf
              refine g_rs (As := [.long v28.1, .long x32.toInt64]) (rest := []) F hK (hG.X hX hAB) hG.1 [] rfl (c_X9_sums h v28.1 x32.toInt64 hx33) (kX9_192 F.2.2.2.2 ⟨Nat.le_of_ble_eq_true rfl, Nat.le_of_ble_eq_true rfl⟩) rfl hl.1 rfl (lv_room (Nat.le_of_ble_eq_true rfl)) ⟨Nat.zero_le _, Nat.zero_le _⟩ dX9_digest_183 ?_
              refine lv_lstore_n (lv' := [(1, .long x33), (0, .ref (h b0)), (3, .int v24.2), (4, .int (720 + (11 * v24.2))), (5, .int v28.2)]) hx hb dX9_digest_186 rfl hl (by decide) rfl (fun ls hl => ?_)
              refine lv_iinc (v := (v28.2 + 1)) (lv' := [(5, .int (v28.2 + 1)), (1, .long x33), (0, .ref (h b0)), (3, .int v24.2), (4, .int (720 + (11 * v24.2)))]) hx hb dX9_digest_187 hl (k := 4) rfl rfl (by decide) rfl (fun ls hl => ?_)
              refine lv_goto (tgt := 159) hx hb dX9_digest_190 (by decide) ?_
              exact hbackv28 _ (Option.some.inj hf).symm _ _ hG ls (lv_sub hl [2, 1, 3, 4, 0] rfl)
        refine lp_rule (fun (v19 : Int64 × Int32) => ∀ (H : Heap) (locs : List Loc), gS E A s.heap [C9 E h b0 x18] H locs → ∀ ls : Array Slot, lv_has ls 6 [(0, .ref (h b0)), (1, .long v19.1), (3, .int v19.2)] → W p l e rX9_digest s m args below meth c H locs 0 0 Q (F0 m 107 ls [])) ?_ _ _ hx20 _ _ hG ls (lv_sub hl [1, 2, 0] rfl)
        intro v19 y hf hbackv19 hexitv19 H locs hG ls hl
        refine lv_iload_n hx hb dX9_digest_107 rfl (lv_at hl 2 rfl) ?_
        refine lv_aload_n hx hb dX9_digest_108 rfl (lv_at hl 0 rfl) ?_
        refine g_get F hK hG.1 0 0 6 flX9_92 rfl rfl rfl dX9_digest_109 ?_
        refine lv_icmp_ge (tgt := 133) hx hb dX9_digest_112 (by decide) (fun c21 => ?_) (fun c21 => ?_)
        · have hf := g_it c21 hf
          obtain rfl := hexitv19 _ (Option.some.inj hf).symm
          exact hEx20 _ _ hG ls (lv_sub hl [0, 1] rfl)
        · have hf := g_if c21 hf
          refine lv_lload_n hx hb dX9_digest_115 rfl (lv_at hl 1 rfl) ?_
          refine lv_aload_n hx hb dX9_digest_116 rfl (lv_at hl 0 rfl) ?_
          refine g_get F hK hG.1 0 0 5 flX9_19 rfl rfl rfl dX9_digest_117 ?_
          refine lv_iload_n hx hb dX9_digest_120 rfl (lv_at hl 2 rfl) ?_
          obtain ⟨x22, hx22, hf⟩ := g_bnd hf
          refine g_iald F hK hG.1 0 4 rfl rfl hx22 dX9_digest_121 ?_
          refine lv_i2l hx hb dX9_digest_122 rfl ?_
          obtain ⟨x23, hx23, hf⟩ := g_bnd hf
          refine g_rs (As := [.long v19.1, .long x22.toInt64]) (rest := []) F hK (hG.X hX hAB) hG.1 [] rfl (c_X9_sums h v19.1 x22.toInt64 hx23) (kX9_192 F.2.2.2.2 ⟨Nat.le_of_ble_eq_true rfl, Nat.le_of_ble_eq_true rfl⟩) rfl hl.1 rfl (lv_room (Nat.le_of_ble_eq_true rfl)) ⟨Nat.zero_le _, Nat.zero_le _⟩ dX9_digest_123 ?_
          refine lv_lstore_n (lv' := [(1, .long x23), (0, .ref (h b0)), (3, .int v19.2)]) hx hb dX9_digest_126 rfl hl (by decide) rfl (fun ls hl => ?_)
          refine lv_iinc (v := (v19.2 + 1)) (lv' := [(3, .int (v19.2 + 1)), (1, .long x23), (0, .ref (h b0))]) hx hb dX9_digest_127 hl (k := 2) rfl rfl (by decide) rfl (fun ls hl => ?_)
          refine lv_goto (tgt := 107) hx hb dX9_digest_130 (by decide) ?_
          exact hbackv19 _ (Option.some.inj hf).symm _ _ hG ls (lv_sub hl [2, 1, 0] rfl)
      refine lp_rule (fun (v12 : Int64 × Int32) => ∀ (H : Heap) (locs : List Loc), gS E A s.heap [C9 E h b0 (w0.1, w0.2.1, w0.2.2.1, w0.2.2.2.1, 0, w0.2.2.2.2.2.1, w0.2.2.2.2.2.2.1, w0.2.2.2.2.2.2.2.1, w0.2.2.2.2.2.2.2.2.1, w0.2.2.2.2.2.2.2.2.2)] H locs → ∀ ls : Array Slot, lv_has ls 6 [(0, .ref (h b0)), (1, .long v12.1), (3, .int v12.2)] → W p l e rX9_digest s m args below meth c H locs 0 0 Q (F0 m 69 ls [])) ?_ _ _ hx13 _ _ hG ls (lv_sub hl [1, 2, 0] rfl)
      intro v12 y hf hbackv12 hexitv12 H locs hG ls hl
      refine lv_iload_n hx hb dX9_digest_69 rfl (lv_at hl 2 rfl) ?_
      refine lv_aload_n hx hb dX9_digest_70 rfl (lv_at hl 0 rfl) ?_
      refine g_get F hK hG.1 0 0 0 flX9_7 rfl rfl rfl dX9_digest_71 ?_
      refine lv_bipush (v := 6) hx hb dX9_digest_74 (by decide) ?_
      obtain ⟨x14, hx14, hf⟩ := g_bnd hf
      refine g_iald F hK hG.1 0 1 rfl rfl hx14 dX9_digest_76 ?_
      refine lv_icmp_ge (tgt := 101) hx hb dX9_digest_77 (by decide) (fun c15 => ?_) (fun c15 => ?_)
      · have hf := g_it c15 hf
        obtain rfl := hexitv12 _ (Option.some.inj hf).symm
        exact hEx13 _ _ hG ls (lv_sub hl [0, 1] rfl)
      · have hf := g_if c15 hf
        refine lv_lload_n hx hb dX9_digest_80 rfl (lv_at hl 1 rfl) ?_
        refine lv_aload_n hx hb dX9_digest_81 rfl (lv_at hl 0 rfl) ?_
        refine g_get F hK hG.1 0 0 0 flX9_7 rfl rfl rfl dX9_digest_82 ?_
        refine lv_bipush (v := 10) hx hb dX9_digest_85 (by decide) ?_
        refine lv_iload_n hx hb dX9_digest_87 rfl (lv_at hl 2 rfl) ?_
        refine lv_iadd hx hb dX9_digest_88 ?_
        obtain ⟨x16, hx16, hf⟩ := g_bnd hf
        refine g_iald F hK hG.1 0 1 rfl rfl hx16 dX9_digest_89 ?_
        refine lv_i2l hx hb dX9_digest_90 rfl ?_
        obtain ⟨x17, hx17, hf⟩ := g_bnd hf
        refine g_rs (As := [.long v12.1, .long x16.toInt64]) (rest := []) F hK (hG.X hX hAB) hG.1 [] rfl (c_X9_sums h v12.1 x16.toInt64 hx17) (kX9_192 F.2.2.2.2 ⟨Nat.le_of_ble_eq_true rfl, Nat.le_of_ble_eq_true rfl⟩) rfl hl.1 rfl (lv_room (Nat.le_of_ble_eq_true rfl)) ⟨Nat.zero_le _, Nat.zero_le _⟩ dX9_digest_91 ?_
        refine lv_lstore_n (lv' := [(1, .long x17), (0, .ref (h b0)), (3, .int v12.2)]) hx hb dX9_digest_94 rfl hl (by decide) rfl (fun ls hl => ?_)
        refine lv_iinc (v := (v12.2 + 1)) (lv' := [(3, .int (v12.2 + 1)), (1, .long x17), (0, .ref (h b0))]) hx hb dX9_digest_95 hl (k := 2) rfl rfl (by decide) rfl (fun ls hl => ?_)
        refine lv_goto (tgt := 69) hx hb dX9_digest_98 (by decide) ?_
        exact hbackv12 _ (Option.some.inj hf).symm _ _ hG ls (lv_sub hl [2, 1, 0] rfl)
    refine lp_rule (fun (v7 : Int64 × Int32) => ∀ (H : Heap) (locs : List Loc), gS E A s.heap [C9 E h b0 (w0.1, w0.2.1, w0.2.2.1, w0.2.2.2.1, 0, w0.2.2.2.2.2.1, w0.2.2.2.2.2.2.1, w0.2.2.2.2.2.2.2.1, w0.2.2.2.2.2.2.2.2.1, w0.2.2.2.2.2.2.2.2.2)] H locs → ∀ ls : Array Slot, lv_has ls 6 [(0, .ref (h b0)), (1, .long v7.1), (3, .int v7.2)] → W p l e rX9_digest s m args below meth c H locs 0 0 Q (F0 m 44 ls [])) ?_ _ _ hx8 _ _ hG ls (lv_sub hl [1, 2, 0] rfl)
    intro v7 y hf hbackv7 hexitv7 H locs hG ls hl
    refine lv_iload_n hx hb dX9_digest_44 rfl (lv_at hl 2 rfl) ?_
    refine lv_aload_n hx hb dX9_digest_45 rfl (lv_at hl 0 rfl) ?_
    refine g_get F hK hG.1 0 0 0 flX9_7 rfl rfl rfl dX9_digest_46 ?_
    refine lv_iconst (v := 0) hx hb dX9_digest_49 (by decide) ?_
    obtain ⟨x9, hx9, hf⟩ := g_bnd hf
    refine g_iald F hK hG.1 0 1 rfl rfl hx9 dX9_digest_50 ?_
    refine lv_icmp_ge (tgt := 67) hx hb dX9_digest_51 (by decide) (fun c10 => ?_) (fun c10 => ?_)
    · have hf := g_it c10 hf
      obtain rfl := hexitv7 _ (Option.some.inj hf).symm
      exact hEx8 _ _ hG ls (lv_sub hl [0, 1] rfl)
    · have hf := g_if c10 hf
      refine lv_aload_n hx hb dX9_digest_54 rfl (lv_at hl 0 rfl) ?_
      refine lv_lload_n hx hb dX9_digest_55 rfl (lv_at hl 1 rfl) ?_
      refine lv_iload_n hx hb dX9_digest_56 rfl (lv_at hl 2 rfl) ?_
      obtain ⟨x11, hx11, hf⟩ := g_bnd hf
      refine g_rv (As := [.long v7.1, .int v7.2]) (rest := []) F hK (hG.X hX hAB) hG.1 [0] rfl (c_X9_withWord h b0 (w0.1, w0.2.1, w0.2.2.1, w0.2.2.2.1, 0, w0.2.2.2.2.2.1, w0.2.2.2.2.2.2.1, w0.2.2.2.2.2.2.2.1, w0.2.2.2.2.2.2.2.2.1, w0.2.2.2.2.2.2.2.2.2) v7.1 v7.2 hx11) (kX9_198 F.2.2.2.2 ⟨Nat.le_of_ble_eq_true rfl, Nat.le_of_ble_eq_true rfl⟩) rfl rfl rfl rfl hl.1 rfl (lv_room (Nat.le_of_ble_eq_true rfl)) ⟨Nat.zero_le _, Nat.zero_le _⟩ dX9_digest_57 ?_
      refine lv_lstore_n (lv' := [(1, .long x11), (0, .ref (h b0)), (3, .int v7.2)]) hx hb dX9_digest_60 rfl hl (by decide) rfl (fun ls hl => ?_)
      refine lv_iinc (v := (v7.2 + 1)) (lv' := [(3, .int (v7.2 + 1)), (1, .long x11), (0, .ref (h b0))]) hx hb dX9_digest_61 hl (k := 2) rfl rfl (by decide) rfl (fun ls hl => ?_)
      refine lv_goto (tgt := 44) hx hb dX9_digest_64 (by decide) ?_
      exact hbackv7 _ (Option.some.inj hf).symm _ _ hG ls (lv_sub hl [2, 1, 0] rfl)
  refine lp_rule (fun (v2 : Int64 × Int32) => ∀ (H : Heap) (locs : List Loc), gS E A s.heap [C9 E h b0 (w0.1, w0.2.1, w0.2.2.1, w0.2.2.2.1, 0, w0.2.2.2.2.2.1, w0.2.2.2.2.2.2.1, w0.2.2.2.2.2.2.2.1, w0.2.2.2.2.2.2.2.2.1, w0.2.2.2.2.2.2.2.2.2)] H locs → ∀ ls : Array Slot, lv_has ls 6 [(0, .ref (h b0)), (1, .long v2.1), (3, .int v2.2)] → W p l e rX9_digest s m args below meth c H locs 0 0 Q (F0 m 19 ls [])) ?_ _ _ hx3 _ _ hG ls (lv_sub hl [2, 1, 0] rfl)
  intro v2 y hf hbackv2 hexitv2 H locs hG ls hl
  refine lv_iload_n hx hb dX9_digest_19 rfl (lv_at hl 2 rfl) ?_
  refine lv_bipush (v := 11) hx hb dX9_digest_20 (by decide) ?_
  refine lv_icmp_ge (tgt := 42) hx hb dX9_digest_22 (by decide) (fun c4 => ?_) (fun c4 => ?_)
  · have hf := g_it c4 hf
    obtain rfl := hexitv2 _ (Option.some.inj hf).symm
    exact hEx3 _ _ hG ls (lv_sub hl [0, 1] rfl)
  · have hf := g_if c4 hf
    refine lv_lload_n hx hb dX9_digest_25 rfl (lv_at hl 1 rfl) ?_
    refine lv_aload_n hx hb dX9_digest_26 rfl (lv_at hl 0 rfl) ?_
    refine lv_iload_n hx hb dX9_digest_27 rfl (lv_at hl 2 rfl) ?_
    obtain ⟨x5, hx5, hf⟩ := g_bnd hf
    refine g_rv (As := [.int v2.2]) (rest := [.long v2.1]) F hK (hG.X hX hAB) hG.1 [0] rfl (c_X9_settingOf h b0 (w0.1, w0.2.1, w0.2.2.1, w0.2.2.2.1, 0, w0.2.2.2.2.2.1, w0.2.2.2.2.2.2.1, w0.2.2.2.2.2.2.2.1, w0.2.2.2.2.2.2.2.2.1, w0.2.2.2.2.2.2.2.2.2) v2.2 hx5) (kX9_137 F.2.2.2.2 ⟨Nat.le_of_ble_eq_true rfl, Nat.le_of_ble_eq_true rfl⟩) rfl rfl rfl rfl hl.1 rfl (lv_room (Nat.le_of_ble_eq_true rfl)) ⟨Nat.zero_le _, Nat.zero_le _⟩ dX9_digest_28 ?_
    refine lv_i2l hx hb dX9_digest_31 rfl ?_
    obtain ⟨x6, hx6, hf⟩ := g_bnd hf
    refine g_rs (As := [.long v2.1, .long x5.toInt64]) (rest := []) F hK (hG.X hX hAB) hG.1 [] rfl (c_X9_sums h v2.1 x5.toInt64 hx6) (kX9_192 F.2.2.2.2 ⟨Nat.le_of_ble_eq_true rfl, Nat.le_of_ble_eq_true rfl⟩) rfl hl.1 rfl (lv_room (Nat.le_of_ble_eq_true rfl)) ⟨Nat.zero_le _, Nat.zero_le _⟩ dX9_digest_32 ?_
    refine lv_lstore_n (lv' := [(1, .long x6), (0, .ref (h b0)), (3, .int v2.2)]) hx hb dX9_digest_35 rfl hl (by decide) rfl (fun ls hl => ?_)
    refine lv_iinc (v := (v2.2 + 1)) (lv' := [(3, .int (v2.2 + 1)), (1, .long x6), (0, .ref (h b0))]) hx hb dX9_digest_36 hl (k := 2) rfl rfl (by decide) rfl (fun ls hl => ?_)
    refine lv_goto (tgt := 19) hx hb dX9_digest_39 (by decide) ?_
    exact hbackv2 _ (Option.some.inj hf).symm _ _ hG ls (lv_sub hl [2, 1, 0] rfl)
