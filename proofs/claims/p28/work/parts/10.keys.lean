set_option maxHeartbeats 4000000 in
set_option maxRecDepth 100000 in
theorem c_X4_codeOfLetter {l : Launch} {E : gEnv} (h : Nat → Nat) (a0 : Int32) {o : Int32} (hf : f_X4_codeOfLetter a0 = some o) : gR l yX4_codeOfLetter cX4_codeOfLetter 1 (some .int) rX4_codeOfLetter E [.int a0] [] (some (.int o)) := by
  refine gR.of (by decide +kernel) (Nat.le_of_ble_eq_true rfl) ?_
  intro p e s m below meth c F hr hlk hK hX hP ls hl
  have F : gF p m c cX4_codeOfLetter 1 s ([.int a0] : List Value).toArray RX4 := F
  generalize ([.int a0] : List Value).toArray = args at F ⊢
  generalize hQ : MQ below _ _ _ _ _ _ = Q
  have hl : lv_has ls 1 [(0, .int a0)] := hl
  have hx := F.1
  have hb := F.2.1
  unfold f_X4_codeOfLetter at hf
  refine lv_iload_n hx hb dX4_codeOfLetter_0 rfl (lv_at hl 0 rfl) ?_
  refine lv_iconst (v := 1) hx hb dX4_codeOfLetter_1 (by decide) ?_
  refine lv_iadd hx hb dX4_codeOfLetter_2 ?_
  have ho := Option.some.inj hf
  rw [← hQ, ← ho]
  exact g_retI F hr hlk dX4_codeOfLetter_3
set_option maxHeartbeats 4000000 in
set_option maxRecDepth 100000 in
theorem c_X4_with {l : Launch} {E : gEnv} (h : Nat → Nat) (a0 : Int64) (a1 : Int32) (a2 : Int32) {o : Int64} (hf : f_X4_with a0 a1 a2 = some o) : gR l yX4_with cX4_with 5 (some .long) rX4_with E [.long a0, .int a1, .int a2] [] (some (.long o)) := by
  refine gR.of (by decide +kernel) (Nat.le_of_ble_eq_true rfl) ?_
  intro p e s m below meth c F hr hlk hK hX hP ls hl
  have F : gF p m c cX4_with 5 s ([.long a0, .int a1, .int a2] : List Value).toArray RX4 := F
  generalize ([.long a0, .int a1, .int a2] : List Value).toArray = args at F ⊢
  generalize hQ : MQ below _ _ _ _ _ _ = Q
  have hl : lv_has ls 5 [(0, .long a0), (2, .int a1), (3, .int a2)] := hl
  have hx := F.1
  have hb := F.2.1
  unfold f_X4_with at hf
  refine lv_iload_n hx hb dX4_with_0 rfl (lv_at hl 1 rfl) ?_
  refine lv_if_lt (tgt := 10) hx hb dX4_with_1 (by decide) (fun c1 => ?_) (fun c1 => ?_)
  · have hf := g_it c1 hf
    refine lv_lload_n hx hb dX4_with_10 rfl (lv_at hl 0 rfl) ?_
    have ho := Option.some.inj hf
    rw [← hQ, ← ho]
    exact g_retL F hr hlk dX4_with_11
  · have hf := g_if c1 hf
    refine lv_iload_n hx hb dX4_with_4 rfl (lv_at hl 1 rfl) ?_
    refine lv_bipush (v := 10) hx hb dX4_with_5 (by decide) ?_
    refine lv_icmp_lt (tgt := 12) hx hb dX4_with_7 (by decide) (fun c2 => ?_) (fun c2 => ?_)
    · have hf := g_it c2 hf
      refine lv_bipush (v := 54) hx hb dX4_with_12 (by decide) ?_
      refine lv_bipush (v := 6) hx hb dX4_with_14 (by decide) ?_
      refine lv_iload_n hx hb dX4_with_16 rfl (lv_at hl 1 rfl) ?_
      refine lv_imul hx hb dX4_with_17 ?_
      refine lv_isub hx hb dX4_with_18 ?_
      refine lv_istore (lv' := [(4, .int (54 - (6 * a1))), (0, .long a0), (2, .int a1), (3, .int a2)]) hx hb dX4_with_19 hl (by decide) rfl (fun ls hl => ?_)
      refine lv_lload_n hx hb dX4_with_21 rfl (lv_at hl 1 rfl) ?_
      refine lv_ldc2 (v := 63) hx hb F.2.2.2.1 (F.2.2.2.2 _ gw_236) dX4_with_22 ?_
      refine lv_iload hx hb dX4_with_25 (lv_at hl 0 rfl) ?_
      refine lv_lshl hx hb dX4_with_27 rfl ?_
      refine lv_ldc2 (v := (-1)) hx hb F.2.2.2.1 (F.2.2.2.2 _ gw_298) dX4_with_28 ?_
      refine lv_lxor hx hb dX4_with_31 ?_
      refine lv_land hx hb dX4_with_32 ?_
      refine lv_iload_n hx hb dX4_with_33 rfl (lv_at hl 3 rfl) ?_
      refine lv_i2l hx hb dX4_with_34 rfl ?_
      refine lv_iload hx hb dX4_with_35 (lv_at hl 0 rfl) ?_
      refine lv_lshl hx hb dX4_with_37 rfl ?_
      refine lv_lor hx hb dX4_with_38 ?_
      have ho := Option.some.inj hf
      rw [← hQ, ← ho]
      exact g_retL F hr hlk dX4_with_39
    · have hf := g_if c2 hf
      refine lv_lload_n hx hb dX4_with_10 rfl (lv_at hl 0 rfl) ?_
      have ho := Option.some.inj hf
      rw [← hQ, ← ho]
      exact g_retL F hr hlk dX4_with_11
set_option maxHeartbeats 4000000 in
set_option maxRecDepth 100000 in
theorem c_X4_codeAt {l : Launch} {E : gEnv} (h : Nat → Nat) (a0 : Int64) (a1 : Int32) {o : Int32} (hf : f_X4_codeAt a0 a1 = some o) : gR l yX4_codeAt cX4_codeAt 3 (some .int) rX4_codeAt E [.long a0, .int a1] [] (some (.int o)) := by
  refine gR.of (by decide +kernel) (Nat.le_of_ble_eq_true rfl) ?_
  intro p e s m below meth c F hr hlk hK hX hP ls hl
  have F : gF p m c cX4_codeAt 3 s ([.long a0, .int a1] : List Value).toArray RX4 := F
  generalize ([.long a0, .int a1] : List Value).toArray = args at F ⊢
  generalize hQ : MQ below _ _ _ _ _ _ = Q
  have hl : lv_has ls 3 [(0, .long a0), (2, .int a1)] := hl
  have hx := F.1
  have hb := F.2.1
  unfold f_X4_codeAt at hf
  refine lv_iload_n hx hb dX4_codeAt_0 rfl (lv_at hl 1 rfl) ?_
  refine lv_if_lt (tgt := 27) hx hb dX4_codeAt_1 (by decide) (fun c1 => ?_) (fun c1 => ?_)
  · have hf := g_it c1 hf
    refine lv_iconst (v := 0) hx hb dX4_codeAt_27 (by decide) ?_
    have ho := Option.some.inj hf
    rw [← hQ, ← ho]
    exact g_retI F hr hlk dX4_codeAt_28
  · have hf := g_if c1 hf
    refine lv_iload_n hx hb dX4_codeAt_4 rfl (lv_at hl 1 rfl) ?_
    refine lv_bipush (v := 10) hx hb dX4_codeAt_5 (by decide) ?_
    refine lv_icmp_ge (tgt := 27) hx hb dX4_codeAt_7 (by decide) (fun c2 => ?_) (fun c2 => ?_)
    · have hf := g_it c2 hf
      refine lv_iconst (v := 0) hx hb dX4_codeAt_27 (by decide) ?_
      have ho := Option.some.inj hf
      rw [← hQ, ← ho]
      exact g_retI F hr hlk dX4_codeAt_28
    · have hf := g_if c2 hf
      refine lv_lload_n hx hb dX4_codeAt_10 rfl (lv_at hl 0 rfl) ?_
      refine lv_bipush (v := 54) hx hb dX4_codeAt_11 (by decide) ?_
      refine lv_bipush (v := 6) hx hb dX4_codeAt_13 (by decide) ?_
      refine lv_iload_n hx hb dX4_codeAt_15 rfl (lv_at hl 1 rfl) ?_
      refine lv_imul hx hb dX4_codeAt_16 ?_
      refine lv_isub hx hb dX4_codeAt_17 ?_
      refine lv_lushr hx hb dX4_codeAt_18 rfl ?_
      refine lv_ldc2 (v := 63) hx hb F.2.2.2.1 (F.2.2.2.2 _ gw_236) dX4_codeAt_19 ?_
      refine lv_land hx hb dX4_codeAt_22 ?_
      refine lv_l2i hx hb dX4_codeAt_23 rfl ?_
      refine lv_goto (tgt := 28) hx hb dX4_codeAt_24 (by decide) ?_
      have ho := Option.some.inj hf
      rw [← hQ, ← ho]
      exact g_retI F hr hlk dX4_codeAt_28
set_option maxHeartbeats 4000000 in
set_option maxRecDepth 100000 in
theorem c_X4_lengthOf {l : Launch} {E : gEnv} (h : Nat → Nat) (a0 : Int64) {o : Int32} (hf : f_X4_lengthOf a0 = some o) : gR l yX4_lengthOf cX4_lengthOf 3 (some .int) rX4_lengthOf E [.long a0] [] (some (.int o)) := by
  refine gR.of (by decide +kernel) (Nat.le_of_ble_eq_true rfl) ?_
  intro p e s m below meth c F hr hlk hK hX hP ls hl
  have F : gF p m c cX4_lengthOf 3 s ([.long a0] : List Value).toArray RX4 := F
  generalize ([.long a0] : List Value).toArray = args at F ⊢
  generalize hQ : MQ below _ _ _ _ _ _ = Q
  have hl : lv_has ls 3 [(0, .long a0)] := hl
  have hx := F.1
  have hb := F.2.1
  unfold f_X4_lengthOf at hf
  refine lv_iconst (v := 0) hx hb dX4_lengthOf_0 (by decide) ?_
  refine lv_istore_n (lv' := [(2, .int 0), (0, .long a0)]) hx hb dX4_lengthOf_1 rfl hl (by decide) rfl (fun ls hl => ?_)
  refine lp_rule (fun (v1 : Int32) => ∀ ls : Array Slot, lv_has ls 3 [(0, .long a0), (2, .int v1)] → W p l e rX4_lengthOf s m args below meth c s.heap [] 0 0 Q (F0 m 2 ls [])) ?_ _ _ hf ls (lv_sub hl [1, 0] rfl)
  intro v1 y hf hbackv1 hexitv1 ls hl
  refine lv_iload_n hx hb dX4_lengthOf_2 rfl (lv_at hl 1 rfl) ?_
  refine lv_bipush (v := 10) hx hb dX4_lengthOf_3 (by decide) ?_
  refine lv_icmp_ge (tgt := 22) hx hb dX4_lengthOf_5 (by decide) (fun c3 => ?_) (fun c3 => ?_)
  · have hf := g_it c3 hf
    refine lv_iload_n hx hb dX4_lengthOf_22 rfl (lv_at hl 1 rfl) ?_
    have ho := hexitv1 _ (Option.some.inj hf).symm
    rw [← hQ, ← ho]
    exact g_retI F hr hlk dX4_lengthOf_23
  · have hf := g_if c3 hf
    refine lv_lload_n hx hb dX4_lengthOf_8 rfl (lv_at hl 0 rfl) ?_
    refine lv_iload_n hx hb dX4_lengthOf_9 rfl (lv_at hl 1 rfl) ?_
    obtain ⟨x4, hx4, hf⟩ := g_bnd hf
    refine g_rs (As := [.long a0, .int v1]) (rest := []) F hK hX hP [] rfl (c_X4_codeAt h a0 v1 hx4) (kX4_13 F.2.2.2.2 ⟨Nat.le_of_ble_eq_true rfl, Nat.le_of_ble_eq_true rfl⟩) rfl hl.1 rfl (lv_room (Nat.le_of_ble_eq_true rfl)) ⟨Nat.zero_le _, Nat.zero_le _⟩ dX4_lengthOf_10 ?_
    refine lv_if_eq (tgt := 22) hx hb dX4_lengthOf_13 (by decide) (fun c5 => ?_) (fun c5 => ?_)
    · have hf := g_it c5 hf
      refine lv_iload_n hx hb dX4_lengthOf_22 rfl (lv_at hl 1 rfl) ?_
      have ho := hexitv1 _ (Option.some.inj hf).symm
      rw [← hQ, ← ho]
      exact g_retI F hr hlk dX4_lengthOf_23
    · have hf := g_if c5 hf
      refine lv_iinc (v := (v1 + 1)) (lv' := [(2, .int (v1 + 1)), (0, .long a0)]) hx hb dX4_lengthOf_16 hl (k := 1) rfl rfl (by decide) rfl (fun ls hl => ?_)
      refine lv_goto (tgt := 2) hx hb dX4_lengthOf_19 (by decide) ?_
      exact hbackv1 _ (Option.some.inj hf).symm ls (lv_sub hl [1, 0] rfl)
set_option maxHeartbeats 4000000 in
set_option maxRecDepth 100000 in
theorem c_X4_letterOf {l : Launch} {E : gEnv} (h : Nat → Nat) (a0 : Int32) {o : Int32} (hf : f_X4_letterOf a0 = some o) : gR l yX4_letterOf cX4_letterOf 1 (some .int) rX4_letterOf E [.int a0] [] (some (.int o)) := by
  refine gR.of (by decide +kernel) (Nat.le_of_ble_eq_true rfl) ?_
  intro p e s m below meth c F hr hlk hK hX hP ls hl
  have F : gF p m c cX4_letterOf 1 s ([.int a0] : List Value).toArray RX4 := F
  generalize ([.int a0] : List Value).toArray = args at F ⊢
  generalize hQ : MQ below _ _ _ _ _ _ = Q
  have hl : lv_has ls 1 [(0, .int a0)] := hl
  have hx := F.1
  have hb := F.2.1
  unfold f_X4_letterOf at hf
  refine lv_iload_n hx hb dX4_letterOf_0 rfl (lv_at hl 0 rfl) ?_
  refine lv_iconst (v := 1) hx hb dX4_letterOf_1 (by decide) ?_
  refine lv_isub hx hb dX4_letterOf_2 ?_
  have ho := Option.some.inj hf
  rw [← hQ, ← ho]
  exact g_retI F hr hlk dX4_letterOf_3
set_option maxHeartbeats 4000000 in
set_option maxRecDepth 100000 in
theorem c_X4_letterAt {l : Launch} {E : gEnv} (h : Nat → Nat) (a0 : Int64) (a1 : Int32) {o : Int32} (hf : f_X4_letterAt a0 a1 = some o) : gR l yX4_letterAt cX4_letterAt 3 (some .int) rX4_letterAt E [.long a0, .int a1] [] (some (.int o)) := by
  refine gR.of (by decide +kernel) (Nat.le_of_ble_eq_true rfl) ?_
  intro p e s m below meth c F hr hlk hK hX hP ls hl
  have F : gF p m c cX4_letterAt 3 s ([.long a0, .int a1] : List Value).toArray RX4 := F
  generalize ([.long a0, .int a1] : List Value).toArray = args at F ⊢
  generalize hQ : MQ below _ _ _ _ _ _ = Q
  have hl : lv_has ls 3 [(0, .long a0), (2, .int a1)] := hl
  have hx := F.1
  have hb := F.2.1
  unfold f_X4_letterAt at hf
  refine lv_lload_n hx hb dX4_letterAt_0 rfl (lv_at hl 0 rfl) ?_
  refine lv_iload_n hx hb dX4_letterAt_1 rfl (lv_at hl 1 rfl) ?_
  obtain ⟨x1, hx1, hf⟩ := g_bnd hf
  refine g_rs (As := [.long a0, .int a1]) (rest := []) F hK hX hP [] rfl (c_X4_codeAt h a0 a1 hx1) (kX4_13 F.2.2.2.2 ⟨Nat.le_of_ble_eq_true rfl, Nat.le_of_ble_eq_true rfl⟩) rfl hl.1 rfl (lv_room (Nat.le_of_ble_eq_true rfl)) ⟨Nat.zero_le _, Nat.zero_le _⟩ dX4_letterAt_2 ?_
  obtain ⟨x2, hx2, hf⟩ := g_bnd hf
  refine g_rs (As := [.int x1]) (rest := []) F hK hX hP [] rfl (c_X4_letterOf h x1 hx2) (kX4_17 F.2.2.2.2 ⟨Nat.le_of_ble_eq_true rfl, Nat.le_of_ble_eq_true rfl⟩) rfl hl.1 rfl (lv_room (Nat.le_of_ble_eq_true rfl)) ⟨Nat.zero_le _, Nat.zero_le _⟩ dX4_letterAt_5 ?_
  have ho := Option.some.inj hf
  rw [← hQ, ← ho]
  exact g_retI F hr hlk dX4_letterAt_8
set_option maxHeartbeats 4000000 in
set_option maxRecDepth 100000 in
theorem c_X1_keyWith {l : Launch} {E : gEnv} (h : Nat → Nat) (a0 : Int32) {o : Int32} (hf : f_X1_keyWith a0 = some o) : gR l yX1_keyWith cX1_keyWith 1 (some .int) rX1_keyWith E [.int a0] [] (some (.int o)) := by
  refine gR.of (by decide +kernel) (Nat.le_of_ble_eq_true rfl) ?_
  intro p e s m below meth c F hr hlk hK hX hP ls hl
  have F : gF p m c cX1_keyWith 1 s ([.int a0] : List Value).toArray RX1 := F
  generalize ([.int a0] : List Value).toArray = args at F ⊢
  generalize hQ : MQ below _ _ _ _ _ _ = Q
  have hl : lv_has ls 1 [(0, .int a0)] := hl
  have hx := F.1
  have hb := F.2.1
  unfold f_X1_keyWith at hf
  refine lv_iload_n hx hb dX1_keyWith_0 rfl (lv_at hl 0 rfl) ?_
  refine lv_if_lt (tgt := 20) hx hb dX1_keyWith_1 (by decide) (fun c1 => ?_) (fun c1 => ?_)
  · have hf := g_it c1 hf
    refine lv_iconst (v := (-1)) hx hb dX1_keyWith_20 (by decide) ?_
    have ho := Option.some.inj hf
    rw [← hQ, ← ho]
    exact g_retI F hr hlk dX1_keyWith_21
  · have hf := g_if c1 hf
    refine lv_iload_n hx hb dX1_keyWith_4 rfl (lv_at hl 0 rfl) ?_
    refine va_gets (C := RX1) (n := "KEY_OF_LETTER") (d := "[I") (ref := RX1) hx hb hX.1.1 va_S.rf F.2.2.2.1 (F.2.2.2.2 _ gw_551) (fun _ h => h) dX1_keyWith_5 ?_
    refine va_tlen (v := 26) hx hb hX.1.2 va_S.rf rfl dX1_keyWith_8 ?_
    refine lv_icmp_ge (tgt := 20) hx hb dX1_keyWith_9 (by decide) (fun c2 => ?_) (fun c2 => ?_)
    · have hf := g_it c2 hf
      refine lv_iconst (v := (-1)) hx hb dX1_keyWith_20 (by decide) ?_
      have ho := Option.some.inj hf
      rw [← hQ, ← ho]
      exact g_retI F hr hlk dX1_keyWith_21
    · have hf := g_if c2 hf
      refine va_gets (C := RX1) (n := "KEY_OF_LETTER") (d := "[I") (ref := RX1) hx hb hX.1.1 va_S.rf F.2.2.2.1 (F.2.2.2.2 _ gw_551) (fun _ h => h) dX1_keyWith_12 ?_
      refine lv_iload_n hx hb dX1_keyWith_15 rfl (lv_at hl 0 rfl) ?_
      obtain ⟨x3, hx3, hf⟩ := g_bnd hf
      refine va_ti hx hb hX.1.2 va_S.rf (rd_in hx3).1 (congrArg Value.int (rd_in hx3).2) dX1_keyWith_16 ?_
      refine lv_goto (tgt := 21) hx hb dX1_keyWith_17 (by decide) ?_
      have ho := Option.some.inj hf
      rw [← hQ, ← ho]
      exact g_retI F hr hlk dX1_keyWith_21
set_option maxHeartbeats 4000000 in
set_option maxRecDepth 100000 in
theorem c_X4_codeOfKey {l : Launch} {E : gEnv} (h : Nat → Nat) (a0 : Int32) {o : Int32} (hf : f_X4_codeOfKey a0 = some o) : gR l yX4_codeOfKey cX4_codeOfKey 1 (some .int) rX4_codeOfKey E [.int a0] [] (some (.int o)) := by
  refine gR.of (by decide +kernel) (Nat.le_of_ble_eq_true rfl) ?_
  intro p e s m below meth c F hr hlk hK hX hP ls hl
  have F : gF p m c cX4_codeOfKey 1 s ([.int a0] : List Value).toArray RX4 := F
  generalize ([.int a0] : List Value).toArray = args at F ⊢
  generalize hQ : MQ below _ _ _ _ _ _ = Q
  have hl : lv_has ls 1 [(0, .int a0)] := hl
  have hx := F.1
  have hb := F.2.1
  unfold f_X4_codeOfKey at hf
  refine lv_bipush (v := 30) hx hb dX4_codeOfKey_0 (by decide) ?_
  refine lv_iload_n hx hb dX4_codeOfKey_2 rfl (lv_at hl 0 rfl) ?_
  refine lv_iadd hx hb dX4_codeOfKey_3 ?_
  have ho := Option.some.inj hf
  rw [← hQ, ← ho]
  exact g_retI F hr hlk dX4_codeOfKey_4
set_option maxHeartbeats 4000000 in
set_option maxRecDepth 100000 in
theorem c_X4_keysOf {l : Launch} {E : gEnv} (h : Nat → Nat) (a0 : Int64) {o : Int64} (hf : f_X4_keysOf a0 = some o) : gR l yX4_keysOf cX4_keysOf 6 (some .long) rX4_keysOf E [.long a0] [] (some (.long o)) := by
  refine gR.of (by decide +kernel) (Nat.le_of_ble_eq_true rfl) ?_
  intro p e s m below meth c F hr hlk hK hX hP ls hl
  have F : gF p m c cX4_keysOf 6 s ([.long a0] : List Value).toArray RX4 := F
  generalize ([.long a0] : List Value).toArray = args at F ⊢
  generalize hQ : MQ below _ _ _ _ _ _ = Q
  have hl : lv_has ls 6 [(0, .long a0)] := hl
  have hx := F.1
  have hb := F.2.1
  unfold f_X4_keysOf at hf
  refine lv_lconst (v := 0) hx hb dX4_keysOf_0 rfl ?_
  refine lv_lstore_n (lv' := [(2, .long 0), (0, .long a0)]) hx hb dX4_keysOf_1 rfl hl (by decide) rfl (fun ls hl => ?_)
  refine lv_lload_n hx hb dX4_keysOf_2 rfl (lv_at hl 1 rfl) ?_
  obtain ⟨x1, hx1, hf⟩ := g_bnd hf
  refine g_rs (As := [.long a0]) (rest := []) F hK hX hP [] rfl (c_X4_lengthOf h a0 hx1) (kX4_27 F.2.2.2.2 ⟨Nat.le_of_ble_eq_true rfl, Nat.le_of_ble_eq_true rfl⟩) rfl hl.1 rfl (lv_room (Nat.le_of_ble_eq_true rfl)) ⟨Nat.zero_le _, Nat.zero_le _⟩ dX4_keysOf_3 ?_
  refine lv_istore (lv' := [(4, .int x1), (2, .long 0), (0, .long a0)]) hx hb dX4_keysOf_6 hl (by decide) rfl (fun ls hl => ?_)
  refine lv_iconst (v := 0) hx hb dX4_keysOf_8 (by decide) ?_
  refine lv_istore (lv' := [(5, .int 0), (4, .int x1), (2, .long 0), (0, .long a0)]) hx hb dX4_keysOf_9 hl (by decide) rfl (fun ls hl => ?_)
  refine lp_rule (fun (v2 : Int64 × Int32) => ∀ ls : Array Slot, lv_has ls 6 [(0, .long a0), (2, .long v2.1), (4, .int x1), (5, .int v2.2)] → W p l e rX4_keysOf s m args below meth c s.heap [] 0 0 Q (F0 m 11 ls [])) ?_ _ _ hf ls (lv_sub hl [3, 2, 1, 0] rfl)
  intro v2 y hf hbackv2 hexitv2 ls hl
  refine lv_iload hx hb dX4_keysOf_11 (lv_at hl 3 rfl) ?_
  refine lv_iload hx hb dX4_keysOf_13 (lv_at hl 2 rfl) ?_
  refine lv_icmp_ge (tgt := 43) hx hb dX4_keysOf_15 (by decide) (fun c4 => ?_) (fun c4 => ?_)
  · have hf := g_it c4 hf
    refine lv_lload_n hx hb dX4_keysOf_43 rfl (lv_at hl 1 rfl) ?_
    have ho := hexitv2 _ (Option.some.inj hf).symm
    rw [← hQ, ← ho]
    exact g_retL F hr hlk dX4_keysOf_44
  · have hf := g_if c4 hf
    refine lv_lload_n hx hb dX4_keysOf_18 rfl (lv_at hl 1 rfl) ?_
    refine lv_iload hx hb dX4_keysOf_19 (lv_at hl 3 rfl) ?_
    refine lv_lload_n hx hb dX4_keysOf_21 rfl (lv_at hl 0 rfl) ?_
    refine lv_iload hx hb dX4_keysOf_22 (lv_at hl 3 rfl) ?_
    obtain ⟨x5, hx5, hf⟩ := g_bnd hf
    refine g_rs (As := [.long a0, .int v2.2]) (rest := [.int v2.2, .long v2.1]) F hK hX hP [] rfl (c_X4_letterAt h a0 v2.2 hx5) (kX4_31 F.2.2.2.2 ⟨Nat.le_of_ble_eq_true rfl, Nat.le_of_ble_eq_true rfl⟩) rfl hl.1 rfl (lv_room (Nat.le_of_ble_eq_true rfl)) ⟨Nat.zero_le _, Nat.zero_le _⟩ dX4_keysOf_24 ?_
    obtain ⟨x6, hx6, hf⟩ := g_bnd hf
    refine g_rs (As := [.int x5]) (rest := [.int v2.2, .long v2.1]) F hK hX hP [] rfl (c_X1_keyWith h x5 hx6) (kX4_34 F.2.2.2.2 ⟨Nat.le_of_ble_eq_true rfl, Nat.le_of_ble_eq_true rfl⟩) rfl hl.1 rfl (lv_room (Nat.le_of_ble_eq_true rfl)) ⟨Nat.zero_le _, Nat.zero_le _⟩ dX4_keysOf_27 ?_
    obtain ⟨x7, hx7, hf⟩ := g_bnd hf
    refine g_rs (As := [.int x6]) (rest := [.int v2.2, .long v2.1]) F hK hX hP [] rfl (c_X4_codeOfKey h x6 hx7) (kX4_39 F.2.2.2.2 ⟨Nat.le_of_ble_eq_true rfl, Nat.le_of_ble_eq_true rfl⟩) rfl hl.1 rfl (lv_room (Nat.le_of_ble_eq_true rfl)) ⟨Nat.zero_le _, Nat.zero_le _⟩ dX4_keysOf_30 ?_
    obtain ⟨x8, hx8, hf⟩ := g_bnd hf
    refine g_rs (As := [.long v2.1, .int v2.2, .int x7]) (rest := []) F hK hX hP [] rfl (c_X4_with h v2.1 v2.2 x7 hx8) (kX4_23 F.2.2.2.2 ⟨Nat.le_of_ble_eq_true rfl, Nat.le_of_ble_eq_true rfl⟩) rfl hl.1 rfl (lv_room (Nat.le_of_ble_eq_true rfl)) ⟨Nat.zero_le _, Nat.zero_le _⟩ dX4_keysOf_33 ?_
    refine lv_lstore_n (lv' := [(2, .long x8), (0, .long a0), (4, .int x1), (5, .int v2.2)]) hx hb dX4_keysOf_36 rfl hl (by decide) rfl (fun ls hl => ?_)
    refine lv_iinc (v := (v2.2 + 1)) (lv' := [(5, .int (v2.2 + 1)), (2, .long x8), (0, .long a0), (4, .int x1)]) hx hb dX4_keysOf_37 hl (k := 3) rfl rfl (by decide) rfl (fun ls hl => ?_)
    refine lv_goto (tgt := 11) hx hb dX4_keysOf_40 (by decide) ?_
    exact hbackv2 _ (Option.some.inj hf).symm ls (lv_sub hl [2, 1, 3, 0] rfl)
set_option maxHeartbeats 4000000 in
set_option maxRecDepth 100000 in
theorem c_X4_has {l : Launch} {E : gEnv} (h : Nat → Nat) (a0 : Int64) (a1 : Int32) {o : Int32} (hf : f_X4_has a0 a1 = some o) : gR l yX4_has cX4_has 3 (some .boolean) rX4_has E [.long a0, .int a1] [] (some (.int o)) := by
  refine gR.of (by decide +kernel) (Nat.le_of_ble_eq_true rfl) ?_
  intro p e s m below meth c F hr hlk hK hX hP ls hl
  have F : gF p m c cX4_has 3 s ([.long a0, .int a1] : List Value).toArray RX4 := F
  generalize ([.long a0, .int a1] : List Value).toArray = args at F ⊢
  generalize hQ : MQ below _ _ _ _ _ _ = Q
  have hl : lv_has ls 3 [(0, .long a0), (2, .int a1)] := hl
  have hx := F.1
  have hb := F.2.1
  unfold f_X4_has at hf
  refine lv_lload_n hx hb dX4_has_0 rfl (lv_at hl 0 rfl) ?_
  refine lv_iload_n hx hb dX4_has_1 rfl (lv_at hl 1 rfl) ?_
  obtain ⟨x1, hx1, hf⟩ := g_bnd hf
  refine g_rs (As := [.long a0, .int a1]) (rest := []) F hK hX hP [] rfl (c_X4_codeAt h a0 a1 hx1) (kX4_13 F.2.2.2.2 ⟨Nat.le_of_ble_eq_true rfl, Nat.le_of_ble_eq_true rfl⟩) rfl hl.1 rfl (lv_room (Nat.le_of_ble_eq_true rfl)) ⟨Nat.zero_le _, Nat.zero_le _⟩ dX4_has_2 ?_
  refine lv_if_eq (tgt := 12) hx hb dX4_has_5 (by decide) (fun c2 => ?_) (fun c2 => ?_)
  · have hf := g_it c2 hf
    refine lv_iconst (v := 0) hx hb dX4_has_12 (by decide) ?_
    have ho := Option.some.inj hf
    rw [← hQ, ← ho]
    exact g_retZ F hr hlk narrow_b0 dX4_has_13
  · have hf := g_if c2 hf
    refine lv_iconst (v := 1) hx hb dX4_has_8 (by decide) ?_
    refine lv_goto (tgt := 13) hx hb dX4_has_9 (by decide) ?_
    have ho := Option.some.inj hf
    rw [← hQ, ← ho]
    exact g_retZ F hr hlk narrow_b1 dX4_has_13
set_option maxHeartbeats 4000000 in
set_option maxRecDepth 100000 in
theorem c_X1_isKey {l : Launch} {E : gEnv} (h : Nat → Nat) (a0 : Int32) {o : Int32} (hf : f_X1_isKey a0 = some o) : gR l yX1_isKey cX1_isKey 1 (some .boolean) rX1_isKey E [.int a0] [] (some (.int o)) := by
  refine gR.of (by decide +kernel) (Nat.le_of_ble_eq_true rfl) ?_
  intro p e s m below meth c F hr hlk hK hX hP ls hl
  have F : gF p m c cX1_isKey 1 s ([.int a0] : List Value).toArray RX1 := F
  generalize ([.int a0] : List Value).toArray = args at F ⊢
  generalize hQ : MQ below _ _ _ _ _ _ = Q
  have hl : lv_has ls 1 [(0, .int a0)] := hl
  have hx := F.1
  have hb := F.2.1
  unfold f_X1_isKey at hf
  refine lv_iload_n hx hb dX1_isKey_0 rfl (lv_at hl 0 rfl) ?_
  refine lv_iconst (v := 2) hx hb dX1_isKey_1 (by decide) ?_
  refine lv_icmp_lt (tgt := 15) hx hb dX1_isKey_2 (by decide) (fun c1 => ?_) (fun c1 => ?_)
  · have hf := g_it c1 hf
    refine lv_iconst (v := 0) hx hb dX1_isKey_15 (by decide) ?_
    have ho := Option.some.inj hf
    rw [← hQ, ← ho]
    exact g_retZ F hr hlk narrow_b0 dX1_isKey_16
  · have hf := g_if c1 hf
    refine lv_iload_n hx hb dX1_isKey_5 rfl (lv_at hl 0 rfl) ?_
    refine lv_bipush (v := 9) hx hb dX1_isKey_6 (by decide) ?_
    refine lv_icmp_gt (tgt := 15) hx hb dX1_isKey_8 (by decide) (fun c2 => ?_) (fun c2 => ?_)
    · have hf := g_it c2 hf
      refine lv_iconst (v := 0) hx hb dX1_isKey_15 (by decide) ?_
      have ho := Option.some.inj hf
      rw [← hQ, ← ho]
      exact g_retZ F hr hlk narrow_b0 dX1_isKey_16
    · have hf := g_if c2 hf
      refine lv_iconst (v := 1) hx hb dX1_isKey_11 (by decide) ?_
      refine lv_goto (tgt := 16) hx hb dX1_isKey_12 (by decide) ?_
      have ho := Option.some.inj hf
      rw [← hQ, ← ho]
      exact g_retZ F hr hlk narrow_b1 dX1_isKey_16
set_option maxHeartbeats 4000000 in
set_option maxRecDepth 100000 in
theorem c_X1_firstLetter {l : Launch} {E : gEnv} (h : Nat → Nat) (a0 : Int32) {o : Int32} (hf : f_X1_firstLetter a0 = some o) : gR l yX1_firstLetter cX1_firstLetter 1 (some .int) rX1_firstLetter E [.int a0] [] (some (.int o)) := by
  refine gR.of (by decide +kernel) (Nat.le_of_ble_eq_true rfl) ?_
  intro p e s m below meth c F hr hlk hK hX hP ls hl
  have F : gF p m c cX1_firstLetter 1 s ([.int a0] : List Value).toArray RX1 := F
  generalize ([.int a0] : List Value).toArray = args at F ⊢
  generalize hQ : MQ below _ _ _ _ _ _ = Q
  have hl : lv_has ls 1 [(0, .int a0)] := hl
  have hx := F.1
  have hb := F.2.1
  unfold f_X1_firstLetter at hf
  refine lv_iload_n hx hb dX1_firstLetter_0 rfl (lv_at hl 0 rfl) ?_
  obtain ⟨x1, hx1, hf⟩ := g_bnd hf
  refine g_rs (As := [.int a0]) (rest := []) F hK hX hP [] rfl (c_X1_isKey h a0 hx1) (kX1_15 F.2.2.2.2 ⟨Nat.le_of_ble_eq_true rfl, Nat.le_of_ble_eq_true rfl⟩) rfl hl.1 rfl (lv_room (Nat.le_of_ble_eq_true rfl)) ⟨Nat.zero_le _, Nat.zero_le _⟩ dX1_firstLetter_1 ?_
  refine lv_if_eq (tgt := 17) hx hb dX1_firstLetter_4 (by decide) (fun c2 => ?_) (fun c2 => ?_)
  · have hf := g_it c2 hf
    refine lv_iconst (v := 0) hx hb dX1_firstLetter_17 (by decide) ?_
    have ho := Option.some.inj hf
    rw [← hQ, ← ho]
    exact g_retI F hr hlk dX1_firstLetter_18
  · have hf := g_if c2 hf
    refine va_gets (C := RX1) (n := "FIRST_LETTER_FROM_KEY_2") (d := "[I") (ref := RX1) hx hb hX.2.1.1 va_S.rf F.2.2.2.1 (F.2.2.2.2 _ gw_290) (fun _ h => h) dX1_firstLetter_7 ?_
    refine lv_iload_n hx hb dX1_firstLetter_10 rfl (lv_at hl 0 rfl) ?_
    refine lv_iconst (v := 2) hx hb dX1_firstLetter_11 (by decide) ?_
    refine lv_isub hx hb dX1_firstLetter_12 ?_
    obtain ⟨x3, hx3, hf⟩ := g_bnd hf
    refine va_ti hx hb hX.2.1.2 va_S.rf (rd_in hx3).1 (congrArg Value.int (rd_in hx3).2) dX1_firstLetter_13 ?_
    refine lv_goto (tgt := 18) hx hb dX1_firstLetter_14 (by decide) ?_
    have ho := Option.some.inj hf
    rw [← hQ, ← ho]
    exact g_retI F hr hlk dX1_firstLetter_18
set_option maxHeartbeats 4000000 in
set_option maxRecDepth 100000 in
theorem c_X1_letterBehind {l : Launch} {E : gEnv} (h : Nat → Nat) (a0 : Int32) {o : Int32} (hf : f_X1_letterBehind a0 = some o) : gR l yX1_letterBehind cX1_letterBehind 2 (some .int) rX1_letterBehind E [.int a0] [] (some (.int o)) := by
  refine gR.of (by decide +kernel) (Nat.le_of_ble_eq_true rfl) ?_
  intro p e s m below meth c F hr hlk hK hX hP ls hl
  have F : gF p m c cX1_letterBehind 2 s ([.int a0] : List Value).toArray RX1 := F
  generalize ([.int a0] : List Value).toArray = args at F ⊢
  generalize hQ : MQ below _ _ _ _ _ _ = Q
  have hl : lv_has ls 2 [(0, .int a0)] := hl
  have hx := F.1
  have hb := F.2.1
  unfold f_X1_letterBehind at hf
  refine lv_iload_n hx hb dX1_letterBehind_0 rfl (lv_at hl 0 rfl) ?_
  obtain ⟨x1, hx1, hf⟩ := g_bnd hf
  refine g_rs (As := [.int a0]) (rest := []) F hK hX hP [] rfl (c_X1_keyWith h a0 hx1) (kX1_22 F.2.2.2.2 ⟨Nat.le_of_ble_eq_true rfl, Nat.le_of_ble_eq_true rfl⟩) rfl hl.1 rfl (lv_room (Nat.le_of_ble_eq_true rfl)) ⟨Nat.zero_le _, Nat.zero_le _⟩ dX1_letterBehind_1 ?_
  refine lv_istore_n (lv' := [(1, .int x1), (0, .int a0)]) hx hb dX1_letterBehind_4 rfl hl (by decide) rfl (fun ls hl => ?_)
  refine lv_iload_n hx hb dX1_letterBehind_5 rfl (lv_at hl 1 rfl) ?_
  refine lv_iconst (v := 1) hx hb dX1_letterBehind_6 (by decide) ?_
  refine lv_iadd hx hb dX1_letterBehind_7 ?_
  obtain ⟨x2, hx2, hf⟩ := g_bnd hf
  refine g_rs (As := [.int (a0 + 1)]) (rest := []) F hK hX hP [] rfl (c_X1_keyWith h (a0 + 1) hx2) (kX1_22 F.2.2.2.2 ⟨Nat.le_of_ble_eq_true rfl, Nat.le_of_ble_eq_true rfl⟩) rfl hl.1 rfl (lv_room (Nat.le_of_ble_eq_true rfl)) ⟨Nat.zero_le _, Nat.zero_le _⟩ dX1_letterBehind_8 ?_
  refine lv_iload_n hx hb dX1_letterBehind_11 rfl (lv_at hl 0 rfl) ?_
  refine lv_icmp_ne (tgt := 21) hx hb dX1_letterBehind_12 (by decide) (fun c3 => ?_) (fun c3 => ?_)
  · have hf := g_if c3 hf
    refine lv_iload_n hx hb dX1_letterBehind_21 rfl (lv_at hl 0 rfl) ?_
    obtain ⟨x4, hx4, hf⟩ := g_bnd hf
    refine g_rs (As := [.int x1]) (rest := []) F hK hX hP [] rfl (c_X1_firstLetter h x1 hx4) (kX1_26 F.2.2.2.2 ⟨Nat.le_of_ble_eq_true rfl, Nat.le_of_ble_eq_true rfl⟩) rfl hl.1 rfl (lv_room (Nat.le_of_ble_eq_true rfl)) ⟨Nat.zero_le _, Nat.zero_le _⟩ dX1_letterBehind_22 ?_
    have ho := Option.some.inj hf
    rw [← hQ, ← ho]
    exact g_retI F hr hlk dX1_letterBehind_25
  · have hf := g_it c3 hf
    refine lv_iload_n hx hb dX1_letterBehind_15 rfl (lv_at hl 1 rfl) ?_
    refine lv_iconst (v := 1) hx hb dX1_letterBehind_16 (by decide) ?_
    refine lv_iadd hx hb dX1_letterBehind_17 ?_
    refine lv_goto (tgt := 25) hx hb dX1_letterBehind_18 (by decide) ?_
    have ho := Option.some.inj hf
    rw [← hQ, ← ho]
    exact g_retI F hr hlk dX1_letterBehind_25
set_option maxHeartbeats 4000000 in
set_option maxRecDepth 100000 in
theorem c_X4_isLetter {l : Launch} {E : gEnv} (h : Nat → Nat) (a0 : Int32) {o : Int32} (hf : f_X4_isLetter a0 = some o) : gR l yX4_isLetter cX4_isLetter 1 (some .boolean) rX4_isLetter E [.int a0] [] (some (.int o)) := by
  refine gR.of (by decide +kernel) (Nat.le_of_ble_eq_true rfl) ?_
  intro p e s m below meth c F hr hlk hK hX hP ls hl
  have F : gF p m c cX4_isLetter 1 s ([.int a0] : List Value).toArray RX4 := F
  generalize ([.int a0] : List Value).toArray = args at F ⊢
  generalize hQ : MQ below _ _ _ _ _ _ = Q
  have hl : lv_has ls 1 [(0, .int a0)] := hl
  have hx := F.1
  have hb := F.2.1
  unfold f_X4_isLetter at hf
  refine lv_iload_n hx hb dX4_isLetter_0 rfl (lv_at hl 0 rfl) ?_
  refine lv_iconst (v := 1) hx hb dX4_isLetter_1 (by decide) ?_
  refine lv_icmp_lt (tgt := 15) hx hb dX4_isLetter_2 (by decide) (fun c1 => ?_) (fun c1 => ?_)
  · have hf := g_it c1 hf
    refine lv_iconst (v := 0) hx hb dX4_isLetter_15 (by decide) ?_
    have ho := Option.some.inj hf
    rw [← hQ, ← ho]
    exact g_retZ F hr hlk narrow_b0 dX4_isLetter_16
  · have hf := g_if c1 hf
    refine lv_iload_n hx hb dX4_isLetter_5 rfl (lv_at hl 0 rfl) ?_
    refine lv_bipush (v := 26) hx hb dX4_isLetter_6 (by decide) ?_
    refine lv_icmp_gt (tgt := 15) hx hb dX4_isLetter_8 (by decide) (fun c2 => ?_) (fun c2 => ?_)
    · have hf := g_it c2 hf
      refine lv_iconst (v := 0) hx hb dX4_isLetter_15 (by decide) ?_
      have ho := Option.some.inj hf
      rw [← hQ, ← ho]
      exact g_retZ F hr hlk narrow_b0 dX4_isLetter_16
    · have hf := g_if c2 hf
      refine lv_iconst (v := 1) hx hb dX4_isLetter_11 (by decide) ?_
      refine lv_goto (tgt := 16) hx hb dX4_isLetter_12 (by decide) ?_
      have ho := Option.some.inj hf
      rw [← hQ, ← ho]
      exact g_retZ F hr hlk narrow_b1 dX4_isLetter_16
set_option maxHeartbeats 4000000 in
set_option maxRecDepth 100000 in
theorem c_X4_keyOf {l : Launch} {E : gEnv} (h : Nat → Nat) (a0 : Int32) {o : Int32} (hf : f_X4_keyOf a0 = some o) : gR l yX4_keyOf cX4_keyOf 1 (some .int) rX4_keyOf E [.int a0] [] (some (.int o)) := by
  refine gR.of (by decide +kernel) (Nat.le_of_ble_eq_true rfl) ?_
  intro p e s m below meth c F hr hlk hK hX hP ls hl
  have F : gF p m c cX4_keyOf 1 s ([.int a0] : List Value).toArray RX4 := F
  generalize ([.int a0] : List Value).toArray = args at F ⊢
  generalize hQ : MQ below _ _ _ _ _ _ = Q
  have hl : lv_has ls 1 [(0, .int a0)] := hl
  have hx := F.1
  have hb := F.2.1
  unfold f_X4_keyOf at hf
  refine lv_iload_n hx hb dX4_keyOf_0 rfl (lv_at hl 0 rfl) ?_
  refine lv_bipush (v := 30) hx hb dX4_keyOf_1 (by decide) ?_
  refine lv_isub hx hb dX4_keyOf_3 ?_
  have ho := Option.some.inj hf
  rw [← hQ, ← ho]
  exact g_retI F hr hlk dX4_keyOf_4
set_option maxHeartbeats 4000000 in
set_option maxRecDepth 100000 in
theorem c_X4_firstLetters {l : Launch} {E : gEnv} (h : Nat → Nat) (a0 : Int64) {o : Int64} (hf : f_X4_firstLetters a0 = some o) : gR l yX4_firstLetters cX4_firstLetters 8 (some .long) rX4_firstLetters E [.long a0] [] (some (.long o)) := by
  refine gR.of (by decide +kernel) (Nat.le_of_ble_eq_true rfl) ?_
  intro p e s m below meth c F hr hlk hK hX hP ls hl
  have F : gF p m c cX4_firstLetters 8 s ([.long a0] : List Value).toArray RX4 := F
  generalize ([.long a0] : List Value).toArray = args at F ⊢
  generalize hQ : MQ below _ _ _ _ _ _ = Q
  have hl : lv_has ls 8 [(0, .long a0)] := hl
  have hx := F.1
  have hb := F.2.1
  unfold f_X4_firstLetters at hf
  refine lv_lconst (v := 0) hx hb dX4_firstLetters_0 rfl ?_
  refine lv_lstore_n (lv' := [(2, .long 0), (0, .long a0)]) hx hb dX4_firstLetters_1 rfl hl (by decide) rfl (fun ls hl => ?_)
  refine lv_lload_n hx hb dX4_firstLetters_2 rfl (lv_at hl 1 rfl) ?_
  obtain ⟨x1, hx1, hf⟩ := g_bnd hf
  refine g_rs (As := [.long a0]) (rest := []) F hK hX hP [] rfl (c_X4_lengthOf h a0 hx1) (kX4_27 F.2.2.2.2 ⟨Nat.le_of_ble_eq_true rfl, Nat.le_of_ble_eq_true rfl⟩) rfl hl.1 rfl (lv_room (Nat.le_of_ble_eq_true rfl)) ⟨Nat.zero_le _, Nat.zero_le _⟩ dX4_firstLetters_3 ?_
  refine lv_istore (lv' := [(4, .int x1), (2, .long 0), (0, .long a0)]) hx hb dX4_firstLetters_6 hl (by decide) rfl (fun ls hl => ?_)
  refine lv_iconst (v := 0) hx hb dX4_firstLetters_8 (by decide) ?_
  refine lv_istore (lv' := [(5, .int 0), (4, .int x1), (2, .long 0), (0, .long a0)]) hx hb dX4_firstLetters_9 hl (by decide) rfl (fun ls hl => ?_)
  refine lp_rule (fun (v2 : Int64 × Int32) => ∀ ls : Array Slot, lv_has ls 8 [(0, .long a0), (2, .long v2.1), (4, .int x1), (5, .int v2.2)] → W p l e rX4_firstLetters s m args below meth c s.heap [] 0 0 Q (F0 m 11 ls [])) ?_ _ _ hf ls (lv_sub hl [3, 2, 1, 0] rfl)
  intro v2 y hf hbackv2 hexitv2 ls hl
  refine lv_iload hx hb dX4_firstLetters_11 (lv_at hl 3 rfl) ?_
  refine lv_iload hx hb dX4_firstLetters_13 (lv_at hl 2 rfl) ?_
  refine lv_icmp_ge (tgt := 67) hx hb dX4_firstLetters_15 (by decide) (fun c4 => ?_) (fun c4 => ?_)
  · have hf := g_it c4 hf
    refine lv_lload_n hx hb dX4_firstLetters_67 rfl (lv_at hl 1 rfl) ?_
    have ho := hexitv2 _ (Option.some.inj hf).symm
    rw [← hQ, ← ho]
    exact g_retL F hr hlk dX4_firstLetters_68
  · have hf := g_if c4 hf
    refine lv_lload_n hx hb dX4_firstLetters_18 rfl (lv_at hl 0 rfl) ?_
    refine lv_iload hx hb dX4_firstLetters_19 (lv_at hl 3 rfl) ?_
    obtain ⟨x5, hx5, hf⟩ := g_bnd hf
    refine g_rs (As := [.long a0, .int v2.2]) (rest := []) F hK hX hP [] rfl (c_X4_codeAt h a0 v2.2 hx5) (kX4_13 F.2.2.2.2 ⟨Nat.le_of_ble_eq_true rfl, Nat.le_of_ble_eq_true rfl⟩) rfl hl.1 rfl (lv_room (Nat.le_of_ble_eq_true rfl)) ⟨Nat.zero_le _, Nat.zero_le _⟩ dX4_firstLetters_21 ?_
    refine lv_istore (lv' := [(6, .int x5), (0, .long a0), (2, .long v2.1), (4, .int x1), (5, .int v2.2)]) hx hb dX4_firstLetters_24 hl (by decide) rfl (fun ls hl => ?_)
    refine lv_iload hx hb dX4_firstLetters_26 (lv_at hl 0 rfl) ?_
    obtain ⟨x6, hx6, hf⟩ := g_bnd hf
    refine g_rs (As := [.int x5]) (rest := []) F hK hX hP [] rfl (c_X4_isLetter h x5 hx6) (kX4_42 F.2.2.2.2 ⟨Nat.le_of_ble_eq_true rfl, Nat.le_of_ble_eq_true rfl⟩) rfl hl.1 rfl (lv_room (Nat.le_of_ble_eq_true rfl)) ⟨Nat.zero_le _, Nat.zero_le _⟩ dX4_firstLetters_28 ?_
    obtain ⟨j7, hf, hfj7⟩ := g_bnd hf
    have hJj7 : ∀ ls : Array Slot, lv_has ls 8 [(0, .long a0), (2, .long v2.1), (4, .int x1), (5, .int v2.2)] → W p l e rX4_firstLetters s m args below meth c s.heap [] 0 0 Q (F0 m 50 ls [.int j7]) := by
      intro ls hl
      have hf := hfj7
      refine lv_istore (lv' := [(7, .int j7), (0, .long a0), (2, .long v2.1), (4, .int x1), (5, .int v2.2)]) hx hb dX4_firstLetters_50 hl (by decide) rfl (fun ls hl => ?_)
      refine lv_lload_n hx hb dX4_firstLetters_52 rfl (lv_at hl 2 rfl) ?_
      refine lv_iload hx hb dX4_firstLetters_53 (lv_at hl 4 rfl) ?_
      refine lv_iload hx hb dX4_firstLetters_55 (lv_at hl 0 rfl) ?_
      obtain ⟨x12, hx12, hf⟩ := g_bnd hf
      refine g_rs (As := [.long v2.1, .int v2.2, .int j7]) (rest := []) F hK hX hP [] rfl (c_X4_with h v2.1 v2.2 j7 hx12) (kX4_23 F.2.2.2.2 ⟨Nat.le_of_ble_eq_true rfl, Nat.le_of_ble_eq_true rfl⟩) rfl hl.1 rfl (lv_room (Nat.le_of_ble_eq_true rfl)) ⟨Nat.zero_le _, Nat.zero_le _⟩ dX4_firstLetters_57 ?_
      refine lv_lstore_n (lv' := [(2, .long x12), (7, .int j7), (0, .long a0), (4, .int x1), (5, .int v2.2)]) hx hb dX4_firstLetters_60 rfl hl (by decide) rfl (fun ls hl => ?_)
      refine lv_iinc (v := (v2.2 + 1)) (lv' := [(5, .int (v2.2 + 1)), (2, .long x12), (7, .int j7), (0, .long a0), (4, .int x1)]) hx hb dX4_firstLetters_61 hl (k := 4) rfl rfl (by decide) rfl (fun ls hl => ?_)
      refine lv_goto (tgt := 11) hx hb dX4_firstLetters_64 (by decide) ?_
      exact hbackv2 _ (Option.some.inj hf).symm ls (lv_sub hl [3, 1, 4, 0] rfl)
    refine lv_if_eq (tgt := 39) hx hb dX4_firstLetters_31 (by decide) (fun c8 => ?_) (fun c8 => ?_)
    · have hf := g_it c8 hf
      refine lv_iload hx hb dX4_firstLetters_39 (lv_at hl 0 rfl) ?_
      obtain ⟨x9, hx9, hf⟩ := g_bnd hf
      refine g_rs (As := [.int x5]) (rest := []) F hK hX hP [] rfl (c_X4_keyOf h x5 hx9) (kX4_46 F.2.2.2.2 ⟨Nat.le_of_ble_eq_true rfl, Nat.le_of_ble_eq_true rfl⟩) rfl hl.1 rfl (lv_room (Nat.le_of_ble_eq_true rfl)) ⟨Nat.zero_le _, Nat.zero_le _⟩ dX4_firstLetters_41 ?_
      obtain ⟨x10, hx10, hf⟩ := g_bnd hf
      refine g_rs (As := [.int x9]) (rest := []) F hK hX hP [] rfl (c_X1_firstLetter h x9 hx10) (kX4_49 F.2.2.2.2 ⟨Nat.le_of_ble_eq_true rfl, Nat.le_of_ble_eq_true rfl⟩) rfl hl.1 rfl (lv_room (Nat.le_of_ble_eq_true rfl)) ⟨Nat.zero_le _, Nat.zero_le _⟩ dX4_firstLetters_44 ?_
      obtain ⟨x11, hx11, hf⟩ := g_bnd hf
      refine g_rs (As := [.int x10]) (rest := []) F hK hX hP [] rfl (c_X4_codeOfLetter h x10 hx11) (kX4_52 F.2.2.2.2 ⟨Nat.le_of_ble_eq_true rfl, Nat.le_of_ble_eq_true rfl⟩) rfl hl.1 rfl (lv_room (Nat.le_of_ble_eq_true rfl)) ⟨Nat.zero_le _, Nat.zero_le _⟩ dX4_firstLetters_47 ?_
      obtain rfl := Option.some.inj hf
      exact hJj7 ls (lv_sub hl [1, 2, 3, 4] rfl)
    · have hf := g_if c8 hf
      refine lv_iload hx hb dX4_firstLetters_34 (lv_at hl 0 rfl) ?_
      refine lv_goto (tgt := 50) hx hb dX4_firstLetters_36 (by decide) ?_
      obtain rfl := Option.some.inj hf
      exact hJj7 ls (lv_sub hl [1, 2, 3, 4] rfl)
set_option maxHeartbeats 4000000 in
set_option maxRecDepth 100000 in
theorem c_X4_firstOf {l : Launch} {E : gEnv} (h : Nat → Nat) (a0 : Int64) (a1 : Int32) {o : Int64} (hf : f_X4_firstOf a0 a1 = some o) : gR l yX4_firstOf cX4_firstOf 6 (some .long) rX4_firstOf E [.long a0, .int a1] [] (some (.long o)) := by
  refine gR.of (by decide +kernel) (Nat.le_of_ble_eq_true rfl) ?_
  intro p e s m below meth c F hr hlk hK hX hP ls hl
  have F : gF p m c cX4_firstOf 6 s ([.long a0, .int a1] : List Value).toArray RX4 := F
  generalize ([.long a0, .int a1] : List Value).toArray = args at F ⊢
  generalize hQ : MQ below _ _ _ _ _ _ = Q
  have hl : lv_has ls 6 [(0, .long a0), (2, .int a1)] := hl
  have hx := F.1
  have hb := F.2.1
  unfold f_X4_firstOf at hf
  refine lv_lconst (v := 0) hx hb dX4_firstOf_0 rfl ?_
  refine lv_lstore_n (lv' := [(3, .long 0), (0, .long a0), (2, .int a1)]) hx hb dX4_firstOf_1 rfl hl (by decide) rfl (fun ls hl => ?_)
  refine lv_iconst (v := 0) hx hb dX4_firstOf_2 (by decide) ?_
  refine lv_istore (lv' := [(5, .int 0), (3, .long 0), (0, .long a0), (2, .int a1)]) hx hb dX4_firstOf_3 hl (by decide) rfl (fun ls hl => ?_)
  refine lp_rule (fun (v1 : Int64 × Int32) => ∀ ls : Array Slot, lv_has ls 6 [(0, .long a0), (2, .int a1), (3, .long v1.1), (5, .int v1.2)] → W p l e rX4_firstOf s m args below meth c s.heap [] 0 0 Q (F0 m 5 ls [])) ?_ _ _ hf ls (lv_sub hl [2, 3, 1, 0] rfl)
  intro v1 y hf hbackv1 hexitv1 ls hl
  refine lv_iload hx hb dX4_firstOf_5 (lv_at hl 3 rfl) ?_
  refine lv_iload_n hx hb dX4_firstOf_7 rfl (lv_at hl 1 rfl) ?_
  refine lv_icmp_ge (tgt := 37) hx hb dX4_firstOf_8 (by decide) (fun c3 => ?_) (fun c3 => ?_)
  · have hf := g_it c3 hf
    refine lv_lload_n hx hb dX4_firstOf_37 rfl (lv_at hl 2 rfl) ?_
    have ho := hexitv1 _ (Option.some.inj hf).symm
    rw [← hQ, ← ho]
    exact g_retL F hr hlk dX4_firstOf_38
  · have hf := g_if c3 hf
    refine lv_iload hx hb dX4_firstOf_11 (lv_at hl 3 rfl) ?_
    refine lv_bipush (v := 10) hx hb dX4_firstOf_13 (by decide) ?_
    refine lv_icmp_ge (tgt := 37) hx hb dX4_firstOf_15 (by decide) (fun c4 => ?_) (fun c4 => ?_)
    · have hf := g_it c4 hf
      refine lv_lload_n hx hb dX4_firstOf_37 rfl (lv_at hl 2 rfl) ?_
      have ho := hexitv1 _ (Option.some.inj hf).symm
      rw [← hQ, ← ho]
      exact g_retL F hr hlk dX4_firstOf_38
    · have hf := g_if c4 hf
      refine lv_lload_n hx hb dX4_firstOf_18 rfl (lv_at hl 2 rfl) ?_
      refine lv_iload hx hb dX4_firstOf_19 (lv_at hl 3 rfl) ?_
      refine lv_lload_n hx hb dX4_firstOf_21 rfl (lv_at hl 0 rfl) ?_
      refine lv_iload hx hb dX4_firstOf_22 (lv_at hl 3 rfl) ?_
      obtain ⟨x5, hx5, hf⟩ := g_bnd hf
      refine g_rs (As := [.long a0, .int v1.2]) (rest := [.int v1.2, .long v1.1]) F hK hX hP [] rfl (c_X4_codeAt h a0 v1.2 hx5) (kX4_13 F.2.2.2.2 ⟨Nat.le_of_ble_eq_true rfl, Nat.le_of_ble_eq_true rfl⟩) rfl hl.1 rfl (lv_room (Nat.le_of_ble_eq_true rfl)) ⟨Nat.zero_le _, Nat.zero_le _⟩ dX4_firstOf_24 ?_
      obtain ⟨x6, hx6, hf⟩ := g_bnd hf
      refine g_rs (As := [.long v1.1, .int v1.2, .int x5]) (rest := []) F hK hX hP [] rfl (c_X4_with h v1.1 v1.2 x5 hx6) (kX4_23 F.2.2.2.2 ⟨Nat.le_of_ble_eq_true rfl, Nat.le_of_ble_eq_true rfl⟩) rfl hl.1 rfl (lv_room (Nat.le_of_ble_eq_true rfl)) ⟨Nat.zero_le _, Nat.zero_le _⟩ dX4_firstOf_27 ?_
      refine lv_lstore_n (lv' := [(3, .long x6), (0, .long a0), (2, .int a1), (5, .int v1.2)]) hx hb dX4_firstOf_30 rfl hl (by decide) rfl (fun ls hl => ?_)
      refine lv_iinc (v := (v1.2 + 1)) (lv' := [(5, .int (v1.2 + 1)), (3, .long x6), (0, .long a0), (2, .int a1)]) hx hb dX4_firstOf_31 hl (k := 3) rfl rfl (by decide) rfl (fun ls hl => ?_)
      refine lv_goto (tgt := 5) hx hb dX4_firstOf_34 (by decide) ?_
      exact hbackv1 _ (Option.some.inj hf).symm ls (lv_sub hl [2, 3, 1, 0] rfl)
set_option maxHeartbeats 4000000 in
set_option maxRecDepth 100000 in
theorem c_X1_tapsOf {l : Launch} {E : gEnv} (h : Nat → Nat) (a0 : Int32) {o : Int32} (hf : f_X1_tapsOf a0 = some o) : gR l yX1_tapsOf cX1_tapsOf 1 (some .int) rX1_tapsOf E [.int a0] [] (some (.int o)) := by
  refine gR.of (by decide +kernel) (Nat.le_of_ble_eq_true rfl) ?_
  intro p e s m below meth c F hr hlk hK hX hP ls hl
  have F : gF p m c cX1_tapsOf 1 s ([.int a0] : List Value).toArray RX1 := F
  generalize ([.int a0] : List Value).toArray = args at F ⊢
  generalize hQ : MQ below _ _ _ _ _ _ = Q
  have hl : lv_has ls 1 [(0, .int a0)] := hl
  have hx := F.1
  have hb := F.2.1
  unfold f_X1_tapsOf at hf
  refine lv_iload_n hx hb dX1_tapsOf_0 rfl (lv_at hl 0 rfl) ?_
  refine lv_iload_n hx hb dX1_tapsOf_1 rfl (lv_at hl 0 rfl) ?_
  obtain ⟨x1, hx1, hf⟩ := g_bnd hf
  refine g_rs (As := [.int a0]) (rest := [.int a0]) F hK hX hP [] rfl (c_X1_keyWith h a0 hx1) (kX1_22 F.2.2.2.2 ⟨Nat.le_of_ble_eq_true rfl, Nat.le_of_ble_eq_true rfl⟩) rfl hl.1 rfl (lv_room (Nat.le_of_ble_eq_true rfl)) ⟨Nat.zero_le _, Nat.zero_le _⟩ dX1_tapsOf_2 ?_
  obtain ⟨x2, hx2, hf⟩ := g_bnd hf
  refine g_rs (As := [.int x1]) (rest := [.int a0]) F hK hX hP [] rfl (c_X1_firstLetter h x1 hx2) (kX1_26 F.2.2.2.2 ⟨Nat.le_of_ble_eq_true rfl, Nat.le_of_ble_eq_true rfl⟩) rfl hl.1 rfl (lv_room (Nat.le_of_ble_eq_true rfl)) ⟨Nat.zero_le _, Nat.zero_le _⟩ dX1_tapsOf_5 ?_
  refine lv_isub hx hb dX1_tapsOf_8 ?_
  refine lv_iconst (v := 1) hx hb dX1_tapsOf_9 (by decide) ?_
  refine lv_iadd hx hb dX1_tapsOf_10 ?_
  have ho := Option.some.inj hf
  rw [← hQ, ← ho]
  exact g_retI F hr hlk dX1_tapsOf_11
