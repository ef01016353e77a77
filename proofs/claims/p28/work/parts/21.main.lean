/-! ===== the law, behind its two constructors ===== -/
abbrev Alw (s : State) : Nat → Prop := fun q => s.heap.size ≤ q
def f_L_law (w1 : T8) (w2 : T8) (wS : Nat × (Nat → Int32)) : Option Int32 := Option.bind (α := Int32) (f_L_cell wS 0) (fun x1 => Option.bind (α := Int32) (f_L_up x1 20) (fun x2 => Option.bind (α := Int32 × T2 × T6 × T5s × T6 × T3 × T2 × T6 × T5s × T6 × T3) (f_L_loads w1 w2 wS (1 + x2)) (fun x3 => Option.bind (α := Int32 × T0 × T0) ((if x3.1 = 0 then some (0, w1.2.2.2.2, w2.2.2.2.2) else Option.bind (α := Int32 × T0 × T0) (f_L_areAlike (x3.2.1, x3.2.2.1, (x3.2.2.2.2.1, w1.2.2.1.2.1, x3.2.2.2.1), x3.2.2.2.2.2.1, w1.2.2.2.2) (x3.2.2.2.2.2.2.1, x3.2.2.2.2.2.2.2.1, (x3.2.2.2.2.2.2.2.2.2.1, w2.2.2.1.2.1, x3.2.2.2.2.2.2.2.2.1), x3.2.2.2.2.2.2.2.2.2.2, w2.2.2.2.2)) (fun x6 => (if x6.1 = 0 then some (0, x6.2.1, x6.2.2) else some (1, x6.2.1, x6.2.2))))) (fun j4 => Option.bind (α := Int32 × T5s × T6 × T7 × T3 × T0 × T5s × T6 × T7 × T3 × T0) (lp (σ := Int32 × Int32 × T5s × T6 × T7 × T3 × T0 × T5s × T6 × T7 × T3 × T0) (ρ := Int32 × T5s × T6 × T7 × T3 × T0 × T5s × T6 × T7 × T3 × T0) (fun v8 => (if 40 ≤ v8.2.1 then (some (.inr (v8.1, v8.2.2.1, v8.2.2.2.1, v8.2.2.2.2.1, v8.2.2.2.2.2.1, v8.2.2.2.2.2.2.1, v8.2.2.2.2.2.2.2.1, v8.2.2.2.2.2.2.2.2.1, v8.2.2.2.2.2.2.2.2.2.1, v8.2.2.2.2.2.2.2.2.2.2.1, v8.2.2.2.2.2.2.2.2.2.2.2))) else (if v8.1 = 0 then (some (.inr (v8.1, v8.2.2.1, v8.2.2.2.1, v8.2.2.2.2.1, v8.2.2.2.2.2.1, v8.2.2.2.2.2.2.1, v8.2.2.2.2.2.2.2.1, v8.2.2.2.2.2.2.2.2.1, v8.2.2.2.2.2.2.2.2.2.1, v8.2.2.2.2.2.2.2.2.2.2.1, v8.2.2.2.2.2.2.2.2.2.2.2))) else Option.bind (α := Int32) (f_L_cell wS (22 + v8.2.1)) (fun x12 => Option.bind (α := Int32 × T5s × T6 × T7 × T3 × T0 × T5s × T6 × T7 × T3 × T0) (f_L_isStep (x3.2.1, x3.2.2.1, (v8.2.2.2.1, v8.2.2.2.2.1, v8.2.2.1), v8.2.2.2.2.2.1, v8.2.2.2.2.2.2.1) (x3.2.2.2.2.2.2.1, x3.2.2.2.2.2.2.2.1, (v8.2.2.2.2.2.2.2.2.1, v8.2.2.2.2.2.2.2.2.2.1, v8.2.2.2.2.2.2.2.1), v8.2.2.2.2.2.2.2.2.2.2.1, v8.2.2.2.2.2.2.2.2.2.2.2) x12) (fun x13 => Option.bind (α := Int32 × T0 × T0) ((if x13.1 = 0 then some (0, x13.2.2.2.2.2.1, x13.2.2.2.2.2.2.2.2.2.2) else Option.bind (α := Int32 × T0 × T0) (f_L_areAlike (x3.2.1, x3.2.2.1, (x13.2.2.1, x13.2.2.2.1, x13.2.1), x13.2.2.2.2.1, x13.2.2.2.2.2.1) (x3.2.2.2.2.2.2.1, x3.2.2.2.2.2.2.2.1, (x13.2.2.2.2.2.2.2.1, x13.2.2.2.2.2.2.2.2.1, x13.2.2.2.2.2.2.1), x13.2.2.2.2.2.2.2.2.2.1, x13.2.2.2.2.2.2.2.2.2.2)) (fun x16 => (if x16.1 = 0 then some (0, x16.2.1, x16.2.2) else Option.bind (α := Int32 × T0) (f_L_isSound (x3.2.1, x3.2.2.1, (x13.2.2.1, x13.2.2.2.1, x13.2.1), x13.2.2.2.2.1, x16.2.1)) (fun x18 => (if x18.1 = 0 then some (0, x18.2, x16.2.2) else some (1, x18.2, x16.2.2))))))) (fun j14 => (some (.inl (j14.1, (v8.2.1 + 1), x13.2.1, x13.2.2.1, x13.2.2.2.1, x13.2.2.2.2.1, j14.2.1, x13.2.2.2.2.2.2.1, x13.2.2.2.2.2.2.2.1, x13.2.2.2.2.2.2.2.2.1, x13.2.2.2.2.2.2.2.2.2.1, j14.2.2))))))))) 5000 (j4.1, 0, x3.2.2.2.1, x3.2.2.2.2.1, w1.2.2.1.2.1, x3.2.2.2.2.2.1, j4.2.1, x3.2.2.2.2.2.2.2.2.1, x3.2.2.2.2.2.2.2.2.2.1, w2.2.2.1.2.1, x3.2.2.2.2.2.2.2.2.2.2, j4.2.2)) (fun x9 => Option.bind (α := Int64 × T0) (f_X8_digest (x3.2.1, x3.2.2.1, (x9.2.2.1, x9.2.2.2.1, x9.2.1), x9.2.2.2.2.1, x9.2.2.2.2.2.1)) (fun x20 => Option.bind (α := Int32 × T5s × T6 × T7 × T3 × T0) ((if x9.1 = 0 then some (0, x9.2.1, x9.2.2.1, x9.2.2.2.1, x9.2.2.2.2.1, x20.2) else Option.bind (α := Int32 × T5s × T3 × T0) (f_X8_mode (x3.2.1, x3.2.2.1, (x9.2.2.1, x9.2.2.2.1, x9.2.1), x9.2.2.2.2.1, x20.2) 1) (fun x23 => Option.bind (α := Int32 × T0) (jr (f_X8_setting (x3.2.1, x3.2.2.1, (x9.2.2.1, x9.2.2.2.1, x23.2.1), x23.2.2.1, x23.2.2.2) 6)) (fun x24 => (if x23.1 = x24.1 then Option.bind (α := Int32 × T5s × T6 × T7 × T3) (jr (f_X8_undo (x3.2.1, x3.2.2.1, (x9.2.2.1, x9.2.2.2.1, x23.2.1), x23.2.2.1, x24.2))) (fun x26 => (if x26.1 < 0 then some (0, x26.2.1, x26.2.2.1, x26.2.2.2.1, x26.2.2.2.2, x24.2) else some (1, x26.2.1, x26.2.2.1, x26.2.2.2.1, x26.2.2.2.2, x24.2))) else some (0, x23.2.1, x9.2.2.1, x9.2.2.2.1, x23.2.2.1, x24.2)))))) (fun j21 => (if j21.1 = 0 then (some 0) else Option.bind (α := Int64 × T0) (f_X8_digest (x3.2.1, x3.2.2.1, (j21.2.2.1, j21.2.2.2.1, j21.2.1), j21.2.2.2.2.1, j21.2.2.2.2.2)) (fun x29 => (if x29.1 = x20.1 then Option.bind (α := Int32 × T0 × T0) (f_L_areAlike (x3.2.1, x3.2.2.1, (j21.2.2.1, j21.2.2.2.1, j21.2.1), j21.2.2.2.2.1, x29.2) (x3.2.2.2.2.2.2.1, x3.2.2.2.2.2.2.2.1, (x9.2.2.2.2.2.2.2.1, x9.2.2.2.2.2.2.2.2.1, x9.2.2.2.2.2.2.1), x9.2.2.2.2.2.2.2.2.2.1, x9.2.2.2.2.2.2.2.2.2.2)) (fun x31 => (if x31.1 = 0 then (some 0) else (some 1))) else Option.bind (α := Int64 × T0) (f_X8_digest (x3.2.1, x3.2.2.1, (j21.2.2.1, j21.2.2.2.1, j21.2.1), j21.2.2.2.2.1, x29.2)) (fun x33 => (if x33.1 = (x20.1 - 1) then Option.bind (α := Int32 × T0 × T0) (f_L_areAlike (x3.2.1, x3.2.2.1, (j21.2.2.1, j21.2.2.2.1, j21.2.1), j21.2.2.2.2.1, x33.2) (x3.2.2.2.2.2.2.1, x3.2.2.2.2.2.2.2.1, (x9.2.2.2.2.2.2.2.1, x9.2.2.2.2.2.2.2.2.1, x9.2.2.2.2.2.2.1), x9.2.2.2.2.2.2.2.2.2.1, x9.2.2.2.2.2.2.2.2.2.2)) (fun x35 => (if x35.1 = 0 then (some 0) else (some 1))) else (some 0)))))))))))))
theorem hmL_areAlike : yL_areAlike.cls = RL ∧ yL_areAlike.cls ≠ "java/lang/invoke/MethodHandle" ∧ yL_areAlike.cls ≠ "java/lang/invoke/VarHandle" ∧ (parseMethodDescriptor yL_areAlike.desc).map (fun d => d.parameters.length) = some 2 := by decide +kernel
theorem hmL_isSound : yL_isSound.cls = RL ∧ yL_isSound.cls ≠ "java/lang/invoke/MethodHandle" ∧ yL_isSound.cls ≠ "java/lang/invoke/VarHandle" ∧ (parseMethodDescriptor yL_isSound.desc).map (fun d => d.parameters.length) = some 1 := by decide +kernel
theorem hmL_isStep : yL_isStep.cls = RL ∧ yL_isStep.cls ≠ "java/lang/invoke/MethodHandle" ∧ yL_isStep.cls ≠ "java/lang/invoke/VarHandle" ∧ (parseMethodDescriptor yL_isStep.desc).map (fun d => d.parameters.length) = some 3 := by decide +kernel
theorem hmL_loads : yL_loads.cls = RL ∧ yL_loads.cls ≠ "java/lang/invoke/MethodHandle" ∧ yL_loads.cls ≠ "java/lang/invoke/VarHandle" ∧ (parseMethodDescriptor yL_loads.desc).map (fun d => d.parameters.length) = some 4 := by decide +kernel
theorem hmX8_digest : yX8_digest.cls = RX8 ∧ yX8_digest.cls ≠ "java/lang/invoke/MethodHandle" ∧ yX8_digest.cls ≠ "java/lang/invoke/VarHandle" ∧ (parseMethodDescriptor yX8_digest.desc).map (fun d => d.parameters.length) = some 0 := by decide +kernel
theorem hmX8_undo : yX8_undo.cls = RX8 ∧ yX8_undo.cls ≠ "java/lang/invoke/MethodHandle" ∧ yX8_undo.cls ≠ "java/lang/invoke/VarHandle" ∧ (parseMethodDescriptor yX8_undo.desc).map (fun d => d.parameters.length) = some 0 := by decide +kernel
theorem kL_99 {R : Room} {s : State} {args : Array Value} (ht : ∀ w ∈ gx_G, w.before args s = true) (hR : rL_loads.frames + 1 ≤ R.frames ∧ 8 + (6 + 11) + rL_loads.locals ≤ R.locals) : CallB R s args RL 99 yL_loads cL_loads 6 (some .boolean) (gws yL_loads cL_loads 6 (some .boolean)) rL_loads 0 0 4 ∧ (Cond.static yL_loads).before args s = true := va_cwS 4 ht (gx_gS gw_476 gw_477 gw_0 gw_478) rfl rfl rfl hmL_loads.2 hR
theorem kL_103 {R : Room} {s : State} {args : Array Value} (ht : ∀ w ∈ gx_G, w.before args s = true) (hR : rL_areAlike.frames + 1 ≤ R.frames ∧ 8 + (6 + 11) + rL_areAlike.locals ≤ R.locals) : CallB R s args RL 103 yL_areAlike cL_areAlike 6 (some .boolean) (gws yL_areAlike cL_areAlike 6 (some .boolean)) rL_areAlike 0 0 2 ∧ (Cond.static yL_areAlike).before args s = true := va_cwS 2 ht (gx_gS gw_679 gw_680 gw_0 gw_681) rfl rfl rfl hmL_areAlike.2 hR
theorem kL_107 {R : Room} {s : State} {args : Array Value} (ht : ∀ w ∈ gx_G, w.before args s = true) (hR : rL_isStep.frames + 1 ≤ R.frames ∧ 8 + (5 + 11) + rL_isStep.locals ≤ R.locals) : CallB R s args RL 107 yL_isStep cL_isStep 5 (some .boolean) (gws yL_isStep cL_isStep 5 (some .boolean)) rL_isStep 0 0 3 ∧ (Cond.static yL_isStep).before args s = true := va_cwS 3 ht (gx_gS gw_557 gw_558 gw_0 gw_559) rfl rfl rfl hmL_isStep.2 hR
theorem kL_111 {R : Room} {s : State} {args : Array Value} (ht : ∀ w ∈ gx_G, w.before args s = true) (hR : rL_isSound.frames + 1 ≤ R.frames ∧ 8 + (6 + 11) + rL_isSound.locals ≤ R.locals) : CallB R s args RL 111 yL_isSound cL_isSound 6 (some .boolean) (gws yL_isSound cL_isSound 6 (some .boolean)) rL_isSound 0 0 1 ∧ (Cond.static yL_isSound).before args s = true := va_cwS 1 ht (gx_gS gw_758 gw_759 gw_0 gw_760) rfl rfl rfl hmL_isSound.2 hR
theorem kL_115 {R : Room} {s : State} {args : Array Value} (ht : ∀ w ∈ gx_G, w.before args s = true) (hR : rX8_digest.frames + 1 ≤ R.frames ∧ 8 + (7 + 11) + rX8_digest.locals ≤ R.locals) : CallW R s args RL RX8 115 yX8_digest cX8_digest 7 (some .long) (gws yX8_digest cX8_digest 7 (some .long)) rX8_digest 0 0 0 := cwV 0 ht (gx_gV gw_403 gw_404 gw_405 gw_1 gw_406) rfl rfl rfl hmX8_digest hR
theorem kL_119 {R : Room} {s : State} {args : Array Value} (ht : ∀ w ∈ gx_G, w.before args s = true) (hR : rX8_undo.frames + 1 ≤ R.frames ∧ 8 + (1 + 11) + rX8_undo.locals ≤ R.locals) : CallW R s args RL RX8 119 yX8_undo cX8_undo 1 (some .int) (gws yX8_undo cX8_undo 1 (some .int)) rX8_undo 0 0 0 := cwV 0 ht (gx_gV gw_379 gw_380 gw_381 gw_1 gw_382) rfl rfl rfl hmX8_undo hR
section LAWM
variable {p : Program} {l : Launch} {e : Env} {s : State} {m : MethodId} {below : List Frame} {meth : Method} {c : Code} {b : Nat}
theorem law_end {E : gEnv} {H : Heap} {locs : List Loc} {cells slots pc : Nat} {ls : Array Slot} {S : List va_W} {v : Int32} (F : gF p m c cL_law 7 s #[Value.ref b] RL) (hr : meth.sig.returnType = ret) (hlk : meth.locks = false) (hG : gS E (Alw s) s.heap S H locs) (ho : v = 1) (hdg : decode cL_law pc = .ok (.ireturn, 1)) (h1 : cells ≤ 600172) (h2 : slots ≤ 7300668) : W p l e room_1 s m #[Value.ref b] below meth c H locs cells slots (lw_Z below #[Value.ref b] s) (F0 m pc ls [.int v]) := by
  subst ho
  refine va_forget (fun q hq => hG.2.2.2.2 q hq) ?_
  refine W.widen (k := 600172) (n := 7300668) h1 h2 ?_
  exact lw_ret (d0 := s.drawn) (Drawn.sameBut.refl s.drawn lw_cs) F.1 F.2.1 hr hlk hdg
set_option maxHeartbeats 4000000 in
set_option maxRecDepth 100000 in
theorem law_rest (F : gF p m c cL_law 7 s #[Value.ref b] RL) (hr : meth.sig.returnType = ret) (hlk : meth.locks = false) {E : gEnv} (hK : gK E s) (hX : gX E s s.heap) (hAB : ∀ q, Alw s q → gB E q) {h1 h2 : Nat → Nat} (w1 w2 : T8) (hf : f_L_law w1 w2 E.2.2.1.2.2 = some 1) : ∀ (H : Heap) (locs : List Loc), gS E (Alw s) s.heap [C8 E h1 0, C2 E h1 (0+1) w1.1, C6 E h1 (0+3) w1.2.1, C5 E h1 (0+9) w1.2.2.1.2.2, C6 E h1 ((0+9)+1) w1.2.2.1.1, C7 E h1 ((0+9)+7) w1.2.2.1.2.1, C3 E h1 (0+18) w1.2.2.2.1, C0 E h1 (0+20) w1.2.2.2.2, C8 E h2 0, C2 E h2 (0+1) w2.1, C6 E h2 (0+3) w2.2.1, C5 E h2 (0+9) w2.2.2.1.2.2, C6 E h2 ((0+9)+1) w2.2.2.1.1, C7 E h2 ((0+9)+7) w2.2.2.1.2.1, C3 E h2 (0+18) w2.2.2.2.1, C0 E h2 (0+20) w2.2.2.2.2] H locs → ∀ ls : Array Slot, lv_has ls 7 [(0, .ref E.2.2.1.2.1), (1, .ref (h1 0)), (2, .ref (h2 0))] → W p l e room_1 s m #[Value.ref b] below meth c H locs 116 3924 (lw_Z below #[Value.ref b] s) (F0 m 16 ls []) := by
  intro H locs hG ls hl
  have hx := F.1
  have hb := F.2.1
  unfold f_L_law at hf
  refine lv_iconst (v := 1) hx hb dL_law_16 (by decide) ?_
  refine lv_aload_n hx hb dL_law_17 rfl (lv_at hl 0 rfl) ?_
  refine lv_iconst (v := 0) hx hb dL_law_18 (by decide) ?_
  obtain ⟨x1, hx1, hf⟩ := g_bnd hf
  refine g_rs (As := [.ref E.2.2.1.2.1, .int 0]) (rest := [.int 1]) F hK (hG.X hX hAB) hG.1 [] rfl (c_L_cell  0 hx1) (kL_21 F.2.2.2.2 ⟨Nat.le_of_ble_eq_true rfl, Nat.le_of_ble_eq_true rfl⟩) rfl hl.1 rfl (lv_room (Nat.le_of_ble_eq_true rfl)) ⟨Nat.le_of_ble_eq_true rfl, Nat.le_of_ble_eq_true rfl⟩ dL_law_19 ?_
  refine lv_bipush (v := 20) hx hb dL_law_22 (by decide) ?_
  obtain ⟨x2, hx2, hf⟩ := g_bnd hf
  refine g_rs (As := [.int x1, .int 20]) (rest := [.int 1]) F hK (hG.X hX hAB) hG.1 [] rfl (c_L_up  x1 20 hx2) (kL_29 F.2.2.2.2 ⟨Nat.le_of_ble_eq_true rfl, Nat.le_of_ble_eq_true rfl⟩) rfl hl.1 rfl (lv_room (Nat.le_of_ble_eq_true rfl)) ⟨Nat.le_of_ble_eq_true rfl, Nat.le_of_ble_eq_true rfl⟩ dL_law_24 ?_
  refine lv_iadd hx hb dL_law_27 ?_
  refine lv_istore_n (lv' := [(3, .int (1 + x2)), (0, .ref E.2.2.1.2.1), (1, .ref (h1 0)), (2, .ref (h2 0))]) hx hb dL_law_28 rfl hl (by decide) rfl (fun ls hl => ?_)
  refine lv_aload_n hx hb dL_law_29 rfl (lv_at hl 2 rfl) ?_
  refine lv_aload_n hx hb dL_law_30 rfl (lv_at hl 3 rfl) ?_
  refine lv_aload_n hx hb dL_law_31 rfl (lv_at hl 1 rfl) ?_
  refine lv_iload_n hx hb dL_law_32 rfl (lv_at hl 0 rfl) ?_
  obtain ⟨x3, hx3, hf⟩ := g_bnd hf
  refine g_ms (S' := [C8 E h1 0, C2 E h1 (0+1) x3.2.1, C6 E h1 (0+3) x3.2.2.1, C5 E h1 (0+9) x3.2.2.2.1, C6 E h1 ((0+9)+1) x3.2.2.2.2.1, C7 E h1 ((0+9)+7) w1.2.2.1.2.1, C3 E h1 (0+18) x3.2.2.2.2.2.1, C0 E h1 (0+20) w1.2.2.2.2, C8 E h2 0, C2 E h2 (0+1) x3.2.2.2.2.2.2.1, C6 E h2 (0+3) x3.2.2.2.2.2.2.2.1, C5 E h2 (0+9) x3.2.2.2.2.2.2.2.2.1, C6 E h2 ((0+9)+1) x3.2.2.2.2.2.2.2.2.2.1, C7 E h2 ((0+9)+7) w2.2.2.1.2.1, C3 E h2 (0+18) x3.2.2.2.2.2.2.2.2.2.2, C0 E h2 (0+20) w2.2.2.2.2]) (As := [.ref (h1 0), .ref (h2 0), .ref E.2.2.1.2.1, .int (1 + x2)]) (rest := []) F hK hX hAB hG [0, 1, 2, 3, 4, 5, 6, 7, 8, 9, 10, 11, 12, 13, 14, 15] rfl rfl (c_L_loads h1 h2 0 w1 0 w2 (1 + x2) hx3) rfl (kL_99 F.2.2.2.2 ⟨Nat.le_of_ble_eq_true rfl, Nat.le_of_ble_eq_true rfl⟩) rfl hl.1 rfl (lv_room (Nat.le_of_ble_eq_true rfl)) ⟨Nat.le_of_ble_eq_true rfl, Nat.le_of_ble_eq_true rfl⟩ dL_law_33 (fun H locs hG => ?_)
  obtain ⟨j4, hf, hfj4⟩ := g_bnd hf
  have hJj4 : ∀ (H : Heap) (locs : List Loc), gS E (Alw s) s.heap [C8 E h1 0, C2 E h1 (0+1) x3.2.1, C6 E h1 (0+3) x3.2.2.1, C5 E h1 (0+9) x3.2.2.2.1, C6 E h1 ((0+9)+1) x3.2.2.2.2.1, C7 E h1 ((0+9)+7) w1.2.2.1.2.1, C3 E h1 (0+18) x3.2.2.2.2.2.1, C0 E h1 (0+20) j4.2.1, C8 E h2 0, C2 E h2 (0+1) x3.2.2.2.2.2.2.1, C6 E h2 (0+3) x3.2.2.2.2.2.2.2.1, C5 E h2 (0+9) x3.2.2.2.2.2.2.2.2.1, C6 E h2 ((0+9)+1) x3.2.2.2.2.2.2.2.2.2.1, C7 E h2 ((0+9)+7) w2.2.2.1.2.1, C3 E h2 (0+18) x3.2.2.2.2.2.2.2.2.2.2, C0 E h2 (0+20) j4.2.2] H locs → ∀ ls : Array Slot, lv_has ls 7 [(0, .ref E.2.2.1.2.1), (1, .ref (h1 0)), (2, .ref (h2 0))] → W p l e room_1 s m #[Value.ref b] below meth c H locs 116 3924 (lw_Z below #[Value.ref b] s) (F0 m 52 ls [.int j4.1]) := by
    intro H locs hG ls hl
    have hf := hfj4
    refine lv_istore (lv' := [(4, .int j4.1), (0, .ref E.2.2.1.2.1), (1, .ref (h1 0)), (2, .ref (h2 0))]) hx hb dL_law_52 hl (by decide) rfl (fun ls hl => ?_)
    refine lv_iconst (v := 0) hx hb dL_law_54 (by decide) ?_
    refine lv_istore (lv' := [(5, .int 0), (4, .int j4.1), (0, .ref E.2.2.1.2.1), (1, .ref (h1 0)), (2, .ref (h2 0))]) hx hb dL_law_55 hl (by decide) rfl (fun ls hl => ?_)
    obtain ⟨x9, hx9, hfx9⟩ := g_bnd hf
    have hEx9 : ∀ (H : Heap) (locs : List Loc), gS E (Alw s) s.heap [C8 E h1 0, C2 E h1 (0+1) x3.2.1, C6 E h1 (0+3) x3.2.2.1, C5 E h1 (0+9) x9.2.1, C6 E h1 ((0+9)+1) x9.2.2.1, C7 E h1 ((0+9)+7) x9.2.2.2.1, C3 E h1 (0+18) x9.2.2.2.2.1, C0 E h1 (0+20) x9.2.2.2.2.2.1, C8 E h2 0, C2 E h2 (0+1) x3.2.2.2.2.2.2.1, C6 E h2 (0+3) x3.2.2.2.2.2.2.2.1, C5 E h2 (0+9) x9.2.2.2.2.2.2.1, C6 E h2 ((0+9)+1) x9.2.2.2.2.2.2.2.1, C7 E h2 ((0+9)+7) x9.2.2.2.2.2.2.2.2.1, C3 E h2 (0+18) x9.2.2.2.2.2.2.2.2.2.1, C0 E h2 (0+20) x9.2.2.2.2.2.2.2.2.2.2] H locs → ∀ ls : Array Slot, lv_has ls 7 [(1, .ref (h1 0)), (2, .ref (h2 0)), (4, .int x9.1)] → W p l e room_1 s m #[Value.ref b] below meth c H locs 116 3924 (lw_Z below #[Value.ref b] s) (F0 m 114 ls []) := by
      intro H locs hG ls hl
      have hf := hfx9
      refine lv_aload_n hx hb dL_law_114 rfl (lv_at hl 0 rfl) ?_
      obtain ⟨x20, hx20, hf⟩ := g_bnd hf
      refine g_mv (S' := [C8 E h1 0, C2 E h1 (0+1) x3.2.1, C6 E h1 (0+3) x3.2.2.1, C5 E h1 (0+9) x9.2.1, C6 E h1 ((0+9)+1) x9.2.2.1, C7 E h1 ((0+9)+7) x9.2.2.2.1, C3 E h1 (0+18) x9.2.2.2.2.1, C0 E h1 (0+20) x20.2, C8 E h2 0, C2 E h2 (0+1) x3.2.2.2.2.2.2.1, C6 E h2 (0+3) x3.2.2.2.2.2.2.2.1, C5 E h2 (0+9) x9.2.2.2.2.2.2.1, C6 E h2 ((0+9)+1) x9.2.2.2.2.2.2.2.1, C7 E h2 ((0+9)+7) x9.2.2.2.2.2.2.2.2.1, C3 E h2 (0+18) x9.2.2.2.2.2.2.2.2.2.1, C0 E h2 (0+20) x9.2.2.2.2.2.2.2.2.2.2]) (As := []) (rest := []) F hK hX hAB hG [0, 1, 2, 3, 4, 5, 6, 7] rfl rfl (c_X8_digest h1 0 (x3.2.1, x3.2.2.1, (x9.2.2.1, x9.2.2.2.1, x9.2.1), x9.2.2.2.2.1, x9.2.2.2.2.2.1) hx20) rfl (kL_115 F.2.2.2.2 ⟨Nat.le_of_ble_eq_true rfl, Nat.le_of_ble_eq_true rfl⟩) rfl rfl rfl rfl hl.1 rfl (lv_room (Nat.le_of_ble_eq_true rfl)) ⟨Nat.le_of_ble_eq_true rfl, Nat.le_of_ble_eq_true rfl⟩ dL_law_115 (fun H locs hG => ?_)
      refine lv_lstore (lv' := [(5, .long x20.1), (1, .ref (h1 0)), (2, .ref (h2 0)), (4, .int x9.1)]) hx hb dL_law_118 hl (by decide) rfl (fun ls hl => ?_)
      refine lv_iload hx hb dL_law_120 (lv_at hl 3 rfl) ?_
      obtain ⟨j21, hf, hfj21⟩ := g_bnd hf
      have hJj21 : ∀ (H : Heap) (locs : List Loc), gS E (Alw s) s.heap [C8 E h1 0, C2 E h1 (0+1) x3.2.1, C6 E h1 (0+3) x3.2.2.1, C5 E h1 (0+9) j21.2.1, C6 E h1 ((0+9)+1) j21.2.2.1, C7 E h1 ((0+9)+7) j21.2.2.2.1, C3 E h1 (0+18) j21.2.2.2.2.1, C0 E h1 (0+20) j21.2.2.2.2.2, C8 E h2 0, C2 E h2 (0+1) x3.2.2.2.2.2.2.1, C6 E h2 (0+3) x3.2.2.2.2.2.2.2.1, C5 E h2 (0+9) x9.2.2.2.2.2.2.1, C6 E h2 ((0+9)+1) x9.2.2.2.2.2.2.2.1, C7 E h2 ((0+9)+7) x9.2.2.2.2.2.2.2.2.1, C3 E h2 (0+18) x9.2.2.2.2.2.2.2.2.2.1, C0 E h2 (0+20) x9.2.2.2.2.2.2.2.2.2.2] H locs → ∀ ls : Array Slot, lv_has ls 7 [(1, .ref (h1 0)), (2, .ref (h2 0)), (5, .long x20.1)] → W p l e room_1 s m #[Value.ref b] below meth c H locs 116 3924 (lw_Z below #[Value.ref b] s) (F0 m 151 ls [.int j21.1]) := by
        intro H locs hG ls hl
        have hf := hfj21
        refine lv_istore (lv' := [(4, .int j21.1), (1, .ref (h1 0)), (2, .ref (h2 0)), (5, .long x20.1)]) hx hb dL_law_151 hl (by decide) rfl (fun ls hl => ?_)
        refine lv_iload hx hb dL_law_153 (lv_at hl 0 rfl) ?_
        refine lv_if_eq (tgt := 192) hx hb dL_law_155 (by decide) (fun c28 => ?_) (fun c28 => ?_)
        · have hf := g_it c28 hf
          refine lv_iconst (v := 0) hx hb dL_law_192 (by decide) ?_
          have ho := Option.some.inj hf
          exact law_end F hr hlk hG ho dL_law_193 (Nat.le_of_ble_eq_true rfl) (Nat.le_of_ble_eq_true rfl)
        · have hf := g_if c28 hf
          refine lv_aload_n hx hb dL_law_158 rfl (lv_at hl 1 rfl) ?_
          obtain ⟨x29, hx29, hf⟩ := g_bnd hf
          refine g_mv (S' := [C8 E h1 0, C2 E h1 (0+1) x3.2.1, C6 E h1 (0+3) x3.2.2.1, C5 E h1 (0+9) j21.2.1, C6 E h1 ((0+9)+1) j21.2.2.1, C7 E h1 ((0+9)+7) j21.2.2.2.1, C3 E h1 (0+18) j21.2.2.2.2.1, C0 E h1 (0+20) x29.2, C8 E h2 0, C2 E h2 (0+1) x3.2.2.2.2.2.2.1, C6 E h2 (0+3) x3.2.2.2.2.2.2.2.1, C5 E h2 (0+9) x9.2.2.2.2.2.2.1, C6 E h2 ((0+9)+1) x9.2.2.2.2.2.2.2.1, C7 E h2 ((0+9)+7) x9.2.2.2.2.2.2.2.2.1, C3 E h2 (0+18) x9.2.2.2.2.2.2.2.2.2.1, C0 E h2 (0+20) x9.2.2.2.2.2.2.2.2.2.2]) (As := []) (rest := []) F hK hX hAB hG [0, 1, 2, 3, 4, 5, 6, 7] rfl rfl (c_X8_digest h1 0 (x3.2.1, x3.2.2.1, (j21.2.2.1, j21.2.2.2.1, j21.2.1), j21.2.2.2.2.1, j21.2.2.2.2.2) hx29) rfl (kL_115 F.2.2.2.2 ⟨Nat.le_of_ble_eq_true rfl, Nat.le_of_ble_eq_true rfl⟩) rfl rfl rfl rfl hl.1 rfl (lv_room (Nat.le_of_ble_eq_true rfl)) ⟨Nat.le_of_ble_eq_true rfl, Nat.le_of_ble_eq_true rfl⟩ dL_law_159 (fun H locs hG => ?_)
          refine lv_lload hx hb dL_law_162 (lv_at hl 3 rfl) ?_
          refine g_lc_eq (tgt := 180) hx hb dL_law_164 dL_law_165 (by decide) (fun c30 => ?_) (fun c30 => ?_)
          · have hf := g_it c30 hf
            refine lv_aload_n hx hb dL_law_180 rfl (lv_at hl 1 rfl) ?_
            refine lv_aload_n hx hb dL_law_181 rfl (lv_at hl 2 rfl) ?_
            obtain ⟨x31, hx31, hf⟩ := g_bnd hf
            refine g_ms (S' := [C8 E h1 0, C2 E h1 (0+1) x3.2.1, C6 E h1 (0+3) x3.2.2.1, C5 E h1 (0+9) j21.2.1, C6 E h1 ((0+9)+1) j21.2.2.1, C7 E h1 ((0+9)+7) j21.2.2.2.1, C3 E h1 (0+18) j21.2.2.2.2.1, C0 E h1 (0+20) x31.2.1, C8 E h2 0, C2 E h2 (0+1) x3.2.2.2.2.2.2.1, C6 E h2 (0+3) x3.2.2.2.2.2.2.2.1, C5 E h2 (0+9) x9.2.2.2.2.2.2.1, C6 E h2 ((0+9)+1) x9.2.2.2.2.2.2.2.1, C7 E h2 ((0+9)+7) x9.2.2.2.2.2.2.2.2.1, C3 E h2 (0+18) x9.2.2.2.2.2.2.2.2.2.1, C0 E h2 (0+20) x31.2.2]) (As := [.ref (h1 0), .ref (h2 0)]) (rest := []) F hK hX hAB hG [0, 1, 2, 3, 4, 5, 6, 7, 8, 9, 10, 11, 12, 13, 14, 15] rfl rfl (c_L_areAlike h1 h2 0 (x3.2.1, x3.2.2.1, (j21.2.2.1, j21.2.2.2.1, j21.2.1), j21.2.2.2.2.1, x29.2) 0 (x3.2.2.2.2.2.2.1, x3.2.2.2.2.2.2.2.1, (x9.2.2.2.2.2.2.2.1, x9.2.2.2.2.2.2.2.2.1, x9.2.2.2.2.2.2.1), x9.2.2.2.2.2.2.2.2.2.1, x9.2.2.2.2.2.2.2.2.2.2) hx31) rfl (kL_103 F.2.2.2.2 ⟨Nat.le_of_ble_eq_true rfl, Nat.le_of_ble_eq_true rfl⟩) rfl hl.1 rfl (lv_room (Nat.le_of_ble_eq_true rfl)) ⟨Nat.le_of_ble_eq_true rfl, Nat.le_of_ble_eq_true rfl⟩ dL_law_182 (fun H locs hG => ?_)
            refine lv_if_eq (tgt := 192) hx hb dL_law_185 (by decide) (fun c32 => ?_) (fun c32 => ?_)
            · have hf := g_it c32 hf
              refine lv_iconst (v := 0) hx hb dL_law_192 (by decide) ?_
              have ho := Option.some.inj hf
              exact law_end F hr hlk hG ho dL_law_193 (Nat.le_of_ble_eq_true rfl) (Nat.le_of_ble_eq_true rfl)
            · have hf := g_if c32 hf
              refine lv_iconst (v := 1) hx hb dL_law_188 (by decide) ?_
              refine lv_goto (tgt := 193) hx hb dL_law_189 (by decide) ?_
              have ho := Option.some.inj hf
              exact law_end F hr hlk hG ho dL_law_193 (Nat.le_of_ble_eq_true rfl) (Nat.le_of_ble_eq_true rfl)
          · have hf := g_if c30 hf
            refine lv_aload_n hx hb dL_law_168 rfl (lv_at hl 1 rfl) ?_
            obtain ⟨x33, hx33, hf⟩ := g_bnd hf
            refine g_mv (S' := [C8 E h1 0, C2 E h1 (0+1) x3.2.1, C6 E h1 (0+3) x3.2.2.1, C5 E h1 (0+9) j21.2.1, C6 E h1 ((0+9)+1) j21.2.2.1, C7 E h1 ((0+9)+7) j21.2.2.2.1, C3 E h1 (0+18) j21.2.2.2.2.1, C0 E h1 (0+20) x33.2, C8 E h2 0, C2 E h2 (0+1) x3.2.2.2.2.2.2.1, C6 E h2 (0+3) x3.2.2.2.2.2.2.2.1, C5 E h2 (0+9) x9.2.2.2.2.2.2.1, C6 E h2 ((0+9)+1) x9.2.2.2.2.2.2.2.1, C7 E h2 ((0+9)+7) x9.2.2.2.2.2.2.2.2.1, C3 E h2 (0+18) x9.2.2.2.2.2.2.2.2.2.1, C0 E h2 (0+20) x9.2.2.2.2.2.2.2.2.2.2]) (As := []) (rest := []) F hK hX hAB hG [0, 1, 2, 3, 4, 5, 6, 7] rfl rfl (c_X8_digest h1 0 (x3.2.1, x3.2.2.1, (j21.2.2.1, j21.2.2.2.1, j21.2.1), j21.2.2.2.2.1, x29.2) hx33) rfl (kL_115 F.2.2.2.2 ⟨Nat.le_of_ble_eq_true rfl, Nat.le_of_ble_eq_true rfl⟩) rfl rfl rfl rfl hl.1 rfl (lv_room (Nat.le_of_ble_eq_true rfl)) ⟨Nat.le_of_ble_eq_true rfl, Nat.le_of_ble_eq_true rfl⟩ dL_law_169 (fun H locs hG => ?_)
            refine lv_lload hx hb dL_law_172 (lv_at hl 3 rfl) ?_
            refine lv_lconst (v := 1) hx hb dL_law_174 rfl ?_
            refine lv_lsub hx hb dL_law_175 ?_
            refine g_lc_ne (tgt := 192) hx hb dL_law_176 dL_law_177 (by decide) (fun c34 => ?_) (fun c34 => ?_)
            · have hf := g_if c34 hf
              refine lv_iconst (v := 0) hx hb dL_law_192 (by decide) ?_
              have ho := Option.some.inj hf
              exact law_end F hr hlk hG ho dL_law_193 (Nat.le_of_ble_eq_true rfl) (Nat.le_of_ble_eq_true rfl)
            · have hf := g_it c34 hf
              refine lv_aload_n hx hb dL_law_180 rfl (lv_at hl 1 rfl) ?_
              refine lv_aload_n hx hb dL_law_181 rfl (lv_at hl 2 rfl) ?_
              obtain ⟨x35, hx35, hf⟩ := g_bnd hf
              refine g_ms (S' := [C8 E h1 0, C2 E h1 (0+1) x3.2.1, C6 E h1 (0+3) x3.2.2.1, C5 E h1 (0+9) j21.2.1, C6 E h1 ((0+9)+1) j21.2.2.1, C7 E h1 ((0+9)+7) j21.2.2.2.1, C3 E h1 (0+18) j21.2.2.2.2.1, C0 E h1 (0+20) x35.2.1, C8 E h2 0, C2 E h2 (0+1) x3.2.2.2.2.2.2.1, C6 E h2 (0+3) x3.2.2.2.2.2.2.2.1, C5 E h2 (0+9) x9.2.2.2.2.2.2.1, C6 E h2 ((0+9)+1) x9.2.2.2.2.2.2.2.1, C7 E h2 ((0+9)+7) x9.2.2.2.2.2.2.2.2.1, C3 E h2 (0+18) x9.2.2.2.2.2.2.2.2.2.1, C0 E h2 (0+20) x35.2.2]) (As := [.ref (h1 0), .ref (h2 0)]) (rest := []) F hK hX hAB hG [0, 1, 2, 3, 4, 5, 6, 7, 8, 9, 10, 11, 12, 13, 14, 15] rfl rfl (c_L_areAlike h1 h2 0 (x3.2.1, x3.2.2.1, (j21.2.2.1, j21.2.2.2.1, j21.2.1), j21.2.2.2.2.1, x33.2) 0 (x3.2.2.2.2.2.2.1, x3.2.2.2.2.2.2.2.1, (x9.2.2.2.2.2.2.2.1, x9.2.2.2.2.2.2.2.2.1, x9.2.2.2.2.2.2.1), x9.2.2.2.2.2.2.2.2.2.1, x9.2.2.2.2.2.2.2.2.2.2) hx35) rfl (kL_103 F.2.2.2.2 ⟨Nat.le_of_ble_eq_true rfl, Nat.le_of_ble_eq_true rfl⟩) rfl hl.1 rfl (lv_room (Nat.le_of_ble_eq_true rfl)) ⟨Nat.le_of_ble_eq_true rfl, Nat.le_of_ble_eq_true rfl⟩ dL_law_182 (fun H locs hG => ?_)
              refine lv_if_eq (tgt := 192) hx hb dL_law_185 (by decide) (fun c36 => ?_) (fun c36 => ?_)
              · have hf := g_it c36 hf
                refine lv_iconst (v := 0) hx hb dL_law_192 (by decide) ?_
                have ho := Option.some.inj hf
                exact law_end F hr hlk hG ho dL_law_193 (Nat.le_of_ble_eq_true rfl) (Nat.le_of_ble_eq_true rfl)
              · have hf := g_if c36 hf
                refine lv_iconst (v := 1) hx hb dL_law_188 (by decide) ?_
                refine lv_goto (tgt := 193) hx hb dL_law_189 (by decide) ?_
                have ho := Option.some.inj hf
                exact law_end F hr hlk hG ho dL_law_193 (Nat.le_of_ble_eq_true rfl) (Nat.le_of_ble_eq_true rfl)
      refine lv_if_eq (tgt := 150) hx hb dL_law_122 (by decide) (fun c22 => ?_) (fun c22 => ?_)
      · have hf := g_it c22 hf
        refine lv_iconst (v := 0) hx hb dL_law_150 (by decide) ?_
        obtain rfl := Option.some.inj hf
        exact hJj21 _ _ hG ls (lv_sub hl [1, 2, 0] rfl)
      · have hf := g_if c22 hf
        refine lv_aload_n hx hb dL_law_125 rfl (lv_at hl 1 rfl) ?_
        refine lv_iconst (v := 1) hx hb dL_law_126 (by decide) ?_
        obtain ⟨x23, hx23, hf⟩ := g_bnd hf
        refine g_mv (S' := [C8 E h1 0, C2 E h1 (0+1) x3.2.1, C6 E h1 (0+3) x3.2.2.1, C5 E h1 (0+9) x23.2.1, C6 E h1 ((0+9)+1) x9.2.2.1, C7 E h1 ((0+9)+7) x9.2.2.2.1, C3 E h1 (0+18) x23.2.2.1, C0 E h1 (0+20) x23.2.2.2, C8 E h2 0, C2 E h2 (0+1) x3.2.2.2.2.2.2.1, C6 E h2 (0+3) x3.2.2.2.2.2.2.2.1, C5 E h2 (0+9) x9.2.2.2.2.2.2.1, C6 E h2 ((0+9)+1) x9.2.2.2.2.2.2.2.1, C7 E h2 ((0+9)+7) x9.2.2.2.2.2.2.2.2.1, C3 E h2 (0+18) x9.2.2.2.2.2.2.2.2.2.1, C0 E h2 (0+20) x9.2.2.2.2.2.2.2.2.2.2]) (As := [.int 1]) (rest := []) F hK hX hAB hG [0, 1, 2, 3, 4, 5, 6, 7] rfl rfl (c_X8_mode h1 0 (x3.2.1, x3.2.2.1, (x9.2.2.1, x9.2.2.2.1, x9.2.1), x9.2.2.2.2.1, x20.2) 1 hx23) rfl (kL_45 F.2.2.2.2 ⟨Nat.le_of_ble_eq_true rfl, Nat.le_of_ble_eq_true rfl⟩) rfl rfl rfl rfl hl.1 rfl (lv_room (Nat.le_of_ble_eq_true rfl)) ⟨Nat.le_of_ble_eq_true rfl, Nat.le_of_ble_eq_true rfl⟩ dL_law_127 (fun H locs hG => ?_)
        refine lv_aload_n hx hb dL_law_130 rfl (lv_at hl 1 rfl) ?_
        refine lv_bipush (v := 6) hx hb dL_law_131 (by decide) ?_
        obtain ⟨x24, hx24, hf⟩ := g_bnd hf
        refine g_mv (S' := [C8 E h1 0, C2 E h1 (0+1) x3.2.1, C6 E h1 (0+3) x3.2.2.1, C5 E h1 (0+9) x23.2.1, C6 E h1 ((0+9)+1) x9.2.2.1, C7 E h1 ((0+9)+7) x9.2.2.2.1, C3 E h1 (0+18) x23.2.2.1, C0 E h1 (0+20) x24.2, C8 E h2 0, C2 E h2 (0+1) x3.2.2.2.2.2.2.1, C6 E h2 (0+3) x3.2.2.2.2.2.2.2.1, C5 E h2 (0+9) x9.2.2.2.2.2.2.1, C6 E h2 ((0+9)+1) x9.2.2.2.2.2.2.2.1, C7 E h2 ((0+9)+7) x9.2.2.2.2.2.2.2.2.1, C3 E h2 (0+18) x9.2.2.2.2.2.2.2.2.2.1, C0 E h2 (0+20) x9.2.2.2.2.2.2.2.2.2.2]) (As := [.int 6]) (rest := [.int x23.1]) F hK hX hAB hG [0, 1, 2, 3, 4, 5, 6, 7] rfl rfl (c_X8_setting h1 0 (x3.2.1, x3.2.2.1, (x9.2.2.1, x9.2.2.2.1, x23.2.1), x23.2.2.1, x23.2.2.2) 6 (jr_in hx24)) rfl (kL_33 F.2.2.2.2 ⟨Nat.le_of_ble_eq_true rfl, Nat.le_of_ble_eq_true rfl⟩) rfl rfl rfl rfl hl.1 rfl (lv_room (Nat.le_of_ble_eq_true rfl)) ⟨Nat.le_of_ble_eq_true rfl, Nat.le_of_ble_eq_true rfl⟩ dL_law_133 (fun H locs hG => ?_)
        refine lv_icmp_ne (tgt := 150) hx hb dL_law_136 (by decide) (fun c25 => ?_) (fun c25 => ?_)
        · have hf := g_if c25 hf
          refine lv_iconst (v := 0) hx hb dL_law_150 (by decide) ?_
          obtain rfl := Option.some.inj hf
          exact hJj21 _ _ hG ls (lv_sub hl [1, 2, 0] rfl)
        · have hf := g_it c25 hf
          refine lv_aload_n hx hb dL_law_139 rfl (lv_at hl 1 rfl) ?_
          obtain ⟨x26, hx26, hf⟩ := g_bnd hf
          refine g_mv (S' := [C8 E h1 0, C2 E h1 (0+1) x3.2.1, C6 E h1 (0+3) x3.2.2.1, C5 E h1 (0+9) x26.2.1, C6 E h1 ((0+9)+1) x26.2.2.1, C7 E h1 ((0+9)+7) x26.2.2.2.1, C3 E h1 (0+18) x26.2.2.2.2, C0 E h1 (0+20) x24.2, C8 E h2 0, C2 E h2 (0+1) x3.2.2.2.2.2.2.1, C6 E h2 (0+3) x3.2.2.2.2.2.2.2.1, C5 E h2 (0+9) x9.2.2.2.2.2.2.1, C6 E h2 ((0+9)+1) x9.2.2.2.2.2.2.2.1, C7 E h2 ((0+9)+7) x9.2.2.2.2.2.2.2.2.1, C3 E h2 (0+18) x9.2.2.2.2.2.2.2.2.2.1, C0 E h2 (0+20) x9.2.2.2.2.2.2.2.2.2.2]) (As := []) (rest := []) F hK hX hAB hG [0, 1, 2, 3, 4, 5, 6, 7] rfl rfl (c_X8_undo h1 0 (x3.2.1, x3.2.2.1, (x9.2.2.1, x9.2.2.2.1, x23.2.1), x23.2.2.1, x24.2) (jr_in hx26)) rfl (kL_119 F.2.2.2.2 ⟨Nat.le_of_ble_eq_true rfl, Nat.le_of_ble_eq_true rfl⟩) rfl rfl rfl rfl hl.1 rfl (lv_room (Nat.le_of_ble_eq_true rfl)) ⟨Nat.le_of_ble_eq_true rfl, Nat.le_of_ble_eq_true rfl⟩ dL_law_140 (fun H locs hG => ?_)
          refine lv_if_lt (tgt := 150) hx hb dL_law_143 (by decide) (fun c27 => ?_) (fun c27 => ?_)
          · have hf := g_it c27 hf
            refine lv_iconst (v := 0) hx hb dL_law_150 (by decide) ?_
            obtain rfl := Option.some.inj hf
            exact hJj21 _ _ hG ls (lv_sub hl [1, 2, 0] rfl)
          · have hf := g_if c27 hf
            refine lv_iconst (v := 1) hx hb dL_law_146 (by decide) ?_
            refine lv_goto (tgt := 151) hx hb dL_law_147 (by decide) ?_
            obtain rfl := Option.some.inj hf
            exact hJj21 _ _ hG ls (lv_sub hl [1, 2, 0] rfl)
    refine lp_rule (fun (v8 : Int32 × Int32 × T5s × T6 × T7 × T3 × T0 × T5s × T6 × T7 × T3 × T0) => ∀ (H : Heap) (locs : List Loc), gS E (Alw s) s.heap [C8 E h1 0, C2 E h1 (0+1) x3.2.1, C6 E h1 (0+3) x3.2.2.1, C5 E h1 (0+9) v8.2.2.1, C6 E h1 ((0+9)+1) v8.2.2.2.1, C7 E h1 ((0+9)+7) v8.2.2.2.2.1, C3 E h1 (0+18) v8.2.2.2.2.2.1, C0 E h1 (0+20) v8.2.2.2.2.2.2.1, C8 E h2 0, C2 E h2 (0+1) x3.2.2.2.2.2.2.1, C6 E h2 (0+3) x3.2.2.2.2.2.2.2.1, C5 E h2 (0+9) v8.2.2.2.2.2.2.2.1, C6 E h2 ((0+9)+1) v8.2.2.2.2.2.2.2.2.1, C7 E h2 ((0+9)+7) v8.2.2.2.2.2.2.2.2.2.1, C3 E h2 (0+18) v8.2.2.2.2.2.2.2.2.2.2.1, C0 E h2 (0+20) v8.2.2.2.2.2.2.2.2.2.2.2] H locs → ∀ ls : Array Slot, lv_has ls 7 [(0, .ref E.2.2.1.2.1), (1, .ref (h1 0)), (2, .ref (h2 0)), (4, .int v8.1), (5, .int v8.2.1)] → W p l e room_1 s m #[Value.ref b] below meth c H locs 116 3924 (lw_Z below #[Value.ref b] s) (F0 m 57 ls [])) ?_ _ _ hx9 _ _ hG ls (lv_sub hl [2, 3, 4, 1, 0] rfl)
    intro v8 y hf hbackv8 hexitv8 H locs hG ls hl
    refine lv_iload hx hb dL_law_57 (lv_at hl 4 rfl) ?_
    refine lv_bipush (v := 40) hx hb dL_law_59 (by decide) ?_
    refine lv_icmp_ge (tgt := 114) hx hb dL_law_61 (by decide) (fun c10 => ?_) (fun c10 => ?_)
    · have hf := g_it c10 hf
      obtain rfl := hexitv8 _ (Option.some.inj hf).symm
      exact hEx9 _ _ hG ls (lv_sub hl [1, 2, 3] rfl)
    · have hf := g_if c10 hf
      refine lv_iload hx hb dL_law_64 (lv_at hl 3 rfl) ?_
      refine lv_if_eq (tgt := 114) hx hb dL_law_66 (by decide) (fun c11 => ?_) (fun c11 => ?_)
      · have hf := g_it c11 hf
        obtain rfl := hexitv8 _ (Option.some.inj hf).symm
        exact hEx9 _ _ hG ls (lv_sub hl [1, 2, 3] rfl)
      · have hf := g_if c11 hf
        refine lv_aload_n hx hb dL_law_69 rfl (lv_at hl 1 rfl) ?_
        refine lv_aload_n hx hb dL_law_70 rfl (lv_at hl 2 rfl) ?_
        refine lv_aload_n hx hb dL_law_71 rfl (lv_at hl 0 rfl) ?_
        refine lv_bipush (v := 22) hx hb dL_law_72 (by decide) ?_
        refine lv_iload hx hb dL_law_74 (lv_at hl 4 rfl) ?_
        refine lv_iadd hx hb dL_law_76 ?_
        obtain ⟨x12, hx12, hf⟩ := g_bnd hf
        refine g_rs (As := [.ref E.2.2.1.2.1, .int (22 + v8.2.1)]) (rest := [.ref (h2 0), .ref (h1 0)]) F hK (hG.X hX hAB) hG.1 [] rfl (c_L_cell  (22 + v8.2.1) hx12) (kL_21 F.2.2.2.2 ⟨Nat.le_of_ble_eq_true rfl, Nat.le_of_ble_eq_true rfl⟩) rfl hl.1 rfl (lv_room (Nat.le_of_ble_eq_true rfl)) ⟨Nat.le_of_ble_eq_true rfl, Nat.le_of_ble_eq_true rfl⟩ dL_law_77 ?_
        obtain ⟨x13, hx13, hf⟩ := g_bnd hf
        refine g_ms (S' := [C8 E h1 0, C2 E h1 (0+1) x3.2.1, C6 E h1 (0+3) x3.2.2.1, C5 E h1 (0+9) x13.2.1, C6 E h1 ((0+9)+1) x13.2.2.1, C7 E h1 ((0+9)+7) x13.2.2.2.1, C3 E h1 (0+18) x13.2.2.2.2.1, C0 E h1 (0+20) x13.2.2.2.2.2.1, C8 E h2 0, C2 E h2 (0+1) x3.2.2.2.2.2.2.1, C6 E h2 (0+3) x3.2.2.2.2.2.2.2.1, C5 E h2 (0+9) x13.2.2.2.2.2.2.1, C6 E h2 ((0+9)+1) x13.2.2.2.2.2.2.2.1, C7 E h2 ((0+9)+7) x13.2.2.2.2.2.2.2.2.1, C3 E h2 (0+18) x13.2.2.2.2.2.2.2.2.2.1, C0 E h2 (0+20) x13.2.2.2.2.2.2.2.2.2.2]) (As := [.ref (h1 0), .ref (h2 0), .int x12]) (rest := []) F hK hX hAB hG [0, 1, 2, 3, 4, 5, 6, 7, 8, 9, 10, 11, 12, 13, 14, 15] rfl rfl (c_L_isStep h1 h2 0 (x3.2.1, x3.2.2.1, (v8.2.2.2.1, v8.2.2.2.2.1, v8.2.2.1), v8.2.2.2.2.2.1, v8.2.2.2.2.2.2.1) 0 (x3.2.2.2.2.2.2.1, x3.2.2.2.2.2.2.2.1, (v8.2.2.2.2.2.2.2.2.1, v8.2.2.2.2.2.2.2.2.2.1, v8.2.2.2.2.2.2.2.1), v8.2.2.2.2.2.2.2.2.2.2.1, v8.2.2.2.2.2.2.2.2.2.2.2) x12 hx13) rfl (kL_107 F.2.2.2.2 ⟨Nat.le_of_ble_eq_true rfl, Nat.le_of_ble_eq_true rfl⟩) rfl hl.1 rfl (lv_room (Nat.le_of_ble_eq_true rfl)) ⟨Nat.le_of_ble_eq_true rfl, Nat.le_of_ble_eq_true rfl⟩ dL_law_80 (fun H locs hG => ?_)
        obtain ⟨j14, hf, hfj14⟩ := g_bnd hf
        have hJj14 : ∀ (H : Heap) (locs : List Loc), gS E (Alw s) s.heap [C8 E h1 0, C2 E h1 (0+1) x3.2.1, C6 E h1 (0+3) x3.2.2.1, C5 E h1 (0+9) x13.2.1, C6 E h1 ((0+9)+1) x13.2.2.1, C7 E h1 ((0+9)+7) x13.2.2.2.1, C3 E h1 (0+18) x13.2.2.2.2.1, C0 E h1 (0+20) j14.2.1, C8 E h2 0, C2 E h2 (0+1) x3.2.2.2.2.2.2.1, C6 E h2 (0+3) x3.2.2.2.2.2.2.2.1, C5 E h2 (0+9) x13.2.2.2.2.2.2.1, C6 E h2 ((0+9)+1) x13.2.2.2.2.2.2.2.1, C7 E h2 ((0+9)+7) x13.2.2.2.2.2.2.2.2.1, C3 E h2 (0+18) x13.2.2.2.2.2.2.2.2.2.1, C0 E h2 (0+20) j14.2.2] H locs → ∀ ls : Array Slot, lv_has ls 7 [(0, .ref E.2.2.1.2.1), (1, .ref (h1 0)), (2, .ref (h2 0)), (5, .int v8.2.1)] → W p l e room_1 s m #[Value.ref b] below meth c H locs 116 3924 (lw_Z below #[Value.ref b] s) (F0 m 106 ls [.int j14.1]) := by
          intro H locs hG ls hl
          have hf := hfj14
          refine lv_istore (lv' := [(4, .int j14.1), (0, .ref E.2.2.1.2.1), (1, .ref (h1 0)), (2, .ref (h2 0)), (5, .int v8.2.1)]) hx hb dL_law_106 hl (by decide) rfl (fun ls hl => ?_)
          refine lv_iinc (v := (v8.2.1 + 1)) (lv' := [(5, .int (v8.2.1 + 1)), (4, .int j14.1), (0, .ref E.2.2.1.2.1), (1, .ref (h1 0)), (2, .ref (h2 0))]) hx hb dL_law_108 hl (k := 4) rfl rfl (by decide) rfl (fun ls hl => ?_)
          refine lv_goto (tgt := 57) hx hb dL_law_111 (by decide) ?_
          exact hbackv8 _ (Option.some.inj hf).symm _ _ hG ls (lv_sub hl [2, 3, 4, 1, 0] rfl)
        refine lv_if_eq (tgt := 105) hx hb dL_law_83 (by decide) (fun c15 => ?_) (fun c15 => ?_)
        · have hf := g_it c15 hf
          refine lv_iconst (v := 0) hx hb dL_law_105 (by decide) ?_
          obtain rfl := Option.some.inj hf
          exact hJj14 _ _ hG ls (lv_sub hl [0, 1, 2, 4] rfl)
        · have hf := g_if c15 hf
          refine lv_aload_n hx hb dL_law_86 rfl (lv_at hl 1 rfl) ?_
          refine lv_aload_n hx hb dL_law_87 rfl (lv_at hl 2 rfl) ?_
          obtain ⟨x16, hx16, hf⟩ := g_bnd hf
          refine g_ms (S' := [C8 E h1 0, C2 E h1 (0+1) x3.2.1, C6 E h1 (0+3) x3.2.2.1, C5 E h1 (0+9) x13.2.1, C6 E h1 ((0+9)+1) x13.2.2.1, C7 E h1 ((0+9)+7) x13.2.2.2.1, C3 E h1 (0+18) x13.2.2.2.2.1, C0 E h1 (0+20) x16.2.1, C8 E h2 0, C2 E h2 (0+1) x3.2.2.2.2.2.2.1, C6 E h2 (0+3) x3.2.2.2.2.2.2.2.1, C5 E h2 (0+9) x13.2.2.2.2.2.2.1, C6 E h2 ((0+9)+1) x13.2.2.2.2.2.2.2.1, C7 E h2 ((0+9)+7) x13.2.2.2.2.2.2.2.2.1, C3 E h2 (0+18) x13.2.2.2.2.2.2.2.2.2.1, C0 E h2 (0+20) x16.2.2]) (As := [.ref (h1 0), .ref (h2 0)]) (rest := []) F hK hX hAB hG [0, 1, 2, 3, 4, 5, 6, 7, 8, 9, 10, 11, 12, 13, 14, 15] rfl rfl (c_L_areAlike h1 h2 0 (x3.2.1, x3.2.2.1, (x13.2.2.1, x13.2.2.2.1, x13.2.1), x13.2.2.2.2.1, x13.2.2.2.2.2.1) 0 (x3.2.2.2.2.2.2.1, x3.2.2.2.2.2.2.2.1, (x13.2.2.2.2.2.2.2.1, x13.2.2.2.2.2.2.2.2.1, x13.2.2.2.2.2.2.1), x13.2.2.2.2.2.2.2.2.2.1, x13.2.2.2.2.2.2.2.2.2.2) hx16) rfl (kL_103 F.2.2.2.2 ⟨Nat.le_of_ble_eq_true rfl, Nat.le_of_ble_eq_true rfl⟩) rfl hl.1 rfl (lv_room (Nat.le_of_ble_eq_true rfl)) ⟨Nat.le_of_ble_eq_true rfl, Nat.le_of_ble_eq_true rfl⟩ dL_law_88 (fun H locs hG => ?_)
          refine lv_if_eq (tgt := 105) hx hb dL_law_91 (by decide) (fun c17 => ?_) (fun c17 => ?_)
          · have hf := g_it c17 hf
            refine lv_iconst (v := 0) hx hb dL_law_105 (by decide) ?_
            obtain rfl := Option.some.inj hf
            exact hJj14 _ _ hG ls (lv_sub hl [0, 1, 2, 4] rfl)
          · have hf := g_if c17 hf
            refine lv_aload_n hx hb dL_law_94 rfl (lv_at hl 1 rfl) ?_
            obtain ⟨x18, hx18, hf⟩ := g_bnd hf
            refine g_ms (S' := [C8 E h1 0, C2 E h1 (0+1) x3.2.1, C6 E h1 (0+3) x3.2.2.1, C5 E h1 (0+9) x13.2.1, C6 E h1 ((0+9)+1) x13.2.2.1, C7 E h1 ((0+9)+7) x13.2.2.2.1, C3 E h1 (0+18) x13.2.2.2.2.1, C0 E h1 (0+20) x18.2, C8 E h2 0, C2 E h2 (0+1) x3.2.2.2.2.2.2.1, C6 E h2 (0+3) x3.2.2.2.2.2.2.2.1, C5 E h2 (0+9) x13.2.2.2.2.2.2.1, C6 E h2 ((0+9)+1) x13.2.2.2.2.2.2.2.1, C7 E h2 ((0+9)+7) x13.2.2.2.2.2.2.2.2.1, C3 E h2 (0+18) x13.2.2.2.2.2.2.2.2.2.1, C0 E h2 (0+20) x16.2.2]) (As := [.ref (h1 0)]) (rest := []) F hK hX hAB hG [0, 1, 2, 3, 4, 5, 6, 7] rfl rfl (c_L_isSound h1 0 (x3.2.1, x3.2.2.1, (x13.2.2.1, x13.2.2.2.1, x13.2.1), x13.2.2.2.2.1, x16.2.1) hx18) rfl (kL_111 F.2.2.2.2 ⟨Nat.le_of_ble_eq_true rfl, Nat.le_of_ble_eq_true rfl⟩) rfl hl.1 rfl (lv_room (Nat.le_of_ble_eq_true rfl)) ⟨Nat.le_of_ble_eq_true rfl, Nat.le_of_ble_eq_true rfl⟩ dL_law_95 (fun H locs hG => ?_)
            refine lv_if_eq (tgt := 105) hx hb dL_law_98 (by decide) (fun c19 => ?_) (fun c19 => ?_)
            · have hf := g_it c19 hf
              refine lv_iconst (v := 0) hx hb dL_law_105 (by decide) ?_
              obtain rfl := Option.some.inj hf
              exact hJj14 _ _ hG ls (lv_sub hl [0, 1, 2, 4] rfl)
            · have hf := g_if c19 hf
              refine lv_iconst (v := 1) hx hb dL_law_101 (by decide) ?_
              refine lv_goto (tgt := 106) hx hb dL_law_102 (by decide) ?_
              obtain rfl := Option.some.inj hf
              exact hJj14 _ _ hG ls (lv_sub hl [0, 1, 2, 4] rfl)
  refine lv_if_eq (tgt := 51) hx hb dL_law_36 (by decide) (fun c5 => ?_) (fun c5 => ?_)
  · have hf := g_it c5 hf
    refine lv_iconst (v := 0) hx hb dL_law_51 (by decide) ?_
    obtain rfl := Option.some.inj hf
    exact hJj4 _ _ hG ls (lv_sub hl [1, 2, 3] rfl)
  · have hf := g_if c5 hf
    refine lv_aload_n hx hb dL_law_39 rfl (lv_at hl 2 rfl) ?_
    refine lv_aload_n hx hb dL_law_40 rfl (lv_at hl 3 rfl) ?_
    obtain ⟨x6, hx6, hf⟩ := g_bnd hf
    refine g_ms (S' := [C8 E h1 0, C2 E h1 (0+1) x3.2.1, C6 E h1 (0+3) x3.2.2.1, C5 E h1 (0+9) x3.2.2.2.1, C6 E h1 ((0+9)+1) x3.2.2.2.2.1, C7 E h1 ((0+9)+7) w1.2.2.1.2.1, C3 E h1 (0+18) x3.2.2.2.2.2.1, C0 E h1 (0+20) x6.2.1, C8 E h2 0, C2 E h2 (0+1) x3.2.2.2.2.2.2.1, C6 E h2 (0+3) x3.2.2.2.2.2.2.2.1, C5 E h2 (0+9) x3.2.2.2.2.2.2.2.2.1, C6 E h2 ((0+9)+1) x3.2.2.2.2.2.2.2.2.2.1, C7 E h2 ((0+9)+7) w2.2.2.1.2.1, C3 E h2 (0+18) x3.2.2.2.2.2.2.2.2.2.2, C0 E h2 (0+20) x6.2.2]) (As := [.ref (h1 0), .ref (h2 0)]) (rest := []) F hK hX hAB hG [0, 1, 2, 3, 4, 5, 6, 7, 8, 9, 10, 11, 12, 13, 14, 15] rfl rfl (c_L_areAlike h1 h2 0 (x3.2.1, x3.2.2.1, (x3.2.2.2.2.1, w1.2.2.1.2.1, x3.2.2.2.1), x3.2.2.2.2.2.1, w1.2.2.2.2) 0 (x3.2.2.2.2.2.2.1, x3.2.2.2.2.2.2.2.1, (x3.2.2.2.2.2.2.2.2.2.1, w2.2.2.1.2.1, x3.2.2.2.2.2.2.2.2.1), x3.2.2.2.2.2.2.2.2.2.2, w2.2.2.2.2) hx6) rfl (kL_103 F.2.2.2.2 ⟨Nat.le_of_ble_eq_true rfl, Nat.le_of_ble_eq_true rfl⟩) rfl hl.1 rfl (lv_room (Nat.le_of_ble_eq_true rfl)) ⟨Nat.le_of_ble_eq_true rfl, Nat.le_of_ble_eq_true rfl⟩ dL_law_41 (fun H locs hG => ?_)
    refine lv_if_eq (tgt := 51) hx hb dL_law_44 (by decide) (fun c7 => ?_) (fun c7 => ?_)
    · have hf := g_it c7 hf
      refine lv_iconst (v := 0) hx hb dL_law_51 (by decide) ?_
      obtain rfl := Option.some.inj hf
      exact hJj4 _ _ hG ls (lv_sub hl [1, 2, 3] rfl)
    · have hf := g_if c7 hf
      refine lv_iconst (v := 1) hx hb dL_law_47 (by decide) ?_
      refine lv_goto (tgt := 52) hx hb dL_law_48 (by decide) ?_
      obtain rfl := Option.some.inj hf
      exact hJj4 _ _ hG ls (lv_sub hl [1, 2, 3] rfl)
end LAWM
