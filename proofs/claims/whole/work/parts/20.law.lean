/-! ===== the law's body, one road of the switch at a time ===== -/
def nzB (a : Int32) : Int32 := if a = 0 then 0 else 1
def stw (r : Option (Int32 × T8 × (Nat → Int64))) (q : Option (Int32 × T9)) : Option (T8 × T9 × (Nat → Int64)) := Option.bind r (fun r => Option.bind q (fun q => Option.bind (f_X9_thrown q.2) (fun t => if t = r.1 then (if r.1 = 0 then (if r.2.2 0 = q.1.toInt64 then some (r.2.1, q.2, r.2.2) else none) else some (r.2.1, q.2, r.2.2)) else none)))
abbrev WL (E : gEnv) (h hm ho : Nat → Nat) (x : T8) (m9 : T9) (ou : Nat → Int64) : List va_W := [C8 E h 0, C2 E h (0+1) x.1, C6 E h (0+3) x.2.1, C5 E h (0+9) x.2.2.1.2.2, C6 E h ((0+9)+1) x.2.2.1.1, C7 E h ((0+9)+7) x.2.2.1.2.1, C3 E h (0+18) x.2.2.2.1, C0 E h (0+20) x.2.2.2.2, C9 E hm 0 m9, CO E ho 0 ou]
abbrev Alw (s : State) : Nat → Prop := fun q => s.heap.size ≤ q
section LAWB
variable {p : Program} {l : Launch} {e : Env} {R : Room} {s : State} {m : MethodId} {args : Array Value} {below : List Frame} {meth : Method} {c : Code} {H : Heap} {locs : List Loc} {cells slots : Nat} {Q : State → Prop}
variable {ls : Array Slot} {rest : List Value} {pc : Nat} {A : Nat → Prop}
/-- an int of the script at i + k -/
theorem law_arg {b L : Nat} {xs : Nat → Int32} (hx : p.tables.exec = Jvm.exec) (hb : c.code = cL_law) (hX : va_X b L xs s s.heap) (hbl : b < s.heap.size) (hbA : ¬ A b) (hS : va_S A s.heap H locs) {i k a : Int32} {kn : Int} (hk : Int32.ofInt kn = k) (h0 : ls[0]? = some (.val (.ref b))) (h4 : ls[4]? = some (.val (.int i))) (hin : vp_in (i + k) L) (ha : xs (i + k).toNatClampNeg = a)
    (d0 : decode cL_law pc = .ok (.aload_n 0, 1)) (d1 : decode cL_law (pc + 1) = .ok (.iload 4, 2)) (d3 : decode cL_law (pc + 3) = .ok (.iconst kn, 1)) (d4 : decode cL_law (pc + 4) = .ok (.iadd, 1)) (d5 : decode cL_law (pc + 5) = .ok (.iaload, 1))
    (kk : W p l e R s m args below meth c H locs cells slots Q (F0 m (pc + 6) ls (.int a :: rest))) : W p l e R s m args below meth c H locs cells slots Q (F0 m pc ls rest) := by
  subst ha
  exact lv_aload_n hx hb d0 rfl h0 (lv_iload hx hb d1 h4 (lv_iconst hx hb d3 hk (lv_iadd hx hb d4 (va_sld hx hb hX hbl hbA hS hin d5 kk))))
theorem law_nz {a : Int32} (hx : p.tables.exec = Jvm.exec) (hb : c.code = cL_law) (d0 : decode cL_law pc = .ok (.ifCond .eq 7, 3)) (d3 : decode cL_law (pc + 3) = .ok (.iconst 1, 1)) (d4 : decode cL_law (pc + 4) = .ok (.goto 4, 3)) (d7 : decode cL_law (pc + 7) = .ok (.iconst 0, 1))
    (kk : W p l e R s m args below meth c H locs cells slots Q (F0 m (pc + 8) ls (.int (nzB a) :: rest))) : W p l e R s m args below meth c H locs cells slots Q (F0 m pc ls (.int a :: rest)) := by
  refine lv_if_eq (tgt := pc + 7) hx hb d0 (by omega) (fun h => ?_) (fun h => ?_)
  · refine lv_iconst (v := 0) hx hb d7 (by decide) ?_
    rw [nzB, if_pos h] at kk
    exact kk
  · refine lv_iconst (v := 1) hx hb d3 (by decide) (lv_goto (tgt := pc + 8) hx hb d4 (by omega) ?_)
    rw [nzB, if_neg h] at kk
    exact kk
theorem law_iadd {i : Int32} : i + Int32.ofInt 3 = i + 3 := rfl
end LAWB
theorem kL_78 {s : State} {args : Array Value} (ht : ∀ w ∈ gx_G, w.before args s = true) : vx_CSW room_1 s args RL 78 yL_append cL_append 4 (some .int) [(0, 9, 12, 13), (0, 9, 15, 15)] (Cond.codeWith yL_append cL_append 4 (some .int) [(0, 9, 12, 13), (0, 9, 15, 15)] :: gx_G) rL_append 1 6 3 := vx_cwSW (ws' := gx_G) 3 ht (gx_cons gw_480 (gx_cons gw_481 (gx_cons gw_0 (gx_cons gw_482 gx_gg)))) rfl rfl rfl (by decide +kernel) ⟨Nat.le_of_ble_eq_true rfl, Nat.le_of_ble_eq_true rfl⟩
theorem hmLX9_append : yX9_append.cls = RX9 ∧ yX9_append.cls ≠ "java/lang/invoke/MethodHandle" ∧ yX9_append.cls ≠ "java/lang/invoke/VarHandle" ∧ (parseMethodDescriptor yX9_append.desc).map (fun d => d.parameters.length) = some 1 := by decide +kernel
theorem kL_83 {s : State} {args : Array Value} (ht : ∀ w ∈ gx_G, w.before args s = true) : CallW room_1 s args RL RX9 83 yX9_append cX9_append 2 (some .int) (gws yX9_append cX9_append 2 (some .int)) rX9_append 0 0 1 := cwV 1 ht (gx_gV gw_1065 gw_1066 gw_1067 gw_8 gw_1068) rfl rfl rfl hmLX9_append ⟨Nat.le_of_ble_eq_true rfl, Nat.le_of_ble_eq_true rfl⟩
theorem hmLX9_thrown : yX9_thrown.cls = RX9 ∧ yX9_thrown.cls ≠ "java/lang/invoke/MethodHandle" ∧ yX9_thrown.cls ≠ "java/lang/invoke/VarHandle" ∧ (parseMethodDescriptor yX9_thrown.desc).map (fun d => d.parameters.length) = some 0 := by decide +kernel
theorem kL_84 {s : State} {args : Array Value} (ht : ∀ w ∈ gx_G, w.before args s = true) : CallW room_1 s args RL RX9 84 yX9_thrown cX9_thrown 1 (some .int) (gws yX9_thrown cX9_thrown 1 (some .int)) rX9_thrown 0 0 0 := cwV 0 ht (gx_gV gw_849 gw_850 gw_851 gw_8 gw_852) rfl rfl rfl hmLX9_thrown ⟨Nat.le_of_ble_eq_true rfl, Nat.le_of_ble_eq_true rfl⟩
theorem hmLX8_clearText : yX8_clearText.cls = RX8 ∧ yX8_clearText.cls ≠ "java/lang/invoke/MethodHandle" ∧ yX8_clearText.cls ≠ "java/lang/invoke/VarHandle" ∧ (parseMethodDescriptor yX8_clearText.desc).map (fun d => d.parameters.length) = some 0 := by decide +kernel
theorem kL_87 {s : State} {args : Array Value} (ht : ∀ w ∈ gx_G, w.before args s = true) : CallW room_1 s args RL RX8 87 yX8_clearText cX8_clearText 2 (some .int) (gws yX8_clearText cX8_clearText 2 (some .int)) rX8_clearText 0 0 0 := cwV 0 ht (gx_gV gw_187 gw_188 gw_189 gw_1 gw_190) rfl rfl rfl hmLX8_clearText ⟨Nat.le_of_ble_eq_true rfl, Nat.le_of_ble_eq_true rfl⟩
theorem hmLX9_clearText : yX9_clearText.cls = RX9 ∧ yX9_clearText.cls ≠ "java/lang/invoke/MethodHandle" ∧ yX9_clearText.cls ≠ "java/lang/invoke/VarHandle" ∧ (parseMethodDescriptor yX9_clearText.desc).map (fun d => d.parameters.length) = some 0 := by decide +kernel
theorem kL_90 {s : State} {args : Array Value} (ht : ∀ w ∈ gx_G, w.before args s = true) : CallW room_1 s args RL RX9 90 yX9_clearText cX9_clearText 2 (some .int) (gws yX9_clearText cX9_clearText 2 (some .int)) rX9_clearText 0 0 0 := cwV 0 ht (gx_gV gw_1070 gw_1071 gw_1072 gw_8 gw_1073) rfl rfl rfl hmLX9_clearText ⟨Nat.le_of_ble_eq_true rfl, Nat.le_of_ble_eq_true rfl⟩
theorem hmLX8_load : yX8_load.cls = RX8 ∧ yX8_load.cls ≠ "java/lang/invoke/MethodHandle" ∧ yX8_load.cls ≠ "java/lang/invoke/VarHandle" ∧ (parseMethodDescriptor yX8_load.desc).map (fun d => d.parameters.length) = some 0 := by decide +kernel
theorem kL_91 {s : State} {args : Array Value} (ht : ∀ w ∈ gx_G, w.before args s = true) : CallW room_1 s args RL RX8 91 yX8_load cX8_load 2 (some .int) (gws yX8_load cX8_load 2 (some .int)) rX8_load 0 0 0 := cwV 0 ht (gx_gV gw_195 gw_196 gw_197 gw_1 gw_198) rfl rfl rfl hmLX8_load ⟨Nat.le_of_ble_eq_true rfl, Nat.le_of_ble_eq_true rfl⟩
theorem hmLX9_load : yX9_load.cls = RX9 ∧ yX9_load.cls ≠ "java/lang/invoke/MethodHandle" ∧ yX9_load.cls ≠ "java/lang/invoke/VarHandle" ∧ (parseMethodDescriptor yX9_load.desc).map (fun d => d.parameters.length) = some 0 := by decide +kernel
theorem kL_94 {s : State} {args : Array Value} (ht : ∀ w ∈ gx_G, w.before args s = true) : CallW room_1 s args RL RX9 94 yX9_load cX9_load 3 (some .int) (gws yX9_load cX9_load 3 (some .int)) rX9_load 0 0 0 := cwV 0 ht (gx_gV gw_1074 gw_1075 gw_1076 gw_8 gw_1077) rfl rfl rfl hmLX9_load ⟨Nat.le_of_ble_eq_true rfl, Nat.le_of_ble_eq_true rfl⟩
theorem kL_95 {s : State} {args : Array Value} (ht : ∀ w ∈ gx_G, w.before args s = true) : vx_CSW room_1 s args RL 95 yL_setWays cL_setWays 5 (some .int) [(0, 10, 13, 13)] (Cond.codeWith yL_setWays cL_setWays 5 (some .int) [(0, 10, 13, 13)] :: gx_G) rL_setWays 1 6 4 := vx_cwSW (ws' := gx_G) 4 ht (gx_cons gw_582 (gx_cons gw_583 (gx_cons gw_0 (gx_cons gw_584 gx_gg)))) rfl rfl rfl (by decide +kernel) ⟨Nat.le_of_ble_eq_true rfl, Nat.le_of_ble_eq_true rfl⟩
theorem hmLX9_setWays : yX9_setWays.cls = RX9 ∧ yX9_setWays.cls ≠ "java/lang/invoke/MethodHandle" ∧ yX9_setWays.cls ≠ "java/lang/invoke/VarHandle" ∧ (parseMethodDescriptor yX9_setWays.desc).map (fun d => d.parameters.length) = some 2 := by decide +kernel
theorem kL_98 {s : State} {args : Array Value} (ht : ∀ w ∈ gx_G, w.before args s = true) : CallW room_1 s args RL RX9 98 yX9_setWays cX9_setWays 4 (some .int) (gws yX9_setWays cX9_setWays 4 (some .int)) rX9_setWays 0 0 2 := cwV 2 ht (gx_gV gw_923 gw_924 gw_925 gw_8 gw_926) rfl rfl rfl hmLX9_setWays ⟨Nat.le_of_ble_eq_true rfl, Nat.le_of_ble_eq_true rfl⟩
theorem kL_99 {s : State} {args : Array Value} (ht : ∀ w ∈ gx_G, w.before args s = true) : vx_CSW room_1 s args RL 99 yL_word cL_word 5 (some .int) [(0, 10, 13, 25), (0, 10, 17, 13)] (Cond.codeWith yL_word cL_word 5 (some .int) [(0, 10, 13, 25), (0, 10, 17, 13)] :: gx_G) rL_word 1 6 4 := vx_cwSW (ws' := gx_G) 4 ht (gx_cons gw_590 (gx_cons gw_591 (gx_cons gw_0 (gx_cons gw_592 gx_gg)))) rfl rfl rfl (by decide +kernel) ⟨Nat.le_of_ble_eq_true rfl, Nat.le_of_ble_eq_true rfl⟩
theorem hmLX9_word : yX9_word.cls = RX9 ∧ yX9_word.cls ≠ "java/lang/invoke/MethodHandle" ∧ yX9_word.cls ≠ "java/lang/invoke/VarHandle" ∧ (parseMethodDescriptor yX9_word.desc).map (fun d => d.parameters.length) = some 2 := by decide +kernel
theorem kL_102 {s : State} {args : Array Value} (ht : ∀ w ∈ gx_G, w.before args s = true) : CallW room_1 s args RL RX9 102 yX9_word cX9_word 3 (some .int) (gws yX9_word cX9_word 3 (some .int)) rX9_word 0 0 2 := cwV 2 ht (gx_gV gw_853 gw_854 gw_855 gw_8 gw_856) rfl rfl rfl hmLX9_word ⟨Nat.le_of_ble_eq_true rfl, Nat.le_of_ble_eq_true rfl⟩
theorem kL_103 {s : State} {args : Array Value} (ht : ∀ w ∈ gx_G, w.before args s = true) : vx_CSW room_1 s args RL 103 yL_letter cL_letter 5 (some .int) [(0, 10, 13, 25)] (Cond.codeWith yL_letter cL_letter 5 (some .int) [(0, 10, 13, 25)] :: gx_G) rL_letter 1 6 4 := vx_cwSW (ws' := gx_G) 4 ht (gx_cons gw_616 (gx_cons gw_617 (gx_cons gw_0 (gx_cons gw_618 gx_gg)))) rfl rfl rfl (by decide +kernel) ⟨Nat.le_of_ble_eq_true rfl, Nat.le_of_ble_eq_true rfl⟩
theorem hmLX9_letter : yX9_letter.cls = RX9 ∧ yX9_letter.cls ≠ "java/lang/invoke/MethodHandle" ∧ yX9_letter.cls ≠ "java/lang/invoke/VarHandle" ∧ (parseMethodDescriptor yX9_letter.desc).map (fun d => d.parameters.length) = some 2 := by decide +kernel
theorem kL_105 {s : State} {args : Array Value} (ht : ∀ w ∈ gx_G, w.before args s = true) : CallW room_1 s args RL RX9 105 yX9_letter cX9_letter 3 (some .int) (gws yX9_letter cX9_letter 3 (some .int)) rX9_letter 0 0 2 := cwV 2 ht (gx_gV gw_896 gw_897 gw_898 gw_8 gw_899) rfl rfl rfl hmLX9_letter ⟨Nat.le_of_ble_eq_true rfl, Nat.le_of_ble_eq_true rfl⟩
theorem kL_106 {s : State} {args : Array Value} (ht : ∀ w ∈ gx_G, w.before args s = true) : vx_CSW room_1 s args RL 106 yL_press cL_press 4 (some .int) [(0, 9, 12, 13), (0, 9, 15, 15)] (Cond.codeWith yL_press cL_press 4 (some .int) [(0, 9, 12, 13), (0, 9, 15, 15)] :: gx_G) rL_press 1 6 3 := vx_cwSW (ws' := gx_G) 3 ht (gx_cons gw_625 (gx_cons gw_626 (gx_cons gw_0 (gx_cons gw_627 gx_gg)))) rfl rfl rfl (by decide +kernel) ⟨Nat.le_of_ble_eq_true rfl, Nat.le_of_ble_eq_true rfl⟩
theorem hmLX9_press : yX9_press.cls = RX9 ∧ yX9_press.cls ≠ "java/lang/invoke/MethodHandle" ∧ yX9_press.cls ≠ "java/lang/invoke/VarHandle" ∧ (parseMethodDescriptor yX9_press.desc).map (fun d => d.parameters.length) = some 1 := by decide +kernel
theorem kL_108 {s : State} {args : Array Value} (ht : ∀ w ∈ gx_G, w.before args s = true) : CallW room_1 s args RL RX9 108 yX9_press cX9_press 4 (some .int) (gws yX9_press cX9_press 4 (some .int)) rX9_press 0 0 1 := cwV 1 ht (gx_gV gw_932 gw_933 gw_934 gw_8 gw_935) rfl rfl rfl hmLX9_press ⟨Nat.le_of_ble_eq_true rfl, Nat.le_of_ble_eq_true rfl⟩
theorem hmLX8_pause : yX8_pause.cls = RX8 ∧ yX8_pause.cls ≠ "java/lang/invoke/MethodHandle" ∧ yX8_pause.cls ≠ "java/lang/invoke/VarHandle" ∧ (parseMethodDescriptor yX8_pause.desc).map (fun d => d.parameters.length) = some 0 := by decide +kernel
theorem kL_109 {s : State} {args : Array Value} (ht : ∀ w ∈ gx_G, w.before args s = true) : CallW room_1 s args RL RX8 109 yX8_pause cX8_pause 2 (some .int) (gws yX8_pause cX8_pause 2 (some .int)) rX8_pause 0 0 0 := cwV 0 ht (gx_gV gw_309 gw_310 gw_311 gw_1 gw_312) rfl rfl rfl hmLX8_pause ⟨Nat.le_of_ble_eq_true rfl, Nat.le_of_ble_eq_true rfl⟩
theorem hmLX9_pause : yX9_pause.cls = RX9 ∧ yX9_pause.cls ≠ "java/lang/invoke/MethodHandle" ∧ yX9_pause.cls ≠ "java/lang/invoke/VarHandle" ∧ (parseMethodDescriptor yX9_pause.desc).map (fun d => d.parameters.length) = some 0 := by decide +kernel
theorem kL_112 {s : State} {args : Array Value} (ht : ∀ w ∈ gx_G, w.before args s = true) : CallW room_1 s args RL RX9 112 yX9_pause cX9_pause 2 (some .int) (gws yX9_pause cX9_pause 2 (some .int)) rX9_pause 0 0 0 := cwV 0 ht (gx_gV gw_947 gw_948 gw_949 gw_8 gw_950) rfl rfl rfl hmLX9_pause ⟨Nat.le_of_ble_eq_true rfl, Nat.le_of_ble_eq_true rfl⟩
theorem hmLX8_mode : yX8_mode.cls = RX8 ∧ yX8_mode.cls ≠ "java/lang/invoke/MethodHandle" ∧ yX8_mode.cls ≠ "java/lang/invoke/VarHandle" ∧ (parseMethodDescriptor yX8_mode.desc).map (fun d => d.parameters.length) = some 1 := by decide +kernel
theorem kL_113 {s : State} {args : Array Value} (ht : ∀ w ∈ gx_G, w.before args s = true) : CallW room_1 s args RL RX8 113 yX8_mode cX8_mode 2 (some .int) (gws yX8_mode cX8_mode 2 (some .int)) rX8_mode 0 0 1 := cwV 1 ht (gx_gV gw_313 gw_314 gw_315 gw_1 gw_316) rfl rfl rfl hmLX8_mode ⟨Nat.le_of_ble_eq_true rfl, Nat.le_of_ble_eq_true rfl⟩
theorem hmLX9_mode : yX9_mode.cls = RX9 ∧ yX9_mode.cls ≠ "java/lang/invoke/MethodHandle" ∧ yX9_mode.cls ≠ "java/lang/invoke/VarHandle" ∧ (parseMethodDescriptor yX9_mode.desc).map (fun d => d.parameters.length) = some 1 := by decide +kernel
theorem kL_117 {s : State} {args : Array Value} (ht : ∀ w ∈ gx_G, w.before args s = true) : CallW room_1 s args RL RX9 117 yX9_mode cX9_mode 3 (some .int) (gws yX9_mode cX9_mode 3 (some .int)) rX9_mode 0 0 1 := cwV 1 ht (gx_gV gw_951 gw_952 gw_953 gw_8 gw_954) rfl rfl rfl hmLX9_mode ⟨Nat.le_of_ble_eq_true rfl, Nat.le_of_ble_eq_true rfl⟩
theorem kL_118 {s : State} {args : Array Value} (ht : ∀ w ∈ gx_G, w.before args s = true) : vx_CSW room_1 s args RL 118 yL_next cL_next 3 (some .int) [(0, 8, 11, 15)] (Cond.codeWith yL_next cL_next 3 (some .int) [(0, 8, 11, 15)] :: gx_G) rL_next 1 6 2 := vx_cwSW (ws' := gx_G) 2 ht (gx_cons gw_652 (gx_cons gw_653 (gx_cons gw_0 (gx_cons gw_654 gx_gg)))) rfl rfl rfl (by decide +kernel) ⟨Nat.le_of_ble_eq_true rfl, Nat.le_of_ble_eq_true rfl⟩
theorem hmLX9_next : yX9_next.cls = RX9 ∧ yX9_next.cls ≠ "java/lang/invoke/MethodHandle" ∧ yX9_next.cls ≠ "java/lang/invoke/VarHandle" ∧ (parseMethodDescriptor yX9_next.desc).map (fun d => d.parameters.length) = some 0 := by decide +kernel
theorem kL_121 {s : State} {args : Array Value} (ht : ∀ w ∈ gx_G, w.before args s = true) : CallW room_1 s args RL RX9 121 yX9_next cX9_next 2 (some .int) (gws yX9_next cX9_next 2 (some .int)) rX9_next 0 0 0 := cwV 0 ht (gx_gV gw_959 gw_960 gw_961 gw_8 gw_962) rfl rfl rfl hmLX9_next ⟨Nat.le_of_ble_eq_true rfl, Nat.le_of_ble_eq_true rfl⟩
theorem kL_122 {s : State} {args : Array Value} (ht : ∀ w ∈ gx_G, w.before args s = true) : vx_CSW room_1 s args RL 122 yL_erase cL_erase 3 (some .int) [(0, 8, 11, 15)] (Cond.codeWith yL_erase cL_erase 3 (some .int) [(0, 8, 11, 15)] :: gx_G) rL_erase 1 6 2 := vx_cwSW (ws' := gx_G) 2 ht (gx_cons gw_660 (gx_cons gw_661 (gx_cons gw_0 (gx_cons gw_662 gx_gg)))) rfl rfl rfl (by decide +kernel) ⟨Nat.le_of_ble_eq_true rfl, Nat.le_of_ble_eq_true rfl⟩
theorem hmLX9_erase : yX9_erase.cls = RX9 ∧ yX9_erase.cls ≠ "java/lang/invoke/MethodHandle" ∧ yX9_erase.cls ≠ "java/lang/invoke/VarHandle" ∧ (parseMethodDescriptor yX9_erase.desc).map (fun d => d.parameters.length) = some 0 := by decide +kernel
theorem kL_124 {s : State} {args : Array Value} (ht : ∀ w ∈ gx_G, w.before args s = true) : CallW room_1 s args RL RX9 124 yX9_erase cX9_erase 1 (some .int) (gws yX9_erase cX9_erase 1 (some .int)) rX9_erase 0 0 0 := cwV 0 ht (gx_gV gw_963 gw_964 gw_965 gw_8 gw_966) rfl rfl rfl hmLX9_erase ⟨Nat.le_of_ble_eq_true rfl, Nat.le_of_ble_eq_true rfl⟩
theorem kL_125 {s : State} {args : Array Value} (ht : ∀ w ∈ gx_G, w.before args s = true) : vx_CSW room_1 s args RL 125 yL_accept cL_accept 3 (some .int) [(0, 8, 11, 15)] (Cond.codeWith yL_accept cL_accept 3 (some .int) [(0, 8, 11, 15)] :: gx_G) rL_accept 1 6 2 := vx_cwSW (ws' := gx_G) 2 ht (gx_cons gw_677 (gx_cons gw_678 (gx_cons gw_0 (gx_cons gw_679 gx_gg)))) rfl rfl rfl (by decide +kernel) ⟨Nat.le_of_ble_eq_true rfl, Nat.le_of_ble_eq_true rfl⟩
theorem hmLX9_accept : yX9_accept.cls = RX9 ∧ yX9_accept.cls ≠ "java/lang/invoke/MethodHandle" ∧ yX9_accept.cls ≠ "java/lang/invoke/VarHandle" ∧ (parseMethodDescriptor yX9_accept.desc).map (fun d => d.parameters.length) = some 0 := by decide +kernel
theorem kL_127 {s : State} {args : Array Value} (ht : ∀ w ∈ gx_G, w.before args s = true) : CallW room_1 s args RL RX9 127 yX9_accept cX9_accept 4 (some .int) (gws yX9_accept cX9_accept 4 (some .int)) rX9_accept 0 0 0 := cwV 0 ht (gx_gV gw_971 gw_972 gw_973 gw_8 gw_974) rfl rfl rfl hmLX9_accept ⟨Nat.le_of_ble_eq_true rfl, Nat.le_of_ble_eq_true rfl⟩
theorem kL_128 {s : State} {args : Array Value} (ht : ∀ w ∈ gx_G, w.before args s = true) : vx_CSW room_1 s args RL 128 yL_open cL_open 4 (some .int) [(0, 9, 12, 25), (0, 9, 15, 15)] (Cond.codeWith yL_open cL_open 4 (some .int) [(0, 9, 12, 25), (0, 9, 15, 15)] :: gx_G) rL_open 1 6 3 := vx_cwSW (ws' := gx_G) 3 ht (gx_cons gw_718 (gx_cons gw_719 (gx_cons gw_0 (gx_cons gw_720 gx_gg)))) rfl rfl rfl (by decide +kernel) ⟨Nat.le_of_ble_eq_true rfl, Nat.le_of_ble_eq_true rfl⟩
theorem hmLX9_open : yX9_open.cls = RX9 ∧ yX9_open.cls ≠ "java/lang/invoke/MethodHandle" ∧ yX9_open.cls ≠ "java/lang/invoke/VarHandle" ∧ (parseMethodDescriptor yX9_open.desc).map (fun d => d.parameters.length) = some 1 := by decide +kernel
theorem kL_130 {s : State} {args : Array Value} (ht : ∀ w ∈ gx_G, w.before args s = true) : CallW room_1 s args RL RX9 130 yX9_open cX9_open 4 (some .int) (gws yX9_open cX9_open 4 (some .int)) rX9_open 0 0 1 := cwV 1 ht (gx_gV gw_1003 gw_1004 gw_1005 gw_8 gw_1006) rfl rfl rfl hmLX9_open ⟨Nat.le_of_ble_eq_true rfl, Nat.le_of_ble_eq_true rfl⟩
theorem kL_131 {s : State} {args : Array Value} (ht : ∀ w ∈ gx_G, w.before args s = true) : vx_CSW room_1 s args RL 131 yL_setting cL_setting 4 (some .int) [(0, 9, 12, 13)] (Cond.codeWith yL_setting cL_setting 4 (some .int) [(0, 9, 12, 13)] :: gx_G) rL_setting 1 6 3 := vx_cwSW (ws' := gx_G) 3 ht (gx_cons gw_733 (gx_cons gw_734 (gx_cons gw_0 (gx_cons gw_735 gx_gg)))) rfl rfl rfl (by decide +kernel) ⟨Nat.le_of_ble_eq_true rfl, Nat.le_of_ble_eq_true rfl⟩
theorem hmLX9_setting : yX9_setting.cls = RX9 ∧ yX9_setting.cls ≠ "java/lang/invoke/MethodHandle" ∧ yX9_setting.cls ≠ "java/lang/invoke/VarHandle" ∧ (parseMethodDescriptor yX9_setting.desc).map (fun d => d.parameters.length) = some 1 := by decide +kernel
theorem kL_133 {s : State} {args : Array Value} (ht : ∀ w ∈ gx_G, w.before args s = true) : CallW room_1 s args RL RX9 133 yX9_setting cX9_setting 2 (some .int) (gws yX9_setting cX9_setting 2 (some .int)) rX9_setting 0 0 1 := cwV 1 ht (gx_gV gw_1007 gw_1008 gw_1009 gw_8 gw_1010) rfl rfl rfl hmLX9_setting ⟨Nat.le_of_ble_eq_true rfl, Nat.le_of_ble_eq_true rfl⟩
theorem kL_134 {s : State} {args : Array Value} (ht : ∀ w ∈ gx_G, w.before args s = true) : vx_CSW room_1 s args RL 134 yL_place cL_place 4 (some .int) [(0, 9, 12, 25)] (Cond.codeWith yL_place cL_place 4 (some .int) [(0, 9, 12, 25)] :: gx_G) rL_place 1 6 3 := vx_cwSW (ws' := gx_G) 3 ht (gx_cons gw_741 (gx_cons gw_742 (gx_cons gw_0 (gx_cons gw_743 gx_gg)))) rfl rfl rfl (by decide +kernel) ⟨Nat.le_of_ble_eq_true rfl, Nat.le_of_ble_eq_true rfl⟩
theorem hmLX9_place : yX9_place.cls = RX9 ∧ yX9_place.cls ≠ "java/lang/invoke/MethodHandle" ∧ yX9_place.cls ≠ "java/lang/invoke/VarHandle" ∧ (parseMethodDescriptor yX9_place.desc).map (fun d => d.parameters.length) = some 1 := by decide +kernel
theorem kL_136 {s : State} {args : Array Value} (ht : ∀ w ∈ gx_G, w.before args s = true) : CallW room_1 s args RL RX9 136 yX9_place cX9_place 2 (some .int) (gws yX9_place cX9_place 2 (some .int)) rX9_place 0 0 1 := cwV 1 ht (gx_gV gw_1016 gw_1017 gw_1018 gw_8 gw_1019) rfl rfl rfl hmLX9_place ⟨Nat.le_of_ble_eq_true rfl, Nat.le_of_ble_eq_true rfl⟩
theorem kL_137 {s : State} {args : Array Value} (ht : ∀ w ∈ gx_G, w.before args s = true) : vx_CSW room_1 s args RL 137 yL_display cL_display 4 (some .int) [(0, 9, 12, 13)] (Cond.codeWith yL_display cL_display 4 (some .int) [(0, 9, 12, 13)] :: gx_G) rL_display 1 6 3 := vx_cwSW (ws' := gx_G) 3 ht (gx_cons gw_749 (gx_cons gw_750 (gx_cons gw_0 (gx_cons gw_751 gx_gg)))) rfl rfl rfl (by decide +kernel) ⟨Nat.le_of_ble_eq_true rfl, Nat.le_of_ble_eq_true rfl⟩
theorem hmLX9_display : yX9_display.cls = RX9 ∧ yX9_display.cls ≠ "java/lang/invoke/MethodHandle" ∧ yX9_display.cls ≠ "java/lang/invoke/VarHandle" ∧ (parseMethodDescriptor yX9_display.desc).map (fun d => d.parameters.length) = some 1 := by decide +kernel
theorem kL_139 {s : State} {args : Array Value} (ht : ∀ w ∈ gx_G, w.before args s = true) : CallW room_1 s args RL RX9 139 yX9_display cX9_display 2 (some .int) (gws yX9_display cX9_display 2 (some .int)) rX9_display 0 0 1 := cwV 1 ht (gx_gV gw_1020 gw_1021 gw_1022 gw_8 gw_1023) rfl rfl rfl hmLX9_display ⟨Nat.le_of_ble_eq_true rfl, Nat.le_of_ble_eq_true rfl⟩
theorem kL_140 {s : State} {args : Array Value} (ht : ∀ w ∈ gx_G, w.before args s = true) : vx_CSW room_1 s args RL 140 yL_candidate cL_candidate 4 (some .int) [(0, 9, 12, 25)] (Cond.codeWith yL_candidate cL_candidate 4 (some .int) [(0, 9, 12, 25)] :: gx_G) rL_candidate 1 6 3 := vx_cwSW (ws' := gx_G) 3 ht (gx_cons gw_757 (gx_cons gw_758 (gx_cons gw_0 (gx_cons gw_759 gx_gg)))) rfl rfl rfl (by decide +kernel) ⟨Nat.le_of_ble_eq_true rfl, Nat.le_of_ble_eq_true rfl⟩
theorem hmLX9_candidate : yX9_candidate.cls = RX9 ∧ yX9_candidate.cls ≠ "java/lang/invoke/MethodHandle" ∧ yX9_candidate.cls ≠ "java/lang/invoke/VarHandle" ∧ (parseMethodDescriptor yX9_candidate.desc).map (fun d => d.parameters.length) = some 1 := by decide +kernel
theorem kL_142 {s : State} {args : Array Value} (ht : ∀ w ∈ gx_G, w.before args s = true) : CallW room_1 s args RL RX9 142 yX9_candidate cX9_candidate 2 (some .int) (gws yX9_candidate cX9_candidate 2 (some .int)) rX9_candidate 0 0 1 := cwV 1 ht (gx_gV gw_900 gw_901 gw_902 gw_8 gw_903) rfl rfl rfl hmLX9_candidate ⟨Nat.le_of_ble_eq_true rfl, Nat.le_of_ble_eq_true rfl⟩
theorem kL_143 {s : State} {args : Array Value} (ht : ∀ w ∈ gx_G, w.before args s = true) : vx_CSW room_1 s args RL 143 yL_written cL_written 5 (some .int) [(0, 10, 13, 25)] (Cond.codeWith yL_written cL_written 5 (some .int) [(0, 10, 13, 25)] :: gx_G) rL_written 1 6 4 := vx_cwSW (ws' := gx_G) 4 ht (gx_cons gw_765 (gx_cons gw_766 (gx_cons gw_0 (gx_cons gw_767 gx_gg)))) rfl rfl rfl (by decide +kernel) ⟨Nat.le_of_ble_eq_true rfl, Nat.le_of_ble_eq_true rfl⟩
theorem hmLX9_written : yX9_written.cls = RX9 ∧ yX9_written.cls ≠ "java/lang/invoke/MethodHandle" ∧ yX9_written.cls ≠ "java/lang/invoke/VarHandle" ∧ (parseMethodDescriptor yX9_written.desc).map (fun d => d.parameters.length) = some 2 := by decide +kernel
theorem kL_145 {s : State} {args : Array Value} (ht : ∀ w ∈ gx_G, w.before args s = true) : CallW room_1 s args RL RX9 145 yX9_written cX9_written 5 (some .int) (gws yX9_written cX9_written 5 (some .int)) rX9_written 0 0 2 := cwV 2 ht (gx_gV gw_1024 gw_1025 gw_1026 gw_8 gw_1027) rfl rfl rfl hmLX9_written ⟨Nat.le_of_ble_eq_true rfl, Nat.le_of_ble_eq_true rfl⟩
theorem kL_146 {s : State} {args : Array Value} (ht : ∀ w ∈ gx_G, w.before args s = true) : vx_CSW room_1 s args RL 146 yL_steps cL_steps 4 (some .int) [(0, 9, 12, 25)] (Cond.codeWith yL_steps cL_steps 4 (some .int) [(0, 9, 12, 25)] :: gx_G) rL_steps 1 6 3 := vx_cwSW (ws' := gx_G) 3 ht (gx_cons gw_772 (gx_cons gw_773 (gx_cons gw_0 (gx_cons gw_774 gx_gg)))) rfl rfl rfl (by decide +kernel) ⟨Nat.le_of_ble_eq_true rfl, Nat.le_of_ble_eq_true rfl⟩
theorem hmLX9_steps : yX9_steps.cls = RX9 ∧ yX9_steps.cls ≠ "java/lang/invoke/MethodHandle" ∧ yX9_steps.cls ≠ "java/lang/invoke/VarHandle" ∧ (parseMethodDescriptor yX9_steps.desc).map (fun d => d.parameters.length) = some 1 := by decide +kernel
theorem kL_148 {s : State} {args : Array Value} (ht : ∀ w ∈ gx_G, w.before args s = true) : CallW room_1 s args RL RX9 148 yX9_steps cX9_steps 2 (some .int) (gws yX9_steps cX9_steps 2 (some .int)) rX9_steps 0 0 1 := cwV 1 ht (gx_gV gw_1029 gw_1030 gw_1031 gw_8 gw_1032) rfl rfl rfl hmLX9_steps ⟨Nat.le_of_ble_eq_true rfl, Nat.le_of_ble_eq_true rfl⟩
theorem kL_149 {s : State} {args : Array Value} (ht : ∀ w ∈ gx_G, w.before args s = true) : vx_CSW room_1 s args RL 149 yL_presses cL_presses 5 (some .int) [(0, 10, 13, 25)] (Cond.codeWith yL_presses cL_presses 5 (some .int) [(0, 10, 13, 25)] :: gx_G) rL_presses 1 6 4 := vx_cwSW (ws' := gx_G) 4 ht (gx_cons gw_779 (gx_cons gw_780 (gx_cons gw_0 (gx_cons gw_781 gx_gg)))) rfl rfl rfl (by decide +kernel) ⟨Nat.le_of_ble_eq_true rfl, Nat.le_of_ble_eq_true rfl⟩
theorem hmLX9_presses : yX9_presses.cls = RX9 ∧ yX9_presses.cls ≠ "java/lang/invoke/MethodHandle" ∧ yX9_presses.cls ≠ "java/lang/invoke/VarHandle" ∧ (parseMethodDescriptor yX9_presses.desc).map (fun d => d.parameters.length) = some 2 := by decide +kernel
theorem kL_152 {s : State} {args : Array Value} (ht : ∀ w ∈ gx_G, w.before args s = true) : CallW room_1 s args RL RX9 152 yX9_presses cX9_presses 3 (some .int) (gws yX9_presses cX9_presses 3 (some .int)) rX9_presses 0 0 2 := cwV 2 ht (gx_gV gw_1041 gw_1042 gw_1043 gw_8 gw_1044) rfl rfl rfl hmLX9_presses ⟨Nat.le_of_ble_eq_true rfl, Nat.le_of_ble_eq_true rfl⟩
theorem hmLX8_clashing : yX8_clashing.cls = RX8 ∧ yX8_clashing.cls ≠ "java/lang/invoke/MethodHandle" ∧ yX8_clashing.cls ≠ "java/lang/invoke/VarHandle" ∧ (parseMethodDescriptor yX8_clashing.desc).map (fun d => d.parameters.length) = some 0 := by decide +kernel
theorem kL_153 {s : State} {args : Array Value} (ht : ∀ w ∈ gx_G, w.before args s = true) : CallW room_1 s args RL RX8 153 yX8_clashing cX8_clashing 1 (some .int) (gws yX8_clashing cX8_clashing 1 (some .int)) rX8_clashing 0 0 0 := cwV 0 ht (gx_gV gw_381 gw_382 gw_383 gw_1 gw_384) rfl rfl rfl hmLX8_clashing ⟨Nat.le_of_ble_eq_true rfl, Nat.le_of_ble_eq_true rfl⟩
theorem hmLX9_clashing : yX9_clashing.cls = RX9 ∧ yX9_clashing.cls ≠ "java/lang/invoke/MethodHandle" ∧ yX9_clashing.cls ≠ "java/lang/invoke/VarHandle" ∧ (parseMethodDescriptor yX9_clashing.desc).map (fun d => d.parameters.length) = some 0 := by decide +kernel
theorem kL_156 {s : State} {args : Array Value} (ht : ∀ w ∈ gx_G, w.before args s = true) : CallW room_1 s args RL RX9 156 yX9_clashing cX9_clashing 5 (some .int) (gws yX9_clashing cX9_clashing 5 (some .int)) rX9_clashing 0 0 0 := cwV 0 ht (gx_gV gw_1049 gw_1050 gw_1051 gw_8 gw_1052) rfl rfl rfl hmLX9_clashing ⟨Nat.le_of_ble_eq_true rfl, Nat.le_of_ble_eq_true rfl⟩
theorem hmLX8_saving : yX8_saving.cls = RX8 ∧ yX8_saving.cls ≠ "java/lang/invoke/MethodHandle" ∧ yX8_saving.cls ≠ "java/lang/invoke/VarHandle" ∧ (parseMethodDescriptor yX8_saving.desc).map (fun d => d.parameters.length) = some 0 := by decide +kernel
theorem kL_157 {s : State} {args : Array Value} (ht : ∀ w ∈ gx_G, w.before args s = true) : CallW room_1 s args RL RX8 157 yX8_saving cX8_saving 1 (some .double) (gws yX8_saving cX8_saving 1 (some .double)) rX8_saving 0 0 0 := cwV 0 ht (gx_gV gw_393 gw_394 gw_395 gw_1 gw_396) rfl rfl rfl hmLX8_saving ⟨Nat.le_of_ble_eq_true rfl, Nat.le_of_ble_eq_true rfl⟩
theorem hmLX9_saving : yX9_saving.cls = RX9 ∧ yX9_saving.cls ≠ "java/lang/invoke/MethodHandle" ∧ yX9_saving.cls ≠ "java/lang/invoke/VarHandle" ∧ (parseMethodDescriptor yX9_saving.desc).map (fun d => d.parameters.length) = some 0 := by decide +kernel
theorem kL_161 {s : State} {args : Array Value} (ht : ∀ w ∈ gx_G, w.before args s = true) : CallW room_1 s args RL RX9 161 yX9_saving cX9_saving 5 (some .double) (gws yX9_saving cX9_saving 5 (some .double)) rX9_saving 0 0 0 := cwV 0 ht (gx_gV gw_1053 gw_1054 gw_1055 gw_8 gw_1056) rfl rfl rfl hmLX9_saving ⟨Nat.le_of_ble_eq_true rfl, Nat.le_of_ble_eq_true rfl⟩
theorem kL_162 {s : State} {args : Array Value} (ht : ∀ w ∈ gx_G, w.before args s = true) : vx_CSW room_1 s args RL 162 yL_shortest cL_shortest 4 (some .int) [(0, 9, 12, 25)] (Cond.codeWith yL_shortest cL_shortest 4 (some .int) [(0, 9, 12, 25)] :: gx_G) rL_shortest 1 6 3 := vx_cwSW (ws' := gx_G) 3 ht (gx_cons gw_788 (gx_cons gw_789 (gx_cons gw_0 (gx_cons gw_790 gx_gg)))) rfl rfl rfl (by decide +kernel) ⟨Nat.le_of_ble_eq_true rfl, Nat.le_of_ble_eq_true rfl⟩
theorem hmLX9_shortest : yX9_shortest.cls = RX9 ∧ yX9_shortest.cls ≠ "java/lang/invoke/MethodHandle" ∧ yX9_shortest.cls ≠ "java/lang/invoke/VarHandle" ∧ (parseMethodDescriptor yX9_shortest.desc).map (fun d => d.parameters.length) = some 1 := by decide +kernel
theorem kL_164 {s : State} {args : Array Value} (ht : ∀ w ∈ gx_G, w.before args s = true) : CallW room_1 s args RL RX9 164 yX9_shortest cX9_shortest 3 (some .int) (gws yX9_shortest cX9_shortest 3 (some .int)) rX9_shortest 0 0 1 := cwV 1 ht (gx_gV gw_1057 gw_1058 gw_1059 gw_8 gw_1060) rfl rfl rfl hmLX9_shortest ⟨Nat.le_of_ble_eq_true rfl, Nat.le_of_ble_eq_true rfl⟩
theorem kL_165 {s : State} {args : Array Value} (ht : ∀ w ∈ gx_G, w.before args s = true) : vx_CSW room_1 s args RL 165 yL_undo cL_undo 3 (some .int) [(0, 8, 11, 15)] (Cond.codeWith yL_undo cL_undo 3 (some .int) [(0, 8, 11, 15)] :: gx_G) rL_undo 1 6 2 := vx_cwSW (ws' := gx_G) 2 ht (gx_cons gw_800 (gx_cons gw_801 (gx_cons gw_0 (gx_cons gw_802 gx_gg)))) rfl rfl rfl (by decide +kernel) ⟨Nat.le_of_ble_eq_true rfl, Nat.le_of_ble_eq_true rfl⟩
theorem hmLX9_undo : yX9_undo.cls = RX9 ∧ yX9_undo.cls ≠ "java/lang/invoke/MethodHandle" ∧ yX9_undo.cls ≠ "java/lang/invoke/VarHandle" ∧ (parseMethodDescriptor yX9_undo.desc).map (fun d => d.parameters.length) = some 0 := by decide +kernel
theorem kL_167 {s : State} {args : Array Value} (ht : ∀ w ∈ gx_G, w.before args s = true) : CallW room_1 s args RL RX9 167 yX9_undo cX9_undo 2 (some .int) (gws yX9_undo cX9_undo 2 (some .int)) rX9_undo 0 0 0 := cwV 0 ht (gx_gV gw_1106 gw_1107 gw_1108 gw_8 gw_1109) rfl rfl rfl hmLX9_undo ⟨Nat.le_of_ble_eq_true rfl, Nat.le_of_ble_eq_true rfl⟩
theorem hmLX8_digest : yX8_digest.cls = RX8 ∧ yX8_digest.cls ≠ "java/lang/invoke/MethodHandle" ∧ yX8_digest.cls ≠ "java/lang/invoke/VarHandle" ∧ (parseMethodDescriptor yX8_digest.desc).map (fun d => d.parameters.length) = some 0 := by decide +kernel
theorem kL_168 {s : State} {args : Array Value} (ht : ∀ w ∈ gx_G, w.before args s = true) : CallW room_1 s args RL RX8 168 yX8_digest cX8_digest 7 (some .long) (gws yX8_digest cX8_digest 7 (some .long)) rX8_digest 0 0 0 := cwV 0 ht (gx_gV gw_425 gw_426 gw_427 gw_1 gw_428) rfl rfl rfl hmLX8_digest ⟨Nat.le_of_ble_eq_true rfl, Nat.le_of_ble_eq_true rfl⟩
theorem hmLX9_digest : yX9_digest.cls = RX9 ∧ yX9_digest.cls ≠ "java/lang/invoke/MethodHandle" ∧ yX9_digest.cls ≠ "java/lang/invoke/VarHandle" ∧ (parseMethodDescriptor yX9_digest.desc).map (fun d => d.parameters.length) = some 0 := by decide +kernel
theorem kL_172 {s : State} {args : Array Value} (ht : ∀ w ∈ gx_G, w.before args s = true) : CallW room_1 s args RL RX9 172 yX9_digest cX9_digest 6 (some .long) (gws yX9_digest cX9_digest 6 (some .long)) rX9_digest 0 0 0 := cwV 0 ht (gx_gV gw_1110 gw_1111 gw_1112 gw_8 gw_1113) rfl rfl rfl hmLX9_digest ⟨Nat.le_of_ble_eq_true rfl, Nat.le_of_ble_eq_true rfl⟩
section LAWC
variable {p : Program} {l : Launch} {e : Env} {s : State} {m : MethodId} {args : Array Value} {below : List Frame} {meth : Method} {c : Code} {H : Heap} {locs : List Loc} {cells slots : Nat} {Q : State → Prop}
variable {ls : Array Slot} {E : gEnv} {h hm ho : Nat → Nat} {x : T8} {m9 : T9} {ou : Nat → Int64} {b L : Nat} {xs : Nat → Int32} {i a1 a2 : Int32} {o : T8 × T9 × (Nat → Int64)}
theorem law_0 (hst : l.stackTraces = false) (F : gF p m c cL_law 9 s args RL) (hK : gK E s) (hNc : gNc s) (hX : gX E s s.heap) (hAB : ∀ q, Alw s q → gB E q) (hSc : va_X b L xs s s.heap) (hbl : b < s.heap.size) (hi1 : vp_in (i + 1) L) (hi2 : vp_in (i + 2) L) (ha1 : xs (i + 1).toNatClampNeg = a1) (ha2 : xs (i + 2).toNatClampNeg = a2) (hl : lv_has ls 9 [(4, .int i), (3, .ref (ho 0)), (2, .ref (hm 0)), (1, .ref (h 0)), (0, .ref b)]) (hc : cells + 1 ≤ room_1.cells ∧ slots + 6 ≤ room_1.slots) (hG : gS E (Alw s) s.heap (WL E h hm ho x m9 ou) H locs) (hf : stw (f_L_append x a1 ou) (f_X9_append m9 a1) = some o) (kk : ∀ (H1 : Heap) (locs1 : List Loc) (ls1 : Array Slot), lv_has ls1 9 [(4, .int i), (3, .ref (ho 0)), (2, .ref (hm 0)), (1, .ref (h 0)), (0, .ref b)] → gS E (Alw s) s.heap (WL E h hm ho o.1 o.2.1 o.2.2) H1 locs1 → W p l e room_1 s m args below meth c H1 locs1 (cells + 1) (slots + 6) Q (F0 m 1352 ls1 [])) : W p l e room_1 s m args below meth c H locs cells slots Q (F0 m 152 ls []) := by
  have hbA : ¬ Alw s b := Nat.not_le.mpr hbl
  have hx := F.1
  have hb := F.2.1
  unfold stw at hf
  obtain ⟨r, hr, hf⟩ := g_bnd hf
  obtain ⟨q, hq, hf⟩ := g_bnd hf
  obtain ⟨t, ht, hf⟩ := g_bnd hf
  refine lv_aload_n hx hb dL_law_152 rfl (lv_at hl 3 rfl) ?_
  refine law_arg (i := i) (k := 1) (a := a1) hx hb hSc hbl hbA hG.2.2 (by decide) (lv_at hl 4 rfl) (lv_at hl 0 rfl) hi1 ha1 dL_law_153 dL_law_154 dL_law_156 dL_law_157 dL_law_158 ?_
  refine lv_aload_n hx hb dL_law_159 rfl (lv_at hl 1 rfl) ?_
  refine g_callL (As := [.ref (h 0), .int a1, .ref (ho 0)]) (rest := []) (S' := [C8 E h 0, C2 E h (0+1) r.2.1.1, C6 E h (0+3) r.2.1.2.1, C5 E h (0+9) r.2.1.2.2.1.2.2, C6 E h ((0+9)+1) r.2.1.2.2.1.1, C7 E h ((0+9)+7) r.2.1.2.2.1.2.1, C3 E h (0+18) r.2.1.2.2.2.1, C0 E h (0+20) r.2.1.2.2.2.2, C9 E hm 0 m9, CO E ho 0 r.2.2]) F hK hNc hX hAB hG [0, 1, 2, 3, 4, 5, 6, 7, 9] rfl rfl (c_L_append hst h 0 x a1 ho 0 ou hr) rfl (kL_78 F.2.2.2.2) rfl hl.1 rfl (lv_room (Nat.le_of_ble_eq_true rfl)) hc dL_law_160 (fun H locs hG => ?_)
  refine lv_istore (lv' := [(5, .int r.1), (4, .int i), (3, .ref (ho 0)), (2, .ref (hm 0)), (1, .ref (h 0)), (0, .ref b)]) hx hb dL_law_163 hl (by decide) rfl (fun ls hl => ?_)
  refine lv_aload_n hx hb dL_law_165 rfl (lv_at hl 3 rfl) ?_
  refine law_arg (i := i) (k := 1) (a := a1) hx hb hSc hbl hbA hG.2.2 (by decide) (lv_at hl 5 rfl) (lv_at hl 1 rfl) hi1 ha1 dL_law_166 dL_law_167 dL_law_169 dL_law_170 dL_law_171 ?_
  refine g_mv (S' := [C8 E h 0, C2 E h (0+1) r.2.1.1, C6 E h (0+3) r.2.1.2.1, C5 E h (0+9) r.2.1.2.2.1.2.2, C6 E h ((0+9)+1) r.2.1.2.2.1.1, C7 E h ((0+9)+7) r.2.1.2.2.1.2.1, C3 E h (0+18) r.2.1.2.2.2.1, C0 E h (0+20) r.2.1.2.2.2.2, C9 E hm 0 q.2, CO E ho 0 r.2.2]) (As := [.int a1]) (rest := []) F hK hX hAB hG [8] rfl rfl (c_X9_append hm 0 m9 a1 hq) rfl (kL_83 F.2.2.2.2) rfl rfl rfl rfl hl.1 rfl (lv_room (Nat.le_of_ble_eq_true rfl)) hc dL_law_172 (fun H locs hG => ?_)
  refine lv_istore (lv' := [(6, .int q.1), (5, .int r.1), (4, .int i), (3, .ref (ho 0)), (2, .ref (hm 0)), (1, .ref (h 0)), (0, .ref b)]) hx hb dL_law_175 hl (by decide) rfl (fun ls hl => ?_)
  refine lv_aload_n hx hb dL_law_177 rfl (lv_at hl 4 rfl) ?_
  refine g_rv (As := []) (rest := []) F hK (hG.X hX hAB) hG.1 [8] rfl (c_X9_thrown hm 0 q.2 ht) (kL_84 F.2.2.2.2) rfl rfl rfl rfl hl.1 rfl (lv_room (Nat.le_of_ble_eq_true rfl)) hc dL_law_178 ?_
  refine lv_iload hx hb dL_law_181 (lv_at hl 1 rfl) ?_
  refine lv_icmp_eq (tgt := 188) hx hb dL_law_183 (by decide) (fun c1 => ?_) (fun c1 => ?_)
  · rw [if_pos c1] at hf
    refine lv_iload hx hb dL_law_188 (lv_at hl 1 rfl) ?_
    refine lv_if_ne (tgt := 205) hx hb dL_law_190 (by decide) (fun c2 => ?_) (fun c2 => ?_)
    · rw [if_neg c2] at hf
      cases hf
      refine lv_goto (tgt := 1352) hx hb dL_law_205 (by decide) ?_
      exact kk _ _ _ (lv_sub hl [2, 3, 4, 5, 6] rfl) hG
    · rw [if_pos c2] at hf
      refine lv_aload_n hx hb dL_law_193 rfl (lv_at hl 3 rfl) ?_
      refine lv_iconst (v := 0) hx hb dL_law_194 (by decide) ?_
      refine g_lald F hK hG.1 9 0 rfl rfl (x := r.2.2 0) rfl dL_law_195 ?_
      refine lv_iload hx hb dL_law_196 (lv_at hl 0 rfl) ?_
      refine lv_i2l hx hb dL_law_198 rfl ?_
      refine g_lc_eq (tgt := 205) hx hb dL_law_199 dL_law_200 (by decide) (fun c3 => ?_) (fun c3 => ?_)
      · rw [if_pos c3] at hf
        cases hf
        refine lv_goto (tgt := 1352) hx hb dL_law_205 (by decide) ?_
        exact kk _ _ _ (lv_sub hl [2, 3, 4, 5, 6] rfl) hG
      · rw [if_neg c3] at hf
        cases hf
  · rw [if_neg c1] at hf
    cases hf
theorem law_1 (hst : l.stackTraces = false) (F : gF p m c cL_law 9 s args RL) (hK : gK E s) (hNc : gNc s) (hX : gX E s s.heap) (hAB : ∀ q, Alw s q → gB E q) (hSc : va_X b L xs s s.heap) (hbl : b < s.heap.size) (hi1 : vp_in (i + 1) L) (hi2 : vp_in (i + 2) L) (ha1 : xs (i + 1).toNatClampNeg = a1) (ha2 : xs (i + 2).toNatClampNeg = a2) (hl : lv_has ls 9 [(4, .int i), (3, .ref (ho 0)), (2, .ref (hm 0)), (1, .ref (h 0)), (0, .ref b)]) (hc : cells + 1 ≤ room_1.cells ∧ slots + 6 ≤ room_1.slots) (hG : gS E (Alw s) s.heap (WL E h hm ho x m9 ou) H locs) (hf : Option.bind (f_X8_clearText x) (fun r => Option.bind (f_X9_clearText m9) (fun q => if r.1 = q.1 then some ((r.2, x.2.1, (x.2.2.1.1, x.2.2.1.2.1, x.2.2.1.2.2), x.2.2.2.1, x.2.2.2.2), q.2, ou) else none)) = some o) (kk : ∀ (H1 : Heap) (locs1 : List Loc) (ls1 : Array Slot), lv_has ls1 9 [(4, .int i), (3, .ref (ho 0)), (2, .ref (hm 0)), (1, .ref (h 0)), (0, .ref b)] → gS E (Alw s) s.heap (WL E h hm ho o.1 o.2.1 o.2.2) H1 locs1 → W p l e room_1 s m args below meth c H1 locs1 (cells + 1) (slots + 6) Q (F0 m 1352 ls1 [])) : W p l e room_1 s m args below meth c H locs cells slots Q (F0 m 208 ls []) := by
  have hbA : ¬ Alw s b := Nat.not_le.mpr hbl
  have hx := F.1
  have hb := F.2.1
  obtain ⟨r, hr, hf⟩ := g_bnd hf
  obtain ⟨q, hq, hf⟩ := g_bnd hf
  refine lv_aload_n hx hb dL_law_208 rfl (lv_at hl 3 rfl) ?_
  refine g_mv (S' := [C8 E h 0, C2 E h (0+1) r.2, C6 E h (0+3) x.2.1, C5 E h (0+9) x.2.2.1.2.2, C6 E h ((0+9)+1) x.2.2.1.1, C7 E h ((0+9)+7) x.2.2.1.2.1, C3 E h (0+18) x.2.2.2.1, C0 E h (0+20) x.2.2.2.2, C9 E hm 0 m9, CO E ho 0 ou]) (As := []) (rest := []) F hK hX hAB hG [0, 1, 2, 3, 4, 5, 6, 7] rfl rfl (c_X8_clearText h 0 x hr) rfl (kL_87 F.2.2.2.2) rfl rfl rfl rfl hl.1 rfl (lv_room (Nat.le_of_ble_eq_true rfl)) ⟨Nat.le_trans (Nat.le_succ _) hc.1, Nat.le_trans (Nat.le_add_right _ 6) hc.2⟩ dL_law_209 (fun H locs hG => ?_)
  refine lv_aload_n hx hb dL_law_212 rfl (lv_at hl 2 rfl) ?_
  refine g_mv (S' := [C8 E h 0, C2 E h (0+1) r.2, C6 E h (0+3) x.2.1, C5 E h (0+9) x.2.2.1.2.2, C6 E h ((0+9)+1) x.2.2.1.1, C7 E h ((0+9)+7) x.2.2.1.2.1, C3 E h (0+18) x.2.2.2.1, C0 E h (0+20) x.2.2.2.2, C9 E hm 0 q.2, CO E ho 0 ou]) (As := []) (rest := [.int r.1]) F hK hX hAB hG [8] rfl rfl (c_X9_clearText hm 0 m9 hq) rfl (kL_90 F.2.2.2.2) rfl rfl rfl rfl hl.1 rfl (lv_room (Nat.le_of_ble_eq_true rfl)) ⟨Nat.le_trans (Nat.le_succ _) hc.1, Nat.le_trans (Nat.le_add_right _ 6) hc.2⟩ dL_law_213 (fun H locs hG => ?_)
  refine lv_icmp_eq (tgt := 1352) hx hb dL_law_216 (by decide) (fun c1 => ?_) (fun c1 => ?_)
  · rw [if_pos c1] at hf
    cases hf
    refine W.widen (Nat.le_add_right cells 1) (Nat.le_add_right slots 6) ?_
    exact kk _ _ _ (lv_sub hl [0, 1, 2, 3, 4] rfl) hG
  · rw [if_neg c1] at hf
    cases hf
theorem law_2 (hst : l.stackTraces = false) (F : gF p m c cL_law 9 s args RL) (hK : gK E s) (hNc : gNc s) (hX : gX E s s.heap) (hAB : ∀ q, Alw s q → gB E q) (hSc : va_X b L xs s s.heap) (hbl : b < s.heap.size) (hi1 : vp_in (i + 1) L) (hi2 : vp_in (i + 2) L) (ha1 : xs (i + 1).toNatClampNeg = a1) (ha2 : xs (i + 2).toNatClampNeg = a2) (hl : lv_has ls 9 [(4, .int i), (3, .ref (ho 0)), (2, .ref (hm 0)), (1, .ref (h 0)), (0, .ref b)]) (hc : cells + 1 ≤ room_1.cells ∧ slots + 6 ≤ room_1.slots) (hG : gS E (Alw s) s.heap (WL E h hm ho x m9 ou) H locs) (hf : Option.bind (f_X8_load x) (fun r => Option.bind (f_X9_load m9) (fun q => if r.1 = q.1 then some ((r.2.1, r.2.2.1, (r.2.2.2.2.1, x.2.2.1.2.1, r.2.2.2.1), r.2.2.2.2.2, x.2.2.2.2), q.2, ou) else none)) = some o) (kk : ∀ (H1 : Heap) (locs1 : List Loc) (ls1 : Array Slot), lv_has ls1 9 [(4, .int i), (3, .ref (ho 0)), (2, .ref (hm 0)), (1, .ref (h 0)), (0, .ref b)] → gS E (Alw s) s.heap (WL E h hm ho o.1 o.2.1 o.2.2) H1 locs1 → W p l e room_1 s m args below meth c H1 locs1 (cells + 1) (slots + 6) Q (F0 m 1352 ls1 [])) : W p l e room_1 s m args below meth c H locs cells slots Q (F0 m 221 ls []) := by
  have hbA : ¬ Alw s b := Nat.not_le.mpr hbl
  have hx := F.1
  have hb := F.2.1
  obtain ⟨r, hr, hf⟩ := g_bnd hf
  obtain ⟨q, hq, hf⟩ := g_bnd hf
  refine lv_aload_n hx hb dL_law_221 rfl (lv_at hl 3 rfl) ?_
  refine g_mv (S' := [C8 E h 0, C2 E h (0+1) r.2.1, C6 E h (0+3) r.2.2.1, C5 E h (0+9) r.2.2.2.1, C6 E h ((0+9)+1) r.2.2.2.2.1, C7 E h ((0+9)+7) x.2.2.1.2.1, C3 E h (0+18) r.2.2.2.2.2, C0 E h (0+20) x.2.2.2.2, C9 E hm 0 m9, CO E ho 0 ou]) (As := []) (rest := []) F hK hX hAB hG [0, 1, 2, 3, 4, 5, 6, 7] rfl rfl (c_X8_load h 0 x hr) rfl (kL_91 F.2.2.2.2) rfl rfl rfl rfl hl.1 rfl (lv_room (Nat.le_of_ble_eq_true rfl)) ⟨Nat.le_trans (Nat.le_succ _) hc.1, Nat.le_trans (Nat.le_add_right _ 6) hc.2⟩ dL_law_222 (fun H locs hG => ?_)
  refine lv_aload_n hx hb dL_law_225 rfl (lv_at hl 2 rfl) ?_
  refine g_mv (S' := [C8 E h 0, C2 E h (0+1) r.2.1, C6 E h (0+3) r.2.2.1, C5 E h (0+9) r.2.2.2.1, C6 E h ((0+9)+1) r.2.2.2.2.1, C7 E h ((0+9)+7) x.2.2.1.2.1, C3 E h (0+18) r.2.2.2.2.2, C0 E h (0+20) x.2.2.2.2, C9 E hm 0 q.2, CO E ho 0 ou]) (As := []) (rest := [.int r.1]) F hK hX hAB hG [8] rfl rfl (c_X9_load hm 0 m9 hq) rfl (kL_94 F.2.2.2.2) rfl rfl rfl rfl hl.1 rfl (lv_room (Nat.le_of_ble_eq_true rfl)) ⟨Nat.le_trans (Nat.le_succ _) hc.1, Nat.le_trans (Nat.le_add_right _ 6) hc.2⟩ dL_law_226 (fun H locs hG => ?_)
  refine lv_icmp_eq (tgt := 1352) hx hb dL_law_229 (by decide) (fun c1 => ?_) (fun c1 => ?_)
  · rw [if_pos c1] at hf
    cases hf
    refine W.widen (Nat.le_add_right cells 1) (Nat.le_add_right slots 6) ?_
    exact kk _ _ _ (lv_sub hl [0, 1, 2, 3, 4] rfl) hG
  · rw [if_neg c1] at hf
    cases hf
theorem law_3 (hst : l.stackTraces = false) (F : gF p m c cL_law 9 s args RL) (hK : gK E s) (hNc : gNc s) (hX : gX E s s.heap) (hAB : ∀ q, Alw s q → gB E q) (hSc : va_X b L xs s s.heap) (hbl : b < s.heap.size) (hi1 : vp_in (i + 1) L) (hi2 : vp_in (i + 2) L) (ha1 : xs (i + 1).toNatClampNeg = a1) (ha2 : xs (i + 2).toNatClampNeg = a2) (hl : lv_has ls 9 [(4, .int i), (3, .ref (ho 0)), (2, .ref (hm 0)), (1, .ref (h 0)), (0, .ref b)]) (hc : cells + 1 ≤ room_1.cells ∧ slots + 6 ≤ room_1.slots) (hG : gS E (Alw s) s.heap (WL E h hm ho x m9 ou) H locs) (hf : stw (f_L_setWays x (nzB a1) a2 ou) (f_X9_setWays m9 (nzB a1) a2) = some o) (kk : ∀ (H1 : Heap) (locs1 : List Loc) (ls1 : Array Slot), lv_has ls1 9 [(4, .int i), (3, .ref (ho 0)), (2, .ref (hm 0)), (1, .ref (h 0)), (0, .ref b)] → gS E (Alw s) s.heap (WL E h hm ho o.1 o.2.1 o.2.2) H1 locs1 → W p l e room_1 s m args below meth c H1 locs1 (cells + 1) (slots + 6) Q (F0 m 1352 ls1 [])) : W p l e room_1 s m args below meth c H locs cells slots Q (F0 m 234 ls []) := by
  have hbA : ¬ Alw s b := Nat.not_le.mpr hbl
  have hx := F.1
  have hb := F.2.1
  unfold stw at hf
  obtain ⟨r, hr, hf⟩ := g_bnd hf
  obtain ⟨q, hq, hf⟩ := g_bnd hf
  obtain ⟨t, ht, hf⟩ := g_bnd hf
  refine lv_aload_n hx hb dL_law_234 rfl (lv_at hl 3 rfl) ?_
  refine law_arg (i := i) (k := 1) (a := a1) hx hb hSc hbl hbA hG.2.2 (by decide) (lv_at hl 4 rfl) (lv_at hl 0 rfl) hi1 ha1 dL_law_235 dL_law_236 dL_law_238 dL_law_239 dL_law_240 ?_
  refine law_nz hx hb dL_law_241 dL_law_244 dL_law_245 dL_law_248 ?_
  refine law_arg (i := i) (k := 2) (a := a2) hx hb hSc hbl hbA hG.2.2 (by decide) (lv_at hl 4 rfl) (lv_at hl 0 rfl) hi2 ha2 dL_law_249 dL_law_250 dL_law_252 dL_law_253 dL_law_254 ?_
  refine lv_aload_n hx hb dL_law_255 rfl (lv_at hl 1 rfl) ?_
  refine g_callL (As := [.ref (h 0), .int (nzB a1), .int a2, .ref (ho 0)]) (rest := []) (S' := [C8 E h 0, C2 E h (0+1) r.2.1.1, C6 E h (0+3) r.2.1.2.1, C5 E h (0+9) r.2.1.2.2.1.2.2, C6 E h ((0+9)+1) r.2.1.2.2.1.1, C7 E h ((0+9)+7) r.2.1.2.2.1.2.1, C3 E h (0+18) r.2.1.2.2.2.1, C0 E h (0+20) r.2.1.2.2.2.2, C9 E hm 0 m9, CO E ho 0 r.2.2]) F hK hNc hX hAB hG [0, 1, 2, 3, 4, 5, 6, 7, 9] rfl rfl (c_L_setWays hst h 0 x (nzB a1) a2 ho 0 ou hr) rfl (kL_95 F.2.2.2.2) rfl hl.1 rfl (lv_room (Nat.le_of_ble_eq_true rfl)) hc dL_law_256 (fun H locs hG => ?_)
  refine lv_istore (lv' := [(5, .int r.1), (4, .int i), (3, .ref (ho 0)), (2, .ref (hm 0)), (1, .ref (h 0)), (0, .ref b)]) hx hb dL_law_259 hl (by decide) rfl (fun ls hl => ?_)
  refine lv_aload_n hx hb dL_law_261 rfl (lv_at hl 3 rfl) ?_
  refine law_arg (i := i) (k := 1) (a := a1) hx hb hSc hbl hbA hG.2.2 (by decide) (lv_at hl 5 rfl) (lv_at hl 1 rfl) hi1 ha1 dL_law_262 dL_law_263 dL_law_265 dL_law_266 dL_law_267 ?_
  refine law_nz hx hb dL_law_268 dL_law_271 dL_law_272 dL_law_275 ?_
  refine law_arg (i := i) (k := 2) (a := a2) hx hb hSc hbl hbA hG.2.2 (by decide) (lv_at hl 5 rfl) (lv_at hl 1 rfl) hi2 ha2 dL_law_276 dL_law_277 dL_law_279 dL_law_280 dL_law_281 ?_
  refine g_mv (S' := [C8 E h 0, C2 E h (0+1) r.2.1.1, C6 E h (0+3) r.2.1.2.1, C5 E h (0+9) r.2.1.2.2.1.2.2, C6 E h ((0+9)+1) r.2.1.2.2.1.1, C7 E h ((0+9)+7) r.2.1.2.2.1.2.1, C3 E h (0+18) r.2.1.2.2.2.1, C0 E h (0+20) r.2.1.2.2.2.2, C9 E hm 0 q.2, CO E ho 0 r.2.2]) (As := [.int (nzB a1), .int a2]) (rest := []) F hK hX hAB hG [8] rfl rfl (c_X9_setWays hm 0 m9 (nzB a1) a2 hq) rfl (kL_98 F.2.2.2.2) rfl rfl rfl rfl hl.1 rfl (lv_room (Nat.le_of_ble_eq_true rfl)) hc dL_law_282 (fun H locs hG => ?_)
  refine lv_istore (lv' := [(6, .int q.1), (5, .int r.1), (4, .int i), (3, .ref (ho 0)), (2, .ref (hm 0)), (1, .ref (h 0)), (0, .ref b)]) hx hb dL_law_285 hl (by decide) rfl (fun ls hl => ?_)
  refine lv_aload_n hx hb dL_law_287 rfl (lv_at hl 4 rfl) ?_
  refine g_rv (As := []) (rest := []) F hK (hG.X hX hAB) hG.1 [8] rfl (c_X9_thrown hm 0 q.2 ht) (kL_84 F.2.2.2.2) rfl rfl rfl rfl hl.1 rfl (lv_room (Nat.le_of_ble_eq_true rfl)) hc dL_law_288 ?_
  refine lv_iload hx hb dL_law_291 (lv_at hl 1 rfl) ?_
  refine lv_icmp_eq (tgt := 298) hx hb dL_law_293 (by decide) (fun c1 => ?_) (fun c1 => ?_)
  · rw [if_pos c1] at hf
    refine lv_iload hx hb dL_law_298 (lv_at hl 1 rfl) ?_
    refine lv_if_ne (tgt := 315) hx hb dL_law_300 (by decide) (fun c2 => ?_) (fun c2 => ?_)
    · rw [if_neg c2] at hf
      cases hf
      refine lv_goto (tgt := 1352) hx hb dL_law_315 (by decide) ?_
      exact kk _ _ _ (lv_sub hl [2, 3, 4, 5, 6] rfl) hG
    · rw [if_pos c2] at hf
      refine lv_aload_n hx hb dL_law_303 rfl (lv_at hl 3 rfl) ?_
      refine lv_iconst (v := 0) hx hb dL_law_304 (by decide) ?_
      refine g_lald F hK hG.1 9 0 rfl rfl (x := r.2.2 0) rfl dL_law_305 ?_
      refine lv_iload hx hb dL_law_306 (lv_at hl 0 rfl) ?_
      refine lv_i2l hx hb dL_law_308 rfl ?_
      refine g_lc_eq (tgt := 315) hx hb dL_law_309 dL_law_310 (by decide) (fun c3 => ?_) (fun c3 => ?_)
      · rw [if_pos c3] at hf
        cases hf
        refine lv_goto (tgt := 1352) hx hb dL_law_315 (by decide) ?_
        exact kk _ _ _ (lv_sub hl [2, 3, 4, 5, 6] rfl) hG
      · rw [if_neg c3] at hf
        cases hf
  · rw [if_neg c1] at hf
    cases hf
theorem law_4 (hst : l.stackTraces = false) (F : gF p m c cL_law 9 s args RL) (hK : gK E s) (hNc : gNc s) (hX : gX E s s.heap) (hAB : ∀ q, Alw s q → gB E q) (hSc : va_X b L xs s s.heap) (hbl : b < s.heap.size) (hi1 : vp_in (i + 1) L) (hi2 : vp_in (i + 2) L) (ha1 : xs (i + 1).toNatClampNeg = a1) (ha2 : xs (i + 2).toNatClampNeg = a2) (hl : lv_has ls 9 [(4, .int i), (3, .ref (ho 0)), (2, .ref (hm 0)), (1, .ref (h 0)), (0, .ref b)]) (hc : cells + 1 ≤ room_1.cells ∧ slots + 6 ≤ room_1.slots) (hG : gS E (Alw s) s.heap (WL E h hm ho x m9 ou) H locs) (hf : stw (f_L_word x a1 a2 ou) (f_X9_word m9 a1 a2) = some o) (kk : ∀ (H1 : Heap) (locs1 : List Loc) (ls1 : Array Slot), lv_has ls1 9 [(4, .int i), (3, .ref (ho 0)), (2, .ref (hm 0)), (1, .ref (h 0)), (0, .ref b)] → gS E (Alw s) s.heap (WL E h hm ho o.1 o.2.1 o.2.2) H1 locs1 → W p l e room_1 s m args below meth c H1 locs1 (cells + 1) (slots + 6) Q (F0 m 1352 ls1 [])) : W p l e room_1 s m args below meth c H locs cells slots Q (F0 m 318 ls []) := by
  have hbA : ¬ Alw s b := Nat.not_le.mpr hbl
  have hx := F.1
  have hb := F.2.1
  unfold stw at hf
  obtain ⟨r, hr, hf⟩ := g_bnd hf
  obtain ⟨q, hq, hf⟩ := g_bnd hf
  obtain ⟨t, ht, hf⟩ := g_bnd hf
  refine lv_aload_n hx hb dL_law_318 rfl (lv_at hl 3 rfl) ?_
  refine law_arg (i := i) (k := 1) (a := a1) hx hb hSc hbl hbA hG.2.2 (by decide) (lv_at hl 4 rfl) (lv_at hl 0 rfl) hi1 ha1 dL_law_319 dL_law_320 dL_law_322 dL_law_323 dL_law_324 ?_
  refine law_arg (i := i) (k := 2) (a := a2) hx hb hSc hbl hbA hG.2.2 (by decide) (lv_at hl 4 rfl) (lv_at hl 0 rfl) hi2 ha2 dL_law_325 dL_law_326 dL_law_328 dL_law_329 dL_law_330 ?_
  refine lv_aload_n hx hb dL_law_331 rfl (lv_at hl 1 rfl) ?_
  refine g_callL (As := [.ref (h 0), .int a1, .int a2, .ref (ho 0)]) (rest := []) (S' := [C8 E h 0, C2 E h (0+1) r.2.1.1, C6 E h (0+3) r.2.1.2.1, C5 E h (0+9) r.2.1.2.2.1.2.2, C6 E h ((0+9)+1) r.2.1.2.2.1.1, C7 E h ((0+9)+7) r.2.1.2.2.1.2.1, C3 E h (0+18) r.2.1.2.2.2.1, C0 E h (0+20) r.2.1.2.2.2.2, C9 E hm 0 m9, CO E ho 0 r.2.2]) F hK hNc hX hAB hG [0, 1, 2, 3, 4, 5, 6, 7, 9] rfl rfl (c_L_word hst h 0 x a1 a2 ho 0 ou hr) rfl (kL_99 F.2.2.2.2) rfl hl.1 rfl (lv_room (Nat.le_of_ble_eq_true rfl)) hc dL_law_332 (fun H locs hG => ?_)
  refine lv_istore (lv' := [(5, .int r.1), (4, .int i), (3, .ref (ho 0)), (2, .ref (hm 0)), (1, .ref (h 0)), (0, .ref b)]) hx hb dL_law_335 hl (by decide) rfl (fun ls hl => ?_)
  refine lv_aload_n hx hb dL_law_337 rfl (lv_at hl 3 rfl) ?_
  refine law_arg (i := i) (k := 1) (a := a1) hx hb hSc hbl hbA hG.2.2 (by decide) (lv_at hl 5 rfl) (lv_at hl 1 rfl) hi1 ha1 dL_law_338 dL_law_339 dL_law_341 dL_law_342 dL_law_343 ?_
  refine law_arg (i := i) (k := 2) (a := a2) hx hb hSc hbl hbA hG.2.2 (by decide) (lv_at hl 5 rfl) (lv_at hl 1 rfl) hi2 ha2 dL_law_344 dL_law_345 dL_law_347 dL_law_348 dL_law_349 ?_
  refine g_mv (S' := [C8 E h 0, C2 E h (0+1) r.2.1.1, C6 E h (0+3) r.2.1.2.1, C5 E h (0+9) r.2.1.2.2.1.2.2, C6 E h ((0+9)+1) r.2.1.2.2.1.1, C7 E h ((0+9)+7) r.2.1.2.2.1.2.1, C3 E h (0+18) r.2.1.2.2.2.1, C0 E h (0+20) r.2.1.2.2.2.2, C9 E hm 0 q.2, CO E ho 0 r.2.2]) (As := [.int a1, .int a2]) (rest := []) F hK hX hAB hG [8] rfl rfl (c_X9_word hm 0 m9 a1 a2 hq) rfl (kL_102 F.2.2.2.2) rfl rfl rfl rfl hl.1 rfl (lv_room (Nat.le_of_ble_eq_true rfl)) hc dL_law_350 (fun H locs hG => ?_)
  refine lv_istore (lv' := [(6, .int q.1), (5, .int r.1), (4, .int i), (3, .ref (ho 0)), (2, .ref (hm 0)), (1, .ref (h 0)), (0, .ref b)]) hx hb dL_law_353 hl (by decide) rfl (fun ls hl => ?_)
  refine lv_aload_n hx hb dL_law_355 rfl (lv_at hl 4 rfl) ?_
  refine g_rv (As := []) (rest := []) F hK (hG.X hX hAB) hG.1 [8] rfl (c_X9_thrown hm 0 q.2 ht) (kL_84 F.2.2.2.2) rfl rfl rfl rfl hl.1 rfl (lv_room (Nat.le_of_ble_eq_true rfl)) hc dL_law_356 ?_
  refine lv_iload hx hb dL_law_359 (lv_at hl 1 rfl) ?_
  refine lv_icmp_eq (tgt := 366) hx hb dL_law_361 (by decide) (fun c1 => ?_) (fun c1 => ?_)
  · rw [if_pos c1] at hf
    refine lv_iload hx hb dL_law_366 (lv_at hl 1 rfl) ?_
    refine lv_if_ne (tgt := 383) hx hb dL_law_368 (by decide) (fun c2 => ?_) (fun c2 => ?_)
    · rw [if_neg c2] at hf
      cases hf
      refine lv_goto (tgt := 1352) hx hb dL_law_383 (by decide) ?_
      exact kk _ _ _ (lv_sub hl [2, 3, 4, 5, 6] rfl) hG
    · rw [if_pos c2] at hf
      refine lv_aload_n hx hb dL_law_371 rfl (lv_at hl 3 rfl) ?_
      refine lv_iconst (v := 0) hx hb dL_law_372 (by decide) ?_
      refine g_lald F hK hG.1 9 0 rfl rfl (x := r.2.2 0) rfl dL_law_373 ?_
      refine lv_iload hx hb dL_law_374 (lv_at hl 0 rfl) ?_
      refine lv_i2l hx hb dL_law_376 rfl ?_
      refine g_lc_eq (tgt := 383) hx hb dL_law_377 dL_law_378 (by decide) (fun c3 => ?_) (fun c3 => ?_)
      · rw [if_pos c3] at hf
        cases hf
        refine lv_goto (tgt := 1352) hx hb dL_law_383 (by decide) ?_
        exact kk _ _ _ (lv_sub hl [2, 3, 4, 5, 6] rfl) hG
      · rw [if_neg c3] at hf
        cases hf
  · rw [if_neg c1] at hf
    cases hf
theorem law_5 (hst : l.stackTraces = false) (F : gF p m c cL_law 9 s args RL) (hK : gK E s) (hNc : gNc s) (hX : gX E s s.heap) (hAB : ∀ q, Alw s q → gB E q) (hSc : va_X b L xs s s.heap) (hbl : b < s.heap.size) (hi1 : vp_in (i + 1) L) (hi2 : vp_in (i + 2) L) (ha1 : xs (i + 1).toNatClampNeg = a1) (ha2 : xs (i + 2).toNatClampNeg = a2) (hl : lv_has ls 9 [(4, .int i), (3, .ref (ho 0)), (2, .ref (hm 0)), (1, .ref (h 0)), (0, .ref b)]) (hc : cells + 1 ≤ room_1.cells ∧ slots + 6 ≤ room_1.slots) (hG : gS E (Alw s) s.heap (WL E h hm ho x m9 ou) H locs) (hf : stw (f_L_letter x a1 a2 ou) (f_X9_letter m9 a1 a2) = some o) (kk : ∀ (H1 : Heap) (locs1 : List Loc) (ls1 : Array Slot), lv_has ls1 9 [(4, .int i), (3, .ref (ho 0)), (2, .ref (hm 0)), (1, .ref (h 0)), (0, .ref b)] → gS E (Alw s) s.heap (WL E h hm ho o.1 o.2.1 o.2.2) H1 locs1 → W p l e room_1 s m args below meth c H1 locs1 (cells + 1) (slots + 6) Q (F0 m 1352 ls1 [])) : W p l e room_1 s m args below meth c H locs cells slots Q (F0 m 386 ls []) := by
  have hbA : ¬ Alw s b := Nat.not_le.mpr hbl
  have hx := F.1
  have hb := F.2.1
  unfold stw at hf
  obtain ⟨r, hr, hf⟩ := g_bnd hf
  obtain ⟨q, hq, hf⟩ := g_bnd hf
  obtain ⟨t, ht, hf⟩ := g_bnd hf
  refine lv_aload_n hx hb dL_law_386 rfl (lv_at hl 3 rfl) ?_
  refine law_arg (i := i) (k := 1) (a := a1) hx hb hSc hbl hbA hG.2.2 (by decide) (lv_at hl 4 rfl) (lv_at hl 0 rfl) hi1 ha1 dL_law_387 dL_law_388 dL_law_390 dL_law_391 dL_law_392 ?_
  refine law_arg (i := i) (k := 2) (a := a2) hx hb hSc hbl hbA hG.2.2 (by decide) (lv_at hl 4 rfl) (lv_at hl 0 rfl) hi2 ha2 dL_law_393 dL_law_394 dL_law_396 dL_law_397 dL_law_398 ?_
  refine lv_aload_n hx hb dL_law_399 rfl (lv_at hl 1 rfl) ?_
  refine g_callL (As := [.ref (h 0), .int a1, .int a2, .ref (ho 0)]) (rest := []) (S' := [C8 E h 0, C2 E h (0+1) r.2.1.1, C6 E h (0+3) r.2.1.2.1, C5 E h (0+9) r.2.1.2.2.1.2.2, C6 E h ((0+9)+1) r.2.1.2.2.1.1, C7 E h ((0+9)+7) r.2.1.2.2.1.2.1, C3 E h (0+18) r.2.1.2.2.2.1, C0 E h (0+20) r.2.1.2.2.2.2, C9 E hm 0 m9, CO E ho 0 r.2.2]) F hK hNc hX hAB hG [0, 1, 2, 3, 4, 5, 6, 7, 9] rfl rfl (c_L_letter hst h 0 x a1 a2 ho 0 ou hr) rfl (kL_103 F.2.2.2.2) rfl hl.1 rfl (lv_room (Nat.le_of_ble_eq_true rfl)) hc dL_law_400 (fun H locs hG => ?_)
  refine lv_istore (lv' := [(5, .int r.1), (4, .int i), (3, .ref (ho 0)), (2, .ref (hm 0)), (1, .ref (h 0)), (0, .ref b)]) hx hb dL_law_403 hl (by decide) rfl (fun ls hl => ?_)
  refine lv_aload_n hx hb dL_law_405 rfl (lv_at hl 3 rfl) ?_
  refine law_arg (i := i) (k := 1) (a := a1) hx hb hSc hbl hbA hG.2.2 (by decide) (lv_at hl 5 rfl) (lv_at hl 1 rfl) hi1 ha1 dL_law_406 dL_law_407 dL_law_409 dL_law_410 dL_law_411 ?_
  refine law_arg (i := i) (k := 2) (a := a2) hx hb hSc hbl hbA hG.2.2 (by decide) (lv_at hl 5 rfl) (lv_at hl 1 rfl) hi2 ha2 dL_law_412 dL_law_413 dL_law_415 dL_law_416 dL_law_417 ?_
  refine g_mv (S' := [C8 E h 0, C2 E h (0+1) r.2.1.1, C6 E h (0+3) r.2.1.2.1, C5 E h (0+9) r.2.1.2.2.1.2.2, C6 E h ((0+9)+1) r.2.1.2.2.1.1, C7 E h ((0+9)+7) r.2.1.2.2.1.2.1, C3 E h (0+18) r.2.1.2.2.2.1, C0 E h (0+20) r.2.1.2.2.2.2, C9 E hm 0 q.2, CO E ho 0 r.2.2]) (As := [.int a1, .int a2]) (rest := []) F hK hX hAB hG [8] rfl rfl (c_X9_letter hm 0 m9 a1 a2 hq) rfl (kL_105 F.2.2.2.2) rfl rfl rfl rfl hl.1 rfl (lv_room (Nat.le_of_ble_eq_true rfl)) hc dL_law_418 (fun H locs hG => ?_)
  refine lv_istore (lv' := [(6, .int q.1), (5, .int r.1), (4, .int i), (3, .ref (ho 0)), (2, .ref (hm 0)), (1, .ref (h 0)), (0, .ref b)]) hx hb dL_law_421 hl (by decide) rfl (fun ls hl => ?_)
  refine lv_aload_n hx hb dL_law_423 rfl (lv_at hl 4 rfl) ?_
  refine g_rv (As := []) (rest := []) F hK (hG.X hX hAB) hG.1 [8] rfl (c_X9_thrown hm 0 q.2 ht) (kL_84 F.2.2.2.2) rfl rfl rfl rfl hl.1 rfl (lv_room (Nat.le_of_ble_eq_true rfl)) hc dL_law_424 ?_
  refine lv_iload hx hb dL_law_427 (lv_at hl 1 rfl) ?_
  refine lv_icmp_eq (tgt := 434) hx hb dL_law_429 (by decide) (fun c1 => ?_) (fun c1 => ?_)
  · rw [if_pos c1] at hf
    refine lv_iload hx hb dL_law_434 (lv_at hl 1 rfl) ?_
    refine lv_if_ne (tgt := 451) hx hb dL_law_436 (by decide) (fun c2 => ?_) (fun c2 => ?_)
    · rw [if_neg c2] at hf
      cases hf
      refine lv_goto (tgt := 1352) hx hb dL_law_451 (by decide) ?_
      exact kk _ _ _ (lv_sub hl [2, 3, 4, 5, 6] rfl) hG
    · rw [if_pos c2] at hf
      refine lv_aload_n hx hb dL_law_439 rfl (lv_at hl 3 rfl) ?_
      refine lv_iconst (v := 0) hx hb dL_law_440 (by decide) ?_
      refine g_lald F hK hG.1 9 0 rfl rfl (x := r.2.2 0) rfl dL_law_441 ?_
      refine lv_iload hx hb dL_law_442 (lv_at hl 0 rfl) ?_
      refine lv_i2l hx hb dL_law_444 rfl ?_
      refine g_lc_eq (tgt := 451) hx hb dL_law_445 dL_law_446 (by decide) (fun c3 => ?_) (fun c3 => ?_)
      · rw [if_pos c3] at hf
        cases hf
        refine lv_goto (tgt := 1352) hx hb dL_law_451 (by decide) ?_
        exact kk _ _ _ (lv_sub hl [2, 3, 4, 5, 6] rfl) hG
      · rw [if_neg c3] at hf
        cases hf
  · rw [if_neg c1] at hf
    cases hf
theorem law_6 (hst : l.stackTraces = false) (F : gF p m c cL_law 9 s args RL) (hK : gK E s) (hNc : gNc s) (hX : gX E s s.heap) (hAB : ∀ q, Alw s q → gB E q) (hSc : va_X b L xs s s.heap) (hbl : b < s.heap.size) (hi1 : vp_in (i + 1) L) (hi2 : vp_in (i + 2) L) (ha1 : xs (i + 1).toNatClampNeg = a1) (ha2 : xs (i + 2).toNatClampNeg = a2) (hl : lv_has ls 9 [(4, .int i), (3, .ref (ho 0)), (2, .ref (hm 0)), (1, .ref (h 0)), (0, .ref b)]) (hc : cells + 1 ≤ room_1.cells ∧ slots + 6 ≤ room_1.slots) (hG : gS E (Alw s) s.heap (WL E h hm ho x m9 ou) H locs) (hf : stw (f_L_press x a1 ou) (f_X9_press m9 a1) = some o) (kk : ∀ (H1 : Heap) (locs1 : List Loc) (ls1 : Array Slot), lv_has ls1 9 [(4, .int i), (3, .ref (ho 0)), (2, .ref (hm 0)), (1, .ref (h 0)), (0, .ref b)] → gS E (Alw s) s.heap (WL E h hm ho o.1 o.2.1 o.2.2) H1 locs1 → W p l e room_1 s m args below meth c H1 locs1 (cells + 1) (slots + 6) Q (F0 m 1352 ls1 [])) : W p l e room_1 s m args below meth c H locs cells slots Q (F0 m 454 ls []) := by
  have hbA : ¬ Alw s b := Nat.not_le.mpr hbl
  have hx := F.1
  have hb := F.2.1
  unfold stw at hf
  obtain ⟨r, hr, hf⟩ := g_bnd hf
  obtain ⟨q, hq, hf⟩ := g_bnd hf
  obtain ⟨t, ht, hf⟩ := g_bnd hf
  refine lv_aload_n hx hb dL_law_454 rfl (lv_at hl 3 rfl) ?_
  refine law_arg (i := i) (k := 1) (a := a1) hx hb hSc hbl hbA hG.2.2 (by decide) (lv_at hl 4 rfl) (lv_at hl 0 rfl) hi1 ha1 dL_law_455 dL_law_456 dL_law_458 dL_law_459 dL_law_460 ?_
  refine lv_aload_n hx hb dL_law_461 rfl (lv_at hl 1 rfl) ?_
  refine g_callL (As := [.ref (h 0), .int a1, .ref (ho 0)]) (rest := []) (S' := [C8 E h 0, C2 E h (0+1) r.2.1.1, C6 E h (0+3) r.2.1.2.1, C5 E h (0+9) r.2.1.2.2.1.2.2, C6 E h ((0+9)+1) r.2.1.2.2.1.1, C7 E h ((0+9)+7) r.2.1.2.2.1.2.1, C3 E h (0+18) r.2.1.2.2.2.1, C0 E h (0+20) r.2.1.2.2.2.2, C9 E hm 0 m9, CO E ho 0 r.2.2]) F hK hNc hX hAB hG [0, 1, 2, 3, 4, 5, 6, 7, 9] rfl rfl (c_L_press hst h 0 x a1 ho 0 ou hr) rfl (kL_106 F.2.2.2.2) rfl hl.1 rfl (lv_room (Nat.le_of_ble_eq_true rfl)) hc dL_law_462 (fun H locs hG => ?_)
  refine lv_istore (lv' := [(5, .int r.1), (4, .int i), (3, .ref (ho 0)), (2, .ref (hm 0)), (1, .ref (h 0)), (0, .ref b)]) hx hb dL_law_465 hl (by decide) rfl (fun ls hl => ?_)
  refine lv_aload_n hx hb dL_law_467 rfl (lv_at hl 3 rfl) ?_
  refine law_arg (i := i) (k := 1) (a := a1) hx hb hSc hbl hbA hG.2.2 (by decide) (lv_at hl 5 rfl) (lv_at hl 1 rfl) hi1 ha1 dL_law_468 dL_law_469 dL_law_471 dL_law_472 dL_law_473 ?_
  refine g_mv (S' := [C8 E h 0, C2 E h (0+1) r.2.1.1, C6 E h (0+3) r.2.1.2.1, C5 E h (0+9) r.2.1.2.2.1.2.2, C6 E h ((0+9)+1) r.2.1.2.2.1.1, C7 E h ((0+9)+7) r.2.1.2.2.1.2.1, C3 E h (0+18) r.2.1.2.2.2.1, C0 E h (0+20) r.2.1.2.2.2.2, C9 E hm 0 q.2, CO E ho 0 r.2.2]) (As := [.int a1]) (rest := []) F hK hX hAB hG [8] rfl rfl (c_X9_press hm 0 m9 a1 hq) rfl (kL_108 F.2.2.2.2) rfl rfl rfl rfl hl.1 rfl (lv_room (Nat.le_of_ble_eq_true rfl)) hc dL_law_474 (fun H locs hG => ?_)
  refine lv_istore (lv' := [(6, .int q.1), (5, .int r.1), (4, .int i), (3, .ref (ho 0)), (2, .ref (hm 0)), (1, .ref (h 0)), (0, .ref b)]) hx hb dL_law_477 hl (by decide) rfl (fun ls hl => ?_)
  refine lv_aload_n hx hb dL_law_479 rfl (lv_at hl 4 rfl) ?_
  refine g_rv (As := []) (rest := []) F hK (hG.X hX hAB) hG.1 [8] rfl (c_X9_thrown hm 0 q.2 ht) (kL_84 F.2.2.2.2) rfl rfl rfl rfl hl.1 rfl (lv_room (Nat.le_of_ble_eq_true rfl)) hc dL_law_480 ?_
  refine lv_iload hx hb dL_law_483 (lv_at hl 1 rfl) ?_
  refine lv_icmp_eq (tgt := 490) hx hb dL_law_485 (by decide) (fun c1 => ?_) (fun c1 => ?_)
  · rw [if_pos c1] at hf
    refine lv_iload hx hb dL_law_490 (lv_at hl 1 rfl) ?_
    refine lv_if_ne (tgt := 507) hx hb dL_law_492 (by decide) (fun c2 => ?_) (fun c2 => ?_)
    · rw [if_neg c2] at hf
      cases hf
      refine lv_goto (tgt := 1352) hx hb dL_law_507 (by decide) ?_
      exact kk _ _ _ (lv_sub hl [2, 3, 4, 5, 6] rfl) hG
    · rw [if_pos c2] at hf
      refine lv_aload_n hx hb dL_law_495 rfl (lv_at hl 3 rfl) ?_
      refine lv_iconst (v := 0) hx hb dL_law_496 (by decide) ?_
      refine g_lald F hK hG.1 9 0 rfl rfl (x := r.2.2 0) rfl dL_law_497 ?_
      refine lv_iload hx hb dL_law_498 (lv_at hl 0 rfl) ?_
      refine lv_i2l hx hb dL_law_500 rfl ?_
      refine g_lc_eq (tgt := 507) hx hb dL_law_501 dL_law_502 (by decide) (fun c3 => ?_) (fun c3 => ?_)
      · rw [if_pos c3] at hf
        cases hf
        refine lv_goto (tgt := 1352) hx hb dL_law_507 (by decide) ?_
        exact kk _ _ _ (lv_sub hl [2, 3, 4, 5, 6] rfl) hG
      · rw [if_neg c3] at hf
        cases hf
  · rw [if_neg c1] at hf
    cases hf
theorem law_7 (hst : l.stackTraces = false) (F : gF p m c cL_law 9 s args RL) (hK : gK E s) (hNc : gNc s) (hX : gX E s s.heap) (hAB : ∀ q, Alw s q → gB E q) (hSc : va_X b L xs s s.heap) (hbl : b < s.heap.size) (hi1 : vp_in (i + 1) L) (hi2 : vp_in (i + 2) L) (ha1 : xs (i + 1).toNatClampNeg = a1) (ha2 : xs (i + 2).toNatClampNeg = a2) (hl : lv_has ls 9 [(4, .int i), (3, .ref (ho 0)), (2, .ref (hm 0)), (1, .ref (h 0)), (0, .ref b)]) (hc : cells + 1 ≤ room_1.cells ∧ slots + 6 ≤ room_1.slots) (hG : gS E (Alw s) s.heap (WL E h hm ho x m9 ou) H locs) (hf : Option.bind (f_X8_pause x) (fun r => Option.bind (f_X9_pause m9) (fun q => if r.1 = q.1 then some ((x.1, x.2.1, (x.2.2.1.1, x.2.2.1.2.1, r.2.1), r.2.2, x.2.2.2.2), q.2, ou) else none)) = some o) (kk : ∀ (H1 : Heap) (locs1 : List Loc) (ls1 : Array Slot), lv_has ls1 9 [(4, .int i), (3, .ref (ho 0)), (2, .ref (hm 0)), (1, .ref (h 0)), (0, .ref b)] → gS E (Alw s) s.heap (WL E h hm ho o.1 o.2.1 o.2.2) H1 locs1 → W p l e room_1 s m args below meth c H1 locs1 (cells + 1) (slots + 6) Q (F0 m 1352 ls1 [])) : W p l e room_1 s m args below meth c H locs cells slots Q (F0 m 510 ls []) := by
  have hbA : ¬ Alw s b := Nat.not_le.mpr hbl
  have hx := F.1
  have hb := F.2.1
  obtain ⟨r, hr, hf⟩ := g_bnd hf
  obtain ⟨q, hq, hf⟩ := g_bnd hf
  refine lv_aload_n hx hb dL_law_510 rfl (lv_at hl 3 rfl) ?_
  refine g_mv (S' := [C8 E h 0, C2 E h (0+1) x.1, C6 E h (0+3) x.2.1, C5 E h (0+9) r.2.1, C6 E h ((0+9)+1) x.2.2.1.1, C7 E h ((0+9)+7) x.2.2.1.2.1, C3 E h (0+18) r.2.2, C0 E h (0+20) x.2.2.2.2, C9 E hm 0 m9, CO E ho 0 ou]) (As := []) (rest := []) F hK hX hAB hG [0, 1, 2, 3, 4, 5, 6, 7] rfl rfl (c_X8_pause h 0 x hr) rfl (kL_109 F.2.2.2.2) rfl rfl rfl rfl hl.1 rfl (lv_room (Nat.le_of_ble_eq_true rfl)) ⟨Nat.le_trans (Nat.le_succ _) hc.1, Nat.le_trans (Nat.le_add_right _ 6) hc.2⟩ dL_law_511 (fun H locs hG => ?_)
  refine lv_aload_n hx hb dL_law_514 rfl (lv_at hl 2 rfl) ?_
  refine g_mv (S' := [C8 E h 0, C2 E h (0+1) x.1, C6 E h (0+3) x.2.1, C5 E h (0+9) r.2.1, C6 E h ((0+9)+1) x.2.2.1.1, C7 E h ((0+9)+7) x.2.2.1.2.1, C3 E h (0+18) r.2.2, C0 E h (0+20) x.2.2.2.2, C9 E hm 0 q.2, CO E ho 0 ou]) (As := []) (rest := [.int r.1]) F hK hX hAB hG [8] rfl rfl (c_X9_pause hm 0 m9 hq) rfl (kL_112 F.2.2.2.2) rfl rfl rfl rfl hl.1 rfl (lv_room (Nat.le_of_ble_eq_true rfl)) ⟨Nat.le_trans (Nat.le_succ _) hc.1, Nat.le_trans (Nat.le_add_right _ 6) hc.2⟩ dL_law_515 (fun H locs hG => ?_)
  refine lv_icmp_eq (tgt := 1352) hx hb dL_law_518 (by decide) (fun c1 => ?_) (fun c1 => ?_)
  · rw [if_pos c1] at hf
    cases hf
    refine W.widen (Nat.le_add_right cells 1) (Nat.le_add_right slots 6) ?_
    exact kk _ _ _ (lv_sub hl [0, 1, 2, 3, 4] rfl) hG
  · rw [if_neg c1] at hf
    cases hf
theorem law_8 (hst : l.stackTraces = false) (F : gF p m c cL_law 9 s args RL) (hK : gK E s) (hNc : gNc s) (hX : gX E s s.heap) (hAB : ∀ q, Alw s q → gB E q) (hSc : va_X b L xs s s.heap) (hbl : b < s.heap.size) (hi1 : vp_in (i + 1) L) (hi2 : vp_in (i + 2) L) (ha1 : xs (i + 1).toNatClampNeg = a1) (ha2 : xs (i + 2).toNatClampNeg = a2) (hl : lv_has ls 9 [(4, .int i), (3, .ref (ho 0)), (2, .ref (hm 0)), (1, .ref (h 0)), (0, .ref b)]) (hc : cells + 1 ≤ room_1.cells ∧ slots + 6 ≤ room_1.slots) (hG : gS E (Alw s) s.heap (WL E h hm ho x m9 ou) H locs) (hf : Option.bind (f_X8_mode x (nzB a1)) (fun r => Option.bind (f_X9_mode m9 (nzB a1)) (fun q => if r.1 = q.1 then some ((x.1, x.2.1, (x.2.2.1.1, x.2.2.1.2.1, r.2.1), r.2.2.1, r.2.2.2), q.2, ou) else none)) = some o) (kk : ∀ (H1 : Heap) (locs1 : List Loc) (ls1 : Array Slot), lv_has ls1 9 [(4, .int i), (3, .ref (ho 0)), (2, .ref (hm 0)), (1, .ref (h 0)), (0, .ref b)] → gS E (Alw s) s.heap (WL E h hm ho o.1 o.2.1 o.2.2) H1 locs1 → W p l e room_1 s m args below meth c H1 locs1 (cells + 1) (slots + 6) Q (F0 m 1352 ls1 [])) : W p l e room_1 s m args below meth c H locs cells slots Q (F0 m 523 ls []) := by
  have hbA : ¬ Alw s b := Nat.not_le.mpr hbl
  have hx := F.1
  have hb := F.2.1
  obtain ⟨r, hr, hf⟩ := g_bnd hf
  obtain ⟨q, hq, hf⟩ := g_bnd hf
  refine lv_aload_n hx hb dL_law_523 rfl (lv_at hl 3 rfl) ?_
  refine law_arg (i := i) (k := 1) (a := a1) hx hb hSc hbl hbA hG.2.2 (by decide) (lv_at hl 4 rfl) (lv_at hl 0 rfl) hi1 ha1 dL_law_524 dL_law_525 dL_law_527 dL_law_528 dL_law_529 ?_
  refine law_nz hx hb dL_law_530 dL_law_533 dL_law_534 dL_law_537 ?_
  refine g_mv (S' := [C8 E h 0, C2 E h (0+1) x.1, C6 E h (0+3) x.2.1, C5 E h (0+9) r.2.1, C6 E h ((0+9)+1) x.2.2.1.1, C7 E h ((0+9)+7) x.2.2.1.2.1, C3 E h (0+18) r.2.2.1, C0 E h (0+20) r.2.2.2, C9 E hm 0 m9, CO E ho 0 ou]) (As := [.int (nzB a1)]) (rest := []) F hK hX hAB hG [0, 1, 2, 3, 4, 5, 6, 7] rfl rfl (c_X8_mode h 0 x (nzB a1) hr) rfl (kL_113 F.2.2.2.2) rfl rfl rfl rfl hl.1 rfl (lv_room (Nat.le_of_ble_eq_true rfl)) ⟨Nat.le_trans (Nat.le_succ _) hc.1, Nat.le_trans (Nat.le_add_right _ 6) hc.2⟩ dL_law_538 (fun H locs hG => ?_)
  refine lv_aload_n hx hb dL_law_541 rfl (lv_at hl 2 rfl) ?_
  refine law_arg (i := i) (k := 1) (a := a1) hx hb hSc hbl hbA hG.2.2 (by decide) (lv_at hl 4 rfl) (lv_at hl 0 rfl) hi1 ha1 dL_law_542 dL_law_543 dL_law_545 dL_law_546 dL_law_547 ?_
  refine law_nz hx hb dL_law_548 dL_law_551 dL_law_552 dL_law_555 ?_
  refine g_mv (S' := [C8 E h 0, C2 E h (0+1) x.1, C6 E h (0+3) x.2.1, C5 E h (0+9) r.2.1, C6 E h ((0+9)+1) x.2.2.1.1, C7 E h ((0+9)+7) x.2.2.1.2.1, C3 E h (0+18) r.2.2.1, C0 E h (0+20) r.2.2.2, C9 E hm 0 q.2, CO E ho 0 ou]) (As := [.int (nzB a1)]) (rest := [.int r.1]) F hK hX hAB hG [8] rfl rfl (c_X9_mode hm 0 m9 (nzB a1) hq) rfl (kL_117 F.2.2.2.2) rfl rfl rfl rfl hl.1 rfl (lv_room (Nat.le_of_ble_eq_true rfl)) ⟨Nat.le_trans (Nat.le_succ _) hc.1, Nat.le_trans (Nat.le_add_right _ 6) hc.2⟩ dL_law_556 (fun H locs hG => ?_)
  refine lv_icmp_eq (tgt := 1352) hx hb dL_law_559 (by decide) (fun c1 => ?_) (fun c1 => ?_)
  · rw [if_pos c1] at hf
    cases hf
    refine W.widen (Nat.le_add_right cells 1) (Nat.le_add_right slots 6) ?_
    exact kk _ _ _ (lv_sub hl [0, 1, 2, 3, 4] rfl) hG
  · rw [if_neg c1] at hf
    cases hf
theorem law_9 (hst : l.stackTraces = false) (F : gF p m c cL_law 9 s args RL) (hK : gK E s) (hNc : gNc s) (hX : gX E s s.heap) (hAB : ∀ q, Alw s q → gB E q) (hSc : va_X b L xs s s.heap) (hbl : b < s.heap.size) (hi1 : vp_in (i + 1) L) (hi2 : vp_in (i + 2) L) (ha1 : xs (i + 1).toNatClampNeg = a1) (ha2 : xs (i + 2).toNatClampNeg = a2) (hl : lv_has ls 9 [(4, .int i), (3, .ref (ho 0)), (2, .ref (hm 0)), (1, .ref (h 0)), (0, .ref b)]) (hc : cells + 1 ≤ room_1.cells ∧ slots + 6 ≤ room_1.slots) (hG : gS E (Alw s) s.heap (WL E h hm ho x m9 ou) H locs) (hf : stw (f_L_next x ou) (f_X9_next m9) = some o) (kk : ∀ (H1 : Heap) (locs1 : List Loc) (ls1 : Array Slot), lv_has ls1 9 [(4, .int i), (3, .ref (ho 0)), (2, .ref (hm 0)), (1, .ref (h 0)), (0, .ref b)] → gS E (Alw s) s.heap (WL E h hm ho o.1 o.2.1 o.2.2) H1 locs1 → W p l e room_1 s m args below meth c H1 locs1 (cells + 1) (slots + 6) Q (F0 m 1352 ls1 [])) : W p l e room_1 s m args below meth c H locs cells slots Q (F0 m 564 ls []) := by
  have hbA : ¬ Alw s b := Nat.not_le.mpr hbl
  have hx := F.1
  have hb := F.2.1
  unfold stw at hf
  obtain ⟨r, hr, hf⟩ := g_bnd hf
  obtain ⟨q, hq, hf⟩ := g_bnd hf
  obtain ⟨t, ht, hf⟩ := g_bnd hf
  refine lv_aload_n hx hb dL_law_564 rfl (lv_at hl 3 rfl) ?_
  refine lv_aload_n hx hb dL_law_565 rfl (lv_at hl 1 rfl) ?_
  refine g_callL (As := [.ref (h 0), .ref (ho 0)]) (rest := []) (S' := [C8 E h 0, C2 E h (0+1) r.2.1.1, C6 E h (0+3) r.2.1.2.1, C5 E h (0+9) r.2.1.2.2.1.2.2, C6 E h ((0+9)+1) r.2.1.2.2.1.1, C7 E h ((0+9)+7) r.2.1.2.2.1.2.1, C3 E h (0+18) r.2.1.2.2.2.1, C0 E h (0+20) r.2.1.2.2.2.2, C9 E hm 0 m9, CO E ho 0 r.2.2]) F hK hNc hX hAB hG [0, 1, 2, 3, 4, 5, 6, 7, 9] rfl rfl (c_L_next hst h 0 x ho 0 ou hr) rfl (kL_118 F.2.2.2.2) rfl hl.1 rfl (lv_room (Nat.le_of_ble_eq_true rfl)) hc dL_law_566 (fun H locs hG => ?_)
  refine lv_istore (lv' := [(5, .int r.1), (4, .int i), (3, .ref (ho 0)), (2, .ref (hm 0)), (1, .ref (h 0)), (0, .ref b)]) hx hb dL_law_569 hl (by decide) rfl (fun ls hl => ?_)
  refine lv_aload_n hx hb dL_law_571 rfl (lv_at hl 3 rfl) ?_
  refine g_mv (S' := [C8 E h 0, C2 E h (0+1) r.2.1.1, C6 E h (0+3) r.2.1.2.1, C5 E h (0+9) r.2.1.2.2.1.2.2, C6 E h ((0+9)+1) r.2.1.2.2.1.1, C7 E h ((0+9)+7) r.2.1.2.2.1.2.1, C3 E h (0+18) r.2.1.2.2.2.1, C0 E h (0+20) r.2.1.2.2.2.2, C9 E hm 0 q.2, CO E ho 0 r.2.2]) (As := []) (rest := []) F hK hX hAB hG [8] rfl rfl (c_X9_next hm 0 m9 hq) rfl (kL_121 F.2.2.2.2) rfl rfl rfl rfl hl.1 rfl (lv_room (Nat.le_of_ble_eq_true rfl)) hc dL_law_572 (fun H locs hG => ?_)
  refine lv_istore (lv' := [(6, .int q.1), (5, .int r.1), (4, .int i), (3, .ref (ho 0)), (2, .ref (hm 0)), (1, .ref (h 0)), (0, .ref b)]) hx hb dL_law_575 hl (by decide) rfl (fun ls hl => ?_)
  refine lv_aload_n hx hb dL_law_577 rfl (lv_at hl 4 rfl) ?_
  refine g_rv (As := []) (rest := []) F hK (hG.X hX hAB) hG.1 [8] rfl (c_X9_thrown hm 0 q.2 ht) (kL_84 F.2.2.2.2) rfl rfl rfl rfl hl.1 rfl (lv_room (Nat.le_of_ble_eq_true rfl)) hc dL_law_578 ?_
  refine lv_iload hx hb dL_law_581 (lv_at hl 1 rfl) ?_
  refine lv_icmp_eq (tgt := 588) hx hb dL_law_583 (by decide) (fun c1 => ?_) (fun c1 => ?_)
  · rw [if_pos c1] at hf
    refine lv_iload hx hb dL_law_588 (lv_at hl 1 rfl) ?_
    refine lv_if_ne (tgt := 605) hx hb dL_law_590 (by decide) (fun c2 => ?_) (fun c2 => ?_)
    · rw [if_neg c2] at hf
      cases hf
      refine lv_goto (tgt := 1352) hx hb dL_law_605 (by decide) ?_
      exact kk _ _ _ (lv_sub hl [2, 3, 4, 5, 6] rfl) hG
    · rw [if_pos c2] at hf
      refine lv_aload_n hx hb dL_law_593 rfl (lv_at hl 3 rfl) ?_
      refine lv_iconst (v := 0) hx hb dL_law_594 (by decide) ?_
      refine g_lald F hK hG.1 9 0 rfl rfl (x := r.2.2 0) rfl dL_law_595 ?_
      refine lv_iload hx hb dL_law_596 (lv_at hl 0 rfl) ?_
      refine lv_i2l hx hb dL_law_598 rfl ?_
      refine g_lc_eq (tgt := 605) hx hb dL_law_599 dL_law_600 (by decide) (fun c3 => ?_) (fun c3 => ?_)
      · rw [if_pos c3] at hf
        cases hf
        refine lv_goto (tgt := 1352) hx hb dL_law_605 (by decide) ?_
        exact kk _ _ _ (lv_sub hl [2, 3, 4, 5, 6] rfl) hG
      · rw [if_neg c3] at hf
        cases hf
  · rw [if_neg c1] at hf
    cases hf
theorem law_10 (hst : l.stackTraces = false) (F : gF p m c cL_law 9 s args RL) (hK : gK E s) (hNc : gNc s) (hX : gX E s s.heap) (hAB : ∀ q, Alw s q → gB E q) (hSc : va_X b L xs s s.heap) (hbl : b < s.heap.size) (hi1 : vp_in (i + 1) L) (hi2 : vp_in (i + 2) L) (ha1 : xs (i + 1).toNatClampNeg = a1) (ha2 : xs (i + 2).toNatClampNeg = a2) (hl : lv_has ls 9 [(4, .int i), (3, .ref (ho 0)), (2, .ref (hm 0)), (1, .ref (h 0)), (0, .ref b)]) (hc : cells + 1 ≤ room_1.cells ∧ slots + 6 ≤ room_1.slots) (hG : gS E (Alw s) s.heap (WL E h hm ho x m9 ou) H locs) (hf : stw (f_L_erase x ou) (f_X9_erase m9) = some o) (kk : ∀ (H1 : Heap) (locs1 : List Loc) (ls1 : Array Slot), lv_has ls1 9 [(4, .int i), (3, .ref (ho 0)), (2, .ref (hm 0)), (1, .ref (h 0)), (0, .ref b)] → gS E (Alw s) s.heap (WL E h hm ho o.1 o.2.1 o.2.2) H1 locs1 → W p l e room_1 s m args below meth c H1 locs1 (cells + 1) (slots + 6) Q (F0 m 1352 ls1 [])) : W p l e room_1 s m args below meth c H locs cells slots Q (F0 m 608 ls []) := by
  have hbA : ¬ Alw s b := Nat.not_le.mpr hbl
  have hx := F.1
  have hb := F.2.1
  unfold stw at hf
  obtain ⟨r, hr, hf⟩ := g_bnd hf
  obtain ⟨q, hq, hf⟩ := g_bnd hf
  obtain ⟨t, ht, hf⟩ := g_bnd hf
  refine lv_aload_n hx hb dL_law_608 rfl (lv_at hl 3 rfl) ?_
  refine lv_aload_n hx hb dL_law_609 rfl (lv_at hl 1 rfl) ?_
  refine g_callL (As := [.ref (h 0), .ref (ho 0)]) (rest := []) (S' := [C8 E h 0, C2 E h (0+1) r.2.1.1, C6 E h (0+3) r.2.1.2.1, C5 E h (0+9) r.2.1.2.2.1.2.2, C6 E h ((0+9)+1) r.2.1.2.2.1.1, C7 E h ((0+9)+7) r.2.1.2.2.1.2.1, C3 E h (0+18) r.2.1.2.2.2.1, C0 E h (0+20) r.2.1.2.2.2.2, C9 E hm 0 m9, CO E ho 0 r.2.2]) F hK hNc hX hAB hG [0, 1, 2, 3, 4, 5, 6, 7, 9] rfl rfl (c_L_erase hst h 0 x ho 0 ou hr) rfl (kL_122 F.2.2.2.2) rfl hl.1 rfl (lv_room (Nat.le_of_ble_eq_true rfl)) hc dL_law_610 (fun H locs hG => ?_)
  refine lv_istore (lv' := [(5, .int r.1), (4, .int i), (3, .ref (ho 0)), (2, .ref (hm 0)), (1, .ref (h 0)), (0, .ref b)]) hx hb dL_law_613 hl (by decide) rfl (fun ls hl => ?_)
  refine lv_aload_n hx hb dL_law_615 rfl (lv_at hl 3 rfl) ?_
  refine g_mv (S' := [C8 E h 0, C2 E h (0+1) r.2.1.1, C6 E h (0+3) r.2.1.2.1, C5 E h (0+9) r.2.1.2.2.1.2.2, C6 E h ((0+9)+1) r.2.1.2.2.1.1, C7 E h ((0+9)+7) r.2.1.2.2.1.2.1, C3 E h (0+18) r.2.1.2.2.2.1, C0 E h (0+20) r.2.1.2.2.2.2, C9 E hm 0 q.2, CO E ho 0 r.2.2]) (As := []) (rest := []) F hK hX hAB hG [8] rfl rfl (c_X9_erase hm 0 m9 hq) rfl (kL_124 F.2.2.2.2) rfl rfl rfl rfl hl.1 rfl (lv_room (Nat.le_of_ble_eq_true rfl)) hc dL_law_616 (fun H locs hG => ?_)
  refine lv_istore (lv' := [(6, .int q.1), (5, .int r.1), (4, .int i), (3, .ref (ho 0)), (2, .ref (hm 0)), (1, .ref (h 0)), (0, .ref b)]) hx hb dL_law_619 hl (by decide) rfl (fun ls hl => ?_)
  refine lv_aload_n hx hb dL_law_621 rfl (lv_at hl 4 rfl) ?_
  refine g_rv (As := []) (rest := []) F hK (hG.X hX hAB) hG.1 [8] rfl (c_X9_thrown hm 0 q.2 ht) (kL_84 F.2.2.2.2) rfl rfl rfl rfl hl.1 rfl (lv_room (Nat.le_of_ble_eq_true rfl)) hc dL_law_622 ?_
  refine lv_iload hx hb dL_law_625 (lv_at hl 1 rfl) ?_
  refine lv_icmp_eq (tgt := 632) hx hb dL_law_627 (by decide) (fun c1 => ?_) (fun c1 => ?_)
  · rw [if_pos c1] at hf
    refine lv_iload hx hb dL_law_632 (lv_at hl 1 rfl) ?_
    refine lv_if_ne (tgt := 649) hx hb dL_law_634 (by decide) (fun c2 => ?_) (fun c2 => ?_)
    · rw [if_neg c2] at hf
      cases hf
      refine lv_goto (tgt := 1352) hx hb dL_law_649 (by decide) ?_
      exact kk _ _ _ (lv_sub hl [2, 3, 4, 5, 6] rfl) hG
    · rw [if_pos c2] at hf
      refine lv_aload_n hx hb dL_law_637 rfl (lv_at hl 3 rfl) ?_
      refine lv_iconst (v := 0) hx hb dL_law_638 (by decide) ?_
      refine g_lald F hK hG.1 9 0 rfl rfl (x := r.2.2 0) rfl dL_law_639 ?_
      refine lv_iload hx hb dL_law_640 (lv_at hl 0 rfl) ?_
      refine lv_i2l hx hb dL_law_642 rfl ?_
      refine g_lc_eq (tgt := 649) hx hb dL_law_643 dL_law_644 (by decide) (fun c3 => ?_) (fun c3 => ?_)
      · rw [if_pos c3] at hf
        cases hf
        refine lv_goto (tgt := 1352) hx hb dL_law_649 (by decide) ?_
        exact kk _ _ _ (lv_sub hl [2, 3, 4, 5, 6] rfl) hG
      · rw [if_neg c3] at hf
        cases hf
  · rw [if_neg c1] at hf
    cases hf
theorem law_11 (hst : l.stackTraces = false) (F : gF p m c cL_law 9 s args RL) (hK : gK E s) (hNc : gNc s) (hX : gX E s s.heap) (hAB : ∀ q, Alw s q → gB E q) (hSc : va_X b L xs s s.heap) (hbl : b < s.heap.size) (hi1 : vp_in (i + 1) L) (hi2 : vp_in (i + 2) L) (ha1 : xs (i + 1).toNatClampNeg = a1) (ha2 : xs (i + 2).toNatClampNeg = a2) (hl : lv_has ls 9 [(4, .int i), (3, .ref (ho 0)), (2, .ref (hm 0)), (1, .ref (h 0)), (0, .ref b)]) (hc : cells + 1 ≤ room_1.cells ∧ slots + 6 ≤ room_1.slots) (hG : gS E (Alw s) s.heap (WL E h hm ho x m9 ou) H locs) (hf : stw (f_L_accept x ou) (f_X9_accept m9) = some o) (kk : ∀ (H1 : Heap) (locs1 : List Loc) (ls1 : Array Slot), lv_has ls1 9 [(4, .int i), (3, .ref (ho 0)), (2, .ref (hm 0)), (1, .ref (h 0)), (0, .ref b)] → gS E (Alw s) s.heap (WL E h hm ho o.1 o.2.1 o.2.2) H1 locs1 → W p l e room_1 s m args below meth c H1 locs1 (cells + 1) (slots + 6) Q (F0 m 1352 ls1 [])) : W p l e room_1 s m args below meth c H locs cells slots Q (F0 m 652 ls []) := by
  have hbA : ¬ Alw s b := Nat.not_le.mpr hbl
  have hx := F.1
  have hb := F.2.1
  unfold stw at hf
  obtain ⟨r, hr, hf⟩ := g_bnd hf
  obtain ⟨q, hq, hf⟩ := g_bnd hf
  obtain ⟨t, ht, hf⟩ := g_bnd hf
  refine lv_aload_n hx hb dL_law_652 rfl (lv_at hl 3 rfl) ?_
  refine lv_aload_n hx hb dL_law_653 rfl (lv_at hl 1 rfl) ?_
  refine g_callL (As := [.ref (h 0), .ref (ho 0)]) (rest := []) (S' := [C8 E h 0, C2 E h (0+1) r.2.1.1, C6 E h (0+3) r.2.1.2.1, C5 E h (0+9) r.2.1.2.2.1.2.2, C6 E h ((0+9)+1) r.2.1.2.2.1.1, C7 E h ((0+9)+7) r.2.1.2.2.1.2.1, C3 E h (0+18) r.2.1.2.2.2.1, C0 E h (0+20) r.2.1.2.2.2.2, C9 E hm 0 m9, CO E ho 0 r.2.2]) F hK hNc hX hAB hG [0, 1, 2, 3, 4, 5, 6, 7, 9] rfl rfl (c_L_accept hst h 0 x ho 0 ou hr) rfl (kL_125 F.2.2.2.2) rfl hl.1 rfl (lv_room (Nat.le_of_ble_eq_true rfl)) hc dL_law_654 (fun H locs hG => ?_)
  refine lv_istore (lv' := [(5, .int r.1), (4, .int i), (3, .ref (ho 0)), (2, .ref (hm 0)), (1, .ref (h 0)), (0, .ref b)]) hx hb dL_law_657 hl (by decide) rfl (fun ls hl => ?_)
  refine lv_aload_n hx hb dL_law_659 rfl (lv_at hl 3 rfl) ?_
  refine g_mv (S' := [C8 E h 0, C2 E h (0+1) r.2.1.1, C6 E h (0+3) r.2.1.2.1, C5 E h (0+9) r.2.1.2.2.1.2.2, C6 E h ((0+9)+1) r.2.1.2.2.1.1, C7 E h ((0+9)+7) r.2.1.2.2.1.2.1, C3 E h (0+18) r.2.1.2.2.2.1, C0 E h (0+20) r.2.1.2.2.2.2, C9 E hm 0 q.2, CO E ho 0 r.2.2]) (As := []) (rest := []) F hK hX hAB hG [8] rfl rfl (c_X9_accept hm 0 m9 hq) rfl (kL_127 F.2.2.2.2) rfl rfl rfl rfl hl.1 rfl (lv_room (Nat.le_of_ble_eq_true rfl)) hc dL_law_660 (fun H locs hG => ?_)
  refine lv_istore (lv' := [(6, .int q.1), (5, .int r.1), (4, .int i), (3, .ref (ho 0)), (2, .ref (hm 0)), (1, .ref (h 0)), (0, .ref b)]) hx hb dL_law_663 hl (by decide) rfl (fun ls hl => ?_)
  refine lv_aload_n hx hb dL_law_665 rfl (lv_at hl 4 rfl) ?_
  refine g_rv (As := []) (rest := []) F hK (hG.X hX hAB) hG.1 [8] rfl (c_X9_thrown hm 0 q.2 ht) (kL_84 F.2.2.2.2) rfl rfl rfl rfl hl.1 rfl (lv_room (Nat.le_of_ble_eq_true rfl)) hc dL_law_666 ?_
  refine lv_iload hx hb dL_law_669 (lv_at hl 1 rfl) ?_
  refine lv_icmp_eq (tgt := 676) hx hb dL_law_671 (by decide) (fun c1 => ?_) (fun c1 => ?_)
  · rw [if_pos c1] at hf
    refine lv_iload hx hb dL_law_676 (lv_at hl 1 rfl) ?_
    refine lv_if_ne (tgt := 693) hx hb dL_law_678 (by decide) (fun c2 => ?_) (fun c2 => ?_)
    · rw [if_neg c2] at hf
      cases hf
      refine lv_goto (tgt := 1352) hx hb dL_law_693 (by decide) ?_
      exact kk _ _ _ (lv_sub hl [2, 3, 4, 5, 6] rfl) hG
    · rw [if_pos c2] at hf
      refine lv_aload_n hx hb dL_law_681 rfl (lv_at hl 3 rfl) ?_
      refine lv_iconst (v := 0) hx hb dL_law_682 (by decide) ?_
      refine g_lald F hK hG.1 9 0 rfl rfl (x := r.2.2 0) rfl dL_law_683 ?_
      refine lv_iload hx hb dL_law_684 (lv_at hl 0 rfl) ?_
      refine lv_i2l hx hb dL_law_686 rfl ?_
      refine g_lc_eq (tgt := 693) hx hb dL_law_687 dL_law_688 (by decide) (fun c3 => ?_) (fun c3 => ?_)
      · rw [if_pos c3] at hf
        cases hf
        refine lv_goto (tgt := 1352) hx hb dL_law_693 (by decide) ?_
        exact kk _ _ _ (lv_sub hl [2, 3, 4, 5, 6] rfl) hG
      · rw [if_neg c3] at hf
        cases hf
  · rw [if_neg c1] at hf
    cases hf
theorem law_12 (hst : l.stackTraces = false) (F : gF p m c cL_law 9 s args RL) (hK : gK E s) (hNc : gNc s) (hX : gX E s s.heap) (hAB : ∀ q, Alw s q → gB E q) (hSc : va_X b L xs s s.heap) (hbl : b < s.heap.size) (hi1 : vp_in (i + 1) L) (hi2 : vp_in (i + 2) L) (ha1 : xs (i + 1).toNatClampNeg = a1) (ha2 : xs (i + 2).toNatClampNeg = a2) (hl : lv_has ls 9 [(4, .int i), (3, .ref (ho 0)), (2, .ref (hm 0)), (1, .ref (h 0)), (0, .ref b)]) (hc : cells + 1 ≤ room_1.cells ∧ slots + 6 ≤ room_1.slots) (hG : gS E (Alw s) s.heap (WL E h hm ho x m9 ou) H locs) (hf : stw (f_L_open x a1 ou) (f_X9_open m9 a1) = some o) (kk : ∀ (H1 : Heap) (locs1 : List Loc) (ls1 : Array Slot), lv_has ls1 9 [(4, .int i), (3, .ref (ho 0)), (2, .ref (hm 0)), (1, .ref (h 0)), (0, .ref b)] → gS E (Alw s) s.heap (WL E h hm ho o.1 o.2.1 o.2.2) H1 locs1 → W p l e room_1 s m args below meth c H1 locs1 (cells + 1) (slots + 6) Q (F0 m 1352 ls1 [])) : W p l e room_1 s m args below meth c H locs cells slots Q (F0 m 696 ls []) := by
  have hbA : ¬ Alw s b := Nat.not_le.mpr hbl
  have hx := F.1
  have hb := F.2.1
  unfold stw at hf
  obtain ⟨r, hr, hf⟩ := g_bnd hf
  obtain ⟨q, hq, hf⟩ := g_bnd hf
  obtain ⟨t, ht, hf⟩ := g_bnd hf
  refine lv_aload_n hx hb dL_law_696 rfl (lv_at hl 3 rfl) ?_
  refine law_arg (i := i) (k := 1) (a := a1) hx hb hSc hbl hbA hG.2.2 (by decide) (lv_at hl 4 rfl) (lv_at hl 0 rfl) hi1 ha1 dL_law_697 dL_law_698 dL_law_700 dL_law_701 dL_law_702 ?_
  refine lv_aload_n hx hb dL_law_703 rfl (lv_at hl 1 rfl) ?_
  refine g_callL (As := [.ref (h 0), .int a1, .ref (ho 0)]) (rest := []) (S' := [C8 E h 0, C2 E h (0+1) r.2.1.1, C6 E h (0+3) r.2.1.2.1, C5 E h (0+9) r.2.1.2.2.1.2.2, C6 E h ((0+9)+1) r.2.1.2.2.1.1, C7 E h ((0+9)+7) r.2.1.2.2.1.2.1, C3 E h (0+18) r.2.1.2.2.2.1, C0 E h (0+20) r.2.1.2.2.2.2, C9 E hm 0 m9, CO E ho 0 r.2.2]) F hK hNc hX hAB hG [0, 1, 2, 3, 4, 5, 6, 7, 9] rfl rfl (c_L_open hst h 0 x a1 ho 0 ou hr) rfl (kL_128 F.2.2.2.2) rfl hl.1 rfl (lv_room (Nat.le_of_ble_eq_true rfl)) hc dL_law_704 (fun H locs hG => ?_)
  refine lv_istore (lv' := [(5, .int r.1), (4, .int i), (3, .ref (ho 0)), (2, .ref (hm 0)), (1, .ref (h 0)), (0, .ref b)]) hx hb dL_law_707 hl (by decide) rfl (fun ls hl => ?_)
  refine lv_aload_n hx hb dL_law_709 rfl (lv_at hl 3 rfl) ?_
  refine law_arg (i := i) (k := 1) (a := a1) hx hb hSc hbl hbA hG.2.2 (by decide) (lv_at hl 5 rfl) (lv_at hl 1 rfl) hi1 ha1 dL_law_710 dL_law_711 dL_law_713 dL_law_714 dL_law_715 ?_
  refine g_mv (S' := [C8 E h 0, C2 E h (0+1) r.2.1.1, C6 E h (0+3) r.2.1.2.1, C5 E h (0+9) r.2.1.2.2.1.2.2, C6 E h ((0+9)+1) r.2.1.2.2.1.1, C7 E h ((0+9)+7) r.2.1.2.2.1.2.1, C3 E h (0+18) r.2.1.2.2.2.1, C0 E h (0+20) r.2.1.2.2.2.2, C9 E hm 0 q.2, CO E ho 0 r.2.2]) (As := [.int a1]) (rest := []) F hK hX hAB hG [8] rfl rfl (c_X9_open hm 0 m9 a1 hq) rfl (kL_130 F.2.2.2.2) rfl rfl rfl rfl hl.1 rfl (lv_room (Nat.le_of_ble_eq_true rfl)) hc dL_law_716 (fun H locs hG => ?_)
  refine lv_istore (lv' := [(6, .int q.1), (5, .int r.1), (4, .int i), (3, .ref (ho 0)), (2, .ref (hm 0)), (1, .ref (h 0)), (0, .ref b)]) hx hb dL_law_719 hl (by decide) rfl (fun ls hl => ?_)
  refine lv_aload_n hx hb dL_law_721 rfl (lv_at hl 4 rfl) ?_
  refine g_rv (As := []) (rest := []) F hK (hG.X hX hAB) hG.1 [8] rfl (c_X9_thrown hm 0 q.2 ht) (kL_84 F.2.2.2.2) rfl rfl rfl rfl hl.1 rfl (lv_room (Nat.le_of_ble_eq_true rfl)) hc dL_law_722 ?_
  refine lv_iload hx hb dL_law_725 (lv_at hl 1 rfl) ?_
  refine lv_icmp_eq (tgt := 732) hx hb dL_law_727 (by decide) (fun c1 => ?_) (fun c1 => ?_)
  · rw [if_pos c1] at hf
    refine lv_iload hx hb dL_law_732 (lv_at hl 1 rfl) ?_
    refine lv_if_ne (tgt := 749) hx hb dL_law_734 (by decide) (fun c2 => ?_) (fun c2 => ?_)
    · rw [if_neg c2] at hf
      cases hf
      refine lv_goto (tgt := 1352) hx hb dL_law_749 (by decide) ?_
      exact kk _ _ _ (lv_sub hl [2, 3, 4, 5, 6] rfl) hG
    · rw [if_pos c2] at hf
      refine lv_aload_n hx hb dL_law_737 rfl (lv_at hl 3 rfl) ?_
      refine lv_iconst (v := 0) hx hb dL_law_738 (by decide) ?_
      refine g_lald F hK hG.1 9 0 rfl rfl (x := r.2.2 0) rfl dL_law_739 ?_
      refine lv_iload hx hb dL_law_740 (lv_at hl 0 rfl) ?_
      refine lv_i2l hx hb dL_law_742 rfl ?_
      refine g_lc_eq (tgt := 749) hx hb dL_law_743 dL_law_744 (by decide) (fun c3 => ?_) (fun c3 => ?_)
      · rw [if_pos c3] at hf
        cases hf
        refine lv_goto (tgt := 1352) hx hb dL_law_749 (by decide) ?_
        exact kk _ _ _ (lv_sub hl [2, 3, 4, 5, 6] rfl) hG
      · rw [if_neg c3] at hf
        cases hf
  · rw [if_neg c1] at hf
    cases hf
theorem law_13 (hst : l.stackTraces = false) (F : gF p m c cL_law 9 s args RL) (hK : gK E s) (hNc : gNc s) (hX : gX E s s.heap) (hAB : ∀ q, Alw s q → gB E q) (hSc : va_X b L xs s s.heap) (hbl : b < s.heap.size) (hi1 : vp_in (i + 1) L) (hi2 : vp_in (i + 2) L) (ha1 : xs (i + 1).toNatClampNeg = a1) (ha2 : xs (i + 2).toNatClampNeg = a2) (hl : lv_has ls 9 [(4, .int i), (3, .ref (ho 0)), (2, .ref (hm 0)), (1, .ref (h 0)), (0, .ref b)]) (hc : cells + 1 ≤ room_1.cells ∧ slots + 6 ≤ room_1.slots) (hG : gS E (Alw s) s.heap (WL E h hm ho x m9 ou) H locs) (hf : stw (f_L_setting x a1 ou) (f_X9_setting m9 a1) = some o) (kk : ∀ (H1 : Heap) (locs1 : List Loc) (ls1 : Array Slot), lv_has ls1 9 [(4, .int i), (3, .ref (ho 0)), (2, .ref (hm 0)), (1, .ref (h 0)), (0, .ref b)] → gS E (Alw s) s.heap (WL E h hm ho o.1 o.2.1 o.2.2) H1 locs1 → W p l e room_1 s m args below meth c H1 locs1 (cells + 1) (slots + 6) Q (F0 m 1352 ls1 [])) : W p l e room_1 s m args below meth c H locs cells slots Q (F0 m 752 ls []) := by
  have hbA : ¬ Alw s b := Nat.not_le.mpr hbl
  have hx := F.1
  have hb := F.2.1
  unfold stw at hf
  obtain ⟨r, hr, hf⟩ := g_bnd hf
  obtain ⟨q, hq, hf⟩ := g_bnd hf
  obtain ⟨t, ht, hf⟩ := g_bnd hf
  refine lv_aload_n hx hb dL_law_752 rfl (lv_at hl 3 rfl) ?_
  refine law_arg (i := i) (k := 1) (a := a1) hx hb hSc hbl hbA hG.2.2 (by decide) (lv_at hl 4 rfl) (lv_at hl 0 rfl) hi1 ha1 dL_law_753 dL_law_754 dL_law_756 dL_law_757 dL_law_758 ?_
  refine lv_aload_n hx hb dL_law_759 rfl (lv_at hl 1 rfl) ?_
  refine g_callL (As := [.ref (h 0), .int a1, .ref (ho 0)]) (rest := []) (S' := [C8 E h 0, C2 E h (0+1) r.2.1.1, C6 E h (0+3) r.2.1.2.1, C5 E h (0+9) r.2.1.2.2.1.2.2, C6 E h ((0+9)+1) r.2.1.2.2.1.1, C7 E h ((0+9)+7) r.2.1.2.2.1.2.1, C3 E h (0+18) r.2.1.2.2.2.1, C0 E h (0+20) r.2.1.2.2.2.2, C9 E hm 0 m9, CO E ho 0 r.2.2]) F hK hNc hX hAB hG [0, 1, 2, 3, 4, 5, 6, 7, 9] rfl rfl (c_L_setting hst h 0 x a1 ho 0 ou hr) rfl (kL_131 F.2.2.2.2) rfl hl.1 rfl (lv_room (Nat.le_of_ble_eq_true rfl)) hc dL_law_760 (fun H locs hG => ?_)
  refine lv_istore (lv' := [(5, .int r.1), (4, .int i), (3, .ref (ho 0)), (2, .ref (hm 0)), (1, .ref (h 0)), (0, .ref b)]) hx hb dL_law_763 hl (by decide) rfl (fun ls hl => ?_)
  refine lv_aload_n hx hb dL_law_765 rfl (lv_at hl 3 rfl) ?_
  refine law_arg (i := i) (k := 1) (a := a1) hx hb hSc hbl hbA hG.2.2 (by decide) (lv_at hl 5 rfl) (lv_at hl 1 rfl) hi1 ha1 dL_law_766 dL_law_767 dL_law_769 dL_law_770 dL_law_771 ?_
  refine g_mv (S' := [C8 E h 0, C2 E h (0+1) r.2.1.1, C6 E h (0+3) r.2.1.2.1, C5 E h (0+9) r.2.1.2.2.1.2.2, C6 E h ((0+9)+1) r.2.1.2.2.1.1, C7 E h ((0+9)+7) r.2.1.2.2.1.2.1, C3 E h (0+18) r.2.1.2.2.2.1, C0 E h (0+20) r.2.1.2.2.2.2, C9 E hm 0 q.2, CO E ho 0 r.2.2]) (As := [.int a1]) (rest := []) F hK hX hAB hG [8] rfl rfl (c_X9_setting hm 0 m9 a1 hq) rfl (kL_133 F.2.2.2.2) rfl rfl rfl rfl hl.1 rfl (lv_room (Nat.le_of_ble_eq_true rfl)) hc dL_law_772 (fun H locs hG => ?_)
  refine lv_istore (lv' := [(6, .int q.1), (5, .int r.1), (4, .int i), (3, .ref (ho 0)), (2, .ref (hm 0)), (1, .ref (h 0)), (0, .ref b)]) hx hb dL_law_775 hl (by decide) rfl (fun ls hl => ?_)
  refine lv_aload_n hx hb dL_law_777 rfl (lv_at hl 4 rfl) ?_
  refine g_rv (As := []) (rest := []) F hK (hG.X hX hAB) hG.1 [8] rfl (c_X9_thrown hm 0 q.2 ht) (kL_84 F.2.2.2.2) rfl rfl rfl rfl hl.1 rfl (lv_room (Nat.le_of_ble_eq_true rfl)) hc dL_law_778 ?_
  refine lv_iload hx hb dL_law_781 (lv_at hl 1 rfl) ?_
  refine lv_icmp_eq (tgt := 788) hx hb dL_law_783 (by decide) (fun c1 => ?_) (fun c1 => ?_)
  · rw [if_pos c1] at hf
    refine lv_iload hx hb dL_law_788 (lv_at hl 1 rfl) ?_
    refine lv_if_ne (tgt := 805) hx hb dL_law_790 (by decide) (fun c2 => ?_) (fun c2 => ?_)
    · rw [if_neg c2] at hf
      cases hf
      refine lv_goto (tgt := 1352) hx hb dL_law_805 (by decide) ?_
      exact kk _ _ _ (lv_sub hl [2, 3, 4, 5, 6] rfl) hG
    · rw [if_pos c2] at hf
      refine lv_aload_n hx hb dL_law_793 rfl (lv_at hl 3 rfl) ?_
      refine lv_iconst (v := 0) hx hb dL_law_794 (by decide) ?_
      refine g_lald F hK hG.1 9 0 rfl rfl (x := r.2.2 0) rfl dL_law_795 ?_
      refine lv_iload hx hb dL_law_796 (lv_at hl 0 rfl) ?_
      refine lv_i2l hx hb dL_law_798 rfl ?_
      refine g_lc_eq (tgt := 805) hx hb dL_law_799 dL_law_800 (by decide) (fun c3 => ?_) (fun c3 => ?_)
      · rw [if_pos c3] at hf
        cases hf
        refine lv_goto (tgt := 1352) hx hb dL_law_805 (by decide) ?_
        exact kk _ _ _ (lv_sub hl [2, 3, 4, 5, 6] rfl) hG
      · rw [if_neg c3] at hf
        cases hf
  · rw [if_neg c1] at hf
    cases hf
theorem law_14 (hst : l.stackTraces = false) (F : gF p m c cL_law 9 s args RL) (hK : gK E s) (hNc : gNc s) (hX : gX E s s.heap) (hAB : ∀ q, Alw s q → gB E q) (hSc : va_X b L xs s s.heap) (hbl : b < s.heap.size) (hi1 : vp_in (i + 1) L) (hi2 : vp_in (i + 2) L) (ha1 : xs (i + 1).toNatClampNeg = a1) (ha2 : xs (i + 2).toNatClampNeg = a2) (hl : lv_has ls 9 [(4, .int i), (3, .ref (ho 0)), (2, .ref (hm 0)), (1, .ref (h 0)), (0, .ref b)]) (hc : cells + 1 ≤ room_1.cells ∧ slots + 6 ≤ room_1.slots) (hG : gS E (Alw s) s.heap (WL E h hm ho x m9 ou) H locs) (hf : stw (f_L_place x a1 ou) (f_X9_place m9 a1) = some o) (kk : ∀ (H1 : Heap) (locs1 : List Loc) (ls1 : Array Slot), lv_has ls1 9 [(4, .int i), (3, .ref (ho 0)), (2, .ref (hm 0)), (1, .ref (h 0)), (0, .ref b)] → gS E (Alw s) s.heap (WL E h hm ho o.1 o.2.1 o.2.2) H1 locs1 → W p l e room_1 s m args below meth c H1 locs1 (cells + 1) (slots + 6) Q (F0 m 1352 ls1 [])) : W p l e room_1 s m args below meth c H locs cells slots Q (F0 m 808 ls []) := by
  have hbA : ¬ Alw s b := Nat.not_le.mpr hbl
  have hx := F.1
  have hb := F.2.1
  unfold stw at hf
  obtain ⟨r, hr, hf⟩ := g_bnd hf
  obtain ⟨q, hq, hf⟩ := g_bnd hf
  obtain ⟨t, ht, hf⟩ := g_bnd hf
  refine lv_aload_n hx hb dL_law_808 rfl (lv_at hl 3 rfl) ?_
  refine law_arg (i := i) (k := 1) (a := a1) hx hb hSc hbl hbA hG.2.2 (by decide) (lv_at hl 4 rfl) (lv_at hl 0 rfl) hi1 ha1 dL_law_809 dL_law_810 dL_law_812 dL_law_813 dL_law_814 ?_
  refine lv_aload_n hx hb dL_law_815 rfl (lv_at hl 1 rfl) ?_
  refine g_callL (As := [.ref (h 0), .int a1, .ref (ho 0)]) (rest := []) (S' := [C8 E h 0, C2 E h (0+1) r.2.1.1, C6 E h (0+3) r.2.1.2.1, C5 E h (0+9) r.2.1.2.2.1.2.2, C6 E h ((0+9)+1) r.2.1.2.2.1.1, C7 E h ((0+9)+7) r.2.1.2.2.1.2.1, C3 E h (0+18) r.2.1.2.2.2.1, C0 E h (0+20) r.2.1.2.2.2.2, C9 E hm 0 m9, CO E ho 0 r.2.2]) F hK hNc hX hAB hG [0, 1, 2, 3, 4, 5, 6, 7, 9] rfl rfl (c_L_place hst h 0 x a1 ho 0 ou hr) rfl (kL_134 F.2.2.2.2) rfl hl.1 rfl (lv_room (Nat.le_of_ble_eq_true rfl)) hc dL_law_816 (fun H locs hG => ?_)
  refine lv_istore (lv' := [(5, .int r.1), (4, .int i), (3, .ref (ho 0)), (2, .ref (hm 0)), (1, .ref (h 0)), (0, .ref b)]) hx hb dL_law_819 hl (by decide) rfl (fun ls hl => ?_)
  refine lv_aload_n hx hb dL_law_821 rfl (lv_at hl 3 rfl) ?_
  refine law_arg (i := i) (k := 1) (a := a1) hx hb hSc hbl hbA hG.2.2 (by decide) (lv_at hl 5 rfl) (lv_at hl 1 rfl) hi1 ha1 dL_law_822 dL_law_823 dL_law_825 dL_law_826 dL_law_827 ?_
  refine g_mv (S' := [C8 E h 0, C2 E h (0+1) r.2.1.1, C6 E h (0+3) r.2.1.2.1, C5 E h (0+9) r.2.1.2.2.1.2.2, C6 E h ((0+9)+1) r.2.1.2.2.1.1, C7 E h ((0+9)+7) r.2.1.2.2.1.2.1, C3 E h (0+18) r.2.1.2.2.2.1, C0 E h (0+20) r.2.1.2.2.2.2, C9 E hm 0 q.2, CO E ho 0 r.2.2]) (As := [.int a1]) (rest := []) F hK hX hAB hG [8] rfl rfl (c_X9_place hm 0 m9 a1 hq) rfl (kL_136 F.2.2.2.2) rfl rfl rfl rfl hl.1 rfl (lv_room (Nat.le_of_ble_eq_true rfl)) hc dL_law_828 (fun H locs hG => ?_)
  refine lv_istore (lv' := [(6, .int q.1), (5, .int r.1), (4, .int i), (3, .ref (ho 0)), (2, .ref (hm 0)), (1, .ref (h 0)), (0, .ref b)]) hx hb dL_law_831 hl (by decide) rfl (fun ls hl => ?_)
  refine lv_aload_n hx hb dL_law_833 rfl (lv_at hl 4 rfl) ?_
  refine g_rv (As := []) (rest := []) F hK (hG.X hX hAB) hG.1 [8] rfl (c_X9_thrown hm 0 q.2 ht) (kL_84 F.2.2.2.2) rfl rfl rfl rfl hl.1 rfl (lv_room (Nat.le_of_ble_eq_true rfl)) hc dL_law_834 ?_
  refine lv_iload hx hb dL_law_837 (lv_at hl 1 rfl) ?_
  refine lv_icmp_eq (tgt := 844) hx hb dL_law_839 (by decide) (fun c1 => ?_) (fun c1 => ?_)
  · rw [if_pos c1] at hf
    refine lv_iload hx hb dL_law_844 (lv_at hl 1 rfl) ?_
    refine lv_if_ne (tgt := 861) hx hb dL_law_846 (by decide) (fun c2 => ?_) (fun c2 => ?_)
    · rw [if_neg c2] at hf
      cases hf
      refine lv_goto (tgt := 1352) hx hb dL_law_861 (by decide) ?_
      exact kk _ _ _ (lv_sub hl [2, 3, 4, 5, 6] rfl) hG
    · rw [if_pos c2] at hf
      refine lv_aload_n hx hb dL_law_849 rfl (lv_at hl 3 rfl) ?_
      refine lv_iconst (v := 0) hx hb dL_law_850 (by decide) ?_
      refine g_lald F hK hG.1 9 0 rfl rfl (x := r.2.2 0) rfl dL_law_851 ?_
      refine lv_iload hx hb dL_law_852 (lv_at hl 0 rfl) ?_
      refine lv_i2l hx hb dL_law_854 rfl ?_
      refine g_lc_eq (tgt := 861) hx hb dL_law_855 dL_law_856 (by decide) (fun c3 => ?_) (fun c3 => ?_)
      · rw [if_pos c3] at hf
        cases hf
        refine lv_goto (tgt := 1352) hx hb dL_law_861 (by decide) ?_
        exact kk _ _ _ (lv_sub hl [2, 3, 4, 5, 6] rfl) hG
      · rw [if_neg c3] at hf
        cases hf
  · rw [if_neg c1] at hf
    cases hf
theorem law_15 (hst : l.stackTraces = false) (F : gF p m c cL_law 9 s args RL) (hK : gK E s) (hNc : gNc s) (hX : gX E s s.heap) (hAB : ∀ q, Alw s q → gB E q) (hSc : va_X b L xs s s.heap) (hbl : b < s.heap.size) (hi1 : vp_in (i + 1) L) (hi2 : vp_in (i + 2) L) (ha1 : xs (i + 1).toNatClampNeg = a1) (ha2 : xs (i + 2).toNatClampNeg = a2) (hl : lv_has ls 9 [(4, .int i), (3, .ref (ho 0)), (2, .ref (hm 0)), (1, .ref (h 0)), (0, .ref b)]) (hc : cells + 1 ≤ room_1.cells ∧ slots + 6 ≤ room_1.slots) (hG : gS E (Alw s) s.heap (WL E h hm ho x m9 ou) H locs) (hf : stw (f_L_display x a1 ou) (f_X9_display m9 a1) = some o) (kk : ∀ (H1 : Heap) (locs1 : List Loc) (ls1 : Array Slot), lv_has ls1 9 [(4, .int i), (3, .ref (ho 0)), (2, .ref (hm 0)), (1, .ref (h 0)), (0, .ref b)] → gS E (Alw s) s.heap (WL E h hm ho o.1 o.2.1 o.2.2) H1 locs1 → W p l e room_1 s m args below meth c H1 locs1 (cells + 1) (slots + 6) Q (F0 m 1352 ls1 [])) : W p l e room_1 s m args below meth c H locs cells slots Q (F0 m 864 ls []) := by
  have hbA : ¬ Alw s b := Nat.not_le.mpr hbl
  have hx := F.1
  have hb := F.2.1
  unfold stw at hf
  obtain ⟨r, hr, hf⟩ := g_bnd hf
  obtain ⟨q, hq, hf⟩ := g_bnd hf
  obtain ⟨t, ht, hf⟩ := g_bnd hf
  refine lv_aload_n hx hb dL_law_864 rfl (lv_at hl 3 rfl) ?_
  refine law_arg (i := i) (k := 1) (a := a1) hx hb hSc hbl hbA hG.2.2 (by decide) (lv_at hl 4 rfl) (lv_at hl 0 rfl) hi1 ha1 dL_law_865 dL_law_866 dL_law_868 dL_law_869 dL_law_870 ?_
  refine lv_aload_n hx hb dL_law_871 rfl (lv_at hl 1 rfl) ?_
  refine g_callL (As := [.ref (h 0), .int a1, .ref (ho 0)]) (rest := []) (S' := [C8 E h 0, C2 E h (0+1) r.2.1.1, C6 E h (0+3) r.2.1.2.1, C5 E h (0+9) r.2.1.2.2.1.2.2, C6 E h ((0+9)+1) r.2.1.2.2.1.1, C7 E h ((0+9)+7) r.2.1.2.2.1.2.1, C3 E h (0+18) r.2.1.2.2.2.1, C0 E h (0+20) r.2.1.2.2.2.2, C9 E hm 0 m9, CO E ho 0 r.2.2]) F hK hNc hX hAB hG [0, 1, 2, 3, 4, 5, 6, 7, 9] rfl rfl (c_L_display hst h 0 x a1 ho 0 ou hr) rfl (kL_137 F.2.2.2.2) rfl hl.1 rfl (lv_room (Nat.le_of_ble_eq_true rfl)) hc dL_law_872 (fun H locs hG => ?_)
  refine lv_istore (lv' := [(5, .int r.1), (4, .int i), (3, .ref (ho 0)), (2, .ref (hm 0)), (1, .ref (h 0)), (0, .ref b)]) hx hb dL_law_875 hl (by decide) rfl (fun ls hl => ?_)
  refine lv_aload_n hx hb dL_law_877 rfl (lv_at hl 3 rfl) ?_
  refine law_arg (i := i) (k := 1) (a := a1) hx hb hSc hbl hbA hG.2.2 (by decide) (lv_at hl 5 rfl) (lv_at hl 1 rfl) hi1 ha1 dL_law_878 dL_law_879 dL_law_881 dL_law_882 dL_law_883 ?_
  refine g_mv (S' := [C8 E h 0, C2 E h (0+1) r.2.1.1, C6 E h (0+3) r.2.1.2.1, C5 E h (0+9) r.2.1.2.2.1.2.2, C6 E h ((0+9)+1) r.2.1.2.2.1.1, C7 E h ((0+9)+7) r.2.1.2.2.1.2.1, C3 E h (0+18) r.2.1.2.2.2.1, C0 E h (0+20) r.2.1.2.2.2.2, C9 E hm 0 q.2, CO E ho 0 r.2.2]) (As := [.int a1]) (rest := []) F hK hX hAB hG [8] rfl rfl (c_X9_display hm 0 m9 a1 hq) rfl (kL_139 F.2.2.2.2) rfl rfl rfl rfl hl.1 rfl (lv_room (Nat.le_of_ble_eq_true rfl)) hc dL_law_884 (fun H locs hG => ?_)
  refine lv_istore (lv' := [(6, .int q.1), (5, .int r.1), (4, .int i), (3, .ref (ho 0)), (2, .ref (hm 0)), (1, .ref (h 0)), (0, .ref b)]) hx hb dL_law_887 hl (by decide) rfl (fun ls hl => ?_)
  refine lv_aload_n hx hb dL_law_889 rfl (lv_at hl 4 rfl) ?_
  refine g_rv (As := []) (rest := []) F hK (hG.X hX hAB) hG.1 [8] rfl (c_X9_thrown hm 0 q.2 ht) (kL_84 F.2.2.2.2) rfl rfl rfl rfl hl.1 rfl (lv_room (Nat.le_of_ble_eq_true rfl)) hc dL_law_890 ?_
  refine lv_iload hx hb dL_law_893 (lv_at hl 1 rfl) ?_
  refine lv_icmp_eq (tgt := 900) hx hb dL_law_895 (by decide) (fun c1 => ?_) (fun c1 => ?_)
  · rw [if_pos c1] at hf
    refine lv_iload hx hb dL_law_900 (lv_at hl 1 rfl) ?_
    refine lv_if_ne (tgt := 917) hx hb dL_law_902 (by decide) (fun c2 => ?_) (fun c2 => ?_)
    · rw [if_neg c2] at hf
      cases hf
      refine lv_goto (tgt := 1352) hx hb dL_law_917 (by decide) ?_
      exact kk _ _ _ (lv_sub hl [2, 3, 4, 5, 6] rfl) hG
    · rw [if_pos c2] at hf
      refine lv_aload_n hx hb dL_law_905 rfl (lv_at hl 3 rfl) ?_
      refine lv_iconst (v := 0) hx hb dL_law_906 (by decide) ?_
      refine g_lald F hK hG.1 9 0 rfl rfl (x := r.2.2 0) rfl dL_law_907 ?_
      refine lv_iload hx hb dL_law_908 (lv_at hl 0 rfl) ?_
      refine lv_i2l hx hb dL_law_910 rfl ?_
      refine g_lc_eq (tgt := 917) hx hb dL_law_911 dL_law_912 (by decide) (fun c3 => ?_) (fun c3 => ?_)
      · rw [if_pos c3] at hf
        cases hf
        refine lv_goto (tgt := 1352) hx hb dL_law_917 (by decide) ?_
        exact kk _ _ _ (lv_sub hl [2, 3, 4, 5, 6] rfl) hG
      · rw [if_neg c3] at hf
        cases hf
  · rw [if_neg c1] at hf
    cases hf
theorem law_16 (hst : l.stackTraces = false) (F : gF p m c cL_law 9 s args RL) (hK : gK E s) (hNc : gNc s) (hX : gX E s s.heap) (hAB : ∀ q, Alw s q → gB E q) (hSc : va_X b L xs s s.heap) (hbl : b < s.heap.size) (hi1 : vp_in (i + 1) L) (hi2 : vp_in (i + 2) L) (ha1 : xs (i + 1).toNatClampNeg = a1) (ha2 : xs (i + 2).toNatClampNeg = a2) (hl : lv_has ls 9 [(4, .int i), (3, .ref (ho 0)), (2, .ref (hm 0)), (1, .ref (h 0)), (0, .ref b)]) (hc : cells + 1 ≤ room_1.cells ∧ slots + 6 ≤ room_1.slots) (hG : gS E (Alw s) s.heap (WL E h hm ho x m9 ou) H locs) (hf : stw (f_L_candidate x a1 ou) (f_X9_candidate m9 a1) = some o) (kk : ∀ (H1 : Heap) (locs1 : List Loc) (ls1 : Array Slot), lv_has ls1 9 [(4, .int i), (3, .ref (ho 0)), (2, .ref (hm 0)), (1, .ref (h 0)), (0, .ref b)] → gS E (Alw s) s.heap (WL E h hm ho o.1 o.2.1 o.2.2) H1 locs1 → W p l e room_1 s m args below meth c H1 locs1 (cells + 1) (slots + 6) Q (F0 m 1352 ls1 [])) : W p l e room_1 s m args below meth c H locs cells slots Q (F0 m 920 ls []) := by
  have hbA : ¬ Alw s b := Nat.not_le.mpr hbl
  have hx := F.1
  have hb := F.2.1
  unfold stw at hf
  obtain ⟨r, hr, hf⟩ := g_bnd hf
  obtain ⟨q, hq, hf⟩ := g_bnd hf
  obtain ⟨t, ht, hf⟩ := g_bnd hf
  refine lv_aload_n hx hb dL_law_920 rfl (lv_at hl 3 rfl) ?_
  refine law_arg (i := i) (k := 1) (a := a1) hx hb hSc hbl hbA hG.2.2 (by decide) (lv_at hl 4 rfl) (lv_at hl 0 rfl) hi1 ha1 dL_law_921 dL_law_922 dL_law_924 dL_law_925 dL_law_926 ?_
  refine lv_aload_n hx hb dL_law_927 rfl (lv_at hl 1 rfl) ?_
  refine g_callL (As := [.ref (h 0), .int a1, .ref (ho 0)]) (rest := []) (S' := [C8 E h 0, C2 E h (0+1) r.2.1.1, C6 E h (0+3) r.2.1.2.1, C5 E h (0+9) r.2.1.2.2.1.2.2, C6 E h ((0+9)+1) r.2.1.2.2.1.1, C7 E h ((0+9)+7) r.2.1.2.2.1.2.1, C3 E h (0+18) r.2.1.2.2.2.1, C0 E h (0+20) r.2.1.2.2.2.2, C9 E hm 0 m9, CO E ho 0 r.2.2]) F hK hNc hX hAB hG [0, 1, 2, 3, 4, 5, 6, 7, 9] rfl rfl (c_L_candidate hst h 0 x a1 ho 0 ou hr) rfl (kL_140 F.2.2.2.2) rfl hl.1 rfl (lv_room (Nat.le_of_ble_eq_true rfl)) hc dL_law_928 (fun H locs hG => ?_)
  refine lv_istore (lv' := [(5, .int r.1), (4, .int i), (3, .ref (ho 0)), (2, .ref (hm 0)), (1, .ref (h 0)), (0, .ref b)]) hx hb dL_law_931 hl (by decide) rfl (fun ls hl => ?_)
  refine lv_aload_n hx hb dL_law_933 rfl (lv_at hl 3 rfl) ?_
  refine law_arg (i := i) (k := 1) (a := a1) hx hb hSc hbl hbA hG.2.2 (by decide) (lv_at hl 5 rfl) (lv_at hl 1 rfl) hi1 ha1 dL_law_934 dL_law_935 dL_law_937 dL_law_938 dL_law_939 ?_
  refine g_mv (S' := [C8 E h 0, C2 E h (0+1) r.2.1.1, C6 E h (0+3) r.2.1.2.1, C5 E h (0+9) r.2.1.2.2.1.2.2, C6 E h ((0+9)+1) r.2.1.2.2.1.1, C7 E h ((0+9)+7) r.2.1.2.2.1.2.1, C3 E h (0+18) r.2.1.2.2.2.1, C0 E h (0+20) r.2.1.2.2.2.2, C9 E hm 0 q.2, CO E ho 0 r.2.2]) (As := [.int a1]) (rest := []) F hK hX hAB hG [8] rfl rfl (c_X9_candidate hm 0 m9 a1 hq) rfl (kL_142 F.2.2.2.2) rfl rfl rfl rfl hl.1 rfl (lv_room (Nat.le_of_ble_eq_true rfl)) hc dL_law_940 (fun H locs hG => ?_)
  refine lv_istore (lv' := [(6, .int q.1), (5, .int r.1), (4, .int i), (3, .ref (ho 0)), (2, .ref (hm 0)), (1, .ref (h 0)), (0, .ref b)]) hx hb dL_law_943 hl (by decide) rfl (fun ls hl => ?_)
  refine lv_aload_n hx hb dL_law_945 rfl (lv_at hl 4 rfl) ?_
  refine g_rv (As := []) (rest := []) F hK (hG.X hX hAB) hG.1 [8] rfl (c_X9_thrown hm 0 q.2 ht) (kL_84 F.2.2.2.2) rfl rfl rfl rfl hl.1 rfl (lv_room (Nat.le_of_ble_eq_true rfl)) hc dL_law_946 ?_
  refine lv_iload hx hb dL_law_949 (lv_at hl 1 rfl) ?_
  refine lv_icmp_eq (tgt := 956) hx hb dL_law_951 (by decide) (fun c1 => ?_) (fun c1 => ?_)
  · rw [if_pos c1] at hf
    refine lv_iload hx hb dL_law_956 (lv_at hl 1 rfl) ?_
    refine lv_if_ne (tgt := 973) hx hb dL_law_958 (by decide) (fun c2 => ?_) (fun c2 => ?_)
    · rw [if_neg c2] at hf
      cases hf
      refine lv_goto (tgt := 1352) hx hb dL_law_973 (by decide) ?_
      exact kk _ _ _ (lv_sub hl [2, 3, 4, 5, 6] rfl) hG
    · rw [if_pos c2] at hf
      refine lv_aload_n hx hb dL_law_961 rfl (lv_at hl 3 rfl) ?_
      refine lv_iconst (v := 0) hx hb dL_law_962 (by decide) ?_
      refine g_lald F hK hG.1 9 0 rfl rfl (x := r.2.2 0) rfl dL_law_963 ?_
      refine lv_iload hx hb dL_law_964 (lv_at hl 0 rfl) ?_
      refine lv_i2l hx hb dL_law_966 rfl ?_
      refine g_lc_eq (tgt := 973) hx hb dL_law_967 dL_law_968 (by decide) (fun c3 => ?_) (fun c3 => ?_)
      · rw [if_pos c3] at hf
        cases hf
        refine lv_goto (tgt := 1352) hx hb dL_law_973 (by decide) ?_
        exact kk _ _ _ (lv_sub hl [2, 3, 4, 5, 6] rfl) hG
      · rw [if_neg c3] at hf
        cases hf
  · rw [if_neg c1] at hf
    cases hf
theorem law_17 (hst : l.stackTraces = false) (F : gF p m c cL_law 9 s args RL) (hK : gK E s) (hNc : gNc s) (hX : gX E s s.heap) (hAB : ∀ q, Alw s q → gB E q) (hSc : va_X b L xs s s.heap) (hbl : b < s.heap.size) (hi1 : vp_in (i + 1) L) (hi2 : vp_in (i + 2) L) (ha1 : xs (i + 1).toNatClampNeg = a1) (ha2 : xs (i + 2).toNatClampNeg = a2) (hl : lv_has ls 9 [(4, .int i), (3, .ref (ho 0)), (2, .ref (hm 0)), (1, .ref (h 0)), (0, .ref b)]) (hc : cells + 1 ≤ room_1.cells ∧ slots + 6 ≤ room_1.slots) (hG : gS E (Alw s) s.heap (WL E h hm ho x m9 ou) H locs) (hf : stw (f_L_written x a1 a2 ou) (f_X9_written m9 a1 a2) = some o) (kk : ∀ (H1 : Heap) (locs1 : List Loc) (ls1 : Array Slot), lv_has ls1 9 [(4, .int i), (3, .ref (ho 0)), (2, .ref (hm 0)), (1, .ref (h 0)), (0, .ref b)] → gS E (Alw s) s.heap (WL E h hm ho o.1 o.2.1 o.2.2) H1 locs1 → W p l e room_1 s m args below meth c H1 locs1 (cells + 1) (slots + 6) Q (F0 m 1352 ls1 [])) : W p l e room_1 s m args below meth c H locs cells slots Q (F0 m 976 ls []) := by
  have hbA : ¬ Alw s b := Nat.not_le.mpr hbl
  have hx := F.1
  have hb := F.2.1
  unfold stw at hf
  obtain ⟨r, hr, hf⟩ := g_bnd hf
  obtain ⟨q, hq, hf⟩ := g_bnd hf
  obtain ⟨t, ht, hf⟩ := g_bnd hf
  refine lv_aload_n hx hb dL_law_976 rfl (lv_at hl 3 rfl) ?_
  refine law_arg (i := i) (k := 1) (a := a1) hx hb hSc hbl hbA hG.2.2 (by decide) (lv_at hl 4 rfl) (lv_at hl 0 rfl) hi1 ha1 dL_law_977 dL_law_978 dL_law_980 dL_law_981 dL_law_982 ?_
  refine law_arg (i := i) (k := 2) (a := a2) hx hb hSc hbl hbA hG.2.2 (by decide) (lv_at hl 4 rfl) (lv_at hl 0 rfl) hi2 ha2 dL_law_983 dL_law_984 dL_law_986 dL_law_987 dL_law_988 ?_
  refine lv_aload_n hx hb dL_law_989 rfl (lv_at hl 1 rfl) ?_
  refine g_callL (As := [.ref (h 0), .int a1, .int a2, .ref (ho 0)]) (rest := []) (S' := [C8 E h 0, C2 E h (0+1) r.2.1.1, C6 E h (0+3) r.2.1.2.1, C5 E h (0+9) r.2.1.2.2.1.2.2, C6 E h ((0+9)+1) r.2.1.2.2.1.1, C7 E h ((0+9)+7) r.2.1.2.2.1.2.1, C3 E h (0+18) r.2.1.2.2.2.1, C0 E h (0+20) r.2.1.2.2.2.2, C9 E hm 0 m9, CO E ho 0 r.2.2]) F hK hNc hX hAB hG [0, 1, 2, 3, 4, 5, 6, 7, 9] rfl rfl (c_L_written hst h 0 x a1 a2 ho 0 ou hr) rfl (kL_143 F.2.2.2.2) rfl hl.1 rfl (lv_room (Nat.le_of_ble_eq_true rfl)) hc dL_law_990 (fun H locs hG => ?_)
  refine lv_istore (lv' := [(5, .int r.1), (4, .int i), (3, .ref (ho 0)), (2, .ref (hm 0)), (1, .ref (h 0)), (0, .ref b)]) hx hb dL_law_993 hl (by decide) rfl (fun ls hl => ?_)
  refine lv_aload_n hx hb dL_law_995 rfl (lv_at hl 3 rfl) ?_
  refine law_arg (i := i) (k := 1) (a := a1) hx hb hSc hbl hbA hG.2.2 (by decide) (lv_at hl 5 rfl) (lv_at hl 1 rfl) hi1 ha1 dL_law_996 dL_law_997 dL_law_999 dL_law_1000 dL_law_1001 ?_
  refine law_arg (i := i) (k := 2) (a := a2) hx hb hSc hbl hbA hG.2.2 (by decide) (lv_at hl 5 rfl) (lv_at hl 1 rfl) hi2 ha2 dL_law_1002 dL_law_1003 dL_law_1005 dL_law_1006 dL_law_1007 ?_
  refine g_mv (S' := [C8 E h 0, C2 E h (0+1) r.2.1.1, C6 E h (0+3) r.2.1.2.1, C5 E h (0+9) r.2.1.2.2.1.2.2, C6 E h ((0+9)+1) r.2.1.2.2.1.1, C7 E h ((0+9)+7) r.2.1.2.2.1.2.1, C3 E h (0+18) r.2.1.2.2.2.1, C0 E h (0+20) r.2.1.2.2.2.2, C9 E hm 0 q.2, CO E ho 0 r.2.2]) (As := [.int a1, .int a2]) (rest := []) F hK hX hAB hG [8] rfl rfl (c_X9_written hm 0 m9 a1 a2 hq) rfl (kL_145 F.2.2.2.2) rfl rfl rfl rfl hl.1 rfl (lv_room (Nat.le_of_ble_eq_true rfl)) hc dL_law_1008 (fun H locs hG => ?_)
  refine lv_istore (lv' := [(6, .int q.1), (5, .int r.1), (4, .int i), (3, .ref (ho 0)), (2, .ref (hm 0)), (1, .ref (h 0)), (0, .ref b)]) hx hb dL_law_1011 hl (by decide) rfl (fun ls hl => ?_)
  refine lv_aload_n hx hb dL_law_1013 rfl (lv_at hl 4 rfl) ?_
  refine g_rv (As := []) (rest := []) F hK (hG.X hX hAB) hG.1 [8] rfl (c_X9_thrown hm 0 q.2 ht) (kL_84 F.2.2.2.2) rfl rfl rfl rfl hl.1 rfl (lv_room (Nat.le_of_ble_eq_true rfl)) hc dL_law_1014 ?_
  refine lv_iload hx hb dL_law_1017 (lv_at hl 1 rfl) ?_
  refine lv_icmp_eq (tgt := 1024) hx hb dL_law_1019 (by decide) (fun c1 => ?_) (fun c1 => ?_)
  · rw [if_pos c1] at hf
    refine lv_iload hx hb dL_law_1024 (lv_at hl 1 rfl) ?_
    refine lv_if_ne (tgt := 1041) hx hb dL_law_1026 (by decide) (fun c2 => ?_) (fun c2 => ?_)
    · rw [if_neg c2] at hf
      cases hf
      refine lv_goto (tgt := 1352) hx hb dL_law_1041 (by decide) ?_
      exact kk _ _ _ (lv_sub hl [2, 3, 4, 5, 6] rfl) hG
    · rw [if_pos c2] at hf
      refine lv_aload_n hx hb dL_law_1029 rfl (lv_at hl 3 rfl) ?_
      refine lv_iconst (v := 0) hx hb dL_law_1030 (by decide) ?_
      refine g_lald F hK hG.1 9 0 rfl rfl (x := r.2.2 0) rfl dL_law_1031 ?_
      refine lv_iload hx hb dL_law_1032 (lv_at hl 0 rfl) ?_
      refine lv_i2l hx hb dL_law_1034 rfl ?_
      refine g_lc_eq (tgt := 1041) hx hb dL_law_1035 dL_law_1036 (by decide) (fun c3 => ?_) (fun c3 => ?_)
      · rw [if_pos c3] at hf
        cases hf
        refine lv_goto (tgt := 1352) hx hb dL_law_1041 (by decide) ?_
        exact kk _ _ _ (lv_sub hl [2, 3, 4, 5, 6] rfl) hG
      · rw [if_neg c3] at hf
        cases hf
  · rw [if_neg c1] at hf
    cases hf
theorem law_18 (hst : l.stackTraces = false) (F : gF p m c cL_law 9 s args RL) (hK : gK E s) (hNc : gNc s) (hX : gX E s s.heap) (hAB : ∀ q, Alw s q → gB E q) (hSc : va_X b L xs s s.heap) (hbl : b < s.heap.size) (hi1 : vp_in (i + 1) L) (hi2 : vp_in (i + 2) L) (ha1 : xs (i + 1).toNatClampNeg = a1) (ha2 : xs (i + 2).toNatClampNeg = a2) (hl : lv_has ls 9 [(4, .int i), (3, .ref (ho 0)), (2, .ref (hm 0)), (1, .ref (h 0)), (0, .ref b)]) (hc : cells + 1 ≤ room_1.cells ∧ slots + 6 ≤ room_1.slots) (hG : gS E (Alw s) s.heap (WL E h hm ho x m9 ou) H locs) (hf : stw (f_L_steps x a1 ou) (f_X9_steps m9 a1) = some o) (kk : ∀ (H1 : Heap) (locs1 : List Loc) (ls1 : Array Slot), lv_has ls1 9 [(4, .int i), (3, .ref (ho 0)), (2, .ref (hm 0)), (1, .ref (h 0)), (0, .ref b)] → gS E (Alw s) s.heap (WL E h hm ho o.1 o.2.1 o.2.2) H1 locs1 → W p l e room_1 s m args below meth c H1 locs1 (cells + 1) (slots + 6) Q (F0 m 1352 ls1 [])) : W p l e room_1 s m args below meth c H locs cells slots Q (F0 m 1044 ls []) := by
  have hbA : ¬ Alw s b := Nat.not_le.mpr hbl
  have hx := F.1
  have hb := F.2.1
  unfold stw at hf
  obtain ⟨r, hr, hf⟩ := g_bnd hf
  obtain ⟨q, hq, hf⟩ := g_bnd hf
  obtain ⟨t, ht, hf⟩ := g_bnd hf
  refine lv_aload_n hx hb dL_law_1044 rfl (lv_at hl 3 rfl) ?_
  refine law_arg (i := i) (k := 1) (a := a1) hx hb hSc hbl hbA hG.2.2 (by decide) (lv_at hl 4 rfl) (lv_at hl 0 rfl) hi1 ha1 dL_law_1045 dL_law_1046 dL_law_1048 dL_law_1049 dL_law_1050 ?_
  refine lv_aload_n hx hb dL_law_1051 rfl (lv_at hl 1 rfl) ?_
  refine g_callL (As := [.ref (h 0), .int a1, .ref (ho 0)]) (rest := []) (S' := [C8 E h 0, C2 E h (0+1) r.2.1.1, C6 E h (0+3) r.2.1.2.1, C5 E h (0+9) r.2.1.2.2.1.2.2, C6 E h ((0+9)+1) r.2.1.2.2.1.1, C7 E h ((0+9)+7) r.2.1.2.2.1.2.1, C3 E h (0+18) r.2.1.2.2.2.1, C0 E h (0+20) r.2.1.2.2.2.2, C9 E hm 0 m9, CO E ho 0 r.2.2]) F hK hNc hX hAB hG [0, 1, 2, 3, 4, 5, 6, 7, 9] rfl rfl (c_L_steps hst h 0 x a1 ho 0 ou hr) rfl (kL_146 F.2.2.2.2) rfl hl.1 rfl (lv_room (Nat.le_of_ble_eq_true rfl)) hc dL_law_1052 (fun H locs hG => ?_)
  refine lv_istore (lv' := [(5, .int r.1), (4, .int i), (3, .ref (ho 0)), (2, .ref (hm 0)), (1, .ref (h 0)), (0, .ref b)]) hx hb dL_law_1055 hl (by decide) rfl (fun ls hl => ?_)
  refine lv_aload_n hx hb dL_law_1057 rfl (lv_at hl 3 rfl) ?_
  refine law_arg (i := i) (k := 1) (a := a1) hx hb hSc hbl hbA hG.2.2 (by decide) (lv_at hl 5 rfl) (lv_at hl 1 rfl) hi1 ha1 dL_law_1058 dL_law_1059 dL_law_1061 dL_law_1062 dL_law_1063 ?_
  refine g_mv (S' := [C8 E h 0, C2 E h (0+1) r.2.1.1, C6 E h (0+3) r.2.1.2.1, C5 E h (0+9) r.2.1.2.2.1.2.2, C6 E h ((0+9)+1) r.2.1.2.2.1.1, C7 E h ((0+9)+7) r.2.1.2.2.1.2.1, C3 E h (0+18) r.2.1.2.2.2.1, C0 E h (0+20) r.2.1.2.2.2.2, C9 E hm 0 q.2, CO E ho 0 r.2.2]) (As := [.int a1]) (rest := []) F hK hX hAB hG [8] rfl rfl (c_X9_steps hm 0 m9 a1 hq) rfl (kL_148 F.2.2.2.2) rfl rfl rfl rfl hl.1 rfl (lv_room (Nat.le_of_ble_eq_true rfl)) hc dL_law_1064 (fun H locs hG => ?_)
  refine lv_istore (lv' := [(6, .int q.1), (5, .int r.1), (4, .int i), (3, .ref (ho 0)), (2, .ref (hm 0)), (1, .ref (h 0)), (0, .ref b)]) hx hb dL_law_1067 hl (by decide) rfl (fun ls hl => ?_)
  refine lv_aload_n hx hb dL_law_1069 rfl (lv_at hl 4 rfl) ?_
  refine g_rv (As := []) (rest := []) F hK (hG.X hX hAB) hG.1 [8] rfl (c_X9_thrown hm 0 q.2 ht) (kL_84 F.2.2.2.2) rfl rfl rfl rfl hl.1 rfl (lv_room (Nat.le_of_ble_eq_true rfl)) hc dL_law_1070 ?_
  refine lv_iload hx hb dL_law_1073 (lv_at hl 1 rfl) ?_
  refine lv_icmp_eq (tgt := 1080) hx hb dL_law_1075 (by decide) (fun c1 => ?_) (fun c1 => ?_)
  · rw [if_pos c1] at hf
    refine lv_iload hx hb dL_law_1080 (lv_at hl 1 rfl) ?_
    refine lv_if_ne (tgt := 1097) hx hb dL_law_1082 (by decide) (fun c2 => ?_) (fun c2 => ?_)
    · rw [if_neg c2] at hf
      cases hf
      refine lv_goto (tgt := 1352) hx hb dL_law_1097 (by decide) ?_
      exact kk _ _ _ (lv_sub hl [2, 3, 4, 5, 6] rfl) hG
    · rw [if_pos c2] at hf
      refine lv_aload_n hx hb dL_law_1085 rfl (lv_at hl 3 rfl) ?_
      refine lv_iconst (v := 0) hx hb dL_law_1086 (by decide) ?_
      refine g_lald F hK hG.1 9 0 rfl rfl (x := r.2.2 0) rfl dL_law_1087 ?_
      refine lv_iload hx hb dL_law_1088 (lv_at hl 0 rfl) ?_
      refine lv_i2l hx hb dL_law_1090 rfl ?_
      refine g_lc_eq (tgt := 1097) hx hb dL_law_1091 dL_law_1092 (by decide) (fun c3 => ?_) (fun c3 => ?_)
      · rw [if_pos c3] at hf
        cases hf
        refine lv_goto (tgt := 1352) hx hb dL_law_1097 (by decide) ?_
        exact kk _ _ _ (lv_sub hl [2, 3, 4, 5, 6] rfl) hG
      · rw [if_neg c3] at hf
        cases hf
  · rw [if_neg c1] at hf
    cases hf
theorem law_19 (hst : l.stackTraces = false) (F : gF p m c cL_law 9 s args RL) (hK : gK E s) (hNc : gNc s) (hX : gX E s s.heap) (hAB : ∀ q, Alw s q → gB E q) (hSc : va_X b L xs s s.heap) (hbl : b < s.heap.size) (hi1 : vp_in (i + 1) L) (hi2 : vp_in (i + 2) L) (ha1 : xs (i + 1).toNatClampNeg = a1) (ha2 : xs (i + 2).toNatClampNeg = a2) (hl : lv_has ls 9 [(4, .int i), (3, .ref (ho 0)), (2, .ref (hm 0)), (1, .ref (h 0)), (0, .ref b)]) (hc : cells + 1 ≤ room_1.cells ∧ slots + 6 ≤ room_1.slots) (hG : gS E (Alw s) s.heap (WL E h hm ho x m9 ou) H locs) (hf : stw (f_L_presses x a1 (nzB a2) ou) (f_X9_presses m9 a1 (nzB a2)) = some o) (kk : ∀ (H1 : Heap) (locs1 : List Loc) (ls1 : Array Slot), lv_has ls1 9 [(4, .int i), (3, .ref (ho 0)), (2, .ref (hm 0)), (1, .ref (h 0)), (0, .ref b)] → gS E (Alw s) s.heap (WL E h hm ho o.1 o.2.1 o.2.2) H1 locs1 → W p l e room_1 s m args below meth c H1 locs1 (cells + 1) (slots + 6) Q (F0 m 1352 ls1 [])) : W p l e room_1 s m args below meth c H locs cells slots Q (F0 m 1100 ls []) := by
  have hbA : ¬ Alw s b := Nat.not_le.mpr hbl
  have hx := F.1
  have hb := F.2.1
  unfold stw at hf
  obtain ⟨r, hr, hf⟩ := g_bnd hf
  obtain ⟨q, hq, hf⟩ := g_bnd hf
  obtain ⟨t, ht, hf⟩ := g_bnd hf
  refine lv_aload_n hx hb dL_law_1100 rfl (lv_at hl 3 rfl) ?_
  refine law_arg (i := i) (k := 1) (a := a1) hx hb hSc hbl hbA hG.2.2 (by decide) (lv_at hl 4 rfl) (lv_at hl 0 rfl) hi1 ha1 dL_law_1101 dL_law_1102 dL_law_1104 dL_law_1105 dL_law_1106 ?_
  refine law_arg (i := i) (k := 2) (a := a2) hx hb hSc hbl hbA hG.2.2 (by decide) (lv_at hl 4 rfl) (lv_at hl 0 rfl) hi2 ha2 dL_law_1107 dL_law_1108 dL_law_1110 dL_law_1111 dL_law_1112 ?_
  refine law_nz hx hb dL_law_1113 dL_law_1116 dL_law_1117 dL_law_1120 ?_
  refine lv_aload_n hx hb dL_law_1121 rfl (lv_at hl 1 rfl) ?_
  refine g_callL (As := [.ref (h 0), .int a1, .int (nzB a2), .ref (ho 0)]) (rest := []) (S' := [C8 E h 0, C2 E h (0+1) r.2.1.1, C6 E h (0+3) r.2.1.2.1, C5 E h (0+9) r.2.1.2.2.1.2.2, C6 E h ((0+9)+1) r.2.1.2.2.1.1, C7 E h ((0+9)+7) r.2.1.2.2.1.2.1, C3 E h (0+18) r.2.1.2.2.2.1, C0 E h (0+20) r.2.1.2.2.2.2, C9 E hm 0 m9, CO E ho 0 r.2.2]) F hK hNc hX hAB hG [0, 1, 2, 3, 4, 5, 6, 7, 9] rfl rfl (c_L_presses hst h 0 x a1 (nzB a2) ho 0 ou hr) rfl (kL_149 F.2.2.2.2) rfl hl.1 rfl (lv_room (Nat.le_of_ble_eq_true rfl)) hc dL_law_1122 (fun H locs hG => ?_)
  refine lv_istore (lv' := [(5, .int r.1), (4, .int i), (3, .ref (ho 0)), (2, .ref (hm 0)), (1, .ref (h 0)), (0, .ref b)]) hx hb dL_law_1125 hl (by decide) rfl (fun ls hl => ?_)
  refine lv_aload_n hx hb dL_law_1127 rfl (lv_at hl 3 rfl) ?_
  refine law_arg (i := i) (k := 1) (a := a1) hx hb hSc hbl hbA hG.2.2 (by decide) (lv_at hl 5 rfl) (lv_at hl 1 rfl) hi1 ha1 dL_law_1128 dL_law_1129 dL_law_1131 dL_law_1132 dL_law_1133 ?_
  refine law_arg (i := i) (k := 2) (a := a2) hx hb hSc hbl hbA hG.2.2 (by decide) (lv_at hl 5 rfl) (lv_at hl 1 rfl) hi2 ha2 dL_law_1134 dL_law_1135 dL_law_1137 dL_law_1138 dL_law_1139 ?_
  refine law_nz hx hb dL_law_1140 dL_law_1143 dL_law_1144 dL_law_1147 ?_
  refine g_mv (S' := [C8 E h 0, C2 E h (0+1) r.2.1.1, C6 E h (0+3) r.2.1.2.1, C5 E h (0+9) r.2.1.2.2.1.2.2, C6 E h ((0+9)+1) r.2.1.2.2.1.1, C7 E h ((0+9)+7) r.2.1.2.2.1.2.1, C3 E h (0+18) r.2.1.2.2.2.1, C0 E h (0+20) r.2.1.2.2.2.2, C9 E hm 0 q.2, CO E ho 0 r.2.2]) (As := [.int a1, .int (nzB a2)]) (rest := []) F hK hX hAB hG [8] rfl rfl (c_X9_presses hm 0 m9 a1 (nzB a2) hq) rfl (kL_152 F.2.2.2.2) rfl rfl rfl rfl hl.1 rfl (lv_room (Nat.le_of_ble_eq_true rfl)) hc dL_law_1148 (fun H locs hG => ?_)
  refine lv_istore (lv' := [(6, .int q.1), (5, .int r.1), (4, .int i), (3, .ref (ho 0)), (2, .ref (hm 0)), (1, .ref (h 0)), (0, .ref b)]) hx hb dL_law_1151 hl (by decide) rfl (fun ls hl => ?_)
  refine lv_aload_n hx hb dL_law_1153 rfl (lv_at hl 4 rfl) ?_
  refine g_rv (As := []) (rest := []) F hK (hG.X hX hAB) hG.1 [8] rfl (c_X9_thrown hm 0 q.2 ht) (kL_84 F.2.2.2.2) rfl rfl rfl rfl hl.1 rfl (lv_room (Nat.le_of_ble_eq_true rfl)) hc dL_law_1154 ?_
  refine lv_iload hx hb dL_law_1157 (lv_at hl 1 rfl) ?_
  refine lv_icmp_eq (tgt := 1164) hx hb dL_law_1159 (by decide) (fun c1 => ?_) (fun c1 => ?_)
  · rw [if_pos c1] at hf
    refine lv_iload hx hb dL_law_1164 (lv_at hl 1 rfl) ?_
    refine lv_if_ne (tgt := 1181) hx hb dL_law_1166 (by decide) (fun c2 => ?_) (fun c2 => ?_)
    · rw [if_neg c2] at hf
      cases hf
      refine lv_goto (tgt := 1352) hx hb dL_law_1181 (by decide) ?_
      exact kk _ _ _ (lv_sub hl [2, 3, 4, 5, 6] rfl) hG
    · rw [if_pos c2] at hf
      refine lv_aload_n hx hb dL_law_1169 rfl (lv_at hl 3 rfl) ?_
      refine lv_iconst (v := 0) hx hb dL_law_1170 (by decide) ?_
      refine g_lald F hK hG.1 9 0 rfl rfl (x := r.2.2 0) rfl dL_law_1171 ?_
      refine lv_iload hx hb dL_law_1172 (lv_at hl 0 rfl) ?_
      refine lv_i2l hx hb dL_law_1174 rfl ?_
      refine g_lc_eq (tgt := 1181) hx hb dL_law_1175 dL_law_1176 (by decide) (fun c3 => ?_) (fun c3 => ?_)
      · rw [if_pos c3] at hf
        cases hf
        refine lv_goto (tgt := 1352) hx hb dL_law_1181 (by decide) ?_
        exact kk _ _ _ (lv_sub hl [2, 3, 4, 5, 6] rfl) hG
      · rw [if_neg c3] at hf
        cases hf
  · rw [if_neg c1] at hf
    cases hf
theorem law_20 (hst : l.stackTraces = false) (F : gF p m c cL_law 9 s args RL) (hK : gK E s) (hNc : gNc s) (hX : gX E s s.heap) (hAB : ∀ q, Alw s q → gB E q) (hSc : va_X b L xs s s.heap) (hbl : b < s.heap.size) (hi1 : vp_in (i + 1) L) (hi2 : vp_in (i + 2) L) (ha1 : xs (i + 1).toNatClampNeg = a1) (ha2 : xs (i + 2).toNatClampNeg = a2) (hl : lv_has ls 9 [(4, .int i), (3, .ref (ho 0)), (2, .ref (hm 0)), (1, .ref (h 0)), (0, .ref b)]) (hc : cells + 1 ≤ room_1.cells ∧ slots + 6 ≤ room_1.slots) (hG : gS E (Alw s) s.heap (WL E h hm ho x m9 ou) H locs) (hf : Option.bind (f_X8_clashing x) (fun r => Option.bind (f_X9_clashing m9) (fun q => if r = q.1 then some (x, q.2, ou) else none)) = some o) (kk : ∀ (H1 : Heap) (locs1 : List Loc) (ls1 : Array Slot), lv_has ls1 9 [(4, .int i), (3, .ref (ho 0)), (2, .ref (hm 0)), (1, .ref (h 0)), (0, .ref b)] → gS E (Alw s) s.heap (WL E h hm ho o.1 o.2.1 o.2.2) H1 locs1 → W p l e room_1 s m args below meth c H1 locs1 (cells + 1) (slots + 6) Q (F0 m 1352 ls1 [])) : W p l e room_1 s m args below meth c H locs cells slots Q (F0 m 1184 ls []) := by
  have hbA : ¬ Alw s b := Nat.not_le.mpr hbl
  have hx := F.1
  have hb := F.2.1
  obtain ⟨r, hr, hf⟩ := g_bnd hf
  obtain ⟨q, hq, hf⟩ := g_bnd hf
  refine lv_aload_n hx hb dL_law_1184 rfl (lv_at hl 3 rfl) ?_
  refine g_rv (As := []) (rest := []) F hK (hG.X hX hAB) hG.1 [0, 1, 2, 3, 4, 5, 6, 7] rfl (c_X8_clashing h 0 x hr) (kL_153 F.2.2.2.2) rfl rfl rfl rfl hl.1 rfl (lv_room (Nat.le_of_ble_eq_true rfl)) ⟨Nat.le_trans (Nat.le_succ _) hc.1, Nat.le_trans (Nat.le_add_right _ 6) hc.2⟩ dL_law_1185 ?_
  refine lv_aload_n hx hb dL_law_1188 rfl (lv_at hl 2 rfl) ?_
  refine g_mv (S' := [C8 E h 0, C2 E h (0+1) x.1, C6 E h (0+3) x.2.1, C5 E h (0+9) x.2.2.1.2.2, C6 E h ((0+9)+1) x.2.2.1.1, C7 E h ((0+9)+7) x.2.2.1.2.1, C3 E h (0+18) x.2.2.2.1, C0 E h (0+20) x.2.2.2.2, C9 E hm 0 q.2, CO E ho 0 ou]) (As := []) (rest := [.int r]) F hK hX hAB hG [8] rfl rfl (c_X9_clashing hm 0 m9 hq) rfl (kL_156 F.2.2.2.2) rfl rfl rfl rfl hl.1 rfl (lv_room (Nat.le_of_ble_eq_true rfl)) ⟨Nat.le_trans (Nat.le_succ _) hc.1, Nat.le_trans (Nat.le_add_right _ 6) hc.2⟩ dL_law_1189 (fun H locs hG => ?_)
  refine lv_icmp_eq (tgt := 1352) hx hb dL_law_1192 (by decide) (fun c1 => ?_) (fun c1 => ?_)
  · rw [if_pos c1] at hf
    cases hf
    refine W.widen (Nat.le_add_right cells 1) (Nat.le_add_right slots 6) ?_
    exact kk _ _ _ (lv_sub hl [0, 1, 2, 3, 4] rfl) hG
  · rw [if_neg c1] at hf
    cases hf
theorem law_21 (hst : l.stackTraces = false) (F : gF p m c cL_law 9 s args RL) (hK : gK E s) (hNc : gNc s) (hX : gX E s s.heap) (hAB : ∀ q, Alw s q → gB E q) (hSc : va_X b L xs s s.heap) (hbl : b < s.heap.size) (hi1 : vp_in (i + 1) L) (hi2 : vp_in (i + 2) L) (ha1 : xs (i + 1).toNatClampNeg = a1) (ha2 : xs (i + 2).toNatClampNeg = a2) (hl : lv_has ls 9 [(4, .int i), (3, .ref (ho 0)), (2, .ref (hm 0)), (1, .ref (h 0)), (0, .ref b)]) (hc : cells + 1 ≤ room_1.cells ∧ slots + 6 ≤ room_1.slots) (hG : gS E (Alw s) s.heap (WL E h hm ho x m9 ou) H locs) (hf : Option.bind (f_X8_saving x) (fun r => Option.bind (f_X9_saving m9) (fun q => if Op.cmpValue (FP.dcmp r q.1) .l = 0 then some (x, q.2, ou) else none)) = some o) (kk : ∀ (H1 : Heap) (locs1 : List Loc) (ls1 : Array Slot), lv_has ls1 9 [(4, .int i), (3, .ref (ho 0)), (2, .ref (hm 0)), (1, .ref (h 0)), (0, .ref b)] → gS E (Alw s) s.heap (WL E h hm ho o.1 o.2.1 o.2.2) H1 locs1 → W p l e room_1 s m args below meth c H1 locs1 (cells + 1) (slots + 6) Q (F0 m 1352 ls1 [])) : W p l e room_1 s m args below meth c H locs cells slots Q (F0 m 1197 ls []) := by
  have hbA : ¬ Alw s b := Nat.not_le.mpr hbl
  have hx := F.1
  have hb := F.2.1
  obtain ⟨r, hr, hf⟩ := g_bnd hf
  obtain ⟨q, hq, hf⟩ := g_bnd hf
  refine lv_aload_n hx hb dL_law_1197 rfl (lv_at hl 3 rfl) ?_
  refine g_rv (As := []) (rest := []) F hK (hG.X hX hAB) hG.1 [0, 1, 2, 3, 4, 5, 6, 7] rfl (c_X8_saving h 0 x hr) (kL_157 F.2.2.2.2) rfl rfl rfl rfl hl.1 rfl (lv_room (Nat.le_of_ble_eq_true rfl)) ⟨Nat.le_trans (Nat.le_succ _) hc.1, Nat.le_trans (Nat.le_add_right _ 6) hc.2⟩ dL_law_1198 ?_
  refine lv_dstore (lv' := [(5, .double r), (4, .int i), (3, .ref (ho 0)), (2, .ref (hm 0)), (1, .ref (h 0)), (0, .ref b)]) hx hb dL_law_1201 hl (by decide) rfl (fun ls hl => ?_)
  refine lv_aload_n hx hb dL_law_1203 rfl (lv_at hl 3 rfl) ?_
  refine g_mv (S' := [C8 E h 0, C2 E h (0+1) x.1, C6 E h (0+3) x.2.1, C5 E h (0+9) x.2.2.1.2.2, C6 E h ((0+9)+1) x.2.2.1.1, C7 E h ((0+9)+7) x.2.2.1.2.1, C3 E h (0+18) x.2.2.2.1, C0 E h (0+20) x.2.2.2.2, C9 E hm 0 q.2, CO E ho 0 ou]) (As := []) (rest := []) F hK hX hAB hG [8] rfl rfl (c_X9_saving hm 0 m9 hq) rfl (kL_161 F.2.2.2.2) rfl rfl rfl rfl hl.1 rfl (lv_room (Nat.le_of_ble_eq_true rfl)) ⟨Nat.le_trans (Nat.le_succ _) hc.1, Nat.le_trans (Nat.le_add_right _ 6) hc.2⟩ dL_law_1204 (fun H locs hG => ?_)
  refine lv_dstore (lv' := [(7, .double q.1), (5, .double r), (4, .int i), (3, .ref (ho 0)), (2, .ref (hm 0)), (1, .ref (h 0)), (0, .ref b)]) hx hb dL_law_1207 hl (by decide) rfl (fun ls hl => ?_)
  refine lv_dload hx hb dL_law_1209 (lv_at hl 1 rfl) ?_
  refine lv_dload hx hb dL_law_1211 (lv_at hl 0 rfl) ?_
  refine lv_dcmp hx hb dL_law_1213 ?_
  refine lv_if_eq (tgt := 1235) hx hb dL_law_1214 (by decide) (fun c1 => ?_) (fun c1 => ?_)
  · rw [if_pos c1] at hf
    cases hf
    refine W.widen (Nat.le_add_right cells 1) (Nat.le_add_right slots 6) ?_
    refine lv_goto (tgt := 1352) hx hb dL_law_1235 (by decide) ?_
    exact kk _ _ _ (lv_sub hl [2, 3, 4, 5, 6] rfl) hG
  · rw [if_neg c1] at hf
    cases hf
theorem law_22 (hst : l.stackTraces = false) (F : gF p m c cL_law 9 s args RL) (hK : gK E s) (hNc : gNc s) (hX : gX E s s.heap) (hAB : ∀ q, Alw s q → gB E q) (hSc : va_X b L xs s s.heap) (hbl : b < s.heap.size) (hi1 : vp_in (i + 1) L) (hi2 : vp_in (i + 2) L) (ha1 : xs (i + 1).toNatClampNeg = a1) (ha2 : xs (i + 2).toNatClampNeg = a2) (hl : lv_has ls 9 [(4, .int i), (3, .ref (ho 0)), (2, .ref (hm 0)), (1, .ref (h 0)), (0, .ref b)]) (hc : cells + 1 ≤ room_1.cells ∧ slots + 6 ≤ room_1.slots) (hG : gS E (Alw s) s.heap (WL E h hm ho x m9 ou) H locs) (hf : stw (f_L_shortest x a1 ou) (f_X9_shortest m9 a1) = some o) (kk : ∀ (H1 : Heap) (locs1 : List Loc) (ls1 : Array Slot), lv_has ls1 9 [(4, .int i), (3, .ref (ho 0)), (2, .ref (hm 0)), (1, .ref (h 0)), (0, .ref b)] → gS E (Alw s) s.heap (WL E h hm ho o.1 o.2.1 o.2.2) H1 locs1 → W p l e room_1 s m args below meth c H1 locs1 (cells + 1) (slots + 6) Q (F0 m 1352 ls1 [])) : W p l e room_1 s m args below meth c H locs cells slots Q (F0 m 1238 ls []) := by
  have hbA : ¬ Alw s b := Nat.not_le.mpr hbl
  have hx := F.1
  have hb := F.2.1
  unfold stw at hf
  obtain ⟨r, hr, hf⟩ := g_bnd hf
  obtain ⟨q, hq, hf⟩ := g_bnd hf
  obtain ⟨t, ht, hf⟩ := g_bnd hf
  refine lv_aload_n hx hb dL_law_1238 rfl (lv_at hl 3 rfl) ?_
  refine law_arg (i := i) (k := 1) (a := a1) hx hb hSc hbl hbA hG.2.2 (by decide) (lv_at hl 4 rfl) (lv_at hl 0 rfl) hi1 ha1 dL_law_1239 dL_law_1240 dL_law_1242 dL_law_1243 dL_law_1244 ?_
  refine lv_aload_n hx hb dL_law_1245 rfl (lv_at hl 1 rfl) ?_
  refine g_callL (As := [.ref (h 0), .int a1, .ref (ho 0)]) (rest := []) (S' := [C8 E h 0, C2 E h (0+1) r.2.1.1, C6 E h (0+3) r.2.1.2.1, C5 E h (0+9) r.2.1.2.2.1.2.2, C6 E h ((0+9)+1) r.2.1.2.2.1.1, C7 E h ((0+9)+7) r.2.1.2.2.1.2.1, C3 E h (0+18) r.2.1.2.2.2.1, C0 E h (0+20) r.2.1.2.2.2.2, C9 E hm 0 m9, CO E ho 0 r.2.2]) F hK hNc hX hAB hG [0, 1, 2, 3, 4, 5, 6, 7, 9] rfl rfl (c_L_shortest hst h 0 x a1 ho 0 ou hr) rfl (kL_162 F.2.2.2.2) rfl hl.1 rfl (lv_room (Nat.le_of_ble_eq_true rfl)) hc dL_law_1246 (fun H locs hG => ?_)
  refine lv_istore (lv' := [(5, .int r.1), (4, .int i), (3, .ref (ho 0)), (2, .ref (hm 0)), (1, .ref (h 0)), (0, .ref b)]) hx hb dL_law_1249 hl (by decide) rfl (fun ls hl => ?_)
  refine lv_aload_n hx hb dL_law_1251 rfl (lv_at hl 3 rfl) ?_
  refine law_arg (i := i) (k := 1) (a := a1) hx hb hSc hbl hbA hG.2.2 (by decide) (lv_at hl 5 rfl) (lv_at hl 1 rfl) hi1 ha1 dL_law_1252 dL_law_1253 dL_law_1255 dL_law_1256 dL_law_1257 ?_
  refine g_mv (S' := [C8 E h 0, C2 E h (0+1) r.2.1.1, C6 E h (0+3) r.2.1.2.1, C5 E h (0+9) r.2.1.2.2.1.2.2, C6 E h ((0+9)+1) r.2.1.2.2.1.1, C7 E h ((0+9)+7) r.2.1.2.2.1.2.1, C3 E h (0+18) r.2.1.2.2.2.1, C0 E h (0+20) r.2.1.2.2.2.2, C9 E hm 0 q.2, CO E ho 0 r.2.2]) (As := [.int a1]) (rest := []) F hK hX hAB hG [8] rfl rfl (c_X9_shortest hm 0 m9 a1 hq) rfl (kL_164 F.2.2.2.2) rfl rfl rfl rfl hl.1 rfl (lv_room (Nat.le_of_ble_eq_true rfl)) hc dL_law_1258 (fun H locs hG => ?_)
  refine lv_istore (lv' := [(6, .int q.1), (5, .int r.1), (4, .int i), (3, .ref (ho 0)), (2, .ref (hm 0)), (1, .ref (h 0)), (0, .ref b)]) hx hb dL_law_1261 hl (by decide) rfl (fun ls hl => ?_)
  refine lv_aload_n hx hb dL_law_1263 rfl (lv_at hl 4 rfl) ?_
  refine g_rv (As := []) (rest := []) F hK (hG.X hX hAB) hG.1 [8] rfl (c_X9_thrown hm 0 q.2 ht) (kL_84 F.2.2.2.2) rfl rfl rfl rfl hl.1 rfl (lv_room (Nat.le_of_ble_eq_true rfl)) hc dL_law_1264 ?_
  refine lv_iload hx hb dL_law_1267 (lv_at hl 1 rfl) ?_
  refine lv_icmp_eq (tgt := 1274) hx hb dL_law_1269 (by decide) (fun c1 => ?_) (fun c1 => ?_)
  · rw [if_pos c1] at hf
    refine lv_iload hx hb dL_law_1274 (lv_at hl 1 rfl) ?_
    refine lv_if_ne (tgt := 1291) hx hb dL_law_1276 (by decide) (fun c2 => ?_) (fun c2 => ?_)
    · rw [if_neg c2] at hf
      cases hf
      refine lv_goto (tgt := 1352) hx hb dL_law_1291 (by decide) ?_
      exact kk _ _ _ (lv_sub hl [2, 3, 4, 5, 6] rfl) hG
    · rw [if_pos c2] at hf
      refine lv_aload_n hx hb dL_law_1279 rfl (lv_at hl 3 rfl) ?_
      refine lv_iconst (v := 0) hx hb dL_law_1280 (by decide) ?_
      refine g_lald F hK hG.1 9 0 rfl rfl (x := r.2.2 0) rfl dL_law_1281 ?_
      refine lv_iload hx hb dL_law_1282 (lv_at hl 0 rfl) ?_
      refine lv_i2l hx hb dL_law_1284 rfl ?_
      refine g_lc_eq (tgt := 1291) hx hb dL_law_1285 dL_law_1286 (by decide) (fun c3 => ?_) (fun c3 => ?_)
      · rw [if_pos c3] at hf
        cases hf
        refine lv_goto (tgt := 1352) hx hb dL_law_1291 (by decide) ?_
        exact kk _ _ _ (lv_sub hl [2, 3, 4, 5, 6] rfl) hG
      · rw [if_neg c3] at hf
        cases hf
  · rw [if_neg c1] at hf
    cases hf
theorem law_23 (hst : l.stackTraces = false) (F : gF p m c cL_law 9 s args RL) (hK : gK E s) (hNc : gNc s) (hX : gX E s s.heap) (hAB : ∀ q, Alw s q → gB E q) (hSc : va_X b L xs s s.heap) (hbl : b < s.heap.size) (hi1 : vp_in (i + 1) L) (hi2 : vp_in (i + 2) L) (ha1 : xs (i + 1).toNatClampNeg = a1) (ha2 : xs (i + 2).toNatClampNeg = a2) (hl : lv_has ls 9 [(4, .int i), (3, .ref (ho 0)), (2, .ref (hm 0)), (1, .ref (h 0)), (0, .ref b)]) (hc : cells + 1 ≤ room_1.cells ∧ slots + 6 ≤ room_1.slots) (hG : gS E (Alw s) s.heap (WL E h hm ho x m9 ou) H locs) (hf : stw (f_L_undo x ou) (f_X9_undo m9) = some o) (kk : ∀ (H1 : Heap) (locs1 : List Loc) (ls1 : Array Slot), lv_has ls1 9 [(4, .int i), (3, .ref (ho 0)), (2, .ref (hm 0)), (1, .ref (h 0)), (0, .ref b)] → gS E (Alw s) s.heap (WL E h hm ho o.1 o.2.1 o.2.2) H1 locs1 → W p l e room_1 s m args below meth c H1 locs1 (cells + 1) (slots + 6) Q (F0 m 1352 ls1 [])) : W p l e room_1 s m args below meth c H locs cells slots Q (F0 m 1294 ls []) := by
  have hbA : ¬ Alw s b := Nat.not_le.mpr hbl
  have hx := F.1
  have hb := F.2.1
  unfold stw at hf
  obtain ⟨r, hr, hf⟩ := g_bnd hf
  obtain ⟨q, hq, hf⟩ := g_bnd hf
  obtain ⟨t, ht, hf⟩ := g_bnd hf
  refine lv_aload_n hx hb dL_law_1294 rfl (lv_at hl 3 rfl) ?_
  refine lv_aload_n hx hb dL_law_1295 rfl (lv_at hl 1 rfl) ?_
  refine g_callL (As := [.ref (h 0), .ref (ho 0)]) (rest := []) (S' := [C8 E h 0, C2 E h (0+1) r.2.1.1, C6 E h (0+3) r.2.1.2.1, C5 E h (0+9) r.2.1.2.2.1.2.2, C6 E h ((0+9)+1) r.2.1.2.2.1.1, C7 E h ((0+9)+7) r.2.1.2.2.1.2.1, C3 E h (0+18) r.2.1.2.2.2.1, C0 E h (0+20) r.2.1.2.2.2.2, C9 E hm 0 m9, CO E ho 0 r.2.2]) F hK hNc hX hAB hG [0, 1, 2, 3, 4, 5, 6, 7, 9] rfl rfl (c_L_undo hst h 0 x ho 0 ou hr) rfl (kL_165 F.2.2.2.2) rfl hl.1 rfl (lv_room (Nat.le_of_ble_eq_true rfl)) hc dL_law_1296 (fun H locs hG => ?_)
  refine lv_istore (lv' := [(5, .int r.1), (4, .int i), (3, .ref (ho 0)), (2, .ref (hm 0)), (1, .ref (h 0)), (0, .ref b)]) hx hb dL_law_1299 hl (by decide) rfl (fun ls hl => ?_)
  refine lv_aload_n hx hb dL_law_1301 rfl (lv_at hl 3 rfl) ?_
  refine g_mv (S' := [C8 E h 0, C2 E h (0+1) r.2.1.1, C6 E h (0+3) r.2.1.2.1, C5 E h (0+9) r.2.1.2.2.1.2.2, C6 E h ((0+9)+1) r.2.1.2.2.1.1, C7 E h ((0+9)+7) r.2.1.2.2.1.2.1, C3 E h (0+18) r.2.1.2.2.2.1, C0 E h (0+20) r.2.1.2.2.2.2, C9 E hm 0 q.2, CO E ho 0 r.2.2]) (As := []) (rest := []) F hK hX hAB hG [8] rfl rfl (c_X9_undo hm 0 m9 hq) rfl (kL_167 F.2.2.2.2) rfl rfl rfl rfl hl.1 rfl (lv_room (Nat.le_of_ble_eq_true rfl)) hc dL_law_1302 (fun H locs hG => ?_)
  refine lv_istore (lv' := [(6, .int q.1), (5, .int r.1), (4, .int i), (3, .ref (ho 0)), (2, .ref (hm 0)), (1, .ref (h 0)), (0, .ref b)]) hx hb dL_law_1305 hl (by decide) rfl (fun ls hl => ?_)
  refine lv_aload_n hx hb dL_law_1307 rfl (lv_at hl 4 rfl) ?_
  refine g_rv (As := []) (rest := []) F hK (hG.X hX hAB) hG.1 [8] rfl (c_X9_thrown hm 0 q.2 ht) (kL_84 F.2.2.2.2) rfl rfl rfl rfl hl.1 rfl (lv_room (Nat.le_of_ble_eq_true rfl)) hc dL_law_1308 ?_
  refine lv_iload hx hb dL_law_1311 (lv_at hl 1 rfl) ?_
  refine lv_icmp_eq (tgt := 1318) hx hb dL_law_1313 (by decide) (fun c1 => ?_) (fun c1 => ?_)
  · rw [if_pos c1] at hf
    refine lv_iload hx hb dL_law_1318 (lv_at hl 1 rfl) ?_
    refine lv_if_ne (tgt := 1335) hx hb dL_law_1320 (by decide) (fun c2 => ?_) (fun c2 => ?_)
    · rw [if_neg c2] at hf
      cases hf
      refine lv_goto (tgt := 1352) hx hb dL_law_1335 (by decide) ?_
      exact kk _ _ _ (lv_sub hl [2, 3, 4, 5, 6] rfl) hG
    · rw [if_pos c2] at hf
      refine lv_aload_n hx hb dL_law_1323 rfl (lv_at hl 3 rfl) ?_
      refine lv_iconst (v := 0) hx hb dL_law_1324 (by decide) ?_
      refine g_lald F hK hG.1 9 0 rfl rfl (x := r.2.2 0) rfl dL_law_1325 ?_
      refine lv_iload hx hb dL_law_1326 (lv_at hl 0 rfl) ?_
      refine lv_i2l hx hb dL_law_1328 rfl ?_
      refine g_lc_eq (tgt := 1335) hx hb dL_law_1329 dL_law_1330 (by decide) (fun c3 => ?_) (fun c3 => ?_)
      · rw [if_pos c3] at hf
        cases hf
        refine lv_goto (tgt := 1352) hx hb dL_law_1335 (by decide) ?_
        exact kk _ _ _ (lv_sub hl [2, 3, 4, 5, 6] rfl) hG
      · rw [if_neg c3] at hf
        cases hf
  · rw [if_neg c1] at hf
    cases hf
theorem law_24 (hst : l.stackTraces = false) (F : gF p m c cL_law 9 s args RL) (hK : gK E s) (hNc : gNc s) (hX : gX E s s.heap) (hAB : ∀ q, Alw s q → gB E q) (hSc : va_X b L xs s s.heap) (hbl : b < s.heap.size) (hi1 : vp_in (i + 1) L) (hi2 : vp_in (i + 2) L) (ha1 : xs (i + 1).toNatClampNeg = a1) (ha2 : xs (i + 2).toNatClampNeg = a2) (hl : lv_has ls 9 [(4, .int i), (3, .ref (ho 0)), (2, .ref (hm 0)), (1, .ref (h 0)), (0, .ref b)]) (hc : cells + 1 ≤ room_1.cells ∧ slots + 6 ≤ room_1.slots) (hG : gS E (Alw s) s.heap (WL E h hm ho x m9 ou) H locs) (hf : Option.bind (f_X8_digest x) (fun r => Option.bind (f_X9_digest m9) (fun q => if r.1 = q.1 then some ((x.1, x.2.1, (x.2.2.1.1, x.2.2.1.2.1, x.2.2.1.2.2), x.2.2.2.1, r.2), q.2, ou) else none)) = some o) (kk : ∀ (H1 : Heap) (locs1 : List Loc) (ls1 : Array Slot), lv_has ls1 9 [(4, .int i), (3, .ref (ho 0)), (2, .ref (hm 0)), (1, .ref (h 0)), (0, .ref b)] → gS E (Alw s) s.heap (WL E h hm ho o.1 o.2.1 o.2.2) H1 locs1 → W p l e room_1 s m args below meth c H1 locs1 (cells + 1) (slots + 6) Q (F0 m 1352 ls1 [])) : W p l e room_1 s m args below meth c H locs cells slots Q (F0 m 1338 ls []) := by
  have hbA : ¬ Alw s b := Nat.not_le.mpr hbl
  have hx := F.1
  have hb := F.2.1
  obtain ⟨r, hr, hf⟩ := g_bnd hf
  obtain ⟨q, hq, hf⟩ := g_bnd hf
  refine lv_aload_n hx hb dL_law_1338 rfl (lv_at hl 3 rfl) ?_
  refine g_mv (S' := [C8 E h 0, C2 E h (0+1) x.1, C6 E h (0+3) x.2.1, C5 E h (0+9) x.2.2.1.2.2, C6 E h ((0+9)+1) x.2.2.1.1, C7 E h ((0+9)+7) x.2.2.1.2.1, C3 E h (0+18) x.2.2.2.1, C0 E h (0+20) r.2, C9 E hm 0 m9, CO E ho 0 ou]) (As := []) (rest := []) F hK hX hAB hG [0, 1, 2, 3, 4, 5, 6, 7] rfl rfl (c_X8_digest h 0 x hr) rfl (kL_168 F.2.2.2.2) rfl rfl rfl rfl hl.1 rfl (lv_room (Nat.le_of_ble_eq_true rfl)) ⟨Nat.le_trans (Nat.le_succ _) hc.1, Nat.le_trans (Nat.le_add_right _ 6) hc.2⟩ dL_law_1339 (fun H locs hG => ?_)
  refine lv_aload_n hx hb dL_law_1342 rfl (lv_at hl 2 rfl) ?_
  refine g_mv (S' := [C8 E h 0, C2 E h (0+1) x.1, C6 E h (0+3) x.2.1, C5 E h (0+9) x.2.2.1.2.2, C6 E h ((0+9)+1) x.2.2.1.1, C7 E h ((0+9)+7) x.2.2.1.2.1, C3 E h (0+18) x.2.2.2.1, C0 E h (0+20) r.2, C9 E hm 0 q.2, CO E ho 0 ou]) (As := []) (rest := [.long r.1]) F hK hX hAB hG [8] rfl rfl (c_X9_digest hm 0 m9 hq) rfl (kL_172 F.2.2.2.2) rfl rfl rfl rfl hl.1 rfl (lv_room (Nat.le_of_ble_eq_true rfl)) ⟨Nat.le_trans (Nat.le_succ _) hc.1, Nat.le_trans (Nat.le_add_right _ 6) hc.2⟩ dL_law_1343 (fun H locs hG => ?_)
  refine g_lc_eq (tgt := 1352) hx hb dL_law_1346 dL_law_1347 (by decide) (fun c1 => ?_) (fun c1 => ?_)
  · rw [if_pos c1] at hf
    cases hf
    refine W.widen (Nat.le_add_right cells 1) (Nat.le_add_right slots 6) ?_
    exact kk _ _ _ (lv_sub hl [0, 1, 2, 3, 4] rfl) hG
  · rw [if_neg c1] at hf
    cases hf
end LAWC
/-- one triple of the script: the two answers agree, and this is what comes of them -/
def stp (k a1 a2 : Int32) (x : T8) (m9 : T9) (ou : Nat → Int64) : Option (T8 × T9 × (Nat → Int64)) :=
  if k = 0 then stw (f_L_append x a1 ou) (f_X9_append m9 a1) else
  if k = 1 then Option.bind (f_X8_clearText x) (fun r => Option.bind (f_X9_clearText m9) (fun q => if r.1 = q.1 then some ((r.2, x.2.1, (x.2.2.1.1, x.2.2.1.2.1, x.2.2.1.2.2), x.2.2.2.1, x.2.2.2.2), q.2, ou) else none)) else
  if k = 2 then Option.bind (f_X8_load x) (fun r => Option.bind (f_X9_load m9) (fun q => if r.1 = q.1 then some ((r.2.1, r.2.2.1, (r.2.2.2.2.1, x.2.2.1.2.1, r.2.2.2.1), r.2.2.2.2.2, x.2.2.2.2), q.2, ou) else none)) else
  if k = 3 then stw (f_L_setWays x (nzB a1) a2 ou) (f_X9_setWays m9 (nzB a1) a2) else
  if k = 4 then stw (f_L_word x a1 a2 ou) (f_X9_word m9 a1 a2) else
  if k = 5 then stw (f_L_letter x a1 a2 ou) (f_X9_letter m9 a1 a2) else
  if k = 6 then stw (f_L_press x a1 ou) (f_X9_press m9 a1) else
  if k = 7 then Option.bind (f_X8_pause x) (fun r => Option.bind (f_X9_pause m9) (fun q => if r.1 = q.1 then some ((x.1, x.2.1, (x.2.2.1.1, x.2.2.1.2.1, r.2.1), r.2.2, x.2.2.2.2), q.2, ou) else none)) else
  if k = 8 then Option.bind (f_X8_mode x (nzB a1)) (fun r => Option.bind (f_X9_mode m9 (nzB a1)) (fun q => if r.1 = q.1 then some ((x.1, x.2.1, (x.2.2.1.1, x.2.2.1.2.1, r.2.1), r.2.2.1, r.2.2.2), q.2, ou) else none)) else
  if k = 9 then stw (f_L_next x ou) (f_X9_next m9) else
  if k = 10 then stw (f_L_erase x ou) (f_X9_erase m9) else
  if k = 11 then stw (f_L_accept x ou) (f_X9_accept m9) else
  if k = 12 then stw (f_L_open x a1 ou) (f_X9_open m9 a1) else
  if k = 13 then stw (f_L_setting x a1 ou) (f_X9_setting m9 a1) else
  if k = 14 then stw (f_L_place x a1 ou) (f_X9_place m9 a1) else
  if k = 15 then stw (f_L_display x a1 ou) (f_X9_display m9 a1) else
  if k = 16 then stw (f_L_candidate x a1 ou) (f_X9_candidate m9 a1) else
  if k = 17 then stw (f_L_written x a1 a2 ou) (f_X9_written m9 a1 a2) else
  if k = 18 then stw (f_L_steps x a1 ou) (f_X9_steps m9 a1) else
  if k = 19 then stw (f_L_presses x a1 (nzB a2) ou) (f_X9_presses m9 a1 (nzB a2)) else
  if k = 20 then Option.bind (f_X8_clashing x) (fun r => Option.bind (f_X9_clashing m9) (fun q => if r = q.1 then some (x, q.2, ou) else none)) else
  if k = 21 then Option.bind (f_X8_saving x) (fun r => Option.bind (f_X9_saving m9) (fun q => if Op.cmpValue (FP.dcmp r q.1) .l = 0 then some (x, q.2, ou) else none)) else
  if k = 22 then stw (f_L_shortest x a1 ou) (f_X9_shortest m9 a1) else
  if k = 23 then stw (f_L_undo x ou) (f_X9_undo m9) else
  if k = 24 then Option.bind (f_X8_digest x) (fun r => Option.bind (f_X9_digest m9) (fun q => if r.1 = q.1 then some ((x.1, x.2.1, (x.2.2.1.1, x.2.2.1.2.1, x.2.2.1.2.2), x.2.2.2.1, r.2), q.2, ou) else none)) else
  some (x, m9, ou)
