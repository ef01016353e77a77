/-! ===== SavedStates: the row of references, and the four objects that it holds in some order ===== -/
def C3h (E : gEnv) (h : Nat → Nat) (b : Nat) (f : Nat → Option Nat) (n : Int32) : va_W := [(h b, .inr (2, [.ref (h (b+1)), .int n])), (h (b+1), .inl (E.2.1.2.2.2, 4, .inr (.inr (.inr (.inr f)))))]
def x3f (h : Nat → Nat) (p : Nat → Nat) : Nat → Option Nat := fun i => some (h (1000 + 10 * p i))
def S3 (E : gEnv) (h : Nat → Nat) (b : Nat) (f : Nat → Option Nat) (n : Int32) (st : Nat → T5) : List va_W := [C3h E h b f n, C5 E h (1000 + 10 * 0) (st 0).2.2, C6 E h (1000 + 10 * 0 + 1) (st 0).1, C7 E h (1000 + 10 * 0 + 7) (st 0).2.1, C5 E h (1000 + 10 * 1) (st 1).2.2, C6 E h (1000 + 10 * 1 + 1) (st 1).1, C7 E h (1000 + 10 * 1 + 7) (st 1).2.1, C5 E h (1000 + 10 * 2) (st 2).2.2, C6 E h (1000 + 10 * 2 + 1) (st 2).1, C7 E h (1000 + 10 * 2 + 7) (st 2).2.1, C5 E h (1000 + 10 * 3) (st 3).2.2, C6 E h (1000 + 10 * 3 + 1) (st 3).1, C7 E h (1000 + 10 * 3 + 7) (st 3).2.1]
theorem S3_P {E : gEnv} {h : Nat → Nat} {b : Nat} {w : T3} {R : List va_W} {H : Heap} : gP E (C3 E h b w :: R) H ↔ gP E (S3 E h b (x3f h w.1) w.2.2 w.2.1 ++ R) H := by
  rw [gP_flat, gP_flat]
  have e : (C3 E h b w :: R).flatten = (S3 E h b (x3f h w.1) w.2.2 w.2.1 ++ R).flatten := by
    rw [List.flatten_cons, List.flatten_append]
    rfl
  rw [e]
theorem S3_as {E : gEnv} {h : Nat → Nat} {b : Nat} {w : T3} {R : List va_W} : ((C3 E h b w :: R).map gas).flatten = ((S3 E h b (x3f h w.1) w.2.2 w.2.1 ++ R).map gas).flatten := by
  rw [List.map_cons, List.flatten_cons, List.map_append, List.flatten_append]
  rfl
theorem S3_S {E : gEnv} {A : Nat → Prop} {H0 : Heap} {h : Nat → Nat} {b : Nat} {w : T3} {R : List va_W} {H : Heap} {locs : List Loc} : gS E A H0 (C3 E h b w :: R) H locs ↔ gS E A H0 (S3 E h b (x3f h w.1) w.2.2 w.2.1 ++ R) H locs := by
  unfold gS gN
  rw [S3_P, S3_as]
section X3R
variable {p : Program} {l : Launch} {e : Env} {R : Room} {s : State} {m : MethodId} {args : Array Value} {below : List Frame} {meth : Method} {c : Code} {H : Heap} {locs : List Loc} {cells slots : Nat} {Q : State → Prop}
variable {cc : ByteArray} {nL pc : Nat} {ls : Array Slot} {rest : List Value} {own : String} {E : gEnv} {S : List va_W} {A : Nat → Prop} {H0 : Heap}
theorem g_aald (F : gF p m c cc nL s args own) (hK : gK E s) (hP : gP E S H) (k j : Nat) {sg : va_W} {a n : Nat} {f : Nat → Option Nat} {i : Int32} (hk : S[k]? = some sg) (hj : sg[j]? = some (a, .inl (E.2.1.2.2.2, n, .inr (.inr (.inr (.inr f)))))) (hin : vp_in i n) (hdg : decode cc pc = .ok (.aaload, 1))
    (kk : W p l e R s m args below meth c H locs cells slots Q (F0 m (pc + 1) ls (va_rf (f i.toNatClampNeg) :: rest))) : W p l e R s m args below meth c H locs cells slots Q (F0 m pc ls (.int i :: .ref a :: rest)) := va_aldq F.1 F.2.1 hK.1 (hP.seg k hk) j 3 hj rfl hin hdg kk
theorem g_aast (F : gF p m c cc nL s args own) (hK : gK E s) (hG : gS E A H0 S H locs) (k j k2 j2 : Nat) {sg sg2 : va_W} {a n v : Nat} {vs : List Value} {f : Nat → Option Nat} {i : Int32} (hk : S[k]? = some sg) (hj : sg[j]? = some (a, .inl (E.2.1.2.2.2, n, .inr (.inr (.inr (.inr f)))))) (hk2 : S[k2]? = some sg2) (hj2 : sg2[j2]? = some (v, .inr (3, vs))) (hin : vp_in i n) (hdg : decode cc pc = .ok (.aastore, 1))
    (kk : ∀ (H1 : Heap) (locs1 : List Loc), gS E A H0 (S.set k (sg.set j (a, .inl (E.2.1.2.2.2, n, .inr (.inr (.inr (.inr (va_up f i.toNatClampNeg (some v))))))))) H1 locs1 → W p l e R s m args below meth c H1 locs1 cells slots Q (F0 m (pc + 1) ls rest)) : W p l e R s m args below meth c H locs cells slots Q (F0 m pc ls (.ref v :: .int i :: .ref a :: rest)) :=
  va_astq F.1 F.2.1 hK.1 (gP_flat.mp hG.1) (gN_flat hG.2.1) hG.2.2 (goff S k j) 3 (goff S k2 j2) 3 (gflat hk hj).1 rfl (gflat hk2 hj2).1 rfl hin hdg (fun H1 locs1 q1 _ q3 => kk H1 locs1 (hG.wr hk hj q1 q3))
/-- the stored reference is one of the four objects -/
theorem g_aast3 {h : Nat → Nat} {b jx : Nat} {n : Int32} {st : Nat → T5} {f : Nat → Option Nat} {i : Int32} (hj : jx < 4) (F : gF p m c cc nL s args own) (hK : gK E s) (hG : gS E A H0 (S3 E h b f n st) H locs) (hin : vp_in i 4) (hdg : decode cc pc = .ok (.aastore, 1))
    (kk : ∀ (H1 : Heap) (locs1 : List Loc), gS E A H0 (S3 E h b (va_up f i.toNatClampNeg (some (h (1000 + 10 * jx)))) n st) H1 locs1 → W p l e R s m args below meth c H1 locs1 cells slots Q (F0 m (pc + 1) ls rest)) : W p l e R s m args below meth c H locs cells slots Q (F0 m pc ls (.ref (h (1000 + 10 * jx)) :: .int i :: .ref (h (b+1)) :: rest)) := by
  rcases (show jx = 0 ∨ jx = 1 ∨ jx = 2 ∨ jx = 3 by omega) with rfl | rfl | rfl | rfl

  · exact g_aast F hK hG 0 1 1 0 rfl rfl rfl rfl hin hdg (fun H1 locs1 q => kk H1 locs1 q)
  · exact g_aast F hK hG 0 1 4 0 rfl rfl rfl rfl hin hdg (fun H1 locs1 q => kk H1 locs1 q)
  · exact g_aast F hK hG 0 1 7 0 rfl rfl rfl rfl hin hdg (fun H1 locs1 q => kk H1 locs1 q)
  · exact g_aast F hK hG 0 1 10 0 rfl rfl rfl rfl hin hdg (fun H1 locs1 q => kk H1 locs1 q)
end X3R
set_option maxHeartbeats 4000000 in
set_option maxRecDepth 100000 in
theorem c_X3_stateAt {l : Launch} {E : gEnv} (h : Nat → Nat) (b0 : Nat) (f : Nat → Option Nat) (n : Int32) (a1 : Int32) : gR l yX3_stateAt cX3_stateAt 2 (some (.object "KeypadWriter$State")) rX3_stateAt E [.ref (h b0), .int a1] [C3h E h b0 f n] (some (va_rf (if a1 < 0 then none else if 4 ≤ a1 then none else f a1.toNatClampNeg))) := by
  refine gR.of (by decide +kernel) (Nat.le_of_ble_eq_true rfl) ?_
  intro p e s m below meth c F hr hlk hK hX hP ls hl
  have F : gF p m c cX3_stateAt 2 s ([.ref (h b0), .int a1] : List Value).toArray RX3 := F
  generalize ([.ref (h b0), .int a1] : List Value).toArray = args at F ⊢
  have hl : lv_has ls 2 [(0, .ref (h b0)), (1, .int a1)] := hl
  have hx := F.1
  have hb := F.2.1
  have hret : ∀ v : Option Nat, W p l e rX3_stateAt s m args below meth c s.heap [] 0 0 (MQ below (gqR (some (va_rf v))) args s 0 0 (fun _ => False)) (F0 m 19 ls [va_rf v]) := fun v => W.aret hx hb hr (Or.inl ⟨_, rfl⟩) (va_rf_or v) (fun t ht _ => ⟨rfl, ht⟩) (fun _ h => nomatch h) dX3_stateAt_19 hlk
  refine lv_iload_n hx hb dX3_stateAt_0 rfl (lv_at hl 1 rfl) ?_
  refine lv_if_lt (tgt := 18) hx hb dX3_stateAt_1 (by decide) (fun c1 => ?_) (fun c1 => ?_)
  · rw [if_pos c1]
    refine lv_null hx hb dX3_stateAt_18 ?_
    exact hret none
  · rw [if_neg c1]
    refine lv_iload_n hx hb dX3_stateAt_4 rfl (lv_at hl 1 rfl) ?_
    refine lv_iconst (v := 4) hx hb dX3_stateAt_5 (by decide) ?_
    refine lv_icmp_ge (tgt := 18) hx hb dX3_stateAt_6 (by decide) (fun c2 => ?_) (fun c2 => ?_)
    · rw [if_pos c2]
      refine lv_null hx hb dX3_stateAt_18 ?_
      exact hret none
    · rw [if_neg c2]
      have hin : vp_in a1 4 := by
        rcases pk_ix a1 (n := 4) (by decide) with q | q | ⟨j, hj, rfl⟩
        · exact absurd q c1
        · exact absurd q c2
        · exact vp_in_nI hj (by decide)
      refine lv_aload_n hx hb dX3_stateAt_9 rfl (lv_at hl 0 rfl) ?_
      refine g_get F hK hP 0 0 0 flX3_11 rfl rfl rfl dX3_stateAt_10 ?_
      refine lv_iload_n hx hb dX3_stateAt_13 rfl (lv_at hl 1 rfl) ?_
      refine g_aald F hK hP 0 1 rfl rfl hin dX3_stateAt_14 ?_
      refine lv_goto (tgt := 19) hx hb dX3_stateAt_15 (by decide) ?_
      exact hret _
theorem fa_of_lt9 {a b : Int32} (h : a < b) : ¬ b ≤ a := fun q => by rw [Int32.lt_iff_toInt_lt] at h; rw [Int32.le_iff_toInt_le] at q; omega
theorem fa_nlt9 {a b : Int32} (h : ¬ a < b) : b ≤ a := by rw [Int32.lt_iff_toInt_lt] at h; rw [Int32.le_iff_toInt_le]; omega
theorem x3_in : vp_in (0 : Int32) 4 ∧ vp_in (1 : Int32) 4 ∧ vp_in (2 : Int32) 4 ∧ vp_in (3 : Int32) 4 := ⟨vp_in_nI (n := 0) (by decide) (by decide), vp_in_nI (n := 1) (by decide) (by decide), vp_in_nI (n := 2) (by decide) (by decide), vp_in_nI (n := 3) (by decide) (by decide)⟩
theorem x3_rot (h : Nat → Nat) (q : Nat → Nat) : va_up (va_up (va_up (va_up (x3f h q) 0 (some (h (1000 + 10 * q 1)))) 1 (some (h (1000 + 10 * q 2)))) 2 (some (h (1000 + 10 * q 3)))) 3 (some (h (1000 + 10 * q 0))) = x3f h (x3rot q) := by
  funext i
  unfold va_up x3f x3rot
  by_cases h3 : i = 3
  · subst h3; rfl
  · by_cases h2 : i = 2
    · subst h2; rfl
    · by_cases h1 : i = 1
      · subst h1; rfl
      · by_cases h0 : i = 0
        · subst h0; rfl
        · simp only [h0, h1, h2, h3, if_false]
          rw [if_neg (by omega)]
set_option maxHeartbeats 4000000 in
set_option maxRecDepth 100000 in
theorem c_X3_dropOldest {l : Launch} {E : gEnv} (h : Nat → Nat) (b0 : Nat) (q : Nat → Nat) (n : Int32) (st : Nat → T5) (h0 : q 0 < 4) (h1 : q 1 < 4) (h2 : q 2 < 4) (h3 : q 3 < 4) : gM l yX3_dropOldest cX3_dropOldest 3 none rX3_dropOldest E [.ref (h b0)] (S3 E h b0 (x3f h q) n st) none (S3 E h b0 (x3f h (x3rot q)) (n - 1) st) := by
  refine gM.of (by decide +kernel) (Nat.le_of_ble_eq_true rfl) rfl ?_
  intro p e s m below meth c F hr hlk hK hX hAB ls hl H locs hG
  have F : gF p m c cX3_dropOldest 3 s ([.ref (h b0)] : List Value).toArray RX3 := F
  generalize ([.ref (h b0)] : List Value).toArray = args at F ⊢
  generalize hQ : MQ below _ _ _ _ _ _ = Q
  generalize hA : gAd (S3 E h b0 (x3f h q) n st) = A at hAB hG
  have hl : lv_has ls 3 [(0, .ref (h b0))] := hl
  have hx := F.1
  have hb := F.2.1
  refine lv_aload_n hx hb dX3_dropOldest_0 rfl (lv_at hl 0 rfl) ?_
  refine g_get F hK hG.1 0 0 0 flX3_11 rfl rfl rfl dX3_dropOldest_1 ?_
  refine lv_iconst (v := 0) hx hb dX3_dropOldest_4 (by decide) ?_
  refine g_aald F hK hG.1 0 1 rfl rfl x3_in.1 dX3_dropOldest_5 ?_
  refine W.eq (g2 := F0 m 6 ls [.ref (h (1000 + 10 * q 0))]) rfl ?_
  refine lv_astore_n (lv' := [(1, .ref (h (1000 + 10 * q 0))), (0, .ref (h b0))]) hx hb dX3_dropOldest_6 rfl hl (by decide) rfl (fun ls hl => ?_)
  refine lv_iconst (v := 1) hx hb dX3_dropOldest_7 (by decide) ?_
  refine lv_istore_n (lv' := [(2, .int 1), (1, .ref (h (1000 + 10 * q 0))), (0, .ref (h b0))]) hx hb dX3_dropOldest_8 rfl hl (by decide) rfl (fun ls hl => ?_)
  refine lv_iload_n hx hb dX3_dropOldest_9 rfl (lv_at hl 0 rfl) ?_
  refine lv_iconst (v := 4) hx hb dX3_dropOldest_10 (by decide) ?_
  refine lv_icmp_ge (tgt := 34) hx hb dX3_dropOldest_11 (by decide) (fun c => absurd c (by decide)) (fun _ => ?_)
  refine lv_aload_n hx hb dX3_dropOldest_14 rfl (lv_at hl 2 rfl) ?_
  refine g_get F hK hG.1 0 0 0 flX3_11 rfl rfl rfl dX3_dropOldest_15 ?_
  refine lv_iload_n hx hb dX3_dropOldest_18 rfl (lv_at hl 0 rfl) ?_
  refine lv_iconst (v := 1) hx hb dX3_dropOldest_19 (by decide) ?_
  refine lv_isub hx hb dX3_dropOldest_20 ?_
  refine W.eq (g2 := F0 m 21 ls [.int 0, .ref (h (b0+1))]) rfl ?_
  refine lv_aload_n hx hb dX3_dropOldest_21 rfl (lv_at hl 2 rfl) ?_
  refine g_get F hK hG.1 0 0 0 flX3_11 rfl rfl rfl dX3_dropOldest_22 ?_
  refine lv_iload_n hx hb dX3_dropOldest_25 rfl (lv_at hl 0 rfl) ?_
  refine g_aald F hK hG.1 0 1 rfl rfl x3_in.2.1 dX3_dropOldest_26 ?_
  refine W.eq (g2 := F0 m 27 ls [.ref (h (1000 + 10 * q 1)), .int 0, .ref (h (b0+1))]) rfl ?_
  refine g_aast3 h1 F hK hG x3_in.1 dX3_dropOldest_27 (fun H locs hG => ?_)
  have hG : gS E A s.heap (S3 E h b0 (va_up (x3f h q) 0 (some (h (1000 + 10 * q 1)))) n st) H locs := hG
  refine lv_iinc (v := 2) (lv' := [(2, .int 2), (1, .ref (h (1000 + 10 * q 0))), (0, .ref (h b0))]) hx hb dX3_dropOldest_28 hl (k := 0) rfl (by decide) (by decide) rfl (fun ls hl => ?_)
  refine lv_goto (tgt := 9) hx hb dX3_dropOldest_31 (by decide) ?_
  refine lv_iload_n hx hb dX3_dropOldest_9 rfl (lv_at hl 0 rfl) ?_
  refine lv_iconst (v := 4) hx hb dX3_dropOldest_10 (by decide) ?_
  refine lv_icmp_ge (tgt := 34) hx hb dX3_dropOldest_11 (by decide) (fun c => absurd c (by decide)) (fun _ => ?_)
  refine lv_aload_n hx hb dX3_dropOldest_14 rfl (lv_at hl 2 rfl) ?_
  refine g_get F hK hG.1 0 0 0 flX3_11 rfl rfl rfl dX3_dropOldest_15 ?_
  refine lv_iload_n hx hb dX3_dropOldest_18 rfl (lv_at hl 0 rfl) ?_
  refine lv_iconst (v := 1) hx hb dX3_dropOldest_19 (by decide) ?_
  refine lv_isub hx hb dX3_dropOldest_20 ?_
  refine W.eq (g2 := F0 m 21 ls [.int 1, .ref (h (b0+1))]) rfl ?_
  refine lv_aload_n hx hb dX3_dropOldest_21 rfl (lv_at hl 2 rfl) ?_
  refine g_get F hK hG.1 0 0 0 flX3_11 rfl rfl rfl dX3_dropOldest_22 ?_
  refine lv_iload_n hx hb dX3_dropOldest_25 rfl (lv_at hl 0 rfl) ?_
  refine g_aald F hK hG.1 0 1 rfl rfl x3_in.2.2.1 dX3_dropOldest_26 ?_
  refine W.eq (g2 := F0 m 27 ls [.ref (h (1000 + 10 * q 2)), .int 1, .ref (h (b0+1))]) rfl ?_
  refine g_aast3 h2 F hK hG x3_in.2.1 dX3_dropOldest_27 (fun H locs hG => ?_)
  have hG : gS E A s.heap (S3 E h b0 (va_up (va_up (x3f h q) 0 (some (h (1000 + 10 * q 1)))) 1 (some (h (1000 + 10 * q 2)))) n st) H locs := hG
  refine lv_iinc (v := 3) (lv' := [(2, .int 3), (1, .ref (h (1000 + 10 * q 0))), (0, .ref (h b0))]) hx hb dX3_dropOldest_28 hl (k := 0) rfl (by decide) (by decide) rfl (fun ls hl => ?_)
  refine lv_goto (tgt := 9) hx hb dX3_dropOldest_31 (by decide) ?_
  refine lv_iload_n hx hb dX3_dropOldest_9 rfl (lv_at hl 0 rfl) ?_
  refine lv_iconst (v := 4) hx hb dX3_dropOldest_10 (by decide) ?_
  refine lv_icmp_ge (tgt := 34) hx hb dX3_dropOldest_11 (by decide) (fun c => absurd c (by decide)) (fun _ => ?_)
  refine lv_aload_n hx hb dX3_dropOldest_14 rfl (lv_at hl 2 rfl) ?_
  refine g_get F hK hG.1 0 0 0 flX3_11 rfl rfl rfl dX3_dropOldest_15 ?_
  refine lv_iload_n hx hb dX3_dropOldest_18 rfl (lv_at hl 0 rfl) ?_
  refine lv_iconst (v := 1) hx hb dX3_dropOldest_19 (by decide) ?_
  refine lv_isub hx hb dX3_dropOldest_20 ?_
  refine W.eq (g2 := F0 m 21 ls [.int 2, .ref (h (b0+1))]) rfl ?_
  refine lv_aload_n hx hb dX3_dropOldest_21 rfl (lv_at hl 2 rfl) ?_
  refine g_get F hK hG.1 0 0 0 flX3_11 rfl rfl rfl dX3_dropOldest_22 ?_
  refine lv_iload_n hx hb dX3_dropOldest_25 rfl (lv_at hl 0 rfl) ?_
  refine g_aald F hK hG.1 0 1 rfl rfl x3_in.2.2.2 dX3_dropOldest_26 ?_
  refine W.eq (g2 := F0 m 27 ls [.ref (h (1000 + 10 * q 3)), .int 2, .ref (h (b0+1))]) rfl ?_
  refine g_aast3 h3 F hK hG x3_in.2.2.1 dX3_dropOldest_27 (fun H locs hG => ?_)
  have hG : gS E A s.heap (S3 E h b0 (va_up (va_up (va_up (x3f h q) 0 (some (h (1000 + 10 * q 1)))) 1 (some (h (1000 + 10 * q 2)))) 2 (some (h (1000 + 10 * q 3)))) n st) H locs := hG
  refine lv_iinc (v := 4) (lv' := [(2, .int 4), (1, .ref (h (1000 + 10 * q 0))), (0, .ref (h b0))]) hx hb dX3_dropOldest_28 hl (k := 0) rfl (by decide) (by decide) rfl (fun ls hl => ?_)
  refine lv_goto (tgt := 9) hx hb dX3_dropOldest_31 (by decide) ?_
  refine lv_iload_n hx hb dX3_dropOldest_9 rfl (lv_at hl 0 rfl) ?_
  refine lv_iconst (v := 4) hx hb dX3_dropOldest_10 (by decide) ?_
  refine lv_icmp_ge (tgt := 34) hx hb dX3_dropOldest_11 (by decide) (fun _ => ?_) (fun c => absurd (by decide) c)
  refine lv_aload_n hx hb dX3_dropOldest_34 rfl (lv_at hl 2 rfl) ?_
  refine g_get F hK hG.1 0 0 0 flX3_11 rfl rfl rfl dX3_dropOldest_35 ?_
  refine lv_iconst (v := 3) hx hb dX3_dropOldest_38 (by decide) ?_
  refine lv_aload_n hx hb dX3_dropOldest_39 rfl (lv_at hl 1 rfl) ?_
  refine g_aast3 h0 F hK hG x3_in.2.2.2 dX3_dropOldest_40 (fun H locs hG => ?_)
  have hG : gS E A s.heap (S3 E h b0 (va_up (va_up (va_up (va_up (x3f h q) 0 (some (h (1000 + 10 * q 1)))) 1 (some (h (1000 + 10 * q 2)))) 2 (some (h (1000 + 10 * q 3)))) 3 (some (h (1000 + 10 * q 0)))) n st) H locs := hG
  rw [x3_rot] at hG
  refine lv_aload_n hx hb dX3_dropOldest_41 rfl (lv_at hl 2 rfl) ?_
  refine lv_dup hx hb dX3_dropOldest_42 rfl ?_
  refine g_get F hK hG.1 0 0 1 flX3_18 rfl rfl rfl dX3_dropOldest_43 ?_
  refine lv_iconst (v := 1) hx hb dX3_dropOldest_46 (by decide) ?_
  refine lv_isub hx hb dX3_dropOldest_47 ?_
  refine g_put F hK hG 0 0 1 pfX3_18 rfl rfl (Nat.le_of_ble_eq_true rfl) rfl rfl dX3_dropOldest_48 (fun H locs hG => ?_)
  have hG : gS E A s.heap (S3 E h b0 (x3f h (x3rot q)) (n - 1) st) H locs := hG
  subst hA
  rw [← hQ]
  exact g_mretV F hr hlk hG dX3_dropOldest_51
set_option maxHeartbeats 4000000 in
set_option maxRecDepth 100000 in
theorem c_X3_push {l : Launch} {E : gEnv} (h : Nat → Nat) (b0 : Nat) (w0 : T3) (b1 : Nat) (w1 : T5) {o : T3} (hf : f_X3_push w0 w1 = some o) : gM l yX3_push cX3_push 3 none rX3_push E [.ref (h b0), .ref (h b1)] [C3 E h b0 w0, C5 E h b1 w1.2.2, C6 E h (b1+1) w1.1, C7 E h (b1+7) w1.2.1] (none) [C3 E h b0 o, C5 E h b1 w1.2.2, C6 E h (b1+1) w1.1, C7 E h (b1+7) w1.2.1] := by
  refine gM.of (by decide +kernel) (Nat.le_of_ble_eq_true rfl) rfl ?_
  intro p e s m below meth c F hr hlk hK hX hAB ls hl H locs hG
  have F : gF p m c cX3_push 3 s ([.ref (h b0), .ref (h b1)] : List Value).toArray RX3 := F
  generalize ([.ref (h b0), .ref (h b1)] : List Value).toArray = args at F ⊢
  generalize hQ : MQ below _ _ _ _ _ _ = Q
  generalize hA : gAd [C3 E h b0 w0, C5 E h b1 w1.2.2, C6 E h (b1+1) w1.1, C7 E h (b1+7) w1.2.1] = A at hAB hG
  have hl : lv_has ls 3 [(0, .ref (h b0)), (1, .ref (h b1))] := hl
  have hx := F.1
  have hb := F.2.1
  have hG := S3_S.mp hG
  have hE : ∀ (w : T3) (H : Heap) (locs : List Loc), w = o → gS E A s.heap (S3 E h b0 (x3f h w.1) w.2.2 w.2.1 ++ [C5 E h b1 w1.2.2, C6 E h (b1+1) w1.1, C7 E h (b1+7) w1.2.1]) H locs → ∀ ls : Array Slot, W p l e rX3_push s m args below meth c H locs 0 0 Q (F0 m 40 ls []) := by
    intro w H locs hw hG ls
    subst hw
    have hG := S3_S.mpr hG
    subst hA
    rw [← hQ]
    exact g_mretV F hr hlk hG dX3_push_40
  have hT : ∀ (w : T3) (H : Heap) (locs : List Loc), x3put w w1 = some o → gS E A s.heap (S3 E h b0 (x3f h w.1) w.2.2 w.2.1 ++ [C5 E h b1 w1.2.2, C6 E h (b1+1) w1.1, C7 E h (b1+7) w1.2.1]) H locs → ∀ ls : Array Slot, lv_has ls 3 [(0, .ref (h b0)), (1, .ref (h b1))] → W p l e rX3_push s m args below meth c H locs 0 0 Q (F0 m 12 ls []) := by
    intro w H locs hf hG ls hl
    unfold x3put at hf
    refine lv_aload_n hx hb dX3_push_12 rfl (lv_at hl 0 rfl) ?_
    refine lv_aload_n hx hb dX3_push_13 rfl (lv_at hl 0 rfl) ?_
    refine g_get F hK hG.1 0 0 1 flX3_18 rfl rfl rfl dX3_push_14 ?_
    refine g_rv (As := [.int w.2.2]) (rest := []) F hK (hG.X hX hAB) hG.1 [0] rfl (c_X3_stateAt h b0 (x3f h w.1) w.2.2 w.2.2) (kX3_25 F.2.2.2.2 ⟨Nat.le_of_ble_eq_true rfl, Nat.le_of_ble_eq_true rfl⟩) rfl rfl rfl rfl hl.1 rfl (lv_room (Nat.le_of_ble_eq_true rfl)) ⟨Nat.zero_le _, Nat.zero_le _⟩ dX3_push_17 ?_
    by_cases c1 : w.2.2 < 0
    · rw [if_pos c1] at hf ⊢
      refine W.eq (g2 := F0 m 20 ls [.null]) rfl ?_
      refine lv_astore_nN (lv' := [(2, .null), (0, .ref (h b0)), (1, .ref (h b1))]) hx hb dX3_push_20 rfl hl (by decide) rfl (fun ls hl => ?_)
      refine lv_aload_nN hx hb dX3_push_21 rfl (lv_at hl 0 rfl) ?_
      refine lv_ifnullN (tgt := 40) hx hb dX3_push_22 (by decide) ?_
      exact hE w H locs (Option.some.inj hf) hG ls
    · rw [if_neg c1] at hf ⊢
      by_cases c2 : 4 ≤ w.2.2
      · rw [if_pos c2] at hf ⊢
        refine W.eq (g2 := F0 m 20 ls [.null]) rfl ?_
        refine lv_astore_nN (lv' := [(2, .null), (0, .ref (h b0)), (1, .ref (h b1))]) hx hb dX3_push_20 rfl hl (by decide) rfl (fun ls hl => ?_)
        refine lv_aload_nN hx hb dX3_push_21 rfl (lv_at hl 0 rfl) ?_
        refine lv_ifnullN (tgt := 40) hx hb dX3_push_22 (by decide) ?_
        exact hE w H locs (Option.some.inj hf) hG ls
      · rw [if_neg c2] at hf ⊢
        by_cases c3 : w.1 w.2.2.toNatClampNeg < 4
        · rw [if_pos c3] at hf
          obtain ⟨x, hx1, hf⟩ := g_bnd hf
          have hf := Option.some.inj hf
          refine W.eq (g2 := F0 m 20 ls [.ref (h (1000 + 10 * w.1 w.2.2.toNatClampNeg))]) rfl ?_
          generalize w.1 w.2.2.toNatClampNeg = j at c3 hx1 hf ⊢
          refine lv_astore_n (lv' := [(2, .ref (h (1000 + 10 * j))), (0, .ref (h b0)), (1, .ref (h b1))]) hx hb dX3_push_20 rfl hl (by decide) rfl (fun ls hl => ?_)
          refine lv_aload_n hx hb dX3_push_21 rfl (lv_at hl 0 rfl) ?_
          refine lv_ifnull hx hb dX3_push_22 ?_
          refine lv_aload_n hx hb dX3_push_25 rfl (lv_at hl 0 rfl) ?_
          refine lv_aload_n hx hb dX3_push_26 rfl (lv_at hl 2 rfl) ?_
          rcases (show j = 0 ∨ j = 1 ∨ j = 2 ∨ j = 3 by omega) with rfl | rfl | rfl | rfl
          · refine g_mvv (S' := (S3 E h b0 (x3f h w.1) w.2.2 (x3upd w.2.1 0 (x.2.1, x.2.2, x.1)) ++ [C5 E h b1 w1.2.2, C6 E h (b1+1) w1.1, C7 E h (b1+7) w1.2.1])) (As := [.ref (h b1)]) (rest := []) F hK hX hAB hG [1, 2, 3, 13, 14, 15] rfl rfl (c_X5_copyFrom h (1000 + 10 * 0) (w.2.1 0) b1 w1 hx1) rfl (kX3_29 F.2.2.2.2 ⟨Nat.le_of_ble_eq_true rfl, Nat.le_of_ble_eq_true rfl⟩) rfl rfl rfl rfl hl.1 rfl (lv_room (Nat.le_of_ble_eq_true rfl)) ⟨Nat.zero_le _, Nat.zero_le _⟩ dX3_push_27 (fun H locs hG => ?_)
            refine lv_aload_n hx hb dX3_push_30 rfl (lv_at hl 1 rfl) ?_
            refine lv_dup hx hb dX3_push_31 rfl ?_
            refine g_get F hK hG.1 0 0 1 flX3_18 rfl rfl rfl dX3_push_32 ?_
            refine lv_iconst (v := 1) hx hb dX3_push_35 (by decide) ?_
            refine lv_iadd hx hb dX3_push_36 ?_
            refine g_put F hK hG 0 0 1 pfX3_18 rfl rfl (Nat.le_of_ble_eq_true rfl) rfl rfl dX3_push_37 (fun H locs hG => ?_)
            exact hE (w.1, x3upd w.2.1 0 (x.2.1, x.2.2, x.1), w.2.2 + 1) H locs hf hG ls
          · refine g_mvv (S' := (S3 E h b0 (x3f h w.1) w.2.2 (x3upd w.2.1 1 (x.2.1, x.2.2, x.1)) ++ [C5 E h b1 w1.2.2, C6 E h (b1+1) w1.1, C7 E h (b1+7) w1.2.1])) (As := [.ref (h b1)]) (rest := []) F hK hX hAB hG [4, 5, 6, 13, 14, 15] rfl rfl (c_X5_copyFrom h (1000 + 10 * 1) (w.2.1 1) b1 w1 hx1) rfl (kX3_29 F.2.2.2.2 ⟨Nat.le_of_ble_eq_true rfl, Nat.le_of_ble_eq_true rfl⟩) rfl rfl rfl rfl hl.1 rfl (lv_room (Nat.le_of_ble_eq_true rfl)) ⟨Nat.zero_le _, Nat.zero_le _⟩ dX3_push_27 (fun H locs hG => ?_)
            refine lv_aload_n hx hb dX3_push_30 rfl (lv_at hl 1 rfl) ?_
            refine lv_dup hx hb dX3_push_31 rfl ?_
            refine g_get F hK hG.1 0 0 1 flX3_18 rfl rfl rfl dX3_push_32 ?_
            refine lv_iconst (v := 1) hx hb dX3_push_35 (by decide) ?_
            refine lv_iadd hx hb dX3_push_36 ?_
            refine g_put F hK hG 0 0 1 pfX3_18 rfl rfl (Nat.le_of_ble_eq_true rfl) rfl rfl dX3_push_37 (fun H locs hG => ?_)
            exact hE (w.1, x3upd w.2.1 1 (x.2.1, x.2.2, x.1), w.2.2 + 1) H locs hf hG ls
          · refine g_mvv (S' := (S3 E h b0 (x3f h w.1) w.2.2 (x3upd w.2.1 2 (x.2.1, x.2.2, x.1)) ++ [C5 E h b1 w1.2.2, C6 E h (b1+1) w1.1, C7 E h (b1+7) w1.2.1])) (As := [.ref (h b1)]) (rest := []) F hK hX hAB hG [7, 8, 9, 13, 14, 15] rfl rfl (c_X5_copyFrom h (1000 + 10 * 2) (w.2.1 2) b1 w1 hx1) rfl (kX3_29 F.2.2.2.2 ⟨Nat.le_of_ble_eq_true rfl, Nat.le_of_ble_eq_true rfl⟩) rfl rfl rfl rfl hl.1 rfl (lv_room (Nat.le_of_ble_eq_true rfl)) ⟨Nat.zero_le _, Nat.zero_le _⟩ dX3_push_27 (fun H locs hG => ?_)
            refine lv_aload_n hx hb dX3_push_30 rfl (lv_at hl 1 rfl) ?_
            refine lv_dup hx hb dX3_push_31 rfl ?_
            refine g_get F hK hG.1 0 0 1 flX3_18 rfl rfl rfl dX3_push_32 ?_
            refine lv_iconst (v := 1) hx hb dX3_push_35 (by decide) ?_
            refine lv_iadd hx hb dX3_push_36 ?_
            refine g_put F hK hG 0 0 1 pfX3_18 rfl rfl (Nat.le_of_ble_eq_true rfl) rfl rfl dX3_push_37 (fun H locs hG => ?_)
            exact hE (w.1, x3upd w.2.1 2 (x.2.1, x.2.2, x.1), w.2.2 + 1) H locs hf hG ls
          · refine g_mvv (S' := (S3 E h b0 (x3f h w.1) w.2.2 (x3upd w.2.1 3 (x.2.1, x.2.2, x.1)) ++ [C5 E h b1 w1.2.2, C6 E h (b1+1) w1.1, C7 E h (b1+7) w1.2.1])) (As := [.ref (h b1)]) (rest := []) F hK hX hAB hG [10, 11, 12, 13, 14, 15] rfl rfl (c_X5_copyFrom h (1000 + 10 * 3) (w.2.1 3) b1 w1 hx1) rfl (kX3_29 F.2.2.2.2 ⟨Nat.le_of_ble_eq_true rfl, Nat.le_of_ble_eq_true rfl⟩) rfl rfl rfl rfl hl.1 rfl (lv_room (Nat.le_of_ble_eq_true rfl)) ⟨Nat.zero_le _, Nat.zero_le _⟩ dX3_push_27 (fun H locs hG => ?_)
            refine lv_aload_n hx hb dX3_push_30 rfl (lv_at hl 1 rfl) ?_
            refine lv_dup hx hb dX3_push_31 rfl ?_
            refine g_get F hK hG.1 0 0 1 flX3_18 rfl rfl rfl dX3_push_32 ?_
            refine lv_iconst (v := 1) hx hb dX3_push_35 (by decide) ?_
            refine lv_iadd hx hb dX3_push_36 ?_
            refine g_put F hK hG 0 0 1 pfX3_18 rfl rfl (Nat.le_of_ble_eq_true rfl) rfl rfl dX3_push_37 (fun H locs hG => ?_)
            exact hE (w.1, x3upd w.2.1 3 (x.2.1, x.2.2, x.1), w.2.2 + 1) H locs hf hG ls
        · rw [if_neg c3] at hf
          cases hf
  unfold f_X3_push at hf
  refine lv_aload_n hx hb dX3_push_0 rfl (lv_at hl 0 rfl) ?_
  refine g_get F hK hG.1 0 0 1 flX3_18 rfl rfl rfl dX3_push_1 ?_
  refine lv_iconst (v := 4) hx hb dX3_push_4 (by decide) ?_
  refine lv_icmp_lt (tgt := 12) hx hb dX3_push_5 (by decide) (fun c1 => ?_) (fun c1 => ?_)
  · rw [if_neg (fun q => (fa_of_lt9 c1) q)] at hf
    exact hT w0 H locs hf hG ls hl
  · rw [if_pos (fa_nlt9 c1)] at hf
    have c2 : w0.1 0 < 4 ∧ w0.1 1 < 4 ∧ w0.1 2 < 4 ∧ w0.1 3 < 4 := by
      by_cases c2 : w0.1 0 < 4 ∧ w0.1 1 < 4 ∧ w0.1 2 < 4 ∧ w0.1 3 < 4
      · exact c2
      · rw [if_neg c2] at hf; cases hf
    rw [if_pos c2] at hf
    refine lv_aload_n hx hb dX3_push_8 rfl (lv_at hl 0 rfl) ?_
    refine g_mvv (S' := (S3 E h b0 (x3f h (x3rot w0.1)) (w0.2.2 - 1) w0.2.1 ++ [C5 E h b1 w1.2.2, C6 E h (b1+1) w1.1, C7 E h (b1+7) w1.2.1])) (As := []) (rest := []) F hK hX hAB hG [0, 1, 2, 3, 4, 5, 6, 7, 8, 9, 10, 11, 12] rfl rfl (c_X3_dropOldest h b0 w0.1 w0.2.2 w0.2.1 c2.1 c2.2.1 c2.2.2.1 c2.2.2.2) rfl (kX3_22 F.2.2.2.2 ⟨Nat.le_of_ble_eq_true rfl, Nat.le_of_ble_eq_true rfl⟩) rfl rfl rfl rfl hl.1 rfl (lv_room (Nat.le_of_ble_eq_true rfl)) ⟨Nat.zero_le _, Nat.zero_le _⟩ dX3_push_9 (fun H locs hG => ?_)
    exact hT (x3rot w0.1, w0.2.1, w0.2.2 - 1) H locs hf hG ls hl
set_option maxHeartbeats 4000000 in
set_option maxRecDepth 100000 in
theorem c_X3_popInto {l : Launch} {E : gEnv} (h : Nat → Nat) (b0 : Nat) (w0 : T3) (b1 : Nat) (w1 : T5) {o : T3 × T5s × T6 × T7} (hf : f_X3_popInto w0 w1 = some o) : gM l yX3_popInto cX3_popInto 3 none rX3_popInto E [.ref (h b0), .ref (h b1)] [C3 E h b0 w0, C5 E h b1 w1.2.2, C6 E h (b1+1) w1.1, C7 E h (b1+7) w1.2.1] (none) [C3 E h b0 o.1, C5 E h b1 o.2.1, C6 E h (b1+1) o.2.2.1, C7 E h (b1+7) o.2.2.2] := by
  refine gM.of (by decide +kernel) (Nat.le_of_ble_eq_true rfl) rfl ?_
  intro p e s m below meth c F hr hlk hK hX hAB ls hl H locs hG
  have F : gF p m c cX3_popInto 3 s ([.ref (h b0), .ref (h b1)] : List Value).toArray RX3 := F
  generalize ([.ref (h b0), .ref (h b1)] : List Value).toArray = args at F ⊢
  generalize hQ : MQ below _ _ _ _ _ _ = Q
  generalize hA : gAd [C3 E h b0 w0, C5 E h b1 w1.2.2, C6 E h (b1+1) w1.1, C7 E h (b1+7) w1.2.1] = A at hAB hG
  have hl : lv_has ls 3 [(0, .ref (h b0)), (1, .ref (h b1))] := hl
  have hx := F.1
  have hb := F.2.1
  have hG := S3_S.mp hG
  have hE : ∀ (w : T3) (t : T5s) (y : T6 × T7) (H : Heap) (locs : List Loc), (w, t, y) = o → gS E A s.heap (S3 E h b0 (x3f h w.1) w.2.2 w.2.1 ++ [C5 E h b1 t, C6 E h (b1+1) y.1, C7 E h (b1+7) y.2]) H locs → ∀ ls : Array Slot, W p l e rX3_popInto s m args below meth c H locs 0 0 Q (F0 m 30 ls []) := by
    intro w t y H locs hw hG ls
    subst hw
    have hG := S3_S.mpr hG
    subst hA
    rw [← hQ]
    exact g_mretV F hr hlk hG dX3_popInto_30
  unfold f_X3_popInto at hf
  refine lv_aload_n hx hb dX3_popInto_0 rfl (lv_at hl 0 rfl) ?_
  refine lv_aload_n hx hb dX3_popInto_1 rfl (lv_at hl 0 rfl) ?_
  refine g_get F hK hG.1 0 0 1 flX3_18 rfl rfl rfl dX3_popInto_2 ?_
  refine lv_iconst (v := 1) hx hb dX3_popInto_5 (by decide) ?_
  refine lv_isub hx hb dX3_popInto_6 ?_
  refine g_rv (As := [.int (w0.2.2 - 1)]) (rest := []) F hK (hG.X hX hAB) hG.1 [0] rfl (c_X3_stateAt h b0 (x3f h w0.1) w0.2.2 (w0.2.2 - 1)) (kX3_25 F.2.2.2.2 ⟨Nat.le_of_ble_eq_true rfl, Nat.le_of_ble_eq_true rfl⟩) rfl rfl rfl rfl hl.1 rfl (lv_room (Nat.le_of_ble_eq_true rfl)) ⟨Nat.zero_le _, Nat.zero_le _⟩ dX3_popInto_7 ?_
  by_cases c1 : w0.2.2 - 1 < 0
  · rw [if_pos c1] at hf ⊢
    refine W.eq (g2 := F0 m 10 ls [.null]) rfl ?_
    refine lv_astore_nN (lv' := [(2, .null), (0, .ref (h b0)), (1, .ref (h b1))]) hx hb dX3_popInto_10 rfl hl (by decide) rfl (fun ls hl => ?_)
    refine lv_aload_nN hx hb dX3_popInto_11 rfl (lv_at hl 0 rfl) ?_
    refine lv_ifnullN (tgt := 30) hx hb dX3_popInto_12 (by decide) ?_
    exact hE w0 w1.2.2 (w1.1, w1.2.1) H locs (Option.some.inj hf) hG ls
  · rw [if_neg c1] at hf ⊢
    by_cases c2 : 4 ≤ w0.2.2 - 1
    · rw [if_pos c2] at hf ⊢
      refine W.eq (g2 := F0 m 10 ls [.null]) rfl ?_
      refine lv_astore_nN (lv' := [(2, .null), (0, .ref (h b0)), (1, .ref (h b1))]) hx hb dX3_popInto_10 rfl hl (by decide) rfl (fun ls hl => ?_)
      refine lv_aload_nN hx hb dX3_popInto_11 rfl (lv_at hl 0 rfl) ?_
      refine lv_ifnullN (tgt := 30) hx hb dX3_popInto_12 (by decide) ?_
      exact hE w0 w1.2.2 (w1.1, w1.2.1) H locs (Option.some.inj hf) hG ls
    · rw [if_neg c2] at hf ⊢
      by_cases c3 : w0.1 (w0.2.2 - 1).toNatClampNeg < 4
      · rw [if_pos c3] at hf
        obtain ⟨x, hx1, hf⟩ := g_bnd hf
        have hf := Option.some.inj hf
        refine W.eq (g2 := F0 m 10 ls [.ref (h (1000 + 10 * w0.1 (w0.2.2 - 1).toNatClampNeg))]) rfl ?_
        generalize w0.1 (w0.2.2 - 1).toNatClampNeg = j at c3 hx1 hf ⊢
        refine lv_astore_n (lv' := [(2, .ref (h (1000 + 10 * j))), (0, .ref (h b0)), (1, .ref (h b1))]) hx hb dX3_popInto_10 rfl hl (by decide) rfl (fun ls hl => ?_)
        refine lv_aload_n hx hb dX3_popInto_11 rfl (lv_at hl 0 rfl) ?_
        refine lv_ifnull hx hb dX3_popInto_12 ?_
        refine lv_aload_n hx hb dX3_popInto_15 rfl (lv_at hl 2 rfl) ?_
        refine lv_aload_n hx hb dX3_popInto_16 rfl (lv_at hl 0 rfl) ?_
        rcases (show j = 0 ∨ j = 1 ∨ j = 2 ∨ j = 3 by omega) with rfl | rfl | rfl | rfl
        · refine g_mvv (S' := S3 E h b0 (x3f h w0.1) w0.2.2 w0.2.1 ++ [C5 E h b1 x.1, C6 E h (b1+1) x.2.1, C7 E h (b1+7) x.2.2]) (As := [.ref (h (1000 + 10 * 0))]) (rest := []) F hK hX hAB hG [13, 14, 15, 1, 2, 3] rfl rfl (c_X5_copyFrom h b1 w1 (1000 + 10 * 0) (w0.2.1 0) hx1) rfl (kX3_29 F.2.2.2.2 ⟨Nat.le_of_ble_eq_true rfl, Nat.le_of_ble_eq_true rfl⟩) rfl rfl rfl rfl hl.1 rfl (lv_room (Nat.le_of_ble_eq_true rfl)) ⟨Nat.zero_le _, Nat.zero_le _⟩ dX3_popInto_17 (fun H locs hG => ?_)
          refine lv_aload_n hx hb dX3_popInto_20 rfl (lv_at hl 1 rfl) ?_
          refine lv_dup hx hb dX3_popInto_21 rfl ?_
          refine g_get F hK hG.1 0 0 1 flX3_18 rfl rfl rfl dX3_popInto_22 ?_
          refine lv_iconst (v := 1) hx hb dX3_popInto_25 (by decide) ?_
          refine lv_isub hx hb dX3_popInto_26 ?_
          refine g_put F hK hG 0 0 1 pfX3_18 rfl rfl (Nat.le_of_ble_eq_true rfl) rfl rfl dX3_popInto_27 (fun H locs hG => ?_)
          exact hE (w0.1, w0.2.1, w0.2.2 - 1) x.1 x.2 H locs hf hG ls
        · refine g_mvv (S' := S3 E h b0 (x3f h w0.1) w0.2.2 w0.2.1 ++ [C5 E h b1 x.1, C6 E h (b1+1) x.2.1, C7 E h (b1+7) x.2.2]) (As := [.ref (h (1000 + 10 * 1))]) (rest := []) F hK hX hAB hG [13, 14, 15, 4, 5, 6] rfl rfl (c_X5_copyFrom h b1 w1 (1000 + 10 * 1) (w0.2.1 1) hx1) rfl (kX3_29 F.2.2.2.2 ⟨Nat.le_of_ble_eq_true rfl, Nat.le_of_ble_eq_true rfl⟩) rfl rfl rfl rfl hl.1 rfl (lv_room (Nat.le_of_ble_eq_true rfl)) ⟨Nat.zero_le _, Nat.zero_le _⟩ dX3_popInto_17 (fun H locs hG => ?_)
          refine lv_aload_n hx hb dX3_popInto_20 rfl (lv_at hl 1 rfl) ?_
          refine lv_dup hx hb dX3_popInto_21 rfl ?_
          refine g_get F hK hG.1 0 0 1 flX3_18 rfl rfl rfl dX3_popInto_22 ?_
          refine lv_iconst (v := 1) hx hb dX3_popInto_25 (by decide) ?_
          refine lv_isub hx hb dX3_popInto_26 ?_
          refine g_put F hK hG 0 0 1 pfX3_18 rfl rfl (Nat.le_of_ble_eq_true rfl) rfl rfl dX3_popInto_27 (fun H locs hG => ?_)
          exact hE (w0.1, w0.2.1, w0.2.2 - 1) x.1 x.2 H locs hf hG ls
        · refine g_mvv (S' := S3 E h b0 (x3f h w0.1) w0.2.2 w0.2.1 ++ [C5 E h b1 x.1, C6 E h (b1+1) x.2.1, C7 E h (b1+7) x.2.2]) (As := [.ref (h (1000 + 10 * 2))]) (rest := []) F hK hX hAB hG [13, 14, 15, 7, 8, 9] rfl rfl (c_X5_copyFrom h b1 w1 (1000 + 10 * 2) (w0.2.1 2) hx1) rfl (kX3_29 F.2.2.2.2 ⟨Nat.le_of_ble_eq_true rfl, Nat.le_of_ble_eq_true rfl⟩) rfl rfl rfl rfl hl.1 rfl (lv_room (Nat.le_of_ble_eq_true rfl)) ⟨Nat.zero_le _, Nat.zero_le _⟩ dX3_popInto_17 (fun H locs hG => ?_)
          refine lv_aload_n hx hb dX3_popInto_20 rfl (lv_at hl 1 rfl) ?_
          refine lv_dup hx hb dX3_popInto_21 rfl ?_
          refine g_get F hK hG.1 0 0 1 flX3_18 rfl rfl rfl dX3_popInto_22 ?_
          refine lv_iconst (v := 1) hx hb dX3_popInto_25 (by decide) ?_
          refine lv_isub hx hb dX3_popInto_26 ?_
          refine g_put F hK hG 0 0 1 pfX3_18 rfl rfl (Nat.le_of_ble_eq_true rfl) rfl rfl dX3_popInto_27 (fun H locs hG => ?_)
          exact hE (w0.1, w0.2.1, w0.2.2 - 1) x.1 x.2 H locs hf hG ls
        · refine g_mvv (S' := S3 E h b0 (x3f h w0.1) w0.2.2 w0.2.1 ++ [C5 E h b1 x.1, C6 E h (b1+1) x.2.1, C7 E h (b1+7) x.2.2]) (As := [.ref (h (1000 + 10 * 3))]) (rest := []) F hK hX hAB hG [13, 14, 15, 10, 11, 12] rfl rfl (c_X5_copyFrom h b1 w1 (1000 + 10 * 3) (w0.2.1 3) hx1) rfl (kX3_29 F.2.2.2.2 ⟨Nat.le_of_ble_eq_true rfl, Nat.le_of_ble_eq_true rfl⟩) rfl rfl rfl rfl hl.1 rfl (lv_room (Nat.le_of_ble_eq_true rfl)) ⟨Nat.zero_le _, Nat.zero_le _⟩ dX3_popInto_17 (fun H locs hG => ?_)
          refine lv_aload_n hx hb dX3_popInto_20 rfl (lv_at hl 1 rfl) ?_
          refine lv_dup hx hb dX3_popInto_21 rfl ?_
          refine g_get F hK hG.1 0 0 1 flX3_18 rfl rfl rfl dX3_popInto_22 ?_
          refine lv_iconst (v := 1) hx hb dX3_popInto_25 (by decide) ?_
          refine lv_isub hx hb dX3_popInto_26 ?_
          refine g_put F hK hG 0 0 1 pfX3_18 rfl rfl (Nat.le_of_ble_eq_true rfl) rfl rfl dX3_popInto_27 (fun H locs hG => ?_)
          exact hE (w0.1, w0.2.1, w0.2.2 - 1) x.1 x.2 H locs hf hG ls
      · rw [if_neg c3] at hf
        cases hf
