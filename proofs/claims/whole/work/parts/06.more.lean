/-! ===== switches, copies, throws ===== -/
def cpy {α : Type} (f g : Nat → α) (n0 n1 : Nat) (sp dp n : Int32) : Option (Nat → α) := if sp < 0 ∨ dp < 0 ∨ n < 0 ∨ n0 < sp.toNatClampNeg + n.toNatClampNeg ∨ n1 < dp.toNatClampNeg + n.toNatClampNeg then none else some (va_cpy f g sp.toNatClampNeg dp.toNatClampNeg n.toNatClampNeg)
theorem cpy_in {α : Type} {f g r : Nat → α} {n0 n1 : Nat} {sp dp n : Int32} (h : cpy f g n0 n1 sp dp n = some r) : (¬ sp < 0 ∧ ¬ dp < 0 ∧ ¬ n < 0 ∧ sp.toNatClampNeg + n.toNatClampNeg ≤ n0 ∧ dp.toNatClampNeg + n.toNatClampNeg ≤ n1) ∧ va_cpy f g sp.toNatClampNeg dp.toNatClampNeg n.toNatClampNeg = r := by
  unfold cpy at h
  split at h
  · cases h
  · rename_i q
    refine ⟨⟨fun z => q (Or.inl z), fun z => q (Or.inr (Or.inl z)), fun z => q (Or.inr (Or.inr (Or.inl z))), ?_, ?_⟩, Option.some.inj h⟩
    · exact Nat.not_lt.mp fun z => q (Or.inr (Or.inr (Or.inr (Or.inl z))))
    · exact Nat.not_lt.mp fun z => q (Or.inr (Or.inr (Or.inr (Or.inr z))))
def gxn : Nat → String
  | 0 => "java/lang/IllegalArgumentException"
  | 1 => "java/lang/IllegalStateException"
  | _ => "java/lang/IndexOutOfBoundsException"
def gxnm : List String := ["java/lang/RuntimeException", "java/lang/Exception"]
def gqT (E : gEnv) (S : List va_W) (o : (Nat × List va_W) ⊕ (Option Value × List va_W)) : Array Value → State → Outcome → State → Prop := fun a st oc t => ∃ z, o = .inr z ∧ gqM E z.1 S z.2 a st oc t
def gxT (E : gEnv) (S : List va_W) (o : (Nat × List va_W) ⊕ (Option Value × List va_W)) : String → State → State → Prop := fun nm st t => ∃ z, o = .inl z ∧ nm = gxn z.1 ∧ gP E z.2 t.heap ∧ va_F (gAd S) st t
/-- a method that may throw: .inl (k, S'): it throws the k-th kind, the world is S' then; .inr: as a method that writes -/
def gT (l : Launch) (y : MethodName) (cc : ByteArray) (nL : Nat) (ret : Option FieldType) (rm : Room) (E : gEnv) (As : List Value) (S : List va_W) (o : (Nat × List va_W) ⊕ (Option Value × List va_W)) : Prop := ((∀ z, o = .inr z → z.2.map gas = S.map gas) ∧ ∀ z, o = .inl z → z.2.map gas = S.map gas) ∧ vx_Met l y (gws y cc nL ret) rm (gpreM E As S) (gqT E S o) (gxT E S o) 1 6 (gAd S)
theorem gT.of {l : Launch} {y : MethodName} {cc : ByteArray} {nL : Nat} {ret : Option FieldType} {rm : Room} {E : gEnv} {As : List Value} {S : List va_W} {o : (Nat × List va_W) ⊕ (Option Value × List va_W)} (hy : plainName y.cls = true) (hn : (lg_sl As).length ≤ nL) (hg : (∀ z, o = .inr z → z.2.map gas = S.map gas) ∧ ∀ z, o = .inl z → z.2.map gas = S.map gas)
    (body : ∀ (p : Program) (e : Env) (s : State) (m : MethodId) (below : List Frame) (meth : Method) (c : Code), gF p m c cc nL s As.toArray y.cls → meth.sig.returnType = ret → meth.locks = false → (∀ x ∈ c.exceptionTable.toList, False) → gK E s → gX E s s.heap → (∀ q, gAd S q → gB E q) → ∀ ls : Array Slot, lv_has ls nL (lv_args 0 As) → ∀ (H : Heap) (locs : List Loc), gS E (gAd S) s.heap S H locs →
      W p l e rm s m As.toArray below meth c H locs 0 0 (vx_MQ below (gqT E S o) (gxT E S o) As.toArray s 1 6 (gAd S)) (F0 m 0 ls [])) : gT l y cc nL ret rm E As S o := by
  refine ⟨hg, vx_ofW (cc := cc) (maxL := nL) (ret := ret) hy rfl ?_⟩
  intro p e s m args below meth c s₁ B hml hte hv
  obtain ⟨rfl, hK, hX, hP, hN⟩ := hv
  have hts := atoms_spec (ws := gws y cc nL ret) B.pre
  have hown : s.vm.findClass y.cls = some m.cls := findClass_of_methodNamed B.named
  have hl := lv_entry As (n := nL) hn
  rw [lg_entry_eq]
  exact body p e s m below meth c ⟨B.exec, B.bytes, hml, hown, fun w h => hts w (List.mem_cons_of_mem _ h)⟩ B.returns B.notSynchronized hte hK hX (fun q h => hN.2 q (gAd_iff.mp h)) _ hl _ _ ⟨hP, ⟨hN.1, fun q h => gAd_iff.mpr h⟩, va_S.rf⟩
/-- the words of a throw -/
def gTw (ik ic : Nat) (cls : String) : Prop := Bundle.fit cls = true ∧ (∀ n ∈ gxnm, Bundle.fit n = true) ∧ Cond.classLink RX8 ik cls ∈ gx_G ∧ Cond.initialized cls ∈ gx_G ∧ (∀ w ∈ (vx_atS RX8 ic cls gxnm).filter goodWord, w ∈ lw_tbl) ∧ (∀ w ∈ (vx_atS RX8 ic cls gxnm).filter (fun w => !goodWord w), w ∈ gx_nest) ∧ ∀ w ∈ Cond.classLink RX8 ik cls :: Cond.initialized cls :: vx_atS RX8 ic cls gxnm, vx_ot w = true
section GMORE
variable {p : Program} {l : Launch} {e : Env} {R : Room} {s : State} {m : MethodId} {args : Array Value} {below : List Frame} {meth : Method} {c : Code} {H : Heap} {locs : List Loc} {cells slots : Nat} {Q : State → Prop}
variable {cc : ByteArray} {nL pc : Nat} {ls : Array Slot} {rest : List Value} {own : String} {E : gEnv} {S : List va_W} {A : Nat → Prop} {H0 : Heap}
theorem g_tabIn {dflt lo hi : Int} {offs : Array Int} {len : Nat} {x kx : Int32} {off : Int} {tgt : Nat} (hk : x = kx) (hx : p.tables.exec = Jvm.exec) (hb : c.code = cc) (hdg : decode cc pc = .ok (.tableswitch dflt lo hi offs, len)) (h1 : ¬ kx.toInt < lo) (h2 : ¬ hi < kx.toInt) (ho : offs[(kx.toInt - lo).toNat]? = some off) (ht : (pc : Int) + off = (tgt : Int))
    (kk : W p l e R s m args below meth c H locs cells slots Q (F0 m tgt ls rest)) : W p l e R s m args below meth c H locs cells slots Q (F0 m pc ls (.int x :: rest)) := by
  subst hk
  exact lv_tableIn hx hb hdg h1 h2 ho ht kk
theorem g_tabOut {dflt lo hi : Int} {offs : Array Int} {len : Nat} {x kl kh : Int32} {tgt : Nat} (hk : x < kl ∨ kh < x) (hx : p.tables.exec = Jvm.exec) (hb : c.code = cc) (hdg : decode cc pc = .ok (.tableswitch dflt lo hi offs, len)) (h1 : kl.toInt = lo) (h2 : kh.toInt = hi) (ht : (pc : Int) + dflt = (tgt : Int))
    (kk : W p l e R s m args below meth c H locs cells slots Q (F0 m tgt ls rest)) : W p l e R s m args below meth c H locs cells slots Q (F0 m pc ls (.int x :: rest)) := by
  subst h1 h2
  exact lv_tableOut hx hb hdg (hk.elim (fun h => Or.inl (Int32.lt_iff_toInt_lt.mp h)) (fun h => Or.inr (Int32.lt_iff_toInt_lt.mp h))) ht kk
theorem g_copyl (F : gF p m c cc nL s args own) (hK : gK E s) (hG : gS E A H0 S H locs) (k0 j0 k1 j1 : Nat) {sg0 sg1 : va_W} {a0 a1 n0 n1 index : Nat} {f g r : Nat → Int64} {sp dp n : Int32} (hlink : (Cond.methodLink own index arraycopyName).before args s = true) (hk0 : S[k0]? = some sg0) (hj0 : sg0[j0]? = some (a0, .inl (E.2.1.2.1, n0, .inr (.inl f)))) (hk1 : S[k1]? = some sg1) (hj1 : sg1[j1]? = some (a1, .inl (E.2.1.2.1, n1, .inr (.inl g)))) (hr : cpy f g n0 n1 sp dp n = some r) (hml : c.maxLocals = ls.size) (hfr : 1 ≤ R.frames) (hlo : (rest.map fun v => v.category).sum + (nativeFrameWords "java/lang/System" "arraycopy" 5 + 11) ≤ R.locals) (hdg : decode cc pc = .ok (.invokestatic index, 3))
    (kk : ∀ (H1 : Heap) (locs1 : List Loc), gS E A H0 (S.set k1 (sg1.set j1 (a1, .inl (E.2.1.2.1, n1, .inr (.inl r))))) H1 locs1 → W p l e R s m args below meth c H1 locs1 cells slots Q (F0 m (pc + 3) ls rest)) : W p l e R s m args below meth c H locs cells slots Q (F0 m pc ls (.int n :: .int dp :: .ref a1 :: .int sp :: .ref a0 :: rest)) := by
  obtain ⟨⟨h1, h2, h3, h4, h5⟩, h6⟩ := cpy_in hr
  subst h6
  exact va_copyl F.1 F.2.1 hml F.2.2.2.1 hlink (F.2.2.2.2 _ gw_native_arraycopy) (F.2.2.2.2 _ gw_static_arraycopy) (F.2.2.2.2 _ gw_init_System) hK.1 (gP_flat.mp hG.1) (gN_flat hG.2.1) hG.2.2 (goff S k0 j0) (goff S k1 j1) 1 1 (gflat hk0 hj0).1 (gflat hk1 hj1).1 rfl rfl rfl h1 h2 h3 h4 h5 (fun _ _ => rfl) hfr hlo hdg (fun H1 locs1 q1 _ q3 => kk H1 locs1 (hG.wr hk1 hj1 q1 q3))
theorem g_copyi (F : gF p m c cc nL s args own) (hK : gK E s) (hG : gS E A H0 S H locs) (k0 j0 k1 j1 : Nat) {sg0 sg1 : va_W} {a0 a1 n0 n1 index : Nat} {f g r : Nat → Int32} {sp dp n : Int32} (hlink : (Cond.methodLink own index arraycopyName).before args s = true) (hk0 : S[k0]? = some sg0) (hj0 : sg0[j0]? = some (a0, .inl (E.2.1.1, n0, .inl f))) (hk1 : S[k1]? = some sg1) (hj1 : sg1[j1]? = some (a1, .inl (E.2.1.1, n1, .inl g))) (hr : cpy f g n0 n1 sp dp n = some r) (hml : c.maxLocals = ls.size) (hfr : 1 ≤ R.frames) (hlo : (rest.map fun v => v.category).sum + (nativeFrameWords "java/lang/System" "arraycopy" 5 + 11) ≤ R.locals) (hdg : decode cc pc = .ok (.invokestatic index, 3))
    (kk : ∀ (H1 : Heap) (locs1 : List Loc), gS E A H0 (S.set k1 (sg1.set j1 (a1, .inl (E.2.1.1, n1, .inl r)))) H1 locs1 → W p l e R s m args below meth c H1 locs1 cells slots Q (F0 m (pc + 3) ls rest)) : W p l e R s m args below meth c H locs cells slots Q (F0 m pc ls (.int n :: .int dp :: .ref a1 :: .int sp :: .ref a0 :: rest)) := by
  obtain ⟨⟨h1, h2, h3, h4, h5⟩, h6⟩ := cpy_in hr
  subst h6
  exact va_copyi F.1 F.2.1 hml F.2.2.2.1 hlink (F.2.2.2.2 _ gw_native_arraycopy) (F.2.2.2.2 _ gw_static_arraycopy) (F.2.2.2.2 _ gw_init_System) hK.1 (gP_flat.mp hG.1) (gN_flat hG.2.1) hG.2.2 (goff S k0 j0) (goff S k1 j1) 0 0 (gflat hk0 hj0).1 (gflat hk1 hj1).1 rfl rfl rfl h1 h2 h3 h4 h5 (fun _ _ => rfl) hfr hlo hdg (fun H1 locs1 q1 _ q3 => kk H1 locs1 (hG.wr hk1 hj1 q1 q3))
theorem g_throw {S0 : List va_W} {k ik ic : Nat} {is : Nat} {text : String} (F : gF p m c cc nL s args RX8) (hlk : meth.locks = false) (hte : ∀ x ∈ c.exceptionTable.toList, False) (hK : gK E s) (hX : gX E s s.heap) (hAB : ∀ q, gAd S0 q → gB E q) (hG : gS E (gAd S0) s.heap S H locs) (hl : ls.size = nL) (hst : l.stackTraces = false) (tw : gTw ik ic (gxn k)) (hs : (is, text) ∈ gx_strs) (hRf : 5 < R.frames) (hRl : 82 ≤ R.locals) (hRc : 1 ≤ R.cells) (hRs : 6 ≤ R.slots)
    (d0 : decode cc pc = .ok (.new ik, 3)) (d3 : decode cc (pc + 3) = .ok (.dup, 1)) (d4 : decode cc (pc + 4) = .ok (.ldc is, 2)) (d6 : decode cc (pc + 6) = .ok (.invokespecial ic, 3)) (d9 : decode cc (pc + 9) = .ok (.athrow, 1)) : W p l e R s m args below meth c H locs 0 0 (vx_MQ below (gqT E S0 (.inl (k, S))) (gxT E S0 (.inl (k, S))) args s 1 6 (gAd S0)) (F0 m pc ls []) := by
  obtain ⟨w1, w2, w3, w4, w5, w6, w7⟩ := tw
  obtain ⟨sa, hsa⟩ := hK.2.2.1 _ hs
  have hat : ∀ w ∈ vx_atS RX8 ic (gxn k) gxnm, w.before args s = true := by
    intro w hw
    cases hg : goodWord w with
    | true => exact F.2.2.2.2 w (List.mem_filter.mpr ⟨w5 w (List.mem_filter.mpr ⟨hw, hg⟩), hg⟩)
    | false =>
      have h1 : w ∈ gx_nest := w6 w (List.mem_filter.mpr ⟨hw, by rw [hg]; rfl⟩)
      exact va_Nw.use (gx_nest_on w h1) (hK.2.1 w h1)
  refine vx_throwS (A := gAd S0) (text := text) (names := gxnm) (sa := sa) F.1 F.2.1 hst F.2.2.2.1 w1 w2 (F.2.2.2.2 _ w3) (F.2.2.2.2 _ w4) hsa hat w7 (vx_Zq.narrow hX.2.2.1 hAB) (vx_Zq.narrow hX.2.2.2 hAB) hG.2.2 (hl.trans F.2.2.1.symm) d0 d3 d4 d6 d9 (fun x hx => (hte x hx).elim) hRf hRl (by omega) (by omega) hlk ?_ hG.2.2.2.2 (Nat.le_refl _) (Nat.le_refl _)
  intro t ht hz hq
  refine ⟨_, rfl, rfl, fun sg hsg => (hG.1 sg hsg).kept fun k1 q1 h1 => hq q1.1 ((hG.1 sg hsg) k1 q1 h1).lt, Nat.le_trans hG.2.2.1 hz, fun q h1 h2 => ?_⟩
  rw [hq q (Nat.lt_of_lt_of_le h1 hG.2.2.1)]
  exact hG.2.2.2.1 q h1 h2
theorem g_tretI {v : Int32} {S0 S1 : List va_W} (F : gF p m c cc nL s args own) (hr : meth.sig.returnType = some .int) (hlk : meth.locks = false) (hG : gS E (gAd S0) s.heap S1 H locs) (hdg : decode cc pc = .ok (.ireturn, 1)) : W p l e R s m args below meth c H locs 0 0 (vx_MQ below (gqT E S0 (.inr (some (.int v), S1))) (gxT E S0 (.inr (some (.int v), S1))) args s 1 6 (gAd S0)) (F0 m pc ls [.int v]) :=
  vx_ret (W.widen (k := 1) (n := 6) (Nat.zero_le _) (Nat.zero_le _) (W.iret F.1 F.2.1 hr (fun t ht _ => ⟨_, rfl, ⟨rfl, by rw [ht]; exact hG.1⟩, hG.2.2.F ht⟩) hG.2.2.2.2 hdg hlk))
end GMORE
