/-! ===== the law's own methods: they call, catch, and answer a number ===== -/
def gNcs : List (String × String) := [("java/lang/IllegalStateException", "java/lang/IllegalArgumentException"), ("java/lang/IndexOutOfBoundsException", "java/lang/IllegalArgumentException"), ("java/lang/IllegalArgumentException", "java/lang/IndexOutOfBoundsException"), ("java/lang/IllegalStateException", "java/lang/IndexOutOfBoundsException")]
def gNc (U : State) : Prop := ∀ q ∈ gNcs, va_Nc q.1 q.2 U
theorem gNc.moved {u U : State} (hvm : u.vm.Alike U.vm) (h : gNc u) : gNc U := fun q hq => va_Nc.moved hvm (h q hq)
def gpreL (E : gEnv) (As : List Value) (S : List va_W) : Array Value → State → Prop := va_Pc As (fun U => (gK E U ∧ gNc U) ∧ gX E U U.heap ∧ gP E S U.heap ∧ gN (gB E) (S.map gas))
def gxF : String → State → State → Prop := vx_X (fun _ : Unit => False) (fun _ _ _ => True) (fun _ => False)
/-- a method of the law's that catches what it calls -/
def gL (l : Launch) (y : MethodName) (cc : ByteArray) (nL : Nat) (hh : List (Nat × Nat × Nat × Nat)) (rm : Room) (E : gEnv) (As : List Value) (S : List va_W) (v : Int32) (S' : List va_W) : Prop := S'.map gas = S.map gas ∧ vx_Met l y (Cond.codeWith y cc nL (some .int) hh :: gx_G) rm (gpreL E As S) (gqM E (some (.int v)) S S') gxF 1 6 (gAd S)
theorem gpreL_blind {E : gEnv} {As : List Value} {S : List va_W} : FrameBlind (gpreL E As S) := fun a U g mk h => ⟨h.1, ⟨gK.moved (u := U) (U := U.calling g mk a) rfl h.2.1.1, gNc.moved (u := U) (U := U.calling g mk a) (Vm.Alike.refl U.vm) h.2.1.2⟩, gX.moved (u := U) (U := U.calling g mk a) (Vm.Alike.refl U.vm) h.2.2.1, h.2.2.2⟩
theorem gL.of {l : Launch} {y : MethodName} {cc : ByteArray} {nL : Nat} {hh : List (Nat × Nat × Nat × Nat)} {rm : Room} {E : gEnv} {As : List Value} {S S' : List va_W} {v : Int32} (hy : plainName y.cls = true) (hn : (lg_sl As).length ≤ nL) (hg : S'.map gas = S.map gas)
    (body : ∀ (p : Program) (e : Env) (s : State) (m : MethodId) (below : List Frame) (meth : Method) (c : Code), gF p m c cc nL s As.toArray y.cls → meth.sig.returnType = some .int → meth.locks = false → c.exceptionTable.toList = tableOf hh → gK E s → gNc s → gX E s s.heap → (∀ q, gAd S q → gB E q) → ∀ ls : Array Slot, lv_has ls nL (lv_args 0 As) → ∀ (H : Heap) (locs : List Loc), gS E (gAd S) s.heap S H locs →
      W p l e rm s m As.toArray below meth c H locs 0 0 (vx_MQ below (gqM E (some (.int v)) S S') gxF As.toArray s 1 6 (gAd S)) (F0 m 0 ls [])) : gL l y cc nL hh rm E As S v S' := by
  refine ⟨hg, vx_ofWH (cc := cc) (maxL := nL) (ret := some .int) (hh := hh) (ws' := gx_G) hy rfl ?_⟩
  intro p e s m args below meth c s₁ B hml hv
  obtain ⟨rfl, ⟨hK, hNc⟩, hX, hP, hN⟩ := hv
  have hts := atoms_spec (ws := Cond.codeWith y cc nL (some .int) hh :: gx_G) B.pre
  have hown : s.vm.findClass y.cls = some m.cls := findClass_of_methodNamed B.named
  have hl := lv_entry As (n := nL) hn
  rw [lg_entry_eq]
  exact body p e s m below meth c ⟨B.exec, B.bytes, hml, hown, fun w h => hts w (List.mem_cons_of_mem _ h)⟩ B.returns B.notSynchronized (vx_table (x := y) B (hts _ List.mem_cons_self)) hK hNc hX (fun q h => hN.2 q (gAd_iff.mp h)) _ hl _ _ ⟨hP, ⟨hN.1, fun q h => gAd_iff.mpr h⟩, va_S.rf⟩
section GLAW
variable {p : Program} {l : Launch} {e : Env} {R : Room} {s : State} {m : MethodId} {args : Array Value} {below : List Frame} {meth : Method} {c : Code} {H : Heap} {locs : List Loc} {cells slots : Nat} {Q : State → Prop}
variable {cc : ByteArray} {nL pc : Nat} {ls : Array Slot} {rest : List Value} {own : String} {E : gEnv} {S : List va_W} {A : Nat → Prop} {H0 : Heap}
theorem gS.call {Sc Sc' : List va_W} {H1 : Heap} {L : List Loc} (hG : gS E A H0 S H locs) (is : List Nat) (hs : is.map (fun i => S[i]?) = Sc.map some) (hn : va_nd is = true) (hg : Sc'.map gas = Sc.map gas) (hp : gP E Sc' H1) (hz : H.size ≤ H1.size) (hk : ∀ q : Nat, q < H.size → ¬ gAd Sc q → H1[q]? = H[q]?) (hL : ∀ z ∈ L, gAd Sc z.base) : gS E A H0 (gset S is Sc') H1 (locs ++ L) := by
  have hf : ∀ q, gAd Sc q → A q := fun q h => (hG.2.1.sub is hs hn).2 q (gAd_iff.mp h)
  refine ⟨hG.1.call hG.2.1 is hs hg hp hk, by rw [gset_map is Sc Sc' S hs hn hg]; exact hG.2.1, ⟨Nat.le_trans hG.2.2.1 hz, fun q h1 h2 => ?_, fun q hq => ?_⟩⟩
  · rw [hk q (Nat.lt_of_lt_of_le h1 hG.2.2.1) (fun z => h2 (hf q z))]
    exact hG.2.2.2.1 q h1 h2
  · rcases List.mem_append.mp hq with h | h
    · exact hG.2.2.2.2 q h
    · exact hf _ (hL q h)
theorem g_callT {y : MethodName} {bytes : ByteArray} {maxL n index b ci N : Nat} {ret : Option FieldType} {rm : Room} {As : List Value} {Sc : List va_W} {o : (Nat × List va_W) ⊕ (Option Value × List va_W)} {C : String} {T : u_T} {sg : va_W} {fs : List Value} (F : gF p m c cc nL s args own) (hK : gK E s) (hX : gX E s s.heap) (hAB : ∀ q, A q → gB E q) (hG : gS E A s.heap S H locs) (is : List Nat) (hs : is.map (fun i => S[i]?) = Sc.map some) (hnd : va_nd is = true) (hM : gT l y bytes maxL ret rm E (.ref b :: As) Sc o) (cw : CallW R s args own C index y bytes maxL ret (gws y bytes maxL ret) rm 1 6 n) (hk : Sc[0]? = some sg) (hj : sg[0]? = some (b, .inr (ci, fs))) (hc : vwCl[ci]? = some (C, T, N)) (hn : As.length = n) (hl : ls.size = nL) {st : List Value} (hst : st = As.reverse ++ .ref b :: rest) (hW : 2 * (F0 m pc ls st).monitorRoom + (rest.map fun v => v.category).sum ≤ 8) (hf : cells + 1 ≤ R.cells ∧ slots + 6 ≤ R.slots) (hdg : decode cc pc = .ok (.invokevirtual index, 3))
    (kx : ∀ (z : Nat × List va_W) (H1 : Heap) (locs1 : List Loc) (ce : Cell) (q9 : Addr), o = .inl z → gS E A s.heap (gset S is z.2) H1 locs1 → H1[q9]? = some ce → ce.vm = .none → s.vm.findClass (gxn z.1) = some ce.cls → vx_W p l e R s m args below meth c H1 locs1 (cells + 1) (slots + 6) Q (F0 m pc ls rest) q9)
    (kk : ∀ (z : Option Value × List va_W) (H1 : Heap) (locs1 : List Loc), o = .inr z → gS E A s.heap (gset S is z.2) H1 locs1 → W p l e R s m args below meth c H1 locs1 (cells + 1) (slots + 6) Q (F0 m (pc + 3) ls (z.1.toList ++ rest))) : W p l e R s m args below meth c H locs cells slots Q (F0 m pc ls st) := by
  have hr := vx_runV F hM.2 cw (H := H) ⟨gpreM_blind, g_recv hK (hG.1.sub is (g_nd_sub hs)) hk hj hc, fun U hU hW => ⟨rfl, hK.warm hW, by rw [hU]; exact (hG.X hX hAB).moved hW.alike, by rw [hU]; exact hG.1.sub is (g_nd_sub hs), ⟨(hG.2.1.sub is hs hnd).1, fun q h => hAB q ((hG.2.1.sub is hs hnd).2 q h)⟩⟩⟩ (g := F0 m pc ls st) (e := e) (below := below) (meth := meth) (locs := locs) (cells := cells) (slots := slots) rfl hn hl hst hW hdg hf
  intro T hT X
  rcases hr T hT X with ⟨v, st₀, t, T', L, h0, X', hL, e1, e2, ⟨z, hz, ⟨hv, hP⟩, hz1, hz2⟩, st⟩ | ⟨q, st₀, t, T', L, E9, ce, h0, X', hL, e1, e2, ⟨z, hz, hnm, hP, hz1, hz2⟩, hce, hcv, hcl, st⟩
  · cases hv
    rw [h0] at hz1 hz2
    obtain ⟨t2, a1, b1⟩ := kk z T'.heap (locs ++ L) hz (hG.call is hs hnd (hM.1.1 z hz) (by rw [e1]; exact hP) (by rw [e1]; exact hz1) (fun q h1 h2 => by rw [e1]; exact hz2 q h1 h2) hL) T' rfl X'
    exact ⟨t2, st t2 a1, b1⟩
  · rw [h0] at hz1 hz2
    obtain ⟨t2, a1, b1⟩ := kx z T'.heap (locs ++ L) ce q hz (hG.call is hs hnd (hM.1.2 z hz) (by rw [e1]; exact hP) (by rw [e1]; exact hz1) (fun q h1 h2 => by rw [e1]; exact hz2 q h1 h2) hL) (by rw [e1]; exact hce) hcv (by rw [← hnm]; exact hcl) T' rfl X'
    exact ⟨t2, st.trans a1, b1⟩
theorem g_lretI {v : Int32} {S0 : List va_W} {S1 : List va_W} (F : gF p m c cc nL s args own) (hr : meth.sig.returnType = some .int) (hlk : meth.locks = false) (hG : gS E (gAd S0) s.heap S1 H locs) (hdg : decode cc pc = .ok (.ireturn, 1)) : W p l e R s m args below meth c H locs 1 6 (vx_MQ below (gqM E (some (.int v)) S0 S1) gxF args s 1 6 (gAd S0)) (F0 m pc ls [.int v]) :=
  vx_ret (W.iret F.1 F.2.1 hr (fun t ht _ => ⟨⟨rfl, by rw [ht]; exact hG.1⟩, hG.2.2.F ht⟩) hG.2.2.2.2 hdg hlk)
/-- a call of one of these -/
theorem g_callL {y : MethodName} {bytes : ByteArray} {maxL n index : Nat} {hh : List (Nat × Nat × Nat × Nat)} {rm : Room} {As : List Value} {Sc Sc' S' : List va_W} {v : Int32} (F : gF p m c cc nL s args own) (hK : gK E s) (hNc : gNc s) (hX : gX E s s.heap) (hAB : ∀ q, A q → gB E q) (hG : gS E A s.heap S H locs) (is : List Nat) (hs : is.map (fun i => S[i]?) = Sc.map some) (hnd : va_nd is = true) (hM : gL l y bytes maxL hh rm E As Sc v Sc') (hS' : gset S is Sc' = S') (cw : vx_CSW R s args own index y bytes maxL (some .int) hh (Cond.codeWith y bytes maxL (some .int) hh :: gx_G) rm 1 6 n) (hn : As.length = n) (hl : ls.size = nL) {st : List Value} (hst : st = As.reverse ++ rest) (hW : 2 * (F0 m pc ls st).monitorRoom + (rest.map fun v => v.category).sum ≤ 8) (hf : cells + 1 ≤ R.cells ∧ slots + 6 ≤ R.slots) (hdg : decode cc pc = .ok (.invokestatic index, 3))
    (kk : ∀ (H1 : Heap) (locs1 : List Loc), gS E A s.heap S' H1 locs1 → W p l e R s m args below meth c H1 locs1 (cells + 1) (slots + 6) Q (F0 m (pc + 3) ls (.int v :: rest))) : W p l e R s m args below meth c H locs cells slots Q (F0 m pc ls st) := by
  subst hS'
  have hr := vx_runSX F hM.2 cw (H := H) ⟨gpreL_blind, fun U hU hW => ⟨rfl, ⟨hK.warm hW, hNc.moved hW.alike⟩, by rw [hU]; exact (hG.X hX hAB).moved hW.alike, by rw [hU]; exact hG.1.sub is (g_nd_sub hs), ⟨(hG.2.1.sub is hs hnd).1, fun q h => hAB q ((hG.2.1.sub is hs hnd).2 q h)⟩⟩⟩ (g := F0 m pc ls st) (e := e) (below := below) (meth := meth) (locs := locs) (cells := cells) (slots := slots) rfl hn hl hst hW hdg hf
  intro T hT X
  rcases hr T hT X with ⟨v, st₀, t, T', L, h0, X', hL, e1, e2, ⟨⟨hv, hP⟩, hz1, hz2⟩, st⟩ | ⟨q, st₀, t, T', L, E9, ce, h0, X', hL, e1, e2, ⟨u, hu, _⟩, hce, hcv, hcl, st⟩
  · cases hv
    rw [h0] at hz1 hz2
    obtain ⟨t2, a1, b1⟩ := kk T'.heap (locs ++ L) (hG.call is hs hnd hM.1 (by rw [e1]; exact hP) (by rw [e1]; exact hz1) (fun q h1 h2 => by rw [e1]; exact hz2 q h1 h2) hL) T' rfl X'
    exact ⟨t2, st t2 a1, b1⟩
  · exact hu.elim
end GLAW
def SX (E : gEnv) (h : Nat → Nat) (b0 : Nat) (w0 : T8) : List va_W := [C8 E h b0, C2 E h (b0+1) w0.1, C6 E h (b0+3) w0.2.1, C5 E h (b0+9) w0.2.2.1.2.2, C6 E h ((b0+9)+1) w0.2.2.1.1, C7 E h ((b0+9)+7) w0.2.2.1.2.1, C3 E h (b0+18) w0.2.2.2.1, C0 E h (b0+20) w0.2.2.2.2]
/-- a caught call: 0 and the answer stored, or the number of the row that caught -/
def wrp {α : Type} (ks : List Nat) (mk : α → T8) (ou : Nat → Int64) : Option ((Nat × α) ⊕ (Int32 × α)) → Option (Int32 × T8 × (Nat → Int64))
  | some (.inl (k, r)) => if ks[0]? = some k then some (1, mk r, ou) else if ks[1]? = some k then some (2, mk r, ou) else none
  | some (.inr (v, r)) => some (0, mk r, vp_updL ou 0 v.toInt64)
  | none => none
def wrpU (ks : List Nat) (w : T8) (ou : Nat → Int64) : Option (Nat ⊕ Int32) → Option (Int32 × T8 × (Nat → Int64))
  | some (.inl k) => if ks[0]? = some k then some (1, w, ou) else if ks[1]? = some k then some (2, w, ou) else none
  | some (.inr v) => some (0, w, vp_updL ou 0 v.toInt64)
  | none => none
theorem wrp_in {α : Type} {ks : List Nat} {mk : α → T8} {ou : Nat → Int64} {f : Option ((Nat × α) ⊕ (Int32 × α))} {o : Int32 × T8 × (Nat → Int64)} (h : wrp ks mk ou f = some o) : ∃ z, f = some z ∧ wrp ks mk ou (some z) = some o := by
  cases f with
  | none => cases h
  | some z => exact ⟨z, rfl, h⟩
theorem wrpU_in {ks : List Nat} {w : T8} {ou : Nat → Int64} {f : Option (Nat ⊕ Int32)} {o : Int32 × T8 × (Nat → Int64)} (h : wrpU ks w ou f = some o) : ∃ z, f = some z ∧ wrpU ks w ou (some z) = some o := by
  cases f with
  | none => cases h
  | some z => exact ⟨z, rfl, h⟩
theorem wrp_l1 {α : Type} {k0 : Nat} {mk : α → T8} {ou : Nat → Int64} {k : Nat} {r : α} {o : Int32 × T8 × (Nat → Int64)} (h : wrp [k0] mk ou (some (.inl (k, r))) = some o) : k0 = k ∧ o = (1, mk r, ou) := by
  simp only [wrp, List.getElem?_cons_zero, Option.some.injEq, List.getElem?_cons_succ, List.getElem?_nil, reduceCtorEq, if_false] at h
  split at h
  · rename_i hk; exact ⟨hk, (Option.some.inj h).symm⟩
  · cases h
theorem wrp_l2 {α : Type} {k0 k1 : Nat} {mk : α → T8} {ou : Nat → Int64} {k : Nat} {r : α} {o : Int32 × T8 × (Nat → Int64)} (h : wrp [k0, k1] mk ou (some (.inl (k, r))) = some o) : (k0 = k ∧ o = (1, mk r, ou)) ∨ (k1 = k ∧ o = (2, mk r, ou)) := by
  simp only [wrp, List.getElem?_cons_zero, Option.some.injEq, List.getElem?_cons_succ] at h
  split at h
  · rename_i hk; exact Or.inl ⟨hk, (Option.some.inj h).symm⟩
  · split at h
    · rename_i hk; exact Or.inr ⟨hk, (Option.some.inj h).symm⟩
    · cases h
theorem wrpU_l1 {k0 : Nat} {w : T8} {ou : Nat → Int64} {k : Nat} {o : Int32 × T8 × (Nat → Int64)} (h : wrpU [k0] w ou (some (.inl k)) = some o) : k0 = k ∧ o = (1, w, ou) := by
  simp only [wrpU, List.getElem?_cons_zero, Option.some.injEq, List.getElem?_cons_succ, List.getElem?_nil, reduceCtorEq, if_false] at h
  split at h
  · rename_i hk; exact ⟨hk, (Option.some.inj h).symm⟩
  · cases h
theorem wrpU_l2 {k0 k1 : Nat} {w : T8} {ou : Nat → Int64} {k : Nat} {o : Int32 × T8 × (Nat → Int64)} (h : wrpU [k0, k1] w ou (some (.inl k)) = some o) : (k0 = k ∧ o = (1, w, ou)) ∨ (k1 = k ∧ o = (2, w, ou)) := by
  simp only [wrpU, List.getElem?_cons_zero, Option.some.injEq, List.getElem?_cons_succ] at h
  split at h
  · rename_i hk; exact Or.inl ⟨hk, (Option.some.inj h).symm⟩
  · split at h
    · rename_i hk; exact Or.inr ⟨hk, (Option.some.inj h).symm⟩
    · cases h
def f_L_append (w0 : T8) (a1 : Int32) (ou : Nat → Int64) : Option (Int32 × T8 × (Nat → Int64)) := wrp [0, 1] (fun r => (r, w0.2.1, (w0.2.2.1.1, w0.2.2.1.2.1, w0.2.2.1.2.2), w0.2.2.2.1, w0.2.2.2.2)) ou (f_X8_append w0 a1)
def rL_append : Room := { frames := 7, cells := 1, slots := 6, locals := 111 }
theorem hmL_append : yX8_append.cls = RX8 ∧ yX8_append.cls ≠ "java/lang/invoke/MethodHandle" ∧ yX8_append.cls ≠ "java/lang/invoke/VarHandle" ∧ (parseMethodDescriptor yX8_append.desc).map (fun d => d.parameters.length) = some 1 := by decide +kernel
theorem kL_7 {R : Room} {s : State} {args : Array Value} (ht : ∀ w ∈ gx_G, w.before args s = true) (hR : rX8_append.frames + 1 ≤ R.frames ∧ 8 + (2 + 11) + rX8_append.locals ≤ R.locals) : CallW R s args RL RX8 7 yX8_append cX8_append 2 (some .int) (gws yX8_append cX8_append 2 (some .int)) rX8_append 1 6 1 := cwV 1 ht (gx_gV gw_485 gw_486 gw_487 gw_1 gw_488) rfl rfl rfl hmL_append hR
theorem c_L_append {l : Launch} (hst : l.stackTraces = false) {E : gEnv} (h : Nat → Nat) (b0 : Nat) (w0 : T8) (a1 : Int32) (ho : Nat → Nat) (bo : Nat) (ou : Nat → Int64) {o : Int32 × T8 × (Nat → Int64)} (hf : f_L_append w0 a1 ou = some o) : gL l yL_append cL_append 4 [(0, 9, 12, 13), (0, 9, 15, 15)] rL_append E [.ref (h b0), .int a1, .ref (ho bo)] [C8 E h b0, C2 E h (b0+1) w0.1, C6 E h (b0+3) w0.2.1, C5 E h (b0+9) w0.2.2.1.2.2, C6 E h ((b0+9)+1) w0.2.2.1.1, C7 E h ((b0+9)+7) w0.2.2.1.2.1, C3 E h (b0+18) w0.2.2.2.1, C0 E h (b0+20) w0.2.2.2.2, CO E ho bo ou] o.1 [C8 E h b0, C2 E h (b0+1) o.2.1.1, C6 E h (b0+3) o.2.1.2.1, C5 E h (b0+9) o.2.1.2.2.1.2.2, C6 E h ((b0+9)+1) o.2.1.2.2.1.1, C7 E h ((b0+9)+7) o.2.1.2.2.1.2.1, C3 E h (b0+18) o.2.1.2.2.2.1, C0 E h (b0+20) o.2.1.2.2.2.2, CO E ho bo o.2.2] := by
  refine gL.of (by decide +kernel) (Nat.le_of_ble_eq_true rfl) rfl ?_
  intro p e s m below meth c F hr hlk hte hK hNc hX hAB ls hl H locs hG
  have F : gF p m c cL_append 4 s ([.ref (h b0), .int a1, .ref (ho bo)] : List Value).toArray RL := F
  generalize ([.ref (h b0), .int a1, .ref (ho bo)] : List Value).toArray = args at F ⊢
  have hl : lv_has ls 4 [(0, .ref (h b0)), (1, .int a1), (2, .ref (ho bo))] := hl
  have hx := F.1
  have hb := F.2.1
  obtain ⟨z, hz, hf⟩ := wrp_in hf
  refine lv_aload_n hx hb dL_append_0 rfl (lv_at hl 2 rfl) ?_
  refine lv_iconst (v := 0) hx hb dL_append_1 (by decide) ?_
  refine lv_aload_n hx hb dL_append_2 rfl (lv_at hl 0 rfl) ?_
  refine lv_iload_n hx hb dL_append_3 rfl (lv_at hl 1 rfl) ?_
  refine g_callT (As := [.int a1]) (rest := [.int 0, .ref (ho bo)]) F hK hX hAB hG [0, 1, 2, 3, 4, 5, 6, 7] rfl rfl (c_X8_append hst h b0 w0 a1 hz) (kL_7 F.2.2.2.2 ⟨(Nat.le_of_ble_eq_true rfl), (Nat.le_of_ble_eq_true rfl)⟩) rfl rfl rfl rfl hl.1 rfl (lv_room (Nat.le_of_ble_eq_true rfl)) ⟨(Nat.le_of_ble_eq_true rfl), (Nat.le_of_ble_eq_true rfl)⟩ dL_append_4 (fun z2 H locs ce q9 e2 hG hce hcv hcl => ?_) (fun z2 H locs e2 hG => ?_)
  · cases z with
    | inr z => cases e2
    | inl z =>
      cases e2
      obtain ⟨k, r⟩ := z
      rcases wrp_l2 hf with ⟨rfl, rfl⟩ | ⟨rfl, rfl⟩
      · refine vx_catch (own := RL) (name := gxn 0) (E := gxn 0) F.2.2.2.1 [] ⟨0, 9, 12, 13⟩ [⟨0, 9, 15, 15⟩] hte (fun x hx => nomatch hx) rfl (by decide) (F.2.2.2.2 _ gw_483) (va_Nw.use (gx_nest_on _ (List.mem_of_getElem? (i := 26) rfl)) (gx_nest26 hK.2.1)) hce hcv hcl ?_
        refine lv_astore_n hx hb dL_append_12 rfl hl (Nat.le_of_ble_eq_true rfl) rfl (fun ls hl => ?_)
        refine lv_iconst (v := 1) hx hb dL_append_13 (by decide) ?_
        exact g_lretI F hr hlk hG dL_append_14
      · refine vx_catch (own := RL) (name := gxn 1) (E := gxn 1) F.2.2.2.1 [⟨0, 9, 12, 13⟩] ⟨0, 9, 15, 15⟩ [] hte (fun x hx => by rw [List.mem_singleton.mp hx]; exact Or.inr ⟨by decide, _, F.2.2.2.2 _ gw_483, hNc _ (List.mem_of_getElem? (i := 0) rfl)⟩) rfl (by decide) (F.2.2.2.2 _ gw_484) (va_Nw.use (gx_nest_on _ (List.mem_of_getElem? (i := 33) rfl)) (gx_nest33 hK.2.1)) hce hcv hcl ?_
        refine lv_astore_n hx hb dL_append_15 rfl hl (Nat.le_of_ble_eq_true rfl) rfl (fun ls hl => ?_)
        refine lv_iconst (v := 2) hx hb dL_append_16 (by decide) ?_
        exact g_lretI F hr hlk hG dL_append_17
  · cases z with
    | inl z => cases e2
    | inr z =>
      cases e2
      cases hf
      refine lv_i2l hx hb dL_append_7 rfl ?_
      refine g_last F hK hG 8 0 rfl rfl (g := vp_updL ou 0 z.1.toInt64) rfl dL_append_8 (fun H locs hG => ?_)
      refine lv_goto (tgt := 18) hx hb dL_append_9 (by decide) ?_
      refine lv_iconst (v := 0) hx hb dL_append_18 (by decide) ?_
      exact g_lretI F hr hlk hG dL_append_19
def f_L_setWays (w0 : T8) (a1 : Int32) (a2 : Int32) (ou : Nat → Int64) : Option (Int32 × T8 × (Nat → Int64)) := wrp [0] (fun r => (w0.1, w0.2.1, (w0.2.2.1.1, w0.2.2.1.2.1, r.1), r.2, w0.2.2.2.2)) ou (f_X8_setWays w0 a1 a2)
def rL_setWays : Room := { frames := 7, cells := 1, slots := 6, locals := 114 }
theorem hmL_setWays : yX8_setWays.cls = RX8 ∧ yX8_setWays.cls ≠ "java/lang/invoke/MethodHandle" ∧ yX8_setWays.cls ≠ "java/lang/invoke/VarHandle" ∧ (parseMethodDescriptor yX8_setWays.desc).map (fun d => d.parameters.length) = some 2 := by decide +kernel
theorem kL_17 {R : Room} {s : State} {args : Array Value} (ht : ∀ w ∈ gx_G, w.before args s = true) (hR : rX8_setWays.frames + 1 ≤ R.frames ∧ 8 + (4 + 11) + rX8_setWays.locals ≤ R.locals) : CallW R s args RL RX8 17 yX8_setWays cX8_setWays 4 (some .int) (gws yX8_setWays cX8_setWays 4 (some .int)) rX8_setWays 1 6 2 := cwV 2 ht (gx_gV gw_585 gw_586 gw_587 gw_1 gw_588) rfl rfl rfl hmL_setWays hR
theorem c_L_setWays {l : Launch} (hst : l.stackTraces = false) {E : gEnv} (h : Nat → Nat) (b0 : Nat) (w0 : T8) (a1 : Int32) (a2 : Int32) (ho : Nat → Nat) (bo : Nat) (ou : Nat → Int64) {o : Int32 × T8 × (Nat → Int64)} (hf : f_L_setWays w0 a1 a2 ou = some o) : gL l yL_setWays cL_setWays 5 [(0, 10, 13, 13)] rL_setWays E [.ref (h b0), .int a1, .int a2, .ref (ho bo)] [C8 E h b0, C2 E h (b0+1) w0.1, C6 E h (b0+3) w0.2.1, C5 E h (b0+9) w0.2.2.1.2.2, C6 E h ((b0+9)+1) w0.2.2.1.1, C7 E h ((b0+9)+7) w0.2.2.1.2.1, C3 E h (b0+18) w0.2.2.2.1, C0 E h (b0+20) w0.2.2.2.2, CO E ho bo ou] o.1 [C8 E h b0, C2 E h (b0+1) o.2.1.1, C6 E h (b0+3) o.2.1.2.1, C5 E h (b0+9) o.2.1.2.2.1.2.2, C6 E h ((b0+9)+1) o.2.1.2.2.1.1, C7 E h ((b0+9)+7) o.2.1.2.2.1.2.1, C3 E h (b0+18) o.2.1.2.2.2.1, C0 E h (b0+20) o.2.1.2.2.2.2, CO E ho bo o.2.2] := by
  refine gL.of (by decide +kernel) (Nat.le_of_ble_eq_true rfl) rfl ?_
  intro p e s m below meth c F hr hlk hte hK hNc hX hAB ls hl H locs hG
  have F : gF p m c cL_setWays 5 s ([.ref (h b0), .int a1, .int a2, .ref (ho bo)] : List Value).toArray RL := F
  generalize ([.ref (h b0), .int a1, .int a2, .ref (ho bo)] : List Value).toArray = args at F ⊢
  have hl : lv_has ls 5 [(0, .ref (h b0)), (1, .int a1), (2, .int a2), (3, .ref (ho bo))] := hl
  have hx := F.1
  have hb := F.2.1
  obtain ⟨z, hz, hf⟩ := wrp_in hf
  refine lv_aload_n hx hb dL_setWays_0 rfl (lv_at hl 3 rfl) ?_
  refine lv_iconst (v := 0) hx hb dL_setWays_1 (by decide) ?_
  refine lv_aload_n hx hb dL_setWays_2 rfl (lv_at hl 0 rfl) ?_
  refine lv_iload_n hx hb dL_setWays_3 rfl (lv_at hl 1 rfl) ?_
  refine lv_iload_n hx hb dL_setWays_4 rfl (lv_at hl 2 rfl) ?_
  refine g_callT (As := [.int a1, .int a2]) (rest := [.int 0, .ref (ho bo)]) F hK hX hAB hG [0, 1, 2, 3, 4, 5, 6, 7] rfl rfl (c_X8_setWays hst h b0 w0 a1 a2 hz) (kL_17 F.2.2.2.2 ⟨(Nat.le_of_ble_eq_true rfl), (Nat.le_of_ble_eq_true rfl)⟩) rfl rfl rfl rfl hl.1 rfl (lv_room (Nat.le_of_ble_eq_true rfl)) ⟨(Nat.le_of_ble_eq_true rfl), (Nat.le_of_ble_eq_true rfl)⟩ dL_setWays_5 (fun z2 H locs ce q9 e2 hG hce hcv hcl => ?_) (fun z2 H locs e2 hG => ?_)
  · cases z with
    | inr z => cases e2
    | inl z =>
      cases e2
      obtain ⟨k, r⟩ := z
      obtain ⟨rfl, rfl⟩ := wrp_l1 hf
      refine vx_catch (own := RL) (name := gxn 0) (E := gxn 0) F.2.2.2.1 [] ⟨0, 10, 13, 13⟩ [] hte (fun x hx => nomatch hx) rfl (by decide) (F.2.2.2.2 _ gw_483) (va_Nw.use (gx_nest_on _ (List.mem_of_getElem? (i := 26) rfl)) (gx_nest26 hK.2.1)) hce hcv hcl ?_
      refine lv_astore hx hb dL_setWays_13 hl (Nat.le_of_ble_eq_true rfl) rfl (fun ls hl => ?_)
      refine lv_iconst (v := 1) hx hb dL_setWays_15 (by decide) ?_
      exact g_lretI F hr hlk hG dL_setWays_16
  · cases z with
    | inl z => cases e2
    | inr z =>
      cases e2
      cases hf
      refine lv_i2l hx hb dL_setWays_8 rfl ?_
      refine g_last F hK hG 8 0 rfl rfl (g := vp_updL ou 0 z.1.toInt64) rfl dL_setWays_9 (fun H locs hG => ?_)
      refine lv_goto (tgt := 17) hx hb dL_setWays_10 (by decide) ?_
      refine lv_iconst (v := 0) hx hb dL_setWays_17 (by decide) ?_
      exact g_lretI F hr hlk hG dL_setWays_18
def f_L_word (w0 : T8) (a1 : Int32) (a2 : Int32) (ou : Nat → Int64) : Option (Int32 × T8 × (Nat → Int64)) := wrpU [2, 0] w0 ou (f_X8_word w0 a1 a2)
def rL_word : Room := { frames := 7, cells := 1, slots := 6, locals := 112 }
theorem hmL_word : yX8_word.cls = RX8 ∧ yX8_word.cls ≠ "java/lang/invoke/MethodHandle" ∧ yX8_word.cls ≠ "java/lang/invoke/VarHandle" ∧ (parseMethodDescriptor yX8_word.desc).map (fun d => d.parameters.length) = some 2 := by decide +kernel
theorem kL_21 {R : Room} {s : State} {args : Array Value} (ht : ∀ w ∈ gx_G, w.before args s = true) (hR : rX8_word.frames + 1 ≤ R.frames ∧ 8 + (3 + 11) + rX8_word.locals ≤ R.locals) : CallW R s args RL RX8 21 yX8_word cX8_word 3 (some .int) (gws yX8_word cX8_word 3 (some .int)) rX8_word 1 6 2 := cwV 2 ht (gx_gV gw_594 gw_595 gw_596 gw_1 gw_597) rfl rfl rfl hmL_word hR
theorem c_L_word {l : Launch} (hst : l.stackTraces = false) {E : gEnv} (h : Nat → Nat) (b0 : Nat) (w0 : T8) (a1 : Int32) (a2 : Int32) (ho : Nat → Nat) (bo : Nat) (ou : Nat → Int64) {o : Int32 × T8 × (Nat → Int64)} (hf : f_L_word w0 a1 a2 ou = some o) : gL l yL_word cL_word 5 [(0, 10, 13, 25), (0, 10, 17, 13)] rL_word E [.ref (h b0), .int a1, .int a2, .ref (ho bo)] [C8 E h b0, C2 E h (b0+1) w0.1, C6 E h (b0+3) w0.2.1, C5 E h (b0+9) w0.2.2.1.2.2, C6 E h ((b0+9)+1) w0.2.2.1.1, C7 E h ((b0+9)+7) w0.2.2.1.2.1, C3 E h (b0+18) w0.2.2.2.1, C0 E h (b0+20) w0.2.2.2.2, CO E ho bo ou] o.1 [C8 E h b0, C2 E h (b0+1) o.2.1.1, C6 E h (b0+3) o.2.1.2.1, C5 E h (b0+9) o.2.1.2.2.1.2.2, C6 E h ((b0+9)+1) o.2.1.2.2.1.1, C7 E h ((b0+9)+7) o.2.1.2.2.1.2.1, C3 E h (b0+18) o.2.1.2.2.2.1, C0 E h (b0+20) o.2.1.2.2.2.2, CO E ho bo o.2.2] := by
  refine gL.of (by decide +kernel) (Nat.le_of_ble_eq_true rfl) rfl ?_
  intro p e s m below meth c F hr hlk hte hK hNc hX hAB ls hl H locs hG
  have F : gF p m c cL_word 5 s ([.ref (h b0), .int a1, .int a2, .ref (ho bo)] : List Value).toArray RL := F
  generalize ([.ref (h b0), .int a1, .int a2, .ref (ho bo)] : List Value).toArray = args at F ⊢
  have hl : lv_has ls 5 [(0, .ref (h b0)), (1, .int a1), (2, .int a2), (3, .ref (ho bo))] := hl
  have hx := F.1
  have hb := F.2.1
  obtain ⟨z, hz, hf⟩ := wrpU_in hf
  refine lv_aload_n hx hb dL_word_0 rfl (lv_at hl 3 rfl) ?_
  refine lv_iconst (v := 0) hx hb dL_word_1 (by decide) ?_
  refine lv_aload_n hx hb dL_word_2 rfl (lv_at hl 0 rfl) ?_
  refine lv_iload_n hx hb dL_word_3 rfl (lv_at hl 1 rfl) ?_
  refine lv_iload_n hx hb dL_word_4 rfl (lv_at hl 2 rfl) ?_
  refine g_callT (As := [.int a1, .int a2]) (rest := [.int 0, .ref (ho bo)]) F hK hX hAB hG [0, 1, 2, 3, 4, 5, 6, 7] rfl rfl (c_X8_word hst h b0 w0 a1 a2 hz) (kL_21 F.2.2.2.2 ⟨(Nat.le_of_ble_eq_true rfl), (Nat.le_of_ble_eq_true rfl)⟩) rfl rfl rfl rfl hl.1 rfl (lv_room (Nat.le_of_ble_eq_true rfl)) ⟨(Nat.le_of_ble_eq_true rfl), (Nat.le_of_ble_eq_true rfl)⟩ dL_word_5 (fun z2 H locs ce q9 e2 hG hce hcv hcl => ?_) (fun z2 H locs e2 hG => ?_)
  · cases z with
    | inr z => cases e2
    | inl z =>
      cases e2
      rcases wrpU_l2 hf with ⟨rfl, rfl⟩ | ⟨rfl, rfl⟩
      · refine vx_catch (own := RL) (name := gxn 2) (E := gxn 2) F.2.2.2.1 [] ⟨0, 10, 13, 25⟩ [⟨0, 10, 17, 13⟩] hte (fun x hx => nomatch hx) rfl (by decide) (F.2.2.2.2 _ gw_593) (va_Nw.use (gx_nest_on _ (List.mem_of_getElem? (i := 34) rfl)) (gx_nest34 hK.2.1)) hce hcv hcl ?_
        refine lv_astore hx hb dL_word_13 hl (Nat.le_of_ble_eq_true rfl) rfl (fun ls hl => ?_)
        refine lv_iconst (v := 1) hx hb dL_word_15 (by decide) ?_
        exact g_lretI F hr hlk hG dL_word_16
      · refine vx_catch (own := RL) (name := gxn 0) (E := gxn 0) F.2.2.2.1 [⟨0, 10, 13, 25⟩] ⟨0, 10, 17, 13⟩ [] hte (fun x hx => by rw [List.mem_singleton.mp hx]; exact Or.inr ⟨by decide, _, F.2.2.2.2 _ gw_593, hNc _ (List.mem_of_getElem? (i := 2) rfl)⟩) rfl (by decide) (F.2.2.2.2 _ gw_483) (va_Nw.use (gx_nest_on _ (List.mem_of_getElem? (i := 26) rfl)) (gx_nest26 hK.2.1)) hce hcv hcl ?_
        refine lv_astore hx hb dL_word_17 hl (Nat.le_of_ble_eq_true rfl) rfl (fun ls hl => ?_)
        refine lv_iconst (v := 2) hx hb dL_word_19 (by decide) ?_
        exact g_lretI F hr hlk hG dL_word_20
  · cases z with
    | inl z => cases e2
    | inr z =>
      cases e2
      cases hf
      refine lv_i2l hx hb dL_word_8 rfl ?_
      refine g_last F hK hG 8 0 rfl rfl (g := vp_updL ou 0 z.toInt64) rfl dL_word_9 (fun H locs hG => ?_)
      refine lv_goto (tgt := 21) hx hb dL_word_10 (by decide) ?_
      refine lv_iconst (v := 0) hx hb dL_word_21 (by decide) ?_
      exact g_lretI F hr hlk hG dL_word_22
def f_L_letter (w0 : T8) (a1 : Int32) (a2 : Int32) (ou : Nat → Int64) : Option (Int32 × T8 × (Nat → Int64)) := wrpU [2] w0 ou (f_X8_letter w0 a1 a2)
def rL_letter : Room := { frames := 7, cells := 1, slots := 6, locals := 114 }
theorem hmL_letter : yX8_letter.cls = RX8 ∧ yX8_letter.cls ≠ "java/lang/invoke/MethodHandle" ∧ yX8_letter.cls ≠ "java/lang/invoke/VarHandle" ∧ (parseMethodDescriptor yX8_letter.desc).map (fun d => d.parameters.length) = some 2 := by decide +kernel
theorem kL_27 {R : Room} {s : State} {args : Array Value} (ht : ∀ w ∈ gx_G, w.before args s = true) (hR : rX8_letter.frames + 1 ≤ R.frames ∧ 8 + (5 + 11) + rX8_letter.locals ≤ R.locals) : CallW R s args RL RX8 27 yX8_letter cX8_letter 5 (some .int) (gws yX8_letter cX8_letter 5 (some .int)) rX8_letter 1 6 2 := cwV 2 ht (gx_gV gw_619 gw_620 gw_621 gw_1 gw_622) rfl rfl rfl hmL_letter hR
theorem c_L_letter {l : Launch} (hst : l.stackTraces = false) {E : gEnv} (h : Nat → Nat) (b0 : Nat) (w0 : T8) (a1 : Int32) (a2 : Int32) (ho : Nat → Nat) (bo : Nat) (ou : Nat → Int64) {o : Int32 × T8 × (Nat → Int64)} (hf : f_L_letter w0 a1 a2 ou = some o) : gL l yL_letter cL_letter 5 [(0, 10, 13, 25)] rL_letter E [.ref (h b0), .int a1, .int a2, .ref (ho bo)] [C8 E h b0, C2 E h (b0+1) w0.1, C6 E h (b0+3) w0.2.1, C5 E h (b0+9) w0.2.2.1.2.2, C6 E h ((b0+9)+1) w0.2.2.1.1, C7 E h ((b0+9)+7) w0.2.2.1.2.1, C3 E h (b0+18) w0.2.2.2.1, C0 E h (b0+20) w0.2.2.2.2, CO E ho bo ou] o.1 [C8 E h b0, C2 E h (b0+1) o.2.1.1, C6 E h (b0+3) o.2.1.2.1, C5 E h (b0+9) o.2.1.2.2.1.2.2, C6 E h ((b0+9)+1) o.2.1.2.2.1.1, C7 E h ((b0+9)+7) o.2.1.2.2.1.2.1, C3 E h (b0+18) o.2.1.2.2.2.1, C0 E h (b0+20) o.2.1.2.2.2.2, CO E ho bo o.2.2] := by
  refine gL.of (by decide +kernel) (Nat.le_of_ble_eq_true rfl) rfl ?_
  intro p e s m below meth c F hr hlk hte hK hNc hX hAB ls hl H locs hG
  have F : gF p m c cL_letter 5 s ([.ref (h b0), .int a1, .int a2, .ref (ho bo)] : List Value).toArray RL := F
  generalize ([.ref (h b0), .int a1, .int a2, .ref (ho bo)] : List Value).toArray = args at F ⊢
  have hl : lv_has ls 5 [(0, .ref (h b0)), (1, .int a1), (2, .int a2), (3, .ref (ho bo))] := hl
  have hx := F.1
  have hb := F.2.1
  obtain ⟨z, hz, hf⟩ := wrpU_in hf
  refine lv_aload_n hx hb dL_letter_0 rfl (lv_at hl 3 rfl) ?_
  refine lv_iconst (v := 0) hx hb dL_letter_1 (by decide) ?_
  refine lv_aload_n hx hb dL_letter_2 rfl (lv_at hl 0 rfl) ?_
  refine lv_iload_n hx hb dL_letter_3 rfl (lv_at hl 1 rfl) ?_
  refine lv_iload_n hx hb dL_letter_4 rfl (lv_at hl 2 rfl) ?_
  refine g_callT (As := [.int a1, .int a2]) (rest := [.int 0, .ref (ho bo)]) F hK hX hAB hG [0, 1, 2, 3, 4, 5, 6, 7] rfl rfl (c_X8_letter hst h b0 w0 a1 a2 hz) (kL_27 F.2.2.2.2 ⟨(Nat.le_of_ble_eq_true rfl), (Nat.le_of_ble_eq_true rfl)⟩) rfl rfl rfl rfl hl.1 rfl (lv_room (Nat.le_of_ble_eq_true rfl)) ⟨(Nat.le_of_ble_eq_true rfl), (Nat.le_of_ble_eq_true rfl)⟩ dL_letter_5 (fun z2 H locs ce q9 e2 hG hce hcv hcl => ?_) (fun z2 H locs e2 hG => ?_)
  · cases z with
    | inr z => cases e2
    | inl z =>
      cases e2
      obtain ⟨rfl, rfl⟩ := wrpU_l1 hf
      refine vx_catch (own := RL) (name := gxn 2) (E := gxn 2) F.2.2.2.1 [] ⟨0, 10, 13, 25⟩ [] hte (fun x hx => nomatch hx) rfl (by decide) (F.2.2.2.2 _ gw_593) (va_Nw.use (gx_nest_on _ (List.mem_of_getElem? (i := 34) rfl)) (gx_nest34 hK.2.1)) hce hcv hcl ?_
      refine lv_astore hx hb dL_letter_13 hl (Nat.le_of_ble_eq_true rfl) rfl (fun ls hl => ?_)
      refine lv_iconst (v := 1) hx hb dL_letter_15 (by decide) ?_
      exact g_lretI F hr hlk hG dL_letter_16
  · cases z with
    | inl z => cases e2
    | inr z =>
      cases e2
      cases hf
      refine lv_i2l hx hb dL_letter_8 rfl ?_
      refine g_last F hK hG 8 0 rfl rfl (g := vp_updL ou 0 z.toInt64) rfl dL_letter_9 (fun H locs hG => ?_)
      refine lv_goto (tgt := 17) hx hb dL_letter_10 (by decide) ?_
      refine lv_iconst (v := 0) hx hb dL_letter_17 (by decide) ?_
      exact g_lretI F hr hlk hG dL_letter_18
def f_L_press (w0 : T8) (a1 : Int32) (ou : Nat → Int64) : Option (Int32 × T8 × (Nat → Int64)) := wrp [0, 1] (fun r => (w0.1, w0.2.1, (w0.2.2.1.1, w0.2.2.1.2.1, r.1), r.2, w0.2.2.2.2)) ou (f_X8_press w0 a1)
def rL_press : Room := { frames := 7, cells := 1, slots := 6, locals := 113 }
theorem hmL_press : yX8_press.cls = RX8 ∧ yX8_press.cls ≠ "java/lang/invoke/MethodHandle" ∧ yX8_press.cls ≠ "java/lang/invoke/VarHandle" ∧ (parseMethodDescriptor yX8_press.desc).map (fun d => d.parameters.length) = some 1 := by decide +kernel
theorem kL_30 {R : Room} {s : State} {args : Array Value} (ht : ∀ w ∈ gx_G, w.before args s = true) (hR : rX8_press.frames + 1 ≤ R.frames ∧ 8 + (3 + 11) + rX8_press.locals ≤ R.locals) : CallW R s args RL RX8 30 yX8_press cX8_press 3 (some .int) (gws yX8_press cX8_press 3 (some .int)) rX8_press 1 6 1 := cwV 1 ht (gx_gV gw_628 gw_629 gw_630 gw_1 gw_631) rfl rfl rfl hmL_press hR
theorem c_L_press {l : Launch} (hst : l.stackTraces = false) {E : gEnv} (h : Nat → Nat) (b0 : Nat) (w0 : T8) (a1 : Int32) (ho : Nat → Nat) (bo : Nat) (ou : Nat → Int64) {o : Int32 × T8 × (Nat → Int64)} (hf : f_L_press w0 a1 ou = some o) : gL l yL_press cL_press 4 [(0, 9, 12, 13), (0, 9, 15, 15)] rL_press E [.ref (h b0), .int a1, .ref (ho bo)] [C8 E h b0, C2 E h (b0+1) w0.1, C6 E h (b0+3) w0.2.1, C5 E h (b0+9) w0.2.2.1.2.2, C6 E h ((b0+9)+1) w0.2.2.1.1, C7 E h ((b0+9)+7) w0.2.2.1.2.1, C3 E h (b0+18) w0.2.2.2.1, C0 E h (b0+20) w0.2.2.2.2, CO E ho bo ou] o.1 [C8 E h b0, C2 E h (b0+1) o.2.1.1, C6 E h (b0+3) o.2.1.2.1, C5 E h (b0+9) o.2.1.2.2.1.2.2, C6 E h ((b0+9)+1) o.2.1.2.2.1.1, C7 E h ((b0+9)+7) o.2.1.2.2.1.2.1, C3 E h (b0+18) o.2.1.2.2.2.1, C0 E h (b0+20) o.2.1.2.2.2.2, CO E ho bo o.2.2] := by
  refine gL.of (by decide +kernel) (Nat.le_of_ble_eq_true rfl) rfl ?_
  intro p e s m below meth c F hr hlk hte hK hNc hX hAB ls hl H locs hG
  have F : gF p m c cL_press 4 s ([.ref (h b0), .int a1, .ref (ho bo)] : List Value).toArray RL := F
  generalize ([.ref (h b0), .int a1, .ref (ho bo)] : List Value).toArray = args at F ⊢
  have hl : lv_has ls 4 [(0, .ref (h b0)), (1, .int a1), (2, .ref (ho bo))] := hl
  have hx := F.1
  have hb := F.2.1
  obtain ⟨z, hz, hf⟩ := wrp_in hf
  refine lv_aload_n hx hb dL_press_0 rfl (lv_at hl 2 rfl) ?_
  refine lv_iconst (v := 0) hx hb dL_press_1 (by decide) ?_
  refine lv_aload_n hx hb dL_press_2 rfl (lv_at hl 0 rfl) ?_
  refine lv_iload_n hx hb dL_press_3 rfl (lv_at hl 1 rfl) ?_
  refine g_callT (As := [.int a1]) (rest := [.int 0, .ref (ho bo)]) F hK hX hAB hG [0, 1, 2, 3, 4, 5, 6, 7] rfl rfl (c_X8_press hst h b0 w0 a1 hz) (kL_30 F.2.2.2.2 ⟨(Nat.le_of_ble_eq_true rfl), (Nat.le_of_ble_eq_true rfl)⟩) rfl rfl rfl rfl hl.1 rfl (lv_room (Nat.le_of_ble_eq_true rfl)) ⟨(Nat.le_of_ble_eq_true rfl), (Nat.le_of_ble_eq_true rfl)⟩ dL_press_4 (fun z2 H locs ce q9 e2 hG hce hcv hcl => ?_) (fun z2 H locs e2 hG => ?_)
  · cases z with
    | inr z => cases e2
    | inl z =>
      cases e2
      obtain ⟨k, r⟩ := z
      rcases wrp_l2 hf with ⟨rfl, rfl⟩ | ⟨rfl, rfl⟩
      · refine vx_catch (own := RL) (name := gxn 0) (E := gxn 0) F.2.2.2.1 [] ⟨0, 9, 12, 13⟩ [⟨0, 9, 15, 15⟩] hte (fun x hx => nomatch hx) rfl (by decide) (F.2.2.2.2 _ gw_483) (va_Nw.use (gx_nest_on _ (List.mem_of_getElem? (i := 26) rfl)) (gx_nest26 hK.2.1)) hce hcv hcl ?_
        refine lv_astore_n hx hb dL_press_12 rfl hl (Nat.le_of_ble_eq_true rfl) rfl (fun ls hl => ?_)
        refine lv_iconst (v := 1) hx hb dL_press_13 (by decide) ?_
        exact g_lretI F hr hlk hG dL_press_14
      · refine vx_catch (own := RL) (name := gxn 1) (E := gxn 1) F.2.2.2.1 [⟨0, 9, 12, 13⟩] ⟨0, 9, 15, 15⟩ [] hte (fun x hx => by rw [List.mem_singleton.mp hx]; exact Or.inr ⟨by decide, _, F.2.2.2.2 _ gw_483, hNc _ (List.mem_of_getElem? (i := 0) rfl)⟩) rfl (by decide) (F.2.2.2.2 _ gw_484) (va_Nw.use (gx_nest_on _ (List.mem_of_getElem? (i := 33) rfl)) (gx_nest33 hK.2.1)) hce hcv hcl ?_
        refine lv_astore_n hx hb dL_press_15 rfl hl (Nat.le_of_ble_eq_true rfl) rfl (fun ls hl => ?_)
        refine lv_iconst (v := 2) hx hb dL_press_16 (by decide) ?_
        exact g_lretI F hr hlk hG dL_press_17
  · cases z with
    | inl z => cases e2
    | inr z =>
      cases e2
      cases hf
      refine lv_i2l hx hb dL_press_7 rfl ?_
      refine g_last F hK hG 8 0 rfl rfl (g := vp_updL ou 0 z.1.toInt64) rfl dL_press_8 (fun H locs hG => ?_)
      refine lv_goto (tgt := 18) hx hb dL_press_9 (by decide) ?_
      refine lv_iconst (v := 0) hx hb dL_press_18 (by decide) ?_
      exact g_lretI F hr hlk hG dL_press_19
def f_L_next (w0 : T8)  (ou : Nat → Int64) : Option (Int32 × T8 × (Nat → Int64)) := wrp [1] (fun r => (w0.1, w0.2.1, (w0.2.2.1.1, w0.2.2.1.2.1, r.1), r.2.1, r.2.2)) ou (f_X8_next w0)
def rL_next : Room := { frames := 7, cells := 1, slots := 6, locals := 138 }
theorem hmL_next : yX8_next.cls = RX8 ∧ yX8_next.cls ≠ "java/lang/invoke/MethodHandle" ∧ yX8_next.cls ≠ "java/lang/invoke/VarHandle" ∧ (parseMethodDescriptor yX8_next.desc).map (fun d => d.parameters.length) = some 0 := by decide +kernel
theorem kL_33 {R : Room} {s : State} {args : Array Value} (ht : ∀ w ∈ gx_G, w.before args s = true) (hR : rX8_next.frames + 1 ≤ R.frames ∧ 8 + (2 + 11) + rX8_next.locals ≤ R.locals) : CallW R s args RL RX8 33 yX8_next cX8_next 2 (some .int) (gws yX8_next cX8_next 2 (some .int)) rX8_next 1 6 0 := cwV 0 ht (gx_gV gw_655 gw_656 gw_657 gw_1 gw_658) rfl rfl rfl hmL_next hR
theorem c_L_next {l : Launch} (hst : l.stackTraces = false) {E : gEnv} (h : Nat → Nat) (b0 : Nat) (w0 : T8)  (ho : Nat → Nat) (bo : Nat) (ou : Nat → Int64) {o : Int32 × T8 × (Nat → Int64)} (hf : f_L_next w0  ou = some o) : gL l yL_next cL_next 3 [(0, 8, 11, 15)] rL_next E [.ref (h b0), .ref (ho bo)] [C8 E h b0, C2 E h (b0+1) w0.1, C6 E h (b0+3) w0.2.1, C5 E h (b0+9) w0.2.2.1.2.2, C6 E h ((b0+9)+1) w0.2.2.1.1, C7 E h ((b0+9)+7) w0.2.2.1.2.1, C3 E h (b0+18) w0.2.2.2.1, C0 E h (b0+20) w0.2.2.2.2, CO E ho bo ou] o.1 [C8 E h b0, C2 E h (b0+1) o.2.1.1, C6 E h (b0+3) o.2.1.2.1, C5 E h (b0+9) o.2.1.2.2.1.2.2, C6 E h ((b0+9)+1) o.2.1.2.2.1.1, C7 E h ((b0+9)+7) o.2.1.2.2.1.2.1, C3 E h (b0+18) o.2.1.2.2.2.1, C0 E h (b0+20) o.2.1.2.2.2.2, CO E ho bo o.2.2] := by
  refine gL.of (by decide +kernel) (Nat.le_of_ble_eq_true rfl) rfl ?_
  intro p e s m below meth c F hr hlk hte hK hNc hX hAB ls hl H locs hG
  have F : gF p m c cL_next 3 s ([.ref (h b0), .ref (ho bo)] : List Value).toArray RL := F
  generalize ([.ref (h b0), .ref (ho bo)] : List Value).toArray = args at F ⊢
  have hl : lv_has ls 3 [(0, .ref (h b0)), (1, .ref (ho bo))] := hl
  have hx := F.1
  have hb := F.2.1
  obtain ⟨z, hz, hf⟩ := wrp_in hf
  refine lv_aload_n hx hb dL_next_0 rfl (lv_at hl 1 rfl) ?_
  refine lv_iconst (v := 0) hx hb dL_next_1 (by decide) ?_
  refine lv_aload_n hx hb dL_next_2 rfl (lv_at hl 0 rfl) ?_
  refine g_callT (As := []) (rest := [.int 0, .ref (ho bo)]) F hK hX hAB hG [0, 1, 2, 3, 4, 5, 6, 7] rfl rfl (c_X8_next hst h b0 w0  hz) (kL_33 F.2.2.2.2 ⟨(Nat.le_of_ble_eq_true rfl), (Nat.le_of_ble_eq_true rfl)⟩) rfl rfl rfl rfl hl.1 rfl (lv_room (Nat.le_of_ble_eq_true rfl)) ⟨(Nat.le_of_ble_eq_true rfl), (Nat.le_of_ble_eq_true rfl)⟩ dL_next_3 (fun z2 H locs ce q9 e2 hG hce hcv hcl => ?_) (fun z2 H locs e2 hG => ?_)
  · cases z with
    | inr z => cases e2
    | inl z =>
      cases e2
      obtain ⟨k, r⟩ := z
      obtain ⟨rfl, rfl⟩ := wrp_l1 hf
      refine vx_catch (own := RL) (name := gxn 1) (E := gxn 1) F.2.2.2.1 [] ⟨0, 8, 11, 15⟩ [] hte (fun x hx => nomatch hx) rfl (by decide) (F.2.2.2.2 _ gw_484) (va_Nw.use (gx_nest_on _ (List.mem_of_getElem? (i := 33) rfl)) (gx_nest33 hK.2.1)) hce hcv hcl ?_
      refine lv_astore_n hx hb dL_next_11 rfl hl (Nat.le_of_ble_eq_true rfl) rfl (fun ls hl => ?_)
      refine lv_iconst (v := 1) hx hb dL_next_12 (by decide) ?_
      exact g_lretI F hr hlk hG dL_next_13
  · cases z with
    | inl z => cases e2
    | inr z =>
      cases e2
      cases hf
      refine lv_i2l hx hb dL_next_6 rfl ?_
      refine g_last F hK hG 8 0 rfl rfl (g := vp_updL ou 0 z.1.toInt64) rfl dL_next_7 (fun H locs hG => ?_)
      refine lv_goto (tgt := 14) hx hb dL_next_8 (by decide) ?_
      refine lv_iconst (v := 0) hx hb dL_next_14 (by decide) ?_
      exact g_lretI F hr hlk hG dL_next_15
def f_L_erase (w0 : T8)  (ou : Nat → Int64) : Option (Int32 × T8 × (Nat → Int64)) := wrp [1] (fun r => (w0.1, w0.2.1, (w0.2.2.1.1, r.2.1, r.1), r.2.2, w0.2.2.2.2)) ou (f_X8_erase w0)
def rL_erase : Room := { frames := 7, cells := 1, slots := 6, locals := 111 }
theorem hmL_erase : yX8_erase.cls = RX8 ∧ yX8_erase.cls ≠ "java/lang/invoke/MethodHandle" ∧ yX8_erase.cls ≠ "java/lang/invoke/VarHandle" ∧ (parseMethodDescriptor yX8_erase.desc).map (fun d => d.parameters.length) = some 0 := by decide +kernel
theorem kL_37 {R : Room} {s : State} {args : Array Value} (ht : ∀ w ∈ gx_G, w.before args s = true) (hR : rX8_erase.frames + 1 ≤ R.frames ∧ 8 + (1 + 11) + rX8_erase.locals ≤ R.locals) : CallW R s args RL RX8 37 yX8_erase cX8_erase 1 (some .int) (gws yX8_erase cX8_erase 1 (some .int)) rX8_erase 1 6 0 := cwV 0 ht (gx_gV gw_663 gw_664 gw_665 gw_1 gw_666) rfl rfl rfl hmL_erase hR
theorem c_L_erase {l : Launch} (hst : l.stackTraces = false) {E : gEnv} (h : Nat → Nat) (b0 : Nat) (w0 : T8)  (ho : Nat → Nat) (bo : Nat) (ou : Nat → Int64) {o : Int32 × T8 × (Nat → Int64)} (hf : f_L_erase w0  ou = some o) : gL l yL_erase cL_erase 3 [(0, 8, 11, 15)] rL_erase E [.ref (h b0), .ref (ho bo)] [C8 E h b0, C2 E h (b0+1) w0.1, C6 E h (b0+3) w0.2.1, C5 E h (b0+9) w0.2.2.1.2.2, C6 E h ((b0+9)+1) w0.2.2.1.1, C7 E h ((b0+9)+7) w0.2.2.1.2.1, C3 E h (b0+18) w0.2.2.2.1, C0 E h (b0+20) w0.2.2.2.2, CO E ho bo ou] o.1 [C8 E h b0, C2 E h (b0+1) o.2.1.1, C6 E h (b0+3) o.2.1.2.1, C5 E h (b0+9) o.2.1.2.2.1.2.2, C6 E h ((b0+9)+1) o.2.1.2.2.1.1, C7 E h ((b0+9)+7) o.2.1.2.2.1.2.1, C3 E h (b0+18) o.2.1.2.2.2.1, C0 E h (b0+20) o.2.1.2.2.2.2, CO E ho bo o.2.2] := by
  refine gL.of (by decide +kernel) (Nat.le_of_ble_eq_true rfl) rfl ?_
  intro p e s m below meth c F hr hlk hte hK hNc hX hAB ls hl H locs hG
  have F : gF p m c cL_erase 3 s ([.ref (h b0), .ref (ho bo)] : List Value).toArray RL := F
  generalize ([.ref (h b0), .ref (ho bo)] : List Value).toArray = args at F ⊢
  have hl : lv_has ls 3 [(0, .ref (h b0)), (1, .ref (ho bo))] := hl
  have hx := F.1
  have hb := F.2.1
  obtain ⟨z, hz, hf⟩ := wrp_in hf
  refine lv_aload_n hx hb dL_erase_0 rfl (lv_at hl 1 rfl) ?_
  refine lv_iconst (v := 0) hx hb dL_erase_1 (by decide) ?_
  refine lv_aload_n hx hb dL_erase_2 rfl (lv_at hl 0 rfl) ?_
  refine g_callT (As := []) (rest := [.int 0, .ref (ho bo)]) F hK hX hAB hG [0, 1, 2, 3, 4, 5, 6, 7] rfl rfl (c_X8_erase hst h b0 w0  hz) (kL_37 F.2.2.2.2 ⟨(Nat.le_of_ble_eq_true rfl), (Nat.le_of_ble_eq_true rfl)⟩) rfl rfl rfl rfl hl.1 rfl (lv_room (Nat.le_of_ble_eq_true rfl)) ⟨(Nat.le_of_ble_eq_true rfl), (Nat.le_of_ble_eq_true rfl)⟩ dL_erase_3 (fun z2 H locs ce q9 e2 hG hce hcv hcl => ?_) (fun z2 H locs e2 hG => ?_)
  · cases z with
    | inr z => cases e2
    | inl z =>
      cases e2
      obtain ⟨k, r⟩ := z
      obtain ⟨rfl, rfl⟩ := wrp_l1 hf
      refine vx_catch (own := RL) (name := gxn 1) (E := gxn 1) F.2.2.2.1 [] ⟨0, 8, 11, 15⟩ [] hte (fun x hx => nomatch hx) rfl (by decide) (F.2.2.2.2 _ gw_484) (va_Nw.use (gx_nest_on _ (List.mem_of_getElem? (i := 33) rfl)) (gx_nest33 hK.2.1)) hce hcv hcl ?_
      refine lv_astore_n hx hb dL_erase_11 rfl hl (Nat.le_of_ble_eq_true rfl) rfl (fun ls hl => ?_)
      refine lv_iconst (v := 1) hx hb dL_erase_12 (by decide) ?_
      exact g_lretI F hr hlk hG dL_erase_13
  · cases z with
    | inl z => cases e2
    | inr z =>
      cases e2
      cases hf
      refine lv_i2l hx hb dL_erase_6 rfl ?_
      refine g_last F hK hG 8 0 rfl rfl (g := vp_updL ou 0 z.1.toInt64) rfl dL_erase_7 (fun H locs hG => ?_)
      refine lv_goto (tgt := 14) hx hb dL_erase_8 (by decide) ?_
      refine lv_iconst (v := 0) hx hb dL_erase_14 (by decide) ?_
      exact g_lretI F hr hlk hG dL_erase_15
def f_L_accept (w0 : T8)  (ou : Nat → Int64) : Option (Int32 × T8 × (Nat → Int64)) := wrp [1] (fun r => (w0.1, w0.2.1, (r.2.1, r.2.2.1, r.1), r.2.2.2.1, r.2.2.2.2)) ou (f_X8_accept w0)
def rL_accept : Room := { frames := 7, cells := 1, slots := 6, locals := 160 }
theorem hmL_accept : yX8_accept.cls = RX8 ∧ yX8_accept.cls ≠ "java/lang/invoke/MethodHandle" ∧ yX8_accept.cls ≠ "java/lang/invoke/VarHandle" ∧ (parseMethodDescriptor yX8_accept.desc).map (fun d => d.parameters.length) = some 0 := by decide +kernel
theorem kL_40 {R : Room} {s : State} {args : Array Value} (ht : ∀ w ∈ gx_G, w.before args s = true) (hR : rX8_accept.frames + 1 ≤ R.frames ∧ 8 + (1 + 11) + rX8_accept.locals ≤ R.locals) : CallW R s args RL RX8 40 yX8_accept cX8_accept 1 (some .int) (gws yX8_accept cX8_accept 1 (some .int)) rX8_accept 1 6 0 := cwV 0 ht (gx_gV gw_680 gw_681 gw_682 gw_1 gw_683) rfl rfl rfl hmL_accept hR
theorem c_L_accept {l : Launch} (hst : l.stackTraces = false) {E : gEnv} (h : Nat → Nat) (b0 : Nat) (w0 : T8)  (ho : Nat → Nat) (bo : Nat) (ou : Nat → Int64) {o : Int32 × T8 × (Nat → Int64)} (hf : f_L_accept w0  ou = some o) : gL l yL_accept cL_accept 3 [(0, 8, 11, 15)] rL_accept E [.ref (h b0), .ref (ho bo)] [C8 E h b0, C2 E h (b0+1) w0.1, C6 E h (b0+3) w0.2.1, C5 E h (b0+9) w0.2.2.1.2.2, C6 E h ((b0+9)+1) w0.2.2.1.1, C7 E h ((b0+9)+7) w0.2.2.1.2.1, C3 E h (b0+18) w0.2.2.2.1, C0 E h (b0+20) w0.2.2.2.2, CO E ho bo ou] o.1 [C8 E h b0, C2 E h (b0+1) o.2.1.1, C6 E h (b0+3) o.2.1.2.1, C5 E h (b0+9) o.2.1.2.2.1.2.2, C6 E h ((b0+9)+1) o.2.1.2.2.1.1, C7 E h ((b0+9)+7) o.2.1.2.2.1.2.1, C3 E h (b0+18) o.2.1.2.2.2.1, C0 E h (b0+20) o.2.1.2.2.2.2, CO E ho bo o.2.2] := by
  refine gL.of (by decide +kernel) (Nat.le_of_ble_eq_true rfl) rfl ?_
  intro p e s m below meth c F hr hlk hte hK hNc hX hAB ls hl H locs hG
  have F : gF p m c cL_accept 3 s ([.ref (h b0), .ref (ho bo)] : List Value).toArray RL := F
  generalize ([.ref (h b0), .ref (ho bo)] : List Value).toArray = args at F ⊢
  have hl : lv_has ls 3 [(0, .ref (h b0)), (1, .ref (ho bo))] := hl
  have hx := F.1
  have hb := F.2.1
  obtain ⟨z, hz, hf⟩ := wrp_in hf
  refine lv_aload_n hx hb dL_accept_0 rfl (lv_at hl 1 rfl) ?_
  refine lv_iconst (v := 0) hx hb dL_accept_1 (by decide) ?_
  refine lv_aload_n hx hb dL_accept_2 rfl (lv_at hl 0 rfl) ?_
  refine g_callT (As := []) (rest := [.int 0, .ref (ho bo)]) F hK hX hAB hG [0, 1, 2, 3, 4, 5, 6, 7] rfl rfl (c_X8_accept hst h b0 w0  hz) (kL_40 F.2.2.2.2 ⟨(Nat.le_of_ble_eq_true rfl), (Nat.le_of_ble_eq_true rfl)⟩) rfl rfl rfl rfl hl.1 rfl (lv_room (Nat.le_of_ble_eq_true rfl)) ⟨(Nat.le_of_ble_eq_true rfl), (Nat.le_of_ble_eq_true rfl)⟩ dL_accept_3 (fun z2 H locs ce q9 e2 hG hce hcv hcl => ?_) (fun z2 H locs e2 hG => ?_)
  · cases z with
    | inr z => cases e2
    | inl z =>
      cases e2
      obtain ⟨k, r⟩ := z
      obtain ⟨rfl, rfl⟩ := wrp_l1 hf
      refine vx_catch (own := RL) (name := gxn 1) (E := gxn 1) F.2.2.2.1 [] ⟨0, 8, 11, 15⟩ [] hte (fun x hx => nomatch hx) rfl (by decide) (F.2.2.2.2 _ gw_484) (va_Nw.use (gx_nest_on _ (List.mem_of_getElem? (i := 33) rfl)) (gx_nest33 hK.2.1)) hce hcv hcl ?_
      refine lv_astore_n hx hb dL_accept_11 rfl hl (Nat.le_of_ble_eq_true rfl) rfl (fun ls hl => ?_)
      refine lv_iconst (v := 1) hx hb dL_accept_12 (by decide) ?_
      exact g_lretI F hr hlk hG dL_accept_13
  · cases z with
    | inl z => cases e2
    | inr z =>
      cases e2
      cases hf
      refine lv_i2l hx hb dL_accept_6 rfl ?_
      refine g_last F hK hG 8 0 rfl rfl (g := vp_updL ou 0 z.1.toInt64) rfl dL_accept_7 (fun H locs hG => ?_)
      refine lv_goto (tgt := 14) hx hb dL_accept_8 (by decide) ?_
      refine lv_iconst (v := 0) hx hb dL_accept_14 (by decide) ?_
      exact g_lretI F hr hlk hG dL_accept_15
def f_L_open (w0 : T8) (a1 : Int32) (ou : Nat → Int64) : Option (Int32 × T8 × (Nat → Int64)) := wrp [2, 1] (fun r => (w0.1, w0.2.1, (w0.2.2.1.1, w0.2.2.1.2.1, r.1), r.2, w0.2.2.2.2)) ou (f_X8_open w0 a1)
def rL_open : Room := { frames := 7, cells := 1, slots := 6, locals := 112 }
theorem hmL_open : yX8_open.cls = RX8 ∧ yX8_open.cls ≠ "java/lang/invoke/MethodHandle" ∧ yX8_open.cls ≠ "java/lang/invoke/VarHandle" ∧ (parseMethodDescriptor yX8_open.desc).map (fun d => d.parameters.length) = some 1 := by decide +kernel
theorem kL_43 {R : Room} {s : State} {args : Array Value} (ht : ∀ w ∈ gx_G, w.before args s = true) (hR : rX8_open.frames + 1 ≤ R.frames ∧ 8 + (2 + 11) + rX8_open.locals ≤ R.locals) : CallW R s args RL RX8 43 yX8_open cX8_open 2 (some .int) (gws yX8_open cX8_open 2 (some .int)) rX8_open 1 6 1 := cwV 1 ht (gx_gV gw_721 gw_722 gw_723 gw_1 gw_724) rfl rfl rfl hmL_open hR
theorem c_L_open {l : Launch} (hst : l.stackTraces = false) {E : gEnv} (h : Nat → Nat) (b0 : Nat) (w0 : T8) (a1 : Int32) (ho : Nat → Nat) (bo : Nat) (ou : Nat → Int64) {o : Int32 × T8 × (Nat → Int64)} (hf : f_L_open w0 a1 ou = some o) : gL l yL_open cL_open 4 [(0, 9, 12, 25), (0, 9, 15, 15)] rL_open E [.ref (h b0), .int a1, .ref (ho bo)] [C8 E h b0, C2 E h (b0+1) w0.1, C6 E h (b0+3) w0.2.1, C5 E h (b0+9) w0.2.2.1.2.2, C6 E h ((b0+9)+1) w0.2.2.1.1, C7 E h ((b0+9)+7) w0.2.2.1.2.1, C3 E h (b0+18) w0.2.2.2.1, C0 E h (b0+20) w0.2.2.2.2, CO E ho bo ou] o.1 [C8 E h b0, C2 E h (b0+1) o.2.1.1, C6 E h (b0+3) o.2.1.2.1, C5 E h (b0+9) o.2.1.2.2.1.2.2, C6 E h ((b0+9)+1) o.2.1.2.2.1.1, C7 E h ((b0+9)+7) o.2.1.2.2.1.2.1, C3 E h (b0+18) o.2.1.2.2.2.1, C0 E h (b0+20) o.2.1.2.2.2.2, CO E ho bo o.2.2] := by
  refine gL.of (by decide +kernel) (Nat.le_of_ble_eq_true rfl) rfl ?_
  intro p e s m below meth c F hr hlk hte hK hNc hX hAB ls hl H locs hG
  have F : gF p m c cL_open 4 s ([.ref (h b0), .int a1, .ref (ho bo)] : List Value).toArray RL := F
  generalize ([.ref (h b0), .int a1, .ref (ho bo)] : List Value).toArray = args at F ⊢
  have hl : lv_has ls 4 [(0, .ref (h b0)), (1, .int a1), (2, .ref (ho bo))] := hl
  have hx := F.1
  have hb := F.2.1
  obtain ⟨z, hz, hf⟩ := wrp_in hf
  refine lv_aload_n hx hb dL_open_0 rfl (lv_at hl 2 rfl) ?_
  refine lv_iconst (v := 0) hx hb dL_open_1 (by decide) ?_
  refine lv_aload_n hx hb dL_open_2 rfl (lv_at hl 0 rfl) ?_
  refine lv_iload_n hx hb dL_open_3 rfl (lv_at hl 1 rfl) ?_
  refine g_callT (As := [.int a1]) (rest := [.int 0, .ref (ho bo)]) F hK hX hAB hG [0, 1, 2, 3, 4, 5, 6, 7] rfl rfl (c_X8_open hst h b0 w0 a1 hz) (kL_43 F.2.2.2.2 ⟨(Nat.le_of_ble_eq_true rfl), (Nat.le_of_ble_eq_true rfl)⟩) rfl rfl rfl rfl hl.1 rfl (lv_room (Nat.le_of_ble_eq_true rfl)) ⟨(Nat.le_of_ble_eq_true rfl), (Nat.le_of_ble_eq_true rfl)⟩ dL_open_4 (fun z2 H locs ce q9 e2 hG hce hcv hcl => ?_) (fun z2 H locs e2 hG => ?_)
  · cases z with
    | inr z => cases e2
    | inl z =>
      cases e2
      obtain ⟨k, r⟩ := z
      rcases wrp_l2 hf with ⟨rfl, rfl⟩ | ⟨rfl, rfl⟩
      · refine vx_catch (own := RL) (name := gxn 2) (E := gxn 2) F.2.2.2.1 [] ⟨0, 9, 12, 25⟩ [⟨0, 9, 15, 15⟩] hte (fun x hx => nomatch hx) rfl (by decide) (F.2.2.2.2 _ gw_593) (va_Nw.use (gx_nest_on _ (List.mem_of_getElem? (i := 34) rfl)) (gx_nest34 hK.2.1)) hce hcv hcl ?_
        refine lv_astore_n hx hb dL_open_12 rfl hl (Nat.le_of_ble_eq_true rfl) rfl (fun ls hl => ?_)
        refine lv_iconst (v := 1) hx hb dL_open_13 (by decide) ?_
        exact g_lretI F hr hlk hG dL_open_14
      · refine vx_catch (own := RL) (name := gxn 1) (E := gxn 1) F.2.2.2.1 [⟨0, 9, 12, 25⟩] ⟨0, 9, 15, 15⟩ [] hte (fun x hx => by rw [List.mem_singleton.mp hx]; exact Or.inr ⟨by decide, _, F.2.2.2.2 _ gw_593, hNc _ (List.mem_of_getElem? (i := 3) rfl)⟩) rfl (by decide) (F.2.2.2.2 _ gw_484) (va_Nw.use (gx_nest_on _ (List.mem_of_getElem? (i := 33) rfl)) (gx_nest33 hK.2.1)) hce hcv hcl ?_
        refine lv_astore_n hx hb dL_open_15 rfl hl (Nat.le_of_ble_eq_true rfl) rfl (fun ls hl => ?_)
        refine lv_iconst (v := 2) hx hb dL_open_16 (by decide) ?_
        exact g_lretI F hr hlk hG dL_open_17
  · cases z with
    | inl z => cases e2
    | inr z =>
      cases e2
      cases hf
      refine lv_i2l hx hb dL_open_7 rfl ?_
      refine g_last F hK hG 8 0 rfl rfl (g := vp_updL ou 0 z.1.toInt64) rfl dL_open_8 (fun H locs hG => ?_)
      refine lv_goto (tgt := 18) hx hb dL_open_9 (by decide) ?_
      refine lv_iconst (v := 0) hx hb dL_open_18 (by decide) ?_
      exact g_lretI F hr hlk hG dL_open_19
def f_L_setting (w0 : T8) (a1 : Int32) (ou : Nat → Int64) : Option (Int32 × T8 × (Nat → Int64)) := wrp [0] (fun r => (w0.1, w0.2.1, (w0.2.2.1.1, w0.2.2.1.2.1, w0.2.2.1.2.2), w0.2.2.2.1, r)) ou (f_X8_setting w0 a1)
def rL_setting : Room := { frames := 7, cells := 1, slots := 6, locals := 159 }
theorem hmL_setting : yX8_setting.cls = RX8 ∧ yX8_setting.cls ≠ "java/lang/invoke/MethodHandle" ∧ yX8_setting.cls ≠ "java/lang/invoke/VarHandle" ∧ (parseMethodDescriptor yX8_setting.desc).map (fun d => d.parameters.length) = some 1 := by decide +kernel
theorem kL_46 {R : Room} {s : State} {args : Array Value} (ht : ∀ w ∈ gx_G, w.before args s = true) (hR : rX8_setting.frames + 1 ≤ R.frames ∧ 8 + (2 + 11) + rX8_setting.locals ≤ R.locals) : CallW R s args RL RX8 46 yX8_setting cX8_setting 2 (some .int) (gws yX8_setting cX8_setting 2 (some .int)) rX8_setting 1 6 1 := cwV 1 ht (gx_gV gw_736 gw_737 gw_738 gw_1 gw_739) rfl rfl rfl hmL_setting hR
theorem c_L_setting {l : Launch} (hst : l.stackTraces = false) {E : gEnv} (h : Nat → Nat) (b0 : Nat) (w0 : T8) (a1 : Int32) (ho : Nat → Nat) (bo : Nat) (ou : Nat → Int64) {o : Int32 × T8 × (Nat → Int64)} (hf : f_L_setting w0 a1 ou = some o) : gL l yL_setting cL_setting 4 [(0, 9, 12, 13)] rL_setting E [.ref (h b0), .int a1, .ref (ho bo)] [C8 E h b0, C2 E h (b0+1) w0.1, C6 E h (b0+3) w0.2.1, C5 E h (b0+9) w0.2.2.1.2.2, C6 E h ((b0+9)+1) w0.2.2.1.1, C7 E h ((b0+9)+7) w0.2.2.1.2.1, C3 E h (b0+18) w0.2.2.2.1, C0 E h (b0+20) w0.2.2.2.2, CO E ho bo ou] o.1 [C8 E h b0, C2 E h (b0+1) o.2.1.1, C6 E h (b0+3) o.2.1.2.1, C5 E h (b0+9) o.2.1.2.2.1.2.2, C6 E h ((b0+9)+1) o.2.1.2.2.1.1, C7 E h ((b0+9)+7) o.2.1.2.2.1.2.1, C3 E h (b0+18) o.2.1.2.2.2.1, C0 E h (b0+20) o.2.1.2.2.2.2, CO E ho bo o.2.2] := by
  refine gL.of (by decide +kernel) (Nat.le_of_ble_eq_true rfl) rfl ?_
  intro p e s m below meth c F hr hlk hte hK hNc hX hAB ls hl H locs hG
  have F : gF p m c cL_setting 4 s ([.ref (h b0), .int a1, .ref (ho bo)] : List Value).toArray RL := F
  generalize ([.ref (h b0), .int a1, .ref (ho bo)] : List Value).toArray = args at F ⊢
  have hl : lv_has ls 4 [(0, .ref (h b0)), (1, .int a1), (2, .ref (ho bo))] := hl
  have hx := F.1
  have hb := F.2.1
  obtain ⟨z, hz, hf⟩ := wrp_in hf
  refine lv_aload_n hx hb dL_setting_0 rfl (lv_at hl 2 rfl) ?_
  refine lv_iconst (v := 0) hx hb dL_setting_1 (by decide) ?_
  refine lv_aload_n hx hb dL_setting_2 rfl (lv_at hl 0 rfl) ?_
  refine lv_iload_n hx hb dL_setting_3 rfl (lv_at hl 1 rfl) ?_
  refine g_callT (As := [.int a1]) (rest := [.int 0, .ref (ho bo)]) F hK hX hAB hG [0, 1, 2, 3, 4, 5, 6, 7] rfl rfl (c_X8_setting hst h b0 w0 a1 hz) (kL_46 F.2.2.2.2 ⟨(Nat.le_of_ble_eq_true rfl), (Nat.le_of_ble_eq_true rfl)⟩) rfl rfl rfl rfl hl.1 rfl (lv_room (Nat.le_of_ble_eq_true rfl)) ⟨(Nat.le_of_ble_eq_true rfl), (Nat.le_of_ble_eq_true rfl)⟩ dL_setting_4 (fun z2 H locs ce q9 e2 hG hce hcv hcl => ?_) (fun z2 H locs e2 hG => ?_)
  · cases z with
    | inr z => cases e2
    | inl z =>
      cases e2
      obtain ⟨k, r⟩ := z
      obtain ⟨rfl, rfl⟩ := wrp_l1 hf
      refine vx_catch (own := RL) (name := gxn 0) (E := gxn 0) F.2.2.2.1 [] ⟨0, 9, 12, 13⟩ [] hte (fun x hx => nomatch hx) rfl (by decide) (F.2.2.2.2 _ gw_483) (va_Nw.use (gx_nest_on _ (List.mem_of_getElem? (i := 26) rfl)) (gx_nest26 hK.2.1)) hce hcv hcl ?_
      refine lv_astore_n hx hb dL_setting_12 rfl hl (Nat.le_of_ble_eq_true rfl) rfl (fun ls hl => ?_)
      refine lv_iconst (v := 1) hx hb dL_setting_13 (by decide) ?_
      exact g_lretI F hr hlk hG dL_setting_14
  · cases z with
    | inl z => cases e2
    | inr z =>
      cases e2
      cases hf
      refine lv_i2l hx hb dL_setting_7 rfl ?_
      refine g_last F hK hG 8 0 rfl rfl (g := vp_updL ou 0 z.1.toInt64) rfl dL_setting_8 (fun H locs hG => ?_)
      refine lv_goto (tgt := 15) hx hb dL_setting_9 (by decide) ?_
      refine lv_iconst (v := 0) hx hb dL_setting_15 (by decide) ?_
      exact g_lretI F hr hlk hG dL_setting_16
def f_L_place (w0 : T8) (a1 : Int32) (ou : Nat → Int64) : Option (Int32 × T8 × (Nat → Int64)) := wrpU [2] w0 ou (f_X8_place w0 a1)
def rL_place : Room := { frames := 7, cells := 1, slots := 6, locals := 111 }
theorem hmL_place : yX8_place.cls = RX8 ∧ yX8_place.cls ≠ "java/lang/invoke/MethodHandle" ∧ yX8_place.cls ≠ "java/lang/invoke/VarHandle" ∧ (parseMethodDescriptor yX8_place.desc).map (fun d => d.parameters.length) = some 1 := by decide +kernel
theorem kL_49 {R : Room} {s : State} {args : Array Value} (ht : ∀ w ∈ gx_G, w.before args s = true) (hR : rX8_place.frames + 1 ≤ R.frames ∧ 8 + (2 + 11) + rX8_place.locals ≤ R.locals) : CallW R s args RL RX8 49 yX8_place cX8_place 2 (some .int) (gws yX8_place cX8_place 2 (some .int)) rX8_place 1 6 1 := cwV 1 ht (gx_gV gw_744 gw_745 gw_746 gw_1 gw_747) rfl rfl rfl hmL_place hR
theorem c_L_place {l : Launch} (hst : l.stackTraces = false) {E : gEnv} (h : Nat → Nat) (b0 : Nat) (w0 : T8) (a1 : Int32) (ho : Nat → Nat) (bo : Nat) (ou : Nat → Int64) {o : Int32 × T8 × (Nat → Int64)} (hf : f_L_place w0 a1 ou = some o) : gL l yL_place cL_place 4 [(0, 9, 12, 25)] rL_place E [.ref (h b0), .int a1, .ref (ho bo)] [C8 E h b0, C2 E h (b0+1) w0.1, C6 E h (b0+3) w0.2.1, C5 E h (b0+9) w0.2.2.1.2.2, C6 E h ((b0+9)+1) w0.2.2.1.1, C7 E h ((b0+9)+7) w0.2.2.1.2.1, C3 E h (b0+18) w0.2.2.2.1, C0 E h (b0+20) w0.2.2.2.2, CO E ho bo ou] o.1 [C8 E h b0, C2 E h (b0+1) o.2.1.1, C6 E h (b0+3) o.2.1.2.1, C5 E h (b0+9) o.2.1.2.2.1.2.2, C6 E h ((b0+9)+1) o.2.1.2.2.1.1, C7 E h ((b0+9)+7) o.2.1.2.2.1.2.1, C3 E h (b0+18) o.2.1.2.2.2.1, C0 E h (b0+20) o.2.1.2.2.2.2, CO E ho bo o.2.2] := by
  refine gL.of (by decide +kernel) (Nat.le_of_ble_eq_true rfl) rfl ?_
  intro p e s m below meth c F hr hlk hte hK hNc hX hAB ls hl H locs hG
  have F : gF p m c cL_place 4 s ([.ref (h b0), .int a1, .ref (ho bo)] : List Value).toArray RL := F
  generalize ([.ref (h b0), .int a1, .ref (ho bo)] : List Value).toArray = args at F ⊢
  have hl : lv_has ls 4 [(0, .ref (h b0)), (1, .int a1), (2, .ref (ho bo))] := hl
  have hx := F.1
  have hb := F.2.1
  obtain ⟨z, hz, hf⟩ := wrpU_in hf
  refine lv_aload_n hx hb dL_place_0 rfl (lv_at hl 2 rfl) ?_
  refine lv_iconst (v := 0) hx hb dL_place_1 (by decide) ?_
  refine lv_aload_n hx hb dL_place_2 rfl (lv_at hl 0 rfl) ?_
  refine lv_iload_n hx hb dL_place_3 rfl (lv_at hl 1 rfl) ?_
  refine g_callT (As := [.int a1]) (rest := [.int 0, .ref (ho bo)]) F hK hX hAB hG [0, 1, 2, 3, 4, 5, 6, 7] rfl rfl (c_X8_place hst h b0 w0 a1 hz) (kL_49 F.2.2.2.2 ⟨(Nat.le_of_ble_eq_true rfl), (Nat.le_of_ble_eq_true rfl)⟩) rfl rfl rfl rfl hl.1 rfl (lv_room (Nat.le_of_ble_eq_true rfl)) ⟨(Nat.le_of_ble_eq_true rfl), (Nat.le_of_ble_eq_true rfl)⟩ dL_place_4 (fun z2 H locs ce q9 e2 hG hce hcv hcl => ?_) (fun z2 H locs e2 hG => ?_)
  · cases z with
    | inr z => cases e2
    | inl z =>
      cases e2
      obtain ⟨rfl, rfl⟩ := wrpU_l1 hf
      refine vx_catch (own := RL) (name := gxn 2) (E := gxn 2) F.2.2.2.1 [] ⟨0, 9, 12, 25⟩ [] hte (fun x hx => nomatch hx) rfl (by decide) (F.2.2.2.2 _ gw_593) (va_Nw.use (gx_nest_on _ (List.mem_of_getElem? (i := 34) rfl)) (gx_nest34 hK.2.1)) hce hcv hcl ?_
      refine lv_astore_n hx hb dL_place_12 rfl hl (Nat.le_of_ble_eq_true rfl) rfl (fun ls hl => ?_)
      refine lv_iconst (v := 1) hx hb dL_place_13 (by decide) ?_
      exact g_lretI F hr hlk hG dL_place_14
  · cases z with
    | inl z => cases e2
    | inr z =>
      cases e2
      cases hf
      refine lv_i2l hx hb dL_place_7 rfl ?_
      refine g_last F hK hG 8 0 rfl rfl (g := vp_updL ou 0 z.toInt64) rfl dL_place_8 (fun H locs hG => ?_)
      refine lv_goto (tgt := 15) hx hb dL_place_9 (by decide) ?_
      refine lv_iconst (v := 0) hx hb dL_place_15 (by decide) ?_
      exact g_lretI F hr hlk hG dL_place_16
def f_L_display (w0 : T8) (a1 : Int32) (ou : Nat → Int64) : Option (Int32 × T8 × (Nat → Int64)) := wrp [0] (fun r => (w0.1, w0.2.1, (w0.2.2.1.1, w0.2.2.1.2.1, w0.2.2.1.2.2), w0.2.2.2.1, r)) ou (f_X8_display w0 a1)
def rL_display : Room := { frames := 7, cells := 1, slots := 6, locals := 160 }
theorem hmL_display : yX8_display.cls = RX8 ∧ yX8_display.cls ≠ "java/lang/invoke/MethodHandle" ∧ yX8_display.cls ≠ "java/lang/invoke/VarHandle" ∧ (parseMethodDescriptor yX8_display.desc).map (fun d => d.parameters.length) = some 1 := by decide +kernel
theorem kL_52 {R : Room} {s : State} {args : Array Value} (ht : ∀ w ∈ gx_G, w.before args s = true) (hR : rX8_display.frames + 1 ≤ R.frames ∧ 8 + (4 + 11) + rX8_display.locals ≤ R.locals) : CallW R s args RL RX8 52 yX8_display cX8_display 4 (some .int) (gws yX8_display cX8_display 4 (some .int)) rX8_display 1 6 1 := cwV 1 ht (gx_gV gw_752 gw_753 gw_754 gw_1 gw_755) rfl rfl rfl hmL_display hR
theorem c_L_display {l : Launch} (hst : l.stackTraces = false) {E : gEnv} (h : Nat → Nat) (b0 : Nat) (w0 : T8) (a1 : Int32) (ho : Nat → Nat) (bo : Nat) (ou : Nat → Int64) {o : Int32 × T8 × (Nat → Int64)} (hf : f_L_display w0 a1 ou = some o) : gL l yL_display cL_display 4 [(0, 9, 12, 13)] rL_display E [.ref (h b0), .int a1, .ref (ho bo)] [C8 E h b0, C2 E h (b0+1) w0.1, C6 E h (b0+3) w0.2.1, C5 E h (b0+9) w0.2.2.1.2.2, C6 E h ((b0+9)+1) w0.2.2.1.1, C7 E h ((b0+9)+7) w0.2.2.1.2.1, C3 E h (b0+18) w0.2.2.2.1, C0 E h (b0+20) w0.2.2.2.2, CO E ho bo ou] o.1 [C8 E h b0, C2 E h (b0+1) o.2.1.1, C6 E h (b0+3) o.2.1.2.1, C5 E h (b0+9) o.2.1.2.2.1.2.2, C6 E h ((b0+9)+1) o.2.1.2.2.1.1, C7 E h ((b0+9)+7) o.2.1.2.2.1.2.1, C3 E h (b0+18) o.2.1.2.2.2.1, C0 E h (b0+20) o.2.1.2.2.2.2, CO E ho bo o.2.2] := by
  refine gL.of (by decide +kernel) (Nat.le_of_ble_eq_true rfl) rfl ?_
  intro p e s m below meth c F hr hlk hte hK hNc hX hAB ls hl H locs hG
  have F : gF p m c cL_display 4 s ([.ref (h b0), .int a1, .ref (ho bo)] : List Value).toArray RL := F
  generalize ([.ref (h b0), .int a1, .ref (ho bo)] : List Value).toArray = args at F ⊢
  have hl : lv_has ls 4 [(0, .ref (h b0)), (1, .int a1), (2, .ref (ho bo))] := hl
  have hx := F.1
  have hb := F.2.1
  obtain ⟨z, hz, hf⟩ := wrp_in hf
  refine lv_aload_n hx hb dL_display_0 rfl (lv_at hl 2 rfl) ?_
  refine lv_iconst (v := 0) hx hb dL_display_1 (by decide) ?_
  refine lv_aload_n hx hb dL_display_2 rfl (lv_at hl 0 rfl) ?_
  refine lv_iload_n hx hb dL_display_3 rfl (lv_at hl 1 rfl) ?_
  refine g_callT (As := [.int a1]) (rest := [.int 0, .ref (ho bo)]) F hK hX hAB hG [0, 1, 2, 3, 4, 5, 6, 7] rfl rfl (c_X8_display hst h b0 w0 a1 hz) (kL_52 F.2.2.2.2 ⟨(Nat.le_of_ble_eq_true rfl), (Nat.le_of_ble_eq_true rfl)⟩) rfl rfl rfl rfl hl.1 rfl (lv_room (Nat.le_of_ble_eq_true rfl)) ⟨(Nat.le_of_ble_eq_true rfl), (Nat.le_of_ble_eq_true rfl)⟩ dL_display_4 (fun z2 H locs ce q9 e2 hG hce hcv hcl => ?_) (fun z2 H locs e2 hG => ?_)
  · cases z with
    | inr z => cases e2
    | inl z =>
      cases e2
      obtain ⟨k, r⟩ := z
      obtain ⟨rfl, rfl⟩ := wrp_l1 hf
      refine vx_catch (own := RL) (name := gxn 0) (E := gxn 0) F.2.2.2.1 [] ⟨0, 9, 12, 13⟩ [] hte (fun x hx => nomatch hx) rfl (by decide) (F.2.2.2.2 _ gw_483) (va_Nw.use (gx_nest_on _ (List.mem_of_getElem? (i := 26) rfl)) (gx_nest26 hK.2.1)) hce hcv hcl ?_
      refine lv_astore_n hx hb dL_display_12 rfl hl (Nat.le_of_ble_eq_true rfl) rfl (fun ls hl => ?_)
      refine lv_iconst (v := 1) hx hb dL_display_13 (by decide) ?_
      exact g_lretI F hr hlk hG dL_display_14
  · cases z with
    | inl z => cases e2
    | inr z =>
      cases e2
      cases hf
      refine lv_i2l hx hb dL_display_7 rfl ?_
      refine g_last F hK hG 8 0 rfl rfl (g := vp_updL ou 0 z.1.toInt64) rfl dL_display_8 (fun H locs hG => ?_)
      refine lv_goto (tgt := 15) hx hb dL_display_9 (by decide) ?_
      refine lv_iconst (v := 0) hx hb dL_display_15 (by decide) ?_
      exact g_lretI F hr hlk hG dL_display_16
def f_L_candidate (w0 : T8) (a1 : Int32) (ou : Nat → Int64) : Option (Int32 × T8 × (Nat → Int64)) := wrp [2] (fun r => (w0.1, w0.2.1, (w0.2.2.1.1, w0.2.2.1.2.1, w0.2.2.1.2.2), w0.2.2.2.1, r)) ou (f_X8_candidate w0 a1)
def rL_candidate : Room := { frames := 7, cells := 1, slots := 6, locals := 138 }
theorem hmL_candidate : yX8_candidate.cls = RX8 ∧ yX8_candidate.cls ≠ "java/lang/invoke/MethodHandle" ∧ yX8_candidate.cls ≠ "java/lang/invoke/VarHandle" ∧ (parseMethodDescriptor yX8_candidate.desc).map (fun d => d.parameters.length) = some 1 := by decide +kernel
theorem kL_55 {R : Room} {s : State} {args : Array Value} (ht : ∀ w ∈ gx_G, w.before args s = true) (hR : rX8_candidate.frames + 1 ≤ R.frames ∧ 8 + (2 + 11) + rX8_candidate.locals ≤ R.locals) : CallW R s args RL RX8 55 yX8_candidate cX8_candidate 2 (some .int) (gws yX8_candidate cX8_candidate 2 (some .int)) rX8_candidate 1 6 1 := cwV 1 ht (gx_gV gw_760 gw_761 gw_762 gw_1 gw_763) rfl rfl rfl hmL_candidate hR
theorem c_L_candidate {l : Launch} (hst : l.stackTraces = false) {E : gEnv} (h : Nat → Nat) (b0 : Nat) (w0 : T8) (a1 : Int32) (ho : Nat → Nat) (bo : Nat) (ou : Nat → Int64) {o : Int32 × T8 × (Nat → Int64)} (hf : f_L_candidate w0 a1 ou = some o) : gL l yL_candidate cL_candidate 4 [(0, 9, 12, 25)] rL_candidate E [.ref (h b0), .int a1, .ref (ho bo)] [C8 E h b0, C2 E h (b0+1) w0.1, C6 E h (b0+3) w0.2.1, C5 E h (b0+9) w0.2.2.1.2.2, C6 E h ((b0+9)+1) w0.2.2.1.1, C7 E h ((b0+9)+7) w0.2.2.1.2.1, C3 E h (b0+18) w0.2.2.2.1, C0 E h (b0+20) w0.2.2.2.2, CO E ho bo ou] o.1 [C8 E h b0, C2 E h (b0+1) o.2.1.1, C6 E h (b0+3) o.2.1.2.1, C5 E h (b0+9) o.2.1.2.2.1.2.2, C6 E h ((b0+9)+1) o.2.1.2.2.1.1, C7 E h ((b0+9)+7) o.2.1.2.2.1.2.1, C3 E h (b0+18) o.2.1.2.2.2.1, C0 E h (b0+20) o.2.1.2.2.2.2, CO E ho bo o.2.2] := by
  refine gL.of (by decide +kernel) (Nat.le_of_ble_eq_true rfl) rfl ?_
  intro p e s m below meth c F hr hlk hte hK hNc hX hAB ls hl H locs hG
  have F : gF p m c cL_candidate 4 s ([.ref (h b0), .int a1, .ref (ho bo)] : List Value).toArray RL := F
  generalize ([.ref (h b0), .int a1, .ref (ho bo)] : List Value).toArray = args at F ⊢
  have hl : lv_has ls 4 [(0, .ref (h b0)), (1, .int a1), (2, .ref (ho bo))] := hl
  have hx := F.1
  have hb := F.2.1
  obtain ⟨z, hz, hf⟩ := wrp_in hf
  refine lv_aload_n hx hb dL_candidate_0 rfl (lv_at hl 2 rfl) ?_
  refine lv_iconst (v := 0) hx hb dL_candidate_1 (by decide) ?_
  refine lv_aload_n hx hb dL_candidate_2 rfl (lv_at hl 0 rfl) ?_
  refine lv_iload_n hx hb dL_candidate_3 rfl (lv_at hl 1 rfl) ?_
  refine g_callT (As := [.int a1]) (rest := [.int 0, .ref (ho bo)]) F hK hX hAB hG [0, 1, 2, 3, 4, 5, 6, 7] rfl rfl (c_X8_candidate hst h b0 w0 a1 hz) (kL_55 F.2.2.2.2 ⟨(Nat.le_of_ble_eq_true rfl), (Nat.le_of_ble_eq_true rfl)⟩) rfl rfl rfl rfl hl.1 rfl (lv_room (Nat.le_of_ble_eq_true rfl)) ⟨(Nat.le_of_ble_eq_true rfl), (Nat.le_of_ble_eq_true rfl)⟩ dL_candidate_4 (fun z2 H locs ce q9 e2 hG hce hcv hcl => ?_) (fun z2 H locs e2 hG => ?_)
  · cases z with
    | inr z => cases e2
    | inl z =>
      cases e2
      obtain ⟨k, r⟩ := z
      obtain ⟨rfl, rfl⟩ := wrp_l1 hf
      refine vx_catch (own := RL) (name := gxn 2) (E := gxn 2) F.2.2.2.1 [] ⟨0, 9, 12, 25⟩ [] hte (fun x hx => nomatch hx) rfl (by decide) (F.2.2.2.2 _ gw_593) (va_Nw.use (gx_nest_on _ (List.mem_of_getElem? (i := 34) rfl)) (gx_nest34 hK.2.1)) hce hcv hcl ?_
      refine lv_astore_n hx hb dL_candidate_12 rfl hl (Nat.le_of_ble_eq_true rfl) rfl (fun ls hl => ?_)
      refine lv_iconst (v := 1) hx hb dL_candidate_13 (by decide) ?_
      exact g_lretI F hr hlk hG dL_candidate_14
  · cases z with
    | inl z => cases e2
    | inr z =>
      cases e2
      cases hf
      refine lv_i2l hx hb dL_candidate_7 rfl ?_
      refine g_last F hK hG 8 0 rfl rfl (g := vp_updL ou 0 z.1.toInt64) rfl dL_candidate_8 (fun H locs hG => ?_)
      refine lv_goto (tgt := 15) hx hb dL_candidate_9 (by decide) ?_
      refine lv_iconst (v := 0) hx hb dL_candidate_15 (by decide) ?_
      exact g_lretI F hr hlk hG dL_candidate_16
def f_L_written (w0 : T8) (a1 : Int32) (a2 : Int32) (ou : Nat → Int64) : Option (Int32 × T8 × (Nat → Int64)) := wrpU [2] w0 ou (f_X8_written w0 a1 a2)
def rL_written : Room := { frames := 7, cells := 1, slots := 6, locals := 114 }
theorem hmL_written : yX8_written.cls = RX8 ∧ yX8_written.cls ≠ "java/lang/invoke/MethodHandle" ∧ yX8_written.cls ≠ "java/lang/invoke/VarHandle" ∧ (parseMethodDescriptor yX8_written.desc).map (fun d => d.parameters.length) = some 2 := by decide +kernel
theorem kL_58 {R : Room} {s : State} {args : Array Value} (ht : ∀ w ∈ gx_G, w.before args s = true) (hR : rX8_written.frames + 1 ≤ R.frames ∧ 8 + (5 + 11) + rX8_written.locals ≤ R.locals) : CallW R s args RL RX8 58 yX8_written cX8_written 5 (some .int) (gws yX8_written cX8_written 5 (some .int)) rX8_written 1 6 2 := cwV 2 ht (gx_gV gw_768 gw_769 gw_770 gw_1 gw_771) rfl rfl rfl hmL_written hR
theorem c_L_written {l : Launch} (hst : l.stackTraces = false) {E : gEnv} (h : Nat → Nat) (b0 : Nat) (w0 : T8) (a1 : Int32) (a2 : Int32) (ho : Nat → Nat) (bo : Nat) (ou : Nat → Int64) {o : Int32 × T8 × (Nat → Int64)} (hf : f_L_written w0 a1 a2 ou = some o) : gL l yL_written cL_written 5 [(0, 10, 13, 25)] rL_written E [.ref (h b0), .int a1, .int a2, .ref (ho bo)] [C8 E h b0, C2 E h (b0+1) w0.1, C6 E h (b0+3) w0.2.1, C5 E h (b0+9) w0.2.2.1.2.2, C6 E h ((b0+9)+1) w0.2.2.1.1, C7 E h ((b0+9)+7) w0.2.2.1.2.1, C3 E h (b0+18) w0.2.2.2.1, C0 E h (b0+20) w0.2.2.2.2, CO E ho bo ou] o.1 [C8 E h b0, C2 E h (b0+1) o.2.1.1, C6 E h (b0+3) o.2.1.2.1, C5 E h (b0+9) o.2.1.2.2.1.2.2, C6 E h ((b0+9)+1) o.2.1.2.2.1.1, C7 E h ((b0+9)+7) o.2.1.2.2.1.2.1, C3 E h (b0+18) o.2.1.2.2.2.1, C0 E h (b0+20) o.2.1.2.2.2.2, CO E ho bo o.2.2] := by
  refine gL.of (by decide +kernel) (Nat.le_of_ble_eq_true rfl) rfl ?_
  intro p e s m below meth c F hr hlk hte hK hNc hX hAB ls hl H locs hG
  have F : gF p m c cL_written 5 s ([.ref (h b0), .int a1, .int a2, .ref (ho bo)] : List Value).toArray RL := F
  generalize ([.ref (h b0), .int a1, .int a2, .ref (ho bo)] : List Value).toArray = args at F ⊢
  have hl : lv_has ls 5 [(0, .ref (h b0)), (1, .int a1), (2, .int a2), (3, .ref (ho bo))] := hl
  have hx := F.1
  have hb := F.2.1
  obtain ⟨z, hz, hf⟩ := wrpU_in hf
  refine lv_aload_n hx hb dL_written_0 rfl (lv_at hl 3 rfl) ?_
  refine lv_iconst (v := 0) hx hb dL_written_1 (by decide) ?_
  refine lv_aload_n hx hb dL_written_2 rfl (lv_at hl 0 rfl) ?_
  refine lv_iload_n hx hb dL_written_3 rfl (lv_at hl 1 rfl) ?_
  refine lv_iload_n hx hb dL_written_4 rfl (lv_at hl 2 rfl) ?_
  refine g_callT (As := [.int a1, .int a2]) (rest := [.int 0, .ref (ho bo)]) F hK hX hAB hG [0, 1, 2, 3, 4, 5, 6, 7] rfl rfl (c_X8_written hst h b0 w0 a1 a2 hz) (kL_58 F.2.2.2.2 ⟨(Nat.le_of_ble_eq_true rfl), (Nat.le_of_ble_eq_true rfl)⟩) rfl rfl rfl rfl hl.1 rfl (lv_room (Nat.le_of_ble_eq_true rfl)) ⟨(Nat.le_of_ble_eq_true rfl), (Nat.le_of_ble_eq_true rfl)⟩ dL_written_5 (fun z2 H locs ce q9 e2 hG hce hcv hcl => ?_) (fun z2 H locs e2 hG => ?_)
  · cases z with
    | inr z => cases e2
    | inl z =>
      cases e2
      obtain ⟨rfl, rfl⟩ := wrpU_l1 hf
      refine vx_catch (own := RL) (name := gxn 2) (E := gxn 2) F.2.2.2.1 [] ⟨0, 10, 13, 25⟩ [] hte (fun x hx => nomatch hx) rfl (by decide) (F.2.2.2.2 _ gw_593) (va_Nw.use (gx_nest_on _ (List.mem_of_getElem? (i := 34) rfl)) (gx_nest34 hK.2.1)) hce hcv hcl ?_
      refine lv_astore hx hb dL_written_13 hl (Nat.le_of_ble_eq_true rfl) rfl (fun ls hl => ?_)
      refine lv_iconst (v := 1) hx hb dL_written_15 (by decide) ?_
      exact g_lretI F hr hlk hG dL_written_16
  · cases z with
    | inl z => cases e2
    | inr z =>
      cases e2
      cases hf
      refine lv_i2l hx hb dL_written_8 rfl ?_
      refine g_last F hK hG 8 0 rfl rfl (g := vp_updL ou 0 z.toInt64) rfl dL_written_9 (fun H locs hG => ?_)
      refine lv_goto (tgt := 17) hx hb dL_written_10 (by decide) ?_
      refine lv_iconst (v := 0) hx hb dL_written_17 (by decide) ?_
      exact g_lretI F hr hlk hG dL_written_18
def f_L_steps (w0 : T8) (a1 : Int32) (ou : Nat → Int64) : Option (Int32 × T8 × (Nat → Int64)) := wrpU [2] w0 ou (f_X8_steps w0 a1)
def rL_steps : Room := { frames := 7, cells := 1, slots := 6, locals := 111 }
theorem hmL_steps : yX8_steps.cls = RX8 ∧ yX8_steps.cls ≠ "java/lang/invoke/MethodHandle" ∧ yX8_steps.cls ≠ "java/lang/invoke/VarHandle" ∧ (parseMethodDescriptor yX8_steps.desc).map (fun d => d.parameters.length) = some 1 := by decide +kernel
theorem kL_61 {R : Room} {s : State} {args : Array Value} (ht : ∀ w ∈ gx_G, w.before args s = true) (hR : rX8_steps.frames + 1 ≤ R.frames ∧ 8 + (2 + 11) + rX8_steps.locals ≤ R.locals) : CallW R s args RL RX8 61 yX8_steps cX8_steps 2 (some .int) (gws yX8_steps cX8_steps 2 (some .int)) rX8_steps 1 6 1 := cwV 1 ht (gx_gV gw_775 gw_776 gw_777 gw_1 gw_778) rfl rfl rfl hmL_steps hR
theorem c_L_steps {l : Launch} (hst : l.stackTraces = false) {E : gEnv} (h : Nat → Nat) (b0 : Nat) (w0 : T8) (a1 : Int32) (ho : Nat → Nat) (bo : Nat) (ou : Nat → Int64) {o : Int32 × T8 × (Nat → Int64)} (hf : f_L_steps w0 a1 ou = some o) : gL l yL_steps cL_steps 4 [(0, 9, 12, 25)] rL_steps E [.ref (h b0), .int a1, .ref (ho bo)] [C8 E h b0, C2 E h (b0+1) w0.1, C6 E h (b0+3) w0.2.1, C5 E h (b0+9) w0.2.2.1.2.2, C6 E h ((b0+9)+1) w0.2.2.1.1, C7 E h ((b0+9)+7) w0.2.2.1.2.1, C3 E h (b0+18) w0.2.2.2.1, C0 E h (b0+20) w0.2.2.2.2, CO E ho bo ou] o.1 [C8 E h b0, C2 E h (b0+1) o.2.1.1, C6 E h (b0+3) o.2.1.2.1, C5 E h (b0+9) o.2.1.2.2.1.2.2, C6 E h ((b0+9)+1) o.2.1.2.2.1.1, C7 E h ((b0+9)+7) o.2.1.2.2.1.2.1, C3 E h (b0+18) o.2.1.2.2.2.1, C0 E h (b0+20) o.2.1.2.2.2.2, CO E ho bo o.2.2] := by
  refine gL.of (by decide +kernel) (Nat.le_of_ble_eq_true rfl) rfl ?_
  intro p e s m below meth c F hr hlk hte hK hNc hX hAB ls hl H locs hG
  have F : gF p m c cL_steps 4 s ([.ref (h b0), .int a1, .ref (ho bo)] : List Value).toArray RL := F
  generalize ([.ref (h b0), .int a1, .ref (ho bo)] : List Value).toArray = args at F ⊢
  have hl : lv_has ls 4 [(0, .ref (h b0)), (1, .int a1), (2, .ref (ho bo))] := hl
  have hx := F.1
  have hb := F.2.1
  obtain ⟨z, hz, hf⟩ := wrpU_in hf
  refine lv_aload_n hx hb dL_steps_0 rfl (lv_at hl 2 rfl) ?_
  refine lv_iconst (v := 0) hx hb dL_steps_1 (by decide) ?_
  refine lv_aload_n hx hb dL_steps_2 rfl (lv_at hl 0 rfl) ?_
  refine lv_iload_n hx hb dL_steps_3 rfl (lv_at hl 1 rfl) ?_
  refine g_callT (As := [.int a1]) (rest := [.int 0, .ref (ho bo)]) F hK hX hAB hG [0, 1, 2, 3, 4, 5, 6, 7] rfl rfl (c_X8_steps hst h b0 w0 a1 hz) (kL_61 F.2.2.2.2 ⟨(Nat.le_of_ble_eq_true rfl), (Nat.le_of_ble_eq_true rfl)⟩) rfl rfl rfl rfl hl.1 rfl (lv_room (Nat.le_of_ble_eq_true rfl)) ⟨(Nat.le_of_ble_eq_true rfl), (Nat.le_of_ble_eq_true rfl)⟩ dL_steps_4 (fun z2 H locs ce q9 e2 hG hce hcv hcl => ?_) (fun z2 H locs e2 hG => ?_)
  · cases z with
    | inr z => cases e2
    | inl z =>
      cases e2
      obtain ⟨rfl, rfl⟩ := wrpU_l1 hf
      refine vx_catch (own := RL) (name := gxn 2) (E := gxn 2) F.2.2.2.1 [] ⟨0, 9, 12, 25⟩ [] hte (fun x hx => nomatch hx) rfl (by decide) (F.2.2.2.2 _ gw_593) (va_Nw.use (gx_nest_on _ (List.mem_of_getElem? (i := 34) rfl)) (gx_nest34 hK.2.1)) hce hcv hcl ?_
      refine lv_astore_n hx hb dL_steps_12 rfl hl (Nat.le_of_ble_eq_true rfl) rfl (fun ls hl => ?_)
      refine lv_iconst (v := 1) hx hb dL_steps_13 (by decide) ?_
      exact g_lretI F hr hlk hG dL_steps_14
  · cases z with
    | inl z => cases e2
    | inr z =>
      cases e2
      cases hf
      refine lv_i2l hx hb dL_steps_7 rfl ?_
      refine g_last F hK hG 8 0 rfl rfl (g := vp_updL ou 0 z.toInt64) rfl dL_steps_8 (fun H locs hG => ?_)
      refine lv_goto (tgt := 15) hx hb dL_steps_9 (by decide) ?_
      refine lv_iconst (v := 0) hx hb dL_steps_15 (by decide) ?_
      exact g_lretI F hr hlk hG dL_steps_16
def f_L_presses (w0 : T8) (a1 : Int32) (a2 : Int32) (ou : Nat → Int64) : Option (Int32 × T8 × (Nat → Int64)) := wrpU [2] w0 ou (f_X8_presses w0 a1 a2)
def rL_presses : Room := { frames := 7, cells := 1, slots := 6, locals := 112 }
theorem hmL_presses : yX8_presses.cls = RX8 ∧ yX8_presses.cls ≠ "java/lang/invoke/MethodHandle" ∧ yX8_presses.cls ≠ "java/lang/invoke/VarHandle" ∧ (parseMethodDescriptor yX8_presses.desc).map (fun d => d.parameters.length) = some 2 := by decide +kernel
theorem kL_64 {R : Room} {s : State} {args : Array Value} (ht : ∀ w ∈ gx_G, w.before args s = true) (hR : rX8_presses.frames + 1 ≤ R.frames ∧ 8 + (3 + 11) + rX8_presses.locals ≤ R.locals) : CallW R s args RL RX8 64 yX8_presses cX8_presses 3 (some .int) (gws yX8_presses cX8_presses 3 (some .int)) rX8_presses 1 6 2 := cwV 2 ht (gx_gV gw_782 gw_783 gw_784 gw_1 gw_785) rfl rfl rfl hmL_presses hR
theorem c_L_presses {l : Launch} (hst : l.stackTraces = false) {E : gEnv} (h : Nat → Nat) (b0 : Nat) (w0 : T8) (a1 : Int32) (a2 : Int32) (ho : Nat → Nat) (bo : Nat) (ou : Nat → Int64) {o : Int32 × T8 × (Nat → Int64)} (hf : f_L_presses w0 a1 a2 ou = some o) : gL l yL_presses cL_presses 5 [(0, 10, 13, 25)] rL_presses E [.ref (h b0), .int a1, .int a2, .ref (ho bo)] [C8 E h b0, C2 E h (b0+1) w0.1, C6 E h (b0+3) w0.2.1, C5 E h (b0+9) w0.2.2.1.2.2, C6 E h ((b0+9)+1) w0.2.2.1.1, C7 E h ((b0+9)+7) w0.2.2.1.2.1, C3 E h (b0+18) w0.2.2.2.1, C0 E h (b0+20) w0.2.2.2.2, CO E ho bo ou] o.1 [C8 E h b0, C2 E h (b0+1) o.2.1.1, C6 E h (b0+3) o.2.1.2.1, C5 E h (b0+9) o.2.1.2.2.1.2.2, C6 E h ((b0+9)+1) o.2.1.2.2.1.1, C7 E h ((b0+9)+7) o.2.1.2.2.1.2.1, C3 E h (b0+18) o.2.1.2.2.2.1, C0 E h (b0+20) o.2.1.2.2.2.2, CO E ho bo o.2.2] := by
  refine gL.of (by decide +kernel) (Nat.le_of_ble_eq_true rfl) rfl ?_
  intro p e s m below meth c F hr hlk hte hK hNc hX hAB ls hl H locs hG
  have F : gF p m c cL_presses 5 s ([.ref (h b0), .int a1, .int a2, .ref (ho bo)] : List Value).toArray RL := F
  generalize ([.ref (h b0), .int a1, .int a2, .ref (ho bo)] : List Value).toArray = args at F ⊢
  have hl : lv_has ls 5 [(0, .ref (h b0)), (1, .int a1), (2, .int a2), (3, .ref (ho bo))] := hl
  have hx := F.1
  have hb := F.2.1
  obtain ⟨z, hz, hf⟩ := wrpU_in hf
  refine lv_aload_n hx hb dL_presses_0 rfl (lv_at hl 3 rfl) ?_
  refine lv_iconst (v := 0) hx hb dL_presses_1 (by decide) ?_
  refine lv_aload_n hx hb dL_presses_2 rfl (lv_at hl 0 rfl) ?_
  refine lv_iload_n hx hb dL_presses_3 rfl (lv_at hl 1 rfl) ?_
  refine lv_iload_n hx hb dL_presses_4 rfl (lv_at hl 2 rfl) ?_
  refine g_callT (As := [.int a1, .int a2]) (rest := [.int 0, .ref (ho bo)]) F hK hX hAB hG [0, 1, 2, 3, 4, 5, 6, 7] rfl rfl (c_X8_presses hst h b0 w0 a1 a2 hz) (kL_64 F.2.2.2.2 ⟨(Nat.le_of_ble_eq_true rfl), (Nat.le_of_ble_eq_true rfl)⟩) rfl rfl rfl rfl hl.1 rfl (lv_room (Nat.le_of_ble_eq_true rfl)) ⟨(Nat.le_of_ble_eq_true rfl), (Nat.le_of_ble_eq_true rfl)⟩ dL_presses_5 (fun z2 H locs ce q9 e2 hG hce hcv hcl => ?_) (fun z2 H locs e2 hG => ?_)
  · cases z with
    | inr z => cases e2
    | inl z =>
      cases e2
      obtain ⟨rfl, rfl⟩ := wrpU_l1 hf
      refine vx_catch (own := RL) (name := gxn 2) (E := gxn 2) F.2.2.2.1 [] ⟨0, 10, 13, 25⟩ [] hte (fun x hx => nomatch hx) rfl (by decide) (F.2.2.2.2 _ gw_593) (va_Nw.use (gx_nest_on _ (List.mem_of_getElem? (i := 34) rfl)) (gx_nest34 hK.2.1)) hce hcv hcl ?_
      refine lv_astore hx hb dL_presses_13 hl (Nat.le_of_ble_eq_true rfl) rfl (fun ls hl => ?_)
      refine lv_iconst (v := 1) hx hb dL_presses_15 (by decide) ?_
      exact g_lretI F hr hlk hG dL_presses_16
  · cases z with
    | inl z => cases e2
    | inr z =>
      cases e2
      cases hf
      refine lv_i2l hx hb dL_presses_8 rfl ?_
      refine g_last F hK hG 8 0 rfl rfl (g := vp_updL ou 0 z.toInt64) rfl dL_presses_9 (fun H locs hG => ?_)
      refine lv_goto (tgt := 17) hx hb dL_presses_10 (by decide) ?_
      refine lv_iconst (v := 0) hx hb dL_presses_17 (by decide) ?_
      exact g_lretI F hr hlk hG dL_presses_18
def f_L_shortest (w0 : T8) (a1 : Int32) (ou : Nat → Int64) : Option (Int32 × T8 × (Nat → Int64)) := wrpU [2] w0 ou (f_X8_shortest w0 a1)
def rL_shortest : Room := { frames := 7, cells := 1, slots := 6, locals := 121 }
theorem hmL_shortest : yX8_shortest.cls = RX8 ∧ yX8_shortest.cls ≠ "java/lang/invoke/MethodHandle" ∧ yX8_shortest.cls ≠ "java/lang/invoke/VarHandle" ∧ (parseMethodDescriptor yX8_shortest.desc).map (fun d => d.parameters.length) = some 1 := by decide +kernel
theorem kL_68 {R : Room} {s : State} {args : Array Value} (ht : ∀ w ∈ gx_G, w.before args s = true) (hR : rX8_shortest.frames + 1 ≤ R.frames ∧ 8 + (6 + 11) + rX8_shortest.locals ≤ R.locals) : CallW R s args RL RX8 68 yX8_shortest cX8_shortest 6 (some .int) (gws yX8_shortest cX8_shortest 6 (some .int)) rX8_shortest 1 6 1 := cwV 1 ht (gx_gV gw_791 gw_792 gw_793 gw_1 gw_794) rfl rfl rfl hmL_shortest hR
theorem c_L_shortest {l : Launch} (hst : l.stackTraces = false) {E : gEnv} (h : Nat → Nat) (b0 : Nat) (w0 : T8) (a1 : Int32) (ho : Nat → Nat) (bo : Nat) (ou : Nat → Int64) {o : Int32 × T8 × (Nat → Int64)} (hf : f_L_shortest w0 a1 ou = some o) : gL l yL_shortest cL_shortest 4 [(0, 9, 12, 25)] rL_shortest E [.ref (h b0), .int a1, .ref (ho bo)] [C8 E h b0, C2 E h (b0+1) w0.1, C6 E h (b0+3) w0.2.1, C5 E h (b0+9) w0.2.2.1.2.2, C6 E h ((b0+9)+1) w0.2.2.1.1, C7 E h ((b0+9)+7) w0.2.2.1.2.1, C3 E h (b0+18) w0.2.2.2.1, C0 E h (b0+20) w0.2.2.2.2, CO E ho bo ou] o.1 [C8 E h b0, C2 E h (b0+1) o.2.1.1, C6 E h (b0+3) o.2.1.2.1, C5 E h (b0+9) o.2.1.2.2.1.2.2, C6 E h ((b0+9)+1) o.2.1.2.2.1.1, C7 E h ((b0+9)+7) o.2.1.2.2.1.2.1, C3 E h (b0+18) o.2.1.2.2.2.1, C0 E h (b0+20) o.2.1.2.2.2.2, CO E ho bo o.2.2] := by
  refine gL.of (by decide +kernel) (Nat.le_of_ble_eq_true rfl) rfl ?_
  intro p e s m below meth c F hr hlk hte hK hNc hX hAB ls hl H locs hG
  have F : gF p m c cL_shortest 4 s ([.ref (h b0), .int a1, .ref (ho bo)] : List Value).toArray RL := F
  generalize ([.ref (h b0), .int a1, .ref (ho bo)] : List Value).toArray = args at F ⊢
  have hl : lv_has ls 4 [(0, .ref (h b0)), (1, .int a1), (2, .ref (ho bo))] := hl
  have hx := F.1
  have hb := F.2.1
  obtain ⟨z, hz, hf⟩ := wrpU_in hf
  refine lv_aload_n hx hb dL_shortest_0 rfl (lv_at hl 2 rfl) ?_
  refine lv_iconst (v := 0) hx hb dL_shortest_1 (by decide) ?_
  refine lv_aload_n hx hb dL_shortest_2 rfl (lv_at hl 0 rfl) ?_
  refine lv_iload_n hx hb dL_shortest_3 rfl (lv_at hl 1 rfl) ?_
  refine g_callT (As := [.int a1]) (rest := [.int 0, .ref (ho bo)]) F hK hX hAB hG [0, 1, 2, 3, 4, 5, 6, 7] rfl rfl (c_X8_shortest hst h b0 w0 a1 hz) (kL_68 F.2.2.2.2 ⟨(Nat.le_of_ble_eq_true rfl), (Nat.le_of_ble_eq_true rfl)⟩) rfl rfl rfl rfl hl.1 rfl (lv_room (Nat.le_of_ble_eq_true rfl)) ⟨(Nat.le_of_ble_eq_true rfl), (Nat.le_of_ble_eq_true rfl)⟩ dL_shortest_4 (fun z2 H locs ce q9 e2 hG hce hcv hcl => ?_) (fun z2 H locs e2 hG => ?_)
  · cases z with
    | inr z => cases e2
    | inl z =>
      cases e2
      obtain ⟨rfl, rfl⟩ := wrpU_l1 hf
      refine vx_catch (own := RL) (name := gxn 2) (E := gxn 2) F.2.2.2.1 [] ⟨0, 9, 12, 25⟩ [] hte (fun x hx => nomatch hx) rfl (by decide) (F.2.2.2.2 _ gw_593) (va_Nw.use (gx_nest_on _ (List.mem_of_getElem? (i := 34) rfl)) (gx_nest34 hK.2.1)) hce hcv hcl ?_
      refine lv_astore_n hx hb dL_shortest_12 rfl hl (Nat.le_of_ble_eq_true rfl) rfl (fun ls hl => ?_)
      refine lv_iconst (v := 1) hx hb dL_shortest_13 (by decide) ?_
      exact g_lretI F hr hlk hG dL_shortest_14
  · cases z with
    | inl z => cases e2
    | inr z =>
      cases e2
      cases hf
      refine lv_i2l hx hb dL_shortest_7 rfl ?_
      refine g_last F hK hG 8 0 rfl rfl (g := vp_updL ou 0 z.toInt64) rfl dL_shortest_8 (fun H locs hG => ?_)
      refine lv_goto (tgt := 15) hx hb dL_shortest_9 (by decide) ?_
      refine lv_iconst (v := 0) hx hb dL_shortest_15 (by decide) ?_
      exact g_lretI F hr hlk hG dL_shortest_16
def f_L_undo (w0 : T8)  (ou : Nat → Int64) : Option (Int32 × T8 × (Nat → Int64)) := wrp [1] (fun r => (w0.1, w0.2.1, (r.2.1, r.2.2.1, r.1), r.2.2.2, w0.2.2.2.2)) ou (f_X8_undo w0)
def rL_undo : Room := { frames := 7, cells := 1, slots := 6, locals := 111 }
theorem hmL_undo : yX8_undo.cls = RX8 ∧ yX8_undo.cls ≠ "java/lang/invoke/MethodHandle" ∧ yX8_undo.cls ≠ "java/lang/invoke/VarHandle" ∧ (parseMethodDescriptor yX8_undo.desc).map (fun d => d.parameters.length) = some 0 := by decide +kernel
theorem kL_71 {R : Room} {s : State} {args : Array Value} (ht : ∀ w ∈ gx_G, w.before args s = true) (hR : rX8_undo.frames + 1 ≤ R.frames ∧ 8 + (1 + 11) + rX8_undo.locals ≤ R.locals) : CallW R s args RL RX8 71 yX8_undo cX8_undo 1 (some .int) (gws yX8_undo cX8_undo 1 (some .int)) rX8_undo 1 6 0 := cwV 0 ht (gx_gV gw_803 gw_804 gw_805 gw_1 gw_806) rfl rfl rfl hmL_undo hR
theorem c_L_undo {l : Launch} (hst : l.stackTraces = false) {E : gEnv} (h : Nat → Nat) (b0 : Nat) (w0 : T8)  (ho : Nat → Nat) (bo : Nat) (ou : Nat → Int64) {o : Int32 × T8 × (Nat → Int64)} (hf : f_L_undo w0  ou = some o) : gL l yL_undo cL_undo 3 [(0, 8, 11, 15)] rL_undo E [.ref (h b0), .ref (ho bo)] [C8 E h b0, C2 E h (b0+1) w0.1, C6 E h (b0+3) w0.2.1, C5 E h (b0+9) w0.2.2.1.2.2, C6 E h ((b0+9)+1) w0.2.2.1.1, C7 E h ((b0+9)+7) w0.2.2.1.2.1, C3 E h (b0+18) w0.2.2.2.1, C0 E h (b0+20) w0.2.2.2.2, CO E ho bo ou] o.1 [C8 E h b0, C2 E h (b0+1) o.2.1.1, C6 E h (b0+3) o.2.1.2.1, C5 E h (b0+9) o.2.1.2.2.1.2.2, C6 E h ((b0+9)+1) o.2.1.2.2.1.1, C7 E h ((b0+9)+7) o.2.1.2.2.1.2.1, C3 E h (b0+18) o.2.1.2.2.2.1, C0 E h (b0+20) o.2.1.2.2.2.2, CO E ho bo o.2.2] := by
  refine gL.of (by decide +kernel) (Nat.le_of_ble_eq_true rfl) rfl ?_
  intro p e s m below meth c F hr hlk hte hK hNc hX hAB ls hl H locs hG
  have F : gF p m c cL_undo 3 s ([.ref (h b0), .ref (ho bo)] : List Value).toArray RL := F
  generalize ([.ref (h b0), .ref (ho bo)] : List Value).toArray = args at F ⊢
  have hl : lv_has ls 3 [(0, .ref (h b0)), (1, .ref (ho bo))] := hl
  have hx := F.1
  have hb := F.2.1
  obtain ⟨z, hz, hf⟩ := wrp_in hf
  refine lv_aload_n hx hb dL_undo_0 rfl (lv_at hl 1 rfl) ?_
  refine lv_iconst (v := 0) hx hb dL_undo_1 (by decide) ?_
  refine lv_aload_n hx hb dL_undo_2 rfl (lv_at hl 0 rfl) ?_
  refine g_callT (As := []) (rest := [.int 0, .ref (ho bo)]) F hK hX hAB hG [0, 1, 2, 3, 4, 5, 6, 7] rfl rfl (c_X8_undo hst h b0 w0  hz) (kL_71 F.2.2.2.2 ⟨(Nat.le_of_ble_eq_true rfl), (Nat.le_of_ble_eq_true rfl)⟩) rfl rfl rfl rfl hl.1 rfl (lv_room (Nat.le_of_ble_eq_true rfl)) ⟨(Nat.le_of_ble_eq_true rfl), (Nat.le_of_ble_eq_true rfl)⟩ dL_undo_3 (fun z2 H locs ce q9 e2 hG hce hcv hcl => ?_) (fun z2 H locs e2 hG => ?_)
  · cases z with
    | inr z => cases e2
    | inl z =>
      cases e2
      obtain ⟨k, r⟩ := z
      obtain ⟨rfl, rfl⟩ := wrp_l1 hf
      refine vx_catch (own := RL) (name := gxn 1) (E := gxn 1) F.2.2.2.1 [] ⟨0, 8, 11, 15⟩ [] hte (fun x hx => nomatch hx) rfl (by decide) (F.2.2.2.2 _ gw_484) (va_Nw.use (gx_nest_on _ (List.mem_of_getElem? (i := 33) rfl)) (gx_nest33 hK.2.1)) hce hcv hcl ?_
      refine lv_astore_n hx hb dL_undo_11 rfl hl (Nat.le_of_ble_eq_true rfl) rfl (fun ls hl => ?_)
      refine lv_iconst (v := 1) hx hb dL_undo_12 (by decide) ?_
      exact g_lretI F hr hlk hG dL_undo_13
  · cases z with
    | inl z => cases e2
    | inr z =>
      cases e2
      cases hf
      refine lv_i2l hx hb dL_undo_6 rfl ?_
      refine g_last F hK hG 8 0 rfl rfl (g := vp_updL ou 0 z.1.toInt64) rfl dL_undo_7 (fun H locs hG => ?_)
      refine lv_goto (tgt := 14) hx hb dL_undo_8 (by decide) ?_
      refine lv_iconst (v := 0) hx hb dL_undo_14 (by decide) ?_
      exact g_lretI F hr hlk hG dL_undo_15
