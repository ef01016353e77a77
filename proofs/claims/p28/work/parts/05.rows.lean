/-! ===== pure side: reads, writes, guards, loops ===== -/
def rd {α : Type} (f : Nat → α) (n : Nat) (i : Int32) : Option α := if i < 0 ∨ n ≤ i.toNatClampNeg then none else some (f i.toNatClampNeg)
def wr (f : Nat → Int32) (n : Nat) (i : Int32) (x : Int32) : Option (Nat → Int32) := if i < 0 ∨ n ≤ i.toNatClampNeg then none else some (upd f i.toNatClampNeg x)
def wrL (f : Nat → Int64) (n : Nat) (i : Int32) (x : Int64) : Option (Nat → Int64) := if i < 0 ∨ n ≤ i.toNatClampNeg then none else some (vp_updL f i.toNatClampNeg x)
/-- a boolean is 0 or 1 -/
def bz (x : Int32) : Option Unit := if x = 0 ∨ x = 1 then some () else none
def nz (x : Int32) : Option Unit := if x = 0 then none else some ()
/-- no NaN -/
def nn (x : UInt64) : Option Unit := if x &&& 0x7fffffffffffffff ≤ 0x7ff0000000000000 then some () else none
theorem nn_ok {x : UInt64} {u : Unit} (h : nn x = some u) : vf_n64 x := by
  unfold nn at h
  split at h
  · assumption
  · cases h
def lp {σ ρ : Type} (b : σ → Option (σ ⊕ ρ)) : Nat → σ → Option ρ
  | 0, _ => none
  | n + 1, s => match b s with
    | none => none
    | some (.inl s') => lp b n s'
    | some (.inr r) => some r
theorem rd_in {α : Type} {f : Nat → α} {n : Nat} {i : Int32} {x : α} (h : rd f n i = some x) : vp_in i n ∧ f i.toNatClampNeg = x := by
  unfold rd at h
  split at h
  · cases h
  · rename_i h1
    exact ⟨h1, Option.some.inj h⟩
theorem wr_in {f g : Nat → Int32} {n : Nat} {i x : Int32} (h : wr f n i x = some g) : vp_in i n ∧ upd f i.toNatClampNeg x = g := by
  unfold wr at h
  split at h
  · cases h
  · rename_i h1
    exact ⟨h1, Option.some.inj h⟩
theorem wrL_in {f g : Nat → Int64} {n : Nat} {i : Int32} {x : Int64} (h : wrL f n i x = some g) : vp_in i n ∧ vp_updL f i.toNatClampNeg x = g := by
  unfold wrL at h
  split at h
  · cases h
  · rename_i h1
    exact ⟨h1, Option.some.inj h⟩
theorem bz_or {x : Int32} {u : Unit} (h : bz x = some u) : x = 0 ∨ x = 1 := by
  unfold bz at h
  split at h
  · assumption
  · cases h
theorem bz_nar {x : Int32} {u : Unit} (h : bz x = some u) : narrow .boolean (.int x) = .int x := by
  rcases bz_or h with rfl | rfl <;> rfl
theorem bz_fit {x : Int32} {u : Unit} (h : bz x = some u) : fits .boolean (.int x) = true := by
  rcases bz_or h with rfl | rfl <;> rfl
theorem bz_vn {x : Int32} {u : Unit} (h : bz x = some u) : vp_nar .boolean x = x := by
  rcases bz_or h with rfl | rfl <;> rfl
theorem nz_ne {x : Int32} {u : Unit} (h : nz x = some u) : ¬ x = 0 := by
  unfold nz at h
  split at h
  · cases h
  · assumption
theorem g_bnd {α β : Type} {x : Option α} {f : α → Option β} {o : β} (h : x.bind f = some o) : ∃ a, x = some a ∧ f a = some o := by
  cases x with
  | none => cases h
  | some a => exact ⟨a, rfl, h⟩
theorem g_it {α : Type} {c : Prop} {d : Decidable c} {a b : α} {z : α} (hc : c) (h : @ite α c d a b = z) : a = z := (if_pos hc).symm.trans h
theorem g_if {α : Type} {c : Prop} {d : Decidable c} {a b : α} {z : α} (hc : ¬ c) (h : @ite α c d a b = z) : b = z := (if_neg hc).symm.trans h
theorem lp_rule {σ ρ : Type} {b : σ → Option (σ ⊕ ρ)} {x : ρ} (Wh : σ → Prop) (step : ∀ s y, b s = some y → (∀ s', y = .inl s' → Wh s') → (∀ r, y = .inr r → r = x) → Wh s) : ∀ (n : Nat) (s : σ), lp b n s = some x → Wh s := by
  intro n
  induction n with
  | zero => intro s h; cases h
  | succ n ih =>
    intro s h
    cases hb : b s with
    | none => simp only [lp, hb] at h; cases h
    | some y =>
      cases y with
      | inl s' =>
        simp only [lp, hb] at h
        exact step s _ hb (fun s'' e => by cases e; exact ih _ h) (fun r e => by cases e)
      | inr r =>
        simp only [lp, hb] at h
        exact step s _ hb (fun s'' e => by cases e) (fun r' e => by cases e; exact Option.some.inj h)
/-! ===== segments, flat ===== -/
theorem gP_flat {E : gEnv} {S : List va_W} {H : Heap} : gP E S H ↔ va_P E.1 vwCl S.flatten H := by
  constructor
  · intro h k q hk
    obtain ⟨sg, h1, h2⟩ := List.mem_flatten.mp (List.mem_of_getElem? hk)
    obtain ⟨j, hj⟩ := List.getElem?_of_mem h2
    exact h sg h1 j q hj
  · intro h sg hsg j q hj
    obtain ⟨k, hk⟩ := List.getElem?_of_mem (List.mem_flatten.mpr ⟨sg, hsg, List.mem_of_getElem? hj⟩)
    exact h k q hk
theorem gN_flat {A : Nat → Prop} {S : List va_W} (h : gN A (S.map gas)) : va_D A S.flatten := by
  have e : (S.map gas).flatten = S.flatten.map Prod.fst := by
    simp only [gas, List.map_flatten]
    rfl
  rw [gN, e] at h
  refine ⟨fun i j p q hi hj hpq => ?_, fun i q hq => h.2 _ (List.mem_map.mpr ⟨q, List.mem_of_getElem? hq, rfl⟩)⟩
  have hi2 : (S.flatten.map Prod.fst)[i]? = some p.1 := by rw [List.getElem?_map, hi]; rfl
  have hj2 : (S.flatten.map Prod.fst)[j]? = some p.1 := by rw [List.getElem?_map, hj, hpq]; rfl
  exact (List.getElem?_inj (List.getElem?_eq_some_iff.mp hi2).1 h.1).mp (hi2.trans hj2.symm)
def goff (S : List va_W) (k j : Nat) : Nat := (S.take k).flatten.length + j
theorem gflat {S : List va_W} {k j : Nat} {sg : va_W} {x : Nat × va_E} (hk : S[k]? = some sg) (hj : sg[j]? = some x) : S.flatten[goff S k j]? = some x ∧ ∀ y, (S.set k (sg.set j y)).flatten = S.flatten.set (goff S k j) y := by
  have hl := (List.getElem?_eq_some_iff.mp hk).1
  have hjl := (List.getElem?_eq_some_iff.mp hj).1
  have e0 : S = S.take k ++ sg :: S.drop (k + 1) := by
    have e1 : S[k] = sg := (List.getElem?_eq_some_iff.mp hk).2
    rw [← e1, List.getElem_cons_drop, List.take_append_drop]
  have e2 : S.flatten = (S.take k).flatten ++ (sg ++ (S.drop (k + 1)).flatten) := by
    conv => lhs; rw [e0]
    simp
  constructor
  · rw [e2, goff, List.getElem?_append_right (Nat.le_add_right _ _), Nat.add_sub_cancel_left, List.getElem?_append_left hjl]
    exact hj
  · intro y
    have e3 : S.set k (sg.set j y) = S.take k ++ sg.set j y :: S.drop (k + 1) := by
      apply List.ext_getElem?
      intro i
      rw [List.getElem?_set]
      by_cases hki : k = i
      · subst hki
        simp [hl, List.getElem?_append_right, Nat.le_of_lt hl]
      · rw [if_neg hki]
        conv => lhs; rw [e0]
        rcases Nat.lt_or_gt_of_ne hki with h | h
        · rw [List.getElem?_append_right (by simp; omega), List.getElem?_append_right (by simp; omega)]
          have : i - (List.take k S).length ≠ 0 := by simp; omega
          obtain ⟨t, ht⟩ := Nat.exists_eq_succ_of_ne_zero this
          rw [ht]
          simp
        · rw [List.getElem?_append_left (by simp; omega), List.getElem?_append_left (by simp; omega)]
    rw [e3, e2, goff]
    simp only [List.flatten_append, List.flatten_cons]
    rw [List.set_append_right _ _ (Nat.le_add_right _ _), Nat.add_sub_cancel_left, List.set_append_left _ _ hjl]
theorem gS.wr {E : gEnv} {A : Nat → Prop} {H0 H H1 : Heap} {S : List va_W} {locs locs1 : List Loc} (hG : gS E A H0 S H locs) {k j a : Nat} {sg : va_W} {e0 e : va_E} (hk : S[k]? = some sg) (hj : sg[j]? = some (a, e0)) (h1 : va_P E.1 vwCl (S.flatten.set (goff S k j) (a, e)) H1) (h2 : va_S A H0 H1 locs1) : gS E A H0 (S.set k (sg.set j (a, e))) H1 locs1 :=
  ⟨gP_flat.mpr (by rw [(gflat hk hj).2]; exact h1), by rw [gmap_set hk (gas_set hj)]; exact hG.2.1, h2⟩
theorem gS.X {E : gEnv} {A : Nat → Prop} {s : State} {S : List va_W} {H : Heap} {locs : List Loc} (hX : gX E s s.heap) (hAB : ∀ q, A q → gB E q) (hG : gS E A s.heap S H locs) : gX E s H := hX.kept fun a h1 h2 => hG.2.2.2.1 a h1 (fun h => h2 (hAB a h))
/-! ===== contracts ===== -/
def gpre (E : gEnv) (As : List Value) (S : List va_W) : Array Value → State → Prop := va_Pc As (fun U => gK E U ∧ gX E U U.heap ∧ gP E S U.heap)
def gqR (v : Option Value) : Array Value → State → Outcome → State → Prop := fun _ st o t => o = .returned v ∧ t.heap = st.heap
/-- a method that only reads: from the world S, with the arguments As, it returns v, and the heap is the same -/
def gR (l : Launch) (y : MethodName) (cc : ByteArray) (nL : Nat) (ret : Option FieldType) (rm : Room) (E : gEnv) (As : List Value) (S : List va_W) (v : Option Value) : Prop := Met l y (gws y cc nL ret) rm (gpre E As S) (gqR v) 0 0 (fun _ => False)
def gpreM (E : gEnv) (As : List Value) (S : List va_W) : Array Value → State → Prop := va_Pc As (fun U => gK E U ∧ gX E U U.heap ∧ gP E S U.heap ∧ gN (gB E) (S.map gas))
def gqM (E : gEnv) (v : Option Value) (S S' : List va_W) : Array Value → State → Outcome → State → Prop := fun _ st o t => (o = .returned v ∧ gP E S' t.heap) ∧ va_F (gAd S) st t
/-- a method that writes: from the world S, with the arguments As, it returns v, the world is S' then, at the same addresses, and nothing else has changed -/
def gM (l : Launch) (y : MethodName) (cc : ByteArray) (nL : Nat) (ret : Option FieldType) (rm : Room) (E : gEnv) (As : List Value) (S : List va_W) (v : Option Value) (S' : List va_W) : Prop := S'.map gas = S.map gas ∧ Met l y (gws y cc nL ret) rm (gpreM E As S) (gqM E v S S') 0 0 (gAd S)
theorem gpre_blind {E : gEnv} {As : List Value} {S : List va_W} : FrameBlind (gpre E As S) := fun a U g mk h => ⟨h.1, gK.moved (u := U) (U := U.calling g mk a) rfl h.2.1, gX.moved (u := U) (U := U.calling g mk a) (Vm.Alike.refl U.vm) h.2.2.1, h.2.2.2⟩
theorem gpreM_blind {E : gEnv} {As : List Value} {S : List va_W} : FrameBlind (gpreM E As S) := fun a U g mk h => ⟨h.1, gK.moved (u := U) (U := U.calling g mk a) rfl h.2.1, gX.moved (u := U) (U := U.calling g mk a) (Vm.Alike.refl U.vm) h.2.2.1, h.2.2.2⟩
abbrev gF (p : Program) (m : MethodId) (c : Code) (cc : ByteArray) (nL : Nat) (s : State) (args : Array Value) (own : String) : Prop := CallFix p m c cc nL s args gx_G own
theorem gR.of {l : Launch} {y : MethodName} {cc : ByteArray} {nL : Nat} {ret : Option FieldType} {rm : Room} {E : gEnv} {As : List Value} {S : List va_W} {v : Option Value} (hy : plainName y.cls = true) (hn : (lg_sl As).length ≤ nL)
    (body : ∀ (p : Program) (e : Env) (s : State) (m : MethodId) (below : List Frame) (meth : Method) (c : Code), gF p m c cc nL s As.toArray y.cls → meth.sig.returnType = ret → meth.locks = false → gK E s → gX E s s.heap → gP E S s.heap → ∀ ls : Array Slot, lv_has ls nL (lv_args 0 As) →
      W p l e rm s m As.toArray below meth c s.heap [] 0 0 (MQ below (gqR v) As.toArray s 0 0 (fun _ => False)) (F0 m 0 ls [])) : gR l y cc nL ret rm E As S v := by
  refine Met.ofW (cc := cc) (maxL := nL) (ret := ret) hy rfl ?_
  intro p e s m args below meth c s₁ B hml hv
  obtain ⟨rfl, hK, hX, hP⟩ := hv
  have hts := atoms_spec (ws := gws y cc nL ret) B.pre
  have hown : s.vm.findClass y.cls = some m.cls := findClass_of_methodNamed B.named
  have hl := lv_entry As (n := nL) hn
  rw [lg_entry_eq]
  exact body p e s m below meth c ⟨B.exec, B.bytes, hml, hown, fun w h => hts w (List.mem_cons_of_mem _ h)⟩ B.returns B.notSynchronized hK hX hP _ hl
theorem gM.of {l : Launch} {y : MethodName} {cc : ByteArray} {nL : Nat} {ret : Option FieldType} {rm : Room} {E : gEnv} {As : List Value} {S S' : List va_W} {v : Option Value} (hy : plainName y.cls = true) (hn : (lg_sl As).length ≤ nL) (hg : S'.map gas = S.map gas)
    (body : ∀ (p : Program) (e : Env) (s : State) (m : MethodId) (below : List Frame) (meth : Method) (c : Code), gF p m c cc nL s As.toArray y.cls → meth.sig.returnType = ret → meth.locks = false → gK E s → gX E s s.heap → (∀ q, gAd S q → gB E q) → ∀ ls : Array Slot, lv_has ls nL (lv_args 0 As) → ∀ (H : Heap) (locs : List Loc), gS E (gAd S) s.heap S H locs →
      W p l e rm s m As.toArray below meth c H locs 0 0 (MQ below (gqM E v S S') As.toArray s 0 0 (gAd S)) (F0 m 0 ls [])) : gM l y cc nL ret rm E As S v S' := by
  refine ⟨hg, Met.ofW (cc := cc) (maxL := nL) (ret := ret) hy rfl ?_⟩
  intro p e s m args below meth c s₁ B hml hv
  obtain ⟨rfl, hK, hX, hP, hN⟩ := hv
  have hts := atoms_spec (ws := gws y cc nL ret) B.pre
  have hown : s.vm.findClass y.cls = some m.cls := findClass_of_methodNamed B.named
  have hl := lv_entry As (n := nL) hn
  rw [lg_entry_eq]
  exact body p e s m below meth c ⟨B.exec, B.bytes, hml, hown, fun w h => hts w (List.mem_cons_of_mem _ h)⟩ B.returns B.notSynchronized hK hX (fun q h => hN.2 q (gAd_iff.mp h)) _ hl _ _ ⟨hP, ⟨hN.1, fun q h => gAd_iff.mpr h⟩, va_S.rf⟩
/-- a field: where it lies, and that this class's file names it -/
def gFld (own : String) (index ci i : Nat) : Prop := ∃ (C : String) (T : u_T) (N : Nat), vwCl[ci]? = some (C, T, N) ∧ i < N ∧ (∀ w ∈ u_ws C T N, w ∈ gx_G) ∧ (Cond.fieldLink own index (T i).1 (T i).2.1 (T i).2.2.1 ∈ gx_G ∨ ∃ host, Cond.fieldLinkNest own index (T i).1 (T i).2.1 (T i).2.2.1 host ∈ gx_nest)
def gPut (own : String) (index ci i : Nat) (ty : FieldType) : Prop := ∃ (C : String) (T : u_T) (N : Nat) (tf : Nat → FieldType), vwCl[ci]? = some (C, T, N) ∧ i < N ∧ (∀ w ∈ u_ws C T N, w ∈ gx_G) ∧ (∀ k, k < N → parseFieldDescriptor (T k).2.2.1 = some (tf k)) ∧ (∀ a, a < N → ∀ b, b < N → a ≠ b → (T a).2.1 ≠ (T b).2.1) ∧ (T i).2.2.2 = false ∧ parseFieldDescriptor (T i).2.2.1 = some ty ∧ (Cond.fieldLink own index (T i).1 (T i).2.1 (T i).2.2.1 ∈ gx_G ∨ ∃ host, Cond.fieldLinkNest own index (T i).1 (T i).2.1 (T i).2.2.1 host ∈ gx_nest)
section GROWS
variable {p : Program} {l : Launch} {e : Env} {R : Room} {s : State} {m : MethodId} {args : Array Value} {below : List Frame} {meth : Method} {c : Code} {H : Heap} {locs : List Loc} {cells slots : Nat} {Q : State → Prop}
variable {cc : ByteArray} {nL pc : Nat} {ls : Array Slot} {rest : List Value} {own : String} {E : gEnv} {S : List va_W} {A : Nat → Prop} {H0 : Heap}
theorem g_get (F : gF p m c cc nL s args own) (hK : gK E s) (hP : gP E S H) (k j i : Nat) {sg : va_W} {fs : List Value} {a ci index : Nat} {v : Value} (hw : gFld own index ci i) (hk : S[k]? = some sg) (hj : sg[j]? = some (a, .inr (ci, fs))) (hv : fs[i]? = some v) (hdg : decode cc pc = .ok (.getfield index, 3))
    (kk : W p l e R s m args below meth c H locs cells slots Q (F0 m (pc + 3) ls (v :: rest))) : W p l e R s m args below meth c H locs cells slots Q (F0 m pc ls (.ref a :: rest)) := by
  obtain ⟨C, T, N, h1, h2, h3, h4 | ⟨host, h4⟩⟩ := hw
  · exact va_get F.1 F.2.1 F.2.2.2.2 h3 F.2.2.2.1 hK.1 (hP.seg k hk) j hj h1 i h2 (F.2.2.2.2 _ h4) (fun _ h => h) hv hdg kk
  · exact va_getN F.1 F.2.1 F.2.2.2.2 h3 F.2.2.2.1 hK.1 (hP.seg k hk) j hj h1 i h2 (va_Nw.use rfl (hK.2.1 _ h4)) (fun _ h => h) hv hdg kk
theorem g_put (F : gF p m c cc nL s args own) (hK : gK E s) (hG : gS E A H0 S H locs) (k j i : Nat) {sg : va_W} {fs : List Value} {a ci index : Nat} {v : Value} {ty : FieldType} (hw : gPut own index ci i ty) (hk : S[k]? = some sg) (hj : sg[j]? = some (a, .inr (ci, fs))) (hi : i < fs.length) (hn : narrow ty v = v) (hf : fits ty v = true) (hdg : decode cc pc = .ok (.putfield index, 3))
    (kk : ∀ (H1 : Heap) (locs1 : List Loc), gS E A H0 (S.set k (sg.set j (a, .inr (ci, fs.set i v)))) H1 locs1 → W p l e R s m args below meth c H1 locs1 cells slots Q (F0 m (pc + 3) ls rest)) : W p l e R s m args below meth c H locs cells slots Q (F0 m pc ls (v :: .ref a :: rest)) := by
  obtain ⟨C, T, N, tf, h1, h2, h3, h5, h6, h7, h8, h4 | ⟨host, h4⟩⟩ := hw
  · exact va_put F.1 F.2.1 F.2.2.2.2 h3 tf h5 h6 F.2.2.2.1 hK.1 (gP_flat.mp hG.1) (gN_flat hG.2.1) hG.2.2 (goff S k j) (gflat hk hj).1 h1 i h2 (F.2.2.2.2 _ h4) (fun _ h => h) h7 h8 hn hf hi hdg (fun H1 locs1 q1 _ q3 => kk H1 locs1 (hG.wr hk hj q1 q3))
  · exact va_putN F.1 F.2.1 F.2.2.2.2 h3 tf h5 h6 F.2.2.2.1 hK.1 (gP_flat.mp hG.1) (gN_flat hG.2.1) hG.2.2 (goff S k j) (gflat hk hj).1 h1 i h2 (va_Nw.use rfl (hK.2.1 _ h4)) (fun _ h => h) h7 h8 hn hf hi hdg (fun H1 locs1 q1 _ q3 => kk H1 locs1 (hG.wr hk hj q1 q3))
theorem g_iald (F : gF p m c cc nL s args own) (hK : gK E s) (hP : gP E S H) (k j : Nat) {sg : va_W} {a n : Nat} {f : Nat → Int32} {i x : Int32} (hk : S[k]? = some sg) (hj : sg[j]? = some (a, .inl (E.2.1.1, n, .inl f))) (hx : rd f n i = some x) (hdg : decode cc pc = .ok (.iaload, 1))
    (kk : W p l e R s m args below meth c H locs cells slots Q (F0 m (pc + 1) ls (.int x :: rest))) : W p l e R s m args below meth c H locs cells slots Q (F0 m pc ls (.int i :: .ref a :: rest)) := by
  obtain ⟨h1, h2⟩ := rd_in hx
  subst h2
  exact va_iald F.1 F.2.1 hK.1 (hP.seg k hk) j 0 hj rfl h1 hdg kk
theorem g_lald (F : gF p m c cc nL s args own) (hK : gK E s) (hP : gP E S H) (k j : Nat) {sg : va_W} {a n : Nat} {f : Nat → Int64} {i : Int32} {x : Int64} (hk : S[k]? = some sg) (hj : sg[j]? = some (a, .inl (E.2.1.2.1, n, .inr (.inl f)))) (hx : rd f n i = some x) (hdg : decode cc pc = .ok (.laload, 1))
    (kk : W p l e R s m args below meth c H locs cells slots Q (F0 m (pc + 1) ls (.long x :: rest))) : W p l e R s m args below meth c H locs cells slots Q (F0 m pc ls (.int i :: .ref a :: rest)) := by
  obtain ⟨h1, h2⟩ := rd_in hx
  subst h2
  exact va_lald F.1 F.2.1 hK.1 (hP.seg k hk) j 1 hj rfl h1 hdg kk
theorem g_zald (F : gF p m c cc nL s args own) (hK : gK E s) (hP : gP E S H) (k j : Nat) {sg : va_W} {a n : Nat} {f : Nat → Int32} {i x : Int32} (hk : S[k]? = some sg) (hj : sg[j]? = some (a, .inl (E.2.1.2.2.1, n, .inl f))) (hx : rd f n i = some x) (hdg : decode cc pc = .ok (.baload, 1))
    (kk : W p l e R s m args below meth c H locs cells slots Q (F0 m (pc + 1) ls (.int x :: rest))) : W p l e R s m args below meth c H locs cells slots Q (F0 m pc ls (.int i :: .ref a :: rest)) := by
  obtain ⟨h1, h2⟩ := rd_in hx
  subst h2
  exact va_zald F.1 F.2.1 hK.1 (hP.seg k hk) j 2 hj rfl h1 hdg kk
theorem g_iast (F : gF p m c cc nL s args own) (hK : gK E s) (hG : gS E A H0 S H locs) (k j : Nat) {sg : va_W} {a n : Nat} {f g : Nat → Int32} {i x : Int32} (hk : S[k]? = some sg) (hj : sg[j]? = some (a, .inl (E.2.1.1, n, .inl f))) (hx : wr f n i x = some g) (hdg : decode cc pc = .ok (.iastore, 1))
    (kk : ∀ (H1 : Heap) (locs1 : List Loc), gS E A H0 (S.set k (sg.set j (a, .inl (E.2.1.1, n, .inl g)))) H1 locs1 → W p l e R s m args below meth c H1 locs1 cells slots Q (F0 m (pc + 1) ls rest)) : W p l e R s m args below meth c H locs cells slots Q (F0 m pc ls (.int x :: .int i :: .ref a :: rest)) := by
  obtain ⟨h1, h2⟩ := wr_in hx
  subst h2
  exact va_iast F.1 F.2.1 hK.1 (gP_flat.mp hG.1) (gN_flat hG.2.1) hG.2.2 (goff S k j) 0 (gflat hk hj).1 rfl h1 hdg (fun H1 locs1 q1 _ q3 => kk H1 locs1 (hG.wr hk hj q1 q3))
theorem g_last (F : gF p m c cc nL s args own) (hK : gK E s) (hG : gS E A H0 S H locs) (k j : Nat) {sg : va_W} {a n : Nat} {f g : Nat → Int64} {i : Int32} {x : Int64} (hk : S[k]? = some sg) (hj : sg[j]? = some (a, .inl (E.2.1.2.1, n, .inr (.inl f)))) (hx : wrL f n i x = some g) (hdg : decode cc pc = .ok (.lastore, 1))
    (kk : ∀ (H1 : Heap) (locs1 : List Loc), gS E A H0 (S.set k (sg.set j (a, .inl (E.2.1.2.1, n, .inr (.inl g))))) H1 locs1 → W p l e R s m args below meth c H1 locs1 cells slots Q (F0 m (pc + 1) ls rest)) : W p l e R s m args below meth c H locs cells slots Q (F0 m pc ls (.long x :: .int i :: .ref a :: rest)) := by
  obtain ⟨h1, h2⟩ := wrL_in hx
  subst h2
  exact va_last F.1 F.2.1 hK.1 (gP_flat.mp hG.1) (gN_flat hG.2.1) hG.2.2 (goff S k j) 1 (gflat hk hj).1 rfl h1 hdg (fun H1 locs1 q1 _ q3 => kk H1 locs1 (hG.wr hk hj q1 q3))
theorem g_zast (F : gF p m c cc nL s args own) (hK : gK E s) (hG : gS E A H0 S H locs) (k j : Nat) {sg : va_W} {a n : Nat} {f g : Nat → Int32} {i x : Int32} (hk : S[k]? = some sg) (hj : sg[j]? = some (a, .inl (E.2.1.2.2.1, n, .inl f))) (hx : wr f n i x = some g) (hb : vp_nar .boolean x = x) (hdg : decode cc pc = .ok (.bastore, 1))
    (kk : ∀ (H1 : Heap) (locs1 : List Loc), gS E A H0 (S.set k (sg.set j (a, .inl (E.2.1.2.2.1, n, .inl g)))) H1 locs1 → W p l e R s m args below meth c H1 locs1 cells slots Q (F0 m (pc + 1) ls rest)) : W p l e R s m args below meth c H locs cells slots Q (F0 m pc ls (.int x :: .int i :: .ref a :: rest)) := by
  obtain ⟨h1, h2⟩ := wr_in hx
  subst h2
  exact va_zast F.1 F.2.1 hK.1 (gP_flat.mp hG.1) (gN_flat hG.2.1) hG.2.2 (goff S k j) 2 (gflat hk hj).1 rfl h1 hdg (fun H1 locs1 q1 _ q3 => kk H1 locs1 (hG.wr hk hj (by rw [hb] at q1; exact q1) q3))
/-! ===== calls ===== -/
theorem g_runR {v : Option Value} {st0 : List Value} {a : Array Value} (hr : va_Run p l e R s m args below meth c H locs cells slots 0 0 (F0 m pc ls st0) rest (gqR v a) (fun _ => False))
    (kk : W p l e R s m args below meth c H locs cells slots Q (F0 m (pc + 3) ls (v.toList ++ rest))) : W p l e R s m args below meth c H locs cells slots Q (F0 m pc ls st0) := by
  intro T hT X
  obtain ⟨v', st₀, t, T', L, h0, X', hL, e1, e2, ⟨hv, hh⟩, st⟩ := hr T hT X
  cases hv
  obtain ⟨t2, a1, b1⟩ := kk T' (by rw [e1, hh, h0]) (Stand.forget X' (fun q h => (hL q h).elim))
  exact ⟨t2, st t2 a1, b1⟩
theorem g_runM {v : Option Value} {st0 : List Value} {a : Array Value} {Sc Sc' S' : List va_W} (hr : va_Run p l e R s m args below meth c H locs cells slots 0 0 (F0 m pc ls st0) rest (gqM E v Sc Sc' a) (gAd Sc)) (hG : gS E A H0 S H locs) (is : List Nat) (hs : is.map (fun i => S[i]?) = Sc.map some) (hn : va_nd is = true) (hg : Sc'.map gas = Sc.map gas) (hS' : gset S is Sc' = S')
    (kk : ∀ (H1 : Heap) (locs1 : List Loc), gS E A H0 S' H1 locs1 → W p l e R s m args below meth c H1 locs1 cells slots Q (F0 m (pc + 3) ls (v.toList ++ rest))) : W p l e R s m args below meth c H locs cells slots Q (F0 m pc ls st0) := by
  subst hS'
  have hf : ∀ q, gAd Sc q → A q := fun q h => (hG.2.1.sub is hs hn).2 q (gAd_iff.mp h)
  intro T hT X
  obtain ⟨v', st₀, t, T', L, h0, X', hL, e1, e2, ⟨⟨hv, hp⟩, hz, hk⟩, st⟩ := hr T hT X
  cases hv
  rw [h0] at hz hk
  obtain ⟨t2, a1, b1⟩ := kk T'.heap (locs ++ L) ⟨by rw [e1]; exact hG.1.call hG.2.1 is hs hg hp hk, by rw [gset_map is Sc Sc' S hs hn hg]; exact hG.2.1,
    ⟨Nat.le_trans hG.2.2.1 (by rw [e1]; exact hz), fun q h1 h2 => by rw [e1, hk q (Nat.lt_of_lt_of_le h1 hG.2.2.1) (fun z => h2 (hf q z))]; exact hG.2.2.2.1 q h1 h2, fun q hq => by
      rcases List.mem_append.mp hq with h | h
      · exact hG.2.2.2.2 q h
      · exact hf _ (hL q h)⟩⟩ T' rfl X'
  exact ⟨t2, st t2 a1, b1⟩
theorem g_recv {Sc : List va_W} {C : String} {T : u_T} {N b ci : Nat} {sg : va_W} {fs : List Value} (hK : gK E s) (hP : gP E Sc H) (hk : Sc[0]? = some sg) (hj : sg[0]? = some (b, .inr (ci, fs))) (hc : vwCl[ci]? = some (C, T, N)) : ∃ cell : Cell, H[b]? = some cell ∧ cell.vm.isStatics = false ∧ s.vm.findClass C = some cell.cls := va_recv hK.1 (hP.seg 0 hk) hc hj
/-- a call of an instance method that reads -/
theorem g_rv {y : MethodName} {bytes : ByteArray} {maxL n index b ci N : Nat} {ret : Option FieldType} {rm : Room} {As : List Value} {Sc : List va_W} {C : String} {T : u_T} {sg : va_W} {fs : List Value} {v : Value} (F : gF p m c cc nL s args own) (hK : gK E s) (hX : gX E s H) (hP : gP E S H) (is : List Nat) (hs : is.filterMap (fun i => S[i]?) = Sc) (hM : gR l y bytes maxL ret rm E (.ref b :: As) Sc (some v)) (cw : CallW R s args own C index y bytes maxL ret (gws y bytes maxL ret) rm 0 0 n) (hk : Sc[0]? = some sg) (hj : sg[0]? = some (b, .inr (ci, fs))) (hc : vwCl[ci]? = some (C, T, N)) (hn : As.length = n) (hl : ls.size = nL) {st : List Value} (hst : st = As.reverse ++ .ref b :: rest) (hW : 2 * (F0 m pc ls st).monitorRoom + (rest.map fun v => v.category).sum ≤ 8) (hf : cells ≤ R.cells ∧ slots ≤ R.slots) (hdg : decode cc pc = .ok (.invokevirtual index, 3))
    (kk : W p l e R s m args below meth c H locs cells slots Q (F0 m (pc + 3) ls (v :: rest))) : W p l e R s m args below meth c H locs cells slots Q (F0 m pc ls st) :=
  g_runR (va_runV F hM cw ⟨gpre_blind, g_recv hK (hP.sub is hs) hk hj hc, fun U hU hW => ⟨rfl, hK.warm hW, by rw [hU]; exact hX.moved hW.alike, by rw [hU]; exact hP.sub is hs⟩⟩ rfl hn hl hst hW hdg hf) kk
theorem g_rs {y : MethodName} {bytes : ByteArray} {maxL n index : Nat} {ret : Option FieldType} {rm : Room} {As : List Value} {Sc : List va_W} {v : Value} (F : gF p m c cc nL s args own) (hK : gK E s) (hX : gX E s H) (hP : gP E S H) (is : List Nat) (hs : is.filterMap (fun i => S[i]?) = Sc) (hM : gR l y bytes maxL ret rm E As Sc (some v)) (cw : CallB R s args own index y bytes maxL ret (gws y bytes maxL ret) rm 0 0 n ∧ (Cond.static y).before args s = true) (hn : As.length = n) (hl : ls.size = nL) {st : List Value} (hst : st = As.reverse ++ rest) (hW : 2 * (F0 m pc ls st).monitorRoom + (rest.map fun v => v.category).sum ≤ 8) (hf : cells ≤ R.cells ∧ slots ≤ R.slots) (hdg : decode cc pc = .ok (.invokestatic index, 3))
    (kk : W p l e R s m args below meth c H locs cells slots Q (F0 m (pc + 3) ls (v :: rest))) : W p l e R s m args below meth c H locs cells slots Q (F0 m pc ls st) :=
  g_runR (va_runS F hM cw ⟨gpre_blind, fun U hU hW => ⟨rfl, hK.warm hW, by rw [hU]; exact hX.moved hW.alike, by rw [hU]; exact hP.sub is hs⟩⟩ rfl hn hl hst hW hdg hf) kk
theorem g_nd_sub {S Sc : List va_W} {is : List Nat} (hs : is.map (fun i => S[i]?) = Sc.map some) : is.filterMap (fun i => S[i]?) = Sc := by
  have h : (is.map (fun i => S[i]?)).filterMap id = (Sc.map some).filterMap id := by rw [hs]
  simpa [List.filterMap_map, Function.comp_def] using h
theorem g_mv0 {y : MethodName} {bytes : ByteArray} {maxL n index b ci N : Nat} {ret : Option FieldType} {rm : Room} {As : List Value} {Sc Sc' S' : List va_W} {C : String} {T : u_T} {sg : va_W} {fs : List Value} {v : Option Value} (F : gF p m c cc nL s args own) (hK : gK E s) (hX : gX E s s.heap) (hAB : ∀ q, A q → gB E q) (hG : gS E A s.heap S H locs) (is : List Nat) (hs : is.map (fun i => S[i]?) = Sc.map some) (hnd : va_nd is = true) (hM : gM l y bytes maxL ret rm E (.ref b :: As) Sc v Sc') (hS' : gset S is Sc' = S') (cw : CallW R s args own C index y bytes maxL ret (gws y bytes maxL ret) rm 0 0 n) (hk : Sc[0]? = some sg) (hj : sg[0]? = some (b, .inr (ci, fs))) (hc : vwCl[ci]? = some (C, T, N)) (hn : As.length = n) (hl : ls.size = nL) {st : List Value} (hst : st = As.reverse ++ .ref b :: rest) (hW : 2 * (F0 m pc ls st).monitorRoom + (rest.map fun v => v.category).sum ≤ 8) (hf : cells ≤ R.cells ∧ slots ≤ R.slots) (hdg : decode cc pc = .ok (.invokevirtual index, 3))
    (kk : ∀ (H1 : Heap) (locs1 : List Loc), gS E A s.heap S' H1 locs1 → W p l e R s m args below meth c H1 locs1 cells slots Q (F0 m (pc + 3) ls (v.toList ++ rest))) : W p l e R s m args below meth c H locs cells slots Q (F0 m pc ls st) :=
  g_runM (va_runV F hM.2 cw ⟨gpreM_blind, g_recv hK (hG.1.sub is (g_nd_sub hs)) hk hj hc, fun U hU hW => ⟨rfl, hK.warm hW, by rw [hU]; exact (hG.X hX hAB).moved hW.alike, by rw [hU]; exact hG.1.sub is (g_nd_sub hs), ⟨(hG.2.1.sub is hs hnd).1, fun q h => hAB q ((hG.2.1.sub is hs hnd).2 q h)⟩⟩⟩ rfl hn hl hst hW hdg hf) hG is hs hnd hM.1 hS' kk
/-- a call of an instance method that writes: with an answer, without one -/
theorem g_mv {y : MethodName} {bytes : ByteArray} {maxL n index b ci N : Nat} {ret : Option FieldType} {rm : Room} {As : List Value} {Sc Sc' S' : List va_W} {C : String} {T : u_T} {sg : va_W} {fs : List Value} {v : Value} (F : gF p m c cc nL s args own) (hK : gK E s) (hX : gX E s s.heap) (hAB : ∀ q, A q → gB E q) (hG : gS E A s.heap S H locs) (is : List Nat) (hs : is.map (fun i => S[i]?) = Sc.map some) (hnd : va_nd is = true) (hM : gM l y bytes maxL ret rm E (.ref b :: As) Sc (some v) Sc') (hS' : gset S is Sc' = S') (cw : CallW R s args own C index y bytes maxL ret (gws y bytes maxL ret) rm 0 0 n) (hk : Sc[0]? = some sg) (hj : sg[0]? = some (b, .inr (ci, fs))) (hc : vwCl[ci]? = some (C, T, N)) (hn : As.length = n) (hl : ls.size = nL) {st : List Value} (hst : st = As.reverse ++ .ref b :: rest) (hW : 2 * (F0 m pc ls st).monitorRoom + (rest.map fun v => v.category).sum ≤ 8) (hf : cells ≤ R.cells ∧ slots ≤ R.slots) (hdg : decode cc pc = .ok (.invokevirtual index, 3))
    (kk : ∀ (H1 : Heap) (locs1 : List Loc), gS E A s.heap S' H1 locs1 → W p l e R s m args below meth c H1 locs1 cells slots Q (F0 m (pc + 3) ls (v :: rest))) : W p l e R s m args below meth c H locs cells slots Q (F0 m pc ls st) :=
  g_mv0 F hK hX hAB hG is hs hnd hM hS' cw hk hj hc hn hl hst hW hf hdg kk
theorem g_mvv {y : MethodName} {bytes : ByteArray} {maxL n index b ci N : Nat} {ret : Option FieldType} {rm : Room} {As : List Value} {Sc Sc' S' : List va_W} {C : String} {T : u_T} {sg : va_W} {fs : List Value} (F : gF p m c cc nL s args own) (hK : gK E s) (hX : gX E s s.heap) (hAB : ∀ q, A q → gB E q) (hG : gS E A s.heap S H locs) (is : List Nat) (hs : is.map (fun i => S[i]?) = Sc.map some) (hnd : va_nd is = true) (hM : gM l y bytes maxL ret rm E (.ref b :: As) Sc none Sc') (hS' : gset S is Sc' = S') (cw : CallW R s args own C index y bytes maxL ret (gws y bytes maxL ret) rm 0 0 n) (hk : Sc[0]? = some sg) (hj : sg[0]? = some (b, .inr (ci, fs))) (hc : vwCl[ci]? = some (C, T, N)) (hn : As.length = n) (hl : ls.size = nL) {st : List Value} (hst : st = As.reverse ++ .ref b :: rest) (hW : 2 * (F0 m pc ls st).monitorRoom + (rest.map fun v => v.category).sum ≤ 8) (hf : cells ≤ R.cells ∧ slots ≤ R.slots) (hdg : decode cc pc = .ok (.invokevirtual index, 3))
    (kk : ∀ (H1 : Heap) (locs1 : List Loc), gS E A s.heap S' H1 locs1 → W p l e R s m args below meth c H1 locs1 cells slots Q (F0 m (pc + 3) ls rest)) : W p l e R s m args below meth c H locs cells slots Q (F0 m pc ls st) :=
  g_mv0 F hK hX hAB hG is hs hnd hM hS' cw hk hj hc hn hl hst hW hf hdg kk
/-- a static call that writes, with an answer -/
theorem g_ms {y : MethodName} {bytes : ByteArray} {maxL n index : Nat} {ret : Option FieldType} {rm : Room} {As : List Value} {Sc Sc' S' : List va_W} {v : Value} (F : gF p m c cc nL s args own) (hK : gK E s) (hX : gX E s s.heap) (hAB : ∀ q, A q → gB E q) (hG : gS E A s.heap S H locs) (is : List Nat) (hs : is.map (fun i => S[i]?) = Sc.map some) (hnd : va_nd is = true) (hM : gM l y bytes maxL ret rm E As Sc (some v) Sc') (hS' : gset S is Sc' = S') (cw : CallB R s args own index y bytes maxL ret (gws y bytes maxL ret) rm 0 0 n ∧ (Cond.static y).before args s = true) (hn : As.length = n) (hl : ls.size = nL) {st : List Value} (hst : st = As.reverse ++ rest) (hW : 2 * (F0 m pc ls st).monitorRoom + (rest.map fun v => v.category).sum ≤ 8) (hf : cells ≤ R.cells ∧ slots ≤ R.slots) (hdg : decode cc pc = .ok (.invokestatic index, 3))
    (kk : ∀ (H1 : Heap) (locs1 : List Loc), gS E A s.heap S' H1 locs1 → W p l e R s m args below meth c H1 locs1 cells slots Q (F0 m (pc + 3) ls (v :: rest))) : W p l e R s m args below meth c H locs cells slots Q (F0 m pc ls st) :=
  g_runM (va_runS F hM.2 cw ⟨gpreM_blind, fun U hU hW => ⟨rfl, hK.warm hW, by rw [hU]; exact (hG.X hX hAB).moved hW.alike, by rw [hU]; exact hG.1.sub is (g_nd_sub hs), ⟨(hG.2.1.sub is hs hnd).1, fun q h => hAB q ((hG.2.1.sub is hs hnd).2 q h)⟩⟩⟩ rfl hn hl hst hW hdg hf) hG is hs hnd hM.1 hS' kk
/-! ===== lcmp and the branch behind it ===== -/
theorem g_lc_eq {x y : Int64} {off : Int} {tgt : Nat} (hx : p.tables.exec = Jvm.exec) (hb : c.code = cc) (d1 : decode cc pc = .ok (.lcmp, 1)) (d2 : decode cc (pc + 1) = .ok (.ifCond .eq off, 3)) (ht : ((pc + 1 : Nat) : Int) + off = (tgt : Int)) (kt : x = y → W p l e R s m args below meth c H locs cells slots Q (F0 m tgt ls rest)) (kf : ¬ x = y → W p l e R s m args below meth c H locs cells slots Q (F0 m (pc + 4) ls rest)) : W p l e R s m args below meth c H locs cells slots Q (F0 m pc ls (.long y :: .long x :: rest)) :=
  W.lcmp hx hb d1 (lv_if_eq hx hb d2 ht (fun h => kt ((lg_cmp_eq x y).mp h)) (fun h => kf (fun q => h ((lg_cmp_eq x y).mpr q))))
theorem g_lc_ne {x y : Int64} {off : Int} {tgt : Nat} (hx : p.tables.exec = Jvm.exec) (hb : c.code = cc) (d1 : decode cc pc = .ok (.lcmp, 1)) (d2 : decode cc (pc + 1) = .ok (.ifCond .ne off, 3)) (ht : ((pc + 1 : Nat) : Int) + off = (tgt : Int)) (kt : ¬ x = y → W p l e R s m args below meth c H locs cells slots Q (F0 m tgt ls rest)) (kf : x = y → W p l e R s m args below meth c H locs cells slots Q (F0 m (pc + 4) ls rest)) : W p l e R s m args below meth c H locs cells slots Q (F0 m pc ls (.long y :: .long x :: rest)) :=
  W.lcmp hx hb d1 (lv_if_ne hx hb d2 ht (fun h => kt (fun q => h ((lg_cmp_eq x y).mpr q))) (fun h => kf ((lg_cmp_eq x y).mp h)))
theorem g_lc_lt {x y : Int64} {off : Int} {tgt : Nat} (hx : p.tables.exec = Jvm.exec) (hb : c.code = cc) (d1 : decode cc pc = .ok (.lcmp, 1)) (d2 : decode cc (pc + 1) = .ok (.ifCond .lt off, 3)) (ht : ((pc + 1 : Nat) : Int) + off = (tgt : Int)) (kt : x < y → W p l e R s m args below meth c H locs cells slots Q (F0 m tgt ls rest)) (kf : ¬ x < y → W p l e R s m args below meth c H locs cells slots Q (F0 m (pc + 4) ls rest)) : W p l e R s m args below meth c H locs cells slots Q (F0 m pc ls (.long y :: .long x :: rest)) :=
  W.lcmp hx hb d1 (lv_if_lt hx hb d2 ht (fun h => kt ((lg_cmp_lt x y).mp h)) (fun h => kf (fun q => h ((lg_cmp_lt x y).mpr q))))
theorem g_lc_ge {x y : Int64} {off : Int} {tgt : Nat} (hx : p.tables.exec = Jvm.exec) (hb : c.code = cc) (d1 : decode cc pc = .ok (.lcmp, 1)) (d2 : decode cc (pc + 1) = .ok (.ifCond .ge off, 3)) (ht : ((pc + 1 : Nat) : Int) + off = (tgt : Int)) (kt : y ≤ x → W p l e R s m args below meth c H locs cells slots Q (F0 m tgt ls rest)) (kf : ¬ y ≤ x → W p l e R s m args below meth c H locs cells slots Q (F0 m (pc + 4) ls rest)) : W p l e R s m args below meth c H locs cells slots Q (F0 m pc ls (.long y :: .long x :: rest)) :=
  W.lcmp hx hb d1 (lv_if_ge hx hb d2 ht (fun h => kt ((lg_cmp_ge x y).mp h)) (fun h => kf (fun q => h ((lg_cmp_ge x y).mpr q))))
theorem g_lc_gt {x y : Int64} {off : Int} {tgt : Nat} (hx : p.tables.exec = Jvm.exec) (hb : c.code = cc) (d1 : decode cc pc = .ok (.lcmp, 1)) (d2 : decode cc (pc + 1) = .ok (.ifCond .gt off, 3)) (ht : ((pc + 1 : Nat) : Int) + off = (tgt : Int)) (kt : y < x → W p l e R s m args below meth c H locs cells slots Q (F0 m tgt ls rest)) (kf : ¬ y < x → W p l e R s m args below meth c H locs cells slots Q (F0 m (pc + 4) ls rest)) : W p l e R s m args below meth c H locs cells slots Q (F0 m pc ls (.long y :: .long x :: rest)) :=
  W.lcmp hx hb d1 (lv_if_gt hx hb d2 ht (fun h => kt ((lg_cmp_gt x y).mp h)) (fun h => kf (fun q => h ((lg_cmp_gt x y).mpr q))))
/-! ===== ends ===== -/
theorem g_retI {v : Int32} (F : gF p m c cc nL s args own) (hr : meth.sig.returnType = some .int) (hlk : meth.locks = false) (hdg : decode cc pc = .ok (.ireturn, 1)) : W p l e R s m args below meth c s.heap [] 0 0 (MQ below (gqR (some (.int v))) args s 0 0 (fun _ => False)) (F0 m pc ls [.int v]) := W.iret F.1 F.2.1 hr (fun t ht _ => ⟨rfl, ht⟩) (fun _ h => nomatch h) hdg hlk
theorem g_retZ {v : Int32} (F : gF p m c cc nL s args own) (hr : meth.sig.returnType = some .boolean) (hlk : meth.locks = false) (hn : narrow .boolean (.int v) = .int v) (hdg : decode cc pc = .ok (.ireturn, 1)) : W p l e R s m args below meth c s.heap [] 0 0 (MQ below (gqR (some (.int v))) args s 0 0 (fun _ => False)) (F0 m pc ls [.int v]) := W.zret F.1 F.2.1 hr hn (fun t ht _ => ⟨rfl, ht⟩) (fun _ h => nomatch h) hdg hlk
theorem g_retL {v : Int64} (F : gF p m c cc nL s args own) (hr : meth.sig.returnType = some .long) (hlk : meth.locks = false) (hdg : decode cc pc = .ok (.lreturn, 1)) : W p l e R s m args below meth c s.heap [] 0 0 (MQ below (gqR (some (.long v))) args s 0 0 (fun _ => False)) (F0 m pc ls [.long v]) := W.lret F.1 F.2.1 hr (fun t ht _ => ⟨rfl, ht⟩) (fun _ h => nomatch h) hdg hlk
theorem g_retD {v : UInt64} (F : gF p m c cc nL s args own) (hr : meth.sig.returnType = some .double) (hlk : meth.locks = false) (hdg : decode cc pc = .ok (.dreturn, 1)) : W p l e R s m args below meth c s.heap [] 0 0 (MQ below (gqR (some (.double v))) args s 0 0 (fun _ => False)) (F0 m pc ls [.double v]) := W.dret F.1 F.2.1 hr (fun t ht _ => ⟨rfl, ht⟩) (fun _ h => nomatch h) hdg hlk
theorem g_mretI {v : Int32} {S0 : List va_W} (F : gF p m c cc nL s args own) (hr : meth.sig.returnType = some .int) (hlk : meth.locks = false) (hG : gS E (gAd S0) s.heap S H locs) (hdg : decode cc pc = .ok (.ireturn, 1)) : W p l e R s m args below meth c H locs 0 0 (MQ below (gqM E (some (.int v)) S0 S) args s 0 0 (gAd S0)) (F0 m pc ls [.int v]) := W.iret F.1 F.2.1 hr (fun t ht _ => ⟨⟨rfl, by rw [ht]; exact hG.1⟩, hG.2.2.F ht⟩) hG.2.2.2.2 hdg hlk
theorem g_mretZ {v : Int32} {S0 : List va_W} (F : gF p m c cc nL s args own) (hr : meth.sig.returnType = some .boolean) (hlk : meth.locks = false) (hG : gS E (gAd S0) s.heap S H locs) (hn : narrow .boolean (.int v) = .int v) (hdg : decode cc pc = .ok (.ireturn, 1)) : W p l e R s m args below meth c H locs 0 0 (MQ below (gqM E (some (.int v)) S0 S) args s 0 0 (gAd S0)) (F0 m pc ls [.int v]) := W.zret F.1 F.2.1 hr hn (fun t ht _ => ⟨⟨rfl, by rw [ht]; exact hG.1⟩, hG.2.2.F ht⟩) hG.2.2.2.2 hdg hlk
theorem g_mretL {v : Int64} {S0 : List va_W} (F : gF p m c cc nL s args own) (hr : meth.sig.returnType = some .long) (hlk : meth.locks = false) (hG : gS E (gAd S0) s.heap S H locs) (hdg : decode cc pc = .ok (.lreturn, 1)) : W p l e R s m args below meth c H locs 0 0 (MQ below (gqM E (some (.long v)) S0 S) args s 0 0 (gAd S0)) (F0 m pc ls [.long v]) := W.lret F.1 F.2.1 hr (fun t ht _ => ⟨⟨rfl, by rw [ht]; exact hG.1⟩, hG.2.2.F ht⟩) hG.2.2.2.2 hdg hlk
theorem g_mretD {v : UInt64} {S0 : List va_W} (F : gF p m c cc nL s args own) (hr : meth.sig.returnType = some .double) (hlk : meth.locks = false) (hG : gS E (gAd S0) s.heap S H locs) (hdg : decode cc pc = .ok (.dreturn, 1)) : W p l e R s m args below meth c H locs 0 0 (MQ below (gqM E (some (.double v)) S0 S) args s 0 0 (gAd S0)) (F0 m pc ls [.double v]) := W.dret F.1 F.2.1 hr (fun t ht _ => ⟨⟨rfl, by rw [ht]; exact hG.1⟩, hG.2.2.F ht⟩) hG.2.2.2.2 hdg hlk
theorem g_mretV {S0 : List va_W} (F : gF p m c cc nL s args own) (hr : meth.sig.returnType = none) (hlk : meth.locks = false) (hG : gS E (gAd S0) s.heap S H locs) (hdg : decode cc pc = .ok (.return_, 1)) : W p l e R s m args below meth c H locs 0 0 (MQ below (gqM E none S0 S) args s 0 0 (gAd S0)) (F0 m pc ls []) := W.vret F.1 F.2.1 hr (fun t ht _ => ⟨⟨rfl, by rw [ht]; exact hG.1⟩, hG.2.2.F ht⟩) hG.2.2.2.2 hdg hlk
end GROWS
