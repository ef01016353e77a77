/-! ===== switches, copies, calls that don't throw ===== -/
def cpy {α : Type} (f g : Nat → α) (n0 n1 : Nat) (sp dp n : Int32) : Option (Nat → α) := if sp < 0 ∨ dp < 0 ∨ n < 0 ∨ n0 < sp.toNatClampNeg + n.toNatClampNeg ∨ n1 < dp.toNatClampNeg + n.toNatClampNeg then none else some (va_cpy f g sp.toNatClampNeg dp.toNatClampNeg n.toNatClampNeg)
theorem cpy_in {α : Type} {f g r : Nat → α} {n0 n1 : Nat} {sp dp n : Int32} (h : cpy f g n0 n1 sp dp n = some r) : (¬ sp < 0 ∧ ¬ dp < 0 ∧ ¬ n < 0 ∧ sp.toNatClampNeg + n.toNatClampNeg ≤ n0 ∧ dp.toNatClampNeg + n.toNatClampNeg ≤ n1) ∧ va_cpy f g sp.toNatClampNeg dp.toNatClampNeg n.toNatClampNeg = r := by
  unfold cpy at h
  split at h
  · cases h
  · rename_i q
    refine ⟨⟨fun z => q (Or.inl z), fun z => q (Or.inr (Or.inl z)), fun z => q (Or.inr (Or.inr (Or.inl z))), ?_, ?_⟩, Option.some.inj h⟩
    · exact Nat.not_lt.mp fun z => q (Or.inr (Or.inr (Or.inr (Or.inl z))))
    · exact Nat.not_lt.mp fun z => q (Or.inr (Or.inr (Or.inr (Or.inr z))))
/-- the answer of a call that doesn't throw -/
def jr {α β : Type} (o : Option (α ⊕ β)) : Option β := match o with
  | some (.inr b) => some b
  | _ => none
theorem jr_in {α β : Type} {o : Option (α ⊕ β)} {b : β} (h : jr o = some b) : o = some (.inr b) := by
  unfold jr at h
  split at h
  · cases h; rfl
  · cases h
theorem jr_eq {α β : Type} {o : Option (α ⊕ β)} {b : β} (h : o = some (.inr b)) : jr o = some b := by
  rw [h]
  rfl
section GMORE
variable {p : Program} {l : Launch} {e : Env} {R : Room} {s : State} {m : MethodId} {args : Array Value} {below : List Frame} {meth : Method} {c : Code} {H : Heap} {locs : List Loc} {cells slots : Nat} {Q : State → Prop}
variable {cc : ByteArray} {nL pc : Nat} {ls : Array Slot} {rest : List Value} {own : String} {E : gEnv} {S : List va_W} {A : Nat → Prop} {H0 : Heap}
theorem g_tabIn {dflt lo hi : Int} {offs : Array Int} {len : Nat} {x kx : Int32} {off : Int} {tgt : Nat} (hk : x = kx) (hx : p.tables.exec = Jvm.exec) (hb : c.code = cc) (hdg : decode cc pc = .ok (.tableswitch dflt lo hi offs, len)) (h1 : ¬ kx.toInt < lo) (h2 : ¬ hi < kx.toInt) (ho : offs[(kx.toInt - lo).toNat]? = some off) (ht : (pc : Int) + off = (tgt : Int))
    (kk : W p l e R s m args below meth c H locs cells slots Q (F0 m tgt ls rest)) : W p l e R s m args below meth c H locs cells slots Q (F0 m pc ls (.int x :: rest)) := by
  subst hk
  exact lv_tableIn hx hb hdg h1 h2 ho ht kk
theorem g_tabOut {dflt lo hi : Int} {offs : Array Int} {len : Nat} {x kl kh : Int32} {tgt : Nat} (hk : x < kl ∨ kh < x) (hx : p.tables.exec = Jvm.exec) (hb : c.code = cc) (hdg : decode cc pc = .ok (.tableswitch dflt lo hi offs, len)) (h1 : kl.toInt = lo) (h2 : kh.toInt = hi) (ht : (pc : Int) + dflt = (tgt : Int))
    (kk : W p l e R s m args below meth c H locs cells slots Q (F0 m tgt ls rest)) : W p l e R s m args below meth c H locs cells slots Q (F0 m pc ls (.int x :: rest)) := by
  subst h1 h2
  exact lv_tableOut hx hb hdg (hk.elim (fun h => Or.inl (Int32.lt_iff_toInt_lt.mp h)) (fun h => Or.inr (Int32.lt_iff_toInt_lt.mp h))) ht kk
theorem g_copyl (F : gF p m c cc nL s args own) (hK : gK E s) (hG : gS E A H0 S H locs) (k0 j0 k1 j1 : Nat) {sg0 sg1 : va_W} {a0 a1 n0 n1 index : Nat} {f g r : Nat → Int64} {sp dp n : Int32} (hlink : (Cond.methodLink own index arraycopyName).before args s = true) (hk0 : S[k0]? = some sg0) (hj0 : sg0[j0]? = some (a0, .inl (E.2.1.2.1, n0, .inr (.inl f)))) (hk1 : S[k1]? = some sg1) (hj1 : sg1[j1]? = some (a1, .inl (E.2.1.2.1, n1, .inr (.inl g)))) (hr : cpy f g n0 n1 sp dp n = some r) (hml : c.maxLocals = ls.size) (hfr : 1 ≤ R.frames) (hlo : (rest.map fun v => v.category).sum + (nativeFrameWords "java/lang/System" "arraycopy" 5 + 11) ≤ R.locals) (hdg : decode cc pc = .ok (.invokestatic index, 3))
    (kk : ∀ (H1 : Heap) (locs1 : List Loc), gS E A H0 (S.set k1 (sg1.set j1 (a1, .inl (E.2.1.2.1, n1, .inr (.inl r))))) H1 locs1 → W p l e R s m args below meth c H1 locs1 cells slots Q (F0 m (pc + 3) ls rest)) : W p l e R s m args below meth c H locs cells slots Q (F0 m pc ls (.int n :: .int dp :: .ref a1 :: .int sp :: .ref a0 :: rest)) := by
  obtain ⟨⟨h1, h2, h3, h4, h5⟩, h6⟩ := cpy_in hr
  subst h6
  exact va_copyl F.1 F.2.1 hml F.2.2.2.1 hlink (F.2.2.2.2 _ gw_native_arraycopy) (F.2.2.2.2 _ gw_static_arraycopy) (F.2.2.2.2 _ gw_init_System) hK.1 (gP_flat.mp hG.1) (gN_flat hG.2.1) hG.2.2 (goff S k0 j0) (goff S k1 j1) 1 1 (gflat hk0 hj0).1 (gflat hk1 hj1).1 rfl rfl rfl h1 h2 h3 h4 h5 (fun _ _ => rfl) hfr hlo hdg (fun H1 locs1 q1 _ q3 => kk H1 locs1 (hG.wr hk1 hj1 q1 q3))
theorem g_copyi (F : gF p m c cc nL s args own) (hK : gK E s) (hG : gS E A H0 S H locs) (k0 j0 k1 j1 : Nat) {sg0 sg1 : va_W} {a0 a1 n0 n1 index : Nat} {f g r : Nat → Int32} {sp dp n : Int32} (hlink : (Cond.methodLink own index arraycopyName).before args s = true) (hk0 : S[k0]? = some sg0) (hj0 : sg0[j0]? = some (a0, .inl (E.2.1.1, n0, .inl f))) (hk1 : S[k1]? = some sg1) (hj1 : sg1[j1]? = some (a1, .inl (E.2.1.1, n1, .inl g))) (hr : cpy f g n0 n1 sp dp n = some r) (hml : c.maxLocals = ls.size) (hfr : 1 ≤ R.frames) (hlo : (rest.map fun v => v.category).sum + (nativeFrameWords "java/lang/System" "arraycopy" 5 + 11) ≤ R.locals) (hdg : decode cc pc = .ok (.invokestatic index, 3))
    (kk : ∀ (H1 : Heap) (locs1 : List Loc), gS E A H0 (S.set k1 (sg1.set j1 (a1, .inl (E.2.1.1, n1, .inl r)))) H1 locs1 → W p l e R s m args below meth c H1 locs1 cells slots Q (F0 m (pc + 3) ls rest)) : W p l e R s m args below meth c H locs cells slots Q (F0 m pc ls (.int n :: .int dp :: .ref a1 :: .int sp :: .ref a0 :: rest)) := by
  obtain ⟨⟨h1, h2, h3, h4, h5⟩, h6⟩ := cpy_in hr
  subst h6
  exact va_copyi F.1 F.2.1 hml F.2.2.2.1 hlink (F.2.2.2.2 _ gw_native_arraycopy) (F.2.2.2.2 _ gw_static_arraycopy) (F.2.2.2.2 _ gw_init_System) hK.1 (gP_flat.mp hG.1) (gN_flat hG.2.1) hG.2.2 (goff S k0 j0) (goff S k1 j1) 0 0 (gflat hk0 hj0).1 (gflat hk1 hj1).1 rfl rfl rfl h1 h2 h3 h4 h5 (fun _ _ => rfl) hfr hlo hdg (fun H1 locs1 q1 _ q3 => kk H1 locs1 (hG.wr hk1 hj1 q1 q3))
end GMORE
