/-! THE LAYER OF THIS CLAIM: one list of words for all methods (gx_G), worlds as segments, contracts that name outcome and world outright -/
theorem gx_sub : ∀ w ∈ gx_G, w ∈ lw_tbl := fun w h => (List.mem_filter.mp h).1
theorem gx_ok {w : Cond} (h : w ∈ gx_G) : (w.onTables && w.keeps) = true ∨ ∃ ty, w = .arrayClass ty := good_of_word (List.mem_filter.mp h).2
theorem gx_gg : GoodIn gx_G gx_G := fun w h => ⟨h, gx_ok h⟩
theorem gx_cons {ws : List Cond} {w : Cond} (hw : w ∈ gx_G) (h : GoodIn gx_G ws) : GoodIn gx_G (w :: ws) := fun z hz => (List.mem_cons.mp hz).elim (fun e => by rw [e]; exact ⟨hw, gx_ok hw⟩) (h z)
abbrev gws (y : MethodName) (cc : ByteArray) (n : Nat) (r : Option FieldType) : List Cond := Cond.code y cc n r :: gx_G
theorem gx_gV {own C : String} {idx n : Nat} {y : MethodName} {cc : ByteArray} {r : Option FieldType} (h1 : Cond.methodLink own idx y ∈ gx_G) (h2 : Cond.instanceMethod y ∈ gx_G) (h3 : Cond.selects C y y ∈ gx_G) (h4 : Cond.initialized C ∈ gx_G) (h5 : Cond.code y cc n r ∈ gx_G) : GoodIn gx_G (wsV own idx C y (gws y cc n r)) :=
  gx_cons h1 (gx_cons h2 (gx_cons h3 (gx_cons h4 (gx_cons h5 gx_gg))))
theorem gx_gS {own : String} {idx n : Nat} {y : MethodName} {cc : ByteArray} {r : Option FieldType} (h1 : Cond.methodLink own idx y ∈ gx_G) (h2 : Cond.static y ∈ gx_G) (h4 : Cond.initialized y.cls ∈ gx_G) (h5 : Cond.code y cc n r ∈ gx_G) : GoodIn gx_G (va_wsS own idx y (gws y cc n r)) :=
  gx_cons h1 (gx_cons h2 (gx_cons h4 (gx_cons h5 gx_gg)))
/-- the classes' numbers and slots; the array classes (int, long, boolean, State); where the law began, where its script lies, its length and its ints; the two tables of Keys -/
abbrev gEnv : Type := va_G × (ClassId × ClassId × ClassId × ClassId) × ((Nat × Nat × Nat × (Nat → Int32)) × Nat × Nat)
def gTy (E : gEnv) : List (ClassId × FieldType) := [(E.2.1.1, .int), (E.2.1.2.1, .long), (E.2.1.2.2.1, .boolean), (E.2.1.2.2.2, .object "KeypadWriter$State")]
def gB (E : gEnv) : Nat → Prop := fun q => E.2.2.1.1 ≤ q
/-- what the tables say, and stays said while the machine only warms up -/
def gK (E : gEnv) (U : State) : Prop := va_K E.1 vwCl (gTy E) U ∧ (∀ w ∈ gx_nest, va_Nw w U) ∧ (∀ q ∈ gx_strs, ∃ a, vk_R RX8 q.1 q.2 a U) ∧ va_AO "KeypadWriter$State" U
theorem gK.moved {E : gEnv} {u U : State} (hv : U.vm = u.vm) (h : gK E u) : gK E U := by
  refine ⟨va_K.moved (by rw [hv]; exact Vm.Alike.refl u.vm) h.1, fun w hw => ?_, fun q hq => ?_, va_AO.moved (by rw [hv]; exact Vm.Alike.refl u.vm) h.2.2.2⟩
  · exact va_Nw.same (gx_nest_on w hw) hv.symm (h.2.1 w hw)
  · obtain ⟨a, ha⟩ := h.2.2.1 q hq
    exact ⟨a, vk_R.same hv ha⟩
theorem gK.warm {E : gEnv} {s U : State} (hW : s.WarmedH U.vm) (h : gK E s) : gK E U := by
  refine ⟨va_K.moved hW.alike h.1, fun w hw => gx_nest_warm w hw hW (h.2.1 w hw), fun q hq => ?_, va_AO.moved hW.alike h.2.2.2⟩
  obtain ⟨a, ha⟩ := h.2.2.1 q hq
  exact ⟨a, vk_R.warm hW ha⟩
def gkol : Nat → Int32 := fun j => nI ([2, 2, 2, 3, 3, 3, 4, 4, 4, 5, 5, 5, 6, 6, 6, 7, 7, 7, 7, 8, 8, 8, 9, 9, 9, 9].getD j 0)
def gflk : Nat → Int32 := fun j => nI ([0, 3, 6, 9, 12, 15, 19, 22].getD j 0)
/-- what the class's code reads of the statics, and the law's script -/
def gX (E : gEnv) (U : State) (H : Heap) : Prop :=
  (va_Z RX1 "KEY_OF_LETTER" "[I" (.ref E.2.2.2.1) (gB E) U H ∧ va_T .int E.2.2.2.1 26 (fun j => .int (gkol j)) (gB E) U H) ∧
  (va_Z RX1 "FIRST_LETTER_FROM_KEY_2" "[I" (.ref E.2.2.2.2) (gB E) U H ∧ va_T .int E.2.2.2.2 8 (fun j => .int (gflk j)) (gB E) U H) ∧
  va_T .int E.2.2.1.2.1 E.2.2.1.2.2.1 (fun j => .int (E.2.2.1.2.2.2 j)) (gB E) U H
theorem gX.moved {E : gEnv} {u U : State} {H : Heap} (hvm : u.vm.Alike U.vm) (h : gX E u H) : gX E U H :=
  ⟨⟨h.1.1.moved hvm, h.1.2.moved hvm⟩, ⟨h.2.1.1.moved hvm, h.2.1.2.moved hvm⟩, h.2.2.moved hvm⟩
theorem gX.kept {E : gEnv} {U : State} {H H1 : Heap} (h : gX E U H) (hq : ∀ a : Nat, a < H.size → ¬ gB E a → H1[a]? = H[a]?) : gX E U H1 :=
  ⟨⟨h.1.1.kept hq, h.1.2.kept hq⟩, ⟨h.2.1.1.kept hq, h.2.1.2.kept hq⟩, h.2.2.kept hq⟩
/-! ===== segments ===== -/
/-- the heap holds the segments -/
def gP (E : gEnv) (S : List va_W) (H : Heap) : Prop := ∀ sg ∈ S, va_P E.1 vwCl sg H
/-- a segment's addresses -/
def gas (sg : va_W) : List Nat := sg.map Prod.fst
/-- the addresses of all segments are apart and in A -/
def gN (A : Nat → Prop) (as : List (List Nat)) : Prop := as.flatten.Nodup ∧ ∀ q ∈ as.flatten, A q
def gAd (S : List va_W) : Nat → Prop := fun q => ∃ sg ∈ S, q ∈ gas sg
def gS (E : gEnv) (A : Nat → Prop) (H0 : Heap) (S : List va_W) (H : Heap) (locs : List Loc) : Prop := gP E S H ∧ gN A (S.map gas) ∧ va_S A H0 H locs
theorem gP.seg {E : gEnv} {S : List va_W} {H : Heap} (h : gP E S H) (k : Nat) {sg : va_W} (hk : S[k]? = some sg) : va_P E.1 vwCl sg H := h sg (List.mem_of_getElem? hk)
theorem gP.sub {E : gEnv} {S Sc : List va_W} {H : Heap} (h : gP E S H) (is : List Nat) (hs : is.filterMap (fun i => S[i]?) = Sc) : gP E Sc H := by
  subst hs
  intro sg hsg
  obtain ⟨i, -, hi⟩ := List.mem_filterMap.mp hsg
  exact h.seg i hi
theorem gAd_iff {S : List va_W} {q : Nat} : gAd S q ↔ q ∈ (S.map gas).flatten := by
  constructor
  · rintro ⟨sg, h1, h2⟩
    exact List.mem_flatten.mpr ⟨gas sg, List.mem_map.mpr ⟨sg, h1, rfl⟩, h2⟩
  · intro h
    obtain ⟨a, h1, h2⟩ := List.mem_flatten.mp h
    obtain ⟨sg, h3, rfl⟩ := List.mem_map.mp h1
    exact ⟨sg, h3, h2⟩
/-- a cell of a segment that is put in another's stead: same address -/
theorem gas_set {sg : va_W} {j a : Nat} {e0 e : va_E} (h : sg[j]? = some (a, e0)) : gas (sg.set j (a, e)) = gas sg := by
  apply List.ext_getElem?
  intro i
  simp only [gas, List.getElem?_map, List.getElem?_set]
  by_cases hij : j = i
  · subst hij
    have hl := (List.getElem?_eq_some_iff.mp h).1
    rw [if_pos rfl, if_pos hl, h]
    rfl
  · rw [if_neg hij]
theorem gmap_set {S : List va_W} {k : Nat} {sg sg' : va_W} (h : S[k]? = some sg) (hg : gas sg' = gas sg) : (S.set k sg').map gas = S.map gas := by
  apply List.ext_getElem?
  intro i
  simp only [List.getElem?_map, List.getElem?_set]
  by_cases hki : k = i
  · subst hki
    have hl := (List.getElem?_eq_some_iff.mp h).1
    rw [if_pos rfl, if_pos hl, h]
    exact congrArg some hg
  · rw [if_neg hki]
/-- two segments at two places have no address in common -/
theorem gN_apart {A : Nat → Prop} : ∀ {as : List (List Nat)}, gN A as → ∀ {k k' : Nat} {x y : List Nat}, as[k]? = some x → as[k']? = some y → k ≠ k' → ∀ q ∈ x, q ∉ y
  | [], _, k, _, _, _, h, _, _ => by simp at h
  | z :: as, h, k, k', x, y, hx, hy, hne => by
    have h1 : (z ++ as.flatten).Nodup := h.1
    obtain ⟨n1, n2, n3⟩ := List.nodup_append.mp h1
    have ht : gN A as := ⟨n2, fun q hq => h.2 q (by simp only [List.flatten_cons]; exact List.mem_append_right _ hq)⟩
    cases k with
    | zero =>
      cases k' with
      | zero => exact absurd rfl hne
      | succ k' =>
        simp only [List.getElem?_cons_zero, Option.some.injEq] at hx
        simp only [List.getElem?_cons_succ] at hy
        subst hx
        intro q hq hq2
        exact n3 q hq q (List.mem_flatten.mpr ⟨y, List.mem_of_getElem? hy, hq2⟩) rfl
    | succ k =>
      simp only [List.getElem?_cons_succ] at hx
      cases k' with
      | zero =>
        simp only [List.getElem?_cons_zero, Option.some.injEq] at hy
        subst hy
        intro q hq hq2
        exact n3 q hq2 q (List.mem_flatten.mpr ⟨x, List.mem_of_getElem? hx, hq⟩) rfl
      | succ k' =>
        simp only [List.getElem?_cons_succ] at hy
        exact gN_apart ht hx hy (fun e => hne (by rw [e]))
theorem gN_seg {A : Nat → Prop} : ∀ {as : List (List Nat)}, gN A as → ∀ {k : Nat} {x : List Nat}, as[k]? = some x → x.Nodup
  | [], _, k, _, h => by simp at h
  | z :: as, h, k, x, hx => by
    have h1 : (z ++ as.flatten).Nodup := h.1
    obtain ⟨n1, n2, n3⟩ := List.nodup_append.mp h1
    have ht : gN A as := ⟨n2, fun q hq => h.2 q (by simp only [List.flatten_cons]; exact List.mem_append_right _ hq)⟩
    cases k with
    | zero => simp only [List.getElem?_cons_zero, Option.some.injEq] at hx; rw [← hx]; exact n1
    | succ k => simp only [List.getElem?_cons_succ] at hx; exact gN_seg ht hx
/-- one segment's addresses, in the kit's words -/
theorem gN_D {A : Nat → Prop} {S : List va_W} (h : gN A (S.map gas)) {k : Nat} {sg : va_W} (hk : S[k]? = some sg) : va_D A sg := by
  have hk2 : (S.map gas)[k]? = some (gas sg) := by rw [List.getElem?_map, hk]; rfl
  have hn := gN_seg h hk2
  refine ⟨fun i j p q hi hj hpq => ?_, fun i q hq => h.2 _ (List.mem_flatten.mpr ⟨gas sg, List.mem_of_getElem? hk2, List.mem_map.mpr ⟨q, List.mem_of_getElem? hq, rfl⟩⟩)⟩
  have hi2 : (gas sg)[i]? = some p.1 := by rw [gas, List.getElem?_map, hi]; rfl
  have hj2 : (gas sg)[j]? = some p.1 := by rw [gas, List.getElem?_map, hj, hpq]; rfl
  have hil := (List.getElem?_eq_some_iff.mp hi2).1
  exact (List.getElem?_inj hil hn).mp (hi2.trans hj2.symm)
/-- a write into one cell: the world behind it -/
theorem gP.put {E : gEnv} {A : Nat → Prop} {S : List va_W} {H H1 : Heap} (hP : gP E S H) (hN : gN A (S.map gas)) {k j : Nat} {sg sg' : va_W} (hk : S[k]? = some sg) (h1 : va_P E.1 vwCl sg' H1) (hq : ∀ q : Nat, q < H.size → q ∉ gas sg → H1[q]? = H[q]?) : gP E (S.set k sg') H1 := by
  intro x hx
  obtain ⟨i, hi⟩ := List.getElem?_of_mem hx
  rw [List.getElem?_set] at hi
  by_cases hki : k = i
  · subst hki
    have hl := (List.getElem?_eq_some_iff.mp hk).1
    simp only [if_true, hl] at hi
    cases hi
    exact h1
  · rw [if_neg hki] at hi
    refine (hP.seg i hi).kept fun p q hp => hq q.1 ((hP.seg i hi) p q hp).lt ?_
    have hi2 : (S.map gas)[i]? = some (gas x) := by rw [List.getElem?_map, hi]; rfl
    have hk2 : (S.map gas)[k]? = some (gas sg) := by rw [List.getElem?_map, hk]; rfl
    exact gN_apart hN hi2 hk2 (fun e => hki e.symm) q.1 (List.mem_map.mpr ⟨q, List.mem_of_getElem? hp, rfl⟩)
/-- segments put in the places of others -/
def gset (S : List va_W) : List Nat → List va_W → List va_W
  | i :: is, sg :: sgs => gset (S.set i sg) is sgs
  | _, _ => S
theorem gset_map : ∀ (is : List Nat) (Sc Sc' S : List va_W), is.map (fun i => S[i]?) = Sc.map some → va_nd is = true → Sc'.map gas = Sc.map gas → (gset S is Sc').map gas = S.map gas
  | [], _, Sc', _, _, _, _ => by cases Sc' <;> rfl
  | i :: is, [], _, _, h, _, _ => by simp at h
  | i :: is, sg :: Sc, [], _, _, _, h => by simp at h
  | i :: is, sg :: Sc, sg' :: Sc', S, h, hn, hg => by
    simp only [List.map_cons, List.cons.injEq] at h hg
    simp only [va_nd, Bool.and_eq_true, decide_eq_true_eq] at hn
    have h2 : (S.set i sg').map gas = S.map gas := gmap_set h.1 hg.1
    show (gset (S.set i sg') is Sc').map gas = _
    rw [gset_map is Sc Sc' (S.set i sg') ?_ hn.2 hg.2, h2]
    rw [← h.2]
    apply List.map_congr_left
    intro x hx
    rw [List.getElem?_set_ne (fun e => hn.1 (by rw [e]; exact hx))]
theorem gset_mem : ∀ (is : List Nat) (Sc' S : List va_W) (x : va_W), x ∈ gset S is Sc' → x ∈ Sc' ∨ ∃ i, S[i]? = some x ∧ (i ∉ is ∨ Sc'.length < is.length)
  | [], Sc', S, x, h => by
    obtain ⟨i, hi⟩ := List.getElem?_of_mem (show x ∈ S by simpa [gset] using h)
    exact Or.inr ⟨i, hi, Or.inl (by simp)⟩
  | i :: is, [], S, x, h => by
    obtain ⟨j, hj⟩ := List.getElem?_of_mem (show x ∈ S by simpa [gset] using h)
    exact Or.inr ⟨j, hj, Or.inr (by simp)⟩
  | i :: is, sg :: sgs, S, x, h => by
    rcases gset_mem is sgs (S.set i sg) x h with h1 | ⟨j, hj, h2⟩
    · exact Or.inl (List.mem_cons_of_mem _ h1)
    · rw [List.getElem?_set] at hj
      by_cases hij : i = j
      · subst hij
        rw [if_pos rfl] at hj
        split at hj
        · cases hj; exact Or.inl List.mem_cons_self
        · cases hj
      · rw [if_neg hij] at hj
        refine Or.inr ⟨j, hj, ?_⟩
        rcases h2 with h2 | h2
        · exact Or.inl (by simp only [List.mem_cons, not_or]; exact ⟨fun e => hij e.symm, h2⟩)
        · exact Or.inr (by simpa using h2)
/-- behind a call: the callee's segments as it left them, the others as they were -/
theorem gP.call {E : gEnv} {A : Nat → Prop} {S Sc Sc' : List va_W} {H H1 : Heap} (hP : gP E S H) (hN : gN A (S.map gas)) (is : List Nat) (hs : is.map (fun i => S[i]?) = Sc.map some) (hg : Sc'.map gas = Sc.map gas) (h1 : gP E Sc' H1) (hq : ∀ q : Nat, q < H.size → ¬ gAd Sc q → H1[q]? = H[q]?) : gP E (gset S is Sc') H1 := by
  intro x hx
  have hlen : Sc'.length = is.length := by
    have e1 : Sc'.length = Sc.length := by rw [← List.length_map (f := gas) (as := Sc'), hg, List.length_map]
    have e2 := congrArg List.length hs
    simp only [List.length_map] at e2
    omega
  rcases gset_mem is Sc' S x hx with h | ⟨i, hi, h⟩
  · exact h1 x h
  · rcases h with h | h
    · refine (hP.seg i hi).kept fun p q hp => hq q.1 ((hP.seg i hi) p q hp).lt ?_
      rintro ⟨sg, hsg, hqs⟩
      obtain ⟨t, ht⟩ := List.getElem?_of_mem hsg
      have h3 : (is.map (fun i => S[i]?))[t]? = some (some sg) := by rw [hs, List.getElem?_map, ht]; rfl
      rw [List.getElem?_map] at h3
      cases hit : is[t]? with
      | none => rw [hit] at h3; cases h3
      | some k =>
        rw [hit] at h3
        have hk : S[k]? = some sg := by simpa using h3
        have hi2 : (S.map gas)[i]? = some (gas x) := by rw [List.getElem?_map, hi]; rfl
        have hk2 : (S.map gas)[k]? = some (gas sg) := by rw [List.getElem?_map, hk]; rfl
        exact gN_apart hN hi2 hk2 (fun e => h (by rw [e]; exact List.mem_of_getElem? hit)) q.1 (List.mem_map.mpr ⟨q, List.mem_of_getElem? hp, rfl⟩) hqs
    · omega
theorem gN.sub {A : Nat → Prop} {S Sc : List va_W} (hN : gN A (S.map gas)) (is : List Nat) (hs : is.map (fun i => S[i]?) = Sc.map some) (hn : va_nd is = true) : gN A (Sc.map gas) := by
  have key : ∀ (is : List Nat) (Sc : List va_W), is.map (fun i => S[i]?) = Sc.map some → va_nd is = true → gN A (Sc.map gas) ∧ ∀ q ∈ (Sc.map gas).flatten, ∃ i ∈ is, ∃ sg, S[i]? = some sg ∧ q ∈ gas sg := by
    intro is
    induction is with
    | nil =>
      intro Sc h _
      cases Sc with
      | nil => exact ⟨⟨by simp, by simp⟩, by simp⟩
      | cons a b => simp at h
    | cons i is ih =>
      intro Sc h hn
      cases Sc with
      | nil => simp at h
      | cons sg Sc =>
        simp only [List.map_cons, List.cons.injEq] at h
        simp only [va_nd, Bool.and_eq_true, decide_eq_true_eq] at hn
        obtain ⟨h1, h2⟩ := ih Sc h.2 hn.2
        have hk2 : (S.map gas)[i]? = some (gas sg) := by rw [List.getElem?_map, h.1]; rfl
        refine ⟨⟨?_, ?_⟩, ?_⟩
        · simp only [List.map_cons, List.flatten_cons]
          refine List.nodup_append.mpr ⟨gN_seg hN hk2, h1.1, ?_⟩
          intro a ha b hb hab
          obtain ⟨i', hi', sg', hs', hq'⟩ := h2 b hb
          have hk3 : (S.map gas)[i']? = some (gas sg') := by rw [List.getElem?_map, hs']; rfl
          exact gN_apart hN hk2 hk3 (fun e => hn.1 (by rw [e]; exact hi')) a ha (by rw [hab]; exact hq')
        · intro q hq
          simp only [List.map_cons, List.flatten_cons] at hq
          rcases List.mem_append.mp hq with hq | hq
          · exact hN.2 q (List.mem_flatten.mpr ⟨_, List.mem_of_getElem? hk2, hq⟩)
          · exact h1.2 q hq
        · intro q hq
          simp only [List.map_cons, List.flatten_cons] at hq
          rcases List.mem_append.mp hq with hq | hq
          · exact ⟨i, List.mem_cons_self, sg, h.1, hq⟩
          · obtain ⟨i', hi', x⟩ := h2 q hq
            exact ⟨i', List.mem_cons_of_mem _ hi', x⟩
  exact (key is Sc hs hn).1
