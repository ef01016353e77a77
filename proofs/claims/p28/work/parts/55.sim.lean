/-! ===== a use and the ageing, for the same words in another order ===== -/
theorem aheadAt_tr {ws : List Wd} {i j k : Nat} (h : aheadAt ws i j = true) (h' : aheadAt ws j k = true) : aheadAt ws i k = true := by
  unfold aheadAt at *
  cases hi : ws[i]? with
  | none => simp [hi] at h
  | some a =>
    cases hj : ws[j]? with
    | none => simp [hj] at h'
    | some b =>
      cases hk : ws[k]? with
      | none => simp [hj, hk] at h'
      | some c =>
        simp only [hi, hj, hk] at h h' ⊢
        exact ahead_tr h h'
theorem aheadAt_tot {ws : List Wd} (ho : okWs ws) {i j : Nat} (hi : i < ws.length) (hj : j < ws.length) (hne : i ≠ j) (h : aheadAt ws i j = false) : aheadAt ws j i = true := by
  obtain ⟨a, ha⟩ := get_of_lt hi
  obtain ⟨b, hb⟩ := get_of_lt hj
  cases h' : aheadAt ws j i with
  | true => rfl
  | false =>
    rw [aheadAt_e ha hb] at h
    rw [aheadAt_e hb ha] at h'
    exact absurd (ho.2.2 i j a b ha hb (ahead_tot h h')) hne
theorem lastN_none (ws : List Wd) : ∀ {n : Nat}, lastN ws n = none → ∀ j, j < n → addedAt ws j = false
  | 0, _, j, hj => absurd hj (Nat.not_lt_zero j)
  | n + 1, h, j, hj => by
    unfold lastN at h
    cases ha : addedAt ws n with
    | true =>
      rw [ha, if_pos rfl] at h
      split at h
      · cases h
      · split at h <;> cases h
    | false =>
      rw [ha, if_neg (by decide)] at h
      by_cases e : j = n
      · rw [e]; exact ha
      · exact lastN_none ws h j (by omega)
theorem lastN_is {ws : List Wd} (ho : okWs ws) : ∀ {n b : Nat}, n ≤ ws.length → lastN ws n = some b → b < n ∧ addedAt ws b = true ∧ ∀ j, j < n → j ≠ b → addedAt ws j = true → aheadAt ws j b = true
  | 0, _, _, h => by cases h
  | n + 1, b, hn, h => by
    unfold lastN at h
    cases ha : addedAt ws n with
    | true =>
      rw [ha, if_pos rfl] at h
      cases hc : lastN ws n with
      | none =>
        rw [hc] at h
        cases h
        refine ⟨by omega, ha, fun j hj hne hj2 => ?_⟩
        rw [lastN_none ws hc j (by omega)] at hj2
        cases hj2
      | some c =>
        rw [hc] at h
        dsimp only at h
        obtain ⟨i1, i2, i3⟩ := lastN_is ho (by omega) hc
        cases hx : aheadAt ws c n with
        | true =>
          rw [hx, if_pos rfl] at h
          cases h
          refine ⟨by omega, ha, fun j hj hne hj2 => ?_⟩
          by_cases e : j = c
          · rw [e]; exact hx
          · exact aheadAt_tr (i3 j (by omega) e hj2) hx
        | false =>
          rw [hx, if_neg (by decide)] at h
          cases h
          refine ⟨by omega, i2, fun j hj hne hj2 => ?_⟩
          by_cases e : j = n
          · rw [e]; exact aheadAt_tot ho (by omega) (by omega) (by omega) hx
          · exact i3 j (by omega) hne hj2
    | false =>
      rw [ha, if_neg (by decide)] at h
      obtain ⟨i1, i2, i3⟩ := lastN_is ho (by omega) h
      refine ⟨by omega, i2, fun j hj hne hj2 => ?_⟩
      by_cases e : j = n
      · rw [e, ha] at hj2; cases hj2
      · exact i3 j (by omega) hne hj2
theorem addedAt_e {ws : List Wd} {j : Nat} {q : Wd} (hj : ws[j]? = some q) : addedAt ws j = q.2.2.2 := by
  unfold addedAt
  rw [hj]
/-- the added word that comes last -/
def isLast (ws : List Wd) (q : Wd) : Prop := q ∈ ws ∧ q.2.2.2 = true ∧ ∀ a ∈ ws, a ≠ q → a.2.2.2 = true → ahead a q = true
theorem isLast.one {ws : List Wd} {q r : Wd} (h : isLast ws q) (h' : isLast ws r) : q = r := by
  by_cases e : q = r
  · exact e
  · have h1 := h'.2.2 q h.1 e h.2.1
    have h2 := h.2.2 r h'.1 (fun z => e z.symm) h'.2.1
    have := ahead_tr h1 h2
    rw [ahead_irr] at this
    cases this
theorem last_w {ws : List Wd} (ho : okWs ws) {b : Nat} (h : lastN ws ws.length = some b) : ∃ q, ws[b]? = some q ∧ isLast ws q := by
  obtain ⟨h1, h2, h3⟩ := lastN_is ho (Nat.le_refl _) h
  obtain ⟨q, hq⟩ := get_of_lt h1
  refine ⟨q, hq, List.mem_of_getElem? hq, by rw [← addedAt_e hq]; exact h2, fun a ha hne had => ?_⟩
  obtain ⟨j, hj⟩ := List.getElem?_of_mem ha
  have hjb : j ≠ b := fun e => by
    subst e
    rw [hq] at hj
    cases hj
    exact hne rfl
  have := h3 j (lt_of_get hj) hjb (by rw [addedAt_e hj]; exact had)
  rw [aheadAt_e hj hq] at this
  exact this
theorem erase_w {ws : List Wd} (ho : okWs ws) {b : Nat} {q : Wd} (hb : ws[b]? = some q) : ws.eraseIdx b = ws.filter (fun a => a.1 != q.1) := by
  have hlt := lt_of_get hb
  have e : ws = ws.take b ++ q :: ws.drop (b + 1) := by
    have h1 : ws.drop b = q :: ws.drop (b + 1) := by
      rw [List.drop_eq_getElem_cons hlt, (List.getElem?_eq_some_iff.mp hb).2]
    conv => lhs; rw [← List.take_append_drop b ws, h1]
  rw [List.eraseIdx_eq_take_drop_succ]
  conv => rhs; rw [e]
  rw [List.filter_append, List.filter_cons_of_neg (by simp)]
  rw [List.filter_eq_self.mpr (fun a ha => ?_), List.filter_eq_self.mpr (fun a ha => ?_)]
  · obtain ⟨i, hi⟩ := List.getElem?_of_mem ha
    rw [List.getElem?_drop] at hi
    refine bne_iff_ne.mpr (fun z => ?_)
    have := ho.2.2 (b + 1 + i) b a q hi hb z
    omega
  · obtain ⟨i, hi⟩ := List.getElem?_of_mem ha
    have hil := lt_of_get hi
    simp only [List.length_take] at hil
    rw [List.getElem?_take, if_pos (by omega)] at hi
    refine bne_iff_ne.mpr (fun z => ?_)
    have := ho.2.2 i b a q hi hb z
    omega
section USES
variable {ws vs : List Wd}
theorem isLast_p (h : ws.Perm vs) {q : Wd} (hq : isLast ws q) : isLast vs q := ⟨h.mem_iff.mp hq.1, hq.2.1, fun a ha => hq.2.2 a (h.mem_iff.mpr ha)⟩
theorem roomN_p (h : ws.Perm vs) (ho : okWs ws) (hv : okWs vs) : (roomN ws).Perm (roomN vs) := by
  unfold roomN
  by_cases e : ws.length < 50
  · rw [if_pos e, if_pos (by rw [← h.length_eq]; exact e)]
    exact h
  · rw [if_neg e, if_neg (by rw [← h.length_eq]; exact e)]
    cases h1 : lastN ws ws.length with
    | none =>
      cases h2 : lastN vs vs.length with
      | none => exact h
      | some c =>
        obtain ⟨q, -, k1, k2, -⟩ := last_w hv h2
        obtain ⟨j, hj⟩ := List.getElem?_of_mem (h.mem_iff.mpr k1)
        have := lastN_none ws h1 j (lt_of_get hj)
        rw [addedAt_e hj, k2] at this
        cases this
    | some b =>
      obtain ⟨q, hq, k1⟩ := last_w ho h1
      cases h2 : lastN vs vs.length with
      | none =>
        obtain ⟨j, hj⟩ := List.getElem?_of_mem (h.mem_iff.mp k1.1)
        have := lastN_none vs h2 j (lt_of_get hj)
        rw [addedAt_e hj, k1.2.1] at this
        cases this
      | some c =>
        obtain ⟨r, hr, k2⟩ := last_w hv h2
        have e2 := (isLast_p h k1).one k2
        subst e2
        dsimp only
        rw [erase_w ho hq, erase_w hv hr]
        exact h.filter _
theorem useN_map (ho : okWs ws) {l : List Nat} {k : Nat} (h : findN ws l = some k) (t : Int32) : useN ws l t = ws.map (fun q => if q.1 = l then (q.1, (if q.2.1 < 999 then q.2.1 + 1 else q.2.1), t, q.2.2.2) else q) := by
  obtain ⟨q, hq, e⟩ := findN_some h
  unfold useN
  rw [h]
  dsimp only
  rw [hq]
  dsimp only
  apply List.ext_getElem?
  intro i
  rw [List.getElem?_set, List.getElem?_map]
  by_cases hi : k = i
  · subst hi
    rw [if_pos rfl, if_pos (lt_of_get hq), hq]
    exact (congrArg some (if_pos e)).symm
  · rw [if_neg hi]
    cases hw : ws[i]? with
    | none => rfl
    | some a =>
      have : ¬ a.1 = l := fun z => hi (ho.2.2 k i q a hq hw (e.trans z.symm))
      exact (congrArg some (if_neg this)).symm
theorem useN_p (h : ws.Perm vs) (ho : okWs ws) (hv : okWs vs) (l : List Nat) (t : Int32) : (useN ws l t).Perm (useN vs l t) := by
  cases hf : findN ws l with
  | some k =>
    obtain ⟨q, hq, e⟩ := findN_some hf
    cases hg : findN vs l with
    | none => exact absurd e (findN_none hg q (h.mem_iff.mp (List.mem_of_getElem? hq)))
    | some j =>
      rw [useN_map ho hf, useN_map hv hg]
      exact h.map _
  | none =>
    cases hg : findN vs l with
    | some j =>
      obtain ⟨q, hq, e⟩ := findN_some hg
      exact absurd e (findN_none hf q (h.mem_iff.mpr (List.mem_of_getElem? hq)))
    | none =>
      have hr := roomN_p h ho hv
      unfold useN
      rw [hf, hg]
      dsimp only
      by_cases e : (roomN ws).length < 50
      · rw [if_pos e, if_pos (by rw [← hr.length_eq]; exact e)]
        exact hr.append_right _
      · rw [if_neg e, if_neg (by rw [← hr.length_eq]; exact e)]
        exact hr
theorem ageN_p (h : ws.Perm vs) (l : List Nat) : (ageN ws l).Perm (ageN vs l) := h.filterMap _
end USES
/-! ===== two states with the same words in another order, all else the same ===== -/
def Sim (s t : St) : Prop := (sWs s).Perm (sWs t) ∧ s.2 = t.2
theorem Sim.cases {P : St → St → Prop} {s t : St} (h : Sim s t) (k : ∀ (ws vs : List Wd) (r : List (List Nat) × Int32 × Nat × Bool × Bool × Int32 × List Nat × Nat × Option Nat), ws.Perm vs → P (ws, r) (vs, r)) : P s t := by
  obtain ⟨ws, r⟩ := s
  obtain ⟨vs, r'⟩ := t
  obtain ⟨h1, h2⟩ := h
  have h2 : r = r' := h2
  subst h2
  exact k ws vs r h1
section SIM
variable {s t : St}
theorem Sim.tx (h : Sim s t) : sTx s = sTx t := h.cases (P := fun s t => sTx s = sTx t) (fun _ _ _ _ => rfl)
theorem Sim.clk (h : Sim s t) : sClk s = sClk t := h.cases (P := fun s t => sClk s = sClk t) (fun _ _ _ _ => rfl)
theorem Sim.agn (h : Sim s t) : sAge s = sAge t := h.cases (P := fun s t => sAge s = sAge t) (fun _ _ _ _ => rfl)
theorem Sim.cmp (h : Sim s t) : sCmp s = sCmp t := h.cases (P := fun s t => sCmp s = sCmp t) (fun _ _ _ _ => rfl)
theorem Sim.tap (h : Sim s t) : sTap s = sTap t := h.cases (P := fun s t => sTap s = sTap t) (fun _ _ _ _ => rfl)
theorem Sim.pen (h : Sim s t) : sPen s = sPen t := h.cases (P := fun s t => sPen s = sPen t) (fun _ _ _ _ => rfl)
theorem Sim.pl (h : Sim s t) : sPl s = sPl t := h.cases (P := fun s t => sPl s = sPl t) (fun _ _ _ _ => rfl)
theorem Sim.cho (h : Sim s t) : sCho s = sCho t := h.cases (P := fun s t => sCho s = sCho t) (fun _ _ _ _ => rfl)
theorem Sim.opn (h : Sim s t) : sOpn s = sOpn t := h.cases (P := fun s t => sOpn s = sOpn t) (fun _ _ _ _ => rfl)
theorem Sim.n (h : Sim s t) : sN s = sN t := by
  unfold sN
  rw [h.pl, h.cmp, cand_w, cand_w, h.1.countP_eq]
theorem cand_at (ho : okSt s) {k : Nat} (hk : k < sN s) : ∃ i q, candAt (sWs s) (sCmp s) (sPl s) k = some i ∧ (sWs s)[i]? = some q ∧ fitsC (sCmp s) (sPl s) q = true ∧ beforeW (sWs s) (sCmp s) (sPl s) q = k := by
  obtain ⟨i, q, h1, h2, h3⟩ := cand_some (s := choS s k) (choS_ok ho (Or.inr hk)) (show 0 < sN s from Nat.lt_of_le_of_lt (Nat.zero_le k) hk)
  have h1 : candAt (sWs s) (sCmp s) (sPl s) k = some i := h1
  have h2 : (sWs s)[i]? = some q := h2
  refine ⟨i, q, h1, h2, h3, ?_⟩
  unfold candAt at h1
  have h4 := List.find?_some h1
  simp only [Bool.and_eq_true, beq_iff_eq] at h4
  rw [← before_w h2, h4.2]
theorem Sim.cand (h : Sim s t) (ho : okSt s) (ht : okSt t) {k : Nat} (hk : k < sN s) : ∃ i j q, candAt (sWs s) (sCmp s) (sPl s) k = some i ∧ candAt (sWs t) (sCmp t) (sPl t) k = some j ∧ (sWs s)[i]? = some q ∧ (sWs t)[j]? = some q := by
  obtain ⟨i, q, a1, a2, a3, a4⟩ := cand_at ho hk
  obtain ⟨j, r, b1, b2, b3, b4⟩ := cand_at ht (show k < sN t by rw [← h.n]; exact hk)
  rw [← h.cmp, ← h.pl] at b3 b4
  rw [← beforeW_p h.1] at b4
  have e : q = r := beforeW_one ho.1 (List.mem_of_getElem? a2) (h.1.mem_iff.mpr (List.mem_of_getElem? b2)) a3 b3 (a4.trans b4.symm)
  subst e
  exact ⟨i, j, q, a1, b1, a2, b2⟩
theorem cho_lt (ho : okSt s) (hn : 0 < sN s) : sCho s < sN s := by
  rcases ho.2.2.2.2.2.1 with h | h <;> omega
theorem Sim.sh (h : Sim s t) (ho : okSt s) (ht : okSt t) : shL s = shL t := by
  unfold shL
  by_cases e : sTap s = false ∧ 0 < sN s
  · rw [if_pos e, if_pos (show sTap t = false ∧ 0 < sN t by rw [← h.tap, ← h.n]; exact e)]
    obtain ⟨i, j, q, a1, b1, a2, b2⟩ := h.cand ho ht (cho_lt ho e.2)
    have b1 : candAt (sWs t) (sCmp t) (sPl t) (sCho t) = some j := by rw [← h.cho]; exact b1
    rw [a1, b1]
    dsimp only
    rw [a2, b2]
  · rw [if_neg e, if_neg (show ¬ (sTap t = false ∧ 0 < sN t) by rw [← h.tap, ← h.n]; exact e), h.pl]
theorem Sim.set (h : Sim s t) (v : Int32) : setI s v = setI t v := by
  unfold setI
  rw [h.1.length_eq, h.clk, h.agn, h.cmp, h.tap, h.pen, h.pl, h.n, h.cho, h.tx, h.opn]
theorem Sim.ways (h : Sim s t) (c : Bool) (a : Nat) : Sim (waysS s c a) (waysS t c a) := h.cases (P := fun s t => Sim (waysS s c a) (waysS t c a)) (fun _ _ _ h1 => ⟨h1, rfl⟩)
theorem Sim.turn (h : Sim s t) : Sim (turnN s) (turnN t) := h.cases (P := fun s t => Sim (turnN s) (turnN t)) (fun _ _ _ h1 => ⟨h1, rfl⟩)
theorem Sim.add (h : Sim s t) (k : Nat) : Sim (addN s k) (addN t k) := h.cases (P := fun s t => Sim (addN s k) (addN t k)) (fun _ _ _ h1 => ⟨h1, rfl⟩)
theorem Sim.pau (h : Sim s t) : Sim (pauS s) (pauS t) := h.cases (P := fun s t => Sim (pauS s) (pauS t)) (fun _ _ _ h1 => ⟨h1, rfl⟩)
theorem Sim.chs (h : Sim s t) (c : Nat) : Sim (choS s c) (choS t c) := h.cases (P := fun s t => Sim (choS s c) (choS t c)) (fun _ _ _ h1 => ⟨h1, rfl⟩)
theorem Sim.drop (h : Sim s t) : Sim (dropS s) (dropS t) := h.cases (P := fun s t => Sim (dropS s) (dropS t)) (fun _ _ _ h1 => ⟨h1, rfl⟩)
theorem Sim.opens (h : Sim s t) (k : Nat) (l : List Nat) : Sim (openS s k l) (openS t k l) := h.cases (P := fun s t => Sim (openS s k l) (openS t k l)) (fun _ _ _ h1 => ⟨h1, rfl⟩)
theorem Sim.mode (h : Sim s t) (ho : okSt s) (ht : okSt t) (b : Bool) : Sim (modeS s b) (modeS t b) := by
  have e := h.sh ho ht
  unfold modeS
  rw [e]
  generalize shL t = z
  exact h.cases (P := fun s t => Sim (sWs s, sTx s, sClk s, sAge s, sCmp s, b, -1, (if b then (cdL z).take (sPl s).length else sPl s), 0, sOpn s) (sWs t, sTx t, sClk t, sAge t, sCmp t, b, -1, (if b then (cdL z).take (sPl t).length else sPl t), 0, sOpn t)) (fun _ _ _ h1 => ⟨h1, rfl⟩)
theorem Sim.used (h : Sim s t) (ho : okSt s) (ht : okSt t) (l : List Nat) : (usedN s l).Perm (usedN t l) := by
  unfold usedN
  rw [h.clk, h.agn]
  have hu := useN_p h.1 ho.1 ht.1 l (sClk t + 1)
  by_cases e : (sClk t + 1) - (sClk t + 1) / nI (sAge t) * nI (sAge t) = 0
  · rw [if_pos e, if_pos e]
    exact ageN_p hu l
  · rw [if_neg e, if_neg e]
    exact hu
theorem Sim.take (h : Sim s t) (ho : okSt s) (ht : okSt t) (l : List Nat) : Sim (takeS s l) (takeS t l) := by
  have hu := h.used ho ht l
  unfold takeS
  refine ⟨hu, ?_⟩
  show ((match sOpn s with
    | some k => (sTx s).set k l
    | none => sTx s ++ [l]), sClk s + 1, sAge s, sCmp s, sTap s, -1, [], 0, none) = ((match sOpn t with
    | some k => (sTx t).set k l
    | none => sTx t ++ [l]), sClk t + 1, sAge t, sCmp t, sTap t, (-1 : Int32), ([] : List Nat), (0 : Nat), (none : Option Nat))
  rw [h.opn, h.tx, h.clk, h.agn, h.cmp, h.tap]
theorem Sim.nextc (h : Sim s t) : nextC s = nextC t := by
  unfold nextC
  rw [h.cho, h.n]
end SIM
