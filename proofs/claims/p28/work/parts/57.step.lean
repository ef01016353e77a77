/-! ===== one step of the law's ===== -/
/-- a number below n, out of any int -/
def upN (v : Int32) (n : Nat) : Nat := (v.toBitVec.toNat &&& 2147483647) % n
theorem up_pos (v : Int32) : (v &&& 2147483647).toInt = ((v.toBitVec.toNat &&& 2147483647 : Nat) : Int) := by
  have e : (v &&& 2147483647).toBitVec = v.toBitVec &&& 2147483647#32 := rfl
  have h2 : (2147483647#32).toNat = 2147483647 := rfl
  have hle : v.toBitVec.toNat &&& 2147483647 ≤ 2147483647 := Nat.and_le_right
  show (v &&& 2147483647).toBitVec.toInt = _
  rw [e, BitVec.toInt_eq_toNat_of_lt (by rw [BitVec.toNat_and, h2]; omega), BitVec.toNat_and, h2]
theorem upN_lt (v : Int32) {n : Nat} (h : 0 < n) : upN v n < n := Nat.mod_lt _ h
theorem up_nI (v : Int32) {n : Nat} (h0 : 0 < n) (hn : n < 2 ^ 31) : f_L_up v (nI n) = some (nI (upN v n)) := by
  have hlt := upN_lt v h0
  have hnz : nz (nI n) = some () := by unfold nz; rw [if_neg (nI_ne0 h0 hn)]
  unfold f_L_up
  rw [hnz, Option.bind_some]
  refine congrArg some (Int32.toInt_inj.mp ?_)
  rw [rem_toInt, up_pos, nI_toInt hn, nI_toInt (by omega)]
  rw [Int.tmod_eq_emod_of_nonneg (Int.natCast_nonneg _)]
  unfold upN
  omega
theorem set_0 (s : St) : setI s 0 = nI (sWs s).length := by unfold setI; rw [if_pos rfl]
theorem set_5 (s : St) : setI s 5 = sPen s := by unfold setI; rw [if_neg (by decide), if_neg (by decide), if_neg (by decide), if_neg (by decide), if_neg (by decide), if_pos rfl]
theorem set_6 (s : St) : setI s 6 = nI (sPl s).length := by unfold setI; rw [if_neg (by decide), if_neg (by decide), if_neg (by decide), if_neg (by decide), if_neg (by decide), if_neg (by decide), if_pos rfl]
theorem set_7 (s : St) : setI s 7 = nI (sN s) := by unfold setI; rw [if_neg (by decide), if_neg (by decide), if_neg (by decide), if_neg (by decide), if_neg (by decide), if_neg (by decide), if_neg (by decide), if_pos rfl]
theorem set_9 (s : St) : setI s 9 = nI (sTx s).length := by unfold setI; rw [if_neg (by decide), if_neg (by decide), if_neg (by decide), if_neg (by decide), if_neg (by decide), if_neg (by decide), if_neg (by decide), if_neg (by decide), if_neg (by decide), if_pos rfl]
theorem set_10 (s : St) : setI s 10 = idxI (sOpn s) := by unfold setI; rw [if_neg (by decide), if_neg (by decide), if_neg (by decide), if_neg (by decide), if_neg (by decide), if_neg (by decide), if_neg (by decide), if_neg (by decide), if_neg (by decide), if_neg (by decide)]
section PAIRS
variable {g h : Sg} {x y : T8}
theorem Al.c (hA : Al g x) (c : T0) : Al g (x.1, x.2.1, x.2.2.1, x.2.2.2.1, c) := hA
theorem p_accept (hA : Al g x) (hB : Al h y) (hS : Sim g.1 h.1) (hn : ¬ ((sPl g.1).length = 0 ∨ (sOpn g.1 = none ∧ 30 ≤ (sTx g.1).length))) : ∃ v r t g' h', jr (f_X8_accept x) = some (v, r) ∧ jr (f_X8_accept y) = some (v, t) ∧ Al g' (x.1, x.2.1, (r.2.1, r.2.2.1, r.1), r.2.2.2.1, r.2.2.2.2) ∧ Al h' (y.1, y.2.1, (t.2.1, t.2.2.1, t.1), t.2.2.2.1, t.2.2.2.2) ∧ Sim g'.1 h'.1 := by
  obtain ⟨r, r1, r2⟩ := q_accept hA hn
  obtain ⟨t, t1, t2⟩ := q_accept hB (by rw [← hS.pl, ← hS.opn, ← hS.tx]; exact hn)
  have hT := hS.take hA.1.1 hB.1.1 (shL g.1)
  rw [hS.sh hA.1.1 hB.1.1] at hT r1 r2
  rw [hT.tx] at r1
  exact ⟨_, r, t, _, _, r1, t1, r2, t2, hT⟩
theorem p_erase (hA : Al g x) (hB : Al h y) (hS : Sim g.1 h.1) (hn : ¬ (sPl g.1).length = 0) : ∃ v r t g' h', jr (f_X8_erase x) = some (v, r) ∧ jr (f_X8_erase y) = some (v, t) ∧ Al g' (x.1, x.2.1, (x.2.2.1.1, r.2.1, r.1), r.2.2, x.2.2.2.2) ∧ Al h' (y.1, y.2.1, (y.2.2.1.1, t.2.1, t.1), t.2.2, y.2.2.2.2) ∧ Sim g'.1 h'.1 := by
  obtain ⟨r, r1, r2⟩ := q_erase hA hn
  obtain ⟨t, t1, t2⟩ := q_erase hB (by rw [← hS.pl]; exact hn)
  rw [hS.pl] at r1
  exact ⟨_, r, t, _, _, r1, t1, r2, t2, hS.drop⟩
theorem p_open (hA : Al g x) (hB : Al h y) (hS : Sim g.1 h.1) {k : Nat} (hk : k < (sTx g.1).length) (hn : (sPl g.1).length = 0 ∧ sOpn g.1 = none) : ∃ v r t g' h', jr (f_X8_open x (nI k)) = some (v, r) ∧ jr (f_X8_open y (nI k)) = some (v, t) ∧ Al g' (x.1, x.2.1, (x.2.2.1.1, x.2.2.1.2.1, r.1), r.2, x.2.2.2.2) ∧ Al h' (y.1, y.2.1, (y.2.2.1.1, y.2.2.1.2.1, t.1), t.2, y.2.2.2.2) ∧ Sim g'.1 h'.1 := by
  obtain ⟨l, hl⟩ := get_of_lt hk
  obtain ⟨r, r1, r2⟩ := q_open hA hl hn
  obtain ⟨t, t1, t2⟩ := q_open hB (k := k) (l := l) (by rw [← hS.tx]; exact hl) (by rw [← hS.pl, ← hS.opn]; exact hn)
  exact ⟨_, r, t, _, _, r1, t1, r2, t2, hS.opens k l⟩
theorem p_mode (hA : Al g x) (hB : Al h y) (hS : Sim g.1 h.1) (b : Bool) : ∃ v r t g' h', f_X8_mode x (b01 b) = some (v, r) ∧ f_X8_mode y (b01 b) = some (v, t) ∧ Al g' (x.1, x.2.1, (x.2.2.1.1, x.2.2.1.2.1, r.1), r.2.1, r.2.2) ∧ Al h' (y.1, y.2.1, (y.2.2.1.1, y.2.2.1.2.1, t.1), t.2.1, t.2.2) ∧ Sim g'.1 h'.1 := by
  obtain ⟨r, r1, r2⟩ := q_mode hA b
  obtain ⟨t, t1, t2⟩ := q_mode hB b
  rw [hS.pl] at r1
  exact ⟨_, r, t, _, _, r1, t1, r2, t2, hS.mode hA.1.1 hB.1.1 b⟩
theorem p_next (hA : Al g x) (hB : Al h y) (hS : Sim g.1 h.1) (hn : ¬ sN g.1 = 0) : ∃ v r t g' h', jr (f_X8_next x) = some (v, r) ∧ jr (f_X8_next y) = some (v, t) ∧ Al g' (x.1, x.2.1, (x.2.2.1.1, x.2.2.1.2.1, r.1), r.2.1, r.2.2) ∧ Al h' (y.1, y.2.1, (y.2.2.1.1, y.2.2.1.2.1, t.1), t.2.1, t.2.2) ∧ Sim g'.1 h'.1 := by
  obtain ⟨r, r1, r2⟩ := q_next hA hn
  obtain ⟨t, t1, t2⟩ := q_next hB (by rw [← hS.n]; exact hn)
  rw [hS.nextc] at r1 r2
  exact ⟨_, r, t, _, _, r1, t1, r2, t2, hS.chs _⟩
theorem p_pause (hA : Al g x) (hB : Al h y) (hS : Sim g.1 h.1) : ∃ v r t g' h', f_X8_pause x = some (v, r) ∧ f_X8_pause y = some (v, t) ∧ Al g' (x.1, x.2.1, (x.2.2.1.1, x.2.2.1.2.1, r.1), r.2, x.2.2.2.2) ∧ Al h' (y.1, y.2.1, (y.2.2.1.1, y.2.2.1.2.1, t.1), t.2, y.2.2.2.2) ∧ Sim g'.1 h'.1 := by
  obtain ⟨r, r1, r2⟩ := q_pause hA
  obtain ⟨t, t1, t2⟩ := q_pause hB
  rw [hS.pen] at r1
  exact ⟨_, r, t, _, _, r1, t1, r2, t2, hS.pau⟩
theorem p_ways (hA : Al g x) (hB : Al h y) (hS : Sim g.1 h.1) (c : Bool) {a : Nat} (ha : 1 ≤ a ∧ a ≤ 50) : ∃ v r t g' h', jr (f_X8_setWays x (b01 c) (nI a)) = some (v, r) ∧ jr (f_X8_setWays y (b01 c) (nI a)) = some (v, t) ∧ Al g' (x.1, x.2.1, (x.2.2.1.1, x.2.2.1.2.1, r.1), r.2, x.2.2.2.2) ∧ Al h' (y.1, y.2.1, (y.2.2.1.1, y.2.2.1.2.1, t.1), t.2, y.2.2.2.2) ∧ Sim g'.1 h'.1 := by
  obtain ⟨r, r1, r2⟩ := q_ways hA c ha
  obtain ⟨t, t1, t2⟩ := q_ways hB c ha
  rw [hS.agn] at r1
  exact ⟨_, r, t, _, _, r1, t1, r2, t2, hS.ways c a⟩
theorem press_sim (hS : Sim g.1 h.1) (a : Int32) (h0 : (anPress g a).1 = 0) : (anPress g a).2.1 = (anPress h a).2.1 ∧ Sim (anPress g a).2.2.1 (anPress h a).2.2.1 := by
  unfold anPress at h0 ⊢
  rw [← hS.pen, ← hS.pl]
  by_cases e : a < 2 ∨ 9 < a
  · rw [if_pos e] at h0
    exact absurd h0 (show ¬ (1 : Int32) = 0 from by decide)
  · rw [if_neg e] at h0 ⊢
    rw [if_neg e]
    by_cases e1 : sPen g.1 = a
    · rw [if_pos e1, if_pos e1]
      exact ⟨rfl, hS.turn⟩
    · rw [if_neg e1] at h0 ⊢
      rw [if_neg e1]
      by_cases e2 : (sPl g.1).length < 10
      · rw [if_pos e2, if_pos e2]
        exact ⟨rfl, hS.add _⟩
      · rw [if_neg e2] at h0
        exact absurd h0 (show ¬ (2 : Int32) = 0 from by decide)
theorem press_0 {k : Nat} (hk : 2 ≤ k ∧ k ≤ 9) (hm : (sPl g.1).length < 10 ∨ sPen g.1 = nI k) : (anPress g (nI k)).1 = 0 := by
  unfold anPress
  have hn : ¬ (nI k < 2 ∨ 9 < nI k) := fun z => z.elim (nI_nlt (a := k) (b := 2) (by omega) (by omega)) (nI_nlt (a := 9) (b := k) (by omega) (by omega))
  rw [if_neg hn]
  by_cases e : sPen g.1 = nI k
  · rw [if_pos e]
  · rw [if_neg e, if_pos (hm.resolve_right e)]
theorem p_press (hA : Al g x) (hB : Al h y) (hS : Sim g.1 h.1) {k : Nat} (hk : 2 ≤ k ∧ k ≤ 9) (hm : (sPl g.1).length < 10 ∨ sPen g.1 = nI k) : ∃ v r t g' h', jr (f_X8_press x (nI k)) = some (v, r) ∧ jr (f_X8_press y (nI k)) = some (v, t) ∧ Al g' (x.1, x.2.1, (x.2.2.1.1, x.2.2.1.2.1, r.1), r.2, x.2.2.2.2) ∧ Al h' (y.1, y.2.1, (y.2.2.1.1, y.2.2.1.2.1, t.1), t.2, y.2.2.2.2) ∧ Sim g'.1 h'.1 := by
  obtain ⟨r, r1, r2⟩ := q_press hA hk hm
  obtain ⟨t, t1, t2⟩ := q_press hB hk (by rw [← hS.pl, ← hS.pen]; exact hm)
  obtain ⟨e1, e2⟩ := press_sim hS (nI k) (press_0 hk hm)
  rw [e1] at r1
  exact ⟨_, r, t, _, _, r1, t1, r2, t2, e2⟩
end PAIRS
/-- a step's answer is 1, and the two writers are alike behind it -/
def StepOk (w0 w1 : T8) (z : Option (Int32 × T5s × T6 × T7 × T3 × T0 × T5s × T6 × T7 × T3 × T0)) : Prop := ∃ r, z = some r ∧ r.1 = 1 ∧ ∃ g h, Al g (w0.1, w0.2.1, (r.2.2.1, r.2.2.2.1, r.2.1), r.2.2.2.2.1, r.2.2.2.2.2.1) ∧ Al h (w1.1, w1.2.1, (r.2.2.2.2.2.2.2.1, r.2.2.2.2.2.2.2.2.1, r.2.2.2.2.2.2.1), r.2.2.2.2.2.2.2.2.2.1, r.2.2.2.2.2.2.2.2.2.2) ∧ Sim g.1 h.1
theorem stepOk_mk {w0 w1 : T8} {g h : Sg} {a5 b5 : T5s} {a6 b6 : T6} {a7 b7 : T7} {a3 b3 : T3} {a0 b0 : T0} (hA : Al g (w0.1, w0.2.1, (a6, a7, a5), a3, a0)) (hB : Al h (w1.1, w1.2.1, (b6, b7, b5), b3, b0)) (hS : Sim g.1 h.1) : StepOk w0 w1 (some (1, a5, a6, a7, a3, a0, b5, b6, b7, b3, b0)) := ⟨_, rfl, rfl, g, h, hA, hB, hS⟩
theorem bit_b (a : Int32) : (if a = 1 then some (1 : Int32) else some 0) = some (b01 (decide (a = 1))) := by
  by_cases e : a = 1
  · rw [if_pos e, decide_eq_true e]; rfl
  · rw [if_neg e, decide_eq_false e]; rfl
section STEP
variable {g h : Sg} {w0 w1 : T8}
theorem st_accept (hA : Al g w0) (hB : Al h w1) (hS : Sim g.1 h.1) (a2 : Int32) : StepOk w0 w1 (Option.bind (α := Int32 × T0) (jr (f_X8_setting w0 6)) (fun x13 => (if x13.1 = 0 then (some (1, w0.2.2.1.2.2, w0.2.2.1.1, w0.2.2.1.2.1, w0.2.2.2.1, x13.2, w1.2.2.1.2.2, w1.2.2.1.1, w1.2.2.1.2.1, w1.2.2.2.1, w1.2.2.2.2)) else Option.bind (α := Int32 × T0) (jr (f_X8_setting (w0.1, w0.2.1, w0.2.2.1, w0.2.2.2.1, x13.2) 10)) (fun x15 => (if 0 ≤ x15.1 then Option.bind (α := Int32 × T5s × T6 × T7 × T3 × T0) (jr (f_X8_accept (w0.1, w0.2.1, w0.2.2.1, w0.2.2.2.1, x15.2))) (fun x17 => Option.bind (α := Int32 × T5s × T6 × T7 × T3 × T0) (jr (f_X8_accept w1)) (fun x18 => (if x17.1 = x18.1 then (some (1, x17.2.1, x17.2.2.1, x17.2.2.2.1, x17.2.2.2.2.1, x17.2.2.2.2.2, x18.2.1, x18.2.2.1, x18.2.2.2.1, x18.2.2.2.2.1, x18.2.2.2.2.2)) else (some (0, x17.2.1, x17.2.2.1, x17.2.2.2.1, x17.2.2.2.2.1, x17.2.2.2.2.2, x18.2.1, x18.2.2.1, x18.2.2.2.1, x18.2.2.2.2.1, x18.2.2.2.2.2))))) else Option.bind (α := Int32 × T0) (jr (f_X8_setting (w0.1, w0.2.1, w0.2.2.1, w0.2.2.2.1, x15.2) 9)) (fun x20 => (if x20.1 = 30 then (some (1, w0.2.2.1.2.2, w0.2.2.1.1, w0.2.2.1.2.1, w0.2.2.2.1, x20.2, w1.2.2.1.2.2, w1.2.2.1.1, w1.2.2.1.2.1, w1.2.2.2.1, w1.2.2.2.2)) else Option.bind (α := Int32 × T5s × T6 × T7 × T3 × T0) (jr (f_X8_accept (w0.1, w0.2.1, w0.2.2.1, w0.2.2.2.1, x20.2))) (fun x22 => Option.bind (α := Int32 × T5s × T6 × T7 × T3 × T0) (jr (f_X8_accept w1)) (fun x23 => (if x22.1 = x23.1 then (some (1, x22.2.1, x22.2.2.1, x22.2.2.2.1, x22.2.2.2.2.1, x22.2.2.2.2.2, x23.2.1, x23.2.2.1, x23.2.2.2.1, x23.2.2.2.2.1, x23.2.2.2.2.2)) else (some (0, x22.2.1, x22.2.2.1, x22.2.2.2.1, x22.2.2.2.2.1, x22.2.2.2.2.2, x23.2.1, x23.2.2.1, x23.2.2.2.1, x23.2.2.2.2.1, x23.2.2.2.2.2)))))))))))) := by
  have htl := hA.1.1.2.1.1
  have hpl := hA.1.1.2.2.2.1.1
  have ho7 := hA.1.1.2.2.2.2.2.2
  obtain ⟨c1, h1⟩ := q_set hA (v := 6) (by decide) (by decide)
  rw [h1, Option.bind_some, set_6]
  dsimp only
  by_cases e : (sPl g.1).length = 0
  · rw [if_pos (by rw [e, nI_0])]
    exact stepOk_mk hA hB hS
  · rw [if_neg (nI_ne0 (by omega) (by omega))]
    obtain ⟨c2, h2⟩ := q_set (hA.c c1) (v := 10) (by decide) (by decide)
    rw [h2, Option.bind_some, set_10]
    dsimp only
    cases ho : sOpn g.1 with
    | some k =>
      have hk := ho7 k ho
      rw [if_pos (show 0 ≤ idxI (some k) from nI_pos' (by omega))]
      obtain ⟨v, r, t, g', h', k1, k2, k3, k4, k5⟩ := p_accept (hA.c c2) hB hS (by rw [ho]; rintro (z | z); exact e z; cases z.1)
      rw [k1, Option.bind_some, k2, Option.bind_some]
      dsimp only
      rw [if_pos rfl]
      exact stepOk_mk k3 k4 k5
    | none =>
      rw [if_neg (show ¬ 0 ≤ idxI none from by decide)]
      obtain ⟨c3, h3⟩ := q_set (hA.c c2) (v := 9) (by decide) (by decide)
      have h3 : jr (f_X8_setting (w0.1, w0.2.1, w0.2.2.1, w0.2.2.2.1, c2) 9) = some (setI g.1 9, c3) := h3
      rw [h3, Option.bind_some, set_9]
      dsimp only
      by_cases e9 : (sTx g.1).length = 30
      · rw [if_pos (by rw [e9]; rfl)]
        exact stepOk_mk hA hB hS
      · rw [if_neg (show ¬ nI (sTx g.1).length = (30 : Int32) from fun z => e9 ((nI_eq (a := (sTx g.1).length) (b := 30) (by omega) (by omega)).mp z))]
        obtain ⟨v, r, t, g', h', k1, k2, k3, k4, k5⟩ := p_accept (hA.c c3) hB hS (by rintro (z | z); exact e z; omega)
        rw [k1, Option.bind_some, k2, Option.bind_some]
        dsimp only
        rw [if_pos rfl]
        exact stepOk_mk k3 k4 k5
theorem st_erase (hA : Al g w0) (hB : Al h w1) (hS : Sim g.1 h.1) (a2 : Int32) : StepOk w0 w1 (Option.bind (α := Int32 × T0) (jr (f_X8_setting w0 6)) (fun x39 => (if x39.1 = 0 then (some (1, w0.2.2.1.2.2, w0.2.2.1.1, w0.2.2.1.2.1, w0.2.2.2.1, x39.2, w1.2.2.1.2.2, w1.2.2.1.1, w1.2.2.1.2.1, w1.2.2.2.1, w1.2.2.2.2)) else Option.bind (α := Int32 × T5s × T7 × T3) (jr (f_X8_erase (w0.1, w0.2.1, w0.2.2.1, w0.2.2.2.1, x39.2))) (fun x41 => Option.bind (α := Int32 × T5s × T7 × T3) (jr (f_X8_erase w1)) (fun x42 => (if x41.1 = x42.1 then (some (1, x41.2.1, w0.2.2.1.1, x41.2.2.1, x41.2.2.2, x39.2, x42.2.1, w1.2.2.1.1, x42.2.2.1, x42.2.2.2, w1.2.2.2.2)) else (some (0, x41.2.1, w0.2.2.1.1, x41.2.2.1, x41.2.2.2, x39.2, x42.2.1, w1.2.2.1.1, x42.2.2.1, x42.2.2.2, w1.2.2.2.2)))))))) := by
  have hpl := hA.1.1.2.2.2.1.1
  obtain ⟨c1, h1⟩ := q_set hA (v := 6) (by decide) (by decide)
  rw [h1, Option.bind_some, set_6]
  dsimp only
  by_cases e : (sPl g.1).length = 0
  · rw [if_pos (by rw [e, nI_0])]
    exact stepOk_mk hA hB hS
  · rw [if_neg (nI_ne0 (by omega) (by omega))]
    obtain ⟨v, r, t, g', h', k1, k2, k3, k4, k5⟩ := p_erase (hA.c c1) hB hS e
    rw [k1, Option.bind_some, k2, Option.bind_some]
    dsimp only
    rw [if_pos rfl]
    exact stepOk_mk k3 k4 k5
theorem st_open (hA : Al g w0) (hB : Al h w1) (hS : Sim g.1 h.1) (a2 : Int32) : StepOk w0 w1 (Option.bind (α := Int32 × T0) (jr (f_X8_setting w0 9)) (fun x45 => Option.bind (α := Int32 × T0) ((if x45.1 ≤ 0 then some (0, x45.2) else Option.bind (α := Int32 × T0) (jr (f_X8_setting (w0.1, w0.2.1, w0.2.2.1, w0.2.2.2.1, x45.2) 6)) (fun x48 => (if x48.1 = 0 then Option.bind (α := Int32 × T0) (jr (f_X8_setting (w0.1, w0.2.1, w0.2.2.1, w0.2.2.2.1, x48.2) 10)) (fun x50 => (if 0 ≤ x50.1 then some (0, x50.2) else some (1, x50.2))) else some (0, x48.2))))) (fun j46 => Option.bind (α := Int32 × T0) ((if j46.1 = 0 then some (0, j46.2) else Option.bind (α := Int32 × T0) (jr (f_X8_setting (w0.1, w0.2.1, w0.2.2.1, w0.2.2.2.1, j46.2) 9)) (fun x54 => Option.bind (α := Int32) (f_L_up (a2 >>> ((4 : Int32) &&& 31)) x54.1) (fun x55 => some (x55, x54.2))))) (fun j52 => (if j46.1 = 0 then (some (1, w0.2.2.1.2.2, w0.2.2.1.1, w0.2.2.1.2.1, w0.2.2.2.1, j52.2, w1.2.2.1.2.2, w1.2.2.1.1, w1.2.2.1.2.1, w1.2.2.2.1, w1.2.2.2.2)) else Option.bind (α := Int32 × T5s × T3) (jr (f_X8_open (w0.1, w0.2.1, w0.2.2.1, w0.2.2.2.1, j52.2) j52.1)) (fun x57 => Option.bind (α := Int32 × T5s × T3) (jr (f_X8_open w1 j52.1)) (fun x58 => (if x57.1 = x58.1 then (some (1, x57.2.1, w0.2.2.1.1, w0.2.2.1.2.1, x57.2.2, j52.2, x58.2.1, w1.2.2.1.1, w1.2.2.1.2.1, x58.2.2, w1.2.2.2.2)) else (some (0, x57.2.1, w0.2.2.1.1, w0.2.2.1.2.1, x57.2.2, j52.2, x58.2.1, w1.2.2.1.1, w1.2.2.1.2.1, x58.2.2, w1.2.2.2.2)))))))))) := by
  have htl := hA.1.1.2.1.1
  have hpl := hA.1.1.2.2.2.1.1
  have ho7 := hA.1.1.2.2.2.2.2.2
  obtain ⟨c1, h1⟩ := q_set hA (v := 9) (by decide) (by decide)
  rw [h1, Option.bind_some, set_9]
  dsimp only
  have key : ∃ (m : Bool) (c : T0), (if nI (sTx g.1).length ≤ 0 then some ((0 : Int32), c1) else Option.bind (α := Int32 × T0) (jr (f_X8_setting (w0.1, w0.2.1, w0.2.2.1, w0.2.2.2.1, c1) 6)) (fun x48 => (if x48.1 = 0 then Option.bind (α := Int32 × T0) (jr (f_X8_setting (w0.1, w0.2.1, w0.2.2.1, w0.2.2.2.1, x48.2) 10)) (fun x50 => (if 0 ≤ x50.1 then some ((0 : Int32), x50.2) else some (1, x50.2))) else some (0, x48.2)))) = some (b01 m, c) ∧ (m = true → 0 < (sTx g.1).length ∧ (sPl g.1).length = 0 ∧ sOpn g.1 = none) := by
    by_cases e : (sTx g.1).length = 0
    · rw [if_pos (show nI (sTx g.1).length ≤ 0 from by rw [e]; decide)]
      exact ⟨false, c1, rfl, fun z => by cases z⟩
    · rw [if_neg (nI_nle (by omega) (by omega))]
      obtain ⟨c2, h2⟩ := q_set (hA.c c1) (v := 6) (by decide) (by decide)
      rw [h2, Option.bind_some, set_6]
      dsimp only
      by_cases e2 : (sPl g.1).length = 0
      · rw [if_pos (by rw [e2, nI_0])]
        obtain ⟨c3, h3⟩ := q_set (hA.c c2) (v := 10) (by decide) (by decide)
        have h3 : jr (f_X8_setting (w0.1, w0.2.1, w0.2.2.1, w0.2.2.2.1, c2) 10) = some (setI g.1 10, c3) := h3
        rw [h3, Option.bind_some, set_10]
        dsimp only
        cases ho : sOpn g.1 with
        | some k =>
          have hk := ho7 k ho
          rw [if_pos (show 0 ≤ idxI (some k) from nI_pos' (by omega))]
          exact ⟨false, c3, rfl, fun z => by cases z⟩
        | none =>
          rw [if_neg (show ¬ 0 ≤ idxI none from by decide)]
          exact ⟨true, c3, rfl, fun _ => ⟨by omega, e2, rfl⟩⟩
      · rw [if_neg (nI_ne0 (by omega) (by omega))]
        exact ⟨false, c2, rfl, fun z => by cases z⟩
  obtain ⟨m, c, k1, k2⟩ := key
  rw [k1, Option.bind_some]
  dsimp only
  cases m with
  | false =>
    rw [if_pos (show b01 false = 0 from rfl), Option.bind_some, if_pos (show b01 false = 0 from rfl)]
    exact stepOk_mk hA hB hS
  | true =>
    obtain ⟨m1, m2, m3⟩ := k2 rfl
    obtain ⟨c4, h4⟩ := q_set (hA.c c) (v := 9) (by decide) (by decide)
    rw [if_neg (show ¬ b01 true = 0 from by decide), h4, Option.bind_some, set_9]
    dsimp only
    rw [up_nI _ m1 (by omega), Option.bind_some, Option.bind_some, if_neg (show ¬ b01 true = 0 from by decide)]
    obtain ⟨v, r, t, g', h', j1, j2, j3, j4, j5⟩ := p_open (hA.c c4) hB hS (k := upN (a2 >>> ((4 : Int32) &&& 31)) (sTx g.1).length) (upN_lt _ m1) ⟨m2, m3⟩
    dsimp only
    rw [j1, Option.bind_some, j2, Option.bind_some]
    dsimp only
    rw [if_pos rfl]
    exact stepOk_mk j3 j4 j5
theorem st_mode (hA : Al g w0) (hB : Al h w1) (hS : Sim g.1 h.1) (a2 : Int32) : StepOk w0 w1 (Option.bind (α := Int32) ((if ((a2 >>> ((4 : Int32) &&& 31)) &&& 1) = 1 then some 1 else some 0)) (fun j61 => Option.bind (α := Int32 × T5s × T3 × T0) (f_X8_mode w0 j61) (fun x63 => Option.bind (α := Int32) ((if ((a2 >>> ((4 : Int32) &&& 31)) &&& 1) = 1 then some 1 else some 0)) (fun j64 => Option.bind (α := Int32 × T5s × T3 × T0) (f_X8_mode w1 j64) (fun x66 => (if x63.1 = x66.1 then (some (1, x63.2.1, w0.2.2.1.1, w0.2.2.1.2.1, x63.2.2.1, x63.2.2.2, x66.2.1, w1.2.2.1.1, w1.2.2.1.2.1, x66.2.2.1, x66.2.2.2)) else (some (0, x63.2.1, w0.2.2.1.1, w0.2.2.1.2.1, x63.2.2.1, x63.2.2.2, x66.2.1, w1.2.2.1.1, w1.2.2.1.2.1, x66.2.2.1, x66.2.2.2)))))))) := by
  rw [bit_b, Option.bind_some]
  obtain ⟨v, r, t, g', h', k1, k2, k3, k4, k5⟩ := p_mode hA hB hS (decide ((a2 >>> ((4 : Int32) &&& 31)) &&& 1 = 1))
  rw [k1, Option.bind_some, Option.bind_some, k2, Option.bind_some]
  dsimp only
  rw [if_pos rfl]
  exact stepOk_mk k3 k4 k5
theorem st_next (hA : Al g w0) (hB : Al h w1) (hS : Sim g.1 h.1) (a2 : Int32) : StepOk w0 w1 (Option.bind (α := Int32 × T0) (jr (f_X8_setting w0 7)) (fun x69 => (if x69.1 = 0 then (some (1, w0.2.2.1.2.2, w0.2.2.1.1, w0.2.2.1.2.1, w0.2.2.2.1, x69.2, w1.2.2.1.2.2, w1.2.2.1.1, w1.2.2.1.2.1, w1.2.2.2.1, w1.2.2.2.2)) else Option.bind (α := Int32 × T5s × T3 × T0) (jr (f_X8_next (w0.1, w0.2.1, w0.2.2.1, w0.2.2.2.1, x69.2))) (fun x71 => Option.bind (α := Int32 × T5s × T3 × T0) (jr (f_X8_next w1)) (fun x72 => (if x71.1 = x72.1 then (some (1, x71.2.1, w0.2.2.1.1, w0.2.2.1.2.1, x71.2.2.1, x71.2.2.2, x72.2.1, w1.2.2.1.1, w1.2.2.1.2.1, x72.2.2.1, x72.2.2.2)) else (some (0, x71.2.1, w0.2.2.1.1, w0.2.2.1.2.1, x71.2.2.1, x71.2.2.2, x72.2.1, w1.2.2.1.1, w1.2.2.1.2.1, x72.2.2.1, x72.2.2.2)))))))) := by
  have hn := sN_le g.1
  have hwl := hA.1.1.1.1
  obtain ⟨c1, h1⟩ := q_set hA (v := 7) (by decide) (by decide)
  rw [h1, Option.bind_some, set_7]
  dsimp only
  by_cases e : sN g.1 = 0
  · rw [if_pos (by rw [e, nI_0])]
    exact stepOk_mk hA hB hS
  · rw [if_neg (nI_ne0 (by omega) (by omega))]
    obtain ⟨v, r, t, g', h', k1, k2, k3, k4, k5⟩ := p_next (hA.c c1) hB hS e
    rw [k1, Option.bind_some, k2, Option.bind_some]
    dsimp only
    rw [if_pos rfl]
    exact stepOk_mk k3 k4 k5
theorem st_pause (hA : Al g w0) (hB : Al h w1) (hS : Sim g.1 h.1) (a2 : Int32) : StepOk w0 w1 (Option.bind (α := Int32 × T5s × T3) (f_X8_pause w0) (fun x81 => Option.bind (α := Int32 × T5s × T3) (f_X8_pause w1) (fun x82 => (if x81.1 = x82.1 then (some (1, x81.2.1, w0.2.2.1.1, w0.2.2.1.2.1, x81.2.2, w0.2.2.2.2, x82.2.1, w1.2.2.1.1, w1.2.2.1.2.1, x82.2.2, w1.2.2.2.2)) else (some (0, x81.2.1, w0.2.2.1.1, w0.2.2.1.2.1, x81.2.2, w0.2.2.2.2, x82.2.1, w1.2.2.1.1, w1.2.2.1.2.1, x82.2.2, w1.2.2.2.2)))))) := by
  obtain ⟨v, r, t, g', h', k1, k2, k3, k4, k5⟩ := p_pause hA hB hS
  rw [k1, Option.bind_some, k2, Option.bind_some]
  dsimp only
  rw [if_pos rfl]
  exact stepOk_mk k3 k4 k5
theorem st_ways (hA : Al g w0) (hB : Al h w1) (hS : Sim g.1 h.1) (a2 : Int32) : StepOk w0 w1 (Option.bind (α := Int32) ((if ((a2 >>> ((4 : Int32) &&& 31)) &&& 1) = 1 then some 1 else some 0)) (fun j85 => Option.bind (α := Int32) (f_L_up (a2 >>> ((5 : Int32) &&& 31)) 6) (fun x87 => Option.bind (α := Int32 × T5s × T3) (jr (f_X8_setWays w0 j85 (1 + x87))) (fun x88 => Option.bind (α := Int32) ((if ((a2 >>> ((4 : Int32) &&& 31)) &&& 1) = 1 then some 1 else some 0)) (fun j89 => Option.bind (α := Int32) (f_L_up (a2 >>> ((5 : Int32) &&& 31)) 6) (fun x91 => Option.bind (α := Int32 × T5s × T3) (jr (f_X8_setWays w1 j89 (1 + x91))) (fun x92 => (if x88.1 = x92.1 then (some (1, x88.2.1, w0.2.2.1.1, w0.2.2.1.2.1, x88.2.2, w0.2.2.2.2, x92.2.1, w1.2.2.1.1, w1.2.2.1.2.1, x92.2.2, w1.2.2.2.2)) else (some (0, x88.2.1, w0.2.2.1.1, w0.2.2.1.2.1, x88.2.2, w0.2.2.2.2, x92.2.1, w1.2.2.1.1, w1.2.2.1.2.1, x92.2.2, w1.2.2.2.2)))))))))) := by
  have hu := upN_lt (a2 >>> ((5 : Int32) &&& 31)) (n := 6) (by omega)
  have e6 : f_L_up (a2 >>> ((5 : Int32) &&& 31)) 6 = some (nI (upN (a2 >>> ((5 : Int32) &&& 31)) 6)) := up_nI _ (n := 6) (by omega) (by omega)
  have e1 : (1 : Int32) + nI (upN (a2 >>> ((5 : Int32) &&& 31)) 6) = nI (1 + upN (a2 >>> ((5 : Int32) &&& 31)) 6) := nI_add 1 _
  rw [bit_b, Option.bind_some, e6, Option.bind_some, e1]
  obtain ⟨v, r, t, g', h', k1, k2, k3, k4, k5⟩ := p_ways hA hB hS (decide ((a2 >>> ((4 : Int32) &&& 31)) &&& 1 = 1)) (a := 1 + upN (a2 >>> ((5 : Int32) &&& 31)) 6) (by omega)
  rw [k1, Option.bind_some, Option.bind_some, Option.bind_some, e1, k2, Option.bind_some]
  dsimp only
  rw [if_pos rfl]
  exact stepOk_mk k3 k4 k5
theorem st_press (hA : Al g w0) (hB : Al h w1) (hS : Sim g.1 h.1) (a2 : Int32) : StepOk w0 w1 (Option.bind (α := Int32) (f_L_up (a2 >>> ((4 : Int32) &&& 31)) 4) (fun x3 => Option.bind (α := Int32 × T0) (jr (f_X8_setting w0 6)) (fun x4 => Option.bind (α := Int32 × T0) ((if x4.1 < 10 then some (1, x4.2) else Option.bind (α := Int32 × T0) (jr (f_X8_setting (w0.1, w0.2.1, w0.2.2.1, w0.2.2.2.1, x4.2) 5)) (fun x7 => (if x7.1 = (2 + x3) then some (1, x7.2) else some (0, x7.2))))) (fun j5 => (if j5.1 = 0 then (some (1, w0.2.2.1.2.2, w0.2.2.1.1, w0.2.2.1.2.1, w0.2.2.2.1, j5.2, w1.2.2.1.2.2, w1.2.2.1.1, w1.2.2.1.2.1, w1.2.2.2.1, w1.2.2.2.2)) else Option.bind (α := Int32 × T5s × T3) (jr (f_X8_press (w0.1, w0.2.1, w0.2.2.1, w0.2.2.2.1, j5.2) (2 + x3))) (fun x10 => Option.bind (α := Int32 × T5s × T3) (jr (f_X8_press w1 (2 + x3))) (fun x11 => (if x10.1 = x11.1 then (some (1, x10.2.1, w0.2.2.1.1, w0.2.2.1.2.1, x10.2.2, j5.2, x11.2.1, w1.2.2.1.1, w1.2.2.1.2.1, x11.2.2, w1.2.2.2.2)) else (some (0, x10.2.1, w0.2.2.1.1, w0.2.2.1.2.1, x10.2.2, j5.2, x11.2.1, w1.2.2.1.1, w1.2.2.1.2.1, x11.2.2, w1.2.2.2.2)))))))))) := by
  have hpl := hA.1.1.2.2.2.1.1
  have hu := upN_lt (a2 >>> ((4 : Int32) &&& 31)) (n := 4) (by omega)
  have e6 : f_L_up (a2 >>> ((4 : Int32) &&& 31)) 4 = some (nI (upN (a2 >>> ((4 : Int32) &&& 31)) 4)) := up_nI _ (n := 4) (by omega) (by omega)
  have e1 : (2 : Int32) + nI (upN (a2 >>> ((4 : Int32) &&& 31)) 4) = nI (2 + upN (a2 >>> ((4 : Int32) &&& 31)) 4) := nI_add 2 _
  rw [e6, Option.bind_some, e1]
  generalize upN (a2 >>> ((4 : Int32) &&& 31)) 4 = u at hu
  obtain ⟨c1, h1⟩ := q_set hA (v := 6) (by decide) (by decide)
  rw [h1, Option.bind_some, set_6]
  dsimp only
  have key : ∃ (m : Bool) (c : T0), (if nI (sPl g.1).length < 10 then some ((1 : Int32), c1) else Option.bind (α := Int32 × T0) (jr (f_X8_setting (w0.1, w0.2.1, w0.2.2.1, w0.2.2.2.1, c1) 5)) (fun x7 => (if x7.1 = nI (2 + u) then some ((1 : Int32), x7.2) else some (0, x7.2)))) = some (b01 m, c) ∧ (m = true → (sPl g.1).length < 10 ∨ sPen g.1 = nI (2 + u)) := by
    by_cases e : (sPl g.1).length < 10
    · rw [if_pos (show nI (sPl g.1).length < (10 : Int32) from nI_lt (b := 10) e (by omega))]
      exact ⟨true, c1, rfl, fun _ => Or.inl e⟩
    · rw [if_neg (show ¬ nI (sPl g.1).length < (10 : Int32) from nI_nlt (b := 10) (by omega) (by omega))]
      obtain ⟨c2, h2⟩ := q_set (hA.c c1) (v := 5) (by decide) (by decide)
      rw [h2, Option.bind_some, set_5]
      dsimp only
      by_cases e2 : sPen g.1 = nI (2 + u)
      · rw [if_pos e2]
        exact ⟨true, c2, rfl, fun _ => Or.inr e2⟩
      · rw [if_neg e2]
        exact ⟨false, c2, rfl, fun z => by cases z⟩
  obtain ⟨m, c, k1, k2⟩ := key
  rw [k1, Option.bind_some]
  dsimp only
  cases m with
  | false =>
    rw [if_pos (show b01 false = 0 from rfl)]
    exact stepOk_mk hA hB hS
  | true =>
    rw [if_neg (show ¬ b01 true = 0 from by decide)]
    obtain ⟨v, r, t, g', h', j1, j2, j3, j4, j5⟩ := p_press (hA.c c) hB hS (k := 2 + u) (by omega) (k2 rfl)
    rw [j1, Option.bind_some, j2, Option.bind_some]
    dsimp only
    rw [if_pos rfl]
    exact stepOk_mk j3 j4 j5
theorem isStep_ok (hA : Al g w0) (hB : Al h w1) (hS : Sim g.1 h.1) (a2 : Int32) : StepOk w0 w1 (f_L_isStep w0 w1 a2) := by
  have e12 : f_L_up a2 12 = some (nI (upN a2 12)) := up_nI _ (n := 12) (by omega) (by omega)
  have hu := upN_lt a2 (n := 12) (by omega)
  unfold f_L_isStep
  rw [e12, Option.bind_some]
  generalize upN a2 12 = u at hu
  rcases (show u = 0 ∨ u = 1 ∨ u = 2 ∨ u = 3 ∨ u = 4 ∨ u = 5 ∨ u = 6 ∨ u = 7 ∨ u = 8 ∨ 8 < u by omega) with rfl | rfl | rfl | rfl | rfl | rfl | rfl | rfl | rfl | h8
  · rw [if_neg (by decide), if_pos (by decide)]; exact st_accept hA hB hS a2
  · rw [if_neg (by decide), if_neg (by decide), if_pos (by decide)]; exact st_accept hA hB hS a2
  · rw [if_neg (by decide), if_neg (by decide), if_neg (by decide), if_pos (by decide)]; exact st_erase hA hB hS a2
  · rw [if_neg (by decide), if_neg (by decide), if_neg (by decide), if_neg (by decide), if_pos (by decide)]; exact st_open hA hB hS a2
  · rw [if_neg (by decide), if_neg (by decide), if_neg (by decide), if_neg (by decide), if_neg (by decide), if_pos (by decide)]; exact st_mode hA hB hS a2
  · rw [if_neg (by decide), if_neg (by decide), if_neg (by decide), if_neg (by decide), if_neg (by decide), if_neg (by decide), if_pos (by decide)]; exact st_next hA hB hS a2
  · rw [if_neg (by decide), if_neg (by decide), if_neg (by decide), if_neg (by decide), if_neg (by decide), if_neg (by decide), if_neg (by decide), if_pos (by decide)]; exact st_next hA hB hS a2
  · rw [if_neg (by decide), if_neg (by decide), if_neg (by decide), if_neg (by decide), if_neg (by decide), if_neg (by decide), if_neg (by decide), if_neg (by decide), if_pos (by decide)]; exact st_pause hA hB hS a2
  · rw [if_neg (by decide), if_neg (by decide), if_neg (by decide), if_neg (by decide), if_neg (by decide), if_neg (by decide), if_neg (by decide), if_neg (by decide), if_neg (by decide), if_pos (by decide)]; exact st_ways hA hB hS a2
  · rw [if_pos (Or.inr (show (8 : Int32) < nI u from nI_lt (a := 8) h8 (by omega)))]; exact st_press hA hB hS a2
end STEP
