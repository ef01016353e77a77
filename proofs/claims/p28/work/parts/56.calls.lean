/-! ===== the calls as the law makes them ===== -/
def Al (g : Sg) (x : T8) : Prop := okSg g ∧ R8 g x
theorem l64_inj {a b : Int32} (h : a.toInt64 = b.toInt64) : a = b := by
  have h1 := congrArg Int64.toInt h
  rw [Int32.toInt_toInt64, Int32.toInt_toInt64] at h1
  exact Int32.toInt_inj.mp h1
theorem An8_R {α : Type} {ks : List Nat} {mk : α → T8} {ou : Nat → Int64} {f : Option ((Nat × α) ⊕ (Int32 × α))} {v : Int32} {g : Sg} (h : An8 (wrp ks mk ou f) (0, v, g)) : ∃ r, jr f = some (v, r) ∧ R8 g (mk r) := by
  obtain ⟨x', ou', h1, h2, h3⟩ := h
  have h3 := h3 rfl
  cases f with
  | none => cases h1
  | some z =>
    cases z with
    | inl q =>
      obtain ⟨k, r⟩ := q
      unfold wrp at h1
      dsimp only at h1
      split at h1
      · have := congrArg Prod.fst (Option.some.inj h1)
        exact absurd this (show ¬ (1 : Int32) = 0 from by decide)
      · split at h1
        · have := congrArg Prod.fst (Option.some.inj h1)
          exact absurd this (show ¬ (2 : Int32) = 0 from by decide)
        · cases h1
    | inr q =>
      obtain ⟨w, r⟩ := q
      have h1 := Option.some.inj h1
      have e1 : mk r = x' := congrArg (fun z => z.2.1) h1
      have e2 : vp_updL ou 0 w.toInt64 = ou' := congrArg (fun z => z.2.2) h1
      subst e1
      subst e2
      have e3 : w = v := l64_inj (by simpa [vp_updL] using h3)
      subst e3
      exact ⟨r, rfl, h2⟩
theorem An8_U {ks : List Nat} {x : T8} {ou : Nat → Int64} {f : Option (Nat ⊕ Int32)} {v : Int32} {g : Sg} (h : An8 (wrpU ks x ou f) (0, v, g)) : jr f = some v := by
  obtain ⟨x', ou', h1, h2, h3⟩ := h
  have h3 := h3 rfl
  cases f with
  | none => cases h1
  | some z =>
    cases z with
    | inl k =>
      unfold wrpU at h1
      dsimp only at h1
      split at h1
      · have := congrArg Prod.fst (Option.some.inj h1)
        exact absurd this (show ¬ (1 : Int32) = 0 from by decide)
      · split at h1
        · have := congrArg Prod.fst (Option.some.inj h1)
          exact absurd this (show ¬ (2 : Int32) = 0 from by decide)
        · cases h1
    | inr w =>
      have h1 := Option.some.inj h1
      have e2 : vp_updL ou 0 w.toInt64 = ou' := congrArg (fun z => z.2.2) h1
      subst e2
      have e3 : w = v := l64_inj (by simpa [vp_updL] using h3)
      subst e3
      rfl
def ou0 : Nat → Int64 := fun _ => 0
section CALLS
variable {g : Sg} {x : T8}
theorem q_set (hA : Al g x) {v : Int32} (h0 : ¬ v < 0) (h1 : v < 11) : ∃ c, jr (f_X8_setting x v) = some (setI g.1 v, c) := by
  obtain ⟨cc, hc⟩ := settingOf_8 (y := x) hA.2.2.2.1 hA.1.1 h0 h1
  exact ⟨cc, jr_eq (by unfold f_X8_setting; rw [if_neg h0, if_pos h1, hc, Option.bind_some])⟩
theorem wAt_nI {ws : List Wd} {k : Nat} {q : Wd} (hl : ws.length ≤ 50) (hk : ws[k]? = some q) : wAt ws (nI k) = some k := by
  have := lt_of_get hk
  unfold wAt
  rw [if_neg (nI_pos (by omega)), nI_clamp (by omega), if_pos this]
theorem q_word (hA : Al g x) {k : Nat} {q : Wd} (hk : (sWs g.1)[k]? = some q) {v : Int32} (hv : v = 0 ∨ v = 1 ∨ v = 2 ∨ v = 3 ∨ v = 4) : jr (f_X8_word x (nI k) v) = some (valI (sWs g.1) k q v) := by
  have h := word_8 (ou := ou0) hA.2 hA.1 (nI k) v
  unfold anWord at h
  rw [wAt_nI hA.1.1.1.1 hk] at h
  dsimp only at h
  rw [if_neg (by rcases hv with rfl | rfl | rfl | rfl | rfl <;> decide), hk] at h
  exact An8_U h
theorem q_letter (hA : Al g x) {k : Nat} {q : Wd} (hk : (sWs g.1)[k]? = some q) {i : Nat} (hi : i < q.1.length) : jr (f_X8_letter x (nI k) (nI i)) = some (nI (q.1.getD i 0)) := by
  have h := letter_8 (ou := ou0) hA.2 hA.1 (nI k) (nI i)
  have hq := (hA.1.1.1.wd hk).1.1
  unfold anLetter at h
  rw [wAt_nI hA.1.1.1.1 hk] at h
  dsimp only at h
  rw [hk] at h
  dsimp only at h
  rw [nI_clamp (by omega), if_neg (fun z => z.elim (nI_pos (by omega)) (fun z => by omega))] at h
  exact An8_U h
theorem q_steps (hA : Al g x) {k : Nat} {q : Wd} (hk : (sWs g.1)[k]? = some q) : jr (f_X8_steps x (nI k)) = some (nI (stepsW (sWs g.1) q)) := by
  have h := steps_8 (ou := ou0) hA.2 hA.1 (nI k)
  unfold anSteps at h
  rw [wAt_nI hA.1.1.1.1 hk] at h
  dsimp only at h
  rw [steps_w hk] at h
  exact An8_U h
theorem q_short (hA : Al g x) {k : Nat} {q : Wd} (hk : (sWs g.1)[k]? = some q) : jr (f_X8_shortest x (nI k)) = some (shortW (sWs g.1) q) := by
  have h := shortest_8 (ou := ou0) hA.2 hA.1 (nI k)
  unfold anShort at h
  rw [wAt_nI hA.1.1.1.1 hk] at h
  dsimp only at h
  rw [hk] at h
  dsimp only at h
  rw [short_w hA.1.1.1 hk] at h
  exact An8_U h
theorem q_presses (hA : Al g x) {k : Nat} {q : Wd} (hk : (sWs g.1)[k]? = some q) (t : Bool) : jr (f_X8_presses x (nI k) (b01 t)) = some (if t then nI (tapsN q.1 q.1.length) else nI (q.1.length + stepsW (sWs g.1) q)) := by
  have h := presses_8 (ou := ou0) hA.2 hA.1 (nI k) t
  unfold anPresses at h
  rw [wAt_nI hA.1.1.1.1 hk] at h
  dsimp only at h
  rw [hk] at h
  dsimp only at h
  rw [steps_w hk] at h
  exact An8_U h
theorem q_cand (hA : Al g x) {k i : Nat} (hk : k < sN g.1) (hc : candAt (sWs g.1) (sCmp g.1) (sPl g.1) k = some i) : ∃ c, jr (f_X8_candidate x (nI k)) = some (nI i, c) := by
  have h := candidate_8 (ou := ou0) hA.2 hA.1 (nI k)
  have hn := sN_le g.1
  have hl := hA.1.1.1.1
  unfold anCand at h
  rw [nI_clamp (by omega), if_neg (fun z => z.elim (nI_pos (by omega)) (fun z => by omega)), hc] at h
  obtain ⟨r, h1, -⟩ := An8_R h
  exact ⟨r, h1⟩
theorem q_display (hA : Al g x) {i : Nat} (hi : i < 2 ^ 31) : ∃ c, jr (f_X8_display x (nI i)) = some (if (shL g.1).length ≤ i then -1 else nI ((shL g.1).getD i 0), c) := by
  have h := display_8 (ou := ou0) hA.2 hA.1 (nI i)
  unfold anDisplay at h
  rw [if_neg (nI_pos hi), nI_clamp hi] at h
  obtain ⟨r, h1, -⟩ := An8_R h
  exact ⟨r, h1⟩
theorem q_wlen (hA : Al g x) {k : Nat} {l : List Nat} (hk : (sTx g.1)[k]? = some l) : jr (f_X8_written x (nI k) (-1)) = some (nI l.length) := by
  have h := written_8 (ou := ou0) hA.2 hA.1 (nI k) (-1)
  have hl := hA.1.1.2.1.1
  have := lt_of_get hk
  unfold anWritten at h
  rw [if_neg (nI_pos (by omega)), nI_clamp (by omega), hk] at h
  dsimp only at h
  rw [if_pos rfl] at h
  exact An8_U h
theorem q_written (hA : Al g x) {k : Nat} {l : List Nat} (hk : (sTx g.1)[k]? = some l) {i : Nat} (hi : i < l.length) : jr (f_X8_written x (nI k) (nI i)) = some (nI (l.getD i 0)) := by
  have h := written_8 (ou := ou0) hA.2 hA.1 (nI k) (nI i)
  have hl := hA.1.1.2.1.1
  have hll := (hA.1.1.2.1.2 l (List.mem_of_getElem? hk)).1.1
  have := lt_of_get hk
  unfold anWritten at h
  rw [if_neg (nI_pos (by omega)), nI_clamp (by omega), hk] at h
  dsimp only at h
  have hne : ¬ nI i = -1 := fun e => nI_pos (n := i) (by omega) (by rw [e]; decide)
  rw [if_neg hne, nI_clamp (by omega), if_neg (fun z => z.elim (nI_pos (by omega)) (fun z => by omega))] at h
  exact An8_U h
theorem q_clash (hA : Al g x) : f_X8_clashing x = some (nI (clashW (sWs g.1))) := by
  rw [clashing_8 hA.2 hA.1, clashN_w hA.1.1.1]
theorem q_saving (hA : Al g x) : f_X8_saving x = savO (sumS (sWs g.1) (sWs g.1).length) (sumT (sWs g.1) (sWs g.1).length) := by
  unfold f_X8_saving
  rw [saving_6 hA.2.2.2.1.1 hA.1.1.1]
  cases savO (sumS (sWs g.1) (sWs g.1).length) (sumT (sWs g.1) (sWs g.1).length) <;> rfl
theorem q_ways (hA : Al g x) (c : Bool) {a : Nat} (ha : 1 ≤ a ∧ a ≤ 50) : ∃ r, jr (f_X8_setWays x (b01 c) (nI a)) = some (nI (sAge g.1), r) ∧ Al (saveG g (waysS g.1 c a)) (x.1, x.2.1, (x.2.2.1.1, x.2.2.1.2.1, r.1), r.2, x.2.2.2.2) := by
  have h := ways_8 (ou := ou0) hA.2 hA.1 c (nI a)
  have ho := ways_ok hA.1 c (nI a)
  unfold anWays at h ho
  have hn : ¬ (nI a < 1 ∨ 50 < nI a) := fun z => z.elim (nI_nlt (a := a) (b := 1) (by omega) (by omega)) (nI_nlt (a := 50) (b := a) (by omega) (by omega))
  rw [if_neg hn, nI_clamp (by omega)] at h ho
  obtain ⟨r, h1, h2⟩ := An8_R h
  exact ⟨r, h1, ho, h2⟩
theorem q_press (hA : Al g x) {k : Nat} (hk : 2 ≤ k ∧ k ≤ 9) (hm : (sPl g.1).length < 10 ∨ sPen g.1 = nI k) : ∃ r, jr (f_X8_press x (nI k)) = some ((anPress g (nI k)).2.1, r) ∧ Al (anPress g (nI k)).2.2 (x.1, x.2.1, (x.2.2.1.1, x.2.2.1.2.1, r.1), r.2, x.2.2.2.2) := by
  have h := press_8 (ou := ou0) hA.2 hA.1 (nI k)
  have ho := press_ok hA.2 hA.1 (nI k)
  have h0 : (anPress g (nI k)).1 = 0 := by
    unfold anPress
    have hn : ¬ (nI k < 2 ∨ 9 < nI k) := fun z => z.elim (nI_nlt (a := k) (b := 2) (by omega) (by omega)) (nI_nlt (a := 9) (b := k) (by omega) (by omega))
    rw [if_neg hn]
    by_cases e : sPen g.1 = nI k
    · rw [if_pos e]
    · rw [if_neg e, if_pos (hm.resolve_right e)]
  have e : anPress g (nI k) = (0, (anPress g (nI k)).2.1, (anPress g (nI k)).2.2) := by rw [← h0]
  rw [e] at h
  obtain ⟨r, h1, h2⟩ := An8_R h
  exact ⟨r, h1, ho, h2⟩
theorem q_pause (hA : Al g x) : ∃ r, f_X8_pause x = some (sPen g.1, r) ∧ Al (saveG g (pauS g.1)) (x.1, x.2.1, (x.2.2.1.1, x.2.2.1.2.1, r.1), r.2, x.2.2.2.2) := by
  obtain ⟨⟨r, r1, r2, r3⟩, r4⟩ := pause_8 hA.2 hA.1
  exact ⟨r.2, by rw [r1, ← r2], r4, r3⟩
theorem q_mode (hA : Al g x) (t : Bool) : ∃ r, f_X8_mode x (b01 t) = some (nI (sPl g.1).length, r) ∧ Al (saveG g (modeS g.1 t)) (x.1, x.2.1, (x.2.2.1.1, x.2.2.1.2.1, r.1), r.2.1, r.2.2) := by
  obtain ⟨⟨r, r1, r2, r3⟩, r4⟩ := mode_8 hA.2 hA.1 t
  exact ⟨r.2, by rw [r1, ← r2], r4, r3⟩
theorem q_next (hA : Al g x) (hn : ¬ sN g.1 = 0) : ∃ r, jr (f_X8_next x) = some (nI (nextC g.1), r) ∧ Al (saveG g (choS g.1 (nextC g.1))) (x.1, x.2.1, (x.2.2.1.1, x.2.2.1.2.1, r.1), r.2.1, r.2.2) := by
  have h := next_8 (ou := ou0) hA.2 hA.1
  have ho := next_ok hA.1
  unfold anNext at h ho
  rw [if_neg hn] at h ho
  obtain ⟨r, h1, h2⟩ := An8_R h
  exact ⟨r, h1, ho, h2⟩
theorem q_erase (hA : Al g x) (hn : ¬ (sPl g.1).length = 0) : ∃ r, jr (f_X8_erase x) = some (nI ((sPl g.1).length - 1), r) ∧ Al (saveG g (dropS g.1)) (x.1, x.2.1, (x.2.2.1.1, r.2.1, r.1), r.2.2, x.2.2.2.2) := by
  obtain ⟨h, ho⟩ := erase_8 (ou := ou0) hA.2 hA.1
  unfold anErase at h ho
  rw [if_neg hn] at h ho
  obtain ⟨r, h1, h2⟩ := An8_R h
  exact ⟨r, h1, ho, h2⟩
theorem q_accept (hA : Al g x) (hn : ¬ ((sPl g.1).length = 0 ∨ (sOpn g.1 = none ∧ 30 ≤ (sTx g.1).length))) : ∃ r, jr (f_X8_accept x) = some (nI (sTx (takeS g.1 (shL g.1))).length, r) ∧ Al (saveG g (takeS g.1 (shL g.1))) (x.1, x.2.1, (r.2.1, r.2.2.1, r.1), r.2.2.2.1, r.2.2.2.2) := by
  obtain ⟨h, ho⟩ := accept_8 (ou := ou0) hA.2 hA.1
  unfold anAccept at h ho
  rw [if_neg hn] at h ho
  obtain ⟨r, h1, h2⟩ := An8_R h
  exact ⟨r, h1, ho, h2⟩
theorem q_open (hA : Al g x) {k : Nat} {l : List Nat} (hk : (sTx g.1)[k]? = some l) (hn : (sPl g.1).length = 0 ∧ sOpn g.1 = none) : ∃ r, jr (f_X8_open x (nI k)) = some (nI l.length, r) ∧ Al (saveG g (openS g.1 k l)) (x.1, x.2.1, (x.2.2.1.1, x.2.2.1.2.1, r.1), r.2, x.2.2.2.2) := by
  obtain ⟨h, ho⟩ := open_8 (ou := ou0) hA.2 hA.1 (nI k)
  have hl := hA.1.1.2.1.1
  have := lt_of_get hk
  unfold anOpen at h ho
  rw [if_neg (nI_pos (by omega)), nI_clamp (by omega), hk] at h ho
  dsimp only at h ho
  rw [if_pos hn] at h ho
  obtain ⟨r, h1, h2⟩ := An8_R h
  exact ⟨r, h1, ho, h2⟩
theorem q_undo (hA : Al g x) {s : St} (hs : g.2.1.getLast? = some s) : ∃ r, jr (f_X8_undo x) = some (nI (g.2.1.length - 1), r) ∧ Al (s, g.2.1.dropLast, g.2.2) (x.1, x.2.1, (r.2.1, r.2.2.1, r.1), r.2.2.2, x.2.2.2.2) := by
  obtain ⟨h, ho⟩ := undo_8 (ou := ou0) hA.2 hA.1
  unfold anUndo at h ho
  rw [hs] at h ho
  obtain ⟨r, h1, h2⟩ := An8_R h
  exact ⟨r, h1, ho, h2⟩
theorem q_append (hA : Al g x) {a : Nat} (ha : a ≤ 127) (hl : g.2.2.length < 150) : ∃ r, jr (f_X8_append x (nI a)) = some (nI (g.2.2.length + 1), r) ∧ Al (g.1, g.2.1, g.2.2 ++ [a]) (r, x.2.1, (x.2.2.1.1, x.2.2.1.2.1, x.2.2.1.2.2), x.2.2.2.1, x.2.2.2.2) := by
  have h := append_8 (ou := ou0) hA.2 hA.1 (nI a)
  have ho := append_ok hA.1 (nI a)
  unfold anAppend at h ho
  have hn : ¬ (nI a < 0 ∨ 127 < nI a) := fun z => z.elim (nI_pos (by omega)) (nI_nlt (a := 127) (b := a) (by omega) (by omega))
  rw [if_neg hn, nI_clamp (by omega), if_pos hl] at h ho
  obtain ⟨r, h1, h2⟩ := An8_R h
  exact ⟨r, h1, ho, h2⟩
theorem q_digest (hA : Al g x) : ∃ c, f_X8_digest x = some (digG g, c) := digest_8 hA.2 hA.1
end CALLS
