/-! ===== the reference reads a word ===== -/
abbrev rdm (m : T9) (F A : Nat → Int32) (p : Int32) : T9 := (F, m.2.1, A, m.2.2.2.1, 0, m.2.2.2.2.2.1, m.2.2.2.2.2.2.1, m.2.2.2.2.2.2.2.1, m.2.2.2.2.2.2.2.2.1, p)
def Tb9 (tb : List Nat) (m : T9) : Prop := m.2.2.2.2.2.2.2.2.1 = nI tb.length ∧ ∀ k b, tb[k]? = some b → m.2.2.2.2.2.2.2.1 k = nI b
/-- how two words stand, by their letters alone -/
theorem comp0_9 {m : T9} {j k : Int32} {a b : List Nat} (la : f_X9_of m j 0 = some (nI a.length)) (lb : f_X9_of m k 0 = some (nI b.length)) (ea : ∀ i, i < a.length → f_X9_letterOf m j (nI i) = some (nI (a.getD i 0))) (eb : ∀ i, i < b.length → f_X9_letterOf m k (nI i) = some (nI (b.getD i 0))) (oa : okL a) (ob : okL b) : ∃ r, f_X9_compares m j k = some r ∧ (r = 0 ↔ a = b) := by
  have oal := oa.1
  have obl := ob.1
  have hz : ∀ {u v : Nat}, u ≤ 26 → v ≤ 26 → (nI u - nI v = 0 ↔ u = v) := by
    intro u v hu hv
    by_cases e : v ≤ u
    · rw [nI_sub u v e]
      constructor
      · intro h
        by_cases h0 : u - v = 0
        · omega
        · exact absurd h (nI_ne0 (by omega) (by omega))
      · intro h
        rw [show u - v = 0 by omega]
        rfl
    · have e2 : nI u - nI v = -nI (v - u) := by
        have := nI_sub v u (by omega)
        rw [← this, Int32.neg_sub]
      rw [e2]
      constructor
      · intro h
        exfalso
        have hd : ∀ d, d < 27 → 0 < d → ¬ -nI d = (0 : Int32) := by decide
        exact hd (v - u) (by omega) (by omega) h
      · intro h; omega
  unfold f_X9_compares
  rw [la, lb]
  cases hs : allB (fun i => a.getD i 0 == b.getD i 0) (min a.length b.length) with
  | true =>
    have hall := allB_iff.mp hs
    rw [lp_go (fun i => nI i) (min a.length b.length) (.inr ()) nI_0.symm (fun i hi => by
      rw [Option.bind_some, if_neg (nI_ge (by omega) (by omega)), Option.bind_some, if_neg (nI_ge (by omega) (by omega)), ea i (by omega), Option.bind_some, eb i (by omega), Option.bind_some, if_pos (by rw [beq_iff_eq.mp (hall i hi)]), nI_1]) (by
      rw [Option.bind_some]
      by_cases e : a.length ≤ b.length
      · rw [if_pos (nI_le (by omega) (by omega))]
      · rw [if_neg (nI_ge (by omega) (by omega)), Option.bind_some, if_pos (nI_le (by omega) (by omega))]) (by omega), Option.bind_some]
    refine ⟨nI a.length - nI b.length, rfl, ?_⟩
    rw [hz (by omega) (by omega)]
    constructor
    · intro e
      have h2 := allB_eq e
      rw [show min a.length b.length = b.length by omega] at hs
      rw [h2] at hs
      exact beq_iff_eq.mp hs
    · intro e
      rw [e]
  | false =>
    obtain ⟨i0, h1, h2, h3⟩ := allB_first hs
    have hne : a.getD i0 0 ≠ b.getD i0 0 := by simpa using h2
    have ga := getD_lt26 oa (show i0 < a.length by omega)
    have gb := getD_lt26 ob (show i0 < b.length by omega)
    rw [lp_go (fun i => nI i) i0 (.inl (nI (a.getD i0 0) - nI (b.getD i0 0))) nI_0.symm (fun i hi => by
      rw [Option.bind_some, if_neg (nI_ge (by omega) (by omega)), Option.bind_some, if_neg (nI_ge (by omega) (by omega)), ea i (by omega), Option.bind_some, eb i (by omega), Option.bind_some, if_pos (by rw [beq_iff_eq.mp (h3 i hi)]), nI_1]) (by
      rw [Option.bind_some, if_neg (nI_ge (by omega) (by omega)), Option.bind_some, if_neg (nI_ge (by omega) (by omega)), ea i0 (by omega), Option.bind_some, eb i0 (by omega), Option.bind_some, if_neg (fun z => hne ((nI_eq (by omega) (by omega)).mp z)), Option.bind_some, Option.bind_some]) (by omega), Option.bind_some]
    refine ⟨nI (a.getD i0 0) - nI (b.getD i0 0), rfl, ?_⟩
    rw [hz (by omega) (by omega)]
    constructor
    · intro e; exact absurd e hne
    · intro e; exact absurd (by rw [e]) hne
theorem found_allB (ws : List Wd) (l : List Nat) : (findN ws l).isSome = !(allB (fun j => match ws[j]? with | some q => !(q.1 == l) | none => true) ws.length) := by
  cases hf : findN ws l with
  | none =>
    have : allB (fun j => match ws[j]? with | some q => !(q.1 == l) | none => true) ws.length = true := by
      rw [allB_iff]
      intro i hi
      obtain ⟨q, hq⟩ := get_of_lt hi
      have := findN_none hf q (List.mem_of_getElem? hq)
      rw [hq]
      simpa using this
    rw [this]
    rfl
  | some k =>
    obtain ⟨q, hq, e⟩ := findN_some hf
    cases hb : allB (fun j => match ws[j]? with | some q => !(q.1 == l) | none => true) ws.length with
    | false => rfl
    | true =>
      have := allB_iff.mp hb k (lt_of_get hq)
      simp only [hq] at this
      rw [e] at this
      simp at this
section RD9
variable {m : T9} {tb : List Nat} {ws : List Wd} {F A : Nat → Int32} {p : Nat}
theorem here_9 (hT : Tb9 tb m) (hl : tb.length ≤ 150) (hp : p < 2 ^ 31) : f_X9_here (rdm m F A (nI p)) = some (byI tb p) := by
  obtain ⟨h1, h2⟩ := hT
  unfold f_X9_here byI
  dsimp only [rdm]
  rw [h1]
  by_cases e : p < tb.length
  · rw [if_neg (nI_ge e (by omega)), rd_nI (by omega) (by omega), Option.bind_some, if_pos e, h2 p _ (List.getElem?_eq_getElem e), List.getD_eq_getElem?_getD, List.getElem?_eq_getElem e]
    rfl
  · rw [if_pos (nI_le (by omega) hp), if_neg e]
theorem inBy_9 (hb : ∀ b ∈ tb, b ≤ 127) {lo hi : Nat} {L H : Int64} (hL : (nI lo).toInt64 = L) (hH : (nI hi).toInt64 = H) (hlo : lo < 2 ^ 31) (hhi : hi < 2 ^ 31) : f_X9_in (byI tb p).toInt64 L H = some (b01 (inB tb lo hi p)) := by
  rw [inC_9 hL hH]
  congr 2
  unfold byI inB
  by_cases e : p < tb.length
  · have hle : tb.getD p 0 ≤ 127 := by
      rw [List.getD_eq_getElem?_getD, List.getElem?_eq_getElem e]
      exact hb _ (List.getElem_mem e)
    rw [if_pos e, decide_eq_true e, Bool.true_and]
    by_cases e1 : tb.getD p 0 < lo
    · rw [decide_eq_true (Or.inl (nI_lt e1 hlo)), decide_eq_false (show ¬ lo ≤ tb.getD p 0 by omega)]
      rfl
    · rw [decide_eq_true (show lo ≤ tb.getD p 0 by omega), Bool.true_and]
      by_cases e2 : hi < tb.getD p 0
      · rw [decide_eq_true (Or.inr (nI_lt e2 (by omega))), decide_eq_false (show ¬ tb.getD p 0 ≤ hi by omega)]
        rfl
      · rw [decide_eq_false (fun z => z.elim (nI_nlt (by omega) (by omega)) (nI_nlt (by omega) hhi)), decide_eq_true (show tb.getD p 0 ≤ hi by omega)]
        rfl
  · rw [if_neg e, decide_eq_false e, decide_eq_true (Or.inl (show (-1 : Int32) < nI lo from Int32.lt_of_lt_of_le (by decide) (nI_pos' hlo)))]
    rfl
/-- how reading a word may end -/
def rdWord (m : T9) (tb : List Nat) (ws : List Wd) (F A : Nat → Int32) (p n : Nat) (l : List Nat) : Prop :=
  ((n = 0 ∨ byI tb (p + n) ≠ 44) ∧ ∃ F', f_X9_readsWord (rdm m F A (nI p)) = some (0, rdm m F' A (nI (p + n)))) ∨
  (¬ (n = 0 ∨ byI tb (p + n) ≠ 44) ∧ findN ws l ≠ none ∧ ∃ F', f_X9_readsWord (rdm m F A (nI p)) = some (0, rdm m F' A (nI p))) ∨
  (¬ (n = 0 ∨ byI tb (p + n) ≠ 44) ∧ findN ws l = none ∧ ∃ F', f_X9_readsWord (rdm m F A (nI p)) = some (1, rdm m F' A (nI (p + n + 1))) ∧ (∀ i, (i < 20 + 14 * ws.length ∨ 20 + 14 * ws.length + 14 ≤ i) → F' i = F i) ∧ F' (20 + 14 * ws.length) = nI n ∧ ∀ i, i < n → F' (20 + 14 * ws.length + 4 + i) = nI (l.getD i 0))
theorem readsWord_9 (hT : Tb9 tb m) (hl : tb.length ≤ 150) (hb : ∀ b ∈ tb, b ≤ 127) (hp : p ≤ 150) (hW : R9w ws F) (ho : okWs ws) (hw : ws.length < 50) : rdWord m tb ws F A p (runN tb 97 122 10 p) (letP tb p (runN tb 97 122 10 p)) := by
  generalize hn : runN tb 97 122 10 p = n
  have hn10 : n ≤ 10 := by rw [← hn]; exact runN_le _ _ _ _ _
  have hin : ∀ i, i < n → inB tb 97 122 (p + i) = true := fun i hi => runN_in (m := 10) (by rw [hn]; exact hi)
  have hok := letP_ok hn10 hin
  have hll : (letP tb p n).length = n := by simp [letP]
  have hlg : ∀ i, i < n → (letP tb p n).getD i 0 = tb.getD (p + i) 0 - 97 := fun i hi => by
    simp [letP, List.getD_eq_getElem?_getD, hi]
  have h0 : rd (rdm m F A (nI p)).1 1050 0 = some (nI ws.length) := rd_c 0 rfl (by omega) hW.1
  have hinb : ∀ q : Nat, f_X9_in (byI tb q).toInt64 97 122 = some (b01 (inB tb 97 122 q)) := fun q => inBy_9 hb (lo := 97) (hi := 122) (by decide) (by decide) (by omega) (by omega)
  unfold rdWord f_X9_readsWord
  rw [h0, Option.bind_some]
  refine lp_use (fun z => ((n = 0 ∨ byI tb (p + n) ≠ 44) ∧ ∃ F', z = some (0, rdm m F' A (nI (p + n)))) ∨ (¬ (n = 0 ∨ byI tb (p + n) ≠ 44) ∧ findN ws (letP tb p n) ≠ none ∧ ∃ F', z = some (0, rdm m F' A (nI p))) ∨ (¬ (n = 0 ∨ byI tb (p + n) ≠ 44) ∧ findN ws (letP tb p n) = none ∧ ∃ F', z = some (1, rdm m F' A (nI (p + n + 1))) ∧ (∀ i, (i < 20 + 14 * ws.length ∨ 20 + 14 * ws.length + 14 ≤ i) → F' i = F i) ∧ F' (20 + 14 * ws.length) = nI n ∧ ∀ i, i < n → F' (20 + 14 * ws.length + 4 + i) = nI ((letP tb p n).getD i 0)))
    (fun j v => ∃ F', v = (nI j, rdm m F' A (nI (p + j))) ∧ (∀ i, (i < 20 + 14 * ws.length + 4 ∨ 20 + 14 * ws.length + 14 ≤ i) → F' i = F i) ∧ ∀ i, i < j → F' (20 + 14 * ws.length + 4 + i) = nI ((letP tb p n).getD i 0)) (fun r => ∃ F', r = (nI n, rdm m F' A (nI (p + n))) ∧ (∀ i, (i < 20 + 14 * ws.length + 4 ∨ 20 + 14 * ws.length + 14 ≤ i) → F' i = F i) ∧ ∀ i, i < n → F' (20 + 14 * ws.length + 4 + i) = nI ((letP tb p n).getD i 0)) n ⟨F, by rw [nI_0, Nat.add_zero], fun _ _ => rfl, fun i h => absurd h (Nat.not_lt_zero i)⟩ (fun j v hj hv => ?_) (fun v hv => ?_) (by omega) (fun r hr => ?_)
  · obtain ⟨F', rfl, v1, v2⟩ := hv
    obtain ⟨b1, b2, b3⟩ := inB_lt (hin j hj)
    have hby : byI tb (p + j) - 97 = nI ((letP tb p n).getD j 0) := by
      unfold byI
      rw [if_pos b1, hlg j hj]
      exact nI_sub _ 97 (by omega)
    dsimp only [rdm]
    rw [here_9 hT hl (by omega), Option.bind_some, hinb, Option.bind_some, hin j hj, if_neg (show ¬ b01 true = 0 from by decide), if_neg (show ¬ (10 : Int32) ≤ nI j from nI_ge (a := j) (b := 10) (by omega) (by omega)), at4_9, Option.bind_some, Option.bind_some, hby, wr_c _ rfl (by omega), Option.bind_some, nI_1, nI_1]
    refine ⟨_, rfl, upd F' (20 + 14 * ws.length + 4 + j) (nI ((letP tb p n).getD j 0)), rfl, fun i hi => ?_, fun i hi => ?_⟩
    · rw [upd_n (by omega)]; exact v1 i hi
    · by_cases ei : i = j
      · rw [ei, upd_e]
      · rw [upd_n (by omega)]; exact v2 i (by omega)
  · obtain ⟨F', rfl, v1, v2⟩ := hv
    dsimp only [rdm]
    rw [here_9 hT hl (by omega), Option.bind_some, hinb, Option.bind_some]
    by_cases e : n = 10
    · cases hbb : inB tb 97 122 (p + n) with
      | false =>
        rw [if_pos (show b01 false = 0 from rfl)]
        exact ⟨_, rfl, F', rfl, v1, v2⟩
      | true =>
        rw [if_neg (show ¬ b01 true = 0 from by decide), if_pos (show (10 : Int32) ≤ nI n from by rw [e]; decide)]
        exact ⟨_, rfl, F', rfl, v1, v2⟩
    · have hend : inB tb 97 122 (p + n) = false := by
        have := runN_end (tb := tb) (lo := 97) (hi := 122) (m := 10) (p := p) (by omega)
        rw [hn] at this
        exact this
      rw [hend, if_pos (show b01 false = 0 from rfl)]
      exact ⟨_, rfl, F', rfl, v1, v2⟩
  · obtain ⟨F', rfl, v1, v2⟩ := hr
    dsimp only [rdm]
    by_cases e0 : n = 0
    · rw [if_pos (show nI n = 0 from by rw [e0, nI_0])]
      exact Or.inl ⟨Or.inl e0, F', rfl⟩
    · rw [if_neg (nI_ne0 (by omega) (by omega)), here_9 hT hl (by omega), Option.bind_some]
      by_cases e44 : byI tb (p + n) = 44
      · have hnot : ¬ (n = 0 ∨ byI tb (p + n) ≠ 44) := fun z => z.elim e0 (fun q => q e44)
        rw [if_pos e44, at0_9, Option.bind_some, wr_c _ rfl (by omega), Option.bind_some]
        have g1 : ∀ i, (i < 20 + 14 * ws.length ∨ 20 + 14 * ws.length + 14 ≤ i) → upd F' (20 + 14 * ws.length) (nI n) i = F i := fun i hi => by rw [upd_n (by omega), v1 i (by omega)]
        have g2 : upd F' (20 + 14 * ws.length) (nI n) (20 + 14 * ws.length) = nI n := upd_e
        have g3 : ∀ i, i < n → upd F' (20 + 14 * ws.length) (nI n) (20 + 14 * ws.length + 4 + i) = nI ((letP tb p n).getD i 0) := fun i hi => by rw [upd_n (by omega), v2 i hi]
        generalize upd F' (20 + 14 * ws.length) (nI n) = G at g1 g2 g3 ⊢
        have hWG : R9w ws G := by
          refine ⟨by rw [g1 0 (by omega)]; exact hW.1, fun k q hk => ?_⟩
          have hkl := lt_of_get hk
          have hq := (ho.wd hk).1.1
          obtain ⟨a1, a2, a3, a4, a5⟩ := hW.2 k q hk
          exact ⟨by rw [g1 _ (by omega), a1], by rw [g1 _ (by omega), a2], by rw [g1 _ (by omega), a3], by rw [g1 _ (by omega), a4], fun i a hi => by
            have := lt_of_get hi
            rw [g1 _ (by omega), a5 i a hi]⟩
        have hlk : f_X9_of (rdm m G A (nI (p + n))) (nI ws.length) 0 = some (nI (letP tb p n).length) := by
          unfold f_X9_of
          rw [at0_9, Option.bind_some, rd_c _ rfl (by omega) (show (rdm m G A (nI (p + n))).1 (20 + 14 * ws.length) = nI (letP tb p n).length from by rw [hll]; exact g2), Option.bind_some]
        have hek : ∀ i, i < (letP tb p n).length → f_X9_letterOf (rdm m G A (nI (p + n))) (nI ws.length) (nI i) = some (nI ((letP tb p n).getD i 0)) := fun i hi => by
          rw [hll] at hi
          unfold f_X9_letterOf
          rw [at4_9, Option.bind_some, rd_c _ rfl (by omega) (show (rdm m G A (nI (p + n))).1 (20 + 14 * ws.length + 4 + i) = nI ((letP tb p n).getD i 0) from g3 i hi), Option.bind_some]
        have hknown : lp (σ := Int32 × Int32) (ρ := Int32) (fun v16 => (if nI ws.length ≤ v16.2 then (some (.inr v16.1)) else Option.bind (α := Int32) ((if v16.1 = 0 then Option.bind (α := Int32) (f_X9_compares (rdm m G A (nI (p + n))) v16.2 (nI ws.length)) (fun x21 => (if x21 = 0 then some 1 else some 0)) else some 1)) (fun j19 => (some (.inl (j19, (v16.2 + 1))))))) 5000 (0, 0) = some (b01 (findN ws (letP tb p n)).isSome) := by
          rw [found_allB]
          refine lp_go (fun j => (b01 (!(allB (fun j => match ws[j]? with | some q => !(q.1 == letP tb p n) | none => true) j)), nI j)) ws.length _ (by rw [nI_0]; rfl) (fun j hj => ?_) ?_ (by omega)
          · obtain ⟨q, hq⟩ := get_of_lt hj
            have hqok := (ho.wd hq).1
            have eL : allB (fun j => match ws[j]? with | some q => !(q.1 == letP tb p n) | none => true) (j + 1) = (allB (fun j => match ws[j]? with | some q => !(q.1 == letP tb p n) | none => true) j && !(q.1 == letP tb p n)) := by
              show (_ && (match ws[j]? with | some q => !(q.1 == letP tb p n) | none => true)) = _
              rw [hq]
            obtain ⟨r, r1, r2⟩ := comp0_9 (m := rdm m G A (nI (p + n))) (j := nI j) (k := nI ws.length) (len_9 (m := rdm m G A (nI (p + n))) hWG ho.1 hq) hlk (fun i hi => letter_9 (m := rdm m G A (nI (p + n))) hWG ho.1 hq hqok hi) hek hqok hok
            dsimp only
            rw [if_neg (nI_ge hj (by omega)), nI_1, eL, r1]
            cases allB (fun j => match ws[j]? with | some q => !(q.1 == letP tb p n) | none => true) j with
            | false => rfl
            | true =>
              rw [if_pos (show b01 (!true) = 0 from rfl), Option.bind_some]
              by_cases e : q.1 = letP tb p n
              · rw [if_pos (r2.mpr e), Option.bind_some, beq_iff_eq.mpr e]
                rfl
              · rw [if_neg (fun z => e (r2.mp z)), Option.bind_some, beq_false_of_ne e]
                rfl
          · dsimp only
            rw [if_pos (nI_le (Nat.le_refl _) (by omega))]
        dsimp only [rdm] at hknown
        rw [hknown, Option.bind_some]
        cases hf : findN ws (letP tb p n) with
        | some k =>
          rw [if_neg (show ¬ b01 (some k : Option Nat).isSome = 0 from by simp [b01]), Option.bind_some, if_neg (show ¬ b01 (some k : Option Nat).isSome = 0 from by simp [b01])]
          exact Or.inr (Or.inl ⟨hnot, by simp, G, rfl⟩)
        | none =>
          rw [if_pos (show b01 (none : Option Nat).isSome = 0 from rfl), Option.bind_some, if_pos (show b01 (none : Option Nat).isSome = 0 from rfl), nI_1]
          exact Or.inr (Or.inr ⟨hnot, rfl, G, rfl, g1, g2, g3⟩)
      · rw [if_neg e44]
        exact Or.inl ⟨Or.inr e44, F', rfl⟩
end RD9
