/-! ===== the state's own calls ===== -/
/-- the letters that the display shows -/
def shL (s : St) : List Nat := if sTap s = false ∧ 0 < sN s then (match candAt (sWs s) (sCmp s) (sPl s) (sCho s) with
  | some i => (match (sWs s)[i]? with
    | some q => q.1
    | none => [])
  | none => []) else (sPl s).map (fun c => shC c - 1)
theorem map_sh {p : List Nat} (h : okP p) : p.map shC = cdL (p.map (fun c => shC c - 1)) ∧ okL (p.map (fun c => shC c - 1)) := by
  constructor
  · unfold cdL
    rw [List.map_map]
    apply List.map_congr_left
    intro c hc
    have := shC_rng (h.2 c hc)
    show shC c = shC c - 1 + 1
    omega
  · refine ⟨by simpa using h.1, fun a ha => ?_⟩
    obtain ⟨c, hc, rfl⟩ := List.mem_map.mp ha
    have := shC_rng (h.2 c hc)
    omega
theorem fitsB_le {l p : List Nat} (h : fitsB l p = true) : p.length ≤ l.length := by
  by_cases e : p.length = 0
  · omega
  · have := allB_iff.mp h (p.length - 1) (by omega)
    unfold fitAt at this
    simp only [Bool.and_eq_true, decide_eq_true_eq] at this
    omega
/-- a chosen candidate there is -/
theorem cand_some {s : St} (ho : okSt s) (hn : 0 < sN s) : ∃ i q, candAt (sWs s) (sCmp s) (sPl s) (sCho s) = some i ∧ (sWs s)[i]? = some q ∧ fitsC (sCmp s) (sPl s) q = true := by
  obtain ⟨hw, -, -, -, -, hc, -⟩ := ho
  have hlt : sCho s < sN s := by rcases hc with h | h <;> omega
  have hp : sPl s ≠ [] := fun e => by unfold sN at hn; rw [if_pos e] at hn; omega
  unfold sN at hlt
  rw [if_neg hp] at hlt
  -- a sorted row of all of them
  have hex : ∀ m, m ≤ (sWs s).length → ∃ l, isCand (sWs s) (sCmp s) (sPl s) m l := by
    intro m
    induction m with
    | zero => exact fun _ => ⟨[], List.Pairwise.nil, fun i => by simp⟩
    | succ m ih =>
      intro hm
      obtain ⟨l, h1, h2⟩ := ih (by omega)
      by_cases hf : fitsCAt (sWs s) (sCmp s) (sPl s) m = true
      · -- put it in its place
        have hins : ∀ (l : List Nat), srtC (sWs s) (sPl s).length l → (∀ i ∈ l, i < (sWs s).length ∧ i ≠ m) → ∃ l', srtC (sWs s) (sPl s).length l' ∧ ∀ i, i ∈ l' ↔ i = m ∨ i ∈ l := by
          intro l
          induction l with
          | nil => exact fun _ _ => ⟨[m], List.pairwise_singleton _ _, fun i => by simp⟩
          | cons x t iht =>
            intro hs hm2
            obtain ⟨s1, s2⟩ := List.pairwise_cons.mp hs
            have hx := hm2 x List.mem_cons_self
            cases hc : comesAt (sWs s) (sPl s).length m x with
            | true =>
              refine ⟨m :: x :: t, List.pairwise_cons.mpr ⟨fun i hi => ?_, hs⟩, fun i => by simp⟩
              rcases List.mem_cons.mp hi with z | z
              · rw [z]; exact hc
              · exact comesAt_tr hc (s1 i z)
            | false =>
              have hxm := comesAt_tot hw (by omega) hx.1 hx.2.symm hc
              obtain ⟨l', t1, t2⟩ := iht s2 (fun i hi => hm2 i (List.mem_cons_of_mem _ hi))
              refine ⟨x :: l', List.pairwise_cons.mpr ⟨fun i hi => ?_, t1⟩, fun i => ?_⟩
              · rcases (t2 i).mp hi with z | z
                · rw [z]; exact hxm
                · exact s1 i z
              · rw [List.mem_cons, t2 i, List.mem_cons]
                constructor
                · rintro (h | h | h)
                  · exact Or.inr (Or.inl h)
                  · exact Or.inl h
                  · exact Or.inr (Or.inr h)
                · rintro (h | h | h)
                  · exact Or.inr (Or.inl h)
                  · exact Or.inl h
                  · exact Or.inr (Or.inr h)
        obtain ⟨l', k1, k2⟩ := hins l h1 (fun i hi => by have := (h2 i).mp hi; exact ⟨by omega, by omega⟩)
        refine ⟨l', k1, fun i => ?_⟩
        rw [k2 i, h2 i]
        constructor
        · rintro (h | h)
          · rw [h]; exact ⟨by omega, hf⟩
          · exact ⟨by omega, h.2⟩
        · rintro ⟨a1, a2⟩
          by_cases e : i = m
          · exact Or.inl e
          · exact Or.inr ⟨by omega, a2⟩
      · refine ⟨l, h1, fun i => ?_⟩
        rw [h2 i]
        constructor
        · exact fun h => ⟨by omega, h.2⟩
        · rintro ⟨a1, a2⟩
          refine ⟨?_, a2⟩
          by_cases e : i = m
          · rw [e] at a2; exact absurd a2 hf
          · omega
  obtain ⟨l, hl⟩ := hex _ (Nat.le_refl _)
  have hlen := hl.len
  obtain ⟨i, hi⟩ := get_of_lt (show sCho s < l.length by omega)
  have h1 := (hl.2 i).mp (List.mem_of_getElem? hi)
  obtain ⟨q, hq⟩ := get_of_lt h1.1
  refine ⟨i, q, by rw [hl.candAt, hi], hq, ?_⟩
  rw [← fitsCAt_e hq]
  exact h1.2
theorem shL_ok {s : St} (ho : okSt s) : okL (shL s) ∧ (sPl s).length ≤ (shL s).length := by
  unfold shL
  by_cases e : sTap s = false ∧ 0 < sN s
  · rw [if_pos e]
    obtain ⟨i, q, h1, h2, h3⟩ := cand_some ho e.2
    rw [h1]
    dsimp only
    rw [h2]
    refine ⟨(ho.1.wd h2).1, ?_⟩
    unfold fitsC at h3
    rw [Bool.and_eq_true] at h3
    exact fitsB_le h3.2
  · rw [if_neg e]
    exact ⟨(map_sh ho.2.2.2.1).2, by simp⟩
theorem findS {s : St} {w : T5} (hR : R5 s w) (ho : okSt s) (w0 : T0) : ∃ w' l, f_X0_find w0 w = some w' ∧ R0 l w' ∧ l.length = sN s ∧ l.length ≤ 50 ∧ (0 < sN s → isCand (sWs s) (sCmp s) (sPl s) (sWs s).length l) := by
  have h4 := hR.2.2.2
  obtain ⟨w', l, h1, h2, h3, h5⟩ := find_0 (w := w) hR.1 ho.1 ho.2.2.2.1 (cmp := sCmp s) (by rw [h4]) (by rw [h4]) w0
  refine ⟨w', l, h1, h2, ?_, h5, fun hn => ?_⟩
  · unfold sN
    by_cases e : sPl s = []
    · rw [if_pos e] at h3 ⊢
      rw [h3]; rfl
    · rw [if_neg e] at h3 ⊢
      exact h3.len
  · by_cases e : sPl s = []
    · unfold sN at hn; rw [if_pos e] at hn; omega
    · rw [if_neg e] at h3; exact h3
theorem disp_8 {s : St} {x : T8} (hR : R5 s x.2.2.1) (ho : okSt s) : ∃ c, f_X8_displayed x = some (pk (cdL (shL s)), c) := by
  have h4 := hR.2.2.2
  have h5 : x.2.2.1.2.2.2.2.2.1 = b01 (sTap s) := by rw [h4]
  have h6 : x.2.2.1.2.2.2.2.2.2.2.1 = pk (sPl s) := by rw [h4]
  have h7 : x.2.2.1.2.2.2.2.2.2.2.2.1 = nI (sCho s) := by rw [h4]
  have hm := map_sh ho.2.2.2.1
  have hno : ¬ (sTap s = false ∧ 0 < sN s) → shL s = (sPl s).map (fun c => shC c - 1) := fun e => by unfold shL; rw [if_neg e]
  unfold f_X8_displayed
  rw [h5, h6, h7]
  cases ht : sTap s with
  | true =>
    rw [if_neg (show ¬ b01 true = 0 from by decide), firstLetters_pk ho.2.2.2.1, Option.bind_some, hm.1, hno (by rw [ht]; simp)]
    exact ⟨_, rfl⟩
  | false =>
    rw [if_pos (show b01 false = 0 from rfl)]
    obtain ⟨w', l, k1, k2, k3, k4, k5⟩ := findS hR ho x.2.2.2.2
    rw [k1, Option.bind_some, k2.1]
    by_cases hn : 0 < sN s
    · rw [if_neg (show ¬ nI l.length ≤ 0 from nI_ge (a := 0) (by omega) (by omega))]
      obtain ⟨i, q, c1, c2, c3⟩ := cand_some ho hn
      have hl := k5 hn
      rw [hl.candAt] at c1
      rw [cwordAt_0 k2 k4 c1, Option.bind_some, wordAt_6 hR.1 ho.1.1 c2, Option.bind_some]
      refine ⟨w', ?_⟩
      have : shL s = q.1 := by
        unfold shL
        rw [if_pos ⟨ht, hn⟩, hl.candAt, c1]
        dsimp only
        rw [c2]
      rw [this]
    · rw [if_pos (show nI l.length ≤ 0 from nI_le (b := 0) (by omega) (by omega)), firstLetters_pk ho.2.2.2.1, Option.bind_some, hm.1, hno (fun e => hn e.2)]
      exact ⟨_, rfl⟩
/-- one place more -/
def addN (s : St) (k : Nat) : St := (sWs s, sTx s, sClk s, sAge s, sCmp s, sTap s, (if sTap s then nI k else -1), sPl s ++ [if sTap s then firN k + 1 else 30 + k], 0, sOpn s)
theorem add_5 {s : St} {w : T5} (hR : R5 s w) (ho : okSt s) {k : Nat} (hk : 2 ≤ k ∧ k ≤ 9) (hl : (sPl s).length < 10) : ∃ x, f_X5_addPlace w (nI k) = some x ∧ R5 (addN s k) (w.1, w.2.1, x) ∧ okSt (addN s k) := by
  have hpl := places_5 hR ho
  obtain ⟨r1, r2, r3, r4⟩ := hR
  obtain ⟨o1, o2, o3, o4, o5, o6, o7⟩ := ho
  have hpen : sTap s = false → sPen s = -1 := fun h => by
    by_cases e : sPen s = -1
    · exact e
    · have := (o5 e).1
      rw [h] at this; cases this
  have hf := firN_lt k (by omega)
  unfold f_X5_addPlace
  rw [hpl, Option.bind_some, Option.bind_some, r4]
  dsimp only
  cases ht : sTap s with
  | true =>
    rw [if_neg (show ¬ b01 true = 0 from by decide), firstLetter_nI hk, Option.bind_some]
    have e1 : f_X4_codeOfLetter (nI (firN k)) = some (nI (firN k + 1)) := by unfold f_X4_codeOfLetter; rw [nI_1]
    obtain ⟨a1, a2⟩ := with_app o4.c hl (c := firN k + 1) (by omega)
    rw [e1, Option.bind_some, a1, Option.bind_some, Option.bind_some]
    have e2 : addN s k = (sWs s, sTx s, sClk s, sAge s, sCmp s, true, nI k, sPl s ++ [firN k + 1], 0, sOpn s) := by unfold addN; rw [ht]; rfl
    rw [e2]
    refine ⟨_, rfl, ⟨r1, r2, r3, rfl⟩, o1, o2, o3, ⟨a2.1, fun c hc => ?_⟩, fun _ => ⟨rfl, by simp [sPl], ?_⟩, Or.inl rfl, o7⟩
    · rcases List.mem_append.mp hc with z | z
      · exact o4.2 c z
      · rw [List.mem_singleton.mp z]; omega
    · show (sPl s ++ [firN k + 1]).getD ((sPl s ++ [firN k + 1]).length - 1) 0 ≤ 26
      simp [List.getD_eq_getElem?_getD]
      omega
  | false =>
    rw [if_pos (show b01 false = 0 from rfl)]
    have e1 : f_X4_codeOfKey (nI k) = some (nI (30 + k)) := by
      unfold f_X4_codeOfKey
      rw [← nI_add]
      rfl
    obtain ⟨a1, a2⟩ := with_app o4.c hl (c := 30 + k) (by omega)
    rw [e1, Option.bind_some, a1, Option.bind_some, Option.bind_some]
    have e2 : addN s k = (sWs s, sTx s, sClk s, sAge s, sCmp s, false, -1, sPl s ++ [30 + k], 0, sOpn s) := by unfold addN; rw [ht]; rfl
    rw [e2]
    refine ⟨_, rfl, ⟨r1, r2, r3, ?_⟩, o1, o2, o3, ⟨a2.1, fun c hc => ?_⟩, fun h => absurd rfl h, Or.inl rfl, o7⟩
    · rw [hpen ht]; rfl
    · rcases List.mem_append.mp hc with z | z
      · exact o4.2 c z
      · rw [List.mem_singleton.mp z]; omega
