/-! ===== the reference's candidates ===== -/
def grpI (cmp : Bool) (p : List Nat) (q : Wd) : Int32 := if p ≠ [] ∧ fitsC cmp p q = true then (if q.1.length = p.length then 0 else 1) else -1
section M9
variable {m : T9} {s : St}
theorem places_9 (hR : R9p (sPl s) m.1) : rd m.1 1050 6 = some (nI (sPl s).length) := by
  have h : rd m.1 1050 (nI 6) = some (m.1 6) := rd_nI (by omega) (by omega)
  rw [hR.1] at h
  exact h
theorem fits_9 (hW : R9w (sWs s) m.1) (hP : R9p (sPl s) m.1) (ho : okWs (sWs s)) (hp : okP (sPl s)) {k : Nat} {q : Wd} (hk : (sWs s)[k]? = some q) {i : Nat} (hi : i < (sPl s).length) (hiq : i < q.1.length) : f_X9_fits m (nI k) (nI i) = some (b01 (fitAt q.1 (sPl s) i)) := by
  have hl := ho.1
  have hq := (ho.wd hk).1
  have hpl := hp.1
  have hc := getD_P hp hi
  have ha := getD_lt26 hq hiq
  have hkey := keyN_rng _ ha
  have e10 : (10 : Int32) + nI i = nI (10 + i) := nI_add 10 i
  have hpv : m.1 (10 + i) = placeI ((sPl s).getD i 0) := by
    have := hP.2 i _ (List.getElem?_eq_getElem hi)
    rw [this, List.getD_eq_getElem?_getD, List.getElem?_eq_getElem hi]
    rfl
  unfold f_X9_fits
  rw [e10, rd_nI (by omega) (by omega), Option.bind_some, letter_9 hW hl hk hq hiq, Option.bind_some, hpv]
  unfold placeI fitAt
  rw [decide_eq_true hiq]
  generalize (sPl s).getD i 0 = c at *
  generalize q.1.getD i 0 = a at *
  by_cases e : c ≤ 26
  · have e1 : nI (100 + (c - 1)) - 100 = nI (c - 1) := by
      have := nI_sub (100 + (c - 1)) 100 (by omega)
      rw [show 100 + (c - 1) - 100 = c - 1 by omega] at this
      exact this
    rw [if_pos e, if_neg (show ¬ nI (100 + (c - 1)) < 100 from nI_nlt (b := 100) (by omega) (by omega)), e1]
    by_cases e2 : c = a + 1
    · rw [if_pos (by rw [e2]; rfl), e2]; simp [b01]
    · rw [if_neg (fun z => e2 (by have := (nI_eq (by omega) (by omega)).mp z; omega)), beq_false_of_ne e2, beq_false_of_ne (show c ≠ 30 + keyN a by omega)]
      rfl
  · rw [if_neg e, if_pos (show nI (c - 30) < 100 from nI_lt (b := 100) (by omega) (by omega)), keyOf_9 a ha, Option.bind_some]
    by_cases e2 : c = 30 + keyN a
    · rw [if_pos (by rw [e2]; congr 1; omega), e2]; simp [b01]
    · rw [if_neg (fun z => e2 (by have := (nI_eq (by omega) (by omega)).mp z; omega)), beq_false_of_ne e2, beq_false_of_ne (show c ≠ a + 1 by omega)]
      rfl
theorem groupOf_9 (hW : R9w (sWs s) m.1) (hP : R9p (sPl s) m.1) (h3 : m.1 3 = b01 (sCmp s)) (ho : okWs (sWs s)) (hp : okP (sPl s)) {k : Nat} {q : Wd} (hk : (sWs s)[k]? = some q) : f_X9_groupOf m (nI k) = some (grpI (sCmp s) (sPl s) q) := by
  have hl := ho.1
  have hq := (ho.wd hk).1
  have hql := hq.1
  have hpl := hp.1
  have hc3 : rd m.1 1050 3 = some (b01 (sCmp s)) := by
    have h : rd m.1 1050 (nI 3) = some (m.1 3) := rd_nI (by omega) (by omega)
    rw [h3] at h
    exact h
  -- the first question
  have hj : (if nI (sPl s).length ≤ 0 then some (0 : Int32) else Option.bind (f_X9_of m (nI k) 0) (fun x4 => (if x4 = nI (sPl s).length then some 1 else Option.bind (rd m.1 1050 3) (fun x6 => (if x6 = 1 then Option.bind (f_X9_of m (nI k) 0) (fun x8 => (if x8 ≤ nI (sPl s).length then some 0 else some 1)) else some 0))))) = some (b01 (decide (0 < (sPl s).length) && (decide (q.1.length = (sPl s).length) || (sCmp s && decide ((sPl s).length < q.1.length))))) := by
    rw [len_9 hW hl hk, hc3, Option.bind_some, Option.bind_some, Option.bind_some]
    by_cases e0 : (sPl s).length = 0
    · rw [if_pos (show nI (sPl s).length ≤ 0 from by rw [e0]; decide), e0]
      rfl
    · rw [if_neg (show ¬ nI (sPl s).length ≤ 0 from nI_ge (a := 0) (by omega) (by omega)), decide_eq_true (show 0 < (sPl s).length by omega)]
      by_cases e1 : q.1.length = (sPl s).length
      · rw [if_pos (by rw [e1]), decide_eq_true e1]
        rfl
      · rw [if_neg (fun z => e1 ((nI_eq (by omega) (by omega)).mp z)), decide_eq_false e1]
        cases sCmp s with
        | false => rfl
        | true =>
          rw [if_pos (show b01 true = 1 from rfl)]
          by_cases e2 : (sPl s).length < q.1.length
          · rw [if_neg (nI_ge e2 (by omega)), decide_eq_true e2]; rfl
          · rw [if_pos (nI_le (by omega) (by omega)), decide_eq_false e2]; rfl
  unfold f_X9_groupOf
  rw [places_9 hP, Option.bind_some, hj, Option.bind_some]
  have hfin : ∀ (fl : Bool), (fl = true ↔ (sPl s ≠ [] ∧ fitsC (sCmp s) (sPl s) q = true)) → (if b01 fl = 0 then some (-1) else Option.bind (f_X9_of m (nI k) 0) (fun x16 => (if x16 = nI (sPl s).length then some 0 else some 1))) = some (grpI (sCmp s) (sPl s) q) := by
    intro fl hfl
    unfold grpI
    rw [len_9 hW hl hk, Option.bind_some]
    cases fl with
    | false =>
      rw [if_pos (show b01 false = 0 from rfl), if_neg (fun z => by have := hfl.mpr z; cases this)]
    | true =>
      rw [if_neg (show ¬ b01 true = 0 from by decide), if_pos (hfl.mp rfl)]
      by_cases e1 : q.1.length = (sPl s).length
      · rw [if_pos (by rw [e1]), if_pos e1]
      · rw [if_neg (fun z => e1 ((nI_eq (by omega) (by omega)).mp z)), if_neg e1]
  have hlong : longC q (sPl s).length = decide ((sPl s).length < q.1.length) := rfl
  cases hb : (decide (0 < (sPl s).length) && (decide (q.1.length = (sPl s).length) || (sCmp s && decide ((sPl s).length < q.1.length)))) with
  | false =>
    rw [lp_go (fun i => (b01 false, nI i)) 0 (b01 false) (by rw [nI_0]) (fun i hi => absurd hi (Nat.not_lt_zero i)) (by
      dsimp only
      by_cases e0 : nI (sPl s).length ≤ nI 0
      · rw [if_pos e0]
      · rw [if_neg e0, if_pos (show b01 false = 0 from rfl)]) (by omega), Option.bind_some]
    refine hfin false ⟨fun z => (by cases z), fun z => ?_⟩
    obtain ⟨z1, z2⟩ := z
    exfalso
    unfold fitsC at z2
    rw [hlong, Bool.and_eq_true] at z2
    have hle := fitsB_le z2.2
    have h0 : 0 < (sPl s).length := List.length_pos_iff.mpr z1
    rw [decide_eq_true h0, Bool.true_and] at hb
    by_cases e1 : q.1.length = (sPl s).length
    · rw [decide_eq_true e1] at hb; cases hb
    · have e2 : (sPl s).length < q.1.length := by omega
      rw [decide_eq_true e2] at hb z2
      cases hcm : sCmp s with
      | false => rw [hcm] at z2; simp at z2
      | true => rw [hcm] at hb; simp at hb
  | true =>
    simp only [Bool.and_eq_true, decide_eq_true_eq, Bool.or_eq_true] at hb
    obtain ⟨h0, h1⟩ := hb
    have hle : (sPl s).length ≤ q.1.length := by rcases h1 with h | h <;> omega
    have hne : sPl s ≠ [] := List.length_pos_iff.mp h0
    have hcm : (sCmp s || !longC q (sPl s).length) = true := by
      rw [hlong]
      rcases h1 with h | h
      · rw [decide_eq_false (show ¬ (sPl s).length < q.1.length by omega)]; simp
      · rw [h.1]; rfl
    have hres : lp (σ := Int32 × Int32) (ρ := Int32) (fun v10 => (if nI (sPl s).length ≤ v10.2 then (some (.inr v10.1)) else (if v10.1 = 0 then (some (.inr v10.1)) else Option.bind (α := Int32) (f_X9_fits m (nI k) v10.2) (fun x14 => (some (.inl (x14, (v10.2 + 1)))))))) 5000 (b01 true, 0) = some (b01 (fitsB q.1 (sPl s))) := by
      cases hf : fitsB q.1 (sPl s) with
      | true =>
        have hall := allB_iff.mp hf
        refine lp_go (fun i => (b01 true, nI i)) (sPl s).length _ (by rw [nI_0]) (fun i hi => ?_) ?_ (by omega)
        · dsimp only
          rw [if_neg (nI_ge hi (by omega)), if_neg (show ¬ b01 true = 0 from by decide), fits_9 hW hP ho hp hk hi (by omega), hall i hi, Option.bind_some, nI_1]
        · dsimp only
          rw [if_pos (nI_le (Nat.le_refl _) (by omega))]
      | false =>
        obtain ⟨k0, f1, f2, f3⟩ := allB_first hf
        refine lp_go (fun i => (b01 (decide (i ≤ k0)), nI i)) (k0 + 1) _ (by rw [nI_0, decide_eq_true (Nat.zero_le k0)]) (fun i hi => ?_) ?_ (by omega)
        · dsimp only
          rw [decide_eq_true (show i ≤ k0 by omega), if_neg (nI_ge (by omega) (by omega)), if_neg (show ¬ b01 true = 0 from by decide), fits_9 hW hP ho hp hk (by omega) (by omega), Option.bind_some, nI_1]
          by_cases e : i = k0
          · rw [e, f2, decide_eq_false (show ¬ k0 + 1 ≤ k0 by omega)]
          · rw [f3 i (by omega), decide_eq_true (show i + 1 ≤ k0 by omega)]
        · dsimp only
          rw [decide_eq_false (show ¬ k0 + 1 ≤ k0 by omega)]
          by_cases e0 : nI (sPl s).length ≤ nI (k0 + 1)
          · rw [if_pos e0]
          · rw [if_neg e0, if_pos (show b01 false = 0 from rfl)]
    rw [hres, Option.bind_some]
    refine hfin _ ⟨fun z => ⟨hne, ?_⟩, fun z => ?_⟩
    · unfold fitsC
      rw [hcm, z]; rfl
    · have := z.2
      unfold fitsC at this
      rw [hcm] at this
      simpa using this
end M9
