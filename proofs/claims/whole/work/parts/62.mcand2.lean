/-! ===== the reference's candidates, counted and by number ===== -/
theorem find_fst (p : Nat → Bool) : ∀ n, (List.range n).find? p = fstN p n
  | 0 => rfl
  | n + 1 => by
    have e : fstN p (n + 1) = (match fstN p n with | some j => some j | none => if p n then some n else none) := rfl
    rw [List.range_succ, List.find?_append, find_fst p n, e]
    cases fstN p n with
    | some j => rfl
    | none =>
      cases h : p n with
      | true => simp [h]
      | false => simp [h]
section M9
variable {m : T9} {s : St}
theorem grp_m1 {cmp : Bool} {p : List Nat} {q : Wd} : grpI cmp p q = -1 ↔ ¬ (p ≠ [] ∧ fitsC cmp p q = true) := by
  unfold grpI
  by_cases h : p ≠ [] ∧ fitsC cmp p q = true
  · rw [if_pos h]
    constructor
    · intro z
      split at z <;> exact absurd z (by decide)
    · intro z; exact absurd h z
  · rw [if_neg h]
    exact ⟨fun _ => h, fun _ => rfl⟩
theorem candidates_9 (hW : R9w (sWs s) m.1) (hP : R9p (sPl s) m.1) (h3 : m.1 3 = b01 (sCmp s)) (ho : okWs (sWs s)) (hp : okP (sPl s)) : f_X9_candidates m = some (nI (sN s)) := by
  have hl := ho.1
  have hN : sN s = cnt (fun i => decide (sPl s ≠ []) && fitsCAt (sWs s) (sCmp s) (sPl s) i) (sWs s).length := by
    unfold sN
    by_cases e : sPl s = []
    · rw [if_pos e]
      have : cnt (fun i => decide (sPl s ≠ []) && fitsCAt (sWs s) (sCmp s) (sPl s) i) (sWs s).length = cnt (fun _ => false) (sWs s).length := cnt_congr (fun i _ => by rw [decide_eq_false (fun z => z e)]; rfl)
      rw [this]
      have hz : ∀ n, cnt (fun _ => false) n = 0 := fun n => by
        induction n with
        | zero => rfl
        | succ n ih => rw [cnt_succ, ih]; rfl
      rw [hz]
    · rw [if_neg e]
      exact cnt_congr (fun i _ => by rw [decide_eq_true e]; rfl)
  rw [hN]
  unfold f_X9_candidates
  rw [many_9 hW]
  refine lp_count _ (sWs s).length (fun i c hi => ?_) (fun c => ?_) (by omega)
  · obtain ⟨q, hq⟩ := get_of_lt hi
    rw [Option.bind_some]
    dsimp only
    rw [if_neg (nI_ge hi (by omega)), groupOf_9 hW hP h3 ho hp hq, Option.bind_some, fitsCAt_e hq, nI_1]
    by_cases e : sPl s ≠ [] ∧ fitsC (sCmp s) (sPl s) q = true
    · rw [if_neg (fun z => grp_m1.mp z e), Option.bind_some, decide_eq_true e.1, e.2]
      rfl
    · rw [if_pos (grp_m1.mpr e), Option.bind_some]
      have : (decide (sPl s ≠ []) && fitsC (sCmp s) (sPl s) q) = false := by
        cases h : (decide (sPl s ≠ []) && fitsC (sCmp s) (sPl s) q) with
        | false => rfl
        | true =>
          simp only [Bool.and_eq_true, decide_eq_true_eq] at h
          exact absurd h e
      rw [this]
      simp
  · rw [Option.bind_some]
    dsimp only
    rw [if_pos (nI_le (Nat.le_refl _) (by omega))]
theorem candidateAt_9 (hW : R9w (sWs s) m.1) (hP : R9p (sPl s) m.1) (h3 : m.1 3 = b01 (sCmp s)) (ho : okWs (sWs s)) (hp : okP (sPl s)) (hne : sPl s ≠ []) {t : Nat} (ht : t < 2 ^ 31) : f_X9_candidateAt m (nI t) = some (idxI (candAt (sWs s) (sCmp s) (sPl s) t)) := by
  have hl := ho.1
  unfold candAt
  rw [find_fst]
  unfold f_X9_candidateAt
  rw [many_9 hW]
  have hstep : ∀ i, i < (sWs s).length → Option.bind (f_X9_groupOf m (nI i)) (fun x5 => (if x5 = (-1) then (some (.inl (nI i + 1)) : Option (Int32 ⊕ Int32)) else Option.bind (lp (σ := Int32 × Int32) (ρ := Int32) (fun v7 => Option.bind (some (nI (sWs s).length)) (fun x9 => (if x9 ≤ v7.2 then (some (.inr v7.1)) else Option.bind (f_X9_groupOf m v7.2) (fun x11 => Option.bind ((if x11 = (-1) then some 0 else (if x11 < x5 then some 1 else (if x11 = x5 then (if v7.2 = nI i then some 0 else Option.bind (f_X9_isAhead m v7.2 (nI i)) (fun x17 => (if x17 = 0 then some 0 else some 1))) else some 0)))) (fun j12 => (some (.inl ((v7.1 + j12), (v7.2 + 1))))))))) 5000 (0, 0)) (fun x8 => (if x8 = nI t then (some (.inr (nI i))) else (some (.inl (nI i + 1))))))) = if (fitsCAt (sWs s) (sCmp s) (sPl s) i && aheadC (sWs s) (sCmp s) (sPl s) i == t) then some (.inr (nI i)) else some (.inl (nI (i + 1))) := by
    intro i hi
    obtain ⟨q, hq⟩ := get_of_lt hi
    have hqok := ho.wd hq
    rw [groupOf_9 hW hP h3 ho hp hq, Option.bind_some, nI_1, fitsCAt_e hq]
    cases hf : fitsC (sCmp s) (sPl s) q with
    | false =>
      rw [if_pos (grp_m1.mpr (fun z => by rw [hf] at z; cases z.2))]
      rfl
    | true =>
      rw [if_neg (fun z => grp_m1.mp z ⟨hne, hf⟩)]
      have hcount : lp (σ := Int32 × Int32) (ρ := Int32) (fun v7 => Option.bind (some (nI (sWs s).length)) (fun x9 => (if x9 ≤ v7.2 then (some (.inr v7.1)) else Option.bind (f_X9_groupOf m v7.2) (fun x11 => Option.bind ((if x11 = (-1) then some 0 else (if x11 < grpI (sCmp s) (sPl s) q then some 1 else (if x11 = grpI (sCmp s) (sPl s) q then (if v7.2 = nI i then some 0 else Option.bind (f_X9_isAhead m v7.2 (nI i)) (fun x17 => (if x17 = 0 then some 0 else some 1))) else some 0)))) (fun j12 => (some (.inl ((v7.1 + j12), (v7.2 + 1))))))))) 5000 (0, 0) = some (nI (aheadC (sWs s) (sCmp s) (sPl s) i)) := by
        refine lp_count (fun j => fitsCAt (sWs s) (sCmp s) (sPl s) j && comesAt (sWs s) (sPl s).length j i) (sWs s).length (fun j c hj => ?_) (fun c => ?_) (by omega)
        · obtain ⟨a, ha⟩ := get_of_lt hj
          rw [Option.bind_some]
          dsimp only
          rw [if_neg (nI_ge hj (by omega)), groupOf_9 hW hP h3 ho hp ha, Option.bind_some, fitsCAt_e ha, comesAt_e ha hq, nI_1]
          have hleq : (sPl s).length ≤ q.1.length := by
            unfold fitsC at hf
            rw [Bool.and_eq_true] at hf
            exact fitsB_le hf.2
          have hlq : longC q (sPl s).length = !decide (q.1.length = (sPl s).length) := by
            unfold longC
            by_cases e : q.1.length = (sPl s).length
            · rw [decide_eq_true e, decide_eq_false (by omega)]; rfl
            · rw [decide_eq_false e, decide_eq_true (by omega)]; rfl
          have hgq : grpI (sCmp s) (sPl s) q = if q.1.length = (sPl s).length then 0 else 1 := by
            unfold grpI; rw [if_pos ⟨hne, hf⟩]
          cases hfa : fitsC (sCmp s) (sPl s) a with
          | false =>
            rw [if_pos (grp_m1.mpr (fun z => by rw [hfa] at z; cases z.2)), Option.bind_some]
            simp
          | true =>
            have hlea : (sPl s).length ≤ a.1.length := by
              unfold fitsC at hfa
              rw [Bool.and_eq_true] at hfa
              exact fitsB_le hfa.2
            have hla : longC a (sPl s).length = !decide (a.1.length = (sPl s).length) := by
              unfold longC
              by_cases e : a.1.length = (sPl s).length
              · rw [decide_eq_true e, decide_eq_false (by omega)]; rfl
              · rw [decide_eq_false e, decide_eq_true (by omega)]; rfl
            have hga : grpI (sCmp s) (sPl s) a = if a.1.length = (sPl s).length then 0 else 1 := by
              unfold grpI; rw [if_pos ⟨hne, hfa⟩]
            rw [if_neg (fun z => grp_m1.mp z ⟨hne, hfa⟩), hga, hgq]
            unfold comes
            rw [hla, hlq]
            have hah : (if nI j = nI i then some (0 : Int32) else Option.bind (f_X9_isAhead m (nI j) (nI i)) (fun x17 => (if x17 = 0 then some 0 else some 1))) = some (b01 (ahead a q)) := by
              by_cases e : j = i
              · subst e
                rw [ha] at hq
                cases hq
                rw [if_pos rfl, ahead_irr]
                rfl
              · rw [if_neg (fun z => e ((nI_eq (by omega) (by omega)).mp z)), isAhead_9 hW ho ha hq, Option.bind_some]
                cases ahead a q <;> rfl
            by_cases ea : a.1.length = (sPl s).length <;> by_cases eq : q.1.length = (sPl s).length
            · rw [if_pos ea, if_pos eq, if_neg (by decide), if_pos rfl, hah, Option.bind_some, decide_eq_true ea, decide_eq_true eq]
              cases ahead a q <;> simp [b01]
            · rw [if_pos ea, if_neg eq, if_pos (by decide), Option.bind_some, decide_eq_true ea, decide_eq_false eq]
              simp
            · rw [if_neg ea, if_pos eq, if_neg (by decide), if_neg (by decide), Option.bind_some, decide_eq_false ea, decide_eq_true eq]
              simp
            · rw [if_neg ea, if_neg eq, if_neg (by decide), if_pos rfl, hah, Option.bind_some, decide_eq_false ea, decide_eq_false eq]
              cases ahead a q <;> simp [b01]
        · rw [Option.bind_some]
          dsimp only
          rw [if_pos (nI_le (Nat.le_refl _) (by omega))]
      rw [hcount, Option.bind_some]
      have hle : aheadC (sWs s) (sCmp s) (sPl s) i ≤ (sWs s).length := cnt_le _ _
      by_cases e : aheadC (sWs s) (sCmp s) (sPl s) i = t
      · rw [if_pos (by rw [e]), e]; simp
      · rw [if_neg (fun z => e ((nI_eq (by omega) ht).mp z)), beq_false_of_ne e]; simp
  cases hs : fstN (fun i => fitsCAt (sWs s) (sCmp s) (sPl s) i && aheadC (sWs s) (sCmp s) (sPl s) i == t) (sWs s).length with
  | none =>
    refine lp_go (fun i => nI i) (sWs s).length _ nI_0.symm (fun i hi => ?_) ?_ (by omega)
    · rw [Option.bind_some, if_neg (nI_ge hi (by omega)), hstep i hi, fstN_none hs i hi, if_neg (by decide)]
    · rw [Option.bind_some, if_pos (nI_le (Nat.le_refl _) (by omega))]
      rfl
  | some i0 =>
    obtain ⟨s1, s2, s3⟩ := fstN_some hs
    refine lp_go (fun i => nI i) i0 _ nI_0.symm (fun i hi => ?_) ?_ (by omega)
    · rw [Option.bind_some, if_neg (nI_ge (by omega) (by omega)), hstep i (by omega), s3 i hi, if_neg (by decide)]
    · rw [Option.bind_some, if_neg (nI_ge s1 (by omega)), hstep i0 s1, s2, if_pos rfl]
      rfl
end M9
