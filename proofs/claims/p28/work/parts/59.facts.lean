/-! ===== what a list's numbers must be ===== -/
theorem rankW_len {ws : List Wd} {q : Wd} (hq : q ∈ ws) : rankW ws q < ws.length := by
  have h1 := countP_lt (p := fun a => ahead a q) (p' := fun _ => true) (x := q) (l := ws) (fun _ _ _ => rfl) hq (ahead_irr q) rfl
  rw [List.countP_true] at h1
  exact h1
theorem totN_ind (f : Wd → Nat) (p : Wd → Bool) : ∀ l : List Wd, totN (fun q => f q + if p q then 1 else 0) l = totN f l + l.countP p
  | [] => rfl
  | a :: l => by
    have := totN_ind f p l
    rw [List.countP_cons]
    simp only [totN, this]
    omega
theorem countP_two {p p' : Wd → Bool} : ∀ {l : List Wd}, (∀ a ∈ l, p a = !p' a) → l.countP p + l.countP p' = l.length
  | [], _ => rfl
  | a :: l, h => by
    have ih := countP_two (l := l) (fun z hz => h z (List.mem_cons_of_mem _ hz))
    have ha := h a List.mem_cons_self
    rw [List.countP_cons, List.countP_cons, ha, List.length_cons]
    cases p' a <;> simp <;> omega
theorem ranks_sum : ∀ {l : List Wd}, l.Pairwise (fun a b => ahead a b = !ahead b a) → 2 * totN (rankW l) l = l.length * (l.length - 1)
  | [], _ => rfl
  | x :: t, h => by
    obtain ⟨h1, h2⟩ := List.pairwise_cons.mp h
    have ih := ranks_sum h2
    have e1 : rankW (x :: t) x = t.countP (fun a => ahead a x) := by
      unfold rankW
      rw [List.countP_cons, ahead_irr]
      simp
    have e2 : (rankW (x :: t)) = (fun q => rankW t q + if ahead x q then 1 else 0) := by
      funext q
      unfold rankW
      rw [List.countP_cons]
    have e3 : totN (rankW (x :: t)) t = totN (rankW t) t + t.countP (fun q => ahead x q) := by
      rw [e2]
      exact totN_ind (rankW t) (fun q => ahead x q) t
    have e4 := countP_two (l := t) (p := fun q => ahead x q) (p' := fun q => ahead q x) (fun a ha => h1 a ha)
    have e5 : totN (rankW (x :: t)) (x :: t) = rankW (x :: t) x + totN (rankW (x :: t)) t := rfl
    rw [e5, e1, e3, List.length_cons, Nat.add_sub_cancel]
    have e6 : (t.length + 1) * t.length = t.length * (t.length - 1) + 2 * t.length := by
      cases t.length with
      | zero => rfl
      | succ m =>
        rw [Nat.add_sub_cancel, Nat.succ_mul, Nat.mul_succ]
        omega
    omega
theorem ahead_not {a b : Wd} (h : a.1 ≠ b.1) : ahead a b = !ahead b a := by
  cases h1 : ahead b a with
  | true =>
    cases h2 : ahead a b with
    | true =>
      have := ahead_tr h1 h2
      rw [ahead_irr] at this
      cases this
    | false => rfl
  | false =>
    cases h2 : ahead a b with
    | true => rfl
    | false => exact absurd (ahead_tot h2 h1) h
theorem ranks_all {ws : List Wd} (ho : okWs ws) : totN (rankW ws) ws = ws.length * (ws.length - 1) / 2 := by
  have h := ranks_sum (l := ws) (by
    rw [List.pairwise_iff_getElem]
    intro i j hi hj hij
    refine ahead_not (fun e => ?_)
    have := ho.2.2 i j _ _ (List.getElem?_eq_getElem hi) (List.getElem?_eq_getElem hj) e
    omega)
  omega
theorem tri_50 : ∀ n, n < 51 → (nI n * (nI n - 1)) / 2 = nI (n * (n - 1) / 2) := by decide
theorem clashW_ne {ws : List Wd} : clashW ws ≠ 1 := by
  intro h
  unfold clashW at h
  obtain ⟨q, hq, hc⟩ := List.countP_pos_iff.mp (show 0 < ws.countP (clashB ws) by omega)
  obtain ⟨a, ha, hab⟩ := List.any_eq_true.mp hc
  simp only [Bool.and_eq_true, bne_iff_ne] at hab
  have hca : clashB ws a = true := by
    refine List.any_eq_true.mpr ⟨q, hq, ?_⟩
    simp only [Bool.and_eq_true, bne_iff_ne]
    refine ⟨fun z => hab.1 z.symm, ?_⟩
    have := hab.2
    unfold sameK at this ⊢
    rw [beq_iff_eq] at this ⊢
    exact this.symm
  have h1 := countP_lt (p := fun z => clashB ws z && z.1 != q.1) (p' := clashB ws) (x := q) (l := ws) (fun z _ hz => (Bool.and_eq_true _ _ ▸ hz : clashB ws z = true ∧ _).1) hq (by simp) hc
  have h2 : 0 < ws.countP (fun z => clashB ws z && z.1 != q.1) := List.countP_pos_iff.mpr ⟨a, ha, by simp only [Bool.and_eq_true, bne_iff_ne]; exact ⟨hca, hab.1⟩⟩
  omega
theorem tapsN_ge (l : List Nat) : ∀ n, n ≤ tapsN l n
  | 0 => Nat.le_refl _
  | n + 1 => by
    have := tapsN_ge l n
    show n + 1 ≤ tapsN l n + tapAt l n
    unfold tapAt tapN
    omega
theorem fits_same {l k : List Nat} (hl : okL l) (hk : okL k) (hlen : l.length = k.length) (h : fitsB l (cdK k) = true) : cdK l = cdK k := by
  have e1 : (cdK k).length = k.length := by simp [cdK]
  have e2 : (cdK l).length = l.length := by simp [cdK]
  refine getD_inj (fun c hc => (hl.ck.2 c hc).1) (fun c hc => (hk.ck.2 c hc).1) (fun i => ?_)
  by_cases hi : i < l.length
  · unfold fitsB at h
    have := allB_iff.mp h i (by omega)
    unfold fitAt at this
    rw [cdK_get (show i < k.length by omega)] at this
    simp only [Bool.and_eq_true, Bool.or_eq_true, decide_eq_true_eq, beq_iff_eq] at this
    have h3 := getD_lt26 hl hi
    have h4 := keyN_rng _ (getD_lt26 hk (show i < k.length by omega))
    rw [cdK_get hi, cdK_get (show i < k.length by omega)]
    omega
  · rw [List.getD_eq_getElem?_getD, List.getD_eq_getElem?_getD, List.getElem?_eq_none (by omega), List.getElem?_eq_none (by omega)]
theorem short_fact {ws : List Wd} (ho : okWs ws) {q : Wd} (hq : q ∈ ws) : (shortW ws q = -1 ∧ 0 < stepsW ws q) ∨ ∃ n, shortW ws q = nI n ∧ n ≤ q.1.length := by
  have okq := ho.2.1 q hq
  have e1 : (cdK q.1).length = q.1.length := by simp [cdK]
  unfold shortW
  cases hs : fstN (fun j => firstW ws q (j + 1)) q.1.length with
  | some j =>
    obtain ⟨s1, -, -⟩ := fstN_some hs
    exact Or.inr ⟨j + 1, rfl, by omega⟩
  | none =>
    refine Or.inl ⟨rfl, ?_⟩
    have hf := fstN_none hs (q.1.length - 1) (by have := okq.2.1; omega)
    rw [Nat.sub_add_cancel okq.2.1] at hf
    by_cases h0 : 0 < stepsW ws q
    · exact h0
    · exfalso
      have hz : ∀ a ∈ ws, ¬ (sameK a q && ahead a q) = true := List.countP_eq_zero.mp (show ws.countP (fun a => sameK a q && ahead a q) = 0 from by unfold stepsW at h0; omega)
      have ht : firstW ws q q.1.length = true := by
        unfold firstW
        rw [List.all_eq_true]
        intro a ha
        by_cases ea : a.1 = q.1
        · simp [ea]
        · cases hfit : fitsB a.1 ((cdK q.1).take q.1.length) with
          | false => simp
          | true =>
            rw [List.take_of_length_le (by omega)] at hfit
            have hle := fitsB_le hfit
            have hcm : comes q.1.length q a = true := by
              unfold comes longC
              rw [decide_eq_false (Nat.lt_irrefl _)]
              by_cases hlong : q.1.length < a.1.length
              · rw [decide_eq_true hlong, if_neg (by decide)]
                rfl
              · rw [decide_eq_false hlong, if_pos rfl]
                have hsame : sameK a q = true := by
                  unfold sameK
                  rw [beq_iff_eq]
                  exact fits_same (ho.2.1 a ha).1 okq.1 (by omega) hfit
                have hna := hz a ha
                rw [hsame, Bool.true_and] at hna
                rw [ahead_not (fun z => ea z.symm), (Bool.not_eq_true _).mp hna]
                rfl
            rw [hcm, Bool.or_true]
      rw [hf] at ht
      cases ht
theorem savW_le (ws : List Wd) (q : Wd) : savW ws q ≤ (tapW q : Int) := by
  unfold savW tapW
  rw [Int.mul_sub, Int.natCast_mul]
  have : (0 : Int) ≤ (q.2.1 : Int) * ((q.1.length + stepsW ws q : Nat) : Int) := Int.mul_nonneg (Int.natCast_nonneg _) (Int.natCast_nonneg _)
  omega
theorem tot_le (ws : List Wd) : ∀ l : List Wd, totI (savW ws) l ≤ (totN tapW l : Int)
  | [] => Int.le_refl _
  | q :: l => by
    have h1 := tot_le ws l
    have h2 := savW_le ws q
    show savW ws q + totI (savW ws) l ≤ ((tapW q + totN tapW l : Nat) : Int)
    omega
theorem sumS_T (ws : List Wd) : sumS ws ws.length ≤ (sumT ws ws.length : Int) := by
  rw [sumS_w, sumT_w]
  exact tot_le ws ws
/-- two candidates one behind the other -/
theorem cands_in_order {ws : List Wd} (ho : okWs ws) {cmp : Bool} {p : List Nat} {a b : Wd} (ha : a ∈ ws) (hb : b ∈ ws) (fa : fitsC cmp p a = true) (fb : fitsC cmp p b = true) (h : beforeW ws cmp p a < beforeW ws cmp p b) : (a.1.length = p.length ∧ p.length < b.1.length) ∨ rankW ws a < rankW ws b := by
  have hc := beforeW_comes ho ha hb fb h
  unfold comes at hc
  by_cases e : longC a p.length = longC b p.length
  · rw [if_pos e] at hc
    exact Or.inr (rankW_lt ha hc)
  · rw [if_neg e] at hc
    have h1 : longC a p.length = false := by simpa using hc
    have h2 : longC b p.length = true := by
      cases h3 : longC b p.length with
      | true => rfl
      | false => exact absurd (h1.trans h3.symm) e
    unfold longC at h1 h2
    unfold fitsC at fa
    rw [Bool.and_eq_true] at fa
    have := fitsB_le fa.2
    simp only [decide_eq_false_iff_not, decide_eq_true_eq] at h1 h2
    exact Or.inl ⟨by omega, h2⟩
theorem savO_le (hD : Dbl) {ws : List Wd} (ho : okWs ws) : ∃ r, savO (sumS ws ws.length) (sumT ws ws.length) = some r ∧ ¬ 0 < Op.cmpValue (FP.dcmp r FP.dconst1) .g := by
  have hT := sumT_le ho ws.length
  have hS := sumS_le ho ws.length
  have hST := sumS_T ws
  have hl := ho.1
  unfold savO
  by_cases e : sumT ws ws.length = 0
  · rw [if_pos e]
    exact ⟨_, rfl, by decide +kernel⟩
  · have hn := hD.1 (Int64.ofInt (sumS ws ws.length)) (Int64.ofInt (sumT ws ws.length : Int)) (fun z => e ((T64 (by omega)).mp z))
    rw [if_neg e, hn, Option.bind_some]
    exact ⟨_, rfl, hD.2.2 _ _ (by omega) (by omega) (by omega) hST⟩
