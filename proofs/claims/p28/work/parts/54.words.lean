/-! ===== the list's numbers, said of words and not of their places ===== -/
theorem cnt_take {ws : List Wd} {p : Nat → Bool} {f : Wd → Bool} (h : ∀ j q, ws[j]? = some q → p j = f q) : ∀ n, n ≤ ws.length → cnt p n = (ws.take n).countP f
  | 0, _ => rfl
  | n + 1, hn => by
    obtain ⟨q, hq⟩ := get_of_lt (show n < ws.length by omega)
    rw [cnt_succ, cnt_take h n (by omega), List.take_succ, hq, List.countP_append, h n q hq]
    show _ = _ + List.countP f [q]
    rw [List.countP_singleton]
theorem cnt_words {ws : List Wd} {p : Nat → Bool} {f : Wd → Bool} (h : ∀ j q, ws[j]? = some q → p j = f q) : cnt p ws.length = ws.countP f := by
  have := cnt_take h ws.length (Nat.le_refl _)
  rw [List.take_length] at this
  exact this
theorem allB_words {ws : List Wd} {p : Nat → Bool} {f : Wd → Bool} (h : ∀ j q, ws[j]? = some q → p j = f q) : allB p ws.length = ws.all f := by
  rw [Bool.eq_iff_iff, allB_iff, List.all_eq_true]
  constructor
  · intro k q hq
    obtain ⟨j, hj⟩ := List.getElem?_of_mem hq
    rw [← h j q hj]
    exact k j (lt_of_get hj)
  · intro k j hj
    obtain ⟨q, hq⟩ := get_of_lt hj
    rw [h j q hq]
    exact k q (List.mem_of_getElem? hq)
def rankW (ws : List Wd) (q : Wd) : Nat := ws.countP (fun a => ahead a q)
def stepsW (ws : List Wd) (q : Wd) : Nat := ws.countP (fun a => sameK a q && ahead a q)
def clashB (ws : List Wd) (q : Wd) : Bool := ws.any (fun a => a.1 != q.1 && sameK a q)
def clashW (ws : List Wd) : Nat := ws.countP (clashB ws)
def beforeW (ws : List Wd) (cmp : Bool) (p : List Nat) (q : Wd) : Nat := ws.countP (fun a => fitsC cmp p a && comes p.length a q)
def firstW (ws : List Wd) (q : Wd) (n : Nat) : Bool := ws.all (fun a => !(a.1 != q.1 && fitsB a.1 ((cdK q.1).take n)) || comes n q a)
def shortW (ws : List Wd) (q : Wd) : Int32 := match fstN (fun j => firstW ws q (j + 1)) q.1.length with
  | some j => nI (j + 1)
  | none => -1
section WORDS
variable {ws : List Wd} {k : Nat} {q : Wd}
theorem rank_w (hk : ws[k]? = some q) : rankN ws k = rankW ws q := cnt_words (fun j a hj => aheadAt_e hj hk)
theorem steps_w (hk : ws[k]? = some q) : stepsN ws k = stepsW ws q := cnt_words (fun j a hj => by rw [sameKAt_e hj hk, aheadAt_e hj hk])
theorem cand_w (cmp : Bool) (p : List Nat) : candN ws cmp p = ws.countP (fitsC cmp p) := cnt_words (fun j a hj => fitsCAt_e hj)
theorem before_w (hk : ws[k]? = some q) (cmp : Bool) (p : List Nat) : aheadC ws cmp p k = beforeW ws cmp p q := cnt_words (fun j a hj => by rw [fitsCAt_e hj, comesAt_e hj hk])
theorem ne_w (ho : okWs ws) {j : Nat} {a : Wd} (hj : ws[j]? = some a) (hk : ws[k]? = some q) : (j != k) = (a.1 != q.1) := by
  by_cases e : j = k
  · subst e
    rw [hj] at hk
    cases hk
    simp
  · have : a.1 ≠ q.1 := fun z => e (ho.2.2 j k a q hj hk z)
    rw [show (j != k) = true from bne_iff_ne.mpr e, show (a.1 != q.1) = true from bne_iff_ne.mpr this]
theorem clash_w (ho : okWs ws) (hk : ws[k]? = some q) : clashAt ws k = clashB ws q := by
  unfold clashAt clashB
  rw [allB_words (f := fun a => !(a.1 != q.1 && sameK a q)) (fun j a hj => by rw [ne_w ho hj hk, sameKAt_e hj hk]), List.not_all_eq_any_not]
  simp only [Bool.not_not]
theorem clashN_w (ho : okWs ws) : clashN ws = clashW ws := cnt_words (fun j a hj => clash_w ho hj)
theorem first_w (ho : okWs ws) (hk : ws[k]? = some q) (n : Nat) : firstB ws k n = firstW ws q n := by
  unfold firstB firstW
  refine allB_words (fun j a hj => ?_)
  rw [ne_w ho hj hk, comesAt_e hk hj]
  unfold begK
  rw [hj, hk]
theorem short_w (ho : okWs ws) (hk : ws[k]? = some q) : shortI ws k q = shortW ws q := by
  unfold shortI shortW
  rw [show (fun j => firstB ws k (j + 1)) = (fun j => firstW ws q (j + 1)) from funext (fun j => first_w ho hk (j + 1))]
  cases fstN (fun j => firstW ws q (j + 1)) q.1.length <;> rfl
end WORDS
/-! ===== sums over words ===== -/
def totI (f : Wd → Int) : List Wd → Int
  | [] => 0
  | q :: t => f q + totI f t
def totN (f : Wd → Nat) : List Wd → Nat
  | [] => 0
  | q :: t => f q + totN f t
theorem totI_snoc (f : Wd → Int) (q : Wd) : ∀ l, totI f (l ++ [q]) = totI f l + f q
  | [] => by simp [totI]
  | a :: l => by
    have := totI_snoc f q l
    simp only [List.cons_append, totI, this]
    omega
theorem totN_snoc (f : Wd → Nat) (q : Wd) : ∀ l, totN f (l ++ [q]) = totN f l + f q
  | [] => by simp [totN]
  | a :: l => by
    have := totN_snoc f q l
    simp only [List.cons_append, totN, this]
    omega
theorem totI_perm {f : Wd → Int} {l l' : List Wd} (h : l.Perm l') : totI f l = totI f l' := by
  induction h with
  | nil => rfl
  | cons x _ ih => simp only [totI, ih]
  | swap x y l => simp only [totI]; omega
  | trans _ _ ih1 ih2 => exact ih1.trans ih2
theorem totN_perm {f : Wd → Nat} {l l' : List Wd} (h : l.Perm l') : totN f l = totN f l' := by
  induction h with
  | nil => rfl
  | cons x _ ih => simp only [totN, ih]
  | swap x y l => simp only [totN]; omega
  | trans _ _ ih1 ih2 => exact ih1.trans ih2
def savW (ws : List Wd) (q : Wd) : Int := (q.2.1 : Int) * ((tapsN q.1 q.1.length : Int) - ((q.1.length + stepsW ws q : Nat) : Int))
def tapW (q : Wd) : Nat := q.2.1 * tapsN q.1 q.1.length
theorem sumS_take (ws : List Wd) : ∀ n, n ≤ ws.length → sumS ws n = totI (savW ws) (ws.take n)
  | 0, _ => rfl
  | n + 1, hn => by
    obtain ⟨q, hq⟩ := get_of_lt (show n < ws.length by omega)
    have e : sumS ws (n + 1) = sumS ws n + (cN ws n : Int) * ((tN ws n : Int) - (gN2 ws n : Int)) := rfl
    rw [e, sumS_take ws n (by omega), List.take_succ, hq]
    show _ = totI (savW ws) (ws.take n ++ [q])
    rw [totI_snoc]
    unfold cN tN gN2 savW
    rw [hq]
    dsimp only
    rw [steps_w hq]
theorem sumT_take (ws : List Wd) : ∀ n, n ≤ ws.length → sumT ws n = totN tapW (ws.take n)
  | 0, _ => rfl
  | n + 1, hn => by
    obtain ⟨q, hq⟩ := get_of_lt (show n < ws.length by omega)
    have e : sumT ws (n + 1) = sumT ws n + cN ws n * tN ws n := rfl
    rw [e, sumT_take ws n (by omega), List.take_succ, hq]
    show _ = totN tapW (ws.take n ++ [q])
    rw [totN_snoc]
    unfold cN tN tapW
    rw [hq]
theorem sumS_w (ws : List Wd) : sumS ws ws.length = totI (savW ws) ws := by
  have := sumS_take ws ws.length (Nat.le_refl _)
  rw [List.take_length] at this
  exact this
theorem sumT_w (ws : List Wd) : sumT ws ws.length = totN tapW ws := by
  have := sumT_take ws ws.length (Nat.le_refl _)
  rw [List.take_length] at this
  exact this
/-! ===== the same for the same words in another order ===== -/
section ORDER
variable {ws vs : List Wd}
theorem rankW_p (h : ws.Perm vs) (q : Wd) : rankW ws q = rankW vs q := h.countP_eq _
theorem stepsW_p (h : ws.Perm vs) (q : Wd) : stepsW ws q = stepsW vs q := h.countP_eq _
theorem beforeW_p (h : ws.Perm vs) (cmp : Bool) (p : List Nat) (q : Wd) : beforeW ws cmp p q = beforeW vs cmp p q := h.countP_eq _
theorem clashW_p (h : ws.Perm vs) : clashW ws = clashW vs := by
  unfold clashW
  rw [show clashB ws = clashB vs from funext (fun q => h.any_eq)]
  exact h.countP_eq _
theorem firstW_p (h : ws.Perm vs) (q : Wd) (n : Nat) : firstW ws q n = firstW vs q n := h.all_eq
theorem shortW_p (h : ws.Perm vs) (q : Wd) : shortW ws q = shortW vs q := by
  unfold shortW
  rw [show (fun j => firstW ws q (j + 1)) = (fun j => firstW vs q (j + 1)) from funext (fun j => firstW_p h q (j + 1))]
theorem sumS_p (h : ws.Perm vs) : sumS ws ws.length = sumS vs vs.length := by
  rw [sumS_w, sumS_w, show savW ws = savW vs from funext (fun q => by unfold savW; rw [stepsW_p h])]
  exact totI_perm h
theorem sumT_p (h : ws.Perm vs) : sumT ws ws.length = sumT vs vs.length := by
  rw [sumT_w, sumT_w]
  exact totN_perm h
end ORDER
/-! ===== words apart ===== -/
theorem okWs.one {ws : List Wd} (ho : okWs ws) {q a : Wd} (hq : q ∈ ws) (ha : a ∈ ws) (e : q.1 = a.1) : q = a := by
  obtain ⟨i, hi⟩ := List.getElem?_of_mem hq
  obtain ⟨j, hj⟩ := List.getElem?_of_mem ha
  have := ho.2.2 i j q a hi hj e
  subst this
  rw [hi] at hj
  cases hj
  rfl
theorem okWs.at {ws : List Wd} (ho : okWs ws) {i j : Nat} {q : Wd} (hi : ws[i]? = some q) (hj : ws[j]? = some q) : i = j := ho.2.2 i j q q hi hj rfl
theorem okWs.nodup {ws : List Wd} (ho : okWs ws) : ws.Nodup := by
  unfold List.Nodup
  rw [List.pairwise_iff_getElem]
  intro i j hi hj hij e
  have := ho.2.2 i j ws[i] ws[j] (List.getElem?_eq_getElem hi) (List.getElem?_eq_getElem hj) (by rw [e])
  omega
theorem countP_lt {α : Type} {p p' : α → Bool} {x : α} : ∀ {l : List α}, (∀ a ∈ l, p a = true → p' a = true) → x ∈ l → p x = false → p' x = true → l.countP p < l.countP p'
  | [], _, h, _, _ => by cases h
  | a :: l, h, hx, h1, h2 => by
    rw [List.countP_cons, List.countP_cons]
    have hle : l.countP p ≤ l.countP p' := List.countP_mono_left (fun z hz => h z (List.mem_cons_of_mem _ hz))
    rcases List.mem_cons.mp hx with e | e
    · subst e
      rw [h1, h2]
      simp
      omega
    · have hl := countP_lt (l := l) (fun z hz => h z (List.mem_cons_of_mem _ hz)) e h1 h2
      have ha := h a List.mem_cons_self
      cases hp : p a with
      | false =>
        simp only [Bool.false_eq_true, if_false]
        omega
      | true =>
        rw [ha hp]
        simp only [if_true]
        omega
theorem rankW_lt {ws : List Wd} {a b : Wd} (ha : a ∈ ws) (h : ahead a b = true) : rankW ws a < rankW ws b :=
  countP_lt (fun z _ hz => ahead_tr hz h) ha (ahead_irr a) h
theorem beforeW_lt {ws : List Wd} {cmp : Bool} {p : List Nat} {a b : Wd} (ha : a ∈ ws) (hf : fitsC cmp p a = true) (h : comes p.length a b = true) : beforeW ws cmp p a < beforeW ws cmp p b := by
  refine countP_lt (x := a) (fun z _ hz => ?_) ha ?_ ?_
  · rw [Bool.and_eq_true] at hz ⊢
    exact ⟨hz.1, comes_tr hz.2 h⟩
  · rw [comes_irr, Bool.and_false]
  · rw [hf, h]
    rfl
theorem beforeW_one {ws : List Wd} (ho : okWs ws) {cmp : Bool} {p : List Nat} {a b : Wd} (ha : a ∈ ws) (hb : b ∈ ws) (fa : fitsC cmp p a = true) (fb : fitsC cmp p b = true) (e : beforeW ws cmp p a = beforeW ws cmp p b) : a = b := by
  cases h1 : comes p.length a b with
  | true =>
    have := beforeW_lt ha fa h1
    omega
  | false =>
    cases h2 : comes p.length b a with
    | true =>
      have := beforeW_lt hb fb h2
      omega
    | false => exact ho.one ha hb (comes_tot h1 h2)
/-- who comes before whom, by how many come before -/
theorem beforeW_comes {ws : List Wd} {cmp : Bool} {p : List Nat} {a b : Wd} (ho : okWs ws) (ha : a ∈ ws) (hb : b ∈ ws) (fb : fitsC cmp p b = true) (h : beforeW ws cmp p a < beforeW ws cmp p b) : comes p.length a b = true := by
  cases h1 : comes p.length a b with
  | true => rfl
  | false =>
    cases h2 : comes p.length b a with
    | true =>
      have := beforeW_lt hb fb h2
      omega
    | false =>
      have := ho.one ha hb (comes_tot h1 h2)
      subst this
      omega
