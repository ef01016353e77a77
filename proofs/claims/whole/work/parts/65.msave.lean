/-! ===== the reference's saved states ===== -/
theorem R9w.congr {ws : List Wd} {f f' : Nat → Int32} (h : R9w ws f) (hl : ws.length ≤ 50) (hok : ∀ q ∈ ws, q.1.length ≤ 10) (he : ∀ i, i < 720 → f' i = f i) : R9w ws f' := by
  refine ⟨by rw [he 0 (by omega), h.1], fun k q hk => ?_⟩
  have hkl := lt_of_get hk
  have hq := hok q (List.mem_of_getElem? hk)
  obtain ⟨a1, a2, a3, a4, a5⟩ := h.2 k q hk
  refine ⟨by rw [he _ (by omega), a1], by rw [he _ (by omega), a2], by rw [he _ (by omega), a3], by rw [he _ (by omega), a4], fun i a hi => ?_⟩
  have := lt_of_get hi
  rw [he _ (by omega), a5 i a hi]
theorem R9t.congr {tx : List (List Nat)} {f f' : Nat → Int32} (h : R9t tx f) (hl : tx.length ≤ 30) (hok : ∀ l ∈ tx, l.length ≤ 10) (he : ∀ i, i < 1050 → f' i = f i) : R9t tx f' := by
  refine ⟨by rw [he 8 (by omega), h.1], fun k l hk => ?_⟩
  have hkl := lt_of_get hk
  have hq := hok l (List.mem_of_getElem? hk)
  obtain ⟨a1, a2⟩ := h.2 k l hk
  refine ⟨by rw [he _ (by omega), a1], fun i a hi => ?_⟩
  have := lt_of_get hi
  rw [he _ (by omega), a2 i a hi]
theorem R9a.congr {s : St} {f f' : Nat → Int32} (h : R9a s f) (ho : okSt s) (he : ∀ i, i < 1050 → f' i = f i) : R9a s f' := by
  obtain ⟨h1, h2, h3, h4, h5, h6, h7, h8, h9, h10⟩ := h
  obtain ⟨o1, o2, o3, o4, o5, o6, o7⟩ := ho
  refine ⟨h1.congr o1.1 (fun q hq => (o1.2.1 q hq).1.1) (fun i hi => he i (by omega)), h2.congr o2.1 (fun l hl => (o2.2 l hl).1.1) he, ⟨by rw [he 6 (by omega), h3.1], fun k c hk => ?_⟩, by rw [he 1 (by omega), h4], by rw [he 2 (by omega), h5], by rw [he 3 (by omega), h6], by rw [he 4 (by omega), h7], by rw [he 5 (by omega), h8], by rw [he 7 (by omega), h9], by rw [he 9 (by omega), h10]⟩
  have := lt_of_get hk
  have := o4.1
  rw [he _ (by omega), h3.2 k c hk]
