/-! ===== load; the new object ===== -/
def loadS (s : St) (ws : List Wd) : St := (ws, sTx s, sClk s, sAge s, sCmp s, sTap s, sPen s, sPl s, 0, sOpn s)
def anLoad (g : Sg) : Int32 × Sg := match (readN g.2.2).1 with
  | some e => (-10 - nI e, g)
  | none => (nI (readN g.2.2).2.length, saveG g (loadS g.1 (readN g.2.2).2))
theorem okWs_nil : okWs [] := ⟨by simp, by simp, fun i j p q hi => by simp at hi⟩
theorem load_8 {g : Sg} {x : T8} (hR : R8 g x) (ho : okSg g) : (∃ r, f_X8_load x = some r ∧ r.1 = (anLoad g).1 ∧ R8 (anLoad g).2 (r.2.1, r.2.2.1, (r.2.2.2.2.1, x.2.2.1.2.1, r.2.2.2.1), r.2.2.2.2.2, x.2.2.2.2)) ∧ okSg (anLoad g).2 := by
  obtain ⟨r1, r2, r3, r4⟩ := hR
  obtain ⟨o1, o2, o3, o4, o5, o6, o7⟩ := ho.1
  obtain ⟨r, k1, k2, k3, k4, k5⟩ := into_2 r1 r2 ho.2.2.1 ho.2.2.2
  have hws : okWs (readN g.2.2).2 := items_ok okWs_nil
  unfold anLoad f_X8_load
  rw [k1, Option.bind_some, k2]
  cases he : (readN g.2.2).1 with
  | some e =>
    have hne : ¬ idxI (some e) = -1 := by
      intro z
      rw [he] at k2
      have hpos : ∀ (f p : Nat) (ws : List Wd) (e : Nat), p ≤ g.2.2.length → (itemsN g.2.2 f p ws).1 = some e → e ≤ g.2.2.length + 20 := by
        intro f
        induction f with
        | zero => intro p ws e hp h; cases h
        | succ f ih =>
          intro p ws e hp h
          unfold itemsN at h
          split at h
          · cases hi : (itemN g.2.2 p ws).1 with
            | true =>
              rw [hi, if_pos rfl] at h
              exact ih _ _ _ (item_pos hi).1 h
            | false =>
              rw [hi, if_neg (by decide)] at h
              cases h
              have hn : runN g.2.2 97 122 10 p ≤ 10 := runN_le _ _ _ _ _
              have hd : runN g.2.2 48 57 3 (p + runN g.2.2 97 122 10 p + 1) ≤ 3 := runN_le _ _ _ _ _
              unfold itemN
              split
              · dsimp only; omega
              · split
                · dsimp only; omega
                · split
                  · dsimp only; omega
                  · split <;> (dsimp only; omega)
          · cases h
      have := hpos 51 0 [] e (Nat.zero_le _) he
      have hl := ho.2.2.1
      exact idxI_some (b := e) (by omega) z
    rw [if_neg hne]
    exact ⟨⟨_, rfl, rfl, k3, k4, r3, r4⟩, ho⟩
  | none =>
    rw [if_pos (show idxI none = -1 from rfl)]
    obtain ⟨w3, m1, m2⟩ := push_3 r4 ho.2.1 ho.1 r3
    obtain ⟨y, n1, n2, n3⟩ := copy_6 (w0 := x.2.2.1.1) k5 hws.1 k4
    rw [m1, Option.bind_some, n1, Option.bind_some, r3.2.2.2]
    refine ⟨⟨_, rfl, n2.1, k3, k4, ⟨n2, n3, r3.2.2.1, rfl⟩, m2⟩, ho.save ⟨hws, o2, o3, o4, o5, Or.inl rfl, o7⟩⟩
def s00 : St := ([], [], 0, 10, false, false, -1, [], 0, none)
theorem s00_ok : okSt s00 := ⟨okWs_nil, ⟨by simp [sTx, s00], by simp [sTx, s00]⟩, ⟨by decide, by decide⟩, ⟨by simp [sPl, s00], by simp [sPl, s00]⟩, fun h => absurd rfl h, Or.inl rfl, fun k h => by cases h⟩
theorem new_ok : okSg (s00, [], []) := ⟨s00_ok, ⟨by simp, by simp⟩, by simp, by simp⟩
theorem R6_new : R6 [] z6 := ⟨rfl, fun k q h => by simp at h⟩
theorem okB_new : okB z6 := fun k _ => Or.inl rfl
theorem R5_new : R5 s00 z5 := ⟨R6_new, okB_new, ⟨rfl, fun k l h => by simp [sTx, s00] at h⟩, rfl⟩
theorem R8_new : R8 (s00, [], []) z8 := ⟨⟨rfl, fun k b h => by simp at h⟩, okB_new, R5_new, rfl, ⟨fun i h => h, fun i j _ _ h => h⟩, fun k s h => by simp at h⟩
