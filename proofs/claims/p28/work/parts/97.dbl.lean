/-! ===== the doubles: by the library's laws of them ===== -/
theorem dq_le {c d : Nat} {q r : Int} {s : Bool} (hx : Jvm.FP.Core.fits Jvm.FP.Core.b64 (.fin s c q)) (hy : Jvm.FP.Core.fits Jvm.FP.Core.b64 (.fin false d r)) (hd : 0 < d) (h : Jvm.FP.Core.zmag Jvm.FP.Core.b64 (.fin s c q) ≤ Jvm.FP.Core.zmag Jvm.FP.Core.b64 (.fin false d r)) : Jvm.FP.Core.zmag Jvm.FP.Core.b64 (Jvm.FP.Core.roundRatio Jvm.FP.Core.b64 s c d (q - r)) ≤ Jvm.FP.Core.one64 := by
  have hq : Jvm.FP.Core.b64.qmin ≤ q := hx.2.1
  have hr : Jvm.FP.Core.b64.qmin ≤ r := hy.2.1
  have hqm := Jvm.FP.Core.qmin_neg Jvm.FP.Core.good_b64
  have hone : Jvm.FP.Core.zmag Jvm.FP.Core.b64 (.fin false (2 ^ 52) (-52)) = Jvm.FP.Core.one64 := by decide +kernel
  have hV : Jvm.FP.Core.fits Jvm.FP.Core.b64 (.fin false (2 ^ 52) (-52)) := by
    rw [← Jvm.FP.Core.val64_dconst1]
    exact Jvm.FP.Core.val64_fits _
  have hp : 2 ^ (-Jvm.FP.Core.b64.qmin).toNat = Jvm.FP.Core.one64 := Jvm.FP.Core.pow_qmin64
  have h : c * 2 ^ (q - Jvm.FP.Core.b64.qmin).toNat ≤ d * 2 ^ (r - Jvm.FP.Core.b64.qmin).toNat := h
  have key : c * 2 ^ (q - r - (Jvm.FP.Core.b64.qmin - (r - Jvm.FP.Core.b64.qmin))).toNat ≤ Jvm.FP.Core.one64 * 2 ^ (Jvm.FP.Core.b64.qmin - (Jvm.FP.Core.b64.qmin - (r - Jvm.FP.Core.b64.qmin))).toNat * d := by
    have e1 : (q - r - (Jvm.FP.Core.b64.qmin - (r - Jvm.FP.Core.b64.qmin))).toNat = (q - Jvm.FP.Core.b64.qmin).toNat + (-Jvm.FP.Core.b64.qmin).toNat := by omega
    have e2 : (Jvm.FP.Core.b64.qmin - (Jvm.FP.Core.b64.qmin - (r - Jvm.FP.Core.b64.qmin))).toNat = (r - Jvm.FP.Core.b64.qmin).toNat := by omega
    rw [e1, e2, Nat.pow_add, hp, ← Nat.mul_assoc]
    generalize Jvm.FP.Core.one64 = K
    refine Nat.le_trans (Nat.mul_le_mul_right K h) (Nat.le_of_eq ?_)
    rw [Nat.mul_comm d, Nat.mul_comm K, Nat.mul_assoc, Nat.mul_assoc, Nat.mul_comm d]
  rw [← hone]
  refine Jvm.FP.Core.zmag_roundRatio_le Jvm.FP.Core.good_b64 hd hV (fun z => by cases z) (e0 := Jvm.FP.Core.b64.qmin - (r - Jvm.FP.Core.b64.qmin)) (by omega) (by omega) ?_
  rw [hone]
  exact key
theorem dq_one (S : Int) (T : Nat) (h0 : 0 < T) (h1 : T < 2 ^ 31) (h2 : -2 ^ 31 ≤ S) (h3 : S ≤ (T : Int)) : ¬ 0 < Op.cmpValue (FP.dcmp (FP.ddiv (FP.l2d (Int64.ofInt S)) (FP.l2d (Int64.ofInt (T : Int)))) FP.dconst1) .g := by
  have ea : (Int64.ofInt S).toInt = S := Int64.toInt_ofInt_of_le (by omega) (by omega)
  have eb : (Int64.ofInt (T : Int)).toInt = (T : Int) := Int64.toInt_ofInt_of_le (by omega) (by omega)
  generalize Int64.ofInt S = a at ea ⊢
  generalize Int64.ofInt (T : Int) = b at eb ⊢
  have za := Jvm.FP.Core.DInt_zval (Jvm.FP.Core.l2d_int (a := a) (by omega))
  have zb := Jvm.FP.Core.DInt_zval (Jvm.FP.Core.l2d_int (a := b) (by omega))
  have hpos := Jvm.FP.Core.one64_pos
  obtain ⟨c, q, xa⟩ := Jvm.FP.Core.l2d_shape a
  obtain ⟨d, r, xb⟩ := Jvm.FP.Core.l2d_shape b
  have fa : Jvm.FP.Core.fits Jvm.FP.Core.b64 (.fin (decide (a.toInt < 0)) c q) := by
    rw [← xa]
    exact Jvm.FP.Core.val64_fits _
  have fb : Jvm.FP.Core.fits Jvm.FP.Core.b64 (.fin (decide (b.toInt < 0)) d r) := by
    rw [← xb]
    exact Jvm.FP.Core.val64_fits _
  rw [xa] at za
  rw [xb] at zb
  have sb : decide (b.toInt < 0) = false := decide_eq_false (by omega)
  rw [sb] at xb zb fb
  have zb : ((Jvm.FP.Core.zmag Jvm.FP.Core.b64 (.fin false d r) : Nat) : Int) = b.toInt * (Jvm.FP.Core.one64 : Int) := zb
  rw [eb] at zb
  have hd : ¬ d = 0 := fun z => by
    subst z
    have e : Jvm.FP.Core.zmag Jvm.FP.Core.b64 (.fin false 0 r) = 0 := Nat.zero_mul _
    rw [e] at zb
    have : (0 : Int) < (T : Int) * (Jvm.FP.Core.one64 : Int) := Int.mul_pos (by omega) (by omega)
    omega
  have hq : Jvm.FP.Core.val64 (Jvm.FP.Core.ddiv (Jvm.FP.Core.l2d a) (Jvm.FP.Core.l2d b)) = Jvm.FP.Core.roundRatio Jvm.FP.Core.b64 (decide (a.toInt < 0) != false) c d (q - r) := by
    rw [Jvm.FP.Core.val64_ddiv, xa, xb]
    exact if_neg hd
  have hn : Jvm.FP.Core.val64 (Jvm.FP.Core.ddiv (Jvm.FP.Core.l2d a) (Jvm.FP.Core.l2d b)) ≠ .nan := by
    rw [hq]
    exact Jvm.FP.Core.roundRatio_ne_nan _ _ _ _ _
  have ho : Jvm.FP.Core.val64 Jvm.FP.Core.dconst1 ≠ .nan := by
    rw [Jvm.FP.Core.val64_dconst1]
    intro z
    cases z
  have zo : Jvm.FP.Core.zval Jvm.FP.Core.b64 (Jvm.FP.Core.val64 Jvm.FP.Core.dconst1) = (Jvm.FP.Core.one64 : Int) := by
    rw [Jvm.FP.Core.val64_dconst1]
    decide +kernel
  have hz : Jvm.FP.Core.zval Jvm.FP.Core.b64 (Jvm.FP.Core.val64 (Jvm.FP.Core.ddiv (Jvm.FP.Core.l2d a) (Jvm.FP.Core.l2d b))) ≤ (Jvm.FP.Core.one64 : Int) := by
    rw [hq]
    by_cases hs : a.toInt < 0
    · rw [decide_eq_true hs]
      show Jvm.FP.Core.signed (Jvm.FP.Core.sgn (Jvm.FP.Core.roundRatio Jvm.FP.Core.b64 (true != false) c d (q - r))) (Jvm.FP.Core.zmag Jvm.FP.Core.b64 (Jvm.FP.Core.roundRatio Jvm.FP.Core.b64 (true != false) c d (q - r))) ≤ _
      rw [Jvm.FP.Core.sgn_roundRatio]
      show -((Jvm.FP.Core.zmag Jvm.FP.Core.b64 (Jvm.FP.Core.roundRatio Jvm.FP.Core.b64 (true != false) c d (q - r)) : Nat) : Int) ≤ _
      omega
    · rw [decide_eq_false hs] at za fa ⊢
      have za : ((Jvm.FP.Core.zmag Jvm.FP.Core.b64 (.fin false c q) : Nat) : Int) = a.toInt * (Jvm.FP.Core.one64 : Int) := za
      rw [ea] at za
      show Jvm.FP.Core.signed (Jvm.FP.Core.sgn (Jvm.FP.Core.roundRatio Jvm.FP.Core.b64 (false != false) c d (q - r))) (Jvm.FP.Core.zmag Jvm.FP.Core.b64 (Jvm.FP.Core.roundRatio Jvm.FP.Core.b64 (false != false) c d (q - r))) ≤ _
      rw [Jvm.FP.Core.sgn_roundRatio]
      have hle : (S : Int) * (Jvm.FP.Core.one64 : Int) ≤ (T : Int) * (Jvm.FP.Core.one64 : Int) := Int.mul_le_mul_of_nonneg_right h3 (by omega)
      exact Int.ofNat_le.mpr (dq_le (s := false) fa fb (by omega) (by omega))
  have hc := Jvm.FP.Core.dcmp_zval hn ho
  rw [zo] at hc
  show ¬ 0 < Op.cmpValue (Jvm.FP.Core.dcmp (Jvm.FP.Core.ddiv (Jvm.FP.Core.l2d a) (Jvm.FP.Core.l2d b)) Jvm.FP.Core.dconst1) .g
  rw [hc]
  rcases Int.lt_or_eq_of_le hz with h | h
  · rw [(Jvm.FP.Core.compare_lt_iff _ _).mpr h]
    decide
  · rw [(Jvm.FP.Core.compare_eq_iff _ _).mpr h]
    decide
theorem dbl : Dbl := by
  refine ⟨fun a b hb => ?_, fun r hr => ?_, dq_one⟩
  · have h1 : Jvm.FP.Core.dIsNaN (Jvm.FP.Core.ddiv (Jvm.FP.Core.l2d a) (Jvm.FP.Core.l2d b)) = false := Jvm.FP.Core.ddiv_out ((Jvm.FP.Core.notNaN_iff _).mpr (Jvm.FP.Core.DFin.ne_nan (Jvm.FP.Core.l2d_fin a))) (Jvm.FP.Core.l2d_fin b) (fun z => Jvm.FP.Core.l2d_ne_zero hb ((Jvm.FP.Core.zero_bits2 _).mp z))
    exact (nn_iff _).mpr ((Jvm.FP.Core.ne_nan _).mp ((Jvm.FP.Core.notNaN_iff _).mp h1))
  · have h2 := (Jvm.FP.Core.ne_nan r).mpr ((nn_iff r).mp hr)
    have h3 : FP.dcmp r r = some .eq := Jvm.FP.Core.dcmp_self h2
    rw [h3]
    rfl
theorem pure28 {L : Nat} (hL : L ≤ 260) (xs : Nat → Int32) : f_L_law z8 z8 (L, xs) = some 1 := law_1 dbl hL
