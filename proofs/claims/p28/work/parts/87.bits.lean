/-! ===== no NaN, by its bits ===== -/
theorem nn_iff (y : UInt64) : nn y = some () ↔ y.toNat % 2 ^ 63 ≤ 9218868437227405312 := by
  have hm : (0x7fffffffffffffff : UInt64).toNat = 2 ^ 63 - 1 := by decide
  have hi : (0x7ff0000000000000 : UInt64).toNat = 9218868437227405312 := by decide
  have e : (y &&& 0x7fffffffffffffff ≤ 0x7ff0000000000000) ↔ y.toNat % 2 ^ 63 ≤ 9218868437227405312 := by
    rw [UInt64.le_iff_toNat_le, UInt64.toNat_and, hm, hi, Nat.and_two_pow_sub_one_eq_mod]
  unfold nn
  by_cases h : y &&& 0x7fffffffffffffff ≤ 0x7ff0000000000000
  · rw [if_pos h]
    exact ⟨fun _ => e.mp h, fun _ => rfl⟩
  · rw [if_neg h]
    exact ⟨fun z => (by cases z), fun z => absurd (e.mpr z) h⟩
