/-! ===== the doubles: by the library's laws of them ===== -/
theorem dbl : Dbl := by
  refine ⟨fun a b hb => ?_, fun r hr => ?_⟩
  · have h1 : Jvm.FP.Core.dIsNaN (Jvm.FP.Core.ddiv (Jvm.FP.Core.l2d a) (Jvm.FP.Core.l2d b)) = false := Jvm.FP.Core.ddiv_out ((Jvm.FP.Core.notNaN_iff _).mpr (Jvm.FP.Core.DFin.ne_nan (Jvm.FP.Core.l2d_fin a))) (Jvm.FP.Core.l2d_fin b) (fun z => Jvm.FP.Core.l2d_ne_zero hb ((Jvm.FP.Core.zero_bits2 _).mp z))
    exact (nn_iff _).mpr ((Jvm.FP.Core.ne_nan _).mp ((Jvm.FP.Core.notNaN_iff _).mp h1))
  · have h2 := (Jvm.FP.Core.ne_nan r).mpr ((nn_iff r).mp hr)
    have h3 : FP.dcmp r r = some .eq := Jvm.FP.Core.dcmp_self h2
    rw [h3]
    rfl
theorem pure_good : ∃ Rel, Good Rel := ⟨Both, pure_good0 dbl⟩
