theorem aa_sh1 : True := by
  have _h := @Jvm.goPassed
  exact trivial
theorem aa_sh2 : True := by
  have _h := @Jvm.FindsTo.passed
  exact trivial
theorem aa_sh3 : True := by
  have _h := @Jvm.stepThrowing_leaveTo
  exact trivial
theorem aa_sh4 : True := by
  have _h := @Jvm.Stand.outThrough
  exact trivial
theorem aa_sh5 : True := by
  have _h := @Jvm.Stand.thenCaughtThrough
  exact trivial
