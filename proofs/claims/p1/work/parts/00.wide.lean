/-! names of the library's rest that the rows behind this one use: named here first, so that a round is read over the whole library -/
theorem wd_here : True := by
  have _h := @Jvm.Stand.thenCaughtThrough
  have _k := @Jvm.Stand.outThrough
  trivial
