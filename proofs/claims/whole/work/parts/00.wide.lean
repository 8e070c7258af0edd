/-! names of the whole library, so that a round is read over the whole of it -/
theorem wd_1 : True := by
  have _h := @Jvm.Stand.thenCaughtThrough
  trivial
