theorem wd_e : True := by
  have _h := @Jvm.Stand.thenCaughtThrough
  trivial
