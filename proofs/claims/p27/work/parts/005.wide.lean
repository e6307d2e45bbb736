theorem jx_wide : True := by
  have := @Jvm.Free.JP.mathPlain
  trivial
