/-- a name of the library's last part: the rounds read the whole of it -/
theorem ct_wide : True := by
  have _ := @Jvm.Stand.pushThrowing_eq
  trivial
