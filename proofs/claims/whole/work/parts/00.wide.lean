/-! this part names a row of the rest of the library, so that rounds are read over the whole of it from their first part on -/
theorem tv_wide : True := by
  have _h := @Jvm.Stand.multianewarray2F
  trivial
