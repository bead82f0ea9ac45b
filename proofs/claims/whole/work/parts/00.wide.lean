/-! This part names a row of the library's rest, so that a round is read over the whole library from its first part on. -/
theorem wide_0 : True := by
  have h0 := @Jvm.Stand.outThrough
  exact True.intro
