/-! the row of multianewarray stands in the library's rest: this claim is read over the whole library -/
theorem zw_wide : True := by
  have h := @Jvm.Stand.multianewarray2F
  trivial
