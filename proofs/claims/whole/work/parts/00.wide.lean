/-! ===== the laws of catching stand in the rest of the library: these rows are read over the whole of it ===== -/
theorem wide_on : True := by
  have _h := @thenCaughtThrough
  trivial
