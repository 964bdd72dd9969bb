/-- the throw rows rest on a law of the library's rest: named here, so that a round is read over the whole library from its first part on -/
theorem g_wide : True := by
  have := @Jvm.Stand.thenCaughtThrough
  trivial
