/-- names a theorem of the whole library early: a light round on a new machine is then read over the whole of it from its first parts on -/
theorem zwide : True := by
  have _h := @Jvm.Stand.multianewarray2F
  trivial
