theorem qq_1 : True := by
  have := @Jvm.Stand.multianewarray2F
  trivial
theorem qq_2 : True := by
  have := @Jvm.Free.Multi.fill_facts
  trivial
theorem qq_3 : True := by
  have := @Jvm.Stand.multianewarray2K
  trivial
