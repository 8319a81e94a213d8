theorem tq : True := by
  have := @Jvm.Stand.multianewarray2F
  trivial
theorem tq2 : True := by
  have := @Jvm.Free.Multi.wp_make2
  have := @Jvm.Cond.arrayOver_specA
  have := @arrayOver_alikeB
  trivial
