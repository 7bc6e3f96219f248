theorem zz_t1 : True := by
  have := @Jvm.wp_forIn_inv
  trivial
theorem zz_t2 : True := by
  have := @Jvm.Free.Multi.fill
  trivial
