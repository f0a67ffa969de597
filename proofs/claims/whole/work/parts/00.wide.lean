/-! a name of the rest of the library, used first of all: so a round on a new machine is read over the whole library from its first part on (else parts 01 to 23 compile twice) -/
theorem wd_wide : True := by
  have _ := @Cond.arrayOver_setVmC
  trivial
