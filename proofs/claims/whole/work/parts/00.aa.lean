/-! the claim is read over the whole library (the rows 98m, 98q need it) -/
theorem aa_lib1 : True := by
  have h := @Jvm.Bundle.throwableSAtoms
  trivial
theorem aa_lib2 : True := by
  have h := @Jvm.Bundle.chainSAtoms
  trivial
theorem aa_lib3 : True := by
  have h := @Jvm.Free.BackT.of_free
  trivial
theorem aa_lib4 : True := by
  have h := @Jvm.RoadKit.callSH
  trivial
theorem aa_lib5 : True := by
  have h := @Jvm.Free.Back.of_freeWith
  trivial
theorem aa_lib6 : True := by
  have h := @Jvm.Free.SB.assignable_self
  trivial
theorem aa_lib7 : True := by
  have h := @Jvm.Bundle.passSAtoms
  trivial
