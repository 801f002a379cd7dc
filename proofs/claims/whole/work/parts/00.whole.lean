/-! Names a row of the library that part 31b needs, so that every part compiles over the whole library from the first on -/
theorem zz_lib : True := by
  have _h := @Jvm.Stand.multianewarray2F
  exact True.intro
