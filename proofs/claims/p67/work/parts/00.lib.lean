/-- the whole library is read from here on -/
theorem zz_whole_lib : True := (fun (_ : String → Nat → String → Nat → ByteArray → List String → List Cond) => trivial) Bundle.ownAtomsX
