/-! a name of the whole library, so that every part is read over it from the beginning -/
theorem zz_wide : True := (fun _ => trivial) (@FP.Core.ddiv_mag)
