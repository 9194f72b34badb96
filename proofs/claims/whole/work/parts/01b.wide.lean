/-! a name of the whole library, here so that a new machine reads the parts over the whole of it from the first one on -/
theorem wd_f2d {a : UInt32} (h : FP.Core.fIsNaN a = false) : FP.Core.dIsNaN (FP.Core.f2d a) = false := FP.Core.f2d_out h
