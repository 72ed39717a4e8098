/-! THE START: what the constructors lay -/
def mI1 : sMem := (f_X11_init 0 (sNew 11 20 sM0)).getD sM0
def mI2 : sMem := (f_X12_init 94 (sNew 12 127 mI1)).getD sM0
theorem mI1_ok : (f_X11_init 0 (sNew 11 20 sM0)).isSome = true := by decide +kernel
theorem mI1_sh : mI1.1 = clsSh.map Prod.snd := by decide +kernel
theorem mI2_ok : (f_X12_init 94 (sNew 12 127 mI1)).isSome = true := by decide +kernel
theorem mI2_sh : mI2.1 = (clsSh ++ refSh).map Prod.snd := by decide +kernel
theorem mI2_rr : ∀ q ∈ refRf, mI2.2.2.2 94 q.1 = some q.2 := by decide +kernel
theorem mI2_cr : ∀ q ∈ clsRf, mI2.2.2.2 q.1 q.2.1 = some q.2.2 := by decide +kernel
