/-! the check itself -/
noncomputable def zckR (a n : Nat) : Bool := (List.range n).all (fun i => zckM (a + i))
theorem zR_0 : zckR 0 7 = true := by decide +kernel
theorem zR_7 : zckR 7 6 = true := by decide +kernel
theorem zR_13 : zckR 13 6 = true := by decide +kernel
theorem zR_19 : zckR 19 5 = true := by decide +kernel
theorem zR_24 : zckR 24 5 = true := by decide +kernel
theorem zR_29 : zckR 29 10 = true := by decide +kernel
theorem zR_39 : zckR 39 9 = true := by decide +kernel
theorem zR_48 : zckR 48 7 = true := by decide +kernel
theorem zR_55 : zckR 55 8 = true := by decide +kernel
theorem zR_63 : zckR 63 5 = true := by decide +kernel
theorem zR_68 : zckR 68 5 = true := by decide +kernel
theorem zR_73 : zckR 73 5 = true := by decide +kernel
theorem zR_78 : zckR 78 6 = true := by decide +kernel
theorem zR_84 : zckR 84 5 = true := by decide +kernel
theorem zR_89 : zckR 89 7 = true := by decide +kernel
theorem zR_96 : zckR 96 5 = true := by decide +kernel
theorem zR_101 : zckR 101 5 = true := by decide +kernel
theorem zR_106 : zckR 106 10 = true := by decide +kernel
theorem zR_116 : zckR 116 22 = true := by decide +kernel
theorem zR_138 : zckR 138 12 = true := by decide +kernel
theorem zR_150 : zckR 150 5 = true := by decide +kernel
theorem zR_155 : zckR 155 10 = true := by decide +kernel
theorem zR_165 : zckR 165 10 = true := by decide +kernel
theorem zR_175 : zckR 175 8 = true := by decide +kernel
theorem zR_183 : zckR 183 4 = true := by decide +kernel
theorem zR_187 : zckR 187 2 = true := by decide +kernel
