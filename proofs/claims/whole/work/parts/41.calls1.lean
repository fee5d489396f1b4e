theorem tb_G3 : ∀ q ∈ (tb_CL.drop 45).take 15, tb_chG q = true := by decide +kernel
theorem tb_G4 : ∀ q ∈ (tb_CL.drop 60).take 15, tb_chG q = true := by decide +kernel
theorem tb_G5 : ∀ q ∈ (tb_CL.drop 75).take 15, tb_chG q = true := by decide +kernel
