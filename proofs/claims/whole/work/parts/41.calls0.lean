theorem tb_G0 : ∀ q ∈ (tb_CL.drop 0).take 15, tb_chG q = true := by decide +kernel
theorem tb_G1 : ∀ q ∈ (tb_CL.drop 15).take 15, tb_chG q = true := by decide +kernel
theorem tb_G2 : ∀ q ∈ (tb_CL.drop 30).take 15, tb_chG q = true := by decide +kernel
