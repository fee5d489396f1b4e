theorem tb_G6 : ∀ q ∈ (tb_CL.drop 90).take 15, tb_chG q = true := by decide +kernel
theorem tb_G7 : ∀ q ∈ (tb_CL.drop 105).take 15, tb_chG q = true := by decide +kernel
theorem tb_G8 : ∀ q ∈ (tb_CL.drop 120).take 15, tb_chG q = true := by decide +kernel
