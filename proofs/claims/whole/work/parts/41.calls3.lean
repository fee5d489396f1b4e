theorem tb_G9 : ∀ q ∈ (tb_CL.drop 135).take 15, tb_chG q = true := by decide +kernel
theorem tb_G10 : ∀ q ∈ (tb_CL.drop 150).take 15, tb_chG q = true := by decide +kernel
theorem tb_G11 : ∀ q ∈ (tb_CL.drop 165).take 15, tb_chG q = true := by decide +kernel
