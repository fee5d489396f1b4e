theorem tb_k139_240 : ∀ pc, 240 ≤ pc → pc < 240 + 60 → tb_chI 7 code tb_f139 pc = true := tb_ck 240 60 (by decide +kernel)
theorem tb_k139_300 : ∀ pc, 300 ≤ pc → pc < 300 + 60 → tb_chI 7 code tb_f139 pc = true := tb_ck 300 60 (by decide +kernel)
theorem tb_k139_360 : ∀ pc, 360 ≤ pc → pc < 360 + 60 → tb_chI 7 code tb_f139 pc = true := tb_ck 360 60 (by decide +kernel)
theorem tb_k139_420 : ∀ pc, 420 ≤ pc → pc < 420 + 60 → tb_chI 7 code tb_f139 pc = true := tb_ck 420 60 (by decide +kernel)
