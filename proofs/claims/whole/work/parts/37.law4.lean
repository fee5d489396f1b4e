theorem tb_k139_960 : ∀ pc, 960 ≤ pc → pc < 960 + 60 → tb_chI 7 code tb_f139 pc = true := tb_ck 960 60 (by decide +kernel)
theorem tb_k139_1020 : ∀ pc, 1020 ≤ pc → pc < 1020 + 60 → tb_chI 7 code tb_f139 pc = true := tb_ck 1020 60 (by decide +kernel)
theorem tb_k139_1080 : ∀ pc, 1080 ≤ pc → pc < 1080 + 19 → tb_chI 7 code tb_f139 pc = true := tb_ck 1080 19 (by decide +kernel)
