theorem tb_k139_480 : ∀ pc, 480 ≤ pc → pc < 480 + 60 → tb_chI 7 code tb_f139 pc = true := tb_ck 480 60 (by decide +kernel)
theorem tb_k139_540 : ∀ pc, 540 ≤ pc → pc < 540 + 60 → tb_chI 7 code tb_f139 pc = true := tb_ck 540 60 (by decide +kernel)
theorem tb_k139_600 : ∀ pc, 600 ≤ pc → pc < 600 + 60 → tb_chI 7 code tb_f139 pc = true := tb_ck 600 60 (by decide +kernel)
theorem tb_k139_660 : ∀ pc, 660 ≤ pc → pc < 660 + 60 → tb_chI 7 code tb_f139 pc = true := tb_ck 660 60 (by decide +kernel)
