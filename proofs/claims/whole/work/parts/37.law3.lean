theorem tb_k139_720 : ∀ pc, 720 ≤ pc → pc < 720 + 60 → tb_chI 7 code tb_f139 pc = true := tb_ck 720 60 (by decide +kernel)
theorem tb_k139_780 : ∀ pc, 780 ≤ pc → pc < 780 + 60 → tb_chI 7 code tb_f139 pc = true := tb_ck 780 60 (by decide +kernel)
theorem tb_k139_840 : ∀ pc, 840 ≤ pc → pc < 840 + 60 → tb_chI 7 code tb_f139 pc = true := tb_ck 840 60 (by decide +kernel)
theorem tb_k139_900 : ∀ pc, 900 ≤ pc → pc < 900 + 60 → tb_chI 7 code tb_f139 pc = true := tb_ck 900 60 (by decide +kernel)
