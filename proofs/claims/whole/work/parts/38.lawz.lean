theorem tb_i139 : tb_okI 7 code tb_f139 := tb_okI_of 1099 tb_cut_out (List.all_eq_true.mpr fun pc hpc => by
  have h := List.mem_range.mp hpc
  by_cases h0 : pc < 60
  · exact tb_k139_0 pc (by omega) (by omega)
  by_cases h60 : pc < 120
  · exact tb_k139_60 pc (by omega) (by omega)
  by_cases h120 : pc < 180
  · exact tb_k139_120 pc (by omega) (by omega)
  by_cases h180 : pc < 240
  · exact tb_k139_180 pc (by omega) (by omega)
  by_cases h240 : pc < 300
  · exact tb_k139_240 pc (by omega) (by omega)
  by_cases h300 : pc < 360
  · exact tb_k139_300 pc (by omega) (by omega)
  by_cases h360 : pc < 420
  · exact tb_k139_360 pc (by omega) (by omega)
  by_cases h420 : pc < 480
  · exact tb_k139_420 pc (by omega) (by omega)
  by_cases h480 : pc < 540
  · exact tb_k139_480 pc (by omega) (by omega)
  by_cases h540 : pc < 600
  · exact tb_k139_540 pc (by omega) (by omega)
  by_cases h600 : pc < 660
  · exact tb_k139_600 pc (by omega) (by omega)
  by_cases h660 : pc < 720
  · exact tb_k139_660 pc (by omega) (by omega)
  by_cases h720 : pc < 780
  · exact tb_k139_720 pc (by omega) (by omega)
  by_cases h780 : pc < 840
  · exact tb_k139_780 pc (by omega) (by omega)
  by_cases h840 : pc < 900
  · exact tb_k139_840 pc (by omega) (by omega)
  by_cases h900 : pc < 960
  · exact tb_k139_900 pc (by omega) (by omega)
  by_cases h960 : pc < 1020
  · exact tb_k139_960 pc (by omega) (by omega)
  by_cases h1020 : pc < 1080
  · exact tb_k139_1020 pc (by omega) (by omega)
  exact tb_k139_1080 pc (by omega) (by omega))
theorem tb_p139 : tb_okP tb_cl tb_WA "VaultDevicesLaw" false tb_FL 8 tb_f139 := tb_okP_of 1099 tb_cut_out (by decide +kernel)
