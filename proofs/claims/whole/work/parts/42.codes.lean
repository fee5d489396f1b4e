theorem tb_G : ∀ q ∈ tb_CL, tb_chG q = true := by
  intro q hq
  have hq : q ∈ (tb_CL.drop 0) := hq
  rw [← List.take_append_drop 15 (tb_CL.drop 0), List.drop_drop] at hq
  rcases List.mem_append.mp hq with h | hq
  · exact tb_G0 q h
  have hq : q ∈ (tb_CL.drop 15) := hq
  rw [← List.take_append_drop 15 (tb_CL.drop 15), List.drop_drop] at hq
  rcases List.mem_append.mp hq with h | hq
  · exact tb_G1 q h
  have hq : q ∈ (tb_CL.drop 30) := hq
  rw [← List.take_append_drop 15 (tb_CL.drop 30), List.drop_drop] at hq
  rcases List.mem_append.mp hq with h | hq
  · exact tb_G2 q h
  have hq : q ∈ (tb_CL.drop 45) := hq
  rw [← List.take_append_drop 15 (tb_CL.drop 45), List.drop_drop] at hq
  rcases List.mem_append.mp hq with h | hq
  · exact tb_G3 q h
  have hq : q ∈ (tb_CL.drop 60) := hq
  rw [← List.take_append_drop 15 (tb_CL.drop 60), List.drop_drop] at hq
  rcases List.mem_append.mp hq with h | hq
  · exact tb_G4 q h
  have hq : q ∈ (tb_CL.drop 75) := hq
  rw [← List.take_append_drop 15 (tb_CL.drop 75), List.drop_drop] at hq
  rcases List.mem_append.mp hq with h | hq
  · exact tb_G5 q h
  have hq : q ∈ (tb_CL.drop 90) := hq
  rw [← List.take_append_drop 15 (tb_CL.drop 90), List.drop_drop] at hq
  rcases List.mem_append.mp hq with h | hq
  · exact tb_G6 q h
  have hq : q ∈ (tb_CL.drop 105) := hq
  rw [← List.take_append_drop 15 (tb_CL.drop 105), List.drop_drop] at hq
  rcases List.mem_append.mp hq with h | hq
  · exact tb_G7 q h
  have hq : q ∈ (tb_CL.drop 120) := hq
  rw [← List.take_append_drop 15 (tb_CL.drop 120), List.drop_drop] at hq
  rcases List.mem_append.mp hq with h | hq
  · exact tb_G8 q h
  have hq : q ∈ (tb_CL.drop 135) := hq
  rw [← List.take_append_drop 15 (tb_CL.drop 135), List.drop_drop] at hq
  rcases List.mem_append.mp hq with h | hq
  · exact tb_G9 q h
  have hq : q ∈ (tb_CL.drop 150) := hq
  rw [← List.take_append_drop 15 (tb_CL.drop 150), List.drop_drop] at hq
  rcases List.mem_append.mp hq with h | hq
  · exact tb_G10 q h
  have hq : q ∈ (tb_CL.drop 165) := hq
  rw [← List.take_append_drop 15 (tb_CL.drop 165), List.drop_drop] at hq
  rcases List.mem_append.mp hq with h | hq
  · exact tb_G11 q h
  exact absurd hq (by rw [show tb_CL.drop (165 + 15) = [] from rfl]; exact List.not_mem_nil) -- ∈ tb_CL.drop (165 + 15))
set_option maxRecDepth 100000 in
theorem tb_c0 : sm_cw tb_T tb_bc tb_nm tb_eh 0 ∈ tb_WA := List.mem_filter.mpr ⟨List.mem_append_right _ (List.mem_of_getElem? (i := 21) rfl), rfl⟩
set_option maxRecDepth 100000 in
theorem tb_c1 : sm_cw tb_T tb_bc tb_nm tb_eh 1 ∈ tb_WA := List.mem_filter.mpr ⟨List.mem_append_right _ (List.mem_of_getElem? (i := 189) rfl), rfl⟩
set_option maxRecDepth 100000 in
theorem tb_c2 : sm_cw tb_T tb_bc tb_nm tb_eh 2 ∈ tb_WA := List.mem_filter.mpr ⟨List.mem_append_right _ (List.mem_of_getElem? (i := 192) rfl), rfl⟩
set_option maxRecDepth 100000 in
theorem tb_c3 : sm_cw tb_T tb_bc tb_nm tb_eh 3 ∈ tb_WA := List.mem_filter.mpr ⟨List.mem_append_right _ (List.mem_of_getElem? (i := 200) rfl), rfl⟩
set_option maxRecDepth 100000 in
theorem tb_c4 : sm_cw tb_T tb_bc tb_nm tb_eh 4 ∈ tb_WA := List.mem_filter.mpr ⟨List.mem_append_right _ (List.mem_of_getElem? (i := 311) rfl), rfl⟩
set_option maxRecDepth 100000 in
theorem tb_c5 : sm_cw tb_T tb_bc tb_nm tb_eh 5 ∈ tb_WA := List.mem_filter.mpr ⟨List.mem_append_right _ (List.mem_of_getElem? (i := 331) rfl), rfl⟩
set_option maxRecDepth 100000 in
theorem tb_c6 : sm_cw tb_T tb_bc tb_nm tb_eh 6 ∈ tb_WA := List.mem_filter.mpr ⟨List.mem_append_right _ (List.mem_of_getElem? (i := 335) rfl), rfl⟩
set_option maxRecDepth 100000 in
theorem tb_c7 : sm_cw tb_T tb_bc tb_nm tb_eh 7 ∈ tb_WA := List.mem_filter.mpr ⟨List.mem_append_right _ (List.mem_of_getElem? (i := 339) rfl), rfl⟩
set_option maxRecDepth 100000 in
theorem tb_c8 : sm_cw tb_T tb_bc tb_nm tb_eh 8 ∈ tb_WA := List.mem_filter.mpr ⟨List.mem_append_right _ (List.mem_of_getElem? (i := 343) rfl), rfl⟩
set_option maxRecDepth 100000 in
theorem tb_c9 : sm_cw tb_T tb_bc tb_nm tb_eh 9 ∈ tb_WA := List.mem_filter.mpr ⟨List.mem_append_right _ (List.mem_of_getElem? (i := 351) rfl), rfl⟩
set_option maxRecDepth 100000 in
theorem tb_c10 : sm_cw tb_T tb_bc tb_nm tb_eh 10 ∈ tb_WA := List.mem_filter.mpr ⟨List.mem_append_right _ (List.mem_of_getElem? (i := 355) rfl), rfl⟩
set_option maxRecDepth 100000 in
theorem tb_c11 : sm_cw tb_T tb_bc tb_nm tb_eh 11 ∈ tb_WA := List.mem_filter.mpr ⟨List.mem_append_right _ (List.mem_of_getElem? (i := 367) rfl), rfl⟩
set_option maxRecDepth 100000 in
theorem tb_c12 : sm_cw tb_T tb_bc tb_nm tb_eh 12 ∈ tb_WA := List.mem_filter.mpr ⟨List.mem_append_right _ (List.mem_of_getElem? (i := 371) rfl), rfl⟩
set_option maxRecDepth 100000 in
theorem tb_c13 : sm_cw tb_T tb_bc tb_nm tb_eh 13 ∈ tb_WA := List.mem_filter.mpr ⟨List.mem_append_right _ (List.mem_of_getElem? (i := 409) rfl), rfl⟩
set_option maxRecDepth 100000 in
theorem tb_c14 : sm_cw tb_T tb_bc tb_nm tb_eh 14 ∈ tb_WA := List.mem_filter.mpr ⟨List.mem_append_right _ (List.mem_of_getElem? (i := 413) rfl), rfl⟩
set_option maxRecDepth 100000 in
theorem tb_c15 : sm_cw tb_T tb_bc tb_nm tb_eh 15 ∈ tb_WA := List.mem_filter.mpr ⟨List.mem_append_right _ (List.mem_of_getElem? (i := 420) rfl), rfl⟩
set_option maxRecDepth 100000 in
theorem tb_c16 : sm_cw tb_T tb_bc tb_nm tb_eh 16 ∈ tb_WA := List.mem_filter.mpr ⟨List.mem_append_right _ (List.mem_of_getElem? (i := 425) rfl), rfl⟩
set_option maxRecDepth 100000 in
theorem tb_c17 : sm_cw tb_T tb_bc tb_nm tb_eh 17 ∈ tb_WA := List.mem_filter.mpr ⟨List.mem_append_right _ (List.mem_of_getElem? (i := 429) rfl), rfl⟩
set_option maxRecDepth 100000 in
theorem tb_c18 : sm_cw tb_T tb_bc tb_nm tb_eh 18 ∈ tb_WA := List.mem_filter.mpr ⟨List.mem_append_right _ (List.mem_of_getElem? (i := 437) rfl), rfl⟩
set_option maxRecDepth 100000 in
theorem tb_c19 : sm_cw tb_T tb_bc tb_nm tb_eh 19 ∈ tb_WA := List.mem_filter.mpr ⟨List.mem_append_right _ (List.mem_of_getElem? (i := 440) rfl), rfl⟩
set_option maxRecDepth 100000 in
theorem tb_c20 : sm_cw tb_T tb_bc tb_nm tb_eh 20 ∈ tb_WA := List.mem_filter.mpr ⟨List.mem_append_right _ (List.mem_of_getElem? (i := 514) rfl), rfl⟩
set_option maxRecDepth 100000 in
theorem tb_c21 : sm_cw tb_T tb_bc tb_nm tb_eh 21 ∈ tb_WA := List.mem_filter.mpr ⟨List.mem_append_right _ (List.mem_of_getElem? (i := 522) rfl), rfl⟩
set_option maxRecDepth 100000 in
theorem tb_c22 : sm_cw tb_T tb_bc tb_nm tb_eh 22 ∈ tb_WA := List.mem_filter.mpr ⟨List.mem_append_right _ (List.mem_of_getElem? (i := 525) rfl), rfl⟩
set_option maxRecDepth 100000 in
theorem tb_c23 : sm_cw tb_T tb_bc tb_nm tb_eh 23 ∈ tb_WA := List.mem_filter.mpr ⟨List.mem_append_right _ (List.mem_of_getElem? (i := 559) rfl), rfl⟩
set_option maxRecDepth 100000 in
theorem tb_c24 : sm_cw tb_T tb_bc tb_nm tb_eh 24 ∈ tb_WA := List.mem_filter.mpr ⟨List.mem_append_right _ (List.mem_of_getElem? (i := 566) rfl), rfl⟩
set_option maxRecDepth 100000 in
theorem tb_c25 : sm_cw tb_T tb_bc tb_nm tb_eh 25 ∈ tb_WA := List.mem_filter.mpr ⟨List.mem_append_right _ (List.mem_of_getElem? (i := 578) rfl), rfl⟩
set_option maxRecDepth 100000 in
theorem tb_c26 : sm_cw tb_T tb_bc tb_nm tb_eh 26 ∈ tb_WA := List.mem_filter.mpr ⟨List.mem_append_right _ (List.mem_of_getElem? (i := 586) rfl), rfl⟩
set_option maxRecDepth 100000 in
theorem tb_c27 : sm_cw tb_T tb_bc tb_nm tb_eh 27 ∈ tb_WA := List.mem_filter.mpr ⟨List.mem_append_right _ (List.mem_of_getElem? (i := 593) rfl), rfl⟩
set_option maxRecDepth 100000 in
theorem tb_c28 : sm_cw tb_T tb_bc tb_nm tb_eh 28 ∈ tb_WA := List.mem_filter.mpr ⟨List.mem_append_right _ (List.mem_of_getElem? (i := 29) rfl), rfl⟩
set_option maxRecDepth 100000 in
theorem tb_c29 : sm_cw tb_T tb_bc tb_nm tb_eh 29 ∈ tb_WA := List.mem_filter.mpr ⟨List.mem_append_right _ (List.mem_of_getElem? (i := 208) rfl), rfl⟩
set_option maxRecDepth 100000 in
theorem tb_c30 : sm_cw tb_T tb_bc tb_nm tb_eh 30 ∈ tb_WA := List.mem_filter.mpr ⟨List.mem_append_right _ (List.mem_of_getElem? (i := 212) rfl), rfl⟩
set_option maxRecDepth 100000 in
theorem tb_c31 : sm_cw tb_T tb_bc tb_nm tb_eh 31 ∈ tb_WA := List.mem_filter.mpr ⟨List.mem_append_right _ (List.mem_of_getElem? (i := 216) rfl), rfl⟩
set_option maxRecDepth 100000 in
theorem tb_c32 : sm_cw tb_T tb_bc tb_nm tb_eh 32 ∈ tb_WA := List.mem_filter.mpr ⟨List.mem_append_right _ (List.mem_of_getElem? (i := 222) rfl), rfl⟩
set_option maxRecDepth 100000 in
theorem tb_c33 : sm_cw tb_T tb_bc tb_nm tb_eh 33 ∈ tb_WA := List.mem_filter.mpr ⟨List.mem_append_right _ (List.mem_of_getElem? (i := 227) rfl), rfl⟩
set_option maxRecDepth 100000 in
theorem tb_c34 : sm_cw tb_T tb_bc tb_nm tb_eh 34 ∈ tb_WA := List.mem_filter.mpr ⟨List.mem_append_right _ (List.mem_of_getElem? (i := 231) rfl), rfl⟩
set_option maxRecDepth 100000 in
theorem tb_c35 : sm_cw tb_T tb_bc tb_nm tb_eh 35 ∈ tb_WA := List.mem_filter.mpr ⟨List.mem_append_right _ (List.mem_of_getElem? (i := 315) rfl), rfl⟩
set_option maxRecDepth 100000 in
theorem tb_c36 : sm_cw tb_T tb_bc tb_nm tb_eh 36 ∈ tb_WA := List.mem_filter.mpr ⟨List.mem_append_right _ (List.mem_of_getElem? (i := 319) rfl), rfl⟩
set_option maxRecDepth 100000 in
theorem tb_c37 : sm_cw tb_T tb_bc tb_nm tb_eh 37 ∈ tb_WA := List.mem_filter.mpr ⟨List.mem_append_right _ (List.mem_of_getElem? (i := 323) rfl), rfl⟩
set_option maxRecDepth 100000 in
theorem tb_c38 : sm_cw tb_T tb_bc tb_nm tb_eh 38 ∈ tb_WA := List.mem_filter.mpr ⟨List.mem_append_right _ (List.mem_of_getElem? (i := 347) rfl), rfl⟩
set_option maxRecDepth 100000 in
theorem tb_c39 : sm_cw tb_T tb_bc tb_nm tb_eh 39 ∈ tb_WA := List.mem_filter.mpr ⟨List.mem_append_right _ (List.mem_of_getElem? (i := 359) rfl), rfl⟩
set_option maxRecDepth 100000 in
theorem tb_c40 : sm_cw tb_T tb_bc tb_nm tb_eh 40 ∈ tb_WA := List.mem_filter.mpr ⟨List.mem_append_right _ (List.mem_of_getElem? (i := 363) rfl), rfl⟩
set_option maxRecDepth 100000 in
theorem tb_c41 : sm_cw tb_T tb_bc tb_nm tb_eh 41 ∈ tb_WA := List.mem_filter.mpr ⟨List.mem_append_right _ (List.mem_of_getElem? (i := 400) rfl), rfl⟩
set_option maxRecDepth 100000 in
theorem tb_c42 : sm_cw tb_T tb_bc tb_nm tb_eh 42 ∈ tb_WA := List.mem_filter.mpr ⟨List.mem_append_right _ (List.mem_of_getElem? (i := 405) rfl), rfl⟩
set_option maxRecDepth 100000 in
theorem tb_c43 : sm_cw tb_T tb_bc tb_nm tb_eh 43 ∈ tb_WA := List.mem_filter.mpr ⟨List.mem_append_right _ (List.mem_of_getElem? (i := 63) rfl), rfl⟩
set_option maxRecDepth 100000 in
theorem tb_c44 : sm_cw tb_T tb_bc tb_nm tb_eh 44 ∈ tb_WA := List.mem_filter.mpr ⟨List.mem_append_right _ (List.mem_of_getElem? (i := 204) rfl), rfl⟩
set_option maxRecDepth 100000 in
theorem tb_c45 : sm_cw tb_T tb_bc tb_nm tb_eh 45 ∈ tb_WA := List.mem_filter.mpr ⟨List.mem_append_right _ (List.mem_of_getElem? (i := 234) rfl), rfl⟩
set_option maxRecDepth 100000 in
theorem tb_c46 : sm_cw tb_T tb_bc tb_nm tb_eh 46 ∈ tb_WA := List.mem_filter.mpr ⟨List.mem_append_right _ (List.mem_of_getElem? (i := 237) rfl), rfl⟩
set_option maxRecDepth 100000 in
theorem tb_c47 : sm_cw tb_T tb_bc tb_nm tb_eh 47 ∈ tb_WA := List.mem_filter.mpr ⟨List.mem_append_right _ (List.mem_of_getElem? (i := 245) rfl), rfl⟩
set_option maxRecDepth 100000 in
theorem tb_c48 : sm_cw tb_T tb_bc tb_nm tb_eh 48 ∈ tb_WA := List.mem_filter.mpr ⟨List.mem_append_right _ (List.mem_of_getElem? (i := 248) rfl), rfl⟩
set_option maxRecDepth 100000 in
theorem tb_c49 : sm_cw tb_T tb_bc tb_nm tb_eh 49 ∈ tb_WA := List.mem_filter.mpr ⟨List.mem_append_right _ (List.mem_of_getElem? (i := 251) rfl), rfl⟩
set_option maxRecDepth 100000 in
theorem tb_c50 : sm_cw tb_T tb_bc tb_nm tb_eh 50 ∈ tb_WA := List.mem_filter.mpr ⟨List.mem_append_right _ (List.mem_of_getElem? (i := 375) rfl), rfl⟩
set_option maxRecDepth 100000 in
theorem tb_c51 : sm_cw tb_T tb_bc tb_nm tb_eh 51 ∈ tb_WA := List.mem_filter.mpr ⟨List.mem_append_right _ (List.mem_of_getElem? (i := 379) rfl), rfl⟩
set_option maxRecDepth 100000 in
theorem tb_c52 : sm_cw tb_T tb_bc tb_nm tb_eh 52 ∈ tb_WA := List.mem_filter.mpr ⟨List.mem_append_right _ (List.mem_of_getElem? (i := 384) rfl), rfl⟩
set_option maxRecDepth 100000 in
theorem tb_c53 : sm_cw tb_T tb_bc tb_nm tb_eh 53 ∈ tb_WA := List.mem_filter.mpr ⟨List.mem_append_right _ (List.mem_of_getElem? (i := 388) rfl), rfl⟩
set_option maxRecDepth 100000 in
theorem tb_c54 : sm_cw tb_T tb_bc tb_nm tb_eh 54 ∈ tb_WA := List.mem_filter.mpr ⟨List.mem_append_right _ (List.mem_of_getElem? (i := 79) rfl), rfl⟩
set_option maxRecDepth 100000 in
theorem tb_c55 : sm_cw tb_T tb_bc tb_nm tb_eh 55 ∈ tb_WA := List.mem_filter.mpr ⟨List.mem_append_right _ (List.mem_of_getElem? (i := 196) rfl), rfl⟩
set_option maxRecDepth 100000 in
theorem tb_c56 : sm_cw tb_T tb_bc tb_nm tb_eh 56 ∈ tb_WA := List.mem_filter.mpr ⟨List.mem_append_right _ (List.mem_of_getElem? (i := 327) rfl), rfl⟩
set_option maxRecDepth 100000 in
theorem tb_c57 : sm_cw tb_T tb_bc tb_nm tb_eh 57 ∈ tb_WA := List.mem_filter.mpr ⟨List.mem_append_right _ (List.mem_of_getElem? (i := 107) rfl), rfl⟩
set_option maxRecDepth 100000 in
theorem tb_c58 : sm_cw tb_T tb_bc tb_nm tb_eh 58 ∈ tb_WA := List.mem_filter.mpr ⟨List.mem_append_right _ (List.mem_of_getElem? (i := 113) rfl), rfl⟩
set_option maxRecDepth 100000 in
theorem tb_c59 : sm_cw tb_T tb_bc tb_nm tb_eh 59 ∈ tb_WA := List.mem_filter.mpr ⟨List.mem_append_right _ (List.mem_of_getElem? (i := 241) rfl), rfl⟩
set_option maxRecDepth 100000 in
theorem tb_c60 : sm_cw tb_T tb_bc tb_nm tb_eh 60 ∈ tb_WA := List.mem_filter.mpr ⟨List.mem_append_right _ (List.mem_of_getElem? (i := 258) rfl), rfl⟩
set_option maxRecDepth 100000 in
theorem tb_c61 : sm_cw tb_T tb_bc tb_nm tb_eh 61 ∈ tb_WA := List.mem_filter.mpr ⟨List.mem_append_right _ (List.mem_of_getElem? (i := 265) rfl), rfl⟩
set_option maxRecDepth 100000 in
theorem tb_c62 : sm_cw tb_T tb_bc tb_nm tb_eh 62 ∈ tb_WA := List.mem_filter.mpr ⟨List.mem_append_right _ (List.mem_of_getElem? (i := 276) rfl), rfl⟩
set_option maxRecDepth 100000 in
theorem tb_c63 : sm_cw tb_T tb_bc tb_nm tb_eh 63 ∈ tb_WA := List.mem_filter.mpr ⟨List.mem_append_right _ (List.mem_of_getElem? (i := 279) rfl), rfl⟩
set_option maxRecDepth 100000 in
theorem tb_c64 : sm_cw tb_T tb_bc tb_nm tb_eh 64 ∈ tb_WA := List.mem_filter.mpr ⟨List.mem_append_right _ (List.mem_of_getElem? (i := 283) rfl), rfl⟩
set_option maxRecDepth 100000 in
theorem tb_c65 : sm_cw tb_T tb_bc tb_nm tb_eh 65 ∈ tb_WA := List.mem_filter.mpr ⟨List.mem_append_right _ (List.mem_of_getElem? (i := 287) rfl), rfl⟩
set_option maxRecDepth 100000 in
theorem tb_c66 : sm_cw tb_T tb_bc tb_nm tb_eh 66 ∈ tb_WA := List.mem_filter.mpr ⟨List.mem_append_right _ (List.mem_of_getElem? (i := 291) rfl), rfl⟩
set_option maxRecDepth 100000 in
theorem tb_c67 : sm_cw tb_T tb_bc tb_nm tb_eh 67 ∈ tb_WA := List.mem_filter.mpr ⟨List.mem_append_right _ (List.mem_of_getElem? (i := 298) rfl), rfl⟩
set_option maxRecDepth 100000 in
theorem tb_c68 : sm_cw tb_T tb_bc tb_nm tb_eh 68 ∈ tb_WA := List.mem_filter.mpr ⟨List.mem_append_right _ (List.mem_of_getElem? (i := 305) rfl), rfl⟩
set_option maxRecDepth 100000 in
theorem tb_c69 : sm_cw tb_T tb_bc tb_nm tb_eh 69 ∈ tb_WA := List.mem_filter.mpr ⟨List.mem_append_right _ (List.mem_of_getElem? (i := 545) rfl), rfl⟩
set_option maxRecDepth 100000 in
theorem tb_c70 : sm_cw tb_T tb_bc tb_nm tb_eh 70 ∈ tb_WA := List.mem_filter.mpr ⟨List.mem_append_right _ (List.mem_of_getElem? (i := 550) rfl), rfl⟩
set_option maxRecDepth 100000 in
theorem tb_c71 : sm_cw tb_T tb_bc tb_nm tb_eh 71 ∈ tb_WA := List.mem_filter.mpr ⟨List.mem_append_right _ (List.mem_of_getElem? (i := 570) rfl), rfl⟩
set_option maxRecDepth 100000 in
theorem tb_c72 : sm_cw tb_T tb_bc tb_nm tb_eh 72 ∈ tb_WA := List.mem_filter.mpr ⟨List.mem_append_right _ (List.mem_of_getElem? (i := 598) rfl), rfl⟩
set_option maxRecDepth 100000 in
theorem tb_c73 : sm_cw tb_T tb_bc tb_nm tb_eh 73 ∈ tb_WA := List.mem_filter.mpr ⟨List.mem_append_right _ (List.mem_of_getElem? (i := 688) rfl), rfl⟩
set_option maxRecDepth 100000 in
theorem tb_c74 : sm_cw tb_T tb_bc tb_nm tb_eh 74 ∈ tb_WA := List.mem_filter.mpr ⟨List.mem_append_right _ (List.mem_of_getElem? (i := 692) rfl), rfl⟩
set_option maxRecDepth 100000 in
theorem tb_c75 : sm_cw tb_T tb_bc tb_nm tb_eh 75 ∈ tb_WA := List.mem_filter.mpr ⟨List.mem_append_right _ (List.mem_of_getElem? (i := 695) rfl), rfl⟩
set_option maxRecDepth 100000 in
theorem tb_c76 : sm_cw tb_T tb_bc tb_nm tb_eh 76 ∈ tb_WA := List.mem_filter.mpr ⟨List.mem_append_right _ (List.mem_of_getElem? (i := 699) rfl), rfl⟩
set_option maxRecDepth 100000 in
theorem tb_c77 : sm_cw tb_T tb_bc tb_nm tb_eh 77 ∈ tb_WA := List.mem_filter.mpr ⟨List.mem_append_right _ (List.mem_of_getElem? (i := 703) rfl), rfl⟩
set_option maxRecDepth 100000 in
theorem tb_c78 : sm_cw tb_T tb_bc tb_nm tb_eh 78 ∈ tb_WA := List.mem_filter.mpr ⟨List.mem_append_right _ (List.mem_of_getElem? (i := 707) rfl), rfl⟩
set_option maxRecDepth 100000 in
theorem tb_c79 : sm_cw tb_T tb_bc tb_nm tb_eh 79 ∈ tb_WA := List.mem_filter.mpr ⟨List.mem_append_right _ (List.mem_of_getElem? (i := 711) rfl), rfl⟩
set_option maxRecDepth 100000 in
theorem tb_c80 : sm_cw tb_T tb_bc tb_nm tb_eh 80 ∈ tb_WA := List.mem_filter.mpr ⟨List.mem_append_right _ (List.mem_of_getElem? (i := 715) rfl), rfl⟩
set_option maxRecDepth 100000 in
theorem tb_c81 : sm_cw tb_T tb_bc tb_nm tb_eh 81 ∈ tb_WA := List.mem_filter.mpr ⟨List.mem_append_right _ (List.mem_of_getElem? (i := 719) rfl), rfl⟩
set_option maxRecDepth 100000 in
theorem tb_c82 : sm_cw tb_T tb_bc tb_nm tb_eh 82 ∈ tb_WA := List.mem_filter.mpr ⟨List.mem_append_right _ (List.mem_of_getElem? (i := 723) rfl), rfl⟩
set_option maxRecDepth 100000 in
theorem tb_c83 : sm_cw tb_T tb_bc tb_nm tb_eh 83 ∈ tb_WA := List.mem_filter.mpr ⟨List.mem_append_right _ (List.mem_of_getElem? (i := 727) rfl), rfl⟩
set_option maxRecDepth 100000 in
theorem tb_c84 : sm_cw tb_T tb_bc tb_nm tb_eh 84 ∈ tb_WA := List.mem_filter.mpr ⟨List.mem_append_right _ (List.mem_of_getElem? (i := 731) rfl), rfl⟩
set_option maxRecDepth 100000 in
theorem tb_c85 : sm_cw tb_T tb_bc tb_nm tb_eh 85 ∈ tb_WA := List.mem_filter.mpr ⟨List.mem_append_right _ (List.mem_of_getElem? (i := 735) rfl), rfl⟩
set_option maxRecDepth 100000 in
theorem tb_c86 : sm_cw tb_T tb_bc tb_nm tb_eh 86 ∈ tb_WA := List.mem_filter.mpr ⟨List.mem_append_right _ (List.mem_of_getElem? (i := 739) rfl), rfl⟩
set_option maxRecDepth 100000 in
theorem tb_c87 : sm_cw tb_T tb_bc tb_nm tb_eh 87 ∈ tb_WA := List.mem_filter.mpr ⟨List.mem_append_right _ (List.mem_of_getElem? (i := 743) rfl), rfl⟩
set_option maxRecDepth 100000 in
theorem tb_c88 : sm_cw tb_T tb_bc tb_nm tb_eh 88 ∈ tb_WA := List.mem_filter.mpr ⟨List.mem_append_right _ (List.mem_of_getElem? (i := 747) rfl), rfl⟩
set_option maxRecDepth 100000 in
theorem tb_c89 : sm_cw tb_T tb_bc tb_nm tb_eh 89 ∈ tb_WA := List.mem_filter.mpr ⟨List.mem_append_right _ (List.mem_of_getElem? (i := 751) rfl), rfl⟩
set_option maxRecDepth 100000 in
theorem tb_c90 : sm_cw tb_T tb_bc tb_nm tb_eh 90 ∈ tb_WA := List.mem_filter.mpr ⟨List.mem_append_right _ (List.mem_of_getElem? (i := 755) rfl), rfl⟩
set_option maxRecDepth 100000 in
theorem tb_c91 : sm_cw tb_T tb_bc tb_nm tb_eh 91 ∈ tb_WA := List.mem_filter.mpr ⟨List.mem_append_right _ (List.mem_of_getElem? (i := 759) rfl), rfl⟩
set_option maxRecDepth 100000 in
theorem tb_c92 : sm_cw tb_T tb_bc tb_nm tb_eh 92 ∈ tb_WA := List.mem_filter.mpr ⟨List.mem_append_right _ (List.mem_of_getElem? (i := 763) rfl), rfl⟩
set_option maxRecDepth 100000 in
theorem tb_c93 : sm_cw tb_T tb_bc tb_nm tb_eh 93 ∈ tb_WA := List.mem_filter.mpr ⟨List.mem_append_right _ (List.mem_of_getElem? (i := 767) rfl), rfl⟩
set_option maxRecDepth 100000 in
theorem tb_c94 : sm_cw tb_T tb_bc tb_nm tb_eh 94 ∈ tb_WA := List.mem_filter.mpr ⟨List.mem_append_right _ (List.mem_of_getElem? (i := 771) rfl), rfl⟩
set_option maxRecDepth 100000 in
theorem tb_c95 : sm_cw tb_T tb_bc tb_nm tb_eh 95 ∈ tb_WA := List.mem_filter.mpr ⟨List.mem_append_right _ (List.mem_of_getElem? (i := 775) rfl), rfl⟩
set_option maxRecDepth 100000 in
theorem tb_c96 : sm_cw tb_T tb_bc tb_nm tb_eh 96 ∈ tb_WA := List.mem_filter.mpr ⟨List.mem_append_right _ (List.mem_of_getElem? (i := 779) rfl), rfl⟩
set_option maxRecDepth 100000 in
theorem tb_c97 : sm_cw tb_T tb_bc tb_nm tb_eh 97 ∈ tb_WA := List.mem_filter.mpr ⟨List.mem_append_right _ (List.mem_of_getElem? (i := 783) rfl), rfl⟩
set_option maxRecDepth 100000 in
theorem tb_c98 : sm_cw tb_T tb_bc tb_nm tb_eh 98 ∈ tb_WA := List.mem_filter.mpr ⟨List.mem_append_right _ (List.mem_of_getElem? (i := 787) rfl), rfl⟩
set_option maxRecDepth 100000 in
theorem tb_c99 : sm_cw tb_T tb_bc tb_nm tb_eh 99 ∈ tb_WA := List.mem_filter.mpr ⟨List.mem_append_right _ (List.mem_of_getElem? (i := 791) rfl), rfl⟩
set_option maxRecDepth 100000 in
theorem tb_c100 : sm_cw tb_T tb_bc tb_nm tb_eh 100 ∈ tb_WA := List.mem_filter.mpr ⟨List.mem_append_right _ (List.mem_of_getElem? (i := 795) rfl), rfl⟩
set_option maxRecDepth 100000 in
theorem tb_c101 : sm_cw tb_T tb_bc tb_nm tb_eh 101 ∈ tb_WA := List.mem_filter.mpr ⟨List.mem_append_right _ (List.mem_of_getElem? (i := 799) rfl), rfl⟩
set_option maxRecDepth 100000 in
theorem tb_c102 : sm_cw tb_T tb_bc tb_nm tb_eh 102 ∈ tb_WA := List.mem_filter.mpr ⟨List.mem_append_right _ (List.mem_of_getElem? (i := 803) rfl), rfl⟩
set_option maxRecDepth 100000 in
theorem tb_c103 : sm_cw tb_T tb_bc tb_nm tb_eh 103 ∈ tb_WA := List.mem_filter.mpr ⟨List.mem_append_right _ (List.mem_of_getElem? (i := 807) rfl), rfl⟩
set_option maxRecDepth 100000 in
theorem tb_c104 : sm_cw tb_T tb_bc tb_nm tb_eh 104 ∈ tb_WA := List.mem_filter.mpr ⟨List.mem_append_right _ (List.mem_of_getElem? (i := 811) rfl), rfl⟩
set_option maxRecDepth 100000 in
theorem tb_c105 : sm_cw tb_T tb_bc tb_nm tb_eh 105 ∈ tb_WA := List.mem_filter.mpr ⟨List.mem_append_right _ (List.mem_of_getElem? (i := 815) rfl), rfl⟩
set_option maxRecDepth 100000 in
theorem tb_c106 : sm_cw tb_T tb_bc tb_nm tb_eh 106 ∈ tb_WA := List.mem_filter.mpr ⟨List.mem_append_right _ (List.mem_of_getElem? (i := 819) rfl), rfl⟩
set_option maxRecDepth 100000 in
theorem tb_c107 : sm_cw tb_T tb_bc tb_nm tb_eh 107 ∈ tb_WA := List.mem_filter.mpr ⟨List.mem_append_right _ (List.mem_of_getElem? (i := 823) rfl), rfl⟩
set_option maxRecDepth 100000 in
theorem tb_c108 : sm_cw tb_T tb_bc tb_nm tb_eh 108 ∈ tb_WA := List.mem_filter.mpr ⟨List.mem_append_right _ (List.mem_of_getElem? (i := 827) rfl), rfl⟩
set_option maxRecDepth 100000 in
theorem tb_c109 : sm_cw tb_T tb_bc tb_nm tb_eh 109 ∈ tb_WA := List.mem_filter.mpr ⟨List.mem_append_right _ (List.mem_of_getElem? (i := 831) rfl), rfl⟩
set_option maxRecDepth 100000 in
theorem tb_c110 : sm_cw tb_T tb_bc tb_nm tb_eh 110 ∈ tb_WA := List.mem_filter.mpr ⟨List.mem_append_right _ (List.mem_of_getElem? (i := 835) rfl), rfl⟩
set_option maxRecDepth 100000 in
theorem tb_c111 : sm_cw tb_T tb_bc tb_nm tb_eh 111 ∈ tb_WA := List.mem_filter.mpr ⟨List.mem_append_right _ (List.mem_of_getElem? (i := 839) rfl), rfl⟩
set_option maxRecDepth 100000 in
theorem tb_c112 : sm_cw tb_T tb_bc tb_nm tb_eh 112 ∈ tb_WA := List.mem_filter.mpr ⟨List.mem_append_right _ (List.mem_of_getElem? (i := 843) rfl), rfl⟩
set_option maxRecDepth 100000 in
theorem tb_c113 : sm_cw tb_T tb_bc tb_nm tb_eh 113 ∈ tb_WA := List.mem_filter.mpr ⟨List.mem_append_right _ (List.mem_of_getElem? (i := 847) rfl), rfl⟩
set_option maxRecDepth 100000 in
theorem tb_c114 : sm_cw tb_T tb_bc tb_nm tb_eh 114 ∈ tb_WA := List.mem_filter.mpr ⟨List.mem_append_right _ (List.mem_of_getElem? (i := 851) rfl), rfl⟩
set_option maxRecDepth 100000 in
theorem tb_c115 : sm_cw tb_T tb_bc tb_nm tb_eh 115 ∈ tb_WA := List.mem_filter.mpr ⟨List.mem_append_right _ (List.mem_of_getElem? (i := 855) rfl), rfl⟩
set_option maxRecDepth 100000 in
theorem tb_c116 : sm_cw tb_T tb_bc tb_nm tb_eh 116 ∈ tb_WA := List.mem_filter.mpr ⟨List.mem_append_right _ (List.mem_of_getElem? (i := 859) rfl), rfl⟩
set_option maxRecDepth 100000 in
theorem tb_c117 : sm_cw tb_T tb_bc tb_nm tb_eh 117 ∈ tb_WA := List.mem_filter.mpr ⟨List.mem_append_right _ (List.mem_of_getElem? (i := 863) rfl), rfl⟩
set_option maxRecDepth 100000 in
theorem tb_c118 : sm_cw tb_T tb_bc tb_nm tb_eh 118 ∈ tb_WA := List.mem_filter.mpr ⟨List.mem_append_right _ (List.mem_of_getElem? (i := 867) rfl), rfl⟩
set_option maxRecDepth 100000 in
theorem tb_c119 : sm_cw tb_T tb_bc tb_nm tb_eh 119 ∈ tb_WA := List.mem_filter.mpr ⟨List.mem_append_right _ (List.mem_of_getElem? (i := 871) rfl), rfl⟩
set_option maxRecDepth 100000 in
theorem tb_c120 : sm_cw tb_T tb_bc tb_nm tb_eh 120 ∈ tb_WA := List.mem_filter.mpr ⟨List.mem_append_right _ (List.mem_of_getElem? (i := 875) rfl), rfl⟩
set_option maxRecDepth 100000 in
theorem tb_c121 : sm_cw tb_T tb_bc tb_nm tb_eh 121 ∈ tb_WA := List.mem_filter.mpr ⟨List.mem_append_right _ (List.mem_of_getElem? (i := 879) rfl), rfl⟩
set_option maxRecDepth 100000 in
theorem tb_c122 : sm_cw tb_T tb_bc tb_nm tb_eh 122 ∈ tb_WA := List.mem_filter.mpr ⟨List.mem_append_right _ (List.mem_of_getElem? (i := 883) rfl), rfl⟩
set_option maxRecDepth 100000 in
theorem tb_c123 : sm_cw tb_T tb_bc tb_nm tb_eh 123 ∈ tb_WA := List.mem_filter.mpr ⟨List.mem_append_right _ (List.mem_of_getElem? (i := 887) rfl), rfl⟩
set_option maxRecDepth 100000 in
theorem tb_c124 : sm_cw tb_T tb_bc tb_nm tb_eh 124 ∈ tb_WA := List.mem_filter.mpr ⟨List.mem_append_right _ (List.mem_of_getElem? (i := 891) rfl), rfl⟩
set_option maxRecDepth 100000 in
theorem tb_c125 : sm_cw tb_T tb_bc tb_nm tb_eh 125 ∈ tb_WA := List.mem_filter.mpr ⟨List.mem_append_right _ (List.mem_of_getElem? (i := 254) rfl), rfl⟩
set_option maxRecDepth 100000 in
theorem tb_c126 : sm_cw tb_T tb_bc tb_nm tb_eh 126 ∈ tb_WA := List.mem_filter.mpr ⟨List.mem_append_right _ (List.mem_of_getElem? (i := 261) rfl), rfl⟩
set_option maxRecDepth 100000 in
theorem tb_c127 : sm_cw tb_T tb_bc tb_nm tb_eh 127 ∈ tb_WA := List.mem_filter.mpr ⟨List.mem_append_right _ (List.mem_of_getElem? (i := 268) rfl), rfl⟩
set_option maxRecDepth 100000 in
theorem tb_c128 : sm_cw tb_T tb_bc tb_nm tb_eh 128 ∈ tb_WA := List.mem_filter.mpr ⟨List.mem_append_right _ (List.mem_of_getElem? (i := 272) rfl), rfl⟩
set_option maxRecDepth 100000 in
theorem tb_c129 : sm_cw tb_T tb_bc tb_nm tb_eh 129 ∈ tb_WA := List.mem_filter.mpr ⟨List.mem_append_right _ (List.mem_of_getElem? (i := 391) rfl), rfl⟩
set_option maxRecDepth 100000 in
theorem tb_c130 : sm_cw tb_T tb_bc tb_nm tb_eh 130 ∈ tb_WA := List.mem_filter.mpr ⟨List.mem_append_right _ (List.mem_of_getElem? (i := 396) rfl), rfl⟩
set_option maxRecDepth 100000 in
theorem tb_c131 : sm_cw tb_T tb_bc tb_nm tb_eh 131 ∈ tb_WA := List.mem_filter.mpr ⟨List.mem_append_right _ (List.mem_of_getElem? (i := 432) rfl), rfl⟩
set_option maxRecDepth 100000 in
theorem tb_c132 : sm_cw tb_T tb_bc tb_nm tb_eh 132 ∈ tb_WA := List.mem_filter.mpr ⟨List.mem_append_right _ (List.mem_of_getElem? (i := 510) rfl), rfl⟩
set_option maxRecDepth 100000 in
theorem tb_c133 : sm_cw tb_T tb_bc tb_nm tb_eh 133 ∈ tb_WA := List.mem_filter.mpr ⟨List.mem_append_right _ (List.mem_of_getElem? (i := 517) rfl), rfl⟩
set_option maxRecDepth 100000 in
theorem tb_c134 : sm_cw tb_T tb_bc tb_nm tb_eh 134 ∈ tb_WA := List.mem_filter.mpr ⟨List.mem_append_right _ (List.mem_of_getElem? (i := 555) rfl), rfl⟩
set_option maxRecDepth 100000 in
theorem tb_c135 : sm_cw tb_T tb_bc tb_nm tb_eh 135 ∈ tb_WA := List.mem_filter.mpr ⟨List.mem_append_right _ (List.mem_of_getElem? (i := 562) rfl), rfl⟩
set_option maxRecDepth 100000 in
theorem tb_c136 : sm_cw tb_T tb_bc tb_nm tb_eh 136 ∈ tb_WA := List.mem_filter.mpr ⟨List.mem_append_right _ (List.mem_of_getElem? (i := 574) rfl), rfl⟩
set_option maxRecDepth 100000 in
theorem tb_c137 : sm_cw tb_T tb_bc tb_nm tb_eh 137 ∈ tb_WA := List.mem_filter.mpr ⟨List.mem_append_right _ (List.mem_of_getElem? (i := 582) rfl), rfl⟩
set_option maxRecDepth 100000 in
theorem tb_c138 : sm_cw tb_T tb_bc tb_nm tb_eh 138 ∈ tb_WA := List.mem_filter.mpr ⟨List.mem_append_right _ (List.mem_of_getElem? (i := 589) rfl), rfl⟩
set_option maxRecDepth 100000 in
theorem tb_c140 : sm_cw tb_T tb_bc tb_nm tb_eh 140 ∈ tb_WA := List.mem_filter.mpr ⟨List.mem_append_right _ (List.mem_of_getElem? (i := 33) rfl), rfl⟩
