/-! ===== the law ===== -/
theorem uj_s {J : sm_J} {q k : Nat} {x : Int64} : sm_uj J q k x q k = x := by simp [sm_uj, vp_updL]
theorem lg_same (a : Int64) : lg_cmp a a = 0 := by
  unfold lg_cmp
  simp
theorem lg_i {J : sm_J} {w : Int64} {u : Int32} (h : w = u.toInt64) : lg_cmp (sm_uj J 62 0 w 62 0) u.toInt64 = 0 := by
  rw [uj_s, h]
  exact lg_same _
theorem lg_0 {J : sm_J} {w : Int64} {u : Int32} (h : w = Int64.ofNat 0 ∧ u = 0 ∨ w = Int64.ofNat 1 ∧ ¬ u = 0) (hu : u = 0) : lg_cmp (sm_uj J 62 0 w 62 0) (Int64.ofNat 0) = 0 := by
  rcases h with ⟨h, -⟩ | ⟨-, h⟩
  · rw [uj_s, h]; exact lg_same _
  · exact absurd hu h
theorem lg_1 {J : sm_J} {w : Int64} {u : Int32} (h : w = Int64.ofNat 0 ∧ u = 0 ∨ w = Int64.ofNat 1 ∧ ¬ u = 0) (hu : ¬ u = 0) : lg_cmp (sm_uj J 62 0 w 62 0) (Int64.ofNat 1) = 0 := by
  rcases h with ⟨-, h⟩ | ⟨h, -⟩
  · exact absurd h hu
  · rw [uj_s, h]; exact lg_same _
section LW
variable {X : Nat × (Nat → Int32)} {i : Nat} {M : sm_M} {J : sm_J} {rc rs : Nat} {y5 y6 : Option Value} {Q : sm_O → sm_H → Prop}
theorem lw_deliver (hX : X.1 < 2 ^ 31) (hX2 : X.1 ≤ 2048) (hi : i + 4 ≤ X.1) (h : Rel M) (h1 : 1 ≤ rc) (h6 : 6 ≤ rs) (nx : ∀ (M1 : sm_M) (J1 : sm_J) (rc1 rs1 : Nat) (y5 y6 : Option Value), Rel M1 → rc ≤ rc1 + 1 → rs ≤ rs1 + 6 → sm_wp tb_T X tb_ok 11 388 139 1091 [some (.retAddr 0), some (.ref 0), some (.ref 40), some (.ref 62), some (.int (nI i)), y5, y6] [] (wSH, M1, J1, rc1, rs1) Q) : sm_wp tb_T X tb_ok 11 388 139 693 [some (.retAddr 0), some (.ref 0), some (.ref 40), some (.ref 62), some (.int (nI i)), y5, y6] [] (wSH, M, J, rc, rs) Q := by
  refine go_al1 (p := 694) hf_139 rfl rfl ?_
  refine go_alX (p := 695) hf_139 rfl rfl ?_
  refine go_il4 (p := 697) hf_139 rfl rfl ?_
  refine go_iconst (p := 698) hf_139 rfl rfl ci_1 ?_
  refine go_iadd (p := 699) hf_139 rfl rfl (by first | with_reducible exact nI_add _ _ | exact rfl) ?_
  refine go_ialdX (p := 700) hf_139 rfl rfl (by first | exact rfl | with_reducible assumption) (by omega) hX ?_
  refine go_cw2 (p := 703) hf_139 rfl rfl (inv_v ho_139 cl_8_79) (by decide) nl_1 rfl rfl (by first | rfl | exact rcv_of (by with_reducible assumption)) rfl rfl rfl (by omega) (by omega) (g_deliver h) ?_
  rintro v9 M9 ⟨u9, rfl, hc9⟩
  simp only [Option.toList, List.cons_append, List.nil_append]
  refine go_al2 (p := 704) hf_139 rfl rfl ?_
  refine go_alX (p := 705) hf_139 rfl rfl ?_
  refine go_il4 (p := 707) hf_139 rfl rfl ?_
  refine go_iconst (p := 708) hf_139 rfl rfl ci_1 ?_
  refine go_iadd (p := 709) hf_139 rfl rfl (by first | with_reducible exact nI_add _ _ | exact rfl) ?_
  refine go_ialdX (p := 710) hf_139 rfl rfl (by first | exact rfl | with_reducible assumption) (by omega) hX ?_
  refine go_cw2 (p := 713) hf_139 rfl rfl (inv_v ho_139 cl_8_82) (by decide) nl_96 rfl rfl (by first | rfl | exact rcv_of (by with_reducible assumption)) rfl rfl rfl (by omega) (by omega) (hc9) ?_
  rintro v8 M8 ⟨rfl, h8⟩
  simp only [Option.toList, List.cons_append, List.nil_append]
  refine go_ic_eq (p := 716) (p2 := 1091) hf_139 rfl rfl rfl (fun h713 => ?_) (fun h713 => absurd rfl h713)
  exact nx M8 _ _ _ _ _ h8 (by omega) (by omega)
theorem lw_drop (hX : X.1 < 2 ^ 31) (hX2 : X.1 ≤ 2048) (hi : i + 4 ≤ X.1) (h : Rel M) (h1 : 1 ≤ rc) (h6 : 6 ≤ rs) (nx : ∀ (M1 : sm_M) (J1 : sm_J) (rc1 rs1 : Nat) (y5 y6 : Option Value), Rel M1 → rc ≤ rc1 + 1 → rs ≤ rs1 + 6 → sm_wp tb_T X tb_ok 11 388 139 1091 [some (.retAddr 0), some (.ref 0), some (.ref 40), some (.ref 62), some (.int (nI i)), y5, y6] [] (wSH, M1, J1, rc1, rs1) Q) : sm_wp tb_T X tb_ok 11 388 139 718 [some (.retAddr 0), some (.ref 0), some (.ref 40), some (.ref 62), some (.int (nI i)), y5, y6] [] (wSH, M, J, rc, rs) Q := by
  refine go_al1 (p := 719) hf_139 rfl rfl ?_
  refine go_alX (p := 720) hf_139 rfl rfl ?_
  refine go_il4 (p := 722) hf_139 rfl rfl ?_
  refine go_iconst (p := 723) hf_139 rfl rfl ci_1 ?_
  refine go_iadd (p := 724) hf_139 rfl rfl (by first | with_reducible exact nI_add _ _ | exact rfl) ?_
  refine go_ialdX (p := 725) hf_139 rfl rfl (by first | exact rfl | with_reducible assumption) (by omega) hX ?_
  refine go_cw2 (p := 728) hf_139 rfl rfl (inv_v ho_139 cl_8_83) (by decide) nl_5 rfl rfl (by first | rfl | exact rcv_of (by with_reducible assumption)) rfl rfl rfl (by omega) (by omega) (g_drop h) ?_
  rintro v9 M9 ⟨u9, rfl, hc9⟩
  simp only [Option.toList, List.cons_append, List.nil_append]
  refine go_al2 (p := 729) hf_139 rfl rfl ?_
  refine go_alX (p := 730) hf_139 rfl rfl ?_
  refine go_il4 (p := 732) hf_139 rfl rfl ?_
  refine go_iconst (p := 733) hf_139 rfl rfl ci_1 ?_
  refine go_iadd (p := 734) hf_139 rfl rfl (by first | with_reducible exact nI_add _ _ | exact rfl) ?_
  refine go_ialdX (p := 735) hf_139 rfl rfl (by first | exact rfl | with_reducible assumption) (by omega) hX ?_
  refine go_cw2 (p := 738) hf_139 rfl rfl (inv_v ho_139 cl_8_86) (by decide) nl_109 rfl rfl (by first | rfl | exact rcv_of (by with_reducible assumption)) rfl rfl rfl (by omega) (by omega) (hc9) ?_
  rintro v8 M8 ⟨rfl, h8⟩
  simp only [Option.toList, List.cons_append, List.nil_append]
  refine go_ic_eq (p := 741) (p2 := 1091) hf_139 rfl rfl rfl (fun h738 => ?_) (fun h738 => absurd rfl h738)
  exact nx M8 _ _ _ _ _ h8 (by omega) (by omega)
theorem lw_message (hX : X.1 < 2 ^ 31) (hX2 : X.1 ≤ 2048) (hi : i + 4 ≤ X.1) (h : Rel M) (h1 : 1 ≤ rc) (h6 : 6 ≤ rs) (nx : ∀ (M1 : sm_M) (J1 : sm_J) (rc1 rs1 : Nat) (y5 y6 : Option Value), Rel M1 → rc ≤ rc1 + 1 → rs ≤ rs1 + 6 → sm_wp tb_T X tb_ok 11 388 139 1091 [some (.retAddr 0), some (.ref 0), some (.ref 40), some (.ref 62), some (.int (nI i)), y5, y6] [] (wSH, M1, J1, rc1, rs1) Q) : sm_wp tb_T X tb_ok 11 388 139 743 [some (.retAddr 0), some (.ref 0), some (.ref 40), some (.ref 62), some (.int (nI i)), y5, y6] [] (wSH, M, J, rc, rs) Q := by
  refine go_al1 (p := 744) hf_139 rfl rfl ?_
  refine go_alX (p := 745) hf_139 rfl rfl ?_
  refine go_il4 (p := 747) hf_139 rfl rfl ?_
  refine go_iconst (p := 748) hf_139 rfl rfl ci_1 ?_
  refine go_iadd (p := 749) hf_139 rfl rfl (by first | with_reducible exact nI_add _ _ | exact rfl) ?_
  refine go_ialdX (p := 750) hf_139 rfl rfl (by first | exact rfl | with_reducible assumption) (by omega) hX ?_
  refine go_alX (p := 751) hf_139 rfl rfl ?_
  refine go_il4 (p := 753) hf_139 rfl rfl ?_
  refine go_iconst (p := 754) hf_139 rfl rfl ci_2 ?_
  refine go_iadd (p := 755) hf_139 rfl rfl (by first | with_reducible exact nI_add _ _ | exact rfl) ?_
  refine go_ialdX (p := 756) hf_139 rfl rfl (by first | exact rfl | with_reducible assumption) (by omega) hX ?_
  refine go_cw3 (p := 759) hf_139 rfl rfl (inv_v ho_139 cl_8_87) (by decide) nl_6 rfl rfl (by first | rfl | exact rcv_of (by with_reducible assumption)) rfl rfl rfl (by omega) (by omega) (g_message h) ?_
  rintro v9 M9 ⟨u9, rfl, hc9⟩
  simp only [Option.toList, List.cons_append, List.nil_append]
  refine go_al2 (p := 760) hf_139 rfl rfl ?_
  refine go_alX (p := 761) hf_139 rfl rfl ?_
  refine go_il4 (p := 763) hf_139 rfl rfl ?_
  refine go_iconst (p := 764) hf_139 rfl rfl ci_1 ?_
  refine go_iadd (p := 765) hf_139 rfl rfl (by first | with_reducible exact nI_add _ _ | exact rfl) ?_
  refine go_ialdX (p := 766) hf_139 rfl rfl (by first | exact rfl | with_reducible assumption) (by omega) hX ?_
  refine go_alX (p := 767) hf_139 rfl rfl ?_
  refine go_il4 (p := 769) hf_139 rfl rfl ?_
  refine go_iconst (p := 770) hf_139 rfl rfl ci_2 ?_
  refine go_iadd (p := 771) hf_139 rfl rfl (by first | with_reducible exact nI_add _ _ | exact rfl) ?_
  refine go_ialdX (p := 772) hf_139 rfl rfl (by first | exact rfl | with_reducible assumption) (by omega) hX ?_
  refine go_cw3 (p := 775) hf_139 rfl rfl (inv_v ho_139 cl_8_90) (by decide) nl_110 rfl rfl (by first | rfl | exact rcv_of (by with_reducible assumption)) rfl rfl rfl (by omega) (by omega) (hc9) ?_
  rintro v8 M8 ⟨rfl, h8⟩
  simp only [Option.toList, List.cons_append, List.nil_append]
  refine go_ic_eq (p := 778) (p2 := 1091) hf_139 rfl rfl rfl (fun h775 => ?_) (fun h775 => absurd rfl h775)
  exact nx M8 _ _ _ _ _ h8 (by omega) (by omega)
theorem lw_flight (hX : X.1 < 2 ^ 31) (hX2 : X.1 ≤ 2048) (hi : i + 4 ≤ X.1) (h : Rel M) (h1 : 1 ≤ rc) (h6 : 6 ≤ rs) (nx : ∀ (M1 : sm_M) (J1 : sm_J) (rc1 rs1 : Nat) (y5 y6 : Option Value), Rel M1 → rc ≤ rc1 + 1 → rs ≤ rs1 + 6 → sm_wp tb_T X tb_ok 11 388 139 1091 [some (.retAddr 0), some (.ref 0), some (.ref 40), some (.ref 62), some (.int (nI i)), y5, y6] [] (wSH, M1, J1, rc1, rs1) Q) : sm_wp tb_T X tb_ok 11 388 139 780 [some (.retAddr 0), some (.ref 0), some (.ref 40), some (.ref 62), some (.int (nI i)), y5, y6] [] (wSH, M, J, rc, rs) Q := by
  refine go_al1 (p := 781) hf_139 rfl rfl ?_
  refine go_cw1 (p := 784) hf_139 rfl rfl (inv_v ho_139 cl_8_91) (by decide) nl_7 rfl rfl (by first | rfl | exact rcv_of (by with_reducible assumption)) rfl rfl rfl (by omega) (by omega) (g_flight h) ?_
  rintro v9 M9 ⟨u9, rfl, hc9⟩
  simp only [Option.toList, List.cons_append, List.nil_append]
  refine go_al2 (p := 785) hf_139 rfl rfl ?_
  refine go_cw1 (p := 788) hf_139 rfl rfl (inv_v ho_139 cl_8_94) (by decide) nl_111 rfl rfl (by first | rfl | exact rcv_of (by with_reducible assumption)) rfl rfl rfl (by omega) (by omega) (hc9) ?_
  rintro v8 M8 ⟨rfl, h8⟩
  simp only [Option.toList, List.cons_append, List.nil_append]
  refine go_ic_eq (p := 791) (p2 := 1091) hf_139 rfl rfl rfl (fun h788 => ?_) (fun h788 => absurd rfl h788)
  exact nx M8 _ _ _ _ _ h8 (by omega) (by omega)
theorem lw_forge (hX : X.1 < 2 ^ 31) (hX2 : X.1 ≤ 2048) (hi : i + 4 ≤ X.1) (h : Rel M) (h1 : 1 ≤ rc) (h6 : 6 ≤ rs) (nx : ∀ (M1 : sm_M) (J1 : sm_J) (rc1 rs1 : Nat) (y5 y6 : Option Value), Rel M1 → rc ≤ rc1 + 1 → rs ≤ rs1 + 6 → sm_wp tb_T X tb_ok 11 388 139 1091 [some (.retAddr 0), some (.ref 0), some (.ref 40), some (.ref 62), some (.int (nI i)), y5, y6] [] (wSH, M1, J1, rc1, rs1) Q) : sm_wp tb_T X tb_ok 11 388 139 793 [some (.retAddr 0), some (.ref 0), some (.ref 40), some (.ref 62), some (.int (nI i)), y5, y6] [] (wSH, M, J, rc, rs) Q := by
  refine go_al1 (p := 794) hf_139 rfl rfl ?_
  refine go_alX (p := 795) hf_139 rfl rfl ?_
  refine go_il4 (p := 797) hf_139 rfl rfl ?_
  refine go_iconst (p := 798) hf_139 rfl rfl ci_1 ?_
  refine go_iadd (p := 799) hf_139 rfl rfl (by first | with_reducible exact nI_add _ _ | exact rfl) ?_
  refine go_ialdX (p := 800) hf_139 rfl rfl (by first | exact rfl | with_reducible assumption) (by omega) hX ?_
  refine go_alX (p := 801) hf_139 rfl rfl ?_
  refine go_il4 (p := 803) hf_139 rfl rfl ?_
  refine go_iconst (p := 804) hf_139 rfl rfl ci_2 ?_
  refine go_iadd (p := 805) hf_139 rfl rfl (by first | with_reducible exact nI_add _ _ | exact rfl) ?_
  refine go_ialdX (p := 806) hf_139 rfl rfl (by first | exact rfl | with_reducible assumption) (by omega) hX ?_
  refine go_cw3 (p := 809) hf_139 rfl rfl (inv_v ho_139 cl_8_95) (by decide) nl_8 rfl rfl (by first | rfl | exact rcv_of (by with_reducible assumption)) rfl rfl rfl (by omega) (by omega) (g_forge h) ?_
  rintro v9 M9 ⟨u9, rfl, hc9⟩
  simp only [Option.toList, List.cons_append, List.nil_append]
  refine go_al2 (p := 810) hf_139 rfl rfl ?_
  refine go_alX (p := 811) hf_139 rfl rfl ?_
  refine go_il4 (p := 813) hf_139 rfl rfl ?_
  refine go_iconst (p := 814) hf_139 rfl rfl ci_1 ?_
  refine go_iadd (p := 815) hf_139 rfl rfl (by first | with_reducible exact nI_add _ _ | exact rfl) ?_
  refine go_ialdX (p := 816) hf_139 rfl rfl (by first | exact rfl | with_reducible assumption) (by omega) hX ?_
  refine go_alX (p := 817) hf_139 rfl rfl ?_
  refine go_il4 (p := 819) hf_139 rfl rfl ?_
  refine go_iconst (p := 820) hf_139 rfl rfl ci_2 ?_
  refine go_iadd (p := 821) hf_139 rfl rfl (by first | with_reducible exact nI_add _ _ | exact rfl) ?_
  refine go_ialdX (p := 822) hf_139 rfl rfl (by first | exact rfl | with_reducible assumption) (by omega) hX ?_
  refine go_cw3 (p := 825) hf_139 rfl rfl (inv_v ho_139 cl_8_98) (by decide) nl_112 rfl rfl (by first | rfl | exact rcv_of (by with_reducible assumption)) rfl rfl rfl (by omega) (by omega) (hc9) ?_
  rintro v8 M8 ⟨rfl, h8⟩
  simp only [Option.toList, List.cons_append, List.nil_append]
  refine go_ic_eq (p := 828) (p2 := 1091) hf_139 rfl rfl rfl (fun h825 => ?_) (fun h825 => absurd rfl h825)
  exact nx M8 _ _ _ _ _ h8 (by omega) (by omega)
theorem lw_plant (hX : X.1 < 2 ^ 31) (hX2 : X.1 ≤ 2048) (hi : i + 4 ≤ X.1) (h : Rel M) (h1 : 1 ≤ rc) (h6 : 6 ≤ rs) (nx : ∀ (M1 : sm_M) (J1 : sm_J) (rc1 rs1 : Nat) (y5 y6 : Option Value), Rel M1 → rc ≤ rc1 + 1 → rs ≤ rs1 + 6 → sm_wp tb_T X tb_ok 11 388 139 1091 [some (.retAddr 0), some (.ref 0), some (.ref 40), some (.ref 62), some (.int (nI i)), y5, y6] [] (wSH, M1, J1, rc1, rs1) Q) : sm_wp tb_T X tb_ok 11 388 139 830 [some (.retAddr 0), some (.ref 0), some (.ref 40), some (.ref 62), some (.int (nI i)), y5, y6] [] (wSH, M, J, rc, rs) Q := by
  refine go_al1 (p := 831) hf_139 rfl rfl ?_
  refine go_alX (p := 832) hf_139 rfl rfl ?_
  refine go_il4 (p := 834) hf_139 rfl rfl ?_
  refine go_iconst (p := 835) hf_139 rfl rfl ci_1 ?_
  refine go_iadd (p := 836) hf_139 rfl rfl (by first | with_reducible exact nI_add _ _ | exact rfl) ?_
  refine go_ialdX (p := 837) hf_139 rfl rfl (by first | exact rfl | with_reducible assumption) (by omega) hX ?_
  refine go_cw2 (p := 840) hf_139 rfl rfl (inv_v ho_139 cl_8_99) (by decide) nl_9 rfl rfl (by first | rfl | exact rcv_of (by with_reducible assumption)) rfl rfl rfl (by omega) (by omega) (g_plant h) ?_
  rintro v9 M9 ⟨u9, rfl, hc9⟩
  simp only [Option.toList, List.cons_append, List.nil_append]
  refine go_al2 (p := 841) hf_139 rfl rfl ?_
  refine go_alX (p := 842) hf_139 rfl rfl ?_
  refine go_il4 (p := 844) hf_139 rfl rfl ?_
  refine go_iconst (p := 845) hf_139 rfl rfl ci_1 ?_
  refine go_iadd (p := 846) hf_139 rfl rfl (by first | with_reducible exact nI_add _ _ | exact rfl) ?_
  refine go_ialdX (p := 847) hf_139 rfl rfl (by first | exact rfl | with_reducible assumption) (by omega) hX ?_
  refine go_cw2 (p := 850) hf_139 rfl rfl (inv_v ho_139 cl_8_102) (by decide) nl_116 rfl rfl (by first | rfl | exact rcv_of (by with_reducible assumption)) rfl rfl rfl (by omega) (by omega) (hc9) ?_
  rintro v8 M8 ⟨rfl, h8⟩
  simp only [Option.toList, List.cons_append, List.nil_append]
  refine go_ic_eq (p := 853) (p2 := 1091) hf_139 rfl rfl rfl (fun h850 => ?_) (fun h850 => absurd rfl h850)
  exact nx M8 _ _ _ _ _ h8 (by omega) (by omega)
theorem lw_build (hX : X.1 < 2 ^ 31) (hX2 : X.1 ≤ 2048) (hi : i + 4 ≤ X.1) (h : Rel M) (h1 : 1 ≤ rc) (h6 : 6 ≤ rs) (nx : ∀ (M1 : sm_M) (J1 : sm_J) (rc1 rs1 : Nat) (y5 y6 : Option Value), Rel M1 → rc ≤ rc1 + 1 → rs ≤ rs1 + 6 → sm_wp tb_T X tb_ok 11 388 139 1091 [some (.retAddr 0), some (.ref 0), some (.ref 40), some (.ref 62), some (.int (nI i)), y5, y6] [] (wSH, M1, J1, rc1, rs1) Q) : sm_wp tb_T X tb_ok 11 388 139 855 [some (.retAddr 0), some (.ref 0), some (.ref 40), some (.ref 62), some (.int (nI i)), y5, y6] [] (wSH, M, J, rc, rs) Q := by
  refine go_al1 (p := 856) hf_139 rfl rfl ?_
  refine go_alX (p := 857) hf_139 rfl rfl ?_
  refine go_il4 (p := 859) hf_139 rfl rfl ?_
  refine go_iconst (p := 860) hf_139 rfl rfl ci_1 ?_
  refine go_iadd (p := 861) hf_139 rfl rfl (by first | with_reducible exact nI_add _ _ | exact rfl) ?_
  refine go_ialdX (p := 862) hf_139 rfl rfl (by first | exact rfl | with_reducible assumption) (by omega) hX ?_
  refine go_alX (p := 863) hf_139 rfl rfl ?_
  refine go_il4 (p := 865) hf_139 rfl rfl ?_
  refine go_iconst (p := 866) hf_139 rfl rfl ci_2 ?_
  refine go_iadd (p := 867) hf_139 rfl rfl (by first | with_reducible exact nI_add _ _ | exact rfl) ?_
  refine go_ialdX (p := 868) hf_139 rfl rfl (by first | exact rfl | with_reducible assumption) (by omega) hX ?_
  refine go_alX (p := 869) hf_139 rfl rfl ?_
  refine go_il4 (p := 871) hf_139 rfl rfl ?_
  refine go_iconst (p := 872) hf_139 rfl rfl ci_3 ?_
  refine go_iadd (p := 873) hf_139 rfl rfl (by first | with_reducible exact nI_add _ _ | exact rfl) ?_
  refine go_ialdX (p := 874) hf_139 rfl rfl (by first | exact rfl | with_reducible assumption) (by omega) hX ?_
  refine go_cw4 (p := 877) hf_139 rfl rfl (inv_v ho_139 cl_8_103) (by decide) nl_10 rfl rfl (by first | rfl | exact rcv_of (by with_reducible assumption)) rfl rfl rfl (by omega) (by omega) (g_build h) ?_
  rintro v9 M9 ⟨u9, rfl, hc9⟩
  simp only [Option.toList, List.cons_append, List.nil_append]
  refine go_al2 (p := 878) hf_139 rfl rfl ?_
  refine go_alX (p := 879) hf_139 rfl rfl ?_
  refine go_il4 (p := 881) hf_139 rfl rfl ?_
  refine go_iconst (p := 882) hf_139 rfl rfl ci_1 ?_
  refine go_iadd (p := 883) hf_139 rfl rfl (by first | with_reducible exact nI_add _ _ | exact rfl) ?_
  refine go_ialdX (p := 884) hf_139 rfl rfl (by first | exact rfl | with_reducible assumption) (by omega) hX ?_
  refine go_alX (p := 885) hf_139 rfl rfl ?_
  refine go_il4 (p := 887) hf_139 rfl rfl ?_
  refine go_iconst (p := 888) hf_139 rfl rfl ci_2 ?_
  refine go_iadd (p := 889) hf_139 rfl rfl (by first | with_reducible exact nI_add _ _ | exact rfl) ?_
  refine go_ialdX (p := 890) hf_139 rfl rfl (by first | exact rfl | with_reducible assumption) (by omega) hX ?_
  refine go_alX (p := 891) hf_139 rfl rfl ?_
  refine go_il4 (p := 893) hf_139 rfl rfl ?_
  refine go_iconst (p := 894) hf_139 rfl rfl ci_3 ?_
  refine go_iadd (p := 895) hf_139 rfl rfl (by first | with_reducible exact nI_add _ _ | exact rfl) ?_
  refine go_ialdX (p := 896) hf_139 rfl rfl (by first | exact rfl | with_reducible assumption) (by omega) hX ?_
  refine go_cw4 (p := 899) hf_139 rfl rfl (inv_v ho_139 cl_8_106) (by decide) nl_117 rfl rfl (by first | rfl | exact rcv_of (by with_reducible assumption)) rfl rfl rfl (by omega) (by omega) (hc9) ?_
  rintro v8 M8 ⟨rfl, h8⟩
  simp only [Option.toList, List.cons_append, List.nil_append]
  refine go_ic_eq (p := 902) (p2 := 1091) hf_139 rfl rfl rfl (fun h899 => ?_) (fun h899 => absurd rfl h899)
  exact nx M8 _ _ _ _ _ h8 (by omega) (by omega)
theorem lw_leak (hX : X.1 < 2 ^ 31) (hX2 : X.1 ≤ 2048) (hi : i + 4 ≤ X.1) (h : Rel M) (h1 : 1 ≤ rc) (h6 : 6 ≤ rs) (nx : ∀ (M1 : sm_M) (J1 : sm_J) (rc1 rs1 : Nat) (y5 y6 : Option Value), Rel M1 → rc ≤ rc1 + 1 → rs ≤ rs1 + 6 → sm_wp tb_T X tb_ok 11 388 139 1091 [some (.retAddr 0), some (.ref 0), some (.ref 40), some (.ref 62), some (.int (nI i)), y5, y6] [] (wSH, M1, J1, rc1, rs1) Q) : sm_wp tb_T X tb_ok 11 388 139 904 [some (.retAddr 0), some (.ref 0), some (.ref 40), some (.ref 62), some (.int (nI i)), y5, y6] [] (wSH, M, J, rc, rs) Q := by
  refine go_al1 (p := 905) hf_139 rfl rfl ?_
  refine go_alX (p := 906) hf_139 rfl rfl ?_
  refine go_il4 (p := 908) hf_139 rfl rfl ?_
  refine go_iconst (p := 909) hf_139 rfl rfl ci_1 ?_
  refine go_iadd (p := 910) hf_139 rfl rfl (by first | with_reducible exact nI_add _ _ | exact rfl) ?_
  refine go_ialdX (p := 911) hf_139 rfl rfl (by first | exact rfl | with_reducible assumption) (by omega) hX ?_
  refine go_cw2 (p := 914) hf_139 rfl rfl (inv_v ho_139 cl_8_107) (by decide) nl_11 rfl rfl (by first | rfl | exact rcv_of (by with_reducible assumption)) rfl rfl rfl (by omega) (by omega) (g_leak h) ?_
  rintro v9 M9 ⟨u9, rfl, hc9⟩
  simp only [Option.toList, List.cons_append, List.nil_append]
  refine go_al2 (p := 915) hf_139 rfl rfl ?_
  refine go_alX (p := 916) hf_139 rfl rfl ?_
  refine go_il4 (p := 918) hf_139 rfl rfl ?_
  refine go_iconst (p := 919) hf_139 rfl rfl ci_1 ?_
  refine go_iadd (p := 920) hf_139 rfl rfl (by first | with_reducible exact nI_add _ _ | exact rfl) ?_
  refine go_ialdX (p := 921) hf_139 rfl rfl (by first | exact rfl | with_reducible assumption) (by omega) hX ?_
  refine go_cw2 (p := 924) hf_139 rfl rfl (inv_v ho_139 cl_8_110) (by decide) nl_118 rfl rfl (by first | rfl | exact rcv_of (by with_reducible assumption)) rfl rfl rfl (by omega) (by omega) (hc9) ?_
  rintro v8 M8 ⟨rfl, h8⟩
  simp only [Option.toList, List.cons_append, List.nil_append]
  refine go_ic_eq (p := 927) (p2 := 1091) hf_139 rfl rfl rfl (fun h924 => ?_) (fun h924 => absurd rfl h924)
  exact nx M8 _ _ _ _ _ h8 (by omega) (by omega)
theorem lw_steal (hX : X.1 < 2 ^ 31) (hX2 : X.1 ≤ 2048) (hi : i + 4 ≤ X.1) (h : Rel M) (h1 : 1 ≤ rc) (h6 : 6 ≤ rs) (nx : ∀ (M1 : sm_M) (J1 : sm_J) (rc1 rs1 : Nat) (y5 y6 : Option Value), Rel M1 → rc ≤ rc1 + 1 → rs ≤ rs1 + 6 → sm_wp tb_T X tb_ok 11 388 139 1091 [some (.retAddr 0), some (.ref 0), some (.ref 40), some (.ref 62), some (.int (nI i)), y5, y6] [] (wSH, M1, J1, rc1, rs1) Q) : sm_wp tb_T X tb_ok 11 388 139 929 [some (.retAddr 0), some (.ref 0), some (.ref 40), some (.ref 62), some (.int (nI i)), y5, y6] [] (wSH, M, J, rc, rs) Q := by
  refine go_al1 (p := 930) hf_139 rfl rfl ?_
  refine go_alX (p := 931) hf_139 rfl rfl ?_
  refine go_il4 (p := 933) hf_139 rfl rfl ?_
  refine go_iconst (p := 934) hf_139 rfl rfl ci_1 ?_
  refine go_iadd (p := 935) hf_139 rfl rfl (by first | with_reducible exact nI_add _ _ | exact rfl) ?_
  refine go_ialdX (p := 936) hf_139 rfl rfl (by first | exact rfl | with_reducible assumption) (by omega) hX ?_
  refine go_cw2 (p := 939) hf_139 rfl rfl (inv_v ho_139 cl_8_111) (by decide) nl_12 rfl rfl (by first | rfl | exact rcv_of (by with_reducible assumption)) rfl rfl rfl (by omega) (by omega) (g_steal h) ?_
  rintro v9 M9 ⟨u9, rfl, hc9⟩
  simp only [Option.toList, List.cons_append, List.nil_append]
  refine go_al2 (p := 940) hf_139 rfl rfl ?_
  refine go_alX (p := 941) hf_139 rfl rfl ?_
  refine go_il4 (p := 943) hf_139 rfl rfl ?_
  refine go_iconst (p := 944) hf_139 rfl rfl ci_1 ?_
  refine go_iadd (p := 945) hf_139 rfl rfl (by first | with_reducible exact nI_add _ _ | exact rfl) ?_
  refine go_ialdX (p := 946) hf_139 rfl rfl (by first | exact rfl | with_reducible assumption) (by omega) hX ?_
  refine go_cw2 (p := 949) hf_139 rfl rfl (inv_v ho_139 cl_8_114) (by decide) nl_119 rfl rfl (by first | rfl | exact rcv_of (by with_reducible assumption)) rfl rfl rfl (by omega) (by omega) (hc9) ?_
  rintro v8 M8 ⟨rfl, h8⟩
  simp only [Option.toList, List.cons_append, List.nil_append]
  refine go_ic_eq (p := 952) (p2 := 1091) hf_139 rfl rfl rfl (fun h949 => ?_) (fun h949 => absurd rfl h949)
  exact nx M8 _ _ _ _ _ h8 (by omega) (by omega)
theorem lw_known (hX : X.1 < 2 ^ 31) (hX2 : X.1 ≤ 2048) (hi : i + 4 ≤ X.1) (h : Rel M) (h1 : 1 ≤ rc) (h6 : 6 ≤ rs) (nx : ∀ (M1 : sm_M) (J1 : sm_J) (rc1 rs1 : Nat) (y5 y6 : Option Value), Rel M1 → rc ≤ rc1 + 1 → rs ≤ rs1 + 6 → sm_wp tb_T X tb_ok 11 388 139 1091 [some (.retAddr 0), some (.ref 0), some (.ref 40), some (.ref 62), some (.int (nI i)), y5, y6] [] (wSH, M1, J1, rc1, rs1) Q) : sm_wp tb_T X tb_ok 11 388 139 954 [some (.retAddr 0), some (.ref 0), some (.ref 40), some (.ref 62), some (.int (nI i)), y5, y6] [] (wSH, M, J, rc, rs) Q := by
  refine go_al1 (p := 955) hf_139 rfl rfl ?_
  refine go_alX (p := 956) hf_139 rfl rfl ?_
  refine go_il4 (p := 958) hf_139 rfl rfl ?_
  refine go_iconst (p := 959) hf_139 rfl rfl ci_1 ?_
  refine go_iadd (p := 960) hf_139 rfl rfl (by first | with_reducible exact nI_add _ _ | exact rfl) ?_
  refine go_ialdX (p := 961) hf_139 rfl rfl (by first | exact rfl | with_reducible assumption) (by omega) hX ?_
  refine go_cw2 (p := 964) hf_139 rfl rfl (inv_v ho_139 cl_8_115) (by decide) nl_13 rfl rfl (by first | rfl | exact rcv_of (by with_reducible assumption)) rfl rfl rfl (by omega) (by omega) (g_known h) ?_
  rintro v9 M9 ⟨u9, rfl, hc9⟩
  simp only [Option.toList, List.cons_append, List.nil_append]
  refine go_al2 (p := 965) hf_139 rfl rfl ?_
  refine go_alX (p := 966) hf_139 rfl rfl ?_
  refine go_il4 (p := 968) hf_139 rfl rfl ?_
  refine go_iconst (p := 969) hf_139 rfl rfl ci_1 ?_
  refine go_iadd (p := 970) hf_139 rfl rfl (by first | with_reducible exact nI_add _ _ | exact rfl) ?_
  refine go_ialdX (p := 971) hf_139 rfl rfl (by first | exact rfl | with_reducible assumption) (by omega) hX ?_
  refine go_cw2 (p := 974) hf_139 rfl rfl (inv_v ho_139 cl_8_118) (by decide) nl_120 rfl rfl (by first | rfl | exact rcv_of (by with_reducible assumption)) rfl rfl rfl (by omega) (by omega) (hc9) ?_
  rintro v8 M8 ⟨rfl, h8⟩
  simp only [Option.toList, List.cons_append, List.nil_append]
  refine go_ic_eq (p := 977) (p2 := 1091) hf_139 rfl rfl rfl (fun h974 => ?_) (fun h974 => absurd rfl h974)
  exact nx M8 _ _ _ _ _ h8 (by omega) (by omega)
theorem lw_term (hX : X.1 < 2 ^ 31) (hX2 : X.1 ≤ 2048) (hi : i + 4 ≤ X.1) (h : Rel M) (h1 : 1 ≤ rc) (h6 : 6 ≤ rs) (nx : ∀ (M1 : sm_M) (J1 : sm_J) (rc1 rs1 : Nat) (y5 y6 : Option Value), Rel M1 → rc ≤ rc1 + 1 → rs ≤ rs1 + 6 → sm_wp tb_T X tb_ok 11 388 139 1091 [some (.retAddr 0), some (.ref 0), some (.ref 40), some (.ref 62), some (.int (nI i)), y5, y6] [] (wSH, M1, J1, rc1, rs1) Q) : sm_wp tb_T X tb_ok 11 388 139 979 [some (.retAddr 0), some (.ref 0), some (.ref 40), some (.ref 62), some (.int (nI i)), y5, y6] [] (wSH, M, J, rc, rs) Q := by
  refine go_al1 (p := 980) hf_139 rfl rfl ?_
  refine go_alX (p := 981) hf_139 rfl rfl ?_
  refine go_il4 (p := 983) hf_139 rfl rfl ?_
  refine go_iconst (p := 984) hf_139 rfl rfl ci_1 ?_
  refine go_iadd (p := 985) hf_139 rfl rfl (by first | with_reducible exact nI_add _ _ | exact rfl) ?_
  refine go_ialdX (p := 986) hf_139 rfl rfl (by first | exact rfl | with_reducible assumption) (by omega) hX ?_
  refine go_alX (p := 987) hf_139 rfl rfl ?_
  refine go_il4 (p := 989) hf_139 rfl rfl ?_
  refine go_iconst (p := 990) hf_139 rfl rfl ci_2 ?_
  refine go_iadd (p := 991) hf_139 rfl rfl (by first | with_reducible exact nI_add _ _ | exact rfl) ?_
  refine go_ialdX (p := 992) hf_139 rfl rfl (by first | exact rfl | with_reducible assumption) (by omega) hX ?_
  refine go_cw3 (p := 995) hf_139 rfl rfl (inv_v ho_139 cl_8_119) (by decide) nl_14 rfl rfl (by first | rfl | exact rcv_of (by with_reducible assumption)) rfl rfl rfl (by omega) (by omega) (g_term h) ?_
  rintro v9 M9 ⟨u9, rfl, hc9⟩
  simp only [Option.toList, List.cons_append, List.nil_append]
  refine go_al2 (p := 996) hf_139 rfl rfl ?_
  refine go_alX (p := 997) hf_139 rfl rfl ?_
  refine go_il4 (p := 999) hf_139 rfl rfl ?_
  refine go_iconst (p := 1000) hf_139 rfl rfl ci_1 ?_
  refine go_iadd (p := 1001) hf_139 rfl rfl (by first | with_reducible exact nI_add _ _ | exact rfl) ?_
  refine go_ialdX (p := 1002) hf_139 rfl rfl (by first | exact rfl | with_reducible assumption) (by omega) hX ?_
  refine go_alX (p := 1003) hf_139 rfl rfl ?_
  refine go_il4 (p := 1005) hf_139 rfl rfl ?_
  refine go_iconst (p := 1006) hf_139 rfl rfl ci_2 ?_
  refine go_iadd (p := 1007) hf_139 rfl rfl (by first | with_reducible exact nI_add _ _ | exact rfl) ?_
  refine go_ialdX (p := 1008) hf_139 rfl rfl (by first | exact rfl | with_reducible assumption) (by omega) hX ?_
  refine go_cw3 (p := 1011) hf_139 rfl rfl (inv_v ho_139 cl_8_122) (by decide) nl_121 rfl rfl (by first | rfl | exact rcv_of (by with_reducible assumption)) rfl rfl rfl (by omega) (by omega) (hc9) ?_
  rintro v8 M8 ⟨rfl, h8⟩
  simp only [Option.toList, List.cons_append, List.nil_append]
  refine go_ic_eq (p := 1014) (p2 := 1091) hf_139 rfl rfl rfl (fun h1011 => ?_) (fun h1011 => absurd rfl h1011)
  exact nx M8 _ _ _ _ _ h8 (by omega) (by omega)
theorem lw_atom (hX : X.1 < 2 ^ 31) (hX2 : X.1 ≤ 2048) (hi : i + 4 ≤ X.1) (h : Rel M) (h1 : 1 ≤ rc) (h6 : 6 ≤ rs) (nx : ∀ (M1 : sm_M) (J1 : sm_J) (rc1 rs1 : Nat) (y5 y6 : Option Value), Rel M1 → rc ≤ rc1 + 1 → rs ≤ rs1 + 6 → sm_wp tb_T X tb_ok 11 388 139 1091 [some (.retAddr 0), some (.ref 0), some (.ref 40), some (.ref 62), some (.int (nI i)), y5, y6] [] (wSH, M1, J1, rc1, rs1) Q) : sm_wp tb_T X tb_ok 11 388 139 1016 [some (.retAddr 0), some (.ref 0), some (.ref 40), some (.ref 62), some (.int (nI i)), y5, y6] [] (wSH, M, J, rc, rs) Q := by
  refine go_al1 (p := 1017) hf_139 rfl rfl ?_
  refine go_alX (p := 1018) hf_139 rfl rfl ?_
  refine go_il4 (p := 1020) hf_139 rfl rfl ?_
  refine go_iconst (p := 1021) hf_139 rfl rfl ci_1 ?_
  refine go_iadd (p := 1022) hf_139 rfl rfl (by first | with_reducible exact nI_add _ _ | exact rfl) ?_
  refine go_ialdX (p := 1023) hf_139 rfl rfl (by first | exact rfl | with_reducible assumption) (by omega) hX ?_
  refine go_cw2 (p := 1026) hf_139 rfl rfl (inv_v ho_139 cl_8_123) (by decide) nl_15 rfl rfl (by first | rfl | exact rcv_of (by with_reducible assumption)) rfl rfl rfl (by omega) (by omega) (g_atom h) ?_
  rintro v9 M9 ⟨u9, rfl, hc9⟩
  simp only [Option.toList, List.cons_append, List.nil_append]
  refine go_al2 (p := 1027) hf_139 rfl rfl ?_
  refine go_alX (p := 1028) hf_139 rfl rfl ?_
  refine go_il4 (p := 1030) hf_139 rfl rfl ?_
  refine go_iconst (p := 1031) hf_139 rfl rfl ci_1 ?_
  refine go_iadd (p := 1032) hf_139 rfl rfl (by first | with_reducible exact nI_add _ _ | exact rfl) ?_
  refine go_ialdX (p := 1033) hf_139 rfl rfl (by first | exact rfl | with_reducible assumption) (by omega) hX ?_
  refine go_cw2 (p := 1036) hf_139 rfl rfl (inv_v ho_139 cl_8_126) (by decide) nl_122 rfl rfl (by first | rfl | exact rcv_of (by with_reducible assumption)) rfl rfl rfl (by omega) (by omega) (hc9) ?_
  rintro v8 M8 ⟨rfl, h8⟩
  simp only [Option.toList, List.cons_append, List.nil_append]
  refine go_ic_eq (p := 1039) (p2 := 1091) hf_139 rfl rfl rfl (fun h1036 => ?_) (fun h1036 => absurd rfl h1036)
  exact nx M8 _ _ _ _ _ h8 (by omega) (by omega)
theorem lw_device (hX : X.1 < 2 ^ 31) (hX2 : X.1 ≤ 2048) (hi : i + 4 ≤ X.1) (h : Rel M) (h1 : 1 ≤ rc) (h6 : 6 ≤ rs) (nx : ∀ (M1 : sm_M) (J1 : sm_J) (rc1 rs1 : Nat) (y5 y6 : Option Value), Rel M1 → rc ≤ rc1 + 1 → rs ≤ rs1 + 6 → sm_wp tb_T X tb_ok 11 388 139 1091 [some (.retAddr 0), some (.ref 0), some (.ref 40), some (.ref 62), some (.int (nI i)), y5, y6] [] (wSH, M1, J1, rc1, rs1) Q) : sm_wp tb_T X tb_ok 11 388 139 1041 [some (.retAddr 0), some (.ref 0), some (.ref 40), some (.ref 62), some (.int (nI i)), y5, y6] [] (wSH, M, J, rc, rs) Q := by
  refine go_al1 (p := 1042) hf_139 rfl rfl ?_
  refine go_alX (p := 1043) hf_139 rfl rfl ?_
  refine go_il4 (p := 1045) hf_139 rfl rfl ?_
  refine go_iconst (p := 1046) hf_139 rfl rfl ci_1 ?_
  refine go_iadd (p := 1047) hf_139 rfl rfl (by first | with_reducible exact nI_add _ _ | exact rfl) ?_
  refine go_ialdX (p := 1048) hf_139 rfl rfl (by first | exact rfl | with_reducible assumption) (by omega) hX ?_
  refine go_alX (p := 1049) hf_139 rfl rfl ?_
  refine go_il4 (p := 1051) hf_139 rfl rfl ?_
  refine go_iconst (p := 1052) hf_139 rfl rfl ci_2 ?_
  refine go_iadd (p := 1053) hf_139 rfl rfl (by first | with_reducible exact nI_add _ _ | exact rfl) ?_
  refine go_ialdX (p := 1054) hf_139 rfl rfl (by first | exact rfl | with_reducible assumption) (by omega) hX ?_
  refine go_cw3 (p := 1057) hf_139 rfl rfl (inv_v ho_139 cl_8_127) (by decide) nl_16 rfl rfl (by first | rfl | exact rcv_of (by with_reducible assumption)) rfl rfl rfl (by omega) (by omega) (g_device h) ?_
  rintro v9 M9 ⟨u9, rfl, hc9⟩
  simp only [Option.toList, List.cons_append, List.nil_append]
  refine go_al2 (p := 1058) hf_139 rfl rfl ?_
  refine go_alX (p := 1059) hf_139 rfl rfl ?_
  refine go_il4 (p := 1061) hf_139 rfl rfl ?_
  refine go_iconst (p := 1062) hf_139 rfl rfl ci_1 ?_
  refine go_iadd (p := 1063) hf_139 rfl rfl (by first | with_reducible exact nI_add _ _ | exact rfl) ?_
  refine go_ialdX (p := 1064) hf_139 rfl rfl (by first | exact rfl | with_reducible assumption) (by omega) hX ?_
  refine go_alX (p := 1065) hf_139 rfl rfl ?_
  refine go_il4 (p := 1067) hf_139 rfl rfl ?_
  refine go_iconst (p := 1068) hf_139 rfl rfl ci_2 ?_
  refine go_iadd (p := 1069) hf_139 rfl rfl (by first | with_reducible exact nI_add _ _ | exact rfl) ?_
  refine go_ialdX (p := 1070) hf_139 rfl rfl (by first | exact rfl | with_reducible assumption) (by omega) hX ?_
  refine go_cw3 (p := 1073) hf_139 rfl rfl (inv_v ho_139 cl_8_130) (by decide) nl_123 rfl rfl (by first | rfl | exact rcv_of (by with_reducible assumption)) rfl rfl rfl (by omega) (by omega) (hc9) ?_
  rintro v8 M8 ⟨rfl, h8⟩
  simp only [Option.toList, List.cons_append, List.nil_append]
  refine go_ic_eq (p := 1076) (p2 := 1091) hf_139 rfl rfl rfl (fun h1073 => ?_) (fun h1073 => absurd rfl h1073)
  exact nx M8 _ _ _ _ _ h8 (by omega) (by omega)
theorem lw_server (hX : X.1 < 2 ^ 31) (hX2 : X.1 ≤ 2048) (hi : i + 4 ≤ X.1) (h : Rel M) (h1 : 1 ≤ rc) (h6 : 6 ≤ rs) (nx : ∀ (M1 : sm_M) (J1 : sm_J) (rc1 rs1 : Nat) (y5 y6 : Option Value), Rel M1 → rc ≤ rc1 + 1 → rs ≤ rs1 + 6 → sm_wp tb_T X tb_ok 11 388 139 1091 [some (.retAddr 0), some (.ref 0), some (.ref 40), some (.ref 62), some (.int (nI i)), y5, y6] [] (wSH, M1, J1, rc1, rs1) Q) : sm_wp tb_T X tb_ok 11 388 139 1078 [some (.retAddr 0), some (.ref 0), some (.ref 40), some (.ref 62), some (.int (nI i)), y5, y6] [] (wSH, M, J, rc, rs) Q := by
  refine go_al1 (p := 1079) hf_139 rfl rfl ?_
  refine go_cw1 (p := 1082) hf_139 rfl rfl (inv_v ho_139 cl_8_131) (by decide) nl_17 rfl rfl (by first | rfl | exact rcv_of (by with_reducible assumption)) rfl rfl rfl (by omega) (by omega) (g_server h) ?_
  rintro v9 M9 ⟨u9, rfl, hc9⟩
  simp only [Option.toList, List.cons_append, List.nil_append]
  refine go_al2 (p := 1083) hf_139 rfl rfl ?_
  refine go_cw1 (p := 1086) hf_139 rfl rfl (inv_v ho_139 cl_8_134) (by decide) nl_124 rfl rfl (by first | rfl | exact rcv_of (by with_reducible assumption)) rfl rfl rfl (by omega) (by omega) (hc9) ?_
  rintro v8 M8 ⟨rfl, h8⟩
  simp only [Option.toList, List.cons_append, List.nil_append]
  refine go_ic_eq (p := 1089) (p2 := 1091) hf_139 rfl rfl rfl (fun h1086 => ?_) (fun h1086 => absurd rfl h1086)
  exact nx M8 _ _ _ _ _ h8 (by omega) (by omega)
theorem lw_unlock (hX : X.1 < 2 ^ 31) (hX2 : X.1 ≤ 2048) (hi : i + 4 ≤ X.1) (h : Rel M) (h1 : 1 ≤ rc) (h6 : 6 ≤ rs) (nx : ∀ (M1 : sm_M) (J1 : sm_J) (rc1 rs1 : Nat) (y5 y6 : Option Value), Rel M1 → rc ≤ rc1 + 1 → rs ≤ rs1 + 6 → sm_wp tb_T X tb_ok 11 388 139 1091 [some (.retAddr 0), some (.ref 0), some (.ref 40), some (.ref 62), some (.int (nI i)), y5, y6] [] (wSH, M1, J1, rc1, rs1) Q) : sm_wp tb_T X tb_ok 11 388 139 140 [some (.retAddr 0), some (.ref 0), some (.ref 40), some (.ref 62), some (.int (nI i)), y5, y6] [] (wSH, M, J, rc, rs) Q := by
  refine go_al1 (p := 141) hf_139 rfl rfl ?_
  refine go_alX (p := 142) hf_139 rfl rfl ?_
  refine go_il4 (p := 144) hf_139 rfl rfl ?_
  refine go_iconst (p := 145) hf_139 rfl rfl ci_1 ?_
  refine go_iadd (p := 146) hf_139 rfl rfl (by first | with_reducible exact nI_add _ _ | exact rfl) ?_
  refine go_ialdX (p := 147) hf_139 rfl rfl (by first | exact rfl | with_reducible assumption) (by omega) hX ?_
  refine go_alX (p := 148) hf_139 rfl rfl ?_
  refine go_il4 (p := 150) hf_139 rfl rfl ?_
  refine go_iconst (p := 151) hf_139 rfl rfl ci_2 ?_
  refine go_iadd (p := 152) hf_139 rfl rfl (by first | with_reducible exact nI_add _ _ | exact rfl) ?_
  refine go_ialdX (p := 153) hf_139 rfl rfl (by first | exact rfl | with_reducible assumption) (by omega) hX ?_
  refine go_al3 (p := 154) hf_139 rfl rfl ?_
  refine go_hc4 (p := 157) hf_139 rfl rfl (inv_s ho_139 cl_8_46) (by decide) nl_131 rfl rfl rfl rfl rfl rfl (by omega) (by omega) (h_unlock (g_unlock h) (fun v M1 q => by obtain ⟨u, e, -⟩ := q; exact ⟨u, e⟩) (fun x q => q.1) X J rc rs 10 364 (by omega) (by omega) h1 h6) (fun v h1 hq => ?_) (fun x h1 hq => ?_)
  · rcases hq with ⟨u, M1, w, e1, rfl, hw, u', eu, hc9⟩ | ⟨x, hx, e1, rfl⟩
    · cases e1
      cases eu
      refine ⟨M1, _, _, _, rfl, ?_⟩
      simp only [Option.toList, List.cons_append, List.nil_append]
      refine go_is5 (p := 159) hf_139 rfl rfl ?_
      refine go_al2 (p := 160) hf_139 rfl rfl ?_
      refine go_alX (p := 161) hf_139 rfl rfl ?_
      refine go_il4 (p := 163) hf_139 rfl rfl ?_
      refine go_iconst (p := 164) hf_139 rfl rfl ci_1 ?_
      refine go_iadd (p := 165) hf_139 rfl rfl (by first | with_reducible exact nI_add _ _ | exact rfl) ?_
      refine go_ialdX (p := 166) hf_139 rfl rfl (by first | exact rfl | with_reducible assumption) (by omega) hX ?_
      refine go_alX (p := 167) hf_139 rfl rfl ?_
      refine go_il4 (p := 169) hf_139 rfl rfl ?_
      refine go_iconst (p := 170) hf_139 rfl rfl ci_2 ?_
      refine go_iadd (p := 171) hf_139 rfl rfl (by first | with_reducible exact nI_add _ _ | exact rfl) ?_
      refine go_ialdX (p := 172) hf_139 rfl rfl (by first | exact rfl | with_reducible assumption) (by omega) hX ?_
      refine go_cw3 (p := 175) hf_139 rfl rfl (inv_v ho_139 cl_8_51) (by decide) nl_74 rfl rfl (by first | rfl | exact rcv_of (by with_reducible assumption)) rfl rfl rfl (by omega) (by omega) (hc9) ?_
      rintro v8 M8 ⟨rfl, e0, h8⟩
      simp only [Option.toList, List.cons_append, List.nil_append]
      refine go_is6 (p := 177) hf_139 rfl rfl ?_
      refine go_al2 (p := 178) hf_139 rfl rfl ?_
      refine go_cw1 (p := 181) hf_139 rfl rfl (inv_v ho_139 cl_8_52) (by decide) nl_73 rfl rfl (by first | rfl | exact rcv_of (by with_reducible assumption)) rfl rfl rfl (by omega) (by omega) (r_thrown) ?_
      rintro v7 M7 ⟨rfl, e7⟩
      rewrite [e7, e0]
      clear e7
      simp only [Option.toList, List.cons_append, List.nil_append]
      refine go_il5 (p := 183) hf_139 rfl rfl ?_
      first | refine go_nn_eq (p := 186) (p2 := 188) hf_139 rfl rfl rfl (by omega) (by omega) (fun h183 => ?_) (fun h183 => absurd rfl h183) | refine go_ic_eq (p := 186) (p2 := 188) hf_139 rfl rfl rfl (fun h183 => ?_) (fun h183 => absurd rfl h183)
      refine go_il5 (p := 190) hf_139 rfl rfl ?_
      refine go_if_ne (p := 193) (p2 := 212) hf_139 rfl rfl rfl (fun h190 => absurd rfl h190) (fun h190 => ?_)
      refine go_al3 (p := 194) hf_139 rfl rfl ?_
      refine go_iconst (p := 195) hf_139 rfl rfl ci_0 ?_
      refine go_lald (p := 196) hf_139 rfl rfl (by first | with_reducible assumption | rfl) rfl rfl (by decide) ?_
      refine go_il6 (p := 198) hf_139 rfl rfl ?_
      refine go_if_eq (p := 201) (p2 := 205) hf_139 rfl rfl rfl (fun h198 => ?_) (fun h198 => ?_)
      · refine go_lconst (p := 206) hf_139 rfl rfl ?_
        refine go_lcmp (p := 207) hf_139 rfl rfl ?_
        refine go_if_eq (p := 210) (p2 := 212) hf_139 rfl rfl rfl (fun h207 => ?_) (fun h207 => absurd (lg_0 hw h198) h207)
        refine go_goto (p2 := 1091) hf_139 rfl rfl ?_
        exact nx M8 _ _ _ _ _ h8 (by omega) (by omega)
      · refine go_lconst (p := 202) hf_139 rfl rfl ?_
        refine go_goto (p2 := 206) hf_139 rfl rfl ?_
        refine go_lcmp (p := 207) hf_139 rfl rfl ?_
        refine go_if_eq (p := 210) (p2 := 212) hf_139 rfl rfl rfl (fun h207 => ?_) (fun h207 => absurd (lg_1 hw h198) h207)
        refine go_goto (p2 := 1091) hf_139 rfl rfl ?_
        exact nx M8 _ _ _ _ _ h8 (by omega) (by omega)
    · cases e1
      obtain ⟨hx1, hc9⟩ := hx
      refine ⟨M, _, _, _, rfl, ?_⟩
      simp only [Option.toList, List.cons_append, List.nil_append]
      refine go_is5 (p := 159) hf_139 rfl rfl ?_
      refine go_al2 (p := 160) hf_139 rfl rfl ?_
      refine go_alX (p := 161) hf_139 rfl rfl ?_
      refine go_il4 (p := 163) hf_139 rfl rfl ?_
      refine go_iconst (p := 164) hf_139 rfl rfl ci_1 ?_
      refine go_iadd (p := 165) hf_139 rfl rfl (by first | with_reducible exact nI_add _ _ | exact rfl) ?_
      refine go_ialdX (p := 166) hf_139 rfl rfl (by first | exact rfl | with_reducible assumption) (by omega) hX ?_
      refine go_alX (p := 167) hf_139 rfl rfl ?_
      refine go_il4 (p := 169) hf_139 rfl rfl ?_
      refine go_iconst (p := 170) hf_139 rfl rfl ci_2 ?_
      refine go_iadd (p := 171) hf_139 rfl rfl (by first | with_reducible exact nI_add _ _ | exact rfl) ?_
      refine go_ialdX (p := 172) hf_139 rfl rfl (by first | exact rfl | with_reducible assumption) (by omega) hX ?_
      refine go_cw3 (p := 175) hf_139 rfl rfl (inv_v ho_139 cl_8_51) (by decide) nl_74 rfl rfl (by first | rfl | exact rcv_of (by with_reducible assumption)) rfl rfl rfl (by omega) (by omega) (hc9) ?_
      rintro v8 M8 ⟨⟨u', rfl⟩, e0, h8⟩
      simp only [Option.toList, List.cons_append, List.nil_append]
      refine go_is6 (p := 177) hf_139 rfl rfl ?_
      refine go_al2 (p := 178) hf_139 rfl rfl ?_
      refine go_cw1 (p := 181) hf_139 rfl rfl (inv_v ho_139 cl_8_52) (by decide) nl_73 rfl rfl (by first | rfl | exact rcv_of (by with_reducible assumption)) rfl rfl rfl (by omega) (by omega) (r_thrown) ?_
      rintro v7 M7 ⟨rfl, e7⟩
      rewrite [e7, e0]
      clear e7
      simp only [Option.toList, List.cons_append, List.nil_append]
      refine go_il5 (p := 183) hf_139 rfl rfl ?_
      first | refine go_nn_eq (p := 186) (p2 := 188) hf_139 rfl rfl rfl (by omega) (by omega) (fun h183 => ?_) (fun h183 => absurd rfl h183) | refine go_ic_eq (p := 186) (p2 := 188) hf_139 rfl rfl rfl (fun h183 => ?_) (fun h183 => absurd rfl h183)
      refine go_il5 (p := 190) hf_139 rfl rfl ?_
      refine go_if_ne (p := 193) (p2 := 212) hf_139 rfl rfl rfl (fun h190 => ?_) (fun h190 => absurd ((nI_eq (b := 0) (by omega) (by omega)).mp h190) (by omega))
      refine go_goto (p2 := 1091) hf_139 rfl rfl ?_
      exact nx M8 _ _ _ _ _ h8 (by omega) (by omega)
  · rcases hq with ⟨u, M1, w, e1, -⟩ | ⟨x, -, e1, -⟩
    · cases e1
    · cases e1
theorem lw_lock (hX : X.1 < 2 ^ 31) (hX2 : X.1 ≤ 2048) (hi : i + 4 ≤ X.1) (h : Rel M) (h1 : 1 ≤ rc) (h6 : 6 ≤ rs) (nx : ∀ (M1 : sm_M) (J1 : sm_J) (rc1 rs1 : Nat) (y5 y6 : Option Value), Rel M1 → rc ≤ rc1 + 1 → rs ≤ rs1 + 6 → sm_wp tb_T X tb_ok 11 388 139 1091 [some (.retAddr 0), some (.ref 0), some (.ref 40), some (.ref 62), some (.int (nI i)), y5, y6] [] (wSH, M1, J1, rc1, rs1) Q) : sm_wp tb_T X tb_ok 11 388 139 215 [some (.retAddr 0), some (.ref 0), some (.ref 40), some (.ref 62), some (.int (nI i)), y5, y6] [] (wSH, M, J, rc, rs) Q := by
  refine go_al1 (p := 216) hf_139 rfl rfl ?_
  refine go_alX (p := 217) hf_139 rfl rfl ?_
  refine go_il4 (p := 219) hf_139 rfl rfl ?_
  refine go_iconst (p := 220) hf_139 rfl rfl ci_1 ?_
  refine go_iadd (p := 221) hf_139 rfl rfl (by first | with_reducible exact nI_add _ _ | exact rfl) ?_
  refine go_ialdX (p := 222) hf_139 rfl rfl (by first | exact rfl | with_reducible assumption) (by omega) hX ?_
  refine go_al3 (p := 223) hf_139 rfl rfl ?_
  refine go_hc3 (p := 226) hf_139 rfl rfl (inv_s ho_139 cl_8_56) (by decide) nl_132 rfl rfl rfl rfl rfl rfl (by omega) (by omega) (h_lock (g_lock h) (fun v M1 q => by obtain ⟨u, e, -⟩ := q; exact ⟨u, e⟩) (fun x q => q.1) X J rc rs 10 365 (by omega) (by omega) h1 h6) (fun v h1 hq => ?_) (fun x h1 hq => ?_)
  · rcases hq with ⟨u, M1, w, e1, rfl, hw, u', eu, hc9⟩ | ⟨x, hx, e1, rfl⟩
    · cases e1
      cases eu
      refine ⟨M1, _, _, _, rfl, ?_⟩
      simp only [Option.toList, List.cons_append, List.nil_append]
      refine go_is5 (p := 228) hf_139 rfl rfl ?_
      refine go_al2 (p := 229) hf_139 rfl rfl ?_
      refine go_alX (p := 230) hf_139 rfl rfl ?_
      refine go_il4 (p := 232) hf_139 rfl rfl ?_
      refine go_iconst (p := 233) hf_139 rfl rfl ci_1 ?_
      refine go_iadd (p := 234) hf_139 rfl rfl (by first | with_reducible exact nI_add _ _ | exact rfl) ?_
      refine go_ialdX (p := 235) hf_139 rfl rfl (by first | exact rfl | with_reducible assumption) (by omega) hX ?_
      refine go_cw2 (p := 238) hf_139 rfl rfl (inv_v ho_139 cl_8_59) (by decide) nl_76 rfl rfl (by first | rfl | exact rcv_of (by with_reducible assumption)) rfl rfl rfl (by omega) (by omega) (hc9) ?_
      rintro v8 M8 ⟨rfl, e0, h8⟩
      simp only [Option.toList, List.cons_append, List.nil_append]
      refine go_is6 (p := 240) hf_139 rfl rfl ?_
      refine go_al2 (p := 241) hf_139 rfl rfl ?_
      refine go_cw1 (p := 244) hf_139 rfl rfl (inv_v ho_139 cl_8_52) (by decide) nl_73 rfl rfl (by first | rfl | exact rcv_of (by with_reducible assumption)) rfl rfl rfl (by omega) (by omega) (r_thrown) ?_
      rintro v7 M7 ⟨rfl, e7⟩
      rewrite [e7, e0]
      clear e7
      simp only [Option.toList, List.cons_append, List.nil_append]
      refine go_il5 (p := 246) hf_139 rfl rfl ?_
      first | refine go_nn_eq (p := 249) (p2 := 251) hf_139 rfl rfl rfl (by omega) (by omega) (fun h246 => ?_) (fun h246 => absurd rfl h246) | refine go_ic_eq (p := 249) (p2 := 251) hf_139 rfl rfl rfl (fun h246 => ?_) (fun h246 => absurd rfl h246)
      refine go_il5 (p := 253) hf_139 rfl rfl ?_
      refine go_if_ne (p := 256) (p2 := 275) hf_139 rfl rfl rfl (fun h253 => absurd rfl h253) (fun h253 => ?_)
      refine go_al3 (p := 257) hf_139 rfl rfl ?_
      refine go_iconst (p := 258) hf_139 rfl rfl ci_0 ?_
      refine go_lald (p := 259) hf_139 rfl rfl (by first | with_reducible assumption | rfl) rfl rfl (by decide) ?_
      refine go_il6 (p := 261) hf_139 rfl rfl ?_
      refine go_if_eq (p := 264) (p2 := 268) hf_139 rfl rfl rfl (fun h261 => ?_) (fun h261 => ?_)
      · refine go_lconst (p := 269) hf_139 rfl rfl ?_
        refine go_lcmp (p := 270) hf_139 rfl rfl ?_
        refine go_if_eq (p := 273) (p2 := 275) hf_139 rfl rfl rfl (fun h270 => ?_) (fun h270 => absurd (lg_0 hw h261) h270)
        refine go_goto (p2 := 1091) hf_139 rfl rfl ?_
        exact nx M8 _ _ _ _ _ h8 (by omega) (by omega)
      · refine go_lconst (p := 265) hf_139 rfl rfl ?_
        refine go_goto (p2 := 269) hf_139 rfl rfl ?_
        refine go_lcmp (p := 270) hf_139 rfl rfl ?_
        refine go_if_eq (p := 273) (p2 := 275) hf_139 rfl rfl rfl (fun h270 => ?_) (fun h270 => absurd (lg_1 hw h261) h270)
        refine go_goto (p2 := 1091) hf_139 rfl rfl ?_
        exact nx M8 _ _ _ _ _ h8 (by omega) (by omega)
    · cases e1
      obtain ⟨hx1, hc9⟩ := hx
      refine ⟨M, _, _, _, rfl, ?_⟩
      simp only [Option.toList, List.cons_append, List.nil_append]
      refine go_is5 (p := 228) hf_139 rfl rfl ?_
      refine go_al2 (p := 229) hf_139 rfl rfl ?_
      refine go_alX (p := 230) hf_139 rfl rfl ?_
      refine go_il4 (p := 232) hf_139 rfl rfl ?_
      refine go_iconst (p := 233) hf_139 rfl rfl ci_1 ?_
      refine go_iadd (p := 234) hf_139 rfl rfl (by first | with_reducible exact nI_add _ _ | exact rfl) ?_
      refine go_ialdX (p := 235) hf_139 rfl rfl (by first | exact rfl | with_reducible assumption) (by omega) hX ?_
      refine go_cw2 (p := 238) hf_139 rfl rfl (inv_v ho_139 cl_8_59) (by decide) nl_76 rfl rfl (by first | rfl | exact rcv_of (by with_reducible assumption)) rfl rfl rfl (by omega) (by omega) (hc9) ?_
      rintro v8 M8 ⟨⟨u', rfl⟩, e0, h8⟩
      simp only [Option.toList, List.cons_append, List.nil_append]
      refine go_is6 (p := 240) hf_139 rfl rfl ?_
      refine go_al2 (p := 241) hf_139 rfl rfl ?_
      refine go_cw1 (p := 244) hf_139 rfl rfl (inv_v ho_139 cl_8_52) (by decide) nl_73 rfl rfl (by first | rfl | exact rcv_of (by with_reducible assumption)) rfl rfl rfl (by omega) (by omega) (r_thrown) ?_
      rintro v7 M7 ⟨rfl, e7⟩
      rewrite [e7, e0]
      clear e7
      simp only [Option.toList, List.cons_append, List.nil_append]
      refine go_il5 (p := 246) hf_139 rfl rfl ?_
      first | refine go_nn_eq (p := 249) (p2 := 251) hf_139 rfl rfl rfl (by omega) (by omega) (fun h246 => ?_) (fun h246 => absurd rfl h246) | refine go_ic_eq (p := 249) (p2 := 251) hf_139 rfl rfl rfl (fun h246 => ?_) (fun h246 => absurd rfl h246)
      refine go_il5 (p := 253) hf_139 rfl rfl ?_
      refine go_if_ne (p := 256) (p2 := 275) hf_139 rfl rfl rfl (fun h253 => ?_) (fun h253 => absurd ((nI_eq (b := 0) (by omega) (by omega)).mp h253) (by omega))
      refine go_goto (p2 := 1091) hf_139 rfl rfl ?_
      exact nx M8 _ _ _ _ _ h8 (by omega) (by omega)
  · rcases hq with ⟨u, M1, w, e1, -⟩ | ⟨x, -, e1, -⟩
    · cases e1
    · cases e1
theorem lw_put (hX : X.1 < 2 ^ 31) (hX2 : X.1 ≤ 2048) (hi : i + 4 ≤ X.1) (h : Rel M) (h1 : 1 ≤ rc) (h6 : 6 ≤ rs) (nx : ∀ (M1 : sm_M) (J1 : sm_J) (rc1 rs1 : Nat) (y5 y6 : Option Value), Rel M1 → rc ≤ rc1 + 1 → rs ≤ rs1 + 6 → sm_wp tb_T X tb_ok 11 388 139 1091 [some (.retAddr 0), some (.ref 0), some (.ref 40), some (.ref 62), some (.int (nI i)), y5, y6] [] (wSH, M1, J1, rc1, rs1) Q) : sm_wp tb_T X tb_ok 11 388 139 278 [some (.retAddr 0), some (.ref 0), some (.ref 40), some (.ref 62), some (.int (nI i)), y5, y6] [] (wSH, M, J, rc, rs) Q := by
  refine go_al1 (p := 279) hf_139 rfl rfl ?_
  refine go_alX (p := 280) hf_139 rfl rfl ?_
  refine go_il4 (p := 282) hf_139 rfl rfl ?_
  refine go_iconst (p := 283) hf_139 rfl rfl ci_1 ?_
  refine go_iadd (p := 284) hf_139 rfl rfl (by first | with_reducible exact nI_add _ _ | exact rfl) ?_
  refine go_ialdX (p := 285) hf_139 rfl rfl (by first | exact rfl | with_reducible assumption) (by omega) hX ?_
  refine go_alX (p := 286) hf_139 rfl rfl ?_
  refine go_il4 (p := 288) hf_139 rfl rfl ?_
  refine go_iconst (p := 289) hf_139 rfl rfl ci_2 ?_
  refine go_iadd (p := 290) hf_139 rfl rfl (by first | with_reducible exact nI_add _ _ | exact rfl) ?_
  refine go_ialdX (p := 291) hf_139 rfl rfl (by first | exact rfl | with_reducible assumption) (by omega) hX ?_
  refine go_alX (p := 292) hf_139 rfl rfl ?_
  refine go_il4 (p := 294) hf_139 rfl rfl ?_
  refine go_iconst (p := 295) hf_139 rfl rfl ci_3 ?_
  refine go_iadd (p := 296) hf_139 rfl rfl (by first | with_reducible exact nI_add _ _ | exact rfl) ?_
  refine go_ialdX (p := 297) hf_139 rfl rfl (by first | exact rfl | with_reducible assumption) (by omega) hX ?_
  refine go_al3 (p := 298) hf_139 rfl rfl ?_
  refine go_hc5 (p := 301) hf_139 rfl rfl (inv_s ho_139 cl_8_60) (by decide) nl_133 rfl rfl rfl rfl rfl rfl (by omega) (by omega) (h_put (g_put h) (fun v M1 q => by obtain ⟨u, e, -⟩ := q; exact ⟨u, e⟩) (fun x q => q.1) X J rc rs 10 363 (by omega) (by omega) h1 h6) (fun v h1 hq => ?_) (fun x h1 hq => ?_)
  · rcases hq with ⟨u, M1, w, e1, rfl, hw, u', eu, hc9⟩ | ⟨x, hx, e1, rfl⟩
    · cases e1
      cases eu
      refine ⟨M1, _, _, _, rfl, ?_⟩
      simp only [Option.toList, List.cons_append, List.nil_append]
      refine go_is5 (p := 303) hf_139 rfl rfl ?_
      refine go_al2 (p := 304) hf_139 rfl rfl ?_
      refine go_alX (p := 305) hf_139 rfl rfl ?_
      refine go_il4 (p := 307) hf_139 rfl rfl ?_
      refine go_iconst (p := 308) hf_139 rfl rfl ci_1 ?_
      refine go_iadd (p := 309) hf_139 rfl rfl (by first | with_reducible exact nI_add _ _ | exact rfl) ?_
      refine go_ialdX (p := 310) hf_139 rfl rfl (by first | exact rfl | with_reducible assumption) (by omega) hX ?_
      refine go_alX (p := 311) hf_139 rfl rfl ?_
      refine go_il4 (p := 313) hf_139 rfl rfl ?_
      refine go_iconst (p := 314) hf_139 rfl rfl ci_2 ?_
      refine go_iadd (p := 315) hf_139 rfl rfl (by first | with_reducible exact nI_add _ _ | exact rfl) ?_
      refine go_ialdX (p := 316) hf_139 rfl rfl (by first | exact rfl | with_reducible assumption) (by omega) hX ?_
      refine go_alX (p := 317) hf_139 rfl rfl ?_
      refine go_il4 (p := 319) hf_139 rfl rfl ?_
      refine go_iconst (p := 320) hf_139 rfl rfl ci_3 ?_
      refine go_iadd (p := 321) hf_139 rfl rfl (by first | with_reducible exact nI_add _ _ | exact rfl) ?_
      refine go_ialdX (p := 322) hf_139 rfl rfl (by first | exact rfl | with_reducible assumption) (by omega) hX ?_
      refine go_cw4 (p := 325) hf_139 rfl rfl (inv_v ho_139 cl_8_63) (by decide) nl_77 rfl rfl (by first | rfl | exact rcv_of (by with_reducible assumption)) rfl rfl rfl (by omega) (by omega) (hc9) ?_
      rintro v8 M8 ⟨rfl, e0, h8⟩
      simp only [Option.toList, List.cons_append, List.nil_append]
      refine go_is6 (p := 327) hf_139 rfl rfl ?_
      refine go_al2 (p := 328) hf_139 rfl rfl ?_
      refine go_cw1 (p := 331) hf_139 rfl rfl (inv_v ho_139 cl_8_52) (by decide) nl_73 rfl rfl (by first | rfl | exact rcv_of (by with_reducible assumption)) rfl rfl rfl (by omega) (by omega) (r_thrown) ?_
      rintro v7 M7 ⟨rfl, e7⟩
      rewrite [e7, e0]
      clear e7
      simp only [Option.toList, List.cons_append, List.nil_append]
      refine go_il5 (p := 333) hf_139 rfl rfl ?_
      first | refine go_nn_eq (p := 336) (p2 := 338) hf_139 rfl rfl rfl (by omega) (by omega) (fun h333 => ?_) (fun h333 => absurd rfl h333) | refine go_ic_eq (p := 336) (p2 := 338) hf_139 rfl rfl rfl (fun h333 => ?_) (fun h333 => absurd rfl h333)
      refine go_il5 (p := 340) hf_139 rfl rfl ?_
      refine go_if_ne (p := 343) (p2 := 355) hf_139 rfl rfl rfl (fun h340 => absurd rfl h340) (fun h340 => ?_)
      refine go_al3 (p := 344) hf_139 rfl rfl ?_
      refine go_iconst (p := 345) hf_139 rfl rfl ci_0 ?_
      refine go_lald (p := 346) hf_139 rfl rfl (by first | with_reducible assumption | rfl) rfl rfl (by decide) ?_
      refine go_il6 (p := 348) hf_139 rfl rfl ?_
      refine go_i2l (p := 349) hf_139 rfl rfl ?_
      refine go_lcmp (p := 350) hf_139 rfl rfl ?_
      refine go_if_eq (p := 353) (p2 := 355) hf_139 rfl rfl rfl (fun h350 => ?_) (fun h350 => absurd (lg_i hw) h350)
      refine go_goto (p2 := 1091) hf_139 rfl rfl ?_
      exact nx M8 _ _ _ _ _ h8 (by omega) (by omega)
    · cases e1
      obtain ⟨hx1, hc9⟩ := hx
      refine ⟨M, _, _, _, rfl, ?_⟩
      simp only [Option.toList, List.cons_append, List.nil_append]
      refine go_is5 (p := 303) hf_139 rfl rfl ?_
      refine go_al2 (p := 304) hf_139 rfl rfl ?_
      refine go_alX (p := 305) hf_139 rfl rfl ?_
      refine go_il4 (p := 307) hf_139 rfl rfl ?_
      refine go_iconst (p := 308) hf_139 rfl rfl ci_1 ?_
      refine go_iadd (p := 309) hf_139 rfl rfl (by first | with_reducible exact nI_add _ _ | exact rfl) ?_
      refine go_ialdX (p := 310) hf_139 rfl rfl (by first | exact rfl | with_reducible assumption) (by omega) hX ?_
      refine go_alX (p := 311) hf_139 rfl rfl ?_
      refine go_il4 (p := 313) hf_139 rfl rfl ?_
      refine go_iconst (p := 314) hf_139 rfl rfl ci_2 ?_
      refine go_iadd (p := 315) hf_139 rfl rfl (by first | with_reducible exact nI_add _ _ | exact rfl) ?_
      refine go_ialdX (p := 316) hf_139 rfl rfl (by first | exact rfl | with_reducible assumption) (by omega) hX ?_
      refine go_alX (p := 317) hf_139 rfl rfl ?_
      refine go_il4 (p := 319) hf_139 rfl rfl ?_
      refine go_iconst (p := 320) hf_139 rfl rfl ci_3 ?_
      refine go_iadd (p := 321) hf_139 rfl rfl (by first | with_reducible exact nI_add _ _ | exact rfl) ?_
      refine go_ialdX (p := 322) hf_139 rfl rfl (by first | exact rfl | with_reducible assumption) (by omega) hX ?_
      refine go_cw4 (p := 325) hf_139 rfl rfl (inv_v ho_139 cl_8_63) (by decide) nl_77 rfl rfl (by first | rfl | exact rcv_of (by with_reducible assumption)) rfl rfl rfl (by omega) (by omega) (hc9) ?_
      rintro v8 M8 ⟨⟨u', rfl⟩, e0, h8⟩
      simp only [Option.toList, List.cons_append, List.nil_append]
      refine go_is6 (p := 327) hf_139 rfl rfl ?_
      refine go_al2 (p := 328) hf_139 rfl rfl ?_
      refine go_cw1 (p := 331) hf_139 rfl rfl (inv_v ho_139 cl_8_52) (by decide) nl_73 rfl rfl (by first | rfl | exact rcv_of (by with_reducible assumption)) rfl rfl rfl (by omega) (by omega) (r_thrown) ?_
      rintro v7 M7 ⟨rfl, e7⟩
      rewrite [e7, e0]
      clear e7
      simp only [Option.toList, List.cons_append, List.nil_append]
      refine go_il5 (p := 333) hf_139 rfl rfl ?_
      first | refine go_nn_eq (p := 336) (p2 := 338) hf_139 rfl rfl rfl (by omega) (by omega) (fun h333 => ?_) (fun h333 => absurd rfl h333) | refine go_ic_eq (p := 336) (p2 := 338) hf_139 rfl rfl rfl (fun h333 => ?_) (fun h333 => absurd rfl h333)
      refine go_il5 (p := 340) hf_139 rfl rfl ?_
      refine go_if_ne (p := 343) (p2 := 355) hf_139 rfl rfl rfl (fun h340 => ?_) (fun h340 => absurd ((nI_eq (b := 0) (by omega) (by omega)).mp h340) (by omega))
      refine go_goto (p2 := 1091) hf_139 rfl rfl ?_
      exact nx M8 _ _ _ _ _ h8 (by omega) (by omega)
  · rcases hq with ⟨u, M1, w, e1, -⟩ | ⟨x, -, e1, -⟩
    · cases e1
    · cases e1
theorem lw_erase (hX : X.1 < 2 ^ 31) (hX2 : X.1 ≤ 2048) (hi : i + 4 ≤ X.1) (h : Rel M) (h1 : 1 ≤ rc) (h6 : 6 ≤ rs) (nx : ∀ (M1 : sm_M) (J1 : sm_J) (rc1 rs1 : Nat) (y5 y6 : Option Value), Rel M1 → rc ≤ rc1 + 1 → rs ≤ rs1 + 6 → sm_wp tb_T X tb_ok 11 388 139 1091 [some (.retAddr 0), some (.ref 0), some (.ref 40), some (.ref 62), some (.int (nI i)), y5, y6] [] (wSH, M1, J1, rc1, rs1) Q) : sm_wp tb_T X tb_ok 11 388 139 358 [some (.retAddr 0), some (.ref 0), some (.ref 40), some (.ref 62), some (.int (nI i)), y5, y6] [] (wSH, M, J, rc, rs) Q := by
  refine go_al1 (p := 359) hf_139 rfl rfl ?_
  refine go_alX (p := 360) hf_139 rfl rfl ?_
  refine go_il4 (p := 362) hf_139 rfl rfl ?_
  refine go_iconst (p := 363) hf_139 rfl rfl ci_1 ?_
  refine go_iadd (p := 364) hf_139 rfl rfl (by first | with_reducible exact nI_add _ _ | exact rfl) ?_
  refine go_ialdX (p := 365) hf_139 rfl rfl (by first | exact rfl | with_reducible assumption) (by omega) hX ?_
  refine go_alX (p := 366) hf_139 rfl rfl ?_
  refine go_il4 (p := 368) hf_139 rfl rfl ?_
  refine go_iconst (p := 369) hf_139 rfl rfl ci_2 ?_
  refine go_iadd (p := 370) hf_139 rfl rfl (by first | with_reducible exact nI_add _ _ | exact rfl) ?_
  refine go_ialdX (p := 371) hf_139 rfl rfl (by first | exact rfl | with_reducible assumption) (by omega) hX ?_
  refine go_al3 (p := 372) hf_139 rfl rfl ?_
  refine go_hc4 (p := 375) hf_139 rfl rfl (inv_s ho_139 cl_8_64) (by decide) nl_134 rfl rfl rfl rfl rfl rfl (by omega) (by omega) (h_erase (g_erase h) (fun v M1 q => by obtain ⟨u, e, -⟩ := q; exact ⟨u, e⟩) (fun x q => q.1) X J rc rs 10 364 (by omega) (by omega) h1 h6) (fun v h1 hq => ?_) (fun x h1 hq => ?_)
  · rcases hq with ⟨u, M1, w, e1, rfl, hw, u', eu, hc9⟩ | ⟨x, hx, e1, rfl⟩
    · cases e1
      cases eu
      refine ⟨M1, _, _, _, rfl, ?_⟩
      simp only [Option.toList, List.cons_append, List.nil_append]
      refine go_is5 (p := 377) hf_139 rfl rfl ?_
      refine go_al2 (p := 378) hf_139 rfl rfl ?_
      refine go_alX (p := 379) hf_139 rfl rfl ?_
      refine go_il4 (p := 381) hf_139 rfl rfl ?_
      refine go_iconst (p := 382) hf_139 rfl rfl ci_1 ?_
      refine go_iadd (p := 383) hf_139 rfl rfl (by first | with_reducible exact nI_add _ _ | exact rfl) ?_
      refine go_ialdX (p := 384) hf_139 rfl rfl (by first | exact rfl | with_reducible assumption) (by omega) hX ?_
      refine go_alX (p := 385) hf_139 rfl rfl ?_
      refine go_il4 (p := 387) hf_139 rfl rfl ?_
      refine go_iconst (p := 388) hf_139 rfl rfl ci_2 ?_
      refine go_iadd (p := 389) hf_139 rfl rfl (by first | with_reducible exact nI_add _ _ | exact rfl) ?_
      refine go_ialdX (p := 390) hf_139 rfl rfl (by first | exact rfl | with_reducible assumption) (by omega) hX ?_
      refine go_cw3 (p := 393) hf_139 rfl rfl (inv_v ho_139 cl_8_66) (by decide) nl_84 rfl rfl (by first | rfl | exact rcv_of (by with_reducible assumption)) rfl rfl rfl (by omega) (by omega) (hc9) ?_
      rintro v8 M8 ⟨rfl, e0, h8⟩
      simp only [Option.toList, List.cons_append, List.nil_append]
      refine go_is6 (p := 395) hf_139 rfl rfl ?_
      refine go_al2 (p := 396) hf_139 rfl rfl ?_
      refine go_cw1 (p := 399) hf_139 rfl rfl (inv_v ho_139 cl_8_52) (by decide) nl_73 rfl rfl (by first | rfl | exact rcv_of (by with_reducible assumption)) rfl rfl rfl (by omega) (by omega) (r_thrown) ?_
      rintro v7 M7 ⟨rfl, e7⟩
      rewrite [e7, e0]
      clear e7
      simp only [Option.toList, List.cons_append, List.nil_append]
      refine go_il5 (p := 401) hf_139 rfl rfl ?_
      first | refine go_nn_eq (p := 404) (p2 := 406) hf_139 rfl rfl rfl (by omega) (by omega) (fun h401 => ?_) (fun h401 => absurd rfl h401) | refine go_ic_eq (p := 404) (p2 := 406) hf_139 rfl rfl rfl (fun h401 => ?_) (fun h401 => absurd rfl h401)
      refine go_il5 (p := 408) hf_139 rfl rfl ?_
      refine go_if_ne (p := 411) (p2 := 423) hf_139 rfl rfl rfl (fun h408 => absurd rfl h408) (fun h408 => ?_)
      refine go_al3 (p := 412) hf_139 rfl rfl ?_
      refine go_iconst (p := 413) hf_139 rfl rfl ci_0 ?_
      refine go_lald (p := 414) hf_139 rfl rfl (by first | with_reducible assumption | rfl) rfl rfl (by decide) ?_
      refine go_il6 (p := 416) hf_139 rfl rfl ?_
      refine go_i2l (p := 417) hf_139 rfl rfl ?_
      refine go_lcmp (p := 418) hf_139 rfl rfl ?_
      refine go_if_eq (p := 421) (p2 := 423) hf_139 rfl rfl rfl (fun h418 => ?_) (fun h418 => absurd (lg_i hw) h418)
      refine go_goto (p2 := 1091) hf_139 rfl rfl ?_
      exact nx M8 _ _ _ _ _ h8 (by omega) (by omega)
    · cases e1
      obtain ⟨hx1, hc9⟩ := hx
      refine ⟨M, _, _, _, rfl, ?_⟩
      simp only [Option.toList, List.cons_append, List.nil_append]
      refine go_is5 (p := 377) hf_139 rfl rfl ?_
      refine go_al2 (p := 378) hf_139 rfl rfl ?_
      refine go_alX (p := 379) hf_139 rfl rfl ?_
      refine go_il4 (p := 381) hf_139 rfl rfl ?_
      refine go_iconst (p := 382) hf_139 rfl rfl ci_1 ?_
      refine go_iadd (p := 383) hf_139 rfl rfl (by first | with_reducible exact nI_add _ _ | exact rfl) ?_
      refine go_ialdX (p := 384) hf_139 rfl rfl (by first | exact rfl | with_reducible assumption) (by omega) hX ?_
      refine go_alX (p := 385) hf_139 rfl rfl ?_
      refine go_il4 (p := 387) hf_139 rfl rfl ?_
      refine go_iconst (p := 388) hf_139 rfl rfl ci_2 ?_
      refine go_iadd (p := 389) hf_139 rfl rfl (by first | with_reducible exact nI_add _ _ | exact rfl) ?_
      refine go_ialdX (p := 390) hf_139 rfl rfl (by first | exact rfl | with_reducible assumption) (by omega) hX ?_
      refine go_cw3 (p := 393) hf_139 rfl rfl (inv_v ho_139 cl_8_66) (by decide) nl_84 rfl rfl (by first | rfl | exact rcv_of (by with_reducible assumption)) rfl rfl rfl (by omega) (by omega) (hc9) ?_
      rintro v8 M8 ⟨⟨u', rfl⟩, e0, h8⟩
      simp only [Option.toList, List.cons_append, List.nil_append]
      refine go_is6 (p := 395) hf_139 rfl rfl ?_
      refine go_al2 (p := 396) hf_139 rfl rfl ?_
      refine go_cw1 (p := 399) hf_139 rfl rfl (inv_v ho_139 cl_8_52) (by decide) nl_73 rfl rfl (by first | rfl | exact rcv_of (by with_reducible assumption)) rfl rfl rfl (by omega) (by omega) (r_thrown) ?_
      rintro v7 M7 ⟨rfl, e7⟩
      rewrite [e7, e0]
      clear e7
      simp only [Option.toList, List.cons_append, List.nil_append]
      refine go_il5 (p := 401) hf_139 rfl rfl ?_
      first | refine go_nn_eq (p := 404) (p2 := 406) hf_139 rfl rfl rfl (by omega) (by omega) (fun h401 => ?_) (fun h401 => absurd rfl h401) | refine go_ic_eq (p := 404) (p2 := 406) hf_139 rfl rfl rfl (fun h401 => ?_) (fun h401 => absurd rfl h401)
      refine go_il5 (p := 408) hf_139 rfl rfl ?_
      refine go_if_ne (p := 411) (p2 := 423) hf_139 rfl rfl rfl (fun h408 => ?_) (fun h408 => absurd ((nI_eq (b := 0) (by omega) (by omega)).mp h408) (by omega))
      refine go_goto (p2 := 1091) hf_139 rfl rfl ?_
      exact nx M8 _ _ _ _ _ h8 (by omega) (by omega)
  · rcases hq with ⟨u, M1, w, e1, -⟩ | ⟨x, -, e1, -⟩
    · cases e1
    · cases e1
theorem lw_get (hX : X.1 < 2 ^ 31) (hX2 : X.1 ≤ 2048) (hi : i + 4 ≤ X.1) (h : Rel M) (h1 : 1 ≤ rc) (h6 : 6 ≤ rs) (nx : ∀ (M1 : sm_M) (J1 : sm_J) (rc1 rs1 : Nat) (y5 y6 : Option Value), Rel M1 → rc ≤ rc1 + 1 → rs ≤ rs1 + 6 → sm_wp tb_T X tb_ok 11 388 139 1091 [some (.retAddr 0), some (.ref 0), some (.ref 40), some (.ref 62), some (.int (nI i)), y5, y6] [] (wSH, M1, J1, rc1, rs1) Q) : sm_wp tb_T X tb_ok 11 388 139 426 [some (.retAddr 0), some (.ref 0), some (.ref 40), some (.ref 62), some (.int (nI i)), y5, y6] [] (wSH, M, J, rc, rs) Q := by
  refine go_al1 (p := 427) hf_139 rfl rfl ?_
  refine go_alX (p := 428) hf_139 rfl rfl ?_
  refine go_il4 (p := 430) hf_139 rfl rfl ?_
  refine go_iconst (p := 431) hf_139 rfl rfl ci_1 ?_
  refine go_iadd (p := 432) hf_139 rfl rfl (by first | with_reducible exact nI_add _ _ | exact rfl) ?_
  refine go_ialdX (p := 433) hf_139 rfl rfl (by first | exact rfl | with_reducible assumption) (by omega) hX ?_
  refine go_alX (p := 434) hf_139 rfl rfl ?_
  refine go_il4 (p := 436) hf_139 rfl rfl ?_
  refine go_iconst (p := 437) hf_139 rfl rfl ci_2 ?_
  refine go_iadd (p := 438) hf_139 rfl rfl (by first | with_reducible exact nI_add _ _ | exact rfl) ?_
  refine go_ialdX (p := 439) hf_139 rfl rfl (by first | exact rfl | with_reducible assumption) (by omega) hX ?_
  refine go_alX (p := 440) hf_139 rfl rfl ?_
  refine go_il4 (p := 442) hf_139 rfl rfl ?_
  refine go_iconst (p := 443) hf_139 rfl rfl ci_3 ?_
  refine go_iadd (p := 444) hf_139 rfl rfl (by first | with_reducible exact nI_add _ _ | exact rfl) ?_
  refine go_ialdX (p := 445) hf_139 rfl rfl (by first | exact rfl | with_reducible assumption) (by omega) hX ?_
  refine go_al3 (p := 446) hf_139 rfl rfl ?_
  refine go_hc5 (p := 449) hf_139 rfl rfl (inv_s ho_139 cl_8_67) (by decide) nl_135 rfl rfl rfl rfl rfl rfl (by omega) (by omega) (h_get (g_get h) (fun v M1 q => by obtain ⟨u, e, -⟩ := q; exact ⟨u, e⟩) (fun x q => q.1) X J rc rs 10 363 (by omega) (by omega) h1 h6) (fun v h1 hq => ?_) (fun x h1 hq => ?_)
  · rcases hq with ⟨u, M1, w, e1, rfl, hw, u', eu, hc9⟩ | ⟨x, hx, e1, rfl⟩
    · cases e1
      cases eu
      refine ⟨M1, _, _, _, rfl, ?_⟩
      simp only [Option.toList, List.cons_append, List.nil_append]
      refine go_is5 (p := 451) hf_139 rfl rfl ?_
      refine go_al2 (p := 452) hf_139 rfl rfl ?_
      refine go_alX (p := 453) hf_139 rfl rfl ?_
      refine go_il4 (p := 455) hf_139 rfl rfl ?_
      refine go_iconst (p := 456) hf_139 rfl rfl ci_1 ?_
      refine go_iadd (p := 457) hf_139 rfl rfl (by first | with_reducible exact nI_add _ _ | exact rfl) ?_
      refine go_ialdX (p := 458) hf_139 rfl rfl (by first | exact rfl | with_reducible assumption) (by omega) hX ?_
      refine go_alX (p := 459) hf_139 rfl rfl ?_
      refine go_il4 (p := 461) hf_139 rfl rfl ?_
      refine go_iconst (p := 462) hf_139 rfl rfl ci_2 ?_
      refine go_iadd (p := 463) hf_139 rfl rfl (by first | with_reducible exact nI_add _ _ | exact rfl) ?_
      refine go_ialdX (p := 464) hf_139 rfl rfl (by first | exact rfl | with_reducible assumption) (by omega) hX ?_
      refine go_alX (p := 465) hf_139 rfl rfl ?_
      refine go_il4 (p := 467) hf_139 rfl rfl ?_
      refine go_iconst (p := 468) hf_139 rfl rfl ci_3 ?_
      refine go_iadd (p := 469) hf_139 rfl rfl (by first | with_reducible exact nI_add _ _ | exact rfl) ?_
      refine go_ialdX (p := 470) hf_139 rfl rfl (by first | exact rfl | with_reducible assumption) (by omega) hX ?_
      refine go_cw4 (p := 473) hf_139 rfl rfl (inv_v ho_139 cl_8_69) (by decide) nl_85 rfl rfl (by first | rfl | exact rcv_of (by with_reducible assumption)) rfl rfl rfl (by omega) (by omega) (hc9) ?_
      rintro v8 M8 ⟨rfl, e0, h8⟩
      simp only [Option.toList, List.cons_append, List.nil_append]
      refine go_is6 (p := 475) hf_139 rfl rfl ?_
      refine go_al2 (p := 476) hf_139 rfl rfl ?_
      refine go_cw1 (p := 479) hf_139 rfl rfl (inv_v ho_139 cl_8_52) (by decide) nl_73 rfl rfl (by first | rfl | exact rcv_of (by with_reducible assumption)) rfl rfl rfl (by omega) (by omega) (r_thrown) ?_
      rintro v7 M7 ⟨rfl, e7⟩
      rewrite [e7, e0]
      clear e7
      simp only [Option.toList, List.cons_append, List.nil_append]
      refine go_il5 (p := 481) hf_139 rfl rfl ?_
      first | refine go_nn_eq (p := 484) (p2 := 486) hf_139 rfl rfl rfl (by omega) (by omega) (fun h481 => ?_) (fun h481 => absurd rfl h481) | refine go_ic_eq (p := 484) (p2 := 486) hf_139 rfl rfl rfl (fun h481 => ?_) (fun h481 => absurd rfl h481)
      refine go_il5 (p := 488) hf_139 rfl rfl ?_
      refine go_if_ne (p := 491) (p2 := 503) hf_139 rfl rfl rfl (fun h488 => absurd rfl h488) (fun h488 => ?_)
      refine go_al3 (p := 492) hf_139 rfl rfl ?_
      refine go_iconst (p := 493) hf_139 rfl rfl ci_0 ?_
      refine go_lald (p := 494) hf_139 rfl rfl (by first | with_reducible assumption | rfl) rfl rfl (by decide) ?_
      refine go_il6 (p := 496) hf_139 rfl rfl ?_
      refine go_i2l (p := 497) hf_139 rfl rfl ?_
      refine go_lcmp (p := 498) hf_139 rfl rfl ?_
      refine go_if_eq (p := 501) (p2 := 503) hf_139 rfl rfl rfl (fun h498 => ?_) (fun h498 => absurd (lg_i hw) h498)
      refine go_goto (p2 := 1091) hf_139 rfl rfl ?_
      exact nx M8 _ _ _ _ _ h8 (by omega) (by omega)
    · cases e1
      obtain ⟨hx1, hc9⟩ := hx
      refine ⟨M, _, _, _, rfl, ?_⟩
      simp only [Option.toList, List.cons_append, List.nil_append]
      refine go_is5 (p := 451) hf_139 rfl rfl ?_
      refine go_al2 (p := 452) hf_139 rfl rfl ?_
      refine go_alX (p := 453) hf_139 rfl rfl ?_
      refine go_il4 (p := 455) hf_139 rfl rfl ?_
      refine go_iconst (p := 456) hf_139 rfl rfl ci_1 ?_
      refine go_iadd (p := 457) hf_139 rfl rfl (by first | with_reducible exact nI_add _ _ | exact rfl) ?_
      refine go_ialdX (p := 458) hf_139 rfl rfl (by first | exact rfl | with_reducible assumption) (by omega) hX ?_
      refine go_alX (p := 459) hf_139 rfl rfl ?_
      refine go_il4 (p := 461) hf_139 rfl rfl ?_
      refine go_iconst (p := 462) hf_139 rfl rfl ci_2 ?_
      refine go_iadd (p := 463) hf_139 rfl rfl (by first | with_reducible exact nI_add _ _ | exact rfl) ?_
      refine go_ialdX (p := 464) hf_139 rfl rfl (by first | exact rfl | with_reducible assumption) (by omega) hX ?_
      refine go_alX (p := 465) hf_139 rfl rfl ?_
      refine go_il4 (p := 467) hf_139 rfl rfl ?_
      refine go_iconst (p := 468) hf_139 rfl rfl ci_3 ?_
      refine go_iadd (p := 469) hf_139 rfl rfl (by first | with_reducible exact nI_add _ _ | exact rfl) ?_
      refine go_ialdX (p := 470) hf_139 rfl rfl (by first | exact rfl | with_reducible assumption) (by omega) hX ?_
      refine go_cw4 (p := 473) hf_139 rfl rfl (inv_v ho_139 cl_8_69) (by decide) nl_85 rfl rfl (by first | rfl | exact rcv_of (by with_reducible assumption)) rfl rfl rfl (by omega) (by omega) (hc9) ?_
      rintro v8 M8 ⟨⟨u', rfl⟩, e0, h8⟩
      simp only [Option.toList, List.cons_append, List.nil_append]
      refine go_is6 (p := 475) hf_139 rfl rfl ?_
      refine go_al2 (p := 476) hf_139 rfl rfl ?_
      refine go_cw1 (p := 479) hf_139 rfl rfl (inv_v ho_139 cl_8_52) (by decide) nl_73 rfl rfl (by first | rfl | exact rcv_of (by with_reducible assumption)) rfl rfl rfl (by omega) (by omega) (r_thrown) ?_
      rintro v7 M7 ⟨rfl, e7⟩
      rewrite [e7, e0]
      clear e7
      simp only [Option.toList, List.cons_append, List.nil_append]
      refine go_il5 (p := 481) hf_139 rfl rfl ?_
      first | refine go_nn_eq (p := 484) (p2 := 486) hf_139 rfl rfl rfl (by omega) (by omega) (fun h481 => ?_) (fun h481 => absurd rfl h481) | refine go_ic_eq (p := 484) (p2 := 486) hf_139 rfl rfl rfl (fun h481 => ?_) (fun h481 => absurd rfl h481)
      refine go_il5 (p := 488) hf_139 rfl rfl ?_
      refine go_if_ne (p := 491) (p2 := 503) hf_139 rfl rfl rfl (fun h488 => ?_) (fun h488 => absurd ((nI_eq (b := 0) (by omega) (by omega)).mp h488) (by omega))
      refine go_goto (p2 := 1091) hf_139 rfl rfl ?_
      exact nx M8 _ _ _ _ _ h8 (by omega) (by omega)
  · rcases hq with ⟨u, M1, w, e1, -⟩ | ⟨x, -, e1, -⟩
    · cases e1
    · cases e1
theorem lw_change (hX : X.1 < 2 ^ 31) (hX2 : X.1 ≤ 2048) (hi : i + 4 ≤ X.1) (h : Rel M) (h1 : 1 ≤ rc) (h6 : 6 ≤ rs) (nx : ∀ (M1 : sm_M) (J1 : sm_J) (rc1 rs1 : Nat) (y5 y6 : Option Value), Rel M1 → rc ≤ rc1 + 1 → rs ≤ rs1 + 6 → sm_wp tb_T X tb_ok 11 388 139 1091 [some (.retAddr 0), some (.ref 0), some (.ref 40), some (.ref 62), some (.int (nI i)), y5, y6] [] (wSH, M1, J1, rc1, rs1) Q) : sm_wp tb_T X tb_ok 11 388 139 506 [some (.retAddr 0), some (.ref 0), some (.ref 40), some (.ref 62), some (.int (nI i)), y5, y6] [] (wSH, M, J, rc, rs) Q := by
  refine go_al1 (p := 507) hf_139 rfl rfl ?_
  refine go_alX (p := 508) hf_139 rfl rfl ?_
  refine go_il4 (p := 510) hf_139 rfl rfl ?_
  refine go_iconst (p := 511) hf_139 rfl rfl ci_1 ?_
  refine go_iadd (p := 512) hf_139 rfl rfl (by first | with_reducible exact nI_add _ _ | exact rfl) ?_
  refine go_ialdX (p := 513) hf_139 rfl rfl (by first | exact rfl | with_reducible assumption) (by omega) hX ?_
  refine go_alX (p := 514) hf_139 rfl rfl ?_
  refine go_il4 (p := 516) hf_139 rfl rfl ?_
  refine go_iconst (p := 517) hf_139 rfl rfl ci_2 ?_
  refine go_iadd (p := 518) hf_139 rfl rfl (by first | with_reducible exact nI_add _ _ | exact rfl) ?_
  refine go_ialdX (p := 519) hf_139 rfl rfl (by first | exact rfl | with_reducible assumption) (by omega) hX ?_
  refine go_al3 (p := 520) hf_139 rfl rfl ?_
  refine go_hc4 (p := 523) hf_139 rfl rfl (inv_s ho_139 cl_8_70) (by decide) nl_136 rfl rfl rfl rfl rfl rfl (by omega) (by omega) (h_change (g_change h) (fun v M1 q => by obtain ⟨u, e, -⟩ := q; exact ⟨u, e⟩) (fun x q => q.1) X J rc rs 10 364 (by omega) (by omega) h1 h6) (fun v h1 hq => ?_) (fun x h1 hq => ?_)
  · rcases hq with ⟨u, M1, w, e1, rfl, hw, u', eu, hc9⟩ | ⟨x, hx, e1, rfl⟩
    · cases e1
      cases eu
      refine ⟨M1, _, _, _, rfl, ?_⟩
      simp only [Option.toList, List.cons_append, List.nil_append]
      refine go_is5 (p := 525) hf_139 rfl rfl ?_
      refine go_al2 (p := 526) hf_139 rfl rfl ?_
      refine go_alX (p := 527) hf_139 rfl rfl ?_
      refine go_il4 (p := 529) hf_139 rfl rfl ?_
      refine go_iconst (p := 530) hf_139 rfl rfl ci_1 ?_
      refine go_iadd (p := 531) hf_139 rfl rfl (by first | with_reducible exact nI_add _ _ | exact rfl) ?_
      refine go_ialdX (p := 532) hf_139 rfl rfl (by first | exact rfl | with_reducible assumption) (by omega) hX ?_
      refine go_alX (p := 533) hf_139 rfl rfl ?_
      refine go_il4 (p := 535) hf_139 rfl rfl ?_
      refine go_iconst (p := 536) hf_139 rfl rfl ci_2 ?_
      refine go_iadd (p := 537) hf_139 rfl rfl (by first | with_reducible exact nI_add _ _ | exact rfl) ?_
      refine go_ialdX (p := 538) hf_139 rfl rfl (by first | exact rfl | with_reducible assumption) (by omega) hX ?_
      refine go_cw3 (p := 541) hf_139 rfl rfl (inv_v ho_139 cl_8_72) (by decide) nl_86 rfl rfl (by first | rfl | exact rcv_of (by with_reducible assumption)) rfl rfl rfl (by omega) (by omega) (hc9) ?_
      rintro v8 M8 ⟨rfl, e0, h8⟩
      simp only [Option.toList, List.cons_append, List.nil_append]
      refine go_is6 (p := 543) hf_139 rfl rfl ?_
      refine go_al2 (p := 544) hf_139 rfl rfl ?_
      refine go_cw1 (p := 547) hf_139 rfl rfl (inv_v ho_139 cl_8_52) (by decide) nl_73 rfl rfl (by first | rfl | exact rcv_of (by with_reducible assumption)) rfl rfl rfl (by omega) (by omega) (r_thrown) ?_
      rintro v7 M7 ⟨rfl, e7⟩
      rewrite [e7, e0]
      clear e7
      simp only [Option.toList, List.cons_append, List.nil_append]
      refine go_il5 (p := 549) hf_139 rfl rfl ?_
      first | refine go_nn_eq (p := 552) (p2 := 554) hf_139 rfl rfl rfl (by omega) (by omega) (fun h549 => ?_) (fun h549 => absurd rfl h549) | refine go_ic_eq (p := 552) (p2 := 554) hf_139 rfl rfl rfl (fun h549 => ?_) (fun h549 => absurd rfl h549)
      refine go_il5 (p := 556) hf_139 rfl rfl ?_
      refine go_if_ne (p := 559) (p2 := 571) hf_139 rfl rfl rfl (fun h556 => absurd rfl h556) (fun h556 => ?_)
      refine go_al3 (p := 560) hf_139 rfl rfl ?_
      refine go_iconst (p := 561) hf_139 rfl rfl ci_0 ?_
      refine go_lald (p := 562) hf_139 rfl rfl (by first | with_reducible assumption | rfl) rfl rfl (by decide) ?_
      refine go_il6 (p := 564) hf_139 rfl rfl ?_
      refine go_i2l (p := 565) hf_139 rfl rfl ?_
      refine go_lcmp (p := 566) hf_139 rfl rfl ?_
      refine go_if_eq (p := 569) (p2 := 571) hf_139 rfl rfl rfl (fun h566 => ?_) (fun h566 => absurd (lg_i hw) h566)
      refine go_goto (p2 := 1091) hf_139 rfl rfl ?_
      exact nx M8 _ _ _ _ _ h8 (by omega) (by omega)
    · cases e1
      obtain ⟨hx1, hc9⟩ := hx
      refine ⟨M, _, _, _, rfl, ?_⟩
      simp only [Option.toList, List.cons_append, List.nil_append]
      refine go_is5 (p := 525) hf_139 rfl rfl ?_
      refine go_al2 (p := 526) hf_139 rfl rfl ?_
      refine go_alX (p := 527) hf_139 rfl rfl ?_
      refine go_il4 (p := 529) hf_139 rfl rfl ?_
      refine go_iconst (p := 530) hf_139 rfl rfl ci_1 ?_
      refine go_iadd (p := 531) hf_139 rfl rfl (by first | with_reducible exact nI_add _ _ | exact rfl) ?_
      refine go_ialdX (p := 532) hf_139 rfl rfl (by first | exact rfl | with_reducible assumption) (by omega) hX ?_
      refine go_alX (p := 533) hf_139 rfl rfl ?_
      refine go_il4 (p := 535) hf_139 rfl rfl ?_
      refine go_iconst (p := 536) hf_139 rfl rfl ci_2 ?_
      refine go_iadd (p := 537) hf_139 rfl rfl (by first | with_reducible exact nI_add _ _ | exact rfl) ?_
      refine go_ialdX (p := 538) hf_139 rfl rfl (by first | exact rfl | with_reducible assumption) (by omega) hX ?_
      refine go_cw3 (p := 541) hf_139 rfl rfl (inv_v ho_139 cl_8_72) (by decide) nl_86 rfl rfl (by first | rfl | exact rcv_of (by with_reducible assumption)) rfl rfl rfl (by omega) (by omega) (hc9) ?_
      rintro v8 M8 ⟨⟨u', rfl⟩, e0, h8⟩
      simp only [Option.toList, List.cons_append, List.nil_append]
      refine go_is6 (p := 543) hf_139 rfl rfl ?_
      refine go_al2 (p := 544) hf_139 rfl rfl ?_
      refine go_cw1 (p := 547) hf_139 rfl rfl (inv_v ho_139 cl_8_52) (by decide) nl_73 rfl rfl (by first | rfl | exact rcv_of (by with_reducible assumption)) rfl rfl rfl (by omega) (by omega) (r_thrown) ?_
      rintro v7 M7 ⟨rfl, e7⟩
      rewrite [e7, e0]
      clear e7
      simp only [Option.toList, List.cons_append, List.nil_append]
      refine go_il5 (p := 549) hf_139 rfl rfl ?_
      first | refine go_nn_eq (p := 552) (p2 := 554) hf_139 rfl rfl rfl (by omega) (by omega) (fun h549 => ?_) (fun h549 => absurd rfl h549) | refine go_ic_eq (p := 552) (p2 := 554) hf_139 rfl rfl rfl (fun h549 => ?_) (fun h549 => absurd rfl h549)
      refine go_il5 (p := 556) hf_139 rfl rfl ?_
      refine go_if_ne (p := 559) (p2 := 571) hf_139 rfl rfl rfl (fun h556 => ?_) (fun h556 => absurd ((nI_eq (b := 0) (by omega) (by omega)).mp h556) (by omega))
      refine go_goto (p2 := 1091) hf_139 rfl rfl ?_
      exact nx M8 _ _ _ _ _ h8 (by omega) (by omega)
  · rcases hq with ⟨u, M1, w, e1, -⟩ | ⟨x, -, e1, -⟩
    · cases e1
    · cases e1
theorem lw_pull (hX : X.1 < 2 ^ 31) (hX2 : X.1 ≤ 2048) (hi : i + 4 ≤ X.1) (h : Rel M) (h1 : 1 ≤ rc) (h6 : 6 ≤ rs) (nx : ∀ (M1 : sm_M) (J1 : sm_J) (rc1 rs1 : Nat) (y5 y6 : Option Value), Rel M1 → rc ≤ rc1 + 1 → rs ≤ rs1 + 6 → sm_wp tb_T X tb_ok 11 388 139 1091 [some (.retAddr 0), some (.ref 0), some (.ref 40), some (.ref 62), some (.int (nI i)), y5, y6] [] (wSH, M1, J1, rc1, rs1) Q) : sm_wp tb_T X tb_ok 11 388 139 574 [some (.retAddr 0), some (.ref 0), some (.ref 40), some (.ref 62), some (.int (nI i)), y5, y6] [] (wSH, M, J, rc, rs) Q := by
  refine go_al1 (p := 575) hf_139 rfl rfl ?_
  refine go_alX (p := 576) hf_139 rfl rfl ?_
  refine go_il4 (p := 578) hf_139 rfl rfl ?_
  refine go_iconst (p := 579) hf_139 rfl rfl ci_1 ?_
  refine go_iadd (p := 580) hf_139 rfl rfl (by first | with_reducible exact nI_add _ _ | exact rfl) ?_
  refine go_ialdX (p := 581) hf_139 rfl rfl (by first | exact rfl | with_reducible assumption) (by omega) hX ?_
  refine go_al3 (p := 582) hf_139 rfl rfl ?_
  refine go_hc3 (p := 585) hf_139 rfl rfl (inv_s ho_139 cl_8_73) (by decide) nl_137 rfl rfl rfl rfl rfl rfl (by omega) (by omega) (h_pull (g_pull h) (fun v M1 q => by obtain ⟨u, e, -⟩ := q; exact ⟨u, e⟩) (fun x q => q.1) X J rc rs 10 365 (by omega) (by omega) h1 h6) (fun v h1 hq => ?_) (fun x h1 hq => ?_)
  · rcases hq with ⟨u, M1, w, e1, rfl, hw, u', eu, hc9⟩ | ⟨x, hx, e1, rfl⟩
    · cases e1
      cases eu
      refine ⟨M1, _, _, _, rfl, ?_⟩
      simp only [Option.toList, List.cons_append, List.nil_append]
      refine go_is5 (p := 587) hf_139 rfl rfl ?_
      refine go_al2 (p := 588) hf_139 rfl rfl ?_
      refine go_alX (p := 589) hf_139 rfl rfl ?_
      refine go_il4 (p := 591) hf_139 rfl rfl ?_
      refine go_iconst (p := 592) hf_139 rfl rfl ci_1 ?_
      refine go_iadd (p := 593) hf_139 rfl rfl (by first | with_reducible exact nI_add _ _ | exact rfl) ?_
      refine go_ialdX (p := 594) hf_139 rfl rfl (by first | exact rfl | with_reducible assumption) (by omega) hX ?_
      refine go_cw2 (p := 597) hf_139 rfl rfl (inv_v ho_139 cl_8_75) (by decide) nl_87 rfl rfl (by first | rfl | exact rcv_of (by with_reducible assumption)) rfl rfl rfl (by omega) (by omega) (hc9) ?_
      rintro v8 M8 ⟨rfl, e0, h8⟩
      simp only [Option.toList, List.cons_append, List.nil_append]
      refine go_is6 (p := 599) hf_139 rfl rfl ?_
      refine go_al2 (p := 600) hf_139 rfl rfl ?_
      refine go_cw1 (p := 603) hf_139 rfl rfl (inv_v ho_139 cl_8_52) (by decide) nl_73 rfl rfl (by first | rfl | exact rcv_of (by with_reducible assumption)) rfl rfl rfl (by omega) (by omega) (r_thrown) ?_
      rintro v7 M7 ⟨rfl, e7⟩
      rewrite [e7, e0]
      clear e7
      simp only [Option.toList, List.cons_append, List.nil_append]
      refine go_il5 (p := 605) hf_139 rfl rfl ?_
      first | refine go_nn_eq (p := 608) (p2 := 610) hf_139 rfl rfl rfl (by omega) (by omega) (fun h605 => ?_) (fun h605 => absurd rfl h605) | refine go_ic_eq (p := 608) (p2 := 610) hf_139 rfl rfl rfl (fun h605 => ?_) (fun h605 => absurd rfl h605)
      refine go_il5 (p := 612) hf_139 rfl rfl ?_
      refine go_if_ne (p := 615) (p2 := 634) hf_139 rfl rfl rfl (fun h612 => absurd rfl h612) (fun h612 => ?_)
      refine go_al3 (p := 616) hf_139 rfl rfl ?_
      refine go_iconst (p := 617) hf_139 rfl rfl ci_0 ?_
      refine go_lald (p := 618) hf_139 rfl rfl (by first | with_reducible assumption | rfl) rfl rfl (by decide) ?_
      refine go_il6 (p := 620) hf_139 rfl rfl ?_
      refine go_if_eq (p := 623) (p2 := 627) hf_139 rfl rfl rfl (fun h620 => ?_) (fun h620 => ?_)
      · refine go_lconst (p := 628) hf_139 rfl rfl ?_
        refine go_lcmp (p := 629) hf_139 rfl rfl ?_
        refine go_if_eq (p := 632) (p2 := 634) hf_139 rfl rfl rfl (fun h629 => ?_) (fun h629 => absurd (lg_0 hw h620) h629)
        refine go_goto (p2 := 1091) hf_139 rfl rfl ?_
        exact nx M8 _ _ _ _ _ h8 (by omega) (by omega)
      · refine go_lconst (p := 624) hf_139 rfl rfl ?_
        refine go_goto (p2 := 628) hf_139 rfl rfl ?_
        refine go_lcmp (p := 629) hf_139 rfl rfl ?_
        refine go_if_eq (p := 632) (p2 := 634) hf_139 rfl rfl rfl (fun h629 => ?_) (fun h629 => absurd (lg_1 hw h620) h629)
        refine go_goto (p2 := 1091) hf_139 rfl rfl ?_
        exact nx M8 _ _ _ _ _ h8 (by omega) (by omega)
    · cases e1
      obtain ⟨hx1, hc9⟩ := hx
      refine ⟨M, _, _, _, rfl, ?_⟩
      simp only [Option.toList, List.cons_append, List.nil_append]
      refine go_is5 (p := 587) hf_139 rfl rfl ?_
      refine go_al2 (p := 588) hf_139 rfl rfl ?_
      refine go_alX (p := 589) hf_139 rfl rfl ?_
      refine go_il4 (p := 591) hf_139 rfl rfl ?_
      refine go_iconst (p := 592) hf_139 rfl rfl ci_1 ?_
      refine go_iadd (p := 593) hf_139 rfl rfl (by first | with_reducible exact nI_add _ _ | exact rfl) ?_
      refine go_ialdX (p := 594) hf_139 rfl rfl (by first | exact rfl | with_reducible assumption) (by omega) hX ?_
      refine go_cw2 (p := 597) hf_139 rfl rfl (inv_v ho_139 cl_8_75) (by decide) nl_87 rfl rfl (by first | rfl | exact rcv_of (by with_reducible assumption)) rfl rfl rfl (by omega) (by omega) (hc9) ?_
      rintro v8 M8 ⟨⟨u', rfl⟩, e0, h8⟩
      simp only [Option.toList, List.cons_append, List.nil_append]
      refine go_is6 (p := 599) hf_139 rfl rfl ?_
      refine go_al2 (p := 600) hf_139 rfl rfl ?_
      refine go_cw1 (p := 603) hf_139 rfl rfl (inv_v ho_139 cl_8_52) (by decide) nl_73 rfl rfl (by first | rfl | exact rcv_of (by with_reducible assumption)) rfl rfl rfl (by omega) (by omega) (r_thrown) ?_
      rintro v7 M7 ⟨rfl, e7⟩
      rewrite [e7, e0]
      clear e7
      simp only [Option.toList, List.cons_append, List.nil_append]
      refine go_il5 (p := 605) hf_139 rfl rfl ?_
      first | refine go_nn_eq (p := 608) (p2 := 610) hf_139 rfl rfl rfl (by omega) (by omega) (fun h605 => ?_) (fun h605 => absurd rfl h605) | refine go_ic_eq (p := 608) (p2 := 610) hf_139 rfl rfl rfl (fun h605 => ?_) (fun h605 => absurd rfl h605)
      refine go_il5 (p := 612) hf_139 rfl rfl ?_
      refine go_if_ne (p := 615) (p2 := 634) hf_139 rfl rfl rfl (fun h612 => ?_) (fun h612 => absurd ((nI_eq (b := 0) (by omega) (by omega)).mp h612) (by omega))
      refine go_goto (p2 := 1091) hf_139 rfl rfl ?_
      exact nx M8 _ _ _ _ _ h8 (by omega) (by omega)
  · rcases hq with ⟨u, M1, w, e1, -⟩ | ⟨x, -, e1, -⟩
    · cases e1
    · cases e1
theorem lw_push (hX : X.1 < 2 ^ 31) (hX2 : X.1 ≤ 2048) (hi : i + 4 ≤ X.1) (h : Rel M) (h1 : 1 ≤ rc) (h6 : 6 ≤ rs) (nx : ∀ (M1 : sm_M) (J1 : sm_J) (rc1 rs1 : Nat) (y5 y6 : Option Value), Rel M1 → rc ≤ rc1 + 1 → rs ≤ rs1 + 6 → sm_wp tb_T X tb_ok 11 388 139 1091 [some (.retAddr 0), some (.ref 0), some (.ref 40), some (.ref 62), some (.int (nI i)), y5, y6] [] (wSH, M1, J1, rc1, rs1) Q) : sm_wp tb_T X tb_ok 11 388 139 637 [some (.retAddr 0), some (.ref 0), some (.ref 40), some (.ref 62), some (.int (nI i)), y5, y6] [] (wSH, M, J, rc, rs) Q := by
  refine go_al1 (p := 638) hf_139 rfl rfl ?_
  refine go_alX (p := 639) hf_139 rfl rfl ?_
  refine go_il4 (p := 641) hf_139 rfl rfl ?_
  refine go_iconst (p := 642) hf_139 rfl rfl ci_1 ?_
  refine go_iadd (p := 643) hf_139 rfl rfl (by first | with_reducible exact nI_add _ _ | exact rfl) ?_
  refine go_ialdX (p := 644) hf_139 rfl rfl (by first | exact rfl | with_reducible assumption) (by omega) hX ?_
  refine go_al3 (p := 645) hf_139 rfl rfl ?_
  refine go_hc3 (p := 648) hf_139 rfl rfl (inv_s ho_139 cl_8_76) (by decide) nl_138 rfl rfl rfl rfl rfl rfl (by omega) (by omega) (h_push (g_push h) (fun v M1 q => by obtain ⟨u, e, -⟩ := q; exact ⟨u, e⟩) (fun x q => q.1) X J rc rs 10 365 (by omega) (by omega) h1 h6) (fun v h1 hq => ?_) (fun x h1 hq => ?_)
  · rcases hq with ⟨u, M1, w, e1, rfl, hw, u', eu, hc9⟩ | ⟨x, hx, e1, rfl⟩
    · cases e1
      cases eu
      refine ⟨M1, _, _, _, rfl, ?_⟩
      simp only [Option.toList, List.cons_append, List.nil_append]
      refine go_is5 (p := 650) hf_139 rfl rfl ?_
      refine go_al2 (p := 651) hf_139 rfl rfl ?_
      refine go_alX (p := 652) hf_139 rfl rfl ?_
      refine go_il4 (p := 654) hf_139 rfl rfl ?_
      refine go_iconst (p := 655) hf_139 rfl rfl ci_1 ?_
      refine go_iadd (p := 656) hf_139 rfl rfl (by first | with_reducible exact nI_add _ _ | exact rfl) ?_
      refine go_ialdX (p := 657) hf_139 rfl rfl (by first | exact rfl | with_reducible assumption) (by omega) hX ?_
      refine go_cw2 (p := 660) hf_139 rfl rfl (inv_v ho_139 cl_8_78) (by decide) nl_89 rfl rfl (by first | rfl | exact rcv_of (by with_reducible assumption)) rfl rfl rfl (by omega) (by omega) (hc9) ?_
      rintro v8 M8 ⟨rfl, e0, h8⟩
      simp only [Option.toList, List.cons_append, List.nil_append]
      refine go_is6 (p := 662) hf_139 rfl rfl ?_
      refine go_al2 (p := 663) hf_139 rfl rfl ?_
      refine go_cw1 (p := 666) hf_139 rfl rfl (inv_v ho_139 cl_8_52) (by decide) nl_73 rfl rfl (by first | rfl | exact rcv_of (by with_reducible assumption)) rfl rfl rfl (by omega) (by omega) (r_thrown) ?_
      rintro v7 M7 ⟨rfl, e7⟩
      rewrite [e7, e0]
      clear e7
      simp only [Option.toList, List.cons_append, List.nil_append]
      refine go_il5 (p := 668) hf_139 rfl rfl ?_
      first | refine go_nn_eq (p := 671) (p2 := 673) hf_139 rfl rfl rfl (by omega) (by omega) (fun h668 => ?_) (fun h668 => absurd rfl h668) | refine go_ic_eq (p := 671) (p2 := 673) hf_139 rfl rfl rfl (fun h668 => ?_) (fun h668 => absurd rfl h668)
      refine go_il5 (p := 675) hf_139 rfl rfl ?_
      refine go_if_ne (p := 678) (p2 := 690) hf_139 rfl rfl rfl (fun h675 => absurd rfl h675) (fun h675 => ?_)
      refine go_al3 (p := 679) hf_139 rfl rfl ?_
      refine go_iconst (p := 680) hf_139 rfl rfl ci_0 ?_
      refine go_lald (p := 681) hf_139 rfl rfl (by first | with_reducible assumption | rfl) rfl rfl (by decide) ?_
      refine go_il6 (p := 683) hf_139 rfl rfl ?_
      refine go_i2l (p := 684) hf_139 rfl rfl ?_
      refine go_lcmp (p := 685) hf_139 rfl rfl ?_
      refine go_if_eq (p := 688) (p2 := 690) hf_139 rfl rfl rfl (fun h685 => ?_) (fun h685 => absurd (lg_i hw) h685)
      refine go_goto (p2 := 1091) hf_139 rfl rfl ?_
      exact nx M8 _ _ _ _ _ h8 (by omega) (by omega)
    · cases e1
      obtain ⟨hx1, hc9⟩ := hx
      refine ⟨M, _, _, _, rfl, ?_⟩
      simp only [Option.toList, List.cons_append, List.nil_append]
      refine go_is5 (p := 650) hf_139 rfl rfl ?_
      refine go_al2 (p := 651) hf_139 rfl rfl ?_
      refine go_alX (p := 652) hf_139 rfl rfl ?_
      refine go_il4 (p := 654) hf_139 rfl rfl ?_
      refine go_iconst (p := 655) hf_139 rfl rfl ci_1 ?_
      refine go_iadd (p := 656) hf_139 rfl rfl (by first | with_reducible exact nI_add _ _ | exact rfl) ?_
      refine go_ialdX (p := 657) hf_139 rfl rfl (by first | exact rfl | with_reducible assumption) (by omega) hX ?_
      refine go_cw2 (p := 660) hf_139 rfl rfl (inv_v ho_139 cl_8_78) (by decide) nl_89 rfl rfl (by first | rfl | exact rcv_of (by with_reducible assumption)) rfl rfl rfl (by omega) (by omega) (hc9) ?_
      rintro v8 M8 ⟨⟨u', rfl⟩, e0, h8⟩
      simp only [Option.toList, List.cons_append, List.nil_append]
      refine go_is6 (p := 662) hf_139 rfl rfl ?_
      refine go_al2 (p := 663) hf_139 rfl rfl ?_
      refine go_cw1 (p := 666) hf_139 rfl rfl (inv_v ho_139 cl_8_52) (by decide) nl_73 rfl rfl (by first | rfl | exact rcv_of (by with_reducible assumption)) rfl rfl rfl (by omega) (by omega) (r_thrown) ?_
      rintro v7 M7 ⟨rfl, e7⟩
      rewrite [e7, e0]
      clear e7
      simp only [Option.toList, List.cons_append, List.nil_append]
      refine go_il5 (p := 668) hf_139 rfl rfl ?_
      first | refine go_nn_eq (p := 671) (p2 := 673) hf_139 rfl rfl rfl (by omega) (by omega) (fun h668 => ?_) (fun h668 => absurd rfl h668) | refine go_ic_eq (p := 671) (p2 := 673) hf_139 rfl rfl rfl (fun h668 => ?_) (fun h668 => absurd rfl h668)
      refine go_il5 (p := 675) hf_139 rfl rfl ?_
      refine go_if_ne (p := 678) (p2 := 690) hf_139 rfl rfl rfl (fun h675 => ?_) (fun h675 => absurd ((nI_eq (b := 0) (by omega) (by omega)).mp h675) (by omega))
      refine go_goto (p2 := 1091) hf_139 rfl rfl ?_
      exact nx M8 _ _ _ _ _ h8 (by omega) (by omega)
  · rcases hq with ⟨u, M1, w, e1, -⟩ | ⟨x, -, e1, -⟩
    · cases e1
    · cases e1
theorem sub4 {n k : Nat} (hn : n ≤ 2048) (hk : k < 10000) : nI n - nI 4 < nI k ↔ n < k + 4 := by
  by_cases h : 4 ≤ n
  · rw [subn h, nI_ltI (by omega) (by omega)]
    omega
  · have e : nI n - nI 4 < nI 0 := by
      have : n = 0 ∨ n = 1 ∨ n = 2 ∨ n = 3 := by omega
      rcases this with rfl | rfl | rfl | rfl <;> decide
    constructor
    · intro _; omega
    · intro _
      have e2 : nI 0 ≤ nI k := (nI_leI (by omega) (by omega)).mpr (Nat.zero_le _)
      rw [Int32.lt_iff_toInt_lt] at e ⊢
      rw [Int32.le_iff_toInt_le] at e2
      omega
theorem law_loop (hX : X.1 < 2 ^ 31) (hX2 : X.1 ≤ 2048) : ∀ (n i : Nat) (M : sm_M) (J : sm_J) (rc rs : Nat) (y5 y6 : Option Value), X.1 ≤ i + n → i ≤ 4096 → Rel M → X.1 ≤ rc + i → 6 * X.1 ≤ rs + 6 * i → sm_wp tb_T X tb_ok 11 388 139 23 [some (.retAddr 0), some (.ref 0), some (.ref 40), some (.ref 62), some (.int (nI i)), y5, y6] [] (wSH, M, J, rc, rs) (fun o h' => o = .inl (some (.int (nI 1)))) := by
  intro n
  induction n with
  | zero =>
    intro i M J rc rs y5 y6 hn hi9 h hrc hrs
    refine go_il4 (p := 25) hf_139 rfl rfl ?_
    refine go_alX (p := 26) hf_139 rfl rfl ?_
    refine go_alenX (p := 27) hf_139 rfl rfl  ?_
    refine go_iconst (p := 28) hf_139 rfl rfl ci_4 ?_
    refine go_isub (p := 29) hf_139 rfl rfl rfl ?_
    refine go_ic_gt (p := 32) (p2 := 1097) hf_139 rfl rfl rfl (fun h29 => ?_) (fun h29 => absurd ((sub4 hX2 (by omega)).mpr (by omega)) h29)
    refine go_iconst (p := 1098) hf_139 rfl rfl ci_1 ?_
    refine go_ret2 hf_139 rfl nl_139 (Or.inr rfl) ?_
    rfl
  | succ n ih =>
    intro i M J rc rs y5 y6 hn hi9 h hrc hrs
    by_cases hex : X.1 < i + 4
    · skip
      refine go_il4 (p := 25) hf_139 rfl rfl ?_
      refine go_alX (p := 26) hf_139 rfl rfl ?_
      refine go_alenX (p := 27) hf_139 rfl rfl  ?_
      refine go_iconst (p := 28) hf_139 rfl rfl ci_4 ?_
      refine go_isub (p := 29) hf_139 rfl rfl rfl ?_
      refine go_ic_gt (p := 32) (p2 := 1097) hf_139 rfl rfl rfl (fun h29 => ?_) (fun h29 => absurd ((sub4 hX2 (by omega)).mpr hex) h29)
      refine go_iconst (p := 1098) hf_139 rfl rfl ci_1 ?_
      refine go_ret2 hf_139 rfl nl_139 (Or.inr rfl) ?_
      rfl
    · have hi : i + 4 ≤ X.1 := by omega
      have nx : ∀ (M1 : sm_M) (J1 : sm_J) (rc1 rs1 : Nat) (y5 y6 : Option Value), Rel M1 → rc ≤ rc1 + 1 → rs ≤ rs1 + 6 → sm_wp tb_T X tb_ok 11 388 139 1091 [some (.retAddr 0), some (.ref 0), some (.ref 40), some (.ref 62), some (.int (nI i)), y5, y6] [] (wSH, M1, J1, rc1, rs1) (fun o h' => o = .inl (some (.int (nI 1)))) := by
        intro M1 J1 rc1 rs1 y5 y6 hR hc1 hs1
        refine go_ic4 (p := 1094) hf_139 rfl rfl (show nI i + Int32.ofInt 4 = nI (i + 4) from nI_add i 4) ?_
        refine go_goto (p2 := 23) hf_139 rfl rfl ?_
        exact ih (i + 4) M1 J1 rc1 rs1 _ _ (by omega) (by omega) hR (by omega) (by omega)
      refine go_il4 (p := 25) hf_139 rfl rfl ?_
      refine go_alX (p := 26) hf_139 rfl rfl ?_
      refine go_alenX (p := 27) hf_139 rfl rfl  ?_
      refine go_iconst (p := 28) hf_139 rfl rfl ci_4 ?_
      refine go_isub (p := 29) hf_139 rfl rfl rfl ?_
      refine go_ic_gt (p := 32) (p2 := 1097) hf_139 rfl rfl rfl (fun h29 => absurd ((sub4 hX2 (by omega)).mp h29) (by omega)) (fun h29 => ?_)
      refine go_alX (p := 33) hf_139 rfl rfl ?_
      refine go_il4 (p := 35) hf_139 rfl rfl ?_
      refine go_ialdX (p := 36) hf_139 rfl rfl (by first | exact rfl | with_reducible assumption) (by omega) hX ?_
      refine go_bipush (p := 38) hf_139 rfl rfl cb_31 ?_
      refine go_iand (p := 39) hf_139 rfl rfl rfl ?_
      refine go_tab hf_139 rfl (pd := 1091) rfl (fun h39 => ?_) (fun h39 h39b => ?_)
      · exact nx M _ _ _ _ _ h (by omega) (by omega)
      · have h39c : (X.2 i &&& nI 31).toInt = 0 ∨ (X.2 i &&& nI 31).toInt = 1 ∨ (X.2 i &&& nI 31).toInt = 2 ∨ (X.2 i &&& nI 31).toInt = 3 ∨ (X.2 i &&& nI 31).toInt = 4 ∨ (X.2 i &&& nI 31).toInt = 5 ∨ (X.2 i &&& nI 31).toInt = 6 ∨ (X.2 i &&& nI 31).toInt = 7 ∨ (X.2 i &&& nI 31).toInt = 8 ∨ (X.2 i &&& nI 31).toInt = 9 ∨ (X.2 i &&& nI 31).toInt = 10 ∨ (X.2 i &&& nI 31).toInt = 11 ∨ (X.2 i &&& nI 31).toInt = 12 ∨ (X.2 i &&& nI 31).toInt = 13 ∨ (X.2 i &&& nI 31).toInt = 14 ∨ (X.2 i &&& nI 31).toInt = 15 ∨ (X.2 i &&& nI 31).toInt = 16 ∨ (X.2 i &&& nI 31).toInt = 17 ∨ (X.2 i &&& nI 31).toInt = 18 ∨ (X.2 i &&& nI 31).toInt = 19 ∨ (X.2 i &&& nI 31).toInt = 20 ∨ (X.2 i &&& nI 31).toInt = 21 := by omega
        rcases h39c with h39c | h39c | h39c | h39c | h39c | h39c | h39c | h39c | h39c | h39c | h39c | h39c | h39c | h39c | h39c | h39c | h39c | h39c | h39c | h39c | h39c | h39c
        · refine ⟨101, 140, by rw [h39c]; rfl, rfl, ?_⟩
          exact lw_unlock hX hX2 hi h (by omega) (by omega) nx
        · refine ⟨176, 215, by rw [h39c]; rfl, rfl, ?_⟩
          exact lw_lock hX hX2 hi h (by omega) (by omega) nx
        · refine ⟨239, 278, by rw [h39c]; rfl, rfl, ?_⟩
          exact lw_put hX hX2 hi h (by omega) (by omega) nx
        · refine ⟨319, 358, by rw [h39c]; rfl, rfl, ?_⟩
          exact lw_erase hX hX2 hi h (by omega) (by omega) nx
        · refine ⟨387, 426, by rw [h39c]; rfl, rfl, ?_⟩
          exact lw_get hX hX2 hi h (by omega) (by omega) nx
        · refine ⟨467, 506, by rw [h39c]; rfl, rfl, ?_⟩
          exact lw_change hX hX2 hi h (by omega) (by omega) nx
        · refine ⟨535, 574, by rw [h39c]; rfl, rfl, ?_⟩
          exact lw_pull hX hX2 hi h (by omega) (by omega) nx
        · refine ⟨598, 637, by rw [h39c]; rfl, rfl, ?_⟩
          exact lw_push hX hX2 hi h (by omega) (by omega) nx
        · refine ⟨654, 693, by rw [h39c]; rfl, rfl, ?_⟩
          exact lw_deliver hX hX2 hi h (by omega) (by omega) nx
        · refine ⟨679, 718, by rw [h39c]; rfl, rfl, ?_⟩
          exact lw_drop hX hX2 hi h (by omega) (by omega) nx
        · refine ⟨704, 743, by rw [h39c]; rfl, rfl, ?_⟩
          exact lw_message hX hX2 hi h (by omega) (by omega) nx
        · refine ⟨741, 780, by rw [h39c]; rfl, rfl, ?_⟩
          exact lw_flight hX hX2 hi h (by omega) (by omega) nx
        · refine ⟨754, 793, by rw [h39c]; rfl, rfl, ?_⟩
          exact lw_forge hX hX2 hi h (by omega) (by omega) nx
        · refine ⟨791, 830, by rw [h39c]; rfl, rfl, ?_⟩
          exact lw_plant hX hX2 hi h (by omega) (by omega) nx
        · refine ⟨816, 855, by rw [h39c]; rfl, rfl, ?_⟩
          exact lw_build hX hX2 hi h (by omega) (by omega) nx
        · refine ⟨865, 904, by rw [h39c]; rfl, rfl, ?_⟩
          exact lw_leak hX hX2 hi h (by omega) (by omega) nx
        · refine ⟨890, 929, by rw [h39c]; rfl, rfl, ?_⟩
          exact lw_steal hX hX2 hi h (by omega) (by omega) nx
        · refine ⟨915, 954, by rw [h39c]; rfl, rfl, ?_⟩
          exact lw_known hX hX2 hi h (by omega) (by omega) nx
        · refine ⟨940, 979, by rw [h39c]; rfl, rfl, ?_⟩
          exact lw_term hX hX2 hi h (by omega) (by omega) nx
        · refine ⟨977, 1016, by rw [h39c]; rfl, rfl, ?_⟩
          exact lw_atom hX hX2 hi h (by omega) (by omega) nx
        · refine ⟨1002, 1041, by rw [h39c]; rfl, rfl, ?_⟩
          exact lw_device hX hX2 hi h (by omega) (by omega) nx
        · refine ⟨1039, 1078, by rw [h39c]; rfl, rfl, ?_⟩
          exact lw_server hX hX2 hi h (by omega) (by omega) nx
end LW
