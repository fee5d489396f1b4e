/-! ===== the reference's calls ===== -/
def dR (M : sm_M) (k g ow pw : Nat) (vv : Nat → Nat) (l : List Nat) : Prop := M 46 k = nI g ∧ M 47 k = nI ow ∧ M 48 k = nI pw ∧ (∀ j, j < 3 → M 49 (3 * k + j) = nI (vv j)) ∧ re M k l
theorem re_up {M : sm_M} {s p i : Nat} {v : Int32} {l : List Nat} (h : re M s l) (hp : p < 50 ∨ 54 < p) : re (sm_up M p i v) s l := ⟨by rw [up_k (by omega)]; exact h.1, qrow_congr h.2 (fun p' j h1 h2 _ => up_k (by omega))⟩
theorem r_may1 {M : sm_M} {a1 : Int32}  : cr 78 0 0 [.ref 40, .int (nI 0), .int a1] M (fun v M1 => v = some (.int (nI 0)) ∧ M1 = sm_up M 40 0 (nI 1)) := by
  intro X J rc rs d lw hd hw
  show sm_wp tb_T X tb_ok d lw 78 0 [some (.ref 40), some (.int (nI 0)), some (.int a1)] [] _ _
  refine go_al0 (p := 1) hf_78 rfl rfl ?_
  refine go_il1 (p := 2) hf_78 rfl rfl ?_
  refine go_if_ne (p := 5) (p2 := 9) hf_78 rfl rfl rfl (fun h2 => absurd rfl h2) (fun h2 => ?_)
  refine go_iconst (p := 6) hf_78 rfl rfl ci_1 ?_
  refine go_goto (p2 := 23) hf_78 rfl rfl ?_
  refine go_put (p := 26) hf_78 ho_78 rfl fl_6_78 rfl (by first | with_reducible assumption | rfl) rfl (Or.inl rfl) ?_
  refine go_al0 (p := 27) hf_78 rfl rfl ?_
  refine go_get (p := 30) hf_78 ho_78 rfl fl_6_78 rfl (by first | with_reducible assumption | rfl) rfl up_s ?_
  refine go_if_ne (p := 33) (p2 := 37) hf_78 rfl rfl rfl (fun h30 => ?_) (fun h30 => absurd h30 nI_10)
  refine go_iconst (p := 38) hf_78 rfl rfl ci_0 ?_
  refine go_ret2 hf_78 rfl nl_78 (by first | exact Or.inl rfl | exact Or.inr rfl | with_reducible assumption) ?_
  exact ⟨_, _, rfl, rfl, rfl, rfl⟩
theorem r_may0 {M : sm_M} {k : Nat} {x : Int32} (hk : k < 3) (hx : ¬ x = 0) (ho : M 55 k = 1) : cr 78 0 0 [.ref 40, .int x, .int (nI k)] M (fun v M1 => v = some (.int (nI 1)) ∧ M1 = sm_up M 40 0 (nI 0)) := by
  intro X J rc rs d lw hd hw
  show sm_wp tb_T X tb_ok d lw 78 0 [some (.ref 40), some (.int x), some (.int (nI k))] [] _ _
  refine go_al0 (p := 1) hf_78 rfl rfl ?_
  refine go_il1 (p := 2) hf_78 rfl rfl ?_
  refine go_if_ne (p := 5) (p2 := 9) hf_78 rfl rfl rfl (fun h2 => ?_) (fun h2 => absurd h2 hx)
  refine go_al0 (p := 10) hf_78 rfl rfl ?_
  refine go_getr (p := 13) hf_78 ho_78 rfl fl_6_53 rfl (by first | with_reducible assumption | rfl) rfl ?_
  refine go_il2 (p := 14) hf_78 rfl rfl ?_
  refine go_bald (p := 15) hf_78 rfl rfl (by first | with_reducible assumption | rfl) (by first | rfl | with_reducible assumption) (by first | exact rfl | with_reducible assumption) (by omega) ho ?_
  refine go_if_eq (p := 18) (p2 := 22) hf_78 rfl rfl rfl (fun h15 => absurd h15 (by decide)) (fun h15 => ?_)
  refine go_iconst (p := 19) hf_78 rfl rfl ci_0 ?_
  refine go_goto (p2 := 23) hf_78 rfl rfl ?_
  refine go_put (p := 26) hf_78 ho_78 rfl fl_6_78 rfl (by first | with_reducible assumption | rfl) rfl (Or.inl rfl) ?_
  refine go_al0 (p := 27) hf_78 rfl rfl ?_
  refine go_get (p := 30) hf_78 ho_78 rfl fl_6_78 rfl (by first | with_reducible assumption | rfl) rfl up_s ?_
  refine go_if_ne (p := 33) (p2 := 37) hf_78 rfl rfl rfl (fun h30 => absurd rfl h30) (fun h30 => ?_)
  refine go_iconst (p := 34) hf_78 rfl rfl ci_1 ?_
  refine go_goto (p2 := 38) hf_78 rfl rfl ?_
  refine go_ret2 hf_78 rfl nl_78 (by first | exact Or.inl rfl | exact Or.inr rfl | with_reducible assumption) ?_
  exact ⟨_, _, rfl, rfl, rfl, rfl⟩
theorem r_may2 {M : sm_M} {k : Nat} {x : Int32} (hk : k < 3) (hx : ¬ x = 0) (ho : M 55 k = 0) : cr 78 0 0 [.ref 40, .int x, .int (nI k)] M (fun v M1 => v = some (.int (nI 0)) ∧ M1 = sm_up M 40 0 (nI 2)) := by
  intro X J rc rs d lw hd hw
  show sm_wp tb_T X tb_ok d lw 78 0 [some (.ref 40), some (.int x), some (.int (nI k))] [] _ _
  refine go_al0 (p := 1) hf_78 rfl rfl ?_
  refine go_il1 (p := 2) hf_78 rfl rfl ?_
  refine go_if_ne (p := 5) (p2 := 9) hf_78 rfl rfl rfl (fun h2 => ?_) (fun h2 => absurd h2 hx)
  refine go_al0 (p := 10) hf_78 rfl rfl ?_
  refine go_getr (p := 13) hf_78 ho_78 rfl fl_6_53 rfl (by first | with_reducible assumption | rfl) rfl ?_
  refine go_il2 (p := 14) hf_78 rfl rfl ?_
  refine go_bald (p := 15) hf_78 rfl rfl (by first | with_reducible assumption | rfl) (by first | rfl | with_reducible assumption) (by first | exact rfl | with_reducible assumption) (by omega) ho ?_
  refine go_if_eq (p := 18) (p2 := 22) hf_78 rfl rfl rfl (fun h15 => ?_) (fun h15 => absurd rfl h15)
  refine go_iconst (p := 23) hf_78 rfl rfl ci_2 ?_
  refine go_put (p := 26) hf_78 ho_78 rfl fl_6_78 rfl (by first | with_reducible assumption | rfl) rfl (Or.inl rfl) ?_
  refine go_al0 (p := 27) hf_78 rfl rfl ?_
  refine go_get (p := 30) hf_78 ho_78 rfl fl_6_78 rfl (by first | with_reducible assumption | rfl) rfl up_s ?_
  refine go_if_ne (p := 33) (p2 := 37) hf_78 rfl rfl rfl (fun h30 => ?_) (fun h30 => absurd h30 (by decide))
  refine go_iconst (p := 38) hf_78 rfl rfl ci_0 ?_
  refine go_ret2 hf_78 rfl nl_78 (by first | exact Or.inl rfl | exact Or.inr rfl | with_reducible assumption) ?_
  exact ⟨_, _, rfl, rfl, rfl, rfl⟩
theorem v_unlock {M : sm_M} {a0 a1 : Int32} (hbad : ¬ ((∃ n, n < 3 ∧ a0 = nI n) ∧ (∃ n, n < 8 ∧ a1 = nI n))) : cr 74 1 22 [.ref 40, .int a0, .int a1] M (fun v M1 => v = some (.int (nI 0)) ∧ M1 = sm_up M 40 0 (nI 1)) := by
  intro X J rc rs d lw hd hw
  show sm_wp tb_T X tb_ok d lw 74 0 [some (.ref 40), some (.int a0), some (.int a1)] [] _ _
  refine go_al0 (p := 1) hf_74 rfl rfl ?_
  refine go_il1 (p := 2) hf_74 rfl rfl ?_
  refine go_cw1 (p := 5) hf_74 rfl rfl (inv_s ho_74 cl_6_158) (by decide) nl_75 rfl rfl rfl rfl rfl rfl (by omega) (by omega) (c_isDevice) ?_
  intro v9 M9 h9
  rewrite [h9.1, h9.2]
  clear h9 v9 M9
  simp only [Option.toList, List.cons_append, List.nil_append]
  refine go_if_eq (p := 8) (p2 := 22) hf_74 rfl rfl rfl (fun h5 => ?_) (fun h5 => ?_)
  · refine go_iconst (p := 23) hf_74 rfl rfl ci_1 ?_
    refine go_put (p := 26) hf_74 ho_74 rfl fl_6_78 rfl (by first | with_reducible assumption | rfl) rfl (Or.inl rfl) ?_
    refine go_al0 (p := 27) hf_74 rfl rfl ?_
    refine go_get (p := 30) hf_74 ho_74 rfl fl_6_78 rfl (by first | with_reducible assumption | rfl) rfl up_s ?_
    refine go_if_le (p := 33) (p2 := 35) hf_74 rfl rfl rfl (fun h30 => absurd h30 (by decide)) (fun h30 => ?_)
    refine go_iconst (p := 34) hf_74 rfl rfl ci_0 ?_
    refine go_ret2 hf_74 rfl nl_74 (by first | exact Or.inl rfl | exact Or.inr rfl | with_reducible assumption) ?_
    exact ⟨_, _, rfl, rfl, rfl, rfl⟩
  · refine go_il2 (p := 9) hf_74 rfl rfl ?_
    refine go_if_lt (p := 12) (p2 := 22) hf_74 rfl rfl rfl (fun h9 => ?_) (fun h9 => ?_)
    · refine go_iconst (p := 23) hf_74 rfl rfl ci_1 ?_
      refine go_put (p := 26) hf_74 ho_74 rfl fl_6_78 rfl (by first | with_reducible assumption | rfl) rfl (Or.inl rfl) ?_
      refine go_al0 (p := 27) hf_74 rfl rfl ?_
      refine go_get (p := 30) hf_74 ho_74 rfl fl_6_78 rfl (by first | with_reducible assumption | rfl) rfl up_s ?_
      refine go_if_le (p := 33) (p2 := 35) hf_74 rfl rfl rfl (fun h30 => absurd h30 (by decide)) (fun h30 => ?_)
      refine go_iconst (p := 34) hf_74 rfl rfl ci_0 ?_
      refine go_ret2 hf_74 rfl nl_74 (by first | exact Or.inl rfl | exact Or.inr rfl | with_reducible assumption) ?_
      exact ⟨_, _, rfl, rfl, rfl, rfl⟩
    · refine go_il2 (p := 13) hf_74 rfl rfl ?_
      refine go_bipush (p := 15) hf_74 rfl rfl cb_7 ?_
      refine go_ic_gt (p := 18) (p2 := 22) hf_74 rfl rfl rfl (fun h15 => ?_) (fun h15 => ?_)
      · refine go_iconst (p := 23) hf_74 rfl rfl ci_1 ?_
        refine go_put (p := 26) hf_74 ho_74 rfl fl_6_78 rfl (by first | with_reducible assumption | rfl) rfl (Or.inl rfl) ?_
        refine go_al0 (p := 27) hf_74 rfl rfl ?_
        refine go_get (p := 30) hf_74 ho_74 rfl fl_6_78 rfl (by first | with_reducible assumption | rfl) rfl up_s ?_
        refine go_if_le (p := 33) (p2 := 35) hf_74 rfl rfl rfl (fun h30 => absurd h30 (by decide)) (fun h30 => ?_)
        refine go_iconst (p := 34) hf_74 rfl rfl ci_0 ?_
        refine go_ret2 hf_74 rfl nl_74 (by first | exact Or.inl rfl | exact Or.inr rfl | with_reducible assumption) ?_
        exact ⟨_, _, rfl, rfl, rfl, rfl⟩
      · exact absurd ⟨(below_iff (by omega)).mp (bI_n0.mp h5), (by obtain ⟨n, _, h2, h3⟩ := rng_nI (a := 0) (b := 7) (by omega) h9 h15 (by omega); exact ⟨n, by omega, h3⟩)⟩ hbad
theorem v_lock {M : sm_M} {a0 : Int32} (hbad : ¬ ((∃ n, n < 3 ∧ a0 = nI n))) : cr 76 1 22 [.ref 40, .int a0] M (fun v M1 => v = some (.int (nI 0)) ∧ M1 = sm_up M 40 0 (nI 1)) := by
  intro X J rc rs d lw hd hw
  show sm_wp tb_T X tb_ok d lw 76 0 [some (.ref 40), some (.int a0), none] [] _ _
  refine go_al0 (p := 1) hf_76 rfl rfl ?_
  refine go_il1 (p := 2) hf_76 rfl rfl ?_
  refine go_cw1 (p := 5) hf_76 rfl rfl (inv_s ho_76 cl_6_158) (by decide) nl_75 rfl rfl rfl rfl rfl rfl (by omega) (by omega) (c_isDevice) ?_
  intro v9 M9 h9
  rewrite [h9.1, h9.2]
  clear h9 v9 M9
  simp only [Option.toList, List.cons_append, List.nil_append]
  refine go_if_eq (p := 8) (p2 := 12) hf_76 rfl rfl rfl (fun h5 => ?_) (fun h5 => ?_)
  · refine go_iconst (p := 13) hf_76 rfl rfl ci_1 ?_
    refine go_put (p := 16) hf_76 ho_76 rfl fl_6_78 rfl (by first | with_reducible assumption | rfl) rfl (Or.inl rfl) ?_
    refine go_al0 (p := 17) hf_76 rfl rfl ?_
    refine go_get (p := 20) hf_76 ho_76 rfl fl_6_78 rfl (by first | with_reducible assumption | rfl) rfl up_s ?_
    refine go_if_le (p := 23) (p2 := 25) hf_76 rfl rfl rfl (fun h20 => absurd h20 (by decide)) (fun h20 => ?_)
    refine go_iconst (p := 24) hf_76 rfl rfl ci_0 ?_
    refine go_ret2 hf_76 rfl nl_76 (by first | exact Or.inl rfl | exact Or.inr rfl | with_reducible assumption) ?_
    exact ⟨_, _, rfl, rfl, rfl, rfl⟩
  · exact absurd ((below_iff (by omega)).mp (bI_n0.mp h5)) hbad
theorem v_put {M : sm_M} {a0 a1 a2 : Int32} (hbad : ¬ ((∃ n, n < 3 ∧ a0 = nI n) ∧ (∃ n, n < 4 ∧ a1 = nI n) ∧ (∃ n, n < 64 ∧ a2 = nI n))) : cr 77 1 22 [.ref 40, .int a0, .int a1, .int a2] M (fun v M1 => v = some (.int (nI 0)) ∧ M1 = sm_up M 40 0 (nI 1)) := by
  intro X J rc rs d lw hd hw
  show sm_wp tb_T X tb_ok d lw 77 0 [some (.ref 40), some (.int a0), some (.int a1), some (.int a2), none, none, none] [] _ _
  refine go_al0 (p := 1) hf_77 rfl rfl ?_
  refine go_il1 (p := 2) hf_77 rfl rfl ?_
  refine go_cw1 (p := 5) hf_77 rfl rfl (inv_s ho_77 cl_6_158) (by decide) nl_75 rfl rfl rfl rfl rfl rfl (by omega) (by omega) (c_isDevice) ?_
  intro v9 M9 h9
  rewrite [h9.1, h9.2]
  clear h9 v9 M9
  simp only [Option.toList, List.cons_append, List.nil_append]
  refine go_if_eq (p := 8) (p2 := 31) hf_77 rfl rfl rfl (fun h5 => ?_) (fun h5 => ?_)
  · refine go_iconst (p := 32) hf_77 rfl rfl ci_0 ?_
    refine go_il1 (p := 33) hf_77 rfl rfl ?_
    refine go_cw3 (p := 36) hf_77 rfl rfl (inv_v ho_77 cl_6_161) (by decide) nl_78 rfl rfl (by first | rfl | exact rcv_of (by with_reducible assumption)) rfl rfl rfl (by omega) (by omega) (r_may1) ?_
    intro v9 M9 h9
    rewrite [h9.1, h9.2]
    clear h9 v9 M9
    simp only [Option.toList, List.cons_append, List.nil_append]
    refine go_if_ne (p := 39) (p2 := 41) hf_77 rfl rfl rfl (fun h36 => absurd rfl h36) (fun h36 => ?_)
    refine go_iconst (p := 40) hf_77 rfl rfl ci_0 ?_
    refine go_ret1 hf_77 rfl nl_77 ?_
    exact ⟨_, _, rfl, rfl, rfl, rfl⟩
  · refine go_il2 (p := 9) hf_77 rfl rfl ?_
    refine go_if_lt (p := 12) (p2 := 31) hf_77 rfl rfl rfl (fun h9 => ?_) (fun h9 => ?_)
    · refine go_iconst (p := 32) hf_77 rfl rfl ci_0 ?_
      refine go_il1 (p := 33) hf_77 rfl rfl ?_
      refine go_cw3 (p := 36) hf_77 rfl rfl (inv_v ho_77 cl_6_161) (by decide) nl_78 rfl rfl (by first | rfl | exact rcv_of (by with_reducible assumption)) rfl rfl rfl (by omega) (by omega) (r_may1) ?_
      intro v9 M9 h9
      rewrite [h9.1, h9.2]
      clear h9 v9 M9
      simp only [Option.toList, List.cons_append, List.nil_append]
      refine go_if_ne (p := 39) (p2 := 41) hf_77 rfl rfl rfl (fun h36 => absurd rfl h36) (fun h36 => ?_)
      refine go_iconst (p := 40) hf_77 rfl rfl ci_0 ?_
      refine go_ret1 hf_77 rfl nl_77 ?_
      exact ⟨_, _, rfl, rfl, rfl, rfl⟩
    · refine go_il2 (p := 13) hf_77 rfl rfl ?_
      refine go_iconst (p := 14) hf_77 rfl rfl ci_4 ?_
      refine go_ic_ge (p := 17) (p2 := 31) hf_77 rfl rfl rfl (fun h14 => ?_) (fun h14 => ?_)
      · refine go_iconst (p := 32) hf_77 rfl rfl ci_0 ?_
        refine go_il1 (p := 33) hf_77 rfl rfl ?_
        refine go_cw3 (p := 36) hf_77 rfl rfl (inv_v ho_77 cl_6_161) (by decide) nl_78 rfl rfl (by first | rfl | exact rcv_of (by with_reducible assumption)) rfl rfl rfl (by omega) (by omega) (r_may1) ?_
        intro v9 M9 h9
        rewrite [h9.1, h9.2]
        clear h9 v9 M9
        simp only [Option.toList, List.cons_append, List.nil_append]
        refine go_if_ne (p := 39) (p2 := 41) hf_77 rfl rfl rfl (fun h36 => absurd rfl h36) (fun h36 => ?_)
        refine go_iconst (p := 40) hf_77 rfl rfl ci_0 ?_
        refine go_ret1 hf_77 rfl nl_77 ?_
        exact ⟨_, _, rfl, rfl, rfl, rfl⟩
      · refine go_il3 (p := 18) hf_77 rfl rfl ?_
        refine go_if_lt (p := 21) (p2 := 31) hf_77 rfl rfl rfl (fun h18 => ?_) (fun h18 => ?_)
        · refine go_iconst (p := 32) hf_77 rfl rfl ci_0 ?_
          refine go_il1 (p := 33) hf_77 rfl rfl ?_
          refine go_cw3 (p := 36) hf_77 rfl rfl (inv_v ho_77 cl_6_161) (by decide) nl_78 rfl rfl (by first | rfl | exact rcv_of (by with_reducible assumption)) rfl rfl rfl (by omega) (by omega) (r_may1) ?_
          intro v9 M9 h9
          rewrite [h9.1, h9.2]
          clear h9 v9 M9
          simp only [Option.toList, List.cons_append, List.nil_append]
          refine go_if_ne (p := 39) (p2 := 41) hf_77 rfl rfl rfl (fun h36 => absurd rfl h36) (fun h36 => ?_)
          refine go_iconst (p := 40) hf_77 rfl rfl ci_0 ?_
          refine go_ret1 hf_77 rfl nl_77 ?_
          exact ⟨_, _, rfl, rfl, rfl, rfl⟩
        · refine go_il3 (p := 22) hf_77 rfl rfl ?_
          refine go_bipush (p := 24) hf_77 rfl rfl cb_64 ?_
          refine go_ic_ge (p := 27) (p2 := 31) hf_77 rfl rfl rfl (fun h24 => ?_) (fun h24 => ?_)
          · refine go_iconst (p := 32) hf_77 rfl rfl ci_0 ?_
            refine go_il1 (p := 33) hf_77 rfl rfl ?_
            refine go_cw3 (p := 36) hf_77 rfl rfl (inv_v ho_77 cl_6_161) (by decide) nl_78 rfl rfl (by first | rfl | exact rcv_of (by with_reducible assumption)) rfl rfl rfl (by omega) (by omega) (r_may1) ?_
            intro v9 M9 h9
            rewrite [h9.1, h9.2]
            clear h9 v9 M9
            simp only [Option.toList, List.cons_append, List.nil_append]
            refine go_if_ne (p := 39) (p2 := 41) hf_77 rfl rfl rfl (fun h36 => absurd rfl h36) (fun h36 => ?_)
            refine go_iconst (p := 40) hf_77 rfl rfl ci_0 ?_
            refine go_ret1 hf_77 rfl nl_77 ?_
            exact ⟨_, _, rfl, rfl, rfl, rfl⟩
          · exact absurd ⟨(below_iff (by omega)).mp (bI_n0.mp h5), (below_iff (by omega)).mp ⟨h9, i32_nle.mp h14⟩, (below_iff (by omega)).mp ⟨h18, i32_nle.mp h24⟩⟩ hbad
theorem w_put {M : sm_M} {k n1 n2 : Nat} (hk : k < 3) (hn1 : n1 < 4) (hn2 : n2 < 64) (ho : M 55 k = 0) : cr 77 1 22 [.ref 40, .int (nI k), .int (nI n1), .int (nI n2)] M (fun v M1 => v = some (.int (nI 0)) ∧ M1 = sm_up M 40 0 (nI 2)) := by
  intro X J rc rs d lw hd hw
  show sm_wp tb_T X tb_ok d lw 77 0 [some (.ref 40), some (.int (nI k)), some (.int (nI n1)), some (.int (nI n2)), none, none, none] [] _ _
  refine go_al0 (p := 1) hf_77 rfl rfl ?_
  refine go_il1 (p := 2) hf_77 rfl rfl ?_
  refine go_cw1 (p := 5) hf_77 rfl rfl (inv_s ho_77 cl_6_158) (by decide) nl_75 rfl rfl rfl rfl rfl rfl (by omega) (by omega) (c_isDevice) ?_
  intro v9 M9 h9
  rewrite [h9.1, h9.2]
  clear h9 v9 M9
  simp only [Option.toList, List.cons_append, List.nil_append]
  refine go_if_eq (p := 8) (p2 := 31) hf_77 rfl rfl rfl (fun h5 => absurd ((below_iff (by omega)).mpr ⟨k, hk, rfl⟩) (bI_0.mp h5)) (fun h5 => ?_)
  refine go_il2 (p := 9) hf_77 rfl rfl ?_
  refine go_if_lt (p := 12) (p2 := 31) hf_77 rfl rfl rfl (fun h9 => absurd h9 (nI_pos (by omega))) (fun h9 => ?_)
  refine go_il2 (p := 13) hf_77 rfl rfl ?_
  refine go_iconst (p := 14) hf_77 rfl rfl ci_4 ?_
  first | refine go_nn_ge (p := 17) (p2 := 31) hf_77 rfl rfl rfl (by omega) (by omega) (fun h14 => absurd h14 (by omega)) (fun h14 => ?_) | refine go_ic_ge (p := 17) (p2 := 31) hf_77 rfl rfl rfl (fun h14 => absurd h14 (by omega)) (fun h14 => ?_)
  refine go_il3 (p := 18) hf_77 rfl rfl ?_
  refine go_if_lt (p := 21) (p2 := 31) hf_77 rfl rfl rfl (fun h18 => absurd h18 (nI_pos (by omega))) (fun h18 => ?_)
  refine go_il3 (p := 22) hf_77 rfl rfl ?_
  refine go_bipush (p := 24) hf_77 rfl rfl cb_64 ?_
  first | refine go_nn_ge (p := 27) (p2 := 31) hf_77 rfl rfl rfl (by omega) (by omega) (fun h24 => absurd h24 (by omega)) (fun h24 => ?_) | refine go_ic_ge (p := 27) (p2 := 31) hf_77 rfl rfl rfl (fun h24 => absurd h24 (by omega)) (fun h24 => ?_)
  refine go_iconst (p := 28) hf_77 rfl rfl ci_1 ?_
  refine go_goto (p2 := 32) hf_77 rfl rfl ?_
  refine go_il1 (p := 33) hf_77 rfl rfl ?_
  refine go_cw3 (p := 36) hf_77 rfl rfl (inv_v ho_77 cl_6_161) (by decide) nl_78 rfl rfl (by first | rfl | exact rcv_of (by with_reducible assumption)) rfl rfl rfl (by omega) (by omega) (r_may2 hk nI_10 ho) ?_
  intro v9 M9 h9
  rewrite [h9.1, h9.2]
  clear h9 v9 M9
  simp only [Option.toList, List.cons_append, List.nil_append]
  refine go_if_ne (p := 39) (p2 := 41) hf_77 rfl rfl rfl (fun h36 => absurd rfl h36) (fun h36 => ?_)
  refine go_iconst (p := 40) hf_77 rfl rfl ci_0 ?_
  refine go_ret1 hf_77 rfl nl_77 ?_
  exact ⟨_, _, rfl, rfl, rfl, rfl⟩
theorem v_erase {M : sm_M} {a0 a1 : Int32} (hbad : ¬ ((∃ n, n < 3 ∧ a0 = nI n) ∧ (∃ n, n < 4 ∧ a1 = nI n))) : cr 84 1 22 [.ref 40, .int a0, .int a1] M (fun v M1 => v = some (.int (nI 0)) ∧ M1 = sm_up M 40 0 (nI 1)) := by
  intro X J rc rs d lw hd hw
  show sm_wp tb_T X tb_ok d lw 84 0 [some (.ref 40), some (.int a0), some (.int a1), none] [] _ _
  refine go_al0 (p := 1) hf_84 rfl rfl ?_
  refine go_il1 (p := 2) hf_84 rfl rfl ?_
  refine go_cw1 (p := 5) hf_84 rfl rfl (inv_s ho_84 cl_6_158) (by decide) nl_75 rfl rfl rfl rfl rfl rfl (by omega) (by omega) (c_isDevice) ?_
  intro v9 M9 h9
  rewrite [h9.1, h9.2]
  clear h9 v9 M9
  simp only [Option.toList, List.cons_append, List.nil_append]
  refine go_if_eq (p := 8) (p2 := 21) hf_84 rfl rfl rfl (fun h5 => ?_) (fun h5 => ?_)
  · refine go_iconst (p := 22) hf_84 rfl rfl ci_0 ?_
    refine go_il1 (p := 23) hf_84 rfl rfl ?_
    refine go_cw3 (p := 26) hf_84 rfl rfl (inv_v ho_84 cl_6_161) (by decide) nl_78 rfl rfl (by first | rfl | exact rcv_of (by with_reducible assumption)) rfl rfl rfl (by omega) (by omega) (r_may1) ?_
    intro v9 M9 h9
    rewrite [h9.1, h9.2]
    clear h9 v9 M9
    simp only [Option.toList, List.cons_append, List.nil_append]
    refine go_if_ne (p := 29) (p2 := 31) hf_84 rfl rfl rfl (fun h26 => absurd rfl h26) (fun h26 => ?_)
    refine go_iconst (p := 30) hf_84 rfl rfl ci_0 ?_
    refine go_ret1 hf_84 rfl nl_84 ?_
    exact ⟨_, _, rfl, rfl, rfl, rfl⟩
  · refine go_il2 (p := 9) hf_84 rfl rfl ?_
    refine go_if_lt (p := 12) (p2 := 21) hf_84 rfl rfl rfl (fun h9 => ?_) (fun h9 => ?_)
    · refine go_iconst (p := 22) hf_84 rfl rfl ci_0 ?_
      refine go_il1 (p := 23) hf_84 rfl rfl ?_
      refine go_cw3 (p := 26) hf_84 rfl rfl (inv_v ho_84 cl_6_161) (by decide) nl_78 rfl rfl (by first | rfl | exact rcv_of (by with_reducible assumption)) rfl rfl rfl (by omega) (by omega) (r_may1) ?_
      intro v9 M9 h9
      rewrite [h9.1, h9.2]
      clear h9 v9 M9
      simp only [Option.toList, List.cons_append, List.nil_append]
      refine go_if_ne (p := 29) (p2 := 31) hf_84 rfl rfl rfl (fun h26 => absurd rfl h26) (fun h26 => ?_)
      refine go_iconst (p := 30) hf_84 rfl rfl ci_0 ?_
      refine go_ret1 hf_84 rfl nl_84 ?_
      exact ⟨_, _, rfl, rfl, rfl, rfl⟩
    · refine go_il2 (p := 13) hf_84 rfl rfl ?_
      refine go_iconst (p := 14) hf_84 rfl rfl ci_4 ?_
      refine go_ic_ge (p := 17) (p2 := 21) hf_84 rfl rfl rfl (fun h14 => ?_) (fun h14 => ?_)
      · refine go_iconst (p := 22) hf_84 rfl rfl ci_0 ?_
        refine go_il1 (p := 23) hf_84 rfl rfl ?_
        refine go_cw3 (p := 26) hf_84 rfl rfl (inv_v ho_84 cl_6_161) (by decide) nl_78 rfl rfl (by first | rfl | exact rcv_of (by with_reducible assumption)) rfl rfl rfl (by omega) (by omega) (r_may1) ?_
        intro v9 M9 h9
        rewrite [h9.1, h9.2]
        clear h9 v9 M9
        simp only [Option.toList, List.cons_append, List.nil_append]
        refine go_if_ne (p := 29) (p2 := 31) hf_84 rfl rfl rfl (fun h26 => absurd rfl h26) (fun h26 => ?_)
        refine go_iconst (p := 30) hf_84 rfl rfl ci_0 ?_
        refine go_ret1 hf_84 rfl nl_84 ?_
        exact ⟨_, _, rfl, rfl, rfl, rfl⟩
      · exact absurd ⟨(below_iff (by omega)).mp (bI_n0.mp h5), (below_iff (by omega)).mp ⟨h9, i32_nle.mp h14⟩⟩ hbad
theorem w_erase {M : sm_M} {k n1 : Nat} (hk : k < 3) (hn1 : n1 < 4) (ho : M 55 k = 0) : cr 84 1 22 [.ref 40, .int (nI k), .int (nI n1)] M (fun v M1 => v = some (.int (nI 0)) ∧ M1 = sm_up M 40 0 (nI 2)) := by
  intro X J rc rs d lw hd hw
  show sm_wp tb_T X tb_ok d lw 84 0 [some (.ref 40), some (.int (nI k)), some (.int (nI n1)), none] [] _ _
  refine go_al0 (p := 1) hf_84 rfl rfl ?_
  refine go_il1 (p := 2) hf_84 rfl rfl ?_
  refine go_cw1 (p := 5) hf_84 rfl rfl (inv_s ho_84 cl_6_158) (by decide) nl_75 rfl rfl rfl rfl rfl rfl (by omega) (by omega) (c_isDevice) ?_
  intro v9 M9 h9
  rewrite [h9.1, h9.2]
  clear h9 v9 M9
  simp only [Option.toList, List.cons_append, List.nil_append]
  refine go_if_eq (p := 8) (p2 := 21) hf_84 rfl rfl rfl (fun h5 => absurd ((below_iff (by omega)).mpr ⟨k, hk, rfl⟩) (bI_0.mp h5)) (fun h5 => ?_)
  refine go_il2 (p := 9) hf_84 rfl rfl ?_
  refine go_if_lt (p := 12) (p2 := 21) hf_84 rfl rfl rfl (fun h9 => absurd h9 (nI_pos (by omega))) (fun h9 => ?_)
  refine go_il2 (p := 13) hf_84 rfl rfl ?_
  refine go_iconst (p := 14) hf_84 rfl rfl ci_4 ?_
  first | refine go_nn_ge (p := 17) (p2 := 21) hf_84 rfl rfl rfl (by omega) (by omega) (fun h14 => absurd h14 (by omega)) (fun h14 => ?_) | refine go_ic_ge (p := 17) (p2 := 21) hf_84 rfl rfl rfl (fun h14 => absurd h14 (by omega)) (fun h14 => ?_)
  refine go_iconst (p := 18) hf_84 rfl rfl ci_1 ?_
  refine go_goto (p2 := 22) hf_84 rfl rfl ?_
  refine go_il1 (p := 23) hf_84 rfl rfl ?_
  refine go_cw3 (p := 26) hf_84 rfl rfl (inv_v ho_84 cl_6_161) (by decide) nl_78 rfl rfl (by first | rfl | exact rcv_of (by with_reducible assumption)) rfl rfl rfl (by omega) (by omega) (r_may2 hk nI_10 ho) ?_
  intro v9 M9 h9
  rewrite [h9.1, h9.2]
  clear h9 v9 M9
  simp only [Option.toList, List.cons_append, List.nil_append]
  refine go_if_ne (p := 29) (p2 := 31) hf_84 rfl rfl rfl (fun h26 => absurd rfl h26) (fun h26 => ?_)
  refine go_iconst (p := 30) hf_84 rfl rfl ci_0 ?_
  refine go_ret1 hf_84 rfl nl_84 ?_
  exact ⟨_, _, rfl, rfl, rfl, rfl⟩
theorem v_get {M : sm_M} {a0 a1 a2 : Int32} (hbad : ¬ ((∃ n, n < 3 ∧ a0 = nI n) ∧ (∃ n, n < 4 ∧ a1 = nI n))) : cr 85 1 22 [.ref 40, .int a0, .int a1, .int a2] M (fun v M1 => v = some (.int (nI 0)) ∧ M1 = sm_up M 40 0 (nI 1)) := by
  intro X J rc rs d lw hd hw
  show sm_wp tb_T X tb_ok d lw 85 0 [some (.ref 40), some (.int a0), some (.int a1), some (.int a2), none, none] [] _ _
  refine go_al0 (p := 1) hf_85 rfl rfl ?_
  refine go_il1 (p := 2) hf_85 rfl rfl ?_
  refine go_cw1 (p := 5) hf_85 rfl rfl (inv_s ho_85 cl_6_158) (by decide) nl_75 rfl rfl rfl rfl rfl rfl (by omega) (by omega) (c_isDevice) ?_
  intro v9 M9 h9
  rewrite [h9.1, h9.2]
  clear h9 v9 M9
  simp only [Option.toList, List.cons_append, List.nil_append]
  refine go_if_eq (p := 8) (p2 := 21) hf_85 rfl rfl rfl (fun h5 => ?_) (fun h5 => ?_)
  · refine go_iconst (p := 22) hf_85 rfl rfl ci_0 ?_
    refine go_il1 (p := 23) hf_85 rfl rfl ?_
    refine go_cw3 (p := 26) hf_85 rfl rfl (inv_v ho_85 cl_6_161) (by decide) nl_78 rfl rfl (by first | rfl | exact rcv_of (by with_reducible assumption)) rfl rfl rfl (by omega) (by omega) (r_may1) ?_
    intro v9 M9 h9
    rewrite [h9.1, h9.2]
    clear h9 v9 M9
    simp only [Option.toList, List.cons_append, List.nil_append]
    refine go_if_ne (p := 29) (p2 := 31) hf_85 rfl rfl rfl (fun h26 => absurd rfl h26) (fun h26 => ?_)
    refine go_iconst (p := 30) hf_85 rfl rfl ci_0 ?_
    refine go_ret1 hf_85 rfl nl_85 ?_
    exact ⟨_, _, rfl, rfl, rfl, rfl⟩
  · refine go_il2 (p := 9) hf_85 rfl rfl ?_
    refine go_if_lt (p := 12) (p2 := 21) hf_85 rfl rfl rfl (fun h9 => ?_) (fun h9 => ?_)
    · refine go_iconst (p := 22) hf_85 rfl rfl ci_0 ?_
      refine go_il1 (p := 23) hf_85 rfl rfl ?_
      refine go_cw3 (p := 26) hf_85 rfl rfl (inv_v ho_85 cl_6_161) (by decide) nl_78 rfl rfl (by first | rfl | exact rcv_of (by with_reducible assumption)) rfl rfl rfl (by omega) (by omega) (r_may1) ?_
      intro v9 M9 h9
      rewrite [h9.1, h9.2]
      clear h9 v9 M9
      simp only [Option.toList, List.cons_append, List.nil_append]
      refine go_if_ne (p := 29) (p2 := 31) hf_85 rfl rfl rfl (fun h26 => absurd rfl h26) (fun h26 => ?_)
      refine go_iconst (p := 30) hf_85 rfl rfl ci_0 ?_
      refine go_ret1 hf_85 rfl nl_85 ?_
      exact ⟨_, _, rfl, rfl, rfl, rfl⟩
    · refine go_il2 (p := 13) hf_85 rfl rfl ?_
      refine go_iconst (p := 14) hf_85 rfl rfl ci_4 ?_
      refine go_ic_ge (p := 17) (p2 := 21) hf_85 rfl rfl rfl (fun h14 => ?_) (fun h14 => ?_)
      · refine go_iconst (p := 22) hf_85 rfl rfl ci_0 ?_
        refine go_il1 (p := 23) hf_85 rfl rfl ?_
        refine go_cw3 (p := 26) hf_85 rfl rfl (inv_v ho_85 cl_6_161) (by decide) nl_78 rfl rfl (by first | rfl | exact rcv_of (by with_reducible assumption)) rfl rfl rfl (by omega) (by omega) (r_may1) ?_
        intro v9 M9 h9
        rewrite [h9.1, h9.2]
        clear h9 v9 M9
        simp only [Option.toList, List.cons_append, List.nil_append]
        refine go_if_ne (p := 29) (p2 := 31) hf_85 rfl rfl rfl (fun h26 => absurd rfl h26) (fun h26 => ?_)
        refine go_iconst (p := 30) hf_85 rfl rfl ci_0 ?_
        refine go_ret1 hf_85 rfl nl_85 ?_
        exact ⟨_, _, rfl, rfl, rfl, rfl⟩
      · exact absurd ⟨(below_iff (by omega)).mp (bI_n0.mp h5), (below_iff (by omega)).mp ⟨h9, i32_nle.mp h14⟩⟩ hbad
theorem w_get {M : sm_M} {k n1 : Nat} {a2 : Int32} (hk : k < 3) (hn1 : n1 < 4) (ho : M 55 k = 0) : cr 85 1 22 [.ref 40, .int (nI k), .int (nI n1), .int a2] M (fun v M1 => v = some (.int (nI 0)) ∧ M1 = sm_up M 40 0 (nI 2)) := by
  intro X J rc rs d lw hd hw
  show sm_wp tb_T X tb_ok d lw 85 0 [some (.ref 40), some (.int (nI k)), some (.int (nI n1)), some (.int a2), none, none] [] _ _
  refine go_al0 (p := 1) hf_85 rfl rfl ?_
  refine go_il1 (p := 2) hf_85 rfl rfl ?_
  refine go_cw1 (p := 5) hf_85 rfl rfl (inv_s ho_85 cl_6_158) (by decide) nl_75 rfl rfl rfl rfl rfl rfl (by omega) (by omega) (c_isDevice) ?_
  intro v9 M9 h9
  rewrite [h9.1, h9.2]
  clear h9 v9 M9
  simp only [Option.toList, List.cons_append, List.nil_append]
  refine go_if_eq (p := 8) (p2 := 21) hf_85 rfl rfl rfl (fun h5 => absurd ((below_iff (by omega)).mpr ⟨k, hk, rfl⟩) (bI_0.mp h5)) (fun h5 => ?_)
  refine go_il2 (p := 9) hf_85 rfl rfl ?_
  refine go_if_lt (p := 12) (p2 := 21) hf_85 rfl rfl rfl (fun h9 => absurd h9 (nI_pos (by omega))) (fun h9 => ?_)
  refine go_il2 (p := 13) hf_85 rfl rfl ?_
  refine go_iconst (p := 14) hf_85 rfl rfl ci_4 ?_
  first | refine go_nn_ge (p := 17) (p2 := 21) hf_85 rfl rfl rfl (by omega) (by omega) (fun h14 => absurd h14 (by omega)) (fun h14 => ?_) | refine go_ic_ge (p := 17) (p2 := 21) hf_85 rfl rfl rfl (fun h14 => absurd h14 (by omega)) (fun h14 => ?_)
  refine go_iconst (p := 18) hf_85 rfl rfl ci_1 ?_
  refine go_goto (p2 := 22) hf_85 rfl rfl ?_
  refine go_il1 (p := 23) hf_85 rfl rfl ?_
  refine go_cw3 (p := 26) hf_85 rfl rfl (inv_v ho_85 cl_6_161) (by decide) nl_78 rfl rfl (by first | rfl | exact rcv_of (by with_reducible assumption)) rfl rfl rfl (by omega) (by omega) (r_may2 hk nI_10 ho) ?_
  intro v9 M9 h9
  rewrite [h9.1, h9.2]
  clear h9 v9 M9
  simp only [Option.toList, List.cons_append, List.nil_append]
  refine go_if_ne (p := 29) (p2 := 31) hf_85 rfl rfl rfl (fun h26 => absurd rfl h26) (fun h26 => ?_)
  refine go_iconst (p := 30) hf_85 rfl rfl ci_0 ?_
  refine go_ret1 hf_85 rfl nl_85 ?_
  exact ⟨_, _, rfl, rfl, rfl, rfl⟩
theorem v_change {M : sm_M} {a0 a1 : Int32} (hbad : ¬ ((∃ n, n < 3 ∧ a0 = nI n) ∧ (∃ n, n < 8 ∧ a1 = nI n))) : cr 86 1 22 [.ref 40, .int a0, .int a1] M (fun v M1 => v = some (.int (nI 0)) ∧ M1 = sm_up M 40 0 (nI 1)) := by
  intro X J rc rs d lw hd hw
  show sm_wp tb_T X tb_ok d lw 86 0 [some (.ref 40), some (.int a0), some (.int a1)] [] _ _
  refine go_al0 (p := 1) hf_86 rfl rfl ?_
  refine go_il1 (p := 2) hf_86 rfl rfl ?_
  refine go_cw1 (p := 5) hf_86 rfl rfl (inv_s ho_86 cl_6_158) (by decide) nl_75 rfl rfl rfl rfl rfl rfl (by omega) (by omega) (c_isDevice) ?_
  intro v9 M9 h9
  rewrite [h9.1, h9.2]
  clear h9 v9 M9
  simp only [Option.toList, List.cons_append, List.nil_append]
  refine go_if_eq (p := 8) (p2 := 22) hf_86 rfl rfl rfl (fun h5 => ?_) (fun h5 => ?_)
  · refine go_iconst (p := 23) hf_86 rfl rfl ci_0 ?_
    refine go_il1 (p := 24) hf_86 rfl rfl ?_
    refine go_cw3 (p := 27) hf_86 rfl rfl (inv_v ho_86 cl_6_161) (by decide) nl_78 rfl rfl (by first | rfl | exact rcv_of (by with_reducible assumption)) rfl rfl rfl (by omega) (by omega) (r_may1) ?_
    intro v9 M9 h9
    rewrite [h9.1, h9.2]
    clear h9 v9 M9
    simp only [Option.toList, List.cons_append, List.nil_append]
    refine go_if_ne (p := 30) (p2 := 32) hf_86 rfl rfl rfl (fun h27 => absurd rfl h27) (fun h27 => ?_)
    refine go_iconst (p := 31) hf_86 rfl rfl ci_0 ?_
    refine go_ret1 hf_86 rfl nl_86 ?_
    exact ⟨_, _, rfl, rfl, rfl, rfl⟩
  · refine go_il2 (p := 9) hf_86 rfl rfl ?_
    refine go_if_lt (p := 12) (p2 := 22) hf_86 rfl rfl rfl (fun h9 => ?_) (fun h9 => ?_)
    · refine go_iconst (p := 23) hf_86 rfl rfl ci_0 ?_
      refine go_il1 (p := 24) hf_86 rfl rfl ?_
      refine go_cw3 (p := 27) hf_86 rfl rfl (inv_v ho_86 cl_6_161) (by decide) nl_78 rfl rfl (by first | rfl | exact rcv_of (by with_reducible assumption)) rfl rfl rfl (by omega) (by omega) (r_may1) ?_
      intro v9 M9 h9
      rewrite [h9.1, h9.2]
      clear h9 v9 M9
      simp only [Option.toList, List.cons_append, List.nil_append]
      refine go_if_ne (p := 30) (p2 := 32) hf_86 rfl rfl rfl (fun h27 => absurd rfl h27) (fun h27 => ?_)
      refine go_iconst (p := 31) hf_86 rfl rfl ci_0 ?_
      refine go_ret1 hf_86 rfl nl_86 ?_
      exact ⟨_, _, rfl, rfl, rfl, rfl⟩
    · refine go_il2 (p := 13) hf_86 rfl rfl ?_
      refine go_bipush (p := 15) hf_86 rfl rfl cb_7 ?_
      refine go_ic_gt (p := 18) (p2 := 22) hf_86 rfl rfl rfl (fun h15 => ?_) (fun h15 => ?_)
      · refine go_iconst (p := 23) hf_86 rfl rfl ci_0 ?_
        refine go_il1 (p := 24) hf_86 rfl rfl ?_
        refine go_cw3 (p := 27) hf_86 rfl rfl (inv_v ho_86 cl_6_161) (by decide) nl_78 rfl rfl (by first | rfl | exact rcv_of (by with_reducible assumption)) rfl rfl rfl (by omega) (by omega) (r_may1) ?_
        intro v9 M9 h9
        rewrite [h9.1, h9.2]
        clear h9 v9 M9
        simp only [Option.toList, List.cons_append, List.nil_append]
        refine go_if_ne (p := 30) (p2 := 32) hf_86 rfl rfl rfl (fun h27 => absurd rfl h27) (fun h27 => ?_)
        refine go_iconst (p := 31) hf_86 rfl rfl ci_0 ?_
        refine go_ret1 hf_86 rfl nl_86 ?_
        exact ⟨_, _, rfl, rfl, rfl, rfl⟩
      · exact absurd ⟨(below_iff (by omega)).mp (bI_n0.mp h5), (by obtain ⟨n, _, h2, h3⟩ := rng_nI (a := 0) (b := 7) (by omega) h9 h15 (by omega); exact ⟨n, by omega, h3⟩)⟩ hbad
theorem w_change {M : sm_M} {k n1 : Nat} (hk : k < 3) (hn1 : n1 < 8) (ho : M 55 k = 0) : cr 86 1 22 [.ref 40, .int (nI k), .int (nI n1)] M (fun v M1 => v = some (.int (nI 0)) ∧ M1 = sm_up M 40 0 (nI 2)) := by
  intro X J rc rs d lw hd hw
  show sm_wp tb_T X tb_ok d lw 86 0 [some (.ref 40), some (.int (nI k)), some (.int (nI n1))] [] _ _
  refine go_al0 (p := 1) hf_86 rfl rfl ?_
  refine go_il1 (p := 2) hf_86 rfl rfl ?_
  refine go_cw1 (p := 5) hf_86 rfl rfl (inv_s ho_86 cl_6_158) (by decide) nl_75 rfl rfl rfl rfl rfl rfl (by omega) (by omega) (c_isDevice) ?_
  intro v9 M9 h9
  rewrite [h9.1, h9.2]
  clear h9 v9 M9
  simp only [Option.toList, List.cons_append, List.nil_append]
  refine go_if_eq (p := 8) (p2 := 22) hf_86 rfl rfl rfl (fun h5 => absurd ((below_iff (by omega)).mpr ⟨k, hk, rfl⟩) (bI_0.mp h5)) (fun h5 => ?_)
  refine go_il2 (p := 9) hf_86 rfl rfl ?_
  refine go_if_lt (p := 12) (p2 := 22) hf_86 rfl rfl rfl (fun h9 => absurd h9 (nI_pos (by omega))) (fun h9 => ?_)
  refine go_il2 (p := 13) hf_86 rfl rfl ?_
  refine go_bipush (p := 15) hf_86 rfl rfl cb_7 ?_
  first | refine go_nn_gt (p := 18) (p2 := 22) hf_86 rfl rfl rfl (by omega) (by omega) (fun h15 => absurd h15 (by omega)) (fun h15 => ?_) | refine go_ic_gt (p := 18) (p2 := 22) hf_86 rfl rfl rfl (fun h15 => absurd h15 (by omega)) (fun h15 => ?_)
  refine go_iconst (p := 19) hf_86 rfl rfl ci_1 ?_
  refine go_goto (p2 := 23) hf_86 rfl rfl ?_
  refine go_il1 (p := 24) hf_86 rfl rfl ?_
  refine go_cw3 (p := 27) hf_86 rfl rfl (inv_v ho_86 cl_6_161) (by decide) nl_78 rfl rfl (by first | rfl | exact rcv_of (by with_reducible assumption)) rfl rfl rfl (by omega) (by omega) (r_may2 hk nI_10 ho) ?_
  intro v9 M9 h9
  rewrite [h9.1, h9.2]
  clear h9 v9 M9
  simp only [Option.toList, List.cons_append, List.nil_append]
  refine go_if_ne (p := 30) (p2 := 32) hf_86 rfl rfl rfl (fun h27 => absurd rfl h27) (fun h27 => ?_)
  refine go_iconst (p := 31) hf_86 rfl rfl ci_0 ?_
  refine go_ret1 hf_86 rfl nl_86 ?_
  exact ⟨_, _, rfl, rfl, rfl, rfl⟩
theorem v_pull {M : sm_M} {a0 : Int32} (hbad : ¬ ((∃ n, n < 3 ∧ a0 = nI n))) : cr 87 1 22 [.ref 40, .int a0] M (fun v M1 => v = some (.int (nI 0)) ∧ M1 = sm_up M 40 0 (nI 1)) := by
  intro X J rc rs d lw hd hw
  show sm_wp tb_T X tb_ok d lw 87 0 [some (.ref 40), some (.int a0), none] [] _ _
  have hb0 : bI (¬ a0 < 0 ∧ a0 < nI 3) = nI 0 := bI_f (fun h => hbad ((below_iff (by omega)).mp h))
  refine go_al0 (p := 1) hf_87 rfl rfl ?_
  refine go_il1 (p := 2) hf_87 rfl rfl ?_
  refine go_cw1 (p := 5) hf_87 rfl rfl (inv_s ho_87 cl_6_158) (by decide) nl_75 rfl rfl rfl rfl rfl rfl (by omega) (by omega) (c_isDevice) ?_
  intro v9 M9 h9
  rewrite [h9.1, h9.2]
  clear h9 v9 M9
  rewrite [hb0]
  simp only [Option.toList, List.cons_append, List.nil_append]
  refine go_il1 (p := 6) hf_87 rfl rfl ?_
  refine go_cw3 (p := 9) hf_87 rfl rfl (inv_v ho_87 cl_6_161) (by decide) nl_78 rfl rfl (by first | rfl | exact rcv_of (by with_reducible assumption)) rfl rfl rfl (by omega) (by omega) (r_may1) ?_
  intro v9 M9 h9
  rewrite [h9.1, h9.2]
  clear h9 v9 M9
  simp only [Option.toList, List.cons_append, List.nil_append]
  refine go_if_ne (p := 12) (p2 := 14) hf_87 rfl rfl rfl (fun h9 => absurd rfl h9) (fun h9 => ?_)
  refine go_iconst (p := 13) hf_87 rfl rfl ci_0 ?_
  refine go_ret2 hf_87 rfl nl_87 (by first | exact Or.inl rfl | exact Or.inr rfl | with_reducible assumption) ?_
  exact ⟨_, _, rfl, rfl, rfl, rfl⟩
theorem w_pull {M : sm_M} {k : Nat} (hk : k < 3)  (ho : M 55 k = 0) : cr 87 1 22 [.ref 40, .int (nI k)] M (fun v M1 => v = some (.int (nI 0)) ∧ M1 = sm_up M 40 0 (nI 2)) := by
  intro X J rc rs d lw hd hw
  show sm_wp tb_T X tb_ok d lw 87 0 [some (.ref 40), some (.int (nI k)), none] [] _ _
  refine go_al0 (p := 1) hf_87 rfl rfl ?_
  refine go_il1 (p := 2) hf_87 rfl rfl ?_
  refine go_cw1 (p := 5) hf_87 rfl rfl (inv_s ho_87 cl_6_158) (by decide) nl_75 rfl rfl rfl rfl rfl rfl (by omega) (by omega) (c_isDevice) ?_
  intro v9 M9 h9
  rewrite [h9.1, h9.2]
  clear h9 v9 M9
  simp only [Option.toList, List.cons_append, List.nil_append]
  refine go_il1 (p := 6) hf_87 rfl rfl ?_
  refine go_cw3 (p := 9) hf_87 rfl rfl (inv_v ho_87 cl_6_161) (by decide) nl_78 rfl rfl (by first | rfl | exact rcv_of (by with_reducible assumption)) rfl rfl rfl (by omega) (by omega) (r_may2 hk (bI_n0.mpr ((below_iff (by omega)).mpr ⟨k, hk, rfl⟩)) ho) ?_
  intro v9 M9 h9
  rewrite [h9.1, h9.2]
  clear h9 v9 M9
  simp only [Option.toList, List.cons_append, List.nil_append]
  refine go_if_ne (p := 12) (p2 := 14) hf_87 rfl rfl rfl (fun h9 => absurd rfl h9) (fun h9 => ?_)
  refine go_iconst (p := 13) hf_87 rfl rfl ci_0 ?_
  refine go_ret2 hf_87 rfl nl_87 (by first | exact Or.inl rfl | exact Or.inr rfl | with_reducible assumption) ?_
  exact ⟨_, _, rfl, rfl, rfl, rfl⟩
theorem v_push {M : sm_M} {a0 : Int32} (hbad : ¬ ((∃ n, n < 3 ∧ a0 = nI n))) : cr 89 1 22 [.ref 40, .int a0] M (fun v M1 => v = some (.int (nI 0)) ∧ M1 = sm_up M 40 0 (nI 1)) := by
  intro X J rc rs d lw hd hw
  show sm_wp tb_T X tb_ok d lw 89 0 [some (.ref 40), some (.int a0), none, none] [] _ _
  have hb0 : bI (¬ a0 < 0 ∧ a0 < nI 3) = nI 0 := bI_f (fun h => hbad ((below_iff (by omega)).mp h))
  refine go_al0 (p := 1) hf_89 rfl rfl ?_
  refine go_il1 (p := 2) hf_89 rfl rfl ?_
  refine go_cw1 (p := 5) hf_89 rfl rfl (inv_s ho_89 cl_6_158) (by decide) nl_75 rfl rfl rfl rfl rfl rfl (by omega) (by omega) (c_isDevice) ?_
  intro v9 M9 h9
  rewrite [h9.1, h9.2]
  clear h9 v9 M9
  rewrite [hb0]
  simp only [Option.toList, List.cons_append, List.nil_append]
  refine go_il1 (p := 6) hf_89 rfl rfl ?_
  refine go_cw3 (p := 9) hf_89 rfl rfl (inv_v ho_89 cl_6_161) (by decide) nl_78 rfl rfl (by first | rfl | exact rcv_of (by with_reducible assumption)) rfl rfl rfl (by omega) (by omega) (r_may1) ?_
  intro v9 M9 h9
  rewrite [h9.1, h9.2]
  clear h9 v9 M9
  simp only [Option.toList, List.cons_append, List.nil_append]
  refine go_if_ne (p := 12) (p2 := 14) hf_89 rfl rfl rfl (fun h9 => absurd rfl h9) (fun h9 => ?_)
  refine go_iconst (p := 13) hf_89 rfl rfl ci_0 ?_
  refine go_ret1 hf_89 rfl nl_89 ?_
  exact ⟨_, _, rfl, rfl, rfl, rfl⟩
theorem w_push {M : sm_M} {k : Nat} (hk : k < 3)  (ho : M 55 k = 0) : cr 89 1 22 [.ref 40, .int (nI k)] M (fun v M1 => v = some (.int (nI 0)) ∧ M1 = sm_up M 40 0 (nI 2)) := by
  intro X J rc rs d lw hd hw
  show sm_wp tb_T X tb_ok d lw 89 0 [some (.ref 40), some (.int (nI k)), none, none] [] _ _
  refine go_al0 (p := 1) hf_89 rfl rfl ?_
  refine go_il1 (p := 2) hf_89 rfl rfl ?_
  refine go_cw1 (p := 5) hf_89 rfl rfl (inv_s ho_89 cl_6_158) (by decide) nl_75 rfl rfl rfl rfl rfl rfl (by omega) (by omega) (c_isDevice) ?_
  intro v9 M9 h9
  rewrite [h9.1, h9.2]
  clear h9 v9 M9
  simp only [Option.toList, List.cons_append, List.nil_append]
  refine go_il1 (p := 6) hf_89 rfl rfl ?_
  refine go_cw3 (p := 9) hf_89 rfl rfl (inv_v ho_89 cl_6_161) (by decide) nl_78 rfl rfl (by first | rfl | exact rcv_of (by with_reducible assumption)) rfl rfl rfl (by omega) (by omega) (r_may2 hk (bI_n0.mpr ((below_iff (by omega)).mpr ⟨k, hk, rfl⟩)) ho) ?_
  intro v9 M9 h9
  rewrite [h9.1, h9.2]
  clear h9 v9 M9
  simp only [Option.toList, List.cons_append, List.nil_append]
  refine go_if_ne (p := 12) (p2 := 14) hf_89 rfl rfl rfl (fun h9 => absurd rfl h9) (fun h9 => ?_)
  refine go_iconst (p := 13) hf_89 rfl rfl ci_0 ?_
  refine go_ret1 hf_89 rfl nl_89 ?_
  exact ⟨_, _, rfl, rfl, rfl, rfl⟩
theorem r_unlock {M : sm_M} {k : Nat} {n1 : Nat} (hk : k < 3) (hn1 : n1 < 8) (h55 : M 55 k = 0 ∨ M 55 k = 1) : cr 74 1 20 [.ref 40, .int (nI k), .int (nI n1)] M (fun v M1 => ∃ u, v = some (.int u) ∧ ((M 55 k = 0 ∧ M 48 k = nI n1 ∧ u = nI 1 ∧ M1 = sm_up (sm_up M 40 0 (nI 0)) 55 k (nI 1)) ∨ (¬ (M 55 k = 0 ∧ M 48 k = nI n1) ∧ u = nI 0 ∧ M1 = (sm_up M 40 0 (nI 0))))) := by
  intro X J rc rs d lw hd hw
  show sm_wp tb_T X tb_ok d lw 74 0 [some (.ref 40), some (.int (nI k)), some (.int (nI n1))] [] _ _
  refine go_al0 (p := 1) hf_74 rfl rfl ?_
  refine go_il1 (p := 2) hf_74 rfl rfl ?_
  refine go_cw1 (p := 5) hf_74 rfl rfl (inv_s ho_74 cl_6_158) (by decide) nl_75 rfl rfl rfl rfl rfl rfl (by omega) (by omega) (c_isDevice) ?_
  intro v9 M9 h9
  rewrite [h9.1, h9.2]
  clear h9 v9 M9
  simp only [Option.toList, List.cons_append, List.nil_append]
  refine go_if_eq (p := 8) (p2 := 22) hf_74 rfl rfl rfl (fun h5 => absurd ((below_iff (by omega)).mpr ⟨k, hk, rfl⟩) (bI_0.mp h5)) (fun h5 => ?_)
  refine go_il2 (p := 9) hf_74 rfl rfl ?_
  refine go_if_lt (p := 12) (p2 := 22) hf_74 rfl rfl rfl (fun h9 => absurd h9 (nI_pos (by omega))) (fun h9 => ?_)
  refine go_il2 (p := 13) hf_74 rfl rfl ?_
  refine go_bipush (p := 15) hf_74 rfl rfl cb_7 ?_
  first | refine go_nn_gt (p := 18) (p2 := 22) hf_74 rfl rfl rfl (by omega) (by omega) (fun h15 => absurd h15 (by omega)) (fun h15 => ?_) | refine go_ic_gt (p := 18) (p2 := 22) hf_74 rfl rfl rfl (fun h15 => absurd h15 (by omega)) (fun h15 => ?_)
  refine go_iconst (p := 19) hf_74 rfl rfl ci_0 ?_
  refine go_goto (p2 := 23) hf_74 rfl rfl ?_
  refine go_put (p := 26) hf_74 ho_74 rfl fl_6_78 rfl (by first | with_reducible assumption | rfl) rfl (Or.inl rfl) ?_
  refine go_al0 (p := 27) hf_74 rfl rfl ?_
  refine go_get (p := 30) hf_74 ho_74 rfl fl_6_78 rfl (by first | with_reducible assumption | rfl) rfl up_s ?_
  refine go_if_le (p := 33) (p2 := 35) hf_74 rfl rfl rfl (fun h30 => ?_) (fun h30 => absurd (by decide) h30)
  refine go_al0 (p := 36) hf_74 rfl rfl ?_
  refine go_getr (p := 39) hf_74 ho_74 rfl fl_6_53 rfl (by first | with_reducible assumption | rfl) rfl ?_
  refine go_il1 (p := 40) hf_74 rfl rfl ?_
  refine go_bald (p := 41) hf_74 rfl rfl (by first | with_reducible assumption | rfl) (by first | rfl | with_reducible assumption) (by first | exact rfl | with_reducible assumption) (by omega) (up_k (by omega)) ?_
  refine go_if_ne (p := 44) (p2 := 54) hf_74 rfl rfl rfl (fun h41 => ?_) (fun h41 => ?_)
  · refine go_iconst (p := 55) hf_74 rfl rfl ci_0 ?_
    refine go_ret2 hf_74 rfl nl_74 (by first | exact Or.inl rfl | exact Or.inr rfl | with_reducible assumption) ?_
    exact ⟨_, _, rfl, rfl, _, rfl, Or.inr ⟨fun g => h41 g.1, rfl, rfl⟩⟩
  · refine go_al0 (p := 45) hf_74 rfl rfl ?_
    refine go_getr (p := 48) hf_74 ho_74 rfl fl_6_32 rfl (by first | with_reducible assumption | rfl) rfl ?_
    refine go_il1 (p := 49) hf_74 rfl rfl ?_
    refine go_iald (p := 50) hf_74 rfl rfl (by first | with_reducible assumption | rfl) (by first | rfl | with_reducible assumption) (by first | exact rfl | with_reducible assumption) (by omega) (up_k (by omega)) ?_
    refine go_il2 (p := 51) hf_74 rfl rfl ?_
    refine go_ic_eq (p := 54) (p2 := 56) hf_74 rfl rfl rfl (fun h51 => ?_) (fun h51 => ?_)
    · refine go_al0 (p := 57) hf_74 rfl rfl ?_
      refine go_getr (p := 60) hf_74 ho_74 rfl fl_6_53 rfl (by first | with_reducible assumption | rfl) rfl ?_
      refine go_il1 (p := 61) hf_74 rfl rfl ?_
      refine go_iconst (p := 62) hf_74 rfl rfl ci_1 ?_
      refine go_bast (p := 63) hf_74 rfl rfl (by first | with_reducible assumption | rfl) (by first | rfl | with_reducible assumption) (by first | exact rfl | with_reducible assumption) (by omega) (by first | exact Or.inl rfl | exact Or.inr rfl | with_reducible assumption) ?_
      refine go_iconst (p := 64) hf_74 rfl rfl ci_1 ?_
      refine go_ret2 hf_74 rfl nl_74 (by first | exact Or.inl rfl | exact Or.inr rfl | with_reducible assumption) ?_
      exact ⟨_, _, rfl, rfl, _, rfl, Or.inl ⟨h41, h51, rfl, rfl⟩⟩
    · refine go_iconst (p := 55) hf_74 rfl rfl ci_0 ?_
      refine go_ret2 hf_74 rfl nl_74 (by first | exact Or.inl rfl | exact Or.inr rfl | with_reducible assumption) ?_
      exact ⟨_, _, rfl, rfl, _, rfl, Or.inr ⟨fun g => h51 g.2, rfl, rfl⟩⟩
theorem r_lock {M : sm_M} {k : Nat}  (hk : k < 3) (h55 : M 55 k = 0 ∨ M 55 k = 1) : cr 76 1 20 [.ref 40, .int (nI k)] M (fun v M1 => v = some (.int (M 55 k)) ∧ M1 = sm_up (sm_up M 40 0 (nI 0)) 55 k (nI 0)) := by
  intro X J rc rs d lw hd hw
  show sm_wp tb_T X tb_ok d lw 76 0 [some (.ref 40), some (.int (nI k)), none] [] _ _
  refine go_al0 (p := 1) hf_76 rfl rfl ?_
  refine go_il1 (p := 2) hf_76 rfl rfl ?_
  refine go_cw1 (p := 5) hf_76 rfl rfl (inv_s ho_76 cl_6_158) (by decide) nl_75 rfl rfl rfl rfl rfl rfl (by omega) (by omega) (c_isDevice) ?_
  intro v9 M9 h9
  rewrite [h9.1, h9.2]
  clear h9 v9 M9
  simp only [Option.toList, List.cons_append, List.nil_append]
  refine go_if_eq (p := 8) (p2 := 12) hf_76 rfl rfl rfl (fun h5 => absurd ((below_iff (by omega)).mpr ⟨k, hk, rfl⟩) (bI_0.mp h5)) (fun h5 => ?_)
  refine go_iconst (p := 9) hf_76 rfl rfl ci_0 ?_
  refine go_goto (p2 := 13) hf_76 rfl rfl ?_
  refine go_put (p := 16) hf_76 ho_76 rfl fl_6_78 rfl (by first | with_reducible assumption | rfl) rfl (Or.inl rfl) ?_
  refine go_al0 (p := 17) hf_76 rfl rfl ?_
  refine go_get (p := 20) hf_76 ho_76 rfl fl_6_78 rfl (by first | with_reducible assumption | rfl) rfl up_s ?_
  refine go_if_le (p := 23) (p2 := 25) hf_76 rfl rfl rfl (fun h20 => ?_) (fun h20 => absurd (by decide) h20)
  refine go_al0 (p := 26) hf_76 rfl rfl ?_
  refine go_getr (p := 29) hf_76 ho_76 rfl fl_6_53 rfl (by first | with_reducible assumption | rfl) rfl ?_
  refine go_il1 (p := 30) hf_76 rfl rfl ?_
  refine go_bald (p := 31) hf_76 rfl rfl (by first | with_reducible assumption | rfl) (by first | rfl | with_reducible assumption) (by first | exact rfl | with_reducible assumption) (by omega) (up_k (by omega)) ?_
  refine go_is2 (p := 32) hf_76 rfl rfl ?_
  refine go_al0 (p := 33) hf_76 rfl rfl ?_
  refine go_getr (p := 36) hf_76 ho_76 rfl fl_6_53 rfl (by first | with_reducible assumption | rfl) rfl ?_
  refine go_il1 (p := 37) hf_76 rfl rfl ?_
  refine go_iconst (p := 38) hf_76 rfl rfl ci_0 ?_
  refine go_bast (p := 39) hf_76 rfl rfl (by first | with_reducible assumption | rfl) (by first | rfl | with_reducible assumption) (by first | exact rfl | with_reducible assumption) (by omega) (by first | exact Or.inl rfl | exact Or.inr rfl | with_reducible assumption) ?_
  refine go_il2 (p := 40) hf_76 rfl rfl ?_
  refine go_ret2 hf_76 rfl nl_76 h55 ?_
  exact ⟨_, _, rfl, rfl, rfl, rfl⟩
theorem r_put {M : sm_M} {k : Nat} {n1 n2 : Nat} {g ow pw : Nat} {vv : Nat → Nat} {l : List Nat} (hk : k < 3) (hn1 : n1 < 4) (hn2 : n2 < 64) (ho : M 55 k = 1) (hR : dR M k g ow pw vv l) (hl12 : l.length ≤ 12) (hv9 : vv k ≤ 30) : cr 77 3 75 [.ref 40, .int (nI k), .int (nI n1), .int (nI n2)] M (fun v M1 => ∃ u, v = some (.int u) ∧ (((30 ≤ vv k ∨ 12 ≤ l.length - (fi n1 l).length) ∧ u = -2 ∧ M1 = (sm_up M 40 0 (nI 0))) ∨ (¬ (30 ≤ vv k ∨ 12 ≤ l.length - (fi n1 l).length) ∧ u = nI (vv k + 1) ∧ M1 40 0 = nI 0 ∧ re M1 k (insK (fun w => w / 64) (((n1 * 4 + k) * 32 + (vv k + 1)) * 64 + n2) (fo n1 l)) ∧ (∀ j, j < 3 → M1 49 (3 * k + j) = nI (if j = k then vv k + 1 else vv j)) ∧ ∀ p j, ¬ (p = 40 ∧ j = 0) → ¬ (p = 49 ∧ 3 * k ≤ j ∧ j < 3 * k + 3) → ¬ (p = 50 ∧ j = k) → ¬ (51 ≤ p ∧ p ≤ 54 ∧ 12 * k ≤ j ∧ j < 12 * k + 12) → M1 p j = M p j))) := by
  intro X J rc rs d lw hd hw
  show sm_wp tb_T X tb_ok d lw 77 0 [some (.ref 40), some (.int (nI k)), some (.int (nI n1)), some (.int (nI n2)), none, none, none] [] _ _
  have hvk : M 49 (4 * k) = nI (vv k) := by
    have := hR.2.2.2.1 k hk
    rw [show 3 * k + k = 4 * k by omega] at this
    exact this
  have hl := hR.2.2.2.2
  have hl5 : M 50 k = nI l.length := hl.1
  have hff := fo_fi (it := n1) l
  have hl0 := re_up (p := 40) (i := 0) (v := nI 0) hl (by omega)
  refine go_al0 (p := 1) hf_77 rfl rfl ?_
  refine go_il1 (p := 2) hf_77 rfl rfl ?_
  refine go_cw1 (p := 5) hf_77 rfl rfl (inv_s ho_77 cl_6_158) (by decide) nl_75 rfl rfl rfl rfl rfl rfl (by omega) (by omega) (c_isDevice) ?_
  intro v9 M9 h9
  rewrite [h9.1, h9.2]
  clear h9 v9 M9
  simp only [Option.toList, List.cons_append, List.nil_append]
  refine go_if_eq (p := 8) (p2 := 31) hf_77 rfl rfl rfl (fun h5 => absurd ((below_iff (by omega)).mpr ⟨k, hk, rfl⟩) (bI_0.mp h5)) (fun h5 => ?_)
  refine go_il2 (p := 9) hf_77 rfl rfl ?_
  refine go_if_lt (p := 12) (p2 := 31) hf_77 rfl rfl rfl (fun h9 => absurd h9 (nI_pos (by omega))) (fun h9 => ?_)
  refine go_il2 (p := 13) hf_77 rfl rfl ?_
  refine go_iconst (p := 14) hf_77 rfl rfl ci_4 ?_
  first | refine go_nn_ge (p := 17) (p2 := 31) hf_77 rfl rfl rfl (by omega) (by omega) (fun h14 => absurd h14 (by omega)) (fun h14 => ?_) | refine go_ic_ge (p := 17) (p2 := 31) hf_77 rfl rfl rfl (fun h14 => absurd h14 (by omega)) (fun h14 => ?_)
  refine go_il3 (p := 18) hf_77 rfl rfl ?_
  refine go_if_lt (p := 21) (p2 := 31) hf_77 rfl rfl rfl (fun h18 => absurd h18 (nI_pos (by omega))) (fun h18 => ?_)
  refine go_il3 (p := 22) hf_77 rfl rfl ?_
  refine go_bipush (p := 24) hf_77 rfl rfl cb_64 ?_
  first | refine go_nn_ge (p := 27) (p2 := 31) hf_77 rfl rfl rfl (by omega) (by omega) (fun h24 => absurd h24 (by omega)) (fun h24 => ?_) | refine go_ic_ge (p := 27) (p2 := 31) hf_77 rfl rfl rfl (fun h24 => absurd h24 (by omega)) (fun h24 => ?_)
  refine go_iconst (p := 28) hf_77 rfl rfl ci_1 ?_
  refine go_goto (p2 := 32) hf_77 rfl rfl ?_
  refine go_il1 (p := 33) hf_77 rfl rfl ?_
  refine go_cw3 (p := 36) hf_77 rfl rfl (inv_v ho_77 cl_6_161) (by decide) nl_78 rfl rfl (by first | rfl | exact rcv_of (by with_reducible assumption)) rfl rfl rfl (by omega) (by omega) (r_may0 hk nI_10 ho) ?_
  intro v9 M9 h9
  rewrite [h9.1, h9.2]
  clear h9 v9 M9
  simp only [Option.toList, List.cons_append, List.nil_append]
  refine go_if_ne (p := 39) (p2 := 41) hf_77 rfl rfl rfl (fun h36 => ?_) (fun h36 => absurd h36 nI_10)
  refine go_al0 (p := 42) hf_77 rfl rfl ?_
  refine go_getr (p := 45) hf_77 ho_77 rfl fl_6_35 rfl (by first | with_reducible assumption | rfl) rfl ?_
  refine go_iconst (p := 46) hf_77 rfl rfl ci_4 ?_
  refine go_il1 (p := 47) hf_77 rfl rfl ?_
  refine go_imul (p := 48) hf_77 rfl rfl (by first | exact muln _ _ | exact rfl) ?_
  refine go_iald (p := 49) hf_77 rfl rfl (by first | with_reducible assumption | rfl) (by first | rfl | with_reducible assumption) (by first | exact rfl | with_reducible assumption) (by omega) ((up_k (by omega)).trans hvk) ?_
  refine go_is4 (p := 51) hf_77 rfl rfl ?_
  refine go_al0 (p := 52) hf_77 rfl rfl ?_
  refine go_il1 (p := 53) hf_77 rfl rfl ?_
  refine go_il2 (p := 54) hf_77 rfl rfl ?_
  refine go_iconst (p := 55) hf_77 rfl rfl ci_0 ?_
  refine go_cw4 (p := 58) hf_77 rfl rfl (inv_v ho_77 cl_6_165) (by decide) nl_79 rfl rfl (by first | rfl | exact rcv_of (by with_reducible assumption)) rfl rfl rfl (by omega) (by omega) (r_count0 (by omega) hl0 hl12 hn1) ?_
  intro v9 M9 h9
  rewrite [h9.1, h9.2]
  clear h9 v9 M9
  simp only [Option.toList, List.cons_append, List.nil_append]
  refine go_is5 (p := 60) hf_77 rfl rfl ?_
  refine go_il4 (p := 62) hf_77 rfl rfl ?_
  refine go_bipush (p := 64) hf_77 rfl rfl cb_30 ?_
  first | refine go_nn_eq (p := 67) (p2 := 83) hf_77 rfl rfl rfl (by omega) (by omega) (fun h64 => ?_) (fun h64 => ?_) | refine go_ic_eq (p := 67) (p2 := 83) hf_77 rfl rfl rfl (fun h64 => ?_) (fun h64 => ?_)
  · refine go_bipush (p := 85) hf_77 rfl rfl cb_m2 ?_
    refine go_ret1 hf_77 rfl nl_77 ?_
    exact ⟨_, _, rfl, rfl, _, rfl, Or.inl ⟨Or.inl (by omega), rfl, rfl⟩⟩
  · refine go_al0 (p := 68) hf_77 rfl rfl ?_
    refine go_getr (p := 71) hf_77 ho_77 rfl fl_6_38 rfl (by first | with_reducible assumption | rfl) rfl ?_
    refine go_il1 (p := 72) hf_77 rfl rfl ?_
    refine go_iald (p := 73) hf_77 rfl rfl (by first | with_reducible assumption | rfl) (by first | rfl | with_reducible assumption) (by first | exact rfl | with_reducible assumption) (by omega) ((up_k (by omega)).trans hl5) ?_
    refine go_il5 (p := 75) hf_77 rfl rfl ?_
    refine go_isub (p := 76) hf_77 rfl rfl (subn (List.length_filter_le _ _)) ?_
    refine go_iconst (p := 77) hf_77 rfl rfl ci_1 ?_
    refine go_iadd (p := 78) hf_77 rfl rfl (by first | with_reducible exact nI_add _ _ | exact rfl) ?_
    refine go_bipush (p := 80) hf_77 rfl rfl cb_12 ?_
    first | refine go_nn_le (p := 83) (p2 := 86) hf_77 rfl rfl rfl (by omega) (by omega) (fun h80 => ?_) (fun h80 => ?_) | refine go_ic_le (p := 83) (p2 := 86) hf_77 rfl rfl rfl (fun h80 => ?_) (fun h80 => ?_)
    · refine go_al0 (p := 87) hf_77 rfl rfl ?_
      refine go_il1 (p := 88) hf_77 rfl rfl ?_
      refine go_il2 (p := 89) hf_77 rfl rfl ?_
      refine go_iconst (p := 90) hf_77 rfl rfl ci_1 ?_
      refine go_cw4 (p := 93) hf_77 rfl rfl (inv_v ho_77 cl_6_165) (by decide) nl_79 rfl rfl (by first | rfl | exact rcv_of (by with_reducible assumption)) rfl rfl rfl (by omega) (by omega) (r_count1 (by omega) hl0 hl12 hn1) ?_
      rintro v9 M2 ⟨rfl, e2, f2⟩
      simp only [Option.toList, List.cons_append, List.nil_append]
      refine go_is6 (p := 95) hf_77 rfl rfl ?_
      refine go_al0 (p := 96) hf_77 rfl rfl ?_
      refine go_getr (p := 99) hf_77 ho_77 rfl fl_6_35 rfl (by first | with_reducible assumption | rfl) rfl ?_
      refine go_iconst (p := 100) hf_77 rfl rfl ci_4 ?_
      refine go_il1 (p := 101) hf_77 rfl rfl ?_
      refine go_imul (p := 102) hf_77 rfl rfl (by first | exact muln _ _ | exact rfl) ?_
      refine go_dup2 (p := 103) hf_77 rfl rfl ?_
      refine go_iald (p := 104) hf_77 rfl rfl (by first | with_reducible assumption | rfl) (by first | rfl | with_reducible assumption) (by first | exact rfl | with_reducible assumption) (by omega) ((f2 _ _ (by omega) (by omega)).trans ((up_k (by omega)).trans hvk)) ?_
      refine go_iconst (p := 105) hf_77 rfl rfl ci_1 ?_
      refine go_iadd (p := 106) hf_77 rfl rfl (by first | with_reducible exact nI_add _ _ | exact rfl) ?_
      refine go_iast (p := 107) hf_77 rfl rfl (by first | with_reducible assumption | rfl) (by first | rfl | with_reducible assumption) (by first | exact rfl | with_reducible assumption) (by omega) ?_
      refine go_al0 (p := 108) hf_77 rfl rfl ?_
      refine go_bipush (p := 110) hf_77 rfl rfl cb_12 ?_
      refine go_il1 (p := 111) hf_77 rfl rfl ?_
      refine go_imul (p := 112) hf_77 rfl rfl (by first | exact muln _ _ | exact rfl) ?_
      refine go_al0 (p := 113) hf_77 rfl rfl ?_
      refine go_getr (p := 116) hf_77 ho_77 rfl fl_6_38 rfl (by first | with_reducible assumption | rfl) rfl ?_
      refine go_il1 (p := 117) hf_77 rfl rfl ?_
      refine go_iald (p := 118) hf_77 rfl rfl (by first | with_reducible assumption | rfl) (by first | rfl | with_reducible assumption) (by first | exact rfl | with_reducible assumption) (by omega) ((up_k (by omega)).trans e2.1) ?_
      refine go_iadd (p := 119) hf_77 rfl rfl (by first | with_reducible exact nI_add _ _ | exact rfl) ?_
      refine go_il2 (p := 120) hf_77 rfl rfl ?_
      refine go_il3 (p := 121) hf_77 rfl rfl ?_
      refine go_il1 (p := 122) hf_77 rfl rfl ?_
      refine go_il4 (p := 124) hf_77 rfl rfl ?_
      refine go_iconst (p := 125) hf_77 rfl rfl ci_1 ?_
      refine go_iadd (p := 126) hf_77 rfl rfl (by first | with_reducible exact nI_add _ _ | exact rfl) ?_
      refine go_cw6 (p := 129) hf_77 rfl rfl (inv_v ho_77 cl_6_99) (by decide) nl_81 rfl rfl (by first | rfl | exact rcv_of (by with_reducible assumption)) rfl rfl rfl (by omega) (by omega) (c_set (i := 12 * k + (fo n1 l).length) (by omega)) ?_
      rintro v9 M3 ⟨rfl, e3⟩
      have wz1 : (((n1 * 4 + k) * 32 + (vv k + 1)) * 64 + n2) / 8192 = n1 := by omega
      have wz2 : (((n1 * 4 + k) * 32 + (vv k + 1)) * 64 + n2) % 64 = n2 := by omega
      have wz3 : (((n1 * 4 + k) * 32 + (vv k + 1)) * 64 + n2) / 2048 % 4 = k := by omega
      have wz4 : (((n1 * 4 + k) * 32 + (vv k + 1)) * 64 + n2) / 64 % 32 = vv k + 1 := by omega
      have hqw : qd M3 (12 * k + (fo n1 l).length) (((n1 * 4 + k) * 32 + (vv k + 1)) * 64 + n2) := by
        unfold qd
        rw [wz1, wz2, wz3, wz4, e3]
        exact st4_51
      have f3 : ∀ p j, j ≠ 12 * k + (fo n1 l).length ∨ p < 51 ∨ 54 < p → M3 p j = sm_up M2 49 (4 * k) (nI (vv k + 1)) p j := fun p j h => by
        rw [e3]
        exact st4_o h
      have l3 : re M3 k (fo n1 l) := by
        refine ⟨?_, qrow_congr e2.2 (fun p j h1 h2 h3 => ?_)⟩
        · rw [f3 _ _ (by omega), up_k (by omega)]; exact e2.1
        · rw [f3 _ _ (by omega), up_k (by omega)]
      clear e3
      simp only [Option.toList, List.cons_append, List.nil_append]
      refine go_al0 (p := 130) hf_77 rfl rfl ?_
      refine go_il1 (p := 131) hf_77 rfl rfl ?_
      refine go_cw2 (p := 134) hf_77 rfl rfl (inv_v ho_77 cl_6_118) (by decide) nl_82 rfl rfl (by first | rfl | exact rcv_of (by with_reducible assumption)) rfl rfl rfl (by omega) (by omega) (r_sink (by omega) (by omega) l3 hqw (by omega)) ?_
      rintro v9 M4 ⟨rfl, e4, f4⟩
      simp only [Option.toList, List.cons_append, List.nil_append]
      refine go_il4 (p := 136) hf_77 rfl rfl ?_
      refine go_iconst (p := 137) hf_77 rfl rfl ci_1 ?_
      refine go_iadd (p := 138) hf_77 rfl rfl (by first | with_reducible exact nI_add _ _ | exact rfl) ?_
      refine go_ret1 hf_77 rfl nl_77 ?_
      refine ⟨_, _, rfl, rfl, _, rfl, Or.inr ⟨by omega, rfl, ?_, e4, fun j hj => ?_, fun p j h1 h2 h3 h4 => ?_⟩⟩
      · rw [f4 _ _ (by omega) (by omega), f3 _ _ (by omega), up_k (by omega), f2 _ _ (by omega) (by omega), up_s]
      · rw [f4 _ _ (by omega) (by omega), f3 _ _ (by omega)]
        by_cases e : j = k
        · subst e
          rw [show 3 * j + j = 4 * j by omega, up_s, if_pos rfl]
        · rw [up_i (by omega), if_neg e, f2 _ _ (by omega) (by omega), up_k (by omega)]
          exact hR.2.2.2.1 j hj
      · rw [f4 _ _ h3 (by omega), f3 _ _ (by omega), up_o (by omega), f2 _ _ h3 (by omega), up_o (by omega)]
    · refine go_bipush (p := 85) hf_77 rfl rfl cb_m2 ?_
      refine go_ret1 hf_77 rfl nl_77 ?_
      exact ⟨_, _, rfl, rfl, _, rfl, Or.inl ⟨Or.inr (by omega), rfl, rfl⟩⟩
theorem r_erase {M : sm_M} {k : Nat} {n1 : Nat} {g ow pw : Nat} {vv : Nat → Nat} {l : List Nat} (hk : k < 3) (hn1 : n1 < 4) (ho : M 55 k = 1) (hR : dR M k g ow pw vv l) (hl12 : l.length ≤ 12) (hv9 : vv k ≤ 30) : cr 84 3 75 [.ref 40, .int (nI k), .int (nI n1)] M (fun v M1 => ∃ u, v = some (.int u) ∧ ((30 ≤ vv k ∧ u = -2 ∧ M1 = (sm_up M 40 0 (nI 0))) ∨ (¬ 30 ≤ vv k ∧ (fi n1 l).length = 0 ∧ u = -1 ∧ M1 = (sm_up M 40 0 (nI 0))) ∨ (¬ 30 ≤ vv k ∧ ¬ (fi n1 l).length = 0 ∧ u = nI (fi n1 l).length ∧ M1 40 0 = nI 0 ∧ re M1 k (fo n1 l) ∧ (∀ j, j < 3 → M1 49 (3 * k + j) = nI (if j = k then vv k + 1 else vv j)) ∧ ∀ p j, ¬ (p = 40 ∧ j = 0) → ¬ (p = 49 ∧ 3 * k ≤ j ∧ j < 3 * k + 3) → ¬ (p = 50 ∧ j = k) → ¬ (51 ≤ p ∧ p ≤ 54 ∧ 12 * k ≤ j ∧ j < 12 * k + 12) → M1 p j = M p j))) := by
  intro X J rc rs d lw hd hw
  show sm_wp tb_T X tb_ok d lw 84 0 [some (.ref 40), some (.int (nI k)), some (.int (nI n1)), none] [] _ _
  have hvk : M 49 (4 * k) = nI (vv k) := by
    have := hR.2.2.2.1 k hk
    rw [show 3 * k + k = 4 * k by omega] at this
    exact this
  have hl := hR.2.2.2.2
  have hl5 : M 50 k = nI l.length := hl.1
  have hff := fo_fi (it := n1) l
  have hl0 := re_up (p := 40) (i := 0) (v := nI 0) hl (by omega)
  refine go_al0 (p := 1) hf_84 rfl rfl ?_
  refine go_il1 (p := 2) hf_84 rfl rfl ?_
  refine go_cw1 (p := 5) hf_84 rfl rfl (inv_s ho_84 cl_6_158) (by decide) nl_75 rfl rfl rfl rfl rfl rfl (by omega) (by omega) (c_isDevice) ?_
  intro v9 M9 h9
  rewrite [h9.1, h9.2]
  clear h9 v9 M9
  simp only [Option.toList, List.cons_append, List.nil_append]
  refine go_if_eq (p := 8) (p2 := 21) hf_84 rfl rfl rfl (fun h5 => absurd ((below_iff (by omega)).mpr ⟨k, hk, rfl⟩) (bI_0.mp h5)) (fun h5 => ?_)
  refine go_il2 (p := 9) hf_84 rfl rfl ?_
  refine go_if_lt (p := 12) (p2 := 21) hf_84 rfl rfl rfl (fun h9 => absurd h9 (nI_pos (by omega))) (fun h9 => ?_)
  refine go_il2 (p := 13) hf_84 rfl rfl ?_
  refine go_iconst (p := 14) hf_84 rfl rfl ci_4 ?_
  first | refine go_nn_ge (p := 17) (p2 := 21) hf_84 rfl rfl rfl (by omega) (by omega) (fun h14 => absurd h14 (by omega)) (fun h14 => ?_) | refine go_ic_ge (p := 17) (p2 := 21) hf_84 rfl rfl rfl (fun h14 => absurd h14 (by omega)) (fun h14 => ?_)
  refine go_iconst (p := 18) hf_84 rfl rfl ci_1 ?_
  refine go_goto (p2 := 22) hf_84 rfl rfl ?_
  refine go_il1 (p := 23) hf_84 rfl rfl ?_
  refine go_cw3 (p := 26) hf_84 rfl rfl (inv_v ho_84 cl_6_161) (by decide) nl_78 rfl rfl (by first | rfl | exact rcv_of (by with_reducible assumption)) rfl rfl rfl (by omega) (by omega) (r_may0 hk nI_10 ho) ?_
  intro v9 M9 h9
  rewrite [h9.1, h9.2]
  clear h9 v9 M9
  simp only [Option.toList, List.cons_append, List.nil_append]
  refine go_if_ne (p := 29) (p2 := 31) hf_84 rfl rfl rfl (fun h26 => ?_) (fun h26 => absurd h26 nI_10)
  refine go_al0 (p := 32) hf_84 rfl rfl ?_
  refine go_getr (p := 35) hf_84 ho_84 rfl fl_6_35 rfl (by first | with_reducible assumption | rfl) rfl ?_
  refine go_iconst (p := 36) hf_84 rfl rfl ci_4 ?_
  refine go_il1 (p := 37) hf_84 rfl rfl ?_
  refine go_imul (p := 38) hf_84 rfl rfl (by first | exact muln _ _ | exact rfl) ?_
  refine go_iald (p := 39) hf_84 rfl rfl (by first | with_reducible assumption | rfl) (by first | rfl | with_reducible assumption) (by first | exact rfl | with_reducible assumption) (by omega) ((up_k (by omega)).trans hvk) ?_
  refine go_bipush (p := 41) hf_84 rfl rfl cb_30 ?_
  first | refine go_nn_ne (p := 44) (p2 := 47) hf_84 rfl rfl rfl (by omega) (by omega) (fun h41 => ?_) (fun h41 => ?_) | refine go_ic_ne (p := 44) (p2 := 47) hf_84 rfl rfl rfl (fun h41 => ?_) (fun h41 => ?_)
  · refine go_al0 (p := 48) hf_84 rfl rfl ?_
    refine go_il1 (p := 49) hf_84 rfl rfl ?_
    refine go_il2 (p := 50) hf_84 rfl rfl ?_
    refine go_iconst (p := 51) hf_84 rfl rfl ci_0 ?_
    refine go_cw4 (p := 54) hf_84 rfl rfl (inv_v ho_84 cl_6_165) (by decide) nl_79 rfl rfl (by first | rfl | exact rcv_of (by with_reducible assumption)) rfl rfl rfl (by omega) (by omega) (r_count0 (by omega) hl0 hl12 hn1) ?_
    intro v9 M9 h9
    rewrite [h9.1, h9.2]
    clear h9 v9 M9
    simp only [Option.toList, List.cons_append, List.nil_append]
    refine go_is3 (p := 55) hf_84 rfl rfl ?_
    refine go_il3 (p := 56) hf_84 rfl rfl ?_
    refine go_if_ne (p := 59) (p2 := 61) hf_84 rfl rfl rfl (fun h56 => ?_) (fun h56 => ?_)
    · refine go_al0 (p := 62) hf_84 rfl rfl ?_
      refine go_getr (p := 65) hf_84 ho_84 rfl fl_6_35 rfl (by first | with_reducible assumption | rfl) rfl ?_
      refine go_iconst (p := 66) hf_84 rfl rfl ci_4 ?_
      refine go_il1 (p := 67) hf_84 rfl rfl ?_
      refine go_imul (p := 68) hf_84 rfl rfl (by first | exact muln _ _ | exact rfl) ?_
      refine go_dup2 (p := 69) hf_84 rfl rfl ?_
      refine go_iald (p := 70) hf_84 rfl rfl (by first | with_reducible assumption | rfl) (by first | rfl | with_reducible assumption) (by first | exact rfl | with_reducible assumption) (by omega) ((up_k (by omega)).trans hvk) ?_
      refine go_iconst (p := 71) hf_84 rfl rfl ci_1 ?_
      refine go_iadd (p := 72) hf_84 rfl rfl (by first | with_reducible exact nI_add _ _ | exact rfl) ?_
      refine go_iast (p := 73) hf_84 rfl rfl (by first | with_reducible assumption | rfl) (by first | rfl | with_reducible assumption) (by first | exact rfl | with_reducible assumption) (by omega) ?_
      refine go_al0 (p := 74) hf_84 rfl rfl ?_
      refine go_il1 (p := 75) hf_84 rfl rfl ?_
      refine go_il2 (p := 76) hf_84 rfl rfl ?_
      refine go_iconst (p := 77) hf_84 rfl rfl ci_1 ?_
      refine go_cw4 (p := 80) hf_84 rfl rfl (inv_v ho_84 cl_6_165) (by decide) nl_79 rfl rfl (by first | rfl | exact rcv_of (by with_reducible assumption)) rfl rfl rfl (by omega) (by omega) (r_count1 (by omega) (re_up (p := 49) (i := 4 * k) (v := nI (vv k + 1)) hl0 (by omega)) hl12 hn1) ?_
      rintro v9 M2 ⟨rfl, e2, f2⟩
      simp only [Option.toList, List.cons_append, List.nil_append]
      refine go_ret1 hf_84 rfl nl_84 ?_
      have e0 : ¬ (fi n1 l).length = 0 := fun e => h56 (by rw [e]; rfl)
      refine ⟨_, _, rfl, rfl, _, rfl, Or.inr (Or.inr ⟨by omega, e0, rfl, ?_, e2, fun j hj => ?_, fun p j h1 h2 h3 h4 => ?_⟩)⟩
      · rw [f2 _ _ (by omega) (by omega), up_k (by omega), up_s]
      · rw [f2 _ _ (by omega) (by omega)]
        by_cases e : j = k
        · subst e
          rw [show 3 * j + j = 4 * j by omega, up_s, if_pos rfl]
        · rw [up_i (by omega), if_neg e, up_k (by omega)]
          exact hR.2.2.2.1 j hj
      · rw [f2 _ _ h3 h4, up_o (by omega), up_o (by omega)]
    · refine go_iconst (p := 60) hf_84 rfl rfl ci_m1 ?_
      refine go_ret1 hf_84 rfl nl_84 ?_
      have e0 : (fi n1 l).length = 0 := (nI_eq (b := 0) (by omega) (by omega)).mp h56
      exact ⟨_, _, rfl, rfl, _, rfl, Or.inr (Or.inl ⟨by omega, e0, rfl, rfl⟩)⟩
  · refine go_bipush (p := 46) hf_84 rfl rfl cb_m2 ?_
    refine go_ret1 hf_84 rfl nl_84 ?_
    exact ⟨_, _, rfl, rfl, _, rfl, Or.inl ⟨by omega, rfl, rfl⟩⟩
theorem r_change {M : sm_M} {k : Nat} {n1 : Nat} {g ow pw : Nat} {vv : Nat → Nat} {l : List Nat} (hk : k < 3) (hn1 : n1 < 8) (ho : M 55 k = 1) (hR : dR M k g ow pw vv l) (hg9 : g ≤ 30) : cr 86 1 22 [.ref 40, .int (nI k), .int (nI n1)] M (fun v M1 => ∃ u, v = some (.int u) ∧ ((30 ≤ g ∧ u = -2 ∧ M1 = (sm_up M 40 0 (nI 0))) ∨ (¬ 30 ≤ g ∧ u = nI (g + 1) ∧ M1 = sm_up (sm_up (sm_up (sm_up M 40 0 (nI 0)) 46 k (nI (g + 1))) 47 k (nI k)) 48 k (nI n1)))) := by
  intro X J rc rs d lw hd hw
  show sm_wp tb_T X tb_ok d lw 86 0 [some (.ref 40), some (.int (nI k)), some (.int (nI n1))] [] _ _
  have hg := hR.1
  refine go_al0 (p := 1) hf_86 rfl rfl ?_
  refine go_il1 (p := 2) hf_86 rfl rfl ?_
  refine go_cw1 (p := 5) hf_86 rfl rfl (inv_s ho_86 cl_6_158) (by decide) nl_75 rfl rfl rfl rfl rfl rfl (by omega) (by omega) (c_isDevice) ?_
  intro v9 M9 h9
  rewrite [h9.1, h9.2]
  clear h9 v9 M9
  simp only [Option.toList, List.cons_append, List.nil_append]
  refine go_if_eq (p := 8) (p2 := 22) hf_86 rfl rfl rfl (fun h5 => absurd ((below_iff (by omega)).mpr ⟨k, hk, rfl⟩) (bI_0.mp h5)) (fun h5 => ?_)
  refine go_il2 (p := 9) hf_86 rfl rfl ?_
  refine go_if_lt (p := 12) (p2 := 22) hf_86 rfl rfl rfl (fun h9 => absurd h9 (nI_pos (by omega))) (fun h9 => ?_)
  refine go_il2 (p := 13) hf_86 rfl rfl ?_
  refine go_bipush (p := 15) hf_86 rfl rfl cb_7 ?_
  first | refine go_nn_gt (p := 18) (p2 := 22) hf_86 rfl rfl rfl (by omega) (by omega) (fun h15 => absurd h15 (by omega)) (fun h15 => ?_) | refine go_ic_gt (p := 18) (p2 := 22) hf_86 rfl rfl rfl (fun h15 => absurd h15 (by omega)) (fun h15 => ?_)
  refine go_iconst (p := 19) hf_86 rfl rfl ci_1 ?_
  refine go_goto (p2 := 23) hf_86 rfl rfl ?_
  refine go_il1 (p := 24) hf_86 rfl rfl ?_
  refine go_cw3 (p := 27) hf_86 rfl rfl (inv_v ho_86 cl_6_161) (by decide) nl_78 rfl rfl (by first | rfl | exact rcv_of (by with_reducible assumption)) rfl rfl rfl (by omega) (by omega) (r_may0 hk nI_10 ho) ?_
  intro v9 M9 h9
  rewrite [h9.1, h9.2]
  clear h9 v9 M9
  simp only [Option.toList, List.cons_append, List.nil_append]
  refine go_if_ne (p := 30) (p2 := 32) hf_86 rfl rfl rfl (fun h27 => ?_) (fun h27 => absurd h27 nI_10)
  refine go_al0 (p := 33) hf_86 rfl rfl ?_
  refine go_getr (p := 36) hf_86 ho_86 rfl fl_6_26 rfl (by first | with_reducible assumption | rfl) rfl ?_
  refine go_il1 (p := 37) hf_86 rfl rfl ?_
  refine go_iald (p := 38) hf_86 rfl rfl (by first | with_reducible assumption | rfl) (by first | rfl | with_reducible assumption) (by first | exact rfl | with_reducible assumption) (by omega) ((up_k (by omega)).trans hg) ?_
  refine go_bipush (p := 40) hf_86 rfl rfl cb_30 ?_
  first | refine go_nn_ne (p := 43) (p2 := 46) hf_86 rfl rfl rfl (by omega) (by omega) (fun h40 => ?_) (fun h40 => ?_) | refine go_ic_ne (p := 43) (p2 := 46) hf_86 rfl rfl rfl (fun h40 => ?_) (fun h40 => ?_)
  · refine go_al0 (p := 47) hf_86 rfl rfl ?_
    refine go_getr (p := 50) hf_86 ho_86 rfl fl_6_26 rfl (by first | with_reducible assumption | rfl) rfl ?_
    refine go_il1 (p := 51) hf_86 rfl rfl ?_
    refine go_dup2 (p := 52) hf_86 rfl rfl ?_
    refine go_iald (p := 53) hf_86 rfl rfl (by first | with_reducible assumption | rfl) (by first | rfl | with_reducible assumption) (by first | exact rfl | with_reducible assumption) (by omega) ((up_k (by omega)).trans hg) ?_
    refine go_iconst (p := 54) hf_86 rfl rfl ci_1 ?_
    refine go_iadd (p := 55) hf_86 rfl rfl (by first | with_reducible exact nI_add _ _ | exact rfl) ?_
    refine go_iast (p := 56) hf_86 rfl rfl (by first | with_reducible assumption | rfl) (by first | rfl | with_reducible assumption) (by first | exact rfl | with_reducible assumption) (by omega) ?_
    refine go_al0 (p := 57) hf_86 rfl rfl ?_
    refine go_getr (p := 60) hf_86 ho_86 rfl fl_6_29 rfl (by first | with_reducible assumption | rfl) rfl ?_
    refine go_il1 (p := 61) hf_86 rfl rfl ?_
    refine go_il1 (p := 62) hf_86 rfl rfl ?_
    refine go_iast (p := 63) hf_86 rfl rfl (by first | with_reducible assumption | rfl) (by first | rfl | with_reducible assumption) (by first | exact rfl | with_reducible assumption) (by omega) ?_
    refine go_al0 (p := 64) hf_86 rfl rfl ?_
    refine go_getr (p := 67) hf_86 ho_86 rfl fl_6_32 rfl (by first | with_reducible assumption | rfl) rfl ?_
    refine go_il1 (p := 68) hf_86 rfl rfl ?_
    refine go_il2 (p := 69) hf_86 rfl rfl ?_
    refine go_iast (p := 70) hf_86 rfl rfl (by first | with_reducible assumption | rfl) (by first | rfl | with_reducible assumption) (by first | exact rfl | with_reducible assumption) (by omega) ?_
    refine go_al0 (p := 71) hf_86 rfl rfl ?_
    refine go_getr (p := 74) hf_86 ho_86 rfl fl_6_26 rfl (by first | with_reducible assumption | rfl) rfl ?_
    refine go_il1 (p := 75) hf_86 rfl rfl ?_
    refine go_iald (p := 76) hf_86 rfl rfl (by first | with_reducible assumption | rfl) (by first | rfl | with_reducible assumption) (by first | exact rfl | with_reducible assumption) (by omega) ((up_k (by omega)).trans ((up_k (by omega)).trans up_s)) ?_
    refine go_ret1 hf_86 rfl nl_86 ?_
    exact ⟨_, _, rfl, rfl, _, rfl, Or.inr ⟨by omega, rfl, rfl⟩⟩
  · refine go_bipush (p := 45) hf_86 rfl rfl cb_m2 ?_
    refine go_ret1 hf_86 rfl nl_86 ?_
    exact ⟨_, _, rfl, rfl, _, rfl, Or.inl ⟨by omega, rfl, rfl⟩⟩
theorem fi_pref {it : Nat} : ∀ (l : List Nat), srt l → (∀ x ∈ l, it ≤ x / 8192) → ∀ j, j < (fi it l).length → l[j]? = (fi it l)[j]? := by
  intro l
  induction l with
  | nil => intro _ _ j hj; simp [fi] at hj
  | cons x l ih =>
    intro hs hi j hj
    obtain ⟨h1, h2⟩ := List.pairwise_cons.mp hs
    have hi2 : ∀ y ∈ l, it ≤ y / 8192 := fun y hy => hi y (List.mem_cons_of_mem _ hy)
    by_cases hx : x / 8192 = it
    · have e : fi it (x :: l) = x :: fi it l := by unfold fi; rw [List.filter_cons_of_pos (by simp [hx])]
      rw [e] at hj ⊢
      cases j with
      | zero => rfl
      | succ j =>
        rw [List.getElem?_cons_succ, List.getElem?_cons_succ]
        exact ih h2 hi2 j (by simpa using hj)
    · exfalso
      have hgt := hi x List.mem_cons_self
      have e : fi it (x :: l) = [] := by
        unfold fi
        rw [List.filter_eq_nil_iff]
        intro y hy
        rcases List.mem_cons.mp hy with rfl | hy
        · simp [hx]
        · have := h1 y hy
          simp
          omega
      rw [e] at hj
      exact absurd hj (Nat.not_lt_zero j)
theorem fi_at {it : Nat} : ∀ (l : List Nat), srt l → 0 < (fi it l).length → ∃ s, (∀ (i : Nat) (x : Nat), i < s → l[i]? = some x → x / 8192 < it) ∧ (∃ x, l[s]? = some x ∧ it ≤ x / 8192) ∧ ∀ j, j < (fi it l).length → l[s + j]? = (fi it l)[j]? := by
  intro l
  induction l with
  | nil => intro _ h; simp [fi] at h
  | cons x l ih =>
    intro hs hf
    obtain ⟨h1, h2⟩ := List.pairwise_cons.mp hs
    by_cases hx : x / 8192 < it
    · have e : fi it (x :: l) = fi it l := by unfold fi; rw [List.filter_cons_of_neg (by simp; omega)]
      rw [e] at hf ⊢
      obtain ⟨s, g1, g2, g3⟩ := ih h2 hf
      refine ⟨s + 1, fun i y hi hy => ?_, g2, fun j hj => ?_⟩
      · cases i with
        | zero =>
          rw [List.getElem?_cons_zero] at hy
          cases hy
          exact hx
        | succ i => exact g1 i y (by omega) hy
      · rw [show s + 1 + j = (s + j) + 1 by omega, List.getElem?_cons_succ]
        exact g3 j hj
    · refine ⟨0, fun i y hi _ => absurd hi (Nat.not_lt_zero i), ⟨x, rfl, by omega⟩, fun j hj => ?_⟩
      rw [Nat.zero_add]
      refine fi_pref (x :: l) hs (fun y hy => ?_) j hj
      rcases List.mem_cons.mp hy with rfl | hy
      · omega
      · have := h1 y hy; omega
theorem r_get {M : sm_M} {k : Nat} {n1 : Nat} {a2 : Int32} {g ow pw : Nat} {vv : Nat → Nat} {l : List Nat} (hk : k < 3) (hn1 : n1 < 4) (ho : M 55 k = 1) (hR : dR M k g ow pw vv l) (hl12 : l.length ≤ 12) (hsr : srt l) : cr 85 3 75 [.ref 40, .int (nI k), .int (nI n1), .int a2] M (fun v M1 => M1 = (sm_up M 40 0 (nI 0)) ∧ ∃ u, v = some (.int u) ∧ ((a2 = -1 ∧ u = nI (fi n1 l).length) ∨ (¬ a2 = -1 ∧ ((∃ j w, a2 = nI j ∧ (fi n1 l)[j]? = some w ∧ u = nI (w % 64)) ∨ ((∀ j, j < (fi n1 l).length → ¬ a2 = nI j) ∧ u = -1))))) := by
  intro X J rc rs d lw hd hw
  show sm_wp tb_T X tb_ok d lw 85 0 [some (.ref 40), some (.int (nI k)), some (.int (nI n1)), some (.int a2), none, none] [] _ _
  have hl := hR.2.2.2.2
  have hl0 := re_up (p := 40) (i := 0) (v := nI 0) hl (by omega)
  refine go_al0 (p := 1) hf_85 rfl rfl ?_
  refine go_il1 (p := 2) hf_85 rfl rfl ?_
  refine go_cw1 (p := 5) hf_85 rfl rfl (inv_s ho_85 cl_6_158) (by decide) nl_75 rfl rfl rfl rfl rfl rfl (by omega) (by omega) (c_isDevice) ?_
  intro v9 M9 h9
  rewrite [h9.1, h9.2]
  clear h9 v9 M9
  simp only [Option.toList, List.cons_append, List.nil_append]
  refine go_if_eq (p := 8) (p2 := 21) hf_85 rfl rfl rfl (fun h5 => absurd ((below_iff (by omega)).mpr ⟨k, hk, rfl⟩) (bI_0.mp h5)) (fun h5 => ?_)
  refine go_il2 (p := 9) hf_85 rfl rfl ?_
  refine go_if_lt (p := 12) (p2 := 21) hf_85 rfl rfl rfl (fun h9 => absurd h9 (nI_pos (by omega))) (fun h9 => ?_)
  refine go_il2 (p := 13) hf_85 rfl rfl ?_
  refine go_iconst (p := 14) hf_85 rfl rfl ci_4 ?_
  first | refine go_nn_ge (p := 17) (p2 := 21) hf_85 rfl rfl rfl (by omega) (by omega) (fun h14 => absurd h14 (by omega)) (fun h14 => ?_) | refine go_ic_ge (p := 17) (p2 := 21) hf_85 rfl rfl rfl (fun h14 => absurd h14 (by omega)) (fun h14 => ?_)
  refine go_iconst (p := 18) hf_85 rfl rfl ci_1 ?_
  refine go_goto (p2 := 22) hf_85 rfl rfl ?_
  refine go_il1 (p := 23) hf_85 rfl rfl ?_
  refine go_cw3 (p := 26) hf_85 rfl rfl (inv_v ho_85 cl_6_161) (by decide) nl_78 rfl rfl (by first | rfl | exact rcv_of (by with_reducible assumption)) rfl rfl rfl (by omega) (by omega) (r_may0 hk nI_10 ho) ?_
  intro v9 M9 h9
  rewrite [h9.1, h9.2]
  clear h9 v9 M9
  simp only [Option.toList, List.cons_append, List.nil_append]
  refine go_if_ne (p := 29) (p2 := 31) hf_85 rfl rfl rfl (fun h26 => ?_) (fun h26 => absurd h26 nI_10)
  refine go_al0 (p := 32) hf_85 rfl rfl ?_
  refine go_il1 (p := 33) hf_85 rfl rfl ?_
  refine go_il2 (p := 34) hf_85 rfl rfl ?_
  refine go_iconst (p := 35) hf_85 rfl rfl ci_0 ?_
  refine go_cw4 (p := 38) hf_85 rfl rfl (inv_v ho_85 cl_6_165) (by decide) nl_79 rfl rfl (by first | rfl | exact rcv_of (by with_reducible assumption)) rfl rfl rfl (by omega) (by omega) (r_count0 (by omega) hl0 hl12 hn1) ?_
  intro v9 M9 h9
  rewrite [h9.1, h9.2]
  clear h9 v9 M9
  simp only [Option.toList, List.cons_append, List.nil_append]
  refine go_is4 (p := 40) hf_85 rfl rfl ?_
  refine go_il3 (p := 41) hf_85 rfl rfl ?_
  refine go_iconst (p := 42) hf_85 rfl rfl ci_m1 ?_
  refine go_ic_ne (p := 45) (p2 := 48) hf_85 rfl rfl rfl (fun h42 => ?_) (fun h42 => ?_)
  · refine go_il3 (p := 49) hf_85 rfl rfl ?_
    refine go_if_lt (p := 52) (p2 := 58) hf_85 rfl rfl rfl (fun h49 => ?_) (fun h49 => ?_)
    · refine go_iconst (p := 59) hf_85 rfl rfl ci_m1 ?_
      refine go_ret1 hf_85 rfl nl_85 ?_
      have hfl : (fi n1 l).length ≤ l.length := List.length_filter_le _ _
      exact ⟨_, _, rfl, rfl, rfl, _, rfl, Or.inr ⟨h42, Or.inr ⟨fun j hj e => absurd h49 (by rw [e]; exact nI_pos (by omega)), rfl⟩⟩⟩
    · refine go_il3 (p := 53) hf_85 rfl rfl ?_
      refine go_il4 (p := 55) hf_85 rfl rfl ?_
      refine go_ic_lt (p := 58) (p2 := 60) hf_85 rfl rfl rfl (fun h55 => ?_) (fun h55 => ?_)
      · have hfl : (fi n1 l).length ≤ l.length := List.length_filter_le _ _
        obtain ⟨j0, hj, rfl⟩ := nI_of0 h49 h55 (by omega)
        obtain ⟨w, hw9⟩ := l_at hj
        obtain ⟨s, g1, ⟨x, g2, g2b⟩, g3⟩ := fi_at (it := n1) l hsr (by omega)
        have gl := l_lt g2
        have gj : l[s + j0]? = some w := by rw [g3 j0 hj]; exact hw9
        have gjl := l_lt gj
        have loop : ∀ (n i : Nat), i + n = s → sm_wp tb_T X tb_ok d lw 85 66 [some (.ref 40), some (.int (nI k)), some (.int (nI n1)), some (.int (nI j0)), some (.int (nI (fi n1 l).length)), some (.int (nI (12 * k + i)))] [] (wSH, (sm_up M 40 0 (nI 0)), J, rc, rs) (fun o h' => ∃ v M1, o = .inl v ∧ h' = (wSH, M1, J, rc, rs) ∧ M1 = (sm_up M 40 0 (nI 0)) ∧ ∃ u, v = some (.int u) ∧ ((nI j0 = -1 ∧ u = nI (fi n1 l).length) ∨ (¬ nI j0 = -1 ∧ ((∃ j w, nI j0 = nI j ∧ (fi n1 l)[j]? = some w ∧ u = nI (w % 64)) ∨ ((∀ j, j < (fi n1 l).length → ¬ nI j0 = nI j) ∧ u = -1))))) := by
          intro n
          induction n with
          | zero =>
            intro i hin
            have ei : i = s := by omega
            subst ei
            have ex := (hl.2 _ x g2).1.1
            have hx9 := (hl.2 _ x g2).2
            have ew : M 52 (12 * k + i + j0) = nI (w % 64) := by
              rw [show 12 * k + i + j0 = 12 * k + (i + j0) by omega]
              exact (hl.2 _ w gj).1.2.1
            refine go_al0 (p := 67) hf_85 rfl rfl ?_
            refine go_getr (p := 70) hf_85 ho_85 rfl fl_6_41 rfl (by first | with_reducible assumption | rfl) rfl ?_
            refine go_il5 (p := 72) hf_85 rfl rfl ?_
            refine go_iald (p := 73) hf_85 rfl rfl (by first | with_reducible assumption | rfl) (by first | rfl | with_reducible assumption) (by first | exact rfl | with_reducible assumption) (by omega) ((up_k (by omega)).trans ex) ?_
            refine go_il2 (p := 74) hf_85 rfl rfl ?_
            first | refine go_nn_ge (p := 77) (p2 := 83) hf_85 rfl rfl rfl (by omega) (by omega) (fun h74 => ?_) (fun h74 => absurd g2b h74) | refine go_ic_ge (p := 77) (p2 := 83) hf_85 rfl rfl rfl (fun h74 => ?_) (fun h74 => absurd g2b h74)
            refine go_al0 (p := 84) hf_85 rfl rfl ?_
            refine go_getr (p := 87) hf_85 ho_85 rfl fl_6_44 rfl (by first | with_reducible assumption | rfl) rfl ?_
            refine go_il5 (p := 89) hf_85 rfl rfl ?_
            refine go_il3 (p := 90) hf_85 rfl rfl ?_
            refine go_iadd (p := 91) hf_85 rfl rfl (by first | with_reducible exact nI_add _ _ | exact rfl) ?_
            refine go_iald (p := 92) hf_85 rfl rfl (by first | with_reducible assumption | rfl) (by first | rfl | with_reducible assumption) (by first | exact rfl | with_reducible assumption) (by omega) ((up_k (by omega)).trans ew) ?_
            refine go_ret1 hf_85 rfl nl_85 ?_
            exact ⟨_, _, rfl, rfl, rfl, _, rfl, Or.inr ⟨h42, Or.inl ⟨j0, w, rfl, hw9, rfl⟩⟩⟩
          | succ n ih =>
            intro i hin
            obtain ⟨z, hz⟩ := l_at (l := l) (i := i) (by omega)
            have ez := (hl.2 _ z hz).1.1
            have hz9 := (hl.2 _ z hz).2
            have hlt := g1 i z (by omega) hz
            refine go_al0 (p := 67) hf_85 rfl rfl ?_
            refine go_getr (p := 70) hf_85 ho_85 rfl fl_6_41 rfl (by first | with_reducible assumption | rfl) rfl ?_
            refine go_il5 (p := 72) hf_85 rfl rfl ?_
            refine go_iald (p := 73) hf_85 rfl rfl (by first | with_reducible assumption | rfl) (by first | rfl | with_reducible assumption) (by first | exact rfl | with_reducible assumption) (by omega) ((up_k (by omega)).trans ez) ?_
            refine go_il2 (p := 74) hf_85 rfl rfl ?_
            first | refine go_nn_ge (p := 77) (p2 := 83) hf_85 rfl rfl rfl (by omega) (by omega) (fun h74 => absurd h74 (by omega)) (fun h74 => ?_) | refine go_ic_ge (p := 77) (p2 := 83) hf_85 rfl rfl rfl (fun h74 => absurd h74 (by omega)) (fun h74 => ?_)
            refine go_ic5 (p := 80) hf_85 rfl rfl (by first | exact inc1 _ | exact rfl) ?_
            refine go_goto (p2 := 66) hf_85 rfl rfl ?_
            exact ih (i + 1) (by omega)
        refine go_bipush (p := 62) hf_85 rfl rfl cb_12 ?_
        refine go_il1 (p := 63) hf_85 rfl rfl ?_
        refine go_imul (p := 64) hf_85 rfl rfl (by first | exact muln _ _ | exact rfl) ?_
        refine go_is5 (p := 66) hf_85 rfl rfl ?_
        exact loop s 0 (by omega)
      · refine go_iconst (p := 59) hf_85 rfl rfl ci_m1 ?_
        refine go_ret1 hf_85 rfl nl_85 ?_
        have hfl : (fi n1 l).length ≤ l.length := List.length_filter_le _ _
        exact ⟨_, _, rfl, rfl, rfl, _, rfl, Or.inr ⟨h42, Or.inr ⟨fun j hj e => h55 (by rw [e]; exact (nI_ltI (by omega) (by omega)).mpr hj), rfl⟩⟩⟩
  · refine go_il4 (p := 47) hf_85 rfl rfl ?_
    refine go_ret1 hf_85 rfl nl_85 ?_
    exact ⟨_, _, rfl, rfl, rfl, _, rfl, Or.inl ⟨h42, rfl⟩⟩
