/-! ===== the class's other calls ===== -/
theorem toInt_nI {x : Int32} {n : Nat} (h : x.toInt = n) (hn : n < 2 ^ 31) : x = nI n := by
  apply Int32.toInt_inj.mp
  rw [h, nI_toInt hn]
theorem rng_nI {x : Int32} {a b : Nat} (hb : b < 2 ^ 31) (h1 : ¬ x < nI a) (h2 : ¬ nI b < x) (hab : a ≤ b) : ∃ n, a ≤ n ∧ n ≤ b ∧ x = nI n := by
  rw [Int32.lt_iff_toInt_lt, nI_toInt (by omega)] at h1
  rw [Int32.lt_iff_toInt_lt, nI_toInt (by omega)] at h2
  exact ⟨x.toInt.toNat, by omega, by omega, toInt_nI (by omega) (by omega)⟩
theorem OX_drop {M : sm_M} {N b : Nat} {gs : Nat → Prop} (hN : N ≤ 900) (hb : b < N) (hX : OX M N (fun j => gs j ∨ nI b = nI j)) (hd : Dv (M 2) (M 3) (M 4) N (fun i => gs i ∨ M 2 i = nI 1) b) : OX M N gs := fun j hj => by
  rw [hX j hj]
  apply bI_congr
  constructor
  · refine Dv_mono (fun i hi g => ?_)
    rcases g with (g | g) | g
    · exact Dv_g hi (Or.inl g)
    · rw [← (nI_eq (by omega) (by omega)).mp g]; exact hd
    · exact Dv_g hi (Or.inr g)
  · refine Dv_mono (fun i hi g => Dv_g hi ?_)
    rcases g with g | g
    · exact Or.inl (Or.inl g)
    · exact Or.inr g
def KNW (M : sm_M) (N : Nat) (t : Int32) : Prop := ∃ k, k < N ∧ t = nI k ∧ M 5 k = 1
theorem c_known {M : sm_M} {a0 : Int32} {ts : List T3} {gs : Nat → Prop} (hT : TW M ts) (hX : OX M ts.length gs) : cr 13 2 42 [.ref 0, .int a0] M (fun v M1 => v = some (.int (bI (KNW M ts.length a0))) ∧ M1 = M) := by
  intro X J rc rs d lw hd hw
  show sm_wp tb_T X tb_ok d lw 13 0 [some (.ref 0), some (.int a0)] [] _ _
  have hN9 := hT.1.2.1.2.1
  have hN := hT.1.2.1.1
  have h01 := (OX_OA hX).1
  refine go_al0 (p := 1) hf_13 rfl rfl ?_
  refine go_getr (p := 4) hf_13 ho_13 rfl fl_0_10 rfl (by first | with_reducible assumption | rfl) rfl ?_
  refine go_il1 (p := 5) hf_13 rfl rfl ?_
  refine go_cw2 (p := 8) hf_13 rfl rfl (inv_v ho_13 cl_0_142) (by decide) nl_38 rfl rfl (by first | rfl | exact rcv_of (by with_reducible assumption)) rfl rfl rfl (by omega) (by omega) (c_isKnown hN hN9 h01) ?_
  intro v9 M9 h9
  rewrite [h9.1, h9.2]
  clear h9 v9 M9
  simp only [Option.toList, List.cons_append, List.nil_append]
  refine go_ret2 hf_13 rfl nl_13 bI_01 ?_
  exact ⟨_, _, rfl, rfl, rfl, rfl⟩
theorem c_atom {M : sm_M} {a0 : Int32} {ts : List T3} {gs : Nat → Prop} (hT : TW M ts) (hX : OX M ts.length gs) : cr 15 1 25 [.ref 0, .int a0] M (fun v M1 => v = some (.int (fnd ts (nI 0, a0, -1))) ∧ M1 = M) := by
  intro X J rc rs d lw hd hw
  show sm_wp tb_T X tb_ok d lw 15 0 [some (.ref 0), some (.int a0)] [] _ _
  refine go_al0 (p := 1) hf_15 rfl rfl ?_
  refine go_getr (p := 4) hf_15 ho_15 rfl fl_0_10 rfl (by first | with_reducible assumption | rfl) rfl ?_
  refine go_iconst (p := 5) hf_15 rfl rfl ci_0 ?_
  refine go_il1 (p := 6) hf_15 rfl rfl ?_
  refine go_iconst (p := 7) hf_15 rfl rfl ci_m1 ?_
  refine go_cw4 (p := 10) hf_15 rfl rfl (inv_v ho_15 cl_0_159) (by decide) nl_40 rfl rfl (by first | rfl | exact rcv_of (by with_reducible assumption)) rfl rfl rfl (by omega) (by omega) (c_find hT.1.2.1 hT.1.2.2.1 hT.1.2.2.2.1 okY_m1) ?_
  intro v9 M9 h9
  rewrite [h9.1, h9.2]
  clear h9 v9 M9
  simp only [Option.toList, List.cons_append, List.nil_append]
  refine go_ret1 hf_15 rfl nl_15 ?_
  exact ⟨_, _, rfl, rfl, rfl, rfl⟩
theorem c_server {M : sm_M}   : cr 17 0 0 [.ref 0] M (fun v M1 => v = some (.int (M 0 5)) ∧ M1 = M) := by
  intro X J rc rs d lw hd hw
  show sm_wp tb_T X tb_ok d lw 17 0 [some (.ref 0)] [] _ _
  refine go_al0 (p := 1) hf_17 rfl rfl ?_
  refine go_get (p := 4) hf_17 ho_17 rfl fl_0_44 rfl (by first | with_reducible assumption | rfl) rfl (by first | with_reducible assumption | ((repeat rewrite [up_k]) <;> first | with_reducible assumption | decide | omega) | exact rfl) ?_
  refine go_ret1 hf_17 rfl nl_17 ?_
  exact ⟨_, _, rfl, rfl, rfl, rfl⟩
theorem c_flight {M : sm_M} {ms : List (Int32 × Int32 × Int32 × Int32)} (hm : ml (M 12 4) (M 13) (M 14) (M 15) (M 16) ms) : cr 7 0 0 [.ref 0] M (fun v M1 => v = some (.int (nI ms.length)) ∧ M1 = M) := by
  intro X J rc rs d lw hd hw
  show sm_wp tb_T X tb_ok d lw 7 0 [some (.ref 0)] [] _ _
  refine go_al0 (p := 1) hf_7 rfl rfl ?_
  refine go_getr (p := 4) hf_7 ho_7 rfl fl_0_26 rfl (by first | with_reducible assumption | rfl) rfl ?_
  refine go_get (p := 7) hf_7 ho_7 rfl fl_0_119 rfl (by first | with_reducible assumption | rfl) rfl hm.1 ?_
  refine go_ret1 hf_7 rfl nl_7 ?_
  exact ⟨_, _, rfl, rfl, rfl, rfl⟩
noncomputable def sw3 (w : Int32) (a b c : Int32) : Int32 := if w = nI 0 then a else if w = nI 1 then b else if w = nI 2 then c else -1
noncomputable def sw4 (w : Int32) (a b c e : Int32) : Int32 := if w = nI 0 then a else if w = nI 1 then b else if w = nI 2 then c else if w = nI 3 then e else -1
noncomputable def sw11 (w : Int32) (a0 a1 a2 a3 a4 a5 a6 a7 a8 a9 a10 : Int32) : Int32 := if w = nI 0 then a0 else if w = nI 1 then a1 else if w = nI 2 then a2 else if w = nI 3 then a3 else if w = nI 4 then a4 else if w = nI 5 then a5 else if w = nI 6 then a6 else if w = nI 7 then a7 else if w = nI 8 then a8 else if w = nI 9 then a9 else if w = nI 10 then a10 else -1
theorem c_term {M : sm_M} {a0 a1 : Int32} {ts : List T3} {gs : Nat → Prop} (hT : TW M ts) (hX : OX M ts.length gs) : cr 14 2 42 [.ref 0, .int a0, .int a1] M (fun v M1 => v = some (.int (sw3 a1 (rdAt (M 2) ts.length a0) (rdAt (M 3) ts.length a0) (rdAt (M 4) ts.length a0))) ∧ M1 = M) := by
  intro X J rc rs d lw hd hw
  show sm_wp tb_T X tb_ok d lw 14 0 [some (.ref 0), some (.int a0), some (.int a1)] [] _ _
  have hN9 := hT.1.2.1.2.1
  have hN := hT.1.2.1.1
  have h01 := (OX_OA hX).1
  refine go_il2 (p := 1) hf_14 rfl rfl ?_
  refine go_tab hf_14 rfl (pd := 55) rfl (fun h1 => ?_) (fun h1 h1b => ?_)
  · refine go_iconst (p := 56) hf_14 rfl rfl ci_m1 ?_
    refine go_ret1 hf_14 rfl nl_14 ?_
    refine ⟨_, _, rfl, rfl, ?_, rfl⟩
    unfold sw3
    rw [if_neg (fun e => by rw [e, nI_toInt (by omega)] at h1; omega), if_neg (fun e => by rw [e, nI_toInt (by omega)] at h1; omega), if_neg (fun e => by rw [e, nI_toInt (by omega)] at h1; omega)]
  · have h1c : (a1).toInt = 0 ∨ (a1).toInt = 1 ∨ (a1).toInt = 2 := by omega
    rcases h1c with h1c | h1c | h1c
    · refine ⟨27, 28, by rw [h1c]; rfl, rfl, ?_⟩
      obtain rfl : a1 = nI 0 := toInt_nI h1c (by omega)
      refine go_al0 (p := 29) hf_14 rfl rfl ?_
      refine go_getr (p := 32) hf_14 ho_14 rfl fl_0_10 rfl (by first | with_reducible assumption | rfl) rfl ?_
      refine go_il1 (p := 33) hf_14 rfl rfl ?_
      refine go_cw2 (p := 36) hf_14 rfl rfl (inv_v ho_14 cl_0_150) (by decide) nl_31 rfl rfl (by first | rfl | exact rcv_of (by with_reducible assumption)) rfl rfl rfl (by omega) (by omega) (c_kindOf hN hN9) ?_
      intro v9 M9 h9
      rewrite [h9.1, h9.2]
      clear h9 v9 M9
      simp only [Option.toList, List.cons_append, List.nil_append]
      refine go_ret1 hf_14 rfl nl_14 ?_
      refine ⟨_, _, rfl, rfl, ?_, rfl⟩
      unfold sw3
      rw [if_pos rfl]
    · refine ⟨36, 37, by rw [h1c]; rfl, rfl, ?_⟩
      obtain rfl : a1 = nI 1 := toInt_nI h1c (by omega)
      refine go_al0 (p := 38) hf_14 rfl rfl ?_
      refine go_getr (p := 41) hf_14 ho_14 rfl fl_0_10 rfl (by first | with_reducible assumption | rfl) rfl ?_
      refine go_il1 (p := 42) hf_14 rfl rfl ?_
      refine go_cw2 (p := 45) hf_14 rfl rfl (inv_v ho_14 cl_0_153) (by decide) nl_33 rfl rfl (by first | rfl | exact rcv_of (by with_reducible assumption)) rfl rfl rfl (by omega) (by omega) (c_xOf hN hN9) ?_
      intro v9 M9 h9
      rewrite [h9.1, h9.2]
      clear h9 v9 M9
      simp only [Option.toList, List.cons_append, List.nil_append]
      refine go_ret1 hf_14 rfl nl_14 ?_
      refine ⟨_, _, rfl, rfl, ?_, rfl⟩
      unfold sw3
      rw [if_neg (by decide), if_pos rfl]
    · refine ⟨45, 46, by rw [h1c]; rfl, rfl, ?_⟩
      obtain rfl : a1 = nI 2 := toInt_nI h1c (by omega)
      refine go_al0 (p := 47) hf_14 rfl rfl ?_
      refine go_getr (p := 50) hf_14 ho_14 rfl fl_0_10 rfl (by first | with_reducible assumption | rfl) rfl ?_
      refine go_il1 (p := 51) hf_14 rfl rfl ?_
      refine go_cw2 (p := 54) hf_14 rfl rfl (inv_v ho_14 cl_0_156) (by decide) nl_32 rfl rfl (by first | rfl | exact rcv_of (by with_reducible assumption)) rfl rfl rfl (by omega) (by omega) (c_yOf hN hN9) ?_
      intro v9 M9 h9
      rewrite [h9.1, h9.2]
      clear h9 v9 M9
      simp only [Option.toList, List.cons_append, List.nil_append]
      refine go_ret1 hf_14 rfl nl_14 ?_
      refine ⟨_, _, rfl, rfl, ?_, rfl⟩
      unfold sw3
      rw [if_neg (by decide), if_neg (by decide), if_pos rfl]
theorem c_plant {M : sm_M} {a0 : Int32} {ts : List T3} {gs : Nat → Prop} (hT : TW M ts) (hX : OX M ts.length gs) : cr 9 2 42 [.ref 0, .int a0] M (fun v M1 => ∃ u, v = some (.int u) ∧ ((KNW M ts.length a0 ∧ u = nI 1 ∧ M1 = sm_up M 0 5 a0) ∨ (¬ KNW M ts.length a0 ∧ u = nI 0 ∧ M1 = M))) := by
  intro X J rc rs d lw hd hw
  show sm_wp tb_T X tb_ok d lw 9 0 [some (.ref 0), some (.int a0)] [] _ _
  have hN9 := hT.1.2.1.2.1
  have hN := hT.1.2.1.1
  have h01 := (OX_OA hX).1
  refine go_al0 (p := 1) hf_9 rfl rfl ?_
  refine go_getr (p := 4) hf_9 ho_9 rfl fl_0_10 rfl (by first | with_reducible assumption | rfl) rfl ?_
  refine go_il1 (p := 5) hf_9 rfl rfl ?_
  refine go_cw2 (p := 8) hf_9 rfl rfl (inv_v ho_9 cl_0_142) (by decide) nl_38 rfl rfl (by first | rfl | exact rcv_of (by with_reducible assumption)) rfl rfl rfl (by omega) (by omega) (c_isKnown hN hN9 h01) ?_
  intro v9 M9 h9
  rewrite [h9.1, h9.2]
  clear h9 v9 M9
  simp only [Option.toList, List.cons_append, List.nil_append]
  refine go_if_ne (p := 11) (p2 := 13) hf_9 rfl rfl rfl (fun h8 => ?_) (fun h8 => ?_)
  · refine go_al0 (p := 14) hf_9 rfl rfl ?_
    refine go_il1 (p := 15) hf_9 rfl rfl ?_
    refine go_put (p := 18) hf_9 ho_9 rfl fl_0_44 rfl (by first | with_reducible assumption | rfl) rfl (Or.inl rfl) ?_
    refine go_iconst (p := 19) hf_9 rfl rfl ci_1 ?_
    refine go_ret2 hf_9 rfl nl_9 (by first | exact Or.inl rfl | exact Or.inr rfl | with_reducible assumption) ?_
    exact ⟨_, _, rfl, rfl, _, rfl, Or.inl ⟨bI_n0.mp h8, rfl, rfl⟩⟩
  · refine go_iconst (p := 12) hf_9 rfl rfl ci_0 ?_
    refine go_ret2 hf_9 rfl nl_9 (by first | exact Or.inl rfl | exact Or.inr rfl | with_reducible assumption) ?_
    exact ⟨_, _, rfl, rfl, _, rfl, Or.inr ⟨bI_0.mp h8, rfl, rfl⟩⟩
theorem c_forge {M : sm_M} {a0 a1 : Int32} {ts : List T3} {gs : Nat → Prop} {ms : List (Int32 × Int32 × Int32 × Int32)} (hT : TW M ts) (hX : OX M ts.length gs) (hm : ml (M 12 4) (M 13) (M 14) (M 15) (M 16) ms) : cr 8 2 42 [.ref 0, .int a0, .int a1] M (fun v M1 => ∃ u, v = some (.int u) ∧ ((((∃ n, n < 3 ∧ a0 = nI n) ∧ KNW M ts.length a1 ∧ ms.length < 12) ∧ u = nI 1 ∧ ml (M1 12 4) (M1 13) (M1 14) (M1 15) (M1 16) (ms ++ [(nI 2, a0, -1, a1)]) ∧ ∀ p, (p < 12 ∨ 16 < p) → M1 p = M p) ∨ (¬ ((∃ n, n < 3 ∧ a0 = nI n) ∧ KNW M ts.length a1 ∧ ms.length < 12) ∧ u = nI 0 ∧ M1 = M))) := by
  intro X J rc rs d lw hd hw
  show sm_wp tb_T X tb_ok d lw 8 0 [some (.ref 0), some (.int a0), some (.int a1)] [] _ _
  have hN9 := hT.1.2.1.2.1
  have hN := hT.1.2.1.1
  have h01 := (OX_OA hX).1
  have h12 := hm.2.1
  refine go_il1 (p := 1) hf_8 rfl rfl ?_
  refine go_iconst (p := 2) hf_8 rfl rfl ci_3 ?_
  refine go_cw2 (p := 5) hf_8 rfl rfl (inv_s ho_8 cl_0_48) (by decide) nl_2 rfl rfl rfl rfl rfl rfl (by omega) (by omega) (c_isBelow) ?_
  intro v9 M9 h9
  rewrite [h9.1, h9.2]
  clear h9 v9 M9
  simp only [Option.toList, List.cons_append, List.nil_append]
  refine go_if_eq (p := 8) (p2 := 31) hf_8 rfl rfl rfl (fun h5 => ?_) (fun h5 => ?_)
  · refine go_iconst (p := 32) hf_8 rfl rfl ci_0 ?_
    refine go_ret2 hf_8 rfl nl_8 (by first | exact Or.inl rfl | exact Or.inr rfl | with_reducible assumption) ?_
    exact ⟨_, _, rfl, rfl, _, rfl, Or.inr ⟨fun g => bI_0.mp h5 ((below_iff (by omega)).mpr g.1), rfl, rfl⟩⟩
  · refine go_al0 (p := 9) hf_8 rfl rfl ?_
    refine go_getr (p := 12) hf_8 ho_8 rfl fl_0_10 rfl (by first | with_reducible assumption | rfl) rfl ?_
    refine go_il2 (p := 13) hf_8 rfl rfl ?_
    refine go_cw2 (p := 16) hf_8 rfl rfl (inv_v ho_8 cl_0_142) (by decide) nl_38 rfl rfl (by first | rfl | exact rcv_of (by with_reducible assumption)) rfl rfl rfl (by omega) (by omega) (c_isKnown hN hN9 h01) ?_
    intro v9 M9 h9
    rewrite [h9.1, h9.2]
    clear h9 v9 M9
    simp only [Option.toList, List.cons_append, List.nil_append]
    refine go_if_eq (p := 19) (p2 := 31) hf_8 rfl rfl rfl (fun h16 => ?_) (fun h16 => ?_)
    · refine go_iconst (p := 32) hf_8 rfl rfl ci_0 ?_
      refine go_ret2 hf_8 rfl nl_8 (by first | exact Or.inl rfl | exact Or.inr rfl | with_reducible assumption) ?_
      exact ⟨_, _, rfl, rfl, _, rfl, Or.inr ⟨fun g => bI_0.mp h16 g.2.1, rfl, rfl⟩⟩
    · refine go_al0 (p := 20) hf_8 rfl rfl ?_
      refine go_getr (p := 23) hf_8 ho_8 rfl fl_0_26 rfl (by first | with_reducible assumption | rfl) rfl ?_
      refine go_get (p := 26) hf_8 ho_8 rfl fl_0_119 rfl (by first | with_reducible assumption | rfl) rfl hm.1 ?_
      refine go_bipush (p := 28) hf_8 rfl rfl cb_12 ?_
      first | refine go_nn_lt (p := 31) (p2 := 33) hf_8 rfl rfl rfl (by omega) (by omega) (fun h28 => ?_) (fun h28 => ?_) | refine go_ic_lt (p := 31) (p2 := 33) hf_8 rfl rfl rfl (fun h28 => ?_) (fun h28 => ?_)
      · refine go_al0 (p := 34) hf_8 rfl rfl ?_
        refine go_getr (p := 37) hf_8 ho_8 rfl fl_0_26 rfl (by first | with_reducible assumption | rfl) rfl ?_
        refine go_iconst (p := 38) hf_8 rfl rfl ci_2 ?_
        refine go_il1 (p := 39) hf_8 rfl rfl ?_
        refine go_iconst (p := 40) hf_8 rfl rfl ci_m1 ?_
        refine go_il2 (p := 41) hf_8 rfl rfl ?_
        refine go_cw5 (p := 44) hf_8 rfl rfl (inv_v ho_8 cl_0_105) (by decide) nl_56 rfl rfl (by first | rfl | exact rcv_of (by with_reducible assumption)) rfl rfl rfl (by omega) (by omega) (c_msend hm) ?_
        rintro v9 M2 ⟨rfl, e2, f2⟩
        simp only [Option.toList, List.cons_append, List.nil_append]
        refine go_iconst (p := 45) hf_8 rfl rfl ci_1 ?_
        refine go_ret2 hf_8 rfl nl_8 (by first | exact Or.inl rfl | exact Or.inr rfl | with_reducible assumption) ?_
        rw [if_pos h28] at e2
        exact ⟨_, _, rfl, rfl, _, rfl, Or.inl ⟨⟨(below_iff (by omega)).mp (bI_n0.mp h5), bI_n0.mp h16, h28⟩, rfl, e2, f2⟩⟩
      · refine go_iconst (p := 32) hf_8 rfl rfl ci_0 ?_
        refine go_ret2 hf_8 rfl nl_8 (by first | exact Or.inl rfl | exact Or.inr rfl | with_reducible assumption) ?_
        exact ⟨_, _, rfl, rfl, _, rfl, Or.inr ⟨fun g => h28 g.2.2, rfl, rfl⟩⟩
theorem c_drop {M : sm_M} {a0 : Int32} {ms : List (Int32 × Int32 × Int32 × Int32)} (hm : ml (M 12 4) (M 13) (M 14) (M 15) (M 16) ms) : cr 5 1 22 [.ref 0, .int a0] M (fun v M1 => ∃ u, v = some (.int u) ∧ ((∃ i, i < ms.length ∧ a0 = nI i ∧ u = nI 1 ∧ ml (M1 12 4) (M1 13) (M1 14) (M1 15) (M1 16) (ms.eraseIdx i) ∧ ∀ a j, ¬ (a = 12 ∧ j = 4) → (a < 13 ∨ 16 < a) → M1 a j = M a j) ∨ (¬ (∃ i, i < ms.length ∧ a0 = nI i) ∧ u = nI 0 ∧ M1 = M))) := by
  intro X J rc rs d lw hd hw
  show sm_wp tb_T X tb_ok d lw 5 0 [some (.ref 0), some (.int a0)] [] _ _
  have h12 := hm.2.1
  refine go_il1 (p := 1) hf_5 rfl rfl ?_
  refine go_al0 (p := 2) hf_5 rfl rfl ?_
  refine go_getr (p := 5) hf_5 ho_5 rfl fl_0_26 rfl (by first | with_reducible assumption | rfl) rfl ?_
  refine go_get (p := 8) hf_5 ho_5 rfl fl_0_119 rfl (by first | with_reducible assumption | rfl) rfl hm.1 ?_
  refine go_cw2 (p := 11) hf_5 rfl rfl (inv_s ho_5 cl_0_48) (by decide) nl_2 rfl rfl rfl rfl rfl rfl (by omega) (by omega) (c_isBelow) ?_
  intro v9 M9 h9
  rewrite [h9.1, h9.2]
  clear h9 v9 M9
  simp only [Option.toList, List.cons_append, List.nil_append]
  refine go_if_ne (p := 14) (p2 := 16) hf_5 rfl rfl rfl (fun h11 => ?_) (fun h11 => ?_)
  · obtain ⟨i, hi, rfl⟩ := (below_iff (by omega)).mp (bI_n0.mp h11)
    refine go_al0 (p := 17) hf_5 rfl rfl ?_
    refine go_getr (p := 20) hf_5 ho_5 rfl fl_0_26 rfl (by first | with_reducible assumption | rfl) rfl ?_
    refine go_il1 (p := 21) hf_5 rfl rfl ?_
    refine go_cw2 (p := 24) hf_5 rfl rfl (inv_v ho_5 cl_0_132) (by decide) nl_55 rfl rfl (by first | rfl | exact rcv_of (by with_reducible assumption)) rfl rfl rfl (by omega) (by omega) (c_mremove hm hi) ?_
    rintro v9 M2 ⟨rfl, e2, f2⟩
    simp only [Option.toList, List.cons_append, List.nil_append]
    refine go_iconst (p := 25) hf_5 rfl rfl ci_1 ?_
    refine go_ret2 hf_5 rfl nl_5 (by first | exact Or.inl rfl | exact Or.inr rfl | with_reducible assumption) ?_
    exact ⟨_, _, rfl, rfl, _, rfl, Or.inl ⟨i, hi, rfl, rfl, e2, f2⟩⟩
  · refine go_iconst (p := 15) hf_5 rfl rfl ci_0 ?_
    refine go_ret2 hf_5 rfl nl_5 (by first | exact Or.inl rfl | exact Or.inr rfl | with_reducible assumption) ?_
    exact ⟨_, _, rfl, rfl, _, rfl, Or.inr ⟨fun g => bI_0.mp h11 ((below_iff (by omega)).mpr g), rfl, rfl⟩⟩
noncomputable def msgF (ms : List (Int32 × Int32 × Int32 × Int32)) (m w : Int32) : Int32 := @ite _ (∃ i, i < ms.length ∧ m = nI i) (Classical.propDecidable _) (sw4 w ((ms[m.toNatClampNeg]?).getD (0, 0, 0, 0)).1 ((ms[m.toNatClampNeg]?).getD (0, 0, 0, 0)).2.1 ((ms[m.toNatClampNeg]?).getD (0, 0, 0, 0)).2.2.1 ((ms[m.toNatClampNeg]?).getD (0, 0, 0, 0)).2.2.2) (-1)
theorem msgF_f {ms : List (Int32 × Int32 × Int32 × Int32)} {m w : Int32} (h : ¬ ∃ i, i < ms.length ∧ m = nI i) : msgF ms m w = -1 := by
  unfold msgF
  rw [if_neg h]
theorem msgF_t {ms : List (Int32 × Int32 × Int32 × Int32)} {i : Nat} {x : Int32 × Int32 × Int32 × Int32} {w : Int32} (h : ms[i]? = some x) (h12 : ms.length ≤ 12) : msgF ms (nI i) w = sw4 w x.1 x.2.1 x.2.2.1 x.2.2.2 := by
  have hi : i < ms.length := (List.getElem?_eq_some_iff.mp h).1
  unfold msgF
  rw [if_pos ⟨i, hi, rfl⟩, nI_clamp (by omega), h]
  rfl
theorem c_message {M : sm_M} {a0 a1 : Int32} {ms : List (Int32 × Int32 × Int32 × Int32)} (hm : ml (M 12 4) (M 13) (M 14) (M 15) (M 16) ms) : cr 6 1 21 [.ref 0, .int a0, .int a1] M (fun v M1 => v = some (.int (msgF ms a0 a1)) ∧ M1 = M) := by
  intro X J rc rs d lw hd hw
  show sm_wp tb_T X tb_ok d lw 6 0 [some (.ref 0), some (.int a0), some (.int a1)] [] _ _
  have h12 := hm.2.1
  refine go_il1 (p := 1) hf_6 rfl rfl ?_
  refine go_al0 (p := 2) hf_6 rfl rfl ?_
  refine go_getr (p := 5) hf_6 ho_6 rfl fl_0_26 rfl (by first | with_reducible assumption | rfl) rfl ?_
  refine go_get (p := 8) hf_6 ho_6 rfl fl_0_119 rfl (by first | with_reducible assumption | rfl) rfl hm.1 ?_
  refine go_cw2 (p := 11) hf_6 rfl rfl (inv_s ho_6 cl_0_48) (by decide) nl_2 rfl rfl rfl rfl rfl rfl (by omega) (by omega) (c_isBelow) ?_
  intro v9 M9 h9
  rewrite [h9.1, h9.2]
  clear h9 v9 M9
  simp only [Option.toList, List.cons_append, List.nil_append]
  refine go_if_ne (p := 14) (p2 := 16) hf_6 rfl rfl rfl (fun h11 => ?_) (fun h11 => ?_)
  · obtain ⟨i, hi, rfl⟩ := (below_iff (by omega)).mp (bI_n0.mp h11)
    obtain ⟨x, hx⟩ : ∃ x, ms[i]? = some x := ⟨ms[i], List.getElem?_eq_getElem hi⟩
    refine go_il2 (p := 17) hf_6 rfl rfl ?_
    refine go_tab hf_6 rfl (pd := 88) rfl (fun h17 => ?_) (fun h17 h17b => ?_)
    · refine go_iconst (p := 89) hf_6 rfl rfl ci_m1 ?_
      refine go_ret1 hf_6 rfl nl_6 ?_
      refine ⟨_, _, rfl, rfl, ?_, rfl⟩
      rw [msgF_t hx (by omega)]
      unfold sw4
      rw [if_neg (fun e => by rw [e, nI_toInt (by omega)] at h17; omega), if_neg (fun e => by rw [e, nI_toInt (by omega)] at h17; omega), if_neg (fun e => by rw [e, nI_toInt (by omega)] at h17; omega), if_neg (fun e => by rw [e, nI_toInt (by omega)] at h17; omega)]
    · have h17c : (a1).toInt = 0 ∨ (a1).toInt = 1 ∨ (a1).toInt = 2 ∨ (a1).toInt = 3 := by omega
      rcases h17c with h17c | h17c | h17c | h17c
      · refine ⟨31, 48, by rw [h17c]; rfl, rfl, ?_⟩
        obtain rfl : a1 = nI 0 := toInt_nI h17c (by omega)
        refine go_al0 (p := 49) hf_6 rfl rfl ?_
        refine go_getr (p := 52) hf_6 ho_6 rfl fl_0_26 rfl (by first | with_reducible assumption | rfl) rfl ?_
        refine go_getr (p := 55) hf_6 ho_6 rfl fl_0_120 rfl (by first | with_reducible assumption | rfl) rfl ?_
        refine go_il1 (p := 56) hf_6 rfl rfl ?_
        refine go_iald (p := 57) hf_6 rfl rfl (by first | with_reducible assumption | rfl) (by first | rfl | with_reducible assumption) (by first | exact rfl | with_reducible assumption) (by omega) (hm.2.2 i x hx).1 ?_
        refine go_ret1 hf_6 rfl nl_6 ?_
        refine ⟨_, _, rfl, rfl, ?_, rfl⟩
        rw [msgF_t hx (by omega)]
        unfold sw4
        rw [if_pos rfl]
      · refine ⟨41, 58, by rw [h17c]; rfl, rfl, ?_⟩
        obtain rfl : a1 = nI 1 := toInt_nI h17c (by omega)
        refine go_al0 (p := 59) hf_6 rfl rfl ?_
        refine go_getr (p := 62) hf_6 ho_6 rfl fl_0_26 rfl (by first | with_reducible assumption | rfl) rfl ?_
        refine go_getr (p := 65) hf_6 ho_6 rfl fl_0_123 rfl (by first | with_reducible assumption | rfl) rfl ?_
        refine go_il1 (p := 66) hf_6 rfl rfl ?_
        refine go_iald (p := 67) hf_6 rfl rfl (by first | with_reducible assumption | rfl) (by first | rfl | with_reducible assumption) (by first | exact rfl | with_reducible assumption) (by omega) (hm.2.2 i x hx).2.1 ?_
        refine go_ret1 hf_6 rfl nl_6 ?_
        refine ⟨_, _, rfl, rfl, ?_, rfl⟩
        rw [msgF_t hx (by omega)]
        unfold sw4
        rw [if_neg (by decide), if_pos rfl]
      · refine ⟨51, 68, by rw [h17c]; rfl, rfl, ?_⟩
        obtain rfl : a1 = nI 2 := toInt_nI h17c (by omega)
        refine go_al0 (p := 69) hf_6 rfl rfl ?_
        refine go_getr (p := 72) hf_6 ho_6 rfl fl_0_26 rfl (by first | with_reducible assumption | rfl) rfl ?_
        refine go_getr (p := 75) hf_6 ho_6 rfl fl_0_126 rfl (by first | with_reducible assumption | rfl) rfl ?_
        refine go_il1 (p := 76) hf_6 rfl rfl ?_
        refine go_iald (p := 77) hf_6 rfl rfl (by first | with_reducible assumption | rfl) (by first | rfl | with_reducible assumption) (by first | exact rfl | with_reducible assumption) (by omega) (hm.2.2 i x hx).2.2.1 ?_
        refine go_ret1 hf_6 rfl nl_6 ?_
        refine ⟨_, _, rfl, rfl, ?_, rfl⟩
        rw [msgF_t hx (by omega)]
        unfold sw4
        rw [if_neg (by decide), if_neg (by decide), if_pos rfl]
      · refine ⟨61, 78, by rw [h17c]; rfl, rfl, ?_⟩
        obtain rfl : a1 = nI 3 := toInt_nI h17c (by omega)
        refine go_al0 (p := 79) hf_6 rfl rfl ?_
        refine go_getr (p := 82) hf_6 ho_6 rfl fl_0_26 rfl (by first | with_reducible assumption | rfl) rfl ?_
        refine go_getr (p := 85) hf_6 ho_6 rfl fl_0_129 rfl (by first | with_reducible assumption | rfl) rfl ?_
        refine go_il1 (p := 86) hf_6 rfl rfl ?_
        refine go_iald (p := 87) hf_6 rfl rfl (by first | with_reducible assumption | rfl) (by first | rfl | with_reducible assumption) (by first | exact rfl | with_reducible assumption) (by omega) (hm.2.2 i x hx).2.2.2 ?_
        refine go_ret1 hf_6 rfl nl_6 ?_
        refine ⟨_, _, rfl, rfl, ?_, rfl⟩
        rw [msgF_t hx (by omega)]
        unfold sw4
        rw [if_neg (by decide), if_neg (by decide), if_neg (by decide), if_pos rfl]
  · refine go_iconst (p := 15) hf_6 rfl rfl ci_m1 ?_
    refine go_ret1 hf_6 rfl nl_6 ?_
    exact ⟨_, _, rfl, rfl, by rw [msgF_f (fun g => bI_0.mp h11 ((below_iff (by omega)).mpr g))], rfl⟩
theorem c_device {M : sm_M} {q k : Nat} {a1 : Int32} (hdv : dvq k q) : cr 16 1 21 [.ref 0, .int (nI k), .int a1] M (fun v M1 => v = some (.int (sw11 a1 (bI (¬ M q 3 = 0)) (M (q + 1 + 1) 0) (M (q + 1 + 1) 1) (M (q + 1 + 1) 2) (M (q + 5) 0) (M (q + 5) 1) (M (q + 5) 2) (M (q + 1) 0) (M (q + 1) 1) (M (q + 1) 5) (M q 2))) ∧ M1 = M) := by
  intro X J rc rs d lw hd hw
  show sm_wp tb_T X tb_ok d lw 16 0 [some (.ref 0), some (.int (nI k)), some (.int a1), none] [] _ _
  have hk := hdv.1
  have hq := hdv.2.1
  have hz := hdv.2.2.1
  have hsh := hdv.2.2.2.1
  obtain ⟨s1, s2, s3, s4⟩ := id hdv.2.2.2.2.1
  have s5 := hdv.2.2.2.2.2
  refine go_il1 (p := 1) hf_16 rfl rfl ?_
  refine go_iconst (p := 2) hf_16 rfl rfl ci_3 ?_
  refine go_cw2 (p := 5) hf_16 rfl rfl (inv_s ho_16 cl_0_48) (by decide) nl_2 rfl rfl rfl rfl rfl rfl (by omega) (by omega) (c_isBelow) ?_
  intro v9 M9 h9
  rewrite [h9.1, h9.2]
  clear h9 v9 M9
  simp only [Option.toList, List.cons_append, List.nil_append]
  refine go_if_ne (p := 8) (p2 := 10) hf_16 rfl rfl rfl (fun h5 => ?_) (fun h5 => absurd ((below_iff (by omega)).mpr ⟨k, hk, rfl⟩) (bI_0.mp h5))
  refine go_al0 (p := 11) hf_16 rfl rfl ?_
  refine go_getr (p := 14) hf_16 ho_16 rfl fl_0_32 rfl (by first | with_reducible assumption | rfl) rfl ?_
  refine go_il1 (p := 15) hf_16 rfl rfl ?_
  refine go_aald (p := 16) hf_16 rfl rfl (by first | with_reducible assumption | rfl) (by first | rfl | with_reducible assumption) (by first | exact rfl | with_reducible assumption) hz ?_
  refine go_as3 (p := 17) hf_16 rfl rfl ?_
  refine go_il2 (p := 18) hf_16 rfl rfl ?_
  refine go_tab hf_16 rfl (pd := 139) rfl (fun h18 => ?_) (fun h18 h18b => ?_)
  · refine go_iconst (p := 140) hf_16 rfl rfl ci_m1 ?_
    refine go_ret1 hf_16 rfl nl_16 ?_
    refine ⟨_, _, rfl, rfl, ?_, rfl⟩
    unfold sw11
    rw [if_neg (fun e => by rw [e, nI_toInt (by omega)] at h18; omega), if_neg (fun e => by rw [e, nI_toInt (by omega)] at h18; omega), if_neg (fun e => by rw [e, nI_toInt (by omega)] at h18; omega), if_neg (fun e => by rw [e, nI_toInt (by omega)] at h18; omega), if_neg (fun e => by rw [e, nI_toInt (by omega)] at h18; omega), if_neg (fun e => by rw [e, nI_toInt (by omega)] at h18; omega), if_neg (fun e => by rw [e, nI_toInt (by omega)] at h18; omega), if_neg (fun e => by rw [e, nI_toInt (by omega)] at h18; omega), if_neg (fun e => by rw [e, nI_toInt (by omega)] at h18; omega), if_neg (fun e => by rw [e, nI_toInt (by omega)] at h18; omega), if_neg (fun e => by rw [e, nI_toInt (by omega)] at h18; omega)]
  · have h18c : (a1).toInt = 0 ∨ (a1).toInt = 1 ∨ (a1).toInt = 2 ∨ (a1).toInt = 3 ∨ (a1).toInt = 4 ∨ (a1).toInt = 5 ∨ (a1).toInt = 6 ∨ (a1).toInt = 7 ∨ (a1).toInt = 8 ∨ (a1).toInt = 9 ∨ (a1).toInt = 10 := by omega
    rcases h18c with h18c | h18c | h18c | h18c | h18c | h18c | h18c | h18c | h18c | h18c | h18c
    · refine ⟨58, 76, by rw [h18c]; rfl, rfl, ?_⟩
      obtain rfl : a1 = nI 0 := toInt_nI h18c (by omega)
      refine go_al3 (p := 77) hf_16 rfl rfl ?_
      refine go_get (p := 80) hf_16 ho_16 rfl fl_0_56 rfl (by first | with_reducible assumption | rfl) rfl (by first | with_reducible assumption | ((repeat rewrite [up_k]) <;> first | with_reducible assumption | decide | omega) | exact rfl) ?_
      refine go_if_eq (p := 83) (p2 := 87) hf_16 rfl rfl rfl (fun h80 => ?_) (fun h80 => ?_)
      · refine go_iconst (p := 88) hf_16 rfl rfl ci_0 ?_
        refine go_ret1 hf_16 rfl nl_16 ?_
        refine ⟨_, _, rfl, rfl, ?_, rfl⟩
        unfold sw11
        rw [if_pos rfl]
        rw [bI_f (fun g => g h80)]
      · refine go_iconst (p := 84) hf_16 rfl rfl ci_1 ?_
        refine go_goto (p2 := 88) hf_16 rfl rfl ?_
        refine go_ret1 hf_16 rfl nl_16 ?_
        refine ⟨_, _, rfl, rfl, ?_, rfl⟩
        unfold sw11
        rw [if_pos rfl]
        rw [bI_t h80]
    · refine ⟨71, 89, by rw [h18c]; rfl, rfl, ?_⟩
      obtain rfl : a1 = nI 1 := toInt_nI h18c (by omega)
      refine go_al3 (p := 90) hf_16 rfl rfl ?_
      refine go_getr (p := 93) hf_16 ho_16 rfl fl_0_60 rfl (by first | with_reducible assumption | rfl) rfl ?_
      refine go_getr (p := 96) hf_16 ho_16 rfl fl_0_70 rfl (by first | with_reducible assumption | rfl) rfl ?_
      refine go_il2 (p := 97) hf_16 rfl rfl ?_
      refine go_iconst (p := 98) hf_16 rfl rfl ci_1 ?_
      refine go_isub (p := 99) hf_16 rfl rfl (by first | exact subn (by omega) | exact rfl) ?_
      refine go_iald (p := 100) hf_16 rfl rfl (by first | with_reducible assumption | rfl) (by first | rfl | with_reducible assumption) (by first | exact rfl | with_reducible assumption) (by omega) (by first | with_reducible assumption | ((repeat rewrite [up_k]) <;> first | with_reducible assumption | decide | omega) | exact rfl) ?_
      refine go_ret1 hf_16 rfl nl_16 ?_
      refine ⟨_, _, rfl, rfl, ?_, rfl⟩
      unfold sw11
      rw [if_neg (by decide), if_pos rfl]
    · refine ⟨71, 89, by rw [h18c]; rfl, rfl, ?_⟩
      obtain rfl : a1 = nI 2 := toInt_nI h18c (by omega)
      refine go_al3 (p := 90) hf_16 rfl rfl ?_
      refine go_getr (p := 93) hf_16 ho_16 rfl fl_0_60 rfl (by first | with_reducible assumption | rfl) rfl ?_
      refine go_getr (p := 96) hf_16 ho_16 rfl fl_0_70 rfl (by first | with_reducible assumption | rfl) rfl ?_
      refine go_il2 (p := 97) hf_16 rfl rfl ?_
      refine go_iconst (p := 98) hf_16 rfl rfl ci_1 ?_
      refine go_isub (p := 99) hf_16 rfl rfl (by first | exact subn (by omega) | exact rfl) ?_
      refine go_iald (p := 100) hf_16 rfl rfl (by first | with_reducible assumption | rfl) (by first | rfl | with_reducible assumption) (by first | exact rfl | with_reducible assumption) (by omega) (by first | with_reducible assumption | ((repeat rewrite [up_k]) <;> first | with_reducible assumption | decide | omega) | exact rfl) ?_
      refine go_ret1 hf_16 rfl nl_16 ?_
      refine ⟨_, _, rfl, rfl, ?_, rfl⟩
      unfold sw11
      rw [if_neg (by decide), if_neg (by decide), if_pos rfl]
    · refine ⟨71, 89, by rw [h18c]; rfl, rfl, ?_⟩
      obtain rfl : a1 = nI 3 := toInt_nI h18c (by omega)
      refine go_al3 (p := 90) hf_16 rfl rfl ?_
      refine go_getr (p := 93) hf_16 ho_16 rfl fl_0_60 rfl (by first | with_reducible assumption | rfl) rfl ?_
      refine go_getr (p := 96) hf_16 ho_16 rfl fl_0_70 rfl (by first | with_reducible assumption | rfl) rfl ?_
      refine go_il2 (p := 97) hf_16 rfl rfl ?_
      refine go_iconst (p := 98) hf_16 rfl rfl ci_1 ?_
      refine go_isub (p := 99) hf_16 rfl rfl (by first | exact subn (by omega) | exact rfl) ?_
      refine go_iald (p := 100) hf_16 rfl rfl (by first | with_reducible assumption | rfl) (by first | rfl | with_reducible assumption) (by first | exact rfl | with_reducible assumption) (by omega) (by first | with_reducible assumption | ((repeat rewrite [up_k]) <;> first | with_reducible assumption | decide | omega) | exact rfl) ?_
      refine go_ret1 hf_16 rfl nl_16 ?_
      refine ⟨_, _, rfl, rfl, ?_, rfl⟩
      unfold sw11
      rw [if_neg (by decide), if_neg (by decide), if_neg (by decide), if_pos rfl]
    · refine ⟨83, 101, by rw [h18c]; rfl, rfl, ?_⟩
      obtain rfl : a1 = nI 4 := toInt_nI h18c (by omega)
      refine go_al3 (p := 102) hf_16 rfl rfl ?_
      refine go_getr (p := 105) hf_16 ho_16 rfl fl_0_162 rfl (by first | with_reducible assumption | rfl) rfl ?_
      refine go_il2 (p := 106) hf_16 rfl rfl ?_
      refine go_iconst (p := 107) hf_16 rfl rfl ci_4 ?_
      refine go_isub (p := 108) hf_16 rfl rfl (by first | exact subn (by omega) | exact rfl) ?_
      refine go_iald (p := 109) hf_16 rfl rfl (by first | with_reducible assumption | rfl) (by first | rfl | with_reducible assumption) (by first | exact rfl | with_reducible assumption) (by omega) (by first | with_reducible assumption | ((repeat rewrite [up_k]) <;> first | with_reducible assumption | decide | omega) | exact rfl) ?_
      refine go_ret1 hf_16 rfl nl_16 ?_
      refine ⟨_, _, rfl, rfl, ?_, rfl⟩
      unfold sw11
      rw [if_neg (by decide), if_neg (by decide), if_neg (by decide), if_neg (by decide), if_pos rfl]
    · refine ⟨83, 101, by rw [h18c]; rfl, rfl, ?_⟩
      obtain rfl : a1 = nI 5 := toInt_nI h18c (by omega)
      refine go_al3 (p := 102) hf_16 rfl rfl ?_
      refine go_getr (p := 105) hf_16 ho_16 rfl fl_0_162 rfl (by first | with_reducible assumption | rfl) rfl ?_
      refine go_il2 (p := 106) hf_16 rfl rfl ?_
      refine go_iconst (p := 107) hf_16 rfl rfl ci_4 ?_
      refine go_isub (p := 108) hf_16 rfl rfl (by first | exact subn (by omega) | exact rfl) ?_
      refine go_iald (p := 109) hf_16 rfl rfl (by first | with_reducible assumption | rfl) (by first | rfl | with_reducible assumption) (by first | exact rfl | with_reducible assumption) (by omega) (by first | with_reducible assumption | ((repeat rewrite [up_k]) <;> first | with_reducible assumption | decide | omega) | exact rfl) ?_
      refine go_ret1 hf_16 rfl nl_16 ?_
      refine ⟨_, _, rfl, rfl, ?_, rfl⟩
      unfold sw11
      rw [if_neg (by decide), if_neg (by decide), if_neg (by decide), if_neg (by decide), if_neg (by decide), if_pos rfl]
    · refine ⟨83, 101, by rw [h18c]; rfl, rfl, ?_⟩
      obtain rfl : a1 = nI 6 := toInt_nI h18c (by omega)
      refine go_al3 (p := 102) hf_16 rfl rfl ?_
      refine go_getr (p := 105) hf_16 ho_16 rfl fl_0_162 rfl (by first | with_reducible assumption | rfl) rfl ?_
      refine go_il2 (p := 106) hf_16 rfl rfl ?_
      refine go_iconst (p := 107) hf_16 rfl rfl ci_4 ?_
      refine go_isub (p := 108) hf_16 rfl rfl (by first | exact subn (by omega) | exact rfl) ?_
      refine go_iald (p := 109) hf_16 rfl rfl (by first | with_reducible assumption | rfl) (by first | rfl | with_reducible assumption) (by first | exact rfl | with_reducible assumption) (by omega) (by first | with_reducible assumption | ((repeat rewrite [up_k]) <;> first | with_reducible assumption | decide | omega) | exact rfl) ?_
      refine go_ret1 hf_16 rfl nl_16 ?_
      refine ⟨_, _, rfl, rfl, ?_, rfl⟩
      unfold sw11
      rw [if_neg (by decide), if_neg (by decide), if_neg (by decide), if_neg (by decide), if_neg (by decide), if_neg (by decide), if_pos rfl]
    · refine ⟨92, 110, by rw [h18c]; rfl, rfl, ?_⟩
      obtain rfl : a1 = nI 7 := toInt_nI h18c (by omega)
      refine go_al3 (p := 111) hf_16 rfl rfl ?_
      refine go_getr (p := 114) hf_16 ho_16 rfl fl_0_60 rfl (by first | with_reducible assumption | rfl) rfl ?_
      refine go_get (p := 117) hf_16 ho_16 rfl fl_0_98 rfl (by first | with_reducible assumption | rfl) rfl (by first | with_reducible assumption | ((repeat rewrite [up_k]) <;> first | with_reducible assumption | decide | omega) | exact rfl) ?_
      refine go_ret1 hf_16 rfl nl_16 ?_
      refine ⟨_, _, rfl, rfl, ?_, rfl⟩
      unfold sw11
      rw [if_neg (by decide), if_neg (by decide), if_neg (by decide), if_neg (by decide), if_neg (by decide), if_neg (by decide), if_neg (by decide), if_pos rfl]
    · refine ⟨100, 118, by rw [h18c]; rfl, rfl, ?_⟩
      obtain rfl : a1 = nI 8 := toInt_nI h18c (by omega)
      refine go_al3 (p := 119) hf_16 rfl rfl ?_
      refine go_getr (p := 122) hf_16 ho_16 rfl fl_0_60 rfl (by first | with_reducible assumption | rfl) rfl ?_
      refine go_get (p := 125) hf_16 ho_16 rfl fl_0_165 rfl (by first | with_reducible assumption | rfl) rfl (by first | with_reducible assumption | ((repeat rewrite [up_k]) <;> first | with_reducible assumption | decide | omega) | exact rfl) ?_
      refine go_ret1 hf_16 rfl nl_16 ?_
      refine ⟨_, _, rfl, rfl, ?_, rfl⟩
      unfold sw11
      rw [if_neg (by decide), if_neg (by decide), if_neg (by decide), if_neg (by decide), if_neg (by decide), if_neg (by decide), if_neg (by decide), if_neg (by decide), if_pos rfl]
    · refine ⟨108, 126, by rw [h18c]; rfl, rfl, ?_⟩
      obtain rfl : a1 = nI 9 := toInt_nI h18c (by omega)
      refine go_al3 (p := 127) hf_16 rfl rfl ?_
      refine go_getr (p := 130) hf_16 ho_16 rfl fl_0_60 rfl (by first | with_reducible assumption | rfl) rfl ?_
      refine go_get (p := 133) hf_16 ho_16 rfl fl_0_74 rfl (by first | with_reducible assumption | rfl) rfl (by first | with_reducible assumption | ((repeat rewrite [up_k]) <;> first | with_reducible assumption | decide | omega) | exact rfl) ?_
      refine go_ret1 hf_16 rfl nl_16 ?_
      refine ⟨_, _, rfl, rfl, ?_, rfl⟩
      unfold sw11
      rw [if_neg (by decide), if_neg (by decide), if_neg (by decide), if_neg (by decide), if_neg (by decide), if_neg (by decide), if_neg (by decide), if_neg (by decide), if_neg (by decide), if_pos rfl]
    · refine ⟨116, 134, by rw [h18c]; rfl, rfl, ?_⟩
      obtain rfl : a1 = nI 10 := toInt_nI h18c (by omega)
      refine go_al3 (p := 135) hf_16 rfl rfl ?_
      refine go_get (p := 138) hf_16 ho_16 rfl fl_0_113 rfl (by first | with_reducible assumption | rfl) rfl (by first | with_reducible assumption | ((repeat rewrite [up_k]) <;> first | with_reducible assumption | decide | omega) | exact rfl) ?_
      refine go_ret1 hf_16 rfl nl_16 ?_
      refine ⟨_, _, rfl, rfl, ?_, rfl⟩
      unfold sw11
      rw [if_neg (by decide), if_neg (by decide), if_neg (by decide), if_neg (by decide), if_neg (by decide), if_neg (by decide), if_neg (by decide), if_neg (by decide), if_neg (by decide), if_neg (by decide), if_pos rfl]
theorem c_device0 {M : sm_M} {a0 a1 : Int32} (hbad : ¬ ∃ n, n < 3 ∧ a0 = nI n) : cr 16 1 21 [.ref 0, .int a0, .int a1] M (fun v M1 => v = some (.int (-1)) ∧ M1 = M) := by
  intro X J rc rs d lw hd hw
  show sm_wp tb_T X tb_ok d lw 16 0 [some (.ref 0), some (.int a0), some (.int a1), none] [] _ _
  refine go_il1 (p := 1) hf_16 rfl rfl ?_
  refine go_iconst (p := 2) hf_16 rfl rfl ci_3 ?_
  refine go_cw2 (p := 5) hf_16 rfl rfl (inv_s ho_16 cl_0_48) (by decide) nl_2 rfl rfl rfl rfl rfl rfl (by omega) (by omega) (c_isBelow) ?_
  intro v9 M9 h9
  rewrite [h9.1, h9.2]
  clear h9 v9 M9
  simp only [Option.toList, List.cons_append, List.nil_append]
  refine go_if_ne (p := 8) (p2 := 10) hf_16 rfl rfl rfl (fun h5 => absurd ((below_iff (by omega)).mp (bI_n0.mp h5)) hbad) (fun h5 => ?_)
  refine go_iconst (p := 9) hf_16 rfl rfl ci_m1 ?_
  refine go_ret1 hf_16 rfl nl_16 ?_
  exact ⟨_, _, rfl, rfl, rfl, rfl⟩
theorem c_leak0 {M : sm_M} {a0 : Int32} (hbad : ¬ ∃ n, n ≤ 8 ∧ a0 = nI n) : cr 11 0 0 [.ref 0, .int a0] M (fun v M1 => v = some (.int (-1)) ∧ M1 = M) := by
  intro X J rc rs d lw hd hw
  show sm_wp tb_T X tb_ok d lw 11 0 [some (.ref 0), some (.int a0), none] [] _ _
  refine go_il1 (p := 1) hf_11 rfl rfl ?_
  refine go_if_lt (p := 4) (p2 := 10) hf_11 rfl rfl rfl (fun h1 => ?_) (fun h1 => ?_)
  · refine go_iconst (p := 11) hf_11 rfl rfl ci_m1 ?_
    refine go_ret1 hf_11 rfl nl_11 ?_
    exact ⟨_, _, rfl, rfl, rfl, rfl⟩
  · refine go_il1 (p := 5) hf_11 rfl rfl ?_
    refine go_bipush (p := 7) hf_11 rfl rfl cb_8 ?_
    refine go_ic_le (p := 10) (p2 := 12) hf_11 rfl rfl rfl (fun h7 => absurd ⟨_, (rng_nI (a := 0) (b := 8) (by omega) h1 (fun h => i32_nlt.mpr h7 h) (by omega)).choose_spec.2⟩ hbad) (fun h7 => ?_)
    refine go_iconst (p := 11) hf_11 rfl rfl ci_m1 ?_
    refine go_ret1 hf_11 rfl nl_11 ?_
    exact ⟨_, _, rfl, rfl, rfl, rfl⟩
theorem c_leak {M : sm_M} {n : Nat} {ts : List T3} {gs : Nat → Prop} (hn : n ≤ 8) (hT : TW M ts) (hX : OX M ts.length gs) : cr 11 3 69 [.ref 0, .int (nI n)] M (fun v M1 => (∃ ts1 v1, mkC ts (nI 0) (nI n) (-1) = (ts1, v1) ∧ v = some (.int v1) ∧ TW M1 ts1 ∧ OX M1 ts1.length (fun j => (j < ts.length ∧ gs j) ∨ v1 = nI j)) ∧ ∀ p, (p = 0 ∨ 7 < p) → M1 p = M p) := by
  intro X J rc rs d lw hd hw
  show sm_wp tb_T X tb_ok d lw 11 0 [some (.ref 0), some (.int (nI n)), none] [] _ _
  have hN9 := hT.1.2.1.2.1
  have hN := hT.1.2.1.1
  have h01 := (OX_OA hX).1
  refine go_il1 (p := 1) hf_11 rfl rfl ?_
  refine go_if_lt (p := 4) (p2 := 10) hf_11 rfl rfl rfl (fun h1 => absurd h1 (nI_pos (by omega))) (fun h1 => ?_)
  refine go_il1 (p := 5) hf_11 rfl rfl ?_
  refine go_bipush (p := 7) hf_11 rfl rfl cb_8 ?_
  first | refine go_nn_le (p := 10) (p2 := 12) hf_11 rfl rfl rfl (by omega) (by omega) (fun h7 => ?_) (fun h7 => absurd (by omega) h7) | refine go_ic_le (p := 10) (p2 := 12) hf_11 rfl rfl rfl (fun h7 => ?_) (fun h7 => absurd (by omega) h7)
  refine go_al0 (p := 13) hf_11 rfl rfl ?_
  refine go_getr (p := 16) hf_11 ho_11 rfl fl_0_10 rfl (by first | with_reducible assumption | rfl) rfl ?_
  refine go_iconst (p := 17) hf_11 rfl rfl ci_0 ?_
  refine go_il1 (p := 18) hf_11 rfl rfl ?_
  refine go_iconst (p := 19) hf_11 rfl rfl ci_m1 ?_
  refine go_cw4 (p := 22) hf_11 rfl rfl (inv_v ho_11 cl_0_146) (by decide) nl_39 rfl rfl (by first | rfl | exact rcv_of (by with_reducible assumption)) rfl rfl rfl (by omega) (by omega) (c_make (k := 0) (by omega) hT.1 (Or.inr ⟨0, okY_m1⟩)) ?_
  rintro v9 M2 ⟨⟨ts1, v1, eM, rfl, t2⟩, f2⟩
  simp only [Option.toList, List.cons_append, List.nil_append]
  refine go_is2 (p := 23) hf_11 rfl rfl ?_
  have hwt : wt ts1 := by
    rcases mkC_form eM with ⟨-, e⟩ | ⟨b, -, -, e | ⟨e, -⟩⟩
    · rw [e]; exact hT.2
    · rw [e]; exact hT.2
    · rw [e]; exact wt_snoc hT.2 (Or.inl ⟨Or.inl rfl, rfl, n, by omega, rfl⟩)
  refine go_al0 (p := 24) hf_11 rfl rfl ?_
  refine go_getr (p := 27) hf_11 ho_11 rfl fl_0_10 rfl (by first | with_reducible assumption | rfl) rfl ?_
  refine go_il2 (p := 28) hf_11 rfl rfl ?_
  refine go_cw2 (p := 31) hf_11 rfl rfl (inv_v ho_11 cl_0_116) (by decide) nl_35 rfl rfl (by first | rfl | exact rcv_of (by with_reducible assumption)) rfl rfl rfl (by omega) (by omega) (c_rev (TC_self t2) hwt (OA_mk hT.1 hX t2).1) ?_
  rintro v9 M3 ⟨rfl, hR⟩
  have f3 := RV_fr hR
  simp only [Option.toList, List.cons_append, List.nil_append]
  refine go_il2 (p := 32) hf_11 rfl rfl ?_
  refine go_ret1 hf_11 rfl nl_11 ?_
  refine ⟨_, _, rfl, rfl, ⟨ts1, v1, eM, rfl, ⟨TC_open (TC_self t2) f3, hwt⟩, ?_⟩, fun p hp => by rw [f3 p (by omega)]; exact f2 p hp⟩
  rcases mkC_form eM with ⟨e1, e2⟩ | ⟨b, e1, rfl, e3⟩
  · subst e2
    rw [e1] at hR ⊢
    rw [RV_m2 hN9 hR]
    exact OX_gs ((OA_mk hT.1 hX t2).2 rfl) (fun j hj => ⟨fun q => Or.inl ⟨hj, q⟩, fun q => q.elim (fun q => q.2) (fun q => absurd q.symm (nI_m1b (by omega)))⟩)
  · refine mk_rev hT.1 hX t2 hR (t_lt e1) ?_
    rcases e3 with e3 | ⟨-, e3⟩
    · exact Or.inl e3
    · exact Or.inr ⟨by omega, _, e1, by show ¬ nI 0 = nI 1; decide⟩
theorem c_build {M : sm_M} {a0 a1 a2 : Int32} {ts : List T3} {gs : Nat → Prop} (hT : TW M ts) (hX : OX M ts.length gs) : cr 10 3 69 [.ref 0, .int a0, .int a1, .int a2] M (fun v M1 => ∃ u, v = some (.int u) ∧ ((¬ (∃ kk x y, 2 ≤ kk ∧ kk ≤ 5 ∧ a0 = nI kk ∧ x < ts.length ∧ a1 = nI x ∧ M 5 x = 1 ∧ y < ts.length ∧ a2 = nI y ∧ M 5 y = 1) ∧ u = -1 ∧ M1 = M) ∨ ((∃ kk x y, 2 ≤ kk ∧ kk ≤ 5 ∧ a0 = nI kk ∧ x < ts.length ∧ a1 = nI x ∧ M 5 x = 1 ∧ y < ts.length ∧ a2 = nI y ∧ M 5 y = 1) ∧ (∃ ts1, mkC ts a0 a1 a2 = (ts1, u) ∧ TW M1 ts1 ∧ OX M1 ts1.length (fun j => j < ts.length ∧ gs j)) ∧ ∀ p, (p = 0 ∨ 7 < p) → M1 p = M p))) := by
  intro X J rc rs d lw hd hw
  show sm_wp tb_T X tb_ok d lw 10 0 [some (.ref 0), some (.int a0), some (.int a1), some (.int a2), none] [] _ _
  have hN9 := hT.1.2.1.2.1
  have hN := hT.1.2.1.1
  have h01 := (OX_OA hX).1
  refine go_il1 (p := 1) hf_10 rfl rfl ?_
  refine go_iconst (p := 2) hf_10 rfl rfl ci_2 ?_
  refine go_ic_lt (p := 5) (p2 := 32) hf_10 rfl rfl rfl (fun h2 => ?_) (fun h2 => ?_)
  · refine go_iconst (p := 33) hf_10 rfl rfl ci_m1 ?_
    refine go_ret1 hf_10 rfl nl_10 ?_
    exact ⟨_, _, rfl, rfl, _, rfl, Or.inl ⟨fun ⟨kk, x, y, g1, g2, g3, _⟩ => by
      rw [g3, nI_ltI (by omega) (by omega)] at h2
      omega, rfl, rfl⟩⟩
  · refine go_il1 (p := 6) hf_10 rfl rfl ?_
    refine go_iconst (p := 7) hf_10 rfl rfl ci_5 ?_
    refine go_ic_gt (p := 10) (p2 := 32) hf_10 rfl rfl rfl (fun h7 => ?_) (fun h7 => ?_)
    · refine go_iconst (p := 33) hf_10 rfl rfl ci_m1 ?_
      refine go_ret1 hf_10 rfl nl_10 ?_
      exact ⟨_, _, rfl, rfl, _, rfl, Or.inl ⟨fun ⟨kk, x, y, g1, g2, g3, _⟩ => by
        rw [g3, nI_ltI (by omega) (by omega)] at h7
        omega, rfl, rfl⟩⟩
    · refine go_al0 (p := 11) hf_10 rfl rfl ?_
      refine go_getr (p := 14) hf_10 ho_10 rfl fl_0_10 rfl (by first | with_reducible assumption | rfl) rfl ?_
      refine go_il2 (p := 15) hf_10 rfl rfl ?_
      refine go_cw2 (p := 18) hf_10 rfl rfl (inv_v ho_10 cl_0_142) (by decide) nl_38 rfl rfl (by first | rfl | exact rcv_of (by with_reducible assumption)) rfl rfl rfl (by omega) (by omega) (c_isKnown hN hN9 h01) ?_
      intro v9 M9 h9
      rewrite [h9.1, h9.2]
      clear h9 v9 M9
      simp only [Option.toList, List.cons_append, List.nil_append]
      refine go_if_eq (p := 21) (p2 := 32) hf_10 rfl rfl rfl (fun h18 => ?_) (fun h18 => ?_)
      · refine go_iconst (p := 33) hf_10 rfl rfl ci_m1 ?_
        refine go_ret1 hf_10 rfl nl_10 ?_
        exact ⟨_, _, rfl, rfl, _, rfl, Or.inl ⟨fun ⟨kk, x, y, _, _, _, g4, g5, g6, _⟩ => bI_0.mp h18 ⟨x, g4, g5, g6⟩, rfl, rfl⟩⟩
      · refine go_al0 (p := 22) hf_10 rfl rfl ?_
        refine go_getr (p := 25) hf_10 ho_10 rfl fl_0_10 rfl (by first | with_reducible assumption | rfl) rfl ?_
        refine go_il3 (p := 26) hf_10 rfl rfl ?_
        refine go_cw2 (p := 29) hf_10 rfl rfl (inv_v ho_10 cl_0_142) (by decide) nl_38 rfl rfl (by first | rfl | exact rcv_of (by with_reducible assumption)) rfl rfl rfl (by omega) (by omega) (c_isKnown hN hN9 h01) ?_
        intro v9 M9 h9
        rewrite [h9.1, h9.2]
        clear h9 v9 M9
        simp only [Option.toList, List.cons_append, List.nil_append]
        refine go_if_ne (p := 32) (p2 := 34) hf_10 rfl rfl rfl (fun h29 => ?_) (fun h29 => ?_)
        · obtain ⟨kk, hk2, hk5, rfl⟩ := rng_nI (by omega) h2 h7 (by omega)
          obtain ⟨x, hx, rfl, ox⟩ := bI_n0.mp h18
          obtain ⟨y, hy, rfl, oy⟩ := bI_n0.mp h29
          refine go_al0 (p := 35) hf_10 rfl rfl ?_
          refine go_getr (p := 38) hf_10 ho_10 rfl fl_0_10 rfl (by first | with_reducible assumption | rfl) rfl ?_
          refine go_il1 (p := 39) hf_10 rfl rfl ?_
          refine go_il2 (p := 40) hf_10 rfl rfl ?_
          refine go_il3 (p := 41) hf_10 rfl rfl ?_
          refine go_cw4 (p := 44) hf_10 rfl rfl (inv_v ho_10 cl_0_146) (by decide) nl_39 rfl rfl (by first | rfl | exact rcv_of (by with_reducible assumption)) rfl rfl rfl (by omega) (by omega) (c_make (k := kk) (by omega) hT.1 (Or.inr ⟨y + 1, okY_n (by omega)⟩)) ?_
          rintro v9 M2 ⟨⟨ts1, v1, eM, rfl, t2⟩, f2⟩
          simp only [Option.toList, List.cons_append, List.nil_append]
          refine go_is4 (p := 46) hf_10 rfl rfl ?_
          have hwt : wt ts1 := by
            rcases mkC_form eM with ⟨-, e⟩ | ⟨b, -, -, e | ⟨e, -⟩⟩
            · rw [e]; exact hT.2
            · rw [e]; exact hT.2
            · rw [e]; exact wt_snoc hT.2 (Or.inr ⟨kk, x, y, hk2, hk5, rfl, hx, hy, rfl, rfl⟩)
          refine go_al0 (p := 47) hf_10 rfl rfl ?_
          refine go_getr (p := 50) hf_10 ho_10 rfl fl_0_10 rfl (by first | with_reducible assumption | rfl) rfl ?_
          refine go_il4 (p := 52) hf_10 rfl rfl ?_
          refine go_cw2 (p := 55) hf_10 rfl rfl (inv_v ho_10 cl_0_116) (by decide) nl_35 rfl rfl (by first | rfl | exact rcv_of (by with_reducible assumption)) rfl rfl rfl (by omega) (by omega) (c_rev (TC_self t2) hwt (OA_mk hT.1 hX t2).1) ?_
          rintro v9 M3 ⟨rfl, hR⟩
          have f3 := RV_fr hR
          simp only [Option.toList, List.cons_append, List.nil_append]
          refine go_il4 (p := 57) hf_10 rfl rfl ?_
          refine go_ret1 hf_10 rfl nl_10 ?_
          refine ⟨_, _, rfl, rfl, _, rfl, Or.inr ⟨⟨kk, x, y, hk2, hk5, rfl, hx, rfl, ox, hy, rfl, oy⟩, ⟨ts1, eM, ⟨TC_open (TC_self t2) f3, hwt⟩, ?_⟩, fun p hp => by rw [f3 p (by omega)]; exact f2 p hp⟩⟩
          have hA := (OA_mk hT.1 hX t2).1
          have hle : ts.length ≤ ts1.length := by obtain ⟨r, e⟩ := t2.1; rw [e]; simp
          rcases mkC_form eM with ⟨e1, e2⟩ | ⟨b, e1, rfl, e3⟩
          · subst e2
            rw [e1] at hR
            rw [RV_m2 hN9 hR]
            exact OX_gs ((OA_mk hT.1 hX t2).2 rfl) (fun j hj => ⟨fun q => ⟨hj, q⟩, fun q => q.2⟩)
          · have hbl := t_lt e1
            have h91 := t2.2.1.2.1
            have hm := mk_rev hT.1 hX t2 hR hbl (by
              rcases e3 with e3 | ⟨-, e3⟩
              · exact Or.inl e3
              · refine Or.inr ⟨by omega, _, e1, ?_⟩
                show ¬ nI kk = nI 1
                rw [nI_eq (by omega) (by omega)]
                omega)
            refine OX_drop h91 hbl hm ?_
            rw [f3 2 (by omega), f3 3 (by omega), f3 4 (by omega)]
            obtain ⟨a1, a2, a3⟩ := t2.2.1.2.2 b _ e1
            have dx := hA.2.2 x (by omega) (by rw [t2.2.2.2.2.1 x hx]; exact ox)
            have dy := hA.2.2 y (by omega) (by rw [t2.2.2.2.2.1 y hy]; exact oy)
            rcases hwt b _ e1 with ⟨q, -⟩ | ⟨kk', a', b', -, -, -, g4, g5, g6, g7⟩
            · exfalso
              rcases q with q | q
              · exact absurd ((nI_eq (by omega) (by omega)).mp q) (by omega)
              · exact absurd ((nI_eq (by omega) (by omega)).mp q) (by omega)
            · have ea : x = a' := (nI_eq (by omega) (by omega)).mp g6
              have eb : y = b' := (nI_eq (by omega) (by omega)).mp g7
              subst ea eb
              refine (Dv_cl b x y hbl g4 g5 a2 a3 ?_ ?_).1 dx dy
              · rw [a1]; show ¬ nI kk = nI 0; rw [nI_eq (by omega) (by omega)]; omega
              · rw [a1]; show ¬ nI kk = nI 1; rw [nI_eq (by omega) (by omega)]; omega
        · refine go_iconst (p := 33) hf_10 rfl rfl ci_m1 ?_
          refine go_ret1 hf_10 rfl nl_10 ?_
          exact ⟨_, _, rfl, rfl, _, rfl, Or.inl ⟨fun ⟨kk, x, y, _, _, _, _, _, _, g4, g5, g6⟩ => bI_0.mp h29 ⟨y, g4, g5, g6⟩, rfl, rfl⟩⟩
theorem c_sendHeld {M : sm_M} {a0 : Int32} {ts : List T3} {gs : Nat → Prop} {ms : List (Int32 × Int32 × Int32 × Int32)} (hT : TW M ts) (hX : OX M ts.length gs) (hm : ml (M 12 4) (M 13) (M 14) (M 15) (M 16) ms) : cr 4 3 69 [.ref 0, .int a0] M (fun v M1 => v = none ∧ TW M1 ts ∧ OX M1 ts.length (fun j => gs j ∨ M 0 5 = nI j) ∧ ml (M1 12 4) (M1 13) (M1 14) (M1 15) (M1 16) (if ms.length < 12 then ms ++ [(nI 2, a0, -1, M 0 5)] else ms) ∧ ∀ p, p ≠ 5 → (p < 12 ∨ 16 < p) → M1 p = M p) := by
  intro X J rc rs d lw hd hw
  show sm_wp tb_T X tb_ok d lw 4 0 [some (.ref 0), some (.int a0)] [] _ _
  have hN9 := hT.1.2.1.2.1
  have hN := hT.1.2.1.1
  have h01 := (OX_OA hX).1
  refine go_al0 (p := 1) hf_4 rfl rfl ?_
  refine go_getr (p := 4) hf_4 ho_4 rfl fl_0_10 rfl (by first | with_reducible assumption | rfl) rfl ?_
  refine go_al0 (p := 5) hf_4 rfl rfl ?_
  refine go_get (p := 8) hf_4 ho_4 rfl fl_0_44 rfl (by first | with_reducible assumption | rfl) rfl (by first | with_reducible assumption | ((repeat rewrite [up_k]) <;> first | with_reducible assumption | decide | omega) | exact rfl) ?_
  refine go_cw2 (p := 11) hf_4 rfl rfl (inv_v ho_4 cl_0_116) (by decide) nl_35 rfl rfl (by first | rfl | exact rcv_of (by with_reducible assumption)) rfl rfl rfl (by omega) (by omega) (c_rev hT.1 hT.2 (OX_OA hX)) ?_
  rintro v9 M2 ⟨rfl, hR⟩
  have f2 := RV_fr hR
  simp only [Option.toList, List.cons_append, List.nil_append]
  refine go_al0 (p := 12) hf_4 rfl rfl ?_
  refine go_getr (p := 15) hf_4 ho_4 rfl fl_0_26 rfl (by first | with_reducible assumption | rfl) rfl ?_
  refine go_iconst (p := 16) hf_4 rfl rfl ci_2 ?_
  refine go_il1 (p := 17) hf_4 rfl rfl ?_
  refine go_iconst (p := 18) hf_4 rfl rfl ci_m1 ?_
  refine go_al0 (p := 19) hf_4 rfl rfl ?_
  refine go_get (p := 22) hf_4 ho_4 rfl fl_0_44 rfl (by first | with_reducible assumption | rfl) rfl (by rw [f2 0 (by omega)]) ?_
  refine go_cw5 (p := 25) hf_4 rfl rfl (inv_v ho_4 cl_0_105) (by decide) nl_56 rfl rfl (by first | rfl | exact rcv_of (by with_reducible assumption)) rfl rfl rfl (by omega) (by omega) (c_msend (ms := ms) (by rw [f2 12 (by omega), f2 13 (by omega), f2 14 (by omega), f2 15 (by omega), f2 16 (by omega)]; exact hm)) ?_
  rintro v9 M3 ⟨rfl, e3, f3⟩
  simp only [Option.toList, List.cons_append, List.nil_append]
  refine go_ret0 hf_4 rfl nl_4 ?_
  refine ⟨_, _, rfl, rfl, rfl, ⟨TC_self (TC_keep (TC_open hT.1 f2) (fun p h1 h2 => f3 p (by omega))), hT.2⟩, OX_keep (RV_OX hN9 hR hX) (fun p h1 h2 => f3 p (by omega)), e3, fun p h1 h2 => by rw [f3 p h2, f2 p h1]⟩
def trC (M : sm_M) (q : Nat) (ts : List T3) (a1 : Int32) (l : List Nat) (M1 : sm_M) : Prop := ((∀ g2 ow2 pw2 vv2 l2, SL (M 2) (M 3) (M 4) ts.length a1 g2 ow2 pw2 vv2 l2 → ¬ (M q 3 = 0 ∧ (∀ j, j < 3 → M (q + 5) j ≤ nI (vv2 j)) ∧ (mg id (fun w => ¬ kn (M (q + 1 + 1)) w) l2 (mg id (fun w => w ∈ l2 ∨ ¬ kn (fun j => nI (vv2 j)) w) l [])).length ≤ 12)) ∧ ∀ p, p ≠ q + 1 + 3 → (p < 36 ∨ 38 < p) → M1 p = M p) ∨ (∃ g2 ow2 pw2 vv2 l2, SL (M 2) (M 3) (M 4) ts.length a1 g2 ow2 pw2 vv2 l2 ∧ (M q 3 = 0 ∧ (∀ j, j < 3 → M (q + 5) j ≤ nI (vv2 j)) ∧ (mg id (fun w => ¬ kn (M (q + 1 + 1)) w) l2 (mg id (fun w => w ∈ l2 ∨ ¬ kn (fun j => nI (vv2 j)) w) l [])).length ≤ 12) ∧ es M1 (q + 1) (mg id (fun w => ¬ kn (M (q + 1 + 1)) w) l2 (mg id (fun w => w ∈ l2 ∨ ¬ kn (fun j => nI (vv2 j)) w) l [])) ∧ (∀ j, j < 3 → M1 (q + 1 + 1) j = mxI (M (q + 1 + 1) j) (nI (vv2 j))) ∧ (((M (q + 1) 0 < nI g2 ∨ nI g2 = M (q + 1) 0 ∧ nI ow2 < M (q + 1) 1) ∧ M1 (q + 1) 0 = nI g2 ∧ M1 (q + 1) 1 = nI ow2 ∧ M1 (q + 1) 2 = nI pw2) ∨ (¬ (M (q + 1) 0 < nI g2 ∨ nI g2 = M (q + 1) 0 ∧ nI ow2 < M (q + 1) 1) ∧ ∀ j, j < 3 → M1 (q + 1) j = M (q + 1) j)) ∧ (∀ j, j < 3 → M1 (q + 5) j = nI (vv2 j)) ∧ M1 q 2 = a1 ∧ M1 q 3 = M q 3 ∧ ∀ p, (p < q ∨ q + 5 < p) → (p < 36 ∨ 38 < p) → M1 p = M p)
theorem c_takeReply {M : sm_M} {q k : Nat} {a1 : Int32} {g ow pw : Nat} {vv : Nat → Nat} {l : List Nat} {ts : List T3} {gs : Nat → Prop} (hdv : dvq k q) (hC : dC M q g ow pw vv l) (h3 : M q 3 = 0 ∨ M q 3 = 1) (hT : TW M ts) (hX : OX M ts.length gs) : cr 3 5 148 [.ref 0, .int (nI k), .int a1] M (fun v M1 => v = none ∧ trC M q ts a1 l M1) := by
  intro X J rc rs d lw hd hw
  show sm_wp tb_T X tb_ok d lw 3 0 [some (.ref 0), some (.int (nI k)), some (.int a1), none] [] _ _
  have hk := hdv.1
  have hq := hdv.2.1
  have hz := hdv.2.2.1
  have hsh := hdv.2.2.2.1
  obtain ⟨s1, s2, s3, s4⟩ := id hdv.2.2.2.2.1
  have s5 := hdv.2.2.2.2.2
  have hN9 := hT.1.2.1.2.1
  have hN := hT.1.2.1.1
  have h01 := (OX_OA hX).1
  have hq2 := tq_T hT.1
  have knc : ∀ {M2 : sm_M} {vv2 : Nat → Nat}, (∀ j, j < 3 → M2 37 j = nI (vv2 j)) → (fun w => kn (M2 37) w) = fun w => kn (fun j => nI (vv2 j)) w := fun {M2 vv2} h => by
    funext w
    apply propext
    unfold kn
    constructor
    · rintro ⟨a, b⟩; exact ⟨a, by rw [h _ a] at b; exact b⟩
    · rintro ⟨a, b⟩; exact ⟨a, by rw [h _ a]; exact b⟩
  refine go_al0 (p := 1) hf_3 rfl rfl ?_
  refine go_getr (p := 4) hf_3 ho_3 rfl fl_0_32 rfl (by first | with_reducible assumption | rfl) rfl ?_
  refine go_il1 (p := 5) hf_3 rfl rfl ?_
  refine go_aald (p := 6) hf_3 rfl rfl (by first | with_reducible assumption | rfl) (by first | rfl | with_reducible assumption) (by first | exact rfl | with_reducible assumption) hz ?_
  refine go_as3 (p := 7) hf_3 rfl rfl ?_
  refine go_al3 (p := 8) hf_3 rfl rfl ?_
  refine go_get (p := 11) hf_3 ho_3 rfl fl_0_56 rfl (by first | with_reducible assumption | rfl) rfl (by first | with_reducible assumption | ((repeat rewrite [up_k]) <;> first | with_reducible assumption | decide | omega) | exact rfl) ?_
  refine go_if_ne (p := 14) (p2 := 47) hf_3 rfl rfl rfl (fun h11 => ?_) (fun h11 => ?_)
  · refine go_ret0 hf_3 rfl nl_3 ?_
    refine ⟨_, _, rfl, rfl, rfl, Or.inl ⟨fun g2 ow2 pw2 vv2 l2 _ hacc => h11 hacc.1, fun _ _ _ => rfl⟩⟩
  · refine go_al0 (p := 15) hf_3 rfl rfl ?_
    refine go_getr (p := 18) hf_3 ho_3 rfl fl_0_19 rfl (by first | with_reducible assumption | rfl) rfl ?_
    refine go_al0 (p := 19) hf_3 rfl rfl ?_
    refine go_getr (p := 22) hf_3 ho_3 rfl fl_0_10 rfl (by first | with_reducible assumption | rfl) rfl ?_
    refine go_il2 (p := 23) hf_3 rfl rfl ?_
    refine go_al0 (p := 24) hf_3 rfl rfl ?_
    refine go_getr (p := 27) hf_3 ho_3 rfl fl_0_40 rfl (by first | with_reducible assumption | rfl) rfl ?_
    refine go_cw4 (p := 30) hf_3 rfl rfl (inv_v ho_3 cl_0_168) (by decide) nl_44 rfl rfl (by first | rfl | exact rcv_of (by with_reducible assumption)) rfl rfl rfl (by omega) (by omega) (c_read hq2) ?_
    rintro v9 M2 ⟨rfl, h2, f2⟩
    simp only [Option.toList, List.cons_append, List.nil_append]
    refine go_if_eq (p := 33) (p2 := 47) hf_3 rfl rfl rfl (fun h30 => ?_) (fun h30 => ?_)
    · refine go_ret0 hf_3 rfl nl_3 ?_
      refine ⟨_, _, rfl, rfl, rfl, Or.inl ⟨fun g2 ow2 pw2 vv2 l2 hSL _ => bI_0.mp h30 ⟨g2, ow2, pw2, vv2, l2, hSL⟩, fun p _ hp => f2 p hp⟩⟩
    · refine go_al0 (p := 34) hf_3 rfl rfl ?_
      refine go_getr (p := 37) hf_3 ho_3 rfl fl_0_40 rfl (by first | with_reducible assumption | rfl) rfl ?_
      refine go_al3 (p := 38) hf_3 rfl rfl ?_
      refine go_getr (p := 41) hf_3 ho_3 rfl fl_0_162 rfl (by first | with_reducible assumption | rfl) rfl ?_
      refine go_cw2 (p := 44) hf_3 rfl rfl (inv_v ho_3 cl_0_172) (by decide) nl_64 rfl rfl (by first | rfl | exact rcv_of (by with_reducible assumption)) rfl rfl rfl (by omega) (by omega) (c_isAbove stq_36 s5) ?_
      intro v9 M9 h9
      rewrite [h9.1, h9.2]
      clear h9 v9 M9
      simp only [Option.toList, List.cons_append, List.nil_append]
      refine go_if_ne (p := 47) (p2 := 48) hf_3 rfl rfl rfl (fun h44 => ?_) (fun h44 => ?_)
      · obtain ⟨g2, ow2, pw2, vv2, l2, hSL⟩ := bI_n0.mp h30
        obtain ⟨k1, k2, k3, k4, k5, k6⟩ := h2 _ _ _ _ _ hSL
        have hab := bI_n0.mp h44
        refine go_al3 (p := 49) hf_3 rfl rfl ?_
        refine go_getr (p := 52) hf_3 ho_3 rfl fl_0_60 rfl (by first | with_reducible assumption | rfl) rfl ?_
        refine go_al0 (p := 53) hf_3 rfl rfl ?_
        refine go_getr (p := 56) hf_3 ho_3 rfl fl_0_40 rfl (by first | with_reducible assumption | rfl) rfl ?_
        refine go_cw2 (p := 59) hf_3 rfl rfl (inv_v ho_3 cl_0_176) (by decide) nl_65 rfl rfl (by first | rfl | exact rcv_of (by with_reducible assumption)) rfl rfl rfl (by omega) (by omega) (c_merge hdv.2.2.2.2.1 (by omega) (es_keep hC.2.2.2.2 (f2 _ (by omega)) (f2 _ (by omega))) k5) ?_
        rintro v9 M3 hmg0
        have ekn := knc k4
        have ek2 : (fun w => w ∈ l2 ∨ ¬ kn (M2 37) w) = fun w => w ∈ l2 ∨ ¬ kn (fun j => nI (vv2 j)) w := by
          funext w
          rw [congrFun ekn w]
        rw [ek2, f2 (q + 1 + 1) (by omega)] at hmg0
        obtain ⟨u9, rfl, hmg⟩ : ∃ u, v9 = some (.int u) ∧ ((12 < (mg id (fun w => ¬ kn (M (q + 1 + 1)) w) l2 (mg id (fun w => w ∈ l2 ∨ ¬ kn (fun j => nI (vv2 j)) w) l [])).length ∧ u = nI 0 ∧ ∀ a, a ≠ q + 1 + 3 → M3 a = M2 a) ∨ ((mg id (fun w => ¬ kn (M (q + 1 + 1)) w) l2 (mg id (fun w => w ∈ l2 ∨ ¬ kn (fun j => nI (vv2 j)) w) l [])).length ≤ 12 ∧ u = nI 1 ∧ es M3 (q + 1) (mg id (fun w => ¬ kn (M (q + 1 + 1)) w) l2 (mg id (fun w => w ∈ l2 ∨ ¬ kn (fun j => nI (vv2 j)) w) l [])) ∧ (∀ j, j < 3 → M3 (q + 1 + 1) j = mxI (M (q + 1 + 1) j) (M2 37 j)) ∧ ((nwr M2 (q + 1) 36 ∧ ∀ j, j < 3 → M3 (q + 1) j = M2 36 j) ∨ (¬ nwr M2 (q + 1) 36 ∧ ∀ j, j < 3 → M3 (q + 1) j = M2 (q + 1) j)) ∧ ∀ a, (a < q + 1 ∨ q + 1 + 3 < a) → M3 a = M2 a)) := by
          rcases hmg0 with ⟨a, rfl, b⟩ | ⟨a, rfl, b⟩
          · exact ⟨_, rfl, Or.inl ⟨a, rfl, b⟩⟩
          · exact ⟨_, rfl, Or.inr ⟨a, rfl, b⟩⟩
        simp only [Option.toList, List.cons_append, List.nil_append]
        refine go_if_ne (p := 62) (p2 := 63) hf_3 rfl rfl rfl (fun h59 => ?_) (fun h59 => ?_)
        · obtain ⟨m1, m2, m3, m4, m5⟩ : (mg id (fun w => ¬ kn (M (q + 1 + 1)) w) l2 (mg id (fun w => w ∈ l2 ∨ ¬ kn (fun j => nI (vv2 j)) w) l [])).length ≤ 12 ∧ es M3 (q + 1) (mg id (fun w => ¬ kn (M (q + 1 + 1)) w) l2 (mg id (fun w => w ∈ l2 ∨ ¬ kn (fun j => nI (vv2 j)) w) l [])) ∧ (∀ j, j < 3 → M3 (q + 1 + 1) j = mxI (M (q + 1 + 1) j) (M2 37 j)) ∧ ((nwr M2 (q + 1) 36 ∧ ∀ j, j < 3 → M3 (q + 1) j = M2 36 j) ∨ (¬ nwr M2 (q + 1) 36 ∧ ∀ j, j < 3 → M3 (q + 1) j = M2 (q + 1) j)) ∧ ∀ a, (a < q + 1 ∨ q + 1 + 3 < a) → M3 a = M2 a := by
            rcases hmg with ⟨-, e, -⟩ | ⟨a, -, b⟩
            · exact absurd e (fun e => h59 (by rw [e]; rfl))
            · exact ⟨a, b⟩
          refine go_al0 (p := 64) hf_3 rfl rfl ?_
          refine go_getr (p := 67) hf_3 ho_3 rfl fl_0_40 rfl (by first | with_reducible assumption | rfl) rfl ?_
          refine go_getr (p := 70) hf_3 ho_3 rfl fl_0_70 rfl (by first | with_reducible assumption | rfl) rfl ?_
          refine go_iconst (p := 71) hf_3 rfl rfl ci_0 ?_
          refine go_al3 (p := 72) hf_3 rfl rfl ?_
          refine go_getr (p := 75) hf_3 ho_3 rfl fl_0_162 rfl (by first | with_reducible assumption | rfl) rfl ?_
          refine go_iconst (p := 76) hf_3 rfl rfl ci_0 ?_
          refine go_iconst (p := 77) hf_3 rfl rfl ci_3 ?_
          refine go_acp (p := 80) hf_3 ho_3 rfl cl_0_180 rfl rfl (by omega) (by omega) (by first | assumption | rfl) (by first | assumption | rfl) rfl rfl rfl (by omega) (by omega) rfl rfl ?_
          refine go_al3 (p := 81) hf_3 rfl rfl ?_
          refine go_il2 (p := 82) hf_3 rfl rfl ?_
          refine go_put (p := 85) hf_3 ho_3 rfl fl_0_113 rfl (by first | with_reducible assumption | rfl) rfl (Or.inl rfl) ?_
          refine go_ret0 hf_3 rfl nl_3 ?_
          refine ⟨_, _, rfl, rfl, rfl, Or.inr ⟨g2, ow2, pw2, vv2, l2, hSL, ⟨h11, fun j hj => ?_, m1⟩, ?_, fun j hj => ?_, ?_, fun j hj => ?_, up_s, ?_, fun p h1 h2 => ?_⟩⟩
          · have := hab j hj
            rw [k4 j hj, f2 (q + 5) (by omega)] at this
            exact this
          · exact es_keep (es_keep (M2 := sm_uf M3 (q + 5) (va_cpy (M3 37) (M3 (q + 5)) 0 0 3)) m2 (by unfold sm_uf; rw [if_neg (by omega)]) (by unfold sm_uf; rw [if_neg (by omega)])) (by unfold sm_up; rw [if_neg (by omega)]) (by unfold sm_up; rw [if_neg (by omega)])
          · rw [up_k (by omega)]
            unfold sm_uf
            rw [if_neg (by omega), m3 j hj, k4 j hj]
          · have e1 : ∀ j, sm_up (sm_uf M3 (q + 5) (va_cpy (M3 37) (M3 (q + 5)) 0 0 3)) q 2 a1 (q + 1) j = M3 (q + 1) j := fun j => by
              rw [up_k (by omega)]
              unfold sm_uf
              rw [if_neg (by omega)]
            have e2 : M2 (q + 1) = M (q + 1) := f2 _ (by omega)
            unfold nwr at m4
            rw [k1, k2, e2] at m4
            rcases m4 with ⟨m4, m6⟩ | ⟨m4, m6⟩
            · exact Or.inl ⟨m4, by rw [e1, m6 0 (by omega)]; exact k1, by rw [e1, m6 1 (by omega)]; exact k2, by rw [e1, m6 2 (by omega)]; exact k3⟩
            · exact Or.inr ⟨m4, fun j hj => by rw [e1, m6 j hj]⟩
          · rw [up_k (by omega)]
            unfold sm_uf
            rw [if_pos rfl]
            have e3 : M3 37 = M2 37 := m5 37 (by omega)
            rw [e3]
            unfold va_cpy
            rw [if_pos (by omega), show 0 + (j - 0) = j by omega]
            exact k4 j hj
          · rw [up_i (by omega)]
            unfold sm_uf
            rw [if_neg (by omega), m5 q (by omega), f2 q (by omega)]
          · have e1 : sm_up (sm_uf M3 (q + 5) (va_cpy (M3 37) (M3 (q + 5)) 0 0 3)) q 2 a1 p = M3 p := by
              unfold sm_up
              rw [if_neg (by omega)]
              unfold sm_uf
              rw [if_neg (by omega)]
            rw [e1, m5 p (by omega), f2 p h2]
        · refine go_ret0 hf_3 rfl nl_3 ?_
          rcases hmg with ⟨a, -, b⟩ | ⟨-, e, -⟩
          · refine ⟨_, _, rfl, rfl, rfl, Or.inl ⟨fun g3 ow3 pw3 vv3 l3 hSL3 hacc => ?_, fun p h1 h2 => by rw [b p h1]; exact f2 p h2⟩⟩
            obtain ⟨-, -, -, e4, e5⟩ := SL_fun hSL3 hSL
            subst e5
            have e6 : (fun w => w ∈ l3 ∨ ¬ kn (fun j => nI (vv3 j)) w) = fun w => w ∈ l3 ∨ ¬ kn (fun j => nI (vv2 j)) w := by
              funext w
              apply propext
              unfold kn
              constructor
              · rintro (h | h)
                · exact Or.inl h
                · exact Or.inr (fun ⟨a, b⟩ => h ⟨a, by show _ ≤ nI (vv3 _); rw [e4 _ a]; exact b⟩)
              · rintro (h | h)
                · exact Or.inl h
                · exact Or.inr (fun ⟨a, b⟩ => h ⟨a, by show _ ≤ nI (vv2 _); rw [← e4 _ a]; exact b⟩)
            have h12 := hacc.2.2
            rw [e6] at h12
            omega
          · exact absurd h59 (by rw [e]; exact nI_10)
      · refine go_ret0 hf_3 rfl nl_3 ?_
        refine ⟨_, _, rfl, rfl, rfl, Or.inl ⟨fun g2 ow2 pw2 vv2 l2 hSL hacc => bI_0.mp h44 (fun j hj => ?_), fun p _ hp => f2 p hp⟩⟩
        rw [(h2 _ _ _ _ _ hSL).2.2.2.1 j hj, f2 (q + 5) (by omega)]
        exact hacc.2.1 j hj
theorem c_deliver0 {M : sm_M} {a0 : Int32} {ms : List (Int32 × Int32 × Int32 × Int32)} (hm : ml (M 12 4) (M 13) (M 14) (M 15) (M 16) ms) (hbad : ¬ (∃ i, i < ms.length ∧ a0 = nI i)) : cr 1 1 21 [.ref 0, .int a0] M (fun v M1 => v = some (.int (nI 0)) ∧ M1 = M) := by
  intro X J rc rs d lw hd hw
  show sm_wp tb_T X tb_ok d lw 1 0 [some (.ref 0), some (.int a0), none, none, none, none] [] _ _
  have h12 := hm.2.1
  refine go_il1 (p := 1) hf_1 rfl rfl ?_
  refine go_al0 (p := 2) hf_1 rfl rfl ?_
  refine go_getr (p := 5) hf_1 ho_1 rfl fl_0_26 rfl (by first | with_reducible assumption | rfl) rfl ?_
  refine go_get (p := 8) hf_1 ho_1 rfl fl_0_119 rfl (by first | with_reducible assumption | rfl) rfl hm.1 ?_
  refine go_cw2 (p := 11) hf_1 rfl rfl (inv_s ho_1 cl_0_48) (by decide) nl_2 rfl rfl rfl rfl rfl rfl (by omega) (by omega) (c_isBelow) ?_
  intro v9 M9 h9
  rewrite [h9.1, h9.2]
  clear h9 v9 M9
  simp only [Option.toList, List.cons_append, List.nil_append]
  refine go_if_ne (p := 14) (p2 := 16) hf_1 rfl rfl rfl (fun h11 => absurd ((below_iff (by omega)).mp (bI_n0.mp h11)) hbad) (fun h11 => ?_)
  refine go_iconst (p := 15) hf_1 rfl rfl ci_0 ?_
  refine go_ret2 hf_1 rfl nl_1 (by first | exact Or.inl rfl | exact Or.inr rfl | with_reducible assumption) ?_
  exact ⟨_, _, rfl, rfl, rfl, rfl⟩
theorem c_deliverR {M : sm_M} {q k i : Nat} {b t : Int32} {g ow pw : Nat} {vv : Nat → Nat} {l : List Nat} {ts : List T3} {gs : Nat → Prop} {ms : List (Int32 × Int32 × Int32 × Int32)} (hm : ml (M 12 4) (M 13) (M 14) (M 15) (M 16) ms) (hi : ms[i]? = some (nI 2, nI k, b, t)) (hdv : dvq k q) (hC : dC M q g ow pw vv l) (h3 : M q 3 = 0 ∨ M q 3 = 1) (hT : TW M ts) (hX : OX M ts.length gs) : cr 1 6 171 [.ref 0, .int (nI i)] M (fun v M1 => v = some (.int (nI 1)) ∧ ∃ M2 : sm_M, ml (M2 12 4) (M2 13) (M2 14) (M2 15) (M2 16) (ms.eraseIdx i) ∧ (∀ a j, ¬ (a = 12 ∧ j = 4) → (a < 13 ∨ 16 < a) → M2 a j = M a j) ∧ trC M2 q ts t l M1) := by
  intro X J rc rs d lw hd hw
  show sm_wp tb_T X tb_ok d lw 1 0 [some (.ref 0), some (.int (nI i)), none, none, none, none] [] _ _
  have hk := hdv.1
  have hq := hdv.2.1
  have hz := hdv.2.2.1
  have hsh := hdv.2.2.2.1
  obtain ⟨s1, s2, s3, s4⟩ := id hdv.2.2.2.2.1
  have s5 := hdv.2.2.2.2.2
  have h12 := hm.2.1
  have hil : i < ms.length := (List.getElem?_eq_some_iff.mp hi).1
  obtain ⟨z1, z2, z3, z4⟩ := hm.2.2 i _ hi
  refine go_il1 (p := 1) hf_1 rfl rfl ?_
  refine go_al0 (p := 2) hf_1 rfl rfl ?_
  refine go_getr (p := 5) hf_1 ho_1 rfl fl_0_26 rfl (by first | with_reducible assumption | rfl) rfl ?_
  refine go_get (p := 8) hf_1 ho_1 rfl fl_0_119 rfl (by first | with_reducible assumption | rfl) rfl hm.1 ?_
  refine go_cw2 (p := 11) hf_1 rfl rfl (inv_s ho_1 cl_0_48) (by decide) nl_2 rfl rfl rfl rfl rfl rfl (by omega) (by omega) (c_isBelow) ?_
  intro v9 M9 h9
  rewrite [h9.1, h9.2]
  clear h9 v9 M9
  simp only [Option.toList, List.cons_append, List.nil_append]
  refine go_if_ne (p := 14) (p2 := 16) hf_1 rfl rfl rfl (fun h11 => ?_) (fun h11 => absurd ((below_iff (by omega)).mpr ⟨i, hil, rfl⟩) (bI_0.mp h11))
  refine go_al0 (p := 17) hf_1 rfl rfl ?_
  refine go_getr (p := 20) hf_1 ho_1 rfl fl_0_26 rfl (by first | with_reducible assumption | rfl) rfl ?_
  refine go_getr (p := 23) hf_1 ho_1 rfl fl_0_120 rfl (by first | with_reducible assumption | rfl) rfl ?_
  refine go_il1 (p := 24) hf_1 rfl rfl ?_
  refine go_iald (p := 25) hf_1 rfl rfl (by first | with_reducible assumption | rfl) (by first | rfl | with_reducible assumption) (by first | exact rfl | with_reducible assumption) (by omega) z1 ?_
  refine go_is2 (p := 26) hf_1 rfl rfl ?_
  refine go_al0 (p := 27) hf_1 rfl rfl ?_
  refine go_getr (p := 30) hf_1 ho_1 rfl fl_0_26 rfl (by first | with_reducible assumption | rfl) rfl ?_
  refine go_getr (p := 33) hf_1 ho_1 rfl fl_0_123 rfl (by first | with_reducible assumption | rfl) rfl ?_
  refine go_il1 (p := 34) hf_1 rfl rfl ?_
  refine go_iald (p := 35) hf_1 rfl rfl (by first | with_reducible assumption | rfl) (by first | rfl | with_reducible assumption) (by first | exact rfl | with_reducible assumption) (by omega) z2 ?_
  refine go_is3 (p := 36) hf_1 rfl rfl ?_
  refine go_al0 (p := 37) hf_1 rfl rfl ?_
  refine go_getr (p := 40) hf_1 ho_1 rfl fl_0_26 rfl (by first | with_reducible assumption | rfl) rfl ?_
  refine go_getr (p := 43) hf_1 ho_1 rfl fl_0_126 rfl (by first | with_reducible assumption | rfl) rfl ?_
  refine go_il1 (p := 44) hf_1 rfl rfl ?_
  refine go_iald (p := 45) hf_1 rfl rfl (by first | with_reducible assumption | rfl) (by first | rfl | with_reducible assumption) (by first | exact rfl | with_reducible assumption) (by omega) z3 ?_
  refine go_is4 (p := 47) hf_1 rfl rfl ?_
  refine go_al0 (p := 48) hf_1 rfl rfl ?_
  refine go_getr (p := 51) hf_1 ho_1 rfl fl_0_26 rfl (by first | with_reducible assumption | rfl) rfl ?_
  refine go_getr (p := 54) hf_1 ho_1 rfl fl_0_129 rfl (by first | with_reducible assumption | rfl) rfl ?_
  refine go_il1 (p := 55) hf_1 rfl rfl ?_
  refine go_iald (p := 56) hf_1 rfl rfl (by first | with_reducible assumption | rfl) (by first | rfl | with_reducible assumption) (by first | exact rfl | with_reducible assumption) (by omega) z4 ?_
  refine go_is5 (p := 58) hf_1 rfl rfl ?_
  refine go_al0 (p := 59) hf_1 rfl rfl ?_
  refine go_getr (p := 62) hf_1 ho_1 rfl fl_0_26 rfl (by first | with_reducible assumption | rfl) rfl ?_
  refine go_il1 (p := 63) hf_1 rfl rfl ?_
  refine go_cw2 (p := 66) hf_1 rfl rfl (inv_v ho_1 cl_0_132) (by decide) nl_55 rfl rfl (by first | rfl | exact rcv_of (by with_reducible assumption)) rfl rfl rfl (by omega) (by omega) (c_mremove hm hil) ?_
  rintro v9 M2 ⟨rfl, e2, f2⟩
  have F2 : ∀ p, (p < 12 ∨ 16 < p) → M2 p = M p := fun p hp => by funext j; exact f2 p j (by omega) (by omega)
  have T2 : TW M2 ts := ⟨TC_self (TC_keep hT.1 (fun p h1 h2 => F2 p (by omega))), hT.2⟩
  have X2 : OX M2 ts.length gs := OX_keep hX (fun p h1 h2 => F2 p (by omega))
  simp only [Option.toList, List.cons_append, List.nil_append]
  refine go_il2 (p := 67) hf_1 rfl rfl ?_
  refine go_iconst (p := 68) hf_1 rfl rfl ci_2 ?_
  refine go_ic_ne (p := 71) (p2 := 80) hf_1 rfl rfl rfl (fun h68 => absurd rfl h68) (fun h68 => ?_)
  refine go_al0 (p := 72) hf_1 rfl rfl ?_
  refine go_il3 (p := 73) hf_1 rfl rfl ?_
  refine go_il5 (p := 75) hf_1 rfl rfl ?_
  refine go_cw3 (p := 78) hf_1 rfl rfl (inv_v ho_1 cl_0_135) (by decide) nl_3 rfl rfl (by first | rfl | exact rcv_of (by with_reducible assumption)) rfl rfl rfl (by omega) (by omega) (c_takeReply hdv (g := g) (ow := ow) (pw := pw) (vv := vv) (l := l) (by unfold dC; rw [F2 (q + 1) (by omega), F2 (q + 1 + 1) (by omega)]; exact ⟨hC.1, hC.2.1, hC.2.2.1, hC.2.2.2.1, es_keep hC.2.2.2.2 (F2 _ (by omega)) (F2 _ (by omega))⟩) (by rw [F2 q (by omega)]; exact h3) T2 X2) ?_
  rintro v9 M3 ⟨rfl, h9⟩
  simp only [Option.toList, List.cons_append, List.nil_append]
  refine go_iconst (p := 79) hf_1 rfl rfl ci_1 ?_
  refine go_ret2 hf_1 rfl nl_1 (by first | exact Or.inl rfl | exact Or.inr rfl | with_reducible assumption) ?_
  exact ⟨_, _, rfl, rfl, rfl, M2, e2, f2, h9⟩
noncomputable def hdN (kd b t h : Int32) : Int32 := if kd = nI 1 ∧ b = h then t else h
theorem c_deliverS {M : sm_M} {i : Nat} {kd a b t : Int32} {ts : List T3} {gs : Nat → Prop} {ms : List (Int32 × Int32 × Int32 × Int32)} (hm : ml (M 12 4) (M 13) (M 14) (M 15) (M 16) ms) (hi : ms[i]? = some (kd, a, b, t)) (hkd : ¬ kd = nI 2) (hT : TW M ts) (hX : OX M ts.length gs) : cr 1 4 90 [.ref 0, .int (nI i)] M (fun v M1 => v = some (.int (nI 1)) ∧ TW M1 ts ∧ OX M1 ts.length (fun j => gs j ∨ hdN kd b t (M 0 5) = nI j) ∧ ml (M1 12 4) (M1 13) (M1 14) (M1 15) (M1 16) (if (ms.eraseIdx i).length < 12 then ms.eraseIdx i ++ [(nI 2, a, -1, hdN kd b t (M 0 5))] else ms.eraseIdx i) ∧ M1 0 5 = hdN kd b t (M 0 5) ∧ ∀ p j, ¬ (p = 0 ∧ j = 5) → p ≠ 5 → (p < 12 ∨ 16 < p) → M1 p j = M p j) := by
  intro X J rc rs d lw hd hw
  show sm_wp tb_T X tb_ok d lw 1 0 [some (.ref 0), some (.int (nI i)), none, none, none, none] [] _ _
  have h12 := hm.2.1
  have hil : i < ms.length := (List.getElem?_eq_some_iff.mp hi).1
  obtain ⟨z1, z2, z3, z4⟩ := hm.2.2 i _ hi
  refine go_il1 (p := 1) hf_1 rfl rfl ?_
  refine go_al0 (p := 2) hf_1 rfl rfl ?_
  refine go_getr (p := 5) hf_1 ho_1 rfl fl_0_26 rfl (by first | with_reducible assumption | rfl) rfl ?_
  refine go_get (p := 8) hf_1 ho_1 rfl fl_0_119 rfl (by first | with_reducible assumption | rfl) rfl hm.1 ?_
  refine go_cw2 (p := 11) hf_1 rfl rfl (inv_s ho_1 cl_0_48) (by decide) nl_2 rfl rfl rfl rfl rfl rfl (by omega) (by omega) (c_isBelow) ?_
  intro v9 M9 h9
  rewrite [h9.1, h9.2]
  clear h9 v9 M9
  simp only [Option.toList, List.cons_append, List.nil_append]
  refine go_if_ne (p := 14) (p2 := 16) hf_1 rfl rfl rfl (fun h11 => ?_) (fun h11 => absurd ((below_iff (by omega)).mpr ⟨i, hil, rfl⟩) (bI_0.mp h11))
  refine go_al0 (p := 17) hf_1 rfl rfl ?_
  refine go_getr (p := 20) hf_1 ho_1 rfl fl_0_26 rfl (by first | with_reducible assumption | rfl) rfl ?_
  refine go_getr (p := 23) hf_1 ho_1 rfl fl_0_120 rfl (by first | with_reducible assumption | rfl) rfl ?_
  refine go_il1 (p := 24) hf_1 rfl rfl ?_
  refine go_iald (p := 25) hf_1 rfl rfl (by first | with_reducible assumption | rfl) (by first | rfl | with_reducible assumption) (by first | exact rfl | with_reducible assumption) (by omega) z1 ?_
  refine go_is2 (p := 26) hf_1 rfl rfl ?_
  refine go_al0 (p := 27) hf_1 rfl rfl ?_
  refine go_getr (p := 30) hf_1 ho_1 rfl fl_0_26 rfl (by first | with_reducible assumption | rfl) rfl ?_
  refine go_getr (p := 33) hf_1 ho_1 rfl fl_0_123 rfl (by first | with_reducible assumption | rfl) rfl ?_
  refine go_il1 (p := 34) hf_1 rfl rfl ?_
  refine go_iald (p := 35) hf_1 rfl rfl (by first | with_reducible assumption | rfl) (by first | rfl | with_reducible assumption) (by first | exact rfl | with_reducible assumption) (by omega) z2 ?_
  refine go_is3 (p := 36) hf_1 rfl rfl ?_
  refine go_al0 (p := 37) hf_1 rfl rfl ?_
  refine go_getr (p := 40) hf_1 ho_1 rfl fl_0_26 rfl (by first | with_reducible assumption | rfl) rfl ?_
  refine go_getr (p := 43) hf_1 ho_1 rfl fl_0_126 rfl (by first | with_reducible assumption | rfl) rfl ?_
  refine go_il1 (p := 44) hf_1 rfl rfl ?_
  refine go_iald (p := 45) hf_1 rfl rfl (by first | with_reducible assumption | rfl) (by first | rfl | with_reducible assumption) (by first | exact rfl | with_reducible assumption) (by omega) z3 ?_
  refine go_is4 (p := 47) hf_1 rfl rfl ?_
  refine go_al0 (p := 48) hf_1 rfl rfl ?_
  refine go_getr (p := 51) hf_1 ho_1 rfl fl_0_26 rfl (by first | with_reducible assumption | rfl) rfl ?_
  refine go_getr (p := 54) hf_1 ho_1 rfl fl_0_129 rfl (by first | with_reducible assumption | rfl) rfl ?_
  refine go_il1 (p := 55) hf_1 rfl rfl ?_
  refine go_iald (p := 56) hf_1 rfl rfl (by first | with_reducible assumption | rfl) (by first | rfl | with_reducible assumption) (by first | exact rfl | with_reducible assumption) (by omega) z4 ?_
  refine go_is5 (p := 58) hf_1 rfl rfl ?_
  refine go_al0 (p := 59) hf_1 rfl rfl ?_
  refine go_getr (p := 62) hf_1 ho_1 rfl fl_0_26 rfl (by first | with_reducible assumption | rfl) rfl ?_
  refine go_il1 (p := 63) hf_1 rfl rfl ?_
  refine go_cw2 (p := 66) hf_1 rfl rfl (inv_v ho_1 cl_0_132) (by decide) nl_55 rfl rfl (by first | rfl | exact rcv_of (by with_reducible assumption)) rfl rfl rfl (by omega) (by omega) (c_mremove hm hil) ?_
  rintro v9 M2 ⟨rfl, e2, f2⟩
  have F2 : ∀ p, (p < 12 ∨ 16 < p) → M2 p = M p := fun p hp => by funext j; exact f2 p j (by omega) (by omega)
  have T2 : TW M2 ts := ⟨TC_self (TC_keep hT.1 (fun p h1 h2 => F2 p (by omega))), hT.2⟩
  have X2 : OX M2 ts.length gs := OX_keep hX (fun p h1 h2 => F2 p (by omega))
  simp only [Option.toList, List.cons_append, List.nil_append]
  refine go_il2 (p := 67) hf_1 rfl rfl ?_
  refine go_iconst (p := 68) hf_1 rfl rfl ci_2 ?_
  refine go_ic_ne (p := 71) (p2 := 80) hf_1 rfl rfl rfl (fun h68 => ?_) (fun h68 => absurd h68 hkd)
  refine go_il2 (p := 81) hf_1 rfl rfl ?_
  refine go_iconst (p := 82) hf_1 rfl rfl ci_1 ?_
  refine go_ic_ne (p := 85) (p2 := 100) hf_1 rfl rfl rfl (fun h82 => ?_) (fun h82 => ?_)
  · refine go_al0 (p := 101) hf_1 rfl rfl ?_
    refine go_il3 (p := 102) hf_1 rfl rfl ?_
    refine go_cw2 (p := 105) hf_1 rfl rfl (inv_v ho_1 cl_0_139) (by decide) nl_4 rfl rfl (by first | rfl | exact rcv_of (by with_reducible assumption)) rfl rfl rfl (by omega) (by omega) (c_sendHeld (ms := ms.eraseIdx i) (gs := gs) (ts := ts) T2 X2 e2) ?_
    rintro v9 M9 ⟨rfl, t9, x9, l9, f9⟩
    simp only [Option.toList, List.cons_append, List.nil_append]
    refine go_iconst (p := 106) hf_1 rfl rfl ci_1 ?_
    refine go_ret2 hf_1 rfl nl_1 (by first | exact Or.inl rfl | exact Or.inr rfl | with_reducible assumption) ?_
    have eh : hdN kd b t (M 0 5) = M 0 5 := if_neg (fun g => h82 g.1)
    rw [eh]
    rw [F2 0 (by omega)] at x9 l9
    refine ⟨_, _, rfl, rfl, rfl, t9, x9, l9, ?_, fun p j h1 h2 h3 => ?_⟩
    · rw [f9 0 (by omega) (by omega), F2 0 (by omega)]
    · rw [f9 p h2 h3, F2 p h3]
  · refine go_il4 (p := 87) hf_1 rfl rfl ?_
    refine go_al0 (p := 88) hf_1 rfl rfl ?_
    refine go_get (p := 91) hf_1 ho_1 rfl fl_0_44 rfl (by first | with_reducible assumption | rfl) rfl (by rw [F2 0 (by omega)]) ?_
    refine go_ic_ne (p := 94) (p2 := 100) hf_1 rfl rfl rfl (fun h91 => ?_) (fun h91 => ?_)
    · refine go_al0 (p := 101) hf_1 rfl rfl ?_
      refine go_il3 (p := 102) hf_1 rfl rfl ?_
      refine go_cw2 (p := 105) hf_1 rfl rfl (inv_v ho_1 cl_0_139) (by decide) nl_4 rfl rfl (by first | rfl | exact rcv_of (by with_reducible assumption)) rfl rfl rfl (by omega) (by omega) (c_sendHeld (ms := ms.eraseIdx i) (gs := gs) (ts := ts) T2 X2 e2) ?_
      rintro v9 M9 ⟨rfl, t9, x9, l9, f9⟩
      simp only [Option.toList, List.cons_append, List.nil_append]
      refine go_iconst (p := 106) hf_1 rfl rfl ci_1 ?_
      refine go_ret2 hf_1 rfl nl_1 (by first | exact Or.inl rfl | exact Or.inr rfl | with_reducible assumption) ?_
      have eh : hdN kd b t (M 0 5) = M 0 5 := if_neg (fun g => h91 g.2)
      rw [eh]
      rw [F2 0 (by omega)] at x9 l9
      refine ⟨_, _, rfl, rfl, rfl, t9, x9, l9, ?_, fun p j h1 h2 h3 => ?_⟩
      · rw [f9 0 (by omega) (by omega), F2 0 (by omega)]
      · rw [f9 p h2 h3, F2 p h3]
    · refine go_al0 (p := 95) hf_1 rfl rfl ?_
      refine go_il5 (p := 97) hf_1 rfl rfl ?_
      refine go_put (p := 100) hf_1 ho_1 rfl fl_0_44 rfl (by first | with_reducible assumption | rfl) rfl (Or.inl rfl) ?_
      refine go_al0 (p := 101) hf_1 rfl rfl ?_
      refine go_il3 (p := 102) hf_1 rfl rfl ?_
      refine go_cw2 (p := 105) hf_1 rfl rfl (inv_v ho_1 cl_0_139) (by decide) nl_4 rfl rfl (by first | rfl | exact rcv_of (by with_reducible assumption)) rfl rfl rfl (by omega) (by omega) (c_sendHeld (ms := ms.eraseIdx i) (gs := gs) (ts := ts) ⟨TC_self (TC_keep T2.1 (fun p h1 h2 => by unfold sm_up; rw [if_neg (by omega)])), hT.2⟩ (OX_keep X2 (fun p h1 h2 => by unfold sm_up; rw [if_neg (by omega)])) e2) ?_
      rintro v9 M9 ⟨rfl, t9, x9, l9, f9⟩
      simp only [Option.toList, List.cons_append, List.nil_append]
      refine go_iconst (p := 106) hf_1 rfl rfl ci_1 ?_
      refine go_ret2 hf_1 rfl nl_1 (by first | exact Or.inl rfl | exact Or.inr rfl | with_reducible assumption) ?_
      have eh : hdN kd b t (M 0 5) = t := if_pos ⟨h82, h91⟩
      rw [eh]
      rw [up_s] at x9 l9
      refine ⟨_, _, rfl, rfl, rfl, t9, x9, l9, ?_, fun p j h1 h2 h3 => ?_⟩
      · rw [f9 0 (by omega) (by omega), up_s]
      · rw [f9 p h2 h3, up_o (by omega), F2 p h3]
