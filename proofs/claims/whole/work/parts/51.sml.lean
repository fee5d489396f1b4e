/-! ===== small methods, mail ===== -/
noncomputable def bI (p : Prop) : Int32 := @ite _ p (Classical.propDecidable p) (nI 1) (nI 0)
theorem bI_t {p : Prop} (h : p) : bI p = nI 1 := if_pos h
theorem bI_f {p : Prop} (h : ¬ p) : bI p = nI 0 := if_neg h
theorem nI_10 : ¬ nI 1 = 0 := by decide
theorem bI_0 {p : Prop} : bI p = 0 ↔ ¬ p := by
  by_cases h : p
  · rw [bI_t h]; exact ⟨fun e => absurd e nI_10, fun e => absurd h e⟩
  · rw [bI_f h]; exact ⟨fun _ => h, fun _ => rfl⟩
theorem bI_n0 {p : Prop} : ¬ bI p = 0 ↔ p := by rw [bI_0, Classical.not_not]
theorem bI_01 {p : Prop} : bI p = 0 ∨ bI p = 1 := by
  by_cases h : p
  · rw [bI_t h]; exact Or.inr rfl
  · rw [bI_f h]; exact Or.inl rfl
theorem bI_congr {p q : Prop} (h : p ↔ q) : bI p = bI q := by rw [propext h]
theorem rcv_of {q ci : Nat} {fs : List (Option (Option Nat))} {vs : List Value} {h : sm_H} (hq : h.1[q]? = some (.inl (ci, fs))) : sm_rcv 4 ci (.ref q :: vs) h = true := by
  simp [sm_rcv, hq]
theorem i32_nlt {a b : Int32} : ¬ a < b ↔ b ≤ a := by rw [Int32.lt_iff_toInt_lt, Int32.le_iff_toInt_le]; omega
theorem i32_nle {a b : Int32} : ¬ a ≤ b ↔ b < a := by rw [Int32.lt_iff_toInt_lt, Int32.le_iff_toInt_le]; omega
theorem nI_of0 {x : Int32} {n : Nat} (h0 : ¬ x < 0) (h1 : x < nI n) (hn : n < 2 ^ 31) : ∃ k, k < n ∧ x = nI k := by
  obtain ⟨j, hj, rfl⟩ := nI_of h0
  exact ⟨j, (nI_ltI hj hn).mp h1, rfl⟩
/-- a row's entry, -1 where there is none -/
def rdAt (g : Nat → Int32) (N : Nat) (t : Int32) : Int32 := if ¬ t < 0 ∧ t < nI N then g t.toNatClampNeg else -1
theorem rdAt_t {g : Nat → Int32} {N k : Nat} (h : k < N) (hN : N < 2 ^ 31) : rdAt g N (nI k) = g k := by
  unfold rdAt
  rw [if_pos ⟨nI_pos (by omega), (nI_ltI (by omega) hN).mpr h⟩, nI_clamp (by omega)]
theorem rdAt_f {g : Nat → Int32} {N : Nat} {t : Int32} (h : t < 0 ∨ nI N ≤ t) : rdAt g N t = -1 := by
  unfold rdAt
  rw [if_neg]
  rintro ⟨g1, g2⟩
  rcases h with h | h
  · exact g1 h
  · exact i32_nlt.mpr h g2
theorem rdAt_in {g : Nat → Int32} {N : Nat} {t v : Int32} (hN : N < 2 ^ 31) (hv : ¬ v = -1) (h : rdAt g N t = v) : ∃ k, k < N ∧ t = nI k ∧ g k = v := by
  unfold rdAt at h
  split at h
  · next hc =>
    obtain ⟨k, hk, rfl⟩ := nI_of0 hc.1 hc.2 hN
    rw [nI_clamp (by omega)] at h
    exact ⟨k, hk, rfl, h⟩
  · exact absurd h.symm hv
theorem nI_m1 {n : Nat} (h : n < 2 ^ 31) : ¬ nI n = -1 := fun e => nI_pos h (by rw [e]; decide)
/-- the x of a term of a kind -/
def valF (g x : Nat → Int32) (N : Nat) (t k : Int32) : Int32 := if rdAt g N t = k then rdAt x N t else -1
def tailF (g b : Nat → Int32) (N : Nat) : Nat → Int32 → Int32
  | 0, t => t
  | n + 1, t => tailF g b N n (if rdAt g N t = nI 4 then rdAt b N t else -1)
theorem tailF_s {g b : Nat → Int32} {N n : Nat} {t : Int32} : tailF g b N (n + 1) t = tailF g b N n (if rdAt g N t = nI 4 then rdAt b N t else -1) := rfl
def partF (g x b : Nat → Int32) (N : Nat) (t : Int32) (n : Nat) : Int32 := valF g x N (tailF g b N n t) (nI 4)
theorem c_isBelow {M : sm_M} {n b : Int32} : cr 2 0 0 [.int n, .int b] M (fun v M1 => v = some (.int (bI (¬ n < 0 ∧ n < b))) ∧ M1 = M) := by
  intro X J rc rs d lw hd hw
  show sm_wp tb_T X tb_ok d lw 2 0 [some (.int n), some (.int b)] [] _ _
  refine go_il0 hf_2 rfl rfl ?_
  refine go_if_lt hf_2 rfl rfl rfl (fun h1 => ?_) (fun h1 => ?_)
  · refine go_iconst hf_2 rfl rfl ci_0 ?_
    refine go_ret2 hf_2 rfl nl_2 (by first | exact Or.inl rfl | exact Or.inr rfl | assumption) ?_
    exact ⟨_, _, rfl, rfl, by rw [bI_f (fun g => g.1 h1)], rfl⟩
  · refine go_il0 hf_2 rfl rfl ?_
    refine go_il1 hf_2 rfl rfl ?_
    first | refine go_nn_ge hf_2 rfl rfl rfl (by omega) (by omega) (fun h6 => ?_) (fun h6 => ?_) | refine go_ic_ge hf_2 rfl rfl rfl (fun h6 => ?_) (fun h6 => ?_)
    · refine go_iconst hf_2 rfl rfl ci_0 ?_
      refine go_ret2 hf_2 rfl nl_2 (by first | exact Or.inl rfl | exact Or.inr rfl | assumption) ?_
      exact ⟨_, _, rfl, rfl, by rw [bI_f (fun g => i32_nlt.mpr h6 g.2)], rfl⟩
    · refine go_iconst hf_2 rfl rfl ci_1 ?_
      refine go_goto hf_2 rfl rfl ?_
      refine go_ret2 hf_2 rfl nl_2 (by first | exact Or.inl rfl | exact Or.inr rfl | assumption) ?_
      exact ⟨_, _, rfl, rfl, by rw [bI_t ⟨h1, i32_nle.mp h6⟩], rfl⟩
theorem c_isDevice {M : sm_M} {n : Int32} : cr 75 0 0 [.int n] M (fun v M1 => v = some (.int (bI (¬ n < 0 ∧ n < nI 3))) ∧ M1 = M) := by
  intro X J rc rs d lw hd hw
  show sm_wp tb_T X tb_ok d lw 75 0 [some (.int n)] [] _ _
  refine go_il0 hf_75 rfl rfl ?_
  refine go_if_lt hf_75 rfl rfl rfl (fun h1 => ?_) (fun h1 => ?_)
  · refine go_iconst hf_75 rfl rfl ci_0 ?_
    refine go_ret2 hf_75 rfl nl_75 (by first | exact Or.inl rfl | exact Or.inr rfl | assumption) ?_
    exact ⟨_, _, rfl, rfl, by rw [bI_f (fun g => g.1 h1)], rfl⟩
  · refine go_il0 hf_75 rfl rfl ?_
    refine go_iconst hf_75 rfl rfl ci_3 ?_
    first | refine go_nn_ge hf_75 rfl rfl rfl (by omega) (by omega) (fun h6 => ?_) (fun h6 => ?_) | refine go_ic_ge hf_75 rfl rfl rfl (fun h6 => ?_) (fun h6 => ?_)
    · refine go_iconst hf_75 rfl rfl ci_0 ?_
      refine go_ret2 hf_75 rfl nl_75 (by first | exact Or.inl rfl | exact Or.inr rfl | assumption) ?_
      exact ⟨_, _, rfl, rfl, by rw [bI_f (fun g => i32_nlt.mpr h6 g.2)], rfl⟩
    · refine go_iconst hf_75 rfl rfl ci_1 ?_
      refine go_goto hf_75 rfl rfl ?_
      refine go_ret2 hf_75 rfl nl_75 (by first | exact Or.inl rfl | exact Or.inr rfl | assumption) ?_
      exact ⟨_, _, rfl, rfl, by rw [bI_t ⟨h1, i32_nle.mp h6⟩], rfl⟩
theorem c_isTerm {M : sm_M} {n : Int32} {N : Nat} (hN : M 40 1 = nI N) : cr 114 0 0 [.ref 40, .int n] M (fun v M1 => v = some (.int (bI (¬ n < 0 ∧ n < nI N))) ∧ M1 = M) := by
  intro X J rc rs d lw hd hw
  show sm_wp tb_T X tb_ok d lw 114 0 [some (.ref 40), some (.int n)] [] _ _
  refine go_il1 hf_114 rfl rfl ?_
  refine go_if_lt hf_114 rfl rfl rfl (fun h1 => ?_) (fun h1 => ?_)
  · refine go_iconst hf_114 rfl rfl ci_0 ?_
    refine go_ret2 hf_114 rfl nl_114 (by first | exact Or.inl rfl | exact Or.inr rfl | assumption) ?_
    exact ⟨_, _, rfl, rfl, by rw [bI_f (fun g => g.1 h1)], rfl⟩
  · refine go_il1 hf_114 rfl rfl ?_
    refine go_al0 hf_114 rfl rfl ?_
    refine go_get hf_114 ho_114 rfl fl_6_81 rfl (by first | assumption | rfl) rfl (by first | assumption | ((repeat rewrite [up_k]) <;> first | assumption | decide | omega) | exact rfl) ?_
    refine go_ic_ge hf_114 rfl rfl rfl (fun h9 => ?_) (fun h9 => ?_)
    · refine go_iconst hf_114 rfl rfl ci_0 ?_
      refine go_ret2 hf_114 rfl nl_114 (by first | exact Or.inl rfl | exact Or.inr rfl | assumption) ?_
      exact ⟨_, _, rfl, rfl, by rw [bI_f (fun g => i32_nlt.mpr h9 g.2)], rfl⟩
    · refine go_iconst hf_114 rfl rfl ci_1 ?_
      refine go_goto hf_114 rfl rfl ?_
      refine go_ret2 hf_114 rfl nl_114 (by first | exact Or.inl rfl | exact Or.inr rfl | assumption) ?_
      exact ⟨_, _, rfl, rfl, by rw [bI_t ⟨h1, i32_nle.mp h9⟩], rfl⟩
theorem c_kindOf {M : sm_M} {t : Int32} {N : Nat} (hN : M 1 6 = nI N) (hN9 : N ≤ 900) : cr 31 0 0 [.ref 1, .int t] M (fun v M1 => v = some (.int (rdAt (M 2) N t)) ∧ M1 = M) := by
  intro X J rc rs d lw hd hw
  show sm_wp tb_T X tb_ok d lw 31 0 [some (.ref 1), some (.int t)] [] _ _
  refine go_il1 hf_31 rfl rfl ?_
  refine go_if_lt hf_31 rfl rfl rfl (fun h1 => ?_) (fun h1 => ?_)
  · refine go_iconst hf_31 rfl rfl ci_m1 ?_
    refine go_ret1 hf_31 rfl nl_31 ?_
    exact ⟨_, _, rfl, rfl, by rw [rdAt_f (Or.inl h1)], rfl⟩
  · refine go_il1 hf_31 rfl rfl ?_
    refine go_al0 hf_31 rfl rfl ?_
    refine go_get hf_31 ho_31 rfl fl_1_37 rfl (by first | assumption | rfl) rfl (by first | assumption | ((repeat rewrite [up_k]) <;> first | assumption | decide | omega) | exact rfl) ?_
    refine go_ic_ge hf_31 rfl rfl rfl (fun h9 => ?_) (fun h9 => ?_)
    · refine go_iconst hf_31 rfl rfl ci_m1 ?_
      refine go_ret1 hf_31 rfl nl_31 ?_
      exact ⟨_, _, rfl, rfl, by rw [rdAt_f (Or.inr h9)], rfl⟩
    · obtain ⟨k, hk, rfl⟩ := nI_of0 h1 (i32_nle.mp h9) (by omega)
      refine go_al0 hf_31 rfl rfl ?_
      refine go_getr hf_31 ho_31 rfl fl_1_9 rfl (by first | assumption | rfl) rfl ?_
      refine go_il1 hf_31 rfl rfl ?_
      refine go_iald hf_31 rfl rfl (by first | assumption | rfl) (by first | rfl | assumption) (by first | exact rfl | assumption) (by omega) (by first | assumption | ((repeat rewrite [up_k]) <;> first | assumption | decide | omega) | exact rfl) ?_
      refine go_goto hf_31 rfl rfl ?_
      refine go_ret1 hf_31 rfl nl_31 ?_
      exact ⟨_, _, rfl, rfl, by rw [rdAt_t hk (by omega)], rfl⟩
theorem c_xOf {M : sm_M} {t : Int32} {N : Nat} (hN : M 1 6 = nI N) (hN9 : N ≤ 900) : cr 33 1 21 [.ref 1, .int t] M (fun v M1 => v = some (.int (rdAt (M 3) N t)) ∧ M1 = M) := by
  intro X J rc rs d lw hd hw
  show sm_wp tb_T X tb_ok d lw 33 0 [some (.ref 1), some (.int t)] [] _ _
  refine go_il1 hf_33 rfl rfl ?_
  refine go_al0 hf_33 rfl rfl ?_
  refine go_get hf_33 ho_33 rfl fl_1_37 rfl (by first | assumption | rfl) rfl (by first | assumption | ((repeat rewrite [up_k]) <;> first | assumption | decide | omega) | exact rfl) ?_
  refine go_call hf_33 rfl rfl (inv_s ho_33 cl_1_41) (by decide) nl_2 rfl rfl rfl rfl rfl rfl rfl rfl rfl (by omega) (by omega) (c_isBelow) ?_
  intro v9 M9 h9
  rewrite [h9.1, h9.2]
  clear h9 v9 M9
  refine go_if_eq hf_33 rfl rfl rfl (fun h8 => ?_) (fun h8 => ?_)
  · refine go_iconst hf_33 rfl rfl ci_m1 ?_
    refine go_ret1 hf_33 rfl nl_33 ?_
    exact ⟨_, _, rfl, rfl, by unfold rdAt; rw [if_neg (bI_0.mp h8)], rfl⟩
  · obtain ⟨g1, g2⟩ := bI_n0.mp h8
    obtain ⟨k, hk, rfl⟩ := nI_of0 g1 g2 (by omega)
    refine go_al0 hf_33 rfl rfl ?_
    refine go_getr hf_33 ho_33 rfl fl_1_15 rfl (by first | assumption | rfl) rfl ?_
    refine go_il1 hf_33 rfl rfl ?_
    refine go_iald hf_33 rfl rfl (by first | assumption | rfl) (by first | rfl | assumption) (by first | exact rfl | assumption) (by omega) (by first | assumption | ((repeat rewrite [up_k]) <;> first | assumption | decide | omega) | exact rfl) ?_
    refine go_goto hf_33 rfl rfl ?_
    refine go_ret1 hf_33 rfl nl_33 ?_
    exact ⟨_, _, rfl, rfl, by rw [rdAt_t hk (by omega)], rfl⟩
theorem c_yOf {M : sm_M} {t : Int32} {N : Nat} (hN : M 1 6 = nI N) (hN9 : N ≤ 900) : cr 32 1 21 [.ref 1, .int t] M (fun v M1 => v = some (.int (rdAt (M 4) N t)) ∧ M1 = M) := by
  intro X J rc rs d lw hd hw
  show sm_wp tb_T X tb_ok d lw 32 0 [some (.ref 1), some (.int t)] [] _ _
  refine go_il1 hf_32 rfl rfl ?_
  refine go_al0 hf_32 rfl rfl ?_
  refine go_get hf_32 ho_32 rfl fl_1_37 rfl (by first | assumption | rfl) rfl (by first | assumption | ((repeat rewrite [up_k]) <;> first | assumption | decide | omega) | exact rfl) ?_
  refine go_call hf_32 rfl rfl (inv_s ho_32 cl_1_41) (by decide) nl_2 rfl rfl rfl rfl rfl rfl rfl rfl rfl (by omega) (by omega) (c_isBelow) ?_
  intro v9 M9 h9
  rewrite [h9.1, h9.2]
  clear h9 v9 M9
  refine go_if_eq hf_32 rfl rfl rfl (fun h8 => ?_) (fun h8 => ?_)
  · refine go_iconst hf_32 rfl rfl ci_m1 ?_
    refine go_ret1 hf_32 rfl nl_32 ?_
    exact ⟨_, _, rfl, rfl, by unfold rdAt; rw [if_neg (bI_0.mp h8)], rfl⟩
  · obtain ⟨g1, g2⟩ := bI_n0.mp h8
    obtain ⟨k, hk, rfl⟩ := nI_of0 g1 g2 (by omega)
    refine go_al0 hf_32 rfl rfl ?_
    refine go_getr hf_32 ho_32 rfl fl_1_18 rfl (by first | assumption | rfl) rfl ?_
    refine go_il1 hf_32 rfl rfl ?_
    refine go_iald hf_32 rfl rfl (by first | assumption | rfl) (by first | rfl | assumption) (by first | exact rfl | assumption) (by omega) (by first | assumption | ((repeat rewrite [up_k]) <;> first | assumption | decide | omega) | exact rfl) ?_
    refine go_goto hf_32 rfl rfl ?_
    refine go_ret1 hf_32 rfl nl_32 ?_
    exact ⟨_, _, rfl, rfl, by rw [rdAt_t hk (by omega)], rfl⟩
theorem c_isKnown {M : sm_M} {t : Int32} {N : Nat} (hN : M 1 6 = nI N) (hN9 : N ≤ 900) (hop : ∀ i, i < N → M 5 i = 0 ∨ M 5 i = 1) : cr 38 1 21 [.ref 1, .int t] M (fun v M1 => v = some (.int (bI (∃ k, k < N ∧ t = nI k ∧ M 5 k = 1))) ∧ M1 = M) := by
  intro X J rc rs d lw hd hw
  show sm_wp tb_T X tb_ok d lw 38 0 [some (.ref 1), some (.int t)] [] _ _
  refine go_il1 hf_38 rfl rfl ?_
  refine go_al0 hf_38 rfl rfl ?_
  refine go_get hf_38 ho_38 rfl fl_1_37 rfl (by first | assumption | rfl) rfl (by first | assumption | ((repeat rewrite [up_k]) <;> first | assumption | decide | omega) | exact rfl) ?_
  refine go_call hf_38 rfl rfl (inv_s ho_38 cl_1_41) (by decide) nl_2 rfl rfl rfl rfl rfl rfl rfl rfl rfl (by omega) (by omega) (c_isBelow) ?_
  intro v9 M9 h9
  rewrite [h9.1, h9.2]
  clear h9 v9 M9
  refine go_if_eq hf_38 rfl rfl rfl (fun h8 => ?_) (fun h8 => ?_)
  · refine go_iconst hf_38 rfl rfl ci_0 ?_
    refine go_ret2 hf_38 rfl nl_38 (by first | exact Or.inl rfl | exact Or.inr rfl | assumption) ?_
    refine ⟨_, _, rfl, rfl, ?_, rfl⟩
    rw [bI_f]
    rintro ⟨k, hk, rfl, -⟩
    exact bI_0.mp h8 ⟨nI_pos (by omega), (nI_ltI (by omega) (by omega)).mpr hk⟩
  · obtain ⟨g1, g2⟩ := bI_n0.mp h8
    obtain ⟨k, hk, rfl⟩ := nI_of0 g1 g2 (by omega)
    refine go_al0 hf_38 rfl rfl ?_
    refine go_getr hf_38 ho_38 rfl fl_1_21 rfl (by first | assumption | rfl) rfl ?_
    refine go_il1 hf_38 rfl rfl ?_
    refine go_bald hf_38 rfl rfl (by first | assumption | rfl) (by first | rfl | assumption) (by first | exact rfl | assumption) (by omega) (by first | assumption | ((repeat rewrite [up_k]) <;> first | assumption | decide | omega) | exact rfl) ?_
    refine go_if_eq hf_38 rfl rfl rfl (fun h17 => ?_) (fun h17 => ?_)
    · refine go_iconst hf_38 rfl rfl ci_0 ?_
      refine go_ret2 hf_38 rfl nl_38 (by first | exact Or.inl rfl | exact Or.inr rfl | assumption) ?_
      refine ⟨_, _, rfl, rfl, ?_, rfl⟩
      rw [bI_f]
      rintro ⟨k2, hk2, e, g⟩
      rw [(nI_eq (by omega) (by omega)).mp e, g] at h17
      exact absurd h17 (by decide)
    · refine go_iconst hf_38 rfl rfl ci_1 ?_
      refine go_goto hf_38 rfl rfl ?_
      refine go_ret2 hf_38 rfl nl_38 (by first | exact Or.inl rfl | exact Or.inr rfl | assumption) ?_
      refine ⟨_, _, rfl, rfl, ?_, rfl⟩
      rw [bI_t ⟨k, hk, rfl, (hop k hk).resolve_left h17⟩]
theorem c_valueOf {M : sm_M} {t : Int32} {N : Nat} (hN : M 1 6 = nI N) (hN9 : N ≤ 900) {kk : Nat} (hk9 : kk < 100) : cr 34 1 21 [.ref 1, .int t, .int (nI kk)] M (fun v M1 => v = some (.int (valF (M 2) (M 3) N t (nI kk))) ∧ M1 = M) := by
  intro X J rc rs d lw hd hw
  show sm_wp tb_T X tb_ok d lw 34 0 [some (.ref 1), some (.int t), some (.int (nI kk))] [] _ _
  refine go_al0 hf_34 rfl rfl ?_
  refine go_il1 hf_34 rfl rfl ?_
  refine go_call hf_34 rfl rfl (inv_v ho_34 cl_1_45) (by decide) nl_31 rfl rfl rfl rfl rfl (by first | rfl | exact rcv_of (by assumption)) rfl rfl rfl (by omega) (by omega) (c_kindOf hN hN9) ?_
  intro v9 M9 h9
  rewrite [h9.1, h9.2]
  clear h9 v9 M9
  refine go_il2 hf_34 rfl rfl ?_
  refine go_ic_ne hf_34 rfl rfl rfl (fun h6 => ?_) (fun h6 => ?_)
  · refine go_iconst hf_34 rfl rfl ci_m1 ?_
    refine go_ret1 hf_34 rfl nl_34 ?_
    exact ⟨_, _, rfl, rfl, by unfold valF; rw [if_neg h6], rfl⟩
  · obtain ⟨k, hk, rfl, hkk⟩ := rdAt_in (by omega) (nI_m1 (by omega)) h6
    refine go_al0 hf_34 rfl rfl ?_
    refine go_getr hf_34 ho_34 rfl fl_1_15 rfl (by first | assumption | rfl) rfl ?_
    refine go_il1 hf_34 rfl rfl ?_
    refine go_iald hf_34 rfl rfl (by first | assumption | rfl) (by first | rfl | assumption) (by first | exact rfl | assumption) (by omega) (by first | assumption | ((repeat rewrite [up_k]) <;> first | assumption | decide | omega) | exact rfl) ?_
    refine go_goto hf_34 rfl rfl ?_
    refine go_ret1 hf_34 rfl nl_34 ?_
    exact ⟨_, _, rfl, rfl, by unfold valF; rw [if_pos h6, rdAt_t hk (by omega)], rfl⟩
theorem c_tailOf {M : sm_M} {t : Int32} {N : Nat} (hN : M 1 6 = nI N) (hN9 : N ≤ 900) {n : Nat} (hn9 : n < 100) : cr 30 0 0 [.ref 1, .int t, .int (nI n)] M (fun v M1 => v = some (.int (tailF (M 2) (M 4) N n t)) ∧ M1 = M) := by
  intro X J rc rs d lw hd hw
  show sm_wp tb_T X tb_ok d lw 30 0 [some (.ref 1), some (.int t), some (.int (nI n)), none, none] [] _ _
  have loop : ∀ (m i : Nat) (r : Int32), i + m = n → tailF (M 2) (M 4) N m r = tailF (M 2) (M 4) N n t → sm_wp tb_T X tb_ok d lw 30 5 [some (.ref 1), some (.int t), some (.int (nI n)), some (.int r), some (.int (nI i))] [] (wSH, M, J, rc, rs) (fun o h' => ∃ v M1, o = .inl v ∧ h' = (wSH, M1, J, rc, rs) ∧ v = some (.int (tailF (M 2) (M 4) N n t)) ∧ M1 = M) := by
    intro m
    induction m with
    | zero =>
      intro i r hi hr
      refine go_il4 hf_30 rfl rfl ?_
      refine go_il2 hf_30 rfl rfl ?_
      first | refine go_nn_ge hf_30 rfl rfl rfl (by omega) (by omega) (fun h8 => ?_) (fun h8 => absurd h8 (by omega)) | refine go_ic_ge hf_30 rfl rfl rfl (fun h8 => ?_) (fun h8 => absurd h8 (by omega))
      refine go_il3 hf_30 rfl rfl ?_
      refine go_ret1 hf_30 rfl nl_30 ?_
      exact ⟨_, _, rfl, rfl, by rw [← hr]; rfl, rfl⟩
    | succ m ih =>
      intro i r hi hr
      refine go_il4 hf_30 rfl rfl ?_
      refine go_il2 hf_30 rfl rfl ?_
      first | refine go_nn_ge hf_30 rfl rfl rfl (by omega) (by omega) (fun h8 => absurd h8 (by omega)) (fun h8 => ?_) | refine go_ic_ge hf_30 rfl rfl rfl (fun h8 => absurd h8 (by omega)) (fun h8 => ?_)
      refine go_il3 hf_30 rfl rfl ?_
      refine go_if_lt hf_30 rfl rfl rfl (fun h12 => ?_) (fun h12 => ?_)
      · refine go_iconst hf_30 rfl rfl ci_m1 ?_
        refine go_is3 hf_30 rfl rfl ?_
        refine go_ic4 hf_30 rfl rfl (by first | exact inc1 _ | exact rfl) ?_
        refine go_goto hf_30 rfl rfl ?_
        rw [tailF_s] at hr
        rw [if_neg (fun e => nI_m1 (n := 4) (by omega) (by rw [← e, rdAt_f (Or.inl h12)]))] at hr
        exact ih (i + 1) _ (by omega) hr
      · refine go_il3 hf_30 rfl rfl ?_
        refine go_al0 hf_30 rfl rfl ?_
        refine go_get hf_30 ho_30 rfl fl_1_37 rfl (by first | assumption | rfl) rfl (by first | assumption | ((repeat rewrite [up_k]) <;> first | assumption | decide | omega) | exact rfl) ?_
        refine go_ic_ge hf_30 rfl rfl rfl (fun h20 => ?_) (fun h20 => ?_)
        · refine go_iconst hf_30 rfl rfl ci_m1 ?_
          refine go_is3 hf_30 rfl rfl ?_
          refine go_ic4 hf_30 rfl rfl (by first | exact inc1 _ | exact rfl) ?_
          refine go_goto hf_30 rfl rfl ?_
          rw [tailF_s] at hr
          rw [if_neg (fun e => nI_m1 (n := 4) (by omega) (by rw [← e, rdAt_f (Or.inr h20)]))] at hr
          exact ih (i + 1) _ (by omega) hr
        · obtain ⟨k, hk, rfl⟩ := nI_of0 h12 (i32_nle.mp h20) (by omega)
          refine go_al0 hf_30 rfl rfl ?_
          refine go_getr hf_30 ho_30 rfl fl_1_9 rfl (by first | assumption | rfl) rfl ?_
          refine go_il3 hf_30 rfl rfl ?_
          refine go_iald hf_30 rfl rfl (by first | assumption | rfl) (by first | rfl | assumption) (by first | exact rfl | assumption) (by omega) (by first | assumption | ((repeat rewrite [up_k]) <;> first | assumption | decide | omega) | exact rfl) ?_
          refine go_iconst hf_30 rfl rfl ci_4 ?_
          refine go_ic_ne hf_30 rfl rfl rfl (fun h30 => ?_) (fun h30 => ?_)
          · refine go_iconst hf_30 rfl rfl ci_m1 ?_
            refine go_is3 hf_30 rfl rfl ?_
            refine go_ic4 hf_30 rfl rfl (by first | exact inc1 _ | exact rfl) ?_
            refine go_goto hf_30 rfl rfl ?_
            rw [tailF_s] at hr
            rw [if_neg (fun e => h30 (by rw [rdAt_t hk (by omega)] at e; exact e))] at hr
            exact ih (i + 1) _ (by omega) hr
          · refine go_al0 hf_30 rfl rfl ?_
            refine go_getr hf_30 ho_30 rfl fl_1_18 rfl (by first | assumption | rfl) rfl ?_
            refine go_il3 hf_30 rfl rfl ?_
            refine go_iald hf_30 rfl rfl (by first | assumption | rfl) (by first | rfl | assumption) (by first | exact rfl | assumption) (by omega) (by first | assumption | ((repeat rewrite [up_k]) <;> first | assumption | decide | omega) | exact rfl) ?_
            refine go_goto hf_30 rfl rfl ?_
            refine go_is3 hf_30 rfl rfl ?_
            refine go_ic4 hf_30 rfl rfl (by first | exact inc1 _ | exact rfl) ?_
            refine go_goto hf_30 rfl rfl ?_
            rw [tailF_s] at hr
            rw [rdAt_t hk (by omega), rdAt_t hk (by omega), if_pos h30] at hr
            exact ih (i + 1) _ (by omega) hr
  refine go_il1 hf_30 rfl rfl ?_
  refine go_is3 hf_30 rfl rfl ?_
  refine go_iconst hf_30 rfl rfl ci_0 ?_
  refine go_is4 hf_30 rfl rfl ?_
  exact loop n 0 t (by omega) rfl
theorem c_partOf {M : sm_M} {t : Int32} {N : Nat} (hN : M 1 6 = nI N) (hN9 : N ≤ 900) {n : Nat} (hn9 : n < 100) : cr 29 1 24 [.ref 1, .int t, .int (nI n)] M (fun v M1 => v = some (.int (partF (M 2) (M 3) (M 4) N t n)) ∧ M1 = M) := by
  intro X J rc rs d lw hd hw
  show sm_wp tb_T X tb_ok d lw 29 0 [some (.ref 1), some (.int t), some (.int (nI n)), none] [] _ _
  refine go_al0 hf_29 rfl rfl ?_
  refine go_il1 hf_29 rfl rfl ?_
  refine go_il2 hf_29 rfl rfl ?_
  refine go_call hf_29 rfl rfl (inv_v ho_29 cl_1_49) (by decide) nl_30 rfl rfl rfl rfl rfl (by first | rfl | exact rcv_of (by assumption)) rfl rfl rfl (by omega) (by omega) ((c_tailOf hN hN9 hn9)) ?_
  intro v9 M9 h9
  rewrite [h9.1, h9.2]
  clear h9 v9 M9
  refine go_is3 hf_29 rfl rfl ?_
  refine go_al0 hf_29 rfl rfl ?_
  refine go_il3 hf_29 rfl rfl ?_
  refine go_call hf_29 rfl rfl (inv_v ho_29 cl_1_45) (by decide) nl_31 rfl rfl rfl rfl rfl (by first | rfl | exact rcv_of (by assumption)) rfl rfl rfl (by omega) (by omega) ((c_kindOf hN hN9)) ?_
  intro v9 M9 h9
  rewrite [h9.1, h9.2]
  clear h9 v9 M9
  refine go_iconst hf_29 rfl rfl ci_4 ?_
  refine go_ic_ne hf_29 rfl rfl rfl (fun h13 => ?_) (fun h13 => ?_)
  · refine go_iconst hf_29 rfl rfl ci_m1 ?_
    refine go_ret1 hf_29 rfl nl_29 ?_
    exact ⟨_, _, rfl, rfl, by unfold partF valF; rw [if_neg h13], rfl⟩
  · obtain ⟨k, hk, e9, hkk⟩ := rdAt_in (by omega) (nI_m1 (by omega)) h13
    refine go_al0 hf_29 rfl rfl ?_
    refine go_getr hf_29 ho_29 rfl fl_1_15 rfl (by first | assumption | rfl) rfl ?_
    refine go_il3 hf_29 rfl rfl ?_
    refine go_iald hf_29 rfl rfl (by first | assumption | rfl) (by first | rfl | assumption) (by first | exact rfl | assumption) (by omega) (by first | assumption | ((repeat rewrite [up_k]) <;> first | assumption | decide | omega) | exact rfl) ?_
    refine go_goto hf_29 rfl rfl ?_
    refine go_ret1 hf_29 rfl nl_29 ?_
    exact ⟨_, _, rfl, rfl, by unfold partF valF; rw [if_pos h13, e9, rdAt_t hk (by omega)], rfl⟩
/-! entries as numbers below 32768 -/
theorem en_or {a b k : Nat} (h : b < 2 ^ k) : nI (a * 2 ^ k) ||| nI b = nI (a * 2 ^ k + b) := by
  have e : a * 2 ^ k + b = a * 2 ^ k ||| b := by
    rw [← Nat.shiftLeft_eq]
    exact Nat.shiftLeft_add_eq_or_of_lt h a
  rw [e]
  apply Int32.toBitVec_inj.1
  show BitVec.ofNat 32 (a * 2 ^ k) ||| BitVec.ofNat 32 b = BitVec.ofNat 32 (a * 2 ^ k ||| b)
  apply BitVec.eq_of_getLsbD_eq
  intro i hi
  simp [BitVec.getLsbD_or, BitVec.getLsbD_ofNat, hi]
theorem en_all' {w : Nat} (h : w < 32768) : (nI w >>> (nI 13 &&& 31) = nI (w / 8192) ∧ (nI w >>> (nI 11 &&& 31)) &&& nI 3 = nI (w / 2048 % 4) ∧ (nI w >>> (nI 6 &&& 31)) &&& nI 31 = nI (w / 64 % 32) ∧ (nI w >>> (nI 6 &&& 31)) &&& nI 127 = nI (w / 64 % 128) ∧ nI w &&& nI 63 = nI (w % 64)) := by
  refine ⟨pk_shrN (by omega) _ 13 (by decide), ?_, ?_, ?_, pk_andN (by omega) 6 (by decide)⟩
  · rw [pk_shrN (by omega) _ 11 (by decide)]
    exact pk_andN (by omega) 2 (by decide)
  · rw [pk_shrN (by omega) _ 6 (by decide)]
    exact pk_andN (by omega) 5 (by decide)
  · rw [pk_shrN (by omega) _ 6 (by decide)]
    exact pk_andN (by omega) 7 (by decide)
theorem en_pack {i d c t : Nat} (h1 : i < 4) (h2 : d < 4) (h3 : c < 32) (h4 : t < 64) : ((((nI i <<< (nI 2 &&& 31)) ||| nI d) <<< (nI 5 &&& 31)) ||| nI c) <<< (nI 6 &&& 31) ||| nI t = nI (((i * 4 + d) * 32 + c) * 64 + t) := by
  rw [pk_shlN (n := i) _ 2 (by decide) (by omega), en_or (k := 2) (by omega), pk_shlN (n := i * 2 ^ 2 + d) _ 5 (by decide) (by omega), en_or (k := 5) (by omega), pk_shlN (n := (i * 2 ^ 2 + d) * 2 ^ 5 + c) _ 6 (by decide) (by omega), en_or (k := 6) (by omega)]
theorem c_itemOf {M : sm_M} {w : Nat} (hw9 : w < 32768) : cr 129 0 0 [.int (nI w)] M (fun v M1 => v = some (.int (nI (w / 8192))) ∧ M1 = M) := by
  intro X J rc rs d lw hd hw
  show sm_wp tb_T X tb_ok d lw 129 0 [some (.int (nI w))] [] _ _
  refine go_il0 hf_129 rfl rfl ?_
  refine go_bipush hf_129 rfl rfl cb_13 ?_
  refine go_ishr hf_129 rfl rfl (en_all' hw9).1 ?_
  refine go_ret1 hf_129 rfl nl_129 ?_
  exact ⟨_, _, rfl, rfl, rfl, rfl⟩
theorem c_deviceOf {M : sm_M} {w : Nat} (hw9 : w < 32768) : cr 127 0 0 [.int (nI w)] M (fun v M1 => v = some (.int (nI (w / 2048 % 4))) ∧ M1 = M) := by
  intro X J rc rs d lw hd hw
  show sm_wp tb_T X tb_ok d lw 127 0 [some (.int (nI w))] [] _ _
  refine go_il0 hf_127 rfl rfl ?_
  refine go_bipush hf_127 rfl rfl cb_11 ?_
  refine go_ishr hf_127 rfl rfl rfl ?_
  refine go_iconst hf_127 rfl rfl ci_3 ?_
  refine go_iand hf_127 rfl rfl (en_all' hw9).2.1 ?_
  refine go_ret1 hf_127 rfl nl_127 ?_
  exact ⟨_, _, rfl, rfl, rfl, rfl⟩
theorem c_countOf {M : sm_M} {w : Nat} (hw9 : w < 32768) : cr 126 0 0 [.int (nI w)] M (fun v M1 => v = some (.int (nI (w / 64 % 32))) ∧ M1 = M) := by
  intro X J rc rs d lw hd hw
  show sm_wp tb_T X tb_ok d lw 126 0 [some (.int (nI w))] [] _ _
  refine go_il0 hf_126 rfl rfl ?_
  refine go_bipush hf_126 rfl rfl cb_6 ?_
  refine go_ishr hf_126 rfl rfl rfl ?_
  refine go_bipush hf_126 rfl rfl cb_31 ?_
  refine go_iand hf_126 rfl rfl (en_all' hw9).2.2.1 ?_
  refine go_ret1 hf_126 rfl nl_126 ?_
  exact ⟨_, _, rfl, rfl, rfl, rfl⟩
theorem c_dotOf {M : sm_M} {w : Nat} (hw9 : w < 32768) : cr 128 0 0 [.int (nI w)] M (fun v M1 => v = some (.int (nI (w / 64 % 128))) ∧ M1 = M) := by
  intro X J rc rs d lw hd hw
  show sm_wp tb_T X tb_ok d lw 128 0 [some (.int (nI w))] [] _ _
  refine go_il0 hf_128 rfl rfl ?_
  refine go_bipush hf_128 rfl rfl cb_6 ?_
  refine go_ishr hf_128 rfl rfl rfl ?_
  refine go_bipush hf_128 rfl rfl cb_127 ?_
  refine go_iand hf_128 rfl rfl (en_all' hw9).2.2.2.1 ?_
  refine go_ret1 hf_128 rfl nl_128 ?_
  exact ⟨_, _, rfl, rfl, rfl, rfl⟩
theorem c_contentOf {M : sm_M} {w : Nat} (hw9 : w < 32768) : cr 130 0 0 [.int (nI w)] M (fun v M1 => v = some (.int (nI (w % 64))) ∧ M1 = M) := by
  intro X J rc rs d lw hd hw
  show sm_wp tb_T X tb_ok d lw 130 0 [some (.int (nI w))] [] _ _
  refine go_il0 hf_130 rfl rfl ?_
  refine go_bipush hf_130 rfl rfl cb_63 ?_
  refine go_iand hf_130 rfl rfl (en_all' hw9).2.2.2.2 ?_
  refine go_ret1 hf_130 rfl nl_130 ?_
  exact ⟨_, _, rfl, rfl, rfl, rfl⟩
theorem c_pack {M : sm_M} {i k c t : Nat} (h1 : i < 4) (h2 : k < 4) (h3 : c < 32) (h4 : t < 64) : cr 125 0 0 [.int (nI i), .int (nI k), .int (nI c), .int (nI t)] M (fun v M1 => v = some (.int (nI (((i * 4 + k) * 32 + c) * 64 + t))) ∧ M1 = M) := by
  intro X J rc rs d lw hd hw
  show sm_wp tb_T X tb_ok d lw 125 0 [some (.int (nI i)), some (.int (nI k)), some (.int (nI c)), some (.int (nI t)), none] [] _ _
  refine go_il0 hf_125 rfl rfl ?_
  refine go_iconst hf_125 rfl rfl ci_2 ?_
  refine go_ishl hf_125 rfl rfl rfl ?_
  refine go_il1 hf_125 rfl rfl ?_
  refine go_ior hf_125 rfl rfl rfl ?_
  refine go_iconst hf_125 rfl rfl ci_5 ?_
  refine go_ishl hf_125 rfl rfl rfl ?_
  refine go_il2 hf_125 rfl rfl ?_
  refine go_ior hf_125 rfl rfl rfl ?_
  refine go_is4 hf_125 rfl rfl ?_
  refine go_il4 hf_125 rfl rfl ?_
  refine go_bipush hf_125 rfl rfl cb_6 ?_
  refine go_ishl hf_125 rfl rfl rfl ?_
  refine go_il3 hf_125 rfl rfl ?_
  refine go_ior hf_125 rfl rfl (en_pack h1 h2 h3 h4) ?_
  refine go_ret1 hf_125 rfl nl_125 ?_
  exact ⟨_, _, rfl, rfl, rfl, rfl⟩
/-- the reference's entry in its four rows -/
def qd (M : sm_M) (i w : Nat) : Prop := M 51 i = nI (w / 8192) ∧ M 52 i = nI (w % 64) ∧ M 53 i = nI (w / 2048 % 4) ∧ M 54 i = nI (w / 64 % 32)
theorem c_is {M : sm_M} {t : Int32} {N kk : Nat} (hN9 : N ≤ 900) (hk9 : kk < 100) (ht : t = -1 ∨ ∃ j, j < N ∧ t = nI j) : cr 100 0 0 [.ref 40, .int t, .int (nI kk)] M (fun v M1 => v = some (.int (bI (rdAt (M 41) N t = nI kk))) ∧ M1 = M) := by
  intro X J rc rs d lw hd hw
  show sm_wp tb_T X tb_ok d lw 100 0 [some (.ref 40), some (.int t), some (.int (nI kk))] [] _ _
  refine go_il1 hf_100 rfl rfl ?_
  refine go_if_lt hf_100 rfl rfl rfl (fun h1 => ?_) (fun h1 => ?_)
  · refine go_iconst hf_100 rfl rfl ci_0 ?_
    refine go_ret2 hf_100 rfl nl_100 (by first | exact Or.inl rfl | exact Or.inr rfl | assumption) ?_
    exact ⟨_, _, rfl, rfl, by rw [bI_f (fun e => nI_m1 (n := kk) (by omega) (by rw [← e, rdAt_f (Or.inl h1)]))], rfl⟩
  · rcases ht with rfl | ⟨j, hj, rfl⟩
    · exact absurd (by decide) h1
    refine go_al0 hf_100 rfl rfl ?_
    refine go_getr hf_100 ho_100 rfl fl_6_7 rfl (by first | assumption | rfl) rfl ?_
    refine go_il1 hf_100 rfl rfl ?_
    refine go_iald hf_100 rfl rfl (by first | assumption | rfl) (by first | rfl | assumption) (by first | exact rfl | assumption) (by omega) (by first | assumption | ((repeat rewrite [up_k]) <;> first | assumption | decide | omega) | exact rfl) ?_
    refine go_il2 hf_100 rfl rfl ?_
    refine go_ic_ne hf_100 rfl rfl rfl (fun h11 => ?_) (fun h11 => ?_)
    · refine go_iconst hf_100 rfl rfl ci_0 ?_
      refine go_ret2 hf_100 rfl nl_100 (by first | exact Or.inl rfl | exact Or.inr rfl | assumption) ?_
      exact ⟨_, _, rfl, rfl, by rw [bI_f (fun e => h11 (by rw [rdAt_t hj (by omega)] at e; exact e))], rfl⟩
    · refine go_iconst hf_100 rfl rfl ci_1 ?_
      refine go_goto hf_100 rfl rfl ?_
      refine go_ret2 hf_100 rfl nl_100 (by first | exact Or.inl rfl | exact Or.inr rfl | assumption) ?_
      exact ⟨_, _, rfl, rfl, by rw [bI_t (by rw [rdAt_t hj (by omega)]; exact h11)], rfl⟩
theorem c_knows {M : sm_M} {s k : Nat} {n : Int32} (hs : 3 * s + k < 15) : cr 105 0 0 [.ref 40, .int (nI s), .int (nI k), .int n] M (fun v M1 => v = some (.int (bI (n ≤ M 49 (3 * s + k)))) ∧ M1 = M) := by
  intro X J rc rs d lw hd hw
  show sm_wp tb_T X tb_ok d lw 105 0 [some (.ref 40), some (.int (nI s)), some (.int (nI k)), some (.int n)] [] _ _
  refine go_al0 hf_105 rfl rfl ?_
  refine go_getr hf_105 ho_105 rfl fl_6_35 rfl (by first | assumption | rfl) rfl ?_
  refine go_iconst hf_105 rfl rfl ci_3 ?_
  refine go_il1 hf_105 rfl rfl ?_
  refine go_imul hf_105 rfl rfl (by first | exact muln _ _ | exact rfl) ?_
  refine go_il2 hf_105 rfl rfl ?_
  refine go_iadd hf_105 rfl rfl (by first | exact nI_add _ _ | exact rfl) ?_
  refine go_iald hf_105 rfl rfl (by first | assumption | rfl) (by first | rfl | assumption) (by first | exact rfl | assumption) (by omega) rfl ?_
  refine go_il3 hf_105 rfl rfl ?_
  refine go_ic_lt hf_105 rfl rfl rfl (fun h11 => ?_) (fun h11 => ?_)
  · refine go_iconst hf_105 rfl rfl ci_0 ?_
    refine go_ret2 hf_105 rfl nl_105 (by first | exact Or.inl rfl | exact Or.inr rfl | assumption) ?_
    exact ⟨_, _, rfl, rfl, by rw [bI_f (i32_nle.mpr h11)], rfl⟩
  · refine go_iconst hf_105 rfl rfl ci_1 ?_
    refine go_goto hf_105 rfl rfl ?_
    refine go_ret2 hf_105 rfl nl_105 (by first | exact Or.inl rfl | exact Or.inr rfl | assumption) ?_
    exact ⟨_, _, rfl, rfl, by rw [bI_t (i32_nlt.mp h11)], rfl⟩
theorem c_set {M : sm_M} {i : Nat} {a c k n : Int32} (hi : i < 72) : cr 81 0 0 [.ref 40, .int (nI i), .int a, .int c, .int k, .int n] M (fun v M1 => v = none ∧ M1 = sm_up (sm_up (sm_up (sm_up M 51 i a) 52 i c) 53 i k) 54 i n) := by
  intro X J rc rs d lw hd hw
  show sm_wp tb_T X tb_ok d lw 81 0 [some (.ref 40), some (.int (nI i)), some (.int a), some (.int c), some (.int k), some (.int n)] [] _ _
  refine go_al0 hf_81 rfl rfl ?_
  refine go_getr hf_81 ho_81 rfl fl_6_41 rfl (by first | assumption | rfl) rfl ?_
  refine go_il1 hf_81 rfl rfl ?_
  refine go_il2 hf_81 rfl rfl ?_
  refine go_iast hf_81 rfl rfl (by first | assumption | rfl) (by first | rfl | assumption) (by first | exact rfl | assumption) (by omega) ?_
  refine go_al0 hf_81 rfl rfl ?_
  refine go_getr hf_81 ho_81 rfl fl_6_44 rfl (by first | assumption | rfl) rfl ?_
  refine go_il1 hf_81 rfl rfl ?_
  refine go_il3 hf_81 rfl rfl ?_
  refine go_iast hf_81 rfl rfl (by first | assumption | rfl) (by first | rfl | assumption) (by first | exact rfl | assumption) (by omega) ?_
  refine go_al0 hf_81 rfl rfl ?_
  refine go_getr hf_81 ho_81 rfl fl_6_47 rfl (by first | assumption | rfl) rfl ?_
  refine go_il1 hf_81 rfl rfl ?_
  refine go_il4 hf_81 rfl rfl ?_
  refine go_iast hf_81 rfl rfl (by first | assumption | rfl) (by first | rfl | assumption) (by first | exact rfl | assumption) (by omega) ?_
  refine go_al0 hf_81 rfl rfl ?_
  refine go_getr hf_81 ho_81 rfl fl_6_50 rfl (by first | assumption | rfl) rfl ?_
  refine go_il1 hf_81 rfl rfl ?_
  refine go_il5 hf_81 rfl rfl ?_
  refine go_iast hf_81 rfl rfl (by first | assumption | rfl) (by first | rfl | assumption) (by first | exact rfl | assumption) (by omega) ?_
  refine go_ret0 hf_81 rfl nl_81 ?_
  exact ⟨_, _, rfl, rfl, rfl, rfl⟩
theorem c_copy {M : sm_M} {i j : Nat} (hi : i < 72) (hj : j < 72) : cr 80 1 25 [.ref 40, .int (nI i), .int (nI j)] M (fun v M1 => v = none ∧ M1 = sm_up (sm_up (sm_up (sm_up M 51 j (M 51 i)) 52 j (M 52 i)) 53 j (M 53 i)) 54 j (M 54 i)) := by
  intro X J rc rs d lw hd hw
  show sm_wp tb_T X tb_ok d lw 80 0 [some (.ref 40), some (.int (nI i)), some (.int (nI j))] [] _ _
  refine go_al0 hf_80 rfl rfl ?_
  refine go_il2 hf_80 rfl rfl ?_
  refine go_al0 hf_80 rfl rfl ?_
  refine go_getr hf_80 ho_80 rfl fl_6_41 rfl (by first | assumption | rfl) rfl ?_
  refine go_il1 hf_80 rfl rfl ?_
  refine go_iald hf_80 rfl rfl (by first | assumption | rfl) (by first | rfl | assumption) (by first | exact rfl | assumption) (by omega) rfl ?_
  refine go_al0 hf_80 rfl rfl ?_
  refine go_getr hf_80 ho_80 rfl fl_6_44 rfl (by first | assumption | rfl) rfl ?_
  refine go_il1 hf_80 rfl rfl ?_
  refine go_iald hf_80 rfl rfl (by first | assumption | rfl) (by first | rfl | assumption) (by first | exact rfl | assumption) (by omega) rfl ?_
  refine go_al0 hf_80 rfl rfl ?_
  refine go_getr hf_80 ho_80 rfl fl_6_47 rfl (by first | assumption | rfl) rfl ?_
  refine go_il1 hf_80 rfl rfl ?_
  refine go_iald hf_80 rfl rfl (by first | assumption | rfl) (by first | rfl | assumption) (by first | exact rfl | assumption) (by omega) rfl ?_
  refine go_al0 hf_80 rfl rfl ?_
  refine go_getr hf_80 ho_80 rfl fl_6_50 rfl (by first | assumption | rfl) rfl ?_
  refine go_il1 hf_80 rfl rfl ?_
  refine go_iald hf_80 rfl rfl (by first | assumption | rfl) (by first | rfl | assumption) (by first | exact rfl | assumption) (by omega) rfl ?_
  refine go_call hf_80 rfl rfl (inv_v ho_80 cl_6_99) (by decide) nl_81 rfl rfl rfl rfl rfl (by first | rfl | exact rcv_of (by assumption)) rfl rfl rfl (by omega) (by omega) (c_set hj) ?_
  intro v9 M9 h9
  rewrite [h9.1, h9.2]
  clear h9 v9 M9
  refine go_ret0 hf_80 rfl nl_80 ?_
  exact ⟨_, _, rfl, rfl, rfl, rfl⟩
theorem c_before {M : sm_M} {i j a b : Nat} (hi : i < 72) (hj : j < 72) (ha : a < 32768) (hb : b < 32768) (qa : qd M i a) (qb : qd M j b) : cr 83 0 0 [.ref 40, .int (nI i), .int (nI j)] M (fun v M1 => v = some (.int (bI (a / 64 < b / 64))) ∧ M1 = M) := by
  intro X J rc rs d lw hd hw
  show sm_wp tb_T X tb_ok d lw 83 0 [some (.ref 40), some (.int (nI i)), some (.int (nI j))] [] _ _
  obtain ⟨a1, a2, a3, a4⟩ := qa
  obtain ⟨b1, b2, b3, b4⟩ := qb
  refine go_al0 hf_83 rfl rfl ?_
  refine go_getr hf_83 ho_83 rfl fl_6_41 rfl (by first | assumption | rfl) rfl ?_
  refine go_il1 hf_83 rfl rfl ?_
  refine go_iald hf_83 rfl rfl (by first | assumption | rfl) (by first | rfl | assumption) (by first | exact rfl | assumption) (by omega) (by first | assumption | ((repeat rewrite [up_k]) <;> first | assumption | decide | omega) | exact rfl) ?_
  refine go_al0 hf_83 rfl rfl ?_
  refine go_getr hf_83 ho_83 rfl fl_6_41 rfl (by first | assumption | rfl) rfl ?_
  refine go_il2 hf_83 rfl rfl ?_
  refine go_iald hf_83 rfl rfl (by first | assumption | rfl) (by first | rfl | assumption) (by first | exact rfl | assumption) (by omega) (by first | assumption | ((repeat rewrite [up_k]) <;> first | assumption | decide | omega) | exact rfl) ?_
  first | refine go_nn_eq hf_83 rfl rfl rfl (by omega) (by omega) (fun h12 => ?_) (fun h12 => ?_) | refine go_ic_eq hf_83 rfl rfl rfl (fun h12 => ?_) (fun h12 => ?_)
  · refine go_al0 hf_83 rfl rfl ?_
    refine go_getr hf_83 ho_83 rfl fl_6_47 rfl (by first | assumption | rfl) rfl ?_
    refine go_il1 hf_83 rfl rfl ?_
    refine go_iald hf_83 rfl rfl (by first | assumption | rfl) (by first | rfl | assumption) (by first | exact rfl | assumption) (by omega) (by first | assumption | ((repeat rewrite [up_k]) <;> first | assumption | decide | omega) | exact rfl) ?_
    refine go_al0 hf_83 rfl rfl ?_
    refine go_getr hf_83 ho_83 rfl fl_6_47 rfl (by first | assumption | rfl) rfl ?_
    refine go_il2 hf_83 rfl rfl ?_
    refine go_iald hf_83 rfl rfl (by first | assumption | rfl) (by first | rfl | assumption) (by first | exact rfl | assumption) (by omega) (by first | assumption | ((repeat rewrite [up_k]) <;> first | assumption | decide | omega) | exact rfl) ?_
    first | refine go_nn_lt hf_83 rfl rfl rfl (by omega) (by omega) (fun h48 => ?_) (fun h48 => ?_) | refine go_ic_lt hf_83 rfl rfl rfl (fun h48 => ?_) (fun h48 => ?_)
    · refine go_iconst hf_83 rfl rfl ci_1 ?_
      refine go_goto hf_83 rfl rfl ?_
      refine go_ret2 hf_83 rfl nl_83 (by first | exact Or.inl rfl | exact Or.inr rfl | assumption) ?_
      exact ⟨_, _, rfl, rfl, by rw [bI_t (by omega)], rfl⟩
    · refine go_al0 hf_83 rfl rfl ?_
      refine go_getr hf_83 ho_83 rfl fl_6_47 rfl (by first | assumption | rfl) rfl ?_
      refine go_il1 hf_83 rfl rfl ?_
      refine go_iald hf_83 rfl rfl (by first | assumption | rfl) (by first | rfl | assumption) (by first | exact rfl | assumption) (by omega) (by first | assumption | ((repeat rewrite [up_k]) <;> first | assumption | decide | omega) | exact rfl) ?_
      refine go_al0 hf_83 rfl rfl ?_
      refine go_getr hf_83 ho_83 rfl fl_6_47 rfl (by first | assumption | rfl) rfl ?_
      refine go_il2 hf_83 rfl rfl ?_
      refine go_iald hf_83 rfl rfl (by first | assumption | rfl) (by first | rfl | assumption) (by first | exact rfl | assumption) (by omega) (by first | assumption | ((repeat rewrite [up_k]) <;> first | assumption | decide | omega) | exact rfl) ?_
      first | refine go_nn_ne hf_83 rfl rfl rfl (by omega) (by omega) (fun h63 => ?_) (fun h63 => ?_) | refine go_ic_ne hf_83 rfl rfl rfl (fun h63 => ?_) (fun h63 => ?_)
      · refine go_iconst hf_83 rfl rfl ci_0 ?_
        refine go_ret2 hf_83 rfl nl_83 (by first | exact Or.inl rfl | exact Or.inr rfl | assumption) ?_
        exact ⟨_, _, rfl, rfl, by rw [bI_f (by omega)], rfl⟩
      · refine go_al0 hf_83 rfl rfl ?_
        refine go_getr hf_83 ho_83 rfl fl_6_50 rfl (by first | assumption | rfl) rfl ?_
        refine go_il1 hf_83 rfl rfl ?_
        refine go_iald hf_83 rfl rfl (by first | assumption | rfl) (by first | rfl | assumption) (by first | exact rfl | assumption) (by omega) (by first | assumption | ((repeat rewrite [up_k]) <;> first | assumption | decide | omega) | exact rfl) ?_
        refine go_al0 hf_83 rfl rfl ?_
        refine go_getr hf_83 ho_83 rfl fl_6_50 rfl (by first | assumption | rfl) rfl ?_
        refine go_il2 hf_83 rfl rfl ?_
        refine go_iald hf_83 rfl rfl (by first | assumption | rfl) (by first | rfl | assumption) (by first | exact rfl | assumption) (by omega) (by first | assumption | ((repeat rewrite [up_k]) <;> first | assumption | decide | omega) | exact rfl) ?_
        first | refine go_nn_ge hf_83 rfl rfl rfl (by omega) (by omega) (fun h78 => ?_) (fun h78 => ?_) | refine go_ic_ge hf_83 rfl rfl rfl (fun h78 => ?_) (fun h78 => ?_)
        · refine go_iconst hf_83 rfl rfl ci_0 ?_
          refine go_ret2 hf_83 rfl nl_83 (by first | exact Or.inl rfl | exact Or.inr rfl | assumption) ?_
          exact ⟨_, _, rfl, rfl, by rw [bI_f (by omega)], rfl⟩
        · refine go_iconst hf_83 rfl rfl ci_1 ?_
          refine go_goto hf_83 rfl rfl ?_
          refine go_ret2 hf_83 rfl nl_83 (by first | exact Or.inl rfl | exact Or.inr rfl | assumption) ?_
          exact ⟨_, _, rfl, rfl, by rw [bI_t (by omega)], rfl⟩
  · refine go_al0 hf_83 rfl rfl ?_
    refine go_getr hf_83 ho_83 rfl fl_6_41 rfl (by first | assumption | rfl) rfl ?_
    refine go_il1 hf_83 rfl rfl ?_
    refine go_iald hf_83 rfl rfl (by first | assumption | rfl) (by first | rfl | assumption) (by first | exact rfl | assumption) (by omega) (by first | assumption | ((repeat rewrite [up_k]) <;> first | assumption | decide | omega) | exact rfl) ?_
    refine go_al0 hf_83 rfl rfl ?_
    refine go_getr hf_83 ho_83 rfl fl_6_41 rfl (by first | assumption | rfl) rfl ?_
    refine go_il2 hf_83 rfl rfl ?_
    refine go_iald hf_83 rfl rfl (by first | assumption | rfl) (by first | rfl | assumption) (by first | exact rfl | assumption) (by omega) (by first | assumption | ((repeat rewrite [up_k]) <;> first | assumption | decide | omega) | exact rfl) ?_
    first | refine go_nn_ge hf_83 rfl rfl rfl (by omega) (by omega) (fun h27 => ?_) (fun h27 => ?_) | refine go_ic_ge hf_83 rfl rfl rfl (fun h27 => ?_) (fun h27 => ?_)
    · refine go_iconst hf_83 rfl rfl ci_0 ?_
      refine go_ret2 hf_83 rfl nl_83 (by first | exact Or.inl rfl | exact Or.inr rfl | assumption) ?_
      exact ⟨_, _, rfl, rfl, by rw [bI_f (by omega)], rfl⟩
    · refine go_iconst hf_83 rfl rfl ci_1 ?_
      refine go_goto hf_83 rfl rfl ?_
      refine go_ret2 hf_83 rfl nl_83 (by first | exact Or.inl rfl | exact Or.inr rfl | assumption) ?_
      exact ⟨_, _, rfl, rfl, by rw [bI_t (by omega)], rfl⟩
/-! mail: a list -/
def ml (n : Int32) (a b c e : Nat → Int32) (ms : List (Int32 × Int32 × Int32 × Int32)) : Prop := n = nI ms.length ∧ ms.length ≤ 12 ∧ ∀ i x, ms[i]? = some x → a i = x.1 ∧ b i = x.2.1 ∧ c i = x.2.2.1 ∧ e i = x.2.2.2
theorem ml_snoc {n n' : Int32} {a b c e a' b' c' e' : Nat → Int32} {ms : List (Int32 × Int32 × Int32 × Int32)} {x : Int32 × Int32 × Int32 × Int32} (h : ml n a b c e ms) (hl : ms.length < 12) (hn : n' = nI (ms.length + 1)) (ho : ∀ i, i < ms.length → a' i = a i ∧ b' i = b i ∧ c' i = c i ∧ e' i = e i) (hx : a' ms.length = x.1 ∧ b' ms.length = x.2.1 ∧ c' ms.length = x.2.2.1 ∧ e' ms.length = x.2.2.2) : ml n' a' b' c' e' (ms ++ [x]) := by
  obtain ⟨h1, h2, h3⟩ := h
  refine ⟨by rw [hn]; simp, by simp; omega, fun i y hy => ?_⟩
  rcases Nat.lt_trichotomy i ms.length with hi | hi | hi
  · rw [List.getElem?_append_left hi] at hy
    obtain ⟨o1, o2, o3, o4⟩ := ho i hi
    rw [o1, o2, o3, o4]
    exact h3 i y hy
  · subst hi
    simp at hy
    subst hy
    exact hx
  · rw [List.getElem?_eq_none (by simp; omega)] at hy
    cases hy
theorem ml_erase {n n' : Int32} {a b c e a' b' c' e' : Nat → Int32} {ms : List (Int32 × Int32 × Int32 × Int32)} {m : Nat} (h : ml n a b c e ms) (hm : m < ms.length) (hn : n' = nI (ms.length - 1)) (ho : ∀ i, i < m → a' i = a i ∧ b' i = b i ∧ c' i = c i ∧ e' i = e i) (hx : ∀ i, m ≤ i → i < ms.length - 1 → a' i = a (i + 1) ∧ b' i = b (i + 1) ∧ c' i = c (i + 1) ∧ e' i = e (i + 1)) : ml n' a' b' c' e' (ms.eraseIdx m) := by
  obtain ⟨h1, h2, h3⟩ := h
  have hl : (ms.eraseIdx m).length = ms.length - 1 := List.length_eraseIdx_of_lt hm
  refine ⟨by rw [hn, hl], by omega, fun i y hy => ?_⟩
  have hi : i < ms.length - 1 := by rw [← hl]; exact (List.getElem?_eq_some_iff.mp hy).1
  rw [List.getElem?_eraseIdx] at hy
  split at hy
  · next hc =>
    obtain ⟨o1, o2, o3, o4⟩ := ho i hc
    rw [o1, o2, o3, o4]
    exact h3 i y hy
  · next hc =>
    obtain ⟨o1, o2, o3, o4⟩ := hx i (by omega) hi
    rw [o1, o2, o3, o4]
    exact h3 (i + 1) y hy
theorem c_msend {M : sm_M} {ms : List (Int32 × Int32 × Int32 × Int32)} {k a b t : Int32} (hm : ml (M 12 4) (M 13) (M 14) (M 15) (M 16) ms) : cr 56 0 0 [.ref 12, .int k, .int a, .int b, .int t] M (fun v M1 => v = none ∧ ml (M1 12 4) (M1 13) (M1 14) (M1 15) (M1 16) (if ms.length < 12 then ms ++ [(k, a, b, t)] else ms) ∧ ∀ q, (q < 12 ∨ 16 < q) → M1 q = M q) := by
  intro X J rc rs d lw hd hw
  show sm_wp tb_T X tb_ok d lw 56 0 [some (.ref 12), some (.int k), some (.int a), some (.int b), some (.int t)] [] _ _
  obtain ⟨hn, hl, hs⟩ := hm
  refine go_al0 hf_56 rfl rfl ?_
  refine go_get hf_56 ho_56 rfl fl_3_24 rfl (by first | assumption | rfl) rfl (by first | assumption | ((repeat rewrite [up_k]) <;> first | assumption | decide | omega) | exact rfl) ?_
  refine go_bipush hf_56 rfl rfl cb_12 ?_
  first | refine go_nn_lt hf_56 rfl rfl rfl (by omega) (by omega) (fun h6 => ?_) (fun h6 => ?_) | refine go_ic_lt hf_56 rfl rfl rfl (fun h6 => ?_) (fun h6 => ?_)
  · refine go_al0 hf_56 rfl rfl ?_
    refine go_getr hf_56 ho_56 rfl fl_3_9 rfl (by first | assumption | rfl) rfl ?_
    refine go_al0 hf_56 rfl rfl ?_
    refine go_get hf_56 ho_56 rfl fl_3_24 rfl (by first | assumption | rfl) rfl (by first | assumption | ((repeat rewrite [up_k]) <;> first | assumption | decide | omega) | exact rfl) ?_
    refine go_il1 hf_56 rfl rfl ?_
    refine go_iast hf_56 rfl rfl (by first | assumption | rfl) (by first | rfl | assumption) (by first | exact rfl | assumption) (by omega) ?_
    refine go_al0 hf_56 rfl rfl ?_
    refine go_getr hf_56 ho_56 rfl fl_3_15 rfl (by first | assumption | rfl) rfl ?_
    refine go_al0 hf_56 rfl rfl ?_
    refine go_get hf_56 ho_56 rfl fl_3_24 rfl (by first | assumption | rfl) rfl (by first | assumption | ((repeat rewrite [up_k]) <;> first | assumption | decide | omega) | exact rfl) ?_
    refine go_il2 hf_56 rfl rfl ?_
    refine go_iast hf_56 rfl rfl (by first | assumption | rfl) (by first | rfl | assumption) (by first | exact rfl | assumption) (by omega) ?_
    refine go_al0 hf_56 rfl rfl ?_
    refine go_getr hf_56 ho_56 rfl fl_3_18 rfl (by first | assumption | rfl) rfl ?_
    refine go_al0 hf_56 rfl rfl ?_
    refine go_get hf_56 ho_56 rfl fl_3_24 rfl (by first | assumption | rfl) rfl (by first | assumption | ((repeat rewrite [up_k]) <;> first | assumption | decide | omega) | exact rfl) ?_
    refine go_il3 hf_56 rfl rfl ?_
    refine go_iast hf_56 rfl rfl (by first | assumption | rfl) (by first | rfl | assumption) (by first | exact rfl | assumption) (by omega) ?_
    refine go_al0 hf_56 rfl rfl ?_
    refine go_getr hf_56 ho_56 rfl fl_3_21 rfl (by first | assumption | rfl) rfl ?_
    refine go_al0 hf_56 rfl rfl ?_
    refine go_get hf_56 ho_56 rfl fl_3_24 rfl (by first | assumption | rfl) rfl (by first | assumption | ((repeat rewrite [up_k]) <;> first | assumption | decide | omega) | exact rfl) ?_
    refine go_il4 hf_56 rfl rfl ?_
    refine go_iast hf_56 rfl rfl (by first | assumption | rfl) (by first | rfl | assumption) (by first | exact rfl | assumption) (by omega) ?_
    refine go_al0 hf_56 rfl rfl ?_
    first | refine go_dup hf_56 rfl rfl ?_ | refine go_dupr hf_56 rfl rfl ?_
    refine go_get hf_56 ho_56 rfl fl_3_24 rfl (by first | assumption | rfl) rfl (by first | assumption | ((repeat rewrite [up_k]) <;> first | assumption | decide | omega) | exact rfl) ?_
    refine go_iconst hf_56 rfl rfl ci_1 ?_
    refine go_iadd hf_56 rfl rfl (by first | exact nI_add _ _ | exact rfl) ?_
    refine go_put hf_56 ho_56 rfl fl_3_24 rfl (by first | assumption | rfl) rfl (Or.inl rfl) ?_
    refine go_ret0 hf_56 rfl nl_56 ?_
    refine ⟨_, _, rfl, rfl, rfl, ?_, fun q hq => ?_⟩
    · rw [if_pos h6]
      refine ml_snoc ⟨hn, hl, hs⟩ h6 up_s (fun i hi => ?_) ?_
      · refine ⟨?_, ?_, ?_, ?_⟩ <;> simp [sm_up, upd] <;> omega
      · simp [sm_up, upd]
    · simp only [sm_up]
      repeat rw [if_neg (by omega)]
  · refine go_ret0 hf_56 rfl nl_56 ?_
    exact ⟨_, _, rfl, rfl, rfl, by rw [if_neg h6]; exact ⟨hn, hl, hs⟩, fun _ _ => rfl⟩
theorem c_mremove {M : sm_M} {ms : List (Int32 × Int32 × Int32 × Int32)} {m : Nat} (hm : ml (M 12 4) (M 13) (M 14) (M 15) (M 16) ms) (hlt : m < ms.length) : cr 55 0 0 [.ref 12, .int (nI m)] M (fun v M1 => v = none ∧ ml (M1 12 4) (M1 13) (M1 14) (M1 15) (M1 16) (ms.eraseIdx m) ∧ ∀ a j, ¬ (a = 12 ∧ j = 4) → (a < 13 ∨ 16 < a) → M1 a j = M a j) := by
  intro X J rc rs d lw hd hw
  show sm_wp tb_T X tb_ok d lw 55 0 [some (.ref 12), some (.int (nI m)), none] [] _ _
  have hn := hm.1
  have hl := hm.2.1
  have loop : ∀ (n i : Nat) (M1 : sm_M), i + n = ms.length - 1 → m ≤ i → M1 12 4 = nI (ms.length - 1) → (∀ a j, ¬ (a = 12 ∧ j = 4) → (a < 13 ∨ 16 < a) → M1 a j = M a j) → (∀ a j, 13 ≤ a → a ≤ 16 → (j < m ∨ i ≤ j) → M1 a j = M a j) → (∀ a j, 13 ≤ a → a ≤ 16 → m ≤ j → j < i → M1 a j = M a (j + 1)) → sm_wp tb_T X tb_ok d lw 55 12 [some (.ref 12), some (.int (nI m)), some (.int (nI i))] [] (wSH, M1, J, rc, rs) (fun o h' => ∃ v M1, o = .inl v ∧ h' = (wSH, M1, J, rc, rs) ∧ v = none ∧ ml (M1 12 4) (M1 13) (M1 14) (M1 15) (M1 16) (ms.eraseIdx m) ∧ ∀ a j, ¬ (a = 12 ∧ j = 4) → (a < 13 ∨ 16 < a) → M1 a j = M a j) := by
    intro n
    induction n with
    | zero =>
      intro i M1 hi hmi hs hfr ho hx
      refine go_il2 hf_55 rfl rfl ?_
      refine go_al0 hf_55 rfl rfl ?_
      refine go_get hf_55 ho_55 rfl fl_3_24 rfl (by first | assumption | rfl) rfl (by first | assumption | ((repeat rewrite [up_k]) <;> first | assumption | decide | omega) | exact rfl) ?_
      first | refine go_nn_ge hf_55 rfl rfl rfl (by omega) (by omega) (fun h17 => ?_) (fun h17 => absurd h17 (by omega)) | refine go_ic_ge hf_55 rfl rfl rfl (fun h17 => ?_) (fun h17 => absurd h17 (by omega))
      refine go_ret0 hf_55 rfl nl_55 ?_
      have hi2 : i = ms.length - 1 := by omega
      refine ⟨_, _, rfl, rfl, rfl, ml_erase hm hlt hs (fun k hk => ?_) (fun k hk hk2 => ?_), hfr⟩
      · exact ⟨ho _ _ (by omega) (by omega) (by omega), ho _ _ (by omega) (by omega) (by omega), ho _ _ (by omega) (by omega) (by omega), ho _ _ (by omega) (by omega) (by omega)⟩
      · exact ⟨hx _ _ (by omega) (by omega) (by omega) (by omega), hx _ _ (by omega) (by omega) (by omega) (by omega), hx _ _ (by omega) (by omega) (by omega) (by omega), hx _ _ (by omega) (by omega) (by omega) (by omega)⟩
    | succ n ih =>
      intro i M1 hi hmi hs hfr ho hx
      refine go_il2 hf_55 rfl rfl ?_
      refine go_al0 hf_55 rfl rfl ?_
      refine go_get hf_55 ho_55 rfl fl_3_24 rfl (by first | assumption | rfl) rfl (by first | assumption | ((repeat rewrite [up_k]) <;> first | assumption | decide | omega) | exact rfl) ?_
      first | refine go_nn_ge hf_55 rfl rfl rfl (by omega) (by omega) (fun h17 => absurd h17 (by omega)) (fun h17 => ?_) | refine go_ic_ge hf_55 rfl rfl rfl (fun h17 => absurd h17 (by omega)) (fun h17 => ?_)
      refine go_al0 hf_55 rfl rfl ?_
      refine go_getr hf_55 ho_55 rfl fl_3_9 rfl (by first | assumption | rfl) rfl ?_
      refine go_il2 hf_55 rfl rfl ?_
      refine go_al0 hf_55 rfl rfl ?_
      refine go_getr hf_55 ho_55 rfl fl_3_9 rfl (by first | assumption | rfl) rfl ?_
      refine go_il2 hf_55 rfl rfl ?_
      refine go_iconst hf_55 rfl rfl ci_1 ?_
      refine go_iadd hf_55 rfl rfl (by first | exact nI_add _ _ | exact rfl) ?_
      refine go_iald hf_55 rfl rfl (by first | assumption | rfl) (by first | rfl | assumption) (by first | exact rfl | assumption) (by omega) rfl ?_
      refine go_iast hf_55 rfl rfl (by first | assumption | rfl) (by first | rfl | assumption) (by first | exact rfl | assumption) (by omega) ?_
      refine go_al0 hf_55 rfl rfl ?_
      refine go_getr hf_55 ho_55 rfl fl_3_15 rfl (by first | assumption | rfl) rfl ?_
      refine go_il2 hf_55 rfl rfl ?_
      refine go_al0 hf_55 rfl rfl ?_
      refine go_getr hf_55 ho_55 rfl fl_3_15 rfl (by first | assumption | rfl) rfl ?_
      refine go_il2 hf_55 rfl rfl ?_
      refine go_iconst hf_55 rfl rfl ci_1 ?_
      refine go_iadd hf_55 rfl rfl (by first | exact nI_add _ _ | exact rfl) ?_
      refine go_iald hf_55 rfl rfl (by first | assumption | rfl) (by first | rfl | assumption) (by first | exact rfl | assumption) (by omega) rfl ?_
      refine go_iast hf_55 rfl rfl (by first | assumption | rfl) (by first | rfl | assumption) (by first | exact rfl | assumption) (by omega) ?_
      refine go_al0 hf_55 rfl rfl ?_
      refine go_getr hf_55 ho_55 rfl fl_3_18 rfl (by first | assumption | rfl) rfl ?_
      refine go_il2 hf_55 rfl rfl ?_
      refine go_al0 hf_55 rfl rfl ?_
      refine go_getr hf_55 ho_55 rfl fl_3_18 rfl (by first | assumption | rfl) rfl ?_
      refine go_il2 hf_55 rfl rfl ?_
      refine go_iconst hf_55 rfl rfl ci_1 ?_
      refine go_iadd hf_55 rfl rfl (by first | exact nI_add _ _ | exact rfl) ?_
      refine go_iald hf_55 rfl rfl (by first | assumption | rfl) (by first | rfl | assumption) (by first | exact rfl | assumption) (by omega) rfl ?_
      refine go_iast hf_55 rfl rfl (by first | assumption | rfl) (by first | rfl | assumption) (by first | exact rfl | assumption) (by omega) ?_
      refine go_al0 hf_55 rfl rfl ?_
      refine go_getr hf_55 ho_55 rfl fl_3_21 rfl (by first | assumption | rfl) rfl ?_
      refine go_il2 hf_55 rfl rfl ?_
      refine go_al0 hf_55 rfl rfl ?_
      refine go_getr hf_55 ho_55 rfl fl_3_21 rfl (by first | assumption | rfl) rfl ?_
      refine go_il2 hf_55 rfl rfl ?_
      refine go_iconst hf_55 rfl rfl ci_1 ?_
      refine go_iadd hf_55 rfl rfl (by first | exact nI_add _ _ | exact rfl) ?_
      refine go_iald hf_55 rfl rfl (by first | assumption | rfl) (by first | rfl | assumption) (by first | exact rfl | assumption) (by omega) rfl ?_
      refine go_iast hf_55 rfl rfl (by first | assumption | rfl) (by first | rfl | assumption) (by first | exact rfl | assumption) (by omega) ?_
      refine go_ic2 hf_55 rfl rfl (by first | exact inc1 _ | exact rfl) ?_
      refine go_goto hf_55 rfl rfl ?_
      refine ih (i + 1) _ (by omega) (by omega) ?_ ?_ ?_ ?_
      · (repeat rewrite [up_k]) <;> first | assumption | decide
      · intro a j h1 h2
        simp only [sm_up]
        repeat rw [if_neg (by omega)]
        exact hfr a j h1 h2
      · intro a j h1 h2 h3
        rw [← ho a j h1 h2 (by omega)]
        repeat rw [up_o (by omega)]
      · intro a j h1 h2 h3 h4
        by_cases hj : j = i
        · subst hj
          rw [← ho a (j + 1) h1 h2 (by omega)]
          rcases (by omega : a = 13 ∨ a = 14 ∨ a = 15 ∨ a = 16) with rfl | rfl | rfl | rfl <;> simp [sm_up, upd]
        · repeat rw [up_o (by omega)]
          exact hx a j h1 h2 h3 (by omega)
  refine go_al0 hf_55 rfl rfl ?_
  first | refine go_dup hf_55 rfl rfl ?_ | refine go_dupr hf_55 rfl rfl ?_
  refine go_get hf_55 ho_55 rfl fl_3_24 rfl (by first | assumption | rfl) rfl (by first | assumption | ((repeat rewrite [up_k]) <;> first | assumption | decide | omega) | exact rfl) ?_
  refine go_iconst hf_55 rfl rfl ci_1 ?_
  refine go_isub hf_55 rfl rfl (subn (by omega)) ?_
  refine go_put hf_55 ho_55 rfl fl_3_24 rfl (by first | assumption | rfl) rfl (Or.inl rfl) ?_
  refine go_il1 hf_55 rfl rfl ?_
  refine go_is2 hf_55 rfl rfl ?_
  refine loop (ms.length - 1 - m) m _ (by omega) (by omega) up_s ?_ ?_ ?_
  · intro a j h1 h2
    exact up_o (by omega)
  · intro a j h1 h2 h3
    exact up_o (by omega)
  · intro a j h1 h2 h3 h4
    omega
theorem r_remove {M : sm_M} {ms : List (Int32 × Int32 × Int32 × Int32)} {m : Nat} (hm : ml (M 40 20) (M 58) (M 59) (M 60) (M 61) ms) (hlt : m < ms.length) : cr 97 0 0 [.ref 40, .int (nI m)] M (fun v M1 => v = none ∧ ml (M1 40 20) (M1 58) (M1 59) (M1 60) (M1 61) (ms.eraseIdx m) ∧ ∀ a j, ¬ (a = 40 ∧ j = 20) → (a < 58 ∨ 61 < a) → M1 a j = M a j) := by
  intro X J rc rs d lw hd hw
  show sm_wp tb_T X tb_ok d lw 97 0 [some (.ref 40), some (.int (nI m)), none] [] _ _
  have hn := hm.1
  have hl := hm.2.1
  have loop : ∀ (n i : Nat) (M1 : sm_M), i + n = ms.length - 1 → m ≤ i → M1 40 20 = nI (ms.length - 1) → (∀ a j, ¬ (a = 40 ∧ j = 20) → (a < 58 ∨ 61 < a) → M1 a j = M a j) → (∀ a j, 58 ≤ a → a ≤ 61 → (j < m ∨ i ≤ j) → M1 a j = M a j) → (∀ a j, 58 ≤ a → a ≤ 61 → m ≤ j → j < i → M1 a j = M a (j + 1)) → sm_wp tb_T X tb_ok d lw 97 12 [some (.ref 40), some (.int (nI m)), some (.int (nI i))] [] (wSH, M1, J, rc, rs) (fun o h' => ∃ v M1, o = .inl v ∧ h' = (wSH, M1, J, rc, rs) ∧ v = none ∧ ml (M1 40 20) (M1 58) (M1 59) (M1 60) (M1 61) (ms.eraseIdx m) ∧ ∀ a j, ¬ (a = 40 ∧ j = 20) → (a < 58 ∨ 61 < a) → M1 a j = M a j) := by
    intro n
    induction n with
    | zero =>
      intro i M1 hi hmi hs hfr ho hx
      refine go_il2 hf_97 rfl rfl ?_
      refine go_al0 hf_97 rfl rfl ?_
      refine go_get hf_97 ho_97 rfl fl_6_145 rfl (by first | assumption | rfl) rfl (by first | assumption | ((repeat rewrite [up_k]) <;> first | assumption | decide | omega) | exact rfl) ?_
      first | refine go_nn_ge hf_97 rfl rfl rfl (by omega) (by omega) (fun h17 => ?_) (fun h17 => absurd h17 (by omega)) | refine go_ic_ge hf_97 rfl rfl rfl (fun h17 => ?_) (fun h17 => absurd h17 (by omega))
      refine go_ret0 hf_97 rfl nl_97 ?_
      have hi2 : i = ms.length - 1 := by omega
      refine ⟨_, _, rfl, rfl, rfl, ml_erase hm hlt hs (fun k hk => ?_) (fun k hk hk2 => ?_), hfr⟩
      · exact ⟨ho _ _ (by omega) (by omega) (by omega), ho _ _ (by omega) (by omega) (by omega), ho _ _ (by omega) (by omega) (by omega), ho _ _ (by omega) (by omega) (by omega)⟩
      · exact ⟨hx _ _ (by omega) (by omega) (by omega) (by omega), hx _ _ (by omega) (by omega) (by omega) (by omega), hx _ _ (by omega) (by omega) (by omega) (by omega), hx _ _ (by omega) (by omega) (by omega) (by omega)⟩
    | succ n ih =>
      intro i M1 hi hmi hs hfr ho hx
      refine go_il2 hf_97 rfl rfl ?_
      refine go_al0 hf_97 rfl rfl ?_
      refine go_get hf_97 ho_97 rfl fl_6_145 rfl (by first | assumption | rfl) rfl (by first | assumption | ((repeat rewrite [up_k]) <;> first | assumption | decide | omega) | exact rfl) ?_
      first | refine go_nn_ge hf_97 rfl rfl rfl (by omega) (by omega) (fun h17 => absurd h17 (by omega)) (fun h17 => ?_) | refine go_ic_ge hf_97 rfl rfl rfl (fun h17 => absurd h17 (by omega)) (fun h17 => ?_)
      refine go_al0 hf_97 rfl rfl ?_
      refine go_getr hf_97 ho_97 rfl fl_6_62 rfl (by first | assumption | rfl) rfl ?_
      refine go_il2 hf_97 rfl rfl ?_
      refine go_al0 hf_97 rfl rfl ?_
      refine go_getr hf_97 ho_97 rfl fl_6_62 rfl (by first | assumption | rfl) rfl ?_
      refine go_il2 hf_97 rfl rfl ?_
      refine go_iconst hf_97 rfl rfl ci_1 ?_
      refine go_iadd hf_97 rfl rfl (by first | exact nI_add _ _ | exact rfl) ?_
      refine go_iald hf_97 rfl rfl (by first | assumption | rfl) (by first | rfl | assumption) (by first | exact rfl | assumption) (by omega) rfl ?_
      refine go_iast hf_97 rfl rfl (by first | assumption | rfl) (by first | rfl | assumption) (by first | exact rfl | assumption) (by omega) ?_
      refine go_al0 hf_97 rfl rfl ?_
      refine go_getr hf_97 ho_97 rfl fl_6_65 rfl (by first | assumption | rfl) rfl ?_
      refine go_il2 hf_97 rfl rfl ?_
      refine go_al0 hf_97 rfl rfl ?_
      refine go_getr hf_97 ho_97 rfl fl_6_65 rfl (by first | assumption | rfl) rfl ?_
      refine go_il2 hf_97 rfl rfl ?_
      refine go_iconst hf_97 rfl rfl ci_1 ?_
      refine go_iadd hf_97 rfl rfl (by first | exact nI_add _ _ | exact rfl) ?_
      refine go_iald hf_97 rfl rfl (by first | assumption | rfl) (by first | rfl | assumption) (by first | exact rfl | assumption) (by omega) rfl ?_
      refine go_iast hf_97 rfl rfl (by first | assumption | rfl) (by first | rfl | assumption) (by first | exact rfl | assumption) (by omega) ?_
      refine go_al0 hf_97 rfl rfl ?_
      refine go_getr hf_97 ho_97 rfl fl_6_68 rfl (by first | assumption | rfl) rfl ?_
      refine go_il2 hf_97 rfl rfl ?_
      refine go_al0 hf_97 rfl rfl ?_
      refine go_getr hf_97 ho_97 rfl fl_6_68 rfl (by first | assumption | rfl) rfl ?_
      refine go_il2 hf_97 rfl rfl ?_
      refine go_iconst hf_97 rfl rfl ci_1 ?_
      refine go_iadd hf_97 rfl rfl (by first | exact nI_add _ _ | exact rfl) ?_
      refine go_iald hf_97 rfl rfl (by first | assumption | rfl) (by first | rfl | assumption) (by first | exact rfl | assumption) (by omega) rfl ?_
      refine go_iast hf_97 rfl rfl (by first | assumption | rfl) (by first | rfl | assumption) (by first | exact rfl | assumption) (by omega) ?_
      refine go_al0 hf_97 rfl rfl ?_
      refine go_getr hf_97 ho_97 rfl fl_6_71 rfl (by first | assumption | rfl) rfl ?_
      refine go_il2 hf_97 rfl rfl ?_
      refine go_al0 hf_97 rfl rfl ?_
      refine go_getr hf_97 ho_97 rfl fl_6_71 rfl (by first | assumption | rfl) rfl ?_
      refine go_il2 hf_97 rfl rfl ?_
      refine go_iconst hf_97 rfl rfl ci_1 ?_
      refine go_iadd hf_97 rfl rfl (by first | exact nI_add _ _ | exact rfl) ?_
      refine go_iald hf_97 rfl rfl (by first | assumption | rfl) (by first | rfl | assumption) (by first | exact rfl | assumption) (by omega) rfl ?_
      refine go_iast hf_97 rfl rfl (by first | assumption | rfl) (by first | rfl | assumption) (by first | exact rfl | assumption) (by omega) ?_
      refine go_ic2 hf_97 rfl rfl (by first | exact inc1 _ | exact rfl) ?_
      refine go_goto hf_97 rfl rfl ?_
      refine ih (i + 1) _ (by omega) (by omega) ?_ ?_ ?_ ?_
      · (repeat rewrite [up_k]) <;> first | assumption | decide
      · intro a j h1 h2
        simp only [sm_up]
        repeat rw [if_neg (by omega)]
        exact hfr a j h1 h2
      · intro a j h1 h2 h3
        rw [← ho a j h1 h2 (by omega)]
        repeat rw [up_o (by omega)]
      · intro a j h1 h2 h3 h4
        by_cases hj : j = i
        · subst hj
          rw [← ho a (j + 1) h1 h2 (by omega)]
          rcases (by omega : a = 58 ∨ a = 59 ∨ a = 60 ∨ a = 61) with rfl | rfl | rfl | rfl <;> simp [sm_up, upd]
        · repeat rw [up_o (by omega)]
          exact hx a j h1 h2 h3 (by omega)
  refine go_al0 hf_97 rfl rfl ?_
  first | refine go_dup hf_97 rfl rfl ?_ | refine go_dupr hf_97 rfl rfl ?_
  refine go_get hf_97 ho_97 rfl fl_6_145 rfl (by first | assumption | rfl) rfl (by first | assumption | ((repeat rewrite [up_k]) <;> first | assumption | decide | omega) | exact rfl) ?_
  refine go_iconst hf_97 rfl rfl ci_1 ?_
  refine go_isub hf_97 rfl rfl (subn (by omega)) ?_
  refine go_put hf_97 ho_97 rfl fl_6_145 rfl (by first | assumption | rfl) rfl (Or.inl rfl) ?_
  refine go_il1 hf_97 rfl rfl ?_
  refine go_is2 hf_97 rfl rfl ?_
  refine loop (ms.length - 1 - m) m _ (by omega) (by omega) up_s ?_ ?_ ?_
  · intro a j h1 h2
    exact up_o (by omega)
  · intro a j h1 h2 h3
    exact up_o (by omega)
  · intro a j h1 h2 h3 h4
    omega
