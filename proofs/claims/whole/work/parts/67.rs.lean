/-! ===== the reference's other calls ===== -/
theorem upf {M : sm_M} {k i p : Nat} {v : Int32} (h : p ≠ k) : sm_up M k i v p = M p := by
  unfold sm_up
  rw [if_neg h]
theorem TR_keep {g0 : Nat → Int32} {ts0 : List T3} {s : List T3 × Bool} {M M1 : sm_M} (h : TR g0 ts0 M s) (h1 : M1 40 1 = M 40 1) (h7 : M1 40 7 = M 40 7) (hk : ∀ p, 41 ≤ p → p ≤ 44 → M1 p = M p) : TR g0 ts0 M1 s := by
  unfold TR
  rw [h1, h7, hk 41 (by omega) (by omega), hk 42 (by omega) (by omega), hk 43 (by omega) (by omega), hk 44 (by omega) (by omega)]
  exact h
theorem TR_cut {g0 : Nat → Int32} {ts0 : List T3} {s : List T3 × Bool} {M : sm_M} (h : TR g0 ts0 M s) : TR g0 ts0 (sm_up (sm_up M 40 1 (nI ts0.length)) 40 7 (nI 0)) (ts0, false) := by
  obtain ⟨⟨r, hr⟩, h1, h2, h3, h4, h5⟩ := h
  have hle : ts0.length ≤ s.1.length := by rw [hr]; simp
  refine ⟨⟨[], by simp⟩, ⟨?_, ?_, fun i x hx => ?_⟩, fun i j z hi hj => ?_, ?_, fun j hj => ?_, fun j h6 h7 => absurd h7 (by show ¬ j < ts0.length; omega)⟩
  · rw [up_i (by omega), up_s]
  · exact Nat.le_trans hle h1.2.1
  · rw [upf (by omega), upf (by omega), upf (by omega), upf (by omega), upf (by omega), upf (by omega)]
    exact h1.2.2 i x (by rw [hr]; exact t_app hx)
  · exact h2 i j z (by rw [hr]; exact t_app hi) (by rw [hr]; exact t_app hj)
  · rw [up_s, bI_f Bool.false_ne_true]
  · rw [up_k (by omega), up_k (by omega)]; exact h4 j hj
def RW (M : sm_M) (ts : List T3) : Prop := TR (M 44) ts M (ts, false)
theorem rq_W {M : sm_M} {ts : List T3} (h : RW M ts) : rq M (M 41) (M 42) (M 43) ts.length := ⟨h.2.1.1, h.2.1.2.1, rfl, rfl, rfl⟩
theorem RW_self {g0 : Nat → Int32} {ts0 : List T3} {ts : List T3} {M : sm_M} (h : TR g0 ts0 M (ts, false)) : RW M ts := ⟨⟨[], by simp⟩, h.2.1, h.2.2.1, h.2.2.2.1, fun _ _ => rfl, fun j h6 h7 => absurd h7 (by show ¬ j < ts.length; omega)⟩
theorem RW_keep {ts : List T3} {M M1 : sm_M} (h : RW M ts) (h1 : M1 40 1 = M 40 1) (h7 : M1 40 7 = M 40 7) (hk : ∀ p, 41 ≤ p → p ≤ 43 → M1 p = M p) : RW M1 ts := by
  obtain ⟨-, g1, g2, g3, -, -⟩ := h
  refine ⟨⟨[], by simp⟩, ?_, g2, ?_, fun _ _ => rfl, fun j h6 h7 => absurd h7 (by show ¬ j < ts.length; omega)⟩
  · rw [h1, hk 41 (by omega) (by omega), hk 42 (by omega) (by omega), hk 43 (by omega) (by omega)]; exact g1
  · rw [h7]; exact g3
def KNR (M : sm_M) (N : Nat) (t : Int32) : Prop := ∃ k, k < N ∧ t = nI k ∧ Dv (M 41) (M 42) (M 43) N (fun j => M 44 j = 1 ∨ M 41 j = nI 1) k
theorem KNR_keep {M M1 : sm_M} {N : Nat} {t : Int32} (hk : ∀ p, 41 ≤ p → p ≤ 44 → M1 p = M p) : KNR M1 N t ↔ KNR M N t := by
  unfold KNR
  rw [hk 41 (by omega) (by omega), hk 42 (by omega) (by omega), hk 43 (by omega) (by omega), hk 44 (by omega) (by omega)]
theorem mk_cmp {ts ts1 : List T3} {s1 : List T3 × Bool} {k x y vc vr : Int32} (hx : ¬ (x = -2 ∨ y = -2)) (h9 : ts.length ≤ 900) (hC : mkC ts k x y = (ts1, vc)) (hR : mkR (ts, false) k x y = (s1, vr)) : (s1 = (ts1, false) ∧ vr = vc ∧ ∃ b, b < ts1.length ∧ vc = nI b) ∨ (s1.2 = true ∧ vc = -2 ∧ ts1 = ts) := by
  by_cases h2 : ∃ i : Nat, ts[i]? = some (k, x, y)
  · rw [mkC_there hx h2] at hC
    rw [mkR_there (s := (ts, false)) h2] at hR
    cases hC
    cases hR
    obtain ⟨b, e1, e2⟩ := fnd_some h2
    exact Or.inl ⟨rfl, rfl, b, t_lt e1, e2⟩
  by_cases h3 : 900 ≤ ts.length
  · rw [mkC_no hx h2 h3] at hC
    rw [mkR_no (s := (ts, false)) h2 Bool.false_ne_true h3] at hR
    cases hC
    cases hR
    exact Or.inr ⟨rfl, rfl, rfl⟩
  · rw [mkC_new hx h2 h3] at hC
    rw [mkR_new (s := (ts, false)) h2 Bool.false_ne_true h3] at hR
    cases hC
    cases hR
    exact Or.inl ⟨rfl, rfl, ts.length, by simp, rfl⟩
theorem r_thrown {M : sm_M}   : cr 73 0 0 [.ref 40] M (fun v M1 => v = some (.int (M 40 0)) ∧ M1 = M) := by
  intro X J rc rs d lw hd hw
  show sm_wp tb_T X tb_ok d lw 73 0 [some (.ref 40)] [] _ _
  refine go_al0 (p := 1) hf_73 rfl rfl ?_
  refine go_get (p := 4) hf_73 ho_73 rfl fl_6_78 rfl (by first | with_reducible assumption | rfl) rfl (by first | with_reducible assumption | ((repeat rewrite [up_k]) <;> first | with_reducible assumption | decide | omega) | exact rfl) ?_
  refine go_ret1 hf_73 rfl nl_73 ?_
  exact ⟨_, _, rfl, rfl, rfl, rfl⟩
theorem r_server {M : sm_M}   : cr 124 0 0 [.ref 40] M (fun v M1 => v = some (.int (M 40 25)) ∧ M1 = (sm_up M 40 0 (nI 0))) := by
  intro X J rc rs d lw hd hw
  show sm_wp tb_T X tb_ok d lw 124 0 [some (.ref 40)] [] _ _
  refine go_al0 (p := 1) hf_124 rfl rfl ?_
  refine go_iconst (p := 2) hf_124 rfl rfl ci_0 ?_
  refine go_put (p := 5) hf_124 ho_124 rfl fl_6_78 rfl (by first | with_reducible assumption | rfl) rfl (Or.inl rfl) ?_
  refine go_al0 (p := 6) hf_124 rfl rfl ?_
  refine go_get (p := 9) hf_124 ho_124 rfl fl_6_74 rfl (by first | with_reducible assumption | rfl) rfl (up_i (by omega)) ?_
  refine go_ret1 hf_124 rfl nl_124 ?_
  exact ⟨_, _, rfl, rfl, rfl, rfl⟩
theorem r_flight {M : sm_M} {ms : List (Int32 × Int32 × Int32 × Int32)} (hm : ml (M 40 20) (M 58) (M 59) (M 60) (M 61) ms) : cr 111 0 0 [.ref 40] M (fun v M1 => v = some (.int (nI ms.length)) ∧ M1 = (sm_up M 40 0 (nI 0))) := by
  intro X J rc rs d lw hd hw
  show sm_wp tb_T X tb_ok d lw 111 0 [some (.ref 40)] [] _ _
  refine go_al0 (p := 1) hf_111 rfl rfl ?_
  refine go_iconst (p := 2) hf_111 rfl rfl ci_0 ?_
  refine go_put (p := 5) hf_111 ho_111 rfl fl_6_78 rfl (by first | with_reducible assumption | rfl) rfl (Or.inl rfl) ?_
  refine go_al0 (p := 6) hf_111 rfl rfl ?_
  refine go_get (p := 9) hf_111 ho_111 rfl fl_6_145 rfl (by first | with_reducible assumption | rfl) rfl ((up_i (by omega)).trans hm.1) ?_
  refine go_ret1 hf_111 rfl nl_111 ?_
  exact ⟨_, _, rfl, rfl, rfl, rfl⟩
theorem r_known {M : sm_M} {a0 : Int32} {ts : List T3} (hT : RW M ts) (hwt : wt ts) (h01 : ∀ i, i < ts.length → M 44 i = 0 ∨ M 44 i = 1) : cr 120 2 49 [.ref 40, .int a0] M (fun v M1 => v = some (.int (bI (KNR M ts.length a0))) ∧ M1 40 0 = nI 0 ∧ ∀ p j, p ≠ 45 → ¬ (p = 40 ∧ j = 0) → M1 p j = M p j) := by
  intro X J rc rs d lw hd hw
  show sm_wp tb_T X tb_ok d lw 120 0 [some (.ref 40), some (.int a0)] [] _ _
  have hN9 : ts.length ≤ 900 := hT.2.1.2.1
  have hq := rq_W hT
  have hW := WT_tm hT.2.1 hwt
  have hq0 : rq (sm_up M 40 0 (nI 0)) (M 41) (M 42) (M 43) ts.length := rq_keep hq (up_i (by omega)) (fun p j _ _ => up_k (by omega))
  have h010 : ∀ i, i < ts.length → (sm_up M 40 0 (nI 0)) 44 i = 0 ∨ (sm_up M 40 0 (nI 0)) 44 i = 1 := fun i hi => by rw [up_k (by omega)]; exact h01 i hi
  refine go_al0 (p := 1) hf_120 rfl rfl ?_
  refine go_iconst (p := 2) hf_120 rfl rfl ci_0 ?_
  refine go_put (p := 5) hf_120 ho_120 rfl fl_6_78 rfl (by first | with_reducible assumption | rfl) rfl (Or.inl rfl) ?_
  refine go_al0 (p := 6) hf_120 rfl rfl ?_
  refine go_il1 (p := 7) hf_120 rfl rfl ?_
  refine go_cw2 (p := 10) hf_120 rfl rfl (inv_v ho_120 cl_6_194) (by decide) nl_113 rfl rfl (by first | rfl | exact rcv_of (by with_reducible assumption)) rfl rfl rfl (by omega) (by omega) (r_isKnown hq0 hW h010) ?_
  rintro v9 M2 ⟨rfl, f2⟩
  simp only [Option.toList, List.cons_append, List.nil_append]
  refine go_ret2 hf_120 rfl nl_120 bI_01 ?_
  exact ⟨_, _, rfl, rfl, rfl, (by rw [f2 40 (by omega)]; exact up_s), (fun p j h1 h2 => by rw [f2 p h1]; exact up_o (by omega))⟩
theorem r_atom {M : sm_M} {a0 : Int32} {ts : List T3} (hT : RW M ts) (hwt : wt ts) (h01 : ∀ i, i < ts.length → M 44 i = 0 ∨ M 44 i = 1) : cr 122 1 24 [.ref 40, .int a0] M (fun v M1 => v = some (.int (fnd ts (nI 0, a0, -1))) ∧ M1 = (sm_up M 40 0 (nI 0))) := by
  intro X J rc rs d lw hd hw
  show sm_wp tb_T X tb_ok d lw 122 0 [some (.ref 40), some (.int a0)] [] _ _
  refine go_al0 (p := 1) hf_122 rfl rfl ?_
  refine go_iconst (p := 2) hf_122 rfl rfl ci_0 ?_
  refine go_put (p := 5) hf_122 ho_122 rfl fl_6_78 rfl (by first | with_reducible assumption | rfl) rfl (Or.inl rfl) ?_
  refine go_al0 (p := 6) hf_122 rfl rfl ?_
  refine go_iconst (p := 7) hf_122 rfl rfl ci_0 ?_
  refine go_il1 (p := 8) hf_122 rfl rfl ?_
  refine go_iconst (p := 9) hf_122 rfl rfl ci_m1 ?_
  refine go_cw4 (p := 12) hf_122 rfl rfl (inv_v ho_122 cl_6_84) (by decide) nl_93 rfl rfl (by first | rfl | exact rcv_of (by with_reducible assumption)) rfl rfl rfl (by omega) (by omega) (r_look (ts := ts) (by rw [up_i (by omega), upf (by omega), upf (by omega), upf (by omega)]; exact hT.2.1) hT.2.2.1) ?_
  intro v9 M9 h9
  rewrite [h9.1, h9.2]
  clear h9 v9 M9
  simp only [Option.toList, List.cons_append, List.nil_append]
  refine go_ret1 hf_122 rfl nl_122 ?_
  exact ⟨_, _, rfl, rfl, rfl, rfl⟩
theorem r_term {M : sm_M} {a0 a1 : Int32} {ts : List T3} (hT : RW M ts) (hwt : wt ts) (h01 : ∀ i, i < ts.length → M 44 i = 0 ∨ M 44 i = 1) : cr 121 1 21 [.ref 40, .int a0, .int a1] M (fun v M1 => v = some (.int (sw3 a1 (rdAt (M 41) ts.length a0) (rdAt (M 42) ts.length a0) (rdAt (M 43) ts.length a0))) ∧ M1 = (sm_up M 40 0 (nI 0))) := by
  intro X J rc rs d lw hd hw
  show sm_wp tb_T X tb_ok d lw 121 0 [some (.ref 40), some (.int a0), some (.int a1)] [] _ _
  have hN9 : ts.length ≤ 900 := hT.2.1.2.1
  have hq := rq_W hT
  have hW := WT_tm hT.2.1 hwt
  have hq0 : rq (sm_up M 40 0 (nI 0)) (M 41) (M 42) (M 43) ts.length := rq_keep hq (up_i (by omega)) (fun p j _ _ => up_k (by omega))
  have h010 : ∀ i, i < ts.length → (sm_up M 40 0 (nI 0)) 44 i = 0 ∨ (sm_up M 40 0 (nI 0)) 44 i = 1 := fun i hi => by rw [up_k (by omega)]; exact h01 i hi
  refine go_al0 (p := 1) hf_121 rfl rfl ?_
  refine go_iconst (p := 2) hf_121 rfl rfl ci_0 ?_
  refine go_put (p := 5) hf_121 ho_121 rfl fl_6_78 rfl (by first | with_reducible assumption | rfl) rfl (Or.inl rfl) ?_
  refine go_al0 (p := 6) hf_121 rfl rfl ?_
  refine go_il1 (p := 7) hf_121 rfl rfl ?_
  refine go_cw2 (p := 10) hf_121 rfl rfl (inv_v ho_121 cl_6_188) (by decide) nl_114 rfl rfl (by first | rfl | exact rcv_of (by with_reducible assumption)) rfl rfl rfl (by omega) (by omega) (c_isTerm (N := ts.length) ((up_i (by omega)).trans hT.2.1.1)) ?_
  intro v9 M9 h9
  rewrite [h9.1, h9.2]
  clear h9 v9 M9
  simp only [Option.toList, List.cons_append, List.nil_append]
  refine go_if_ne (p := 13) (p2 := 15) hf_121 rfl rfl rfl (fun h10 => ?_) (fun h10 => ?_)
  · obtain ⟨i, hi, rfl⟩ := (below_iff (by omega)).mp (bI_n0.mp h10)
    refine go_il2 (p := 16) hf_121 rfl rfl ?_
    refine go_if_ne (p := 19) (p2 := 28) hf_121 rfl rfl rfl (fun h16 => ?_) (fun h16 => ?_)
    · refine go_il2 (p := 29) hf_121 rfl rfl ?_
      refine go_iconst (p := 30) hf_121 rfl rfl ci_1 ?_
      refine go_ic_ne (p := 33) (p2 := 42) hf_121 rfl rfl rfl (fun h30 => ?_) (fun h30 => ?_)
      · refine go_il2 (p := 43) hf_121 rfl rfl ?_
        refine go_iconst (p := 44) hf_121 rfl rfl ci_2 ?_
        refine go_ic_ne (p := 47) (p2 := 56) hf_121 rfl rfl rfl (fun h44 => ?_) (fun h44 => ?_)
        · refine go_iconst (p := 57) hf_121 rfl rfl ci_m1 ?_
          refine go_ret1 hf_121 rfl nl_121 ?_
          refine ⟨_, _, rfl, rfl, ?_, rfl⟩
          unfold sw3
          rw [if_neg (show ¬ a1 = nI 0 from h16), if_neg h30, if_neg h44]
        · refine go_al0 (p := 48) hf_121 rfl rfl ?_
          refine go_getr (p := 51) hf_121 ho_121 rfl fl_6_16 rfl (by first | with_reducible assumption | rfl) rfl ?_
          refine go_il1 (p := 52) hf_121 rfl rfl ?_
          refine go_iald (p := 53) hf_121 rfl rfl (by first | with_reducible assumption | rfl) (by first | rfl | with_reducible assumption) (by first | exact rfl | with_reducible assumption) (by omega) (up_k (by omega)) ?_
          refine go_goto (p2 := 57) hf_121 rfl rfl ?_
          refine go_ret1 hf_121 rfl nl_121 ?_
          refine ⟨_, _, rfl, rfl, ?_, rfl⟩
          unfold sw3
          rw [if_neg (show ¬ a1 = nI 0 from h16), if_neg h30, if_pos h44, rdAt_t hi (by omega)]
      · refine go_al0 (p := 34) hf_121 rfl rfl ?_
        refine go_getr (p := 37) hf_121 ho_121 rfl fl_6_13 rfl (by first | with_reducible assumption | rfl) rfl ?_
        refine go_il1 (p := 38) hf_121 rfl rfl ?_
        refine go_iald (p := 39) hf_121 rfl rfl (by first | with_reducible assumption | rfl) (by first | rfl | with_reducible assumption) (by first | exact rfl | with_reducible assumption) (by omega) (up_k (by omega)) ?_
        refine go_goto (p2 := 57) hf_121 rfl rfl ?_
        refine go_ret1 hf_121 rfl nl_121 ?_
        refine ⟨_, _, rfl, rfl, ?_, rfl⟩
        unfold sw3
        rw [if_neg (show ¬ a1 = nI 0 from h16), if_pos h30, rdAt_t hi (by omega)]
    · refine go_al0 (p := 20) hf_121 rfl rfl ?_
      refine go_getr (p := 23) hf_121 ho_121 rfl fl_6_7 rfl (by first | with_reducible assumption | rfl) rfl ?_
      refine go_il1 (p := 24) hf_121 rfl rfl ?_
      refine go_iald (p := 25) hf_121 rfl rfl (by first | with_reducible assumption | rfl) (by first | rfl | with_reducible assumption) (by first | exact rfl | with_reducible assumption) (by omega) (up_k (by omega)) ?_
      refine go_goto (p2 := 57) hf_121 rfl rfl ?_
      refine go_ret1 hf_121 rfl nl_121 ?_
      refine ⟨_, _, rfl, rfl, ?_, rfl⟩
      unfold sw3
      rw [if_pos (show a1 = nI 0 from h16), rdAt_t hi (by omega)]
  · refine go_iconst (p := 14) hf_121 rfl rfl ci_m1 ?_
    refine go_ret1 hf_121 rfl nl_121 ?_
    refine ⟨_, _, rfl, rfl, ?_, rfl⟩
    have hb : a0 < 0 ∨ nI ts.length ≤ a0 := by
      by_cases h : a0 < 0
      · exact Or.inl h
      · exact Or.inr (i32_nlt.mp (fun h2 => bI_0.mp h10 ⟨h, h2⟩))
    rw [rdAt_f hb, rdAt_f hb, rdAt_f hb]
    unfold sw3
    split <;> (try rfl)
    split <;> (try rfl)
    split <;> rfl
theorem r_plant {M : sm_M} {a0 : Int32} {ts : List T3} (hT : RW M ts) (hwt : wt ts) (h01 : ∀ i, i < ts.length → M 44 i = 0 ∨ M 44 i = 1) : cr 116 2 49 [.ref 40, .int a0] M (fun v M1 => ∃ u, v = some (.int u) ∧ ((KNR M ts.length a0 ∧ u = nI 1 ∧ M1 40 0 = nI 0 ∧ M1 40 25 = a0 ∧ ∀ p j, p ≠ 45 → ¬ (p = 40 ∧ (j = 0 ∨ j = 25)) → M1 p j = M p j) ∨ (¬ KNR M ts.length a0 ∧ u = nI 0 ∧ M1 40 0 = nI 0 ∧ ∀ p j, p ≠ 45 → ¬ (p = 40 ∧ j = 0) → M1 p j = M p j))) := by
  intro X J rc rs d lw hd hw
  show sm_wp tb_T X tb_ok d lw 116 0 [some (.ref 40), some (.int a0)] [] _ _
  have hN9 : ts.length ≤ 900 := hT.2.1.2.1
  have hq := rq_W hT
  have hW := WT_tm hT.2.1 hwt
  have hq0 : rq (sm_up M 40 0 (nI 0)) (M 41) (M 42) (M 43) ts.length := rq_keep hq (up_i (by omega)) (fun p j _ _ => up_k (by omega))
  have h010 : ∀ i, i < ts.length → (sm_up M 40 0 (nI 0)) 44 i = 0 ∨ (sm_up M 40 0 (nI 0)) 44 i = 1 := fun i hi => by rw [up_k (by omega)]; exact h01 i hi
  refine go_al0 (p := 1) hf_116 rfl rfl ?_
  refine go_iconst (p := 2) hf_116 rfl rfl ci_0 ?_
  refine go_put (p := 5) hf_116 ho_116 rfl fl_6_78 rfl (by first | with_reducible assumption | rfl) rfl (Or.inl rfl) ?_
  refine go_al0 (p := 6) hf_116 rfl rfl ?_
  refine go_il1 (p := 7) hf_116 rfl rfl ?_
  refine go_cw2 (p := 10) hf_116 rfl rfl (inv_v ho_116 cl_6_194) (by decide) nl_113 rfl rfl (by first | rfl | exact rcv_of (by with_reducible assumption)) rfl rfl rfl (by omega) (by omega) (r_isKnown hq0 hW h010) ?_
  rintro v9 M2 ⟨rfl, f2⟩
  simp only [Option.toList, List.cons_append, List.nil_append]
  refine go_if_ne (p := 13) (p2 := 15) hf_116 rfl rfl rfl (fun h10 => ?_) (fun h10 => ?_)
  · refine go_al0 (p := 16) hf_116 rfl rfl ?_
    refine go_il1 (p := 17) hf_116 rfl rfl ?_
    refine go_put (p := 20) hf_116 ho_116 rfl fl_6_74 rfl (by first | with_reducible assumption | rfl) rfl (Or.inl rfl) ?_
    refine go_iconst (p := 21) hf_116 rfl rfl ci_1 ?_
    refine go_ret2 hf_116 rfl nl_116 (by first | exact Or.inl rfl | exact Or.inr rfl | with_reducible assumption) ?_
    exact ⟨_, _, rfl, rfl, _, rfl, Or.inl ⟨bI_n0.mp h10, rfl, (by rw [up_i (by omega), f2 40 (by omega)]; exact up_s), up_s, (fun p j h1 h2 => by rw [up_o (by omega), f2 p h1]; exact up_o (by omega))⟩⟩
  · refine go_iconst (p := 14) hf_116 rfl rfl ci_0 ?_
    refine go_ret2 hf_116 rfl nl_116 (by first | exact Or.inl rfl | exact Or.inr rfl | with_reducible assumption) ?_
    exact ⟨_, _, rfl, rfl, _, rfl, Or.inr ⟨bI_0.mp h10, rfl, (by rw [f2 40 (by omega)]; exact up_s), (fun p j h1 h2 => by rw [f2 p h1]; exact up_o (by omega))⟩⟩
theorem r_forge {M : sm_M} {a0 a1 : Int32} {ts : List T3} {ms : List (Int32 × Int32 × Int32 × Int32)} (hT : RW M ts) (hwt : wt ts) (h01 : ∀ i, i < ts.length → M 44 i = 0 ∨ M 44 i = 1) (hm : ml (M 40 20) (M 58) (M 59) (M 60) (M 61) ms) : cr 112 2 49 [.ref 40, .int a0, .int a1] M (fun v M1 => ∃ u, v = some (.int u) ∧ ((((∃ n, n < 3 ∧ a0 = nI n) ∧ KNR M ts.length a1 ∧ ms.length < 12) ∧ u = nI 1 ∧ M1 40 0 = nI 0 ∧ ml (M1 40 20) (M1 58) (M1 59) (M1 60) (M1 61) (ms ++ [(nI 2, a0, -1, a1)]) ∧ (∀ j, j < ts.length → M1 44 j = if a1 = nI j then nI 1 else M 44 j) ∧ ∀ p j, p ≠ 45 → ¬ (p = 40 ∧ (j = 0 ∨ j = 20)) → p ≠ 44 → (p < 58 ∨ 61 < p) → M1 p j = M p j) ∨ (¬ ((∃ n, n < 3 ∧ a0 = nI n) ∧ KNR M ts.length a1 ∧ ms.length < 12) ∧ u = nI 0 ∧ M1 40 0 = nI 0 ∧ ∀ p j, p ≠ 45 → ¬ (p = 40 ∧ j = 0) → M1 p j = M p j))) := by
  intro X J rc rs d lw hd hw
  show sm_wp tb_T X tb_ok d lw 112 0 [some (.ref 40), some (.int a0), some (.int a1)] [] _ _
  have hN9 : ts.length ≤ 900 := hT.2.1.2.1
  have hq := rq_W hT
  have hW := WT_tm hT.2.1 hwt
  have hq0 : rq (sm_up M 40 0 (nI 0)) (M 41) (M 42) (M 43) ts.length := rq_keep hq (up_i (by omega)) (fun p j _ _ => up_k (by omega))
  have h010 : ∀ i, i < ts.length → (sm_up M 40 0 (nI 0)) 44 i = 0 ∨ (sm_up M 40 0 (nI 0)) 44 i = 1 := fun i hi => by rw [up_k (by omega)]; exact h01 i hi
  have h12 := hm.2.1
  refine go_al0 (p := 1) hf_112 rfl rfl ?_
  refine go_iconst (p := 2) hf_112 rfl rfl ci_0 ?_
  refine go_put (p := 5) hf_112 ho_112 rfl fl_6_78 rfl (by first | with_reducible assumption | rfl) rfl (Or.inl rfl) ?_
  refine go_il1 (p := 6) hf_112 rfl rfl ?_
  refine go_cw1 (p := 9) hf_112 rfl rfl (inv_s ho_112 cl_6_158) (by decide) nl_75 rfl rfl rfl rfl rfl rfl (by omega) (by omega) (c_isDevice) ?_
  intro v9 M9 h9
  rewrite [h9.1, h9.2]
  clear h9 v9 M9
  simp only [Option.toList, List.cons_append, List.nil_append]
  refine go_if_eq (p := 12) (p2 := 21) hf_112 rfl rfl rfl (fun h9 => ?_) (fun h9 => ?_)
  · refine go_iconst (p := 22) hf_112 rfl rfl ci_0 ?_
    refine go_ret2 hf_112 rfl nl_112 (by first | exact Or.inl rfl | exact Or.inr rfl | with_reducible assumption) ?_
    exact ⟨_, _, rfl, rfl, _, rfl, Or.inr ⟨fun g => bI_0.mp h9 ((below_iff (by omega)).mpr g.1), rfl, up_s, fun p j h1 h2 => up_o (by omega)⟩⟩
  · refine go_al0 (p := 13) hf_112 rfl rfl ?_
    refine go_get (p := 16) hf_112 ho_112 rfl fl_6_145 rfl (by first | with_reducible assumption | rfl) rfl ((up_i (by omega)).trans hm.1) ?_
    refine go_bipush (p := 18) hf_112 rfl rfl cb_12 ?_
    first | refine go_nn_ne (p := 21) (p2 := 23) hf_112 rfl rfl rfl (by omega) (by omega) (fun h18 => ?_) (fun h18 => ?_) | refine go_ic_ne (p := 21) (p2 := 23) hf_112 rfl rfl rfl (fun h18 => ?_) (fun h18 => ?_)
    · refine go_al0 (p := 24) hf_112 rfl rfl ?_
      refine go_il2 (p := 25) hf_112 rfl rfl ?_
      refine go_cw2 (p := 28) hf_112 rfl rfl (inv_v ho_112 cl_6_194) (by decide) nl_113 rfl rfl (by first | rfl | exact rcv_of (by with_reducible assumption)) rfl rfl rfl (by omega) (by omega) (r_isKnown hq0 hW h010) ?_
      rintro v9 M2 ⟨rfl, f2⟩
      simp only [Option.toList, List.cons_append, List.nil_append]
      refine go_if_eq (p := 31) (p2 := 46) hf_112 rfl rfl rfl (fun h28 => ?_) (fun h28 => ?_)
      · refine go_iconst (p := 47) hf_112 rfl rfl ci_0 ?_
        refine go_ret2 hf_112 rfl nl_112 (by first | exact Or.inl rfl | exact Or.inr rfl) ?_
        exact ⟨_, _, rfl, rfl, _, rfl, Or.inr ⟨fun g => bI_0.mp h28 g.2.1, rfl, (by rw [f2 40 (by omega)]; exact up_s), (fun p j h1 h2 => by rw [f2 p h1]; exact up_o (by omega))⟩⟩
      · have hkn := bI_n0.mp h28
        obtain ⟨k0, hk0, ek0, -⟩ := id hkn
        subst ek0
        refine go_al0 (p := 32) hf_112 rfl rfl ?_
        refine go_iconst (p := 33) hf_112 rfl rfl ci_2 ?_
        refine go_il1 (p := 34) hf_112 rfl rfl ?_
        refine go_iconst (p := 35) hf_112 rfl rfl ci_m1 ?_
        refine go_il2 (p := 36) hf_112 rfl rfl ?_
        refine go_cw5 (p := 39) hf_112 rfl rfl (inv_v ho_112 cl_6_169) (by decide) nl_88 rfl rfl (by first | rfl | exact rcv_of (by with_reducible assumption)) rfl rfl rfl (by omega) (by omega) (r_send (N := ts.length) (ms := ms) hN9 (by rw [f2 40 (by omega), f2 58 (by omega), f2 59 (by omega), f2 60 (by omega), f2 61 (by omega), up_i (by omega), upf (by omega), upf (by omega), upf (by omega), upf (by omega)]; exact hm) (Or.inl rfl) (Or.inr ⟨k0, hk0, rfl⟩)) ?_
        rintro v9 M3 ⟨rfl, e3, g3, f3⟩
        simp only [Option.toList, List.cons_append, List.nil_append]
        refine go_if_eq (p := 42) (p2 := 46) hf_112 rfl rfl rfl (fun h39 => absurd (bI_0.mp h39) (fun q => q (by omega))) (fun h39 => ?_)
        refine go_iconst (p := 43) hf_112 rfl rfl ci_1 ?_
        refine go_goto (p2 := 47) hf_112 rfl rfl ?_
        refine go_ret2 hf_112 rfl nl_112 (by first | exact Or.inl rfl | exact Or.inr rfl) ?_
        have hl : ms.length < 12 := by omega
        rw [if_pos hl] at e3
        refine ⟨_, _, rfl, rfl, _, rfl, Or.inl ⟨⟨(below_iff (by omega)).mp (bI_n0.mp h9), bI_n0.mp h28, hl⟩, rfl, ?_, e3, fun j hj => ?_, fun p j h1 h2 h3 h4 => ?_⟩⟩
        · rw [f3 _ _ (by omega) (by omega) (by omega), f2 40 (by omega)]; exact up_s
        · rw [g3 j hj, f2 44 (by omega), upf (by omega)]
          by_cases e : nI k0 = nI j
          · rw [if_pos (Or.inr e), if_pos e]
          · rw [if_neg (fun q => q.elim (fun q => absurd q.symm (nI_m1 (by omega))) e), if_neg e]
        · rw [f3 _ _ (by omega) h3 h4, f2 p h1]; exact up_o (by omega)
    · refine go_iconst (p := 22) hf_112 rfl rfl ci_0 ?_
      refine go_ret2 hf_112 rfl nl_112 (by first | exact Or.inl rfl | exact Or.inr rfl | with_reducible assumption) ?_
      exact ⟨_, _, rfl, rfl, _, rfl, Or.inr ⟨fun g => absurd g.2.2 (by omega), rfl, up_s, fun p j h1 h2 => up_o (by omega)⟩⟩
theorem r_drop {M : sm_M} {a0 : Int32} {ms : List (Int32 × Int32 × Int32 × Int32)} (hm : ml (M 40 20) (M 58) (M 59) (M 60) (M 61) ms) : cr 109 1 22 [.ref 40, .int a0] M (fun v M1 => ∃ u, v = some (.int u) ∧ ((∃ i, i < ms.length ∧ a0 = nI i ∧ u = nI 1 ∧ M1 40 0 = nI 0 ∧ ml (M1 40 20) (M1 58) (M1 59) (M1 60) (M1 61) (ms.eraseIdx i) ∧ ∀ a j, ¬ (a = 40 ∧ (j = 0 ∨ j = 20)) → (a < 58 ∨ 61 < a) → M1 a j = M a j) ∨ (¬ (∃ i, i < ms.length ∧ a0 = nI i) ∧ u = nI 0 ∧ M1 = (sm_up M 40 0 (nI 0))))) := by
  intro X J rc rs d lw hd hw
  show sm_wp tb_T X tb_ok d lw 109 0 [some (.ref 40), some (.int a0)] [] _ _
  have h12 := hm.2.1
  refine go_al0 (p := 1) hf_109 rfl rfl ?_
  refine go_iconst (p := 2) hf_109 rfl rfl ci_0 ?_
  refine go_put (p := 5) hf_109 ho_109 rfl fl_6_78 rfl (by first | with_reducible assumption | rfl) rfl (Or.inl rfl) ?_
  refine go_il1 (p := 6) hf_109 rfl rfl ?_
  refine go_if_lt (p := 9) (p2 := 17) hf_109 rfl rfl rfl (fun h6 => ?_) (fun h6 => ?_)
  · refine go_iconst (p := 18) hf_109 rfl rfl ci_0 ?_
    refine go_ret2 hf_109 rfl nl_109 (by first | exact Or.inl rfl | exact Or.inr rfl | with_reducible assumption) ?_
    exact ⟨_, _, rfl, rfl, _, rfl, Or.inr ⟨(fun g => by obtain ⟨i, hi, e⟩ := g; rw [e] at h6; exact absurd h6 (nI_pos (by omega))), rfl, rfl⟩⟩
  · refine go_il1 (p := 10) hf_109 rfl rfl ?_
    refine go_al0 (p := 11) hf_109 rfl rfl ?_
    refine go_get (p := 14) hf_109 ho_109 rfl fl_6_145 rfl (by first | with_reducible assumption | rfl) rfl ((up_i (by omega)).trans hm.1) ?_
    refine go_ic_lt (p := 17) (p2 := 19) hf_109 rfl rfl rfl (fun h14 => ?_) (fun h14 => ?_)
    · obtain ⟨i, hi, rfl⟩ := (below_iff (by omega)).mp ⟨h6, h14⟩
      refine go_al0 (p := 20) hf_109 rfl rfl ?_
      refine go_il1 (p := 21) hf_109 rfl rfl ?_
      refine go_cw2 (p := 24) hf_109 rfl rfl (inv_v ho_109 cl_6_182) (by decide) nl_97 rfl rfl (by first | rfl | exact rcv_of (by with_reducible assumption)) rfl rfl rfl (by omega) (by omega) (r_remove (M := (sm_up M 40 0 (nI 0))) (ms := ms) (by rw [up_i (by omega), upf (by omega), upf (by omega), upf (by omega), upf (by omega)]; exact hm) hi) ?_
      rintro v9 M2 ⟨rfl, e2, f2⟩
      simp only [Option.toList, List.cons_append, List.nil_append]
      refine go_iconst (p := 25) hf_109 rfl rfl ci_1 ?_
      refine go_ret2 hf_109 rfl nl_109 (by first | exact Or.inl rfl | exact Or.inr rfl | with_reducible assumption) ?_
      exact ⟨_, _, rfl, rfl, _, rfl, Or.inl ⟨i, hi, rfl, rfl, by rw [f2 _ _ (by omega) (by omega)]; exact up_s, e2, fun a j h1 h2 => by rw [f2 _ _ (by omega) h2]; exact up_o (by omega)⟩⟩
    · refine go_iconst (p := 18) hf_109 rfl rfl ci_0 ?_
      refine go_ret2 hf_109 rfl nl_109 (by first | exact Or.inl rfl | exact Or.inr rfl | with_reducible assumption) ?_
      exact ⟨_, _, rfl, rfl, _, rfl, Or.inr ⟨(fun g => by obtain ⟨i, hi, e⟩ := g; rw [e] at h14; exact h14 ((nI_ltI (by omega) (by omega)).mpr hi)), rfl, rfl⟩⟩
theorem r_message {M : sm_M} {a0 a1 : Int32} {ms : List (Int32 × Int32 × Int32 × Int32)} (hm : ml (M 40 20) (M 58) (M 59) (M 60) (M 61) ms) : cr 110 0 0 [.ref 40, .int a0, .int a1] M (fun v M1 => v = some (.int (msgF ms a0 a1)) ∧ M1 = (sm_up M 40 0 (nI 0))) := by
  intro X J rc rs d lw hd hw
  show sm_wp tb_T X tb_ok d lw 110 0 [some (.ref 40), some (.int a0), some (.int a1)] [] _ _
  have h12 := hm.2.1
  refine go_al0 (p := 1) hf_110 rfl rfl ?_
  refine go_iconst (p := 2) hf_110 rfl rfl ci_0 ?_
  refine go_put (p := 5) hf_110 ho_110 rfl fl_6_78 rfl (by first | with_reducible assumption | rfl) rfl (Or.inl rfl) ?_
  refine go_il1 (p := 6) hf_110 rfl rfl ?_
  refine go_if_lt (p := 9) (p2 := 17) hf_110 rfl rfl rfl (fun h6 => ?_) (fun h6 => ?_)
  · refine go_iconst (p := 18) hf_110 rfl rfl ci_m1 ?_
    refine go_ret1 hf_110 rfl nl_110 ?_
    refine ⟨_, _, rfl, rfl, ?_, rfl⟩
    rw [msgF_f (fun g => by obtain ⟨i, hi, e⟩ := g; rw [e] at h6; exact absurd h6 (nI_pos (by omega)))]
  · refine go_il1 (p := 10) hf_110 rfl rfl ?_
    refine go_al0 (p := 11) hf_110 rfl rfl ?_
    refine go_get (p := 14) hf_110 ho_110 rfl fl_6_145 rfl (by first | with_reducible assumption | rfl) rfl ((up_i (by omega)).trans hm.1) ?_
    refine go_ic_lt (p := 17) (p2 := 19) hf_110 rfl rfl rfl (fun h14 => ?_) (fun h14 => ?_)
    · obtain ⟨i, hi, rfl⟩ := (below_iff (by omega)).mp ⟨h6, h14⟩
      obtain ⟨x, hx⟩ : ∃ x, ms[i]? = some x := ⟨ms[i], List.getElem?_eq_getElem hi⟩
      refine go_il2 (p := 20) hf_110 rfl rfl ?_
      refine go_if_ne (p := 23) (p2 := 32) hf_110 rfl rfl rfl (fun h20 => ?_) (fun h20 => ?_)
      · refine go_il2 (p := 33) hf_110 rfl rfl ?_
        refine go_iconst (p := 34) hf_110 rfl rfl ci_1 ?_
        refine go_ic_ne (p := 37) (p2 := 46) hf_110 rfl rfl rfl (fun h34 => ?_) (fun h34 => ?_)
        · refine go_il2 (p := 47) hf_110 rfl rfl ?_
          refine go_iconst (p := 48) hf_110 rfl rfl ci_2 ?_
          refine go_ic_ne (p := 51) (p2 := 60) hf_110 rfl rfl rfl (fun h48 => ?_) (fun h48 => ?_)
          · refine go_il2 (p := 61) hf_110 rfl rfl ?_
            refine go_iconst (p := 62) hf_110 rfl rfl ci_3 ?_
            refine go_ic_ne (p := 65) (p2 := 74) hf_110 rfl rfl rfl (fun h62 => ?_) (fun h62 => ?_)
            · refine go_iconst (p := 75) hf_110 rfl rfl ci_m1 ?_
              refine go_ret1 hf_110 rfl nl_110 ?_
              refine ⟨_, _, rfl, rfl, ?_, rfl⟩
              rw [msgF_t hx (by omega)]
              unfold sw4
              rw [if_neg (show ¬ a1 = nI 0 from h20), if_neg h34, if_neg h48, if_neg h62]
            · refine go_al0 (p := 66) hf_110 rfl rfl ?_
              refine go_getr (p := 69) hf_110 ho_110 rfl fl_6_71 rfl (by first | with_reducible assumption | rfl) rfl ?_
              refine go_il1 (p := 70) hf_110 rfl rfl ?_
              refine go_iald (p := 71) hf_110 rfl rfl (by first | with_reducible assumption | rfl) (by first | rfl | with_reducible assumption) (by first | exact rfl | with_reducible assumption) (by omega) ((up_k (by omega)).trans (hm.2.2 i x hx).2.2.2) ?_
              refine go_goto (p2 := 75) hf_110 rfl rfl ?_
              refine go_ret1 hf_110 rfl nl_110 ?_
              refine ⟨_, _, rfl, rfl, ?_, rfl⟩
              rw [msgF_t hx (by omega)]
              unfold sw4
              rw [if_neg (show ¬ a1 = nI 0 from h20), if_neg h34, if_neg h48, if_pos h62]
          · refine go_al0 (p := 52) hf_110 rfl rfl ?_
            refine go_getr (p := 55) hf_110 ho_110 rfl fl_6_68 rfl (by first | with_reducible assumption | rfl) rfl ?_
            refine go_il1 (p := 56) hf_110 rfl rfl ?_
            refine go_iald (p := 57) hf_110 rfl rfl (by first | with_reducible assumption | rfl) (by first | rfl | with_reducible assumption) (by first | exact rfl | with_reducible assumption) (by omega) ((up_k (by omega)).trans (hm.2.2 i x hx).2.2.1) ?_
            refine go_goto (p2 := 75) hf_110 rfl rfl ?_
            refine go_ret1 hf_110 rfl nl_110 ?_
            refine ⟨_, _, rfl, rfl, ?_, rfl⟩
            rw [msgF_t hx (by omega)]
            unfold sw4
            rw [if_neg (show ¬ a1 = nI 0 from h20), if_neg h34, if_pos h48]
        · refine go_al0 (p := 38) hf_110 rfl rfl ?_
          refine go_getr (p := 41) hf_110 ho_110 rfl fl_6_65 rfl (by first | with_reducible assumption | rfl) rfl ?_
          refine go_il1 (p := 42) hf_110 rfl rfl ?_
          refine go_iald (p := 43) hf_110 rfl rfl (by first | with_reducible assumption | rfl) (by first | rfl | with_reducible assumption) (by first | exact rfl | with_reducible assumption) (by omega) ((up_k (by omega)).trans (hm.2.2 i x hx).2.1) ?_
          refine go_goto (p2 := 75) hf_110 rfl rfl ?_
          refine go_ret1 hf_110 rfl nl_110 ?_
          refine ⟨_, _, rfl, rfl, ?_, rfl⟩
          rw [msgF_t hx (by omega)]
          unfold sw4
          rw [if_neg (show ¬ a1 = nI 0 from h20), if_pos h34]
      · refine go_al0 (p := 24) hf_110 rfl rfl ?_
        refine go_getr (p := 27) hf_110 ho_110 rfl fl_6_62 rfl (by first | with_reducible assumption | rfl) rfl ?_
        refine go_il1 (p := 28) hf_110 rfl rfl ?_
        refine go_iald (p := 29) hf_110 rfl rfl (by first | with_reducible assumption | rfl) (by first | rfl | with_reducible assumption) (by first | exact rfl | with_reducible assumption) (by omega) ((up_k (by omega)).trans (hm.2.2 i x hx).1) ?_
        refine go_goto (p2 := 75) hf_110 rfl rfl ?_
        refine go_ret1 hf_110 rfl nl_110 ?_
        refine ⟨_, _, rfl, rfl, ?_, rfl⟩
        rw [msgF_t hx (by omega)]
        unfold sw4
        rw [if_pos (show a1 = nI 0 from h20)]
    · refine go_iconst (p := 18) hf_110 rfl rfl ci_m1 ?_
      refine go_ret1 hf_110 rfl nl_110 ?_
      refine ⟨_, _, rfl, rfl, ?_, rfl⟩
      rw [msgF_f (fun g => by obtain ⟨i, hi, e⟩ := g; rw [e] at h14; exact h14 ((nI_ltI (by omega) (by omega)).mpr hi))]
theorem r_pull {M : sm_M} {k : Nat} {ms : List (Int32 × Int32 × Int32 × Int32)} (hk : k < 3) (ho : M 55 k = 1) (hm : ml (M 40 20) (M 58) (M 59) (M 60) (M 61) ms) : cr 87 1 24 [.ref 40, .int (nI k)] M (fun v M1 => v = some (.int (nI 1)) ∧ M1 40 0 = nI 0 ∧ ml (M1 40 20) (M1 58) (M1 59) (M1 60) (M1 61) (if ms.length < 12 then ms ++ [(nI 0, nI k, -1, -1)] else ms) ∧ ∀ p j, ¬ (p = 40 ∧ (j = 0 ∨ j = 20)) → (p < 58 ∨ 61 < p) → (p = 44 → j < 900) → M1 p j = M p j) := by
  intro X J rc rs d lw hd hw
  show sm_wp tb_T X tb_ok d lw 87 0 [some (.ref 40), some (.int (nI k)), none] [] _ _
  refine go_al0 (p := 1) hf_87 rfl rfl ?_
  refine go_il1 (p := 2) hf_87 rfl rfl ?_
  refine go_cw1 (p := 5) hf_87 rfl rfl (inv_s ho_87 cl_6_158) (by decide) nl_75 rfl rfl rfl rfl rfl rfl (by omega) (by omega) (c_isDevice) ?_
  intro v9 M9 h9
  rewrite [h9.1, h9.2]
  clear h9 v9 M9
  simp only [Option.toList, List.cons_append, List.nil_append]
  refine go_il1 (p := 6) hf_87 rfl rfl ?_
  refine go_cw3 (p := 9) hf_87 rfl rfl (inv_v ho_87 cl_6_161) (by decide) nl_78 rfl rfl (by first | rfl | exact rcv_of (by with_reducible assumption)) rfl rfl rfl (by omega) (by omega) (r_may0 hk (bI_n0.mpr ((below_iff (by omega)).mpr ⟨k, hk, rfl⟩)) ho) ?_
  intro v9 M9 h9
  rewrite [h9.1, h9.2]
  clear h9 v9 M9
  simp only [Option.toList, List.cons_append, List.nil_append]
  refine go_if_ne (p := 12) (p2 := 14) hf_87 rfl rfl rfl (fun h9 => ?_) (fun h9 => absurd h9 nI_10)
  refine go_al0 (p := 15) hf_87 rfl rfl ?_
  refine go_iconst (p := 16) hf_87 rfl rfl ci_0 ?_
  refine go_il1 (p := 17) hf_87 rfl rfl ?_
  refine go_iconst (p := 18) hf_87 rfl rfl ci_m1 ?_
  refine go_iconst (p := 19) hf_87 rfl rfl ci_m1 ?_
  refine go_cw5 (p := 22) hf_87 rfl rfl (inv_v ho_87 cl_6_169) (by decide) nl_88 rfl rfl (by first | rfl | exact rcv_of (by with_reducible assumption)) rfl rfl rfl (by omega) (by omega) (r_send (M := (sm_up M 40 0 (nI 0))) (N := 900) (ms := ms) (by omega) (by rw [up_i (by omega), upf (by omega), upf (by omega), upf (by omega), upf (by omega)]; exact hm) (Or.inl rfl) (Or.inl rfl)) ?_
  rintro v9 M3 ⟨rfl, e3, g3, f3⟩
  simp only [Option.toList, List.cons_append, List.nil_append]
  refine go_is2 (p := 23) hf_87 rfl rfl ?_
  refine go_iconst (p := 24) hf_87 rfl rfl ci_1 ?_
  refine go_ret2 hf_87 rfl nl_87 (by first | exact Or.inl rfl | exact Or.inr rfl | with_reducible assumption) ?_
  refine ⟨_, _, rfl, rfl, rfl, ?_, e3, fun p j h1 h2 h3 => ?_⟩
  · rw [f3 _ _ (by omega) (by omega) (by omega)]; exact up_s
  · by_cases h4 : p = 44
    · subst h4
      rw [g3 j (h3 rfl), if_neg (fun q => q.elim (fun q => absurd q.symm (nI_m1 (by have := h3 rfl; omega))) (fun q => absurd q.symm (nI_m1 (by have := h3 rfl; omega))))]
      exact up_o (by omega)
    · rw [f3 _ _ (by omega) h4 h2]; exact up_o (by omega)
theorem r_steal {M : sm_M} {k : Nat} {g ow pw : Nat} {vv : Nat → Nat} {l : List Nat} {ts : List T3} (hk : k < 3) (hR : dR M k g ow pw vv l) (hl12 : l.length ≤ 12) (hT : RW M ts) (hvb : ∀ v1 s1, rp mkR (sealP g ow pw vv l) (ts, false) [] = (s1, [v1]) → s1.2 = false → ∃ b, b < s1.1.length ∧ v1 = nI b) : cr 119 5 133 [.ref 40, .int (nI k)] M (fun v M1 => (∃ s1 v1, ((s1.2 = true ∧ (rp mkR (sealP g ow pw vv l) (ts, false) []).1.2 = true) ∨ (s1.2 = false ∧ (rp mkR (sealP g ow pw vv l) (ts, false) []) = (s1, [v1]))) ∧ ∃ u, v = some (.int u) ∧ ((s1.2 = false ∧ u = v1 ∧ RW M1 s1.1 ∧ (∀ j, j < s1.1.length → M1 44 j = if v1 = nI j then nI 1 else if j < ts.length then M 44 j else nI 0)) ∨ (s1.2 = true ∧ u = -2 ∧ RW M1 ts ∧ ∀ j, j < ts.length → M1 44 j = M 44 j))) ∧ M1 40 0 = nI 0 ∧ ∀ p j, ¬ (p = 40 ∧ (j = 0 ∨ j = 1 ∨ j = 7)) → ¬ (41 ≤ p ∧ p ≤ 44) → M1 p j = M p j) := by
  intro X J rc rs d lw hd hw
  show sm_wp tb_T X tb_ok d lw 119 0 [some (.ref 40), some (.int (nI k)), none] [] _ _
  refine go_al0 (p := 1) hf_119 rfl rfl ?_
  refine go_iconst (p := 2) hf_119 rfl rfl ci_0 ?_
  refine go_put (p := 5) hf_119 ho_119 rfl fl_6_78 rfl (by first | with_reducible assumption | rfl) rfl (Or.inl rfl) ?_
  refine go_il1 (p := 6) hf_119 rfl rfl ?_
  refine go_cw1 (p := 9) hf_119 rfl rfl (inv_s ho_119 cl_6_158) (by decide) nl_75 rfl rfl rfl rfl rfl rfl (by omega) (by omega) (c_isDevice) ?_
  intro v9 M9 h9
  rewrite [h9.1, h9.2]
  clear h9 v9 M9
  simp only [Option.toList, List.cons_append, List.nil_append]
  refine go_if_ne (p := 12) (p2 := 14) hf_119 rfl rfl rfl (fun h9 => ?_) (fun h9 => absurd ((below_iff (by omega)).mpr ⟨k, hk, rfl⟩) (bI_0.mp h9))
  refine go_al0 (p := 15) hf_119 rfl rfl ?_
  refine go_il1 (p := 16) hf_119 rfl rfl ?_
  refine go_cw2 (p := 19) hf_119 rfl rfl (inv_v ho_119 cl_6_179) (by decide) nl_90 rfl rfl (by first | rfl | exact rcv_of (by with_reducible assumption)) rfl rfl rfl (by omega) (by omega) (r_seal (M := (sm_up M 40 0 (nI 0))) (g0 := M 44) hk (re_up hR.2.2.2.2 (by omega)) hl12 ((up_k (by omega)).trans hR.1) ((up_k (by omega)).trans hR.2.1) ((up_k (by omega)).trans hR.2.2.1) (fun j hj => (up_k (by omega)).trans (hR.2.2.2.1 j hj)) (TR_keep (M1 := (sm_up M 40 0 (nI 0))) (g0 := M 44) hT (up_i (by omega)) (up_i (by omega)) (fun p _ _ => upf (by omega)))) ?_
  rintro v9 M2 ⟨⟨s1, v1, hrp, hcs0⟩, f2⟩
  obtain ⟨u2, rfl, hcs⟩ : ∃ u, v9 = some (.int u) ∧ ((s1.2 = false ∧ u = v1 ∧ TR (M 44) ts M2 s1) ∨ (s1.2 = true ∧ u = -2 ∧ TR (M 44) ts M2 (ts, false))) := by
    rcases hcs0 with ⟨h1, rfl, h3⟩ | ⟨h1, rfl, h3⟩
    · exact ⟨_, rfl, Or.inl ⟨h1, rfl, h3⟩⟩
    · exact ⟨_, rfl, Or.inr ⟨h1, rfl, h3⟩⟩
  simp only [Option.toList, List.cons_append, List.nil_append]
  refine go_is2 (p := 20) hf_119 rfl rfl ?_
  refine go_il2 (p := 21) hf_119 rfl rfl ?_
  refine go_if_lt (p := 24) (p2 := 31) hf_119 rfl rfl rfl (fun h21 => ?_) (fun h21 => ?_)
  · refine go_il2 (p := 32) hf_119 rfl rfl ?_
    refine go_ret1 hf_119 rfl nl_119 ?_
    have hs1 : s1.2 = true ∧ u2 = -2 ∧ TR (M 44) ts M2 (ts, false) := by
      rcases hcs with ⟨h1, h2, t2⟩ | h
      · exfalso
        rcases hrp with ⟨h, -⟩ | ⟨-, h⟩
        · rw [h1] at h; cases h
        · obtain ⟨b, hb, eb⟩ := hvb _ _ h h1
          have := t2.2.1.2.1
          rw [h2, eb] at h21
          exact absurd h21 (nI_pos (by omega))
      · exact h
    obtain ⟨hs1, rfl, t2⟩ := hs1
    refine ⟨_, _, rfl, rfl, ⟨s1, v1, hrp, _, rfl, Or.inr ⟨hs1, rfl, RW_self t2, t2.2.2.2.2.1⟩⟩, ?_, fun p j h1 h2 => ?_⟩
    · rw [f2 _ _ (by omega) (by omega)]; exact up_s
    · rw [f2 _ _ (by omega) h2]; exact up_o (by omega)
  · have hs1 : s1.2 = false ∧ u2 = v1 ∧ TR (M 44) ts M2 s1 := by
      rcases hcs with h | ⟨-, h, -⟩
      · exact h
      · exact absurd (by rw [h]; decide) h21
    obtain ⟨hs1, rfl, t2⟩ := hs1
    obtain ⟨b, hb, eb⟩ : ∃ b, b < s1.1.length ∧ u2 = nI b := by
      rcases hrp with ⟨h, -⟩ | ⟨-, h⟩
      · rw [hs1] at h; cases h
      · exact hvb _ _ h hs1
    subst eb
    have h9 := t2.2.1.2.1
    obtain ⟨ts1, fl⟩ := s1
    have hs1 : fl = false := hs1
    subst hs1
    have hb : b < ts1.length := hb
    have h9 : ts1.length ≤ 900 := h9
    refine go_al0 (p := 25) hf_119 rfl rfl ?_
    refine go_getr (p := 28) hf_119 ho_119 rfl fl_6_19 rfl (by first | with_reducible assumption | rfl) rfl ?_
    refine go_il2 (p := 29) hf_119 rfl rfl ?_
    refine go_iconst (p := 30) hf_119 rfl rfl ci_1 ?_
    refine go_bast (p := 31) hf_119 rfl rfl (by first | with_reducible assumption | rfl) (by first | rfl | with_reducible assumption) (by first | exact rfl | with_reducible assumption) (by omega) (by first | exact Or.inl rfl | exact Or.inr rfl | with_reducible assumption) ?_
    refine go_il2 (p := 32) hf_119 rfl rfl ?_
    refine go_ret1 hf_119 rfl nl_119 ?_
    refine ⟨_, _, rfl, rfl, ⟨(ts1, false), nI b, hrp, _, rfl, Or.inl ⟨rfl, rfl, RW_keep (RW_self t2) (up_k (by omega)) (up_k (by omega)) (fun p _ _ => upf (by omega)), fun j hj => ?_⟩⟩, ?_, fun p j h1 h2 => ?_⟩
    · have hj : j < ts1.length := hj
      by_cases e : j = b
      · subst e; rw [up_s, if_pos rfl]
      · rw [up_i e, if_neg (fun q => e ((nI_eq (by omega) (by omega)).mp q).symm)]
        by_cases hl : j < ts.length
        · rw [if_pos hl]; exact t2.2.2.2.2.1 j hl
        · rw [if_neg hl]; exact t2.2.2.2.2.2 j (by omega) hj
    · rw [up_k (by omega), f2 _ _ (by omega) (by omega)]; exact up_s
    · rw [up_o (by omega), f2 _ _ (by omega) h2]; exact up_o (by omega)
theorem r_steal0 {M : sm_M} {a0 : Int32} (hbad : ¬ ∃ n, n < 3 ∧ a0 = nI n) : cr 119 1 20 [.ref 40, .int a0] M (fun v M1 => v = some (.int (-1)) ∧ M1 = (sm_up M 40 0 (nI 0))) := by
  intro X J rc rs d lw hd hw
  show sm_wp tb_T X tb_ok d lw 119 0 [some (.ref 40), some (.int a0), none] [] _ _
  refine go_al0 (p := 1) hf_119 rfl rfl ?_
  refine go_iconst (p := 2) hf_119 rfl rfl ci_0 ?_
  refine go_put (p := 5) hf_119 ho_119 rfl fl_6_78 rfl (by first | with_reducible assumption | rfl) rfl (Or.inl rfl) ?_
  refine go_il1 (p := 6) hf_119 rfl rfl ?_
  refine go_cw1 (p := 9) hf_119 rfl rfl (inv_s ho_119 cl_6_158) (by decide) nl_75 rfl rfl rfl rfl rfl rfl (by omega) (by omega) (c_isDevice) ?_
  intro v9 M9 h9
  rewrite [h9.1, h9.2]
  clear h9 v9 M9
  simp only [Option.toList, List.cons_append, List.nil_append]
  refine go_if_ne (p := 12) (p2 := 14) hf_119 rfl rfl rfl (fun h9 => absurd ((below_iff (by omega)).mp (bI_n0.mp h9)) hbad) (fun h9 => ?_)
  refine go_iconst (p := 13) hf_119 rfl rfl ci_m1 ?_
  refine go_ret1 hf_119 rfl nl_119 ?_
  exact ⟨_, _, rfl, rfl, rfl, rfl⟩
