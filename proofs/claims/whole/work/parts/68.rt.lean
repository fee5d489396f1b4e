/-! ===== the reference: push, leak, build, reply, deliver, device ===== -/
theorem r_push {M : sm_M} {k : Nat} {g ow pw : Nat} {vv : Nat → Nat} {l : List Nat} {ts : List T3} {ms : List (Int32 × Int32 × Int32 × Int32)} (hk : k < 3) (ho : M 55 k = 1) (hR : dR M k g ow pw vv l) (hl12 : l.length ≤ 12) (hT : RW M ts) (hvb : ∀ v1 s1, rp mkR (sealP g ow pw vv l) (ts, false) [] = (s1, [v1]) → s1.2 = false → ∃ b, b < s1.1.length ∧ v1 = nI b) (hm : ml (M 40 20) (M 58) (M 59) (M 60) (M 61) ms) (hbs : vt ts.length (M 57 k)) : cr 89 5 133 [.ref 40, .int (nI k)] M (fun v M1 => (∃ s1 v1, ((s1.2 = true ∧ (rp mkR (sealP g ow pw vv l) (ts, false) []).1.2 = true) ∨ (s1.2 = false ∧ (rp mkR (sealP g ow pw vv l) (ts, false) []) = (s1, [v1]))) ∧ ∃ u, v = some (.int u) ∧ ((s1.2 = false ∧ u = v1 ∧ RW M1 s1.1 ∧ (∀ j, j < s1.1.length → M1 44 j = if M 57 k = nI j ∨ v1 = nI j then nI 1 else if j < ts.length then M 44 j else nI 0) ∧ ml (M1 40 20) (M1 58) (M1 59) (M1 60) (M1 61) (if ms.length < 12 then ms ++ [(nI 1, nI k, M 57 k, v1)] else ms)) ∨ (s1.2 = true ∧ u = -2 ∧ RW M1 ts ∧ (∀ j, j < ts.length → M1 44 j = M 44 j) ∧ ml (M1 40 20) (M1 58) (M1 59) (M1 60) (M1 61) (ms)))) ∧ M1 40 0 = nI 0 ∧ ∀ p j, ¬ (p = 40 ∧ (j = 0 ∨ j = 1 ∨ j = 7 ∨ j = 20)) → ¬ (41 ≤ p ∧ p ≤ 44) → (p < 58 ∨ 61 < p) → M1 p j = M p j) := by
  intro X J rc rs d lw hd hw
  show sm_wp tb_T X tb_ok d lw 89 0 [some (.ref 40), some (.int (nI k)), none, none] [] _ _
  refine go_al0 (p := 1) hf_89 rfl rfl ?_
  refine go_il1 (p := 2) hf_89 rfl rfl ?_
  refine go_cw1 (p := 5) hf_89 rfl rfl (inv_s ho_89 cl_6_158) (by decide) nl_75 rfl rfl rfl rfl rfl rfl (by omega) (by omega) (c_isDevice) ?_
  intro v9 M9 h9
  rewrite [h9.1, h9.2]
  clear h9 v9 M9
  simp only [Option.toList, List.cons_append, List.nil_append]
  refine go_il1 (p := 6) hf_89 rfl rfl ?_
  refine go_cw3 (p := 9) hf_89 rfl rfl (inv_v ho_89 cl_6_161) (by decide) nl_78 rfl rfl (by first | rfl | exact rcv_of (by with_reducible assumption)) rfl rfl rfl (by omega) (by omega) (r_may0 hk (bI_n0.mpr ((below_iff (by omega)).mpr ⟨k, hk, rfl⟩)) ho) ?_
  intro v9 M9 h9
  rewrite [h9.1, h9.2]
  clear h9 v9 M9
  simp only [Option.toList, List.cons_append, List.nil_append]
  refine go_if_ne (p := 12) (p2 := 14) hf_89 rfl rfl rfl (fun h9 => ?_) (fun h9 => absurd h9 nI_10)
  refine go_al0 (p := 15) hf_89 rfl rfl ?_
  refine go_il1 (p := 16) hf_89 rfl rfl ?_
  refine go_cw2 (p := 19) hf_89 rfl rfl (inv_v ho_89 cl_6_179) (by decide) nl_90 rfl rfl (by first | rfl | exact rcv_of (by with_reducible assumption)) rfl rfl rfl (by omega) (by omega) (r_seal (M := (sm_up M 40 0 (nI 0))) (g0 := M 44) hk (re_up hR.2.2.2.2 (by omega)) hl12 ((up_k (by omega)).trans hR.1) ((up_k (by omega)).trans hR.2.1) ((up_k (by omega)).trans hR.2.2.1) (fun j hj => (up_k (by omega)).trans (hR.2.2.2.1 j hj)) (TR_keep (M1 := (sm_up M 40 0 (nI 0))) (g0 := M 44) hT (up_i (by omega)) (up_i (by omega)) (fun p _ _ => upf (by omega)))) ?_
  rintro v9 M2 ⟨⟨s1, v1, hrp, hcs0⟩, f2⟩
  obtain ⟨u2, rfl, hcs⟩ : ∃ u, v9 = some (.int u) ∧ ((s1.2 = false ∧ u = v1 ∧ TR (M 44) ts M2 s1) ∨ (s1.2 = true ∧ u = -2 ∧ TR (M 44) ts M2 (ts, false))) := by
    rcases hcs0 with ⟨h1, rfl, h3⟩ | ⟨h1, rfl, h3⟩
    · exact ⟨_, rfl, Or.inl ⟨h1, rfl, h3⟩⟩
    · exact ⟨_, rfl, Or.inr ⟨h1, rfl, h3⟩⟩
  simp only [Option.toList, List.cons_append, List.nil_append]
  refine go_is2 (p := 20) hf_89 rfl rfl ?_
  refine go_il2 (p := 21) hf_89 rfl rfl ?_
  refine go_if_lt (p := 24) (p2 := 38) hf_89 rfl rfl rfl (fun h21 => ?_) (fun h21 => ?_)
  · refine go_il2 (p := 39) hf_89 rfl rfl ?_
    refine go_ret1 hf_89 rfl nl_89 ?_
    have hs1 : s1.2 = true ∧ u2 = -2 ∧ TR (M 44) ts M2 (ts, false) := by
      rcases hcs with ⟨h1, h2, t2⟩ | h
      · exfalso
        rcases hrp with ⟨h, -⟩ | ⟨-, h⟩
        · rw [h1] at h; cases h
        · obtain ⟨b, hb, eb⟩ := hvb _ _ h h1
          have := t2.2.1.2.1
          rw [h2, eb] at h21
          exact absurd h21 (nI_pos (by omega))
      · exact h
    obtain ⟨hs1, rfl, t2⟩ := hs1
    refine ⟨_, _, rfl, rfl, ⟨s1, v1, hrp, _, rfl, Or.inr ⟨hs1, rfl, RW_self t2, t2.2.2.2.2.1, by rw [f2 _ _ (by omega) (by omega), show M2 58 = M 58 from funext fun j => (f2 _ _ (by omega) (by omega)).trans (up_k (by omega)), show M2 59 = M 59 from funext fun j => (f2 _ _ (by omega) (by omega)).trans (up_k (by omega)), show M2 60 = M 60 from funext fun j => (f2 _ _ (by omega) (by omega)).trans (up_k (by omega)), show M2 61 = M 61 from funext fun j => (f2 _ _ (by omega) (by omega)).trans (up_k (by omega)), up_i (by omega)]; exact hm⟩⟩, ?_, fun p j h1 h2 h3 => ?_⟩
    · rw [f2 _ _ (by omega) (by omega)]; exact up_s
    · rw [f2 _ _ (by omega) h2]; exact up_o (by omega)
  · have hs1 : s1.2 = false ∧ u2 = v1 ∧ TR (M 44) ts M2 s1 := by
      rcases hcs with h | ⟨-, h, -⟩
      · exact h
      · exact absurd (by rw [h]; decide) h21
    obtain ⟨hs1, rfl, t2⟩ := hs1
    obtain ⟨b, hb, eb⟩ : ∃ b, b < s1.1.length ∧ u2 = nI b := by
      rcases hrp with ⟨h, -⟩ | ⟨-, h⟩
      · rw [hs1] at h; cases h
      · exact hvb _ _ h hs1
    subst eb
    have h9 := t2.2.1.2.1
    obtain ⟨ts1, fl⟩ := s1
    have hs1 : fl = false := hs1
    subst hs1
    have hb : b < ts1.length := hb
    have h9 : ts1.length ≤ 900 := h9
    have hle : ts.length ≤ ts1.length := by
      obtain ⟨r, e⟩ := t2.1
      have e : ts1 = ts ++ r := e
      rw [e]; simp
    refine go_al0 (p := 25) hf_89 rfl rfl ?_
    refine go_iconst (p := 26) hf_89 rfl rfl ci_1 ?_
    refine go_il1 (p := 27) hf_89 rfl rfl ?_
    refine go_al0 (p := 28) hf_89 rfl rfl ?_
    refine go_getr (p := 31) hf_89 ho_89 rfl fl_6_59 rfl (by first | with_reducible assumption | rfl) rfl ?_
    refine go_il1 (p := 32) hf_89 rfl rfl ?_
    refine go_iald (p := 33) hf_89 rfl rfl (by first | with_reducible assumption | rfl) (by first | rfl | with_reducible assumption) (by first | exact rfl | with_reducible assumption) (by omega) ((f2 _ _ (by omega) (by omega)).trans (up_k (by omega))) ?_
    refine go_il2 (p := 34) hf_89 rfl rfl ?_
    refine go_cw5 (p := 37) hf_89 rfl rfl (inv_v ho_89 cl_6_169) (by decide) nl_88 rfl rfl (by first | rfl | exact rcv_of (by with_reducible assumption)) rfl rfl rfl (by omega) (by omega) (r_send (N := ts1.length) (ms := ms) h9 (by rw [f2 _ _ (by omega) (by omega), show M2 58 = M 58 from funext fun j => (f2 _ _ (by omega) (by omega)).trans (up_k (by omega)), show M2 59 = M 59 from funext fun j => (f2 _ _ (by omega) (by omega)).trans (up_k (by omega)), show M2 60 = M 60 from funext fun j => (f2 _ _ (by omega) (by omega)).trans (up_k (by omega)), show M2 61 = M 61 from funext fun j => (f2 _ _ (by omega) (by omega)).trans (up_k (by omega)), up_i (by omega)]; exact hm) (by rcases hbs with h | ⟨j, hj, h⟩; exact Or.inl h; exact Or.inr ⟨j, by omega, h⟩) (Or.inr ⟨b, hb, rfl⟩)) ?_
    rintro v9 M3 ⟨rfl, e3, g3, f3⟩
    simp only [Option.toList, List.cons_append, List.nil_append]
    refine go_is3 (p := 38) hf_89 rfl rfl ?_
    refine go_il2 (p := 39) hf_89 rfl rfl ?_
    refine go_ret1 hf_89 rfl nl_89 ?_
    refine ⟨_, _, rfl, rfl, ⟨(ts1, false), nI b, hrp, _, rfl, Or.inl ⟨rfl, rfl, RW_keep (RW_self t2) (f3 _ _ (by omega) (by omega) (by omega)) (f3 _ _ (by omega) (by omega) (by omega)) (fun p h1 h2 => funext fun j => f3 _ _ (by omega) (by omega) (by omega)), fun j hj => ?_, e3⟩⟩, ?_, fun p j h1 h2 h3 => ?_⟩
    · have hj : j < ts1.length := hj
      rw [g3 j hj]
      by_cases e : M 57 k = nI j ∨ nI b = nI j
      · rw [if_pos e, if_pos e]
      · rw [if_neg e, if_neg e]
        by_cases hl : j < ts.length
        · rw [if_pos hl]; exact t2.2.2.2.2.1 j hl
        · rw [if_neg hl]; exact t2.2.2.2.2.2 j (by omega) hj
    · rw [f3 _ _ (by omega) (by omega) (by omega), f2 _ _ (by omega) (by omega)]; exact up_s
    · rw [f3 _ _ (by omega) (by omega) h3, f2 _ _ (by omega) h2]; exact up_o (by omega)
theorem r_leak0 {M : sm_M} {a0 : Int32} (hbad : ¬ ∃ n, n ≤ 8 ∧ a0 = nI n) : cr 118 0 0 [.ref 40, .int a0] M (fun v M1 => v = some (.int (-1)) ∧ M1 = (sm_up M 40 0 (nI 0))) := by
  intro X J rc rs d lw hd hw
  show sm_wp tb_T X tb_ok d lw 118 0 [some (.ref 40), some (.int a0), none, none] [] _ _
  refine go_al0 (p := 1) hf_118 rfl rfl ?_
  refine go_iconst (p := 2) hf_118 rfl rfl ci_0 ?_
  refine go_put (p := 5) hf_118 ho_118 rfl fl_6_78 rfl (by first | with_reducible assumption | rfl) rfl (Or.inl rfl) ?_
  refine go_il1 (p := 6) hf_118 rfl rfl ?_
  refine go_if_lt (p := 9) (p2 := 15) hf_118 rfl rfl rfl (fun h6 => ?_) (fun h6 => ?_)
  · refine go_iconst (p := 16) hf_118 rfl rfl ci_m1 ?_
    refine go_ret1 hf_118 rfl nl_118 ?_
    exact ⟨_, _, rfl, rfl, rfl, rfl⟩
  · refine go_il1 (p := 10) hf_118 rfl rfl ?_
    refine go_bipush (p := 12) hf_118 rfl rfl cb_8 ?_
    refine go_ic_le (p := 15) (p2 := 17) hf_118 rfl rfl rfl (fun h12 => absurd ⟨_, (rng_nI (a := 0) (b := 8) (by omega) h6 (fun h => i32_nlt.mpr h12 h) (by omega)).choose_spec.2⟩ hbad) (fun h12 => ?_)
    refine go_iconst (p := 16) hf_118 rfl rfl ci_m1 ?_
    refine go_ret1 hf_118 rfl nl_118 ?_
    exact ⟨_, _, rfl, rfl, rfl, rfl⟩
theorem r_leak {M : sm_M} {n : Nat} {ts : List T3} (hn : n ≤ 8) (hT : RW M ts) : cr 118 2 48 [.ref 40, .int (nI n)] M (fun v M1 => (∃ s1 v1, mkR (ts, false) (nI 0) (nI n) (-1) = (s1, v1) ∧ ∃ u, v = some (.int u) ∧ ((s1.2 = false ∧ u = v1 ∧ RW M1 s1.1 ∧ ∀ j, j < s1.1.length → M1 44 j = if v1 = nI j then nI 1 else if j < ts.length then M 44 j else nI 0) ∨ (s1.2 = true ∧ u = -2 ∧ RW M1 ts ∧ ∀ j, j < ts.length → M1 44 j = M 44 j))) ∧ M1 40 0 = nI 0 ∧ ∀ p j, ¬ (p = 40 ∧ (j = 0 ∨ j = 1 ∨ j = 7)) → ¬ (41 ≤ p ∧ p ≤ 44) → M1 p j = M p j) := by
  intro X J rc rs d lw hd hw
  show sm_wp tb_T X tb_ok d lw 118 0 [some (.ref 40), some (.int (nI n)), none, none] [] _ _
  have hN9 : ts.length ≤ 900 := hT.2.1.2.1
  refine go_al0 (p := 1) hf_118 rfl rfl ?_
  refine go_iconst (p := 2) hf_118 rfl rfl ci_0 ?_
  refine go_put (p := 5) hf_118 ho_118 rfl fl_6_78 rfl (by first | with_reducible assumption | rfl) rfl (Or.inl rfl) ?_
  refine go_il1 (p := 6) hf_118 rfl rfl ?_
  refine go_if_lt (p := 9) (p2 := 15) hf_118 rfl rfl rfl (fun h6 => absurd h6 (nI_pos (by omega))) (fun h6 => ?_)
  refine go_il1 (p := 10) hf_118 rfl rfl ?_
  refine go_bipush (p := 12) hf_118 rfl rfl cb_8 ?_
  first | refine go_nn_le (p := 15) (p2 := 17) hf_118 rfl rfl rfl (by omega) (by omega) (fun h12 => ?_) (fun h12 => absurd (by omega) h12) | refine go_ic_le (p := 15) (p2 := 17) hf_118 rfl rfl rfl (fun h12 => ?_) (fun h12 => absurd (by omega) h12)
  refine go_al0 (p := 18) hf_118 rfl rfl ?_
  refine go_get (p := 21) hf_118 ho_118 rfl fl_6_81 rfl (by first | with_reducible assumption | rfl) rfl ((up_i (by omega)).trans hT.2.1.1) ?_
  refine go_is2 (p := 22) hf_118 rfl rfl ?_
  refine go_al0 (p := 23) hf_118 rfl rfl ?_
  refine go_iconst (p := 24) hf_118 rfl rfl ci_0 ?_
  refine go_il1 (p := 25) hf_118 rfl rfl ?_
  refine go_iconst (p := 26) hf_118 rfl rfl ci_m1 ?_
  refine go_cw4 (p := 29) hf_118 rfl rfl (inv_v ho_118 cl_6_92) (by decide) nl_92 rfl rfl (by first | rfl | exact rcv_of (by with_reducible assumption)) rfl rfl rfl (by omega) (by omega) (r_make (s := (ts, false)) (g0 := M 44) (ts0 := ts) (k := 0) (TR_keep (M1 := (sm_up M 40 0 (nI 0))) (g0 := M 44) hT (up_i (by omega)) (up_i (by omega)) (fun p _ _ => upf (by omega)))) ?_
  rintro v9 M2 ⟨⟨s1, v1, eM, rfl, t2⟩, f2⟩
  simp only [Option.toList, List.cons_append, List.nil_append]
  refine go_is3 (p := 30) hf_118 rfl rfl ?_
  refine go_al0 (p := 31) hf_118 rfl rfl ?_
  refine go_il2 (p := 32) hf_118 rfl rfl ?_
  refine go_il3 (p := 33) hf_118 rfl rfl ?_
  refine go_cw3 (p := 36) hf_118 rfl rfl (inv_v ho_118 cl_6_176) (by decide) nl_95 rfl rfl (by first | rfl | exact rcv_of (by with_reducible assumption)) rfl rfl rfl (by omega) (by omega) (r_settle) ?_
  rintro v9 M3 ⟨u3, rfl, hst⟩
  have hcs : (s1.2 = false ∧ u3 = v1 ∧ M3 = M2) ∨ (s1.2 = true ∧ u3 = -2 ∧ TR (M 44) ts M3 (ts, false) ∧ M3 = sm_up (sm_up M2 40 1 (nI ts.length)) 40 7 (nI 0)) := by
    have h7 := t2.2.2.2.1
    rcases hst with ⟨h1, h2, h3⟩ | ⟨h1, h2, h3⟩
    · refine Or.inl ⟨?_, h2, h3⟩
      rw [h7] at h1
      have := bI_0.mp h1
      simpa using this
    · refine Or.inr ⟨?_, h2, ?_, h3⟩
      · rw [h7] at h1
        exact bI_n0.mp h1
      · rw [h3]; exact TR_cut t2
  have f3 : ∀ p j, ¬ (p = 40 ∧ (j = 1 ∨ j = 7)) → M3 p j = M2 p j := fun p j h => by
    rcases hst with ⟨-, -, h3⟩ | ⟨-, -, h3⟩
    · rw [h3]
    · rw [h3, up_o (by omega), up_o (by omega)]
  simp only [Option.toList, List.cons_append, List.nil_append]
  refine go_is3 (p := 37) hf_118 rfl rfl ?_
  refine go_il3 (p := 38) hf_118 rfl rfl ?_
  refine go_if_lt (p := 41) (p2 := 48) hf_118 rfl rfl rfl (fun h38 => ?_) (fun h38 => ?_)
  · refine go_il3 (p := 49) hf_118 rfl rfl ?_
    refine go_ret1 hf_118 rfl nl_118 ?_
    have hs1 : s1.2 = true ∧ u3 = -2 ∧ TR (M 44) ts M3 (ts, false) := by
      rcases hcs with ⟨h1, h2, h3⟩ | ⟨h1, h2, h3, -⟩
      · exfalso
        obtain ⟨b, hb, eb⟩ := mkR_at eM h1
        have := t_lt hb
        have := t2.2.1.2.1
        rw [h2, eb] at h38
        exact absurd h38 (nI_pos (by omega))
      · exact ⟨h1, h2, h3⟩
    obtain ⟨hs1, rfl, t3⟩ := hs1
    refine ⟨_, _, rfl, rfl, ⟨s1, v1, eM, _, rfl, Or.inr ⟨hs1, rfl, RW_self t3, t3.2.2.2.2.1⟩⟩, ?_, fun p j h1 h2 => ?_⟩
    · rw [f3 _ _ (by omega), f2 _ _ (by omega) (by omega)]; exact up_s
    · rw [f3 _ _ (by omega), f2 _ _ (by omega) h2]; exact up_o (by omega)
  · obtain ⟨hs1, rfl, rfl⟩ : s1.2 = false ∧ u3 = v1 ∧ M3 = M2 := by
      rcases hcs with h | ⟨-, h, -⟩
      · exact h
      · exact absurd (by rw [h]; decide) h38
    obtain ⟨ts1, fl⟩ := s1
    have hs1 : fl = false := hs1
    subst hs1
    obtain ⟨b, hb, eb⟩ := mkR_at eM rfl
    subst eb
    have hb := t_lt hb
    have hb : b < ts1.length := hb
    have h9 : ts1.length ≤ 900 := t2.2.1.2.1
    refine go_al0 (p := 42) hf_118 rfl rfl ?_
    refine go_getr (p := 45) hf_118 ho_118 rfl fl_6_19 rfl (by first | with_reducible assumption | rfl) rfl ?_
    refine go_il3 (p := 46) hf_118 rfl rfl ?_
    refine go_iconst (p := 47) hf_118 rfl rfl ci_1 ?_
    refine go_bast (p := 48) hf_118 rfl rfl (by first | with_reducible assumption | rfl) (by first | rfl | with_reducible assumption) (by first | exact rfl | with_reducible assumption) (by omega) (by first | exact Or.inl rfl | exact Or.inr rfl | with_reducible assumption) ?_
    refine go_il3 (p := 49) hf_118 rfl rfl ?_
    refine go_ret1 hf_118 rfl nl_118 ?_
    refine ⟨_, _, rfl, rfl, ⟨(ts1, false), nI b, eM, _, rfl, Or.inl ⟨rfl, rfl, RW_keep (RW_self t2) (up_k (by omega)) (up_k (by omega)) (fun p _ _ => upf (by omega)), fun j hj => ?_⟩⟩, ?_, fun p j h1 h2 => ?_⟩
    · have hj : j < ts1.length := hj
      by_cases e : j = b
      · subst e; rw [up_s, if_pos rfl]
      · rw [up_i e, if_neg (fun q => e ((nI_eq (by omega) (by omega)).mp q).symm)]
        by_cases hl : j < ts.length
        · rw [if_pos hl]; exact t2.2.2.2.2.1 j hl
        · rw [if_neg hl]; exact t2.2.2.2.2.2 j (by omega) hj
    · rw [up_k (by omega), f2 _ _ (by omega) (by omega)]; exact up_s
    · rw [up_o (by omega), f2 _ _ (by omega) h2]; exact up_o (by omega)
theorem r_build {M : sm_M} {a0 a1 a2 : Int32} {ts : List T3} (hT : RW M ts) (hwt : wt ts) (h01 : ∀ i, i < ts.length → M 44 i = 0 ∨ M 44 i = 1) : cr 117 2 49 [.ref 40, .int a0, .int a1, .int a2] M (fun v M1 => ∃ u, v = some (.int u) ∧ ((¬ (∃ kk, 2 ≤ kk ∧ kk ≤ 5 ∧ a0 = nI kk ∧ KNR M ts.length a1 ∧ KNR M ts.length a2) ∧ u = -1) ∨ ((∃ kk, 2 ≤ kk ∧ kk ≤ 5 ∧ a0 = nI kk ∧ KNR M ts.length a1 ∧ KNR M ts.length a2) ∧ ∃ s1 v1, mkR (ts, false) a0 a1 a2 = (s1, v1) ∧ ((s1.2 = false ∧ u = v1 ∧ RW M1 s1.1 ∧ ∀ j, j < s1.1.length → M1 44 j = if j < ts.length then M 44 j else nI 0) ∨ (s1.2 = true ∧ u = -2 ∧ RW M1 ts ∧ ∀ j, j < ts.length → M1 44 j = M 44 j)))) ∧ M1 40 0 = nI 0 ∧ (¬ (∃ kk, 2 ≤ kk ∧ kk ≤ 5 ∧ a0 = nI kk ∧ KNR M ts.length a1 ∧ KNR M ts.length a2) → ∀ p j, p ≠ 45 → ¬ (p = 40 ∧ j = 0) → M1 p j = M p j) ∧ ∀ p j, ¬ (p = 40 ∧ (j = 0 ∨ j = 1 ∨ j = 7)) → ¬ (41 ≤ p ∧ p ≤ 45) → M1 p j = M p j) := by
  intro X J rc rs d lw hd hw
  show sm_wp tb_T X tb_ok d lw 117 0 [some (.ref 40), some (.int a0), some (.int a1), some (.int a2), none, none] [] _ _
  have hN9 : ts.length ≤ 900 := hT.2.1.2.1
  have hq := rq_W hT
  have hW := WT_tm hT.2.1 hwt
  have hq0 : rq (sm_up M 40 0 (nI 0)) (M 41) (M 42) (M 43) ts.length := rq_keep hq (up_i (by omega)) (fun p j _ _ => up_k (by omega))
  have h010 : ∀ i, i < ts.length → (sm_up M 40 0 (nI 0)) 44 i = 0 ∨ (sm_up M 40 0 (nI 0)) 44 i = 1 := fun i hi => by rw [up_k (by omega)]; exact h01 i hi
  refine go_al0 (p := 1) hf_117 rfl rfl ?_
  refine go_iconst (p := 2) hf_117 rfl rfl ci_0 ?_
  refine go_put (p := 5) hf_117 ho_117 rfl fl_6_78 rfl (by first | with_reducible assumption | rfl) rfl (Or.inl rfl) ?_
  refine go_il1 (p := 6) hf_117 rfl rfl ?_
  refine go_iconst (p := 7) hf_117 rfl rfl ci_2 ?_
  refine go_ic_lt (p := 10) (p2 := 31) hf_117 rfl rfl rfl (fun h7 => ?_) (fun h7 => ?_)
  · refine go_iconst (p := 32) hf_117 rfl rfl ci_m1 ?_
    refine go_ret1 hf_117 rfl nl_117 ?_
    have hno : ¬ (∃ kk, 2 ≤ kk ∧ kk ≤ 5 ∧ a0 = nI kk ∧ KNR M ts.length a1 ∧ KNR M ts.length a2) := fun ⟨kk, g1, g2, g3, _⟩ => by
      rw [g3, nI_ltI (by omega) (by omega)] at h7
      omega
    refine ⟨_, _, rfl, rfl, _, rfl, Or.inl ⟨hno, rfl⟩, ?_, fun _ p j h1 h2 => ?_, fun p j h1 h2 => ?_⟩
    · exact up_s
    · exact up_o (by omega)
    · exact up_o (by omega)
  · refine go_il1 (p := 11) hf_117 rfl rfl ?_
    refine go_iconst (p := 12) hf_117 rfl rfl ci_5 ?_
    refine go_ic_gt (p := 15) (p2 := 31) hf_117 rfl rfl rfl (fun h12 => ?_) (fun h12 => ?_)
    · refine go_iconst (p := 32) hf_117 rfl rfl ci_m1 ?_
      refine go_ret1 hf_117 rfl nl_117 ?_
      have hno : ¬ (∃ kk, 2 ≤ kk ∧ kk ≤ 5 ∧ a0 = nI kk ∧ KNR M ts.length a1 ∧ KNR M ts.length a2) := fun ⟨kk, g1, g2, g3, _⟩ => by
        rw [g3, nI_ltI (by omega) (by omega)] at h12
        omega
      refine ⟨_, _, rfl, rfl, _, rfl, Or.inl ⟨hno, rfl⟩, ?_, fun _ p j h1 h2 => ?_, fun p j h1 h2 => ?_⟩
      · exact up_s
      · exact up_o (by omega)
      · exact up_o (by omega)
    · refine go_al0 (p := 16) hf_117 rfl rfl ?_
      refine go_il2 (p := 17) hf_117 rfl rfl ?_
      refine go_cw2 (p := 20) hf_117 rfl rfl (inv_v ho_117 cl_6_194) (by decide) nl_113 rfl rfl (by first | rfl | exact rcv_of (by with_reducible assumption)) rfl rfl rfl (by omega) (by omega) (r_isKnown hq0 hW h010) ?_
      rintro v9 M2 ⟨rfl, f2⟩
      simp only [Option.toList, List.cons_append, List.nil_append]
      refine go_if_eq (p := 23) (p2 := 31) hf_117 rfl rfl rfl (fun h20 => ?_) (fun h20 => ?_)
      · refine go_iconst (p := 32) hf_117 rfl rfl ci_m1 ?_
        refine go_ret1 hf_117 rfl nl_117 ?_
        have hno : ¬ (∃ kk, 2 ≤ kk ∧ kk ≤ 5 ∧ a0 = nI kk ∧ KNR M ts.length a1 ∧ KNR M ts.length a2) := fun ⟨kk, _, _, _, g4, _⟩ => bI_0.mp h20 g4
        refine ⟨_, _, rfl, rfl, _, rfl, Or.inl ⟨hno, rfl⟩, ?_, fun _ p j h1 h2 => ?_, fun p j h1 h2 => ?_⟩
        · rw [f2 40 (by omega)]; exact up_s
        · rw [f2 p h1]; exact up_o (by omega)
        · rw [f2 p (by omega)]; exact up_o (by omega)
      · refine go_al0 (p := 24) hf_117 rfl rfl ?_
        refine go_il3 (p := 25) hf_117 rfl rfl ?_
        refine go_cw2 (p := 28) hf_117 rfl rfl (inv_v ho_117 cl_6_194) (by decide) nl_113 rfl rfl (by first | rfl | exact rcv_of (by with_reducible assumption)) rfl rfl rfl (by omega) (by omega) (r_isKnown (rq_keep hq0 (by rw [f2 40 (by omega)]) (fun p j _ _ => by rw [f2 p (by omega)])) hW (fun i hi => by rw [f2 44 (by omega)]; exact h010 i hi)) ?_
        rintro v9 M3 ⟨rfl, f3⟩
        simp only [Option.toList, List.cons_append, List.nil_append]
        refine go_if_ne (p := 31) (p2 := 33) hf_117 rfl rfl rfl (fun h28 => ?_) (fun h28 => ?_)
        · have e16 : M3 40 1 = nI ts.length := by
            rw [f3 40 (by omega), f2 40 (by omega)]
            exact (up_i (by omega)).trans hT.2.1.1
          obtain ⟨kk, hk2, hk5, rfl⟩ := rng_nI (by omega) h7 h12 (by omega)
          have k1 : KNR M ts.length a1 := bI_n0.mp h20
          have k2 : KNR M ts.length a2 := by
            have h := bI_n0.mp h28
            rw [f2 44 (by omega)] at h
            exact h
          refine go_al0 (p := 34) hf_117 rfl rfl ?_
          refine go_get (p := 37) hf_117 ho_117 rfl fl_6_81 rfl (by first | with_reducible assumption | rfl) rfl e16 ?_
          refine go_is4 (p := 39) hf_117 rfl rfl ?_
          refine go_al0 (p := 40) hf_117 rfl rfl ?_
          refine go_il1 (p := 41) hf_117 rfl rfl ?_
          refine go_il2 (p := 42) hf_117 rfl rfl ?_
          refine go_il3 (p := 43) hf_117 rfl rfl ?_
          refine go_cw4 (p := 46) hf_117 rfl rfl (inv_v ho_117 cl_6_92) (by decide) nl_92 rfl rfl (by first | rfl | exact rcv_of (by with_reducible assumption)) rfl rfl rfl (by omega) (by omega) (r_make (s := (ts, false)) (g0 := M 44) (ts0 := ts) (k := kk) (TR_keep (g0 := M 44) hT (by rw [f3 40 (by omega), f2 40 (by omega)]; exact up_i (by omega)) (by rw [f3 40 (by omega), f2 40 (by omega)]; exact up_i (by omega)) (fun p _ _ => by rw [f3 p (by omega), f2 p (by omega)]; exact upf (by omega)))) ?_
          rintro v9 M4 ⟨⟨s1, v1, eM, rfl, t4⟩, f4⟩
          simp only [Option.toList, List.cons_append, List.nil_append]
          refine go_is5 (p := 48) hf_117 rfl rfl ?_
          refine go_al0 (p := 49) hf_117 rfl rfl ?_
          refine go_il4 (p := 51) hf_117 rfl rfl ?_
          refine go_il5 (p := 53) hf_117 rfl rfl ?_
          refine go_cw3 (p := 56) hf_117 rfl rfl (inv_v ho_117 cl_6_176) (by decide) nl_95 rfl rfl (by first | rfl | exact rcv_of (by with_reducible assumption)) rfl rfl rfl (by omega) (by omega) (r_settle) ?_
          rintro v9 M5 ⟨u3, rfl, hst⟩
          have hcs : (s1.2 = false ∧ u3 = v1 ∧ M5 = M4) ∨ (s1.2 = true ∧ u3 = -2 ∧ TR (M 44) ts M5 (ts, false)) := by
            have h7 := t4.2.2.2.1
            rcases hst with ⟨h1, h2, h3⟩ | ⟨h1, h2, h3⟩
            · refine Or.inl ⟨?_, h2, h3⟩
              rw [h7] at h1
              have := bI_0.mp h1
              simpa using this
            · refine Or.inr ⟨?_, h2, ?_⟩
              · rw [h7] at h1
                exact bI_n0.mp h1
              · rw [h3]; exact TR_cut t4
          have f5 : ∀ p j, ¬ (p = 40 ∧ (j = 1 ∨ j = 7)) → M5 p j = M4 p j := fun p j h => by
            rcases hst with ⟨-, -, h3⟩ | ⟨-, -, h3⟩
            · rw [h3]
            · rw [h3, up_o (by omega), up_o (by omega)]
          simp only [Option.toList, List.cons_append, List.nil_append]
          refine go_ret1 hf_117 rfl nl_117 ?_
          refine ⟨_, _, rfl, rfl, _, rfl, Or.inr ⟨⟨kk, hk2, hk5, rfl, k1, k2⟩, s1, v1, eM, ?_⟩, ?_, fun h => absurd ⟨kk, hk2, hk5, rfl, k1, k2⟩ h, fun p j h1 h2 => ?_⟩
          · rcases hcs with ⟨h1, h2, h3⟩ | ⟨h1, h2, h3⟩
            · subst h3
              obtain ⟨ts1, fl⟩ := s1
              have h1 : fl = false := h1
              subst h1
              refine Or.inl ⟨rfl, h2, RW_self t4, fun j hj => ?_⟩
              have hj : j < ts1.length := hj
              by_cases hl : j < ts.length
              · rw [if_pos hl]; exact t4.2.2.2.2.1 j hl
              · rw [if_neg hl]; exact t4.2.2.2.2.2 j (by omega) hj
            · exact Or.inr ⟨h1, h2, RW_self h3, h3.2.2.2.2.1⟩
          · rw [f5 _ _ (by omega), f4 _ _ (by omega) (by omega), f3 40 (by omega), f2 40 (by omega)]; exact up_s
          · rw [f5 _ _ (by omega), f4 _ _ (by omega) (by omega), f3 p (by omega), f2 p (by omega)]; exact up_o (by omega)
        · refine go_iconst (p := 32) hf_117 rfl rfl ci_m1 ?_
          refine go_ret1 hf_117 rfl nl_117 ?_
          have hno : ¬ (∃ kk, 2 ≤ kk ∧ kk ≤ 5 ∧ a0 = nI kk ∧ KNR M ts.length a1 ∧ KNR M ts.length a2) := fun ⟨kk, _, _, _, _, g4⟩ => by
            refine bI_0.mp h28 ?_
            rw [f2 44 (by omega)]
            exact g4
          refine ⟨_, _, rfl, rfl, _, rfl, Or.inl ⟨hno, rfl⟩, ?_, fun _ p j h1 h2 => ?_, fun p j h1 h2 => ?_⟩
          · rw [f3 40 (by omega), f2 40 (by omega)]; exact up_s
          · rw [f3 p h1, f2 p h1]; exact up_o (by omega)
          · rw [f3 p (by omega), f2 p (by omega)]; exact up_o (by omega)
