/-! ===== writing states as terms: the reference ===== -/
def ext (s s' : List T3 × Bool) : Prop := (∃ r, s'.1 = s.1 ++ r) ∧ (s.2 = true → s'.2 = true)
theorem ext_rf {s : List T3 × Bool} : ext s s := ⟨⟨[], by simp⟩, id⟩
theorem ext_tr {s s' s'' : List T3 × Bool} (h : ext s s') (h' : ext s' s'') : ext s s'' := by
  obtain ⟨⟨r, e⟩, g⟩ := h
  obtain ⟨⟨r', e'⟩, g'⟩ := h'
  exact ⟨⟨r ++ r', by rw [e', e, List.append_assoc]⟩, fun q => g' (g q)⟩
theorem ext_mk {s s1 : List T3 × Bool} {k x y v : Int32} (h : mkR s k x y = (s1, v)) : ext s s1 := mkR_mono h
theorem ext_rp {s s1 : List T3 × Bool} {p : List Tok} {st st1 : List Int32} (h : rp mkR p s st = (s1, st1)) : ext s s1 := by
  have e := rp_mono p s st
  rw [h] at e
  exact e
theorem ext_f {s s' : List T3 × Bool} (h : ext s s') (hf : s'.2 = false) : s.2 = false := by
  cases e : s.2 with
  | false => rfl
  | true => rw [h.2 e] at hf; cases hf
def ag (Z : (List T3 × Bool) × List Int32) (s : List T3 × Bool) (p : List Tok) (st : List Int32) : Prop := (s.2 = true ∧ Z.1.2 = true) ∨ (s.2 = false ∧ Z = rp mkR p s st)
theorem ag_go {Z : (List T3 × Bool) × List Int32} {s s1 : List T3 × Bool} {p p1 : List Tok} {st st1 : List Int32} (h : ag Z s p st) (he : ext s s1) (hr : rp mkR p s st = rp mkR p1 s1 st1) : ag Z s1 p1 st1 := by
  rcases h with ⟨h1, h2⟩ | ⟨h1, h2⟩
  · exact Or.inl ⟨he.2 h1, h2⟩
  · rw [hr] at h2
    cases e : s1.2 with
    | true => exact Or.inl ⟨e, by rw [h2]; exact (rp_mono p1 s1 st1).2 e⟩
    | false => exact Or.inr ⟨e, h2⟩
theorem ag_0 {Z : (List T3 × Bool) × List Int32} {s s1 : List T3 × Bool} {k n : Nat} {p : List Tok} {st : List Int32} {v : Int32} (h : ag Z s ((0, k, n) :: p) st) (e : mkR s (nI k) (nI n) (-1) = (s1, v)) : ag Z s1 p (v :: st) := ag_go h (ext_mk e) (rp_0 e)
theorem ag_1 {Z : (List T3 × Bool) × List Int32} {s s1 : List T3 × Bool} {k n : Nat} {p : List Tok} {st : List Int32} {v x y : Int32} (h : ag Z s ((1, k, n) :: p) (y :: x :: st)) (e : mkR s (nI k) x y = (s1, v)) : ag Z s1 p (v :: st) := ag_go h (ext_mk e) (rp_1 e)
theorem ag_2 {Z : (List T3 × Bool) × List Int32} {s s1 : List T3 × Bool} {k n : Nat} {p : List Tok} {st : List Int32} {v x y : Int32} (h : ag Z s ((2, k, n) :: p) (x :: y :: st)) (e : mkR s (nI k) x y = (s1, v)) : ag Z s1 p (v :: st) := ag_go h (ext_mk e) (rp_2 e)
theorem ag_3 {Z : (List T3 × Bool) × List Int32} {s : List T3 × Bool} {k n : Nat} {p : List Tok} {st : List Int32} {x : Int32} (h : ag Z s ((3, k, n) :: p) (x :: st)) : ag Z s p (x :: x :: st) := h
theorem ag_e {Z : (List T3 × Bool) × List Int32} {s s1 : List T3 × Bool} {q p : List Tok} {st : List Int32} {v : Int32} (h : ag Z s (q ++ p) st) (e : ∀ st, rp mkR q s st = (s1, v :: st)) : ag Z s1 p (v :: st) := ag_go h (ext_rp (e [])) (rp_then (e st))
/-- made before: the same again -/
theorem again_mk {s0 s1 s' : List T3 × Bool} {k x y v : Int32} (e : mkR s0 k x y = (s1, v)) (h : ext s1 s') (hu : uq s'.1) (hf : s'.2 = false) : mkR s' k x y = (s', v) := by
  obtain ⟨i, hi, hv⟩ := mkR_at e (ext_f h hf)
  obtain ⟨⟨r, hr⟩, -⟩ := h
  obtain ⟨ts', b⟩ := s'
  have hr : ts' = s1.1 ++ r := hr
  rw [hv]
  exact mkR_idem hu (by rw [hr]; exact t_app hi)
theorem again_rp {s0 s1 s' : List T3 × Bool} {p : List Tok} {st : List Int32} {st1 : List Int32} (e : rp mkR p s0 st = (s1, st1)) (h : ext s1 s') (hu : uq s'.1) (hf : s'.2 = false) : rp mkR p s' st = (s', st1) := by
  have h1 := ext_f h hf
  have h0 := ext_f (ext_rp e) h1
  obtain ⟨⟨r, hr⟩, -⟩ := h
  obtain ⟨ts0, b0⟩ := s0
  obtain ⟨ts1, b1⟩ := s1
  obtain ⟨ts', b'⟩ := s'
  have h0 : b0 = false := h0
  have h1 : b1 = false := h1
  have hf : b' = false := hf
  have hr : ts' = ts1 ++ r := hr
  subst h0 h1 hf hr
  exact rp_idem p ts0 ts1 r st st1 e hu
theorem ag_v {Z : (List T3 × Bool) × List Int32} {s0 s1 s : List T3 × Bool} {k n : Nat} {p : List Tok} {st : List Int32} {v : Int32} (h : ag Z s ((0, k, n) :: p) st) (e : mkR s0 (nI k) (nI n) (-1) = (s1, v)) (he : ext s1 s) (hu : uq s.1) : ag Z s p (v :: st) := by
  rcases h with h | ⟨h1, h2⟩
  · exact Or.inl h
  · exact Or.inr ⟨h1, by rw [h2]; exact rp_0 (again_mk e he hu h1)⟩
theorem add_m1 (x : Int32) : x + Int32.ofInt (-1) = x - nI 1 := by
  rw [Int32.sub_eq_add_neg]
  congr 1
theorem r_makeEntry {g0 : Nat → Int32} {ts0 : List T3} {s : List T3 × Bool} {M : sm_M} {e w : Nat} (he : e < 72) (hw9 : w < 32768) (q0 : qd M e w) (hT : TR g0 ts0 M s) : cr 94 2 48 [.ref 40, .int (nI e)] M (fun v M1 => (∃ s1 v1, (∀ st, rp mkR (entP w) s st = (s1, v1 :: st)) ∧ v = some (.int v1) ∧ TR g0 ts0 M1 s1) ∧ ∀ p j, ¬ (p = 40 ∧ (j = 1 ∨ j = 7)) → ¬ (41 ≤ p ∧ p ≤ 44) → M1 p j = M p j) := by
  intro X J rc rs d lw hd hw
  show sm_wp tb_T X tb_ok d lw 94 0 [some (.ref 40), some (.int (nI e)), none, none, none, none, none, none, none] [] _ _
  obtain ⟨a0, b0, c0, d0⟩ := id q0
  refine go_al0 hf_94 rfl rfl ?_
  refine go_iconst hf_94 rfl rfl ci_1 ?_
  refine go_al0 hf_94 rfl rfl ?_
  refine go_getr hf_94 ho_94 rfl fl_6_41 rfl (by first | assumption | rfl) rfl ?_
  refine go_il1 hf_94 rfl rfl ?_
  refine go_iald hf_94 rfl rfl (by first | assumption | rfl) (by first | rfl | assumption) (by first | exact rfl | assumption) (by omega) (by first | assumption | ((repeat rewrite [up_k]) <;> first | assumption | decide | omega) | exact rfl) ?_
  refine go_iconst hf_94 rfl rfl ci_m1 ?_
  refine go_call hf_94 rfl rfl (inv_v ho_94 cl_6_92) (by decide) nl_92 rfl rfl rfl rfl rfl (by first | rfl | exact rcv_of (by assumption)) rfl rfl rfl (by omega) (by omega) (r_make hT) ?_
  rintro v9 M1 ⟨⟨s1, v1, e1, rfl, T1⟩, f1⟩
  have q1 : qd M1 e w := qd_congr q0 (f1 _ _ (by omega) (by omega)) (f1 _ _ (by omega) (by omega)) (f1 _ _ (by omega) (by omega)) (f1 _ _ (by omega) (by omega))
  obtain ⟨a1, b1, c1, d1⟩ := id q1
  refine go_is2 hf_94 rfl rfl ?_
  refine go_al0 hf_94 rfl rfl ?_
  refine go_iconst hf_94 rfl rfl ci_1 ?_
  refine go_al0 hf_94 rfl rfl ?_
  refine go_getr hf_94 ho_94 rfl fl_6_47 rfl (by first | assumption | rfl) rfl ?_
  refine go_il1 hf_94 rfl rfl ?_
  refine go_iald hf_94 rfl rfl (by first | assumption | rfl) (by first | rfl | assumption) (by first | exact rfl | assumption) (by omega) (by first | assumption | ((repeat rewrite [up_k]) <;> first | assumption | decide | omega) | exact rfl) ?_
  refine go_iconst hf_94 rfl rfl ci_m1 ?_
  refine go_call hf_94 rfl rfl (inv_v ho_94 cl_6_92) (by decide) nl_92 rfl rfl rfl rfl rfl (by first | rfl | exact rcv_of (by assumption)) rfl rfl rfl (by omega) (by omega) (r_make T1) ?_
  rintro v9 M2 ⟨⟨s2, v2, e2, rfl, T2⟩, f2⟩
  have q2 : qd M2 e w := qd_congr q1 (f2 _ _ (by omega) (by omega)) (f2 _ _ (by omega) (by omega)) (f2 _ _ (by omega) (by omega)) (f2 _ _ (by omega) (by omega))
  obtain ⟨a2, b2, c2, d2⟩ := id q2
  refine go_is3 hf_94 rfl rfl ?_
  refine go_al0 hf_94 rfl rfl ?_
  refine go_iconst hf_94 rfl rfl ci_1 ?_
  refine go_al0 hf_94 rfl rfl ?_
  refine go_getr hf_94 ho_94 rfl fl_6_50 rfl (by first | assumption | rfl) rfl ?_
  refine go_il1 hf_94 rfl rfl ?_
  refine go_iald hf_94 rfl rfl (by first | assumption | rfl) (by first | rfl | assumption) (by first | exact rfl | assumption) (by omega) (by first | assumption | ((repeat rewrite [up_k]) <;> first | assumption | decide | omega) | exact rfl) ?_
  refine go_iconst hf_94 rfl rfl ci_m1 ?_
  refine go_call hf_94 rfl rfl (inv_v ho_94 cl_6_92) (by decide) nl_92 rfl rfl rfl rfl rfl (by first | rfl | exact rcv_of (by assumption)) rfl rfl rfl (by omega) (by omega) (r_make T2) ?_
  rintro v9 M3 ⟨⟨s3, v3, e3, rfl, T3⟩, f3⟩
  have q3 : qd M3 e w := qd_congr q2 (f3 _ _ (by omega) (by omega)) (f3 _ _ (by omega) (by omega)) (f3 _ _ (by omega) (by omega)) (f3 _ _ (by omega) (by omega))
  obtain ⟨a3, b3, c3, d3⟩ := id q3
  refine go_is4 hf_94 rfl rfl ?_
  refine go_al0 hf_94 rfl rfl ?_
  refine go_iconst hf_94 rfl rfl ci_0 ?_
  refine go_bipush hf_94 rfl rfl cb_10 ?_
  refine go_al0 hf_94 rfl rfl ?_
  refine go_getr hf_94 ho_94 rfl fl_6_41 rfl (by first | assumption | rfl) rfl ?_
  refine go_il1 hf_94 rfl rfl ?_
  refine go_iald hf_94 rfl rfl (by first | assumption | rfl) (by first | rfl | assumption) (by first | exact rfl | assumption) (by omega) (by first | assumption | ((repeat rewrite [up_k]) <;> first | assumption | decide | omega) | exact rfl) ?_
  refine go_iadd hf_94 rfl rfl (by first | exact nI_add _ _ | exact rfl) ?_
  refine go_iconst hf_94 rfl rfl ci_m1 ?_
  refine go_call hf_94 rfl rfl (inv_v ho_94 cl_6_92) (by decide) nl_92 rfl rfl rfl rfl rfl (by first | rfl | exact rcv_of (by assumption)) rfl rfl rfl (by omega) (by omega) (r_make T3) ?_
  rintro v9 M4 ⟨⟨s4, v4, e4, rfl, T4⟩, f4⟩
  have q4 : qd M4 e w := qd_congr q3 (f4 _ _ (by omega) (by omega)) (f4 _ _ (by omega) (by omega)) (f4 _ _ (by omega) (by omega)) (f4 _ _ (by omega) (by omega))
  obtain ⟨a4, b4, c4, d4⟩ := id q4
  refine go_is5 hf_94 rfl rfl ?_
  refine go_al0 hf_94 rfl rfl ?_
  refine go_iconst hf_94 rfl rfl ci_0 ?_
  refine go_bipush hf_94 rfl rfl cb_100 ?_
  refine go_al0 hf_94 rfl rfl ?_
  refine go_getr hf_94 ho_94 rfl fl_6_44 rfl (by first | assumption | rfl) rfl ?_
  refine go_il1 hf_94 rfl rfl ?_
  refine go_iald hf_94 rfl rfl (by first | assumption | rfl) (by first | rfl | assumption) (by first | exact rfl | assumption) (by omega) (by first | assumption | ((repeat rewrite [up_k]) <;> first | assumption | decide | omega) | exact rfl) ?_
  refine go_iadd hf_94 rfl rfl (by first | exact nI_add _ _ | exact rfl) ?_
  refine go_iconst hf_94 rfl rfl ci_m1 ?_
  refine go_call hf_94 rfl rfl (inv_v ho_94 cl_6_92) (by decide) nl_92 rfl rfl rfl rfl rfl (by first | rfl | exact rcv_of (by assumption)) rfl rfl rfl (by omega) (by omega) (r_make T4) ?_
  rintro v9 M5 ⟨⟨s5, v5, e5, rfl, T5⟩, f5⟩
  have q5 : qd M5 e w := qd_congr q4 (f5 _ _ (by omega) (by omega)) (f5 _ _ (by omega) (by omega)) (f5 _ _ (by omega) (by omega)) (f5 _ _ (by omega) (by omega))
  obtain ⟨a5, b5, c5, d5⟩ := id q5
  refine go_is6 hf_94 rfl rfl ?_
  refine go_al0 hf_94 rfl rfl ?_
  refine go_iconst hf_94 rfl rfl ci_3 ?_
  refine go_il5 hf_94 rfl rfl ?_
  refine go_il6 hf_94 rfl rfl ?_
  refine go_call hf_94 rfl rfl (inv_v ho_94 cl_6_92) (by decide) nl_92 rfl rfl rfl rfl rfl (by first | rfl | exact rcv_of (by assumption)) rfl rfl rfl (by omega) (by omega) (r_make T5) ?_
  rintro v9 M6 ⟨⟨s6, v6, e6, rfl, T6⟩, f6⟩
  refine go_is7 hf_94 rfl rfl ?_
  refine go_al0 hf_94 rfl rfl ?_
  refine go_iconst hf_94 rfl rfl ci_4 ?_
  refine go_il4 hf_94 rfl rfl ?_
  refine go_il7 hf_94 rfl rfl ?_
  refine go_call hf_94 rfl rfl (inv_v ho_94 cl_6_92) (by decide) nl_92 rfl rfl rfl rfl rfl (by first | rfl | exact rcv_of (by assumption)) rfl rfl rfl (by omega) (by omega) (r_make T6) ?_
  rintro v9 M7 ⟨⟨s7, v7, e7, rfl, T7⟩, f7⟩
  refine go_is8 hf_94 rfl rfl ?_
  refine go_al0 hf_94 rfl rfl ?_
  refine go_iconst hf_94 rfl rfl ci_4 ?_
  refine go_il3 hf_94 rfl rfl ?_
  refine go_il8 hf_94 rfl rfl ?_
  refine go_call hf_94 rfl rfl (inv_v ho_94 cl_6_92) (by decide) nl_92 rfl rfl rfl rfl rfl (by first | rfl | exact rcv_of (by assumption)) rfl rfl rfl (by omega) (by omega) (r_make T7) ?_
  rintro v9 M8 ⟨⟨s8, v8, e8, rfl, T8⟩, f8⟩
  refine go_is8 hf_94 rfl rfl ?_
  refine go_al0 hf_94 rfl rfl ?_
  refine go_iconst hf_94 rfl rfl ci_4 ?_
  refine go_il2 hf_94 rfl rfl ?_
  refine go_il8 hf_94 rfl rfl ?_
  refine go_call hf_94 rfl rfl (inv_v ho_94 cl_6_92) (by decide) nl_92 rfl rfl rfl rfl rfl (by first | rfl | exact rcv_of (by assumption)) rfl rfl rfl (by omega) (by omega) (r_make T8) ?_
  rintro v9b M9 ⟨⟨s9, v9, e9, rfl, T9⟩, f9⟩
  refine go_ret1 hf_94 rfl nl_94 ?_
  refine ⟨_, _, rfl, rfl, ⟨s9, v9, fun st => ?_, rfl, T9⟩, fun p j h1 h2 => ?_⟩
  · unfold entP
    rw [rp_0 e1, rp_0 e2, rp_0 e3, rp_0 e4, rp_0 e5, rp_1 e6, rp_1 e7, rp_1 e8, rp_1 e9]
    rfl
  · rw [f9 p j h1 h2, f8 p j h1 h2, f7 p j h1 h2, f6 p j h1 h2, f5 p j h1 h2, f4 p j h1 h2, f3 p j h1 h2, f2 p j h1 h2, f1 p j h1 h2]
theorem r_makeSeal {g0 : Nat → Int32} {ts : List T3} {M : sm_M} {s g ow pw : Nat} {vv : Nat → Nat} {l : List Nat} (hs : s < 3) (hl : re M s l) (hl12 : l.length ≤ 12) (hg : M 46 s = nI g) (how : M 47 s = nI ow) (hpw : M 48 s = nI pw) (hvv : ∀ j, j < 3 → M 49 (3 * s + j) = nI (vv j)) (hT : TR g0 ts M (ts, false)) : cr 91 3 76 [.ref 40, .int (nI s)] M (fun v M1 => (∃ s1 v1, v = some (.int v1) ∧ TR g0 ts M1 s1 ∧ ((s1.2 = true ∧ (rp mkR (sealP g ow pw vv l) (ts, false) []).1.2 = true) ∨ (s1.2 = false ∧ (rp mkR (sealP g ow pw vv l) (ts, false) []) = (s1, [v1])))) ∧ ∀ p j, ¬ (p = 40 ∧ (j = 1 ∨ j = 7)) → ¬ (41 ≤ p ∧ p ≤ 44) → M1 p j = M p j) := by
  intro X J rc rs d lw hd hw
  show sm_wp tb_T X tb_ok d lw 91 0 [some (.ref 40), some (.int (nI s)), none, none, none, none, none, none, none, none, none, none, none, none, none] [] _ _
  generalize hZ : (rp mkR (sealP g ow pw vv l) (ts, false) []) = Z
  have a0 : ag Z (ts, false) (sealP g ow pw vv l) [] := Or.inr ⟨rfl, hZ.symm⟩
  unfold sealP hdrP vecP at a0
  obtain ⟨hsz, hr⟩ := id hl
  have hv0 := hvv 0 (by omega)
  have hv1 := hvv 1 (by omega)
  have hv2 := hvv 2 (by omega)
  have tail : ∀ (x2 x3 x4 x5 x6 x7 x8 x9 x10 x11 cur : Int32) (y13 y14 : Option Value) (s0 sv s' : List T3 × Bool) (M2 : sm_M), mkR s0 (nI 0) (nI 9) (-1) = (sv, x7) → ext sv s' → ag Z s' endP (cur :: [x11, x10, x9, x8, x3, x2]) → TR g0 ts M2 s' → (∀ p j, ¬ (p = 40 ∧ (j = 1 ∨ j = 7)) → ¬ (41 ≤ p ∧ p ≤ 44) → M2 p j = M p j) → sm_wp tb_T X tb_ok d lw 91 228 [some (.ref 40), some (.int (nI s)), some (.int x2), some (.int x3), some (.int x4), some (.int x5), some (.int x6), some (.int x7), some (.int x8), some (.int x9), some (.int x10), some (.int x11), some (.int cur), y13, y14] [] (wSH, M2, J, rc, rs) (fun o h' => ∃ v M1, o = .inl v ∧ h' = (wSH, M1, J, rc, rs) ∧ (∃ s1 v1, v = some (.int v1) ∧ TR g0 ts M1 s1 ∧ ((s1.2 = true ∧ Z.1.2 = true) ∨ (s1.2 = false ∧ Z = (s1, [v1])))) ∧ ∀ p j, ¬ (p = 40 ∧ (j = 1 ∨ j = 7)) → ¬ (41 ≤ p ∧ p ≤ 44) → M1 p j = M p j) := by
    intro x2 x3 x4 x5 x6 x7 x8 x9 x10 x11 cur y13 y14 s0 sv s' M2 ev xv ga hT2 hfr
    unfold endP at ga
    refine go_al0 hf_91 rfl rfl ?_
    refine go_iconst hf_91 rfl rfl ci_4 ?_
    refine go_il11 hf_91 rfl rfl ?_
    refine go_il12 hf_91 rfl rfl ?_
    refine go_call hf_91 rfl rfl (inv_v ho_91 cl_6_92) (by decide) nl_92 rfl rfl rfl rfl rfl (by first | rfl | exact rcv_of (by assumption)) rfl rfl rfl (by omega) (by omega) (r_make hT2) ?_
    rintro v9 M3 ⟨⟨s1, v1, e1, rfl, T1⟩, f1⟩
    have ga1 := ag_1 ga e1
    have xv1 := ext_tr xv (ext_mk e1)
    refine go_is12 hf_91 rfl rfl ?_
    refine go_al0 hf_91 rfl rfl ?_
    refine go_iconst hf_91 rfl rfl ci_4 ?_
    refine go_il10 hf_91 rfl rfl ?_
    refine go_il12 hf_91 rfl rfl ?_
    refine go_call hf_91 rfl rfl (inv_v ho_91 cl_6_92) (by decide) nl_92 rfl rfl rfl rfl rfl (by first | rfl | exact rcv_of (by assumption)) rfl rfl rfl (by omega) (by omega) (r_make T1) ?_
    rintro v9 M4 ⟨⟨s2, v2, e2, rfl, T2⟩, f2⟩
    have ga2 := ag_1 ga1 e2
    have xv2 := ext_tr xv1 (ext_mk e2)
    refine go_is12 hf_91 rfl rfl ?_
    refine go_al0 hf_91 rfl rfl ?_
    refine go_iconst hf_91 rfl rfl ci_4 ?_
    refine go_il9 hf_91 rfl rfl ?_
    refine go_il12 hf_91 rfl rfl ?_
    refine go_call hf_91 rfl rfl (inv_v ho_91 cl_6_92) (by decide) nl_92 rfl rfl rfl rfl rfl (by first | rfl | exact rcv_of (by assumption)) rfl rfl rfl (by omega) (by omega) (r_make T2) ?_
    rintro v9 M5 ⟨⟨s3, v3, e3, rfl, T3⟩, f3⟩
    have ga3 := ag_1 ga2 e3
    have xv3 := ext_tr xv2 (ext_mk e3)
    refine go_is12 hf_91 rfl rfl ?_
    refine go_al0 hf_91 rfl rfl ?_
    refine go_iconst hf_91 rfl rfl ci_4 ?_
    refine go_il8 hf_91 rfl rfl ?_
    refine go_il12 hf_91 rfl rfl ?_
    refine go_call hf_91 rfl rfl (inv_v ho_91 cl_6_92) (by decide) nl_92 rfl rfl rfl rfl rfl (by first | rfl | exact rcv_of (by assumption)) rfl rfl rfl (by omega) (by omega) (r_make T3) ?_
    rintro v9 M6 ⟨⟨s4, v4, e4, rfl, T4⟩, f4⟩
    have ga4 := ag_1 ga3 e4
    have xv4 := ext_tr xv3 (ext_mk e4)
    refine go_is12 hf_91 rfl rfl ?_
    refine go_al0 hf_91 rfl rfl ?_
    refine go_iconst hf_91 rfl rfl ci_4 ?_
    refine go_il3 hf_91 rfl rfl ?_
    refine go_il12 hf_91 rfl rfl ?_
    refine go_call hf_91 rfl rfl (inv_v ho_91 cl_6_92) (by decide) nl_92 rfl rfl rfl rfl rfl (by first | rfl | exact rcv_of (by assumption)) rfl rfl rfl (by omega) (by omega) (r_make T4) ?_
    rintro v9 M7 ⟨⟨s5, v5, e5, rfl, T5⟩, f5⟩
    have ga5 := ag_1 ga4 e5
    have xv5 := ext_tr xv4 (ext_mk e5)
    refine go_is12 hf_91 rfl rfl ?_
    refine go_al0 hf_91 rfl rfl ?_
    refine go_iconst hf_91 rfl rfl ci_4 ?_
    refine go_il2 hf_91 rfl rfl ?_
    refine go_il12 hf_91 rfl rfl ?_
    refine go_call hf_91 rfl rfl (inv_v ho_91 cl_6_92) (by decide) nl_92 rfl rfl rfl rfl rfl (by first | rfl | exact rcv_of (by assumption)) rfl rfl rfl (by omega) (by omega) (r_make T5) ?_
    rintro v9 M8 ⟨⟨s6, v6, e6, rfl, T6⟩, f6⟩
    have ga6 := ag_1 ga5 e6
    have xv6 := ext_tr xv5 (ext_mk e6)
    have ga6b := ag_v (ag_3 ga6) ev xv6 T6.2.2.1
    refine go_is12 hf_91 rfl rfl ?_
    refine go_al0 hf_91 rfl rfl ?_
    refine go_iconst hf_91 rfl rfl ci_5 ?_
    refine go_il7 hf_91 rfl rfl ?_
    refine go_il12 hf_91 rfl rfl ?_
    refine go_call hf_91 rfl rfl (inv_v ho_91 cl_6_92) (by decide) nl_92 rfl rfl rfl rfl rfl (by first | rfl | exact rcv_of (by assumption)) rfl rfl rfl (by omega) (by omega) (r_make T6) ?_
    rintro v9 M9 ⟨⟨s7, v7, e7, rfl, T7⟩, f7⟩
    have ga7 := ag_2 ga6b e7
    refine go_is13 hf_91 rfl rfl ?_
    refine go_al0 hf_91 rfl rfl ?_
    refine go_iconst hf_91 rfl rfl ci_4 ?_
    refine go_il12 hf_91 rfl rfl ?_
    refine go_il13 hf_91 rfl rfl ?_
    refine go_call hf_91 rfl rfl (inv_v ho_91 cl_6_92) (by decide) nl_92 rfl rfl rfl rfl rfl (by first | rfl | exact rcv_of (by assumption)) rfl rfl rfl (by omega) (by omega) (r_make T7) ?_
    rintro v9 M10 ⟨⟨s8, v8, e8, rfl, T8⟩, f8⟩
    have ga8 := ag_1 ga7 e8
    refine go_ret1 hf_91 rfl nl_91 ?_
    exact ⟨_, _, rfl, rfl, ⟨s8, v8, rfl, T8, ga8⟩, fun p j h1 h2 => by rw [f8 p j h1 h2, f7 p j h1 h2, f6 p j h1 h2, f5 p j h1 h2, f4 p j h1 h2, f3 p j h1 h2, f2 p j h1 h2, f1 p j h1 h2]; exact hfr p j h1 h2⟩
  have loop2 : ∀ (x2 x3 x4 x5 x6 x7 x8 x9 x10 x11 : Int32) (s0 sv : List T3 × Bool) (rv : List Int32), mkR s0 (nI 0) (nI 9) (-1) = (sv, x7) → rv.length = l.length → ∀ (m : Nat) (cur : Int32) (y14 : Option Value) (s' : List T3 × Bool) (M2 : sm_M), m ≤ l.length → ext sv s' → (∀ (j : Nat) (w : Nat), l[j]? = some w → ∃ x sa sb, rv[j]? = some x ∧ (∀ st, rp mkR (entP w) sa st = (sb, x :: st)) ∧ ext sb s') → ag Z s' (List.replicate m (1, 4, 0) ++ endP) (cur :: ((rv.take m).reverse ++ [x11, x10, x9, x8, x3, x2])) → TR g0 ts M2 s' → (∀ p j, ¬ (p = 40 ∧ (j = 1 ∨ j = 7)) → ¬ (41 ≤ p ∧ p ≤ 44) → M2 p j = M p j) → sm_wp tb_T X tb_ok d lw 91 194 [some (.ref 40), some (.int (nI s)), some (.int x2), some (.int x3), some (.int x4), some (.int x5), some (.int x6), some (.int x7), some (.int x8), some (.int x9), some (.int x10), some (.int x11), some (.int cur), some (.int (nI (12 * s + m) - nI 1)), y14] [] (wSH, M2, J, rc, rs) (fun o h' => ∃ v M1, o = .inl v ∧ h' = (wSH, M1, J, rc, rs) ∧ (∃ s1 v1, v = some (.int v1) ∧ TR g0 ts M1 s1 ∧ ((s1.2 = true ∧ Z.1.2 = true) ∨ (s1.2 = false ∧ Z = (s1, [v1])))) ∧ ∀ p j, ¬ (p = 40 ∧ (j = 1 ∨ j = 7)) → ¬ (41 ≤ p ∧ p ≤ 44) → M1 p j = M p j) := by
    intro x2 x3 x4 x5 x6 x7 x8 x9 x10 x11 s0 sv rv ev hrl m
    induction m with
    | zero =>
      intro cur y14 s' M2 hm xv hk ga hT2 hfr
      refine go_il13 hf_91 rfl rfl ?_
      refine go_bipush hf_91 rfl rfl cb_12 ?_
      refine go_il1 hf_91 rfl rfl ?_
      refine go_imul hf_91 rfl rfl (by first | exact muln _ _ | exact rfl) ?_
      refine go_ic_lt hf_91 rfl rfl rfl (fun h200 => ?_) (fun h200 => absurd ((tm1_lt (by omega) (by omega)).mpr (by omega)) h200)
      exact tail _ _ _ _ _ _ _ _ _ _ _ _ _ s0 sv s' M2 ev xv ga hT2 hfr
    | succ m ih =>
      intro cur y14 s' M2 hm xv hk ga hT2 hfr
      obtain ⟨w, hw1⟩ := l_at (l := l) (i := m) (by omega)
      obtain ⟨x, sa, sb, hx, hxe, hxx⟩ := hk m w hw1
      obtain ⟨qq, hw2⟩ := hr m w hw1
      have qq2 : qd M2 (12 * s + m) w := qd_congr qq (hfr _ _ (by omega) (by omega)) (hfr _ _ (by omega) (by omega)) (hfr _ _ (by omega) (by omega)) (hfr _ _ (by omega) (by omega))
      have htk : (rv.take (m + 1)).reverse = x :: (rv.take m).reverse := by
        obtain ⟨g1, g2⟩ := List.getElem?_eq_some_iff.mp hx
        rw [List.take_succ_eq_append_getElem g1, List.reverse_append, g2]
        rfl
      rw [htk, List.replicate_succ] at ga
      have etm : nI (12 * s + (m + 1)) - nI 1 = nI (12 * s + m) := tm1_s (12 * s + m)
      refine go_il13 hf_91 rfl rfl ?_
      refine go_bipush hf_91 rfl rfl cb_12 ?_
      refine go_il1 hf_91 rfl rfl ?_
      refine go_imul hf_91 rfl rfl (by first | exact muln _ _ | exact rfl) ?_
      refine go_ic_lt hf_91 rfl rfl rfl (fun h200 => absurd ((tm1_lt (by omega) (by omega)).mp h200) (by omega)) (fun h200 => ?_)
      rw [etm]
      refine go_al0 hf_91 rfl rfl ?_
      refine go_il13 hf_91 rfl rfl ?_
      refine go_call hf_91 rfl rfl (inv_v ho_91 cl_6_95) (by decide) nl_94 rfl rfl rfl rfl rfl (by first | rfl | exact rcv_of (by assumption)) rfl rfl rfl (by omega) (by omega) (r_makeEntry (by omega) hw2 qq2 hT2) ?_
      rintro v9 M3 ⟨⟨s3, v3, e3, rfl, T3⟩, f3⟩
      refine go_is14 hf_91 rfl rfl ?_
      refine go_al0 hf_91 rfl rfl ?_
      refine go_iconst hf_91 rfl rfl ci_4 ?_
      refine go_il14 hf_91 rfl rfl ?_
      refine go_il12 hf_91 rfl rfl ?_
      refine go_call hf_91 rfl rfl (inv_v ho_91 cl_6_92) (by decide) nl_92 rfl rfl rfl rfl rfl (by first | rfl | exact rcv_of (by assumption)) rfl rfl rfl (by omega) (by omega) (r_make T3) ?_
      rintro v9 M4 ⟨⟨s4, v4, e4, rfl, T4⟩, f4⟩
      refine go_is12 hf_91 rfl rfl ?_
      refine go_ic13 hf_91 rfl rfl (add_m1 _) ?_
      refine go_goto hf_91 rfl rfl ?_
      have x3b : ext s' s3 := ext_rp (e3 [])
      have x4b : ext s3 s4 := ext_mk e4
      have ga3 : ag Z s3 ((1, 4, 0) :: (List.replicate m (1, 4, 0) ++ endP)) (cur :: v3 :: ((rv.take m).reverse ++ [x11, x10, x9, x8, x3, x2])) := by
        rcases ga with ⟨g1, g2⟩ | ⟨g1, g2⟩
        · exact Or.inl ⟨x3b.2 g1, g2⟩
        · have e9 := again_rp (hxe []) hxx hT2.2.2.1 g1
          rw [e3 []] at e9
          cases e9
          exact Or.inr ⟨g1, g2⟩
      have ga4 := ag_1 ga3 e4
      refine ih v4 _ s4 M4 (by omega) (ext_tr xv (ext_tr x3b x4b)) (fun j u hu => ?_) ga4 T4 (fun p j h1 h2 => by rw [f4 p j h1 h2, f3 p j h1 h2]; exact hfr p j h1 h2)
      obtain ⟨x', sa', sb', k1, k2, k3⟩ := hk j u hu
      exact ⟨x', sa', sb', k1, k2, ext_tr k3 (ext_tr x3b x4b)⟩
  have loop1 : ∀ (x2 x3 x4 x5 x6 x7 x8 x9 x10 x11 : Int32) (s0 sv : List T3 × Bool), mkR s0 (nI 0) (nI 9) (-1) = (sv, x7) → ∀ (n i : Nat) (rv : List Int32) (y13 : Option Value) (s' : List T3 × Bool) (M2 : sm_M), i + n = l.length → rv.length = i → ext sv s' → (∀ (j : Nat) (w : Nat), j < i → l[j]? = some w → ∃ x sa sb, rv[j]? = some x ∧ (∀ st, rp mkR (entP w) sa st = (sb, x :: st)) ∧ ext sb s') → ag Z s' ((l.drop i).flatMap entP ++ (((0, 1, 0) :: List.replicate l.length (1, 4, 0)) ++ endP)) (rv.reverse ++ [x11, x10, x9, x8, x3, x2]) → TR g0 ts M2 s' → (∀ p j, ¬ (p = 40 ∧ (j = 1 ∨ j = 7)) → ¬ (41 ≤ p ∧ p ≤ 44) → M2 p j = M p j) → sm_wp tb_T X tb_ok d lw 91 140 [some (.ref 40), some (.int (nI s)), some (.int x2), some (.int x3), some (.int x4), some (.int x5), some (.int x6), some (.int x7), some (.int x8), some (.int x9), some (.int x10), some (.int x11), some (.int (nI (12 * s + i))), y13, none] [] (wSH, M2, J, rc, rs) (fun o h' => ∃ v M1, o = .inl v ∧ h' = (wSH, M1, J, rc, rs) ∧ (∃ s1 v1, v = some (.int v1) ∧ TR g0 ts M1 s1 ∧ ((s1.2 = true ∧ Z.1.2 = true) ∨ (s1.2 = false ∧ Z = (s1, [v1])))) ∧ ∀ p j, ¬ (p = 40 ∧ (j = 1 ∨ j = 7)) → ¬ (41 ≤ p ∧ p ≤ 44) → M1 p j = M p j) := by
    intro x2 x3 x4 x5 x6 x7 x8 x9 x10 x11 s0 sv ev n
    induction n with
    | zero =>
      intro i rv y13 s' M2 hi hrl xv hk ga hT2 hfr
      have hsz2 : M2 50 s = nI l.length := by rw [hfr _ _ (by omega) (by omega)]; exact hsz
      rw [l_end (by omega)] at ga
      refine go_il12 hf_91 rfl rfl ?_
      refine go_bipush hf_91 rfl rfl cb_12 ?_
      refine go_il1 hf_91 rfl rfl ?_
      refine go_imul hf_91 rfl rfl (by first | exact muln _ _ | exact rfl) ?_
      refine go_al0 hf_91 rfl rfl ?_
      refine go_getr hf_91 ho_91 rfl fl_6_38 rfl (by first | assumption | rfl) rfl ?_
      refine go_il1 hf_91 rfl rfl ?_
      refine go_iald hf_91 rfl rfl (by first | assumption | rfl) (by first | rfl | assumption) (by first | exact rfl | assumption) (by omega) (by first | assumption | ((repeat rewrite [up_k]) <;> first | assumption | decide | omega) | exact rfl) ?_
      refine go_iadd hf_91 rfl rfl (by first | exact nI_add _ _ | exact rfl) ?_
      first | refine go_nn_ge hf_91 rfl rfl rfl (by omega) (by omega) (fun h153 => ?_) (fun h153 => absurd h153 (by omega)) | refine go_ic_ge hf_91 rfl rfl rfl (fun h153 => ?_) (fun h153 => absurd h153 (by omega))
      refine go_al0 hf_91 rfl rfl ?_
      refine go_iconst hf_91 rfl rfl ci_1 ?_
      refine go_iconst hf_91 rfl rfl ci_0 ?_
      refine go_iconst hf_91 rfl rfl ci_m1 ?_
      refine go_call hf_91 rfl rfl (inv_v ho_91 cl_6_92) (by decide) nl_92 rfl rfl rfl rfl rfl (by first | rfl | exact rcv_of (by assumption)) rfl rfl rfl (by omega) (by omega) (r_make hT2) ?_
      rintro v9 M3 ⟨⟨s3, v3, e3, rfl, T3⟩, f3⟩
      have ga3 := ag_0 ga e3
      have x3b := ext_mk e3
      refine go_is12 hf_91 rfl rfl ?_
      refine go_bipush hf_91 rfl rfl cb_12 ?_
      refine go_il1 hf_91 rfl rfl ?_
      refine go_imul hf_91 rfl rfl (by first | exact muln _ _ | exact rfl) ?_
      refine go_al0 hf_91 rfl rfl ?_
      refine go_getr hf_91 ho_91 rfl fl_6_38 rfl (by first | assumption | rfl) rfl ?_
      refine go_il1 hf_91 rfl rfl ?_
      refine go_iald hf_91 rfl rfl (by first | assumption | rfl) (by first | rfl | assumption) (by first | exact rfl | assumption) (by omega) ((f3 50 s (by omega) (by omega)).trans hsz2) ?_
      refine go_iadd hf_91 rfl rfl (by first | exact nI_add _ _ | exact rfl) ?_
      refine go_iconst hf_91 rfl rfl ci_1 ?_
      refine go_isub hf_91 rfl rfl rfl ?_
      refine go_is13 hf_91 rfl rfl ?_
      refine loop2 x2 x3 x4 x5 x6 x7 x8 x9 x10 x11 s0 sv rv ev (by omega) l.length v3 _ s3 M3 (Nat.le_refl _) (ext_tr xv x3b) (fun j u hu => ?_) (by rw [List.take_of_length_le (by omega)]; exact ga3) T3 (fun p j h1 h2 => by rw [f3 p j h1 h2]; exact hfr p j h1 h2)
      obtain ⟨x', sa', sb', k1, k2, k3⟩ := hk j u (by have := l_lt hu; omega) hu
      exact ⟨x', sa', sb', k1, k2, ext_tr k3 x3b⟩
    | succ n ih =>
      intro i rv y13 s' M2 hi hrl xv hk ga hT2 hfr
      have hsz2 : M2 50 s = nI l.length := by rw [hfr _ _ (by omega) (by omega)]; exact hsz
      obtain ⟨w, hw1⟩ := l_at (l := l) (i := i) (by omega)
      obtain ⟨qq, hw2⟩ := hr i w hw1
      have qq2 : qd M2 (12 * s + i) w := qd_congr qq (hfr _ _ (by omega) (by omega)) (hfr _ _ (by omega) (by omega)) (hfr _ _ (by omega) (by omega)) (hfr _ _ (by omega) (by omega))
      rw [l_drop hw1, List.flatMap_cons, List.append_assoc] at ga
      refine go_il12 hf_91 rfl rfl ?_
      refine go_bipush hf_91 rfl rfl cb_12 ?_
      refine go_il1 hf_91 rfl rfl ?_
      refine go_imul hf_91 rfl rfl (by first | exact muln _ _ | exact rfl) ?_
      refine go_al0 hf_91 rfl rfl ?_
      refine go_getr hf_91 ho_91 rfl fl_6_38 rfl (by first | assumption | rfl) rfl ?_
      refine go_il1 hf_91 rfl rfl ?_
      refine go_iald hf_91 rfl rfl (by first | assumption | rfl) (by first | rfl | assumption) (by first | exact rfl | assumption) (by omega) (by first | assumption | ((repeat rewrite [up_k]) <;> first | assumption | decide | omega) | exact rfl) ?_
      refine go_iadd hf_91 rfl rfl (by first | exact nI_add _ _ | exact rfl) ?_
      first | refine go_nn_ge hf_91 rfl rfl rfl (by omega) (by omega) (fun h153 => absurd h153 (by omega)) (fun h153 => ?_) | refine go_ic_ge hf_91 rfl rfl rfl (fun h153 => absurd h153 (by omega)) (fun h153 => ?_)
      refine go_al0 hf_91 rfl rfl ?_
      refine go_il12 hf_91 rfl rfl ?_
      refine go_call hf_91 rfl rfl (inv_v ho_91 cl_6_95) (by decide) nl_94 rfl rfl rfl rfl rfl (by first | rfl | exact rcv_of (by assumption)) rfl rfl rfl (by omega) (by omega) (r_makeEntry (by omega) hw2 qq2 hT2) ?_
      rintro v9 M3 ⟨⟨s3, v3, e3, rfl, T3⟩, f3⟩
      refine go_is13 hf_91 rfl rfl ?_
      refine go_ic12 hf_91 rfl rfl (by first | exact inc1 _ | exact rfl) ?_
      refine go_goto hf_91 rfl rfl ?_
      have x3b : ext s' s3 := ext_rp (e3 [])
      have ga3 := ag_e ga e3
      refine ih (i + 1) (rv ++ [v3]) _ s3 M3 (by omega) (by simp [hrl]) (ext_tr xv x3b) (fun j u hj hu => ?_) (by rw [List.reverse_append]; exact ga3) T3 (fun p j h1 h2 => by rw [f3 p j h1 h2]; exact hfr p j h1 h2)
      by_cases hj2 : j = i
      · subst hj2
        rw [hw1] at hu
        cases hu
        refine ⟨v3, s', s3, ?_, e3, ext_rf⟩
        rw [List.getElem?_append_right (by omega), hrl]
        simp
      · obtain ⟨x', sa', sb', k1, k2, k3⟩ := hk j u (by omega) hu
        exact ⟨x', sa', sb', by rw [List.getElem?_append_left (by omega)]; exact k1, k2, ext_tr k3 x3b⟩
  refine go_al0 hf_91 rfl rfl ?_
  refine go_iconst hf_91 rfl rfl ci_1 ?_
  refine go_al0 hf_91 rfl rfl ?_
  refine go_getr hf_91 ho_91 rfl fl_6_26 rfl (by first | assumption | rfl) rfl ?_
  refine go_il1 hf_91 rfl rfl ?_
  refine go_iald hf_91 rfl rfl (by first | assumption | rfl) (by first | rfl | assumption) (by first | exact rfl | assumption) (by omega) (by first | assumption | ((repeat rewrite [up_k]) <;> first | assumption | decide | omega) | exact rfl) ?_
  refine go_iconst hf_91 rfl rfl ci_m1 ?_
  refine go_call hf_91 rfl rfl (inv_v ho_91 cl_6_92) (by decide) nl_92 rfl rfl rfl rfl rfl (by first | rfl | exact rcv_of (by assumption)) rfl rfl rfl (by omega) (by omega) (r_make hT) ?_
  rintro v9 M1 ⟨⟨s1, u1, e1, rfl, T1⟩, f1⟩
  have b1 := ag_0 a0 e1
  have how1 : M1 47 s = nI ow := by rw [f1 _ _ (by omega) (by omega)]; exact how
  refine go_is2 hf_91 rfl rfl ?_
  refine go_al0 hf_91 rfl rfl ?_
  refine go_iconst hf_91 rfl rfl ci_1 ?_
  refine go_al0 hf_91 rfl rfl ?_
  refine go_getr hf_91 ho_91 rfl fl_6_29 rfl (by first | assumption | rfl) rfl ?_
  refine go_il1 hf_91 rfl rfl ?_
  refine go_iald hf_91 rfl rfl (by first | assumption | rfl) (by first | rfl | assumption) (by first | exact rfl | assumption) (by omega) (by first | assumption | ((repeat rewrite [up_k]) <;> first | assumption | decide | omega) | exact rfl) ?_
  refine go_iconst hf_91 rfl rfl ci_m1 ?_
  refine go_call hf_91 rfl rfl (inv_v ho_91 cl_6_92) (by decide) nl_92 rfl rfl rfl rfl rfl (by first | rfl | exact rcv_of (by assumption)) rfl rfl rfl (by omega) (by omega) (r_make T1) ?_
  rintro v9 M2 ⟨⟨s2, u2, e2, rfl, T2⟩, f2⟩
  have b2 := ag_0 b1 e2
  have hpw2 : M2 48 s = nI pw := by rw [f2 _ _ (by omega) (by omega), f1 _ _ (by omega) (by omega)]; exact hpw
  refine go_is3 hf_91 rfl rfl ?_
  refine go_al0 hf_91 rfl rfl ?_
  refine go_iconst hf_91 rfl rfl ci_0 ?_
  refine go_al0 hf_91 rfl rfl ?_
  refine go_getr hf_91 ho_91 rfl fl_6_32 rfl (by first | assumption | rfl) rfl ?_
  refine go_il1 hf_91 rfl rfl ?_
  refine go_iald hf_91 rfl rfl (by first | assumption | rfl) (by first | rfl | assumption) (by first | exact rfl | assumption) (by omega) (by first | assumption | ((repeat rewrite [up_k]) <;> first | assumption | decide | omega) | exact rfl) ?_
  refine go_iconst hf_91 rfl rfl ci_m1 ?_
  refine go_call hf_91 rfl rfl (inv_v ho_91 cl_6_92) (by decide) nl_92 rfl rfl rfl rfl rfl (by first | rfl | exact rcv_of (by assumption)) rfl rfl rfl (by omega) (by omega) (r_make T2) ?_
  rintro v9 M3 ⟨⟨s3, u3, e3, rfl, T3⟩, f3⟩
  have b3 := ag_0 b2 e3
  refine go_is4 hf_91 rfl rfl ?_
  refine go_al0 hf_91 rfl rfl ?_
  refine go_iconst hf_91 rfl rfl ci_0 ?_
  refine go_bipush hf_91 rfl rfl cb_8 ?_
  refine go_iconst hf_91 rfl rfl ci_m1 ?_
  refine go_call hf_91 rfl rfl (inv_v ho_91 cl_6_92) (by decide) nl_92 rfl rfl rfl rfl rfl (by first | rfl | exact rcv_of (by assumption)) rfl rfl rfl (by omega) (by omega) (r_make T3) ?_
  rintro v9 M4 ⟨⟨s4, u4, e4, rfl, T4⟩, f4⟩
  have b4 := ag_0 b3 e4
  refine go_is5 hf_91 rfl rfl ?_
  refine go_al0 hf_91 rfl rfl ?_
  refine go_iconst hf_91 rfl rfl ci_2 ?_
  refine go_il4 hf_91 rfl rfl ?_
  refine go_il5 hf_91 rfl rfl ?_
  refine go_call hf_91 rfl rfl (inv_v ho_91 cl_6_92) (by decide) nl_92 rfl rfl rfl rfl rfl (by first | rfl | exact rcv_of (by assumption)) rfl rfl rfl (by omega) (by omega) (r_make T4) ?_
  rintro v9 M5 ⟨⟨s5, u5, e5, rfl, T5⟩, f5⟩
  have b5 := ag_1 b4 e5
  refine go_is6 hf_91 rfl rfl ?_
  refine go_al0 hf_91 rfl rfl ?_
  refine go_iconst hf_91 rfl rfl ci_0 ?_
  refine go_bipush hf_91 rfl rfl cb_9 ?_
  refine go_iconst hf_91 rfl rfl ci_m1 ?_
  refine go_call hf_91 rfl rfl (inv_v ho_91 cl_6_92) (by decide) nl_92 rfl rfl rfl rfl rfl (by first | rfl | exact rcv_of (by assumption)) rfl rfl rfl (by omega) (by omega) (r_make T5) ?_
  rintro v9 M6 ⟨⟨s6, u6, e6, rfl, T6⟩, f6⟩
  have b6 := ag_0 b5 e6
  refine go_is7 hf_91 rfl rfl ?_
  refine go_al0 hf_91 rfl rfl ?_
  refine go_iconst hf_91 rfl rfl ci_3 ?_
  refine go_il6 hf_91 rfl rfl ?_
  refine go_il7 hf_91 rfl rfl ?_
  refine go_call hf_91 rfl rfl (inv_v ho_91 cl_6_92) (by decide) nl_92 rfl rfl rfl rfl rfl (by first | rfl | exact rcv_of (by assumption)) rfl rfl rfl (by omega) (by omega) (r_make T6) ?_
  rintro v9 M7 ⟨⟨s7, u7, e7, rfl, T7⟩, f7⟩
  have b7 := ag_1 b6 e7
  have g7 : ∀ p j, ¬ (p = 40 ∧ (j = 1 ∨ j = 7)) → ¬ (41 ≤ p ∧ p ≤ 44) → M7 p j = M p j := fun p j h1 h2 => by rw [f7 p j h1 h2, f6 p j h1 h2, f5 p j h1 h2, f4 p j h1 h2, f3 p j h1 h2, f2 p j h1 h2, f1 p j h1 h2]
  have hv7 : M7 49 (3 * s) = nI (vv 0) := by rw [g7 _ _ (by omega) (by omega)]; exact hv0
  refine go_is8 hf_91 rfl rfl ?_
  refine go_al0 hf_91 rfl rfl ?_
  refine go_iconst hf_91 rfl rfl ci_1 ?_
  refine go_al0 hf_91 rfl rfl ?_
  refine go_getr hf_91 ho_91 rfl fl_6_35 rfl (by first | assumption | rfl) rfl ?_
  refine go_iconst hf_91 rfl rfl ci_3 ?_
  refine go_il1 hf_91 rfl rfl ?_
  refine go_imul hf_91 rfl rfl (by first | exact muln _ _ | exact rfl) ?_
  refine go_iald hf_91 rfl rfl (by first | assumption | rfl) (by first | rfl | assumption) (by first | exact rfl | assumption) (by omega) (by first | assumption | ((repeat rewrite [up_k]) <;> first | assumption | decide | omega) | exact rfl) ?_
  refine go_iconst hf_91 rfl rfl ci_m1 ?_
  refine go_call hf_91 rfl rfl (inv_v ho_91 cl_6_92) (by decide) nl_92 rfl rfl rfl rfl rfl (by first | rfl | exact rcv_of (by assumption)) rfl rfl rfl (by omega) (by omega) (r_make T7) ?_
  rintro v9 M8 ⟨⟨s8, u8, e8, rfl, T8⟩, f8⟩
  have b8 := ag_0 b7 e8
  have hv8 : M8 49 (3 * s + 1) = nI (vv 1) := by rw [f8 _ _ (by omega) (by omega), g7 _ _ (by omega) (by omega)]; exact hv1
  refine go_is9 hf_91 rfl rfl ?_
  refine go_al0 hf_91 rfl rfl ?_
  refine go_iconst hf_91 rfl rfl ci_1 ?_
  refine go_al0 hf_91 rfl rfl ?_
  refine go_getr hf_91 ho_91 rfl fl_6_35 rfl (by first | assumption | rfl) rfl ?_
  refine go_iconst hf_91 rfl rfl ci_3 ?_
  refine go_il1 hf_91 rfl rfl ?_
  refine go_imul hf_91 rfl rfl (by first | exact muln _ _ | exact rfl) ?_
  refine go_iconst hf_91 rfl rfl ci_1 ?_
  refine go_iadd hf_91 rfl rfl (by first | exact nI_add _ _ | exact rfl) ?_
  refine go_iald hf_91 rfl rfl (by first | assumption | rfl) (by first | rfl | assumption) (by first | exact rfl | assumption) (by omega) (by first | assumption | ((repeat rewrite [up_k]) <;> first | assumption | decide | omega) | exact rfl) ?_
  refine go_iconst hf_91 rfl rfl ci_m1 ?_
  refine go_call hf_91 rfl rfl (inv_v ho_91 cl_6_92) (by decide) nl_92 rfl rfl rfl rfl rfl (by first | rfl | exact rcv_of (by assumption)) rfl rfl rfl (by omega) (by omega) (r_make T8) ?_
  rintro v9b M9 ⟨⟨s9, u9, e9, rfl, T9⟩, f9⟩
  have b9 := ag_0 b8 e9
  have hv9 : M9 49 (3 * s + 2) = nI (vv 2) := by rw [f9 _ _ (by omega) (by omega), f8 _ _ (by omega) (by omega), g7 _ _ (by omega) (by omega)]; exact hv2
  refine go_is10 hf_91 rfl rfl ?_
  refine go_al0 hf_91 rfl rfl ?_
  refine go_iconst hf_91 rfl rfl ci_1 ?_
  refine go_al0 hf_91 rfl rfl ?_
  refine go_getr hf_91 ho_91 rfl fl_6_35 rfl (by first | assumption | rfl) rfl ?_
  refine go_iconst hf_91 rfl rfl ci_3 ?_
  refine go_il1 hf_91 rfl rfl ?_
  refine go_imul hf_91 rfl rfl (by first | exact muln _ _ | exact rfl) ?_
  refine go_iconst hf_91 rfl rfl ci_2 ?_
  refine go_iadd hf_91 rfl rfl (by first | exact nI_add _ _ | exact rfl) ?_
  refine go_iald hf_91 rfl rfl (by first | assumption | rfl) (by first | rfl | assumption) (by first | exact rfl | assumption) (by omega) (by first | assumption | ((repeat rewrite [up_k]) <;> first | assumption | decide | omega) | exact rfl) ?_
  refine go_iconst hf_91 rfl rfl ci_m1 ?_
  refine go_call hf_91 rfl rfl (inv_v ho_91 cl_6_92) (by decide) nl_92 rfl rfl rfl rfl rfl (by first | rfl | exact rcv_of (by assumption)) rfl rfl rfl (by omega) (by omega) (r_make T9) ?_
  rintro v9 M10 ⟨⟨s10, u10, e10, rfl, T10⟩, f10⟩
  have b10 := ag_0 b9 e10
  refine go_is11 hf_91 rfl rfl ?_
  refine go_bipush hf_91 rfl rfl cb_12 ?_
  refine go_il1 hf_91 rfl rfl ?_
  refine go_imul hf_91 rfl rfl (by first | exact muln _ _ | exact rfl) ?_
  refine go_is12 hf_91 rfl rfl ?_
  refine loop1 _ _ _ _ _ _ _ _ _ _ s5 s6 e6 l.length 0 [] _ s10 M10 (by omega) rfl (ext_tr (ext_mk e7) (ext_tr (ext_mk e8) (ext_tr (ext_mk e9) (ext_mk e10)))) (fun j u hj => absurd hj (Nat.not_lt_zero j)) ?_ T10 (fun p j h1 h2 => by rw [f10 p j h1 h2, f9 p j h1 h2, f8 p j h1 h2]; exact g7 p j h1 h2)
  unfold listP at b10
  rw [List.append_assoc] at b10
  exact b10
theorem sealP_ok {g ow pw : Nat} {vv : Nat → Nat} {l : List Nat} (hg : g < 1000) (how : ow < 1000) (hpw : pw < 1000) (hvv : ∀ j, j < 3 → vv j < 1000) (hl : ∀ w ∈ l, w < 32768) : ∀ t ∈ sealP g ow pw vv l, tokOK t := by
  have h0 := hvv 0 (by omega)
  have h1 := hvv 1 (by omega)
  have h2 := hvv 2 (by omega)
  have k0 : ∀ k n, k ≤ 1 → n < 1000 → tokOK (0, k, n) := fun k n a b => ⟨fun _ => ⟨a, b⟩, fun h => (by rcases h with h | h <;> cases h)⟩
  have k1 : ∀ k n, 2 ≤ k → k ≤ 5 → tokOK (1, k, n) := fun k n a b => ⟨fun h => (by cases h), fun _ => ⟨a, b⟩⟩
  have k2 : ∀ k n, 2 ≤ k → k ≤ 5 → tokOK (2, k, n) := fun k n a b => ⟨fun h => (by cases h), fun _ => ⟨a, b⟩⟩
  have k3 : ∀ k n, tokOK (3, k, n) := fun k n => ⟨fun h => (by cases h), fun h => (by rcases h with h | h <;> cases h)⟩
  intro t ht
  unfold sealP at ht
  rw [List.mem_append, List.mem_append, List.mem_append] at ht
  rcases ht with ht | ht | ht | ht
  · unfold hdrP at ht
    simp at ht
    rcases ht with rfl | rfl | rfl | rfl | rfl | rfl | rfl
    · exact k0 _ _ (by omega) (by omega)
    · exact k0 _ _ (by omega) (by omega)
    · exact k0 _ _ (by omega) (by omega)
    · exact k0 _ _ (by omega) (by omega)
    · exact k1 _ _ (by omega) (by omega)
    · exact k0 _ _ (by omega) (by omega)
    · exact k1 _ _ (by omega) (by omega)
  · unfold vecP at ht
    obtain ⟨j, hj, rfl⟩ := List.mem_map.mp ht
    exact k0 _ _ (by omega) (hvv j (List.mem_range.mp hj))
  · unfold listP at ht
    rw [List.mem_append, List.mem_cons] at ht
    rcases ht with ht | rfl | ht
    · obtain ⟨w, hw, ht⟩ := List.mem_flatMap.mp ht
      have := hl w hw
      unfold entP at ht
      simp at ht
      rcases ht with rfl | rfl | rfl | rfl | rfl | rfl | rfl
      · exact k0 _ _ (by omega) (by omega)
      · exact k0 _ _ (by omega) (by omega)
      · exact k0 _ _ (by omega) (by omega)
      · exact k0 _ _ (by omega) (by omega)
      · exact k0 _ _ (by omega) (by omega)
      · exact k1 _ _ (by omega) (by omega)
      · exact k1 _ _ (by omega) (by omega)
    · exact k0 _ _ (by omega) (by omega)
    · rw [List.eq_of_mem_replicate ht]
      exact k1 _ _ (by omega) (by omega)
  · unfold endP at ht
    rw [List.mem_append] at ht
    rcases ht with ht | ht
    · rw [List.eq_of_mem_replicate ht]
      exact k1 _ _ (by omega) (by omega)
    · simp at ht
      rcases ht with rfl | rfl | rfl | rfl
      · exact k3 _ _
      · exact k0 _ _ (by omega) (by omega)
      · exact k2 _ _ (by omega) (by omega)
      · exact k1 _ _ (by omega) (by omega)
/-- class and reference write the same -/
theorem seal_cmp {ts ts1 : List T3} {s1 : List T3 × Bool} {v1 v2 : Int32} {p : List Tok} (hp : ∀ t ∈ p, tokOK t) (hu : uq ts) (hw : wt ts) (h9 : ts.length ≤ 900) (h91 : ts1.length ≤ 900) (hC : rp mkC p ts [] = (ts1, [v1])) (hR : (s1.2 = true ∧ (rp mkR p (ts, false) []).1.2 = true) ∨ (s1.2 = false ∧ rp mkR p (ts, false) [] = (s1, [v2]))) : (s1.2 = true ∧ v1 = -2) ∨ (s1.2 = false ∧ s1.1 = ts1 ∧ v2 = v1 ∧ wt ts1 ∧ ∃ b, b < ts1.length ∧ v1 = nI b ∧ (ts1 = ts ∨ ts.length ≤ b)) := by
  rcases rp_cmp ts p ts [] hp hu hw h9 (fun a h => by cases h) ⟨[], by simp⟩ (Or.inl rfl) with ⟨h1, h2, h3, h4, h5, h6, h7⟩ | ⟨h1, h2⟩
  · rcases hR with ⟨-, g⟩ | ⟨g1, g2⟩
    · rw [h1] at g
      cases g
    · rw [hC] at h2 h3 h4 h5 h6
      rw [g2] at h2 h3
      have h3 : [v1] = [v2] := h3
      cases h3
      obtain ⟨b, hb, e⟩ := h5 v1 List.mem_cons_self
      have hb : b < ts1.length := hb
      refine Or.inr ⟨g1, h2.symm, rfl, h4, b, hb, e, ?_⟩
      rcases h6 with h6 | ⟨c, c1, c2, c3⟩
      · exact Or.inl h6
      · right
        have c3 : nI c ∈ [v1] := c3
        rw [List.mem_singleton, e] at c3
        have c2 : c < ts1.length := c2
        have := (nI_eq (by omega) (by omega)).mp c3
        omega
  · rcases hR with ⟨g, -⟩ | ⟨g1, g2⟩
    · rw [hC] at h2
      exact Or.inl ⟨g, (List.mem_singleton.mp h2).symm⟩
    · rw [g2] at h1
      have h1 : s1.2 = true := h1
      rw [g1] at h1
      cases h1
theorem r_seal {g0 : Nat → Int32} {ts : List T3} {M : sm_M} {s g ow pw : Nat} {vv : Nat → Nat} {l : List Nat} (hs : s < 3) (hl : re M s l) (hl12 : l.length ≤ 12) (hg : M 46 s = nI g) (how : M 47 s = nI ow) (hpw : M 48 s = nI pw) (hvv : ∀ j, j < 3 → M 49 (3 * s + j) = nI (vv j)) (hT : TR g0 ts M (ts, false)) : cr 90 4 110 [.ref 40, .int (nI s)] M (fun v M1 => (∃ s1 v1, ((s1.2 = true ∧ (rp mkR (sealP g ow pw vv l) (ts, false) []).1.2 = true) ∨ (s1.2 = false ∧ (rp mkR (sealP g ow pw vv l) (ts, false) []) = (s1, [v1]))) ∧ ((s1.2 = false ∧ v = some (.int v1) ∧ TR g0 ts M1 s1) ∨ (s1.2 = true ∧ v = some (.int (-2)) ∧ TR g0 ts M1 (ts, false)))) ∧ ∀ p j, ¬ (p = 40 ∧ (j = 1 ∨ j = 7)) → ¬ (41 ≤ p ∧ p ≤ 44) → M1 p j = M p j) := by
  intro X J rc rs d lw hd hw
  show sm_wp tb_T X tb_ok d lw 90 0 [some (.ref 40), some (.int (nI s)), none, none] [] _ _
  have hN : M 40 1 = nI ts.length := hT.2.1.1
  refine go_al0 hf_90 rfl rfl ?_
  refine go_get hf_90 ho_90 rfl fl_6_81 rfl (by first | assumption | rfl) rfl (by first | assumption | ((repeat rewrite [up_k]) <;> first | assumption | decide | omega) | exact rfl) ?_
  refine go_is2 hf_90 rfl rfl ?_
  refine go_al0 hf_90 rfl rfl ?_
  refine go_il1 hf_90 rfl rfl ?_
  refine go_call hf_90 rfl rfl (inv_v ho_90 cl_6_173) (by decide) nl_91 rfl rfl rfl rfl rfl (by first | rfl | exact rcv_of (by assumption)) rfl rfl rfl (by omega) (by omega) (r_makeSeal hs hl hl12 hg how hpw hvv hT) ?_
  rintro v9 M2 ⟨⟨s2, v2, rfl, T2, a2⟩, f2⟩
  refine go_is3 hf_90 rfl rfl ?_
  refine go_al0 hf_90 rfl rfl ?_
  refine go_il2 hf_90 rfl rfl ?_
  refine go_il3 hf_90 rfl rfl ?_
  refine go_call hf_90 rfl rfl (inv_v ho_90 cl_6_176) (by decide) nl_95 rfl rfl rfl rfl rfl (by first | rfl | exact rcv_of (by assumption)) rfl rfl rfl (by omega) (by omega) (r_settle) ?_
  rintro v9 M3 ⟨u9, rfl, hst⟩
  refine go_ret1 hf_90 rfl nl_90 ?_
  rcases hst with ⟨g1, e1, e2⟩ | ⟨g1, e1, e2⟩
  · refine ⟨_, _, rfl, rfl, ⟨s2, v2, a2, Or.inl ⟨?_, by rw [e1], by rw [e2]; exact T2⟩⟩, fun p j h1 h2 => by rw [e2]; exact f2 p j h1 h2⟩
    rw [T2.2.2.2.1, bI_0] at g1
    exact Bool.eq_false_iff.mpr g1
  · refine ⟨_, _, rfl, rfl, ⟨s2, v2, a2, Or.inr ⟨?_, by rw [e1], ?_⟩⟩, fun p j h1 h2 => by rw [e2, up_o (by omega), up_o (by omega)]; exact f2 p j h1 h2⟩
    · rw [T2.2.2.2.1, bI_n0] at g1
      exact g1
    · rw [e2]
      obtain ⟨⟨r, hr⟩, t1, t2, t3, t4, t5⟩ := T2
      refine ⟨⟨[], by simp⟩, ⟨?_, hT.2.1.2.1, fun i x hx => ?_⟩, hT.2.2.1, ?_, fun j hj => ?_, fun j hj hj2 => absurd hj2 (Nat.not_lt.mpr hj)⟩
      · rw [up_i (by omega), up_s]
      · have g := t1.2.2 i x (by rw [hr]; exact t_app hx)
        rw [up_k (by omega), up_k (by omega), up_k (by omega), up_k (by omega), up_k (by omega), up_k (by omega)]
        exact g
      · rw [up_s, bI_f (by simp)]
      · rw [up_k (by omega), up_k (by omega)]
        exact t4 j hj
