/-! ===== the class's calls that make or show terms ===== -/
def OA (M : sm_M) (N : Nat) (gs : Nat → Prop) : Prop := (∀ j, j < N → M 5 j = 0 ∨ M 5 j = 1) ∧ (∀ j, j < N → gs j ∨ M 2 j = nI 1 → M 5 j = 1) ∧ ∀ j, j < N → M 5 j = 1 → Dv (M 2) (M 3) (M 4) N (fun i => gs i ∨ M 2 i = nI 1) j
def OX (M : sm_M) (N : Nat) (gs : Nat → Prop) : Prop := ∀ j, j < N → M 5 j = bI (Dv (M 2) (M 3) (M 4) N (fun i => gs i ∨ M 2 i = nI 1) j)
theorem OX_OA {M : sm_M} {N : Nat} {gs : Nat → Prop} (h : OX M N gs) : OA M N gs := ⟨fun j hj => by rw [h j hj]; exact bI_01, fun j hj hg => by rw [h j hj]; exact bI_t (Dv_g hj hg), fun j hj hg => by rw [h j hj] at hg; exact bI_1.mp hg⟩
theorem OX_gs {M : sm_M} {N : Nat} {gs gs' : Nat → Prop} (h : OX M N gs) (hg : ∀ j, j < N → (gs j ↔ gs' j)) : OX M N gs' := fun j hj => by
  rw [h j hj]
  exact bI_congr (Dv_congr (fun i hi => by rw [hg i hi]))
theorem OX_keep {M M1 : sm_M} {N : Nat} {gs : Nat → Prop} (h : OX M N gs) (hk : ∀ p, 1 ≤ p → p ≤ 7 → M1 p = M p) : OX M1 N gs := by
  unfold OX
  rw [hk 5 (by omega) (by omega), hk 2 (by omega) (by omega), hk 3 (by omega) (by omega), hk 4 (by omega) (by omega)]
  exact h
def TW (M : sm_M) (ts : List T3) : Prop := TC (M 5) ts M ts ∧ wt ts
theorem tq_T {g0 : Nat → Int32} {ts0 ts : List T3} {M : sm_M} (h : TC g0 ts0 M ts) : tq M (M 2) (M 3) (M 4) ts.length := ⟨h.2.1.1, h.2.1.2.1, rfl, rfl, rfl⟩
theorem WT_tm {n : Int32} {K A B : Nat → Int32} {ts : List T3} (h : tm n K A B ts) (hw : wt ts) : WT K A B ts.length := fun i hi => by
  obtain ⟨z, hz⟩ := t_at hi
  obtain ⟨e1, e2, e3⟩ := h.2.2 i z hz
  rw [e1, e2, e3]
  rcases hw i z hz with g | ⟨kk, a, b, g1, g2, g3, g4, g5, g6, g7⟩
  · exact Or.inl g
  · exact Or.inr ⟨kk, a, b, g1, g2, g3, g4, g5, g6, g7⟩
theorem TC_self {g0 : Nat → Int32} {ts0 ts : List T3} {M : sm_M} (h : TC g0 ts0 M ts) : TC (M 5) ts M ts := ⟨⟨[], by simp⟩, h.2.1, h.2.2.1, h.2.2.2.1, fun _ _ => rfl, fun j x hj hx => absurd (t_lt hx) (by omega)⟩
theorem TC_open {ts : List T3} {M M1 : sm_M} (h : TC (M 5) ts M ts) (hk : ∀ p, p ≠ 5 → M1 p = M p) : TC (M1 5) ts M1 ts := by
  obtain ⟨-, h1, h2, h3, -, -⟩ := h
  refine ⟨⟨[], by simp⟩, ?_, ?_, h3, fun _ _ => rfl, fun j x hj hx => absurd (t_lt hx) (by omega)⟩
  · rw [hk 1 (by omega), hk 2 (by omega), hk 3 (by omega), hk 4 (by omega)]; exact h1
  · unfold ch
    rw [hk 6 (by omega), hk 7 (by omega)]
    exact h2
theorem tm_agree {n n' : Int32} {a b c a' b' c' : Nat → Int32} {ts r : List T3} (h : tm n a b c ts) (h' : tm n' a' b' c' (ts ++ r)) : ∀ i, i < ts.length → a i = a' i ∧ b i = b' i ∧ c i = c' i := fun i hi => by
  obtain ⟨z, hz⟩ := t_at hi
  obtain ⟨e1, e2, e3⟩ := h.2.2 i z hz
  obtain ⟨f1, f2, f3⟩ := h'.2.2 i z (t_app hz)
  rw [e1, e2, e3, f1, f2, f3]
  exact ⟨rfl, rfl, rfl⟩
theorem OA_mk {M M1 : sm_M} {ts ts1 : List T3} {gs : Nat → Prop} (hT : TC (M 5) ts M ts) (hX : OX M ts.length gs) (h1 : TC (M 5) ts M1 ts1) : OA M1 ts1.length (fun j => j < ts.length ∧ gs j) ∧ (ts1 = ts → OX M1 ts.length gs) := by
  obtain ⟨⟨r, rfl⟩, t1, -, u1, o1, o2⟩ := h1
  have ag := tm_agree hT.2.1 t1
  have hle : ts.length ≤ (ts ++ r).length := by simp
  refine ⟨⟨fun j hj => ?_, fun j hj hg => ?_, fun j hj hg => ?_⟩, fun e => ?_⟩
  · by_cases hl : j < ts.length
    · rw [o1 j hl, hX j hl]; exact bI_01
    · obtain ⟨z, hz⟩ := t_at hj
      rw [o2 j z (by omega) hz]; exact bI_01
  · by_cases hl : j < ts.length
    · rw [o1 j hl, hX j hl]
      refine bI_t (Dv_g hl ?_)
      rw [(ag j hl).1]
      rcases hg with hg | hg
      · exact Or.inl hg.2
      · exact Or.inr hg
    · obtain ⟨z, hz⟩ := t_at hj
      rw [o2 j z (by omega) hz]
      refine bI_t ?_
      rcases hg with hg | hg
      · exact absurd hg.1 hl
      · rw [(t1.2.2 j z hz).1] at hg; exact hg
  · by_cases hl : j < ts.length
    · rw [o1 j hl, hX j hl] at hg
      refine Dv_up hle (fun i hi => (ag i hi).1) (fun i hi => (ag i hi).2.1) (fun i hi => (ag i hi).2.2) (fun i hi g => ?_) (bI_1.mp hg)
      rw [← (ag i hi).1]
      rcases g with g | g
      · exact Or.inl ⟨hi, g⟩
      · exact Or.inr g
    · obtain ⟨z, hz⟩ := t_at hj
      rw [o2 j z (by omega) hz] at hg
      refine Dv_g hj (Or.inr ?_)
      rw [(t1.2.2 j z hz).1]
      exact bI_1.mp hg
  · intro j hj
    rw [o1 j hj, hX j hj]
    exact bI_congr (Dv_eq (fun i hi => (ag i hi).1) (fun i hi => (ag i hi).2.1) (fun i hi => (ag i hi).2.2) (fun i hi => by rw [(ag i hi).1]))
def RVp (M : sm_M) (N : Nat) (t : Int32) (M1 : sm_M) : Prop := (∃ k, k < N ∧ t = nI k ∧ ¬ M 5 k = 1 ∧ (∀ i, i < N → M1 5 i = bI (Dv (M 2) (M 3) (M 4) N (fun j => M 5 j = 1 ∨ j = k) i)) ∧ ∀ p, p ≠ 5 → M1 p = M p) ∨ ((∀ k, k < N → t = nI k → M 5 k = 1) ∧ M1 = M)
theorem c_rev {M : sm_M} {ts : List T3} {t : Int32} {gs : Nat → Prop} (hT : TC (M 5) ts M ts) (hw : wt ts) (hA : OA M ts.length gs) : cr 35 2 48 [.ref 1, .int t] M (fun v M1 => v = none ∧ RVp M ts.length t M1) := c_reveal (tq_T hT) (WT_tm hT.2.1 hw) hA.1
theorem RV_fr {M M1 : sm_M} {N : Nat} {t : Int32} (h : RVp M N t M1) : ∀ p, p ≠ 5 → M1 p = M p := by
  rcases h with ⟨k, -, -, -, -, h⟩ | ⟨-, h⟩
  · exact h
  · rw [h]; exact fun _ _ => rfl
theorem RV_OA {M M1 : sm_M} {N : Nat} {t : Int32} {gs : Nat → Prop} (hN : N ≤ 900) (h : RVp M N t M1) (hA : OA M N gs) : (OX M1 N (fun j => gs j ∨ t = nI j)) ∨ (M1 = M ∧ (∀ k, k < N → t = nI k → M 5 k = 1) ∧ OA M N (fun j => gs j ∨ t = nI j) ∧ (OX M N gs → OX M N (fun j => gs j ∨ t = nI j))) := by
  rcases h with ⟨k, hk, rfl, hn, h1, h2⟩ | ⟨h1, rfl⟩
  · left
    intro j hj
    rw [h1 j hj, h2 2 (by omega), h2 3 (by omega), h2 4 (by omega)]
    apply bI_congr
    constructor
    · refine Dv_mono (fun i hi g => ?_)
      rcases g with g | rfl
      · exact Dv_mono (fun i' hi' g' => Dv_g hi' (by rcases g' with g' | g'; exact Or.inl (Or.inl g'); exact Or.inr g')) (hA.2.2 i hi g)
      · exact Dv_g hi (Or.inl (Or.inr rfl))
    · refine Dv_mono (fun i hi g => Dv_g hi ?_)
      rcases g with (g | g) | g
      · exact Or.inl (hA.2.1 i hi (Or.inl g))
      · exact Or.inr ((nI_eq (by omega) (by omega)).mp g).symm
      · exact Or.inl (hA.2.1 i hi (Or.inr g))
  · right
    have up : ∀ i, i < N → (gs i ∨ M1 2 i = nI 1) → ((gs i ∨ t = nI i) ∨ M1 2 i = nI 1) := fun i _ g => by
      rcases g with g | g
      · exact Or.inl (Or.inl g)
      · exact Or.inr g
    refine ⟨rfl, h1, ⟨hA.1, fun j hj g => ?_, fun j hj g => Dv_mono (fun i hi g' => Dv_g hi (up i hi g')) (hA.2.2 j hj g)⟩, fun hX j hj => ?_⟩
    · rcases g with (g | g) | g
      · exact hA.2.1 j hj (Or.inl g)
      · exact h1 j hj g
      · exact hA.2.1 j hj (Or.inr g)
    · rw [hX j hj]
      apply bI_congr
      constructor
      · exact Dv_mono (fun i hi g' => Dv_g hi (up i hi g'))
      · refine Dv_mono (fun i hi g => ?_)
        rcases g with (g | g) | g
        · exact Dv_g hi (Or.inl g)
        · exact hA.2.2 i hi (h1 i hi g)
        · exact Dv_g hi (Or.inr g)
theorem RV_OX {M M1 : sm_M} {N : Nat} {t : Int32} {gs : Nat → Prop} (hN : N ≤ 900) (h : RVp M N t M1) (hX : OX M N gs) : OX M1 N (fun j => gs j ∨ t = nI j) := by
  rcases RV_OA hN h (OX_OA hX) with g | ⟨rfl, -, -, g⟩
  · exact g
  · exact g hX
/-- made, then shown: what is known is as it should be -/
theorem mk_rev {M M1 M2 : sm_M} {ts ts1 : List T3} {gs : Nat → Prop} {b : Nat} (hT : TC (M 5) ts M ts) (hX : OX M ts.length gs) (h1 : TC (M 5) ts M1 ts1) (hR : RVp M1 ts1.length (nI b) M2) (hb : b < ts1.length) (hc : ts1 = ts ∨ (ts.length ≤ b ∧ ∃ x, ts1[b]? = some x ∧ ¬ x.1 = nI 1)) : OX M2 ts1.length (fun j => (j < ts.length ∧ gs j) ∨ nI b = nI j) := by
  obtain ⟨hA, hE⟩ := OA_mk hT hX h1
  rcases RV_OA h1.2.1.2.1 hR hA with g | ⟨rfl, g1, g2, g3⟩
  · exact g
  · rcases hc with rfl | ⟨hl, x, hx, hn⟩
    · exact g3 (OX_gs (hE rfl) (fun j hj => ⟨fun q => ⟨hj, q⟩, fun q => q.2⟩))
    · have := g1 b hb rfl
      rw [h1.2.2.2.2.2 b x hl hx, bI_1] at this
      exact absurd this hn
theorem mk_rev2 {M M1 M2 M3 : sm_M} {ts ts1 : List T3} {gs : Nat → Prop} {b : Nat} {s : Int32} (hT : TC (M 5) ts M ts) (hX : OX M ts.length gs) (h1 : TC (M 5) ts M1 ts1) (hS : RVp M1 ts1.length s M2) (hR : RVp M2 ts1.length (nI b) M3) (hb : b < ts1.length) (hc : ts1 = ts ∨ (ts.length ≤ b ∧ ∃ x, ts1[b]? = some x ∧ ¬ x.1 = nI 1)) : OX M3 ts1.length (fun j => ((j < ts.length ∧ gs j) ∨ s = nI j) ∨ nI b = nI j) := by
  obtain ⟨hA, hE⟩ := OA_mk hT hX h1
  have hN := h1.2.1.2.1
  rcases RV_OA hN hS hA with g | ⟨rfl, g1, g2, g3⟩
  · exact RV_OX hN hR g
  · rcases hc with rfl | ⟨hl, x, hx, hn⟩
    · exact RV_OX hN hR (g3 (OX_gs (hE rfl) (fun j hj => ⟨fun q => ⟨hj, q⟩, fun q => q.2⟩)))
    · rcases RV_OA hN hR g2 with g | ⟨rfl, k1, -, -⟩
      · exact g
      · have := k1 b hb rfl
        rw [h1.2.2.2.2.2 b x hl hx, bI_1] at this
        exact absurd this hn
theorem seal_C {ts ts1 : List T3} {v1 : Int32} {p : List Tok} (hp : ∀ t ∈ p, tokOK t) (hu : uq ts) (hw : wt ts) (h9 : ts.length ≤ 900) (h91 : ts1.length ≤ 900) (hC : rp mkC p ts [] = (ts1, [v1])) : v1 = -2 ∨ (wt ts1 ∧ ∃ b, b < ts1.length ∧ v1 = nI b ∧ (ts1 = ts ∨ ts.length ≤ b)) := by
  rcases rp_cmp ts p ts [] hp hu hw h9 (fun a h => by cases h) ⟨[], by simp⟩ (Or.inl rfl) with ⟨h1, h2, h3, h4, h5, h6, h7⟩ | ⟨h1, h2⟩
  · rw [hC] at h4 h5 h6
    obtain ⟨b, hb, e⟩ := h5 v1 List.mem_cons_self
    have hb : b < ts1.length := hb
    refine Or.inr ⟨h4, b, hb, e, ?_⟩
    rcases h6 with h6 | ⟨c, c1, c2, c3⟩
    · exact Or.inl h6
    · right
      have c3 : nI c ∈ [v1] := c3
      rw [List.mem_singleton, e] at c3
      have c2 : c < ts1.length := c2
      have := (nI_eq (by omega) (by omega)).mp c3
      omega
  · rw [hC] at h2
    exact Or.inl (List.mem_singleton.mp h2).symm
theorem RV_m2 {M M1 : sm_M} {N : Nat} (hN : N ≤ 900) (h : RVp M N (-2) M1) : M1 = M := by
  rcases h with ⟨k, hk, e, -⟩ | ⟨-, h⟩
  · exact absurd e.symm (nI_m1b (by omega))
  · exact h
theorem mkC_form {ts ts1 : List T3} {k x y v1 : Int32} (h : mkC ts k x y = (ts1, v1)) : (v1 = -2 ∧ ts1 = ts) ∨ ∃ b : Nat, ts1[b]? = some (k, x, y) ∧ v1 = nI b ∧ (ts1 = ts ∨ (ts1 = ts ++ [(k, x, y)] ∧ b = ts.length)) := by
  by_cases h1 : x = -2 ∨ y = -2
  · rw [mkC_full h1] at h
    cases h
    exact Or.inl ⟨rfl, rfl⟩
  by_cases h2 : ∃ i : Nat, ts[i]? = some (k, x, y)
  · rw [mkC_there h1 h2] at h
    cases h
    obtain ⟨b, e1, e2⟩ := fnd_some h2
    exact Or.inr ⟨b, e1, e2, Or.inl rfl⟩
  by_cases h3 : 900 ≤ ts.length
  · rw [mkC_no h1 h2 h3] at h
    cases h
    exact Or.inl ⟨rfl, rfl⟩
  · rw [mkC_new h1 h2 h3] at h
    cases h
    exact Or.inr ⟨ts.length, by simp, rfl, Or.inr ⟨rfl, rfl⟩⟩
theorem c_steal {M : sm_M} {q k : Nat} {g ow pw : Nat} {vv : Nat → Nat} {l : List Nat} {ts : List T3} {gs : Nat → Prop} (hdv : dvq k q) (hC : dC M q g ow pw vv l) (hb : g < 1000 ∧ ow < 1000 ∧ pw < 1000 ∧ ∀ j, j < 3 → vv j < 1000) (hT : TW M ts) (hX : OX M ts.length gs) : cr 12 6 148 [.ref 0, .int (nI k)] M (fun v M1 => (∃ ts1 v1, rp mkC (sealP g ow pw vv l) ts [] = (ts1, [v1]) ∧ ts1.length ≤ 900 ∧ v = some (.int v1) ∧ ((v1 = -2 ∧ TW M1 ts ∧ OX M1 ts.length gs) ∨ (¬ v1 = -2 ∧ TW M1 ts1 ∧ OX M1 ts1.length (fun j => (j < ts.length ∧ gs j) ∨ v1 = nI j)))) ∧ ∀ p, (p = 0 ∨ p = 8 ∨ 11 < p) → M1 p = M p) := by
  intro X J rc rs d lw hd hw
  show sm_wp tb_T X tb_ok d lw 12 0 [some (.ref 0), some (.int (nI k)), none] [] _ _
  have hk := hdv.1
  have hq := hdv.2.1
  have hz := hdv.2.2.1
  have hsh := hdv.2.2.2.1
  obtain ⟨s1, s2, s3, s4⟩ := id hdv.2.2.2.2.1
  have s5 := hdv.2.2.2.2.2
  have hN9 := hT.1.2.1.2.1
  have hpk := sealP_ok hb.1 hb.2.1 hb.2.2.1 hb.2.2.2 (fun w hw => (by obtain ⟨i, hi⟩ := List.getElem?_of_mem hw; exact (hC.2.2.2.2.2.2 i w hi).2))
  refine go_il1 (p := 1) hf_12 rfl rfl ?_
  refine go_iconst (p := 2) hf_12 rfl rfl ci_3 ?_
  refine go_cw2 (p := 5) hf_12 rfl rfl (inv_s ho_12 cl_0_48) (by decide) nl_2 rfl rfl rfl rfl rfl rfl (by omega) (by omega) (c_isBelow) ?_
  intro v9 M9 h9
  rewrite [h9.1, h9.2]
  clear h9 v9 M9
  simp only [Option.toList, List.cons_append, List.nil_append]
  refine go_if_ne (p := 8) (p2 := 10) hf_12 rfl rfl rfl (fun h5 => ?_) (fun h5 => absurd ((below_iff (by omega)).mpr ⟨k, hk, rfl⟩) (bI_0.mp h5))
  refine go_al0 (p := 11) hf_12 rfl rfl ?_
  refine go_getr (p := 14) hf_12 ho_12 rfl fl_0_19 rfl (by first | with_reducible assumption | rfl) rfl ?_
  refine go_al0 (p := 15) hf_12 rfl rfl ?_
  refine go_getr (p := 18) hf_12 ho_12 rfl fl_0_10 rfl (by first | with_reducible assumption | rfl) rfl ?_
  refine go_al0 (p := 19) hf_12 rfl rfl ?_
  refine go_getr (p := 22) hf_12 ho_12 rfl fl_0_32 rfl (by first | with_reducible assumption | rfl) rfl ?_
  refine go_il1 (p := 23) hf_12 rfl rfl ?_
  refine go_aald (p := 24) hf_12 rfl rfl (by first | with_reducible assumption | rfl) (by first | rfl | with_reducible assumption) (by first | exact rfl | with_reducible assumption) hz ?_
  refine go_getr (p := 27) hf_12 ho_12 rfl fl_0_60 rfl (by first | with_reducible assumption | rfl) rfl ?_
  refine go_cw3 (p := 30) hf_12 rfl rfl (inv_v ho_12 cl_0_109) (by decide) nl_50 rfl rfl (by first | rfl | exact rcv_of (by with_reducible assumption)) rfl rfl rfl (by omega) (by omega) (c_write hdv.2.2.2.2.1 (by omega) hC.2.2.2.2 hC.1 hC.2.1 hC.2.2.1 hC.2.2.2.1 hT.1) ?_
  rintro v9 M2 ⟨⟨ts1, v1, eR, rfl, h91, hw1⟩, f2⟩
  have hsc := seal_C hpk hT.1.2.2.2.1 hT.2 hN9 h91 eR
  simp only [Option.toList, List.cons_append, List.nil_append]
  refine go_is2 (p := 31) hf_12 rfl rfl ?_
  obtain ⟨tsx, ex, hcase⟩ : ∃ tsx, ((v1 = -2 ∧ tsx = ts) ∨ (¬ v1 = -2 ∧ tsx = ts1)) ∧ TC (M2 5) tsx M2 tsx ∧ wt tsx ∧ OA M2 tsx.length (fun j => j < ts.length ∧ gs j) := by
    rcases hw1 with ⟨e, t2⟩ | ⟨e, t2, -⟩
    · exact ⟨ts, Or.inl ⟨e, rfl⟩, TC_self t2, hT.2, (OA_mk hT.1 hX t2).1⟩
    · rcases hsc with h | ⟨h, -⟩
      · exact absurd h e
      · exact ⟨ts1, Or.inr ⟨e, rfl⟩, TC_self t2, h, (OA_mk hT.1 hX t2).1⟩
  refine go_al0 (p := 32) hf_12 rfl rfl ?_
  refine go_getr (p := 35) hf_12 ho_12 rfl fl_0_10 rfl (by first | with_reducible assumption | rfl) rfl ?_
  refine go_il2 (p := 36) hf_12 rfl rfl ?_
  refine go_cw2 (p := 39) hf_12 rfl rfl (inv_v ho_12 cl_0_116) (by decide) nl_35 rfl rfl (by first | rfl | exact rcv_of (by with_reducible assumption)) rfl rfl rfl (by omega) (by omega) (c_rev (t := v1) hcase.1 hcase.2.1 hcase.2.2) ?_
  rintro v9 M3 ⟨rfl, hR⟩
  simp only [Option.toList, List.cons_append, List.nil_append]
  refine go_il2 (p := 40) hf_12 rfl rfl ?_
  refine go_ret1 hf_12 rfl nl_12 ?_
  refine ⟨_, _, rfl, rfl, ⟨ts1, v1, eR, h91, rfl, ?_⟩, fun p hp => by rw [RV_fr hR p (by omega)]; exact f2 p hp⟩
  rcases hw1 with ⟨e, t2⟩ | ⟨e, t2, bx, x, y, hbx, ebx⟩
  · rcases ex with ⟨-, rfl⟩ | ⟨e', -⟩
    · rw [e] at hR
      rw [RV_m2 hN9 hR]
      exact Or.inl ⟨e, ⟨TC_self t2, hT.2⟩, (OA_mk hT.1 hX t2).2 rfl⟩
    · exact absurd e e'
  · rcases ex with ⟨e', -⟩ | ⟨-, rfl⟩
    · exact absurd e' e
    · right
      rcases hsc with h | ⟨h, b, hb1, hb2, hb3⟩
      · exact absurd h e
      · have ebb : bx = b := (nI_eq (by have := t_lt hbx; omega) (by omega)).mp (ebx.symm.trans hb2)
        subst ebb
        refine ⟨e, ⟨TC_open (TC_self t2) (RV_fr hR), h⟩, ?_⟩
        rw [hb2] at hR ⊢
        refine mk_rev hT.1 hX t2 hR hb1 ?_
        rcases hb3 with q | q
        · exact Or.inl q
        · exact Or.inr ⟨q, _, hbx, by show ¬ nI 4 = nI 1; decide⟩
theorem c_steal0 {M : sm_M} {a0 : Int32} (hbad : ¬ ∃ n, n < 3 ∧ a0 = nI n) : cr 12 1 21 [.ref 0, .int a0] M (fun v M1 => v = some (.int (-1)) ∧ M1 = M) := by
  intro X J rc rs d lw hd hw
  show sm_wp tb_T X tb_ok d lw 12 0 [some (.ref 0), some (.int a0), none] [] _ _
  refine go_il1 (p := 1) hf_12 rfl rfl ?_
  refine go_iconst (p := 2) hf_12 rfl rfl ci_3 ?_
  refine go_cw2 (p := 5) hf_12 rfl rfl (inv_s ho_12 cl_0_48) (by decide) nl_2 rfl rfl rfl rfl rfl rfl (by omega) (by omega) (c_isBelow) ?_
  intro v9 M9 h9
  rewrite [h9.1, h9.2]
  clear h9 v9 M9
  simp only [Option.toList, List.cons_append, List.nil_append]
  refine go_if_ne (p := 8) (p2 := 10) hf_12 rfl rfl rfl (fun h5 => absurd ((below_iff (by omega)).mp (bI_n0.mp h5)) hbad) (fun h5 => ?_)
  refine go_iconst (p := 9) hf_12 rfl rfl ci_m1 ?_
  refine go_ret1 hf_12 rfl nl_12 ?_
  exact ⟨_, _, rfl, rfl, rfl, rfl⟩
theorem c_push {M : sm_M} {q k : Nat} {g ow pw : Nat} {vv : Nat → Nat} {l : List Nat} {ts : List T3} {gs : Nat → Prop} {ms : List (Int32 × Int32 × Int32 × Int32)} (hdv : dvq k q) (h0 : M q 3 = 0) (hC : dC M q g ow pw vv l) (hb : g < 1000 ∧ ow < 1000 ∧ pw < 1000 ∧ ∀ j, j < 3 → vv j < 1000) (hT : TW M ts) (hX : OX M ts.length gs) (hm : ml (M 12 4) (M 13) (M 14) (M 15) (M 16) ms) : cr 27 6 148 [.ref 0, .int (nI k)] M (fun v M1 => (∃ ts1 v1, rp mkC (sealP g ow pw vv l) ts [] = (ts1, [v1]) ∧ ts1.length ≤ 900 ∧ v = some (.int v1) ∧ ((v1 = -2 ∧ TW M1 ts ∧ OX M1 ts.length gs ∧ ml (M1 12 4) (M1 13) (M1 14) (M1 15) (M1 16) (ms)) ∨ (¬ v1 = -2 ∧ TW M1 ts1 ∧ OX M1 ts1.length (fun j => ((j < ts.length ∧ gs j) ∨ M q 2 = nI j) ∨ v1 = nI j) ∧ ml (M1 12 4) (M1 13) (M1 14) (M1 15) (M1 16) (if ms.length < 12 then ms ++ [(nI 1, nI k, M q 2, v1)] else ms)))) ∧ ∀ p, (p = 0 ∨ p = 8 ∨ 16 < p) → M1 p = M p) := by
  intro X J rc rs d lw hd hw
  show sm_wp tb_T X tb_ok d lw 27 0 [some (.ref 0), some (.int (nI k)), none] [] _ _
  have hk := hdv.1
  have hq := hdv.2.1
  have hz := hdv.2.2.1
  have hsh := hdv.2.2.2.1
  obtain ⟨s1, s2, s3, s4⟩ := id hdv.2.2.2.2.1
  have s5 := hdv.2.2.2.2.2
  have hN9 := hT.1.2.1.2.1
  have hpk := sealP_ok hb.1 hb.2.1 hb.2.2.1 hb.2.2.2 (fun w hw => (by obtain ⟨i, hi⟩ := List.getElem?_of_mem hw; exact (hC.2.2.2.2.2.2 i w hi).2))
  refine go_il1 (p := 1) hf_27 rfl rfl ?_
  refine go_iconst (p := 2) hf_27 rfl rfl ci_3 ?_
  refine go_cw2 (p := 5) hf_27 rfl rfl (inv_s ho_27 cl_0_48) (by decide) nl_2 rfl rfl rfl rfl rfl rfl (by omega) (by omega) (c_isBelow) ?_
  intro v9 M9 h9
  rewrite [h9.1, h9.2]
  clear h9 v9 M9
  simp only [Option.toList, List.cons_append, List.nil_append]
  refine go_cw1 (p := 8) hf_27 rfl rfl (inv_s ho_27 cl_0_52) (by decide) nl_19 rfl rfl rfl rfl rfl (thr19n (bI_n0.mpr ((below_iff (by omega)).mpr ⟨k, hk, rfl⟩))) (by omega) (by omega) (c_require (bI_n0.mpr ((below_iff (by omega)).mpr ⟨k, hk, rfl⟩))) ?_
  intro v9 M9 h9
  rewrite [h9.1, h9.2]
  clear h9 v9 M9
  simp only [Option.toList, List.cons_append, List.nil_append]
  refine go_al0 (p := 9) hf_27 rfl rfl ?_
  refine go_getr (p := 12) hf_27 ho_27 rfl fl_0_32 rfl (by first | with_reducible assumption | rfl) rfl ?_
  refine go_il1 (p := 13) hf_27 rfl rfl ?_
  refine go_aald (p := 14) hf_27 rfl rfl (by first | with_reducible assumption | rfl) (by first | rfl | with_reducible assumption) (by first | exact rfl | with_reducible assumption) hz ?_
  refine go_cw1 (p := 17) hf_27 rfl rfl (inv_s ho_27 cl_0_66) (by decide) nl_22 rfl rfl rfl rfl rfl (thr22_n hdv h0) (by omega) (by omega) (c_requireOpen hdv h0) ?_
  intro v9 M9 h9
  rewrite [h9.1, h9.2]
  clear h9 v9 M9
  simp only [Option.toList, List.cons_append, List.nil_append]
  refine go_al0 (p := 18) hf_27 rfl rfl ?_
  refine go_getr (p := 21) hf_27 ho_27 rfl fl_0_19 rfl (by first | with_reducible assumption | rfl) rfl ?_
  refine go_al0 (p := 22) hf_27 rfl rfl ?_
  refine go_getr (p := 25) hf_27 ho_27 rfl fl_0_10 rfl (by first | with_reducible assumption | rfl) rfl ?_
  refine go_al0 (p := 26) hf_27 rfl rfl ?_
  refine go_getr (p := 29) hf_27 ho_27 rfl fl_0_32 rfl (by first | with_reducible assumption | rfl) rfl ?_
  refine go_il1 (p := 30) hf_27 rfl rfl ?_
  refine go_aald (p := 31) hf_27 rfl rfl (by first | with_reducible assumption | rfl) (by first | rfl | with_reducible assumption) (by first | exact rfl | with_reducible assumption) hz ?_
  refine go_getr (p := 34) hf_27 ho_27 rfl fl_0_60 rfl (by first | with_reducible assumption | rfl) rfl ?_
  refine go_cw3 (p := 37) hf_27 rfl rfl (inv_v ho_27 cl_0_109) (by decide) nl_50 rfl rfl (by first | rfl | exact rcv_of (by with_reducible assumption)) rfl rfl rfl (by omega) (by omega) (c_write hdv.2.2.2.2.1 (by omega) hC.2.2.2.2 hC.1 hC.2.1 hC.2.2.1 hC.2.2.2.1 hT.1) ?_
  rintro v9 M2 ⟨⟨ts1, v1, eR, rfl, h91, hw1⟩, f2⟩
  have hsc := seal_C hpk hT.1.2.2.2.1 hT.2 hN9 h91 eR
  simp only [Option.toList, List.cons_append, List.nil_append]
  refine go_is2 (p := 38) hf_27 rfl rfl ?_
  refine go_il2 (p := 39) hf_27 rfl rfl ?_
  refine go_bipush (p := 41) hf_27 rfl rfl cb_m2 ?_
  refine go_ic_ne (p := 44) (p2 := 47) hf_27 rfl rfl rfl (fun h41 => ?_) (fun h41 => ?_)
  · obtain ⟨t2, bx, x, y, hbx, ebx⟩ : TC (M 5) ts M2 ts1 ∧ ∃ (b : Nat) (x y : Int32), ts1[b]? = some (nI 4, x, y) ∧ v1 = nI b := by
      rcases hw1 with ⟨e, -⟩ | ⟨-, e⟩
      · exact absurd e h41
      · exact e
    obtain ⟨hwt, b, hb1, hb2, hb3⟩ : wt ts1 ∧ ∃ b, b < ts1.length ∧ v1 = nI b ∧ (ts1 = ts ∨ ts.length ≤ b) := by
      rcases hsc with h | h
      · exact absurd h h41
      · exact h
    have ebb : bx = b := (nI_eq (by have := t_lt hbx; omega) (by omega)).mp (ebx.symm.trans hb2)
    subst ebb
    refine go_al0 (p := 48) hf_27 rfl rfl ?_
    refine go_getr (p := 51) hf_27 ho_27 rfl fl_0_10 rfl (by first | with_reducible assumption | rfl) rfl ?_
    refine go_al0 (p := 52) hf_27 rfl rfl ?_
    refine go_getr (p := 55) hf_27 ho_27 rfl fl_0_32 rfl (by first | with_reducible assumption | rfl) rfl ?_
    refine go_il1 (p := 56) hf_27 rfl rfl ?_
    refine go_aald (p := 57) hf_27 rfl rfl (by first | with_reducible assumption | rfl) (by first | rfl | with_reducible assumption) (by first | exact rfl | with_reducible assumption) hz ?_
    refine go_get (p := 60) hf_27 ho_27 rfl fl_0_113 rfl (by first | with_reducible assumption | rfl) rfl (by rw [f2 q (by omega)]) ?_
    refine go_cw2 (p := 63) hf_27 rfl rfl (inv_v ho_27 cl_0_116) (by decide) nl_35 rfl rfl (by first | rfl | exact rcv_of (by with_reducible assumption)) rfl rfl rfl (by omega) (by omega) (c_rev (TC_self t2) hwt (OA_mk hT.1 hX t2).1) ?_
    rintro v9 M3 ⟨rfl, hS⟩
    have f3 := RV_fr hS
    obtain ⟨gs3, hA3⟩ : ∃ gs3, OA M3 ts1.length gs3 := by
      rcases RV_OA h91 hS (OA_mk hT.1 hX t2).1 with q | ⟨rfl, -, q, -⟩
      · exact ⟨_, OX_OA q⟩
      · exact ⟨_, q⟩
    have t3 := TC_open (TC_self t2) f3
    simp only [Option.toList, List.cons_append, List.nil_append]
    refine go_al0 (p := 64) hf_27 rfl rfl ?_
    refine go_getr (p := 67) hf_27 ho_27 rfl fl_0_10 rfl (by first | with_reducible assumption | rfl) rfl ?_
    refine go_il2 (p := 68) hf_27 rfl rfl ?_
    refine go_cw2 (p := 71) hf_27 rfl rfl (inv_v ho_27 cl_0_116) (by decide) nl_35 rfl rfl (by first | rfl | exact rcv_of (by with_reducible assumption)) rfl rfl rfl (by omega) (by omega) (c_rev t3 hwt hA3) ?_
    rintro v9 M4 ⟨rfl, hR⟩
    have f4 := RV_fr hR
    simp only [Option.toList, List.cons_append, List.nil_append]
    refine go_al0 (p := 72) hf_27 rfl rfl ?_
    refine go_getr (p := 75) hf_27 ho_27 rfl fl_0_26 rfl (by first | with_reducible assumption | rfl) rfl ?_
    refine go_iconst (p := 76) hf_27 rfl rfl ci_1 ?_
    refine go_il1 (p := 77) hf_27 rfl rfl ?_
    refine go_al0 (p := 78) hf_27 rfl rfl ?_
    refine go_getr (p := 81) hf_27 ho_27 rfl fl_0_32 rfl (by first | with_reducible assumption | rfl) rfl ?_
    refine go_il1 (p := 82) hf_27 rfl rfl ?_
    refine go_aald (p := 83) hf_27 rfl rfl (by first | with_reducible assumption | rfl) (by first | rfl | with_reducible assumption) (by first | exact rfl | with_reducible assumption) hz ?_
    refine go_get (p := 86) hf_27 ho_27 rfl fl_0_113 rfl (by first | with_reducible assumption | rfl) rfl (by rw [f4 q (by omega), f3 q (by omega), f2 q (by omega)]) ?_
    refine go_il2 (p := 87) hf_27 rfl rfl ?_
    refine go_cw5 (p := 90) hf_27 rfl rfl (inv_v ho_27 cl_0_105) (by decide) nl_56 rfl rfl (by first | rfl | exact rcv_of (by with_reducible assumption)) rfl rfl rfl (by omega) (by omega) (c_msend (ms := ms) (by rw [f4 12 (by omega), f4 13 (by omega), f4 14 (by omega), f4 15 (by omega), f4 16 (by omega), f3 12 (by omega), f3 13 (by omega), f3 14 (by omega), f3 15 (by omega), f3 16 (by omega), f2 12 (by omega), f2 13 (by omega), f2 14 (by omega), f2 15 (by omega), f2 16 (by omega)]; exact hm)) ?_
    rintro v9 M5 ⟨rfl, e5, f5⟩
    simp only [Option.toList, List.cons_append, List.nil_append]
    refine go_il2 (p := 91) hf_27 rfl rfl ?_
    refine go_ret1 hf_27 rfl nl_27 ?_
    refine ⟨_, _, rfl, rfl, ⟨ts1, v1, eR, h91, rfl, Or.inr ⟨h41, ⟨?_, hwt⟩, ?_, e5⟩⟩, fun p hp => by rw [f5 p (by omega), f4 p (by omega), f3 p (by omega), f2 p (by omega)]⟩
    · exact TC_self (TC_keep (TC_open t3 f4) (fun p h1 h2 => f5 p (by omega)))
    · refine OX_keep ?_ (fun p h1 h2 => f5 p (by omega))
      rw [hb2] at hR ⊢
      refine mk_rev2 hT.1 hX t2 hS hR hb1 ?_
      rcases hb3 with q | q
      · exact Or.inl q
      · exact Or.inr ⟨q, _, hbx, by show ¬ nI 4 = nI 1; decide⟩
  · refine go_bipush (p := 46) hf_27 rfl rfl cb_m2 ?_
    refine go_ret1 hf_27 rfl nl_27 ?_
    rcases hw1 with ⟨e, t2⟩ | ⟨e, -⟩
    · refine ⟨_, _, rfl, rfl, ⟨ts1, v1, eR, h91, by rw [e], Or.inl ⟨e, ⟨TC_self t2, hT.2⟩, (OA_mk hT.1 hX t2).2 rfl, ?_⟩⟩, fun p hp => f2 p (by omega)⟩
      rw [f2 12 (by omega), f2 13 (by omega), f2 14 (by omega), f2 15 (by omega), f2 16 (by omega)]
      exact hm
    · exact absurd h41 e
