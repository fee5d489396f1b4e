/-! ===== the class's State: entries as lists of numbers ===== -/
def stq (q : Nat) : Prop := wSH[q]? = some (.inl (5, [none, none, none, some (some (q + 1)), some (some (q + 2)), none, some (some (q + 3))])) ∧ wSH[q + 1]? = some (.inr (.inl (0, 3))) ∧ wSH[q + 2]? = some (.inr (.inl (0, 12))) ∧ wSH[q + 3]? = some (.inr (.inl (0, 24)))
theorem stq_19 : stq 19 := ⟨rfl, rfl, rfl, rfl⟩
theorem stq_25 : stq 25 := ⟨rfl, rfl, rfl, rfl⟩
theorem stq_31 : stq 31 := ⟨rfl, rfl, rfl, rfl⟩
theorem stq_36 : stq 36 := ⟨rfl, rfl, rfl, rfl⟩
def row (g : Nat → Int32) (l : List Nat) : Prop := ∀ i w, l[i]? = some w → g i = nI w ∧ w < 32768
def es (M : sm_M) (q : Nat) (l : List Nat) : Prop := M q 5 = nI l.length ∧ l.length ≤ 12 ∧ row (M (q + 2)) l
def fi (it : Nat) (l : List Nat) : List Nat := l.filter (fun w => w / 8192 == it)
def fo (it : Nat) (l : List Nat) : List Nat := l.filter (fun w => !(w / 8192 == it))
theorem l_at {l : List Nat} {i : Nat} (h : i < l.length) : ∃ w, l[i]? = some w := ⟨l[i], List.getElem?_eq_getElem h⟩
theorem l_lt {l : List Nat} {i w : Nat} (h : l[i]? = some w) : i < l.length := (List.getElem?_eq_some_iff.mp h).1
theorem l_drop {l : List Nat} {i w : Nat} (h : l[i]? = some w) : l.drop i = w :: l.drop (i + 1) := by
  obtain ⟨h1, h2⟩ := List.getElem?_eq_some_iff.mp h
  rw [← h2]
  exact List.drop_eq_getElem_cons h1
theorem l_take {l : List Nat} {i w : Nat} (h : l[i]? = some w) : l.take (i + 1) = l.take i ++ [w] := by
  obtain ⟨h1, h2⟩ := List.getElem?_eq_some_iff.mp h
  rw [← h2]
  exact List.take_succ_eq_append_getElem h1
theorem l_end {l : List Nat} {i : Nat} (h : l.length ≤ i) : l.drop i = [] := List.drop_eq_nil_of_le h
theorem row_snoc {g g' : Nat → Int32} {a : List Nat} {w : Nat} (h : row g a) (ho : ∀ j, j < a.length → g' j = g j) (hx : g' a.length = nI w) (hw : w < 32768) : row g' (a ++ [w]) := by
  intro i y hy
  rcases Nat.lt_trichotomy i a.length with hi | hi | hi
  · rw [List.getElem?_append_left hi] at hy
    rw [ho i hi]
    exact h i y hy
  · subst hi
    simp at hy
    subst hy
    exact ⟨hx, hw⟩
  · rw [List.getElem?_eq_none (by simp; omega)] at hy
    cases hy
theorem row_congr {g g' : Nat → Int32} {a : List Nat} (h : row g a) (ho : ∀ j, j < a.length → g' j = g j) : row g' a := fun i y hy => by
  rw [ho i (l_lt hy)]
  exact h i y hy
theorem fi_take {l : List Nat} {i w it : Nat} (h : l[i]? = some w) : fi it (l.take (i + 1)) = if w / 8192 = it then fi it (l.take i) ++ [w] else fi it (l.take i) := by
  rw [l_take h]
  unfold fi
  rw [List.filter_append]
  by_cases hc : w / 8192 = it
  · simp [hc]
  · simp [hc]
theorem fo_take {l : List Nat} {i w it : Nat} (h : l[i]? = some w) : fo it (l.take (i + 1)) = if w / 8192 = it then fo it (l.take i) else fo it (l.take i) ++ [w] := by
  rw [l_take h]
  unfold fo
  rw [List.filter_append]
  by_cases hc : w / 8192 = it
  · simp [hc]
  · simp [hc]
theorem fi_len (it : Nat) (l : List Nat) (i : Nat) : (fi it (l.take i)).length ≤ i := Nat.le_trans (List.length_filter_le _ _) (by rw [List.length_take]; omega)
theorem fo_len (it : Nat) (l : List Nat) (i : Nat) : (fo it (l.take i)).length ≤ i := Nat.le_trans (List.length_filter_le _ _) (by rw [List.length_take]; omega)
theorem fi_pre (it : Nat) (l : List Nat) (i : Nat) : fi it l = fi it (l.take i) ++ fi it (l.drop i) := by
  unfold fi
  rw [← List.filter_append, List.take_append_drop]
theorem c_takeHeader {M : sm_M} {q : Nat} {a b c : Int32} (hs : stq q) : cr 59 0 0 [.ref q, .int a, .int b, .int c] M (fun v M1 => v = none ∧ M1 = sm_up (sm_up (sm_up M q 0 a) q 1 b) q 2 c) := by
  intro X J rc rs d lw hd hw
  show sm_wp tb_T X tb_ok d lw 59 0 [some (.ref q), some (.int a), some (.int b), some (.int c)] [] _ _
  obtain ⟨hq, hv, he, hm⟩ := hs
  refine go_al0 hf_59 rfl rfl ?_
  refine go_il1 hf_59 rfl rfl ?_
  refine go_put hf_59 ho_59 rfl fl_5_21 rfl (by first | assumption | rfl) rfl (Or.inl rfl) ?_
  refine go_al0 hf_59 rfl rfl ?_
  refine go_il2 hf_59 rfl rfl ?_
  refine go_put hf_59 ho_59 rfl fl_5_25 rfl (by first | assumption | rfl) rfl (Or.inl rfl) ?_
  refine go_al0 hf_59 rfl rfl ?_
  refine go_il3 hf_59 rfl rfl ?_
  refine go_put hf_59 ho_59 rfl fl_5_28 rfl (by first | assumption | rfl) rfl (Or.inl rfl) ?_
  refine go_ret0 hf_59 rfl nl_59 ?_
  exact ⟨_, _, rfl, rfl, rfl, rfl⟩
theorem c_countI {M : sm_M} {q it : Nat} {l : List Nat} (hs : stq q) (hl : es M q l) (hit : it < 4) : cr 69 1 20 [.ref q, .int (nI it)] M (fun v M1 => v = some (.int (nI (fi it l).length)) ∧ M1 = M) := by
  intro X J rc rs d lw hd hw
  show sm_wp tb_T X tb_ok d lw 69 0 [some (.ref q), some (.int (nI it)), none, none] [] _ _
  obtain ⟨hq, hv, he, hm⟩ := hs
  obtain ⟨hsz, hl12, hr⟩ := hl
  have loop : ∀ (n i : Nat), i + n = l.length → sm_wp tb_T X tb_ok d lw 69 4 [some (.ref q), some (.int (nI it)), some (.int (nI (fi it (l.take i)).length)), some (.int (nI i))] [] (wSH, M, J, rc, rs) (fun o h' => ∃ v M1, o = .inl v ∧ h' = (wSH, M1, J, rc, rs) ∧ v = some (.int (nI (fi it l).length)) ∧ M1 = M) := by
    intro n
    induction n with
    | zero =>
      intro i hi
      refine go_il3 hf_69 rfl rfl ?_
      refine go_al0 hf_69 rfl rfl ?_
      refine go_get hf_69 ho_69 rfl fl_5_31 rfl (by first | assumption | rfl) rfl (by first | assumption | ((repeat rewrite [up_k]) <;> first | assumption | decide | omega) | exact rfl) ?_
      first | refine go_nn_ge hf_69 rfl rfl rfl (by omega) (by omega) (fun h9 => ?_) (fun h9 => absurd h9 (by omega)) | refine go_ic_ge hf_69 rfl rfl rfl (fun h9 => ?_) (fun h9 => absurd h9 (by omega))
      refine go_il2 hf_69 rfl rfl ?_
      refine go_ret1 hf_69 rfl nl_69 ?_
      exact ⟨_, _, rfl, rfl, by rw [List.take_of_length_le (by omega)], rfl⟩
    | succ n ih =>
      intro i hi
      obtain ⟨w, hw1⟩ := l_at (l := l) (i := i) (by omega)
      obtain ⟨hwm, hw2⟩ := hr i w hw1
      have ih1 := ih (i + 1) (by omega)
      rw [fi_take hw1] at ih1
      refine go_il3 hf_69 rfl rfl ?_
      refine go_al0 hf_69 rfl rfl ?_
      refine go_get hf_69 ho_69 rfl fl_5_31 rfl (by first | assumption | rfl) rfl (by first | assumption | ((repeat rewrite [up_k]) <;> first | assumption | decide | omega) | exact rfl) ?_
      first | refine go_nn_ge hf_69 rfl rfl rfl (by omega) (by omega) (fun h9 => absurd h9 (by omega)) (fun h9 => ?_) | refine go_ic_ge hf_69 rfl rfl rfl (fun h9 => absurd h9 (by omega)) (fun h9 => ?_)
      refine go_al0 hf_69 rfl rfl ?_
      refine go_getr hf_69 ho_69 rfl fl_5_15 rfl (by first | assumption | rfl) rfl ?_
      refine go_il3 hf_69 rfl rfl ?_
      refine go_iald hf_69 rfl rfl (by first | assumption | rfl) (by first | rfl | assumption) (by first | exact rfl | assumption) (by omega) (by first | assumption | ((repeat rewrite [up_k]) <;> first | assumption | decide | omega) | exact rfl) ?_
      refine go_call hf_69 rfl rfl (inv_s ho_69 cl_5_34) (by decide) nl_129 rfl rfl rfl rfl rfl rfl rfl rfl rfl (by omega) (by omega) (c_itemOf hw2) ?_
      intro v9 M9 h9
      rewrite [h9.1, h9.2]
      clear h9 v9 M9
      refine go_il1 hf_69 rfl rfl ?_
      first | refine go_nn_ne hf_69 rfl rfl rfl (by omega) (by omega) (fun h22 => ?_) (fun h22 => ?_) | refine go_ic_ne hf_69 rfl rfl rfl (fun h22 => ?_) (fun h22 => ?_)
      · refine go_ic3 hf_69 rfl rfl (by first | exact inc1 _ | exact rfl) ?_
        refine go_goto hf_69 rfl rfl ?_
        rw [if_neg h22] at ih1
        exact ih1
      · refine go_ic2 hf_69 rfl rfl (by first | exact inc1 _ | exact rfl) ?_
        refine go_ic3 hf_69 rfl rfl (by first | exact inc1 _ | exact rfl) ?_
        refine go_goto hf_69 rfl rfl ?_
        rw [if_pos h22, List.length_append] at ih1
        exact ih1
  refine go_iconst hf_69 rfl rfl ci_0 ?_
  refine go_is2 hf_69 rfl rfl ?_
  refine go_iconst hf_69 rfl rfl ci_0 ?_
  refine go_is3 hf_69 rfl rfl ?_
  exact loop l.length 0 (by omega)
theorem c_removeAll {M : sm_M} {q it : Nat} {l : List Nat} (hs : stq q) (hl : es M q l) (hit : it < 4) : cr 70 1 20 [.ref q, .int (nI it)] M (fun v M1 => v = none ∧ es M1 q (fo it l) ∧ (∀ a j, ¬ (a = q ∧ j = 5) → a ≠ q + 2 → M1 a j = M a j)) := by
  intro X J rc rs d lw hd hw
  show sm_wp tb_T X tb_ok d lw 70 0 [some (.ref q), some (.int (nI it)), none, none] [] _ _
  obtain ⟨hq, hv, he, hm⟩ := hs
  obtain ⟨hsz, hl12, hr⟩ := hl
  have loop : ∀ (n i : Nat) (M2 : sm_M), i + n = l.length → row (M2 (q + 2)) (fo it (l.take i)) → (∀ j, i ≤ j → M2 (q + 2) j = M (q + 2) j) → (∀ a, a ≠ q + 2 → M2 a = M a) → sm_wp tb_T X tb_ok d lw 70 4 [some (.ref q), some (.int (nI it)), some (.int (nI (fo it (l.take i)).length)), some (.int (nI i))] [] (wSH, M2, J, rc, rs) (fun o h' => ∃ v M1, o = .inl v ∧ h' = (wSH, M1, J, rc, rs) ∧ v = none ∧ es M1 q (fo it l) ∧ (∀ a j, ¬ (a = q ∧ j = 5) → a ≠ q + 2 → M1 a j = M a j)) := by
    intro n
    induction n with
    | zero =>
      intro i M2 hi hrow hge hfr
      have hsz2 : M2 q 5 = nI l.length := by rw [hfr q (by omega)]; exact hsz
      refine go_il3 hf_70 rfl rfl ?_
      refine go_al0 hf_70 rfl rfl ?_
      refine go_get hf_70 ho_70 rfl fl_5_31 rfl (by first | assumption | rfl) rfl (by first | assumption | ((repeat rewrite [up_k]) <;> first | assumption | decide | omega) | exact rfl) ?_
      first | refine go_nn_ge hf_70 rfl rfl rfl (by omega) (by omega) (fun h9 => ?_) (fun h9 => absurd h9 (by omega)) | refine go_ic_ge hf_70 rfl rfl rfl (fun h9 => ?_) (fun h9 => absurd h9 (by omega))
      refine go_al0 hf_70 rfl rfl ?_
      refine go_il2 hf_70 rfl rfl ?_
      refine go_put hf_70 ho_70 rfl fl_5_31 rfl (by first | assumption | rfl) rfl (Or.inl rfl) ?_
      refine go_ret0 hf_70 rfl nl_70 ?_
      rw [List.take_of_length_le (by omega)] at hrow ⊢
      refine ⟨_, _, rfl, rfl, rfl, ⟨up_s, Nat.le_trans (List.length_filter_le _ _) hl12, ?_⟩, fun a j h1 h2 => ?_⟩
      · exact row_congr hrow (fun j _ => up_k (by omega))
      · rw [up_o (by omega), hfr a h2]
    | succ n ih =>
      intro i M2 hi hrow hge hfr
      have hsz2 : M2 q 5 = nI l.length := by rw [hfr q (by omega)]; exact hsz
      obtain ⟨w, hw1⟩ := l_at (l := l) (i := i) (by omega)
      obtain ⟨hwm0, hw2⟩ := hr i w hw1
      have hwm : M2 (q + 2) i = nI w := by rw [hge i (Nat.le_refl i)]; exact hwm0
      have hfl := fo_len it l i
      have ih1 := ih (i + 1)
      rw [fo_take hw1] at ih1
      refine go_il3 hf_70 rfl rfl ?_
      refine go_al0 hf_70 rfl rfl ?_
      refine go_get hf_70 ho_70 rfl fl_5_31 rfl (by first | assumption | rfl) rfl (by first | assumption | ((repeat rewrite [up_k]) <;> first | assumption | decide | omega) | exact rfl) ?_
      first | refine go_nn_ge hf_70 rfl rfl rfl (by omega) (by omega) (fun h9 => absurd h9 (by omega)) (fun h9 => ?_) | refine go_ic_ge hf_70 rfl rfl rfl (fun h9 => absurd h9 (by omega)) (fun h9 => ?_)
      refine go_al0 hf_70 rfl rfl ?_
      refine go_getr hf_70 ho_70 rfl fl_5_15 rfl (by first | assumption | rfl) rfl ?_
      refine go_il3 hf_70 rfl rfl ?_
      refine go_iald hf_70 rfl rfl (by first | assumption | rfl) (by first | rfl | assumption) (by first | exact rfl | assumption) (by omega) (by first | assumption | ((repeat rewrite [up_k]) <;> first | assumption | decide | omega) | exact rfl) ?_
      refine go_call hf_70 rfl rfl (inv_s ho_70 cl_5_34) (by decide) nl_129 rfl rfl rfl rfl rfl rfl rfl rfl rfl (by omega) (by omega) (c_itemOf hw2) ?_
      intro v9 M9 h9
      rewrite [h9.1, h9.2]
      clear h9 v9 M9
      refine go_il1 hf_70 rfl rfl ?_
      first | refine go_nn_eq hf_70 rfl rfl rfl (by omega) (by omega) (fun h22 => ?_) (fun h22 => ?_) | refine go_ic_eq hf_70 rfl rfl rfl (fun h22 => ?_) (fun h22 => ?_)
      · refine go_ic3 hf_70 rfl rfl (by first | exact inc1 _ | exact rfl) ?_
        refine go_goto hf_70 rfl rfl ?_
        rw [if_pos h22] at ih1
        exact ih1 M2 (by omega) hrow (fun j hj => hge j (by omega)) hfr
      · refine go_al0 hf_70 rfl rfl ?_
        refine go_getr hf_70 ho_70 rfl fl_5_15 rfl (by first | assumption | rfl) rfl ?_
        refine go_il2 hf_70 rfl rfl ?_
        refine go_al0 hf_70 rfl rfl ?_
        refine go_getr hf_70 ho_70 rfl fl_5_15 rfl (by first | assumption | rfl) rfl ?_
        refine go_il3 hf_70 rfl rfl ?_
        refine go_iald hf_70 rfl rfl (by first | assumption | rfl) (by first | rfl | assumption) (by first | exact rfl | assumption) (by omega) (by first | assumption | ((repeat rewrite [up_k]) <;> first | assumption | decide | omega) | exact rfl) ?_
        refine go_iast hf_70 rfl rfl (by first | assumption | rfl) (by first | rfl | assumption) (by first | exact rfl | assumption) (by omega) ?_
        refine go_ic2 hf_70 rfl rfl (by first | exact inc1 _ | exact rfl) ?_
        refine go_ic3 hf_70 rfl rfl (by first | exact inc1 _ | exact rfl) ?_
        refine go_goto hf_70 rfl rfl ?_
        rw [if_neg h22, List.length_append] at ih1
        refine ih1 _ (by omega) (row_snoc hrow (fun j hj => up_i (by omega)) up_s hw2) (fun j hj => ?_) (fun a ha => ?_)
        · rw [up_i (by omega)]
          exact hge j (by omega)
        · unfold sm_up
          rw [if_neg ha]
          exact hfr a ha
  refine go_iconst hf_70 rfl rfl ci_0 ?_
  refine go_is2 hf_70 rfl rfl ?_
  refine go_iconst hf_70 rfl rfl ci_0 ?_
  refine go_is3 hf_70 rfl rfl ?_
  exact loop l.length 0 M (by omega) (fun i w h => by cases h) (fun _ _ => rfl) (fun _ _ => rfl)
theorem c_contentAt {M : sm_M} {q it : Nat} {k : Int32} {l : List Nat} (hs : stq q) (hl : es M q l) (hit : it < 4) : cr 71 1 20 [.ref q, .int (nI it), .int k] M (fun v M1 => (((∃ j w, k = nI j ∧ (fi it l)[j]? = some w ∧ v = some (.int (nI (w % 64)))) ∨ ((∀ j, j < (fi it l).length → ¬ k = nI j) ∧ v = some (.int (-1)))) ∧ M1 = M)) := by
  intro X J rc rs d lw hd hw
  show sm_wp tb_T X tb_ok d lw 71 0 [some (.ref q), some (.int (nI it)), some (.int k), none, none] [] _ _
  obtain ⟨hq, hv, he, hm⟩ := hs
  obtain ⟨hsz, hl12, hr⟩ := hl
  have loop : ∀ (n i : Nat), i + n = l.length → (∀ j, j < (fi it (l.take i)).length → ¬ k = nI j) → sm_wp tb_T X tb_ok d lw 71 5 [some (.ref q), some (.int (nI it)), some (.int k), some (.int (nI (fi it (l.take i)).length)), some (.int (nI i))] [] (wSH, M, J, rc, rs) (fun o h' => ∃ v M1, o = .inl v ∧ h' = (wSH, M1, J, rc, rs) ∧ (((∃ j w, k = nI j ∧ (fi it l)[j]? = some w ∧ v = some (.int (nI (w % 64)))) ∨ ((∀ j, j < (fi it l).length → ¬ k = nI j) ∧ v = some (.int (-1)))) ∧ M1 = M)) := by
    intro n
    induction n with
    | zero =>
      intro i hi hno
      refine go_il4 hf_71 rfl rfl ?_
      refine go_al0 hf_71 rfl rfl ?_
      refine go_get hf_71 ho_71 rfl fl_5_31 rfl (by first | assumption | rfl) rfl (by first | assumption | ((repeat rewrite [up_k]) <;> first | assumption | decide | omega) | exact rfl) ?_
      first | refine go_nn_ge hf_71 rfl rfl rfl (by omega) (by omega) (fun h11 => ?_) (fun h11 => absurd h11 (by omega)) | refine go_ic_ge hf_71 rfl rfl rfl (fun h11 => ?_) (fun h11 => absurd h11 (by omega))
      refine go_iconst hf_71 rfl rfl ci_m1 ?_
      refine go_ret1 hf_71 rfl nl_71 ?_
      rw [List.take_of_length_le (by omega)] at hno
      exact ⟨_, _, rfl, rfl, Or.inr ⟨hno, rfl⟩, rfl⟩
    | succ n ih =>
      intro i hi hno
      obtain ⟨w, hw1⟩ := l_at (l := l) (i := i) (by omega)
      obtain ⟨hwm, hw2⟩ := hr i w hw1
      have hfl := fi_len it l i
      have ih1 := ih (i + 1) (by omega)
      rw [fi_take hw1] at ih1
      refine go_il4 hf_71 rfl rfl ?_
      refine go_al0 hf_71 rfl rfl ?_
      refine go_get hf_71 ho_71 rfl fl_5_31 rfl (by first | assumption | rfl) rfl (by first | assumption | ((repeat rewrite [up_k]) <;> first | assumption | decide | omega) | exact rfl) ?_
      first | refine go_nn_ge hf_71 rfl rfl rfl (by omega) (by omega) (fun h11 => absurd h11 (by omega)) (fun h11 => ?_) | refine go_ic_ge hf_71 rfl rfl rfl (fun h11 => absurd h11 (by omega)) (fun h11 => ?_)
      refine go_al0 hf_71 rfl rfl ?_
      refine go_getr hf_71 ho_71 rfl fl_5_15 rfl (by first | assumption | rfl) rfl ?_
      refine go_il4 hf_71 rfl rfl ?_
      refine go_iald hf_71 rfl rfl (by first | assumption | rfl) (by first | rfl | assumption) (by first | exact rfl | assumption) (by omega) (by first | assumption | ((repeat rewrite [up_k]) <;> first | assumption | decide | omega) | exact rfl) ?_
      refine go_call hf_71 rfl rfl (inv_s ho_71 cl_5_34) (by decide) nl_129 rfl rfl rfl rfl rfl rfl rfl rfl rfl (by omega) (by omega) (c_itemOf hw2) ?_
      intro v9 M9 h9
      rewrite [h9.1, h9.2]
      clear h9 v9 M9
      refine go_il1 hf_71 rfl rfl ?_
      first | refine go_nn_ne hf_71 rfl rfl rfl (by omega) (by omega) (fun h25 => ?_) (fun h25 => ?_) | refine go_ic_ne hf_71 rfl rfl rfl (fun h25 => ?_) (fun h25 => ?_)
      · refine go_ic4 hf_71 rfl rfl (by first | exact inc1 _ | exact rfl) ?_
        refine go_goto hf_71 rfl rfl ?_
        rw [if_neg h25] at ih1
        exact ih1 hno
      · refine go_il3 hf_71 rfl rfl ?_
        refine go_il2 hf_71 rfl rfl ?_
        refine go_ic_ne hf_71 rfl rfl rfl (fun h30 => ?_) (fun h30 => ?_)
        · refine go_ic3 hf_71 rfl rfl (by first | exact inc1 _ | exact rfl) ?_
          refine go_ic4 hf_71 rfl rfl (by first | exact inc1 _ | exact rfl) ?_
          refine go_goto hf_71 rfl rfl ?_
          rw [if_pos h25, List.length_append] at ih1
          refine ih1 (fun j hj => ?_)
          simp only [List.length_cons, List.length_nil] at hj
          by_cases hj2 : j < (fi it (l.take i)).length
          · exact hno j hj2
          · rw [show j = (fi it (l.take i)).length by omega]
            exact fun e => h30 e.symm
        · refine go_al0 hf_71 rfl rfl ?_
          refine go_getr hf_71 ho_71 rfl fl_5_15 rfl (by first | assumption | rfl) rfl ?_
          refine go_il4 hf_71 rfl rfl ?_
          refine go_iald hf_71 rfl rfl (by first | assumption | rfl) (by first | rfl | assumption) (by first | exact rfl | assumption) (by omega) (by first | assumption | ((repeat rewrite [up_k]) <;> first | assumption | decide | omega) | exact rfl) ?_
          refine go_call hf_71 rfl rfl (inv_s ho_71 cl_5_40) (by decide) nl_130 rfl rfl rfl rfl rfl rfl rfl rfl rfl (by omega) (by omega) (c_contentOf hw2) ?_
          intro v9 M9 h9
          rewrite [h9.1, h9.2]
          clear h9 v9 M9
          refine go_ret1 hf_71 rfl nl_71 ?_
          refine ⟨_, _, rfl, rfl, Or.inl ⟨(fi it (l.take i)).length, w, h30.symm, ?_, rfl⟩, rfl⟩
          rw [fi_pre it l i, List.getElem?_append_right (Nat.le_refl _), Nat.sub_self, l_drop hw1]
          unfold fi
          simp [h25]
  refine go_iconst hf_71 rfl rfl ci_0 ?_
  refine go_is3 hf_71 rfl rfl ?_
  refine go_iconst hf_71 rfl rfl ci_0 ?_
  refine go_is4 hf_71 rfl rfl ?_
  exact loop l.length 0 (by omega) (fun j hj => absurd hj (Nat.not_lt_zero j))
/-- put into a row at the place from which on all are greater -/
def insK (f : Nat → Nat) (w : Nat) : List Nat → List Nat
  | [] => [w]
  | x :: l => if f w < f x ∧ (∀ y ∈ l, f w < f y) then w :: x :: l else x :: insK f w l
theorem insK_at {f : Nat → Nat} {w : Nat} : ∀ (l : List Nat) (p : Nat), p ≤ l.length → (∀ i x, p ≤ i → l[i]? = some x → f w < f x) → (∀ x, 0 < p → l[p - 1]? = some x → ¬ f w < f x) → insK f w l = l.insertIdx p w := by
  intro l
  induction l with
  | nil =>
    intro p hp _ _
    have : p = 0 := by simpa using hp
    subst this
    rfl
  | cons x l ih =>
    intro p hp h1 h2
    cases p with
    | zero =>
      have hc : f w < f x ∧ ∀ y ∈ l, f w < f y := by
        refine ⟨h1 0 x (Nat.le_refl 0) rfl, fun y hy => ?_⟩
        obtain ⟨i, hi⟩ := List.getElem?_of_mem hy
        exact h1 (i + 1) y (Nat.zero_le _) hi
      unfold insK
      rw [if_pos hc]
      rfl
    | succ p =>
      have hc : ¬ (f w < f x ∧ ∀ y ∈ l, f w < f y) := by
        rintro ⟨g1, g2⟩
        cases p with
        | zero => exact h2 x (Nat.succ_pos _) rfl g1
        | succ p =>
          simp at hp
          obtain ⟨y, hy⟩ := l_at (l := l) (i := p) (by omega)
          exact h2 y (Nat.succ_pos _) hy (g2 y (List.mem_of_getElem? hy))
      unfold insK
      rw [if_neg hc, ih p (by simpa using hp) (fun i y hi hy => h1 (i + 1) y (by omega) hy) (fun y hp2 hy => h2 y (Nat.succ_pos _) (by obtain ⟨p, rfl⟩ : ∃ p', p = p' + 1 := ⟨p - 1, by omega⟩; exact hy))]
      rfl
theorem insK_len {f : Nat → Nat} {w : Nat} : ∀ (l : List Nat), (insK f w l).length = l.length + 1 := by
  intro l
  induction l with
  | nil => rfl
  | cons x l ih =>
    unfold insK
    split
    · rfl
    · rw [List.length_cons, ih, List.length_cons]
theorem insK_mem {f : Nat → Nat} {w y : Nat} : ∀ (l : List Nat), y ∈ insK f w l ↔ y = w ∨ y ∈ l := by
  intro l
  induction l with
  | nil => simp [insK]
  | cons x l ih =>
    unfold insK
    split
    · simp
    · rw [List.mem_cons, ih, List.mem_cons]
      constructor
      · rintro (h | h | h)
        · exact Or.inr (Or.inl h)
        · exact Or.inl h
        · exact Or.inr (Or.inr h)
      · rintro (h | h | h)
        · exact Or.inr (Or.inl h)
        · exact Or.inl h
        · exact Or.inr (Or.inr h)
theorem row_ins {g g' : Nat → Int32} {l : List Nat} {p w : Nat} (h : row g l) (hp : p ≤ l.length) (hw : w < 32768) (h1 : ∀ j, j < p → g' j = g j) (h2 : g' p = nI w) (h3 : ∀ j, p < j → j ≤ l.length → g' j = g (j - 1)) : row g' (l.insertIdx p w) := by
  intro i y hy
  rw [List.getElem?_insertIdx] at hy
  split at hy
  · next hi =>
    rw [h1 i hi]
    exact h i y hy
  · next hi =>
    split at hy
    · next hi2 =>
      subst hi2
      rw [if_pos hp] at hy
      cases hy
      exact ⟨h2, hw⟩
    · next hi2 =>
      have hlt := l_lt hy
      rw [h3 i (by omega) (by omega)]
      exact h (i - 1) y hy
theorem c_insIO {M : sm_M} {r n w : Nat} {l : List Nat} (hr : wSH[r]? = some (.inr (.inl (0, n)))) (hn : Nat.blt n 2147483648 = true) (hl : row (M r) l) (hln : l.length < n) (hn9 : n < 1000) (hw9 : w < 32768) : cr 63 0 0 [.ref r, .int (nI l.length), .int (nI w)] M (fun v M1 => v = none ∧ row (M1 r) (insK id w l) ∧ (∀ j, l.length < j → M1 r j = M r j) ∧ ∀ a, a ≠ r → M1 a = M a) := by
  intro X J rc rs d lw hd hw
  show sm_wp tb_T X tb_ok d lw 63 0 [some (.ref r), some (.int (nI l.length)), some (.int (nI w)), none] [] _ _
  have loop : ∀ (p : Nat) (M2 : sm_M), p ≤ l.length → (∀ a, a ≠ r → M2 a = M a) → (∀ j, j < p ∨ l.length < j → M2 r j = M r j) → (∀ j, p < j → j ≤ l.length → M2 r j = M r (j - 1)) → (∀ i x, p ≤ i → l[i]? = some x → w < x) → sm_wp tb_T X tb_ok d lw 63 2 [some (.ref r), some (.int (nI l.length)), some (.int (nI w)), some (.int (nI p))] [] (wSH, M2, J, rc, rs) (fun o h' => ∃ v M1, o = .inl v ∧ h' = (wSH, M1, J, rc, rs) ∧ v = none ∧ row (M1 r) (insK id w l) ∧ (∀ j, l.length < j → M1 r j = M r j) ∧ ∀ a, a ≠ r → M1 a = M a) := by
    intro p
    induction p with
    | zero =>
      intro M2 hp hfr h1 h2 h3
      refine go_il3 hf_63 rfl rfl ?_
      refine go_if_le hf_63 rfl rfl rfl (fun h3b => ?_) (fun h3b => absurd (Int32.le_refl 0) h3b)
      refine go_al0 hf_63 rfl rfl ?_
      refine go_il3 hf_63 rfl rfl ?_
      refine go_il2 hf_63 rfl rfl ?_
      refine go_iast hf_63 rfl rfl hr (by first | rfl | assumption) (by first | exact rfl | assumption) (by omega) ?_
      refine go_ret0 hf_63 rfl nl_63 ?_
      refine ⟨_, _, rfl, rfl, rfl, ?_, fun j hj => ?_, fun a ha => ?_⟩
      · rw [insK_at l _ hp h3 (fun z hz0 hy => absurd hz0 (Nat.lt_irrefl 0))]
        exact row_ins hl hp hw9 (fun j hj => by rw [up_i (by omega)]; exact h1 j (Or.inl hj)) up_s (fun j hj hj2 => by rw [up_i (by omega)]; exact h2 j hj hj2)
      · rw [up_i (by omega)]
        exact h1 j (Or.inr hj)
      · unfold sm_up
        rw [if_neg ha]
        exact hfr a ha
    | succ p ih =>
      intro M2 hp hfr h1 h2 h3
      obtain ⟨x, hx⟩ := l_at (l := l) (i := p) (by omega)
      obtain ⟨hxm, hx2⟩ := hl p x hx
      have hxm2 : M2 r (p + 1 - 1) = nI x := by rw [h1 _ (by omega)]; exact hxm
      refine go_il3 hf_63 rfl rfl ?_
      refine go_if_le hf_63 rfl rfl rfl (fun h3b => absurd h3b (nI_nle (by omega) (by omega))) (fun h3b => ?_)
      refine go_al0 hf_63 rfl rfl ?_
      refine go_il3 hf_63 rfl rfl ?_
      refine go_iconst hf_63 rfl rfl ci_1 ?_
      refine go_isub hf_63 rfl rfl (subn (by omega)) ?_
      refine go_iald hf_63 rfl rfl (by first | assumption | rfl) (by first | rfl | assumption) (by first | exact rfl | assumption) (by omega) (by first | assumption | ((repeat rewrite [up_k]) <;> first | assumption | decide | omega) | exact rfl) ?_
      refine go_il2 hf_63 rfl rfl ?_
      first | refine go_nn_le hf_63 rfl rfl rfl (by omega) (by omega) (fun h12 => ?_) (fun h12 => ?_) | refine go_ic_le hf_63 rfl rfl rfl (fun h12 => ?_) (fun h12 => ?_)
      · refine go_al0 hf_63 rfl rfl ?_
        refine go_il3 hf_63 rfl rfl ?_
        refine go_il2 hf_63 rfl rfl ?_
        refine go_iast hf_63 rfl rfl (by first | assumption | rfl) (by first | rfl | assumption) (by first | exact rfl | assumption) (by omega) ?_
        refine go_ret0 hf_63 rfl nl_63 ?_
        refine ⟨_, _, rfl, rfl, rfl, ?_, fun j hj => ?_, fun a ha => ?_⟩
        · rw [insK_at l _ hp h3 (fun z hz0 hy => by rw [show p + 1 - 1 = p from rfl, hx] at hy; cases hy; show ¬ w < x; omega)]
          exact row_ins hl hp hw9 (fun j hj => by rw [up_i (by omega)]; exact h1 j (Or.inl hj)) up_s (fun j hj hj2 => by rw [up_i (by omega)]; exact h2 j hj hj2)
        · rw [up_i (by omega)]
          exact h1 j (Or.inr hj)
        · unfold sm_up
          rw [if_neg ha]
          exact hfr a ha
      · refine go_al0 hf_63 rfl rfl ?_
        refine go_il3 hf_63 rfl rfl ?_
        refine go_al0 hf_63 rfl rfl ?_
        refine go_il3 hf_63 rfl rfl ?_
        refine go_iconst hf_63 rfl rfl ci_1 ?_
        refine go_isub hf_63 rfl rfl (subn (by omega)) ?_
        refine go_iald hf_63 rfl rfl (by first | assumption | rfl) (by first | rfl | assumption) (by first | exact rfl | assumption) (by omega) (by first | assumption | ((repeat rewrite [up_k]) <;> first | assumption | decide | omega) | exact rfl) ?_
        refine go_iast hf_63 rfl rfl (by first | assumption | rfl) (by first | rfl | assumption) (by first | exact rfl | assumption) (by omega) ?_
        refine go_ic3 hf_63 rfl rfl (by first | exact dec1 (by omega) | exact rfl) ?_
        refine go_goto hf_63 rfl rfl ?_
        refine ih _ (by omega) (fun a ha => ?_) (fun j hj => ?_) (fun j hj hj2 => ?_) (fun i z hi hz => ?_)
        · unfold sm_up
          rw [if_neg ha]
          exact hfr a ha
        · rw [up_i (by omega)]
          exact h1 j (by omega)
        · by_cases hj3 : j = p + 1
          · subst hj3
            rw [up_s]
            exact hxm.symm
          · rw [up_i (by omega)]
            exact h2 j (by omega) hj2
        · by_cases hi2 : i = p
          · subst hi2
            rw [hx] at hz
            cases hz
            omega
          · exact h3 i z (by omega) hz
  refine go_il1 hf_63 rfl rfl ?_
  refine go_is3 hf_63 rfl rfl ?_
  exact loop l.length M (Nat.le_refl _) (fun _ _ => rfl) (fun _ _ => rfl) (fun j h1 h2 => absurd h1 (by omega)) (fun i x hi hx => absurd (l_lt hx) (by omega))
theorem c_insert {M : sm_M} {q w : Nat} {l : List Nat} (hs : stq q) (hl : es M q l) (hl9 : l.length < 12) (hw9 : w < 32768) : cr 62 1 23 [.ref q, .int (nI w)] M (fun v M1 => v = none ∧ es M1 q (insK id w l) ∧ (∀ a j, ¬ (a = q ∧ j = 5) → a ≠ q + 2 → M1 a j = M a j)) := by
  intro X J rc rs d lw hd hw
  show sm_wp tb_T X tb_ok d lw 62 0 [some (.ref q), some (.int (nI w))] [] _ _
  obtain ⟨hq, hv, he, hm⟩ := hs
  obtain ⟨hsz, hl12, hr⟩ := hl
  refine go_al0 hf_62 rfl rfl ?_
  refine go_get hf_62 ho_62 rfl fl_5_31 rfl (by first | assumption | rfl) rfl (by first | assumption | ((repeat rewrite [up_k]) <;> first | assumption | decide | omega) | exact rfl) ?_
  refine go_bipush hf_62 rfl rfl cb_12 ?_
  first | refine go_nn_ge hf_62 rfl rfl rfl (by omega) (by omega) (fun h6 => absurd h6 (by omega)) (fun h6 => ?_) | refine go_ic_ge hf_62 rfl rfl rfl (fun h6 => absurd h6 (by omega)) (fun h6 => ?_)
  refine go_al0 hf_62 rfl rfl ?_
  refine go_getr hf_62 ho_62 rfl fl_5_15 rfl (by first | assumption | rfl) rfl ?_
  refine go_al0 hf_62 rfl rfl ?_
  refine go_get hf_62 ho_62 rfl fl_5_31 rfl (by first | assumption | rfl) rfl (by first | assumption | ((repeat rewrite [up_k]) <;> first | assumption | decide | omega) | exact rfl) ?_
  refine go_il1 hf_62 rfl rfl ?_
  refine go_call hf_62 rfl rfl (inv_s ho_62 cl_5_43) (by decide) nl_63 rfl rfl rfl rfl rfl rfl rfl rfl rfl (by omega) (by omega) (c_insIO he rfl hr hl9 (by omega) hw9) ?_
  rintro v9 M9 ⟨rfl, i1, i2, i3⟩
  have hsz9 : M9 q 5 = nI l.length := by rw [i3 q (by omega)]; exact hsz
  refine go_al0 hf_62 rfl rfl ?_
  first | refine go_dup hf_62 rfl rfl ?_ | refine go_dupr hf_62 rfl rfl ?_
  refine go_get hf_62 ho_62 rfl fl_5_31 rfl (by first | assumption | rfl) rfl (by first | assumption | ((repeat rewrite [up_k]) <;> first | assumption | decide | omega) | exact rfl) ?_
  refine go_iconst hf_62 rfl rfl ci_1 ?_
  refine go_iadd hf_62 rfl rfl (by first | exact nI_add _ _ | exact rfl) ?_
  refine go_put hf_62 ho_62 rfl fl_5_31 rfl (by first | assumption | rfl) rfl (Or.inl rfl) ?_
  refine go_ret0 hf_62 rfl nl_62 ?_
  refine ⟨_, _, rfl, rfl, rfl, ⟨by rw [up_s, insK_len], by rw [insK_len]; omega, row_congr i1 (fun j _ => up_k (by omega))⟩, fun a j h1 h2 => ?_⟩
  rw [up_o (by omega), i3 a h2]
theorem c_has {M : sm_M} {q w : Nat} {l : List Nat} (hs : stq q) (hl : es M q l) (hw9 : w < 32768) : cr 66 0 0 [.ref q, .int (nI w)] M (fun v M1 => v = some (.int (bI (w ∈ l))) ∧ M1 = M) := by
  intro X J rc rs d lw hd hw
  show sm_wp tb_T X tb_ok d lw 66 0 [some (.ref q), some (.int (nI w)), none] [] _ _
  obtain ⟨hq, hv, he, hm⟩ := hs
  obtain ⟨hsz, hl12, hr⟩ := hl
  have loop : ∀ (n i : Nat), i + n = l.length → (w ∈ l ↔ w ∈ l.drop i) → sm_wp tb_T X tb_ok d lw 66 2 [some (.ref q), some (.int (nI w)), some (.int (nI i))] [] (wSH, M, J, rc, rs) (fun o h' => ∃ v M1, o = .inl v ∧ h' = (wSH, M1, J, rc, rs) ∧ v = some (.int (bI (w ∈ l))) ∧ M1 = M) := by
    intro n
    induction n with
    | zero =>
      intro i hi hno
      refine go_il2 hf_66 rfl rfl ?_
      refine go_al0 hf_66 rfl rfl ?_
      refine go_get hf_66 ho_66 rfl fl_5_31 rfl (by first | assumption | rfl) rfl (by first | assumption | ((repeat rewrite [up_k]) <;> first | assumption | decide | omega) | exact rfl) ?_
      first | refine go_nn_ge hf_66 rfl rfl rfl (by omega) (by omega) (fun h7 => ?_) (fun h7 => absurd h7 (by omega)) | refine go_ic_ge hf_66 rfl rfl rfl (fun h7 => ?_) (fun h7 => absurd h7 (by omega))
      refine go_iconst hf_66 rfl rfl ci_0 ?_
      refine go_ret2 hf_66 rfl nl_66 (by first | exact Or.inl rfl | exact Or.inr rfl | assumption) ?_
      rw [l_end (by omega)] at hno
      exact ⟨_, _, rfl, rfl, by rw [bI_f (by rw [hno]; simp)], rfl⟩
    | succ n ih =>
      intro i hi hno
      obtain ⟨x, hw1⟩ := l_at (l := l) (i := i) (by omega)
      obtain ⟨hwm, hw2⟩ := hr i x hw1
      refine go_il2 hf_66 rfl rfl ?_
      refine go_al0 hf_66 rfl rfl ?_
      refine go_get hf_66 ho_66 rfl fl_5_31 rfl (by first | assumption | rfl) rfl (by first | assumption | ((repeat rewrite [up_k]) <;> first | assumption | decide | omega) | exact rfl) ?_
      first | refine go_nn_ge hf_66 rfl rfl rfl (by omega) (by omega) (fun h7 => absurd h7 (by omega)) (fun h7 => ?_) | refine go_ic_ge hf_66 rfl rfl rfl (fun h7 => absurd h7 (by omega)) (fun h7 => ?_)
      refine go_al0 hf_66 rfl rfl ?_
      refine go_getr hf_66 ho_66 rfl fl_5_15 rfl (by first | assumption | rfl) rfl ?_
      refine go_il2 hf_66 rfl rfl ?_
      refine go_iald hf_66 rfl rfl (by first | assumption | rfl) (by first | rfl | assumption) (by first | exact rfl | assumption) (by omega) (by first | assumption | ((repeat rewrite [up_k]) <;> first | assumption | decide | omega) | exact rfl) ?_
      refine go_il1 hf_66 rfl rfl ?_
      first | refine go_nn_ne hf_66 rfl rfl rfl (by omega) (by omega) (fun h17 => ?_) (fun h17 => ?_) | refine go_ic_ne hf_66 rfl rfl rfl (fun h17 => ?_) (fun h17 => ?_)
      · refine go_ic2 hf_66 rfl rfl (by first | exact inc1 _ | exact rfl) ?_
        refine go_goto hf_66 rfl rfl ?_
        refine ih (i + 1) (by omega) ?_
        rw [hno, l_drop hw1, List.mem_cons]
        exact ⟨fun h => h.resolve_left (fun e => h17 e.symm), Or.inr⟩
      · refine go_iconst hf_66 rfl rfl ci_1 ?_
        refine go_ret2 hf_66 rfl nl_66 (by first | exact Or.inl rfl | exact Or.inr rfl | assumption) ?_
        exact ⟨_, _, rfl, rfl, by rw [bI_t (List.mem_of_getElem? (h17 ▸ hw1))], rfl⟩
  refine go_iconst hf_66 rfl rfl ci_0 ?_
  refine go_is2 hf_66 rfl rfl ?_
  exact loop l.length 0 (by omega) Iff.rfl
/-- the dot of an entry is known to a vector -/
def kn (g : Nat → Int32) (w : Nat) : Prop := w / 2048 % 4 < 3 ∧ nI (w / 64 % 32) ≤ g (w / 2048 % 4)
theorem c_knowsDot {M : sm_M} {q w : Nat} (hs : stq q) (hw9 : w < 32768) : cr 61 1 21 [.ref q, .int (nI w)] M (fun v M1 => v = some (.int (bI (kn (M (q + 1)) w))) ∧ M1 = M) := by
  intro X J rc rs d lw hd hw
  show sm_wp tb_T X tb_ok d lw 61 0 [some (.ref q), some (.int (nI w)), none] [] _ _
  obtain ⟨hq, hv, he, hm⟩ := hs
  refine go_il1 hf_61 rfl rfl ?_
  refine go_call hf_61 rfl rfl (inv_s ho_61 cl_5_47) (by decide) nl_127 rfl rfl rfl rfl rfl rfl rfl rfl rfl (by omega) (by omega) (c_deviceOf hw9) ?_
  intro v9 M9 h9
  rewrite [h9.1, h9.2]
  clear h9 v9 M9
  refine go_is2 hf_61 rfl rfl ?_
  refine go_il2 hf_61 rfl rfl ?_
  refine go_iconst hf_61 rfl rfl ci_3 ?_
  refine go_call hf_61 rfl rfl (inv_s ho_61 cl_5_50) (by decide) nl_2 rfl rfl rfl rfl rfl rfl rfl rfl rfl (by omega) (by omega) (c_isBelow) ?_
  intro v9 M9 h9
  rewrite [h9.1, h9.2]
  clear h9 v9 M9
  refine go_if_eq hf_61 rfl rfl rfl (fun h10 => ?_) (fun h10 => ?_)
  · refine go_iconst hf_61 rfl rfl ci_0 ?_
    refine go_ret2 hf_61 rfl nl_61 (by first | exact Or.inl rfl | exact Or.inr rfl | assumption) ?_
    refine ⟨_, _, rfl, rfl, ?_, rfl⟩
    rw [bI_f (fun g => bI_0.mp h10 ⟨nI_pos (by omega), (nI_ltI (by omega) (by omega)).mpr g.1⟩)]
  · have h10 := (nI_ltI (by omega) (by omega)).mp (bI_n0.mp h10).2
    refine go_al0 hf_61 rfl rfl ?_
    refine go_getr hf_61 ho_61 rfl fl_5_9 rfl (by first | assumption | rfl) rfl ?_
    refine go_il2 hf_61 rfl rfl ?_
    refine go_iald hf_61 rfl rfl (by first | assumption | rfl) (by first | rfl | assumption) (by first | exact rfl | assumption) (by omega) rfl ?_
    refine go_il1 hf_61 rfl rfl ?_
    refine go_call hf_61 rfl rfl (inv_s ho_61 cl_5_54) (by decide) nl_126 rfl rfl rfl rfl rfl rfl rfl rfl rfl (by omega) (by omega) (c_countOf hw9) ?_
    intro v9 M9 h9
    rewrite [h9.1, h9.2]
    clear h9 v9 M9
    refine go_ic_lt hf_61 rfl rfl rfl (fun h23 => ?_) (fun h23 => ?_)
    · refine go_iconst hf_61 rfl rfl ci_0 ?_
      refine go_ret2 hf_61 rfl nl_61 (by first | exact Or.inl rfl | exact Or.inr rfl | assumption) ?_
      refine ⟨_, _, rfl, rfl, ?_, rfl⟩
      rw [bI_f (fun g => i32_nle.mpr h23 g.2)]
    · refine go_iconst hf_61 rfl rfl ci_1 ?_
      refine go_goto hf_61 rfl rfl ?_
      refine go_ret2 hf_61 rfl nl_61 (by first | exact Or.inl rfl | exact Or.inr rfl | assumption) ?_
      refine ⟨_, _, rfl, rfl, ?_, rfl⟩
      rw [bI_t ⟨h10, i32_nlt.mp h23⟩]
def mf (g : Nat → Int32) (l : List Nat) (w : Nat) : Prop := 1 ≤ w / 64 % 32 ∧ kn g w ∧ l.length < 12 ∧ ∀ x ∈ l, ¬ w < x ∧ ¬ x / 64 % 128 = w / 64 % 128
theorem c_mayFollow {M : sm_M} {q w : Nat} {l : List Nat} (hs : stq q) (hl : es M q l) (hw9 : w < 32768) : cr 60 2 43 [.ref q, .int (nI w)] M (fun v M1 => v = some (.int (bI (mf (M (q + 1)) l w))) ∧ M1 = M) := by
  intro X J rc rs d lw hd hw
  show sm_wp tb_T X tb_ok d lw 60 0 [some (.ref q), some (.int (nI w)), none] [] _ _
  have hs0 := hs
  obtain ⟨hq, hv, he, hm⟩ := hs
  obtain ⟨hsz, hl12, hr⟩ := hl
  have loop : 1 ≤ w / 64 % 32 → kn (M (q + 1)) w → l.length < 12 → ∀ (n i : Nat), i + n = l.length → (∀ x ∈ l.take i, ¬ w < x ∧ ¬ x / 64 % 128 = w / 64 % 128) → sm_wp tb_T X tb_ok d lw 60 29 [some (.ref q), some (.int (nI w)), some (.int (nI i))] [] (wSH, M, J, rc, rs) (fun o h' => ∃ v M1, o = .inl v ∧ h' = (wSH, M1, J, rc, rs) ∧ v = some (.int (bI (mf (M (q + 1)) l w))) ∧ M1 = M) := by
    intro k1 k2 k3 n
    induction n with
    | zero =>
      intro i hi hno
      refine go_il2 hf_60 rfl rfl ?_
      refine go_al0 hf_60 rfl rfl ?_
      refine go_get hf_60 ho_60 rfl fl_5_31 rfl (by first | assumption | rfl) rfl (by first | assumption | ((repeat rewrite [up_k]) <;> first | assumption | decide | omega) | exact rfl) ?_
      first | refine go_nn_ge hf_60 rfl rfl rfl (by omega) (by omega) (fun h34 => ?_) (fun h34 => absurd h34 (by omega)) | refine go_ic_ge hf_60 rfl rfl rfl (fun h34 => ?_) (fun h34 => absurd h34 (by omega))
      refine go_iconst hf_60 rfl rfl ci_1 ?_
      refine go_ret2 hf_60 rfl nl_60 (by first | exact Or.inl rfl | exact Or.inr rfl | assumption) ?_
      rw [List.take_of_length_le (by omega)] at hno
      exact ⟨_, _, rfl, rfl, by rw [bI_t ⟨k1, k2, k3, hno⟩], rfl⟩
    | succ n ih =>
      intro i hi hno
      obtain ⟨x, hw1⟩ := l_at (l := l) (i := i) (by omega)
      obtain ⟨hwm, hw2⟩ := hr i x hw1
      refine go_il2 hf_60 rfl rfl ?_
      refine go_al0 hf_60 rfl rfl ?_
      refine go_get hf_60 ho_60 rfl fl_5_31 rfl (by first | assumption | rfl) rfl (by first | assumption | ((repeat rewrite [up_k]) <;> first | assumption | decide | omega) | exact rfl) ?_
      first | refine go_nn_ge hf_60 rfl rfl rfl (by omega) (by omega) (fun h34 => absurd h34 (by omega)) (fun h34 => ?_) | refine go_ic_ge hf_60 rfl rfl rfl (fun h34 => absurd h34 (by omega)) (fun h34 => ?_)
      refine go_al0 hf_60 rfl rfl ?_
      refine go_getr hf_60 ho_60 rfl fl_5_15 rfl (by first | assumption | rfl) rfl ?_
      refine go_il2 hf_60 rfl rfl ?_
      refine go_iald hf_60 rfl rfl (by first | assumption | rfl) (by first | rfl | assumption) (by first | exact rfl | assumption) (by omega) (by first | assumption | ((repeat rewrite [up_k]) <;> first | assumption | decide | omega) | exact rfl) ?_
      refine go_il1 hf_60 rfl rfl ?_
      first | refine go_nn_gt hf_60 rfl rfl rfl (by omega) (by omega) (fun h44 => ?_) (fun h44 => ?_) | refine go_ic_gt hf_60 rfl rfl rfl (fun h44 => ?_) (fun h44 => ?_)
      · refine go_iconst hf_60 rfl rfl ci_0 ?_
        refine go_ret2 hf_60 rfl nl_60 (by first | exact Or.inl rfl | exact Or.inr rfl | assumption) ?_
        exact ⟨_, _, rfl, rfl, by rw [bI_f (fun g => (g.2.2.2 x (List.mem_of_getElem? hw1)).1 h44)], rfl⟩
      · refine go_al0 hf_60 rfl rfl ?_
        refine go_getr hf_60 ho_60 rfl fl_5_15 rfl (by first | assumption | rfl) rfl ?_
        refine go_il2 hf_60 rfl rfl ?_
        refine go_iald hf_60 rfl rfl (by first | assumption | rfl) (by first | rfl | assumption) (by first | exact rfl | assumption) (by omega) (by first | assumption | ((repeat rewrite [up_k]) <;> first | assumption | decide | omega) | exact rfl) ?_
        refine go_call hf_60 rfl rfl (inv_s ho_60 cl_5_87) (by decide) nl_128 rfl rfl rfl rfl rfl rfl rfl rfl rfl (by omega) (by omega) (c_dotOf hw2) ?_
        intro v9 M9 h9
        rewrite [h9.1, h9.2]
        clear h9 v9 M9
        refine go_il1 hf_60 rfl rfl ?_
        refine go_call hf_60 rfl rfl (inv_s ho_60 cl_5_87) (by decide) nl_128 rfl rfl rfl rfl rfl rfl rfl rfl rfl (by omega) (by omega) (c_dotOf hw9) ?_
        intro v9 M9 h9
        rewrite [h9.1, h9.2]
        clear h9 v9 M9
        first | refine go_nn_ne hf_60 rfl rfl rfl (by omega) (by omega) (fun h60 => ?_) (fun h60 => ?_) | refine go_ic_ne hf_60 rfl rfl rfl (fun h60 => ?_) (fun h60 => ?_)
        · refine go_ic2 hf_60 rfl rfl (by first | exact inc1 _ | exact rfl) ?_
          refine go_goto hf_60 rfl rfl ?_
          refine ih (i + 1) (by omega) (fun y hy => ?_)
          rw [l_take hw1, List.mem_append, List.mem_singleton] at hy
          rcases hy with hy | rfl
          · exact hno y hy
          · exact ⟨by omega, h60⟩
        · refine go_iconst hf_60 rfl rfl ci_0 ?_
          refine go_ret2 hf_60 rfl nl_60 (by first | exact Or.inl rfl | exact Or.inr rfl | assumption) ?_
          exact ⟨_, _, rfl, rfl, by rw [bI_f (fun g => (g.2.2.2 x (List.mem_of_getElem? hw1)).2 h60)], rfl⟩
  refine go_il1 hf_60 rfl rfl ?_
  refine go_call hf_60 rfl rfl (inv_s ho_60 cl_5_54) (by decide) nl_126 rfl rfl rfl rfl rfl rfl rfl rfl rfl (by omega) (by omega) (c_countOf hw9) ?_
  intro v9 M9 h9
  rewrite [h9.1, h9.2]
  clear h9 v9 M9
  refine go_iconst hf_60 rfl rfl ci_1 ?_
  first | refine go_nn_lt hf_60 rfl rfl rfl (by omega) (by omega) (fun h5 => ?_) (fun h5 => ?_) | refine go_ic_lt hf_60 rfl rfl rfl (fun h5 => ?_) (fun h5 => ?_)
  · refine go_iconst hf_60 rfl rfl ci_0 ?_
    refine go_ret2 hf_60 rfl nl_60 (by first | exact Or.inl rfl | exact Or.inr rfl | assumption) ?_
    exact ⟨_, _, rfl, rfl, by rw [bI_f (fun g => absurd g.1 (by omega))], rfl⟩
  · refine go_al0 hf_60 rfl rfl ?_
    refine go_il1 hf_60 rfl rfl ?_
    refine go_call hf_60 rfl rfl (inv_v ho_60 cl_5_61) (by decide) nl_61 rfl rfl rfl rfl rfl (by first | rfl | exact rcv_of (by assumption)) rfl rfl rfl (by omega) (by omega) (c_knowsDot hs0 hw9) ?_
    intro v9 M9 h9
    rewrite [h9.1, h9.2]
    clear h9 v9 M9
    refine go_if_eq hf_60 rfl rfl rfl (fun h13 => ?_) (fun h13 => ?_)
    · refine go_iconst hf_60 rfl rfl ci_0 ?_
      refine go_ret2 hf_60 rfl nl_60 (by first | exact Or.inl rfl | exact Or.inr rfl | assumption) ?_
      exact ⟨_, _, rfl, rfl, by rw [bI_f (fun g => bI_0.mp h13 g.2.1)], rfl⟩
    · refine go_al0 hf_60 rfl rfl ?_
      refine go_get hf_60 ho_60 rfl fl_5_31 rfl (by first | assumption | rfl) rfl (by first | assumption | ((repeat rewrite [up_k]) <;> first | assumption | decide | omega) | exact rfl) ?_
      refine go_bipush hf_60 rfl rfl cb_12 ?_
      first | refine go_nn_lt hf_60 rfl rfl rfl (by omega) (by omega) (fun h22 => ?_) (fun h22 => ?_) | refine go_ic_lt hf_60 rfl rfl rfl (fun h22 => ?_) (fun h22 => ?_)
      · refine go_iconst hf_60 rfl rfl ci_0 ?_
        refine go_is2 hf_60 rfl rfl ?_
        exact loop (by omega) (bI_n0.mp h13) h22 l.length 0 (by omega) (fun x hx => by cases hx)
      · refine go_iconst hf_60 rfl rfl ci_0 ?_
        refine go_ret2 hf_60 rfl nl_60 (by first | exact Or.inl rfl | exact Or.inr rfl | assumption) ?_
        exact ⟨_, _, rfl, rfl, by rw [bI_f (fun g => h22 g.2.2.1)], rfl⟩
theorem c_isAbove {M : sm_M} {q r : Nat} (hs : stq q) (hr : wSH[r]? = some (.inr (.inl (0, 3)))) : cr 64 0 0 [.ref q, .ref r] M (fun v M1 => v = some (.int (bI (∀ j, j < 3 → M r j ≤ M (q + 1) j))) ∧ M1 = M) := by
  intro X J rc rs d lw hd hw
  show sm_wp tb_T X tb_ok d lw 64 0 [some (.ref q), some (.ref r), none] [] _ _
  obtain ⟨hq, hv, he, hm⟩ := hs
  have loop : ∀ (n i : Nat), i + n = 3 → (∀ j, j < i → M r j ≤ M (q + 1) j) → sm_wp tb_T X tb_ok d lw 64 2 [some (.ref q), some (.ref r), some (.int (nI i))] [] (wSH, M, J, rc, rs) (fun o h' => ∃ v M1, o = .inl v ∧ h' = (wSH, M1, J, rc, rs) ∧ v = some (.int (bI (∀ j, j < 3 → M r j ≤ M (q + 1) j))) ∧ M1 = M) := by
    intro n
    induction n with
    | zero =>
      intro i hi hno
      refine go_il2 hf_64 rfl rfl ?_
      refine go_iconst hf_64 rfl rfl ci_3 ?_
      first | refine go_nn_ge hf_64 rfl rfl rfl (by omega) (by omega) (fun h4 => ?_) (fun h4 => absurd h4 (by omega)) | refine go_ic_ge hf_64 rfl rfl rfl (fun h4 => ?_) (fun h4 => absurd h4 (by omega))
      refine go_iconst hf_64 rfl rfl ci_1 ?_
      refine go_ret2 hf_64 rfl nl_64 (by first | exact Or.inl rfl | exact Or.inr rfl | assumption) ?_
      exact ⟨_, _, rfl, rfl, by rw [bI_t (fun j hj => hno j (by omega))], rfl⟩
    | succ n ih =>
      intro i hi hno
      refine go_il2 hf_64 rfl rfl ?_
      refine go_iconst hf_64 rfl rfl ci_3 ?_
      first | refine go_nn_ge hf_64 rfl rfl rfl (by omega) (by omega) (fun h4 => absurd h4 (by omega)) (fun h4 => ?_) | refine go_ic_ge hf_64 rfl rfl rfl (fun h4 => absurd h4 (by omega)) (fun h4 => ?_)
      refine go_al0 hf_64 rfl rfl ?_
      refine go_getr hf_64 ho_64 rfl fl_5_9 rfl (by first | assumption | rfl) rfl ?_
      refine go_il2 hf_64 rfl rfl ?_
      refine go_iald hf_64 rfl rfl (by first | assumption | rfl) (by first | rfl | assumption) (by first | exact rfl | assumption) (by omega) rfl ?_
      refine go_al1 hf_64 rfl rfl ?_
      refine go_il2 hf_64 rfl rfl ?_
      refine go_iald hf_64 rfl rfl (by first | assumption | rfl) (by first | rfl | assumption) (by first | exact rfl | assumption) (by omega) rfl ?_
      refine go_ic_ge hf_64 rfl rfl rfl (fun h16 => ?_) (fun h16 => ?_)
      · refine go_ic2 hf_64 rfl rfl (by first | exact inc1 _ | exact rfl) ?_
        refine go_goto hf_64 rfl rfl ?_
        refine ih (i + 1) (by omega) (fun j hj => ?_)
        by_cases hj2 : j = i
        · subst hj2; exact h16
        · exact hno j (by omega)
      · refine go_iconst hf_64 rfl rfl ci_0 ?_
        refine go_ret2 hf_64 rfl nl_64 (by first | exact Or.inl rfl | exact Or.inr rfl | assumption) ?_
        exact ⟨_, _, rfl, rfl, by rw [bI_f (fun g => h16 (g i (by omega)))], rfl⟩
  refine go_iconst hf_64 rfl rfl ci_0 ?_
  refine go_is2 hf_64 rfl rfl ?_
  exact loop 3 0 (by omega) (fun j hj => absurd hj (Nat.not_lt_zero j))
def mxI (a b : Int32) : Int32 := if a < b then b else a
theorem c_mergeVector {M : sm_M} {q q2 : Nat} (hs : stq q) (hs2 : stq q2) (hqq : q ≠ q2) : cr 67 1 100 [.ref q, .ref q2] M (fun v M1 => v = none ∧ (∀ j, j < 3 → M1 (q + 1) j = mxI (M (q + 1) j) (M (q2 + 1) j)) ∧ (∀ a, a ≠ q + 1 → M1 a = M a)) := by
  intro X J rc rs d lw hd hw
  show sm_wp tb_T X tb_ok d lw 67 0 [some (.ref q), some (.ref q2), none] [] _ _
  obtain ⟨hq, hv, he, hm⟩ := hs
  obtain ⟨hq', hv', he', hm'⟩ := hs2
  have loop : ∀ (n i : Nat) (M2 : sm_M), i + n = 3 → (∀ j, j < i → M2 (q + 1) j = mxI (M (q + 1) j) (M (q2 + 1) j)) → (∀ j, i ≤ j → M2 (q + 1) j = M (q + 1) j) → (∀ a, a ≠ q + 1 → M2 a = M a) → sm_wp tb_T X tb_ok d lw 67 2 [some (.ref q), some (.ref q2), some (.int (nI i))] [] (wSH, M2, J, rc, rs) (fun o h' => ∃ v M1, o = .inl v ∧ h' = (wSH, M1, J, rc, rs) ∧ v = none ∧ (∀ j, j < 3 → M1 (q + 1) j = mxI (M (q + 1) j) (M (q2 + 1) j)) ∧ (∀ a, a ≠ q + 1 → M1 a = M a)) := by
    intro n
    induction n with
    | zero =>
      intro i M2 hi h1 h2 h3
      refine go_il2 hf_67 rfl rfl ?_
      refine go_iconst hf_67 rfl rfl ci_3 ?_
      first | refine go_nn_ge hf_67 rfl rfl rfl (by omega) (by omega) (fun h4 => ?_) (fun h4 => absurd h4 (by omega)) | refine go_ic_ge hf_67 rfl rfl rfl (fun h4 => ?_) (fun h4 => absurd h4 (by omega))
      refine go_ret0 hf_67 rfl nl_67 ?_
      exact ⟨_, _, rfl, rfl, rfl, fun j hj => h1 j (by omega), h3⟩
    | succ n ih =>
      intro i M2 hi h1 h2 h3
      have e1 : M2 (q + 1) i = M (q + 1) i := h2 i (Nat.le_refl i)
      have e2 : M2 (q2 + 1) i = M (q2 + 1) i := by rw [h3 _ (by omega)]
      refine go_il2 hf_67 rfl rfl ?_
      refine go_iconst hf_67 rfl rfl ci_3 ?_
      first | refine go_nn_ge hf_67 rfl rfl rfl (by omega) (by omega) (fun h4 => absurd h4 (by omega)) (fun h4 => ?_) | refine go_ic_ge hf_67 rfl rfl rfl (fun h4 => absurd h4 (by omega)) (fun h4 => ?_)
      refine go_al0 hf_67 rfl rfl ?_
      refine go_getr hf_67 ho_67 rfl fl_5_9 rfl (by first | assumption | rfl) rfl ?_
      refine go_il2 hf_67 rfl rfl ?_
      refine go_al0 hf_67 rfl rfl ?_
      refine go_getr hf_67 ho_67 rfl fl_5_9 rfl (by first | assumption | rfl) rfl ?_
      refine go_il2 hf_67 rfl rfl ?_
      refine go_iald hf_67 rfl rfl (by first | assumption | rfl) (by first | rfl | assumption) (by first | exact rfl | assumption) (by omega) (by first | assumption | ((repeat rewrite [up_k]) <;> first | assumption | decide | omega) | exact rfl) ?_
      refine go_al1 hf_67 rfl rfl ?_
      refine go_getr hf_67 ho_67 rfl fl_5_9 rfl (by first | assumption | rfl) rfl ?_
      refine go_il2 hf_67 rfl rfl ?_
      refine go_iald hf_67 rfl rfl (by first | assumption | rfl) (by first | rfl | assumption) (by first | exact rfl | assumption) (by omega) (by first | assumption | ((repeat rewrite [up_k]) <;> first | assumption | decide | omega) | exact rfl) ?_
      refine go_max hf_67 ho_67 rfl cl_5_77 rfl rfl (by omega) (by omega) ?_
      refine go_iast hf_67 rfl rfl (by first | assumption | rfl) (by first | rfl | assumption) (by first | exact rfl | assumption) (by omega) ?_
      refine go_ic2 hf_67 rfl rfl (by first | exact inc1 _ | exact rfl) ?_
      refine go_goto hf_67 rfl rfl ?_
      refine ih (i + 1) _ (by omega) (fun j hj => ?_) (fun j hj => ?_) (fun a ha => ?_)
      · by_cases hj2 : j = i
        · subst hj2; rw [up_s]; rfl
        · rw [up_i (by omega)]; exact h1 j (by omega)
      · rw [up_i (by omega)]; exact h2 j (by omega)
      · unfold sm_up; rw [if_neg ha]; exact h3 a ha
  refine go_iconst hf_67 rfl rfl ci_0 ?_
  refine go_is2 hf_67 rfl rfl ?_
  exact loop 3 0 M (by omega) (fun j hj => absurd hj (Nat.not_lt_zero j)) (fun _ _ => rfl) (fun _ _ => rfl)
def nwr (M : sm_M) (q q2 : Nat) : Prop := M q 0 < M q2 0 ∨ M q2 0 = M q 0 ∧ M q2 1 < M q 1
theorem c_mergeHeader {M : sm_M} {q q2 : Nat} (hs : stq q) (hs2 : stq q2) : cr 68 1 23 [.ref q, .ref q2] M (fun v M1 => v = none ∧ (nwr M q q2 ∧ M1 = sm_up (sm_up (sm_up M q 0 (M q2 0)) q 1 (M q2 1)) q 2 (M q2 2) ∨ ¬ (nwr M q q2) ∧ M1 = M)) := by
  intro X J rc rs d lw hd hw
  show sm_wp tb_T X tb_ok d lw 68 0 [some (.ref q), some (.ref q2), none] [] _ _
  have hs0 := hs
  obtain ⟨hq, hv, he, hm⟩ := hs
  obtain ⟨hq', hv', he', hm'⟩ := hs2
  refine go_al1 hf_68 rfl rfl ?_
  refine go_get hf_68 ho_68 rfl fl_5_21 rfl (by first | assumption | rfl) rfl rfl ?_
  refine go_al0 hf_68 rfl rfl ?_
  refine go_get hf_68 ho_68 rfl fl_5_21 rfl (by first | assumption | rfl) rfl rfl ?_
  refine go_ic_le hf_68 rfl rfl rfl (fun h8 => ?_) (fun h8 => ?_)
  · refine go_iconst hf_68 rfl rfl ci_0 ?_
    refine go_is2 hf_68 rfl rfl ?_
    refine go_il2 hf_68 rfl rfl ?_
    refine go_if_ne hf_68 rfl rfl rfl (fun h18 => absurd rfl h18) (fun h18 => ?_)
    refine go_al1 hf_68 rfl rfl ?_
    refine go_get hf_68 ho_68 rfl fl_5_21 rfl (by first | assumption | rfl) rfl rfl ?_
    refine go_al0 hf_68 rfl rfl ?_
    refine go_get hf_68 ho_68 rfl fl_5_21 rfl (by first | assumption | rfl) rfl rfl ?_
    refine go_ic_ne hf_68 rfl rfl rfl (fun h29 => ?_) (fun h29 => ?_)
    · refine go_ret0 hf_68 rfl nl_68 ?_
      exact ⟨_, _, rfl, rfl, rfl, Or.inr ⟨fun g => g.elim (fun g => i32_nlt.mpr h8 g) (fun g => h29 g.1), rfl⟩⟩
    · refine go_al1 hf_68 rfl rfl ?_
      refine go_get hf_68 ho_68 rfl fl_5_25 rfl (by first | assumption | rfl) rfl rfl ?_
      refine go_al0 hf_68 rfl rfl ?_
      refine go_get hf_68 ho_68 rfl fl_5_25 rfl (by first | assumption | rfl) rfl rfl ?_
      refine go_ic_ge hf_68 rfl rfl rfl (fun h40 => ?_) (fun h40 => ?_)
      · refine go_ret0 hf_68 rfl nl_68 ?_
        exact ⟨_, _, rfl, rfl, rfl, Or.inr ⟨fun g => g.elim (fun g => i32_nlt.mpr h8 g) (fun g => i32_nlt.mpr h40 g.2), rfl⟩⟩
      · refine go_al0 hf_68 rfl rfl ?_
        refine go_al1 hf_68 rfl rfl ?_
        refine go_get hf_68 ho_68 rfl fl_5_21 rfl (by first | assumption | rfl) rfl rfl ?_
        refine go_al1 hf_68 rfl rfl ?_
        refine go_get hf_68 ho_68 rfl fl_5_25 rfl (by first | assumption | rfl) rfl rfl ?_
        refine go_al1 hf_68 rfl rfl ?_
        refine go_get hf_68 ho_68 rfl fl_5_28 rfl (by first | assumption | rfl) rfl rfl ?_
        refine go_call hf_68 rfl rfl (inv_v ho_68 cl_5_83) (by decide) nl_59 rfl rfl rfl rfl rfl (by first | rfl | exact rcv_of (by assumption)) rfl rfl rfl (by omega) (by omega) (c_takeHeader hs0) ?_
        intro v9 M9 h9
        rewrite [h9.1, h9.2]
        clear h9 v9 M9
        refine go_ret0 hf_68 rfl nl_68 ?_
        exact ⟨_, _, rfl, rfl, rfl, Or.inl ⟨Or.inr ⟨h29, i32_nle.mp h40⟩, rfl⟩⟩
  · refine go_iconst hf_68 rfl rfl ci_1 ?_
    refine go_goto hf_68 rfl rfl ?_
    refine go_is2 hf_68 rfl rfl ?_
    refine go_il2 hf_68 rfl rfl ?_
    refine go_if_ne hf_68 rfl rfl rfl (fun h18 => ?_) (fun h18 => absurd h18 nI_10)
    refine go_al0 hf_68 rfl rfl ?_
    refine go_al1 hf_68 rfl rfl ?_
    refine go_get hf_68 ho_68 rfl fl_5_21 rfl (by first | assumption | rfl) rfl rfl ?_
    refine go_al1 hf_68 rfl rfl ?_
    refine go_get hf_68 ho_68 rfl fl_5_25 rfl (by first | assumption | rfl) rfl rfl ?_
    refine go_al1 hf_68 rfl rfl ?_
    refine go_get hf_68 ho_68 rfl fl_5_28 rfl (by first | assumption | rfl) rfl rfl ?_
    refine go_call hf_68 rfl rfl (inv_v ho_68 cl_5_83) (by decide) nl_59 rfl rfl rfl rfl rfl (by first | rfl | exact rcv_of (by assumption)) rfl rfl rfl (by omega) (by omega) (c_takeHeader hs0) ?_
    intro v9 M9 h9
    rewrite [h9.1, h9.2]
    clear h9 v9 M9
    refine go_ret0 hf_68 rfl nl_68 ?_
    exact ⟨_, _, rfl, rfl, rfl, Or.inl ⟨Or.inl (i32_nle.mp h8), rfl⟩⟩
/-- those that fit, put into a row one after another -/
noncomputable def mg (f : Nat → Nat) (c : Nat → Prop) : List Nat → List Nat → List Nat
  | [], a => a
  | w :: l, a => mg f c l (@ite _ (c w) (Classical.propDecidable _) (insK f w a) a)
theorem mg_t {f : Nat → Nat} {c : Nat → Prop} {w : Nat} {l a : List Nat} (h : c w) : mg f c (w :: l) a = mg f c l (insK f w a) := by
  show mg f c l _ = _
  rw [if_pos h]
theorem mg_f {f : Nat → Nat} {c : Nat → Prop} {w : Nat} {l a : List Nat} (h : ¬ c w) : mg f c (w :: l) a = mg f c l a := by
  show mg f c l _ = _
  rw [if_neg h]
theorem es_keep {M M2 : sm_M} {q : Nat} {l : List Nat} (h : es M q l) (h1 : M2 q = M q) (h2 : M2 (q + 2) = M (q + 2)) : es M2 q l := by
  unfold es
  rw [h1, h2]
  exact h
theorem mg_fin {M M2 M3 M4 M5 : sm_M} {q : Nat} {A : List Nat} (hqq : q + 3 < 36) (hfr : ∀ a, a ≠ q + 3 → M2 a = M a) (hrow : row (M2 (q + 3)) A) (h12 : A.length ≤ 12) (e3 : M3 = sm_up (sm_uf M2 (q + 2) (va_cpy (M2 (q + 3)) (M2 (q + 2)) 0 0 A.length)) q 5 (nI A.length)) (g1 : ∀ j, j < 3 → M4 (q + 1) j = mxI (M3 (q + 1) j) (M3 (36 + 1) j)) (g2 : ∀ a, a ≠ q + 1 → M4 a = M3 a) (g3 : nwr M4 q 36 ∧ M5 = sm_up (sm_up (sm_up M4 q 0 (M4 36 0)) q 1 (M4 36 1)) q 2 (M4 36 2) ∨ ¬ nwr M4 q 36 ∧ M5 = M4) : es M5 q A ∧ (∀ j, j < 3 → M5 (q + 1) j = mxI (M (q + 1) j) (M 37 j)) ∧ ((nwr M q 36 ∧ ∀ j, j < 3 → M5 q j = M 36 j) ∨ (¬ nwr M q 36 ∧ ∀ j, j < 3 → M5 q j = M q j)) ∧ ∀ a, (a < q ∨ q + 3 < a) → M5 a = M a := by
  have hA : ∀ j, j < A.length → M3 (q + 2) j = M2 (q + 3) j := by
    intro j hj
    rw [e3, up_k (by omega)]
    unfold sm_uf va_cpy
    rw [if_pos rfl, if_pos (by omega)]
    congr 1
    omega
  have hB : ∀ a, a ≠ q → a ≠ q + 2 → a ≠ q + 3 → M3 a = M a := by
    intro a h1 h2 h3
    rw [e3]
    unfold sm_up sm_uf
    rw [if_neg h1, if_neg h2]
    exact hfr a h3
  have hC : ∀ j, j ≠ 5 → M3 q j = M q j := by
    intro j hj
    rw [e3, up_i hj]
    unfold sm_uf
    rw [if_neg (by omega), hfr q (by omega)]
  have hD : M3 q 5 = nI A.length := by rw [e3, up_s]
  have q0 : ∀ j, M4 q j = M3 q j := fun j => by rw [g2 q (by omega)]
  have q36 : M4 36 = M 36 := by rw [g2 36 (by omega), hB 36 (by omega) (by omega) (by omega)]
  have en : nwr M4 q 36 ↔ nwr M q 36 := by
    unfold nwr
    rw [q0, q0, hC 0 (by omega), hC 1 (by omega), q36]
  have k1 : ∀ a, a ≠ q → M5 a = M4 a := by
    intro a ha
    rcases g3 with ⟨-, e⟩ | ⟨-, e⟩
    · rw [e]
      unfold sm_up
      rw [if_neg ha, if_neg ha, if_neg ha]
    · rw [e]
  have k2 : M5 q 5 = M4 q 5 := by
    rcases g3 with ⟨-, e⟩ | ⟨-, e⟩
    · rw [e, up_i (by omega), up_i (by omega), up_i (by omega)]
    · rw [e]
  refine ⟨⟨by rw [k2, q0, hD], h12, ?_⟩, fun j hj => ?_, ?_, fun a ha => ?_⟩
  · refine row_congr hrow (fun j hj => ?_)
    rw [k1 _ (by omega), g2 _ (by omega), hA j hj]
  · rw [k1 _ (by omega), g1 j hj, hB (q + 1) (by omega) (by omega) (by omega), hB 37 (by omega) (by omega) (by omega)]
  · rcases g3 with ⟨n1, e⟩ | ⟨n1, e⟩
    · refine Or.inl ⟨en.mp n1, fun j hj => ?_⟩
      rw [e, q36]
      rcases (by omega : j = 0 ∨ j = 1 ∨ j = 2) with rfl | rfl | rfl <;> simp [sm_up, upd]
    · refine Or.inr ⟨fun g => n1 (en.mpr g), fun j hj => ?_⟩
      rw [e, q0, hC j (by omega)]
  · rw [k1 a (by omega), g2 a (by omega), hB a (by omega) (by omega) (by omega)]
theorem c_merge {M : sm_M} {q : Nat} {l l2 : List Nat} (hs : stq q) (hqq : q + 3 < 36) (hl : es M q l) (hl2 : es M 36 l2) : cr 65 2 122 [.ref q, .ref 36] M (fun v M1 => ((12 < (mg id (fun w => ¬ kn (M (q + 1)) w) l2 (mg id (fun w => w ∈ l2 ∨ ¬ kn (M 37) w) l [])).length ∧ v = some (.int (nI 0)) ∧ ∀ a, a ≠ q + 3 → M1 a = M a) ∨ ((mg id (fun w => ¬ kn (M (q + 1)) w) l2 (mg id (fun w => w ∈ l2 ∨ ¬ kn (M 37) w) l [])).length ≤ 12 ∧ v = some (.int (nI 1)) ∧ es M1 q (mg id (fun w => ¬ kn (M (q + 1)) w) l2 (mg id (fun w => w ∈ l2 ∨ ¬ kn (M 37) w) l [])) ∧ (∀ j, j < 3 → M1 (q + 1) j = mxI (M (q + 1) j) (M 37 j)) ∧ ((nwr M q 36 ∧ ∀ j, j < 3 → M1 q j = M 36 j) ∨ (¬ nwr M q 36 ∧ ∀ j, j < 3 → M1 q j = M q j)) ∧ ∀ a, (a < q ∨ q + 3 < a) → M1 a = M a))) := by
  intro X J rc rs d lw hd hw
  show sm_wp tb_T X tb_ok d lw 65 0 [some (.ref q), some (.ref 36), none, none] [] _ _
  have hs0 := hs
  obtain ⟨hq, hv, he, hm⟩ := hs
  have hl12 := hl.2.1
  have hl212 := hl2.2.1
  have tail : ∀ (M2 : sm_M), (∀ a, a ≠ q + 3 → M2 a = M a) → row (M2 (q + 3)) (mg id (fun w => ¬ kn (M (q + 1)) w) l2 (mg id (fun w => w ∈ l2 ∨ ¬ kn (M 37) w) l [])) → (mg id (fun w => ¬ kn (M (q + 1)) w) l2 (mg id (fun w => w ∈ l2 ∨ ¬ kn (M 37) w) l [])).length ≤ 24 → sm_wp tb_T X tb_ok d lw 65 107 [some (.ref q), some (.ref 36), some (.int (nI (mg id (fun w => ¬ kn (M (q + 1)) w) l2 (mg id (fun w => w ∈ l2 ∨ ¬ kn (M 37) w) l [])).length)), some (.int (nI l2.length))] [] (wSH, M2, J, rc, rs) (fun o h' => ∃ v M1, o = .inl v ∧ h' = (wSH, M1, J, rc, rs) ∧ ((12 < (mg id (fun w => ¬ kn (M (q + 1)) w) l2 (mg id (fun w => w ∈ l2 ∨ ¬ kn (M 37) w) l [])).length ∧ v = some (.int (nI 0)) ∧ ∀ a, a ≠ q + 3 → M1 a = M a) ∨ ((mg id (fun w => ¬ kn (M (q + 1)) w) l2 (mg id (fun w => w ∈ l2 ∨ ¬ kn (M 37) w) l [])).length ≤ 12 ∧ v = some (.int (nI 1)) ∧ es M1 q (mg id (fun w => ¬ kn (M (q + 1)) w) l2 (mg id (fun w => w ∈ l2 ∨ ¬ kn (M 37) w) l [])) ∧ (∀ j, j < 3 → M1 (q + 1) j = mxI (M (q + 1) j) (M 37 j)) ∧ ((nwr M q 36 ∧ ∀ j, j < 3 → M1 q j = M 36 j) ∨ (¬ nwr M q 36 ∧ ∀ j, j < 3 → M1 q j = M q j)) ∧ ∀ a, (a < q ∨ q + 3 < a) → M1 a = M a))) := by
    intro M2 hfr hrow h24
    refine go_il2 hf_65 rfl rfl ?_
    refine go_bipush hf_65 rfl rfl cb_12 ?_
    first | refine go_nn_le hf_65 rfl rfl rfl (by omega) (by omega) (fun h110 => ?_) (fun h110 => ?_) | refine go_ic_le hf_65 rfl rfl rfl (fun h110 => ?_) (fun h110 => ?_)
    · refine go_al0 hf_65 rfl rfl ?_
      refine go_getr hf_65 ho_65 rfl fl_5_18 rfl (by first | assumption | rfl) rfl ?_
      refine go_iconst hf_65 rfl rfl ci_0 ?_
      refine go_al0 hf_65 rfl rfl ?_
      refine go_getr hf_65 ho_65 rfl fl_5_15 rfl (by first | assumption | rfl) rfl ?_
      refine go_iconst hf_65 rfl rfl ci_0 ?_
      refine go_il2 hf_65 rfl rfl ?_
      refine go_acp hf_65 ho_65 rfl cl_5_64 rfl rfl (by omega) (by omega) (by first | assumption | rfl) (by first | assumption | rfl) rfl rfl rfl (by omega) (by omega) rfl rfl ?_
      refine go_al0 hf_65 rfl rfl ?_
      refine go_il2 hf_65 rfl rfl ?_
      refine go_put hf_65 ho_65 rfl fl_5_31 rfl (by first | assumption | rfl) rfl (Or.inl rfl) ?_
      refine go_al0 hf_65 rfl rfl ?_
      refine go_al1 hf_65 rfl rfl ?_
      refine go_call hf_65 rfl rfl (inv_v ho_65 cl_5_70) (by decide) nl_67 rfl rfl rfl rfl rfl (by first | rfl | exact rcv_of (by assumption)) rfl rfl rfl (by omega) (by omega) (c_mergeVector hs0 stq_36 (by omega)) ?_
      rintro v4 M4 ⟨rfl, g1, g2⟩
      refine go_al0 hf_65 rfl rfl ?_
      refine go_al1 hf_65 rfl rfl ?_
      refine go_call hf_65 rfl rfl (inv_v ho_65 cl_5_74) (by decide) nl_68 rfl rfl rfl rfl rfl (by first | rfl | exact rcv_of (by assumption)) rfl rfl rfl (by omega) (by omega) (c_mergeHeader hs0 stq_36) ?_
      rintro v5 M5 ⟨rfl, g3⟩
      refine go_iconst hf_65 rfl rfl ci_1 ?_
      refine go_ret2 hf_65 rfl nl_65 (by first | exact Or.inl rfl | exact Or.inr rfl | assumption) ?_
      refine ⟨_, _, rfl, rfl, Or.inr ⟨h110, rfl, ?_⟩⟩
      exact mg_fin hqq hfr hrow h110 rfl g1 g2 g3
    · refine go_iconst hf_65 rfl rfl ci_0 ?_
      refine go_ret2 hf_65 rfl nl_65 (by first | exact Or.inl rfl | exact Or.inr rfl | assumption) ?_
      exact ⟨_, _, rfl, rfl, Or.inl ⟨by omega, rfl, hfr⟩⟩
  have loop2 : ∀ (n i : Nat) (a : List Nat) (M2 : sm_M), i + n = l2.length → mg id (fun w => ¬ kn (M (q + 1)) w) (l2.drop i) a = (mg id (fun w => ¬ kn (M (q + 1)) w) l2 (mg id (fun w => w ∈ l2 ∨ ¬ kn (M 37) w) l [])) → (∀ b, b ≠ q + 3 → M2 b = M b) → row (M2 (q + 3)) a → a.length ≤ l.length + i → sm_wp tb_T X tb_ok d lw 65 63 [some (.ref q), some (.ref 36), some (.int (nI a.length)), some (.int (nI i))] [] (wSH, M2, J, rc, rs) (fun o h' => ∃ v M1, o = .inl v ∧ h' = (wSH, M1, J, rc, rs) ∧ ((12 < (mg id (fun w => ¬ kn (M (q + 1)) w) l2 (mg id (fun w => w ∈ l2 ∨ ¬ kn (M 37) w) l [])).length ∧ v = some (.int (nI 0)) ∧ ∀ a, a ≠ q + 3 → M1 a = M a) ∨ ((mg id (fun w => ¬ kn (M (q + 1)) w) l2 (mg id (fun w => w ∈ l2 ∨ ¬ kn (M 37) w) l [])).length ≤ 12 ∧ v = some (.int (nI 1)) ∧ es M1 q (mg id (fun w => ¬ kn (M (q + 1)) w) l2 (mg id (fun w => w ∈ l2 ∨ ¬ kn (M 37) w) l [])) ∧ (∀ j, j < 3 → M1 (q + 1) j = mxI (M (q + 1) j) (M 37 j)) ∧ ((nwr M q 36 ∧ ∀ j, j < 3 → M1 q j = M 36 j) ∨ (¬ nwr M q 36 ∧ ∀ j, j < 3 → M1 q j = M q j)) ∧ ∀ a, (a < q ∨ q + 3 < a) → M1 a = M a))) := by
    intro n
    induction n with
    | zero =>
      intro i a M2 hi hmg hfr hrow hal
      have hl2' : es M2 36 l2 := es_keep hl2 (hfr 36 (by omega)) (hfr 38 (by omega))
      obtain ⟨hsz2, -, hr2⟩ := hl2'
      rw [l_end (by omega)] at hmg
      have ei : i = l2.length := by omega
      subst ei
      have ea : a = (mg id (fun w => ¬ kn (M (q + 1)) w) l2 (mg id (fun w => w ∈ l2 ∨ ¬ kn (M 37) w) l [])) := hmg
      rw [ea] at hrow hal ⊢
      refine go_il3 hf_65 rfl rfl ?_
      refine go_al1 hf_65 rfl rfl ?_
      refine go_get hf_65 ho_65 rfl fl_5_31 rfl (by first | assumption | rfl) rfl (by first | assumption | ((repeat rewrite [up_k]) <;> first | assumption | decide | omega) | exact rfl) ?_
      first | refine go_nn_ge hf_65 rfl rfl rfl (by omega) (by omega) (fun h68 => ?_) (fun h68 => absurd h68 (by omega)) | refine go_ic_ge hf_65 rfl rfl rfl (fun h68 => ?_) (fun h68 => absurd h68 (by omega))
      exact tail M2 hfr hrow (by omega)
    | succ n ih =>
      intro i a M2 hi hmg hfr hrow hal
      have hl2' : es M2 36 l2 := es_keep hl2 (hfr 36 (by omega)) (hfr 38 (by omega))
      obtain ⟨hsz2, -, hr2⟩ := hl2'
      obtain ⟨w, hw1⟩ := l_at (l := l2) (i := i) (by omega)
      obtain ⟨hwm, hw2⟩ := hr2 i w hw1
      have hwm : M2 38 i = nI w := hwm
      rw [l_drop hw1] at hmg
      have ek : M2 (q + 1) = M (q + 1) := hfr _ (by omega)
      refine go_il3 hf_65 rfl rfl ?_
      refine go_al1 hf_65 rfl rfl ?_
      refine go_get hf_65 ho_65 rfl fl_5_31 rfl (by first | assumption | rfl) rfl (by first | assumption | ((repeat rewrite [up_k]) <;> first | assumption | decide | omega) | exact rfl) ?_
      first | refine go_nn_ge hf_65 rfl rfl rfl (by omega) (by omega) (fun h68 => absurd h68 (by omega)) (fun h68 => ?_) | refine go_ic_ge hf_65 rfl rfl rfl (fun h68 => absurd h68 (by omega)) (fun h68 => ?_)
      refine go_al0 hf_65 rfl rfl ?_
      refine go_al1 hf_65 rfl rfl ?_
      refine go_getr hf_65 ho_65 rfl fl_5_15 rfl (by first | assumption | rfl) rfl ?_
      refine go_il3 hf_65 rfl rfl ?_
      refine go_iald hf_65 rfl rfl (by first | assumption | rfl) (by first | rfl | assumption) (by first | exact rfl | assumption) (by omega) (by first | assumption | ((repeat rewrite [up_k]) <;> first | assumption | decide | omega) | exact rfl) ?_
      refine go_call hf_65 rfl rfl (inv_v ho_65 cl_5_61) (by decide) nl_61 rfl rfl rfl rfl rfl (by first | rfl | exact rcv_of (by assumption)) rfl rfl rfl (by omega) (by omega) (c_knowsDot hs0 hw2) ?_
      intro v9 M9 h9
      rewrite [h9.1, h9.2, ek]
      clear h9 v9 M9
      refine go_if_ne hf_65 rfl rfl rfl (fun h81 => ?_) (fun h81 => ?_)
      · refine go_ic3 hf_65 rfl rfl (by first | exact inc1 _ | exact rfl) ?_
        refine go_goto hf_65 rfl rfl ?_
        exact ih (i + 1) a M2 (by omega) (by rw [mg_f (fun g => g (bI_n0.mp h81))] at hmg; exact hmg) hfr hrow (by omega)
      · refine go_al0 hf_65 rfl rfl ?_
        refine go_getr hf_65 ho_65 rfl fl_5_18 rfl (by first | assumption | rfl) rfl ?_
        refine go_il2 hf_65 rfl rfl ?_
        refine go_al1 hf_65 rfl rfl ?_
        refine go_getr hf_65 ho_65 rfl fl_5_15 rfl (by first | assumption | rfl) rfl ?_
        refine go_il3 hf_65 rfl rfl ?_
        refine go_iald hf_65 rfl rfl (by first | assumption | rfl) (by first | rfl | assumption) (by first | exact rfl | assumption) (by omega) (by first | assumption | ((repeat rewrite [up_k]) <;> first | assumption | decide | omega) | exact rfl) ?_
        refine go_call hf_65 rfl rfl (inv_s ho_65 cl_5_43) (by decide) nl_63 rfl rfl rfl rfl rfl rfl rfl rfl rfl (by omega) (by omega) (c_insIO hm rfl hrow (by omega) (by omega) hw2) ?_
        rintro v9 M9 ⟨rfl, i1, i2, i3⟩
        refine go_ic2 hf_65 rfl rfl (by first | exact inc1 _ | exact rfl) ?_
        refine go_ic3 hf_65 rfl rfl (by first | exact inc1 _ | exact rfl) ?_
        refine go_goto hf_65 rfl rfl ?_
        rw [mg_t (bI_0.mp h81)] at hmg
        have ih1 := ih (i + 1) (insK id w a) M9 (by omega) hmg (fun b hb => by rw [i3 b hb]; exact hfr b hb) i1 (by rw [insK_len]; omega)
        rw [insK_len] at ih1
        exact ih1
  have loop1 : ∀ (n i : Nat) (a : List Nat) (M2 : sm_M), i + n = l.length → mg id (fun w => w ∈ l2 ∨ ¬ kn (M 37) w) (l.drop i) a = (mg id (fun w => w ∈ l2 ∨ ¬ kn (M 37) w) l []) → (∀ b, b ≠ q + 3 → M2 b = M b) → row (M2 (q + 3)) a → a.length ≤ i → sm_wp tb_T X tb_ok d lw 65 4 [some (.ref q), some (.ref 36), some (.int (nI a.length)), some (.int (nI i))] [] (wSH, M2, J, rc, rs) (fun o h' => ∃ v M1, o = .inl v ∧ h' = (wSH, M1, J, rc, rs) ∧ ((12 < (mg id (fun w => ¬ kn (M (q + 1)) w) l2 (mg id (fun w => w ∈ l2 ∨ ¬ kn (M 37) w) l [])).length ∧ v = some (.int (nI 0)) ∧ ∀ a, a ≠ q + 3 → M1 a = M a) ∨ ((mg id (fun w => ¬ kn (M (q + 1)) w) l2 (mg id (fun w => w ∈ l2 ∨ ¬ kn (M 37) w) l [])).length ≤ 12 ∧ v = some (.int (nI 1)) ∧ es M1 q (mg id (fun w => ¬ kn (M (q + 1)) w) l2 (mg id (fun w => w ∈ l2 ∨ ¬ kn (M 37) w) l [])) ∧ (∀ j, j < 3 → M1 (q + 1) j = mxI (M (q + 1) j) (M 37 j)) ∧ ((nwr M q 36 ∧ ∀ j, j < 3 → M1 q j = M 36 j) ∨ (¬ nwr M q 36 ∧ ∀ j, j < 3 → M1 q j = M q j)) ∧ ∀ a, (a < q ∨ q + 3 < a) → M1 a = M a))) := by
    intro n
    induction n with
    | zero =>
      intro i a M2 hi hmg hfr hrow hal
      have hl' : es M2 q l := es_keep hl (hfr q (by omega)) (hfr _ (by omega))
      obtain ⟨hsz2, -, hr2⟩ := hl'
      rw [l_end (by omega)] at hmg
      have ei : i = l.length := by omega
      subst ei
      have ea : a = (mg id (fun w => w ∈ l2 ∨ ¬ kn (M 37) w) l []) := hmg
      rw [ea] at hrow hal ⊢
      refine go_il3 hf_65 rfl rfl ?_
      refine go_al0 hf_65 rfl rfl ?_
      refine go_get hf_65 ho_65 rfl fl_5_31 rfl (by first | assumption | rfl) rfl (by first | assumption | ((repeat rewrite [up_k]) <;> first | assumption | decide | omega) | exact rfl) ?_
      first | refine go_nn_ge hf_65 rfl rfl rfl (by omega) (by omega) (fun h9 => ?_) (fun h9 => absurd h9 (by omega)) | refine go_ic_ge hf_65 rfl rfl rfl (fun h9 => ?_) (fun h9 => absurd h9 (by omega))
      refine go_iconst hf_65 rfl rfl ci_0 ?_
      refine go_is3 hf_65 rfl rfl ?_
      exact loop2 l2.length 0 _ M2 (by omega) rfl hfr hrow (by omega)
    | succ n ih =>
      intro i a M2 hi hmg hfr hrow hal
      have hl' : es M2 q l := es_keep hl (hfr q (by omega)) (hfr _ (by omega))
      obtain ⟨hsz2, -, hr2⟩ := hl'
      have hl2' : es M2 36 l2 := es_keep hl2 (hfr 36 (by omega)) (hfr 38 (by omega))
      obtain ⟨w, hw1⟩ := l_at (l := l) (i := i) (by omega)
      obtain ⟨hwm, hw2⟩ := hr2 i w hw1
      rw [l_drop hw1] at hmg
      have ek : M2 37 = M 37 := hfr _ (by omega)
      refine go_il3 hf_65 rfl rfl ?_
      refine go_al0 hf_65 rfl rfl ?_
      refine go_get hf_65 ho_65 rfl fl_5_31 rfl (by first | assumption | rfl) rfl (by first | assumption | ((repeat rewrite [up_k]) <;> first | assumption | decide | omega) | exact rfl) ?_
      first | refine go_nn_ge hf_65 rfl rfl rfl (by omega) (by omega) (fun h9 => absurd h9 (by omega)) (fun h9 => ?_) | refine go_ic_ge hf_65 rfl rfl rfl (fun h9 => absurd h9 (by omega)) (fun h9 => ?_)
      refine go_al1 hf_65 rfl rfl ?_
      refine go_al0 hf_65 rfl rfl ?_
      refine go_getr hf_65 ho_65 rfl fl_5_15 rfl (by first | assumption | rfl) rfl ?_
      refine go_il3 hf_65 rfl rfl ?_
      refine go_iald hf_65 rfl rfl (by first | assumption | rfl) (by first | rfl | assumption) (by first | exact rfl | assumption) (by omega) (by first | assumption | ((repeat rewrite [up_k]) <;> first | assumption | decide | omega) | exact rfl) ?_
      refine go_call hf_65 rfl rfl (inv_v ho_65 cl_5_57) (by decide) nl_66 rfl rfl rfl rfl rfl (by first | rfl | exact rcv_of (by assumption)) rfl rfl rfl (by omega) (by omega) (c_has stq_36 hl2' hw2) ?_
      intro v9 M9 h9
      rewrite [h9.1, h9.2]
      clear h9 v9 M9
      refine go_if_ne hf_65 rfl rfl rfl (fun h22 => ?_) (fun h22 => ?_)
      · refine go_al0 hf_65 rfl rfl ?_
        refine go_getr hf_65 ho_65 rfl fl_5_18 rfl (by first | assumption | rfl) rfl ?_
        refine go_il2 hf_65 rfl rfl ?_
        refine go_al0 hf_65 rfl rfl ?_
        refine go_getr hf_65 ho_65 rfl fl_5_15 rfl (by first | assumption | rfl) rfl ?_
        refine go_il3 hf_65 rfl rfl ?_
        refine go_iald hf_65 rfl rfl (by first | assumption | rfl) (by first | rfl | assumption) (by first | exact rfl | assumption) (by omega) (by first | assumption | ((repeat rewrite [up_k]) <;> first | assumption | decide | omega) | exact rfl) ?_
        refine go_call hf_65 rfl rfl (inv_s ho_65 cl_5_43) (by decide) nl_63 rfl rfl rfl rfl rfl rfl rfl rfl rfl (by omega) (by omega) (c_insIO hm rfl hrow (by omega) (by omega) hw2) ?_
        rintro v9 M9 ⟨rfl, i1, i2, i3⟩
        refine go_ic2 hf_65 rfl rfl (by first | exact inc1 _ | exact rfl) ?_
        refine go_ic3 hf_65 rfl rfl (by first | exact inc1 _ | exact rfl) ?_
        refine go_goto hf_65 rfl rfl ?_
        rw [mg_t (Or.inl (bI_n0.mp h22))] at hmg
        have ih1 := ih (i + 1) (insK id w a) M9 (by omega) hmg (fun b hb => by rw [i3 b hb]; exact hfr b hb) i1 (by rw [insK_len]; omega)
        rw [insK_len] at ih1
        exact ih1
      · refine go_al1 hf_65 rfl rfl ?_
        refine go_al0 hf_65 rfl rfl ?_
        refine go_getr hf_65 ho_65 rfl fl_5_15 rfl (by first | assumption | rfl) rfl ?_
        refine go_il3 hf_65 rfl rfl ?_
        refine go_iald hf_65 rfl rfl (by first | assumption | rfl) (by first | rfl | assumption) (by first | exact rfl | assumption) (by omega) (by first | assumption | ((repeat rewrite [up_k]) <;> first | assumption | decide | omega) | exact rfl) ?_
        refine go_call hf_65 rfl rfl (inv_v ho_65 cl_5_61) (by decide) nl_61 rfl rfl rfl rfl rfl (by first | rfl | exact rcv_of (by assumption)) rfl rfl rfl (by omega) (by omega) (c_knowsDot stq_36 hw2) ?_
        intro v9 M9 h9
        rewrite [h9.1, h9.2, show M2 (36 + 1) = M 37 from ek]
        clear h9 v9 M9
        refine go_if_ne hf_65 rfl rfl rfl (fun h35 => ?_) (fun h35 => ?_)
        · refine go_ic3 hf_65 rfl rfl (by first | exact inc1 _ | exact rfl) ?_
          refine go_goto hf_65 rfl rfl ?_
          exact ih (i + 1) a M2 (by omega) (by rw [mg_f (fun g => g.elim (bI_0.mp h22) (fun g => g (bI_n0.mp h35)))] at hmg; exact hmg) hfr hrow (by omega)
        · refine go_al0 hf_65 rfl rfl ?_
          refine go_getr hf_65 ho_65 rfl fl_5_18 rfl (by first | assumption | rfl) rfl ?_
          refine go_il2 hf_65 rfl rfl ?_
          refine go_al0 hf_65 rfl rfl ?_
          refine go_getr hf_65 ho_65 rfl fl_5_15 rfl (by first | assumption | rfl) rfl ?_
          refine go_il3 hf_65 rfl rfl ?_
          refine go_iald hf_65 rfl rfl (by first | assumption | rfl) (by first | rfl | assumption) (by first | exact rfl | assumption) (by omega) (by first | assumption | ((repeat rewrite [up_k]) <;> first | assumption | decide | omega) | exact rfl) ?_
          refine go_call hf_65 rfl rfl (inv_s ho_65 cl_5_43) (by decide) nl_63 rfl rfl rfl rfl rfl rfl rfl rfl rfl (by omega) (by omega) (c_insIO hm rfl hrow (by omega) (by omega) hw2) ?_
          rintro v9 M9 ⟨rfl, i1, i2, i3⟩
          refine go_ic2 hf_65 rfl rfl (by first | exact inc1 _ | exact rfl) ?_
          refine go_ic3 hf_65 rfl rfl (by first | exact inc1 _ | exact rfl) ?_
          refine go_goto hf_65 rfl rfl ?_
          rw [mg_t (Or.inr (bI_0.mp h35))] at hmg
          have ih1 := ih (i + 1) (insK id w a) M9 (by omega) hmg (fun b hb => by rw [i3 b hb]; exact hfr b hb) i1 (by rw [insK_len]; omega)
          rw [insK_len] at ih1
          exact ih1
  refine go_iconst hf_65 rfl rfl ci_0 ?_
  refine go_is2 hf_65 rfl rfl ?_
  refine go_iconst hf_65 rfl rfl ci_0 ?_
  refine go_is3 hf_65 rfl rfl ?_
  exact loop1 l.length 0 [] M (by omega) rfl (fun _ _ => rfl) (fun i w h => by cases h) (by simp)
