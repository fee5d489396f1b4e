/-! ===== the reference's entries ===== -/
def qrow (M : sm_M) (b : Nat) (l : List Nat) : Prop := ∀ i w, l[i]? = some w → qd M (b + i) w ∧ w < 32768
def re (M : sm_M) (s : Nat) (l : List Nat) : Prop := M 50 s = nI l.length ∧ qrow M (12 * s) l
theorem up_same {M : sm_M} {k i : Nat} {v : Int32} (h : M k i = v) : sm_up M k i v = M := by
  funext a j
  by_cases hc : a = k ∧ j = i
  · obtain ⟨rfl, rfl⟩ := hc
    rw [up_s, h]
  · rw [up_o (by omega)]
theorem qd_congr {M M2 : sm_M} {i j w : Nat} (h : qd M i w) (h1 : M2 51 j = M 51 i) (h2 : M2 52 j = M 52 i) (h3 : M2 53 j = M 53 i) (h4 : M2 54 j = M 54 i) : qd M2 j w := by
  unfold qd
  rw [h1, h2, h3, h4]
  exact h
theorem qrow_congr {M M2 : sm_M} {b : Nat} {l : List Nat} (h : qrow M b l) (h1 : ∀ p j, 51 ≤ p → p ≤ 54 → j < l.length → M2 p (b + j) = M p (b + j)) : qrow M2 b l := fun i w hi => ⟨qd_congr (h i w hi).1 (h1 _ _ (by omega) (by omega) (l_lt hi)) (h1 _ _ (by omega) (by omega) (l_lt hi)) (h1 _ _ (by omega) (by omega) (l_lt hi)) (h1 _ _ (by omega) (by omega) (l_lt hi)), (h i w hi).2⟩
/-- a copy's and a set's memory -/
def st4 (M : sm_M) (i : Nat) (a c k n : Int32) : sm_M := sm_up (sm_up (sm_up (sm_up M 51 i a) 52 i c) 53 i k) 54 i n
theorem st4_o {M : sm_M} {i p j : Nat} {a c k n : Int32} (h : j ≠ i ∨ p < 51 ∨ 54 < p) : st4 M i a c k n p j = M p j := by
  unfold st4
  rw [up_o (by omega), up_o (by omega), up_o (by omega), up_o (by omega)]
theorem st4_qd {M : sm_M} {i w : Nat} : qd (st4 M i (nI (w / 8192)) (nI (w % 64)) (nI (w / 2048 % 4)) (nI (w / 64 % 32))) i w := by
  unfold st4 qd
  refine ⟨?_, ?_, ?_, ?_⟩ <;> simp [sm_up, upd]
theorem st4_51 {M : sm_M} {i : Nat} {a c k n : Int32} : st4 M i a c k n 51 i = a ∧ st4 M i a c k n 52 i = c ∧ st4 M i a c k n 53 i = k ∧ st4 M i a c k n 54 i = n := by
  unfold st4
  refine ⟨?_, ?_, ?_, ?_⟩ <;> simp [sm_up, upd]
theorem cp4_qd {M : sm_M} {i j w : Nat} (h : qd M i w) : qd (st4 M j (M 51 i) (M 52 i) (M 53 i) (M 54 i)) j w := by
  obtain ⟨h1, h2, h3, h4⟩ := h
  rw [h1, h2, h3, h4]
  exact st4_qd
theorem qrow_snoc {M M2 : sm_M} {b w : Nat} {l : List Nat} (h : qrow M b l) (h1 : ∀ p j, 51 ≤ p → p ≤ 54 → j < l.length → M2 p (b + j) = M p (b + j)) (h2 : qd M2 (b + l.length) w) (hw : w < 32768) : qrow M2 b (l ++ [w]) := by
  intro i y hy
  rcases Nat.lt_trichotomy i l.length with hi | hi | hi
  · rw [List.getElem?_append_left hi] at hy
    exact (qrow_congr h h1) i y hy
  · subst hi
    simp at hy
    subst hy
    exact ⟨h2, hw⟩
  · rw [List.getElem?_eq_none (by simp; omega)] at hy
    cases hy
theorem r_count0 {M : sm_M} {s it : Nat} {l : List Nat} (hs : s < 4) (hl : re M s l) (hl12 : l.length ≤ 12) (hit : it < 4) : cr 79 2 47 [.ref 40, .int (nI s), .int (nI it), .int (nI 0)] M (fun v M1 => v = some (.int (nI (fi it l).length)) ∧ M1 = M) := by
  intro X J rc rs d lw hd hw
  show sm_wp tb_T X tb_ok d lw 79 0 [some (.ref 40), some (.int (nI s)), some (.int (nI it)), some (.int (nI 0)), none, none, none] [] _ _
  obtain ⟨hsz, hr⟩ := hl
  have loop : ∀ (n i : Nat), i + n = l.length → sm_wp tb_T X tb_ok d lw 79 15 [some (.ref 40), some (.int (nI s)), some (.int (nI it)), some (.int (nI 0)), some (.int (nI (fi it (l.take i)).length)), some (.int (nI (12 * s))), some (.int (nI (12 * s + i)))] [] (wSH, M, J, rc, rs) (fun o h' => ∃ v M1, o = .inl v ∧ h' = (wSH, M1, J, rc, rs) ∧ v = some (.int (nI (fi it l).length)) ∧ M1 = M) := by
    intro n
    induction n with
    | zero =>
      intro i hi
      refine go_il6 hf_79 rfl rfl ?_
      refine go_bipush hf_79 rfl rfl cb_12 ?_
      refine go_il1 hf_79 rfl rfl ?_
      refine go_imul hf_79 rfl rfl (by first | exact muln _ _ | exact rfl) ?_
      refine go_al0 hf_79 rfl rfl ?_
      refine go_getr hf_79 ho_79 rfl fl_6_38 rfl (by first | assumption | rfl) rfl ?_
      refine go_il1 hf_79 rfl rfl ?_
      refine go_iald hf_79 rfl rfl (by first | assumption | rfl) (by first | rfl | assumption) (by first | exact rfl | assumption) (by omega) (by first | assumption | ((repeat rewrite [up_k]) <;> first | assumption | decide | omega) | exact rfl) ?_
      refine go_iadd hf_79 rfl rfl (by first | exact nI_add _ _ | exact rfl) ?_
      first | refine go_nn_ge hf_79 rfl rfl rfl (by omega) (by omega) (fun h28 => ?_) (fun h28 => absurd h28 (by omega)) | refine go_ic_ge hf_79 rfl rfl rfl (fun h28 => ?_) (fun h28 => absurd h28 (by omega))
      refine go_al0 hf_79 rfl rfl ?_
      refine go_getr hf_79 ho_79 rfl fl_6_38 rfl (by first | assumption | rfl) rfl ?_
      refine go_il1 hf_79 rfl rfl ?_
      refine go_il3 hf_79 rfl rfl ?_
      refine go_if_eq hf_79 rfl rfl rfl (fun h75 => ?_) (fun h75 => absurd rfl h75)
      refine go_al0 hf_79 rfl rfl ?_
      refine go_getr hf_79 ho_79 rfl fl_6_38 rfl (by first | assumption | rfl) rfl ?_
      refine go_il1 hf_79 rfl rfl ?_
      refine go_iald hf_79 rfl rfl (by first | assumption | rfl) (by first | rfl | assumption) (by first | exact rfl | assumption) (by omega) (by first | assumption | ((repeat rewrite [up_k]) <;> first | assumption | decide | omega) | exact rfl) ?_
      refine go_iast hf_79 rfl rfl (by first | assumption | rfl) (by first | rfl | assumption) (by first | exact rfl | assumption) (by omega) ?_
      refine go_il4 hf_79 rfl rfl ?_
      refine go_ret1 hf_79 rfl nl_79 ?_
      exact ⟨_, _, rfl, rfl, by rw [List.take_of_length_le (by omega)], up_same hsz⟩
    | succ n ih =>
      intro i hi
      obtain ⟨w, hw1⟩ := l_at (l := l) (i := i) (by omega)
      obtain ⟨⟨q1, q2, q3, q4⟩, hw2⟩ := hr i w hw1
      have ih1 := ih (i + 1) (by omega)
      rw [fi_take hw1] at ih1
      refine go_il6 hf_79 rfl rfl ?_
      refine go_bipush hf_79 rfl rfl cb_12 ?_
      refine go_il1 hf_79 rfl rfl ?_
      refine go_imul hf_79 rfl rfl (by first | exact muln _ _ | exact rfl) ?_
      refine go_al0 hf_79 rfl rfl ?_
      refine go_getr hf_79 ho_79 rfl fl_6_38 rfl (by first | assumption | rfl) rfl ?_
      refine go_il1 hf_79 rfl rfl ?_
      refine go_iald hf_79 rfl rfl (by first | assumption | rfl) (by first | rfl | assumption) (by first | exact rfl | assumption) (by omega) (by first | assumption | ((repeat rewrite [up_k]) <;> first | assumption | decide | omega) | exact rfl) ?_
      refine go_iadd hf_79 rfl rfl (by first | exact nI_add _ _ | exact rfl) ?_
      first | refine go_nn_ge hf_79 rfl rfl rfl (by omega) (by omega) (fun h28 => absurd h28 (by omega)) (fun h28 => ?_) | refine go_ic_ge hf_79 rfl rfl rfl (fun h28 => absurd h28 (by omega)) (fun h28 => ?_)
      refine go_al0 hf_79 rfl rfl ?_
      refine go_getr hf_79 ho_79 rfl fl_6_41 rfl (by first | assumption | rfl) rfl ?_
      refine go_il6 hf_79 rfl rfl ?_
      refine go_iald hf_79 rfl rfl (by first | assumption | rfl) (by first | rfl | assumption) (by first | exact rfl | assumption) (by omega) (by first | assumption | ((repeat rewrite [up_k]) <;> first | assumption | decide | omega) | exact rfl) ?_
      refine go_il2 hf_79 rfl rfl ?_
      first | refine go_nn_ne hf_79 rfl rfl rfl (by omega) (by omega) (fun h39 => ?_) (fun h39 => ?_) | refine go_ic_ne hf_79 rfl rfl rfl (fun h39 => ?_) (fun h39 => ?_)
      · refine go_il3 hf_79 rfl rfl ?_
        refine go_if_eq hf_79 rfl rfl rfl (fun h49 => ?_) (fun h49 => absurd rfl h49)
        refine go_ic6 hf_79 rfl rfl (by first | exact inc1 _ | exact rfl) ?_
        refine go_goto hf_79 rfl rfl ?_
        rw [if_neg h39] at ih1
        exact ih1
      · refine go_ic4 hf_79 rfl rfl (by first | exact inc1 _ | exact rfl) ?_
        refine go_goto hf_79 rfl rfl ?_
        refine go_ic6 hf_79 rfl rfl (by first | exact inc1 _ | exact rfl) ?_
        refine go_goto hf_79 rfl rfl ?_
        rw [if_pos h39, List.length_append] at ih1
        exact ih1
  refine go_iconst hf_79 rfl rfl ci_0 ?_
  refine go_is4 hf_79 rfl rfl ?_
  refine go_bipush hf_79 rfl rfl cb_12 ?_
  refine go_il1 hf_79 rfl rfl ?_
  refine go_imul hf_79 rfl rfl (by first | exact muln _ _ | exact rfl) ?_
  refine go_is5 hf_79 rfl rfl ?_
  refine go_bipush hf_79 rfl rfl cb_12 ?_
  refine go_il1 hf_79 rfl rfl ?_
  refine go_imul hf_79 rfl rfl (by first | exact muln _ _ | exact rfl) ?_
  refine go_is6 hf_79 rfl rfl ?_
  exact loop l.length 0 (by omega)
theorem r_count1 {M : sm_M} {s it : Nat} {l : List Nat} (hs : s < 4) (hl : re M s l) (hl12 : l.length ≤ 12) (hit : it < 4) : cr 79 2 47 [.ref 40, .int (nI s), .int (nI it), .int (nI 1)] M (fun v M1 => v = some (.int (nI (fi it l).length)) ∧ re M1 s (fo it l) ∧ (∀ p j, ¬ (p = 50 ∧ j = s) → ¬ (51 ≤ p ∧ p ≤ 54 ∧ 12 * s ≤ j ∧ j < 12 * s + 12) → M1 p j = M p j)) := by
  intro X J rc rs d lw hd hw
  show sm_wp tb_T X tb_ok d lw 79 0 [some (.ref 40), some (.int (nI s)), some (.int (nI it)), some (.int (nI 1)), none, none, none] [] _ _
  obtain ⟨hsz, hr⟩ := hl
  have loop : ∀ (n i : Nat) (M2 : sm_M), i + n = l.length → qrow M2 (12 * s) (fo it (l.take i)) → (∀ p j, ¬ (51 ≤ p ∧ p ≤ 54 ∧ 12 * s ≤ j ∧ j < 12 * s + i) → M2 p j = M p j) → sm_wp tb_T X tb_ok d lw 79 15 [some (.ref 40), some (.int (nI s)), some (.int (nI it)), some (.int (nI 1)), some (.int (nI (fi it (l.take i)).length)), some (.int (nI (12 * s + (fo it (l.take i)).length))), some (.int (nI (12 * s + i)))] [] (wSH, M2, J, rc, rs) (fun o h' => ∃ v M1, o = .inl v ∧ h' = (wSH, M1, J, rc, rs) ∧ v = some (.int (nI (fi it l).length)) ∧ re M1 s (fo it l) ∧ (∀ p j, ¬ (p = 50 ∧ j = s) → ¬ (51 ≤ p ∧ p ≤ 54 ∧ 12 * s ≤ j ∧ j < 12 * s + 12) → M1 p j = M p j)) := by
    intro n
    induction n with
    | zero =>
      intro i M2 hi hrow hfr
      have hsz2 : M2 50 s = nI l.length := by rw [hfr 50 s (by omega)]; exact hsz
      have hfl := fo_len it l i
      refine go_il6 hf_79 rfl rfl ?_
      refine go_bipush hf_79 rfl rfl cb_12 ?_
      refine go_il1 hf_79 rfl rfl ?_
      refine go_imul hf_79 rfl rfl (by first | exact muln _ _ | exact rfl) ?_
      refine go_al0 hf_79 rfl rfl ?_
      refine go_getr hf_79 ho_79 rfl fl_6_38 rfl (by first | assumption | rfl) rfl ?_
      refine go_il1 hf_79 rfl rfl ?_
      refine go_iald hf_79 rfl rfl (by first | assumption | rfl) (by first | rfl | assumption) (by first | exact rfl | assumption) (by omega) (by first | assumption | ((repeat rewrite [up_k]) <;> first | assumption | decide | omega) | exact rfl) ?_
      refine go_iadd hf_79 rfl rfl (by first | exact nI_add _ _ | exact rfl) ?_
      first | refine go_nn_ge hf_79 rfl rfl rfl (by omega) (by omega) (fun h28 => ?_) (fun h28 => absurd h28 (by omega)) | refine go_ic_ge hf_79 rfl rfl rfl (fun h28 => ?_) (fun h28 => absurd h28 (by omega))
      refine go_al0 hf_79 rfl rfl ?_
      refine go_getr hf_79 ho_79 rfl fl_6_38 rfl (by first | assumption | rfl) rfl ?_
      refine go_il1 hf_79 rfl rfl ?_
      refine go_il3 hf_79 rfl rfl ?_
      refine go_if_eq hf_79 rfl rfl rfl (fun h75 => absurd h75 nI_10) (fun h75 => ?_)
      refine go_il5 hf_79 rfl rfl ?_
      refine go_bipush hf_79 rfl rfl cb_12 ?_
      refine go_il1 hf_79 rfl rfl ?_
      refine go_imul hf_79 rfl rfl (by first | exact muln _ _ | exact rfl) ?_
      refine go_isub hf_79 rfl rfl (subn (by omega)) ?_
      refine go_goto hf_79 rfl rfl ?_
      refine go_iast hf_79 rfl rfl (by first | assumption | rfl) (by first | rfl | assumption) (by first | exact rfl | assumption) (by omega) ?_
      refine go_il4 hf_79 rfl rfl ?_
      refine go_ret1 hf_79 rfl nl_79 ?_
      rw [List.take_of_length_le (by omega)] at hrow ⊢
      refine ⟨_, _, rfl, rfl, rfl, ⟨?_, ?_⟩, fun p j h1 h2 => ?_⟩
      · rw [up_s]
        congr 1
        omega
      · exact qrow_congr hrow (fun p j h1 h2 _ => up_k (by omega))
      · rw [up_o (by omega)]
        exact hfr p j (by omega)
    | succ n ih =>
      intro i M2 hi hrow hfr
      obtain ⟨w, hw1⟩ := l_at (l := l) (i := i) (by omega)
      obtain ⟨⟨q1, q2, q3, q4⟩, hw2⟩ := hr i w hw1
      have hsz2 : M2 50 s = nI l.length := by rw [hfr 50 s (by omega)]; exact hsz
      have hfl := fo_len it l i
      have q1' : M2 51 (12 * s + i) = nI (w / 8192) := by rw [hfr _ _ (by omega)]; exact q1
      have qq : qd M2 (12 * s + i) w := by
        unfold qd
        rw [hfr _ _ (by omega), hfr _ _ (by omega), hfr _ _ (by omega), hfr _ _ (by omega)]
        exact ⟨q1, q2, q3, q4⟩
      have ih1 := ih (i + 1) 
      rw [fi_take hw1, fo_take hw1] at ih1
      refine go_il6 hf_79 rfl rfl ?_
      refine go_bipush hf_79 rfl rfl cb_12 ?_
      refine go_il1 hf_79 rfl rfl ?_
      refine go_imul hf_79 rfl rfl (by first | exact muln _ _ | exact rfl) ?_
      refine go_al0 hf_79 rfl rfl ?_
      refine go_getr hf_79 ho_79 rfl fl_6_38 rfl (by first | assumption | rfl) rfl ?_
      refine go_il1 hf_79 rfl rfl ?_
      refine go_iald hf_79 rfl rfl (by first | assumption | rfl) (by first | rfl | assumption) (by first | exact rfl | assumption) (by omega) (by first | assumption | ((repeat rewrite [up_k]) <;> first | assumption | decide | omega) | exact rfl) ?_
      refine go_iadd hf_79 rfl rfl (by first | exact nI_add _ _ | exact rfl) ?_
      first | refine go_nn_ge hf_79 rfl rfl rfl (by omega) (by omega) (fun h28 => absurd h28 (by omega)) (fun h28 => ?_) | refine go_ic_ge hf_79 rfl rfl rfl (fun h28 => absurd h28 (by omega)) (fun h28 => ?_)
      refine go_al0 hf_79 rfl rfl ?_
      refine go_getr hf_79 ho_79 rfl fl_6_41 rfl (by first | assumption | rfl) rfl ?_
      refine go_il6 hf_79 rfl rfl ?_
      refine go_iald hf_79 rfl rfl (by first | assumption | rfl) (by first | rfl | assumption) (by first | exact rfl | assumption) (by omega) (by first | assumption | ((repeat rewrite [up_k]) <;> first | assumption | decide | omega) | exact rfl) ?_
      refine go_il2 hf_79 rfl rfl ?_
      first | refine go_nn_ne hf_79 rfl rfl rfl (by omega) (by omega) (fun h39 => ?_) (fun h39 => ?_) | refine go_ic_ne hf_79 rfl rfl rfl (fun h39 => ?_) (fun h39 => ?_)
      · refine go_il3 hf_79 rfl rfl ?_
        refine go_if_eq hf_79 rfl rfl rfl (fun h49 => absurd h49 nI_10) (fun h49 => ?_)
        refine go_al0 hf_79 rfl rfl ?_
        refine go_il6 hf_79 rfl rfl ?_
        refine go_il5 hf_79 rfl rfl ?_
        refine go_call hf_79 rfl rfl (inv_v ho_79 cl_6_107) (by decide) nl_80 rfl rfl rfl rfl rfl (by first | rfl | exact rcv_of (by assumption)) rfl rfl rfl (by omega) (by omega) (c_copy (by omega) (by omega)) ?_
        rintro v9 M9 ⟨rfl, rfl⟩
        refine go_ic5 hf_79 rfl rfl (by first | exact inc1 _ | exact rfl) ?_
        refine go_ic6 hf_79 rfl rfl (by first | exact inc1 _ | exact rfl) ?_
        refine go_goto hf_79 rfl rfl ?_
        rw [if_neg h39, if_neg h39, List.length_append] at ih1
        refine ih1 _ (by omega) (qrow_snoc hrow (fun p j h1 h2 h3 => st4_o (by omega)) (cp4_qd qq) hw2) (fun p j h1 => ?_)
        rw [← hfr p j (by omega)]
        exact st4_o (by omega)
      · refine go_ic4 hf_79 rfl rfl (by first | exact inc1 _ | exact rfl) ?_
        refine go_goto hf_79 rfl rfl ?_
        refine go_ic6 hf_79 rfl rfl (by first | exact inc1 _ | exact rfl) ?_
        refine go_goto hf_79 rfl rfl ?_
        rw [if_pos h39, if_pos h39, List.length_append] at ih1
        exact ih1 M2 (by omega) hrow (fun p j h1 => hfr p j (by omega))
  refine go_iconst hf_79 rfl rfl ci_0 ?_
  refine go_is4 hf_79 rfl rfl ?_
  refine go_bipush hf_79 rfl rfl cb_12 ?_
  refine go_il1 hf_79 rfl rfl ?_
  refine go_imul hf_79 rfl rfl (by first | exact muln _ _ | exact rfl) ?_
  refine go_is5 hf_79 rfl rfl ?_
  refine go_bipush hf_79 rfl rfl cb_12 ?_
  refine go_il1 hf_79 rfl rfl ?_
  refine go_imul hf_79 rfl rfl (by first | exact muln _ _ | exact rfl) ?_
  refine go_is6 hf_79 rfl rfl ?_
  exact loop l.length 0 M (by omega) (fun i w h => by cases h) (fun _ _ _ => rfl)
theorem qrow_ins {M : sm_M} {b p w : Nat} {l : List Nat} (hp : p ≤ l.length) (hw : w < 32768) (hl : ∀ x ∈ l, x < 32768) (h1 : ∀ j x, j < p → l[j]? = some x → qd M (b + j) x) (h2 : qd M (b + p) w) (h3 : ∀ j x, p < j → l[j - 1]? = some x → qd M (b + j) x) : qrow M b (l.insertIdx p w) := by
  intro i y hy
  rw [List.getElem?_insertIdx] at hy
  split at hy
  · next hi => exact ⟨h1 i y hi hy, hl y (List.mem_of_getElem? hy)⟩
  · next hi =>
    split at hy
    · next hi2 =>
      subst hi2
      rw [if_pos hp] at hy
      cases hy
      exact ⟨h2, hw⟩
    · next hi2 => exact ⟨h3 i y (by omega) hy, hl y (List.mem_of_getElem? hy)⟩
theorem r_sink {M : sm_M} {s w : Nat} {l : List Nat} (hs : 12 * s + l.length < 72) (hs5 : s < 5) (hl : re M s l) (hqw : qd M (12 * s + l.length) w) (hw9 : w < 32768) : cr 82 2 47 [.ref 40, .int (nI s)] M (fun v M1 => v = none ∧ re M1 s (insK (fun w => w / 64) w l) ∧ (∀ p j, ¬ (p = 50 ∧ j = s) → ¬ (51 ≤ p ∧ p ≤ 54 ∧ 12 * s ≤ j ∧ j ≤ 12 * s + l.length) → M1 p j = M p j)) := by
  intro X J rc rs d lw hd hw
  show sm_wp tb_T X tb_ok d lw 82 0 [some (.ref 40), some (.int (nI s)), none, none, none, none, none] [] _ _
  obtain ⟨hsz, hr⟩ := hl
  have loop : ∀ (p : Nat) (M2 : sm_M) (x3 x4 x5 x6 : Option Value), p ≤ l.length → M2 50 s = nI (l.length + 1) → (∀ j x, j < p → l[j]? = some x → qd M2 (12 * s + j) x) → qd M2 (12 * s + p) w → (∀ j x, p < j → l[j - 1]? = some x → qd M2 (12 * s + j) x) → (∀ i x, p ≤ i → l[i]? = some x → w / 64 < x / 64) → (∀ p j, ¬ (p = 50 ∧ j = s) → ¬ (51 ≤ p ∧ p ≤ 54 ∧ 12 * s ≤ j ∧ j ≤ 12 * s + l.length) → M2 p j = M p j) → sm_wp tb_T X tb_ok d lw 82 22 [some (.ref 40), some (.int (nI s)), some (.int (nI (12 * s + p))), x3, x4, x5, x6] [] (wSH, M2, J, rc, rs) (fun o h' => ∃ v M1, o = .inl v ∧ h' = (wSH, M1, J, rc, rs) ∧ v = none ∧ re M1 s (insK (fun w => w / 64) w l) ∧ (∀ p j, ¬ (p = 50 ∧ j = s) → ¬ (51 ≤ p ∧ p ≤ 54 ∧ 12 * s ≤ j ∧ j ≤ 12 * s + l.length) → M1 p j = M p j)) := by
    intro p
    induction p with
    | zero =>
      intro M2 x3 x4 x5 x6 hp hz h1 h2 h3 h4 hfr
      refine go_il2 hf_82 rfl rfl ?_
      refine go_bipush hf_82 rfl rfl cb_12 ?_
      refine go_il1 hf_82 rfl rfl ?_
      refine go_imul hf_82 rfl rfl (by first | exact muln _ _ | exact rfl) ?_
      first | refine go_nn_le hf_82 rfl rfl rfl (by omega) (by omega) (fun h27 => ?_) (fun h27 => absurd h27 (by omega)) | refine go_ic_le hf_82 rfl rfl rfl (fun h27 => ?_) (fun h27 => absurd h27 (by omega))
      refine go_ret0 hf_82 rfl nl_82 ?_
      refine ⟨_, _, rfl, rfl, rfl, ⟨by rw [hz, insK_len], ?_⟩, hfr⟩
      rw [insK_at l _ hp h4 (fun z hz0 hy => absurd hz0 (Nat.lt_irrefl 0))]
      exact qrow_ins hp hw9 (fun x hx => by obtain ⟨i, hi⟩ := List.getElem?_of_mem hx; exact (hr i x hi).2) h1 h2 h3
    | succ p ih =>
      intro M2 x3 x4 x5 x6 hp hz h1 h2 h3 h4 hfr
      obtain ⟨x, hx⟩ := l_at (l := l) (i := p) (by omega)
      have hx2 := (hr p x hx).2
      have hxq := h1 p x (by omega) hx
      have ee : 12 * s + (p + 1) - 1 = 12 * s + p := by omega
      have hxq' : qd M2 (12 * s + (p + 1) - 1) x := by rw [ee]; exact hxq
      obtain ⟨b1, b2, b3, b4⟩ := id h2
      refine go_il2 hf_82 rfl rfl ?_
      refine go_bipush hf_82 rfl rfl cb_12 ?_
      refine go_il1 hf_82 rfl rfl ?_
      refine go_imul hf_82 rfl rfl (by first | exact muln _ _ | exact rfl) ?_
      first | refine go_nn_le hf_82 rfl rfl rfl (by omega) (by omega) (fun h27 => absurd h27 (by omega)) (fun h27 => ?_) | refine go_ic_le hf_82 rfl rfl rfl (fun h27 => absurd h27 (by omega)) (fun h27 => ?_)
      refine go_al0 hf_82 rfl rfl ?_
      refine go_il2 hf_82 rfl rfl ?_
      refine go_il2 hf_82 rfl rfl ?_
      refine go_iconst hf_82 rfl rfl ci_1 ?_
      refine go_isub hf_82 rfl rfl (subn (by omega)) ?_
      refine go_call hf_82 rfl rfl (inv_v ho_82 cl_6_103) (by decide) nl_83 rfl rfl rfl rfl rfl (by first | rfl | exact rcv_of (by assumption)) rfl rfl rfl (by omega) (by omega) (c_before (by omega) (by omega) hw9 hx2 h2 hxq') ?_
      intro v9 M9 h9
      rewrite [h9.1, h9.2]
      clear h9 v9 M9
      refine go_if_eq hf_82 rfl rfl rfl (fun h38 => ?_) (fun h38 => ?_)
      · refine go_ret0 hf_82 rfl nl_82 ?_
        refine ⟨_, _, rfl, rfl, rfl, ⟨by rw [hz, insK_len], ?_⟩, hfr⟩
        rw [insK_at l _ hp h4 (fun z hz0 hy => by rw [show p + 1 - 1 = p from rfl, hx] at hy; cases hy; exact bI_0.mp h38)]
        exact qrow_ins hp hw9 (fun x hx => by obtain ⟨i, hi⟩ := List.getElem?_of_mem hx; exact (hr i x hi).2) h1 h2 h3
      · refine go_al0 hf_82 rfl rfl ?_
        refine go_getr hf_82 ho_82 rfl fl_6_41 rfl (by first | assumption | rfl) rfl ?_
        refine go_il2 hf_82 rfl rfl ?_
        refine go_iald hf_82 rfl rfl (by first | assumption | rfl) (by first | rfl | assumption) (by first | exact rfl | assumption) (by omega) (by first | assumption | ((repeat rewrite [up_k]) <;> first | assumption | decide | omega) | exact rfl) ?_
        refine go_is3 hf_82 rfl rfl ?_
        refine go_al0 hf_82 rfl rfl ?_
        refine go_getr hf_82 ho_82 rfl fl_6_44 rfl (by first | assumption | rfl) rfl ?_
        refine go_il2 hf_82 rfl rfl ?_
        refine go_iald hf_82 rfl rfl (by first | assumption | rfl) (by first | rfl | assumption) (by first | exact rfl | assumption) (by omega) (by first | assumption | ((repeat rewrite [up_k]) <;> first | assumption | decide | omega) | exact rfl) ?_
        refine go_is4 hf_82 rfl rfl ?_
        refine go_al0 hf_82 rfl rfl ?_
        refine go_getr hf_82 ho_82 rfl fl_6_47 rfl (by first | assumption | rfl) rfl ?_
        refine go_il2 hf_82 rfl rfl ?_
        refine go_iald hf_82 rfl rfl (by first | assumption | rfl) (by first | rfl | assumption) (by first | exact rfl | assumption) (by omega) (by first | assumption | ((repeat rewrite [up_k]) <;> first | assumption | decide | omega) | exact rfl) ?_
        refine go_is5 hf_82 rfl rfl ?_
        refine go_al0 hf_82 rfl rfl ?_
        refine go_getr hf_82 ho_82 rfl fl_6_50 rfl (by first | assumption | rfl) rfl ?_
        refine go_il2 hf_82 rfl rfl ?_
        refine go_iald hf_82 rfl rfl (by first | assumption | rfl) (by first | rfl | assumption) (by first | exact rfl | assumption) (by omega) (by first | assumption | ((repeat rewrite [up_k]) <;> first | assumption | decide | omega) | exact rfl) ?_
        refine go_is6 hf_82 rfl rfl ?_
        refine go_al0 hf_82 rfl rfl ?_
        refine go_il2 hf_82 rfl rfl ?_
        refine go_iconst hf_82 rfl rfl ci_1 ?_
        refine go_isub hf_82 rfl rfl (subn (by omega)) ?_
        refine go_il2 hf_82 rfl rfl ?_
        refine go_call hf_82 rfl rfl (inv_v ho_82 cl_6_107) (by decide) nl_80 rfl rfl rfl rfl rfl (by first | rfl | exact rcv_of (by assumption)) rfl rfl rfl (by omega) (by omega) (c_copy (by omega) (by omega)) ?_
        rintro v9 M9 ⟨rfl, rfl⟩
        refine go_al0 hf_82 rfl rfl ?_
        refine go_il2 hf_82 rfl rfl ?_
        refine go_iconst hf_82 rfl rfl ci_1 ?_
        refine go_isub hf_82 rfl rfl (subn (by omega)) ?_
        refine go_il3 hf_82 rfl rfl ?_
        refine go_il4 hf_82 rfl rfl ?_
        refine go_il5 hf_82 rfl rfl ?_
        refine go_il6 hf_82 rfl rfl ?_
        refine go_call hf_82 rfl rfl (inv_v ho_82 cl_6_99) (by decide) nl_81 rfl rfl rfl rfl rfl (by first | rfl | exact rcv_of (by assumption)) rfl rfl rfl (by omega) (by omega) (c_set (by omega)) ?_
        rintro v9 M9 ⟨rfl, rfl⟩
        refine go_ic2 hf_82 rfl rfl (by first | exact dec1 (by omega) | exact rfl) ?_
        refine go_goto hf_82 rfl rfl ?_
        rw [ee]
        refine ih _ _ _ _ _ (by omega) ?_ ?_ ?_ ?_ ?_ ?_
        · exact (st4_o (by omega)).trans ((st4_o (by omega)).trans hz)
        · intro j y hj hy
          have g := h1 j y (by omega) hy
          exact qd_congr g ((st4_o (by omega)).trans (st4_o (by omega))) ((st4_o (by omega)).trans (st4_o (by omega))) ((st4_o (by omega)).trans (st4_o (by omega))) ((st4_o (by omega)).trans (st4_o (by omega)))
        · rw [← ee]
          exact st4_qd
        · intro j y hj hy
          by_cases hj2 : j = p + 1
          · subst hj2
            have hy : l[p]? = some y := hy
            rw [hx] at hy
            cases hy
            have g : qd (st4 M2 (12 * s + (p + 1)) (M2 51 (12 * s + (p + 1) - 1)) (M2 52 (12 * s + (p + 1) - 1)) (M2 53 (12 * s + (p + 1) - 1)) (M2 54 (12 * s + (p + 1) - 1))) (12 * s + (p + 1)) x := cp4_qd hxq'
            exact qd_congr g (st4_o (by omega)) (st4_o (by omega)) (st4_o (by omega)) (st4_o (by omega))
          · have g := h3 j y (by omega) hy
            exact qd_congr g ((st4_o (by omega)).trans (st4_o (by omega))) ((st4_o (by omega)).trans (st4_o (by omega))) ((st4_o (by omega)).trans (st4_o (by omega))) ((st4_o (by omega)).trans (st4_o (by omega)))
        · intro i y hi hy
          by_cases hi2 : i = p
          · subst hi2
            rw [hx] at hy
            cases hy
            exact bI_n0.mp h38
          · exact h4 i y (by omega) hy
        · intro p2 j g1 g2
          exact (st4_o (by omega)).trans ((st4_o (by omega)).trans (hfr p2 j g1 g2))
  refine go_bipush hf_82 rfl rfl cb_12 ?_
  refine go_il1 hf_82 rfl rfl ?_
  refine go_imul hf_82 rfl rfl (by first | exact muln _ _ | exact rfl) ?_
  refine go_al0 hf_82 rfl rfl ?_
  refine go_getr hf_82 ho_82 rfl fl_6_38 rfl (by first | assumption | rfl) rfl ?_
  refine go_il1 hf_82 rfl rfl ?_
  refine go_iald hf_82 rfl rfl (by first | assumption | rfl) (by first | rfl | assumption) (by first | exact rfl | assumption) (by omega) (by first | assumption | ((repeat rewrite [up_k]) <;> first | assumption | decide | omega) | exact rfl) ?_
  refine go_iadd hf_82 rfl rfl (by first | exact nI_add _ _ | exact rfl) ?_
  refine go_is2 hf_82 rfl rfl ?_
  refine go_al0 hf_82 rfl rfl ?_
  refine go_getr hf_82 ho_82 rfl fl_6_38 rfl (by first | assumption | rfl) rfl ?_
  refine go_il1 hf_82 rfl rfl ?_
  refine go_dup2 hf_82 rfl rfl ?_
  refine go_iald hf_82 rfl rfl (by first | assumption | rfl) (by first | rfl | assumption) (by first | exact rfl | assumption) (by omega) (by first | assumption | ((repeat rewrite [up_k]) <;> first | assumption | decide | omega) | exact rfl) ?_
  refine go_iconst hf_82 rfl rfl ci_1 ?_
  refine go_iadd hf_82 rfl rfl (by first | exact nI_add _ _ | exact rfl) ?_
  refine go_iast hf_82 rfl rfl (by first | assumption | rfl) (by first | rfl | assumption) (by first | exact rfl | assumption) (by omega) ?_
  refine loop l.length _ _ _ _ _ (Nat.le_refl _) up_s ?_ ?_ ?_ ?_ ?_
  · intro j x hj hx
    exact qd_congr (hr j x hx).1 (up_k (by omega)) (up_k (by omega)) (up_k (by omega)) (up_k (by omega))
  · exact qd_congr hqw (up_k (by omega)) (up_k (by omega)) (up_k (by omega)) (up_k (by omega))
  · intro j x hj hx
    exact absurd (l_lt hx) (by omega)
  · intro i x hi hx
    exact absurd (l_lt hx) (by omega)
  · intro p j g1 g2
    exact up_o (by omega)
theorem r_holds {M : sm_M} {s e w : Nat} {l : List Nat} (hs : s < 4) (hl : re M s l) (hl12 : l.length ≤ 12) (he : e < 72) (hq : qd M e w) (hw9 : w < 32768) : cr 107 0 0 [.ref 40, .int (nI s), .int (nI e)] M (fun v M1 => v = some (.int (bI (w ∈ l))) ∧ M1 = M) := by
  intro X J rc rs d lw hd hw
  show sm_wp tb_T X tb_ok d lw 107 0 [some (.ref 40), some (.int (nI s)), some (.int (nI e)), none] [] _ _
  obtain ⟨hsz, hr⟩ := hl
  obtain ⟨b1, b2, b3, b4⟩ := hq
  have loop : ∀ (n i : Nat), i + n = l.length → (w ∈ l ↔ w ∈ l.drop i) → sm_wp tb_T X tb_ok d lw 107 5 [some (.ref 40), some (.int (nI s)), some (.int (nI e)), some (.int (nI (12 * s + i)))] [] (wSH, M, J, rc, rs) (fun o h' => ∃ v M1, o = .inl v ∧ h' = (wSH, M1, J, rc, rs) ∧ v = some (.int (bI (w ∈ l))) ∧ M1 = M) := by
    intro n
    induction n with
    | zero =>
      intro i hi hno
      refine go_il3 hf_107 rfl rfl ?_
      refine go_bipush hf_107 rfl rfl cb_12 ?_
      refine go_il1 hf_107 rfl rfl ?_
      refine go_imul hf_107 rfl rfl (by first | exact muln _ _ | exact rfl) ?_
      refine go_al0 hf_107 rfl rfl ?_
      refine go_getr hf_107 ho_107 rfl fl_6_38 rfl (by first | assumption | rfl) rfl ?_
      refine go_il1 hf_107 rfl rfl ?_
      refine go_iald hf_107 rfl rfl (by first | assumption | rfl) (by first | rfl | assumption) (by first | exact rfl | assumption) (by omega) (by first | assumption | ((repeat rewrite [up_k]) <;> first | assumption | decide | omega) | exact rfl) ?_
      refine go_iadd hf_107 rfl rfl (by first | exact nI_add _ _ | exact rfl) ?_
      first | refine go_nn_ge hf_107 rfl rfl rfl (by omega) (by omega) (fun h17 => ?_) (fun h17 => absurd h17 (by omega)) | refine go_ic_ge hf_107 rfl rfl rfl (fun h17 => ?_) (fun h17 => absurd h17 (by omega))
      refine go_iconst hf_107 rfl rfl ci_0 ?_
      refine go_ret2 hf_107 rfl nl_107 (by first | exact Or.inl rfl | exact Or.inr rfl | assumption) ?_
      rw [l_end (by omega)] at hno
      exact ⟨_, _, rfl, rfl, by rw [bI_f (by rw [hno]; simp)], rfl⟩
    | succ n ih =>
      intro i hi hno
      obtain ⟨x, hw1⟩ := l_at (l := l) (i := i) (by omega)
      obtain ⟨⟨q1, q2, q3, q4⟩, hw2⟩ := hr i x hw1
      refine go_il3 hf_107 rfl rfl ?_
      refine go_bipush hf_107 rfl rfl cb_12 ?_
      refine go_il1 hf_107 rfl rfl ?_
      refine go_imul hf_107 rfl rfl (by first | exact muln _ _ | exact rfl) ?_
      refine go_al0 hf_107 rfl rfl ?_
      refine go_getr hf_107 ho_107 rfl fl_6_38 rfl (by first | assumption | rfl) rfl ?_
      refine go_il1 hf_107 rfl rfl ?_
      refine go_iald hf_107 rfl rfl (by first | assumption | rfl) (by first | rfl | assumption) (by first | exact rfl | assumption) (by omega) (by first | assumption | ((repeat rewrite [up_k]) <;> first | assumption | decide | omega) | exact rfl) ?_
      refine go_iadd hf_107 rfl rfl (by first | exact nI_add _ _ | exact rfl) ?_
      first | refine go_nn_ge hf_107 rfl rfl rfl (by omega) (by omega) (fun h17 => absurd h17 (by omega)) (fun h17 => ?_) | refine go_ic_ge hf_107 rfl rfl rfl (fun h17 => absurd h17 (by omega)) (fun h17 => ?_)
      refine go_al0 hf_107 rfl rfl ?_
      refine go_getr hf_107 ho_107 rfl fl_6_41 rfl (by first | assumption | rfl) rfl ?_
      refine go_il3 hf_107 rfl rfl ?_
      refine go_iald hf_107 rfl rfl (by first | assumption | rfl) (by first | rfl | assumption) (by first | exact rfl | assumption) (by omega) (by first | assumption | ((repeat rewrite [up_k]) <;> first | assumption | decide | omega) | exact rfl) ?_
      refine go_al0 hf_107 rfl rfl ?_
      refine go_getr hf_107 ho_107 rfl fl_6_41 rfl (by first | assumption | rfl) rfl ?_
      refine go_il2 hf_107 rfl rfl ?_
      refine go_iald hf_107 rfl rfl (by first | assumption | rfl) (by first | rfl | assumption) (by first | exact rfl | assumption) (by omega) (by first | assumption | ((repeat rewrite [up_k]) <;> first | assumption | decide | omega) | exact rfl) ?_
      first | refine go_nn_ne hf_107 rfl rfl rfl (by omega) (by omega) (fun h32 => ?_) (fun h32 => ?_) | refine go_ic_ne hf_107 rfl rfl rfl (fun h32 => ?_) (fun h32 => ?_)
      · refine go_ic3 hf_107 rfl rfl (by first | exact inc1 _ | exact rfl) ?_
        refine go_goto hf_107 rfl rfl ?_
        refine ih (i + 1) (by omega) ?_
        rw [hno, l_drop hw1, List.mem_cons]
        exact ⟨fun h => h.resolve_left (fun e => by subst e; omega), Or.inr⟩
      · refine go_al0 hf_107 rfl rfl ?_
        refine go_getr hf_107 ho_107 rfl fl_6_44 rfl (by first | assumption | rfl) rfl ?_
        refine go_il3 hf_107 rfl rfl ?_
        refine go_iald hf_107 rfl rfl (by first | assumption | rfl) (by first | rfl | assumption) (by first | exact rfl | assumption) (by omega) (by first | assumption | ((repeat rewrite [up_k]) <;> first | assumption | decide | omega) | exact rfl) ?_
        refine go_al0 hf_107 rfl rfl ?_
        refine go_getr hf_107 ho_107 rfl fl_6_44 rfl (by first | assumption | rfl) rfl ?_
        refine go_il2 hf_107 rfl rfl ?_
        refine go_iald hf_107 rfl rfl (by first | assumption | rfl) (by first | rfl | assumption) (by first | exact rfl | assumption) (by omega) (by first | assumption | ((repeat rewrite [up_k]) <;> first | assumption | decide | omega) | exact rfl) ?_
        first | refine go_nn_ne hf_107 rfl rfl rfl (by omega) (by omega) (fun h47 => ?_) (fun h47 => ?_) | refine go_ic_ne hf_107 rfl rfl rfl (fun h47 => ?_) (fun h47 => ?_)
        · refine go_ic3 hf_107 rfl rfl (by first | exact inc1 _ | exact rfl) ?_
          refine go_goto hf_107 rfl rfl ?_
          refine ih (i + 1) (by omega) ?_
          rw [hno, l_drop hw1, List.mem_cons]
          exact ⟨fun h => h.resolve_left (fun e => by subst e; omega), Or.inr⟩
        · refine go_al0 hf_107 rfl rfl ?_
          refine go_getr hf_107 ho_107 rfl fl_6_47 rfl (by first | assumption | rfl) rfl ?_
          refine go_il3 hf_107 rfl rfl ?_
          refine go_iald hf_107 rfl rfl (by first | assumption | rfl) (by first | rfl | assumption) (by first | exact rfl | assumption) (by omega) (by first | assumption | ((repeat rewrite [up_k]) <;> first | assumption | decide | omega) | exact rfl) ?_
          refine go_al0 hf_107 rfl rfl ?_
          refine go_getr hf_107 ho_107 rfl fl_6_47 rfl (by first | assumption | rfl) rfl ?_
          refine go_il2 hf_107 rfl rfl ?_
          refine go_iald hf_107 rfl rfl (by first | assumption | rfl) (by first | rfl | assumption) (by first | exact rfl | assumption) (by omega) (by first | assumption | ((repeat rewrite [up_k]) <;> first | assumption | decide | omega) | exact rfl) ?_
          first | refine go_nn_ne hf_107 rfl rfl rfl (by omega) (by omega) (fun h62 => ?_) (fun h62 => ?_) | refine go_ic_ne hf_107 rfl rfl rfl (fun h62 => ?_) (fun h62 => ?_)
          · refine go_ic3 hf_107 rfl rfl (by first | exact inc1 _ | exact rfl) ?_
            refine go_goto hf_107 rfl rfl ?_
            refine ih (i + 1) (by omega) ?_
            rw [hno, l_drop hw1, List.mem_cons]
            exact ⟨fun h => h.resolve_left (fun e => by subst e; omega), Or.inr⟩
          · refine go_al0 hf_107 rfl rfl ?_
            refine go_getr hf_107 ho_107 rfl fl_6_50 rfl (by first | assumption | rfl) rfl ?_
            refine go_il3 hf_107 rfl rfl ?_
            refine go_iald hf_107 rfl rfl (by first | assumption | rfl) (by first | rfl | assumption) (by first | exact rfl | assumption) (by omega) (by first | assumption | ((repeat rewrite [up_k]) <;> first | assumption | decide | omega) | exact rfl) ?_
            refine go_al0 hf_107 rfl rfl ?_
            refine go_getr hf_107 ho_107 rfl fl_6_50 rfl (by first | assumption | rfl) rfl ?_
            refine go_il2 hf_107 rfl rfl ?_
            refine go_iald hf_107 rfl rfl (by first | assumption | rfl) (by first | rfl | assumption) (by first | exact rfl | assumption) (by omega) (by first | assumption | ((repeat rewrite [up_k]) <;> first | assumption | decide | omega) | exact rfl) ?_
            first | refine go_nn_ne hf_107 rfl rfl rfl (by omega) (by omega) (fun h77 => ?_) (fun h77 => ?_) | refine go_ic_ne hf_107 rfl rfl rfl (fun h77 => ?_) (fun h77 => ?_)
            · refine go_ic3 hf_107 rfl rfl (by first | exact inc1 _ | exact rfl) ?_
              refine go_goto hf_107 rfl rfl ?_
              refine ih (i + 1) (by omega) ?_
              rw [hno, l_drop hw1, List.mem_cons]
              exact ⟨fun h => h.resolve_left (fun e => by subst e; omega), Or.inr⟩
            · refine go_iconst hf_107 rfl rfl ci_1 ?_
              refine go_ret2 hf_107 rfl nl_107 (by first | exact Or.inl rfl | exact Or.inr rfl | assumption) ?_
              have e : x = w := by omega
              exact ⟨_, _, rfl, rfl, by rw [bI_t (List.mem_of_getElem? (e ▸ hw1))], rfl⟩
  refine go_bipush hf_107 rfl rfl cb_12 ?_
  refine go_il1 hf_107 rfl rfl ?_
  refine go_imul hf_107 rfl rfl (by first | exact muln _ _ | exact rfl) ?_
  refine go_is3 hf_107 rfl rfl ?_
  exact loop l.length 0 (by omega) Iff.rfl
theorem re_keep {M M2 : sm_M} {s : Nat} {l : List Nat} (hs : s < 4) (hl : re M s l) (h12 : l.length ≤ 12) (hfr : ∀ p j, ¬ (p = 50 ∧ j = 4) → ¬ (51 ≤ p ∧ p ≤ 54 ∧ 48 ≤ j) → M2 p j = M p j) : re M2 s l := ⟨by rw [hfr _ _ (by omega) (by omega)]; exact hl.1, qrow_congr hl.2 (fun p j h1 h2 h3 => hfr _ _ (by omega) (by omega))⟩
theorem kn_iff {g : Nat → Int32} {w : Nat} (h : w / 2048 % 4 < 3) : kn g w ↔ nI (w / 64 % 32) ≤ g (w / 2048 % 4) := ⟨fun k => k.2, fun k => ⟨h, k⟩⟩
theorem r_merge {M : sm_M} {s : Nat} {l l2 : List Nat} (hs : s < 3) (hl : re M s l) (hl12 : l.length ≤ 12) (hl2 : re M 3 l2) (hl212 : l2.length ≤ 12) (hm : ∀ w ∈ l, w / 2048 % 4 < 3) (hm2 : ∀ w ∈ l2, w / 2048 % 4 < 3) : cr 106 3 73 [.ref 40, .int (nI s)] M (fun v M1 => v = some (.int (bI ((mg (fun w => w / 64) (fun w => ¬ w ∈ l ∧ ¬ kn (fun j => M 49 (3 * s + j)) w) l2 (mg (fun w => w / 64) (fun w => w ∈ l2 ∨ ¬ kn (fun j => M 49 (9 + j)) w) l [])).length ≤ 12))) ∧ re M1 4 (mg (fun w => w / 64) (fun w => ¬ w ∈ l ∧ ¬ kn (fun j => M 49 (3 * s + j)) w) l2 (mg (fun w => w / 64) (fun w => w ∈ l2 ∨ ¬ kn (fun j => M 49 (9 + j)) w) l [])) ∧ (∀ p j, ¬ (p = 50 ∧ j = 4) → ¬ (51 ≤ p ∧ p ≤ 54 ∧ 48 ≤ j) → M1 p j = M p j)) := by
  intro X J rc rs d lw hd hw
  show sm_wp tb_T X tb_ok d lw 106 0 [some (.ref 40), some (.int (nI s)), none] [] _ _
  have loop2 : ∀ (n i : Nat) (a : List Nat) (M2 : sm_M), i + n = l2.length → mg (fun w => w / 64) (fun w => ¬ w ∈ l ∧ ¬ kn (fun j => M 49 (3 * s + j)) w) (l2.drop i) a = (mg (fun w => w / 64) (fun w => ¬ w ∈ l ∧ ¬ kn (fun j => M 49 (3 * s + j)) w) l2 (mg (fun w => w / 64) (fun w => w ∈ l2 ∨ ¬ kn (fun j => M 49 (9 + j)) w) l [])) → (∀ p j, ¬ (p = 50 ∧ j = 4) → ¬ (51 ≤ p ∧ p ≤ 54 ∧ 48 ≤ j) → M2 p j = M p j) → re M2 4 a → a.length ≤ l.length + i → sm_wp tb_T X tb_ok d lw 106 84 [some (.ref 40), some (.int (nI s)), some (.int (nI (36 + i)))] [] (wSH, M2, J, rc, rs) (fun o h' => ∃ v M1, o = .inl v ∧ h' = (wSH, M1, J, rc, rs) ∧ v = some (.int (bI ((mg (fun w => w / 64) (fun w => ¬ w ∈ l ∧ ¬ kn (fun j => M 49 (3 * s + j)) w) l2 (mg (fun w => w / 64) (fun w => w ∈ l2 ∨ ¬ kn (fun j => M 49 (9 + j)) w) l [])).length ≤ 12))) ∧ re M1 4 (mg (fun w => w / 64) (fun w => ¬ w ∈ l ∧ ¬ kn (fun j => M 49 (3 * s + j)) w) l2 (mg (fun w => w / 64) (fun w => w ∈ l2 ∨ ¬ kn (fun j => M 49 (9 + j)) w) l [])) ∧ (∀ p j, ¬ (p = 50 ∧ j = 4) → ¬ (51 ≤ p ∧ p ≤ 54 ∧ 48 ≤ j) → M1 p j = M p j)) := by
    intro n
    induction n with
    | zero =>
      intro i a M2 hi hmg hfr hra hal
      obtain ⟨hsz2, hr2⟩ := re_keep (by omega) hl2 hl212 hfr
      rw [l_end (by omega)] at hmg
      have ea : a = (mg (fun w => w / 64) (fun w => ¬ w ∈ l ∧ ¬ kn (fun j => M 49 (3 * s + j)) w) l2 (mg (fun w => w / 64) (fun w => w ∈ l2 ∨ ¬ kn (fun j => M 49 (9 + j)) w) l [])) := hmg
      have hsz4 := hra.1
      refine go_il2 hf_106 rfl rfl ?_
      refine go_bipush hf_106 rfl rfl cb_36 ?_
      refine go_al0 hf_106 rfl rfl ?_
      refine go_getr hf_106 ho_106 rfl fl_6_38 rfl (by first | assumption | rfl) rfl ?_
      refine go_iconst hf_106 rfl rfl ci_3 ?_
      refine go_iald hf_106 rfl rfl (by first | assumption | rfl) (by first | rfl | assumption) (by first | exact rfl | assumption) (by omega) (by first | assumption | ((repeat rewrite [up_k]) <;> first | assumption | decide | omega) | exact rfl) ?_
      refine go_iadd hf_106 rfl rfl (by first | exact nI_add _ _ | exact rfl) ?_
      first | refine go_nn_ge hf_106 rfl rfl rfl (by omega) (by omega) (fun h94 => ?_) (fun h94 => absurd h94 (by omega)) | refine go_ic_ge hf_106 rfl rfl rfl (fun h94 => ?_) (fun h94 => absurd h94 (by omega))
      refine go_al0 hf_106 rfl rfl ?_
      refine go_getr hf_106 ho_106 rfl fl_6_38 rfl (by first | assumption | rfl) rfl ?_
      refine go_iconst hf_106 rfl rfl ci_4 ?_
      refine go_iald hf_106 rfl rfl (by first | assumption | rfl) (by first | rfl | assumption) (by first | exact rfl | assumption) (by omega) (by first | assumption | ((repeat rewrite [up_k]) <;> first | assumption | decide | omega) | exact rfl) ?_
      refine go_bipush hf_106 rfl rfl cb_12 ?_
      first | refine go_nn_gt hf_106 rfl rfl rfl (by omega) (by omega) (fun h159 => ?_) (fun h159 => ?_) | refine go_ic_gt hf_106 rfl rfl rfl (fun h159 => ?_) (fun h159 => ?_)
      · refine go_iconst hf_106 rfl rfl ci_0 ?_
        refine go_ret2 hf_106 rfl nl_106 (by first | exact Or.inl rfl | exact Or.inr rfl | assumption) ?_
        exact ⟨_, _, rfl, rfl, by rw [← ea, bI_f (by omega)], by rw [← ea]; exact hra, hfr⟩
      · refine go_iconst hf_106 rfl rfl ci_1 ?_
        refine go_goto hf_106 rfl rfl ?_
        refine go_ret2 hf_106 rfl nl_106 (by first | exact Or.inl rfl | exact Or.inr rfl | assumption) ?_
        exact ⟨_, _, rfl, rfl, by rw [← ea, bI_t (by omega)], by rw [← ea]; exact hra, hfr⟩
    | succ n ih =>
      intro i a M2 hi hmg hfr hra hal
      have hl2' := re_keep (by omega) hl2 hl212 hfr
      have hl' := re_keep (by omega) hl hl12 hfr
      obtain ⟨hsz2, hr2⟩ := hl2'
      obtain ⟨w, hw1⟩ := l_at (l := l2) (i := i) (by omega)
      obtain ⟨qq, hw2⟩ := hr2 i w hw1
      have qq : qd M2 (36 + i) w := qq
      obtain ⟨q1, q2, q3, q4⟩ := id qq
      have hmk := hm2 w (List.mem_of_getElem? hw1)
      rw [l_drop hw1] at hmg
      have ek : M2 49 = M 49 := by funext j; exact hfr _ _ (by omega) (by omega)
      obtain ⟨hsz4, hr4⟩ := id hra
      refine go_il2 hf_106 rfl rfl ?_
      refine go_bipush hf_106 rfl rfl cb_36 ?_
      refine go_al0 hf_106 rfl rfl ?_
      refine go_getr hf_106 ho_106 rfl fl_6_38 rfl (by first | assumption | rfl) rfl ?_
      refine go_iconst hf_106 rfl rfl ci_3 ?_
      refine go_iald hf_106 rfl rfl (by first | assumption | rfl) (by first | rfl | assumption) (by first | exact rfl | assumption) (by omega) (by first | assumption | ((repeat rewrite [up_k]) <;> first | assumption | decide | omega) | exact rfl) ?_
      refine go_iadd hf_106 rfl rfl (by first | exact nI_add _ _ | exact rfl) ?_
      first | refine go_nn_ge hf_106 rfl rfl rfl (by omega) (by omega) (fun h94 => absurd h94 (by omega)) (fun h94 => ?_) | refine go_ic_ge hf_106 rfl rfl rfl (fun h94 => absurd h94 (by omega)) (fun h94 => ?_)
      refine go_al0 hf_106 rfl rfl ?_
      refine go_il1 hf_106 rfl rfl ?_
      refine go_il2 hf_106 rfl rfl ?_
      refine go_call hf_106 rfl rfl (inv_v ho_106 cl_6_111) (by decide) nl_107 rfl rfl rfl rfl rfl (by first | rfl | exact rcv_of (by assumption)) rfl rfl rfl (by omega) (by omega) (r_holds (by omega) hl' hl12 (by omega) qq hw2) ?_
      intro v9 M9 h9
      rewrite [h9.1, h9.2]
      clear h9 v9 M9
      refine go_if_ne hf_106 rfl rfl rfl (fun h103 => ?_) (fun h103 => ?_)
      · refine go_ic2 hf_106 rfl rfl (by first | exact inc1 _ | exact rfl) ?_
        refine go_goto hf_106 rfl rfl ?_
        rw [mg_f (fun g => g.1 (bI_n0.mp h103))] at hmg
        exact ih (i + 1) a M2 (by omega) hmg hfr hra (by omega)
      · refine go_al0 hf_106 rfl rfl ?_
        refine go_il1 hf_106 rfl rfl ?_
        refine go_al0 hf_106 rfl rfl ?_
        refine go_getr hf_106 ho_106 rfl fl_6_47 rfl (by first | assumption | rfl) rfl ?_
        refine go_il2 hf_106 rfl rfl ?_
        refine go_iald hf_106 rfl rfl (by first | assumption | rfl) (by first | rfl | assumption) (by first | exact rfl | assumption) (by omega) (by first | assumption | ((repeat rewrite [up_k]) <;> first | assumption | decide | omega) | exact rfl) ?_
        refine go_al0 hf_106 rfl rfl ?_
        refine go_getr hf_106 ho_106 rfl fl_6_50 rfl (by first | assumption | rfl) rfl ?_
        refine go_il2 hf_106 rfl rfl ?_
        refine go_iald hf_106 rfl rfl (by first | assumption | rfl) (by first | rfl | assumption) (by first | exact rfl | assumption) (by omega) (by first | assumption | ((repeat rewrite [up_k]) <;> first | assumption | decide | omega) | exact rfl) ?_
        refine go_call hf_106 rfl rfl (inv_v ho_106 cl_6_114) (by decide) nl_105 rfl rfl rfl rfl rfl (by first | rfl | exact rcv_of (by assumption)) rfl rfl rfl (by omega) (by omega) (c_knows (by omega)) ?_
        intro v9 M9 h9
        rewrite [h9.1, h9.2, ek]
        clear h9 v9 M9
        refine go_if_ne hf_106 rfl rfl rfl (fun h123 => ?_) (fun h123 => ?_)
        · refine go_ic2 hf_106 rfl rfl (by first | exact inc1 _ | exact rfl) ?_
          refine go_goto hf_106 rfl rfl ?_
          rw [mg_f (fun g => g.2 ((kn_iff hmk).mpr (bI_n0.mp h123)))] at hmg
          exact ih (i + 1) a M2 (by omega) hmg hfr hra (by omega)
        · refine go_al0 hf_106 rfl rfl ?_
          refine go_il2 hf_106 rfl rfl ?_
          refine go_bipush hf_106 rfl rfl cb_48 ?_
          refine go_al0 hf_106 rfl rfl ?_
          refine go_getr hf_106 ho_106 rfl fl_6_38 rfl (by first | assumption | rfl) rfl ?_
          refine go_iconst hf_106 rfl rfl ci_4 ?_
          refine go_iald hf_106 rfl rfl (by first | assumption | rfl) (by first | rfl | assumption) (by first | exact rfl | assumption) (by omega) (by first | assumption | ((repeat rewrite [up_k]) <;> first | assumption | decide | omega) | exact rfl) ?_
          refine go_iadd hf_106 rfl rfl (by first | exact nI_add _ _ | exact rfl) ?_
          refine go_call hf_106 rfl rfl (inv_v ho_106 cl_6_107) (by decide) nl_80 rfl rfl rfl rfl rfl (by first | rfl | exact rcv_of (by assumption)) rfl rfl rfl (by omega) (by omega) (c_copy (by omega) (by omega)) ?_
          rintro v9 M9 ⟨rfl, rfl⟩
          refine go_al0 hf_106 rfl rfl ?_
          refine go_iconst hf_106 rfl rfl ci_4 ?_
          refine go_call hf_106 rfl rfl (inv_v ho_106 cl_6_118) (by decide) nl_82 rfl rfl rfl rfl rfl (by first | rfl | exact rcv_of (by assumption)) rfl rfl rfl (by omega) (by omega) (r_sink (s := 4) (l := a) (w := w) (by omega) (by omega) ⟨(st4_o (by omega)).trans hsz4, qrow_congr hr4 (fun p j _ _ _ => st4_o (by omega))⟩ (cp4_qd qq) hw2) ?_
          rintro v8 M8 ⟨rfl, i1, i2⟩
          refine go_ic2 hf_106 rfl rfl (by first | exact inc1 _ | exact rfl) ?_
          refine go_goto hf_106 rfl rfl ?_
          rw [mg_t ⟨bI_0.mp h103, fun g => bI_0.mp h123 ((kn_iff hmk).mp g)⟩] at hmg
          have ih1 := ih (i + 1) (insK (fun w => w / 64) w a) M8 (by omega) hmg ?_ i1 (by rw [insK_len]; omega)
          · exact ih1
          · intro p j g1 g2
            rw [i2 p j g1 (by omega), ← hfr p j g1 g2]
            exact st4_o (by omega)
  have loop1 : ∀ (n i : Nat) (a : List Nat) (M2 : sm_M), i + n = l.length → mg (fun w => w / 64) (fun w => w ∈ l2 ∨ ¬ kn (fun j => M 49 (9 + j)) w) (l.drop i) a = (mg (fun w => w / 64) (fun w => w ∈ l2 ∨ ¬ kn (fun j => M 49 (9 + j)) w) l []) → (∀ p j, ¬ (p = 50 ∧ j = 4) → ¬ (51 ≤ p ∧ p ≤ 54 ∧ 48 ≤ j) → M2 p j = M p j) → re M2 4 a → a.length ≤ i → sm_wp tb_T X tb_ok d lw 106 12 [some (.ref 40), some (.int (nI s)), some (.int (nI (12 * s + i)))] [] (wSH, M2, J, rc, rs) (fun o h' => ∃ v M1, o = .inl v ∧ h' = (wSH, M1, J, rc, rs) ∧ v = some (.int (bI ((mg (fun w => w / 64) (fun w => ¬ w ∈ l ∧ ¬ kn (fun j => M 49 (3 * s + j)) w) l2 (mg (fun w => w / 64) (fun w => w ∈ l2 ∨ ¬ kn (fun j => M 49 (9 + j)) w) l [])).length ≤ 12))) ∧ re M1 4 (mg (fun w => w / 64) (fun w => ¬ w ∈ l ∧ ¬ kn (fun j => M 49 (3 * s + j)) w) l2 (mg (fun w => w / 64) (fun w => w ∈ l2 ∨ ¬ kn (fun j => M 49 (9 + j)) w) l [])) ∧ (∀ p j, ¬ (p = 50 ∧ j = 4) → ¬ (51 ≤ p ∧ p ≤ 54 ∧ 48 ≤ j) → M1 p j = M p j)) := by
    intro n
    induction n with
    | zero =>
      intro i a M2 hi hmg hfr hra hal
      obtain ⟨hsz2, hr2⟩ := re_keep (by omega) hl hl12 hfr
      rw [l_end (by omega)] at hmg
      have ea : a = (mg (fun w => w / 64) (fun w => w ∈ l2 ∨ ¬ kn (fun j => M 49 (9 + j)) w) l []) := hmg
      refine go_il2 hf_106 rfl rfl ?_
      refine go_bipush hf_106 rfl rfl cb_12 ?_
      refine go_il1 hf_106 rfl rfl ?_
      refine go_imul hf_106 rfl rfl (by first | exact muln _ _ | exact rfl) ?_
      refine go_al0 hf_106 rfl rfl ?_
      refine go_getr hf_106 ho_106 rfl fl_6_38 rfl (by first | assumption | rfl) rfl ?_
      refine go_il1 hf_106 rfl rfl ?_
      refine go_iald hf_106 rfl rfl (by first | assumption | rfl) (by first | rfl | assumption) (by first | exact rfl | assumption) (by omega) (by first | assumption | ((repeat rewrite [up_k]) <;> first | assumption | decide | omega) | exact rfl) ?_
      refine go_iadd hf_106 rfl rfl (by first | exact nI_add _ _ | exact rfl) ?_
      first | refine go_nn_ge hf_106 rfl rfl rfl (by omega) (by omega) (fun h24 => ?_) (fun h24 => absurd h24 (by omega)) | refine go_ic_ge hf_106 rfl rfl rfl (fun h24 => ?_) (fun h24 => absurd h24 (by omega))
      refine go_bipush hf_106 rfl rfl cb_36 ?_
      refine go_is2 hf_106 rfl rfl ?_
      rw [ea] at hra hal
      exact loop2 l2.length 0 _ M2 (by omega) rfl hfr hra (by omega)
    | succ n ih =>
      intro i a M2 hi hmg hfr hra hal
      have hl2' := re_keep (by omega) hl2 hl212 hfr
      have hl' := re_keep (by omega) hl hl12 hfr
      obtain ⟨hsz2, hr2⟩ := hl'
      obtain ⟨w, hw1⟩ := l_at (l := l) (i := i) (by omega)
      obtain ⟨qq, hw2⟩ := hr2 i w hw1
      obtain ⟨q1, q2, q3, q4⟩ := id qq
      have hmk := hm w (List.mem_of_getElem? hw1)
      rw [l_drop hw1] at hmg
      have ek : M2 49 = M 49 := by funext j; exact hfr _ _ (by omega) (by omega)
      obtain ⟨hsz4, hr4⟩ := id hra
      refine go_il2 hf_106 rfl rfl ?_
      refine go_bipush hf_106 rfl rfl cb_12 ?_
      refine go_il1 hf_106 rfl rfl ?_
      refine go_imul hf_106 rfl rfl (by first | exact muln _ _ | exact rfl) ?_
      refine go_al0 hf_106 rfl rfl ?_
      refine go_getr hf_106 ho_106 rfl fl_6_38 rfl (by first | assumption | rfl) rfl ?_
      refine go_il1 hf_106 rfl rfl ?_
      refine go_iald hf_106 rfl rfl (by first | assumption | rfl) (by first | rfl | assumption) (by first | exact rfl | assumption) (by omega) (by first | assumption | ((repeat rewrite [up_k]) <;> first | assumption | decide | omega) | exact rfl) ?_
      refine go_iadd hf_106 rfl rfl (by first | exact nI_add _ _ | exact rfl) ?_
      first | refine go_nn_ge hf_106 rfl rfl rfl (by omega) (by omega) (fun h24 => absurd h24 (by omega)) (fun h24 => ?_) | refine go_ic_ge hf_106 rfl rfl rfl (fun h24 => absurd h24 (by omega)) (fun h24 => ?_)
      refine go_al0 hf_106 rfl rfl ?_
      refine go_iconst hf_106 rfl rfl ci_3 ?_
      refine go_il2 hf_106 rfl rfl ?_
      refine go_call hf_106 rfl rfl (inv_v ho_106 cl_6_111) (by decide) nl_107 rfl rfl rfl rfl rfl (by first | rfl | exact rcv_of (by assumption)) rfl rfl rfl (by omega) (by omega) (r_holds (by omega) hl2' hl212 (by omega) qq hw2) ?_
      intro v9 M9 h9
      rewrite [h9.1, h9.2]
      clear h9 v9 M9
      refine go_if_ne hf_106 rfl rfl rfl (fun h33 => ?_) (fun h33 => ?_)
      · refine go_al0 hf_106 rfl rfl ?_
        refine go_il2 hf_106 rfl rfl ?_
        refine go_bipush hf_106 rfl rfl cb_48 ?_
        refine go_al0 hf_106 rfl rfl ?_
        refine go_getr hf_106 ho_106 rfl fl_6_38 rfl (by first | assumption | rfl) rfl ?_
        refine go_iconst hf_106 rfl rfl ci_4 ?_
        refine go_iald hf_106 rfl rfl (by first | assumption | rfl) (by first | rfl | assumption) (by first | exact rfl | assumption) (by omega) (by first | assumption | ((repeat rewrite [up_k]) <;> first | assumption | decide | omega) | exact rfl) ?_
        refine go_iadd hf_106 rfl rfl (by first | exact nI_add _ _ | exact rfl) ?_
        refine go_call hf_106 rfl rfl (inv_v ho_106 cl_6_107) (by decide) nl_80 rfl rfl rfl rfl rfl (by first | rfl | exact rcv_of (by assumption)) rfl rfl rfl (by omega) (by omega) (c_copy (by omega) (by omega)) ?_
        rintro v9 M9 ⟨rfl, rfl⟩
        refine go_al0 hf_106 rfl rfl ?_
        refine go_iconst hf_106 rfl rfl ci_4 ?_
        refine go_call hf_106 rfl rfl (inv_v ho_106 cl_6_118) (by decide) nl_82 rfl rfl rfl rfl rfl (by first | rfl | exact rcv_of (by assumption)) rfl rfl rfl (by omega) (by omega) (r_sink (s := 4) (l := a) (w := w) (by omega) (by omega) ⟨(st4_o (by omega)).trans hsz4, qrow_congr hr4 (fun p j _ _ _ => st4_o (by omega))⟩ (cp4_qd qq) hw2) ?_
        rintro v8 M8 ⟨rfl, i1, i2⟩
        refine go_ic2 hf_106 rfl rfl (by first | exact inc1 _ | exact rfl) ?_
        refine go_goto hf_106 rfl rfl ?_
        rw [mg_t (Or.inl (bI_n0.mp h33))] at hmg
        have ih1 := ih (i + 1) (insK (fun w => w / 64) w a) M8 (by omega) hmg ?_ i1 (by rw [insK_len]; omega)
        · exact ih1
        · intro p j g1 g2
          rw [i2 p j g1 (by omega), ← hfr p j g1 g2]
          exact st4_o (by omega)
      · refine go_al0 hf_106 rfl rfl ?_
        refine go_iconst hf_106 rfl rfl ci_3 ?_
        refine go_al0 hf_106 rfl rfl ?_
        refine go_getr hf_106 ho_106 rfl fl_6_47 rfl (by first | assumption | rfl) rfl ?_
        refine go_il2 hf_106 rfl rfl ?_
        refine go_iald hf_106 rfl rfl (by first | assumption | rfl) (by first | rfl | assumption) (by first | exact rfl | assumption) (by omega) (by first | assumption | ((repeat rewrite [up_k]) <;> first | assumption | decide | omega) | exact rfl) ?_
        refine go_al0 hf_106 rfl rfl ?_
        refine go_getr hf_106 ho_106 rfl fl_6_50 rfl (by first | assumption | rfl) rfl ?_
        refine go_il2 hf_106 rfl rfl ?_
        refine go_iald hf_106 rfl rfl (by first | assumption | rfl) (by first | rfl | assumption) (by first | exact rfl | assumption) (by omega) (by first | assumption | ((repeat rewrite [up_k]) <;> first | assumption | decide | omega) | exact rfl) ?_
        refine go_call hf_106 rfl rfl (inv_v ho_106 cl_6_114) (by decide) nl_105 rfl rfl rfl rfl rfl (by first | rfl | exact rcv_of (by assumption)) rfl rfl rfl (by omega) (by omega) (c_knows (by omega)) ?_
        intro v9 M9 h9
        rewrite [h9.1, h9.2, ek]
        clear h9 v9 M9
        refine go_if_ne hf_106 rfl rfl rfl (fun h53 => ?_) (fun h53 => ?_)
        · refine go_ic2 hf_106 rfl rfl (by first | exact inc1 _ | exact rfl) ?_
          refine go_goto hf_106 rfl rfl ?_
          rw [mg_f (fun g => g.elim (bI_0.mp h33) (fun g => g ((kn_iff hmk).mpr (bI_n0.mp h53))))] at hmg
          exact ih (i + 1) a M2 (by omega) hmg hfr hra (by omega)
        · refine go_al0 hf_106 rfl rfl ?_
          refine go_il2 hf_106 rfl rfl ?_
          refine go_bipush hf_106 rfl rfl cb_48 ?_
          refine go_al0 hf_106 rfl rfl ?_
          refine go_getr hf_106 ho_106 rfl fl_6_38 rfl (by first | assumption | rfl) rfl ?_
          refine go_iconst hf_106 rfl rfl ci_4 ?_
          refine go_iald hf_106 rfl rfl (by first | assumption | rfl) (by first | rfl | assumption) (by first | exact rfl | assumption) (by omega) (by first | assumption | ((repeat rewrite [up_k]) <;> first | assumption | decide | omega) | exact rfl) ?_
          refine go_iadd hf_106 rfl rfl (by first | exact nI_add _ _ | exact rfl) ?_
          refine go_call hf_106 rfl rfl (inv_v ho_106 cl_6_107) (by decide) nl_80 rfl rfl rfl rfl rfl (by first | rfl | exact rcv_of (by assumption)) rfl rfl rfl (by omega) (by omega) (c_copy (by omega) (by omega)) ?_
          rintro v9 M9 ⟨rfl, rfl⟩
          refine go_al0 hf_106 rfl rfl ?_
          refine go_iconst hf_106 rfl rfl ci_4 ?_
          refine go_call hf_106 rfl rfl (inv_v ho_106 cl_6_118) (by decide) nl_82 rfl rfl rfl rfl rfl (by first | rfl | exact rcv_of (by assumption)) rfl rfl rfl (by omega) (by omega) (r_sink (s := 4) (l := a) (w := w) (by omega) (by omega) ⟨(st4_o (by omega)).trans hsz4, qrow_congr hr4 (fun p j _ _ _ => st4_o (by omega))⟩ (cp4_qd qq) hw2) ?_
          rintro v8 M8 ⟨rfl, i1, i2⟩
          refine go_ic2 hf_106 rfl rfl (by first | exact inc1 _ | exact rfl) ?_
          refine go_goto hf_106 rfl rfl ?_
          rw [mg_t (Or.inr (fun g => bI_0.mp h53 ((kn_iff hmk).mp g)))] at hmg
          have ih1 := ih (i + 1) (insK (fun w => w / 64) w a) M8 (by omega) hmg ?_ i1 (by rw [insK_len]; omega)
          · exact ih1
          · intro p j g1 g2
            rw [i2 p j g1 (by omega), ← hfr p j g1 g2]
            exact st4_o (by omega)
  refine go_al0 hf_106 rfl rfl ?_
  refine go_getr hf_106 ho_106 rfl fl_6_38 rfl (by first | assumption | rfl) rfl ?_
  refine go_iconst hf_106 rfl rfl ci_4 ?_
  refine go_iconst hf_106 rfl rfl ci_0 ?_
  refine go_iast hf_106 rfl rfl (by first | assumption | rfl) (by first | rfl | assumption) (by first | exact rfl | assumption) (by omega) ?_
  refine go_bipush hf_106 rfl rfl cb_12 ?_
  refine go_il1 hf_106 rfl rfl ?_
  refine go_imul hf_106 rfl rfl (by first | exact muln _ _ | exact rfl) ?_
  refine go_is2 hf_106 rfl rfl ?_
  refine loop1 l.length 0 [] _ (by omega) rfl (fun p j g1 g2 => up_o (by omega)) ⟨up_s, fun i w h => by cases h⟩ (by simp)
theorem r_adopt {M : sm_M} {s : Nat} {A : List Nat} (hs : s < 3) (hA : re M 4 A) (hA12 : A.length ≤ 12) : cr 108 2 47 [.ref 40, .int (nI s)] M (fun v M1 => v = none ∧ re M1 s A ∧ (∀ j, j < 3 → M1 49 (3 * s + j) = mxI (M 49 (3 * s + j)) (M 49 (9 + j))) ∧ (((M 46 s < M 46 3 ∨ M 46 3 = M 46 s ∧ M 47 3 < M 47 s) ∧ ∀ p, 46 ≤ p → p ≤ 48 → M1 p s = M p 3) ∨ (¬ (M 46 s < M 46 3 ∨ M 46 3 = M 46 s ∧ M 47 3 < M 47 s) ∧ ∀ p, 46 ≤ p → p ≤ 48 → M1 p s = M p s)) ∧ (∀ p j, ¬ (p = 50 ∧ j = s) → ¬ (51 ≤ p ∧ p ≤ 54 ∧ 12 * s ≤ j ∧ j < 12 * s + 12) → ¬ (p = 49 ∧ 3 * s ≤ j ∧ j < 3 * s + 3) → ¬ (46 ≤ p ∧ p ≤ 48 ∧ j = s) → M1 p j = M p j)) := by
  intro X J rc rs d lw hd hw
  show sm_wp tb_T X tb_ok d lw 108 0 [some (.ref 40), some (.int (nI s)), none, none] [] _ _
  obtain ⟨hsz, hr⟩ := hA
  have tail : ∀ (M2 : sm_M) (x2 x3 : Option Value), re M2 s A → (∀ j, j < 3 → M2 49 (3 * s + j) = mxI (M 49 (3 * s + j)) (M 49 (9 + j))) → (∀ p j, ¬ (p = 50 ∧ j = s) → ¬ (51 ≤ p ∧ p ≤ 54 ∧ 12 * s ≤ j ∧ j < 12 * s + 12) → ¬ (p = 49 ∧ 3 * s ≤ j ∧ j < 3 * s + 3) → M2 p j = M p j) → sm_wp tb_T X tb_ok d lw 108 105 [some (.ref 40), some (.int (nI s)), x2, x3] [] (wSH, M2, J, rc, rs) (fun o h' => ∃ v M1, o = .inl v ∧ h' = (wSH, M1, J, rc, rs) ∧ v = none ∧ re M1 s A ∧ (∀ j, j < 3 → M1 49 (3 * s + j) = mxI (M 49 (3 * s + j)) (M 49 (9 + j))) ∧ (((M 46 s < M 46 3 ∨ M 46 3 = M 46 s ∧ M 47 3 < M 47 s) ∧ ∀ p, 46 ≤ p → p ≤ 48 → M1 p s = M p 3) ∨ (¬ (M 46 s < M 46 3 ∨ M 46 3 = M 46 s ∧ M 47 3 < M 47 s) ∧ ∀ p, 46 ≤ p → p ≤ 48 → M1 p s = M p s)) ∧ (∀ p j, ¬ (p = 50 ∧ j = s) → ¬ (51 ≤ p ∧ p ≤ 54 ∧ 12 * s ≤ j ∧ j < 12 * s + 12) → ¬ (p = 49 ∧ 3 * s ≤ j ∧ j < 3 * s + 3) → ¬ (46 ≤ p ∧ p ≤ 48 ∧ j = s) → M1 p j = M p j)) := by
    intro M2 x2 x3 hra hvec hfr
    have e1 : ∀ p j, 46 ≤ p → p ≤ 48 → M2 p j = M p j := fun p j h1 h2 => hfr p j (by omega) (by omega) (by omega)
    have f1 : M2 46 3 = M 46 3 := e1 _ _ (by omega) (by omega)
    have f2 : M2 46 s = M 46 s := e1 _ _ (by omega) (by omega)
    have f3 : M2 47 3 = M 47 3 := e1 _ _ (by omega) (by omega)
    have f4 : M2 47 s = M 47 s := e1 _ _ (by omega) (by omega)
    have f5 : M2 48 3 = M 48 3 := e1 _ _ (by omega) (by omega)
    refine go_al0 hf_108 rfl rfl ?_
    refine go_getr hf_108 ho_108 rfl fl_6_26 rfl (by first | assumption | rfl) rfl ?_
    refine go_iconst hf_108 rfl rfl ci_3 ?_
    refine go_iald hf_108 rfl rfl (by first | assumption | rfl) (by first | rfl | assumption) (by first | exact rfl | assumption) (by omega) (by first | assumption | ((repeat rewrite [up_k]) <;> first | assumption | decide | omega) | exact rfl) ?_
    refine go_al0 hf_108 rfl rfl ?_
    refine go_getr hf_108 ho_108 rfl fl_6_26 rfl (by first | assumption | rfl) rfl ?_
    refine go_il1 hf_108 rfl rfl ?_
    refine go_iald hf_108 rfl rfl (by first | assumption | rfl) (by first | rfl | assumption) (by first | exact rfl | assumption) (by omega) (by first | assumption | ((repeat rewrite [up_k]) <;> first | assumption | decide | omega) | exact rfl) ?_
    refine go_ic_gt hf_108 rfl rfl rfl (fun h117 => ?_) (fun h117 => ?_)
    · refine go_iconst hf_108 rfl rfl ci_1 ?_
      refine go_goto hf_108 rfl rfl ?_
      refine go_is2 hf_108 rfl rfl ?_
      refine go_il2 hf_108 rfl rfl ?_
      refine go_if_eq hf_108 rfl rfl rfl (fun h157 => absurd h157 nI_10) (fun h157 => ?_)
      refine go_al0 hf_108 rfl rfl ?_
      refine go_getr hf_108 ho_108 rfl fl_6_26 rfl (by first | assumption | rfl) rfl ?_
      refine go_il1 hf_108 rfl rfl ?_
      refine go_al0 hf_108 rfl rfl ?_
      refine go_getr hf_108 ho_108 rfl fl_6_26 rfl (by first | assumption | rfl) rfl ?_
      refine go_iconst hf_108 rfl rfl ci_3 ?_
      refine go_iald hf_108 rfl rfl (by first | assumption | rfl) (by first | rfl | assumption) (by first | exact rfl | assumption) (by omega) (by first | assumption | ((repeat rewrite [up_k]) <;> first | assumption | decide | omega) | exact rfl) ?_
      refine go_iast hf_108 rfl rfl (by first | assumption | rfl) (by first | rfl | assumption) (by first | exact rfl | assumption) (by omega) ?_
      refine go_al0 hf_108 rfl rfl ?_
      refine go_getr hf_108 ho_108 rfl fl_6_29 rfl (by first | assumption | rfl) rfl ?_
      refine go_il1 hf_108 rfl rfl ?_
      refine go_al0 hf_108 rfl rfl ?_
      refine go_getr hf_108 ho_108 rfl fl_6_29 rfl (by first | assumption | rfl) rfl ?_
      refine go_iconst hf_108 rfl rfl ci_3 ?_
      refine go_iald hf_108 rfl rfl (by first | assumption | rfl) (by first | rfl | assumption) (by first | exact rfl | assumption) (by omega) (by first | assumption | ((repeat rewrite [up_k]) <;> first | assumption | decide | omega) | exact rfl) ?_
      refine go_iast hf_108 rfl rfl (by first | assumption | rfl) (by first | rfl | assumption) (by first | exact rfl | assumption) (by omega) ?_
      refine go_al0 hf_108 rfl rfl ?_
      refine go_getr hf_108 ho_108 rfl fl_6_32 rfl (by first | assumption | rfl) rfl ?_
      refine go_il1 hf_108 rfl rfl ?_
      refine go_al0 hf_108 rfl rfl ?_
      refine go_getr hf_108 ho_108 rfl fl_6_32 rfl (by first | assumption | rfl) rfl ?_
      refine go_iconst hf_108 rfl rfl ci_3 ?_
      refine go_iald hf_108 rfl rfl (by first | assumption | rfl) (by first | rfl | assumption) (by first | exact rfl | assumption) (by omega) (by first | assumption | ((repeat rewrite [up_k]) <;> first | assumption | decide | omega) | exact rfl) ?_
      refine go_iast hf_108 rfl rfl (by first | assumption | rfl) (by first | rfl | assumption) (by first | exact rfl | assumption) (by omega) ?_
      refine go_ret0 hf_108 rfl nl_108 ?_
      refine ⟨_, _, rfl, rfl, rfl, ⟨?_, ?_⟩, ?_, Or.inl ⟨Or.inl h117, ?_⟩, ?_⟩
      · rw [up_k (by omega), up_k (by omega), up_k (by omega)]; exact hra.1
      · exact qrow_congr hra.2 (fun p j _ _ _ => by rw [up_k (by omega), up_k (by omega), up_k (by omega)])
      · intro j hj; rw [up_k (by omega), up_k (by omega), up_k (by omega)]; exact hvec j hj
      · intro p g1 g2
        rcases (by omega : p = 46 ∨ p = 47 ∨ p = 48) with rfl | rfl | rfl
        · rw [up_k (by omega), up_k (by omega), up_s]
        · rw [up_k (by omega), up_s]
        · rw [up_s]
      · intro p j g1 g2 g3 g4; rw [up_o (by omega), up_o (by omega), up_o (by omega)]; exact hfr p j g1 g2 g3
    · refine go_al0 hf_108 rfl rfl ?_
      refine go_getr hf_108 ho_108 rfl fl_6_26 rfl (by first | assumption | rfl) rfl ?_
      refine go_iconst hf_108 rfl rfl ci_3 ?_
      refine go_iald hf_108 rfl rfl (by first | assumption | rfl) (by first | rfl | assumption) (by first | exact rfl | assumption) (by omega) (by first | assumption | ((repeat rewrite [up_k]) <;> first | assumption | decide | omega) | exact rfl) ?_
      refine go_al0 hf_108 rfl rfl ?_
      refine go_getr hf_108 ho_108 rfl fl_6_26 rfl (by first | assumption | rfl) rfl ?_
      refine go_il1 hf_108 rfl rfl ?_
      refine go_iald hf_108 rfl rfl (by first | assumption | rfl) (by first | rfl | assumption) (by first | exact rfl | assumption) (by omega) (by first | assumption | ((repeat rewrite [up_k]) <;> first | assumption | decide | omega) | exact rfl) ?_
      refine go_ic_ne hf_108 rfl rfl rfl (fun h132 => ?_) (fun h132 => ?_)
      · refine go_iconst hf_108 rfl rfl ci_0 ?_
        refine go_is2 hf_108 rfl rfl ?_
        refine go_il2 hf_108 rfl rfl ?_
        refine go_if_eq hf_108 rfl rfl rfl (fun h157 => ?_) (fun h157 => absurd rfl h157)
        refine go_ret0 hf_108 rfl nl_108 ?_
        exact ⟨_, _, rfl, rfl, rfl, hra, hvec, Or.inr ⟨fun g => g.elim (fun g => h117 g) (fun g => h132 g.1), fun p g1 g2 => e1 p s g1 g2⟩, fun p j g1 g2 g3 g4 => hfr p j g1 g2 g3⟩
      · refine go_al0 hf_108 rfl rfl ?_
        refine go_getr hf_108 ho_108 rfl fl_6_29 rfl (by first | assumption | rfl) rfl ?_
        refine go_iconst hf_108 rfl rfl ci_3 ?_
        refine go_iald hf_108 rfl rfl (by first | assumption | rfl) (by first | rfl | assumption) (by first | exact rfl | assumption) (by omega) (by first | assumption | ((repeat rewrite [up_k]) <;> first | assumption | decide | omega) | exact rfl) ?_
        refine go_al0 hf_108 rfl rfl ?_
        refine go_getr hf_108 ho_108 rfl fl_6_29 rfl (by first | assumption | rfl) rfl ?_
        refine go_il1 hf_108 rfl rfl ?_
        refine go_iald hf_108 rfl rfl (by first | assumption | rfl) (by first | rfl | assumption) (by first | exact rfl | assumption) (by omega) (by first | assumption | ((repeat rewrite [up_k]) <;> first | assumption | decide | omega) | exact rfl) ?_
        refine go_ic_ge hf_108 rfl rfl rfl (fun h147 => ?_) (fun h147 => ?_)
        · refine go_iconst hf_108 rfl rfl ci_0 ?_
          refine go_is2 hf_108 rfl rfl ?_
          refine go_il2 hf_108 rfl rfl ?_
          refine go_if_eq hf_108 rfl rfl rfl (fun h157 => ?_) (fun h157 => absurd rfl h157)
          refine go_ret0 hf_108 rfl nl_108 ?_
          exact ⟨_, _, rfl, rfl, rfl, hra, hvec, Or.inr ⟨fun g => g.elim (fun g => h117 g) (fun g => i32_nlt.mpr h147 g.2), fun p g1 g2 => e1 p s g1 g2⟩, fun p j g1 g2 g3 g4 => hfr p j g1 g2 g3⟩
        · refine go_iconst hf_108 rfl rfl ci_1 ?_
          refine go_goto hf_108 rfl rfl ?_
          refine go_is2 hf_108 rfl rfl ?_
          refine go_il2 hf_108 rfl rfl ?_
          refine go_if_eq hf_108 rfl rfl rfl (fun h157 => absurd h157 nI_10) (fun h157 => ?_)
          refine go_al0 hf_108 rfl rfl ?_
          refine go_getr hf_108 ho_108 rfl fl_6_26 rfl (by first | assumption | rfl) rfl ?_
          refine go_il1 hf_108 rfl rfl ?_
          refine go_al0 hf_108 rfl rfl ?_
          refine go_getr hf_108 ho_108 rfl fl_6_26 rfl (by first | assumption | rfl) rfl ?_
          refine go_iconst hf_108 rfl rfl ci_3 ?_
          refine go_iald hf_108 rfl rfl (by first | assumption | rfl) (by first | rfl | assumption) (by first | exact rfl | assumption) (by omega) (by first | assumption | ((repeat rewrite [up_k]) <;> first | assumption | decide | omega) | exact rfl) ?_
          refine go_iast hf_108 rfl rfl (by first | assumption | rfl) (by first | rfl | assumption) (by first | exact rfl | assumption) (by omega) ?_
          refine go_al0 hf_108 rfl rfl ?_
          refine go_getr hf_108 ho_108 rfl fl_6_29 rfl (by first | assumption | rfl) rfl ?_
          refine go_il1 hf_108 rfl rfl ?_
          refine go_al0 hf_108 rfl rfl ?_
          refine go_getr hf_108 ho_108 rfl fl_6_29 rfl (by first | assumption | rfl) rfl ?_
          refine go_iconst hf_108 rfl rfl ci_3 ?_
          refine go_iald hf_108 rfl rfl (by first | assumption | rfl) (by first | rfl | assumption) (by first | exact rfl | assumption) (by omega) (by first | assumption | ((repeat rewrite [up_k]) <;> first | assumption | decide | omega) | exact rfl) ?_
          refine go_iast hf_108 rfl rfl (by first | assumption | rfl) (by first | rfl | assumption) (by first | exact rfl | assumption) (by omega) ?_
          refine go_al0 hf_108 rfl rfl ?_
          refine go_getr hf_108 ho_108 rfl fl_6_32 rfl (by first | assumption | rfl) rfl ?_
          refine go_il1 hf_108 rfl rfl ?_
          refine go_al0 hf_108 rfl rfl ?_
          refine go_getr hf_108 ho_108 rfl fl_6_32 rfl (by first | assumption | rfl) rfl ?_
          refine go_iconst hf_108 rfl rfl ci_3 ?_
          refine go_iald hf_108 rfl rfl (by first | assumption | rfl) (by first | rfl | assumption) (by first | exact rfl | assumption) (by omega) (by first | assumption | ((repeat rewrite [up_k]) <;> first | assumption | decide | omega) | exact rfl) ?_
          refine go_iast hf_108 rfl rfl (by first | assumption | rfl) (by first | rfl | assumption) (by first | exact rfl | assumption) (by omega) ?_
          refine go_ret0 hf_108 rfl nl_108 ?_
          refine ⟨_, _, rfl, rfl, rfl, ⟨?_, ?_⟩, ?_, Or.inl ⟨Or.inr ⟨h132, i32_nle.mp h147⟩, ?_⟩, ?_⟩
          · rw [up_k (by omega), up_k (by omega), up_k (by omega)]; exact hra.1
          · exact qrow_congr hra.2 (fun p j _ _ _ => by rw [up_k (by omega), up_k (by omega), up_k (by omega)])
          · intro j hj; rw [up_k (by omega), up_k (by omega), up_k (by omega)]; exact hvec j hj
          · intro p g1 g2
            rcases (by omega : p = 46 ∨ p = 47 ∨ p = 48) with rfl | rfl | rfl
            · rw [up_k (by omega), up_k (by omega), up_s]
            · rw [up_k (by omega), up_s]
            · rw [up_s]
          · intro p j g1 g2 g3 g4; rw [up_o (by omega), up_o (by omega), up_o (by omega)]; exact hfr p j g1 g2 g3
  have loop2 : ∀ (n i : Nat) (M2 : sm_M) (x3 : Option Value), i + n = 3 → re M2 s A → (∀ j, j < i → M2 49 (3 * s + j) = mxI (M 49 (3 * s + j)) (M 49 (9 + j))) → (∀ j, i ≤ j → j < 3 → M2 49 (3 * s + j) = M 49 (3 * s + j)) → (∀ p j, ¬ (p = 50 ∧ j = s) → ¬ (51 ≤ p ∧ p ≤ 54 ∧ 12 * s ≤ j ∧ j < 12 * s + 12) → ¬ (p = 49 ∧ 3 * s ≤ j ∧ j < 3 * s + 3) → M2 p j = M p j) → sm_wp tb_T X tb_ok d lw 108 46 [some (.ref 40), some (.int (nI s)), some (.int (nI i)), x3] [] (wSH, M2, J, rc, rs) (fun o h' => ∃ v M1, o = .inl v ∧ h' = (wSH, M1, J, rc, rs) ∧ v = none ∧ re M1 s A ∧ (∀ j, j < 3 → M1 49 (3 * s + j) = mxI (M 49 (3 * s + j)) (M 49 (9 + j))) ∧ (((M 46 s < M 46 3 ∨ M 46 3 = M 46 s ∧ M 47 3 < M 47 s) ∧ ∀ p, 46 ≤ p → p ≤ 48 → M1 p s = M p 3) ∨ (¬ (M 46 s < M 46 3 ∨ M 46 3 = M 46 s ∧ M 47 3 < M 47 s) ∧ ∀ p, 46 ≤ p → p ≤ 48 → M1 p s = M p s)) ∧ (∀ p j, ¬ (p = 50 ∧ j = s) → ¬ (51 ≤ p ∧ p ≤ 54 ∧ 12 * s ≤ j ∧ j < 12 * s + 12) → ¬ (p = 49 ∧ 3 * s ≤ j ∧ j < 3 * s + 3) → ¬ (46 ≤ p ∧ p ≤ 48 ∧ j = s) → M1 p j = M p j)) := by
    intro n
    induction n with
    | zero =>
      intro i M2 x3 hi hra h1 h2 hfr
      refine go_il2 hf_108 rfl rfl ?_
      refine go_iconst hf_108 rfl rfl ci_3 ?_
      first | refine go_nn_ge hf_108 rfl rfl rfl (by omega) (by omega) (fun h48 => ?_) (fun h48 => absurd h48 (by omega)) | refine go_ic_ge hf_108 rfl rfl rfl (fun h48 => ?_) (fun h48 => absurd h48 (by omega))
      exact tail M2 _ _ hra (fun j hj => h1 j (by omega)) hfr
    | succ n ih =>
      intro i M2 x3 hi hra h1 h2 hfr
      have e1 : M2 49 (9 + i) = M 49 (9 + i) := hfr _ _ (by omega) (by omega) (by omega)
      have e2 : M2 49 (3 * s + i) = M 49 (3 * s + i) := h2 i (Nat.le_refl i) (by omega)
      refine go_il2 hf_108 rfl rfl ?_
      refine go_iconst hf_108 rfl rfl ci_3 ?_
      first | refine go_nn_ge hf_108 rfl rfl rfl (by omega) (by omega) (fun h48 => absurd h48 (by omega)) (fun h48 => ?_) | refine go_ic_ge hf_108 rfl rfl rfl (fun h48 => absurd h48 (by omega)) (fun h48 => ?_)
      refine go_al0 hf_108 rfl rfl ?_
      refine go_getr hf_108 ho_108 rfl fl_6_35 rfl (by first | assumption | rfl) rfl ?_
      refine go_bipush hf_108 rfl rfl cb_9 ?_
      refine go_il2 hf_108 rfl rfl ?_
      refine go_iadd hf_108 rfl rfl (by first | exact nI_add _ _ | exact rfl) ?_
      refine go_iald hf_108 rfl rfl (by first | assumption | rfl) (by first | rfl | assumption) (by first | exact rfl | assumption) (by omega) (by first | assumption | ((repeat rewrite [up_k]) <;> first | assumption | decide | omega) | exact rfl) ?_
      refine go_is3 hf_108 rfl rfl ?_
      refine go_al0 hf_108 rfl rfl ?_
      refine go_getr hf_108 ho_108 rfl fl_6_35 rfl (by first | assumption | rfl) rfl ?_
      refine go_iconst hf_108 rfl rfl ci_3 ?_
      refine go_il1 hf_108 rfl rfl ?_
      refine go_imul hf_108 rfl rfl (by first | exact muln _ _ | exact rfl) ?_
      refine go_il2 hf_108 rfl rfl ?_
      refine go_iadd hf_108 rfl rfl (by first | exact nI_add _ _ | exact rfl) ?_
      refine go_il3 hf_108 rfl rfl ?_
      refine go_al0 hf_108 rfl rfl ?_
      refine go_getr hf_108 ho_108 rfl fl_6_35 rfl (by first | assumption | rfl) rfl ?_
      refine go_iconst hf_108 rfl rfl ci_3 ?_
      refine go_il1 hf_108 rfl rfl ?_
      refine go_imul hf_108 rfl rfl (by first | exact muln _ _ | exact rfl) ?_
      refine go_il2 hf_108 rfl rfl ?_
      refine go_iadd hf_108 rfl rfl (by first | exact nI_add _ _ | exact rfl) ?_
      refine go_iald hf_108 rfl rfl (by first | assumption | rfl) (by first | rfl | assumption) (by first | exact rfl | assumption) (by omega) (by first | assumption | ((repeat rewrite [up_k]) <;> first | assumption | decide | omega) | exact rfl) ?_
      refine go_ic_le hf_108 rfl rfl rfl (fun h81 => ?_) (fun h81 => ?_)
      · refine go_al0 hf_108 rfl rfl ?_
        refine go_getr hf_108 ho_108 rfl fl_6_35 rfl (by first | assumption | rfl) rfl ?_
        refine go_iconst hf_108 rfl rfl ci_3 ?_
        refine go_il1 hf_108 rfl rfl ?_
        refine go_imul hf_108 rfl rfl (by first | exact muln _ _ | exact rfl) ?_
        refine go_il2 hf_108 rfl rfl ?_
        refine go_iadd hf_108 rfl rfl (by first | exact nI_add _ _ | exact rfl) ?_
        refine go_iald hf_108 rfl rfl (by first | assumption | rfl) (by first | rfl | assumption) (by first | exact rfl | assumption) (by omega) (by first | assumption | ((repeat rewrite [up_k]) <;> first | assumption | decide | omega) | exact rfl) ?_
        refine go_iast hf_108 rfl rfl (by first | assumption | rfl) (by first | rfl | assumption) (by first | exact rfl | assumption) (by omega) ?_
        refine go_ic2 hf_108 rfl rfl (by first | exact inc1 _ | exact rfl) ?_
        refine go_goto hf_108 rfl rfl ?_
        skip
        refine ih (i + 1) _ _ (by omega) ⟨by rw [up_k (by omega)]; exact hra.1, qrow_congr hra.2 (fun p j _ _ _ => up_k (by omega))⟩ (fun j hj => ?_) (fun j hj hj2 => ?_) (fun p j g1 g2 g3 => ?_)
        · by_cases hj2 : j = i
          · subst hj2; rw [up_s]; unfold mxI; rw [if_neg (i32_nlt.mpr h81)]
          · rw [up_i (by omega)]; exact h1 j (by omega)
        · rw [up_i (by omega)]; exact h2 j (by omega) hj2
        · rw [up_o (by omega)]; exact hfr p j g1 g2 g3
      · refine go_il3 hf_108 rfl rfl ?_
        refine go_goto hf_108 rfl rfl ?_
        refine go_iast hf_108 rfl rfl (by first | assumption | rfl) (by first | rfl | assumption) (by first | exact rfl | assumption) (by omega) ?_
        refine go_ic2 hf_108 rfl rfl (by first | exact inc1 _ | exact rfl) ?_
        refine go_goto hf_108 rfl rfl ?_
        have h81 := i32_nle.mp h81
        refine ih (i + 1) _ _ (by omega) ⟨by rw [up_k (by omega)]; exact hra.1, qrow_congr hra.2 (fun p j _ _ _ => up_k (by omega))⟩ (fun j hj => ?_) (fun j hj hj2 => ?_) (fun p j g1 g2 g3 => ?_)
        · by_cases hj2 : j = i
          · subst hj2; rw [up_s]; unfold mxI; rw [if_pos h81]
          · rw [up_i (by omega)]; exact h1 j (by omega)
        · rw [up_i (by omega)]; exact h2 j (by omega) hj2
        · rw [up_o (by omega)]; exact hfr p j g1 g2 g3
  have loop1 : ∀ (n i : Nat) (M2 : sm_M), i + n = A.length → M2 50 s = nI A.length → (∀ j w, j < i → A[j]? = some w → qd M2 (12 * s + j) w) → (∀ p j, ¬ (p = 50 ∧ j = s) → ¬ (51 ≤ p ∧ p ≤ 54 ∧ 12 * s ≤ j ∧ j < 12 * s + 12) → M2 p j = M p j) → sm_wp tb_T X tb_ok d lw 108 14 [some (.ref 40), some (.int (nI s)), some (.int (nI i)), none] [] (wSH, M2, J, rc, rs) (fun o h' => ∃ v M1, o = .inl v ∧ h' = (wSH, M1, J, rc, rs) ∧ v = none ∧ re M1 s A ∧ (∀ j, j < 3 → M1 49 (3 * s + j) = mxI (M 49 (3 * s + j)) (M 49 (9 + j))) ∧ (((M 46 s < M 46 3 ∨ M 46 3 = M 46 s ∧ M 47 3 < M 47 s) ∧ ∀ p, 46 ≤ p → p ≤ 48 → M1 p s = M p 3) ∨ (¬ (M 46 s < M 46 3 ∨ M 46 3 = M 46 s ∧ M 47 3 < M 47 s) ∧ ∀ p, 46 ≤ p → p ≤ 48 → M1 p s = M p s)) ∧ (∀ p j, ¬ (p = 50 ∧ j = s) → ¬ (51 ≤ p ∧ p ≤ 54 ∧ 12 * s ≤ j ∧ j < 12 * s + 12) → ¬ (p = 49 ∧ 3 * s ≤ j ∧ j < 3 * s + 3) → ¬ (46 ≤ p ∧ p ≤ 48 ∧ j = s) → M1 p j = M p j)) := by
    intro n
    induction n with
    | zero =>
      intro i M2 hi hz h1 hfr
      have hsz2 : M2 50 4 = nI A.length := by rw [hfr _ _ (by omega) (by omega)]; exact hsz
      refine go_il2 hf_108 rfl rfl ?_
      refine go_al0 hf_108 rfl rfl ?_
      refine go_getr hf_108 ho_108 rfl fl_6_38 rfl (by first | assumption | rfl) rfl ?_
      refine go_iconst hf_108 rfl rfl ci_4 ?_
      refine go_iald hf_108 rfl rfl (by first | assumption | rfl) (by first | rfl | assumption) (by first | exact rfl | assumption) (by omega) (by first | assumption | ((repeat rewrite [up_k]) <;> first | assumption | decide | omega) | exact rfl) ?_
      first | refine go_nn_ge hf_108 rfl rfl rfl (by omega) (by omega) (fun h21 => ?_) (fun h21 => absurd h21 (by omega)) | refine go_ic_ge hf_108 rfl rfl rfl (fun h21 => ?_) (fun h21 => absurd h21 (by omega))
      refine go_iconst hf_108 rfl rfl ci_0 ?_
      refine go_is2 hf_108 rfl rfl ?_
      exact loop2 3 0 M2 _ (by omega) ⟨hz, fun j w hj => ⟨h1 j w (by have := l_lt hj; omega) hj, (hr j w hj).2⟩⟩ (fun j hj => absurd hj (Nat.not_lt_zero j)) (fun j _ _ => hfr _ _ (by omega) (by omega)) (fun p j g1 g2 _ => hfr p j g1 g2)
    | succ n ih =>
      intro i M2 hi hz h1 hfr
      have hsz2 : M2 50 4 = nI A.length := by rw [hfr _ _ (by omega) (by omega)]; exact hsz
      obtain ⟨w, hw1⟩ := l_at (l := A) (i := i) (by omega)
      have qq : qd M2 (48 + i) w := qd_congr (hr i w hw1).1 (hfr _ _ (by omega) (by omega)) (hfr _ _ (by omega) (by omega)) (hfr _ _ (by omega) (by omega)) (hfr _ _ (by omega) (by omega))
      refine go_il2 hf_108 rfl rfl ?_
      refine go_al0 hf_108 rfl rfl ?_
      refine go_getr hf_108 ho_108 rfl fl_6_38 rfl (by first | assumption | rfl) rfl ?_
      refine go_iconst hf_108 rfl rfl ci_4 ?_
      refine go_iald hf_108 rfl rfl (by first | assumption | rfl) (by first | rfl | assumption) (by first | exact rfl | assumption) (by omega) (by first | assumption | ((repeat rewrite [up_k]) <;> first | assumption | decide | omega) | exact rfl) ?_
      first | refine go_nn_ge hf_108 rfl rfl rfl (by omega) (by omega) (fun h21 => absurd h21 (by omega)) (fun h21 => ?_) | refine go_ic_ge hf_108 rfl rfl rfl (fun h21 => absurd h21 (by omega)) (fun h21 => ?_)
      refine go_al0 hf_108 rfl rfl ?_
      refine go_bipush hf_108 rfl rfl cb_48 ?_
      refine go_il2 hf_108 rfl rfl ?_
      refine go_iadd hf_108 rfl rfl (by first | exact nI_add _ _ | exact rfl) ?_
      refine go_bipush hf_108 rfl rfl cb_12 ?_
      refine go_il1 hf_108 rfl rfl ?_
      refine go_imul hf_108 rfl rfl (by first | exact muln _ _ | exact rfl) ?_
      refine go_il2 hf_108 rfl rfl ?_
      refine go_iadd hf_108 rfl rfl (by first | exact nI_add _ _ | exact rfl) ?_
      refine go_call hf_108 rfl rfl (inv_v ho_108 cl_6_107) (by decide) nl_80 rfl rfl rfl rfl rfl (by first | rfl | exact rcv_of (by assumption)) rfl rfl rfl (by omega) (by omega) (c_copy (by omega) (by omega)) ?_
      rintro v9 M9 ⟨rfl, rfl⟩
      refine go_ic2 hf_108 rfl rfl (by first | exact inc1 _ | exact rfl) ?_
      refine go_goto hf_108 rfl rfl ?_
      refine ih (i + 1) _ (by omega) ((st4_o (by omega)).trans hz) (fun j y hj hy => ?_) (fun p j g1 g2 => (st4_o (by omega)).trans (hfr p j g1 g2))
      by_cases hj2 : j = i
      · subst hj2
        rw [hw1] at hy
        cases hy
        exact cp4_qd qq
      · exact qd_congr (h1 j y (by omega) hy) (st4_o (by omega)) (st4_o (by omega)) (st4_o (by omega)) (st4_o (by omega))
  refine go_al0 hf_108 rfl rfl ?_
  refine go_getr hf_108 ho_108 rfl fl_6_38 rfl (by first | assumption | rfl) rfl ?_
  refine go_il1 hf_108 rfl rfl ?_
  refine go_al0 hf_108 rfl rfl ?_
  refine go_getr hf_108 ho_108 rfl fl_6_38 rfl (by first | assumption | rfl) rfl ?_
  refine go_iconst hf_108 rfl rfl ci_4 ?_
  refine go_iald hf_108 rfl rfl (by first | assumption | rfl) (by first | rfl | assumption) (by first | exact rfl | assumption) (by omega) (by first | assumption | ((repeat rewrite [up_k]) <;> first | assumption | decide | omega) | exact rfl) ?_
  refine go_iast hf_108 rfl rfl (by first | assumption | rfl) (by first | rfl | assumption) (by first | exact rfl | assumption) (by omega) ?_
  refine go_iconst hf_108 rfl rfl ci_0 ?_
  refine go_is2 hf_108 rfl rfl ?_
  exact loop1 A.length 0 _ (by omega) up_s (fun j w hj => absurd hj (Nat.not_lt_zero j)) (fun p j g1 g2 => up_o (by omega))
