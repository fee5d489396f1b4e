/-! ===== terms ===== -/
abbrev T3 : Type := Int32 × Int32 × Int32
def tm (n : Int32) (a b c : Nat → Int32) (ts : List T3) : Prop := n = nI ts.length ∧ ts.length ≤ 900 ∧ ∀ i x, ts[i]? = some x → a i = x.1 ∧ b i = x.2.1 ∧ c i = x.2.2
def uq (ts : List T3) : Prop := ∀ (i j : Nat) (z : T3), ts[i]? = some z → ts[j]? = some z → i = j
theorem t_lt {l : List T3} {i : Nat} {w : T3} (h : l[i]? = some w) : i < l.length := (List.getElem?_eq_some_iff.mp h).1
theorem t_at {l : List T3} {i : Nat} (h : i < l.length) : ∃ w, l[i]? = some w := ⟨l[i], List.getElem?_eq_getElem h⟩
theorem t_snoc {l : List T3} {x z : T3} {i : Nat} (h : (l ++ [x])[i]? = some z) : (i < l.length ∧ l[i]? = some z) ∨ (i = l.length ∧ z = x) := by
  rcases Nat.lt_trichotomy i l.length with hi | hi | hi
  · rw [List.getElem?_append_left hi] at h
    exact Or.inl ⟨hi, h⟩
  · subst hi
    simp at h
    exact Or.inr ⟨rfl, h.symm⟩
  · rw [List.getElem?_eq_none (by simp; omega)] at h
    cases h
theorem t_app {l r : List T3} {z : T3} {i : Nat} (h : l[i]? = some z) : (l ++ r)[i]? = some z := by
  rw [List.getElem?_append_left (t_lt h)]
  exact h
theorem uq_snoc {ts : List T3} {x : T3} (h : uq ts) (hn : ¬ ∃ i : Nat, ts[i]? = some x) : uq (ts ++ [x]) := by
  intro i j z hi hj
  rcases t_snoc hi with ⟨i1, i2⟩ | ⟨i1, i2⟩ <;> rcases t_snoc hj with ⟨j1, j2⟩ | ⟨j1, j2⟩
  · exact h i j z i2 j2
  · exact absurd ⟨i, by rw [i2, j2]⟩ hn
  · exact absurd ⟨j, by rw [j2, i2]⟩ hn
  · rw [i1, j1]
theorem tm_snoc {n n' : Int32} {a b c a' b' c' : Nat → Int32} {ts : List T3} {x : T3} (h : tm n a b c ts) (hl : ts.length < 900) (hn : n' = nI (ts.length + 1)) (ho : ∀ i, i < ts.length → a' i = a i ∧ b' i = b i ∧ c' i = c i) (hx : a' ts.length = x.1 ∧ b' ts.length = x.2.1 ∧ c' ts.length = x.2.2) : tm n' a' b' c' (ts ++ [x]) := by
  obtain ⟨h1, h2, h3⟩ := h
  refine ⟨by rw [hn]; simp, by simp; omega, fun i y hy => ?_⟩
  rcases t_snoc hy with ⟨i1, i2⟩ | ⟨i1, i2⟩
  · obtain ⟨o1, o2, o3⟩ := ho i i1
    rw [o1, o2, o3]
    exact h3 i y i2
  · subst i1
    subst i2
    exact hx
noncomputable def fnd (ts : List T3) (z : T3) : Int32 := @dite _ (∃ i : Nat, ts[i]? = some z) (Classical.propDecidable _) (fun h => nI (Classical.choose h)) (fun _ => -1)
theorem fnd_at {ts : List T3} {z : T3} {i : Nat} (hu : uq ts) (h : ts[i]? = some z) : fnd ts z = nI i := by
  unfold fnd
  have he : ∃ i : Nat, ts[i]? = some z := ⟨i, h⟩
  rw [dif_pos he]
  rw [hu _ _ _ (Classical.choose_spec he) h]
theorem fnd_no {ts : List T3} {z : T3} (h : ¬ ∃ i : Nat, ts[i]? = some z) : fnd ts z = -1 := by
  unfold fnd
  rw [dif_neg h]
/-- the class's make: FULL is -2 -/
noncomputable def mkC (ts : List T3) (k x y : Int32) : List T3 × Int32 := @ite _ (x = -2 ∨ y = -2) (Classical.propDecidable _) (ts, -2) (@ite _ (∃ i : Nat, ts[i]? = some (k, x, y)) (Classical.propDecidable _) (ts, fnd ts (k, x, y)) (if 900 ≤ ts.length then (ts, -2) else (ts ++ [(k, x, y)], nI ts.length)))
/-- the reference's make: it remembers that there was no room -/
noncomputable def mkR (s : List T3 × Bool) (k x y : Int32) : (List T3 × Bool) × Int32 := @ite _ (∃ i : Nat, s.1[i]? = some (k, x, y)) (Classical.propDecidable _) (s, fnd s.1 (k, x, y)) (if s.2 = true then (s, -1) else if 900 ≤ s.1.length then ((s.1, true), -1) else ((s.1 ++ [(k, x, y)], false), nI s.1.length))
theorem mkC_full {ts : List T3} {k x y : Int32} (h : x = -2 ∨ y = -2) : mkC ts k x y = (ts, -2) := if_pos h
theorem mkC_there {ts : List T3} {k x y : Int32} (h : ¬ (x = -2 ∨ y = -2)) (h2 : ∃ i : Nat, ts[i]? = some (k, x, y)) : mkC ts k x y = (ts, fnd ts (k, x, y)) := by
  unfold mkC
  rw [if_neg h, if_pos h2]
theorem mkC_no {ts : List T3} {k x y : Int32} (h : ¬ (x = -2 ∨ y = -2)) (h2 : ¬ ∃ i : Nat, ts[i]? = some (k, x, y)) (h3 : 900 ≤ ts.length) : mkC ts k x y = (ts, -2) := by
  unfold mkC
  rw [if_neg h, if_neg h2, if_pos h3]
theorem mkC_new {ts : List T3} {k x y : Int32} (h : ¬ (x = -2 ∨ y = -2)) (h2 : ¬ ∃ i : Nat, ts[i]? = some (k, x, y)) (h3 : ¬ 900 ≤ ts.length) : mkC ts k x y = (ts ++ [(k, x, y)], nI ts.length) := by
  unfold mkC
  rw [if_neg h, if_neg h2, if_neg h3]
theorem mkR_there {s : List T3 × Bool} {k x y : Int32} (h2 : ∃ i : Nat, s.1[i]? = some (k, x, y)) : mkR s k x y = (s, fnd s.1 (k, x, y)) := if_pos h2
theorem mkR_over {s : List T3 × Bool} {k x y : Int32} (h2 : ¬ ∃ i : Nat, s.1[i]? = some (k, x, y)) (h : s.2 = true) : mkR s k x y = (s, -1) := by
  unfold mkR
  rw [if_neg h2, if_pos h]
theorem mkR_no {s : List T3 × Bool} {k x y : Int32} (h2 : ¬ ∃ i : Nat, s.1[i]? = some (k, x, y)) (h : ¬ s.2 = true) (h3 : 900 ≤ s.1.length) : mkR s k x y = ((s.1, true), -1) := by
  unfold mkR
  rw [if_neg h2, if_neg h, if_pos h3]
theorem mkR_new {s : List T3 × Bool} {k x y : Int32} (h2 : ¬ ∃ i : Nat, s.1[i]? = some (k, x, y)) (h : ¬ s.2 = true) (h3 : ¬ 900 ≤ s.1.length) : mkR s k x y = ((s.1 ++ [(k, x, y)], false), nI s.1.length) := by
  unfold mkR
  rw [if_neg h2, if_neg h, if_neg h3]
/-- the last one before n with this y -/
def prv (ts : List T3) (y : Int32) : Nat → Int32
  | 0 => -1
  | n + 1 => if ts[n]?.map (fun x => x.2.2) = some y then nI n else prv ts y n
theorem prv_t {ts : List T3} {y : Int32} {n : Nat} {x : T3} (h : ts[n]? = some x) (hy : x.2.2 = y) : prv ts y (n + 1) = nI n := by
  unfold prv
  rw [if_pos (by rw [h]; exact congrArg some hy)]
theorem prv_f {ts : List T3} {y : Int32} {n : Nat} {x : T3} (h : ts[n]? = some x) (hy : ¬ x.2.2 = y) : prv ts y (n + 1) = prv ts y n := by
  show (if _ then _ else _) = _
  rw [if_neg]
  rw [h]
  intro e
  exact hy (Option.some.inj e)
theorem prv_app {ts r : List T3} {y : Int32} : ∀ (n : Nat), n ≤ ts.length → prv (ts ++ r) y n = prv ts y n := by
  intro n
  induction n with
  | zero => intro _; rfl
  | succ n ih =>
    intro hn
    unfold prv
    rw [List.getElem?_append_left (by omega), ih (by omega)]
theorem prv_spec {ts : List T3} {y : Int32} : ∀ (n : Nat), n ≤ ts.length → (prv ts y n = -1 ∧ ∀ i x, i < n → ts[i]? = some x → ¬ x.2.2 = y) ∨ ∃ i x, i < n ∧ prv ts y n = nI i ∧ ts[i]? = some x ∧ x.2.2 = y ∧ ∀ j z, i < j → j < n → ts[j]? = some z → ¬ z.2.2 = y := by
  intro n
  induction n with
  | zero => intro _; exact Or.inl ⟨rfl, fun i x h => absurd h (Nat.not_lt_zero i)⟩
  | succ n ih =>
    intro hn
    obtain ⟨x, hx⟩ := t_at (l := ts) (i := n) (by omega)
    by_cases hy : x.2.2 = y
    · exact Or.inr ⟨n, x, by omega, prv_t hx hy, hx, hy, fun j z h1 h2 => absurd h1 (by omega)⟩
    · rcases ih (by omega) with ⟨h1, h2⟩ | ⟨i, z, h1, h2, h3, h4, h5⟩
      · refine Or.inl ⟨by rw [prv_f hx hy]; exact h1, fun i u hi hu => ?_⟩
        by_cases hin : i = n
        · subst hin
          rw [hx] at hu
          cases hu
          exact hy
        · exact h2 i u (by omega) hu
      · refine Or.inr ⟨i, z, by omega, by rw [prv_f hx hy]; exact h2, h3, h4, fun j u hj1 hj2 hu => ?_⟩
        by_cases hin : j = n
        · subst hin
          rw [hx] at hu
          cases hu
          exact hy
        · exact h5 j u hj1 (by omega) hu
/-- the chains -/
def okY (y : Int32) (s : Nat) : Prop := y + nI 1 = nI s ∧ s ≤ 900
theorem okY_m1 : okY (-1) 0 := ⟨by decide, by omega⟩
theorem okY_n {b : Nat} (h : b < 900) : okY (nI b) (b + 1) := ⟨nI_add b 1, by omega⟩
theorem okY_inj {y y' : Int32} {s : Nat} (h : okY y s) (h' : okY y' s) : y = y' := by
  have e : y + nI 1 = y' + nI 1 := by rw [h.1, h'.1]
  have e2 := congrArg (fun z => z - nI 1) e
  simpa [Int32.add_sub_cancel] using e2
theorem okY_inj2 {y : Int32} {s s' : Nat} (h : okY y s) (h' : okY y s') : s = s' := by
  have e : nI s = nI s' := by rw [← h.1, ← h'.1]
  exact (nI_eq (by have := h.2; omega) (by have := h'.2; omega)).mp e
def ch (M : sm_M) (ts : List T3) : Prop := (∀ y s, okY y s → M 6 s = prv ts y ts.length) ∧ (∀ (t : Nat) (x : T3), ts[t]? = some x → M 7 t = prv ts x.2.2 t) ∧ ∀ (t : Nat) (x : T3), ts[t]? = some x → ∃ s, okY x.2.2 s
def TC (g0 : Nat → Int32) (ts0 : List T3) (M : sm_M) (ts : List T3) : Prop := (∃ r, ts = ts0 ++ r) ∧ tm (M 1 6) (M 2) (M 3) (M 4) ts ∧ ch M ts ∧ uq ts ∧ (∀ j, j < ts0.length → M 5 j = g0 j) ∧ (∀ j x, ts0.length ≤ j → ts[j]? = some x → M 5 j = bI (x.1 = nI 1))
theorem nI_m1b {n : Nat} (h : n < 2 ^ 31) : ¬ nI n = -2 := fun e => nI_pos h (by rw [e]; decide)
theorem c_find {M : sm_M} {ts : List T3} {k x y : Int32} {s : Nat} (ht : tm (M 1 6) (M 2) (M 3) (M 4) ts) (hc : ch M ts) (hu : uq ts) (hy : okY y s) : cr 40 0 0 [.ref 1, .int k, .int x, .int y] M (fun v M1 => v = some (.int (fnd ts (k, x, y))) ∧ M1 = M) := by
  intro X J rc rs d lw hd hw
  show sm_wp tb_T X tb_ok d lw 40 0 [some (.ref 1), some (.int k), some (.int x), some (.int y), none, none] [] _ _
  obtain ⟨hN, hN9, hr⟩ := ht
  obtain ⟨c1, c2, c3⟩ := hc
  obtain ⟨hyi, hs9⟩ := id hy
  have loop : ∀ (n step : Nat), n ≤ ts.length → step + n ≤ ts.length → (∀ i z, n ≤ i → ts[i]? = some z → ¬ z = (k, x, y)) → sm_wp tb_T X tb_ok d lw 40 13 [some (.ref 1), some (.int k), some (.int x), some (.int y), some (.int (prv ts y n)), some (.int (nI step))] [] (wSH, M, J, rc, rs) (fun o h' => ∃ v M1, o = .inl v ∧ h' = (wSH, M1, J, rc, rs) ∧ v = some (.int (fnd ts (k, x, y))) ∧ M1 = M) := by
    intro n
    induction n using Nat.strongRecOn with
    | ind n ih =>
      intro step hn hst hno
      refine go_il5 hf_40 rfl rfl ?_
      refine go_al0 hf_40 rfl rfl ?_
      refine go_get hf_40 ho_40 rfl fl_1_37 rfl (by first | assumption | rfl) rfl (by first | assumption | ((repeat rewrite [up_k]) <;> first | assumption | decide | omega) | exact rfl) ?_
      first | refine go_nn_ge hf_40 rfl rfl rfl (by omega) (by omega) (fun h19 => ?_) (fun h19 => ?_) | refine go_ic_ge hf_40 rfl rfl rfl (fun h19 => ?_) (fun h19 => ?_)
      · refine go_iconst hf_40 rfl rfl ci_m1 ?_
        refine go_ret1 hf_40 rfl nl_40 ?_
        refine ⟨_, _, rfl, rfl, ?_, rfl⟩
        rw [fnd_no]
        rintro ⟨i, hi⟩
        have := t_lt hi
        exact hno i _ (by omega) hi rfl
      · refine go_il4 hf_40 rfl rfl ?_
        refine go_iconst hf_40 rfl rfl ci_m1 ?_
        refine go_ic_eq hf_40 rfl rfl rfl (fun h25 => ?_) (fun h25 => ?_)
        · refine go_iconst hf_40 rfl rfl ci_m1 ?_
          refine go_ret1 hf_40 rfl nl_40 ?_
          refine ⟨_, _, rfl, rfl, ?_, rfl⟩
          rw [fnd_no]
          rintro ⟨i, hi⟩
          rcases prv_spec (y := y) n hn with ⟨-, g2⟩ | ⟨i, z, g1, hti, g3, g4, g5⟩
          · by_cases hin : n ≤ i
            · exact hno i _ hin hi rfl
            · exact g2 i _ (by omega) hi rfl
          · rw [hti] at h25
            exact nI_m1 (by omega) h25
        · rcases prv_spec (y := y) n hn with ⟨g1, -⟩ | ⟨i, z, g1, hti, g3, g4, g5⟩
          · exact absurd g1 h25
          obtain ⟨z1, z2, z3⟩ := hr i z g3
          have z4 := c2 i z g3
          rw [g4] at z4
          have hi9 := t_lt g3
          refine go_al0 hf_40 rfl rfl ?_
          refine go_getr hf_40 ho_40 rfl fl_1_9 rfl (by first | assumption | rfl) rfl ?_
          refine go_il4 hf_40 rfl rfl ?_
          refine go_iald hf_40 rfl rfl (by first | assumption | rfl) (by first | rfl | assumption) (by first | exact rfl | assumption) (by omega) (by first | assumption | ((repeat rewrite [up_k]) <;> first | assumption | decide | omega) | exact rfl) ?_
          refine go_il1 hf_40 rfl rfl ?_
          refine go_ic_ne hf_40 rfl rfl rfl (fun h36 => ?_) (fun h36 => ?_)
          · refine go_al0 hf_40 rfl rfl ?_
            refine go_getr hf_40 ho_40 rfl fl_1_28 rfl (by first | assumption | rfl) rfl ?_
            refine go_il4 hf_40 rfl rfl ?_
            refine go_iald hf_40 rfl rfl (by first | assumption | rfl) (by first | rfl | assumption) (by first | exact rfl | assumption) (by omega) (by first | assumption | ((repeat rewrite [up_k]) <;> first | assumption | decide | omega) | exact rfl) ?_
            refine go_is4 hf_40 rfl rfl ?_
            refine go_ic5 hf_40 rfl rfl (by first | exact inc1 _ | exact rfl) ?_
            refine go_goto hf_40 rfl rfl ?_
            refine ih i g1 (step + 1) (by omega) (by omega) (fun j u hj hu e => ?_)
            subst e
            by_cases hj2 : n ≤ j
            · exact hno j _ hj2 hu rfl
            · by_cases hj3 : j = i
              · subst hj3
                rw [g3] at hu
                cases hu
                exact h36 rfl
              · exact g5 j _ (by omega) (by omega) hu rfl
          · refine go_al0 hf_40 rfl rfl ?_
            refine go_getr hf_40 ho_40 rfl fl_1_15 rfl (by first | assumption | rfl) rfl ?_
            refine go_il4 hf_40 rfl rfl ?_
            refine go_iald hf_40 rfl rfl (by first | assumption | rfl) (by first | rfl | assumption) (by first | exact rfl | assumption) (by omega) (by first | assumption | ((repeat rewrite [up_k]) <;> first | assumption | decide | omega) | exact rfl) ?_
            refine go_il2 hf_40 rfl rfl ?_
            refine go_ic_ne hf_40 rfl rfl rfl (fun h47 => ?_) (fun h47 => ?_)
            · refine go_al0 hf_40 rfl rfl ?_
              refine go_getr hf_40 ho_40 rfl fl_1_28 rfl (by first | assumption | rfl) rfl ?_
              refine go_il4 hf_40 rfl rfl ?_
              refine go_iald hf_40 rfl rfl (by first | assumption | rfl) (by first | rfl | assumption) (by first | exact rfl | assumption) (by omega) (by first | assumption | ((repeat rewrite [up_k]) <;> first | assumption | decide | omega) | exact rfl) ?_
              refine go_is4 hf_40 rfl rfl ?_
              refine go_ic5 hf_40 rfl rfl (by first | exact inc1 _ | exact rfl) ?_
              refine go_goto hf_40 rfl rfl ?_
              refine ih i g1 (step + 1) (by omega) (by omega) (fun j u hj hu e => ?_)
              subst e
              by_cases hj2 : n ≤ j
              · exact hno j _ hj2 hu rfl
              · by_cases hj3 : j = i
                · subst hj3
                  rw [g3] at hu
                  cases hu
                  exact h47 rfl
                · exact g5 j _ (by omega) (by omega) hu rfl
            · refine go_il4 hf_40 rfl rfl ?_
              refine go_ret1 hf_40 rfl nl_40 ?_
              refine ⟨_, _, rfl, rfl, ?_, rfl⟩
              rw [hti, fnd_at hu (i := i)]
              rw [g3]
              congr 1
              obtain ⟨za, zb, zc⟩ := z
              exact Prod.ext h36 (Prod.ext h47 g4)
  refine go_al0 hf_40 rfl rfl ?_
  refine go_getr hf_40 ho_40 rfl fl_1_25 rfl (by first | assumption | rfl) rfl ?_
  refine go_il3 hf_40 rfl rfl ?_
  refine go_iconst hf_40 rfl rfl ci_1 ?_
  refine go_iadd hf_40 rfl rfl (by first | exact nI_add _ _ | exact rfl) ?_
  refine go_iald hf_40 rfl rfl (by first | assumption | rfl) (by first | rfl | assumption) hyi (by omega) (c1 y s hy) ?_
  refine go_is4 hf_40 rfl rfl ?_
  refine go_iconst hf_40 rfl rfl ci_0 ?_
  refine go_is5 hf_40 rfl rfl ?_
  exact loop ts.length 0 (Nat.le_refl _) (by omega) (fun i z hi hz => absurd (t_lt hz) (by omega))
theorem TC_new {g0 : Nat → Int32} {ts0 ts : List T3} {M M1 : sm_M} {k x y : Int32} {s : Nat} (h : TC g0 ts0 M ts) (hy : okY y s) (hn : ¬ ∃ i : Nat, ts[i]? = some (k, x, y)) (h9 : ts.length < 900) (e1 : M1 1 6 = nI (ts.length + 1)) (e2 : ∀ j, M1 2 j = if j = ts.length then k else M 2 j) (e3 : ∀ j, M1 3 j = if j = ts.length then x else M 3 j) (e4 : ∀ j, M1 4 j = if j = ts.length then y else M 4 j) (e5 : ∀ j, M1 5 j = if j = ts.length then bI (k = nI 1) else M 5 j) (e6 : ∀ j, M1 6 j = if j = s then nI ts.length else M 6 j) (e7 : ∀ j, M1 7 j = if j = ts.length then M 6 s else M 7 j) : TC g0 ts0 M1 (ts ++ [(k, x, y)]) := by
  obtain ⟨⟨r, hr⟩, ht, ⟨c1, c2, c3⟩, hu, o1, o2⟩ := h
  refine ⟨⟨r ++ [(k, x, y)], by rw [hr, List.append_assoc]⟩, tm_snoc ht h9 e1 (fun i hi => ?_) ?_, ⟨fun y' s' hy' => ?_, fun t u hu2 => ?_, fun t u hu2 => ?_⟩, uq_snoc hu hn, fun j hj => ?_, fun j u hj hu2 => ?_⟩
  · rw [e2, e3, e4, if_neg (by omega), if_neg (by omega), if_neg (by omega)]
    exact ⟨rfl, rfl, rfl⟩
  · rw [e2, e3, e4, if_pos rfl, if_pos rfl, if_pos rfl]
    exact ⟨rfl, rfl, rfl⟩
  · rw [e6, List.length_append]
    have hx : (ts ++ [(k, x, y)])[ts.length]? = some (k, x, y) := by simp
    by_cases hs : s' = s
    · subst hs
      rw [if_pos rfl]
      exact (prv_t hx (okY_inj hy hy')).symm
    · rw [if_neg hs, c1 y' s' hy']
      exact ((prv_f hx (fun e => hs (okY_inj2 (y := y) (by have e : y = y' := e; rw [e]; exact hy') hy))).trans (prv_app _ (Nat.le_refl _))).symm
  · rw [e7]
    rcases t_snoc hu2 with ⟨i1, i2⟩ | ⟨i1, i2⟩
    · rw [if_neg (by omega), c2 t u i2, prv_app _ (by omega)]
    · subst i1
      subst i2
      rw [if_pos rfl, c1 y s hy, prv_app _ (Nat.le_refl _)]
  · rcases t_snoc hu2 with ⟨i1, i2⟩ | ⟨i1, i2⟩
    · exact c3 t u i2
    · subst i2
      exact ⟨s, hy⟩
  · have : ts0.length ≤ ts.length := by rw [hr]; simp
    rw [e5, if_neg (by omega)]
    exact o1 j hj
  · rw [e5]
    rcases t_snoc hu2 with ⟨i1, i2⟩ | ⟨i1, i2⟩
    · rw [if_neg (by omega)]
      exact o2 j u hj i2
    · subst i2
      rw [if_pos i1]
theorem c_make {g0 : Nat → Int32} {ts0 ts : List T3} {M : sm_M} {k : Nat} {x y : Int32} (hk : k < 100) (h : TC g0 ts0 M ts) (hy : y = -2 ∨ ∃ s, okY y s) : cr 39 1 25 [.ref 1, .int (nI k), .int x, .int y] M (fun v M1 => (∃ ts1 v1, mkC ts (nI k) x y = (ts1, v1) ∧ v = some (.int v1) ∧ TC g0 ts0 M1 ts1) ∧ ∀ p, (p = 0 ∨ 7 < p) → M1 p = M p) := by
  intro X J rc rs d lw hd hw
  show sm_wp tb_T X tb_ok d lw 39 0 [some (.ref 1), some (.int (nI k)), some (.int x), some (.int y), none, none] [] _ _
  have h0 := h
  obtain ⟨hr, ht, hc, hu, o1, o2⟩ := h
  obtain ⟨hN, hN9, hr⟩ := id ht
  refine go_il2 hf_39 rfl rfl ?_
  refine go_bipush hf_39 rfl rfl cb_m2 ?_
  refine go_ic_eq hf_39 rfl rfl rfl (fun h3 => ?_) (fun h3 => ?_)
  · refine go_bipush hf_39 rfl rfl cb_m2 ?_
    refine go_ret1 hf_39 rfl nl_39 ?_
    exact ⟨_, _, rfl, rfl, ⟨_, _, mkC_full (Or.inl h3), rfl, h0⟩, fun _ _ => rfl⟩
  · refine go_il3 hf_39 rfl rfl ?_
    refine go_bipush hf_39 rfl rfl cb_m2 ?_
    refine go_ic_ne hf_39 rfl rfl rfl (fun h9 => ?_) (fun h9 => ?_)
    · have hfull : ¬ (x = -2 ∨ y = -2) := fun g => g.elim h3 h9
      obtain ⟨s, hys⟩ := hy.resolve_left h9
      obtain ⟨hyi, hs9⟩ := id hys
      refine go_al0 hf_39 rfl rfl ?_
      refine go_il1 hf_39 rfl rfl ?_
      refine go_il2 hf_39 rfl rfl ?_
      refine go_il3 hf_39 rfl rfl ?_
      refine go_call hf_39 rfl rfl (inv_v ho_39 cl_1_53) (by decide) nl_40 rfl rfl rfl rfl rfl (by first | rfl | exact rcv_of (by assumption)) rfl rfl rfl (by omega) (by omega) (c_find ht hc hu hys) ?_
      intro v9 M9 h9
      rewrite [h9.1, h9.2]
      clear h9 v9 M9
      refine go_is4 hf_39 rfl rfl ?_
      refine go_il4 hf_39 rfl rfl ?_
      refine go_iconst hf_39 rfl rfl ci_m1 ?_
      refine go_ic_eq hf_39 rfl rfl rfl (fun h27 => ?_) (fun h27 => ?_)
      · have hn : ¬ ∃ i : Nat, ts[i]? = some (nI k, x, y) := by
          rintro ⟨i, hi⟩
          rw [fnd_at hu hi] at h27
          exact nI_m1 (by have := t_lt hi; omega) h27
        refine go_al0 hf_39 rfl rfl ?_
        refine go_get hf_39 ho_39 rfl fl_1_37 rfl (by first | assumption | rfl) rfl (by first | assumption | ((repeat rewrite [up_k]) <;> first | assumption | decide | omega) | exact rfl) ?_
        refine go_sipush hf_39 rfl rfl cs_900 ?_
        first | refine go_nn_lt hf_39 rfl rfl rfl (by omega) (by omega) (fun h40 => ?_) (fun h40 => ?_) | refine go_ic_lt hf_39 rfl rfl rfl (fun h40 => ?_) (fun h40 => ?_)
        · refine go_al0 hf_39 rfl rfl ?_
          refine go_get hf_39 ho_39 rfl fl_1_37 rfl (by first | assumption | rfl) rfl (by first | assumption | ((repeat rewrite [up_k]) <;> first | assumption | decide | omega) | exact rfl) ?_
          refine go_is5 hf_39 rfl rfl ?_
          refine go_al0 hf_39 rfl rfl ?_
          refine go_getr hf_39 ho_39 rfl fl_1_9 rfl (by first | assumption | rfl) rfl ?_
          refine go_il5 hf_39 rfl rfl ?_
          refine go_il1 hf_39 rfl rfl ?_
          refine go_iast hf_39 rfl rfl (by first | assumption | rfl) (by first | rfl | assumption) (by first | exact rfl | assumption) (by omega) ?_
          refine go_al0 hf_39 rfl rfl ?_
          refine go_getr hf_39 ho_39 rfl fl_1_15 rfl (by first | assumption | rfl) rfl ?_
          refine go_il5 hf_39 rfl rfl ?_
          refine go_il2 hf_39 rfl rfl ?_
          refine go_iast hf_39 rfl rfl (by first | assumption | rfl) (by first | rfl | assumption) (by first | exact rfl | assumption) (by omega) ?_
          refine go_al0 hf_39 rfl rfl ?_
          refine go_getr hf_39 ho_39 rfl fl_1_18 rfl (by first | assumption | rfl) rfl ?_
          refine go_il5 hf_39 rfl rfl ?_
          refine go_il3 hf_39 rfl rfl ?_
          refine go_iast hf_39 rfl rfl (by first | assumption | rfl) (by first | rfl | assumption) (by first | exact rfl | assumption) (by omega) ?_
          refine go_al0 hf_39 rfl rfl ?_
          refine go_getr hf_39 ho_39 rfl fl_1_21 rfl (by first | assumption | rfl) rfl ?_
          refine go_il5 hf_39 rfl rfl ?_
          refine go_il1 hf_39 rfl rfl ?_
          refine go_iconst hf_39 rfl rfl ci_1 ?_
          first | refine go_nn_ne hf_39 rfl rfl rfl (by omega) (by omega) (fun h84 => ?_) (fun h84 => ?_) | refine go_ic_ne hf_39 rfl rfl rfl (fun h84 => ?_) (fun h84 => ?_)
          · refine go_iconst hf_39 rfl rfl ci_0 ?_
            refine go_bast hf_39 rfl rfl (by first | assumption | rfl) (by first | rfl | assumption) (by first | exact rfl | assumption) (by omega) (by first | exact Or.inl rfl | exact Or.inr rfl) ?_
            refine go_al0 hf_39 rfl rfl ?_
            refine go_getr hf_39 ho_39 rfl fl_1_28 rfl (by first | assumption | rfl) rfl ?_
            refine go_il5 hf_39 rfl rfl ?_
            refine go_al0 hf_39 rfl rfl ?_
            refine go_getr hf_39 ho_39 rfl fl_1_25 rfl (by first | assumption | rfl) rfl ?_
            refine go_il3 hf_39 rfl rfl ?_
            refine go_iconst hf_39 rfl rfl ci_1 ?_
            refine go_iadd hf_39 rfl rfl (by first | exact nI_add _ _ | exact rfl) ?_
            refine go_iald hf_39 rfl rfl (by first | assumption | rfl) (by first | rfl | assumption) hyi (by omega) (by rw [up_k (by decide), up_k (by decide), up_k (by decide), up_k (by decide)]) ?_
            refine go_iast hf_39 rfl rfl (by first | assumption | rfl) (by first | rfl | assumption) (by first | exact rfl | assumption) (by omega) ?_
            refine go_al0 hf_39 rfl rfl ?_
            refine go_getr hf_39 ho_39 rfl fl_1_25 rfl (by first | assumption | rfl) rfl ?_
            refine go_il3 hf_39 rfl rfl ?_
            refine go_iconst hf_39 rfl rfl ci_1 ?_
            refine go_iadd hf_39 rfl rfl (by first | exact nI_add _ _ | exact rfl) ?_
            refine go_il5 hf_39 rfl rfl ?_
            refine go_iast hf_39 rfl rfl (by first | assumption | rfl) (by first | rfl | assumption) hyi (by omega) ?_
            refine go_al0 hf_39 rfl rfl ?_
            first | refine go_dup hf_39 rfl rfl ?_ | refine go_dupr hf_39 rfl rfl ?_
            refine go_get hf_39 ho_39 rfl fl_1_37 rfl (by first | assumption | rfl) rfl (by first | assumption | ((repeat rewrite [up_k]) <;> first | assumption | decide | omega) | exact rfl) ?_
            refine go_iconst hf_39 rfl rfl ci_1 ?_
            refine go_iadd hf_39 rfl rfl (by first | exact nI_add _ _ | exact rfl) ?_
            refine go_put hf_39 ho_39 rfl fl_1_37 rfl (by first | assumption | rfl) rfl (Or.inl rfl) ?_
            refine go_il5 hf_39 rfl rfl ?_
            refine go_ret1 hf_39 rfl nl_39 ?_
            refine ⟨_, _, rfl, rfl, ⟨_, _, mkC_new hfull hn (by omega), rfl, TC_new h0 hys hn h40 up_s ?_ ?_ ?_ ?_ ?_ ?_⟩, ?_⟩
            · intro j; by_cases hj : j = ts.length
              · subst hj; rw [if_pos rfl, up_k (by omega), up_k (by omega), up_k (by omega), up_k (by omega), up_k (by omega), up_k (by omega), up_s]
              · rw [if_neg hj, up_k (by omega), up_k (by omega), up_k (by omega), up_k (by omega), up_k (by omega), up_k (by omega), up_i hj]
            · intro j; by_cases hj : j = ts.length
              · subst hj; rw [if_pos rfl, up_k (by omega), up_k (by omega), up_k (by omega), up_k (by omega), up_k (by omega), up_s]
              · rw [if_neg hj, up_k (by omega), up_k (by omega), up_k (by omega), up_k (by omega), up_k (by omega), up_i hj, up_k (by omega)]
            · intro j; by_cases hj : j = ts.length
              · subst hj; rw [if_pos rfl, up_k (by omega), up_k (by omega), up_k (by omega), up_k (by omega), up_s]
              · rw [if_neg hj, up_k (by omega), up_k (by omega), up_k (by omega), up_k (by omega), up_i hj, up_k (by omega), up_k (by omega)]
            · intro j; by_cases hj : j = ts.length
              · subst hj; rw [if_pos rfl, up_k (by omega), up_k (by omega), up_k (by omega), up_s, bI_f (fun e => h84 ((nI_eq (by omega) (by omega)).mp e))]
              · rw [if_neg hj, up_k (by omega), up_k (by omega), up_k (by omega), up_i hj, up_k (by omega), up_k (by omega), up_k (by omega)]
            · intro j; by_cases hj : j = s
              · subst hj; rw [if_pos rfl, up_k (by omega), up_s]
              · rw [if_neg hj, up_k (by omega), up_i hj, up_k (by omega), up_k (by omega), up_k (by omega), up_k (by omega), up_k (by omega)]
            · intro j; by_cases hj : j = ts.length
              · subst hj; rw [if_pos rfl, up_k (by omega), up_k (by omega), up_s]
              · rw [if_neg hj, up_k (by omega), up_k (by omega), up_i hj, up_k (by omega), up_k (by omega), up_k (by omega), up_k (by omega)]
            · intro p hp
              simp only [sm_up]
              repeat rw [if_neg (by omega)]
          · refine go_iconst hf_39 rfl rfl ci_1 ?_
            refine go_goto hf_39 rfl rfl ?_
            refine go_bast hf_39 rfl rfl (by first | assumption | rfl) (by first | rfl | assumption) (by first | exact rfl | assumption) (by omega) (by first | exact Or.inl rfl | exact Or.inr rfl) ?_
            refine go_al0 hf_39 rfl rfl ?_
            refine go_getr hf_39 ho_39 rfl fl_1_28 rfl (by first | assumption | rfl) rfl ?_
            refine go_il5 hf_39 rfl rfl ?_
            refine go_al0 hf_39 rfl rfl ?_
            refine go_getr hf_39 ho_39 rfl fl_1_25 rfl (by first | assumption | rfl) rfl ?_
            refine go_il3 hf_39 rfl rfl ?_
            refine go_iconst hf_39 rfl rfl ci_1 ?_
            refine go_iadd hf_39 rfl rfl (by first | exact nI_add _ _ | exact rfl) ?_
            refine go_iald hf_39 rfl rfl (by first | assumption | rfl) (by first | rfl | assumption) hyi (by omega) (by rw [up_k (by decide), up_k (by decide), up_k (by decide), up_k (by decide)]) ?_
            refine go_iast hf_39 rfl rfl (by first | assumption | rfl) (by first | rfl | assumption) (by first | exact rfl | assumption) (by omega) ?_
            refine go_al0 hf_39 rfl rfl ?_
            refine go_getr hf_39 ho_39 rfl fl_1_25 rfl (by first | assumption | rfl) rfl ?_
            refine go_il3 hf_39 rfl rfl ?_
            refine go_iconst hf_39 rfl rfl ci_1 ?_
            refine go_iadd hf_39 rfl rfl (by first | exact nI_add _ _ | exact rfl) ?_
            refine go_il5 hf_39 rfl rfl ?_
            refine go_iast hf_39 rfl rfl (by first | assumption | rfl) (by first | rfl | assumption) hyi (by omega) ?_
            refine go_al0 hf_39 rfl rfl ?_
            first | refine go_dup hf_39 rfl rfl ?_ | refine go_dupr hf_39 rfl rfl ?_
            refine go_get hf_39 ho_39 rfl fl_1_37 rfl (by first | assumption | rfl) rfl (by first | assumption | ((repeat rewrite [up_k]) <;> first | assumption | decide | omega) | exact rfl) ?_
            refine go_iconst hf_39 rfl rfl ci_1 ?_
            refine go_iadd hf_39 rfl rfl (by first | exact nI_add _ _ | exact rfl) ?_
            refine go_put hf_39 ho_39 rfl fl_1_37 rfl (by first | assumption | rfl) rfl (Or.inl rfl) ?_
            refine go_il5 hf_39 rfl rfl ?_
            refine go_ret1 hf_39 rfl nl_39 ?_
            refine ⟨_, _, rfl, rfl, ⟨_, _, mkC_new hfull hn (by omega), rfl, TC_new h0 hys hn h40 up_s ?_ ?_ ?_ ?_ ?_ ?_⟩, ?_⟩
            · intro j; by_cases hj : j = ts.length
              · subst hj; rw [if_pos rfl, up_k (by omega), up_k (by omega), up_k (by omega), up_k (by omega), up_k (by omega), up_k (by omega), up_s]
              · rw [if_neg hj, up_k (by omega), up_k (by omega), up_k (by omega), up_k (by omega), up_k (by omega), up_k (by omega), up_i hj]
            · intro j; by_cases hj : j = ts.length
              · subst hj; rw [if_pos rfl, up_k (by omega), up_k (by omega), up_k (by omega), up_k (by omega), up_k (by omega), up_s]
              · rw [if_neg hj, up_k (by omega), up_k (by omega), up_k (by omega), up_k (by omega), up_k (by omega), up_i hj, up_k (by omega)]
            · intro j; by_cases hj : j = ts.length
              · subst hj; rw [if_pos rfl, up_k (by omega), up_k (by omega), up_k (by omega), up_k (by omega), up_s]
              · rw [if_neg hj, up_k (by omega), up_k (by omega), up_k (by omega), up_k (by omega), up_i hj, up_k (by omega), up_k (by omega)]
            · intro j; by_cases hj : j = ts.length
              · subst hj; rw [if_pos rfl, up_k (by omega), up_k (by omega), up_k (by omega), up_s, bI_t (by rw [h84])]
              · rw [if_neg hj, up_k (by omega), up_k (by omega), up_k (by omega), up_i hj, up_k (by omega), up_k (by omega), up_k (by omega)]
            · intro j; by_cases hj : j = s
              · subst hj; rw [if_pos rfl, up_k (by omega), up_s]
              · rw [if_neg hj, up_k (by omega), up_i hj, up_k (by omega), up_k (by omega), up_k (by omega), up_k (by omega), up_k (by omega)]
            · intro j; by_cases hj : j = ts.length
              · subst hj; rw [if_pos rfl, up_k (by omega), up_k (by omega), up_s]
              · rw [if_neg hj, up_k (by omega), up_k (by omega), up_i hj, up_k (by omega), up_k (by omega), up_k (by omega), up_k (by omega)]
            · intro p hp
              simp only [sm_up]
              repeat rw [if_neg (by omega)]
        · refine go_bipush hf_39 rfl rfl cb_m2 ?_
          refine go_ret1 hf_39 rfl nl_39 ?_
          exact ⟨_, _, rfl, rfl, ⟨_, _, mkC_no hfull hn (by omega), rfl, h0⟩, fun _ _ => rfl⟩
      · have hi : ∃ i : Nat, ts[i]? = some (nI k, x, y) := Classical.byContradiction (fun g => h27 (fnd_no g))
        refine go_il4 hf_39 rfl rfl ?_
        refine go_ret1 hf_39 rfl nl_39 ?_
        exact ⟨_, _, rfl, rfl, ⟨_, _, mkC_there hfull hi, rfl, h0⟩, fun _ _ => rfl⟩
    · refine go_bipush hf_39 rfl rfl cb_m2 ?_
      refine go_ret1 hf_39 rfl nl_39 ?_
      exact ⟨_, _, rfl, rfl, ⟨_, _, mkC_full (Or.inr h9), rfl, h0⟩, fun _ _ => rfl⟩
/-! programs of makes on a stack: (0, k, n) makes an atom or number, (1, k, _) a whole of second and top, (2, k, _) of top and second, (3, _, _) the top again -/
abbrev Tok : Type := Nat × Nat × Nat
noncomputable def rpa {σ : Type} (mk : σ → Int32 → Int32 → Int32 → σ × Int32) : Tok → σ → List Int32 → σ × List Int32
  | (0, k, n), s, st => ((mk s (nI k) (nI n) (-1)).1, (mk s (nI k) (nI n) (-1)).2 :: st)
  | (1, k, _), s, y :: x :: st => ((mk s (nI k) x y).1, (mk s (nI k) x y).2 :: st)
  | (2, k, _), s, x :: y :: st => ((mk s (nI k) x y).1, (mk s (nI k) x y).2 :: st)
  | (3, _, _), s, x :: st => (s, x :: x :: st)
  | _, s, st => (s, st)
noncomputable def rp {σ : Type} (mk : σ → Int32 → Int32 → Int32 → σ × Int32) : List Tok → σ → List Int32 → σ × List Int32
  | [], s, st => (s, st)
  | t :: p, s, st => rp mk p (rpa mk t s st).1 (rpa mk t s st).2
theorem rp_0 {σ : Type} {mk : σ → Int32 → Int32 → Int32 → σ × Int32} {k n : Nat} {p : List Tok} {s s1 : σ} {v : Int32} {st : List Int32} (h : mk s (nI k) (nI n) (-1) = (s1, v)) : rp mk ((0, k, n) :: p) s st = rp mk p s1 (v :: st) := by
  show rp mk p (mk s (nI k) (nI n) (-1)).1 ((mk s (nI k) (nI n) (-1)).2 :: st) = _
  rw [h]
theorem rp_1 {σ : Type} {mk : σ → Int32 → Int32 → Int32 → σ × Int32} {k n : Nat} {p : List Tok} {s s1 : σ} {v x y : Int32} {st : List Int32} (h : mk s (nI k) x y = (s1, v)) : rp mk ((1, k, n) :: p) s (y :: x :: st) = rp mk p s1 (v :: st) := by
  show rp mk p (mk s (nI k) x y).1 ((mk s (nI k) x y).2 :: st) = _
  rw [h]
theorem rp_2 {σ : Type} {mk : σ → Int32 → Int32 → Int32 → σ × Int32} {k n : Nat} {p : List Tok} {s s1 : σ} {v x y : Int32} {st : List Int32} (h : mk s (nI k) x y = (s1, v)) : rp mk ((2, k, n) :: p) s (x :: y :: st) = rp mk p s1 (v :: st) := by
  show rp mk p (mk s (nI k) x y).1 ((mk s (nI k) x y).2 :: st) = _
  rw [h]
theorem rp_3 {σ : Type} {mk : σ → Int32 → Int32 → Int32 → σ × Int32} {k n : Nat} {p : List Tok} {s : σ} {x : Int32} {st : List Int32} : rp mk ((3, k, n) :: p) s (x :: st) = rp mk p s (x :: x :: st) := rfl
theorem rp_app {σ : Type} {mk : σ → Int32 → Int32 → Int32 → σ × Int32} {q : List Tok} : ∀ (p : List Tok) (s : σ) (st : List Int32), rp mk (p ++ q) s st = rp mk q (rp mk p s st).1 (rp mk p s st).2 := by
  intro p
  induction p with
  | nil => intro s st; rfl
  | cons t p ih => intro s st; exact ih _ _
theorem rp_then {σ : Type} {mk : σ → Int32 → Int32 → Int32 → σ × Int32} {p q : List Tok} {s s1 : σ} {st st1 : List Int32} (h : rp mk p s st = (s1, st1)) : rp mk (p ++ q) s st = rp mk q s1 st1 := by
  rw [rp_app, h]
/-- what a make answers is FULL or a term -/
theorem mkC_ok {ts ts1 : List T3} {k x y v1 : Int32} (hu : uq ts) (h : mkC ts k x y = (ts1, v1)) : v1 = -2 ∨ ∃ b, b < ts1.length ∧ v1 = nI b := by
  by_cases hf : x = -2 ∨ y = -2
  · rw [mkC_full hf] at h
    cases h
    exact Or.inl rfl
  by_cases hi : ∃ i : Nat, ts[i]? = some (k, x, y)
  · rw [mkC_there hf hi] at h
    obtain ⟨i, hi⟩ := hi
    rw [fnd_at hu hi] at h
    cases h
    exact Or.inr ⟨i, t_lt hi, rfl⟩
  by_cases h9 : 900 ≤ ts.length
  · rw [mkC_no hf hi h9] at h
    cases h
    exact Or.inl rfl
  · rw [mkC_new hf hi h9] at h
    cases h
    exact Or.inr ⟨ts.length, by simp, rfl⟩
theorem mkC_okY {ts ts1 : List T3} {k x y v1 : Int32} (hu : uq ts) (h9 : ts1.length ≤ 900) (h : mkC ts k x y = (ts1, v1)) : v1 = -2 ∨ ∃ s, okY v1 s := by
  rcases mkC_ok hu h with h | ⟨b, hb, rfl⟩
  · exact Or.inl h
  · exact Or.inr ⟨_, okY_n (by omega)⟩
theorem TC.u {g0 : Nat → Int32} {ts0 ts : List T3} {M : sm_M} (h : TC g0 ts0 M ts) : uq ts := h.2.2.2.1
theorem TC.l {g0 : Nat → Int32} {ts0 ts : List T3} {M : sm_M} (h : TC g0 ts0 M ts) : ts.length ≤ 900 := h.2.1.2.1
theorem tm1_0 : nI 0 - nI 1 = -1 := by decide
theorem tm1_s (n : Nat) : nI (n + 1) - nI 1 = nI n := by rw [subn (by omega)]; rfl
theorem tm1_d (n : Nat) : (nI (n + 1) - nI 1) + Int32.ofInt (-1) = nI n - nI 1 := by
  rw [tm1_s, Int32.sub_eq_add_neg]
  congr 1
theorem c_makeList {g0 : Nat → Int32} {ts0 ts : List T3} {M : sm_M} {r n : Nat} {e : Int32} {vs : List Int32} (hr8 : 7 < r) (hr : wSH[r]? = some (.inr (.inl (0, n)))) (hn : Nat.blt n 2147483648 = true) (hn9 : n < 1000) (hvn : vs.length ≤ n) (hvs : ∀ (i : Nat) (x : Int32), vs[i]? = some x → M r i = x) (h : TC g0 ts0 M ts) (he : e = -2 ∨ ∃ s, okY e s) : cr 41 2 50 [.ref 1, .ref r, .int (nI vs.length), .int e] M (fun v M1 => (∃ ts1 v1, (∀ st, rp mkC (List.replicate vs.length (1, 4, 0)) ts (e :: (vs.reverse ++ st)) = (ts1, v1 :: st)) ∧ v = some (.int v1) ∧ TC g0 ts0 M1 ts1 ∧ (v1 = -2 ∨ ∃ s, okY v1 s)) ∧ ∀ p, (p = 0 ∨ 7 < p) → M1 p = M p) := by
  intro X J rc rs d lw hd hw
  show sm_wp tb_T X tb_ok d lw 41 0 [some (.ref 1), some (.ref r), some (.int (nI vs.length)), some (.int e), none, none] [] _ _
  have loop : ∀ (m : Nat) (e2 : Int32) (ts2 : List T3) (M2 : sm_M), m ≤ vs.length → (∀ st, rp mkC (List.replicate vs.length (1, 4, 0)) ts (e :: (vs.reverse ++ st)) = rp mkC (List.replicate m (1, 4, 0)) ts2 (e2 :: ((vs.take m).reverse ++ st))) → TC g0 ts0 M2 ts2 → (e2 = -2 ∨ ∃ s, okY e2 s) → (∀ p, (p = 0 ∨ 7 < p) → M2 p = M p) → sm_wp tb_T X tb_ok d lw 41 8 [some (.ref 1), some (.ref r), some (.int (nI vs.length)), some (.int e), some (.int e2), some (.int (nI m - nI 1))] [] (wSH, M2, J, rc, rs) (fun o h' => ∃ v M1, o = .inl v ∧ h' = (wSH, M1, J, rc, rs) ∧ (∃ ts1 v1, (∀ st, rp mkC (List.replicate vs.length (1, 4, 0)) ts (e :: (vs.reverse ++ st)) = (ts1, v1 :: st)) ∧ v = some (.int v1) ∧ TC g0 ts0 M1 ts1 ∧ (v1 = -2 ∨ ∃ s, okY v1 s)) ∧ ∀ p, (p = 0 ∨ 7 < p) → M1 p = M p) := by
    intro m
    induction m with
    | zero =>
      intro e2 ts2 M2 hm hrp hT he2 hfr
      refine go_il5 hf_41 rfl rfl ?_
      refine go_if_lt hf_41 rfl rfl rfl (fun h10 => ?_) (fun h10 => absurd (by rw [tm1_0]; decide) h10)
      refine go_il4 hf_41 rfl rfl ?_
      refine go_ret1 hf_41 rfl nl_41 ?_
      exact ⟨_, _, rfl, rfl, ⟨ts2, e2, hrp, rfl, hT, he2⟩, hfr⟩
    | succ m ih =>
      intro e2 ts2 M2 hm hrp hT he2 hfr
      obtain ⟨x, hx⟩ : ∃ x, vs[m]? = some x := ⟨vs[m], List.getElem?_eq_getElem (by omega)⟩
      have hxm : M2 r m = x := by rw [hfr r (Or.inr hr8)]; exact hvs m x hx
      have htk : (vs.take (m + 1)).reverse = x :: (vs.take m).reverse := by
        obtain ⟨g1, g2⟩ := List.getElem?_eq_some_iff.mp hx
        rw [List.take_succ_eq_append_getElem g1, List.reverse_append, g2]
        rfl
      refine go_il5 hf_41 rfl rfl ?_
      refine go_if_lt hf_41 rfl rfl rfl (fun h10 => absurd h10 (by rw [tm1_s]; exact nI_pos (by omega))) (fun h10 => ?_)
      refine go_al0 hf_41 rfl rfl ?_
      refine go_iconst hf_41 rfl rfl ci_4 ?_
      refine go_al1 hf_41 rfl rfl ?_
      refine go_il5 hf_41 rfl rfl ?_
      refine go_iald hf_41 rfl rfl (by first | assumption | rfl) (by first | rfl | assumption) (tm1_s m) (by omega) (by first | assumption | ((repeat rewrite [up_k]) <;> first | assumption | decide | omega) | exact rfl) ?_
      refine go_il4 hf_41 rfl rfl ?_
      refine go_call hf_41 rfl rfl (inv_v ho_41 cl_1_57) (by decide) nl_39 rfl rfl rfl rfl rfl (by first | rfl | exact rcv_of (by assumption)) rfl rfl rfl (by omega) (by omega) (c_make (by omega) hT he2) ?_
      rintro v9 M9 ⟨⟨ts3, v3, g1, rfl, g3⟩, g4⟩
      refine go_is4 hf_41 rfl rfl ?_
      refine go_ic5 hf_41 rfl rfl (tm1_d m) ?_
      refine go_goto hf_41 rfl rfl ?_
      refine ih v3 ts3 M9 (by omega) (fun st => ?_) g3 (mkC_okY hT.u g3.l g1) (fun p hp => by rw [g4 p hp]; exact hfr p hp)
      rw [hrp st, htk, List.replicate_succ, List.cons_append]
      exact rp_1 g1
  refine go_il3 hf_41 rfl rfl ?_
  refine go_is4 hf_41 rfl rfl ?_
  refine go_il2 hf_41 rfl rfl ?_
  refine go_iconst hf_41 rfl rfl ci_1 ?_
  refine go_isub hf_41 rfl rfl rfl ?_
  refine go_is5 hf_41 rfl rfl ?_
  refine loop vs.length e ts M (Nat.le_refl _) (fun st => ?_) h he (fun _ _ => rfl)
  rw [List.take_length]
theorem tm1_lt {n a : Nat} (hn : n ≤ 900) (ha : a ≤ 900) : nI n - nI 1 < nI a ↔ n ≤ a := by
  cases n with
  | zero =>
    rw [tm1_0]
    refine ⟨fun _ => Nat.zero_le _, fun _ => ?_⟩
    rw [Int32.lt_iff_toInt_lt, nI_toInt (by omega)]
    have : (-1 : Int32).toInt = -1 := by decide
    omega
  | succ n =>
    rw [tm1_s, nI_ltI (by omega) (by omega)]
    omega
theorem prv_keep {ts r : List T3} {y : Int32} : prv (ts ++ r) y ts.length = prv ts y ts.length := prv_app _ (Nat.le_refl _)
theorem c_cutBack {g0 : Nat → Int32} {ts0 ts : List T3} {M : sm_M} (h : TC g0 ts0 M ts) : cr 42 0 0 [.ref 1, .int (nI ts0.length)] M (fun v M1 => v = none ∧ TC g0 ts0 M1 ts0 ∧ ∀ p, (p = 0 ∨ 7 < p) → M1 p = M p) := by
  intro X J rc rs d lw hd hw
  show sm_wp tb_T X tb_ok d lw 42 0 [some (.ref 1), some (.int (nI ts0.length)), none] [] _ _
  obtain ⟨⟨rr, hrr⟩, ⟨hN, hN9, hr⟩, ⟨c1, c2, c3⟩, hu, o1, o2⟩ := h
  have hle : ts0.length ≤ ts.length := by rw [hrr]; simp
  have loop : ∀ (m n : Nat) (M2 : sm_M), ts0.length + m = n → n ≤ ts.length → (∀ y s, okY y s → M2 6 s = prv ts y n) → (∀ p, p ≠ 6 → M2 p = M p) → sm_wp tb_T X tb_ok d lw 42 7 [some (.ref 1), some (.int (nI ts0.length)), some (.int (nI n - nI 1))] [] (wSH, M2, J, rc, rs) (fun o h' => ∃ v M1, o = .inl v ∧ h' = (wSH, M1, J, rc, rs) ∧ v = none ∧ TC g0 ts0 M1 ts0 ∧ ∀ p, (p = 0 ∨ 7 < p) → M1 p = M p) := by
    intro m
    induction m with
    | zero =>
      intro n M2 hm hn h6 hfr
      have e : n = ts0.length := by omega
      subst e
      refine go_il2 hf_42 rfl rfl ?_
      refine go_il1 hf_42 rfl rfl ?_
      refine go_ic_lt hf_42 rfl rfl rfl (fun h9 => ?_) (fun h9 => absurd ((tm1_lt (by omega) (by omega)).mpr (Nat.le_refl _)) h9)
      refine go_al0 hf_42 rfl rfl ?_
      refine go_il1 hf_42 rfl rfl ?_
      refine go_put hf_42 ho_42 rfl fl_1_37 rfl (by first | assumption | rfl) rfl (Or.inl rfl) ?_
      refine go_ret0 hf_42 rfl nl_42 ?_
      refine ⟨_, _, rfl, rfl, rfl, ⟨⟨[], by simp⟩, ⟨up_s, by omega, fun i x hx => ?_⟩, ⟨fun y s hy => ?_, fun t x hx => ?_, fun t x hx => ?_⟩, fun i j z hi hj => ?_, fun j hj => ?_, fun j x hj hx => ?_⟩, fun p hp => ?_⟩
      · rw [up_k (by omega), up_k (by omega), up_k (by omega), hfr 2 (by omega), hfr 3 (by omega), hfr 4 (by omega)]
        exact hr i x (by rw [hrr]; exact t_app hx)
      · rw [up_k (by omega), h6 y s hy, hrr]
        exact prv_keep
      · rw [up_k (by omega), hfr 7 (by omega), c2 t x (by rw [hrr]; exact t_app hx), hrr]
        exact prv_app _ (by have := t_lt hx; omega)
      · exact c3 t x (by rw [hrr]; exact t_app hx)
      · exact hu i j z (by rw [hrr]; exact t_app hi) (by rw [hrr]; exact t_app hj)
      · rw [up_k (by omega), hfr 5 (by omega)]
        exact o1 j hj
      · exact absurd (t_lt hx) (by omega)
      · have e : sm_up M2 1 6 (nI ts0.length) p = M2 p := by unfold sm_up; rw [if_neg (by omega)]
        rw [e, hfr p (by omega)]
    | succ m ih =>
      intro n M2 hm hn h6 hfr
      obtain ⟨n, rfl⟩ : ∃ n', n = n' + 1 := ⟨n - 1, by omega⟩
      obtain ⟨z, hz⟩ := t_at (l := ts) (i := n) (by omega)
      obtain ⟨s, hs⟩ := c3 n z hz
      have hz4 : M2 4 n = z.2.2 := by rw [hfr 4 (by omega)]; exact (hr n z hz).2.2
      have hz7 : M2 7 n = prv ts z.2.2 n := by rw [hfr 7 (by omega)]; exact c2 n z hz
      obtain ⟨hs1, hs9⟩ := id hs
      refine go_il2 hf_42 rfl rfl ?_
      refine go_il1 hf_42 rfl rfl ?_
      refine go_ic_lt hf_42 rfl rfl rfl (fun h9 => absurd ((tm1_lt (by omega) (by omega)).mp h9) (by omega)) (fun h9 => ?_)
      refine go_al0 hf_42 rfl rfl ?_
      refine go_getr hf_42 ho_42 rfl fl_1_25 rfl (by first | assumption | rfl) rfl ?_
      refine go_al0 hf_42 rfl rfl ?_
      refine go_getr hf_42 ho_42 rfl fl_1_18 rfl (by first | assumption | rfl) rfl ?_
      refine go_il2 hf_42 rfl rfl ?_
      refine go_iald hf_42 rfl rfl (by first | assumption | rfl) (by first | rfl | assumption) (tm1_s n) (by omega) (by first | assumption | ((repeat rewrite [up_k]) <;> first | assumption | decide | omega) | exact rfl) ?_
      refine go_iconst hf_42 rfl rfl ci_1 ?_
      refine go_iadd hf_42 rfl rfl (by first | exact nI_add _ _ | exact rfl) ?_
      refine go_al0 hf_42 rfl rfl ?_
      refine go_getr hf_42 ho_42 rfl fl_1_28 rfl (by first | assumption | rfl) rfl ?_
      refine go_il2 hf_42 rfl rfl ?_
      refine go_iald hf_42 rfl rfl (by first | assumption | rfl) (by first | rfl | assumption) (tm1_s n) (by omega) (by first | assumption | ((repeat rewrite [up_k]) <;> first | assumption | decide | omega) | exact rfl) ?_
      refine go_iast hf_42 rfl rfl (by first | assumption | rfl) (by first | rfl | assumption) hs1 (by omega) ?_
      refine go_ic2 hf_42 rfl rfl (tm1_d n) ?_
      refine go_goto hf_42 rfl rfl ?_
      refine ih n _ (by omega) (by omega) (fun y s2 hy => ?_) (fun p hp => ?_)
      · by_cases hs2 : s2 = s
        · subst hs2
          rw [up_s, okY_inj hs hy]
        · rw [up_i hs2, h6 y s2 hy]
          exact prv_f hz (fun e => hs2 (okY_inj2 hy (by rw [← e]; exact hs)))
      · unfold sm_up
        rw [if_neg hp]
        exact hfr p hp
  refine go_al0 hf_42 rfl rfl ?_
  refine go_get hf_42 ho_42 rfl fl_1_37 rfl (by first | assumption | rfl) rfl (by first | assumption | ((repeat rewrite [up_k]) <;> first | assumption | decide | omega) | exact rfl) ?_
  refine go_iconst hf_42 rfl rfl ci_1 ?_
  refine go_isub hf_42 rfl rfl rfl ?_
  refine go_is2 hf_42 rfl rfl ?_
  refine loop (ts.length - ts0.length) ts.length M (by omega) (Nat.le_refl _) c1 (fun _ _ => rfl)
theorem r_look {M : sm_M} {ts : List T3} {k x y : Int32} (ht : tm (M 40 1) (M 41) (M 42) (M 43) ts) (hu : uq ts) : cr 93 0 0 [.ref 40, .int k, .int x, .int y] M (fun v M1 => v = some (.int (fnd ts (k, x, y))) ∧ M1 = M) := by
  intro X J rc rs d lw hd hw
  show sm_wp tb_T X tb_ok d lw 93 0 [some (.ref 40), some (.int k), some (.int x), some (.int y), none] [] _ _
  obtain ⟨hN, hN9, hr⟩ := ht
  have loop : ∀ (n i : Nat), i + n = ts.length → (∀ (j : Nat) (z : T3), j < i → ts[j]? = some z → ¬ z = (k, x, y)) → sm_wp tb_T X tb_ok d lw 93 3 [some (.ref 40), some (.int k), some (.int x), some (.int y), some (.int (nI i))] [] (wSH, M, J, rc, rs) (fun o h' => ∃ v M1, o = .inl v ∧ h' = (wSH, M1, J, rc, rs) ∧ v = some (.int (fnd ts (k, x, y))) ∧ M1 = M) := by
    intro n
    induction n with
    | zero =>
      intro i hi hno
      refine go_il4 hf_93 rfl rfl ?_
      refine go_al0 hf_93 rfl rfl ?_
      refine go_get hf_93 ho_93 rfl fl_6_81 rfl (by first | assumption | rfl) rfl (by first | assumption | ((repeat rewrite [up_k]) <;> first | assumption | decide | omega) | exact rfl) ?_
      first | refine go_nn_ge hf_93 rfl rfl rfl (by omega) (by omega) (fun h9 => ?_) (fun h9 => absurd h9 (by omega)) | refine go_ic_ge hf_93 rfl rfl rfl (fun h9 => ?_) (fun h9 => absurd h9 (by omega))
      refine go_iconst hf_93 rfl rfl ci_m1 ?_
      refine go_ret1 hf_93 rfl nl_93 ?_
      refine ⟨_, _, rfl, rfl, ?_, rfl⟩
      rw [fnd_no]
      rintro ⟨j, hj⟩
      have := t_lt hj
      exact hno j _ (by omega) hj rfl
    | succ n ih =>
      intro i hi hno
      obtain ⟨z, hz⟩ := t_at (l := ts) (i := i) (by omega)
      obtain ⟨z1, z2, z3⟩ := hr i z hz
      refine go_il4 hf_93 rfl rfl ?_
      refine go_al0 hf_93 rfl rfl ?_
      refine go_get hf_93 ho_93 rfl fl_6_81 rfl (by first | assumption | rfl) rfl (by first | assumption | ((repeat rewrite [up_k]) <;> first | assumption | decide | omega) | exact rfl) ?_
      first | refine go_nn_ge hf_93 rfl rfl rfl (by omega) (by omega) (fun h9 => absurd h9 (by omega)) (fun h9 => ?_) | refine go_ic_ge hf_93 rfl rfl rfl (fun h9 => absurd h9 (by omega)) (fun h9 => ?_)
      refine go_al0 hf_93 rfl rfl ?_
      refine go_getr hf_93 ho_93 rfl fl_6_7 rfl (by first | assumption | rfl) rfl ?_
      refine go_il4 hf_93 rfl rfl ?_
      refine go_iald hf_93 rfl rfl (by first | assumption | rfl) (by first | rfl | assumption) (by first | exact rfl | assumption) (by omega) (by first | assumption | ((repeat rewrite [up_k]) <;> first | assumption | decide | omega) | exact rfl) ?_
      refine go_il1 hf_93 rfl rfl ?_
      refine go_ic_ne hf_93 rfl rfl rfl (fun h20 => ?_) (fun h20 => ?_)
      · refine go_ic4 hf_93 rfl rfl (by first | exact inc1 _ | exact rfl) ?_
        refine go_goto hf_93 rfl rfl ?_
        refine ih (i + 1) (by omega) (fun j u hj hu2 e => ?_)
        by_cases hj2 : j = i
        · subst hj2
          rw [hz] at hu2
          cases hu2
          subst e
          exact h20 rfl
        · exact hno j u (by omega) hu2 e
      · refine go_al0 hf_93 rfl rfl ?_
        refine go_getr hf_93 ho_93 rfl fl_6_13 rfl (by first | assumption | rfl) rfl ?_
        refine go_il4 hf_93 rfl rfl ?_
        refine go_iald hf_93 rfl rfl (by first | assumption | rfl) (by first | rfl | assumption) (by first | exact rfl | assumption) (by omega) (by first | assumption | ((repeat rewrite [up_k]) <;> first | assumption | decide | omega) | exact rfl) ?_
        refine go_il2 hf_93 rfl rfl ?_
        refine go_ic_ne hf_93 rfl rfl rfl (fun h31 => ?_) (fun h31 => ?_)
        · refine go_ic4 hf_93 rfl rfl (by first | exact inc1 _ | exact rfl) ?_
          refine go_goto hf_93 rfl rfl ?_
          refine ih (i + 1) (by omega) (fun j u hj hu2 e => ?_)
          by_cases hj2 : j = i
          · subst hj2
            rw [hz] at hu2
            cases hu2
            subst e
            exact h31 rfl
          · exact hno j u (by omega) hu2 e
        · refine go_al0 hf_93 rfl rfl ?_
          refine go_getr hf_93 ho_93 rfl fl_6_16 rfl (by first | assumption | rfl) rfl ?_
          refine go_il4 hf_93 rfl rfl ?_
          refine go_iald hf_93 rfl rfl (by first | assumption | rfl) (by first | rfl | assumption) (by first | exact rfl | assumption) (by omega) (by first | assumption | ((repeat rewrite [up_k]) <;> first | assumption | decide | omega) | exact rfl) ?_
          refine go_il3 hf_93 rfl rfl ?_
          refine go_ic_ne hf_93 rfl rfl rfl (fun h42 => ?_) (fun h42 => ?_)
          · refine go_ic4 hf_93 rfl rfl (by first | exact inc1 _ | exact rfl) ?_
            refine go_goto hf_93 rfl rfl ?_
            refine ih (i + 1) (by omega) (fun j u hj hu2 e => ?_)
            by_cases hj2 : j = i
            · subst hj2
              rw [hz] at hu2
              cases hu2
              subst e
              exact h42 rfl
            · exact hno j u (by omega) hu2 e
          · refine go_il4 hf_93 rfl rfl ?_
            refine go_ret1 hf_93 rfl nl_93 ?_
            refine ⟨_, _, rfl, rfl, ?_, rfl⟩
            rw [fnd_at hu (i := i)]
            rw [hz]
            congr 1
            exact Prod.ext h20 (Prod.ext h31 h42)
  refine go_iconst hf_93 rfl rfl ci_0 ?_
  refine go_is4 hf_93 rfl rfl ?_
  exact loop ts.length 0 (by omega) (fun j z hj => absurd hj (Nat.not_lt_zero j))
def TR (g0 : Nat → Int32) (ts0 : List T3) (M : sm_M) (s : List T3 × Bool) : Prop := (∃ r, s.1 = ts0 ++ r) ∧ tm (M 40 1) (M 41) (M 42) (M 43) s.1 ∧ uq s.1 ∧ M 40 7 = bI (s.2 = true) ∧ (∀ j, j < ts0.length → M 44 j = g0 j) ∧ (∀ j, ts0.length ≤ j → j < s.1.length → M 44 j = nI 0)
theorem TR_new {g0 : Nat → Int32} {ts0 ts : List T3} {M M1 : sm_M} {k x y : Int32} (h : TR g0 ts0 M (ts, false)) (hn : ¬ ∃ i : Nat, ts[i]? = some (k, x, y)) (h9 : ts.length < 900) (e1 : M1 40 1 = nI (ts.length + 1)) (e0 : M1 40 7 = M 40 7) (e2 : ∀ j, M1 41 j = if j = ts.length then k else M 41 j) (e3 : ∀ j, M1 42 j = if j = ts.length then x else M 42 j) (e4 : ∀ j, M1 43 j = if j = ts.length then y else M 43 j) (e5 : ∀ j, M1 44 j = if j = ts.length then nI 0 else M 44 j) : TR g0 ts0 M1 (ts ++ [(k, x, y)], false) := by
  obtain ⟨⟨r, hr⟩, ht, hu, hov, o1, o2⟩ := h
  have hr : ts = ts0 ++ r := hr
  have hle : ts0.length ≤ ts.length := by rw [hr]; simp
  refine ⟨⟨r ++ [(k, x, y)], by rw [hr]; simp⟩, tm_snoc ht h9 e1 (fun i hi => ?_) ?_, uq_snoc hu hn, by rw [e0]; exact hov, fun j hj => ?_, fun j hj hj2 => ?_⟩
  · have hi : i < ts.length := hi
    rw [e2, e3, e4, if_neg (by omega), if_neg (by omega), if_neg (by omega)]
    exact ⟨rfl, rfl, rfl⟩
  · show M1 41 ts.length = _ ∧ M1 42 ts.length = _ ∧ M1 43 ts.length = _
    rw [e2, e3, e4, if_pos rfl, if_pos rfl, if_pos rfl]
    exact ⟨rfl, rfl, rfl⟩
  · rw [e5, if_neg (by omega)]
    exact o1 j hj
  · rw [e5]
    split
    · rfl
    · next hc =>
      have hj2 : j < (ts ++ [(k, x, y)]).length := hj2
      rw [List.length_append, List.length_singleton] at hj2
      exact o2 j hj (by show j < ts.length; omega)
theorem r_make {g0 : Nat → Int32} {ts0 : List T3} {s : List T3 × Bool} {M : sm_M} {k : Nat} {x y : Int32} (h : TR g0 ts0 M s) : cr 92 1 24 [.ref 40, .int (nI k), .int x, .int y] M (fun v M1 => (∃ s1 v1, mkR s (nI k) x y = (s1, v1) ∧ v = some (.int v1) ∧ TR g0 ts0 M1 s1) ∧ ∀ p j, ¬ (p = 40 ∧ (j = 1 ∨ j = 7)) → ¬ (41 ≤ p ∧ p ≤ 44) → M1 p j = M p j) := by
  intro X J rc rs d lw hd hw
  show sm_wp tb_T X tb_ok d lw 92 0 [some (.ref 40), some (.int (nI k)), some (.int x), some (.int y), none] [] _ _
  have h0 := h
  obtain ⟨ts, ov⟩ := s
  obtain ⟨hr, ht, hu, hov, o1, o2⟩ := h
  obtain ⟨hN, hN9, hrr⟩ := id ht
  have hN : M 40 1 = nI ts.length := hN
  have hN9 : ts.length ≤ 900 := hN9
  have hthere : ¬ fnd ts (nI k, x, y) < 0 → ∃ i : Nat, ts[i]? = some (nI k, x, y) := fun g => Classical.byContradiction (fun g2 => g (by rw [fnd_no g2]; decide))
  have hnot : ¬ (0 ≤ fnd ts (nI k, x, y)) → ¬ ∃ i : Nat, ts[i]? = some (nI k, x, y) := by
    rintro g ⟨i, hi⟩
    rw [fnd_at hu hi] at g
    exact g (nI_pos' (by have := t_lt hi; have : ts.length ≤ 900 := hN9; omega))
  refine go_al0 hf_92 rfl rfl ?_
  refine go_il1 hf_92 rfl rfl ?_
  refine go_il2 hf_92 rfl rfl ?_
  refine go_il3 hf_92 rfl rfl ?_
  refine go_call hf_92 rfl rfl (inv_v ho_92 cl_6_84) (by decide) nl_93 rfl rfl rfl rfl rfl (by first | rfl | exact rcv_of (by assumption)) rfl rfl rfl (by omega) (by omega) (r_look ht hu) ?_
  intro v9 M9 h9
  rewrite [h9.1, h9.2]
  clear h9 v9 M9
  refine go_is4 hf_92 rfl rfl ?_
  refine go_il4 hf_92 rfl rfl ?_
  refine go_if_ge hf_92 rfl rfl rfl (fun h11 => ?_) (fun h11 => ?_)
  · refine go_il4 hf_92 rfl rfl ?_
    refine go_ret1 hf_92 rfl nl_92 ?_
    exact ⟨_, _, rfl, rfl, ⟨_, _, mkR_there (hthere (i32_nlt.mpr h11)), rfl, h0⟩, fun _ _ _ _ => rfl⟩
  · refine go_al0 hf_92 rfl rfl ?_
    refine go_get hf_92 ho_92 rfl fl_6_88 rfl (by first | assumption | rfl) rfl (by first | assumption | ((repeat rewrite [up_k]) <;> first | assumption | decide | omega) | exact rfl) ?_
    refine go_if_eq hf_92 rfl rfl rfl (fun h18 => ?_) (fun h18 => ?_)
    · refine go_al0 hf_92 rfl rfl ?_
      refine go_get hf_92 ho_92 rfl fl_6_81 rfl (by first | assumption | rfl) rfl (by first | assumption | ((repeat rewrite [up_k]) <;> first | assumption | decide | omega) | exact rfl) ?_
      refine go_sipush hf_92 rfl rfl cs_900 ?_
      first | refine go_nn_ne hf_92 rfl rfl rfl (by omega) (by omega) (fun h31 => ?_) (fun h31 => ?_) | refine go_ic_ne hf_92 rfl rfl rfl (fun h31 => ?_) (fun h31 => ?_)
      · refine go_al0 hf_92 rfl rfl ?_
        refine go_getr hf_92 ho_92 rfl fl_6_7 rfl (by first | assumption | rfl) rfl ?_
        refine go_al0 hf_92 rfl rfl ?_
        refine go_get hf_92 ho_92 rfl fl_6_81 rfl (by first | assumption | rfl) rfl (by first | assumption | ((repeat rewrite [up_k]) <;> first | assumption | decide | omega) | exact rfl) ?_
        refine go_il1 hf_92 rfl rfl ?_
        refine go_iast hf_92 rfl rfl (by first | assumption | rfl) (by first | rfl | assumption) (by first | exact rfl | assumption) (by omega) ?_
        refine go_al0 hf_92 rfl rfl ?_
        refine go_getr hf_92 ho_92 rfl fl_6_13 rfl (by first | assumption | rfl) rfl ?_
        refine go_al0 hf_92 rfl rfl ?_
        refine go_get hf_92 ho_92 rfl fl_6_81 rfl (by first | assumption | rfl) rfl (by first | assumption | ((repeat rewrite [up_k]) <;> first | assumption | decide | omega) | exact rfl) ?_
        refine go_il2 hf_92 rfl rfl ?_
        refine go_iast hf_92 rfl rfl (by first | assumption | rfl) (by first | rfl | assumption) (by first | exact rfl | assumption) (by omega) ?_
        refine go_al0 hf_92 rfl rfl ?_
        refine go_getr hf_92 ho_92 rfl fl_6_16 rfl (by first | assumption | rfl) rfl ?_
        refine go_al0 hf_92 rfl rfl ?_
        refine go_get hf_92 ho_92 rfl fl_6_81 rfl (by first | assumption | rfl) rfl (by first | assumption | ((repeat rewrite [up_k]) <;> first | assumption | decide | omega) | exact rfl) ?_
        refine go_il3 hf_92 rfl rfl ?_
        refine go_iast hf_92 rfl rfl (by first | assumption | rfl) (by first | rfl | assumption) (by first | exact rfl | assumption) (by omega) ?_
        refine go_al0 hf_92 rfl rfl ?_
        refine go_getr hf_92 ho_92 rfl fl_6_19 rfl (by first | assumption | rfl) rfl ?_
        refine go_al0 hf_92 rfl rfl ?_
        refine go_get hf_92 ho_92 rfl fl_6_81 rfl (by first | assumption | rfl) rfl (by first | assumption | ((repeat rewrite [up_k]) <;> first | assumption | decide | omega) | exact rfl) ?_
        refine go_iconst hf_92 rfl rfl ci_0 ?_
        refine go_bast hf_92 rfl rfl (by first | assumption | rfl) (by first | rfl | assumption) (by first | exact rfl | assumption) (by omega) (by first | exact Or.inl rfl | exact Or.inr rfl | assumption) ?_
        refine go_al0 hf_92 rfl rfl ?_
        first | refine go_dup hf_92 rfl rfl ?_ | refine go_dupr hf_92 rfl rfl ?_
        refine go_get hf_92 ho_92 rfl fl_6_81 rfl (by first | assumption | rfl) rfl (by first | assumption | ((repeat rewrite [up_k]) <;> first | assumption | decide | omega) | exact rfl) ?_
        refine go_iconst hf_92 rfl rfl ci_1 ?_
        refine go_iadd hf_92 rfl rfl (by first | exact nI_add _ _ | exact rfl) ?_
        refine go_put hf_92 ho_92 rfl fl_6_81 rfl (by first | assumption | rfl) rfl (Or.inl rfl) ?_
        refine go_al0 hf_92 rfl rfl ?_
        refine go_get hf_92 ho_92 rfl fl_6_81 rfl (by first | assumption | rfl) rfl (by rw [up_s]) ?_
        refine go_iconst hf_92 rfl rfl ci_1 ?_
        refine go_isub hf_92 rfl rfl rfl ?_
        refine go_ret1 hf_92 rfl nl_92 ?_
        have hov : ov = false := by
          cases ov with
          | false => rfl
          | true => exact absurd (h18 : bI _ = 0) (by rw [bI_0]; exact fun g => g rfl)
        subst hov
        rw [tm1_s]
        refine ⟨_, _, rfl, rfl, ⟨_, _, mkR_new (hnot h11) (by simp) (by show ¬ 900 ≤ ts.length; omega), rfl, TR_new (ts := ts) h0 (hnot h11) (show ts.length < 900 by omega) up_s ?_ ?_ ?_ ?_ ?_⟩, ?_⟩
        · rw [up_i (by omega), up_k (by omega), up_k (by omega), up_k (by omega), up_k (by omega)]
        · intro j; by_cases hj : j = ts.length
          · subst hj; rw [if_pos rfl, up_k (by omega), up_k (by omega), up_k (by omega), up_k (by omega), up_s]
          · rw [if_neg hj, up_k (by omega), up_k (by omega), up_k (by omega), up_k (by omega), up_i hj]
        · intro j; by_cases hj : j = ts.length
          · subst hj; rw [if_pos rfl, up_k (by omega), up_k (by omega), up_k (by omega), up_s]
          · rw [if_neg hj, up_k (by omega), up_k (by omega), up_k (by omega), up_i hj, up_k (by omega)]
        · intro j; by_cases hj : j = ts.length
          · subst hj; rw [if_pos rfl, up_k (by omega), up_k (by omega), up_s]
          · rw [if_neg hj, up_k (by omega), up_k (by omega), up_i hj, up_k (by omega), up_k (by omega)]
        · intro j; by_cases hj : j = ts.length
          · subst hj; rw [if_pos rfl, up_k (by omega), up_s]
          · rw [if_neg hj, up_k (by omega), up_i hj, up_k (by omega), up_k (by omega), up_k (by omega)]
        · intro p j g1 g2; rw [up_o (by omega), up_k (by omega), up_k (by omega), up_k (by omega), up_k (by omega)]
      · refine go_al0 hf_92 rfl rfl ?_
        refine go_iconst hf_92 rfl rfl ci_1 ?_
        refine go_put hf_92 ho_92 rfl fl_6_88 rfl (by first | assumption | rfl) rfl (Or.inr ⟨rfl, (by first | exact Or.inl rfl | exact Or.inr rfl | assumption)⟩) ?_
        refine go_iconst hf_92 rfl rfl ci_m1 ?_
        refine go_ret1 hf_92 rfl nl_92 ?_
        refine ⟨_, _, rfl, rfl, ⟨_, _, mkR_no (hnot h11) (bI_0.mp h18) (by show 900 ≤ ts.length; omega), rfl, ?_⟩, ?_⟩
        · obtain ⟨hr, ht, hu, hov, o1, o2⟩ := h0
          refine ⟨hr, ?_, hu, ?_, fun j hj => ?_, fun j hj hj2 => ?_⟩
          · rw [up_i (by omega)]
            unfold tm at ht ⊢
            exact ht
          · rw [up_s, bI_t rfl]
          · rw [up_k (by omega)]; exact o1 j hj
          · rw [up_k (by omega)]; exact o2 j hj hj2
        · intro p j g1 g2; rw [up_o (by omega)]
    · refine go_il4 hf_92 rfl rfl ?_
      refine go_ret1 hf_92 rfl nl_92 ?_
      rw [fnd_no (hnot h11)]
      exact ⟨_, _, rfl, rfl, ⟨_, _, mkR_over (hnot h11) (bI_n0.mp h18), rfl, h0⟩, fun _ _ _ _ => rfl⟩
theorem r_settle {M : sm_M} {b t : Int32} : cr 95 0 0 [.ref 40, .int b, .int t] M (fun v M1 => ∃ u, v = some (.int u) ∧ ((M 40 7 = 0 ∧ u = t ∧ M1 = M) ∨ (¬ M 40 7 = 0 ∧ u = -2 ∧ M1 = sm_up (sm_up M 40 1 b) 40 7 (nI 0)))) := by
  intro X J rc rs d lw hd hw
  show sm_wp tb_T X tb_ok d lw 95 0 [some (.ref 40), some (.int b), some (.int t)] [] _ _
  refine go_al0 hf_95 rfl rfl ?_
  refine go_get hf_95 ho_95 rfl fl_6_88 rfl (by first | assumption | rfl) rfl (by first | assumption | ((repeat rewrite [up_k]) <;> first | assumption | decide | omega) | exact rfl) ?_
  refine go_if_eq hf_95 rfl rfl rfl (fun h4 => ?_) (fun h4 => ?_)
  · refine go_il2 hf_95 rfl rfl ?_
    refine go_ret1 hf_95 rfl nl_95 ?_
    exact ⟨_, _, rfl, rfl, _, rfl, Or.inl ⟨h4, rfl, rfl⟩⟩
  · refine go_al0 hf_95 rfl rfl ?_
    refine go_il1 hf_95 rfl rfl ?_
    refine go_put hf_95 ho_95 rfl fl_6_81 rfl (by first | assumption | rfl) rfl (Or.inl rfl) ?_
    refine go_al0 hf_95 rfl rfl ?_
    refine go_iconst hf_95 rfl rfl ci_0 ?_
    refine go_put hf_95 ho_95 rfl fl_6_88 rfl (by first | assumption | rfl) rfl (Or.inr ⟨rfl, (by first | exact Or.inl rfl | exact Or.inr rfl | assumption)⟩) ?_
    refine go_bipush hf_95 rfl rfl cb_m2 ?_
    refine go_ret1 hf_95 rfl nl_95 ?_
    exact ⟨_, _, rfl, rfl, _, rfl, Or.inr ⟨h4, rfl, rfl⟩⟩
