/-! ===== programs of makes: class and reference alike ===== -/
theorem fnd_some {ts : List T3} {z : T3} (h : ∃ i : Nat, ts[i]? = some z) : ∃ i : Nat, ts[i]? = some z ∧ fnd ts z = nI i := by
  refine ⟨Classical.choose h, Classical.choose_spec h, ?_⟩
  unfold fnd
  rw [dif_pos h]
theorem mkR_mono {s s1 : List T3 × Bool} {k x y v : Int32} (h : mkR s k x y = (s1, v)) : (∃ r, s1.1 = s.1 ++ r) ∧ (s.2 = true → s1.2 = true) := by
  by_cases hi : ∃ i : Nat, s.1[i]? = some (k, x, y)
  · rw [mkR_there hi] at h
    cases h
    exact ⟨⟨[], by simp⟩, id⟩
  by_cases ho : s.2 = true
  · rw [mkR_over hi ho] at h
    cases h
    exact ⟨⟨[], by simp⟩, id⟩
  by_cases h9 : 900 ≤ s.1.length
  · rw [mkR_no hi ho h9] at h
    cases h
    exact ⟨⟨[], by simp⟩, fun _ => rfl⟩
  · rw [mkR_new hi ho h9] at h
    cases h
    exact ⟨⟨_, rfl⟩, fun g => absurd g ho⟩
theorem mkR_at {s s1 : List T3 × Bool} {k x y v : Int32} (h : mkR s k x y = (s1, v)) (h1 : s1.2 = false) : ∃ i : Nat, s1.1[i]? = some (k, x, y) ∧ v = nI i := by
  by_cases hi : ∃ i : Nat, s.1[i]? = some (k, x, y)
  · rw [mkR_there hi] at h
    cases h
    exact fnd_some hi
  by_cases ho : s.2 = true
  · rw [mkR_over hi ho] at h
    cases h
    rw [ho] at h1
    cases h1
  by_cases h9 : 900 ≤ s.1.length
  · rw [mkR_no hi ho h9] at h
    cases h
    cases h1
  · rw [mkR_new hi ho h9] at h
    cases h
    exact ⟨s.1.length, by simp, rfl⟩
theorem mkR_idem {ts : List T3} {b : Bool} {k x y : Int32} {i : Nat} (hu : uq ts) (h : ts[i]? = some (k, x, y)) : mkR (ts, b) k x y = ((ts, b), nI i) := by
  rw [mkR_there (s := (ts, b)) ⟨i, h⟩]
  exact congrArg (Prod.mk (ts, b)) (fnd_at hu h)
/-- what a step of a program does, whatever the make -/
theorem rpa_form (t : Tok) (st : List Int32) : (∃ (k : Nat) (x y : Int32) (st' : List Int32), (∀ (σ : Type) (mk : σ → Int32 → Int32 → Int32 → σ × Int32) (s : σ), rpa mk t s st = ((mk s (nI k) x y).1, (mk s (nI k) x y).2 :: st')) ∧ (∀ a, a ∈ st → a = x ∨ a = y ∨ a ∈ st') ∧ (∀ a, a ∈ st' → a ∈ st) ∧ ((x ∈ st ∧ y ∈ st ∧ (t.1 = 1 ∨ t.1 = 2) ∧ k = t.2.1) ∨ (t.1 = 0 ∧ k = t.2.1 ∧ x = nI t.2.2 ∧ y = -1 ∧ st' = st))) ∨ (∃ st' : List Int32, (∀ (σ : Type) (mk : σ → Int32 → Int32 → Int32 → σ × Int32) (s : σ), rpa mk t s st = (s, st')) ∧ ∀ a, a ∈ st ↔ a ∈ st') := by
  obtain ⟨t0, k, n⟩ := t
  match t0, st with
  | 0, st => exact Or.inl ⟨k, nI n, -1, st, fun σ mk s => rfl, fun a h => Or.inr (Or.inr h), fun a h => h, Or.inr ⟨rfl, rfl, rfl, rfl, rfl⟩⟩
  | 1, [] => exact Or.inr ⟨[], fun σ mk s => rfl, fun a => Iff.rfl⟩
  | 1, [x] => exact Or.inr ⟨[x], fun σ mk s => rfl, fun a => Iff.rfl⟩
  | 1, y :: x :: st => exact Or.inl ⟨k, x, y, st, fun σ mk s => rfl, fun a h => by simp at h; rcases h with h | h | h; exact Or.inr (Or.inl h); exact Or.inl h; exact Or.inr (Or.inr h), fun a h => by simp [h], Or.inl ⟨by simp, by simp, Or.inl rfl, rfl⟩⟩
  | 2, [] => exact Or.inr ⟨[], fun σ mk s => rfl, fun a => Iff.rfl⟩
  | 2, [x] => exact Or.inr ⟨[x], fun σ mk s => rfl, fun a => Iff.rfl⟩
  | 2, x :: y :: st => exact Or.inl ⟨k, x, y, st, fun σ mk s => rfl, fun a h => by simp at h; exact h, fun a h => by simp [h], Or.inl ⟨by simp, by simp, Or.inr rfl, rfl⟩⟩
  | 3, [] => exact Or.inr ⟨[], fun σ mk s => rfl, fun a => Iff.rfl⟩
  | 3, x :: st => exact Or.inr ⟨x :: x :: st, fun σ mk s => rfl, fun a => by simp⟩
  | n + 4, [] => exact Or.inr ⟨[], fun σ mk s => rfl, fun a => Iff.rfl⟩
  | n + 4, x :: st => exact Or.inr ⟨x :: st, fun σ mk s => rfl, fun a => Iff.rfl⟩
theorem rp_mono : ∀ (p : List Tok) (s : List T3 × Bool) (st : List Int32), (∃ r, (rp mkR p s st).1.1 = s.1 ++ r) ∧ (s.2 = true → (rp mkR p s st).1.2 = true) := by
  intro p
  induction p with
  | nil => intro s st; exact ⟨⟨[], by simp [rp]⟩, id⟩
  | cons t p ih =>
    intro s st
    have e : rp mkR (t :: p) s st = rp mkR p (rpa mkR t s st).1 (rpa mkR t s st).2 := rfl
    rw [e]
    rcases rpa_form t st with ⟨k, x, y, st', h1, -⟩ | ⟨st', h1, -⟩
    · rw [h1]
      generalize hm : mkR s (nI k) x y = m
      obtain ⟨s1, v⟩ := m
      obtain ⟨⟨r1, m1⟩, m2⟩ := mkR_mono hm
      obtain ⟨⟨r2, n1⟩, n2⟩ := ih s1 (v :: st')
      exact ⟨⟨r1 ++ r2, by rw [n1, m1, List.append_assoc]⟩, fun g => n2 (m2 g)⟩
    · rw [h1]
      exact ih s st'
theorem rp_idem : ∀ (p : List Tok) (ts ts1 r : List T3) (st st1 : List Int32), rp mkR p (ts, false) st = ((ts1, false), st1) → uq (ts1 ++ r) → rp mkR p (ts1 ++ r, false) st = ((ts1 ++ r, false), st1) := by
  intro p
  induction p with
  | nil =>
    intro ts ts1 r st st1 h hu
    have h : ((ts, false), st) = ((ts1, false), st1) := h
    cases h
    rfl
  | cons t p ih =>
    intro ts ts1 r st st1 h hu
    have e : ∀ s, rp mkR (t :: p) s st = rp mkR p (rpa mkR t s st).1 (rpa mkR t s st).2 := fun _ => rfl
    rw [e] at h ⊢
    rcases rpa_form t st with ⟨k, x, y, st', h1, -⟩ | ⟨st', h1, -⟩
    · rw [h1] at h ⊢
      generalize hm : mkR (ts, false) (nI k) x y = m at h
      obtain ⟨⟨ts2, ov2⟩, v⟩ := m
      have hov : ov2 = false := by
        cases ov2 with
        | false => rfl
        | true =>
          have h2 := (rp_mono p (ts2, true) (v :: st')).2 rfl
          have h3 : rp mkR p (ts2, true) (v :: st') = ((ts1, false), st1) := h
          rw [h3] at h2
          cases h2
      subst hov
      have h3 : rp mkR p (ts2, false) (v :: st') = ((ts1, false), st1) := h
      obtain ⟨i, hi, hv⟩ := mkR_at hm rfl
      obtain ⟨⟨r1, m1⟩, -⟩ := rp_mono p (ts2, false) (v :: st')
      rw [h3] at m1
      have m1 : ts1 = ts2 ++ r1 := m1
      have hi2 : (ts1 ++ r)[i]? = some (nI k, x, y) := by
        rw [m1, List.append_assoc]
        exact t_app hi
      rw [mkR_idem hu hi2, ← hv]
      exact ih ts2 ts1 r _ _ h3 hu
    · rw [h1] at h ⊢
      exact ih ts ts1 r st' st1 h hu
/-- well formed -/
def wt (ts : List T3) : Prop := ∀ (i : Nat) (z : T3), ts[i]? = some z → ((z.1 = nI 0 ∨ z.1 = nI 1) ∧ z.2.2 = -1 ∧ ∃ n, n < 1000 ∧ z.2.1 = nI n) ∨ (∃ kk a b, 2 ≤ kk ∧ kk ≤ 5 ∧ z.1 = nI kk ∧ a < i ∧ b < i ∧ z.2.1 = nI a ∧ z.2.2 = nI b)
theorem wt_snoc {ts : List T3} {z : T3} (h : wt ts) (hz : ((z.1 = nI 0 ∨ z.1 = nI 1) ∧ z.2.2 = -1 ∧ ∃ n, n < 1000 ∧ z.2.1 = nI n) ∨ (∃ kk a b, 2 ≤ kk ∧ kk ≤ 5 ∧ z.1 = nI kk ∧ a < ts.length ∧ b < ts.length ∧ z.2.1 = nI a ∧ z.2.2 = nI b)) : wt (ts ++ [z]) := by
  intro i u hu
  rcases t_snoc hu with ⟨i1, i2⟩ | ⟨i1, i2⟩
  · exact h i u i2
  · subst i1
    subst i2
    exact hz
def tokOK (t : Tok) : Prop := (t.1 = 0 → t.2.1 ≤ 1 ∧ t.2.2 < 1000) ∧ (t.1 = 1 ∨ t.1 = 2 → 2 ≤ t.2.1 ∧ t.2.1 ≤ 5)
theorem rp_full : ∀ (p : List Tok) (ts : List T3) (st : List Int32), (-2 : Int32) ∈ st → (-2 : Int32) ∈ (rp mkC p ts st).2 := by
  intro p
  induction p with
  | nil => intro ts st h; exact h
  | cons t p ih =>
    intro ts st h
    show _ ∈ (rp mkC p (rpa mkC t ts st).1 (rpa mkC t ts st).2).2
    rcases rpa_form t st with ⟨k, x, y, st', h1, h2, -⟩ | ⟨st', h1, h2⟩
    · rw [h1]
      refine ih _ _ ?_
      by_cases hf : x = -2 ∨ y = -2
      · rw [mkC_full hf]
        exact List.mem_cons_self
      · rcases h2 _ h with g | g | g
        · exact absurd (Or.inl g.symm) hf
        · exact absurd (Or.inr g.symm) hf
        · exact List.mem_cons_of_mem _ g
    · rw [h1]
      exact ih _ _ ((h2 _).mp h)
theorem rp_cmp (ts0 : List T3) : ∀ (p : List Tok) (ts : List T3) (st : List Int32), (∀ t ∈ p, tokOK t) → uq ts → wt ts → ts.length ≤ 900 → (∀ a ∈ st, ∃ b, b < ts.length ∧ a = nI b) → (∃ r, ts = ts0 ++ r) → (ts = ts0 ∨ ∃ b, ts0.length ≤ b ∧ b < ts.length ∧ nI b ∈ st) →
    ((rp mkR p (ts, false) st).1.2 = false ∧ (rp mkC p ts st).1 = (rp mkR p (ts, false) st).1.1 ∧ (rp mkC p ts st).2 = (rp mkR p (ts, false) st).2 ∧ wt (rp mkC p ts st).1 ∧ (∀ a ∈ (rp mkC p ts st).2, ∃ b, b < (rp mkC p ts st).1.length ∧ a = nI b) ∧ ((rp mkC p ts st).1 = ts0 ∨ ∃ b, ts0.length ≤ b ∧ b < (rp mkC p ts st).1.length ∧ nI b ∈ (rp mkC p ts st).2) ∧ (∃ r, (rp mkC p ts st).1 = ts0 ++ r)) ∨ ((rp mkR p (ts, false) st).1.2 = true ∧ (-2 : Int32) ∈ (rp mkC p ts st).2) := by
  intro p
  induction p with
  | nil => intro ts st hp hu hw h9 hst hr hg; exact Or.inl ⟨rfl, rfl, rfl, hw, hst, hg, hr⟩
  | cons t p ih =>
    intro ts st hp hu hw h9 hst hr hg
    have eC : rp mkC (t :: p) ts st = rp mkC p (rpa mkC t ts st).1 (rpa mkC t ts st).2 := rfl
    have eR : rp mkR (t :: p) (ts, false) st = rp mkR p (rpa mkR t (ts, false) st).1 (rpa mkR t (ts, false) st).2 := rfl
    rw [eC, eR]
    have hp2 : ∀ t ∈ p, tokOK t := fun t h => hp t (List.mem_cons_of_mem _ h)
    obtain ⟨ok1, ok2⟩ := hp t List.mem_cons_self
    rcases rpa_form t st with ⟨k, x, y, st', h1, h2, h3, h4⟩ | ⟨st', h1, h2⟩
    · rw [h1, h1]
      have hnf : ¬ (x = -2 ∨ y = -2) := by
        rcases h4 with ⟨g1, g2, -, -⟩ | ⟨g0, -, g1, g2, -⟩
        · obtain ⟨b1, hb1, rfl⟩ := hst x g1
          obtain ⟨b2, hb2, rfl⟩ := hst y g2
          rintro (g | g)
          · exact nI_m1b (by omega) g
          · exact nI_m1b (by omega) g
        · rintro (g | g)
          · have := (ok1 g0).2
            rw [g1] at g
            exact nI_m1b (by omega) g
          · rw [g2] at g
            exact absurd g (by decide)
      have hst' : ∀ a ∈ st', ∃ b, b < ts.length ∧ a = nI b := fun a h => hst a (h3 a h)
      by_cases hi : ∃ i : Nat, ts[i]? = some (nI k, x, y)
      · obtain ⟨i, hi⟩ := hi
        rw [mkC_there hnf ⟨i, hi⟩, mkR_idem hu hi, fnd_at hu hi]
        refine ih ts (nI i :: st') hp2 hu hw h9 (fun a ha => ?_) hr ?_
        · rcases List.mem_cons.mp ha with rfl | ha
          · exact ⟨i, t_lt hi, rfl⟩
          · exact hst' a ha
        · rcases hg with hg | ⟨b, hb1, hb2, hb3⟩
          · exact Or.inl hg
          · right
            rcases h4 with ⟨m1, m2, -, -⟩ | ⟨-, -, -, -, est⟩
            · obtain ⟨b2, hb2', e2⟩ := hst y m2
              rcases hw i _ hi with ⟨-, g5, -⟩ | ⟨kk, a, c, q1, q2, q3, q4, q5, q6, q7⟩
              · have g5 : y = -1 := g5
                rw [e2] at g5
                exact absurd g5 (nI_m1 (by omega))
              have q6 : x = nI a := q6
              have q7 : y = nI c := q7
              have hi9 := t_lt hi
              rcases h2 _ hb3 with g | g | g
              · rw [q6] at g
                have := (nI_eq (by omega) (by omega)).mp g
                exact ⟨i, by omega, t_lt hi, List.mem_cons_self⟩
              · rw [q7] at g
                have := (nI_eq (by omega) (by omega)).mp g
                exact ⟨i, by omega, t_lt hi, List.mem_cons_self⟩
              · exact ⟨b, hb1, hb2, List.mem_cons_of_mem _ g⟩
            · exact ⟨b, hb1, hb2, List.mem_cons_of_mem _ (by rw [est]; exact hb3)⟩
      · by_cases h99 : 900 ≤ ts.length
        · rw [mkC_no hnf hi h99, mkR_no (s := (ts, false)) hi (by simp) h99]
          exact Or.inr ⟨(rp_mono p (ts, true) _).2 rfl, rp_full p ts _ List.mem_cons_self⟩
        · rw [mkC_new hnf hi h99, mkR_new (s := (ts, false)) hi (by simp) h99]
          obtain ⟨r, hr⟩ := hr
          have hle : ts0.length ≤ ts.length := by rw [hr]; simp
          refine ih (ts ++ [(nI k, x, y)]) (nI ts.length :: st') hp2 (uq_snoc hu hi) (wt_snoc hw ?_) (by simp; omega) (fun a ha => ?_) ⟨r ++ [(nI k, x, y)], by rw [hr]; simp⟩ (Or.inr ⟨ts.length, hle, by simp, List.mem_cons_self⟩)
          · rcases h4 with ⟨g1, g2, g3, rfl⟩ | ⟨g0, rfl, g1, g2, -⟩
            · obtain ⟨b1, hb1, rfl⟩ := hst x g1
              obtain ⟨b2, hb2, rfl⟩ := hst y g2
              exact Or.inr ⟨_, b1, b2, (ok2 g3).1, (ok2 g3).2, rfl, hb1, hb2, rfl, rfl⟩
            · refine Or.inl ⟨?_, g2, _, (ok1 g0).2, g1⟩
              rcases (by have := (ok1 g0).1; omega : t.2.1 = 0 ∨ t.2.1 = 1) with e | e
              · exact Or.inl (by show nI t.2.1 = _; rw [e])
              · exact Or.inr (by show nI t.2.1 = _; rw [e])
          · rcases List.mem_cons.mp ha with rfl | ha
            · exact ⟨ts.length, by simp, rfl⟩
            · obtain ⟨b, hb, rfl⟩ := hst' a ha
              exact ⟨b, by simp; omega, rfl⟩
    · rw [h1, h1]
      refine ih ts st' hp2 hu hw h9 (fun a ha => hst a ((h2 a).mpr ha)) hr ?_
      rcases hg with hg | ⟨b, hb1, hb2, hb3⟩
      · exact Or.inl hg
      · exact Or.inr ⟨b, hb1, hb2, (h2 _).mp hb3⟩
