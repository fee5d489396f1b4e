/-! ===== side by side: terms that are made ===== -/
theorem Rel_terms {M M1 M2 : sm_M} {ts ts1 : List T3} {ms : List Msg} (h : Rel2 M ts ms) (hle : ts.length ≤ ts1.length) (hT : RelT M2 ts1) (fc : ∀ p, (p = 0 ∨ 11 < p) → M1 p = M p) (f2 : ∀ p j, ¬ (p = 40 ∧ (j = 0 ∨ j = 1 ∨ j = 7)) → ¬ (41 ≤ p ∧ p ≤ 45) → M2 p j = M1 p j) : Rel M2 := by
  obtain ⟨h1, h2, h3, h4⟩ := h
  have cc : ∀ p j, (p = 0 ∨ 11 < p) → ¬ (p = 40 ∧ (j = 0 ∨ j = 1 ∨ j = 7)) → ¬ (41 ≤ p ∧ p ≤ 45) → M2 p j = M p j := fun p j g1 g2 g3 => by rw [f2 p j g2 g3, fc p g1]
  obtain ⟨m1, m2, m3⟩ := RelM_keep (M1 := M2) h2 (fun p q1 q2 => funext fun j => cc _ _ (by omega) (by omega) (by omega)) (cc _ _ (by omega) (by omega) (by omega)) (fun p q1 q2 => funext fun j => cc _ _ (by omega) (by omega) (by omega))
  exact ⟨ts1, ms, hT, ⟨m1, m2, fun x hx => okM_up hle (m3 x hx)⟩, RelH_keep hle h3 (cc _ _ (by omega) (by omega) (by omega)) (cc _ _ (by omega) (by omega) (by omega)), fun k hk => kD2 hle hk (h4 k hk) (fun p j _ _ => cc _ _ (by omega) (by omega) (by omega)) (fun p j _ _ => cc _ _ (by omega) (by omega) (by omega))⟩
theorem g01 {p : Prop} [Decidable p] {N : Nat} {x : Int32} {g : Int32} (h : x = if p then nI 1 else g) (hg : g = 0 ∨ g = 1) : x = 0 ∨ x = 1 := by
  rw [h]
  split
  · exact Or.inr rfl
  · exact hg
section TM
variable {M : sm_M} {a0 a1 a2 : Int32}
theorem g_leak (h : Rel M) : two 11 [.ref 0, .int a0] 118 [.ref 40, .int a0] M := by
  by_cases hf : ∃ n, n ≤ 8 ∧ a0 = nI n
  · obtain ⟨n, hn, rfl⟩ := hf
    obtain ⟨ts, ms, h2⟩ := id h
    have h1 := h2.1
    have h9 := h1.1.1.2.1.2.1
    refine cr_le (c_leak hn h1.1 h1.2.2.2) (by omega) (by omega) (fun v M1 hp => ?_)
    obtain ⟨⟨ts1, v1, eC, rfl, tw, ox⟩, fc⟩ := hp
    refine ⟨_, rfl, ?_⟩
    have fR : ∀ p, 40 ≤ p → M1 p = M p := fun p hp => fc p (by omega)
    refine cr_le (r_leak (ts := ts) hn (RW_keep h1.2.1 (by rw [fR 40 (by omega)]) (by rw [fR 40 (by omega)]) (fun p _ _ => fR p (by omega)))) (by omega) (by omega) (fun v' M2 hp => ?_)
    obtain ⟨⟨s1, v2, eR, u', rfl, hcs⟩, r0, fs⟩ := hp
    have ec : ∀ p, 1 ≤ p → p ≤ 7 → M2 p = M1 p := fun p _ _ => funext fun j => fs _ _ (by omega) (by omega)
    have hx : ¬ ((nI n : Int32) = -2 ∨ (-1 : Int32) = -2) := fun q => q.elim (nI_m1b (by omega)) (by decide)
    have h91 := tw.1.2.1.2.1
    rcases mk_cmp hx h9 eC eR with ⟨rfl, rfl, b, hb, eb⟩ | ⟨q1, q2, q3⟩
    · rcases hcs with ⟨-, rfl, hr, hg⟩ | ⟨q, -⟩
      · have hle : ts.length ≤ ts1.length := by
          rcases mkC_form eC with ⟨-, e⟩ | ⟨b', -, -, e | ⟨e, -⟩⟩
          · rw [e]; exact Nat.le_refl _
          · rw [e]; exact Nat.le_refl _
          · rw [e]; simp
        have hg2 : ∀ j, j < ts1.length → M2 44 j = if u' = nI j then nI 1 else if j < ts.length then M 44 j else nI 0 := fun j hj => by
          rw [hg j hj, fR 44 (by omega)]
        refine ⟨rfl, Rel_terms h2 hle (RelT_mk tw ec hr (fun j hj => ?_) (fun j hj => ?_) ox) (fun p hp => fc p (by omega)) (fun p j g1 g2 => fs p j g1 (by omega))⟩
        · refine g01 (N := 0) (hg2 j hj) ?_
          split
          · next hl => exact h1.2.2.1 j hl
          · exact Or.inl rfl
        · rw [hg2 j hj]
          by_cases e : u' = nI j
          · rw [if_pos e]; exact ⟨fun _ => rfl, fun _ => Or.inr e⟩
          · rw [if_neg e]
            by_cases hl : j < ts.length
            · rw [if_pos hl]; exact ⟨fun q => q.elim (fun q => q.2) (fun q => absurd q e), fun q => Or.inl ⟨hl, q⟩⟩
            · rw [if_neg hl]; exact ⟨fun q => q.elim (fun q => absurd q.1 hl) (fun q => absurd q e), fun q => absurd q (by decide)⟩
      · cases q
    · rcases hcs with ⟨q, -⟩ | ⟨-, rfl, hr, hg⟩
      · rw [q] at q1; cases q1
      · subst q3
        refine ⟨by rw [q2], Rel_terms h2 (Nat.le_refl _) (RelT_mk tw ec hr (fun j hj => ?_) (fun j hj => ?_) ox) (fun p hp => fc p (by omega)) (fun p j g1 g2 => fs p j g1 (by omega))⟩
        · rw [hg j hj, fR 44 (by omega)]; exact h1.2.2.1 j hj
        · rw [hg j hj, fR 44 (by omega), q2]
          exact ⟨fun q => q.elim (fun q => q.2) (fun q => absurd q.symm (nI_m1b (by omega))), fun q => Or.inl ⟨hj, q⟩⟩
  · refine cr_le (c_leak0 hf) (by omega) (by omega) (fun v M1 hp => ?_)
    obtain ⟨rfl, rfl⟩ := hp
    refine ⟨_, rfl, cr_le (r_leak0 hf) (by omega) (by omega) (fun v' M2 hp => ?_)⟩
    obtain ⟨rfl, rfl⟩ := hp
    exact ⟨rfl, Rel_keep h keepA_0⟩
theorem g_build (h : Rel M) : two 10 [.ref 0, .int a0, .int a1, .int a2] 117 [.ref 40, .int a0, .int a1, .int a2] M := by
  obtain ⟨ts, ms, h2⟩ := id h
  have h1 := h2.1
  have h9 := h1.1.1.2.1.2.1
  refine cr_le (c_build h1.1 h1.2.2.2) (by omega) (by omega) (fun v M1 hp => ?_)
  obtain ⟨u, rfl, hp⟩ := hp
  refine ⟨u, rfl, ?_⟩
  have fR : ∀ p, 40 ≤ p → M1 p = M p := fun p hp2 => by
    rcases hp with ⟨-, -, e⟩ | ⟨-, -, e⟩
    · rw [e]
    · exact e p (by omega)
  refine cr_le (r_build (ts := ts) (RW_keep h1.2.1 (by rw [fR 40 (by omega)]) (by rw [fR 40 (by omega)]) (fun p _ _ => fR p (by omega))) h1.1.2 (fun i hi => by rw [fR 44 (by omega)]; exact h1.2.2.1 i hi)) (by omega) (by omega) (fun v' M2 hp' => ?_)
  obtain ⟨u', rfl, hp', r0, fn, fs⟩ := hp'
  have hkk : ∀ t, KNR M1 ts.length t ↔ KNW M ts.length t := fun t => (KNR_keep (fun p _ _ => fR p (by omega))).trans (KN_alike h1).symm
  rw [hkk, hkk] at hp' fn
  have hiff : (∃ kk x y, 2 ≤ kk ∧ kk ≤ 5 ∧ a0 = nI kk ∧ x < ts.length ∧ a1 = nI x ∧ M 5 x = 1 ∧ y < ts.length ∧ a2 = nI y ∧ M 5 y = 1) ↔ (∃ kk, 2 ≤ kk ∧ kk ≤ 5 ∧ a0 = nI kk ∧ KNW M ts.length a1 ∧ KNW M ts.length a2) := by
    constructor
    · rintro ⟨kk, x, y, g1, g2, g3, g4, g5, g6, g7, g8, g9⟩
      exact ⟨kk, g1, g2, g3, ⟨x, g4, g5, g6⟩, ⟨y, g7, g8, g9⟩⟩
    · rintro ⟨kk, g1, g2, g3, ⟨x, g4, g5, g6⟩, ⟨y, g7, g8, g9⟩⟩
      exact ⟨kk, x, y, g1, g2, g3, g4, g5, g6, g7, g8, g9⟩
  rcases hp with ⟨q1, q2, q3⟩ | ⟨q1, ⟨ts1, eC, tw, ox⟩, fc⟩
  · rw [hiff] at q1
    rcases hp' with ⟨r1, r2⟩ | ⟨r1, -⟩
    · subst q3
      exact ⟨by rw [q2, r2], Rel_keep h ⟨fun p j hp => fn q1 _ _ (by omega) (by omega), fun p j g1 g2 g3 => fn q1 _ _ g3 g2⟩⟩
    · exact absurd r1 q1
  · rcases hp' with ⟨r1, -⟩ | ⟨-, s1, v2, eR, hcs⟩
    · exact absurd (hiff.mp q1) r1
    obtain ⟨kk, x, y, g1, g2, g3, g4, g5, g6, g7, g8, g9⟩ := q1
    have ec : ∀ p, 1 ≤ p → p ≤ 7 → M2 p = M1 p := fun p _ _ => funext fun j => fs _ _ (by omega) (by omega)
    have hx : ¬ (a1 = -2 ∨ a2 = -2) := by
      rw [g5, g8]
      exact fun q => q.elim (nI_m1b (by omega)) (nI_m1b (by omega))
    rcases mk_cmp hx h9 eC eR with ⟨rfl, rfl, b, hb, eb⟩ | ⟨q1, q2, q3⟩
    · rcases hcs with ⟨-, rfl, hr, hg⟩ | ⟨q, -⟩
      · have hle : ts.length ≤ ts1.length := by
          rcases mkC_form eC with ⟨-, e⟩ | ⟨b', -, -, e | ⟨e, -⟩⟩
          · rw [e]; exact Nat.le_refl _
          · rw [e]; exact Nat.le_refl _
          · rw [e]; simp
        have hg2 : ∀ j, j < ts1.length → M2 44 j = if j < ts.length then M 44 j else nI 0 := fun j hj => by
          rw [hg j hj, fR 44 (by omega)]
        refine ⟨rfl, Rel_terms h2 hle (RelT_mk tw ec hr (fun j hj => ?_) (fun j hj => ?_) ox) (fun p hp => fc p (by omega)) fs⟩
        · rw [hg2 j hj]
          split
          · next hl => exact h1.2.2.1 j hl
          · exact Or.inl rfl
        · rw [hg2 j hj]
          by_cases hl : j < ts.length
          · rw [if_pos hl]; exact ⟨fun q => q.2, fun q => ⟨hl, q⟩⟩
          · rw [if_neg hl]; exact ⟨fun q => absurd q.1 hl, fun q => absurd q (by decide)⟩
      · cases q
    · rcases hcs with ⟨q, -⟩ | ⟨-, rfl, hr, hg⟩
      · rw [q] at q1; cases q1
      · subst q3
        refine ⟨by rw [q2], Rel_terms h2 (Nat.le_refl _) (RelT_mk tw ec hr (fun j hj => ?_) (fun j hj => ?_) ox) (fun p hp => fc p (by omega)) fs⟩
        · rw [hg j hj, fR 44 (by omega)]; exact h1.2.2.1 j hj
        · rw [hg j hj, fR 44 (by omega)]
          exact ⟨fun q => q.2, fun q => ⟨hj, q⟩⟩
theorem bnd_of {g ow pw : Nat} {vv : Nat → Nat} {l : List Nat} (d3 : dI g ow pw vv l) : g < 1000 ∧ ow < 1000 ∧ pw < 1000 ∧ ∀ j, j < 3 → vv j < 1000 := ⟨by have := d3.1; omega, by have := d3.2.1; omega, by have := d3.2.2.1; omega, fun j hj => by have := d3.2.2.2.1 j hj; omega⟩
theorem seal_vb {g ow pw : Nat} {vv : Nat → Nat} {l : List Nat} {ts ts1 : List T3} {v1 : Int32} (d3 : dI g ow pw vv l) (hu : uq ts) (hw : wt ts) (h9 : ts.length ≤ 900) (h91 : ts1.length ≤ 900) (eC : rp mkC (sealP g ow pw vv l) ts [] = (ts1, [v1])) : ∀ v2 s1, rp mkR (sealP g ow pw vv l) (ts, false) [] = (s1, [v2]) → s1.2 = false → ∃ b, b < s1.1.length ∧ v2 = nI b := fun v2 s1 e es => by
  have hb := bnd_of d3
  rcases seal_cmp (s1 := s1) (v2 := v2) (sealP_ok hb.1 hb.2.1 hb.2.2.1 hb.2.2.2 (fun w hw => (d3.2.2.2.2.2.2 w hw).1)) hu hw h9 h91 eC (Or.inr ⟨es, e⟩) with ⟨q, -⟩ | ⟨-, q1, q2, -, b, hb, eb, -⟩
  · rw [es] at q; cases q
  · exact ⟨b, by rw [q1]; exact hb, q2.trans eb⟩
theorem g_steal (h : Rel M) : two 12 [.ref 0, .int a0] 119 [.ref 40, .int a0] M := by
  by_cases hf : ∃ n, n < 3 ∧ a0 = nI n
  · obtain ⟨k, hk, rfl⟩ := hf
    obtain ⟨ts, ms, h2⟩ := id h
    have h1 := h2.1
    have h9 := h1.1.1.2.1.2.1
    have hu := h1.1.1.2.2.2.1
    obtain ⟨g, ow, pw, vv, l, d1, d2, d3, d4, d5⟩ := h2.2.2.2 k hk
    have hb := bnd_of d3
    have hpk := sealP_ok hb.1 hb.2.1 hb.2.2.1 hb.2.2.2 (fun w hw => (d3.2.2.2.2.2.2 w hw).1)
    refine cr_le (c_steal (dvq_k hk) d1 hb h1.1 h1.2.2.2) (by omega) (by omega) (fun v M1 hp => ?_)
    obtain ⟨⟨ts1, v1, eC, h91, rfl, hcc⟩, fc⟩ := hp
    refine ⟨_, rfl, ?_⟩
    have fR : ∀ p, 40 ≤ p → M1 p = M p := fun p hp => fc p (by omega)
    refine cr_le (r_steal (ts := ts) hk (dR_keep d3.2.2.2.2.2.1 d2 (fun p _ _ => by rw [fR p (by omega)]) (fun j _ => by rw [fR 49 (by omega)]) (by rw [fR 50 (by omega)]) (fun p j _ _ _ _ => by rw [fR p (by omega)])) d3.2.2.2.2.2.1 (RW_keep h1.2.1 (by rw [fR 40 (by omega)]) (by rw [fR 40 (by omega)]) (fun p _ _ => fR p (by omega))) (seal_vb d3 hu h1.1.2 h9 h91 eC)) (by omega) (by omega) (fun v' M2 hp => ?_)
    obtain ⟨⟨s1, v2, hrp, u', rfl, hcs⟩, r0, fs⟩ := hp
    have ec : ∀ p, 1 ≤ p → p ≤ 7 → M2 p = M1 p := fun p _ _ => funext fun j => fs _ _ (by omega) (by omega)
    rcases seal_cmp hpk hu h1.1.2 h9 h91 eC hrp with ⟨q1, q2⟩ | ⟨q1, q2, q3, q4, b, hb1, eb, hb3⟩
    · rcases hcs with ⟨q, -⟩ | ⟨-, rfl, hr, hg⟩
      · rw [q] at q1; cases q1
      · rcases hcc with ⟨-, tw, ox⟩ | ⟨q, -⟩
        · refine ⟨by rw [q2], Rel_terms h2 (Nat.le_refl _) (RelT_mk tw ec hr (fun j hj => ?_) (fun j hj => ?_) ox) (fun p hp => fc p (by omega)) (fun p j g1 g2 => fs p j g1 (by omega))⟩
          · rw [hg j hj, fR 44 (by omega)]; exact h1.2.2.1 j hj
          · rw [hg j hj, fR 44 (by omega)]
        · exact absurd q2 q
    · rcases hcs with ⟨-, rfl, hr, hg⟩ | ⟨q, -⟩
      · rcases hcc with ⟨q, -⟩ | ⟨-, tw, ox⟩
        · rw [eb] at q; exact absurd q (nI_m1b (by omega))
        · have hle : ts.length ≤ ts1.length := by
            rcases hb3 with e | e
            · rw [e]; exact Nat.le_refl _
            · omega
          rw [q2] at hr hg
          subst q3
          have hg2 : ∀ j, j < ts1.length → M2 44 j = if u' = nI j then nI 1 else if j < ts.length then M 44 j else nI 0 := fun j hj => by
            rw [hg j hj, fR 44 (by omega)]
          refine ⟨rfl, Rel_terms h2 hle (RelT_mk tw ec hr (fun j hj => ?_) (fun j hj => ?_) ox) (fun p hp => fc p (by omega)) (fun p j g1 g2 => fs p j g1 (by omega))⟩
          · refine g01 (N := 0) (hg2 j hj) ?_
            split
            · next hl => exact h1.2.2.1 j hl
            · exact Or.inl rfl
          · rw [hg2 j hj]
            by_cases e : u' = nI j
            · rw [if_pos e]; exact ⟨fun _ => rfl, fun _ => Or.inr e⟩
            · rw [if_neg e]
              by_cases hl : j < ts.length
              · rw [if_pos hl]; exact ⟨fun q => q.elim (fun q => q.2) (fun q => absurd q e), fun q => Or.inl ⟨hl, q⟩⟩
              · rw [if_neg hl]; exact ⟨fun q => q.elim (fun q => absurd q.1 hl) (fun q => absurd q e), fun q => absurd q (by decide)⟩
      · rw [q1] at q; cases q
  · refine cr_le (c_steal0 hf) (by omega) (by omega) (fun v M1 hp => ?_)
    obtain ⟨rfl, rfl⟩ := hp
    refine ⟨_, rfl, cr_le (r_steal0 hf) (by omega) (by omega) (fun v' M2 hp => ?_)⟩
    obtain ⟨rfl, rfl⟩ := hp
    exact ⟨rfl, Rel_keep h keepA_0⟩
theorem g_push (h : Rel M) : twoT 2 27 [.ref 0, .int a0] 89 [.ref 40, .int a0] M := by
  by_cases hf : (∃ n, n < 3 ∧ a0 = nI n)
  · obtain ⟨k, hk, rfl⟩ := hf
    obtain ⟨ts, ms, h1, h2, h3, h4⟩ := id h
    have h9 := h1.1.1.2.1.2.1
    have hu := h1.1.1.2.2.2.1
    obtain ⟨g, ow, pw, vv, l, d1, d2, d3, d4, d5⟩ := h4 k hk
    obtain ⟨o1, o2⟩ := op_iff d4
    by_cases ho : M 55 k = 1
    · have hb := bnd_of d3
      have hpk := sealP_ok hb.1 hb.2.1 hb.2.2.1 hb.2.2.2 (fun w hw => (d3.2.2.2.2.2.2 w hw).1)
      refine crt_of (c_push (dvq_k hk) (o1.mpr ho) d1 hb h1.1 h1.2.2.2 h2.1) (by omega) (by omega) (fun v M1 hp => ?_)
      obtain ⟨⟨ts1, v1, eC, h91, rfl, hcc⟩, fc⟩ := hp
      refine ⟨_, rfl, ?_⟩
      have fR : ∀ p, 40 ≤ p → M1 p = M p := fun p hp => fc p (by omega)
      refine cr_le (r_push (ts := ts) (ms := ms) hk (by rw [fR 55 (by omega)]; exact ho) (dR_keep d3.2.2.2.2.2.1 d2 (fun p _ _ => by rw [fR p (by omega)]) (fun j _ => by rw [fR 49 (by omega)]) (by rw [fR 50 (by omega)]) (fun p j _ _ _ _ => by rw [fR p (by omega)])) d3.2.2.2.2.2.1 (RW_keep h1.2.1 (by rw [fR 40 (by omega)]) (by rw [fR 40 (by omega)]) (fun p _ _ => fR p (by omega))) (seal_vb d3 hu h1.1.2 h9 h91 eC) (by rw [fR 40 (by omega), fR 58 (by omega), fR 59 (by omega), fR 60 (by omega), fR 61 (by omega)]; exact h2.2.1) (by rw [fR 57 (by omega)]; exact d5)) (by omega) (by omega) (fun v' M2 hp => ?_)
      obtain ⟨⟨s1, v2, hrp, u', rfl, hcs⟩, r0, fs⟩ := hp
      have ec : ∀ p, p < 40 → M2 p = M1 p := fun p hp => funext fun j => fs _ _ (by omega) (by omega) (by omega)
      have cc : ∀ p j, (p = 0 ∨ 16 < p) → ¬ (p = 40 ∧ (j = 0 ∨ j = 1 ∨ j = 7 ∨ j = 20)) → ¬ (41 ≤ p ∧ p ≤ 44) → (p < 58 ∨ 61 < p) → M2 p j = M p j := fun p j g1 g2 g3 g4 => by rw [fs p j g2 g3 g4, fc p (by omega)]
      have fin : ∀ (ts' : List T3) (ms' : List Msg), ts.length ≤ ts'.length → RelT M2 ts' → ml (M2 12 4) (M2 13) (M2 14) (M2 15) (M2 16) ms' → ml (M2 40 20) (M2 58) (M2 59) (M2 60) (M2 61) ms' → (∀ x ∈ ms', okM ts'.length x) → Rel M2 := fun ts' ms' hle hT m1 m2 m3 => ⟨ts', ms', hT, ⟨m1, m2, m3⟩, RelH_keep hle h3 (cc _ _ (by omega) (by omega) (by omega) (by omega)) (cc _ _ (by omega) (by omega) (by omega) (by omega)), fun k' hk' => kD2 hle hk' (h4 k' hk') (fun p j _ _ => cc _ _ (by omega) (by omega) (by omega) (by omega)) (fun p j _ _ => cc _ _ (by omega) (by omega) (by omega) (by omega))⟩
      rcases seal_cmp hpk hu h1.1.2 h9 h91 eC hrp with ⟨q1, q2⟩ | ⟨q1, q2, q3, q4, b, hb1, eb, hb3⟩
      · rcases hcs with ⟨q, -⟩ | ⟨-, rfl, hr, hg, hml⟩
        · rw [q] at q1; cases q1
        · rcases hcc with ⟨-, tw, ox, hmc⟩ | ⟨q, -⟩
          · refine ⟨by rw [q2], r0, fin ts ms (Nat.le_refl _) (RelT_mk tw (fun p _ _ => ec p (by omega)) hr (fun j hj => ?_) (fun j hj => ?_) ox) ?_ hml h2.2.2⟩
            · rw [hg j hj, fR 44 (by omega)]; exact h1.2.2.1 j hj
            · rw [hg j hj, fR 44 (by omega)]
            · rw [ec 12 (by omega), ec 13 (by omega), ec 14 (by omega), ec 15 (by omega), ec 16 (by omega)]; exact hmc
          · exact absurd q2 q
      · rcases hcs with ⟨-, rfl, hr, hg, hml⟩ | ⟨q, -⟩
        · rcases hcc with ⟨q, -⟩ | ⟨-, tw, ox, hmc⟩
          · rw [eb] at q; exact absurd q (nI_m1b (by omega))
          · have hle : ts.length ≤ ts1.length := by
              rcases hb3 with e | e
              · rw [e]; exact Nat.le_refl _
              · omega
            rw [q2] at hr hg
            subst q3
            have hg2 : ∀ j, j < ts1.length → M2 44 j = if M 57 k = nI j ∨ u' = nI j then nI 1 else if j < ts.length then M 44 j else nI 0 := fun j hj => by
              rw [hg j hj, fR 44 (by omega), fR 57 (by omega)]
            rw [fR 57 (by omega)] at hml
            rw [d4.2.1] at ox hmc
            refine ⟨rfl, r0, fin ts1 _ hle (RelT_mk tw (fun p _ _ => ec p (by omega)) hr (fun j hj => ?_) (fun j hj => ?_) ox) ?_ hml (ok_snoc (fun x hx => okM_up hle (h2.2.2 x hx)) ⟨Or.inr (Or.inl rfl), ⟨k, hk, rfl⟩, vt_up hle d5, Or.inr ⟨b, hb1, eb⟩⟩)⟩
            · refine g01 (N := 0) (hg2 j hj) ?_
              split
              · next hl => exact h1.2.2.1 j hl
              · exact Or.inl rfl
            · rw [hg2 j hj]
              by_cases e : M 57 k = nI j ∨ u' = nI j
              · rw [if_pos e]
                exact ⟨fun _ => rfl, fun _ => e.elim (fun e => Or.inl (Or.inr e)) Or.inr⟩
              · rw [if_neg e]
                have e1 : ¬ M 57 k = nI j := fun q => e (Or.inl q)
                have e2 : ¬ u' = nI j := fun q => e (Or.inr q)
                by_cases hl : j < ts.length
                · rw [if_pos hl]; exact ⟨fun q => q.elim (fun q => q.elim (fun q => q.2) (fun q => absurd q e1)) (fun q => absurd q e2), fun q => Or.inl (Or.inl ⟨hl, q⟩)⟩
                · rw [if_neg hl]; exact ⟨fun q => q.elim (fun q => q.elim (fun q => absurd q.1 hl) (fun q => absurd q e1)) (fun q => absurd q e2), fun q => absurd q (by decide)⟩
            · rw [ec 12 (by omega), ec 13 (by omega), ec 14 (by omega), ec 15 (by omega), ec 16 (by omega)]; exact hmc
        · rw [q1] at q; cases q
    · have ho0 : M 55 k = 0 := d4.2.2.1.elim id (fun q => absurd q ho)
      exact two_bad h (by omega) (u_push (dvq_k hk) (fun q => ho (o1.mp q))) (by omega) (by omega) (w_push hk ho0) (by omega) (by omega)
  · exact two_bad h (by omega) (t_push hf) (by omega) (by omega) (v_push hf) (by omega) (by omega)
end TM
