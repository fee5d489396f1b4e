/-! ===== side by side: mail and terms ===== -/
theorem ok_snoc {N : Nat} {ms : List Msg} {y : Msg} (h : ∀ x ∈ ms, okM N x) (hy : okM N y) : ∀ x ∈ (if ms.length < 12 then ms ++ [y] else ms), okM N x := by
  intro x hx
  by_cases hl : ms.length < 12
  · rw [if_pos hl] at hx
    rcases List.mem_append.mp hx with hx | hx
    · exact h x hx
    · rw [List.mem_singleton.mp hx]; exact hy
  · rw [if_neg hl] at hx
    exact h x hx
theorem RelT_mk {M1 M2 : sm_M} {ts1 : List T3} {gs : Nat → Prop} (tw : TW M1 ts1) (ec : ∀ p, 1 ≤ p → p ≤ 7 → M2 p = M1 p) (hr : RW M2 ts1) (h01 : ∀ j, j < ts1.length → M2 44 j = 0 ∨ M2 44 j = 1) (hg : ∀ j, j < ts1.length → (gs j ↔ M2 44 j = 1)) (ox : OX M1 ts1.length gs) : RelT M2 ts1 := ⟨TW_keep tw ec, hr, h01, OX_gs (OX_keep ox ec) hg⟩
theorem OX_add {M : sm_M} {N b : Nat} {gs : Nat → Prop} (hN : N ≤ 900) (hb : b < N) (hX : OX M N gs) (ho : M 5 b = 1) : OX M N (fun j => gs j ∨ nI b = nI j) := fun j hj => by
  have hd : Dv (M 2) (M 3) (M 4) N (fun i => gs i ∨ M 2 i = nI 1) b := by
    rw [hX b hb, bI_1] at ho
    exact ho
  rw [hX j hj]
  apply bI_congr
  constructor
  · refine Dv_mono (fun i hi g => Dv_g hi ?_)
    rcases g with g | g
    · exact Or.inl (Or.inl g)
    · exact Or.inr g
  · refine Dv_mono (fun i hi g => ?_)
    rcases g with (g | g) | g
    · exact Dv_g hi (Or.inl g)
    · rw [← (nI_eq (by omega) (by omega)).mp g]; exact hd
    · exact Dv_g hi (Or.inr g)
/-- a device's own stays, at class and reference -/
theorem kD2 {k : Nat} {M M2 : sm_M} {N N' : Nat} (hN : N ≤ N') (hk : k < 3) (h : RelD M N k) (hc : ∀ p j, 17 < p → p < 36 → M2 p j = M p j) (hr : ∀ p j, 46 ≤ p → p ≤ 57 → M2 p j = M p j) : RelD M2 N' k := RelD_keep hN h ⟨fun p j h1 h2 _ => hc _ _ (by omega) (by omega), fun p h1 h2 => hr _ _ (by omega) (by omega), fun j _ => hr _ _ (by omega) (by omega), hr _ _ (by omega) (by omega), fun p j _ _ _ _ => hr _ _ (by omega) (by omega), hr _ _ (by omega) (by omega), fun j _ => hr _ _ (by omega) (by omega), hr _ _ (by omega) (by omega)⟩
section MT
variable {M : sm_M} {a0 a1 a2 : Int32}
theorem g_pull (h : Rel M) : twoT 2 26 [.ref 0, .int a0] 87 [.ref 40, .int a0] M := by
  by_cases hf : (∃ n, n < 3 ∧ a0 = nI n)
  · obtain ⟨k, hk, rfl⟩ := hf
    obtain ⟨ts, ms, h1, h2, h3, h4⟩ := id h
    obtain ⟨g, ow, pw, vv, l, d1, d2, d3, d4, d5⟩ := h4 k hk
    obtain ⟨o1, o2⟩ := op_iff d4
    by_cases ho : M 55 k = 1
    · refine crt_of (c_pull (dvq_k hk) (o1.mpr ho) h2.1) (by omega) (by omega) (fun v M1 hp => ?_)
      obtain ⟨rfl, q2, q3⟩ := hp
      refine ⟨_, rfl, ?_⟩
      have fR : ∀ p, 40 ≤ p → M1 p = M p := fun p hp2 => q3 p (by omega)
      refine cr_le (r_pull (ms := ms) hk (by rw [fR 55 (by omega)]; exact ho) (by rw [fR 40 (by omega), fR 58 (by omega), fR 59 (by omega), fR 60 (by omega), fR 61 (by omega)]; exact h2.2.1)) (by omega) (by omega) (fun v' M2 hp' => ?_)
      obtain ⟨rfl, r1, r2, r3⟩ := hp'
      have ec : ∀ p, p < 40 → M2 p = M1 p := fun p hp => funext fun j => r3 _ _ (by omega) (by omega) (by omega)
      have er : ∀ p j, 40 ≤ p → ¬ (p = 40 ∧ (j = 0 ∨ j = 20)) → (p < 58 ∨ 61 < p) → p ≠ 44 → M2 p j = M p j := fun p j g1 g2 g3 g4 => by rw [r3 _ _ g2 g3 (by omega), fR p g1]
      refine ⟨rfl, r1, ts, _, ?_, ⟨?_, r2, ok_snoc h2.2.2 ⟨Or.inl rfl, ⟨k, hk, rfl⟩, Or.inl rfl, Or.inl rfl⟩⟩, ?_, fun k' hk' => ?_⟩
      · refine RelT_keep h1 (fun p q1 q2 => by rw [ec p (by omega), q3 p (by omega)]) (er _ _ (by omega) (by omega) (by omega) (by omega)) (er _ _ (by omega) (by omega) (by omega) (by omega)) (fun p q1 q2 => funext fun j => er _ _ (by omega) (by omega) (by omega) (by omega)) (fun j hj => by rw [r3 _ _ (by omega) (by omega) (fun _ => hj), fR 44 (by omega)])
      · rw [ec 12 (by omega), ec 13 (by omega), ec 14 (by omega), ec 15 (by omega), ec 16 (by omega)]; exact q2
      · exact RelH_keep (Nat.le_refl _) h3 (by rw [ec 0 (by omega), q3 0 (by omega)]) (er _ _ (by omega) (by omega) (by omega) (by omega))
      · exact kD2 (Nat.le_refl _) hk' (h4 k' hk') (fun p j _ _ => by rw [ec p (by omega), q3 p (by omega)]) (fun p j _ _ => er _ _ (by omega) (by omega) (by omega) (by omega))
    · have ho0 : M 55 k = 0 := d4.2.2.1.elim id (fun q => absurd q ho)
      exact two_bad h (by omega) (u_pull (dvq_k hk) (fun q => ho (o1.mp q))) (by omega) (by omega) (w_pull hk ho0) (by omega) (by omega)
  · exact two_bad h (by omega) (t_pull hf) (by omega) (by omega) (v_pull hf) (by omega) (by omega)
theorem g_drop (h : Rel M) : two 5 [.ref 0, .int a0] 109 [.ref 40, .int a0] M := by
  obtain ⟨ts, ms, h1, h2, h3, h4⟩ := id h
  have h12 := h2.1.2.1
  refine cr_le (c_drop h2.1) (by omega) (by omega) (fun v M1 hp => ?_)
  obtain ⟨u, rfl, hp⟩ := hp
  refine ⟨u, rfl, ?_⟩
  have fR : ∀ p, 40 ≤ p → M1 p = M p := fun p hp2 => by
    rcases hp with ⟨i, -, -, -, -, e⟩ | ⟨-, -, e⟩
    · funext j; exact e p j (by omega) (by omega)
    · rw [e]
  refine cr_le (r_drop (ms := ms) (by rw [fR 40 (by omega), fR 58 (by omega), fR 59 (by omega), fR 60 (by omega), fR 61 (by omega)]; exact h2.2.1)) (by omega) (by omega) (fun v' M2 hp' => ?_)
  obtain ⟨u', rfl, hp'⟩ := hp'
  rcases hp with ⟨i, q1, q2, q3, q4, q5⟩ | ⟨q1, q2, q3⟩ <;> rcases hp' with ⟨i', r1, r2, r3, r4, r5, r6⟩ | ⟨r1, r2, r3⟩
  · have ei : i' = i := (nI_eq (by omega) (by omega)).mp (r2.symm.trans q2)
    subst ei
    have ec : ∀ p, p < 40 → M2 p = M1 p := fun p hp => funext fun j => r6 _ _ (by omega) (by omega)
    have er : ∀ p j, 40 ≤ p → ¬ (p = 40 ∧ (j = 0 ∨ j = 20)) → (p < 58 ∨ 61 < p) → M2 p j = M p j := fun p j g1 g2 g3 => by rw [r6 _ _ g2 g3, fR p g1]
    have cc : ∀ p j, p < 40 → (p < 12 ∨ 16 < p) → M2 p j = M p j := fun p j g1 g2 => by rw [ec p g1, q5 _ _ (by omega) (by omega)]
    refine ⟨by rw [q3, r3], ts, ms.eraseIdx i', ?_, ⟨?_, r5, fun x hx => h2.2.2 x (List.mem_of_mem_eraseIdx hx)⟩, ?_, fun k' hk' => ?_⟩
    · refine RelT_keep h1 (fun p q1 q2 => funext fun j => cc _ _ (by omega) (by omega)) (er _ _ (by omega) (by omega) (by omega)) (er _ _ (by omega) (by omega) (by omega)) (fun p q1 q2 => funext fun j => er _ _ (by omega) (by omega) (by omega)) (fun j hj => er _ _ (by omega) (by omega) (by omega))
    · rw [ec 12 (by omega), ec 13 (by omega), ec 14 (by omega), ec 15 (by omega), ec 16 (by omega)]; exact q4
    · exact RelH_keep (Nat.le_refl _) h3 (cc _ _ (by omega) (by omega)) (er _ _ (by omega) (by omega) (by omega))
    · exact kD2 (Nat.le_refl _) hk' (h4 k' hk') (fun p j _ _ => cc _ _ (by omega) (by omega)) (fun p j _ _ => er _ _ (by omega) (by omega) (by omega))
  · exact absurd ⟨i, q1, q2⟩ r1
  · exact absurd ⟨i', r1, r2⟩ q1
  · subst q3
    exact ⟨by rw [q2, r2], by rw [r3]; exact Rel_keep h keepA_0⟩
theorem g_forge (h : Rel M) : two 8 [.ref 0, .int a0, .int a1] 112 [.ref 40, .int a0, .int a1] M := by
  obtain ⟨ts, ms, h1, h2, h3, h4⟩ := id h
  have h9 := h1.1.1.2.1.2.1
  refine cr_le (c_forge h1.1 h1.2.2.2 h2.1) (by omega) (by omega) (fun v M1 hp => ?_)
  obtain ⟨u, rfl, hp⟩ := hp
  refine ⟨u, rfl, ?_⟩
  have fR : ∀ p, 40 ≤ p → M1 p = M p := fun p hp2 => by
    rcases hp with ⟨-, -, -, e⟩ | ⟨-, -, e⟩
    · exact e p (by omega)
    · rw [e]
  refine cr_le (r_forge (ms := ms) (ts := ts) (RW_keep h1.2.1 (by rw [fR 40 (by omega)]) (by rw [fR 40 (by omega)]) (fun p _ _ => fR p (by omega))) h1.1.2 (fun i hi => by rw [fR 44 (by omega)]; exact h1.2.2.1 i hi) (by rw [fR 40 (by omega), fR 58 (by omega), fR 59 (by omega), fR 60 (by omega), fR 61 (by omega)]; exact h2.2.1)) (by omega) (by omega) (fun v' M2 hp' => ?_)
  obtain ⟨u', rfl, hp'⟩ := hp'
  have hkk : KNR M1 ts.length a1 ↔ KNW M ts.length a1 := (KNR_keep (fun p _ _ => fR p (by omega))).trans (KN_alike h1).symm
  rw [hkk] at hp'
  rcases hp with ⟨q1, q2, q3, q4⟩ | ⟨q1, q2, q3⟩ <;> rcases hp' with ⟨r1, r2, r3, r4, r5, r6⟩ | ⟨r1, r2, r3, r4⟩
  · have ec : ∀ p, p < 40 → M2 p = M1 p := fun p hp => funext fun j => r6 _ _ (by omega) (by omega) (by omega) (by omega)
    have er : ∀ p j, 40 ≤ p → p ≠ 45 → ¬ (p = 40 ∧ (j = 0 ∨ j = 20)) → p ≠ 44 → (p < 58 ∨ 61 < p) → M2 p j = M p j := fun p j g1 g0 g2 g3 g4 => by rw [r6 _ _ g0 g2 g3 g4, fR p g1]
    have cc : ∀ p j, p < 40 → (p < 12 ∨ 16 < p) → M2 p j = M p j := fun p j g1 g2 => by rw [ec p g1, q4 p g2]
    obtain ⟨⟨n, hn, en⟩, ⟨j1, hj1, ej1, oj1⟩, hl⟩ := q1
    have g44 : ∀ j, j < ts.length → M2 44 j = if a1 = nI j then nI 1 else M 44 j := fun j hj => by rw [r5 j hj, fR 44 (by omega)]
    refine ⟨by rw [q2, r2], ts, ms ++ [(nI 2, a0, -1, a1)], ?_, ⟨?_, r4, fun x hx => ?_⟩, ?_, fun k' hk' => ?_⟩
    · refine RelT_mk (M1 := M) (gs := fun j => M 44 j = 1 ∨ nI j1 = nI j) h1.1 ?_ ?_ (fun j hj => ?_) (fun j hj => ?_) ?_
      · intro p g1 g2
        exact funext fun j => cc _ _ (by omega) (by omega)
      · exact RW_keep h1.2.1 (er _ _ (by omega) (by omega) (by omega) (by omega) (by omega)) (er _ _ (by omega) (by omega) (by omega) (by omega) (by omega)) (fun p g1 g2 => funext fun j => er _ _ (by omega) (by omega) (by omega) (by omega) (by omega))
      · rw [g44 j hj]
        split
        · exact Or.inr rfl
        · exact h1.2.2.1 j hj
      · rw [g44 j hj, ej1]
        by_cases e : nI j1 = nI j
        · rw [if_pos e]; exact ⟨fun _ => rfl, fun _ => Or.inr e⟩
        · rw [if_neg e]; exact ⟨fun q => q.elim id (fun q => absurd q e), Or.inl⟩
      · exact OX_add h9 hj1 h1.2.2.2 oj1
    · rw [ec 12 (by omega), ec 13 (by omega), ec 14 (by omega), ec 15 (by omega), ec 16 (by omega)]; exact q3
    · rcases List.mem_append.mp hx with hx | hx
      · exact h2.2.2 x hx
      · rw [List.mem_singleton.mp hx]
        exact ⟨Or.inr (Or.inr rfl), ⟨n, hn, en⟩, Or.inl rfl, Or.inr ⟨j1, hj1, ej1⟩⟩
    · exact RelH_keep (Nat.le_refl _) h3 (cc _ _ (by omega) (by omega)) (er _ _ (by omega) (by omega) (by omega) (by omega) (by omega))
    · exact kD2 (Nat.le_refl _) hk' (h4 k' hk') (fun p j _ _ => cc _ _ (by omega) (by omega)) (fun p j _ _ => er _ _ (by omega) (by omega) (by omega) (by omega) (by omega))
  · exact absurd q1 r1
  · exact absurd r1 q1
  · subst q3
    exact ⟨by rw [q2, r2], Rel_keep h ⟨fun p j hp => r4 _ _ (by omega) (by omega), fun p j g1 g2 g3 => r4 _ _ g3 g2⟩⟩
end MT
