/-! ===== the beginning: both alike; and the whole run ===== -/
theorem mF_0 {p j : Nat} (h6 : p ≠ 6) (h18 : ¬ ((p = 18 ∨ p = 24 ∨ p = 30) ∧ (j = 2 ∨ j = 3))) (h0 : ¬ (p = 0 ∧ j = 5)) (h40 : ¬ (p = 40 ∧ j = 25)) (h57 : ¬ (p = 57 ∧ j < 3)) : mFin (fun _ _ => 0) p j = 0 := by
  unfold mFin
  rw [up_o (by omega), up_o (by omega), up_o (by omega), up_o (by omega), up_o (by omega), up_o (by omega), up_o (by omega), up_o (by omega), up_o (by omega), up_o (by omega), up_o (by omega), uf_k h6]
theorem mF_6 {j : Nat} (h : j < 901) : mFin (fun _ _ => 0) 6 j = -1 := by
  unfold mFin
  rw [up_k (by omega), up_k (by omega), up_k (by omega), up_k (by omega), up_k (by omega), up_k (by omega), up_k (by omega), up_k (by omega), up_k (by omega), up_k (by omega), up_k (by omega)]
  unfold sm_uf
  rw [if_pos rfl, if_pos h]
theorem mF_05 : mFin (fun _ _ => 0) 0 5 = -1 := by
  unfold mFin
  rw [up_k (by omega), up_k (by omega), up_k (by omega), up_k (by omega), up_s]
theorem mF_40 : mFin (fun _ _ => 0) 40 25 = -1 := by
  unfold mFin
  rw [up_k (by omega), up_k (by omega), up_k (by omega), up_s]
theorem mF_57 {k : Nat} (h : k < 3) : mFin (fun _ _ => 0) 57 k = -1 := by
  unfold mFin
  have : k = 0 ∨ k = 1 ∨ k = 2 := by omega
  rcases this with rfl | rfl | rfl
  · rw [up_i (by omega), up_i (by omega), up_s]
  · rw [up_i (by omega), up_s]
  · rw [up_s]
theorem mF_q {k : Nat} (h : k < 3) : mFin (fun _ _ => 0) (18 + 6 * k) 2 = -1 ∧ mFin (fun _ _ => 0) (18 + 6 * k) 3 = nI 1 := by
  unfold mFin
  have : k = 0 ∨ k = 1 ∨ k = 2 := by omega
  rcases this with rfl | rfl | rfl
  · constructor
    · rw [up_k (by omega), up_k (by omega), up_k (by omega), up_k (by omega), up_k (by omega), up_k (by omega), up_k (by omega), up_k (by omega), up_k (by omega), up_i (by omega), up_s]
    · rw [up_k (by omega), up_k (by omega), up_k (by omega), up_k (by omega), up_k (by omega), up_k (by omega), up_k (by omega), up_k (by omega), up_k (by omega), up_s]
  · constructor
    · rw [up_k (by omega), up_k (by omega), up_k (by omega), up_k (by omega), up_k (by omega), up_k (by omega), up_k (by omega), up_i (by omega), up_s]
    · rw [up_k (by omega), up_k (by omega), up_k (by omega), up_k (by omega), up_k (by omega), up_k (by omega), up_k (by omega), up_s]
  · constructor
    · rw [up_k (by omega), up_k (by omega), up_k (by omega), up_k (by omega), up_k (by omega), up_i (by omega), up_s]
    · rw [up_k (by omega), up_k (by omega), up_k (by omega), up_k (by omega), up_k (by omega), up_s]
theorem Rel_init : Rel (mFin (fun _ _ => 0)) := by
  have z : ∀ p j, p ≠ 6 → ¬ ((p = 18 ∨ p = 24 ∨ p = 30) ∧ (j = 2 ∨ j = 3)) → ¬ (p = 0 ∧ j = 5) → ¬ (p = 40 ∧ j = 25) → ¬ (p = 57 ∧ j < 3) → mFin (fun _ _ => 0) p j = nI 0 := fun p j h1 h2 h3 h4 h5 => mF_0 h1 h2 h3 h4 h5
  refine ⟨[], [], ⟨⟨⟨⟨[], rfl⟩, ⟨z _ _ (by omega) (by omega) (by omega) (by omega) (by omega), (by simp), fun i x h => (by cases h)⟩, ⟨fun y s hy => ?_, fun i x h => (by cases h), fun i x h => (by cases h)⟩, fun i j x h => (by cases h), fun _ _ => rfl, fun j x _ h => (by cases h)⟩, fun i x h => (by cases h)⟩, ⟨⟨[], rfl⟩, ⟨z _ _ (by omega) (by omega) (by omega) (by omega) (by omega), (by simp), fun i x h => (by cases h)⟩, fun i j x h => (by cases h), ?_, fun _ _ => rfl, fun j _ h => absurd h (Nat.not_lt_zero j)⟩, fun j h => absurd h (Nat.not_lt_zero j), fun j h => absurd h (Nat.not_lt_zero j)⟩, ⟨⟨z _ _ (by omega) (by omega) (by omega) (by omega) (by omega), (by simp), fun i x h => (by cases h)⟩, ⟨z _ _ (by omega) (by omega) (by omega) (by omega) (by omega), (by simp), fun i x h => (by cases h)⟩, fun x h => (by cases h)⟩, ⟨?_, ?_⟩, fun k hk => ?_⟩
  · show mFin (fun _ _ => 0) 6 s = prv [] y 0
    rw [mF_6 (by have := hy.2; omega)]
    rfl
  · exact (z 40 7 (by omega) (by omega) (by omega) (by omega) (by omega)).trans (bI_f Bool.false_ne_true).symm
  · rw [mF_05, mF_40]
  · rw [mF_40]; exact Or.inl rfl
  · obtain ⟨q2, q3⟩ := mF_q hk
    refine ⟨0, 0, 0, fun _ => 0, [], ⟨z _ _ (by omega) (by omega) (by omega) (by omega) (by omega), z _ _ (by omega) (by omega) (by omega) (by omega) (by omega), z _ _ (by omega) (by omega) (by omega) (by omega) (by omega), fun j hj => z _ _ (by omega) (by omega) (by omega) (by omega) (by omega), z _ _ (by omega) (by omega) (by omega) (by omega) (by omega), (by simp), fun i x h => (by cases h)⟩, ⟨z _ _ (by omega) (by omega) (by omega) (by omega) (by omega), z _ _ (by omega) (by omega) (by omega) (by omega) (by omega), z _ _ (by omega) (by omega) (by omega) (by omega) (by omega), fun j hj => z _ _ (by omega) (by omega) (by omega) (by omega) (by omega), z _ _ (by omega) (by omega) (by omega) (by omega) (by omega), fun i x h => (by cases h)⟩, ⟨by omega, by omega, by omega, fun j hj => Nat.zero_le _, List.Pairwise.nil, (by simp), fun x h => (by cases h)⟩, ⟨fun j hj => ?_, ?_, Or.inl (z _ _ (by omega) (by omega) (by omega) (by omega) (by omega)), ?_⟩, ?_⟩
    · rw [z _ _ (by omega) (by omega) (by omega) (by omega) (by omega), z _ _ (by omega) (by omega) (by omega) (by omega) (by omega)]
    · rw [q2, mF_57 hk]
    · exact q3.trans (bI_t (p := mFin (fun _ _ => 0) 55 k = 0) (mF_0 (by omega) (by omega) (by omega) (by omega) (by omega))).symm
    · rw [mF_57 hk]; exact Or.inl rfl
theorem whole_run (L : Nat) (hL : L ≤ 2048) (xs : Nat → Int32) : ∃ n h', sm_run tb_T (L, xs) tb_ok n 11 388 139 0 (sm_ent 7 [.retAddr 0]) [] tx_h0 = some (.inl (some (.int 1)), h') := by
  have h : sm_wp tb_T (L, xs) tb_ok 11 388 139 0 (sm_ent 7 [.retAddr 0]) [] ([], fun _ _ => 0, fun _ _ => 0, 601024, 7293034) (fun o h' => o = .inl (some (.int (nI 1)))) := law_init (fun _ _ => rfl) (fun _ _ => rfl) (law_loop (X := (L, xs)) (by show L < 2 ^ 31; omega) hL L 0 _ _ _ _ none none (by show L ≤ 0 + L; omega) (by omega) Rel_init (by show L ≤ 600961 + 0; omega) (by show 6 * L ≤ 7282420 + 6 * 0; omega))
  obtain ⟨n, o, h', hr, ho⟩ := h
  rw [ho] at hr
  exact ⟨n, h', hr⟩
