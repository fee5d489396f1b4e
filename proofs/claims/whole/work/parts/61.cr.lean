/-! ===== what is known: the reference ===== -/
section CR
variable {K A B : Nat → Int32} {N : Nat}
theorem bI_1 {p : Prop} : bI p = 1 ↔ p := by
  constructor
  · intro h
    exact bI_n0.mp (by rw [h]; decide)
  · intro h
    exact bI_t h
theorem r_spX {M2 : sm_M} {t a b kk : Nat} {z : Int32} (h01 : ∀ i, i < N → M2 45 i = 0 ∨ M2 45 i = 1) (ht : t < N) (hK : K t = nI kk) (hk2 : 2 ≤ kk) (hk5 : kk ≤ 5) (ha : a < t) (hb : b < t) (hN : N ≤ 900) (hA : A t = nI a) (hB : B t = nI b) (hz : z = bI ((sm_up (sm_up M2 45 t (bI ((M2 45 t = 1) ∨ (M2 45 a = 1) ∧ (M2 45 b = 1)))) 45 a (bI ((M2 45 a = 1) ∨ (((M2 45 t = 1) ∨ (M2 45 a = 1) ∧ (M2 45 b = 1)) ∧ kk = 4)))) 45 b = 1 ∨ (((M2 45 t = 1) ∨ (M2 45 a = 1) ∧ (M2 45 b = 1)) ∧ kk = 4) ∨ (((M2 45 t = 1) ∨ (M2 45 a = 1) ∧ (M2 45 b = 1)) ∧ kk = 3 ∧ (M2 45 a = 1)))) : gr K A B N (M2 45) ((sm_up (sm_up (sm_up M2 45 t (bI ((M2 45 t = 1) ∨ (M2 45 a = 1) ∧ (M2 45 b = 1)))) 45 a (bI ((M2 45 a = 1) ∨ (((M2 45 t = 1) ∨ (M2 45 a = 1) ∧ (M2 45 b = 1)) ∧ kk = 4)))) 45 b z) 45) ∧ (∀ p, p ≠ 45 → (sm_up (sm_up (sm_up M2 45 t (bI ((M2 45 t = 1) ∨ (M2 45 a = 1) ∧ (M2 45 b = 1)))) 45 a (bI ((M2 45 a = 1) ∨ (((M2 45 t = 1) ∨ (M2 45 a = 1) ∧ (M2 45 b = 1)) ∧ kk = 4)))) 45 b z) p = M2 p) ∧ apt K A B ((sm_up (sm_up (sm_up M2 45 t (bI ((M2 45 t = 1) ∨ (M2 45 a = 1) ∧ (M2 45 b = 1)))) 45 a (bI ((M2 45 a = 1) ∨ (((M2 45 t = 1) ∨ (M2 45 a = 1) ∧ (M2 45 b = 1)) ∧ kk = 4)))) 45 b z) 45) t ∧ tgt K A B ((sm_up (sm_up (sm_up M2 45 t (bI ((M2 45 t = 1) ∨ (M2 45 a = 1) ∧ (M2 45 b = 1)))) 45 a (bI ((M2 45 a = 1) ∨ (((M2 45 t = 1) ∨ (M2 45 a = 1) ∧ (M2 45 b = 1)) ∧ kk = 4)))) 45 b z) 45) t ∧ ((¬ (((M2 45 t = 1) ∨ (M2 45 a = 1) ∧ (M2 45 b = 1)) ↔ (M2 45 t = 1)) ∨ ((((M2 45 t = 1) ∨ (M2 45 a = 1) ∧ (M2 45 b = 1)) ∧ kk = 4) ∧ ¬ ((M2 45 a = 1) ∧ (M2 45 b = 1))) ∨ ((((M2 45 t = 1) ∨ (M2 45 a = 1) ∧ (M2 45 b = 1)) ∧ kk = 3 ∧ (M2 45 a = 1)) ∧ ¬ (M2 45 b = 1))) ↔ Chg N (M2 45) ((sm_up (sm_up (sm_up M2 45 t (bI ((M2 45 t = 1) ∨ (M2 45 a = 1) ∧ (M2 45 b = 1)))) 45 a (bI ((M2 45 a = 1) ∨ (((M2 45 t = 1) ∨ (M2 45 a = 1) ∧ (M2 45 b = 1)) ∧ kk = 4)))) 45 b z) 45)) := by
  have hin : ∀ a' b', A t = nI a' → B t = nI b' → a' < t → b' < t → a' = a ∧ b' = b := fun a' b' h1 h2 h3 h4 => ⟨(nI_eq (by omega) (by omega)).mp (h1.symm.trans hA), (nI_eq (by omega) (by omega)).mp (h2.symm.trans hB)⟩
  have k0 : ¬ K t = nI 0 := by rw [hK, nI_eq (by omega) (by omega)]; omega
  have k1 : ¬ K t = nI 1 := by rw [hK, nI_eq (by omega) (by omega)]; omega
  have kq : ∀ m, m < 100 → (K t = nI m ↔ kk = m) := fun m hm => by rw [hK, nI_eq (by omega) (by omega)]
  have z1 : z = 1 ↔ ((sm_up (sm_up M2 45 t (bI ((M2 45 t = 1) ∨ (M2 45 a = 1) ∧ (M2 45 b = 1)))) 45 a (bI ((M2 45 a = 1) ∨ (((M2 45 t = 1) ∨ (M2 45 a = 1) ∧ (M2 45 b = 1)) ∧ kk = 4)))) 45 b = 1 ∨ (((M2 45 t = 1) ∨ (M2 45 a = 1) ∧ (M2 45 b = 1)) ∧ kk = 4) ∨ (((M2 45 t = 1) ∨ (M2 45 a = 1) ∧ (M2 45 b = 1)) ∧ kk = 3 ∧ (M2 45 a = 1))) := by rw [hz]; exact bI_1
  obtain ⟨Al, eAl⟩ : ∃ Al : Prop, Al = ((M2 45 t = 1) ∨ (M2 45 a = 1) ∧ (M2 45 b = 1)) := ⟨_, rfl⟩
  rw [← eAl] at z1 ⊢
  have g1 : gr K A B N (M2 45) (sm_up M2 45 t (bI Al) 45) := by
    rw [up5]
    refine gr_set h01 bI_01 (fun h => bI_1.mpr (by rw [eAl]; exact Or.inl h)) (fun h S hS hG => ?_)
    have h := bI_1.mp h
    rw [eAl] at h
    rcases h with h | ⟨h1, h2⟩
    · exact hG t ht h
    · exact (hS t a b ht ha hb hA hB k0 k1).1 (hG a (by omega) h1) (hG b (by omega) h2)
  have e1t : sm_up M2 45 t (bI Al) 45 t = bI Al := up_s
  have e1a : sm_up M2 45 t (bI Al) 45 a = M2 45 a := up_i (by omega)
  have e1b : sm_up M2 45 t (bI Al) 45 b = M2 45 b := up_i (by omega)
  have e1o : ∀ i, i ≠ t → sm_up M2 45 t (bI Al) 45 i = M2 45 i := fun i hi => up_i hi
  obtain ⟨Ma, eMa⟩ : ∃ Ma, Ma = sm_up M2 45 t (bI Al) := ⟨_, rfl⟩
  have fa : ∀ p, p ≠ 45 → Ma p = M2 p := fun p hp => by rw [eMa]; unfold sm_up; rw [if_neg hp]
  rw [← eMa] at g1 e1t e1a e1b e1o z1 ⊢
  clear eMa
  have g2 : gr K A B N (Ma 45) (sm_up Ma 45 a (bI ((M2 45 a = 1) ∨ Al ∧ kk = 4)) 45) := by
    rw [up5]
    refine gr_set g1.2.1 bI_01 (fun h => bI_1.mpr (by rw [e1a] at h; exact Or.inl h)) (fun h S hS hG => ?_)
    rcases bI_1.mp h with h | ⟨h1, h2⟩
    · exact hG a (by omega) (by rw [e1a]; exact h)
    · exact ((hS t a b ht ha hb hA hB k0 k1).2.1 ((kq 4 (by omega)).mpr h2) (hG t ht (by rw [e1t]; exact bI_1.mpr h1))).1
  have e2a : sm_up Ma 45 a (bI ((M2 45 a = 1) ∨ Al ∧ kk = 4)) 45 a = bI ((M2 45 a = 1) ∨ Al ∧ kk = 4) := up_s
  have e2t : sm_up Ma 45 a (bI ((M2 45 a = 1) ∨ Al ∧ kk = 4)) 45 t = bI Al := by rw [up_i (by omega)]; exact e1t
  have e2o : ∀ i, i ≠ a → sm_up Ma 45 a (bI ((M2 45 a = 1) ∨ Al ∧ kk = 4)) 45 i = Ma 45 i := fun i hi => up_i hi
  obtain ⟨Mb, eMb⟩ : ∃ Mb, Mb = sm_up Ma 45 a (bI ((M2 45 a = 1) ∨ Al ∧ kk = 4)) := ⟨_, rfl⟩
  have fb : ∀ p, p ≠ 45 → Mb p = M2 p := fun p hp => by rw [eMb]; unfold sm_up; rw [if_neg hp]; exact fa p hp
  rw [← eMb] at g2 e2a e2t e2o z1 ⊢
  clear eMb
  have hz01 : z = 0 ∨ z = 1 := by rw [hz]; exact bI_01
  have g3 : gr K A B N (Mb 45) (sm_up Mb 45 b z 45) := by
    rw [up5]
    refine gr_set g2.2.1 hz01 (fun h => z1.mpr (Or.inl h)) (fun h S hS hG => ?_)
    rcases z1.mp h with h | ⟨h1, h2⟩ | ⟨h1, h2, h3⟩
    · exact hG b (by omega) h
    · exact ((hS t a b ht ha hb hA hB k0 k1).2.1 ((kq 4 (by omega)).mpr h2) (hG t ht (by rw [e2t]; exact bI_1.mpr h1))).2
    · exact (hS t a b ht ha hb hA hB k0 k1).2.2 ((kq 3 (by omega)).mpr h2) (hG t ht (by rw [e2t]; exact bI_1.mpr h1)) (hG a (by omega) (by rw [e2a]; exact bI_1.mpr (Or.inl h3)))
  have e3b : sm_up Mb 45 b z 45 b = z := up_s
  have e3t : sm_up Mb 45 b z 45 t = bI Al := by rw [up_i (by omega)]; exact e2t
  have e3o : ∀ i, i ≠ b → sm_up Mb 45 b z 45 i = Mb 45 i := fun i hi => up_i hi
  obtain ⟨Mc, eMc⟩ : ∃ Mc, Mc = sm_up Mb 45 b z := ⟨_, rfl⟩
  have fc : ∀ p, p ≠ 45 → Mc p = M2 p := fun p hp => by rw [eMc]; unfold sm_up; rw [if_neg hp]; exact fb p hp
  rw [← eMc] at g3 e3b e3t e3o ⊢
  clear eMc
  have tAl : (M2 45 t = 1) → Al := fun h => by rw [eAl]; exact Or.inl h
  have xyAl : (M2 45 a = 1) → (M2 45 b = 1) → Al := fun h1 h2 => by rw [eAl]; exact Or.inr ⟨h1, h2⟩
  have mca : Mc 45 a = 1 ↔ (a = b ∧ z = 1) ∨ (a ≠ b ∧ ((M2 45 a = 1) ∨ Al ∧ kk = 4)) := by
    by_cases e : a = b
    · rw [e, e3b]; simp
    · rw [e3o a e, e2a, bI_1]; simp [e]
  have mbb : Mb 45 b = 1 ↔ (a = b ∧ ((M2 45 a = 1) ∨ Al ∧ kk = 4)) ∨ (a ≠ b ∧ (M2 45 b = 1)) := by
    by_cases e : a = b
    · rw [← e, e2a, bI_1]; simp
    · rw [e2o b (fun q => e q.symm), e1b]; simp [e]
  have gg : gr K A B N (M2 45) (Mc 45) := gr_tr g1 (gr_tr g2 g3)
  have hab : a = b → ((M2 45 a = 1) ↔ (M2 45 b = 1)) := fun e => by rw [e]
  refine ⟨gg, fc, fun a' b' q1 q2 q3 q4 => ?_, fun a' b' q1 q2 q3 q4 _ _ q5 q6 => ?_, ?_⟩
  · obtain ⟨rfl, rfl⟩ := hin a' b' q3 q4 q1 q2
    rw [e3t, e3b, bI_1, kq 4 (by omega), kq 3 (by omega)]
    refine ⟨fun h1 h2 => ⟨mca.mpr ?_, z1.mpr (Or.inr (Or.inl ⟨h2, h1⟩))⟩, fun h1 h2 h3 => ?_⟩
    · by_cases e : a' = b'
      · exact Or.inl ⟨e, z1.mpr (Or.inr (Or.inl ⟨h2, h1⟩))⟩
      · exact Or.inr ⟨e, Or.inr ⟨h2, h1⟩⟩
    · rcases mca.mp h3 with ⟨-, h⟩ | ⟨-, h | h⟩
      · exact h
      · exact z1.mpr (Or.inr (Or.inr ⟨h2, h1, h⟩))
      · omega
  · obtain ⟨rfl, rfl⟩ := hin a' b' q3 q4 q1 q2
    rw [e3t, bI_1]
    rw [e3b, z1] at q6
    rw [mca] at q5
    apply Classical.byContradiction
    intro hno
    have q6 : (a' = b' ∧ (M2 45 a' = 1)) ∨ (a' ≠ b' ∧ (M2 45 b' = 1)) := by
      rcases q6 with q6 | q6 | q6
      · rcases mbb.mp q6 with ⟨e, h | h⟩ | h
        · exact Or.inl ⟨e, h⟩
        · exact absurd h.1 hno
        · exact Or.inr h
      · exact absurd q6.1 hno
      · exact absurd q6.1 hno
    rcases q6 with ⟨e, h⟩ | ⟨e, h⟩
    · exact hno (xyAl h ((hab e).mp h))
    · rcases q5 with ⟨e', -⟩ | ⟨-, q5 | q5⟩
      · exact e e'
      · exact hno (xyAl q5 h)
      · exact hno q5.1
  · constructor
    · rintro (h | ⟨⟨h1, h2⟩, h3⟩ | ⟨⟨h1, h2, h3⟩, h4⟩)
      · have hx : Al ∧ ¬ (M2 45 t = 1) := by
          by_cases q : (M2 45 t = 1)
          · exact absurd ⟨fun _ => q, tAl⟩ h
          · exact ⟨Classical.byContradiction fun q2 => h ⟨fun q3 => absurd q3 q2, fun q3 => absurd q3 q⟩, q⟩
        exact ⟨t, ht, hx.2, by rw [e3t]; exact bI_1.mpr hx.1⟩
      · have zz : z = 1 := z1.mpr (Or.inr (Or.inl ⟨h1, h2⟩))
        by_cases q : (M2 45 b = 1)
        · refine ⟨a, by omega, fun hx => h3 ⟨hx, q⟩, mca.mpr ?_⟩
          by_cases e : a = b
          · exact Or.inl ⟨e, zz⟩
          · exact Or.inr ⟨e, Or.inr ⟨h1, h2⟩⟩
        · exact ⟨b, by omega, q, by rw [e3b]; exact zz⟩
      · exact ⟨b, by omega, h4, by rw [e3b]; exact z1.mpr (Or.inr (Or.inr ⟨h1, h2, h3⟩))⟩
    · rintro ⟨i, hi, h1, h2⟩
      by_cases eb : i = b
      · subst eb
        rw [e3b, z1] at h2
        rcases h2 with h2 | h2 | h2
        · rcases mbb.mp h2 with ⟨e, h | h⟩ | ⟨-, h⟩
          · exact absurd ((hab e).mp h) h1
          · exact Or.inr (Or.inl ⟨h, fun q => h1 q.2⟩)
          · exact absurd h h1
        · exact Or.inr (Or.inl ⟨h2, fun q => h1 q.2⟩)
        · exact Or.inr (Or.inr ⟨h2, h1⟩)
      · by_cases ea : i = a
        · subst ea
          rcases mca.mp h2 with ⟨e, -⟩ | ⟨-, h | h⟩
          · exact absurd e eb
          · exact absurd h h1
          · exact Or.inr (Or.inl ⟨h, fun q => h1 q.1⟩)
        · by_cases et : i = t
          · subst et
            rw [e3t, bI_1] at h2
            exact Or.inl (fun q => h1 (q.mp h2))
          · rw [e3o i eb, e2o i ea, e1o i et] at h2
            exact absurd h2 h1
theorem r_spB {X : Nat × (Nat → Int32)} {d lw : Nat} {J : sm_J} {rc rs : Nat} {Qz : sm_O → sm_H → Prop} {r : Int32} {M2 : sm_M} {Mo : Prop} {t a b kk : Nat} {z4 z5 z6 z7 z8 : Option Value} (hq : rq M2 K A B N) (h01 : ∀ i, i < N → M2 45 i = 0 ∨ M2 45 i = 1) (ht : t < N) (hK : K t = nI kk) (hk2 : 2 ≤ kk) (hk5 : kk ≤ 5) (ha : a < t) (hb : b < t) (hA : A t = nI a) (hB : B t = nI b) (k : (∀ M3 : sm_M, gr K A B N (M2 45) (M3 45) → (∀ p, p ≠ 45 → M3 p = M2 p) → apt K A B (M3 45) t → tgt K A B (M3 45) t → ∀ y4 y5 y6 y7 y8, sm_wp tb_T X tb_ok d lw 115 304 [some (.ref 40), some (.int (bI (Mo ∨ Chg N (M2 45) (M3 45)))), some (.int r), some (.int (nI t)), y4, y5, y6, y7, y8] [] (wSH, M3, J, rc, rs) Qz)) : sm_wp tb_T X tb_ok d lw 115 83 [some (.ref 40), some (.int (bI Mo)), some (.int r), some (.int (nI t)), z4, z5, z6, z7, z8] [] (wSH, M2, J, rc, rs) Qz := by
  have hN := hq.2.1
  have eK : M2 41 t = nI kk := by rw [hq.2.2.1]; exact hK
  have eA : M2 42 t = nI a := by rw [hq.2.2.2.1]; exact hA
  have eB : M2 43 t = nI b := by rw [hq.2.2.2.2]; exact hB
  have bx : M2 45 a = bI (M2 45 a = 1) := b01 (h01 a (by omega))
  have by' : M2 45 b = bI (M2 45 b = 1) := b01 (h01 b (by omega))
  have bt : M2 45 t = bI (M2 45 t = 1) := b01 (h01 t ht)
  have eA1 : sm_up M2 45 t (bI ((M2 45 t = 1) ∨ (M2 45 a = 1) ∧ (M2 45 b = 1))) 42 t = nI a := (up_k (by omega)).trans eA
  have eB2 : (sm_up (sm_up M2 45 t (bI ((M2 45 t = 1) ∨ (M2 45 a = 1) ∧ (M2 45 b = 1)))) 45 a (bI ((M2 45 a = 1) ∨ (((M2 45 t = 1) ∨ (M2 45 a = 1) ∧ (M2 45 b = 1)) ∧ kk = 4)))) 43 t = nI b := (up_k (by omega)).trans ((up_k (by omega)).trans eB)
  have k303 : ∀ z, z = bI ((sm_up (sm_up M2 45 t (bI ((M2 45 t = 1) ∨ (M2 45 a = 1) ∧ (M2 45 b = 1)))) 45 a (bI ((M2 45 a = 1) ∨ (((M2 45 t = 1) ∨ (M2 45 a = 1) ∧ (M2 45 b = 1)) ∧ kk = 4)))) 45 b = 1 ∨ (((M2 45 t = 1) ∨ (M2 45 a = 1) ∧ (M2 45 b = 1)) ∧ kk = 4) ∨ (((M2 45 t = 1) ∨ (M2 45 a = 1) ∧ (M2 45 b = 1)) ∧ kk = 3 ∧ (M2 45 a = 1))) → sm_wp tb_T X tb_ok d lw 115 303 [some (.ref 40), some (.int (bI (Mo ∨ (¬ (((M2 45 t = 1) ∨ (M2 45 a = 1) ∧ (M2 45 b = 1)) ↔ (M2 45 t = 1)) ∨ ((((M2 45 t = 1) ∨ (M2 45 a = 1) ∧ (M2 45 b = 1)) ∧ kk = 4) ∧ ¬ ((M2 45 a = 1) ∧ (M2 45 b = 1))) ∨ ((((M2 45 t = 1) ∨ (M2 45 a = 1) ∧ (M2 45 b = 1)) ∧ kk = 3 ∧ (M2 45 a = 1)) ∧ ¬ (M2 45 b = 1)))))), some (.int r), some (.int (nI t)), some (.int (bI (M2 45 a = 1))), some (.int (bI (M2 45 b = 1))), some (.int (bI ((M2 45 t = 1) ∨ (M2 45 a = 1) ∧ (M2 45 b = 1)))), some (.int (bI (((M2 45 t = 1) ∨ (M2 45 a = 1) ∧ (M2 45 b = 1)) ∧ kk = 4))), some (.int (bI (((M2 45 t = 1) ∨ (M2 45 a = 1) ∧ (M2 45 b = 1)) ∧ kk = 3 ∧ (M2 45 a = 1))))] [.int z, .int (nI b), .ref 45] (wSH, (sm_up (sm_up M2 45 t (bI ((M2 45 t = 1) ∨ (M2 45 a = 1) ∧ (M2 45 b = 1)))) 45 a (bI ((M2 45 a = 1) ∨ (((M2 45 t = 1) ∨ (M2 45 a = 1) ∧ (M2 45 b = 1)) ∧ kk = 4)))), J, rc, rs) Qz := by
    intro z hz
    obtain ⟨h1, h2, h3, h4, h5⟩ := r_spX h01 ht hK hk2 hk5 ha hb hN hA hB hz
    have e5 : bI (Mo ∨ (¬ (((M2 45 t = 1) ∨ (M2 45 a = 1) ∧ (M2 45 b = 1)) ↔ (M2 45 t = 1)) ∨ ((((M2 45 t = 1) ∨ (M2 45 a = 1) ∧ (M2 45 b = 1)) ∧ kk = 4) ∧ ¬ ((M2 45 a = 1) ∧ (M2 45 b = 1))) ∨ ((((M2 45 t = 1) ∨ (M2 45 a = 1) ∧ (M2 45 b = 1)) ∧ kk = 3 ∧ (M2 45 a = 1)) ∧ ¬ (M2 45 b = 1)))) = bI (Mo ∨ Chg N (M2 45) ((sm_up (sm_up (sm_up M2 45 t (bI ((M2 45 t = 1) ∨ (M2 45 a = 1) ∧ (M2 45 b = 1)))) 45 a (bI ((M2 45 a = 1) ∨ (((M2 45 t = 1) ∨ (M2 45 a = 1) ∧ (M2 45 b = 1)) ∧ kk = 4)))) 45 b z) 45)) := bI_congr (by rw [h5])
    rw [e5]
    refine go_bast (p := 304) hf_115 rfl rfl (by first | with_reducible assumption | rfl) (by first | rfl | with_reducible assumption) (by first | exact rfl | with_reducible assumption) (by omega) (hz ▸ bI_01) ?_
    exact k _ h1 h2 h3 h4 _ _ _ _ _
  have k263 : ∀ z, z = bI ((M2 45 a = 1) ∨ (((M2 45 t = 1) ∨ (M2 45 a = 1) ∧ (M2 45 b = 1)) ∧ kk = 4)) → sm_wp tb_T X tb_ok d lw 115 263 [some (.ref 40), some (.int (bI (Mo ∨ (¬ (((M2 45 t = 1) ∨ (M2 45 a = 1) ∧ (M2 45 b = 1)) ↔ (M2 45 t = 1)) ∨ ((((M2 45 t = 1) ∨ (M2 45 a = 1) ∧ (M2 45 b = 1)) ∧ kk = 4) ∧ ¬ ((M2 45 a = 1) ∧ (M2 45 b = 1))) ∨ ((((M2 45 t = 1) ∨ (M2 45 a = 1) ∧ (M2 45 b = 1)) ∧ kk = 3 ∧ (M2 45 a = 1)) ∧ ¬ (M2 45 b = 1)))))), some (.int r), some (.int (nI t)), some (.int (bI (M2 45 a = 1))), some (.int (bI (M2 45 b = 1))), some (.int (bI ((M2 45 t = 1) ∨ (M2 45 a = 1) ∧ (M2 45 b = 1)))), some (.int (bI (((M2 45 t = 1) ∨ (M2 45 a = 1) ∧ (M2 45 b = 1)) ∧ kk = 4))), some (.int (bI (((M2 45 t = 1) ∨ (M2 45 a = 1) ∧ (M2 45 b = 1)) ∧ kk = 3 ∧ (M2 45 a = 1))))] [.int z, .int (nI a), .ref 45] (wSH, sm_up M2 45 t (bI ((M2 45 t = 1) ∨ (M2 45 a = 1) ∧ (M2 45 b = 1))), J, rc, rs) Qz := by
    intro z hz
    subst hz
    have h01b : (sm_up (sm_up M2 45 t (bI ((M2 45 t = 1) ∨ (M2 45 a = 1) ∧ (M2 45 b = 1)))) 45 a (bI ((M2 45 a = 1) ∨ (((M2 45 t = 1) ∨ (M2 45 a = 1) ∧ (M2 45 b = 1)) ∧ kk = 4)))) 45 b = 0 ∨ (sm_up (sm_up M2 45 t (bI ((M2 45 t = 1) ∨ (M2 45 a = 1) ∧ (M2 45 b = 1)))) 45 a (bI ((M2 45 a = 1) ∨ (((M2 45 t = 1) ∨ (M2 45 a = 1) ∧ (M2 45 b = 1)) ∧ kk = 4)))) 45 b = 1 := by
      by_cases e : b = a
      · rw [e, up_s]; exact bI_01
      · rw [up_i e, up_i (by omega)]; exact h01 b (by omega)
    refine go_bast (p := 264) hf_115 rfl rfl (by first | with_reducible assumption | rfl) (by first | rfl | with_reducible assumption) (by first | exact rfl | with_reducible assumption) (by omega) bI_01 ?_
    refine go_al0 (p := 265) hf_115 rfl rfl ?_
    refine go_getr (p := 268) hf_115 ho_115 rfl fl_6_23 rfl (by first | with_reducible assumption | rfl) rfl ?_
    refine go_al0 (p := 269) hf_115 rfl rfl ?_
    refine go_getr (p := 272) hf_115 ho_115 rfl fl_6_16 rfl (by first | with_reducible assumption | rfl) rfl ?_
    refine go_il3 (p := 273) hf_115 rfl rfl ?_
    refine go_iald (p := 274) hf_115 rfl rfl (by first | with_reducible assumption | rfl) (by first | rfl | with_reducible assumption) (by first | exact rfl | with_reducible assumption) (by omega) eB2 ?_
    refine go_al0 (p := 275) hf_115 rfl rfl ?_
    refine go_getr (p := 278) hf_115 ho_115 rfl fl_6_23 rfl (by first | with_reducible assumption | rfl) rfl ?_
    refine go_al0 (p := 279) hf_115 rfl rfl ?_
    refine go_getr (p := 282) hf_115 ho_115 rfl fl_6_16 rfl (by first | with_reducible assumption | rfl) rfl ?_
    refine go_il3 (p := 283) hf_115 rfl rfl ?_
    refine go_iald (p := 284) hf_115 rfl rfl (by first | with_reducible assumption | rfl) (by first | rfl | with_reducible assumption) (by first | exact rfl | with_reducible assumption) (by omega) eB2 ?_
    refine go_bald (p := 285) hf_115 rfl rfl (by first | with_reducible assumption | rfl) (by first | rfl | with_reducible assumption) (by first | exact rfl | with_reducible assumption) (by omega) (by first | with_reducible assumption | ((repeat rewrite [up_k]) <;> first | with_reducible assumption | decide | omega) | exact rfl) ?_
    refine go_if_ne (p := 288) (p2 := 298) hf_115 rfl rfl rfl (fun h285 => ?_) (fun h285 => ?_)
    · refine go_iconst (p := 299) hf_115 rfl rfl ci_1 ?_
      refine go_goto (p2 := 303) hf_115 rfl rfl ?_
      exact k303 _ (bI_t (Or.inl (n01 h01b h285))).symm
    · refine go_il7 (p := 290) hf_115 rfl rfl ?_
      refine go_if_ne (p := 293) (p2 := 298) hf_115 rfl rfl rfl (fun h290 => ?_) (fun h290 => ?_)
      · refine go_iconst (p := 299) hf_115 rfl rfl ci_1 ?_
        refine go_goto (p2 := 303) hf_115 rfl rfl ?_
        exact k303 _ (bI_t (Or.inr (Or.inl (bI_n0.mp h290)))).symm
      · refine go_il8 (p := 295) hf_115 rfl rfl ?_
        refine go_if_eq (p := 298) (p2 := 302) hf_115 rfl rfl rfl (fun h295 => ?_) (fun h295 => ?_)
        · refine go_iconst (p := 303) hf_115 rfl rfl ci_0 ?_
          exact k303 _ (bI_f (fun q => q.elim (fun q => z01 h285 q) (fun q => q.elim (fun q => bI_0.mp h290 q) (fun q => bI_0.mp h295 q)))).symm
        · refine go_iconst (p := 299) hf_115 rfl rfl ci_1 ?_
          refine go_goto (p2 := 303) hf_115 rfl rfl ?_
          exact k303 _ (bI_t (Or.inr (Or.inr (bI_n0.mp h295)))).symm
  have k229 : ∀ z, z = bI (Mo ∨ (¬ (((M2 45 t = 1) ∨ (M2 45 a = 1) ∧ (M2 45 b = 1)) ↔ (M2 45 t = 1)) ∨ ((((M2 45 t = 1) ∨ (M2 45 a = 1) ∧ (M2 45 b = 1)) ∧ kk = 4) ∧ ¬ ((M2 45 a = 1) ∧ (M2 45 b = 1))) ∨ ((((M2 45 t = 1) ∨ (M2 45 a = 1) ∧ (M2 45 b = 1)) ∧ kk = 3 ∧ (M2 45 a = 1)) ∧ ¬ (M2 45 b = 1)))) → sm_wp tb_T X tb_ok d lw 115 229 [some (.ref 40), some (.int (bI Mo)), some (.int r), some (.int (nI t)), some (.int (bI (M2 45 a = 1))), some (.int (bI (M2 45 b = 1))), some (.int (bI ((M2 45 t = 1) ∨ (M2 45 a = 1) ∧ (M2 45 b = 1)))), some (.int (bI (((M2 45 t = 1) ∨ (M2 45 a = 1) ∧ (M2 45 b = 1)) ∧ kk = 4))), some (.int (bI (((M2 45 t = 1) ∨ (M2 45 a = 1) ∧ (M2 45 b = 1)) ∧ kk = 3 ∧ (M2 45 a = 1))))] [.int z] (wSH, M2, J, rc, rs) Qz := by
    intro z hz
    subst hz
    refine go_is1 (p := 230) hf_115 rfl rfl ?_
    refine go_al0 (p := 231) hf_115 rfl rfl ?_
    refine go_getr (p := 234) hf_115 ho_115 rfl fl_6_23 rfl (by first | with_reducible assumption | rfl) rfl ?_
    refine go_il3 (p := 235) hf_115 rfl rfl ?_
    refine go_il6 (p := 237) hf_115 rfl rfl ?_
    refine go_bast (p := 238) hf_115 rfl rfl (by first | with_reducible assumption | rfl) (by first | rfl | with_reducible assumption) (by first | exact rfl | with_reducible assumption) (by omega) bI_01 ?_
    refine go_al0 (p := 239) hf_115 rfl rfl ?_
    refine go_getr (p := 242) hf_115 ho_115 rfl fl_6_23 rfl (by first | with_reducible assumption | rfl) rfl ?_
    refine go_al0 (p := 243) hf_115 rfl rfl ?_
    refine go_getr (p := 246) hf_115 ho_115 rfl fl_6_13 rfl (by first | with_reducible assumption | rfl) rfl ?_
    refine go_il3 (p := 247) hf_115 rfl rfl ?_
    refine go_iald (p := 248) hf_115 rfl rfl (by first | with_reducible assumption | rfl) (by first | rfl | with_reducible assumption) (by first | exact rfl | with_reducible assumption) (by omega) eA1 ?_
    refine go_il4 (p := 250) hf_115 rfl rfl ?_
    refine go_if_ne (p := 253) (p2 := 258) hf_115 rfl rfl rfl (fun h250 => ?_) (fun h250 => ?_)
    · refine go_iconst (p := 259) hf_115 rfl rfl ci_1 ?_
      refine go_goto (p2 := 263) hf_115 rfl rfl ?_
      exact k263 _ (bI_t (Or.inl (bI_n0.mp h250))).symm
    · refine go_il7 (p := 255) hf_115 rfl rfl ?_
      refine go_if_eq (p := 258) (p2 := 262) hf_115 rfl rfl rfl (fun h255 => ?_) (fun h255 => ?_)
      · refine go_iconst (p := 263) hf_115 rfl rfl ci_0 ?_
        exact k263 _ (bI_f (fun q => q.elim (fun q => bI_0.mp h250 q) (fun q => bI_0.mp h255 q))).symm
      · refine go_iconst (p := 259) hf_115 rfl rfl ci_1 ?_
        refine go_goto (p2 := 263) hf_115 rfl rfl ?_
        exact k263 _ (bI_t (Or.inr (bI_n0.mp h255))).symm
  have k182 : ∀ z, z = bI (((M2 45 t = 1) ∨ (M2 45 a = 1) ∧ (M2 45 b = 1)) ∧ kk = 3 ∧ (M2 45 a = 1)) → sm_wp tb_T X tb_ok d lw 115 182 [some (.ref 40), some (.int (bI Mo)), some (.int r), some (.int (nI t)), some (.int (bI (M2 45 a = 1))), some (.int (bI (M2 45 b = 1))), some (.int (bI ((M2 45 t = 1) ∨ (M2 45 a = 1) ∧ (M2 45 b = 1)))), some (.int (bI (((M2 45 t = 1) ∨ (M2 45 a = 1) ∧ (M2 45 b = 1)) ∧ kk = 4))), z8] [.int z] (wSH, M2, J, rc, rs) Qz := by
    intro z hz
    subst hz
    have iffb : ∀ p q : Prop, bI p = bI q → (p ↔ q) := fun p q h => ⟨fun hp => bI_1.mp (h.symm.trans (bI_1.mpr hp)), fun hq => bI_1.mp (h.trans (bI_1.mpr hq))⟩
    refine go_is8 (p := 184) hf_115 rfl rfl ?_
    refine go_il1 (p := 185) hf_115 rfl rfl ?_
    refine go_if_ne (p := 188) (p2 := 224) hf_115 rfl rfl rfl (fun h185 => ?_) (fun h185 => ?_)
    · refine go_iconst (p := 225) hf_115 rfl rfl ci_1 ?_
      refine go_goto (p2 := 229) hf_115 rfl rfl ?_
      exact k229 _ (bI_t (Or.inl (bI_n0.mp h185))).symm
    · refine go_il6 (p := 190) hf_115 rfl rfl ?_
      refine go_al0 (p := 191) hf_115 rfl rfl ?_
      refine go_getr (p := 194) hf_115 ho_115 rfl fl_6_23 rfl (by first | with_reducible assumption | rfl) rfl ?_
      refine go_il3 (p := 195) hf_115 rfl rfl ?_
      refine go_bald (p := 196) hf_115 rfl rfl (by first | with_reducible assumption | rfl) (by first | rfl | with_reducible assumption) (by first | exact rfl | with_reducible assumption) (by omega) bt ?_
      refine go_ic_ne (p := 199) (p2 := 224) hf_115 rfl rfl rfl (fun h196 => ?_) (fun h196 => ?_)
      · refine go_iconst (p := 225) hf_115 rfl rfl ci_1 ?_
        refine go_goto (p2 := 229) hf_115 rfl rfl ?_
        exact k229 _ (bI_t (Or.inr (Or.inl (fun q => h196 (bI_congr q))))).symm
      · refine go_il7 (p := 201) hf_115 rfl rfl ?_
        refine go_if_eq (p := 204) (p2 := 214) hf_115 rfl rfl rfl (fun h201 => ?_) (fun h201 => ?_)
        · refine go_il8 (p := 216) hf_115 rfl rfl ?_
          refine go_if_eq (p := 219) (p2 := 228) hf_115 rfl rfl rfl (fun h216 => ?_) (fun h216 => ?_)
          · refine go_iconst (p := 229) hf_115 rfl rfl ci_0 ?_
            exact k229 _ (bI_f (fun q => q.elim (fun q => bI_0.mp h185 q) (fun q => q.elim (fun q => q (iffb _ _ h196)) (fun q => q.elim (fun q => bI_0.mp h201 q.1) (fun q => bI_0.mp h216 q.1))))).symm
          · refine go_il5 (p := 221) hf_115 rfl rfl ?_
            refine go_if_ne (p := 224) (p2 := 228) hf_115 rfl rfl rfl (fun h221 => ?_) (fun h221 => ?_)
            · refine go_iconst (p := 229) hf_115 rfl rfl ci_0 ?_
              exact k229 _ (bI_f (fun q => q.elim (fun q => bI_0.mp h185 q) (fun q => q.elim (fun q => q (iffb _ _ h196)) (fun q => q.elim (fun q => bI_0.mp h201 q.1) (fun q => q.2 (bI_n0.mp h221)))))).symm
            · refine go_iconst (p := 225) hf_115 rfl rfl ci_1 ?_
              refine go_goto (p2 := 229) hf_115 rfl rfl ?_
              exact k229 _ (bI_t (Or.inr (Or.inr (Or.inr ⟨bI_n0.mp h216, bI_0.mp h221⟩)))).symm
        · refine go_il4 (p := 206) hf_115 rfl rfl ?_
          refine go_if_eq (p := 209) (p2 := 224) hf_115 rfl rfl rfl (fun h206 => ?_) (fun h206 => ?_)
          · refine go_iconst (p := 225) hf_115 rfl rfl ci_1 ?_
            refine go_goto (p2 := 229) hf_115 rfl rfl ?_
            exact k229 _ (bI_t (Or.inr (Or.inr (Or.inl ⟨bI_n0.mp h201, fun q => bI_0.mp h206 q.1⟩)))).symm
          · refine go_il5 (p := 211) hf_115 rfl rfl ?_
            refine go_if_eq (p := 214) (p2 := 224) hf_115 rfl rfl rfl (fun h211 => ?_) (fun h211 => ?_)
            · refine go_iconst (p := 225) hf_115 rfl rfl ci_1 ?_
              refine go_goto (p2 := 229) hf_115 rfl rfl ?_
              exact k229 _ (bI_t (Or.inr (Or.inr (Or.inl ⟨bI_n0.mp h201, fun q => bI_0.mp h211 q.2⟩)))).symm
            · refine go_il8 (p := 216) hf_115 rfl rfl ?_
              refine go_if_eq (p := 219) (p2 := 228) hf_115 rfl rfl rfl (fun h216 => ?_) (fun h216 => ?_)
              · refine go_iconst (p := 229) hf_115 rfl rfl ci_0 ?_
                exact k229 _ (bI_f (fun q => q.elim (fun q => bI_0.mp h185 q) (fun q => q.elim (fun q => q (iffb _ _ h196)) (fun q => q.elim (fun q => q.2 ⟨bI_n0.mp h206, bI_n0.mp h211⟩) (fun q => bI_0.mp h216 q.1))))).symm
              · refine go_il5 (p := 221) hf_115 rfl rfl ?_
                refine go_if_ne (p := 224) (p2 := 228) hf_115 rfl rfl rfl (fun h221 => ?_) (fun h221 => ?_)
                · refine go_iconst (p := 229) hf_115 rfl rfl ci_0 ?_
                  exact k229 _ (bI_f (fun q => q.elim (fun q => bI_0.mp h185 q) (fun q => q.elim (fun q => q (iffb _ _ h196)) (fun q => q.elim (fun q => q.2 ⟨bI_n0.mp h206, bI_n0.mp h211⟩) (fun q => q.2 (bI_n0.mp h221)))))).symm
                · refine go_iconst (p := 225) hf_115 rfl rfl ci_1 ?_
                  refine go_goto (p2 := 229) hf_115 rfl rfl ?_
                  exact k229 _ (bI_t (Or.inr (Or.inr (Or.inr ⟨bI_n0.mp h216, bI_0.mp h221⟩)))).symm
  have k155 : ∀ z, z = bI (((M2 45 t = 1) ∨ (M2 45 a = 1) ∧ (M2 45 b = 1)) ∧ kk = 4) → sm_wp tb_T X tb_ok d lw 115 155 [some (.ref 40), some (.int (bI Mo)), some (.int r), some (.int (nI t)), some (.int (bI (M2 45 a = 1))), some (.int (bI (M2 45 b = 1))), some (.int (bI ((M2 45 t = 1) ∨ (M2 45 a = 1) ∧ (M2 45 b = 1)))), z7, z8] [.int z] (wSH, M2, J, rc, rs) Qz := by
    intro z hz
    subst hz
    refine go_is7 (p := 157) hf_115 rfl rfl ?_
    refine go_il6 (p := 159) hf_115 rfl rfl ?_
    refine go_if_eq (p := 162) (p2 := 181) hf_115 rfl rfl rfl (fun h159 => ?_) (fun h159 => ?_)
    · refine go_iconst (p := 182) hf_115 rfl rfl ci_0 ?_
      exact k182 _ (bI_f (fun q => bI_0.mp h159 q.1)).symm
    · refine go_al0 (p := 163) hf_115 rfl rfl ?_
      refine go_getr (p := 166) hf_115 ho_115 rfl fl_6_7 rfl (by first | with_reducible assumption | rfl) rfl ?_
      refine go_il3 (p := 167) hf_115 rfl rfl ?_
      refine go_iald (p := 168) hf_115 rfl rfl (by first | with_reducible assumption | rfl) (by first | rfl | with_reducible assumption) (by first | exact rfl | with_reducible assumption) (by omega) eK ?_
      refine go_iconst (p := 169) hf_115 rfl rfl ci_3 ?_
      first | refine go_nn_ne (p := 172) (p2 := 181) hf_115 rfl rfl rfl (by omega) (by omega) (fun h169 => ?_) (fun h169 => ?_) | refine go_ic_ne (p := 172) (p2 := 181) hf_115 rfl rfl rfl (fun h169 => ?_) (fun h169 => ?_)
      · refine go_iconst (p := 182) hf_115 rfl rfl ci_0 ?_
        exact k182 _ (bI_f (fun q => h169 q.2.1)).symm
      · refine go_il4 (p := 174) hf_115 rfl rfl ?_
        refine go_if_eq (p := 177) (p2 := 181) hf_115 rfl rfl rfl (fun h174 => ?_) (fun h174 => ?_)
        · refine go_iconst (p := 182) hf_115 rfl rfl ci_0 ?_
          exact k182 _ (bI_f (fun q => bI_0.mp h174 q.2.2)).symm
        · refine go_iconst (p := 178) hf_115 rfl rfl ci_1 ?_
          refine go_goto (p2 := 182) hf_115 rfl rfl ?_
          exact k182 _ (bI_t ⟨bI_n0.mp h159, h169, bI_n0.mp h174⟩).symm
  have k133 : ∀ z, z = bI ((M2 45 t = 1) ∨ (M2 45 a = 1) ∧ (M2 45 b = 1)) → sm_wp tb_T X tb_ok d lw 115 133 [some (.ref 40), some (.int (bI Mo)), some (.int r), some (.int (nI t)), some (.int (bI (M2 45 a = 1))), some (.int (bI (M2 45 b = 1))), z6, z7, z8] [.int z] (wSH, M2, J, rc, rs) Qz := by
    intro z hz
    subst hz
    refine go_is6 (p := 135) hf_115 rfl rfl ?_
    refine go_il6 (p := 137) hf_115 rfl rfl ?_
    refine go_if_eq (p := 140) (p2 := 154) hf_115 rfl rfl rfl (fun h137 => ?_) (fun h137 => ?_)
    · refine go_iconst (p := 155) hf_115 rfl rfl ci_0 ?_
      exact k155 _ (bI_f (fun q => bI_0.mp h137 q.1)).symm
    · refine go_al0 (p := 141) hf_115 rfl rfl ?_
      refine go_getr (p := 144) hf_115 ho_115 rfl fl_6_7 rfl (by first | with_reducible assumption | rfl) rfl ?_
      refine go_il3 (p := 145) hf_115 rfl rfl ?_
      refine go_iald (p := 146) hf_115 rfl rfl (by first | with_reducible assumption | rfl) (by first | rfl | with_reducible assumption) (by first | exact rfl | with_reducible assumption) (by omega) eK ?_
      refine go_iconst (p := 147) hf_115 rfl rfl ci_4 ?_
      first | refine go_nn_ne (p := 150) (p2 := 154) hf_115 rfl rfl rfl (by omega) (by omega) (fun h147 => ?_) (fun h147 => ?_) | refine go_ic_ne (p := 150) (p2 := 154) hf_115 rfl rfl rfl (fun h147 => ?_) (fun h147 => ?_)
      · refine go_iconst (p := 155) hf_115 rfl rfl ci_0 ?_
        exact k155 _ (bI_f (fun q => h147 q.2)).symm
      · refine go_iconst (p := 151) hf_115 rfl rfl ci_1 ?_
        refine go_goto (p2 := 155) hf_115 rfl rfl ?_
        exact k155 _ (bI_t ⟨bI_n0.mp h137, h147⟩).symm
  refine go_al0 (p := 84) hf_115 rfl rfl ?_
  refine go_getr (p := 87) hf_115 ho_115 rfl fl_6_23 rfl (by first | with_reducible assumption | rfl) rfl ?_
  refine go_al0 (p := 88) hf_115 rfl rfl ?_
  refine go_getr (p := 91) hf_115 ho_115 rfl fl_6_13 rfl (by first | with_reducible assumption | rfl) rfl ?_
  refine go_il3 (p := 92) hf_115 rfl rfl ?_
  refine go_iald (p := 93) hf_115 rfl rfl (by first | with_reducible assumption | rfl) (by first | rfl | with_reducible assumption) (by first | exact rfl | with_reducible assumption) (by omega) eA ?_
  refine go_bald (p := 94) hf_115 rfl rfl (by first | with_reducible assumption | rfl) (by first | rfl | with_reducible assumption) (by first | exact rfl | with_reducible assumption) (by omega) bx ?_
  refine go_is4 (p := 96) hf_115 rfl rfl ?_
  refine go_al0 (p := 97) hf_115 rfl rfl ?_
  refine go_getr (p := 100) hf_115 ho_115 rfl fl_6_23 rfl (by first | with_reducible assumption | rfl) rfl ?_
  refine go_al0 (p := 101) hf_115 rfl rfl ?_
  refine go_getr (p := 104) hf_115 ho_115 rfl fl_6_16 rfl (by first | with_reducible assumption | rfl) rfl ?_
  refine go_il3 (p := 105) hf_115 rfl rfl ?_
  refine go_iald (p := 106) hf_115 rfl rfl (by first | with_reducible assumption | rfl) (by first | rfl | with_reducible assumption) (by first | exact rfl | with_reducible assumption) (by omega) eB ?_
  refine go_bald (p := 107) hf_115 rfl rfl (by first | with_reducible assumption | rfl) (by first | rfl | with_reducible assumption) (by first | exact rfl | with_reducible assumption) (by omega) by' ?_
  refine go_is5 (p := 109) hf_115 rfl rfl ?_
  refine go_al0 (p := 110) hf_115 rfl rfl ?_
  refine go_getr (p := 113) hf_115 ho_115 rfl fl_6_23 rfl (by first | with_reducible assumption | rfl) rfl ?_
  refine go_il3 (p := 114) hf_115 rfl rfl ?_
  refine go_bald (p := 115) hf_115 rfl rfl (by first | with_reducible assumption | rfl) (by first | rfl | with_reducible assumption) (by first | exact rfl | with_reducible assumption) (by omega) bt ?_
  refine go_if_ne (p := 118) (p2 := 128) hf_115 rfl rfl rfl (fun h115 => ?_) (fun h115 => ?_)
  · refine go_iconst (p := 129) hf_115 rfl rfl ci_1 ?_
    refine go_goto (p2 := 133) hf_115 rfl rfl ?_
    exact k133 _ (bI_t (Or.inl (bI_n0.mp h115))).symm
  · refine go_il4 (p := 120) hf_115 rfl rfl ?_
    refine go_if_eq (p := 123) (p2 := 132) hf_115 rfl rfl rfl (fun h120 => ?_) (fun h120 => ?_)
    · refine go_iconst (p := 133) hf_115 rfl rfl ci_0 ?_
      exact k133 _ (bI_f (fun q => q.elim (fun q => bI_0.mp h115 q) (fun q => bI_0.mp h120 q.1))).symm
    · refine go_il5 (p := 125) hf_115 rfl rfl ?_
      refine go_if_eq (p := 128) (p2 := 132) hf_115 rfl rfl rfl (fun h125 => ?_) (fun h125 => ?_)
      · refine go_iconst (p := 133) hf_115 rfl rfl ci_0 ?_
        exact k133 _ (bI_f (fun q => q.elim (fun q => bI_0.mp h115 q) (fun q => bI_0.mp h125 q.2))).symm
      · refine go_iconst (p := 129) hf_115 rfl rfl ci_1 ?_
        refine go_goto (p2 := 133) hf_115 rfl rfl ?_
        exact k133 _ (bI_t (Or.inr ⟨bI_n0.mp h120, bI_n0.mp h125⟩)).symm
theorem r_spU {X : Nat × (Nat → Int32)} {d lw : Nat} {J : sm_J} {rc rs : Nat} {Qz : sm_O → sm_H → Prop} {r : Int32} {M : sm_M} {g0 : Nat → Int32} (hq : rq M K A B N) (hW : WT K A B N) : ∀ (n t : Nat) (M2 : sm_M) (y4 y5 y6 y7 y8 : Option Value), t + n = N → gr K A B N g0 (M2 45) → (∀ p, p ≠ 45 → M2 p = M p) → (¬ Chg N g0 (M2 45) → ∀ i, i < t → apt K A B (M2 45) i ∧ tgt K A B (M2 45) i) → (∀ (M3 : sm_M) (y4 y5 y6 y7 y8 : Option Value), gr K A B N g0 (M3 45) → (∀ p, p ≠ 45 → M3 p = M p) → (¬ Chg N g0 (M3 45) → Cl K A B N (fun i => M3 45 i = 1)) → sm_wp tb_T X tb_ok d lw 115 310 [some (.ref 40), some (.int (bI (Chg N g0 (M3 45)))), some (.int r), some (.int (nI N)), y4, y5, y6, y7, y8] [] (wSH, M3, J, rc, rs) Qz) → sm_wp tb_T X tb_ok d lw 115 65 [some (.ref 40), some (.int (bI (Chg N g0 (M2 45)))), some (.int r), some (.int (nI t)), y4, y5, y6, y7, y8] [] (wSH, M2, J, rc, rs) Qz := by
  have hN := hq.2.1
  intro n
  induction n with
  | zero =>
    intro t M2 y4 y5 y6 y7 y8 htn hg f2 hc k
    have e16 : M2 40 1 = nI N := by rw [f2 40 (by omega)]; exact hq.1
    have htN : t = N := by omega
    subst htN
    refine go_il3 (p := 66) hf_115 rfl rfl ?_
    refine go_al0 (p := 67) hf_115 rfl rfl ?_
    refine go_get (p := 70) hf_115 ho_115 rfl fl_6_81 rfl (by first | with_reducible assumption | rfl) rfl e16 ?_
    first | refine go_nn_ge (p := 73) (p2 := 310) hf_115 rfl rfl rfl (by omega) (by omega) (fun h70 => ?_) (fun h70 => absurd (Nat.le_refl _) h70) | refine go_ic_ge (p := 73) (p2 := 310) hf_115 rfl rfl rfl (fun h70 => ?_) (fun h70 => absurd (Nat.le_refl _) h70)
    exact k M2 _ _ _ _ _ hg f2 (fun h => Cl_of (fun i hi => (hc h i hi).1) (fun i hi => (hc h i hi).2))
  | succ n ih =>
    intro t M2 y4 y5 y6 y7 y8 htn hg f2 hc k
    have e16 : M2 40 1 = nI N := by rw [f2 40 (by omega)]; exact hq.1
    have htN : t < N := by omega
    have q2 : rq M2 K A B N := rq_keep hq (by rw [f2 40 (by omega)]) (fun p j h1 h2 => by rw [f2 p (by omega)])
    have nx : ∀ (M3 : sm_M) (y4 y5 y6 y7 y8 : Option Value), gr K A B N (M2 45) (M3 45) → (∀ p, p ≠ 45 → M3 p = M2 p) → apt K A B (M3 45) t → tgt K A B (M3 45) t → sm_wp tb_T X tb_ok d lw 115 304 [some (.ref 40), some (.int (bI (Chg N g0 (M2 45) ∨ Chg N (M2 45) (M3 45)))), some (.int r), some (.int (nI t)), y4, y5, y6, y7, y8] [] (wSH, M3, J, rc, rs) Qz := by
      intro M3 y4 y5 y6 y7 y8 hg3 f3 ha3 ht3
      rw [← Chg_tr hg.1 hg3.1]
      refine go_ic3 (p := 307) hf_115 rfl rfl (by first | exact inc1 _ | exact rfl) ?_
      refine go_goto (p2 := 65) hf_115 rfl rfl ?_
      refine ih (t + 1) M3 _ _ _ _ _ (by omega) (gr_tr hg hg3) (fun p hp => (f3 p hp).trans (f2 p hp)) (fun h i hi => ?_) k
      have h' : ¬ Chg N g0 (M2 45) ∧ ¬ Chg N (M2 45) (M3 45) := by
        rw [Chg_tr hg.1 hg3.1] at h
        exact ⟨fun q => h (Or.inl q), fun q => h (Or.inr q)⟩
      have e := Chg_no hg3.1 h'.2
      by_cases hit : i = t
      · subst hit; exact ⟨ha3, ht3⟩
      · exact ⟨apt_congr (by omega) e (hc h'.1 i (by omega)).1, tgt_congr (by omega) e (hc h'.1 i (by omega)).2⟩
    have eK : M2 41 t = K t := by rw [f2 41 (by omega), hq.2.2.1]
    rcases hW t htN with ⟨hk, -⟩ | ⟨kk, a, b, hk2, hk5, hK, ha, hb, hA, hB⟩
    · have hs1 : apt K A B (M2 45) t := fun a b _ _ _ _ => by
        rcases hk with hk | hk
        · rw [hk]; exact ⟨fun e => absurd e (by decide), fun e => absurd e (by decide)⟩
        · rw [hk]; exact ⟨fun e => absurd e (by decide), fun e => absurd e (by decide)⟩
      have hs2 : tgt K A B (M2 45) t := fun a b _ _ _ _ k0 k1 => by
        rcases hk with hk | hk
        · exact absurd hk k0
        · exact absurd hk k1
      have es : bI (Chg N g0 (M2 45)) = bI (Chg N g0 (M2 45) ∨ Chg N (M2 45) (M2 45)) := bI_congr ⟨Or.inl, fun q => q.elim id (fun q => absurd q Chg_rf)⟩
      rw [es]
      refine go_il3 (p := 66) hf_115 rfl rfl ?_
      refine go_al0 (p := 67) hf_115 rfl rfl ?_
      refine go_get (p := 70) hf_115 ho_115 rfl fl_6_81 rfl (by first | with_reducible assumption | rfl) rfl e16 ?_
      first | refine go_nn_ge (p := 73) (p2 := 310) hf_115 rfl rfl rfl (by omega) (by omega) (fun h70 => absurd h70 (by omega)) (fun h70 => ?_) | refine go_ic_ge (p := 73) (p2 := 310) hf_115 rfl rfl rfl (fun h70 => absurd h70 (by omega)) (fun h70 => ?_)
      refine go_al0 (p := 74) hf_115 rfl rfl ?_
      refine go_getr (p := 77) hf_115 ho_115 rfl fl_6_7 rfl (by first | with_reducible assumption | rfl) rfl ?_
      refine go_il3 (p := 78) hf_115 rfl rfl ?_
      refine go_iald (p := 79) hf_115 rfl rfl (by first | with_reducible assumption | rfl) (by first | rfl | with_reducible assumption) (by first | exact rfl | with_reducible assumption) (by omega) eK ?_
      refine go_iconst (p := 80) hf_115 rfl rfl ci_1 ?_
      refine go_ic_le (p := 83) (p2 := 304) hf_115 rfl rfl rfl (fun h80 => ?_) (fun h80 => absurd (by rcases hk with hk | hk <;> rw [hk] <;> decide) h80)
      exact nx M2 _ _ _ _ _ (gr_rf hg.2.1) (fun _ _ => rfl) hs1 hs2
    · rw [hK] at eK
      refine go_il3 (p := 66) hf_115 rfl rfl ?_
      refine go_al0 (p := 67) hf_115 rfl rfl ?_
      refine go_get (p := 70) hf_115 ho_115 rfl fl_6_81 rfl (by first | with_reducible assumption | rfl) rfl e16 ?_
      first | refine go_nn_ge (p := 73) (p2 := 310) hf_115 rfl rfl rfl (by omega) (by omega) (fun h70 => absurd h70 (by omega)) (fun h70 => ?_) | refine go_ic_ge (p := 73) (p2 := 310) hf_115 rfl rfl rfl (fun h70 => absurd h70 (by omega)) (fun h70 => ?_)
      refine go_al0 (p := 74) hf_115 rfl rfl ?_
      refine go_getr (p := 77) hf_115 ho_115 rfl fl_6_7 rfl (by first | with_reducible assumption | rfl) rfl ?_
      refine go_il3 (p := 78) hf_115 rfl rfl ?_
      refine go_iald (p := 79) hf_115 rfl rfl (by first | with_reducible assumption | rfl) (by first | rfl | with_reducible assumption) (by first | exact rfl | with_reducible assumption) (by omega) eK ?_
      refine go_iconst (p := 80) hf_115 rfl rfl ci_1 ?_
      first | refine go_nn_le (p := 83) (p2 := 304) hf_115 rfl rfl rfl (by omega) (by omega) (fun h80 => absurd h80 (by omega)) (fun h80 => ?_) | refine go_ic_le (p := 83) (p2 := 304) hf_115 rfl rfl rfl (fun h80 => absurd h80 (by omega)) (fun h80 => ?_)
      exact r_spB q2 hg.2.1 htN hK hk2 hk5 ha hb hA hB (fun M3 h1 h2 h3 h4 y4 y5 y6 y7 y8 => nx M3 _ _ _ _ _ h1 h2 h3 h4)
theorem r_spread {M : sm_M} (hq : rq M K A B N) (hW : WT K A B N) (h01 : ∀ i, i < N → M 44 i = 0 ∨ M 44 i = 1) : cr 115 0 0 [.ref 40] M (fun v M1 => v = none ∧ (∀ i, i < N → M1 45 i = bI (Dv K A B N (fun j => M 44 j = 1 ∨ K j = nI 1) i)) ∧ ∀ p, p ≠ 45 → M1 p = M p) := by
  intro X J rc rs d lw hd hw
  show sm_wp tb_T X tb_ok d lw 115 0 [some (.ref 40), none, none, none, none, none, none, none, none] [] _ _
  have hN := hq.2.1
  have rounds : ∀ (g0 : Nat → Int32), (∀ i, i < N → g0 i = bI (M 44 i = 1 ∨ K i = nI 1)) → ∀ (n r : Nat) (M2 : sm_M) (m : Int32) (y3 y4 y5 y6 y7 y8 : Option Value), r + n = 1000 → gr K A B N g0 (M2 45) → (∀ p, p ≠ 45 → M2 p = M p) → ((m = nI 0 ∧ Cl K A B N (fun i => M2 45 i = 1)) ∨ (m = nI 1 ∧ r ≤ cnt (M2 45) N)) → sm_wp tb_T X tb_ok d lw 115 50 [some (.ref 40), some (.int m), some (.int (nI r)), y3, y4, y5, y6, y7, y8] [] (wSH, M2, J, rc, rs) (fun o h' => ∃ v M1, o = .inl v ∧ h' = (wSH, M1, J, rc, rs) ∧ v = none ∧ (∀ i, i < N → M1 45 i = bI (Dv K A B N (fun j => M 44 j = 1 ∨ K j = nI 1) i)) ∧ ∀ p, p ≠ 45 → M1 p = M p) := by
    intro g0 hg0
    have fin : ∀ M2 : sm_M, gr K A B N g0 (M2 45) → Cl K A B N (fun i => M2 45 i = 1) → ∀ i, i < N → M2 45 i = bI (Dv K A B N (fun j => M 44 j = 1 ∨ K j = nI 1) i) := fun M2 hg hc i hi => by
      rw [gr_fin hg hc i hi]
      apply bI_congr
      apply Dv_congr
      intro j hj
      rw [hg0 j hj, bI_1]
    intro n
    induction n with
    | zero =>
      intro r M2 m y3 y4 y5 y6 y7 y8 hr hg f2 hm
      refine go_il2 (p := 51) hf_115 rfl rfl ?_
      refine go_sipush (p := 54) hf_115 rfl rfl cs_1000 ?_
      first | refine go_nn_ge (p := 57) (p2 := 316) hf_115 rfl rfl rfl (by omega) (by omega) (fun h54 => ?_) (fun h54 => absurd (by omega) h54) | refine go_ic_ge (p := 57) (p2 := 316) hf_115 rfl rfl rfl (fun h54 => ?_) (fun h54 => absurd (by omega) h54)
      refine go_ret0 hf_115 rfl nl_115 ?_
      rcases hm with ⟨-, hm⟩ | ⟨-, hm⟩
      · exact ⟨_, _, rfl, rfl, rfl, fin M2 hg hm, f2⟩
      · have := cnt_le (g := M2 45) N
        omega
    | succ n ih =>
      intro r M2 m y3 y4 y5 y6 y7 y8 hr hg f2 hm
      rcases hm with ⟨rfl, hm⟩ | ⟨rfl, hm⟩
      · skip
        refine go_il2 (p := 51) hf_115 rfl rfl ?_
        refine go_sipush (p := 54) hf_115 rfl rfl cs_1000 ?_
        first | refine go_nn_ge (p := 57) (p2 := 316) hf_115 rfl rfl rfl (by omega) (by omega) (fun h54 => absurd h54 (by omega)) (fun h54 => ?_) | refine go_ic_ge (p := 57) (p2 := 316) hf_115 rfl rfl rfl (fun h54 => absurd h54 (by omega)) (fun h54 => ?_)
        refine go_il1 (p := 58) hf_115 rfl rfl ?_
        refine go_if_eq (p := 61) (p2 := 316) hf_115 rfl rfl rfl (fun h58 => ?_) (fun h58 => absurd rfl h58)
        refine go_ret0 hf_115 rfl nl_115 ?_
        exact ⟨_, _, rfl, rfl, rfl, fin M2 hg hm, f2⟩
      · have q2 : rq M2 K A B N := rq_keep hq (by rw [f2 40 (by omega)]) (fun p j h1 h2 => by rw [f2 p (by omega)])
        refine go_il2 (p := 51) hf_115 rfl rfl ?_
        refine go_sipush (p := 54) hf_115 rfl rfl cs_1000 ?_
        first | refine go_nn_ge (p := 57) (p2 := 316) hf_115 rfl rfl rfl (by omega) (by omega) (fun h54 => absurd h54 (by omega)) (fun h54 => ?_) | refine go_ic_ge (p := 57) (p2 := 316) hf_115 rfl rfl rfl (fun h54 => absurd h54 (by omega)) (fun h54 => ?_)
        refine go_il1 (p := 58) hf_115 rfl rfl ?_
        refine go_if_eq (p := 61) (p2 := 316) hf_115 rfl rfl rfl (fun h58 => absurd h58 nI_10) (fun h58 => ?_)
        refine go_iconst (p := 62) hf_115 rfl rfl ci_0 ?_
        refine go_is1 (p := 63) hf_115 rfl rfl ?_
        refine go_iconst (p := 64) hf_115 rfl rfl ci_0 ?_
        refine go_is3 (p := 65) hf_115 rfl rfl ?_
        have e0 : nI 0 = bI (Chg N (M2 45) (M2 45)) := (bI_f Chg_rf).symm
        rw [show ([some (.ref 40), some (.int (nI 0)), some (.int (nI r)), some (.int (nI 0)), y4, y5, y6, y7, y8] : sm_L) = [some (.ref 40), some (.int (bI (Chg N (M2 45) (M2 45)))), some (.int (nI r)), some (.int (nI 0)), y4, y5, y6, y7, y8] from by rw [← e0]]
        refine r_spU q2 hW N 0 M2 _ _ _ _ _ (by omega) (gr_rf hg.2.1) (fun _ _ => rfl) (fun _ i h2 => absurd h2 (Nat.not_lt_zero i)) (fun M4 y4 y5 y6 y7 y8 g4 f4 c4 => ?_)
        refine go_ic2 (p := 313) hf_115 rfl rfl (by first | exact inc1 _ | exact rfl) ?_
        refine go_goto (p2 := 50) hf_115 rfl rfl ?_
        refine ih (r + 1) M4 _ _ _ _ _ _ _ (by omega) (gr_tr hg g4) (fun p hp => (f4 p hp).trans (f2 p hp)) ?_
        by_cases hC : Chg N (M2 45) (M4 45)
        · right
          have := cnt_lt g4.1 N hC
          exact ⟨bI_t hC, by omega⟩
        · exact Or.inl ⟨bI_f hC, c4 hC⟩
  have init : ∀ (n t : Nat) (M2 : sm_M), t + n = N → (∀ i, i < t → M2 45 i = bI (M 44 i = 1 ∨ K i = nI 1)) → (∀ p, p ≠ 45 → M2 p = M p) → sm_wp tb_T X tb_ok d lw 115 2 [some (.ref 40), some (.int (nI t)), none, none, none, none, none, none, none] [] (wSH, M2, J, rc, rs) (fun o h' => ∃ v M1, o = .inl v ∧ h' = (wSH, M1, J, rc, rs) ∧ v = none ∧ (∀ i, i < N → M1 45 i = bI (Dv K A B N (fun j => M 44 j = 1 ∨ K j = nI 1) i)) ∧ ∀ p, p ≠ 45 → M1 p = M p) := by
    intro n
    induction n with
    | zero =>
      intro t M2 htn hi f2
      have e16 : M2 40 1 = nI N := by rw [f2 40 (by omega)]; exact hq.1
      have htN : t = N := by omega
      subst htN
      refine go_il1 (p := 3) hf_115 rfl rfl ?_
      refine go_al0 (p := 4) hf_115 rfl rfl ?_
      refine go_get (p := 7) hf_115 ho_115 rfl fl_6_81 rfl (by first | with_reducible assumption | rfl) rfl e16 ?_
      first | refine go_nn_ge (p := 10) (p2 := 46) hf_115 rfl rfl rfl (by omega) (by omega) (fun h7 => ?_) (fun h7 => absurd (Nat.le_refl _) h7) | refine go_ic_ge (p := 10) (p2 := 46) hf_115 rfl rfl rfl (fun h7 => ?_) (fun h7 => absurd (Nat.le_refl _) h7)
      refine go_iconst (p := 47) hf_115 rfl rfl ci_1 ?_
      refine go_is1 (p := 48) hf_115 rfl rfl ?_
      refine go_iconst (p := 49) hf_115 rfl rfl ci_0 ?_
      refine go_is2 (p := 50) hf_115 rfl rfl ?_
      exact rounds (M2 45) hi 1000 0 M2 _ _ _ _ _ _ _ (by omega) (gr_rf (fun i h => by rw [hi i h]; exact bI_01)) f2 (Or.inr ⟨rfl, by omega⟩)
    | succ n ih =>
      intro t M2 htn hi f2
      have e16 : M2 40 1 = nI N := by rw [f2 40 (by omega)]; exact hq.1
      have e44 : M2 44 t = M 44 t := by rw [f2 44 (by omega)]
      have eK : M2 41 t = K t := by rw [f2 41 (by omega), hq.2.2.1]
      have k39 : ∀ x, x = bI (M 44 t = 1 ∨ K t = nI 1) → sm_wp tb_T X tb_ok d lw 115 39 [some (.ref 40), some (.int (nI t)), none, none, none, none, none, none, none] [.int x, .int (nI t), .ref 45] (wSH, M2, J, rc, rs) (fun o h' => ∃ v M1, o = .inl v ∧ h' = (wSH, M1, J, rc, rs) ∧ v = none ∧ (∀ i, i < N → M1 45 i = bI (Dv K A B N (fun j => M 44 j = 1 ∨ K j = nI 1) i)) ∧ ∀ p, p ≠ 45 → M1 p = M p) := by
        intro x hx
        refine go_bast (p := 40) hf_115 rfl rfl (by first | with_reducible assumption | rfl) (by first | rfl | with_reducible assumption) (by first | exact rfl | with_reducible assumption) (by omega) (hx ▸ bI_01) ?_
        refine go_ic1 (p := 43) hf_115 rfl rfl (by first | exact inc1 _ | exact rfl) ?_
        refine go_goto (p2 := 2) hf_115 rfl rfl ?_
        refine ih (t + 1) _ (by omega) (fun i hi2 => ?_) (fun p hp => by unfold sm_up; rw [if_neg hp]; exact f2 p hp)
        by_cases e : i = t
        · subst e; rw [up_s]; exact hx
        · rw [up_i e]; exact hi i (by omega)
      refine go_il1 (p := 3) hf_115 rfl rfl ?_
      refine go_al0 (p := 4) hf_115 rfl rfl ?_
      refine go_get (p := 7) hf_115 ho_115 rfl fl_6_81 rfl (by first | with_reducible assumption | rfl) rfl e16 ?_
      first | refine go_nn_ge (p := 10) (p2 := 46) hf_115 rfl rfl rfl (by omega) (by omega) (fun h7 => absurd h7 (by omega)) (fun h7 => ?_) | refine go_ic_ge (p := 10) (p2 := 46) hf_115 rfl rfl rfl (fun h7 => absurd h7 (by omega)) (fun h7 => ?_)
      refine go_al0 (p := 11) hf_115 rfl rfl ?_
      refine go_getr (p := 14) hf_115 ho_115 rfl fl_6_23 rfl (by first | with_reducible assumption | rfl) rfl ?_
      refine go_il1 (p := 15) hf_115 rfl rfl ?_
      refine go_al0 (p := 16) hf_115 rfl rfl ?_
      refine go_getr (p := 19) hf_115 ho_115 rfl fl_6_19 rfl (by first | with_reducible assumption | rfl) rfl ?_
      refine go_il1 (p := 20) hf_115 rfl rfl ?_
      refine go_bald (p := 21) hf_115 rfl rfl (by first | with_reducible assumption | rfl) (by first | rfl | with_reducible assumption) (by first | exact rfl | with_reducible assumption) (by omega) e44 ?_
      refine go_if_ne (p := 24) (p2 := 34) hf_115 rfl rfl rfl (fun h21 => ?_) (fun h21 => ?_)
      · refine go_iconst (p := 35) hf_115 rfl rfl ci_1 ?_
        refine go_goto (p2 := 39) hf_115 rfl rfl ?_
        exact k39 _ (bI_t (Or.inl (n01 (h01 t (by omega)) h21))).symm
      · refine go_al0 (p := 25) hf_115 rfl rfl ?_
        refine go_getr (p := 28) hf_115 ho_115 rfl fl_6_7 rfl (by first | with_reducible assumption | rfl) rfl ?_
        refine go_il1 (p := 29) hf_115 rfl rfl ?_
        refine go_iald (p := 30) hf_115 rfl rfl (by first | with_reducible assumption | rfl) (by first | rfl | with_reducible assumption) (by first | exact rfl | with_reducible assumption) (by omega) eK ?_
        refine go_iconst (p := 31) hf_115 rfl rfl ci_1 ?_
        refine go_ic_ne (p := 34) (p2 := 38) hf_115 rfl rfl rfl (fun h31 => ?_) (fun h31 => ?_)
        · refine go_iconst (p := 39) hf_115 rfl rfl ci_0 ?_
          exact k39 _ (bI_f (fun q => q.elim (fun q => z01 h21 q) (fun q => h31 q))).symm
        · refine go_iconst (p := 35) hf_115 rfl rfl ci_1 ?_
          refine go_goto (p2 := 39) hf_115 rfl rfl ?_
          exact k39 _ (bI_t (Or.inr h31)).symm
  refine go_iconst (p := 1) hf_115 rfl rfl ci_0 ?_
  refine go_is1 (p := 2) hf_115 rfl rfl ?_
  exact init N 0 M (by omega) (fun i hi => absurd hi (Nat.not_lt_zero i)) (fun _ _ => rfl)
theorem r_isKnown {M : sm_M} {t : Int32} (hq : rq M K A B N) (hW : WT K A B N) (h01 : ∀ i, i < N → M 44 i = 0 ∨ M 44 i = 1) : cr 113 1 28 [.ref 40, .int t] M (fun v M1 => v = some (.int (bI (∃ k, k < N ∧ t = nI k ∧ Dv K A B N (fun j => M 44 j = 1 ∨ K j = nI 1) k))) ∧ ∀ p, p ≠ 45 → M1 p = M p) := by
  intro X J rc rs d lw hd hw
  show sm_wp tb_T X tb_ok d lw 113 0 [some (.ref 40), some (.int t)] [] _ _
  have hN := hq.2.1
  refine go_al0 (p := 1) hf_113 rfl rfl ?_
  refine go_il1 (p := 2) hf_113 rfl rfl ?_
  refine go_cw2 (p := 5) hf_113 rfl rfl (inv_v ho_113 cl_6_188) (by decide) nl_114 rfl rfl (by first | rfl | exact rcv_of (by with_reducible assumption)) rfl rfl rfl (by omega) (by omega) (c_isTerm hq.1) ?_
  intro v9 M9 h9
  rewrite [h9.1, h9.2]
  clear h9 v9 M9
  simp only [Option.toList, List.cons_append, List.nil_append]
  refine go_if_ne (p := 8) (p2 := 10) hf_113 rfl rfl rfl (fun h5 => ?_) (fun h5 => ?_)
  · obtain ⟨k, hk, rfl⟩ := (below_iff (by omega)).mp (bI_n0.mp h5)
    refine go_al0 (p := 11) hf_113 rfl rfl ?_
    refine go_cw1 (p := 14) hf_113 rfl rfl (inv_v ho_113 cl_6_191) (by decide) nl_115 rfl rfl (by first | rfl | exact rcv_of (by with_reducible assumption)) rfl rfl rfl (by omega) (by omega) (r_spread hq hW h01) ?_
    rintro v9 M9 ⟨rfl, g1, g2⟩
    simp only [Option.toList, List.cons_append, List.nil_append]
    refine go_al0 (p := 15) hf_113 rfl rfl ?_
    refine go_getr (p := 18) hf_113 ho_113 rfl fl_6_23 rfl (by first | with_reducible assumption | rfl) rfl ?_
    refine go_il1 (p := 19) hf_113 rfl rfl ?_
    refine go_bald (p := 20) hf_113 rfl rfl (by first | with_reducible assumption | rfl) (by first | rfl | with_reducible assumption) (by first | exact rfl | with_reducible assumption) (by omega) (g1 k hk) ?_
    refine go_ret2 hf_113 rfl nl_113 bI_01 ?_
    refine ⟨_, _, rfl, rfl, ?_, g2⟩
    rw [bI_congr]
    constructor
    · intro h; exact ⟨k, hk, rfl, h⟩
    · rintro ⟨k', hk', e, h⟩
      rw [(nI_eq (by omega) (by omega)).mp e]
      exact h
  · refine go_iconst (p := 9) hf_113 rfl rfl ci_0 ?_
    refine go_ret2 hf_113 rfl nl_113 (Or.inl rfl) ?_
    exact ⟨_, _, rfl, rfl, by rw [bI_f (fun ⟨k, hk, e, _⟩ => bI_0.mp h5 ((below_iff (by omega)).mpr ⟨k, hk, e⟩))], fun _ _ => rfl⟩
theorem vt_lt {t : Int32} (hN : N ≤ 900) (h : vt N t) : (t < 0 → ∀ j, j < N → ¬ t = nI j) ∧ (¬ t < 0 → ∃ j, j < N ∧ t = nI j) := by
  rcases h with rfl | ⟨j, hj, rfl⟩
  · exact ⟨fun _ j hj e => absurd e.symm (nI_m1 (by omega)), fun h => absurd (by decide) h⟩
  · exact ⟨fun h => absurd h (nI_pos (by omega)), fun _ => ⟨j, hj, rfl⟩⟩
theorem r_send {M : sm_M} {ms : List (Int32 × Int32 × Int32 × Int32)} {k a b t : Int32} (hN : N ≤ 900) (hm : ml (M 40 20) (M 58) (M 59) (M 60) (M 61) ms) (hb : vt N b) (ht : vt N t) : cr 88 0 0 [.ref 40, .int k, .int a, .int b, .int t] M (fun v M1 => v = some (.int (bI (ms.length < 12))) ∧ ml (M1 40 20) (M1 58) (M1 59) (M1 60) (M1 61) (if ms.length < 12 then ms ++ [(k, a, b, t)] else ms) ∧ (∀ j, j < N → M1 44 j = if b = nI j ∨ t = nI j then nI 1 else M 44 j) ∧ ∀ p j, ¬ (p = 40 ∧ j = 20) → p ≠ 44 → (p < 58 ∨ 61 < p) → M1 p j = M p j) := by
  intro X J rc rs d lw hd hw
  show sm_wp tb_T X tb_ok d lw 88 0 [some (.ref 40), some (.int k), some (.int a), some (.int b), some (.int t)] [] _ _
  obtain ⟨b1, b2⟩ := vt_lt hN hb
  obtain ⟨t1, t2⟩ := vt_lt hN ht
  have k24 : ∀ M2 : sm_M, (∀ j, j < N → M2 44 j = if b = nI j ∨ t = nI j then nI 1 else M 44 j) → (∀ p, p ≠ 44 → M2 p = M p) → sm_wp tb_T X tb_ok d lw 88 24 [some (.ref 40), some (.int k), some (.int a), some (.int b), some (.int t)] [] (wSH, M2, J, rc, rs) (fun o h' => ∃ v M1, o = .inl v ∧ h' = (wSH, M1, J, rc, rs) ∧ v = some (.int (bI (ms.length < 12))) ∧ ml (M1 40 20) (M1 58) (M1 59) (M1 60) (M1 61) (if ms.length < 12 then ms ++ [(k, a, b, t)] else ms) ∧ (∀ j, j < N → M1 44 j = if b = nI j ∨ t = nI j then nI 1 else M 44 j) ∧ ∀ p j, ¬ (p = 40 ∧ j = 20) → p ≠ 44 → (p < 58 ∨ 61 < p) → M1 p j = M p j) := by
    intro M2 h44 f2
    have e20 : M2 40 20 = nI ms.length := by rw [f2 40 (by omega)]; exact hm.1
    have h12 := hm.2.1
    have hm2 : ml (M2 40 20) (M2 58) (M2 59) (M2 60) (M2 61) ms := by
      rw [f2 40 (by omega), f2 58 (by omega), f2 59 (by omega), f2 60 (by omega), f2 61 (by omega)]
      exact hm
    refine go_al0 (p := 25) hf_88 rfl rfl ?_
    refine go_get (p := 28) hf_88 ho_88 rfl fl_6_145 rfl (by first | with_reducible assumption | rfl) rfl e20 ?_
    refine go_bipush (p := 30) hf_88 rfl rfl cb_12 ?_
    first | refine go_nn_ne (p := 33) (p2 := 35) hf_88 rfl rfl rfl (by omega) (by omega) (fun h30 => ?_) (fun h30 => ?_) | refine go_ic_ne (p := 33) (p2 := 35) hf_88 rfl rfl rfl (fun h30 => ?_) (fun h30 => ?_)
    · refine go_al0 (p := 36) hf_88 rfl rfl ?_
      refine go_getr (p := 39) hf_88 ho_88 rfl fl_6_62 rfl (by first | with_reducible assumption | rfl) rfl ?_
      refine go_al0 (p := 40) hf_88 rfl rfl ?_
      refine go_get (p := 43) hf_88 ho_88 rfl fl_6_145 rfl (by first | with_reducible assumption | rfl) rfl e20 ?_
      refine go_il1 (p := 44) hf_88 rfl rfl ?_
      refine go_iast (p := 45) hf_88 rfl rfl (by first | with_reducible assumption | rfl) (by first | rfl | with_reducible assumption) (by first | exact rfl | with_reducible assumption) (by omega) ?_
      refine go_al0 (p := 46) hf_88 rfl rfl ?_
      refine go_getr (p := 49) hf_88 ho_88 rfl fl_6_65 rfl (by first | with_reducible assumption | rfl) rfl ?_
      refine go_al0 (p := 50) hf_88 rfl rfl ?_
      refine go_get (p := 53) hf_88 ho_88 rfl fl_6_145 rfl (by first | with_reducible assumption | rfl) rfl ((up_k (by omega)).trans e20) ?_
      refine go_il2 (p := 54) hf_88 rfl rfl ?_
      refine go_iast (p := 55) hf_88 rfl rfl (by first | with_reducible assumption | rfl) (by first | rfl | with_reducible assumption) (by first | exact rfl | with_reducible assumption) (by omega) ?_
      refine go_al0 (p := 56) hf_88 rfl rfl ?_
      refine go_getr (p := 59) hf_88 ho_88 rfl fl_6_68 rfl (by first | with_reducible assumption | rfl) rfl ?_
      refine go_al0 (p := 60) hf_88 rfl rfl ?_
      refine go_get (p := 63) hf_88 ho_88 rfl fl_6_145 rfl (by first | with_reducible assumption | rfl) rfl ((up_k (by omega)).trans ((up_k (by omega)).trans e20)) ?_
      refine go_il3 (p := 64) hf_88 rfl rfl ?_
      refine go_iast (p := 65) hf_88 rfl rfl (by first | with_reducible assumption | rfl) (by first | rfl | with_reducible assumption) (by first | exact rfl | with_reducible assumption) (by omega) ?_
      refine go_al0 (p := 66) hf_88 rfl rfl ?_
      refine go_getr (p := 69) hf_88 ho_88 rfl fl_6_71 rfl (by first | with_reducible assumption | rfl) rfl ?_
      refine go_al0 (p := 70) hf_88 rfl rfl ?_
      refine go_get (p := 73) hf_88 ho_88 rfl fl_6_145 rfl (by first | with_reducible assumption | rfl) rfl ((up_k (by omega)).trans ((up_k (by omega)).trans ((up_k (by omega)).trans e20))) ?_
      refine go_il4 (p := 75) hf_88 rfl rfl ?_
      refine go_iast (p := 76) hf_88 rfl rfl (by first | with_reducible assumption | rfl) (by first | rfl | with_reducible assumption) (by first | exact rfl | with_reducible assumption) (by omega) ?_
      refine go_al0 (p := 77) hf_88 rfl rfl ?_
      first | refine go_dup (p := 78) hf_88 rfl rfl ?_ | refine go_dupr (p := 78) hf_88 rfl rfl ?_
      refine go_get (p := 81) hf_88 ho_88 rfl fl_6_145 rfl (by first | with_reducible assumption | rfl) rfl ((up_k (by omega)).trans ((up_k (by omega)).trans ((up_k (by omega)).trans ((up_k (by omega)).trans e20)))) ?_
      refine go_iconst (p := 82) hf_88 rfl rfl ci_1 ?_
      refine go_iadd (p := 83) hf_88 rfl rfl (by first | with_reducible exact nI_add _ _ | exact rfl) ?_
      refine go_put (p := 86) hf_88 ho_88 rfl fl_6_145 rfl (by first | with_reducible assumption | rfl) rfl (Or.inl rfl) ?_
      refine go_iconst (p := 87) hf_88 rfl rfl ci_1 ?_
      refine go_ret2 hf_88 rfl nl_88 (by first | exact Or.inl rfl | exact Or.inr rfl | with_reducible assumption) ?_
      have hl : ms.length < 12 := by omega
      refine ⟨_, _, rfl, rfl, by rw [bI_t hl], ?_, fun j hj => ?_, fun p j h1 h2 h3 => ?_⟩
      · rw [if_pos hl]
        refine ml_snoc hm2 hl up_s (fun i hi => ⟨?_, ?_, ?_, ?_⟩) ⟨?_, ?_, ?_, ?_⟩
        · rw [up_k (by omega), up_k (by omega), up_k (by omega), up_k (by omega), up_i (by omega)]
        · rw [up_k (by omega), up_k (by omega), up_k (by omega), up_i (by omega), up_k (by omega)]
        · rw [up_k (by omega), up_k (by omega), up_i (by omega), up_k (by omega), up_k (by omega)]
        · rw [up_k (by omega), up_i (by omega), up_k (by omega), up_k (by omega), up_k (by omega)]
        · rw [up_k (by omega), up_k (by omega), up_k (by omega), up_k (by omega), up_s]
        · rw [up_k (by omega), up_k (by omega), up_k (by omega), up_s]
        · rw [up_k (by omega), up_k (by omega), up_s]
        · rw [up_k (by omega), up_s]
      · rw [up_k (by omega), up_k (by omega), up_k (by omega), up_k (by omega), up_k (by omega)]
        exact h44 j hj
      · rw [up_o (by omega), up_k (by omega), up_k (by omega), up_k (by omega), up_k (by omega), f2 p h2]
    · refine go_iconst (p := 34) hf_88 rfl rfl ci_0 ?_
      refine go_ret2 hf_88 rfl nl_88 (by first | exact Or.inl rfl | exact Or.inr rfl | with_reducible assumption) ?_
      refine ⟨_, _, rfl, rfl, by rw [bI_f (by omega)], ?_, h44, fun p j _ h2 _ => by rw [f2 p h2]⟩
      rw [if_neg (by omega)]
      exact hm2
  refine go_il3 (p := 1) hf_88 rfl rfl ?_
  refine go_if_lt (p := 4) (p2 := 11) hf_88 rfl rfl rfl (fun h1 => ?_) (fun h1 => ?_)
  · refine go_il4 (p := 13) hf_88 rfl rfl ?_
    refine go_if_lt (p := 16) (p2 := 24) hf_88 rfl rfl rfl (fun h13 => ?_) (fun h13 => ?_)
    · refine k24 _ (fun j hj => ?_) (fun _ _ => rfl)
      rw [if_neg (fun q => q.elim (b1 h1 j hj) (t1 h13 j hj))]
    · obtain ⟨jt, hjt, rfl⟩ := t2 h13
      refine go_al0 (p := 17) hf_88 rfl rfl ?_
      refine go_getr (p := 20) hf_88 ho_88 rfl fl_6_19 rfl (by first | with_reducible assumption | rfl) rfl ?_
      refine go_il4 (p := 22) hf_88 rfl rfl ?_
      refine go_iconst (p := 23) hf_88 rfl rfl ci_1 ?_
      refine go_bast (p := 24) hf_88 rfl rfl (by first | with_reducible assumption | rfl) (by first | rfl | with_reducible assumption) (by first | exact rfl | with_reducible assumption) (by omega) (by first | exact Or.inl rfl | exact Or.inr rfl | with_reducible assumption) ?_
      refine k24 _ (fun j hj => ?_) (fun p hp => by unfold sm_up; rw [if_neg hp])
      by_cases e : j = jt
      · subst e; rw [up_s, if_pos (Or.inr rfl)]
      · rw [up_i e, if_neg (fun q => q.elim (b1 h1 j hj) (fun q => e ((nI_eq (by omega) (by omega)).mp q).symm))]
  · obtain ⟨jb, hjb, rfl⟩ := b2 h1
    refine go_al0 (p := 5) hf_88 rfl rfl ?_
    refine go_getr (p := 8) hf_88 ho_88 rfl fl_6_19 rfl (by first | with_reducible assumption | rfl) rfl ?_
    refine go_il3 (p := 9) hf_88 rfl rfl ?_
    refine go_iconst (p := 10) hf_88 rfl rfl ci_1 ?_
    refine go_bast (p := 11) hf_88 rfl rfl (by first | with_reducible assumption | rfl) (by first | rfl | with_reducible assumption) (by first | exact rfl | with_reducible assumption) (by omega) (by first | exact Or.inl rfl | exact Or.inr rfl | with_reducible assumption) ?_
    refine go_il4 (p := 13) hf_88 rfl rfl ?_
    refine go_if_lt (p := 16) (p2 := 24) hf_88 rfl rfl rfl (fun h13 => ?_) (fun h13 => ?_)
    · refine k24 _ (fun j hj => ?_) (fun p hp => by unfold sm_up; rw [if_neg hp])
      by_cases e : j = jb
      · subst e; rw [up_s, if_pos (Or.inl rfl)]
      · rw [up_i e, if_neg (fun q => q.elim (fun q => e ((nI_eq (by omega) (by omega)).mp q).symm) (t1 h13 j hj))]
    · obtain ⟨jt, hjt, rfl⟩ := t2 h13
      refine go_al0 (p := 17) hf_88 rfl rfl ?_
      refine go_getr (p := 20) hf_88 ho_88 rfl fl_6_19 rfl (by first | with_reducible assumption | rfl) rfl ?_
      refine go_il4 (p := 22) hf_88 rfl rfl ?_
      refine go_iconst (p := 23) hf_88 rfl rfl ci_1 ?_
      refine go_bast (p := 24) hf_88 rfl rfl (by first | with_reducible assumption | rfl) (by first | rfl | with_reducible assumption) (by first | exact rfl | with_reducible assumption) (by omega) (by first | exact Or.inl rfl | exact Or.inr rfl | with_reducible assumption) ?_
      refine k24 _ (fun j hj => ?_) (fun p hp => by unfold sm_up; rw [if_neg hp, if_neg hp])
      by_cases e : j = jt
      · subst e; rw [up_s, if_pos (Or.inr rfl)]
      · rw [up_i e]
        by_cases e2 : j = jb
        · subst e2; rw [up_s, if_pos (Or.inl rfl)]
        · rw [up_i e2, if_neg (fun q => q.elim (fun q => e2 ((nI_eq (by omega) (by omega)).mp q).symm) (fun q => e ((nI_eq (by omega) (by omega)).mp q).symm))]
end CR
