/-! ===== reading seals: the reference ===== -/
def rq (M : sm_M) (K A B : Nat → Int32) (N : Nat) : Prop := M 40 1 = nI N ∧ N ≤ 900 ∧ M 41 = K ∧ M 42 = A ∧ M 43 = B
theorem rq_keep {M M2 : sm_M} {K A B : Nat → Int32} {N : Nat} (h : rq M K A B N) (h1 : M2 40 1 = M 40 1) (hk : ∀ p j, 41 ≤ p → p ≤ 43 → M2 p j = M p j) : rq M2 K A B N := by
  unfold rq
  rw [h1, show M2 41 = M 41 from funext fun j => hk 41 j (by omega) (by omega), show M2 42 = M 42 from funext fun j => hk 42 j (by omega) (by omega), show M2 43 = M 43 from funext fun j => hk 43 j (by omega) (by omega)]
  exact h
def fr2 (M1 M : sm_M) : Prop := ∀ p j, ¬ (p = 40 ∧ (j = 26 ∨ j = 27)) → M1 p j = M p j
theorem rq_fr {M M2 : sm_M} {K A B : Nat → Int32} {N : Nat} (h : rq M K A B N) (hf : fr2 M2 M) : rq M2 K A B N := rq_keep h (hf _ _ (by omega)) (fun p j _ _ => hf _ _ (by omega))
theorem fr2_tr {M M1 M2 : sm_M} (h : fr2 M2 M1) (h' : fr2 M1 M) : fr2 M2 M := fun p j hp => (h p j hp).trans (h' p j hp)
theorem fr2_27 {M : sm_M} {x : Int32} : fr2 (sm_up M 40 27 x) M := fun p j hp => up_o (by omega)
theorem fr2_26 {M : sm_M} {x : Int32} : fr2 (sm_up M 40 26 x) M := fun p j hp => up_o (by omega)
def vt (N : Nat) (r : Int32) : Prop := r = -1 ∨ ∃ j, j < N ∧ r = nI j
def WT (K A B : Nat → Int32) (N : Nat) : Prop := ∀ i, i < N → ((K i = nI 0 ∨ K i = nI 1) ∧ B i = -1 ∧ ∃ n, n < 1000 ∧ A i = nI n) ∨ ∃ kk a b, 2 ≤ kk ∧ kk ≤ 5 ∧ K i = nI kk ∧ a < i ∧ b < i ∧ A i = nI a ∧ B i = nI b
section RR
variable {K A B : Nat → Int32} {N : Nat}
theorem WT_2 {r : Int32} {k : Nat} (hW : WT K A B N) (hN : N ≤ 900) (hk : 2 ≤ k) (hk5 : k ≤ 5) (h : rdAt K N r = nI k) : ∃ j a b, j < N ∧ a < j ∧ b < j ∧ r = nI j ∧ K j = nI k ∧ A j = nI a ∧ B j = nI b ∧ rdAt A N r = nI a ∧ rdAt B N r = nI b := by
  obtain ⟨j, hj, rfl, e⟩ := rdAt_in (by omega) (nI_m1 (by omega)) h
  rcases hW j hj with ⟨g1, -⟩ | ⟨kk, a, b, g1, g2, g3, g4, g5, g6, g7⟩
  · exfalso
    rcases g1 with g1 | g1
    · rw [e, nI_eq (by omega) (by omega)] at g1; omega
    · rw [e, nI_eq (by omega) (by omega)] at g1; omega
  · exact ⟨j, a, b, hj, g4, g5, rfl, e, g6, g7, by rw [rdAt_t hj (by omega)]; exact g6, by rw [rdAt_t hj (by omega)]; exact g7⟩
theorem WT_0 {r : Int32} {k : Nat} (hW : WT K A B N) (hN : N ≤ 900) (hk : k ≤ 1) (h : rdAt K N r = nI k) : ∃ j n, j < N ∧ n < 1000 ∧ r = nI j ∧ K j = nI k ∧ A j = nI n ∧ rdAt A N r = nI n := by
  obtain ⟨j, hj, rfl, e⟩ := rdAt_in (by omega) (nI_m1 (by omega)) h
  rcases hW j hj with ⟨g1, g2, n, g3, g4⟩ | ⟨kk, a, b, g1, g2, g3, g4, g5, g6, g7⟩
  · exact ⟨j, n, hj, g3, rfl, e, g4, by rw [rdAt_t hj (by omega)]; exact g4⟩
  · exfalso
    rw [e, nI_eq (by omega) (by omega)] at g3
    omega
theorem tailF_1 {g b : Nat → Int32} : ∀ {n : Nat} {t : Int32}, tailF g b N (n + 1) t = tailF g b N 1 (tailF g b N n t) := by
  intro n
  induction n with
  | zero => intro t; rfl
  | succ n ih => intro t; rw [tailF_s, ih]; rfl
theorem tailF_2 {g b : Nat → Int32} {t : Int32} : tailF g b N 2 t = tailF g b N 1 (tailF g b N 1 t) := tailF_1 (n := 1)
theorem tailF_3 {g b : Nat → Int32} {t : Int32} : tailF g b N 3 t = tailF g b N 1 (tailF g b N 1 (tailF g b N 1 t)) := (tailF_1 (n := 2)).trans (congrArg _ tailF_2)
theorem val_iff {t : Int32} {k m : Nat} (hm : m < 2 ^ 31) : valF K A N t (nI k) = nI m ↔ rdAt K N t = nI k ∧ rdAt A N t = nI m := by
  unfold valF
  constructor
  · intro h
    by_cases hk : rdAt K N t = nI k
    · rw [if_pos hk] at h
      exact ⟨hk, h⟩
    · rw [if_neg hk] at h
      exact absurd h.symm (nI_m1 hm)
  · rintro ⟨h1, h2⟩
    rw [if_pos h1, h2]
theorem val_t {t : Int32} {k : Nat} (h : rdAt K N t = nI k) : valF K A N t (nI k) = rdAt A N t := if_pos h
theorem val_f {t : Int32} {k : Nat} (h : ¬ rdAt K N t = nI k) : valF K A N t (nI k) = -1 := if_neg h
theorem rd_m1 {g : Nat → Int32} : rdAt g N (-1) = -1 := rdAt_f (Or.inl (by decide))
theorem val_m1 {k : Nat} : valF K A N (-1) (nI k) = -1 := by
  unfold valF
  rw [rd_m1, rd_m1]
  split <;> rfl
theorem tail_t {t : Int32} (h : rdAt K N t = nI 4) : tailF K B N 1 t = rdAt B N t := by
  show tailF K B N 0 (if rdAt K N t = nI 4 then rdAt B N t else -1) = _
  rw [if_pos h]
  rfl
theorem tail_f {t : Int32} (h : ¬ rdAt K N t = nI 4) : tailF K B N 1 t = -1 := by
  show tailF K B N 0 (if rdAt K N t = nI 4 then rdAt B N t else -1) = _
  rw [if_neg h]
  rfl
theorem p_is {M : sm_M} {t : Int32} {kk : Nat} (h : rq M K A B N) (hk9 : kk < 100) (ht : vt N t) : cr 100 0 0 [.ref 40, .int t, .int (nI kk)] M (fun v M1 => v = some (.int (bI (rdAt K N t = nI kk))) ∧ M1 = M) := by
  obtain ⟨h1, h2, rfl, rfl, rfl⟩ := h
  exact c_is h2 hk9 ht
theorem r_part {M : sm_M} {r : Int32} {P : Prop} (hq : rq M K A B N) (hW : WT K A B N) (hg : M 40 27 = bI P) (hr : P → M 40 26 = r ∧ vt N r) : cr 102 1 22 [.ref 40] M (fun v M1 => ∃ u, v = some (.int u) ∧ M1 40 27 = bI (P ∧ rdAt K N r = nI 4) ∧ (P ∧ rdAt K N r = nI 4 → u = rdAt A N r ∧ M1 40 26 = rdAt B N r ∧ vt N (rdAt A N r) ∧ vt N (rdAt B N r)) ∧ (¬ (P ∧ rdAt K N r = nI 4) → u = -1) ∧ fr2 M1 M) := by
  intro X J rc rs d lw hd hw
  show sm_wp tb_T X tb_ok d lw 102 0 [some (.ref 40), none] [] _ _
  have hN := hq.2.1
  refine go_al0 (p := 1) hf_102 rfl rfl ?_
  refine go_al0 (p := 2) hf_102 rfl rfl ?_
  refine go_get (p := 5) hf_102 ho_102 rfl fl_6_122 rfl (by first | with_reducible assumption | rfl) rfl (by first | with_reducible assumption | ((repeat rewrite [up_k]) <;> first | with_reducible assumption | decide | omega) | exact rfl) ?_
  refine go_if_eq (p := 8) (p2 := 24) hf_102 rfl rfl rfl (fun h5 => ?_) (fun h5 => ?_)
  · refine go_iconst (p := 25) hf_102 rfl rfl ci_0 ?_
    refine go_put (p := 28) hf_102 ho_102 rfl fl_6_122 rfl (by first | with_reducible assumption | rfl) rfl (Or.inr ⟨rfl, (by first | exact Or.inl rfl | exact Or.inr rfl | with_reducible assumption)⟩) ?_
    refine go_al0 (p := 29) hf_102 rfl rfl ?_
    refine go_get (p := 32) hf_102 ho_102 rfl fl_6_122 rfl (by first | with_reducible assumption | rfl) rfl up_s ?_
    refine go_if_ne (p := 35) (p2 := 37) hf_102 rfl rfl rfl (fun h32 => absurd rfl h32) (fun h32 => ?_)
    refine go_iconst (p := 36) hf_102 rfl rfl ci_m1 ?_
    refine go_ret1 hf_102 rfl nl_102 ?_
    have hno : ¬ (P ∧ rdAt K N r = nI 4) := fun g => bI_0.mp h5 g.1
    refine ⟨_, _, rfl, rfl, _, rfl, ?_, fun g => absurd g hno, fun _ => rfl, fr2_27⟩
    rw [up_s, bI_f hno]
  · refine go_al0 (p := 9) hf_102 rfl rfl ?_
    refine go_al0 (p := 10) hf_102 rfl rfl ?_
    refine go_get (p := 13) hf_102 ho_102 rfl fl_6_125 rfl (by first | with_reducible assumption | rfl) rfl (hr (bI_n0.mp h5)).1 ?_
    refine go_iconst (p := 14) hf_102 rfl rfl ci_4 ?_
    refine go_cw3 (p := 17) hf_102 rfl rfl (inv_v ho_102 cl_6_128) (by decide) nl_100 rfl rfl (by first | rfl | exact rcv_of (by with_reducible assumption)) rfl rfl rfl (by omega) (by omega) (p_is hq (by omega) (hr (bI_n0.mp h5)).2) ?_
    intro v9 M9 h9
    rewrite [h9.1, h9.2]
    clear h9 v9 M9
    simp only [Option.toList, List.cons_append, List.nil_append]
    refine go_if_eq (p := 20) (p2 := 24) hf_102 rfl rfl rfl (fun h17 => ?_) (fun h17 => ?_)
    · refine go_iconst (p := 25) hf_102 rfl rfl ci_0 ?_
      refine go_put (p := 28) hf_102 ho_102 rfl fl_6_122 rfl (by first | with_reducible assumption | rfl) rfl (Or.inr ⟨rfl, (by first | exact Or.inl rfl | exact Or.inr rfl | with_reducible assumption)⟩) ?_
      refine go_al0 (p := 29) hf_102 rfl rfl ?_
      refine go_get (p := 32) hf_102 ho_102 rfl fl_6_122 rfl (by first | with_reducible assumption | rfl) rfl up_s ?_
      refine go_if_ne (p := 35) (p2 := 37) hf_102 rfl rfl rfl (fun h32 => absurd rfl h32) (fun h32 => ?_)
      refine go_iconst (p := 36) hf_102 rfl rfl ci_m1 ?_
      refine go_ret1 hf_102 rfl nl_102 ?_
      have hno : ¬ (P ∧ rdAt K N r = nI 4) := fun g => bI_0.mp h17 g.2
      refine ⟨_, _, rfl, rfl, _, rfl, ?_, fun g => absurd g hno, fun _ => rfl, fr2_27⟩
      rw [up_s, bI_f hno]
    · have hp := bI_n0.mp h5
      have hk := bI_n0.mp h17
      obtain ⟨j, a, b, hj, ha, hb, ej, eK, eA, eB, fA, fB⟩ := WT_2 hW hN (by omega) (by omega) hk
      have eR := (hr hp).1
      rw [ej] at eR
      rw [← hq.2.2.2.1] at eA
      rw [← hq.2.2.2.2] at eB
      refine go_iconst (p := 21) hf_102 rfl rfl ci_1 ?_
      refine go_goto (p2 := 25) hf_102 rfl rfl ?_
      refine go_put (p := 28) hf_102 ho_102 rfl fl_6_122 rfl (by first | with_reducible assumption | rfl) rfl (Or.inr ⟨rfl, (by first | exact Or.inl rfl | exact Or.inr rfl | with_reducible assumption)⟩) ?_
      refine go_al0 (p := 29) hf_102 rfl rfl ?_
      refine go_get (p := 32) hf_102 ho_102 rfl fl_6_122 rfl (by first | with_reducible assumption | rfl) rfl up_s ?_
      refine go_if_ne (p := 35) (p2 := 37) hf_102 rfl rfl rfl (fun h32 => ?_) (fun h32 => absurd h32 nI_10)
      refine go_al0 (p := 38) hf_102 rfl rfl ?_
      refine go_getr (p := 41) hf_102 ho_102 rfl fl_6_13 rfl (by first | with_reducible assumption | rfl) rfl ?_
      refine go_al0 (p := 42) hf_102 rfl rfl ?_
      refine go_get (p := 45) hf_102 ho_102 rfl fl_6_125 rfl (by first | with_reducible assumption | rfl) rfl ((up_i (by omega)).trans eR) ?_
      refine go_iald (p := 46) hf_102 rfl rfl (by first | with_reducible assumption | rfl) (by first | rfl | with_reducible assumption) (by first | exact rfl | with_reducible assumption) (by omega) ((up_k (by omega)).trans eA) ?_
      refine go_is1 (p := 47) hf_102 rfl rfl ?_
      refine go_al0 (p := 48) hf_102 rfl rfl ?_
      refine go_al0 (p := 49) hf_102 rfl rfl ?_
      refine go_getr (p := 52) hf_102 ho_102 rfl fl_6_16 rfl (by first | with_reducible assumption | rfl) rfl ?_
      refine go_al0 (p := 53) hf_102 rfl rfl ?_
      refine go_get (p := 56) hf_102 ho_102 rfl fl_6_125 rfl (by first | with_reducible assumption | rfl) rfl ((up_i (by omega)).trans eR) ?_
      refine go_iald (p := 57) hf_102 rfl rfl (by first | with_reducible assumption | rfl) (by first | rfl | with_reducible assumption) (by first | exact rfl | with_reducible assumption) (by omega) ((up_k (by omega)).trans eB) ?_
      refine go_put (p := 60) hf_102 ho_102 rfl fl_6_125 rfl (by first | with_reducible assumption | rfl) rfl (Or.inl rfl) ?_
      refine go_il1 (p := 61) hf_102 rfl rfl ?_
      refine go_ret1 hf_102 rfl nl_102 ?_
      refine ⟨_, _, rfl, rfl, _, rfl, ?_, fun _ => ⟨fA.symm, ?_, ?_, ?_⟩, fun g => absurd ⟨hp, hk⟩ g, fr2_tr fr2_26 fr2_27⟩
      · rw [up_i (by omega), up_s, bI_t ⟨hp, hk⟩]
      · rw [up_s, fB]
      · rw [fA]; exact Or.inr ⟨a, by omega, rfl⟩
      · rw [fB]; exact Or.inr ⟨b, by omega, rfl⟩
theorem r_figure {M : sm_M} {r : Int32} {P : Prop} {a b : Nat} (ha9 : a < 1000) (hb9 : b < 1000) (hq : rq M K A B N) (hW : WT K A B N) (hg : M 40 27 = bI P) (hr : P → M 40 26 = r ∧ vt N r) : cr 101 2 43 [.ref 40, .int (nI a), .int (nI b)] M (fun v M1 => ∃ u, v = some (.int u) ∧ M1 40 27 = bI (P ∧ ∃ n, a ≤ n ∧ n ≤ b ∧ num K A N (valF K A N r (nI 4)) = nI n) ∧ ((P ∧ ∃ n, a ≤ n ∧ n ≤ b ∧ num K A N (valF K A N r (nI 4)) = nI n) → u = num K A N (valF K A N r (nI 4)) ∧ M1 40 26 = tailF K B N 1 r ∧ vt N (tailF K B N 1 r)) ∧ fr2 M1 M) := by
  intro X J rc rs d lw hd hw
  show sm_wp tb_T X tb_ok d lw 101 0 [some (.ref 40), some (.int (nI a)), some (.int (nI b)), none] [] _ _
  have hN := hq.2.1
  refine go_al0 (p := 1) hf_101 rfl rfl ?_
  refine go_cw1 (p := 4) hf_101 rfl rfl (inv_v ho_101 cl_6_131) (by decide) nl_102 rfl rfl (by first | rfl | exact rcv_of (by with_reducible assumption)) rfl rfl rfl (by omega) (by omega) (r_part hq hW hg hr) ?_
  rintro v9 M9 ⟨u, rfl, g9, k9, -, f9⟩
  have q9 : rq M9 K A B N := rq_fr hq f9
  have hkd : (P ∧ ∃ n, a ≤ n ∧ n ≤ b ∧ num K A N (valF K A N r (nI 4)) = nI n) → rdAt K N r = nI 4 := by
    rintro ⟨-, n, -, h2, h3⟩
    by_cases hk : rdAt K N r = nI 4
    · exact hk
    · rw [val_f hk] at h3
      unfold num at h3
      rw [val_m1] at h3
      exact absurd h3.symm (nI_m1 (by omega))
  have hnu : (P ∧ ∃ n, a ≤ n ∧ n ≤ b ∧ num K A N (valF K A N r (nI 4)) = nI n) → rdAt K N u = nI 1 ∧ ∃ n, a ≤ n ∧ n ≤ b ∧ rdAt A N u = nI n := by
    intro hp
    have e := (k9 ⟨hp.1, hkd hp⟩).1
    have hk := hkd hp
    obtain ⟨-, n, h1, h2, h3⟩ := hp
    rw [val_t hk, ← e] at h3
    obtain ⟨e1, e2⟩ := (val_iff (by omega)).mp h3
    exact ⟨e1, n, h1, h2, e2⟩
  have k47 : ∀ x, x = bI (P ∧ ∃ n, a ≤ n ∧ n ≤ b ∧ num K A N (valF K A N r (nI 4)) = nI n) → sm_wp tb_T X tb_ok d lw 101 47 [some (.ref 40), some (.int (nI a)), some (.int (nI b)), some (.int u)] [.int x, .ref 40] (wSH, M9, J, rc, rs) (fun o h' => ∃ v M1, o = .inl v ∧ h' = (wSH, M1, J, rc, rs) ∧ ∃ u, v = some (.int u) ∧ M1 40 27 = bI (P ∧ ∃ n, a ≤ n ∧ n ≤ b ∧ num K A N (valF K A N r (nI 4)) = nI n) ∧ ((P ∧ ∃ n, a ≤ n ∧ n ≤ b ∧ num K A N (valF K A N r (nI 4)) = nI n) → u = num K A N (valF K A N r (nI 4)) ∧ M1 40 26 = tailF K B N 1 r ∧ vt N (tailF K B N 1 r)) ∧ fr2 M1 M) := by
    intro x hx
    refine go_put (p := 50) hf_101 ho_101 rfl fl_6_122 rfl (by first | with_reducible assumption | rfl) rfl (Or.inr ⟨rfl, (hx ▸ bI_01)⟩) ?_
    refine go_al0 (p := 51) hf_101 rfl rfl ?_
    refine go_get (p := 54) hf_101 ho_101 rfl fl_6_122 rfl (by first | with_reducible assumption | rfl) rfl up_s ?_
    refine go_if_eq (p := 57) (p2 := 66) hf_101 rfl rfl rfl (fun h54 => ?_) (fun h54 => ?_)
    · refine go_iconst (p := 67) hf_101 rfl rfl ci_0 ?_
      refine go_ret1 hf_101 rfl nl_101 ?_
      refine ⟨_, _, rfl, rfl, _, rfl, by rw [up_s]; exact hx, fun g => absurd g (bI_0.mp (hx.symm.trans h54)), fr2_tr fr2_27 f9⟩
    · have hp : (P ∧ ∃ n, a ≤ n ∧ n ≤ b ∧ num K A N (valF K A N r (nI 4)) = nI n) := bI_n0.mp (hx ▸ h54)
      obtain ⟨g1, n, hn1, hn2, e2⟩ := hnu hp
      obtain ⟨j, n', hj, hn', rfl, eK, eA, fA⟩ := WT_0 hW hN (by omega) g1
      have eA2 : M9 42 j = nI n := by rw [q9.2.2.2.1, eA, ← fA]; exact e2
      refine go_al0 (p := 58) hf_101 rfl rfl ?_
      refine go_getr (p := 61) hf_101 ho_101 rfl fl_6_13 rfl (by first | with_reducible assumption | rfl) rfl ?_
      refine go_il3 (p := 62) hf_101 rfl rfl ?_
      refine go_iald (p := 63) hf_101 rfl rfl (by first | with_reducible assumption | rfl) (by first | rfl | with_reducible assumption) (by first | exact rfl | with_reducible assumption) (by omega) ((up_k (by omega)).trans eA2) ?_
      refine go_goto (p2 := 67) hf_101 rfl rfl ?_
      refine go_ret1 hf_101 rfl nl_101 ?_
      refine ⟨_, _, rfl, rfl, _, rfl, by rw [up_s]; exact hx, fun _ => ⟨?_, ?_, ?_⟩, fr2_tr fr2_27 f9⟩
      · rw [val_t (hkd hp), ← (k9 ⟨hp.1, hkd hp⟩).1]
        exact ((val_iff (by omega)).mpr ⟨g1, e2⟩).symm
      · rw [up_i (by omega), tail_t (hkd hp)]; exact (k9 ⟨hp.1, hkd hp⟩).2.1
      · rw [tail_t (hkd hp)]; exact (k9 ⟨hp.1, hkd hp⟩).2.2.2
  simp only [Option.toList, List.cons_append, List.nil_append]
  refine go_is3 (p := 5) hf_101 rfl rfl ?_
  refine go_al0 (p := 6) hf_101 rfl rfl ?_
  refine go_al0 (p := 7) hf_101 rfl rfl ?_
  refine go_get (p := 10) hf_101 ho_101 rfl fl_6_122 rfl (by first | with_reducible assumption | rfl) rfl g9 ?_
  refine go_if_eq (p := 13) (p2 := 46) hf_101 rfl rfl rfl (fun h10 => ?_) (fun h10 => ?_)
  · refine go_iconst (p := 47) hf_101 rfl rfl ci_0 ?_
    exact k47 _ (bI_f (fun hp => bI_0.mp h10 ⟨hp.1, hkd hp⟩)).symm
  · have hp1 := bI_n0.mp h10
    obtain ⟨e1, -, e3, -⟩ := k9 hp1
    refine go_al0 (p := 14) hf_101 rfl rfl ?_
    refine go_il3 (p := 15) hf_101 rfl rfl ?_
    refine go_iconst (p := 16) hf_101 rfl rfl ci_1 ?_
    refine go_cw3 (p := 19) hf_101 rfl rfl (inv_v ho_101 cl_6_128) (by decide) nl_100 rfl rfl (by first | rfl | exact rcv_of (by with_reducible assumption)) rfl rfl rfl (by omega) (by omega) (p_is q9 (by omega) (e1 ▸ e3)) ?_
    intro v9 M9 h9
    rewrite [h9.1, h9.2]
    clear h9 v9 M9
    simp only [Option.toList, List.cons_append, List.nil_append]
    refine go_if_eq (p := 22) (p2 := 46) hf_101 rfl rfl rfl (fun h19 => ?_) (fun h19 => ?_)
    · refine go_iconst (p := 47) hf_101 rfl rfl ci_0 ?_
      exact k47 _ (bI_f (fun hp => bI_0.mp h19 (hnu hp).1)).symm
    · have g1 := bI_n0.mp h19
      obtain ⟨j, n', hj, hn', rfl, eK, eA, fA⟩ := WT_0 hW hN (by omega) g1
      have eA2 : M9 42 j = nI n' := by rw [q9.2.2.2.1]; exact eA
      refine go_al0 (p := 23) hf_101 rfl rfl ?_
      refine go_getr (p := 26) hf_101 ho_101 rfl fl_6_13 rfl (by first | with_reducible assumption | rfl) rfl ?_
      refine go_il3 (p := 27) hf_101 rfl rfl ?_
      refine go_iald (p := 28) hf_101 rfl rfl (by first | with_reducible assumption | rfl) (by first | rfl | with_reducible assumption) (by first | exact rfl | with_reducible assumption) (by omega) eA2 ?_
      refine go_il1 (p := 29) hf_101 rfl rfl ?_
      first | refine go_nn_lt (p := 32) (p2 := 46) hf_101 rfl rfl rfl (by omega) (by omega) (fun h29 => ?_) (fun h29 => ?_) | refine go_ic_lt (p := 32) (p2 := 46) hf_101 rfl rfl rfl (fun h29 => ?_) (fun h29 => ?_)
      · refine go_iconst (p := 47) hf_101 rfl rfl ci_0 ?_
        exact k47 _ (bI_f (fun hp => by
          obtain ⟨-, n, hn1, hn2, e2⟩ := hnu hp
          rw [fA, nI_eq (by omega) (by omega)] at e2
          omega)).symm
      · refine go_al0 (p := 33) hf_101 rfl rfl ?_
        refine go_getr (p := 36) hf_101 ho_101 rfl fl_6_13 rfl (by first | with_reducible assumption | rfl) rfl ?_
        refine go_il3 (p := 37) hf_101 rfl rfl ?_
        refine go_iald (p := 38) hf_101 rfl rfl (by first | with_reducible assumption | rfl) (by first | rfl | with_reducible assumption) (by first | exact rfl | with_reducible assumption) (by omega) eA2 ?_
        refine go_il2 (p := 39) hf_101 rfl rfl ?_
        first | refine go_nn_gt (p := 42) (p2 := 46) hf_101 rfl rfl rfl (by omega) (by omega) (fun h39 => ?_) (fun h39 => ?_) | refine go_ic_gt (p := 42) (p2 := 46) hf_101 rfl rfl rfl (fun h39 => ?_) (fun h39 => ?_)
        · refine go_iconst (p := 47) hf_101 rfl rfl ci_0 ?_
          exact k47 _ (bI_f (fun hp => by
            obtain ⟨-, n, hn1, hn2, e2⟩ := hnu hp
            rw [fA, nI_eq (by omega) (by omega)] at e2
            omega)).symm
        · refine go_iconst (p := 43) hf_101 rfl rfl ci_1 ?_
          refine go_goto (p2 := 47) hf_101 rfl rfl ?_
          exact k47 _ (bI_t ⟨hp1.1, n', by omega, by omega, by
            rw [val_t hp1.2, ← e1]
            exact (val_iff (by omega)).mpr ⟨g1, fA⟩⟩).symm
theorem r_boxed {M : sm_M} {t : Int32} (hq : rq M K A B N) (hW : WT K A B N) (hv : vt N t) : cr 103 1 22 [.ref 40, .int t] M (fun v M1 => M1 = M ∧ ∃ u, v = some (.int u) ∧ (((∃ n, n < 8 ∧ hbF K A B N t = nI n) ∧ u = hbF K A B N t) ∨ (¬ (∃ n, n < 8 ∧ hbF K A B N t = nI n) ∧ u = -1))) := by
  intro X J rc rs d lw hd hw
  show sm_wp tb_T X tb_ok d lw 103 0 [some (.ref 40), some (.int t), none, none, none, none, none] [] _ _
  have hN := hq.2.1
  have hB : (∃ n, n < 8 ∧ hbF K A B N t = nI n) → hbC K A B N t := by
    rintro ⟨n, h1, h2⟩
    by_cases hc : hbC K A B N t
    · exact hc
    · unfold hbF at h2
      rw [if_neg hc] at h2
      exact absurd h2.symm (nI_m1 (by omega))
  refine go_al0 (p := 1) hf_103 rfl rfl ?_
  refine go_il1 (p := 2) hf_103 rfl rfl ?_
  refine go_iconst (p := 3) hf_103 rfl rfl ci_3 ?_
  refine go_cw3 (p := 6) hf_103 rfl rfl (inv_v ho_103 cl_6_128) (by decide) nl_100 rfl rfl (by first | rfl | exact rcv_of (by with_reducible assumption)) rfl rfl rfl (by omega) (by omega) (p_is hq (by omega) hv) ?_
  intro v9 M9 h9
  rewrite [h9.1, h9.2]
  clear h9 v9 M9
  simp only [Option.toList, List.cons_append, List.nil_append]
  refine go_if_ne (p := 9) (p2 := 11) hf_103 rfl rfl rfl (fun h6 => ?_) (fun h6 => ?_)
  · obtain ⟨j, a, b, hj, ha, hb, rfl, eK, eA, eB, fA, fB⟩ := WT_2 hW hN (by omega) (by omega) (bI_n0.mp h6)
    rw [← hq.2.2.2.1] at eA
    rw [← hq.2.2.2.2] at eB
    refine go_al0 (p := 12) hf_103 rfl rfl ?_
    refine go_getr (p := 15) hf_103 ho_103 rfl fl_6_13 rfl (by first | with_reducible assumption | rfl) rfl ?_
    refine go_il1 (p := 16) hf_103 rfl rfl ?_
    refine go_iald (p := 17) hf_103 rfl rfl (by first | with_reducible assumption | rfl) (by first | rfl | with_reducible assumption) (by first | exact rfl | with_reducible assumption) (by omega) eA ?_
    refine go_is2 (p := 18) hf_103 rfl rfl ?_
    refine go_al0 (p := 19) hf_103 rfl rfl ?_
    refine go_il2 (p := 20) hf_103 rfl rfl ?_
    refine go_iconst (p := 21) hf_103 rfl rfl ci_2 ?_
    refine go_cw3 (p := 24) hf_103 rfl rfl (inv_v ho_103 cl_6_128) (by decide) nl_100 rfl rfl (by first | rfl | exact rcv_of (by with_reducible assumption)) rfl rfl rfl (by omega) (by omega) (p_is hq (by omega) (Or.inr ⟨a, by omega, rfl⟩)) ?_
    intro v9 M9 h9
    rewrite [h9.1, h9.2]
    clear h9 v9 M9
    simp only [Option.toList, List.cons_append, List.nil_append]
    refine go_if_eq (p := 27) (p2 := 61) hf_103 rfl rfl rfl (fun h24 => ?_) (fun h24 => ?_)
    · refine go_iconst (p := 62) hf_103 rfl rfl ci_0 ?_
      refine go_is3 (p := 63) hf_103 rfl rfl ?_
      refine go_il3 (p := 64) hf_103 rfl rfl ?_
      refine go_if_ne (p := 67) (p2 := 69) hf_103 rfl rfl rfl (fun h64 => absurd rfl h64) (fun h64 => ?_)
      refine go_iconst (p := 68) hf_103 rfl rfl ci_m1 ?_
      refine go_ret1 hf_103 rfl nl_103 ?_
      exact ⟨_, _, rfl, rfl, rfl, _, rfl, Or.inr ⟨fun hb => bI_0.mp h24 (fA ▸ (hB hb).2.1), rfl⟩⟩
    · obtain ⟨j4, a4, b4, hj4, ha4, hb4, ej4, eK4, eA4, eB4, fA4, fB4⟩ := WT_2 hW hN (by omega) (by omega) (bI_n0.mp h24)
      have ej4 := (nI_eq (by omega) (by omega)).mp ej4
      subst ej4
      rw [← hq.2.2.2.1] at eA4
      rw [← hq.2.2.2.2] at eB4
      refine go_al0 (p := 28) hf_103 rfl rfl ?_
      refine go_al0 (p := 29) hf_103 rfl rfl ?_
      refine go_getr (p := 32) hf_103 ho_103 rfl fl_6_16 rfl (by first | with_reducible assumption | rfl) rfl ?_
      refine go_il1 (p := 33) hf_103 rfl rfl ?_
      refine go_iald (p := 34) hf_103 rfl rfl (by first | with_reducible assumption | rfl) (by first | rfl | with_reducible assumption) (by first | exact rfl | with_reducible assumption) (by omega) eB ?_
      refine go_iconst (p := 35) hf_103 rfl rfl ci_0 ?_
      refine go_cw3 (p := 38) hf_103 rfl rfl (inv_v ho_103 cl_6_128) (by decide) nl_100 rfl rfl (by first | rfl | exact rcv_of (by with_reducible assumption)) rfl rfl rfl (by omega) (by omega) (p_is hq (by omega) (Or.inr ⟨b, by omega, rfl⟩)) ?_
      intro v9 M9 h9
      rewrite [h9.1, h9.2]
      clear h9 v9 M9
      simp only [Option.toList, List.cons_append, List.nil_append]
      refine go_if_eq (p := 41) (p2 := 61) hf_103 rfl rfl rfl (fun h38 => ?_) (fun h38 => ?_)
      · refine go_iconst (p := 62) hf_103 rfl rfl ci_0 ?_
        refine go_is3 (p := 63) hf_103 rfl rfl ?_
        refine go_il3 (p := 64) hf_103 rfl rfl ?_
        refine go_if_ne (p := 67) (p2 := 69) hf_103 rfl rfl rfl (fun h64 => absurd rfl h64) (fun h64 => ?_)
        refine go_iconst (p := 68) hf_103 rfl rfl ci_m1 ?_
        refine go_ret1 hf_103 rfl nl_103 ?_
        exact ⟨_, _, rfl, rfl, rfl, _, rfl, Or.inr ⟨fun hb => bI_0.mp h38 (fB ▸ ((val_iff (by omega)).mp (hB hb).2.2.1).1), rfl⟩⟩
      · obtain ⟨j5, n5, hj5, hn5, ej5, eK5, e5, f5⟩ := WT_0 hW hN (by omega) (bI_n0.mp h38)
        have ej5 := (nI_eq (by omega) (by omega)).mp ej5
        subst ej5
        rw [← hq.2.2.2.1] at e5
        refine go_al0 (p := 42) hf_103 rfl rfl ?_
        refine go_getr (p := 45) hf_103 ho_103 rfl fl_6_13 rfl (by first | with_reducible assumption | rfl) rfl ?_
        refine go_al0 (p := 46) hf_103 rfl rfl ?_
        refine go_getr (p := 49) hf_103 ho_103 rfl fl_6_16 rfl (by first | with_reducible assumption | rfl) rfl ?_
        refine go_il1 (p := 50) hf_103 rfl rfl ?_
        refine go_iald (p := 51) hf_103 rfl rfl (by first | with_reducible assumption | rfl) (by first | rfl | with_reducible assumption) (by first | exact rfl | with_reducible assumption) (by omega) eB ?_
        refine go_iald (p := 52) hf_103 rfl rfl (by first | with_reducible assumption | rfl) (by first | rfl | with_reducible assumption) (by first | exact rfl | with_reducible assumption) (by omega) e5 ?_
        refine go_bipush (p := 54) hf_103 rfl rfl cb_9 ?_
        first | refine go_nn_ne (p := 57) (p2 := 61) hf_103 rfl rfl rfl (by omega) (by omega) (fun h54 => ?_) (fun h54 => ?_) | refine go_ic_ne (p := 57) (p2 := 61) hf_103 rfl rfl rfl (fun h54 => ?_) (fun h54 => ?_)
        · refine go_iconst (p := 62) hf_103 rfl rfl ci_0 ?_
          refine go_is3 (p := 63) hf_103 rfl rfl ?_
          refine go_il3 (p := 64) hf_103 rfl rfl ?_
          refine go_if_ne (p := 67) (p2 := 69) hf_103 rfl rfl rfl (fun h64 => absurd rfl h64) (fun h64 => ?_)
          refine go_iconst (p := 68) hf_103 rfl rfl ci_m1 ?_
          refine go_ret1 hf_103 rfl nl_103 ?_
          exact ⟨_, _, rfl, rfl, rfl, _, rfl, Or.inr ⟨fun hb => by
            have e := ((val_iff (by omega)).mp (hB hb).2.2.1).2
            rw [fB, f5, nI_eq (by omega) (by omega)] at e
            omega, rfl⟩⟩
        · refine go_iconst (p := 58) hf_103 rfl rfl ci_1 ?_
          refine go_goto (p2 := 62) hf_103 rfl rfl ?_
          refine go_is3 (p := 63) hf_103 rfl rfl ?_
          refine go_il3 (p := 64) hf_103 rfl rfl ?_
          refine go_if_ne (p := 67) (p2 := 69) hf_103 rfl rfl rfl (fun h64 => ?_) (fun h64 => absurd h64 nI_10)
          refine go_al0 (p := 70) hf_103 rfl rfl ?_
          refine go_getr (p := 73) hf_103 ho_103 rfl fl_6_13 rfl (by first | with_reducible assumption | rfl) rfl ?_
          refine go_il2 (p := 74) hf_103 rfl rfl ?_
          refine go_iald (p := 75) hf_103 rfl rfl (by first | with_reducible assumption | rfl) (by first | rfl | with_reducible assumption) (by first | exact rfl | with_reducible assumption) (by omega) eA4 ?_
          refine go_is4 (p := 77) hf_103 rfl rfl ?_
          refine go_al0 (p := 78) hf_103 rfl rfl ?_
          refine go_getr (p := 81) hf_103 ho_103 rfl fl_6_16 rfl (by first | with_reducible assumption | rfl) rfl ?_
          refine go_il2 (p := 82) hf_103 rfl rfl ?_
          refine go_iald (p := 83) hf_103 rfl rfl (by first | with_reducible assumption | rfl) (by first | rfl | with_reducible assumption) (by first | exact rfl | with_reducible assumption) (by omega) eB4 ?_
          refine go_is5 (p := 85) hf_103 rfl rfl ?_
          refine go_al0 (p := 86) hf_103 rfl rfl ?_
          refine go_il4 (p := 88) hf_103 rfl rfl ?_
          refine go_iconst (p := 89) hf_103 rfl rfl ci_0 ?_
          refine go_cw3 (p := 92) hf_103 rfl rfl (inv_v ho_103 cl_6_128) (by decide) nl_100 rfl rfl (by first | rfl | exact rcv_of (by with_reducible assumption)) rfl rfl rfl (by omega) (by omega) (p_is hq (by omega) (Or.inr ⟨a4, by omega, rfl⟩)) ?_
          intro v9 M9 h9
          rewrite [h9.1, h9.2]
          clear h9 v9 M9
          simp only [Option.toList, List.cons_append, List.nil_append]
          refine go_if_eq (p := 95) (p2 := 133) hf_103 rfl rfl rfl (fun h92 => ?_) (fun h92 => ?_)
          · refine go_iconst (p := 134) hf_103 rfl rfl ci_0 ?_
            refine go_is6 (p := 136) hf_103 rfl rfl ?_
            refine go_il6 (p := 138) hf_103 rfl rfl ?_
            refine go_if_eq (p := 141) (p2 := 151) hf_103 rfl rfl rfl (fun h138 => ?_) (fun h138 => absurd rfl h138)
            refine go_iconst (p := 152) hf_103 rfl rfl ci_m1 ?_
            refine go_ret1 hf_103 rfl nl_103 ?_
            exact ⟨_, _, rfl, rfl, rfl, _, rfl, Or.inr ⟨fun hb => by
              obtain ⟨n, h1, h2⟩ := hb
              have hc := hB ⟨n, h1, h2⟩
              unfold hbF at h2
              rw [if_pos hc, fA, fA4] at h2
              exact bI_0.mp h92 ((val_iff (by omega)).mp h2).1, rfl⟩⟩
          · obtain ⟨j6, n6, hj6, hn6, ej6, eK6, e6, f6⟩ := WT_0 hW hN (by omega) (bI_n0.mp h92)
            have ej6 := (nI_eq (by omega) (by omega)).mp ej6
            subst ej6
            rw [← hq.2.2.2.1] at e6
            refine go_al0 (p := 96) hf_103 rfl rfl ?_
            refine go_il5 (p := 98) hf_103 rfl rfl ?_
            refine go_iconst (p := 99) hf_103 rfl rfl ci_0 ?_
            refine go_cw3 (p := 102) hf_103 rfl rfl (inv_v ho_103 cl_6_128) (by decide) nl_100 rfl rfl (by first | rfl | exact rcv_of (by with_reducible assumption)) rfl rfl rfl (by omega) (by omega) (p_is hq (by omega) (Or.inr ⟨b4, by omega, rfl⟩)) ?_
            intro v9 M9 h9
            rewrite [h9.1, h9.2]
            clear h9 v9 M9
            simp only [Option.toList, List.cons_append, List.nil_append]
            refine go_if_eq (p := 105) (p2 := 133) hf_103 rfl rfl rfl (fun h102 => ?_) (fun h102 => ?_)
            · refine go_iconst (p := 134) hf_103 rfl rfl ci_0 ?_
              refine go_is6 (p := 136) hf_103 rfl rfl ?_
              refine go_il6 (p := 138) hf_103 rfl rfl ?_
              refine go_if_eq (p := 141) (p2 := 151) hf_103 rfl rfl rfl (fun h138 => ?_) (fun h138 => absurd rfl h138)
              refine go_iconst (p := 152) hf_103 rfl rfl ci_m1 ?_
              refine go_ret1 hf_103 rfl nl_103 ?_
              exact ⟨_, _, rfl, rfl, rfl, _, rfl, Or.inr ⟨fun hb => by
                have e := ((val_iff (by omega)).mp (hB hb).2.2.2).1
                rw [fA, fB4] at e
                exact bI_0.mp h102 e, rfl⟩⟩
            · obtain ⟨j7, n7, hj7, hn7, ej7, eK7, e7, f7⟩ := WT_0 hW hN (by omega) (bI_n0.mp h102)
              have ej7 := (nI_eq (by omega) (by omega)).mp ej7
              subst ej7
              rw [← hq.2.2.2.1] at e7
              refine go_al0 (p := 106) hf_103 rfl rfl ?_
              refine go_getr (p := 109) hf_103 ho_103 rfl fl_6_13 rfl (by first | with_reducible assumption | rfl) rfl ?_
              refine go_il4 (p := 111) hf_103 rfl rfl ?_
              refine go_iald (p := 112) hf_103 rfl rfl (by first | with_reducible assumption | rfl) (by first | rfl | with_reducible assumption) (by first | exact rfl | with_reducible assumption) (by omega) e6 ?_
              refine go_bipush (p := 114) hf_103 rfl rfl cb_7 ?_
              first | refine go_nn_gt (p := 117) (p2 := 133) hf_103 rfl rfl rfl (by omega) (by omega) (fun h114 => ?_) (fun h114 => ?_) | refine go_ic_gt (p := 117) (p2 := 133) hf_103 rfl rfl rfl (fun h114 => ?_) (fun h114 => ?_)
              · refine go_iconst (p := 134) hf_103 rfl rfl ci_0 ?_
                refine go_is6 (p := 136) hf_103 rfl rfl ?_
                refine go_il6 (p := 138) hf_103 rfl rfl ?_
                refine go_if_eq (p := 141) (p2 := 151) hf_103 rfl rfl rfl (fun h138 => ?_) (fun h138 => absurd rfl h138)
                refine go_iconst (p := 152) hf_103 rfl rfl ci_m1 ?_
                refine go_ret1 hf_103 rfl nl_103 ?_
                exact ⟨_, _, rfl, rfl, rfl, _, rfl, Or.inr ⟨fun hb => by
                  obtain ⟨n, h1, h2⟩ := hb
                  have hc := hB ⟨n, h1, h2⟩
                  unfold hbF at h2
                  rw [if_pos hc, fA, fA4] at h2
                  have e := ((val_iff (by omega)).mp h2).2
                  rw [f6, nI_eq (by omega) (by omega)] at e
                  omega, rfl⟩⟩
              · refine go_al0 (p := 118) hf_103 rfl rfl ?_
                refine go_getr (p := 121) hf_103 ho_103 rfl fl_6_13 rfl (by first | with_reducible assumption | rfl) rfl ?_
                refine go_il5 (p := 123) hf_103 rfl rfl ?_
                refine go_iald (p := 124) hf_103 rfl rfl (by first | with_reducible assumption | rfl) (by first | rfl | with_reducible assumption) (by first | exact rfl | with_reducible assumption) (by omega) e7 ?_
                refine go_bipush (p := 126) hf_103 rfl rfl cb_8 ?_
                first | refine go_nn_ne (p := 129) (p2 := 133) hf_103 rfl rfl rfl (by omega) (by omega) (fun h126 => ?_) (fun h126 => ?_) | refine go_ic_ne (p := 129) (p2 := 133) hf_103 rfl rfl rfl (fun h126 => ?_) (fun h126 => ?_)
                · refine go_iconst (p := 134) hf_103 rfl rfl ci_0 ?_
                  refine go_is6 (p := 136) hf_103 rfl rfl ?_
                  refine go_il6 (p := 138) hf_103 rfl rfl ?_
                  refine go_if_eq (p := 141) (p2 := 151) hf_103 rfl rfl rfl (fun h138 => ?_) (fun h138 => absurd rfl h138)
                  refine go_iconst (p := 152) hf_103 rfl rfl ci_m1 ?_
                  refine go_ret1 hf_103 rfl nl_103 ?_
                  exact ⟨_, _, rfl, rfl, rfl, _, rfl, Or.inr ⟨fun hb => by
                    have e := ((val_iff (by omega)).mp (hB hb).2.2.2).2
                    rw [fA, fB4, f7, nI_eq (by omega) (by omega)] at e
                    omega, rfl⟩⟩
                · refine go_iconst (p := 130) hf_103 rfl rfl ci_1 ?_
                  refine go_goto (p2 := 134) hf_103 rfl rfl ?_
                  refine go_is6 (p := 136) hf_103 rfl rfl ?_
                  refine go_il6 (p := 138) hf_103 rfl rfl ?_
                  refine go_if_eq (p := 141) (p2 := 151) hf_103 rfl rfl rfl (fun h138 => absurd h138 nI_10) (fun h138 => ?_)
                  refine go_al0 (p := 142) hf_103 rfl rfl ?_
                  refine go_getr (p := 145) hf_103 ho_103 rfl fl_6_13 rfl (by first | with_reducible assumption | rfl) rfl ?_
                  refine go_il4 (p := 147) hf_103 rfl rfl ?_
                  refine go_iald (p := 148) hf_103 rfl rfl (by first | with_reducible assumption | rfl) (by first | rfl | with_reducible assumption) (by first | exact rfl | with_reducible assumption) (by omega) e6 ?_
                  refine go_goto (p2 := 152) hf_103 rfl rfl ?_
                  refine go_ret1 hf_103 rfl nl_103 ?_
                  have hc : hbC K A B N (nI j) := by
                    refine ⟨bI_n0.mp h6, ?_, ?_, ?_⟩
                    · rw [fA]; exact bI_n0.mp h24
                    · rw [fB]; exact (val_iff (by omega)).mpr ⟨bI_n0.mp h38, by rw [f5, h54]⟩
                    · rw [fA, fB4]; exact (val_iff (by omega)).mpr ⟨bI_n0.mp h102, by rw [f7, h126]⟩
                  have he : hbF K A B N (nI j) = nI n6 := by
                    unfold hbF
                    rw [if_pos hc, fA, fA4]
                    exact (val_iff (by omega)).mpr ⟨bI_n0.mp h92, f6⟩
                  exact ⟨_, _, rfl, rfl, rfl, _, rfl, Or.inl ⟨⟨n6, by omega, he⟩, he.symm⟩⟩
  · refine go_iconst (p := 10) hf_103 rfl rfl ci_m1 ?_
    refine go_ret1 hf_103 rfl nl_103 ?_
    exact ⟨_, _, rfl, rfl, rfl, _, rfl, Or.inr ⟨fun hb => bI_0.mp h6 (hB hb).1, rfl⟩⟩
theorem dot_iff {x w : Nat} : (x / 64 < w / 64 ∧ (¬ x / 2048 % 4 = w / 2048 % 4 ∨ ¬ x / 64 % 32 = w / 64 % 32)) ↔ (¬ w < x ∧ ¬ x / 64 % 128 = w / 64 % 128) := by
  have h1 : x / 64 % 128 = x / 2048 % 4 * 32 + x / 64 % 32 := by omega
  have h2 : w / 64 % 128 = w / 2048 % 4 * 32 + w / 64 % 32 := by omega
  rw [h1, h2]
  constructor
  · rintro ⟨g1, g2⟩
    constructor
    · omega
    · omega
  · rintro ⟨g1, g2⟩
    constructor
    · have : ¬ x / 64 = w / 64 := by
        intro e
        apply g2
        rw [← h1, ← h2, e]
      omega
    · omega
theorem r_readEntry {M : sm_M} {t : Int32} {g : Nat → Int32} {a : List Nat} (hq : rq M K A B N) (hW : WT K A B N) (hv : vt N t) (hgd : M 40 27 = nI 1) (hl : re M 3 a) (h12 : a.length ≤ 12) (hgv : ∀ j, j < 3 → M 49 (9 + j) = g j) : cr 104 3 66 [.ref 40, .int t] M (fun v M1 => v = none ∧ M1 40 27 = bI (∃ w, entR K A B N t w ∧ mf g a w) ∧ (∀ w, entR K A B N t w → mf g a w → re M1 3 (a ++ [w])) ∧ M1 40 26 = M 40 26 ∧ (∀ p j, ¬ (p = 40 ∧ (j = 26 ∨ j = 27)) → ¬ (p = 50 ∧ j = 3) → ¬ (51 ≤ p ∧ p ≤ 54 ∧ 36 ≤ j ∧ j < 48) → M1 p j = M p j)) := by
  intro X J rc rs d lw hd hw
  show sm_wp tb_T X tb_ok d lw 104 0 [some (.ref 40), some (.int t), none, none, none, none, none, none, none, none] [] _ _
  have hN := hq.2.1
  have hl1 : M 50 3 = nI a.length := hl.1
  refine go_al0 (p := 1) hf_104 rfl rfl ?_
  refine go_get (p := 4) hf_104 ho_104 rfl fl_6_125 rfl (by first | with_reducible assumption | rfl) rfl (by first | with_reducible assumption | ((repeat rewrite [up_k]) <;> first | with_reducible assumption | decide | omega) | exact rfl) ?_
  refine go_is2 (p := 5) hf_104 rfl rfl ?_
  refine go_al0 (p := 6) hf_104 rfl rfl ?_
  refine go_il1 (p := 7) hf_104 rfl rfl ?_
  refine go_put (p := 10) hf_104 ho_104 rfl fl_6_125 rfl (by first | with_reducible assumption | rfl) rfl (Or.inl rfl) ?_
  refine go_bipush (p := 12) hf_104 rfl rfl cb_36 ?_
  refine go_al0 (p := 13) hf_104 rfl rfl ?_
  refine go_getr (p := 16) hf_104 ho_104 rfl fl_6_38 rfl (by first | with_reducible assumption | rfl) rfl ?_
  refine go_iconst (p := 17) hf_104 rfl rfl ci_3 ?_
  refine go_iald (p := 18) hf_104 rfl rfl (by first | with_reducible assumption | rfl) (by first | rfl | with_reducible assumption) (by first | exact rfl | with_reducible assumption) (by omega) ((up_k (by omega)).trans hl1) ?_
  refine go_iadd (p := 19) hf_104 rfl rfl (by first | with_reducible exact nI_add _ _ | exact rfl) ?_
  refine go_is3 (p := 20) hf_104 rfl rfl ?_
  have qa : rq (sm_up M 40 26 t) K A B N := rq_fr hq fr2_26
  have ga : sm_up M 40 26 t 40 27 = bI True := by rw [up_i (by omega), hgd, bI_t trivial]
  have ra : True → sm_up M 40 26 t 40 26 = t ∧ vt N t := fun _ => ⟨up_s, hv⟩
  refine go_al0 (p := 21) hf_104 rfl rfl ?_
  refine go_iconst (p := 22) hf_104 rfl rfl ci_0 ?_
  refine go_iconst (p := 23) hf_104 rfl rfl ci_3 ?_
  refine go_cw3 (p := 26) hf_104 rfl rfl (inv_v ho_104 cl_6_135) (by decide) nl_101 rfl rfl (by first | rfl | exact rcv_of (by with_reducible assumption)) rfl rfl rfl (by omega) (by omega) (r_figure (a := 0) (b := 3) (by omega) (by omega) qa hW ga ra) ?_
  rintro v9 Mb ⟨u0, rfl, gb, kb, fb0⟩
  have qb : rq Mb K A B N := rq_fr qa fb0
  simp only [Option.toList, List.cons_append, List.nil_append]
  refine go_is4 (p := 28) hf_104 rfl rfl ?_
  refine go_al0 (p := 29) hf_104 rfl rfl ?_
  refine go_iconst (p := 30) hf_104 rfl rfl ci_0 ?_
  refine go_iconst (p := 31) hf_104 rfl rfl ci_2 ?_
  refine go_cw3 (p := 34) hf_104 rfl rfl (inv_v ho_104 cl_6_135) (by decide) nl_101 rfl rfl (by first | rfl | exact rcv_of (by with_reducible assumption)) rfl rfl rfl (by omega) (by omega) (r_figure (a := 0) (b := 2) (by omega) (by omega) qb hW gb (fun h => (kb h).2)) ?_
  rintro v9 Mc ⟨u1, rfl, gc, kc, fc0⟩
  have qc : rq Mc K A B N := rq_fr qb fc0
  simp only [Option.toList, List.cons_append, List.nil_append]
  refine go_is5 (p := 36) hf_104 rfl rfl ?_
  refine go_al0 (p := 37) hf_104 rfl rfl ?_
  refine go_iconst (p := 38) hf_104 rfl rfl ci_1 ?_
  refine go_bipush (p := 40) hf_104 rfl rfl cb_30 ?_
  refine go_cw3 (p := 43) hf_104 rfl rfl (inv_v ho_104 cl_6_135) (by decide) nl_101 rfl rfl (by first | rfl | exact rcv_of (by with_reducible assumption)) rfl rfl rfl (by omega) (by omega) (r_figure (a := 1) (b := 30) (by omega) (by omega) qc hW gc (fun h => (kc h).2)) ?_
  rintro v9 Md ⟨u2, rfl, gd, kd, fd0⟩
  have qd4 : rq Md K A B N := rq_fr qc fd0
  simp only [Option.toList, List.cons_append, List.nil_append]
  refine go_is6 (p := 45) hf_104 rfl rfl ?_
  have fd : fr2 Md M := fr2_tr fd0 (fr2_tr fc0 (fr2_tr fb0 fr2_26))
  have hus0 : ∀ w, entR K A B N t w → 1 ≤ w / 64 % 32 → (((True ∧ ∃ n, 0 ≤ n ∧ n ≤ 3 ∧ num K A N (valF K A N t (nI 4)) = nI n) ∧ ∃ n, 0 ≤ n ∧ n ≤ 2 ∧ num K A N (valF K A N (tailF K B N 1 t) (nI 4)) = nI n) ∧ ∃ n, 1 ≤ n ∧ n ≤ 30 ∧ num K A N (valF K A N (tailF K B N 1 (tailF K B N 1 t)) (nI 4)) = nI n) ∧ num K A N (valF K A N t (nI 4)) = nI (w / 8192) ∧ num K A N (valF K A N (tailF K B N 1 t) (nI 4)) = nI (w / 2048 % 4) ∧ num K A N (valF K A N (tailF K B N 1 (tailF K B N 1 t)) (nI 4)) = nI (w / 64 % 32) := by
    rintro w ⟨i, k, c, x, e, a1, a2, a3, a4, b1, b2, b3, -⟩ hc1
    have b3 : num K A N (valF K A N (tailF K B N 2 t) (nI 4)) = nI c := b3
    rw [tailF_2] at b3
    have z0 : w / 8192 = i := by omega
    have z1 : w / 2048 % 4 = k := by omega
    have z2 : w / 64 % 32 = c := by omega
    rw [z0, z1, z2]
    rw [z2] at hc1
    exact ⟨⟨⟨⟨trivial, i, by omega, by omega, b1⟩, k, by omega, by omega, b2⟩, c, by omega, by omega, b3⟩, b1, b2, b3⟩
  have hus : ∀ w, entR K A B N t w → 1 ≤ w / 64 % 32 → u0 = nI (w / 8192) ∧ u1 = nI (w / 2048 % 4) ∧ u2 = nI (w / 64 % 32) := by
    intro w hE hc1
    obtain ⟨p3, z0, z1, z2⟩ := hus0 w hE hc1
    exact ⟨(kb p3.1.1).1.trans z0, (kc p3.1).1.trans z1, (kd p3).1.trans z2⟩
  have hp4 : ∀ w, entR K A B N t w → 1 ≤ w / 64 % 32 → ((((True ∧ ∃ n, 0 ≤ n ∧ n ≤ 3 ∧ num K A N (valF K A N t (nI 4)) = nI n) ∧ ∃ n, 0 ≤ n ∧ n ≤ 2 ∧ num K A N (valF K A N (tailF K B N 1 t) (nI 4)) = nI n) ∧ ∃ n, 1 ≤ n ∧ n ≤ 30 ∧ num K A N (valF K A N (tailF K B N 1 (tailF K B N 1 t)) (nI 4)) = nI n) ∧ rdAt K N (tailF K B N 1 (tailF K B N 1 (tailF K B N 1 t))) = nI 3) := by
    intro w hE hc1
    refine ⟨(hus0 w hE hc1).1, ?_⟩
    obtain ⟨i, k, c, x, e, a1, a2, a3, a4, b1, b2, b3, b4, -⟩ := hE
    rw [tailF_3] at b4
    exact b4
  have kno : ∀ (key text : Int32) (Mx : sm_M), ¬ (∃ w, entR K A B N t w ∧ 1 ≤ w / 64 % 32 ∧ kn g w ∧ a.length < 12) → fr2 Mx Md → sm_wp tb_T X tb_ok d lw 104 213 [some (.ref 40), some (.int t), some (.int (M 40 26)), some (.int (nI (36 + a.length))), some (.int u0), some (.int u1), some (.int u2), some (.int key), some (.int text), none] [.int (nI 0), .ref 40] (wSH, Mx, J, rc, rs) (fun o h' => ∃ v M1, o = .inl v ∧ h' = (wSH, M1, J, rc, rs) ∧ v = none ∧ M1 40 27 = bI (∃ w, entR K A B N t w ∧ mf g a w) ∧ (∀ w, entR K A B N t w → mf g a w → re M1 3 (a ++ [w])) ∧ M1 40 26 = M 40 26 ∧ (∀ p j, ¬ (p = 40 ∧ (j = 26 ∨ j = 27)) → ¬ (p = 50 ∧ j = 3) → ¬ (51 ≤ p ∧ p ≤ 54 ∧ 36 ≤ j ∧ j < 48) → M1 p j = M p j)) := by
    intro key text Mx hno fx
    have fM : fr2 Mx M := fr2_tr fx fd
    have hno2 : ¬ ∃ w, entR K A B N t w ∧ mf g a w := fun ⟨w, e1, e2⟩ => hno ⟨w, e1, e2.1, e2.2.1, e2.2.2.1⟩
    refine go_put (p := 216) hf_104 ho_104 rfl fl_6_122 rfl (by first | with_reducible assumption | rfl) rfl (Or.inr ⟨rfl, (by first | exact Or.inl rfl | exact Or.inr rfl | with_reducible assumption)⟩) ?_
    refine go_al0 (p := 217) hf_104 rfl rfl ?_
    refine go_il2 (p := 218) hf_104 rfl rfl ?_
    refine go_put (p := 221) hf_104 ho_104 rfl fl_6_125 rfl (by first | with_reducible assumption | rfl) rfl (Or.inl rfl) ?_
    refine go_al0 (p := 222) hf_104 rfl rfl ?_
    refine go_get (p := 225) hf_104 ho_104 rfl fl_6_122 rfl (by first | with_reducible assumption | rfl) rfl ((up_i (by omega)).trans up_s) ?_
    refine go_if_ne (p := 228) (p2 := 229) hf_104 rfl rfl rfl (fun h225 => absurd rfl h225) (fun h225 => ?_)
    refine go_ret0 hf_104 rfl nl_104 ?_
    refine ⟨_, _, rfl, rfl, rfl, ?_, fun w e1 e2 => absurd ⟨w, e1, e2⟩ hno2, up_s, fun p j h1 h2 h3 => ?_⟩
    · rw [up_i (by omega), up_s, bI_f hno2]
    · rw [up_o (by omega), up_o (by omega)]; exact fM p j h1
  have k213 : ∀ (x key text : Int32) (Mx : sm_M), x = bI (∃ w, entR K A B N t w ∧ 1 ≤ w / 64 % 32 ∧ kn g w ∧ a.length < 12) → fr2 Mx Md → (∀ w, entR K A B N t w → ∃ b, b < N ∧ text = nI b ∧ A b = nI (100 + w % 64)) → sm_wp tb_T X tb_ok d lw 104 213 [some (.ref 40), some (.int t), some (.int (M 40 26)), some (.int (nI (36 + a.length))), some (.int u0), some (.int u1), some (.int u2), some (.int key), some (.int text), none] [.int x, .ref 40] (wSH, Mx, J, rc, rs) (fun o h' => ∃ v M1, o = .inl v ∧ h' = (wSH, M1, J, rc, rs) ∧ v = none ∧ M1 40 27 = bI (∃ w, entR K A B N t w ∧ mf g a w) ∧ (∀ w, entR K A B N t w → mf g a w → re M1 3 (a ++ [w])) ∧ M1 40 26 = M 40 26 ∧ (∀ p j, ¬ (p = 40 ∧ (j = 26 ∨ j = 27)) → ¬ (p = 50 ∧ j = 3) → ¬ (51 ≤ p ∧ p ≤ 54 ∧ 36 ≤ j ∧ j < 48) → M1 p j = M p j)) := by
    intro x key text Mx hx fx htx
    have fM : fr2 Mx M := fr2_tr fx fd
    have qx : rq Mx K A B N := rq_fr hq fM
    refine go_put (p := 216) hf_104 ho_104 rfl fl_6_122 rfl (by first | with_reducible assumption | rfl) rfl (Or.inr ⟨rfl, (hx ▸ bI_01)⟩) ?_
    refine go_al0 (p := 217) hf_104 rfl rfl ?_
    refine go_il2 (p := 218) hf_104 rfl rfl ?_
    refine go_put (p := 221) hf_104 ho_104 rfl fl_6_125 rfl (by first | with_reducible assumption | rfl) rfl (Or.inl rfl) ?_
    refine go_al0 (p := 222) hf_104 rfl rfl ?_
    refine go_get (p := 225) hf_104 ho_104 rfl fl_6_122 rfl (by first | with_reducible assumption | rfl) rfl ((up_i (by omega)).trans up_s) ?_
    refine go_if_ne (p := 228) (p2 := 229) hf_104 rfl rfl rfl (fun h225 => ?_) (fun h225 => ?_)
    · obtain ⟨w, hE, hc1, hkn, ha12⟩ : (∃ w, entR K A B N t w ∧ 1 ≤ w / 64 % 32 ∧ kn g w ∧ a.length < 12) := bI_n0.mp (hx ▸ h225)
      obtain ⟨b9, hb9, rfl, eT⟩ := htx w hE
      rw [← qx.2.2.2.1] at eT
      obtain ⟨e0, e1, e2⟩ := hus w hE hc1
      subst e0 e1 e2
      refine go_al0 (p := 230) hf_104 rfl rfl ?_
      refine go_il3 (p := 231) hf_104 rfl rfl ?_
      refine go_il4 (p := 233) hf_104 rfl rfl ?_
      refine go_al0 (p := 234) hf_104 rfl rfl ?_
      refine go_getr (p := 237) hf_104 ho_104 rfl fl_6_13 rfl (by first | with_reducible assumption | rfl) rfl ?_
      refine go_il8 (p := 239) hf_104 rfl rfl ?_
      refine go_iald (p := 240) hf_104 rfl rfl (by first | with_reducible assumption | rfl) (by first | rfl | with_reducible assumption) (by first | exact rfl | with_reducible assumption) (by omega) ((up_k (by omega)).trans ((up_k (by omega)).trans eT)) ?_
      refine go_bipush (p := 242) hf_104 rfl rfl cb_100 ?_
      refine go_isub (p := 243) hf_104 rfl rfl (by first | exact subn (by omega) | exact rfl) ?_
      refine go_il5 (p := 245) hf_104 rfl rfl ?_
      refine go_il6 (p := 247) hf_104 rfl rfl ?_
      refine go_cw6 (p := 250) hf_104 rfl rfl (inv_v ho_104 cl_6_99) (by decide) nl_81 rfl rfl (by first | rfl | exact rcv_of (by with_reducible assumption)) rfl rfl rfl (by omega) (by omega) (c_set (i := 36 + a.length) (by omega)) ?_
      rintro v9 M9 ⟨rfl, e9⟩
      have z100 : 100 + w % 64 - 100 = w % 64 := by omega
      rw [z100] at e9
      have hqw : qd M9 (36 + a.length) w := by
        rw [e9]
        exact st4_qd
      have d9 : ∀ p j, ¬ (p = 40 ∧ (j = 26 ∨ j = 27)) → ¬ (51 ≤ p ∧ p ≤ 54 ∧ 36 ≤ j ∧ j < 48) → M9 p j = M p j := fun p j h1 h3 => by
        rw [e9]
        refine (st4_o (by omega)).trans ?_
        rw [up_o (by omega), up_o (by omega)]
        exact fM p j h1
      have c9 : ∀ p j, 51 ≤ p → p ≤ 54 → j < 36 + a.length → M9 p j = M p j := fun p j h1 h2 h3 => by
        rw [e9]
        refine (st4_o (by omega)).trans ?_
        rw [up_k (by omega), up_k (by omega)]
        exact fM p j (by omega)
      have c50 : M9 50 3 = nI a.length := by rw [d9 _ _ (by omega) (by omega)]; exact hl1
      have c26 : M9 40 26 = M 40 26 := by
        rw [e9]
        exact (st4_o (by omega)).trans up_s
      have c27 : M9 40 27 = nI 1 := by
        rw [e9]
        refine (st4_o (by omega)).trans ?_
        rw [up_i (by omega), up_s, hx, bI_t ⟨w, hE, hc1, hkn, ha12⟩]
      clear e9
      have loop : ∀ (n k : Nat) (M2 : sm_M), k + n = a.length → M2 40 27 = bI (∀ i x, i < k → a[i]? = some x → ¬ w < x ∧ ¬ x / 64 % 128 = w / 64 % 128) → (∀ p j, ¬ (p = 40 ∧ j = 27) → M2 p j = M9 p j) → sm_wp tb_T X tb_ok d lw 104 254 [some (.ref 40), some (.int t), some (.int (M 40 26)), some (.int (nI (36 + a.length))), some (.int (nI (w / 8192))), some (.int (nI (w / 2048 % 4))), some (.int (nI (w / 64 % 32))), some (.int key), some (.int (nI b9)), some (.int (nI (36 + k)))] [] (wSH, M2, J, rc, rs) (fun o h' => ∃ v M1, o = .inl v ∧ h' = (wSH, M1, J, rc, rs) ∧ v = none ∧ M1 40 27 = bI (∃ w, entR K A B N t w ∧ mf g a w) ∧ (∀ w, entR K A B N t w → mf g a w → re M1 3 (a ++ [w])) ∧ M1 40 26 = M 40 26 ∧ (∀ p j, ¬ (p = 40 ∧ (j = 26 ∨ j = 27)) → ¬ (p = 50 ∧ j = 3) → ¬ (51 ≤ p ∧ p ≤ 54 ∧ 36 ≤ j ∧ j < 48) → M1 p j = M p j)) := by
        intro n
        induction n with
        | zero =>
          intro k M2 hk hg2 f2
          have e50 : M2 50 3 = nI a.length := by rw [f2 _ _ (by omega)]; exact c50
          refine go_il9 (p := 256) hf_104 rfl rfl ?_
          refine go_il3 (p := 257) hf_104 rfl rfl ?_
          first | refine go_nn_ge (p := 260) (p2 := 316) hf_104 rfl rfl rfl (by omega) (by omega) (fun h257 => ?_) (fun h257 => absurd h257 (by omega)) | refine go_ic_ge (p := 260) (p2 := 316) hf_104 rfl rfl rfl (fun h257 => ?_) (fun h257 => absurd h257 (by omega))
          refine go_al0 (p := 317) hf_104 rfl rfl ?_
          refine go_getr (p := 320) hf_104 ho_104 rfl fl_6_38 rfl (by first | with_reducible assumption | rfl) rfl ?_
          refine go_iconst (p := 321) hf_104 rfl rfl ci_3 ?_
          refine go_dup2 (p := 322) hf_104 rfl rfl ?_
          refine go_iald (p := 323) hf_104 rfl rfl (by first | with_reducible assumption | rfl) (by first | rfl | with_reducible assumption) (by first | exact rfl | with_reducible assumption) (by omega) e50 ?_
          refine go_iconst (p := 324) hf_104 rfl rfl ci_1 ?_
          refine go_iadd (p := 325) hf_104 rfl rfl (by first | with_reducible exact nI_add _ _ | exact rfl) ?_
          refine go_iast (p := 326) hf_104 rfl rfl (by first | with_reducible assumption | rfl) (by first | rfl | with_reducible assumption) (by first | exact rfl | with_reducible assumption) (by omega) ?_
          refine go_ret0 hf_104 rfl nl_104 ?_
          refine ⟨_, _, rfl, rfl, rfl, ?_, fun w' hw1 hw2 => ?_, ?_, fun p j h1 h2 h3 => ?_⟩
          · rw [up_k (by omega), hg2]
            apply bI_congr
            constructor
            · intro hh
              refine ⟨w, hE, hc1, hkn, ha12, fun x hx => ?_⟩
              obtain ⟨i, hi⟩ := List.getElem?_of_mem hx
              exact hh i x (by have := l_lt hi; omega) hi
            · rintro ⟨w', hw1, hw2⟩ i x hi hx
              rw [entR_fun hw1 hE] at hw2
              exact hw2.2.2.2 x (List.mem_of_getElem? hx)
          · rw [entR_fun hw1 hE]
            refine ⟨by rw [up_s]; simp [nI_add], qrow_snoc (M := M9) (fun i x hi => ⟨qd_congr (hl.2 i x hi).1 (c9 _ _ (by omega) (by omega) (by have := l_lt hi; omega)) (c9 _ _ (by omega) (by omega) (by have := l_lt hi; omega)) (c9 _ _ (by omega) (by omega) (by have := l_lt hi; omega)) (c9 _ _ (by omega) (by omega) (by have := l_lt hi; omega)), (hl.2 i x hi).2⟩) (fun p j h1 h2 h3 => by rw [up_k (by omega)]; exact f2 _ _ (by omega)) (qd_congr hqw (by rw [up_k (by omega)]; exact f2 _ _ (by omega)) (by rw [up_k (by omega)]; exact f2 _ _ (by omega)) (by rw [up_k (by omega)]; exact f2 _ _ (by omega)) (by rw [up_k (by omega)]; exact f2 _ _ (by omega))) (entR_lt hE).1⟩
          · rw [up_k (by omega), f2 _ _ (by omega)]
            exact c26
          · rw [up_o (by omega), f2 _ _ (by omega)]
            exact d9 p j h1 h3
        | succ n ih =>
          intro k M2 hk hg2 f2
          obtain ⟨x, hx⟩ := l_at (l := a) (i := k) (by omega)
          have hx9 := (hl.2 k x hx).2
          have hqx : qd M2 (36 + k) x := qd_congr (hl.2 k x hx).1 ((f2 _ _ (by omega)).trans (c9 _ _ (by omega) (by omega) (by omega))) ((f2 _ _ (by omega)).trans (c9 _ _ (by omega) (by omega) (by omega))) ((f2 _ _ (by omega)).trans (c9 _ _ (by omega) (by omega) (by omega))) ((f2 _ _ (by omega)).trans (c9 _ _ (by omega) (by omega) (by omega)))
          have hqw2 : qd M2 (36 + a.length) w := qd_congr hqw (f2 _ _ (by omega)) (f2 _ _ (by omega)) (f2 _ _ (by omega)) (f2 _ _ (by omega))
          have hsp : (∀ i x, i < k + 1 → a[i]? = some x → ¬ w < x ∧ ¬ x / 64 % 128 = w / 64 % 128) ↔ (∀ i x, i < k → a[i]? = some x → ¬ w < x ∧ ¬ x / 64 % 128 = w / 64 % 128) ∧ (¬ w < x ∧ ¬ x / 64 % 128 = w / 64 % 128) := by
            constructor
            · intro hh
              exact ⟨fun i y hi hy => hh i y (by omega) hy, hh k x (by omega) hx⟩
            · rintro ⟨hh, hh2⟩ i y hi hy
              by_cases hik : i = k
              · subst hik
                rw [hx] at hy
                cases hy
                exact hh2
              · exact hh i y (by omega) hy
          rw [← dot_iff] at hsp
          have k307 : ∀ z, z = bI (∀ i x, i < k + 1 → a[i]? = some x → ¬ w < x ∧ ¬ x / 64 % 128 = w / 64 % 128) → sm_wp tb_T X tb_ok d lw 104 307 [some (.ref 40), some (.int t), some (.int (M 40 26)), some (.int (nI (36 + a.length))), some (.int (nI (w / 8192))), some (.int (nI (w / 2048 % 4))), some (.int (nI (w / 64 % 32))), some (.int key), some (.int (nI b9)), some (.int (nI (36 + k)))] [.int z, .ref 40] (wSH, M2, J, rc, rs) (fun o h' => ∃ v M1, o = .inl v ∧ h' = (wSH, M1, J, rc, rs) ∧ v = none ∧ M1 40 27 = bI (∃ w, entR K A B N t w ∧ mf g a w) ∧ (∀ w, entR K A B N t w → mf g a w → re M1 3 (a ++ [w])) ∧ M1 40 26 = M 40 26 ∧ (∀ p j, ¬ (p = 40 ∧ (j = 26 ∨ j = 27)) → ¬ (p = 50 ∧ j = 3) → ¬ (51 ≤ p ∧ p ≤ 54 ∧ 36 ≤ j ∧ j < 48) → M1 p j = M p j)) := by
            intro z hz
            refine go_put (p := 310) hf_104 ho_104 rfl fl_6_122 rfl (by first | with_reducible assumption | rfl) rfl (Or.inr ⟨rfl, (hz ▸ bI_01)⟩) ?_
            refine go_ic9 (p := 313) hf_104 rfl rfl (by first | exact inc1 _ | exact rfl) ?_
            refine go_goto (p2 := 254) hf_104 rfl rfl ?_
            exact ih (k + 1) _ (by omega) (by rw [up_s]; exact hz) (fun p j h1 => by rw [up_o (by omega)]; exact f2 p j h1)
          refine go_il9 (p := 256) hf_104 rfl rfl ?_
          refine go_il3 (p := 257) hf_104 rfl rfl ?_
          first | refine go_nn_ge (p := 260) (p2 := 316) hf_104 rfl rfl rfl (by omega) (by omega) (fun h257 => absurd h257 (by omega)) (fun h257 => ?_) | refine go_ic_ge (p := 260) (p2 := 316) hf_104 rfl rfl rfl (fun h257 => absurd h257 (by omega)) (fun h257 => ?_)
          refine go_al0 (p := 261) hf_104 rfl rfl ?_
          refine go_al0 (p := 262) hf_104 rfl rfl ?_
          refine go_get (p := 265) hf_104 ho_104 rfl fl_6_122 rfl (by first | with_reducible assumption | rfl) rfl hg2 ?_
          refine go_if_eq (p := 268) (p2 := 306) hf_104 rfl rfl rfl (fun h265 => ?_) (fun h265 => ?_)
          · refine go_iconst (p := 307) hf_104 rfl rfl ci_0 ?_
            exact k307 _ (bI_f (fun hh => bI_0.mp h265 (hsp.mp hh).1)).symm
          · refine go_al0 (p := 269) hf_104 rfl rfl ?_
            refine go_il9 (p := 271) hf_104 rfl rfl ?_
            refine go_il3 (p := 272) hf_104 rfl rfl ?_
            refine go_cw3 (p := 275) hf_104 rfl rfl (inv_v ho_104 cl_6_103) (by decide) nl_83 rfl rfl (by first | rfl | exact rcv_of (by with_reducible assumption)) rfl rfl rfl (by omega) (by omega) (c_before (by omega) (by omega) hx9 (entR_lt hE).1 hqx hqw2) ?_
            intro v9 M9 h9
            rewrite [h9.1, h9.2]
            clear h9 v9 M9
            simp only [Option.toList, List.cons_append, List.nil_append]
            refine go_if_eq (p := 278) (p2 := 306) hf_104 rfl rfl rfl (fun h275 => ?_) (fun h275 => ?_)
            · refine go_iconst (p := 307) hf_104 rfl rfl ci_0 ?_
              exact k307 _ (bI_f (fun hh => bI_0.mp h275 (hsp.mp hh).2.1)).symm
            · refine go_al0 (p := 279) hf_104 rfl rfl ?_
              refine go_getr (p := 282) hf_104 ho_104 rfl fl_6_47 rfl (by first | with_reducible assumption | rfl) rfl ?_
              refine go_il9 (p := 284) hf_104 rfl rfl ?_
              refine go_iald (p := 285) hf_104 rfl rfl (by first | with_reducible assumption | rfl) (by first | rfl | with_reducible assumption) (by first | exact rfl | with_reducible assumption) (by omega) hqx.2.2.1 ?_
              refine go_il5 (p := 287) hf_104 rfl rfl ?_
              first | refine go_nn_ne (p := 290) (p2 := 302) hf_104 rfl rfl rfl (by omega) (by omega) (fun h287 => ?_) (fun h287 => ?_) | refine go_ic_ne (p := 290) (p2 := 302) hf_104 rfl rfl rfl (fun h287 => ?_) (fun h287 => ?_)
              · refine go_iconst (p := 303) hf_104 rfl rfl ci_1 ?_
                refine go_goto (p2 := 307) hf_104 rfl rfl ?_
                exact k307 _ (bI_t (hsp.mpr ⟨bI_n0.mp h265, bI_n0.mp h275, Or.inl h287⟩)).symm
              · refine go_al0 (p := 291) hf_104 rfl rfl ?_
                refine go_getr (p := 294) hf_104 ho_104 rfl fl_6_50 rfl (by first | with_reducible assumption | rfl) rfl ?_
                refine go_il9 (p := 296) hf_104 rfl rfl ?_
                refine go_iald (p := 297) hf_104 rfl rfl (by first | with_reducible assumption | rfl) (by first | rfl | with_reducible assumption) (by first | exact rfl | with_reducible assumption) (by omega) hqx.2.2.2 ?_
                refine go_il6 (p := 299) hf_104 rfl rfl ?_
                first | refine go_nn_eq (p := 302) (p2 := 306) hf_104 rfl rfl rfl (by omega) (by omega) (fun h299 => ?_) (fun h299 => ?_) | refine go_ic_eq (p := 302) (p2 := 306) hf_104 rfl rfl rfl (fun h299 => ?_) (fun h299 => ?_)
                · refine go_iconst (p := 307) hf_104 rfl rfl ci_0 ?_
                  exact k307 _ (bI_f (fun hh => by rcases (hsp.mp hh).2.2 with q | q <;> omega)).symm
                · refine go_iconst (p := 303) hf_104 rfl rfl ci_1 ?_
                  refine go_goto (p2 := 307) hf_104 rfl rfl ?_
                  exact k307 _ (bI_t (hsp.mpr ⟨bI_n0.mp h265, bI_n0.mp h275, Or.inr h299⟩)).symm
      simp only [Option.toList, List.cons_append, List.nil_append]
      refine go_bipush (p := 252) hf_104 rfl rfl cb_36 ?_
      refine go_is9 (p := 254) hf_104 rfl rfl ?_
      exact loop a.length 0 M9 (by omega) (by rw [c27, bI_t]; intro i x hi; omega) (fun _ _ _ => rfl)
    · refine go_ret0 hf_104 rfl nl_104 ?_
      have hno : ¬ (∃ w, entR K A B N t w ∧ 1 ≤ w / 64 % 32 ∧ kn g w ∧ a.length < 12) := bI_0.mp (hx.symm.trans h225)
      have hno2 : ¬ ∃ w, entR K A B N t w ∧ mf g a w := fun ⟨w, e1, e2⟩ => hno ⟨w, e1, e2.1, e2.2.1, e2.2.2.1⟩
      refine ⟨_, _, rfl, rfl, rfl, ?_, fun w e1 e2 => absurd ⟨w, e1, e2⟩ hno2, up_s, fun p j h1 h2 h3 => ?_⟩
      · rw [up_i (by omega), up_s, hx, bI_f hno, bI_f hno2]
      · rw [up_o (by omega), up_o (by omega)]; exact fM p j h1
  have k70 : ∀ x, x = bI ((((True ∧ ∃ n, 0 ≤ n ∧ n ≤ 3 ∧ num K A N (valF K A N t (nI 4)) = nI n) ∧ ∃ n, 0 ≤ n ∧ n ≤ 2 ∧ num K A N (valF K A N (tailF K B N 1 t) (nI 4)) = nI n) ∧ ∃ n, 1 ≤ n ∧ n ≤ 30 ∧ num K A N (valF K A N (tailF K B N 1 (tailF K B N 1 t)) (nI 4)) = nI n) ∧ rdAt K N (tailF K B N 1 (tailF K B N 1 (tailF K B N 1 t))) = nI 3) → sm_wp tb_T X tb_ok d lw 104 70 [some (.ref 40), some (.int t), some (.int (M 40 26)), some (.int (nI (36 + a.length))), some (.int u0), some (.int u1), some (.int u2), none, none, none] [.int x, .ref 40] (wSH, Md, J, rc, rs) (fun o h' => ∃ v M1, o = .inl v ∧ h' = (wSH, M1, J, rc, rs) ∧ v = none ∧ M1 40 27 = bI (∃ w, entR K A B N t w ∧ mf g a w) ∧ (∀ w, entR K A B N t w → mf g a w → re M1 3 (a ++ [w])) ∧ M1 40 26 = M 40 26 ∧ (∀ p j, ¬ (p = 40 ∧ (j = 26 ∨ j = 27)) → ¬ (p = 50 ∧ j = 3) → ¬ (51 ≤ p ∧ p ≤ 54 ∧ 36 ≤ j ∧ j < 48) → M1 p j = M p j)) := by
    intro x hx
    by_cases hP : ((((True ∧ ∃ n, 0 ≤ n ∧ n ≤ 3 ∧ num K A N (valF K A N t (nI 4)) = nI n) ∧ ∃ n, 0 ≤ n ∧ n ≤ 2 ∧ num K A N (valF K A N (tailF K B N 1 t) (nI 4)) = nI n) ∧ ∃ n, 1 ≤ n ∧ n ≤ 30 ∧ num K A N (valF K A N (tailF K B N 1 (tailF K B N 1 t)) (nI 4)) = nI n) ∧ rdAt K N (tailF K B N 1 (tailF K B N 1 (tailF K B N 1 t))) = nI 3)
    · rw [bI_t hP] at hx
      subst hx
      obtain ⟨⟨⟨⟨-, k0, -, hk0, ek0⟩, k1, -, hk1, ek1⟩, k2, hk2a, hk2, ek2⟩, hP2⟩ := id hP
      obtain ⟨j3, a3, b3, hj3, ha3, hb3, ej3, eK3, eA3, eB3, fA3, fB3⟩ := WT_2 hW hN (by omega) (by omega) hP.2
      have eR : Md 40 26 = nI j3 := by rw [← ej3]; exact (kd hP.1).2.1
      have e0 : u0 = nI k0 := (kb hP.1.1.1).1.trans ek0
      have e1 : u1 = nI k1 := (kc hP.1.1).1.trans ek1
      have e2 : u2 = nI k2 := (kd hP.1).1.trans ek2
      subst e0 e1 e2
      have qe : rq (sm_up Md 40 27 (nI 1)) K A B N := rq_fr qd4 fr2_27
      rw [← qd4.2.2.2.1] at eA3
      rw [← qd4.2.2.2.2] at eB3
      have hEx : ∀ w, entR K A B N t w → atm K A N (nI a3) = nI (10 + w / 8192) ∧ atm K A N (nI b3) = nI (100 + w % 64) := by
        rintro w ⟨i, k, c, x, e, a1, a2, a3, a4, b1, b2, b3, b4, b5, b6⟩
        rw [tailF_3, fA3] at b5
        rw [tailF_3, fB3] at b6
        exact ⟨b5.trans (congrArg nI (by omega)), b6.trans (congrArg nI (by omega))⟩
      have hEi : ∀ w, entR K A B N t w → 1 ≤ w / 64 % 32 → w / 8192 = k0 ∧ w / 2048 % 4 = k1 ∧ w / 64 % 32 = k2 := by
        intro w hE hc1
        obtain ⟨z0, z1, z2⟩ := hus w hE hc1
        have := (entR_lt hE).1
        exact ⟨((nI_eq (by omega) (by omega)).mp z0).symm, ((nI_eq (by omega) (by omega)).mp z1).symm, ((nI_eq (by omega) (by omega)).mp z2).symm⟩
      have htxt : ∀ w, entR K A B N t w → ∃ b, b < N ∧ nI b3 = nI b ∧ A b = nI (100 + w % 64) := by
        intro w hE
        obtain ⟨z1, z2⟩ := (val_iff (by omega)).mp (hEx w hE).2
        rw [rdAt_t (by omega) (by omega)] at z2
        exact ⟨b3, by omega, rfl, z2⟩
      have e50 : Md 50 3 = nI a.length := by rw [fd _ _ (by omega)]; exact hl1
      have hMv : ∀ j, j < 3 → sm_up Md 40 27 (nI 1) 49 (9 + j) = g j := fun j hj => by rw [up_k (by omega), fd _ _ (by omega)]; exact hgv j hj
      refine go_put (p := 73) hf_104 ho_104 rfl fl_6_122 rfl (by first | with_reducible assumption | rfl) rfl (Or.inr ⟨rfl, (by first | exact Or.inl rfl | exact Or.inr rfl | with_reducible assumption)⟩) ?_
      refine go_al0 (p := 74) hf_104 rfl rfl ?_
      refine go_get (p := 77) hf_104 ho_104 rfl fl_6_122 rfl (by first | with_reducible assumption | rfl) rfl up_s ?_
      refine go_if_eq (p := 80) (p2 := 92) hf_104 rfl rfl rfl (fun h77 => absurd h77 nI_10) (fun h77 => ?_)
      refine go_al0 (p := 81) hf_104 rfl rfl ?_
      refine go_getr (p := 84) hf_104 ho_104 rfl fl_6_13 rfl (by first | with_reducible assumption | rfl) rfl ?_
      refine go_al0 (p := 85) hf_104 rfl rfl ?_
      refine go_get (p := 88) hf_104 ho_104 rfl fl_6_125 rfl (by first | with_reducible assumption | rfl) rfl ((up_i (by omega)).trans eR) ?_
      refine go_iald (p := 89) hf_104 rfl rfl (by first | with_reducible assumption | rfl) (by first | rfl | with_reducible assumption) (by first | exact rfl | with_reducible assumption) (by omega) ((up_k (by omega)).trans eA3) ?_
      refine go_goto (p2 := 93) hf_104 rfl rfl ?_
      refine go_is7 (p := 95) hf_104 rfl rfl ?_
      refine go_al0 (p := 96) hf_104 rfl rfl ?_
      refine go_get (p := 99) hf_104 ho_104 rfl fl_6_122 rfl (by first | with_reducible assumption | rfl) rfl up_s ?_
      refine go_if_eq (p := 102) (p2 := 114) hf_104 rfl rfl rfl (fun h99 => absurd h99 nI_10) (fun h99 => ?_)
      refine go_al0 (p := 103) hf_104 rfl rfl ?_
      refine go_getr (p := 106) hf_104 ho_104 rfl fl_6_16 rfl (by first | with_reducible assumption | rfl) rfl ?_
      refine go_al0 (p := 107) hf_104 rfl rfl ?_
      refine go_get (p := 110) hf_104 ho_104 rfl fl_6_125 rfl (by first | with_reducible assumption | rfl) rfl ((up_i (by omega)).trans eR) ?_
      refine go_iald (p := 111) hf_104 rfl rfl (by first | with_reducible assumption | rfl) (by first | rfl | with_reducible assumption) (by first | exact rfl | with_reducible assumption) (by omega) ((up_k (by omega)).trans eB3) ?_
      refine go_goto (p2 := 115) hf_104 rfl rfl ?_
      refine go_is8 (p := 117) hf_104 rfl rfl ?_
      refine go_al0 (p := 118) hf_104 rfl rfl ?_
      refine go_al0 (p := 119) hf_104 rfl rfl ?_
      refine go_get (p := 122) hf_104 ho_104 rfl fl_6_122 rfl (by first | with_reducible assumption | rfl) rfl up_s ?_
      refine go_if_eq (p := 125) (p2 := 212) hf_104 rfl rfl rfl (fun h122 => absurd h122 nI_10) (fun h122 => ?_)
      refine go_al0 (p := 126) hf_104 rfl rfl ?_
      refine go_il7 (p := 128) hf_104 rfl rfl ?_
      refine go_iconst (p := 129) hf_104 rfl rfl ci_0 ?_
      refine go_cw3 (p := 132) hf_104 rfl rfl (inv_v ho_104 cl_6_128) (by decide) nl_100 rfl rfl (by first | rfl | exact rcv_of (by with_reducible assumption)) rfl rfl rfl (by omega) (by omega) (p_is qe (by omega) (Or.inr ⟨a3, by omega, rfl⟩)) ?_
      intro v9 M9 h9
      rewrite [h9.1, h9.2]
      clear h9 v9 M9
      simp only [Option.toList, List.cons_append, List.nil_append]
      refine go_if_eq (p := 135) (p2 := 212) hf_104 rfl rfl rfl (fun h132 => ?_) (fun h132 => ?_)
      · refine go_iconst (p := 213) hf_104 rfl rfl ci_0 ?_
        exact k213 _ _ _ _ (bI_f (fun ⟨w, hE, hc1, hkn, ha12⟩ => bI_0.mp h132 (((val_iff (by have := (entR_lt hE).1; omega)).mp (hEx w hE).1).1))).symm fr2_27 htxt
      · obtain ⟨j5, n5, hj5, hn5, ej5, eK5, e5, f5⟩ := WT_0 hW hN (by omega) (bI_n0.mp h132)
        have ej5 := (nI_eq (by omega) (by omega)).mp ej5
        subst ej5
        rw [← qd4.2.2.2.1] at e5
        refine go_al0 (p := 136) hf_104 rfl rfl ?_
        refine go_getr (p := 139) hf_104 ho_104 rfl fl_6_13 rfl (by first | with_reducible assumption | rfl) rfl ?_
        refine go_il7 (p := 141) hf_104 rfl rfl ?_
        refine go_iald (p := 142) hf_104 rfl rfl (by first | with_reducible assumption | rfl) (by first | rfl | with_reducible assumption) (by first | exact rfl | with_reducible assumption) (by omega) ((up_k (by omega)).trans e5) ?_
        refine go_bipush (p := 144) hf_104 rfl rfl cb_10 ?_
        refine go_il4 (p := 146) hf_104 rfl rfl ?_
        refine go_iadd (p := 147) hf_104 rfl rfl (by first | with_reducible exact nI_add _ _ | exact rfl) ?_
        first | refine go_nn_ne (p := 150) (p2 := 212) hf_104 rfl rfl rfl (by omega) (by omega) (fun h147 => ?_) (fun h147 => ?_) | refine go_ic_ne (p := 150) (p2 := 212) hf_104 rfl rfl rfl (fun h147 => ?_) (fun h147 => ?_)
        · refine go_iconst (p := 213) hf_104 rfl rfl ci_0 ?_
          exact k213 _ _ _ _ (bI_f (fun ⟨w, hE, hc1, hkn, ha12⟩ => by
            have hw9 := (entR_lt hE).1
            have e := ((val_iff (by omega)).mp (hEx w hE).1).2
            have e2 := (hEi w hE hc1).1
            rw [f5, nI_eq (by omega) (by omega)] at e
            omega)).symm fr2_27 htxt
        · refine go_al0 (p := 151) hf_104 rfl rfl ?_
          refine go_il8 (p := 153) hf_104 rfl rfl ?_
          refine go_iconst (p := 154) hf_104 rfl rfl ci_0 ?_
          refine go_cw3 (p := 157) hf_104 rfl rfl (inv_v ho_104 cl_6_128) (by decide) nl_100 rfl rfl (by first | rfl | exact rcv_of (by with_reducible assumption)) rfl rfl rfl (by omega) (by omega) (p_is qe (by omega) (Or.inr ⟨b3, by omega, rfl⟩)) ?_
          intro v9 M9 h9
          rewrite [h9.1, h9.2]
          clear h9 v9 M9
          simp only [Option.toList, List.cons_append, List.nil_append]
          refine go_if_eq (p := 160) (p2 := 212) hf_104 rfl rfl rfl (fun h157 => ?_) (fun h157 => ?_)
          · refine go_iconst (p := 213) hf_104 rfl rfl ci_0 ?_
            exact k213 _ _ _ _ (bI_f (fun ⟨w, hE, hc1, hkn, ha12⟩ => bI_0.mp h157 (((val_iff (by have := (entR_lt hE).1; omega)).mp (hEx w hE).2).1))).symm fr2_27 htxt
          · obtain ⟨j6, n6, hj6, hn6, ej6, eK6, e6, f6⟩ := WT_0 hW hN (by omega) (bI_n0.mp h157)
            have ej6 := (nI_eq (by omega) (by omega)).mp ej6
            subst ej6
            rw [← qd4.2.2.2.1] at e6
            refine go_al0 (p := 161) hf_104 rfl rfl ?_
            refine go_getr (p := 164) hf_104 ho_104 rfl fl_6_13 rfl (by first | with_reducible assumption | rfl) rfl ?_
            refine go_il8 (p := 166) hf_104 rfl rfl ?_
            refine go_iald (p := 167) hf_104 rfl rfl (by first | with_reducible assumption | rfl) (by first | rfl | with_reducible assumption) (by first | exact rfl | with_reducible assumption) (by omega) ((up_k (by omega)).trans e6) ?_
            refine go_bipush (p := 169) hf_104 rfl rfl cb_100 ?_
            first | refine go_nn_lt (p := 172) (p2 := 212) hf_104 rfl rfl rfl (by omega) (by omega) (fun h169 => ?_) (fun h169 => ?_) | refine go_ic_lt (p := 172) (p2 := 212) hf_104 rfl rfl rfl (fun h169 => ?_) (fun h169 => ?_)
            · refine go_iconst (p := 213) hf_104 rfl rfl ci_0 ?_
              exact k213 _ _ _ _ (bI_f (fun ⟨w, hE, hc1, hkn, ha12⟩ => by
                have hw9 := (entR_lt hE).1
                have e := ((val_iff (by omega)).mp (hEx w hE).2).2
                rw [f6, nI_eq (by omega) (by omega)] at e
                omega)).symm fr2_27 htxt
            · refine go_al0 (p := 173) hf_104 rfl rfl ?_
              refine go_getr (p := 176) hf_104 ho_104 rfl fl_6_13 rfl (by first | with_reducible assumption | rfl) rfl ?_
              refine go_il8 (p := 178) hf_104 rfl rfl ?_
              refine go_iald (p := 179) hf_104 rfl rfl (by first | with_reducible assumption | rfl) (by first | rfl | with_reducible assumption) (by first | exact rfl | with_reducible assumption) (by omega) ((up_k (by omega)).trans e6) ?_
              refine go_sipush (p := 182) hf_104 rfl rfl cs_163 ?_
              first | refine go_nn_gt (p := 185) (p2 := 212) hf_104 rfl rfl rfl (by omega) (by omega) (fun h182 => ?_) (fun h182 => ?_) | refine go_ic_gt (p := 185) (p2 := 212) hf_104 rfl rfl rfl (fun h182 => ?_) (fun h182 => ?_)
              · refine go_iconst (p := 213) hf_104 rfl rfl ci_0 ?_
                exact k213 _ _ _ _ (bI_f (fun ⟨w, hE, hc1, hkn, ha12⟩ => by
                  have hw9 := (entR_lt hE).1
                  have e := ((val_iff (by omega)).mp (hEx w hE).2).2
                  rw [f6, nI_eq (by omega) (by omega)] at e
                  omega)).symm fr2_27 htxt
              · refine go_al0 (p := 186) hf_104 rfl rfl ?_
                refine go_iconst (p := 187) hf_104 rfl rfl ci_3 ?_
                refine go_il5 (p := 189) hf_104 rfl rfl ?_
                refine go_il6 (p := 191) hf_104 rfl rfl ?_
                refine go_cw4 (p := 194) hf_104 rfl rfl (inv_v ho_104 cl_6_114) (by decide) nl_105 rfl rfl (by first | rfl | exact rcv_of (by with_reducible assumption)) rfl rfl rfl (by omega) (by omega) (c_knows (s := 3) (k := k1) (by omega)) ?_
                intro v9 M9 h9
                rewrite [h9.1, h9.2]
                clear h9 v9 M9
                simp only [Option.toList, List.cons_append, List.nil_append]
                refine go_if_eq (p := 197) (p2 := 212) hf_104 rfl rfl rfl (fun h194 => ?_) (fun h194 => ?_)
                · refine go_iconst (p := 213) hf_104 rfl rfl ci_0 ?_
                  exact k213 _ _ _ _ (bI_f (fun ⟨w, hE, hc1, hkn, ha12⟩ => by
                    obtain ⟨-, z1, z2⟩ := hEi w hE hc1
                    have e := hkn.2
                    rw [z1, z2] at e
                    apply bI_0.mp h194
                    rw [show 3 * 3 + k1 = 9 + k1 from rfl, hMv k1 (by omega)]
                    exact e)).symm fr2_27 htxt
                · refine go_al0 (p := 198) hf_104 rfl rfl ?_
                  refine go_getr (p := 201) hf_104 ho_104 rfl fl_6_38 rfl (by first | with_reducible assumption | rfl) rfl ?_
                  refine go_iconst (p := 202) hf_104 rfl rfl ci_3 ?_
                  refine go_iald (p := 203) hf_104 rfl rfl (by first | with_reducible assumption | rfl) (by first | rfl | with_reducible assumption) (by first | exact rfl | with_reducible assumption) (by omega) ((up_k (by omega)).trans e50) ?_
                  refine go_bipush (p := 205) hf_104 rfl rfl cb_12 ?_
                  first | refine go_nn_ge (p := 208) (p2 := 212) hf_104 rfl rfl rfl (by omega) (by omega) (fun h205 => ?_) (fun h205 => ?_) | refine go_ic_ge (p := 208) (p2 := 212) hf_104 rfl rfl rfl (fun h205 => ?_) (fun h205 => ?_)
                  · refine go_iconst (p := 213) hf_104 rfl rfl ci_0 ?_
                    exact k213 _ _ _ _ (bI_f (fun ⟨w, hE, hc1, hkn, ha12⟩ => by omega)).symm fr2_27 htxt
                  · refine go_iconst (p := 209) hf_104 rfl rfl ci_1 ?_
                    refine go_goto (p2 := 213) hf_104 rfl rfl ?_
                    refine k213 _ _ _ _ (bI_t ?_).symm fr2_27 htxt
                    have hlt : k0 < 4 ∧ k1 < 3 ∧ k2 < 31 ∧ n6 - 100 < 64 := by omega
                    refine ⟨((k0 * 4 + k1) * 32 + k2) * 64 + (n6 - 100), ⟨k0, k1, k2, n6 - 100, rfl, hlt.1, hlt.2.1, hlt.2.2.1, hlt.2.2.2, ek0, ek1, ?_, ?_, ?_, ?_⟩, by omega, ⟨by omega, ?_⟩, by omega⟩
                    · show num K A N (valF K A N (tailF K B N 2 t) (nI 4)) = _
                      rw [tailF_2]; exact ek2
                    · rw [tailF_3]; exact hP.2
                    · rw [tailF_3, fA3]
                      exact (val_iff (by omega)).mpr ⟨bI_n0.mp h132, by rw [f5, h147]⟩
                    · rw [tailF_3, fB3]
                      exact (val_iff (by omega)).mpr ⟨bI_n0.mp h157, by rw [f6]; exact congrArg nI (by omega)⟩
                    · have e := bI_n0.mp h194
                      rw [show 3 * 3 + k1 = 9 + k1 from rfl, hMv k1 (by omega)] at e
                      have z1 : (((k0 * 4 + k1) * 32 + k2) * 64 + (n6 - 100)) / 64 % 32 = k2 := by omega
                      have z2 : (((k0 * 4 + k1) * 32 + k2) * 64 + (n6 - 100)) / 2048 % 4 = k1 := by omega
                      rw [z1, z2]
                      exact e
    · rw [bI_f hP] at hx
      subst hx
      have hno : ¬ (∃ w, entR K A B N t w ∧ 1 ≤ w / 64 % 32 ∧ kn g w ∧ a.length < 12) := fun ⟨w, hE, hc1, _, _⟩ => hP (hp4 w hE hc1)
      refine go_put (p := 73) hf_104 ho_104 rfl fl_6_122 rfl (by first | with_reducible assumption | rfl) rfl (Or.inr ⟨rfl, (by first | exact Or.inl rfl | exact Or.inr rfl | with_reducible assumption)⟩) ?_
      refine go_al0 (p := 74) hf_104 rfl rfl ?_
      refine go_get (p := 77) hf_104 ho_104 rfl fl_6_122 rfl (by first | with_reducible assumption | rfl) rfl up_s ?_
      refine go_if_eq (p := 80) (p2 := 92) hf_104 rfl rfl rfl (fun h77 => ?_) (fun h77 => absurd rfl h77)
      refine go_iconst (p := 93) hf_104 rfl rfl ci_m1 ?_
      refine go_is7 (p := 95) hf_104 rfl rfl ?_
      refine go_al0 (p := 96) hf_104 rfl rfl ?_
      refine go_get (p := 99) hf_104 ho_104 rfl fl_6_122 rfl (by first | with_reducible assumption | rfl) rfl up_s ?_
      refine go_if_eq (p := 102) (p2 := 114) hf_104 rfl rfl rfl (fun h99 => ?_) (fun h99 => absurd rfl h99)
      refine go_iconst (p := 115) hf_104 rfl rfl ci_m1 ?_
      refine go_is8 (p := 117) hf_104 rfl rfl ?_
      refine go_al0 (p := 118) hf_104 rfl rfl ?_
      refine go_al0 (p := 119) hf_104 rfl rfl ?_
      refine go_get (p := 122) hf_104 ho_104 rfl fl_6_122 rfl (by first | with_reducible assumption | rfl) rfl up_s ?_
      refine go_if_eq (p := 125) (p2 := 212) hf_104 rfl rfl rfl (fun h122 => ?_) (fun h122 => absurd rfl h122)
      refine go_iconst (p := 213) hf_104 rfl rfl ci_0 ?_
      exact kno _ _ _ hno fr2_27
  refine go_al0 (p := 46) hf_104 rfl rfl ?_
  refine go_al0 (p := 47) hf_104 rfl rfl ?_
  refine go_get (p := 50) hf_104 ho_104 rfl fl_6_122 rfl (by first | with_reducible assumption | rfl) rfl gd ?_
  refine go_if_eq (p := 53) (p2 := 69) hf_104 rfl rfl rfl (fun h50 => ?_) (fun h50 => ?_)
  · refine go_iconst (p := 70) hf_104 rfl rfl ci_0 ?_
    exact k70 _ (bI_f (fun hp => bI_0.mp h50 hp.1)).symm
  · refine go_al0 (p := 54) hf_104 rfl rfl ?_
    refine go_al0 (p := 55) hf_104 rfl rfl ?_
    refine go_get (p := 58) hf_104 ho_104 rfl fl_6_125 rfl (by first | with_reducible assumption | rfl) rfl (kd (bI_n0.mp h50)).2.1 ?_
    refine go_iconst (p := 59) hf_104 rfl rfl ci_3 ?_
    refine go_cw3 (p := 62) hf_104 rfl rfl (inv_v ho_104 cl_6_128) (by decide) nl_100 rfl rfl (by first | rfl | exact rcv_of (by with_reducible assumption)) rfl rfl rfl (by omega) (by omega) (p_is qd4 (by omega) (kd (bI_n0.mp h50)).2.2) ?_
    intro v9 M9 h9
    rewrite [h9.1, h9.2]
    clear h9 v9 M9
    simp only [Option.toList, List.cons_append, List.nil_append]
    refine go_if_eq (p := 65) (p2 := 69) hf_104 rfl rfl rfl (fun h62 => ?_) (fun h62 => ?_)
    · refine go_iconst (p := 70) hf_104 rfl rfl ci_0 ?_
      exact k70 _ (bI_f (fun hp => bI_0.mp h62 hp.2)).symm
    · refine go_iconst (p := 66) hf_104 rfl rfl ci_1 ?_
      refine go_goto (p2 := 70) hf_104 rfl rfl ?_
      exact k70 _ (bI_t ⟨bI_n0.mp h50, bI_n0.mp h62⟩).symm
def frS (M1 M : sm_M) : Prop := ∀ p j, ¬ (p = 40 ∧ (j = 26 ∨ j = 27)) → ¬ (46 ≤ p ∧ p ≤ 48 ∧ j = 3) → ¬ (p = 49 ∧ 9 ≤ j) → ¬ (p = 50 ∧ j = 3) → ¬ (51 ≤ p ∧ p ≤ 54 ∧ 36 ≤ j ∧ j < 48) → M1 p j = M p j
theorem frS_2 {M M1 M2 : sm_M} (h : fr2 M2 M1) (h' : frS M1 M) : frS M2 M := fun p j h1 h2 h3 h4 h5 => (h p j h1).trans (h' p j h1 h2 h3 h4 h5)
theorem frS_tr {M M1 M2 : sm_M} (h : frS M2 M1) (h' : frS M1 M) : frS M2 M := fun p j h1 h2 h3 h4 h5 => (h p j h1 h2 h3 h4 h5).trans (h' p j h1 h2 h3 h4 h5)
theorem frS_up {M M1 : sm_M} {q i : Nat} {v : Int32} (h' : frS M1 M) (hq : (46 ≤ q ∧ q ≤ 48 ∧ i = 3) ∨ (q = 49 ∧ 9 ≤ i) ∨ (q = 50 ∧ i = 3) ∨ (q = 40 ∧ (i = 26 ∨ i = 27))) : frS (sm_up M1 q i v) M := fun p j h1 h2 h3 h4 h5 => by rw [up_o (by omega)]; exact h' p j h1 h2 h3 h4 h5
theorem rq_S {M M2 : sm_M} (h : rq M K A B N) (hf : frS M2 M) : rq M2 K A B N := rq_keep h (hf _ _ (by omega) (by omega) (by omega) (by omega) (by omega)) (fun p j _ _ => hf _ _ (by omega) (by omega) (by omega) (by omega) (by omega))
theorem rdL_len {g : Nat → Int32} : ∀ (n : Nat) (t : Int32) (a l : List Nat), rdL K A B N g n t a l → l.length ≤ a.length + n := by
  intro n
  induction n with
  | zero => intro t a l h; rw [h.2]; omega
  | succ n ih =>
    intro t a l h
    rcases h with ⟨-, h⟩ | ⟨-, w, -, -, h⟩
    · rw [h]; omega
    · have := ih _ _ _ h
      rw [List.length_append, List.length_singleton] at this
      omega
theorem r_isSeal {M : sm_M} {t : Int32} (hq : rq M K A B N) (hW : WT K A B N) (hv : vt N t) : cr 99 4 95 [.ref 40, .int t] M (fun v M1 => v = some (.int (bI (∃ g ow pw vv l, SL K A B N t g ow pw vv l))) ∧ (∀ g ow pw vv l, SL K A B N t g ow pw vv l → M1 46 3 = nI g ∧ M1 47 3 = nI ow ∧ M1 48 3 = nI pw ∧ (∀ j, j < 3 → M1 49 (9 + j) = nI (vv j)) ∧ re M1 3 l ∧ l.length ≤ 12 ∧ ∀ w ∈ l, w / 2048 % 4 < 3) ∧ frS M1 M) := by
  intro X J rc rs d lw hd hw
  show sm_wp tb_T X tb_ok d lw 99 0 [some (.ref 40), some (.int t), none, none, none] [] _ _
  have hN := hq.2.1
  refine go_al0 (p := 1) hf_99 rfl rfl ?_
  refine go_al0 (p := 2) hf_99 rfl rfl ?_
  refine go_il1 (p := 3) hf_99 rfl rfl ?_
  refine go_iconst (p := 4) hf_99 rfl rfl ci_4 ?_
  refine go_cw3 (p := 7) hf_99 rfl rfl (inv_v ho_99 cl_6_128) (by decide) nl_100 rfl rfl (by first | rfl | exact rcv_of (by with_reducible assumption)) rfl rfl rfl (by omega) (by omega) (p_is hq (by omega) hv) ?_
  intro v9 M9 h9
  rewrite [h9.1, h9.2]
  clear h9 v9 M9
  simp only [Option.toList, List.cons_append, List.nil_append]
  refine go_put (p := 10) hf_99 ho_99 rfl fl_6_122 rfl (by first | with_reducible assumption | rfl) rfl (Or.inr ⟨rfl, bI_01⟩) ?_
  refine go_al0 (p := 11) hf_99 rfl rfl ?_
  refine go_get (p := 14) hf_99 ho_99 rfl fl_6_122 rfl (by first | with_reducible assumption | rfl) rfl up_s ?_
  refine go_if_ne (p := 17) (p2 := 19) hf_99 rfl rfl rfl (fun h14 => ?_) (fun h14 => ?_)
  · obtain ⟨j0, a0, b0, hj0, ha0, hb0, rfl, eK, eA, eB, fA, fB⟩ := WT_2 hW hN (by omega) (by omega) (bI_n0.mp h14)
    have eT1 : tailF K B N 1 (nI j0) = nI b0 := by rw [tail_t (bI_n0.mp h14)]; exact fB
    have eBd : partF K A B N (nI j0) 0 = nI a0 := by
      show valF K A N (nI j0) (nI 4) = _
      rw [val_t (bI_n0.mp h14)]; exact fA
    rw [← hq.2.2.2.1] at eA
    rw [← hq.2.2.2.2] at eB
    have k94 : ∀ x, x = bI (rdAt K N (nI b0) = nI 5 ∧ rdAt B N (nI b0) = nI a0 ∧ atm K A N (rdAt A N (nI b0)) = nI 9) → sm_wp tb_T X tb_ok d lw 99 94 [some (.ref 40), some (.int (nI j0)), some (.int (nI b0)), none, none] [.int x, .ref 40] (wSH, sm_up (sm_up M 40 27 (bI (rdAt K N (nI j0) = nI 4))) 40 26 (nI a0), J, rc, rs) (fun o h' => ∃ v M1, o = .inl v ∧ h' = (wSH, M1, J, rc, rs) ∧ v = some (.int (bI (∃ g ow pw vv l, SL K A B N (nI j0) g ow pw vv l))) ∧ (∀ g ow pw vv l, SL K A B N (nI j0) g ow pw vv l → M1 46 3 = nI g ∧ M1 47 3 = nI ow ∧ M1 48 3 = nI pw ∧ (∀ j, j < 3 → M1 49 (9 + j) = nI (vv j)) ∧ re M1 3 l ∧ l.length ≤ 12 ∧ ∀ w ∈ l, w / 2048 % 4 < 3) ∧ frS M1 M) := by
      intro x hx
      refine go_put (p := 97) hf_99 ho_99 rfl fl_6_122 rfl (by first | with_reducible assumption | rfl) rfl (Or.inr ⟨rfl, (hx ▸ bI_01)⟩) ?_
      refine go_al0 (p := 98) hf_99 rfl rfl ?_
      refine go_getr (p := 101) hf_99 ho_99 rfl fl_6_38 rfl (by first | with_reducible assumption | rfl) rfl ?_
      refine go_iconst (p := 102) hf_99 rfl rfl ci_3 ?_
      refine go_iconst (p := 103) hf_99 rfl rfl ci_0 ?_
      refine go_iast (p := 104) hf_99 rfl rfl (by first | with_reducible assumption | rfl) (by first | rfl | with_reducible assumption) (by first | exact rfl | with_reducible assumption) (by omega) ?_
      refine go_al0 (p := 105) hf_99 rfl rfl ?_
      refine go_getr (p := 108) hf_99 ho_99 rfl fl_6_26 rfl (by first | with_reducible assumption | rfl) rfl ?_
      refine go_iconst (p := 109) hf_99 rfl rfl ci_3 ?_
      obtain ⟨Mb, eMb⟩ : ∃ Mb, Mb = sm_up (sm_up (sm_up (sm_up M 40 27 (bI (rdAt K N (nI j0) = nI 4))) 40 26 (nI a0)) 40 27 x) 50 3 (nI 0) := ⟨_, rfl⟩
      have fbS : frS Mb M := by
        rw [eMb]
        exact frS_up (frS_up (frS_up (frS_up (fun _ _ _ _ _ _ _ => rfl) (by omega)) (by omega)) (by omega)) (by omega)
      have b27 : Mb 40 27 = bI (rdAt K N (nI b0) = nI 5 ∧ rdAt B N (nI b0) = nI a0 ∧ atm K A N (rdAt A N (nI b0)) = nI 9) := by rw [eMb, up_k (by omega), up_s]; exact hx
      have b26 : (rdAt K N (nI b0) = nI 5 ∧ rdAt B N (nI b0) = nI a0 ∧ atm K A N (rdAt A N (nI b0)) = nI 9) → Mb 40 26 = nI a0 ∧ vt N (nI a0) := fun _ => ⟨by rw [eMb, up_k (by omega), up_i (by omega), up_s], Or.inr ⟨a0, by omega, rfl⟩⟩
      have b50 : Mb 50 3 = nI 0 := by rw [eMb, up_s]
      rw [← eMb]
      clear eMb
      refine go_al0 (p := 110) hf_99 rfl rfl ?_
      refine go_iconst (p := 111) hf_99 rfl rfl ci_0 ?_
      refine go_bipush (p := 113) hf_99 rfl rfl cb_30 ?_
      refine go_cw3 (p := 116) hf_99 rfl rfl (inv_v ho_99 cl_6_135) (by decide) nl_101 rfl rfl (by first | rfl | exact rcv_of (by with_reducible assumption)) rfl rfl rfl (by omega) (by omega) (r_figure (a := 0) (b := 30) (by omega) (by omega) (rq_S hq fbS) hW b27 b26) ?_
      rintro v9 Mx ⟨ug, rfl, gb, kb, fb⟩
      simp only [Option.toList, List.cons_append, List.nil_append]
      refine go_iast (p := 117) hf_99 rfl rfl (by first | with_reducible assumption | rfl) (by first | rfl | with_reducible assumption) (by first | exact rfl | with_reducible assumption) (by omega) ?_
      refine go_al0 (p := 118) hf_99 rfl rfl ?_
      refine go_getr (p := 121) hf_99 ho_99 rfl fl_6_29 rfl (by first | with_reducible assumption | rfl) rfl ?_
      refine go_iconst (p := 122) hf_99 rfl rfl ci_3 ?_
      refine go_al0 (p := 123) hf_99 rfl rfl ?_
      refine go_iconst (p := 124) hf_99 rfl rfl ci_0 ?_
      refine go_iconst (p := 125) hf_99 rfl rfl ci_2 ?_
      refine go_cw3 (p := 128) hf_99 rfl rfl (inv_v ho_99 cl_6_135) (by decide) nl_101 rfl rfl (by first | rfl | exact rcv_of (by with_reducible assumption)) rfl rfl rfl (by omega) (by omega) (r_figure (a := 0) (b := 2) (by omega) (by omega) (rq_S hq (frS_up (frS_2 fb fbS) (by omega))) hW ((up_k (by omega)).trans gb) (fun h => ⟨(up_k (by omega)).trans (kb h).2.1, (kb h).2.2⟩)) ?_
      rintro v9 My ⟨uo, rfl, gc, kc, fc⟩
      simp only [Option.toList, List.cons_append, List.nil_append]
      refine go_iast (p := 129) hf_99 rfl rfl (by first | with_reducible assumption | rfl) (by first | rfl | with_reducible assumption) (by first | exact rfl | with_reducible assumption) (by omega) ?_
      refine go_al0 (p := 130) hf_99 rfl rfl ?_
      refine go_cw1 (p := 133) hf_99 rfl rfl (inv_v ho_99 cl_6_131) (by decide) nl_102 rfl rfl (by first | rfl | exact rcv_of (by with_reducible assumption)) rfl rfl rfl (by omega) (by omega) (r_part (rq_S hq (frS_up (frS_2 fc (frS_up (frS_2 fb fbS) (by omega))) (by omega))) hW ((up_k (by omega)).trans gc) (fun h => ⟨(up_k (by omega)).trans (kc h).2.1, (kc h).2.2⟩)) ?_
      rintro v9 Md ⟨ub, rfl, gd, kd, nd, fd⟩
      simp only [Option.toList, List.cons_append, List.nil_append]
      refine go_is3 (p := 134) hf_99 rfl rfl ?_
      have hvb : vt N ub := by
        by_cases h : ((((rdAt K N (nI b0) = nI 5 ∧ rdAt B N (nI b0) = nI a0 ∧ atm K A N (rdAt A N (nI b0)) = nI 9) ∧ ∃ n, 0 ≤ n ∧ n ≤ 30 ∧ num K A N (valF K A N (nI a0) (nI 4)) = nI n) ∧ ∃ n, 0 ≤ n ∧ n ≤ 2 ∧ num K A N (valF K A N (tailF K B N 1 (nI a0)) (nI 4)) = nI n) ∧ rdAt K N (tailF K B N 1 (tailF K B N 1 (nI a0))) = nI 4)
        · rw [(kd h).1]; exact (kd h).2.2.1
        · rw [nd h]; exact Or.inl rfl
      refine go_al0 (p := 135) hf_99 rfl rfl ?_
      refine go_getr (p := 138) hf_99 ho_99 rfl fl_6_32 rfl (by first | with_reducible assumption | rfl) rfl ?_
      refine go_iconst (p := 139) hf_99 rfl rfl ci_3 ?_
      refine go_al0 (p := 140) hf_99 rfl rfl ?_
      refine go_il3 (p := 141) hf_99 rfl rfl ?_
      refine go_cw2 (p := 144) hf_99 rfl rfl (inv_v ho_99 cl_6_139) (by decide) nl_103 rfl rfl (by first | rfl | exact rcv_of (by with_reducible assumption)) rfl rfl rfl (by omega) (by omega) (r_boxed (rq_S hq (frS_2 fd (frS_up (frS_2 fc (frS_up (frS_2 fb fbS) (by omega))) (by omega)))) hW hvb) ?_
      rintro v9 Mz ⟨eMz, uw, rfl, hw8⟩
      rewrite [eMz]
      clear eMz Mz
      simp only [Option.toList, List.cons_append, List.nil_append]
      refine go_iast (p := 145) hf_99 rfl rfl (by first | with_reducible assumption | rfl) (by first | rfl | with_reducible assumption) (by first | exact rfl | with_reducible assumption) (by omega) ?_
      have hP34 : ((((rdAt K N (nI b0) = nI 5 ∧ rdAt B N (nI b0) = nI a0 ∧ atm K A N (rdAt A N (nI b0)) = nI 9) ∧ ∃ n, 0 ≤ n ∧ n ≤ 30 ∧ num K A N (valF K A N (nI a0) (nI 4)) = nI n) ∧ ∃ n, 0 ≤ n ∧ n ≤ 2 ∧ num K A N (valF K A N (tailF K B N 1 (nI a0)) (nI 4)) = nI n) ∧ ∃ n, n < 8 ∧ hbF K A B N (valF K A N (tailF K B N 1 (tailF K B N 1 (nI a0))) (nI 4)) = nI n) ↔ ((((rdAt K N (nI b0) = nI 5 ∧ rdAt B N (nI b0) = nI a0 ∧ atm K A N (rdAt A N (nI b0)) = nI 9) ∧ ∃ n, 0 ≤ n ∧ n ≤ 30 ∧ num K A N (valF K A N (nI a0) (nI 4)) = nI n) ∧ ∃ n, 0 ≤ n ∧ n ≤ 2 ∧ num K A N (valF K A N (tailF K B N 1 (nI a0)) (nI 4)) = nI n) ∧ rdAt K N (tailF K B N 1 (tailF K B N 1 (nI a0))) = nI 4) ∧ ∃ n, n < 8 ∧ hbF K A B N ub = nI n := by
        constructor
        · rintro ⟨h1, n, h2, h3⟩
          have hk4 : rdAt K N (tailF K B N 1 (tailF K B N 1 (nI a0))) = nI 4 := by
            by_cases hk : rdAt K N (tailF K B N 1 (tailF K B N 1 (nI a0))) = nI 4
            · exact hk
            · rw [val_f hk] at h3
              unfold hbF at h3
              rw [if_neg (fun hc => by have := hc.1; rw [rd_m1] at this; exact absurd this.symm (nI_m1 (by omega)))] at h3
              exact absurd h3.symm (nI_m1 (by omega))
          refine ⟨⟨h1, hk4⟩, n, h2, ?_⟩
          rw [(kd ⟨h1, hk4⟩).1, ← val_t (A := A) hk4]
          exact h3
        · rintro ⟨h1, n, h2, h3⟩
          refine ⟨h1.1, n, h2, ?_⟩
          rw [val_t h1.2, ← (kd h1).1]
          exact h3
      obtain ⟨Mq, eMq⟩ : ∃ Mq, Mq = sm_up Md 48 3 uw := ⟨_, rfl⟩
      have fqS : frS Mq M := by
        rw [eMq]
        exact frS_up (frS_2 fd (frS_up (frS_2 fc (frS_up (frS_2 fb fbS) (by omega))) (by omega))) (by omega)
      have q50 : Mq 50 3 = nI 0 := by rw [eMq, up_k (by omega), fd _ _ (by omega), up_k (by omega), fc _ _ (by omega), up_k (by omega), fb _ _ (by omega)]; exact b50
      have q46 : ((rdAt K N (nI b0) = nI 5 ∧ rdAt B N (nI b0) = nI a0 ∧ atm K A N (rdAt A N (nI b0)) = nI 9) ∧ ∃ n, 0 ≤ n ∧ n ≤ 30 ∧ num K A N (valF K A N (nI a0) (nI 4)) = nI n) → Mq 46 3 = num K A N (valF K A N (nI a0) (nI 4)) := fun h => by rw [eMq, up_k (by omega), fd _ _ (by omega), up_k (by omega), fc _ _ (by omega), up_s]; exact (kb h).1
      have q47 : (((rdAt K N (nI b0) = nI 5 ∧ rdAt B N (nI b0) = nI a0 ∧ atm K A N (rdAt A N (nI b0)) = nI 9) ∧ ∃ n, 0 ≤ n ∧ n ≤ 30 ∧ num K A N (valF K A N (nI a0) (nI 4)) = nI n) ∧ ∃ n, 0 ≤ n ∧ n ≤ 2 ∧ num K A N (valF K A N (tailF K B N 1 (nI a0)) (nI 4)) = nI n) → Mq 47 3 = num K A N (valF K A N (tailF K B N 1 (nI a0)) (nI 4)) := fun h => by rw [eMq, up_k (by omega), fd _ _ (by omega), up_s]; exact (kc h).1
      have hq26 : ((((rdAt K N (nI b0) = nI 5 ∧ rdAt B N (nI b0) = nI a0 ∧ atm K A N (rdAt A N (nI b0)) = nI 9) ∧ ∃ n, 0 ≤ n ∧ n ≤ 30 ∧ num K A N (valF K A N (nI a0) (nI 4)) = nI n) ∧ ∃ n, 0 ≤ n ∧ n ≤ 2 ∧ num K A N (valF K A N (tailF K B N 1 (nI a0)) (nI 4)) = nI n) ∧ ∃ n, n < 8 ∧ hbF K A B N (valF K A N (tailF K B N 1 (tailF K B N 1 (nI a0))) (nI 4)) = nI n) → Mq 40 26 = tailF K B N 3 (nI a0) ∧ vt N (tailF K B N 3 (nI a0)) := by
        intro h
        have h3 := (hP34.mp h).1
        have e : tailF K B N 3 (nI a0) = rdAt B N (tailF K B N 1 (tailF K B N 1 (nI a0))) := tailF_3.trans (tail_t h3.2)
        rw [e]
        exact ⟨by rw [eMq, up_k (by omega)]; exact (kd h3).2.1, (kd h3).2.2.2⟩
      have huw : (∃ n, n < 8 ∧ hbF K A B N ub = nI n) ↔ ¬ uw < 0 := by
        rcases hw8 with ⟨⟨n, h1, h2⟩, h3⟩ | ⟨h1, h2⟩
        · rw [h3, h2]
          exact ⟨fun _ => nI_pos (by omega), fun _ => ⟨n, h1, rfl⟩⟩
        · rw [h2]
          exact ⟨fun h => absurd h h1, fun h => absurd (by decide) h⟩
      have q48 : ((((rdAt K N (nI b0) = nI 5 ∧ rdAt B N (nI b0) = nI a0 ∧ atm K A N (rdAt A N (nI b0)) = nI 9) ∧ ∃ n, 0 ≤ n ∧ n ≤ 30 ∧ num K A N (valF K A N (nI a0) (nI 4)) = nI n) ∧ ∃ n, 0 ≤ n ∧ n ≤ 2 ∧ num K A N (valF K A N (tailF K B N 1 (nI a0)) (nI 4)) = nI n) ∧ ∃ n, n < 8 ∧ hbF K A B N (valF K A N (tailF K B N 1 (tailF K B N 1 (nI a0))) (nI 4)) = nI n) → Mq 48 3 = hbF K A B N (valF K A N (tailF K B N 1 (tailF K B N 1 (nI a0))) (nI 4)) := by
        intro h
        obtain ⟨h3, hn⟩ := hP34.mp h
        rw [eMq, up_s, val_t h3.2, ← (kd h3).1]
        rcases hw8 with ⟨-, h5⟩ | ⟨h5, -⟩
        · exact h5
        · exact absurd hn h5
      have q27 : Mq 40 27 = bI ((((rdAt K N (nI b0) = nI 5 ∧ rdAt B N (nI b0) = nI a0 ∧ atm K A N (rdAt A N (nI b0)) = nI 9) ∧ ∃ n, 0 ≤ n ∧ n ≤ 30 ∧ num K A N (valF K A N (nI a0) (nI 4)) = nI n) ∧ ∃ n, 0 ≤ n ∧ n ≤ 2 ∧ num K A N (valF K A N (tailF K B N 1 (nI a0)) (nI 4)) = nI n) ∧ rdAt K N (tailF K B N 1 (tailF K B N 1 (nI a0))) = nI 4) := by rw [eMq, up_k (by omega)]; exact gd
      have q483 : Mq 48 3 = uw := by rw [eMq, up_s]
      rw [← eMq]
      have k167 : ∀ x, x = bI ((((rdAt K N (nI b0) = nI 5 ∧ rdAt B N (nI b0) = nI a0 ∧ atm K A N (rdAt A N (nI b0)) = nI 9) ∧ ∃ n, 0 ≤ n ∧ n ≤ 30 ∧ num K A N (valF K A N (nI a0) (nI 4)) = nI n) ∧ ∃ n, 0 ≤ n ∧ n ≤ 2 ∧ num K A N (valF K A N (tailF K B N 1 (nI a0)) (nI 4)) = nI n) ∧ ∃ n, n < 8 ∧ hbF K A B N (valF K A N (tailF K B N 1 (tailF K B N 1 (nI a0))) (nI 4)) = nI n) → sm_wp tb_T X tb_ok d lw 99 167 [some (.ref 40), some (.int (nI j0)), some (.int (nI b0)), some (.int ub), none] [.int x, .ref 40] (wSH, Mq, J, rc, rs) (fun o h' => ∃ v M1, o = .inl v ∧ h' = (wSH, M1, J, rc, rs) ∧ v = some (.int (bI (∃ g ow pw vv l, SL K A B N (nI j0) g ow pw vv l))) ∧ (∀ g ow pw vv l, SL K A B N (nI j0) g ow pw vv l → M1 46 3 = nI g ∧ M1 47 3 = nI ow ∧ M1 48 3 = nI pw ∧ (∀ j, j < 3 → M1 49 (9 + j) = nI (vv j)) ∧ re M1 3 l ∧ l.length ≤ 12 ∧ ∀ w ∈ l, w / 2048 % 4 < 3) ∧ frS M1 M) := by
        intro x hx
        have fwS : frS (sm_up Mq 40 27 x) M := frS_up fqS (by omega)
        obtain ⟨Mw, eMw⟩ : ∃ Mw, Mw = sm_up Mq 40 27 x := ⟨_, rfl⟩
        have w27 : Mw 40 27 = bI ((((rdAt K N (nI b0) = nI 5 ∧ rdAt B N (nI b0) = nI a0 ∧ atm K A N (rdAt A N (nI b0)) = nI 9) ∧ ∃ n, 0 ≤ n ∧ n ≤ 30 ∧ num K A N (valF K A N (nI a0) (nI 4)) = nI n) ∧ ∃ n, 0 ≤ n ∧ n ≤ 2 ∧ num K A N (valF K A N (tailF K B N 1 (nI a0)) (nI 4)) = nI n) ∧ ∃ n, n < 8 ∧ hbF K A B N (valF K A N (tailF K B N 1 (tailF K B N 1 (nI a0))) (nI 4)) = nI n) := by rw [eMw, up_s]; exact hx
        have w26 : ((((rdAt K N (nI b0) = nI 5 ∧ rdAt B N (nI b0) = nI a0 ∧ atm K A N (rdAt A N (nI b0)) = nI 9) ∧ ∃ n, 0 ≤ n ∧ n ≤ 30 ∧ num K A N (valF K A N (nI a0) (nI 4)) = nI n) ∧ ∃ n, 0 ≤ n ∧ n ≤ 2 ∧ num K A N (valF K A N (tailF K B N 1 (nI a0)) (nI 4)) = nI n) ∧ ∃ n, n < 8 ∧ hbF K A B N (valF K A N (tailF K B N 1 (tailF K B N 1 (nI a0))) (nI 4)) = nI n) → Mw 40 26 = tailF K B N 3 (nI a0) ∧ vt N (tailF K B N 3 (nI a0)) := fun h => by rw [eMw, up_i (by omega)]; exact hq26 h
        have w50 : Mw 50 3 = nI 0 := by rw [eMw, up_k (by omega)]; exact q50
        have hw46 : ((rdAt K N (nI b0) = nI 5 ∧ rdAt B N (nI b0) = nI a0 ∧ atm K A N (rdAt A N (nI b0)) = nI 9) ∧ ∃ n, 0 ≤ n ∧ n ≤ 30 ∧ num K A N (valF K A N (nI a0) (nI 4)) = nI n) → Mw 46 3 = num K A N (valF K A N (nI a0) (nI 4)) := fun h => by rw [eMw, up_k (by omega)]; exact q46 h
        have hw47 : (((rdAt K N (nI b0) = nI 5 ∧ rdAt B N (nI b0) = nI a0 ∧ atm K A N (rdAt A N (nI b0)) = nI 9) ∧ ∃ n, 0 ≤ n ∧ n ≤ 30 ∧ num K A N (valF K A N (nI a0) (nI 4)) = nI n) ∧ ∃ n, 0 ≤ n ∧ n ≤ 2 ∧ num K A N (valF K A N (tailF K B N 1 (nI a0)) (nI 4)) = nI n) → Mw 47 3 = num K A N (valF K A N (tailF K B N 1 (nI a0)) (nI 4)) := fun h => by rw [eMw, up_k (by omega)]; exact q47 h
        have hw48 : ((((rdAt K N (nI b0) = nI 5 ∧ rdAt B N (nI b0) = nI a0 ∧ atm K A N (rdAt A N (nI b0)) = nI 9) ∧ ∃ n, 0 ≤ n ∧ n ≤ 30 ∧ num K A N (valF K A N (nI a0) (nI 4)) = nI n) ∧ ∃ n, 0 ≤ n ∧ n ≤ 2 ∧ num K A N (valF K A N (tailF K B N 1 (nI a0)) (nI 4)) = nI n) ∧ ∃ n, n < 8 ∧ hbF K A B N (valF K A N (tailF K B N 1 (tailF K B N 1 (nI a0))) (nI 4)) = nI n) → Mw 48 3 = hbF K A B N (valF K A N (tailF K B N 1 (tailF K B N 1 (nI a0))) (nI 4)) := fun h => by rw [eMw, up_k (by omega)]; exact q48 h
        rw [← eMw] at fwS
        have wf : ∀ (M2 : sm_M) (y3 y4 : Option Value), ¬ (∃ g ow pw vv l, SL K A B N (nI j0) g ow pw vv l) → M2 40 27 = nI 0 → frS M2 M → sm_wp tb_T X tb_ok d lw 99 202 [some (.ref 40), some (.int (nI j0)), some (.int (nI b0)), y3, y4] [] (wSH, M2, J, rc, rs) (fun o h' => ∃ v M1, o = .inl v ∧ h' = (wSH, M1, J, rc, rs) ∧ v = some (.int (bI (∃ g ow pw vv l, SL K A B N (nI j0) g ow pw vv l))) ∧ (∀ g ow pw vv l, SL K A B N (nI j0) g ow pw vv l → M1 46 3 = nI g ∧ M1 47 3 = nI ow ∧ M1 48 3 = nI pw ∧ (∀ j, j < 3 → M1 49 (9 + j) = nI (vv j)) ∧ re M1 3 l ∧ l.length ≤ 12 ∧ ∀ w ∈ l, w / 2048 % 4 < 3) ∧ frS M1 M) := by
          intro M2 y3 y4 hno hg f2
          refine go_al0 (p := 203) hf_99 rfl rfl ?_
          refine go_get (p := 206) hf_99 ho_99 rfl fl_6_122 rfl (by first | with_reducible assumption | rfl) rfl hg ?_
          refine go_if_eq (p := 209) (p2 := 243) hf_99 rfl rfl rfl (fun h206 => ?_) (fun h206 => absurd rfl h206)
          refine go_al0 (p := 244) hf_99 rfl rfl ?_
          refine go_get (p := 247) hf_99 ho_99 rfl fl_6_122 rfl (by first | with_reducible assumption | rfl) rfl hg ?_
          refine go_if_eq (p := 250) (p2 := 266) hf_99 rfl rfl rfl (fun h247 => ?_) (fun h247 => absurd rfl h247)
          refine go_iconst (p := 267) hf_99 rfl rfl ci_0 ?_
          refine go_ret2 hf_99 rfl nl_99 (by first | exact Or.inl rfl | exact Or.inr rfl | with_reducible assumption) ?_
          exact ⟨_, _, rfl, rfl, by rw [bI_f hno], fun g ow pw vv l h => absurd ⟨g, ow, pw, vv, l, h⟩ hno, f2⟩
        have vl : ∀ (n k : Nat) (M2 : sm_M), k + n = 3 → M2 40 27 = bI (((((rdAt K N (nI b0) = nI 5 ∧ rdAt B N (nI b0) = nI a0 ∧ atm K A N (rdAt A N (nI b0)) = nI 9) ∧ ∃ n, 0 ≤ n ∧ n ≤ 30 ∧ num K A N (valF K A N (nI a0) (nI 4)) = nI n) ∧ ∃ n, 0 ≤ n ∧ n ≤ 2 ∧ num K A N (valF K A N (tailF K B N 1 (nI a0)) (nI 4)) = nI n) ∧ ∃ n, n < 8 ∧ hbF K A B N (valF K A N (tailF K B N 1 (tailF K B N 1 (nI a0))) (nI 4)) = nI n) ∧ ∀ j, j < k → (∃ n, 0 ≤ n ∧ n ≤ 30 ∧ num K A N (valF K A N (tailF K B N (3 + j) (nI a0)) (nI 4)) = nI n)) → ((((((rdAt K N (nI b0) = nI 5 ∧ rdAt B N (nI b0) = nI a0 ∧ atm K A N (rdAt A N (nI b0)) = nI 9) ∧ ∃ n, 0 ≤ n ∧ n ≤ 30 ∧ num K A N (valF K A N (nI a0) (nI 4)) = nI n) ∧ ∃ n, 0 ≤ n ∧ n ≤ 2 ∧ num K A N (valF K A N (tailF K B N 1 (nI a0)) (nI 4)) = nI n) ∧ ∃ n, n < 8 ∧ hbF K A B N (valF K A N (tailF K B N 1 (tailF K B N 1 (nI a0))) (nI 4)) = nI n) ∧ ∀ j, j < k → (∃ n, 0 ≤ n ∧ n ≤ 30 ∧ num K A N (valF K A N (tailF K B N (3 + j) (nI a0)) (nI 4)) = nI n)) → M2 40 26 = tailF K B N (3 + k) (nI a0) ∧ vt N (tailF K B N (3 + k) (nI a0))) → ((((((rdAt K N (nI b0) = nI 5 ∧ rdAt B N (nI b0) = nI a0 ∧ atm K A N (rdAt A N (nI b0)) = nI 9) ∧ ∃ n, 0 ≤ n ∧ n ≤ 30 ∧ num K A N (valF K A N (nI a0) (nI 4)) = nI n) ∧ ∃ n, 0 ≤ n ∧ n ≤ 2 ∧ num K A N (valF K A N (tailF K B N 1 (nI a0)) (nI 4)) = nI n) ∧ ∃ n, n < 8 ∧ hbF K A B N (valF K A N (tailF K B N 1 (tailF K B N 1 (nI a0))) (nI 4)) = nI n) ∧ ∀ j, j < k → (∃ n, 0 ≤ n ∧ n ≤ 30 ∧ num K A N (valF K A N (tailF K B N (3 + j) (nI a0)) (nI 4)) = nI n)) → ∀ j, j < k → M2 49 (9 + j) = num K A N (valF K A N (tailF K B N (3 + j) (nI a0)) (nI 4))) → (∀ p j, ¬ (p = 40 ∧ (j = 26 ∨ j = 27)) → ¬ (p = 49 ∧ 9 ≤ j) → M2 p j = Mw p j) → sm_wp tb_T X tb_ok d lw 99 173 [some (.ref 40), some (.int (nI j0)), some (.int (nI b0)), some (.int ub), some (.int (nI k))] [] (wSH, M2, J, rc, rs) (fun o h' => ∃ v M1, o = .inl v ∧ h' = (wSH, M1, J, rc, rs) ∧ v = some (.int (bI (∃ g ow pw vv l, SL K A B N (nI j0) g ow pw vv l))) ∧ (∀ g ow pw vv l, SL K A B N (nI j0) g ow pw vv l → M1 46 3 = nI g ∧ M1 47 3 = nI ow ∧ M1 48 3 = nI pw ∧ (∀ j, j < 3 → M1 49 (9 + j) = nI (vv j)) ∧ re M1 3 l ∧ l.length ≤ 12 ∧ ∀ w ∈ l, w / 2048 % 4 < 3) ∧ frS M1 M) := by
          intro n
          induction n with
          | zero =>
            intro k M2 hk hg2 hr2 hvx f2
            have hk3 : k = 3 := by omega
            subst hk3
            have f2S : frS M2 M := fun p j h1 h2 h3 h4 h5 => (f2 p j h1 h3).trans (fwS p j h1 h2 h3 h4 h5)
            refine go_il4 (p := 175) hf_99 rfl rfl ?_
            refine go_iconst (p := 176) hf_99 rfl rfl ci_3 ?_
            first | refine go_nn_ge (p := 179) (p2 := 202) hf_99 rfl rfl rfl (by omega) (by omega) (fun h176 => ?_) (fun h176 => absurd h176 (by omega)) | refine go_ic_ge (p := 179) (p2 := 202) hf_99 rfl rfl rfl (fun h176 => ?_) (fun h176 => absurd h176 (by omega))
            by_cases hP : (((((rdAt K N (nI b0) = nI 5 ∧ rdAt B N (nI b0) = nI a0 ∧ atm K A N (rdAt A N (nI b0)) = nI 9) ∧ ∃ n, 0 ≤ n ∧ n ≤ 30 ∧ num K A N (valF K A N (nI a0) (nI 4)) = nI n) ∧ ∃ n, 0 ≤ n ∧ n ≤ 2 ∧ num K A N (valF K A N (tailF K B N 1 (nI a0)) (nI 4)) = nI n) ∧ ∃ n, n < 8 ∧ hbF K A B N (valF K A N (tailF K B N 1 (tailF K B N 1 (nI a0))) (nI 4)) = nI n) ∧ ∀ j, j < 3 → (∃ n, 0 ≤ n ∧ n ≤ 30 ∧ num K A N (valF K A N (tailF K B N (3 + j) (nI a0)) (nI 4)) = nI n))
            · obtain ⟨⟨⟨⟨hp0, g, -, hg30, eg⟩, ow, -, how, eow⟩, pw, hpw, epw⟩, hvs⟩ := id hP
              have hv2 : ∀ j, ∃ n, j < 3 → n ≤ 30 ∧ num K A N (valF K A N (tailF K B N (3 + j) (nI a0)) (nI 4)) = nI n := fun j => by
                by_cases hj : j < 3
                · obtain ⟨n, -, q1, q2⟩ := hvs j hj
                  exact ⟨n, fun _ => ⟨q1, q2⟩⟩
                · exact ⟨0, fun q => absurd q hj⟩
              obtain ⟨vv, hvv⟩ := Classical.axiomOfChoice hv2
              have hmkS : ∀ l, rdL K A B N (fun j => nI (vv j)) 12 (tailF K B N 6 (nI a0)) [] l → SL K A B N (nI j0) g ow pw vv l := by
                intro l hl
                unfold SL
                rw [eT1, eBd]
                exact ⟨hp0.1, hp0.2.1, hp0.2.2, eg, by omega, eow, by omega, epw, hpw, fun j hj => ⟨(hvv j hj).2, by have := (hvv j hj).1; omega⟩, hl⟩
              have hex : (∃ g ow pw vv l, SL K A B N (nI j0) g ow pw vv l) → ∃ l, rdL K A B N (fun j => nI (vv j)) 12 (tailF K B N 6 (nI a0)) [] l := by
                rintro ⟨g', ow', pw', vv', l, h⟩
                unfold SL at h
                rw [eT1, eBd] at h
                obtain ⟨-, -, -, -, -, -, -, -, -, h1, h2⟩ := h
                refine ⟨l, rdL_congr (fun j hj => ?_) _ _ _ _ h2⟩
                rw [← (h1 j hj).1]
                exact (hvv j hj).2
              have wl : ∀ (n : Nat) (a : List Nat) (r : Int32) (M2 : sm_M) (y4 : Option Value), a.length + n = 12 → M2 40 27 = nI 1 → M2 40 26 = r → vt N r → re M2 3 a → (M2 46 3 = nI g ∧ M2 47 3 = nI ow ∧ M2 48 3 = nI pw ∧ ∀ j, j < 3 → M2 49 (9 + j) = nI (vv j)) → (∀ l, rdL K A B N (fun j => nI (vv j)) 12 (tailF K B N 6 (nI a0)) [] l ↔ rdL K A B N (fun j => nI (vv j)) n r a l) → (∀ w ∈ a, w / 2048 % 4 < 3) → frS M2 M → sm_wp tb_T X tb_ok d lw 99 202 [some (.ref 40), some (.int (nI j0)), some (.int (nI b0)), some (.int ub), y4] [] (wSH, M2, J, rc, rs) (fun o h' => ∃ v M1, o = .inl v ∧ h' = (wSH, M1, J, rc, rs) ∧ v = some (.int (bI (∃ g ow pw vv l, SL K A B N (nI j0) g ow pw vv l))) ∧ (∀ g ow pw vv l, SL K A B N (nI j0) g ow pw vv l → M1 46 3 = nI g ∧ M1 47 3 = nI ow ∧ M1 48 3 = nI pw ∧ (∀ j, j < 3 → M1 49 (9 + j) = nI (vv j)) ∧ re M1 3 l ∧ l.length ≤ 12 ∧ ∀ w ∈ l, w / 2048 % 4 < 3) ∧ frS M1 M) := by
                intro n
                induction n with
                | zero =>
                  intro a r M2 y4 hlen hg2 hr2 hvr hre hd3 hiff hmk f2
                  have q2 : rq M2 K A B N := rq_S hq f2
                  refine go_al0 (p := 203) hf_99 rfl rfl ?_
                  refine go_get (p := 206) hf_99 ho_99 rfl fl_6_122 rfl (by first | with_reducible assumption | rfl) rfl hg2 ?_
                  refine go_if_eq (p := 209) (p2 := 243) hf_99 rfl rfl rfl (fun h206 => absurd h206 nI_10) (fun h206 => ?_)
                  refine go_al0 (p := 210) hf_99 rfl rfl ?_
                  refine go_al0 (p := 211) hf_99 rfl rfl ?_
                  refine go_get (p := 214) hf_99 ho_99 rfl fl_6_125 rfl (by first | with_reducible assumption | rfl) rfl hr2 ?_
                  refine go_iconst (p := 215) hf_99 rfl rfl ci_1 ?_
                  refine go_cw3 (p := 218) hf_99 rfl rfl (inv_v ho_99 cl_6_128) (by decide) nl_100 rfl rfl (by first | rfl | exact rcv_of (by with_reducible assumption)) rfl rfl rfl (by omega) (by omega) (p_is q2 (by omega) hvr) ?_
                  intro v9 M9 h9
                  rewrite [h9.1, h9.2]
                  clear h9 v9 M9
                  simp only [Option.toList, List.cons_append, List.nil_append]
                  refine go_if_ne (p := 221) (p2 := 243) hf_99 rfl rfl rfl (fun h218 => ?_) (fun h218 => ?_)
                  · have h218' := bI_n0.mp h218
                    obtain ⟨j, n', hj, hn', rfl, eK, eA, fA⟩ := WT_0 hW hN (by omega) h218'
                    rw [← q2.2.2.2.1] at eA
                    refine go_al0 (p := 244) hf_99 rfl rfl ?_
                    refine go_get (p := 247) hf_99 ho_99 rfl fl_6_122 rfl (by first | with_reducible assumption | rfl) rfl hg2 ?_
                    refine go_if_eq (p := 250) (p2 := 266) hf_99 rfl rfl rfl (fun h247 => absurd h247 nI_10) (fun h247 => ?_)
                    refine go_al0 (p := 251) hf_99 rfl rfl ?_
                    refine go_getr (p := 254) hf_99 ho_99 rfl fl_6_13 rfl (by first | with_reducible assumption | rfl) rfl ?_
                    refine go_al0 (p := 255) hf_99 rfl rfl ?_
                    refine go_get (p := 258) hf_99 ho_99 rfl fl_6_125 rfl (by first | with_reducible assumption | rfl) rfl hr2 ?_
                    refine go_iald (p := 259) hf_99 rfl rfl (by first | with_reducible assumption | rfl) (by first | rfl | with_reducible assumption) (by first | exact rfl | with_reducible assumption) (by omega) eA ?_
                    refine go_if_ne (p := 262) (p2 := 266) hf_99 rfl rfl rfl (fun h259 => ?_) (fun h259 => ?_)
                    · refine go_iconst (p := 267) hf_99 rfl rfl ci_0 ?_
                      refine go_ret2 hf_99 rfl nl_99 (by first | exact Or.inl rfl | exact Or.inr rfl | with_reducible assumption) ?_
                      have hne : ¬ num K A N (nI j) = nI 0 := by
                        intro e
                        have e := ((val_iff (by omega)).mp e).2
                        rw [fA] at e
                        exact h259 e
                      have hno : ¬ (∃ g ow pw vv l, SL K A B N (nI j0) g ow pw vv l) := by
                        intro h
                        obtain ⟨l, hl⟩ := hex h
                        exact hne ((hiff l).mp hl).1
                      exact ⟨_, _, rfl, rfl, by rw [bI_f hno], fun g ow pw vv l h => absurd ⟨g, ow, pw, vv, l, h⟩ hno, f2⟩
                    · refine go_iconst (p := 263) hf_99 rfl rfl ci_1 ?_
                      refine go_goto (p2 := 267) hf_99 rfl rfl ?_
                      refine go_ret2 hf_99 rfl nl_99 (by first | exact Or.inl rfl | exact Or.inr rfl | with_reducible assumption) ?_
                      have hz : num K A N (nI j) = nI 0 := (val_iff (by omega)).mpr ⟨h218', fA.trans h259⟩
                      have hla : rdL K A B N (fun j => nI (vv j)) 12 (tailF K B N 6 (nI a0)) [] a := (hiff a).mpr ⟨hz, rfl⟩
                      refine ⟨_, _, rfl, rfl, by rw [bI_t ⟨g, ow, pw, vv, a, hmkS a hla⟩], fun g' ow' pw' vv' l' h => ?_, f2⟩
                      obtain ⟨e1, e2, e3, e4, e5⟩ := SL_fun h (hmkS a hla)
                      rw [e1, e2, e3, e5]
                      obtain ⟨d1, d2, d3, d4⟩ := hd3
                      exact ⟨d1, d2, d3, fun j hj => by rw [e4 j hj]; exact d4 j hj, hre, by omega, hmk⟩
                  · refine go_al0 (p := 222) hf_99 rfl rfl ?_
                    refine go_cw1 (p := 225) hf_99 rfl rfl (inv_v ho_99 cl_6_131) (by decide) nl_102 rfl rfl (by first | rfl | exact rcv_of (by with_reducible assumption)) rfl rfl rfl (by omega) (by omega) (r_part (P := True) (r := r) q2 hW (hg2.trans (bI_t trivial).symm) (fun _ => ⟨hr2, hvr⟩)) ?_
                    rintro v9 M3 ⟨u9, rfl, g3, k3, -, f3⟩
                    have q3 : rq M3 K A B N := rq_fr q2 f3
                    have hn1 : ¬ rdAt K N r = nI 1 := bI_0.mp h218
                    have hn0 : ¬ num K A N r = nI 0 := fun e => hn1 ((val_iff (by omega)).mp e).1
                    simp only [Option.toList, List.cons_append, List.nil_append]
                    refine go_is4 (p := 227) hf_99 rfl rfl ?_
                    refine go_al0 (p := 228) hf_99 rfl rfl ?_
                    refine go_get (p := 231) hf_99 ho_99 rfl fl_6_122 rfl (by first | with_reducible assumption | rfl) rfl g3 ?_
                    refine go_if_eq (p := 234) (p2 := 240) hf_99 rfl rfl rfl (fun h231 => ?_) (fun h231 => ?_)
                    · refine go_goto (p2 := 202) hf_99 rfl rfl ?_
                      refine wf M3 _ _ (fun h => ?_) (by rw [g3, bI_f (fun hh => bI_0.mp h231 hh)]) (frS_2 f3 f2)
                      obtain ⟨l, hl⟩ := hex h
                      have hk4 : ¬ rdAt K N r = nI 4 := fun hh => bI_0.mp h231 ⟨trivial, hh⟩
                      exact hn0 ((hiff l).mp hl).1
                    · have hP3 := bI_n0.mp h231
                      have hk4 := hP3.2
                      have re3 : re M3 3 a := ⟨(f3 _ _ (by omega)).trans hre.1, qrow_congr hre.2 (fun p j h1 h2 h3 => f3 _ _ (by omega))⟩
                      have v3 : ∀ j, j < 3 → M3 49 (9 + j) = nI (vv j) := fun j hj => (f3 _ _ (by omega)).trans (hd3.2.2.2 j hj)
                      refine go_al0 (p := 235) hf_99 rfl rfl ?_
                      refine go_il4 (p := 237) hf_99 rfl rfl ?_
                      refine go_cw2 (p := 240) hf_99 rfl rfl (inv_v ho_99 cl_6_142) (by decide) nl_104 rfl rfl (by first | rfl | exact rcv_of (by with_reducible assumption)) rfl rfl rfl (by omega) (by omega) (r_readEntry (g := fun j => nI (vv j)) (a := a) q3 hW ((k3 hP3).1 ▸ (k3 hP3).2.2.1) (g3.trans (bI_t hP3)) re3 (by omega) v3) ?_
                      rintro v9 M4 ⟨rfl, g4, n4, h26, f4⟩
                      have ePt : partF K A B N r 0 = u9 := by
                        rw [(k3 hP3).1]
                        exact val_t hk4
                      simp only [Option.toList, List.cons_append, List.nil_append]
                      refine go_goto (p2 := 202) hf_99 rfl rfl ?_
                      have f4' : frS M4 M := fun p j h1 h2 h3 h4 h5 => (f4 p j h1 h4 h5).trans (frS_2 f3 f2 p j h1 h2 h3 h4 h5)
                      by_cases hE : ∃ w, entR K A B N u9 w ∧ mf (fun j => nI (vv j)) a w
                      · obtain ⟨w, -, e⟩ := hE
                        have := e.2.2.1
                        omega
                      · refine wf M4 _ _ (fun h => ?_) (by rw [g4, bI_f hE]) f4'
                        obtain ⟨l, hl⟩ := hex h
                        exact hn0 ((hiff l).mp hl).1
                | succ n ih =>
                  intro a r M2 y4 hlen hg2 hr2 hvr hre hd3 hiff hmk f2
                  have q2 : rq M2 K A B N := rq_S hq f2
                  refine go_al0 (p := 203) hf_99 rfl rfl ?_
                  refine go_get (p := 206) hf_99 ho_99 rfl fl_6_122 rfl (by first | with_reducible assumption | rfl) rfl hg2 ?_
                  refine go_if_eq (p := 209) (p2 := 243) hf_99 rfl rfl rfl (fun h206 => absurd h206 nI_10) (fun h206 => ?_)
                  refine go_al0 (p := 210) hf_99 rfl rfl ?_
                  refine go_al0 (p := 211) hf_99 rfl rfl ?_
                  refine go_get (p := 214) hf_99 ho_99 rfl fl_6_125 rfl (by first | with_reducible assumption | rfl) rfl hr2 ?_
                  refine go_iconst (p := 215) hf_99 rfl rfl ci_1 ?_
                  refine go_cw3 (p := 218) hf_99 rfl rfl (inv_v ho_99 cl_6_128) (by decide) nl_100 rfl rfl (by first | rfl | exact rcv_of (by with_reducible assumption)) rfl rfl rfl (by omega) (by omega) (p_is q2 (by omega) hvr) ?_
                  intro v9 M9 h9
                  rewrite [h9.1, h9.2]
                  clear h9 v9 M9
                  simp only [Option.toList, List.cons_append, List.nil_append]
                  refine go_if_ne (p := 221) (p2 := 243) hf_99 rfl rfl rfl (fun h218 => ?_) (fun h218 => ?_)
                  · have h218' := bI_n0.mp h218
                    obtain ⟨j, n', hj, hn', rfl, eK, eA, fA⟩ := WT_0 hW hN (by omega) h218'
                    rw [← q2.2.2.2.1] at eA
                    refine go_al0 (p := 244) hf_99 rfl rfl ?_
                    refine go_get (p := 247) hf_99 ho_99 rfl fl_6_122 rfl (by first | with_reducible assumption | rfl) rfl hg2 ?_
                    refine go_if_eq (p := 250) (p2 := 266) hf_99 rfl rfl rfl (fun h247 => absurd h247 nI_10) (fun h247 => ?_)
                    refine go_al0 (p := 251) hf_99 rfl rfl ?_
                    refine go_getr (p := 254) hf_99 ho_99 rfl fl_6_13 rfl (by first | with_reducible assumption | rfl) rfl ?_
                    refine go_al0 (p := 255) hf_99 rfl rfl ?_
                    refine go_get (p := 258) hf_99 ho_99 rfl fl_6_125 rfl (by first | with_reducible assumption | rfl) rfl hr2 ?_
                    refine go_iald (p := 259) hf_99 rfl rfl (by first | with_reducible assumption | rfl) (by first | rfl | with_reducible assumption) (by first | exact rfl | with_reducible assumption) (by omega) eA ?_
                    refine go_if_ne (p := 262) (p2 := 266) hf_99 rfl rfl rfl (fun h259 => ?_) (fun h259 => ?_)
                    · refine go_iconst (p := 267) hf_99 rfl rfl ci_0 ?_
                      refine go_ret2 hf_99 rfl nl_99 (by first | exact Or.inl rfl | exact Or.inr rfl | with_reducible assumption) ?_
                      have hne : ¬ num K A N (nI j) = nI 0 := by
                        intro e
                        have e := ((val_iff (by omega)).mp e).2
                        rw [fA] at e
                        exact h259 e
                      have hno : ¬ (∃ g ow pw vv l, SL K A B N (nI j0) g ow pw vv l) := by
                        intro h
                        obtain ⟨l, hl⟩ := hex h
                        rcases (hiff l).mp hl with ⟨e, -⟩ | ⟨-, w, e, -⟩
                        · exact hne e
                        · rw [show partF K A B N (nI j) 0 = -1 from val_f (by rw [show tailF K B N 0 (nI j) = nI j from rfl, h218']; decide)] at e
                          exact entR_m1 e
                      exact ⟨_, _, rfl, rfl, by rw [bI_f hno], fun g ow pw vv l h => absurd ⟨g, ow, pw, vv, l, h⟩ hno, f2⟩
                    · refine go_iconst (p := 263) hf_99 rfl rfl ci_1 ?_
                      refine go_goto (p2 := 267) hf_99 rfl rfl ?_
                      refine go_ret2 hf_99 rfl nl_99 (by first | exact Or.inl rfl | exact Or.inr rfl | with_reducible assumption) ?_
                      have hz : num K A N (nI j) = nI 0 := (val_iff (by omega)).mpr ⟨h218', fA.trans h259⟩
                      have hla : rdL K A B N (fun j => nI (vv j)) 12 (tailF K B N 6 (nI a0)) [] a := (hiff a).mpr (Or.inl ⟨hz, rfl⟩)
                      refine ⟨_, _, rfl, rfl, by rw [bI_t ⟨g, ow, pw, vv, a, hmkS a hla⟩], fun g' ow' pw' vv' l' h => ?_, f2⟩
                      obtain ⟨e1, e2, e3, e4, e5⟩ := SL_fun h (hmkS a hla)
                      rw [e1, e2, e3, e5]
                      obtain ⟨d1, d2, d3, d4⟩ := hd3
                      exact ⟨d1, d2, d3, fun j hj => by rw [e4 j hj]; exact d4 j hj, hre, by omega, hmk⟩
                  · refine go_al0 (p := 222) hf_99 rfl rfl ?_
                    refine go_cw1 (p := 225) hf_99 rfl rfl (inv_v ho_99 cl_6_131) (by decide) nl_102 rfl rfl (by first | rfl | exact rcv_of (by with_reducible assumption)) rfl rfl rfl (by omega) (by omega) (r_part (P := True) (r := r) q2 hW (hg2.trans (bI_t trivial).symm) (fun _ => ⟨hr2, hvr⟩)) ?_
                    rintro v9 M3 ⟨u9, rfl, g3, k3, -, f3⟩
                    have q3 : rq M3 K A B N := rq_fr q2 f3
                    have hn1 : ¬ rdAt K N r = nI 1 := bI_0.mp h218
                    have hn0 : ¬ num K A N r = nI 0 := fun e => hn1 ((val_iff (by omega)).mp e).1
                    simp only [Option.toList, List.cons_append, List.nil_append]
                    refine go_is4 (p := 227) hf_99 rfl rfl ?_
                    refine go_al0 (p := 228) hf_99 rfl rfl ?_
                    refine go_get (p := 231) hf_99 ho_99 rfl fl_6_122 rfl (by first | with_reducible assumption | rfl) rfl g3 ?_
                    refine go_if_eq (p := 234) (p2 := 240) hf_99 rfl rfl rfl (fun h231 => ?_) (fun h231 => ?_)
                    · refine go_goto (p2 := 202) hf_99 rfl rfl ?_
                      refine wf M3 _ _ (fun h => ?_) (by rw [g3, bI_f (fun hh => bI_0.mp h231 hh)]) (frS_2 f3 f2)
                      obtain ⟨l, hl⟩ := hex h
                      have hk4 : ¬ rdAt K N r = nI 4 := fun hh => bI_0.mp h231 ⟨trivial, hh⟩
                      rcases (hiff l).mp hl with ⟨e, -⟩ | ⟨-, w, e, -⟩
                      · exact hn0 e
                      · rw [show partF K A B N r 0 = -1 from val_f hk4] at e
                        exact entR_m1 e
                    · have hP3 := bI_n0.mp h231
                      have hk4 := hP3.2
                      have re3 : re M3 3 a := ⟨(f3 _ _ (by omega)).trans hre.1, qrow_congr hre.2 (fun p j h1 h2 h3 => f3 _ _ (by omega))⟩
                      have v3 : ∀ j, j < 3 → M3 49 (9 + j) = nI (vv j) := fun j hj => (f3 _ _ (by omega)).trans (hd3.2.2.2 j hj)
                      refine go_al0 (p := 235) hf_99 rfl rfl ?_
                      refine go_il4 (p := 237) hf_99 rfl rfl ?_
                      refine go_cw2 (p := 240) hf_99 rfl rfl (inv_v ho_99 cl_6_142) (by decide) nl_104 rfl rfl (by first | rfl | exact rcv_of (by with_reducible assumption)) rfl rfl rfl (by omega) (by omega) (r_readEntry (g := fun j => nI (vv j)) (a := a) q3 hW ((k3 hP3).1 ▸ (k3 hP3).2.2.1) (g3.trans (bI_t hP3)) re3 (by omega) v3) ?_
                      rintro v9 M4 ⟨rfl, g4, n4, h26, f4⟩
                      have ePt : partF K A B N r 0 = u9 := by
                        rw [(k3 hP3).1]
                        exact val_t hk4
                      simp only [Option.toList, List.cons_append, List.nil_append]
                      refine go_goto (p2 := 202) hf_99 rfl rfl ?_
                      have f4' : frS M4 M := fun p j h1 h2 h3 h4 h5 => (f4 p j h1 h4 h5).trans (frS_2 f3 f2 p j h1 h2 h3 h4 h5)
                      by_cases hE : ∃ w, entR K A B N u9 w ∧ mf (fun j => nI (vv j)) a w
                      · obtain ⟨w, e1, e2⟩ := hE
                        obtain ⟨d1, d2, d3, d4⟩ := hd3
                        refine ih (a ++ [w]) _ M4 _ (by simp; omega) (by rw [g4, bI_t ⟨w, e1, e2⟩]) (h26.trans (k3 hP3).2.1) (k3 hP3).2.2.2 (n4 w e1 e2) ⟨?_, ?_, ?_, fun j hj => ?_⟩ (fun l => ?_) (fun x hx => ?_) f4'
                        · rw [f4 _ _ (by omega) (by omega) (by omega), f3 _ _ (by omega)]; exact d1
                        · rw [f4 _ _ (by omega) (by omega) (by omega), f3 _ _ (by omega)]; exact d2
                        · rw [f4 _ _ (by omega) (by omega) (by omega), f3 _ _ (by omega)]; exact d3
                        · rw [f4 _ _ (by omega) (by omega) (by omega), f3 _ _ (by omega)]; exact d4 j hj
                        · rw [hiff l]
                          rw [← tail_t hk4]
                          constructor
                          · rintro (⟨e, -⟩ | ⟨-, w', e1', -, e3⟩)
                            · exact absurd e hn0
                            · rw [ePt] at e1'
                              rw [entR_fun e1' e1] at e3
                              exact e3
                          · intro e
                            exact Or.inr ⟨hn0, w, by rw [ePt]; exact e1, e2, e⟩
                        · rw [List.mem_append, List.mem_singleton] at hx
                          rcases hx with hx | rfl
                          · exact hmk x hx
                          · exact (entR_lt e1).2.1
                      · refine wf M4 _ _ (fun h => ?_) (by rw [g4, bI_f hE]) f4'
                        obtain ⟨l, hl⟩ := hex h
                        rcases (hiff l).mp hl with ⟨e, -⟩ | ⟨-, w, e1, e2, -⟩
                        · exact hn0 e
                        · rw [ePt] at e1
                          exact hE ⟨w, e1, e2⟩
              have d46 := hw46 hP.1.1.1
              have d47 := hw47 hP.1.1
              have d48 := hw48 hP.1
              refine wl 12 [] _ M2 _ (by simp) (by rw [hg2, bI_t hP]) (hr2 hP).1 (hr2 hP).2 ⟨?_, fun i w h => by cases h⟩ ⟨?_, ?_, ?_, fun j hj => ?_⟩ (fun l => Iff.rfl) (fun w h => by cases h) f2S
              · rw [f2 _ _ (by omega) (by omega)]; exact w50
              · rw [f2 _ _ (by omega) (by omega), d46]; exact eg
              · rw [f2 _ _ (by omega) (by omega), d47]; exact eow
              · rw [f2 _ _ (by omega) (by omega), d48]; exact epw
              · rw [hvx hP j hj]; exact (hvv j hj).2
            · refine wf M2 _ _ ?_ (by rw [hg2, bI_f hP]) f2S
              rintro ⟨g, ow, pw, vv, l, h⟩
              apply hP
              unfold SL at h
              rw [eT1, eBd] at h
              obtain ⟨h1, h2, h3, h4, h5, h6, h7, h8, h9, h10, h11⟩ := h
              exact ⟨⟨⟨⟨⟨h1, h2, h3⟩, g, by omega, by omega, h4⟩, ow, by omega, by omega, h6⟩, pw, h9, h8⟩, fun j hj => ⟨vv j, by omega, by have := (h10 j hj).2; omega, (h10 j hj).1⟩⟩
          | succ n ih =>
            intro k M2 hk hg2 hr2 hvx f2
            have f2S : frS M2 M := fun p j h1 h2 h3 h4 h5 => (f2 p j h1 h3).trans (fwS p j h1 h2 h3 h4 h5)
            have q2 : rq M2 K A B N := rq_S hq f2S
            have hsp : ((((((rdAt K N (nI b0) = nI 5 ∧ rdAt B N (nI b0) = nI a0 ∧ atm K A N (rdAt A N (nI b0)) = nI 9) ∧ ∃ n, 0 ≤ n ∧ n ≤ 30 ∧ num K A N (valF K A N (nI a0) (nI 4)) = nI n) ∧ ∃ n, 0 ≤ n ∧ n ≤ 2 ∧ num K A N (valF K A N (tailF K B N 1 (nI a0)) (nI 4)) = nI n) ∧ ∃ n, n < 8 ∧ hbF K A B N (valF K A N (tailF K B N 1 (tailF K B N 1 (nI a0))) (nI 4)) = nI n) ∧ ∀ j, j < k → (∃ n, 0 ≤ n ∧ n ≤ 30 ∧ num K A N (valF K A N (tailF K B N (3 + j) (nI a0)) (nI 4)) = nI n)) ∧ (∃ n, 0 ≤ n ∧ n ≤ 30 ∧ num K A N (valF K A N (tailF K B N (3 + k) (nI a0)) (nI 4)) = nI n)) ↔ (((((rdAt K N (nI b0) = nI 5 ∧ rdAt B N (nI b0) = nI a0 ∧ atm K A N (rdAt A N (nI b0)) = nI 9) ∧ ∃ n, 0 ≤ n ∧ n ≤ 30 ∧ num K A N (valF K A N (nI a0) (nI 4)) = nI n) ∧ ∃ n, 0 ≤ n ∧ n ≤ 2 ∧ num K A N (valF K A N (tailF K B N 1 (nI a0)) (nI 4)) = nI n) ∧ ∃ n, n < 8 ∧ hbF K A B N (valF K A N (tailF K B N 1 (tailF K B N 1 (nI a0))) (nI 4)) = nI n) ∧ ∀ j, j < (k + 1) → (∃ n, 0 ≤ n ∧ n ≤ 30 ∧ num K A N (valF K A N (tailF K B N (3 + j) (nI a0)) (nI 4)) = nI n)) := by
              constructor
              · rintro ⟨⟨h1, h2⟩, h3⟩
                refine ⟨h1, fun j hj => ?_⟩
                by_cases hjk : j = k
                · subst hjk; exact h3
                · exact h2 j (by omega)
              · rintro ⟨h1, h2⟩
                exact ⟨⟨h1, fun j hj => h2 j (by omega)⟩, h2 k (by omega)⟩
            refine go_il4 (p := 175) hf_99 rfl rfl ?_
            refine go_iconst (p := 176) hf_99 rfl rfl ci_3 ?_
            first | refine go_nn_ge (p := 179) (p2 := 202) hf_99 rfl rfl rfl (by omega) (by omega) (fun h176 => absurd h176 (by omega)) (fun h176 => ?_) | refine go_ic_ge (p := 179) (p2 := 202) hf_99 rfl rfl rfl (fun h176 => absurd h176 (by omega)) (fun h176 => ?_)
            refine go_al0 (p := 180) hf_99 rfl rfl ?_
            refine go_getr (p := 183) hf_99 ho_99 rfl fl_6_35 rfl (by first | with_reducible assumption | rfl) rfl ?_
            refine go_bipush (p := 185) hf_99 rfl rfl cb_9 ?_
            refine go_il4 (p := 187) hf_99 rfl rfl ?_
            refine go_iadd (p := 188) hf_99 rfl rfl (by first | with_reducible exact nI_add _ _ | exact rfl) ?_
            refine go_al0 (p := 189) hf_99 rfl rfl ?_
            refine go_iconst (p := 190) hf_99 rfl rfl ci_0 ?_
            refine go_bipush (p := 192) hf_99 rfl rfl cb_30 ?_
            refine go_cw3 (p := 195) hf_99 rfl rfl (inv_v ho_99 cl_6_135) (by decide) nl_101 rfl rfl (by first | rfl | exact rcv_of (by with_reducible assumption)) rfl rfl rfl (by omega) (by omega) (r_figure (a := 0) (b := 30) (by omega) (by omega) q2 hW hg2 hr2) ?_
            rintro v9 M3 ⟨u9, rfl, g3, k3, f3⟩
            rw [bI_congr hsp] at g3
            simp only [Option.toList, List.cons_append, List.nil_append]
            refine go_iast (p := 196) hf_99 rfl rfl (by first | with_reducible assumption | rfl) (by first | rfl | with_reducible assumption) (by first | exact rfl | assumption) (by omega) ?_
            refine go_ic4 (p := 199) hf_99 rfl rfl (by first | exact inc1 _ | exact rfl) ?_
            refine go_goto (p2 := 173) hf_99 rfl rfl ?_
            refine ih (k + 1) _ (by omega) (by rw [up_k (by omega)]; exact g3) (fun h => ?_) (fun h j hj => ?_) (fun p j h1 h2 => ?_)
            · have e := (k3 (hsp.mpr h)).2
              rw [up_k (by omega)]
              rw [← tailF_1] at e
              exact e
            · by_cases hjk : j = k
              · subst hjk
                rw [up_s]
                exact (k3 (hsp.mpr h)).1
              · rw [up_i (by omega), f3 _ _ (by omega)]
                exact hvx (hsp.mpr h).1 j (by omega)
            · rw [up_o (by omega), f3 _ _ h1]
              exact f2 p j h1 h2
        refine go_put (p := 170) hf_99 ho_99 rfl fl_6_122 rfl (by first | with_reducible assumption | rfl) rfl (Or.inr ⟨rfl, (hx ▸ bI_01)⟩) ?_
        refine go_iconst (p := 171) hf_99 rfl rfl ci_0 ?_
        refine go_is4 (p := 173) hf_99 rfl rfl ?_
        rw [← eMw]
        refine vl 3 0 Mw (by omega) ?_ (fun h => w26 h.1) (fun _ j hj => absurd hj (Nat.not_lt_zero j)) (fun _ _ _ _ => rfl)
        rw [w27]
        exact bI_congr ⟨fun h => ⟨h, fun j hj => absurd hj (Nat.not_lt_zero j)⟩, fun h => h.1⟩
      refine go_al0 (p := 146) hf_99 rfl rfl ?_
      refine go_al0 (p := 147) hf_99 rfl rfl ?_
      refine go_get (p := 150) hf_99 ho_99 rfl fl_6_122 rfl (by first | with_reducible assumption | rfl) rfl q27 ?_
      refine go_if_eq (p := 153) (p2 := 166) hf_99 rfl rfl rfl (fun h150 => ?_) (fun h150 => ?_)
      · refine go_iconst (p := 167) hf_99 rfl rfl ci_0 ?_
        exact k167 _ (bI_f (fun h => bI_0.mp h150 (hP34.mp h).1)).symm
      · refine go_al0 (p := 154) hf_99 rfl rfl ?_
        refine go_getr (p := 157) hf_99 ho_99 rfl fl_6_32 rfl (by first | with_reducible assumption | rfl) rfl ?_
        refine go_iconst (p := 158) hf_99 rfl rfl ci_3 ?_
        refine go_iald (p := 159) hf_99 rfl rfl (by first | with_reducible assumption | rfl) (by first | rfl | with_reducible assumption) (by first | exact rfl | with_reducible assumption) (by omega) q483 ?_
        refine go_if_lt (p := 162) (p2 := 166) hf_99 rfl rfl rfl (fun h159 => ?_) (fun h159 => ?_)
        · refine go_iconst (p := 167) hf_99 rfl rfl ci_0 ?_
          exact k167 _ (bI_f (fun h => huw.mp (hP34.mp h).2 h159)).symm
        · refine go_iconst (p := 163) hf_99 rfl rfl ci_1 ?_
          refine go_goto (p2 := 167) hf_99 rfl rfl ?_
          exact k167 _ (bI_t (hP34.mpr ⟨bI_n0.mp h150, huw.mpr h159⟩)).symm
    refine go_al0 (p := 20) hf_99 rfl rfl ?_
    refine go_getr (p := 23) hf_99 ho_99 rfl fl_6_16 rfl (by first | with_reducible assumption | rfl) rfl ?_
    refine go_il1 (p := 24) hf_99 rfl rfl ?_
    refine go_iald (p := 25) hf_99 rfl rfl (by first | with_reducible assumption | rfl) (by first | rfl | with_reducible assumption) (by first | exact rfl | with_reducible assumption) (by omega) ((up_k (by omega)).trans eB) ?_
    refine go_is2 (p := 26) hf_99 rfl rfl ?_
    refine go_al0 (p := 27) hf_99 rfl rfl ?_
    refine go_al0 (p := 28) hf_99 rfl rfl ?_
    refine go_getr (p := 31) hf_99 ho_99 rfl fl_6_13 rfl (by first | with_reducible assumption | rfl) rfl ?_
    refine go_il1 (p := 32) hf_99 rfl rfl ?_
    refine go_iald (p := 33) hf_99 rfl rfl (by first | with_reducible assumption | rfl) (by first | rfl | with_reducible assumption) (by first | exact rfl | with_reducible assumption) (by omega) ((up_k (by omega)).trans eA) ?_
    refine go_put (p := 36) hf_99 ho_99 rfl fl_6_125 rfl (by first | with_reducible assumption | rfl) rfl (Or.inl rfl) ?_
    refine go_al0 (p := 37) hf_99 rfl rfl ?_
    refine go_al0 (p := 38) hf_99 rfl rfl ?_
    refine go_il2 (p := 39) hf_99 rfl rfl ?_
    refine go_iconst (p := 40) hf_99 rfl rfl ci_5 ?_
    refine go_cw3 (p := 43) hf_99 rfl rfl (inv_v ho_99 cl_6_128) (by decide) nl_100 rfl rfl (by first | rfl | exact rcv_of (by with_reducible assumption)) rfl rfl rfl (by omega) (by omega) (p_is (rq_fr hq (fr2_tr fr2_26 fr2_27)) (by omega) (Or.inr ⟨b0, by omega, rfl⟩)) ?_
    intro v9 M9 h9
    rewrite [h9.1, h9.2]
    clear h9 v9 M9
    simp only [Option.toList, List.cons_append, List.nil_append]
    refine go_if_eq (p := 46) (p2 := 93) hf_99 rfl rfl rfl (fun h43 => ?_) (fun h43 => ?_)
    · refine go_iconst (p := 94) hf_99 rfl rfl ci_0 ?_
      exact k94 _ (bI_f (fun h => bI_0.mp h43 h.1)).symm
    · obtain ⟨j1, a1, b1, hj1, ha1, hb1, ej1, eK1, eA1, eB1, fA1, fB1⟩ := WT_2 hW hN (by omega) (by omega) (bI_n0.mp h43)
      have ej1 := (nI_eq (by omega) (by omega)).mp ej1
      subst ej1
      rw [← hq.2.2.2.1] at eA1
      rw [← hq.2.2.2.2] at eB1
      refine go_al0 (p := 47) hf_99 rfl rfl ?_
      refine go_al0 (p := 48) hf_99 rfl rfl ?_
      refine go_getr (p := 51) hf_99 ho_99 rfl fl_6_13 rfl (by first | with_reducible assumption | rfl) rfl ?_
      refine go_il2 (p := 52) hf_99 rfl rfl ?_
      refine go_iald (p := 53) hf_99 rfl rfl (by first | with_reducible assumption | rfl) (by first | rfl | with_reducible assumption) (by first | exact rfl | with_reducible assumption) (by omega) ((up_k (by omega)).trans ((up_k (by omega)).trans eA1)) ?_
      refine go_iconst (p := 54) hf_99 rfl rfl ci_0 ?_
      refine go_cw3 (p := 57) hf_99 rfl rfl (inv_v ho_99 cl_6_128) (by decide) nl_100 rfl rfl (by first | rfl | exact rcv_of (by with_reducible assumption)) rfl rfl rfl (by omega) (by omega) (p_is (rq_fr hq (fr2_tr fr2_26 fr2_27)) (by omega) (Or.inr ⟨a1, by omega, rfl⟩)) ?_
      intro v9 M9 h9
      rewrite [h9.1, h9.2]
      clear h9 v9 M9
      simp only [Option.toList, List.cons_append, List.nil_append]
      refine go_if_eq (p := 60) (p2 := 93) hf_99 rfl rfl rfl (fun h57 => ?_) (fun h57 => ?_)
      · refine go_iconst (p := 94) hf_99 rfl rfl ci_0 ?_
        exact k94 _ (bI_f (fun h => bI_0.mp h57 (fA1 ▸ ((val_iff (by omega)).mp h.2.2).1))).symm
      · obtain ⟨j2, n2, hj2, hn2, ej2, eK2, e2, f2⟩ := WT_0 hW hN (by omega) (bI_n0.mp h57)
        have ej2 := (nI_eq (by omega) (by omega)).mp ej2
        subst ej2
        rw [← hq.2.2.2.1] at e2
        refine go_al0 (p := 61) hf_99 rfl rfl ?_
        refine go_getr (p := 64) hf_99 ho_99 rfl fl_6_13 rfl (by first | with_reducible assumption | rfl) rfl ?_
        refine go_al0 (p := 65) hf_99 rfl rfl ?_
        refine go_getr (p := 68) hf_99 ho_99 rfl fl_6_13 rfl (by first | with_reducible assumption | rfl) rfl ?_
        refine go_il2 (p := 69) hf_99 rfl rfl ?_
        refine go_iald (p := 70) hf_99 rfl rfl (by first | with_reducible assumption | rfl) (by first | rfl | with_reducible assumption) (by first | exact rfl | with_reducible assumption) (by omega) ((up_k (by omega)).trans ((up_k (by omega)).trans eA1)) ?_
        refine go_iald (p := 71) hf_99 rfl rfl (by first | with_reducible assumption | rfl) (by first | rfl | with_reducible assumption) (by first | exact rfl | with_reducible assumption) (by omega) ((up_k (by omega)).trans ((up_k (by omega)).trans e2)) ?_
        refine go_bipush (p := 73) hf_99 rfl rfl cb_9 ?_
        first | refine go_nn_ne (p := 76) (p2 := 93) hf_99 rfl rfl rfl (by omega) (by omega) (fun h73 => ?_) (fun h73 => ?_) | refine go_ic_ne (p := 76) (p2 := 93) hf_99 rfl rfl rfl (fun h73 => ?_) (fun h73 => ?_)
        · refine go_iconst (p := 94) hf_99 rfl rfl ci_0 ?_
          exact k94 _ (bI_f (fun h => by
            have e := ((val_iff (by omega)).mp h.2.2).2
            rw [fA1, f2, nI_eq (by omega) (by omega)] at e
            omega)).symm
        · refine go_al0 (p := 77) hf_99 rfl rfl ?_
          refine go_getr (p := 80) hf_99 ho_99 rfl fl_6_16 rfl (by first | with_reducible assumption | rfl) rfl ?_
          refine go_il2 (p := 81) hf_99 rfl rfl ?_
          refine go_iald (p := 82) hf_99 rfl rfl (by first | with_reducible assumption | rfl) (by first | rfl | with_reducible assumption) (by first | exact rfl | with_reducible assumption) (by omega) ((up_k (by omega)).trans ((up_k (by omega)).trans eB1)) ?_
          refine go_al0 (p := 83) hf_99 rfl rfl ?_
          refine go_get (p := 86) hf_99 ho_99 rfl fl_6_125 rfl (by first | with_reducible assumption | rfl) rfl up_s ?_
          first | refine go_nn_ne (p := 89) (p2 := 93) hf_99 rfl rfl rfl (by omega) (by omega) (fun h86 => ?_) (fun h86 => ?_) | refine go_ic_ne (p := 89) (p2 := 93) hf_99 rfl rfl rfl (fun h86 => ?_) (fun h86 => ?_)
          · refine go_iconst (p := 94) hf_99 rfl rfl ci_0 ?_
            exact k94 _ (bI_f (fun h => by
              have e := h.2.1
              rw [fB1, nI_eq (by omega) (by omega)] at e
              omega)).symm
          · refine go_iconst (p := 90) hf_99 rfl rfl ci_1 ?_
            refine go_goto (p2 := 94) hf_99 rfl rfl ?_
            exact k94 _ (bI_t ⟨bI_n0.mp h43, by rw [fB1, h86], by rw [fA1]; exact (val_iff (by omega)).mpr ⟨bI_n0.mp h57, by rw [f2, h73]⟩⟩).symm
  · refine go_iconst (p := 18) hf_99 rfl rfl ci_0 ?_
    refine go_ret2 hf_99 rfl nl_99 (by first | exact Or.inl rfl | exact Or.inr rfl | with_reducible assumption) ?_
    have hno : ¬ (∃ g ow pw vv l, SL K A B N t g ow pw vv l) := by
      rintro ⟨g, ow, pw, vv, l, h⟩
      have e := h.1
      rw [tail_f (bI_0.mp h14), rd_m1] at e
      exact absurd e.symm (nI_m1 (by omega))
    exact ⟨_, _, rfl, rfl, by rw [bI_f hno], fun g ow pw vv l h => absurd ⟨g, ow, pw, vv, l, h⟩ hno, frS_2 fr2_27 (fun _ _ _ _ _ _ _ => rfl)⟩
end RR
