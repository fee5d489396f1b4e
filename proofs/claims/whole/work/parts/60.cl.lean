/-! ===== what is known: closures ===== -/
def Cl (K A B : Nat → Int32) (N : Nat) (S : Nat → Prop) : Prop := ∀ i a b, i < N → a < i → b < i → A i = nI a → B i = nI b → ¬ K i = nI 0 → ¬ K i = nI 1 → (S a → S b → S i) ∧ (K i = nI 4 → S i → S a ∧ S b) ∧ (K i = nI 3 → S i → S a → S b)
def Dv (K A B : Nat → Int32) (N : Nat) (G : Nat → Prop) (i : Nat) : Prop := ∀ S : Nat → Prop, Cl K A B N S → (∀ j, j < N → G j → S j) → S i
section CL
variable {K A B : Nat → Int32} {N : Nat}
theorem Dv_g {G : Nat → Prop} {i : Nat} (hi : i < N) (h : G i) : Dv K A B N G i := fun _ _ hG => hG i hi h
theorem Dv_cl {G : Nat → Prop} : Cl K A B N (Dv K A B N G) := fun i a b h1 h2 h3 h4 h5 h6 h7 => ⟨fun g1 g2 S hS hG => (hS i a b h1 h2 h3 h4 h5 h6 h7).1 (g1 S hS hG) (g2 S hS hG), fun hk g => ⟨fun S hS hG => ((hS i a b h1 h2 h3 h4 h5 h6 h7).2.1 hk (g S hS hG)).1, fun S hS hG => ((hS i a b h1 h2 h3 h4 h5 h6 h7).2.1 hk (g S hS hG)).2⟩, fun hk g1 g2 S hS hG => (hS i a b h1 h2 h3 h4 h5 h6 h7).2.2 hk (g1 S hS hG) (g2 S hS hG)⟩
theorem Dv_mono {G G' : Nat → Prop} {i : Nat} (h : ∀ j, j < N → G j → Dv K A B N G' j) (hd : Dv K A B N G i) : Dv K A B N G' i := hd _ Dv_cl h
theorem Dv_congr {G G' : Nat → Prop} {i : Nat} (h : ∀ j, j < N → (G j ↔ G' j)) : Dv K A B N G i ↔ Dv K A B N G' i := ⟨Dv_mono (fun j hj g => Dv_g hj ((h j hj).mp g)), Dv_mono (fun j hj g => Dv_g hj ((h j hj).mpr g))⟩
def gr (K A B : Nat → Int32) (N : Nat) (g g1 : Nat → Int32) : Prop := (∀ i, g i = 1 → g1 i = 1) ∧ (∀ i, i < N → g1 i = 0 ∨ g1 i = 1) ∧ ∀ S : Nat → Prop, Cl K A B N S → (∀ j, j < N → g j = 1 → S j) → ∀ j, j < N → g1 j = 1 → S j
theorem gr_rf {g : Nat → Int32} (h : ∀ i, i < N → g i = 0 ∨ g i = 1) : gr K A B N g g := ⟨fun _ h => h, h, fun _ _ h => h⟩
theorem gr_tr {g g1 g2 : Nat → Int32} (h : gr K A B N g g1) (h' : gr K A B N g1 g2) : gr K A B N g g2 := ⟨fun i hi => h'.1 i (h.1 i hi), h'.2.1, fun S hS hG => h'.2.2 S hS (h.2.2 S hS hG)⟩
theorem gr_set {g : Nat → Int32} {a : Nat} {v : Int32} (h : ∀ i, i < N → g i = 0 ∨ g i = 1) (hv : v = 0 ∨ v = 1) (h1 : g a = 1 → v = 1) (h2 : v = 1 → ∀ S : Nat → Prop, Cl K A B N S → (∀ j, j < N → g j = 1 → S j) → S a) : gr K A B N g (upd g a v) := by
  refine ⟨fun i hi => ?_, fun i hi => ?_, fun S hS hG j hj hg => ?_⟩
  · by_cases e : i = a
    · subst e; simp [upd]; exact h1 hi
    · simp [upd, e]; exact hi
  · by_cases e : i = a
    · subst e; simp [upd]; exact hv
    · simp [upd, e]; exact h i hi
  · by_cases e : j = a
    · subst e
      simp [upd] at hg
      exact h2 hg S hS hG
    · simp [upd, e] at hg
      exact hG j hj hg
theorem up5 {M : sm_M} {k i : Nat} {v : Int32} : sm_up M k i v k = upd (M k) i v := by simp [sm_up]
theorem upd_s {g : Nat → Int32} {a : Nat} {v : Int32} : upd g a v a = v := by simp [upd]
theorem upd_o {g : Nat → Int32} {a i : Nat} {v : Int32} (h : i ≠ a) : upd g a v i = g i := by simp [upd, h]
/-- something is new -/
def Chg (N : Nat) (g g1 : Nat → Int32) : Prop := ∃ i, i < N ∧ ¬ g i = 1 ∧ g1 i = 1
theorem Chg_rf {g : Nat → Int32} : ¬ Chg N g g := fun ⟨_, _, h1, h2⟩ => h1 h2
theorem Chg_no {g g1 : Nat → Int32} (hm : ∀ i, g i = 1 → g1 i = 1) (h : ¬ Chg N g g1) : ∀ i, i < N → (g1 i = 1 ↔ g i = 1) := fun i hi => ⟨fun h1 => Classical.byContradiction fun h2 => h ⟨i, hi, h2, h1⟩, hm i⟩
theorem Chg_tr {g g1 g2 : Nat → Int32} (hm : ∀ i, g i = 1 → g1 i = 1) (hm2 : ∀ i, g1 i = 1 → g2 i = 1) : Chg N g g2 ↔ Chg N g g1 ∨ Chg N g1 g2 := by
  constructor
  · rintro ⟨i, h1, h2, h3⟩
    by_cases h : g1 i = 1
    · exact Or.inl ⟨i, h1, h2, h⟩
    · exact Or.inr ⟨i, h1, h, h3⟩
  · rintro (⟨i, h1, h2, h3⟩ | ⟨i, h1, h2, h3⟩)
    · exact ⟨i, h1, h2, hm2 i h3⟩
    · exact ⟨i, h1, fun h => h2 (hm i h), h3⟩
def cnt (g : Nat → Int32) : Nat → Nat
  | 0 => 0
  | n + 1 => cnt g n + if g n = 1 then 1 else 0
theorem cnt_le {g : Nat → Int32} : ∀ n, cnt g n ≤ n := by
  intro n
  induction n with
  | zero => exact Nat.le_refl _
  | succ n ih => unfold cnt; split <;> omega
theorem cnt_mono {g g1 : Nat → Int32} (hm : ∀ i, g i = 1 → g1 i = 1) : ∀ n, cnt g n ≤ cnt g1 n := by
  intro n
  induction n with
  | zero => exact Nat.le_refl _
  | succ n ih =>
    unfold cnt
    by_cases h : g n = 1
    · rw [if_pos h, if_pos (hm n h)]; omega
    · rw [if_neg h]; omega
theorem cnt_lt {g g1 : Nat → Int32} (hm : ∀ i, g i = 1 → g1 i = 1) : ∀ n, Chg n g g1 → cnt g n < cnt g1 n := by
  intro n
  induction n with
  | zero => rintro ⟨i, hi, -⟩; omega
  | succ n ih =>
    rintro ⟨i, hi, h1, h2⟩
    have hmm := cnt_mono hm n
    unfold cnt
    by_cases e : i = n
    · subst e
      rw [if_neg h1, if_pos h2]; omega
    · have := ih ⟨i, by omega, h1, h2⟩
      by_cases h : g n = 1
      · rw [if_pos h, if_pos (hm n h)]; omega
      · rw [if_neg h]; omega
def apt (K A B : Nat → Int32) (g : Nat → Int32) (i : Nat) : Prop := ∀ a b, a < i → b < i → A i = nI a → B i = nI b → (K i = nI 4 → g i = 1 → g a = 1 ∧ g b = 1) ∧ (K i = nI 3 → g i = 1 → g a = 1 → g b = 1)
def tgt (K A B : Nat → Int32) (g : Nat → Int32) (i : Nat) : Prop := ∀ a b, a < i → b < i → A i = nI a → B i = nI b → ¬ K i = nI 0 → ¬ K i = nI 1 → g a = 1 → g b = 1 → g i = 1
theorem apt_congr {g g1 : Nat → Int32} {i : Nat} (hi : i < N) (h : ∀ j, j < N → (g1 j = 1 ↔ g j = 1)) (ha : apt K A B g i) : apt K A B g1 i := fun a b h1 h2 h3 h4 => by
  rw [h i hi, h a (by omega), h b (by omega)]
  exact ha a b h1 h2 h3 h4
theorem tgt_congr {g g1 : Nat → Int32} {i : Nat} (hi : i < N) (h : ∀ j, j < N → (g1 j = 1 ↔ g j = 1)) (ha : tgt K A B g i) : tgt K A B g1 i := fun a b h1 h2 h3 h4 => by
  rw [h i hi, h a (by omega), h b (by omega)]
  exact ha a b h1 h2 h3 h4
theorem Cl_of {g : Nat → Int32} (h1 : ∀ i, i < N → apt K A B g i) (h2 : ∀ i, i < N → tgt K A B g i) : Cl K A B N (fun i => g i = 1) := fun i a b hi ha hb hA hB k0 k1 => ⟨h2 i hi a b ha hb hA hB k0 k1, (h1 i hi a b ha hb hA hB).1, (h1 i hi a b ha hb hA hB).2⟩
theorem gr_fin {g g1 : Nat → Int32} (h : gr K A B N g g1) (hc : Cl K A B N (fun i => g1 i = 1)) : ∀ i, i < N → g1 i = bI (Dv K A B N (fun j => g j = 1) i) := by
  intro i hi
  rcases h.2.1 i hi with e | e
  · rw [e, bI_f]
    · rfl
    · intro hd
      have := hd _ hc (fun j _ hj => h.1 j hj)
      rw [e] at this
      exact absurd this (by decide)
  · rw [e, bI_t]
    · rfl
    · exact h.2.2 _ Dv_cl (fun j hj hg => Dv_g hj hg) i hi e
theorem b01 {x : Int32} (h : x = 0 ∨ x = 1) : x = bI (x = 1) := by
  rcases h with rfl | rfl
  · rw [bI_f (by decide)]; rfl
  · rw [bI_t rfl]; rfl
theorem n01 {x : Int32} (h : x = 0 ∨ x = 1) (h0 : ¬ x = 0) : x = 1 := by
  rcases h with h | h
  · exact absurd h h0
  · exact h
theorem z01 {x : Int32} (h0 : x = 0) : ¬ x = 1 := by rw [h0]; decide
theorem c_takeApart {M : sm_M} {t a b kk : Nat} (hq : tq M K A B N) (ht : t < N) (hK : K t = nI kk) (hk2 : 2 ≤ kk) (hk5 : kk ≤ 5) (ha : a < t) (hb : b < t) (hA : A t = nI a) (hB : B t = nI b) (h01 : ∀ i, i < N → M 5 i = 0 ∨ M 5 i = 1) (hgt : M 5 t = 1) : cr 37 0 0 [.ref 1, .int (nI t)] M (fun v M1 => v = some (.int (bI (Chg N (M 5) (M1 5)))) ∧ gr K A B N (M 5) (M1 5) ∧ apt K A B (M1 5) t ∧ ∀ p, p ≠ 5 → M1 p = M p) := by
  intro X J rc rs d lw hd hw
  show sm_wp tb_T X tb_ok d lw 37 0 [some (.ref 1), some (.int (nI t)), none, none, none, none] [] _ _
  have hN := hq.2.1
  have eK : M 2 t = nI kk := by rw [hq.2.2.1]; exact hK
  have eA : M 3 t = nI a := by rw [hq.2.2.2.1]; exact hA
  have eB : M 4 t = nI b := by rw [hq.2.2.2.2]; exact hB
  have hin : ∀ a' b', A t = nI a' → B t = nI b' → a' < t → b' < t → a' = a ∧ b' = b := fun a' b' h1 h2 h3 h4 => ⟨(nI_eq (by omega) (by omega)).mp (h1.symm.trans hA), (nI_eq (by omega) (by omega)).mp (h2.symm.trans hB)⟩
  have k0 : ¬ K t = nI 0 := by rw [hK, nI_eq (by omega) (by omega)]; omega
  have k1 : ¬ K t = nI 1 := by rw [hK, nI_eq (by omega) (by omega)]; omega
  have sa : K t = nI 4 → ∀ S : Nat → Prop, Cl K A B N S → (∀ j, j < N → M 5 j = 1 → S j) → S a ∧ S b := fun hk S hS hG => (hS t a b ht ha hb hA hB k0 k1).2.1 hk (hG t ht hgt)
  have sb : K t = nI 3 → M 5 a = 1 → ∀ S : Nat → Prop, Cl K A B N S → (∀ j, j < N → M 5 j = 1 → S j) → S b := fun hk hx S hS hG => (hS t a b ht ha hb hA hB k0 k1).2.2 hk (hG t ht hgt) (hG a (by omega) hx)
  have fin : ∀ M1 : sm_M, gr K A B N (M 5) (M1 5) → (kk = 4 → M1 5 a = 1 ∧ M1 5 b = 1) → (kk = 3 → M1 5 a = 1 → M1 5 b = 1) → (∀ p, p ≠ 5 → M1 p = M p) → ∀ v, v = bI (Chg N (M 5) (M1 5)) → some (Value.int v) = some (.int (bI (Chg N (M 5) (M1 5)))) ∧ gr K A B N (M 5) (M1 5) ∧ apt K A B (M1 5) t ∧ ∀ p, p ≠ 5 → M1 p = M p := by
    intro M1 h1 h2 h3 h4 v hv
    refine ⟨by rw [hv], h1, fun a' b' g1 g2 g3 g4 => ?_, h4⟩
    obtain ⟨rfl, rfl⟩ := hin a' b' g3 g4 g1 g2
    exact ⟨fun hk _ => h2 ((nI_eq (by omega) (by omega)).mp (hK.symm.trans hk)), fun hk _ => h3 ((nI_eq (by omega) (by omega)).mp (hK.symm.trans hk))⟩
  have f5 : ∀ (M2 : sm_M) (i : Nat) (v : Int32) (p : Nat), p ≠ 5 → sm_up M2 5 i v p = M2 p := fun M2 i v p hp => by unfold sm_up; rw [if_neg hp]
  have hn11 : (nI 1 : Int32) = 1 := rfl
  refine go_al0 (p := 1) hf_37 rfl rfl ?_
  refine go_getr (p := 4) hf_37 ho_37 rfl fl_1_15 rfl (by first | with_reducible assumption | rfl) rfl ?_
  refine go_il1 (p := 5) hf_37 rfl rfl ?_
  refine go_iald (p := 6) hf_37 rfl rfl (by first | with_reducible assumption | rfl) (by first | rfl | with_reducible assumption) (by first | exact rfl | with_reducible assumption) (by omega) eA ?_
  refine go_is2 (p := 7) hf_37 rfl rfl ?_
  refine go_al0 (p := 8) hf_37 rfl rfl ?_
  refine go_getr (p := 11) hf_37 ho_37 rfl fl_1_18 rfl (by first | with_reducible assumption | rfl) rfl ?_
  refine go_il1 (p := 12) hf_37 rfl rfl ?_
  refine go_iald (p := 13) hf_37 rfl rfl (by first | with_reducible assumption | rfl) (by first | rfl | with_reducible assumption) (by first | exact rfl | with_reducible assumption) (by omega) eB ?_
  refine go_is3 (p := 14) hf_37 rfl rfl ?_
  refine go_iconst (p := 15) hf_37 rfl rfl ci_0 ?_
  refine go_is4 (p := 17) hf_37 rfl rfl ?_
  refine go_al0 (p := 18) hf_37 rfl rfl ?_
  refine go_getr (p := 21) hf_37 ho_37 rfl fl_1_9 rfl (by first | with_reducible assumption | rfl) rfl ?_
  refine go_il1 (p := 22) hf_37 rfl rfl ?_
  refine go_iald (p := 23) hf_37 rfl rfl (by first | with_reducible assumption | rfl) (by first | rfl | with_reducible assumption) (by first | exact rfl | with_reducible assumption) (by omega) eK ?_
  refine go_iconst (p := 24) hf_37 rfl rfl ci_4 ?_
  first | refine go_nn_ne (p := 27) (p2 := 46) hf_37 rfl rfl rfl (by omega) (by omega) (fun h24 => ?_) (fun h24 => ?_) | refine go_ic_ne (p := 27) (p2 := 46) hf_37 rfl rfl rfl (fun h24 => ?_) (fun h24 => ?_)
  · refine go_al0 (p := 47) hf_37 rfl rfl ?_
    refine go_getr (p := 50) hf_37 ho_37 rfl fl_1_9 rfl (by first | with_reducible assumption | rfl) rfl ?_
    refine go_il1 (p := 51) hf_37 rfl rfl ?_
    refine go_iald (p := 52) hf_37 rfl rfl (by first | with_reducible assumption | rfl) (by first | rfl | with_reducible assumption) (by first | exact rfl | with_reducible assumption) (by omega) eK ?_
    refine go_iconst (p := 53) hf_37 rfl rfl ci_4 ?_
    first | refine go_nn_eq (p := 56) (p2 := 75) hf_37 rfl rfl rfl (by omega) (by omega) (fun h53 => absurd h53 h24) (fun h53 => ?_) | refine go_ic_eq (p := 56) (p2 := 75) hf_37 rfl rfl rfl (fun h53 => absurd h53 h24) (fun h53 => ?_)
    refine go_al0 (p := 57) hf_37 rfl rfl ?_
    refine go_getr (p := 60) hf_37 ho_37 rfl fl_1_9 rfl (by first | with_reducible assumption | rfl) rfl ?_
    refine go_il1 (p := 61) hf_37 rfl rfl ?_
    refine go_iald (p := 62) hf_37 rfl rfl (by first | with_reducible assumption | rfl) (by first | rfl | with_reducible assumption) (by first | exact rfl | with_reducible assumption) (by omega) eK ?_
    refine go_iconst (p := 63) hf_37 rfl rfl ci_3 ?_
    first | refine go_nn_ne (p := 66) (p2 := 79) hf_37 rfl rfl rfl (by omega) (by omega) (fun h63 => ?_) (fun h63 => ?_) | refine go_ic_ne (p := 66) (p2 := 79) hf_37 rfl rfl rfl (fun h63 => ?_) (fun h63 => ?_)
    · refine go_iconst (p := 80) hf_37 rfl rfl ci_0 ?_
      refine go_is5 (p := 82) hf_37 rfl rfl ?_
      refine go_il5 (p := 84) hf_37 rfl rfl ?_
      refine go_if_eq (p := 87) (p2 := 106) hf_37 rfl rfl rfl (fun h84 => ?_) (fun h84 => absurd rfl h84)
      refine go_il4 (p := 108) hf_37 rfl rfl ?_
      refine go_ret2 hf_37 rfl nl_37 (by first | exact Or.inl rfl | exact Or.inr rfl) ?_
      exact ⟨_, _, rfl, rfl, fin M (gr_rf h01) (fun e => absurd e h24) (fun e => absurd e h63) (fun _ _ => rfl) _ (bI_f Chg_rf).symm⟩
    · refine go_al0 (p := 67) hf_37 rfl rfl ?_
      refine go_getr (p := 70) hf_37 ho_37 rfl fl_1_21 rfl (by first | with_reducible assumption | rfl) rfl ?_
      refine go_il2 (p := 71) hf_37 rfl rfl ?_
      refine go_bald (p := 72) hf_37 rfl rfl (by first | with_reducible assumption | rfl) (by first | rfl | with_reducible assumption) (by first | exact rfl | with_reducible assumption) (by omega) (by first | with_reducible assumption | ((repeat rewrite [up_k]) <;> first | with_reducible assumption | decide | omega) | exact rfl) ?_
      refine go_if_eq (p := 75) (p2 := 79) hf_37 rfl rfl rfl (fun h72 => ?_) (fun h72 => ?_)
      · refine go_iconst (p := 80) hf_37 rfl rfl ci_0 ?_
        refine go_is5 (p := 82) hf_37 rfl rfl ?_
        refine go_il5 (p := 84) hf_37 rfl rfl ?_
        refine go_if_eq (p := 87) (p2 := 106) hf_37 rfl rfl rfl (fun h84 => ?_) (fun h84 => absurd rfl h84)
        refine go_il4 (p := 108) hf_37 rfl rfl ?_
        refine go_ret2 hf_37 rfl nl_37 (by first | exact Or.inl rfl | exact Or.inr rfl) ?_
        exact ⟨_, _, rfl, rfl, fin M (gr_rf h01) (fun e => absurd e h24) (fun _ e => absurd e (z01 h72)) (fun _ _ => rfl) _ (bI_f Chg_rf).symm⟩
      · refine go_iconst (p := 76) hf_37 rfl rfl ci_1 ?_
        refine go_goto (p2 := 80) hf_37 rfl rfl ?_
        refine go_is5 (p := 82) hf_37 rfl rfl ?_
        refine go_il5 (p := 84) hf_37 rfl rfl ?_
        refine go_if_eq (p := 87) (p2 := 106) hf_37 rfl rfl rfl (fun h84 => absurd h84 nI_10) (fun h84 => ?_)
        refine go_al0 (p := 88) hf_37 rfl rfl ?_
        refine go_getr (p := 91) hf_37 ho_37 rfl fl_1_21 rfl (by first | with_reducible assumption | rfl) rfl ?_
        refine go_il3 (p := 92) hf_37 rfl rfl ?_
        refine go_bald (p := 93) hf_37 rfl rfl (by first | with_reducible assumption | rfl) (by first | rfl | with_reducible assumption) (by first | exact rfl | with_reducible assumption) (by omega) (by first | with_reducible assumption | ((repeat rewrite [up_k]) <;> first | with_reducible assumption | decide | omega) | exact rfl) ?_
        refine go_if_ne (p := 96) (p2 := 106) hf_37 rfl rfl rfl (fun h93 => ?_) (fun h93 => ?_)
        · refine go_il4 (p := 108) hf_37 rfl rfl ?_
          refine go_ret2 hf_37 rfl nl_37 (by first | exact Or.inl rfl | exact Or.inr rfl) ?_
          exact ⟨_, _, rfl, rfl, fin M (gr_rf h01) (fun e => absurd e h24) (fun _ _ => n01 (h01 b (by omega)) h93) (fun _ _ => rfl) _ (bI_f Chg_rf).symm⟩
        · refine go_al0 (p := 97) hf_37 rfl rfl ?_
          refine go_getr (p := 100) hf_37 ho_37 rfl fl_1_21 rfl (by first | with_reducible assumption | rfl) rfl ?_
          refine go_il3 (p := 101) hf_37 rfl rfl ?_
          refine go_iconst (p := 102) hf_37 rfl rfl ci_1 ?_
          refine go_bast (p := 103) hf_37 rfl rfl (by first | with_reducible assumption | rfl) (by first | rfl | with_reducible assumption) (by first | exact rfl | with_reducible assumption) (by omega) (by first | exact Or.inl rfl | exact Or.inr rfl | with_reducible assumption) ?_
          refine go_iconst (p := 104) hf_37 rfl rfl ci_1 ?_
          refine go_is4 (p := 106) hf_37 rfl rfl ?_
          refine go_il4 (p := 108) hf_37 rfl rfl ?_
          refine go_ret2 hf_37 rfl nl_37 (by first | exact Or.inl rfl | exact Or.inr rfl) ?_
          refine ⟨_, _, rfl, rfl, fin _ ?_ (fun e => absurd e h24) (fun _ _ => up_s) (f5 _ _ _) _ (bI_t ⟨b, by omega, z01 h93, up_s⟩).symm⟩
          rw [up5]
          exact gr_set h01 (Or.inr rfl) (fun _ => rfl) (fun _ => sb (by rw [hK, h63]) (n01 (h01 a (by omega)) h72))
  · refine go_al0 (p := 28) hf_37 rfl rfl ?_
    refine go_getr (p := 31) hf_37 ho_37 rfl fl_1_21 rfl (by first | with_reducible assumption | rfl) rfl ?_
    refine go_il2 (p := 32) hf_37 rfl rfl ?_
    refine go_bald (p := 33) hf_37 rfl rfl (by first | with_reducible assumption | rfl) (by first | rfl | with_reducible assumption) (by first | exact rfl | with_reducible assumption) (by omega) (by first | with_reducible assumption | ((repeat rewrite [up_k]) <;> first | with_reducible assumption | decide | omega) | exact rfl) ?_
    refine go_if_ne (p := 36) (p2 := 46) hf_37 rfl rfl rfl (fun h33 => ?_) (fun h33 => ?_)
    · refine go_al0 (p := 47) hf_37 rfl rfl ?_
      refine go_getr (p := 50) hf_37 ho_37 rfl fl_1_9 rfl (by first | with_reducible assumption | rfl) rfl ?_
      refine go_il1 (p := 51) hf_37 rfl rfl ?_
      refine go_iald (p := 52) hf_37 rfl rfl (by first | with_reducible assumption | rfl) (by first | rfl | with_reducible assumption) (by first | exact rfl | with_reducible assumption) (by omega) eK ?_
      refine go_iconst (p := 53) hf_37 rfl rfl ci_4 ?_
      first | refine go_nn_eq (p := 56) (p2 := 75) hf_37 rfl rfl rfl (by omega) (by omega) (fun h53 => ?_) (fun h53 => absurd h24 h53) | refine go_ic_eq (p := 56) (p2 := 75) hf_37 rfl rfl rfl (fun h53 => ?_) (fun h53 => absurd h24 h53)
      refine go_iconst (p := 76) hf_37 rfl rfl ci_1 ?_
      refine go_goto (p2 := 80) hf_37 rfl rfl ?_
      refine go_is5 (p := 82) hf_37 rfl rfl ?_
      refine go_il5 (p := 84) hf_37 rfl rfl ?_
      refine go_if_eq (p := 87) (p2 := 106) hf_37 rfl rfl rfl (fun h84 => absurd h84 nI_10) (fun h84 => ?_)
      refine go_al0 (p := 88) hf_37 rfl rfl ?_
      refine go_getr (p := 91) hf_37 ho_37 rfl fl_1_21 rfl (by first | with_reducible assumption | rfl) rfl ?_
      refine go_il3 (p := 92) hf_37 rfl rfl ?_
      refine go_bald (p := 93) hf_37 rfl rfl (by first | with_reducible assumption | rfl) (by first | rfl | with_reducible assumption) (by first | exact rfl | with_reducible assumption) (by omega) (by first | with_reducible assumption | ((repeat rewrite [up_k]) <;> first | with_reducible assumption | decide | omega) | exact rfl) ?_
      refine go_if_ne (p := 96) (p2 := 106) hf_37 rfl rfl rfl (fun h93 => ?_) (fun h93 => ?_)
      · refine go_il4 (p := 108) hf_37 rfl rfl ?_
        refine go_ret2 hf_37 rfl nl_37 (by first | exact Or.inl rfl | exact Or.inr rfl) ?_
        exact ⟨_, _, rfl, rfl, fin M (gr_rf h01) (fun _ => ⟨n01 (h01 a (by omega)) h33, n01 (h01 b (by omega)) h93⟩) (fun e => absurd e (by omega)) (fun _ _ => rfl) _ (bI_f Chg_rf).symm⟩
      · refine go_al0 (p := 97) hf_37 rfl rfl ?_
        refine go_getr (p := 100) hf_37 ho_37 rfl fl_1_21 rfl (by first | with_reducible assumption | rfl) rfl ?_
        refine go_il3 (p := 101) hf_37 rfl rfl ?_
        refine go_iconst (p := 102) hf_37 rfl rfl ci_1 ?_
        refine go_bast (p := 103) hf_37 rfl rfl (by first | with_reducible assumption | rfl) (by first | rfl | with_reducible assumption) (by first | exact rfl | with_reducible assumption) (by omega) (by first | exact Or.inl rfl | exact Or.inr rfl | with_reducible assumption) ?_
        refine go_iconst (p := 104) hf_37 rfl rfl ci_1 ?_
        refine go_is4 (p := 106) hf_37 rfl rfl ?_
        refine go_il4 (p := 108) hf_37 rfl rfl ?_
        refine go_ret2 hf_37 rfl nl_37 (by first | exact Or.inl rfl | exact Or.inr rfl) ?_
        refine ⟨_, _, rfl, rfl, fin _ ?_ (fun _ => ⟨?_, up_s⟩) (fun e => absurd e (by omega)) (f5 _ _ _) _ (bI_t ⟨b, by omega, z01 h93, up_s⟩).symm⟩
        · rw [up5]
          exact gr_set h01 (Or.inr rfl) (fun _ => rfl) (fun _ S hS hG => (sa (by rw [hK, h24]) S hS hG).2)
        · rw [up5]
          by_cases e : a = b
          · rw [e]; exact upd_s
          · rw [upd_o e]; exact n01 (h01 a (by omega)) h33
    · refine go_al0 (p := 37) hf_37 rfl rfl ?_
      refine go_getr (p := 40) hf_37 ho_37 rfl fl_1_21 rfl (by first | with_reducible assumption | rfl) rfl ?_
      refine go_il2 (p := 41) hf_37 rfl rfl ?_
      refine go_iconst (p := 42) hf_37 rfl rfl ci_1 ?_
      refine go_bast (p := 43) hf_37 rfl rfl (by first | with_reducible assumption | rfl) (by first | rfl | with_reducible assumption) (by first | exact rfl | with_reducible assumption) (by omega) (by first | exact Or.inl rfl | exact Or.inr rfl | with_reducible assumption) ?_
      refine go_iconst (p := 44) hf_37 rfl rfl ci_1 ?_
      refine go_is4 (p := 46) hf_37 rfl rfl ?_
      refine go_al0 (p := 47) hf_37 rfl rfl ?_
      refine go_getr (p := 50) hf_37 ho_37 rfl fl_1_9 rfl (by first | with_reducible assumption | rfl) rfl ?_
      refine go_il1 (p := 51) hf_37 rfl rfl ?_
      refine go_iald (p := 52) hf_37 rfl rfl (by first | with_reducible assumption | rfl) (by first | rfl | with_reducible assumption) (by first | exact rfl | with_reducible assumption) (by omega) ((up_k (by omega)).trans eK) ?_
      refine go_iconst (p := 53) hf_37 rfl rfl ci_4 ?_
      first | refine go_nn_eq (p := 56) (p2 := 75) hf_37 rfl rfl rfl (by omega) (by omega) (fun h53 => ?_) (fun h53 => absurd h24 h53) | refine go_ic_eq (p := 56) (p2 := 75) hf_37 rfl rfl rfl (fun h53 => ?_) (fun h53 => absurd h24 h53)
      refine go_iconst (p := 76) hf_37 rfl rfl ci_1 ?_
      refine go_goto (p2 := 80) hf_37 rfl rfl ?_
      refine go_is5 (p := 82) hf_37 rfl rfl ?_
      refine go_il5 (p := 84) hf_37 rfl rfl ?_
      refine go_if_eq (p := 87) (p2 := 106) hf_37 rfl rfl rfl (fun h84 => absurd h84 nI_10) (fun h84 => ?_)
      refine go_al0 (p := 88) hf_37 rfl rfl ?_
      refine go_getr (p := 91) hf_37 ho_37 rfl fl_1_21 rfl (by first | with_reducible assumption | rfl) rfl ?_
      refine go_il3 (p := 92) hf_37 rfl rfl ?_
      refine go_bald (p := 93) hf_37 rfl rfl (by first | with_reducible assumption | rfl) (by first | rfl | with_reducible assumption) (by first | exact rfl | with_reducible assumption) (by omega) (by first | with_reducible assumption | ((repeat rewrite [up_k]) <;> first | with_reducible assumption | decide | omega) | exact rfl) ?_
      refine go_if_ne (p := 96) (p2 := 106) hf_37 rfl rfl rfl (fun h93 => ?_) (fun h93 => ?_)
      · refine go_il4 (p := 108) hf_37 rfl rfl ?_
        refine go_ret2 hf_37 rfl nl_37 (by first | exact Or.inl rfl | exact Or.inr rfl) ?_
        have ga : gr K A B N (M 5) (sm_up M 5 a (nI 1) 5) := by
          rw [up5]
          exact gr_set h01 (Or.inr rfl) (fun _ => rfl) (fun _ S hS hG => (sa (by rw [hK, h24]) S hS hG).1)
        refine ⟨_, _, rfl, rfl, fin _ ga (fun _ => ⟨up_s, n01 (ga.2.1 b (by omega)) h93⟩) (fun e => absurd e (by omega)) (f5 _ _ _) _ (bI_t ⟨a, by omega, z01 h33, up_s⟩).symm⟩
      · refine go_al0 (p := 97) hf_37 rfl rfl ?_
        refine go_getr (p := 100) hf_37 ho_37 rfl fl_1_21 rfl (by first | with_reducible assumption | rfl) rfl ?_
        refine go_il3 (p := 101) hf_37 rfl rfl ?_
        refine go_iconst (p := 102) hf_37 rfl rfl ci_1 ?_
        refine go_bast (p := 103) hf_37 rfl rfl (by first | with_reducible assumption | rfl) (by first | rfl | with_reducible assumption) (by first | exact rfl | with_reducible assumption) (by omega) (by first | exact Or.inl rfl | exact Or.inr rfl | with_reducible assumption) ?_
        refine go_iconst (p := 104) hf_37 rfl rfl ci_1 ?_
        refine go_is4 (p := 106) hf_37 rfl rfl ?_
        refine go_il4 (p := 108) hf_37 rfl rfl ?_
        refine go_ret2 hf_37 rfl nl_37 (by first | exact Or.inl rfl | exact Or.inr rfl) ?_
        have ga : gr K A B N (M 5) (sm_up M 5 a (nI 1) 5) := by
          rw [up5]
          exact gr_set h01 (Or.inr rfl) (fun _ => rfl) (fun _ S hS hG => (sa (by rw [hK, h24]) S hS hG).1)
        have gb : gr K A B N (M 5) (sm_up (sm_up M 5 a (nI 1)) 5 b (nI 1) 5) := by
          refine gr_tr ga ?_
          rw [up5]
          exact gr_set ga.2.1 (Or.inr rfl) (fun _ => rfl) (fun _ S hS hG => (sa (by rw [hK, h24]) S hS (fun j hj hg => hG j hj (ga.1 j hg))).2)
        have gax : sm_up (sm_up M 5 a (nI 1)) 5 b (nI 1) 5 a = 1 := by
          rw [up5]
          by_cases e : a = b
          · rw [e]; exact upd_s
          · rw [upd_o e]; exact up_s
        exact ⟨_, _, rfl, rfl, fin _ gb (fun _ => ⟨gax, up_s⟩) (fun e => absurd e (by omega)) (fun p hp => (f5 _ _ _ p hp).trans (f5 _ _ _ p hp)) _ (bI_t ⟨a, by omega, z01 h33, gax⟩).symm⟩
theorem c_spU {X : Nat × (Nat → Int32)} {d lw : Nat} {J : sm_J} {rc rs : Nat} {Qz : sm_O → sm_H → Prop} {M : sm_M} {g0 : Nat → Int32} {r : Int32} (hq : tq M K A B N) (hW : WT K A B N) : ∀ (n t : Nat) (M2 : sm_M), t + n = N → gr K A B N g0 (M2 5) → (∀ p, p ≠ 5 → M2 p = M p) → (¬ Chg N g0 (M2 5) → (∀ i, i < N → apt K A B (M2 5) i) ∧ ∀ i, i < t → tgt K A B (M2 5) i) → (∀ M3 : sm_M, gr K A B N g0 (M3 5) → (∀ p, p ≠ 5 → M3 p = M p) → (¬ Chg N g0 (M3 5) → Cl K A B N (fun i => M3 5 i = 1)) → sm_wp tb_T X tb_ok d lw 36 135 [some (.ref 1), some (.int (bI (Chg N g0 (M3 5)))), some (.int r), some (.int (nI N))] [] (wSH, M3, J, rc, rs) Qz) → sm_wp tb_T X tb_ok d lw 36 65 [some (.ref 1), some (.int (bI (Chg N g0 (M2 5)))), some (.int r), some (.int (nI t))] [] (wSH, M2, J, rc, rs) Qz := by
  have hN := hq.2.1
  intro n
  induction n with
  | zero =>
    intro t M2 htn hg f2 hc k
    have e16 : M2 1 6 = nI N := by rw [f2 1 (by omega)]; exact hq.1
    have htN : t = N := by omega
    subst htN
    refine go_il3 (p := 66) hf_36 rfl rfl ?_
    refine go_al0 (p := 67) hf_36 rfl rfl ?_
    refine go_get (p := 70) hf_36 ho_36 rfl fl_1_37 rfl (by first | with_reducible assumption | rfl) rfl e16 ?_
    first | refine go_nn_ge (p := 73) (p2 := 135) hf_36 rfl rfl rfl (by omega) (by omega) (fun h70 => ?_) (fun h70 => absurd (Nat.le_refl _) h70) | refine go_ic_ge (p := 73) (p2 := 135) hf_36 rfl rfl rfl (fun h70 => ?_) (fun h70 => absurd (Nat.le_refl _) h70)
    exact k M2 hg f2 (fun h => Cl_of (hc h).1 (hc h).2)
  | succ n ih =>
    intro t M2 htn hg f2 hc k
    have e16 : M2 1 6 = nI N := by rw [f2 1 (by omega)]; exact hq.1
    have htN : t < N := by omega
    have nx : ∀ (M3 : sm_M), gr K A B N (M2 5) (M3 5) → (∀ p, p ≠ 5 → M3 p = M2 p) → tgt K A B (M3 5) t → ∀ m, m = bI (Chg N g0 (M3 5)) → sm_wp tb_T X tb_ok d lw 36 129 [some (.ref 1), some (.int m), some (.int r), some (.int (nI t))] [] (wSH, M3, J, rc, rs) Qz := by
      intro M3 hg3 f3 ht3 m hm
      subst hm
      refine go_ic3 (p := 132) hf_36 rfl rfl (by first | exact inc1 _ | exact rfl) ?_
      refine go_goto (p2 := 65) hf_36 rfl rfl ?_
      refine ih (t + 1) M3 (by omega) (gr_tr hg hg3) (fun p hp => (f3 p hp).trans (f2 p hp)) (fun h => ?_) k
      have h' : ¬ Chg N g0 (M2 5) ∧ ¬ Chg N (M2 5) (M3 5) := by
        rw [Chg_tr hg.1 hg3.1] at h
        exact ⟨fun q => h (Or.inl q), fun q => h (Or.inr q)⟩
      have e := Chg_no hg3.1 h'.2
      refine ⟨fun i hi => apt_congr hi e ((hc h'.1).1 i hi), fun i hi => ?_⟩
      by_cases hit : i = t
      · subst hit; exact ht3
      · exact tgt_congr (by omega) e ((hc h'.1).2 i (by omega))
    have stay : tgt K A B (M2 5) t → sm_wp tb_T X tb_ok d lw 36 129 [some (.ref 1), some (.int (bI (Chg N g0 (M2 5)))), some (.int r), some (.int (nI t))] [] (wSH, M2, J, rc, rs) Qz := fun h => nx M2 (gr_rf hg.2.1) (fun _ _ => rfl) h _ rfl
    have kind : (K t = nI 0 ∨ K t = nI 1) ∨ ∃ kk a b, 2 ≤ kk ∧ kk ≤ 5 ∧ K t = nI kk ∧ a < t ∧ b < t ∧ A t = nI a ∧ B t = nI b := by
      rcases hW t htN with ⟨g1, -⟩ | ⟨kk, a, b, g⟩
      · exact Or.inl g1
      · exact Or.inr ⟨kk, a, b, g⟩
    have eK : M2 2 t = K t := by rw [f2 2 (by omega), hq.2.2.1]
    have eA : M2 3 t = A t := by rw [f2 3 (by omega), hq.2.2.2.1]
    have eB : M2 4 t = B t := by rw [f2 4 (by omega), hq.2.2.2.2]
    rcases kind with hk | ⟨kk, a, b, hk2, hk5, hK, ha, hb, hA, hB⟩
    · have hst : tgt K A B (M2 5) t := fun a b _ _ _ _ k0 k1 => by
        rcases hk with hk | hk
        · exact absurd hk k0
        · exact absurd hk k1
      refine go_il3 (p := 66) hf_36 rfl rfl ?_
      refine go_al0 (p := 67) hf_36 rfl rfl ?_
      refine go_get (p := 70) hf_36 ho_36 rfl fl_1_37 rfl (by first | with_reducible assumption | rfl) rfl e16 ?_
      first | refine go_nn_ge (p := 73) (p2 := 135) hf_36 rfl rfl rfl (by omega) (by omega) (fun h70 => absurd h70 (by omega)) (fun h70 => ?_) | refine go_ic_ge (p := 73) (p2 := 135) hf_36 rfl rfl rfl (fun h70 => absurd h70 (by omega)) (fun h70 => ?_)
      refine go_al0 (p := 74) hf_36 rfl rfl ?_
      refine go_getr (p := 77) hf_36 ho_36 rfl fl_1_21 rfl (by first | with_reducible assumption | rfl) rfl ?_
      refine go_il3 (p := 78) hf_36 rfl rfl ?_
      refine go_bald (p := 79) hf_36 rfl rfl (by first | with_reducible assumption | rfl) (by first | rfl | with_reducible assumption) (by first | exact rfl | with_reducible assumption) (by omega) (by first | with_reducible assumption | ((repeat rewrite [up_k]) <;> first | with_reducible assumption | decide | omega) | exact rfl) ?_
      refine go_if_ne (p := 82) (p2 := 129) hf_36 rfl rfl rfl (fun h79 => ?_) (fun h79 => ?_)
      · exact stay hst
      · refine go_al0 (p := 83) hf_36 rfl rfl ?_
        refine go_getr (p := 86) hf_36 ho_36 rfl fl_1_9 rfl (by first | with_reducible assumption | rfl) rfl ?_
        refine go_il3 (p := 87) hf_36 rfl rfl ?_
        refine go_iald (p := 88) hf_36 rfl rfl (by first | with_reducible assumption | rfl) (by first | rfl | with_reducible assumption) (by first | exact rfl | with_reducible assumption) (by omega) eK ?_
        refine go_iconst (p := 89) hf_36 rfl rfl ci_2 ?_
        refine go_ic_lt (p := 92) (p2 := 129) hf_36 rfl rfl rfl (fun h89 => ?_) (fun h89 => absurd (by rcases hk with hk | hk <;> rw [hk] <;> decide) h89)
        exact stay hst
    · rw [hK] at eK
      rw [hA] at eA
      rw [hB] at eB
      have hin : ∀ a' b', A t = nI a' → B t = nI b' → a' < t → b' < t → a' = a ∧ b' = b := fun a' b' h1 h2 h3 h4 => ⟨(nI_eq (by omega) (by omega)).mp (h1.symm.trans hA), (nI_eq (by omega) (by omega)).mp (h2.symm.trans hB)⟩
      have k0 : ¬ K t = nI 0 := by rw [hK, nI_eq (by omega) (by omega)]; omega
      have k1 : ¬ K t = nI 1 := by rw [hK, nI_eq (by omega) (by omega)]; omega
      refine go_il3 (p := 66) hf_36 rfl rfl ?_
      refine go_al0 (p := 67) hf_36 rfl rfl ?_
      refine go_get (p := 70) hf_36 ho_36 rfl fl_1_37 rfl (by first | with_reducible assumption | rfl) rfl e16 ?_
      first | refine go_nn_ge (p := 73) (p2 := 135) hf_36 rfl rfl rfl (by omega) (by omega) (fun h70 => absurd h70 (by omega)) (fun h70 => ?_) | refine go_ic_ge (p := 73) (p2 := 135) hf_36 rfl rfl rfl (fun h70 => absurd h70 (by omega)) (fun h70 => ?_)
      refine go_al0 (p := 74) hf_36 rfl rfl ?_
      refine go_getr (p := 77) hf_36 ho_36 rfl fl_1_21 rfl (by first | with_reducible assumption | rfl) rfl ?_
      refine go_il3 (p := 78) hf_36 rfl rfl ?_
      refine go_bald (p := 79) hf_36 rfl rfl (by first | with_reducible assumption | rfl) (by first | rfl | with_reducible assumption) (by first | exact rfl | with_reducible assumption) (by omega) (by first | with_reducible assumption | ((repeat rewrite [up_k]) <;> first | with_reducible assumption | decide | omega) | exact rfl) ?_
      refine go_if_ne (p := 82) (p2 := 129) hf_36 rfl rfl rfl (fun h79 => ?_) (fun h79 => ?_)
      · exact stay (fun _ _ _ _ _ _ _ _ _ _ => n01 (hg.2.1 t htN) h79)
      · refine go_al0 (p := 83) hf_36 rfl rfl ?_
        refine go_getr (p := 86) hf_36 ho_36 rfl fl_1_9 rfl (by first | with_reducible assumption | rfl) rfl ?_
        refine go_il3 (p := 87) hf_36 rfl rfl ?_
        refine go_iald (p := 88) hf_36 rfl rfl (by first | with_reducible assumption | rfl) (by first | rfl | with_reducible assumption) (by first | exact rfl | with_reducible assumption) (by omega) eK ?_
        refine go_iconst (p := 89) hf_36 rfl rfl ci_2 ?_
        first | refine go_nn_lt (p := 92) (p2 := 129) hf_36 rfl rfl rfl (by omega) (by omega) (fun h89 => absurd h89 (by omega)) (fun h89 => ?_) | refine go_ic_lt (p := 92) (p2 := 129) hf_36 rfl rfl rfl (fun h89 => absurd h89 (by omega)) (fun h89 => ?_)
        refine go_al0 (p := 93) hf_36 rfl rfl ?_
        refine go_getr (p := 96) hf_36 ho_36 rfl fl_1_21 rfl (by first | with_reducible assumption | rfl) rfl ?_
        refine go_al0 (p := 97) hf_36 rfl rfl ?_
        refine go_getr (p := 100) hf_36 ho_36 rfl fl_1_15 rfl (by first | with_reducible assumption | rfl) rfl ?_
        refine go_il3 (p := 101) hf_36 rfl rfl ?_
        refine go_iald (p := 102) hf_36 rfl rfl (by first | with_reducible assumption | rfl) (by first | rfl | with_reducible assumption) (by first | exact rfl | with_reducible assumption) (by omega) eA ?_
        refine go_bald (p := 103) hf_36 rfl rfl (by first | with_reducible assumption | rfl) (by first | rfl | with_reducible assumption) (by first | exact rfl | with_reducible assumption) (by omega) (by first | with_reducible assumption | ((repeat rewrite [up_k]) <;> first | with_reducible assumption | decide | omega) | exact rfl) ?_
        refine go_if_eq (p := 106) (p2 := 129) hf_36 rfl rfl rfl (fun h103 => ?_) (fun h103 => ?_)
        · refine stay (fun a' b' q1 q2 q3 q4 _ _ q5 _ => ?_)
          obtain ⟨rfl, rfl⟩ := hin a' b' q3 q4 q1 q2
          exact absurd q5 (z01 h103)
        · refine go_al0 (p := 107) hf_36 rfl rfl ?_
          refine go_getr (p := 110) hf_36 ho_36 rfl fl_1_21 rfl (by first | with_reducible assumption | rfl) rfl ?_
          refine go_al0 (p := 111) hf_36 rfl rfl ?_
          refine go_getr (p := 114) hf_36 ho_36 rfl fl_1_18 rfl (by first | with_reducible assumption | rfl) rfl ?_
          refine go_il3 (p := 115) hf_36 rfl rfl ?_
          refine go_iald (p := 116) hf_36 rfl rfl (by first | with_reducible assumption | rfl) (by first | rfl | with_reducible assumption) (by first | exact rfl | with_reducible assumption) (by omega) eB ?_
          refine go_bald (p := 117) hf_36 rfl rfl (by first | with_reducible assumption | rfl) (by first | rfl | with_reducible assumption) (by first | exact rfl | with_reducible assumption) (by omega) (by first | with_reducible assumption | ((repeat rewrite [up_k]) <;> first | with_reducible assumption | decide | omega) | exact rfl) ?_
          refine go_if_eq (p := 120) (p2 := 129) hf_36 rfl rfl rfl (fun h117 => ?_) (fun h117 => ?_)
          · refine stay (fun a' b' q1 q2 q3 q4 _ _ _ q5 => ?_)
            obtain ⟨rfl, rfl⟩ := hin a' b' q3 q4 q1 q2
            exact absurd q5 (z01 h117)
          · refine go_al0 (p := 121) hf_36 rfl rfl ?_
            refine go_getr (p := 124) hf_36 ho_36 rfl fl_1_21 rfl (by first | with_reducible assumption | rfl) rfl ?_
            refine go_il3 (p := 125) hf_36 rfl rfl ?_
            refine go_iconst (p := 126) hf_36 rfl rfl ci_1 ?_
            refine go_bast (p := 127) hf_36 rfl rfl (by first | with_reducible assumption | rfl) (by first | rfl | with_reducible assumption) (by first | exact rfl | with_reducible assumption) (by omega) (by first | exact Or.inl rfl | exact Or.inr rfl | with_reducible assumption) ?_
            refine go_iconst (p := 128) hf_36 rfl rfl ci_1 ?_
            refine go_is1 (p := 129) hf_36 rfl rfl ?_
            have hs : gr K A B N (M2 5) (sm_up M2 5 t (nI 1) 5) := by
              rw [up5]
              exact gr_set hg.2.1 (Or.inr rfl) (fun _ => rfl) (fun _ S hS hG => (hS t a b htN ha hb hA hB k0 k1).1 (hG a (by omega) (n01 (hg.2.1 a (by omega)) h103)) (hG b (by omega) (n01 (hg.2.1 b (by omega)) h117)))
            refine nx _ hs (fun p hp => by unfold sm_up; rw [if_neg hp]) (fun _ _ _ _ _ _ _ _ _ _ => up_s) _ (bI_t ?_).symm
            rw [Chg_tr hg.1 hs.1]
            exact Or.inr ⟨t, htN, z01 h79, up_s⟩
theorem c_spD {X : Nat × (Nat → Int32)} {d lw : Nat} {J : sm_J} {rc rs : Nat} {Qz : sm_O → sm_H → Prop} {M : sm_M} {g0 : Nat → Int32} {r : Int32} (hq : tq M K A B N) (hW : WT K A B N) (hlw : 25 ≤ lw) (hd : 1 ≤ d) : ∀ (n : Nat) (M2 : sm_M), n ≤ N → gr K A B N g0 (M2 5) → (∀ p, p ≠ 5 → M2 p = M p) → (¬ Chg N g0 (M2 5) → ∀ i, n ≤ i → i < N → apt K A B (M2 5) i) → (∀ M3 : sm_M, gr K A B N g0 (M3 5) → (∀ p, p ≠ 5 → M3 p = M p) → (¬ Chg N g0 (M3 5) → ∀ i, i < N → apt K A B (M3 5) i) → ∀ z, sm_wp tb_T X tb_ok d lw 36 63 [some (.ref 1), some (.int (bI (Chg N g0 (M3 5)))), some (.int r), some (.int z)] [] (wSH, M3, J, rc, rs) Qz) → sm_wp tb_T X tb_ok d lw 36 24 [some (.ref 1), some (.int (bI (Chg N g0 (M2 5)))), some (.int r), some (.int (nI n - nI 1))] [] (wSH, M2, J, rc, rs) Qz := by
  have hN := hq.2.1
  intro n
  induction n with
  | zero =>
    intro M2 hnN hg f2 hc k
    refine go_il3 (p := 25) hf_36 rfl rfl ?_
    refine go_if_lt (p := 28) (p2 := 63) hf_36 rfl rfl rfl (fun h25 => ?_) (fun h25 => absurd (by decide) h25)
    exact k M2 hg f2 (fun h i hi => hc h i (by omega) hi) _
  | succ n ih =>
    intro M2 hnN hg f2 hc k
    have htN : n < N := by omega
    have nx : ∀ (M3 : sm_M), gr K A B N (M2 5) (M3 5) → (∀ p, p ≠ 5 → M3 p = M2 p) → apt K A B (M3 5) n → ∀ m, m = bI (Chg N g0 (M3 5)) → sm_wp tb_T X tb_ok d lw 36 57 [some (.ref 1), some (.int m), some (.int r), some (.int (nI (n + 1) - nI 1))] [] (wSH, M3, J, rc, rs) Qz := by
      intro M3 hg3 f3 ht3 m hm
      subst hm
      refine go_ic3 (p := 60) hf_36 rfl rfl (tm1_d n) ?_
      refine go_goto (p2 := 24) hf_36 rfl rfl ?_
      refine ih M3 (by omega) (gr_tr hg hg3) (fun p hp => (f3 p hp).trans (f2 p hp)) (fun h i hi hi2 => ?_) k
      have h' : ¬ Chg N g0 (M2 5) ∧ ¬ Chg N (M2 5) (M3 5) := by
        rw [Chg_tr hg.1 hg3.1] at h
        exact ⟨fun q => h (Or.inl q), fun q => h (Or.inr q)⟩
      have e := Chg_no hg3.1 h'.2
      by_cases hit : i = n
      · subst hit; exact ht3
      · exact apt_congr (by omega) e (hc h'.1 i (by omega) hi2)
    have stay : apt K A B (M2 5) n → sm_wp tb_T X tb_ok d lw 36 57 [some (.ref 1), some (.int (bI (Chg N g0 (M2 5)))), some (.int r), some (.int (nI (n + 1) - nI 1))] [] (wSH, M2, J, rc, rs) Qz := fun h => nx M2 (gr_rf hg.2.1) (fun _ _ => rfl) h _ rfl
    have kind : (K n = nI 0 ∨ K n = nI 1) ∨ ∃ kk a b, 2 ≤ kk ∧ kk ≤ 5 ∧ K n = nI kk ∧ a < n ∧ b < n ∧ A n = nI a ∧ B n = nI b := by
      rcases hW n htN with ⟨g1, -⟩ | ⟨kk, a, b, g⟩
      · exact Or.inl g1
      · exact Or.inr ⟨kk, a, b, g⟩
    have eK : M2 2 n = K n := by rw [f2 2 (by omega), hq.2.2.1]
    have hpos : ¬ nI (n + 1) - nI 1 < 0 := by rw [tm1_s]; exact nI_pos (by omega)
    rcases kind with hk | ⟨kk, a, b, hk2, hk5, hK, ha, hb, hA, hB⟩
    · have hst : apt K A B (M2 5) n := fun a b _ _ _ _ => by
        rcases hk with hk | hk
        · rw [hk]; exact ⟨fun e => absurd e (by decide), fun e => absurd e (by decide)⟩
        · rw [hk]; exact ⟨fun e => absurd e (by decide), fun e => absurd e (by decide)⟩
      refine go_il3 (p := 25) hf_36 rfl rfl ?_
      refine go_if_lt (p := 28) (p2 := 63) hf_36 rfl rfl rfl (fun h25 => absurd h25 hpos) (fun h25 => ?_)
      refine go_al0 (p := 29) hf_36 rfl rfl ?_
      refine go_getr (p := 32) hf_36 ho_36 rfl fl_1_21 rfl (by first | with_reducible assumption | rfl) rfl ?_
      refine go_il3 (p := 33) hf_36 rfl rfl ?_
      refine go_bald (p := 34) hf_36 rfl rfl (by first | with_reducible assumption | rfl) (by first | rfl | with_reducible assumption) (tm1_s n) (by omega) (by first | with_reducible assumption | ((repeat rewrite [up_k]) <;> first | with_reducible assumption | decide | omega) | exact rfl) ?_
      refine go_if_eq (p := 37) (p2 := 57) hf_36 rfl rfl rfl (fun h34 => ?_) (fun h34 => ?_)
      · exact stay hst
      · refine go_al0 (p := 38) hf_36 rfl rfl ?_
        refine go_getr (p := 41) hf_36 ho_36 rfl fl_1_9 rfl (by first | with_reducible assumption | rfl) rfl ?_
        refine go_il3 (p := 42) hf_36 rfl rfl ?_
        refine go_iald (p := 43) hf_36 rfl rfl (by first | with_reducible assumption | rfl) (by first | rfl | with_reducible assumption) (tm1_s n) (by omega) eK ?_
        refine go_iconst (p := 44) hf_36 rfl rfl ci_2 ?_
        refine go_ic_lt (p := 47) (p2 := 57) hf_36 rfl rfl rfl (fun h44 => ?_) (fun h44 => absurd (by rcases hk with hk | hk <;> rw [hk] <;> decide) h44)
        exact stay hst
    · rw [hK] at eK
      have q2 : tq M2 K A B N := tq_keep hq (fun p h1 h2 => f2 p (by omega))
      refine go_il3 (p := 25) hf_36 rfl rfl ?_
      refine go_if_lt (p := 28) (p2 := 63) hf_36 rfl rfl rfl (fun h25 => absurd h25 hpos) (fun h25 => ?_)
      refine go_al0 (p := 29) hf_36 rfl rfl ?_
      refine go_getr (p := 32) hf_36 ho_36 rfl fl_1_21 rfl (by first | with_reducible assumption | rfl) rfl ?_
      refine go_il3 (p := 33) hf_36 rfl rfl ?_
      refine go_bald (p := 34) hf_36 rfl rfl (by first | with_reducible assumption | rfl) (by first | rfl | with_reducible assumption) (tm1_s n) (by omega) (by first | with_reducible assumption | ((repeat rewrite [up_k]) <;> first | with_reducible assumption | decide | omega) | exact rfl) ?_
      refine go_if_eq (p := 37) (p2 := 57) hf_36 rfl rfl rfl (fun h34 => ?_) (fun h34 => ?_)
      · exact stay (fun a b _ _ _ _ => ⟨fun _ e => absurd e (z01 h34), fun _ e => absurd e (z01 h34)⟩)
      · refine go_al0 (p := 38) hf_36 rfl rfl ?_
        refine go_getr (p := 41) hf_36 ho_36 rfl fl_1_9 rfl (by first | with_reducible assumption | rfl) rfl ?_
        refine go_il3 (p := 42) hf_36 rfl rfl ?_
        refine go_iald (p := 43) hf_36 rfl rfl (by first | with_reducible assumption | rfl) (by first | rfl | with_reducible assumption) (tm1_s n) (by omega) eK ?_
        refine go_iconst (p := 44) hf_36 rfl rfl ci_2 ?_
        first | refine go_nn_lt (p := 47) (p2 := 57) hf_36 rfl rfl rfl (by omega) (by omega) (fun h44 => absurd h44 (by omega)) (fun h44 => ?_) | refine go_ic_lt (p := 47) (p2 := 57) hf_36 rfl rfl rfl (fun h44 => absurd h44 (by omega)) (fun h44 => ?_)
        have es : nI (n + 1) - nI 1 = nI n := tm1_s n
        refine go_al0 (p := 48) hf_36 rfl rfl ?_
        refine go_il3 (p := 49) hf_36 rfl rfl ?_
        refine go_cw2 (p := 52) hf_36 rfl rfl (inv_v ho_36 cl_1_63) (by decide) nl_37 rfl rfl (by first | rfl | exact rcv_of (by with_reducible assumption)) rfl rfl rfl (by omega) (by omega) ((show cr 37 0 0 [.ref 1, .int (nI (n + 1) - nI 1)] M2 _ by rw [es]; exact c_takeApart q2 htN hK hk2 hk5 ha hb hA hB hg.2.1 (n01 (hg.2.1 n htN) h34))) ?_
        rintro v9 M3 ⟨rfl, h3, a3, f3⟩
        simp only [Option.toList, List.cons_append, List.nil_append]
        refine go_if_eq (p := 55) (p2 := 57) hf_36 rfl rfl rfl (fun h52 => ?_) (fun h52 => ?_)
        · refine nx M3 h3 f3 a3 _ (bI_congr ?_)
          rw [Chg_tr hg.1 h3.1]
          exact ⟨Or.inl, fun q => q.elim id (fun q => absurd q (bI_0.mp h52))⟩
        · refine go_iconst (p := 56) hf_36 rfl rfl ci_1 ?_
          refine go_is1 (p := 57) hf_36 rfl rfl ?_
          refine nx M3 h3 f3 a3 _ (bI_t ?_).symm
          rw [Chg_tr hg.1 h3.1]
          exact Or.inr (bI_n0.mp h52)
theorem c_spread {M : sm_M} (hq : tq M K A B N) (hW : WT K A B N) (h01 : ∀ i, i < N → M 5 i = 0 ∨ M 5 i = 1) : cr 36 1 25 [.ref 1] M (fun v M1 => v = none ∧ (∀ i, i < N → M1 5 i = bI (Dv K A B N (fun j => M 5 j = 1) i)) ∧ ∀ p, p ≠ 5 → M1 p = M p) := by
  intro X J rc rs d lw hd hw
  show sm_wp tb_T X tb_ok d lw 36 0 [some (.ref 1), none, none, none] [] _ _
  have hN := hq.2.1
  have loop : ∀ (n r : Nat) (M2 : sm_M) (m : Int32) (y3 : Option Value), r + n = 901 → gr K A B N (M 5) (M2 5) → (∀ p, p ≠ 5 → M2 p = M p) → ((m = nI 0 ∧ Cl K A B N (fun i => M2 5 i = 1)) ∨ (m = nI 1 ∧ r ≤ cnt (M2 5) N)) → sm_wp tb_T X tb_ok d lw 36 4 [some (.ref 1), some (.int m), some (.int (nI r)), y3] [] (wSH, M2, J, rc, rs) (fun o h' => ∃ v M1, o = .inl v ∧ h' = (wSH, M1, J, rc, rs) ∧ v = none ∧ (∀ i, i < N → M1 5 i = bI (Dv K A B N (fun j => M 5 j = 1) i)) ∧ ∀ p, p ≠ 5 → M1 p = M p) := by
    intro n
    induction n with
    | zero =>
      intro r M2 m y3 hr hg f2 hm
      refine go_il2 (p := 5) hf_36 rfl rfl ?_
      refine go_sipush (p := 8) hf_36 rfl rfl cs_900 ?_
      first | refine go_nn_gt (p := 11) (p2 := 141) hf_36 rfl rfl rfl (by omega) (by omega) (fun h8 => ?_) (fun h8 => absurd (by omega) h8) | refine go_ic_gt (p := 11) (p2 := 141) hf_36 rfl rfl rfl (fun h8 => ?_) (fun h8 => absurd (by omega) h8)
      refine go_ret0 hf_36 rfl nl_36 ?_
      rcases hm with ⟨-, hm⟩ | ⟨-, hm⟩
      · exact ⟨_, _, rfl, rfl, rfl, gr_fin hg hm, f2⟩
      · have := cnt_le (g := M2 5) N
        omega
    | succ n ih =>
      intro r M2 m y3 hr hg f2 hm
      rcases hm with ⟨rfl, hm⟩ | ⟨rfl, hm⟩
      · skip
        refine go_il2 (p := 5) hf_36 rfl rfl ?_
        refine go_sipush (p := 8) hf_36 rfl rfl cs_900 ?_
        first | refine go_nn_gt (p := 11) (p2 := 141) hf_36 rfl rfl rfl (by omega) (by omega) (fun h8 => absurd h8 (by omega)) (fun h8 => ?_) | refine go_ic_gt (p := 11) (p2 := 141) hf_36 rfl rfl rfl (fun h8 => absurd h8 (by omega)) (fun h8 => ?_)
        refine go_il1 (p := 12) hf_36 rfl rfl ?_
        refine go_if_eq (p := 15) (p2 := 141) hf_36 rfl rfl rfl (fun h12 => ?_) (fun h12 => absurd rfl h12)
        refine go_ret0 hf_36 rfl nl_36 ?_
        exact ⟨_, _, rfl, rfl, rfl, gr_fin hg hm, f2⟩
      · have e16 : M2 1 6 = nI N := by rw [f2 1 (by omega)]; exact hq.1
        have q2 : tq M2 K A B N := tq_keep hq (fun p h1 h2 => f2 p (by omega))
        refine go_il2 (p := 5) hf_36 rfl rfl ?_
        refine go_sipush (p := 8) hf_36 rfl rfl cs_900 ?_
        first | refine go_nn_gt (p := 11) (p2 := 141) hf_36 rfl rfl rfl (by omega) (by omega) (fun h8 => absurd h8 (by omega)) (fun h8 => ?_) | refine go_ic_gt (p := 11) (p2 := 141) hf_36 rfl rfl rfl (fun h8 => absurd h8 (by omega)) (fun h8 => ?_)
        refine go_il1 (p := 12) hf_36 rfl rfl ?_
        refine go_if_eq (p := 15) (p2 := 141) hf_36 rfl rfl rfl (fun h12 => absurd h12 nI_10) (fun h12 => ?_)
        refine go_iconst (p := 16) hf_36 rfl rfl ci_0 ?_
        refine go_is1 (p := 17) hf_36 rfl rfl ?_
        refine go_al0 (p := 18) hf_36 rfl rfl ?_
        refine go_get (p := 21) hf_36 ho_36 rfl fl_1_37 rfl (by first | with_reducible assumption | rfl) rfl e16 ?_
        refine go_iconst (p := 22) hf_36 rfl rfl ci_1 ?_
        refine go_isub (p := 23) hf_36 rfl rfl rfl ?_
        refine go_is3 (p := 24) hf_36 rfl rfl ?_
        have e0 : nI 0 = bI (Chg N (M2 5) (M2 5)) := (bI_f Chg_rf).symm
        rw [show ([some (.ref 1), some (.int (nI 0)), some (.int (nI r)), some (.int (nI N - nI 1))] : sm_L) = [some (.ref 1), some (.int (bI (Chg N (M2 5) (M2 5)))), some (.int (nI r)), some (.int (nI N - nI 1))] from by rw [← e0]]
        refine c_spD q2 hW (by omega) (by omega) N M2 (Nat.le_refl _) (gr_rf hg.2.1) (fun _ _ => rfl) (fun _ i h1 h2 => absurd h2 (by omega)) (fun M3 g3 f3 c3 z => ?_)
        refine go_iconst (p := 64) hf_36 rfl rfl ci_0 ?_
        refine go_is3 (p := 65) hf_36 rfl rfl ?_
        refine c_spU q2 hW N 0 M3 (by omega) g3 f3 (fun h => ⟨c3 h, fun i hi => absurd hi (Nat.not_lt_zero i)⟩) (fun M4 g4 f4 c4 => ?_)
        refine go_ic2 (p := 138) hf_36 rfl rfl (by first | exact inc1 _ | exact rfl) ?_
        refine go_goto (p2 := 4) hf_36 rfl rfl ?_
        refine ih (r + 1) M4 _ _ (by omega) (gr_tr hg g4) (fun p hp => (f4 p hp).trans (f2 p hp)) ?_
        by_cases hC : Chg N (M2 5) (M4 5)
        · right
          have := cnt_lt g4.1 N hC
          exact ⟨bI_t hC, by omega⟩
        · exact Or.inl ⟨bI_f hC, c4 hC⟩
  refine go_iconst (p := 1) hf_36 rfl rfl ci_1 ?_
  refine go_is1 (p := 2) hf_36 rfl rfl ?_
  refine go_iconst (p := 3) hf_36 rfl rfl ci_0 ?_
  refine go_is2 (p := 4) hf_36 rfl rfl ?_
  exact loop 901 0 M _ _ (by omega) (gr_rf h01) (fun _ _ => rfl) (Or.inr ⟨rfl, by omega⟩)
theorem c_reveal {M : sm_M} {t : Int32} (hq : tq M K A B N) (hW : WT K A B N) (h01 : ∀ i, i < N → M 5 i = 0 ∨ M 5 i = 1) : cr 35 2 48 [.ref 1, .int t] M (fun v M1 => v = none ∧ ((∃ k, k < N ∧ t = nI k ∧ ¬ M 5 k = 1 ∧ (∀ i, i < N → M1 5 i = bI (Dv K A B N (fun j => M 5 j = 1 ∨ j = k) i)) ∧ ∀ p, p ≠ 5 → M1 p = M p) ∨ ((∀ k, k < N → t = nI k → M 5 k = 1) ∧ M1 = M))) := by
  intro X J rc rs d lw hd hw
  show sm_wp tb_T X tb_ok d lw 35 0 [some (.ref 1), some (.int t)] [] _ _
  have hN := hq.2.1
  have e16 : M 1 6 = nI N := hq.1
  refine go_il1 (p := 1) hf_35 rfl rfl ?_
  refine go_al0 (p := 2) hf_35 rfl rfl ?_
  refine go_get (p := 5) hf_35 ho_35 rfl fl_1_37 rfl (by first | with_reducible assumption | rfl) rfl e16 ?_
  refine go_cw2 (p := 8) hf_35 rfl rfl (inv_s ho_35 cl_1_41) (by decide) nl_2 rfl rfl rfl rfl rfl rfl (by omega) (by omega) (c_isBelow) ?_
  intro v9 M9 h9
  rewrite [h9.1, h9.2]
  clear h9 v9 M9
  simp only [Option.toList, List.cons_append, List.nil_append]
  refine go_if_eq (p := 11) (p2 := 31) hf_35 rfl rfl rfl (fun h8 => ?_) (fun h8 => ?_)
  · refine go_ret0 hf_35 rfl nl_35 ?_
    exact ⟨_, _, rfl, rfl, rfl, Or.inr ⟨fun k hk e => absurd ((below_iff (by omega)).mpr ⟨k, hk, e⟩) (bI_0.mp h8), rfl⟩⟩
  · obtain ⟨k, hk, rfl⟩ := (below_iff (by omega)).mp (bI_n0.mp h8)
    refine go_al0 (p := 12) hf_35 rfl rfl ?_
    refine go_getr (p := 15) hf_35 ho_35 rfl fl_1_21 rfl (by first | with_reducible assumption | rfl) rfl ?_
    refine go_il1 (p := 16) hf_35 rfl rfl ?_
    refine go_bald (p := 17) hf_35 rfl rfl (by first | with_reducible assumption | rfl) (by first | rfl | with_reducible assumption) (by first | exact rfl | with_reducible assumption) (by omega) (by first | with_reducible assumption | ((repeat rewrite [up_k]) <;> first | with_reducible assumption | decide | omega) | exact rfl) ?_
    refine go_if_ne (p := 20) (p2 := 31) hf_35 rfl rfl rfl (fun h17 => ?_) (fun h17 => ?_)
    · refine go_ret0 hf_35 rfl nl_35 ?_
      refine ⟨_, _, rfl, rfl, rfl, Or.inr ⟨fun k' hk' e => ?_, rfl⟩⟩
      rw [← (nI_eq (by omega) (by omega)).mp e]
      exact n01 (h01 k hk) h17
    · refine go_al0 (p := 21) hf_35 rfl rfl ?_
      refine go_getr (p := 24) hf_35 ho_35 rfl fl_1_21 rfl (by first | with_reducible assumption | rfl) rfl ?_
      refine go_il1 (p := 25) hf_35 rfl rfl ?_
      refine go_iconst (p := 26) hf_35 rfl rfl ci_1 ?_
      refine go_bast (p := 27) hf_35 rfl rfl (by first | with_reducible assumption | rfl) (by first | rfl | with_reducible assumption) (by first | exact rfl | with_reducible assumption) (by omega) (by first | exact Or.inl rfl | exact Or.inr rfl | with_reducible assumption) ?_
      refine go_al0 (p := 28) hf_35 rfl rfl ?_
      refine go_cw1 (p := 31) hf_35 rfl rfl (inv_v ho_35 cl_1_60) (by decide) nl_36 rfl rfl (by first | rfl | exact rcv_of (by with_reducible assumption)) rfl rfl rfl (by omega) (by omega) (c_spread (tq_keep hq (fun p h1 h2 => by unfold sm_up; rw [if_neg (by omega)])) hW (fun i hi => by
    by_cases e : i = k
    · subst e; exact Or.inr up_s
    · rw [up_i e]; exact h01 i hi)) ?_
      rintro v9 M9 ⟨rfl, g1, g2⟩
      simp only [Option.toList, List.cons_append, List.nil_append]
      refine go_ret0 hf_35 rfl nl_35 ?_
      refine ⟨_, _, rfl, rfl, rfl, Or.inl ⟨k, hk, rfl, z01 h17, fun i hi => ?_, fun p hp => (g2 p hp).trans (by unfold sm_up; rw [if_neg hp])⟩⟩
      rw [g1 i hi]
      apply bI_congr
      apply Dv_congr
      intro j hj
      by_cases e : j = k
      · subst e
        exact ⟨fun _ => Or.inr rfl, fun _ => up_s⟩
      · rw [up_i e]
        exact ⟨Or.inl, fun q => q.elim id (fun q => absurd q e)⟩
end CL
