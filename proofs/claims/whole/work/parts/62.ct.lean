/-! ===== alike over both rows of terms ===== -/
section CG
variable {K A B K' A' B' : Nat → Int32} {N : Nat}
theorem rd_eq {g g' : Nat → Int32} (h : ∀ i, i < N → g i = g' i) (hN : N < 2 ^ 31) : rdAt g N = rdAt g' N := by
  funext t
  by_cases ht : ¬ t < 0 ∧ t < nI N
  · obtain ⟨k, hk, rfl⟩ := (below_iff hN).mp ht
    rw [rdAt_t hk hN, rdAt_t hk hN, h k hk]
  · unfold rdAt
    rw [if_neg ht, if_neg ht]
theorem val_eq (hK : rdAt K N = rdAt K' N) (hA : rdAt A N = rdAt A' N) : valF K A N = valF K' A' N := by
  funext t k
  unfold valF
  rw [hK, hA]
theorem tail_eq (hK : rdAt K N = rdAt K' N) (hB : rdAt B N = rdAt B' N) : ∀ n, tailF K B N n = tailF K' B' N n := by
  intro n
  induction n with
  | zero => rfl
  | succ n ih =>
    funext t
    rw [tailF_s, tailF_s, ih, hK, hB]
theorem part_eq (hK : rdAt K N = rdAt K' N) (hA : rdAt A N = rdAt A' N) (hB : rdAt B N = rdAt B' N) : partF K A B N = partF K' A' B' N := by
  funext t n
  unfold partF
  rw [val_eq hK hA, tail_eq hK hB]
theorem num_eq (hK : rdAt K N = rdAt K' N) (hA : rdAt A N = rdAt A' N) : num K A N = num K' A' N := by
  funext t
  unfold num
  rw [val_eq hK hA]
theorem atm_eq (hK : rdAt K N = rdAt K' N) (hA : rdAt A N = rdAt A' N) : atm K A N = atm K' A' N := by
  funext t
  unfold atm
  rw [val_eq hK hA]
theorem hb_eq (hK : rdAt K N = rdAt K' N) (hA : rdAt A N = rdAt A' N) (hB : rdAt B N = rdAt B' N) : hbF K A B N = hbF K' A' B' N := by
  funext t
  unfold hbF hbC
  rw [atm_eq hK hA, hK, hA, hB]
theorem ent_eq (hK : rdAt K N = rdAt K' N) (hA : rdAt A N = rdAt A' N) (hB : rdAt B N = rdAt B' N) : entR K A B N = entR K' A' B' N := by
  funext t w
  unfold entR
  rw [atm_eq hK hA, num_eq hK hA, part_eq hK hA hB, tail_eq hK hB, hK, hA, hB]
theorem rdL_eq {g : Nat → Int32} (hK : rdAt K N = rdAt K' N) (hA : rdAt A N = rdAt A' N) (hB : rdAt B N = rdAt B' N) : ∀ n, rdL K A B N g n = rdL K' A' B' N g n := by
  intro n
  induction n with
  | zero =>
    funext t a l
    unfold rdL
    rw [num_eq hK hA]
  | succ n ih =>
    funext t a l
    unfold rdL
    rw [num_eq hK hA, ent_eq hK hA hB, part_eq hK hA hB, tail_eq hK hB, ih]
theorem SL_eq (hN : N < 2 ^ 31) (h1 : ∀ i, i < N → K i = K' i) (h2 : ∀ i, i < N → A i = A' i) (h3 : ∀ i, i < N → B i = B' i) : SL K A B N = SL K' A' B' N := by
  have hK := rd_eq h1 hN
  have hA := rd_eq h2 hN
  have hB := rd_eq h3 hN
  funext t g ow pw vv l
  unfold SL
  rw [num_eq hK hA, atm_eq hK hA, part_eq hK hA hB, tail_eq hK hB, tail_eq hK hB, hb_eq hK hA hB, rdL_eq hK hA hB, hK, hA, hB]
theorem Cl_eq {S : Nat → Prop} (h1 : ∀ i, i < N → K i = K' i) (h2 : ∀ i, i < N → A i = A' i) (h3 : ∀ i, i < N → B i = B' i) (h : Cl K A B N S) : Cl K' A' B' N S := fun i a b hi ha hb hA hB k0 k1 => by
  rw [← h1 i hi] at k0 k1 ⊢
  exact h i a b hi ha hb (by rw [h2 i hi]; exact hA) (by rw [h3 i hi]; exact hB) k0 k1
theorem Dv_eq {G G' : Nat → Prop} {i : Nat} (h1 : ∀ i, i < N → K i = K' i) (h2 : ∀ i, i < N → A i = A' i) (h3 : ∀ i, i < N → B i = B' i) (hG : ∀ j, j < N → (G j ↔ G' j)) : Dv K A B N G i ↔ Dv K' A' B' N G' i := by
  constructor
  · intro h S hS hg
    exact h S (Cl_eq (fun i hi => (h1 i hi).symm) (fun i hi => (h2 i hi).symm) (fun i hi => (h3 i hi).symm) hS) (fun j hj g => hg j hj ((hG j hj).mp g))
  · intro h S hS hg
    exact h S (Cl_eq h1 h2 h3 hS) (fun j hj g => hg j hj ((hG j hj).mpr g))
/-- more terms: no less is known -/
theorem Dv_up {G G' : Nat → Prop} {i N' : Nat} (hN : N ≤ N') (h1 : ∀ i, i < N → K i = K' i) (h2 : ∀ i, i < N → A i = A' i) (h3 : ∀ i, i < N → B i = B' i) (hG : ∀ j, j < N → G j → G' j) (h : Dv K A B N G i) : Dv K' A' B' N' G' i := fun S hS hg => h S (fun i a b hi ha hb hA hB k0 k1 => by
  rw [h1 i hi] at k0 k1 ⊢
  exact hS i a b (by omega) ha hb (by rw [← h2 i hi]; exact hA) (by rw [← h3 i hi]; exact hB) k0 k1) (fun j hj g => hg j (by omega) (hG j hj g))
end CG
/-! ===== entries in order ===== -/
def srt (l : List Nat) : Prop := l.Pairwise (fun x y => x / 64 < y / 64)
theorem insK_eq {w : Nat} : ∀ (l : List Nat), (∀ x ∈ l, ¬ x / 64 = w / 64) → insK id w l = insK (fun w => w / 64) w l := by
  intro l
  induction l with
  | nil => intro _; rfl
  | cons x l ih =>
    intro h
    have hx := h x List.mem_cons_self
    have hl : ∀ y ∈ l, ¬ y / 64 = w / 64 := fun y hy => h y (List.mem_cons_of_mem _ hy)
    have hc : (id w < id x ∧ ∀ y ∈ l, id w < id y) ↔ ((fun w => w / 64) w < (fun w => w / 64) x ∧ ∀ y ∈ l, (fun w => w / 64) w < (fun w => w / 64) y) := by
      show (w < x ∧ ∀ y ∈ l, w < y) ↔ (w / 64 < x / 64 ∧ ∀ y ∈ l, w / 64 < y / 64)
      constructor
      · rintro ⟨h1, h2⟩
        exact ⟨by omega, fun y hy => by have := h2 y hy; have := hl y hy; omega⟩
      · rintro ⟨h1, h2⟩
        exact ⟨by omega, fun y hy => by have := h2 y hy; omega⟩
    unfold insK
    by_cases hh : id w < id x ∧ ∀ y ∈ l, id w < id y
    · rw [if_pos hh, if_pos (hc.mp hh)]
    · rw [if_neg hh, if_neg (fun q => hh (hc.mpr q)), ih hl]
theorem insK_srt {w : Nat} : ∀ (l : List Nat), srt l → (∀ x ∈ l, ¬ x / 64 = w / 64) → srt (insK (fun w => w / 64) w l) := by
  intro l
  induction l with
  | nil => intro _ _; exact List.pairwise_singleton _ _
  | cons x l ih =>
    intro hs h
    have hx := h x List.mem_cons_self
    have hl : ∀ y ∈ l, ¬ y / 64 = w / 64 := fun y hy => h y (List.mem_cons_of_mem _ hy)
    obtain ⟨h1, h2⟩ := List.pairwise_cons.mp hs
    unfold insK
    by_cases hh : (fun w => w / 64) w < (fun w => w / 64) x ∧ ∀ y ∈ l, (fun w => w / 64) w < (fun w => w / 64) y
    · rw [if_pos hh]
      refine List.pairwise_cons.mpr ⟨fun y hy => ?_, hs⟩
      rcases List.mem_cons.mp hy with rfl | hy
      · exact hh.1
      · exact hh.2 y hy
    · rw [if_neg hh]
      refine List.pairwise_cons.mpr ⟨fun y hy => ?_, ih h2 hl⟩
      rcases (insK_mem l).mp hy with rfl | hy
      · apply Classical.byContradiction
        intro hn
        apply hh
        have hx2 : y / 64 < x / 64 := by omega
        exact ⟨hx2, fun z hz => by have := h1 z hz; show y / 64 < z / 64; omega⟩
      · exact h1 y hy
theorem mg_alike {c c' : Nat → Prop} : ∀ (l a : List Nat), srt l → srt a → (∀ w ∈ l, c' w → ∀ x ∈ a, ¬ x / 64 = w / 64) → (∀ w ∈ l, (c w ↔ c' w)) → mg id c l a = mg (fun w => w / 64) c' l a ∧ srt (mg (fun w => w / 64) c' l a) ∧ ∀ y, y ∈ mg (fun w => w / 64) c' l a ↔ y ∈ a ∨ (y ∈ l ∧ c' y) := by
  intro l
  induction l with
  | nil => intro a _ ha _ _; exact ⟨rfl, ha, fun y => by show y ∈ a ↔ _; simp⟩
  | cons w l ih =>
    intro a hs ha hd hc
    obtain ⟨h1, h2⟩ := List.pairwise_cons.mp hs
    have hc2 : ∀ w ∈ l, (c w ↔ c' w) := fun w hw => hc w (List.mem_cons_of_mem _ hw)
    by_cases hw : c' w
    · have hw2 : c w := (hc w List.mem_cons_self).mpr hw
      have hk := hd w List.mem_cons_self hw
      rw [mg_t hw, mg_t hw2, insK_eq a hk]
      obtain ⟨g1, g2, g3⟩ := ih (insK (fun w => w / 64) w a) h2 (insK_srt a ha hk) (fun w' hw' hcw x hx => by
        rcases (insK_mem a).mp hx with rfl | hx
        · have := h1 w' hw'; omega
        · exact hd w' (List.mem_cons_of_mem _ hw') hcw x hx) hc2
      refine ⟨g1, g2, fun y => ?_⟩
      rw [g3, insK_mem, List.mem_cons]
      constructor
      · rintro ((rfl | h) | h)
        · exact Or.inr ⟨Or.inl rfl, hw⟩
        · exact Or.inl h
        · exact Or.inr ⟨Or.inr h.1, h.2⟩
      · rintro (h | ⟨rfl | h, h'⟩)
        · exact Or.inl (Or.inr h)
        · exact Or.inl (Or.inl rfl)
        · exact Or.inr ⟨h, h'⟩
    · have hw2 : ¬ c w := fun q => hw ((hc w List.mem_cons_self).mp q)
      rw [mg_f hw, mg_f hw2]
      obtain ⟨g1, g2, g3⟩ := ih a h2 ha (fun w' hw' => hd w' (List.mem_cons_of_mem _ hw')) hc2
      refine ⟨g1, g2, fun y => ?_⟩
      rw [g3, List.mem_cons]
      constructor
      · rintro (h | ⟨h, h'⟩)
        · exact Or.inl h
        · exact Or.inr ⟨Or.inr h, h'⟩
      · rintro (h | ⟨rfl | h, h'⟩)
        · exact Or.inl h
        · exact absurd h' hw
        · exact Or.inr ⟨h, h'⟩
theorem srt_fo {it : Nat} {l : List Nat} (h : srt l) : srt (fo it l) := h.sublist List.filter_sublist
theorem mem_fo {it x : Nat} {l : List Nat} (h : x ∈ fo it l) : x ∈ l := (List.mem_filter.mp h).1
theorem rdL_srt {K A B : Nat → Int32} {N : Nat} {g : Nat → Int32} : ∀ (n : Nat) (t : Int32) (a l : List Nat), rdL K A B N g n t a l → (srt a ∧ ∀ w ∈ a, w < 32768 ∧ kn g w) → srt l ∧ ∀ w ∈ l, w < 32768 ∧ kn g w := by
  intro n
  induction n with
  | zero => intro t a l h ha; rw [h.2]; exact ha
  | succ n ih =>
    intro t a l h ha
    rcases h with ⟨-, h⟩ | ⟨-, w, he, hm, h⟩
    · rw [h]; exact ha
    · refine ih _ _ _ h ⟨?_, fun x hx => ?_⟩
      · refine List.pairwise_append.mpr ⟨ha.1, List.pairwise_singleton _ _, fun x hx y hy => ?_⟩
        rw [List.mem_singleton.mp hy]
        exact (dot_iff.mpr (hm.2.2.2 x hx)).1
      · rcases List.mem_append.mp hx with hx | hx
        · exact ha.2 x hx
        · rw [List.mem_singleton.mp hx]
          exact ⟨(entR_lt he).1, hm.2.1⟩
/-! ===== calls that may throw ===== -/
def crt (z D B : Nat) (As : List Value) (M : sm_M) (R : Option Value → sm_M → Prop) (T : Nat → Prop) : Prop := ∀ (X : Nat × (Nat → Int32)) (J : sm_J) (rc rs d lw : Nat), D ≤ d → B ≤ lw → 1 ≤ rc → 6 ≤ rs → sm_wp tb_T X tb_ok d lw z 0 (sm_ent (sm_nL tb_T z).1 As) [] (wSH, M, J, rc, rs) (fun o h' => (∃ v M1, o = .inl v ∧ h' = (wSH, M1, J, rc, rs) ∧ R v M1) ∨ (∃ x, o = .inr x ∧ h' = (wSH, M, J, rc - 1, rs - 6) ∧ T x))
theorem crt_mono {z D B : Nat} {As : List Value} {M : sm_M} {R R' : Option Value → sm_M → Prop} {T T' : Nat → Prop} (h : crt z D B As M R T) (hr : ∀ v M1, R v M1 → R' v M1) (ht : ∀ x, T x → T' x) : crt z D B As M R' T' := by
  intro X J rc rs d lw hd hw h1 h6
  refine wp_mono (h X J rc rs d lw hd hw h1 h6) (fun o h' q => ?_)
  rcases q with ⟨v, M1, e1, e2, e3⟩ | ⟨x, e1, e2, e3⟩
  · exact Or.inl ⟨v, M1, e1, e2, hr v M1 e3⟩
  · exact Or.inr ⟨x, e1, e2, ht x e3⟩
section GT
variable {X : Nat × (Nat → Int32)} {d lw y pc p : Nat} {f : Nat → Option Instr} {L : sm_L} {M : sm_M} {J : sm_J} {rc rs : Nat} {Q : sm_O → sm_H → Prop}
theorem go_thr1 {i : Instr} {k z n rk ci x : Nat} {a1 : Value} {S' : List Value} (hf : sm_ins tb_T y = f) (hins : f pc = some i) (hv : sm_inv tb_T y i = some (k, z, 1)) (hk : k = 3 ∨ k = 4) (hn : sm_nL tb_T z = (n, rk, ci)) (hr : sm_isret i = false) (hs : Nat.ble (sm_sum S') 8 = true) (hrc : sm_rcv k ci [a1] (wSH, M, J, rc, rs) = true) (hc1 : [a1].all sm_c1 = true) (hwn : Nat.ble 1 n = true) (ht : tb_thr z [a1] (wSH, M, J, rc, rs) = some (x, 1, 6)) (hkc : 1 ≤ rc) (hks : 6 ≤ rs) (hD : 7 ≤ d) (hB : 119 + n ≤ lw) (hcat : tb_cat y pc x = some none) (hq : Q (.inr x) (wSH, M, J, rc - 1, rs - 6)) : sm_wp tb_T X tb_ok d lw y pc L (a1 :: S') (wSH, M, J, rc, rs) Q := by
  obtain ⟨d, rfl⟩ : ∃ d', d = d' + 1 := ⟨d - 1, by omega⟩
  have hn1 : (sm_nL tb_T z).1 = n := by rw [hn]
  have hn3 : (sm_nL tb_T z).2.2 = ci := by rw [hn]
  exact wp_callT (w := 1) (x := x) (kc := 1) (ks := 6) (by omega) (by rw [hf]; exact hins) hr hv (by omega) ⟨by simp, Nat.le_of_ble_eq_true hs, by rw [hn3]; exact hrc, hc1, by rw [hn1]; exact Nat.le_of_ble_eq_true hwn, by rw [hn1]; omega⟩ ht ⟨hkc, hks, by omega, by rw [hn1]; omega⟩ (Or.inl ⟨hcat, hq⟩)
theorem go_ct2 {i : Instr} {k z n rk ci D B : Nat} {a1 a2 : Value} {S' : List Value} {R : Option Value → sm_M → Prop} {T : Nat → Prop} (hf : sm_ins tb_T y = f) (hins : f pc = some i) (hp : pc + 3 = p) (hv : sm_inv tb_T y i = some (k, z, 2)) (hk : k = 3 ∨ k = 4) (hn : sm_nL tb_T z = (n, rk, ci)) (hr : sm_isret i = false) (hs : Nat.ble (sm_sum S') 8 = true) (hrc : sm_rcv k ci [a1, a2] (wSH, M, J, rc, rs) = true) (hc1 : [a1, a2].all sm_c1 = true) (hwn : Nat.ble 2 n = true) (ht : tb_thr z [a1, a2] (wSH, M, J, rc, rs) = none) (hD : D < d) (hB : B + (19 + n) ≤ lw) (h1 : 1 ≤ rc) (h6 : 6 ≤ rs) (hc : crt z D B [a1, a2] M R T) (kv : ∀ v M1, R v M1 → sm_wp tb_T X tb_ok d lw y p L (v.toList ++ S') (wSH, M1, J, rc, rs) Q) (kt : ∀ x, T x → ∃ pc' q, tb_cat y pc x = some (some (pc', q)) ∧ sm_wp tb_T X tb_ok d lw y pc' (L.set q none) [] (wSH, M, J, rc - 1, rs - 6) Q) : sm_wp tb_T X tb_ok d lw y pc L (a2 :: a1 :: S') (wSH, M, J, rc, rs) Q := by
  subst hp
  obtain ⟨d, rfl⟩ : ∃ d', d = d' + 1 := ⟨d - 1, by omega⟩
  have hn1 : (sm_nL tb_T z).1 = n := by rw [hn]
  have hn3 : (sm_nL tb_T z).2.2 = ci := by rw [hn]
  refine wp_call (w := 2) (by rw [hf]; exact hins) hr hv (by omega) ⟨by simp, Nat.le_of_ble_eq_true hs, by rw [hn3]; exact hrc, by rw [← hc1]; simp [List.all, Bool.and_comm, Bool.and_left_comm, Bool.and_assoc], by rw [hn1]; exact Nat.le_of_ble_eq_true hwn, by rw [hn1]; omega⟩ ht (hc X J rc rs d _ (by omega) (by rw [hn1]; omega) h1 h6) (fun v' h' hq => ?_) (fun x h' hq => ?_)
  · rcases hq with ⟨v, M1, e1, rfl, hR⟩ | ⟨v, e1, -⟩
    · cases e1
      exact ⟨by unfold sm_ok2; simp, kv _ _ hR⟩
    · cases e1
  · rcases hq with ⟨v, M1, e1, -⟩ | ⟨x', e1, rfl, hT⟩
    · cases e1
    · cases e1
      obtain ⟨pc', q, g1, g2⟩ := kt _ hT
      exact ⟨by omega, Or.inr ⟨pc', q, g1, by unfold sm_ok2; simp, g2⟩⟩
theorem go_ct3 {i : Instr} {k z n rk ci D B : Nat} {a1 a2 a3 : Value} {S' : List Value} {R : Option Value → sm_M → Prop} {T : Nat → Prop} (hf : sm_ins tb_T y = f) (hins : f pc = some i) (hp : pc + 3 = p) (hv : sm_inv tb_T y i = some (k, z, 3)) (hk : k = 3 ∨ k = 4) (hn : sm_nL tb_T z = (n, rk, ci)) (hr : sm_isret i = false) (hs : Nat.ble (sm_sum S') 8 = true) (hrc : sm_rcv k ci [a1, a2, a3] (wSH, M, J, rc, rs) = true) (hc1 : [a1, a2, a3].all sm_c1 = true) (hwn : Nat.ble 3 n = true) (ht : tb_thr z [a1, a2, a3] (wSH, M, J, rc, rs) = none) (hD : D < d) (hB : B + (19 + n) ≤ lw) (h1 : 1 ≤ rc) (h6 : 6 ≤ rs) (hc : crt z D B [a1, a2, a3] M R T) (kv : ∀ v M1, R v M1 → sm_wp tb_T X tb_ok d lw y p L (v.toList ++ S') (wSH, M1, J, rc, rs) Q) (kt : ∀ x, T x → ∃ pc' q, tb_cat y pc x = some (some (pc', q)) ∧ sm_wp tb_T X tb_ok d lw y pc' (L.set q none) [] (wSH, M, J, rc - 1, rs - 6) Q) : sm_wp tb_T X tb_ok d lw y pc L (a3 :: a2 :: a1 :: S') (wSH, M, J, rc, rs) Q := by
  subst hp
  obtain ⟨d, rfl⟩ : ∃ d', d = d' + 1 := ⟨d - 1, by omega⟩
  have hn1 : (sm_nL tb_T z).1 = n := by rw [hn]
  have hn3 : (sm_nL tb_T z).2.2 = ci := by rw [hn]
  refine wp_call (w := 3) (by rw [hf]; exact hins) hr hv (by omega) ⟨by simp, Nat.le_of_ble_eq_true hs, by rw [hn3]; exact hrc, by rw [← hc1]; simp [List.all, Bool.and_comm, Bool.and_left_comm, Bool.and_assoc], by rw [hn1]; exact Nat.le_of_ble_eq_true hwn, by rw [hn1]; omega⟩ ht (hc X J rc rs d _ (by omega) (by rw [hn1]; omega) h1 h6) (fun v' h' hq => ?_) (fun x h' hq => ?_)
  · rcases hq with ⟨v, M1, e1, rfl, hR⟩ | ⟨v, e1, -⟩
    · cases e1
      exact ⟨by unfold sm_ok2; simp, kv _ _ hR⟩
    · cases e1
  · rcases hq with ⟨v, M1, e1, -⟩ | ⟨x', e1, rfl, hT⟩
    · cases e1
    · cases e1
      obtain ⟨pc', q, g1, g2⟩ := kt _ hT
      exact ⟨by omega, Or.inr ⟨pc', q, g1, by unfold sm_ok2; simp, g2⟩⟩
theorem go_ct4 {i : Instr} {k z n rk ci D B : Nat} {a1 a2 a3 a4 : Value} {S' : List Value} {R : Option Value → sm_M → Prop} {T : Nat → Prop} (hf : sm_ins tb_T y = f) (hins : f pc = some i) (hp : pc + 3 = p) (hv : sm_inv tb_T y i = some (k, z, 4)) (hk : k = 3 ∨ k = 4) (hn : sm_nL tb_T z = (n, rk, ci)) (hr : sm_isret i = false) (hs : Nat.ble (sm_sum S') 8 = true) (hrc : sm_rcv k ci [a1, a2, a3, a4] (wSH, M, J, rc, rs) = true) (hc1 : [a1, a2, a3, a4].all sm_c1 = true) (hwn : Nat.ble 4 n = true) (ht : tb_thr z [a1, a2, a3, a4] (wSH, M, J, rc, rs) = none) (hD : D < d) (hB : B + (19 + n) ≤ lw) (h1 : 1 ≤ rc) (h6 : 6 ≤ rs) (hc : crt z D B [a1, a2, a3, a4] M R T) (kv : ∀ v M1, R v M1 → sm_wp tb_T X tb_ok d lw y p L (v.toList ++ S') (wSH, M1, J, rc, rs) Q) (kt : ∀ x, T x → ∃ pc' q, tb_cat y pc x = some (some (pc', q)) ∧ sm_wp tb_T X tb_ok d lw y pc' (L.set q none) [] (wSH, M, J, rc - 1, rs - 6) Q) : sm_wp tb_T X tb_ok d lw y pc L (a4 :: a3 :: a2 :: a1 :: S') (wSH, M, J, rc, rs) Q := by
  subst hp
  obtain ⟨d, rfl⟩ : ∃ d', d = d' + 1 := ⟨d - 1, by omega⟩
  have hn1 : (sm_nL tb_T z).1 = n := by rw [hn]
  have hn3 : (sm_nL tb_T z).2.2 = ci := by rw [hn]
  refine wp_call (w := 4) (by rw [hf]; exact hins) hr hv (by omega) ⟨by simp, Nat.le_of_ble_eq_true hs, by rw [hn3]; exact hrc, by rw [← hc1]; simp [List.all, Bool.and_comm, Bool.and_left_comm, Bool.and_assoc], by rw [hn1]; exact Nat.le_of_ble_eq_true hwn, by rw [hn1]; omega⟩ ht (hc X J rc rs d _ (by omega) (by rw [hn1]; omega) h1 h6) (fun v' h' hq => ?_) (fun x h' hq => ?_)
  · rcases hq with ⟨v, M1, e1, rfl, hR⟩ | ⟨v, e1, -⟩
    · cases e1
      exact ⟨by unfold sm_ok2; simp, kv _ _ hR⟩
    · cases e1
  · rcases hq with ⟨v, M1, e1, -⟩ | ⟨x', e1, rfl, hT⟩
    · cases e1
    · cases e1
      obtain ⟨pc', q, g1, g2⟩ := kt _ hT
      exact ⟨by omega, Or.inr ⟨pc', q, g1, by unfold sm_ok2; simp, g2⟩⟩
end GT
theorem thr19 {x : Int32} {h : sm_H} (hx : x = 0) : tb_thr 19 [.int x] h = some (0, 1, 6) := if_pos hx
theorem thr19n {x : Int32} {h : sm_H} (hx : ¬ x = 0) : tb_thr 19 [.int x] h = none := if_neg hx
theorem c_require {M : sm_M} {x : Int32} (hx : ¬ x = 0) : cr 19 0 0 [.int x] M (fun v M1 => v = none ∧ M1 = M) := by
  intro X J rc rs d lw hd hw
  show sm_wp tb_T X tb_ok d lw 19 0 [some (.int x)] [] _ _
  refine go_il0 (p := 1) hf_19 rfl rfl ?_
  refine go_if_ne (p := 4) (p2 := 14) hf_19 rfl rfl rfl (fun h1 => ?_) (fun h1 => absurd h1 hx)
  refine go_ret0 hf_19 rfl nl_19 ?_
  exact ⟨_, _, rfl, rfl, rfl, rfl⟩
/-- a device's place -/
def dvq (k q : Nat) : Prop := k < 3 ∧ q = 18 + 6 * k ∧ ([some 18, some 24, some 30] : List (Option Nat))[k]? = some (some q) ∧ wSH[q]? = some (.inl (4, [some (some (q + 1)), some (some (q + 5)), none, none])) ∧ stq (q + 1) ∧ wSH[q + 5]? = some (.inr (.inl (0, 3)))
theorem dvq_k {k : Nat} (hk : k < 3) : dvq k (18 + 6 * k) := by
  rcases k with _ | _ | _ | k
  · exact ⟨hk, rfl, rfl, rfl, stq_19, rfl⟩
  · exact ⟨hk, rfl, rfl, rfl, stq_25, rfl⟩
  · exact ⟨hk, rfl, rfl, rfl, stq_31, rfl⟩
  · omega
theorem thr22_n {M : sm_M} {J : sm_J} {rc rs k q : Nat} (h : dvq k q) (h0 : M q 3 = 0) : tb_thr 22 [.ref q] (wSH, M, J, rc, rs) = none := by
  show (match wSH[q]? with
    | some (.inl (4, fs)) => if fs[3]? = some none ∧ ¬ M q 3 = 0 then some (1, 1, 6) else none
    | _ => none) = none
  rw [h.2.2.2.1]
  exact if_neg (fun g => g.2 h0)
theorem thr22_s {M : sm_M} {J : sm_J} {rc rs k q : Nat} (h : dvq k q) (h0 : ¬ M q 3 = 0) : tb_thr 22 [.ref q] (wSH, M, J, rc, rs) = some (1, 1, 6) := by
  show (match wSH[q]? with
    | some (.inl (4, fs)) => if fs[3]? = some none ∧ ¬ M q 3 = 0 then some (1, 1, 6) else none
    | _ => none) = some (1, 1, 6)
  rw [h.2.2.2.1]
  exact if_pos ⟨rfl, h0⟩
theorem c_requireOpen {M : sm_M} {k q : Nat} (h : dvq k q) (h0 : M q 3 = 0) : cr 22 0 0 [.ref q] M (fun v M1 => v = none ∧ M1 = M) := by
  intro X J rc rs d lw hd hw
  show sm_wp tb_T X tb_ok d lw 22 0 [some (.ref q)] [] _ _
  have hsh := h.2.2.2.1
  refine go_al0 (p := 1) hf_22 rfl rfl ?_
  refine go_get (p := 4) hf_22 ho_22 rfl fl_0_56 rfl (by first | with_reducible assumption | rfl) rfl h0 ?_
  refine go_if_eq (p := 7) (p2 := 17) hf_22 rfl rfl rfl (fun h4 => ?_) (fun h4 => absurd rfl h4)
  refine go_ret0 hf_22 rfl nl_22 ?_
  exact ⟨_, _, rfl, rfl, rfl, rfl⟩
