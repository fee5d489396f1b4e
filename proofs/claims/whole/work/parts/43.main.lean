/-! ===== what the main theorem asks of the tables ===== -/
theorem tb_cws : ∀ z, z < 141 → z ≠ 139 → sm_cw tb_T tb_bc tb_nm tb_eh z ∈ tb_WA := by
  intro z h1 h2
  match z, h1, h2 with
  | 0, _, _ => exact tb_c0
  | 1, _, _ => exact tb_c1
  | 2, _, _ => exact tb_c2
  | 3, _, _ => exact tb_c3
  | 4, _, _ => exact tb_c4
  | 5, _, _ => exact tb_c5
  | 6, _, _ => exact tb_c6
  | 7, _, _ => exact tb_c7
  | 8, _, _ => exact tb_c8
  | 9, _, _ => exact tb_c9
  | 10, _, _ => exact tb_c10
  | 11, _, _ => exact tb_c11
  | 12, _, _ => exact tb_c12
  | 13, _, _ => exact tb_c13
  | 14, _, _ => exact tb_c14
  | 15, _, _ => exact tb_c15
  | 16, _, _ => exact tb_c16
  | 17, _, _ => exact tb_c17
  | 18, _, _ => exact tb_c18
  | 19, _, _ => exact tb_c19
  | 20, _, _ => exact tb_c20
  | 21, _, _ => exact tb_c21
  | 22, _, _ => exact tb_c22
  | 23, _, _ => exact tb_c23
  | 24, _, _ => exact tb_c24
  | 25, _, _ => exact tb_c25
  | 26, _, _ => exact tb_c26
  | 27, _, _ => exact tb_c27
  | 28, _, _ => exact tb_c28
  | 29, _, _ => exact tb_c29
  | 30, _, _ => exact tb_c30
  | 31, _, _ => exact tb_c31
  | 32, _, _ => exact tb_c32
  | 33, _, _ => exact tb_c33
  | 34, _, _ => exact tb_c34
  | 35, _, _ => exact tb_c35
  | 36, _, _ => exact tb_c36
  | 37, _, _ => exact tb_c37
  | 38, _, _ => exact tb_c38
  | 39, _, _ => exact tb_c39
  | 40, _, _ => exact tb_c40
  | 41, _, _ => exact tb_c41
  | 42, _, _ => exact tb_c42
  | 43, _, _ => exact tb_c43
  | 44, _, _ => exact tb_c44
  | 45, _, _ => exact tb_c45
  | 46, _, _ => exact tb_c46
  | 47, _, _ => exact tb_c47
  | 48, _, _ => exact tb_c48
  | 49, _, _ => exact tb_c49
  | 50, _, _ => exact tb_c50
  | 51, _, _ => exact tb_c51
  | 52, _, _ => exact tb_c52
  | 53, _, _ => exact tb_c53
  | 54, _, _ => exact tb_c54
  | 55, _, _ => exact tb_c55
  | 56, _, _ => exact tb_c56
  | 57, _, _ => exact tb_c57
  | 58, _, _ => exact tb_c58
  | 59, _, _ => exact tb_c59
  | 60, _, _ => exact tb_c60
  | 61, _, _ => exact tb_c61
  | 62, _, _ => exact tb_c62
  | 63, _, _ => exact tb_c63
  | 64, _, _ => exact tb_c64
  | 65, _, _ => exact tb_c65
  | 66, _, _ => exact tb_c66
  | 67, _, _ => exact tb_c67
  | 68, _, _ => exact tb_c68
  | 69, _, _ => exact tb_c69
  | 70, _, _ => exact tb_c70
  | 71, _, _ => exact tb_c71
  | 72, _, _ => exact tb_c72
  | 73, _, _ => exact tb_c73
  | 74, _, _ => exact tb_c74
  | 75, _, _ => exact tb_c75
  | 76, _, _ => exact tb_c76
  | 77, _, _ => exact tb_c77
  | 78, _, _ => exact tb_c78
  | 79, _, _ => exact tb_c79
  | 80, _, _ => exact tb_c80
  | 81, _, _ => exact tb_c81
  | 82, _, _ => exact tb_c82
  | 83, _, _ => exact tb_c83
  | 84, _, _ => exact tb_c84
  | 85, _, _ => exact tb_c85
  | 86, _, _ => exact tb_c86
  | 87, _, _ => exact tb_c87
  | 88, _, _ => exact tb_c88
  | 89, _, _ => exact tb_c89
  | 90, _, _ => exact tb_c90
  | 91, _, _ => exact tb_c91
  | 92, _, _ => exact tb_c92
  | 93, _, _ => exact tb_c93
  | 94, _, _ => exact tb_c94
  | 95, _, _ => exact tb_c95
  | 96, _, _ => exact tb_c96
  | 97, _, _ => exact tb_c97
  | 98, _, _ => exact tb_c98
  | 99, _, _ => exact tb_c99
  | 100, _, _ => exact tb_c100
  | 101, _, _ => exact tb_c101
  | 102, _, _ => exact tb_c102
  | 103, _, _ => exact tb_c103
  | 104, _, _ => exact tb_c104
  | 105, _, _ => exact tb_c105
  | 106, _, _ => exact tb_c106
  | 107, _, _ => exact tb_c107
  | 108, _, _ => exact tb_c108
  | 109, _, _ => exact tb_c109
  | 110, _, _ => exact tb_c110
  | 111, _, _ => exact tb_c111
  | 112, _, _ => exact tb_c112
  | 113, _, _ => exact tb_c113
  | 114, _, _ => exact tb_c114
  | 115, _, _ => exact tb_c115
  | 116, _, _ => exact tb_c116
  | 117, _, _ => exact tb_c117
  | 118, _, _ => exact tb_c118
  | 119, _, _ => exact tb_c119
  | 120, _, _ => exact tb_c120
  | 121, _, _ => exact tb_c121
  | 122, _, _ => exact tb_c122
  | 123, _, _ => exact tb_c123
  | 124, _, _ => exact tb_c124
  | 125, _, _ => exact tb_c125
  | 126, _, _ => exact tb_c126
  | 127, _, _ => exact tb_c127
  | 128, _, _ => exact tb_c128
  | 129, _, _ => exact tb_c129
  | 130, _, _ => exact tb_c130
  | 131, _, _ => exact tb_c131
  | 132, _, _ => exact tb_c132
  | 133, _, _ => exact tb_c133
  | 134, _, _ => exact tb_c134
  | 135, _, _ => exact tb_c135
  | 136, _, _ => exact tb_c136
  | 137, _, _ => exact tb_c137
  | 138, _, _ => exact tb_c138
  | 139, _, h2 => exact absurd rfl h2
  | 140, _, _ => exact tb_c140
  | n + 141, h1, _ => omega
theorem tb_own (y : Nat) : (tb_nm y).cls = tb_cn (tb_on y) := (tb_all y).2.2
theorem tb_CB : ∀ y idx k z w, sm_cal tb_T y idx = some (k, z, w) → sm_Go tb_cl tb_WA tb_NW tb_nm (sm_cw tb_T tb_bc tb_nm tb_eh) tb_T y idx k z w := by
  intro y idx k z w h
  have hg := tb_G _ (tb_fd_mem h)
  unfold tb_chG at hg
  dsimp only at hg
  unfold sm_Go
  rw [tb_own y]
  split at hg
  · simp only [Bool.and_eq_true, decide_eq_true_eq] at hg
    exact ⟨fun _ => ⟨hg.1.1, hg.1.2, hg.2⟩, fun h => (by cases h), fun h => (by cases h), fun h => (by omega), fun h => (by cases h), fun h => (by cases h), fun h => (by cases h)⟩
  · simp only [Bool.and_eq_true, decide_eq_true_eq] at hg
    exact ⟨fun h => (by cases h), fun _ => ⟨hg.1.1.1, hg.1.1.2, hg.1.2, hg.2⟩, fun h => (by cases h), fun h => (by omega), fun h => (by cases h), fun h => (by cases h), fun h => (by cases h)⟩
  · simp only [Bool.and_eq_true, decide_eq_true_eq] at hg
    exact ⟨fun h => (by cases h), fun h => (by cases h), fun _ => ⟨hg.1.1.1, hg.1.1.2, hg.1.2, hg.2⟩, fun h => (by omega), fun h => (by cases h), fun h => (by cases h), fun h => (by cases h)⟩
  · next k h0 h1 h2 =>
    rw [Bool.and_eq_true, Bool.and_eq_true, Bool.and_eq_true, Bool.and_eq_true, Bool.and_eq_true, Bool.and_eq_true, Bool.and_eq_true, Bool.and_eq_true, Bool.or_eq_true] at hg
    obtain ⟨⟨⟨⟨⟨⟨⟨⟨hlk, hini⟩, hpl⟩, hds⟩, hw1⟩, h40⟩, hz1⟩, hz2⟩, hk⟩ := hg
    refine ⟨fun h => absurd h h0, fun h => absurd h h1, fun h => absurd h h2, fun _ => ⟨?_, of_decide_eq_true hini, tb_cws z (of_decide_eq_true hz1) (of_decide_eq_true hz2), hpl, of_decide_eq_true hds, fun h3 => ?_, of_decide_eq_true h40⟩, fun h => ?_, fun h => ?_, fun h => ?_⟩
    · rcases hlk with h | h
      · exact Or.inl (of_decide_eq_true h)
      · exact Or.inr ⟨_, of_decide_eq_true h⟩
    · rcases of_decide_eq_true hw1 with h | h
      · exact absurd h h3
      · exact h
    · subst h
      exact of_decide_eq_true hk
    · subst h
      have hk : (decide (Cond.instanceMethod (tb_nm z) ∈ tb_WA) && decide (Cond.selects (tb_nm z).cls (tb_nm z) (tb_nm z) ∈ tb_WA) && (match tb_cl[(sm_nL tb_T z).2.2]? with
        | some r => decide (r.1 = (tb_nm z).cls)
        | none => false)) = true := hk
      rw [Bool.and_eq_true, Bool.and_eq_true] at hk
      obtain ⟨⟨k1, k2⟩, k3⟩ := hk
      refine ⟨of_decide_eq_true k1, of_decide_eq_true k2, ?_⟩
      split at k3
      · next r hr => exact ⟨r, hr, of_decide_eq_true k3⟩
      · cases k3
    · subst h
      have hk : (decide (Cond.instanceMethod (tb_nm z) ∈ tb_WA) && decide ((tb_nm z).name = "<init>") && decide ((sm_nL tb_T z).2.1 = 0)) = true := hk
      rw [Bool.and_eq_true, Bool.and_eq_true] at hk
      exact ⟨of_decide_eq_true hk.1.1, of_decide_eq_true hk.1.2, of_decide_eq_true hk.2⟩
def tb_chW (q : Nat × Nat × Nat × Nat × Nat) : Bool := match tb_eh q.2.2.2.1 with
  | [] => true
  | _ :: _ => decide (q.2.2.1 = 3) && decide (Cond.methodLink (tb_cn q.1) q.2.1 (tb_nm q.2.2.2.1) ∈ tb_WA)
theorem tb_W0 : ∀ q ∈ tb_CL, tb_chW q = true := by decide +kernel
theorem tb_CW : ∀ y idx k z w, sm_cal tb_T y idx = some (k, z, w) → tb_eh z ≠ [] → k = 3 ∧ Cond.methodLink (tb_nm y).cls idx (tb_nm z) ∈ tb_WA := by
  intro y idx k z w h hz
  have hg := tb_W0 _ (tb_fd_mem h)
  unfold tb_chW at hg
  dsimp only at hg
  rw [tb_own y]
  split at hg
  · next h9 => exact absurd h9 hz
  · rw [Bool.and_eq_true] at hg
    exact ⟨of_decide_eq_true hg.1, of_decide_eq_true hg.2⟩
def tb_XC : Nat → String
  | 0 => "java/lang/IllegalArgumentException"
  | _ => "java/lang/IllegalStateException"
theorem tb_XN : ∀ z pc x, sm_cat tb_T z pc x = some none → tb_eh z = [] := by
  intro z pc x h
  have h : tb_cat z pc x = some none := h
  unfold tb_cat at h
  split at h
  · next h9 => exact h9
  · split at h
    · cases hf : tb_fd tb_XL z (2 * pc + x) with
      | none => rw [hf] at h; cases h
      | some r => rw [hf] at h; cases h
    · cases h
def tb_chX (e : Nat × Nat × Nat × Nat) : Bool := match ((tb_eh e.1).zip [0, 1]).find? (fun z => z.2 == e.2.1 % 2) with
  | none => false
  | some r => decide (((tb_eh e.1).zip [0, 1]).map (fun z => z.1) = tb_eh e.1) && ((tb_eh e.1).zip [0, 1]).all (fun z => covers (sm_en z.1) (e.2.1 / 2) && decide (z.1.2.2.2 ≠ 0) && decide (Cond.classLink (tb_cn (tb_on e.1)) z.1.2.2.2 (tb_XC z.2) ∈ tb_WA) && decide (z.2 < 2)) && decide (e.2.2.2 < (sm_nL tb_T e.1).1) &&
    (match decode (tb_bc e.1) r.1.2.2.1 with
    | .ok (.astore q, 2) => decide (q = e.2.2.2 ∧ e.2.2.1 = r.1.2.2.1 + 2)
    | .ok (.astore_n k, 1) => decide (k.val = e.2.2.2 ∧ e.2.2.1 = r.1.2.2.1 + 1)
    | _ => false)
theorem tb_X0 : ∀ e ∈ tb_XL, tb_chX e = true := by decide +kernel
theorem tb_XB : ∀ y pc x pc' q, sm_cat tb_T y pc x = some (some (pc', q)) → sm_Xo tb_WA tb_XC (tb_nm y).cls (tb_bc y) (sm_nL tb_T y).1 (tb_eh y) pc x pc' q := by
  intro y pc x pc' q h
  have h : tb_cat y pc x = some (some (pc', q)) := h
  unfold tb_cat at h
  split at h
  · cases h
  · split at h
    · next hx2 =>
      cases hf : tb_fd tb_XL y (2 * pc + x) with
      | none => rw [hf] at h; cases h
      | some r =>
        rw [hf] at h
        cases h
        have hg := tb_X0 _ (tb_fd_mem hf)
        unfold tb_chX at hg
        dsimp only at hg
        have m1 : (2 * pc + x) % 2 = x := by omega
        have m2 : (2 * pc + x) / 2 = pc := by omega
        rw [m1, m2] at hg
        rw [tb_own y]
        split at hg
        · cases hg
        · next r hr =>
          rw [Bool.and_eq_true, Bool.and_eq_true, Bool.and_eq_true] at hg
          obtain ⟨⟨⟨g1, g2⟩, g3⟩, g4⟩ := hg
          refine ⟨(tb_eh y).zip [0, 1], r.1.2.2.1, of_decide_eq_true g1, fun z hz => ?_, hx2, by rw [hr]; rfl, of_decide_eq_true g3, ?_⟩
          · have h9 := List.all_eq_true.mp g2 z hz
            rw [Bool.and_eq_true, Bool.and_eq_true, Bool.and_eq_true] at h9
            exact ⟨h9.1.1.1, of_decide_eq_true h9.1.1.2, of_decide_eq_true h9.1.2, of_decide_eq_true h9.2⟩
          · split at g4
            · next q9 hd =>
              obtain ⟨e1, e2⟩ := of_decide_eq_true g4
              subst e1
              exact Or.inl ⟨hd, e2⟩
            · next k hd =>
              obtain ⟨e1, e2⟩ := of_decide_eq_true g4
              exact Or.inr ⟨k, e1, hd, e2⟩
            · cases g4
    · cases h
theorem tb_TE : ∀ z vs h r, sm_thr tb_T z vs h = some r → tb_eh z = [] := by
  intro z vs h r hr
  have hr : tb_thr z vs h = some r := hr
  unfold tb_thr at hr
  split at hr
  · rfl
  · rfl
  · cases hr
theorem tb_good : ∀ w ∈ tb_WA, goodWord w = true := fun w hw => (List.mem_filter.mp hw).2
