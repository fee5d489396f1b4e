/-! ===== side by side: the calls at one device ===== -/
def devR (k p j : Nat) : Prop := (46 ≤ p ∧ p ≤ 48 ∧ (j = k ∨ 3 ≤ j)) ∨ (p = 49 ∧ (3 * k ≤ j ∧ j < 3 * k + 3 ∨ 9 ≤ j)) ∨ (p = 50 ∧ (j = k ∨ 3 ≤ j)) ∨ (51 ≤ p ∧ p ≤ 54 ∧ (12 * k ≤ j ∧ j < 12 * k + 12 ∨ 36 ≤ j)) ∨ (p = 55 ∧ j = k) ∨ (p = 56 ∧ 3 * k ≤ j ∧ j < 3 * k + 3) ∨ (p = 57 ∧ j = k)
def frD (k : Nat) (M M2 : sm_M) : Prop := (∀ p j, p < 36 → ¬ (18 + 6 * k ≤ p ∧ p < 18 + 6 * k + 6) → M2 p j = M p j) ∧ ∀ p j, 40 ≤ p → ¬ (p = 40 ∧ (j = 0 ∨ j = 26 ∨ j = 27)) → p ≠ 45 → ¬ devR k p j → M2 p j = M p j
theorem frD_o {k k' : Nat} {M M2 : sm_M} {N : Nat} (hf : frD k M M2) (hk : k < 3) (hk' : k' < 3) (hn : k' ≠ k) (h : RelD M N k') : RelD M2 N k' := by
  refine RelD_keep (Nat.le_refl _) h ⟨fun p j h1 h2 h3 => hf.1 _ _ (by omega) (by omega), fun p h1 h2 => hf.2 _ _ (by omega) (by omega) (by omega) (by unfold devR; omega), fun j hj => hf.2 _ _ (by omega) (by omega) (by omega) (by unfold devR; omega), hf.2 _ _ (by omega) (by omega) (by omega) (by unfold devR; omega), fun p j h1 h2 h3 h4 => hf.2 _ _ (by omega) (by omega) (by omega) (by unfold devR; omega), hf.2 _ _ (by omega) (by omega) (by omega) (by unfold devR; omega), fun j hj => hf.2 _ _ (by omega) (by omega) (by omega) (by unfold devR; omega), hf.2 _ _ (by omega) (by omega) (by omega) (by unfold devR; omega)⟩
theorem frD_T {k : Nat} {M M2 : sm_M} {ts : List T3} (hf : frD k M M2) (hk : k < 3) (h : RelT M ts) : RelT M2 ts := RelT_keep h (fun p h1 h2 => funext fun j => hf.1 _ _ (by omega) (by omega)) (hf.2 _ _ (by omega) (by omega) (by omega) (by unfold devR; omega)) (hf.2 _ _ (by omega) (by omega) (by omega) (by unfold devR; omega)) (fun p h1 h2 => funext fun j => hf.2 _ _ (by omega) (by omega) (by omega) (by unfold devR; omega)) (fun j hj => hf.2 _ _ (by omega) (by omega) (by omega) (by unfold devR; omega))
theorem Rel_dev {k : Nat} {M M2 : sm_M} {ts : List T3} {ms : List Msg} (h : Rel2 M ts ms) (hk : k < 3) (hd : RelD M2 ts.length k) (hf : frD k M M2) : Rel M2 := by
  obtain ⟨h1, h2, h3, h4⟩ := h
  refine ⟨ts, ms, frD_T hf hk h1, RelM_keep h2 (fun p q1 q2 => funext fun j => hf.1 _ _ (by omega) (by omega)) (hf.2 _ _ (by omega) (by omega) (by omega) (by unfold devR; omega)) (fun p q1 q2 => funext fun j => hf.2 _ _ (by omega) (by omega) (by omega) (by unfold devR; omega)), RelH_keep (Nat.le_refl _) h3 (hf.1 _ _ (by omega) (by omega)) (hf.2 _ _ (by omega) (by omega) (by omega) (by unfold devR; omega)), fun k' hk' => ?_⟩
  by_cases e : k' = k
  · subst e; exact hd
  · exact frD_o hf hk hk' e (h4 k' hk')
theorem crt_of {z D B B' : Nat} {As : List Value} {M : sm_M} {R R' : Option Value → sm_M → Prop} {T : Nat → Prop} (h : cr z D B As M R) (hD : D ≤ 9) (hB : B ≤ B') (hr : ∀ v M1, R v M1 → R' v M1) : crt z 9 B' As M R' T := by
  intro X J rc rs d lw hd hw _ _
  refine wp_mono (h X J rc rs d lw (by omega) (by omega)) (fun o h' q => ?_)
  obtain ⟨v, M1, e1, e2, e3⟩ := q
  exact Or.inl ⟨v, M1, e1, e2, hr v M1 e3⟩
theorem crt_le {z D B D' B' : Nat} {As : List Value} {M : sm_M} {R R' : Option Value → sm_M → Prop} {T T' : Nat → Prop} (h : crt z D B As M R T) (hD : D ≤ D') (hB : B ≤ B') (hr : ∀ v M1, R v M1 → R' v M1) (ht : ∀ x, T x → T' x) : crt z D' B' As M R' T' := fun X J rc rs d lw hd hw h1 h6 => crt_mono h hr ht X J rc rs d lw (by omega) (by omega) h1 h6
def twoT (t z : Nat) (As : List Value) (z' : Nat) (As' : List Value) (M : sm_M) : Prop := crt z 9 330 As M (fun v M1 => ∃ u, v = some (.int u) ∧ cr z' 10 340 As' M1 (fun v' M2 => v' = some (.int u) ∧ M2 40 0 = nI 0 ∧ Rel M2)) (fun x => x < t ∧ cr z' 10 340 As' M (fun v' M2 => (∃ u', v' = some (.int u')) ∧ M2 40 0 = nI (x + 1) ∧ Rel M2))
theorem two_bad {t z z' D B D' B' : Nat} {As As' : List Value} {M : sm_M} {x : Nat} (h : Rel M) (hx : x < t) (hc : crt z D B As M (fun _ _ => False) (fun y => y = x)) (hD : D ≤ 9) (hB : B ≤ 330) (hr : cr z' D' B' As' M (fun v M1 => v = some (.int (nI 0)) ∧ M1 = sm_up M 40 0 (nI (x + 1)))) (hD' : D' ≤ 10) (hB' : B' ≤ 340) : twoT t z As z' As' M := by
  refine crt_le hc hD hB (fun _ _ q => q.elim) (fun y hy => ?_)
  subst hy
  refine ⟨hx, cr_le hr hD' hB' (fun v' M2 hp => ?_)⟩
  obtain ⟨rfl, rfl⟩ := hp
  exact ⟨⟨_, rfl⟩, up_s, Rel_keep h keepA_0⟩
theorem op_iff {M : sm_M} {k q : Nat} (d : dX M k q) : (M q 3 = 0 ↔ M 55 k = 1) ∧ (M q 3 = 1 ↔ M 55 k = 0) := by
  obtain ⟨-, -, h1, h2⟩ := d
  rw [h2]
  constructor
  · rw [bI_0]
    rcases h1 with h | h <;> rw [h] <;> decide
  · exact bI_1
section DO
variable {M : sm_M} {a0 a1 a2 : Int32}
theorem g_unlock (h : Rel M) : twoT 1 18 [.ref 0, .int a0, .int a1] 74 [.ref 40, .int a0, .int a1] M := by
  by_cases hf : (∃ n, n < 3 ∧ a0 = nI n) ∧ (∃ n, n < 8 ∧ a1 = nI n)
  · obtain ⟨⟨k, hk, rfl⟩, n, hn, rfl⟩ := hf
    obtain ⟨ts, ms, h2⟩ := id h
    obtain ⟨g, ow, pw, vv, l, d1, d2, d3, d4, d5⟩ := h2.2.2.2 k hk
    obtain ⟨o1, o2⟩ := op_iff d4
    refine crt_of (c_unlock (dvq_k hk) hn (by rw [d4.2.2.2]; exact bI_01)) (by omega) (by omega) (fun v M1 hp => ?_)
    obtain ⟨u, rfl, hp⟩ := hp
    refine ⟨u, rfl, ?_⟩
    have fR : ∀ p, 40 ≤ p → M1 p = M p := fun p hp2 => by
      rcases hp with ⟨-, -, -, e⟩ | ⟨-, -, e⟩
      · rw [e]; exact upf (by omega)
      · rw [e]
    refine cr_le (r_unlock hk hn (by rw [fR 55 (by omega)]; exact d4.2.2.1)) (by omega) (by omega) (fun v' M2 hp' => ?_)
    obtain ⟨u', rfl, hp'⟩ := hp'
    rw [fR 55 (by omega), fR 48 (by omega), d2.2.2.1] at hp'
    rw [o2, d1.2.2.1] at hp
    rcases hp with ⟨q1, q2, q3, q4⟩ | ⟨q1, q2, q3⟩ <;> rcases hp' with ⟨r1, r2, r3, r4⟩ | ⟨r1, r2, r3⟩
    · have e0 : ∀ p j, M2 p j = sm_up (sm_up (sm_up M (18 + 6 * k) 3 (nI 0)) 40 0 (nI 0)) 55 k (nI 1) p j := fun p j => by rw [r4, q4]
      refine ⟨by rw [q3, r3], by rw [e0, up_k (by omega), up_s], Rel_dev h2 hk ⟨g, ow, pw, vv, l, ?_, ?_, d3, ⟨fun j hj => ?_, ?_, ?_, ?_⟩, ?_⟩ ⟨fun p j g1 g2 => ?_, fun p j g1 g2 g3 g4 => ?_⟩⟩
      · refine dC_keep d1 ?_ ?_ ?_ <;> funext j <;> rw [e0, up_k (by omega), up_k (by omega), up_k (by omega)]
      · refine dR_keep d3.2.2.2.2.2.1 d2 (fun p _ _ => ?_) (fun j _ => ?_) ?_ (fun p j _ _ _ _ => ?_) <;> rw [e0, up_k (by omega), up_k (by omega), up_k (by omega)]
      · rw [e0, e0, up_k (by omega), up_k (by omega), up_k (by omega), up_k (by omega), up_k (by omega), up_k (by omega)]; exact d4.1 j hj
      · rw [e0, e0, up_k (by omega), up_k (by omega), up_i (by omega), up_k (by omega), up_k (by omega), up_k (by omega)]; exact d4.2.1
      · rw [e0, up_s]; exact Or.inr rfl
      · rw [e0, e0, up_k (by omega), up_k (by omega), up_s, up_s, bI_f (by decide)]
      · rw [e0, up_k (by omega), up_k (by omega), up_k (by omega)]; exact d5
      · rw [e0, up_k (by omega), up_k (by omega), up_k (by omega)]
      · rw [e0, up_o (by unfold devR at g4; omega), up_o (by omega), up_k (by omega)]
    · exact absurd ⟨q1, q2⟩ r1
    · exact absurd ⟨r1, r2⟩ q1
    · subst q3
      refine ⟨by rw [q2, r2], by rw [r3, up_s], by rw [r3]; exact Rel_keep h keepA_0⟩
  · exact two_bad h (by omega) (t_unlock hf) (by omega) (by omega) (v_unlock hf) (by omega) (by omega)
theorem g_lock (h : Rel M) : twoT 1 20 [.ref 0, .int a0] 76 [.ref 40, .int a0] M := by
  by_cases hf : (∃ n, n < 3 ∧ a0 = nI n)
  · obtain ⟨k, hk, rfl⟩ := hf
    obtain ⟨ts, ms, h2⟩ := id h
    obtain ⟨g, ow, pw, vv, l, d1, d2, d3, d4, d5⟩ := h2.2.2.2 k hk
    obtain ⟨o1, o2⟩ := op_iff d4
    refine crt_of (c_lock (dvq_k hk) (by rw [d4.2.2.2]; exact bI_01)) (by omega) (by omega) (fun v M1 hp => ?_)
    obtain ⟨u, rfl, hp⟩ := hp
    refine ⟨u, rfl, ?_⟩
    have fR : ∀ p, 40 ≤ p → M1 p = M p := fun p hp2 => by
      rcases hp with ⟨-, -, e⟩ | ⟨-, -, e⟩
      · rw [e]; exact upf (by omega)
      · rw [e]
    refine cr_le (r_lock hk (by rw [fR 55 (by omega)]; exact d4.2.2.1)) (by omega) (by omega) (fun v' M2 hp' => ?_)
    obtain ⟨rfl, r4⟩ := hp'
    rw [fR 55 (by omega)]
    have e3 : M1 (18 + 6 * k) 3 = 1 ∧ (∀ p j, p < 40 → ¬ (p = 18 + 6 * k ∧ j = 3) → M1 p j = M p j) ∧ M 55 k = u := by
      rcases hp with ⟨q1, q2, q4⟩ | ⟨q1, q2, q4⟩
      · rw [q4]
        exact ⟨up_s, fun p j _ h => up_o (by omega), by rw [o1.mp q1, q2]; rfl⟩
      · rw [q4]
        exact ⟨q1, fun p j _ _ => rfl, by rw [o2.mp q1, q2]; rfl⟩
    obtain ⟨e3, e4, e5⟩ := e3
    have e0 : ∀ p j, M2 p j = sm_up (sm_up M1 40 0 (nI 0)) 55 k (nI 0) p j := fun p j => by rw [r4]
    refine ⟨by rw [e5], by rw [e0, up_k (by omega), up_s], Rel_dev h2 hk ⟨g, ow, pw, vv, l, ?_, ?_, d3, ⟨fun j hj => ?_, ?_, ?_, ?_⟩, ?_⟩ ⟨fun p j g1 g2 => ?_, fun p j g1 g2 g3 g4 => ?_⟩⟩
    · refine dC_keep d1 ?_ ?_ ?_ <;> funext j <;> rw [e0, up_k (by omega), up_k (by omega), e4 _ _ (by omega) (by omega)]
    · refine dR_keep d3.2.2.2.2.2.1 d2 (fun p _ _ => ?_) (fun j _ => ?_) ?_ (fun p j _ _ _ _ => ?_) <;> rw [e0, up_k (by omega), up_k (by omega), fR _ (by omega)]
    · rw [e0, e0, up_k (by omega), up_k (by omega), up_k (by omega), up_k (by omega), e4 _ _ (by omega) (by omega), fR _ (by omega)]; exact d4.1 j hj
    · rw [e0, e0, up_k (by omega), up_k (by omega), up_k (by omega), up_k (by omega), e4 _ _ (by omega) (by omega), fR _ (by omega)]; exact d4.2.1
    · rw [e0, up_s]; exact Or.inl rfl
    · rw [e0, e0, up_k (by omega), up_k (by omega), up_s, e3, bI_t (by rfl)]; rfl
    · rw [e0, up_k (by omega), up_k (by omega), fR _ (by omega)]; exact d5
    · rw [e0, up_k (by omega), up_k (by omega), e4 _ _ (by omega) (by omega)]
    · rw [e0, up_o (by unfold devR at g4; omega), up_o (by omega), fR _ (by omega)]
  · exact two_bad h (by omega) (t_lock hf) (by omega) (by omega) (v_lock hf) (by omega) (by omega)
theorem g_change (h : Rel M) : twoT 2 25 [.ref 0, .int a0, .int a1] 86 [.ref 40, .int a0, .int a1] M := by
  by_cases hf : (∃ n, n < 3 ∧ a0 = nI n) ∧ (∃ n, n < 8 ∧ a1 = nI n)
  · obtain ⟨⟨k, hk, rfl⟩, n, hn, rfl⟩ := hf
    obtain ⟨ts, ms, h2⟩ := id h
    obtain ⟨g, ow, pw, vv, l, d1, d2, d3, d4, d5⟩ := h2.2.2.2 k hk
    obtain ⟨o1, o2⟩ := op_iff d4
    by_cases ho : M 55 k = 1
    · refine crt_of (c_change (dvq_k hk) hn (o1.mpr ho) d1 d3.1) (by omega) (by omega) (fun v M1 hp => ?_)
      obtain ⟨u, rfl, hp⟩ := hp
      refine ⟨u, rfl, ?_⟩
      have fR : ∀ p, 40 ≤ p → M1 p = M p := fun p hp2 => by
        rcases hp with ⟨-, -, e⟩ | ⟨-, -, e⟩
        · rw [e]
        · rw [e, upf (by omega), upf (by omega), upf (by omega)]
      refine cr_le (r_change (g := g) (ow := ow) (pw := pw) (vv := vv) (l := l) hk hn (by rw [fR 55 (by omega)]; exact ho) (dR_keep d3.2.2.2.2.2.1 d2 (fun p _ _ => by rw [fR p (by omega)]) (fun j _ => by rw [fR 49 (by omega)]) (by rw [fR 50 (by omega)]) (fun p j _ _ _ _ => by rw [fR p (by omega)])) d3.1) (by omega) (by omega) (fun v' M2 hp' => ?_)
      obtain ⟨u', rfl, hp'⟩ := hp'
      rcases hp with ⟨q1, q2, q3⟩ | ⟨q1, q2, q3⟩ <;> rcases hp' with ⟨r1, r2, r3⟩ | ⟨r1, r2, r3⟩
      · subst q3
        exact ⟨by rw [q2, r2], by rw [r3, up_s], by rw [r3]; exact Rel_keep h keepA_0⟩
      · exact absurd q1 r1
      · exact absurd r1 q1
      · have e0 : ∀ p j, M2 p j = sm_up (sm_up (sm_up (sm_up M1 40 0 (nI 0)) 46 k (nI (g + 1))) 47 k (nI k)) 48 k (nI n) p j := fun p j => by rw [r3]
        have e1 : ∀ p j, p < 40 → ¬ (p = 18 + 6 * k + 1 ∧ j < 3) → M1 p j = M p j := fun p j _ hh => by rw [q3, up_o (by omega), up_o (by omega), up_o (by omega)]
        have c0 : M1 (18 + 6 * k + 1) 0 = nI (g + 1) := by rw [q3, up_i (by omega), up_i (by omega), up_s]
        have c1 : M1 (18 + 6 * k + 1) 1 = nI k := by rw [q3, up_i (by omega), up_s]
        have c2 : M1 (18 + 6 * k + 1) 2 = nI n := by rw [q3, up_s]
        have ec : ∀ p j, p < 40 → M2 p j = M1 p j := fun p j hp => by rw [e0, up_k (by omega), up_k (by omega), up_k (by omega), up_k (by omega)]
        have er : ∀ p j, 40 ≤ p → ¬ (p = 40 ∧ j = 0) → ¬ (46 ≤ p ∧ p ≤ 48 ∧ j = k) → M2 p j = M p j := fun p j g1 g2 g3 => by rw [e0, up_o (by omega), up_o (by omega), up_o (by omega), up_o (by omega), fR p g1]
        refine ⟨by rw [q2, r2], by rw [e0, up_k (by omega), up_k (by omega), up_k (by omega), up_s], Rel_dev h2 hk ⟨g + 1, k, n, vv, l, ⟨?_, ?_, ?_, fun j hj => ?_, ?_⟩, ⟨?_, ?_, ?_, fun j hj => ?_, ?_, ?_⟩, ⟨by omega, hk, hn, d3.2.2.2⟩, ⟨fun j hj => ?_, ?_, ?_, ?_⟩, ?_⟩ ⟨fun p j g1 g2 => ?_, fun p j g1 g2 g3 g4 => ?_⟩⟩
        · rw [ec _ _ (by omega)]; exact c0
        · rw [ec _ _ (by omega)]; exact c1
        · rw [ec _ _ (by omega)]; exact c2
        · rw [ec _ _ (by omega), e1 _ _ (by omega) (by omega)]; exact d1.2.2.2.1 j hj
        · refine ⟨?_, d1.2.2.2.2.2.1, row_congr d1.2.2.2.2.2.2 (fun j _ => ?_)⟩
          · rw [ec _ _ (by omega), e1 _ _ (by omega) (by omega)]; exact d1.2.2.2.2.1
          · rw [ec _ _ (by omega), e1 _ _ (by omega) (by omega)]
        · rw [e0, up_k (by omega), up_k (by omega), up_s]
        · rw [e0, up_k (by omega), up_s]
        · rw [e0, up_s]
        · rw [er _ _ (by omega) (by omega) (by omega)]; exact d2.2.2.2.1 j hj
        · rw [er _ _ (by omega) (by omega) (by omega)]; exact d2.2.2.2.2.1
        · exact qrow_congr d2.2.2.2.2.2 (fun p j _ _ _ => er _ _ (by omega) (by omega) (by omega))
        · rw [ec _ _ (by omega), e1 _ _ (by omega) (by omega), er _ _ (by omega) (by omega) (by omega)]; exact d4.1 j hj
        · rw [ec _ _ (by omega), e1 _ _ (by omega) (by omega), er _ _ (by omega) (by omega) (by omega)]; exact d4.2.1
        · rw [er _ _ (by omega) (by omega) (by omega)]; exact d4.2.2.1
        · rw [ec _ _ (by omega), e1 _ _ (by omega) (by omega), er _ _ (by omega) (by omega) (by omega)]; exact d4.2.2.2
        · rw [er _ _ (by omega) (by omega) (by omega)]; exact d5
        · rw [ec _ _ (by omega), e1 _ _ (by omega) (by omega)]
        · exact er _ _ g1 (by omega) (by unfold devR at g4; omega)
    · have ho0 : M 55 k = 0 := d4.2.2.1.elim id (fun q => absurd q ho)
      exact two_bad h (by omega) (u_change (dvq_k hk) hn (fun q => ho (o1.mp q))) (by omega) (by omega) (w_change hk hn ho0) (by omega) (by omega)
  · exact two_bad h (by omega) (t_change hf) (by omega) (by omega) (v_change hf) (by omega) (by omega)
theorem put_ne {l : List Nat} {k n1 n2 v x : Nat} {vv : Nat → Nat} (hk : k < 3) (h1 : n1 < 4) (h2 : n2 < 64) (hv : v = vv k) (hv30 : v < 30) (hx : x < 32768 ∧ x / 2048 % 4 < 3 ∧ x / 64 % 32 ≤ vv (x / 2048 % 4)) : ¬ x / 64 = (((n1 * 4 + k) * 32 + (v + 1)) * 64 + n2) / 64 := by
  intro e
  have e1 : x / 2048 % 4 = k := by omega
  have e2 : x / 64 % 32 = v + 1 := by omega
  have := hx.2.2
  rw [e1, e2] at this
  omega
/-- a device's own after an edit -/
theorem ed_dev {k : Nat} {M M1 M2 : sm_M} {ts : List T3} {ms : List Msg} {g ow pw : Nat} {vv vv' : Nat → Nat} {l l' : List Nat} (h2 : Rel2 M ts ms) (hk : k < 3) (d1 : dC M (18 + 6 * k) g ow pw vv l) (d2 : dR M k g ow pw vv l) (d4 : dX M k (18 + 6 * k)) (d5 : vt ts.length (M 57 k)) (hI : dI g ow pw vv' l')
    (fc : ∀ p j, p < 40 → p ≠ 18 + 6 * k + 1 + 1 → p ≠ 18 + 6 * k + 1 + 2 → ¬ (p = 18 + 6 * k + 1 ∧ j = 5) → M1 p j = M p j) (fR : ∀ p, 40 ≤ p → M1 p = M p) (ce : es M1 (18 + 6 * k + 1) l') (cv : ∀ j, j < 3 → M1 (18 + 6 * k + 1 + 1) j = nI (vv' j))
    (ec : ∀ p j, p < 40 → M2 p j = M1 p j) (re2 : re M2 k l') (rv : ∀ j, j < 3 → M2 49 (3 * k + j) = nI (vv' j)) (er : ∀ p j, 40 ≤ p → ¬ (p = 40 ∧ j = 0) → ¬ (p = 49 ∧ 3 * k ≤ j ∧ j < 3 * k + 3) → ¬ (p = 50 ∧ j = k) → ¬ (51 ≤ p ∧ p ≤ 54 ∧ 12 * k ≤ j ∧ j < 12 * k + 12) → M2 p j = M1 p j) : Rel M2 := by
  have er2 : ∀ p j, 40 ≤ p → ¬ (p = 40 ∧ j = 0) → ¬ (p = 49 ∧ 3 * k ≤ j ∧ j < 3 * k + 3) → ¬ (p = 50 ∧ j = k) → ¬ (51 ≤ p ∧ p ≤ 54 ∧ 12 * k ≤ j ∧ j < 12 * k + 12) → M2 p j = M p j := fun p j g1 g2 g3 g4 g5 => by rw [er p j g1 g2 g3 g4 g5, fR p g1]
  refine Rel_dev h2 hk ⟨g, ow, pw, vv', l', ⟨?_, ?_, ?_, fun j hj => ?_, ?_⟩, ⟨?_, ?_, ?_, rv, re2⟩, hI, ⟨fun j hj => ?_, ?_, ?_, ?_⟩, ?_⟩ ⟨fun p j g1 g2 => ?_, fun p j g1 g2 g3 g4 => ?_⟩
  · rw [ec _ _ (by omega), fc _ _ (by omega) (by omega) (by omega) (by omega)]; exact d1.1
  · rw [ec _ _ (by omega), fc _ _ (by omega) (by omega) (by omega) (by omega)]; exact d1.2.1
  · rw [ec _ _ (by omega), fc _ _ (by omega) (by omega) (by omega) (by omega)]; exact d1.2.2.1
  · rw [ec _ _ (by omega)]; exact cv j hj
  · refine ⟨?_, ce.2.1, row_congr ce.2.2 (fun j _ => ?_)⟩
    · rw [ec _ _ (by omega)]; exact ce.1
    · rw [ec _ _ (by omega)]
  · rw [er2 _ _ (by omega) (by omega) (by omega) (by omega) (by omega)]; exact d2.1
  · rw [er2 _ _ (by omega) (by omega) (by omega) (by omega) (by omega)]; exact d2.2.1
  · rw [er2 _ _ (by omega) (by omega) (by omega) (by omega) (by omega)]; exact d2.2.2.1
  · rw [ec _ _ (by omega), fc _ _ (by omega) (by omega) (by omega) (by omega), er2 _ _ (by omega) (by omega) (by omega) (by omega) (by omega)]; exact d4.1 j hj
  · rw [ec _ _ (by omega), fc _ _ (by omega) (by omega) (by omega) (by omega), er2 _ _ (by omega) (by omega) (by omega) (by omega) (by omega)]; exact d4.2.1
  · rw [er2 _ _ (by omega) (by omega) (by omega) (by omega) (by omega)]; exact d4.2.2.1
  · rw [ec _ _ (by omega), fc _ _ (by omega) (by omega) (by omega) (by omega), er2 _ _ (by omega) (by omega) (by omega) (by omega) (by omega)]; exact d4.2.2.2
  · rw [er2 _ _ (by omega) (by omega) (by omega) (by omega) (by omega)]; exact d5
  · rw [ec _ _ (by omega), fc _ _ (by omega) (by omega) (by omega) (by omega)]
  · exact er2 _ _ g1 (by omega) (by unfold devR at g4; omega) (by unfold devR at g4; omega) (by unfold devR at g4; omega)
theorem vv_up {vv : Nat → Nat} {k j : Nat} : vv j ≤ (fun j => if j = k then vv k + 1 else vv j) j := by
  show vv j ≤ if j = k then vv k + 1 else vv j
  split
  · next e => rw [e]; omega
  · exact Nat.le_refl _
theorem g_put (h : Rel M) : twoT 2 21 [.ref 0, .int a0, .int a1, .int a2] 77 [.ref 40, .int a0, .int a1, .int a2] M := by
  by_cases hf : (∃ n, n < 3 ∧ a0 = nI n) ∧ (∃ n, n < 4 ∧ a1 = nI n) ∧ (∃ n, n < 64 ∧ a2 = nI n)
  · obtain ⟨⟨k, hk, rfl⟩, ⟨n1, hn1, rfl⟩, n2, hn2, rfl⟩ := hf
    obtain ⟨ts, ms, h2⟩ := id h
    obtain ⟨g, ow, pw, vv, l, d1, d2, d3, d4, d5⟩ := h2.2.2.2 k hk
    obtain ⟨o1, o2⟩ := op_iff d4
    by_cases ho : M 55 k = 1
    · refine crt_of (c_put (dvq_k hk) hn1 hn2 (o1.mpr ho) d1 (d3.2.2.2.1 k hk)) (by omega) (by omega) (fun v M1 hp => ?_)
      obtain ⟨u, rfl, hp⟩ := hp
      refine ⟨u, rfl, ?_⟩
      have fR : ∀ p, 40 ≤ p → M1 p = M p := fun p hp2 => by
        rcases hp with ⟨-, -, e⟩ | ⟨-, -, -, -, e⟩
        · rw [e]
        · funext j; exact e p j (by omega) (by omega) (by omega)
      refine cr_le (r_put (g := g) (ow := ow) (pw := pw) (vv := vv) (l := l) hk hn1 hn2 (by rw [fR 55 (by omega)]; exact ho) (dR_keep d3.2.2.2.2.2.1 d2 (fun p _ _ => by rw [fR p (by omega)]) (fun j _ => by rw [fR 49 (by omega)]) (by rw [fR 50 (by omega)]) (fun p j _ _ _ _ => by rw [fR p (by omega)])) d3.2.2.2.2.2.1 (d3.2.2.2.1 k hk)) (by omega) (by omega) (fun v' M2 hp' => ?_)
      obtain ⟨u', rfl, hp'⟩ := hp'
      rcases hp with ⟨q1, q2, q3⟩ | ⟨q1, q2, q3, q4, q5⟩ <;> rcases hp' with ⟨r1, r2, r3⟩ | ⟨r1, r2, r3, r4, r5, r6⟩
      · subst q3
        exact ⟨by rw [q2, r2], by rw [r3, up_s], by rw [r3]; exact Rel_keep h keepA_0⟩
      · exact absurd q1 r1
      · exact absurd r1 q1
      · obtain ⟨i1, i2, i3, i4, i5, i6, i7⟩ := id d3
        have hne : ∀ x ∈ fo n1 l, ¬ x / 64 = (((n1 * 4 + k) * 32 + (vv k + 1)) * 64 + n2) / 64 := fun x hx => put_ne (l := l) hk hn1 hn2 rfl (by omega) (i7 x (mem_fo hx))
        have hlen := fo_fi (it := n1) l
        rw [insK_eq _ hne] at q3
        refine ⟨by rw [q2, r2], r3, ed_dev h2 hk d1 d2 d4 d5 (vv' := fun j => if j = k then vv k + 1 else vv j) ⟨i1, i2, i3, fun j hj => ?_, insK_srt _ (srt_fo i5) hne, by rw [insK_len]; omega, fun x hx => ?_⟩ (fun p j _ g1 g2 g3 => q5 p j g1 g2 g3) fR q3 q4 (fun p j hp => r6 _ _ (by omega) (by omega) (by omega) (by omega)) r4 r5 (fun p j g1 g2 g3 g4 g5 => r6 p j g2 g3 g4 g5)⟩
        · show (if j = k then vv k + 1 else vv j) ≤ 30
          split
          · omega
          · exact i4 j hj
        · rcases (insK_mem _).mp hx with rfl | hx
          · have e1 : (((n1 * 4 + k) * 32 + (vv k + 1)) * 64 + n2) / 2048 % 4 = k := by omega
            have e2 : (((n1 * 4 + k) * 32 + (vv k + 1)) * 64 + n2) / 64 % 32 = vv k + 1 := by omega
            rw [e1, e2]
            refine ⟨by omega, hk, ?_⟩
            show vv k + 1 ≤ if k = k then vv k + 1 else vv k
            rw [if_pos rfl]
            exact Nat.le_refl _
          · obtain ⟨j1, j2, j3⟩ := i7 x (mem_fo hx)
            exact ⟨j1, j2, Nat.le_trans j3 vv_up⟩
    · have ho0 : M 55 k = 0 := d4.2.2.1.elim id (fun q => absurd q ho)
      exact two_bad h (by omega) (u_put (dvq_k hk) hn1 hn2 (fun q => ho (o1.mp q))) (by omega) (by omega) (w_put hk hn1 hn2 ho0) (by omega) (by omega)
  · exact two_bad h (by omega) (t_put hf) (by omega) (by omega) (v_put hf) (by omega) (by omega)
theorem g_erase (h : Rel M) : twoT 2 23 [.ref 0, .int a0, .int a1] 84 [.ref 40, .int a0, .int a1] M := by
  by_cases hf : (∃ n, n < 3 ∧ a0 = nI n) ∧ (∃ n, n < 4 ∧ a1 = nI n)
  · obtain ⟨⟨k, hk, rfl⟩, n1, hn1, rfl⟩ := hf
    obtain ⟨ts, ms, h2⟩ := id h
    obtain ⟨g, ow, pw, vv, l, d1, d2, d3, d4, d5⟩ := h2.2.2.2 k hk
    obtain ⟨o1, o2⟩ := op_iff d4
    by_cases ho : M 55 k = 1
    · refine crt_of (c_erase (dvq_k hk) hn1 (o1.mpr ho) d1 (d3.2.2.2.1 k hk)) (by omega) (by omega) (fun v M1 hp => ?_)
      obtain ⟨u, rfl, hp⟩ := hp
      refine ⟨u, rfl, ?_⟩
      have fR : ∀ p, 40 ≤ p → M1 p = M p := fun p hp2 => by
        rcases hp with ⟨-, -, e⟩ | ⟨-, -, -, e⟩ | ⟨-, -, -, -, -, e⟩
        · rw [e]
        · rw [e]
        · funext j; exact e p j (by omega) (by omega) (by omega)
      refine cr_le (r_erase (g := g) (ow := ow) (pw := pw) (vv := vv) (l := l) hk hn1 (by rw [fR 55 (by omega)]; exact ho) (dR_keep d3.2.2.2.2.2.1 d2 (fun p _ _ => by rw [fR p (by omega)]) (fun j _ => by rw [fR 49 (by omega)]) (by rw [fR 50 (by omega)]) (fun p j _ _ _ _ => by rw [fR p (by omega)])) d3.2.2.2.2.2.1 (d3.2.2.2.1 k hk)) (by omega) (by omega) (fun v' M2 hp' => ?_)
      obtain ⟨u', rfl, hp'⟩ := hp'
      rcases hp with ⟨q1, q2, q3⟩ | ⟨q1, q1b, q2, q3⟩ | ⟨q1, q1b, q2, q3, q4, q5⟩ <;> rcases hp' with ⟨r1, r2, r3⟩ | ⟨r1, r1b, r2, r3⟩ | ⟨r1, r1b, r2, r3, r4, r5, r6⟩
      · subst q3
        exact ⟨by rw [q2, r2], by rw [r3, up_s], by rw [r3]; exact Rel_keep h keepA_0⟩
      · exact absurd q1 r1
      · exact absurd q1 r1
      · exact absurd r1 q1
      · subst q3
        exact ⟨by rw [q2, r2], by rw [r3, up_s], by rw [r3]; exact Rel_keep h keepA_0⟩
      · exact absurd q1b r1b
      · exact absurd r1 q1
      · exact absurd r1b q1b
      · obtain ⟨i1, i2, i3, i4, i5, i6, i7⟩ := id d3
        have hlen := fo_fi (it := n1) l
        refine ⟨by rw [q2, r2], r3, ed_dev h2 hk d1 d2 d4 d5 (vv' := fun j => if j = k then vv k + 1 else vv j) ⟨i1, i2, i3, fun j hj => ?_, srt_fo i5, by omega, fun x hx => ?_⟩ (fun p j _ g1 g2 g3 => q5 p j g1 g2 g3) fR q3 q4 (fun p j hp => r6 _ _ (by omega) (by omega) (by omega) (by omega)) r4 r5 (fun p j g1 g2 g3 g4 g5 => r6 p j g2 g3 g4 g5)⟩
        · show (if j = k then vv k + 1 else vv j) ≤ 30
          split
          · omega
          · exact i4 j hj
        · obtain ⟨j1, j2, j3⟩ := i7 x (mem_fo hx)
          exact ⟨j1, j2, Nat.le_trans j3 vv_up⟩
    · have ho0 : M 55 k = 0 := d4.2.2.1.elim id (fun q => absurd q ho)
      exact two_bad h (by omega) (u_erase (dvq_k hk) hn1 (fun q => ho (o1.mp q))) (by omega) (by omega) (w_erase hk hn1 ho0) (by omega) (by omega)
  · exact two_bad h (by omega) (t_erase hf) (by omega) (by omega) (v_erase hf) (by omega) (by omega)
theorem g_get (h : Rel M) : twoT 2 24 [.ref 0, .int a0, .int a1, .int a2] 85 [.ref 40, .int a0, .int a1, .int a2] M := by
  by_cases hf : (∃ n, n < 3 ∧ a0 = nI n) ∧ (∃ n, n < 4 ∧ a1 = nI n)
  · obtain ⟨⟨k, hk, rfl⟩, n1, hn1, rfl⟩ := hf
    obtain ⟨ts, ms, h2⟩ := id h
    obtain ⟨g, ow, pw, vv, l, d1, d2, d3, d4, d5⟩ := h2.2.2.2 k hk
    obtain ⟨o1, o2⟩ := op_iff d4
    by_cases ho : M 55 k = 1
    · refine crt_of (c_get (a2 := a2) (dvq_k hk) hn1 (o1.mpr ho) d1) (by omega) (by omega) (fun v M1 hp => ?_)
      obtain ⟨rfl, u, rfl, hp⟩ := hp
      refine ⟨u, rfl, ?_⟩
      refine cr_le (r_get (a2 := a2) hk hn1 ho d2 d3.2.2.2.2.2.1 d3.2.2.2.2.1) (by omega) (by omega) (fun v' M2 hp' => ?_)
      obtain ⟨rfl, u', rfl, hp'⟩ := hp'
      refine ⟨?_, up_s, Rel_keep h keepA_0⟩
      have h12 : (fi n1 l).length ≤ 12 := Nat.le_trans (List.length_filter_le _ _) d3.2.2.2.2.2.1
      have : u' = u := by
        rcases hp with ⟨q1, q2⟩ | ⟨q1, q2⟩ <;> rcases hp' with ⟨r1, r2⟩ | ⟨r1, r2⟩
        · rw [q2, r2]
        · exact absurd q1 r1
        · exact absurd r1 q1
        · rcases q2 with ⟨j, w, e1, e2, e3⟩ | ⟨e1, e2⟩ <;> rcases r2 with ⟨j', w', e1', e2', e3'⟩ | ⟨e1', e2'⟩
          · have hj := l_lt e2
            have hj' := l_lt e2'
            have ej : j = j' := (nI_eq (by omega) (by omega)).mp (e1.symm.trans e1')
            subst ej
            rw [e2] at e2'
            cases e2'
            rw [e3, e3']
          · exact absurd e1 (e1' j (l_lt e2))
          · exact absurd e1' (e1 j' (l_lt e2'))
          · rw [e2, e2']
      rw [this]
    · have ho0 : M 55 k = 0 := d4.2.2.1.elim id (fun q => absurd q ho)
      exact two_bad h (by omega) (u_get (dvq_k hk) hn1 (fun q => ho (o1.mp q))) (by omega) (by omega) (w_get hk hn1 ho0) (by omega) (by omega)
  · exact two_bad h (by omega) (t_get hf) (by omega) (by omega) (v_get hf) (by omega) (by omega)
end DO
