/-! ===== reasoning on runs of the small machine ===== -/
theorem sm_run_more {T : sm_T} {X : Nat × (Nat → Int32)} {ok : Nat → Nat → Bool} : ∀ (n d lw y pc : Nat) (L : sm_L) (S : List Value) (h : sm_H) (r : sm_O × sm_H), sm_run T X ok n d lw y pc L S h = some r → sm_run T X ok (n + 1) d lw y pc L S h = some r := by
  intro n
  induction n with
  | zero => intro d lw y pc L S h r hr; cases hr
  | succ n ih =>
    intro d lw y pc L S h r hr
    unfold sm_run at hr ⊢
    split at hr
    · cases hr
    · next i hi =>
      (try rw [hi])
      (try dsimp only)
      split at hr
      · next hc => (try rw [if_pos hc]); exact hr
      · next hc =>
        (try rw [if_neg hc])
        split at hr
        · next hv =>
          (try rw [hv])
          (try dsimp only)
          split at hr
          · next hs => (try rw [hs]); exact ih _ _ _ _ _ _ _ _ hr
          · cases hr
        · next k z w hv =>
          (try rw [hv])
          (try dsimp only)
          split at hr
          · cases hr
          · next d =>
            (try dsimp only)
            split at hr
            · next hk =>
              (try rw [if_pos hk])
              split at hr
              · next hlw =>
                (try rw [if_pos hlw])
                split at hr
                · next hs => (try rw [hs]); exact ih _ _ _ _ _ _ _ _ hr
                · cases hr
              · cases hr
            · next hk =>
              (try rw [if_neg hk])
              split at hr
              · next hw =>
                (try rw [if_pos hw])
                have hor : ∀ q, sm_or (sm_thr T z (S.take w).reverse h) d (lw - (19 + (sm_nL T z).1)) h (sm_run T X ok n d (lw - (19 + (sm_nL T z).1)) z 0 (sm_ent (sm_nL T z).1 (S.take w).reverse) [] h) = some q → sm_or (sm_thr T z (S.take w).reverse h) d (lw - (19 + (sm_nL T z).1)) h (sm_run T X ok (n + 1) d (lw - (19 + (sm_nL T z).1)) z 0 (sm_ent (sm_nL T z).1 (S.take w).reverse) [] h) = some q := by
                  intro q hq
                  unfold sm_or at hq ⊢
                  split at hq
                  · exact hq
                  · exact ih _ _ _ _ _ _ _ _ hq
                split at hr
                · next v h1 hs =>
                  (try rw [hor _ hs])
                  (try dsimp only)
                  split at hr
                  · next h2 => (try rw [if_pos h2]); exact ih _ _ _ _ _ _ _ _ hr
                  · cases hr
                · next x h1 hs =>
                  (try rw [hor _ hs])
                  (try dsimp only)
                  split at hr
                  · cases hr
                  · next hk5 =>
                    (try rw [if_neg hk5])
                    split at hr
                    · cases hr
                    · next hcat => (try rw [hcat]); exact hr
                    · next hcat =>
                      (try rw [hcat])
                      (try dsimp only)
                      split at hr
                      · next h2 => (try rw [if_pos h2]); exact ih _ _ _ _ _ _ _ _ hr
                      · cases hr
                · cases hr
              · cases hr
theorem sm_run_le {T : sm_T} {X : Nat × (Nat → Int32)} {ok : Nat → Nat → Bool} {n k d lw y pc : Nat} {L : sm_L} {S : List Value} {h : sm_H} {r : sm_O × sm_H} (hr : sm_run T X ok n d lw y pc L S h = some r) (hk : n ≤ k) : sm_run T X ok k d lw y pc L S h = some r := by
  induction k with
  | zero =>
    have : n = 0 := by omega
    subst this
    exact hr
  | succ k ih =>
    by_cases he : n = k + 1
    · subst he; exact hr
    · exact sm_run_more _ _ _ _ _ _ _ _ _ (ih (by omega))
def sm_wp (T : sm_T) (X : Nat × (Nat → Int32)) (ok : Nat → Nat → Bool) (d lw y pc : Nat) (L : sm_L) (S : List Value) (h : sm_H) (Q : sm_O → sm_H → Prop) : Prop := ∃ n o h', sm_run T X ok n d lw y pc L S h = some (o, h') ∧ Q o h'
section SMWP
variable {T : sm_T} {X : Nat × (Nat → Int32)} {ok : Nat → Nat → Bool} {d lw y pc : Nat} {L : sm_L} {S : List Value} {h : sm_H} {Q : sm_O → sm_H → Prop}
theorem wp_mono {Q' : sm_O → sm_H → Prop} (hw : sm_wp T X ok d lw y pc L S h Q') (hq : ∀ o h', Q' o h' → Q o h') : sm_wp T X ok d lw y pc L S h Q := by
  obtain ⟨n, o, h', hr, h1⟩ := hw
  exact ⟨n, o, h', hr, hq o h' h1⟩
theorem wp_i {i : Instr} {r : sm_P} (hins : sm_ins T y pc = some i) (hr : sm_isret i = false) (hv : sm_inv T y i = none) (hi : sm_i T X ok y i pc L S h = some r) (k : sm_wp T X ok d lw y r.1 r.2.1 r.2.2.1 r.2.2.2 Q) : sm_wp T X ok d lw y pc L S h Q := by
  obtain ⟨n, o, h', hrun, hq⟩ := k
  refine ⟨n + 1, o, h', ?_, hq⟩
  unfold sm_run
  rw [hins]
  dsimp only
  rw [if_neg (by rw [hr]; decide), hv]
  dsimp only
  rw [hi]
  exact hrun
theorem wp_ret {i : Instr} {v : Option Value} (hins : sm_ins T y pc = some i) (hr : sm_isret i = true) (hv : sm_ret (sm_nL T y).2.1 i S = some v) (hq : Q (.inl v) h) : sm_wp T X ok d lw y pc L S h Q := by
  refine ⟨1, .inl v, h, ?_, hq⟩
  unfold sm_run
  rw [hins]
  dsimp only
  rw [if_pos hr, hv]
  rfl
theorem wp_lib {i : Instr} {k z w : Nat} {r : sm_P} (hins : sm_ins T y pc = some i) (hr : sm_isret i = false) (hv : sm_inv T y i = some (k, z, w)) (hk : k < 3) (hlw : 100 ≤ lw) (hi : sm_lib k (pc + 3) L S h = some r) (kk : sm_wp T X ok (d + 1) lw y r.1 r.2.1 r.2.2.1 r.2.2.2 Q) : sm_wp T X ok (d + 1) lw y pc L S h Q := by
  obtain ⟨n, o, h', hrun, hq⟩ := kk
  refine ⟨n + 1, o, h', ?_, hq⟩
  unfold sm_run
  rw [hins]
  dsimp only
  rw [if_neg (by rw [hr]; decide), hv]
  dsimp only
  rw [if_pos hk, if_pos hlw, hi]
  exact hrun
theorem wp_call {i : Instr} {k z w : Nat} {Q1 : sm_O → sm_H → Prop} (hins : sm_ins T y pc = some i) (hr : sm_isret i = false) (hv : sm_inv T y i = some (k, z, w)) (hk : ¬ k < 3) (hw : w ≤ S.length ∧ sm_sum (S.drop w) ≤ 8 ∧ sm_rcv k (sm_nL T z).2.2 (S.take w).reverse h = true ∧ (S.take w).all sm_c1 = true ∧ w ≤ (sm_nL T z).1 ∧ 19 + (sm_nL T z).1 ≤ lw)
    (ht : sm_thr T z (S.take w).reverse h = none) (hc : sm_wp T X ok d (lw - (19 + (sm_nL T z).1)) z 0 (sm_ent (sm_nL T z).1 (S.take w).reverse) [] h Q1)
    (kv : ∀ v h1, Q1 (.inl v) h1 → sm_ok2 L (S.drop w) h h1 = true ∧ sm_wp T X ok (d + 1) lw y (pc + 3) L (v.toList ++ S.drop w) h1 Q)
    (kt : ∀ x h1, Q1 (.inr x) h1 → k ≠ 5 ∧ ((sm_cat T y pc x = some none ∧ Q (.inr x) h1) ∨ ∃ pc' q, sm_cat T y pc x = some (some (pc', q)) ∧ sm_ok2 L [] h h1 = true ∧ sm_wp T X ok (d + 1) lw y pc' (L.set q none) [] h1 Q)) : sm_wp T X ok (d + 1) lw y pc L S h Q := by
  obtain ⟨n1, o1, h1, hrun1, hq1⟩ := hc
  cases o1 with
  | inl v =>
    obtain ⟨g1, n2, o, h', hrun, hq⟩ := kv v h1 hq1
    refine ⟨max n1 n2 + 1, o, h', ?_, hq⟩
    unfold sm_run
    rw [hins]
    dsimp only
    rw [if_neg (by rw [hr]; decide), hv]
    dsimp only
    rw [if_neg hk, if_pos hw, ht]
    (try dsimp only [sm_or])
    rw [sm_run_le hrun1 (Nat.le_max_left n1 n2)]
    dsimp only
    rw [if_pos g1]
    exact sm_run_le hrun (Nat.le_max_right n1 n2)
  | inr x =>
    obtain ⟨hk5, kt⟩ := kt x h1 hq1
    rcases kt with ⟨g1, hq⟩ | ⟨pc', q, g1, g2, n2, o, h', hrun, hq⟩
    · refine ⟨n1 + 1, .inr x, h1, ?_, hq⟩
      unfold sm_run
      rw [hins]
      dsimp only
      rw [if_neg (by rw [hr]; decide), hv]
      dsimp only
      rw [if_neg hk, if_pos hw, ht]
      (try dsimp only [sm_or])
      rw [hrun1]
      dsimp only
      rw [if_neg hk5, g1]
    · refine ⟨max n1 n2 + 1, o, h', ?_, hq⟩
      unfold sm_run
      rw [hins]
      dsimp only
      rw [if_neg (by rw [hr]; decide), hv]
      dsimp only
      rw [if_neg hk, if_pos hw, ht]
      (try dsimp only [sm_or])
      rw [sm_run_le hrun1 (Nat.le_max_left n1 n2)]
      dsimp only
      rw [if_neg hk5, g1]
      dsimp only
      rw [if_pos g2]
      exact sm_run_le hrun (Nat.le_max_right n1 n2)
/-- a call of a method that throws at once -/
theorem wp_callT {i : Instr} {k z w x kc ks : Nat} (hk5 : k ≠ 5) (hins : sm_ins T y pc = some i) (hr : sm_isret i = false) (hv : sm_inv T y i = some (k, z, w)) (hk : ¬ k < 3) (hw : w ≤ S.length ∧ sm_sum (S.drop w) ≤ 8 ∧ sm_rcv k (sm_nL T z).2.2 (S.take w).reverse h = true ∧ (S.take w).all sm_c1 = true ∧ w ≤ (sm_nL T z).1 ∧ 19 + (sm_nL T z).1 ≤ lw)
    (ht : sm_thr T z (S.take w).reverse h = some (x, kc, ks)) (hc : kc ≤ h.2.2.2.1 ∧ ks ≤ h.2.2.2.2 ∧ 6 ≤ d ∧ 100 ≤ lw - (19 + (sm_nL T z).1))
    (kt : (sm_cat T y pc x = some none ∧ Q (.inr x) (h.1, h.2.1, h.2.2.1, h.2.2.2.1 - kc, h.2.2.2.2 - ks)) ∨ ∃ pc' q, sm_cat T y pc x = some (some (pc', q)) ∧ sm_wp T X ok (d + 1) lw y pc' (L.set q none) [] (h.1, h.2.1, h.2.2.1, h.2.2.2.1 - kc, h.2.2.2.2 - ks) Q) : sm_wp T X ok (d + 1) lw y pc L S h Q := by
  rcases kt with ⟨g1, hq⟩ | ⟨pc', q, g1, n2, o, h', hrun, hq⟩
  · refine ⟨1, .inr x, _, ?_, hq⟩
    unfold sm_run
    rw [hins]
    dsimp only
    rw [if_neg (by rw [hr]; decide), hv]
    dsimp only
    rw [if_neg hk, if_pos hw, ht]
    dsimp only [sm_or]
    rw [if_pos hc]
    dsimp only
    rw [if_neg hk5, g1]
  · refine ⟨n2 + 1, o, h', ?_, hq⟩
    unfold sm_run
    rw [hins]
    dsimp only
    rw [if_neg (by rw [hr]; decide), hv]
    dsimp only
    rw [if_neg hk, if_pos hw, ht]
    dsimp only [sm_or]
    rw [if_pos hc]
    dsimp only
    rw [if_neg hk5, g1]
    dsimp only
    rw [if_pos (by unfold sm_ok2; simp)]
    exact hrun
end SMWP
