/-! ===== room falls, shapes grow ===== -/
def sm_ge (h : sm_H) (o : Option sm_P) : Prop := ∀ r, o = some r → r.2.2.2.2.2.2.1 ≤ h.2.2.2.1 ∧ r.2.2.2.2.2.2.2 ≤ h.2.2.2.2 ∧ h.1.length ≤ r.2.2.2.1.length
theorem sm_ge_none {h : sm_H} : sm_ge h none := fun _ h => by cases h
theorem sm_ge_same {h : sm_H} {pc : Nat} {L : sm_L} {S : List Value} : sm_ge h (some (pc, L, S, h)) := fun r hr => by cases hr; exact ⟨Nat.le_refl _, Nat.le_refl _, Nat.le_refl _⟩
theorem sm_ge_mem {h : sm_H} {pc : Nat} {L : sm_L} {S : List Value} {M : sm_M} {J : sm_J} : sm_ge h (some (pc, L, S, h.1, M, J, h.2.2.2)) := fun r hr => by cases hr; exact ⟨Nat.le_refl _, Nat.le_refl _, Nat.le_refl _⟩
theorem sm_ge_set {h : sm_H} {pc : Nat} {L : sm_L} {S : List Value} {q : Nat} {z : sm_S} : sm_ge h (some (pc, L, S, h.1.set q z, h.2)) := fun r hr => by cases hr; exact ⟨Nat.le_refl _, Nat.le_refl _, by simp⟩
theorem sm_ge_mk {pc : Nat} {L : sm_L} {S : List Value} {h : sm_H} {z : sm_S} {n : Nat} : sm_ge h (sm_mk pc L S h z n) := by
  intro r hr
  unfold sm_mk at hr
  split at hr
  · cases hr
    exact ⟨Nat.sub_le _ _, Nat.sub_le _ _, by simp⟩
  · cases hr
set_option maxHeartbeats 4000000 in
theorem sm_i_ge {T : sm_T} {X : Nat × (Nat → Int32)} {ok : Nat → Nat → Bool} {y : Nat} {i : Instr} {pc : Nat} {L : sm_L} {S : List Value} {h : sm_H} : sm_ge h (sm_i T X ok y i pc L S h) := by
  unfold sm_i
  split
  all_goals first
    | exact sm_ge_none
    | exact sm_ge_same
    | (unfold sm_jmp; (repeat' split); all_goals first | exact sm_ge_none | exact sm_ge_same | exact sm_ge_mem | exact sm_ge_set | exact sm_ge_mk)
    | (unfold sm_lint; (repeat' split); all_goals first | exact sm_ge_none | exact sm_ge_same | exact sm_ge_mem | exact sm_ge_set | exact sm_ge_mk)
    | (unfold sm_lref; (repeat' split); all_goals first | exact sm_ge_none | exact sm_ge_same | exact sm_ge_mem | exact sm_ge_set | exact sm_ge_mk)
    | (unfold sm_sint; (repeat' split); all_goals first | exact sm_ge_none | exact sm_ge_same | exact sm_ge_mem | exact sm_ge_set | exact sm_ge_mk)
    | (unfold sm_sref; (repeat' split); all_goals first | exact sm_ge_none | exact sm_ge_same | exact sm_ge_mem | exact sm_ge_set | exact sm_ge_mk)
    | (unfold sm_inc; (repeat' split); all_goals first | exact sm_ge_none | exact sm_ge_same | exact sm_ge_mem | exact sm_ge_set | exact sm_ge_mk)
    | (unfold sm_bin; (repeat' split); all_goals first | exact sm_ge_none | exact sm_ge_same | exact sm_ge_mem | exact sm_ge_set | exact sm_ge_mk)
    | (unfold sm_pop; (repeat' split); all_goals first | exact sm_ge_none | exact sm_ge_same | exact sm_ge_mem | exact sm_ge_set | exact sm_ge_mk)
    | (unfold sm_dup; (repeat' split); all_goals first | exact sm_ge_none | exact sm_ge_same | exact sm_ge_mem | exact sm_ge_set | exact sm_ge_mk)
    | (unfold sm_dup_x1; (repeat' split); all_goals first | exact sm_ge_none | exact sm_ge_same | exact sm_ge_mem | exact sm_ge_set | exact sm_ge_mk)
    | (unfold sm_dup_x2; (repeat' split); all_goals first | exact sm_ge_none | exact sm_ge_same | exact sm_ge_mem | exact sm_ge_set | exact sm_ge_mk)
    | (unfold sm_dup2; (repeat' split); all_goals first | exact sm_ge_none | exact sm_ge_same | exact sm_ge_mem | exact sm_ge_set | exact sm_ge_mk)
    | (unfold sm_i2l; (repeat' split); all_goals first | exact sm_ge_none | exact sm_ge_same | exact sm_ge_mem | exact sm_ge_set | exact sm_ge_mk)
    | (unfold sm_lcmp; (repeat' split); all_goals first | exact sm_ge_none | exact sm_ge_same | exact sm_ge_mem | exact sm_ge_set | exact sm_ge_mk)
    | (unfold sm_br; (repeat' split); all_goals first | exact sm_ge_none | exact sm_ge_same | exact sm_ge_mem | exact sm_ge_set | exact sm_ge_mk)
    | (unfold sm_br2; (repeat' split); all_goals first | exact sm_ge_none | exact sm_ge_same | exact sm_ge_mem | exact sm_ge_set | exact sm_ge_mk)
    | (unfold sm_tab sm_jmp; (repeat' split); all_goals first | exact sm_ge_none | exact sm_ge_same | exact sm_ge_mem | exact sm_ge_set | exact sm_ge_mk)
    | (unfold sm_get; (repeat' split); all_goals first | exact sm_ge_none | exact sm_ge_same | exact sm_ge_mem | exact sm_ge_set | exact sm_ge_mk)
    | (unfold sm_put; (repeat' split); all_goals first | exact sm_ge_none | exact sm_ge_same | exact sm_ge_mem | exact sm_ge_set | exact sm_ge_mk)
    | (unfold sm_ald; (repeat' split); all_goals first | exact sm_ge_none | exact sm_ge_same | exact sm_ge_mem | exact sm_ge_set | exact sm_ge_mk)
    | (unfold sm_ast; (repeat' split); all_goals first | exact sm_ge_none | exact sm_ge_same | exact sm_ge_mem | exact sm_ge_set | exact sm_ge_mk)
    | (unfold sm_lald; (repeat' split); all_goals first | exact sm_ge_none | exact sm_ge_same | exact sm_ge_mem | exact sm_ge_set | exact sm_ge_mk)
    | (unfold sm_last; (repeat' split); all_goals first | exact sm_ge_none | exact sm_ge_same | exact sm_ge_mem | exact sm_ge_set | exact sm_ge_mk)
    | (unfold sm_aald; (repeat' split); all_goals first | exact sm_ge_none | exact sm_ge_same | exact sm_ge_mem | exact sm_ge_set | exact sm_ge_mk)
    | (unfold sm_aast; (repeat' split); all_goals first | exact sm_ge_none | exact sm_ge_same | exact sm_ge_mem | exact sm_ge_set | exact sm_ge_mk)
    | (unfold sm_alen; (repeat' split); all_goals first | exact sm_ge_none | exact sm_ge_same | exact sm_ge_mem | exact sm_ge_set | exact sm_ge_mk)
    | (unfold sm_newa; (repeat' split); all_goals first | exact sm_ge_none | exact sm_ge_same | exact sm_ge_mem | exact sm_ge_set | exact sm_ge_mk)
    | (unfold sm_newq; (repeat' split); all_goals first | exact sm_ge_none | exact sm_ge_same | exact sm_ge_mem | exact sm_ge_set | exact sm_ge_mk)
    | (unfold sm_new; (repeat' split); all_goals first | exact sm_ge_none | exact sm_ge_same | exact sm_ge_mem | exact sm_ge_set | exact sm_ge_mk)
theorem sm_lib_ge {k pc : Nat} {L : sm_L} {S : List Value} {h : sm_H} : sm_ge h (sm_lib k pc L S h) := by
  unfold sm_lib
  (repeat' split)
  all_goals first | exact sm_ge_none | exact sm_ge_same | exact sm_ge_mem
theorem sm_or_inl {x : Option (Nat × Nat × Nat)} {d lw : Nat} {h : sm_H} {r : Option (sm_O × sm_H)} {v : Option Value} {h' : sm_H} (hr : sm_or x d lw h r = some (.inl v, h')) : x = none ∧ r = some (.inl v, h') := by
  unfold sm_or at hr
  split at hr
  · split at hr
    · cases hr
    · cases hr
  · exact ⟨rfl, hr⟩
theorem sm_or_ge {x : Option (Nat × Nat × Nat)} {d lw : Nat} {h : sm_H} {r : Option (sm_O × sm_H)} {q : sm_O × sm_H} (hr : sm_or x d lw h r = some q) (hg : r = some q → q.2.2.2.2.1 ≤ h.2.2.2.1 ∧ q.2.2.2.2.2 ≤ h.2.2.2.2 ∧ h.1.length ≤ q.2.1.length) : q.2.2.2.2.1 ≤ h.2.2.2.1 ∧ q.2.2.2.2.2 ≤ h.2.2.2.2 ∧ h.1.length ≤ q.2.1.length := by
  unfold sm_or at hr
  split at hr
  · split at hr
    · cases hr
      exact ⟨Nat.sub_le _ _, Nat.sub_le _ _, Nat.le_refl _⟩
    · cases hr
  · exact hg hr
set_option maxHeartbeats 4000000 in
theorem sm_run_ge {T : sm_T} {X : Nat × (Nat → Int32)} {ok : Nat → Nat → Bool} : ∀ (n d lw y pc : Nat) (L : sm_L) (S : List Value) (h : sm_H) (o : sm_O) (h' : sm_H), sm_run T X ok n d lw y pc L S h = some (o, h') → h'.2.2.2.1 ≤ h.2.2.2.1 ∧ h'.2.2.2.2 ≤ h.2.2.2.2 ∧ h.1.length ≤ h'.1.length := by
  intro n
  induction n with
  | zero => intro d lw y pc L S h o h' hr; cases hr
  | succ n ih =>
    intro d lw y pc L S h o h' hr
    unfold sm_run at hr
    split at hr
    · cases hr
    · next i hi =>
      split at hr
      · cases hq : sm_ret (sm_nL T y).2.1 i S with
        | none => rw [hq] at hr; cases hr
        | some v => rw [hq] at hr; cases hr; exact ⟨Nat.le_refl _, Nat.le_refl _, Nat.le_refl _⟩
      · split at hr
        · split at hr
          · next pc' L' S' h1 hs =>
            have a := sm_i_ge (T := T) (X := X) (ok := ok) (y := y) (i := i) (pc := pc) (L := L) (S := S) (h := h) _ hs
            have b := ih _ _ _ _ _ _ _ _ _ hr
            exact ⟨Nat.le_trans b.1 a.1, Nat.le_trans b.2.1 a.2.1, Nat.le_trans a.2.2 b.2.2⟩
          · cases hr
        · split at hr
          · cases hr
          · split at hr
            · split at hr
              · split at hr
                · next pc' L' S' h1 hs =>
                  have a := sm_lib_ge _ hs
                  have b := ih _ _ _ _ _ _ _ _ _ hr
                  exact ⟨Nat.le_trans b.1 a.1, Nat.le_trans b.2.1 a.2.1, Nat.le_trans a.2.2 b.2.2⟩
                · cases hr
              · cases hr
            · split at hr
              · split at hr
                · next v h1 hs =>
                  split at hr
                  · have a := sm_or_ge hs (fun hs => ih _ _ _ _ _ _ _ _ _ hs)
                    have b := ih _ _ _ _ _ _ _ _ _ hr
                    exact ⟨Nat.le_trans b.1 a.1, Nat.le_trans b.2.1 a.2.1, Nat.le_trans a.2.2 b.2.2⟩
                  · cases hr
                · next x h1 hs =>
                  have a := sm_or_ge hs (fun hs => ih _ _ _ _ _ _ _ _ _ hs)
                  split at hr
                  · cases hr
                  · split at hr
                    · cases hr
                    · cases hr
                      exact a
                    · split at hr
                      · have b := ih _ _ _ _ _ _ _ _ _ hr
                        exact ⟨Nat.le_trans b.1 a.1, Nat.le_trans b.2.1 a.2.1, Nat.le_trans a.2.2 b.2.2⟩
                      · cases hr
                · cases hr
              · cases hr
