/-! ===== the reference: replies ===== -/
def frN (M1 M : sm_M) : Prop := ∀ p j, ¬ (p = 40 ∧ (j = 26 ∨ j = 27)) → ¬ (46 ≤ p ∧ p ≤ 48 ∧ 3 ≤ j) → ¬ (p = 49 ∧ 9 ≤ j) → ¬ (p = 50 ∧ 3 ≤ j) → ¬ (51 ≤ p ∧ p ≤ 54 ∧ 36 ≤ j) → M1 p j = M p j
def frY (k : Nat) (M1 M : sm_M) : Prop := ∀ p j, ¬ (p = 40 ∧ (j = 26 ∨ j = 27)) → ¬ (46 ≤ p ∧ p ≤ 48 ∧ (3 ≤ j ∨ j = k)) → ¬ (p = 49 ∧ (9 ≤ j ∨ 3 * k ≤ j ∧ j < 3 * k + 3)) → ¬ (p = 50 ∧ (3 ≤ j ∨ j = k)) → ¬ (51 ≤ p ∧ p ≤ 54 ∧ (36 ≤ j ∨ 12 * k ≤ j ∧ j < 12 * k + 12)) → ¬ (p = 56 ∧ 3 * k ≤ j ∧ j < 3 * k + 3) → ¬ (p = 57 ∧ j = k) → M1 p j = M p j
def trR (M : sm_M) (k : Nat) (ts : List T3) (t : Int32) (l : List Nat) (M1 : sm_M) : Prop := ((∀ g2 ow2 pw2 vv2 l2, SL (M 41) (M 42) (M 43) ts.length t g2 ow2 pw2 vv2 l2 → ¬ (M 55 k = 1 ∧ (∀ j, j < 3 → M 56 (3 * k + j) ≤ nI (vv2 j)) ∧ (mg (fun w => w / 64) (fun w => ¬ w ∈ l ∧ ¬ kn (fun j => M 49 (3 * k + j)) w) l2 (mg (fun w => w / 64) (fun w => w ∈ l2 ∨ ¬ kn (fun j => nI (vv2 j)) w) l [])).length ≤ 12)) ∧ frN M1 M) ∨ (∃ g2 ow2 pw2 vv2 l2, SL (M 41) (M 42) (M 43) ts.length t g2 ow2 pw2 vv2 l2 ∧ (M 55 k = 1 ∧ (∀ j, j < 3 → M 56 (3 * k + j) ≤ nI (vv2 j)) ∧ (mg (fun w => w / 64) (fun w => ¬ w ∈ l ∧ ¬ kn (fun j => M 49 (3 * k + j)) w) l2 (mg (fun w => w / 64) (fun w => w ∈ l2 ∨ ¬ kn (fun j => nI (vv2 j)) w) l [])).length ≤ 12) ∧ re M1 k (mg (fun w => w / 64) (fun w => ¬ w ∈ l ∧ ¬ kn (fun j => M 49 (3 * k + j)) w) l2 (mg (fun w => w / 64) (fun w => w ∈ l2 ∨ ¬ kn (fun j => nI (vv2 j)) w) l [])) ∧ (∀ j, j < 3 → M1 49 (3 * k + j) = mxI (M 49 (3 * k + j)) (nI (vv2 j))) ∧ (((M 46 k < nI g2 ∨ nI g2 = M 46 k ∧ nI ow2 < M 47 k) ∧ M1 46 k = nI g2 ∧ M1 47 k = nI ow2 ∧ M1 48 k = nI pw2) ∨ (¬ (M 46 k < nI g2 ∨ nI g2 = M 46 k ∧ nI ow2 < M 47 k) ∧ M1 46 k = M 46 k ∧ M1 47 k = M 47 k ∧ M1 48 k = M 48 k)) ∧ (∀ j, j < 3 → M1 56 (3 * k + j) = nI (vv2 j)) ∧ M1 57 k = t ∧ frY k M1 M)
theorem r_reply {M : sm_M} {k : Nat} {t : Int32} {l : List Nat} {ts : List T3} (hk : k < 3) (hT : RW M ts) (hwt : wt ts) (h55 : M 55 k = 0 ∨ M 55 k = 1) (hl : re M k l) (hl12 : l.length ≤ 12) (hmk : ∀ w ∈ l, w / 2048 % 4 < 3) (hv : vt ts.length t) : cr 98 5 119 [.ref 40, .int (nI k), .int t] M (fun v M1 => v = none ∧ trR M k ts t l M1) := by
  intro X J rc rs d lw hd hw
  show sm_wp tb_T X tb_ok d lw 98 0 [some (.ref 40), some (.int (nI k)), some (.int t), none, none] [] _ _
  have hN9 : ts.length ≤ 900 := hT.2.1.2.1
  have hq := rq_W hT
  have hW := WT_tm hT.2.1 hwt
  refine go_al0 (p := 1) hf_98 rfl rfl ?_
  refine go_getr (p := 4) hf_98 ho_98 rfl fl_6_53 rfl (by first | with_reducible assumption | rfl) rfl ?_
  refine go_il1 (p := 5) hf_98 rfl rfl ?_
  refine go_bald (p := 6) hf_98 rfl rfl (by first | with_reducible assumption | rfl) (by first | rfl | with_reducible assumption) (by first | exact rfl | with_reducible assumption) (by omega) (by first | with_reducible assumption | ((repeat rewrite [up_k]) <;> first | with_reducible assumption | decide | omega) | exact rfl) ?_
  refine go_if_eq (p := 9) (p2 := 13) hf_98 rfl rfl rfl (fun h6 => ?_) (fun h6 => ?_)
  · refine go_ret0 hf_98 rfl nl_98 ?_
    exact ⟨_, _, rfl, rfl, rfl, Or.inl ⟨fun g2 ow2 pw2 vv2 l2 _ hacc => z01 h6 hacc.1, fun _ _ _ _ _ _ _ => rfl⟩⟩
  · refine go_il2 (p := 10) hf_98 rfl rfl ?_
    refine go_if_ge (p := 13) (p2 := 14) hf_98 rfl rfl rfl (fun h10 => ?_) (fun h10 => ?_)
    · refine go_al0 (p := 15) hf_98 rfl rfl ?_
      refine go_il2 (p := 16) hf_98 rfl rfl ?_
      refine go_cw2 (p := 19) hf_98 rfl rfl (inv_v ho_98 cl_6_148) (by decide) nl_99 rfl rfl (by first | rfl | exact rcv_of (by with_reducible assumption)) rfl rfl rfl (by omega) (by omega) (r_isSeal hq hW hv) ?_
      rintro v9 M2 ⟨rfl, h2, f2⟩
      have ho : M 55 k = 1 := n01 h55 h6
      have fN2 : frN M2 M := fun p j h1 h2 h3 h4 h5 => f2 p j h1 (by omega) h3 (by omega) (by omega)
      have loop : ∀ (n i : Nat), i + n = 3 → sm_wp tb_T X tb_ok d lw 98 23 [some (.ref 40), some (.int (nI k)), some (.int t), some (.int (bI ((∃ g ow pw vv l, SL (M 41) (M 42) (M 43) ts.length t g ow pw vv l) ∧ ∀ j, j < i → M2 56 (3 * k + j) ≤ M2 49 (9 + j)))), some (.int (nI i))] [] (wSH, M2, J, rc, rs) (fun o h' => ∃ v M1, o = .inl v ∧ h' = (wSH, M1, J, rc, rs) ∧ v = none ∧ trR M k ts t l M1) := by
        intro n
        induction n with
        | zero =>
          intro i hin
          have ei : i = 3 := by omega
          subst ei
          refine go_il4 (p := 25) hf_98 rfl rfl ?_
          refine go_iconst (p := 26) hf_98 rfl rfl ci_3 ?_
          first | refine go_nn_ge (p := 29) (p2 := 69) hf_98 rfl rfl rfl (by omega) (by omega) (fun h26 => ?_) (fun h26 => absurd (Nat.le_refl _) h26) | refine go_ic_ge (p := 29) (p2 := 69) hf_98 rfl rfl rfl (fun h26 => ?_) (fun h26 => absurd (Nat.le_refl _) h26)
          refine go_il3 (p := 70) hf_98 rfl rfl ?_
          refine go_if_eq (p := 73) (p2 := 81) hf_98 rfl rfl rfl (fun h70 => ?_) (fun h70 => ?_)
          · refine go_ret0 hf_98 rfl nl_98 ?_
            refine ⟨_, _, rfl, rfl, rfl, Or.inl ⟨fun g2 ow2 pw2 vv2 l2 hSL hacc => bI_0.mp h70 ⟨⟨g2, ow2, pw2, vv2, l2, hSL⟩, fun j hj => ?_⟩, fN2⟩⟩
            rw [(h2 _ _ _ _ _ hSL).2.2.2.1 j hj, f2 _ _ (by omega) (by omega) (by omega) (by omega) (by omega)]
            exact hacc.2.1 j hj
          · have hfit := bI_n0.mp h70
            obtain ⟨⟨g2, ow2, pw2, vv2, l2, hSL⟩, -⟩ := id hfit
            obtain ⟨k1, k2, k3, k4, k5, k6, k7⟩ := h2 _ _ _ _ _ hSL
            have re2 : re M2 k l := ⟨by rw [f2 _ _ (by omega) (by omega) (by omega) (by omega) (by omega)]; exact hl.1, qrow_congr hl.2 (fun p j h1 h2 h3 => f2 _ _ (by omega) (by omega) (by omega) (by omega) (by omega))⟩
            have eknr : (fun w => w ∈ l2 ∨ ¬ kn (fun j => M2 49 (9 + j)) w) = fun w => w ∈ l2 ∨ ¬ kn (fun j => nI (vv2 j)) w := by
              funext w
              apply propext
              unfold kn
              constructor
              · rintro (h | h)
                · exact Or.inl h
                · exact Or.inr (fun ⟨a, b⟩ => h ⟨a, by show _ ≤ M2 49 (9 + _); rw [k4 _ a]; exact b⟩)
              · rintro (h | h)
                · exact Or.inl h
                · exact Or.inr (fun ⟨a, b⟩ => h ⟨a, by show _ ≤ nI (vv2 _); rw [← k4 _ a]; exact b⟩)
            have e49 : (fun j => M2 49 (3 * k + j)) = fun j => M2 49 (3 * k + j) := rfl
            have e49b : (fun j => M2 49 (3 * k + j)) = (fun j => M2 49 (3 * k + j)) := rfl
            have eMG : (mg (fun w => w / 64) (fun w => ¬ w ∈ l ∧ ¬ kn (fun j => M2 49 (3 * k + j)) w) l2 (mg (fun w => w / 64) (fun w => w ∈ l2 ∨ ¬ kn (fun j => nI (vv2 j)) w) l [])) = (mg (fun w => w / 64) (fun w => ¬ w ∈ l ∧ ¬ kn (fun j => M 49 (3 * k + j)) w) l2 (mg (fun w => w / 64) (fun w => w ∈ l2 ∨ ¬ kn (fun j => nI (vv2 j)) w) l [])) := by
              have e : (fun w => ¬ w ∈ l ∧ ¬ kn (fun j => M2 49 (3 * k + j)) w) = fun w => ¬ w ∈ l ∧ ¬ kn (fun j => M 49 (3 * k + j)) w := by
                funext w
                apply propext
                unfold kn
                constructor
                · rintro ⟨a, b⟩; exact ⟨a, fun ⟨c, e⟩ => b ⟨c, by show _ ≤ M2 49 (3 * k + _); rw [f2 _ _ (by omega) (by omega) (by omega) (by omega) (by omega)]; exact e⟩⟩
                · rintro ⟨a, b⟩; exact ⟨a, fun ⟨c, e⟩ => b ⟨c, by show _ ≤ M 49 (3 * k + _); rw [← f2 _ _ (by omega) (by omega) (by omega) (by omega) (by omega)]; exact e⟩⟩
              rw [e]
            refine go_al0 (p := 74) hf_98 rfl rfl ?_
            refine go_il1 (p := 75) hf_98 rfl rfl ?_
            refine go_cw2 (p := 78) hf_98 rfl rfl (inv_v ho_98 cl_6_152) (by decide) nl_106 rfl rfl (by first | rfl | exact rcv_of (by with_reducible assumption)) rfl rfl rfl (by omega) (by omega) (r_merge hk re2 hl12 k5 k6 hmk k7) ?_
            rintro v9 M3 ⟨rfl, e3, f3⟩
            rw [eknr, eMG] at e3 ⊢
            simp only [Option.toList, List.cons_append, List.nil_append]
            refine go_if_ne (p := 81) (p2 := 82) hf_98 rfl rfl rfl (fun h78 => ?_) (fun h78 => ?_)
            · have hA12 := bI_n0.mp h78
              refine go_al0 (p := 83) hf_98 rfl rfl ?_
              refine go_il1 (p := 84) hf_98 rfl rfl ?_
              refine go_cw2 (p := 87) hf_98 rfl rfl (inv_v ho_98 cl_6_155) (by decide) nl_108 rfl rfl (by first | rfl | exact rcv_of (by with_reducible assumption)) rfl rfl rfl (by omega) (by omega) (r_adopt hk e3 hA12) ?_
              rintro v9 M4 ⟨rfl, c4, d4, n4, f4⟩
              simp only [Option.toList, List.cons_append, List.nil_append]
              refine go_al0 (p := 88) hf_98 rfl rfl ?_
              refine go_getr (p := 91) hf_98 ho_98 rfl fl_6_59 rfl (by first | with_reducible assumption | rfl) rfl ?_
              refine go_il1 (p := 92) hf_98 rfl rfl ?_
              refine go_il2 (p := 93) hf_98 rfl rfl ?_
              refine go_iast (p := 94) hf_98 rfl rfl (by first | with_reducible assumption | rfl) (by first | rfl | with_reducible assumption) (by first | exact rfl | with_reducible assumption) (by omega) ?_
              refine go_iconst (p := 95) hf_98 rfl rfl ci_0 ?_
              refine go_is4 (p := 97) hf_98 rfl rfl ?_
              have ackl : ∀ (n i : Nat) (M5 : sm_M) (y3 : Option Value), i + n = 3 → (∀ j, j < i → M5 56 (3 * k + j) = nI (vv2 j)) → (∀ p j, ¬ (p = 56 ∧ 3 * k ≤ j ∧ j < 3 * k + 3) → M5 p j = sm_up M4 57 k t p j) → sm_wp tb_T X tb_ok d lw 98 97 [some (.ref 40), some (.int (nI k)), some (.int t), y3, some (.int (nI i))] [] (wSH, M5, J, rc, rs) (fun o h' => ∃ v M1, o = .inl v ∧ h' = (wSH, M1, J, rc, rs) ∧ v = none ∧ trR M k ts t l M1) := by
                intro n
                induction n with
                | zero =>
                  intro i M5 y3 hin h56 f5
                  have ei : i = 3 := by omega
                  subst ei
                  refine go_il4 (p := 99) hf_98 rfl rfl ?_
                  refine go_iconst (p := 100) hf_98 rfl rfl ci_3 ?_
                  first | refine go_nn_ge (p := 103) (p2 := 130) hf_98 rfl rfl rfl (by omega) (by omega) (fun h100 => ?_) (fun h100 => absurd (Nat.le_refl _) h100) | refine go_ic_ge (p := 103) (p2 := 130) hf_98 rfl rfl rfl (fun h100 => ?_) (fun h100 => absurd (Nat.le_refl _) h100)
                  refine go_ret0 hf_98 rfl nl_98 ?_
                  have hSL' := hSL
                  refine ⟨_, _, rfl, rfl, rfl, Or.inr ⟨g2, ow2, pw2, vv2, l2, hSL, ⟨ho, fun j hj => ?_, hA12⟩, ?_, fun j hj => ?_, ?_, h56, ?_, fun p j h1 h2 h3 h4 h5 h6 h7 => ?_⟩⟩
                  · have := hfit.2 j hj
                    rw [k4 j hj, f2 _ _ (by omega) (by omega) (by omega) (by omega) (by omega)] at this
                    exact this
                  · refine ⟨?_, qrow_congr c4.2 (fun p j h1 h2 h3 => ?_)⟩
                    · rw [f5 _ _ (by omega), up_k (by omega)]; exact c4.1
                    · rw [f5 _ _ (by omega), up_k (by omega)]
                  · rw [f5 _ _ (by omega), up_k (by omega), d4 j hj, f3 _ _ (by omega) (by omega), f3 _ _ (by omega) (by omega), k4 j hj, f2 _ _ (by omega) (by omega) (by omega) (by omega) (by omega)]
                  · have z : ∀ p, 46 ≤ p → p ≤ 48 → M5 p k = M4 p k := fun p h1 h2 => by rw [f5 _ _ (by omega), up_k (by omega)]
                    rw [z 46 (by omega) (by omega), z 47 (by omega) (by omega), z 48 (by omega) (by omega)]
                    have y : ∀ p j, 46 ≤ p → p ≤ 48 → M3 p j = M2 p j := fun p j h1 h2 => f3 _ _ (by omega) (by omega)
                    rw [y 46 _ (by omega) (by omega), y 46 _ (by omega) (by omega), y 47 _ (by omega) (by omega), y 47 _ (by omega) (by omega), k1, k2, f2 46 k (by omega) (by omega) (by omega) (by omega) (by omega), f2 47 k (by omega) (by omega) (by omega) (by omega) (by omega)] at n4
                    rcases n4 with ⟨n4, n5⟩ | ⟨n4, n5⟩
                    · exact Or.inl ⟨n4, by rw [n5 46 (by omega) (by omega), y 46 _ (by omega) (by omega)]; exact k1, by rw [n5 47 (by omega) (by omega), y 47 _ (by omega) (by omega)]; exact k2, by rw [n5 48 (by omega) (by omega), y 48 _ (by omega) (by omega)]; exact k3⟩
                    · exact Or.inr ⟨n4, by rw [n5 46 (by omega) (by omega), y 46 _ (by omega) (by omega)]; exact f2 _ _ (by omega) (by omega) (by omega) (by omega) (by omega), by rw [n5 47 (by omega) (by omega), y 47 _ (by omega) (by omega)]; exact f2 _ _ (by omega) (by omega) (by omega) (by omega) (by omega), by rw [n5 48 (by omega) (by omega), y 48 _ (by omega) (by omega)]; exact f2 _ _ (by omega) (by omega) (by omega) (by omega) (by omega)⟩
                  · rw [f5 _ _ (by omega), up_s]
                  · rw [f5 _ _ h6, up_o (by omega), f4 _ _ (by omega) (by omega) (by omega) (by omega), f3 _ _ (by omega) (by omega)]
                    exact f2 p j h1 (by omega) (by omega) (by omega) (by omega)
                | succ n ih =>
                  intro i M5 y3 hin h56 f5
                  have e9 : M5 49 (9 + i) = nI (vv2 i) := by
                    rw [f5 _ _ (by omega), up_k (by omega), f4 _ _ (by omega) (by omega) (by omega) (by omega), f3 _ _ (by omega) (by omega)]
                    exact k4 i (by omega)
                  refine go_il4 (p := 99) hf_98 rfl rfl ?_
                  refine go_iconst (p := 100) hf_98 rfl rfl ci_3 ?_
                  first | refine go_nn_ge (p := 103) (p2 := 130) hf_98 rfl rfl rfl (by omega) (by omega) (fun h100 => absurd h100 (by omega)) (fun h100 => ?_) | refine go_ic_ge (p := 103) (p2 := 130) hf_98 rfl rfl rfl (fun h100 => absurd h100 (by omega)) (fun h100 => ?_)
                  refine go_al0 (p := 104) hf_98 rfl rfl ?_
                  refine go_getr (p := 107) hf_98 ho_98 rfl fl_6_56 rfl (by first | with_reducible assumption | rfl) rfl ?_
                  refine go_iconst (p := 108) hf_98 rfl rfl ci_3 ?_
                  refine go_il1 (p := 109) hf_98 rfl rfl ?_
                  refine go_imul (p := 110) hf_98 rfl rfl (by first | exact muln _ _ | exact rfl) ?_
                  refine go_il4 (p := 112) hf_98 rfl rfl ?_
                  refine go_iadd (p := 113) hf_98 rfl rfl (by first | with_reducible exact nI_add _ _ | exact rfl) ?_
                  refine go_al0 (p := 114) hf_98 rfl rfl ?_
                  refine go_getr (p := 117) hf_98 ho_98 rfl fl_6_35 rfl (by first | with_reducible assumption | rfl) rfl ?_
                  refine go_bipush (p := 119) hf_98 rfl rfl cb_9 ?_
                  refine go_il4 (p := 121) hf_98 rfl rfl ?_
                  refine go_iadd (p := 122) hf_98 rfl rfl (by first | with_reducible exact nI_add _ _ | exact rfl) ?_
                  refine go_iald (p := 123) hf_98 rfl rfl (by first | with_reducible assumption | rfl) (by first | rfl | with_reducible assumption) (by first | exact rfl | with_reducible assumption) (by omega) e9 ?_
                  refine go_iast (p := 124) hf_98 rfl rfl (by first | with_reducible assumption | rfl) (by first | rfl | with_reducible assumption) (by first | exact rfl | with_reducible assumption) (by omega) ?_
                  refine go_ic4 (p := 127) hf_98 rfl rfl (by first | exact inc1 _ | exact rfl) ?_
                  refine go_goto (p2 := 97) hf_98 rfl rfl ?_
                  refine ih (i + 1) _ _ (by omega) (fun j hj => ?_) (fun p j h1 => ?_)
                  · by_cases e : j = i
                    · subst e; exact up_s
                    · rw [up_i (by omega)]; exact h56 j (by omega)
                  · rw [up_o (by omega)]; exact f5 p j h1
              exact ackl 3 0 _ _ (by omega) (fun j hj => absurd hj (Nat.not_lt_zero j)) (fun _ _ _ => rfl)
            · refine go_ret0 hf_98 rfl nl_98 ?_
              refine ⟨_, _, rfl, rfl, rfl, Or.inl ⟨fun g3 ow3 pw3 vv3 l3 hSL3 hacc => ?_, fun p j h1 h2 h3 h4 h5 => by rw [f3 _ _ (by omega) (by omega)]; exact fN2 p j h1 h2 h3 h4 h5⟩⟩
              obtain ⟨-, -, -, e4, e5⟩ := SL_fun hSL3 hSL
              subst e5
              have e6 : (fun w => w ∈ l3 ∨ ¬ kn (fun j => nI (vv3 j)) w) = fun w => w ∈ l3 ∨ ¬ kn (fun j => nI (vv2 j)) w := by
                funext w
                apply propext
                unfold kn
                constructor
                · rintro (h | h)
                  · exact Or.inl h
                  · exact Or.inr (fun ⟨a, b⟩ => h ⟨a, by show _ ≤ nI (vv3 _); rw [e4 _ a]; exact b⟩)
                · rintro (h | h)
                  · exact Or.inl h
                  · exact Or.inr (fun ⟨a, b⟩ => h ⟨a, by show _ ≤ nI (vv2 _); rw [← e4 _ a]; exact b⟩)
              have hh := hacc.2.2
              rw [e6] at hh
              exact bI_0.mp h78 hh
        | succ n ih =>
          intro i hin
          have hsp : ((∃ g ow pw vv l, SL (M 41) (M 42) (M 43) ts.length t g ow pw vv l) ∧ ∀ j, j < (i + 1) → M2 56 (3 * k + j) ≤ M2 49 (9 + j)) ↔ ((∃ g ow pw vv l, SL (M 41) (M 42) (M 43) ts.length t g ow pw vv l) ∧ ∀ j, j < i → M2 56 (3 * k + j) ≤ M2 49 (9 + j)) ∧ M2 56 (3 * k + i) ≤ M2 49 (9 + i) := by
            constructor
            · rintro ⟨a, b⟩; exact ⟨⟨a, fun j hj => b j (by omega)⟩, b i (by omega)⟩
            · rintro ⟨⟨a, b⟩, c⟩
              refine ⟨a, fun j hj => ?_⟩
              by_cases e : j = i
              · subst e; exact c
              · exact b j (by omega)
          have k62 : ∀ x, x = bI ((∃ g ow pw vv l, SL (M 41) (M 42) (M 43) ts.length t g ow pw vv l) ∧ ∀ j, j < (i + 1) → M2 56 (3 * k + j) ≤ M2 49 (9 + j)) → sm_wp tb_T X tb_ok d lw 98 62 [some (.ref 40), some (.int (nI k)), some (.int t), some (.int (bI ((∃ g ow pw vv l, SL (M 41) (M 42) (M 43) ts.length t g ow pw vv l) ∧ ∀ j, j < i → M2 56 (3 * k + j) ≤ M2 49 (9 + j)))), some (.int (nI i))] [.int x] (wSH, M2, J, rc, rs) (fun o h' => ∃ v M1, o = .inl v ∧ h' = (wSH, M1, J, rc, rs) ∧ v = none ∧ trR M k ts t l M1) := by
            intro x hx
            subst hx
            refine go_is3 (p := 63) hf_98 rfl rfl ?_
            refine go_ic4 (p := 66) hf_98 rfl rfl (by first | exact inc1 _ | exact rfl) ?_
            refine go_goto (p2 := 23) hf_98 rfl rfl ?_
            exact ih (i + 1) (by omega)
          refine go_il4 (p := 25) hf_98 rfl rfl ?_
          refine go_iconst (p := 26) hf_98 rfl rfl ci_3 ?_
          first | refine go_nn_ge (p := 29) (p2 := 69) hf_98 rfl rfl rfl (by omega) (by omega) (fun h26 => absurd h26 (by omega)) (fun h26 => ?_) | refine go_ic_ge (p := 29) (p2 := 69) hf_98 rfl rfl rfl (fun h26 => absurd h26 (by omega)) (fun h26 => ?_)
          refine go_il3 (p := 30) hf_98 rfl rfl ?_
          refine go_if_eq (p := 33) (p2 := 61) hf_98 rfl rfl rfl (fun h30 => ?_) (fun h30 => ?_)
          · refine go_iconst (p := 62) hf_98 rfl rfl ci_0 ?_
            exact k62 _ (bI_f (fun h => bI_0.mp h30 (hsp.mp h).1)).symm
          · refine go_al0 (p := 34) hf_98 rfl rfl ?_
            refine go_getr (p := 37) hf_98 ho_98 rfl fl_6_35 rfl (by first | with_reducible assumption | rfl) rfl ?_
            refine go_bipush (p := 39) hf_98 rfl rfl cb_9 ?_
            refine go_il4 (p := 41) hf_98 rfl rfl ?_
            refine go_iadd (p := 42) hf_98 rfl rfl (by first | with_reducible exact nI_add _ _ | exact rfl) ?_
            refine go_iald (p := 43) hf_98 rfl rfl (by first | with_reducible assumption | rfl) (by first | rfl | with_reducible assumption) (by first | exact rfl | with_reducible assumption) (by omega) (by first | with_reducible assumption | ((repeat rewrite [up_k]) <;> first | with_reducible assumption | decide | omega) | exact rfl) ?_
            refine go_al0 (p := 44) hf_98 rfl rfl ?_
            refine go_getr (p := 47) hf_98 ho_98 rfl fl_6_56 rfl (by first | with_reducible assumption | rfl) rfl ?_
            refine go_iconst (p := 48) hf_98 rfl rfl ci_3 ?_
            refine go_il1 (p := 49) hf_98 rfl rfl ?_
            refine go_imul (p := 50) hf_98 rfl rfl (by first | exact muln _ _ | exact rfl) ?_
            refine go_il4 (p := 52) hf_98 rfl rfl ?_
            refine go_iadd (p := 53) hf_98 rfl rfl (by first | with_reducible exact nI_add _ _ | exact rfl) ?_
            refine go_iald (p := 54) hf_98 rfl rfl (by first | with_reducible assumption | rfl) (by first | rfl | with_reducible assumption) (by first | exact rfl | with_reducible assumption) (by omega) (by first | with_reducible assumption | ((repeat rewrite [up_k]) <;> first | with_reducible assumption | decide | omega) | exact rfl) ?_
            refine go_ic_lt (p := 57) (p2 := 61) hf_98 rfl rfl rfl (fun h54 => ?_) (fun h54 => ?_)
            · refine go_iconst (p := 62) hf_98 rfl rfl ci_0 ?_
              exact k62 _ (bI_f (fun h => i32_nlt.mpr (hsp.mp h).2 h54)).symm
            · refine go_iconst (p := 58) hf_98 rfl rfl ci_1 ?_
              refine go_goto (p2 := 62) hf_98 rfl rfl ?_
              exact k62 _ (bI_t (hsp.mpr ⟨bI_n0.mp h30, i32_nlt.mp h54⟩)).symm
      simp only [Option.toList, List.cons_append, List.nil_append]
      refine go_is3 (p := 20) hf_98 rfl rfl ?_
      refine go_iconst (p := 21) hf_98 rfl rfl ci_0 ?_
      refine go_is4 (p := 23) hf_98 rfl rfl ?_
      have e0 : bI (∃ g ow pw vv l, SL (M 41) (M 42) (M 43) ts.length t g ow pw vv l) = bI ((∃ g ow pw vv l, SL (M 41) (M 42) (M 43) ts.length t g ow pw vv l) ∧ ∀ j, j < 0 → M2 56 (3 * k + j) ≤ M2 49 (9 + j)) := bI_congr ⟨fun h => ⟨h, fun j hj => absurd hj (Nat.not_lt_zero j)⟩, fun h => h.1⟩
      rw [e0]
      exact loop 3 0 (by omega)
    · refine go_ret0 hf_98 rfl nl_98 ?_
      refine ⟨_, _, rfl, rfl, rfl, Or.inl ⟨fun g2 ow2 pw2 vv2 l2 hSL _ => ?_, fun _ _ _ _ _ _ _ => rfl⟩⟩
      rcases hv with rfl | ⟨j, hj, rfl⟩
      · have e := hSL.1
        have e1 : tailF (M 41) (M 43) ts.length 1 (-1) = -1 := tail_f (by rw [rd_m1]; decide)
        rw [e1, rd_m1] at e
        exact absurd e.symm (nI_m1 (by omega))
      · exact h10 (i32_nlt.mp (nI_pos (by omega)))
theorem r_deliver0 {M : sm_M} {a0 : Int32} {ms : List (Int32 × Int32 × Int32 × Int32)} (hm : ml (M 40 20) (M 58) (M 59) (M 60) (M 61) ms) (hbad : ¬ (∃ i, i < ms.length ∧ a0 = nI i)) : cr 96 0 0 [.ref 40, .int a0] M (fun v M1 => v = some (.int (nI 0)) ∧ M1 = (sm_up M 40 0 (nI 0))) := by
  intro X J rc rs d lw hd hw
  show sm_wp tb_T X tb_ok d lw 96 0 [some (.ref 40), some (.int a0), none, none, none, none, none] [] _ _
  have h12 := hm.2.1
  refine go_al0 (p := 1) hf_96 rfl rfl ?_
  refine go_iconst (p := 2) hf_96 rfl rfl ci_0 ?_
  refine go_put (p := 5) hf_96 ho_96 rfl fl_6_78 rfl (by first | with_reducible assumption | rfl) rfl (Or.inl rfl) ?_
  refine go_il1 (p := 6) hf_96 rfl rfl ?_
  refine go_if_lt (p := 9) (p2 := 17) hf_96 rfl rfl rfl (fun h6 => ?_) (fun h6 => ?_)
  · refine go_iconst (p := 18) hf_96 rfl rfl ci_0 ?_
    refine go_ret2 hf_96 rfl nl_96 (by first | exact Or.inl rfl | exact Or.inr rfl | with_reducible assumption) ?_
    exact ⟨_, _, rfl, rfl, rfl, rfl⟩
  · refine go_il1 (p := 10) hf_96 rfl rfl ?_
    refine go_al0 (p := 11) hf_96 rfl rfl ?_
    refine go_get (p := 14) hf_96 ho_96 rfl fl_6_145 rfl (by first | with_reducible assumption | rfl) rfl ((up_i (by omega)).trans hm.1) ?_
    refine go_ic_lt (p := 17) (p2 := 19) hf_96 rfl rfl rfl (fun h14 => absurd ((below_iff (by omega)).mp ⟨h6, h14⟩) hbad) (fun h14 => ?_)
    refine go_iconst (p := 18) hf_96 rfl rfl ci_0 ?_
    refine go_ret2 hf_96 rfl nl_96 (by first | exact Or.inl rfl | exact Or.inr rfl | with_reducible assumption) ?_
    exact ⟨_, _, rfl, rfl, rfl, rfl⟩
theorem r_deliverR {M : sm_M} {k i : Nat} {b t : Int32} {l : List Nat} {ts : List T3} {ms : List (Int32 × Int32 × Int32 × Int32)} (hk : k < 3) (hm : ml (M 40 20) (M 58) (M 59) (M 60) (M 61) ms) (hi : ms[i]? = some (nI 2, nI k, b, t)) (hT : RW M ts) (hwt : wt ts) (h55 : M 55 k = 0 ∨ M 55 k = 1) (hl : re M k l) (hl12 : l.length ≤ 12) (hmk : ∀ w ∈ l, w / 2048 % 4 < 3) (hv : vt ts.length t) : cr 96 6 143 [.ref 40, .int (nI i)] M (fun v M1 => v = some (.int (nI 1)) ∧ ∃ M2 : sm_M, ml (M2 40 20) (M2 58) (M2 59) (M2 60) (M2 61) (ms.eraseIdx i) ∧ M2 40 0 = nI 0 ∧ (∀ p j, ¬ (p = 40 ∧ (j = 0 ∨ j = 20)) → (p < 58 ∨ 61 < p) → M2 p j = M p j) ∧ trR M2 k ts t l M1) := by
  intro X J rc rs d lw hd hw
  show sm_wp tb_T X tb_ok d lw 96 0 [some (.ref 40), some (.int (nI i)), none, none, none, none, none] [] _ _
  have h12 := hm.2.1
  have hil : i < ms.length := (List.getElem?_eq_some_iff.mp hi).1
  obtain ⟨z1, z2, z3, z4⟩ := hm.2.2 i _ hi
  refine go_al0 (p := 1) hf_96 rfl rfl ?_
  refine go_iconst (p := 2) hf_96 rfl rfl ci_0 ?_
  refine go_put (p := 5) hf_96 ho_96 rfl fl_6_78 rfl (by first | with_reducible assumption | rfl) rfl (Or.inl rfl) ?_
  refine go_il1 (p := 6) hf_96 rfl rfl ?_
  refine go_if_lt (p := 9) (p2 := 17) hf_96 rfl rfl rfl (fun h6 => absurd h6 (nI_pos (by omega))) (fun h6 => ?_)
  refine go_il1 (p := 10) hf_96 rfl rfl ?_
  refine go_al0 (p := 11) hf_96 rfl rfl ?_
  refine go_get (p := 14) hf_96 ho_96 rfl fl_6_145 rfl (by first | with_reducible assumption | rfl) rfl ((up_i (by omega)).trans hm.1) ?_
  first | refine go_nn_lt (p := 17) (p2 := 19) hf_96 rfl rfl rfl (by omega) (by omega) (fun h14 => ?_) (fun h14 => absurd hil h14) | refine go_ic_lt (p := 17) (p2 := 19) hf_96 rfl rfl rfl (fun h14 => ?_) (fun h14 => absurd hil h14)
  refine go_al0 (p := 20) hf_96 rfl rfl ?_
  refine go_getr (p := 23) hf_96 ho_96 rfl fl_6_62 rfl (by first | with_reducible assumption | rfl) rfl ?_
  refine go_il1 (p := 24) hf_96 rfl rfl ?_
  refine go_iald (p := 25) hf_96 rfl rfl (by first | with_reducible assumption | rfl) (by first | rfl | with_reducible assumption) (by first | exact rfl | with_reducible assumption) (by omega) ((up_k (by omega)).trans z1) ?_
  refine go_is2 (p := 26) hf_96 rfl rfl ?_
  refine go_al0 (p := 27) hf_96 rfl rfl ?_
  refine go_getr (p := 30) hf_96 ho_96 rfl fl_6_65 rfl (by first | with_reducible assumption | rfl) rfl ?_
  refine go_il1 (p := 31) hf_96 rfl rfl ?_
  refine go_iald (p := 32) hf_96 rfl rfl (by first | with_reducible assumption | rfl) (by first | rfl | with_reducible assumption) (by first | exact rfl | with_reducible assumption) (by omega) ((up_k (by omega)).trans z2) ?_
  refine go_is3 (p := 33) hf_96 rfl rfl ?_
  refine go_al0 (p := 34) hf_96 rfl rfl ?_
  refine go_getr (p := 37) hf_96 ho_96 rfl fl_6_68 rfl (by first | with_reducible assumption | rfl) rfl ?_
  refine go_il1 (p := 38) hf_96 rfl rfl ?_
  refine go_iald (p := 39) hf_96 rfl rfl (by first | with_reducible assumption | rfl) (by first | rfl | with_reducible assumption) (by first | exact rfl | with_reducible assumption) (by omega) ((up_k (by omega)).trans z3) ?_
  refine go_is4 (p := 41) hf_96 rfl rfl ?_
  refine go_al0 (p := 42) hf_96 rfl rfl ?_
  refine go_getr (p := 45) hf_96 ho_96 rfl fl_6_71 rfl (by first | with_reducible assumption | rfl) rfl ?_
  refine go_il1 (p := 46) hf_96 rfl rfl ?_
  refine go_iald (p := 47) hf_96 rfl rfl (by first | with_reducible assumption | rfl) (by first | rfl | with_reducible assumption) (by first | exact rfl | with_reducible assumption) (by omega) ((up_k (by omega)).trans z4) ?_
  refine go_is5 (p := 49) hf_96 rfl rfl ?_
  refine go_al0 (p := 50) hf_96 rfl rfl ?_
  refine go_il1 (p := 51) hf_96 rfl rfl ?_
  refine go_cw2 (p := 54) hf_96 rfl rfl (inv_v ho_96 cl_6_182) (by decide) nl_97 rfl rfl (by first | rfl | exact rcv_of (by with_reducible assumption)) rfl rfl rfl (by omega) (by omega) (r_remove (M := (sm_up M 40 0 (nI 0))) (ms := ms) (by rw [up_i (by omega), upf (by omega), upf (by omega), upf (by omega), upf (by omega)]; exact hm) hil) ?_
  rintro v9 M2 ⟨rfl, e2, f2⟩
  have F2 : ∀ p j, ¬ (p = 40 ∧ (j = 0 ∨ j = 20)) → (p < 58 ∨ 61 < p) → M2 p j = M p j := fun p j h1 h2 => by rw [f2 p j (by omega) h2]; exact up_o (by omega)
  have e20 : M2 40 0 = nI 0 := by rw [f2 _ _ (by omega) (by omega)]; exact up_s
  have T2 : RW M2 ts := RW_keep hT (F2 _ _ (by omega) (by omega)) (F2 _ _ (by omega) (by omega)) (fun p h1 h2 => funext fun j => F2 _ _ (by omega) (by omega))
  simp only [Option.toList, List.cons_append, List.nil_append]
  refine go_il2 (p := 55) hf_96 rfl rfl ?_
  refine go_iconst (p := 56) hf_96 rfl rfl ci_2 ?_
  refine go_ic_ne (p := 59) (p2 := 68) hf_96 rfl rfl rfl (fun h56 => absurd rfl h56) (fun h56 => ?_)
  refine go_al0 (p := 60) hf_96 rfl rfl ?_
  refine go_il3 (p := 61) hf_96 rfl rfl ?_
  refine go_il5 (p := 63) hf_96 rfl rfl ?_
  refine go_cw3 (p := 66) hf_96 rfl rfl (inv_v ho_96 cl_6_185) (by decide) nl_98 rfl rfl (by first | rfl | exact rcv_of (by with_reducible assumption)) rfl rfl rfl (by omega) (by omega) (r_reply (l := l) hk T2 hwt (by rw [F2 _ _ (by omega) (by omega)]; exact h55) ⟨by rw [F2 _ _ (by omega) (by omega)]; exact hl.1, qrow_congr hl.2 (fun p j h1 h2 h3 => F2 _ _ (by omega) (by omega))⟩ hl12 hmk hv) ?_
  rintro v9 M3 ⟨rfl, h9⟩
  simp only [Option.toList, List.cons_append, List.nil_append]
  refine go_iconst (p := 67) hf_96 rfl rfl ci_1 ?_
  refine go_ret2 hf_96 rfl nl_96 (by first | exact Or.inl rfl | exact Or.inr rfl | with_reducible assumption) ?_
  exact ⟨_, _, rfl, rfl, rfl, M2, e2, e20, F2, h9⟩
theorem r_deliverS {M : sm_M} {i : Nat} {kd a b t : Int32} {ts : List T3} {ms : List (Int32 × Int32 × Int32 × Int32)} (hm : ml (M 40 20) (M 58) (M 59) (M 60) (M 61) ms) (hi : ms[i]? = some (kd, a, b, t)) (hkd : ¬ kd = nI 2) (hT : RW M ts) (hv : vt ts.length t) (hvh : vt ts.length (M 40 25)) : cr 96 1 24 [.ref 40, .int (nI i)] M (fun v M1 => v = some (.int (nI 1)) ∧ RW M1 ts ∧ (∀ j, j < ts.length → M1 44 j = if hdN kd b t (M 40 25) = nI j then nI 1 else M 44 j) ∧ ml (M1 40 20) (M1 58) (M1 59) (M1 60) (M1 61) (if (ms.eraseIdx i).length < 12 then ms.eraseIdx i ++ [(nI 2, a, -1, hdN kd b t (M 40 25))] else ms.eraseIdx i) ∧ M1 40 25 = hdN kd b t (M 40 25) ∧ M1 40 0 = nI 0 ∧ ∀ p j, ¬ (p = 40 ∧ (j = 0 ∨ j = 20 ∨ j = 25)) → p ≠ 44 → (p < 58 ∨ 61 < p) → M1 p j = M p j) := by
  intro X J rc rs d lw hd hw
  show sm_wp tb_T X tb_ok d lw 96 0 [some (.ref 40), some (.int (nI i)), none, none, none, none, none] [] _ _
  have h12 := hm.2.1
  have hil : i < ms.length := (List.getElem?_eq_some_iff.mp hi).1
  obtain ⟨z1, z2, z3, z4⟩ := hm.2.2 i _ hi
  have hN9 : ts.length ≤ 900 := hT.2.1.2.1
  refine go_al0 (p := 1) hf_96 rfl rfl ?_
  refine go_iconst (p := 2) hf_96 rfl rfl ci_0 ?_
  refine go_put (p := 5) hf_96 ho_96 rfl fl_6_78 rfl (by first | with_reducible assumption | rfl) rfl (Or.inl rfl) ?_
  refine go_il1 (p := 6) hf_96 rfl rfl ?_
  refine go_if_lt (p := 9) (p2 := 17) hf_96 rfl rfl rfl (fun h6 => absurd h6 (nI_pos (by omega))) (fun h6 => ?_)
  refine go_il1 (p := 10) hf_96 rfl rfl ?_
  refine go_al0 (p := 11) hf_96 rfl rfl ?_
  refine go_get (p := 14) hf_96 ho_96 rfl fl_6_145 rfl (by first | with_reducible assumption | rfl) rfl ((up_i (by omega)).trans hm.1) ?_
  first | refine go_nn_lt (p := 17) (p2 := 19) hf_96 rfl rfl rfl (by omega) (by omega) (fun h14 => ?_) (fun h14 => absurd hil h14) | refine go_ic_lt (p := 17) (p2 := 19) hf_96 rfl rfl rfl (fun h14 => ?_) (fun h14 => absurd hil h14)
  refine go_al0 (p := 20) hf_96 rfl rfl ?_
  refine go_getr (p := 23) hf_96 ho_96 rfl fl_6_62 rfl (by first | with_reducible assumption | rfl) rfl ?_
  refine go_il1 (p := 24) hf_96 rfl rfl ?_
  refine go_iald (p := 25) hf_96 rfl rfl (by first | with_reducible assumption | rfl) (by first | rfl | with_reducible assumption) (by first | exact rfl | with_reducible assumption) (by omega) ((up_k (by omega)).trans z1) ?_
  refine go_is2 (p := 26) hf_96 rfl rfl ?_
  refine go_al0 (p := 27) hf_96 rfl rfl ?_
  refine go_getr (p := 30) hf_96 ho_96 rfl fl_6_65 rfl (by first | with_reducible assumption | rfl) rfl ?_
  refine go_il1 (p := 31) hf_96 rfl rfl ?_
  refine go_iald (p := 32) hf_96 rfl rfl (by first | with_reducible assumption | rfl) (by first | rfl | with_reducible assumption) (by first | exact rfl | with_reducible assumption) (by omega) ((up_k (by omega)).trans z2) ?_
  refine go_is3 (p := 33) hf_96 rfl rfl ?_
  refine go_al0 (p := 34) hf_96 rfl rfl ?_
  refine go_getr (p := 37) hf_96 ho_96 rfl fl_6_68 rfl (by first | with_reducible assumption | rfl) rfl ?_
  refine go_il1 (p := 38) hf_96 rfl rfl ?_
  refine go_iald (p := 39) hf_96 rfl rfl (by first | with_reducible assumption | rfl) (by first | rfl | with_reducible assumption) (by first | exact rfl | with_reducible assumption) (by omega) ((up_k (by omega)).trans z3) ?_
  refine go_is4 (p := 41) hf_96 rfl rfl ?_
  refine go_al0 (p := 42) hf_96 rfl rfl ?_
  refine go_getr (p := 45) hf_96 ho_96 rfl fl_6_71 rfl (by first | with_reducible assumption | rfl) rfl ?_
  refine go_il1 (p := 46) hf_96 rfl rfl ?_
  refine go_iald (p := 47) hf_96 rfl rfl (by first | with_reducible assumption | rfl) (by first | rfl | with_reducible assumption) (by first | exact rfl | with_reducible assumption) (by omega) ((up_k (by omega)).trans z4) ?_
  refine go_is5 (p := 49) hf_96 rfl rfl ?_
  refine go_al0 (p := 50) hf_96 rfl rfl ?_
  refine go_il1 (p := 51) hf_96 rfl rfl ?_
  refine go_cw2 (p := 54) hf_96 rfl rfl (inv_v ho_96 cl_6_182) (by decide) nl_97 rfl rfl (by first | rfl | exact rcv_of (by with_reducible assumption)) rfl rfl rfl (by omega) (by omega) (r_remove (M := (sm_up M 40 0 (nI 0))) (ms := ms) (by rw [up_i (by omega), upf (by omega), upf (by omega), upf (by omega), upf (by omega)]; exact hm) hil) ?_
  rintro v9 M2 ⟨rfl, e2, f2⟩
  have F2 : ∀ p j, ¬ (p = 40 ∧ (j = 0 ∨ j = 20)) → (p < 58 ∨ 61 < p) → M2 p j = M p j := fun p j h1 h2 => by rw [f2 p j (by omega) h2]; exact up_o (by omega)
  have e20 : M2 40 0 = nI 0 := by rw [f2 _ _ (by omega) (by omega)]; exact up_s
  have T2 : RW M2 ts := RW_keep hT (F2 _ _ (by omega) (by omega)) (F2 _ _ (by omega) (by omega)) (fun p h1 h2 => funext fun j => F2 _ _ (by omega) (by omega))
  simp only [Option.toList, List.cons_append, List.nil_append]
  refine go_il2 (p := 55) hf_96 rfl rfl ?_
  refine go_iconst (p := 56) hf_96 rfl rfl ci_2 ?_
  refine go_ic_ne (p := 59) (p2 := 68) hf_96 rfl rfl rfl (fun h56 => ?_) (fun h56 => absurd h56 hkd)
  refine go_il2 (p := 69) hf_96 rfl rfl ?_
  refine go_iconst (p := 70) hf_96 rfl rfl ci_1 ?_
  refine go_ic_ne (p := 73) (p2 := 88) hf_96 rfl rfl rfl (fun h70 => ?_) (fun h70 => ?_)
  · refine go_al0 (p := 89) hf_96 rfl rfl ?_
    refine go_iconst (p := 90) hf_96 rfl rfl ci_2 ?_
    refine go_il3 (p := 91) hf_96 rfl rfl ?_
    refine go_iconst (p := 92) hf_96 rfl rfl ci_m1 ?_
    refine go_al0 (p := 93) hf_96 rfl rfl ?_
    refine go_get (p := 96) hf_96 ho_96 rfl fl_6_74 rfl (by first | with_reducible assumption | rfl) rfl (by first | with_reducible assumption | ((repeat rewrite [up_k]) <;> first | with_reducible assumption | decide | omega) | exact rfl) ?_
    refine go_cw5 (p := 99) hf_96 rfl rfl (inv_v ho_96 cl_6_169) (by decide) nl_88 rfl rfl (by first | rfl | exact rcv_of (by with_reducible assumption)) rfl rfl rfl (by omega) (by omega) (r_send (M := M2) (N := ts.length) (ms := ms.eraseIdx i) hT.2.1.2.1 e2 (Or.inl rfl) (by rw [F2 _ _ (by omega) (by omega)]; exact hvh)) ?_
    rintro v9 M9 ⟨rfl, e9, g9, f9⟩
    simp only [Option.toList, List.cons_append, List.nil_append]
    refine go_is6 (p := 101) hf_96 rfl rfl ?_
    refine go_iconst (p := 102) hf_96 rfl rfl ci_1 ?_
    refine go_ret2 hf_96 rfl nl_96 (by first | exact Or.inl rfl | exact Or.inr rfl | with_reducible assumption) ?_
    have eh : hdN kd b t (M 40 25) = M 40 25 := if_neg (fun g => h70 g.1)
    rw [eh]
    rw [F2 _ _ (by omega) (by omega)] at e9 g9
    refine ⟨_, _, rfl, rfl, rfl, RW_keep T2 (f9 _ _ (by omega) (by omega) (by omega)) (f9 _ _ (by omega) (by omega) (by omega)) (fun p h1 h2 => funext fun j => f9 _ _ (by omega) (by omega) (by omega)), fun j hj => ?_, e9, ?_, ?_, fun p j h1 h2 h3 => ?_⟩
    · rw [g9 j hj, F2 _ _ (by omega) (by omega)]
      by_cases e : M 40 25 = nI j
      · rw [if_pos (Or.inr e), if_pos e]
      · rw [if_neg (fun q => q.elim (fun q => absurd q.symm (nI_m1 (by omega))) e), if_neg e]
    · rw [f9 _ _ (by omega) (by omega) (by omega), F2 _ _ (by omega) (by omega)]
    · rw [f9 _ _ (by omega) (by omega) (by omega)]; exact e20
    · rw [f9 _ _ (by omega) h2 h3, F2 _ _ (by omega) h3]
  · refine go_al0 (p := 74) hf_96 rfl rfl ?_
    refine go_get (p := 77) hf_96 ho_96 rfl fl_6_74 rfl (by first | with_reducible assumption | rfl) rfl (F2 _ _ (by omega) (by omega)) ?_
    refine go_il4 (p := 79) hf_96 rfl rfl ?_
    refine go_ic_ne (p := 82) (p2 := 88) hf_96 rfl rfl rfl (fun h79 => ?_) (fun h79 => ?_)
    · refine go_al0 (p := 89) hf_96 rfl rfl ?_
      refine go_iconst (p := 90) hf_96 rfl rfl ci_2 ?_
      refine go_il3 (p := 91) hf_96 rfl rfl ?_
      refine go_iconst (p := 92) hf_96 rfl rfl ci_m1 ?_
      refine go_al0 (p := 93) hf_96 rfl rfl ?_
      refine go_get (p := 96) hf_96 ho_96 rfl fl_6_74 rfl (by first | with_reducible assumption | rfl) rfl (by first | with_reducible assumption | ((repeat rewrite [up_k]) <;> first | with_reducible assumption | decide | omega) | exact rfl) ?_
      refine go_cw5 (p := 99) hf_96 rfl rfl (inv_v ho_96 cl_6_169) (by decide) nl_88 rfl rfl (by first | rfl | exact rcv_of (by with_reducible assumption)) rfl rfl rfl (by omega) (by omega) (r_send (M := M2) (N := ts.length) (ms := ms.eraseIdx i) hT.2.1.2.1 e2 (Or.inl rfl) (by rw [F2 _ _ (by omega) (by omega)]; exact hvh)) ?_
      rintro v9 M9 ⟨rfl, e9, g9, f9⟩
      simp only [Option.toList, List.cons_append, List.nil_append]
      refine go_is6 (p := 101) hf_96 rfl rfl ?_
      refine go_iconst (p := 102) hf_96 rfl rfl ci_1 ?_
      refine go_ret2 hf_96 rfl nl_96 (by first | exact Or.inl rfl | exact Or.inr rfl | with_reducible assumption) ?_
      have eh : hdN kd b t (M 40 25) = M 40 25 := if_neg (fun g => h79 g.2.symm)
      rw [eh]
      rw [F2 _ _ (by omega) (by omega)] at e9 g9
      refine ⟨_, _, rfl, rfl, rfl, RW_keep T2 (f9 _ _ (by omega) (by omega) (by omega)) (f9 _ _ (by omega) (by omega) (by omega)) (fun p h1 h2 => funext fun j => f9 _ _ (by omega) (by omega) (by omega)), fun j hj => ?_, e9, ?_, ?_, fun p j h1 h2 h3 => ?_⟩
      · rw [g9 j hj, F2 _ _ (by omega) (by omega)]
        by_cases e : M 40 25 = nI j
        · rw [if_pos (Or.inr e), if_pos e]
        · rw [if_neg (fun q => q.elim (fun q => absurd q.symm (nI_m1 (by omega))) e), if_neg e]
      · rw [f9 _ _ (by omega) (by omega) (by omega), F2 _ _ (by omega) (by omega)]
      · rw [f9 _ _ (by omega) (by omega) (by omega)]; exact e20
      · rw [f9 _ _ (by omega) h2 h3, F2 _ _ (by omega) h3]
    · refine go_al0 (p := 83) hf_96 rfl rfl ?_
      refine go_il5 (p := 85) hf_96 rfl rfl ?_
      refine go_put (p := 88) hf_96 ho_96 rfl fl_6_74 rfl (by first | with_reducible assumption | rfl) rfl (Or.inl rfl) ?_
      refine go_al0 (p := 89) hf_96 rfl rfl ?_
      refine go_iconst (p := 90) hf_96 rfl rfl ci_2 ?_
      refine go_il3 (p := 91) hf_96 rfl rfl ?_
      refine go_iconst (p := 92) hf_96 rfl rfl ci_m1 ?_
      refine go_al0 (p := 93) hf_96 rfl rfl ?_
      refine go_get (p := 96) hf_96 ho_96 rfl fl_6_74 rfl (by first | with_reducible assumption | rfl) rfl (by first | with_reducible assumption | ((repeat rewrite [up_k]) <;> first | with_reducible assumption | decide | omega) | exact rfl) ?_
      refine go_cw5 (p := 99) hf_96 rfl rfl (inv_v ho_96 cl_6_169) (by decide) nl_88 rfl rfl (by first | rfl | exact rcv_of (by with_reducible assumption)) rfl rfl rfl (by omega) (by omega) (r_send (M := sm_up M2 40 25 t) (N := ts.length) (ms := ms.eraseIdx i) hT.2.1.2.1 (by rw [up_i (by omega), upf (by omega), upf (by omega), upf (by omega), upf (by omega)]; exact e2) (Or.inl rfl) (by rw [up_s]; exact hv)) ?_
      rintro v9 M9 ⟨rfl, e9, g9, f9⟩
      simp only [Option.toList, List.cons_append, List.nil_append]
      refine go_is6 (p := 101) hf_96 rfl rfl ?_
      refine go_iconst (p := 102) hf_96 rfl rfl ci_1 ?_
      refine go_ret2 hf_96 rfl nl_96 (by first | exact Or.inl rfl | exact Or.inr rfl | with_reducible assumption) ?_
      have eh : hdN kd b t (M 40 25) = t := if_pos ⟨h70, h79.symm⟩
      rw [eh]
      rw [up_s] at e9 g9
      refine ⟨_, _, rfl, rfl, rfl, RW_keep T2 ((f9 _ _ (by omega) (by omega) (by omega)).trans (up_i (by omega))) ((f9 _ _ (by omega) (by omega) (by omega)).trans (up_i (by omega))) (fun p h1 h2 => funext fun j => (f9 _ _ (by omega) (by omega) (by omega)).trans (up_k (by omega))), fun j hj => ?_, e9, ?_, ?_, fun p j h1 h2 h3 => ?_⟩
      · rw [g9 j hj, up_k (by omega), F2 _ _ (by omega) (by omega)]
        by_cases e : t = nI j
        · rw [if_pos (Or.inr e), if_pos e]
        · rw [if_neg (fun q => q.elim (fun q => absurd q.symm (nI_m1 (by omega))) e), if_neg e]
      · rw [f9 _ _ (by omega) (by omega) (by omega), up_s]
      · rw [f9 _ _ (by omega) (by omega) (by omega), up_i (by omega)]; exact e20
      · rw [f9 _ _ (by omega) h2 h3, up_o (by omega), F2 _ _ (by omega) h3]
theorem r_device0 {M : sm_M} {a0 a1 : Int32} (hbad : ¬ ∃ n, n < 3 ∧ a0 = nI n) : cr 123 1 20 [.ref 40, .int a0, .int a1] M (fun v M1 => v = some (.int (-1)) ∧ M1 = (sm_up M 40 0 (nI 0))) := by
  intro X J rc rs d lw hd hw
  show sm_wp tb_T X tb_ok d lw 123 0 [some (.ref 40), some (.int a0), some (.int a1)] [] _ _
  refine go_al0 (p := 1) hf_123 rfl rfl ?_
  refine go_iconst (p := 2) hf_123 rfl rfl ci_0 ?_
  refine go_put (p := 5) hf_123 ho_123 rfl fl_6_78 rfl (by first | with_reducible assumption | rfl) rfl (Or.inl rfl) ?_
  refine go_il1 (p := 6) hf_123 rfl rfl ?_
  refine go_cw1 (p := 9) hf_123 rfl rfl (inv_s ho_123 cl_6_158) (by decide) nl_75 rfl rfl rfl rfl rfl rfl (by omega) (by omega) (c_isDevice) ?_
  intro v9 M9 h9
  rewrite [h9.1, h9.2]
  clear h9 v9 M9
  simp only [Option.toList, List.cons_append, List.nil_append]
  refine go_if_ne (p := 12) (p2 := 14) hf_123 rfl rfl rfl (fun h9 => absurd ((below_iff (by omega)).mp (bI_n0.mp h9)) hbad) (fun h9 => ?_)
  refine go_iconst (p := 13) hf_123 rfl rfl ci_m1 ?_
  refine go_ret1 hf_123 rfl nl_123 ?_
  exact ⟨_, _, rfl, rfl, rfl, rfl⟩
theorem r_device {M : sm_M} {k : Nat} {a1 : Int32} (hk : k < 3) (h55 : M 55 k = 0 ∨ M 55 k = 1) : cr 123 1 20 [.ref 40, .int (nI k), .int a1] M (fun v M1 => v = some (.int (sw11 a1 (bI (M 55 k = 0)) (M 49 (3 * k)) (M 49 (3 * k + 1)) (M 49 (3 * k + 2)) (M 56 (3 * k)) (M 56 (3 * k + 1)) (M 56 (3 * k + 2)) (M 46 k) (M 47 k) (M 50 k) (M 57 k))) ∧ M1 = (sm_up M 40 0 (nI 0))) := by
  intro X J rc rs d lw hd hw
  show sm_wp tb_T X tb_ok d lw 123 0 [some (.ref 40), some (.int (nI k)), some (.int a1)] [] _ _
  refine go_al0 (p := 1) hf_123 rfl rfl ?_
  refine go_iconst (p := 2) hf_123 rfl rfl ci_0 ?_
  refine go_put (p := 5) hf_123 ho_123 rfl fl_6_78 rfl (by first | with_reducible assumption | rfl) rfl (Or.inl rfl) ?_
  refine go_il1 (p := 6) hf_123 rfl rfl ?_
  refine go_cw1 (p := 9) hf_123 rfl rfl (inv_s ho_123 cl_6_158) (by decide) nl_75 rfl rfl rfl rfl rfl rfl (by omega) (by omega) (c_isDevice) ?_
  intro v9 M9 h9
  rewrite [h9.1, h9.2]
  clear h9 v9 M9
  simp only [Option.toList, List.cons_append, List.nil_append]
  refine go_if_ne (p := 12) (p2 := 14) hf_123 rfl rfl rfl (fun h9 => ?_) (fun h9 => absurd ((below_iff (by omega)).mpr ⟨k, hk, rfl⟩) (bI_0.mp h9))
  refine go_il2 (p := 15) hf_123 rfl rfl ?_
  refine go_if_le (p := 18) (p2 := 57) hf_123 rfl rfl rfl (fun h15 => ?_) (fun h15 => ?_)
  · refine go_il2 (p := 58) hf_123 rfl rfl ?_
    refine go_tab hf_123 rfl (pd := 159) rfl (fun h58 => ?_) (fun h58 h58b => ?_)
    · refine go_iconst (p := 160) hf_123 rfl rfl ci_m1 ?_
      refine go_ret1 hf_123 rfl nl_123 ?_
      refine ⟨_, _, rfl, rfl, ?_, rfl⟩
      unfold sw11
      rw [if_neg (fun e => by rw [e, nI_toInt (by omega)] at h58; omega), if_neg (fun e => by rw [e, nI_toInt (by omega)] at h58; omega), if_neg (fun e => by rw [e, nI_toInt (by omega)] at h58; omega), if_neg (fun e => by rw [e, nI_toInt (by omega)] at h58; omega), if_neg (fun e => by rw [e, nI_toInt (by omega)] at h58; omega), if_neg (fun e => by rw [e, nI_toInt (by omega)] at h58; omega), if_neg (fun e => by rw [e, nI_toInt (by omega)] at h58; omega), if_neg (fun e => by rw [e, nI_toInt (by omega)] at h58; omega), if_neg (fun e => by rw [e, nI_toInt (by omega)] at h58; omega), if_neg (fun e => by rw [e, nI_toInt (by omega)] at h58; omega), if_neg (fun e => by rw [e, nI_toInt (by omega)] at h58; omega)]
    · have h58c : (a1).toInt = 0 ∨ (a1).toInt = 1 ∨ (a1).toInt = 2 ∨ (a1).toInt = 3 ∨ (a1).toInt = 4 ∨ (a1).toInt = 5 ∨ (a1).toInt = 6 ∨ (a1).toInt = 7 ∨ (a1).toInt = 8 ∨ (a1).toInt = 9 ∨ (a1).toInt = 10 := by omega
      rcases h58c with h58c | h58c | h58c | h58c | h58c | h58c | h58c | h58c | h58c | h58c | h58c
      · refine ⟨58, 116, by rw [h58c]; rfl, rfl, ?_⟩
        obtain rfl : a1 = nI 0 := toInt_nI h58c (by omega)
        refine go_al0 (p := 117) hf_123 rfl rfl ?_
        refine go_getr (p := 120) hf_123 ho_123 rfl fl_6_53 rfl (by first | with_reducible assumption | rfl) rfl ?_
        refine go_il1 (p := 121) hf_123 rfl rfl ?_
        refine go_bald (p := 122) hf_123 rfl rfl (by first | with_reducible assumption | rfl) (by first | rfl | with_reducible assumption) (by first | exact rfl | with_reducible assumption) (by omega) (up_k (by omega)) ?_
        refine go_if_eq (p := 125) (p2 := 129) hf_123 rfl rfl rfl (fun h122 => ?_) (fun h122 => ?_)
        · refine go_iconst (p := 130) hf_123 rfl rfl ci_1 ?_
          refine go_ret1 hf_123 rfl nl_123 ?_
          refine ⟨_, _, rfl, rfl, ?_, rfl⟩
          unfold sw11
          rw [if_pos rfl]
          rw [bI_t h122]
        · refine go_iconst (p := 126) hf_123 rfl rfl ci_0 ?_
          refine go_goto (p2 := 130) hf_123 rfl rfl ?_
          refine go_ret1 hf_123 rfl nl_123 ?_
          refine ⟨_, _, rfl, rfl, ?_, rfl⟩
          unfold sw11
          rw [if_pos rfl]
          rw [bI_f h122]
      · refine ⟨101, 159, by rw [h58c]; rfl, rfl, ?_⟩
        refine go_iconst (p := 160) hf_123 rfl rfl ci_m1 ?_
        refine go_ret1 hf_123 rfl nl_123 ?_
        exfalso
        rw [Int32.le_iff_toInt_le] at h15
        rw [h58c] at h15
        exact absurd h15 (by decide)
      · refine ⟨101, 159, by rw [h58c]; rfl, rfl, ?_⟩
        refine go_iconst (p := 160) hf_123 rfl rfl ci_m1 ?_
        refine go_ret1 hf_123 rfl nl_123 ?_
        exfalso
        rw [Int32.le_iff_toInt_le] at h15
        rw [h58c] at h15
        exact absurd h15 (by decide)
      · refine ⟨101, 159, by rw [h58c]; rfl, rfl, ?_⟩
        refine go_iconst (p := 160) hf_123 rfl rfl ci_m1 ?_
        refine go_ret1 hf_123 rfl nl_123 ?_
        exfalso
        rw [Int32.le_iff_toInt_le] at h15
        rw [h58c] at h15
        exact absurd h15 (by decide)
      · refine ⟨101, 159, by rw [h58c]; rfl, rfl, ?_⟩
        refine go_iconst (p := 160) hf_123 rfl rfl ci_m1 ?_
        refine go_ret1 hf_123 rfl nl_123 ?_
        exfalso
        rw [Int32.le_iff_toInt_le] at h15
        rw [h58c] at h15
        exact absurd h15 (by decide)
      · refine ⟨101, 159, by rw [h58c]; rfl, rfl, ?_⟩
        refine go_iconst (p := 160) hf_123 rfl rfl ci_m1 ?_
        refine go_ret1 hf_123 rfl nl_123 ?_
        exfalso
        rw [Int32.le_iff_toInt_le] at h15
        rw [h58c] at h15
        exact absurd h15 (by decide)
      · refine ⟨101, 159, by rw [h58c]; rfl, rfl, ?_⟩
        refine go_iconst (p := 160) hf_123 rfl rfl ci_m1 ?_
        refine go_ret1 hf_123 rfl nl_123 ?_
        exfalso
        rw [Int32.le_iff_toInt_le] at h15
        rw [h58c] at h15
        exact absurd h15 (by decide)
      · refine ⟨73, 131, by rw [h58c]; rfl, rfl, ?_⟩
        obtain rfl : a1 = nI 7 := toInt_nI h58c (by omega)
        refine go_al0 (p := 132) hf_123 rfl rfl ?_
        refine go_getr (p := 135) hf_123 ho_123 rfl fl_6_26 rfl (by first | with_reducible assumption | rfl) rfl ?_
        refine go_il1 (p := 136) hf_123 rfl rfl ?_
        refine go_iald (p := 137) hf_123 rfl rfl (by first | with_reducible assumption | rfl) (by first | rfl | with_reducible assumption) (by first | exact rfl | with_reducible assumption) (by omega) (up_k (by omega)) ?_
        refine go_ret1 hf_123 rfl nl_123 ?_
        refine ⟨_, _, rfl, rfl, ?_, rfl⟩
        unfold sw11
        rw [if_neg (by decide), if_neg (by decide), if_neg (by decide), if_neg (by decide), if_neg (by decide), if_neg (by decide), if_neg (by decide), if_pos rfl]
      · refine ⟨80, 138, by rw [h58c]; rfl, rfl, ?_⟩
        obtain rfl : a1 = nI 8 := toInt_nI h58c (by omega)
        refine go_al0 (p := 139) hf_123 rfl rfl ?_
        refine go_getr (p := 142) hf_123 ho_123 rfl fl_6_29 rfl (by first | with_reducible assumption | rfl) rfl ?_
        refine go_il1 (p := 143) hf_123 rfl rfl ?_
        refine go_iald (p := 144) hf_123 rfl rfl (by first | with_reducible assumption | rfl) (by first | rfl | with_reducible assumption) (by first | exact rfl | with_reducible assumption) (by omega) (up_k (by omega)) ?_
        refine go_ret1 hf_123 rfl nl_123 ?_
        refine ⟨_, _, rfl, rfl, ?_, rfl⟩
        unfold sw11
        rw [if_neg (by decide), if_neg (by decide), if_neg (by decide), if_neg (by decide), if_neg (by decide), if_neg (by decide), if_neg (by decide), if_neg (by decide), if_pos rfl]
      · refine ⟨87, 145, by rw [h58c]; rfl, rfl, ?_⟩
        obtain rfl : a1 = nI 9 := toInt_nI h58c (by omega)
        refine go_al0 (p := 146) hf_123 rfl rfl ?_
        refine go_getr (p := 149) hf_123 ho_123 rfl fl_6_38 rfl (by first | with_reducible assumption | rfl) rfl ?_
        refine go_il1 (p := 150) hf_123 rfl rfl ?_
        refine go_iald (p := 151) hf_123 rfl rfl (by first | with_reducible assumption | rfl) (by first | rfl | with_reducible assumption) (by first | exact rfl | with_reducible assumption) (by omega) (up_k (by omega)) ?_
        refine go_ret1 hf_123 rfl nl_123 ?_
        refine ⟨_, _, rfl, rfl, ?_, rfl⟩
        unfold sw11
        rw [if_neg (by decide), if_neg (by decide), if_neg (by decide), if_neg (by decide), if_neg (by decide), if_neg (by decide), if_neg (by decide), if_neg (by decide), if_neg (by decide), if_pos rfl]
      · refine ⟨94, 152, by rw [h58c]; rfl, rfl, ?_⟩
        obtain rfl : a1 = nI 10 := toInt_nI h58c (by omega)
        refine go_al0 (p := 153) hf_123 rfl rfl ?_
        refine go_getr (p := 156) hf_123 ho_123 rfl fl_6_59 rfl (by first | with_reducible assumption | rfl) rfl ?_
        refine go_il1 (p := 157) hf_123 rfl rfl ?_
        refine go_iald (p := 158) hf_123 rfl rfl (by first | with_reducible assumption | rfl) (by first | rfl | with_reducible assumption) (by first | exact rfl | with_reducible assumption) (by omega) (up_k (by omega)) ?_
        refine go_ret1 hf_123 rfl nl_123 ?_
        refine ⟨_, _, rfl, rfl, ?_, rfl⟩
        unfold sw11
        rw [if_neg (by decide), if_neg (by decide), if_neg (by decide), if_neg (by decide), if_neg (by decide), if_neg (by decide), if_neg (by decide), if_neg (by decide), if_neg (by decide), if_neg (by decide), if_pos rfl]
  · refine go_il2 (p := 19) hf_123 rfl rfl ?_
    refine go_bipush (p := 21) hf_123 rfl rfl cb_7 ?_
    refine go_ic_ge (p := 24) (p2 := 57) hf_123 rfl rfl rfl (fun h21 => ?_) (fun h21 => ?_)
    · refine go_il2 (p := 58) hf_123 rfl rfl ?_
      refine go_tab hf_123 rfl (pd := 159) rfl (fun h58 => ?_) (fun h58 h58b => ?_)
      · refine go_iconst (p := 160) hf_123 rfl rfl ci_m1 ?_
        refine go_ret1 hf_123 rfl nl_123 ?_
        refine ⟨_, _, rfl, rfl, ?_, rfl⟩
        unfold sw11
        rw [if_neg (fun e => by rw [e, nI_toInt (by omega)] at h58; omega), if_neg (fun e => by rw [e, nI_toInt (by omega)] at h58; omega), if_neg (fun e => by rw [e, nI_toInt (by omega)] at h58; omega), if_neg (fun e => by rw [e, nI_toInt (by omega)] at h58; omega), if_neg (fun e => by rw [e, nI_toInt (by omega)] at h58; omega), if_neg (fun e => by rw [e, nI_toInt (by omega)] at h58; omega), if_neg (fun e => by rw [e, nI_toInt (by omega)] at h58; omega), if_neg (fun e => by rw [e, nI_toInt (by omega)] at h58; omega), if_neg (fun e => by rw [e, nI_toInt (by omega)] at h58; omega), if_neg (fun e => by rw [e, nI_toInt (by omega)] at h58; omega), if_neg (fun e => by rw [e, nI_toInt (by omega)] at h58; omega)]
      · have h58c : (a1).toInt = 0 ∨ (a1).toInt = 1 ∨ (a1).toInt = 2 ∨ (a1).toInt = 3 ∨ (a1).toInt = 4 ∨ (a1).toInt = 5 ∨ (a1).toInt = 6 ∨ (a1).toInt = 7 ∨ (a1).toInt = 8 ∨ (a1).toInt = 9 ∨ (a1).toInt = 10 := by omega
        rcases h58c with h58c | h58c | h58c | h58c | h58c | h58c | h58c | h58c | h58c | h58c | h58c
        · refine ⟨58, 116, by rw [h58c]; rfl, rfl, ?_⟩
          obtain rfl : a1 = nI 0 := toInt_nI h58c (by omega)
          refine go_al0 (p := 117) hf_123 rfl rfl ?_
          refine go_getr (p := 120) hf_123 ho_123 rfl fl_6_53 rfl (by first | with_reducible assumption | rfl) rfl ?_
          refine go_il1 (p := 121) hf_123 rfl rfl ?_
          refine go_bald (p := 122) hf_123 rfl rfl (by first | with_reducible assumption | rfl) (by first | rfl | with_reducible assumption) (by first | exact rfl | with_reducible assumption) (by omega) (up_k (by omega)) ?_
          refine go_if_eq (p := 125) (p2 := 129) hf_123 rfl rfl rfl (fun h122 => ?_) (fun h122 => ?_)
          · refine go_iconst (p := 130) hf_123 rfl rfl ci_1 ?_
            refine go_ret1 hf_123 rfl nl_123 ?_
            refine ⟨_, _, rfl, rfl, ?_, rfl⟩
            unfold sw11
            rw [if_pos rfl]
            rw [bI_t h122]
          · refine go_iconst (p := 126) hf_123 rfl rfl ci_0 ?_
            refine go_goto (p2 := 130) hf_123 rfl rfl ?_
            refine go_ret1 hf_123 rfl nl_123 ?_
            refine ⟨_, _, rfl, rfl, ?_, rfl⟩
            unfold sw11
            rw [if_pos rfl]
            rw [bI_f h122]
        · refine ⟨101, 159, by rw [h58c]; rfl, rfl, ?_⟩
          refine go_iconst (p := 160) hf_123 rfl rfl ci_m1 ?_
          refine go_ret1 hf_123 rfl nl_123 ?_
          exfalso
          rw [Int32.le_iff_toInt_le] at h21
          rw [h58c] at h21
          exact absurd h21 (by decide)
        · refine ⟨101, 159, by rw [h58c]; rfl, rfl, ?_⟩
          refine go_iconst (p := 160) hf_123 rfl rfl ci_m1 ?_
          refine go_ret1 hf_123 rfl nl_123 ?_
          exfalso
          rw [Int32.le_iff_toInt_le] at h21
          rw [h58c] at h21
          exact absurd h21 (by decide)
        · refine ⟨101, 159, by rw [h58c]; rfl, rfl, ?_⟩
          refine go_iconst (p := 160) hf_123 rfl rfl ci_m1 ?_
          refine go_ret1 hf_123 rfl nl_123 ?_
          exfalso
          rw [Int32.le_iff_toInt_le] at h21
          rw [h58c] at h21
          exact absurd h21 (by decide)
        · refine ⟨101, 159, by rw [h58c]; rfl, rfl, ?_⟩
          refine go_iconst (p := 160) hf_123 rfl rfl ci_m1 ?_
          refine go_ret1 hf_123 rfl nl_123 ?_
          exfalso
          rw [Int32.le_iff_toInt_le] at h21
          rw [h58c] at h21
          exact absurd h21 (by decide)
        · refine ⟨101, 159, by rw [h58c]; rfl, rfl, ?_⟩
          refine go_iconst (p := 160) hf_123 rfl rfl ci_m1 ?_
          refine go_ret1 hf_123 rfl nl_123 ?_
          exfalso
          rw [Int32.le_iff_toInt_le] at h21
          rw [h58c] at h21
          exact absurd h21 (by decide)
        · refine ⟨101, 159, by rw [h58c]; rfl, rfl, ?_⟩
          refine go_iconst (p := 160) hf_123 rfl rfl ci_m1 ?_
          refine go_ret1 hf_123 rfl nl_123 ?_
          exfalso
          rw [Int32.le_iff_toInt_le] at h21
          rw [h58c] at h21
          exact absurd h21 (by decide)
        · refine ⟨73, 131, by rw [h58c]; rfl, rfl, ?_⟩
          obtain rfl : a1 = nI 7 := toInt_nI h58c (by omega)
          refine go_al0 (p := 132) hf_123 rfl rfl ?_
          refine go_getr (p := 135) hf_123 ho_123 rfl fl_6_26 rfl (by first | with_reducible assumption | rfl) rfl ?_
          refine go_il1 (p := 136) hf_123 rfl rfl ?_
          refine go_iald (p := 137) hf_123 rfl rfl (by first | with_reducible assumption | rfl) (by first | rfl | with_reducible assumption) (by first | exact rfl | with_reducible assumption) (by omega) (up_k (by omega)) ?_
          refine go_ret1 hf_123 rfl nl_123 ?_
          refine ⟨_, _, rfl, rfl, ?_, rfl⟩
          unfold sw11
          rw [if_neg (by decide), if_neg (by decide), if_neg (by decide), if_neg (by decide), if_neg (by decide), if_neg (by decide), if_neg (by decide), if_pos rfl]
        · refine ⟨80, 138, by rw [h58c]; rfl, rfl, ?_⟩
          obtain rfl : a1 = nI 8 := toInt_nI h58c (by omega)
          refine go_al0 (p := 139) hf_123 rfl rfl ?_
          refine go_getr (p := 142) hf_123 ho_123 rfl fl_6_29 rfl (by first | with_reducible assumption | rfl) rfl ?_
          refine go_il1 (p := 143) hf_123 rfl rfl ?_
          refine go_iald (p := 144) hf_123 rfl rfl (by first | with_reducible assumption | rfl) (by first | rfl | with_reducible assumption) (by first | exact rfl | with_reducible assumption) (by omega) (up_k (by omega)) ?_
          refine go_ret1 hf_123 rfl nl_123 ?_
          refine ⟨_, _, rfl, rfl, ?_, rfl⟩
          unfold sw11
          rw [if_neg (by decide), if_neg (by decide), if_neg (by decide), if_neg (by decide), if_neg (by decide), if_neg (by decide), if_neg (by decide), if_neg (by decide), if_pos rfl]
        · refine ⟨87, 145, by rw [h58c]; rfl, rfl, ?_⟩
          obtain rfl : a1 = nI 9 := toInt_nI h58c (by omega)
          refine go_al0 (p := 146) hf_123 rfl rfl ?_
          refine go_getr (p := 149) hf_123 ho_123 rfl fl_6_38 rfl (by first | with_reducible assumption | rfl) rfl ?_
          refine go_il1 (p := 150) hf_123 rfl rfl ?_
          refine go_iald (p := 151) hf_123 rfl rfl (by first | with_reducible assumption | rfl) (by first | rfl | with_reducible assumption) (by first | exact rfl | with_reducible assumption) (by omega) (up_k (by omega)) ?_
          refine go_ret1 hf_123 rfl nl_123 ?_
          refine ⟨_, _, rfl, rfl, ?_, rfl⟩
          unfold sw11
          rw [if_neg (by decide), if_neg (by decide), if_neg (by decide), if_neg (by decide), if_neg (by decide), if_neg (by decide), if_neg (by decide), if_neg (by decide), if_neg (by decide), if_pos rfl]
        · refine ⟨94, 152, by rw [h58c]; rfl, rfl, ?_⟩
          obtain rfl : a1 = nI 10 := toInt_nI h58c (by omega)
          refine go_al0 (p := 153) hf_123 rfl rfl ?_
          refine go_getr (p := 156) hf_123 ho_123 rfl fl_6_59 rfl (by first | with_reducible assumption | rfl) rfl ?_
          refine go_il1 (p := 157) hf_123 rfl rfl ?_
          refine go_iald (p := 158) hf_123 rfl rfl (by first | with_reducible assumption | rfl) (by first | rfl | with_reducible assumption) (by first | exact rfl | with_reducible assumption) (by omega) (up_k (by omega)) ?_
          refine go_ret1 hf_123 rfl nl_123 ?_
          refine ⟨_, _, rfl, rfl, ?_, rfl⟩
          unfold sw11
          rw [if_neg (by decide), if_neg (by decide), if_neg (by decide), if_neg (by decide), if_neg (by decide), if_neg (by decide), if_neg (by decide), if_neg (by decide), if_neg (by decide), if_neg (by decide), if_pos rfl]
    · refine go_il2 (p := 25) hf_123 rfl rfl ?_
      refine go_iconst (p := 26) hf_123 rfl rfl ci_4 ?_
      refine go_ic_ge (p := 29) (p2 := 44) hf_123 rfl rfl rfl (fun h26 => ?_) (fun h26 => ?_)
      · obtain ⟨m, hm1, hm3, rfl⟩ : ∃ m, 4 ≤ m ∧ m ≤ 6 ∧ a1 = nI m := rng_nI (by omega) (fun h => by rw [Int32.lt_iff_toInt_lt, nI_toInt (by omega)] at h; rw [Int32.le_iff_toInt_le, nI_toInt (by omega)] at h26; omega) (fun h => h21 (by rw [Int32.lt_iff_toInt_lt, nI_toInt (by omega)] at h; rw [Int32.le_iff_toInt_le, nI_toInt (by omega)]; omega)) (by omega)
        have hm6 : m = 4 ∨ m = 5 ∨ m = 6 := by omega
        refine go_al0 (p := 45) hf_123 rfl rfl ?_
        refine go_getr (p := 48) hf_123 ho_123 rfl fl_6_56 rfl (by first | with_reducible assumption | rfl) rfl ?_
        refine go_iconst (p := 49) hf_123 rfl rfl ci_3 ?_
        refine go_il1 (p := 50) hf_123 rfl rfl ?_
        refine go_imul (p := 51) hf_123 rfl rfl (by first | exact muln _ _ | exact rfl) ?_
        refine go_il2 (p := 52) hf_123 rfl rfl ?_
        refine go_iadd (p := 53) hf_123 rfl rfl (by first | with_reducible exact nI_add _ _ | exact rfl) ?_
        refine go_iconst (p := 54) hf_123 rfl rfl ci_4 ?_
        refine go_isub (p := 55) hf_123 rfl rfl (by first | exact subn (by omega) | exact rfl) ?_
        refine go_iald (p := 56) hf_123 rfl rfl (by first | with_reducible assumption | rfl) (by first | rfl | with_reducible assumption) (by first | exact rfl | with_reducible assumption) (by omega) (up_k (by omega)) ?_
        refine go_ret1 hf_123 rfl nl_123 ?_
        rcases hm6 with e | e | e <;> subst e
        · refine ⟨_, _, rfl, rfl, ?_, rfl⟩
          unfold sw11
          rw [if_neg (by decide), if_neg (by decide), if_neg (by decide), if_neg (by decide), if_pos rfl]
          rfl
        · refine ⟨_, _, rfl, rfl, ?_, rfl⟩
          unfold sw11
          rw [if_neg (by decide), if_neg (by decide), if_neg (by decide), if_neg (by decide), if_neg (by decide), if_pos rfl]
          rfl
        · refine ⟨_, _, rfl, rfl, ?_, rfl⟩
          unfold sw11
          rw [if_neg (by decide), if_neg (by decide), if_neg (by decide), if_neg (by decide), if_neg (by decide), if_neg (by decide), if_pos rfl]
          rfl
      · obtain ⟨m, hm1, hm3, rfl⟩ : ∃ m, 1 ≤ m ∧ m ≤ 3 ∧ a1 = nI m := rng_nI (by omega) (fun h => h15 (by rw [Int32.lt_iff_toInt_lt, nI_toInt (by omega)] at h; rw [Int32.le_iff_toInt_le]; show a1.toInt ≤ 0; omega)) (fun h => h26 (by rw [Int32.lt_iff_toInt_lt, nI_toInt (by omega)] at h; rw [Int32.le_iff_toInt_le, nI_toInt (by omega)]; omega)) (by omega)
        have hm6 : m = 1 ∨ m = 2 ∨ m = 3 := by omega
        refine go_al0 (p := 30) hf_123 rfl rfl ?_
        refine go_getr (p := 33) hf_123 ho_123 rfl fl_6_35 rfl (by first | with_reducible assumption | rfl) rfl ?_
        refine go_iconst (p := 34) hf_123 rfl rfl ci_3 ?_
        refine go_il1 (p := 35) hf_123 rfl rfl ?_
        refine go_imul (p := 36) hf_123 rfl rfl (by first | exact muln _ _ | exact rfl) ?_
        refine go_il2 (p := 37) hf_123 rfl rfl ?_
        refine go_iadd (p := 38) hf_123 rfl rfl (by first | with_reducible exact nI_add _ _ | exact rfl) ?_
        refine go_iconst (p := 39) hf_123 rfl rfl ci_1 ?_
        refine go_isub (p := 40) hf_123 rfl rfl (by first | exact subn (by omega) | exact rfl) ?_
        refine go_iald (p := 41) hf_123 rfl rfl (by first | with_reducible assumption | rfl) (by first | rfl | with_reducible assumption) (by first | exact rfl | with_reducible assumption) (by omega) (up_k (by omega)) ?_
        refine go_goto (p2 := 56) hf_123 rfl rfl ?_
        refine go_ret1 hf_123 rfl nl_123 ?_
        rcases hm6 with e | e | e <;> subst e
        · refine ⟨_, _, rfl, rfl, ?_, rfl⟩
          unfold sw11
          rw [if_neg (by decide), if_pos rfl]
          rfl
        · refine ⟨_, _, rfl, rfl, ?_, rfl⟩
          unfold sw11
          rw [if_neg (by decide), if_neg (by decide), if_pos rfl]
          rfl
        · refine ⟨_, _, rfl, rfl, ?_, rfl⟩
          unfold sw11
          rw [if_neg (by decide), if_neg (by decide), if_neg (by decide), if_pos rfl]
          rfl
