/-! ===== writing states as terms: the class ===== -/
def entP (w : Nat) : List Tok := [(0, 1, w / 8192), (0, 1, w / 2048 % 4), (0, 1, w / 64 % 32), (0, 0, 10 + w / 8192), (0, 0, 100 + w % 64), (1, 3, 0), (1, 4, 0), (1, 4, 0), (1, 4, 0)]
def hdrP (g ow pw : Nat) : List Tok := [(0, 1, g), (0, 1, ow), (0, 0, pw), (0, 0, 8), (1, 2, 0), (0, 0, 9), (1, 3, 0)]
def vecP (vv : Nat → Nat) (i : Nat) : List Tok := (List.range i).map (fun j => (0, 1, vv j))
def listP (l : List Nat) : List Tok := l.flatMap entP ++ ((0, 1, 0) :: List.replicate l.length (1, 4, 0))
def endP : List Tok := List.replicate 6 (1, 4, 0) ++ [(3, 0, 0), (0, 0, 9), (2, 5, 0), (1, 4, 0)]
def sealP (g ow pw : Nat) (vv : Nat → Nat) (l : List Nat) : List Tok := hdrP g ow pw ++ (vecP vv 3 ++ (listP l ++ endP))
theorem TC_keep {g0 : Nat → Int32} {ts0 ts : List T3} {M M2 : sm_M} (h : TC g0 ts0 M ts) (hk : ∀ p, 1 ≤ p → p ≤ 7 → M2 p = M p) : TC g0 ts0 M2 ts := by
  unfold TC ch at h ⊢
  rw [hk 1 (by omega) (by omega), hk 2 (by omega) (by omega), hk 3 (by omega) (by omega), hk 4 (by omega) (by omega), hk 5 (by omega) (by omega), hk 6 (by omega) (by omega), hk 7 (by omega) (by omega)]
  exact h
theorem TC_up {g0 : Nat → Int32} {ts0 ts : List T3} {M : sm_M} {q i : Nat} {v : Int32} (h : TC g0 ts0 M ts) (hq : 7 < q) : TC g0 ts0 (sm_up M q i v) ts := TC_keep h (fun p h1 h2 => by unfold sm_up; rw [if_neg (by omega)])
def rowI (g : Nat → Int32) (vs : List Int32) : Prop := ∀ (i : Nat) (x : Int32), vs[i]? = some x → g i = x
theorem rowI_snoc {g g' : Nat → Int32} {a : List Int32} {w : Int32} (h : rowI g a) (ho : ∀ j, j < a.length → g' j = g j) (hx : g' a.length = w) : rowI g' (a ++ [w]) := by
  intro i y hy
  rcases Nat.lt_trichotomy i a.length with hi | hi | hi
  · rw [List.getElem?_append_left hi] at hy
    rw [ho i hi]
    exact h i y hy
  · subst hi
    simp at hy
    subst hy
    exact hx
  · rw [List.getElem?_eq_none (by simp; omega)] at hy
    cases hy
theorem rowI_3 {g : Nat → Int32} {a b c : Int32} (h0 : g 0 = a) (h1 : g 1 = b) (h2 : g 2 = c) : rowI g [a, b, c] := by
  intro i x hx
  match i, hx with
  | 0, hx => cases hx; exact h0
  | 1, hx => cases hx; exact h1
  | 2, hx => cases hx; exact h2
  | n + 3, hx => cases hx
theorem c_writeEntry {g0 : Nat → Int32} {ts0 ts : List T3} {M : sm_M} {w : Nat} (hw9 : w < 32768) (hT : TC g0 ts0 M ts) : cr 53 3 75 [.ref 8, .ref 1, .int (nI w)] M (fun v M1 => (∃ ts1 v1, (∀ st, rp mkC (entP w) ts st = (ts1, v1 :: st)) ∧ v = some (.int v1) ∧ TC g0 ts0 M1 ts1) ∧ ∀ p, (p = 0 ∨ 7 < p) → p ≠ 11 → M1 p = M p) := by
  intro X J rc rs d lw hd hw
  show sm_wp tb_T X tb_ok d lw 53 0 [some (.ref 8), some (.ref 1), some (.int (nI w)), none, none] [] _ _
  refine go_al0 hf_53 rfl rfl ?_
  refine go_getr hf_53 ho_53 rfl fl_2_18 rfl (by first | assumption | rfl) rfl ?_
  refine go_iconst hf_53 rfl rfl ci_0 ?_
  refine go_al1 hf_53 rfl rfl ?_
  refine go_iconst hf_53 rfl rfl ci_1 ?_
  refine go_il2 hf_53 rfl rfl ?_
  refine go_call hf_53 rfl rfl (inv_s ho_53 cl_2_69) (by decide) nl_129 rfl rfl rfl rfl rfl rfl rfl rfl rfl (by omega) (by omega) (c_itemOf hw9) ?_
  intro v9 M9 h9
  rewrite [h9.1, h9.2]
  clear h9 v9 M9
  refine go_iconst hf_53 rfl rfl ci_m1 ?_
  refine go_call hf_53 rfl rfl (inv_v ho_53 cl_2_36) (by decide) nl_39 rfl rfl rfl rfl rfl (by first | rfl | exact rcv_of (by assumption)) rfl rfl rfl (by omega) (by omega) (c_make (by omega) hT (Or.inr ⟨0, okY_m1⟩)) ?_
  rintro v9 M1 ⟨⟨ts1, v1, e1, rfl, T1⟩, f1⟩
  refine go_iast hf_53 rfl rfl (by first | assumption | rfl) (by first | rfl | assumption) (by first | exact rfl | assumption) (by omega) ?_
  refine go_al0 hf_53 rfl rfl ?_
  refine go_getr hf_53 ho_53 rfl fl_2_18 rfl (by first | assumption | rfl) rfl ?_
  refine go_iconst hf_53 rfl rfl ci_1 ?_
  refine go_al1 hf_53 rfl rfl ?_
  refine go_iconst hf_53 rfl rfl ci_1 ?_
  refine go_il2 hf_53 rfl rfl ?_
  refine go_call hf_53 rfl rfl (inv_s ho_53 cl_2_75) (by decide) nl_127 rfl rfl rfl rfl rfl rfl rfl rfl rfl (by omega) (by omega) (c_deviceOf hw9) ?_
  intro v9 M9 h9
  rewrite [h9.1, h9.2]
  clear h9 v9 M9
  refine go_iconst hf_53 rfl rfl ci_m1 ?_
  refine go_call hf_53 rfl rfl (inv_v ho_53 cl_2_36) (by decide) nl_39 rfl rfl rfl rfl rfl (by first | rfl | exact rcv_of (by assumption)) rfl rfl rfl (by omega) (by omega) (c_make (by omega) (TC_up T1 (by omega)) (Or.inr ⟨0, okY_m1⟩)) ?_
  rintro v9 M2 ⟨⟨ts2, v2, e2, rfl, T2⟩, f2⟩
  refine go_iast hf_53 rfl rfl (by first | assumption | rfl) (by first | rfl | assumption) (by first | exact rfl | assumption) (by omega) ?_
  refine go_al0 hf_53 rfl rfl ?_
  refine go_getr hf_53 ho_53 rfl fl_2_18 rfl (by first | assumption | rfl) rfl ?_
  refine go_iconst hf_53 rfl rfl ci_2 ?_
  refine go_al1 hf_53 rfl rfl ?_
  refine go_iconst hf_53 rfl rfl ci_1 ?_
  refine go_il2 hf_53 rfl rfl ?_
  refine go_call hf_53 rfl rfl (inv_s ho_53 cl_2_78) (by decide) nl_126 rfl rfl rfl rfl rfl rfl rfl rfl rfl (by omega) (by omega) (c_countOf hw9) ?_
  intro v9 M9 h9
  rewrite [h9.1, h9.2]
  clear h9 v9 M9
  refine go_iconst hf_53 rfl rfl ci_m1 ?_
  refine go_call hf_53 rfl rfl (inv_v ho_53 cl_2_36) (by decide) nl_39 rfl rfl rfl rfl rfl (by first | rfl | exact rcv_of (by assumption)) rfl rfl rfl (by omega) (by omega) (c_make (by omega) (TC_up T2 (by omega)) (Or.inr ⟨0, okY_m1⟩)) ?_
  rintro v9 M3 ⟨⟨ts3, v3, e3, rfl, T3⟩, f3⟩
  refine go_iast hf_53 rfl rfl (by first | assumption | rfl) (by first | rfl | assumption) (by first | exact rfl | assumption) (by omega) ?_
  refine go_al1 hf_53 rfl rfl ?_
  refine go_iconst hf_53 rfl rfl ci_0 ?_
  refine go_bipush hf_53 rfl rfl cb_10 ?_
  refine go_il2 hf_53 rfl rfl ?_
  refine go_call hf_53 rfl rfl (inv_s ho_53 cl_2_69) (by decide) nl_129 rfl rfl rfl rfl rfl rfl rfl rfl rfl (by omega) (by omega) (c_itemOf hw9) ?_
  intro v9 M9 h9
  rewrite [h9.1, h9.2]
  clear h9 v9 M9
  refine go_iadd hf_53 rfl rfl (by first | exact nI_add _ _ | exact rfl) ?_
  refine go_iconst hf_53 rfl rfl ci_m1 ?_
  refine go_call hf_53 rfl rfl (inv_v ho_53 cl_2_36) (by decide) nl_39 rfl rfl rfl rfl rfl (by first | rfl | exact rcv_of (by assumption)) rfl rfl rfl (by omega) (by omega) (c_make (by omega) (TC_up T3 (by omega)) (Or.inr ⟨0, okY_m1⟩)) ?_
  rintro v9 M4 ⟨⟨ts4, v4, e4, rfl, T4⟩, f4⟩
  refine go_is3 hf_53 rfl rfl ?_
  refine go_al1 hf_53 rfl rfl ?_
  refine go_iconst hf_53 rfl rfl ci_0 ?_
  refine go_bipush hf_53 rfl rfl cb_100 ?_
  refine go_il2 hf_53 rfl rfl ?_
  refine go_call hf_53 rfl rfl (inv_s ho_53 cl_2_81) (by decide) nl_130 rfl rfl rfl rfl rfl rfl rfl rfl rfl (by omega) (by omega) (c_contentOf hw9) ?_
  intro v9 M9 h9
  rewrite [h9.1, h9.2]
  clear h9 v9 M9
  refine go_iadd hf_53 rfl rfl (by first | exact nI_add _ _ | exact rfl) ?_
  refine go_iconst hf_53 rfl rfl ci_m1 ?_
  refine go_call hf_53 rfl rfl (inv_v ho_53 cl_2_36) (by decide) nl_39 rfl rfl rfl rfl rfl (by first | rfl | exact rcv_of (by assumption)) rfl rfl rfl (by omega) (by omega) (c_make (by omega) T4 (Or.inr ⟨0, okY_m1⟩)) ?_
  rintro v9 M5 ⟨⟨ts5, v5, e5, rfl, T5⟩, f5⟩
  refine go_is4 hf_53 rfl rfl ?_
  refine go_al1 hf_53 rfl rfl ?_
  refine go_al0 hf_53 rfl rfl ?_
  refine go_getr hf_53 ho_53 rfl fl_2_18 rfl (by first | assumption | rfl) rfl ?_
  refine go_al0 hf_53 rfl rfl ?_
  refine go_getr hf_53 ho_53 rfl fl_2_18 rfl (by first | assumption | rfl) rfl ?_
  refine go_alen hf_53 rfl rfl (by first | assumption | rfl) ?_
  refine go_al1 hf_53 rfl rfl ?_
  refine go_iconst hf_53 rfl rfl ci_3 ?_
  refine go_il3 hf_53 rfl rfl ?_
  refine go_il4 hf_53 rfl rfl ?_
  refine go_call hf_53 rfl rfl (inv_v ho_53 cl_2_36) (by decide) nl_39 rfl rfl rfl rfl rfl (by first | rfl | exact rcv_of (by assumption)) rfl rfl rfl (by omega) (by omega) (c_make (by omega) T5 (mkC_okY T4.u T5.l e5)) ?_
  rintro v9 M6 ⟨⟨ts6, v6, e6, rfl, T6⟩, f6⟩
  have hrow : rowI (M6 11) [v1, v2, v3] := by
    rw [f6 11 (by omega), f5 11 (by omega), f4 11 (by omega)]
    refine rowI_3 ?_ ?_ up_s
    · rw [up_i (by omega), f3 11 (by omega), up_i (by omega), f2 11 (by omega), up_s]
    · rw [up_i (by omega), f3 11 (by omega), up_s]
  refine go_call hf_53 rfl rfl (inv_v ho_53 cl_2_44) (by decide) nl_41 rfl rfl rfl rfl rfl (by first | rfl | exact rcv_of (by assumption)) rfl rfl rfl (by omega) (by omega) (c_makeList (vs := [v1, v2, v3]) (by omega) rfl rfl (by omega) (by simp) hrow T6 (mkC_okY T5.u T6.l e6)) ?_
  rintro v9 M7 ⟨⟨ts7, v7, e7, rfl, T7, y7⟩, f7⟩
  refine go_ret1 hf_53 rfl nl_53 ?_
  refine ⟨_, _, rfl, rfl, ⟨ts7, v7, fun st => ?_, rfl, T7⟩, fun p hp hp2 => ?_⟩
  · unfold entP
    rw [rp_0 e1, rp_0 e2, rp_0 e3, rp_0 e4, rp_0 e5, rp_1 e6]
    exact e7 st
  · have k1 : ∀ (M : sm_M) i v, sm_up M 11 i v p = M p := fun M i v => by unfold sm_up; rw [if_neg hp2]
    rw [f7 p hp, f6 p hp, f5 p hp, f4 p hp, k1, f3 p hp, k1, f2 p hp, k1, f1 p hp]
theorem c_writeEntries {g0 : Nat → Int32} {ts0 ts : List T3} {M : sm_M} {q : Nat} {l : List Nat} (hs : stq q) (hq8 : 11 < q) (hl : es M q l) (hT : TC g0 ts0 M ts) : cr 52 4 99 [.ref 8, .ref 1, .ref q] M (fun v M1 => (∃ ts1 v1, (∀ st, rp mkC (listP l) ts st = (ts1, v1 :: st)) ∧ v = some (.int v1) ∧ TC g0 ts0 M1 ts1 ∧ (v1 = -2 ∨ ∃ s, okY v1 s)) ∧ ∀ p, (p = 0 ∨ 7 < p) → p ≠ 10 → p ≠ 11 → M1 p = M p) := by
  intro X J rc rs d lw hd hw
  show sm_wp tb_T X tb_ok d lw 52 0 [some (.ref 8), some (.ref 1), some (.ref q), none] [] _ _
  obtain ⟨hq, hv, he, hm⟩ := hs
  obtain ⟨hsz, hl12, hr⟩ := hl
  have loop : ∀ (n i : Nat) (rv : List Int32) (ts2 : List T3) (M2 : sm_M), i + n = l.length → rv.length = i → (∀ st, rp mkC ((l.take i).flatMap entP) ts st = (ts2, rv.reverse ++ st)) → rowI (M2 10) rv → TC g0 ts0 M2 ts2 → (∀ p, (p = 0 ∨ 7 < p) → p ≠ 10 → p ≠ 11 → M2 p = M p) → sm_wp tb_T X tb_ok d lw 52 2 [some (.ref 8), some (.ref 1), some (.ref q), some (.int (nI i))] [] (wSH, M2, J, rc, rs) (fun o h' => ∃ v M1, o = .inl v ∧ h' = (wSH, M1, J, rc, rs) ∧ (∃ ts1 v1, (∀ st, rp mkC (listP l) ts st = (ts1, v1 :: st)) ∧ v = some (.int v1) ∧ TC g0 ts0 M1 ts1 ∧ (v1 = -2 ∨ ∃ s, okY v1 s)) ∧ ∀ p, (p = 0 ∨ 7 < p) → p ≠ 10 → p ≠ 11 → M1 p = M p) := by
    intro n
    induction n with
    | zero =>
      intro i rv ts2 M2 hi hrl hrp hrow hT2 hfr
      have hsz2 : M2 q 5 = nI l.length := by rw [hfr q (by omega) (by omega) (by omega)]; exact hsz
      rw [List.take_of_length_le (by omega)] at hrp
      have ei : i = l.length := by omega
      rw [ei] at hrl
      refine go_il3 hf_52 rfl rfl ?_
      refine go_al2 hf_52 rfl rfl ?_
      refine go_get hf_52 ho_52 rfl fl_2_61 rfl (by first | assumption | rfl) rfl (by first | assumption | exact hsz2) ?_
      first | refine go_nn_ge hf_52 rfl rfl rfl (by omega) (by omega) (fun h7 => ?_) (fun h7 => absurd h7 (by omega)) | refine go_ic_ge hf_52 rfl rfl rfl (fun h7 => ?_) (fun h7 => absurd h7 (by omega))
      refine go_al1 hf_52 rfl rfl ?_
      refine go_iconst hf_52 rfl rfl ci_1 ?_
      refine go_iconst hf_52 rfl rfl ci_0 ?_
      refine go_iconst hf_52 rfl rfl ci_m1 ?_
      refine go_call hf_52 rfl rfl (inv_v ho_52 cl_2_36) (by decide) nl_39 rfl rfl rfl rfl rfl (by first | rfl | exact rcv_of (by assumption)) rfl rfl rfl (by omega) (by omega) (c_make (by omega) hT2 (Or.inr ⟨0, okY_m1⟩)) ?_
      rintro v9 M3 ⟨⟨ts3, v3, e3, rfl, T3⟩, f3⟩
      refine go_is3 hf_52 rfl rfl ?_
      refine go_al1 hf_52 rfl rfl ?_
      refine go_al0 hf_52 rfl rfl ?_
      refine go_getr hf_52 ho_52 rfl fl_2_15 rfl (by first | assumption | rfl) rfl ?_
      have hsz3 : M3 q 5 = nI rv.length := by rw [f3 q (by omega), hrl]; exact hsz2
      refine go_al2 hf_52 rfl rfl ?_
      refine go_get hf_52 ho_52 rfl fl_2_61 rfl (by first | assumption | rfl) rfl (by first | assumption | exact hsz2) ?_
      refine go_il3 hf_52 rfl rfl ?_
      refine go_call hf_52 rfl rfl (inv_v ho_52 cl_2_44) (by decide) nl_41 rfl rfl rfl rfl rfl (by first | rfl | exact rcv_of (by assumption)) rfl rfl rfl (by omega) (by omega) (c_makeList (vs := rv) (by omega) rfl rfl (by omega) (by omega) (by rw [f3 10 (by omega)]; exact hrow) T3 (mkC_okY hT2.u T3.l e3)) ?_
      rintro v9 M7 ⟨⟨ts7, v7, e7, rfl, T7, y7⟩, f7⟩
      refine go_ret1 hf_52 rfl nl_52 ?_
      refine ⟨_, _, rfl, rfl, ⟨ts7, v7, fun st => ?_, rfl, T7, y7⟩, fun p hp hp2 hp3 => by rw [f7 p hp, f3 p hp]; exact hfr p hp hp2 hp3⟩
      unfold listP
      rw [rp_then (hrp st), rp_0 e3, ← hrl]
      exact e7 st
    | succ n ih =>
      intro i rv ts2 M2 hi hrl hrp hrow hT2 hfr
      have hsz2 : M2 q 5 = nI l.length := by rw [hfr q (by omega) (by omega) (by omega)]; exact hsz
      obtain ⟨w, hw1⟩ := l_at (l := l) (i := i) (by omega)
      obtain ⟨hwm0, hw2⟩ := hr i w hw1
      have hwm : M2 (q + 2) i = nI w := by rw [hfr (q + 2) (by omega) (by omega) (by omega)]; exact hwm0
      refine go_il3 hf_52 rfl rfl ?_
      refine go_al2 hf_52 rfl rfl ?_
      refine go_get hf_52 ho_52 rfl fl_2_61 rfl (by first | assumption | rfl) rfl (by first | assumption | ((repeat rewrite [up_k]) <;> first | assumption | decide | omega) | exact rfl) ?_
      first | refine go_nn_ge hf_52 rfl rfl rfl (by omega) (by omega) (fun h7 => absurd h7 (by omega)) (fun h7 => ?_) | refine go_ic_ge hf_52 rfl rfl rfl (fun h7 => absurd h7 (by omega)) (fun h7 => ?_)
      refine go_al0 hf_52 rfl rfl ?_
      refine go_getr hf_52 ho_52 rfl fl_2_15 rfl (by first | assumption | rfl) rfl ?_
      refine go_il3 hf_52 rfl rfl ?_
      refine go_al0 hf_52 rfl rfl ?_
      refine go_al1 hf_52 rfl rfl ?_
      refine go_al2 hf_52 rfl rfl ?_
      refine go_getr hf_52 ho_52 rfl fl_2_62 rfl (by first | assumption | rfl) rfl ?_
      refine go_il3 hf_52 rfl rfl ?_
      refine go_iald hf_52 rfl rfl (by first | assumption | rfl) (by first | rfl | assumption) (by first | exact rfl | assumption) (by omega) (by first | assumption | ((repeat rewrite [up_k]) <;> first | assumption | decide | omega) | exact rfl) ?_
      refine go_call hf_52 rfl rfl (inv_v ho_52 cl_2_65) (by decide) nl_53 rfl rfl rfl rfl rfl (by first | rfl | exact rcv_of (by assumption)) rfl rfl rfl (by omega) (by omega) (c_writeEntry hw2 hT2) ?_
      rintro v9 M3 ⟨⟨ts3, v3, e3, rfl, T3⟩, f3⟩
      refine go_iast hf_52 rfl rfl (by first | assumption | rfl) (by first | rfl | assumption) (by first | exact rfl | assumption) (by omega) ?_
      refine go_ic3 hf_52 rfl rfl (by first | exact inc1 _ | exact rfl) ?_
      refine go_goto hf_52 rfl rfl ?_
      refine ih (i + 1) (rv ++ [v3]) ts3 _ (by omega) (by simp [hrl]) (fun st => ?_) ?_ (TC_up T3 (by omega)) (fun p hp hp2 hp3 => ?_)
      · rw [l_take hw1, List.flatMap_append, rp_then (hrp st), List.flatMap_singleton, e3, List.reverse_append]
        rfl
      · refine rowI_snoc (g := M3 10) (by rw [f3 10 (by omega) (by omega)]; exact hrow) (fun j hj => up_i (by omega)) (by rw [hrl]; exact up_s)
      · have k1 : sm_up M3 10 i v3 p = M3 p := by unfold sm_up; rw [if_neg hp2]
        rw [k1, f3 p hp hp3]
        exact hfr p hp hp2 hp3
  refine go_iconst hf_52 rfl rfl ci_0 ?_
  refine go_is3 hf_52 rfl rfl ?_
  exact loop l.length 0 [] ts M (by omega) rfl (fun st => rfl) (fun i x h => by cases h) hT (fun _ _ _ _ => rfl)
theorem c_writeHeader {g0 : Nat → Int32} {ts0 ts : List T3} {M : sm_M} {q g ow pw : Nat} (hs : stq q) (hq8 : 11 < q) (hg : M q 0 = nI g) (how : M q 1 = nI ow) (hpw : M q 2 = nI pw) (hT : TC g0 ts0 M ts) : cr 51 2 50 [.ref 8, .ref 1, .ref q] M (fun v M1 => (∃ ts1 a b c, (∀ st, rp mkC (hdrP g ow pw) ts st = (ts1, c :: b :: a :: st)) ∧ v = none ∧ TC g0 ts0 M1 ts1 ∧ rowI (M1 9) [a, b, c]) ∧ ∀ p, (p = 0 ∨ 7 < p) → p ≠ 9 → M1 p = M p) := by
  intro X J rc rs d lw hd hw
  show sm_wp tb_T X tb_ok d lw 51 0 [some (.ref 8), some (.ref 1), some (.ref q), none, none, none] [] _ _
  obtain ⟨hq, hv, he, hm⟩ := hs
  refine go_al0 hf_51 rfl rfl ?_
  refine go_getr hf_51 ho_51 rfl fl_2_11 rfl (by first | assumption | rfl) rfl ?_
  refine go_iconst hf_51 rfl rfl ci_0 ?_
  refine go_al1 hf_51 rfl rfl ?_
  refine go_iconst hf_51 rfl rfl ci_1 ?_
  refine go_al2 hf_51 rfl rfl ?_
  refine go_get hf_51 ho_51 rfl fl_2_52 rfl (by first | assumption | rfl) rfl (by first | assumption | ((repeat rewrite [up_k]) <;> first | assumption | decide | omega) | exact rfl) ?_
  refine go_iconst hf_51 rfl rfl ci_m1 ?_
  refine go_call hf_51 rfl rfl (inv_v ho_51 cl_2_36) (by decide) nl_39 rfl rfl rfl rfl rfl (by first | rfl | exact rcv_of (by assumption)) rfl rfl rfl (by omega) (by omega) (c_make (by omega) hT (Or.inr ⟨0, okY_m1⟩)) ?_
  rintro v9 M1 ⟨⟨ts1, v1, e1, rfl, T1⟩, f1⟩
  refine go_iast hf_51 rfl rfl (by first | assumption | rfl) (by first | rfl | assumption) (by first | exact rfl | assumption) (by omega) ?_
  refine go_al0 hf_51 rfl rfl ?_
  refine go_getr hf_51 ho_51 rfl fl_2_11 rfl (by first | assumption | rfl) rfl ?_
  refine go_iconst hf_51 rfl rfl ci_1 ?_
  refine go_al1 hf_51 rfl rfl ?_
  refine go_iconst hf_51 rfl rfl ci_1 ?_
  refine go_al2 hf_51 rfl rfl ?_
  have how1 : sm_up M1 9 0 v1 q 1 = nI ow := by rw [up_k (by omega), f1 q (by omega)]; exact how
  refine go_get hf_51 ho_51 rfl fl_2_55 rfl (by first | assumption | rfl) rfl (by first | assumption | ((repeat rewrite [up_k]) <;> first | assumption | decide | omega) | exact rfl) ?_
  refine go_iconst hf_51 rfl rfl ci_m1 ?_
  refine go_call hf_51 rfl rfl (inv_v ho_51 cl_2_36) (by decide) nl_39 rfl rfl rfl rfl rfl (by first | rfl | exact rcv_of (by assumption)) rfl rfl rfl (by omega) (by omega) (c_make (by omega) (TC_up T1 (by omega)) (Or.inr ⟨0, okY_m1⟩)) ?_
  rintro v9 M2 ⟨⟨ts2, v2, e2, rfl, T2⟩, f2⟩
  refine go_iast hf_51 rfl rfl (by first | assumption | rfl) (by first | rfl | assumption) (by first | exact rfl | assumption) (by omega) ?_
  refine go_al1 hf_51 rfl rfl ?_
  refine go_iconst hf_51 rfl rfl ci_0 ?_
  refine go_al2 hf_51 rfl rfl ?_
  have hpw1 : sm_up M2 9 1 v2 q 2 = nI pw := by rw [up_k (by omega), f2 q (by omega), up_k (by omega), f1 q (by omega)]; exact hpw
  refine go_get hf_51 ho_51 rfl fl_2_58 rfl (by first | assumption | rfl) rfl (by first | assumption | ((repeat rewrite [up_k]) <;> first | assumption | decide | omega) | exact rfl) ?_
  refine go_iconst hf_51 rfl rfl ci_m1 ?_
  refine go_call hf_51 rfl rfl (inv_v ho_51 cl_2_36) (by decide) nl_39 rfl rfl rfl rfl rfl (by first | rfl | exact rcv_of (by assumption)) rfl rfl rfl (by omega) (by omega) (c_make (by omega) (TC_up T2 (by omega)) (Or.inr ⟨0, okY_m1⟩)) ?_
  rintro v9 M3 ⟨⟨ts3, v3, e3, rfl, T3⟩, f3⟩
  refine go_is3 hf_51 rfl rfl ?_
  refine go_al1 hf_51 rfl rfl ?_
  refine go_iconst hf_51 rfl rfl ci_0 ?_
  refine go_bipush hf_51 rfl rfl cb_8 ?_
  refine go_iconst hf_51 rfl rfl ci_m1 ?_
  refine go_call hf_51 rfl rfl (inv_v ho_51 cl_2_36) (by decide) nl_39 rfl rfl rfl rfl rfl (by first | rfl | exact rcv_of (by assumption)) rfl rfl rfl (by omega) (by omega) (c_make (by omega) T3 (Or.inr ⟨0, okY_m1⟩)) ?_
  rintro v9 M4 ⟨⟨ts4, v4, e4, rfl, T4⟩, f4⟩
  refine go_is4 hf_51 rfl rfl ?_
  refine go_al1 hf_51 rfl rfl ?_
  refine go_iconst hf_51 rfl rfl ci_2 ?_
  refine go_il3 hf_51 rfl rfl ?_
  refine go_il4 hf_51 rfl rfl ?_
  refine go_call hf_51 rfl rfl (inv_v ho_51 cl_2_36) (by decide) nl_39 rfl rfl rfl rfl rfl (by first | rfl | exact rcv_of (by assumption)) rfl rfl rfl (by omega) (by omega) (c_make (by omega) T4 (mkC_okY T3.u T4.l e4)) ?_
  rintro v9 M5 ⟨⟨ts5, v5, e5, rfl, T5⟩, f5⟩
  refine go_is5 hf_51 rfl rfl ?_
  refine go_al0 hf_51 rfl rfl ?_
  refine go_getr hf_51 ho_51 rfl fl_2_11 rfl (by first | assumption | rfl) rfl ?_
  refine go_iconst hf_51 rfl rfl ci_2 ?_
  refine go_al1 hf_51 rfl rfl ?_
  refine go_iconst hf_51 rfl rfl ci_3 ?_
  refine go_il5 hf_51 rfl rfl ?_
  refine go_al1 hf_51 rfl rfl ?_
  refine go_iconst hf_51 rfl rfl ci_0 ?_
  refine go_bipush hf_51 rfl rfl cb_9 ?_
  refine go_iconst hf_51 rfl rfl ci_m1 ?_
  refine go_call hf_51 rfl rfl (inv_v ho_51 cl_2_36) (by decide) nl_39 rfl rfl rfl rfl rfl (by first | rfl | exact rcv_of (by assumption)) rfl rfl rfl (by omega) (by omega) (c_make (by omega) T5 (Or.inr ⟨0, okY_m1⟩)) ?_
  rintro v9 M6 ⟨⟨ts6, v6, e6, rfl, T6⟩, f6⟩
  refine go_call hf_51 rfl rfl (inv_v ho_51 cl_2_36) (by decide) nl_39 rfl rfl rfl rfl rfl (by first | rfl | exact rcv_of (by assumption)) rfl rfl rfl (by omega) (by omega) (c_make (by omega) T6 (mkC_okY T5.u T6.l e6)) ?_
  rintro v9 M7 ⟨⟨ts7, v7, e7, rfl, T7⟩, f7⟩
  refine go_iast hf_51 rfl rfl (by first | assumption | rfl) (by first | rfl | assumption) (by first | exact rfl | assumption) (by omega) ?_
  refine go_ret0 hf_51 rfl nl_51 ?_
  refine ⟨_, _, rfl, rfl, ⟨ts7, v1, v2, v7, fun st => ?_, rfl, TC_up T7 (by omega), rowI_3 ?_ ?_ up_s⟩, fun p hp hp2 => ?_⟩
  · unfold hdrP
    rw [rp_0 e1, rp_0 e2, rp_0 e3, rp_0 e4, rp_1 e5, rp_0 e6, rp_1 e7]
    rfl
  · rw [up_i (by omega), f7 9 (by omega), f6 9 (by omega), f5 9 (by omega), f4 9 (by omega), f3 9 (by omega), up_i (by omega), f2 9 (by omega), up_s]
  · rw [up_i (by omega), f7 9 (by omega), f6 9 (by omega), f5 9 (by omega), f4 9 (by omega), f3 9 (by omega), up_s]
  · have k1 : ∀ (M : sm_M) i v, sm_up M 9 i v p = M p := fun M i v => by unfold sm_up; rw [if_neg hp2]
    rw [k1, f7 p hp, f6 p hp, f5 p hp, f4 p hp, f3 p hp, k1, f2 p hp, k1, f1 p hp]
theorem mkC_kind {ts ts1 : List T3} {k x y v1 : Int32} (h : mkC ts k x y = (ts1, v1)) (hv : ¬ v1 = -2) : ∃ (b : Nat) (x y : Int32), ts1[b]? = some (k, x, y) ∧ v1 = nI b := by
  by_cases h1 : x = -2 ∨ y = -2
  · rw [mkC_full h1] at h
    cases h
    exact absurd rfl hv
  by_cases h2 : ∃ i : Nat, ts[i]? = some (k, x, y)
  · rw [mkC_there h1 h2] at h
    cases h
    refine ⟨Classical.choose h2, x, y, Classical.choose_spec h2, ?_⟩
    unfold fnd
    rw [dif_pos h2]
  by_cases h3 : 900 ≤ ts.length
  · rw [mkC_no h1 h2 h3] at h
    cases h
    exact absurd rfl hv
  · rw [mkC_new h1 h2 h3] at h
    cases h
    exact ⟨ts.length, x, y, by simp, rfl⟩
theorem c_write {g0 : Nat → Int32} {ts : List T3} {M : sm_M} {q g ow pw : Nat} {vv : Nat → Nat} {l : List Nat} (hs : stq q) (hq8 : 11 < q) (hl : es M q l) (hg : M q 0 = nI g) (how : M q 1 = nI ow) (hpw : M q 2 = nI pw) (hvv : ∀ j, j < 3 → M (q + 1) j = nI (vv j)) (hT : TC g0 ts M ts) : cr 50 5 122 [.ref 8, .ref 1, .ref q] M (fun v M1 => (∃ ts1 v1, rp mkC (sealP g ow pw vv l) ts [] = (ts1, [v1]) ∧ v = some (.int v1) ∧ ts1.length ≤ 900 ∧ ((v1 = -2 ∧ TC g0 ts M1 ts) ∨ (¬ v1 = -2 ∧ TC g0 ts M1 ts1 ∧ ∃ (b : Nat) (x y : Int32), ts1[b]? = some (nI 4, x, y) ∧ v1 = nI b))) ∧ ∀ p, (p = 0 ∨ p = 8 ∨ 11 < p) → M1 p = M p) := by
  intro X J rc rs d lw hd hw
  show sm_wp tb_T X tb_ok d lw 50 0 [some (.ref 8), some (.ref 1), some (.ref q), none, none, none, none] [] _ _
  have hs0 := hs
  obtain ⟨hq, hv, he, hm⟩ := hs
  have hN : M 1 6 = nI ts.length := hT.2.1.1
  have loop : ∀ (n i : Nat) (rv : List Int32) (ts2 : List T3) (M2 : sm_M), i + n = 3 → rv.length = 3 + i → (∀ st, rp mkC (hdrP g ow pw ++ vecP vv i) ts st = (ts2, rv.reverse ++ st)) → rowI (M2 9) rv → TC g0 ts M2 ts2 → (∀ p, (p = 0 ∨ 7 < p) → p ≠ 9 → p ≠ 10 → p ≠ 11 → M2 p = M p) → sm_wp tb_T X tb_ok d lw 50 14 [some (.ref 8), some (.ref 1), some (.ref q), some (.int (nI ts.length)), some (.int (nI i)), none, none] [] (wSH, M2, J, rc, rs) (fun o h' => ∃ v M1, o = .inl v ∧ h' = (wSH, M1, J, rc, rs) ∧ (∃ ts1 v1, rp mkC (sealP g ow pw vv l) ts [] = (ts1, [v1]) ∧ v = some (.int v1) ∧ ts1.length ≤ 900 ∧ ((v1 = -2 ∧ TC g0 ts M1 ts) ∨ (¬ v1 = -2 ∧ TC g0 ts M1 ts1 ∧ ∃ (b : Nat) (x y : Int32), ts1[b]? = some (nI 4, x, y) ∧ v1 = nI b))) ∧ ∀ p, (p = 0 ∨ p = 8 ∨ 11 < p) → M1 p = M p) := by
    intro n
    induction n with
    | zero =>
      intro i rv ts2 M2 hi hrl hrp hrow hT2 hfr
      have ei : i = 3 := by omega
      subst ei
      have hl2 : es M2 q l := es_keep hl (hfr q (by omega) (by omega) (by omega) (by omega)) (hfr (q + 2) (by omega) (by omega) (by omega) (by omega))
      have hrl2 : nI 6 = nI rv.length := by rw [hrl]
      refine go_il4 hf_50 rfl rfl ?_
      refine go_iconst hf_50 rfl rfl ci_3 ?_
      first | refine go_nn_ge hf_50 rfl rfl rfl (by omega) (by omega) (fun h17 => ?_) (fun h17 => absurd h17 (by omega)) | refine go_ic_ge hf_50 rfl rfl rfl (fun h17 => ?_) (fun h17 => absurd h17 (by omega))
      refine go_al1 hf_50 rfl rfl ?_
      refine go_al0 hf_50 rfl rfl ?_
      refine go_getr hf_50 ho_50 rfl fl_2_11 rfl (by first | assumption | rfl) rfl ?_
      refine go_al0 hf_50 rfl rfl ?_
      refine go_getr hf_50 ho_50 rfl fl_2_11 rfl (by first | assumption | rfl) rfl ?_
      refine go_alen hf_50 rfl rfl (by first | assumption | rfl) ?_
      rw [hrl2]
      refine go_al0 hf_50 rfl rfl ?_
      refine go_al1 hf_50 rfl rfl ?_
      refine go_al2 hf_50 rfl rfl ?_
      refine go_call hf_50 rfl rfl (inv_v ho_50 cl_2_40) (by decide) nl_52 rfl rfl rfl rfl rfl (by first | rfl | exact rcv_of (by assumption)) rfl rfl rfl (by omega) (by omega) (c_writeEntries hs0 hq8 hl2 hT2) ?_
      rintro v9 M3 ⟨⟨ts3, v3, e3, rfl, T3, y3⟩, f3⟩
      refine go_call hf_50 rfl rfl (inv_v ho_50 cl_2_44) (by decide) nl_41 rfl rfl rfl rfl rfl (by first | rfl | exact rcv_of (by assumption)) rfl rfl rfl (by omega) (by omega) (c_makeList (vs := rv) (by omega) rfl rfl (by omega) (by omega) (by rw [f3 9 (by omega) (by omega) (by omega)]; exact hrow) T3 y3) ?_
      rintro v9 M4 ⟨⟨ts4, v4, e4, rfl, T4, y4⟩, f4⟩
      refine go_is4 hf_50 rfl rfl ?_
      refine go_al1 hf_50 rfl rfl ?_
      refine go_iconst hf_50 rfl rfl ci_5 ?_
      refine go_al1 hf_50 rfl rfl ?_
      refine go_iconst hf_50 rfl rfl ci_0 ?_
      refine go_bipush hf_50 rfl rfl cb_9 ?_
      refine go_iconst hf_50 rfl rfl ci_m1 ?_
      refine go_call hf_50 rfl rfl (inv_v ho_50 cl_2_36) (by decide) nl_39 rfl rfl rfl rfl rfl (by first | rfl | exact rcv_of (by assumption)) rfl rfl rfl (by omega) (by omega) (c_make (by omega) T4 (Or.inr ⟨0, okY_m1⟩)) ?_
      rintro v9 M5 ⟨⟨ts5, v5, e5, rfl, T5⟩, f5⟩
      refine go_il4 hf_50 rfl rfl ?_
      refine go_call hf_50 rfl rfl (inv_v ho_50 cl_2_36) (by decide) nl_39 rfl rfl rfl rfl rfl (by first | rfl | exact rcv_of (by assumption)) rfl rfl rfl (by omega) (by omega) (c_make (by omega) T5 y4) ?_
      rintro v9 M6 ⟨⟨ts6, v6, e6, rfl, T6⟩, f6⟩
      refine go_is5 hf_50 rfl rfl ?_
      refine go_al1 hf_50 rfl rfl ?_
      refine go_iconst hf_50 rfl rfl ci_4 ?_
      refine go_il4 hf_50 rfl rfl ?_
      refine go_il5 hf_50 rfl rfl ?_
      refine go_call hf_50 rfl rfl (inv_v ho_50 cl_2_36) (by decide) nl_39 rfl rfl rfl rfl rfl (by first | rfl | exact rcv_of (by assumption)) rfl rfl rfl (by omega) (by omega) (c_make (by omega) T6 (mkC_okY T5.u T6.l e6)) ?_
      rintro v9 M7 ⟨⟨ts7, v7, e7, rfl, T7⟩, f7⟩
      refine go_is6 hf_50 rfl rfl ?_
      refine go_il6 hf_50 rfl rfl ?_
      refine go_bipush hf_50 rfl rfl cb_m2 ?_
      refine go_ic_ne hf_50 rfl rfl rfl (fun h101 => ?_) (fun h101 => ?_)
      · refine go_il6 hf_50 rfl rfl ?_
        refine go_ret1 hf_50 rfl nl_50 ?_
        have hfin : ∀ p, (p = 0 ∨ p = 8 ∨ 11 < p) → M7 p = M p := fun p hp => by rw [f7 p (by omega), f6 p (by omega), f5 p (by omega), f4 p (by omega), f3 p (by omega) (by omega) (by omega)]; exact hfr p (by omega) (by omega) (by omega) (by omega)
        have hall : rp mkC (sealP g ow pw vv l) ts [] = (ts7, [v7]) := by
          unfold sealP
          rw [← List.append_assoc, rp_then (hrp []), rp_then (e3 _)]
          unfold endP
          have e4b : rp mkC (List.replicate 6 (1, 4, 0)) ts3 (v3 :: (rv.reverse ++ [])) = (ts4, [v4]) := by
            have h9 := e4 []
            rw [hrl] at h9
            exact h9
          rw [rp_then e4b, rp_3, rp_0 e5, rp_2 e6, rp_1 e7]
          rfl
        exact ⟨_, _, rfl, rfl, ⟨ts7, v7, hall, rfl, T7.l, Or.inr ⟨h101, T7, mkC_kind e7 h101⟩⟩, hfin⟩
      · refine go_al1 hf_50 rfl rfl ?_
        refine go_il3 hf_50 rfl rfl ?_
        refine go_call hf_50 rfl rfl (inv_v ho_50 cl_2_48) (by decide) nl_42 rfl rfl rfl rfl rfl (by first | rfl | exact rcv_of (by assumption)) rfl rfl rfl (by omega) (by omega) (c_cutBack T7) ?_
        rintro v9 M8 ⟨rfl, c1, c2⟩
        refine go_il6 hf_50 rfl rfl ?_
        refine go_ret1 hf_50 rfl nl_50 ?_
        have hfin : ∀ p, (p = 0 ∨ p = 8 ∨ 11 < p) → M7 p = M p := fun p hp => by rw [f7 p (by omega), f6 p (by omega), f5 p (by omega), f4 p (by omega), f3 p (by omega) (by omega) (by omega)]; exact hfr p (by omega) (by omega) (by omega) (by omega)
        have hall : rp mkC (sealP g ow pw vv l) ts [] = (ts7, [v7]) := by
          unfold sealP
          rw [← List.append_assoc, rp_then (hrp []), rp_then (e3 _)]
          unfold endP
          have e4b : rp mkC (List.replicate 6 (1, 4, 0)) ts3 (v3 :: (rv.reverse ++ [])) = (ts4, [v4]) := by
            have h9 := e4 []
            rw [hrl] at h9
            exact h9
          rw [rp_then e4b, rp_3, rp_0 e5, rp_2 e6, rp_1 e7]
          rfl
        exact ⟨_, _, rfl, rfl, ⟨ts7, v7, hall, rfl, T7.l, Or.inl ⟨h101, c1⟩⟩, fun p hp => by rw [c2 p (by omega)]; exact hfin p hp⟩
    | succ n ih =>
      intro i rv ts2 M2 hi hrl hrp hrow hT2 hfr
      have hvm : M2 (q + 1) i = nI (vv i) := by rw [hfr (q + 1) (by omega) (by omega) (by omega) (by omega)]; exact hvv i (by omega)
      refine go_il4 hf_50 rfl rfl ?_
      refine go_iconst hf_50 rfl rfl ci_3 ?_
      first | refine go_nn_ge hf_50 rfl rfl rfl (by omega) (by omega) (fun h17 => absurd h17 (by omega)) (fun h17 => ?_) | refine go_ic_ge hf_50 rfl rfl rfl (fun h17 => absurd h17 (by omega)) (fun h17 => ?_)
      refine go_al0 hf_50 rfl rfl ?_
      refine go_getr hf_50 ho_50 rfl fl_2_11 rfl (by first | assumption | rfl) rfl ?_
      refine go_iconst hf_50 rfl rfl ci_3 ?_
      refine go_il4 hf_50 rfl rfl ?_
      refine go_iadd hf_50 rfl rfl (by first | exact nI_add _ _ | exact rfl) ?_
      refine go_al1 hf_50 rfl rfl ?_
      refine go_iconst hf_50 rfl rfl ci_1 ?_
      refine go_al2 hf_50 rfl rfl ?_
      refine go_getr hf_50 ho_50 rfl fl_2_31 rfl (by first | assumption | rfl) rfl ?_
      refine go_il4 hf_50 rfl rfl ?_
      refine go_iald hf_50 rfl rfl (by first | assumption | rfl) (by first | rfl | assumption) (by first | exact rfl | assumption) (by omega) (by first | assumption | ((repeat rewrite [up_k]) <;> first | assumption | decide | omega) | exact rfl) ?_
      refine go_iconst hf_50 rfl rfl ci_m1 ?_
      refine go_call hf_50 rfl rfl (inv_v ho_50 cl_2_36) (by decide) nl_39 rfl rfl rfl rfl rfl (by first | rfl | exact rcv_of (by assumption)) rfl rfl rfl (by omega) (by omega) (c_make (by omega) hT2 (Or.inr ⟨0, okY_m1⟩)) ?_
      rintro v9 M3 ⟨⟨ts3, v3, e3, rfl, T3⟩, f3⟩
      refine go_iast hf_50 rfl rfl (by first | assumption | rfl) (by first | rfl | assumption) (by first | exact rfl | assumption) (by omega) ?_
      refine go_ic4 hf_50 rfl rfl (by first | exact inc1 _ | exact rfl) ?_
      refine go_goto hf_50 rfl rfl ?_
      refine ih (i + 1) (rv ++ [v3]) ts3 _ (by omega) (by simp [hrl]; omega) (fun st => ?_) ?_ (TC_up T3 (by omega)) (fun p hp hp2 hp3 hp4 => ?_)
      · have ev : vecP vv (i + 1) = vecP vv i ++ [(0, 1, vv i)] := by unfold vecP; rw [List.range_succ, List.map_append]; rfl
        rw [ev, ← List.append_assoc, rp_then (hrp st), rp_0 e3, List.reverse_append]
        rfl
      · refine rowI_snoc (g := M3 9) (by rw [f3 9 (by omega)]; exact hrow) (fun j hj => up_i (by omega)) (by rw [hrl]; exact up_s)
      · have k1 : sm_up M3 9 (3 + i) v3 p = M3 p := by unfold sm_up; rw [if_neg hp2]
        rw [k1, f3 p hp]
        exact hfr p hp hp2 hp3 hp4
  refine go_al1 hf_50 rfl rfl ?_
  refine go_get hf_50 ho_50 rfl fl_2_21 rfl (by first | assumption | rfl) rfl (by first | assumption | ((repeat rewrite [up_k]) <;> first | assumption | decide | omega) | exact rfl) ?_
  refine go_is3 hf_50 rfl rfl ?_
  refine go_al0 hf_50 rfl rfl ?_
  refine go_al1 hf_50 rfl rfl ?_
  refine go_al2 hf_50 rfl rfl ?_
  refine go_call hf_50 rfl rfl (inv_v ho_50 cl_2_27) (by decide) nl_51 rfl rfl rfl rfl rfl (by first | rfl | exact rcv_of (by assumption)) rfl rfl rfl (by omega) (by omega) (c_writeHeader hs0 hq8 hg how hpw hT) ?_
  rintro v9 M3 ⟨⟨ts3, a, b, c, e3, rfl, T3, hrow⟩, f3⟩
  refine go_iconst hf_50 rfl rfl ci_0 ?_
  refine go_is4 hf_50 rfl rfl ?_
  exact loop 3 0 [a, b, c] ts3 M3 (by omega) rfl (fun st => by rw [show vecP vv 0 = [] from rfl, List.append_nil]; exact e3 st) hrow T3 (fun p hp hp2 _ _ => f3 p hp hp2)
