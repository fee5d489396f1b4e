/-! ===== side by side: deliver ===== -/
theorem kn_nI {vv : Nat → Nat} {w : Nat} (hv : ∀ j, j < 3 → vv j < 1000) : kn (fun j => nI (vv j)) w ↔ w / 2048 % 4 < 3 ∧ w / 64 % 32 ≤ vv (w / 2048 % 4) := by
  unfold kn
  constructor
  · rintro ⟨a, b⟩
    exact ⟨a, (nI_leI (by omega) (by have := hv _ a; omega)).mp b⟩
  · rintro ⟨a, b⟩
    exact ⟨a, (nI_leI (by omega) (by have := hv _ a; omega)).mpr b⟩
theorem kn_ext {g g' : Nat → Int32} (h : ∀ j, j < 3 → g j = g' j) : (fun w => kn g w) = fun w => kn g' w := by
  funext w
  apply propext
  unfold kn
  constructor
  · rintro ⟨a, b⟩; exact ⟨a, by rw [← h _ a]; exact b⟩
  · rintro ⟨a, b⟩; exact ⟨a, by rw [h _ a]; exact b⟩
theorem mx_nI {a b : Nat} (ha : a < 1000) (hb : b < 1000) : mxI (nI a) (nI b) = nI (max a b) := by
  unfold mxI
  by_cases h : a < b
  · rw [if_pos ((nI_ltI (by omega) (by omega)).mpr h), Nat.max_eq_right (by omega)]
  · rw [if_neg (fun q => h ((nI_ltI (by omega) (by omega)).mp q)), Nat.max_eq_left (by omega)]
theorem mg_both {vv vv2 : Nat → Nat} {l l2 : List Nat} (hv : ∀ j, j < 3 → vv j < 1000) (hv2 : ∀ j, j < 3 → vv2 j < 1000) (s1 : srt l) (s2 : srt l2) (k1 : ∀ x ∈ l, kn (fun j => nI (vv j)) x) : (mg id (fun w => ¬ kn (fun j => nI (vv j)) w) l2 (mg id (fun w => w ∈ l2 ∨ ¬ kn (fun j => nI (vv2 j)) w) l [])) = (mg (fun w => w / 64) (fun w => ¬ w ∈ l ∧ ¬ kn (fun j => nI (vv j)) w) l2 (mg (fun w => w / 64) (fun w => w ∈ l2 ∨ ¬ kn (fun j => nI (vv2 j)) w) l [])) ∧ srt (mg (fun w => w / 64) (fun w => ¬ w ∈ l ∧ ¬ kn (fun j => nI (vv j)) w) l2 (mg (fun w => w / 64) (fun w => w ∈ l2 ∨ ¬ kn (fun j => nI (vv2 j)) w) l [])) ∧ ∀ y, y ∈ (mg (fun w => w / 64) (fun w => ¬ w ∈ l ∧ ¬ kn (fun j => nI (vv j)) w) l2 (mg (fun w => w / 64) (fun w => w ∈ l2 ∨ ¬ kn (fun j => nI (vv2 j)) w) l [])) → y ∈ l ∨ y ∈ l2 := by
  obtain ⟨i1, i2, i3⟩ := mg_alike (c := fun w => w ∈ l2 ∨ ¬ kn (fun j => nI (vv2 j)) w) (c' := fun w => w ∈ l2 ∨ ¬ kn (fun j => nI (vv2 j)) w) l [] s1 List.Pairwise.nil (fun _ _ _ x hx => by cases hx) (fun _ _ => Iff.rfl)
  rw [i1]
  have hd : ∀ w ∈ l2, (¬ w ∈ l ∧ ¬ kn (fun j => nI (vv j)) w) → ∀ x ∈ mg (fun w => w / 64) (fun w => w ∈ l2 ∨ ¬ kn (fun j => nI (vv2 j)) w) l [], ¬ x / 64 = w / 64 := by
    intro w hw hc x hx e
    have hxl : x ∈ l := by
      rcases (i3 x).mp hx with hx | hx
      · cases hx
      · exact hx.1
    have := (kn_nI hv).mp (k1 x hxl)
    refine hc.2 ((kn_nI hv).mpr ?_)
    have e1 : w / 2048 % 4 = x / 2048 % 4 := by omega
    have e2 : w / 64 % 32 = x / 64 % 32 := by omega
    rw [e1, e2]
    exact this
  have hcc : ∀ w ∈ l2, (¬ kn (fun j => nI (vv j)) w ↔ ¬ w ∈ l ∧ ¬ kn (fun j => nI (vv j)) w) := by
    intro w hw
    constructor
    · intro hc
      exact ⟨fun hl => hc (k1 w hl), hc⟩
    · intro hc; exact hc.2
  obtain ⟨j1, j2, j3⟩ := mg_alike (c := fun w => ¬ kn (fun j => nI (vv j)) w) (c' := fun w => ¬ w ∈ l ∧ ¬ kn (fun j => nI (vv j)) w) l2 _ s2 i2 hd hcc
  refine ⟨j1, j2, fun y hy => ?_⟩
  rcases (j3 y).mp hy with hy | hy
  · rcases (i3 y).mp hy with hy | hy
    · cases hy
    · exact Or.inl hy.1
  · exact Or.inr hy.1
/-- the same step at both: a device takes a seal -/
theorem tr_both {M Mc M1 Mr M2 : sm_M} {ts : List T3} {ms ms' : List Msg} {k : Nat} {t : Int32} {g ow pw : Nat} {vv : Nat → Nat} {l : List Nat} (h : Rel2 M ts ms) (hk : k < 3) (hvt : vt ts.length t) (d1 : dC M (18 + 6 * k) g ow pw vv l) (d2 : dR M k g ow pw vv l) (d3 : dI g ow pw vv l) (d4 : dX M k (18 + 6 * k)) (d5 : vt ts.length (M 57 k))
    (fc : ∀ p j, p < 40 → (p < 12 ∨ 16 < p) → Mc p j = M p j) (fcR : ∀ p, 40 ≤ p → Mc p = M p) (hc : trC Mc (18 + 6 * k) ts t l M1) (mc : ml (Mc 12 4) (Mc 13) (Mc 14) (Mc 15) (Mc 16) ms') (mr : ml (Mr 40 20) (Mr 58) (Mr 59) (Mr 60) (Mr 61) ms') (hms : ∀ x ∈ ms', okM ts.length x)
    (fr : ∀ p j, ¬ (p = 40 ∧ (j = 0 ∨ j = 20)) → (p < 58 ∨ 61 < p) → Mr p j = M1 p j) (hr : trR Mr k ts t l M2) : Rel M2 := by
  obtain ⟨h1, h2, h3, h4⟩ := id h
  have h9 := h1.1.1.2.1.2.1
  have ag := T_agree h1
  -- the class has not touched the reference
  have c40 : ∀ p, 40 ≤ p → M1 p = M p := fun p hp => by
    rcases hc with ⟨-, f⟩ | ⟨g2, ow2, pw2, vv2, l2, -, -, -, -, -, -, -, -, f⟩
    · rw [f p (by omega) (by omega)]; exact fcR p hp
    · rw [f p (by omega) (by omega)]; exact fcR p hp
  have r40 : ∀ p j, 40 ≤ p → ¬ (p = 40 ∧ (j = 0 ∨ j = 20)) → (p < 58 ∨ 61 < p) → Mr p j = M p j := fun p j g1 g2 g3 => by rw [fr p j g2 g3, c40 p g1]
  have r39 : ∀ p j, p < 40 → Mr p j = M1 p j := fun p j hp => fr p j (by omega) (by omega)
  have m39 : ∀ p j, p < 40 → M2 p j = M1 p j := fun p j hp => by
    rcases hr with ⟨-, f⟩ | ⟨g2, ow2, pw2, vv2, l2, -, -, -, -, -, -, -, f⟩
    · rw [f p j (by omega) (by omega) (by omega) (by omega) (by omega)]; exact r39 p j hp
    · rw [f p j (by omega) (by omega) (by omega) (by omega) (by omega) (by omega) (by omega)]; exact r39 p j hp
  have c12 : ∀ p j, 12 ≤ p → p ≤ 16 → M1 p j = Mc p j := fun p j g1 g2 => by
    rcases hc with ⟨-, f⟩ | ⟨g2, ow2, pw2, vv2, l2, -, -, -, -, -, -, -, -, f⟩
    · rw [f p (by omega) (by omega)]
    · rw [f p (by omega) (by omega)]
  have mail : ml (M2 12 4) (M2 13) (M2 14) (M2 15) (M2 16) ms' ∧ ml (M2 40 20) (M2 58) (M2 59) (M2 60) (M2 61) ms' := by
    have e : ∀ p, 12 ≤ p → p ≤ 16 → M2 p = Mc p := fun p g1 g2 => funext fun j => by rw [m39 p j (by omega), c12 p j g1 g2]
    have e2 : ∀ p j, (p = 40 ∧ j = 20) ∨ (58 ≤ p ∧ p ≤ 61) → M2 p j = Mr p j := fun p j hp => by
      rcases hr with ⟨-, f⟩ | ⟨g2, ow2, pw2, vv2, l2, -, -, -, -, -, -, -, f⟩
      · exact f p j (by omega) (by omega) (by omega) (by omega) (by omega)
      · exact f p j (by omega) (by omega) (by omega) (by omega) (by omega) (by omega) (by omega)
    rw [e 12 (by omega) (by omega), e 13 (by omega) (by omega), e 14 (by omega) (by omega), e 15 (by omega) (by omega), e 16 (by omega) (by omega), e2 40 20 (by omega), show M2 58 = Mr 58 from funext fun j => e2 58 j (by omega), show M2 59 = Mr 59 from funext fun j => e2 59 j (by omega), show M2 60 = Mr 60 from funext fun j => e2 60 j (by omega), show M2 61 = Mr 61 from funext fun j => e2 61 j (by omega)]
    exact ⟨mc, mr⟩
  -- all but this device
  have frd : frD k M M2 → RelD M2 ts.length k → Rel M2 := fun hf hd => by
    refine ⟨ts, ms', ?_, ⟨mail.1, mail.2, hms⟩, ?_, fun k' hk' => ?_⟩
    · exact frD_T hf hk h1
    · exact RelH_keep (Nat.le_refl _) h3 (hf.1 _ _ (by omega) (by omega)) (hf.2 _ _ (by omega) (by omega) (by omega) (by unfold devR; omega))
    · by_cases e : k' = k
      · subst e; exact hd
      · exact frD_o hf hk hk' e (h4 k' hk')
  obtain ⟨o1, o2⟩ := op_iff d4
  obtain ⟨i1, i2, i3, i4, i5, i6, i7⟩ := id d3
  have hvv : ∀ j, j < 3 → vv j < 1000 := fun j hj => by have := i4 j hj; omega
  have k1 : ∀ x ∈ l, kn (fun j => nI (vv j)) x := fun x hx => (kn_nI hvv).mpr (i7 x hx).2
  have eSL : SL (Mc 2) (Mc 3) (Mc 4) ts.length = SL (Mr 41) (Mr 42) (Mr 43) ts.length := SL_eq (by omega) (fun i hi => by rw [fc _ _ (by omega) (by omega), r40 _ _ (by omega) (by omega) (by omega)]; exact (ag i hi).1) (fun i hi => by rw [fc _ _ (by omega) (by omega), r40 _ _ (by omega) (by omega) (by omega)]; exact (ag i hi).2.1) (fun i hi => by rw [fc _ _ (by omega) (by omega), r40 _ _ (by omega) (by omega) (by omega)]; exact (ag i hi).2.2)
  have ecv : (fun w => kn (Mc (18 + 6 * k + 1 + 1)) w) = fun w => kn (fun j => nI (vv j)) w := kn_ext (fun j hj => by rw [fc _ _ (by omega) (by omega)]; exact d1.2.2.2.1 j hj)
  have erv : (fun w => kn (fun j => Mr 49 (3 * k + j)) w) = fun w => kn (fun j => nI (vv j)) w := kn_ext (fun j hj => by rw [r40 _ _ (by omega) (by omega) (by omega)]; exact d2.2.2.2.1 j hj)
  have ec : ∀ w, kn (Mc (18 + 6 * k + 1 + 1)) w = kn (fun j => nI (vv j)) w := fun w => congrFun ecv w
  have er : ∀ w, kn (fun j => Mr 49 (3 * k + j)) w = kn (fun j => nI (vv j)) w := fun w => congrFun erv w
  unfold trC at hc
  unfold trR at hr
  simp only [ec] at hc
  simp only [er] at hr
  rw [eSL] at hc
  -- the seal's own state
  have sok : ∀ g2 ow2 pw2 vv2 l2, SL (Mr 41) (Mr 42) (Mr 43) ts.length t g2 ow2 pw2 vv2 l2 → (∀ j, j < 3 → vv2 j < 31) ∧ srt l2 ∧ ∀ w ∈ l2, w < 32768 ∧ kn (fun j => nI (vv2 j)) w := fun g2 ow2 pw2 vv2 l2 hS => by
    obtain ⟨-, -, -, -, -, -, -, -, -, a10, a11⟩ := hS
    exact ⟨fun j hj => (a10 j hj).2, rdL_srt _ _ _ _ a11 ⟨List.Pairwise.nil, fun w hw => by cases hw⟩⟩
  have acc : ∀ g2 ow2 pw2 vv2 l2, SL (Mr 41) (Mr 42) (Mr 43) ts.length t g2 ow2 pw2 vv2 l2 → ((Mc (18 + 6 * k) 3 = 0 ∧ (∀ j, j < 3 → Mc (18 + 6 * k + 5) j ≤ nI (vv2 j)) ∧ (mg id (fun w => ¬ kn (fun j => nI (vv j)) w) l2 (mg id (fun w => w ∈ l2 ∨ ¬ kn (fun j => nI (vv2 j)) w) l [])).length ≤ 12) ↔ (Mr 55 k = 1 ∧ (∀ j, j < 3 → Mr 56 (3 * k + j) ≤ nI (vv2 j)) ∧ (mg (fun w => w / 64) (fun w => ¬ w ∈ l ∧ ¬ kn (fun j => nI (vv j)) w) l2 (mg (fun w => w / 64) (fun w => w ∈ l2 ∨ ¬ kn (fun j => nI (vv2 j)) w) l [])).length ≤ 12)) := fun g2 ow2 pw2 vv2 l2 hS => by
    obtain ⟨b1, b2, b3⟩ := sok _ _ _ _ _ hS
    rw [(mg_both hvv (fun j hj => by have := b1 j hj; omega) i5 b2 k1).1, fc _ _ (by omega) (by omega), r40 _ _ (by omega) (by omega) (by omega), o1]
    have e : (∀ j, j < 3 → Mc (18 + 6 * k + 5) j ≤ nI (vv2 j)) ↔ (∀ j, j < 3 → Mr 56 (3 * k + j) ≤ nI (vv2 j)) := by
      constructor
      · intro hh j hj
        have := hh j hj
        rw [fc _ _ (by omega) (by omega), d4.1 j hj] at this
        rw [r40 _ _ (by omega) (by omega) (by omega)]
        exact this
      · intro hh j hj
        have := hh j hj
        rw [r40 _ _ (by omega) (by omega) (by omega)] at this
        rw [fc _ _ (by omega) (by omega), d4.1 j hj]
        exact this
    rw [e]
  rcases hc with ⟨n1, f1⟩ | ⟨g2, ow2, pw2, vv2, l2, hS, hA, q1, q2, q3, q4, q5, q6, q7⟩ <;> rcases hr with ⟨n2, f2⟩ | ⟨g3, ow3, pw3, vv3, l3, hS3, hA3, r1, r2, r3, r4, r5, r6⟩
  · have em : ∀ p j, p < 40 → ¬ (12 ≤ p ∧ p ≤ 16) → p ≠ 18 + 6 * k + 1 + 3 → (p < 36 ∨ 38 < p) → M2 p j = M p j := fun p j g1 g2 g3 g4 => by rw [m39 p j g1, f1 p g3 g4]; exact fc p j g1 (by omega)
    have er2 : ∀ p j, 40 ≤ p → ¬ (p = 40 ∧ (j = 0 ∨ j = 20 ∨ j = 26 ∨ j = 27)) → ¬ (46 ≤ p ∧ p ≤ 48 ∧ 3 ≤ j) → ¬ (p = 49 ∧ 9 ≤ j) → ¬ (p = 50 ∧ 3 ≤ j) → ¬ (51 ≤ p ∧ p ≤ 54 ∧ 36 ≤ j) → (p < 58 ∨ 61 < p) → M2 p j = M p j := fun p j g1 g2 g3 g4 g5 g6 g7 => by rw [f2 p j (by omega) g3 g4 g5 g6]; exact r40 p j g1 (by omega) g7
    refine ⟨ts, ms', ?_, ⟨mail.1, mail.2, hms⟩, ?_, fun k' hk' => ?_⟩
    · exact RelT_keep h1 (fun p g1 g2 => funext fun j => em _ _ (by omega) (by omega) (by omega) (by omega)) (er2 _ _ (by omega) (by omega) (by omega) (by omega) (by omega) (by omega) (by omega)) (er2 _ _ (by omega) (by omega) (by omega) (by omega) (by omega) (by omega) (by omega)) (fun p g1 g2 => funext fun j => er2 _ _ (by omega) (by omega) (by omega) (by omega) (by omega) (by omega) (by omega)) (fun j _ => er2 _ _ (by omega) (by omega) (by omega) (by omega) (by omega) (by omega) (by omega))
    · exact RelH_keep (Nat.le_refl _) h3 (em _ _ (by omega) (by omega) (by omega) (by omega)) (er2 _ _ (by omega) (by omega) (by omega) (by omega) (by omega) (by omega) (by omega))
    · refine RelD_keep (Nat.le_refl _) (h4 k' hk') ⟨fun p j g1 g2 g3 => ?_, fun p g1 g2 => er2 _ _ (by omega) (by omega) (by omega) (by omega) (by omega) (by omega) (by omega), fun j _ => er2 _ _ (by omega) (by omega) (by omega) (by omega) (by omega) (by omega) (by omega), er2 _ _ (by omega) (by omega) (by omega) (by omega) (by omega) (by omega) (by omega), fun p j _ _ _ _ => er2 _ _ (by omega) (by omega) (by omega) (by omega) (by omega) (by omega) (by omega), er2 _ _ (by omega) (by omega) (by omega) (by omega) (by omega) (by omega) (by omega), fun j _ => er2 _ _ (by omega) (by omega) (by omega) (by omega) (by omega) (by omega) (by omega), er2 _ _ (by omega) (by omega) (by omega) (by omega) (by omega) (by omega) (by omega)⟩
      exact em _ _ (by omega) (by omega) (by omega) (by omega)
  · exact absurd ((acc _ _ _ _ _ hS3).mpr hA3) (n1 _ _ _ _ _ hS3)
  · exact absurd ((acc _ _ _ _ _ hS).mp hA) (n2 _ _ _ _ _ hS)
  · obtain ⟨e1, e2, e3, e4, e5⟩ := SL_fun hS3 hS
    subst e1 e2 e3 e5
    obtain ⟨b1, b2, b3⟩ := sok _ _ _ _ _ hS
    have hb2 : ∀ j, j < 3 → vv2 j < 1000 := fun j hj => by have := b1 j hj; omega
    have e4' : (fun w => w ∈ l3 ∨ ¬ kn (fun j => nI (vv3 j)) w) = fun w => w ∈ l3 ∨ ¬ kn (fun j => nI (vv2 j)) w := by
      have e := kn_ext (g := fun j => nI (vv3 j)) (g' := fun j => nI (vv2 j)) (fun j hj => by show nI (vv3 j) = nI (vv2 j); rw [e4 j hj])
      funext w
      rw [congrFun e w]
    rw [e4'] at r1 hA3
    obtain ⟨t1, t2, t3⟩ := mg_both hvv hb2 i5 b2 k1
    rw [t1] at q1
    have hlen := hA3.2.2
    have em : ∀ p j, p < 40 → ¬ (12 ≤ p ∧ p ≤ 16) → (p < 18 + 6 * k ∨ 18 + 6 * k + 5 < p) → (p < 36 ∨ 38 < p) → M2 p j = M p j := fun p j g1 g2 g3 g4 => by rw [m39 p j g1, q7 p g3 g4]; exact fc p j g1 (by omega)
    obtain ⟨-, -, -, -, a5, -, a7, -, a9, a10, -⟩ := id hS
    have eg : Mc (18 + 6 * k + 1) 0 = nI g := by rw [fc _ _ (by omega) (by omega)]; exact d1.1
    have eo : Mc (18 + 6 * k + 1) 1 = nI ow := by rw [fc _ _ (by omega) (by omega)]; exact d1.2.1
    have ep : Mc (18 + 6 * k + 1) 2 = nI pw := by rw [fc _ _ (by omega) (by omega)]; exact d1.2.2.1
    have rg : Mr 46 k = nI g := by rw [r40 _ _ (by omega) (by omega) (by omega)]; exact d2.1
    have ro : Mr 47 k = nI ow := by rw [r40 _ _ (by omega) (by omega) (by omega)]; exact d2.2.1
    have rp' : Mr 48 k = nI pw := by rw [r40 _ _ (by omega) (by omega) (by omega)]; exact d2.2.2.1
    rw [eg, eo] at q3
    rw [rg, ro] at r3
    -- the header, both
    obtain ⟨gN, oN, pN, hh, hG, cG, rG⟩ : ∃ gN oN pN, (gN ≤ 30 ∧ oN < 3 ∧ pN < 8) ∧ True ∧ (M1 (18 + 6 * k + 1) 0 = nI gN ∧ M1 (18 + 6 * k + 1) 1 = nI oN ∧ M1 (18 + 6 * k + 1) 2 = nI pN) ∧ (M2 46 k = nI gN ∧ M2 47 k = nI oN ∧ M2 48 k = nI pN) := by
      rcases q3 with ⟨x1, x2, x3, x4⟩ | ⟨x1, x2⟩ <;> rcases r3 with ⟨y1, y2, y3, y4⟩ | ⟨y1, y2, y3, y4⟩
      · exact ⟨g3, ow3, pw3, ⟨by omega, a7, a9⟩, trivial, ⟨x2, x3, x4⟩, ⟨y2, y3, y4⟩⟩
      · exact absurd x1 y1
      · exact absurd y1 x1
      · refine ⟨g, ow, pw, ⟨i1, i2, i3⟩, trivial, ⟨?_, ?_, ?_⟩, ⟨y2, y3, y4.trans rp'⟩⟩
        · rw [x2 0 (by omega)]; exact eg
        · rw [x2 1 (by omega)]; exact eo
        · rw [x2 2 (by omega)]; exact ep
    have vC : ∀ j, j < 3 → M1 (18 + 6 * k + 1 + 1) j = nI (max (vv j) (vv2 j)) := fun j hj => by
      rw [q2 j hj, fc _ _ (by omega) (by omega), d1.2.2.2.1 j hj]
      exact mx_nI (hvv j hj) (hb2 j hj)
    have vR : ∀ j, j < 3 → M2 49 (3 * k + j) = nI (max (vv j) (vv2 j)) := fun j hj => by
      rw [r2 j hj, r40 _ _ (by omega) (by omega) (by omega), d2.2.2.2.1 j hj, e4 j hj]
      exact mx_nI (hvv j hj) (hb2 j hj)
    have y6 : ∀ p j, 40 ≤ p → ¬ (p = 40 ∧ (j = 0 ∨ j = 20 ∨ j = 26 ∨ j = 27)) → ¬ devR k p j → p ≠ 45 → (p < 58 ∨ 61 < p) → M2 p j = M p j := fun p j g1 g2 g3 g4 g5 => by
      unfold devR at g3
      rw [r6 p j (by omega) (by omega) (by omega) (by omega) (by omega) (by omega) (by omega)]
      exact r40 p j g1 (by omega) g5
    have h55 : M2 55 k = M 55 k := by
      rw [r6 _ _ (by omega) (by omega) (by omega) (by omega) (by omega) (by omega) (by omega)]
      exact r40 _ _ (by omega) (by omega) (by omega)
    refine ⟨ts, ms', ?_, ⟨mail.1, mail.2, hms⟩, ?_, fun k' hk' => ?_⟩
    · exact RelT_keep h1 (fun p g1 g2 => funext fun j => em _ _ (by omega) (by omega) (by omega) (by omega)) (y6 _ _ (by omega) (by omega) (by unfold devR; omega) (by omega) (by omega)) (y6 _ _ (by omega) (by omega) (by unfold devR; omega) (by omega) (by omega)) (fun p g1 g2 => funext fun j => y6 _ _ (by omega) (by omega) (by unfold devR; omega) (by omega) (by omega)) (fun j _ => y6 _ _ (by omega) (by omega) (by unfold devR; omega) (by omega) (by omega))
    · exact RelH_keep (Nat.le_refl _) h3 (em _ _ (by omega) (by omega) (by omega) (by omega)) (y6 _ _ (by omega) (by omega) (by unfold devR; omega) (by omega) (by omega))
    · by_cases e : k' = k
      · subst e
        refine ⟨gN, oN, pN, fun j => max (vv j) (vv2 j), _, ⟨?_, ?_, ?_, fun j hj => ?_, ?_⟩, ⟨rG.1, rG.2.1, rG.2.2, vR, r1⟩, ⟨hh.1, hh.2.1, hh.2.2, fun j hj => ?_, t2, hlen, fun x hx => ?_⟩, ⟨fun j hj => ?_, ?_, ?_, ?_⟩, ?_⟩
        · rw [m39 _ _ (by omega)]; exact cG.1
        · rw [m39 _ _ (by omega)]; exact cG.2.1
        · rw [m39 _ _ (by omega)]; exact cG.2.2
        · rw [m39 _ _ (by omega)]; exact vC j hj
        · refine ⟨?_, q1.2.1, row_congr q1.2.2 (fun j _ => ?_)⟩
          · rw [m39 _ _ (by omega)]; exact q1.1
          · rw [m39 _ _ (by omega)]
        · show max (vv j) (vv2 j) ≤ 30
          have := i4 j hj
          have := b1 j hj
          omega
        · rcases t3 x hx with hx | hx
          · obtain ⟨u1, u2, u3⟩ := i7 x hx
            exact ⟨u1, u2, Nat.le_trans u3 (Nat.le_max_left _ _)⟩
          · obtain ⟨u1, u2⟩ := b3 x hx
            obtain ⟨u2, u3⟩ := (kn_nI hb2).mp u2
            exact ⟨u1, u2, Nat.le_trans u3 (Nat.le_max_right _ _)⟩
        · rw [m39 _ _ (by omega), q4 j hj, r4 j hj, e4 j hj]
        · rw [m39 _ _ (by omega), q5, r5]
        · rw [h55]; exact d4.2.2.1
        · rw [m39 _ _ (by omega), q6, fc _ _ (by omega) (by omega), h55]; exact d4.2.2.2
        · rw [r5]; exact hvt
      · refine RelD_keep (Nat.le_refl _) (h4 k' hk') ⟨fun p j g1 g2 g3 => em _ _ (by omega) (by omega) (by omega) (by omega), fun p g1 g2 => y6 _ _ (by omega) (by omega) (by unfold devR; omega) (by omega) (by omega), fun j _ => y6 _ _ (by omega) (by omega) (by unfold devR; omega) (by omega) (by omega), y6 _ _ (by omega) (by omega) (by unfold devR; omega) (by omega) (by omega), fun p j _ _ _ _ => y6 _ _ (by omega) (by omega) (by unfold devR; omega) (by omega) (by omega), y6 _ _ (by omega) (by omega) (by unfold devR; omega) (by omega) (by omega), fun j _ => y6 _ _ (by omega) (by omega) (by unfold devR; omega) (by omega) (by omega), y6 _ _ (by omega) (by omega) (by unfold devR; omega) (by omega) (by omega)⟩
theorem g_deliver {M : sm_M} {a0 : Int32} (h : Rel M) : two 1 [.ref 0, .int a0] 96 [.ref 40, .int a0] M := by
  obtain ⟨ts, ms, h2⟩ := id h
  obtain ⟨h1, hm, h3, h4⟩ := id h2
  have h9 := h1.1.1.2.1.2.1
  have h12 := hm.1.2.1
  by_cases hb : ∃ i, i < ms.length ∧ a0 = nI i
  · obtain ⟨i, hi, rfl⟩ := hb
    obtain ⟨x, hx⟩ : ∃ x, ms[i]? = some x := ⟨ms[i], List.getElem?_eq_getElem hi⟩
    obtain ⟨kd, a, b, t⟩ := x
    obtain ⟨ok1, ⟨k, hk, ok2⟩, ok3, ok4⟩ := hm.2.2 _ (List.mem_of_getElem? hx)
    have ok2 : a = nI k := ok2
    have ok4 : vt ts.length t := ok4
    have hms : ∀ x ∈ ms.eraseIdx i, okM ts.length x := fun x hx => hm.2.2 x (List.mem_of_mem_eraseIdx hx)
    subst ok2
    by_cases hkd : kd = nI 2
    · subst hkd
      obtain ⟨g, ow, pw, vv, l, d1, d2, d3, d4, d5⟩ := h4 k hk
      refine cr_le (c_deliverR hm.1 hx (dvq_k hk) d1 (by rw [d4.2.2.2]; exact bI_01) h1.1 h1.2.2.2) (by omega) (by omega) (fun v M1 hp => ?_)
      obtain ⟨rfl, Mc, q1, q2, q3⟩ := hp
      refine ⟨_, rfl, ?_⟩
      have fcR : ∀ p, 40 ≤ p → Mc p = M p := fun p hp => funext fun j => q2 p j (by omega) (by omega)
      have fR : ∀ p, 40 ≤ p → M1 p = M p := fun p hp => by
        rcases q3 with ⟨-, f⟩ | ⟨g2, ow2, pw2, vv2, l2, -, -, -, -, -, -, -, -, f⟩
        · rw [f p (by omega) (by omega)]; exact fcR p hp
        · rw [f p (by omega) (by omega)]; exact fcR p hp
      refine cr_le (r_deliverR (ms := ms) (ts := ts) (l := l) hk (by rw [fR 40 (by omega), fR 58 (by omega), fR 59 (by omega), fR 60 (by omega), fR 61 (by omega)]; exact hm.2.1) hx (RW_keep h1.2.1 (by rw [fR 40 (by omega)]) (by rw [fR 40 (by omega)]) (fun p _ _ => fR p (by omega))) h1.1.2 (by rw [fR 55 (by omega)]; exact d4.2.2.1) ⟨by rw [fR 50 (by omega)]; exact d2.2.2.2.2.1, qrow_congr d2.2.2.2.2.2 (fun p j _ _ _ => by rw [fR p (by omega)])⟩ d3.2.2.2.2.2.1 (fun w hw => (d3.2.2.2.2.2.2 w hw).2.1) ok4) (by omega) (by omega) (fun v' M2 hp => ?_)
      obtain ⟨rfl, Mr, r1, r2, r3, r4⟩ := hp
      exact ⟨rfl, tr_both h2 hk ok4 d1 d2 d3 d4 d5 (fun p j g1 g2 => q2 p j (by omega) (by omega)) fcR q3 q1 r1 hms r3 r4⟩
    · refine cr_le (c_deliverS hm.1 hx hkd h1.1 h1.2.2.2) (by omega) (by omega) (fun v M1 hp => ?_)
      obtain ⟨rfl, tw, ox, mc, eh, fc⟩ := hp
      refine ⟨_, rfl, ?_⟩
      have fR : ∀ p, 40 ≤ p → M1 p = M p := fun p hp => funext fun j => fc p j (by omega) (by omega) (by omega)
      refine cr_le (r_deliverS (ms := ms) (ts := ts) (by rw [fR 40 (by omega), fR 58 (by omega), fR 59 (by omega), fR 60 (by omega), fR 61 (by omega)]; exact hm.2.1) hx hkd (RW_keep h1.2.1 (by rw [fR 40 (by omega)]) (by rw [fR 40 (by omega)]) (fun p _ _ => fR p (by omega))) ok4 (by rw [fR 40 (by omega)]; exact h3.2)) (by omega) (by omega) (fun v' M2 hp => ?_)
      obtain ⟨rfl, rw2, g44, mr, rh, r0, fs⟩ := hp
      rw [fR 40 (by omega), ← h3.1] at g44 mr rh
      rw [fR 44 (by omega)] at g44
      have ec : ∀ p j, p < 40 → M2 p j = M1 p j := fun p j hp => fs p j (by omega) (by omega) (by omega)
      have cc : ∀ p j, p < 40 → ¬ (p = 0 ∧ j = 5) → p ≠ 5 → (p < 12 ∨ 16 < p) → M2 p j = M p j := fun p j g1 g2 g3 g4 => by rw [ec p j g1, fc p j g2 g3 g4]
      have er : ∀ p j, 40 ≤ p → ¬ (p = 40 ∧ (j = 0 ∨ j = 20 ∨ j = 25)) → p ≠ 44 → (p < 58 ∨ 61 < p) → M2 p j = M p j := fun p j g1 g2 g3 g4 => by rw [fs p j g2 g3 g4, fR p g1]
      have hvh : vt ts.length (hdN kd b t (M 0 5)) := by
        unfold hdN
        split
        · exact ok4
        · rw [h3.1]; exact h3.2
      have ok2' : okM ts.length (nI 2, nI k, -1, hdN kd b t (M 0 5)) := ⟨Or.inr (Or.inr rfl), ⟨k, hk, rfl⟩, Or.inl rfl, hvh⟩
      refine ⟨rfl, ts, _, RelT_mk tw (fun p g1 g2 => funext fun j => ec p j (by omega)) rw2 (fun j hj => ?_) (fun j hj => ?_) ox, ⟨?_, mr, ok_snoc hms ok2'⟩, ⟨?_, ?_⟩, fun k' hk' => ?_⟩
      · refine g01 (N := 0) (g44 j hj) ?_
        exact h1.2.2.1 j hj
      · rw [g44 j hj]
        by_cases e : hdN kd b t (M 0 5) = nI j
        · rw [if_pos e]; exact ⟨fun _ => rfl, fun _ => Or.inr e⟩
        · rw [if_neg e]; exact ⟨fun q => q.elim id (fun q => absurd q e), Or.inl⟩
      · rw [show M2 12 = M1 12 from funext fun j => ec 12 j (by omega), show M2 13 = M1 13 from funext fun j => ec 13 j (by omega), show M2 14 = M1 14 from funext fun j => ec 14 j (by omega), show M2 15 = M1 15 from funext fun j => ec 15 j (by omega), show M2 16 = M1 16 from funext fun j => ec 16 j (by omega)]
        exact mc
      · rw [ec 0 5 (by omega), eh, rh]
      · rw [rh]; exact hvh
      · exact kD2 (Nat.le_refl _) hk' (h4 k' hk') (fun p j _ _ => cc _ _ (by omega) (by omega) (by omega) (by omega)) (fun p j _ _ => er _ _ (by omega) (by omega) (by omega) (by omega))
  · refine cr_le (c_deliver0 hm.1 hb) (by omega) (by omega) (fun v M1 hp => ?_)
    obtain ⟨rfl, rfl⟩ := hp
    refine ⟨_, rfl, cr_le (r_deliver0 hm.2.1 hb) (by omega) (by omega) (fun v' M2 hp => ?_)⟩
    obtain ⟨rfl, rfl⟩ := hp
    exact ⟨rfl, Rel_keep h keepA_0⟩
