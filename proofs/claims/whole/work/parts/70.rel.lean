/-! ===== class and reference side by side ===== -/
def dI (g ow pw : Nat) (vv : Nat → Nat) (l : List Nat) : Prop := g ≤ 30 ∧ ow < 3 ∧ pw < 8 ∧ (∀ j, j < 3 → vv j ≤ 30) ∧ srt l ∧ l.length ≤ 12 ∧ ∀ w ∈ l, w < 32768 ∧ w / 2048 % 4 < 3 ∧ w / 64 % 32 ≤ vv (w / 2048 % 4)
def dX (M : sm_M) (k q : Nat) : Prop := (∀ j, j < 3 → M (q + 5) j = M 56 (3 * k + j)) ∧ M q 2 = M 57 k ∧ (M 55 k = 0 ∨ M 55 k = 1) ∧ M q 3 = bI (M 55 k = 0)
def RelD (M : sm_M) (N k : Nat) : Prop := ∃ g ow pw vv l, dC M (18 + 6 * k) g ow pw vv l ∧ dR M k g ow pw vv l ∧ dI g ow pw vv l ∧ dX M k (18 + 6 * k) ∧ vt N (M 57 k)
def RelT (M : sm_M) (ts : List T3) : Prop := TW M ts ∧ RW M ts ∧ (∀ j, j < ts.length → M 44 j = 0 ∨ M 44 j = 1) ∧ OX M ts.length (fun j => M 44 j = 1)
abbrev Msg : Type := Int32 × Int32 × Int32 × Int32
def okM (N : Nat) (x : Msg) : Prop := (x.1 = nI 0 ∨ x.1 = nI 1 ∨ x.1 = nI 2) ∧ (∃ k, k < 3 ∧ x.2.1 = nI k) ∧ vt N x.2.2.1 ∧ vt N x.2.2.2
def RelM (M : sm_M) (N : Nat) (ms : List Msg) : Prop := ml (M 12 4) (M 13) (M 14) (M 15) (M 16) ms ∧ ml (M 40 20) (M 58) (M 59) (M 60) (M 61) ms ∧ ∀ x ∈ ms, okM N x
def Rel2 (M : sm_M) (ts : List T3) (ms : List Msg) : Prop := RelT M ts ∧ RelM M ts.length ms ∧ (M 0 5 = M 40 25 ∧ vt ts.length (M 40 25)) ∧ ∀ k, k < 3 → RelD M ts.length k
def Rel (M : sm_M) : Prop := ∃ ts ms, Rel2 M ts ms
def sC (M1 M2 : sm_M) : Prop := ∀ p, p < 40 → M2 p = M1 p
def sR (M M1 : sm_M) : Prop := ∀ p, 40 ≤ p → M1 p = M p
theorem vt_up {N N' : Nat} {t : Int32} (h : N ≤ N') (hv : vt N t) : vt N' t := by
  rcases hv with hv | ⟨j, hj, e⟩
  · exact Or.inl hv
  · exact Or.inr ⟨j, by omega, e⟩
theorem okM_up {N N' : Nat} {x : Msg} (h : N ≤ N') (hx : okM N x) : okM N' x := ⟨hx.1, hx.2.1, vt_up h hx.2.2.1, vt_up h hx.2.2.2⟩
theorem dC_keep {M M1 : sm_M} {q g ow pw : Nat} {vv : Nat → Nat} {l : List Nat} (h : dC M q g ow pw vv l) (h1 : M1 (q + 1) = M (q + 1)) (h2 : M1 (q + 1 + 1) = M (q + 1 + 1)) (h3 : M1 (q + 1 + 2) = M (q + 1 + 2)) : dC M1 q g ow pw vv l := by
  obtain ⟨a, b, c, e, f⟩ := h
  refine ⟨?_, ?_, ?_, fun j hj => ?_, es_keep f h1 h3⟩
  · rw [h1]; exact a
  · rw [h1]; exact b
  · rw [h1]; exact c
  · rw [h2]; exact e j hj
theorem dR_keep {M M1 : sm_M} {k g ow pw : Nat} {vv : Nat → Nat} {l : List Nat} (hl : l.length ≤ 12) (h : dR M k g ow pw vv l) (h1 : ∀ p, 46 ≤ p → p ≤ 48 → M1 p k = M p k) (h2 : ∀ j, j < 3 → M1 49 (3 * k + j) = M 49 (3 * k + j)) (h3 : M1 50 k = M 50 k) (h4 : ∀ p j, 51 ≤ p → p ≤ 54 → 12 * k ≤ j → j < 12 * k + 12 → M1 p j = M p j) : dR M1 k g ow pw vv l := by
  obtain ⟨a, b, c, e, f⟩ := h
  refine ⟨?_, ?_, ?_, fun j hj => ?_, ?_, qrow_congr f.2 (fun p j g1 g2 g3 => h4 _ _ g1 g2 (by omega) (by omega))⟩
  · rw [h1 46 (by omega) (by omega)]; exact a
  · rw [h1 47 (by omega) (by omega)]; exact b
  · rw [h1 48 (by omega) (by omega)]; exact c
  · rw [h2 j hj]; exact e j hj
  · rw [h3]; exact f.1
/-- nothing of a device's own has changed -/
def keepD (k : Nat) (M M1 : sm_M) : Prop := (∀ p j, 18 + 6 * k ≤ p → p < 18 + 6 * k + 6 → p ≠ 18 + 6 * k + 1 + 3 → M1 p j = M p j) ∧ (∀ p, 46 ≤ p → p ≤ 48 → M1 p k = M p k) ∧ (∀ j, j < 3 → M1 49 (3 * k + j) = M 49 (3 * k + j)) ∧ M1 50 k = M 50 k ∧ (∀ p j, 51 ≤ p → p ≤ 54 → 12 * k ≤ j → j < 12 * k + 12 → M1 p j = M p j) ∧ M1 55 k = M 55 k ∧ (∀ j, j < 3 → M1 56 (3 * k + j) = M 56 (3 * k + j)) ∧ M1 57 k = M 57 k
theorem RelD_keep {M M1 : sm_M} {N N' k : Nat} (hN : N ≤ N') (h : RelD M N k) (hk : keepD k M M1) : RelD M1 N' k := by
  obtain ⟨g, ow, pw, vv, l, h1, h2, h3, h4, h5⟩ := h
  obtain ⟨k1, k2, k3, k4, k5, k6, k7, k8⟩ := hk
  refine ⟨g, ow, pw, vv, l, dC_keep h1 ?_ ?_ ?_, dR_keep h3.2.2.2.2.2.1 h2 k2 k3 k4 k5, h3, ⟨fun j hj => ?_, ?_, ?_, ?_⟩, ?_⟩
  · funext j; exact k1 _ _ (by omega) (by omega) (by omega)
  · funext j; exact k1 _ _ (by omega) (by omega) (by omega)
  · funext j; exact k1 _ _ (by omega) (by omega) (by omega)
  · rw [k1 _ _ (by omega) (by omega) (by omega), k7 j hj]; exact h4.1 j hj
  · rw [k1 _ _ (by omega) (by omega) (by omega), k8]; exact h4.2.1
  · rw [k6]; exact h4.2.2.1
  · rw [k1 _ _ (by omega) (by omega) (by omega), k6]; exact h4.2.2.2
  · rw [k8]; exact vt_up hN h5
theorem TW_keep {M M1 : sm_M} {ts : List T3} (h : TW M ts) (hk : ∀ p, 1 ≤ p → p ≤ 7 → M1 p = M p) : TW M1 ts := ⟨TC_self (TC_keep h.1 hk), h.2⟩
theorem RelT_keep {M M1 : sm_M} {ts : List T3} (h : RelT M ts) (hk : ∀ p, 1 ≤ p → p ≤ 7 → M1 p = M p) (h1 : M1 40 1 = M 40 1) (h7 : M1 40 7 = M 40 7) (h2 : ∀ p, 41 ≤ p → p ≤ 43 → M1 p = M p) (h3 : ∀ j, j < 900 → M1 44 j = M 44 j) : RelT M1 ts := by
  obtain ⟨a, b, c, e⟩ := h
  have h9 := a.1.2.1.2.1
  refine ⟨TW_keep a hk, RW_keep b h1 h7 h2, fun j hj => ?_, OX_gs (OX_keep e hk) (fun j hj => ?_)⟩
  · rw [h3 j (by omega)]; exact c j hj
  · rw [h3 j (by omega)]
theorem RelM_keep {M M1 : sm_M} {N : Nat} {ms : List Msg} (h : RelM M N ms) (hk : ∀ p, 12 ≤ p → p ≤ 16 → M1 p = M p) (h1 : M1 40 20 = M 40 20) (h2 : ∀ p, 58 ≤ p → p ≤ 61 → M1 p = M p) : RelM M1 N ms := by
  unfold RelM
  rw [hk 12 (by omega) (by omega), hk 13 (by omega) (by omega), hk 14 (by omega) (by omega), hk 15 (by omega) (by omega), hk 16 (by omega) (by omega), h1, h2 58 (by omega) (by omega), h2 59 (by omega) (by omega), h2 60 (by omega) (by omega), h2 61 (by omega) (by omega)]
  exact h
theorem RelH_keep {M M1 : sm_M} {N N' : Nat} (hN : N ≤ N') (h : M 0 5 = M 40 25 ∧ vt N (M 40 25)) (h1 : M1 0 5 = M 0 5) (h2 : M1 40 25 = M 40 25) : M1 0 5 = M1 40 25 ∧ vt N' (M1 40 25) := by
  rw [h1, h2]
  exact ⟨h.1, vt_up hN h.2⟩
/-- only scratch has changed -/
def keepA (M M1 : sm_M) : Prop := (∀ p j, p < 40 → M1 p j = M p j) ∧ ∀ p j, 40 ≤ p → ¬ (p = 40 ∧ j = 0) → p ≠ 45 → M1 p j = M p j
theorem Rel_keep {M M1 : sm_M} (h : Rel M) (hk : keepA M M1) : Rel M1 := by
  obtain ⟨ts, ms, h1, h2, h3, h4⟩ := h
  obtain ⟨k1, k2⟩ := hk
  have f : ∀ p, p < 40 → M1 p = M p := fun p hp => funext fun j => k1 p j hp
  have f2 : ∀ p, 41 ≤ p → p ≠ 45 → M1 p = M p := fun p hp hp2 => funext fun j => k2 p j (by omega) (by omega) hp2
  refine ⟨ts, ms, RelT_keep h1 (fun p _ _ => f p (by omega)) (k2 _ _ (by omega) (by omega) (by omega)) (k2 _ _ (by omega) (by omega) (by omega)) (fun p _ _ => f2 p (by omega) (by omega)) (fun j _ => k2 _ _ (by omega) (by omega) (by omega)), RelM_keep h2 (fun p _ _ => f p (by omega)) (k2 _ _ (by omega) (by omega) (by omega)) (fun p _ _ => f2 p (by omega) (by omega)), RelH_keep (Nat.le_refl _) h3 (k1 _ _ (by omega)) (k2 _ _ (by omega) (by omega) (by omega)), fun k hk => RelD_keep (Nat.le_refl _) (h4 k hk) ⟨fun p j _ _ _ => k1 p j (by omega), fun p _ _ => k2 _ _ (by omega) (by omega) (by omega), fun j _ => k2 _ _ (by omega) (by omega) (by omega), k2 _ _ (by omega) (by omega) (by omega), fun p j _ _ _ _ => k2 _ _ (by omega) (by omega) (by omega), k2 _ _ (by omega) (by omega) (by omega), fun j _ => k2 _ _ (by omega) (by omega) (by omega), k2 _ _ (by omega) (by omega) (by omega)⟩⟩
theorem keepA_0 {M : sm_M} {x : Int32} : keepA M (sm_up M 40 0 x) := ⟨fun p j hp => up_k (by omega), fun p j h1 h2 h3 => up_o (by omega)⟩
/-- what is known: both say the same -/
theorem KN_alike {M : sm_M} {ts : List T3} {t : Int32} (h : RelT M ts) : KNW M ts.length t ↔ KNR M ts.length t := by
  obtain ⟨a, b, -, e⟩ := h
  have h9 := a.1.2.1.2.1
  have ag : ∀ i, i < ts.length → M 2 i = M 41 i ∧ M 3 i = M 42 i ∧ M 4 i = M 43 i := fun i hi => by
    obtain ⟨z, hz⟩ := t_at hi
    obtain ⟨e1, e2, e3⟩ := a.1.2.1.2.2 i z hz
    obtain ⟨g1, g2, g3⟩ := b.2.1.2.2 i z hz
    rw [e1, e2, e3, g1, g2, g3]
    exact ⟨rfl, rfl, rfl⟩
  unfold KNW KNR
  constructor
  · rintro ⟨k, hk, e1, e2⟩
    refine ⟨k, hk, e1, ?_⟩
    rw [e k hk, bI_1] at e2
    exact (Dv_eq (fun i hi => (ag i hi).1) (fun i hi => (ag i hi).2.1) (fun i hi => (ag i hi).2.2) (fun j hj => by rw [(ag j hj).1])).mp e2
  · rintro ⟨k, hk, e1, e2⟩
    refine ⟨k, hk, e1, ?_⟩
    rw [e k hk, bI_1]
    exact (Dv_eq (fun i hi => (ag i hi).1) (fun i hi => (ag i hi).2.1) (fun i hi => (ag i hi).2.2) (fun j hj => by rw [(ag j hj).1])).mpr e2
theorem T_agree {M : sm_M} {ts : List T3} (h : RelT M ts) : ∀ i, i < ts.length → M 2 i = M 41 i ∧ M 3 i = M 42 i ∧ M 4 i = M 43 i := fun i hi => by
  obtain ⟨z, hz⟩ := t_at hi
  obtain ⟨e1, e2, e3⟩ := h.1.1.2.1.2.2 i z hz
  obtain ⟨g1, g2, g3⟩ := h.2.1.2.1.2.2 i z hz
  rw [e1, e2, e3, g1, g2, g3]
  exact ⟨rfl, rfl, rfl⟩
/-- both calls, one behind the other: the same answer -/
theorem cr_le {z D B D' B' : Nat} {As : List Value} {M : sm_M} {R R' : Option Value → sm_M → Prop} (h : cr z D B As M R) (hD : D ≤ D') (hB : B ≤ B') (hr : ∀ v M1, R v M1 → R' v M1) : cr z D' B' As M R' := fun X J rc rs d lw hd hw => cr_mono h hr X J rc rs d lw (by omega) (by omega)
def two (z : Nat) (As : List Value) (z' : Nat) (As' : List Value) (M : sm_M) : Prop := cr z 10 340 As M (fun v M1 => ∃ u, v = some (.int u) ∧ cr z' 10 340 As' M1 (fun v' M2 => v' = some (.int u) ∧ Rel M2))
section QU
variable {M : sm_M} {a0 a1 a2 : Int32}
theorem g_server (h : Rel M) : two 17 [.ref 0] 124 [.ref 40] M := by
  refine cr_le c_server (by omega) (by omega) (fun v M1 hp => ?_)
  obtain ⟨rfl, rfl⟩ := hp
  refine ⟨_, rfl, cr_le r_server (by omega) (by omega) (fun v' M2 hp => ?_)⟩
  obtain ⟨rfl, rfl⟩ := hp
  obtain ⟨ts, ms, h1, h2, h3, h4⟩ := id h
  exact ⟨by rw [h3.1], Rel_keep h keepA_0⟩
theorem g_flight (h : Rel M) : two 7 [.ref 0] 111 [.ref 40] M := by
  obtain ⟨ts, ms, h1, h2, h3, h4⟩ := id h
  refine cr_le (c_flight h2.1) (by omega) (by omega) (fun v M1 hp => ?_)
  obtain ⟨rfl, rfl⟩ := hp
  refine ⟨_, rfl, cr_le (r_flight h2.2.1) (by omega) (by omega) (fun v' M2 hp => ?_)⟩
  obtain ⟨rfl, rfl⟩ := hp
  exact ⟨rfl, Rel_keep h keepA_0⟩
theorem g_message (h : Rel M) : two 6 [.ref 0, .int a0, .int a1] 110 [.ref 40, .int a0, .int a1] M := by
  obtain ⟨ts, ms, h1, h2, h3, h4⟩ := id h
  refine cr_le (c_message h2.1) (by omega) (by omega) (fun v M1 hp => ?_)
  obtain ⟨rfl, rfl⟩ := hp
  refine ⟨_, rfl, cr_le (r_message h2.2.1) (by omega) (by omega) (fun v' M2 hp => ?_)⟩
  obtain ⟨rfl, rfl⟩ := hp
  exact ⟨rfl, Rel_keep h keepA_0⟩
theorem g_atom (h : Rel M) : two 15 [.ref 0, .int a0] 122 [.ref 40, .int a0] M := by
  obtain ⟨ts, ms, h1, h2, h3, h4⟩ := id h
  refine cr_le (c_atom h1.1 h1.2.2.2) (by omega) (by omega) (fun v M1 hp => ?_)
  obtain ⟨rfl, rfl⟩ := hp
  refine ⟨_, rfl, cr_le (r_atom h1.2.1 h1.1.2 h1.2.2.1) (by omega) (by omega) (fun v' M2 hp => ?_)⟩
  obtain ⟨rfl, rfl⟩ := hp
  exact ⟨rfl, Rel_keep h keepA_0⟩
theorem g_term (h : Rel M) : two 14 [.ref 0, .int a0, .int a1] 121 [.ref 40, .int a0, .int a1] M := by
  obtain ⟨ts, ms, h1, h2, h3, h4⟩ := id h
  refine cr_le (c_term h1.1 h1.2.2.2) (by omega) (by omega) (fun v M1 hp => ?_)
  obtain ⟨rfl, rfl⟩ := hp
  refine ⟨_, rfl, cr_le (r_term h1.2.1 h1.1.2 h1.2.2.1) (by omega) (by omega) (fun v' M2 hp => ?_)⟩
  obtain ⟨rfl, rfl⟩ := hp
  have h9 := h1.1.1.2.1.2.1
  have ag := T_agree h1
  refine ⟨?_, Rel_keep h keepA_0⟩
  rw [rd_eq (fun i hi => (ag i hi).1) (by omega), rd_eq (fun i hi => (ag i hi).2.1) (by omega), rd_eq (fun i hi => (ag i hi).2.2) (by omega)]
theorem g_known (h : Rel M) : two 13 [.ref 0, .int a0] 120 [.ref 40, .int a0] M := by
  obtain ⟨ts, ms, h1, h2, h3, h4⟩ := id h
  refine cr_le (c_known h1.1 h1.2.2.2) (by omega) (by omega) (fun v M1 hp => ?_)
  obtain ⟨rfl, rfl⟩ := hp
  refine ⟨_, rfl, cr_le (r_known h1.2.1 h1.1.2 h1.2.2.1) (by omega) (by omega) (fun v' M2 hp => ?_)⟩
  obtain ⟨rfl, e2, f2⟩ := hp
  exact ⟨by rw [bI_congr (KN_alike h1)], Rel_keep h ⟨fun p j hp => f2 _ _ (by omega) (by omega), fun p j g1 g2 g3 => f2 _ _ g3 g2⟩⟩
theorem g_device (h : Rel M) : two 16 [.ref 0, .int a0, .int a1] 123 [.ref 40, .int a0, .int a1] M := by
  obtain ⟨ts, ms, h1, h2, h3, h4⟩ := id h
  by_cases hb : ∃ n, n < 3 ∧ a0 = nI n
  · obtain ⟨k, hk, rfl⟩ := hb
    refine cr_le (c_device (dvq_k hk)) (by omega) (by omega) (fun v M1 hp => ?_)
    obtain ⟨rfl, rfl⟩ := hp
    obtain ⟨g, ow, pw, vv, l, d1, d2, d3, d4, d5⟩ := h4 k hk
    refine ⟨_, rfl, cr_le (r_device hk d4.2.2.1) (by omega) (by omega) (fun v' M2 hp => ?_)⟩
    obtain ⟨rfl, rfl⟩ := hp
    refine ⟨?_, Rel_keep h keepA_0⟩
    have e0 : bI (¬ M1 (18 + 6 * k) 3 = 0) = bI (M1 55 k = 0) := bI_congr (by rw [d4.2.2.2]; exact bI_n0)
    have v0 := d1.2.2.2.1 0 (by omega)
    have v1 := d1.2.2.2.1 1 (by omega)
    have v2 := d1.2.2.2.1 2 (by omega)
    have w0 := d2.2.2.2.1 0 (by omega)
    have w1 := d2.2.2.2.1 1 (by omega)
    have w2 := d2.2.2.2.1 2 (by omega)
    have x0 := d4.1 0 (by omega)
    have x1 := d4.1 1 (by omega)
    have x2 := d4.1 2 (by omega)
    rw [Nat.add_zero] at w0 x0
    rw [e0, v0, v1, v2, w0, w1, w2, x0, x1, x2, d1.1, d1.2.1, d1.2.2.2.2.1, d2.1, d2.2.1, d2.2.2.2.2.1, d4.2.1]
    rfl
  · refine cr_le (c_device0 hb) (by omega) (by omega) (fun v M1 hp => ?_)
    obtain ⟨rfl, rfl⟩ := hp
    refine ⟨_, rfl, cr_le (r_device0 hb) (by omega) (by omega) (fun v' M2 hp => ?_)⟩
    obtain ⟨rfl, rfl⟩ := hp
    exact ⟨rfl, Rel_keep h keepA_0⟩
theorem g_plant (h : Rel M) : two 9 [.ref 0, .int a0] 116 [.ref 40, .int a0] M := by
  obtain ⟨ts, ms, h1, h2, h3, h4⟩ := id h
  refine cr_le (c_plant h1.1 h1.2.2.2) (by omega) (by omega) (fun v M1 hp => ?_)
  obtain ⟨u, rfl, hp⟩ := hp
  refine ⟨u, rfl, ?_⟩
  have fR : ∀ p, 40 ≤ p → M1 p = M p := fun p hp2 => by
    rcases hp with ⟨-, -, e⟩ | ⟨-, -, e⟩
    · rw [e]; exact upf (by omega)
    · rw [e]
  refine cr_le (r_plant (ts := ts) (RW_keep h1.2.1 (by rw [fR 40 (by omega)]) (by rw [fR 40 (by omega)]) (fun p _ _ => fR p (by omega))) h1.1.2 (fun i hi => by rw [fR 44 (by omega)]; exact h1.2.2.1 i hi)) (by omega) (by omega) (fun v' M2 hp' => ?_)
  have hkk : KNR M1 ts.length a0 ↔ KNW M ts.length a0 := (KNR_keep (fun p _ _ => fR p (by omega))).trans (KN_alike h1).symm
  obtain ⟨u', rfl, hp'⟩ := hp'
  rcases hp with ⟨g1, g2, g3⟩ | ⟨g1, g2, g3⟩ <;> rcases hp' with ⟨g1', g2', g3', g4', g5'⟩ | ⟨g1', g2', g3', g4'⟩
  · refine ⟨by rw [g2, g2'], ts, ms, ?_, ?_, ⟨?_, ?_⟩, fun k hk => ?_⟩
    · refine RelT_keep h1 (fun p q1 q2 => funext fun j => ?_) ?_ ?_ (fun p q1 q2 => funext fun j => ?_) (fun j _ => ?_)
      · rw [g5' _ _ (by omega) (by omega), g3, up_k (by omega)]
      · rw [g5' _ _ (by omega) (by omega), fR 40 (by omega)]
      · rw [g5' _ _ (by omega) (by omega), fR 40 (by omega)]
      · rw [g5' _ _ (by omega) (by omega), fR p (by omega)]
      · rw [g5' _ _ (by omega) (by omega), fR 44 (by omega)]
    · refine RelM_keep h2 (fun p q1 q2 => funext fun j => ?_) ?_ (fun p q1 q2 => funext fun j => ?_)
      · rw [g5' _ _ (by omega) (by omega), g3, up_k (by omega)]
      · rw [g5' _ _ (by omega) (by omega), fR 40 (by omega)]
      · rw [g5' _ _ (by omega) (by omega), fR p (by omega)]
    · rw [g5' _ _ (by omega) (by omega), g3, up_s, g4']
    · rw [g4']
      obtain ⟨j, hj, e, -⟩ := g1
      exact Or.inr ⟨j, hj, e⟩
    · refine RelD_keep (Nat.le_refl _) (h4 k hk) ⟨fun p j _ _ _ => ?_, fun p _ _ => ?_, fun j _ => ?_, ?_, fun p j _ _ _ _ => ?_, ?_, fun j _ => ?_, ?_⟩
      · rw [g5' _ _ (by omega) (by omega), g3, up_k (by omega)]
      · rw [g5' _ _ (by omega) (by omega), fR p (by omega)]
      · rw [g5' _ _ (by omega) (by omega), fR 49 (by omega)]
      · rw [g5' _ _ (by omega) (by omega), fR 50 (by omega)]
      · rw [g5' _ _ (by omega) (by omega), fR p (by omega)]
      · rw [g5' _ _ (by omega) (by omega), fR 55 (by omega)]
      · rw [g5' _ _ (by omega) (by omega), fR 56 (by omega)]
      · rw [g5' _ _ (by omega) (by omega), fR 57 (by omega)]
  · exact absurd (hkk.mpr g1) g1'
  · exact absurd (hkk.mp g1') g1
  · subst g3
    exact ⟨by rw [g2, g2'], Rel_keep h ⟨fun p j hp => g4' _ _ (by omega) (by omega), fun p j q1 q2 q3 => g4' _ _ q3 q2⟩⟩
end QU
