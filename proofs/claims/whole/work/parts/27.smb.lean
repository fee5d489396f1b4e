section SMB
variable {l : Launch} {D : va_G} {cl : List vw_C} {cA : Nat → ClassId} {b : Nat} {WA NW : List Cond} {T : sm_T} {ok : Nat → Nat → Bool} {tyN : List FieldType} {AO : List String} {bc : Nat → ByteArray} {nm : Nat → MethodName} {X : Nat × (Nat → Int32)} {fx : Nat → Prop} {KT : State → Prop} {XC : Nat → String} {eh : Nat → List (Nat × Nat × Nat × Nat)}
/-- a method that lets a throw out has no handlers -/
theorem sm_run_thr (XN : ∀ z pc x, sm_cat T z pc x = some none → eh z = []) : ∀ (n d lw y pc : Nat) (L : sm_L) (S : List Value) (h : sm_H) (x : Nat) (h' : sm_H), sm_run T X ok n d lw y pc L S h = some (.inr x, h') → eh y = [] := by
  intro n
  induction n with
  | zero => intro d lw y pc L S h x h' hr; cases hr
  | succ n ih =>
    intro d lw y pc L S h x h' hr
    unfold sm_run at hr
    split at hr
    · cases hr
    · next i hi =>
      split at hr
      · cases hq : sm_ret (sm_nL T y).2.1 i S with
        | none => rw [hq] at hr; cases hr
        | some v => rw [hq] at hr; cases hr
      · split at hr
        · split at hr
          · exact ih _ _ _ _ _ _ _ _ _ hr
          · cases hr
        · split at hr
          · cases hr
          · split at hr
            · split at hr
              · split at hr
                · exact ih _ _ _ _ _ _ _ _ _ hr
                · cases hr
              · cases hr
            · split at hr
              · split at hr
                · split at hr
                  · exact ih _ _ _ _ _ _ _ _ _ hr
                  · cases hr
                · split at hr
                  · cases hr
                  · split at hr
                    · cases hr
                    · next hcat => exact XN _ _ _ hcat
                    · split at hr
                      · exact ih _ _ _ _ _ _ _ _ _ hr
                      · cases hr
                · cases hr
              · cases hr
set_option maxHeartbeats 4000000 in
theorem sm_all (TB : sm_Tab T ok cl WA NW tyN AO bc nm) (hM : sm_Mv NW b X fx KT) (hG : ∀ w ∈ WA, goodWord w = true) (CB : ∀ y idx k z w, sm_cal T y idx = some (k, z, w) → sm_Go cl WA NW nm (sm_cw T bc nm eh) T y idx k z w)
    (CW : ∀ y idx k z w, sm_cal T y idx = some (k, z, w) → eh z ≠ [] → k = 3 ∧ Cond.methodLink (nm y).cls idx (nm z) ∈ WA) (XN : ∀ z pc x, sm_cat T z pc x = some none → eh z = []) (XB : ∀ y pc x pc' q, sm_cat T y pc x = some (some (pc', q)) → sm_Xo WA XC (nm y).cls (bc y) (sm_nL T y).1 (eh y) pc x pc' q)
    (hKN : ∀ U, KT U → ∀ i j, i < 2 → j < 2 → i ≠ j → ∀ c t, U.vm.findClass (XC i) = some c → U.vm.findClass (XC j) = some t → U.vm.assignable c t = false) (TE : ∀ z vs h r, sm_thr T z vs h = some r → eh z = [])
    (hTh : ∀ (z : Nat) (vs : List Value) (h : sm_H) (x kc ks : Nat), sm_thr T z vs h = some (x, kc, ks) → vs.all sm_c1 = true → vs.length ≤ (sm_nL T z).1 → ∀ (d lw : Nat), kc ≤ h.2.2.2.1 → ks ≤ h.2.2.2.2 → 6 ≤ d → 100 ≤ lw → ∀ (ad : Nat → Nat) (sz : Nat),
      sm_MetT l (nm z) (Cond.code (nm z) (bc z) (sm_nL T z).1 (sm_rt T z) :: WA) { frames := d, cells := h.2.2.2.1 - (h.2.2.2.1 - kc), slots := h.2.2.2.2 - (h.2.2.2.2 - ks), locals := lw } (sm_Pc D cl cA b tyN NW AO KT fx ad sz vs h) (fun st a t => sm_Qt D cl cA (va_A (sm_w cA ad h) sz) ad h.1.length XC x (h.1, h.2.1, h.2.2.1, h.2.2.2.1 - kc, h.2.2.2.2 - ks) a st t) (h.2.2.2.1 - (h.2.2.2.1 - kc)) (h.2.2.2.2 - (h.2.2.2.2 - ks)) (va_A (sm_w cA ad h) sz)) : ∀ n, sm_Pn l D cl cA b WA NW T ok tyN AO bc nm X fx KT XC eh n := by
  intro n
  induction n with
  | zero => intro d lw y pc L S h o h' hr; cases hr
  | succ n ih =>
    intro d lw y pc L S h o h' hr p e R s m args below meth c A ad0 n0 C1 S1 hx hb hml hret hlk hown hmn het hts hK hfx hA hn0 hle hroom hd hlo
    have hXs : va_X b X.1 X.2 s s.heap := hM.2.2.1 s hK.2.2.2
    have hbf := hfx b hM.2.2.2
    unfold sm_run at hr
    · split at hr
      · cases hr
      · next i hi =>
        split at hr
        · next hisr =>
          cases hv : sm_ret (sm_nL T y).2.1 i S with
          | none => rw [hv] at hr; cases hr
          | some v =>
            rw [hv] at hr
            cases hr
            have hts1 : sm_tsw i = false := by cases i <;> first | rfl | cases hisr
            have hln : sm_len i = 1 := by cases i <;> first | rfl | cases hisr
            exact sm_s_ret (cc := bc y) hx hb (kd := (sm_nL T y).2.1) hret hlk (sm_dec_of TB hi hts1) hln hv
        · split at hr
          · split at hr
            · next pc' L' S' h1 hs =>
              have g1 := sm_i_ge _ hs
              have g2 := sm_run_ge _ _ _ _ _ _ _ _ _ _ hr
              exact sm_sound (r := (pc', L', S', h1)) TB hx hb rfl hown hmn hts hK.2.1 hK.2.2.1 hK.1 hXs hbf.1 hbf.2 hA hn0 hle ⟨by dsimp only; omega, by dsimp only; omega⟩ hi hs (ih d lw y pc' L' S' h1 o h' hr p e R s m args below meth c A ad0 n0 C1 S1 hx hb hml hret hlk hown hmn het hts hK hfx hA (Nat.le_trans hn0 g1.2.2) ⟨Nat.le_trans g1.1 hle.1, Nat.le_trans g1.2.1 hle.2⟩ hroom hd hlo)
            · cases hr
          · next k z w hinv =>
            obtain ⟨idx, hcal, hop⟩ := sm_inv_op hinv
            have hgo := CB y idx k z w hcal
            split at hr
            · cases hr
            · next d =>
              split at hr
              · next hk3 =>
               split at hr
               · next hlw100 =>
                split at hr
                · next pc' L' S' h1 hs =>
                  have g1 := sm_lib_ge _ hs
                  have g2 := sm_run_ge _ _ _ _ _ _ _ _ _ _ hr
                  obtain ⟨t3, t4, t5, htyN⟩ := TB.2.2.2.2.2.2.1
                  refine sm_s_lib (r := (pc', L', S', h1)) (k := k) (z := z) (w := w) (idx := idx) (y := y) (tys := sm_tys cA tyN) hx hb hml hown hts hK.1 (sm_tys_get (by rw [htyN]; rfl)) hgo (by omega) (by omega) ⟨by dsimp only at g1 g2 ⊢; omega, by dsimp only at g1 g2 ⊢; omega⟩ ?_ hs (ih (d + 1) lw y pc' L' S' h1 o h' hr p e R s m args below meth c A ad0 n0 C1 S1 hx hb hml hret hlk hown hmn het hts hK hfx hA (Nat.le_trans hn0 g1.2.2) ⟨Nat.le_trans g1.1 hle.1, Nat.le_trans g1.2.1 hle.2⟩ hroom hd hlo)
                  rcases hop with ⟨rfl, hk⟩ | ⟨rfl, hk⟩ | ⟨rfl, hk⟩
                  · exact ⟨fun h9 => by omega, fun _ => sm_dec_of TB hi rfl⟩
                  · exact ⟨fun h9 => by omega, fun h9 => by omega⟩
                  · exact ⟨fun _ => sm_dec_of TB hi rfl, fun h9 => by omega⟩
                · cases hr
               · cases hr
              · next hk3 =>
                split at hr
                · next hw =>
                  obtain ⟨w1, w2, w3, w4, w5, w6⟩ := hw
                  have hlen : (S.take w).reverse.length = w := by simp; omega
                  have hvs : (S.take w).reverse.all sm_c1 = true := by rw [List.all_reverse]; exact w4
                  obtain ⟨-, -, -, f3, fs, fv, fi⟩ := hgo
                  obtain ⟨flk, fini, fcw, fpl, fds, fw1, f40⟩ := f3 (by omega)
                  split at hr
                  · next v h1 hrun =>
                    obtain ⟨-, hrun⟩ := sm_or_inl hrun
                    split at hr
                    · next hok =>
                      have g1 := sm_run_ge _ _ _ _ _ _ _ _ _ _ hrun
                      have g2 := sm_run_ge _ _ _ _ _ _ _ _ _ _ hr
                      intro ad H locs ls e1 hP hD hS hl
                      have kk := ih (d + 1) lw y (pc + 3) L (v.toList ++ S.drop w) h1 o h' hr p e R s m args below meth c A ad0 n0 C1 S1 hx hb hml hret hlk hown hmn het hts hK hfx hA (Nat.le_trans hn0 g1.2.2) ⟨Nat.le_trans g1.1 hle.1, Nat.le_trans g1.2.1 hle.2⟩ hroom hd hlo
                      have eS : S.map (sm_v b ad) = ((S.take w).reverse.map (sm_v b ad)).reverse ++ (S.drop w).map (sm_v b ad) := by
                        rw [List.map_reverse, List.reverse_reverse, ← List.map_append, List.take_append_drop]
                      have hpre : ∀ U : State, U.heap = H → s.WarmedH U.vm → sm_Pc D cl cA b tyN NW AO KT fx ad H.size (S.take w).reverse h ((S.take w).reverse.map (sm_v b ad)).toArray U := by
                        intro U hU hW
                        have hq : ∀ q, fx q → U.heap[q]? = s.heap[q]? := fun q hq => by rw [hU]; exact hS.2.1 q (hfx q hq).1 (hfx q hq).2
                        refine ⟨rfl, by rw [hU], by rw [hU]; exact hP, hD.weaken (fun _ _ _ _ => trivial), sm_Kx_mv hM hW hq hK, fun q hq => ⟨Nat.lt_of_lt_of_le (hfx q hq).1 hS.1, fun hz => ?_⟩⟩
                        rcases hz with ⟨k9, e9, hz⟩ | hz
                        · exact (hfx q hq).2 (hD.2 k9 (q, e9) hz)
                        · exact absurd (Nat.lt_of_lt_of_le (hfx q hq).1 hS.1) (by omega)
                      cases hez : eh z with
                      | cons q9 r9 =>
                        have hez0 : eh z ≠ [] := by rw [hez]; exact fun h => by cases h
                        obtain ⟨hk, hlk3⟩ := CW y idx k z w hcal hez0
                        subst hk
                        have hcw : sm_cw T bc nm eh z = Cond.codeWith (nm z) (bc z) (sm_nL T z).1 (sm_rt T z) (eh z) := by unfold sm_cw; rw [hez]
                        rw [hcw] at fcw
                        have hMet := sm_metW ih hrun hvs (by rw [hlen]; exact w5) fpl ad H.size
                        refine sm_on hA hn0 hle g1 hok e1 hD hS hl (av := ((S.take w).reverse.map (sm_v b ad)).toArray) ?_ kk
                        rw [eS]
                        refine sm_runSW (idx := idx) (n := w) (Pc := sm_Pc D cl cA b tyN NW AO KT fx ad H.size (S.take w).reverse h) hx hb hml hown hts hG hMet fcw rfl rfl fini hlk3 fds ⟨by show d + 1 ≤ R.frames; omega, by show 8 + ((sm_nL T z).1 + 11) + (lw - (19 + (sm_nL T z).1)) ≤ R.locals; omega⟩ (sm_blind hM) hpre hl.2.1 (by rw [sm_sum_map]; exact w2) ⟨by omega, by omega⟩ (by rw [List.length_map, hlen]) (fs rfl) ?_
                        rcases hop with ⟨rfl, hk⟩ | ⟨rfl, hk⟩ | ⟨rfl, hk⟩
                        · exact sm_dec_of TB hi rfl
                        · omega
                        · omega
                      | nil =>
                        have hcw : sm_cw T bc nm eh z = Cond.code (nm z) (bc z) (sm_nL T z).1 (sm_rt T z) := by unfold sm_cw; rw [hez]
                        rw [hcw] at fcw
                        have hMet := sm_met ih hrun hvs (by rw [hlen]; exact w5) fpl hez ad H.size
                        refine sm_on hA hn0 hle g1 hok e1 hD hS hl (av := ((S.take w).reverse.map (sm_v b ad)).toArray) ?_ kk
                        rw [eS]
                        refine sm_run345 (k := k) (idx := idx) (n := if k = 3 then w else w - 1) (Pc := sm_Pc D cl cA b tyN NW AO KT fx ad H.size (S.take w).reverse h) hx hb hml hown hts hK.2.1 hG hMet fcw rfl rfl fini flk fds ⟨by show d + 1 ≤ R.frames; omega, by show 8 + ((sm_nL T z).1 + 11) + (lw - (19 + (sm_nL T z).1)) ≤ R.locals; omega⟩ (sm_blind hM) hpre hl.2.1 (by rw [sm_sum_map]; exact w2) ⟨by omega, by omega⟩ ?_
                        rcases hop with ⟨rfl, hk⟩ | ⟨rfl, hk⟩ | ⟨rfl, hk⟩
                        · have hk : k = 3 := by omega
                          subst hk
                          exact Or.inl ⟨rfl, by rw [List.length_map, hlen]; rfl, fs rfl, sm_dec_of TB hi rfl⟩
                        · subst hk
                          have hw1 := fw1 (by decide)
                          refine Or.inr (Or.inl ⟨rfl, by rw [List.length_map, hlen]; show w = w - 1 + 1; omega, (fv rfl).1, (fv rfl).2.1, ?_, sm_dec_of TB hi rfl⟩)
                          obtain ⟨q8, hq8, hq9⟩ := (fv rfl).2.2
                          obtain ⟨a, rest, fs9, h8, hz9⟩ := sm_rcv4 w3
                          obtain ⟨cellB, r1, r2, r3⟩ := va_recv hK.1 hP hq8 (sm_w_get hz9)
                          exact ⟨ad a, rest.map (sm_v b ad), cellB, by rw [h8]; rfl, r1, r2, by rw [← hq9]; exact r3⟩
                        · have hk : k = 5 := by omega
                          subst hk
                          have hw1 := fw1 (by decide)
                          refine Or.inr (Or.inr ⟨rfl, by rw [List.length_map, hlen]; show w = w - 1 + 1; omega, (fi rfl).1, (fi rfl).2.1, ?_, ?_, sm_dec_of TB hi rfl⟩)
                          · unfold sm_rt
                            rw [(fi rfl).2.2]
                            rfl
                          · obtain ⟨a, rest, h8⟩ := sm_rcv5 w3
                            exact ⟨ad a, rest.map (sm_v b ad), by rw [h8]; rfl⟩
                    · cases hr
                  · next x h1 hrun =>
                    have g1 : h1.2.2.2.1 ≤ h.2.2.2.1 ∧ h1.2.2.2.2 ≤ h.2.2.2.2 ∧ h.1.length ≤ h1.1.length := sm_or_ge hrun (fun hs => sm_run_ge _ _ _ _ _ _ _ _ _ _ hs)
                    split at hr
                    · cases hr
                    · next hk5 =>
                      have hMT : eh z = [] ∧ ∀ (ad : Nat → Nat) (sz : Nat), sm_MetT l (nm z) (Cond.code (nm z) (bc z) (sm_nL T z).1 (sm_rt T z) :: WA) { frames := d, cells := h.2.2.2.1 - h1.2.2.2.1, slots := h.2.2.2.2 - h1.2.2.2.2, locals := lw - (19 + (sm_nL T z).1) } (sm_Pc D cl cA b tyN NW AO KT fx ad sz (S.take w).reverse h) (fun st a t => sm_Qt D cl cA (va_A (sm_w cA ad h) sz) ad h.1.length XC x h1 a st t) (h.2.2.2.1 - h1.2.2.2.1) (h.2.2.2.2 - h1.2.2.2.2) (va_A (sm_w cA ad h) sz) := by
                        unfold sm_or at hrun
                        split at hrun
                        · next x9 kc ks hth9 =>
                          split at hrun
                          · next hc9 =>
                            cases hrun
                            exact ⟨TE _ _ _ _ hth9, fun ad sz => hTh z _ h _ kc ks hth9 hvs (by rw [hlen]; exact w5) d _ hc9.1 hc9.2.1 hc9.2.2.1 hc9.2.2.2 ad sz⟩
                          · cases hrun
                        · have hez : eh z = [] := sm_run_thr XN _ _ _ _ _ _ _ _ _ _ hrun
                          exact ⟨hez, fun ad sz => sm_metT ih hrun hvs (by rw [hlen]; exact w5) fpl hez ad sz⟩
                      obtain ⟨hez, hMT⟩ := hMT
                      have hcw : sm_cw T bc nm eh z = Cond.code (nm z) (bc z) (sm_nL T z).1 (sm_rt T z) := by unfold sm_cw; rw [hez]
                      rw [hcw] at fcw
                      have key : ∀ (ad : Nat → Nat) (H : Heap) (locs : List Loc) (ls : Array Slot), va_P D cl (sm_w cA ad h) H → va_D A (sm_w cA ad h) → va_S A s.heap H locs → sm_l b ad ls (sm_nL T y).1 L → C1 - h1.2.2.2.1 ≤ R.cells ∧ S1 - h1.2.2.2.2 ≤ R.slots →
                          sm_Th p l e R s m args below meth c D cl cA ad XC x h h1 H locs (C1 - h.2.2.2.1) (S1 - h.2.2.2.2) (h.2.2.2.1 - h1.2.2.2.1) (h.2.2.2.2 - h1.2.2.2.2) pc ls (S.map (sm_v b ad)) ((S.drop w).map (sm_v b ad)) := by
                        intro ad H locs ls hP hD hS hl hro
                        have eS : S.map (sm_v b ad) = ((S.take w).reverse.map (sm_v b ad)).reverse ++ (S.drop w).map (sm_v b ad) := by
                          rw [List.map_reverse, List.reverse_reverse, ← List.map_append, List.take_append_drop]
                        have hpre : ∀ U : State, U.heap = H → s.WarmedH U.vm → sm_Pc D cl cA b tyN NW AO KT fx ad H.size (S.take w).reverse h ((S.take w).reverse.map (sm_v b ad)).toArray U := by
                          intro U hU hW
                          have hq : ∀ q, fx q → U.heap[q]? = s.heap[q]? := fun q hq => by rw [hU]; exact hS.2.1 q (hfx q hq).1 (hfx q hq).2
                          refine ⟨rfl, by rw [hU], by rw [hU]; exact hP, hD.weaken (fun _ _ _ _ => trivial), sm_Kx_mv hM hW hq hK, fun q hq => ⟨Nat.lt_of_lt_of_le (hfx q hq).1 hS.1, fun hz => ?_⟩⟩
                          rcases hz with ⟨k9, e9, hz⟩ | hz
                          · exact (hfx q hq).2 (hD.2 k9 (q, e9) hz)
                          · exact absurd (Nat.lt_of_lt_of_le (hfx q hq).1 hS.1) (by omega)
                        unfold sm_Th
                        rw [eS]
                        refine sm_thrown (k := k) (idx := idx) (n := if k = 3 then w else w - 1) (Pc := sm_Pc D cl cA b tyN NW AO KT fx ad H.size (S.take w).reverse h) hx hb hml hown hts hK.2.1 hG (hMT ad H.size) fcw rfl rfl fini flk fds ⟨by show d + 1 ≤ R.frames; omega, by show 8 + ((sm_nL T z).1 + 11) + (lw - (19 + (sm_nL T z).1)) ≤ R.locals; omega⟩ (sm_blind hM) hpre hl.2.1 (by rw [sm_sum_map]; exact w2) ⟨by omega, by omega⟩ ?_
                        rcases hop with ⟨rfl, hk⟩ | ⟨rfl, hk⟩ | ⟨rfl, hk⟩
                        · have hk : k = 3 := by omega
                          subst hk
                          exact Or.inl ⟨rfl, by rw [List.length_map, hlen]; rfl, fs rfl, sm_dec_of TB hi rfl⟩
                        · subst hk
                          have hw1 := fw1 (by decide)
                          refine Or.inr ⟨rfl, by rw [List.length_map, hlen]; show w = w - 1 + 1; omega, (fv rfl).1, (fv rfl).2.1, ?_, sm_dec_of TB hi rfl⟩
                          obtain ⟨q8, hq8, hq9⟩ := (fv rfl).2.2
                          obtain ⟨a, rest, fs9, h8, hz9⟩ := sm_rcv4 w3
                          obtain ⟨cellB, r1, r2, r3⟩ := va_recv hK.1 hP hq8 (sm_w_get hz9)
                          exact ⟨ad a, rest.map (sm_v b ad), cellB, by rw [h8]; rfl, r1, r2, by rw [← hq9]; exact r3⟩
                        · omega
                      split at hr
                      · cases hr
                      · next hcat =>
                        cases hr
                        intro ad H locs ls e1 hP hD hS hl
                        have hno : c.exceptionTable.toList = [] := by rw [het, XN _ _ _ hcat]; rfl
                        exact sm_y_out hA hn0 hle g1 e1 hD hS hlk hno (key ad H locs ls hP hD hS hl hroom)
                      · next pc' q hcat =>
                        split at hr
                        · next hok =>
                          have g2 := sm_run_ge _ _ _ _ _ _ _ _ _ _ hr
                          intro ad H locs ls e1 hP hD hS hl
                          exact sm_y_in hx hb hown hts (hKN s hK.2.2.2) hA hn0 hle g1 e1 hD hS hl hok het (XB y pc x pc' q hcat) (key ad H locs ls hP hD hS hl ⟨by omega, by omega⟩) (ih (d + 1) lw y pc' (L.set q none) [] h1 o h' hr p e R s m args below meth c A ad0 n0 C1 S1 hx hb hml hret hlk hown hmn het hts hK hfx hA (Nat.le_trans hn0 g1.2.2) ⟨Nat.le_trans g1.1 hle.1, Nat.le_trans g1.2.1 hle.2⟩ hroom hd hlo)
                        · cases hr
                  · cases hr
                · cases hr
end SMB
