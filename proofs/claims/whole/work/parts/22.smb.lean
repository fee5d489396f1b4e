section SMB
variable {l : Launch} {D : va_G} {cl : List vw_C} {cA : Nat → ClassId} {b : Nat} {WA NW : List Cond} {T : sm_T} {ok : Nat → Nat → Bool} {tyN : List FieldType} {AO : List String} {bc : Nat → ByteArray} {nm : Nat → MethodName} {X : Nat × (Nat → Int32)} {fx : Nat → Prop} {KT : State → Prop} {XC : Nat → String} {eh : Nat → List (Nat × Nat × Nat × Nat)}
set_option maxHeartbeats 4000000 in
theorem sm_all_open (TB : sm_Tab T ok cl WA NW tyN AO bc nm) (hM : sm_Mv NW b X fx KT) (hG : ∀ w ∈ WA, goodWord w = true) (CB : ∀ y idx k z w, sm_cal T y idx = some (k, z, w) → sm_Go cl WA NW nm (sm_cw T bc nm eh) T y idx k z w) : ∀ n, sm_Pn l D cl cA b WA NW T ok tyN AO bc nm X fx KT XC eh n := by
  intro n
  induction n with
  | zero => intro d lw y pc L S h o h' hr; cases hr
  | succ n ih =>
    intro d lw y pc L S h o h' hr p e R s m args below meth c A ad0 n0 C1 S1 hx hb hml hret hlk hown hmn het hts hK hfx hA hn0 hle hroom hd hlo
    have hXs : va_X b X.1 X.2 s s.heap := hM.2.2.1 s hK.2.2.2
    have hbf := hfx b hM.2.2.2
    unfold sm_run at hr
    · split at hr
      · cases hr
      · next i hi =>
        split at hr
        · next hisr =>
          cases hv : sm_ret (sm_nL T y).2.1 i S with
          | none => rw [hv] at hr; cases hr
          | some v =>
            rw [hv] at hr
            cases hr
            have hts1 : sm_tsw i = false := by cases i <;> first | rfl | cases hisr
            have hln : sm_len i = 1 := by cases i <;> first | rfl | cases hisr
            exact sm_s_ret (cc := bc y) hx hb (kd := (sm_nL T y).2.1) hret hlk (sm_dec_of TB hi hts1) hln hv
        · split at hr
          · split at hr
            · next pc' L' S' h1 hs =>
              have g1 := sm_i_ge _ hs
              have g2 := sm_run_ge _ _ _ _ _ _ _ _ _ _ hr
              exact sm_sound (r := (pc', L', S', h1)) TB hx hb rfl hown hmn hts hK.2.1 hK.2.2.1 hK.1 hXs hbf.1 hbf.2 hA hn0 hle ⟨by dsimp only; omega, by dsimp only; omega⟩ hi hs (ih d lw y pc' L' S' h1 o h' hr p e R s m args below meth c A ad0 n0 C1 S1 hx hb hml hret hlk hown hmn het hts hK hfx hA (Nat.le_trans hn0 g1.2.2) ⟨Nat.le_trans g1.1 hle.1, Nat.le_trans g1.2.1 hle.2⟩ hroom hd hlo)
            · cases hr
          · next k z w hinv =>
            obtain ⟨idx, hcal, hop⟩ := sm_inv_op hinv
            have hgo := CB y idx k z w hcal
            split at hr
            · cases hr
            · next d =>
              split at hr
              · next hk3 =>
               split at hr
               · next hlw100 =>
                split at hr
                · next pc' L' S' h1 hs =>
                  have g1 := sm_lib_ge _ hs
                  have g2 := sm_run_ge _ _ _ _ _ _ _ _ _ _ hr
                  obtain ⟨t3, t4, t5, htyN⟩ := TB.2.2.2.2.2.2.1
                  refine sm_s_lib (r := (pc', L', S', h1)) (k := k) (z := z) (w := w) (idx := idx) (y := y) (tys := sm_tys cA tyN) hx hb hml hown hts hK.1 (sm_tys_get (by rw [htyN]; rfl)) hgo (by omega) (by omega) ⟨by dsimp only at g1 g2 ⊢; omega, by dsimp only at g1 g2 ⊢; omega⟩ ?_ hs (ih (d + 1) lw y pc' L' S' h1 o h' hr p e R s m args below meth c A ad0 n0 C1 S1 hx hb hml hret hlk hown hmn het hts hK hfx hA (Nat.le_trans hn0 g1.2.2) ⟨Nat.le_trans g1.1 hle.1, Nat.le_trans g1.2.1 hle.2⟩ hroom hd hlo)
                  rcases hop with ⟨rfl, hk⟩ | ⟨rfl, hk⟩ | ⟨rfl, hk⟩
                  · exact ⟨fun h9 => by omega, fun _ => sm_dec_of TB hi rfl⟩
                  · exact ⟨fun h9 => by omega, fun h9 => by omega⟩
                  · exact ⟨fun _ => sm_dec_of TB hi rfl, fun h9 => by omega⟩
                · cases hr
               · cases hr
              · next hk3 =>
                split at hr
                · next hw =>
                  obtain ⟨w1, w2, w3, w4, w5, w6⟩ := hw
                  have hlen : (S.take w).reverse.length = w := by simp; omega
                  have hvs : (S.take w).reverse.all sm_c1 = true := by rw [List.all_reverse]; exact w4
                  obtain ⟨-, -, -, f3, fs, fv, fi⟩ := hgo
                  obtain ⟨flk, fini, fcw, fpl, fds, fw1, f40⟩ := f3 (by omega)
                  split at hr
                  · next v h1 hrun =>
                    obtain ⟨-, hrun⟩ := sm_or_inl hrun
                    split at hr
                    · next hok =>
                      have g1 := sm_run_ge _ _ _ _ _ _ _ _ _ _ hrun
                      have g2 := sm_run_ge _ _ _ _ _ _ _ _ _ _ hr
                      intro ad H locs ls e1 hP hD hS hl
                      have kk := ih (d + 1) lw y (pc + 3) L (v.toList ++ S.drop w) h1 o h' hr p e R s m args below meth c A ad0 n0 C1 S1 hx hb hml hret hlk hown hmn het hts hK hfx hA (Nat.le_trans hn0 g1.2.2) ⟨Nat.le_trans g1.1 hle.1, Nat.le_trans g1.2.1 hle.2⟩ hroom hd hlo
                      have eS : S.map (sm_v b ad) = ((S.take w).reverse.map (sm_v b ad)).reverse ++ (S.drop w).map (sm_v b ad) := by
                        rw [List.map_reverse, List.reverse_reverse, ← List.map_append, List.take_append_drop]
                      have hpre : ∀ U : State, U.heap = H → s.WarmedH U.vm → sm_Pc D cl cA b tyN NW AO KT fx ad H.size (S.take w).reverse h ((S.take w).reverse.map (sm_v b ad)).toArray U := by
                        intro U hU hW
                        have hq : ∀ q, fx q → U.heap[q]? = s.heap[q]? := fun q hq => by rw [hU]; exact hS.2.1 q (hfx q hq).1 (hfx q hq).2
                        refine ⟨rfl, by rw [hU], by rw [hU]; exact hP, hD.weaken (fun _ _ _ _ => trivial), sm_Kx_mv hM hW hq hK, fun q hq => ⟨Nat.lt_of_lt_of_le (hfx q hq).1 hS.1, fun hz => ?_⟩⟩
                        rcases hz with ⟨k9, e9, hz⟩ | hz
                        · exact (hfx q hq).2 (hD.2 k9 (q, e9) hz)
                        · exact absurd (Nat.lt_of_lt_of_le (hfx q hq).1 hS.1) (by omega)
                      cases hez : eh z with
                      | cons q9 r9 => sorry
                      | nil =>
                        have hcw : sm_cw T bc nm eh z = Cond.code (nm z) (bc z) (sm_nL T z).1 (sm_rt T z) := by unfold sm_cw; rw [hez]
                        rw [hcw] at fcw
                        have hMet := sm_met ih hrun hvs (by rw [hlen]; exact w5) fpl hez ad H.size
                        refine sm_on hA hn0 hle g1 hok e1 hD hS hl (av := ((S.take w).reverse.map (sm_v b ad)).toArray) ?_ kk
                        rw [eS]
                        refine sm_run345 (k := k) (idx := idx) (n := if k = 3 then w else w - 1) (Pc := sm_Pc D cl cA b tyN NW AO KT fx ad H.size (S.take w).reverse h) hx hb hml hown hts hK.2.1 hG hMet fcw rfl rfl fini flk fds ⟨by show d + 1 ≤ R.frames; omega, by show 8 + ((sm_nL T z).1 + 11) + (lw - (19 + (sm_nL T z).1)) ≤ R.locals; omega⟩ (sm_blind hM) hpre hl.2.1 (by rw [sm_sum_map]; exact w2) ⟨by omega, by omega⟩ ?_
                        rcases hop with ⟨rfl, hk⟩ | ⟨rfl, hk⟩ | ⟨rfl, hk⟩
                        · have hk : k = 3 := by omega
                          subst hk
                          exact Or.inl ⟨rfl, by rw [List.length_map, hlen]; rfl, fs rfl, sm_dec_of TB hi rfl⟩
                        · subst hk
                          have hw1 := fw1 (by decide)
                          refine Or.inr (Or.inl ⟨rfl, by rw [List.length_map, hlen]; show w = w - 1 + 1; omega, (fv rfl).1, (fv rfl).2.1, ?_, sm_dec_of TB hi rfl⟩)
                          obtain ⟨q8, hq8, hq9⟩ := (fv rfl).2.2
                          obtain ⟨a, rest, fs9, h8, hz9⟩ := sm_rcv4 w3
                          obtain ⟨cellB, r1, r2, r3⟩ := va_recv hK.1 hP hq8 (sm_w_get hz9)
                          exact ⟨ad a, rest.map (sm_v b ad), cellB, by rw [h8]; rfl, r1, r2, by rw [← hq9]; exact r3⟩
                        · have hk : k = 5 := by omega
                          subst hk
                          have hw1 := fw1 (by decide)
                          refine Or.inr (Or.inr ⟨rfl, by rw [List.length_map, hlen]; show w = w - 1 + 1; omega, (fi rfl).1, (fi rfl).2.1, ?_, ?_, sm_dec_of TB hi rfl⟩)
                          · unfold sm_rt
                            rw [(fi rfl).2.2]
                            rfl
                          · obtain ⟨a, rest, h8⟩ := sm_rcv5 w3
                            exact ⟨ad a, rest.map (sm_v b ad), by rw [h8]; rfl⟩
                    · cases hr
                  · sorry
                  · cases hr
                · cases hr
end SMB
