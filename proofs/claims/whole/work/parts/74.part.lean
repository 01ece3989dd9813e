/-! a part of the law -/
theorem w_nle {x p : Nat} (h1 : 1 ≤ x) (h2 : x ≤ 15) (h3 : p ≤ 1000) : ¬ nI (x + 16 * p) ≤ 0 := by
  rw [z_leR 0 (by decide) (by omega)]
  show ¬ x + 16 * p ≤ 0
  omega
theorem w_part {t : List Nat} (hw : qt_w t) {N a : Nat} {M : lh_LL} (ha : 11 ≤ a ∧ a ≤ 23) {nd ex ndP exP ndW exW y : Nat} {gL : Nat → Int32 → Int32 → lh_II → lh_LL → Option (Int32 × lh_II × lh_LL)} {gP : Nat → Int32 → lh_II → lh_LL → Option (Int32 × lh_II × lh_LL)} {gW gT gS gQ gP' : Int32 → lh_II → lh_LL → Option lh_II} (hy : y ≤ 5) (hP : y < 5 → w_sp t N a M ndP exP (fun I L => gP a (nI (y + 1)) I L) (fun J => gP' (nI (y + 1)) J M)) (hW : y < 5 → w_sp t N a M ndW exW (fun I L => gL a 0 (nI (y + 1)) I L) (fun J => gW (nI (y + 1)) J M)) (h1 : 1 ≤ nd) (h2 : y < 5 → ndP ≤ nd ∧ ndW ≤ nd ∧ exP + 1 ≤ ex ∧ exW ≤ ex) (hex : ex ≤ 90) : w_sp t N a M nd ex (fun I L => f_La_readPart gL gP a (nI y) I L) (fun J => f_LM_takePart gW gT gS gQ gP' (nI y) J M) := by
  intro n ws I L J hc hm h8 h8' hwc hwm hln
  have hb := (tk_C_b t n).1
  have hl0 := hw.1
  have hPn := tk_P_le t n
  have hN : N ≤ 1000 := hm.1
  have hnN : n ≤ N := hm.2.1
  have h4 := hc.2.2.1
  by_cases hf : (23 ≤ tk_C t n ∧ tk_C t n ≤ 26) ∨ tk_C t n = 28 ∨ tk_C t n = 20 ∨ tk_C t n = 29
  · by_cases hy5 : y < 5
    · obtain ⟨h2a, h2b, h2c, h2d⟩ := h2 hy5
      obtain ⟨I1, L1, e1, e2, e3, e4⟩ := e_adv hw hc
      have hnx := hm.nx (show tk_C t n ≠ 37 by omega)
      have hwc1 : w_c a ws I1 := hwc.kp (fun o k ho => e3 _ _ (by omega))
      have h81 : I1 (1 + 4) 8 = 0 := by rw [e3 _ _ (by omega)]; exact h8
      have hm1 : r_m t N (n + 1) (lh_u2 J (65 + 4) 7 (nI (n + 1))) M := hm.kp (by omega) q_u2s (fun o k ho => by rw [q_u2o (by omega)])
      have hwm1 : w_m ws (lh_u2 J (65 + 4) 7 (nI (n + 1))) := hwm.kp (fun o k ho => by rw [q_u2o (by omega)])
      have h81' : lh_u2 J (65 + 4) 7 (nI (n + 1)) (65 + 4) 8 = 0 := by rw [q_u2o (by omega)]; exact h8'
      rcases hf with hf | hf | hf | hf
      · have ep := e_put1 hwc1.1 (show ws.length < 1000 by omega) (-nI (tk_C t n))
        have em := m_emit hwm.1 (show ws.length < 1100 by omega) 2 (nI (tk_C t n - 23))
        have ea := w_c.ap (x := (2, tk_C t n - 23)) hwc1
        have eb := w_m.ap (x := (2, tk_C t n - 23)) hwm
        have ecw : q_cw (2, tk_C t n - 23) = -nI (tk_C t n) := by
          show -nI (23 + (tk_C t n - 23)) = _
          rw [show 23 + (tk_C t n - 23) = tk_C t n by omega]
        rw [ecw] at ea
        refine ⟨_, L1, _, Or.inl ⟨e_ptA (gL := gL) (gP := gP) h4 hb hf hy5 e1 ep, by show f_LM_takePart gW gT gS gQ gP' (nI y) J M = _; rw [m_ptA hm h8' hf hy5, em, z_bs], ?_⟩, fun o k g1 g2 g3 => ?_, e4, fun o k g1 g2 g3 => ?_⟩
        · refine ⟨by rw [q_u2o (by omega), q_u2o (by omega)]; exact h81, by rw [q_u2o (by omega), q_u2o (by omega), q_u2o (by omega), q_u2o (by omega)]; exact h8', n + 1, [(2, tk_C t n - 23)], by omega, e2.kp (fun o k ho => by rw [q_u2o (by omega), q_u2o (by omega)]), hm.kp (by omega) ?_ (fun o k ho => by rw [q_u2o (by omega), q_u2o (by omega), q_u2o (by omega), q_u2o (by omega)]), ea, eb.kp (fun o k ho => by rw [q_u2o (by omega)]; rfl), (by show 1 + n ≤ n + 1; omega), fun rest d hd => ?_⟩
          · rw [q_u2s, q_u2o (by omega), q_u2o (by omega), q_u2o (by omega), hm.2.2.2.2.2.1, z_addL]
          · show (decide (tk_C t n - 23 < 4) && decide (d < 32) && q_ck rest (d + 1)) = _
            rw [decide_eq_true (by omega), decide_eq_true (by omega)]
            simp
        · rw [q_u2o (by omega), q_u2o (by omega), e3 _ _ (by omega)]
        · rw [q_u2o (by omega), q_u2o (by omega), q_u2o (by omega), q_u2o (by omega)]
      · have hV := tk_V_le hf
        have h6 := (hc.2.2.2.2.1 hf).1
        have ep := e_put1 hwc1.1 (show ws.length < 1000 by omega) (I (1 + 4) 6)
        have em := m_emit hwm.1 (show ws.length < 1100 by omega) 1 (nI (tk_V t n))
        have ea := w_c.ap (x := (1, tk_V t n)) hwc1
        have eb := w_m.ap (x := (1, tk_V t n)) hwm
        have ecw : q_cw (1, tk_V t n) = I (1 + 4) 6 := by rw [h6]; rfl
        rw [ecw] at ea
        rw [hf] at h4
        refine ⟨_, L1, _, Or.inl ⟨e_ptB (gL := gL) (gP := gP) h4 hy5 e1 ep, by show f_LM_takePart gW gT gS gQ gP' (nI y) J M = _; rw [m_ptB hm h8' hf hy5, em, z_bs], ?_⟩, fun o k g1 g2 g3 => ?_, e4, fun o k g1 g2 g3 => ?_⟩
        · refine ⟨by rw [q_u2o (by omega), q_u2o (by omega)]; exact h81, by rw [q_u2o (by omega), q_u2o (by omega), q_u2o (by omega), q_u2o (by omega)]; exact h8', n + 1, [(1, tk_V t n)], by omega, e2.kp (fun o k ho => by rw [q_u2o (by omega), q_u2o (by omega)]), hm.kp (by omega) ?_ (fun o k ho => by rw [q_u2o (by omega), q_u2o (by omega), q_u2o (by omega), q_u2o (by omega)]), ea, eb.kp (fun o k ho => by rw [q_u2o (by omega)]; rfl), (by show 1 + n ≤ n + 1; omega), fun rest d hd => ?_⟩
          · rw [q_u2s, q_u2o (by omega), q_u2o (by omega), q_u2o (by omega), hm.2.2.2.2.2.1, z_addL]
          · show (decide (tk_V t n ≤ 9999) && decide (d < 32) && q_ck rest (d + 1)) = _
            rw [decide_eq_true hV, decide_eq_true (by omega)]
            simp
        · rw [q_u2o (by omega), q_u2o (by omega), e3 _ _ (by omega)]
        · rw [q_u2o (by omega), q_u2o (by omega), q_u2o (by omega), q_u2o (by omega)]
      · rw [hf] at h4
        obtain ⟨I2, L2, J2, hor, f1, f2, f3⟩ := hP hy5 (n + 1) ws I1 L1 (lh_u2 J (65 + 4) 7 (nI (n + 1))) e2 hm1 h81 h81' hwc1 hwm1 (by omega)
        have hcl := e_ptN (gL := gL) (gP := gP) (a := a) h4 hy5 e1
        have hmd := m_ptN (gW := gW) (gT := gT) (gS := gS) (gQ := gQ) (gP := gP') hm h8' hf hy5
        rcases hor with ⟨x1, x2, x3, x4, n', es, x5, x6, x7, x8, x9, x10, x11⟩ | ⟨x1, x2, F, x3, x4, x5, c, x6, x7⟩
        · have x1' : gP a (nI (y + 1)) I1 L1 = some (1, I2, L2) := x1
          have x2' : gP' (nI (y + 1)) (lh_u2 J (65 + 4) 7 (nI (n + 1))) M = some J2 := x2
          have hlen : (ws ++ es).length = ws.length + es.length := List.length_append
          have hn'N : n' ≤ N := x7.2.1
          have ep := e_put1 x8.1 (show (ws ++ es).length < 1000 by omega) (-20)
          have em := m_emit x9.1 (show (ws ++ es).length < 1100 by omega) 3 0
          have ea := w_c.ap (x := (3, 0)) x8
          have eb := w_m.ap (x := (3, 0)) x9
          rw [List.append_assoc] at ea eb
          refine ⟨lh_u2 (lh_u2 I2 (a + 2 + 4) (ws ++ es).length (-20)) (a + 1 + 4) 2 (nI ((ws ++ es).length + 1)), L2, _, Or.inl ⟨by show f_La_readPart gL gP a (nI y) I L = _; rw [hcl, x1', z_bs]; simp only [z_10, ↓reduceIte, ep, z_bs], by show f_LM_takePart gW gT gS gQ gP' (nI y) J M = _; rw [hmd, x2', z_bs, em, z_bs], ?_⟩, fun o k g1 g2 g3 => ?_, fun o k g1 => by rw [f2 _ _ g1, e4 _ _ g1], fun o k g1 g2 g3 => ?_⟩
          · refine ⟨by rw [q_u2o (by omega), q_u2o (by omega)]; exact x3, by rw [q_u2o (by omega), q_u2o (by omega), q_u2o (by omega)]; exact x4, n', es ++ [(3, 0)], by omega, x6.kp (fun o k ho => by rw [q_u2o (by omega), q_u2o (by omega)]), x7.kp hn'N ?_ (fun o k ho => by rw [q_u2o (by omega), q_u2o (by omega), q_u2o (by omega)]), ea, eb, by rw [List.length_append]; simp; omega, fun rest d hd => ?_⟩
            · rw [q_u2o (by omega), q_u2o (by omega), q_u2o (by omega)]; exact x7.2.2.2.2.2.1
            · rw [List.append_assoc, x11 _ _ (by omega)]
              show (decide (1 ≤ d + 1) && q_ck rest (d + 1)) = _
              rw [decide_eq_true (by omega)]
              simp
          · rw [q_u2o (by omega), q_u2o (by omega), f1 _ _ g1 g2 g3, e3 _ _ (by omega)]
          · rw [q_u2o (by omega), q_u2o (by omega), q_u2o (by omega), f3 _ _ g1 g2 g3, q_u2o (by omega)]
        · have x1' : gP a (nI (y + 1)) I1 L1 = some (0, I2, L2) := x1
          have x2' : gP' (nI (y + 1)) (lh_u2 J (65 + 4) 7 (nI (n + 1))) M = some J2 := x2
          have em := m_emit x6 (show c < 1100 by omega) 3 0
          refine ⟨I2, L2, _, Or.inr ⟨by show f_La_readPart gL gP a (nI y) I L = _; rw [hcl, x1', z_bs]; simp only [↓reduceIte], by show f_LM_takePart gW gT gS gQ gP' (nI y) J M = _; rw [hmd, x2', z_bs, em, z_bs], F, x3, x4, by rw [q_u2o (by omega), q_u2o (by omega), q_u2o (by omega)]; exact x5, c + 1, q_u2s, by omega⟩, fun o k g1 g2 g3 => ?_, fun o k g1 => by rw [f2 _ _ g1, e4 _ _ g1], fun o k g1 g2 g3 => ?_⟩
          · rw [f1 _ _ g1 g2 g3, e3 _ _ (by omega)]
          · rw [q_u2o (by omega), q_u2o (by omega), q_u2o (by omega), f3 _ _ g1 g2 g3, q_u2o (by omega)]
      · rw [hf] at h4
        obtain ⟨I2, L2, J2, hor, f1, f2, f3⟩ := hW hy5 (n + 1) ws I1 L1 (lh_u2 J (65 + 4) 7 (nI (n + 1))) e2 hm1 h81 h81' hwc1 hwm1 (by omega)
        have hcl := e_ptP (gL := gL) (gP := gP) (a := a) h4 hy5 e1
        have hmd := m_ptP (gW := gW) (gT := gT) (gS := gS) (gQ := gQ) (gP := gP') hm h8' hf hy5
        rcases hor with ⟨x1, x2, x3, x4, n', es, x5, x6, x7, x8, x9, x10, x11⟩ | ⟨x1, x2, F, x3, x4, x5, c, x6, x7⟩
        · have x1' : gL a 0 (nI (y + 1)) I1 L1 = some (1, I2, L2) := x1
          have x2' : gW (nI (y + 1)) (lh_u2 J (65 + 4) 7 (nI (n + 1))) M = some J2 := x2
          have hb' := (tk_C_b t n').1
          have hPn' := tk_P_le t n'
          have ets : f_LM_takeSign 41 J2 M = _ := m_tsign x7 x4 (k := 1) (by decide)
          have hE : (nI (tk_C t n') = 30) = (tk_C t n' = 30) := z_eqR 30 (by decide) (by omega)
          by_cases h30 : tk_C t n' = 30
          · obtain ⟨I3, L3, k1, k2, k3, k4⟩ := e_adv hw x6
            have hnx2 := x7.nx (show tk_C t n' ≠ 37 by omega)
            rw [if_pos (show tk_C t n' = 29 + 1 from h30)] at ets
            refine ⟨I3, L3, _, Or.inl ⟨by show f_La_readPart gL gP a (nI y) I L = _; rw [hcl, x1', z_bs]; simp only [z_10, ↓reduceIte, x6.2.2.1, h30, show (nI 30 = (30 : Int32)) = True by decide, k1, z_bs], by show f_LM_takePart gW gT gS gQ gP' (nI y) J M = _; rw [hmd, x2', z_bs, ets, z_bs], ?_⟩, fun o k g1 g2 g3 => ?_, fun o k g1 => by rw [k4 _ _ g1, f2 _ _ g1, e4 _ _ g1], fun o k g1 g2 g3 => ?_⟩
            · refine ⟨by rw [k3 _ _ (by omega)]; exact x3, by rw [q_u2o (by omega)]; exact x4, n' + 1, es, by omega, k2, x7.kp (by omega) q_u2s (fun o k ho => by rw [q_u2o (by omega)]), x8.kp (fun o k ho => k3 _ _ (by omega)), x9.kp (fun o k ho => by rw [q_u2o (by omega)]), by omega, fun rest d hd => x11 rest d (by omega)⟩
            · rw [k3 _ _ (by omega), f1 _ _ g1 g2 g3, e3 _ _ (by omega)]
            · rw [q_u2o (by omega), f3 _ _ g1 g2 g3, q_u2o (by omega)]
          · have er : f_Re_refuse 1 I2 = _ := e_refuse x6 x3 1
            rw [if_neg (show ¬ tk_C t n' = 29 + 1 from h30)] at ets
            have hlen : (ws ++ es).length = ws.length + es.length := List.length_append
            have hn'N : n' ≤ N := x7.2.1
            refine ⟨lh_u2 I2 (1 + 4) 8 (nI (1 + 16 * tk_P t n')), L2, _, Or.inr ⟨by show f_La_readPart gL gP a (nI y) I L = _; rw [hcl, x1', z_bs]; simp only [z_10, ↓reduceIte, x6.2.2.1, hE, h30, er, z_bs, show lh_z 0 = true from rfl, z_gd], by show f_LM_takePart gW gT gS gQ gP' (nI y) J M = _; rw [hmd, x2', z_bs, ets, z_bs], 1 + 16 * tk_P t n', by omega, q_u2s, q_u2s, (ws ++ es).length, by rw [q_u2o (by omega)]; exact x9.1, by omega⟩, fun o k g1 g2 g3 => ?_, fun o k g1 => by rw [f2 _ _ g1, e4 _ _ g1], fun o k g1 g2 g3 => ?_⟩
            · rw [q_u2o (by omega), f1 _ _ g1 g2 g3, e3 _ _ (by omega)]
            · rw [q_u2o (by omega), f3 _ _ g1 g2 g3, q_u2o (by omega)]
        · have x1' : gL a 0 (nI (y + 1)) I1 L1 = some (0, I2, L2) := x1
          have x2' : gW (nI (y + 1)) (lh_u2 J (65 + 4) 7 (nI (n + 1))) M = some J2 := x2
          have hne : ¬ nI F = 0 := by rw [z_eqR 0 (by decide) (by omega)]; show ¬ F = 0; omega
          have ets := m_tsign' (J := J2) M (by rw [x5]; exact hne) 41
          refine ⟨I2, L2, J2, Or.inr ⟨by show f_La_readPart gL gP a (nI y) I L = _; rw [hcl, x1', z_bs]; simp only [↓reduceIte], by show f_LM_takePart gW gT gS gQ gP' (nI y) J M = _; rw [hmd, x2', z_bs, ets, z_bs], F, x3, x4, x5, c, x6, by omega⟩, fun o k g1 g2 g3 => ?_, fun o k g1 => by rw [f2 _ _ g1, e4 _ _ g1], fun o k g1 g2 g3 => ?_⟩
          · rw [f1 _ _ g1 g2 g3, e3 _ _ (by omega)]
          · rw [f3 _ _ g1 g2 g3, q_u2o (by omega)]
    · have e5 : y = 5 := by omega
      subst e5
      have er : f_Re_refuse 5 I = _ := e_refuse hc h8 5
      have em : f_LM_wrong 5 J = _ := m_wrong hm h8' 5
      refine ⟨_, L, _, Or.inr ⟨e_pt5 (gL := gL) (gP := gP) h4 hb hf er, m_pt5 hm h8' hf em (by rw [q_u2s]; exact w_nle (by decide) (by decide) (by omega)), 5 + 16 * tk_P t n, by omega, q_u2s, q_u2s, ws.length, by rw [q_u2o (by omega)]; exact hwm.1, by omega⟩, fun o k g1 g2 g3 => by rw [q_u2o (by omega)], fun _ _ _ => rfl, fun o k g1 g2 g3 => by rw [q_u2o (by omega)]⟩
  · have er : f_Re_refuse 1 I = _ := e_refuse hc h8 1
    have em : f_LM_wrong 1 J = _ := m_wrong hm h8' 1
    refine ⟨_, L, _, Or.inr ⟨e_ptX (gL := gL) (gP := gP) (nI y) h4 hb hf er, m_ptX (nI y) hm h8' hf em (by rw [q_u2s]; exact w_nle (by decide) (by decide) (by omega)), 1 + 16 * tk_P t n, by omega, q_u2s, q_u2s, ws.length, by rw [q_u2o (by omega)]; exact hwm.1, by omega⟩, fun o k g1 g2 g3 => by rw [q_u2o (by omega)], fun _ _ _ => rfl, fun o k g1 g2 g3 => by rw [q_u2o (by omega)]⟩
