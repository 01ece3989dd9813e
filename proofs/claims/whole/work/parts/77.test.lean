/-! the level of tests -/
theorem w_test {t : List Nat} (hw : qt_w t) {N a : Nat} {M : lh_LL} (ha : 11 ≤ a ∧ a ≤ 23) {nd ex y : Nat} (hex : ex + 1 ≤ 90) {gL : Nat → Int32 → Int32 → lh_II → lh_LL → Option (Int32 × lh_II × lh_LL)} {gP : Nat → Int32 → lh_II → lh_LL → Option (Int32 × lh_II × lh_LL)} {gW gT gS gQ gP' : Int32 → lh_II → lh_LL → Option lh_II} (hS : w_sp t N a M nd ex (fun I L => gL a (nI 2) (nI y) I L) (fun J => gS (nI y) J M)) : w_sp t N a M (nd + 1) (ex + 1) (fun I L => f_La_readLevel gL gP a (nI 1) (nI y) I L) (fun J => f_LM_test gW gT gS gQ gP' (nI y) J M) := by
  intro n ws I L J hc hm h8 h8' hwc hwm hln
  have hN : N ≤ 1000 := hm.1
  obtain ⟨I2, L2, J2, hor, f1, f2, f3⟩ := hS n ws I L J hc hm h8 h8' hwc hwm hln
  have hcl : f_La_readLevel gL gP a (nI 1) (nI y) I L = lh_bd (gL a (nI 2) (nI y) I L) fun r2 => if r2.1 = 0 then some (0, r2.2.1, r2.2.2) else lh_bd (f_La_readLevel_27 gL gP a (nI 1) (nI y) 1 lh_fuel 0 r2.2.1 r2.2.2) fun r17 => if r17.1 = 0 then some (0, r17.2.1, r17.2.2) else some (1, r17.2.1, r17.2.2) := by
    unfold f_La_readLevel
    simp (disch := omega) only [z_ltR, z_eqR, z_addL, Nat.reduceLT, Nat.reduceAdd, z_bs, z_gd, z_b1, z_b0, z_10, z_01, eq_self, reduceCtorEq, ↓reduceIte, if_true, if_false, Nat.not_lt_zero, not_true_eq_false, not_false_eq_true, Bool.false_eq_true, Nat.le_refl, Nat.lt_irrefl]
  rcases hor with ⟨x1, x2, x3, x4, n', es, x5, x6, x7, x8, x9, x10, x11⟩ | ⟨x1, x2, B, x3, x4, x5, c, x6, x7⟩
  · have x1' : gL a (nI 2) (nI y) I L = some (1, I2, L2) := x1
    have x2' : gS (nI y) J M = some J2 := x2
    have hlen : (ws ++ es).length = ws.length + es.length := List.length_append
    have hn'N : n' ≤ N := x7.2.1
    have hb := (tk_C_b t n').1
    have eo := w_op_c 1 (by decide) (tk_C t n') hb
    have i60 : f_LM_isSign 60 J2 M = _ := m_isSign x7 x4 (k := 2) (by decide)
    cases ho : w_op 1 (tk_C t n') with
    | none =>
      have hC : ¬ tk_C t n' = 31 ∧ ¬ tk_C t n' = 32 := by
        refine ⟨fun e => ?_, fun e => ?_⟩
        · rw [e] at ho; cases ho
        · rw [e] at ho; cases ho
      rw [ho] at eo
      have s60 : f_LM_hasSign 60 J2 M = _ := m_hasSign0 x7 x4 (k := 2) (by decide) (by omega)
      have s61 : f_LM_hasSign 61 J2 M = _ := m_hasSign0 x7 x4 (k := 3) (by decide) (by omega)
      have hk : f_La_readLevel_27 gL gP a (nI 1) (nI y) 1 lh_fuel 0 I2 L2 = some (1, I2, L2) := by
        show f_La_readLevel_27 gL gP a (nI 1) (nI y) 1 (4999 + 1) (nI 0) I2 L2 = _
        rw [f_La_readLevel_27, x6.2.2.1]
        simp (disch := omega) only [z_leL, eo, Option.isSome_none, Nat.reduceLeDiff, z_bs, z_gd, z_b1, z_b0, z_10, z_01, eq_self, reduceCtorEq, ↓reduceIte, if_true, if_false, Nat.not_lt_zero, not_true_eq_false, not_false_eq_true, Bool.false_eq_true, Nat.le_refl, Nat.lt_irrefl]
      refine ⟨I2, L2, J2, Or.inl ⟨by show f_La_readLevel gL gP a (nI 1) (nI y) I L = _; rw [hcl, x1', z_bs]; simp only [z_10, ↓reduceIte, hk, z_bs, Nat.one_ne_zero], ?_, x3, x4, n', es, x5, x6, x7, x8, x9, x10, fun rest d hd => x11 rest d (by omega)⟩, f1, f2, f3⟩
      show f_LM_test gW gT gS gQ gP' (nI y) J M = some J2
      unfold f_LM_test
      rw [x2', z_bs, i60, z_bs, s60, z_bs]
      simp only [↓reduceIte, s61, z_bs]
    | some k =>
      obtain ⟨hk, h37, hcw⟩ := w_op_h 1 _ k ho
      have hnx := x7.nx h37
      obtain ⟨I1, L1, e1, e2, e3, e4⟩ := e_adv hw x6
      have hwc1 : w_c a (ws ++ es) I1 := x8.kp (fun o k ho => e3 _ _ (by omega))
      have h81 : I1 (1 + 4) 8 = 0 := by rw [e3 _ _ (by omega)]; exact x3
      have hm1 : r_m t N (n' + 1) (lh_u2 J2 (65 + 4) 7 (nI (n' + 1))) M := x7.kp (by omega) q_u2s (fun o k ho => by rw [q_u2o (by omega)])
      have hwm1 : w_m (ws ++ es) (lh_u2 J2 (65 + 4) 7 (nI (n' + 1))) := x9.kp (fun o k ho => by rw [q_u2o (by omega)])
      have h81' : lh_u2 J2 (65 + 4) 7 (nI (n' + 1)) (65 + 4) 8 = 0 := by rw [q_u2o (by omega)]; exact x4
      rw [ho] at eo
      have hmd : f_LM_test gW gT gS gQ gP' (nI y) J M = lh_bd (gS (nI y) (lh_u2 J2 (65 + 4) 7 (nI (n' + 1))) M) fun r => lh_bd (f_LM_emit (nI k) 0 r) fun r2 => some r2 := by
        have hC : (tk_C t n' = 31 ∧ k = 7) ∨ (tk_C t n' = 32 ∧ k = 8) := by
          unfold w_op at ho
          rw [if_neg (by decide), if_pos rfl] at ho
          repeat' split at ho
          · cases ho; left; exact ⟨by assumption, rfl⟩
          · cases ho; right; exact ⟨by assumption, rfl⟩
          · cases ho
        unfold f_LM_test
        rcases hC with ⟨e, rfl⟩ | ⟨e, rfl⟩
        · have s60 : f_LM_hasSign 60 J2 M = _ := m_hasSign1 x7 x4 (k := 2) (by decide) e
          rw [decide_eq_true (show tk_C t n' = 29 + 2 from e)] at i60
          rw [x2', z_bs, i60, z_bs, s60, z_bs]
          simp only [z_10, z_b1, ↓reduceIte]
          rfl
        · have s60 : f_LM_hasSign 60 J2 M = _ := m_hasSign0 x7 x4 (k := 2) (by decide) (by omega)
          have s61 : f_LM_hasSign 61 J2 M = _ := m_hasSign1 x7 x4 (k := 3) (by decide) e
          rw [decide_eq_false (show ¬ tk_C t n' = 29 + 2 by omega)] at i60
          rw [x2', z_bs, i60, z_bs, s60, z_bs]
          simp only [z_10, z_b0, ↓reduceIte, s61, z_bs]
          rfl
      have hk0 : f_La_readLevel_27 gL gP a (nI 1) (nI y) 1 lh_fuel 0 I2 L2 = lh_bd (gL a (nI 2) (nI y) I1 L1) fun r => if r.1 = 0 then some (0, r.2.1, r.2.2) else lh_bd (f_La_put a (-(nI (tk_C t n'))) r.2.1) fun r2 => some (1, r2.2, r.2.2) := by
        have hstop : ∀ (X : lh_II) (Y : lh_LL), f_La_readLevel_27 gL gP a (nI 1) (nI y) 1 4999 (nI (0 + 1)) X Y = some (1, X, Y) := fun X Y => by
          show f_La_readLevel_27 gL gP a (nI 1) (nI y) 1 (4998 + 1) (nI (0 + 1)) X Y = _
          rw [f_La_readLevel_27]
          simp (disch := omega) only [z_leL, Nat.reduceAdd, z_bs, z_gd, z_b1, z_b0, z_10, z_01, eq_self, reduceCtorEq, ↓reduceIte, if_true, if_false, Nat.not_lt_zero, not_true_eq_false, not_false_eq_true, Bool.false_eq_true, Nat.le_refl, Nat.lt_irrefl]
        show f_La_readLevel_27 gL gP a (nI 1) (nI y) 1 (4999 + 1) (nI 0) I2 L2 = _
        rw [f_La_readLevel_27, x6.2.2.1]
        simp (disch := omega) only [z_leL, eo, Option.isSome_some, Nat.reduceLeDiff, e1, z_addL, hstop, Nat.reduceAdd, z_bs, z_gd, z_b1, z_b0, z_10, z_01, eq_self, reduceCtorEq, ↓reduceIte, if_true, if_false, Nat.not_lt_zero, not_true_eq_false, not_false_eq_true, Bool.false_eq_true, Nat.le_refl, Nat.lt_irrefl]
      obtain ⟨I3, L3, J3, hor3, p1, p2, p3⟩ := hS (n' + 1) (ws ++ es) I1 L1 (lh_u2 J2 (65 + 4) 7 (nI (n' + 1))) e2 hm1 h81 h81' hwc1 hwm1 (by omega)
      rcases hor3 with ⟨y1, y2, y3, y4, n2, es2, y5, y6, y7, y8, y9, y10, y11⟩ | ⟨y1, y2, B, y3, y4, y5, c, y6, y7⟩
      · have y1' : gL a (nI 2) (nI y) I1 L1 = some (1, I3, L3) := y1
        have y2' : gS (nI y) (lh_u2 J2 (65 + 4) 7 (nI (n' + 1))) M = some J3 := y2
        have hlen2 : (ws ++ es ++ es2).length = (ws ++ es).length + es2.length := List.length_append
        have hn2N : n2 ≤ N := y7.2.1
        have ep := e_put1 y8.1 (show (ws ++ es ++ es2).length < 1000 by omega) (-nI (tk_C t n'))
        have em := m_emit y9.1 (show (ws ++ es ++ es2).length < 1100 by omega) (nI k) 0
        have ea := w_c.ap (x := (k, 0)) y8
        have eb := w_m.ap (x := (k, 0)) y9
        rw [hcw] at ea
        rw [show ws ++ es ++ es2 ++ [(k, 0)] = ws ++ (es ++ (es2 ++ [(k, 0)])) by simp] at ea eb
        refine ⟨lh_u2 (lh_u2 I3 (a + 2 + 4) (ws ++ es ++ es2).length (-nI (tk_C t n'))) (a + 1 + 4) 2 (nI ((ws ++ es ++ es2).length + 1)), L3, _, Or.inl ⟨by show f_La_readLevel gL gP a (nI 1) (nI y) I L = _; rw [hcl, x1', z_bs]; simp only [z_10, ↓reduceIte, hk0, y1', z_bs, ep, Nat.one_ne_zero], by show f_LM_test gW gT gS gQ gP' (nI y) J M = _; rw [hmd, y2', z_bs, em, z_bs]; rfl, by rw [q_u2o (by omega), q_u2o (by omega)]; exact y3, by rw [q_u2o (by omega), q_u2o (by omega), q_u2o (by omega)]; exact y4, n2, es ++ (es2 ++ [(k, 0)]), by omega, y6.kp (fun o k ho => by rw [q_u2o (by omega), q_u2o (by omega)]), y7.kp hn2N (by rw [q_u2o (by omega), q_u2o (by omega), q_u2o (by omega)]; exact y7.2.2.2.2.2.1) (fun o k ho => by rw [q_u2o (by omega), q_u2o (by omega), q_u2o (by omega)]), ea, eb, by rw [List.length_append, List.length_append]; simp; omega, fun rest d hd => ?_⟩, fun o k g1 g2 g3 => by rw [q_u2o (by omega), q_u2o (by omega), p1 _ _ g1 g2 g3, e3 _ _ (by omega), f1 _ _ g1 g2 g3], fun o k g1 => by rw [p2 _ _ g1, e4 _ _ g1, f2 _ _ g1], fun o k g1 g2 g3 => by rw [q_u2o (by omega), q_u2o (by omega), q_u2o (by omega), p3 _ _ g1 g2 g3, q_u2o (by omega), f3 _ _ g1 g2 g3]⟩
        rw [List.append_assoc, x11 _ _ (by omega), List.append_assoc, y11 _ _ (by omega)]
        exact q_ck_op hk rest (by omega)
      · have y1' : gL a (nI 2) (nI y) I1 L1 = some (0, I3, L3) := y1
        have y2' : gS (nI y) (lh_u2 J2 (65 + 4) 7 (nI (n' + 1))) M = some J3 := y2
        have em := m_emit y6 (show c < 1100 by omega) (nI k) 0
        exact ⟨I3, L3, _, Or.inr ⟨by show f_La_readLevel gL gP a (nI 1) (nI y) I L = _; rw [hcl, x1', z_bs]; simp only [z_10, ↓reduceIte, hk0, y1', z_bs], by show f_LM_test gW gT gS gQ gP' (nI y) J M = _; rw [hmd, y2', z_bs, em, z_bs], B, y3, y4, by rw [q_u2o (by omega), q_u2o (by omega), q_u2o (by omega)]; exact y5, c + 1, q_u2s, by omega⟩, fun o k g1 g2 g3 => by rw [p1 _ _ g1 g2 g3, e3 _ _ (by omega), f1 _ _ g1 g2 g3], fun o k g1 => by rw [p2 _ _ g1, e4 _ _ g1, f2 _ _ g1], fun o k g1 g2 g3 => by rw [q_u2o (by omega), q_u2o (by omega), q_u2o (by omega), p3 _ _ g1 g2 g3, q_u2o (by omega), f3 _ _ g1 g2 g3]⟩
  · have x1' : gL a (nI 2) (nI y) I L = some (0, I2, L2) := x1
    have x2' : gS (nI y) J M = some J2 := x2
    have hne : ¬ nI B = 0 := by rw [z_eqR 0 (by decide) (by omega)]; show ¬ B = 0; omega
    have hne2 : ¬ J2 (65 + 4) 8 = 0 := by rw [x5]; exact hne
    refine ⟨I2, L2, J2, Or.inr ⟨by show f_La_readLevel gL gP a (nI 1) (nI y) I L = _; rw [hcl, x1', z_bs]; simp only [↓reduceIte], ?_, B, x3, x4, x5, c, x6, by omega⟩, f1, f2, f3⟩
    show f_LM_test gW gT gS gQ gP' (nI y) J M = some J2
    unfold f_LM_test
    rw [x2', z_bs, m_isSign' M hne2, z_bs, m_hasSign' M hne2, z_bs]
    simp only [↓reduceIte, m_hasSign' M hne2, z_bs]
