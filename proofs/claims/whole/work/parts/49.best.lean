/-! visitor, vase, meet, best, blot, choose -/
theorem p_visitor : lh_P3 lh_inv := by
  intro t a b a2 b2 I L x1 x2 hi
  obtain ⟨s, w, c, m, ha, fc, f0, fm⟩ := hi.opx
  have hN := w.1.N
  obtain ⟨m0, k0⟩ := f0 I q_fr.rf
  cases h1 : q_is (q_N (s_h s)) x1 with
  | false => exact ⟨(-2, I), (-2, lh_u2 I (65 + 4) 0 0), by simp only [f_LH_visitor, e_hasVisitor c.1, h1, z_bs, z_gd, z_b1, z_b0, z_10, z_01, eq_self, reduceCtorEq, ↓reduceIte, if_true, if_false, Nat.not_lt_zero, not_true_eq_false, not_false_eq_true, Bool.false_eq_true, Nat.le_refl, Nat.lt_irrefl], by simp only [f_LM_visitor, m_isVisitor m0.1, h1, z_bs, z_gd, z_b1, z_b0, z_10, z_01, eq_self, reduceCtorEq, ↓reduceIte, if_true, if_false, Nat.not_lt_zero, not_true_eq_false, not_false_eq_true, Bool.false_eq_true, Nat.le_refl, Nat.lt_irrefl], rfl, hi.en k0⟩
  | true =>
    cases h2 : q_is 5 x2 with
    | false =>
      have hx : ¬ x2 = 0 ∧ ¬ x2 = 1 ∧ ¬ x2 = 2 ∧ ¬ x2 = 3 ∧ ¬ x2 = 4 := by
        refine ⟨?_, ?_, ?_, ?_, ?_⟩ <;> (intro e; subst e; revert h2; decide)
      obtain ⟨n0, n1, n2, n3, n4⟩ := hx
      exact ⟨(-2, I), (-2, lh_u2 I (65 + 4) 0 0), by simp only [f_LH_visitor, e_hasVisitor c.1, h1, n0, n1, n2, n3, n4, z_bs, z_gd, z_b1, z_b0, z_10, z_01, eq_self, reduceCtorEq, ↓reduceIte, if_true, if_false, Nat.not_lt_zero, not_true_eq_false, not_false_eq_true, Bool.false_eq_true, Nat.le_refl, Nat.lt_irrefl], by simp only [f_LM_visitor, m_isVisitor m0.1, m_in04, h1, h2, z_bs, z_gd, z_b1, z_b0, z_10, z_01, eq_self, reduceCtorEq, ↓reduceIte, if_true, if_false, Nat.not_lt_zero, not_true_eq_false, not_false_eq_true, Bool.false_eq_true, Nat.le_refl, Nat.lt_irrefl], rfl, hi.en k0⟩
    | true =>
      obtain ⟨v, hv, rfl⟩ := q_is_ex (by omega) h1
      obtain ⟨x, hx, rfl⟩ := q_is_ex (by omega) h2
      obtain ⟨p1, p2, p3, p4, p5, p6, p7⟩ := m0.2.1
      obtain ⟨n1, n2, n3, n4, n5, n6, n7⟩ := c.2.1
      have p3' : lh_u2 I (65 + 4) 0 0 (78 + 4) 2 = _ := p3
      have p7' : lh_u2 I (65 + 4) 0 0 (78 + 4) 6 = _ := p7
      have hu := w.2.1.2.1
      have hz : u_z (s_n s) < 2147483648 := Nat.lt_of_lt_of_le w.2.1.2.2.2.2.2 (Nat.le_trans (Nat.pow_le_pow_right (n := 2) (by decide) hN) (by decide))
      have h5 : x = 0 ∨ x = 1 ∨ x = 2 ∨ x = 3 ∨ x = 4 := by omega
      rcases h5 with rfl | rfl | rfl | rfl | rfl
      · refine ⟨(nI (q_kd (s_h s) v), I), (nI (q_kd (s_h s) v), lh_u2 I (65 + 4) 0 0), ?_, ?_, rfl, hi.en k0⟩
        · simp (disch := omega) only [f_LH_visitor, e_hasVisitor c.1, h1, c.1.kd hv, z_le, z_lt, z_eq, z_leL, z_leR, z_ltL, z_ltR, z_eqR, z_eqL, z_m1, z_m1s, z_m1le, z_m1lt, z_m1lt0, z_m1le0, z_0lem1, z_m1lek, z_add, z_addL, z_addR, z_mulR, z_sub, z_subL, z_gd, z_ix, z_cl, z_or0, z_add0, z_bs, z_gd, z_b1, z_b0, z_10, z_01, eq_self, reduceCtorEq, ↓reduceIte, if_true, if_false, Nat.not_lt_zero, not_true_eq_false, not_false_eq_true, Bool.false_eq_true, Nat.le_refl, Nat.lt_irrefl]
        · simp (disch := omega) only [f_LM_visitor, m_isVisitor m0.1, m_in04, h1, h2, m_kindOf m0.1 w.1 hv, z_le, z_lt, z_eq, z_leL, z_leR, z_ltL, z_ltR, z_eqR, z_eqL, z_m1, z_m1s, z_m1le, z_m1lt, z_m1lt0, z_m1le0, z_0lem1, z_m1lek, z_add, z_addL, z_addR, z_mulR, z_sub, z_subL, z_gd, z_ix, z_cl, z_or0, z_add0, z_bs, z_gd, z_b1, z_b0, z_10, z_01, eq_self, reduceCtorEq, ↓reduceIte, if_true, if_false, Nat.not_lt_zero, not_true_eq_false, not_false_eq_true, Bool.false_eq_true, Nat.le_refl, Nat.lt_irrefl]
      · refine ⟨(nI (q_dy (s_h s) v), I), (nI (q_dy (s_h s) v), lh_u2 I (65 + 4) 0 0), ?_, ?_, rfl, hi.en k0⟩
        · simp (disch := omega) only [f_LH_visitor, e_hasVisitor c.1, h1, c.1.dy hv, show ¬ (1 : Nat) = 0 by omega, z_le, z_lt, z_eq, z_leL, z_leR, z_ltL, z_ltR, z_eqR, z_eqL, z_m1, z_m1s, z_m1le, z_m1lt, z_m1lt0, z_m1le0, z_0lem1, z_m1lek, z_add, z_addL, z_addR, z_mulR, z_sub, z_subL, z_gd, z_ix, z_cl, z_or0, z_add0, z_bs, z_gd, z_b1, z_b0, z_10, z_01, eq_self, reduceCtorEq, ↓reduceIte, if_true, if_false, Nat.not_lt_zero, not_true_eq_false, not_false_eq_true, Bool.false_eq_true, Nat.le_refl, Nat.lt_irrefl]
        · simp (disch := omega) only [f_LM_visitor, m_isVisitor m0.1, m_in04, h1, h2, m_dayOf m0.1 w.1 hv, show ¬ (1 : Nat) = 0 by omega, z_le, z_lt, z_eq, z_leL, z_leR, z_ltL, z_ltR, z_eqR, z_eqL, z_m1, z_m1s, z_m1le, z_m1lt, z_m1lt0, z_m1le0, z_0lem1, z_m1lek, z_add, z_addL, z_addR, z_mulR, z_sub, z_subL, z_gd, z_ix, z_cl, z_or0, z_add0, z_bs, z_gd, z_b1, z_b0, z_10, z_01, eq_self, reduceCtorEq, ↓reduceIte, if_true, if_false, Nat.not_lt_zero, not_true_eq_false, not_false_eq_true, Bool.false_eq_true, Nat.le_refl, Nat.lt_irrefl]
      · refine ⟨(q_e (q_pl (s_h s) v (u_h (s_n s))), I), (q_e (q_pl (s_h s) v (u_h (s_n s))), lh_u2 I (65 + 4) 0 0), ?_, ?_, rfl, hi.en k0⟩
        · simp (disch := omega) only [f_LH_visitor, e_hasVisitor c.1, h1, n2, e_placeOfN c.1 w.1 hv hu, show ¬ (2 : Nat) = 0 by omega, show ¬ (2 : Nat) = 1 by omega, z_le, z_lt, z_eq, z_leL, z_leR, z_ltL, z_ltR, z_eqR, z_eqL, z_m1, z_m1s, z_m1le, z_m1lt, z_m1lt0, z_m1le0, z_0lem1, z_m1lek, z_add, z_addL, z_addR, z_mulR, z_sub, z_subL, z_gd, z_ix, z_cl, z_or0, z_add0, z_bs, z_gd, z_b1, z_b0, z_10, z_01, eq_self, reduceCtorEq, ↓reduceIte, if_true, if_false, Nat.not_lt_zero, not_true_eq_false, not_false_eq_true, Bool.false_eq_true, Nat.le_refl, Nat.lt_irrefl]
        · simp (disch := omega) only [f_LM_visitor, m_isVisitor m0.1, m_in04, h1, h2, p3', m_cellOf m0.1 w.1 hv hu, show ¬ (2 : Nat) = 0 by omega, show ¬ (2 : Nat) = 1 by omega, z_le, z_lt, z_eq, z_leL, z_leR, z_ltL, z_ltR, z_eqR, z_eqL, z_m1, z_m1s, z_m1le, z_m1lt, z_m1lt0, z_m1le0, z_0lem1, z_m1lek, z_add, z_addL, z_addR, z_mulR, z_sub, z_subL, z_gd, z_ix, z_cl, z_or0, z_add0, z_bs, z_gd, z_b1, z_b0, z_10, z_01, eq_self, reduceCtorEq, ↓reduceIte, if_true, if_false, Nat.not_lt_zero, not_true_eq_false, not_false_eq_true, Bool.false_eq_true, Nat.le_refl, Nat.lt_irrefl]
      · refine ⟨(q_b01 ((u_z (s_n s)).testBit v), I), (q_b01 ((u_z (s_n s)).testBit v), lh_u2 I (65 + 4) 0 0), ?_, ?_, rfl, hi.en k0⟩
        · simp (disch := omega) only [f_LH_visitor, e_hasVisitor c.1, h1, n7, q_bitb, show ¬ (3 : Nat) = 0 by omega, show ¬ (3 : Nat) = 1 by omega, show ¬ (3 : Nat) = 2 by omega, z_le, z_lt, z_eq, z_leL, z_leR, z_ltL, z_ltR, z_eqR, z_eqL, z_m1, z_m1s, z_m1le, z_m1lt, z_m1lt0, z_m1le0, z_0lem1, z_m1lek, z_add, z_addL, z_addR, z_mulR, z_sub, z_subL, z_gd, z_ix, z_cl, z_or0, z_add0, z_bs, z_gd, z_b1, z_b0, z_10, z_01, eq_self, reduceCtorEq, ↓reduceIte, if_true, if_false, Nat.not_lt_zero, not_true_eq_false, not_false_eq_true, Bool.false_eq_true, Nat.le_refl, Nat.lt_irrefl]
        · simp (disch := omega) only [f_LM_visitor, m_isVisitor m0.1, m_in04, h1, h2, p7', q_bitb, show ¬ (3 : Nat) = 0 by omega, show ¬ (3 : Nat) = 1 by omega, show ¬ (3 : Nat) = 2 by omega, z_le, z_lt, z_eq, z_leL, z_leR, z_ltL, z_ltR, z_eqR, z_eqL, z_m1, z_m1s, z_m1le, z_m1lt, z_m1lt0, z_m1le0, z_0lem1, z_m1lek, z_add, z_addL, z_addR, z_mulR, z_sub, z_subL, z_gd, z_ix, z_cl, z_or0, z_add0, z_bs, z_gd, z_b1, z_b0, z_10, z_01, eq_self, reduceCtorEq, ↓reduceIte, if_true, if_false, Nat.not_lt_zero, not_true_eq_false, not_false_eq_true, Bool.false_eq_true, Nat.le_refl, Nat.lt_irrefl]
      · obtain ⟨I1, g1, g2⟩ := e_seenBy c.1 w.1 ha (Or.inl rfl) c.2.1 w.2.1
        have k1 := fc I1 (fun o k h1 h2 _ => g2 o k h1 h2)
        obtain ⟨m', k2⟩ := f0 I1 k1
        obtain ⟨J1, g3, g4⟩ := m_seenNow m'.1 w.1 (b0 := 0) (by omega) m'.2.1 w.2.1
        have g3' : f_LM_seenNow 0 (lh_u2 I1 (65 + 4) 0 0) = _ := g3
        have h64 := q_sm_64 w.1 (s_n s) (q_P (s_h s))
        refine ⟨(q_b01 ((q_sm (s_h s) (s_n s) (q_P (s_h s))).testBit v), I1), (q_b01 ((q_sm (s_h s) (s_n s) (q_P (s_h s))).testBit v), J1), ?_, ?_, rfl, hi.en (fm _ _ k2 (fun o k h1 h2 _ => g4 o k h1 h2))⟩
        · simp (disch := omega) only [f_LH_visitor, e_hasVisitor c.1, h1, g1, q_bitb, show ¬ (4 : Nat) = 0 by omega, show ¬ (4 : Nat) = 1 by omega, show ¬ (4 : Nat) = 2 by omega, show ¬ (4 : Nat) = 3 by omega, z_le, z_lt, z_eq, z_leL, z_leR, z_ltL, z_ltR, z_eqR, z_eqL, z_m1, z_m1s, z_m1le, z_m1lt, z_m1lt0, z_m1le0, z_0lem1, z_m1lek, z_add, z_addL, z_addR, z_mulR, z_sub, z_subL, z_gd, z_ix, z_cl, z_or0, z_add0, z_bs, z_gd, z_b1, z_b0, z_10, z_01, eq_self, reduceCtorEq, ↓reduceIte, if_true, if_false, Nat.not_lt_zero, not_true_eq_false, not_false_eq_true, Bool.false_eq_true, Nat.le_refl, Nat.lt_irrefl]
        · simp (disch := omega) only [f_LM_visitor, m_isVisitor m'.1, m_in04, h1, h2, g3', q_bitb, show ¬ (4 : Nat) = 0 by omega, show ¬ (4 : Nat) = 1 by omega, show ¬ (4 : Nat) = 2 by omega, show ¬ (4 : Nat) = 3 by omega, z_le, z_lt, z_eq, z_leL, z_leR, z_ltL, z_ltR, z_eqR, z_eqL, z_m1, z_m1s, z_m1le, z_m1lt, z_m1lt0, z_m1le0, z_0lem1, z_m1lek, z_add, z_addL, z_addR, z_mulR, z_sub, z_subL, z_gd, z_ix, z_cl, z_or0, z_add0, z_bs, z_gd, z_b1, z_b0, z_10, z_01, eq_self, reduceCtorEq, ↓reduceIte, if_true, if_false, Nat.not_lt_zero, not_true_eq_false, not_false_eq_true, Bool.false_eq_true, Nat.le_refl, Nat.lt_irrefl]
theorem p_vase : lh_P5 lh_inv := by
  intro t a b a2 b2 I L x1 x2 hi
  obtain ⟨s, w, c, m, ha, fc, f0, fm⟩ := hi.opx
  have hK := w.1.K
  obtain ⟨m0, k0⟩ := f0 I q_fr.rf
  cases h1 : q_is (q_K (s_h s)) x1 with
  | false => exact ⟨(-2, I), (-2, lh_u2 I (65 + 4) 0 0), by simp only [f_LH_vase, e_hasVase c.1, h1, z_bs, z_gd, z_b1, z_b0, z_10, z_01, eq_self, reduceCtorEq, ↓reduceIte, if_true, if_false, Nat.not_lt_zero, not_true_eq_false, not_false_eq_true, Bool.false_eq_true, Nat.le_refl, Nat.lt_irrefl], by simp only [f_LM_vase, m_isVase m0.1, h1, z_bs, z_gd, z_b1, z_b0, z_10, z_01, eq_self, reduceCtorEq, ↓reduceIte, if_true, if_false, Nat.not_lt_zero, not_true_eq_false, not_false_eq_true, Bool.false_eq_true, Nat.le_refl, Nat.lt_irrefl], rfl, hi.en k0⟩
  | true =>
    cases h2 : q_is 2 x2 with
    | false =>
      have hx : ¬ x2 = 0 ∧ ¬ x2 = 1 := by
        refine ⟨?_, ?_⟩ <;> (intro e; subst e; revert h2; decide)
      obtain ⟨n0, n1⟩ := hx
      exact ⟨(-2, I), (-2, lh_u2 I (65 + 4) 0 0), by simp only [f_LH_vase, e_hasVase c.1, h1, n0, n1, z_bs, z_gd, z_b1, z_b0, z_10, z_01, eq_self, reduceCtorEq, ↓reduceIte, if_true, if_false, Nat.not_lt_zero, not_true_eq_false, not_false_eq_true, Bool.false_eq_true, Nat.le_refl, Nat.lt_irrefl], by simp only [f_LM_vase, m_isVase m0.1, m_in01, h1, h2, z_bs, z_gd, z_b1, z_b0, z_10, z_01, eq_self, reduceCtorEq, ↓reduceIte, if_true, if_false, Nat.not_lt_zero, not_true_eq_false, not_false_eq_true, Bool.false_eq_true, Nat.le_refl, Nat.lt_irrefl], rfl, hi.en k0⟩
    | true =>
      obtain ⟨k, hk, rfl⟩ := q_is_ex (by omega) h1
      obtain ⟨x, hx, rfl⟩ := q_is_ex (by omega) h2
      have h5 : x = 0 ∨ x = 1 := by omega
      rcases h5 with rfl | rfl
      · refine ⟨(q_e (q_va (s_h s) k), I), (q_e (q_va (s_h s) k), lh_u2 I (65 + 4) 0 0), ?_, ?_, rfl, hi.en k0⟩
        · simp (disch := omega) only [f_LH_vase, e_hasVase c.1, h1, c.1.va hk, z_le, z_lt, z_eq, z_leL, z_leR, z_ltL, z_ltR, z_eqR, z_eqL, z_m1, z_m1s, z_m1le, z_m1lt, z_m1lt0, z_m1le0, z_0lem1, z_m1lek, z_add, z_addL, z_addR, z_mulR, z_sub, z_subL, z_gd, z_ix, z_cl, z_or0, z_add0, z_bs, z_gd, z_b1, z_b0, z_10, z_01, eq_self, reduceCtorEq, ↓reduceIte, if_true, if_false, Nat.not_lt_zero, not_true_eq_false, not_false_eq_true, Bool.false_eq_true, Nat.le_refl, Nat.lt_irrefl]
        · simp (disch := omega) only [f_LM_vase, m_isVase m0.1, m_in01, h1, h2, m_vaseAt m0.1 w.1 hk, z_le, z_lt, z_eq, z_leL, z_leR, z_ltL, z_ltR, z_eqR, z_eqL, z_m1, z_m1s, z_m1le, z_m1lt, z_m1lt0, z_m1le0, z_0lem1, z_m1lek, z_add, z_addL, z_addR, z_mulR, z_sub, z_subL, z_gd, z_ix, z_cl, z_or0, z_add0, z_bs, z_gd, z_b1, z_b0, z_10, z_01, eq_self, reduceCtorEq, ↓reduceIte, if_true, if_false, Nat.not_lt_zero, not_true_eq_false, not_false_eq_true, Bool.false_eq_true, Nat.le_refl, Nat.lt_irrefl]
      · obtain ⟨I1, g1, g2⟩ := e_vasesSeen c.1 w.1 ha (Or.inl rfl) c.2.1 w.2.1
        have k1 := fc I1 (fun o k h1 h2 _ => g2 o k h1 h2)
        obtain ⟨m', k2⟩ := f0 I1 k1
        obtain ⟨J1, g3, g4⟩ := m_isThere m'.1 w.1 (b0 := 0) (by omega) m'.2.1 w.2.1 hk
        have g3' : f_LM_isThere 0 (nI k) (lh_u2 I1 (65 + 4) 0 0) = _ := g3
        have h64 := q_mk31 (q_vt (s_h s) (s_n s)) (show q_K (s_h s) ≤ 12 by omega)
        have e9 : (q_mk (q_vt (s_h s) (s_n s)) (q_K (s_h s))).testBit k = q_vt (s_h s) (s_n s) k := by rw [q_mk_tb]; simp [hk]
        refine ⟨(q_b01 (q_vt (s_h s) (s_n s) k), I1), (q_b01 (q_vt (s_h s) (s_n s) k), J1), ?_, ?_, rfl, hi.en (fm _ _ k2 (fun o k h1 h2 _ => g4 o k h1 h2))⟩
        · simp (disch := omega) only [f_LH_vase, e_hasVase c.1, h1, g1, q_bitb, e9, show ¬ (1 : Nat) = 0 by omega, z_le, z_lt, z_eq, z_leL, z_leR, z_ltL, z_ltR, z_eqR, z_eqL, z_m1, z_m1s, z_m1le, z_m1lt, z_m1lt0, z_m1le0, z_0lem1, z_m1lek, z_add, z_addL, z_addR, z_mulR, z_sub, z_subL, z_gd, z_ix, z_cl, z_or0, z_add0, z_bs, z_gd, z_b1, z_b0, z_10, z_01, eq_self, reduceCtorEq, ↓reduceIte, if_true, if_false, Nat.not_lt_zero, not_true_eq_false, not_false_eq_true, Bool.false_eq_true, Nat.le_refl, Nat.lt_irrefl]
        · simp (disch := omega) only [f_LM_vase, m_isVase m'.1, m_in01, h1, h2, g3', show ¬ (1 : Nat) = 0 by omega, z_le, z_lt, z_eq, z_leL, z_leR, z_ltL, z_ltR, z_eqR, z_eqL, z_m1, z_m1s, z_m1le, z_m1lt, z_m1lt0, z_m1le0, z_0lem1, z_m1lek, z_add, z_addL, z_addR, z_mulR, z_sub, z_subL, z_gd, z_ix, z_cl, z_or0, z_add0, z_bs, z_gd, z_b1, z_b0, z_10, z_01, eq_self, reduceCtorEq, ↓reduceIte, if_true, if_false, Nat.not_lt_zero, not_true_eq_false, not_false_eq_true, Bool.false_eq_true, Nat.le_refl, Nat.lt_irrefl]
          cases q_vt (s_h s) (s_n s) k <;> rfl
theorem q_fst_split {p : Nat → Bool} : ∀ (d1 d2 k : Nat), q_fst p k (d1 + d2) = match q_fst p k d1 with | some j => some j | none => q_fst p (k + d1) d2
  | 0, d2, k => by rw [Nat.zero_add]; rfl
  | d1 + 1, d2, k => by
    rw [show d1 + 1 + d2 = (d1 + d2) + 1 by omega]
    show (if p k = true then some k else q_fst p (k + 1) (d1 + d2)) = match (if p k = true then some k else q_fst p (k + 1) d1) with | some j => some j | none => _
    by_cases hp : p k = true
    · rw [if_pos hp, if_pos hp]
    · rw [if_neg hp, if_neg hp, q_fst_split d1 d2 (k + 1), show k + 1 + d1 = k + (d1 + 1) by omega]
theorem q_fst_no {p : Nat → Bool} : ∀ {d k : Nat}, (∀ i, k ≤ i → i < k + d → p i = false) → q_fst p k d = none
  | 0, k, _ => rfl
  | d + 1, k, h => by
    unfold q_fst
    rw [if_neg (by rw [h k (Nat.le_refl _) (by omega)]; decide)]
    exact q_fst_no (fun i h1 h2 => h i (by omega) (by omega))
theorem p_meet : lh_P20 lh_inv := by
  intro t a b a2 b2 I L hi
  obtain ⟨s, w, c, m, m', hf⟩ := hi.op
  have hF := w.1.F
  have hC := w.1.C
  obtain ⟨n1, n2, n3, n4, n5, -, -⟩ := c.2.1
  obtain ⟨p1, p2, p3, p4, p5, p6, -⟩ := m'.2.1
  obtain ⟨w1, w2, w3, w4, w5, w6⟩ := w.2.1
  have p1' : lh_u2 I (65 + 4) 0 0 (78 + 4) 0 = nI (u_s (s_n s)) := p1
  have p5' : lh_u2 I (65 + 4) 0 0 (78 + 4) 4 = nI (u_o (s_n s)) := p5
  have p6' : lh_u2 I (65 + 4) 0 0 (78 + 4) 5 = nI (u_c (s_n s)) := p6
  by_cases h0 : q_F (s_h s) = 0
  · refine ⟨-1, (-1, lh_u2 I (65 + 4) 0 0), ?_, ?_, rfl, hi.en hf⟩
    · rw [f_LH_meet, c.1.F, h0]; rfl
    · rw [f_LM_meet, m'.1.F, h0]; rfl
  · have hl := q_lt_lt w.1 (st := q_P (s_h s)) w1
    let p := fun k => !decide (q_lt (s_h s) (u_c (s_n s)) (q_P (s_h s)) &&& q_lt (s_h s) (q_fe (s_h s) ((u_s (s_n s) + k) % q_F (s_h s))) (q_P (s_h s)) = 0)
    have hp : ∀ k, p k = !decide (q_lt (s_h s) (u_c (s_n s)) (q_P (s_h s)) &&& q_lt (s_h s) (q_fe (s_h s) ((u_s (s_n s) + k) % q_F (s_h s))) (q_P (s_h s)) = 0) := fun _ => rfl
    have hfe : ∀ k, q_fe (s_h s) ((u_s (s_n s) + k) % q_F (s_h s)) < q_C (s_h s) := fun k => w.1.fe (Nat.mod_lt _ (by omega))
    have e1 := q_forF (F := fun n k => f_LH_meet_8 a b I n (nI k)) (N := min 41 (u_o (s_n s))) (p := p) (fnd := fun k => ((0 : Nat), nI k)) (nf := (1, nI (min 41 (u_o (s_n s))))) (fun n k hk => by
      have h2 := q_lt_lt w.1 (st := q_P (s_h s)) (hfe k)
      have h3 : q_lt (s_h s) (u_c (s_n s)) (q_P (s_h s)) &&& q_lt (s_h s) (q_fe (s_h s) ((u_s (s_n s) + k) % q_F (s_h s))) (q_P (s_h s)) < 4096 := Nat.lt_of_le_of_lt Nat.and_le_left hl
      rw [hp k]
      simp (disch := omega) only [f_LH_meet_8, n4, n5, n1, e_fellowF c.1 w.1, e_lightFrom c.1 w.1 (hfe k), e_lightFrom c.1 w.1 w1, z_and, show ¬ 40 < k by omega, show ¬ u_o (s_n s) ≤ k by omega, Bool.not_eq_true', decide_eq_false_iff_not, z_le, z_lt, z_eq, z_leL, z_leR, z_ltL, z_ltR, z_eqR, z_eqL, z_m1, z_m1s, z_m1le, z_m1lt, z_m1lt0, z_m1le0, z_0lem1, z_m1lek, z_add, z_addL, z_addR, z_mulR, z_sub, z_subL, z_gd, z_ix, z_cl, z_or0, z_add0, z_bs, z_gd, z_b1, z_b0, z_10, z_01, eq_self, reduceCtorEq, ↓reduceIte, if_true, if_false, Nat.not_lt_zero, not_true_eq_false, not_false_eq_true, Bool.false_eq_true, Nat.le_refl, Nat.lt_irrefl]
      split <;> simp_all) (fun n => by
      by_cases h5 : u_o (s_n s) ≤ 40
      · rw [show min 41 (u_o (s_n s)) = u_o (s_n s) by omega]
        simp (disch := omega) only [f_LH_meet_8, n4, show ¬ 40 < u_o (s_n s) by omega, z_le, z_lt, z_eq, z_leL, z_leR, z_ltL, z_ltR, z_eqR, z_eqL, z_m1, z_m1s, z_m1le, z_m1lt, z_m1lt0, z_m1le0, z_0lem1, z_m1lek, z_add, z_addL, z_addR, z_mulR, z_sub, z_subL, z_gd, z_ix, z_cl, z_or0, z_add0, z_bs, z_gd, z_b1, z_b0, z_10, z_01, eq_self, reduceCtorEq, ↓reduceIte, if_true, if_false, Nat.not_lt_zero, not_true_eq_false, not_false_eq_true, Bool.false_eq_true, Nat.le_refl, Nat.lt_irrefl]
      · rw [show min 41 (u_o (s_n s)) = 41 by omega]
        simp (disch := omega) only [f_LH_meet_8, show 40 < 41 by omega, z_le, z_lt, z_eq, z_leL, z_leR, z_ltL, z_ltR, z_eqR, z_eqL, z_m1, z_m1s, z_m1le, z_m1lt, z_m1lt0, z_m1le0, z_0lem1, z_m1lek, z_add, z_addL, z_addR, z_mulR, z_sub, z_subL, z_gd, z_ix, z_cl, z_or0, z_add0, z_bs, z_gd, z_b1, z_b0, z_10, z_01, eq_self, reduceCtorEq, ↓reduceIte, if_true, if_false, Nat.not_lt_zero, not_true_eq_false, not_false_eq_true, Bool.false_eq_true, Nat.le_refl, Nat.lt_irrefl]) (min 41 (u_o (s_n s))) lh_fuel 0 (Nat.zero_add _) (by unfold lh_fuel; omega)
    have e2 := q_forF (F := fun n k => f_LM_meet_12 (lh_u2 I (65 + 4) 0 0) n (nI k)) (N := 41) (p := fun k => decide (k < u_o (s_n s)) && p k) (fnd := fun k => ((0 : Nat), nI k)) (nf := (1, nI 41)) (fun n k hk => by
      have h2 := q_lt_lt w.1 (st := q_P (s_h s)) (hfe k)
      have h3 : q_lt (s_h s) (u_c (s_n s)) (q_P (s_h s)) &&& q_lt (s_h s) (q_fe (s_h s) ((u_s (s_n s) + k) % q_F (s_h s))) (q_P (s_h s)) < 4096 := Nat.lt_of_le_of_lt Nat.and_le_left hl
      have ez : ∀ x : Int32, 0 &&& x = 0 := fun x => Int32.zero_and
      rw [hp k]
      by_cases h5 : u_o (s_n s) ≤ k
      · simp (disch := omega) only [f_LM_meet_12, p5', p1', p6', m_fellowLights m'.1 w.1, h5, ez, show ¬ 40 < k by omega, show ¬ k < u_o (s_n s) by omega, decide_false, Bool.false_and, z_le, z_lt, z_eq, z_leL, z_leR, z_ltL, z_ltR, z_eqR, z_eqL, z_m1, z_m1s, z_m1le, z_m1lt, z_m1lt0, z_m1le0, z_0lem1, z_m1lek, z_add, z_addL, z_addR, z_mulR, z_sub, z_subL, z_gd, z_ix, z_cl, z_or0, z_add0, z_bs, z_gd, z_b1, z_b0, z_10, z_01, eq_self, reduceCtorEq, ↓reduceIte, if_true, if_false, Nat.not_lt_zero, not_true_eq_false, not_false_eq_true, Bool.false_eq_true, Nat.le_refl, Nat.lt_irrefl]
      · simp (disch := omega) only [f_LM_meet_12, p5', p1', p6', m_fellowLights m'.1 w.1, m_litFrom m'.1 w.1 w1, h5, z_and, show ¬ 40 < k by omega, show k < u_o (s_n s) by omega, decide_true, Bool.true_and, Bool.not_eq_true', decide_eq_false_iff_not, z_le, z_lt, z_eq, z_leL, z_leR, z_ltL, z_ltR, z_eqR, z_eqL, z_m1, z_m1s, z_m1le, z_m1lt, z_m1lt0, z_m1le0, z_0lem1, z_m1lek, z_add, z_addL, z_addR, z_mulR, z_sub, z_subL, z_gd, z_ix, z_cl, z_or0, z_add0, z_bs, z_gd, z_b1, z_b0, z_10, z_01, eq_self, reduceCtorEq, ↓reduceIte, if_true, if_false, Nat.not_lt_zero, not_true_eq_false, not_false_eq_true, Bool.false_eq_true, Nat.le_refl, Nat.lt_irrefl]
        split <;> simp_all) (fun n => by
      simp (disch := omega) only [f_LM_meet_12, show 40 < 41 by omega, z_le, z_lt, z_eq, z_leL, z_leR, z_ltL, z_ltR, z_eqR, z_eqL, z_m1, z_m1s, z_m1le, z_m1lt, z_m1lt0, z_m1le0, z_0lem1, z_m1lek, z_add, z_addL, z_addR, z_mulR, z_sub, z_subL, z_gd, z_ix, z_cl, z_or0, z_add0, z_bs, z_gd, z_b1, z_b0, z_10, z_01, eq_self, reduceCtorEq, ↓reduceIte, if_true, if_false, Nat.not_lt_zero, not_true_eq_false, not_false_eq_true, Bool.false_eq_true, Nat.le_refl, Nat.lt_irrefl]) 41 lh_fuel 0 rfl (by decide)
    have e3 : q_fst (fun k => decide (k < u_o (s_n s)) && p k) 0 41 = q_fst p 0 (min 41 (u_o (s_n s))) := by
      rw [show q_fst (fun k => decide (k < u_o (s_n s)) && p k) 0 41 = q_fst (fun k => decide (k < u_o (s_n s)) && p k) 0 (min 41 (u_o (s_n s)) + (41 - min 41 (u_o (s_n s)))) from by rw [show min 41 (u_o (s_n s)) + (41 - min 41 (u_o (s_n s))) = 41 by omega], q_fst_split]
      rw [q_fst_cong (q := p) (fun i _ h2 => by simp; intro h3; omega)]
      rw [q_fst_no (k := 0 + min 41 (u_o (s_n s))) (fun i h1 h2 => by simp; intro h3; omega)]
      cases q_fst p 0 (min 41 (u_o (s_n s))) <;> rfl
    rw [e3] at e2
    have e1' : f_LH_meet_8 a b I lh_fuel 0 = _ := e1
    have e2' : f_LM_meet_12 (lh_u2 I (65 + 4) 0 0) lh_fuel 0 = _ := e2
    refine ⟨q_e (q_fst p 0 (min 41 (u_o (s_n s)))), (q_e (q_fst p 0 (min 41 (u_o (s_n s)))), lh_u2 I (65 + 4) 0 0), ?_, ?_, rfl, hi.en hf⟩
    · simp (disch := omega) only [f_LH_meet, c.1.F, h0, e1', z_le, z_lt, z_eq, z_leL, z_leR, z_ltL, z_ltR, z_eqR, z_eqL, z_m1, z_m1s, z_m1le, z_m1lt, z_m1lt0, z_m1le0, z_0lem1, z_m1lek, z_add, z_addL, z_addR, z_mulR, z_sub, z_subL, z_gd, z_ix, z_cl, z_or0, z_add0, z_bs, z_gd, z_b1, z_b0, z_10, z_01, eq_self, reduceCtorEq, ↓reduceIte, if_true, if_false, Nat.not_lt_zero, not_true_eq_false, not_false_eq_true, Bool.false_eq_true, Nat.le_refl, Nat.lt_irrefl]
      cases q_fst p 0 (min 41 (u_o (s_n s))) <;> rfl
    · simp (disch := omega) only [f_LM_meet, m'.1.F, h0, e2', z_le, z_lt, z_eq, z_leL, z_leR, z_ltL, z_ltR, z_eqR, z_eqL, z_m1, z_m1s, z_m1le, z_m1lt, z_m1lt0, z_m1le0, z_0lem1, z_m1lek, z_add, z_addL, z_addR, z_mulR, z_sub, z_subL, z_gd, z_ix, z_cl, z_or0, z_add0, z_bs, z_gd, z_b1, z_b0, z_10, z_01, eq_self, reduceCtorEq, ↓reduceIte, if_true, if_false, Nat.not_lt_zero, not_true_eq_false, not_false_eq_true, Bool.false_eq_true, Nat.le_refl, Nat.lt_irrefl]
      cases q_fst p 0 (min 41 (u_o (s_n s))) <;> rfl
/-! copies of moments -/
theorem e_become {I : lh_II} {o o2 : Nat} {m : lh_Mt} (hne : o ≠ o2) (hm : q_mc I o2 m) : ∃ I', f_Mo_become o o2 I = some I' ∧ q_mc I' o m ∧ ∀ o' k, ¬ (o' = o + 4 ∧ k < 7) → I' o' k = I o' k := by
  obtain ⟨m1, m2, m3, m4, m5, m6, m7⟩ := hm
  refine ⟨lh_u2 (lh_u2 (lh_u2 (lh_u2 (lh_u2 (lh_u2 (lh_u2 I (o + 4) 0 (nI (u_c m))) (o + 4) 1 (nI (u_h m))) (o + 4) 2 (nI (u_d m))) (o + 4) 3 (nI (u_o m))) (o + 4) 4 (nI (u_s m))) (o + 4) 5 (u_b m)) (o + 4) 6 (nI (u_z m)), ?_, ?_, fun o' k h1 => ?_⟩
  · rw [f_Mo_become]
    simp (disch := omega) only [q_u2o, m1, m2, m3, m4, m5, m6, m7]
  · refine ⟨?_, ?_, ?_, ?_, ?_, ?_, ?_⟩ <;> simp (disch := omega) only [q_u2o, q_u2s]
  · rw [q_u2o (by omega), q_u2o (by omega), q_u2o (by omega), q_u2o (by omega), q_u2o (by omega), q_u2o (by omega), q_u2o (by omega)]
theorem m_copies {J : lh_II} {x y n : Nat} (hx : x + n ≤ 736) (hy : y + n ≤ 736) (hd : x + n ≤ y ∨ y + n ≤ x) : ∃ J', f_LM_copies (nI x) (nI y) (nI n) J = some J' ∧ (∀ k, k < n → J' 82 (y + k) = J 82 (x + k)) ∧ ∀ o k, ¬ (o = 82 ∧ y ≤ k ∧ k < y + n) → J' o k = J o k := by
  have key := q_forI (F := fun f k (K : lh_II) => f_LM_copies_2 (nI x) (nI y) (nI n) f (nI k) K) (N := n) (P := fun k K => (∀ i, i < k → K 82 (y + i) = J 82 (x + i)) ∧ ∀ o i, ¬ (o = 82 ∧ y ≤ i ∧ i < y + k) → K o i = J o i) (Q := fun K => (∀ i, i < n → K 82 (y + i) = J 82 (x + i)) ∧ ∀ o i, ¬ (o = 82 ∧ y ≤ i ∧ i < y + n) → K o i = J o i) (fun f k K hk hK => by
    obtain ⟨h1, h2⟩ := hK
    have e : K (78 + 4) (x + k) = J 82 (x + k) := h2 _ _ (by omega)
    refine ⟨lh_u2 K (78 + 4) (y + k) (J 82 (x + k)), ⟨fun i hi => ?_, fun o i h3 => ?_⟩, ?_⟩
    · by_cases e2 : i = k
      · subst e2; exact q_u2s
      · rw [q_u2o (by omega)]; exact h1 i (by omega)
    · rw [q_u2o (by omega)]; exact h2 o i (by omega)
    · simp (disch := omega) only [f_LM_copies_2, e, show ¬ n ≤ k by omega, z_le, z_lt, z_eq, z_leL, z_leR, z_ltL, z_ltR, z_eqR, z_eqL, z_m1, z_m1s, z_m1le, z_m1lt, z_m1lt0, z_m1le0, z_0lem1, z_m1lek, z_add, z_addL, z_addR, z_mulR, z_sub, z_subL, z_gd, z_ix, z_cl, z_or0, z_add0, z_bs, z_gd, z_b1, z_b0, z_10, z_01, eq_self, reduceCtorEq, ↓reduceIte, if_true, if_false, Nat.not_lt_zero, not_true_eq_false, not_false_eq_true, Bool.false_eq_true, Nat.le_refl, Nat.lt_irrefl]) (fun f K hK => by
    refine ⟨K, ?_, hK⟩
    simp (disch := omega) only [f_LM_copies_2, z_le, z_lt, z_eq, z_leL, z_leR, z_ltL, z_ltR, z_eqR, z_eqL, z_m1, z_m1s, z_m1le, z_m1lt, z_m1lt0, z_m1le0, z_0lem1, z_m1lek, z_add, z_addL, z_addR, z_mulR, z_sub, z_subL, z_gd, z_ix, z_cl, z_or0, z_add0, z_bs, z_gd, z_b1, z_b0, z_10, z_01, eq_self, reduceCtorEq, ↓reduceIte, if_true, if_false, Nat.not_lt_zero, not_true_eq_false, not_false_eq_true, Bool.false_eq_true, Nat.le_refl, Nat.lt_irrefl]) n lh_fuel 0 J (Nat.zero_add _) (by unfold lh_fuel; omega) ⟨fun i hi => absurd hi (by omega), fun _ _ _ => rfl⟩
  obtain ⟨J', e, h1, h2⟩ := key
  have e' : f_LM_copies_2 (nI x) (nI y) (nI n) lh_fuel 0 J = some J' := e
  exact ⟨J', by rw [f_LM_copies, e', q_bs], h1, h2⟩
theorem m_copyM {J : lh_II} {x y : Nat} {m : lh_Mt} (hx : x + 7 ≤ 736) (hy : y + 7 ≤ 736) (hd : x + 7 ≤ y ∨ y + 7 ≤ x) (hm : q_mm J x m) : ∃ J', f_LM_copies (nI x) (nI y) 7 J = some J' ∧ q_mm J' y m ∧ ∀ o k, ¬ (o = 82 ∧ y ≤ k ∧ k < y + 7) → J' o k = J o k := by
  obtain ⟨J', g1, g2, g3⟩ := m_copies (J := J) (n := 7) hx hy hd
  obtain ⟨m1, m2, m3, m4, m5, m6, m7⟩ := hm
  refine ⟨J', g1, ⟨?_, ?_, ?_, ?_, ?_, ?_, ?_⟩, g3⟩
  · exact (g2 0 (by omega)).trans m1
  · exact (g2 1 (by omega)).trans m2
  · exact (g2 2 (by omega)).trans m3
  · exact (g2 3 (by omega)).trans m4
  · exact (g2 4 (by omega)).trans m5
  · exact (g2 5 (by omega)).trans m6
  · exact (g2 6 (by omega)).trans m7
/-! best -/
def q_cm (m : lh_Mt) (c : Nat) : lh_Mt := (c, m.2)
def q_bst (f : Nat → Int32) (k : Nat) (x : Int32 × Int32) : Int32 × Int32 := if f k ≤ x.2 then x else (nI k, f k)
def q_bv1 (h : lh_H) (m : lh_Mt) (c : Nat) : Int32 := if (q_P h).testBit c = true then -1 else nI (q_pc (q_sm h (q_cm m c) (q_P h)))
theorem q_cm_mw {h : lh_H} {n c : Nat} {m : lh_Mt} (hw : q_mw h n m) (hc : c < q_C h) : q_mw h n (q_cm m c) := ⟨hc, hw.2⟩
theorem e_bits64' {h : lh_H} (w : q_wf h) (m : lh_Mt) (st : Nat) : f_Int_bitCount (nI (q_sm h m st)) = some (nI (q_pc (q_sm h m st))) := e_bits (by have := q_sm_64 w m st; omega)
theorem m_bits64 {h : lh_H} (w : q_wf h) (m : lh_Mt) (st : Nat) : f_LM_bits (nI (q_sm h m st)) = some (nI (q_pc (q_sm h m st))) := m_bits (by have := q_sm_64 w m st; omega)
theorem p_best : lh_P25 lh_inv := by
  intro t a b a2 b2 I L hi
  obtain ⟨s, w, c, m, ha, fc, f0, fm⟩ := hi.opx
  have hC := w.1.C
  obtain ⟨I0, b1, b2, b3⟩ := e_become (o := 8) (by omega) c.2.1
  have key := q_forI (F := fun n k (K : (Int32 × Int32) × lh_II) => f_LH_best_11 a b n K.1.1 K.1.2 (nI k) K.2) (N := q_C (s_h s)) (P := fun k K => K.1 = q_it (q_bst (q_bv1 (s_h s) (s_n s))) 0 k (-1, -1) ∧ (∃ c', q_mc K.2 8 (q_cm (s_n s) c')) ∧ ∀ o k, o ≠ a + 7 → o ≠ a + 15 → o ≠ 12 → K.2 o k = I o k) (Q := fun r => r.1 = (q_it (q_bst (q_bv1 (s_h s) (s_n s))) 0 (q_C (s_h s)) (-1, -1)).1 ∧ ∀ o k, o ≠ a + 7 → o ≠ a + 15 → o ≠ 12 → r.2 o k = I o k) (fun n k K hk hK => by
    obtain ⟨⟨x, y⟩, K⟩ := K
    obtain ⟨hy, ⟨c', hm⟩, hK⟩ := hK
    simp only at hy hm hK
    have cK : q_cl a (lh_u2 K (8 + 4) 0 (nI k)) (s_h s) := c.1.keep (fun j k' hj hj3 => by rw [q_u2o (by omega)]; exact hK _ _ (by omega) (by omega) (by omega))
    have hm' : q_mc (lh_u2 K (8 + 4) 0 (nI k)) 8 (q_cm (s_n s) k) := by
      obtain ⟨m1, m2, m3, m4, m5, m6, m7⟩ := hm
      refine ⟨q_u2s, ?_, ?_, ?_, ?_, ?_, ?_⟩ <;> (rw [q_u2o (by omega)]; assumption)
    have hKC : K (a + 4) 9 = nI (q_C (s_h s)) := by rw [hK _ _ (by omega) (by omega) (by omega)]; exact c.1.C
    have hst : q_it (q_bst (q_bv1 (s_h s) (s_n s))) 0 (k + 1) (-1, -1) = q_bst (q_bv1 (s_h s) (s_n s)) k (x, y) := by rw [q_it_succ, Nat.zero_add, ← hy]
    rw [show (q_it (q_bst (q_bv1 (s_h s) (s_n s))) 0 (k + 1) (-1, -1)) = _ from hst]
    unfold q_bst q_bv1
    cases hp : (q_P (s_h s)).testBit k with
    | true =>
      refine ⟨(if (-1 : Int32) ≤ y then (x, y) else (nI k, -1), lh_u2 K (8 + 4) 0 (nI k)), ⟨by simp only [if_true], ⟨k, hm'⟩, fun o k' h1 h2 h3 => by show lh_u2 K (8 + 4) 0 (nI k) o k' = _; rw [q_u2o (by omega)]; exact hK _ _ h1 h2 h3⟩, ?_⟩
      simp (disch := omega) only [f_LH_best_11, hKC, e_hasPillar cK w.1 hk, hp, show ¬ q_C (s_h s) ≤ k by omega, z_le, z_addL, z_bs, z_gd, z_b1, z_b0, z_10, z_01, eq_self, reduceCtorEq, ↓reduceIte, if_true, if_false, Nat.not_lt_zero, not_true_eq_false, not_false_eq_true, Bool.false_eq_true, Nat.le_refl, Nat.lt_irrefl]
      split <;> rfl
    | false =>
      obtain ⟨K', g1, g2⟩ := e_seenBy cK w.1 ha (Or.inr rfl) hm' (q_cm_mw w.2.1 hk)
      refine ⟨(if nI (q_pc (q_sm (s_h s) (q_cm (s_n s) k) (q_P (s_h s)))) ≤ y then (x, y) else (nI k, nI (q_pc (q_sm (s_h s) (q_cm (s_n s) k) (q_P (s_h s))))), K'), ⟨by simp only [Bool.false_eq_true, if_false], ⟨k, hm'.keep (fun k' => g2 _ _ (by omega) (by omega))⟩, fun o k' h1 h2 h3 => by show K' o k' = _; rw [g2 _ _ h1 h2, q_u2o (by omega)]; exact hK _ _ h1 h2 h3⟩, ?_⟩
      simp (disch := omega) only [f_LH_best_11, hKC, e_hasPillar cK w.1 hk, hp, g1, e_bits64' w.1, show ¬ q_C (s_h s) ≤ k by omega, z_le, z_addL, z_bs, z_gd, z_b1, z_b0, z_10, z_01, eq_self, reduceCtorEq, ↓reduceIte, if_true, if_false, Nat.not_lt_zero, not_true_eq_false, not_false_eq_true, Bool.false_eq_true, Nat.le_refl, Nat.lt_irrefl]
      split <;> rfl) (fun n K hK => by
    obtain ⟨⟨x, y⟩, K⟩ := K
    obtain ⟨hy, hm, hK⟩ := hK
    simp only at hy hK
    have hKC : K (a + 4) 9 = nI (q_C (s_h s)) := by rw [hK _ _ (by omega) (by omega) (by omega)]; exact c.1.C
    refine ⟨(x, K), ?_, by rw [← hy], hK⟩
    simp (disch := omega) only [f_LH_best_11, hKC, z_le, z_lt, z_eq, z_leL, z_leR, z_ltL, z_ltR, z_eqR, z_eqL, z_m1, z_m1s, z_m1le, z_m1lt, z_m1lt0, z_m1le0, z_0lem1, z_m1lek, z_add, z_addL, z_addR, z_mulR, z_sub, z_subL, z_gd, z_ix, z_cl, z_or0, z_add0, z_bs, z_gd, z_b1, z_b0, z_10, z_01, eq_self, reduceCtorEq, ↓reduceIte, if_true, if_false, Nat.not_lt_zero, not_true_eq_false, not_false_eq_true, Bool.false_eq_true, Nat.le_refl, Nat.lt_irrefl]) (q_C (s_h s)) lh_fuel 0 ((-1, -1), I0) (Nat.zero_add _) (by unfold lh_fuel; omega) ⟨rfl, ⟨u_c (s_n s), b2⟩, fun o k h1 h2 h3 => b3 o k (by omega)⟩
  obtain ⟨⟨r, I1⟩, e1, hr, hI1⟩ := key
  simp only at hr hI1
  have e1' : f_LH_best_11 a b lh_fuel (-1) (-1) 0 I0 = some (r, I1) := e1
  have k1 := fc I1 hI1
  obtain ⟨m', k2⟩ := f0 I1 k1
  obtain ⟨w1, w2, w3, w4, w5, w6⟩ := w.2.1
  have key2 := q_forI (F := fun n k (K : (Int32 × Int32) × lh_II) => f_LM_best_9 n K.1.1 K.1.2 (nI k) K.2) (N := q_C (s_h s)) (P := fun k K => K.1 = q_it (q_bst (q_bv1 (s_h s) (s_n s))) 0 k (-1, -1) ∧ q_fm (lh_u2 I1 (65 + 4) 0 0) K.2) (Q := fun r => r.1 = (q_it (q_bst (q_bv1 (s_h s) (s_n s))) 0 (q_C (s_h s)) (-1, -1)).1 ∧ q_fm (lh_u2 I1 (65 + 4) 0 0) r.2) (fun n k K hk hK => by
    obtain ⟨⟨x, y⟩, K⟩ := K
    obtain ⟨hy, hK⟩ := hK
    simp only at hy hK
    have mK : q_md K (s_h s) := m'.1.keep w.1 (fun k _ => hK _ _ (by omega) (by omega)) (fun k _ => hK _ _ (by omega) (by omega)) (fun k _ => hK _ _ (by omega) (by omega))
    obtain ⟨p1, p2, p3, p4, p5, p6, p7⟩ := m'.2.1.keep (I' := K) (fun k _ => hK _ _ (by omega) (by omega))
    have p5' : K (78 + 4) 4 = nI (u_o (s_n s)) := p5
    have hst : q_it (q_bst (q_bv1 (s_h s) (s_n s))) 0 (k + 1) (-1, -1) = q_bst (q_bv1 (s_h s) (s_n s)) k (x, y) := by rw [q_it_succ, Nat.zero_add, ← hy]
    rw [show (q_it (q_bst (q_bv1 (s_h s) (s_n s))) 0 (k + 1) (-1, -1)) = _ from hst]
    unfold q_bst q_bv1
    cases hp : (q_P (s_h s)).testBit k with
    | true =>
      refine ⟨(if (-1 : Int32) ≤ y then (x, y) else (nI k, -1), K), ⟨by simp only [if_true], hK⟩, ?_⟩
      simp (disch := omega) only [f_LM_best_9, m_cells mK, m_isPillar mK w.1 hk, hp, show ¬ q_C (s_h s) ≤ k by omega, z_le, z_addL, z_bs, z_gd, z_b1, z_b0, z_10, z_01, eq_self, reduceCtorEq, ↓reduceIte, if_true, if_false, Nat.not_lt_zero, not_true_eq_false, not_false_eq_true, Bool.false_eq_true, Nat.le_refl, Nat.lt_irrefl]
      split <;> rfl
    | false =>
      have fin : ∀ lit, lit < 2147483648 → q_se (s_h s) lit k (u_d (s_n s)) (u_o (s_n s)) (u_h (s_n s)) = q_sm (s_h s) (q_cm (s_n s) k) (q_P (s_h s)) → ∃ K', f_LM_seenFrom 0 (nI k) (nI lit) K = some (nI (q_sm (s_h s) (q_cm (s_n s) k) (q_P (s_h s))), K') ∧ q_fm (lh_u2 I1 (65 + 4) 0 0) K' := by
        intro lit hl e
        obtain ⟨K', g1, g2⟩ := m_seenFrom mK w.1 (b0 := 0) (lit := lit) (x := k) (by omega) p4 p5 p3 w3 hk w2 hl
        rw [e] at g1
        exact ⟨K', g1, fun o k h1 h2 => by rw [g2 o k h1 h2, hK o k h1 h2]⟩
      by_cases ho : u_o (s_n s) = 0
      · obtain ⟨K', g1, g2⟩ := fin 0 (by omega) (by rw [q_se_0]; unfold q_sm; rw [if_pos (show u_o (q_cm (s_n s) k) = 0 from ho)])
        have g1' : f_LM_seenFrom 0 (nI k) 0 K = _ := g1
        refine ⟨(if nI (q_pc (q_sm (s_h s) (q_cm (s_n s) k) (q_P (s_h s)))) ≤ y then (x, y) else (nI k, nI (q_pc (q_sm (s_h s) (q_cm (s_n s) k) (q_P (s_h s))))), K'), ⟨by simp only [Bool.false_eq_true, if_false], g2⟩, ?_⟩
        simp (disch := omega) only [f_LM_best_9, m_cells mK, m_isPillar mK w.1 hk, hp, p5', ho, g1', m_bits64 w.1, show ¬ q_C (s_h s) ≤ k by omega, z_le, z_leR, z_addL, z_bs, z_gd, z_b1, z_b0, z_10, z_01, eq_self, reduceCtorEq, ↓reduceIte, if_true, if_false, Nat.not_lt_zero, not_true_eq_false, not_false_eq_true, Bool.false_eq_true, Nat.le_refl, Nat.lt_irrefl]
        split <;> rfl
      · have hl := q_lt_lt w.1 (st := q_P (s_h s)) hk
        obtain ⟨K', g1, g2⟩ := fin (q_lt (s_h s) k (q_P (s_h s))) (by omega) (by unfold q_sm; rw [if_neg (show ¬ u_o (q_cm (s_n s) k) = 0 from ho)]; rfl)
        refine ⟨(if nI (q_pc (q_sm (s_h s) (q_cm (s_n s) k) (q_P (s_h s)))) ≤ y then (x, y) else (nI k, nI (q_pc (q_sm (s_h s) (q_cm (s_n s) k) (q_P (s_h s))))), K'), ⟨by simp only [Bool.false_eq_true, if_false], g2⟩, ?_⟩
        simp (disch := omega) only [f_LM_best_9, m_cells mK, m_isPillar mK w.1 hk, hp, p5', m_litFrom mK w.1 hk, g1, m_bits64 w.1, show ¬ q_C (s_h s) ≤ k by omega, show ¬ u_o (s_n s) ≤ 0 by omega, z_le, z_leR, z_addL, z_bs, z_gd, z_b1, z_b0, z_10, z_01, eq_self, reduceCtorEq, ↓reduceIte, if_true, if_false, Nat.not_lt_zero, not_true_eq_false, not_false_eq_true, Bool.false_eq_true, Nat.le_refl, Nat.lt_irrefl]
        split <;> rfl) (fun n K hK => by
    obtain ⟨⟨x, y⟩, K⟩ := K
    obtain ⟨hy, hK⟩ := hK
    simp only at hy hK
    have mK : q_md K (s_h s) := m'.1.keep w.1 (fun k _ => hK _ _ (by omega) (by omega)) (fun k _ => hK _ _ (by omega) (by omega)) (fun k _ => hK _ _ (by omega) (by omega))
    refine ⟨(x, K), ?_, by rw [← hy], hK⟩
    simp (disch := omega) only [f_LM_best_9, m_cells mK, z_le, z_lt, z_eq, z_leL, z_leR, z_ltL, z_ltR, z_eqR, z_eqL, z_m1, z_m1s, z_m1le, z_m1lt, z_m1lt0, z_m1le0, z_0lem1, z_m1lek, z_add, z_addL, z_addR, z_mulR, z_sub, z_subL, z_gd, z_ix, z_cl, z_or0, z_add0, z_bs, z_gd, z_b1, z_b0, z_10, z_01, eq_self, reduceCtorEq, ↓reduceIte, if_true, if_false, Nat.not_lt_zero, not_true_eq_false, not_false_eq_true, Bool.false_eq_true, Nat.le_refl, Nat.lt_irrefl]) (q_C (s_h s)) lh_fuel 0 ((-1, -1), lh_u2 I1 (65 + 4) 0 0) (Nat.zero_add _) (by unfold lh_fuel; omega) ⟨rfl, fun _ _ _ _ => rfl⟩
  obtain ⟨⟨r2, J1⟩, e2, hr2, hJ1⟩ := key2
  simp only at hr2 hJ1
  have e2' : f_LM_best_9 lh_fuel (-1) (-1) 0 (lh_u2 I1 (65 + 4) 0 0) = some (r2, J1) := e2
  exact ⟨(r, I1), (r2, J1), by rw [f_LH_best, b1, q_bs, e1', q_bs], by rw [f_LM_best, e2', q_bs], by rw [hr, hr2], hi.en (fm _ _ k2 (fun o k h1 h2 _ => hJ1 o k h1 h2))⟩
