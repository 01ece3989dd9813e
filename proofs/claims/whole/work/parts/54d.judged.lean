theorem p_judged : lh_P14 lh_inv := by
  intro t a b a2 b2 I L x1 hi
  obtain ⟨s, w, c, m, ha, fc, f0, fm⟩ := hi.opx
  obtain ⟨m0, k0⟩ := f0 I q_fr.rf
  obtain ⟨ha', hb', -, -⟩ := id hi
  have hb : b = 35 ∨ b = 38 := by omega
  have e0 : ∀ (A B : Option (Int32 × lh_II)), (if x1 < 0 then A else if x1 ≤ 2 then B else A) = if q_is 3 x1 = true then B else A := fun A B => q_isL 2 (by decide)
  cases h1 : q_is 3 x1 with
  | false => exact ⟨(-2, I), (-2, lh_u2 I (65 + 4) 0 0), by rw [f_LH_judged, e0, h1, if_neg (by decide)], by simp only [f_LM_judged, m_in02, h1, z_bs, z_gd, z_b1, z_b0, z_10, z_01, eq_self, reduceCtorEq, ↓reduceIte, if_true, if_false, Nat.not_lt_zero, not_true_eq_false, not_false_eq_true, Bool.false_eq_true, Nat.le_refl, Nat.lt_irrefl], rfl, hi.en k0⟩
  | true =>
    obtain ⟨x, hx, rfl⟩ := q_is_ex (by omega) h1
    have hq := w.2.2.2.2.2.1
    have zcq := c.2.2.2.2.2.1
    obtain ⟨I0, g1, g2, g3⟩ := e_begin (o := 8) c.1 (by omega)
    have c0 : q_cl a I0 (s_h s) := c.1.keep (fun j k hj hj3 => g3 _ _ (by omega))
    obtain ⟨I1, g4, g5, g6, g7, g8⟩ := e_play c0 w.1 ha hb g2 hq.2 hq.1 (by rw [g3 _ _ (by omega)]; exact zcq.1) (fun k hk => by rw [g3 _ _ (by omega), g3 _ _ (by omega)]; exact zcq.2 k hk)
    have k1 : q_fr a b I I1 := fun o k hk => by
      have h9 : o ≠ a + 7 ∧ o ≠ a + 15 ∧ o ≠ 12 ∧ ¬ (o = b + 4 ∧ (k = 3 ∨ k = 4)) := by
        unfold q_kp at hk
        refine ⟨?_, ?_, ?_, ?_⟩ <;> omega
      rw [g8 _ _ h9.1 h9.2.1 h9.2.2.1 h9.2.2.2, g3 _ _ (by omega)]
    obtain ⟨m', k2⟩ := f0 I1 k1
    obtain ⟨J0, q1, q2, q3⟩ := m_starts m'.1 w.1 (b0 := 672) (by omega)
    have q1' : f_LM_starts 672 (lh_u2 I1 (65 + 4) 0 0) = some J0 := q1
    have mJ : q_md J0 (s_h s) := m'.1.keep w.1 (fun k _ => q3 _ _ (by omega)) (fun k _ => q3 _ _ (by omega)) (fun k _ => q3 _ _ (by omega))
    have zmq := m'.2.2.2.2.2.1
    obtain ⟨J1, q4, q5, q6⟩ := m_judged19 mJ w.1 (nI x) q2 hq.2 hq.1 (by rw [q3 _ _ (by omega)]; exact zmq.1) (fun k hk => by rw [q3 _ _ (by omega), q3 _ _ (by omega)]; exact zmq.2 k hk)
    have k3 : q_fr a b I J1 := fm _ _ k2 (fun o k h1 h2 h3 => by rw [q6 _ _ h1 h2 (by omega), q3 _ _ (by omega)])
    have r6 : I1 (8 + 4) 6 = _ := g5.2.2.2.2.2.2
    have r678 : J1 (78 + 4) 678 = _ := q5.2.2.2.2.2.2
    have h5 : x = 0 ∨ x = 1 ∨ x = 2 := by omega
    rcases h5 with rfl | rfl | rfl
    · refine ⟨(q_e (q_it (q_ju (s_h s) (s_q s)) 0 (s_q s).length (q_bg (s_h s), none, none)).2.1, I1), (q_e (q_it (q_ju (s_h s) (s_q s)) 0 (s_q s).length (q_bg (s_h s), none, none)).2.1, J1), ?_, ?_, rfl, hi.en k3⟩
      · rw [f_LH_judged, e0, h1, if_pos rfl]
        simp (disch := omega) only [g1, g4, g6, z_eqR, z_bs, z_gd, z_b1, z_b0, z_10, z_01, eq_self, reduceCtorEq, ↓reduceIte, if_true, if_false, Nat.not_lt_zero, not_true_eq_false, not_false_eq_true, Bool.false_eq_true, Nat.le_refl, Nat.lt_irrefl]
      · simp (disch := omega) only [f_LM_judged, m_in02, h1, q1', q4, z_eqR, z_bs, z_gd, z_b1, z_b0, z_10, z_01, eq_self, reduceCtorEq, ↓reduceIte, if_true, if_false, Nat.not_lt_zero, not_true_eq_false, not_false_eq_true, Bool.false_eq_true, Nat.le_refl, Nat.lt_irrefl]
    · refine ⟨(q_e (q_it (q_ju (s_h s) (s_q s)) 0 (s_q s).length (q_bg (s_h s), none, none)).2.2, I1), (q_e (q_it (q_ju (s_h s) (s_q s)) 0 (s_q s).length (q_bg (s_h s), none, none)).2.2, J1), ?_, ?_, rfl, hi.en k3⟩
      · rw [f_LH_judged, e0, h1, if_pos rfl]
        simp (disch := omega) only [g1, g4, g7, z_eqR, show ¬ (1 : Nat) = 0 by omega, z_bs, z_gd, z_b1, z_b0, z_10, z_01, eq_self, reduceCtorEq, ↓reduceIte, if_true, if_false, Nat.not_lt_zero, not_true_eq_false, not_false_eq_true, Bool.false_eq_true, Nat.le_refl, Nat.lt_irrefl]
      · simp (disch := omega) only [f_LM_judged, m_in02, h1, q1', q4, z_eqR, show ¬ (1 : Nat) = 0 by omega, z_bs, z_gd, z_b1, z_b0, z_10, z_01, eq_self, reduceCtorEq, ↓reduceIte, if_true, if_false, Nat.not_lt_zero, not_true_eq_false, not_false_eq_true, Bool.false_eq_true, Nat.le_refl, Nat.lt_irrefl]
    · refine ⟨(nI (u_z (q_it (q_ju (s_h s) (s_q s)) 0 (s_q s).length (q_bg (s_h s), none, none)).1), I1), (nI (u_z (q_it (q_ju (s_h s) (s_q s)) 0 (s_q s).length (q_bg (s_h s), none, none)).1), J1), ?_, ?_, rfl, hi.en k3⟩
      · rw [f_LH_judged, e0, h1, if_pos rfl]
        simp (disch := omega) only [g1, g4, r6, z_eqR, show ¬ (2 : Nat) = 0 by omega, show ¬ (2 : Nat) = 1 by omega, z_bs, z_gd, z_b1, z_b0, z_10, z_01, eq_self, reduceCtorEq, ↓reduceIte, if_true, if_false, Nat.not_lt_zero, not_true_eq_false, not_false_eq_true, Bool.false_eq_true, Nat.le_refl, Nat.lt_irrefl]
      · simp (disch := omega) only [f_LM_judged, m_in02, h1, q1', q4, r678, z_eqR, show ¬ (2 : Nat) = 0 by omega, show ¬ (2 : Nat) = 1 by omega, z_bs, z_gd, z_b1, z_b0, z_10, z_01, eq_self, reduceCtorEq, ↓reduceIte, if_true, if_false, Nat.not_lt_zero, not_true_eq_false, not_false_eq_true, Bool.false_eq_true, Nat.le_refl, Nat.lt_irrefl]
