/-! night: the reference's step, the loops together -/
theorem n_m.ap {q : List (Nat × Nat)} {x : Nat × Nat} {J J' : lh_II} (h : n_m q J) (hf : ∀ k, 85 ≤ k → k < 85 + 2 * q.length → J' (75 + 4) k = J (75 + 4) k) (h1 : J' (75 + 4) (85 + 2 * q.length) = nI x.1) (h2 : 3 ≤ x.1 → J' (75 + 4) (86 + 2 * q.length) = nI x.2) : n_m (q ++ [x]) J' := by
  intro k hk
  rw [List.length_append] at hk
  simp at hk
  rw [q_gP]
  by_cases e : k < q.length
  · rw [if_pos e, hf _ (by omega) (by omega), hf _ (by omega) (by omega)]; exact h k e
  · rw [if_neg e, if_pos (by omega), show k = q.length by omega]
    exact ⟨h1, h2⟩
theorem m_step {t : List Nat} (hw : qt_w t) {N n : Nat} {q : List (Nat × Nat)} {J : lh_II} {M : lh_LL} (h : r_m t N n J M) (h37 : tk_C t n ≠ 37) (h8 : J (65 + 4) 8 = 0) (hq : n_m q J) (hl : q.length ≤ 40) (f : Nat) : ∃ v' J', f_LM_night_7 M (f + 1) (nI q.length) J = f_LM_night_7 M f v' J' ∧ (n_F t n q.length = 0 → v' = nI (q.length + 1) ∧ r_m t N (n_N t n) J' M ∧ J' (65 + 4) 8 = 0 ∧ n_m (q ++ [n_l t n]) J') ∧ (n_F t n q.length ≠ 0 → J' (65 + 4) 8 = nI (n_F t n q.length)) ∧ n_mf J J' := by
  have hb1 := (tk_C_b t n).1
  have hl0 := hw.1
  have hP := tk_P_le t n
  have hP1 := tk_P_le t (n + 1)
  have hP2 := tk_P_le t (n + 2)
  have hn := h.nx h37
  have h7 : J (65 + 4) 7 = nI n := h.2.2.2.2.2.1
  have hN : N ≤ 1000 := h.1
  have q1 : J (67 + 4) n = nI (tk_so (tk_C t n)) := (h.2.2.2.1 n h.2.1).1
  have so0 := tk_so_0 hb1
  have w3 : f_LM_isWord 3 J M = _ := m_isWord h h8 (w := 3) (by decide)
  have w12 : f_LM_isWord 12 J M = _ := m_isWord h h8 (w := 12) (by decide)
  have wh : f_LM_wordHere 13 3 J M = _ := m_wordHere h h8 (x := 13) (m := 3) (by decide)
  have n1 := tk_ne (x := 1) (p := tk_P t n) (by decide) (by decide) (by omega)
  have n5 := tk_ne (x := 5) (p := tk_P t n) (by decide) (by decide) (by omega)
  unfold n_F n_N
  by_cases ha5 : n_ac (tk_C t n) = 5
  · rw [if_pos ha5]
    have hC : ¬ tk_C t n = 3 ∧ ¬ tk_C t n = 12 ∧ ¬ tk_C t n = 13 ∧ ¬ tk_C t n = 14 ∧ ¬ tk_C t n = 15 := by
      unfold n_ac at ha5
      repeat' split at ha5
      all_goals omega
    rw [decide_eq_false hC.1] at w3
    rw [decide_eq_false hC.2.1] at w12
    rw [if_neg (by omega)] at wh
    have er : f_LM_wrong 1 J = _ := m_wrong h h8 1
    have es := m_tsign' (J := lh_u2 J (65 + 4) 8 (nI (1 + 16 * tk_P t n))) M (by rw [q_u2s]; exact n1) 59
    refine ⟨nI q.length, lh_u2 J (65 + 4) 8 (nI (1 + 16 * tk_P t n)), ?_, fun h => absurd h (by omega), fun _ => q_u2s, fun o k h1 h2 => by rw [q_u2o (by omega)]⟩
    rw [f_LM_night_7]
    simp (disch := omega) only [h8, h7, z_ix, z_cl, q1, so0, h37, w3, w12, wh, er, es, z_0lem1, z_bs, z_gd, z_b1, z_b0, z_10, z_01, eq_self, reduceCtorEq, ↓reduceIte, if_true, if_false, Nat.not_lt_zero, not_true_eq_false, not_false_eq_true, Bool.false_eq_true, Nat.le_refl, Nat.lt_irrefl]
  · rw [if_neg ha5]
    have ha4 : n_ac (tk_C t n) < 5 := by
      have ha : n_ac (tk_C t n) ≤ 5 := by unfold n_ac; (repeat' split) <;> omega
      omega
    have hC := n_ac_a ha4
    have hC' : tk_C t n = 3 ∨ tk_C t n = 12 ∨ tk_C t n = 13 ∨ tk_C t n = 14 ∨ tk_C t n = 15 := by
      unfold q_act at hC
      repeat' split at hC
      all_goals omega
    by_cases h40 : q.length = 40
    · rw [if_pos h40]
      have er : f_LM_wrong 5 J = _ := m_wrong h h8 5
      have es := m_tsign' (J := lh_u2 J (65 + 4) 8 (nI (5 + 16 * tk_P t n))) M (by rw [q_u2s]; exact n5) 59
      refine ⟨nI q.length, lh_u2 J (65 + 4) 8 (nI (5 + 16 * tk_P t n)), ?_, fun h => absurd h (by omega), fun _ => q_u2s, fun o k h1 h2 => by rw [q_u2o (by omega)]⟩
      rw [f_LM_night_7]
      rcases hC' with e | e | e | e | e
      all_goals
        rw [e] at w3 w12 wh
        simp (disch := omega) only [Nat.reduceEqDiff, Nat.reduceLeDiff, Nat.reduceLT, Nat.reduceAdd, Nat.reduceSub, and_self, decide_true, decide_false, ↓reduceIte, z_b0, z_b1] at w3 w12 wh
        simp (disch := omega) only [h8, h7, z_ix, z_cl, q1, so0, h37, w3, w12, wh, er, es, h40, z_addL, z_leL, z_eqR, Nat.zero_le, z_bs, z_gd, z_b1, z_b0, z_10, z_01, eq_self, reduceCtorEq, ↓reduceIte, if_true, if_false, Nat.not_lt_zero, not_true_eq_false, not_false_eq_true, Bool.false_eq_true, Nat.le_refl, Nat.lt_irrefl]
    · rw [if_neg h40]
      by_cases ha3 : n_ac (tk_C t n) < 3
      · rw [if_pos ha3, if_pos ha3]
        have hr : r_m t N (n + 1) (lh_u2 (lh_u2 (lh_u2 J (65 + 4) 7 (nI (n + 1))) (75 + 4) (85 + 2 * q.length) (nI (n_ac (tk_C t n)))) (75 + 4) (86 + 2 * q.length) 0) M := h.kp (by omega) (by rw [q_u2o (by omega), q_u2o (by omega), q_u2s]) (fun o k ho => by rw [q_u2o (by omega), q_u2o (by omega), q_u2o (by omega)])
        have hr8 : (lh_u2 (lh_u2 (lh_u2 J (65 + 4) 7 (nI (n + 1))) (75 + 4) (85 + 2 * q.length) (nI (n_ac (tk_C t n)))) (75 + 4) (86 + 2 * q.length) 0) (65 + 4) 8 = 0 := by rw [q_u2o (by omega), q_u2o (by omega), q_u2o (by omega)]; exact h8
        have es : f_LM_takeSign 59 (lh_u2 (lh_u2 (lh_u2 J (65 + 4) 7 (nI (n + 1))) (75 + 4) (85 + 2 * q.length) (nI (n_ac (tk_C t n)))) (75 + 4) (86 + 2 * q.length) 0) M = _ := m_tsign hr hr8 (k := 7) (by decide)
        have hst : f_LM_night_7 M (f + 1) (nI q.length) J = lh_bd (f_LM_takeSign 59 (lh_u2 (lh_u2 (lh_u2 J (65 + 4) 7 (nI (n + 1))) (75 + 4) (85 + 2 * q.length) (nI (n_ac (tk_C t n)))) (75 + 4) (86 + 2 * q.length) 0) M) fun r => f_LM_night_7 M f (nI (q.length + 1)) r := by
          rw [f_LM_night_7]
          have hC3 : tk_C t n = 3 ∨ tk_C t n = 12 ∨ tk_C t n = 13 := by
            rcases hC' with e | e | e | e | e
            · exact Or.inl e
            · exact Or.inr (Or.inl e)
            · exact Or.inr (Or.inr e)
            · rw [e] at ha3; exact absurd ha3 (by decide)
            · rw [e] at ha3; exact absurd ha3 (by decide)
          rcases hC3 with e | e | e
          · rw [e] at w3 ⊢
            simp (disch := omega) only [decide_true, z_b1] at w3
            rw [show n_ac 3 = 0 from rfl]
            rw [e] at q1
            simp (disch := omega) only [h8, h7, z_ix, z_cl, q1, show (nI (tk_so 3) = 0) = False by decide, w3, h40, z_addL, z_addR, z_mulR, z_eqR, z_addR, q_u2o, z_bs, z_gd, z_b1, z_b0, z_10, z_01, eq_self, reduceCtorEq, ↓reduceIte, if_true, if_false, Nat.not_lt_zero, not_true_eq_false, not_false_eq_true, Bool.false_eq_true, Nat.le_refl, Nat.lt_irrefl]
            rfl
          · rw [e] at w3 w12 ⊢
            simp (disch := omega) only [Nat.reduceEqDiff, decide_false, decide_true, z_b0, z_b1] at w3 w12
            rw [show n_ac 12 = 1 from rfl]
            rw [e] at q1
            simp (disch := omega) only [h8, h7, z_ix, z_cl, q1, show (nI (tk_so 12) = 0) = False by decide, w3, w12, h40, z_addL, z_addR, z_mulR, z_eqR, z_addR, q_u2o, z_bs, z_gd, z_b1, z_b0, z_10, z_01, eq_self, reduceCtorEq, ↓reduceIte, if_true, if_false, Nat.not_lt_zero, not_true_eq_false, not_false_eq_true, Bool.false_eq_true, Nat.le_refl, Nat.lt_irrefl]
            rfl
          · rw [e] at w3 w12 wh ⊢
            simp (disch := omega) only [Nat.reduceEqDiff, Nat.reduceLeDiff, Nat.reduceLT, Nat.reduceAdd, Nat.reduceSub, and_self, decide_true, decide_false, ↓reduceIte, z_b0, z_b1] at w3 w12 wh
            rw [show n_ac 13 = 2 from rfl]
            rw [e] at q1
            simp (disch := omega) only [h8, h7, z_ix, z_cl, q1, show (nI (tk_so 13) = 0) = False by decide, w3, w12, wh, h40, z_addL, z_addR, z_mulR, z_eqR, z_addR, z_leL, Nat.zero_le, Nat.reduceAdd, Nat.reduceEqDiff, q_u2o, z_bs, z_gd, z_b1, z_b0, z_10, z_01, eq_self, reduceCtorEq, ↓reduceIte, if_true, if_false, Nat.not_lt_zero, not_true_eq_false, not_false_eq_true, Bool.false_eq_true, Nat.le_refl, Nat.lt_irrefl]
        rw [hst, es, z_bs]
        refine ⟨nI (q.length + 1), _, rfl, ?_⟩
        by_cases h36 : tk_C t (n + 1) = 36
        · rw [if_pos h36, if_pos (show tk_C t (n + 1) = 29 + 7 from h36)]
          have hn2 := hr.nx (by omega)
          refine ⟨fun _ => ⟨rfl, hr.kp (by omega) q_u2s (fun o k ho => by rw [q_u2o (by omega)]), by rw [q_u2o (by omega)]; exact hr8, ?_⟩, fun h => absurd rfl h, fun o k h1 h2 => by rw [q_u2o (by omega), q_u2o (by omega), q_u2o (by omega), q_u2o (by omega)]⟩
          refine hq.ap (fun k h1 h2 => by rw [q_u2o (by omega), q_u2o (by omega), q_u2o (by omega), q_u2o (by omega)]) ?_ (fun h => absurd h (by show ¬ 3 ≤ n_ac (tk_C t n); omega))
          rw [q_u2o (by omega), q_u2o (by omega), q_u2s]
          rfl
        · rw [if_neg h36, if_neg (show ¬ tk_C t (n + 1) = 29 + 7 from h36)]
          exact ⟨fun h => absurd h (by omega), fun _ => q_u2s, fun o k h1 h2 => by rw [q_u2o (by omega), q_u2o (by omega), q_u2o (by omega), q_u2o (by omega)]⟩
      · rw [if_neg ha3, if_neg ha3]
        have hC5 : (tk_C t n = 14 ∧ n_lo (tk_C t n) = 0 ∧ n_hi (tk_C t n) = 3 ∧ n_ac (tk_C t n) = 3) ∨ (tk_C t n = 15 ∧ n_lo (tk_C t n) = 1 ∧ n_hi (tk_C t n) = 99 ∧ n_ac (tk_C t n) = 4) := by
          rcases hC' with e | e | e | e | e
          · rw [e] at ha3; exact absurd ha3 (by decide)
          · rw [e] at ha3; exact absurd ha3 (by decide)
          · rw [e] at ha3; exact absurd ha3 (by decide)
          · left; rw [e]; exact ⟨rfl, rfl, rfl, rfl⟩
          · right; rw [e]; exact ⟨rfl, rfl, rfl, rfl⟩
        have hr : r_m t N (n + 1) (lh_u2 (lh_u2 J (65 + 4) 7 (nI (n + 1))) (75 + 4) (85 + 2 * q.length) (nI (n_ac (tk_C t n)))) M := h.kp (by omega) (by rw [q_u2o (by omega), q_u2s]) (fun o k ho => by rw [q_u2o (by omega), q_u2o (by omega)])
        have hr8 : (lh_u2 (lh_u2 J (65 + 4) 7 (nI (n + 1))) (75 + 4) (85 + 2 * q.length) (nI (n_ac (tk_C t n)))) (65 + 4) 8 = 0 := by rw [q_u2o (by omega), q_u2o (by omega)]; exact h8
        have hbd : n_lo (tk_C t n) < 128 ∧ n_hi (tk_C t n) < 128 := by omega
        have et := m_take hr hr8 hw tk_V_le (lo := n_lo (tk_C t n)) (hi := n_hi (tk_C t n)) hbd.1 hbd.2
        have hst : f_LM_night_7 M (f + 1) (nI q.length) J = lh_bd (f_LM_takeNumber (nI (n_lo (tk_C t n))) (nI (n_hi (tk_C t n))) (lh_u2 (lh_u2 J (65 + 4) 7 (nI (n + 1))) (75 + 4) (85 + 2 * q.length) (nI (n_ac (tk_C t n)))) M) fun r => lh_bd (f_LM_takeSign 59 (lh_u2 r.2 (75 + 4) (86 + 2 * q.length) r.1) M) fun r' => f_LM_night_7 M f (nI (q.length + 1)) r' := by
          rw [f_LM_night_7]
          rcases hC5 with ⟨e, e1, e2, e3⟩ | ⟨e, e1, e2, e3⟩
          · rw [e1, e2, e3]
            rw [e] at w3 w12 wh q1
            simp (disch := omega) only [Nat.reduceEqDiff, Nat.reduceLeDiff, Nat.reduceLT, Nat.reduceAdd, Nat.reduceSub, and_self, decide_true, decide_false, ↓reduceIte, z_b0, z_b1] at w3 w12 wh
            simp (disch := omega) only [h8, h7, z_ix, z_cl, q1, show (nI (tk_so 14) = 0) = False by decide, w3, w12, wh, h40, z_addL, z_addR, z_mulR, z_eqR, z_addR, z_leL, Nat.zero_le, Nat.reduceAdd, Nat.reduceEqDiff, q_u2o, z_bs, z_gd, z_b1, z_b0, z_10, z_01, eq_self, reduceCtorEq, ↓reduceIte, if_true, if_false, Nat.not_lt_zero, not_true_eq_false, not_false_eq_true, Bool.false_eq_true, Nat.le_refl, Nat.lt_irrefl]
            rfl
          · rw [e1, e2, e3]
            rw [e] at w3 w12 wh q1
            simp (disch := omega) only [Nat.reduceEqDiff, Nat.reduceLeDiff, Nat.reduceLT, Nat.reduceAdd, Nat.reduceSub, and_self, decide_true, decide_false, ↓reduceIte, z_b0, z_b1] at w3 w12 wh
            simp (disch := omega) only [h8, h7, z_ix, z_cl, q1, show (nI (tk_so 15) = 0) = False by decide, w3, w12, wh, h40, z_addL, z_addR, z_mulR, z_eqR, z_addR, z_leL, Nat.zero_le, Nat.reduceAdd, Nat.reduceEqDiff, q_u2o, z_bs, z_gd, z_b1, z_b0, z_10, z_01, eq_self, reduceCtorEq, ↓reduceIte, if_true, if_false, Nat.not_lt_zero, not_true_eq_false, not_false_eq_true, Bool.false_eq_true, Nat.le_refl, Nat.lt_irrefl]
            rfl
        rw [hst, et]
        by_cases hnf : tk_nf (n_lo (tk_C t n)) (n_hi (tk_C t n)) t (n + 1) = 0
        · rw [if_pos hnf, if_pos hnf, z_bs]
          have h28 : tk_C t (n + 1) = 28 := by
            unfold tk_nf at hnf
            repeat' split at hnf
            all_goals first | assumption | omega
          have hn2 := hr.nx (by omega)
          have hr2 : r_m t N (n + 2) (lh_u2 (lh_u2 (lh_u2 (lh_u2 J (65 + 4) 7 (nI (n + 1))) (75 + 4) (85 + 2 * q.length) (nI (n_ac (tk_C t n)))) (65 + 4) 7 (nI (n + 1 + 1))) (75 + 4) (86 + 2 * q.length) (nI (tk_V t (n + 1)))) M := hr.kp (by omega) (by rw [q_u2o (by omega), q_u2s]) (fun o k ho => by rw [q_u2o (by omega), q_u2o (by omega)])
          have hr28 : (lh_u2 (lh_u2 (lh_u2 (lh_u2 J (65 + 4) 7 (nI (n + 1))) (75 + 4) (85 + 2 * q.length) (nI (n_ac (tk_C t n)))) (65 + 4) 7 (nI (n + 1 + 1))) (75 + 4) (86 + 2 * q.length) (nI (tk_V t (n + 1)))) (65 + 4) 8 = 0 := by rw [q_u2o (by omega), q_u2o (by omega)]; exact hr8
          have es : f_LM_takeSign 59 (lh_u2 (lh_u2 (lh_u2 (lh_u2 J (65 + 4) 7 (nI (n + 1))) (75 + 4) (85 + 2 * q.length) (nI (n_ac (tk_C t n)))) (65 + 4) 7 (nI (n + 1 + 1))) (75 + 4) (86 + 2 * q.length) (nI (tk_V t (n + 1)))) M = _ := m_tsign hr2 hr28 (k := 7) (by decide)
          simp only []
          rw [es, z_bs]
          refine ⟨nI (q.length + 1), _, rfl, ?_⟩
          by_cases h36 : tk_C t (n + 2) = 36
          · rw [if_pos h36, if_pos (show tk_C t (n + 2) = 29 + 7 from h36)]
            have hn3 := hr2.nx (by omega)
            refine ⟨fun _ => ⟨rfl, hr2.kp (by omega) q_u2s (fun o k ho => by rw [q_u2o (by omega)]), by rw [q_u2o (by omega)]; exact hr28, ?_⟩, fun h => absurd rfl h, fun o k h1 h2 => by rw [q_u2o (by omega), q_u2o (by omega), q_u2o (by omega), q_u2o (by omega), q_u2o (by omega)]⟩
            refine hq.ap (fun k h1 h2 => by rw [q_u2o (by omega), q_u2o (by omega), q_u2o (by omega), q_u2o (by omega), q_u2o (by omega)]) ?_ (fun _ => ?_)
            · rw [q_u2o (by omega), q_u2o (by omega), q_u2o (by omega), q_u2s]
              rfl
            · rw [q_u2o (by omega), q_u2s]
              show _ = nI (if n_ac (tk_C t n) < 3 then 0 else tk_V t (n + 1))
              rw [if_neg ha3]
          · rw [if_neg h36, if_neg (show ¬ tk_C t (n + 2) = 29 + 7 from h36)]
            exact ⟨fun h => absurd h (by omega), fun _ => q_u2s, fun o k h1 h2 => by rw [q_u2o (by omega), q_u2o (by omega), q_u2o (by omega), q_u2o (by omega), q_u2o (by omega)]⟩
        · rw [if_neg hnf, if_neg hnf, z_bs]
          have hnfb : tk_nf (n_lo (tk_C t n)) (n_hi (tk_C t n)) t (n + 1) ≤ 4 := by unfold tk_nf; (repeat' split) <;> omega
          have nn := tk_ne (x := tk_nf (n_lo (tk_C t n)) (n_hi (tk_C t n)) t (n + 1)) (p := tk_P t (n + 1)) (by omega) (by omega) (by omega)
          have es := m_tsign' (J := lh_u2 (lh_u2 (lh_u2 (lh_u2 J (65 + 4) 7 (nI (n + 1))) (75 + 4) (85 + 2 * q.length) (nI (n_ac (tk_C t n)))) (65 + 4) 8 (nI (tk_nf (n_lo (tk_C t n)) (n_hi (tk_C t n)) t (n + 1) + 16 * tk_P t (n + 1)))) (75 + 4) (86 + 2 * q.length) 0) M (by rw [q_u2o (by omega), q_u2s]; exact nn) 59
          simp only []
          rw [es, z_bs]
          refine ⟨nI (q.length + 1), _, rfl, fun h => absurd h (by omega), fun _ => by rw [q_u2o (by omega), q_u2s], fun o k h1 h2 => by rw [q_u2o (by omega), q_u2o (by omega), q_u2o (by omega), q_u2o (by omega)]⟩
