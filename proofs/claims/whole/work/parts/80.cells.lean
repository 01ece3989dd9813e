/-! cells read: both sides -/
def c_ok (t : List Nat) (N : Nat) (M : lh_LL) (n z v2 x1 m : Nat) (rw : Nat → Nat) (I' : lh_II) (L' : lh_LL) (J' : lh_II) : Prop := I' (1 + 4) 8 = 0 ∧ J' (65 + 4) 8 = 0 ∧ ∃ n', n ≤ n' ∧ r_c t n' I' L' ∧ r_m t N n' J' M ∧ (1 ≤ m ∧ m ≤ 8) ∧ ∀ i, i < m → rw i < 12 ∧ I' (z + 4) (v2 + i) = nI (rw i) ∧ J' (71 + 4) (x1 + i) = nI (rw i)
def c_cf (z v2 : Nat) (I I' : lh_II) : Prop := ∀ o k, ¬ (o = 5 ∧ 3 ≤ k ∧ k ≤ 8) → ¬ (o = z + 4 ∧ v2 ≤ k ∧ k < v2 + 8) → I' o k = I o k
def c_mf (x1 : Nat) (J J' : lh_II) : Prop := ∀ o k, ¬ (o = 69 ∧ (k = 7 ∨ k = 8)) → ¬ (o = 75 ∧ x1 ≤ k ∧ k < x1 + 8) → J' o k = J o k
theorem c_loop {t : List Nat} (hw : qt_w t) {N a q z nz v2 x1 : Nat} {M : lh_LL} (hz : 11 ≤ z) (hnz : v2 + 8 ≤ nz) (hnz2 : nz ≤ 48) (hx : x1 + 8 ≤ 200) : ∀ (d f1 f2 m n : Nat) (rw : Nat → Nat) (I : lh_II) (L : lh_LL) (J : lh_II), m + d = 9 → d + 1 < f1 → d + 1 < f2 → m ≤ 8 → r_c t n I L → r_m t N n J M → I (1 + 4) 8 = 0 → J (65 + 4) 8 = 0 → (∀ i, i < m → rw i < 12 ∧ I (z + 4) (v2 + i) = nI (rw i) ∧ J (71 + 4) (x1 + i) = nI (rw i)) → ∃ I' L' J', ((∃ m' rw', f_Hr_readCells_2 a q z nz (nI v2) f1 (nI m) I L = some (2, nI m', I', L') ∧ f_LM_readCells_2 (nI x1) M f2 (nI m) J = some (nI m', J') ∧ c_ok t N M n z v2 x1 m' rw' I' L' J') ∨ (∃ c v B, c < 2 ∧ (1 ≤ B ∧ B ≤ 20000) ∧ f_Hr_readCells_2 a q z nz (nI v2) f1 (nI m) I L = some (c, v, I', L') ∧ (∃ v', f_LM_readCells_2 (nI x1) M f2 (nI m) J = some (v', J')) ∧ (c = 0 → I' (1 + 4) 8 = nI B) ∧ (c = 1 → f_Re_refuse 5 I' = some (0, lh_u2 I' (1 + 4) 8 (nI B))) ∧ J' (65 + 4) 8 = nI B)) ∧ c_cf z v2 I I' ∧ r_lf L L' ∧ c_mf x1 J J' := by
  intro d
  induction d with
  | zero => intro f1 f2 m n rw I L J hd hf1 hf2 hm8; omega
  | succ d ih =>
    intro f1 f2 m n rw I L J hd hf1 hf2 hm8 hc hm h8 h8' hrw
    obtain ⟨g1, rfl⟩ : ∃ g, f1 = g + 1 := ⟨f1 - 1, by omega⟩
    obtain ⟨g2, rfl⟩ : ∃ g, f2 = g + 1 := ⟨f2 - 1, by omega⟩
    have hN : N ≤ 1000 := hm.1
    have hnN : n ≤ N := hm.2.1
    have hb := (tk_C_b t n).1
    have hl0 := hw.1
    have hP := tk_P_le t n
    have h4 := hc.2.2.1
    have h7 : J (65 + 4) 7 = nI n := hm.2.2.2.2.2.1
    have q1 : J (67 + 4) n = nI (tk_so (tk_C t n)) := (hm.2.2.2.1 n hnN).1
    have ew : f_Re_wantNumber 0 11 I = _ := e_want hc h8 (lo := 0) (hi := 11) (by decide) (by decide)
    have et : f_LM_takeNumber 0 11 J M = _ := m_take hm h8' hw tk_V_le (lo := 0) (hi := 11) (by decide) (by decide)
    by_cases hgo : m = 0 ∨ tk_C t n = 28
    · by_cases hnf : tk_nf 0 11 t n = 0
      · rw [if_pos hnf] at ew et
        have h28 : tk_C t n = 28 := by
          unfold tk_nf at hnf
          repeat' split at hnf
          all_goals first | assumption | omega
        have hV : tk_V t n ≤ 11 := by
          unfold tk_nf at hnf
          rw [if_pos h28] at hnf
          split at hnf
          · next h => exact h.2
          · omega
        have hnx := hm.nx (by omega)
        have h6 := (hc.2.2.2.2.1 h28).1
        by_cases hm8' : m = 8
        · subst hm8'
          have em : f_LM_wrong 5 (lh_u2 (lh_u2 J (65 + 4) 7 (nI (n + 1))) (65 + 4) 7 (nI n)) = _ := m_wrong (n := n) (hm.kp hnN q_u2s (fun o k ho => by rw [q_u2o (by omega), q_u2o (by omega)])) (by rw [q_u2o (by omega), q_u2o (by omega)]; exact h8') 5
          obtain ⟨g3, rfl⟩ : ∃ g, g2 = g + 1 := ⟨g2 - 1, by omega⟩
          have hne := tk_ne (x := 5) (p := tk_P t n) (by decide) (by decide) (by omega)
          have er : f_Re_refuse 5 I = _ := e_refuse hc h8 5
          refine ⟨I, L, lh_u2 (lh_u2 (lh_u2 J (65 + 4) 7 (nI (n + 1))) (65 + 4) 7 (nI n)) (65 + 4) 8 (nI (5 + 16 * tk_P t n)), Or.inr ⟨1, nI 8, 5 + 16 * tk_P t n, by decide, by omega, ?_, ⟨nI 8, ?_⟩, fun h => absurd h (by decide), fun _ => er, q_u2s⟩, fun _ _ _ _ => rfl, fun _ _ _ => rfl, fun o k h1 h2 => by rw [q_u2o (by omega), q_u2o (by omega), q_u2o (by omega)]⟩
          · rw [f_Hr_readCells_2]
            simp (disch := omega) only [z_ltL, z_eqR, Nat.reduceEqDiff, h4, h28, ew, z_bs, z_gd, z_b1, z_b0, z_10, z_01, eq_self, reduceCtorEq, ↓reduceIte, if_true, if_false, Nat.not_lt_zero, not_true_eq_false, not_false_eq_true, Bool.false_eq_true, Nat.le_refl, Nat.lt_irrefl]
          · rw [f_LM_readCells_2]
            simp (disch := omega) only [h8', h7, z_ix, z_cl, q1, h28, show (nI (tk_so 28) = 2) = True by decide, z_eqR, Nat.reduceEqDiff, et, q_u2o, q_u2s, z_subL, Nat.add_sub_cancel, em, z_bs, z_gd, z_b1, z_b0, z_10, z_01, eq_self, reduceCtorEq, ↓reduceIte, if_true, if_false, Nat.not_lt_zero, not_true_eq_false, not_false_eq_true, Bool.false_eq_true, Nat.le_refl, Nat.lt_irrefl]
            rw [f_LM_readCells_2, if_neg (by rw [q_u2s]; exact hne)]
        · obtain ⟨I1, L1, e1, e2, e3, e4⟩ := e_adv hw (I := lh_u2 I (z + 4) (v2 + m) (nI (tk_V t n))) (L := L) (hc.kp (fun o k ho => by rw [q_u2o (by omega)]))
          obtain ⟨I2, L2, J2, hor, p1, p2, p3⟩ := ih g1 g2 (m + 1) (n + 1) (fun i => if i = m then tk_V t n else rw i) I1 L1 (lh_u2 (lh_u2 J (65 + 4) 7 (nI (n + 1))) (71 + 4) (x1 + m) (nI (tk_V t n))) (by omega) (by omega) (by omega) (by omega) e2 (hm.kp (by omega) (by rw [q_u2o (by omega), q_u2s]) (fun o k ho => by rw [q_u2o (by omega), q_u2o (by omega)])) (by rw [e3 _ _ (by omega), q_u2o (by omega)]; exact h8) (by rw [q_u2o (by omega), q_u2o (by omega)]; exact h8') (fun i hi => by
            by_cases e : i = m
            · subst e
              rw [if_pos rfl]
              exact ⟨by omega, by rw [e3 _ _ (by omega), q_u2s], q_u2s⟩
            · rw [if_neg e]
              obtain ⟨r1, r2, r3⟩ := hrw i (by omega)
              exact ⟨r1, by rw [e3 _ _ (by omega), q_u2o (by omega)]; exact r2, by rw [q_u2o (by omega), q_u2o (by omega)]; exact r3⟩)
          have hcl : f_Hr_readCells_2 a q z nz (nI v2) (g1 + 1) (nI m) I L = f_Hr_readCells_2 a q z nz (nI v2) g1 (nI (m + 1)) I1 L1 := by
            rw [f_Hr_readCells_2]
            by_cases h0 : m = 0
            · simp (disch := omega) only [z_ltL, z_eqR, h0, Nat.reduceEqDiff, Nat.reduceLT, h4, h28, ew, h6, z_add, z_addL, z_lt, z_ix, z_cl, show ¬ 8 < m by omega, hm8', show v2 + 0 < nz by omega, z_bs, z_gd, z_b1, z_b0, z_10, z_01, eq_self, reduceCtorEq, ↓reduceIte, if_true, if_false, Nat.not_lt_zero, not_true_eq_false, not_false_eq_true, Bool.false_eq_true, Nat.le_refl, Nat.lt_irrefl]
              rw [h0] at e1
              simp (disch := omega) only [e1, z_bs, z_gd, z_b1, z_b0, z_10, z_01, eq_self, reduceCtorEq, ↓reduceIte, if_true, if_false, Nat.not_lt_zero, not_true_eq_false, not_false_eq_true, Bool.false_eq_true, Nat.le_refl, Nat.lt_irrefl]
            · simp (disch := omega) only [z_ltL, z_eqR, h0, h4, h28, ew, h6, z_add, z_addL, z_lt, z_ix, z_cl, show ¬ 8 < m by omega, hm8', show v2 + m < nz by omega, e1, z_bs, z_gd, z_b1, z_b0, z_10, z_01, eq_self, reduceCtorEq, ↓reduceIte, if_true, if_false, Nat.not_lt_zero, not_true_eq_false, not_false_eq_true, Bool.false_eq_true, Nat.le_refl, Nat.lt_irrefl]
          have hmd : f_LM_readCells_2 (nI x1) M (g2 + 1) (nI m) J = f_LM_readCells_2 (nI x1) M g2 (nI (m + 1)) (lh_u2 (lh_u2 J (65 + 4) 7 (nI (n + 1))) (71 + 4) (x1 + m) (nI (tk_V t n))) := by
            rw [f_LM_readCells_2]
            by_cases h0 : m = 0
            · simp (disch := omega) only [h8', h7, z_ix, z_cl, q1, h28, show (nI (tk_so 28) = 2) = True by decide, z_eqR, h0, Nat.reduceEqDiff, et, q_u2o, z_add, z_addL, z_bs, z_gd, z_b1, z_b0, z_10, z_01, eq_self, reduceCtorEq, ↓reduceIte, if_true, if_false, Nat.not_lt_zero, not_true_eq_false, not_false_eq_true, Bool.false_eq_true, Nat.le_refl, Nat.lt_irrefl]
            · simp (disch := omega) only [h8', h7, z_ix, z_cl, q1, h28, show (nI (tk_so 28) = 2) = True by decide, z_eqR, h0, hm8', et, q_u2o, z_add, z_addL, z_bs, z_gd, z_b1, z_b0, z_10, z_01, eq_self, reduceCtorEq, ↓reduceIte, if_true, if_false, Nat.not_lt_zero, not_true_eq_false, not_false_eq_true, Bool.false_eq_true, Nat.le_refl, Nat.lt_irrefl]
          refine ⟨I2, L2, J2, ?_, fun o k h1 h2 => by rw [p1 _ _ h1 h2, e3 _ _ (by omega), q_u2o (by omega)], fun o k h1 => by rw [p2 _ _ h1, e4 _ _ h1], fun o k h1 h2 => by rw [p3 _ _ h1 h2, q_u2o (by omega), q_u2o (by omega)]⟩
          rw [hcl, hmd]
          rcases hor with ⟨m', rw', y1, y2, y3, y4, n', y5, y6⟩ | hor
          · exact Or.inl ⟨m', rw', y1, y2, y3, y4, n', by omega, y6⟩
          · exact Or.inr hor
      · rw [if_neg hnf] at ew et
        have hnfb : tk_nf 0 11 t n ≤ 4 := by unfold tk_nf; (repeat' split) <;> omega
        have hne := tk_ne (x := tk_nf 0 11 t n) (p := tk_P t n) (by omega) (by omega) (by omega)
        obtain ⟨g3, rfl⟩ : ∃ g, g2 = g + 1 := ⟨g2 - 1, by omega⟩
        refine ⟨lh_u2 I (1 + 4) 8 (nI (tk_nf 0 11 t n + 16 * tk_P t n)), L, lh_u2 J (65 + 4) 8 (nI (tk_nf 0 11 t n + 16 * tk_P t n)), Or.inr ⟨0, nI m, tk_nf 0 11 t n + 16 * tk_P t n, by decide, by omega, ?_, ⟨nI m, ?_⟩, fun _ => q_u2s, fun h => absurd h (by decide), q_u2s⟩, fun o k h1 h2 => by rw [q_u2o (by omega)], fun _ _ _ => rfl, fun o k h1 h2 => by rw [q_u2o (by omega)]⟩
        · rw [f_Hr_readCells_2]
          by_cases h0 : m = 0
          · simp (disch := omega) only [z_ltL, z_eqR, h0, Nat.reduceLT, ew, z_bs, z_gd, z_b1, z_b0, z_10, z_01, eq_self, reduceCtorEq, ↓reduceIte, if_true, if_false, Nat.not_lt_zero, not_true_eq_false, not_false_eq_true, Bool.false_eq_true, Nat.le_refl, Nat.lt_irrefl]
          · simp (disch := omega) only [z_ltL, z_eqR, h0, h4, show tk_C t n = 28 by omega, show ¬ 8 < m by omega, ew, z_bs, z_gd, z_b1, z_b0, z_10, z_01, eq_self, reduceCtorEq, ↓reduceIte, if_true, if_false, Nat.not_lt_zero, not_true_eq_false, not_false_eq_true, Bool.false_eq_true, Nat.le_refl, Nat.lt_irrefl]
        · have hst : f_LM_readCells_2 (nI x1) M (g3 + 1) (nI m) (lh_u2 J (65 + 4) 8 (nI (tk_nf 0 11 t n + 16 * tk_P t n))) = some (nI m, lh_u2 J (65 + 4) 8 (nI (tk_nf 0 11 t n + 16 * tk_P t n))) := by
            rw [f_LM_readCells_2, if_neg (by rw [q_u2s]; exact hne)]
          rw [f_LM_readCells_2]
          by_cases h0 : m = 0
          · rw [h0] at hst ⊢
            simp (disch := omega) only [h8', z_eqR, et, q_u2s, hne, hst, z_bs, z_gd, z_b1, z_b0, z_10, z_01, eq_self, reduceCtorEq, ↓reduceIte, if_true, if_false, Nat.not_lt_zero, not_true_eq_false, not_false_eq_true, Bool.false_eq_true, Nat.le_refl, Nat.lt_irrefl]
          · simp (disch := omega) only [h8', h7, z_ix, z_cl, q1, show tk_C t n = 28 by omega, show (nI (tk_so 28) = 2) = True by decide, z_eqR, h0, et, q_u2s, hne, hst, z_bs, z_gd, z_b1, z_b0, z_10, z_01, eq_self, reduceCtorEq, ↓reduceIte, if_true, if_false, Nat.not_lt_zero, not_true_eq_false, not_false_eq_true, Bool.false_eq_true, Nat.le_refl, Nat.lt_irrefl]
    · have h0 : ¬ m = 0 := by omega
      have h28 : ¬ tk_C t n = 28 := by omega
      refine ⟨I, L, J, Or.inl ⟨m, rw, ?_, ?_, h8, h8', n, Nat.le_refl _, hc, hm, by omega, hrw⟩, fun _ _ _ _ => rfl, fun _ _ _ => rfl, fun _ _ _ _ => rfl⟩
      · rw [f_Hr_readCells_2]
        simp (disch := omega) only [z_ltL, z_eqR, h0, h4, h28, show ¬ 8 < m by omega, z_bs, z_gd, z_b1, z_b0, z_10, z_01, eq_self, reduceCtorEq, ↓reduceIte, if_true, if_false, Nat.not_lt_zero, not_true_eq_false, not_false_eq_true, Bool.false_eq_true, Nat.le_refl, Nat.lt_irrefl]
      · rw [f_LM_readCells_2]
        simp (disch := omega) only [h8', h7, z_ix, z_cl, q1, tk_so_2, h28, z_eqR, h0, z_bs, z_gd, z_b1, z_b0, z_10, z_01, eq_self, reduceCtorEq, ↓reduceIte, if_true, if_false, Nat.not_lt_zero, not_true_eq_false, not_false_eq_true, Bool.false_eq_true, Nat.le_refl, Nat.lt_irrefl]
