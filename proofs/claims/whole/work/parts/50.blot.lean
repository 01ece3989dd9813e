/-! choose, blot, rests -/
def q_trm (m : lh_Mt) (d : Nat) : lh_Mt := (u_c m, u_h m, d, u_o m - 2, u_s m, u_b m, u_z m)
theorem q_trm_mw {h : lh_H} {n d : Nat} {m : lh_Mt} (hw : q_mw h n m) (hd : d < 4) : q_mw h n (q_trm m d) := ⟨hw.1, hw.2.1, hd, by have := hw.2.2.2.1; show u_o m - 2 ≤ 99; omega, hw.2.2.2.2.1, hw.2.2.2.2.2⟩
theorem e_trimTo {I : lh_II} {o d : Nat} {m : lh_Mt} (hm : q_mc I o m) (h2 : 2 ≤ u_o m) : ∃ I', f_Mo_trimTo o (nI d) I = some I' ∧ q_mc I' o (q_trm m d) ∧ ∀ o' k, ¬ (o' = o + 4 ∧ (k = 2 ∨ k = 3)) → I' o' k = I o' k := by
  obtain ⟨m1, m2, m3, m4, m5, m6, m7⟩ := hm
  refine ⟨lh_u2 (lh_u2 I (o + 4) 2 (nI d)) (o + 4) 3 (nI (u_o m - 2)), ?_, ?_, fun o' k h1 => ?_⟩
  · simp (disch := omega) only [f_Mo_trimTo, q_u2o, m4, z_subL]
  · refine ⟨?_, ?_, ?_, ?_, ?_, ?_, ?_⟩ <;> simp (disch := omega) only [q_u2o, q_u2s] <;> first | rfl | assumption
  · rw [q_u2o (by omega), q_u2o (by omega)]
theorem m_trims {J : lh_II} {b0 d : Nat} {m : lh_Mt} (hb : b0 ≤ 704) (hm : q_mm J b0 m) (h2 : 2 ≤ u_o m) : ∃ J', f_LM_trims (nI b0) (nI d) J = some J' ∧ q_mm J' b0 (q_trm m d) ∧ ∀ o k, ¬ (o = 82 ∧ (k = b0 + 3 ∨ k = b0 + 4)) → J' o k = J o k := by
  obtain ⟨m1, m2, m3, m4, m5, m6, m7⟩ := hm
  refine ⟨lh_u2 (lh_u2 J (78 + 4) (b0 + 4) (nI (u_o m - 2))) (78 + 4) (b0 + 3) (nI d), ?_, ?_, fun o' k h1 => ?_⟩
  · simp (disch := omega) only [f_LM_trims, q_u2o, m5, z_le, z_lt, z_eq, z_leL, z_leR, z_ltL, z_ltR, z_eqR, z_eqL, z_m1, z_m1s, z_m1le, z_m1lt, z_m1lt0, z_m1le0, z_0lem1, z_m1lek, z_add, z_addL, z_addR, z_mulR, z_sub, z_subL, z_gd, z_ix, z_cl, z_or0, z_add0]
  · refine ⟨?_, ?_, ?_, ?_, ?_, ?_, ?_⟩ <;> simp (disch := omega) only [q_u2o, q_u2s] <;> first | rfl | assumption
  · rw [q_u2o (by omega), q_u2o (by omega)]
theorem p_choose : lh_P36 lh_inv := by
  intro t a b a2 b2 I L hi
  obtain ⟨s, w, c, m, ha, fc, f0, fm⟩ := hi.opx
  obtain ⟨w1, w2, w3, w4, w5, w6⟩ := w.2.1
  have n4 : I (7 + 4) 3 = nI (u_o (s_n s)) := c.2.1.2.2.2.1
  obtain ⟨m0, k0⟩ := f0 I q_fr.rf
  have p5 : lh_u2 I (65 + 4) 0 0 (78 + 4) 4 = nI (u_o (s_n s)) := m0.2.1.2.2.2.2.1
  by_cases h2 : 2 ≤ u_o (s_n s)
  · have key := q_forI (F := fun n k (K : (Int32 × Int32) × lh_II) => f_LH_choose_13 a b n K.1.1 K.1.2 (nI k) K.2) (N := 4) (P := fun k K => K.1 = q_it (q_bst (fun d => nI (q_pc (q_sm (s_h s) (q_trm (s_n s) d) (q_P (s_h s)))))) 0 k (-1, -1) ∧ ∀ o k, o ≠ a + 7 → o ≠ a + 15 → o ≠ 12 → K.2 o k = I o k) (Q := fun r => r.1 = (q_it (q_bst (fun d => nI (q_pc (q_sm (s_h s) (q_trm (s_n s) d) (q_P (s_h s)))))) 0 4 (-1, -1)).1 ∧ ∀ o k, o ≠ a + 7 → o ≠ a + 15 → o ≠ 12 → r.2 o k = I o k) (fun n k K hk hK => by
      obtain ⟨⟨x, y⟩, K⟩ := K
      obtain ⟨hy, hK⟩ := hK
      simp only at hy hK
      obtain ⟨K1, b1, b2, b3⟩ := e_become (I := K) (o := 8) (o2 := 7) (by omega) (c.2.1.keep (fun k => hK _ _ (by omega) (by omega) (by omega)))
      obtain ⟨K2, d1, d2, d3⟩ := e_trimTo (d := k) b2 h2
      have hK2 : ∀ o k, o ≠ a + 7 → o ≠ a + 15 → o ≠ 12 → K2 o k = I o k := fun o k h1 h2 h3 => by rw [d3 _ _ (by omega), b3 _ _ (by omega), hK _ _ h1 h2 h3]
      have cK : q_cl a K2 (s_h s) := c.1.keep (fun j k' hj hj3 => hK2 _ _ (by omega) (by omega) (by omega))
      obtain ⟨K3, g1, g2⟩ := e_seenBy cK w.1 ha (Or.inr rfl) d2 (q_trm_mw w.2.1 hk)
      have hst : q_it (q_bst (fun d => nI (q_pc (q_sm (s_h s) (q_trm (s_n s) d) (q_P (s_h s)))))) 0 (k + 1) (-1, -1) = q_bst (fun d => nI (q_pc (q_sm (s_h s) (q_trm (s_n s) d) (q_P (s_h s))))) k (x, y) := by rw [q_it_succ, Nat.zero_add, ← hy]
      refine ⟨(q_bst (fun d => nI (q_pc (q_sm (s_h s) (q_trm (s_n s) d) (q_P (s_h s))))) k (x, y), K3), ⟨hst.symm, fun o k' h1 h2 h3 => by show K3 o k' = _; rw [g2 _ _ h1 h2, hK2 _ _ h1 h2 h3]⟩, ?_⟩
      unfold q_bst
      simp (disch := omega) only [f_LH_choose_13, b1, d1, g1, e_bits64' w.1, show ¬ 4 ≤ k by omega, z_leL, z_addL, z_bs, z_gd, z_b1, z_b0, z_10, z_01, eq_self, reduceCtorEq, ↓reduceIte, if_true, if_false, Nat.not_lt_zero, not_true_eq_false, not_false_eq_true, Bool.false_eq_true, Nat.le_refl, Nat.lt_irrefl]
      split <;> rfl) (fun n K hK => by
      obtain ⟨⟨x, y⟩, K⟩ := K
      obtain ⟨hy, hK⟩ := hK
      simp only at hy hK
      refine ⟨(x, K), ?_, by rw [← hy], hK⟩
      simp (disch := omega) only [f_LH_choose_13, z_le, z_lt, z_eq, z_leL, z_leR, z_ltL, z_ltR, z_eqR, z_eqL, z_m1, z_m1s, z_m1le, z_m1lt, z_m1lt0, z_m1le0, z_0lem1, z_m1lek, z_add, z_addL, z_addR, z_mulR, z_sub, z_subL, z_gd, z_ix, z_cl, z_or0, z_add0, z_bs, z_gd, z_b1, z_b0, z_10, z_01, eq_self, reduceCtorEq, ↓reduceIte, if_true, if_false, Nat.not_lt_zero, not_true_eq_false, not_false_eq_true, Bool.false_eq_true, Nat.le_refl, Nat.lt_irrefl]) 4 lh_fuel 0 ((-1, -1), I) rfl (by decide) ⟨rfl, fun _ _ _ _ _ => rfl⟩
    obtain ⟨⟨r, I1⟩, e1, hr, hI1⟩ := key
    simp only at hr hI1
    have e1' : f_LH_choose_13 a b lh_fuel (-1) (-1) 0 I = some (r, I1) := e1
    have k1 := fc I1 hI1
    obtain ⟨m', k2⟩ := f0 I1 k1
    have p5' : lh_u2 I1 (65 + 4) 0 0 (78 + 4) 4 = nI (u_o (s_n s)) := m'.2.1.2.2.2.2.1
    have key2 := q_forI (F := fun n k (K : (Int32 × Int32) × lh_II) => f_LM_choose_17 n K.1.1 K.1.2 (nI k) K.2) (N := 4) (P := fun k K => K.1 = q_it (q_bst (fun d => nI (q_pc (q_sm (s_h s) (q_trm (s_n s) d) (q_P (s_h s)))))) 0 k (-1, -1) ∧ ∀ o k, o ≠ 80 → o ≠ 81 → ¬ (o = 82 ∧ 672 ≤ k) → K.2 o k = lh_u2 I1 (65 + 4) 0 0 o k) (Q := fun r => r.1 = (q_it (q_bst (fun d => nI (q_pc (q_sm (s_h s) (q_trm (s_n s) d) (q_P (s_h s)))))) 0 4 (-1, -1)).1 ∧ ∀ o k, o ≠ 80 → o ≠ 81 → ¬ (o = 82 ∧ 672 ≤ k) → r.2 o k = lh_u2 I1 (65 + 4) 0 0 o k) (fun n k K hk hK => by
      obtain ⟨⟨x, y⟩, K⟩ := K
      obtain ⟨hy, hK⟩ := hK
      simp only at hy hK
      obtain ⟨K1, b1, b2, b3⟩ := m_copyM (J := K) (x := 0) (y := 672) (by omega) (by omega) (by omega) (m'.2.1.keep (fun k _ => hK _ _ (by omega) (by omega) (by omega)))
      have b1' : f_LM_copies 0 672 7 K = some K1 := b1
      obtain ⟨K2, d1, d2, d3⟩ := m_trims (d := k) (by omega) b2 h2
      have d1' : f_LM_trims 672 (nI k) K1 = some K2 := d1
      have hK2 : ∀ o k, o ≠ 80 → o ≠ 81 → ¬ (o = 82 ∧ 672 ≤ k) → K2 o k = lh_u2 I1 (65 + 4) 0 0 o k := fun o k h1 h2 h3 => by rw [d3 _ _ (by omega), b3 _ _ (by omega), hK _ _ h1 h2 h3]
      have mK : q_md K2 (s_h s) := m'.1.keep w.1 (fun k _ => hK2 _ _ (by omega) (by omega) (by omega)) (fun k _ => hK2 _ _ (by omega) (by omega) (by omega)) (fun k _ => hK2 _ _ (by omega) (by omega) (by omega))
      obtain ⟨K3, g1, g2⟩ := m_seenNow mK w.1 (by omega) d2 (q_trm_mw w.2.1 hk)
      have g1' : f_LM_seenNow 672 K2 = _ := g1
      have hst : q_it (q_bst (fun d => nI (q_pc (q_sm (s_h s) (q_trm (s_n s) d) (q_P (s_h s)))))) 0 (k + 1) (-1, -1) = q_bst (fun d => nI (q_pc (q_sm (s_h s) (q_trm (s_n s) d) (q_P (s_h s))))) k (x, y) := by rw [q_it_succ, Nat.zero_add, ← hy]
      refine ⟨(q_bst (fun d => nI (q_pc (q_sm (s_h s) (q_trm (s_n s) d) (q_P (s_h s))))) k (x, y), K3), ⟨hst.symm, fun o k' h1 h2 h3 => by show K3 o k' = _; rw [g2 _ _ h1 h2, hK2 _ _ h1 h2 h3]⟩, ?_⟩
      unfold q_bst
      simp (disch := omega) only [f_LM_choose_17, b1', d1', g1', m_bits64 w.1, show ¬ 4 ≤ k by omega, z_leL, z_addL, z_bs, z_gd, z_b1, z_b0, z_10, z_01, eq_self, reduceCtorEq, ↓reduceIte, if_true, if_false, Nat.not_lt_zero, not_true_eq_false, not_false_eq_true, Bool.false_eq_true, Nat.le_refl, Nat.lt_irrefl]
      split <;> rfl) (fun n K hK => by
      obtain ⟨⟨x, y⟩, K⟩ := K
      obtain ⟨hy, hK⟩ := hK
      simp only at hy hK
      refine ⟨(x, K), ?_, by rw [← hy], hK⟩
      simp (disch := omega) only [f_LM_choose_17, z_le, z_lt, z_eq, z_leL, z_leR, z_ltL, z_ltR, z_eqR, z_eqL, z_m1, z_m1s, z_m1le, z_m1lt, z_m1lt0, z_m1le0, z_0lem1, z_m1lek, z_add, z_addL, z_addR, z_mulR, z_sub, z_subL, z_gd, z_ix, z_cl, z_or0, z_add0, z_bs, z_gd, z_b1, z_b0, z_10, z_01, eq_self, reduceCtorEq, ↓reduceIte, if_true, if_false, Nat.not_lt_zero, not_true_eq_false, not_false_eq_true, Bool.false_eq_true, Nat.le_refl, Nat.lt_irrefl]) 4 lh_fuel 0 ((-1, -1), lh_u2 I1 (65 + 4) 0 0) rfl (by decide) ⟨rfl, fun _ _ _ _ _ => rfl⟩
    obtain ⟨⟨r2, J1⟩, e2, hr2, hJ1⟩ := key2
    simp only at hr2 hJ1
    have e2' : f_LM_choose_17 lh_fuel (-1) (-1) 0 (lh_u2 I1 (65 + 4) 0 0) = some (r2, J1) := e2
    refine ⟨(r, I1), (r2, J1), ?_, ?_, by rw [hr, hr2], hi.en (fm _ _ k2 hJ1)⟩
    · simp (disch := omega) only [f_LH_choose, n4, h2, e1', z_le, z_lt, z_eq, z_leL, z_leR, z_ltL, z_ltR, z_eqR, z_eqL, z_m1, z_m1s, z_m1le, z_m1lt, z_m1lt0, z_m1le0, z_0lem1, z_m1lek, z_add, z_addL, z_addR, z_mulR, z_sub, z_subL, z_gd, z_ix, z_cl, z_or0, z_add0, z_bs, z_gd, z_b1, z_b0, z_10, z_01, eq_self, reduceCtorEq, ↓reduceIte, if_true, if_false, Nat.not_lt_zero, not_true_eq_false, not_false_eq_true, Bool.false_eq_true, Nat.le_refl, Nat.lt_irrefl]
    · simp (disch := omega) only [f_LM_choose, p5', h2, e2', z_le, z_lt, z_eq, z_leL, z_leR, z_ltL, z_ltR, z_eqR, z_eqL, z_m1, z_m1s, z_m1le, z_m1lt, z_m1lt0, z_m1le0, z_0lem1, z_m1lek, z_add, z_addL, z_addR, z_mulR, z_sub, z_subL, z_gd, z_ix, z_cl, z_or0, z_add0, z_bs, z_gd, z_b1, z_b0, z_10, z_01, eq_self, reduceCtorEq, ↓reduceIte, if_true, if_false, Nat.not_lt_zero, not_true_eq_false, not_false_eq_true, Bool.false_eq_true, Nat.le_refl, Nat.lt_irrefl]
  · refine ⟨(-1, I), (-1, lh_u2 I (65 + 4) 0 0), ?_, ?_, rfl, hi.en k0⟩
    · simp (disch := omega) only [f_LH_choose, n4, h2, z_le, z_lt, z_eq, z_leL, z_leR, z_ltL, z_ltR, z_eqR, z_eqL, z_m1, z_m1s, z_m1le, z_m1lt, z_m1lt0, z_m1le0, z_0lem1, z_m1lek, z_add, z_addL, z_addR, z_mulR, z_sub, z_subL, z_gd, z_ix, z_cl, z_or0, z_add0, z_bs, z_gd, z_b1, z_b0, z_10, z_01, eq_self, reduceCtorEq, ↓reduceIte, if_true, if_false, Nat.not_lt_zero, not_true_eq_false, not_false_eq_true, Bool.false_eq_true, Nat.le_refl, Nat.lt_irrefl]
    · simp (disch := omega) only [f_LM_choose, p5, h2, z_le, z_lt, z_eq, z_leL, z_leR, z_ltL, z_ltR, z_eqR, z_eqL, z_m1, z_m1s, z_m1le, z_m1lt, z_m1lt0, z_m1le0, z_0lem1, z_m1lek, z_add, z_addL, z_addR, z_mulR, z_sub, z_subL, z_gd, z_ix, z_cl, z_or0, z_add0, z_bs, z_gd, z_b1, z_b0, z_10, z_01, eq_self, reduceCtorEq, ↓reduceIte, if_true, if_false, Nat.not_lt_zero, not_true_eq_false, not_false_eq_true, Bool.false_eq_true, Nat.le_refl, Nat.lt_irrefl]
/-! a pillar more hides -/
section Q50
variable {h : lh_H}
theorem q_up_sub {x st st' i : Nat} (hs : ∀ i, st.testBit i = true → st'.testBit i = true) : ∀ {d r y y' : Nat}, (∀ i, y.testBit i = true → y'.testBit i = true) → (q_up h x st' d r y).testBit i = true → (q_up h x st d r y').testBit i = true
  | 0, r, y, y', hy, hb => hy i hb
  | d + 1, r, y, y', hy, hb => by
    have hy2 : ∀ i, (y ||| 2 ^ (x + r)).testBit i = true → (y' ||| 2 ^ (x + r)).testBit i = true := by
      intro j hj
      rw [fb_bit_set] at hj ⊢
      simp only [Bool.or_eq_true] at hj ⊢
      rcases hj with hj | hj
      · exact Or.inl (hy j hj)
      · exact Or.inr hj
    unfold q_up at hb ⊢
    by_cases h1 : q_C h ≤ x + r
    · rw [if_pos h1] at hb ⊢; exact hy i hb
    · rw [if_neg h1] at hb ⊢
      by_cases h2 : st.testBit (x + r) = true
      · rw [if_pos h2]
        rw [if_pos (hs _ h2)] at hb
        exact hy2 i hb
      · rw [if_neg h2]
        by_cases h3 : st'.testBit (x + r) = true
        · rw [if_pos h3] at hb
          rw [q_up_or, Nat.testBit_or, hy2 i hb]; rfl
        · rw [if_neg h3] at hb
          exact q_up_sub hs hy2 hb
theorem q_dn_sub {x st st' i : Nat} (hs : ∀ i, st.testBit i = true → st'.testBit i = true) : ∀ {d r y y' : Nat}, (∀ i, y.testBit i = true → y'.testBit i = true) → (q_dn h x st' d r y).testBit i = true → (q_dn h x st d r y').testBit i = true
  | 0, r, y, y', hy, hb => hy i hb
  | d + 1, r, y, y', hy, hb => by
    have hy2 : ∀ i, (y ||| 2 ^ (x - r)).testBit i = true → (y' ||| 2 ^ (x - r)).testBit i = true := by
      intro j hj
      rw [fb_bit_set] at hj ⊢
      simp only [Bool.or_eq_true] at hj ⊢
      rcases hj with hj | hj
      · exact Or.inl (hy j hj)
      · exact Or.inr hj
    unfold q_dn at hb ⊢
    by_cases h1 : x < r
    · rw [if_pos h1] at hb ⊢; exact hy i hb
    · rw [if_neg h1] at hb ⊢
      by_cases h2 : st.testBit (x - r) = true
      · rw [if_pos h2]
        rw [if_pos (hs _ h2)] at hb
        exact hy2 i hb
      · rw [if_neg h2]
        by_cases h3 : st'.testBit (x - r) = true
        · rw [if_pos h3] at hb
          rw [q_dn_or, Nat.testBit_or, hy2 i hb]; rfl
        · rw [if_neg h3] at hb
          exact q_dn_sub hs hy2 hb
theorem q_lt_sub {x st st' i : Nat} (hs : ∀ i, st.testBit i = true → st'.testBit i = true) (hb : (q_lt h x st').testBit i = true) : (q_lt h x st).testBit i = true :=
  q_dn_sub hs (fun j hj => q_up_sub hs (fun _ hj => hj) hj) hb
theorem q_se_pc (lit x d l u : Nat) (w : q_wf h) : q_pc (q_se h lit x d l u) = fb_ct (fun v => match q_pl h v u with | none => false | some p => lit.testBit p && decide (q_sd h d l (q_ds x p) u = q_dy h v)) (q_N h) := q_pc_mk _ (by have := w.N; omega)
theorem q_left_le (w : q_wf h) (m : lh_Mt) (c : Nat) : q_pc (q_sm h m (q_P h ||| 2 ^ c)) ≤ q_pc (q_sm h m (q_P h)) := by
  unfold q_sm
  split
  · exact Nat.le_refl _
  · rw [q_se_pc _ _ _ _ _ w, q_se_pc _ _ _ _ _ w]
    apply fb_ct_sub
    intro v hv hb
    cases hp : q_pl h v (u_h m) with
    | none => rw [hp] at hb; cases hb
    | some p =>
      rw [hp] at hb
      simp only [Bool.and_eq_true] at hb ⊢
      exact ⟨q_lt_sub (fun i hi => by rw [fb_bit_set, hi]; rfl) hb.1, hb.2⟩
theorem q_sm_pc6 (w : q_wf h) (m : lh_Mt) (st : Nat) : q_pc (q_sm h m st) ≤ 6 := by
  unfold q_sm
  split
  · decide
  · rw [q_se_pc _ _ _ _ _ w]
    exact Nat.le_trans (fb_ct_le _ _) w.N
end Q50
def q_blf (h : lh_H) (m : lh_Mt) (c : Nat) : Nat := q_pc (q_sm h m (q_P h ||| 2 ^ c))
def q_bls (h : lh_H) (m : lh_Mt) (c : Nat) (x : Option (Nat × Nat)) : Option (Nat × Nat) := if (q_P h).testBit c = true then x else match x with
  | none => some (c, q_blf h m c)
  | some (b, f) => if f ≤ q_blf h m c then some (b, f) else some (c, q_blf h m c)
def q_blc (A : Int32) (g : Nat → Int32) : Option (Nat × Nat) → Int32 × Int32
  | none => (-1, A)
  | some (b, f) => (nI b, g f)
theorem p_blot : lh_P30 lh_inv := by
  intro t a b a2 b2 I L hi
  obtain ⟨s, w, c, m, ha, fc, f0, fm⟩ := hi.opx
  have hC := w.1.C
  have hP := w.1.P12
  have hA := q_sm_pc6 w.1 (s_n s) (q_P (s_h s))
  have hleft : ∀ k, q_blf (s_h s) (s_n s) k ≤ q_pc (q_sm (s_h s) (s_n s) (q_P (s_h s))) := q_left_le w.1 (s_n s)
  obtain ⟨A, hAe⟩ : ∃ A, A = q_pc (q_sm (s_h s) (s_n s) (q_P (s_h s))) := ⟨_, rfl⟩
  rw [← hAe] at hA hleft
  have hinv : ∀ k, ∀ b f, q_it (q_bls (s_h s) (s_n s)) 0 k none = some (b, f) → f ≤ A := by
    intro k
    induction k with
    | zero => intro b f e; cases e
    | succ k ih =>
      intro b f e
      rw [q_it_succ, Nat.zero_add] at e
      unfold q_bls at e
      split at e
      · exact ih b f e
      · split at e
        · cases e; exact hleft k
        · next b' f' e' =>
          split at e
          · cases e; exact ih _ _ e'
          · cases e; exact hleft k
  have h4k : ∀ k, k < q_C (s_h s) → q_P (s_h s) ||| 2 ^ k < 4096 := fun k hk => Nat.or_lt_two_pow (n := 12) hP (Nat.pow_lt_pow_right (by decide) (by omega))
  have key := q_forI (F := fun n k (K : Option (Nat × Nat) × lh_II) => f_LH_blot_6 a b n (q_blc 7 nI K.1).1 (q_blc 7 nI K.1).2 (nI k) K.2) (N := q_C (s_h s)) (P := fun k K => K.1 = q_it (q_bls (s_h s) (s_n s)) 0 k none ∧ q_fc a I K.2) (Q := fun r => r.1 = (q_blc 7 nI (q_it (q_bls (s_h s) (s_n s)) 0 (q_C (s_h s)) none)).1 ∧ q_fc a I r.2) (fun n k K hk hK => by
    obtain ⟨st, K⟩ := K
    obtain ⟨hy, hK⟩ := hK
    simp only at hy hK
    have cK : q_cl a K (s_h s) := c.1.keep (fun j k' hj hj3 => hK _ _ (by omega) (by omega))
    have hst : q_it (q_bls (s_h s) (s_n s)) 0 (k + 1) none = q_bls (s_h s) (s_n s) k st := by rw [q_it_succ, Nat.zero_add, ← hy]
    rw [hst]
    cases hp : (q_P (s_h s)).testBit k with
    | true =>
      refine ⟨(st, K), ⟨by show st = _; unfold q_bls; rw [hp, if_pos rfl], hK⟩, ?_⟩
      simp (disch := omega) only [f_LH_blot_6, cK.C, e_hasPillar cK w.1 hk, hp, show ¬ q_C (s_h s) ≤ k by omega, z_le, z_addL, z_bs, z_gd, z_b1, z_b0, z_10, z_01, eq_self, reduceCtorEq, ↓reduceIte, if_true, if_false, Nat.not_lt_zero, not_true_eq_false, not_false_eq_true, Bool.false_eq_true, Nat.le_refl, Nat.lt_irrefl]
    | false =>
      have h4 := h4k k hk
      obtain ⟨K', g1, g2⟩ := e_seenBehind cK w.1 (st := q_P (s_h s) ||| 2 ^ k) ha (Or.inl rfl) (c.2.1.keep (fun k => hK _ _ (by omega) (by omega))) w.2.1 (by omega)
      have hl := hleft k
      have eb := e_bits64' w.1 (s_n s) (q_P (s_h s) ||| 2 ^ k)
      rw [show q_pc (q_sm (s_h s) (s_n s) (q_P (s_h s) ||| 2 ^ k)) = q_blf (s_h s) (s_n s) k from rfl] at eb
      refine ⟨(q_bls (s_h s) (s_n s) k st, K'), ⟨rfl, fun o k h1 h2 => by show K' o k = _; rw [g2 _ _ h1 h2, hK _ _ h1 h2]⟩, ?_⟩
      unfold q_bls
      rw [hp, if_neg (show ¬ false = true by decide)]
      simp (disch := omega) only [f_LH_blot_6, cK.C, cK.P, e_hasPillar cK w.1 hk, hp, z_sh1, z_or, g1, eb, show ¬ q_C (s_h s) ≤ k by omega, z_le, z_addL, z_bs, z_gd, z_b1, z_b0, z_10, z_01, eq_self, reduceCtorEq, ↓reduceIte, if_true, if_false, Nat.not_lt_zero, not_true_eq_false, not_false_eq_true, Bool.false_eq_true, Nat.le_refl, Nat.lt_irrefl]
      cases st with
      | none =>
        simp (disch := omega) only [q_blc, z_leL, show ¬ 7 ≤ q_blf (s_h s) (s_n s) k by omega, z_bs, z_gd, z_b1, z_b0, z_10, z_01, eq_self, reduceCtorEq, ↓reduceIte, if_true, if_false, Nat.not_lt_zero, not_true_eq_false, not_false_eq_true, Bool.false_eq_true, Nat.le_refl, Nat.lt_irrefl]
      | some bf =>
        obtain ⟨b', f⟩ := bf
        have hf := hinv k b' f hy.symm
        simp (disch := omega) only [q_blc, z_le]
        by_cases h6 : f ≤ q_blf (s_h s) (s_n s) k
        · rw [if_pos h6, if_pos h6]
        · rw [if_neg h6, if_neg h6]) (fun n K hK => by
    obtain ⟨st, K⟩ := K
    obtain ⟨hy, hK⟩ := hK
    simp only at hy hK
    have cK : q_cl a K (s_h s) := c.1.keep (fun j k' hj hj3 => hK _ _ (by omega) (by omega))
    refine ⟨((q_blc 7 nI st).1, K), ?_, by rw [← hy], hK⟩
    simp (disch := omega) only [f_LH_blot_6, cK.C, z_le, z_lt, z_eq, z_leL, z_leR, z_ltL, z_ltR, z_eqR, z_eqL, z_m1, z_m1s, z_m1le, z_m1lt, z_m1lt0, z_m1le0, z_0lem1, z_m1lek, z_add, z_addL, z_addR, z_mulR, z_sub, z_subL, z_gd, z_ix, z_cl, z_or0, z_add0, z_bs, z_gd, z_b1, z_b0, z_10, z_01, eq_self, reduceCtorEq, ↓reduceIte, if_true, if_false, Nat.not_lt_zero, not_true_eq_false, not_false_eq_true, Bool.false_eq_true, Nat.le_refl, Nat.lt_irrefl]) (q_C (s_h s)) lh_fuel 0 (none, I) (Nat.zero_add _) (by unfold lh_fuel; omega) ⟨rfl, fun _ _ _ _ => rfl⟩
  obtain ⟨⟨r, I1⟩, e1, hr, hI1⟩ := key
  simp only at hr hI1
  have e1' : f_LH_blot_6 a b lh_fuel (-1) 7 0 I = some (r, I1) := e1
  have k1 := fc I1 (fun o k h1 h2 _ => hI1 o k h1 h2)
  obtain ⟨m', k2⟩ := f0 I1 k1
  obtain ⟨w1, w2, w3, w4, w5, w6⟩ := w.2.1
  have key2 := q_forI (F := fun n k (K : Option (Nat × Nat) × lh_II) => f_LM_blot_9 n (q_blc (-1) (fun f => nI (A - f)) K.1).1 (q_blc (-1) (fun f => nI (A - f)) K.1).2 (nI k) K.2) (N := q_C (s_h s)) (P := fun k K => K.1 = q_it (q_bls (s_h s) (s_n s)) 0 k none ∧ q_fm (lh_u2 I1 (65 + 4) 0 0) K.2) (Q := fun r => r.1 = (q_blc (-1) (fun f => nI (A - f)) (q_it (q_bls (s_h s) (s_n s)) 0 (q_C (s_h s)) none)).1 ∧ q_fm (lh_u2 I1 (65 + 4) 0 0) r.2) (fun n k K hk hK => by
    obtain ⟨st, K⟩ := K
    obtain ⟨hy, hK⟩ := hK
    simp only at hy hK
    have hkeep : ∀ K', q_fm (lh_u2 I1 (65 + 4) 0 0) K' → q_md K' (s_h s) ∧ q_mm K' 0 (s_n s) := fun K' hK' => ⟨m'.1.keep w.1 (fun k _ => hK' _ _ (by omega) (by omega)) (fun k _ => hK' _ _ (by omega) (by omega)) (fun k _ => hK' _ _ (by omega) (by omega)), m'.2.1.keep (fun k _ => hK' _ _ (by omega) (by omega))⟩
    obtain ⟨mK, mm⟩ := hkeep K hK
    have p5' : K (78 + 4) 4 = nI (u_o (s_n s)) := mm.2.2.2.2.1
    have p6' : K (78 + 4) 5 = nI (u_c (s_n s)) := mm.2.2.2.2.2.1
    have hst : q_it (q_bls (s_h s) (s_n s)) 0 (k + 1) none = q_bls (s_h s) (s_n s) k st := by rw [q_it_succ, Nat.zero_add, ← hy]
    rw [hst]
    have hm1 : ∀ st : Option (Nat × Nat), (∀ b f, st = some (b, f) → f ≤ A) → ((-1 : Int32) ≤ (q_blc (-1) (fun f => nI (A - f)) st).2) = True := by
      intro st hst
      cases st with
      | none => exact (by decide : ((-1 : Int32) ≤ -1) = True)
      | some bf => obtain ⟨b', f⟩ := bf; exact z_m1lek (by omega)
    cases hp : (q_P (s_h s)).testBit k with
    | true =>
      refine ⟨(st, K), ⟨by show st = _; unfold q_bls; rw [hp, if_pos rfl], hK⟩, ?_⟩
      have hq := hm1 st (fun b f e => hinv k b f (by rw [← hy, e]))
      by_cases ho : u_o (s_n s) = 0
      · simp (disch := omega) only [f_LM_blot_9, m_cells mK, m_isPillar mK w.1 hk, p5', ho, hp, hq, show ¬ q_C (s_h s) ≤ k by omega, z_le, z_leR, z_addL, z_bs, z_gd, z_b1, z_b0, z_10, z_01, eq_self, reduceCtorEq, ↓reduceIte, if_true, if_false, Nat.not_lt_zero, not_true_eq_false, not_false_eq_true, Bool.false_eq_true, Nat.le_refl, Nat.lt_irrefl]
      · simp (disch := omega) only [f_LM_blot_9, m_cells mK, m_isPillar mK w.1 hk, p5', p6', m_litFromM mK w.1 w1 hk, hp, hq, show ¬ q_C (s_h s) ≤ k by omega, show ¬ u_o (s_n s) ≤ 0 by omega, z_le, z_leR, z_addL, z_bs, z_gd, z_b1, z_b0, z_10, z_01, eq_self, reduceCtorEq, ↓reduceIte, if_true, if_false, Nat.not_lt_zero, not_true_eq_false, not_false_eq_true, Bool.false_eq_true, Nat.le_refl, Nat.lt_irrefl]
    | false =>
      obtain ⟨K1, g1, g2⟩ := m_seenNow mK w.1 (b0 := 0) (by omega) mm w.2.1
      have g1' : f_LM_seenNow 0 K = _ := g1
      have hK1 : q_fm (lh_u2 I1 (65 + 4) 0 0) K1 := fun o k h1 h2 => by rw [g2 o k h1 h2, hK o k h1 h2]
      obtain ⟨mK1, mm1⟩ := hkeep K1 hK1
      have q6' : K1 (78 + 4) 5 = nI (u_c (s_n s)) := mm1.2.2.2.2.2.1
      have hl := hleft k
      have ebA := m_bits64 w.1 (s_n s) (q_P (s_h s))
      rw [← hAe] at ebA
      have eb := m_bits64 w.1 (s_n s) (q_P (s_h s) ||| 2 ^ k)
      rw [show q_pc (q_sm (s_h s) (s_n s) (q_P (s_h s) ||| 2 ^ k)) = q_blf (s_h s) (s_n s) k from rfl] at eb
      have fin : ∀ lit, lit < 2147483648 → q_se (s_h s) lit (u_c (s_n s)) (u_d (s_n s)) (u_o (s_n s)) (u_h (s_n s)) = q_sm (s_h s) (s_n s) (q_P (s_h s) ||| 2 ^ k) → ∃ K', f_LM_seenFrom 0 (nI (u_c (s_n s))) (nI lit) K1 = some (nI (q_sm (s_h s) (s_n s) (q_P (s_h s) ||| 2 ^ k)), K') ∧ q_fm (lh_u2 I1 (65 + 4) 0 0) K' := by
        intro lit hl e
        obtain ⟨q1, q2, q3, q4, q5, q6, q7⟩ := mm1
        obtain ⟨K', g3, g4⟩ := m_seenFrom mK1 w.1 (b0 := 0) (lit := lit) (x := u_c (s_n s)) (by omega) q4 q5 q3 w3 w1 w2 hl
        rw [e] at g3
        exact ⟨K', g3, fun o k h1 h2 => by rw [g4 o k h1 h2, hK1 o k h1 h2]⟩
      have last : ∀ K' : lh_II, (if nI (A - q_blf (s_h s) (s_n s) k) ≤ (q_blc (-1) (fun f => nI (A - f)) st).2 then f_LM_blot_9 n (q_blc (-1) (fun f => nI (A - f)) st).1 (q_blc (-1) (fun f => nI (A - f)) st).2 (nI (k + 1)) K' else f_LM_blot_9 n (nI k) (nI (A - q_blf (s_h s) (s_n s) k)) (nI (k + 1)) K') = f_LM_blot_9 n (q_blc (-1) (fun f => nI (A - f)) (q_bls (s_h s) (s_n s) k st)).1 (q_blc (-1) (fun f => nI (A - f)) (q_bls (s_h s) (s_n s) k st)).2 (nI (k + 1)) K' := by
        intro K'
        unfold q_bls
        rw [hp, if_neg (show ¬ false = true by decide)]
        cases st with
        | none =>
          simp (disch := omega) only [q_blc, z_m1le, if_false]
        | some bf =>
          obtain ⟨b', f⟩ := bf
          have hf := hinv k b' f hy.symm
          simp (disch := omega) only [q_blc, z_le]
          by_cases h6 : f ≤ q_blf (s_h s) (s_n s) k
          · rw [if_pos (show A - q_blf (s_h s) (s_n s) k ≤ A - f by omega), if_pos h6]
          · rw [if_neg (show ¬ A - q_blf (s_h s) (s_n s) k ≤ A - f by omega), if_neg h6]
      by_cases ho : u_o (s_n s) = 0
      · obtain ⟨K', g3, g4⟩ := fin 0 (by omega) (by rw [q_se_0]; unfold q_sm; rw [if_pos ho])
        have g3' : f_LM_seenFrom 0 (nI (u_c (s_n s))) 0 K1 = _ := g3
        refine ⟨(q_bls (s_h s) (s_n s) k st, K'), ⟨rfl, g4⟩, ?_⟩
        simp (disch := omega) only [f_LM_blot_9, m_cells mK, m_isPillar mK w.1 hk, p5', ho, hp, g1', q6', g3', ebA, eb, z_sub, show ¬ q_C (s_h s) ≤ k by omega, z_le, z_leR, z_addL, z_bs, z_gd, z_b1, z_b0, z_10, z_01, eq_self, reduceCtorEq, ↓reduceIte, if_true, if_false, Nat.not_lt_zero, not_true_eq_false, not_false_eq_true, Bool.false_eq_true, Nat.le_refl, Nat.lt_irrefl]
        exact last K'
      · have hl2 := q_lt_lt w.1 (st := q_P (s_h s) ||| 2 ^ k) w1
        obtain ⟨K', g3, g4⟩ := fin (q_lt (s_h s) (u_c (s_n s)) (q_P (s_h s) ||| 2 ^ k)) (by omega) (by unfold q_sm; rw [if_neg ho])
        refine ⟨(q_bls (s_h s) (s_n s) k st, K'), ⟨rfl, g4⟩, ?_⟩
        simp (disch := omega) only [f_LM_blot_9, m_cells mK, m_isPillar mK w.1 hk, p5', p6', m_litFromM mK w.1 w1 hk, hp, g1', q6', g3, ebA, eb, z_sub, show ¬ q_C (s_h s) ≤ k by omega, show ¬ u_o (s_n s) ≤ 0 by omega, z_le, z_leR, z_addL, z_bs, z_gd, z_b1, z_b0, z_10, z_01, eq_self, reduceCtorEq, ↓reduceIte, if_true, if_false, Nat.not_lt_zero, not_true_eq_false, not_false_eq_true, Bool.false_eq_true, Nat.le_refl, Nat.lt_irrefl]
        exact last K') (fun n K hK => by
    obtain ⟨st, K⟩ := K
    obtain ⟨hy, hK⟩ := hK
    simp only at hy hK
    have mK : q_md K (s_h s) := m'.1.keep w.1 (fun k _ => hK _ _ (by omega) (by omega)) (fun k _ => hK _ _ (by omega) (by omega)) (fun k _ => hK _ _ (by omega) (by omega))
    refine ⟨((q_blc (-1) (fun f => nI (A - f)) st).1, K), ?_, by rw [← hy], hK⟩
    simp (disch := omega) only [f_LM_blot_9, m_cells mK, z_le, z_lt, z_eq, z_leL, z_leR, z_ltL, z_ltR, z_eqR, z_eqL, z_m1, z_m1s, z_m1le, z_m1lt, z_m1lt0, z_m1le0, z_0lem1, z_m1lek, z_add, z_addL, z_addR, z_mulR, z_sub, z_subL, z_gd, z_ix, z_cl, z_or0, z_add0, z_bs, z_gd, z_b1, z_b0, z_10, z_01, eq_self, reduceCtorEq, ↓reduceIte, if_true, if_false, Nat.not_lt_zero, not_true_eq_false, not_false_eq_true, Bool.false_eq_true, Nat.le_refl, Nat.lt_irrefl]) (q_C (s_h s)) lh_fuel 0 (none, lh_u2 I1 (65 + 4) 0 0) (Nat.zero_add _) (by unfold lh_fuel; omega) ⟨rfl, fun _ _ _ _ => rfl⟩
  obtain ⟨⟨r2, J1⟩, e2, hr2, hJ1⟩ := key2
  simp only at hr2 hJ1
  have e2' : f_LM_blot_9 lh_fuel (-1) (-1) 0 (lh_u2 I1 (65 + 4) 0 0) = some (r2, J1) := e2
  refine ⟨(r, I1), (r2, J1), by rw [f_LH_blot, e1', q_bs], by rw [f_LM_blot, e2', q_bs], ?_, hi.en (fm _ _ k2 (fun o k h1 h2 _ => hJ1 o k h1 h2))⟩
  rw [hr, hr2]
  cases q_it (q_bls (s_h s) (s_n s)) 0 (q_C (s_h s)) none with
  | none => rfl
  | some bf => rfl
