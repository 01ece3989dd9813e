theorem m_starts {J : lh_II} {h : lh_H} (m : q_md J h) (w : q_wf h) {b0 : Nat} (hb : b0 ≤ 704) : ∃ J', f_LM_starts (nI b0) J = some J' ∧ q_mm J' b0 (q_bg h) ∧ ∀ o k, ¬ (o = 82 ∧ b0 ≤ k ∧ k < b0 + 7) → J' o k = J o k := by
  have hC := w.C
  have key := q_forI (F := fun f k (K : lh_II) => f_LM_starts_2 (nI b0) f (nI k) K) (N := 7) (P := fun k K => (∀ i, i < k → K 82 (b0 + i) = 0) ∧ ∀ o i, ¬ (o = 82 ∧ b0 ≤ i ∧ i < b0 + 7) → K o i = J o i) (Q := fun K => (∀ i, i < 7 → K 82 (b0 + i) = 0) ∧ ∀ o i, ¬ (o = 82 ∧ b0 ≤ i ∧ i < b0 + 7) → K o i = J o i) (fun f k K hk hK => by
    obtain ⟨h1, h2⟩ := hK
    refine ⟨lh_u2 K (78 + 4) (b0 + k) 0, ⟨fun i hi => ?_, fun o i h3 => ?_⟩, ?_⟩
    · by_cases e2 : i = k
      · subst e2; exact q_u2s
      · rw [q_u2o (by omega)]; exact h1 i (by omega)
    · rw [q_u2o (by omega)]; exact h2 o i h3
    · simp (disch := omega) only [f_LM_starts_2, show ¬ 7 ≤ k by omega, z_le, z_lt, z_eq, z_leL, z_leR, z_ltL, z_ltR, z_eqR, z_eqL, z_m1, z_m1s, z_m1le, z_m1lt, z_m1lt0, z_m1le0, z_0lem1, z_m1lek, z_add, z_addL, z_addR, z_mulR, z_sub, z_subL, z_gd, z_ix, z_cl, z_or0, z_add0, z_bs, z_gd, z_b1, z_b0, z_10, z_01, eq_self, reduceCtorEq, ↓reduceIte, if_true, if_false, Nat.not_lt_zero, not_true_eq_false, not_false_eq_true, Bool.false_eq_true, Nat.le_refl, Nat.lt_irrefl]) (fun f K hK => by
    refine ⟨K, ?_, hK⟩
    simp (disch := omega) only [f_LM_starts_2, z_le, z_lt, z_eq, z_leL, z_leR, z_ltL, z_ltR, z_eqR, z_eqL, z_m1, z_m1s, z_m1le, z_m1lt, z_m1lt0, z_m1le0, z_0lem1, z_m1lek, z_add, z_addL, z_addR, z_mulR, z_sub, z_subL, z_gd, z_ix, z_cl, z_or0, z_add0, z_bs, z_gd, z_b1, z_b0, z_10, z_01, eq_self, reduceCtorEq, ↓reduceIte, if_true, if_false, Nat.not_lt_zero, not_true_eq_false, not_false_eq_true, Bool.false_eq_true, Nat.le_refl, Nat.lt_irrefl]) 7 lh_fuel 0 J rfl (by decide) ⟨fun i hi => absurd hi (by omega), fun _ _ _ => rfl⟩
  obtain ⟨K, e, h1, h2⟩ := key
  have e' : f_LM_starts_2 (nI b0) lh_fuel 0 J = some K := e
  obtain ⟨g, g1, g2, g3⟩ := m.2.1
  have r4 : K (71 + 4) 4 = nI (q_O h) := by rw [h2 _ _ (by omega)]; exact m.O
  have r5 : K (71 + 4) 5 = nI g := by rw [h2 _ _ (by omega)]; exact g2
  have rC : ∀ x, f_LM_cells (lh_u2 K (78 + 4) (b0 + 4) x) = some (nI (q_C h)) := fun x => by rw [f_LM_cells, q_u2o (by omega), h2 _ _ (by omega), m.C]
  refine ⟨lh_u2 (lh_u2 K (78 + 4) (b0 + 4) (nI (q_O h))) (78 + 4) (b0 + 5) (nI (q_G h)), ?_, ?_, fun o k h3 => by rw [q_u2o (by omega), q_u2o (by omega), h2 _ _ h3]⟩
  · simp (disch := omega) only [f_LM_starts, e', r4, rC, q_u2o, r5, g3, z_le, z_lt, z_eq, z_leL, z_leR, z_ltL, z_ltR, z_eqR, z_eqL, z_m1, z_m1s, z_m1le, z_m1lt, z_m1lt0, z_m1le0, z_0lem1, z_m1lek, z_add, z_addL, z_addR, z_mulR, z_sub, z_subL, z_gd, z_ix, z_cl, z_or0, z_add0, z_bs, z_gd, z_b1, z_b0, z_10, z_01, eq_self, reduceCtorEq, ↓reduceIte, if_true, if_false, Nat.not_lt_zero, not_true_eq_false, not_false_eq_true, Bool.false_eq_true, Nat.le_refl, Nat.lt_irrefl]
    by_cases h5 : q_C h ≤ g
    · rw [if_pos h5, if_neg (by omega)]
    · rw [if_neg h5, if_pos (by omega)]
  · refine ⟨?_, ?_, ?_, ?_, ?_, ?_, ?_⟩
    · rw [q_u2o (by omega), q_u2o (by omega)]; exact h1 0 (by omega)
    · rw [q_u2o (by omega), q_u2o (by omega)]; exact h1 1 (by omega)
    · rw [q_u2o (by omega), q_u2o (by omega)]; exact h1 2 (by omega)
    · rw [q_u2o (by omega), q_u2o (by omega)]; exact h1 3 (by omega)
    · rw [q_u2o (by omega), q_u2s]; rfl
    · rw [q_u2s]; rfl
    · rw [q_u2o (by omega), q_u2o (by omega)]; exact h1 6 (by omega)
