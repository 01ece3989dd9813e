/-! the reference's hall is taken over; the class begins anew -/
theorem m_copy40 (J : lh_II) : ∃ J', f_LM_hall_40 lh_fuel 0 J = some J' ∧ (∀ k, k < 100 → J' (71 + 4) k = J (71 + 4) (100 + k)) ∧ ∀ o k, ¬ (o = 75 ∧ k < 100) → J' o k = J o k := by
  exact q_forI (F := fun f j (K : lh_II) => f_LM_hall_40 f (nI j) K) (N := 100) (P := fun j K => (∀ k, k < j → K (71 + 4) k = J (71 + 4) (100 + k)) ∧ ∀ o k, ¬ (o = 75 ∧ k < 100) → K o k = J o k) (Q := fun K => (∀ k, k < 100 → K (71 + 4) k = J (71 + 4) (100 + k)) ∧ ∀ o k, ¬ (o = 75 ∧ k < 100) → K o k = J o k) (fun f j K hj hK => by
    obtain ⟨p1, p2⟩ := hK
    refine ⟨lh_u2 K (71 + 4) j (K (71 + 4) (100 + j)), ⟨fun k hk => ?_, fun o k h => ?_⟩, ?_⟩
    · by_cases e : k = j
      · subst e; rw [q_u2s, p2 _ _ (by omega)]
      · rw [q_u2o (by omega)]; exact p1 k (by omega)
    · rw [q_u2o (by omega)]; exact p2 o k h
    · show f_LM_hall_40 (f + 1) (nI j) K = f_LM_hall_40 f (nI (j + 1)) _
      rw [f_LM_hall_40]
      simp (disch := omega) only [z_leL, z_addR, z_addL, z_ix, z_cl, show ¬ 100 ≤ j by omega, z_bs, z_gd, z_b1, z_b0, z_10, z_01, eq_self, reduceCtorEq, ↓reduceIte, if_true, if_false, Nat.not_lt_zero, not_true_eq_false, not_false_eq_true, Bool.false_eq_true, Nat.le_refl, Nat.lt_irrefl]) (fun f K hK => by
    refine ⟨K, ?_, hK⟩
    show f_LM_hall_40 (f + 1) (nI 100) K = _
    rw [f_LM_hall_40]
    simp (disch := omega) only [z_leL, z_bs, z_gd, z_b1, z_b0, z_10, z_01, eq_self, reduceCtorEq, ↓reduceIte, if_true, if_false, Nat.not_lt_zero, not_true_eq_false, not_false_eq_true, Bool.false_eq_true, Nat.le_refl, Nat.lt_irrefl]) 100 lh_fuel 0 J rfl (by decide) ⟨fun k hk => absurd hk (by omega), fun _ _ _ => rfl⟩
theorem m_copy57 {J : lh_II} {c : Nat} (hc : J (65 + 4) 13 = nI c) (h : c ≤ 1100) : ∃ J', f_LM_hall_57 lh_fuel 0 J = some J' ∧ (∀ k, k < c → J' (72 + 4) k = J (72 + 4) (1100 + k) ∧ J' (73 + 4) k = J (73 + 4) (1100 + k)) ∧ ∀ o k, ¬ (o = 76 ∧ k < 1100) → ¬ (o = 77 ∧ k < 1100) → J' o k = J o k := by
  exact q_forI (F := fun f j (K : lh_II) => f_LM_hall_57 f (nI j) K) (N := c) (P := fun j K => (∀ k, k < j → K (72 + 4) k = J (72 + 4) (1100 + k) ∧ K (73 + 4) k = J (73 + 4) (1100 + k)) ∧ ∀ o k, ¬ (o = 76 ∧ k < 1100) → ¬ (o = 77 ∧ k < 1100) → K o k = J o k) (Q := fun K => (∀ k, k < c → K (72 + 4) k = J (72 + 4) (1100 + k) ∧ K (73 + 4) k = J (73 + 4) (1100 + k)) ∧ ∀ o k, ¬ (o = 76 ∧ k < 1100) → ¬ (o = 77 ∧ k < 1100) → K o k = J o k) (fun f j K hj hK => by
    obtain ⟨p1, p2⟩ := hK
    refine ⟨lh_u2 (lh_u2 K (72 + 4) j (K (72 + 4) (1100 + j))) (73 + 4) j (K (73 + 4) (1100 + j)), ⟨fun k hk => ?_, fun o k h1 h2 => ?_⟩, ?_⟩
    · by_cases e : k = j
      · subst e
        refine ⟨?_, ?_⟩
        · rw [q_u2o (by omega), q_u2s, p2 _ _ (by omega) (by omega)]
        · rw [q_u2s, p2 _ _ (by omega) (by omega)]
      · refine ⟨?_, ?_⟩
        · rw [q_u2o (by omega), q_u2o (by omega)]; exact (p1 k (by omega)).1
        · rw [q_u2o (by omega), q_u2o (by omega)]; exact (p1 k (by omega)).2
    · rw [q_u2o (by omega), q_u2o (by omega)]; exact p2 o k h1 h2
    · show f_LM_hall_57 (f + 1) (nI j) K = f_LM_hall_57 f (nI (j + 1)) _
      have e13 : K (65 + 4) 13 = nI c := by rw [p2 _ _ (by omega) (by omega)]; exact hc
      rw [f_LM_hall_57]
      simp (disch := omega) only [e13, z_le, z_addR, z_addL, z_ix, z_cl, q_u2o, show ¬ c ≤ j by omega, z_bs, z_gd, z_b1, z_b0, z_10, z_01, eq_self, reduceCtorEq, ↓reduceIte, if_true, if_false, Nat.not_lt_zero, not_true_eq_false, not_false_eq_true, Bool.false_eq_true, Nat.le_refl, Nat.lt_irrefl]) (fun f K hK => by
    refine ⟨K, ?_, hK⟩
    show f_LM_hall_57 (f + 1) (nI c) K = _
    have e13 : K (65 + 4) 13 = nI c := by rw [hK.2 _ _ (by omega) (by omega)]; exact hc
    rw [f_LM_hall_57]
    simp (disch := omega) only [e13, z_le, z_bs, z_gd, z_b1, z_b0, z_10, z_01, eq_self, reduceCtorEq, ↓reduceIte, if_true, if_false, Nat.not_lt_zero, not_true_eq_false, not_false_eq_true, Bool.false_eq_true, Nat.le_refl, Nat.lt_irrefl]) c lh_fuel 0 J (by omega) (by unfold lh_fuel; omega) ⟨fun k hk => absurd hk (by omega), fun _ _ _ _ => rfl⟩
