/-! the class begins anew -/
theorem e_anew {a b : Nat} {I : lh_II} {R : lh_Rw} (hq : q_cl a I (r_h R)) (ha : 11 ≤ a ∧ a ≤ 23) (hb : 35 ≤ b ∧ b ≤ 38) : ∃ I', f_LH_beginAnew a b I = some I' ∧ q_mc I' 7 (r_m0 R) ∧ I' (b + 4) 2 = 0 ∧ I' (0 + 4) 12 = 0 ∧ I' (0 + 4) 13 = 15 ∧ I' (0 + 4) 11 = 0 ∧ (∀ j, j < 4 → I' (57 + 2 * j + 4) 1 = 0) ∧ ∀ o k, o ≠ 11 → ¬ (o = b + 4 ∧ k = 2) → ¬ (o = 4 ∧ (k = 11 ∨ k = 12 ∨ k = 13)) → ¬ (61 ≤ o ∧ o ≤ 67 ∧ k = 1) → I' o k = I o k := by
  obtain ⟨I1, hI1⟩ : ∃ I1, I1 = lh_u2 (lh_u2 (lh_u2 (lh_u2 (lh_u2 (lh_u2 (lh_u2 I (7 + 4) 0 (nI (r_cl R (R.1 6)))) (7 + 4) 1 0) (7 + 4) 2 0) (7 + 4) 3 (nI (R.1 5))) (7 + 4) 4 0) (7 + 4) 5 0) (7 + 4) 6 0 := ⟨_, rfl⟩
  have hmb : f_Mo_begin 7 a I = some I1 := by
    unfold f_Mo_begin
    rw [q_u2o (o' := a + 4) (k' := 14) (by omega), q_u2o (o' := a + 4) (k' := 14) (by omega), q_u2o (o' := a + 4) (k' := 14) (by omega), hq.O, hq.G, hI1]
    rfl
  have g1 : ∀ o k, o ≠ 11 → I1 o k = I o k := fun o k h => by rw [hI1, q_u2o (by omega), q_u2o (by omega), q_u2o (by omega), q_u2o (by omega), q_u2o (by omega), q_u2o (by omega), q_u2o (by omega)]
  obtain ⟨I2, hI2⟩ : ∃ I2, I2 = lh_u2 (lh_u2 (lh_u2 (lh_u2 I1 (b + 4) 2 0) (0 + 4) 12 0) (0 + 4) 13 15) (0 + 4) 11 0 := ⟨_, rfl⟩
  obtain ⟨I3, e1, e2, e3⟩ := q_forI (F := fun f j (K : lh_II) => f_LH_beginAnew_20 a b f (nI j) K) (N := 4) (P := fun j K => (∀ i, i < j → K (57 + 2 * i + 4) 1 = 0) ∧ ∀ o k, ¬ (61 ≤ o ∧ o ≤ 67 ∧ k = 1) → K o k = I2 o k) (Q := fun K => (∀ i, i < 4 → K (57 + 2 * i + 4) 1 = 0) ∧ ∀ o k, ¬ (61 ≤ o ∧ o ≤ 67 ∧ k = 1) → K o k = I2 o k) (fun f j K hj hK => by
    obtain ⟨p1, p2⟩ := hK
    refine ⟨lh_u2 K (57 + 2 * j + 4) 1 0, ⟨fun i hi => ?_, fun o k h => ?_⟩, ?_⟩
    · by_cases e : i = j
      · subst e; rw [q_u2s]
      · rw [q_u2o (by omega)]; exact p1 i (by omega)
    · rw [q_u2o (by omega)]; exact p2 o k h
    · show f_LH_beginAnew_20 a b (f + 1) (nI j) K = f_LH_beginAnew_20 a b f (nI (j + 1)) _
      rw [f_LH_beginAnew_20]
      simp (disch := omega) only [z_leL, z_ix, z_cl, z_addL, show ¬ 4 ≤ j by omega, z_bs, z_gd, z_b1, z_b0, z_10, z_01, eq_self, reduceCtorEq, ↓reduceIte, if_true, if_false, Nat.not_lt_zero, not_true_eq_false, not_false_eq_true, Bool.false_eq_true, Nat.le_refl, Nat.lt_irrefl]) (fun f K hK => by
    refine ⟨K, ?_, hK⟩
    show f_LH_beginAnew_20 a b (f + 1) (nI 4) K = _
    rw [f_LH_beginAnew_20]
    simp (disch := omega) only [z_leL, z_bs, z_gd, z_b1, z_b0, z_10, z_01, eq_self, reduceCtorEq, ↓reduceIte, if_true, if_false, Nat.not_lt_zero, not_true_eq_false, not_false_eq_true, Bool.false_eq_true, Nat.le_refl, Nat.lt_irrefl]) 4 lh_fuel 0 I2 rfl (by decide) ⟨fun i hi => absurd hi (by omega), fun _ _ _ => rfl⟩
  have e1' : f_LH_beginAnew_20 a b lh_fuel 0 I2 = some I3 := e1
  refine ⟨I3, by rw [f_LH_beginAnew, hmb, z_bs, ← hI2, e1', z_bs], ⟨?_, ?_, ?_, ?_, ?_, ?_, ?_⟩, ?_, ?_, ?_, ?_, e2, fun o k h1 h2 h3 h4 => ?_⟩
  · rw [e3 _ _ (by omega), hI2, q_u2o (by omega), q_u2o (by omega), q_u2o (by omega), q_u2o (by omega), hI1, q_u2o (by omega), q_u2o (by omega), q_u2o (by omega), q_u2o (by omega), q_u2o (by omega), q_u2o (by omega), q_u2s]; rfl
  · rw [e3 _ _ (by omega), hI2, q_u2o (by omega), q_u2o (by omega), q_u2o (by omega), q_u2o (by omega), hI1, q_u2o (by omega), q_u2o (by omega), q_u2o (by omega), q_u2o (by omega), q_u2o (by omega), q_u2s]; rfl
  · rw [e3 _ _ (by omega), hI2, q_u2o (by omega), q_u2o (by omega), q_u2o (by omega), q_u2o (by omega), hI1, q_u2o (by omega), q_u2o (by omega), q_u2o (by omega), q_u2o (by omega), q_u2s]; rfl
  · rw [e3 _ _ (by omega), hI2, q_u2o (by omega), q_u2o (by omega), q_u2o (by omega), q_u2o (by omega), hI1, q_u2o (by omega), q_u2o (by omega), q_u2o (by omega), q_u2s]; rfl
  · rw [e3 _ _ (by omega), hI2, q_u2o (by omega), q_u2o (by omega), q_u2o (by omega), q_u2o (by omega), hI1, q_u2o (by omega), q_u2o (by omega), q_u2s]; rfl
  · rw [e3 _ _ (by omega), hI2, q_u2o (by omega), q_u2o (by omega), q_u2o (by omega), q_u2o (by omega), hI1, q_u2o (by omega), q_u2s]; rfl
  · rw [e3 _ _ (by omega), hI2, q_u2o (by omega), q_u2o (by omega), q_u2o (by omega), q_u2o (by omega), hI1, q_u2s]; rfl
  · rw [e3 _ _ (by omega), hI2, q_u2o (by omega), q_u2o (by omega), q_u2o (by omega), q_u2s]
  · rw [e3 _ _ (by omega), hI2, q_u2o (by omega), q_u2o (by omega), q_u2s]
  · rw [e3 _ _ (by omega), hI2, q_u2o (by omega), q_u2s]
  · rw [e3 _ _ (by omega), hI2, q_u2s]
  · rw [e3 _ _ h4, hI2, q_u2o (by omega), q_u2o (by omega), q_u2o (by omega), q_u2o (by omega), g1 _ _ h1]
