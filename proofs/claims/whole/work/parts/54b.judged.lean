set_option maxHeartbeats 400000 in
theorem e_play {a b : Nat} {I : lh_II} {h : lh_H} {q : List (Nat × Nat)} (c : q_cl a I h) (w : q_wf h) (ha : a = 11 ∨ a = 23) (hb : b = 35 ∨ b = 38) (hm : q_mc I 8 (q_bg h)) (hq : ∀ x ∈ q, q_ln x) (hl : q.length ≤ 40) (h2 : I (b + 4) 2 = nI q.length) (hk : ∀ k, k < q.length → I (b + 1 + 4) k = nI (q_act (q.getD k (0, 0)).1) ∧ (3 ≤ (q.getD k (0, 0)).1 → I (b + 2 + 4) k = nI (q.getD k (0, 0)).2)) :
    ∃ I', f_Ni_play b a 8 I = some I' ∧ q_mc I' 8 (q_it (q_ju h q) 0 q.length (q_bg h, none, none)).1 ∧ I' (b + 4) 3 = q_e (q_it (q_ju h q) 0 q.length (q_bg h, none, none)).2.1 ∧ I' (b + 4) 4 = q_e (q_it (q_ju h q) 0 q.length (q_bg h, none, none)).2.2 ∧ ∀ o k, o ≠ a + 7 → o ≠ a + 15 → o ≠ 12 → ¬ (o = b + 4 ∧ (k = 3 ∨ k = 4)) → I' o k = I o k := by
  have key := q_forI (F := fun f k (K : lh_II) => f_Ni_play_8 b a 8 f (nI k) K) (N := q.length) (P := fun k K => q_mc K 8 (q_it (q_ju h q) 0 k (q_bg h, none, none)).1 ∧ K (b + 4) 3 = q_e (q_it (q_ju h q) 0 k (q_bg h, none, none)).2.1 ∧ K (b + 4) 4 = q_e (q_it (q_ju h q) 0 k (q_bg h, none, none)).2.2 ∧ ∀ o k, o ≠ a + 7 → o ≠ a + 15 → o ≠ 12 → ¬ (o = b + 4 ∧ (k = 3 ∨ k = 4)) → K o k = I o k) (Q := fun K => q_mc K 8 (q_it (q_ju h q) 0 q.length (q_bg h, none, none)).1 ∧ K (b + 4) 3 = q_e (q_it (q_ju h q) 0 q.length (q_bg h, none, none)).2.1 ∧ K (b + 4) 4 = q_e (q_it (q_ju h q) 0 q.length (q_bg h, none, none)).2.2 ∧ ∀ o k, o ≠ a + 7 → o ≠ a + 15 → o ≠ 12 → ¬ (o = b + 4 ∧ (k = 3 ∨ k = 4)) → K o k = I o k) (fun f k K hkq hK => by
    obtain ⟨p1, p2, p3, p4⟩ := hK
    obtain ⟨ok1, ok2, ok3⟩ := q_ju_ok w hq k (by omega)
    rw [q_it_succ, Nat.zero_add]
    generalize q_it (q_ju h q) 0 k (q_bg h, none, none) = x at *
    obtain ⟨x, zff, zfb⟩ := x
    simp only at p1 p2 p3 ok1 ok2 ok3
    have cK : q_cl a K h := c.keep (fun j k' hj hj3 => p4 _ _ (by omega) (by omega) (by omega) (by omega))
    have hK2 : K (b + 4) 2 = nI q.length := by rw [p4 _ _ (by omega) (by omega) (by omega) (by omega)]; exact h2
    obtain ⟨hk1, hk2⟩ := hk k hkq
    have hK5 : K (b + 1 + 4) k = nI (q_act (q.getD k (0, 0)).1) := by rw [p4 _ _ (by omega) (by omega) (by omega) (by omega)]; exact hk1
    have hK6 : K (b + 2 + 4) k = I (b + 2 + 4) k := p4 _ _ (by omega) (by omega) (by omega) (by omega)
    obtain ⟨l1, l2, l3⟩ := hq _ (q_gQ (d := (0, 0)) hkq)
    unfold q_ju
    generalize q.getD k (0, 0) = zac at *
    obtain ⟨zac, v⟩ := zac
    simp only at hk1 hk2 hK5 l1 l2 l3
    obtain ⟨t1, t2, t3, t4⟩ := q_act_eq zac l1
    by_cases e4 : zac = 4
    · subst e4
      have hv := l3 rfl
      obtain ⟨K', g1, g2, g3⟩ := e_fillBy (x := v) p1 ok1.2.2.2.1 hv.2
      refine ⟨K', ⟨by simp only [if_true]; exact g2, by rw [g3 _ _ (by omega)]; simp only [if_true]; exact p2, by rw [g3 _ _ (by omega)]; simp only [if_true]; exact p3, fun o k h1 h2 h3 h4 => by rw [g3 _ _ (by omega)]; exact p4 _ _ h1 h2 h3 h4⟩, ?_⟩
      simp (disch := omega) only [f_Ni_play_8, hK2, hK5, hK6, hk2 (by omega), t1, g1, show ¬ q.length ≤ k by omega, show ¬ 40 ≤ k by omega, z_le, z_lt, z_eq, z_leL, z_leR, z_ltL, z_ltR, z_eqR, z_eqL, z_m1, z_m1s, z_m1le, z_m1lt, z_m1lt0, z_m1le0, z_0lem1, z_m1lek, z_add, z_addL, z_addR, z_mulR, z_sub, z_subL, z_gd, z_ix, z_cl, z_or0, z_add0, z_bs, z_gd, z_b1, z_b0, z_10, z_01, eq_self, reduceCtorEq, ↓reduceIte, if_true, if_false, Nat.not_lt_zero, not_true_eq_false, not_false_eq_true, Bool.false_eq_true, Nat.le_refl, Nat.lt_irrefl]
    · by_cases e3 : zac = 3
      · subst e3
        have hv := l2 rfl
        by_cases h5 : 2 ≤ u_o x
        · obtain ⟨K', g1, g2, g3⟩ := e_trimTo (d := v) p1 h5
          refine ⟨K', ⟨by simp only [e4, h5, if_true, if_false]; exact g2, by rw [g3 _ _ (by omega)]; simp only [e4, h5, if_true, if_false]; exact p2, by rw [g3 _ _ (by omega)]; simp only [e4, h5, if_true, if_false]; exact p3, fun o k h1 h2 h3 h4 => by rw [g3 _ _ (by omega)]; exact p4 _ _ h1 h2 h3 h4⟩, ?_⟩
          have ok4 := ok1.2.2.2.1
          simp (disch := omega) only [f_Ni_play_8, hK2, hK5, hK6, hk2 (by omega), t1, t2, e4, p1.2.2.2.1, show ¬ u_o x < 2 by omega, g1, show ¬ q.length ≤ k by omega, show ¬ 40 ≤ k by omega, z_le, z_lt, z_eq, z_leL, z_leR, z_ltL, z_ltR, z_eqR, z_eqL, z_m1, z_m1s, z_m1le, z_m1lt, z_m1lt0, z_m1le0, z_0lem1, z_m1lek, z_add, z_addL, z_addR, z_mulR, z_sub, z_subL, z_gd, z_ix, z_cl, z_or0, z_add0, z_bs, z_gd, z_b1, z_b0, z_10, z_01, eq_self, reduceCtorEq, ↓reduceIte, if_true, if_false, Nat.not_lt_zero, not_true_eq_false, not_false_eq_true, Bool.false_eq_true, Nat.le_refl, Nat.lt_irrefl]
        · have ok4 := ok1.2.2.2.1
          cases zff with
          | none =>
            refine ⟨lh_u2 K (b + 4) 3 (nI k), ⟨by simp only [e4, h5, if_true, if_false]; exact p1.kp (fun k _ => q_u2o (by omega)), by rw [q_u2s]; simp only [e4, h5, if_true, if_false]; rfl, by rw [q_u2o (by omega)]; simp only [e4, h5, if_true, if_false]; exact p3, fun o k h1 h2 h3 h4 => by rw [q_u2o (by omega)]; exact p4 _ _ h1 h2 h3 h4⟩, ?_⟩
            simp (disch := omega) only [f_Ni_play_8, hK2, hK5, t1, t2, e4, p1.2.2.2.1, p2, z_eN, show u_o x < 2 by omega, show ¬ q.length ≤ k by omega, show ¬ 40 ≤ k by omega, z_le, z_lt, z_eq, z_leL, z_leR, z_ltL, z_ltR, z_eqR, z_eqL, z_m1, z_m1s, z_m1le, z_m1lt, z_m1lt0, z_m1le0, z_0lem1, z_m1lek, z_add, z_addL, z_addR, z_mulR, z_sub, z_subL, z_gd, z_ix, z_cl, z_or0, z_add0, z_bs, z_gd, z_b1, z_b0, z_10, z_01, eq_self, reduceCtorEq, ↓reduceIte, if_true, if_false, Nat.not_lt_zero, not_true_eq_false, not_false_eq_true, Bool.false_eq_true, Nat.le_refl, Nat.lt_irrefl]
          | some j =>
            have hj := ok2 j rfl
            refine ⟨K, ⟨by simp only [e4, h5, if_true, if_false]; exact p1, by simp only [e4, h5, if_true, if_false]; exact p2, by simp only [e4, h5, if_true, if_false]; exact p3, p4⟩, ?_⟩
            simp (disch := omega) only [f_Ni_play_8, hK2, hK5, t1, t2, e4, p1.2.2.2.1, p2, z_eS, show u_o x < 2 by omega, show ¬ q.length ≤ k by omega, show ¬ 40 ≤ k by omega, z_le, z_lt, z_eq, z_leL, z_leR, z_ltL, z_ltR, z_eqR, z_eqL, z_m1, z_m1s, z_m1le, z_m1lt, z_m1lt0, z_m1le0, z_0lem1, z_m1lek, z_add, z_addL, z_addR, z_mulR, z_sub, z_subL, z_gd, z_ix, z_cl, z_or0, z_add0, z_bs, z_gd, z_b1, z_b0, z_10, z_01, eq_self, reduceCtorEq, ↓reduceIte, if_true, if_false, Nat.not_lt_zero, not_true_eq_false, not_false_eq_true, Bool.false_eq_true, Nat.le_refl, Nat.lt_irrefl]
      · obtain ⟨K', g1, g2, g3⟩ := e_walk cK w ha (Or.inr rfl) p1 ok1 (q_wy_way zac)
        have hbu := q_bu_le w x (q_wy zac)
        have r4 : K' (b + 4) 4 = q_e zfb := by rw [g3 _ _ (by omega) (by omega) (by omega)]; exact p3
        have zgw : ∀ y, y = q_wy zac → f_Ha_walk a 8 y K = some (nI (q_bu h x (q_wy zac)), K') := fun y e => by rw [e]; exact g1
        have step : f_Ni_play_8 b a 8 (f + 1) (nI k) K = if q_bu h x (q_wy zac) = 0 then f_Ni_play_8 b a 8 f (nI (k + 1)) K' else if q_e zfb = -1 then f_Ni_play_8 b a 8 f (nI (k + 1)) (lh_u2 K' (b + 4) 4 (nI k)) else f_Ni_play_8 b a 8 f (nI (k + 1)) K' := by
          have e9 : (q_bu h x (q_wy zac) ≤ 0) = (q_bu h x (q_wy zac) = 0) := by simp
          by_cases e0 : zac = 0
          · subst e0
            have g1' := zgw 1 rfl
            simp (disch := omega) only [f_Ni_play_8, hK2, hK5, t1, t2, t3, t4, e3, e4, g1', r4, e9, show ¬ q.length ≤ k by omega, show ¬ 40 ≤ k by omega, z_le, z_leL, z_leR, z_addL, z_ix, z_cl, z_bs, z_gd, z_b1, z_b0, z_10, z_01, eq_self, reduceCtorEq, ↓reduceIte, if_true, if_false, Nat.not_lt_zero, not_true_eq_false, not_false_eq_true, Bool.false_eq_true, Nat.le_refl, Nat.lt_irrefl]
          · by_cases e1 : zac = 1
            · subst e1
              have g1' := zgw (-1) rfl
              simp (disch := omega) only [f_Ni_play_8, hK2, hK5, t1, t2, t3, t4, e0, e3, e4, g1', r4, e9, show ¬ q.length ≤ k by omega, show ¬ 40 ≤ k by omega, z_le, z_leL, z_leR, z_addL, z_ix, z_cl, z_bs, z_gd, z_b1, z_b0, z_10, z_01, eq_self, reduceCtorEq, ↓reduceIte, if_true, if_false, Nat.not_lt_zero, not_true_eq_false, not_false_eq_true, Bool.false_eq_true, Nat.le_refl, Nat.lt_irrefl]
            · have e2 : zac = 2 := by omega
              subst e2
              have g1' := zgw 0 rfl
              simp (disch := omega) only [f_Ni_play_8, hK2, hK5, t1, t2, t3, t4, e0, e1, e3, e4, g1', r4, e9, show ¬ q.length ≤ k by omega, show ¬ 40 ≤ k by omega, z_le, z_leL, z_leR, z_addL, z_ix, z_cl, z_bs, z_gd, z_b1, z_b0, z_10, z_01, eq_self, reduceCtorEq, ↓reduceIte, if_true, if_false, Nat.not_lt_zero, not_true_eq_false, not_false_eq_true, Bool.false_eq_true, Nat.le_refl, Nat.lt_irrefl]
        simp only [e4, e3, if_false]
        rw [step]
        by_cases hb0 : q_bu h x (q_wy zac) = 0
        · simp only [hb0, if_true]
          exact ⟨K', ⟨g2, by rw [g3 _ _ (by omega) (by omega) (by omega)]; exact p2, r4, fun o k h1 h2 h3 h4 => by rw [g3 _ _ h1 h2 (by omega)]; exact p4 _ _ h1 h2 h3 h4⟩, rfl⟩
        · simp only [hb0, if_false]
          cases zfb with
          | none =>
            refine ⟨lh_u2 K' (b + 4) 4 (nI k), ⟨g2.kp (fun k _ => q_u2o (by omega)), by rw [q_u2o (by omega), g3 _ _ (by omega) (by omega) (by omega)]; exact p2, by rw [q_u2s]; rfl, fun o k h1 h2 h3 h4 => by rw [q_u2o (by omega), g3 _ _ h1 h2 (by omega)]; exact p4 _ _ h1 h2 h3 h4⟩, ?_⟩
            simp only [z_eN, z_bs, z_gd, z_b1, z_b0, z_10, z_01, eq_self, reduceCtorEq, ↓reduceIte, if_true, if_false, Nat.not_lt_zero, not_true_eq_false, not_false_eq_true, Bool.false_eq_true, Nat.le_refl, Nat.lt_irrefl]
          | some j =>
            have hj := ok3 j rfl
            refine ⟨K', ⟨g2, by rw [g3 _ _ (by omega) (by omega) (by omega)]; exact p2, r4, fun o k h1 h2 h3 h4 => by rw [g3 _ _ h1 h2 (by omega)]; exact p4 _ _ h1 h2 h3 h4⟩, ?_⟩
            simp (disch := omega) only [z_eS, z_m1, z_bs, z_gd, z_b1, z_b0, z_10, z_01, eq_self, reduceCtorEq, ↓reduceIte, if_true, if_false, Nat.not_lt_zero, not_true_eq_false, not_false_eq_true, Bool.false_eq_true, Nat.le_refl, Nat.lt_irrefl]) (fun f K hK => by
    obtain ⟨p1, p2, p3, p4⟩ := hK
    have hK2 : K (b + 4) 2 = nI q.length := by rw [p4 _ _ (by omega) (by omega) (by omega) (by omega)]; exact h2
    refine ⟨K, ?_, p1, p2, p3, p4⟩
    simp (disch := omega) only [f_Ni_play_8, hK2, z_le, z_lt, z_eq, z_leL, z_leR, z_ltL, z_ltR, z_eqR, z_eqL, z_m1, z_m1s, z_m1le, z_m1lt, z_m1lt0, z_m1le0, z_0lem1, z_m1lek, z_add, z_addL, z_addR, z_mulR, z_sub, z_subL, z_gd, z_ix, z_cl, z_or0, z_add0, z_bs, z_gd, z_b1, z_b0, z_10, z_01, eq_self, reduceCtorEq, ↓reduceIte, if_true, if_false, Nat.not_lt_zero, not_true_eq_false, not_false_eq_true, Bool.false_eq_true, Nat.le_refl, Nat.lt_irrefl]) q.length lh_fuel 0 (lh_u2 (lh_u2 I (b + 4) 3 (-1)) (b + 4) 4 (-1)) (Nat.zero_add _) (by unfold lh_fuel; omega) ⟨hm.kp (fun k _ => by rw [q_u2o (by omega), q_u2o (by omega)]), by rw [q_u2o (by omega), q_u2s]; rfl, by rw [q_u2s]; rfl, fun o k h1 h2 h3 h4 => by rw [q_u2o (by omega), q_u2o (by omega)]⟩
  obtain ⟨I', e, h3⟩ := key
  have e' : f_Ni_play_8 b a 8 lh_fuel 0 (lh_u2 (lh_u2 I (b + 4) 3 (-1)) (b + 4) 4 (-1)) = some I' := e
  exact ⟨I', by rw [f_Ni_play, e', q_bs], h3⟩
