theorem q_k170 : ∀ k, k < 40 → lh_ix (1 + 2 * nI k) 170 = true ∧ (1 + 2 * nI k).toNatClampNeg = 1 + 2 * k ∧ lh_ix (2 + 2 * nI k) 170 = true ∧ (2 + 2 * nI k).toNatClampNeg = 2 + 2 * k := by decide +kernel
set_option maxHeartbeats 400000 in
theorem m_judged19 {J : lh_II} {h : lh_H} {q : List (Nat × Nat)} (m : q_md J h) (w : q_wf h) (x1 : Int32) (hm : q_mm J 672 (q_bg h)) (hq : ∀ x ∈ q, q_ln x) (hl : q.length ≤ 40) (h2 : J (75 + 4) 0 = nI q.length) (hk : ∀ k, k < q.length → J (75 + 4) (1 + 2 * k) = nI (q.getD k (0, 0)).1 ∧ (3 ≤ (q.getD k (0, 0)).1 → J (75 + 4) (2 + 2 * k) = nI (q.getD k (0, 0)).2)) :
    ∃ J', f_LM_judged_19 x1 lh_fuel (-1) (-1) 0 J = some (q_e (q_it (q_ju h q) 0 q.length (q_bg h, none, none)).2.1, q_e (q_it (q_ju h q) 0 q.length (q_bg h, none, none)).2.2, J') ∧ q_mm J' 672 (q_it (q_ju h q) 0 q.length (q_bg h, none, none)).1 ∧ ∀ o k, o ≠ 80 → o ≠ 81 → ¬ (o = 82 ∧ 672 ≤ k ∧ k < 679) → J' o k = J o k := by
  have key := q_forI (F := fun f k (K : (Option Nat × Option Nat) × lh_II) => f_LM_judged_19 x1 f (q_e K.1.1) (q_e K.1.2) (nI k) K.2) (N := q.length) (P := fun k K => K.1 = (q_it (q_ju h q) 0 k (q_bg h, none, none)).2 ∧ q_mm K.2 672 (q_it (q_ju h q) 0 k (q_bg h, none, none)).1 ∧ ∀ o k, o ≠ 80 → o ≠ 81 → ¬ (o = 82 ∧ 672 ≤ k ∧ k < 679) → K.2 o k = J o k) (Q := fun r => r.1 = q_e (q_it (q_ju h q) 0 q.length (q_bg h, none, none)).2.1 ∧ r.2.1 = q_e (q_it (q_ju h q) 0 q.length (q_bg h, none, none)).2.2 ∧ q_mm r.2.2 672 (q_it (q_ju h q) 0 q.length (q_bg h, none, none)).1 ∧ ∀ o k, o ≠ 80 → o ≠ 81 → ¬ (o = 82 ∧ 672 ≤ k ∧ k < 679) → r.2.2 o k = J o k) (fun f k K hkq hK => by
    obtain ⟨⟨zff, zfb⟩, K⟩ := K
    obtain ⟨p0, p1, p4⟩ := hK
    simp only at p0 p1 p4
    obtain ⟨ok1, ok2, ok3⟩ := q_ju_ok w hq k (by omega)
    rw [q_it_succ, Nat.zero_add]
    generalize q_it (q_ju h q) 0 k (q_bg h, none, none) = x at *
    obtain ⟨x, zff', zfb'⟩ := x
    simp only [Prod.mk.injEq] at p0 p1 ok1 ok2 ok3
    obtain ⟨rfl, rfl⟩ := p0
    have mK : q_md K h := m.keep w (fun k _ => p4 _ _ (by omega) (by omega) (by omega)) (fun k _ => p4 _ _ (by omega) (by omega) (by omega)) (fun k _ => p4 _ _ (by omega) (by omega) (by omega))
    have hK0 : K (75 + 4) 0 = nI q.length := by rw [p4 _ _ (by omega) (by omega) (by omega)]; exact h2
    obtain ⟨i1, i2, i3, i4⟩ := q_k170 k (by omega)
    obtain ⟨hk1, hk2⟩ := hk k hkq
    have hK1 : K (75 + 4) (1 + 2 * k) = nI (q.getD k (0, 0)).1 := by rw [p4 _ _ (by omega) (by omega) (by omega)]; exact hk1
    have hK2 : K (75 + 4) (2 + 2 * k) = J (75 + 4) (2 + 2 * k) := p4 _ _ (by omega) (by omega) (by omega)
    obtain ⟨l1, l2, l3⟩ := hq _ (q_gQ (d := (0, 0)) hkq)
    unfold q_ju
    generalize q.getD k (0, 0) = zac at *
    obtain ⟨zac, v⟩ := zac
    simp only at hk1 hk2 hK1 l1 l2 l3
    have ok4 := ok1.2.2.2.1
    have p676 : K (78 + 4) 676 = nI (u_o x) := p1.2.2.2.2.1
    have t3 : (nI zac = 3) = (zac = 3) := by simp (disch := omega) only [z_eqR]
    have t0 : (nI zac = 0) = (zac = 0) := by simp (disch := omega) only [z_eqR]
    have t1 : (nI zac = 1) = (zac = 1) := by simp (disch := omega) only [z_eqR]
    have t33 : ((3 : Int32) ≤ nI zac) = (3 ≤ zac) := by simp (disch := omega) only [z_leL]
    by_cases e4 : zac = 4
    · subst e4
      have hv := l3 rfl
      obtain ⟨K', g1, g2, g3⟩ := m_fills (b0 := 672) (x := v) (by omega) p1 ok4 hv.2
      have g1' : f_LM_fills 672 (nI v) K = _ := g1
      refine ⟨((zff, zfb), K'), ⟨by simp only [if_true], by simp only [if_true]; exact g2, fun o k h1 h2 h3 => by show K' o k = _; rw [g3 _ _ (by omega)]; exact p4 _ _ h1 h2 h3⟩, ?_⟩
      simp (disch := omega) only [f_LM_judged_19, hK0, i1, i2, i3, i4, hK1, hK2, hk2 (by omega), t3, t33, show ¬ (4 : Nat) = 3 by omega, show 3 ≤ 4 by omega, g1', show ¬ q.length ≤ k by omega, z_le, z_addL, z_bs, z_gd, z_b1, z_b0, z_10, z_01, eq_self, reduceCtorEq, ↓reduceIte, if_true, if_false, Nat.not_lt_zero, not_true_eq_false, not_false_eq_true, Bool.false_eq_true, Nat.le_refl, Nat.lt_irrefl]
    · by_cases e3 : zac = 3
      · subst e3
        have hv := l2 rfl
        by_cases h5 : 2 ≤ u_o x
        · obtain ⟨K', g1, g2, g3⟩ := m_trims (b0 := 672) (d := v) (by omega) p1 h5
          have g1' : f_LM_trims 672 (nI v) K = _ := g1
          refine ⟨((zff, zfb), K'), ⟨by simp only [e4, h5, if_true, if_false], by simp only [e4, h5, if_true, if_false]; exact g2, fun o k h1 h2 h3 => by show K' o k = _; rw [g3 _ _ (by omega)]; exact p4 _ _ h1 h2 h3⟩, ?_⟩
          simp (disch := omega) only [f_LM_judged_19, hK0, i1, i2, i3, i4, hK1, hK2, hk2 (by omega), t3, t33, p676, show ¬ u_o x ≤ 1 by omega, Nat.le_refl, g1', show ¬ q.length ≤ k by omega, z_le, z_leR, z_addL, z_bs, z_gd, z_b1, z_b0, z_10, z_01, eq_self, reduceCtorEq, ↓reduceIte, if_true, if_false, Nat.not_lt_zero, not_true_eq_false, not_false_eq_true, Bool.false_eq_true, Nat.le_refl, Nat.lt_irrefl]
        · cases zff with
          | none =>
            refine ⟨((some k, zfb), K), ⟨by simp only [e4, h5, if_true, if_false]; rfl, by simp only [e4, h5, if_true, if_false]; exact p1, p4⟩, ?_⟩
            simp (disch := omega) only [f_LM_judged_19, hK0, i1, i2, i3, i4, hK1, t3, t33, p676, show u_o x ≤ 1 by omega, Nat.le_refl, z_eN, z_eS, z_0lem1, show ¬ q.length ≤ k by omega, z_le, z_leR, z_addL, z_bs, z_gd, z_b1, z_b0, z_10, z_01, eq_self, reduceCtorEq, ↓reduceIte, if_true, if_false, Nat.not_lt_zero, not_true_eq_false, not_false_eq_true, Bool.false_eq_true, Nat.le_refl, Nat.lt_irrefl]
          | some j =>
            have hj := ok2 j rfl
            refine ⟨((some j, zfb), K), ⟨by simp only [e4, h5, if_true, if_false]; rfl, by simp only [e4, h5, if_true, if_false]; exact p1, p4⟩, ?_⟩
            simp (disch := omega) only [f_LM_judged_19, hK0, i1, i2, i3, i4, hK1, t3, t33, p676, show u_o x ≤ 1 by omega, Nat.le_refl, z_eS, show ¬ q.length ≤ k by omega, Nat.zero_le, z_le, z_leR, z_leL, z_addL, z_bs, z_gd, z_b1, z_b0, z_10, z_01, eq_self, reduceCtorEq, ↓reduceIte, if_true, if_false, Nat.not_lt_zero, not_true_eq_false, not_false_eq_true, Bool.false_eq_true, Nat.le_refl, Nat.lt_irrefl]
      · obtain ⟨K', g1, g2, g3⟩ := m_steps mK w (b0 := 672) (by omega) p1 ok1 (q_wy_way zac)
        have hbu := q_bu_le w x (q_wy zac)
        have hK' : ∀ o k, o ≠ 80 → o ≠ 81 → ¬ (o = 82 ∧ 672 ≤ k ∧ k < 679) → K' o k = J o k := fun o k h1 h2 h3 => by rw [g3 _ _ h1 h2 (by omega)]; exact p4 _ _ h1 h2 h3
        have zgw : ∀ y, y = q_wy zac → f_LM_steps (nI 672) y K = some (nI (q_bu h x (q_wy zac)), K') := fun y e => by rw [e]; exact g1
        have step : f_LM_judged_19 x1 (f + 1) (q_e zff) (q_e zfb) (nI k) K = if q_bu h x (q_wy zac) = 0 then f_LM_judged_19 x1 f (q_e zff) (q_e zfb) (nI (k + 1)) K' else if 0 ≤ q_e zfb then f_LM_judged_19 x1 f (q_e zff) (q_e zfb) (nI (k + 1)) K' else f_LM_judged_19 x1 f (q_e zff) (nI k) (nI (k + 1)) K' := by
          have e9 : (q_bu h x (q_wy zac) ≤ 0) = (q_bu h x (q_wy zac) = 0) := by simp
          by_cases e0 : zac = 0
          · subst e0
            have g1' : f_LM_steps 672 1 K = _ := zgw 1 rfl
            simp (disch := omega) only [f_LM_judged_19, hK0, i1, i2, i3, i4, hK1, t3, t33, t0, e3, show ¬ 3 ≤ 0 by omega, g1', e9, show ¬ q.length ≤ k by omega, z_le, z_leR, z_addL, z_bs, z_gd, z_b1, z_b0, z_10, z_01, eq_self, reduceCtorEq, ↓reduceIte, if_true, if_false, Nat.not_lt_zero, not_true_eq_false, not_false_eq_true, Bool.false_eq_true, Nat.le_refl, Nat.lt_irrefl]
          · by_cases e1 : zac = 1
            · subst e1
              have g1' : f_LM_steps 672 (-1) K = _ := zgw (-1) rfl
              simp (disch := omega) only [f_LM_judged_19, hK0, i1, i2, i3, i4, hK1, t3, t33, t0, t1, e0, e3, show ¬ 3 ≤ 1 by omega, g1', e9, show ¬ q.length ≤ k by omega, z_le, z_leR, z_addL, z_bs, z_gd, z_b1, z_b0, z_10, z_01, eq_self, reduceCtorEq, ↓reduceIte, if_true, if_false, Nat.not_lt_zero, not_true_eq_false, not_false_eq_true, Bool.false_eq_true, Nat.le_refl, Nat.lt_irrefl]
            · have e2 : zac = 2 := by omega
              subst e2
              have g1' : f_LM_steps 672 0 K = _ := zgw 0 rfl
              simp (disch := omega) only [f_LM_judged_19, hK0, i1, i2, i3, i4, hK1, t3, t33, t0, t1, e0, e1, e3, show ¬ 3 ≤ 2 by omega, g1', e9, show ¬ q.length ≤ k by omega, z_le, z_leR, z_addL, z_bs, z_gd, z_b1, z_b0, z_10, z_01, eq_self, reduceCtorEq, ↓reduceIte, if_true, if_false, Nat.not_lt_zero, not_true_eq_false, not_false_eq_true, Bool.false_eq_true, Nat.le_refl, Nat.lt_irrefl]
        simp only [e4, e3, if_false]
        rw [step]
        by_cases hb0 : q_bu h x (q_wy zac) = 0
        · simp only [hb0, if_true]
          exact ⟨((zff, zfb), K'), ⟨rfl, g2, hK'⟩, rfl⟩
        · simp only [hb0, if_false]
          cases zfb with
          | none =>
            refine ⟨((zff, some k), K'), ⟨rfl, g2, hK'⟩, ?_⟩
            simp only [z_eN, z_eS, z_0lem1, z_bs, z_gd, z_b1, z_b0, z_10, z_01, eq_self, reduceCtorEq, ↓reduceIte, if_true, if_false, Nat.not_lt_zero, not_true_eq_false, not_false_eq_true, Bool.false_eq_true, Nat.le_refl, Nat.lt_irrefl]
          | some j =>
            have hj := ok3 j rfl
            refine ⟨((zff, some j), K'), ⟨rfl, g2, hK'⟩, ?_⟩
            simp (disch := omega) only [z_eS, z_leL, Nat.zero_le, z_bs, z_gd, z_b1, z_b0, z_10, z_01, eq_self, reduceCtorEq, ↓reduceIte, if_true, if_false, Nat.not_lt_zero, not_true_eq_false, not_false_eq_true, Bool.false_eq_true, Nat.le_refl, Nat.lt_irrefl]) (fun f K hK => by
    obtain ⟨⟨zff, zfb⟩, K⟩ := K
    obtain ⟨p0, p1, p4⟩ := hK
    simp only at p0 p1 p4
    have hK0 : K (75 + 4) 0 = nI q.length := by rw [p4 _ _ (by omega) (by omega) (by omega)]; exact h2
    refine ⟨(q_e zff, q_e zfb, K), ?_, by rw [← p0], by rw [← p0], p1, p4⟩
    simp (disch := omega) only [f_LM_judged_19, hK0, z_le, z_lt, z_eq, z_leL, z_leR, z_ltL, z_ltR, z_eqR, z_eqL, z_m1, z_m1s, z_m1le, z_m1lt, z_m1lt0, z_m1le0, z_0lem1, z_m1lek, z_add, z_addL, z_addR, z_mulR, z_sub, z_subL, z_gd, z_ix, z_cl, z_or0, z_add0, z_bs, z_gd, z_b1, z_b0, z_10, z_01, eq_self, reduceCtorEq, ↓reduceIte, if_true, if_false, Nat.not_lt_zero, not_true_eq_false, not_false_eq_true, Bool.false_eq_true, Nat.le_refl, Nat.lt_irrefl]) q.length lh_fuel 0 ((none, none), J) (Nat.zero_add _) (by unfold lh_fuel; omega) ⟨rfl, hm, fun _ _ _ _ _ => rfl⟩
  obtain ⟨⟨r1, r2, J'⟩, e, h3, h4, h5, h6⟩ := key
  simp only at h3 h4 h5 h6
  subst h3 h4
  exact ⟨J', e, h5, h6⟩
