/-! alibi, follows, wavers, lonely, fellow, count -/
section Q42
variable {a b : Nat} {I J : lh_II} {h : lh_H}
theorem l_alibi (c : q_cl a I h) (m : q_md J h) (w : q_wf h) {v u : Nat} (hv : v < q_N h) (hu : u < q_C h) : ∃ r, f_LH_alibi_16 a b (nI v) (nI u) I lh_fuel 0 0 = some r ∧ f_LM_alibi_17 (nI v) (nI u) J lh_fuel 0 0 = some r := by
  have hN := w.N
  have hC := w.C
  refine q_for2e (F1 := fun n k (x : Int32) => f_LH_alibi_16 a b (nI v) (nI u) I n x (nI k)) (F2 := fun n k (x : Int32) => f_LM_alibi_17 (nI v) (nI u) J n x (nI k)) (N := 8) (fun n1 n2 k x hk => ?_) (fun n1 n2 x => ?_) 8 lh_fuel lh_fuel 0 0 rfl (by decide) (by decide)
  · cases hp : q_pl h v k with
    | none =>
      simp (disch := omega) only [f_LH_alibi_16, f_LM_alibi_17, e_placeOfN c w, m_cellOf m w, hp, z_eN, show ¬ 8 ≤ k by omega, z_le, z_lt, z_eq, z_leL, z_leR, z_ltL, z_ltR, z_eqR, z_eqL, z_m1, z_m1s, z_m1le, z_m1lt, z_m1lt0, z_m1le0, z_0lem1, z_m1lek, z_add, z_addL, z_addR, z_mulR, z_sub, z_subL, z_gd, z_ix, z_cl, z_or0, z_add0, z_bs, z_gd, z_b1, z_b0, z_10, z_01, eq_self, reduceCtorEq, ↓reduceIte, if_true, if_false, Nat.not_lt_zero, not_true_eq_false, not_false_eq_true, Bool.false_eq_true, Nat.le_refl, Nat.lt_irrefl]
      exact ⟨_, rfl, rfl⟩
    | some p =>
      have := w.pl hv hk hp
      simp (disch := omega) only [f_LH_alibi_16, f_LM_alibi_17, e_placeOfN c w, m_cellOf m w, hp, z_eS, show ¬ 8 ≤ k by omega, z_le, z_lt, z_eq, z_leL, z_leR, z_ltL, z_ltR, z_eqR, z_eqL, z_m1, z_m1s, z_m1le, z_m1lt, z_m1lt0, z_m1le0, z_0lem1, z_m1lek, z_add, z_addL, z_addR, z_mulR, z_sub, z_subL, z_gd, z_ix, z_cl, z_or0, z_add0, z_bs, z_gd, z_b1, z_b0, z_10, z_01, eq_self, reduceCtorEq, ↓reduceIte, if_true, if_false, Nat.not_lt_zero, not_true_eq_false, not_false_eq_true, Bool.false_eq_true, Nat.le_refl, Nat.lt_irrefl]
      by_cases h2 : p = u <;> simp only [h2, z_bs, z_gd, z_b1, z_b0, z_10, z_01, eq_self, reduceCtorEq, ↓reduceIte, if_true, if_false, Nat.not_lt_zero, not_true_eq_false, not_false_eq_true, Bool.false_eq_true, Nat.le_refl, Nat.lt_irrefl] <;> exact ⟨_, rfl, rfl⟩
  · simp (disch := omega) only [f_LH_alibi_16, f_LM_alibi_17, z_le, z_lt, z_eq, z_leL, z_leR, z_ltL, z_ltR, z_eqR, z_eqL, z_m1, z_m1s, z_m1le, z_m1lt, z_m1lt0, z_m1le0, z_0lem1, z_m1lek, z_add, z_addL, z_addR, z_mulR, z_sub, z_subL, z_gd, z_ix, z_cl, z_or0, z_add0, z_bs, z_gd, z_b1, z_b0, z_10, z_01, eq_self, reduceCtorEq, ↓reduceIte, if_true, if_false, Nat.not_lt_zero, not_true_eq_false, not_false_eq_true, Bool.false_eq_true, Nat.le_refl, Nat.lt_irrefl]
    exact ⟨_, rfl, rfl⟩
theorem l_follows (c : q_cl a I h) (m : q_md J h) (w : q_wf h) {v u : Nat} (hv : v < q_N h) (hu : u < q_N h) : ∃ r, f_LH_follows_12 a b (nI v) (nI u) I lh_fuel 0 1 = some r ∧ f_LM_follows_14 (nI v) (nI u) J lh_fuel 0 1 = some r := by
  have hN := w.N
  have hC := w.C
  refine q_for2e (F1 := fun n k (x : Int32) => f_LH_follows_12 a b (nI v) (nI u) I n x (nI (k + 1))) (F2 := fun n k (x : Int32) => f_LM_follows_14 (nI v) (nI u) J n x (nI (k + 1))) (N := 7) (fun n1 n2 k x hk => ?_) (fun n1 n2 x => ?_) 7 lh_fuel lh_fuel 0 0 rfl (by decide) (by decide)
  · cases hp : q_pl h v (k + 1) with
    | none =>
      simp (disch := omega) only [f_LH_follows_12, f_LM_follows_14, e_placeOfN c w, m_cellOf m w, hp, z_eN, show ¬ 8 ≤ k + 1 by omega, z_le, z_lt, z_eq, z_leL, z_leR, z_ltL, z_ltR, z_eqR, z_eqL, z_m1, z_m1s, z_m1le, z_m1lt, z_m1lt0, z_m1le0, z_0lem1, z_m1lek, z_add, z_addL, z_addR, z_mulR, z_sub, z_subL, z_gd, z_ix, z_cl, z_or0, z_add0, z_bs, z_gd, z_b1, z_b0, z_10, z_01, eq_self, reduceCtorEq, ↓reduceIte, if_true, if_false, Nat.not_lt_zero, not_true_eq_false, not_false_eq_true, Bool.false_eq_true, Nat.le_refl, Nat.lt_irrefl]
      exact ⟨_, rfl, rfl⟩
    | some p =>
      have := w.pl hv (show k + 1 < 8 by omega) hp
      cases hq : q_pl h u k with
      | none =>
        simp (disch := omega) only [f_LH_follows_12, f_LM_follows_14, e_placeOfN c w, m_cellOf m w, hp, hq, z_eS, z_eN, Nat.add_sub_cancel, show ¬ 8 ≤ k + 1 by omega, z_le, z_lt, z_eq, z_leL, z_leR, z_ltL, z_ltR, z_eqR, z_eqL, z_m1, z_m1s, z_m1le, z_m1lt, z_m1lt0, z_m1le0, z_0lem1, z_m1lek, z_add, z_addL, z_addR, z_mulR, z_sub, z_subL, z_gd, z_ix, z_cl, z_or0, z_add0, z_bs, z_gd, z_b1, z_b0, z_10, z_01, eq_self, reduceCtorEq, ↓reduceIte, if_true, if_false, Nat.not_lt_zero, not_true_eq_false, not_false_eq_true, Bool.false_eq_true, Nat.le_refl, Nat.lt_irrefl]
        exact ⟨_, rfl, rfl⟩
      | some q =>
        have := w.pl hu (show k < 8 by omega) hq
        simp (disch := omega) only [f_LH_follows_12, f_LM_follows_14, e_placeOfN c w, m_cellOf m w, hp, hq, z_eS, Nat.add_sub_cancel, show ¬ 8 ≤ k + 1 by omega, z_le, z_lt, z_eq, z_leL, z_leR, z_ltL, z_ltR, z_eqR, z_eqL, z_m1, z_m1s, z_m1le, z_m1lt, z_m1lt0, z_m1le0, z_0lem1, z_m1lek, z_add, z_addL, z_addR, z_mulR, z_sub, z_subL, z_gd, z_ix, z_cl, z_or0, z_add0, z_bs, z_gd, z_b1, z_b0, z_10, z_01, eq_self, reduceCtorEq, ↓reduceIte, if_true, if_false, Nat.not_lt_zero, not_true_eq_false, not_false_eq_true, Bool.false_eq_true, Nat.le_refl, Nat.lt_irrefl]
        by_cases h2 : p = q <;> simp only [h2, z_bs, z_gd, z_b1, z_b0, z_10, z_01, eq_self, reduceCtorEq, ↓reduceIte, if_true, if_false, Nat.not_lt_zero, not_true_eq_false, not_false_eq_true, Bool.false_eq_true, Nat.le_refl, Nat.lt_irrefl] <;> exact ⟨_, rfl, rfl⟩
  · simp (disch := omega) only [f_LH_follows_12, f_LM_follows_14, z_le, z_lt, z_eq, z_leL, z_leR, z_ltL, z_ltR, z_eqR, z_eqL, z_m1, z_m1s, z_m1le, z_m1lt, z_m1lt0, z_m1le0, z_0lem1, z_m1lek, z_add, z_addL, z_addR, z_mulR, z_sub, z_subL, z_gd, z_ix, z_cl, z_or0, z_add0, z_bs, z_gd, z_b1, z_b0, z_10, z_01, eq_self, reduceCtorEq, ↓reduceIte, if_true, if_false, Nat.not_lt_zero, not_true_eq_false, not_false_eq_true, Bool.false_eq_true, Nat.le_refl, Nat.lt_irrefl]
    exact ⟨_, rfl, rfl⟩
theorem l_wavers (c : q_cl a I h) (m : q_md J h) (w : q_wf h) {v : Nat} (hv : v < q_N h) : ∃ r, f_LH_wavers_13 a b (nI v) I lh_fuel 0 0 1 = some r ∧ f_LM_wavers_15 (nI v) J lh_fuel 0 0 1 = some r := by
  have hN := w.N
  have hC := w.C
  obtain ⟨r1, r2, e1, e2, rfl⟩ := q_for2 (F1 := fun n k (x : Int32 × Int32) => f_LH_wavers_13 a b (nI v) I n x.1 x.2 (nI (k + 1))) (F2 := fun n k (x : Int32 × Int32) => f_LM_wavers_15 (nI v) J n x.1 x.2 (nI (k + 1))) (N := 7) (P := fun _ x y => x = y ∧ (x.2 = 0 ∨ x.2 = 1 ∨ x.2 = -1)) (Q := fun x y => x = y) (fun n1 n2 k x y hk hxy => by
    obtain ⟨rfl, hl⟩ := hxy
    obtain ⟨x, l⟩ := x
    refine Or.inl ?_
    have z0 : ∀ y : Int32, (0 : Int32) * y = 0 := fun y => Int32.zero_mul
    have z1 : ((0 : Int32) ≤ 0) = True := by decide
    cases hp : q_pl h v k with
    | none =>
      refine ⟨(x, l), (x, l), ⟨rfl, hl⟩, ?_⟩
      cases hq : q_pl h v (k + 1) with
      | none => simp (disch := omega) only [f_LH_wavers_13, f_LM_wavers_15, e_placeOfN c w, m_cellOf m w, hp, hq, z_eS, z_eN, Nat.add_sub_cancel, z0, z1, show ¬ 8 ≤ k + 1 by omega, z_le, z_lt, z_eq, z_leL, z_leR, z_ltL, z_ltR, z_eqR, z_eqL, z_m1, z_m1s, z_m1le, z_m1lt, z_m1lt0, z_m1le0, z_0lem1, z_m1lek, z_add, z_addL, z_addR, z_mulR, z_sub, z_subL, z_gd, z_ix, z_cl, z_or0, z_add0, z_bs, z_gd, z_b1, z_b0, z_10, z_01, eq_self, reduceCtorEq, ↓reduceIte, if_true, if_false, Nat.not_lt_zero, not_true_eq_false, not_false_eq_true, Bool.false_eq_true, Nat.le_refl, Nat.lt_irrefl, and_self]
      | some q =>
        have := w.pl hv (show k + 1 < 8 by omega) hq
        simp (disch := omega) only [f_LH_wavers_13, f_LM_wavers_15, e_placeOfN c w, m_cellOf m w, hp, hq, z_eS, z_eN, Nat.add_sub_cancel, z0, z1, show ¬ 8 ≤ k + 1 by omega, z_le, z_lt, z_eq, z_leL, z_leR, z_ltL, z_ltR, z_eqR, z_eqL, z_m1, z_m1s, z_m1le, z_m1lt, z_m1lt0, z_m1le0, z_0lem1, z_m1lek, z_add, z_addL, z_addR, z_mulR, z_sub, z_subL, z_gd, z_ix, z_cl, z_or0, z_add0, z_bs, z_gd, z_b1, z_b0, z_10, z_01, eq_self, reduceCtorEq, ↓reduceIte, if_true, if_false, Nat.not_lt_zero, not_true_eq_false, not_false_eq_true, Bool.false_eq_true, Nat.le_refl, Nat.lt_irrefl, and_self]
    | some p =>
      have := w.pl hv (show k < 8 by omega) hp
      cases hq : q_pl h v (k + 1) with
      | none =>
        refine ⟨(x, l), (x, l), ⟨rfl, hl⟩, ?_⟩
        simp (disch := omega) only [f_LH_wavers_13, f_LM_wavers_15, e_placeOfN c w, m_cellOf m w, hp, hq, z_eS, z_eN, Nat.add_sub_cancel, z0, z1, show ¬ 8 ≤ k + 1 by omega, z_le, z_lt, z_eq, z_leL, z_leR, z_ltL, z_ltR, z_eqR, z_eqL, z_m1, z_m1s, z_m1le, z_m1lt, z_m1lt0, z_m1le0, z_0lem1, z_m1lek, z_add, z_addL, z_addR, z_mulR, z_sub, z_subL, z_gd, z_ix, z_cl, z_or0, z_add0, z_bs, z_gd, z_b1, z_b0, z_10, z_01, eq_self, reduceCtorEq, ↓reduceIte, if_true, if_false, Nat.not_lt_zero, not_true_eq_false, not_false_eq_true, Bool.false_eq_true, Nat.le_refl, Nat.lt_irrefl, and_self]
      | some q =>
        have := w.pl hv (show k + 1 < 8 by omega) hq
        simp (disch := omega) only [f_LH_wavers_13, f_LM_wavers_15, f_Int_compare, e_placeOfN c w, m_cellOf m w, hp, hq, z_eS, z_eN, Nat.add_sub_cancel, z0, z1, show ¬ 8 ≤ k + 1 by omega, z_le, z_lt, z_eq, z_leL, z_leR, z_ltL, z_ltR, z_eqR, z_eqL, z_m1, z_m1s, z_m1le, z_m1lt, z_m1lt0, z_m1le0, z_0lem1, z_m1lek, z_add, z_addL, z_addR, z_mulR, z_sub, z_subL, z_gd, z_ix, z_cl, z_or0, z_add0, z_bs, z_gd, z_b1, z_b0, z_10, z_01, eq_self, reduceCtorEq, ↓reduceIte, if_true, if_false, Nat.not_lt_zero, not_true_eq_false, not_false_eq_true, Bool.false_eq_true, Nat.le_refl, Nat.lt_irrefl]
        by_cases h1 : p = q
        · subst h1
          refine ⟨(x, l), (x, l), ⟨rfl, hl⟩, ?_⟩
          simp only [z_bs, z_gd, z_b1, z_b0, z_10, z_01, eq_self, reduceCtorEq, ↓reduceIte, if_true, if_false, Nat.not_lt_zero, not_true_eq_false, not_false_eq_true, Bool.false_eq_true, Nat.le_refl, Nat.lt_irrefl, and_self]
        · by_cases h2 : q ≤ p
          · refine ⟨(if l = 1 then x + 1 else x, -1), (if l = 1 then x + 1 else x, -1), ⟨rfl, Or.inr (Or.inr rfl)⟩, ?_⟩
            simp only [h1, h2, show ¬ p ≤ q by omega, Ne.symm h1, z_bs, z_gd, z_b1, z_b0, z_10, z_01, eq_self, reduceCtorEq, ↓reduceIte, if_true, if_false, Nat.not_lt_zero, not_true_eq_false, not_false_eq_true, Bool.false_eq_true, Nat.le_refl, Nat.lt_irrefl]
            rcases hl with e | e | e <;> simp only at e <;> subst e <;> simp (decide := true) only [z_bs, z_gd, z_b1, z_b0, z_10, z_01, eq_self, reduceCtorEq, ↓reduceIte, if_true, if_false, Nat.not_lt_zero, not_true_eq_false, not_false_eq_true, Bool.false_eq_true, Nat.le_refl, Nat.lt_irrefl, z_add0, and_self]
          · refine ⟨(if l = -1 then x + 1 else x, 1), (if l = -1 then x + 1 else x, 1), ⟨rfl, Or.inr (Or.inl rfl)⟩, ?_⟩
            simp only [h1, h2, show p ≤ q by omega, Ne.symm h1, z_bs, z_gd, z_b1, z_b0, z_10, z_01, eq_self, reduceCtorEq, ↓reduceIte, if_true, if_false, Nat.not_lt_zero, not_true_eq_false, not_false_eq_true, Bool.false_eq_true, Nat.le_refl, Nat.lt_irrefl]
            rcases hl with e | e | e <;> simp only at e <;> subst e <;> simp (decide := true) only [z_bs, z_gd, z_b1, z_b0, z_10, z_01, eq_self, reduceCtorEq, ↓reduceIte, if_true, if_false, Nat.not_lt_zero, not_true_eq_false, not_false_eq_true, Bool.false_eq_true, Nat.le_refl, Nat.lt_irrefl, z_add0, and_self]) (fun n1 n2 x y hxy => by
    obtain ⟨rfl, hl⟩ := hxy
    refine ⟨x.1, x.1, ?_, ?_, rfl⟩ <;> simp (disch := omega) only [f_LH_wavers_13, f_LM_wavers_15, z_le, z_lt, z_eq, z_leL, z_leR, z_ltL, z_ltR, z_eqR, z_eqL, z_m1, z_m1s, z_m1le, z_m1lt, z_m1lt0, z_m1le0, z_0lem1, z_m1lek, z_add, z_addL, z_addR, z_mulR, z_sub, z_subL, z_gd, z_ix, z_cl, z_or0, z_add0, z_bs, z_gd, z_b1, z_b0, z_10, z_01, eq_self, reduceCtorEq, ↓reduceIte, if_true, if_false, Nat.not_lt_zero, not_true_eq_false, not_false_eq_true, Bool.false_eq_true, Nat.le_refl, Nat.lt_irrefl]) 7 lh_fuel lh_fuel 0 (0, 0) (0, 0) rfl (by decide) (by decide) ⟨rfl, Or.inl rfl⟩
  exact ⟨r1, e1, e2⟩
theorem m_lonely23 (m : q_md J h) (w : q_wf h) {d u : Nat} (hd : d < 4) (hu : u < 8) (x2 x3 : Int32) : f_LM_lonely_23 (nI d) x2 x3 (nI u) J lh_fuel 0 0 = some (nI (q_pc (q_wt h d u))) := by
  have hN := w.N
  have := q_for (F := fun n k (y : Nat) => f_LM_lonely_23 (nI d) x2 x3 (nI u) J n (nI y) (nI k)) (N := q_N h) (step := fun v x => if (decide (q_dy h v = d) && (q_pl h v u).isSome) = true then x + 1 else x) (fin := nI) (fun n k y hk => by
    have hdy := w.dy hk
    cases hp : q_pl h k u with
    | none =>
      simp (disch := omega) only [f_LM_lonely_23, m_visitors m, m_dayOf m w, m_cellOf m w, hp, z_eN, show ¬ q_N h ≤ k by omega, Option.isSome_none, Bool.and_false, z_le, z_lt, z_eq, z_leL, z_leR, z_ltL, z_ltR, z_eqR, z_eqL, z_m1, z_m1s, z_m1le, z_m1lt, z_m1lt0, z_m1le0, z_0lem1, z_m1lek, z_add, z_addL, z_addR, z_mulR, z_sub, z_subL, z_gd, z_ix, z_cl, z_or0, z_add0, z_bs, z_gd, z_b1, z_b0, z_10, z_01, eq_self, reduceCtorEq, ↓reduceIte, if_true, if_false, Nat.not_lt_zero, not_true_eq_false, not_false_eq_true, Bool.false_eq_true, Nat.le_refl, Nat.lt_irrefl]
      by_cases h2 : q_dy h k = d <;> simp only [h2, z_bs, z_gd, z_b1, z_b0, z_10, z_01, eq_self, reduceCtorEq, ↓reduceIte, if_true, if_false, Nat.not_lt_zero, not_true_eq_false, not_false_eq_true, Bool.false_eq_true, Nat.le_refl, Nat.lt_irrefl]
    | some p =>
      have := w.pl hk hu hp
      have := w.C
      simp (disch := omega) only [f_LM_lonely_23, m_visitors m, m_dayOf m w, m_cellOf m w, hp, z_eS, show ¬ q_N h ≤ k by omega, Option.isSome_some, Bool.and_true, decide_eq_true_eq, z_le, z_lt, z_eq, z_leL, z_leR, z_ltL, z_ltR, z_eqR, z_eqL, z_m1, z_m1s, z_m1le, z_m1lt, z_m1lt0, z_m1le0, z_0lem1, z_m1lek, z_add, z_addL, z_addR, z_mulR, z_sub, z_subL, z_gd, z_ix, z_cl, z_or0, z_add0, z_bs, z_gd, z_b1, z_b0, z_10, z_01, eq_self, reduceCtorEq, ↓reduceIte, if_true, if_false, Nat.not_lt_zero, not_true_eq_false, not_false_eq_true, Bool.false_eq_true, Nat.le_refl, Nat.lt_irrefl]
      by_cases h2 : q_dy h k = d <;> simp only [h2, z_bs, z_gd, z_b1, z_b0, z_10, z_01, eq_self, reduceCtorEq, ↓reduceIte, if_true, if_false, Nat.not_lt_zero, not_true_eq_false, not_false_eq_true, Bool.false_eq_true, Nat.le_refl, Nat.lt_irrefl]) (fun n y => by
    simp (disch := omega) only [f_LM_lonely_23, m_visitors m, z_le, z_lt, z_eq, z_leL, z_leR, z_ltL, z_ltR, z_eqR, z_eqL, z_m1, z_m1s, z_m1le, z_m1lt, z_m1lt0, z_m1le0, z_0lem1, z_m1lek, z_add, z_addL, z_addR, z_mulR, z_sub, z_subL, z_gd, z_ix, z_cl, z_or0, z_add0, z_bs, z_gd, z_b1, z_b0, z_10, z_01, eq_self, reduceCtorEq, ↓reduceIte, if_true, if_false, Nat.not_lt_zero, not_true_eq_false, not_false_eq_true, Bool.false_eq_true, Nat.le_refl, Nat.lt_irrefl]) (q_N h) lh_fuel 0 0 (Nat.zero_add _) (by unfold lh_fuel; omega)
  rw [q_it_ct] at this
  unfold q_wt
  rw [q_pc_mk _ (by omega)]
  exact this
theorem q_wt_lt (w : q_wf h) (d u : Nat) : q_wt h d u < 4096 := Nat.lt_of_lt_of_le (q_mk_lt _ _) (Nat.le_trans (Nat.pow_le_pow_right (by decide) w.N) (by decide))
theorem q_pc_le (x : Nat) : q_pc x ≤ 30 := fb_ct_le _ _
theorem l_lonely1 (c : q_cl a I h) (m : q_md J h) (w : q_wf h) {d : Nat} (hd : d < 4) (n1 n2 k : Nat) (x : Int32 × Int32) (hk : k < 8) : ∃ y : Int32 × Int32, f_LH_lonely_11 a b (nI d) I (n1 + 1) x.1 x.2 (nI k) = f_LH_lonely_11 a b (nI d) I n1 y.1 y.2 (nI (k + 1)) ∧ f_LM_lonely_16 (nI d) J (n2 + 1) x.1 x.2 (nI k) = f_LM_lonely_16 (nI d) J n2 y.1 y.2 (nI (k + 1)) := by
  have e1 := e_bits (q_wt_lt w d k)
  have e2 := e_whoIsThere c w hd hk
  have e3 := m_lonely23 m w hd hk x.1 x.2
  generalize q_pc (q_wt h d k) = A at *
  generalize q_wt h d k = B at *
  simp (disch := omega) only [f_LH_lonely_11, f_LM_lonely_16, e1, e2, e3, show ¬ 8 ≤ k by omega, z_le, z_lt, z_eq, z_leL, z_leR, z_ltL, z_ltR, z_eqR, z_eqL, z_m1, z_m1s, z_m1le, z_m1lt, z_m1lt0, z_m1le0, z_0lem1, z_m1lek, z_add, z_addL, z_addR, z_mulR, z_sub, z_subL, z_gd, z_ix, z_cl, z_or0, z_add0, z_bs, z_gd, z_b1, z_b0, z_10, z_01, eq_self, reduceCtorEq, ↓reduceIte, if_true, if_false, Nat.not_lt_zero, not_true_eq_false, not_false_eq_true, Bool.false_eq_true, Nat.le_refl, Nat.lt_irrefl]
  by_cases h2 : x.2 ≤ nI A
  · rw [if_pos h2, if_pos h2]; exact ⟨x, rfl, rfl⟩
  · rw [if_neg h2, if_neg h2]; exact ⟨(nI k, nI A), rfl, rfl⟩
theorem l_lonely (c : q_cl a I h) (m : q_md J h) (w : q_wf h) {d : Nat} (hd : d < 4) (x0 : Int32 × Int32) : ∃ r, f_LH_lonely_11 a b (nI d) I lh_fuel x0.1 x0.2 (nI 0) = some r ∧ f_LM_lonely_16 (nI d) J lh_fuel x0.1 x0.2 (nI 0) = some r :=
  q_for2e (F1 := fun n k (x : Int32 × Int32) => f_LH_lonely_11 a b (nI d) I n x.1 x.2 (nI k)) (F2 := fun n k (x : Int32 × Int32) => f_LM_lonely_16 (nI d) J n x.1 x.2 (nI k)) (N := 8) (fun n1 n2 k x hk => l_lonely1 c m w hd n1 n2 k x hk) (fun n1 n2 x => by
   simp (disch := omega) only [f_LH_lonely_11, f_LM_lonely_16, z_le, z_lt, z_eq, z_leL, z_leR, z_ltL, z_ltR, z_eqR, z_eqL, z_m1, z_m1s, z_m1le, z_m1lt, z_m1lt0, z_m1le0, z_0lem1, z_m1lek, z_add, z_addL, z_addR, z_mulR, z_sub, z_subL, z_gd, z_ix, z_cl, z_or0, z_add0, z_bs, z_gd, z_b1, z_b0, z_10, z_01, eq_self, reduceCtorEq, ↓reduceIte, if_true, if_false, Nat.not_lt_zero, not_true_eq_false, not_false_eq_true, Bool.false_eq_true, Nat.le_refl, Nat.lt_irrefl]
   exact ⟨_, rfl, rfl⟩) 8 lh_fuel lh_fuel 0 x0 rfl (by decide) (by decide)
theorem e_fellowAt (c : q_cl a I h) (w : q_wf h) {n : Nat} (hn : n < 2147483648) : f_Ha_fellowAt a (nI n) I = some (if q_F h = 0 then -1 else nI (q_fe h (n % q_F h))) := by
  have hF := w.F
  rw [f_Ha_fellowAt, c.F]
  by_cases h0 : q_F h = 0
  · rw [h0]; rfl
  · have h1 : n % q_F h < q_F h := Nat.mod_lt _ (by omega)
    rw [pk_rem hn (by omega) (by omega)]
    simp (disch := omega) only [h0, decide_false, Bool.not_false, c.fe h1, z_le, z_lt, z_eq, z_leL, z_leR, z_ltL, z_ltR, z_eqR, z_eqL, z_m1, z_m1s, z_m1le, z_m1lt, z_m1lt0, z_m1le0, z_0lem1, z_m1lek, z_add, z_addL, z_addR, z_mulR, z_sub, z_subL, z_gd, z_ix, z_cl, z_or0, z_add0, z_bs, z_gd, z_b1, z_b0, z_10, z_01, eq_self, reduceCtorEq, ↓reduceIte, if_true, if_false, Nat.not_lt_zero, not_true_eq_false, not_false_eq_true, Bool.false_eq_true, Nat.le_refl, Nat.lt_irrefl]
    rw [if_neg (by omega)]
theorem q_k79 : ∀ k, k < 8 → lh_ix (79 + nI k) 200 = true ∧ (79 + nI k).toNatClampNeg = 79 + k := by decide +kernel
theorem m_round (m : q_md J h) (w : q_wf h) {i : Nat} (hi : i < q_F h) : (if nI (q_C h) ≤ J (71 + 4) (79 + i) then nI (q_C h - 1) else J (71 + 4) (79 + i)) = nI (q_fe h i) := by
  have hC := w.C
  obtain ⟨r, r1, r2, r3⟩ := m.2.2.2.2.2.1 i hi
  rw [r2, r3]
  simp (disch := omega) only [z_le]
  by_cases h2 : r < q_C h
  · rw [if_neg (by omega), if_pos h2]
  · rw [if_pos (by omega), if_neg h2]
end Q42
theorem p_alibi : lh_P28 lh_inv := by
  intro t a b a2 b2 I L x1 x2 hi
  obtain ⟨s, w, c, m, m', hf⟩ := hi.op
  have hN := w.1.N
  have hC := w.1.C
  cases h1 : q_is (q_N (s_h s)) x1 with
  | false => exact ⟨-1, (-1, lh_u2 I (65 + 4) 0 0), by simp only [f_LH_alibi, e_hasVisitor c.1, h1, z_bs, z_gd, z_b1, z_b0, z_10, z_01, eq_self, reduceCtorEq, ↓reduceIte, if_true, if_false, Nat.not_lt_zero, not_true_eq_false, not_false_eq_true, Bool.false_eq_true, Nat.le_refl, Nat.lt_irrefl], by simp only [f_LM_alibi, m_isVisitor m'.1, h1, z_bs, z_gd, z_b1, z_b0, z_10, z_01, eq_self, reduceCtorEq, ↓reduceIte, if_true, if_false, Nat.not_lt_zero, not_true_eq_false, not_false_eq_true, Bool.false_eq_true, Nat.le_refl, Nat.lt_irrefl], rfl, hi.en hf⟩
  | true =>
    cases h2 : q_is (q_C (s_h s)) x2 with
    | false => exact ⟨-1, (-1, lh_u2 I (65 + 4) 0 0), by simp only [f_LH_alibi, e_hasVisitor c.1, e_hasCell c.1, h1, h2, z_bs, z_gd, z_b1, z_b0, z_10, z_01, eq_self, reduceCtorEq, ↓reduceIte, if_true, if_false, Nat.not_lt_zero, not_true_eq_false, not_false_eq_true, Bool.false_eq_true, Nat.le_refl, Nat.lt_irrefl], by simp only [f_LM_alibi, m_isVisitor m'.1, m_isCell m'.1, h1, h2, z_bs, z_gd, z_b1, z_b0, z_10, z_01, eq_self, reduceCtorEq, ↓reduceIte, if_true, if_false, Nat.not_lt_zero, not_true_eq_false, not_false_eq_true, Bool.false_eq_true, Nat.le_refl, Nat.lt_irrefl], rfl, hi.en hf⟩
    | true =>
      obtain ⟨v, hv, rfl⟩ := q_is_ex (by omega) h1
      obtain ⟨u, hu, rfl⟩ := q_is_ex (by omega) h2
      obtain ⟨r, e1, e2⟩ := l_alibi (b := b) c.1 m'.1 w.1 hv hu
      exact ⟨r, (r, lh_u2 I (65 + 4) 0 0), by simp only [f_LH_alibi, e_hasVisitor c.1, e_hasCell c.1, h1, h2, e1, z_bs, z_gd, z_b1, z_b0, z_10, z_01, eq_self, reduceCtorEq, ↓reduceIte, if_true, if_false, Nat.not_lt_zero, not_true_eq_false, not_false_eq_true, Bool.false_eq_true, Nat.le_refl, Nat.lt_irrefl], by simp only [f_LM_alibi, m_isVisitor m'.1, m_isCell m'.1, h1, h2, e2, z_bs, z_gd, z_b1, z_b0, z_10, z_01, eq_self, reduceCtorEq, ↓reduceIte, if_true, if_false, Nat.not_lt_zero, not_true_eq_false, not_false_eq_true, Bool.false_eq_true, Nat.le_refl, Nat.lt_irrefl], rfl, hi.en hf⟩
theorem p_follows : lh_P29 lh_inv := by
  intro t a b a2 b2 I L x1 x2 hi
  obtain ⟨s, w, c, m, m', hf⟩ := hi.op
  cases h1 : q_tw (s_h s) x1 x2 with
  | false => exact ⟨-1, (-1, lh_u2 I (65 + 4) 0 0), by simp only [f_LH_follows, e_two c.1 w.1, h1, z_bs, z_gd, z_b1, z_b0, z_10, z_01, eq_self, reduceCtorEq, ↓reduceIte, if_true, if_false, Nat.not_lt_zero, not_true_eq_false, not_false_eq_true, Bool.false_eq_true, Nat.le_refl, Nat.lt_irrefl], by simp only [f_LM_follows, m_two m'.1 w.1, h1, z_bs, z_gd, z_b1, z_b0, z_10, z_01, eq_self, reduceCtorEq, ↓reduceIte, if_true, if_false, Nat.not_lt_zero, not_true_eq_false, not_false_eq_true, Bool.false_eq_true, Nat.le_refl, Nat.lt_irrefl], rfl, hi.en hf⟩
  | true =>
    obtain ⟨v, u, hv, hu, rfl, rfl⟩ := q_tw_ex w.1 h1
    obtain ⟨r, e1, e2⟩ := l_follows (b := b) c.1 m'.1 w.1 hv hu
    exact ⟨r, (r, lh_u2 I (65 + 4) 0 0), by simp only [f_LH_follows, e_two c.1 w.1, h1, e1, z_bs, z_gd, z_b1, z_b0, z_10, z_01, eq_self, reduceCtorEq, ↓reduceIte, if_true, if_false, Nat.not_lt_zero, not_true_eq_false, not_false_eq_true, Bool.false_eq_true, Nat.le_refl, Nat.lt_irrefl], by simp only [f_LM_follows, m_two m'.1 w.1, h1, e2, z_bs, z_gd, z_b1, z_b0, z_10, z_01, eq_self, reduceCtorEq, ↓reduceIte, if_true, if_false, Nat.not_lt_zero, not_true_eq_false, not_false_eq_true, Bool.false_eq_true, Nat.le_refl, Nat.lt_irrefl], rfl, hi.en hf⟩
theorem p_wavers : lh_P33 lh_inv := by
  intro t a b a2 b2 I L x1 hi
  obtain ⟨s, w, c, m, m', hf⟩ := hi.op
  have hN := w.1.N
  cases h1 : q_is (q_N (s_h s)) x1 with
  | false => exact ⟨-1, (-1, lh_u2 I (65 + 4) 0 0), by simp only [f_LH_wavers, e_hasVisitor c.1, h1, z_bs, z_gd, z_b1, z_b0, z_10, z_01, eq_self, reduceCtorEq, ↓reduceIte, if_true, if_false, Nat.not_lt_zero, not_true_eq_false, not_false_eq_true, Bool.false_eq_true, Nat.le_refl, Nat.lt_irrefl], by simp only [f_LM_wavers, m_isVisitor m'.1, h1, z_bs, z_gd, z_b1, z_b0, z_10, z_01, eq_self, reduceCtorEq, ↓reduceIte, if_true, if_false, Nat.not_lt_zero, not_true_eq_false, not_false_eq_true, Bool.false_eq_true, Nat.le_refl, Nat.lt_irrefl], rfl, hi.en hf⟩
  | true =>
    obtain ⟨v, hv, rfl⟩ := q_is_ex (by omega) h1
    obtain ⟨r, e1, e2⟩ := l_wavers (b := b) c.1 m'.1 w.1 hv
    exact ⟨r, (r, lh_u2 I (65 + 4) 0 0), by simp only [f_LH_wavers, e_hasVisitor c.1, h1, e1, z_bs, z_gd, z_b1, z_b0, z_10, z_01, eq_self, reduceCtorEq, ↓reduceIte, if_true, if_false, Nat.not_lt_zero, not_true_eq_false, not_false_eq_true, Bool.false_eq_true, Nat.le_refl, Nat.lt_irrefl], by simp only [f_LM_wavers, m_isVisitor m'.1, h1, e2, z_bs, z_gd, z_b1, z_b0, z_10, z_01, eq_self, reduceCtorEq, ↓reduceIte, if_true, if_false, Nat.not_lt_zero, not_true_eq_false, not_false_eq_true, Bool.false_eq_true, Nat.le_refl, Nat.lt_irrefl], rfl, hi.en hf⟩
theorem m_in03 (x : Int32) : f_LM_within x (0 : Int32) (3 : Int32) = some (q_b01 (q_is 4 x)) := m_within (n := 3) (by decide) x
theorem m_in07 (x : Int32) : f_LM_within x (0 : Int32) (7 : Int32) = some (q_b01 (q_is 8 x)) := m_within (n := 7) (by decide) x
theorem m_in01 (x : Int32) : f_LM_within x (0 : Int32) (1 : Int32) = some (q_b01 (q_is 2 x)) := m_within (n := 1) (by decide) x
theorem m_in02 (x : Int32) : f_LM_within x (0 : Int32) (2 : Int32) = some (q_b01 (q_is 3 x)) := m_within (n := 2) (by decide) x
theorem m_in010 (x : Int32) : f_LM_within x (0 : Int32) (10 : Int32) = some (q_b01 (q_is 11 x)) := m_within (n := 10) (by decide) x
theorem m_in040 (x : Int32) : f_LM_within x (0 : Int32) (40 : Int32) = some (q_b01 (q_is 41 x)) := m_within (n := 40) (by decide) x
theorem m_in09 (x : Int32) : f_LM_within x (0 : Int32) (9 : Int32) = some (q_b01 (q_is 10 x)) := m_within (n := 9) (by decide) x
theorem m_in04 (x : Int32) : f_LM_within x (0 : Int32) (4 : Int32) = some (q_b01 (q_is 5 x)) := m_within (n := 4) (by decide) x
/-- bounds told with ≤ -/
theorem q_isL {α : Type} (n : Nat) {x : Int32} {A B : α} (hn : n + 1 < 2 ^ 31) : (if x < 0 then A else if x ≤ nI n then B else A) = if q_is (n + 1) x = true then B else A := by
  rw [← q_isf _ rfl]
  by_cases h0 : x < 0
  · rw [if_pos h0, if_pos h0]
  · rw [if_neg h0, if_neg h0]
    obtain ⟨k, hk, rfl⟩ := nI_of h0
    simp (disch := omega) only [z_le]
    by_cases h1 : k ≤ n
    · rw [if_pos h1, if_neg (by omega)]
    · rw [if_neg h1, if_pos (by omega)]
theorem q_isG {α : Type} (n : Nat) {x : Int32} {A B : α} (hn : n + 1 < 2 ^ 31) : (if x < 0 then A else if nI n < x then A else B) = if q_is (n + 1) x = true then B else A := by
  rw [← q_isL n hn]
  by_cases h0 : x < 0
  · rw [if_pos h0, if_pos h0]
  · rw [if_neg h0, if_neg h0]
    obtain ⟨k, hk, rfl⟩ := nI_of h0
    simp (disch := omega) only [z_le, z_lt]
    by_cases h1 : k ≤ n
    · rw [if_pos h1, if_neg (by omega)]
    · rw [if_neg h1, if_pos (by omega)]
theorem p_lonely : lh_P26 lh_inv := by
  intro t a b a2 b2 I L x1 hi
  obtain ⟨s, w, c, m, m', hf⟩ := hi.op
  cases h1 : q_is 4 x1 with
  | false => exact ⟨-1, (-1, lh_u2 I (65 + 4) 0 0), by simp only [f_LH_lonely, e_isDay, h1, z_bs, z_gd, z_b1, z_b0, z_10, z_01, eq_self, reduceCtorEq, ↓reduceIte, if_true, if_false, Nat.not_lt_zero, not_true_eq_false, not_false_eq_true, Bool.false_eq_true, Nat.le_refl, Nat.lt_irrefl], by simp only [f_LM_lonely, m_in03, h1, z_bs, z_gd, z_b1, z_b0, z_10, z_01, eq_self, reduceCtorEq, ↓reduceIte, if_true, if_false, Nat.not_lt_zero, not_true_eq_false, not_false_eq_true, Bool.false_eq_true, Nat.le_refl, Nat.lt_irrefl], rfl, hi.en hf⟩
  | true =>
    obtain ⟨d, hd, rfl⟩ := q_is_ex (by omega) h1
    obtain ⟨r, e1, e2⟩ := l_lonely (b := b) c.1 m'.1 w.1 hd (0, 7)
    have e1 : f_LH_lonely_11 a b (nI d) I lh_fuel 0 7 0 = some r := e1
    have e2 : f_LM_lonely_16 (nI d) (lh_u2 I (65 + 4) 0 0) lh_fuel 0 7 0 = some r := e2
    exact ⟨r, (r, lh_u2 I (65 + 4) 0 0), by simp only [f_LH_lonely, e_isDay, h1, e1, z_bs, z_gd, z_b1, z_b0, z_10, z_01, eq_self, reduceCtorEq, ↓reduceIte, if_true, if_false, Nat.not_lt_zero, not_true_eq_false, not_false_eq_true, Bool.false_eq_true, Nat.le_refl, Nat.lt_irrefl], by simp only [f_LM_lonely, m_in03, h1, e2, z_bs, z_gd, z_b1, z_b0, z_10, z_01, eq_self, reduceCtorEq, ↓reduceIte, if_true, if_false, Nat.not_lt_zero, not_true_eq_false, not_false_eq_true, Bool.false_eq_true, Nat.le_refl, Nat.lt_irrefl], rfl, hi.en hf⟩
theorem p_fellow : lh_P37 lh_inv := by
  intro t a b a2 b2 I L x1 hi
  obtain ⟨s, w, c, m, m', hf⟩ := hi.op
  have hF := w.1.F
  have hs : u_s (s_n s) ≤ 5000 - (t + 1) := w.2.1.2.2.2.2.1
  have e0 : f_LH_fellow a b x1 I = if q_is 41 x1 = true then lh_bd (f_Ha_fellowAt a ((I (7 + 4) 4) + x1) I) (fun r3 => some r3) else some (-1) := by
    rw [f_LH_fellow]; exact q_isL 40 (by decide)
  cases h1 : q_is 41 x1 with
  | false => exact ⟨-1, (-1, lh_u2 I (65 + 4) 0 0), by simp only [e0, h1, z_bs, z_gd, z_b1, z_b0, z_10, z_01, eq_self, reduceCtorEq, ↓reduceIte, if_true, if_false, Nat.not_lt_zero, not_true_eq_false, not_false_eq_true, Bool.false_eq_true, Nat.le_refl, Nat.lt_irrefl], by simp only [f_LM_fellow, m_in040, h1, z_bs, z_gd, z_b1, z_b0, z_10, z_01, eq_self, reduceCtorEq, ↓reduceIte, if_true, if_false, Nat.not_lt_zero, not_true_eq_false, not_false_eq_true, Bool.false_eq_true, Nat.le_refl, Nat.lt_irrefl], rfl, hi.en hf⟩
  | true =>
    obtain ⟨k, hk, rfl⟩ := q_is_ex (by omega) h1
    have e1 : f_LH_fellow a b (nI k) I = some (if q_F (s_h s) = 0 then -1 else nI (q_fe (s_h s) ((u_s (s_n s) + k) % q_F (s_h s)))) := by
      rw [e0, h1, if_pos rfl, c.2.1.2.2.2.2.1, z_add, e_fellowAt c.1 w.1 (by omega), q_bs]
    refine ⟨_, (if q_F (s_h s) = 0 then -1 else nI (q_fe (s_h s) ((u_s (s_n s) + k) % q_F (s_h s))), lh_u2 I (65 + 4) 0 0), e1, ?_, rfl, hi.en hf⟩
    rw [f_LM_fellow, m_in040, h1, q_bs, if_neg (by decide), m'.1.F]
    by_cases h0 : q_F (s_h s) = 0
    · rw [h0]; rfl
    · have h2 : (u_s (s_n s) + k) % q_F (s_h s) < q_F (s_h s) := Nat.mod_lt _ (by omega)
      obtain ⟨i1, i2⟩ := q_k79 ((u_s (s_n s) + k) % q_F (s_h s)) (by omega)
      rw [if_neg (by rw [show (0 : Int32) = nI 0 from rfl, nI_eq (by omega) (by omega)]; exact h0), q_gd (by simp (disch := omega) only [z_eqR, h0, decide_false, Bool.not_false]), m'.2.1.1, z_add, pk_rem (by omega) (by omega) (by omega), i1, i2, m_cells m'.1, q_bs, q_bs, if_neg h0, ← m_round m'.1 w.1 h2, show nI (q_C (s_h s)) - 1 = nI (q_C (s_h s) - 1) from pk_sub (b := 1) (by have := w.1.C; omega)]
      show (if _ then _ else _) = _
      split <;> rfl
theorem p_skip : lh_P44 lh_inv := fun t a b a2 b2 I L hi => hi.en q_fr.rf
theorem p_count : lh_P43 lh_inv := by
  intro t a b a2 b2 I L x1 hi
  obtain ⟨s, w, c, m, m', hf⟩ := hi.op
  have hC := w.1.C
  obtain ⟨c1, ⟨c2, c3, c4, c5, c6, c7, c8⟩, ⟨e, e1, e2, e3, e4⟩, -, ⟨c9, -⟩, ⟨c10, -⟩, c11, -⟩ := c
  obtain ⟨m1, ⟨m2, m3, m4, m5, m6, m7, m8⟩, ⟨m9, -⟩, -, ⟨m10, -⟩, ⟨m11, -⟩, m12, -⟩ := m'
  obtain ⟨p, p1, p2, p3⟩ := m1.2.2.1
  have key : ∃ r, f_LH_count a b x1 I = some r ∧ f_LM_count x1 I = some (r, lh_u2 I (65 + 4) 0 0) := by
    by_cases g0 : x1 = 0
    · subst g0; exact ⟨nI (q_C (s_h s)), by rw [f_LH_count, c1.C]; rfl, by rw [f_LM_count]; show some (lh_u2 I (65 + 4) 0 0 (71 + 4) 0, _) = _; rw [m1.C]⟩
    by_cases g1 : x1 = 1
    · subst g1; exact ⟨nI (q_N (s_h s)), by rw [f_LH_count, c1.N]; rfl, by rw [f_LM_count]; show some (lh_u2 I (65 + 4) 0 0 (71 + 4) 1, _) = _; rw [m1.N]⟩
    by_cases g2 : x1 = 2
    · subst g2; exact ⟨nI (q_K (s_h s)), by rw [f_LH_count, c1.K]; rfl, by rw [f_LM_count]; show some (lh_u2 I (65 + 4) 0 0 (71 + 4) 2, _) = _; rw [m1.K]⟩
    by_cases g3 : x1 = 3
    · subst g3; exact ⟨nI (q_B (s_h s)), by rw [f_LH_count, c1.B]; rfl, by rw [f_LM_count]; show some (lh_u2 I (65 + 4) 0 0 (71 + 4) 3, _) = _; rw [m1.B]⟩
    simp only [f_LH_count, f_LM_count, g0, g1, g2, g3, c1.P, c2, c3, c4, c5, c6, c7, c8, c9, c10, c11, e3, m2, m3, m4, m5, m6, m7, m8, m9, m10, m11, m12, m_cells m1, p2, p3, q_bs, if_false, q_all1 (show q_C (s_h s) < 31 by omega)]
    have hp : nI p &&& nI (q_mk (fun _ => true) (q_C (s_h s))) = nI (p % 2 ^ q_C (s_h s)) := by
      rw [z_and]
      congr 1
      apply Nat.eq_of_testBit_eq
      intro i
      rw [Nat.testBit_and, q_mk_tb, Nat.testBit_mod_two_pow]
      cases p.testBit i <;> simp
    rw [hp]
    have fin : ∀ (x : Int32) (A B : Option Int32) (A' B' : Option (Int32 × lh_II)) (P : Prop) [Decidable P], (∃ r, A = some r ∧ A' = some (r, lh_u2 I (65 + 4) 0 0)) → (∃ r, B = some r ∧ B' = some (r, lh_u2 I (65 + 4) 0 0)) → ∃ r, (if P then A else B) = some r ∧ (if P then A' else B') = some (r, lh_u2 I (65 + 4) 0 0) := by
      intro x A B A' B' P _ h1 h2
      by_cases hP : P
      · simp only [hP, if_true]; exact h1
      · simp only [hP, if_false]; exact h2
    repeat' (first | exact ⟨_, rfl, rfl⟩ | refine fin 0 _ _ _ _ _ ?_ ?_)
  obtain ⟨r, k1, k2⟩ := key
  exact ⟨r, (r, lh_u2 I (65 + 4) 0 0), k1, k2, rfl, hi.en hf⟩
