/-! somebody; gap, same, crowd, days, ask -/
section Q43
variable {a b : Nat} {I J : lh_II} {h : lh_H}
def q_sbv (h : lh_H) (d u c v : Nat) : Bool := decide (q_dy h v = d) && decide (q_pl h v u = some c)
theorem q_sb_def (d u c : Nat) : q_sb h d u c = q_any (q_sbv h d u c) (q_N h) := rfl
theorem m_isSomebody (m : q_md J h) (w : q_wf h) {d u c : Nat} (hd : d < 4) (hu : u < 8) (hc : c < q_C h) : f_LM_isSomebody (nI d) (nI u) (nI c) J = some (q_b01 (q_sb h d u c)) := by
  have hN := w.N
  have hC := w.C
  have := q_for (F := fun n k (y : Bool) => f_LM_isSomebody_4 (nI d) (nI u) (nI c) J n (q_b01 y) (nI k)) (N := q_N h) (step := fun v x => x || q_sbv h d u c v) (fin := q_b01) (fun n k y hk => by
    have hdy := w.dy hk
    cases y with
    | true => simp (disch := omega) only [f_LM_isSomebody_4, m_visitors m, show ¬ q_N h ≤ k by omega, Bool.true_or, z_le, z_lt, z_eq, z_leL, z_leR, z_ltL, z_ltR, z_eqR, z_eqL, z_m1, z_m1s, z_m1le, z_m1lt, z_m1lt0, z_m1le0, z_0lem1, z_m1lek, z_add, z_addL, z_addR, z_mulR, z_sub, z_subL, z_gd, z_ix, z_cl, z_or0, z_add0, z_bs, z_gd, z_b1, z_b0, z_10, z_01, eq_self, reduceCtorEq, ↓reduceIte, if_true, if_false, Nat.not_lt_zero, not_true_eq_false, not_false_eq_true, Bool.false_eq_true, Nat.le_refl, Nat.lt_irrefl]
    | false =>
      unfold q_sbv
      cases hp : q_pl h k u with
      | none =>
        simp (disch := omega) only [f_LM_isSomebody_4, m_visitors m, m_dayOf m w, m_cellOf m w, hp, z_eN, show ¬ q_N h ≤ k by omega, Bool.and_false, Bool.or_false, Bool.false_or, decide_false, z_le, z_lt, z_eq, z_leL, z_leR, z_ltL, z_ltR, z_eqR, z_eqL, z_m1, z_m1s, z_m1le, z_m1lt, z_m1lt0, z_m1le0, z_0lem1, z_m1lek, z_add, z_addL, z_addR, z_mulR, z_sub, z_subL, z_gd, z_ix, z_cl, z_or0, z_add0, z_bs, z_gd, z_b1, z_b0, z_10, z_01, eq_self, reduceCtorEq, ↓reduceIte, if_true, if_false, Nat.not_lt_zero, not_true_eq_false, not_false_eq_true, Bool.false_eq_true, Nat.le_refl, Nat.lt_irrefl]
        by_cases h2 : q_dy h k = d <;> simp only [h2, z_bs, z_gd, z_b1, z_b0, z_10, z_01, eq_self, reduceCtorEq, ↓reduceIte, if_true, if_false, Nat.not_lt_zero, not_true_eq_false, not_false_eq_true, Bool.false_eq_true, Nat.le_refl, Nat.lt_irrefl]
      | some p =>
        have := w.pl hk hu hp
        simp (disch := omega) only [f_LM_isSomebody_4, m_visitors m, m_dayOf m w, m_cellOf m w, hp, z_eS, show ¬ q_N h ≤ k by omega, Option.some.injEq, Bool.false_or, z_le, z_lt, z_eq, z_leL, z_leR, z_ltL, z_ltR, z_eqR, z_eqL, z_m1, z_m1s, z_m1le, z_m1lt, z_m1lt0, z_m1le0, z_0lem1, z_m1lek, z_add, z_addL, z_addR, z_mulR, z_sub, z_subL, z_gd, z_ix, z_cl, z_or0, z_add0, z_bs, z_gd, z_b1, z_b0, z_10, z_01, eq_self, reduceCtorEq, ↓reduceIte, if_true, if_false, Nat.not_lt_zero, not_true_eq_false, not_false_eq_true, Bool.false_eq_true, Nat.le_refl, Nat.lt_irrefl]
        by_cases h2 : q_dy h k = d <;> by_cases h3 : p = c <;> simp only [h2, h3, decide_true, decide_false, Bool.and_true, Bool.and_false, Bool.false_and, Bool.true_and, z_bs, z_gd, z_b1, z_b0, z_10, z_01, eq_self, reduceCtorEq, ↓reduceIte, if_true, if_false, Nat.not_lt_zero, not_true_eq_false, not_false_eq_true, Bool.false_eq_true, Nat.le_refl, Nat.lt_irrefl]) (fun n y => by
    simp (disch := omega) only [f_LM_isSomebody_4, m_visitors m, z_le, z_lt, z_eq, z_leL, z_leR, z_ltL, z_ltR, z_eqR, z_eqL, z_m1, z_m1s, z_m1le, z_m1lt, z_m1lt0, z_m1le0, z_0lem1, z_m1lek, z_add, z_addL, z_addR, z_mulR, z_sub, z_subL, z_gd, z_ix, z_cl, z_or0, z_add0, z_bs, z_gd, z_b1, z_b0, z_10, z_01, eq_self, reduceCtorEq, ↓reduceIte, if_true, if_false, Nat.not_lt_zero, not_true_eq_false, not_false_eq_true, Bool.false_eq_true, Nat.le_refl, Nat.lt_irrefl]) (q_N h) lh_fuel 0 false (Nat.zero_add _) (by unfold lh_fuel; omega)
  have e : ∀ n, q_it (fun v x => x || q_sbv h d u c v) 0 n false = q_any (q_sbv h d u c) n := by
    intro n
    induction n with
    | zero => rfl
    | succ n ih => rw [q_it_succ, ih, Nat.zero_add, q_any_succ]
  rw [e] at this
  have h2 : f_LM_isSomebody_4 (nI d) (nI u) (nI c) J lh_fuel 0 0 = _ := this
  rw [f_LM_isSomebody, h2, q_bs, z_lz]
  rfl
theorem e_cellsWith (c : q_cl a I h) (w : q_wf h) {d u : Nat} (hd : d < 4) (hu : u < 8) : f_Ha_cellsWithSomebody a (nI d) (nI u) I = some (nI (q_mk (fun c => q_sb h d u c) (q_C h))) := by
  have hN := w.N
  have hC := w.C
  have := q_for (F := fun n k (y : Nat) => f_Ha_cellsWithSomebody_4 a (nI d) (nI u) I n (nI y) (nI k)) (N := q_N h) (step := fun v x => if (decide (q_dy h v = d) && (q_pl h v u).isSome) = true then x ||| 2 ^ (q_pl h v u).getD 0 else x) (fin := nI) (fun n k y hk => by
    have hdy := w.dy hk
    cases hp : q_pl h k u with
    | none =>
      simp (disch := omega) only [f_Ha_cellsWithSomebody_4, c.N, c.dy hk, e_placeOfN c w, hp, z_eN, show ¬ q_N h ≤ k by omega, Option.isSome_none, Bool.and_false, z_le, z_lt, z_eq, z_leL, z_leR, z_ltL, z_ltR, z_eqR, z_eqL, z_m1, z_m1s, z_m1le, z_m1lt, z_m1lt0, z_m1le0, z_0lem1, z_m1lek, z_add, z_addL, z_addR, z_mulR, z_sub, z_subL, z_gd, z_ix, z_cl, z_or0, z_add0, z_bs, z_gd, z_b1, z_b0, z_10, z_01, eq_self, reduceCtorEq, ↓reduceIte, if_true, if_false, Nat.not_lt_zero, not_true_eq_false, not_false_eq_true, Bool.false_eq_true, Nat.le_refl, Nat.lt_irrefl]
      by_cases h2 : q_dy h k = d <;> simp only [h2, z_bs, z_gd, z_b1, z_b0, z_10, z_01, eq_self, reduceCtorEq, ↓reduceIte, if_true, if_false, Nat.not_lt_zero, not_true_eq_false, not_false_eq_true, Bool.false_eq_true, Nat.le_refl, Nat.lt_irrefl]
    | some p =>
      have := w.pl hk hu hp
      simp (disch := omega) only [f_Ha_cellsWithSomebody_4, c.N, c.dy hk, e_placeOfN c w, hp, z_eS, z_sh1, z_or, show ¬ q_N h ≤ k by omega, Option.isSome_some, Option.getD_some, Bool.and_true, decide_eq_true_eq, z_le, z_lt, z_eq, z_leL, z_leR, z_ltL, z_ltR, z_eqR, z_eqL, z_m1, z_m1s, z_m1le, z_m1lt, z_m1lt0, z_m1le0, z_0lem1, z_m1lek, z_add, z_addL, z_addR, z_mulR, z_sub, z_subL, z_gd, z_ix, z_cl, z_or0, z_add0, z_bs, z_gd, z_b1, z_b0, z_10, z_01, eq_self, reduceCtorEq, ↓reduceIte, if_true, if_false, Nat.not_lt_zero, not_true_eq_false, not_false_eq_true, Bool.false_eq_true, Nat.le_refl, Nat.lt_irrefl]
      by_cases h2 : q_dy h k = d <;> simp only [h2, z_bs, z_gd, z_b1, z_b0, z_10, z_01, eq_self, reduceCtorEq, ↓reduceIte, if_true, if_false, Nat.not_lt_zero, not_true_eq_false, not_false_eq_true, Bool.false_eq_true, Nat.le_refl, Nat.lt_irrefl]) (fun n y => by
    simp (disch := omega) only [f_Ha_cellsWithSomebody_4, c.N, z_le, z_lt, z_eq, z_leL, z_leR, z_ltL, z_ltR, z_eqR, z_eqL, z_m1, z_m1s, z_m1le, z_m1lt, z_m1lt0, z_m1le0, z_0lem1, z_m1lek, z_add, z_addL, z_addR, z_mulR, z_sub, z_subL, z_gd, z_ix, z_cl, z_or0, z_add0, z_bs, z_gd, z_b1, z_b0, z_10, z_01, eq_self, reduceCtorEq, ↓reduceIte, if_true, if_false, Nat.not_lt_zero, not_true_eq_false, not_false_eq_true, Bool.false_eq_true, Nat.le_refl, Nat.lt_irrefl]) (q_N h) lh_fuel 0 0 (Nat.zero_add _) (by unfold lh_fuel; omega)
  rw [q_it_bits (M := q_C h) (p := fun v => decide (q_dy h v = d) && (q_pl h v u).isSome) (f := fun v => (q_pl h v u).getD 0) _ (fun v hv hp => by
    simp only [Bool.and_eq_true, decide_eq_true_eq, Option.isSome_iff_exists] at hp
    obtain ⟨-, p, hp⟩ := hp
    have := w.pl hv hu hp
    rw [hp]; exact this)] at this
  have h2 : f_Ha_cellsWithSomebody_4 a (nI d) (nI u) I lh_fuel 0 0 = _ := this
  rw [f_Ha_cellsWithSomebody, h2, q_bs]
  congr 2
  apply q_mk_cong
  intro i hi
  rw [q_sb_def]
  apply q_any_cong
  intro v hv
  unfold q_sbv
  cases hp : q_pl h v u with
  | none => simp
  | some p => simp
theorem e_daysWith (c : q_cl a I h) (w : q_wf h) {u x : Nat} (hu : u < 8) (hx : x < q_C h) : f_Ha_daysWithSomebody a (nI u) (nI x) I = some (nI (q_mk (fun d => q_sb h d u x) 4)) := by
  have hN := w.N
  have hC := w.C
  have := q_for (F := fun n k (y : Nat) => f_Ha_daysWithSomebody_4 a (nI u) (nI x) I n (nI y) (nI k)) (N := q_N h) (step := fun v y => if decide (q_pl h v u = some x) = true then y ||| 2 ^ q_dy h v else y) (fin := nI) (fun n k y hk => by
    have hdy := w.dy hk
    cases hp : q_pl h k u with
    | none =>
      simp (disch := omega) only [f_Ha_daysWithSomebody_4, c.N, c.dy hk, e_placeOfN c w, hp, z_eN, show ¬ q_N h ≤ k by omega, decide_false, z_le, z_lt, z_eq, z_leL, z_leR, z_ltL, z_ltR, z_eqR, z_eqL, z_m1, z_m1s, z_m1le, z_m1lt, z_m1lt0, z_m1le0, z_0lem1, z_m1lek, z_add, z_addL, z_addR, z_mulR, z_sub, z_subL, z_gd, z_ix, z_cl, z_or0, z_add0, z_bs, z_gd, z_b1, z_b0, z_10, z_01, eq_self, reduceCtorEq, ↓reduceIte, if_true, if_false, Nat.not_lt_zero, not_true_eq_false, not_false_eq_true, Bool.false_eq_true, Nat.le_refl, Nat.lt_irrefl]
    | some p =>
      have := w.pl hk hu hp
      simp (disch := omega) only [f_Ha_daysWithSomebody_4, c.N, c.dy hk, e_placeOfN c w, hp, z_eS, z_sh1, z_or, show ¬ q_N h ≤ k by omega, Option.some.injEq, decide_eq_true_eq, z_le, z_lt, z_eq, z_leL, z_leR, z_ltL, z_ltR, z_eqR, z_eqL, z_m1, z_m1s, z_m1le, z_m1lt, z_m1lt0, z_m1le0, z_0lem1, z_m1lek, z_add, z_addL, z_addR, z_mulR, z_sub, z_subL, z_gd, z_ix, z_cl, z_or0, z_add0, z_bs, z_gd, z_b1, z_b0, z_10, z_01, eq_self, reduceCtorEq, ↓reduceIte, if_true, if_false, Nat.not_lt_zero, not_true_eq_false, not_false_eq_true, Bool.false_eq_true, Nat.le_refl, Nat.lt_irrefl]
      by_cases h2 : p = x <;> simp only [h2, z_bs, z_gd, z_b1, z_b0, z_10, z_01, eq_self, reduceCtorEq, ↓reduceIte, if_true, if_false, Nat.not_lt_zero, not_true_eq_false, not_false_eq_true, Bool.false_eq_true, Nat.le_refl, Nat.lt_irrefl]) (fun n y => by
    simp (disch := omega) only [f_Ha_daysWithSomebody_4, c.N, z_le, z_lt, z_eq, z_leL, z_leR, z_ltL, z_ltR, z_eqR, z_eqL, z_m1, z_m1s, z_m1le, z_m1lt, z_m1lt0, z_m1le0, z_0lem1, z_m1lek, z_add, z_addL, z_addR, z_mulR, z_sub, z_subL, z_gd, z_ix, z_cl, z_or0, z_add0, z_bs, z_gd, z_b1, z_b0, z_10, z_01, eq_self, reduceCtorEq, ↓reduceIte, if_true, if_false, Nat.not_lt_zero, not_true_eq_false, not_false_eq_true, Bool.false_eq_true, Nat.le_refl, Nat.lt_irrefl]) (q_N h) lh_fuel 0 0 (Nat.zero_add _) (by unfold lh_fuel; omega)
  rw [q_it_bits (M := 4) (p := fun v => decide (q_pl h v u = some x)) (f := fun v => q_dy h v) _ (fun v hv hp => w.dy hv)] at this
  have h2 : f_Ha_daysWithSomebody_4 a (nI u) (nI x) I lh_fuel 0 0 = _ := this
  rw [f_Ha_daysWithSomebody, h2, q_bs]
  congr 2
  apply q_mk_cong
  intro i hi
  rw [q_sb_def]
  apply q_any_cong
  intro v hv
  unfold q_sbv
  rw [Bool.and_comm]
theorem q_mk31 (p : Nat → Bool) {n : Nat} (hn : n ≤ 12) : q_mk p n < 4096 := Nat.lt_of_lt_of_le (q_mk_lt _ _) (Nat.le_trans (Nat.pow_le_pow_right (by decide) hn) (by decide))
/-- gap -/
def q_gp (h : lh_H) (d : Nat) : Nat := q_mk (fun c => !q_any (fun u => q_sb h d u c) 8) (q_C h)
theorem e_gap9 (c : q_cl a I h) (w : q_wf h) {d : Nat} (hd : d < 4) : f_LH_gap_9 a b (nI d) I lh_fuel 0 0 = some (nI (q_mk (fun c => q_any (fun u => q_sb h d u c) 8) (q_C h))) := by
  have := q_for (F := fun n k (y : Nat) => f_LH_gap_9 a b (nI d) I n (nI y) (nI k)) (N := 8) (step := fun u x => x ||| q_mk (fun c => q_sb h d u c) (q_C h)) (fin := nI) (fun n k y hk => by
    simp (disch := omega) only [f_LH_gap_9, e_cellsWith c w hd hk, z_or, show ¬ 8 ≤ k by omega, z_le, z_lt, z_eq, z_leL, z_leR, z_ltL, z_ltR, z_eqR, z_eqL, z_m1, z_m1s, z_m1le, z_m1lt, z_m1lt0, z_m1le0, z_0lem1, z_m1lek, z_add, z_addL, z_addR, z_mulR, z_sub, z_subL, z_gd, z_ix, z_cl, z_or0, z_add0, z_bs, z_gd, z_b1, z_b0, z_10, z_01, eq_self, reduceCtorEq, ↓reduceIte, if_true, if_false, Nat.not_lt_zero, not_true_eq_false, not_false_eq_true, Bool.false_eq_true, Nat.le_refl, Nat.lt_irrefl]) (fun n y => by
    simp (disch := omega) only [f_LH_gap_9, z_le, z_lt, z_eq, z_leL, z_leR, z_ltL, z_ltR, z_eqR, z_eqL, z_m1, z_m1s, z_m1le, z_m1lt, z_m1lt0, z_m1le0, z_0lem1, z_m1lek, z_add, z_addL, z_addR, z_mulR, z_sub, z_subL, z_gd, z_ix, z_cl, z_or0, z_add0, z_bs, z_gd, z_b1, z_b0, z_10, z_01, eq_self, reduceCtorEq, ↓reduceIte, if_true, if_false, Nat.not_lt_zero, not_true_eq_false, not_false_eq_true, Bool.false_eq_true, Nat.le_refl, Nat.lt_irrefl]) 8 lh_fuel 0 0 rfl (by decide)
  have e : ∀ n, q_it (fun u x => x ||| q_mk (fun c => q_sb h d u c) (q_C h)) 0 n 0 = q_mk (fun c => q_any (fun u => q_sb h d u c) n) (q_C h) := by
    intro n
    induction n with
    | zero =>
      show 0 = _
      apply Nat.eq_of_testBit_eq
      intro i
      rw [q_mk_tb]
      simp [q_any]
    | succ n ih => rw [q_it_succ, ih, Nat.zero_add, q_mk_or2]; rfl
  rw [e] at this
  exact this
theorem m_gap19 (m : q_md J h) (w : q_wf h) {d : Nat} (hd : d < 4) : f_LM_gap_19 (nI d) J lh_fuel (nI (q_mk (fun _ => true) (q_C h))) 0 = some (nI (q_gp h d)) := by
  have hC := w.C
  have hone : ∀ j, j < q_C h → (1 : Int32) <<< (nI j &&& 31) = nI (q_mk (fun i => decide (i = j)) (q_C h)) := by
    intro j hj
    rw [z_sh1 (by omega)]
    congr 1
    apply Nat.eq_of_testBit_eq
    intro i
    rw [q_mk_tb, Nat.testBit_two_pow]
    by_cases e : j = i
    · subst e; simp [hj]
    · simp [e, Ne.symm e]
  obtain ⟨r, e, hr⟩ := q_forI (F := fun n k (y : Int32) => f_LM_gap_19 (nI d) J n y (nI k)) (N := 8 * q_C h) (P := fun k y => y = nI (q_mk (fun c => !q_any (fun i => decide (i / 8 = c) && q_sb h d (i % 8) (i / 8)) k) (q_C h))) (Q := fun r => r = nI (q_mk (fun c => !q_any (fun i => decide (i / 8 = c) && q_sb h d (i % 8) (i / 8)) (8 * q_C h)) (q_C h))) (fun n k y hk hy => by
    subst hy
    refine ⟨_, rfl, ?_⟩
    simp (disch := omega) only [f_LM_gap_19, m_cells m, z_divL, z_mulL, show ¬ 8 * q_C h ≤ k by omega, z_le, z_lt, z_eq, z_leL, z_leR, z_ltL, z_ltR, z_eqR, z_eqL, z_m1, z_m1s, z_m1le, z_m1lt, z_m1lt0, z_m1le0, z_0lem1, z_m1lek, z_add, z_addL, z_addR, z_mulR, z_sub, z_subL, z_gd, z_ix, z_cl, z_or0, z_add0, z_bs, z_gd, z_b1, z_b0, z_10, z_01, eq_self, reduceCtorEq, ↓reduceIte, if_true, if_false, Nat.not_lt_zero, not_true_eq_false, not_false_eq_true, Bool.false_eq_true, Nat.le_refl, Nat.lt_irrefl]
    rw [show k - k / 8 * 8 = k % 8 by omega, m_isSomebody m w hd (by omega) (by omega), q_bs, hone _ (by omega), q_andn (by omega), Int32.and_self]
    cases hb : q_sb h d (k % 8) (k / 8) with
    | false =>
      simp only [z_bs, z_gd, z_b1, z_b0, z_10, z_01, eq_self, reduceCtorEq, ↓reduceIte, if_true, if_false, Nat.not_lt_zero, not_true_eq_false, not_false_eq_true, Bool.false_eq_true, Nat.le_refl, Nat.lt_irrefl]
      congr 2
      apply q_mk_cong
      intro i hi
      rw [q_any_succ, hb]; simp
    | true =>
      simp only [z_bs, z_gd, z_b1, z_b0, z_10, z_01, eq_self, reduceCtorEq, ↓reduceIte, if_true, if_false, Nat.not_lt_zero, not_true_eq_false, not_false_eq_true, Bool.false_eq_true, Nat.le_refl, Nat.lt_irrefl]
      congr 2
      apply q_mk_cong
      intro i hi
      rw [q_any_succ, hb]
      simp [eq_comm]) (fun n y hy => by
    subst hy
    refine ⟨_, ?_, rfl⟩
    simp (disch := omega) only [f_LM_gap_19, m_cells m, z_le, z_lt, z_eq, z_leL, z_leR, z_ltL, z_ltR, z_eqR, z_eqL, z_m1, z_m1s, z_m1le, z_m1lt, z_m1lt0, z_m1le0, z_0lem1, z_m1lek, z_add, z_addL, z_addR, z_mulR, z_sub, z_subL, z_gd, z_ix, z_cl, z_or0, z_add0, z_bs, z_gd, z_b1, z_b0, z_10, z_01, eq_self, reduceCtorEq, ↓reduceIte, if_true, if_false, Nat.not_lt_zero, not_true_eq_false, not_false_eq_true, Bool.false_eq_true, Nat.le_refl, Nat.lt_irrefl]) (8 * q_C h) lh_fuel 0 (nI (q_mk (fun _ => true) (q_C h))) (Nat.zero_add _) (by unfold lh_fuel; omega) (by rfl)
  subst hr
  have e' : f_LM_gap_19 (nI d) J lh_fuel (nI (q_mk (fun _ => true) (q_C h))) 0 = _ := e
  rw [e']
  congr 2
  apply q_mk_cong
  intro i hi
  congr 1
  rw [Bool.eq_iff_iff, q_any_iff, q_any_iff]
  constructor
  · rintro ⟨k, h1, h2⟩
    simp only [Bool.and_eq_true, decide_eq_true_eq] at h2
    exact ⟨k % 8, by omega, by rw [← h2.1]; exact h2.2⟩
  · rintro ⟨u, h1, h2⟩
    refine ⟨8 * i + u, by omega, ?_⟩
    rw [show (8 * i + u) / 8 = i by omega, show (8 * i + u) % 8 = u by omega, h2]
    simp
/-- same -/
def q_al (h : lh_H) (d e : Nat) : Bool := !q_any (fun k => q_sb h d (k % 8) (k / 8) != q_sb h e (k % 8) (k / 8)) (8 * q_C h)
theorem m_same21 (m : q_md J h) (w : q_wf h) {d e : Nat} (hd : d < 4) (he : e < 4) (x1 : Int32) : f_LM_same_21 x1 (nI d) (nI e) J lh_fuel 1 0 = some (q_b01 (q_al h d e)) := by
  have hC := w.C
  have := q_for (F := fun n k (y : Bool) => f_LM_same_21 x1 (nI d) (nI e) J n (q_b01 y) (nI k)) (N := 8 * q_C h) (step := fun k x => x && !(q_sb h d (k % 8) (k / 8) != q_sb h e (k % 8) (k / 8))) (fin := q_b01) (fun n k y hk => by
    cases y with
    | false => simp (disch := omega) only [f_LM_same_21, m_cells m, show ¬ 8 * q_C h ≤ k by omega, Bool.false_and, z_le, z_lt, z_eq, z_leL, z_leR, z_ltL, z_ltR, z_eqR, z_eqL, z_m1, z_m1s, z_m1le, z_m1lt, z_m1lt0, z_m1le0, z_0lem1, z_m1lek, z_add, z_addL, z_addR, z_mulR, z_sub, z_subL, z_gd, z_ix, z_cl, z_or0, z_add0, z_bs, z_gd, z_b1, z_b0, z_10, z_01, eq_self, reduceCtorEq, ↓reduceIte, if_true, if_false, Nat.not_lt_zero, not_true_eq_false, not_false_eq_true, Bool.false_eq_true, Nat.le_refl, Nat.lt_irrefl]
    | true =>
      simp (disch := omega) only [f_LM_same_21, m_cells m, z_divL, z_mulL, show ¬ 8 * q_C h ≤ k by omega, Bool.true_and, z_le, z_lt, z_eq, z_leL, z_leR, z_ltL, z_ltR, z_eqR, z_eqL, z_m1, z_m1s, z_m1le, z_m1lt, z_m1lt0, z_m1le0, z_0lem1, z_m1lek, z_add, z_addL, z_addR, z_mulR, z_sub, z_subL, z_gd, z_ix, z_cl, z_or0, z_add0, z_bs, z_gd, z_b1, z_b0, z_10, z_01, eq_self, reduceCtorEq, ↓reduceIte, if_true, if_false, Nat.not_lt_zero, not_true_eq_false, not_false_eq_true, Bool.false_eq_true, Nat.le_refl, Nat.lt_irrefl]
      rw [show k - k / 8 * 8 = k % 8 by omega, m_isSomebody m w hd (by omega) (by omega), q_bs, m_isSomebody m w he (by omega) (by omega), q_bs]
      simp only [z_b01e]
      cases q_sb h d (k % 8) (k / 8) <;> cases q_sb h e (k % 8) (k / 8) <;> rfl) (fun n y => by
    simp (disch := omega) only [f_LM_same_21, m_cells m, z_le, z_lt, z_eq, z_leL, z_leR, z_ltL, z_ltR, z_eqR, z_eqL, z_m1, z_m1s, z_m1le, z_m1lt, z_m1lt0, z_m1le0, z_0lem1, z_m1lek, z_add, z_addL, z_addR, z_mulR, z_sub, z_subL, z_gd, z_ix, z_cl, z_or0, z_add0, z_bs, z_gd, z_b1, z_b0, z_10, z_01, eq_self, reduceCtorEq, ↓reduceIte, if_true, if_false, Nat.not_lt_zero, not_true_eq_false, not_false_eq_true, Bool.false_eq_true, Nat.le_refl, Nat.lt_irrefl]) (8 * q_C h) lh_fuel 0 true (Nat.zero_add _) (by unfold lh_fuel; omega)
  have e0 : ∀ n, q_it (fun k x => x && !(q_sb h d (k % 8) (k / 8) != q_sb h e (k % 8) (k / 8))) 0 n true = !q_any (fun k => q_sb h d (k % 8) (k / 8) != q_sb h e (k % 8) (k / 8)) n := by
    intro n
    induction n with
    | zero => rfl
    | succ n ih => rw [q_it_succ, ih, Nat.zero_add, q_any_succ, Bool.not_or]
  rw [e0] at this
  exact this
theorem e_areAlike (c : q_cl a I h) (w : q_wf h) {d e : Nat} (hd : d < 4) (he : e < 4) : f_Ha_areAlike a (nI d) (nI e) I = some (q_b01 (q_al h d e)) := by
  have hC := w.C
  have := q_forF (F := fun n k => f_Ha_areAlike_2 a (nI d) (nI e) I n (nI k)) (N := 8) (p := fun u => !decide (q_mk (fun c => q_sb h d u c) (q_C h) = q_mk (fun c => q_sb h e u c) (q_C h))) (fnd := fun _ => (0 : Nat)) (nf := 1) (fun n k hk => by
    have h1 := q_mk31 (fun c => q_sb h d k c) hC.2
    have h2 := q_mk31 (fun c => q_sb h e k c) hC.2
    simp (disch := omega) only [f_Ha_areAlike_2, e_cellsWith c w hd hk, e_cellsWith c w he hk, show ¬ 8 ≤ k by omega, z_le, z_lt, z_eq, z_leL, z_leR, z_ltL, z_ltR, z_eqR, z_eqL, z_m1, z_m1s, z_m1le, z_m1lt, z_m1lt0, z_m1le0, z_0lem1, z_m1lek, z_add, z_addL, z_addR, z_mulR, z_sub, z_subL, z_gd, z_ix, z_cl, z_or0, z_add0, z_bs, z_gd, z_b1, z_b0, z_10, z_01, eq_self, reduceCtorEq, ↓reduceIte, if_true, if_false, Nat.not_lt_zero, not_true_eq_false, not_false_eq_true, Bool.false_eq_true, Nat.le_refl, Nat.lt_irrefl]
    by_cases h3 : q_mk (fun c => q_sb h d k c) (q_C h) = q_mk (fun c => q_sb h e k c) (q_C h)
    · simp only [h3, decide_true, Bool.not_true, z_bs, z_gd, z_b1, z_b0, z_10, z_01, eq_self, reduceCtorEq, ↓reduceIte, if_true, if_false, Nat.not_lt_zero, not_true_eq_false, not_false_eq_true, Bool.false_eq_true, Nat.le_refl, Nat.lt_irrefl]
    · simp only [h3, decide_false, Bool.not_false, z_bs, z_gd, z_b1, z_b0, z_10, z_01, eq_self, reduceCtorEq, ↓reduceIte, if_true, if_false, Nat.not_lt_zero, not_true_eq_false, not_false_eq_true, Bool.false_eq_true, Nat.le_refl, Nat.lt_irrefl]) (fun n => by
    simp (disch := omega) only [f_Ha_areAlike_2, z_le, z_lt, z_eq, z_leL, z_leR, z_ltL, z_ltR, z_eqR, z_eqL, z_m1, z_m1s, z_m1le, z_m1lt, z_m1lt0, z_m1le0, z_0lem1, z_m1lek, z_add, z_addL, z_addR, z_mulR, z_sub, z_subL, z_gd, z_ix, z_cl, z_or0, z_add0, z_bs, z_gd, z_b1, z_b0, z_10, z_01, eq_self, reduceCtorEq, ↓reduceIte, if_true, if_false, Nat.not_lt_zero, not_true_eq_false, not_false_eq_true, Bool.false_eq_true, Nat.le_refl, Nat.lt_irrefl]) 8 lh_fuel 0 rfl (by decide)
  have h2 : f_Ha_areAlike_2 a (nI d) (nI e) I lh_fuel 0 = _ := this
  rw [f_Ha_areAlike, h2, q_bs]
  cases hq : q_fst (fun u => !decide (q_mk (fun c => q_sb h d u c) (q_C h) = q_mk (fun c => q_sb h e u c) (q_C h))) 0 8 with
  | some u =>
    obtain ⟨-, h3, h4⟩ := q_fst_lt hq
    have : q_al h d e = false := by
      unfold q_al
      rw [Bool.not_eq_false', q_any_iff]
      simp only [Bool.not_eq_true', decide_eq_false_iff_not] at h4
      apply Classical.byContradiction
      intro hn
      apply h4
      apply q_mk_cong
      intro i hi
      apply Classical.byContradiction
      intro hne
      refine hn ⟨8 * i + u, by omega, ?_⟩
      rw [show (8 * i + u) / 8 = i by omega, show (8 * i + u) % 8 = u by omega]
      simp [hne]
    rw [this]
    rfl
  | none =>
    have h3 : ∀ (n k : Nat), q_fst (fun u => !decide (q_mk (fun c => q_sb h d u c) (q_C h) = q_mk (fun c => q_sb h e u c) (q_C h))) k n = none → ∀ u, k ≤ u → u < k + n → q_mk (fun c => q_sb h d u c) (q_C h) = q_mk (fun c => q_sb h e u c) (q_C h) := by
      intro n
      induction n with
      | zero => intro k _ u h1 h2; omega
      | succ n ih =>
        intro k hk u h1 h2
        unfold q_fst at hk
        split at hk
        · cases hk
        · next hn =>
          by_cases e2 : u = k
          · subst e2
            simp only [Bool.not_eq_true', decide_eq_false_iff_not, Classical.not_not] at hn
            exact hn
          · exact ih (k + 1) hk u (by omega) (by omega)
    have : q_al h d e = true := by
      unfold q_al
      rw [Bool.not_eq_true']
      rw [← Bool.not_eq_true, q_any_iff]
      rintro ⟨k, h5, h6⟩
      have := q_mk_inj (h3 8 0 hq (k % 8) (by omega) (by omega)) (k / 8) (by omega)
      rw [this] at h6
      simp at h6
    rw [this]
    rfl
theorem l_same (c : q_cl a I h) (m : q_md J h) (w : q_wf h) : ∃ r, f_LH_same_4 a b I lh_fuel 0 0 = some r ∧ f_LM_same_7 J lh_fuel 0 0 = some r := by
  refine q_for2e (F1 := fun n k (x : Int32) => f_LH_same_4 a b I n x (nI k)) (F2 := fun n k (x : Int32) => f_LM_same_7 J n x (nI k)) (N := 4) (fun n1 n2 d x hd => ?_) (fun n1 n2 x => ?_) 4 lh_fuel lh_fuel 0 0 rfl (by decide) (by decide)
  · obtain ⟨r, e1, e2⟩ := q_for2e (F1 := fun n k (x : Int32) => f_LH_same_11 a b (nI d) I n x (nI k)) (F2 := fun n k (x : Int32) => f_LM_same_14 (nI d) J n x (nI k)) (N := 4) (fun n1 n2 k x hk => by
      simp (disch := omega) only [f_LH_same_11, f_LM_same_14, e_areAlike c w hd hk, m_same21 m w hd hk, show ¬ 4 ≤ k by omega, z_le, z_lt, z_eq, z_leL, z_leR, z_ltL, z_ltR, z_eqR, z_eqL, z_m1, z_m1s, z_m1le, z_m1lt, z_m1lt0, z_m1le0, z_0lem1, z_m1lek, z_add, z_addL, z_addR, z_mulR, z_sub, z_subL, z_gd, z_ix, z_cl, z_or0, z_add0, z_bs, z_gd, z_b1, z_b0, z_10, z_01, eq_self, reduceCtorEq, ↓reduceIte, if_true, if_false, Nat.not_lt_zero, not_true_eq_false, not_false_eq_true, Bool.false_eq_true, Nat.le_refl, Nat.lt_irrefl]
      cases q_al h d k <;> simp only [z_bs, z_gd, z_b1, z_b0, z_10, z_01, eq_self, reduceCtorEq, ↓reduceIte, if_true, if_false, Nat.not_lt_zero, not_true_eq_false, not_false_eq_true, Bool.false_eq_true, Nat.le_refl, Nat.lt_irrefl] <;> exact ⟨_, rfl, rfl⟩) (fun n1 n2 x => by
      simp (disch := omega) only [f_LH_same_11, f_LM_same_14, z_le, z_lt, z_eq, z_leL, z_leR, z_ltL, z_ltR, z_eqR, z_eqL, z_m1, z_m1s, z_m1le, z_m1lt, z_m1lt0, z_m1le0, z_0lem1, z_m1lek, z_add, z_addL, z_addR, z_mulR, z_sub, z_subL, z_gd, z_ix, z_cl, z_or0, z_add0, z_bs, z_gd, z_b1, z_b0, z_10, z_01, eq_self, reduceCtorEq, ↓reduceIte, if_true, if_false, Nat.not_lt_zero, not_true_eq_false, not_false_eq_true, Bool.false_eq_true, Nat.le_refl, Nat.lt_irrefl]
      exact ⟨_, rfl, rfl⟩) (4 - (d + 1)) lh_fuel lh_fuel (d + 1) x (by omega) (by unfold lh_fuel; omega) (by unfold lh_fuel; omega)
    simp (disch := omega) only [f_LH_same_4, f_LM_same_7, e1, e2, show ¬ 4 ≤ d by omega, z_le, z_lt, z_eq, z_leL, z_leR, z_ltL, z_ltR, z_eqR, z_eqL, z_m1, z_m1s, z_m1le, z_m1lt, z_m1lt0, z_m1le0, z_0lem1, z_m1lek, z_add, z_addL, z_addR, z_mulR, z_sub, z_subL, z_gd, z_ix, z_cl, z_or0, z_add0, z_bs, z_gd, z_b1, z_b0, z_10, z_01, eq_self, reduceCtorEq, ↓reduceIte, if_true, if_false, Nat.not_lt_zero, not_true_eq_false, not_false_eq_true, Bool.false_eq_true, Nat.le_refl, Nat.lt_irrefl]
    exact ⟨_, rfl, rfl⟩
  · simp (disch := omega) only [f_LH_same_4, f_LM_same_7, z_le, z_lt, z_eq, z_leL, z_leR, z_ltL, z_ltR, z_eqR, z_eqL, z_m1, z_m1s, z_m1le, z_m1lt, z_m1lt0, z_m1le0, z_0lem1, z_m1lek, z_add, z_addL, z_addR, z_mulR, z_sub, z_subL, z_gd, z_ix, z_cl, z_or0, z_add0, z_bs, z_gd, z_b1, z_b0, z_10, z_01, eq_self, reduceCtorEq, ↓reduceIte, if_true, if_false, Nat.not_lt_zero, not_true_eq_false, not_false_eq_true, Bool.false_eq_true, Nat.le_refl, Nat.lt_irrefl]
    exact ⟨_, rfl, rfl⟩
/-- crowd -/
theorem q_mx_le {f : Nat → Nat} {M : Nat} : ∀ (n k x : Nat), q_it (fun k x => max x (f k)) k n x ≤ M ↔ x ≤ M ∧ ∀ i, k ≤ i → i < k + n → f i ≤ M
  | 0, k, x => by
    show x ≤ M ↔ _
    constructor
    · intro h; exact ⟨h, fun i h1 h2 => by omega⟩
    · intro h; exact h.1
  | n + 1, k, x => by
    show q_it (fun k x => max x (f k)) (k + 1) n (max x (f k)) ≤ M ↔ _
    rw [q_mx_le n (k + 1) (max x (f k))]
    constructor
    · rintro ⟨h1, h2⟩
      refine ⟨by omega, fun i h3 h4 => ?_⟩
      by_cases e : i = k
      · subst e; omega
      · exact h2 i (by omega) (by omega)
    · rintro ⟨h1, h2⟩
      have := h2 k (Nat.le_refl k) (by omega)
      exact ⟨by omega, fun i h3 h4 => h2 i (by omega) (by omega)⟩
def q_cc (h : lh_H) (d u c : Nat) : Nat := fb_ct (q_sbv h d u c) (q_N h)
theorem e_whoIsIn (c : q_cl a I h) (w : q_wf h) {u x : Nat} (hu : u < 8) (hx : x < q_C h) : f_Ha_whoIsIn a (nI x) (nI u) I = some (nI (q_mk (fun v => decide (q_pl h v u = some x)) (q_N h))) := by
  have hN := w.N
  have hC := w.C
  have := q_for (F := fun n k (y : Nat) => f_Ha_whoIsIn_4 a (nI x) (nI u) I n (nI y) (nI k)) (N := q_N h) (step := fun v y => if decide (q_pl h v u = some x) = true then y ||| 2 ^ v else y) (fin := nI) (fun n k y hk => by
    cases hp : q_pl h k u with
    | none =>
      simp (disch := omega) only [f_Ha_whoIsIn_4, c.N, e_placeOfN c w, hp, z_eN, show ¬ q_N h ≤ k by omega, decide_false, z_le, z_lt, z_eq, z_leL, z_leR, z_ltL, z_ltR, z_eqR, z_eqL, z_m1, z_m1s, z_m1le, z_m1lt, z_m1lt0, z_m1le0, z_0lem1, z_m1lek, z_add, z_addL, z_addR, z_mulR, z_sub, z_subL, z_gd, z_ix, z_cl, z_or0, z_add0, z_bs, z_gd, z_b1, z_b0, z_10, z_01, eq_self, reduceCtorEq, ↓reduceIte, if_true, if_false, Nat.not_lt_zero, not_true_eq_false, not_false_eq_true, Bool.false_eq_true, Nat.le_refl, Nat.lt_irrefl]
    | some p =>
      have := w.pl hk hu hp
      simp (disch := omega) only [f_Ha_whoIsIn_4, c.N, e_placeOfN c w, hp, z_eS, z_sh1, z_or, show ¬ q_N h ≤ k by omega, Option.some.injEq, decide_eq_true_eq, z_le, z_lt, z_eq, z_leL, z_leR, z_ltL, z_ltR, z_eqR, z_eqL, z_m1, z_m1s, z_m1le, z_m1lt, z_m1lt0, z_m1le0, z_0lem1, z_m1lek, z_add, z_addL, z_addR, z_mulR, z_sub, z_subL, z_gd, z_ix, z_cl, z_or0, z_add0, z_bs, z_gd, z_b1, z_b0, z_10, z_01, eq_self, reduceCtorEq, ↓reduceIte, if_true, if_false, Nat.not_lt_zero, not_true_eq_false, not_false_eq_true, Bool.false_eq_true, Nat.le_refl, Nat.lt_irrefl]
      by_cases h2 : p = x <;> simp only [h2, z_bs, z_gd, z_b1, z_b0, z_10, z_01, eq_self, reduceCtorEq, ↓reduceIte, if_true, if_false, Nat.not_lt_zero, not_true_eq_false, not_false_eq_true, Bool.false_eq_true, Nat.le_refl, Nat.lt_irrefl]) (fun n y => by
    simp (disch := omega) only [f_Ha_whoIsIn_4, c.N, z_le, z_lt, z_eq, z_leL, z_leR, z_ltL, z_ltR, z_eqR, z_eqL, z_m1, z_m1s, z_m1le, z_m1lt, z_m1lt0, z_m1le0, z_0lem1, z_m1lek, z_add, z_addL, z_addR, z_mulR, z_sub, z_subL, z_gd, z_ix, z_cl, z_or0, z_add0, z_bs, z_gd, z_b1, z_b0, z_10, z_01, eq_self, reduceCtorEq, ↓reduceIte, if_true, if_false, Nat.not_lt_zero, not_true_eq_false, not_false_eq_true, Bool.false_eq_true, Nat.le_refl, Nat.lt_irrefl]) (q_N h) lh_fuel 0 0 (Nat.zero_add _) (by unfold lh_fuel; omega)
  rw [q_mkIt] at this
  have h2 : f_Ha_whoIsIn_4 a (nI x) (nI u) I lh_fuel 0 0 = _ := this
  rw [f_Ha_whoIsIn, h2, q_bs]
theorem q_wt_in (w : q_wf h) (d u x : Nat) : q_wt h d u &&& q_mk (fun v => decide (q_pl h v u = some x)) (q_N h) = q_mk (q_sbv h d u x) (q_N h) := by
  unfold q_wt
  rw [q_mk_and]
  apply q_mk_cong
  intro i hi
  unfold q_sbv
  cases hp : q_pl h i u with
  | none => simp
  | some p => simp
theorem q_forB {β : Type} {F : Nat → Nat → Nat → Option β} {N B : Nat} {step : Nat → Nat → Nat} {fin : Nat → β} (hb : ∀ k x, k < N → x ≤ B → step k x ≤ B) (hs : ∀ m k x, k < N → x ≤ B → F (m + 1) k x = F m (k + 1) (step k x)) (he : ∀ m x, x ≤ B → F (m + 1) N x = some (fin x)) :
    ∀ (d m k : Nat) (x : Nat), k + d = N → d < m → x ≤ B → F m k x = some (fin (q_it step k d x))
  | 0, 0, k, x, _, h, _ => absurd h (by omega)
  | 0, m + 1, k, x, h, _, hx => by
    have e : k = N := by omega
    rw [e]; exact he m x hx
  | d + 1, 0, k, x, _, h, _ => absurd h (by omega)
  | d + 1, m + 1, k, x, h, hm, hx => by
    rw [hs m k x (by omega) hx]
    exact q_forB hb hs he d m (k + 1) (step k x) (by omega) (by omega) (hb k x (by omega) hx)
theorem q_cc_le (w : q_wf h) (d u x : Nat) : q_cc h d u x ≤ 6 := Nat.le_trans (fb_ct_le _ _) w.N
theorem e_crowd9 (c : q_cl a I h) (w : q_wf h) {d : Nat} (hd : d < 4) : f_LH_crowd_9 a b (nI d) I lh_fuel 0 0 = some (nI (q_it (fun u x => q_it (fun c x => max x (q_cc h d u c)) 0 (q_C h) x) 0 8 0)) := by
  have hN := w.N
  have hC := w.C
  have hb : ∀ u x, x ≤ 6 → q_it (fun c x => max x (q_cc h d u c)) 0 (q_C h) x ≤ 6 := fun u x hx => (q_mx_le _ _ _).mpr ⟨hx, fun i _ _ => q_cc_le w d u i⟩
  refine q_forB (F := fun n k (y : Nat) => f_LH_crowd_9 a b (nI d) I n (nI y) (nI k)) (N := 8) (B := 6) (step := fun u x => q_it (fun c x => max x (q_cc h d u c)) 0 (q_C h) x) (fin := nI) (fun u x _ hx => hb u x hx) (fun n k y hk hy => ?_) (fun n y _ => ?_) 8 lh_fuel 0 0 rfl (by decide) (by decide)
  · have := q_forB (F := fun n j (y : Nat) => f_LH_crowd_20 a b (nI d) (nI k) (nI (q_wt h d k)) I n (nI y) (nI j)) (N := q_C h) (B := 6) (step := fun c x => max x (q_cc h d k c)) (fin := nI) (fun j x _ hx => by have := q_cc_le w d k j; omega) (fun n j x hj hx => by
      have h1 := q_cc_le w d k j
      have h2 : q_mk (q_sbv h d k j) (q_N h) < 4096 := q_mk31 _ (by omega)
      simp (disch := omega) only [f_LH_crowd_20, c.C, e_whoIsIn c w hk hj, z_and, q_wt_in w, e_bits h2, q_pc_mk _ (show q_N h ≤ 30 by omega), show ¬ q_C h ≤ j by omega, z_le, z_lt, z_eq, z_leL, z_leR, z_ltL, z_ltR, z_eqR, z_eqL, z_m1, z_m1s, z_m1le, z_m1lt, z_m1lt0, z_m1le0, z_0lem1, z_m1lek, z_add, z_addL, z_addR, z_mulR, z_sub, z_subL, z_gd, z_ix, z_cl, z_or0, z_add0, z_bs, z_gd, z_b1, z_b0, z_10, z_01, eq_self, reduceCtorEq, ↓reduceIte, if_true, if_false, Nat.not_lt_zero, not_true_eq_false, not_false_eq_true, Bool.false_eq_true, Nat.le_refl, Nat.lt_irrefl]
      rw [show fb_ct (q_sbv h d k j) (q_N h) = q_cc h d k j from rfl]
      simp (disch := omega) only [z_lt]
      congr 1
      by_cases h3 : x < q_cc h d k j
      · rw [if_pos h3, Nat.max_eq_right (by omega)]
      · rw [if_neg h3, Nat.max_eq_left (by omega)]) (fun n x hx => by
      simp (disch := omega) only [f_LH_crowd_20, c.C, z_le, z_lt, z_eq, z_leL, z_leR, z_ltL, z_ltR, z_eqR, z_eqL, z_m1, z_m1s, z_m1le, z_m1lt, z_m1lt0, z_m1le0, z_0lem1, z_m1lek, z_add, z_addL, z_addR, z_mulR, z_sub, z_subL, z_gd, z_ix, z_cl, z_or0, z_add0, z_bs, z_gd, z_b1, z_b0, z_10, z_01, eq_self, reduceCtorEq, ↓reduceIte, if_true, if_false, Nat.not_lt_zero, not_true_eq_false, not_false_eq_true, Bool.false_eq_true, Nat.le_refl, Nat.lt_irrefl]) (q_C h) lh_fuel 0 y (Nat.zero_add _) (by unfold lh_fuel; omega) hy
    have e2 : f_LH_crowd_20 a b (nI d) (nI k) (nI (q_wt h d k)) I lh_fuel (nI y) 0 = _ := this
    simp (disch := omega) only [f_LH_crowd_9, e_whoIsThere c w hd hk, e2, show ¬ 8 ≤ k by omega, z_le, z_lt, z_eq, z_leL, z_leR, z_ltL, z_ltR, z_eqR, z_eqL, z_m1, z_m1s, z_m1le, z_m1lt, z_m1lt0, z_m1le0, z_0lem1, z_m1lek, z_add, z_addL, z_addR, z_mulR, z_sub, z_subL, z_gd, z_ix, z_cl, z_or0, z_add0, z_bs, z_gd, z_b1, z_b0, z_10, z_01, eq_self, reduceCtorEq, ↓reduceIte, if_true, if_false, Nat.not_lt_zero, not_true_eq_false, not_false_eq_true, Bool.false_eq_true, Nat.le_refl, Nat.lt_irrefl]
  · simp (disch := omega) only [f_LH_crowd_9, z_le, z_lt, z_eq, z_leL, z_leR, z_ltL, z_ltR, z_eqR, z_eqL, z_m1, z_m1s, z_m1le, z_m1lt, z_m1lt0, z_m1le0, z_0lem1, z_m1lek, z_add, z_addL, z_addR, z_mulR, z_sub, z_subL, z_gd, z_ix, z_cl, z_or0, z_add0, z_bs, z_gd, z_b1, z_b0, z_10, z_01, eq_self, reduceCtorEq, ↓reduceIte, if_true, if_false, Nat.not_lt_zero, not_true_eq_false, not_false_eq_true, Bool.false_eq_true, Nat.le_refl, Nat.lt_irrefl]
theorem m_crowd14 (m : q_md J h) (w : q_wf h) {d : Nat} (hd : d < 4) : f_LM_crowd_14 (nI d) J lh_fuel 0 0 = some (nI (q_it (fun k x => max x (q_cc h d (k % 8) (k / 8))) 0 (8 * q_C h) 0)) := by
  have hN := w.N
  have hC := w.C
  refine q_forB (F := fun n k (y : Nat) => f_LM_crowd_14 (nI d) J n (nI y) (nI k)) (N := 8 * q_C h) (B := 6) (step := fun k x => max x (q_cc h d (k % 8) (k / 8))) (fin := nI) (fun k x _ hx => by have := q_cc_le w d (k % 8) (k / 8); omega) (fun n k y hk hy => ?_) (fun n y _ => ?_) (8 * q_C h) lh_fuel 0 0 (Nat.zero_add _) (by unfold lh_fuel; omega) (by decide)
  · have h1 := q_cc_le w d (k % 8) (k / 8)
    have := q_for (F := fun n j (z : Nat) => f_LM_crowd_24 (nI d) (nI y) (nI k) J n (nI z) (nI j)) (N := q_N h) (step := fun v x => if q_sbv h d (k % 8) (k / 8) v = true then x + 1 else x) (fin := nI) (fun n j z hj => by
      have hdy := w.dy hj
      have hu : k % 8 < 8 := by omega
      unfold q_sbv
      cases hp : q_pl h j (k % 8) with
      | none =>
        simp (disch := omega) only [f_LM_crowd_24, m_visitors m, m_dayOf m w, z_divL, z_mulL, show ¬ q_N h ≤ j by omega, z_le, z_lt, z_eq, z_leL, z_leR, z_ltL, z_ltR, z_eqR, z_eqL, z_m1, z_m1s, z_m1le, z_m1lt, z_m1lt0, z_m1le0, z_0lem1, z_m1lek, z_add, z_addL, z_addR, z_mulR, z_sub, z_subL, z_gd, z_ix, z_cl, z_or0, z_add0, z_bs, z_gd, z_b1, z_b0, z_10, z_01, eq_self, reduceCtorEq, ↓reduceIte, if_true, if_false, Nat.not_lt_zero, not_true_eq_false, not_false_eq_true, Bool.false_eq_true, Nat.le_refl, Nat.lt_irrefl]
        simp (disch := omega) only [show k - k / 8 * 8 = k % 8 by omega, m_cellOf m w, hp, z_eN, decide_false, Bool.and_false, z_le, z_lt, z_eq, z_leL, z_leR, z_ltL, z_ltR, z_eqR, z_eqL, z_m1, z_m1s, z_m1le, z_m1lt, z_m1lt0, z_m1le0, z_0lem1, z_m1lek, z_add, z_addL, z_addR, z_mulR, z_sub, z_subL, z_gd, z_ix, z_cl, z_or0, z_add0, z_bs, z_gd, z_b1, z_b0, z_10, z_01, eq_self, reduceCtorEq, ↓reduceIte, if_true, if_false, Nat.not_lt_zero, not_true_eq_false, not_false_eq_true, Bool.false_eq_true, Nat.le_refl, Nat.lt_irrefl]
        by_cases h2 : q_dy h j = d <;> simp only [h2, z_bs, z_gd, z_b1, z_b0, z_10, z_01, eq_self, reduceCtorEq, ↓reduceIte, if_true, if_false, Nat.not_lt_zero, not_true_eq_false, not_false_eq_true, Bool.false_eq_true, Nat.le_refl, Nat.lt_irrefl]
      | some p =>
        have := w.pl hj hu hp
        simp (disch := omega) only [f_LM_crowd_24, m_visitors m, m_dayOf m w, z_divL, z_mulL, show ¬ q_N h ≤ j by omega, z_le, z_lt, z_eq, z_leL, z_leR, z_ltL, z_ltR, z_eqR, z_eqL, z_m1, z_m1s, z_m1le, z_m1lt, z_m1lt0, z_m1le0, z_0lem1, z_m1lek, z_add, z_addL, z_addR, z_mulR, z_sub, z_subL, z_gd, z_ix, z_cl, z_or0, z_add0, z_bs, z_gd, z_b1, z_b0, z_10, z_01, eq_self, reduceCtorEq, ↓reduceIte, if_true, if_false, Nat.not_lt_zero, not_true_eq_false, not_false_eq_true, Bool.false_eq_true, Nat.le_refl, Nat.lt_irrefl]
        simp (disch := omega) only [show k - k / 8 * 8 = k % 8 by omega, m_cellOf m w, hp, z_eS, Option.some.injEq, Bool.and_eq_true, decide_eq_true_eq, z_le, z_lt, z_eq, z_leL, z_leR, z_ltL, z_ltR, z_eqR, z_eqL, z_m1, z_m1s, z_m1le, z_m1lt, z_m1lt0, z_m1le0, z_0lem1, z_m1lek, z_add, z_addL, z_addR, z_mulR, z_sub, z_subL, z_gd, z_ix, z_cl, z_or0, z_add0, z_bs, z_gd, z_b1, z_b0, z_10, z_01, eq_self, reduceCtorEq, ↓reduceIte, if_true, if_false, Nat.not_lt_zero, not_true_eq_false, not_false_eq_true, Bool.false_eq_true, Nat.le_refl, Nat.lt_irrefl]
        by_cases h2 : q_dy h j = d <;> by_cases h3 : p = k / 8 <;> simp only [h2, h3, and_self, and_false, false_and, and_true, true_and, z_bs, z_gd, z_b1, z_b0, z_10, z_01, eq_self, reduceCtorEq, ↓reduceIte, if_true, if_false, Nat.not_lt_zero, not_true_eq_false, not_false_eq_true, Bool.false_eq_true, Nat.le_refl, Nat.lt_irrefl]) (fun n z => by
      simp (disch := omega) only [f_LM_crowd_24, m_visitors m, z_le, z_lt, z_eq, z_leL, z_leR, z_ltL, z_ltR, z_eqR, z_eqL, z_m1, z_m1s, z_m1le, z_m1lt, z_m1lt0, z_m1le0, z_0lem1, z_m1lek, z_add, z_addL, z_addR, z_mulR, z_sub, z_subL, z_gd, z_ix, z_cl, z_or0, z_add0, z_bs, z_gd, z_b1, z_b0, z_10, z_01, eq_self, reduceCtorEq, ↓reduceIte, if_true, if_false, Nat.not_lt_zero, not_true_eq_false, not_false_eq_true, Bool.false_eq_true, Nat.le_refl, Nat.lt_irrefl]) (q_N h) lh_fuel 0 0 (Nat.zero_add _) (by unfold lh_fuel; omega)
    rw [q_it_ct] at this
    have e2 : f_LM_crowd_24 (nI d) (nI y) (nI k) J lh_fuel 0 0 = some (nI (q_cc h d (k % 8) (k / 8))) := this
    simp (disch := omega) only [f_LM_crowd_14, m_cells m, e2, show ¬ 8 * q_C h ≤ k by omega, z_le, z_lt, z_eq, z_leL, z_leR, z_ltL, z_ltR, z_eqR, z_eqL, z_m1, z_m1s, z_m1le, z_m1lt, z_m1lt0, z_m1le0, z_0lem1, z_m1lek, z_add, z_addL, z_addR, z_mulR, z_sub, z_subL, z_gd, z_ix, z_cl, z_or0, z_add0, z_bs, z_gd, z_b1, z_b0, z_10, z_01, eq_self, reduceCtorEq, ↓reduceIte, if_true, if_false, Nat.not_lt_zero, not_true_eq_false, not_false_eq_true, Bool.false_eq_true, Nat.le_refl, Nat.lt_irrefl]
    by_cases h3 : q_cc h d (k % 8) (k / 8) ≤ y
    · rw [if_pos h3, Nat.max_eq_left h3]
    · rw [if_neg h3, Nat.max_eq_right (by omega)]
  · simp (disch := omega) only [f_LM_crowd_14, m_cells m, z_le, z_lt, z_eq, z_leL, z_leR, z_ltL, z_ltR, z_eqR, z_eqL, z_m1, z_m1s, z_m1le, z_m1lt, z_m1lt0, z_m1le0, z_0lem1, z_m1lek, z_add, z_addL, z_addR, z_mulR, z_sub, z_subL, z_gd, z_ix, z_cl, z_or0, z_add0, z_bs, z_gd, z_b1, z_b0, z_10, z_01, eq_self, reduceCtorEq, ↓reduceIte, if_true, if_false, Nat.not_lt_zero, not_true_eq_false, not_false_eq_true, Bool.false_eq_true, Nat.le_refl, Nat.lt_irrefl]
theorem q_crowd_eq (d : Nat) : q_it (fun u x => q_it (fun c x => max x (q_cc h d u c)) 0 (q_C h) x) 0 8 0 = q_it (fun k x => max x (q_cc h d (k % 8) (k / 8))) 0 (8 * q_C h) 0 := by
  have e : ∀ M n k x, q_it (fun u x => q_it (fun c x => max x (q_cc h d u c)) 0 (q_C h) x) k n x ≤ M ↔ x ≤ M ∧ ∀ u, k ≤ u → u < k + n → ∀ c, c < q_C h → q_cc h d u c ≤ M := by
    intro M n
    induction n with
    | zero => intro k x; exact ⟨fun hx => ⟨hx, fun u h1 h2 => by omega⟩, fun hx => hx.1⟩
    | succ n ih =>
      intro k x
      show q_it _ (k + 1) n (q_it (fun c x => max x (q_cc h d k c)) 0 (q_C h) x) ≤ M ↔ _
      rw [ih, q_mx_le]
      constructor
      · rintro ⟨⟨h1, h2⟩, h3⟩
        refine ⟨h1, fun u h4 h5 c hc => ?_⟩
        by_cases e : u = k
        · subst e; exact h2 c (by omega) (by omega)
        · exact h3 u (by omega) (by omega) c hc
      · rintro ⟨h1, h2⟩
        exact ⟨⟨h1, fun i h3 h4 => h2 k (by omega) (by omega) i (by omega)⟩, fun u h3 h4 => h2 u (by omega) (by omega)⟩
  apply Nat.le_antisymm
  · rw [e]
    refine ⟨by omega, fun u h1 h2 c hc => ?_⟩
    have := ((q_mx_le (f := fun k => q_cc h d (k % 8) (k / 8)) (8 * q_C h) 0 0).mp (Nat.le_refl _)).2 (8 * c + u) (by omega) (by omega)
    rw [show (8 * c + u) / 8 = c by omega, show (8 * c + u) % 8 = u by omega] at this
    exact this
  · rw [q_mx_le]
    refine ⟨by omega, fun k h1 h2 => ?_⟩
    exact ((e _ 8 0 0).mp (Nat.le_refl _)).2 (k % 8) (by omega) (by omega) (k / 8) (by omega)
/-- days -/
theorem q_all_any {α : Type} (d0 : α) (p : α → Bool) : ∀ (l : List α), l.all p = !q_any (fun i => !p (l.getD i d0)) l.length := by
  intro l
  rw [Bool.eq_iff_iff, List.all_eq_true, Bool.not_eq_true', ← Bool.not_eq_true, q_any_iff]
  constructor
  · rintro hl ⟨k, hk, h2⟩
    have : l.getD k d0 ∈ l := by
      rw [List.getD_eq_getElem?_getD, List.getElem?_eq_getElem hk]
      exact List.getElem_mem hk
    rw [hl _ this] at h2
    cases h2
  · intro hn x hx
    apply Classical.byContradiction
    intro h2
    obtain ⟨k, hk, e⟩ := List.getElem_of_mem hx
    refine hn ⟨k, hk, ?_⟩
    rw [List.getD_eq_getElem?_getD, List.getElem?_eq_getElem hk, Option.getD_some, e]
    simp at h2
    simp [h2]
theorem q_k3 : ∀ k, k < 8 → lh_ix (8 + 3 * nI k) 736 = true ∧ (8 + 3 * nI k).toNatClampNeg = 8 + 3 * k ∧ lh_ix ((8 + 3 * nI k) + 1) 736 = true ∧ ((8 + 3 * nI k) + 1).toNatClampNeg = 9 + 3 * k ∧ lh_ix ((8 + 3 * nI k) + 2) 736 = true ∧ ((8 + 3 * nI k) + 2).toNatClampNeg = 10 + 3 * k := by decide +kernel
theorem m_daysNow (m : q_md J h) (w : q_wf h) {ss : List lh_Sd} (hs : q_ms J 0 ss) (hw : q_sw h ss) : f_LM_daysNow J = some (nI (q_dl h ss)) := by
  obtain ⟨s1, s2⟩ := hs
  obtain ⟨w1, w2⟩ := hw
  have hC := w.C
  have hin : ∀ d, d < 4 → ∀ x1, f_LM_daysNow_11 x1 (nI d) J lh_fuel 1 0 = some (q_b01 (ss.all fun q => q_sb h d q.1 q.2.1 == q.2.2)) := by
    intro d hd x1
    have := q_for (F := fun n k (y : Bool) => f_LM_daysNow_11 x1 (nI d) J n (q_b01 y) (nI k)) (N := ss.length) (step := fun k x => x && !!(q_sb h d (ss.getD k (0, 0, false)).1 (ss.getD k (0, 0, false)).2.1 == (ss.getD k (0, 0, false)).2.2)) (fin := q_b01) (fun n k y hk => by
      obtain ⟨i1, i2, i3, i4, i5, i6⟩ := q_k3 k (by omega)
      obtain ⟨g1, g2, g3⟩ := s2 k hk
      rw [Nat.zero_add] at g1 g2 g3 s1
      have hmem : ss.getD k (0, 0, false) ∈ ss := by
        rw [List.getD_eq_getElem?_getD, List.getElem?_eq_getElem hk]
        exact List.getElem_mem hk
      obtain ⟨g4, g5⟩ := w2 _ hmem
      cases y with
      | false => simp (disch := omega) only [f_LM_daysNow_11, s1, show ¬ ss.length ≤ k by omega, Bool.false_and, z_le, z_lt, z_eq, z_leL, z_leR, z_ltL, z_ltR, z_eqR, z_eqL, z_m1, z_m1s, z_m1le, z_m1lt, z_m1lt0, z_m1le0, z_0lem1, z_m1lek, z_add, z_addL, z_addR, z_mulR, z_sub, z_subL, z_gd, z_ix, z_cl, z_or0, z_add0, z_bs, z_gd, z_b1, z_b0, z_10, z_01, eq_self, reduceCtorEq, ↓reduceIte, if_true, if_false, Nat.not_lt_zero, not_true_eq_false, not_false_eq_true, Bool.false_eq_true, Nat.le_refl, Nat.lt_irrefl]
      | true =>
        rw [f_LM_daysNow_11, s1]
        simp (disch := omega) only [z_le, show ¬ ss.length ≤ k by omega, Bool.true_and, z_b1, z_10, if_false]
        rw [q_gd i1, q_gd i3, i2, i4, g1, g2, m_isSomebody m w hd g4 g5, q_bs, q_gd i5, i6, g3]
        cases q_sb h d (ss.getD k (0, 0, false)).1 (ss.getD k (0, 0, false)).2.1 <;> cases (ss.getD k (0, 0, false)).2.2 <;> simp only [z_bs, z_gd, z_b1, z_b0, z_10, z_01, eq_self, reduceCtorEq, ↓reduceIte, if_true, if_false, Nat.not_lt_zero, not_true_eq_false, not_false_eq_true, Bool.false_eq_true, Nat.le_refl, Nat.lt_irrefl, nI_1] <;> rfl) (fun n y => by
      rw [Nat.zero_add] at s1
      simp (disch := omega) only [f_LM_daysNow_11, s1, z_le, z_lt, z_eq, z_leL, z_leR, z_ltL, z_ltR, z_eqR, z_eqL, z_m1, z_m1s, z_m1le, z_m1lt, z_m1lt0, z_m1le0, z_0lem1, z_m1lek, z_add, z_addL, z_addR, z_mulR, z_sub, z_subL, z_gd, z_ix, z_cl, z_or0, z_add0, z_bs, z_gd, z_b1, z_b0, z_10, z_01, eq_self, reduceCtorEq, ↓reduceIte, if_true, if_false, Nat.not_lt_zero, not_true_eq_false, not_false_eq_true, Bool.false_eq_true, Nat.le_refl, Nat.lt_irrefl]) ss.length lh_fuel 0 true (Nat.zero_add _) (by unfold lh_fuel; omega)
    have e0 : ∀ n, q_it (fun k x => x && !!(q_sb h d (ss.getD k (0, 0, false)).1 (ss.getD k (0, 0, false)).2.1 == (ss.getD k (0, 0, false)).2.2)) 0 n true = !q_any (fun k => !(q_sb h d (ss.getD k (0, 0, false)).1 (ss.getD k (0, 0, false)).2.1 == (ss.getD k (0, 0, false)).2.2)) n := by
      intro n
      induction n with
      | zero => rfl
      | succ n ih => rw [q_it_succ, ih, Nat.zero_add, q_any_succ, Bool.not_or]
    rw [e0] at this
    rw [q_all_any (0, 0, false)]
    exact this
  have := q_for (F := fun n k (y : Nat) => f_LM_daysNow_4 J n (nI y) (nI k)) (N := 4) (step := fun d x => if (ss.all fun q => q_sb h d q.1 q.2.1 == q.2.2) = true then x ||| 2 ^ d else x) (fin := nI) (fun n k y hk => by
    simp (disch := omega) only [f_LM_daysNow_4, hin k hk, z_sh1, z_or, show ¬ 4 ≤ k by omega, z_le, z_lt, z_eq, z_leL, z_leR, z_ltL, z_ltR, z_eqR, z_eqL, z_m1, z_m1s, z_m1le, z_m1lt, z_m1lt0, z_m1le0, z_0lem1, z_m1lek, z_add, z_addL, z_addR, z_mulR, z_sub, z_subL, z_gd, z_ix, z_cl, z_or0, z_add0, z_bs, z_gd, z_b1, z_b0, z_10, z_01, eq_self, reduceCtorEq, ↓reduceIte, if_true, if_false, Nat.not_lt_zero, not_true_eq_false, not_false_eq_true, Bool.false_eq_true, Nat.le_refl, Nat.lt_irrefl]
    cases (ss.all fun q => q_sb h k q.1 q.2.1 == q.2.2) <;> simp only [z_bs, z_gd, z_b1, z_b0, z_10, z_01, eq_self, reduceCtorEq, ↓reduceIte, if_true, if_false, Nat.not_lt_zero, not_true_eq_false, not_false_eq_true, Bool.false_eq_true, Nat.le_refl, Nat.lt_irrefl]) (fun n y => by
    simp (disch := omega) only [f_LM_daysNow_4, z_le, z_lt, z_eq, z_leL, z_leR, z_ltL, z_ltR, z_eqR, z_eqL, z_m1, z_m1s, z_m1le, z_m1lt, z_m1lt0, z_m1le0, z_0lem1, z_m1lek, z_add, z_addL, z_addR, z_mulR, z_sub, z_subL, z_gd, z_ix, z_cl, z_or0, z_add0, z_bs, z_gd, z_b1, z_b0, z_10, z_01, eq_self, reduceCtorEq, ↓reduceIte, if_true, if_false, Nat.not_lt_zero, not_true_eq_false, not_false_eq_true, Bool.false_eq_true, Nat.le_refl, Nat.lt_irrefl]) 4 lh_fuel 0 0 rfl (by decide)
  rw [q_mkIt] at this
  have h2 : f_LM_daysNow_4 J lh_fuel 0 0 = _ := this
  rw [f_LM_daysNow, h2, q_bs]
  rfl
/-- ask -/
theorem q_ct_part (p q : Nat → Bool) : ∀ n, fb_ct (fun i => p i && q i) n + fb_ct (fun i => p i && !q i) n = fb_ct p n
  | 0 => rfl
  | n + 1 => by
    rw [fb_ct_succ, fb_ct_succ, fb_ct_succ, ← q_ct_part p q n]
    cases p n <;> cases q n <;> simp <;> omega
theorem m_ask26 (m : q_md J h) (w : q_wf h) {p : Nat → Bool} {u x : Nat} (hu : u < 8) (hx : x < q_C h) (x2 x3 : Int32) : f_LM_ask_26 (nI (q_mk p 4)) x2 x3 (nI u) (nI x) J lh_fuel 0 0 = some (nI (fb_ct (fun d => p d && q_sb h d u x) 4)) := by
  have h1 := q_mk31 p (show 4 ≤ 12 by decide)
  have := q_for (F := fun n k (y : Nat) => f_LM_ask_26 (nI (q_mk p 4)) x2 x3 (nI u) (nI x) J n (nI y) (nI k)) (N := 4) (step := fun d y => if (p d && q_sb h d u x) = true then y + 1 else y) (fin := nI) (fun n k y hk => by
    simp (disch := omega) only [f_LM_ask_26, z_bit1, q_mk_tb, hk, decide_true, Bool.true_and, m_isSomebody m w hk hu hx, show ¬ 4 ≤ k by omega, z_le, z_lt, z_eq, z_leL, z_leR, z_ltL, z_ltR, z_eqR, z_eqL, z_m1, z_m1s, z_m1le, z_m1lt, z_m1lt0, z_m1le0, z_0lem1, z_m1lek, z_add, z_addL, z_addR, z_mulR, z_sub, z_subL, z_gd, z_ix, z_cl, z_or0, z_add0, z_bs, z_gd, z_b1, z_b0, z_10, z_01, eq_self, reduceCtorEq, ↓reduceIte, if_true, if_false, Nat.not_lt_zero, not_true_eq_false, not_false_eq_true, Bool.false_eq_true, Nat.le_refl, Nat.lt_irrefl]
    cases p k <;> cases q_sb h k u x <;> simp only [z_bs, z_gd, z_b1, z_b0, z_10, z_01, eq_self, reduceCtorEq, ↓reduceIte, if_true, if_false, Nat.not_lt_zero, not_true_eq_false, not_false_eq_true, Bool.false_eq_true, Nat.le_refl, Nat.lt_irrefl, Bool.and_true, Bool.and_false, Bool.and_self]) (fun n y => by
    simp (disch := omega) only [f_LM_ask_26, z_le, z_lt, z_eq, z_leL, z_leR, z_ltL, z_ltR, z_eqR, z_eqL, z_m1, z_m1s, z_m1le, z_m1lt, z_m1lt0, z_m1le0, z_0lem1, z_m1lek, z_add, z_addL, z_addR, z_mulR, z_sub, z_subL, z_gd, z_ix, z_cl, z_or0, z_add0, z_bs, z_gd, z_b1, z_b0, z_10, z_01, eq_self, reduceCtorEq, ↓reduceIte, if_true, if_false, Nat.not_lt_zero, not_true_eq_false, not_false_eq_true, Bool.false_eq_true, Nat.le_refl, Nat.lt_irrefl]) 4 lh_fuel 0 0 rfl (by decide)
  rw [q_it_ct] at this
  exact this
theorem l_ask (c : q_cl a I h) (m : q_md J h) (w : q_wf h) {p : Nat → Bool} (e13 : I (0 + 4) 13 = nI (q_mk p 4)) (x0 : Int32) : ∃ r, f_LH_ask_8 a b I lh_fuel (-1) x0 0 = some r ∧ f_LM_ask_13 (nI (q_mk p 4)) J lh_fuel (-1) x0 0 = some r := by
  have hC := w.C
  refine q_for2e (F1 := fun n k (x : Int32 × Int32) => f_LH_ask_8 a b I n x.1 x.2 (nI k)) (F2 := fun n k (x : Int32 × Int32) => f_LM_ask_13 (nI (q_mk p 4)) J n x.1 x.2 (nI k)) (N := 8) (fun n1 n2 u x hu => ?_) (fun n1 n2 x => ?_) 8 lh_fuel lh_fuel 0 (-1, x0) rfl (by decide) (by decide)
  · obtain ⟨r, e1, e2⟩ := q_for2e (F1 := fun n k (x : Int32 × Int32) => f_LH_ask_13 a b (nI u) I n x.1 x.2 (nI k)) (F2 := fun n k (x : Int32 × Int32) => f_LM_ask_18 (nI (q_mk p 4)) (nI u) J n x.1 x.2 (nI k)) (N := q_C h) (fun n1 n2 k x hk => by
      have b1 := q_mk31 (fun d => p d && q_sb h d u k) (show 4 ≤ 12 by decide)
      have b2 := q_mk31 (fun d => p d && !q_sb h d u k) (show 4 ≤ 12 by decide)
      have b3 := q_mk31 p (show 4 ≤ 12 by decide)
      have b4 := q_ct_part p (fun d => q_sb h d u k) 4
      have b5 := fb_ct_le p 4
      simp (disch := omega) only [f_LH_ask_13, f_LM_ask_18, c.C, m_cells m, e13, e_daysWith c w hu hk, z_and, q_mk_and, q_andn, e_bits b1, e_bits b2, m_bits (show q_mk p 4 < 2 ^ 31 by omega), m_ask26 m w hu hk, q_pc_mk, show ¬ q_C h ≤ k by omega, z_le, z_lt, z_eq, z_leL, z_leR, z_ltL, z_ltR, z_eqR, z_eqL, z_m1, z_m1s, z_m1le, z_m1lt, z_m1lt0, z_m1le0, z_0lem1, z_m1lek, z_add, z_addL, z_addR, z_mulR, z_sub, z_subL, z_gd, z_ix, z_cl, z_or0, z_add0, z_bs, z_gd, z_b1, z_b0, z_10, z_01, eq_self, reduceCtorEq, ↓reduceIte, if_true, if_false, Nat.not_lt_zero, not_true_eq_false, not_false_eq_true, Bool.false_eq_true, Nat.le_refl, Nat.lt_irrefl]
      generalize fb_ct (fun i => p i && q_sb h i u k) 4 = A at *
      generalize fb_ct (fun i => p i && !q_sb h i u k) 4 = B at *
      generalize fb_ct p 4 = D at *
      have e5 : D - A = B := by omega
      rw [e5]
      by_cases h3 : A < B
      · have h4 : A ≤ B := by omega
        simp only [h3, h4, if_true]
        by_cases h5 : x.2 ≤ nI B
        · simp only [h5, if_true]; exact ⟨x, rfl, rfl⟩
        · simp only [h5, if_false]; exact ⟨(nI (12 * u + k), nI B), rfl, rfl⟩
      · by_cases h4 : A ≤ B
        · have h6 : A = B := by omega
          subst h6
          simp only [h3, if_false, h4, if_true]
          by_cases h5 : x.2 ≤ nI A
          · simp only [h5, if_true]; exact ⟨x, rfl, rfl⟩
          · simp only [h5, if_false]; exact ⟨(nI (12 * u + k), nI A), rfl, rfl⟩
        · simp only [h3, h4, if_false]
          by_cases h5 : x.2 ≤ nI A
          · simp only [h5, if_true]; exact ⟨x, rfl, rfl⟩
          · simp only [h5, if_false]; exact ⟨(nI (12 * u + k), nI A), rfl, rfl⟩) (fun n1 n2 x => by
      simp (disch := omega) only [f_LH_ask_13, f_LM_ask_18, c.C, m_cells m, z_le, z_lt, z_eq, z_leL, z_leR, z_ltL, z_ltR, z_eqR, z_eqL, z_m1, z_m1s, z_m1le, z_m1lt, z_m1lt0, z_m1le0, z_0lem1, z_m1lek, z_add, z_addL, z_addR, z_mulR, z_sub, z_subL, z_gd, z_ix, z_cl, z_or0, z_add0, z_bs, z_gd, z_b1, z_b0, z_10, z_01, eq_self, reduceCtorEq, ↓reduceIte, if_true, if_false, Nat.not_lt_zero, not_true_eq_false, not_false_eq_true, Bool.false_eq_true, Nat.le_refl, Nat.lt_irrefl]
      exact ⟨_, rfl, rfl⟩) (q_C h) lh_fuel lh_fuel 0 x (Nat.zero_add _) (by unfold lh_fuel; omega) (by unfold lh_fuel; omega)
    have e1' : f_LH_ask_13 a b (nI u) I lh_fuel x.1 x.2 0 = some r := e1
    have e2' : f_LM_ask_18 (nI (q_mk p 4)) (nI u) J lh_fuel x.1 x.2 0 = some r := e2
    simp (disch := omega) only [f_LH_ask_8, f_LM_ask_13, e1', e2', show ¬ 8 ≤ u by omega, z_le, z_lt, z_eq, z_leL, z_leR, z_ltL, z_ltR, z_eqR, z_eqL, z_m1, z_m1s, z_m1le, z_m1lt, z_m1lt0, z_m1le0, z_0lem1, z_m1lek, z_add, z_addL, z_addR, z_mulR, z_sub, z_subL, z_gd, z_ix, z_cl, z_or0, z_add0, z_bs, z_gd, z_b1, z_b0, z_10, z_01, eq_self, reduceCtorEq, ↓reduceIte, if_true, if_false, Nat.not_lt_zero, not_true_eq_false, not_false_eq_true, Bool.false_eq_true, Nat.le_refl, Nat.lt_irrefl]
    exact ⟨r, rfl, rfl⟩
  · simp (disch := omega) only [f_LH_ask_8, f_LM_ask_13, z_le, z_lt, z_eq, z_leL, z_leR, z_ltL, z_ltR, z_eqR, z_eqL, z_m1, z_m1s, z_m1le, z_m1lt, z_m1lt0, z_m1le0, z_0lem1, z_m1lek, z_add, z_addL, z_addR, z_mulR, z_sub, z_subL, z_gd, z_ix, z_cl, z_or0, z_add0, z_bs, z_gd, z_b1, z_b0, z_10, z_01, eq_self, reduceCtorEq, ↓reduceIte, if_true, if_false, Nat.not_lt_zero, not_true_eq_false, not_false_eq_true, Bool.false_eq_true, Nat.le_refl, Nat.lt_irrefl]
    exact ⟨_, rfl, rfl⟩
end Q43
theorem p_gap : lh_P31 lh_inv := by
  intro t a b a2 b2 I L x1 hi
  obtain ⟨s, w, c, m, m', hf⟩ := hi.op
  have hC := w.1.C
  cases h1 : q_is 4 x1 with
  | false => exact ⟨-1, (-1, lh_u2 I (65 + 4) 0 0), by simp only [f_LH_gap, e_isDay, h1, z_bs, z_gd, z_b1, z_b0, z_10, z_01, eq_self, reduceCtorEq, ↓reduceIte, if_true, if_false, Nat.not_lt_zero, not_true_eq_false, not_false_eq_true, Bool.false_eq_true, Nat.le_refl, Nat.lt_irrefl], by simp only [f_LM_gap, m_in03, h1, z_bs, z_gd, z_b1, z_b0, z_10, z_01, eq_self, reduceCtorEq, ↓reduceIte, if_true, if_false, Nat.not_lt_zero, not_true_eq_false, not_false_eq_true, Bool.false_eq_true, Nat.le_refl, Nat.lt_irrefl], rfl, hi.en hf⟩
  | true =>
    obtain ⟨d, hd, rfl⟩ := q_is_ex (by omega) h1
    refine ⟨nI (q_gp (s_h s) d), (nI (q_gp (s_h s) d), lh_u2 I (65 + 4) 0 0), ?_, ?_, rfl, hi.en hf⟩
    · simp only [f_LH_gap, e_isDay, h1, e_gap9 c.1 w.1 hd, f_Ha_allCells, c.1.C, z_bs, z_gd, z_b1, z_b0, z_10, z_01, eq_self, reduceCtorEq, ↓reduceIte, if_true, if_false, Nat.not_lt_zero, not_true_eq_false, not_false_eq_true, Bool.false_eq_true, Nat.le_refl, Nat.lt_irrefl]
      rw [q_all1 (by omega), q_andn (by omega)]
      simp only [Bool.true_and]
      rfl
    · simp only [f_LM_gap, m_in03, h1, m_cells m'.1, z_bs, z_gd, z_b1, z_b0, z_10, z_01, eq_self, reduceCtorEq, ↓reduceIte, if_true, if_false, Nat.not_lt_zero, not_true_eq_false, not_false_eq_true, Bool.false_eq_true, Nat.le_refl, Nat.lt_irrefl]
      rw [q_all1 (by omega), m_gap19 m'.1 w.1 hd]
      rfl
theorem p_same : lh_P32 lh_inv := by
  intro t a b a2 b2 I L hi
  obtain ⟨s, w, c, m, m', hf⟩ := hi.op
  obtain ⟨r, e1, e2⟩ := l_same (b := b) c.1 m'.1 w.1
  exact ⟨r, (r, lh_u2 I (65 + 4) 0 0), by simp only [f_LH_same, e1, z_bs, z_gd, z_b1, z_b0, z_10, z_01, eq_self, reduceCtorEq, ↓reduceIte, if_true, if_false, Nat.not_lt_zero, not_true_eq_false, not_false_eq_true, Bool.false_eq_true, Nat.le_refl, Nat.lt_irrefl], by simp only [f_LM_same, e2, z_bs, z_gd, z_b1, z_b0, z_10, z_01, eq_self, reduceCtorEq, ↓reduceIte, if_true, if_false, Nat.not_lt_zero, not_true_eq_false, not_false_eq_true, Bool.false_eq_true, Nat.le_refl, Nat.lt_irrefl], rfl, hi.en hf⟩
theorem p_crowd : lh_P27 lh_inv := by
  intro t a b a2 b2 I L x1 hi
  obtain ⟨s, w, c, m, m', hf⟩ := hi.op
  cases h1 : q_is 4 x1 with
  | false => exact ⟨-1, (-1, lh_u2 I (65 + 4) 0 0), by simp only [f_LH_crowd, e_isDay, h1, z_bs, z_gd, z_b1, z_b0, z_10, z_01, eq_self, reduceCtorEq, ↓reduceIte, if_true, if_false, Nat.not_lt_zero, not_true_eq_false, not_false_eq_true, Bool.false_eq_true, Nat.le_refl, Nat.lt_irrefl], by simp only [f_LM_crowd, m_in03, h1, z_bs, z_gd, z_b1, z_b0, z_10, z_01, eq_self, reduceCtorEq, ↓reduceIte, if_true, if_false, Nat.not_lt_zero, not_true_eq_false, not_false_eq_true, Bool.false_eq_true, Nat.le_refl, Nat.lt_irrefl], rfl, hi.en hf⟩
  | true =>
    obtain ⟨d, hd, rfl⟩ := q_is_ex (by omega) h1
    obtain ⟨r, hr⟩ : ∃ r, r = q_it (fun u x => q_it (fun c x => max x (q_cc (s_h s) d u c)) 0 (q_C (s_h s)) x) 0 8 0 := ⟨_, rfl⟩
    have e1 := e_crowd9 (b := b) c.1 w.1 hd
    have e2 := m_crowd14 m'.1 w.1 hd
    rw [← q_crowd_eq] at e2
    rw [← hr] at e1 e2
    exact ⟨nI r, (nI r, lh_u2 I (65 + 4) 0 0), by simp only [f_LH_crowd, e_isDay, h1, e1, z_bs, z_gd, z_b1, z_b0, z_10, z_01, eq_self, reduceCtorEq, ↓reduceIte, if_true, if_false, Nat.not_lt_zero, not_true_eq_false, not_false_eq_true, Bool.false_eq_true, Nat.le_refl, Nat.lt_irrefl], by simp only [f_LM_crowd, m_in03, h1, e2, z_bs, z_gd, z_b1, z_b0, z_10, z_01, eq_self, reduceCtorEq, ↓reduceIte, if_true, if_false, Nat.not_lt_zero, not_true_eq_false, not_false_eq_true, Bool.false_eq_true, Nat.le_refl, Nat.lt_irrefl], rfl, hi.en hf⟩
theorem p_days : lh_P18 lh_inv := by
  intro t a b a2 b2 I L hi
  obtain ⟨s, w, c, m, m', hf⟩ := hi.op
  exact ⟨_, (_, lh_u2 I (65 + 4) 0 0), by rw [f_LH_days, c.2.2.2.2.1.2], by rw [f_LM_days, m_daysNow m'.1 w.1 m'.2.2.2.2.1 w.2.2.2.2.1, q_bs], rfl, hi.en hf⟩
theorem p_ask : lh_P19 lh_inv := by
  intro t a b a2 b2 I L hi
  obtain ⟨s, w, c, m, m', hf⟩ := hi.op
  have e13 := c.2.2.2.2.1.2
  have b3 := q_mk31 (fun d => (s_s s).all fun q => q_sb (s_h s) d q.1 q.2.1 == q.2.2) (show 4 ≤ 12 by decide)
  obtain ⟨r, e1, e2⟩ := l_ask (b := b) c.1 m'.1 w.1 e13 (nI (q_pc (q_dl (s_h s) (s_s s))))
  refine ⟨r, (r, lh_u2 I (65 + 4) 0 0), ?_, ?_, rfl, hi.en hf⟩
  · rw [f_LH_ask, e13, e_bits (show q_dl (s_h s) (s_s s) < 4096 from b3), q_bs, e1, q_bs]
  · rw [f_LM_ask, m_daysNow m'.1 w.1 m'.2.2.2.2.1 w.2.2.2.2.1, q_bs, m_bits (show q_dl (s_h s) (s_s s) < 2 ^ 31 from Nat.lt_trans b3 (by decide)), q_bs]
    unfold q_dl
    unfold q_dl at e2
    rw [e2, q_bs]
