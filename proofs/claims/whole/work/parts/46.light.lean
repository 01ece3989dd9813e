/-! what is lit, who is seen -/
section Q46
variable {a : Nat} {I J : lh_II} {h : lh_H}
theorem q_dif : ∀ x, x < 12 → ∀ r, r < 12 → (r ≤ x → nI x - nI r = nI (x - r)) ∧ (x < r → (nI x - nI r < 0) = True) ∧ ((r ≤ x → (nI x - nI r < 0) = False)) := by decide +kernel
theorem q_difm : ∀ x, x < 12 → ∀ r, r < 12 → (r ≤ x → nI x + (-1) * nI r = nI (x - r)) ∧ (x < r → (nI x + (-1) * nI r < 0) = True) := by decide +kernel
theorem q_dist : ∀ x, x < 12 → ∀ p, p < 12 → (if 0 ≤ nI p - nI x then nI p - nI x else 0 - (nI p - nI x)) = nI (q_ds x p) := by decide +kernel
theorem q_ds_lt {x p : Nat} (hx : x < 12) (hp : p < 12) : q_ds x p < 12 := by unfold q_ds; split <;> omega
theorem e_light6 (c : q_cl a I h) (w : q_wf h) {x st : Nat} (hx : x < q_C h) (hst : st < 2147483648) : ∀ (d r y m : Nat), d + r = q_B h + 1 → d < m → ∃ e : Nat, f_Ha_lightAmong_6 a (nI x) (nI st) I m (nI y) (nI r) = some (e, nI (q_up h x st d r y))
  | 0, r, y, m + 1, hd, _ => by
    have hB := w.B
    have hC := w.C
    refine ⟨1, ?_⟩
    simp (disch := omega) only [f_Ha_lightAmong_6, c.B, show q_B h < r by omega, z_le, z_lt, z_eq, z_leL, z_leR, z_ltL, z_ltR, z_eqR, z_eqL, z_m1, z_m1s, z_m1le, z_m1lt, z_m1lt0, z_m1le0, z_0lem1, z_m1lek, z_add, z_addL, z_addR, z_mulR, z_sub, z_subL, z_gd, z_ix, z_cl, z_or0, z_add0, z_bs, z_gd, z_b1, z_b0, z_10, z_01, eq_self, reduceCtorEq, ↓reduceIte, if_true, if_false, Nat.not_lt_zero, not_true_eq_false, not_false_eq_true, Bool.false_eq_true, Nat.le_refl, Nat.lt_irrefl]
    rfl
  | d + 1, r, y, m + 1, hd, hm => by
    have hB := w.B
    have hC := w.C
    unfold q_up
    by_cases h1 : q_C h ≤ x + r
    · refine ⟨1, ?_⟩
      simp (disch := omega) only [f_Ha_lightAmong_6, c.B, c.C, h1, show ¬ q_B h < r by omega, z_le, z_lt, z_eq, z_leL, z_leR, z_ltL, z_ltR, z_eqR, z_eqL, z_m1, z_m1s, z_m1le, z_m1lt, z_m1lt0, z_m1le0, z_0lem1, z_m1lek, z_add, z_addL, z_addR, z_mulR, z_sub, z_subL, z_gd, z_ix, z_cl, z_or0, z_add0, z_bs, z_gd, z_b1, z_b0, z_10, z_01, eq_self, reduceCtorEq, ↓reduceIte, if_true, if_false, Nat.not_lt_zero, not_true_eq_false, not_false_eq_true, Bool.false_eq_true, Nat.le_refl, Nat.lt_irrefl]
    · by_cases h2 : st.testBit (x + r) = true
      · refine ⟨0, ?_⟩
        simp (disch := omega) only [f_Ha_lightAmong_6, c.B, c.C, h1, h2, z_bit1, z_sh1, z_or, show ¬ q_B h < r by omega, z_le, z_lt, z_eq, z_leL, z_leR, z_ltL, z_ltR, z_eqR, z_eqL, z_m1, z_m1s, z_m1le, z_m1lt, z_m1lt0, z_m1le0, z_0lem1, z_m1lek, z_add, z_addL, z_addR, z_mulR, z_sub, z_subL, z_gd, z_ix, z_cl, z_or0, z_add0, z_bs, z_gd, z_b1, z_b0, z_10, z_01, eq_self, reduceCtorEq, ↓reduceIte, if_true, if_false, Nat.not_lt_zero, not_true_eq_false, not_false_eq_true, Bool.false_eq_true, Nat.le_refl, Nat.lt_irrefl]
      · obtain ⟨e, he⟩ := e_light6 c w hx hst d (r + 1) (y ||| 2 ^ (x + r)) m (by omega) (by omega)
        refine ⟨e, ?_⟩
        simp (disch := omega) only [f_Ha_lightAmong_6, c.B, c.C, h1, h2, z_bit1, z_sh1, z_or, he, show ¬ q_B h < r by omega, z_le, z_lt, z_eq, z_leL, z_leR, z_ltL, z_ltR, z_eqR, z_eqL, z_m1, z_m1s, z_m1le, z_m1lt, z_m1lt0, z_m1le0, z_0lem1, z_m1lek, z_add, z_addL, z_addR, z_mulR, z_sub, z_subL, z_gd, z_ix, z_cl, z_or0, z_add0, z_bs, z_gd, z_b1, z_b0, z_10, z_01, eq_self, reduceCtorEq, ↓reduceIte, if_true, if_false, Nat.not_lt_zero, not_true_eq_false, not_false_eq_true, Bool.false_eq_true, Nat.le_refl, Nat.lt_irrefl]
  | 0, _, _, 0, _, hm => absurd hm (by omega)
  | _ + 1, _, _, 0, _, hm => absurd hm (by omega)
theorem e_light38 (c : q_cl a I h) (w : q_wf h) {x st : Nat} (hx : x < q_C h) (hst : st < 2147483648) : ∀ (d r y m : Nat), d + r = q_B h + 1 → d < m → ∃ e : Nat, f_Ha_lightAmong_38 a (nI x) (nI st) I m (nI y) (nI r) = some (e, nI (q_dn h x st d r y))
  | 0, r, y, m + 1, hd, _ => by
    have hB := w.B
    have hC := w.C
    refine ⟨1, ?_⟩
    simp (disch := omega) only [f_Ha_lightAmong_38, c.B, show q_B h < r by omega, z_le, z_lt, z_eq, z_leL, z_leR, z_ltL, z_ltR, z_eqR, z_eqL, z_m1, z_m1s, z_m1le, z_m1lt, z_m1lt0, z_m1le0, z_0lem1, z_m1lek, z_add, z_addL, z_addR, z_mulR, z_sub, z_subL, z_gd, z_ix, z_cl, z_or0, z_add0, z_bs, z_gd, z_b1, z_b0, z_10, z_01, eq_self, reduceCtorEq, ↓reduceIte, if_true, if_false, Nat.not_lt_zero, not_true_eq_false, not_false_eq_true, Bool.false_eq_true, Nat.le_refl, Nat.lt_irrefl]
    rfl
  | d + 1, r, y, m + 1, hd, hm => by
    have hB := w.B
    have hC := w.C
    obtain ⟨g1, g2, g3⟩ := q_dif x (by omega) r (by omega)
    unfold q_dn
    by_cases h1 : x < r
    · refine ⟨1, ?_⟩
      simp (disch := omega) only [f_Ha_lightAmong_38, c.B, h1, g2 h1, show ¬ q_B h < r by omega, z_lt, z_ltL, z_ltR, z_bs, z_gd, z_b1, z_b0, z_10, z_01, eq_self, reduceCtorEq, ↓reduceIte, if_true, if_false, Nat.not_lt_zero, not_true_eq_false, not_false_eq_true, Bool.false_eq_true, Nat.le_refl, Nat.lt_irrefl]
    · have h1' := g1 (by omega)
      have h3 := g3 (by omega)
      by_cases h2 : st.testBit (x - r) = true
      · refine ⟨0, ?_⟩
        simp (disch := omega) only [f_Ha_lightAmong_38, c.B, h1, h1', h2, z_bit1, z_sh1, z_or, show ¬ q_B h < r by omega, z_le, z_lt, z_eq, z_leL, z_leR, z_ltL, z_ltR, z_eqR, z_eqL, z_m1, z_m1s, z_m1le, z_m1lt, z_m1lt0, z_m1le0, z_0lem1, z_m1lek, z_add, z_addL, z_addR, z_mulR, z_sub, z_subL, z_gd, z_ix, z_cl, z_or0, z_add0, z_bs, z_gd, z_b1, z_b0, z_10, z_01, eq_self, reduceCtorEq, ↓reduceIte, if_true, if_false, Nat.not_lt_zero, not_true_eq_false, not_false_eq_true, Bool.false_eq_true, Nat.le_refl, Nat.lt_irrefl]
      · obtain ⟨e, he⟩ := e_light38 c w hx hst d (r + 1) (y ||| 2 ^ (x - r)) m (by omega) (by omega)
        refine ⟨e, ?_⟩
        simp (disch := omega) only [f_Ha_lightAmong_38, c.B, h1, h1', h2, z_bit1, z_sh1, z_or, he, show ¬ q_B h < r by omega, z_le, z_lt, z_eq, z_leL, z_leR, z_ltL, z_ltR, z_eqR, z_eqL, z_m1, z_m1s, z_m1le, z_m1lt, z_m1lt0, z_m1le0, z_0lem1, z_m1lek, z_add, z_addL, z_addR, z_mulR, z_sub, z_subL, z_gd, z_ix, z_cl, z_or0, z_add0, z_bs, z_gd, z_b1, z_b0, z_10, z_01, eq_self, reduceCtorEq, ↓reduceIte, if_true, if_false, Nat.not_lt_zero, not_true_eq_false, not_false_eq_true, Bool.false_eq_true, Nat.le_refl, Nat.lt_irrefl]
  | 0, _, _, 0, _, hm => absurd hm (by omega)
  | _ + 1, _, _, 0, _, hm => absurd hm (by omega)
theorem e_lightAmong (c : q_cl a I h) (w : q_wf h) {x st : Nat} (hx : x < q_C h) (hst : st < 2147483648) : f_Ha_lightAmong a (nI x) (nI st) I = some (nI (q_lt h x st)) := by
  have hB := w.B
  have hC := w.C
  obtain ⟨e1, h1⟩ := e_light6 c w hx hst (q_B h) 1 (2 ^ x) lh_fuel (by omega) (by unfold lh_fuel; omega)
  obtain ⟨e2, h2⟩ := e_light38 c w hx hst (q_B h) 1 (q_up h x st (q_B h) 1 (2 ^ x)) lh_fuel (by omega) (by unfold lh_fuel; omega)
  have h1' : f_Ha_lightAmong_6 a (nI x) (nI st) I lh_fuel (nI (2 ^ x)) 1 = _ := h1
  have h2' : f_Ha_lightAmong_38 a (nI x) (nI st) I lh_fuel (nI (q_up h x st (q_B h) 1 (2 ^ x))) 1 = _ := h2
  simp (disch := omega) only [f_Ha_lightAmong, z_sh1, h1', h2', ite_self, z_bs, z_gd, z_b1, z_b0, z_10, z_01, eq_self, reduceCtorEq, ↓reduceIte, if_true, if_false, Nat.not_lt_zero, not_true_eq_false, not_false_eq_true, Bool.false_eq_true, Nat.le_refl, Nat.lt_irrefl]
  rfl
/-- the order does not matter -/
theorem q_up_or (x st : Nat) : ∀ (d r y : Nat), q_up h x st d r y = y ||| q_up h x st d r 0
  | 0, r, y => by simp [q_up]
  | d + 1, r, y => by
    unfold q_up
    split
    · simp
    · split
      · simp
      · rw [q_up_or x st d (r + 1) (y ||| 2 ^ (x + r)), q_up_or x st d (r + 1) (0 ||| 2 ^ (x + r)), Nat.or_assoc, Nat.zero_or]
theorem q_dn_or (x st : Nat) : ∀ (d r y : Nat), q_dn h x st d r y = y ||| q_dn h x st d r 0
  | 0, r, y => by simp [q_dn]
  | d + 1, r, y => by
    unfold q_dn
    split
    · simp
    · split
      · simp
      · rw [q_dn_or x st d (r + 1) (y ||| 2 ^ (x - r)), q_dn_or x st d (r + 1) (0 ||| 2 ^ (x - r)), Nat.or_assoc, Nat.zero_or]
theorem q_lt_comm (x st : Nat) : q_up h x st (q_B h) 1 (q_dn h x st (q_B h) 1 (2 ^ x)) = q_lt h x st := by
  unfold q_lt
  rw [q_up_or x st _ _ (q_dn h x st (q_B h) 1 (2 ^ x)), q_dn_or x st _ _ (2 ^ x), q_dn_or x st _ _ (q_up h x st (q_B h) 1 (2 ^ x)), q_up_or x st _ _ (2 ^ x), Nat.or_assoc, Nat.or_assoc, Nat.or_comm (q_dn h x st (q_B h) 1 0)]
theorem m_isPillar (m : q_md J h) (w : q_wf h) {x : Nat} (hx : x < q_C h) : f_LM_isPillar (nI x) J = some (q_b01 ((q_P h).testBit x)) := by
  have hC := w.C
  obtain ⟨p, p1, p2, p3⟩ := m.2.2.1
  have e : (q_P h).testBit x = p.testBit x := by rw [p3, Nat.testBit_mod_two_pow]; simp [hx]
  simp (disch := omega) only [f_LM_isPillar, p2, z_bit1]
  rw [e]
  cases p.testBit x <;> rfl
theorem m_isCellN (m : q_md J h) (w : q_wf h) {x : Nat} (hx : x < 100) : f_LM_isCell (nI x) J = some (q_b01 (decide (x < q_C h))) := by
  have hC := w.C
  rw [m_isCell m, q_is_nI (by omega) (by omega)]
theorem m_isCellneg (m : q_md J h) {x : Int32} (hx : (x < 0) = True) : f_LM_isCell x J = some 0 := by
  rw [f_LM_isCell, if_pos (by rw [hx]; trivial)]
theorem m_lit13u (m : q_md J h) (w : q_wf h) {x st : Nat} {more : Int32} (hx : x < q_C h) (hst : ∀ y, y < q_C h → st.testBit y = ((q_P h).testBit y || decide (nI y = more))) : ∀ (d r y n : Nat), d + r = q_B h + 1 → d + 1 < n → f_LM_litFrom_13 (nI x) more 1 J n (nI y) 1 (nI r) = some (nI (q_up h x st d r y))
  | 0, r, y, n + 1, hd, _ => by
    have hB := w.B
    have hC := w.C
    simp (disch := omega) only [f_LM_litFrom_13, m.B, show q_B h < r by omega, z_le, z_lt, z_eq, z_leL, z_leR, z_ltL, z_ltR, z_eqR, z_eqL, z_m1, z_m1s, z_m1le, z_m1lt, z_m1lt0, z_m1le0, z_0lem1, z_m1lek, z_add, z_addL, z_addR, z_mulR, z_sub, z_subL, z_gd, z_ix, z_cl, z_or0, z_add0, z_bs, z_gd, z_b1, z_b0, z_10, z_01, eq_self, reduceCtorEq, ↓reduceIte, if_true, if_false, Nat.not_lt_zero, not_true_eq_false, not_false_eq_true, Bool.false_eq_true, Nat.le_refl, Nat.lt_irrefl]
    rfl
  | d + 1, r, y, n + 2, hd, hm => by
    have hB := w.B
    have hC := w.C
    unfold q_up
    by_cases h1 : q_C h ≤ x + r
    · have h1' : ¬ x + r < q_C h := by omega
      simp (disch := omega) only [f_LM_litFrom_13, m.B, Nat.one_mul, m_isCellN m w, h1, h1', decide_false, show ¬ q_B h < r by omega, ite_self, z_le, z_lt, z_eq, z_leL, z_leR, z_ltL, z_ltR, z_eqR, z_eqL, z_m1, z_m1s, z_m1le, z_m1lt, z_m1lt0, z_m1le0, z_0lem1, z_m1lek, z_add, z_addL, z_addR, z_mulR, z_sub, z_subL, z_gd, z_ix, z_cl, z_or0, z_add0, z_bs, z_gd, z_b1, z_b0, z_10, z_01, eq_self, reduceCtorEq, ↓reduceIte, if_true, if_false, Nat.not_lt_zero, not_true_eq_false, not_false_eq_true, Bool.false_eq_true, Nat.le_refl, Nat.lt_irrefl]
    · have h1' : x + r < q_C h := by omega
      have hs := hst (x + r) h1'
      cases hp : (q_P h).testBit (x + r) with
      | true =>
        have h2 : st.testBit (x + r) = true := by rw [hs, hp]; rfl
        simp (disch := omega) only [f_LM_litFrom_13, m.B, Nat.one_mul, m_isCellN m w, m_isPillar m w h1', hp, h1, h1', h2, decide_true, z_sh1, z_or, show ¬ q_B h < r by omega, ite_self, z_le, z_lt, z_eq, z_leL, z_leR, z_ltL, z_ltR, z_eqR, z_eqL, z_m1, z_m1s, z_m1le, z_m1lt, z_m1lt0, z_m1le0, z_0lem1, z_m1lek, z_add, z_addL, z_addR, z_mulR, z_sub, z_subL, z_gd, z_ix, z_cl, z_or0, z_add0, z_bs, z_gd, z_b1, z_b0, z_10, z_01, eq_self, reduceCtorEq, ↓reduceIte, if_true, if_false, Nat.not_lt_zero, not_true_eq_false, not_false_eq_true, Bool.false_eq_true, Nat.le_refl, Nat.lt_irrefl]
      | false =>
        by_cases h3 : nI (x + r) = more
        · have h2 : st.testBit (x + r) = true := by rw [hs, hp]; simp [h3]
          subst h3
          simp (disch := omega) only [f_LM_litFrom_13, m.B, Nat.one_mul, m_isCellN m w, m_isPillar m w h1', hp, h1, h1', h2, decide_true, z_sh1, z_or, show ¬ q_B h < r by omega, ite_self, z_le, z_lt, z_eq, z_leL, z_leR, z_ltL, z_ltR, z_eqR, z_eqL, z_m1, z_m1s, z_m1le, z_m1lt, z_m1lt0, z_m1le0, z_0lem1, z_m1lek, z_add, z_addL, z_addR, z_mulR, z_sub, z_subL, z_gd, z_ix, z_cl, z_or0, z_add0, z_bs, z_gd, z_b1, z_b0, z_10, z_01, eq_self, reduceCtorEq, ↓reduceIte, if_true, if_false, Nat.not_lt_zero, not_true_eq_false, not_false_eq_true, Bool.false_eq_true, Nat.le_refl, Nat.lt_irrefl]
        · have h2 : ¬ st.testBit (x + r) = true := by rw [hs, hp]; simp [h3]
          rw [f_LM_litFrom_13]
          simp (disch := omega) only [m.B, Nat.one_mul, m_isCellN m w, m_isPillar m w h1', hp, h1, h1', h2, h3, decide_true, z_sh1, z_or, show ¬ q_B h < r by omega, ite_self, m_lit13u m w hx hst d (r + 1) (y ||| 2 ^ (x + r)) (n + 1) (by omega) (by omega), z_le, z_lt, z_eq, z_leL, z_leR, z_ltL, z_ltR, z_eqR, z_eqL, z_m1, z_m1s, z_m1le, z_m1lt, z_m1lt0, z_m1le0, z_0lem1, z_m1lek, z_add, z_addL, z_addR, z_mulR, z_sub, z_subL, z_gd, z_ix, z_cl, z_or0, z_add0, z_bs, z_gd, z_b1, z_b0, z_10, z_01, eq_self, reduceCtorEq, ↓reduceIte, if_true, if_false, Nat.not_lt_zero, not_true_eq_false, not_false_eq_true, Bool.false_eq_true, Nat.le_refl, Nat.lt_irrefl]
  | 0, _, _, 0, _, hm => absurd hm (by omega)
  | _ + 1, _, _, 0, _, hm => absurd hm (by omega)
  | _ + 1, _, _, 1, _, hm => absurd hm (by omega)
theorem m_lit13d (m : q_md J h) (w : q_wf h) {x st : Nat} {more : Int32} (hx : x < q_C h) (hst : ∀ y, y < q_C h → st.testBit y = ((q_P h).testBit y || decide (nI y = more))) : ∀ (d r y n : Nat), d + r = q_B h + 1 → d + 1 < n → f_LM_litFrom_13 (nI x) more (-1) J n (nI y) 1 (nI r) = some (nI (q_dn h x st d r y))
  | 0, r, y, n + 1, hd, _ => by
    have hB := w.B
    have hC := w.C
    simp (disch := omega) only [f_LM_litFrom_13, m.B, show q_B h < r by omega, z_le, z_lt, z_eq, z_leL, z_leR, z_ltL, z_ltR, z_eqR, z_eqL, z_m1, z_m1s, z_m1le, z_m1lt, z_m1lt0, z_m1le0, z_0lem1, z_m1lek, z_add, z_addL, z_addR, z_mulR, z_sub, z_subL, z_gd, z_ix, z_cl, z_or0, z_add0, z_bs, z_gd, z_b1, z_b0, z_10, z_01, eq_self, reduceCtorEq, ↓reduceIte, if_true, if_false, Nat.not_lt_zero, not_true_eq_false, not_false_eq_true, Bool.false_eq_true, Nat.le_refl, Nat.lt_irrefl]
    rfl
  | d + 1, r, y, n + 2, hd, hm => by
    have hB := w.B
    have hC := w.C
    obtain ⟨g1, g2⟩ := q_difm x (by omega) r (by omega)
    unfold q_dn
    by_cases h1 : x < r
    · simp (disch := omega) only [f_LM_litFrom_13, m.B, m_isCellneg m (g2 h1), h1, show ¬ q_B h < r by omega, ite_self, z_le, z_lt, z_ltL, z_ltR, z_addL, z_or0, z_bs, z_gd, z_b1, z_b0, z_10, z_01, eq_self, reduceCtorEq, ↓reduceIte, if_true, if_false, Nat.not_lt_zero, not_true_eq_false, not_false_eq_true, Bool.false_eq_true, Nat.le_refl, Nat.lt_irrefl]
    · have h0 := g1 (by omega)
      have h1' : x - r < q_C h := by omega
      have hs := hst (x - r) h1'
      cases hp : (q_P h).testBit (x - r) with
      | true =>
        have h2 : st.testBit (x - r) = true := by rw [hs, hp]; rfl
        simp (disch := omega) only [f_LM_litFrom_13, m.B, h0, m_isCellN m w, m_isPillar m w h1', hp, h1, h1', h2, decide_true, z_sh1, z_or, show ¬ q_B h < r by omega, ite_self, z_le, z_lt, z_eq, z_leL, z_leR, z_ltL, z_ltR, z_eqR, z_eqL, z_m1, z_m1s, z_m1le, z_m1lt, z_m1lt0, z_m1le0, z_0lem1, z_m1lek, z_add, z_addL, z_addR, z_mulR, z_sub, z_subL, z_gd, z_ix, z_cl, z_or0, z_add0, z_bs, z_gd, z_b1, z_b0, z_10, z_01, eq_self, reduceCtorEq, ↓reduceIte, if_true, if_false, Nat.not_lt_zero, not_true_eq_false, not_false_eq_true, Bool.false_eq_true, Nat.le_refl, Nat.lt_irrefl]
      | false =>
        by_cases h3 : nI (x - r) = more
        · have h2 : st.testBit (x - r) = true := by rw [hs, hp]; simp [h3]
          subst h3
          simp (disch := omega) only [f_LM_litFrom_13, m.B, h0, m_isCellN m w, m_isPillar m w h1', hp, h1, h1', h2, decide_true, z_sh1, z_or, show ¬ q_B h < r by omega, ite_self, z_le, z_lt, z_eq, z_leL, z_leR, z_ltL, z_ltR, z_eqR, z_eqL, z_m1, z_m1s, z_m1le, z_m1lt, z_m1lt0, z_m1le0, z_0lem1, z_m1lek, z_add, z_addL, z_addR, z_mulR, z_sub, z_subL, z_gd, z_ix, z_cl, z_or0, z_add0, z_bs, z_gd, z_b1, z_b0, z_10, z_01, eq_self, reduceCtorEq, ↓reduceIte, if_true, if_false, Nat.not_lt_zero, not_true_eq_false, not_false_eq_true, Bool.false_eq_true, Nat.le_refl, Nat.lt_irrefl]
        · have h2 : ¬ st.testBit (x - r) = true := by rw [hs, hp]; simp [h3]
          rw [f_LM_litFrom_13]
          simp (disch := omega) only [m.B, h0, m_isCellN m w, m_isPillar m w h1', hp, h1, h1', h2, h3, decide_true, z_sh1, z_or, show ¬ q_B h < r by omega, ite_self, m_lit13d m w hx hst d (r + 1) (y ||| 2 ^ (x - r)) (n + 1) (by omega) (by omega), z_le, z_lt, z_eq, z_leL, z_leR, z_ltL, z_ltR, z_eqR, z_eqL, z_m1, z_m1s, z_m1le, z_m1lt, z_m1lt0, z_m1le0, z_0lem1, z_m1lek, z_add, z_addL, z_addR, z_mulR, z_sub, z_subL, z_gd, z_ix, z_cl, z_or0, z_add0, z_bs, z_gd, z_b1, z_b0, z_10, z_01, eq_self, reduceCtorEq, ↓reduceIte, if_true, if_false, Nat.not_lt_zero, not_true_eq_false, not_false_eq_true, Bool.false_eq_true, Nat.le_refl, Nat.lt_irrefl]
  | 0, _, _, 0, _, hm => absurd hm (by omega)
  | _ + 1, _, _, 0, _, hm => absurd hm (by omega)
  | _ + 1, _, _, 1, _, hm => absurd hm (by omega)
theorem m_litFromG (m : q_md J h) (w : q_wf h) {x st : Nat} {more : Int32} (hx : x < q_C h) (hst : ∀ y, y < q_C h → st.testBit y = ((q_P h).testBit y || decide (nI y = more))) : f_LM_litFrom (nI x) more J = some (nI (q_lt h x st)) := by
  have hB := w.B
  have hC := w.C
  have h1 : f_LM_litFrom_13 (nI x) more (-1) J lh_fuel (nI (2 ^ x)) 1 1 = _ := m_lit13d m w hx hst (q_B h) 1 (2 ^ x) lh_fuel (by omega) (by unfold lh_fuel; omega)
  have h2 : f_LM_litFrom_13 (nI x) more 1 J lh_fuel (nI (q_dn h x st (q_B h) 1 (2 ^ x))) 1 1 = _ := m_lit13u m w hx hst (q_B h) 1 (q_dn h x st (q_B h) 1 (2 ^ x)) lh_fuel (by omega) (by unfold lh_fuel; omega)
  have g1 : ¬ (2 : Int32) ≤ -1 := by decide
  have g2 : ¬ (2 : Int32) ≤ 1 := by decide
  have g3 : (2 : Int32) ≤ 3 := by decide
  have g4 : (-1 : Int32) + 2 = 1 := by decide
  have g5 : (1 : Int32) + 2 = 3 := by decide
  rw [f_LM_litFrom, show lh_fuel = 4997 + 1 + 1 + 1 from rfl, f_LM_litFrom_6, if_neg g1, z_sh1 (by omega), h1, q_bs, g4, f_LM_litFrom_6, if_neg g2, h2, q_bs, g5, f_LM_litFrom_6, if_pos g3, q_bs, q_lt_comm]
theorem m_litFrom (m : q_md J h) (w : q_wf h) {x : Nat} (hx : x < q_C h) : f_LM_litFrom (nI x) (-1) J = some (nI (q_lt h x (q_P h))) := by
  have hC := w.C
  exact m_litFromG m w hx (fun y hy => by simp (disch := omega) only [z_m1, decide_false, Bool.or_false])
theorem m_litFromM (m : q_md J h) (w : q_wf h) {x y : Nat} (hx : x < q_C h) (hy : y < q_C h) : f_LM_litFrom (nI x) (nI y) J = some (nI (q_lt h x (q_P h ||| 2 ^ y))) := by
  have hC := w.C
  exact m_litFromG m w hx (fun z hz => by
    simp (disch := omega) only [z_eq]
    rw [fb_bit_set])
/-- what is lit lies near -/
theorem q_up_tb {x st i : Nat} : ∀ {d r y : Nat}, (q_up h x st d r y).testBit i = true → y.testBit i = true ∨ (x + r ≤ i ∧ i < x + r + d ∧ i < q_C h)
  | 0, r, y, hb => Or.inl hb
  | d + 1, r, y, hb => by
    unfold q_up at hb
    split at hb
    · exact Or.inl hb
    · split at hb
      · rw [fb_bit_set] at hb
        simp only [Bool.or_eq_true, decide_eq_true_eq] at hb
        rcases hb with hb | hb
        · exact Or.inl hb
        · exact Or.inr (by omega)
      · rcases q_up_tb hb with hb | hb
        · rw [fb_bit_set] at hb
          simp only [Bool.or_eq_true, decide_eq_true_eq] at hb
          rcases hb with hb | hb
          · exact Or.inl hb
          · exact Or.inr (by omega)
        · exact Or.inr (by omega)
theorem q_dn_tb {x st i : Nat} : ∀ {d r y : Nat}, (q_dn h x st d r y).testBit i = true → y.testBit i = true ∨ (i + r ≤ x ∧ x < i + r + d)
  | 0, r, y, hb => Or.inl hb
  | d + 1, r, y, hb => by
    unfold q_dn at hb
    split at hb
    · exact Or.inl hb
    · split at hb
      · rw [fb_bit_set] at hb
        simp only [Bool.or_eq_true, decide_eq_true_eq] at hb
        rcases hb with hb | hb
        · exact Or.inl hb
        · exact Or.inr (by omega)
      · rcases q_dn_tb hb with hb | hb
        · rw [fb_bit_set] at hb
          simp only [Bool.or_eq_true, decide_eq_true_eq] at hb
          rcases hb with hb | hb
          · exact Or.inl hb
          · exact Or.inr (by omega)
        · exact Or.inr (by omega)
theorem q_lt_tb {x st i : Nat} (hx : x < q_C h) (hb : (q_lt h x st).testBit i = true) : i < q_C h ∧ q_ds x i ≤ q_B h := by
  unfold q_lt at hb
  unfold q_ds
  rcases q_dn_tb hb with hb | hb
  · rcases q_up_tb hb with hb | hb
    · rw [Nat.testBit_two_pow] at hb
      simp only [decide_eq_true_eq] at hb
      subst hb
      exact ⟨hx, by split <;> omega⟩
    · exact ⟨hb.2.2, by split <;> omega⟩
  · exact ⟨by omega, by split <;> omega⟩
theorem q_lt_lt (w : q_wf h) {x st : Nat} (hx : x < q_C h) : q_lt h x st < 4096 := by
  have hC := w.C
  apply Nat.lt_of_lt_of_le (m := 2 ^ q_C h)
  · apply Nat.lt_pow_two_of_testBit
    intro i hi
    cases e : (q_lt h x st).testBit i with
    | false => rfl
    | true => have := q_lt_tb hx e; omega
  · exact Nat.pow_le_pow_right (n := 2) (by decide) hC.2
/-- who is seen -/
def q_se (h : lh_H) (lit x d l u : Nat) : Nat := q_mk (fun v => match q_pl h v u with
  | none => false
  | some p => lit.testBit p && decide (q_sd h d l (q_ds x p) u = q_dy h v)) (q_N h)
theorem q_se_lt (w : q_wf h) (lit x d l u : Nat) : q_se h lit x d l u < 2 ^ q_N h := q_mk_lt _ _
theorem q_se_64 (w : q_wf h) (lit x d l u : Nat) : q_se h lit x d l u < 64 := Nat.lt_of_lt_of_le (q_mk_lt _ _) (Nat.pow_le_pow_right (n := 2) (by decide) w.N)
theorem e_tell (c : q_cl a I h) (w : q_wf h) (d l u : Nat) : ∃ I', f_Ha_tellDaysShown a (nI d) (nI l) (nI u) I = some I' ∧ (∀ r, r ≤ q_B h → I' (a + 11 + 4) r = nI (q_sd h d l r u)) ∧ ∀ o k, o ≠ a + 7 → o ≠ a + 15 → I' o k = I o k := by
  have hB := w.B
  have key := q_forI (F := fun n k (K : lh_II) => f_Ha_tellDaysShown_2 a (nI d) (nI l) (nI u) n (nI k) K) (N := q_B h + 1) (P := fun k K => (∀ r, r < k → K (a + 11 + 4) r = nI (q_sd h d l r u)) ∧ ∀ o k, o ≠ a + 7 → o ≠ a + 15 → K o k = I o k) (Q := fun K => (∀ r, r ≤ q_B h → K (a + 11 + 4) r = nI (q_sd h d l r u)) ∧ ∀ o k, o ≠ a + 7 → o ≠ a + 15 → K o k = I o k) (fun n k K hk hK => by
    have cK : q_cl a K h := c.keep (fun j k' hj hj3 => hK.2 _ _ (by omega) (by omega))
    obtain ⟨K', g1, g2⟩ := e_dayShown cK w d l k u
    refine ⟨lh_u2 K' (a + 11 + 4) k (nI (q_sd h d l k u)), ⟨fun r hr => ?_, fun o k' h1 h2 => ?_⟩, ?_⟩
    · by_cases e : r = k
      · subst e; exact q_u2s
      · rw [q_u2o (by omega), g2 _ _ (by omega)]; exact hK.1 r (by omega)
    · rw [q_u2o (by omega), g2 _ _ h1]; exact hK.2 o k' h1 h2
    · simp (disch := omega) only [f_Ha_tellDaysShown_2, cK.B, g1, show ¬ q_B h < k by omega, show ¬ 12 ≤ k by omega, z_le, z_lt, z_eq, z_leL, z_leR, z_ltL, z_ltR, z_eqR, z_eqL, z_m1, z_m1s, z_m1le, z_m1lt, z_m1lt0, z_m1le0, z_0lem1, z_m1lek, z_add, z_addL, z_addR, z_mulR, z_sub, z_subL, z_gd, z_ix, z_cl, z_or0, z_add0, z_bs, z_gd, z_b1, z_b0, z_10, z_01, eq_self, reduceCtorEq, ↓reduceIte, if_true, if_false, Nat.not_lt_zero, not_true_eq_false, not_false_eq_true, Bool.false_eq_true, Nat.le_refl, Nat.lt_irrefl]) (fun n K hK => by
    refine ⟨K, ?_, fun r hr => hK.1 r (by omega), hK.2⟩
    have cK : q_cl a K h := c.keep (fun j k' hj hj3 => hK.2 _ _ (by omega) (by omega))
    simp (disch := omega) only [f_Ha_tellDaysShown_2, cK.B, show q_B h < q_B h + 1 by omega, z_le, z_lt, z_eq, z_leL, z_leR, z_ltL, z_ltR, z_eqR, z_eqL, z_m1, z_m1s, z_m1le, z_m1lt, z_m1lt0, z_m1le0, z_0lem1, z_m1lek, z_add, z_addL, z_addR, z_mulR, z_sub, z_subL, z_gd, z_ix, z_cl, z_or0, z_add0, z_bs, z_gd, z_b1, z_b0, z_10, z_01, eq_self, reduceCtorEq, ↓reduceIte, if_true, if_false, Nat.not_lt_zero, not_true_eq_false, not_false_eq_true, Bool.false_eq_true, Nat.le_refl, Nat.lt_irrefl]) (q_B h + 1) lh_fuel 0 I (Nat.zero_add _) (by unfold lh_fuel; omega) ⟨fun r hr => absurd hr (by omega), fun _ _ _ _ => rfl⟩
  obtain ⟨I', e, h1, h2⟩ := key
  have e' : f_Ha_tellDaysShown_2 a (nI d) (nI l) (nI u) lh_fuel 0 I = some I' := e
  exact ⟨I', by rw [f_Ha_tellDaysShown, e', q_bs], h1, h2⟩
theorem e_seenIn (c : q_cl a I h) (w : q_wf h) {lit x d l u : Nat} (hx : x < q_C h) (hu : u < 8) (hl : lit < 2147483648) (hn : ∀ p, lit.testBit p = true → q_ds x p ≤ q_B h) (hI : ∀ r, r ≤ q_B h → I (a + 11 + 4) r = nI (q_sd h d l r u)) : f_Ha_seenIn a (nI lit) (nI x) (nI u) I = some (nI (q_se h lit x d l u)) := by
  have hN := w.N
  have hC := w.C
  have := q_for (F := fun n k (y : Nat) => f_Ha_seenIn_4 a (nI lit) (nI x) (nI u) I n (nI y) (nI k)) (N := q_N h) (step := fun v y => if (match q_pl h v u with | none => false | some p => lit.testBit p && decide (q_sd h d l (q_ds x p) u = q_dy h v)) = true then y ||| 2 ^ v else y) (fin := nI) (fun n k y hk => by
    cases hp : q_pl h k u with
    | none => simp (disch := omega) only [f_Ha_seenIn_4, c.N, e_placeOfN c w, hp, z_eN, show ¬ q_N h ≤ k by omega, z_le, z_lt, z_eq, z_leL, z_leR, z_ltL, z_ltR, z_eqR, z_eqL, z_m1, z_m1s, z_m1le, z_m1lt, z_m1lt0, z_m1le0, z_0lem1, z_m1lek, z_add, z_addL, z_addR, z_mulR, z_sub, z_subL, z_gd, z_ix, z_cl, z_or0, z_add0, z_bs, z_gd, z_b1, z_b0, z_10, z_01, eq_self, reduceCtorEq, ↓reduceIte, if_true, if_false, Nat.not_lt_zero, not_true_eq_false, not_false_eq_true, Bool.false_eq_true, Nat.le_refl, Nat.lt_irrefl]
    | some p =>
      have hpC := w.pl hk hu hp
      cases hb : lit.testBit p with
      | false => simp (disch := omega) only [f_Ha_seenIn_4, c.N, e_placeOfN c w, hp, hb, z_eS, z_bit1, Bool.false_and, show ¬ q_N h ≤ k by omega, z_le, z_lt, z_eq, z_leL, z_leR, z_ltL, z_ltR, z_eqR, z_eqL, z_m1, z_m1s, z_m1le, z_m1lt, z_m1lt0, z_m1le0, z_0lem1, z_m1lek, z_add, z_addL, z_addR, z_mulR, z_sub, z_subL, z_gd, z_ix, z_cl, z_or0, z_add0, z_bs, z_gd, z_b1, z_b0, z_10, z_01, eq_self, reduceCtorEq, ↓reduceIte, if_true, if_false, Nat.not_lt_zero, not_true_eq_false, not_false_eq_true, Bool.false_eq_true, Nat.le_refl, Nat.lt_irrefl]
      | true =>
        have h1 := hn p hb
        have h2 := q_ds_lt (show x < 12 by omega) (show p < 12 by omega)
        have h3 := q_sd_lt h d l (q_ds x p) u
        have h4 := w.dy hk
        simp (disch := omega) only [f_Ha_seenIn_4, c.N, e_placeOfN c w, hp, hb, z_eS, z_bit1, z_le, z_m1, show ¬ q_N h ≤ k by omega, Bool.true_and, decide_eq_true_eq, z_bs, z_gd, z_b1, z_b0, z_10, z_01, eq_self, reduceCtorEq, ↓reduceIte, if_true, if_false, Nat.not_lt_zero, not_true_eq_false, not_false_eq_true, Bool.false_eq_true, Nat.le_refl, Nat.lt_irrefl]
        rw [q_dist x (by omega) p (by omega)]
        simp (disch := omega) only [hI _ h1, c.dy hk, z_sh1, z_or, z_le, z_lt, z_eq, z_leL, z_leR, z_ltL, z_ltR, z_eqR, z_eqL, z_m1, z_m1s, z_m1le, z_m1lt, z_m1lt0, z_m1le0, z_0lem1, z_m1lek, z_add, z_addL, z_addR, z_mulR, z_sub, z_subL, z_gd, z_ix, z_cl, z_or0, z_add0, z_bs, z_gd, z_b1, z_b0, z_10, z_01, eq_self, reduceCtorEq, ↓reduceIte, if_true, if_false, Nat.not_lt_zero, not_true_eq_false, not_false_eq_true, Bool.false_eq_true, Nat.le_refl, Nat.lt_irrefl]
        by_cases h5 : q_sd h d l (q_ds x p) u = q_dy h k <;> simp only [h5, z_bs, z_gd, z_b1, z_b0, z_10, z_01, eq_self, reduceCtorEq, ↓reduceIte, if_true, if_false, Nat.not_lt_zero, not_true_eq_false, not_false_eq_true, Bool.false_eq_true, Nat.le_refl, Nat.lt_irrefl]) (fun n y => by
    simp (disch := omega) only [f_Ha_seenIn_4, c.N, z_le, z_lt, z_eq, z_leL, z_leR, z_ltL, z_ltR, z_eqR, z_eqL, z_m1, z_m1s, z_m1le, z_m1lt, z_m1lt0, z_m1le0, z_0lem1, z_m1lek, z_add, z_addL, z_addR, z_mulR, z_sub, z_subL, z_gd, z_ix, z_cl, z_or0, z_add0, z_bs, z_gd, z_b1, z_b0, z_10, z_01, eq_self, reduceCtorEq, ↓reduceIte, if_true, if_false, Nat.not_lt_zero, not_true_eq_false, not_false_eq_true, Bool.false_eq_true, Nat.le_refl, Nat.lt_irrefl]) (q_N h) lh_fuel 0 0 (Nat.zero_add _) (by unfold lh_fuel; omega)
  rw [q_mkIt (p := fun v => match q_pl h v u with | none => false | some p => lit.testBit p && decide (q_sd h d l (q_ds x p) u = q_dy h v))] at this
  have h2 : f_Ha_seenIn_4 a (nI lit) (nI x) (nI u) I lh_fuel 0 0 = _ := this
  rw [f_Ha_seenIn, h2, q_bs]
  rfl
theorem m_seenFrom (m : q_md J h) (w : q_wf h) {b0 lit x d l u : Nat} (hb : b0 ≤ 704) (hd : J (78 + 4) (b0 + 3) = nI d) (hl : J (78 + 4) (b0 + 4) = nI l) (hu : J (78 + 4) (b0 + 2) = nI u) (hd4 : d < 4) (hx : x < q_C h) (hu8 : u < 8) (hlit : lit < 2147483648) : ∃ J', f_LM_seenFrom (nI b0) (nI x) (nI lit) J = some (nI (q_se h lit x d l u), J') ∧ ∀ o k, o ≠ 80 → o ≠ 81 → J' o k = J o k := by
  have hN := w.N
  have hC := w.C
  have key := q_forI (F := fun n k (K : Nat × lh_II) => f_LM_seenFrom_4 (nI b0) (nI x) (nI lit) n (nI K.1) (nI k) K.2) (N := q_N h) (P := fun k K => K.1 = q_mk (fun v => match q_pl h v u with | none => false | some p => lit.testBit p && decide (q_sd h d l (q_ds x p) u = q_dy h v)) k ∧ ∀ o k, o ≠ 80 → o ≠ 81 → K.2 o k = J o k) (Q := fun r => r.1 = nI (q_se h lit x d l u) ∧ ∀ o k, o ≠ 80 → o ≠ 81 → r.2 o k = J o k) (fun n k K hk hK => by
    obtain ⟨y, K⟩ := K
    obtain ⟨hy, hK⟩ := hK
    simp only at hy hK
    have mK : q_md K h := m.keep w (fun k _ => hK _ _ (by omega) (by omega)) (fun k _ => hK _ _ (by omega) (by omega)) (fun k _ => hK _ _ (by omega) (by omega))
    have hu' : K (78 + 4) (b0 + 2) = nI u := by rw [hK _ _ (by omega) (by omega)]; exact hu
    cases hp : q_pl h k u with
    | none =>
      refine ⟨(y, K), ⟨by rw [hy]; exact (q_mk_no (by simp only [hp])).symm, hK⟩, ?_⟩
      simp (disch := omega) only [f_LM_seenFrom_4, m_visitors mK, hu', m_cellOf mK w, hp, z_eN, show ¬ q_N h ≤ k by omega, z_le, z_lt, z_eq, z_leL, z_leR, z_ltL, z_ltR, z_eqR, z_eqL, z_m1, z_m1s, z_m1le, z_m1lt, z_m1lt0, z_m1le0, z_0lem1, z_m1lek, z_add, z_addL, z_addR, z_mulR, z_sub, z_subL, z_gd, z_ix, z_cl, z_or0, z_add0, z_bs, z_gd, z_b1, z_b0, z_10, z_01, eq_self, reduceCtorEq, ↓reduceIte, if_true, if_false, Nat.not_lt_zero, not_true_eq_false, not_false_eq_true, Bool.false_eq_true, Nat.le_refl, Nat.lt_irrefl]
    | some p =>
      have hpC := w.pl hk hu8 hp
      cases hb : lit.testBit p with
      | false =>
        refine ⟨(y, K), ⟨by rw [hy]; exact (q_mk_no (by simp only [hp, hb, Bool.false_and])).symm, hK⟩, ?_⟩
        simp (disch := omega) only [f_LM_seenFrom_4, m_visitors mK, hu', m_cellOf mK w, hp, hb, z_eS, z_bit1, show ¬ q_N h ≤ k by omega, z_le, z_lt, z_eq, z_leL, z_leR, z_ltL, z_ltR, z_eqR, z_eqL, z_m1, z_m1s, z_m1le, z_m1lt, z_m1lt0, z_m1le0, z_0lem1, z_m1lek, z_add, z_addL, z_addR, z_mulR, z_sub, z_subL, z_gd, z_ix, z_cl, z_or0, z_add0, z_bs, z_gd, z_b1, z_b0, z_10, z_01, eq_self, reduceCtorEq, ↓reduceIte, if_true, if_false, Nat.not_lt_zero, not_true_eq_false, not_false_eq_true, Bool.false_eq_true, Nat.le_refl, Nat.lt_irrefl]
      | true =>
        have h3 := q_sd_lt h d l (q_ds x p) u
        have h4 := w.dy hk
        obtain ⟨K', g1, g2⟩ := m_dayShown mK w (b0 := b0) (x := x) (y := p) (by omega) (by rw [hK _ _ (by omega) (by omega)]; exact hd) (by rw [hK _ _ (by omega) (by omega)]; exact hl) hu' hd4 (by omega) (by omega)
        have hK' : ∀ o k, o ≠ 80 → o ≠ 81 → K' o k = J o k := fun o k h1 h2 => by rw [g2 o k h1 h2, hK o k h1 h2]
        have mK' : q_md K' h := m.keep w (fun k _ => hK' _ _ (by omega) (by omega)) (fun k _ => hK' _ _ (by omega) (by omega)) (fun k _ => hK' _ _ (by omega) (by omega))
        by_cases h5 : q_sd h d l (q_ds x p) u = q_dy h k
        · refine ⟨(y ||| 2 ^ k, K'), ⟨by show y ||| 2 ^ k = _; rw [hy]; exact q_mk_or (by simp only [hp, hb, h5, Bool.true_and, decide_true]), hK'⟩, ?_⟩
          simp (disch := omega) only [f_LM_seenFrom_4, m_visitors mK, hu', m_cellOf mK w, hp, hb, z_eS, z_bit1, g1, m_dayOf mK' w, h5, z_sh1, z_or, show ¬ q_N h ≤ k by omega, z_le, z_lt, z_eq, z_leL, z_leR, z_ltL, z_ltR, z_eqR, z_eqL, z_m1, z_m1s, z_m1le, z_m1lt, z_m1lt0, z_m1le0, z_0lem1, z_m1lek, z_add, z_addL, z_addR, z_mulR, z_sub, z_subL, z_gd, z_ix, z_cl, z_or0, z_add0, z_bs, z_gd, z_b1, z_b0, z_10, z_01, eq_self, reduceCtorEq, ↓reduceIte, if_true, if_false, Nat.not_lt_zero, not_true_eq_false, not_false_eq_true, Bool.false_eq_true, Nat.le_refl, Nat.lt_irrefl]
        · refine ⟨(y, K'), ⟨by rw [hy]; exact (q_mk_no (by simp only [hp, hb, h5, Bool.true_and, decide_false])).symm, hK'⟩, ?_⟩
          simp (disch := omega) only [f_LM_seenFrom_4, m_visitors mK, hu', m_cellOf mK w, hp, hb, z_eS, z_bit1, g1, m_dayOf mK' w, h5, show ¬ q_N h ≤ k by omega, z_le, z_lt, z_eq, z_leL, z_leR, z_ltL, z_ltR, z_eqR, z_eqL, z_m1, z_m1s, z_m1le, z_m1lt, z_m1lt0, z_m1le0, z_0lem1, z_m1lek, z_add, z_addL, z_addR, z_mulR, z_sub, z_subL, z_gd, z_ix, z_cl, z_or0, z_add0, z_bs, z_gd, z_b1, z_b0, z_10, z_01, eq_self, reduceCtorEq, ↓reduceIte, if_true, if_false, Nat.not_lt_zero, not_true_eq_false, not_false_eq_true, Bool.false_eq_true, Nat.le_refl, Nat.lt_irrefl]) (fun n K hK => by
    obtain ⟨y, K⟩ := K
    obtain ⟨hy, hK⟩ := hK
    have mK : q_md K h := m.keep w (fun k _ => hK _ _ (by omega) (by omega)) (fun k _ => hK _ _ (by omega) (by omega)) (fun k _ => hK _ _ (by omega) (by omega))
    refine ⟨(nI y, K), ?_, ⟨by simp only at hy; rw [hy]; rfl, hK⟩⟩
    simp (disch := omega) only [f_LM_seenFrom_4, m_visitors mK, z_le, z_lt, z_eq, z_leL, z_leR, z_ltL, z_ltR, z_eqR, z_eqL, z_m1, z_m1s, z_m1le, z_m1lt, z_m1lt0, z_m1le0, z_0lem1, z_m1lek, z_add, z_addL, z_addR, z_mulR, z_sub, z_subL, z_gd, z_ix, z_cl, z_or0, z_add0, z_bs, z_gd, z_b1, z_b0, z_10, z_01, eq_self, reduceCtorEq, ↓reduceIte, if_true, if_false, Nat.not_lt_zero, not_true_eq_false, not_false_eq_true, Bool.false_eq_true, Nat.le_refl, Nat.lt_irrefl]) (q_N h) lh_fuel 0 (0, J) (Nat.zero_add _) (by unfold lh_fuel; omega) ⟨rfl, fun _ _ _ _ => rfl⟩
  obtain ⟨⟨r, J'⟩, e, h1, h2⟩ := key
  simp only at h1 h2
  subst h1
  have e' : f_LM_seenFrom_4 (nI b0) (nI x) (nI lit) lh_fuel 0 0 J = _ := e
  exact ⟨J', by rw [f_LM_seenFrom, e', q_bs], h2⟩
/-- of a moment -/
def q_sm (h : lh_H) (m : lh_Mt) (st : Nat) : Nat := if u_o m = 0 then 0 else q_se h (q_lt h (u_c m) st) (u_c m) (u_d m) (u_o m) (u_h m)
def q_lm (h : lh_H) (m : lh_Mt) : Nat := if u_o m = 0 then 0 else q_lt h (u_c m) (q_P h)
theorem q_sm_lt (w : q_wf h) (m : lh_Mt) (st : Nat) : q_sm h m st < 2 ^ q_N h := by
  unfold q_sm
  split
  · exact Nat.two_pow_pos _
  · exact q_se_lt w _ _ _ _ _
theorem q_sm_64 (w : q_wf h) (m : lh_Mt) (st : Nat) : q_sm h m st < 64 := Nat.lt_of_lt_of_le (q_sm_lt w m st) (Nat.pow_le_pow_right (n := 2) (by decide) w.N)
def q_fc (a : Nat) (I I' : lh_II) : Prop := ∀ o k, o ≠ a + 7 → o ≠ a + 15 → I' o k = I o k
theorem e_seenBehind (c : q_cl a I h) (w : q_wf h) {o n st : Nat} {m : lh_Mt} (ha : a = 11 ∨ a = 23) (ho : o = 7 ∨ o = 8) (hm : q_mc I o m) (hw : q_mw h n m) (hst : st < 2147483648) : ∃ I', f_Ha_seenBehind a o (nI st) I = some (nI (q_sm h m st), I') ∧ q_fc a I I' := by
  obtain ⟨m1, m2, m3, m4, m5, m6, m7⟩ := hm
  obtain ⟨w1, w2, w3, w4, w5, w6⟩ := hw
  unfold q_sm
  by_cases h0 : u_o m = 0
  · refine ⟨I, ?_, fun _ _ _ _ => rfl⟩
    simp (disch := omega) only [f_Ha_seenBehind, m4, h0, z_le, z_lt, z_eq, z_leL, z_leR, z_ltL, z_ltR, z_eqR, z_eqL, z_m1, z_m1s, z_m1le, z_m1lt, z_m1lt0, z_m1le0, z_0lem1, z_m1lek, z_add, z_addL, z_addR, z_mulR, z_sub, z_subL, z_gd, z_ix, z_cl, z_or0, z_add0, z_bs, z_gd, z_b1, z_b0, z_10, z_01, eq_self, reduceCtorEq, ↓reduceIte, if_true, if_false, Nat.not_lt_zero, not_true_eq_false, not_false_eq_true, Bool.false_eq_true, Nat.le_refl, Nat.lt_irrefl]
    rfl
  · obtain ⟨I', g1, g2, g3⟩ := e_tell c w (u_d m) (u_o m) (u_h m)
    have cI : q_cl a I' h := c.keep (fun j k' hj hj3 => g3 _ _ (by omega) (by omega))
    have hl := q_lt_lt w (st := st) w1
    have e2 := e_seenIn (u := u_h m) cI w w1 w2 (show q_lt h (u_c m) st < 2147483648 by omega) (fun p hp => (q_lt_tb w1 hp).2) g2
    refine ⟨I', ?_, g3⟩
    simp (disch := omega) only [f_Ha_seenBehind, m4, m3, m2, show 0 < u_o m by omega, g1, g3 (o + 4) _ (by omega) (by omega), m1, e_lightAmong cI w w1 hst, e2, h0, z_le, z_lt, z_eq, z_leL, z_leR, z_ltL, z_ltR, z_eqR, z_eqL, z_m1, z_m1s, z_m1le, z_m1lt, z_m1lt0, z_m1le0, z_0lem1, z_m1lek, z_add, z_addL, z_addR, z_mulR, z_sub, z_subL, z_gd, z_ix, z_cl, z_or0, z_add0, z_bs, z_gd, z_b1, z_b0, z_10, z_01, eq_self, reduceCtorEq, ↓reduceIte, if_true, if_false, Nat.not_lt_zero, not_true_eq_false, not_false_eq_true, Bool.false_eq_true, Nat.le_refl, Nat.lt_irrefl]
theorem e_seenBy (c : q_cl a I h) (w : q_wf h) {o n : Nat} {m : lh_Mt} (ha : a = 11 ∨ a = 23) (ho : o = 7 ∨ o = 8) (hm : q_mc I o m) (hw : q_mw h n m) : ∃ I', f_Ha_seenBy a o I = some (nI (q_sm h m (q_P h)), I') ∧ q_fc a I I' := by
  obtain ⟨I', g1, g2⟩ := e_seenBehind c w ha ho hm hw (st := q_P h) (by have := w.P12; omega)
  exact ⟨I', by rw [f_Ha_seenBy, c.P, g1, q_bs], g2⟩
theorem e_lightFrom (c : q_cl a I h) (w : q_wf h) {x : Nat} (hx : x < q_C h) : f_Ha_lightFrom a (nI x) I = some (nI (q_lt h x (q_P h))) := by
  have hC := w.C
  have h1 : q_is (q_C h) (nI x) = true := by rw [q_is_nI (by omega) (by omega)]; simp [hx]
  simp (disch := omega) only [f_Ha_lightFrom, e_hasCell c, h1, c.lt hx, z_le, z_lt, z_eq, z_leL, z_leR, z_ltL, z_ltR, z_eqR, z_eqL, z_m1, z_m1s, z_m1le, z_m1lt, z_m1lt0, z_m1le0, z_0lem1, z_m1lek, z_add, z_addL, z_addR, z_mulR, z_sub, z_subL, z_gd, z_ix, z_cl, z_or0, z_add0, z_bs, z_gd, z_b1, z_b0, z_10, z_01, eq_self, reduceCtorEq, ↓reduceIte, if_true, if_false, Nat.not_lt_zero, not_true_eq_false, not_false_eq_true, Bool.false_eq_true, Nat.le_refl, Nat.lt_irrefl]
theorem e_litBy (c : q_cl a I h) (w : q_wf h) {o n : Nat} {m : lh_Mt} (hm : q_mc I o m) (hw : q_mw h n m) : f_Ha_litBy a o I = some (nI (q_lm h m)) := by
  obtain ⟨m1, m2, m3, m4, m5, m6, m7⟩ := hm
  obtain ⟨w1, w2, w3, w4, w5, w6⟩ := hw
  unfold q_lm
  simp (disch := omega) only [f_Ha_litBy, m4, m1, e_lightFrom c w w1, z_le, z_lt, z_eq, z_leL, z_leR, z_ltL, z_ltR, z_eqR, z_eqL, z_m1, z_m1s, z_m1le, z_m1lt, z_m1lt0, z_m1le0, z_0lem1, z_m1lek, z_add, z_addL, z_addR, z_mulR, z_sub, z_subL, z_gd, z_ix, z_cl, z_or0, z_add0, z_bs, z_gd, z_b1, z_b0, z_10, z_01, eq_self, reduceCtorEq, ↓reduceIte, if_true, if_false, Nat.not_lt_zero, not_true_eq_false, not_false_eq_true, Bool.false_eq_true, Nat.le_refl, Nat.lt_irrefl]
  by_cases h0 : u_o m = 0
  · rw [if_pos (by omega), if_pos h0]; rfl
  · rw [if_neg (by omega), if_neg h0]
theorem m_lightOf (m : q_md J h) (w : q_wf h) {b0 n : Nat} {u : lh_Mt} (hb : b0 ≤ 704) (hm : q_mm J b0 u) (hw : q_mw h n u) : f_LM_lightOf (nI b0) J = some (nI (q_lm h u)) := by
  obtain ⟨m1, m2, m3, m4, m5, m6, m7⟩ := hm
  obtain ⟨w1, w2, w3, w4, w5, w6⟩ := hw
  unfold q_lm
  simp (disch := omega) only [f_LM_lightOf, m5, m6, m_litFrom m w w1, z_le, z_lt, z_eq, z_leL, z_leR, z_ltL, z_ltR, z_eqR, z_eqL, z_m1, z_m1s, z_m1le, z_m1lt, z_m1lt0, z_m1le0, z_0lem1, z_m1lek, z_add, z_addL, z_addR, z_mulR, z_sub, z_subL, z_gd, z_ix, z_cl, z_or0, z_add0, z_bs, z_gd, z_b1, z_b0, z_10, z_01, eq_self, reduceCtorEq, ↓reduceIte, if_true, if_false, Nat.not_lt_zero, not_true_eq_false, not_false_eq_true, Bool.false_eq_true, Nat.le_refl, Nat.lt_irrefl]
  by_cases h0 : u_o u = 0
  · rw [if_pos (by omega), if_pos h0]; rfl
  · rw [if_neg (by omega), if_neg h0]
theorem q_se_0 (x d l u : Nat) : q_se h 0 x d l u = 0 := by
  unfold q_se
  apply Nat.eq_of_testBit_eq
  intro i
  rw [q_mk_tb]
  cases q_pl h i u <;> simp
def q_fm (J J' : lh_II) : Prop := ∀ o k, o ≠ 80 → o ≠ 81 → J' o k = J o k
theorem m_seenNow (m : q_md J h) (w : q_wf h) {b0 n : Nat} {u : lh_Mt} (hb : b0 ≤ 704) (hm : q_mm J b0 u) (hw : q_mw h n u) : ∃ J', f_LM_seenNow (nI b0) J = some (nI (q_sm h u (q_P h)), J') ∧ q_fm J J' := by
  have hm' := hm
  obtain ⟨m1, m2, m3, m4, m5, m6, m7⟩ := hm
  obtain ⟨w1, w2, w3, w4, w5, w6⟩ := hw
  have hl : q_lm h u < 2147483648 := by
    unfold q_lm
    split
    · omega
    · have := q_lt_lt w (st := q_P h) w1; omega
  obtain ⟨J', g1, g2⟩ := m_seenFrom m w (b0 := b0) (lit := q_lm h u) (x := u_c u) hb m4 m5 m3 w3 w1 w2 hl
  refine ⟨J', ?_, g2⟩
  simp (disch := omega) only [f_LM_seenNow, m_lightOf m w hb hm' ⟨w1, w2, w3, w4, w5, w6⟩, m6, g1, z_le, z_lt, z_eq, z_leL, z_leR, z_ltL, z_ltR, z_eqR, z_eqL, z_m1, z_m1s, z_m1le, z_m1lt, z_m1lt0, z_m1le0, z_0lem1, z_m1lek, z_add, z_addL, z_addR, z_mulR, z_sub, z_subL, z_gd, z_ix, z_cl, z_or0, z_add0, z_bs, z_gd, z_b1, z_b0, z_10, z_01, eq_self, reduceCtorEq, ↓reduceIte, if_true, if_false, Nat.not_lt_zero, not_true_eq_false, not_false_eq_true, Bool.false_eq_true, Nat.le_refl, Nat.lt_irrefl]
  unfold q_sm q_lm
  by_cases h0 : u_o u = 0
  · rw [if_pos h0, if_pos h0, q_se_0]
  · rw [if_neg h0, if_neg h0]
end Q46
