/-! the levels of the law -/
def w_op (l c : Nat) : Option Nat := if l = 0 then (if c = 21 then some 9 else if c = 22 then some 10 else none) else if l = 1 then (if c = 31 then some 7 else if c = 32 then some 8 else none) else if l = 2 then (if c = 33 then some 4 else if c = 34 then some 5 else none) else if c = 35 then some 6 else none
theorem w_op_c : ∀ l, l < 4 → ∀ c, c ≤ 38 → f_La_isOfLevel (nI c) (nI l) = some (q_b01 (w_op l c).isSome) := by decide +kernel
theorem w_op_h (l c k : Nat) (h : w_op l c = some k) : (4 ≤ k ∧ k ≤ 10) ∧ c ≠ 37 ∧ q_cw (k, 0) = -nI c := by
  unfold w_op at h
  repeat' split at h
  all_goals first | (cases h; subst_vars; exact ⟨by decide, by decide, by decide⟩) | (cases h)
theorem w_level {t : List Nat} (hw : qt_w t) {N a : Nat} {M : lh_LL} (ha : 11 ≤ a ∧ a ≤ 23) {nd ex l y : Nat} (hl : l < 4) (hl1 : ¬ l = 1) (hex : ex + 1 ≤ 90) {gL : Nat → Int32 → Int32 → lh_II → lh_LL → Option (Int32 × lh_II × lh_LL)} {gP : Nat → Int32 → lh_II → lh_LL → Option (Int32 × lh_II × lh_LL)} {G : lh_II → Option lh_II} {H : Nat → lh_II → Option lh_II} {Z : lh_II → Option lh_II}
    (hS : w_sp t N a M nd ex (fun I L => gL a (nI (l + 1)) (nI y) I L) G)
    (h1 : ∀ f n J, r_m t N n J M → J (65 + 4) 8 = 0 → w_op l (tk_C t n) = none → H (f + 1) J = some J)
    (h2 : ∀ f n J k, r_m t N n J M → J (65 + 4) 8 = 0 → w_op l (tk_C t n) = some k → H (f + 1) J = lh_bd (G (lh_u2 J (65 + 4) 7 (nI (n + 1)))) fun r => lh_bd (f_LM_emit (nI k) 0 r) fun r2 => H f r2)
    (h3 : ∀ f J, ¬ J (65 + 4) 8 = 0 → H (f + 1) J = some J)
    (hZ : ∀ J, Z J = lh_bd (G J) fun r1 => lh_bd (H lh_fuel r1) fun r2 => some r2) : w_sp t N a M (nd + 1) (ex + 1) (fun I L => f_La_readLevel gL gP a (nI l) (nI y) I L) Z := by
  intro n ws I L J hc hm h8 h8' hwc hwm hln
  have hN : N ≤ 1000 := hm.1
  obtain ⟨I2, L2, J2, hor, f1, f2, f3⟩ := hS n ws I L J hc hm h8 h8' hwc hwm hln
  have hcl : f_La_readLevel gL gP a (nI l) (nI y) I L = lh_bd (gL a (nI (l + 1)) (nI y) I L) fun r2 => if r2.1 = 0 then some (0, r2.2.1, r2.2.2) else lh_bd (f_La_readLevel_27 gL gP a (nI l) (nI y) 1000 lh_fuel 0 r2.2.1 r2.2.2) fun r17 => if r17.1 = 0 then some (0, r17.2.1, r17.2.2) else some (1, r17.2.1, r17.2.2) := by
    unfold f_La_readLevel
    simp (disch := omega) only [z_ltR, hl, z_eqR, hl1, z_addL, z_bs, z_gd, z_b1, z_b0, z_10, z_01, eq_self, reduceCtorEq, ↓reduceIte, if_true, if_false, Nat.not_lt_zero, not_true_eq_false, not_false_eq_true, Bool.false_eq_true, Nat.le_refl, Nat.lt_irrefl]
  rcases hor with ⟨x1, x2, x3, x4, n', es, x5, x6, x7, x8, x9, x10, x11⟩ | ⟨x1, x2, B, x3, x4, x5, c, x6, x7⟩
  · have x1' : gL a (nI (l + 1)) (nI y) I L = some (1, I2, L2) := x1
    have hlen : (ws ++ es).length = ws.length + es.length := List.length_append
    have hn'N : n' ≤ N := x7.2.1
    obtain ⟨I3, L3, J3, hor3, p1, p2, p3⟩ := w_loop hw ha hex (lim := 1000) hS (op := w_op l) (w_op_h l) (K := fun f v I L => f_La_readLevel_27 gL gP a (nI l) (nI y) 1000 f (nI v) I L) (H := H) (fun f v n I L hv hc ho => by
      show f_La_readLevel_27 gL gP a (nI l) (nI y) 1000 (f + 1) (nI v) I L = _
      have hb := (tk_C_b t n).1
      have e := w_op_c l hl (tk_C t n) hb
      rw [ho] at e
      rw [f_La_readLevel_27, hc.2.2.1]
      by_cases hv' : 1000 ≤ v
      · simp (disch := omega) only [z_leL, hv', z_bs, z_gd, z_b1, z_b0, z_10, z_01, eq_self, reduceCtorEq, ↓reduceIte, if_true, if_false, Nat.not_lt_zero, not_true_eq_false, not_false_eq_true, Bool.false_eq_true, Nat.le_refl, Nat.lt_irrefl]
      · simp (disch := omega) only [z_leL, hv', e, Option.isSome_none, z_bs, z_gd, z_b1, z_b0, z_10, z_01, eq_self, reduceCtorEq, ↓reduceIte, if_true, if_false, Nat.not_lt_zero, not_true_eq_false, not_false_eq_true, Bool.false_eq_true, Nat.le_refl, Nat.lt_irrefl]) (fun f v n I L I1 L1 hv hc ho e1 => by
      show f_La_readLevel_27 gL gP a (nI l) (nI y) 1000 (f + 1) (nI v) I L = lh_bd (gL a (nI (l + 1)) (nI y) I1 L1) fun r => if r.1 = 0 then some (0, r.2.1, r.2.2) else lh_bd (f_La_put a (-(nI (tk_C t n))) r.2.1) fun r2 => f_La_readLevel_27 gL gP a (nI l) (nI y) 1000 f (nI (v + 1)) r2.2 r.2.2
      obtain ⟨k, ho⟩ := ho
      have hb := (tk_C_b t n).1
      have e := w_op_c l hl (tk_C t n) hb
      rw [ho] at e
      rw [f_La_readLevel_27, hc.2.2.1]
      simp (disch := omega) only [z_leL, show ¬ 1000 ≤ v by omega, e, Option.isSome_some, e1, z_addL, z_bs, z_gd, z_b1, z_b0, z_10, z_01, eq_self, reduceCtorEq, ↓reduceIte, if_true, if_false, Nat.not_lt_zero, not_true_eq_false, not_false_eq_true, Bool.false_eq_true, Nat.le_refl, Nat.lt_irrefl]) h1 h2 h3 (Nat.le_refl _) (N - n') lh_fuel lh_fuel 0 n' (ws ++ es) I2 L2 J2 (by omega) (by unfold lh_fuel; omega) (by unfold lh_fuel; omega) (Nat.zero_le _) x6 x7 x3 x4 x8 x9 (by omega)
    have fr1 : w_cf a I I3 := fun o k g1 g2 g3 => by rw [p1 _ _ g1 g2 g3, f1 _ _ g1 g2 g3]
    have fr2 : r_lf L L3 := fun o k g1 => by rw [p2 _ _ g1, f2 _ _ g1]
    have fr3 : w_mf J J3 := fun o k g1 g2 g3 => by rw [p3 _ _ g1 g2 g3, f3 _ _ g1 g2 g3]
    rcases hor3 with ⟨y1, y2, y3, y4, n2, es2, y5, y6, y7, y8, y9, y10, y11⟩ | ⟨y1, y2, y3⟩
    · have y1' : f_La_readLevel_27 gL gP a (nI l) (nI y) 1000 lh_fuel 0 I2 L2 = some (1, I3, L3) := y1
      refine ⟨I3, L3, J3, Or.inl ⟨by show f_La_readLevel gL gP a (nI l) (nI y) I L = _; rw [hcl, x1', z_bs]; simp only [z_10, ↓reduceIte, y1', z_bs, Nat.one_ne_zero], by rw [hZ, x2, z_bs, y2, z_bs], y3, y4, n2, es ++ es2, by omega, y6, y7, by rw [← List.append_assoc]; exact y8, by rw [← List.append_assoc]; exact y9, by rw [List.length_append]; omega, fun rest d hd => ?_⟩, fr1, fr2, fr3⟩
      rw [List.append_assoc, x11 _ _ (by omega)]
      exact y11 rest (d + 1) (by omega) (by omega)
    · have y1' : f_La_readLevel_27 gL gP a (nI l) (nI y) 1000 lh_fuel 0 I2 L2 = some (0, I3, L3) := y1
      exact ⟨I3, L3, J3, Or.inr ⟨by show f_La_readLevel gL gP a (nI l) (nI y) I L = _; rw [hcl, x1', z_bs]; simp only [z_10, ↓reduceIte, y1', z_bs], by rw [hZ, x2, z_bs, y2, z_bs], y3⟩, fr1, fr2, fr3⟩
  · have x1' : gL a (nI (l + 1)) (nI y) I L = some (0, I2, L2) := x1
    have hne : ¬ nI B = 0 := by rw [z_eqR 0 (by decide) (by omega)]; show ¬ B = 0; omega
    have hst : H lh_fuel J2 = some J2 := h3 4999 J2 (by rw [x5]; exact hne)
    exact ⟨I2, L2, J2, Or.inr ⟨by show f_La_readLevel gL gP a (nI l) (nI y) I L = _; rw [hcl, x1', z_bs]; simp only [↓reduceIte], by rw [hZ, x2, z_bs, hst, z_bs], B, x3, x4, x5, c, x6, by omega⟩, f1, f2, f3⟩
