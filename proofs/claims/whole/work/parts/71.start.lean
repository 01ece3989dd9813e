/-! how it begins -/
def r_mdl (x : Nat) (J : lh_II) (R : lh_Rw) : Prop := (J (71 + 4) (x + 0) = nI (R.1 0) ∧ J (71 + 4) (x + 1) = nI (R.1 1) ∧ J (71 + 4) (x + 2) = nI (R.1 2) ∧ J (71 + 4) (x + 3) = nI (R.1 3) ∧ J (71 + 4) (x + 4) = nI (R.1 5) ∧ J (71 + 4) (x + 5) = nI (R.1 6) ∧ J (71 + 4) (x + 6) = nI (R.1 4) ∧ J (71 + 4) (x + 7) = nI (R.1 7)) ∧ (∀ v, v < R.1 1 → J (71 + 4) (x + 9 + 11 * v) = nI (R.1 (10 + v)) ∧ J (71 + 4) (x + 10 + 11 * v) = nI (R.1 (20 + v)) ∧ J (71 + 4) (x + 11 + 11 * v) = nI (R.1 (40 + v)) ∧ ∀ t, t < R.1 (40 + v) → J (71 + 4) (x + 12 + 11 * v + t) = nI (R.2.1 v t)) ∧ (∀ k, k < R.1 2 → J (71 + 4) (x + 75 + k) = nI (R.2.1 100 k)) ∧ ∀ i, i < R.1 4 → J (71 + 4) (x + 79 + i) = nI (R.2.1 200 i)
theorem m_raw {J : lh_II} {R : lh_Rw} (w : r_wf R) (c : r_mdl 0 J R) (hl : (J (71 + 4) 8 = -1 ∧ R.2.2 = [(2, 0)]) ∨ (J (71 + 4) 8 = 0 ∧ (∀ i, i < R.2.2.length → J (72 + 4) i = nI (R.2.2.getD i (0, 0)).1 ∧ J (73 + 4) i = nI (R.2.2.getD i (0, 0)).2) ∧ J (72 + 4) R.2.2.length = 0)) : q_md J (r_h R) := by
  obtain ⟨w1, w2, w3, w4, w5, w6, w7, w8, w9, w10, w11, w12, w13⟩ := id w
  unfold r_mdl at c
  simp only [Nat.zero_add] at c
  obtain ⟨⟨c0, c1, c2, c3, c4, c5, c6, c7⟩, d1, d2, d3⟩ := c
  refine ⟨⟨c0, c1, c2, c3, c4, c6⟩, ⟨R.1 6, w7, c5, rfl⟩, ⟨R.1 7, w8, c7, rfl⟩, fun v hv => ?_, fun k hk => ⟨_, w10 k hk, d2 k hk, rfl⟩, fun i hi => ⟨_, w11 i hi, d3 i hi, r_h_fe R i⟩, hl⟩
  have hv' : v < R.1 1 := hv
  obtain ⟨x1, x2, x3, x4⟩ := d1 v hv'
  obtain ⟨y1, y2, y3, y4, y5⟩ := w9 v hv'
  refine ⟨by rw [r_h_kd R (by omega)]; exact x1, by rw [r_h_dy R (by omega)]; exact x2, R.1 (40 + v), R.2.1 v, ⟨y3, y4⟩, x3, fun t ht => ⟨y5 t ht, x4 t ht⟩, fun t ht => ?_⟩
  rw [r_h_pl R (by omega)]
  unfold q_raw
  rw [r_h_kd R (by omega)]
  rfl
def r_m0 (R : lh_Rw) : lh_Mt := (r_cl R (R.1 6), 0, 0, R.1 5, 0, 0, 0)
theorem m_rstarts {J : lh_II} {R : lh_Rw} (w : r_wf R) (h0 : J (71 + 4) 0 = nI (R.1 0)) (h4 : J (71 + 4) 4 = nI (R.1 5)) (h5 : J (71 + 4) 5 = nI (R.1 6)) : ∃ J', f_LM_starts 0 J = some J' ∧ q_mm J' 0 (r_m0 R) ∧ ∀ o k, ¬ (o = 82 ∧ k < 7) → J' o k = J o k := by
  have w1 := w.1
  have w7 := w.2.2.2.2.2.2.1
  obtain ⟨J1, e1, e2, e3⟩ := q_forI (F := fun f j (K : lh_II) => f_LM_starts_2 0 f (nI j) K) (N := 7) (P := fun j K => (∀ i, i < j → K (78 + 4) i = 0) ∧ ∀ o k, ¬ (o = 82 ∧ k < 7) → K o k = J o k) (Q := fun K => (∀ i, i < 7 → K (78 + 4) i = 0) ∧ ∀ o k, ¬ (o = 82 ∧ k < 7) → K o k = J o k) (fun f j K hj hK => by
    obtain ⟨p1, p2⟩ := hK
    refine ⟨lh_u2 K (78 + 4) (0 + j) 0, ⟨fun i hi => ?_, fun o k h => ?_⟩, ?_⟩
    · by_cases e : i = j
      · subst e; rw [Nat.zero_add, q_u2s]
      · rw [q_u2o (by omega)]; exact p1 i (by omega)
    · rw [q_u2o (by omega)]; exact p2 o k h
    · show f_LM_starts_2 0 (f + 1) (nI j) K = f_LM_starts_2 0 f (nI (j + 1)) _
      rw [f_LM_starts_2]
      simp (disch := omega) only [z_leL, z_ix, z_cl, z_addL, z_addR, show ¬ 7 ≤ j by omega, z_bs, z_gd, z_b1, z_b0, z_10, z_01, eq_self, reduceCtorEq, ↓reduceIte, if_true, if_false, Nat.not_lt_zero, not_true_eq_false, not_false_eq_true, Bool.false_eq_true, Nat.le_refl, Nat.lt_irrefl]) (fun f K hK => by
    refine ⟨K, ?_, hK⟩
    show f_LM_starts_2 0 (f + 1) (nI 7) K = _
    rw [f_LM_starts_2]
    simp (disch := omega) only [z_leL, z_bs, z_gd, z_b1, z_b0, z_10, z_01, eq_self, reduceCtorEq, ↓reduceIte, if_true, if_false, Nat.not_lt_zero, not_true_eq_false, not_false_eq_true, Bool.false_eq_true, Nat.le_refl, Nat.lt_irrefl]) 7 lh_fuel 0 J rfl (by decide) ⟨fun i hi => absurd hi (by omega), fun _ _ _ => rfl⟩
  have e1' : f_LM_starts_2 0 lh_fuel 0 J = some J1 := e1
  have g0 : J1 (71 + 4) 0 = nI (R.1 0) := by rw [e3 _ _ (by omega)]; exact h0
  have g4 : J1 (71 + 4) 4 = nI (R.1 5) := by rw [e3 _ _ (by omega)]; exact h4
  have g5 : J1 (71 + 4) 5 = nI (R.1 6) := by rw [e3 _ _ (by omega)]; exact h5
  refine ⟨lh_u2 (lh_u2 J1 (78 + 4) 4 (nI (R.1 5))) (78 + 4) 5 (nI (r_cl R (R.1 6))), ?_, ⟨?_, ?_, ?_, ?_, ?_, ?_, ?_⟩, fun o k h => by rw [q_u2o (by omega), q_u2o (by omega), e3 _ _ h]⟩
  · unfold f_LM_starts f_LM_cells r_cl
    have i4 : lh_ix ((0 : Int32) + 4) 736 = true := by decide
    have i5 : lh_ix ((0 : Int32) + 5) 736 = true := by decide
    have c4 : ((0 : Int32) + 4).toNatClampNeg = 4 := by decide
    have c5 : ((0 : Int32) + 5).toNatClampNeg = 5 := by decide
    by_cases h : R.1 6 < R.1 0
    · simp (disch := omega) only [e1', i4, i5, c4, c5, q_u2o, g0, g4, g5, z_le, show ¬ R.1 0 ≤ R.1 6 by omega, h, z_bs, z_gd, z_b1, z_b0, z_10, z_01, eq_self, reduceCtorEq, ↓reduceIte, if_true, if_false, Nat.not_lt_zero, not_true_eq_false, not_false_eq_true, Bool.false_eq_true, Nat.le_refl, Nat.lt_irrefl]
    · simp (disch := omega) only [e1', i4, i5, c4, c5, q_u2o, g0, g4, g5, z_le, z_subL, show R.1 0 ≤ R.1 6 by omega, h, z_bs, z_gd, z_b1, z_b0, z_10, z_01, eq_self, reduceCtorEq, ↓reduceIte, if_true, if_false, Nat.not_lt_zero, not_true_eq_false, not_false_eq_true, Bool.false_eq_true, Nat.le_refl, Nat.lt_irrefl]
  · rw [q_u2o (by omega), q_u2o (by omega)]; exact e2 0 (by decide)
  · rw [q_u2o (by omega), q_u2o (by omega)]; exact e2 1 (by decide)
  · rw [q_u2o (by omega), q_u2o (by omega)]; exact e2 2 (by decide)
  · rw [q_u2o (by omega), q_u2o (by omega)]; exact e2 3 (by decide)
  · rw [q_u2o (by omega)]; exact q_u2s
  · exact q_u2s
  · rw [q_u2o (by omega), q_u2o (by omega)]; exact e2 6 (by decide)
theorem m_begins {J : lh_II} {R : lh_Rw} (w : r_wf R) (h0 : J (71 + 4) 0 = nI (R.1 0)) (h4 : J (71 + 4) 4 = nI (R.1 5)) (h5 : J (71 + 4) 5 = nI (R.1 6)) : ∃ J', f_LM_begins J = some J' ∧ q_mm J' 0 (r_m0 R) ∧ J' (78 + 4) 7 = 0 ∧ J' (75 + 4) 0 = 0 ∧ J' (65 + 4) 21 = 0 ∧ (∀ j, j < 4 → J' (79 + 4) j = 0) ∧ ∀ o k, ¬ (o = 82 ∧ k < 8) → ¬ (o = 79 ∧ k = 0) → ¬ (o = 69 ∧ k = 21) → o ≠ 83 → J' o k = J o k := by
  obtain ⟨J1, e1, e2, e3⟩ := m_rstarts w h0 h4 h5
  obtain ⟨J2, g1, g2, g3⟩ := q_forI (F := fun f j (K : lh_II) => f_LM_begins_18 f (nI j) K) (N := 4) (P := fun j K => (∀ i, i < j → K (79 + 4) i = 0) ∧ ∀ o k, o ≠ 83 → K o k = (lh_u2 (lh_u2 (lh_u2 J1 (78 + 4) 7 0) (75 + 4) 0 0) (65 + 4) 21 0) o k) (Q := fun K => (∀ i, i < 4 → K (79 + 4) i = 0) ∧ ∀ o k, o ≠ 83 → K o k = (lh_u2 (lh_u2 (lh_u2 J1 (78 + 4) 7 0) (75 + 4) 0 0) (65 + 4) 21 0) o k) (fun f j K hj hK => by
    obtain ⟨p1, p2⟩ := hK
    refine ⟨lh_u2 K (79 + 4) j 0, ⟨fun i hi => ?_, fun o k h => ?_⟩, ?_⟩
    · by_cases e : i = j
      · subst e; rw [q_u2s]
      · rw [q_u2o (by omega)]; exact p1 i (by omega)
    · rw [q_u2o (by omega)]; exact p2 o k h
    · show f_LM_begins_18 (f + 1) (nI j) K = f_LM_begins_18 f (nI (j + 1)) _
      rw [f_LM_begins_18]
      simp (disch := omega) only [z_leL, z_ix, z_cl, z_addL, show ¬ 4 ≤ j by omega, z_bs, z_gd, z_b1, z_b0, z_10, z_01, eq_self, reduceCtorEq, ↓reduceIte, if_true, if_false, Nat.not_lt_zero, not_true_eq_false, not_false_eq_true, Bool.false_eq_true, Nat.le_refl, Nat.lt_irrefl]) (fun f K hK => by
    refine ⟨K, ?_, hK⟩
    show f_LM_begins_18 (f + 1) (nI 4) K = _
    rw [f_LM_begins_18]
    simp (disch := omega) only [z_leL, z_bs, z_gd, z_b1, z_b0, z_10, z_01, eq_self, reduceCtorEq, ↓reduceIte, if_true, if_false, Nat.not_lt_zero, not_true_eq_false, not_false_eq_true, Bool.false_eq_true, Nat.le_refl, Nat.lt_irrefl]) 4 lh_fuel 0 (lh_u2 (lh_u2 (lh_u2 J1 (78 + 4) 7 0) (75 + 4) 0 0) (65 + 4) 21 0) rfl (by decide) ⟨fun i hi => absurd hi (by omega), fun _ _ _ => rfl⟩
  have g1' : f_LM_begins_18 lh_fuel 0 (lh_u2 (lh_u2 (lh_u2 J1 (78 + 4) 7 0) (75 + 4) 0 0) (65 + 4) 21 0) = some J2 := g1
  have g4 : ∀ o k, ¬ (o = 82 ∧ k = 7) → ¬ (o = 79 ∧ k = 0) → ¬ (o = 69 ∧ k = 21) → o ≠ 83 → J2 o k = J1 o k := fun o k h1 h2 h3 h4 => by rw [g3 _ _ h4, q_u2o (by omega), q_u2o (by omega), q_u2o (by omega)]
  refine ⟨J2, by rw [f_LM_begins, e1, z_bs, g1', z_bs], e2.kp (fun k _ _ => g4 _ _ (by omega) (by omega) (by omega) (by omega)), by rw [g3 _ _ (by omega), q_u2o (by omega), q_u2o (by omega), q_u2s], by rw [g3 _ _ (by omega), q_u2o (by omega), q_u2s], by rw [g3 _ _ (by omega), q_u2s], g2, fun o k h1 h2 h3 h4 => by rw [g4 o k (by omega) h2 h3 h4, e3 _ _ (by omega)]⟩
def r_al (k : Nat) : Int32 := if k = 0 then 8 else if k = 3 then 2 else if k = 4 then 30 else if k = 8 then -1 else 0
theorem m_stands {x : Nat} (hx : x ≤ 100) (J : lh_II) : ∃ J', f_LM_standsAsAlways (nI x) J = some J' ∧ (∀ k, k < 100 → J' (71 + 4) (x + k) = r_al k) ∧ ∀ o k, ¬ (o = 75 ∧ x ≤ k ∧ k < x + 100) → J' o k = J o k := by
  obtain ⟨J1, e1, e2, e3⟩ := q_forI (F := fun f j (K : lh_II) => f_LM_standsAsAlways_2 (nI x) f (nI j) K) (N := 100) (P := fun j K => (∀ i, i < j → K (71 + 4) (x + i) = 0) ∧ ∀ o k, ¬ (o = 75 ∧ x ≤ k ∧ k < x + 100) → K o k = J o k) (Q := fun K => (∀ i, i < 100 → K (71 + 4) (x + i) = 0) ∧ ∀ o k, ¬ (o = 75 ∧ x ≤ k ∧ k < x + 100) → K o k = J o k) (fun f j K hj hK => by
    obtain ⟨p1, p2⟩ := hK
    refine ⟨lh_u2 K (71 + 4) (x + j) 0, ⟨fun i hi => ?_, fun o k h => ?_⟩, ?_⟩
    · by_cases e : i = j
      · subst e; rw [q_u2s]
      · rw [q_u2o (by omega)]; exact p1 i (by omega)
    · rw [q_u2o (by omega)]; exact p2 o k h
    · show f_LM_standsAsAlways_2 (nI x) (f + 1) (nI j) K = f_LM_standsAsAlways_2 (nI x) f (nI (j + 1)) _
      rw [f_LM_standsAsAlways_2]
      simp (disch := omega) only [z_leL, z_ix, z_cl, z_add, z_addL, show ¬ 100 ≤ j by omega, z_bs, z_gd, z_b1, z_b0, z_10, z_01, eq_self, reduceCtorEq, ↓reduceIte, if_true, if_false, Nat.not_lt_zero, not_true_eq_false, not_false_eq_true, Bool.false_eq_true, Nat.le_refl, Nat.lt_irrefl]) (fun f K hK => by
    refine ⟨K, ?_, hK⟩
    show f_LM_standsAsAlways_2 (nI x) (f + 1) (nI 100) K = _
    rw [f_LM_standsAsAlways_2]
    simp (disch := omega) only [z_leL, z_bs, z_gd, z_b1, z_b0, z_10, z_01, eq_self, reduceCtorEq, ↓reduceIte, if_true, if_false, Nat.not_lt_zero, not_true_eq_false, not_false_eq_true, Bool.false_eq_true, Nat.le_refl, Nat.lt_irrefl]) 100 lh_fuel 0 J rfl (by decide) ⟨fun i hi => absurd hi (by omega), fun _ _ _ => rfl⟩
  have e1' : f_LM_standsAsAlways_2 (nI x) lh_fuel 0 J = some J1 := e1
  refine ⟨lh_u2 (lh_u2 (lh_u2 (lh_u2 J1 (71 + 4) (x + 0) 8) (71 + 4) (x + 3) 2) (71 + 4) (x + 4) 30) (71 + 4) (x + 8) (-1), ?_, fun k hk => ?_, fun o k h => by rw [q_u2o (by omega), q_u2o (by omega), q_u2o (by omega), q_u2o (by omega), e3 _ _ h]⟩
  · unfold f_LM_standsAsAlways
    simp (disch := omega) only [e1', z_addL, z_ix, z_cl, z_bs, z_gd, z_b1, z_b0, z_10, z_01, eq_self, reduceCtorEq, ↓reduceIte, if_true, if_false, Nat.not_lt_zero, not_true_eq_false, not_false_eq_true, Bool.false_eq_true, Nat.le_refl, Nat.lt_irrefl]
  · unfold r_al
    by_cases h8 : k = 8
    · subst h8; exact q_u2s
    · rw [q_u2o (by omega)]
      by_cases h4 : k = 4
      · subst h4; exact q_u2s
      · rw [q_u2o (by omega)]
        by_cases h3 : k = 3
        · subst h3; exact q_u2s
        · rw [q_u2o (by omega)]
          by_cases h0 : k = 0
          · subst h0; exact q_u2s
          · rw [q_u2o (by omega), if_neg h0, if_neg h3, if_neg h4, if_neg h8]; exact e2 k hk
def st_L : Option lh_LL := f_Re_init_35 lh_fuel 0 0 (lh_v2 (fun _ _ => 0) (1 + 4) 7 0)
def st_ok : Bool := match st_L with
  | none => false
  | some L => (List.range 27).all (fun w => decide (L (3 + 4) w = q_kw w))
theorem st_okt : st_ok = true := by decide +kernel
theorem st_kw : ∃ L, f_Re_init_35 lh_fuel 0 0 (lh_v2 (fun _ _ => 0) (1 + 4) 7 0) = some L ∧ ∀ w, w < 27 → L (3 + 4) w = q_kw w := by
  have h := st_okt
  unfold st_ok at h
  cases e : st_L with
  | none => rw [e] at h; cases h
  | some L =>
    rw [e] at h
    refine ⟨L, e, fun w hw => ?_⟩
    have h2 := List.all_eq_true.mp h w (List.mem_range.mpr hw)
    exact of_decide_eq_true h2
