/-! a hall as it was read, and how it settles -/
abbrev lh_Rw : Type := (Nat → Nat) × (Nat → Nat → Nat) × List (Nat × Nat)
def r_cl (R : lh_Rw) (g : Nat) : Nat := if g < R.1 0 then g else R.1 0 - 1
def r_in (R : lh_Rw) (c : Nat) : Option Nat := if c < R.1 0 then some c else none
def r_h (R : lh_Rw) : lh_H := (fun j => if j = 6 then r_cl R (R.1 6) else if j = 7 then R.1 7 % 2 ^ R.1 0 else if 30 ≤ j then r_cl R (R.2.1 200 (j - 30)) else R.1 j, fun v t => if v = 100 then r_in R (R.2.1 100 t) else if t < R.1 (40 + v) then r_in R (R.2.1 v t) else if R.1 (10 + v) = 2 then r_in R (R.2.1 v (R.1 (40 + v) - 1)) else none, R.2.2)
def r_wf (R : lh_Rw) : Prop := (2 ≤ R.1 0 ∧ R.1 0 ≤ 12) ∧ R.1 1 ≤ 6 ∧ R.1 2 ≤ 4 ∧ (1 ≤ R.1 3 ∧ R.1 3 ≤ 5) ∧ R.1 4 ≤ 8 ∧ R.1 5 ≤ 99 ∧ R.1 6 < 12 ∧ R.1 7 < 4096 ∧ (∀ v, v < R.1 1 → R.1 (10 + v) < 4 ∧ R.1 (20 + v) < 4 ∧ 1 ≤ R.1 (40 + v) ∧ R.1 (40 + v) ≤ 8 ∧ ∀ t, t < R.1 (40 + v) → R.2.1 v t < 12) ∧ (∀ k, k < R.1 2 → R.2.1 100 k < 12) ∧ (∀ i, i < R.1 4 → R.2.1 200 i < 12) ∧ q_ck R.2.2 0 = true ∧ R.2.2.length ≤ 1000
def r_cls (a : Nat) (I : lh_II) (R : lh_Rw) : Prop := (I (a + 4) 9 = nI (R.1 0) ∧ I (a + 4) 10 = nI (R.1 7) ∧ I (a + 4) 11 = nI (R.1 1) ∧ I (a + 4) 12 = nI (R.1 2) ∧ I (a + 4) 13 = nI (R.1 3) ∧ I (a + 4) 14 = nI (R.1 5) ∧ I (a + 4) 15 = nI (R.1 6) ∧ I (a + 4) 16 = nI (R.1 4)) ∧ (∀ v, v < R.1 1 → I (a + 4 + 4) v = nI (R.1 (10 + v)) ∧ I (a + 5 + 4) v = nI (R.1 (20 + v)) ∧ I (a + 6 + 4) v = nI (R.1 (40 + v))) ∧ (∀ v t, v < R.1 1 → t < R.1 (40 + v) → I (a + 7 + 4) (v * 8 + t) = nI (R.2.1 v t)) ∧ (∀ k, k < R.1 2 → I (a + 8 + 4) k = nI (R.2.1 100 k)) ∧ (∀ i, i < R.1 4 → I (a + 9 + 4) i = nI (R.2.1 200 i)) ∧ I (a + 1 + 4) 2 = nI R.2.2.length ∧ ∀ i, i < R.2.2.length → I (a + 2 + 4) i = q_cw (R.2.2.getD i (0, 0))
theorem r_cl_lt {R : lh_Rw} (w : r_wf R) (g : Nat) : r_cl R g < R.1 0 := by
  have := w.1
  unfold r_cl
  split <;> omega
theorem r_in_lt {R : lh_Rw} {g c : Nat} (h : r_in R g = some c) : c < R.1 0 := by
  unfold r_in at h
  split at h
  · cases h; assumption
  · cases h
theorem r_h_C (R : lh_Rw) : q_C (r_h R) = R.1 0 := rfl
theorem r_h_N (R : lh_Rw) : q_N (r_h R) = R.1 1 := rfl
theorem r_h_K (R : lh_Rw) : q_K (r_h R) = R.1 2 := rfl
theorem r_h_B (R : lh_Rw) : q_B (r_h R) = R.1 3 := rfl
theorem r_h_F (R : lh_Rw) : q_F (r_h R) = R.1 4 := rfl
theorem r_h_O (R : lh_Rw) : q_O (r_h R) = R.1 5 := rfl
theorem r_h_G (R : lh_Rw) : q_G (r_h R) = r_cl R (R.1 6) := rfl
theorem r_h_P (R : lh_Rw) : q_P (r_h R) = R.1 7 % 2 ^ R.1 0 := rfl
theorem r_h_kd (R : lh_Rw) {v : Nat} (h : v < 10) : q_kd (r_h R) v = R.1 (10 + v) := by
  unfold q_kd r_h
  show (if 10 + v = 6 then _ else _) = _
  rw [if_neg (by omega), if_neg (by omega), if_neg (by omega)]
theorem r_h_dy (R : lh_Rw) {v : Nat} (h : v < 10) : q_dy (r_h R) v = R.1 (20 + v) := by
  unfold q_dy r_h
  show (if 20 + v = 6 then _ else _) = _
  rw [if_neg (by omega), if_neg (by omega), if_neg (by omega)]
theorem r_h_fe (R : lh_Rw) (i : Nat) : q_fe (r_h R) i = r_cl R (R.2.1 200 i) := by
  unfold q_fe r_h
  show (if 30 + i = 6 then _ else _) = _
  rw [if_neg (by omega), if_neg (by omega), if_pos (by omega), show 30 + i - 30 = i by omega]
theorem r_h_va (R : lh_Rw) (k : Nat) : q_va (r_h R) k = r_in R (R.2.1 100 k) := rfl
theorem r_h_pl (R : lh_Rw) {v : Nat} (h : v < 10) (t : Nat) : q_pl (r_h R) v t = if t < R.1 (40 + v) then r_in R (R.2.1 v t) else if R.1 (10 + v) = 2 then r_in R (R.2.1 v (R.1 (40 + v) - 1)) else none := by
  unfold q_pl r_h
  show (if v = 100 then _ else _) = _
  rw [if_neg (by omega)]
theorem r_h_wf {R : lh_Rw} (w : r_wf R) : q_wf (r_h R) := by
  obtain ⟨w1, w2, w3, w4, w5, w6, w7, w8, w9, w10, w11, w12, w13⟩ := id w
  refine ⟨w1, w2, w3, w4, w5, w6, r_cl_lt w _, Nat.mod_lt _ (Nat.two_pow_pos _), fun v hv => ?_, fun v t c hv ht e => ?_, fun k c hk e => ?_, fun i hi => ?_, w12, w13⟩
  · have hv' : v < R.1 1 := hv
    rw [r_h_kd R (by omega), r_h_dy R (by omega)]
    exact ⟨(w9 v hv').1, (w9 v hv').2.1⟩
  · have hv' : v < R.1 1 := hv
    rw [r_h_pl R (by omega)] at e
    repeat' split at e
    · exact r_in_lt e
    · exact r_in_lt e
    · cases e
  · rw [r_h_va] at e
    exact r_in_lt e
  · rw [r_h_fe]
    exact r_cl_lt w _
theorem e_within {a : Nat} {I : lh_II} {R : lh_Rw} (hC : I (a + 4) 9 = nI (R.1 0)) (h12 : R.1 0 ≤ 12) {c : Nat} (hc : c < 12) : f_Ha_withinHall a (nI c) I = some (q_e (r_in R c)) := by
  unfold f_Ha_withinHall f_Ha_hasCell r_in
  by_cases h : c < R.1 0
  · simp (disch := omega) only [hC, z_ltR, z_le, show ¬ R.1 0 ≤ c by omega, h, z_eS, z_bs, z_gd, z_b1, z_b0, z_10, z_01, eq_self, reduceCtorEq, ↓reduceIte, if_true, if_false, Nat.not_lt_zero, not_true_eq_false, not_false_eq_true, Bool.false_eq_true, Nat.le_refl, Nat.lt_irrefl]
  · simp (disch := omega) only [hC, z_ltR, z_le, show R.1 0 ≤ c by omega, h, z_eN, z_bs, z_gd, z_b1, z_b0, z_10, z_01, eq_self, reduceCtorEq, ↓reduceIte, if_true, if_false, Nat.not_lt_zero, not_true_eq_false, not_false_eq_true, Bool.false_eq_true, Nat.le_refl, Nat.lt_irrefl]
theorem e_within' {a : Nat} {I : lh_II} : f_Ha_withinHall a (-1) I = some (-1) := by
  unfold f_Ha_withinHall f_Ha_hasCell
  simp only [z_m1lt0, z_bs, z_gd, z_b1, z_b0, z_10, z_01, eq_self, reduceCtorEq, ↓reduceIte, if_true, if_false, Nat.not_lt_zero, not_true_eq_false, not_false_eq_true, Bool.false_eq_true, Nat.le_refl, Nat.lt_irrefl]
theorem e_settle18 {a : Nat} {I : lh_II} {R : lh_Rw} (w : r_wf R) (hC : I (a + 4) 9 = nI (R.1 0)) (hF : I (a + 4) 16 = nI (R.1 4)) (hf : ∀ i, i < R.1 4 → I (a + 9 + 4) i = nI (R.2.1 200 i)) : ∃ I', f_Ha_settle_18 a lh_fuel 0 I = some I' ∧ (∀ i, i < R.1 4 → I' (a + 9 + 4) i = nI (r_cl R (R.2.1 200 i))) ∧ ∀ o k, o ≠ a + 13 → I' o k = I o k := by
  have h8 := w.2.2.2.2.1
  have h12 := w.1
  have hr := w.2.2.2.2.2.2.2.2.2.2.1
  exact q_forI (F := fun f j (K : lh_II) => f_Ha_settle_18 a f (nI j) K) (N := R.1 4) (P := fun j K => (∀ i, i < j → K (a + 9 + 4) i = nI (r_cl R (R.2.1 200 i))) ∧ (∀ i, j ≤ i → K (a + 9 + 4) i = I (a + 9 + 4) i) ∧ ∀ o k, o ≠ a + 13 → K o k = I o k) (Q := fun K => (∀ i, i < R.1 4 → K (a + 9 + 4) i = nI (r_cl R (R.2.1 200 i))) ∧ ∀ o k, o ≠ a + 13 → K o k = I o k) (fun f j K hj hK => by
    obtain ⟨p1, p2, p3⟩ := hK
    have hv := hr j hj
    have e1 : K (a + 9 + 4) j = nI (R.2.1 200 j) := by rw [p2 j (Nat.le_refl _)]; exact hf j hj
    refine ⟨lh_u2 K (a + 9 + 4) j (nI (r_cl R (R.2.1 200 j))), ⟨fun i hi => ?_, fun i hi => ?_, fun o k h => ?_⟩, ?_⟩
    · by_cases e : i = j
      · subst e; rw [q_u2s]
      · rw [q_u2o (by omega)]; exact p1 i (by omega)
    · rw [q_u2o (by omega)]; exact p2 i (by omega)
    · rw [q_u2o (by omega)]; exact p3 o k h
    · show f_Ha_settle_18 a (f + 1) (nI j) K = f_Ha_settle_18 a f (nI (j + 1)) _
      have e9 : K (a + 4) 9 = nI (R.1 0) := by rw [p3 _ _ (by omega)]; exact hC
      have e16 : K (a + 4) 16 = nI (R.1 4) := by rw [p3 _ _ (by omega)]; exact hF
      rw [f_Ha_settle_18]
      unfold r_cl
      by_cases h : R.2.1 200 j < R.1 0
      · simp (disch := omega) only [e9, e16, e1, z_le, z_leL, z_ix, z_cl, z_subL, z_lt, z_addL, show ¬ R.1 4 ≤ j by omega, show ¬ 8 ≤ j by omega, show ¬ R.1 0 - 1 < R.2.1 200 j by omega, h, z_bs, z_gd, z_b1, z_b0, z_10, z_01, eq_self, reduceCtorEq, ↓reduceIte, if_true, if_false, Nat.not_lt_zero, not_true_eq_false, not_false_eq_true, Bool.false_eq_true, Nat.le_refl, Nat.lt_irrefl]
      · by_cases h' : R.1 0 - 1 < R.2.1 200 j
        · simp (disch := omega) only [e9, e16, e1, z_le, z_leL, z_ix, z_cl, z_subL, z_lt, z_addL, show ¬ R.1 4 ≤ j by omega, show ¬ 8 ≤ j by omega, h', h, z_bs, z_gd, z_b1, z_b0, z_10, z_01, eq_self, reduceCtorEq, ↓reduceIte, if_true, if_false, Nat.not_lt_zero, not_true_eq_false, not_false_eq_true, Bool.false_eq_true, Nat.le_refl, Nat.lt_irrefl]
        · omega) (fun f K hK => by
    refine ⟨K, ?_, hK.1, hK.2.2⟩
    show f_Ha_settle_18 a (f + 1) (nI (R.1 4)) K = _
    have e16 : K (a + 4) 16 = nI (R.1 4) := by rw [hK.2.2 _ _ (by omega)]; exact hF
    rw [f_Ha_settle_18]
    simp (disch := omega) only [e16, z_le, z_bs, z_gd, z_b1, z_b0, z_10, z_01, eq_self, reduceCtorEq, ↓reduceIte, if_true, if_false, Nat.not_lt_zero, not_true_eq_false, not_false_eq_true, Bool.false_eq_true, Nat.le_refl, Nat.lt_irrefl]) (R.1 4) lh_fuel 0 I (by omega) (by unfold lh_fuel; omega) ⟨fun i hi => absurd hi (by omega), fun _ _ => rfl, fun _ _ _ => rfl⟩
theorem e_settle42 {a : Nat} {I : lh_II} {R : lh_Rw} (w : r_wf R) (hC : I (a + 4) 9 = nI (R.1 0)) (hF : I (a + 4) 12 = nI (R.1 2)) (hf : ∀ i, i < R.1 2 → I (a + 8 + 4) i = nI (R.2.1 100 i)) : ∃ I', f_Ha_settle_42 a lh_fuel 0 I = some I' ∧ (∀ i, i < R.1 2 → I' (a + 8 + 4) i = q_e (r_in R (R.2.1 100 i))) ∧ ∀ o k, o ≠ a + 12 → I' o k = I o k := by
  have h8 := w.2.2.1
  have h12 := w.1
  have hr := w.2.2.2.2.2.2.2.2.2.1
  exact q_forI (F := fun f j (K : lh_II) => f_Ha_settle_42 a f (nI j) K) (N := R.1 2) (P := fun j K => (∀ i, i < j → K (a + 8 + 4) i = q_e (r_in R (R.2.1 100 i))) ∧ (∀ i, j ≤ i → K (a + 8 + 4) i = I (a + 8 + 4) i) ∧ ∀ o k, o ≠ a + 12 → K o k = I o k) (Q := fun K => (∀ i, i < R.1 2 → K (a + 8 + 4) i = q_e (r_in R (R.2.1 100 i))) ∧ ∀ o k, o ≠ a + 12 → K o k = I o k) (fun f j K hj hK => by
    obtain ⟨p1, p2, p3⟩ := hK
    have hv := hr j hj
    have e1 : K (a + 8 + 4) j = nI (R.2.1 100 j) := by rw [p2 j (Nat.le_refl _)]; exact hf j hj
    refine ⟨lh_u2 K (a + 8 + 4) j (q_e (r_in R (R.2.1 100 j))), ⟨fun i hi => ?_, fun i hi => ?_, fun o k h => ?_⟩, ?_⟩
    · by_cases e : i = j
      · subst e; rw [q_u2s]
      · rw [q_u2o (by omega)]; exact p1 i (by omega)
    · rw [q_u2o (by omega)]; exact p2 i (by omega)
    · rw [q_u2o (by omega)]; exact p3 o k h
    · show f_Ha_settle_42 a (f + 1) (nI j) K = f_Ha_settle_42 a f (nI (j + 1)) _
      have e9 : K (a + 4) 9 = nI (R.1 0) := by rw [p3 _ _ (by omega)]; exact hC
      have e16 : K (a + 4) 12 = nI (R.1 2) := by rw [p3 _ _ (by omega)]; exact hF
      have ew := e_within (R := R) e9 h12.2 hv
      rw [f_Ha_settle_42]
      simp (disch := omega) only [e16, e1, z_le, z_leL, z_ix, z_cl, z_addL, ew, show ¬ R.1 2 ≤ j by omega, show ¬ 4 ≤ j by omega, z_bs, z_gd, z_b1, z_b0, z_10, z_01, eq_self, reduceCtorEq, ↓reduceIte, if_true, if_false, Nat.not_lt_zero, not_true_eq_false, not_false_eq_true, Bool.false_eq_true, Nat.le_refl, Nat.lt_irrefl]) (fun f K hK => by
    refine ⟨K, ?_, hK.1, hK.2.2⟩
    show f_Ha_settle_42 a (f + 1) (nI (R.1 2)) K = _
    have e16 : K (a + 4) 12 = nI (R.1 2) := by rw [hK.2.2 _ _ (by omega)]; exact hF
    rw [f_Ha_settle_42]
    simp (disch := omega) only [e16, z_le, z_bs, z_gd, z_b1, z_b0, z_10, z_01, eq_self, reduceCtorEq, ↓reduceIte, if_true, if_false, Nat.not_lt_zero, not_true_eq_false, not_false_eq_true, Bool.false_eq_true, Nat.le_refl, Nat.lt_irrefl]) (R.1 2) lh_fuel 0 I (by omega) (by unfold lh_fuel; omega) ⟨fun i hi => absurd hi (by omega), fun _ _ => rfl, fun _ _ _ => rfl⟩
theorem e_settle39 {a v : Nat} {I : lh_II} {R : lh_Rw} (w : r_wf R) (hv : v < R.1 1) (hC : I (a + 4) 9 = nI (R.1 0)) (hf : ∀ t, t < R.1 (40 + v) → I (a + 7 + 4) (v * 8 + t) = nI (R.2.1 v t)) {v5 : Int32} (h5 : v5 = if R.1 (10 + v) = 2 then nI (R.2.1 v (R.1 (40 + v) - 1)) else -1) : ∃ I', f_Ha_settleVisitor_39 a (nI (v * 8)) (nI (R.1 (40 + v))) v5 lh_fuel 0 I = some I' ∧ (∀ t, t < 8 → I' (a + 7 + 4) (v * 8 + t) = q_e (q_pl (r_h R) v t)) ∧ (∀ k, ¬ (v * 8 ≤ k ∧ k < v * 8 + 8) → I' (a + 7 + 4) k = I (a + 7 + 4) k) ∧ ∀ o k, o ≠ a + 11 → I' o k = I o k := by
  have h12 := w.1
  have hN := w.2.1
  obtain ⟨-, -, hn1, hn8, hr⟩ := w.2.2.2.2.2.2.2.2.1 v hv
  exact q_forI (F := fun f j (K : lh_II) => f_Ha_settleVisitor_39 a (nI (v * 8)) (nI (R.1 (40 + v))) v5 f (nI j) K) (N := 8) (P := fun j K => (∀ t, t < j → K (a + 7 + 4) (v * 8 + t) = q_e (q_pl (r_h R) v t)) ∧ (∀ k, ¬ (v * 8 ≤ k ∧ k < v * 8 + j) → K (a + 7 + 4) k = I (a + 7 + 4) k) ∧ ∀ o k, o ≠ a + 11 → K o k = I o k) (Q := fun K => (∀ t, t < 8 → K (a + 7 + 4) (v * 8 + t) = q_e (q_pl (r_h R) v t)) ∧ (∀ k, ¬ (v * 8 ≤ k ∧ k < v * 8 + 8) → K (a + 7 + 4) k = I (a + 7 + 4) k) ∧ ∀ o k, o ≠ a + 11 → K o k = I o k) (fun f j K hj hK => by
    obtain ⟨p1, p2, p3⟩ := hK
    have e9 : K (a + 4) 9 = nI (R.1 0) := by rw [p3 _ _ (by omega)]; exact hC
    refine ⟨lh_u2 K (a + 7 + 4) (v * 8 + j) (q_e (q_pl (r_h R) v j)), ⟨fun i hi => ?_, fun i hi => ?_, fun o k h => ?_⟩, ?_⟩
    · by_cases e : i = j
      · subst e; rw [q_u2s]
      · rw [q_u2o (by omega)]; exact p1 i (by omega)
    · rw [q_u2o (by omega)]; exact p2 i (by omega)
    · rw [q_u2o (by omega)]; exact p3 o k h
    · show f_Ha_settleVisitor_39 a (nI (v * 8)) (nI (R.1 (40 + v))) v5 (f + 1) (nI j) K = f_Ha_settleVisitor_39 a (nI (v * 8)) (nI (R.1 (40 + v))) v5 f (nI (j + 1)) _
      rw [f_Ha_settleVisitor_39, r_h_pl R (by omega)]
      by_cases h : j < R.1 (40 + v)
      · have e1 : K (a + 7 + 4) (v * 8 + j) = nI (R.2.1 v j) := by rw [p2 _ (by omega)]; exact hf j h
        have ew := e_within (R := R) e9 h12.2 (hr j h)
        rw [if_pos h]
        simp (disch := omega) only [z_le, z_leL, z_ix, z_cl, z_add, z_addL, e1, ew, show ¬ R.1 (40 + v) ≤ j by omega, show ¬ 8 ≤ j by omega, z_bs, z_gd, z_b1, z_b0, z_10, z_01, eq_self, reduceCtorEq, ↓reduceIte, if_true, if_false, Nat.not_lt_zero, not_true_eq_false, not_false_eq_true, Bool.false_eq_true, Nat.le_refl, Nat.lt_irrefl]
      · rw [if_neg h]
        by_cases h2 : R.1 (10 + v) = 2
        · rw [if_pos h2] at h5
          have ew := e_within (R := R) e9 h12.2 (hr (R.1 (40 + v) - 1) (by omega))
          rw [if_pos h2, h5]
          simp (disch := omega) only [z_le, z_leL, z_ix, z_cl, z_add, z_addL, ew, show R.1 (40 + v) ≤ j by omega, show ¬ 8 ≤ j by omega, z_bs, z_gd, z_b1, z_b0, z_10, z_01, eq_self, reduceCtorEq, ↓reduceIte, if_true, if_false, Nat.not_lt_zero, not_true_eq_false, not_false_eq_true, Bool.false_eq_true, Nat.le_refl, Nat.lt_irrefl]
        · rw [if_neg h2] at h5
          rw [if_neg h2, h5]
          simp (disch := omega) only [z_le, z_leL, z_ix, z_cl, z_add, z_addL, e_within', z_eN, show R.1 (40 + v) ≤ j by omega, show ¬ 8 ≤ j by omega, z_bs, z_gd, z_b1, z_b0, z_10, z_01, eq_self, reduceCtorEq, ↓reduceIte, if_true, if_false, Nat.not_lt_zero, not_true_eq_false, not_false_eq_true, Bool.false_eq_true, Nat.le_refl, Nat.lt_irrefl]) (fun f K hK => by
    refine ⟨K, ?_, hK⟩
    show f_Ha_settleVisitor_39 a (nI (v * 8)) (nI (R.1 (40 + v))) v5 (f + 1) (nI 8) K = _
    rw [f_Ha_settleVisitor_39]
    simp (disch := omega) only [z_leL, z_bs, z_gd, z_b1, z_b0, z_10, z_01, eq_self, reduceCtorEq, ↓reduceIte, if_true, if_false, Nat.not_lt_zero, not_true_eq_false, not_false_eq_true, Bool.false_eq_true, Nat.le_refl, Nat.lt_irrefl]) 8 lh_fuel 0 I rfl (by decide) ⟨fun i hi => absurd hi (by omega), fun _ _ => rfl, fun _ _ _ => rfl⟩
theorem e_settleV {a v : Nat} {I : lh_II} {R : lh_Rw} (w : r_wf R) (hv : v < R.1 1) (hC : I (a + 4) 9 = nI (R.1 0)) (hk : I (a + 4 + 4) v = nI (R.1 (10 + v))) (hn : I (a + 6 + 4) v = nI (R.1 (40 + v))) (hf : ∀ t, t < R.1 (40 + v) → I (a + 7 + 4) (v * 8 + t) = nI (R.2.1 v t)) : ∃ I', f_Ha_settleVisitor a (nI v) I = some I' ∧ (∀ t, t < 8 → I' (a + 7 + 4) (v * 8 + t) = q_e (q_pl (r_h R) v t)) ∧ (∀ k, ¬ (v * 8 ≤ k ∧ k < v * 8 + 8) → I' (a + 7 + 4) k = I (a + 7 + 4) k) ∧ ∀ o k, o ≠ a + 11 → I' o k = I o k := by
  have hN := w.2.1
  obtain ⟨hk4, -, hn1, hn8, hr⟩ := w.2.2.2.2.2.2.2.2.1 v hv
  by_cases h2 : R.1 (10 + v) = 2
  · obtain ⟨I', e1, e2⟩ := e_settle39 w hv hC hf (v5 := nI (R.2.1 v (R.1 (40 + v) - 1))) (by rw [if_pos h2])
    refine ⟨I', ?_, e2⟩
    have hl := hf (R.1 (40 + v) - 1) (by omega)
    rw [show v * 8 + (R.1 (40 + v) - 1) = v * 8 + R.1 (40 + v) - 1 by omega] at hl
    unfold f_Ha_settleVisitor
    simp (disch := omega) only [z_ix, z_cl, hk, hn, h2, z_eqR, z_leR, z_ltL, z_mulL, z_add, z_subL, hl, e1, show ¬ R.1 (40 + v) ≤ 0 by omega, show ¬ 8 < R.1 (40 + v) by omega, z_bs, z_gd, z_b1, z_b0, z_10, z_01, eq_self, reduceCtorEq, ↓reduceIte, if_true, if_false, Nat.not_lt_zero, not_true_eq_false, not_false_eq_true, Bool.false_eq_true, Nat.le_refl, Nat.lt_irrefl]
  · obtain ⟨I', e1, e2⟩ := e_settle39 w hv hC hf (v5 := -1) (by rw [if_neg h2])
    refine ⟨I', ?_, e2⟩
    unfold f_Ha_settleVisitor
    simp (disch := omega) only [z_ix, z_cl, hk, hn, h2, z_eqR, z_mulL, e1, z_bs, z_gd, z_b1, z_b0, z_10, z_01, eq_self, reduceCtorEq, ↓reduceIte, if_true, if_false, Nat.not_lt_zero, not_true_eq_false, not_false_eq_true, Bool.false_eq_true, Nat.le_refl, Nat.lt_irrefl]
theorem e_settle63 {a : Nat} {I : lh_II} {R : lh_Rw} (w : r_wf R) (hC : I (a + 4) 9 = nI (R.1 0)) (hN : I (a + 4) 11 = nI (R.1 1)) (hk : ∀ v, v < R.1 1 → I (a + 4 + 4) v = nI (R.1 (10 + v)) ∧ I (a + 6 + 4) v = nI (R.1 (40 + v))) (hf : ∀ v t, v < R.1 1 → t < R.1 (40 + v) → I (a + 7 + 4) (v * 8 + t) = nI (R.2.1 v t)) : ∃ I', f_Ha_settle_63 a lh_fuel 0 I = some I' ∧ (∀ v t, v < R.1 1 → t < 8 → I' (a + 7 + 4) (v * 8 + t) = q_e (q_pl (r_h R) v t)) ∧ ∀ o k, o ≠ a + 11 → I' o k = I o k := by
  have h6 := w.2.1
  exact q_forI (F := fun f j (K : lh_II) => f_Ha_settle_63 a f (nI j) K) (N := R.1 1) (P := fun j K => (∀ v t, v < j → t < 8 → K (a + 7 + 4) (v * 8 + t) = q_e (q_pl (r_h R) v t)) ∧ (∀ k, j * 8 ≤ k → K (a + 7 + 4) k = I (a + 7 + 4) k) ∧ ∀ o k, o ≠ a + 11 → K o k = I o k) (Q := fun K => (∀ v t, v < R.1 1 → t < 8 → K (a + 7 + 4) (v * 8 + t) = q_e (q_pl (r_h R) v t)) ∧ ∀ o k, o ≠ a + 11 → K o k = I o k) (fun f j K hj hK => by
    obtain ⟨p1, p2, p3⟩ := hK
    obtain ⟨K', e1, e2, e3, e4⟩ := e_settleV (a := a) (I := K) w hj (by rw [p3 _ _ (by omega)]; exact hC) (by rw [p3 _ _ (by omega)]; exact (hk j hj).1) (by rw [p3 _ _ (by omega)]; exact (hk j hj).2) (fun t ht => by rw [p2 _ (by omega)]; exact hf j t hj ht)
    refine ⟨K', ⟨fun v t hv ht => ?_, fun k hk => ?_, fun o k h => ?_⟩, ?_⟩
    · by_cases e : v = j
      · subst e; exact e2 t ht
      · rw [e3 _ (by omega)]; exact p1 v t (by omega) ht
    · rw [e3 _ (by omega)]; exact p2 k (by omega)
    · rw [e4 o k h]; exact p3 o k h
    · show f_Ha_settle_63 a (f + 1) (nI j) K = f_Ha_settle_63 a f (nI (j + 1)) _
      have e11 : K (a + 4) 11 = nI (R.1 1) := by rw [p3 _ _ (by omega)]; exact hN
      rw [f_Ha_settle_63]
      simp (disch := omega) only [e11, z_le, z_leL, z_addL, e1, show ¬ R.1 1 ≤ j by omega, show ¬ 6 ≤ j by omega, z_bs, z_gd, z_b1, z_b0, z_10, z_01, eq_self, reduceCtorEq, ↓reduceIte, if_true, if_false, Nat.not_lt_zero, not_true_eq_false, not_false_eq_true, Bool.false_eq_true, Nat.le_refl, Nat.lt_irrefl]) (fun f K hK => by
    refine ⟨K, ?_, hK.1, hK.2.2⟩
    show f_Ha_settle_63 a (f + 1) (nI (R.1 1)) K = _
    have e11 : K (a + 4) 11 = nI (R.1 1) := by rw [hK.2.2 _ _ (by omega)]; exact hN
    rw [f_Ha_settle_63]
    simp (disch := omega) only [e11, z_le, z_bs, z_gd, z_b1, z_b0, z_10, z_01, eq_self, reduceCtorEq, ↓reduceIte, if_true, if_false, Nat.not_lt_zero, not_true_eq_false, not_false_eq_true, Bool.false_eq_true, Nat.le_refl, Nat.lt_irrefl]) (R.1 1) lh_fuel 0 I (by omega) (by unfold lh_fuel; omega) ⟨fun v t hv => absurd hv (by omega), fun _ _ => rfl, fun _ _ _ => rfl⟩
theorem e_lc6 {a : Nat} {I I' : lh_II} (h9 : I (a + 4) 9 = I' (a + 4) 9) (h13 : I (a + 4) 13 = I' (a + 4) 13) (v1 v2 : Int32) : ∀ (n : Nat) (v3 v4 : Int32), f_Ha_lightAmong_6 a v1 v2 I n v3 v4 = f_Ha_lightAmong_6 a v1 v2 I' n v3 v4 := by
  intro n
  induction n with
  | zero => intro v3 v4; rfl
  | succ n ih => intro v3 v4; rw [f_Ha_lightAmong_6, f_Ha_lightAmong_6, h9, h13, ih]
theorem e_lc38 {a : Nat} {I I' : lh_II} (h9 : I (a + 4) 9 = I' (a + 4) 9) (h13 : I (a + 4) 13 = I' (a + 4) 13) (v1 v2 : Int32) : ∀ (n : Nat) (v3 v4 : Int32), f_Ha_lightAmong_38 a v1 v2 I n v3 v4 = f_Ha_lightAmong_38 a v1 v2 I' n v3 v4 := by
  intro n
  induction n with
  | zero => intro v3 v4; rfl
  | succ n ih => intro v3 v4; rw [f_Ha_lightAmong_38, f_Ha_lightAmong_38, h13, ih]
theorem e_lc {a : Nat} {I I' : lh_II} (h9 : I (a + 4) 9 = I' (a + 4) 9) (h13 : I (a + 4) 13 = I' (a + 4) 13) (v1 v2 : Int32) : f_Ha_lightAmong a v1 v2 I = f_Ha_lightAmong a v1 v2 I' := by
  unfold f_Ha_lightAmong
  rw [e_lc6 h9 h13]
  simp only [e_lc38 h9 h13]
theorem e_settle {a : Nat} {I : lh_II} {R : lh_Rw} (w : r_wf R) (c : r_cls a I R) : ∃ I', f_Ha_settle a I = some I' ∧ q_cl a I' (r_h R) ∧ ∀ o k, ¬ (o = a + 4 ∧ (k = 10 ∨ k = 15)) → o ≠ a + 11 → o ≠ a + 12 → o ≠ a + 13 → o ≠ a + 14 → I' o k = I o k := by
  have hwf := r_h_wf w
  have h12 := w.1
  have hN := w.2.1
  have hG := w.2.2.2.2.2.2.1
  have hP := w.2.2.2.2.2.2.2.1
  obtain ⟨⟨c1, c2, c3, c4, c5, c6, c7, c8⟩, d1, d2, d3, d4, d5, d6⟩ := c
  obtain ⟨zI, hzI⟩ : ∃ zI, zI = lh_u2 (lh_u2 I (a + 4) 10 (nI (R.1 7 % 2 ^ R.1 0))) (a + 4) 15 (nI (r_cl R (R.1 6))) := ⟨_, rfl⟩
  have f0 : ∀ o k, ¬ (o = a + 4 ∧ (k = 10 ∨ k = 15)) → zI o k = I o k := fun o k h => by rw [hzI, q_u2o (by omega), q_u2o (by omega)]
  obtain ⟨I1, e1, e2, e3⟩ := e_settle18 (a := a) (I := zI) w (by rw [f0 _ _ (by omega)]; exact c1) (by rw [f0 _ _ (by omega)]; exact c8) (fun i hi => by rw [f0 _ _ (by omega)]; exact d4 i hi)
  obtain ⟨I2, g1, g2, g3⟩ := e_settle42 (a := a) (I := I1) w (by rw [e3 _ _ (by omega), f0 _ _ (by omega)]; exact c1) (by rw [e3 _ _ (by omega), f0 _ _ (by omega)]; exact c4) (fun i hi => by rw [e3 _ _ (by omega), f0 _ _ (by omega)]; exact d3 i hi)
  obtain ⟨I3, k1, k2, k3⟩ := e_settle63 (a := a) (I := I2) w (by rw [g3 _ _ (by omega), e3 _ _ (by omega), f0 _ _ (by omega)]; exact c1) (by rw [g3 _ _ (by omega), e3 _ _ (by omega), f0 _ _ (by omega)]; exact c3) (fun v hv => ⟨by rw [g3 _ _ (by omega), e3 _ _ (by omega), f0 _ _ (by omega)]; exact (d1 v hv).1, by rw [g3 _ _ (by omega), e3 _ _ (by omega), f0 _ _ (by omega)]; exact (d1 v hv).2.2⟩) (fun v t hv ht => by rw [g3 _ _ (by omega), e3 _ _ (by omega), f0 _ _ (by omega)]; exact d2 v t hv ht)
  have f3 : ∀ o k, ¬ (o = a + 4 ∧ (k = 10 ∨ k = 15)) → o ≠ a + 11 → o ≠ a + 12 → o ≠ a + 13 → I3 o k = I o k := fun o k h h1 h2 h3 => by rw [k3 _ _ h1, g3 _ _ h2, e3 _ _ h3, f0 _ _ h]
  have hgen : ∀ K : lh_II, (∀ o k, o ≠ a + 14 → K o k = I3 o k) → (∀ x, x < R.1 0 → K (a + 10 + 4) x = nI (q_lt (r_h R) x (q_P (r_h R)))) → q_cl a K (r_h R) := by
    intro K hK hx
    refine ⟨⟨?_, ?_, ?_, ?_, ?_, ?_, ?_, ?_⟩, fun v hv => ?_, fun v t hv ht => ?_, fun k hk => ?_, fun i hi => ?_, hx, ?_, fun i hi => ?_⟩
    · rw [hK _ _ (by omega), f3 _ _ (by omega) (by omega) (by omega) (by omega)]; exact c1
    · rw [hK _ _ (by omega), k3 _ _ (by omega), g3 _ _ (by omega), e3 _ _ (by omega), hzI, q_u2o (by omega), q_u2s]; rfl
    · rw [hK _ _ (by omega), f3 _ _ (by omega) (by omega) (by omega) (by omega)]; exact c3
    · rw [hK _ _ (by omega), f3 _ _ (by omega) (by omega) (by omega) (by omega)]; exact c4
    · rw [hK _ _ (by omega), f3 _ _ (by omega) (by omega) (by omega) (by omega)]; exact c5
    · rw [hK _ _ (by omega), f3 _ _ (by omega) (by omega) (by omega) (by omega)]; exact c6
    · rw [hK _ _ (by omega), k3 _ _ (by omega), g3 _ _ (by omega), e3 _ _ (by omega), hzI, q_u2s]; rfl
    · rw [hK _ _ (by omega), f3 _ _ (by omega) (by omega) (by omega) (by omega)]; exact c8
    · have hv' : v < R.1 1 := hv
      rw [hK _ _ (by omega), f3 _ _ (by omega) (by omega) (by omega) (by omega), hK _ _ (by omega), f3 _ _ (by omega) (by omega) (by omega) (by omega), r_h_kd R (by omega), r_h_dy R (by omega)]
      exact ⟨(d1 v hv').1, (d1 v hv').2.1⟩
    · rw [hK _ _ (by omega)]; exact k2 v t hv ht
    · rw [hK _ _ (by omega), k3 _ _ (by omega)]; exact g2 k hk
    · rw [hK _ _ (by omega), k3 _ _ (by omega), g3 _ _ (by omega), r_h_fe]; exact e2 i hi
    · rw [hK _ _ (by omega), f3 _ _ (by omega) (by omega) (by omega) (by omega)]; exact d5
    · rw [hK _ _ (by omega), f3 _ _ (by omega) (by omega) (by omega) (by omega)]; exact d6 i hi
  have hP4 : q_P (r_h R) < 2147483648 := Nat.lt_of_le_of_lt (Nat.mod_le (R.1 7) (2 ^ R.1 0)) (by omega)
  have hlight : ∀ K : lh_II, (∀ o k, o ≠ a + 14 → K o k = I3 o k) → ∀ x, x < R.1 0 → f_Ha_lightAmong a (nI x) (K (a + 4) 10) K = some (nI (q_lt (r_h R) x (q_P (r_h R)))) := by
    intro K hK x hx
    have hq := hgen (fun o k => if o = a + 10 + 4 then nI (q_lt (r_h R) k (q_P (r_h R))) else K o k) (fun o k h => by show (if o = a + 10 + 4 then _ else _) = _; rw [if_neg (by omega)]; exact hK o k h) (fun x _ => by show (if a + 10 + 4 = a + 10 + 4 then _ else _) = _; rw [if_pos rfl])
    have h10 : K (a + 4) 10 = nI (q_P (r_h R)) := by
      have := hq.P
      have e : (if a + 4 = a + 10 + 4 then nI (q_lt (r_h R) 10 (q_P (r_h R))) else K (a + 4) 10) = nI (q_P (r_h R)) := this
      rwa [if_neg (by omega)] at e
    rw [h10, ← e_lightAmong hq hwf hx hP4]
    exact e_lc (by show _ = (if a + 4 = a + 10 + 4 then _ else _); rw [if_neg (by omega)]) (by show _ = (if a + 4 = a + 10 + 4 then _ else _); rw [if_neg (by omega)]) _ _
  have key := q_forI (F := fun f j (K : lh_II) => f_Ha_settle_77 a f (nI j) K) (N := R.1 0) (P := fun j K => (∀ x, x < j → K (a + 10 + 4) x = nI (q_lt (r_h R) x (q_P (r_h R)))) ∧ ∀ o k, o ≠ a + 14 → K o k = I3 o k) (Q := fun K => (∀ x, x < R.1 0 → K (a + 10 + 4) x = nI (q_lt (r_h R) x (q_P (r_h R)))) ∧ ∀ o k, o ≠ a + 14 → K o k = I3 o k) (fun f j K hj hK => by
    obtain ⟨p1, p2⟩ := hK
    have el := hlight K p2 j hj
    have e9 : K (a + 4) 9 = nI (R.1 0) := by rw [p2 _ _ (by omega), f3 _ _ (by omega) (by omega) (by omega) (by omega)]; exact c1
    refine ⟨lh_u2 K (a + 10 + 4) j (nI (q_lt (r_h R) j (q_P (r_h R)))), ⟨fun i hi => ?_, fun o k h => ?_⟩, ?_⟩
    · by_cases e : i = j
      · subst e; rw [q_u2s]
      · rw [q_u2o (by omega)]; exact p1 i (by omega)
    · rw [q_u2o (by omega)]; exact p2 o k h
    · show f_Ha_settle_77 a (f + 1) (nI j) K = f_Ha_settle_77 a f (nI (j + 1)) _
      rw [f_Ha_settle_77, el]
      simp (disch := omega) only [e9, z_le, z_leL, z_ix, z_cl, z_addL, show ¬ R.1 0 ≤ j by omega, show ¬ 12 ≤ j by omega, z_bs, z_gd, z_b1, z_b0, z_10, z_01, eq_self, reduceCtorEq, ↓reduceIte, if_true, if_false, Nat.not_lt_zero, not_true_eq_false, not_false_eq_true, Bool.false_eq_true, Nat.le_refl, Nat.lt_irrefl]) (fun f K hK => by
    refine ⟨K, ?_, hK⟩
    show f_Ha_settle_77 a (f + 1) (nI (R.1 0)) K = _
    have e9 : K (a + 4) 9 = nI (R.1 0) := by rw [hK.2 _ _ (by omega), f3 _ _ (by omega) (by omega) (by omega) (by omega)]; exact c1
    rw [f_Ha_settle_77]
    simp (disch := omega) only [e9, z_le, z_bs, z_gd, z_b1, z_b0, z_10, z_01, eq_self, reduceCtorEq, ↓reduceIte, if_true, if_false, Nat.not_lt_zero, not_true_eq_false, not_false_eq_true, Bool.false_eq_true, Nat.le_refl, Nat.lt_irrefl]) (R.1 0) lh_fuel 0 I3 (by omega) (by unfold lh_fuel; omega) ⟨fun i hi => absurd hi (by omega), fun _ _ _ => rfl⟩
  obtain ⟨I4, m1, m2, m3⟩ := key
  have m1' : f_Ha_settle_77 a lh_fuel 0 I3 = some I4 := m1
  refine ⟨I4, ?_, hgen I4 m3 m2, fun o k h h1 h2 h3 h4 => by rw [m3 _ _ h4, f3 _ _ h h1 h2 h3]⟩
  have hall : f_Ha_allCells a I = some (nI (2 ^ R.1 0 - 1)) := by
    have h1 : (1 : Nat) ≤ 2 ^ R.1 0 := Nat.one_le_two_pow
    unfold f_Ha_allCells
    rw [c1, z_sh1 (by omega)]
    congr 1
    exact z_subL 1 (by show 1 ≤ _; exact h1)
  unfold f_Ha_settle
  rw [hall, z_bs]
  have hmask : I (a + 4) 10 &&& nI (2 ^ R.1 0 - 1) = nI (R.1 7 % 2 ^ R.1 0) := by rw [c2, fa_mask]
  have hgu : (if nI (R.1 0) - 1 < nI (R.1 6) then nI (R.1 0) - 1 else nI (R.1 6)) = nI (r_cl R (R.1 6)) := by
    unfold r_cl
    rw [show nI (R.1 0) - 1 = nI (R.1 0 - 1) from z_subL 1 (by show 1 ≤ _; omega)]
    by_cases h : R.1 6 < R.1 0
    · rw [if_pos h, if_neg (by rw [z_lt (by omega) (by omega)]; omega)]
    · rw [if_neg h]
      by_cases h' : R.1 0 - 1 < R.1 6
      · rw [if_pos (by rw [z_lt (by omega) (by omega)]; exact h')]
      · omega
  rw [hmask, q_u2o (o' := a + 4) (k' := 9) (by omega), q_u2o (o' := a + 4) (k' := 15) (by omega), c1, c7, hgu, ← hzI, e1, z_bs, g1, z_bs, k1, z_bs, m1', z_bs]
