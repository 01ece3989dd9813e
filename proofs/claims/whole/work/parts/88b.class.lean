/-! one line: the spec, what is kept, the class's pieces -/
def ln_no (I' J' : lh_II) : Prop := ∃ F, (1 ≤ F ∧ F ≤ 20000) ∧ I' (1 + 4) 8 = nI F ∧ J' (65 + 4) 8 = nI F
def ln_ok (t : List Nat) (N n a q : Nat) (I' : lh_II) (L' : lh_LL) (J' : lh_II) (M' : lh_LL) : Prop := I' (1 + 4) 8 = 0 ∧ J' (65 + 4) 8 = 0 ∧ ∃ n' R ns O, n < n' ∧ r_c t n' I' L' ∧ r_m t N n' J' M' ∧ hs_c a q R ns O I' L' ∧ hs_m R ns O J' M' ∧ hs_w R ns
def ln_sp (t : List Nat) (N n a q : Nat) (I : lh_II) (L : lh_LL) (J : lh_II) (M : lh_LL) : Prop := ∃ I' L' J' M', ((f_Hr_readLine a q I L = some (1, I', L') ∧ f_LM_readLine J M = some (J', M') ∧ ln_ok t N n a q I' L' J' M') ∨ (f_Hr_readLine a q I L = some (0, I', L') ∧ f_LM_readLine J M = some (J', M') ∧ ln_no I' J')) ∧ h_cf a q I I' ∧ h_lf q L L' ∧ h_mf J J' ∧ h_nf M M'
theorem r_cls.kp {a : Nat} {I I' : lh_II} {R : lh_Rw} (h : r_cls a I R) (hf : ∀ o k, a + 4 ≤ o → o ≤ a + 14 → I' o k = I o k) : r_cls a I' R := by
  obtain ⟨⟨h1, h2, h3, h4, h5, h6, h7, h8⟩, h9, h10, h11, h12, h13, h14⟩ := h
  refine ⟨⟨by rw [hf _ _ (by omega) (by omega)]; exact h1, by rw [hf _ _ (by omega) (by omega)]; exact h2, by rw [hf _ _ (by omega) (by omega)]; exact h3, by rw [hf _ _ (by omega) (by omega)]; exact h4, by rw [hf _ _ (by omega) (by omega)]; exact h5, by rw [hf _ _ (by omega) (by omega)]; exact h6, by rw [hf _ _ (by omega) (by omega)]; exact h7, by rw [hf _ _ (by omega) (by omega)]; exact h8⟩, fun v hv => ?_, fun v t hv ht => ?_, fun k hk => ?_, fun i hi => ?_, ?_, fun i hi => ?_⟩
  · rw [hf _ _ (by omega) (by omega), hf _ _ (by omega) (by omega), hf _ _ (by omega) (by omega)]; exact h9 v hv
  · rw [hf _ _ (by omega) (by omega)]; exact h10 v t hv ht
  · rw [hf _ _ (by omega) (by omega)]; exact h11 k hk
  · rw [hf _ _ (by omega) (by omega)]; exact h12 i hi
  · rw [hf _ _ (by omega) (by omega)]; exact h13
  · rw [hf _ _ (by omega) (by omega)]; exact h14 i hi
theorem o_b_le {j : Nat} (hj : j < 6) : o_b j ≤ 11 := by
  have : j = 0 ∨ j = 1 ∨ j = 2 ∨ j = 3 ∨ j = 4 ∨ j = 5 := by omega
  rcases this with rfl | rfl | rfl | rfl | rfl | rfl <;> decide
theorem o_b_inj : ∀ i, i < 6 → ∀ j, j < 6 → (o_b i = o_b j) = (i = j) := by decide +kernel
def o_set (O : Nat → Bool) (j : Nat) : Nat → Bool := fun i => if i = j then true else O i
theorem o_up_c {x j : Nat} {O : Nat → Bool} (hx : x < 4096) (hj : j < 6) (h : ∀ i, i < 6 → x.testBit (o_b i) = O i) : x ||| 2 ^ o_b j < 4096 ∧ ∀ i, i < 6 → (x ||| 2 ^ o_b j).testBit (o_b i) = o_set O j i := by
  have hb := o_b_le hj
  refine ⟨Nat.or_lt_two_pow (n := 12) hx (Nat.pow_lt_pow_right (by decide) (by omega)), fun i hi => ?_⟩
  rw [fb_bit_set, h i hi]
  unfold o_set
  by_cases e : i = j
  · subst e; simp
  · have : ¬ o_b i = o_b j := by rw [o_b_inj i hi j hj]; exact e
    rw [if_neg e]
    simp
    intro h; omega
theorem o_up_m {x j : Nat} {O : Nat → Bool} (hx : x < 64) (hj : j < 6) (h : ∀ i, i < 6 → x.testBit i = O i) : x ||| 2 ^ j < 64 ∧ ∀ i, i < 6 → (x ||| 2 ^ j).testBit i = o_set O j i := by
  refine ⟨Nat.or_lt_two_pow (n := 6) hx (Nat.pow_lt_pow_right (by decide) (by omega)), fun i hi => ?_⟩
  rw [fb_bit_set, h i hi]
  unfold o_set
  by_cases e : i = j
  · subst e; simp
  · rw [if_neg e]
    simp
    intro h; omega
section Q88b
variable {t : List Nat} {a q n : Nat} {I : lh_II} {L : lh_LL}
theorem e_once3 (hc : r_c t n I L) (h8 : I (1 + 4) 8 = 0) {x C : Nat} (hx : x < 4096) (h4 : I (q + 4) 4 = nI x) (hC : C ≤ 11) (hb : x.testBit C = true) : f_Hr_takeOnce a q (nI C) I L = some (0, lh_u2 I (1 + 4) 8 (nI (3 + 16 * tk_P t n)), L) := by
  have e := z_bit1 (x := x) (j := C) (by omega) (by omega)
  have er : f_Re_refuse 3 I = _ := e_refuse hc h8 3
  unfold f_Hr_takeOnce
  simp (disch := omega) only [h4, e, hb, er, show lh_z 0 = true from rfl, z_bs, z_gd, z_b1, z_b0, z_10, z_01, eq_self, reduceCtorEq, ↓reduceIte, if_true, if_false, Nat.not_lt_zero, not_true_eq_false, not_false_eq_true, Bool.false_eq_true, Nat.le_refl, Nat.lt_irrefl]
theorem e_once1 (hw : qt_w t) (hq : 82 ≤ q) (hc : r_c t n I L) {x C : Nat} (hx : x < 4096) (h4 : I (q + 4) 4 = nI x) (hC : C ≤ 11) (hb : ¬ x.testBit C = true) : ∃ I1 L1, f_Hr_takeOnce a q (nI C) I L = some (1, I1, L1) ∧ r_c t (n + 1) I1 L1 ∧ (∀ o k, ¬ (o = 5 ∧ 3 ≤ k ∧ k ≤ 6) → ¬ (o = q + 4 ∧ k = 4) → I1 o k = I o k) ∧ I1 (q + 4) 4 = nI (x ||| 2 ^ C) ∧ r_lf L L1 := by
  have e := z_bit1 (x := x) (j := C) (by omega) (by omega)
  have s1 := z_sh1 (j := C) (by omega)
  have hc1 : r_c t n (lh_u2 I (q + 4) 4 (nI (x ||| 2 ^ C))) L := hc.kp (fun o k h => by rw [q_u2o (by omega)])
  obtain ⟨I1, L1, a1, a2, a3, a4⟩ := e_adv hw hc1
  refine ⟨I1, L1, ?_, a2, fun o k h1 h2 => by rw [a3 o k (by omega), q_u2o (by omega)], by rw [a3 _ _ (by omega), q_u2s], a4⟩
  unfold f_Hr_takeOnce
  simp (disch := omega) only [h4, e, hb, s1, z_or, a1, z_bs, z_gd, z_b1, z_b0, z_10, z_01, eq_self, reduceCtorEq, ↓reduceIte, if_true, if_false, Nat.not_lt_zero, not_true_eq_false, not_false_eq_true, Bool.false_eq_true, Nat.le_refl, Nat.lt_irrefl]
/-- which measure: class's word, lowest, highest, class's field, the reference's place, which number of the hall -/
def ms_p (C lo hi fc fm fr j : Nat) : Prop := (C = 0 ∧ lo = 2 ∧ hi = 12 ∧ fc = 9 ∧ fm = 0 ∧ fr = 0 ∧ j = 0) ∨ (C = 7 ∧ lo = 1 ∧ hi = 5 ∧ fc = 13 ∧ fm = 3 ∧ fr = 3 ∧ j = 1) ∨ (C = 8 ∧ lo = 0 ∧ hi = 99 ∧ fc = 14 ∧ fm = 4 ∧ fr = 5 ∧ j = 2) ∨ (C = 9 ∧ lo = 0 ∧ hi = 11 ∧ fc = 15 ∧ fm = 5 ∧ fr = 6 ∧ j = 3)
theorem e_meas {C lo hi fc fm fr j : Nat} (hp : ms_p C lo hi fc fm fr j) : f_Hr_readMeasure a q (nI C) I L = lh_bd (f_Re_wantNumber (nI lo) (nI hi) I) fun r => if r.1 = 0 then some (0, r.2, L) else lh_bd (f_Re_advance (lh_u2 r.2 (a + 4) fc (r.2 (1 + 4) 6)) L) fun r2 => some (1, r2.1, r2.2) := by
  rcases hp with ⟨rfl, rfl, rfl, rfl, rfl, rfl, rfl⟩ | ⟨rfl, rfl, rfl, rfl, rfl, rfl, rfl⟩ | ⟨rfl, rfl, rfl, rfl, rfl, rfl, rfl⟩ | ⟨rfl, rfl, rfl, rfl, rfl, rfl, rfl⟩
  all_goals
    unfold f_Hr_readMeasure
    simp (disch := omega) only [z_eqR, Nat.reduceEqDiff, z_bs, z_gd, z_b1, z_b0, z_10, z_01, eq_self, reduceCtorEq, ↓reduceIte, if_true, if_false, Nat.not_lt_zero, not_true_eq_false, not_false_eq_true, Bool.false_eq_true, Nat.le_refl, Nat.lt_irrefl]
    rfl
theorem e_meas1 (hw : qt_w t) (ha : 11 ≤ a ∧ a ≤ 23) {C lo hi fc fm fr j : Nat} (hp : ms_p C lo hi fc fm fr j) (hc : r_c t n I L) (h8 : I (1 + 4) 8 = 0) (h0 : tk_nf lo hi t n = 0) : ∃ I1 L1, f_Hr_readMeasure a q (nI C) I L = some (1, I1, L1) ∧ r_c t (n + 1) I1 L1 ∧ (∀ o k, ¬ (o = 5 ∧ 3 ≤ k ∧ k ≤ 6) → ¬ (o = a + 4 ∧ k = fc) → I1 o k = I o k) ∧ I1 (a + 4) fc = nI (tk_V t n) ∧ r_lf L L1 := by
  have hb : lo ≤ 9999 ∧ hi ≤ 9999 := by unfold ms_p at hp; omega
  have h28 : tk_C t n = 28 := by
    unfold tk_nf at h0
    repeat' split at h0
    all_goals first | assumption | omega
  have h6 : I (1 + 4) 6 = nI (tk_V t n) := (hc.2.2.2.2.1 h28).1
  have hc1 : r_c t n (lh_u2 I (a + 4) fc (nI (tk_V t n))) L := hc.kp (fun o k h => by rw [q_u2o (by omega)])
  obtain ⟨I1, L1, a1, a2, a3, a4⟩ := e_adv hw hc1
  refine ⟨I1, L1, ?_, a2, fun o k h1 h2 => by rw [a3 o k (by omega), q_u2o (by omega)], by rw [a3 _ _ (by omega), q_u2s], a4⟩
  rw [e_meas hp, e_want hc h8 hb.1 hb.2, if_pos h0]
  simp (disch := omega) only [h6, a1, z_bs, z_gd, z_b1, z_b0, z_10, z_01, eq_self, reduceCtorEq, ↓reduceIte, if_true, if_false, Nat.not_lt_zero, not_true_eq_false, not_false_eq_true, Bool.false_eq_true, Nat.le_refl, Nat.lt_irrefl]
theorem e_meas0 {C lo hi fc fm fr j : Nat} (hp : ms_p C lo hi fc fm fr j) (hc : r_c t n I L) (h8 : I (1 + 4) 8 = 0) (h0 : ¬ tk_nf lo hi t n = 0) : f_Hr_readMeasure a q (nI C) I L = some (0, lh_u2 I (1 + 4) 8 (nI (tk_nf lo hi t n + 16 * tk_P t n)), L) := by
  have hb : lo ≤ 9999 ∧ hi ≤ 9999 := by unfold ms_p at hp; omega
  rw [e_meas hp, e_want hc h8 hb.1 hb.2, if_neg h0]
  simp (disch := omega) only [z_bs, z_gd, z_b1, z_b0, z_10, z_01, eq_self, reduceCtorEq, ↓reduceIte, if_true, if_false, Nat.not_lt_zero, not_true_eq_false, not_false_eq_true, Bool.false_eq_true, Nat.le_refl, Nat.lt_irrefl]
/-! which line -/
theorem eh_lineM (hc : r_c t n I L) (hC : tk_C t n = 0 ∨ tk_C t n = 7 ∨ tk_C t n = 8 ∨ tk_C t n = 9) : f_Hr_readLine a q I L = lh_bd (f_Hr_takeOnce a q (nI (tk_C t n)) I L) fun r2 => if r2.1 = 0 then some (0, r2.2.1, r2.2.2) else lh_bd (f_Hr_readMeasure a q (nI (tk_C t n)) r2.2.1 r2.2.2) fun r5 => if r5.1 = 0 then some (0, r5.2.1, r5.2.2) else some (1, r5.2.1, r5.2.2) := by
  have h4 : I (1 + 4) 4 = nI (tk_C t n) := hc.2.2.1
  rcases hC with e | e | e | e
  all_goals
    unfold f_Hr_readLine
    rw [e] at h4 ⊢
    simp (disch := omega) only [h4, z_eqR, Nat.reduceEqDiff, z_bs, z_gd, z_b1, z_b0, z_10, z_01, eq_self, reduceCtorEq, ↓reduceIte, if_true, if_false, Nat.not_lt_zero, not_true_eq_false, not_false_eq_true, Bool.false_eq_true, Nat.le_refl, Nat.lt_irrefl]
theorem eh_lineP (hc : r_c t n I L) (hC : tk_C t n = 1) : f_Hr_readLine a q I L = lh_bd (f_Re_advance I L) fun r9 => lh_bd (f_Hr_readPillar a q r9.1 r9.2) fun r11 => lh_gd (lh_z r11.1) (some (r11.1, r11.2.1, r11.2.2)) := by
  have h4 : I (1 + 4) 4 = nI (tk_C t n) := hc.2.2.1
  unfold f_Hr_readLine
  rw [hC] at h4
  simp (disch := omega) only [h4, z_eqR, Nat.reduceEqDiff, z_bs, z_gd, z_b1, z_b0, z_10, z_01, eq_self, reduceCtorEq, ↓reduceIte, if_true, if_false, Nat.not_lt_zero, not_true_eq_false, not_false_eq_true, Bool.false_eq_true, Nat.le_refl, Nat.lt_irrefl]
theorem eh_lineV (hc : r_c t n I L) (hC : tk_C t n = 2) : f_Hr_readLine a q I L = lh_bd (f_Hr_takeIfRoom a q (I (a + 4) 11) (6 : Int32) I L) fun r15 => if r15.1 = 0 then some (0, r15.2.1, r15.2.2) else lh_bd (f_Hr_readVisitor a q r15.2.1 r15.2.2) fun r18 => if r18.1 = 0 then some (0, r18.2.1, r18.2.2) else some (1, r18.2.1, r18.2.2) := by
  have h4 : I (1 + 4) 4 = nI (tk_C t n) := hc.2.2.1
  unfold f_Hr_readLine
  rw [hC] at h4
  simp (disch := omega) only [h4, z_eqR, Nat.reduceEqDiff, z_bs, z_gd, z_b1, z_b0, z_10, z_01, eq_self, reduceCtorEq, ↓reduceIte, if_true, if_false, Nat.not_lt_zero, not_true_eq_false, not_false_eq_true, Bool.false_eq_true, Nat.le_refl, Nat.lt_irrefl]
theorem eh_lineA (hc : r_c t n I L) (hC : tk_C t n = 5) : f_Hr_readLine a q I L = lh_bd (f_Hr_takeIfRoom a q (I (a + 4) 12) (4 : Int32) I L) fun r30 => if r30.1 = 0 then some (0, r30.2.1, r30.2.2) else lh_bd (f_Hr_readVase a q r30.2.1 r30.2.2) fun r33 => if r33.1 = 0 then some (0, r33.2.1, r33.2.2) else some (1, r33.2.1, r33.2.2) := by
  have h4 : I (1 + 4) 4 = nI (tk_C t n) := hc.2.2.1
  unfold f_Hr_readLine
  rw [hC] at h4
  simp (disch := omega) only [h4, z_eqR, Nat.reduceEqDiff, z_bs, z_gd, z_b1, z_b0, z_10, z_01, eq_self, reduceCtorEq, ↓reduceIte, if_true, if_false, Nat.not_lt_zero, not_true_eq_false, not_false_eq_true, Bool.false_eq_true, Nat.le_refl, Nat.lt_irrefl]
theorem eh_lineF (hc : r_c t n I L) (hC : tk_C t n = 10) : f_Hr_readLine a q I L = lh_bd (f_Hr_takeOnce a q (nI (tk_C t n)) I L) fun r62 => if r62.1 = 0 then some (0, r62.2.1, r62.2.2) else lh_bd (f_Hr_readFellow a q r62.2.1 r62.2.2) fun r65 => if r65.1 = 0 then some (0, r65.2.1, r65.2.2) else some (1, r65.2.1, r65.2.2) := by
  have h4 : I (1 + 4) 4 = nI (tk_C t n) := hc.2.2.1
  unfold f_Hr_readLine
  rw [hC] at h4 ⊢
  simp (disch := omega) only [h4, z_eqR, Nat.reduceEqDiff, z_bs, z_gd, z_b1, z_b0, z_10, z_01, eq_self, reduceCtorEq, ↓reduceIte, if_true, if_false, Nat.not_lt_zero, not_true_eq_false, not_false_eq_true, Bool.false_eq_true, Nat.le_refl, Nat.lt_irrefl]
theorem eh_lineS (hc : r_c t n I L) (hC : tk_C t n = 11) : f_Hr_readLine a q I L = lh_bd (f_Hr_takeOnce a q (nI (tk_C t n)) (lh_u2 I (a + 1 + 4) 2 0) L) fun r71 => if r71.1 = 0 then some (0, r71.2.1, r71.2.2) else lh_bd (f_Lag lh_deep 0 a (0 : Int32) (0 : Int32) r71.2.1 r71.2.2) fun r74 => if r74.1 = 0 then some (0, r74.2.1, r74.2.2) else some (1, r74.2.1, r74.2.2) := by
  have h4 : I (1 + 4) 4 = nI (tk_C t n) := hc.2.2.1
  unfold f_Hr_readLine f_La_empty
  rw [hC] at h4 ⊢
  simp (disch := omega) only [h4, z_eqR, Nat.reduceEqDiff, z_bs, z_gd, z_b1, z_b0, z_10, z_01, eq_self, reduceCtorEq, ↓reduceIte, if_true, if_false, Nat.not_lt_zero, not_true_eq_false, not_false_eq_true, Bool.false_eq_true, Nat.le_refl, Nat.lt_irrefl]
theorem eh_lineX (hc : r_c t n I L) (h8 : I (1 + 4) 8 = 0) (hC : ¬ (tk_C t n = 0 ∨ tk_C t n = 1 ∨ tk_C t n = 2 ∨ tk_C t n = 5 ∨ (7 ≤ tk_C t n ∧ tk_C t n < 12))) : f_Hr_readLine a q I L = some (0, lh_u2 I (1 + 4) 8 (nI (1 + 16 * tk_P t n)), L) := by
  have h4 : I (1 + 4) 4 = nI (tk_C t n) := hc.2.2.1
  have hb := (tk_C_b t n).1
  have er : f_Re_refuse 1 I = _ := e_refuse hc h8 1
  unfold f_Hr_readLine
  rw [h4]
  simp (disch := omega) only [z_eqR, show ¬ tk_C t n = 0 by omega, show ¬ tk_C t n = 1 by omega, show ¬ tk_C t n = 2 by omega, show ¬ tk_C t n = 5 by omega, show ¬ tk_C t n = 7 by omega, show ¬ tk_C t n = 8 by omega, show ¬ tk_C t n = 9 by omega, show ¬ tk_C t n = 10 by omega, show ¬ tk_C t n = 11 by omega, er, show lh_z 0 = true from rfl, ite_self, z_bs, z_gd, z_b1, z_b0, z_10, z_01, eq_self, reduceCtorEq, ↓reduceIte, if_true, if_false, Nat.not_lt_zero, not_true_eq_false, not_false_eq_true, Bool.false_eq_true, Nat.le_refl, Nat.lt_irrefl]
end Q88b
