/-! the reference's lines that stand once -/
section Q88
variable {t : List Nat} {N n : Nat} {J : lh_II} {M : lh_LL}
theorem m_line (h : r_m t N n J M) (h8 : J (65 + 4) 8 = 0) (h1 : ¬ tk_C t n = 1) (h2 : ¬ tk_C t n = 2) (h5 : ¬ tk_C t n = 5) : f_LM_readLine J M = lh_bd (f_LM_readOnce J M) fun r => some (r, M) := by
  have w1 : f_LM_isWord 1 J M = _ := m_isWord h h8 (w := 1) (by decide)
  have w2 : f_LM_isWord 2 J M = _ := m_isWord h h8 (w := 2) (by decide)
  have w5 : f_LM_isWord 5 J M = _ := m_isWord h h8 (w := 5) (by decide)
  rw [decide_eq_false h1] at w1
  rw [decide_eq_false h2] at w2
  rw [decide_eq_false h5] at w5
  unfold f_LM_readLine
  simp (disch := omega) only [w1, w2, w5, z_bs, z_gd, z_b1, z_b0, z_10, z_01, eq_self, reduceCtorEq, ↓reduceIte, if_true, if_false, Nat.not_lt_zero, not_true_eq_false, not_false_eq_true, Bool.false_eq_true, Nat.le_refl, Nat.lt_irrefl]
/-- no word of the six -/
theorem m_onceX (h : r_m t N n J M) (h8 : J (65 + 4) 8 = 0) (h0 : ¬ tk_C t n = 0) (h7 : ¬ (7 ≤ tk_C t n ∧ tk_C t n < 12)) {J2 : lh_II} (e2 : f_LM_wrong 1 J = some J2) (hne : ¬ J2 (65 + 4) 8 ≤ 0) : f_LM_readOnce J M = some J2 := by
  have w0 : f_LM_isWord 0 J M = _ := m_isWord h h8 (w := 0) (by decide)
  rw [decide_eq_false h0] at w0
  have wh : f_LM_wordHere 7 5 J M = _ := m_wordHere h h8 (x := 7) (m := 5) (by decide)
  rw [if_neg (by omega)] at wh
  unfold f_LM_readOnce
  simp (disch := omega) only [w0, wh, show ((-1 : Int32) + 1 = 0) = True by decide, e2, hne, z_bs, z_gd, z_b1, z_b0, z_10, z_01, eq_self, reduceCtorEq, ↓reduceIte, if_true, if_false, Nat.not_lt_zero, not_true_eq_false, not_false_eq_true, Bool.false_eq_true, Nat.le_refl, Nat.lt_irrefl]
theorem m_once3 (h : r_m t N n J M) (h8 : J (65 + 4) 8 = 0) {x : Nat} (hx : x < 64) (h16 : J (65 + 4) 16 = nI x) (hC : (tk_C t n = 0 ∧ x.testBit 0 = true) ∨ (7 ≤ tk_C t n ∧ tk_C t n < 12 ∧ x.testBit (tk_C t n - 6) = true)) {J2 : lh_II} (e2 : f_LM_wrong 3 J = some J2) (hne : ¬ J2 (65 + 4) 8 ≤ 0) : f_LM_readOnce J M = some J2 := by
  have w0 : f_LM_isWord 0 J M = _ := m_isWord h h8 (w := 0) (by decide)
  have wh : f_LM_wordHere 7 5 J M = _ := m_wordHere h h8 (x := 7) (m := 5) (by decide)
  rcases hC with ⟨hC, hb⟩ | ⟨hC1, hC2, hb⟩
  · rw [decide_eq_true hC] at w0
    have e := z_bit1 (x := x) (j := 0) (by omega) (by decide)
    have e' : (((nI x >>> ((0 : Int32) &&& 31)) &&& 1) = 1) = (x.testBit 0 = true) := e
    unfold f_LM_readOnce
    simp (disch := omega) only [w0, h16, e', hb, e2, hne, z_bs, z_gd, z_b1, z_b0, z_10, z_01, eq_self, reduceCtorEq, ↓reduceIte, if_true, if_false, Nat.not_lt_zero, not_true_eq_false, not_false_eq_true, Bool.false_eq_true, Nat.le_refl, Nat.lt_irrefl]
  · rw [decide_eq_false (by omega)] at w0
    rw [if_pos (by omega)] at wh
    have e := z_bit1 (x := x) (j := tk_C t n - 7 + 1) (by omega) (by omega)
    rw [show tk_C t n - 6 = tk_C t n - 7 + 1 by omega] at hb
    unfold f_LM_readOnce
    simp (disch := omega) only [w0, wh, z_addL, z_eqR, Nat.add_eq_zero_iff, Nat.one_ne_zero, and_false, h16, e, hb, e2, hne, z_bs, z_gd, z_b1, z_b0, z_10, z_01, eq_self, reduceCtorEq, ↓reduceIte, if_true, if_false, Nat.not_lt_zero, not_true_eq_false, not_false_eq_true, Bool.false_eq_true, Nat.le_refl, Nat.lt_irrefl]
/-- what stands before the rest of a line that stands once -/
def o_J (J : lh_II) (x j n : Nat) : lh_II := lh_u2 (lh_u2 J (65 + 4) 16 (nI (x ||| 2 ^ j))) (65 + 4) 7 (nI (n + 1))
theorem m_once0 (h : r_m t N n J M) (h8 : J (65 + 4) 8 = 0) {x : Nat} (hx : x < 64) (h16 : J (65 + 4) 16 = nI x) (hC : tk_C t n = 0) (hb : ¬ x.testBit 0 = true) : f_LM_readOnce J M = lh_bd (f_LM_takeNumber 2 12 (o_J J x 0 n) M) fun r => some (lh_u2 r.2 (71 + 4) 100 r.1) := by
  have h7 : J (65 + 4) 7 = nI n := h.2.2.2.2.2.1
  have w0 : f_LM_isWord 0 J M = _ := m_isWord h h8 (w := 0) (by decide)
  rw [decide_eq_true hC] at w0
  have e := z_bit1 (x := x) (j := 0) (by omega) (by decide)
  have e' : (((nI x >>> ((0 : Int32) &&& 31)) &&& 1) = 1) = (x.testBit 0 = true) := e
  have s1 : (1 : Int32) <<< ((0 : Int32) &&& 31) = nI (2 ^ 0) := by decide
  unfold f_LM_readOnce o_J
  rw [w0, z_bs, if_neg (by decide), z_bs, if_neg (by decide)]
  simp (disch := omega) only [h16, e', hb, h8, show ((0 : Int32) ≤ 0) = True by decide, s1, z_or, q_u2o, h7, z_addL, z_bs, z_gd, z_b1, z_b0, z_10, z_01, eq_self, reduceCtorEq, ↓reduceIte, if_true, if_false, Nat.not_lt_zero, not_true_eq_false, not_false_eq_true, Bool.false_eq_true, Nat.le_refl, Nat.lt_irrefl]
theorem m_onceJ (h : r_m t N n J M) (h8 : J (65 + 4) 8 = 0) {x : Nat} (hx : x < 64) (h16 : J (65 + 4) 16 = nI x) {j : Nat} (hj : 1 ≤ j ∧ j ≤ 5) (hC : tk_C t n = 6 + j) (hb : ¬ x.testBit j = true) : f_LM_readOnce J M = if j = 5 then (lh_bd (f_LMg lh_deep 0 (0 : Int32) (lh_u2 (o_J J x j n) (71 + 4) 108 (J (65 + 4) 13)) M) fun r11 => lh_bd (f_LM_emit (0 : Int32) (0 : Int32) r11) fun r13 => some r13) else if j = 4 then (lh_bd (f_LM_readCells (179 : Int32) (o_J J x j n) M) fun r15 => some (lh_u2 r15.2 (71 + 4) 106 r15.1)) else if j = 1 then (lh_bd (f_LM_takeNumber 1 5 (o_J J x j n) M) fun r => some (lh_u2 r.2 (71 + 4) 103 r.1)) else if j = 2 then (lh_bd (f_LM_takeNumber 0 99 (o_J J x j n) M) fun r => some (lh_u2 r.2 (71 + 4) 104 r.1)) else (lh_bd (f_LM_takeNumber 0 11 (o_J J x j n) M) fun r => some (lh_u2 r.2 (71 + 4) 105 r.1)) := by
  have h7 : J (65 + 4) 7 = nI n := h.2.2.2.2.2.1
  have w0 : f_LM_isWord 0 J M = _ := m_isWord h h8 (w := 0) (by decide)
  rw [decide_eq_false (by omega)] at w0
  have wh : f_LM_wordHere 7 5 J M = _ := m_wordHere h h8 (x := 7) (m := 5) (by decide)
  rw [if_pos (by omega), hC] at wh
  have e := z_bit1 (x := x) (j := j) (by omega) (by omega)
  have s1 := z_sh1 (j := j) (by omega)
  have hj1 : nI (6 + j - 7) + 1 = nI j := by rw [z_addL]; congr 1; omega
  unfold f_LM_readOnce o_J
  simp (disch := omega) only [w0, wh, hj1, z_eqR, show ¬ j = 0 by omega, h16, e, hb, h8, show ((0 : Int32) ≤ 0) = True by decide, s1, z_or, q_u2o, h7, z_addL, z_leL, z_bs, z_gd, z_b1, z_b0, z_10, z_01, eq_self, reduceCtorEq, ↓reduceIte, if_true, if_false, Nat.not_lt_zero, not_true_eq_false, not_false_eq_true, Bool.false_eq_true, Nat.le_refl, Nat.lt_irrefl]
  have : j = 1 ∨ j = 2 ∨ j = 3 ∨ j = 4 ∨ j = 5 := by omega
  rcases this with rfl | rfl | rfl | rfl | rfl
  all_goals simp (disch := omega) only [Nat.reduceLeDiff, Nat.reduceEqDiff, z_addR, z_subL, Nat.reduceAdd, Nat.reduceSub, z_ix, z_cl, z_bs, z_gd, z_b1, z_b0, z_10, z_01, eq_self, reduceCtorEq, ↓reduceIte, if_true, if_false, Nat.not_lt_zero, not_true_eq_false, not_false_eq_true, Bool.false_eq_true, Nat.le_refl, Nat.lt_irrefl]
end Q88
