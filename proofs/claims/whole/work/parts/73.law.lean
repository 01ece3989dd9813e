/-! the law is read: both sides together -/
def w_c (a : Nat) (ws : List (Nat × Nat)) (I : lh_II) : Prop := I (a + 1 + 4) 2 = nI ws.length ∧ ∀ i, i < ws.length → I (a + 2 + 4) i = q_cw (ws.getD i (0, 0))
def w_m (ws : List (Nat × Nat)) (J : lh_II) : Prop := J (65 + 4) 13 = nI ws.length ∧ ∀ i, i < ws.length → J (72 + 4) (1100 + i) = nI (ws.getD i (0, 0)).1 ∧ J (73 + 4) (1100 + i) = nI (ws.getD i (0, 0)).2
def w_cf (a : Nat) (I I' : lh_II) : Prop := ∀ o k, ¬ (o = 5 ∧ 3 ≤ k ∧ k ≤ 8) → ¬ (o = a + 5 ∧ k = 2) → o ≠ a + 6 → I' o k = I o k
def w_mf (J J' : lh_II) : Prop := ∀ o k, ¬ (o = 69 ∧ (k = 7 ∨ k = 8 ∨ k = 13)) → ¬ (o = 76 ∧ 1100 ≤ k) → ¬ (o = 77 ∧ 1100 ≤ k) → J' o k = J o k
def w_ok (t : List Nat) (N a : Nat) (M : lh_LL) (nd n : Nat) (ws : List (Nat × Nat)) (I' : lh_II) (L' : lh_LL) (J' : lh_II) : Prop := I' (1 + 4) 8 = 0 ∧ J' (65 + 4) 8 = 0 ∧ ∃ n' es, n < n' ∧ r_c t n' I' L' ∧ r_m t N n' J' M ∧ w_c a (ws ++ es) I' ∧ w_m (ws ++ es) J' ∧ es.length + n ≤ n' ∧ ∀ rest d, d + nd ≤ 32 → q_ck (es ++ rest) d = q_ck rest (d + 1)
def w_no (ex : Nat) (I' J' : lh_II) : Prop := ∃ F, (1 ≤ F ∧ F ≤ 20000) ∧ I' (1 + 4) 8 = nI F ∧ J' (65 + 4) 8 = nI F ∧ ∃ c, J' (65 + 4) 13 = nI c ∧ c ≤ 1000 + ex
def w_sp (t : List Nat) (N a : Nat) (M : lh_LL) (nd ex : Nat) (f : lh_II → lh_LL → Option (Int32 × lh_II × lh_LL)) (g : lh_II → Option lh_II) : Prop := ∀ n ws I L J, r_c t n I L → r_m t N n J M → I (1 + 4) 8 = 0 → J (65 + 4) 8 = 0 → w_c a ws I → w_m ws J → ws.length ≤ n → ∃ I' L' J', ((f I L = some (1, I', L') ∧ g J = some J' ∧ w_ok t N a M nd n ws I' L' J') ∨ (f I L = some (0, I', L') ∧ g J = some J' ∧ w_no ex I' J')) ∧ w_cf a I I' ∧ r_lf L L' ∧ w_mf J J'
theorem m_emit {J : lh_II} {c : Nat} (h : J (65 + 4) 13 = nI c) (hc : c < 1100) (x y : Int32) : f_LM_emit x y J = some (lh_u2 (lh_u2 (lh_u2 J (72 + 4) (1100 + c) x) (73 + 4) (1100 + c) y) (65 + 4) 13 (nI (c + 1))) := by
  unfold f_LM_emit
  simp (disch := omega) only [h, q_u2o, z_addR, z_addL, z_ix, z_cl, z_bs, z_gd, z_b1, z_b0, z_10, z_01, eq_self, reduceCtorEq, ↓reduceIte, if_true, if_false, Nat.not_lt_zero, not_true_eq_false, not_false_eq_true, Bool.false_eq_true, Nat.le_refl, Nat.lt_irrefl]
theorem e_put1 {a : Nat} {I : lh_II} {c : Nat} (h : I (a + 1 + 4) 2 = nI c) (hc : c < 1000) (x : Int32) : f_La_put a x I = some (1, lh_u2 (lh_u2 I (a + 2 + 4) c x) (a + 1 + 4) 2 (nI (c + 1))) := by
  unfold f_La_put
  simp (disch := omega) only [h, q_u2o, z_leL, show ¬ 1000 ≤ c by omega, z_addL, z_ix, z_cl, z_bs, z_gd, z_b1, z_b0, z_10, z_01, eq_self, reduceCtorEq, ↓reduceIte, if_true, if_false, Nat.not_lt_zero, not_true_eq_false, not_false_eq_true, Bool.false_eq_true, Nat.le_refl, Nat.lt_irrefl]
theorem w_c.ap {a : Nat} {ws : List (Nat × Nat)} {x : Nat × Nat} {I : lh_II} (h : w_c a ws I) : w_c a (ws ++ [x]) (lh_u2 (lh_u2 I (a + 2 + 4) ws.length (q_cw x)) (a + 1 + 4) 2 (nI (ws.length + 1))) := by
  refine ⟨by rw [q_u2s, List.length_append]; rfl, fun i hi => ?_⟩
  rw [List.length_append] at hi
  simp at hi
  rw [q_gP, q_u2o (by omega)]
  by_cases e : i < ws.length
  · rw [if_pos e, q_u2o (by omega)]; exact h.2 i e
  · rw [if_neg e, if_pos (by omega), show i = ws.length by omega, q_u2s]
theorem w_m.ap {ws : List (Nat × Nat)} {x : Nat × Nat} {J : lh_II} (h : w_m ws J) : w_m (ws ++ [x]) (lh_u2 (lh_u2 (lh_u2 J (72 + 4) (1100 + ws.length) (nI x.1)) (73 + 4) (1100 + ws.length) (nI x.2)) (65 + 4) 13 (nI (ws.length + 1))) := by
  refine ⟨by rw [q_u2s, List.length_append]; rfl, fun i hi => ?_⟩
  rw [List.length_append] at hi
  simp at hi
  rw [q_gP, q_u2o (by omega), q_u2o (by omega)]
  by_cases e : i < ws.length
  · rw [if_pos e]
    refine ⟨?_, ?_⟩
    · rw [q_u2o (by omega)]; exact (h.2 i e).1
    · rw [q_u2o (by omega), q_u2o (by omega)]; exact (h.2 i e).2
  · rw [if_neg e, if_pos (by omega), show i = ws.length by omega]
    refine ⟨q_u2s, ?_⟩
    rw [q_u2o (by omega), q_u2s]
theorem w_c.kp {a : Nat} {ws : List (Nat × Nat)} {I I' : lh_II} (h : w_c a ws I) (hf : ∀ o k, (o = a + 5 ∧ k = 2) ∨ o = a + 6 → I' o k = I o k) : w_c a ws I' := ⟨by rw [hf _ _ (by omega)]; exact h.1, fun i hi => by rw [hf _ _ (by omega)]; exact h.2 i hi⟩
theorem w_m.kp {ws : List (Nat × Nat)} {J J' : lh_II} (h : w_m ws J) (hf : ∀ o k, (o = 69 ∧ k = 13) ∨ (o = 76 ∧ 1100 ≤ k) ∨ (o = 77 ∧ 1100 ≤ k) → J' o k = J o k) : w_m ws J' := ⟨by rw [hf _ _ (by omega)]; exact h.1, fun i hi => by rw [hf _ _ (by omega), hf _ _ (by omega)]; exact h.2 i hi⟩
theorem q_u2id {J : lh_II} {o k : Nat} {x : Int32} (h : J o k = x) : lh_u2 J o k x = J := by
  funext o' k'
  by_cases e : o' = o ∧ k' = k
  · obtain ⟨rfl, rfl⟩ := e
    rw [q_u2s, h]
  · rw [q_u2o e]
theorem m_hasWord1 {t : List Nat} {N n : Nat} {J : lh_II} {M : lh_LL} (h : r_m t N n J M) (h8 : J (65 + 4) 8 = 0) {w : Nat} (hw : w < 27) (hc : tk_C t n = w) : f_LM_hasWord (nI w) J M = some (1, lh_u2 J (65 + 4) 7 (nI (n + 1))) := by
  unfold f_LM_hasWord
  rw [m_isWord h h8 hw, z_bs, h.2.2.2.2.2.1, decide_eq_true hc, if_neg (by decide), z_lz, z_gd, z_addL]
  rfl
theorem m_hasWord0 {t : List Nat} {N n : Nat} {J : lh_II} {M : lh_LL} (h : r_m t N n J M) (h8 : J (65 + 4) 8 = 0) {w : Nat} (hw : w < 27) (hc : ¬ tk_C t n = w) : f_LM_hasWord (nI w) J M = some (0, J) := by
  unfold f_LM_hasWord
  rw [m_isWord h h8 hw, z_bs, decide_eq_false hc, if_pos (by decide), z_lz, z_gd, z_add0, q_u2id rfl]
  rfl
theorem m_hasSign1 {t : List Nat} {N n : Nat} {J : lh_II} {M : lh_LL} (h : r_m t N n J M) (h8 : J (65 + 4) 8 = 0) {k : Nat} (hk : k < 8) (hc : tk_C t n = 29 + k) : f_LM_hasSign (nI (tk_sg.getD k 0)) J M = some (1, lh_u2 J (65 + 4) 7 (nI (n + 1))) := by
  unfold f_LM_hasSign
  rw [m_isSign h h8 hk, z_bs, h.2.2.2.2.2.1, decide_eq_true hc, if_neg (by decide), z_lz, z_gd, z_addL]
  rfl
theorem m_hasSign0 {t : List Nat} {N n : Nat} {J : lh_II} {M : lh_LL} (h : r_m t N n J M) (h8 : J (65 + 4) 8 = 0) {k : Nat} (hk : k < 8) (hc : ¬ tk_C t n = 29 + k) : f_LM_hasSign (nI (tk_sg.getD k 0)) J M = some (0, J) := by
  unfold f_LM_hasSign
  rw [m_isSign h h8 hk, z_bs, decide_eq_false hc, if_pos (by decide), z_lz, z_gd, z_add0, q_u2id rfl]
  rfl
theorem m_hasSign' {J : lh_II} (M : lh_LL) (h8 : ¬ J (65 + 4) 8 = 0) (x : Int32) : f_LM_hasSign x J M = some (0, J) := by
  unfold f_LM_hasSign
  rw [m_isSign' M h8, z_bs, if_pos rfl, show lh_z 0 = true from rfl, z_gd, z_add0, q_u2id rfl]
/-- the class's part -/
theorem e_isFact : ∀ c, c ≤ 38 → f_La_isFact (nI c) = some (q_b01 (decide (23 ≤ c ∧ c ≤ 26))) := by decide +kernel
theorem e_ptA {gL : Nat → Int32 → Int32 → lh_II → lh_LL → Option (Int32 × lh_II × lh_LL)} {gP : Nat → Int32 → lh_II → lh_LL → Option (Int32 × lh_II × lh_LL)} {a C y : Nat} {I I1 : lh_II} {L L1 : lh_LL} (h4 : I (1 + 4) 4 = nI C) (hC : C ≤ 38) (hf : 23 ≤ C ∧ C ≤ 26) (hy : y < 5) (e1 : f_Re_advance I L = some (I1, L1)) {I2 : lh_II} (e2 : f_La_put a (-nI C) I1 = some (1, I2)) : f_La_readPart gL gP a (nI y) I L = some (1, I2, L1) := by
  have hF := e_isFact C hC
  rw [decide_eq_true hf] at hF
  unfold f_La_readPart
  simp (disch := omega) only [h4, hF, e1, e2, z_ltR, hy, z_eqR, show ¬ C = 20 by omega, show ¬ C = 29 by omega, show lh_z 1 = true from rfl, z_bs, z_gd, z_b1, z_b0, z_10, z_01, eq_self, reduceCtorEq, ↓reduceIte, if_true, if_false, Nat.not_lt_zero, not_true_eq_false, not_false_eq_true, Bool.false_eq_true, Nat.le_refl, Nat.lt_irrefl]
theorem e_ptB {gL : Nat → Int32 → Int32 → lh_II → lh_LL → Option (Int32 × lh_II × lh_LL)} {gP : Nat → Int32 → lh_II → lh_LL → Option (Int32 × lh_II × lh_LL)} {a y : Nat} {I I1 : lh_II} {L L1 : lh_LL} (h4 : I (1 + 4) 4 = nI 28) (hy : y < 5) (e1 : f_Re_advance I L = some (I1, L1)) {I2 : lh_II} (e2 : f_La_put a (I (1 + 4) 6) I1 = some (1, I2)) : f_La_readPart gL gP a (nI y) I L = some (1, I2, L1) := by
  have hF : f_La_isFact (nI 28) = some 0 := by decide
  unfold f_La_readPart
  simp (disch := omega) only [h4, hF, e1, e2, z_ltR, hy, z_eqR, Nat.reduceEqDiff, show lh_z 1 = true from rfl, z_bs, z_gd, z_b1, z_b0, z_10, z_01, eq_self, reduceCtorEq, ↓reduceIte, if_true, if_false, Nat.not_lt_zero, not_true_eq_false, not_false_eq_true, Bool.false_eq_true, Nat.le_refl, Nat.lt_irrefl]
theorem e_ptN {gL : Nat → Int32 → Int32 → lh_II → lh_LL → Option (Int32 × lh_II × lh_LL)} {gP : Nat → Int32 → lh_II → lh_LL → Option (Int32 × lh_II × lh_LL)} {a y : Nat} {I I1 : lh_II} {L L1 : lh_LL} (h4 : I (1 + 4) 4 = nI 20) (hy : y < 5) (e1 : f_Re_advance I L = some (I1, L1)) : f_La_readPart gL gP a (nI y) I L = lh_bd (gP a (nI (y + 1)) I1 L1) fun r => if r.1 = 0 then some (0, r.2.1, r.2.2) else lh_bd (f_La_put a (-20) r.2.1) fun r2 => if r2.1 = 0 then some (0, r2.2, r.2.2) else some (1, r2.2, r.2.2) := by
  have hF : f_La_isFact (nI 20) = some 0 := by decide
  unfold f_La_readPart
  simp (disch := omega) only [h4, hF, e1, z_ltR, hy, z_eqR, z_addL, Nat.reduceEqDiff, z_bs, z_gd, z_b1, z_b0, z_10, z_01, eq_self, reduceCtorEq, ↓reduceIte, if_true, if_false, Nat.not_lt_zero, not_true_eq_false, not_false_eq_true, Bool.false_eq_true, Nat.le_refl, Nat.lt_irrefl]
theorem e_ptP {gL : Nat → Int32 → Int32 → lh_II → lh_LL → Option (Int32 × lh_II × lh_LL)} {gP : Nat → Int32 → lh_II → lh_LL → Option (Int32 × lh_II × lh_LL)} {a y : Nat} {I I1 : lh_II} {L L1 : lh_LL} (h4 : I (1 + 4) 4 = nI 29) (hy : y < 5) (e1 : f_Re_advance I L = some (I1, L1)) : f_La_readPart gL gP a (nI y) I L = lh_bd (gL a 0 (nI (y + 1)) I1 L1) fun r => if r.1 = 0 then some (0, r.2.1, r.2.2) else if (r.2.1 (1 + 4) 4) = 30 then lh_bd (f_Re_advance r.2.1 r.2.2) fun r3 => some (1, r3.1, r3.2) else lh_bd (f_Re_refuse (1 : Int32) r.2.1) fun r4 => lh_gd (lh_z r4.1) (some (r4.1, r4.2, r.2.2)) := by
  have hF : f_La_isFact (nI 29) = some 0 := by decide
  unfold f_La_readPart
  simp (disch := omega) only [h4, hF, e1, z_ltR, hy, z_eqR, z_addL, Nat.reduceEqDiff, z_bs, z_gd, z_b1, z_b0, z_10, z_01, eq_self, reduceCtorEq, ↓reduceIte, if_true, if_false, Nat.not_lt_zero, not_true_eq_false, not_false_eq_true, Bool.false_eq_true, Nat.le_refl, Nat.lt_irrefl]
theorem e_pt5 {gL : Nat → Int32 → Int32 → lh_II → lh_LL → Option (Int32 × lh_II × lh_LL)} {gP : Nat → Int32 → lh_II → lh_LL → Option (Int32 × lh_II × lh_LL)} {a C : Nat} {I I2 : lh_II} {L : lh_LL} (h4 : I (1 + 4) 4 = nI C) (hC : C ≤ 38) (hf : (23 ≤ C ∧ C ≤ 26) ∨ C = 28 ∨ C = 20 ∨ C = 29) (e2 : f_Re_refuse 5 I = some (0, I2)) : f_La_readPart gL gP a (nI 5) I L = some (0, I2, L) := by
  have hF := e_isFact C hC
  unfold f_La_readPart
  by_cases hq : 23 ≤ C ∧ C ≤ 26
  · rw [decide_eq_true hq] at hF
    simp (disch := omega) only [h4, hF, e2, z_ltR, show lh_z 0 = true from rfl, z_bs, z_gd, z_b1, z_b0, z_10, z_01, eq_self, reduceCtorEq, ↓reduceIte, if_true, if_false, Nat.not_lt_zero, not_true_eq_false, not_false_eq_true, Bool.false_eq_true, Nat.le_refl, Nat.lt_irrefl]
  · rw [decide_eq_false hq] at hF
    have hf' := hf.resolve_left hq
    rcases hf' with e | e | e
    all_goals
      rw [e] at h4 hF
      simp (disch := omega) only [h4, hF, e2, z_ltR, z_eqR, Nat.reduceEqDiff, show lh_z 0 = true from rfl, z_bs, z_gd, z_b1, z_b0, z_10, z_01, eq_self, reduceCtorEq, ↓reduceIte, if_true, if_false, Nat.not_lt_zero, not_true_eq_false, not_false_eq_true, Bool.false_eq_true, Nat.le_refl, Nat.lt_irrefl]
theorem e_ptX {gL : Nat → Int32 → Int32 → lh_II → lh_LL → Option (Int32 × lh_II × lh_LL)} {gP : Nat → Int32 → lh_II → lh_LL → Option (Int32 × lh_II × lh_LL)} {a C : Nat} {I I2 : lh_II} {L : lh_LL} (y : Int32) (h4 : I (1 + 4) 4 = nI C) (hC : C ≤ 38) (hf : ¬ ((23 ≤ C ∧ C ≤ 26) ∨ C = 28 ∨ C = 20 ∨ C = 29)) (e2 : f_Re_refuse 1 I = some (0, I2)) : f_La_readPart gL gP a y I L = some (0, I2, L) := by
  have hF := e_isFact C hC
  rw [decide_eq_false (by omega)] at hF
  unfold f_La_readPart
  simp (disch := omega) only [h4, hF, e2, z_eqR, show ¬ C = 28 by omega, show ¬ C = 20 by omega, show ¬ C = 29 by omega, show lh_z 0 = true from rfl, z_bs, z_gd, z_b1, z_b0, z_10, z_01, eq_self, reduceCtorEq, ↓reduceIte, if_true, if_false, Nat.not_lt_zero, not_true_eq_false, not_false_eq_true, Bool.false_eq_true, Nat.le_refl, Nat.lt_irrefl]
section Q73
variable {gW gT gS gQ gP : Int32 → lh_II → lh_LL → Option lh_II} {t : List Nat} {N n : Nat} {J : lh_II} {M : lh_LL}
/-- the reference's part -/
theorem m_ptA (h : r_m t N n J M) (h8 : J (65 + 4) 8 = 0) (hf : 23 ≤ tk_C t n ∧ tk_C t n ≤ 26) {y : Nat} (hy : y < 5) : f_LM_takePart gW gT gS gQ gP (nI y) J M = lh_bd (f_LM_emit 2 (nI (tk_C t n - 23)) J) fun r => some (lh_u2 r (65 + 4) 7 (r (65 + 4) 7 + 1)) := by
  have h7 : J (65 + 4) 7 = nI n := h.2.2.2.2.2.1
  have hN : N ≤ 1000 := h.1
  have hn : n ≤ N := h.2.1
  have q1 : J (67 + 4) n = nI (tk_so (tk_C t n)) := (h.2.2.2.1 n h.2.1).1
  have wh : f_LM_wordHere 23 4 J M = _ := m_wordHere h h8 (x := 23) (m := 4) (by decide)
  rw [if_pos (by omega)] at wh
  have hw : f_LM_hasWord 20 J M = _ := m_hasWord0 h h8 (w := 20) (by decide) (by omega)
  have hs : f_LM_hasSign 40 J M = _ := m_hasSign0 h h8 (k := 0) (by decide) (by omega)
  unfold f_LM_takePart
  simp (disch := omega) only [h8, h7, z_ix, z_cl, q1, tk_so_2, show ¬ tk_C t n = 28 by omega, show ((0 : Int32) ≤ 0) = True by decide, wh, z_leL, Nat.zero_le, z_eqR, show ¬ y = 5 by omega, hw, hs, z_bs, z_gd, z_b1, z_b0, z_10, z_01, eq_self, reduceCtorEq, ↓reduceIte, if_true, if_false, Nat.not_lt_zero, not_true_eq_false, not_false_eq_true, Bool.false_eq_true, Nat.le_refl, Nat.lt_irrefl]
theorem m_ptB (h : r_m t N n J M) (h8 : J (65 + 4) 8 = 0) (hf : tk_C t n = 28) {y : Nat} (hy : y < 5) : f_LM_takePart gW gT gS gQ gP (nI y) J M = lh_bd (f_LM_emit 1 (nI (tk_V t n)) J) fun r => some (lh_u2 r (65 + 4) 7 (r (65 + 4) 7 + 1)) := by
  have h7 : J (65 + 4) 7 = nI n := h.2.2.2.2.2.1
  have hN : N ≤ 1000 := h.1
  have hn : n ≤ N := h.2.1
  have q1 : J (67 + 4) n = nI (tk_so (tk_C t n)) := (h.2.2.2.1 n h.2.1).1
  have q4 : M (69 + 4) n = lN (tk_V t n) := (h.2.2.2.1 n h.2.1).2.2.2.1 hf
  have wh : f_LM_wordHere 23 4 J M = _ := m_wordHere h h8 (x := 23) (m := 4) (by decide)
  rw [if_neg (by omega)] at wh
  have hw : f_LM_hasWord 20 J M = _ := m_hasWord0 h h8 (w := 20) (by decide) (by omega)
  have hs : f_LM_hasSign 40 J M = _ := m_hasSign0 h h8 (k := 0) (by decide) (by omega)
  unfold f_LM_takePart
  simp (disch := omega) only [h8, h7, z_ix, z_cl, q1, tk_so_2, hf, show ((0 : Int32) ≤ 0) = True by decide, wh, z_0lem1, z_eqR, show ¬ y = 5 by omega, hw, hs, q4, lN_i, z_bs, z_gd, z_b1, z_b0, z_10, z_01, eq_self, reduceCtorEq, ↓reduceIte, if_true, if_false, Nat.not_lt_zero, not_true_eq_false, not_false_eq_true, Bool.false_eq_true, Nat.le_refl, Nat.lt_irrefl]
theorem m_ptN (h : r_m t N n J M) (h8 : J (65 + 4) 8 = 0) (hf : tk_C t n = 20) {y : Nat} (hy : y < 5) : f_LM_takePart gW gT gS gQ gP (nI y) J M = lh_bd (gP (nI (y + 1)) (lh_u2 J (65 + 4) 7 (nI (n + 1))) M) fun r => lh_bd (f_LM_emit 3 0 r) fun r2 => some r2 := by
  have h7 : J (65 + 4) 7 = nI n := h.2.2.2.2.2.1
  have hN : N ≤ 1000 := h.1
  have hn : n ≤ N := h.2.1
  have q1 : J (67 + 4) n = nI (tk_so (tk_C t n)) := (h.2.2.2.1 n h.2.1).1
  have wh : f_LM_wordHere 23 4 J M = _ := m_wordHere h h8 (x := 23) (m := 4) (by decide)
  rw [if_neg (by omega)] at wh
  have i40 : f_LM_isSign 40 J M = _ := m_isSign h h8 (k := 0) (by decide)
  rw [decide_eq_false (by omega)] at i40
  have i20 : f_LM_isWord 20 J M = _ := m_isWord h h8 (w := 20) (by decide)
  rw [decide_eq_true hf] at i20
  have hw : f_LM_hasWord 20 J M = _ := m_hasWord1 h h8 (w := 20) (by decide) hf
  unfold f_LM_takePart
  simp (disch := omega) only [h8, h7, z_ix, z_cl, q1, tk_so_2, hf, Nat.reduceEqDiff, show ((0 : Int32) ≤ 0) = True by decide, wh, z_0lem1, i40, i20, z_eqR, show ¬ y = 5 by omega, hw, z_addL, z_bs, z_gd, z_b1, z_b0, z_10, z_01, eq_self, reduceCtorEq, ↓reduceIte, if_true, if_false, Nat.not_lt_zero, not_true_eq_false, not_false_eq_true, Bool.false_eq_true, Nat.le_refl, Nat.lt_irrefl]
theorem m_ptP (h : r_m t N n J M) (h8 : J (65 + 4) 8 = 0) (hf : tk_C t n = 29) {y : Nat} (hy : y < 5) : f_LM_takePart gW gT gS gQ gP (nI y) J M = lh_bd (gW (nI (y + 1)) (lh_u2 J (65 + 4) 7 (nI (n + 1))) M) fun r => lh_bd (f_LM_takeSign 41 r M) fun r2 => some r2 := by
  have h7 : J (65 + 4) 7 = nI n := h.2.2.2.2.2.1
  have hN : N ≤ 1000 := h.1
  have hn : n ≤ N := h.2.1
  have q1 : J (67 + 4) n = nI (tk_so (tk_C t n)) := (h.2.2.2.1 n h.2.1).1
  have wh : f_LM_wordHere 23 4 J M = _ := m_wordHere h h8 (x := 23) (m := 4) (by decide)
  rw [if_neg (by omega)] at wh
  have i40 : f_LM_isSign 40 J M = _ := m_isSign h h8 (k := 0) (by decide)
  rw [decide_eq_true (show tk_C t n = 29 + 0 by omega)] at i40
  have hw : f_LM_hasWord 20 J M = _ := m_hasWord0 h h8 (w := 20) (by decide) (by omega)
  have hs : f_LM_hasSign 40 J M = _ := m_hasSign1 h h8 (k := 0) (by decide) (by omega)
  unfold f_LM_takePart
  simp (disch := omega) only [h8, h7, z_ix, z_cl, q1, tk_so_2, hf, Nat.reduceEqDiff, show ((0 : Int32) ≤ 0) = True by decide, wh, z_0lem1, i40, z_eqR, show ¬ y = 5 by omega, hw, hs, z_addL, z_bs, z_gd, z_b1, z_b0, z_10, z_01, eq_self, reduceCtorEq, ↓reduceIte, if_true, if_false, Nat.not_lt_zero, not_true_eq_false, not_false_eq_true, Bool.false_eq_true, Nat.le_refl, Nat.lt_irrefl]
theorem m_pt5 (h : r_m t N n J M) (h8 : J (65 + 4) 8 = 0) (hf : (23 ≤ tk_C t n ∧ tk_C t n ≤ 26) ∨ tk_C t n = 28 ∨ tk_C t n = 20 ∨ tk_C t n = 29) {J2 : lh_II} (e2 : f_LM_wrong 5 J = some J2) (h2 : ¬ J2 (65 + 4) 8 ≤ 0) : f_LM_takePart gW gT gS gQ gP (nI 5) J M = some J2 := by
  have h7 : J (65 + 4) 7 = nI n := h.2.2.2.2.2.1
  have hN : N ≤ 1000 := h.1
  have hn : n ≤ N := h.2.1
  have q1 : J (67 + 4) n = nI (tk_so (tk_C t n)) := (h.2.2.2.1 n h.2.1).1
  have wh : f_LM_wordHere 23 4 J M = _ := m_wordHere h h8 (x := 23) (m := 4) (by decide)
  have i40 : f_LM_isSign 40 J M = _ := m_isSign h h8 (k := 0) (by decide)
  have i20 : f_LM_isWord 20 J M = _ := m_isWord h h8 (w := 20) (by decide)
  unfold f_LM_takePart
  rcases hf with hf | hf | hf | hf
  · rw [if_pos (by omega)] at wh
    simp (disch := omega) only [h8, h7, z_ix, z_cl, q1, tk_so_2, show ¬ tk_C t n = 28 by omega, show ((0 : Int32) ≤ 0) = True by decide, wh, z_leL, Nat.zero_le, z_eqR, e2, h2, z_bs, z_gd, z_b1, z_b0, z_10, z_01, eq_self, reduceCtorEq, ↓reduceIte, if_true, if_false, Nat.not_lt_zero, not_true_eq_false, not_false_eq_true, Bool.false_eq_true, Nat.le_refl, Nat.lt_irrefl]
  · rw [if_neg (by omega)] at wh
    simp (disch := omega) only [h8, h7, z_ix, z_cl, q1, tk_so_2, hf, show ((0 : Int32) ≤ 0) = True by decide, wh, z_0lem1, z_eqR, e2, h2, z_bs, z_gd, z_b1, z_b0, z_10, z_01, eq_self, reduceCtorEq, ↓reduceIte, if_true, if_false, Nat.not_lt_zero, not_true_eq_false, not_false_eq_true, Bool.false_eq_true, Nat.le_refl, Nat.lt_irrefl]
  · rw [if_neg (by omega)] at wh
    rw [decide_eq_false (by omega)] at i40
    rw [decide_eq_true hf] at i20
    simp (disch := omega) only [h8, h7, z_ix, z_cl, q1, tk_so_2, hf, Nat.reduceEqDiff, show ((0 : Int32) ≤ 0) = True by decide, wh, z_0lem1, i40, i20, z_eqR, e2, h2, z_bs, z_gd, z_b1, z_b0, z_10, z_01, eq_self, reduceCtorEq, ↓reduceIte, if_true, if_false, Nat.not_lt_zero, not_true_eq_false, not_false_eq_true, Bool.false_eq_true, Nat.le_refl, Nat.lt_irrefl]
  · rw [if_neg (by omega)] at wh
    rw [decide_eq_true (show tk_C t n = 29 + 0 by omega)] at i40
    simp (disch := omega) only [h8, h7, z_ix, z_cl, q1, tk_so_2, hf, Nat.reduceEqDiff, show ((0 : Int32) ≤ 0) = True by decide, wh, z_0lem1, i40, z_eqR, e2, h2, z_bs, z_gd, z_b1, z_b0, z_10, z_01, eq_self, reduceCtorEq, ↓reduceIte, if_true, if_false, Nat.not_lt_zero, not_true_eq_false, not_false_eq_true, Bool.false_eq_true, Nat.le_refl, Nat.lt_irrefl]
theorem m_ptX (y : Int32) (h : r_m t N n J M) (h8 : J (65 + 4) 8 = 0) (hf : ¬ ((23 ≤ tk_C t n ∧ tk_C t n ≤ 26) ∨ tk_C t n = 28 ∨ tk_C t n = 20 ∨ tk_C t n = 29)) {J2 : lh_II} (e2 : f_LM_wrong 1 J = some J2) (h2 : ¬ J2 (65 + 4) 8 ≤ 0) : f_LM_takePart gW gT gS gQ gP y J M = some J2 := by
  have h7 : J (65 + 4) 7 = nI n := h.2.2.2.2.2.1
  have hN : N ≤ 1000 := h.1
  have hn : n ≤ N := h.2.1
  have q1 : J (67 + 4) n = nI (tk_so (tk_C t n)) := (h.2.2.2.1 n h.2.1).1
  have wh : f_LM_wordHere 23 4 J M = _ := m_wordHere h h8 (x := 23) (m := 4) (by decide)
  rw [if_neg (by omega)] at wh
  have i40 : f_LM_isSign 40 J M = _ := m_isSign h h8 (k := 0) (by decide)
  rw [decide_eq_false (by omega)] at i40
  have i20 : f_LM_isWord 20 J M = _ := m_isWord h h8 (w := 20) (by decide)
  rw [decide_eq_false (by omega)] at i20
  unfold f_LM_takePart
  simp (disch := omega) only [h8, h7, z_ix, z_cl, q1, tk_so_2, show ¬ tk_C t n = 28 by omega, show ((0 : Int32) ≤ 0) = True by decide, wh, z_0lem1, i40, i20, e2, h2, z_bs, z_gd, z_b1, z_b0, z_10, z_01, eq_self, reduceCtorEq, ↓reduceIte, if_true, if_false, Nat.not_lt_zero, not_true_eq_false, not_false_eq_true, Bool.false_eq_true, Nat.le_refl, Nat.lt_irrefl]
end Q73
