/-! feed -/
theorem bl_lN {n i : Nat} (hi : i < 64) : bl (lN n) i = n.testBit i := by
  show (BitVec.ofNat 64 n).getLsbD i = _
  rw [BitVec.getLsbD_ofNat]
  simp [hi]
theorem bl_ushr {k : Nat} (hk : k < 64) (x : Int64) {i : Nat} (hi : i < 64) : bl ((x.toUInt64 >>> ((nI k).toInt64.toUInt64 &&& Int64.toUInt64 63)).toInt64) i = (decide (k + i < 64) && bl x (k + i)) := by
  obtain ⟨n, hn, rfl⟩ := wb_of x
  rw [wb_shr hn hk, bl_lN hi, ← Nat.shiftRight_eq_div_pow, Nat.testBit_shiftRight]
  by_cases h : k + i < 64
  · rw [bl_lN h]; simp [h]
  · rw [Nat.testBit_lt_two_pow (Nat.lt_of_lt_of_le hn (Nat.pow_le_pow_right (by decide) (by omega)))]
    simp [h]
theorem bt_l (x : Int64) {i : Nat} (hi : i < 32) : bt x.toInt32 i = bl x i := by
  show (x.toBitVec.signExtend 32).getLsbD i = x.toBitVec.getLsbD i
  rw [BitVec.getLsbD_signExtend]
  simp [hi, show i < 64 by omega]
theorem bl_255 : ∀ i, i < 64 → bl 255 i = decide (i < 8) := by decide +kernel
def q_by (v : Int64) (k : Nat) : Nat := q_mk (fun i => bl v (k + i)) 8
theorem q_by_lt (v : Int64) (k : Nat) : q_by v k < 256 := q_mk_lt _ 8
theorem e_byte (v : Int64) {k : Nat} (hk : k ≤ 56) : ((v.toUInt64 >>> ((nI k).toInt64.toUInt64 &&& Int64.toUInt64 63)).toInt64 &&& 255).toInt32 = nI (q_by v k) := by
  have h8 := q_by_lt v k
  apply b_ext
  intro i hi
  rw [bt_l _ hi, bl_and, bl_ushr (by omega) _ (by omega), bl_255 i (by omega), bt_nI (by omega) hi]
  unfold q_by
  rw [q_mk_tb]
  by_cases h : i < 8
  · simp [h, show k + i < 64 by omega]
  · simp [h]
theorem m_byte (v : Int64) {k : Nat} (hk : k ≤ 56) : (v >>> ((nI k).toInt64 &&& 63)).toInt32 &&& 255 = nI (q_by v k) := by
  have h8 := q_by_lt v k
  apply b_ext
  intro i hi
  rw [b_and, bt_l _ hi, bl_sshr (by omega) _ (by omega), b_255, bt_nI (by omega) hi]
  unfold q_by
  rw [q_mk_tb]
  by_cases h : i < 8
  · rw [if_pos (by omega)]; simp [h]
  · simp [h]
def q_ft (t : List Nat) (n : Nat) : List Nat := if (n = 10 ∨ (32 ≤ n ∧ n ≤ 126)) ∧ t.length < 1000 then t ++ [n] else t
def q_f8 (v : Int64) (j : Nat) (t : List Nat) : List Nat := q_ft t (q_by v (56 - 8 * j))
def qt_c (I : lh_II) (t : List Nat) : Prop := I (1 + 4) 2 = nI t.length ∧ ∀ i, i < t.length → I (2 + 4) i = nI (t.getD i 0)
def qt_m (I : lh_II) (t : List Nat) : Prop := I (65 + 4) 2 = nI t.length ∧ ∀ i, i < t.length → I (66 + 4) i = nI (t.getD i 0)
def qt_w (t : List Nat) : Prop := t.length ≤ 1000 ∧ ∀ x ∈ t, q_ch x
theorem q_ft_w {t : List Nat} {n : Nat} (h : qt_w t) : qt_w (q_ft t n) := by
  unfold q_ft
  split
  · next h1 =>
    refine ⟨by rw [List.length_append]; simp; omega, fun x hx => ?_⟩
    rw [List.mem_append] at hx
    rcases hx with hx | hx
    · exact h.2 x hx
    · simp at hx; subst hx; exact h1.1
  · exact h
theorem q_gN {l : List Nat} {n k : Nat} : (l ++ [n]).getD k 0 = if k < l.length then l.getD k 0 else if k = l.length then n else 0 := by
  rw [List.getD_eq_getElem?_getD, List.getD_eq_getElem?_getD]
  by_cases h1 : k < l.length
  · rw [if_pos h1, List.getElem?_append_left h1]
  · rw [if_neg h1, List.getElem?_append_right (by omega)]
    by_cases h2 : k = l.length
    · subst h2; simp
    · rw [if_neg h2, List.getElem?_eq_none (by simp; omega)]; rfl
theorem q_s8 : ∀ j, j < 8 → (nI (56 - 8 * j) < 0) = False ∧ nI (56 - 8 * j) + (-8) = (if j = 7 then -8 else nI (56 - 8 * (j + 1))) := by decide +kernel
def q_sv (j : Nat) : Int32 := if j = 8 then -8 else nI (56 - 8 * j)
theorem q_sv_n {j : Nat} (hj : j < 8) : q_sv j = nI (56 - 8 * j) := by unfold q_sv; rw [if_neg (by omega)]
theorem q_sv_s {j : Nat} (hj : j < 8) : nI (56 - 8 * j) + (-8) = q_sv (j + 1) := by
  rw [(q_s8 j hj).2]
  unfold q_sv
  by_cases h : j = 7
  · rw [if_pos h, if_pos (by omega)]
  · rw [if_neg h, if_neg (by omega)]
theorem e_put {I : lh_II} {t : List Nat} (v : Int64) (hw : qt_w t) (hc : qt_c I t) : ∃ I', f_Re_putBytes v I = some I' ∧ qt_c I' (q_it (q_f8 v) 0 8 t) ∧ qt_w (q_it (q_f8 v) 0 8 t) ∧ ∀ o k, ¬ (o = 5 ∧ k = 2) → o ≠ 6 → I' o k = I o k := by
  have key := q_forI (F := fun f j (K : lh_II) => f_Re_putBytes_2 v f (q_sv j) K) (N := 8) (P := fun j K => qt_c K (q_it (q_f8 v) 0 j t) ∧ qt_w (q_it (q_f8 v) 0 j t) ∧ ∀ o k, ¬ (o = 5 ∧ k = 2) → o ≠ 6 → K o k = I o k) (Q := fun K => qt_c K (q_it (q_f8 v) 0 8 t) ∧ qt_w (q_it (q_f8 v) 0 8 t) ∧ ∀ o k, ¬ (o = 5 ∧ k = 2) → o ≠ 6 → K o k = I o k) (fun f j K hj hK => by
    obtain ⟨⟨p1, p2⟩, p3, p4⟩ := hK
    obtain ⟨g1, -⟩ := q_s8 j hj
    have hb := q_by_lt v (56 - 8 * j)
    rw [q_it_succ, Nat.zero_add]
    have ew : qt_w (q_f8 v j (q_it (q_f8 v) 0 j t)) := q_ft_w p3
    have e1 := e_byte v (show 56 - 8 * j ≤ 56 by omega)
    show ∃ y, (qt_c y (q_ft (q_it (q_f8 v) 0 j t) (q_by v (56 - 8 * j))) ∧ _ ∧ _) ∧ f_Re_putBytes_2 v (f + 1) (q_sv j) K = f_Re_putBytes_2 v f (q_sv (j + 1)) y
    rw [q_sv_n hj]
    have hl := p3.1
    generalize q_it (q_f8 v) 0 j t = zt at *
    have hchar : ((nI (q_by v (56 - 8 * j))).toUInt32 % 65536).toInt32 = nI (q_by v (56 - 8 * j)) := by rw [pk_char, pk_tn (by omega), Nat.mod_eq_of_lt (by omega)]
    by_cases hok : (q_by v (56 - 8 * j) = 10 ∨ (32 ≤ q_by v (56 - 8 * j) ∧ q_by v (56 - 8 * j) ≤ 126)) ∧ zt.length < 1000
    · have eft : q_ft zt (q_by v (56 - 8 * j)) = zt ++ [q_by v (56 - 8 * j)] := if_pos hok
      have hstep : f_Re_putBytes_2 v (f + 1) (nI (56 - 8 * j)) K = f_Re_putBytes_2 v f (q_sv (j + 1)) (lh_u2 (lh_u2 K (2 + 4) zt.length (nI (q_by v (56 - 8 * j)))) (1 + 4) 2 (nI (zt.length + 1))) := by
        rw [f_Re_putBytes_2, e1, q_sv_s hj]
        by_cases h10 : q_by v (56 - 8 * j) = 10
        · simp (disch := omega) only [g1, p1, h10, z_eqR, z_leL, show ¬ 1000 ≤ zt.length by omega, z_ix, z_cl, z_gd, q_u2o, z_addL, z_bs, z_gd, z_b1, z_b0, z_10, z_01, eq_self, reduceCtorEq, ↓reduceIte, if_true, if_false, Nat.not_lt_zero, not_true_eq_false, not_false_eq_true, Bool.false_eq_true, Nat.le_refl, Nat.lt_irrefl]
          rw [← h10, hchar]
        · simp (disch := omega) only [g1, p1, h10, z_eqR, z_leL, z_ltL, z_ltR, show ¬ q_by v (56 - 8 * j) < 32 by omega, show ¬ 126 < q_by v (56 - 8 * j) by omega, show ¬ 1000 ≤ zt.length by omega, z_ix, z_cl, z_gd, q_u2o, z_addL, hchar, z_bs, z_gd, z_b1, z_b0, z_10, z_01, eq_self, reduceCtorEq, ↓reduceIte, if_true, if_false, Nat.not_lt_zero, not_true_eq_false, not_false_eq_true, Bool.false_eq_true, Nat.le_refl, Nat.lt_irrefl]
      refine ⟨_, ⟨?_, ew, fun o k h1 h2 => ?_⟩, hstep⟩
      · rw [eft]
        refine ⟨by rw [q_u2s, List.length_append]; rfl, fun i hi => ?_⟩
        rw [List.length_append] at hi
        simp at hi
        rw [q_u2o (by omega), q_gN]
        by_cases e : i < zt.length
        · rw [if_pos e, q_u2o (by omega)]; exact p2 i e
        · rw [if_neg e, if_pos (by omega), show i = zt.length by omega, q_u2s]
      · rw [q_u2o (by omega), q_u2o (by omega)]; exact p4 o k h1 h2
    · have eft : q_ft zt (q_by v (56 - 8 * j)) = zt := if_neg hok
      refine ⟨K, ⟨by rw [eft]; exact ⟨p1, p2⟩, ew, p4⟩, ?_⟩
      rw [f_Re_putBytes_2, e1, q_sv_s hj]
      by_cases h10 : q_by v (56 - 8 * j) = 10
      · simp (disch := omega) only [g1, p1, h10, z_eqR, z_leL, show 1000 ≤ zt.length by omega, z_bs, z_gd, z_b1, z_b0, z_10, z_01, eq_self, reduceCtorEq, ↓reduceIte, if_true, if_false, Nat.not_lt_zero, not_true_eq_false, not_false_eq_true, Bool.false_eq_true, Nat.le_refl, Nat.lt_irrefl]
      · by_cases h32 : q_by v (56 - 8 * j) < 32
        · simp (disch := omega) only [g1, p1, h10, h32, z_eqR, z_ltR, z_bs, z_gd, z_b1, z_b0, z_10, z_01, eq_self, reduceCtorEq, ↓reduceIte, if_true, if_false, Nat.not_lt_zero, not_true_eq_false, not_false_eq_true, Bool.false_eq_true, Nat.le_refl, Nat.lt_irrefl]
        · by_cases h126 : 126 < q_by v (56 - 8 * j)
          · simp (disch := omega) only [g1, p1, h10, h32, h126, z_eqR, z_ltR, z_ltL, z_bs, z_gd, z_b1, z_b0, z_10, z_01, eq_self, reduceCtorEq, ↓reduceIte, if_true, if_false, Nat.not_lt_zero, not_true_eq_false, not_false_eq_true, Bool.false_eq_true, Nat.le_refl, Nat.lt_irrefl]
          · simp (disch := omega) only [g1, p1, h10, h32, h126, z_eqR, z_ltR, z_ltL, z_leL, show 1000 ≤ zt.length by omega, z_bs, z_gd, z_b1, z_b0, z_10, z_01, eq_self, reduceCtorEq, ↓reduceIte, if_true, if_false, Nat.not_lt_zero, not_true_eq_false, not_false_eq_true, Bool.false_eq_true, Nat.le_refl, Nat.lt_irrefl]) (fun f K hK => by
    refine ⟨K, ?_, hK⟩
    show f_Re_putBytes_2 v (f + 1) (-8) K = _
    rw [f_Re_putBytes_2, if_pos (by decide)]) 8 lh_fuel 0 I rfl (by decide) ⟨hc, hw, fun _ _ _ _ => rfl⟩
  obtain ⟨I', e, h1⟩ := key
  have e' : f_Re_putBytes_2 v lh_fuel 56 I = some I' := e
  exact ⟨I', by rw [f_Re_putBytes, e', q_bs], h1⟩
theorem m_lay {I : lh_II} {t : List Nat} (v : Int64) (hw : qt_w t) (hc : qt_m I t) : ∃ I', f_LM_lay v I = some I' ∧ qt_m I' (q_it (q_f8 v) 0 8 t) ∧ ∀ o k, ¬ (o = 69 ∧ k = 2) → o ≠ 70 → I' o k = I o k := by
  have key := q_forI (F := fun f j (K : lh_II) => f_LM_lay_2 v f (q_sv j) K) (N := 8) (P := fun j K => qt_m K (q_it (q_f8 v) 0 j t) ∧ qt_w (q_it (q_f8 v) 0 j t) ∧ ∀ o k, ¬ (o = 69 ∧ k = 2) → o ≠ 70 → K o k = I o k) (Q := fun K => qt_m K (q_it (q_f8 v) 0 8 t) ∧ ∀ o k, ¬ (o = 69 ∧ k = 2) → o ≠ 70 → K o k = I o k) (fun f j K hj hK => by
    obtain ⟨⟨p1, p2⟩, p3, p4⟩ := hK
    obtain ⟨g1, -⟩ := q_s8 j hj
    have hb := q_by_lt v (56 - 8 * j)
    rw [q_it_succ, Nat.zero_add]
    have ew : qt_w (q_f8 v j (q_it (q_f8 v) 0 j t)) := q_ft_w p3
    have e1 := m_byte v (show 56 - 8 * j ≤ 56 by omega)
    show ∃ y, (qt_m y (q_ft (q_it (q_f8 v) 0 j t) (q_by v (56 - 8 * j))) ∧ _ ∧ _) ∧ f_LM_lay_2 v (f + 1) (q_sv j) K = f_LM_lay_2 v f (q_sv (j + 1)) y
    rw [q_sv_n hj]
    have hl := p3.1
    generalize q_it (q_f8 v) 0 j t = zt at *
    by_cases hok : (q_by v (56 - 8 * j) = 10 ∨ (32 ≤ q_by v (56 - 8 * j) ∧ q_by v (56 - 8 * j) ≤ 126)) ∧ zt.length < 1000
    · have eft : q_ft zt (q_by v (56 - 8 * j)) = zt ++ [q_by v (56 - 8 * j)] := if_pos hok
      have hstep : f_LM_lay_2 v (f + 1) (nI (56 - 8 * j)) K = f_LM_lay_2 v f (q_sv (j + 1)) (lh_u2 (lh_u2 K (66 + 4) zt.length (nI (q_by v (56 - 8 * j)))) (65 + 4) 2 (nI (zt.length + 1))) := by
        rw [f_LM_lay_2, e1, q_sv_s hj]
        by_cases h10 : q_by v (56 - 8 * j) = 10
        · simp (disch := omega) only [g1, p1, h10, z_eqR, z_leL, show ¬ 1000 ≤ zt.length by omega, z_ix, z_cl, z_gd, q_u2o, z_addL, z_bs, z_gd, z_b1, z_b0, z_10, z_01, eq_self, reduceCtorEq, ↓reduceIte, if_true, if_false, Nat.not_lt_zero, not_true_eq_false, not_false_eq_true, Bool.false_eq_true, Nat.le_refl, Nat.lt_irrefl]
        · simp (disch := omega) only [g1, p1, h10, z_eqR, z_leL, z_ltL, z_ltR, show ¬ q_by v (56 - 8 * j) < 32 by omega, show ¬ 126 < q_by v (56 - 8 * j) by omega, show ¬ 1000 ≤ zt.length by omega, z_ix, z_cl, z_gd, q_u2o, z_addL, z_bs, z_gd, z_b1, z_b0, z_10, z_01, eq_self, reduceCtorEq, ↓reduceIte, if_true, if_false, Nat.not_lt_zero, not_true_eq_false, not_false_eq_true, Bool.false_eq_true, Nat.le_refl, Nat.lt_irrefl]
      refine ⟨_, ⟨?_, ew, fun o k h1 h2 => ?_⟩, hstep⟩
      · rw [eft]
        refine ⟨by rw [q_u2s, List.length_append]; rfl, fun i hi => ?_⟩
        rw [List.length_append] at hi
        simp at hi
        rw [q_u2o (by omega), q_gN]
        by_cases e : i < zt.length
        · rw [if_pos e, q_u2o (by omega)]; exact p2 i e
        · rw [if_neg e, if_pos (by omega), show i = zt.length by omega, q_u2s]
      · rw [q_u2o (by omega), q_u2o (by omega)]; exact p4 o k h1 h2
    · have eft : q_ft zt (q_by v (56 - 8 * j)) = zt := if_neg hok
      refine ⟨K, ⟨by rw [eft]; exact ⟨p1, p2⟩, ew, p4⟩, ?_⟩
      rw [f_LM_lay_2, e1, q_sv_s hj]
      by_cases h10 : q_by v (56 - 8 * j) = 10
      · simp (disch := omega) only [g1, p1, h10, z_eqR, z_leL, show 1000 ≤ zt.length by omega, z_bs, z_gd, z_b1, z_b0, z_10, z_01, eq_self, reduceCtorEq, ↓reduceIte, if_true, if_false, Nat.not_lt_zero, not_true_eq_false, not_false_eq_true, Bool.false_eq_true, Nat.le_refl, Nat.lt_irrefl]
      · by_cases h32 : q_by v (56 - 8 * j) < 32
        · simp (disch := omega) only [g1, p1, h10, h32, z_eqR, z_ltR, z_bs, z_gd, z_b1, z_b0, z_10, z_01, eq_self, reduceCtorEq, ↓reduceIte, if_true, if_false, Nat.not_lt_zero, not_true_eq_false, not_false_eq_true, Bool.false_eq_true, Nat.le_refl, Nat.lt_irrefl]
        · by_cases h126 : 126 < q_by v (56 - 8 * j)
          · simp (disch := omega) only [g1, p1, h10, h32, h126, z_eqR, z_ltR, z_ltL, z_bs, z_gd, z_b1, z_b0, z_10, z_01, eq_self, reduceCtorEq, ↓reduceIte, if_true, if_false, Nat.not_lt_zero, not_true_eq_false, not_false_eq_true, Bool.false_eq_true, Nat.le_refl, Nat.lt_irrefl]
          · simp (disch := omega) only [g1, p1, h10, h32, h126, z_eqR, z_ltR, z_ltL, z_leL, show 1000 ≤ zt.length by omega, z_bs, z_gd, z_b1, z_b0, z_10, z_01, eq_self, reduceCtorEq, ↓reduceIte, if_true, if_false, Nat.not_lt_zero, not_true_eq_false, not_false_eq_true, Bool.false_eq_true, Nat.le_refl, Nat.lt_irrefl]) (fun f K hK => by
    refine ⟨K, ?_, hK.1, hK.2.2⟩
    show f_LM_lay_2 v (f + 1) (-8) K = _
    rw [f_LM_lay_2, if_pos (by decide)]) 8 lh_fuel 0 I rfl (by decide) ⟨hc, hw, fun _ _ _ _ => rfl⟩
  obtain ⟨I', e, h1⟩ := key
  have e' : f_LM_lay_2 v lh_fuel 56 I = some I' := e
  exact ⟨I', by rw [f_LM_lay, e', q_bs], h1⟩
theorem p_feed : lh_P0 lh_inv := by
  intro t a b a2 b2 I L y1 y2 y3 hi
  obtain ⟨s, w, c, m, ha, fc, f0, fm⟩ := hi.opx
  have ht : qt_w (s_t s) := w.2.2.2.2.2.2.1
  have hc : qt_c I (s_t s) := c.2.2.2.2.2.2
  have hm : qt_m I (s_t s) := m.2.2.2.2.2.2
  obtain ⟨I1, g1, g2, g3, g4⟩ := e_put y1 ht hc
  obtain ⟨I2, g5, g6, g7, g8⟩ := e_put y2 g3 g2
  obtain ⟨I3, g9, g10, g11, g12⟩ := e_put y3 g7 g6
  have hI : ∀ o k, ¬ (o = 5 ∧ k = 2) → o ≠ 6 → I3 o k = I o k := fun o k h1 h2 => by rw [g12 _ _ h1 h2, g8 _ _ h1 h2, g4 _ _ h1 h2]
  have hm0 : qt_m (lh_u2 I3 (65 + 4) 0 0) (s_t s) := ⟨by rw [q_u2o (by omega), hI _ _ (by omega) (by omega)]; exact hm.1, fun i hi' => by rw [q_u2o (by omega), hI _ _ (by omega) (by omega)]; exact hm.2 i hi'⟩
  obtain ⟨J1, k1, k2, k3⟩ := m_lay y1 ht hm0
  obtain ⟨J2, k4, k5, k6⟩ := m_lay y2 g3 k2
  obtain ⟨J3, k7, k8, k9⟩ := m_lay y3 g7 k5
  have hJ : ∀ o k, ¬ (o = 69 ∧ (k = 2 ∨ k = 0)) → o ≠ 70 → J3 o k = I3 o k := fun o k h1 h2 => by rw [k9 _ _ (by omega) h2, k6 _ _ (by omega) h2, k3 _ _ (by omega) h2, q_u2o (by omega)]
  have hJI : ∀ o k, ¬ (o = 5 ∧ k = 2) → o ≠ 6 → ¬ (o = 69 ∧ (k = 2 ∨ k = 0)) → o ≠ 70 → J3 o k = I o k := fun o k h1 h2 h3 h4 => by rw [hJ _ _ h3 h4, hI _ _ h1 h2]
  refine ⟨(nI (q_it (q_f8 y3) 0 8 (q_it (q_f8 y2) 0 8 (q_it (q_f8 y1) 0 8 (s_t s)))).length, I3), (nI (q_it (q_f8 y3) 0 8 (q_it (q_f8 y2) 0 8 (q_it (q_f8 y1) 0 8 (s_t s)))).length, J3), by rw [f_LH_feed, g1, q_bs, g5, q_bs, g9, q_bs, g10.1], by rw [f_LM_feed, k1, q_bs, k4, q_bs, k7, q_bs, k8.1], rfl, ?_⟩
  show lh_inv t a b a2 b2 J3 L
  obtain ⟨ha', hb', -, hL⟩ := hi
  refine ⟨ha', hb', ⟨(s_h s, s_n s, s_p s, s_m s, s_s s, s_q s, q_it (q_f8 y3) 0 8 (q_it (q_f8 y2) 0 8 (q_it (q_f8 y1) 0 8 (s_t s)))), ?_, ?_, ?_⟩, hL⟩
  · obtain ⟨w1, w2, w3, w4, w5, w6, w7, w8⟩ := w.less
    exact ⟨w1, w2, w3, w4, w5, w6, g11, w8⟩
  · obtain ⟨h1, h2, h3, h4, h5, ⟨h6, h7⟩, -⟩ := c
    refine ⟨h1.keep (fun j k hj hj3 => hJI _ _ (by omega) (by omega) (by omega) (by omega)), h2.kp (fun k _ => hJI _ _ (by omega) (by omega) (by omega) (by omega)), qc_p.kp (p := s_p s) h3 (fun k _ => hJI _ _ (by omega) (by omega) (by omega) (by omega)) (fun o k _ _ => hJI _ _ (by omega) (by omega) (by omega) (by omega)), qc_m.kp (mk := s_m s) h4 (fun o k _ _ => hJI _ _ (by omega) (by omega) (by omega) (by omega)), ⟨by rw [hJI _ _ (by omega) (by omega) (by omega) (by omega)]; exact h5.1, by rw [hJI _ _ (by omega) (by omega) (by omega) (by omega)]; exact h5.2⟩, ⟨by rw [hJI _ _ (by omega) (by omega) (by omega) (by omega)]; exact h6, fun k hk => by rw [hJI _ _ (by omega) (by omega) (by omega) (by omega), hJI _ _ (by omega) (by omega) (by omega) (by omega)]; exact h7 k hk⟩, ?_, ?_⟩
    · rw [hJ _ _ (by omega) (by omega)]; exact g10.1
    · intro i hi'; rw [hJ _ _ (by omega) (by omega)]; exact g10.2 i hi'
  · obtain ⟨h1, h2, h3, h4, h5, ⟨h6, h7⟩, -⟩ := m
    exact ⟨h1.keep w.1 (fun k _ => hJI _ _ (by omega) (by omega) (by omega) (by omega)) (fun k _ => hJI _ _ (by omega) (by omega) (by omega) (by omega)) (fun k _ => hJI _ _ (by omega) (by omega) (by omega) (by omega)), h2.kp (fun k _ _ => hJI _ _ (by omega) (by omega) (by omega) (by omega)), qm_p.kp (p := s_p s) h3 w.2.2.1.1 (hJI _ _ (by omega) (by omega) (by omega) (by omega)) (fun k _ _ => hJI _ _ (by omega) (by omega) (by omega) (by omega)), qm_m.kp (mk := s_m s) h4 (fun j m' ss hj e => (w.2.2.2.1 j m' ss hj e).2.1) (fun k => hJI _ _ (by omega) (by omega) (by omega) (by omega)) (fun k _ _ => hJI _ _ (by omega) (by omega) (by omega) (by omega)), q_ms.kp h5 w.2.2.2.2.1.1 (fun k _ _ => hJI _ _ (by omega) (by omega) (by omega) (by omega)), ⟨by rw [hJI _ _ (by omega) (by omega) (by omega) (by omega)]; exact h6, fun k hk => by rw [hJI _ _ (by omega) (by omega) (by omega) (by omega), hJI _ _ (by omega) (by omega) (by omega) (by omega)]; exact h7 k hk⟩, k8.1, k8.2⟩
