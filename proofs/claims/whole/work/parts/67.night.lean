/-! night: the lines -/
theorem tk_nm_lt : ∀ (n : Nat) (ds : List Nat), ds.length ≤ n → (∀ c ∈ ds, tk_dig c = true) → tk_nm ds < 10 ^ n := by
  intro n
  induction n with
  | zero =>
    intro ds h0 hw
    have : ds = [] := List.length_eq_zero_iff.mp (by omega)
    subst this
    decide
  | succ n ih =>
    intro ds h0 hw
    rcases tk_nl ds with rfl | ⟨us, c, rfl⟩
    · exact Nat.pow_pos (by omega)
    · have hc := hw c (by simp)
      unfold tk_dig at hc
      simp only [decide_eq_true_eq] at hc
      have := ih us (by simp at h0; omega) (fun x hx => hw x (by simp [hx]))
      rw [tk_nm_s, Nat.pow_succ]
      omega
theorem tk_V_le {t : List Nat} {n : Nat} (h : tk_C t n = 28) : tk_V t n ≤ 9999 := by
  have h1 : tk_end tk_dig t (tk_i t (tk_pos t n)) - tk_i t (tk_pos t n) ≤ 4 := by
    unfold tk_C tk_c at h
    have h1 := tk_ix_le (tk_ws t (tk_i t (tk_pos t n)) (tk_end tk_let t (tk_i t (tk_pos t n))))
    have h2 := tk_sc_b (t.getD (tk_i t (tk_pos t n)) 0)
    repeat' split at h
    all_goals omega
  have h2 : tk_nm (tk_ws t (tk_i t (tk_pos t n)) (tk_end tk_dig t (tk_i t (tk_pos t n)))) < 10 ^ 4 := tk_nm_lt 4 _ (by rw [tk_ws_len]; exact h1) tk_ws_all
  unfold tk_V tk_v
  omega
theorem m_here {t : List Nat} {N n : Nat} {J : lh_II} {M : lh_LL} (h : r_m t N n J M) (h8 : J (65 + 4) 8 = 0) {x m : Nat} (hx : x + m ≤ 27) : ∀ (d f j : Nat) (v3 : Int32), j + d = m → d < f → f_LM_wordHere_4 (nI x) (nI m) J M f v3 (nI j) = some (if x + j ≤ tk_C t n ∧ tk_C t n < x + m then nI (tk_C t n - x) else v3)
  | _, 0, _, _, _, h => absurd h (by omega)
  | 0, f + 1, j, v3, hd, _ => by
    rw [f_LM_wordHere_4, if_neg (show ¬ (x + j ≤ tk_C t n ∧ tk_C t n < x + m) by omega)]
    simp (disch := omega) only [z_le, show m ≤ j by omega, z_bs, z_gd, z_b1, z_b0, z_10, z_01, eq_self, reduceCtorEq, ↓reduceIte, if_true, if_false, Nat.not_lt_zero, not_true_eq_false, not_false_eq_true, Bool.false_eq_true, Nat.le_refl, Nat.lt_irrefl]
  | d + 1, f + 1, j, v3, hd, hf => by
    have e := m_isWord h h8 (w := x + j) (by omega)
    rw [f_LM_wordHere_4, nI_add, e]
    by_cases hc : tk_C t n = x + j
    · rw [decide_eq_true hc]
      simp (disch := omega) only [z_le, z_addL, show ¬ m ≤ j by omega, z_bs, z_gd, z_b1, z_b0, z_10, z_01, eq_self, reduceCtorEq, ↓reduceIte, if_true, if_false, Nat.not_lt_zero, not_true_eq_false, not_false_eq_true, Bool.false_eq_true, Nat.le_refl, Nat.lt_irrefl]
      rw [m_here h h8 hx d f (j + 1) (nI j) (by omega) (by omega), if_neg (by omega), if_pos (by omega)]
      congr 2
      omega
    · simp (disch := omega) only [z_le, z_addL, show ¬ m ≤ j by omega, hc, decide_false, z_bs, z_gd, z_b1, z_b0, z_10, z_01, eq_self, reduceCtorEq, ↓reduceIte, if_true, if_false, Nat.not_lt_zero, not_true_eq_false, not_false_eq_true, Bool.false_eq_true, Nat.le_refl, Nat.lt_irrefl]
      rw [m_here h h8 hx d f (j + 1) v3 (by omega) (by omega)]
      congr 1
      by_cases h1 : x + j ≤ tk_C t n ∧ tk_C t n < x + m
      · rw [if_pos h1, if_pos (by omega)]
      · rw [if_neg h1, if_neg (by omega)]
theorem m_wordHere {t : List Nat} {N n : Nat} {J : lh_II} {M : lh_LL} (h : r_m t N n J M) (h8 : J (65 + 4) 8 = 0) {x m : Nat} (hx : x + m ≤ 27) : f_LM_wordHere (nI x) (nI m) J M = some (if x ≤ tk_C t n ∧ tk_C t n < x + m then nI (tk_C t n - x) else -1) := by
  unfold f_LM_wordHere
  have e : f_LM_wordHere_4 (nI x) (nI m) J M lh_fuel (-1) 0 = _ := m_here h h8 hx m lh_fuel 0 (-1) (by omega) (by unfold lh_fuel; omega)
  rw [e, z_bs, Nat.add_zero]
theorem e_lineA {b : Nat} {I I1 : lh_II} {L L1 : lh_LL} {l C : Nat} (h4 : I (1 + 4) 4 = nI C) (hC : C = 3 ∨ C = 12 ∨ C = 13) (hl : I (b + 4) 2 = nI l) (hl40 : l < 40) (e1 : f_Re_advance I L = some (I1, L1)) (hl1 : I1 (b + 4) 2 = nI l) : f_Ni_readLine b I L = some (1, lh_u2 (lh_u2 I1 (b + 1 + 4) l (nI C)) (b + 4) 2 (nI (l + 1)), L1) := by
  rcases hC with rfl | rfl | rfl
  all_goals
    unfold f_Ni_readLine
    simp (disch := omega) only [h4, hl, hl1, e1, z_eqR, z_ltR, z_ix, z_cl, z_addL, q_u2o, hl40, Nat.reduceEqDiff, z_bs, z_gd, z_b1, z_b0, z_10, z_01, eq_self, reduceCtorEq, ↓reduceIte, if_true, if_false, Nat.not_lt_zero, not_true_eq_false, not_false_eq_true, Bool.false_eq_true, Nat.le_refl, Nat.lt_irrefl]
theorem e_lineB {b : Nat} {I I1 I2 : lh_II} {L L1 L2 : lh_LL} {l C lo hi : Nat} {V : Int32} (h4 : I (1 + 4) 4 = nI C) (hC : (C = 14 ∧ lo = 0 ∧ hi = 3) ∨ (C = 15 ∧ lo = 1 ∧ hi = 99)) (hl : I (b + 4) 2 = nI l) (hl40 : l < 40) (e1 : f_Re_advance I L = some (I1, L1)) (hl1 : I1 (b + 4) 2 = nI l) (hwn : f_Re_wantNumber (nI lo) (nI hi) I1 = some (1, I1)) (h6 : I1 (1 + 4) 6 = V) (e2 : f_Re_advance (lh_u2 I1 (b + 2 + 4) l V) L1 = some (I2, L2)) (hl2 : I2 (b + 4) 2 = nI l) : f_Ni_readLine b I L = some (1, lh_u2 (lh_u2 I2 (b + 1 + 4) l (nI C)) (b + 4) 2 (nI (l + 1)), L2) := by
  rcases hC with ⟨rfl, rfl, rfl⟩ | ⟨rfl, rfl, rfl⟩
  · have hwn' : f_Re_wantNumber 0 3 I1 = some (1, I1) := hwn
    unfold f_Ni_readLine
    simp (disch := omega) only [h4, hl, hl1, hl2, e1, hwn', h6, e2, z_eqR, z_ltR, z_ix, z_cl, z_addL, q_u2o, hl40, Nat.reduceEqDiff, z_bs, z_gd, z_b1, z_b0, z_10, z_01, eq_self, reduceCtorEq, ↓reduceIte, if_true, if_false, Nat.not_lt_zero, not_true_eq_false, not_false_eq_true, Bool.false_eq_true, Nat.le_refl, Nat.lt_irrefl]
  · have hwn' : f_Re_wantNumber 1 99 I1 = some (1, I1) := hwn
    unfold f_Ni_readLine
    simp (disch := omega) only [h4, hl, hl1, hl2, e1, hwn', h6, e2, z_eqR, z_ltR, z_ix, z_cl, z_addL, q_u2o, hl40, Nat.reduceEqDiff, z_bs, z_gd, z_b1, z_b0, z_10, z_01, eq_self, reduceCtorEq, ↓reduceIte, if_true, if_false, Nat.not_lt_zero, not_true_eq_false, not_false_eq_true, Bool.false_eq_true, Nat.le_refl, Nat.lt_irrefl]
theorem e_lineC {b : Nat} {I I1 I2 : lh_II} {L L1 : lh_LL} {l C lo hi : Nat} (h4 : I (1 + 4) 4 = nI C) (hC : (C = 14 ∧ lo = 0 ∧ hi = 3) ∨ (C = 15 ∧ lo = 1 ∧ hi = 99)) (hl : I (b + 4) 2 = nI l) (hl40 : l < 40) (e1 : f_Re_advance I L = some (I1, L1)) (hwn : f_Re_wantNumber (nI lo) (nI hi) I1 = some (0, I2)) : f_Ni_readLine b I L = some (0, I2, L1) := by
  rcases hC with ⟨rfl, rfl, rfl⟩ | ⟨rfl, rfl, rfl⟩
  · have hwn' : f_Re_wantNumber 0 3 I1 = some (0, I2) := hwn
    unfold f_Ni_readLine
    simp (disch := omega) only [h4, hl, e1, hwn', z_eqR, z_ltR, hl40, Nat.reduceEqDiff, z_bs, z_gd, z_b1, z_b0, z_10, z_01, eq_self, reduceCtorEq, ↓reduceIte, if_true, if_false, Nat.not_lt_zero, not_true_eq_false, not_false_eq_true, Bool.false_eq_true, Nat.le_refl, Nat.lt_irrefl]
  · have hwn' : f_Re_wantNumber 1 99 I1 = some (0, I2) := hwn
    unfold f_Ni_readLine
    simp (disch := omega) only [h4, hl, e1, hwn', z_eqR, z_ltR, hl40, Nat.reduceEqDiff, z_bs, z_gd, z_b1, z_b0, z_10, z_01, eq_self, reduceCtorEq, ↓reduceIte, if_true, if_false, Nat.not_lt_zero, not_true_eq_false, not_false_eq_true, Bool.false_eq_true, Nat.le_refl, Nat.lt_irrefl]
theorem e_lineD {b : Nat} {I I2 : lh_II} {L : lh_LL} {C : Nat} (h4 : I (1 + 4) 4 = nI C) (hb : C ≤ 38) (hC : ¬ C = 3 ∧ ¬ C = 12 ∧ ¬ C = 13 ∧ ¬ C = 14 ∧ ¬ C = 15) (e1 : f_Re_refuse 1 I = some (0, I2)) : f_Ni_readLine b I L = some (0, I2, L) := by
  obtain ⟨h1, h2, h3, h5, h6⟩ := hC
  unfold f_Ni_readLine
  simp (disch := omega) only [h4, e1, z_eqR, h1, h2, h3, h5, h6, show lh_z 0 = true from rfl, z_bs, z_gd, z_b1, z_b0, z_10, z_01, eq_self, reduceCtorEq, ↓reduceIte, if_true, if_false, Nat.not_lt_zero, not_true_eq_false, not_false_eq_true, Bool.false_eq_true, Nat.le_refl, Nat.lt_irrefl]
theorem e_lineE {b : Nat} {I I2 : lh_II} {L : lh_LL} {l C : Nat} (h4 : I (1 + 4) 4 = nI C) (hC : C = 3 ∨ C = 12 ∨ C = 13 ∨ C = 14 ∨ C = 15) (hl : I (b + 4) 2 = nI l) (hl40 : l = 40) (e1 : f_Re_refuse 5 I = some (0, I2)) : f_Ni_readLine b I L = some (0, I2, L) := by
  subst hl40
  rcases hC with rfl | rfl | rfl | rfl | rfl
  all_goals
    unfold f_Ni_readLine
    simp (disch := omega) only [h4, hl, e1, z_eqR, z_ltR, Nat.reduceEqDiff, show lh_z 0 = true from rfl, z_bs, z_gd, z_b1, z_b0, z_10, z_01, eq_self, reduceCtorEq, ↓reduceIte, if_true, if_false, Nat.not_lt_zero, not_true_eq_false, not_false_eq_true, Bool.false_eq_true, Nat.le_refl, Nat.lt_irrefl]
def n_ac (c : Nat) : Nat := if c = 3 then 0 else if c = 12 then 1 else if c = 13 then 2 else if c = 14 then 3 else if c = 15 then 4 else 5
theorem n_ac_a {c : Nat} (h : n_ac c < 5) : c = q_act (n_ac c) := by
  unfold n_ac at h ⊢
  unfold q_act
  repeat' split at h
  all_goals first | (rename_i h9; subst h9; rfl) | omega | skip
def n_lo (c : Nat) : Nat := if c = 14 then 0 else 1
def n_hi (c : Nat) : Nat := if c = 14 then 3 else 99
def n_F (t : List Nat) (n l : Nat) : Nat := if n_ac (tk_C t n) = 5 then 1 + 16 * tk_P t n else if l = 40 then 5 + 16 * tk_P t n else if n_ac (tk_C t n) < 3 then (if tk_C t (n + 1) = 36 then 0 else 1 + 16 * tk_P t (n + 1)) else if tk_nf (n_lo (tk_C t n)) (n_hi (tk_C t n)) t (n + 1) = 0 then (if tk_C t (n + 2) = 36 then 0 else 1 + 16 * tk_P t (n + 2)) else tk_nf (n_lo (tk_C t n)) (n_hi (tk_C t n)) t (n + 1) + 16 * tk_P t (n + 1)
def n_N (t : List Nat) (n : Nat) : Nat := if n_ac (tk_C t n) < 3 then n + 2 else n + 3
def n_l (t : List Nat) (n : Nat) : Nat × Nat := (n_ac (tk_C t n), if n_ac (tk_C t n) < 3 then 0 else tk_V t (n + 1))
def n_c (b : Nat) (q : List (Nat × Nat)) (I : lh_II) : Prop := I (b + 4) 2 = nI q.length ∧ ∀ k, k < q.length → I (b + 1 + 4) k = nI (q_act (q.getD k (0, 0)).1) ∧ (3 ≤ (q.getD k (0, 0)).1 → I (b + 2 + 4) k = nI (q.getD k (0, 0)).2)
def n_m (q : List (Nat × Nat)) (J : lh_II) : Prop := ∀ k, k < q.length → J (75 + 4) (85 + 2 * k) = nI (q.getD k (0, 0)).1 ∧ (3 ≤ (q.getD k (0, 0)).1 → J (75 + 4) (86 + 2 * k) = nI (q.getD k (0, 0)).2)
def n_w (q : List (Nat × Nat)) : Prop := q.length ≤ 40 ∧ ∀ x ∈ q, q_ln x
def n_cf (b : Nat) (I I' : lh_II) : Prop := ∀ o k, ¬ (o = 5 ∧ 3 ≤ k ∧ k ≤ 8) → ¬ (o = b + 4 ∧ k = 2) → o ≠ b + 5 → o ≠ b + 6 → I' o k = I o k
def n_mf (J J' : lh_II) : Prop := ∀ o k, ¬ (o = 69 ∧ (k = 7 ∨ k = 8)) → ¬ (o = 79 ∧ 85 ≤ k) → J' o k = J o k
theorem q_gP {l : List (Nat × Nat)} {n : Nat × Nat} {k : Nat} : (l ++ [n]).getD k (0, 0) = if k < l.length then l.getD k (0, 0) else if k = l.length then n else (0, 0) := by
  rw [List.getD_eq_getElem?_getD, List.getD_eq_getElem?_getD]
  by_cases h1 : k < l.length
  · rw [if_pos h1, List.getElem?_append_left h1]
  · rw [if_neg h1, List.getElem?_append_right (by omega)]
    by_cases h2 : k = l.length
    · subst h2; simp
    · rw [if_neg h2, List.getElem?_eq_none (by simp; omega)]; rfl
theorem n_w_s {t : List Nat} {n : Nat} {q : List (Nat × Nat)} (h : n_w q) (hF : n_F t n q.length = 0) : n_w (q ++ [n_l t n]) := by
  have h40 := h.1
  have hn : ¬ n_ac (tk_C t n) = 5 ∧ ¬ q.length = 40 ∧ (¬ n_ac (tk_C t n) < 3 → tk_nf (n_lo (tk_C t n)) (n_hi (tk_C t n)) t (n + 1) = 0) := by
    unfold n_F at hF
    repeat' split at hF
    all_goals first | omega | skip
    all_goals refine ⟨by assumption, by assumption, fun h => ?_⟩
    all_goals first | assumption | omega
  refine ⟨by rw [List.length_append]; simp; omega, fun x hx => ?_⟩
  rw [List.mem_append] at hx
  rcases hx with hx | hx
  · exact h.2 x hx
  · simp only [List.mem_singleton] at hx
    subst hx
    have ha : n_ac (tk_C t n) ≤ 5 := by unfold n_ac; (repeat' split) <;> omega
    unfold n_l q_ln
    refine ⟨by show n_ac (tk_C t n) ≤ 4; omega, fun h3 => ?_, fun h4 => ?_⟩
    · have h3' : n_ac (tk_C t n) = 3 := h3
      have hC := n_ac_a (c := tk_C t n) (by omega)
      rw [h3'] at hC
      have := hn.2.2 (by omega)
      show (if n_ac (tk_C t n) < 3 then 0 else tk_V t (n + 1)) < 4
      rw [if_neg (by omega)]
      rw [hC] at this
      unfold tk_nf at this
      have e1 : n_hi (q_act 3) = 3 := rfl
      rw [e1] at this
      repeat' split at this
      all_goals omega
    · have h3' : n_ac (tk_C t n) = 4 := h4
      have hC := n_ac_a (c := tk_C t n) (by omega)
      rw [h3'] at hC
      have := hn.2.2 (by omega)
      show 1 ≤ (if n_ac (tk_C t n) < 3 then 0 else tk_V t (n + 1)) ∧ (if n_ac (tk_C t n) < 3 then 0 else tk_V t (n + 1)) ≤ 99
      rw [if_neg (by omega)]
      rw [hC] at this
      unfold tk_nf at this
      have e1 : n_hi (q_act 4) = 99 := rfl
      have e2 : n_lo (q_act 4) = 1 := rfl
      rw [e1, e2] at this
      repeat' split at this
      all_goals omega
/-- one round of the class's loop -/
theorem e_step {t : List Nat} (hw : qt_w t) {b n v : Nat} {q : List (Nat × Nat)} {I : lh_II} {L : lh_LL} (hb : 35 ≤ b ∧ b ≤ 38) (h : r_c t n I L) (hv : v ≤ 1000) (h37 : tk_C t n ≠ 37) (h8 : I (1 + 4) 8 = 0) (hq : n_c b q I) (hl : q.length ≤ 40) (f : Nat) : ∃ I' L', f_Ni_readLines_7 b (f + 1) (nI v) I L = f_Ni_readLines_7 b f (nI (v + 1)) I' L' ∧ (n_F t n q.length = 0 → r_c t (n_N t n) I' L' ∧ I' (1 + 4) 8 = 0 ∧ n_c b (q ++ [n_l t n]) I') ∧ (n_F t n q.length ≠ 0 → I' (1 + 4) 8 = nI (n_F t n q.length)) ∧ n_cf b I I' ∧ r_lf L L' := by
  have hb1 := (tk_C_b t n).1
  have h4 := h.2.2.1
  have hend : f_Re_isAtEnd I = some 0 := by
    unfold f_Re_isAtEnd
    simp (disch := omega) only [h4, h8, z_eqR, h37, z_bs, z_gd, z_b1, z_b0, z_10, z_01, eq_self, reduceCtorEq, ↓reduceIte, if_true, if_false, Nat.not_lt_zero, not_true_eq_false, not_false_eq_true, Bool.false_eq_true, Nat.le_refl, Nat.lt_irrefl]
  have hgo : ∀ (I2 : lh_II) (L2 : lh_LL), f_Ni_readLine b I L = some (0, I2, L2) → f_Ni_readLines_7 b (f + 1) (nI v) I L = f_Ni_readLines_7 b f (nI (v + 1)) I2 L2 := by
    intro I2 L2 e
    rw [f_Ni_readLines_7]
    simp (disch := omega) only [hend, e, z_ltL, z_addL, show ¬ 1000 < v by omega, z_bs, z_gd, z_b1, z_b0, z_10, z_01, eq_self, reduceCtorEq, ↓reduceIte, if_true, if_false, Nat.not_lt_zero, not_true_eq_false, not_false_eq_true, Bool.false_eq_true, Nat.le_refl, Nat.lt_irrefl]
  have hgo1 : ∀ (I2 I3 : lh_II) (L2 L3 : lh_LL) (x : Int32), f_Ni_readLine b I L = some (1, I2, L2) → f_Re_take 36 I2 L2 = some (x, I3, L3) → f_Ni_readLines_7 b (f + 1) (nI v) I L = f_Ni_readLines_7 b f (nI (v + 1)) I3 L3 := by
    intro I2 I3 L2 L3 x e e2
    rw [f_Ni_readLines_7]
    simp (disch := omega) only [hend, e, e2, z_ltL, z_addL, show ¬ 1000 < v by omega, z_bs, z_gd, z_b1, z_b0, z_10, z_01, eq_self, reduceCtorEq, ↓reduceIte, if_true, if_false, Nat.not_lt_zero, not_true_eq_false, not_false_eq_true, Bool.false_eq_true, Nat.le_refl, Nat.lt_irrefl]
  unfold n_F n_N
  by_cases ha5 : n_ac (tk_C t n) = 5
  · rw [if_pos ha5]
    have hC : ¬ tk_C t n = 3 ∧ ¬ tk_C t n = 12 ∧ ¬ tk_C t n = 13 ∧ ¬ tk_C t n = 14 ∧ ¬ tk_C t n = 15 := by
      unfold n_ac at ha5
      repeat' split at ha5
      all_goals omega
    have er : f_Re_refuse 1 I = _ := e_refuse h h8 1
    refine ⟨_, L, hgo _ _ (e_lineD h4 hb1 hC er), fun h => absurd h (by omega), fun _ => q_u2s, fun o k h1 h2 h3 h5 => by rw [q_u2o (by omega)], fun _ _ _ => rfl⟩
  · rw [if_neg ha5]
    have ha4 : n_ac (tk_C t n) < 5 := by
      have ha : n_ac (tk_C t n) ≤ 5 := by unfold n_ac; (repeat' split) <;> omega
      omega
    have hC := n_ac_a ha4
    by_cases h40 : q.length = 40
    · rw [if_pos h40]
      have hC' : tk_C t n = 3 ∨ tk_C t n = 12 ∨ tk_C t n = 13 ∨ tk_C t n = 14 ∨ tk_C t n = 15 := by
        unfold q_act at hC
        repeat' split at hC
        all_goals omega
      have er : f_Re_refuse 5 I = _ := e_refuse h h8 5
      refine ⟨_, L, hgo _ _ (e_lineE h4 hC' hq.1 h40 er), fun h => absurd h (by omega), fun _ => q_u2s, fun o k h1 h2 h3 h5 => by rw [q_u2o (by omega)], fun _ _ _ => rfl⟩
    · rw [if_neg h40]
      obtain ⟨I1, L1, e1, e2, e3, e4⟩ := e_adv hw h
      have hl1 : I1 (b + 4) 2 = nI q.length := by rw [e3 _ _ (by omega)]; exact hq.1
      have h81 : I1 (1 + 4) 8 = 0 := by rw [e3 _ _ (by omega)]; exact h8
      by_cases ha3 : n_ac (tk_C t n) < 3
      · rw [if_pos ha3, if_pos ha3]
        have hC' : tk_C t n = 3 ∨ tk_C t n = 12 ∨ tk_C t n = 13 := by
          unfold q_act at hC
          repeat' split at hC
          all_goals omega
        have el := e_lineA h4 hC' hq.1 (by omega) e1 hl1
        have hr : r_c t (n + 1) (lh_u2 (lh_u2 I1 (b + 1 + 4) q.length (nI (tk_C t n))) (b + 4) 2 (nI (q.length + 1))) L1 := e2.kp (fun o k ho => by rw [q_u2o (by omega), q_u2o (by omega)])
        have hr8 : (lh_u2 (lh_u2 I1 (b + 1 + 4) q.length (nI (tk_C t n))) (b + 4) 2 (nI (q.length + 1))) (1 + 4) 8 = 0 := by rw [q_u2o (by omega), q_u2o (by omega)]; exact h81
        obtain ⟨k1, k2⟩ := e_take hw hr hr8 (x := 36) (by decide)
        by_cases h36 : tk_C t (n + 1) = 36
        · obtain ⟨I2, L2, g1, g2, g3, g4⟩ := k1 h36
          rw [if_pos h36]
          refine ⟨I2, L2, hgo1 _ _ _ _ _ el g1, fun _ => ⟨g2, by rw [g3 _ _ (by omega)]; exact hr8, ?_, fun k hk => ?_⟩, fun h => absurd rfl h, fun o k h1 h2 h3 h5 => by rw [g3 _ _ (by omega), q_u2o (by omega), q_u2o (by omega), e3 _ _ (by omega)], fun o k h1 => by rw [g4 _ _ h1, e4 _ _ h1]⟩
          · rw [g3 _ _ (by omega), q_u2s, List.length_append]; rfl
          · rw [List.length_append] at hk
            simp at hk
            rw [q_gP, g3 _ _ (by omega), g3 _ _ (by omega)]
            by_cases e : k < q.length
            · rw [if_pos e]
              refine ⟨?_, fun h => ?_⟩
              · rw [q_u2o (by omega), q_u2o (by omega), e3 _ _ (by omega)]; exact (hq.2 k e).1
              · rw [q_u2o (by omega), q_u2o (by omega), e3 _ _ (by omega)]; exact (hq.2 k e).2 h
            · rw [if_neg e, if_pos (by omega), show k = q.length by omega]
              refine ⟨?_, fun h => absurd h (by show ¬ 3 ≤ n_ac (tk_C t n); omega)⟩
              rw [q_u2o (by omega), q_u2s]
              exact congrArg nI hC
        · have g1 := k2 h36
          rw [if_neg h36]
          refine ⟨_, L1, hgo1 _ _ _ _ _ el g1, fun h => absurd h (by omega), fun _ => q_u2s, fun o k h1 h2 h3 h5 => by rw [q_u2o (by omega), q_u2o (by omega), q_u2o (by omega), e3 _ _ (by omega)], e4⟩
      · rw [if_neg ha3, if_neg ha3]
        have hC' : (tk_C t n = 14 ∧ n_lo (tk_C t n) = 0 ∧ n_hi (tk_C t n) = 3) ∨ (tk_C t n = 15 ∧ n_lo (tk_C t n) = 1 ∧ n_hi (tk_C t n) = 99) := by
          have : tk_C t n = 14 ∨ tk_C t n = 15 := by
            unfold q_act at hC
            repeat' split at hC
            all_goals omega
          rcases this with h | h
          · left; rw [h]; exact ⟨rfl, rfl, rfl⟩
          · right; rw [h]; exact ⟨rfl, rfl, rfl⟩
        have hbd : n_lo (tk_C t n) ≤ 9999 ∧ n_hi (tk_C t n) ≤ 9999 := by omega
        have ew := e_want e2 h81 (lo := n_lo (tk_C t n)) (hi := n_hi (tk_C t n)) hbd.1 hbd.2
        by_cases hnf : tk_nf (n_lo (tk_C t n)) (n_hi (tk_C t n)) t (n + 1) = 0
        · rw [if_pos hnf]
          rw [if_pos hnf] at ew
          have h28 : tk_C t (n + 1) = 28 := by
            unfold tk_nf at hnf
            repeat' split at hnf
            all_goals first | assumption | omega
          have h6 := (e2.2.2.2.2.1 h28).1
          have hr1 : r_c t (n + 1) (lh_u2 I1 (b + 2 + 4) q.length (nI (tk_V t (n + 1)))) L1 := e2.kp (fun o k ho => by rw [q_u2o (by omega)])
          obtain ⟨I2, L2, g1, g2, g3, g4⟩ := e_adv hw hr1
          have hl2 : I2 (b + 4) 2 = nI q.length := by rw [g3 _ _ (by omega), q_u2o (by omega)]; exact hl1
          have el := e_lineB h4 hC' hq.1 (by omega) e1 hl1 ew h6 g1 hl2
          have hr : r_c t (n + 2) (lh_u2 (lh_u2 I2 (b + 1 + 4) q.length (nI (tk_C t n))) (b + 4) 2 (nI (q.length + 1))) L2 := r_c.kp g2 (fun o k ho => by rw [q_u2o (by omega), q_u2o (by omega)])
          have hr8 : (lh_u2 (lh_u2 I2 (b + 1 + 4) q.length (nI (tk_C t n))) (b + 4) 2 (nI (q.length + 1))) (1 + 4) 8 = 0 := by rw [q_u2o (by omega), q_u2o (by omega), g3 _ _ (by omega), q_u2o (by omega)]; exact h81
          obtain ⟨k1, k2⟩ := e_take hw hr hr8 (x := 36) (by decide)
          by_cases h36 : tk_C t (n + 2) = 36
          · obtain ⟨I3, L3, m1, m2, m3, m4⟩ := k1 h36
            rw [if_pos h36]
            refine ⟨I3, L3, hgo1 _ _ _ _ _ el m1, fun _ => ⟨m2, by rw [m3 _ _ (by omega)]; exact hr8, ?_, fun k hk => ?_⟩, fun h => absurd rfl h, fun o k h1 h2 h3 h5 => by rw [m3 _ _ (by omega), q_u2o (by omega), q_u2o (by omega), g3 _ _ (by omega), q_u2o (by omega), e3 _ _ (by omega)], fun o k h1 => by rw [m4 _ _ h1, g4 _ _ h1, e4 _ _ h1]⟩
            · rw [m3 _ _ (by omega), q_u2s, List.length_append]; rfl
            · rw [List.length_append] at hk
              simp at hk
              rw [q_gP, m3 _ _ (by omega), m3 _ _ (by omega)]
              by_cases e : k < q.length
              · rw [if_pos e]
                refine ⟨?_, fun h => ?_⟩
                · rw [q_u2o (by omega), q_u2o (by omega), g3 _ _ (by omega), q_u2o (by omega), e3 _ _ (by omega)]; exact (hq.2 k e).1
                · rw [q_u2o (by omega), q_u2o (by omega), g3 _ _ (by omega), q_u2o (by omega), e3 _ _ (by omega)]; exact (hq.2 k e).2 h
              · rw [if_neg e, if_pos (by omega), show k = q.length by omega]
                refine ⟨?_, fun _ => ?_⟩
                · rw [q_u2o (by omega), q_u2s]
                  exact congrArg nI hC
                · rw [q_u2o (by omega), q_u2o (by omega), g3 _ _ (by omega), q_u2s]
                  show nI (tk_V t (n + 1)) = nI (if n_ac (tk_C t n) < 3 then 0 else tk_V t (n + 1))
                  rw [if_neg ha3]
          · have m1 := k2 h36
            rw [if_neg h36]
            refine ⟨_, L2, hgo1 _ _ _ _ _ el m1, fun h => absurd h (by omega), fun _ => q_u2s, fun o k h1 h2 h3 h5 => by rw [q_u2o (by omega), q_u2o (by omega), q_u2o (by omega), g3 _ _ (by omega), q_u2o (by omega), e3 _ _ (by omega)], fun o k h1 => by rw [g4 _ _ h1, e4 _ _ h1]⟩
        · rw [if_neg hnf]
          rw [if_neg hnf] at ew
          refine ⟨_, L1, hgo _ _ (e_lineC h4 hC' hq.1 (by omega) e1 ew), fun h => absurd h (by omega), fun _ => q_u2s, fun o k h1 h2 h3 h5 => by rw [q_u2o (by omega), e3 _ _ (by omega)], e4⟩
