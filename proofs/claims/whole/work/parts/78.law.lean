/-! the law, whole -/
theorem w_op0 {t : List Nat} {n : Nat} (h : w_op 0 (tk_C t n) = none) : ¬ tk_C t n = 21 ∧ ¬ tk_C t n = 22 := by
  refine ⟨fun e => ?_, fun e => ?_⟩
  · rw [e] at h; cases h
  · rw [e] at h; cases h
theorem w_op2 {t : List Nat} {n : Nat} (h : w_op 2 (tk_C t n) = none) : ¬ tk_C t n = 33 ∧ ¬ tk_C t n = 34 := by
  refine ⟨fun e => ?_, fun e => ?_⟩
  · rw [e] at h; cases h
  · rw [e] at h; cases h
theorem w_op0s {c k : Nat} (h : w_op 0 c = some k) : (c = 21 ∧ k = 9) ∨ (c = 22 ∧ k = 10) := by
  unfold w_op at h
  rw [if_pos rfl] at h
  repeat' split at h
  · cases h; left; exact ⟨by assumption, rfl⟩
  · cases h; right; exact ⟨by assumption, rfl⟩
  · cases h
theorem w_op2s {c k : Nat} (h : w_op 2 c = some k) : (c = 33 ∧ k = 4) ∨ (c = 34 ∧ k = 5) := by
  unfold w_op at h
  rw [if_neg (by decide), if_neg (by decide), if_pos rfl] at h
  repeat' split at h
  · cases h; left; exact ⟨by assumption, rfl⟩
  · cases h; right; exact ⟨by assumption, rfl⟩
  · cases h
theorem w_op3s {c k : Nat} (h : w_op 3 c = some k) : c = 35 ∧ k = 6 := by
  unfold w_op at h
  rw [if_neg (by decide), if_neg (by decide), if_neg (by decide)] at h
  split at h
  · cases h; exact ⟨by assumption, rfl⟩
  · cases h
section Q78
variable {gW gT gS gQ gP : Int32 → lh_II → lh_LL → Option lh_II} {t : List Nat} {N : Nat} {M : lh_LL} {y : Nat}
theorem m_pr1 (f n : Nat) (J : lh_II) (h : r_m t N n J M) (h8 : J (65 + 4) 8 = 0) (ho : w_op 3 (tk_C t n) = none) : f_LM_products_3 gW gT gS gQ gP (nI y) M (f + 1) J = some J := by
  have hC : ¬ tk_C t n = 35 := fun e => by rw [e] at ho; cases ho
  have s : f_LM_hasSign 42 J M = _ := m_hasSign0 h h8 (k := 6) (by decide) (by omega)
  rw [f_LM_products_3, s, z_bs]
  simp only [↓reduceIte]
theorem m_pr2 (f n : Nat) (J : lh_II) (k : Nat) (h : r_m t N n J M) (h8 : J (65 + 4) 8 = 0) (ho : w_op 3 (tk_C t n) = some k) : f_LM_products_3 gW gT gS gQ gP (nI y) M (f + 1) J = lh_bd (gP (nI y) (lh_u2 J (65 + 4) 7 (nI (n + 1))) M) fun r => lh_bd (f_LM_emit (nI k) 0 r) fun r2 => f_LM_products_3 gW gT gS gQ gP (nI y) M f r2 := by
  obtain ⟨e, rfl⟩ := w_op3s ho
  have s : f_LM_hasSign 42 J M = _ := m_hasSign1 h h8 (k := 6) (by decide) e
  rw [f_LM_products_3, s, z_bs]
  simp only [z_10, ↓reduceIte]
  rfl
theorem m_pr3 (f : Nat) (J : lh_II) (h : ¬ J (65 + 4) 8 = 0) : f_LM_products_3 gW gT gS gQ gP (nI y) M (f + 1) J = some J := by
  rw [f_LM_products_3, m_hasSign' M h, z_bs]
  simp only [↓reduceIte]
theorem m_su1 (f n : Nat) (J : lh_II) (h : r_m t N n J M) (h8 : J (65 + 4) 8 = 0) (ho : w_op 2 (tk_C t n) = none) : f_LM_sums_3 gW gT gS gQ gP (nI y) M (f + 1) J = some J := by
  have hC := w_op2 ho
  have s : f_LM_isSign 43 J M = _ := m_isSign h h8 (k := 4) (by decide)
  rw [decide_eq_false (by omega)] at s
  have s2 : f_LM_isSign 45 J M = _ := m_isSign h h8 (k := 5) (by decide)
  rw [decide_eq_false (by omega)] at s2
  rw [f_LM_sums_3, s, z_bs]
  simp only [z_b0, ↓reduceIte, s2, z_bs]
theorem m_su2 (f n : Nat) (J : lh_II) (k : Nat) (h : r_m t N n J M) (h8 : J (65 + 4) 8 = 0) (ho : w_op 2 (tk_C t n) = some k) : f_LM_sums_3 gW gT gS gQ gP (nI y) M (f + 1) J = lh_bd (gQ (nI y) (lh_u2 J (65 + 4) 7 (nI (n + 1))) M) fun r => lh_bd (f_LM_emit (nI k) 0 r) fun r2 => f_LM_sums_3 gW gT gS gQ gP (nI y) M f r2 := by
  have s : f_LM_isSign 43 J M = _ := m_isSign h h8 (k := 4) (by decide)
  have s2 : f_LM_isSign 45 J M = _ := m_isSign h h8 (k := 5) (by decide)
  have h7 : J (65 + 4) 7 = nI n := h.2.2.2.2.2.1
  rcases w_op2s ho with ⟨e, rfl⟩ | ⟨e, rfl⟩
  · rw [decide_eq_true (show tk_C t n = 29 + 4 from e)] at s
    rw [f_LM_sums_3, s, z_bs]
    simp only [z_b1, z_10, ↓reduceIte, s, z_bs, h7, z_addL]
    rfl
  · rw [decide_eq_false (show ¬ tk_C t n = 29 + 4 by omega)] at s
    rw [decide_eq_true (show tk_C t n = 29 + 5 from e)] at s2
    rw [f_LM_sums_3, s, z_bs]
    simp only [z_b0, z_b1, z_10, ↓reduceIte, s, s2, z_bs, h7, z_addL]
    rfl
theorem m_su3 (f : Nat) (J : lh_II) (h : ¬ J (65 + 4) 8 = 0) : f_LM_sums_3 gW gT gS gQ gP (nI y) M (f + 1) J = some J := by
  rw [f_LM_sums_3, m_isSign' M h, z_bs]
  simp only [↓reduceIte, m_isSign' M h, z_bs]
theorem m_wh1 (f n : Nat) (J : lh_II) (h : r_m t N n J M) (h8 : J (65 + 4) 8 = 0) (ho : w_op 0 (tk_C t n) = none) : f_LM_whole_3 gW gT gS gQ gP (nI y) M (f + 1) J = some J := by
  have hC := w_op0 ho
  have s : f_LM_isWord 21 J M = _ := m_isWord h h8 (w := 21) (by decide)
  rw [decide_eq_false hC.1] at s
  have s2 : f_LM_isWord 22 J M = _ := m_isWord h h8 (w := 22) (by decide)
  rw [decide_eq_false hC.2] at s2
  rw [f_LM_whole_3, s, z_bs]
  simp only [z_b0, ↓reduceIte, s2, z_bs]
theorem m_wh2 (f n : Nat) (J : lh_II) (k : Nat) (h : r_m t N n J M) (h8 : J (65 + 4) 8 = 0) (ho : w_op 0 (tk_C t n) = some k) : f_LM_whole_3 gW gT gS gQ gP (nI y) M (f + 1) J = lh_bd (gT (nI y) (lh_u2 J (65 + 4) 7 (nI (n + 1))) M) fun r => lh_bd (f_LM_emit (nI k) 0 r) fun r2 => f_LM_whole_3 gW gT gS gQ gP (nI y) M f r2 := by
  have s : f_LM_isWord 21 J M = _ := m_isWord h h8 (w := 21) (by decide)
  have s2 : f_LM_isWord 22 J M = _ := m_isWord h h8 (w := 22) (by decide)
  have h7 : J (65 + 4) 7 = nI n := h.2.2.2.2.2.1
  rcases w_op0s ho with ⟨e, rfl⟩ | ⟨e, rfl⟩
  · rw [decide_eq_true e] at s
    rw [f_LM_whole_3, s, z_bs]
    simp only [z_b1, z_10, ↓reduceIte, s, z_bs, h7, z_addL]
    rfl
  · rw [decide_eq_false (show ¬ tk_C t n = 21 by omega)] at s
    rw [decide_eq_true e] at s2
    rw [f_LM_whole_3, s, z_bs]
    simp only [z_b0, z_b1, z_10, ↓reduceIte, s, s2, z_bs, h7, z_addL]
    rfl
theorem m_wh3 (f : Nat) (J : lh_II) (h : ¬ J (65 + 4) 8 = 0) : f_LM_whole_3 gW gT gS gQ gP (nI y) M (f + 1) J = some J := by
  rw [f_LM_whole_3, m_isWord' M h, z_bs]
  simp only [↓reduceIte, m_isWord' M h, z_bs]
end Q78
