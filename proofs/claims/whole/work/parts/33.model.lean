/-! the reference's plain questions -/
section QMODEL
variable {I : lh_II} {h : lh_H}
theorem m_cells (m : q_md I h) : f_LM_cells I = some (nI (q_C h)) := by rw [f_LM_cells, m.C]
theorem m_visitors (m : q_md I h) : f_LM_visitors I = some (nI (q_N h)) := by rw [f_LM_visitors, m.N]
theorem m_vases (m : q_md I h) : f_LM_vases I = some (nI (q_K h)) := by rw [f_LM_vases, m.K]
theorem m_isVisitor (m : q_md I h) (x : Int32) : f_LM_isVisitor x I = some (q_b01 (q_is (q_N h) x)) := by
  rw [f_LM_isVisitor, m_visitors m, q_bs, q_isf _ rfl]; unfold q_b01; split <;> rfl
theorem m_isCell (m : q_md I h) (x : Int32) : f_LM_isCell x I = some (q_b01 (q_is (q_C h) x)) := by
  rw [f_LM_isCell, m_cells m, q_bs, q_isf _ rfl]; unfold q_b01; split <;> rfl
theorem m_isVase (m : q_md I h) (x : Int32) : f_LM_isVase x I = some (q_b01 (q_is (q_K h) x)) := by
  rw [f_LM_isVase, m_vases m, q_bs, q_isf _ rfl]; unfold q_b01; split <;> rfl
theorem q_lt_iff {n : Nat} (hn : n + 1 < 2 ^ 31) (x : Int32) : (nI n < x) = (nI (n + 1) ≤ x) := by
  rw [fa_lt, fa_le, nI_toInt (by omega), nI_toInt (by omega)]
  simp only [eq_iff_iff]
  omega
theorem m_within {n : Nat} (hn : n + 1 < 2 ^ 31) (x : Int32) : f_LM_within x (0 : Int32) (nI n) = some (q_b01 (q_is (n + 1) x)) := by
  rw [f_LM_within]
  simp only [q_lt_iff hn]
  rw [q_isf _ rfl]; unfold q_b01; split <;> rfl
theorem q_k11 : ∀ v, v < 6 → lh_ix (9 + 11 * nI v) 200 = true ∧ (9 + 11 * nI v).toNatClampNeg = 9 + 11 * v ∧ lh_ix ((9 + 11 * nI v) + 1) 200 = true ∧ ((9 + 11 * nI v) + 1).toNatClampNeg = 10 + 11 * v ∧ lh_ix ((9 + 11 * nI v) + 2) 200 = true ∧ ((9 + 11 * nI v) + 2).toNatClampNeg = 11 + 11 * v := by decide +kernel
theorem q_k12 : ∀ v, v < 6 → ∀ t, t < 9 → lh_ix (((9 + (11 * nI v)) + 2) + nI t) 200 = true ∧ (((9 + (11 * nI v)) + 2) + nI t).toNatClampNeg = 11 + 11 * v + t ∧ lh_ix ((((9 + (11 * nI v)) + 2) + 1) + nI t) 200 = true ∧ ((((9 + (11 * nI v)) + 2) + 1) + nI t).toNatClampNeg = 12 + 11 * v + t := by decide +kernel
theorem m_kindOf (m : q_md I h) (w : q_wf h) {v : Nat} (hv : v < q_N h) : f_LM_kindOf (nI v) I = some (nI (q_kd h v)) := by
  have hN := w.N
  obtain ⟨i1, i2, -⟩ := q_k11 v (by omega)
  rw [f_LM_kindOf, q_gd i1, i2, (m.2.2.2.1 v hv).1]
theorem m_dayOf (m : q_md I h) (w : q_wf h) {v : Nat} (hv : v < q_N h) : f_LM_dayOf (nI v) I = some (nI (q_dy h v)) := by
  have hN := w.N
  obtain ⟨-, -, i1, i2, -⟩ := q_k11 v (by omega)
  rw [f_LM_dayOf, q_gd i1, i2, (m.2.2.2.1 v hv).2.1]
theorem m_cellOf (m : q_md I h) (w : q_wf h) {v t : Nat} (hv : v < q_N h) (ht : t < 8) : f_LM_cellOf (nI v) (nI t) I = some (q_e (q_pl h v t)) := by
  have hN := w.N
  have hC := w.C
  obtain ⟨-, -, n, raw, hn, e2, e3, e4⟩ := m.2.2.2.1 v hv
  obtain ⟨-, -, -, -, i1, i2⟩ := q_k11 v (by omega)
  rw [f_LM_cellOf, q_gd i1, i2, e2, e4 t ht]
  simp only [nI_leI (show n < 2 ^ 31 by omega) (show t < 2 ^ 31 by omega), m_kindOf m w hv, m_cells m, q_bs]
  unfold q_raw
  have hk := w.kd hv
  by_cases h1 : n ≤ t
  · rw [if_pos h1, if_neg (show ¬ t < n by omega)]
    by_cases h2 : q_kd h v = 2
    · rw [if_pos (show nI (q_kd h v) = 2 by rw [h2]; rfl), if_pos h2]
      obtain ⟨j1, j2, -, -⟩ := q_k12 v (by omega) n (by omega)
      have e5 := (e3 (n - 1) (by omega)).2
      have e6 := (e3 (n - 1) (by omega)).1
      rw [show 12 + 11 * v + (n - 1) = 11 + 11 * v + n by omega] at e5
      rw [q_gd j1, j2, e5]
      simp only [nI_leI (show q_C h < 2 ^ 31 by omega) (show raw (n - 1) < 2 ^ 31 by omega)]
      by_cases h3 : raw (n - 1) < q_C h
      · rw [if_neg (by omega), if_pos h3]; rfl
      · rw [if_pos (by omega), if_neg h3]; rfl
    · rw [if_neg (show ¬ nI (q_kd h v) = 2 from fun e => h2 ((nI_eq (b := 2) (by omega) (by decide)).mp e)), if_neg h2]
      split <;> rfl
  · rw [if_neg h1, if_pos (show t < n by omega)]
    obtain ⟨-, -, j1, j2⟩ := q_k12 v (by omega) t (by omega)
    have e5 := (e3 t (by omega)).2
    have e6 := (e3 t (by omega)).1
    rw [q_gd j1, j2, e5]
    simp only [nI_leI (show q_C h < 2 ^ 31 by omega) (show raw t < 2 ^ 31 by omega)]
    by_cases h3 : raw t < q_C h
    · rw [if_neg (by omega), if_pos h3]; rfl
    · rw [if_pos (by omega), if_neg h3]; rfl
theorem q_k75 : ∀ k, k < 4 → lh_ix (75 + nI k) 200 = true ∧ (75 + nI k).toNatClampNeg = 75 + k := by decide +kernel
theorem m_vaseAt (m : q_md I h) (w : q_wf h) {k : Nat} (hk : k < q_K h) : f_LM_vaseAt (nI k) I = some (q_e (q_va h k)) := by
  have hK := w.K
  have hC := w.C
  obtain ⟨i1, i2⟩ := q_k75 k (by omega)
  obtain ⟨r, r1, r2, r3⟩ := m.2.2.2.2.1 k hk
  rw [f_LM_vaseAt]
  simp only [i1, i2, lh_gd, m_cells m, q_bs, r2, nI_leI (show q_C h < 2 ^ 31 by omega) (show r < 2 ^ 31 by omega), r3]
  by_cases h3 : r < q_C h
  · rw [if_neg (by omega), if_pos h3]; rfl
  · rw [if_pos (by omega), if_neg h3]; rfl
end QMODEL
