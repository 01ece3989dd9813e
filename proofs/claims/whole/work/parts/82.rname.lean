/-! the reference reads a name -/
theorem m_isName {t : List Nat} {N n : Nat} {J : lh_II} {M : lh_LL} (h : r_m t N n J M) (h8 : J (65 + 4) 8 = 0) : f_LM_isName J M = some (q_b01 (decide (23 ≤ tk_C t n ∧ tk_C t n ≤ 27))) := by
  have hN : N ≤ 1000 := h.1
  have hnN : n ≤ N := h.2.1
  have h7 : J (65 + 4) 7 = nI n := h.2.2.2.2.2.1
  have q1 : J (67 + 4) n = nI (tk_so (tk_C t n)) := (h.2.2.2.1 n hnN).1
  have wh : f_LM_wordHere 0 23 J M = _ := m_wordHere h h8 (x := 0) (m := 23) (by decide)
  have hb := (tk_C_b t n).1
  unfold f_LM_isName
  by_cases h27 : tk_C t n ≤ 27
  · by_cases h23 : tk_C t n < 23
    · rw [if_pos (by omega)] at wh
      rw [decide_eq_false (by omega)]
      simp (disch := omega) only [h8, h7, z_ix, z_cl, q1, tk_so_1, h27, wh, z_leL, Nat.zero_le, z_bs, z_gd, z_b1, z_b0, z_10, z_01, eq_self, reduceCtorEq, ↓reduceIte, if_true, if_false, Nat.not_lt_zero, not_true_eq_false, not_false_eq_true, Bool.false_eq_true, Nat.le_refl, Nat.lt_irrefl]
    · rw [if_neg (by omega)] at wh
      rw [decide_eq_true (by omega)]
      simp (disch := omega) only [h8, h7, z_ix, z_cl, q1, tk_so_1, h27, wh, z_0lem1, z_bs, z_gd, z_b1, z_b0, z_10, z_01, eq_self, reduceCtorEq, ↓reduceIte, if_true, if_false, Nat.not_lt_zero, not_true_eq_false, not_false_eq_true, Bool.false_eq_true, Nat.le_refl, Nat.lt_irrefl]
  · rw [decide_eq_false (by omega)]
    simp (disch := omega) only [h8, h7, z_ix, z_cl, q1, tk_so_1, h27, z_bs, z_gd, z_b1, z_b0, z_10, z_01, eq_self, reduceCtorEq, ↓reduceIte, if_true, if_false, Nat.not_lt_zero, not_true_eq_false, not_false_eq_true, Bool.false_eq_true, Nat.le_refl, Nat.lt_irrefl]
theorem m_rname {t : List Nat} (hw : qt_w t) {N n x lim c : Nat} {J : lh_II} {M : lh_LL} {ns : List (List Nat)} (h : r_m t N n J M) (h8 : J (65 + 4) 8 = 0) (h37 : tk_C t n ≠ 37) (hx : x ≤ 2) (hlim : lim ≤ 6) (hc : J (71 + 4) (100 + x) = nI c) (hcl : c < lim) (hn : nm_m ns J M) (hnw : nm_w ns) (h10 : ns.length < 10) : f_LM_readName (nI x) (nI lim) J M = some (if 23 ≤ tk_C t (n + 1) ∧ tk_C t (n + 1) ≤ 27 then (if (q_fst (nm_p ns (tk_W t (n + 1))) 0 ns.length).isSome = true then (lh_u2 (lh_u2 J (65 + 4) 7 (nI (n + 1))) (65 + 4) 8 (nI (3 + 16 * tk_P t (n + 1))), M) else (lh_u2 (lh_u2 (lh_u2 (lh_u2 J (65 + 4) 7 (nI (n + 1))) (65 + 4) 15 (nI (ns.length + 1))) (65 + 4) 7 (nI (n + 1 + 1))) (71 + 4) (100 + x) (nI (c + 1)), lh_v2 M (74 + 4) ns.length (M (69 + 4) (n + 1)))) else (lh_u2 (lh_u2 J (65 + 4) 7 (nI (n + 1))) (65 + 4) 8 (nI (1 + 16 * tk_P t (n + 1))), M)) := by
  have hN : N ≤ 1000 := h.1
  have hl0 := hw.1
  have hnx := h.nx h37
  have hP := tk_P_le t (n + 1)
  have h7 : J (65 + 4) 7 = nI n := h.2.2.2.2.2.1
  have hm1 : r_m t N (n + 1) (lh_u2 J (65 + 4) 7 (nI (n + 1))) M := h.kp (by omega) q_u2s (fun o k ho => by rw [q_u2o (by omega)])
  have h81 : lh_u2 J (65 + 4) 7 (nI (n + 1)) (65 + 4) 8 = 0 := by rw [q_u2o (by omega)]; exact h8
  have hn1 : nm_m ns (lh_u2 J (65 + 4) 7 (nI (n + 1))) M := ⟨by rw [q_u2o (by omega)]; exact hn.1, hn.2⟩
  have h15 : J (65 + 4) 15 = nI ns.length := hn.1
  have en := m_isName hm1 h81
  have w1 : f_LM_wrong 1 (lh_u2 J (65 + 4) 7 (nI (n + 1))) = _ := m_wrong hm1 h81 1
  have w3 : f_LM_wrong 3 (lh_u2 J (65 + 4) 7 (nI (n + 1))) = _ := m_wrong hm1 h81 3
  have n1 := tk_ne (x := 1) (p := tk_P t (n + 1)) (by decide) (by decide) (by omega)
  have n3 := tk_ne (x := 3) (p := tk_P t (n + 1)) (by decide) (by decide) (by omega)
  unfold f_LM_readName
  by_cases hq : 23 ≤ tk_C t (n + 1) ∧ tk_C t (n + 1) ≤ 27
  · rw [decide_eq_true hq] at en
    rw [if_pos hq]
    have et := m_told hm1 hq.2 hn1 hnw (by omega)
    by_cases ht : (q_fst (nm_p ns (tk_W t (n + 1))) 0 ns.length).isSome = true
    · rw [ht] at et
      rw [if_pos ht]
      simp (disch := omega) only [z_addR, z_add, z_ix, z_cl, hc, z_eq, show ¬ c = lim by omega, h7, z_addL, en, et, w3, q_u2s, n3, z_bs, z_gd, z_b1, z_b0, z_10, z_01, eq_self, reduceCtorEq, ↓reduceIte, if_true, if_false, Nat.not_lt_zero, not_true_eq_false, not_false_eq_true, Bool.false_eq_true, Nat.le_refl, Nat.lt_irrefl]
    · rw [show (q_fst (nm_p ns (tk_W t (n + 1))) 0 ns.length).isSome = false by simpa using ht] at et
      rw [if_neg ht]
      simp (disch := omega) only [z_addR, z_add, z_ix, z_cl, hc, z_eq, show ¬ c = lim by omega, h7, z_addL, en, et, q_u2o, q_u2s, h8, h15, z_bs, z_gd, z_b1, z_b0, z_10, z_01, eq_self, reduceCtorEq, ↓reduceIte, if_true, if_false, Nat.not_lt_zero, not_true_eq_false, not_false_eq_true, Bool.false_eq_true, Nat.le_refl, Nat.lt_irrefl]
  · rw [decide_eq_false hq] at en
    rw [if_neg hq]
    simp (disch := omega) only [z_addR, z_add, z_ix, z_cl, hc, z_eq, show ¬ c = lim by omega, h7, z_addL, en, w1, q_u2s, n1, z_bs, z_gd, z_b1, z_b0, z_10, z_01, eq_self, reduceCtorEq, ↓reduceIte, if_true, if_false, Nat.not_lt_zero, not_true_eq_false, not_false_eq_true, Bool.false_eq_true, Nat.le_refl, Nat.lt_irrefl]
