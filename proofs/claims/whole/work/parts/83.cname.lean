/-! the class reads a name -/
theorem e_rname0 {t : List Nat} {a q n : Nat} {I : lh_II} {L : lh_LL} (hc : r_c t n I L) (h8 : I (1 + 4) 8 = 0) (hC : ¬ (23 ≤ tk_C t n ∧ tk_C t n ≤ 27)) : f_Hr_readName a q I L = some (0, lh_u2 I (1 + 4) 8 (nI (1 + 16 * tk_P t n)), L) := by
  have hb := (tk_C_b t n).1
  have h4 := hc.2.2.1
  have er : f_Re_refuse 1 I = _ := e_refuse hc h8 1
  unfold f_Hr_readName
  by_cases h23 : tk_C t n < 23
  · simp (disch := omega) only [h4, z_ltR, h23, er, show lh_z 0 = true from rfl, z_bs, z_gd, z_b1, z_b0, z_10, z_01, eq_self, reduceCtorEq, ↓reduceIte, if_true, if_false, Nat.not_lt_zero, not_true_eq_false, not_false_eq_true, Bool.false_eq_true, Nat.le_refl, Nat.lt_irrefl]
  · simp (disch := omega) only [h4, z_ltR, z_leR, h23, show ¬ tk_C t n ≤ 27 by omega, er, show lh_z 0 = true from rfl, z_bs, z_gd, z_b1, z_b0, z_10, z_01, eq_self, reduceCtorEq, ↓reduceIte, if_true, if_false, Nat.not_lt_zero, not_true_eq_false, not_false_eq_true, Bool.false_eq_true, Nat.le_refl, Nat.lt_irrefl]
theorem e_rname3 {t : List Nat} {a q n : Nat} {I : lh_II} {L : lh_LL} {ns : List (List Nat)} (hc : r_c t n I L) (h8 : I (1 + 4) 8 = 0) (hC : 23 ≤ tk_C t n ∧ tk_C t n ≤ 27) (hn : nm_c q ns I L) (hw : nm_w ns) (h10 : ns.length < 10) (ht : (q_fst (nm_p ns (tk_W t n)) 0 ns.length).isSome = true) : f_Hr_readName a q I L = some (0, lh_u2 I (1 + 4) 8 (nI (3 + 16 * tk_P t n)), L) := by
  have h4 := hc.2.2.1
  have er : f_Re_refuse 3 I = _ := e_refuse hc h8 3
  have el := e_nm17 (a := a) hc hC.2 hn hw (by omega)
  rw [if_pos ht] at el
  unfold f_Hr_readName
  simp (disch := omega) only [h4, z_ltR, z_leR, show ¬ tk_C t n < 23 by omega, hC.2, el, er, show lh_z 0 = true from rfl, z_bs, z_gd, z_b1, z_b0, z_10, z_01, eq_self, reduceCtorEq, ↓reduceIte, if_true, if_false, Nat.not_lt_zero, not_true_eq_false, not_false_eq_true, Bool.false_eq_true, Nat.le_refl, Nat.lt_irrefl]
theorem e_rname1 {t : List Nat} (hwt : qt_w t) {a q n : Nat} (hq : 82 ≤ q) {I : lh_II} {L : lh_LL} {ns : List (List Nat)} (hc : r_c t n I L) (hC : 23 ≤ tk_C t n ∧ tk_C t n ≤ 27) (hn : nm_c q ns I L) (hw : nm_w ns) (h10 : ns.length < 10) (ht : ¬ (q_fst (nm_p ns (tk_W t n)) 0 ns.length).isSome = true) : ∃ I1 L1, f_Hr_readName a q I L = some (1, I1, L1) ∧ r_c t (n + 1) I1 L1 ∧ (∀ o k, ¬ (o = 5 ∧ 3 ≤ k ∧ k ≤ 6) → ¬ (o = q + 4 ∧ k = 3) → I1 o k = I o k) ∧ (∀ o k, ¬ (o = 5 ∧ k = 7) → ¬ (o = q + 5 ∧ k = ns.length) → L1 o k = L o k) ∧ I1 (q + 4) 3 = nI (ns.length + 1) ∧ L1 (q + 1 + 4) ns.length = lN (tk_cd 32 (tk_W t n)) := by
  have h4 := hc.2.2.1
  have hL : L (1 + 4) 7 = lN (tk_cd 32 (tk_W t n)) := hc.2.2.2.2.2.1 hC.2
  have el := e_nm17 (a := a) hc hC.2 hn hw (by omega)
  rw [if_neg ht] at el
  have hc' : r_c t n (lh_u2 I (q + 4) 3 (nI (ns.length + 1))) (lh_v2 L (q + 1 + 4) ns.length (lN (tk_cd 32 (tk_W t n)))) := by
    obtain ⟨g1, g2, g3, g4, g5, g6, g7⟩ := hc.kp (I' := lh_u2 I (q + 4) 3 (nI (ns.length + 1))) (fun o k ho => by rw [q_u2o (by omega)])
    exact ⟨g1, g2, g3, g4, g5, fun h => by rw [q_v2o (by omega)]; exact g6 h, fun w hw => by rw [q_v2o (by omega)]; exact g7 w hw⟩
  obtain ⟨I1, L1, e1, e2, e3, e4⟩ := e_adv hwt hc'
  refine ⟨I1, L1, ?_, e2, fun o k h1 h2 => by rw [e3 _ _ (by omega), q_u2o (by omega)], fun o k h1 h2 => by rw [e4 _ _ h1, q_v2o (by omega)], by rw [e3 _ _ (by omega), q_u2s], by rw [e4 _ _ (by omega), q_v2s]⟩
  unfold f_Hr_readName
  simp (disch := omega) only [h4, z_ltR, z_leR, z_leL, show ¬ tk_C t n < 23 by omega, hC.2, el, hn.1, hL, show ¬ 10 ≤ ns.length by omega, z_ix, z_cl, z_addL, e1, Nat.one_ne_zero, z_bs, z_gd, z_b1, z_b0, z_10, z_01, eq_self, reduceCtorEq, ↓reduceIte, if_true, if_false, Nat.not_lt_zero, not_true_eq_false, not_false_eq_true, Bool.false_eq_true, Nat.le_refl, Nat.lt_irrefl]
