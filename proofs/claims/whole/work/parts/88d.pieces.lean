/-! pieces of the longer lines -/
theorem z_band0 {x j : Nat} (hj : j < 31) : (nI x &&& nI (2 ^ j) = 0) = (x.testBit j = false) := propext (fa_bit hj)
theorem q_gL {l : List (List Nat)} {n : List Nat} {k : Nat} : (l ++ [n]).getD k [] = if k < l.length then l.getD k [] else if k = l.length then n else [] := by
  rw [List.getD_eq_getElem?_getD, List.getD_eq_getElem?_getD]
  by_cases h1 : k < l.length
  · rw [if_pos h1, List.getElem?_append_left h1]
  · rw [if_neg h1, List.getElem?_append_right (by omega)]
    by_cases h2 : k = l.length
    · subst h2; simp
    · rw [if_neg h2, List.getElem?_eq_none (by simp; omega)]; rfl
section Q88d
variable {t : List Nat} {N n : Nat} {J : lh_II} {M : lh_LL}
theorem m_take' (M : lh_LL) (hn : ¬ J (65 + 4) 8 = 0) (hg : ¬ J (65 + 4) 8 ≤ 0) (x y : Int32) : f_LM_takeNumber x y J M = some (0, J) := by
  unfold f_LM_takeNumber
  rw [if_neg hn, if_neg hg]
theorem m_hasWord' (M : lh_LL) (hn : ¬ J (65 + 4) 8 = 0) (x : Int32) : f_LM_hasWord x J M = some (0, J) := by
  unfold f_LM_hasWord
  rw [m_isWord' M hn x, z_bs, if_pos rfl, z_add0, q_u2id rfl]
  rfl
theorem m_tword' (M : lh_LL) (hn : ¬ J (65 + 4) 8 = 0) (x : Int32) : f_LM_takeWord x J M = some J := by
  unfold f_LM_takeWord
  rw [m_hasWord' M hn x, z_bs]
  simp only []
  rw [if_pos trivial, m_wrong' hn, z_bs]
theorem m_tword1 (h : r_m t N n J M) (h8 : J (65 + 4) 8 = 0) {w : Nat} (hw : w < 27) (hc : tk_C t n = w) : f_LM_takeWord (nI w) J M = some (lh_u2 J (65 + 4) 7 (nI (n + 1))) := by
  unfold f_LM_takeWord
  rw [m_hasWord1 h h8 hw hc, z_bs]
  simp only []
  rw [if_neg (by decide)]
theorem m_tword0 (h : r_m t N n J M) (h8 : J (65 + 4) 8 = 0) {w : Nat} (hw : w < 27) (hc : ¬ tk_C t n = w) : f_LM_takeWord (nI w) J M = some (lh_u2 J (65 + 4) 8 (nI (1 + 16 * tk_P t n))) := by
  have er : f_LM_wrong 1 J = _ := m_wrong h h8 1
  unfold f_LM_takeWord
  rw [m_hasWord0 h h8 hw hc, z_bs]
  simp only []
  rw [if_pos trivial, er, z_bs]
theorem m_tone' (M : lh_LL) (hn : ¬ J (65 + 4) 8 = 0) (hg : ¬ J (65 + 4) 8 ≤ 0) (x y : Int32) : f_LM_takeOne x y J M = some (0, J) := by
  unfold f_LM_takeOne
  rw [if_neg hg, if_neg hn, z_add0, q_u2id rfl, if_neg hg]
theorem m_tone1 (h : r_m t N n J M) (h8 : J (65 + 4) 8 = 0) (hc : 16 ≤ tk_C t n ∧ tk_C t n ≤ 19) : f_LM_takeOne 16 4 J M = some (nI (tk_C t n - 16), lh_u2 J (65 + 4) 7 (nI (n + 1))) := by
  have h7 : J (65 + 4) 7 = nI n := h.2.2.2.2.2.1
  have wh : f_LM_wordHere 16 4 J M = _ := m_wordHere h h8 (x := 16) (m := 4) (by decide)
  rw [if_pos (by omega)] at wh
  unfold f_LM_takeOne
  rw [wh, z_bs]
  simp (disch := omega) only [h8, show ((0 : Int32) ≤ 0) = True by decide, z_leL, Nat.zero_le, q_u2o, h7, z_addL, z_bs, z_gd, z_b1, z_b0, z_10, z_01, eq_self, reduceCtorEq, ↓reduceIte, if_true, if_false, Nat.not_lt_zero, not_true_eq_false, not_false_eq_true, Bool.false_eq_true, Nat.le_refl, Nat.lt_irrefl]
theorem m_tone0 (hw : qt_w t) (h : r_m t N n J M) (h8 : J (65 + 4) 8 = 0) (hc : ¬ (16 ≤ tk_C t n ∧ tk_C t n ≤ 19)) : f_LM_takeOne 16 4 J M = some (0, lh_u2 J (65 + 4) 8 (nI (1 + 16 * tk_P t n))) := by
  have hl0 := hw.1
  have hP := tk_P_le t n
  have wh : f_LM_wordHere 16 4 J M = _ := m_wordHere h h8 (x := 16) (m := 4) (by decide)
  rw [if_neg (by omega)] at wh
  have er : f_LM_wrong 1 J = _ := m_wrong h h8 1
  have hng := tk_ng (x := 1) (p := tk_P t n) (by decide) (by decide) (by omega)
  have hJ : ¬ (lh_u2 J (65 + 4) 8 (nI (1 + 16 * tk_P t n))) (65 + 4) 8 ≤ 0 := by rw [q_u2s]; exact hng
  unfold f_LM_takeOne
  rw [wh, z_bs, if_pos (by rw [h8]; decide), if_pos h8, if_neg (by decide), er, z_bs, if_neg hJ, z_add0, q_u2id rfl, if_neg hJ]
theorem m_tafter' (M : lh_LL) (hn : ¬ J (65 + 4) 8 = 0) (hg : ¬ J (65 + 4) 8 ≤ 0) (w x y : Int32) : f_LM_takeAfter w x y J M = some (0, J) := by
  unfold f_LM_takeAfter
  rw [m_tword' M hn, z_bs, m_take' M hn hg, z_bs]
theorem m_tafter0 (hw : qt_w t) (h : r_m t N n J M) (h8 : J (65 + 4) 8 = 0) {w : Nat} (hw7 : w < 27) (hc : ¬ tk_C t n = w) (x y : Int32) : f_LM_takeAfter (nI w) x y J M = some (0, lh_u2 J (65 + 4) 8 (nI (1 + 16 * tk_P t n))) := by
  have hl0 := hw.1
  have hP := tk_P_le t n
  have hng := tk_ng (x := 1) (p := tk_P t n) (by decide) (by decide) (by omega)
  have hne := tk_ne (x := 1) (p := tk_P t n) (by decide) (by decide) (by omega)
  unfold f_LM_takeAfter
  rw [m_tword0 h h8 hw7 hc, z_bs, m_take' M (by rw [q_u2s]; exact hne) (by rw [q_u2s]; exact hng), z_bs]
theorem m_tafter1 (hw : qt_w t) (h : r_m t N n J M) (h8 : J (65 + 4) 8 = 0) {w : Nat} (hw7 : w < 27) (hc : tk_C t n = w) {lo hi : Nat} (hlo : lo < 128) (hhi : hi < 128) : f_LM_takeAfter (nI w) (nI lo) (nI hi) J M = if tk_nf lo hi t (n + 1) = 0 then some (nI (tk_V t (n + 1)), lh_u2 (lh_u2 J (65 + 4) 7 (nI (n + 1))) (65 + 4) 7 (nI (n + 1 + 1))) else some (0, lh_u2 (lh_u2 J (65 + 4) 7 (nI (n + 1))) (65 + 4) 8 (nI (tk_nf lo hi t (n + 1) + 16 * tk_P t (n + 1)))) := by
  have hn := h.nx (by omega)
  have h1 : r_m t N (n + 1) (lh_u2 J (65 + 4) 7 (nI (n + 1))) M := h.kp (by omega) q_u2s (fun o k ho => by rw [q_u2o (by omega)])
  have et := m_take h1 (by rw [q_u2o (by omega)]; exact h8) hw tk_V_le hlo hhi
  unfold f_LM_takeAfter
  rw [m_tword1 h h8 hw7 hc, z_bs, et]
  split <;> rw [z_bs]
theorem m_rname5 (h : r_m t N n J M) (h8 : J (65 + 4) 8 = 0) {x lim : Nat} (hx : x ≤ 2) (hl : lim ≤ 6) (hc : J (71 + 4) (100 + x) = nI lim) : f_LM_readName (nI x) (nI lim) J M = some (lh_u2 J (65 + 4) 8 (nI (5 + 16 * tk_P t n)), M) := by
  have er : f_LM_wrong 5 J = _ := m_wrong h h8 5
  have i1 : lh_ix (100 + nI x) 200 = true := by rw [z_addR]; exact z_ix (by omega) (by decide)
  have i2 : (100 + nI x).toNatClampNeg = 100 + x := by rw [z_addR]; exact z_cl (by omega)
  unfold f_LM_readName
  rw [i1, z_gd, i2, if_pos hc, er, z_bs]
theorem r_m.kq {n' : Nat} {J' : lh_II} {M' : lh_LL} (h : r_m t N n J M) (hn : n' ≤ N) (h7 : J' (65 + 4) 7 = nI n') (hf : ∀ o k, o = 71 ∨ o = 72 → J' o k = J o k) (hg : ∀ o k, o ≠ 78 → M' o k = M o k) : r_m t N n' J' M' := by
  obtain ⟨h1, h2, h3, h4, h5, h6, h8⟩ := h
  refine ⟨h1, hn, h3, fun m hm => ?_, h5, h7, fun w hw => by rw [hg _ _ (by omega)]; exact h8 w hw⟩
  obtain ⟨g1, g2, g3, g4, g5⟩ := h4 m hm
  exact ⟨by rw [hf _ _ (by omega)]; exact g1, by rw [hf _ _ (by omega)]; exact g2, fun h => by rw [hg _ _ (by omega)]; exact g3 h, fun h => by rw [hg _ _ (by omega)]; exact g4 h, fun h h' => by rw [hg _ _ (by omega)]; exact g5 h h'⟩
theorem nm_c.ap {q : Nat} {ns : List (List Nat)} {w : List Nat} {I I' : lh_II} {L L' : lh_LL} (h : nm_c q ns I L) (h3 : I' (q + 4) 3 = nI (ns.length + 1)) (hl : ∀ k, k < ns.length → L' (q + 5) k = L (q + 5) k) (hn : L' (q + 5) ns.length = lN (tk_cd 32 w)) : nm_c q (ns ++ [w]) I' L' := by
  refine ⟨by rw [List.length_append]; exact h3, fun i hi => ?_⟩
  rw [List.length_append] at hi
  simp at hi
  by_cases e : i < ns.length
  · rw [show q + 1 + 4 = q + 5 by omega, hl i e, q_gL, if_pos e]; exact h.2 i e
  · have e2 : i = ns.length := by omega
    subst e2
    rw [show q + 1 + 4 = q + 5 by omega, hn, q_gL, if_neg (Nat.lt_irrefl _), if_pos rfl]
theorem nm_m.ap {ns : List (List Nat)} {w : List Nat} {J' : lh_II} {M' : lh_LL} (h : nm_m ns J M) (h3 : J' (65 + 4) 15 = nI (ns.length + 1)) (hl : ∀ k, k < ns.length → M' (74 + 4) k = M (74 + 4) k) (hn : M' (74 + 4) ns.length = lN (tk_cd 37 w)) : nm_m (ns ++ [w]) J' M' := by
  refine ⟨by rw [List.length_append]; exact h3, fun i hi => ?_⟩
  rw [List.length_append] at hi
  simp at hi
  by_cases e : i < ns.length
  · rw [hl i e, q_gL, if_pos e]; exact h.2 i e
  · have e2 : i = ns.length := by omega
    subst e2
    rw [hn, q_gL, if_neg (Nat.lt_irrefl _), if_pos rfl]
theorem nm_w.ap {ns : List (List Nat)} {w : List Nat} (h : nm_w ns) (h1 : ∀ c ∈ w, tk_let c = true) (h2 : w.length ≤ 8) : nm_w (ns ++ [w]) := by
  intro u hu
  rw [List.mem_append] at hu
  rcases hu with hu | hu
  · exact h u hu
  · simp at hu; subst hu; exact ⟨h1, h2⟩
theorem e_room5 {a q k m : Nat} {I : lh_II} {L : lh_LL} (hc : r_c t n I L) (h8 : I (1 + 4) 8 = 0) (hk : ¬ k < m) (hk2 : k < 100) (hm : m < 100) : f_Hr_takeIfRoom a q (nI k) (nI m) I L = some (0, lh_u2 I (1 + 4) 8 (nI (5 + 16 * tk_P t n)), L) := by
  have er : f_Re_refuse 5 I = _ := e_refuse hc h8 5
  unfold f_Hr_takeIfRoom
  simp (disch := omega) only [z_lt, hk, er, show lh_z 0 = true from rfl, z_bs, z_gd, z_b1, z_b0, z_10, z_01, eq_self, reduceCtorEq, ↓reduceIte, if_true, if_false, Nat.not_lt_zero, not_true_eq_false, not_false_eq_true, Bool.false_eq_true, Nat.le_refl, Nat.lt_irrefl]
theorem e_room1 {a q k m : Nat} {I I1 : lh_II} {L L1 : lh_LL} (hk : k < m) (hm : m < 100) (e : f_Re_advance I L = some (I1, L1)) : f_Hr_takeIfRoom a q (nI k) (nI m) I L = some (1, I1, L1) := by
  unfold f_Hr_takeIfRoom
  simp (disch := omega) only [z_lt, hk, e, z_bs, z_gd, z_b1, z_b0, z_10, z_01, eq_self, reduceCtorEq, ↓reduceIte, if_true, if_false, Nat.not_lt_zero, not_true_eq_false, not_false_eq_true, Bool.false_eq_true, Nat.le_refl, Nat.lt_irrefl]
end Q88d
