/-! the reference cuts the tape -/
def tk_so (c : Nat) : Nat := if c ≤ 27 then 1 else if c = 28 then 2 else if c = 37 then 0 else if c = 38 then 4 else 3
def tk_laid (J : lh_II) (M : lh_LL) (t : List Nat) (n : Nat) : Prop := J (67 + 4) n = nI (tk_so (tk_c t (tk_pos t n))) ∧ J (68 + 4) n = nI (tk_i t (tk_pos t n)) ∧ (tk_c t (tk_pos t n) ≤ 27 → M (69 + 4) n = lN (tk_cd 37 (tk_w t (tk_pos t n)))) ∧ (tk_c t (tk_pos t n) = 28 → M (69 + 4) n = lN (tk_v t (tk_pos t n))) ∧ (29 ≤ tk_c t (tk_pos t n) → tk_c t (tk_pos t n) ≤ 36 → M (69 + 4) n = lN (tk_sg.getD (tk_c t (tk_pos t n) - 29) 0))
def qm_c (J : lh_II) (t : List Nat) : Prop := J (65 + 4) 3 = nI t.length ∧ ∀ i, i < t.length → J (66 + 4) i = nI (t.getD i 0)
theorem m_rank : ∀ c, c < 128 → (tk_let c = true → f_LM_rank (nI c) = some (nI (c - 96)) ∧ (nI (c - 96)).toInt64 = lN (c - 96)) ∧ (nI c).toInt64 = lN c := by decide +kernel
theorem m_let {t : List Nat} (hw : qt_w t) {J : lh_II} (hc : qm_c J t) (v1 : Int32) {i0 : Nat} : ∀ (d f i : Nat) (v : Int64), i + d = t.length → d < f → i0 ≤ i → (i - i0 ≤ 8 → v = lN (tk_cd 37 (tk_ws t i0 i))) → ∃ v', f_LM_cutAll_40 v1 (nI i0) J f (nI i) v = some (nI (tk_end tk_let t i), v') ∧ (tk_end tk_let t i - i0 ≤ 8 → v' = lN (tk_cd 37 (tk_ws t i0 (tk_end tk_let t i))))
  | _, 0, _, _, _, h, _, _ => absurd h (by omega)
  | 0, f + 1, i, v, hd, hf, h0, hv => by
    have hl := hw.1
    have e : tk_end tk_let t i = i := tk_end_ge _ _ (by omega)
    rw [e]
    refine ⟨v, ?_, hv⟩
    rw [f_LM_cutAll_40, hc.1]
    simp (disch := omega) only [z_le, show t.length ≤ i by omega, z_bs, z_gd, z_b1, z_b0, z_10, z_01, eq_self, reduceCtorEq, ↓reduceIte, if_true, if_false, Nat.not_lt_zero, not_true_eq_false, not_false_eq_true, Bool.false_eq_true, Nat.le_refl, Nat.lt_irrefl]
  | d + 1, f + 1, i, v, hd, hf, h0, hv => by
    have hi' : i < t.length := by omega
    have hl := hw.1
    have hlt := tk_ch_lt hw hi'
    have hc2 := hc.2 i hi'
    have hD := (e_isLet _ hlt).2.2.1
    by_cases hb : tk_let (t.getD i 0) = true
    · have e := tk_end_y hi' hb
      have hm := tk_mono (p := tk_let) hi'
      obtain ⟨r1, r2⟩ := (m_rank _ hlt).1 hb
      by_cases h8 : 8 ≤ i - i0
      · obtain ⟨v', e1, e2⟩ := m_let hw hc v1 (i0 := i0) d f (i + 1) v (by omega) (by omega) (by omega) (fun h => by omega)
        refine ⟨v', ?_, by rw [e]; exact e2⟩
        rw [e, ← e1, f_LM_cutAll_40, hc.1, z_cl (by omega), hc2, hD, hb]
        simp (disch := omega) only [z_le, z_ix, z_addL, z_sub, z_leL, h8, show ¬ t.length ≤ i by omega, z_bs, z_gd, z_b1, z_b0, z_10, z_01, eq_self, reduceCtorEq, ↓reduceIte, if_true, if_false, Nat.not_lt_zero, not_true_eq_false, not_false_eq_true, Bool.false_eq_true, Nat.le_refl, Nat.lt_irrefl]
      · obtain ⟨v', e1, e2⟩ := m_let hw hc v1 (i0 := i0) d f (i + 1) (37 * v + lN (t.getD i 0 - 96)) (by omega) (by omega) (by omega) (fun h => by
          rw [hv (by omega), tk_ws_s t h0, tk_cd_s]
          rw [show (37 : Int64) * lN (tk_cd 37 (tk_ws t i0 i)) = lN (37 * tk_cd 37 (tk_ws t i0 i)) from lN_mul 37 _, lN_add, Nat.mul_comm])
        refine ⟨v', ?_, by rw [e]; exact e2⟩
        rw [e, ← e1, f_LM_cutAll_40, hc.1, z_cl (by omega), hc2, hD, hb, r1]
        simp (disch := omega) only [z_le, z_ix, z_addL, z_sub, z_leL, h8, r2, show ¬ t.length ≤ i by omega, z_bs, z_gd, z_b1, z_b0, z_10, z_01, eq_self, reduceCtorEq, ↓reduceIte, if_true, if_false, Nat.not_lt_zero, not_true_eq_false, not_false_eq_true, Bool.false_eq_true, Nat.le_refl, Nat.lt_irrefl]
    · have e : tk_end tk_let t i = i := tk_end_n hb
      rw [e]
      refine ⟨v, ?_, hv⟩
      rw [f_LM_cutAll_40, hc.1, z_cl (by omega), hc2, hD, show tk_let (t.getD i 0) = false by simpa using hb]
      simp (disch := omega) only [z_le, z_ix, show ¬ t.length ≤ i by omega, z_bs, z_gd, z_b1, z_b0, z_10, z_01, eq_self, reduceCtorEq, ↓reduceIte, if_true, if_false, Nat.not_lt_zero, not_true_eq_false, not_false_eq_true, Bool.false_eq_true, Nat.le_refl, Nat.lt_irrefl]
theorem m_num {t : List Nat} (hw : qt_w t) {J : lh_II} (hc : qm_c J t) (v1 : Int32) {i0 : Nat} : ∀ (d f i : Nat) (v : Int64), i + d = t.length → d < f → i0 ≤ i → (i - i0 ≤ 4 → v = lN (tk_nm (tk_ws t i0 i))) → ∃ v', f_LM_cutAll_86 v1 (nI i0) J f (nI i) v = some (nI (tk_end tk_dig t i), v') ∧ (tk_end tk_dig t i - i0 ≤ 4 → v' = lN (tk_nm (tk_ws t i0 (tk_end tk_dig t i))))
  | _, 0, _, _, _, h, _, _ => absurd h (by omega)
  | 0, f + 1, i, v, hd, hf, h0, hv => by
    have hl := hw.1
    have e : tk_end tk_dig t i = i := tk_end_ge _ _ (by omega)
    rw [e]
    refine ⟨v, ?_, hv⟩
    rw [f_LM_cutAll_86, hc.1]
    simp (disch := omega) only [z_le, show t.length ≤ i by omega, z_bs, z_gd, z_b1, z_b0, z_10, z_01, eq_self, reduceCtorEq, ↓reduceIte, if_true, if_false, Nat.not_lt_zero, not_true_eq_false, not_false_eq_true, Bool.false_eq_true, Nat.le_refl, Nat.lt_irrefl]
  | d + 1, f + 1, i, v, hd, hf, h0, hv => by
    have hi' : i < t.length := by omega
    have hl := hw.1
    have hlt := tk_ch_lt hw hi'
    have hc2 := hc.2 i hi'
    have hD := (e_isLet _ hlt).2.2.2.1
    have r2 := (m_rank _ hlt).2
    by_cases hb : tk_dig (t.getD i 0) = true
    · have hb' := hb
      unfold tk_dig at hb'
      simp only [decide_eq_true_eq] at hb'
      have e := tk_end_y hi' hb
      have hm := tk_mono (p := tk_dig) hi'
      by_cases h8 : 4 ≤ i - i0
      · obtain ⟨v', e1, e2⟩ := m_num hw hc v1 (i0 := i0) d f (i + 1) v (by omega) (by omega) (by omega) (fun h => by omega)
        refine ⟨v', ?_, by rw [e]; exact e2⟩
        rw [e, ← e1, f_LM_cutAll_86, hc.1, z_cl (by omega), hc2, hD, hb]
        simp (disch := omega) only [z_le, z_ix, z_addL, z_sub, z_leL, h8, show ¬ t.length ≤ i by omega, z_bs, z_gd, z_b1, z_b0, z_10, z_01, eq_self, reduceCtorEq, ↓reduceIte, if_true, if_false, Nat.not_lt_zero, not_true_eq_false, not_false_eq_true, Bool.false_eq_true, Nat.le_refl, Nat.lt_irrefl]
      · obtain ⟨v', e1, e2⟩ := m_num hw hc v1 (i0 := i0) d f (i + 1) ((10 * v + lN (t.getD i 0)) - 48) (by omega) (by omega) (by omega) (fun h => by
          rw [hv (by omega), tk_ws_s t h0, tk_nm_s]
          rw [show (10 : Int64) * lN (tk_nm (tk_ws t i0 i)) = lN (10 * tk_nm (tk_ws t i0 i)) from lN_mul 10 _, lN_add]
          rw [show lN (10 * tk_nm (tk_ws t i0 i) + t.getD i 0) - 48 = lN (10 * tk_nm (tk_ws t i0 i) + t.getD i 0 - 48) from lN_sub (b := 48) (by omega)]
          congr 1
          omega)
        refine ⟨v', ?_, by rw [e]; exact e2⟩
        rw [e, ← e1, f_LM_cutAll_86, hc.1, z_cl (by omega), hc2, hD, hb, r2]
        simp (disch := omega) only [z_le, z_ix, z_addL, z_sub, z_leL, h8, show ¬ t.length ≤ i by omega, z_bs, z_gd, z_b1, z_b0, z_10, z_01, eq_self, reduceCtorEq, ↓reduceIte, if_true, if_false, Nat.not_lt_zero, not_true_eq_false, not_false_eq_true, Bool.false_eq_true, Nat.le_refl, Nat.lt_irrefl]
    · have e : tk_end tk_dig t i = i := tk_end_n hb
      rw [e]
      refine ⟨v, ?_, hv⟩
      rw [f_LM_cutAll_86, hc.1, z_cl (by omega), hc2, hD, show tk_dig (t.getD i 0) = false by simpa using hb]
      simp (disch := omega) only [z_le, z_ix, show ¬ t.length ≤ i by omega, z_bs, z_gd, z_b1, z_b0, z_10, z_01, eq_self, reduceCtorEq, ↓reduceIte, if_true, if_false, Nat.not_lt_zero, not_true_eq_false, not_false_eq_true, Bool.false_eq_true, Nat.le_refl, Nat.lt_irrefl]
theorem m_sgc : ∀ c, c < 128 → tk_sc c < 37 → tk_sg.getD (tk_sc c - 29) 0 = c := by decide +kernel
theorem m_cut {t : List Nat} (hw : qt_w t) : ∀ (f i n : Nat) (J : lh_II) (M : lh_LL), t.length - i < f → i ≤ t.length → n ≤ i → tk_i t i = tk_i t (tk_pos t n) → qm_c J t → (∀ m, m < n → tk_laid J M t m ∧ tk_i t (tk_pos t m) < t.length) → ∃ N J' M', f_LM_cutAll_11 f (nI n) (nI i) J M = some (nI N, J', M') ∧ N ≤ t.length ∧ tk_i t (tk_pos t N) = t.length ∧ (∀ m, m < N → tk_laid J' M' t m ∧ tk_i t (tk_pos t m) < t.length) ∧ (∀ o k, o ≠ 71 → o ≠ 72 → J' o k = J o k) ∧ (∀ o k, o ≠ 73 → M' o k = M o k)
  | 0, _, _, _, _, h, _, _, _, _, _ => absurd h (by omega)
  | f + 1, i, n, J, M, hf, hi, hn, he, hc, hlaid => by
    have hl := hw.1
    by_cases hend : t.length ≤ i
    · have e : tk_i t i = i := tk_end_ge _ _ hend
      refine ⟨n, J, M, ?_, by omega, by omega, hlaid, fun _ _ _ _ => rfl, fun _ _ _ => rfl⟩
      rw [f_LM_cutAll_11, hc.1]
      simp (disch := omega) only [z_le, hend, z_bs, z_gd, z_b1, z_b0, z_10, z_01, eq_self, reduceCtorEq, ↓reduceIte, if_true, if_false, Nat.not_lt_zero, not_true_eq_false, not_false_eq_true, Bool.false_eq_true, Nat.le_refl, Nat.lt_irrefl]
    · have hi' : i < t.length := by omega
      have hlt := tk_ch_lt hw hi'
      have hc2 := hc.2 i hi'
      obtain ⟨-, -, t1, t2, t3⟩ := e_isLet _ hlt
      have r2 := (m_rank _ hlt).2
      by_cases hb : tk_bl (t.getD i 0) = true
      · have e : tk_i t i = tk_i t (i + 1) := tk_end_y hi' hb
        obtain ⟨N, J', M', g1, g2⟩ := m_cut hw f (i + 1) n J M (by omega) (by omega) (by omega) (by rw [← e]; exact he) hc hlaid
        refine ⟨N, J', M', ?_, g2⟩
        rw [← g1, f_LM_cutAll_11, hc.1, z_cl (by omega), hc2]
        unfold tk_bl at hb
        simp only [decide_eq_true_eq] at hb
        by_cases h10 : t.getD i 0 = 10
        · simp (disch := omega) only [z_le, z_ix, z_addL, z_eqR, h10, show ¬ t.length ≤ i by omega, z_bs, z_gd, z_b1, z_b0, z_10, z_01, eq_self, reduceCtorEq, ↓reduceIte, if_true, if_false, Nat.not_lt_zero, not_true_eq_false, not_false_eq_true, Bool.false_eq_true, Nat.le_refl, Nat.lt_irrefl]
        · simp (disch := omega) only [z_le, z_ix, z_addL, z_eqR, show t.getD i 0 = 32 by omega, show ¬ (32 : Nat) = 10 by decide, show ¬ t.length ≤ i by omega, z_bs, z_gd, z_b1, z_b0, z_10, z_01, eq_self, reduceCtorEq, ↓reduceIte, if_true, if_false, Nat.not_lt_zero, not_true_eq_false, not_false_eq_true, Bool.false_eq_true, Nat.le_refl, Nat.lt_irrefl]
      · have e : tk_i t i = i := tk_end_n hb
        have hI : tk_i t (tk_pos t n) = i := by omega
        have hp := tk_n_le t (tk_pos_le t n)
        have hp3 := hp.2.2 (by omega)
        have go : ∀ (so : Nat) (x : Int64), so = tk_so (tk_c t (tk_pos t n)) → (tk_c t (tk_pos t n) ≤ 27 → x = lN (tk_cd 37 (tk_w t (tk_pos t n)))) → (tk_c t (tk_pos t n) = 28 → x = lN (tk_v t (tk_pos t n))) → (29 ≤ tk_c t (tk_pos t n) → tk_c t (tk_pos t n) ≤ 36 → x = lN (tk_sg.getD (tk_c t (tk_pos t n) - 29) 0)) → ∃ N J' M', f_LM_cutAll_11 f (nI (n + 1)) (nI (tk_n t (tk_pos t n))) (lh_u2 (lh_u2 J (68 + 4) n (nI i)) (67 + 4) n (nI so)) (lh_v2 M (69 + 4) n x) = some (nI N, J', M') ∧ N ≤ t.length ∧ tk_i t (tk_pos t N) = t.length ∧ (∀ m, m < N → tk_laid J' M' t m ∧ tk_i t (tk_pos t m) < t.length) ∧ (∀ o k, o ≠ 71 → o ≠ 72 → J' o k = J o k) ∧ (∀ o k, o ≠ 73 → M' o k = M o k) := by
          intro so x h1 h2 h3 h4
          obtain ⟨N, J', M', g1, g2, g3, g4, g5, g6⟩ := m_cut hw f (tk_n t (tk_pos t n)) (n + 1) (lh_u2 (lh_u2 J (68 + 4) n (nI i)) (67 + 4) n (nI so)) (lh_v2 M (69 + 4) n x) (by omega) (by omega) (by omega) rfl ⟨by rw [q_u2o (by omega), q_u2o (by omega)]; exact hc.1, fun j hj => by rw [q_u2o (by omega), q_u2o (by omega)]; exact hc.2 j hj⟩ (fun m hm => by
            by_cases hmn : m = n
            · subst hmn
              refine ⟨⟨by rw [q_u2s, h1], by rw [q_u2o (by omega), q_u2s, hI], fun h => ?_, fun h => ?_, fun h h' => ?_⟩, by omega⟩
              · rw [q_v2s]; exact h2 h
              · rw [q_v2s]; exact h3 h
              · rw [q_v2s]; exact h4 h h'
            · obtain ⟨⟨a1, a2, a3, a4, a5⟩, a6⟩ := hlaid m (by omega)
              refine ⟨⟨by rw [q_u2o (by omega), q_u2o (by omega)]; exact a1, by rw [q_u2o (by omega), q_u2o (by omega)]; exact a2, fun h => ?_, fun h => ?_, fun h h' => ?_⟩, a6⟩
              · rw [q_v2o (by omega)]; exact a3 h
              · rw [q_v2o (by omega)]; exact a4 h
              · rw [q_v2o (by omega)]; exact a5 h h')
          exact ⟨N, J', M', g1, g2, g3, g4, fun o k h h' => by rw [g5 o k h h', q_u2o (by omega), q_u2o (by omega)], fun o k h => by rw [g6 o k h, q_v2o (by omega)]⟩
        unfold tk_bl at hb
        simp only [decide_eq_true_eq] at hb
        have hcJ : qm_c (lh_u2 J (68 + 4) n (nI i)) t := ⟨by rw [q_u2o (by omega)]; exact hc.1, fun j hj => by rw [q_u2o (by omega)]; exact hc.2 j hj⟩
        by_cases hle : tk_let (t.getD i 0) = true
        · have hb2 := tk_end_b tk_let t hi
          have en : tk_n t (tk_pos t n) = tk_end tk_let t i := by unfold tk_n; rw [hI, if_neg hend, if_pos hle]
          have ecd : tk_c t (tk_pos t n) = if tk_end tk_let t i - i ≤ 8 then tk_ix (tk_ws t i (tk_end tk_let t i)) else 38 := by unfold tk_c; rw [hI, if_neg hend, if_pos hle]
          have ewd : tk_w t (tk_pos t n) = tk_ws t i (tk_end tk_let t i) := by unfold tk_w; rw [hI]
          have hix := tk_ix_le (tk_ws t i (tk_end tk_let t i))
          obtain ⟨v', m1, m2⟩ := m_let hw hcJ (nI n) (i0 := i) (t.length - i) lh_fuel i 0 (by omega) (by unfold lh_fuel; omega) (Nat.le_refl _) (fun _ => by rw [tk_ws_0]; rfl)
          by_cases h8 : tk_end tk_let t i - i ≤ 8
          · rw [if_pos h8] at ecd
            have hgo := go 1 v' (by unfold tk_so; rw [ecd, if_pos hix]) (fun _ => by rw [ewd]; exact m2 h8) (fun h => by omega) (fun h h' => by omega)
            rw [f_LM_cutAll_11, hc.1, z_cl (by omega), hc2]
            rw [en] at hgo
            simp (disch := omega) only [z_le, z_ix, z_addL, z_eqR, z_cl, z_sub, z_leR, h8, show ¬ t.getD i 0 = 10 by omega, show ¬ t.getD i 0 = 32 by omega, show ¬ t.length ≤ i by omega, t1, hle, m1, z_bs, z_gd, z_b1, z_b0, z_10, z_01, eq_self, reduceCtorEq, ↓reduceIte, if_true, if_false, Nat.not_lt_zero, not_true_eq_false, not_false_eq_true, Bool.false_eq_true, Nat.le_refl, Nat.lt_irrefl]
            exact hgo
          · rw [if_neg h8] at ecd
            have hgo := go 4 v' (by unfold tk_so; rw [ecd]; rfl) (fun h => by omega) (fun h => by omega) (fun h h' => by omega)
            rw [f_LM_cutAll_11, hc.1, z_cl (by omega), hc2]
            rw [en] at hgo
            simp (disch := omega) only [z_le, z_ix, z_addL, z_eqR, z_cl, z_sub, z_leR, h8, show ¬ t.getD i 0 = 10 by omega, show ¬ t.getD i 0 = 32 by omega, show ¬ t.length ≤ i by omega, t1, hle, m1, z_bs, z_gd, z_b1, z_b0, z_10, z_01, eq_self, reduceCtorEq, ↓reduceIte, if_true, if_false, Nat.not_lt_zero, not_true_eq_false, not_false_eq_true, Bool.false_eq_true, Nat.le_refl, Nat.lt_irrefl]
            exact hgo
        · have hle' : tk_let (t.getD i 0) = false := by simpa using hle
          by_cases hdi : tk_dig (t.getD i 0) = true
          · have hb2 := tk_end_b tk_dig t hi
            have en : tk_n t (tk_pos t n) = tk_end tk_dig t i := by unfold tk_n; rw [hI, if_neg hend, if_neg hle, if_pos hdi]
            have ecd : tk_c t (tk_pos t n) = if tk_end tk_dig t i - i ≤ 4 then 28 else 38 := by unfold tk_c; rw [hI, if_neg hend, if_neg hle, if_pos hdi]
            have evd : tk_v t (tk_pos t n) = tk_nm (tk_ws t i (tk_end tk_dig t i)) := by unfold tk_v; rw [hI]
            obtain ⟨v', m1, m2⟩ := m_num hw hcJ (nI n) (i0 := i) (t.length - i) lh_fuel i 0 (by omega) (by unfold lh_fuel; omega) (Nat.le_refl _) (fun _ => by rw [tk_ws_0]; rfl)
            by_cases h8 : tk_end tk_dig t i - i ≤ 4
            · rw [if_pos h8] at ecd
              have hgo := go 2 v' (by unfold tk_so; rw [ecd]; rfl) (fun h => by omega) (fun _ => by rw [evd]; exact m2 h8) (fun h h' => by omega)
              rw [f_LM_cutAll_11, hc.1, z_cl (by omega), hc2]
              rw [en] at hgo
              simp (disch := omega) only [z_le, z_ix, z_addL, z_eqR, z_cl, z_sub, z_leR, h8, show ¬ t.getD i 0 = 10 by omega, show ¬ t.getD i 0 = 32 by omega, show ¬ t.length ≤ i by omega, t1, t2, hle', hdi, m1, z_bs, z_gd, z_b1, z_b0, z_10, z_01, eq_self, reduceCtorEq, ↓reduceIte, if_true, if_false, Nat.not_lt_zero, not_true_eq_false, not_false_eq_true, Bool.false_eq_true, Nat.le_refl, Nat.lt_irrefl]
              exact hgo
            · rw [if_neg h8] at ecd
              have hgo := go 4 v' (by unfold tk_so; rw [ecd]; rfl) (fun h => by omega) (fun h => by omega) (fun h h' => by omega)
              rw [f_LM_cutAll_11, hc.1, z_cl (by omega), hc2]
              rw [en] at hgo
              simp (disch := omega) only [z_le, z_ix, z_addL, z_eqR, z_cl, z_sub, z_leR, h8, show ¬ t.getD i 0 = 10 by omega, show ¬ t.getD i 0 = 32 by omega, show ¬ t.length ≤ i by omega, t1, t2, hle', hdi, m1, z_bs, z_gd, z_b1, z_b0, z_10, z_01, eq_self, reduceCtorEq, ↓reduceIte, if_true, if_false, Nat.not_lt_zero, not_true_eq_false, not_false_eq_true, Bool.false_eq_true, Nat.le_refl, Nat.lt_irrefl]
              exact hgo
          · have hdi' : tk_dig (t.getD i 0) = false := by simpa using hdi
            have en : tk_n t (tk_pos t n) = i + 1 := by unfold tk_n; rw [hI, if_neg hend, if_neg hle, if_neg hdi]
            have ecd : tk_c t (tk_pos t n) = tk_sc (t.getD i 0) := by unfold tk_c; rw [hI, if_neg hend, if_neg hle, if_neg hdi]
            have hsc := tk_sc_b (t.getD i 0)
            by_cases h8 : tk_sc (t.getD i 0) < 37
            · have hgo := go 3 (lN (t.getD i 0)) (by unfold tk_so; rw [ecd, if_neg (by omega), if_neg (by omega), if_neg (by omega), if_neg (by omega)]) (fun h => by omega) (fun h => by omega) (fun h h' => by rw [ecd, m_sgc _ hlt h8])
              rw [f_LM_cutAll_11, hc.1, z_cl (by omega), hc2]
              rw [en] at hgo
              simp (disch := omega) only [z_le, z_ix, z_addL, z_eqR, z_cl, h8, show ¬ t.getD i 0 = 10 by omega, show ¬ t.getD i 0 = 32 by omega, show ¬ t.length ≤ i by omega, t1, t2, t3, r2, hle', hdi', decide_true, z_bs, z_gd, z_b1, z_b0, z_10, z_01, eq_self, reduceCtorEq, ↓reduceIte, if_true, if_false, Nat.not_lt_zero, not_true_eq_false, not_false_eq_true, Bool.false_eq_true, Nat.le_refl, Nat.lt_irrefl]
              exact hgo
            · have hgo := go 4 (lN (t.getD i 0)) (by unfold tk_so; rw [ecd, show tk_sc (t.getD i 0) = 38 by omega]; rfl) (fun h => by omega) (fun h => by omega) (fun h h' => by omega)
              rw [f_LM_cutAll_11, hc.1, z_cl (by omega), hc2]
              rw [en] at hgo
              simp (disch := omega) only [z_le, z_ix, z_addL, z_eqR, z_cl, h8, show ¬ t.getD i 0 = 10 by omega, show ¬ t.getD i 0 = 32 by omega, show ¬ t.length ≤ i by omega, t1, t2, t3, r2, hle', hdi', decide_false, z_bs, z_gd, z_b1, z_b0, z_10, z_01, eq_self, reduceCtorEq, ↓reduceIte, if_true, if_false, Nat.not_lt_zero, not_true_eq_false, not_false_eq_true, Bool.false_eq_true, Nat.le_refl, Nat.lt_irrefl]
              exact hgo
/-- the whole tape cut: token N is the end -/
theorem m_cutAll {t : List Nat} (hw : qt_w t) {J : lh_II} {M : lh_LL} (hc : qt_m J t) : ∃ N J' M', f_LM_cutAll J M = some (J', M') ∧ N ≤ 1000 ∧ tk_i t (tk_pos t N) = t.length ∧ (∀ m, m ≤ N → tk_laid J' M' t m) ∧ (∀ m, m < N → tk_i t (tk_pos t m) < t.length) ∧ J' (65 + 4) 2 = 0 ∧ J' (65 + 4) 7 = 0 ∧ J' (65 + 4) 8 = 0 ∧ (∀ o k, o ≠ 71 → o ≠ 72 → ¬ (o = 69 ∧ (k = 2 ∨ k = 3 ∨ k = 7 ∨ k = 8)) → J' o k = J o k) ∧ (∀ o k, o ≠ 73 → M' o k = M o k) := by
  have hl := hw.1
  obtain ⟨N, J1, M1, g1, g2, g3, g4, g5, g6⟩ := m_cut hw lh_fuel 0 0 (lh_u2 (lh_u2 J (65 + 4) 3 (J (65 + 4) 2)) (65 + 4) 2 0) M (by unfold lh_fuel; omega) (Nat.zero_le _) (Nat.le_refl _) rfl ⟨by rw [q_u2o (by omega), q_u2s]; exact hc.1, fun j hj => by rw [q_u2o (by omega), q_u2o (by omega)]; exact hc.2 j hj⟩ (fun m hm => by omega)
  have g1' : f_LM_cutAll_11 lh_fuel 0 0 (lh_u2 (lh_u2 J (65 + 4) 3 (J (65 + 4) 2)) (65 + 4) 2 0) M = some (nI N, J1, M1) := g1
  have h3 : J1 (65 + 4) 3 = nI t.length := by rw [g5 _ _ (by omega) (by omega), q_u2o (by omega), q_u2s]; exact hc.1
  have ec : tk_c t (tk_pos t N) = 37 := by unfold tk_c; rw [g3, if_pos (Nat.le_refl _)]
  unfold f_LM_cutAll
  rw [g1', z_bs]
  simp (disch := omega) only [z_ix, z_cl, z_gd]
  rw [q_u2o (by omega), h3]
  refine ⟨N, _, M1, rfl, by omega, g3, fun m hm => ?_, fun m hm => (g4 m hm).2, ?_, ?_, q_u2s, fun o k h1 h2 h3 => ?_, g6⟩
  · by_cases e : m = N
    · subst e
      refine ⟨?_, ?_, fun h => by omega, fun h => by omega, fun h h' => by omega⟩
      · rw [q_u2o (by omega), q_u2o (by omega), q_u2o (by omega), q_u2s, ec]; rfl
      · rw [q_u2o (by omega), q_u2o (by omega), q_u2s, g3]
    · obtain ⟨a1, a2, a3⟩ := (g4 m (by omega)).1
      exact ⟨by rw [q_u2o (by omega), q_u2o (by omega), q_u2o (by omega), q_u2o (by omega)]; exact a1, by rw [q_u2o (by omega), q_u2o (by omega), q_u2o (by omega), q_u2o (by omega)]; exact a2, a3⟩
  · rw [q_u2o (by omega), q_u2o (by omega), q_u2o (by omega), q_u2o (by omega), g5 _ _ (by omega) (by omega), q_u2s]
  · rw [q_u2o (by omega), q_u2s]
  · rw [q_u2o (by omega), q_u2o (by omega), q_u2o (by omega), q_u2o (by omega), g5 _ _ (by omega) (by omega), q_u2o (by omega), q_u2o (by omega)]
