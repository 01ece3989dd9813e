/-! a pillar -/
theorem r_wf.pil {R : lh_Rw} (h : r_wf R) {v : Nat} (hv : v < 4096) : r_wf (r_set R 7 v) := by
  obtain ⟨p1, p2, p3, p4, p5, p6, p7, p8, p9, p10, p11, p12, p13⟩ := h
  unfold r_wf
  simp (disch := omega) only [r_set_o, r_set_s, r_set_2]
  exact ⟨by omega, p2, p3, by omega, p5, by omega, by omega, hv, p9, p10, p11, p12, p13⟩
section Q88e
variable {t : List Nat} {a q N n : Nat} {I : lh_II} {L : lh_LL} {J : lh_II} {M : lh_LL} {R : lh_Rw} {ns : List (List Nat)} {O : Nat → Bool}
theorem e_pillar {I1 : lh_II} {L1 : lh_LL} {P : Nat} (hc : r_c t n I1 L1) (h8 : I1 (1 + 4) 8 = 0) (h10 : I1 (a + 4) 10 = nI P) : (¬ tk_nf 0 11 t n = 0 → f_Hr_readPillar a q I1 L1 = some (0, lh_u2 I1 (1 + 4) 8 (nI (tk_nf 0 11 t n + 16 * tk_P t n)), L1)) ∧ (tk_nf 0 11 t n = 0 → P.testBit (tk_V t n) = true → f_Hr_readPillar a q I1 L1 = some (0, lh_u2 I1 (1 + 4) 8 (nI (3 + 16 * tk_P t n)), L1)) ∧ (tk_nf 0 11 t n = 0 → ¬ P.testBit (tk_V t n) = true → f_Hr_readPillar a q I1 L1 = lh_bd (f_Re_advance (lh_u2 I1 (a + 4) 10 (nI (P ||| 2 ^ tk_V t n))) L1) fun r5 => some (1, r5.1, r5.2)) := by
  have ew : f_Re_wantNumber 0 11 I1 = _ := e_want hc h8 (lo := 0) (hi := 11) (by decide) (by decide)
  have er : f_Re_refuse 3 I1 = _ := e_refuse hc h8 3
  refine ⟨fun h0 => ?_, fun h0 hb => ?_, fun h0 hb => ?_⟩
  · rw [if_neg h0] at ew
    unfold f_Hr_readPillar
    simp (disch := omega) only [ew, z_bs, z_gd, z_b1, z_b0, z_10, z_01, eq_self, reduceCtorEq, ↓reduceIte, if_true, if_false, Nat.not_lt_zero, not_true_eq_false, not_false_eq_true, Bool.false_eq_true, Nat.le_refl, Nat.lt_irrefl]
  · rw [if_pos h0] at ew
    obtain ⟨k1, k2, k3⟩ := tk_nf0 h0
    have h6 : I1 (1 + 4) 6 = nI (tk_V t n) := (hc.2.2.2.2.1 k1).1
    have s1 := z_sh1 (j := tk_V t n) (by omega)
    have s2 := z_band0 (x := P) (j := tk_V t n) (by omega)
    unfold f_Hr_readPillar
    simp (disch := omega) only [ew, h6, h10, s1, s2, hb, er, show lh_z 0 = true from rfl, show (true = false) = False by decide, z_bs, z_gd, z_b1, z_b0, z_10, z_01, eq_self, reduceCtorEq, ↓reduceIte, if_true, if_false, Nat.not_lt_zero, not_true_eq_false, not_false_eq_true, Bool.false_eq_true, Nat.le_refl, Nat.lt_irrefl]
  · rw [if_pos h0] at ew
    obtain ⟨k1, k2, k3⟩ := tk_nf0 h0
    have h6 : I1 (1 + 4) 6 = nI (tk_V t n) := (hc.2.2.2.2.1 k1).1
    have s1 := z_sh1 (j := tk_V t n) (by omega)
    have s2 := z_band0 (x := P) (j := tk_V t n) (by omega)
    have hb' : P.testBit (tk_V t n) = false := by cases hh : P.testBit (tk_V t n) with | false => rfl | true => exact absurd hh hb
    unfold f_Hr_readPillar
    simp (disch := omega) only [ew, h6, h10, s1, s2, hb', z_or, z_bs, z_gd, z_b1, z_b0, z_10, z_01, eq_self, reduceCtorEq, ↓reduceIte, if_true, if_false, Nat.not_lt_zero, not_true_eq_false, not_false_eq_true, Bool.false_eq_true, Nat.le_refl, Nat.lt_irrefl]
theorem ln_pillar (hw : qt_w t) (ha : 11 ≤ a ∧ a ≤ 23) (hq : 82 ≤ q) (hc : r_c t n I L) (hm : r_m t N n J M) (h8 : I (1 + 4) 8 = 0) (h8' : J (65 + 4) 8 = 0) (hsc : hs_c a q R ns O I L) (hsm : hs_m R ns O J M) (hsw : hs_w R ns) (hC : tk_C t n = 1) : ln_sp t N n a q I L J M := by
  obtain ⟨hcls, hnc, x, hx, hx4, hxb⟩ := hsc
  obtain ⟨hmdl, hnm, ⟨y, hy, hy16, hyb⟩, hlw⟩ := hsm
  have hl0 := hw.1
  have hP := tk_P_le t (n + 1)
  have h7 : J (65 + 4) 7 = nI n := hm.2.2.2.2.2.1
  have hN := hm.1
  have hn := hm.nx (by omega)
  have hR7 : R.1 7 < 4096 := hsw.1.2.2.2.2.2.2.2.1
  obtain ⟨I1, L1, a1, a2, a3, a4⟩ := e_adv hw hc
  have hI18 : I1 (1 + 4) 8 = 0 := by rw [a3 _ _ (by omega)]; exact h8
  have h10 : I1 (a + 4) 10 = nI (R.1 7) := by rw [a3 _ _ (by omega)]; exact hcls.1.2.1
  have h107 : J (71 + 4) 107 = nI (R.1 7) := hmdl.1.2.2.2.2.2.2.2
  obtain ⟨p1, p2, p3⟩ := e_pillar (q := q) a2 hI18 h10
  have w1 : f_LM_isWord 1 J M = _ := m_isWord hm h8' (w := 1) (by decide)
  rw [decide_eq_true hC] at w1
  have hm1 : r_m t N (n + 1) (lh_u2 J (65 + 4) 7 (nI (n + 1))) M := hm.kp (by omega) q_u2s (fun o k ho => by rw [q_u2o (by omega)])
  have et : f_LM_takeNumber 0 11 (lh_u2 J (65 + 4) 7 (nI (n + 1))) M = _ := m_take hm1 (by rw [q_u2o (by omega)]; exact h8') hw tk_V_le (lo := 0) (hi := 11) (by decide) (by decide)
  by_cases h0 : tk_nf 0 11 t (n + 1) = 0
  · obtain ⟨k1, k2, k3⟩ := tk_nf0 h0
    have hn2 := hm1.nx (by omega)
    rw [if_pos h0] at et
    obtain ⟨J2, hJ2⟩ : ∃ J2, J2 = lh_u2 (lh_u2 J (65 + 4) 7 (nI (n + 1))) (65 + 4) 7 (nI (n + 1 + 1)) := ⟨_, rfl⟩
    rw [← hJ2] at et
    have hJo : ∀ o k, ¬ (o = 69 ∧ k = 7) → J2 o k = J o k := fun o k h => by rw [hJ2, q_u2o (by omega), q_u2o (by omega)]
    have hJ7 : J2 (65 + 4) 7 = nI (n + 1 + 1) := by rw [hJ2, q_u2s]
    have hbit := z_bit1 (x := R.1 7) (j := tk_V t (n + 1)) (by omega) (by omega)
    have s1 := z_sh1 (j := tk_V t (n + 1)) (by omega)
    have hJ28 : J2 (65 + 4) 8 = 0 := by rw [hJo _ _ (by omega)]; exact h8'
    have hJ107 : J2 (71 + 4) 107 = nI (R.1 7) := by rw [hJo _ _ (by omega)]; exact h107
    by_cases hb : (R.1 7).testBit (tk_V t (n + 1)) = true
    · have hm3 : r_m t N (n + 1) (lh_u2 J2 (65 + 4) 7 (nI (n + 1))) M := hm.kp (by omega) q_u2s (fun o k ho => by rw [q_u2o (by omega), hJo _ _ (by omega)])
      have er : f_LM_wrong 3 (lh_u2 J2 (65 + 4) 7 (nI (n + 1))) = _ := m_wrong hm3 (by rw [q_u2o (by omega)]; exact hJ28) 3
      refine ⟨lh_u2 I1 (1 + 4) 8 (nI (3 + 16 * tk_P t (n + 1))), L1, lh_u2 (lh_u2 (lh_u2 J2 (65 + 4) 7 (nI (n + 1))) (65 + 4) 8 (nI (3 + 16 * tk_P t (n + 1)))) (71 + 4) 107 (nI (R.1 7 ||| 2 ^ tk_V t (n + 1))), M, Or.inr ⟨?_, ?_, ⟨3 + 16 * tk_P t (n + 1), tk_fb (by decide) (by decide) (by omega), q_u2s, by rw [q_u2o (by omega), q_u2s]⟩⟩, fun o k h1 h2 h3 => by rw [q_u2o (by omega), a3 _ _ (by omega)], fun o k h1 h2 => a4 _ _ (by omega), fun o k h1 h2 h3 h4 => by rw [q_u2o (by omega), q_u2o (by omega), q_u2o (by omega), hJo _ _ (by omega)], fun _ _ _ => rfl⟩
      · rw [eh_lineP hc hC, a1, z_bs]
        simp only []
        rw [p2 h0 hb, z_bs]
        rfl
      · unfold f_LM_readLine
        rw [w1, z_bs, if_neg (by decide), h7, z_addL, et, z_bs]
        simp (disch := omega) only [hJ28, hJ107, hJ7, hbit, hb, s1, z_subL, Nat.add_sub_cancel, er, q_u2o, z_or, z_bs, z_gd, z_b1, z_b0, z_10, z_01, eq_self, reduceCtorEq, ↓reduceIte, if_true, if_false, Nat.not_lt_zero, not_true_eq_false, not_false_eq_true, Bool.false_eq_true, Nat.le_refl, Nat.lt_irrefl]
    · have hc2 : r_c t (n + 1) (lh_u2 I1 (a + 4) 10 (nI (R.1 7 ||| 2 ^ tk_V t (n + 1)))) L1 := a2.kp (fun o k h => by rw [q_u2o (by omega)])
      obtain ⟨I2, L2, b1, b2, b3, b4⟩ := e_adv hw hc2
      have hnew : R.1 7 ||| 2 ^ tk_V t (n + 1) < 4096 := Nat.or_lt_two_pow (n := 12) hR7 (Nat.pow_lt_pow_right (by decide) (by omega))
      have hm2 : r_m t N (n + 1 + 1) (lh_u2 J2 (71 + 4) 107 (nI (R.1 7 ||| 2 ^ tk_V t (n + 1)))) M := hm.kp (by omega) (by rw [q_u2o (by omega)]; exact hJ7) (fun o k ho => by rw [q_u2o (by omega), hJo _ _ (by omega)])
      have hJf : ∀ o k, ¬ (o = 69 ∧ k = 7) → ¬ (o = 75 ∧ k = 107) → lh_u2 J2 (71 + 4) 107 (nI (R.1 7 ||| 2 ^ tk_V t (n + 1))) o k = J o k := fun o k h1 h2 => by rw [q_u2o (by omega), hJo _ _ h1]
      refine ⟨I2, L2, lh_u2 J2 (71 + 4) 107 (nI (R.1 7 ||| 2 ^ tk_V t (n + 1))), M, Or.inl ⟨?_, ?_, ?_⟩, fun o k h1 h2 h3 => by rw [b3 _ _ (by omega), q_u2o (by omega), a3 _ _ (by omega)], fun o k h1 h2 => by rw [b4 _ _ (by omega), a4 _ _ (by omega)], fun o k h1 h2 h3 h4 => hJf _ _ (by omega) (by omega), fun _ _ _ => rfl⟩
      · rw [eh_lineP hc hC, a1, z_bs]
        simp only []
        rw [p3 h0 hb, b1, z_bs, z_bs]
        rfl
      · unfold f_LM_readLine
        rw [w1, z_bs, if_neg (by decide), h7, z_addL, et, z_bs]
        simp (disch := omega) only [hJ28, hJ107, hbit, hb, s1, z_or, z_bs, z_gd, z_b1, z_b0, z_10, z_01, eq_self, reduceCtorEq, ↓reduceIte, if_true, if_false, Nat.not_lt_zero, not_true_eq_false, not_false_eq_true, Bool.false_eq_true, Nat.le_refl, Nat.lt_irrefl]
      · refine ⟨by rw [b3 _ _ (by omega), q_u2o (by omega)]; exact hI18, by rw [hJf _ _ (by omega) (by omega)]; exact h8', n + 1 + 1, r_set R 7 (R.1 7 ||| 2 ^ tk_V t (n + 1)), ns, O, by omega, b2, hm2, ⟨?_, ?_, x, hx, ?_, hxb⟩, ⟨?_, ?_, ⟨y, hy, ?_, hyb⟩, ?_⟩, hsw.1.pil hnew, hsw.2.1, ?_⟩
        · exact hcls.set (fc := 10) (fr := 7) (by omega) (fun o k g1 g2 g3 => by rw [b3 _ _ (by omega), q_u2o (by omega), a3 _ _ (by omega)]) (by rw [b3 _ _ (by omega), q_u2s])
        · exact hnc.kp (by rw [b3 _ _ (by omega), q_u2o (by omega), a3 _ _ (by omega)]) (fun k => by rw [b4 _ _ (by omega), a4 _ _ (by omega)])
        · rw [b3 _ _ (by omega), q_u2o (by omega), a3 _ _ (by omega)]; exact hx4
        · exact hmdl.set (fm := 7) (fr := 7) hsw.1 (by omega) (fun k g1 g2 => hJf _ _ (by omega) (by omega)) q_u2s
        · exact hnm.kp (hJf _ _ (by omega) (by omega))
        · rw [hJf _ _ (by omega) (by omega)]; exact hy16
        · exact hl_m.kp hlw rfl (hJf _ _ (by omega) (by omega)) (hJf _ _ (by omega) (by omega)) (fun k _ => hJf _ _ (by omega) (by omega)) (fun k _ => hJf _ _ (by omega) (by omega))
        · rw [r_set_o (by decide), r_set_o (by decide)]
          exact hsw.2.2
  · rw [if_neg h0] at et
    have h4 := tk_nf4 0 11 t (n + 1)
    have hne := tk_ne (x := tk_nf 0 11 t (n + 1)) (p := tk_P t (n + 1)) (by omega) (by omega) (by omega)
    obtain ⟨J2, hJ2⟩ : ∃ J2, J2 = lh_u2 (lh_u2 J (65 + 4) 7 (nI (n + 1))) (65 + 4) 8 (nI (tk_nf 0 11 t (n + 1) + 16 * tk_P t (n + 1))) := ⟨_, rfl⟩
    rw [← hJ2] at et
    have hJ28 : J2 (65 + 4) 8 = nI (tk_nf 0 11 t (n + 1) + 16 * tk_P t (n + 1)) := by rw [hJ2, q_u2s]
    refine ⟨lh_u2 I1 (1 + 4) 8 (nI (tk_nf 0 11 t (n + 1) + 16 * tk_P t (n + 1))), L1, lh_u2 J2 (71 + 4) 107 (J2 (71 + 4) 107 ||| (1 : Int32) <<< ((0 : Int32) &&& 31)), M, Or.inr ⟨?_, ?_, ⟨tk_nf 0 11 t (n + 1) + 16 * tk_P t (n + 1), tk_fb (by omega) (by omega) (by omega), q_u2s, by rw [q_u2o (by omega)]; exact hJ28⟩⟩, fun o k h1 h2 h3 => by rw [q_u2o (by omega), a3 _ _ (by omega)], fun o k h1 h2 => a4 _ _ (by omega), fun o k h1 h2 h3 h4 => by rw [q_u2o (by omega), hJ2, q_u2o (by omega), q_u2o (by omega)], fun _ _ _ => rfl⟩
    · rw [eh_lineP hc hC, a1, z_bs]
      simp only []
      rw [p1 h0, z_bs]
      rfl
    · unfold f_LM_readLine
      rw [w1, z_bs, if_neg (by decide), h7, z_addL, et, z_bs]
      simp only []
      rw [if_neg (by rw [hJ28]; exact hne)]
end Q88e
