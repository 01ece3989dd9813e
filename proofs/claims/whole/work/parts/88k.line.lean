/-! a visitor; any line; all lines -/
theorem lh_bd_eta (x : Option (lh_II × lh_LL)) : lh_bd x (fun r => some (r.1, r.2)) = x := by cases x <;> rfl
section Q88l
variable {t : List Nat} {a q N n : Nat} {I : lh_II} {L : lh_LL} {J : lh_II} {M : lh_LL} {R : lh_Rw} {ns : List (List Nat)} {O : Nat → Bool}
theorem m_lineV (hm : r_m t N n J M) (h8' : J (65 + 4) 8 = 0) (hC : tk_C t n = 2) {v : Nat} (hv : v ≤ 6) (h101 : J (71 + 4) 101 = nI v) : f_LM_readLine J M = lh_bd (f_LM_readName (nI 1) (nI 6) J M) fun r1 => m_vr1 v r1.1 r1.2 := by
  have w1 : f_LM_isWord 1 J M = _ := m_isWord hm h8' (w := 1) (by decide)
  have w2 : f_LM_isWord 2 J M = _ := m_isWord hm h8' (w := 2) (by decide)
  rw [hC, decide_eq_false (by omega)] at w1
  rw [decide_eq_true hC] at w2
  have hA : (109 : Int32) + 11 * nI v = nI (109 + 11 * v) := by rw [z_mulR, z_addR]
  have hA1 : nI (109 + 11 * v) + 1 = nI (110 + 11 * v) := by rw [z_addL]; congr 1; show 109 + 11 * v + 1 = _; omega
  have hA2 : nI (109 + 11 * v) + 2 = nI (111 + 11 * v) := by rw [z_addL]; congr 1; show 109 + 11 * v + 2 = _; omega
  have hA3 : nI (109 + 11 * v) + 3 = nI (112 + 11 * v) := by rw [z_addL]; congr 1; show 109 + 11 * v + 3 = _; omega
  have i0 : lh_ix (nI (109 + 11 * v)) 200 = true := z_ix (by omega) (by decide)
  have i1 : lh_ix (nI (110 + 11 * v)) 200 = true := z_ix (by omega) (by decide)
  have i2 : lh_ix (nI (111 + 11 * v)) 200 = true := z_ix (by omega) (by decide)
  have c0 : (nI (109 + 11 * v)).toNatClampNeg = 109 + 11 * v := z_cl (by omega)
  have c1 : (nI (110 + 11 * v)).toNatClampNeg = 110 + 11 * v := z_cl (by omega)
  have c2 : (nI (111 + 11 * v)).toNatClampNeg = 111 + 11 * v := z_cl (by omega)
  unfold f_LM_readLine
  rw [w1, z_bs, if_pos (by decide), w2, z_bs, if_neg (by decide), lh_bd_eta]
  unfold f_LM_readVisitor
  rw [h101, hA, hA1, hA2, hA3, i0, i1, i2, c0, c1, c2]
  rfl
theorem ln_visitor (hw : qt_w t) (ha : 11 ≤ a ∧ a ≤ 23) (hq : 82 ≤ q) (hc : r_c t n I L) (hm : r_m t N n J M) (h8 : I (1 + 4) 8 = 0) (h8' : J (65 + 4) 8 = 0) (hsc : hs_c a q R ns O I L) (hsm : hs_m R ns O J M) (hsw : hs_w R ns) (hC : tk_C t n = 2) : ln_sp t N n a q I L J M := by
  obtain ⟨hcls, hnc, x, hx, hx4, hxb⟩ := hsc
  obtain ⟨hmdl, hnm, ⟨y, hy, hy16, hyb⟩, hlw⟩ := hsm
  have hl0 := hw.1
  have hP := tk_P_le t n
  have hR1 : R.1 1 ≤ 6 := hsw.1.2.1
  have hR2 : R.1 2 ≤ 4 := hsw.1.2.2.1
  have h11 : I (a + 4) 11 = nI (R.1 1) := hcls.1.2.2.1
  have h101 : J (71 + 4) (100 + 1) = nI (R.1 1) := hmdl.1.2.1
  have hro := m_lineV hm h8' hC hR1 h101
  by_cases hk : R.1 1 < 6
  · obtain ⟨I1, L1, a1, a2, a3, a4⟩ := e_adv hw hc
    have hI8 : I1 (1 + 4) 8 = 0 := by rw [a3 _ _ (by omega)]; exact h8
    have erm : f_Hr_takeIfRoom a q (nI (R.1 1)) 6 I L = _ := e_room1 (m := 6) hk (by decide) a1
    have hlen : ns.length < 10 := by have := hsw.2.2; omega
    obtain ⟨I2, L2, J2, M2, hh, b1, b2, b3, b4⟩ := ln_name (a := a) (x := 1) (lim := 6) (N := N) hw hq (by decide) (by decide) a2 hm (by omega) hI8 h8' (hnc.kp (a3 _ _ (by omega)) (fun k => a4 _ _ (by omega))) hnm hsw.2.1 hlen h101 hk
    have hcl1 : f_Hr_readLine a q I L = lh_bd (f_Hr_readVisitor a q I1 L1) fun r18 => if r18.1 = 0 then some (0, r18.2.1, r18.2.2) else some (1, r18.2.1, r18.2.2) := by
      rw [eh_lineV hc hC, h11, erm, z_bs]
      simp only []
      rw [if_neg (by decide)]
    have h11' : I1 (a + 4) 11 = nI (R.1 1) := by rw [a3 _ _ (by omega)]; exact h11
    have hcl2 : f_Hr_readVisitor a q I1 L1 = lh_bd (f_Hr_readName a q I1 L1) fun r2 => if r2.1 = 0 then some (0, r2.2.1, r2.2.2) else e_vr1 a q (R.1 1) r2.2.1 r2.2.2 := by
      unfold f_Hr_readVisitor
      rw [h11', if_neg (by rw [z_leL 6 (by decide) (by omega)]; show ¬ 6 ≤ R.1 1; omega), z_ix hk (by decide), z_cl (by omega), z_mulL]
      rfl
    rcases hh with ⟨g1, g2, F, gF, g3, g4⟩ | ⟨g1, g2, g3, g4, g5, g6, ⟨w, g7, g8, g9⟩, g10⟩
    · have hne := fl_ne gF
      refine ⟨I2, L2, J2, M2, Or.inr ⟨?_, ?_, F, gF, g3, g4⟩, fun o k h1 h2 h3 => by rw [b1 _ _ h1 (by omega), a3 _ _ (by omega)], fun o k h1 h2 => by rw [b2 _ _ h1 h2, a4 _ _ h1], fun o k h1 h2 h3 h4 => b3 _ _ (by omega) (by omega), b4⟩
      · rw [hcl1, hcl2, g1, z_bs]
        simp only []
        rw [if_pos trivial, z_bs]
        rfl
      · rw [hro, g2, z_bs]
        exact m_vr1' (J := J2) (R.1 1) M2 (by rw [g4]; exact hne.1) (by rw [g4]; exact hne.2)
    · obtain ⟨I3, L3, J3, hh, c1, c2, c3⟩ := ln_v1 (q := q) hw ha hk g5 g6 g3 g4 (by rw [b1 _ _ (by omega) (by omega)]; exact h11')
      have hce : f_Hr_readLine a q I L = lh_bd (e_vr1 a q (R.1 1) I2 L2) fun r18 => if r18.1 = 0 then some (0, r18.2.1, r18.2.2) else some (1, r18.2.1, r18.2.2) := by
        rw [hcl1, hcl2, g1, z_bs]
        simp only []
        rw [if_neg (by decide)]
      have hme : f_LM_readLine J M = m_vr1 (R.1 1) J2 M2 := by rw [hro, g2, z_bs]
      have hI3 : ∀ o k, ¬ (o = 5 ∧ 3 ≤ k ∧ k ≤ 8) → ¬ (o = q + 4 ∧ k = 3) → ¬ ((o = a + 8 ∨ o = a + 9 ∨ o = a + 10) ∧ k = R.1 1) → ¬ (o = a + 4 ∧ k = 11) → ¬ (o = a + 11 ∧ R.1 1 * 8 ≤ k ∧ k < R.1 1 * 8 + 8) → I3 o k = I o k := fun o k h1 h2 h3 h4 h5 => by rw [c1 _ _ h1 h3 h4 h5, b1 _ _ h1 h2, a3 _ _ (by omega)]
      have hJ3 : ∀ o k, ¬ (o = 69 ∧ (k = 7 ∨ k = 8 ∨ k = 15)) → ¬ (o = 75 ∧ k = 101) → ¬ (o = 75 ∧ 109 + 11 * R.1 1 ≤ k ∧ k < 120 + 11 * R.1 1) → J3 o k = J o k := fun o k h1 h2 h3 => by rw [c3 _ _ (by omega) h3, b3 _ _ h1 (by omega)]
      refine ⟨I3, L3, J3, M2, ?_, fun o k h1 h2 h3 => hI3 _ _ h1 (by omega) (by omega) (by omega) (by omega), fun o k h1 h2 => by rw [c2 _ _ h1, b2 _ _ h1 h2, a4 _ _ h1], fun o k h1 h2 h3 h4 => hJ3 _ _ (by omega) (by omega) (by omega), b4⟩
      rcases hh with ⟨d1, d2, d3, d4, ⟨n', d5, d6, d7⟩, ⟨m, cs, d8, d9, d10, d11⟩, d12, ⟨kd, d13, d14, d15⟩, ⟨dy, d16, d17, d18⟩⟩ | ⟨d1, d2, d3⟩
      · refine Or.inl ⟨?_, hme.trans d2, d3, d4, n', r_vis R kd dy m cs, ns ++ [w], O, by omega, d6, d7, ⟨?_, ?_, x, hx, ?_, hxb⟩, ⟨?_, ?_, ⟨y, hy, ?_, hyb⟩, ?_⟩, hsw.1.vis hk d13 d16 d8 (fun i hi => (d9 i hi).1), g7, ?_⟩
        · rw [hce, d1, z_bs]
          rfl
        · exact hcls.vis hk (fun o k k1 k2 k3 k4 k5 => hI3 _ _ (by omega) (by omega) k4 k3 (by omega)) (fun k hk' => hI3 _ _ (by omega) (by omega) (by omega) (by omega) (by omega)) d12 d14 d17 d10 d8.2 hsw.1 (fun i hi => (d9 i hi).2.1)
        · exact g8.kp (c1 _ _ (by omega) (by omega) (by omega) (by omega)) (fun k => c2 _ _ (by omega))
        · rw [hI3 _ _ (by omega) (by omega) (by omega) (by omega) (by omega)]; exact hx4
        · exact hmdl.vis hsw.1 hk (fun k k1 k2 k3 => hJ3 _ _ (by omega) (by omega) (by omega)) (by rw [c3 _ _ (by omega) (by omega)]; exact g10) d15 d18 d11 (fun i hi => (d9 i hi).2.2)
        · exact g9.kp (c3 _ _ (by omega) (by omega))
        · rw [hJ3 _ _ (by omega) (by omega) (by omega)]; exact hy16
        · exact hl_m.kp hlw rfl (hJ3 _ _ (by omega) (by omega) (by omega)) (hJ3 _ _ (by omega) (by omega) (by omega)) (fun k _ => hJ3 _ _ (by omega) (by omega) (by omega)) (fun k _ => hJ3 _ _ (by omega) (by omega) (by omega))
        · rw [r_vis_1, r_vis_o (by omega) (by omega) (by omega) (by omega), List.length_append]
          have := hsw.2.2
          show ns.length + 1 = _
          omega
      · refine Or.inr ⟨?_, hme.trans d2, d3⟩
        rw [hce, d1, z_bs]
        rfl
  · have hk6 : R.1 1 = 6 := by omega
    have erm : f_Hr_takeIfRoom a q (nI (R.1 1)) 6 I L = _ := e_room5 (m := 6) hc h8 hk (by omega) (by decide)
    have ern := m_rname5 hm h8' (x := 1) (lim := 6) (by decide) (by decide) (by rw [h101, hk6])
    have hne := tk_ne (x := 5) (p := tk_P t n) (by decide) (by decide) (by omega)
    have hng := tk_ng (x := 5) (p := tk_P t n) (by decide) (by decide) (by omega)
    refine ⟨lh_u2 I (1 + 4) 8 (nI (5 + 16 * tk_P t n)), L, lh_u2 J (65 + 4) 8 (nI (5 + 16 * tk_P t n)), M, Or.inr ⟨?_, ?_, ⟨5 + 16 * tk_P t n, tk_fb (by decide) (by decide) (by omega), q_u2s, q_u2s⟩⟩, h_cf_8 a q I _, fun _ _ _ _ => rfl, h_mf_8 J _, fun _ _ _ => rfl⟩
    · rw [eh_lineV hc hC, h11, erm, z_bs]
      simp only []
      rw [if_pos trivial]
    · rw [hro, ern, z_bs]
      exact m_vr1' (J := lh_u2 J (65 + 4) 8 (nI (5 + 16 * tk_P t n))) (R.1 1) M (by rw [q_u2s]; exact hne) (by rw [q_u2s]; exact hng)
theorem ln_line (hw : qt_w t) (ha : 11 ≤ a ∧ a ≤ 23) (hq : 82 ≤ q) (hc : r_c t n I L) (hm : r_m t N n J M) (h8 : I (1 + 4) 8 = 0) (h8' : J (65 + 4) 8 = 0) (hsc : hs_c a q R ns O I L) (hsm : hs_m R ns O J M) (hsw : hs_w R ns) : ln_sp t N n a q I L J M := by
  by_cases h0 : tk_C t n = 0
  · exact ln_meas hw ha hq hc hm h8 h8' hsc hsm hsw (Or.inl ⟨h0, rfl, rfl, rfl, rfl, rfl, rfl⟩)
  by_cases h1 : tk_C t n = 1
  · exact ln_pillar hw ha hq hc hm h8 h8' hsc hsm hsw h1
  by_cases h2 : tk_C t n = 2
  · exact ln_visitor hw ha hq hc hm h8 h8' hsc hsm hsw h2
  by_cases h5 : tk_C t n = 5
  · exact ln_vase hw ha hq hc hm h8 h8' hsc hsm hsw h5
  by_cases h7 : tk_C t n = 7
  · exact ln_meas hw ha hq hc hm h8 h8' hsc hsm hsw (Or.inr (Or.inl ⟨h7, rfl, rfl, rfl, rfl, rfl, rfl⟩))
  by_cases h8'' : tk_C t n = 8
  · exact ln_meas hw ha hq hc hm h8 h8' hsc hsm hsw (Or.inr (Or.inr (Or.inl ⟨h8'', rfl, rfl, rfl, rfl, rfl, rfl⟩)))
  by_cases h9 : tk_C t n = 9
  · exact ln_meas hw ha hq hc hm h8 h8' hsc hsm hsw (Or.inr (Or.inr (Or.inr ⟨h9, rfl, rfl, rfl, rfl, rfl, rfl⟩)))
  by_cases h10 : tk_C t n = 10
  · exact ln_fellow hw ha hq hc hm h8 h8' hsc hsm hsw h10
  by_cases h11 : tk_C t n = 11
  · exact ln_law hw ha hq hc hm h8 h8' hsc hsm hsw h11
  exact ln_none hw hc hm h8 h8' (by omega)
theorem hl_stop {f v : Nat} (L : lh_LL) (hv : v < 2147483648) (h : I (1 + 4) 4 = 37 ∨ ¬ I (1 + 4) 8 = 0) : f_Hr_readLines_8 a q (f + 1) (nI v) I L = some (I, L) := by
  have hend : f_Re_isAtEnd I = some 1 := by
    unfold f_Re_isAtEnd
    by_cases h1 : I (1 + 4) 4 = 37
    · rw [if_pos h1]
    · rw [if_neg h1, if_neg (h.resolve_left h1)]
  rw [f_Hr_readLines_8]
  by_cases h1 : 1000 < v
  · simp (disch := omega) only [z_ltL, h1, z_bs, z_gd, z_b1, z_b0, z_10, z_01, eq_self, reduceCtorEq, ↓reduceIte, if_true, if_false, Nat.not_lt_zero, not_true_eq_false, not_false_eq_true, Bool.false_eq_true, Nat.le_refl, Nat.lt_irrefl]
  · simp (disch := omega) only [z_ltL, h1, hend, z_bs, z_gd, z_b1, z_b0, z_10, z_01, eq_self, reduceCtorEq, ↓reduceIte, if_true, if_false, Nat.not_lt_zero, not_true_eq_false, not_false_eq_true, Bool.false_eq_true, Nat.le_refl, Nat.lt_irrefl]
theorem hl_end {f : Nat} (hm : r_m t N n J M) (h8' : J (65 + 4) 8 = 0) (hC : tk_C t n = 37) : f_LM_hall_17 (f + 1) J M = some (J, M) := by
  have hN : N ≤ 1000 := hm.1
  have hnN : n ≤ N := hm.2.1
  have q1 : J (67 + 4) n = nI (tk_so (tk_C t n)) := (hm.2.2.2.1 n hnN).1
  have h7 : J (65 + 4) 7 = nI n := hm.2.2.2.2.2.1
  rw [f_LM_hall_17]
  simp (disch := omega) only [h8', h7, z_ix, z_cl, q1, hC, show (nI (tk_so 37) = 0) = True by decide, z_bs, z_gd, z_b1, z_b0, z_10, z_01, eq_self, reduceCtorEq, ↓reduceIte, if_true, if_false, Nat.not_lt_zero, not_true_eq_false, not_false_eq_true, Bool.false_eq_true, Nat.le_refl, Nat.lt_irrefl]
theorem hl_fault {f : Nat} (h8 : ¬ J (65 + 4) 8 = 0) : f_LM_hall_17 (f + 1) J M = some (J, M) := by
  rw [f_LM_hall_17, if_neg h8]
theorem hl_step (hm : r_m t N n J M) (h8' : J (65 + 4) 8 = 0) (hC : tk_C t n ≠ 37) (f : Nat) : f_LM_hall_17 (f + 1) J M = lh_bd (f_LM_readLine J M) fun r8 => lh_bd (f_LM_takeSign (59 : Int32) r8.1 r8.2) fun r10 => f_LM_hall_17 f r10 r8.2 := by
  have hN : N ≤ 1000 := hm.1
  have hnN : n ≤ N := hm.2.1
  have q1 : J (67 + 4) n = nI (tk_so (tk_C t n)) := (hm.2.2.2.1 n hnN).1
  have h7 : J (65 + 4) 7 = nI n := hm.2.2.2.2.2.1
  have so0 := tk_so_0 (tk_C_b t n).1
  rw [f_LM_hall_17, if_pos h8', h7, z_ix (by omega) (by decide), z_gd, z_cl (by omega), q1, if_neg (by rw [so0]; exact hC)]
theorem hl_cstep (hc : r_c t n I L) (h8 : I (1 + 4) 8 = 0) (hC : tk_C t n ≠ 37) {v : Nat} (hv : v ≤ 1000) (f : Nat) : f_Hr_readLines_8 a q (f + 1) (nI v) I L = lh_bd (f_Hr_readLine a q I L) fun r9 => if r9.1 = 0 then f_Hr_readLines_8 a q f (nI (v + 1)) r9.2.1 r9.2.2 else lh_bd (f_Re_take (36 : Int32) r9.2.1 r9.2.2) fun r12 => f_Hr_readLines_8 a q f (nI (v + 1)) r12.2.1 r12.2.2 := by
  have hb := (tk_C_b t n).1
  have h4 : I (1 + 4) 4 = nI (tk_C t n) := hc.2.2.1
  have hend : f_Re_isAtEnd I = some 0 := by
    unfold f_Re_isAtEnd
    rw [h4, if_neg (by rw [z_eqR 37 (by decide) (by omega)]; exact hC), if_pos h8]
  rw [f_Hr_readLines_8, if_neg (by rw [z_ltL 1000 (by decide) (by omega)]; show ¬ 1000 < v; omega), hend, z_bs, if_pos rfl, z_addL]
theorem hl_loop (hw : qt_w t) (ha : 11 ≤ a ∧ a ≤ 23) (hq : 82 ≤ q) : ∀ (d f1 f2 v n : Nat) (R : lh_Rw) (ns : List (List Nat)) (O : Nat → Bool) (I : lh_II) (L : lh_LL) (J : lh_II) (M : lh_LL), N ≤ n + d → d + 1 < f1 → d + 1 < f2 → v ≤ n → r_c t n I L → r_m t N n J M → I (1 + 4) 8 = 0 → J (65 + 4) 8 = 0 → hs_c a q R ns O I L → hs_m R ns O J M → hs_w R ns → ∃ F I' L' J' M', f_Hr_readLines_8 a q f1 (nI v) I L = some (I', L') ∧ f_LM_hall_17 f2 J M = some (J', M') ∧ I' (1 + 4) 8 = nI F ∧ J' (65 + 4) 8 = nI F ∧ F ≤ 20000 ∧ (F = 0 → ∃ R ns O, hs_c a q R ns O I' L' ∧ hs_m R ns O J' M' ∧ hs_w R ns) ∧ h_cf a q I I' ∧ h_lf q L L' ∧ h_mf J J' ∧ h_nf M M' := by
  intro d
  induction d with
  | zero =>
    intro f1 f2 v n R ns O I L J M hd h1 h2 hv hc hm h8 h8' hsc hsm hsw
    obtain ⟨g1, rfl⟩ : ∃ g, f1 = g + 1 := ⟨f1 - 1, by omega⟩
    obtain ⟨g2, rfl⟩ : ∃ g, f2 = g + 1 := ⟨f2 - 1, by omega⟩
    have hN : N ≤ 1000 := hm.1
    have hnN : n ≤ N := hm.2.1
    have e : n = N := by omega
    have hC : tk_C t n = 37 := (tk_C_b t n).2.mpr (by rw [e]; exact hm.2.2.1)
    exact ⟨0, I, L, J, M, hl_stop L (by omega) (Or.inl (by rw [hc.2.2.1, hC]; rfl)), hl_end hm h8' hC, h8, h8', by decide, fun _ => ⟨R, ns, O, hsc, hsm, hsw⟩, fun _ _ _ _ _ => rfl, fun _ _ _ _ => rfl, fun _ _ _ _ _ _ => rfl, fun _ _ _ => rfl⟩
  | succ d ih =>
    intro f1 f2 v n R ns O I L J M hd h1 h2 hv hc hm h8 h8' hsc hsm hsw
    obtain ⟨g1, rfl⟩ : ∃ g, f1 = g + 1 := ⟨f1 - 1, by omega⟩
    obtain ⟨g2, rfl⟩ : ∃ g, f2 = g + 1 := ⟨f2 - 1, by omega⟩
    have hN : N ≤ 1000 := hm.1
    have hnN : n ≤ N := hm.2.1
    have hl0 := hw.1
    by_cases hC : tk_C t n = 37
    · exact ⟨0, I, L, J, M, hl_stop L (by omega) (Or.inl (by rw [hc.2.2.1, hC]; rfl)), hl_end hm h8' hC, h8, h8', by decide, fun _ => ⟨R, ns, O, hsc, hsm, hsw⟩, fun _ _ _ _ _ => rfl, fun _ _ _ _ => rfl, fun _ _ _ _ _ _ => rfl, fun _ _ _ => rfl⟩
    · obtain ⟨I1, L1, J1, M1, hh, c1, c2, c3, c4⟩ := ln_line hw ha hq hc hm h8 h8' hsc hsm hsw
      obtain ⟨g3, rfl⟩ : ∃ g, g1 = g + 1 := ⟨g1 - 1, by omega⟩
      obtain ⟨g4, rfl⟩ : ∃ g, g2 = g + 1 := ⟨g2 - 1, by omega⟩
      rcases hh with ⟨e1, e2, e3, e4, n', R', ns', O', e5, e6, e7, e8, e9, e10⟩ | ⟨e1, e2, F, gF, e3, e4⟩
      · obtain ⟨t1, t0⟩ := e_take hw e6 e3 (x := 36) (by decide)
        have es : f_LM_takeSign 59 J1 M1 = _ := m_tsign e7 e4 (k := 7) (by decide)
        have hP := tk_P_le t n'
        by_cases h36 : tk_C t n' = 36
        · obtain ⟨I2, L2, k1, k2, k3, k4⟩ := t1 h36
          have k1' : f_Re_take 36 I1 L1 = some (1, I2, L2) := k1
          rw [if_pos (show tk_C t n' = 29 + 7 from h36)] at es
          have hnx := e7.nx (by omega)
          have hm2 : r_m t N (n' + 1) (lh_u2 J1 (65 + 4) 7 (nI (n' + 1))) M1 := e7.kp (by omega) q_u2s (fun o k ho => by rw [q_u2o (by omega)])
          obtain ⟨F, I', L', J', M', x1, x2, x3, x4, x5, x6, x7, x8, x9, x10⟩ := ih (g3 + 1) (g4 + 1) (v + 1) (n' + 1) R' ns' O' I2 L2 (lh_u2 J1 (65 + 4) 7 (nI (n' + 1))) M1 (by omega) (by omega) (by omega) (by omega) k2 hm2 (by rw [k3 _ _ (by omega)]; exact e3) (by rw [q_u2o (by omega)]; exact e4) ⟨e8.1.kp (fun o k h1 h2 => k3 _ _ (by omega)), e8.2.1.kp (k3 _ _ (by omega)) (fun k => k4 _ _ (by omega)), by obtain ⟨x, y1, y2, y3⟩ := e8.2.2; exact ⟨x, y1, by rw [k3 _ _ (by omega)]; exact y2, y3⟩⟩ ⟨by
            obtain ⟨m1, m2, m3, m4⟩ := e9.1
            obtain ⟨p1, p2, p3, p4, p5, p6, p7, p8⟩ := m1
            refine ⟨⟨by rw [q_u2o (by omega)]; exact p1, by rw [q_u2o (by omega)]; exact p2, by rw [q_u2o (by omega)]; exact p3, by rw [q_u2o (by omega)]; exact p4, by rw [q_u2o (by omega)]; exact p5, by rw [q_u2o (by omega)]; exact p6, by rw [q_u2o (by omega)]; exact p7, by rw [q_u2o (by omega)]; exact p8⟩, fun v hv => ?_, fun k hk => by rw [q_u2o (by omega)]; exact m3 k hk, fun k hk => by rw [q_u2o (by omega)]; exact m4 k hk⟩
            obtain ⟨u1, u2, u3, u4⟩ := m2 v hv
            exact ⟨by rw [q_u2o (by omega)]; exact u1, by rw [q_u2o (by omega)]; exact u2, by rw [q_u2o (by omega)]; exact u3, fun t ht => by rw [q_u2o (by omega)]; exact u4 t ht⟩, e9.2.1.kp (q_u2o (by omega)), by obtain ⟨x, y1, y2, y3⟩ := e9.2.2.1; exact ⟨x, y1, by rw [q_u2o (by omega)]; exact y2, y3⟩, hl_m.kp e9.2.2.2 rfl (q_u2o (by omega)) (q_u2o (by omega)) (fun k _ => q_u2o (by omega)) (fun k _ => q_u2o (by omega))⟩ e10
          refine ⟨F, I', L', J', M', ?_, ?_, x3, x4, x5, x6, fun o k h1 h2 h3 => by rw [x7 _ _ h1 h2 h3, k3 _ _ (by omega), c1 _ _ h1 h2 h3], fun o k h1 h2 => by rw [x8 _ _ h1 h2, k4 _ _ h1, c2 _ _ h1 h2], fun o k h1 h2 h3 h4 => by rw [x9 _ _ h1 h2 h3 h4, q_u2o (by omega), c3 _ _ h1 h2 h3 h4], fun o k h => by rw [x10 _ _ h, c4 _ _ h]⟩
          · rw [hl_cstep hc h8 hC (by omega), e1, z_bs]
            simp only []
            rw [if_neg (by decide), k1', z_bs, x1]
          · rw [hl_step hm h8' hC, e2, z_bs]
            simp only []
            rw [es, z_bs, x2]
        · have k1' : f_Re_take 36 I1 L1 = _ := t0 h36
          rw [if_neg (show ¬ tk_C t n' = 29 + 7 from h36)] at es
          have hne := tk_ne (x := 1) (p := tk_P t n') (by decide) (by decide) (by omega)
          refine ⟨1 + 16 * tk_P t n', lh_u2 I1 (1 + 4) 8 (nI (1 + 16 * tk_P t n')), L1, lh_u2 J1 (65 + 4) 8 (nI (1 + 16 * tk_P t n')), M1, ?_, ?_, q_u2s, q_u2s, by omega, fun h => absurd h (by omega), fun o k h1 h2 h3 => by rw [q_u2o (by omega), c1 _ _ h1 h2 h3], c2, fun o k h1 h2 h3 h4 => by rw [q_u2o (by omega), c3 _ _ h1 h2 h3 h4], c4⟩
          · rw [hl_cstep hc h8 hC (by omega), e1, z_bs]
            simp only []
            rw [if_neg (by decide), k1', z_bs]
            exact hl_stop (I := lh_u2 I1 (1 + 4) 8 (nI (1 + 16 * tk_P t n'))) L1 (by omega) (Or.inr (by rw [q_u2s]; exact hne))
          · rw [hl_step hm h8' hC, e2, z_bs]
            simp only []
            rw [es, z_bs]
            exact hl_fault (by rw [q_u2s]; exact hne)
      · have hne := fl_ne gF
        refine ⟨F, I1, L1, J1, M1, ?_, ?_, e3, e4, gF.2, fun h => absurd h (by omega), c1, c2, c3, c4⟩
        · rw [hl_cstep hc h8 hC (by omega), e1, z_bs]
          simp only []
          rw [if_pos trivial]
          exact hl_stop L1 (by omega) (Or.inr (by rw [e3]; exact hne.1))
        · rw [hl_step hm h8' hC, e2, z_bs]
          simp only []
          rw [m_tsign' M1 (by rw [e4]; exact hne.1), z_bs]
          exact hl_fault (by rw [e4]; exact hne.1)
end Q88l
