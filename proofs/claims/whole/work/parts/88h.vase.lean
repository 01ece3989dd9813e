/-! a vase -/
def r_vas (R : lh_Rw) (c : Nat) : lh_Rw := (fun i => if i = 2 then R.1 2 + 1 else R.1 i, fun v i => if v = 100 ∧ i = R.1 2 then c else R.2.1 v i, R.2.2)
theorem r_vas_2 (R : lh_Rw) (c : Nat) : (r_vas R c).1 2 = R.1 2 + 1 := rfl
theorem r_vas_o {R : lh_Rw} {c i : Nat} (h : ¬ i = 2) : (r_vas R c).1 i = R.1 i := if_neg h
theorem r_vas_c (R : lh_Rw) (c : Nat) : (r_vas R c).2.1 100 (R.1 2) = c := by
  show (if 100 = 100 ∧ R.1 2 = R.1 2 then c else _) = c
  rw [if_pos ⟨rfl, rfl⟩]
theorem r_vas_d {R : lh_Rw} {c v i : Nat} (h : ¬ (v = 100 ∧ i = R.1 2)) : (r_vas R c).2.1 v i = R.2.1 v i := if_neg h
theorem r_vas_3 (R : lh_Rw) (c : Nat) : (r_vas R c).2.2 = R.2.2 := rfl
theorem r_cls.vas {a : Nat} {I I' : lh_II} {R : lh_Rw} {c : Nat} (hw : r_wf R) (h : r_cls a I R) (hf : ∀ o k, a + 4 ≤ o → o ≤ a + 14 → ¬ (o = a + 4 ∧ k = 12) → ¬ (o = a + 12 ∧ k = R.1 2) → I' o k = I o k) (hv : I' (a + 4) 12 = nI (R.1 2 + 1)) (hr : I' (a + 8 + 4) (R.1 2) = nI c) : r_cls a I' (r_vas R c) := by
  obtain ⟨⟨h1, h2, h3, h4, h5, h6, h7, h8⟩, h9, h10, h11, h12, h13, h14⟩ := h
  have hR1 := hw.2.1
  unfold r_cls
  simp (disch := omega) only [r_vas_2, r_vas_o, r_vas_3]
  refine ⟨⟨by rw [hf _ _ (by omega) (by omega) (by omega) (by omega)]; exact h1, by rw [hf _ _ (by omega) (by omega) (by omega) (by omega)]; exact h2, by rw [hf _ _ (by omega) (by omega) (by omega) (by omega)]; exact h3, hv, by rw [hf _ _ (by omega) (by omega) (by omega) (by omega)]; exact h5, by rw [hf _ _ (by omega) (by omega) (by omega) (by omega)]; exact h6, by rw [hf _ _ (by omega) (by omega) (by omega) (by omega)]; exact h7, by rw [hf _ _ (by omega) (by omega) (by omega) (by omega)]; exact h8⟩, fun v hv => ?_, fun v t hv ht => ?_, fun k hk => ?_, fun i hi => ?_, ?_, fun i hi => ?_⟩
  · rw [hf _ _ (by omega) (by omega) (by omega) (by omega), hf _ _ (by omega) (by omega) (by omega) (by omega), hf _ _ (by omega) (by omega) (by omega) (by omega)]; exact h9 v hv
  · rw [hf _ _ (by omega) (by omega) (by omega) (by omega), r_vas_d (by omega)]; exact h10 v t hv ht
  · by_cases e : k = R.1 2
    · subst e; rw [r_vas_c]; exact hr
    · rw [hf _ _ (by omega) (by omega) (by omega) (by omega), r_vas_d (by omega)]; exact h11 k (by omega)
  · rw [hf _ _ (by omega) (by omega) (by omega) (by omega), r_vas_d (by omega)]; exact h12 i hi
  · rw [hf _ _ (by omega) (by omega) (by omega) (by omega)]; exact h13
  · rw [hf _ _ (by omega) (by omega) (by omega) (by omega)]; exact h14 i hi
theorem r_mdl.vas {J J' : lh_II} {R : lh_Rw} {c : Nat} (hR : r_wf R) (hk4 : R.1 2 < 4) (h : r_mdl 100 J R) (hf : ∀ k, 100 ≤ k → ¬ k = 102 → ¬ k = 175 + R.1 2 → J' (71 + 4) k = J (71 + 4) k) (hv : J' (71 + 4) 102 = nI (R.1 2 + 1)) (hr : J' (71 + 4) (175 + R.1 2) = nI c) : r_mdl 100 J' (r_vas R c) := by
  obtain ⟨⟨h1, h2, h3, h4, h5, h6, h7, h8⟩, h9, h10, h11⟩ := h
  have hR1 := hR.2.1
  unfold r_mdl
  simp (disch := omega) only [r_vas_2, r_vas_o, r_vas_3]
  refine ⟨⟨by rw [hf _ (by omega) (by omega) (by omega)]; exact h1, by rw [hf _ (by omega) (by omega) (by omega)]; exact h2, hv, by rw [hf _ (by omega) (by omega) (by omega)]; exact h4, by rw [hf _ (by omega) (by omega) (by omega)]; exact h5, by rw [hf _ (by omega) (by omega) (by omega)]; exact h6, by rw [hf _ (by omega) (by omega) (by omega)]; exact h7, by rw [hf _ (by omega) (by omega) (by omega)]; exact h8⟩, fun v hv => ?_, fun k hk => ?_, fun i hi => ?_⟩
  · obtain ⟨g1, g2, g3, g4⟩ := h9 v hv
    have hb := (hR.2.2.2.2.2.2.2.2.1 v hv).2.2.2.1
    exact ⟨by rw [hf _ (by omega) (by omega) (by omega)]; exact g1, by rw [hf _ (by omega) (by omega) (by omega)]; exact g2, by rw [hf _ (by omega) (by omega) (by omega)]; exact g3, fun t ht => by rw [hf _ (by omega) (by omega) (by omega), r_vas_d (by omega)]; exact g4 t ht⟩
  · by_cases e : k = R.1 2
    · subst e; rw [r_vas_c]; exact hr
    · rw [hf _ (by omega) (by omega) (by omega), r_vas_d (by omega)]; exact h10 k (by omega)
  · rw [hf _ (by omega) (by omega) (by omega), r_vas_d (by omega)]; exact h11 i hi
theorem r_wf.vas {R : lh_Rw} {c : Nat} (h : r_wf R) (h1 : R.1 2 < 4) (h2 : c < 12) : r_wf (r_vas R c) := by
  obtain ⟨p1, p2, p3, p4, p5, p6, p7, p8, p9, p10, p11, p12, p13⟩ := h
  unfold r_wf
  simp (disch := omega) only [r_vas_2, r_vas_o, r_vas_3]
  refine ⟨p1, p2, by omega, p4, p5, p6, p7, p8, fun v hv => ?_, fun k hk => ?_, fun i hi => by rw [r_vas_d (by omega)]; exact p11 i hi, p12, p13⟩
  · obtain ⟨g1, g2, g3, g4, g5⟩ := p9 v hv
    exact ⟨g1, g2, g3, g4, fun t ht => by rw [r_vas_d (by omega)]; exact g5 t ht⟩
  · by_cases e : k = R.1 2
    · subst e; rw [r_vas_c]; exact h2
    · rw [r_vas_d (by omega)]; exact p10 k (by omega)
section Q88i
variable {t : List Nat} {a q N n : Nat} {I : lh_II} {L : lh_LL} {J : lh_II} {M : lh_LL} {R : lh_Rw} {ns : List (List Nat)} {O : Nat → Bool}
theorem m_lineA (hm : r_m t N n J M) (h8' : J (65 + 4) 8 = 0) (hC : tk_C t n = 5) {k : Nat} (hk : k ≤ 4) (h102 : J (71 + 4) 102 = nI k) : f_LM_readLine J M = lh_bd (f_LM_readName (nI 2) (nI 4) J M) fun r12 => lh_bd (f_LM_takeAfter (nI 6) (nI 0) (nI 11) r12.1 r12.2) fun r14 => if (r14.2 (65 + 4) 8) = 0 then some (lh_u2 r14.2 (71 + 4) (175 + k) r14.1, r12.2) else some (r14.2, r12.2) := by
  have w1 : f_LM_isWord 1 J M = _ := m_isWord hm h8' (w := 1) (by decide)
  have w2 : f_LM_isWord 2 J M = _ := m_isWord hm h8' (w := 2) (by decide)
  have w5 : f_LM_isWord 5 J M = _ := m_isWord hm h8' (w := 5) (by decide)
  rw [hC, decide_eq_false (by omega)] at w1 w2
  rw [decide_eq_true hC] at w5
  have i1 : lh_ix (175 + nI k) 200 = true := by rw [z_addR]; exact z_ix (by omega) (by decide)
  have i2 : (175 + nI k).toNatClampNeg = 175 + k := by rw [z_addR]; exact z_cl (by omega)
  unfold f_LM_readLine
  rw [w1, z_bs, if_pos (by decide), w2, z_bs, if_pos (by decide), w5, z_bs, if_neg (by decide), h102, i1, i2]
  rfl
theorem ln_vase (hw : qt_w t) (ha : 11 ≤ a ∧ a ≤ 23) (hq : 82 ≤ q) (hc : r_c t n I L) (hm : r_m t N n J M) (h8 : I (1 + 4) 8 = 0) (h8' : J (65 + 4) 8 = 0) (hsc : hs_c a q R ns O I L) (hsm : hs_m R ns O J M) (hsw : hs_w R ns) (hC : tk_C t n = 5) : ln_sp t N n a q I L J M := by
  obtain ⟨hcls, hnc, x, hx, hx4, hxb⟩ := hsc
  obtain ⟨hmdl, hnm, ⟨y, hy, hy16, hyb⟩, hlw⟩ := hsm
  have hl0 := hw.1
  have hP := tk_P_le t n
  have hR1 : R.1 1 ≤ 6 := hsw.1.2.1
  have hR2 : R.1 2 ≤ 4 := hsw.1.2.2.1
  have h12 : I (a + 4) 12 = nI (R.1 2) := hcls.1.2.2.2.1
  have h102 : J (71 + 4) (100 + 2) = nI (R.1 2) := hmdl.1.2.2.1
  have hro := m_lineA hm h8' hC hR2 h102
  by_cases hk : R.1 2 < 4
  · obtain ⟨I1, L1, a1, a2, a3, a4⟩ := e_adv hw hc
    have hI8 : I1 (1 + 4) 8 = 0 := by rw [a3 _ _ (by omega)]; exact h8
    have erm : f_Hr_takeIfRoom a q (nI (R.1 2)) 4 I L = _ := e_room1 (m := 4) hk (by decide) a1
    have hlen : ns.length < 10 := by have := hsw.2.2; omega
    obtain ⟨I2, L2, J2, M2, hh, b1, b2, b3, b4⟩ := ln_name (a := a) (x := 2) (lim := 4) (N := N) hw hq (by decide) (by decide) a2 hm (by omega) hI8 h8' (hnc.kp (a3 _ _ (by omega)) (fun k => a4 _ _ (by omega))) hnm hsw.2.1 hlen h102 hk
    have hcl1 : f_Hr_readLine a q I L = lh_bd (f_Hr_readVase a q I1 L1) fun r33 => if r33.1 = 0 then some (0, r33.2.1, r33.2.2) else some (1, r33.2.1, r33.2.2) := by
      rw [eh_lineA hc hC, h12, erm, z_bs]
      simp only []
      rw [if_neg (by decide)]
    have h12' : I1 (a + 4) 12 = nI (R.1 2) := by rw [a3 _ _ (by omega)]; exact h12
    have hcl2 : f_Hr_readVase a q I1 L1 = lh_bd (f_Hr_readName a q I1 L1) fun r2 => if r2.1 = 0 then some (0, r2.2.1, r2.2.2) else lh_bd (f_Re_take (nI 6) r2.2.1 r2.2.2) fun r5 => if r5.1 = 0 then some (0, r5.2.1, r5.2.2) else lh_bd (f_Re_wantNumber (nI 0) (nI 11) r5.2.1) fun r8 => if r8.1 = 0 then some (0, r8.2, r5.2.2) else (lh_bd (f_Re_advance (lh_u2 (lh_u2 r8.2 (a + 8 + 4) (R.1 2) (r8.2 (1 + 4) 6)) (a + 4) 12 (((lh_u2 r8.2 (a + 8 + 4) (R.1 2) (r8.2 (1 + 4) 6)) (a + 4) 12) + 1)) r5.2.2) fun r12 => some (1, r12.1, r12.2)) := by
      unfold f_Hr_readVase
      rw [h12', if_neg (by rw [z_leL 4 (by decide) (by omega)]; show ¬ 4 ≤ R.1 2; omega), z_ix hk (by decide), z_cl (by omega)]
      rfl
    rcases hh with ⟨g1, g2, F, gF, g3, g4⟩ | ⟨g1, g2, g3, g4, g5, g6, ⟨w, g7, g8, g9⟩, g10⟩
    · have hne : ¬ J2 (65 + 4) 8 = 0 := by rw [g4, z_eqR 0 (by decide) (by omega)]; show ¬ F = 0; omega
      have hng : ¬ J2 (65 + 4) 8 ≤ 0 := by rw [g4, z_leR 0 (by decide) (by omega)]; show ¬ F ≤ 0; omega
      refine ⟨I2, L2, J2, M2, Or.inr ⟨?_, ?_, F, gF, g3, g4⟩, fun o k h1 h2 h3 => by rw [b1 _ _ h1 (by omega), a3 _ _ (by omega)], fun o k h1 h2 => by rw [b2 _ _ h1 h2, a4 _ _ h1], fun o k h1 h2 h3 h4 => b3 _ _ (by omega) (by omega), b4⟩
      · rw [hcl1, hcl2, g1, z_bs, if_pos rfl, z_bs]
        rfl
      · rw [hro, g2, z_bs]
        simp only []
        rw [m_tafter' M2 hne hng, z_bs]
        simp only []
        rw [if_neg hne]
    · obtain ⟨I3, L3, J3, hh, c1, c2, c3⟩ := ln_after hw (w := 6) (hi := 11) (by decide) (by decide) g5 g6 g3 g4
      rcases hh with ⟨v, d1, d2, d3, d4, d5, d6, d7, d8, d9⟩ | ⟨d1, ⟨F, gF, d2, d3⟩, d4⟩
      · obtain ⟨I5, L5, e1, e2, e3, e4⟩ := e_adv hw (r_c.kp (I' := lh_u2 (lh_u2 I3 (a + 8 + 4) (R.1 2) (nI v)) (a + 4) 12 (nI (R.1 2 + 1))) d6 (fun o k h => by rw [q_u2o (by omega), q_u2o (by omega)]))
        have h123 : I3 (a + 4) 12 = nI (R.1 2) := by rw [c1 _ _ (by omega), b1 _ _ (by omega) (by omega)]; exact h12'
        have hI5 : ∀ o k, ¬ (o = 5 ∧ 3 ≤ k ∧ k ≤ 8) → ¬ (o = q + 4 ∧ k = 3) → ¬ (o = a + 12 ∧ k = R.1 2) → ¬ (o = a + 4 ∧ k = 12) → I5 o k = I o k := fun o k h1 h2 h3 h4 => by rw [e3 _ _ (by omega), q_u2o (by omega), q_u2o (by omega), c1 _ _ h1, b1 _ _ h1 h2, a3 _ _ (by omega)]
        have hJ5 : ∀ o k, ¬ (o = 69 ∧ (k = 7 ∨ k = 8 ∨ k = 15)) → ¬ (o = 75 ∧ k = 102) → ¬ (o = 75 ∧ k = 175 + R.1 2) → lh_u2 J3 (71 + 4) (175 + R.1 2) (nI v) o k = J o k := fun o k h1 h2 h3 => by rw [q_u2o (by omega), c3 _ _ (by omega), b3 _ _ h1 (by omega)]
        refine ⟨I5, L5, lh_u2 J3 (71 + 4) (175 + R.1 2) (nI v), M2, Or.inl ⟨?_, ?_, ?_⟩, fun o k h1 h2 h3 => hI5 _ _ h1 (by omega) (by omega) (by omega), fun o k h1 h2 => by rw [e4 _ _ h1, c2 _ _ h1, b2 _ _ h1 h2, a4 _ _ h1], fun o k h1 h2 h3 h4 => hJ5 _ _ (by omega) (by omega) (by omega), b4⟩
        · rw [hcl1, hcl2, g1, z_bs]
          simp only []
          rw [if_neg (by decide), d1, z_bs]
          simp only []
          rw [if_neg (by decide), d2, z_bs]
          simp only []
          rw [if_neg (by decide), d5, q_u2o (by omega), h123, z_addL, e1, z_bs, z_bs]
          rfl
        · rw [hro, g2, z_bs]
          simp only []
          rw [d3, z_bs]
          simp only []
          rw [if_pos d9]
        · refine ⟨by rw [e3 _ _ (by omega), q_u2o (by omega), q_u2o (by omega)]; exact d8, by rw [q_u2o (by omega)]; exact d9, n + 2 + 2, r_vas R v, ns ++ [w], O, by omega, e2, d7.kp d7.2.1 (by rw [q_u2o (by omega)]; exact d7.2.2.2.2.2.1) (fun o k ho => by rw [q_u2o (by omega)]), ⟨?_, ?_, x, hx, ?_, hxb⟩, ⟨?_, ?_, ⟨y, hy, ?_, hyb⟩, ?_⟩, hsw.1.vas hk (by omega), g7, ?_⟩
          · exact hcls.vas hsw.1 (fun o k k1 k2 k3 k4 => hI5 _ _ (by omega) (by omega) (by omega) (by omega)) (by rw [e3 _ _ (by omega), q_u2s]) (by rw [e3 _ _ (by omega), q_u2o (by omega), q_u2s])
          · exact g8.kp (by rw [e3 _ _ (by omega), q_u2o (by omega), q_u2o (by omega), c1 _ _ (by omega)]) (fun k => by rw [e4 _ _ (by omega), c2 _ _ (by omega)])
          · rw [hI5 _ _ (by omega) (by omega) (by omega) (by omega)]; exact hx4
          · exact hmdl.vas hsw.1 hk (fun k k1 k2 k3 => hJ5 _ _ (by omega) (by omega) (by omega)) (by rw [q_u2o (by omega), c3 _ _ (by omega)]; exact g10) q_u2s
          · exact g9.kp (by rw [q_u2o (by omega), c3 _ _ (by omega)])
          · rw [hJ5 _ _ (by omega) (by omega) (by omega)]; exact hy16
          · exact hl_m.kp hlw rfl (hJ5 _ _ (by omega) (by omega) (by omega)) (hJ5 _ _ (by omega) (by omega) (by omega)) (fun k _ => hJ5 _ _ (by omega) (by omega) (by omega)) (fun k _ => hJ5 _ _ (by omega) (by omega) (by omega))
          · rw [r_vas_2, r_vas_o (by decide), List.length_append]
            have := hsw.2.2
            show ns.length + 1 = _
            omega
      · have hne : ¬ J3 (65 + 4) 8 = 0 := by rw [d3, z_eqR 0 (by decide) (by omega)]; show ¬ F = 0; omega
        refine ⟨I3, L3, J3, M2, Or.inr ⟨?_, ?_, F, gF, d2, d3⟩, fun o k h1 h2 h3 => by rw [c1 _ _ h1, b1 _ _ h1 (by omega), a3 _ _ (by omega)], fun o k h1 h2 => by rw [c2 _ _ h1, b2 _ _ h1 h2, a4 _ _ h1], fun o k h1 h2 h3 h4 => by rw [c3 _ _ (by omega), b3 _ _ (by omega) (by omega)], b4⟩
        · rw [hcl1, hcl2, g1, z_bs]
          simp only []
          rw [if_neg (by decide)]
          rcases d4 with d4 | ⟨I4, d4, d5⟩
          · rw [d4, z_bs, if_pos rfl, z_bs]
            rfl
          · rw [d4, z_bs]
            simp only []
            rw [if_neg (by decide), d5, z_bs, if_pos rfl, z_bs]
            rfl
        · rw [hro, g2, z_bs]
          simp only []
          rw [d1, z_bs]
          simp only []
          rw [if_neg hne]
  · have hk4 : R.1 2 = 4 := by omega
    have erm : f_Hr_takeIfRoom a q (nI (R.1 2)) 4 I L = _ := e_room5 (m := 4) hc h8 hk (by omega) (by decide)
    have ern := m_rname5 hm h8' (x := 2) (lim := 4) (by decide) (by decide) (by rw [h102, hk4])
    have hne := tk_ne (x := 5) (p := tk_P t n) (by decide) (by decide) (by omega)
    have hng := tk_ng (x := 5) (p := tk_P t n) (by decide) (by decide) (by omega)
    refine ⟨lh_u2 I (1 + 4) 8 (nI (5 + 16 * tk_P t n)), L, lh_u2 J (65 + 4) 8 (nI (5 + 16 * tk_P t n)), M, Or.inr ⟨?_, ?_, ⟨5 + 16 * tk_P t n, tk_fb (by decide) (by decide) (by omega), q_u2s, q_u2s⟩⟩, h_cf_8 a q I _, fun _ _ _ _ => rfl, h_mf_8 J _, fun _ _ _ => rfl⟩
    · rw [eh_lineA hc hC, h12, erm, z_bs, if_pos rfl]
    · rw [hro, ern, z_bs]
      simp only []
      rw [m_tafter' M (by rw [q_u2s]; exact hne) (by rw [q_u2s]; exact hng), z_bs]
      simp only []
      rw [if_neg (by rw [q_u2s]; exact hne)]
end Q88i
