/-! lines that stand once: stood already; the measures -/
def hl_m (W : List (Nat × Nat)) (O : Nat → Bool) (J : lh_II) : Prop := (O 5 = false ∧ J (65 + 4) 13 = 0 ∧ J (71 + 4) 108 = -1 ∧ W = [(2, 0)]) ∨ (O 5 = true ∧ J (71 + 4) 108 = 0 ∧ J (65 + 4) 13 = nI (W.length + 1) ∧ (∀ i, i < W.length → J (72 + 4) (1100 + i) = nI (W.getD i (0, 0)).1 ∧ J (73 + 4) (1100 + i) = nI (W.getD i (0, 0)).2) ∧ J (72 + 4) (1100 + W.length) = 0)
theorem hl_m.kp {W : List (Nat × Nat)} {O O' : Nat → Bool} {J J' : lh_II} (h : hl_m W O J) (hO : O' 5 = O 5) (h13 : J' (65 + 4) 13 = J (65 + 4) 13) (h108 : J' (71 + 4) 108 = J (71 + 4) 108) (h6 : ∀ k, 1100 ≤ k → J' (72 + 4) k = J (72 + 4) k) (h7 : ∀ k, 1100 ≤ k → J' (73 + 4) k = J (73 + 4) k) : hl_m W O' J' := by
  rcases h with ⟨p1, p2, p3, p4⟩ | ⟨p1, p2, p3, p4, p5⟩
  · exact Or.inl ⟨hO.trans p1, h13.trans p2, h108.trans p3, p4⟩
  · exact Or.inr ⟨hO.trans p1, h108.trans p2, h13.trans p3, fun i hi => by rw [h6 _ (by omega), h7 _ (by omega)]; exact p4 i hi, by rw [h6 _ (by omega)]; exact p5⟩
theorem nm_c.kp {q : Nat} {ns : List (List Nat)} {I I' : lh_II} {L L' : lh_LL} (h : nm_c q ns I L) (h3 : I' (q + 4) 3 = I (q + 4) 3) (hl : ∀ k, L' (q + 5) k = L (q + 5) k) : nm_c q ns I' L' := ⟨h3.trans h.1, fun i hi => by rw [show q + 1 + 4 = q + 5 by omega, hl]; exact h.2 i hi⟩
theorem nm_m.kp {ns : List (List Nat)} {J J' : lh_II} {M : lh_LL} (h : nm_m ns J M) (h3 : J' (65 + 4) 15 = J (65 + 4) 15) : nm_m ns J' M := ⟨h3.trans h.1, h.2⟩
def r_set (R : lh_Rw) (j v : Nat) : lh_Rw := (fun i => if i = j then v else R.1 i, R.2)
theorem r_set_s (R : lh_Rw) (j v : Nat) : (r_set R j v).1 j = v := if_pos rfl
theorem r_set_o {R : lh_Rw} {j v i : Nat} (h : ¬ i = j) : (r_set R j v).1 i = R.1 i := if_neg h
theorem r_set_2 (R : lh_Rw) (j v : Nat) : (r_set R j v).2 = R.2 := rfl
theorem r_cls.set {a : Nat} {I I' : lh_II} {R : lh_Rw} {fc fr v : Nat} (hp : (fc = 9 ∧ fr = 0) ∨ (fc = 13 ∧ fr = 3) ∨ (fc = 14 ∧ fr = 5) ∨ (fc = 15 ∧ fr = 6) ∨ (fc = 10 ∧ fr = 7)) (h : r_cls a I R) (hf : ∀ o k, a + 4 ≤ o → o ≤ a + 14 → ¬ (o = a + 4 ∧ k = fc) → I' o k = I o k) (hv : I' (a + 4) fc = nI v) : r_cls a I' (r_set R fr v) := by
  obtain ⟨⟨h1, h2, h3, h4, h5, h6, h7, h8⟩, h9, h10, h11, h12, h13, h14⟩ := h
  rcases hp with ⟨rfl, rfl⟩ | ⟨rfl, rfl⟩ | ⟨rfl, rfl⟩ | ⟨rfl, rfl⟩ | ⟨rfl, rfl⟩
  all_goals
    unfold r_cls
    simp (disch := omega) only [r_set_o, r_set_s, r_set_2]
    refine ⟨⟨by first | exact hv | (rw [hf _ _ (by omega) (by omega) (by omega)]; exact h1), by first | exact hv | (rw [hf _ _ (by omega) (by omega) (by omega)]; exact h2), by first | exact hv | (rw [hf _ _ (by omega) (by omega) (by omega)]; exact h3), by first | exact hv | (rw [hf _ _ (by omega) (by omega) (by omega)]; exact h4), by first | exact hv | (rw [hf _ _ (by omega) (by omega) (by omega)]; exact h5), by first | exact hv | (rw [hf _ _ (by omega) (by omega) (by omega)]; exact h6), by first | exact hv | (rw [hf _ _ (by omega) (by omega) (by omega)]; exact h7), by first | exact hv | (rw [hf _ _ (by omega) (by omega) (by omega)]; exact h8)⟩, fun v hv => ?_, fun v t hv ht => ?_, fun k hk => ?_, fun i hi => ?_, ?_, fun i hi => ?_⟩
    · rw [hf _ _ (by omega) (by omega) (by omega), hf _ _ (by omega) (by omega) (by omega), hf _ _ (by omega) (by omega) (by omega)]; exact h9 v hv
    · rw [hf _ _ (by omega) (by omega) (by omega)]; exact h10 v t hv ht
    · rw [hf _ _ (by omega) (by omega) (by omega)]; exact h11 k hk
    · rw [hf _ _ (by omega) (by omega) (by omega)]; exact h12 i hi
    · rw [hf _ _ (by omega) (by omega) (by omega)]; exact h13
    · rw [hf _ _ (by omega) (by omega) (by omega)]; exact h14 i hi
theorem r_mdl.set {J J' : lh_II} {R : lh_Rw} {fm fr v : Nat} (hR : r_wf R) (hp : (fm = 0 ∧ fr = 0) ∨ (fm = 3 ∧ fr = 3) ∨ (fm = 4 ∧ fr = 5) ∨ (fm = 5 ∧ fr = 6) ∨ (fm = 7 ∧ fr = 7)) (h : r_mdl 100 J R) (hf : ∀ k, 100 ≤ k → ¬ k = 100 + fm → J' (71 + 4) k = J (71 + 4) k) (hv : J' (71 + 4) (100 + fm) = nI v) : r_mdl 100 J' (r_set R fr v) := by
  obtain ⟨⟨h1, h2, h3, h4, h5, h6, h7, h8⟩, h9, h10, h11⟩ := h
  rcases hp with ⟨rfl, rfl⟩ | ⟨rfl, rfl⟩ | ⟨rfl, rfl⟩ | ⟨rfl, rfl⟩ | ⟨rfl, rfl⟩
  all_goals
    unfold r_mdl
    simp (disch := omega) only [r_set_o, r_set_s, r_set_2]
    refine ⟨⟨by first | exact hv | (rw [hf _ (by omega) (by omega)]; exact h1), by first | exact hv | (rw [hf _ (by omega) (by omega)]; exact h2), by first | exact hv | (rw [hf _ (by omega) (by omega)]; exact h3), by first | exact hv | (rw [hf _ (by omega) (by omega)]; exact h4), by first | exact hv | (rw [hf _ (by omega) (by omega)]; exact h5), by first | exact hv | (rw [hf _ (by omega) (by omega)]; exact h6), by first | exact hv | (rw [hf _ (by omega) (by omega)]; exact h7), by first | exact hv | (rw [hf _ (by omega) (by omega)]; exact h8)⟩, fun v hv => ?_, fun k hk => ?_, fun i hi => ?_⟩
    · obtain ⟨g1, g2, g3, g4⟩ := h9 v hv
      exact ⟨by rw [hf _ (by omega) (by omega)]; exact g1, by rw [hf _ (by omega) (by omega)]; exact g2, by rw [hf _ (by omega) (by omega)]; exact g3, fun t ht => by rw [hf _ (by omega) (by omega)]; exact g4 t ht⟩
    · rw [hf _ (by omega) (by omega)]; exact h10 k hk
    · rw [hf _ (by omega) (by omega)]; exact h11 i hi
theorem r_wf.set {R : lh_Rw} {C lo hi fc fm fr j v : Nat} (hp : ms_p C lo hi fc fm fr j) (h : r_wf R) (h1 : lo ≤ v) (h2 : v ≤ hi) : r_wf (r_set R fr v) := by
  obtain ⟨p1, p2, p3, p4, p5, p6, p7, p8, p9, p10, p11, p12, p13⟩ := h
  rcases hp with ⟨rfl, rfl, rfl, rfl, rfl, rfl, rfl⟩ | ⟨rfl, rfl, rfl, rfl, rfl, rfl, rfl⟩ | ⟨rfl, rfl, rfl, rfl, rfl, rfl, rfl⟩ | ⟨rfl, rfl, rfl, rfl, rfl, rfl, rfl⟩
  all_goals
    unfold r_wf
    simp (disch := omega) only [r_set_o, r_set_s, r_set_2]
    exact ⟨by omega, p2, p3, by omega, p5, by omega, by omega, p8, p9, p10, p11, p12, p13⟩
section Q88c
variable {t : List Nat} {a q N n : Nat} {I : lh_II} {L : lh_LL} {J : lh_II} {M : lh_LL} {R : lh_Rw} {ns : List (List Nat)} {O : Nat → Bool}
theorem h_cf_8 (a q : Nat) (I : lh_II) (x : Int32) : h_cf a q I (lh_u2 I (1 + 4) 8 x) := fun o k h1 _ _ => q_u2o (by omega)
theorem h_mf_8 (J : lh_II) (x : Int32) : h_mf J (lh_u2 J (65 + 4) 8 x) := fun o k h1 _ _ _ => q_u2o (by omega)
theorem tk_fb {x p : Nat} (h1 : 1 ≤ x) (h2 : x ≤ 15) (h3 : p ≤ 1000) : 1 ≤ x + 16 * p ∧ x + 16 * p ≤ 20000 := by omega
theorem tk_ng {x p : Nat} (h1 : 1 ≤ x) (h2 : x ≤ 15) (h3 : p ≤ 1000) : ¬ nI (x + 16 * p) ≤ 0 := by
  rw [z_leR 0 (by decide) (by omega)]; show ¬ x + 16 * p ≤ 0; omega
theorem ln_stood (hw : qt_w t) (ha : 11 ≤ a ∧ a ≤ 23) (hq : 82 ≤ q) (hc : r_c t n I L) (hm : r_m t N n J M) (h8 : I (1 + 4) 8 = 0) (h8' : J (65 + 4) 8 = 0) (hsc : hs_c a q R ns O I L) (hsm : hs_m R ns O J M) {j : Nat} (hj : j < 6) (hC : tk_C t n = o_b j) (hO : O j = true) : ln_sp t N n a q I L J M := by
  obtain ⟨-, -, x, hx, hx4, hxb⟩ := hsc
  obtain ⟨-, -, ⟨y, hy, hy16, hyb⟩, -⟩ := hsm
  have hl0 := hw.1
  have hP := tk_P_le t n
  have e1 : f_Hr_takeOnce a q (nI (tk_C t n)) I L = _ := e_once3 hc h8 hx hx4 (by rw [hC]; exact o_b_le hj) (by rw [hC, hxb j hj]; exact hO)
  have e2 : f_LM_wrong 3 J = _ := m_wrong hm h8' 3
  have hng := tk_ng (x := 3) (p := tk_P t n) (by decide) (by decide) (by omega)
  have hCC : tk_C t n = 0 ∨ tk_C t n = 7 ∨ tk_C t n = 8 ∨ tk_C t n = 9 ∨ tk_C t n = 10 ∨ tk_C t n = 11 := by
    have : j = 0 ∨ j = 1 ∨ j = 2 ∨ j = 3 ∨ j = 4 ∨ j = 5 := by omega
    rcases this with rfl | rfl | rfl | rfl | rfl | rfl <;> (rw [hC]; decide)
  have hyj : (tk_C t n = 0 ∧ y.testBit 0 = true) ∨ (7 ≤ tk_C t n ∧ tk_C t n < 12 ∧ y.testBit (tk_C t n - 6) = true) := by
    have : j = 0 ∨ j = 1 ∨ j = 2 ∨ j = 3 ∨ j = 4 ∨ j = 5 := by omega
    rcases this with rfl | rfl | rfl | rfl | rfl | rfl
    · left; exact ⟨hC, by rw [hyb 0 hj]; exact hO⟩
    all_goals
      right
      rw [hC]
      refine ⟨by decide, by decide, ?_⟩
      rw [← hO, ← hyb _ hj]
      rfl
  have e3 : f_LM_readOnce J M = _ := m_once3 hm h8' hy hy16 hyj e2 (by rw [q_u2s]; exact hng)
  by_cases h11 : tk_C t n = 11
  · have hc0 : r_c t n (lh_u2 I (a + 1 + 4) 2 0) L := hc.kp (fun o k h => by rw [q_u2o (by omega)])
    have e0 : f_Hr_takeOnce a q (nI (tk_C t n)) (lh_u2 I (a + 1 + 4) 2 0) L = _ := e_once3 hc0 (by rw [q_u2o (by omega)]; exact h8) hx (by rw [q_u2o (by omega)]; exact hx4) (by rw [hC]; exact o_b_le hj) (by rw [hC, hxb j hj]; exact hO)
    refine ⟨lh_u2 (lh_u2 I (a + 1 + 4) 2 0) (1 + 4) 8 (nI (3 + 16 * tk_P t n)), L, lh_u2 J (65 + 4) 8 (nI (3 + 16 * tk_P t n)), M, Or.inr ⟨?_, ?_, ⟨3 + 16 * tk_P t n, tk_fb (by decide) (by decide) (by omega), q_u2s, q_u2s⟩⟩, fun o k h1 h2 h3 => by rw [q_u2o (by omega), q_u2o (by omega)], fun _ _ _ _ => rfl, h_mf_8 J _, fun _ _ _ => rfl⟩
    · rw [eh_lineS hc h11, e0, z_bs, if_pos rfl]
    · rw [m_line hm h8' (by omega) (by omega) (by omega), e3, z_bs]
  refine ⟨lh_u2 I (1 + 4) 8 (nI (3 + 16 * tk_P t n)), L, lh_u2 J (65 + 4) 8 (nI (3 + 16 * tk_P t n)), M, Or.inr ⟨?_, ?_, ⟨3 + 16 * tk_P t n, tk_fb (by decide) (by decide) (by omega), q_u2s, q_u2s⟩⟩, h_cf_8 a q I _, fun _ _ _ _ => rfl, h_mf_8 J _, fun _ _ _ => rfl⟩
  · rcases hCC with h | h | h | h | h | h
    · rw [eh_lineM hc (by omega), e1, z_bs, if_pos rfl]
    · rw [eh_lineM hc (by omega), e1, z_bs, if_pos rfl]
    · rw [eh_lineM hc (by omega), e1, z_bs, if_pos rfl]
    · rw [eh_lineM hc (by omega), e1, z_bs, if_pos rfl]
    · rw [eh_lineF hc (by omega), e1, z_bs, if_pos rfl]
    · exact absurd h h11
  · rw [m_line hm h8' (by omega) (by omega) (by omega), e3, z_bs]
/-- no word of a line -/
theorem ln_none (hw : qt_w t) (hc : r_c t n I L) (hm : r_m t N n J M) (h8 : I (1 + 4) 8 = 0) (h8' : J (65 + 4) 8 = 0) (hC : ¬ (tk_C t n = 0 ∨ tk_C t n = 1 ∨ tk_C t n = 2 ∨ tk_C t n = 5 ∨ (7 ≤ tk_C t n ∧ tk_C t n < 12))) : ln_sp t N n a q I L J M := by
  have hl0 := hw.1
  have hP := tk_P_le t n
  have e2 : f_LM_wrong 1 J = _ := m_wrong hm h8' 1
  have hng := tk_ng (x := 1) (p := tk_P t n) (by decide) (by decide) (by omega)
  have e3 : f_LM_readOnce J M = _ := m_onceX hm h8' (by omega) (by omega) e2 (by rw [q_u2s]; exact hng)
  refine ⟨lh_u2 I (1 + 4) 8 (nI (1 + 16 * tk_P t n)), L, lh_u2 J (65 + 4) 8 (nI (1 + 16 * tk_P t n)), M, Or.inr ⟨eh_lineX hc h8 hC, ?_, ⟨1 + 16 * tk_P t n, tk_fb (by decide) (by decide) (by omega), q_u2s, q_u2s⟩⟩, h_cf_8 a q I _, fun _ _ _ _ => rfl, h_mf_8 J _, fun _ _ _ => rfl⟩
  rw [m_line hm h8' (by omega) (by omega) (by omega), e3, z_bs]
theorem tk_nf0 {lo hi : Nat} (h0 : tk_nf lo hi t n = 0) : tk_C t n = 28 ∧ lo ≤ tk_V t n ∧ tk_V t n ≤ hi := by
  unfold tk_nf at h0
  repeat' split at h0
  all_goals first | (refine ⟨by assumption, ?_⟩; assumption) | omega
theorem tk_nf4 (lo hi : Nat) (t : List Nat) (n : Nat) : tk_nf lo hi t n ≤ 4 := by unfold tk_nf; (repeat' split) <;> omega
/-- what the reference holds before the rest of a line that stands once -/
theorem o_J_m (hm : r_m t N n J M) (h37 : tk_C t n ≠ 37) (x j : Nat) : r_m t N (n + 1) (o_J J x j n) M := by
  have hn := hm.nx h37
  unfold o_J
  exact hm.kp (by omega) q_u2s (fun o k ho => by rw [q_u2o (by omega), q_u2o (by omega)])
theorem o_J_o {x j o k : Nat} (h : ¬ (o = 69 ∧ (k = 7 ∨ k = 16))) : o_J J x j n o k = J o k := by
  unfold o_J
  rw [q_u2o (by omega), q_u2o (by omega)]
theorem o_J_16 (x j : Nat) : o_J J x j n (65 + 4) 16 = nI (x ||| 2 ^ j) := by
  unfold o_J
  rw [q_u2o (by omega), q_u2s]
theorem ln_meas (hw : qt_w t) (ha : 11 ≤ a ∧ a ≤ 23) (hq : 82 ≤ q) (hc : r_c t n I L) (hm : r_m t N n J M) (h8 : I (1 + 4) 8 = 0) (h8' : J (65 + 4) 8 = 0) (hsc : hs_c a q R ns O I L) (hsm : hs_m R ns O J M) (hsw : hs_w R ns) {lo hi fc fm fr j : Nat} (hp : ms_p (tk_C t n) lo hi fc fm fr j) : ln_sp t N n a q I L J M := by
  have hj4 : j < 4 := by unfold ms_p at hp; omega
  have hC : tk_C t n = o_b j := by
    unfold ms_p at hp
    rcases hp with h | h | h | h
    all_goals rw [h.1, h.2.2.2.2.2.2]; rfl
  by_cases hO : O j = true
  · exact ln_stood hw ha hq hc hm h8 h8' hsc hsm (by omega) hC hO
  obtain ⟨hcls, hnc, x, hx, hx4, hxb⟩ := hsc
  obtain ⟨hmdl, hnm, ⟨y, hy, hy16, hyb⟩, hlw⟩ := hsm
  have hl0 := hw.1
  have hP := tk_P_le t (n + 1)
  have hCm : tk_C t n = 0 ∨ tk_C t n = 7 ∨ tk_C t n = 8 ∨ tk_C t n = 9 := by unfold ms_p at hp; omega
  have hfc : (fc = 9 ∧ fr = 0) ∨ (fc = 13 ∧ fr = 3) ∨ (fc = 14 ∧ fr = 5) ∨ (fc = 15 ∧ fr = 6) ∨ (fc = 10 ∧ fr = 7) := by unfold ms_p at hp; omega
  have hfm : (fm = 0 ∧ fr = 0) ∨ (fm = 3 ∧ fr = 3) ∨ (fm = 4 ∧ fr = 5) ∨ (fm = 5 ∧ fr = 6) ∨ (fm = 7 ∧ fr = 7) := by unfold ms_p at hp; omega
  have hlh : lo < 128 ∧ hi < 128 := by unfold ms_p at hp; omega
  obtain ⟨I1, L1, a1, a2, a3, a4, a5⟩ := e_once1 (a := a) hw hq hc hx hx4 (C := tk_C t n) (by omega) (by rw [hC, hxb j (by omega)]; exact hO)
  have hI18 : I1 (1 + 4) 8 = 0 := by rw [a3 _ _ (by omega) (by omega)]; exact h8
  have hm1 := o_J_m hm (by omega) y j
  have hJ18 : o_J J y j n (65 + 4) 8 = 0 := by rw [o_J_o (by omega)]; exact h8'
  have et := m_take hm1 hJ18 hw tk_V_le hlh.1 hlh.2
  have hro : f_LM_readLine J M = lh_bd (f_LM_takeNumber (nI lo) (nI hi) (o_J J y j n) M) fun r => some (lh_u2 r.2 (71 + 4) (100 + fm) r.1, M) := by
    rw [m_line hm h8' (by omega) (by omega) (by omega)]
    have hb : ¬ y.testBit j = true := by rw [hyb j (by omega)]; exact hO
    rcases hp with ⟨e1, rfl, rfl, rfl, rfl, rfl, rfl⟩ | ⟨e1, rfl, rfl, rfl, rfl, rfl, rfl⟩ | ⟨e1, rfl, rfl, rfl, rfl, rfl, rfl⟩ | ⟨e1, rfl, rfl, rfl, rfl, rfl, rfl⟩
    · rw [m_once0 hm h8' hy hy16 e1 hb]
      have hx : f_LM_takeNumber 2 12 (o_J J y 0 n) M = _ := et
      have hx' : f_LM_takeNumber (nI 2) (nI 12) (o_J J y 0 n) M = _ := et
      rw [hx, hx']
      split <;> rfl
    · rw [m_onceJ hm h8' hy hy16 (j := 1) (by decide) e1 hb, if_neg (by decide), if_neg (by decide), if_pos rfl]
      have hx : f_LM_takeNumber 1 5 (o_J J y 1 n) M = _ := et
      have hx' : f_LM_takeNumber (nI 1) (nI 5) (o_J J y 1 n) M = _ := et
      rw [hx, hx']
      split <;> rfl
    · rw [m_onceJ hm h8' hy hy16 (j := 2) (by decide) e1 hb, if_neg (by decide), if_neg (by decide), if_neg (by decide), if_pos rfl]
      have hx : f_LM_takeNumber 0 99 (o_J J y 2 n) M = _ := et
      have hx' : f_LM_takeNumber (nI 0) (nI 99) (o_J J y 2 n) M = _ := et
      rw [hx, hx']
      split <;> rfl
    · rw [m_onceJ hm h8' hy hy16 (j := 3) (by decide) e1 hb, if_neg (by decide), if_neg (by decide), if_neg (by decide), if_neg (by decide)]
      have hx : f_LM_takeNumber 0 11 (o_J J y 3 n) M = _ := et
      have hx' : f_LM_takeNumber (nI 0) (nI 11) (o_J J y 3 n) M = _ := et
      rw [hx, hx']
      split <;> rfl
  have hCpos : fc = 9 ∨ 10 ≤ fc := by omega
  by_cases h0 : tk_nf lo hi t (n + 1) = 0
  · obtain ⟨I2, L2, b1, b2, b3, b4, b5⟩ := e_meas1 (q := q) hw ha hp a2 hI18 h0
    rw [if_pos h0] at et
    obtain ⟨k1, k2, k3⟩ := tk_nf0 h0
    have hm2 : r_m t N (n + 1 + 1) (lh_u2 (lh_u2 (o_J J y j n) (65 + 4) 7 (nI (n + 1 + 1))) (71 + 4) (100 + fm) (nI (tk_V t (n + 1)))) M := hm1.kp (by have := hm1.nx (by omega); omega) (by rw [q_u2o (by omega), q_u2s]) (fun o k ho => by rw [q_u2o (by omega), q_u2o (by omega)])
    have hJo : ∀ o k, ¬ (o = 69 ∧ (k = 7 ∨ k = 16)) → ¬ (o = 75 ∧ k = 100 + fm) → lh_u2 (lh_u2 (o_J J y j n) (65 + 4) 7 (nI (n + 1 + 1))) (71 + 4) (100 + fm) (nI (tk_V t (n + 1))) o k = J o k := fun o k h1 h2 => by rw [q_u2o (by omega), q_u2o (by omega), o_J_o h1]
    have oc := o_up_c hx (show j < 6 by omega) hxb
    have om := o_up_m hy (show j < 6 by omega) hyb
    have hfcb : 9 ≤ fc ∧ fc ≤ 16 := by omega
    have hfmb : fm ≤ 7 := by omega
    refine ⟨I2, L2, lh_u2 (lh_u2 (o_J J y j n) (65 + 4) 7 (nI (n + 1 + 1))) (71 + 4) (100 + fm) (nI (tk_V t (n + 1))), M, Or.inl ⟨?_, ?_, ?_⟩, fun o k h1 h2 h3 => by rw [b3 _ _ (by omega) (by omega), a3 _ _ (by omega) (by omega)], fun o k h1 h2 => by rw [b5 _ _ (by omega), a5 _ _ (by omega)], fun o k h1 h2 h3 h4 => hJo o k (by omega) (by omega), fun _ _ _ => rfl⟩
    · rw [eh_lineM hc hCm, a1, z_bs]
      simp only []
      rw [if_neg (by decide), b1, z_bs]
      rfl
    · rw [hro, et, z_bs]
    · refine ⟨by rw [b3 _ _ (by omega) (by omega)]; exact hI18, by rw [hJo _ _ (by omega) (by omega)]; exact h8', n + 1 + 1, r_set R fr (tk_V t (n + 1)), ns, o_set O j, by omega, b2, hm2, ⟨?_, ?_, x ||| 2 ^ o_b j, oc.1, ?_, oc.2⟩, ⟨?_, ?_, ⟨y ||| 2 ^ j, om.1, ?_, om.2⟩, ?_⟩, hsw.1.set hp k2 k3, hsw.2.1, ?_⟩
      · exact hcls.set hfc (fun o k g1 g2 g3 => by rw [b3 _ _ (by omega) (by omega), a3 _ _ (by omega) (by omega)]) b4
      · exact hnc.kp (by rw [b3 _ _ (by omega) (by omega), a3 _ _ (by omega) (by omega)]) (fun k => by rw [b5 _ _ (by omega), a5 _ _ (by omega)])
      · rw [b3 _ _ (by omega) (by omega), a4, hC]
      · exact hmdl.set hsw.1 hfm (fun k g1 g2 => hJo _ _ (by omega) (by omega)) q_u2s
      · exact hnm.kp (hJo _ _ (by omega) (by omega))
      · rw [q_u2o (by omega), q_u2o (by omega)]; exact o_J_16 y j
      · exact hl_m.kp hlw (by unfold o_set; rw [if_neg (by omega)]) (hJo _ _ (by omega) (by omega)) (hJo _ _ (by omega) (by omega)) (fun k _ => hJo _ _ (by omega) (by omega)) (fun k _ => hJo _ _ (by omega) (by omega))
      · have h12 : fr ≠ 1 ∧ fr ≠ 2 := by omega
        rw [r_set_o (fun e => h12.1 e.symm), r_set_o (fun e => h12.2 e.symm)]
        exact hsw.2.2
  · have b1 := e_meas0 (a := a) (q := q) hp a2 hI18 h0
    rw [if_neg h0] at et
    have h4 := tk_nf4 lo hi t (n + 1)
    refine ⟨lh_u2 I1 (1 + 4) 8 (nI (tk_nf lo hi t (n + 1) + 16 * tk_P t (n + 1))), L1, lh_u2 (lh_u2 (o_J J y j n) (65 + 4) 8 (nI (tk_nf lo hi t (n + 1) + 16 * tk_P t (n + 1)))) (71 + 4) (100 + fm) 0, M, Or.inr ⟨?_, ?_, ⟨tk_nf lo hi t (n + 1) + 16 * tk_P t (n + 1), tk_fb (by omega) (by omega) (by omega), q_u2s, ?_⟩⟩, fun o k h1 h2 h3 => by rw [q_u2o (by omega), a3 _ _ (by omega) (by omega)], fun o k h1 h2 => by rw [a5 _ _ (by omega)], fun o k h1 h2 h3 h4 => by rw [q_u2o (by omega), q_u2o (by omega), o_J_o (by omega)], fun _ _ _ => rfl⟩
    · rw [eh_lineM hc hCm, a1, z_bs]
      simp only []
      rw [if_neg (by decide), b1, z_bs]
      rfl
    · rw [hro, et, z_bs]
    · rw [q_u2o (by omega), q_u2s]
end Q88c
