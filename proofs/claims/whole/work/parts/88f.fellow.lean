/-! the fellow, the law -/
def r_fel (R : lh_Rw) (m : Nat) (cs : Nat → Nat) : lh_Rw := (fun i => if i = 4 then m else R.1 i, fun v i => if v = 200 then cs i else R.2.1 v i, R.2.2)
theorem r_fel_4 (R : lh_Rw) (m : Nat) (cs : Nat → Nat) : (r_fel R m cs).1 4 = m := rfl
theorem r_fel_o {R : lh_Rw} {m : Nat} {cs : Nat → Nat} {i : Nat} (h : ¬ i = 4) : (r_fel R m cs).1 i = R.1 i := if_neg h
theorem r_fel_c (R : lh_Rw) (m : Nat) (cs : Nat → Nat) (i : Nat) : (r_fel R m cs).2.1 200 i = cs i := rfl
theorem r_fel_d {R : lh_Rw} {m : Nat} {cs : Nat → Nat} {v : Nat} (h : ¬ v = 200) (i : Nat) : (r_fel R m cs).2.1 v i = R.2.1 v i := if_neg h
theorem r_fel_2 (R : lh_Rw) (m : Nat) (cs : Nat → Nat) : (r_fel R m cs).2.2 = R.2.2 := rfl
theorem r_cls.fel {a : Nat} {I I' : lh_II} {R : lh_Rw} {m : Nat} {cs : Nat → Nat} (hw : r_wf R) (h : r_cls a I R) (hf : ∀ o k, a + 4 ≤ o → o ≤ a + 14 → ¬ (o = a + 4 ∧ k = 16) → ¬ o = a + 13 → I' o k = I o k) (hv : I' (a + 4) 16 = nI m) (hr : ∀ i, i < m → I' (a + 9 + 4) i = nI (cs i)) : r_cls a I' (r_fel R m cs) := by
  obtain ⟨⟨h1, h2, h3, h4, h5, h6, h7, h8⟩, h9, h10, h11, h12, h13, h14⟩ := h
  have hR1 := hw.2.1
  unfold r_cls
  simp (disch := omega) only [r_fel_4, r_fel_o, r_fel_c, r_fel_2]
  refine ⟨⟨by rw [hf _ _ (by omega) (by omega) (by omega) (by omega)]; exact h1, by rw [hf _ _ (by omega) (by omega) (by omega) (by omega)]; exact h2, by rw [hf _ _ (by omega) (by omega) (by omega) (by omega)]; exact h3, by rw [hf _ _ (by omega) (by omega) (by omega) (by omega)]; exact h4, by rw [hf _ _ (by omega) (by omega) (by omega) (by omega)]; exact h5, by rw [hf _ _ (by omega) (by omega) (by omega) (by omega)]; exact h6, by rw [hf _ _ (by omega) (by omega) (by omega) (by omega)]; exact h7, hv⟩, fun v hv => ?_, fun v t hv ht => ?_, fun k hk => ?_, hr, ?_, fun i hi => ?_⟩
  · rw [hf _ _ (by omega) (by omega) (by omega) (by omega), hf _ _ (by omega) (by omega) (by omega) (by omega), hf _ _ (by omega) (by omega) (by omega) (by omega)]; exact h9 v hv
  · rw [hf _ _ (by omega) (by omega) (by omega) (by omega), r_fel_d (by omega)]; exact h10 v t hv ht
  · rw [hf _ _ (by omega) (by omega) (by omega) (by omega), r_fel_d (by omega)]; exact h11 k hk
  · rw [hf _ _ (by omega) (by omega) (by omega) (by omega)]; exact h13
  · rw [hf _ _ (by omega) (by omega) (by omega) (by omega)]; exact h14 i hi
theorem r_mdl.fel {J J' : lh_II} {R : lh_Rw} {m : Nat} {cs : Nat → Nat} (hR : r_wf R) (h : r_mdl 100 J R) (hf : ∀ k, 100 ≤ k → ¬ k = 106 → ¬ 179 ≤ k → J' (71 + 4) k = J (71 + 4) k) (hv : J' (71 + 4) 106 = nI m) (hr : ∀ i, i < m → J' (71 + 4) (179 + i) = nI (cs i)) : r_mdl 100 J' (r_fel R m cs) := by
  obtain ⟨⟨h1, h2, h3, h4, h5, h6, h7, h8⟩, h9, h10, h11⟩ := h
  have hR1 := hR.2.1
  have hR2 := hR.2.2.1
  unfold r_mdl
  simp (disch := omega) only [r_fel_4, r_fel_o, r_fel_c, r_fel_2]
  refine ⟨⟨by rw [hf _ (by omega) (by omega) (by omega)]; exact h1, by rw [hf _ (by omega) (by omega) (by omega)]; exact h2, by rw [hf _ (by omega) (by omega) (by omega)]; exact h3, by rw [hf _ (by omega) (by omega) (by omega)]; exact h4, by rw [hf _ (by omega) (by omega) (by omega)]; exact h5, by rw [hf _ (by omega) (by omega) (by omega)]; exact h6, hv, by rw [hf _ (by omega) (by omega) (by omega)]; exact h8⟩, fun v hv => ?_, fun k hk => ?_, fun i hi => ?_⟩
  · obtain ⟨g1, g2, g3, g4⟩ := h9 v hv
    have hb := (hR.2.2.2.2.2.2.2.2.1 v hv).2.2.2.1
    exact ⟨by rw [hf _ (by omega) (by omega) (by omega)]; exact g1, by rw [hf _ (by omega) (by omega) (by omega)]; exact g2, by rw [hf _ (by omega) (by omega) (by omega)]; exact g3, fun t ht => by rw [hf _ (by omega) (by omega) (by omega), r_fel_d (by omega)]; exact g4 t ht⟩
  · rw [hf _ (by omega) (by omega) (by omega), r_fel_d (by omega)]; exact h10 k hk
  · exact hr i hi
theorem r_wf.fel {R : lh_Rw} {m : Nat} {cs : Nat → Nat} (h : r_wf R) (h1 : m ≤ 8) (h2 : ∀ i, i < m → cs i < 12) : r_wf (r_fel R m cs) := by
  obtain ⟨p1, p2, p3, p4, p5, p6, p7, p8, p9, p10, p11, p12, p13⟩ := h
  unfold r_wf
  simp (disch := omega) only [r_fel_4, r_fel_o, r_fel_c, r_fel_2]
  refine ⟨p1, p2, p3, p4, h1, p6, p7, p8, fun v hv => ?_, fun k hk => by rw [r_fel_d (by omega)]; exact p10 k hk, h2, p12, p13⟩
  obtain ⟨g1, g2, g3, g4, g5⟩ := p9 v hv
  exact ⟨g1, g2, g3, g4, fun t ht => by rw [r_fel_d (by omega)]; exact g5 t ht⟩
section Q88f
variable {t : List Nat} {a q N n : Nat} {I : lh_II} {L : lh_LL} {J : lh_II} {M : lh_LL} {R : lh_Rw} {ns : List (List Nat)} {O : Nat → Bool}
theorem ln_fellow (hw : qt_w t) (ha : 11 ≤ a ∧ a ≤ 23) (hq : 82 ≤ q) (hc : r_c t n I L) (hm : r_m t N n J M) (h8 : I (1 + 4) 8 = 0) (h8' : J (65 + 4) 8 = 0) (hsc : hs_c a q R ns O I L) (hsm : hs_m R ns O J M) (hsw : hs_w R ns) (hC : tk_C t n = 10) : ln_sp t N n a q I L J M := by
  by_cases hO : O 4 = true
  · exact ln_stood hw ha hq hc hm h8 h8' hsc hsm (j := 4) (by omega) hC hO
  obtain ⟨hcls, hnc, x, hx, hx4, hxb⟩ := hsc
  obtain ⟨hmdl, hnm, ⟨y, hy, hy16, hyb⟩, hlw⟩ := hsm
  have hl0 := hw.1
  have hxb4 : x.testBit 10 = O 4 := hxb 4 (by decide)
  obtain ⟨I1, L1, a1, a2, a3, a4, a5⟩ := e_once1 (a := a) hw hq hc hx hx4 (C := tk_C t n) (by omega) (by rw [hC, hxb4]; exact hO)
  have hI18 : I1 (1 + 4) 8 = 0 := by rw [a3 _ _ (by omega) (by omega)]; exact h8
  have hm1 := o_J_m hm (by omega) y 4
  have hJ18 : o_J J y 4 n (65 + 4) 8 = 0 := by rw [o_J_o (by omega)]; exact h8'
  have hro : f_LM_readLine J M = lh_bd (f_LM_readCells (nI 179) (o_J J y 4 n) M) fun r => some (lh_u2 r.2 (71 + 4) 106 r.1, M) := by
    rw [m_line hm h8' (by omega) (by omega) (by omega), m_onceJ hm h8' hy hy16 (j := 4) (by decide) hC (by rw [hyb 4 (by decide)]; exact hO), if_neg (by decide), if_pos rfl]
    show lh_bd (lh_bd (f_LM_readCells (nI 179) (o_J J y 4 n) M) _) _ = _
    cases f_LM_readCells (nI 179) (o_J J y 4 n) M <;> rfl
  obtain ⟨I2, L2, J2, hh, c1, c2, c3⟩ := c_read (q := q) (a := a) (z := a + 9) (nz := 8) (v2 := 0) (x1 := 179) hw (by omega) (by omega) (by omega) (by omega) a2 hm1 hI18 hJ18
  have hfr : h_cf a q I I2 := fun o k h1 h2 h3 => by rw [c1 _ _ h1 (by omega), a3 _ _ (by omega) (by omega)]
  have hlr : h_lf q L L2 := fun o k h1 h2 => by rw [c2 _ _ (by omega), a5 _ _ (by omega)]
  have hro2 : ∀ v, h_mf J (lh_u2 J2 (71 + 4) 106 v) := fun v o k h1 h2 h3 h4 => by rw [q_u2o (by omega), c3 _ _ (by omega) (by omega), o_J_o (by omega)]
  rcases hh with ⟨m, cs, g1, g2, g3, g4, n', g5, g6, g7, g8, g9⟩ | ⟨v, v', B, gB, g1, g2, g3, g4⟩
  · have oc := o_up_c hx (show 4 < 6 by omega) hxb
    have om := o_up_m hy (show 4 < 6 by omega) hyb
    have hI3 : ∀ o k, ¬ (o = 5 ∧ 3 ≤ k ∧ k ≤ 8) → ¬ (o = a + 13) → ¬ (o = q + 4 ∧ k = 4) → ¬ (o = a + 4 ∧ k = 16) → lh_u2 I2 (a + 4) 16 (nI m) o k = I o k := fun o k h1 h2 h3 h4 => by rw [q_u2o (by omega), c1 _ _ h1 (by omega), a3 _ _ (by omega) (by omega)]
    have hJ3 : ∀ o k, ¬ (o = 69 ∧ (k = 7 ∨ k = 8 ∨ k = 16)) → ¬ (o = 75 ∧ 179 ≤ k) → ¬ (o = 75 ∧ k = 106) → lh_u2 J2 (71 + 4) 106 (nI m) o k = J o k := fun o k h1 h2 h3 => by rw [q_u2o (by omega), c3 _ _ (by omega) (by omega), o_J_o (by omega)]
    refine ⟨lh_u2 I2 (a + 4) 16 (nI m), L2, lh_u2 J2 (71 + 4) 106 (nI m), M, Or.inl ⟨?_, ?_, ?_⟩, fun o k h1 h2 h3 => by rw [q_u2o (by omega)]; exact hfr o k h1 h2 h3, hlr, hro2 _, fun _ _ _ => rfl⟩
    · have hx : f_Hr_readCells a q (a + 9) 8 0 I1 L1 = some (nI m, I2, L2) := g1
      rw [eh_lineF hc hC, a1, z_bs]
      simp only []
      rw [if_neg (by decide)]
      unfold f_Hr_readFellow
      rw [hx, z_bs]
      simp only []
      rw [if_pos (by rw [q_u2o (by omega)]; exact g3), z_bs]
      rfl
    · rw [hro, g2, z_bs]
    · refine ⟨by rw [q_u2o (by omega)]; exact g3, by rw [q_u2o (by omega)]; exact g4, n', r_fel R m cs, ns, o_set O 4, by omega, g6.kp (fun o k h => by rw [q_u2o (by omega)]), g7.kp g7.2.1 (by rw [q_u2o (by omega)]; exact g7.2.2.2.2.2.1) (fun o k ho => by rw [q_u2o (by omega)]), ⟨?_, ?_, x ||| 2 ^ o_b 4, oc.1, ?_, oc.2⟩, ⟨?_, ?_, ⟨y ||| 2 ^ 4, om.1, ?_, om.2⟩, ?_⟩, hsw.1.fel g8.2 (fun i hi => (g9 i hi).1), hsw.2.1, ?_⟩
      · exact hcls.fel hsw.1 (fun o k k1 k2 k3 k4 => hI3 _ _ (by omega) (by omega) (by omega) (by omega)) q_u2s (fun i hi => by rw [q_u2o (by omega)]; have := (g9 i hi).2.1; rw [Nat.zero_add] at this; exact this)
      · exact hnc.kp (hI3 _ _ (by omega) (by omega) (by omega) (by omega)) (fun k => by rw [c2 _ _ (by omega), a5 _ _ (by omega)])
      · rw [q_u2o (by omega), c1 _ _ (by omega) (by omega), a4, hC]; rfl
      · exact hmdl.fel hsw.1 (fun k k1 k2 k3 => hJ3 _ _ (by omega) (by omega) (by omega)) q_u2s (fun i hi => by rw [q_u2o (by omega)]; exact (g9 i hi).2.2)
      · exact hnm.kp (hJ3 _ _ (by omega) (by omega) (by omega))
      · rw [q_u2o (by omega), c3 _ _ (by omega) (by omega)]; exact o_J_16 y 4
      · exact hl_m.kp hlw (by unfold o_set; rw [if_neg (by omega)]) (hJ3 _ _ (by omega) (by omega) (by omega)) (hJ3 _ _ (by omega) (by omega) (by omega)) (fun k _ => hJ3 _ _ (by omega) (by omega) (by omega)) (fun k _ => hJ3 _ _ (by omega) (by omega) (by omega))
      · rw [r_fel_o (by decide), r_fel_o (by decide)]
        exact hsw.2.2
  · refine ⟨lh_u2 I2 (a + 4) 16 v, L2, lh_u2 J2 (71 + 4) 106 v', M, Or.inr ⟨?_, ?_, ⟨B, gB, by rw [q_u2o (by omega)]; exact g3, by rw [q_u2o (by omega)]; exact g4⟩⟩, fun o k h1 h2 h3 => by rw [q_u2o (by omega)]; exact hfr o k h1 h2 h3, hlr, hro2 _, fun _ _ _ => rfl⟩
    · have hx : f_Hr_readCells a q (a + 9) 8 0 I1 L1 = some (v, I2, L2) := g1
      have hne : ¬ nI B = 0 := by rw [z_eqR 0 (by decide) (by omega)]; show ¬ B = 0; omega
      rw [eh_lineF hc hC, a1, z_bs]
      simp only []
      rw [if_neg (by decide)]
      unfold f_Hr_readFellow
      rw [hx, z_bs]
      simp only []
      rw [if_neg (by rw [q_u2o (by omega), g3]; exact hne), z_bs]
      rfl
    · rw [hro, g2, z_bs]
end Q88f
theorem q_u2u (J : lh_II) (o k : Nat) (x y : Int32) : lh_u2 (lh_u2 J o k x) o k y = lh_u2 J o k y := by
  funext o' k'
  unfold lh_u2
  by_cases h : o' = o
  · by_cases h' : k' = k
    · simp only [h, h', if_true]
    · simp only [h, h', if_true, if_false]
  · simp only [h, if_false]
/-! the law -/
def r_lawR (R : lh_Rw) (W : List (Nat × Nat)) : lh_Rw := (R.1, R.2.1, W)
section Q88g
variable {t : List Nat} {a q N n : Nat} {I : lh_II} {L : lh_LL} {J : lh_II} {M : lh_LL} {R : lh_Rw} {ns : List (List Nat)} {O : Nat → Bool}
theorem ln_law (hw : qt_w t) (ha : 11 ≤ a ∧ a ≤ 23) (hq : 82 ≤ q) (hc : r_c t n I L) (hm : r_m t N n J M) (h8 : I (1 + 4) 8 = 0) (h8' : J (65 + 4) 8 = 0) (hsc : hs_c a q R ns O I L) (hsm : hs_m R ns O J M) (hsw : hs_w R ns) (hC : tk_C t n = 11) : ln_sp t N n a q I L J M := by
  by_cases hO : O 5 = true
  · exact ln_stood hw ha hq hc hm h8 h8' hsc hsm (j := 5) (by omega) hC hO
  obtain ⟨hcls, hnc, x, hx, hx4, hxb⟩ := hsc
  obtain ⟨hmdl, hnm, ⟨y, hy, hy16, hyb⟩, hlw⟩ := hsm
  have hl0 := hw.1
  have hxb5 : x.testBit 11 = O 5 := hxb 5 (by decide)
  have h13 : J (65 + 4) 13 = 0 := by
    rcases hlw with h | h
    · exact h.2.1
    · exact absurd h.1 hO
  have hc0 : r_c t n (lh_u2 I (a + 1 + 4) 2 0) L := hc.kp (fun o k h => by rw [q_u2o (by omega)])
  obtain ⟨I1, L1, a1, a2, a3', a4, a5⟩ := e_once1 (a := a) hw hq hc0 hx (by rw [q_u2o (by omega)]; exact hx4) (C := tk_C t n) (by omega) (by rw [hC, hxb5]; exact hO)
  have a3 : ∀ o k, ¬ (o = 5 ∧ 3 ≤ k ∧ k ≤ 6) → ¬ (o = q + 4 ∧ k = 4) → ¬ (o = a + 1 + 4 ∧ k = 2) → I1 o k = I o k := fun o k h1 h2 h3 => by rw [a3' o k h1 h2, q_u2o h3]
  have a6 : I1 (a + 1 + 4) 2 = 0 := by rw [a3' _ _ (by omega) (by omega), q_u2s]
  have hm1 := o_J_m hm (by omega) y 5
  have hro : f_LM_readLine J M = lh_bd (f_LMg lh_deep 0 (0 : Int32) (lh_u2 (o_J J y 5 n) (71 + 4) 108 0) M) fun r11 => lh_bd (f_LM_emit (0 : Int32) (0 : Int32) r11) fun r13 => some (r13, M) := by
    rw [m_line hm h8' (by omega) (by omega) (by omega), m_onceJ hm h8' hy hy16 (j := 5) (by decide) hC (by rw [hyb 5 (by decide)]; exact hO), if_pos rfl, h13]
    cases h1 : f_LMg lh_deep 0 (0 : Int32) (lh_u2 (o_J J y 5 n) (71 + 4) 108 0) M with
    | none => rfl
    | some r => rw [z_bs, z_bs]; cases f_LM_emit (0 : Int32) (0 : Int32) r <;> rfl
  have hm2 : r_m t N (n + 1) (lh_u2 (o_J J y 5 n) (71 + 4) 108 0) M := hm1.kp hm1.2.1 (by rw [q_u2o (by omega)]; exact hm1.2.2.2.2.2.1) (fun o k ho => by rw [q_u2o (by omega)])
  obtain ⟨I2, L2, J2, hh, c1, c2, c3⟩ := w_law (N := N) (M := M) hw ha (n + 1) [] _ _ _ a2 hm2 (by rw [a3 _ _ (by omega) (by omega) (by omega)]; exact h8) (by rw [q_u2o (by omega), o_J_o (by omega)]; exact h8') ⟨a6, fun i hi => absurd hi (by simp)⟩ ⟨by rw [q_u2o (by omega), o_J_o (by omega)]; exact h13, fun i hi => absurd hi (by simp)⟩ (by simp)
  have hfr : h_cf a q I I2 := fun o k h1 h2 h3 => by rw [c1 _ _ h1 (by omega) (by omega), a3 _ _ (by omega) (by omega) (by omega)]
  have hlr : h_lf q L L2 := fun o k h1 h2 => by rw [c2 _ _ (by omega), a5 _ _ (by omega)]
  have hmr : h_mf J J2 := fun o k h1 h2 h3 h4 => by rw [c3 _ _ (by omega) h3 h4, q_u2o (by omega), o_J_o (by omega)]
  rcases hh with ⟨g1, g2, g3, g4, n', es, g5, g6, g7, g8, g9, g10, g11⟩ | ⟨g1, g2, F, gF, g3, g4, c, g5, g6⟩
  · replace g1 : f_Lag lh_deep 0 a (0 : Int32) (0 : Int32) I1 L1 = some (1, I2, L2) := g1
    replace g2 : f_LMg lh_deep 0 (0 : Int32) (lh_u2 (o_J J y 5 n) (71 + 4) 108 0) M = some J2 := g2
    rw [List.nil_append] at g8 g9
    have oc := o_up_c hx (show 5 < 6 by omega) hxb
    have om := o_up_m hy (show 5 < 6 by omega) hyb
    have hN := g7.1
    have hnN := g7.2.1
    have hlen : es.length ≤ 1000 := by omega
    have ee := m_emit g9.1 (by omega) 0 0
    have hck : q_ck es 0 = true := by
      have := g11 [] 0 (by omega)
      rw [List.append_nil] at this
      rw [this]
      rfl
    have hI3 : ∀ o k, ¬ (o = 5 ∧ 3 ≤ k ∧ k ≤ 8) → ¬ (o = a + 5 ∧ k = 2) → ¬ o = a + 6 → ¬ (o = q + 4 ∧ k = 4) → I2 o k = I o k := fun o k h1 h2 h3 h4 => by rw [c1 _ _ h1 (by omega) (by omega), a3 _ _ (by omega) (by omega) (by omega)]
    have hJ3 : ∀ o k, ¬ (o = 69 ∧ (k = 7 ∨ k = 8 ∨ k = 13 ∨ k = 16)) → ¬ (o = 76 ∧ 1100 ≤ k) → ¬ (o = 77 ∧ 1100 ≤ k) → ¬ (o = 75 ∧ k = 108) → lh_u2 (lh_u2 (lh_u2 J2 (72 + 4) (1100 + es.length) 0) (73 + 4) (1100 + es.length) 0) (65 + 4) 13 (nI (es.length + 1)) o k = J o k := fun o k h1 h2 h3 h4 => by rw [q_u2o (by omega), q_u2o (by omega), q_u2o (by omega), c3 _ _ (by omega) (by omega) (by omega), q_u2o (by omega), o_J_o (by omega)]
    refine ⟨I2, L2, lh_u2 (lh_u2 (lh_u2 J2 (72 + 4) (1100 + es.length) 0) (73 + 4) (1100 + es.length) 0) (65 + 4) 13 (nI (es.length + 1)), M, Or.inl ⟨?_, ?_, ?_⟩, hfr, hlr, fun o k h1 h2 h3 h4 => by rw [q_u2o (by omega), q_u2o (by omega), q_u2o (by omega)]; exact hmr o k h1 h2 h3 h4, fun _ _ _ => rfl⟩
    · rw [eh_lineS hc hC, a1, z_bs]
      simp only []
      rw [if_neg (by decide)]
      rw [g1, z_bs]
      rfl
    · rw [hro, g2, z_bs, ee, z_bs]
    · refine ⟨g3, by rw [q_u2o (by omega), q_u2o (by omega), q_u2o (by omega)]; exact g4, n', r_lawR R es, ns, o_set O 5, by omega, g6, g7.kp hnN (by rw [q_u2o (by omega), q_u2o (by omega), q_u2o (by omega)]; exact g7.2.2.2.2.2.1) (fun o k ho => by rw [q_u2o (by omega), q_u2o (by omega), q_u2o (by omega)]), ⟨?_, ?_, x ||| 2 ^ o_b 5, oc.1, ?_, oc.2⟩, ⟨?_, ?_, ⟨y ||| 2 ^ 5, om.1, ?_, om.2⟩, ?_⟩, ?_, hsw.2.1, hsw.2.2⟩
      · obtain ⟨h1, h9, h10, h11, h12, h13, h14⟩ := hcls
        obtain ⟨k1, k2, k3, k4, k5, k6, k7, k8⟩ := h1
        refine ⟨⟨by rw [hI3 _ _ (by omega) (by omega) (by omega) (by omega)]; exact k1, by rw [hI3 _ _ (by omega) (by omega) (by omega) (by omega)]; exact k2, by rw [hI3 _ _ (by omega) (by omega) (by omega) (by omega)]; exact k3, by rw [hI3 _ _ (by omega) (by omega) (by omega) (by omega)]; exact k4, by rw [hI3 _ _ (by omega) (by omega) (by omega) (by omega)]; exact k5, by rw [hI3 _ _ (by omega) (by omega) (by omega) (by omega)]; exact k6, by rw [hI3 _ _ (by omega) (by omega) (by omega) (by omega)]; exact k7, by rw [hI3 _ _ (by omega) (by omega) (by omega) (by omega)]; exact k8⟩, fun v hv => ?_, fun v t hv ht => ?_, fun k hk => ?_, fun i hi => ?_, g8.1, g8.2⟩
        · rw [hI3 _ _ (by omega) (by omega) (by omega) (by omega), hI3 _ _ (by omega) (by omega) (by omega) (by omega), hI3 _ _ (by omega) (by omega) (by omega) (by omega)]; exact h9 v hv
        · rw [hI3 _ _ (by omega) (by omega) (by omega) (by omega)]; exact h10 v t hv ht
        · rw [hI3 _ _ (by omega) (by omega) (by omega) (by omega)]; exact h11 k hk
        · rw [hI3 _ _ (by omega) (by omega) (by omega) (by omega)]; exact h12 i hi
      · exact hnc.kp (hI3 _ _ (by omega) (by omega) (by omega) (by omega)) (fun k => by rw [c2 _ _ (by omega), a5 _ _ (by omega)])
      · rw [c1 _ _ (by omega) (by omega) (by omega), a4, hC]; rfl
      · obtain ⟨h1, h9, h10, h11⟩ := hmdl
        have hR1 := hsw.1.2.1
        have hR2 := hsw.1.2.2.1
        obtain ⟨k1, k2, k3, k4, k5, k6, k7, k8⟩ := h1
        refine ⟨⟨by rw [hJ3 _ _ (by omega) (by omega) (by omega) (by omega)]; exact k1, by rw [hJ3 _ _ (by omega) (by omega) (by omega) (by omega)]; exact k2, by rw [hJ3 _ _ (by omega) (by omega) (by omega) (by omega)]; exact k3, by rw [hJ3 _ _ (by omega) (by omega) (by omega) (by omega)]; exact k4, by rw [hJ3 _ _ (by omega) (by omega) (by omega) (by omega)]; exact k5, by rw [hJ3 _ _ (by omega) (by omega) (by omega) (by omega)]; exact k6, by rw [hJ3 _ _ (by omega) (by omega) (by omega) (by omega)]; exact k7, by rw [hJ3 _ _ (by omega) (by omega) (by omega) (by omega)]; exact k8⟩, fun v hv => ?_, fun k hk => ?_, fun i hi => ?_⟩
        · obtain ⟨u1, u2, u3, u4⟩ := h9 v hv
          exact ⟨by rw [hJ3 _ _ (by omega) (by omega) (by omega) (by omega)]; exact u1, by rw [hJ3 _ _ (by omega) (by omega) (by omega) (by omega)]; exact u2, by rw [hJ3 _ _ (by omega) (by omega) (by omega) (by omega)]; exact u3, fun t ht => by rw [hJ3 _ _ (by omega) (by omega) (by omega) (by omega)]; exact u4 t ht⟩
        · rw [hJ3 _ _ (by omega) (by omega) (by omega) (by omega)]; exact h10 k hk
        · rw [hJ3 _ _ (by omega) (by omega) (by omega) (by omega)]; exact h11 i hi
      · exact hnm.kp (hJ3 _ _ (by omega) (by omega) (by omega) (by omega))
      · rw [q_u2o (by omega), q_u2o (by omega), q_u2o (by omega), c3 _ _ (by omega) (by omega) (by omega), q_u2o (by omega)]; exact o_J_16 y 5
      · refine Or.inr ⟨rfl, ?_, q_u2s, fun i hi => ?_, ?_⟩
        · rw [q_u2o (by omega), q_u2o (by omega), q_u2o (by omega), c3 _ _ (by omega) (by omega) (by omega), q_u2s]
        · have hi' : i < es.length := hi
          rw [q_u2o (by omega), q_u2o (by omega), q_u2o (by omega), q_u2o (by omega), q_u2o (by omega), q_u2o (by omega)]; exact g9.2 i hi'
        · show lh_u2 _ _ _ _ (72 + 4) (1100 + es.length) = 0
          rw [q_u2o (by omega), q_u2o (by omega), q_u2s]
      · obtain ⟨p1, p2, p3, p4, p5, p6, p7, p8, p9, p10, p11, p12, p13⟩ := hsw.1
        exact ⟨p1, p2, p3, p4, p5, p6, p7, p8, p9, p10, p11, hck, hlen⟩
  · replace g1 : f_Lag lh_deep 0 a (0 : Int32) (0 : Int32) I1 L1 = some (0, I2, L2) := g1
    replace g2 : f_LMg lh_deep 0 (0 : Int32) (lh_u2 (o_J J y 5 n) (71 + 4) 108 0) M = some J2 := g2
    have ee := m_emit g5 (by omega) 0 0
    refine ⟨I2, L2, lh_u2 (lh_u2 (lh_u2 J2 (72 + 4) (1100 + c) 0) (73 + 4) (1100 + c) 0) (65 + 4) 13 (nI (c + 1)), M, Or.inr ⟨?_, ?_, ⟨F, gF, g3, by rw [q_u2o (by omega), q_u2o (by omega), q_u2o (by omega)]; exact g4⟩⟩, hfr, hlr, fun o k h1 h2 h3 h4 => by rw [q_u2o (by omega), q_u2o (by omega), q_u2o (by omega)]; exact hmr o k h1 h2 h3 h4, fun _ _ _ => rfl⟩
    · rw [eh_lineS hc hC, a1, z_bs]
      simp only []
      rw [if_neg (by decide)]
      rw [g1, z_bs]
      rfl
    · rw [hro, g2, z_bs, ee, z_bs]
end Q88g
