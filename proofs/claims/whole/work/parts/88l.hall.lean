/-! a hall told: both sides -/
theorem e_clear {a : Nat} (I : lh_II) : ∃ I', f_Ha_clear a I = some I' ∧ r_cls a I' st_R ∧ ∀ o k, ¬ (a + 4 ≤ o ∧ o ≤ a + 6) → I' o k = I o k := by
  obtain ⟨I1, hI1⟩ : ∃ I1, I1 = lh_u2 (lh_u2 (lh_u2 (lh_u2 (lh_u2 (lh_u2 (lh_u2 (lh_u2 I (a + 4) 9 8) (a + 4) 10 0) (a + 4) 11 0) (a + 4) 12 0) (a + 4) 13 2) (a + 4) 14 30) (a + 4) 15 0) (a + 4) 16 0 := ⟨_, rfl⟩
  have ep := e_put1 (a := a) (I := lh_u2 I1 (a + 1 + 4) 2 0) (c := 0) q_u2s (by decide) (-23)
  obtain ⟨I2, hI2⟩ : ∃ I2, I2 = lh_u2 (lh_u2 (lh_u2 I1 (a + 1 + 4) 2 0) (a + 2 + 4) 0 (-23)) (a + 1 + 4) 2 (nI (0 + 1)) := ⟨_, rfl⟩
  have h2 : ∀ k, I2 (a + 4) k = I1 (a + 4) k := fun k => by rw [hI2, q_u2o (by omega), q_u2o (by omega), q_u2o (by omega)]
  refine ⟨I2, ?_, ⟨⟨?_, ?_, ?_, ?_, ?_, ?_, ?_, ?_⟩, fun v hv => absurd hv (Nat.not_lt_zero _), fun v t hv => absurd hv (Nat.not_lt_zero _), fun k hk => absurd hk (Nat.not_lt_zero _), fun k hk => absurd hk (Nat.not_lt_zero _), ?_, fun i hi => ?_⟩, fun o k h => ?_⟩
  · unfold f_Ha_clear f_La_clear f_La_empty
    rw [← hI1, z_bs, ep, z_bs, z_bs, hI2]
  · rw [h2, hI1, q_u2o (by omega), q_u2o (by omega), q_u2o (by omega), q_u2o (by omega), q_u2o (by omega), q_u2o (by omega), q_u2o (by omega), q_u2s]; rfl
  · rw [h2, hI1, q_u2o (by omega), q_u2o (by omega), q_u2o (by omega), q_u2o (by omega), q_u2o (by omega), q_u2o (by omega), q_u2s]; rfl
  · rw [h2, hI1, q_u2o (by omega), q_u2o (by omega), q_u2o (by omega), q_u2o (by omega), q_u2o (by omega), q_u2s]; rfl
  · rw [h2, hI1, q_u2o (by omega), q_u2o (by omega), q_u2o (by omega), q_u2o (by omega), q_u2s]; rfl
  · rw [h2, hI1, q_u2o (by omega), q_u2o (by omega), q_u2o (by omega), q_u2s]; rfl
  · rw [h2, hI1, q_u2o (by omega), q_u2o (by omega), q_u2s]; rfl
  · rw [h2, hI1, q_u2o (by omega), q_u2s]; rfl
  · rw [h2, hI1, q_u2s]; rfl
  · rw [hI2, q_u2s]; rfl
  · have hi' : i < 1 := hi
    rw [show i = 0 by omega, hI2, q_u2o (by omega), q_u2s]
    decide
  · rw [hI2, q_u2o (by omega), q_u2o (by omega), q_u2o (by omega), hI1, q_u2o (by omega), q_u2o (by omega), q_u2o (by omega), q_u2o (by omega), q_u2o (by omega), q_u2o (by omega), q_u2o (by omega), q_u2o (by omega)]
theorem hr_o {I : lh_II} {q o k : Nat} (h1 : o ≠ q + 4) (h2 : o ≠ q + 5) : lh_hrI I q o k = I o k := by
  unfold lh_hrI
  rw [q_u2o (by omega), q_u2o (by omega)]
  unfold lh_zr
  rw [if_neg (by omega), if_neg (by omega)]
theorem hr_3 {I : lh_II} {q : Nat} : lh_hrI I q (q + 4) 3 = 0 ∧ lh_hrI I q (q + 4) 4 = 0 := by
  unfold lh_hrI
  exact ⟨by rw [q_u2o (by omega), q_u2s], q_u2s⟩
theorem hr_L {L : lh_LL} {q o k : Nat} (h1 : o ≠ q + 4) (h2 : o ≠ q + 5) : lh_hrL L q o k = L o k := by
  unfold lh_hrL lh_zr
  rw [if_neg (by omega), if_neg (by omega)]
section Q88m
variable {t : List Nat} {q b a2 : Nat} {I J : lh_II} {L M : lh_LL}
/-- the reference's end of a good hall -/
theorem m_hend {R : lh_Rw} {ns : List (List Nat)} {O : Nat → Bool} (hsm : hs_m R ns O J M) (hw : r_wf R) : ∃ J1 J2 J3, f_LM_hall_40 lh_fuel 0 J = some J1 ∧ f_LM_hall_57 lh_fuel 0 J1 = some J2 ∧ f_LM_begins J2 = some J3 ∧ q_md J3 (r_h R) ∧ q_mm J3 0 (r_m0 R) ∧ J3 (78 + 4) 7 = 0 ∧ J3 (75 + 4) 0 = 0 ∧ J3 (65 + 4) 21 = 0 ∧ (∀ j, j < 4 → J3 (79 + 4) j = 0) ∧ ∀ o k, ¬ (o = 75 ∧ k < 100) → ¬ (o = 76 ∧ k < 1100) → ¬ (o = 77 ∧ k < 1100) → ¬ (o = 82 ∧ k < 8) → ¬ (o = 79 ∧ k = 0) → ¬ (o = 69 ∧ k = 21) → o ≠ 83 → J3 o k = J o k := by
  obtain ⟨hmdl, -, -, hlw⟩ := hsm
  obtain ⟨J1, c1, c2, c3⟩ := m_copy40 J
  have hlen := hw.2.2.2.2.2.2.2.2.2.2.2.2
  obtain ⟨c, hc, hcl⟩ : ∃ c, J1 (65 + 4) 13 = nI c ∧ c ≤ 1100 := by
    rcases hlw with h | h
    · exact ⟨0, by rw [c3 _ _ (by omega)]; exact h.2.1, by decide⟩
    · exact ⟨R.2.2.length + 1, by rw [c3 _ _ (by omega)]; exact h.2.2.1, by omega⟩
  obtain ⟨J2, d1, d2, d3⟩ := m_copy57 hc hcl
  have hJ2 : ∀ k, k < 100 → J2 (71 + 4) k = J (71 + 4) (100 + k) := fun k hk => by rw [d3 _ _ (by omega) (by omega)]; exact c2 k hk
  have hr : r_mdl 0 J2 R := by
    have hR1 := hw.2.1
    have hR2 := hw.2.2.1
    have hR4 := hw.2.2.2.2.1
    obtain ⟨⟨k1, k2, k3, k4, k5, k6, k7, k8⟩, k9, k10, k11⟩ := hmdl
    refine ⟨⟨by rw [hJ2 _ (by omega)]; exact k1, by rw [hJ2 _ (by omega)]; exact k2, by rw [hJ2 _ (by omega)]; exact k3, by rw [hJ2 _ (by omega)]; exact k4, by rw [hJ2 _ (by omega)]; exact k5, by rw [hJ2 _ (by omega)]; exact k6, by rw [hJ2 _ (by omega)]; exact k7, by rw [hJ2 _ (by omega)]; exact k8⟩, fun v hv => ?_, fun k hk => ?_, fun i hi => ?_⟩
    · obtain ⟨g1, g2, g3, g4⟩ := k9 v hv
      have hb := (hw.2.2.2.2.2.2.2.2.1 v hv).2.2.2.1
      refine ⟨?_, ?_, ?_, fun t ht => ?_⟩
      · rw [hJ2 _ (by omega), show 100 + (0 + 9 + 11 * v) = 100 + 9 + 11 * v by omega]; exact g1
      · rw [hJ2 _ (by omega), show 100 + (0 + 10 + 11 * v) = 100 + 10 + 11 * v by omega]; exact g2
      · rw [hJ2 _ (by omega), show 100 + (0 + 11 + 11 * v) = 100 + 11 + 11 * v by omega]; exact g3
      · rw [hJ2 _ (by omega), show 100 + (0 + 12 + 11 * v + t) = 100 + 12 + 11 * v + t by omega]; exact g4 t ht
    · rw [hJ2 _ (by omega), show 100 + (0 + 75 + k) = 100 + 75 + k by omega]; exact k10 k hk
    · rw [hJ2 _ (by omega), show 100 + (0 + 79 + i) = 100 + 79 + i by omega]; exact k11 i hi
  have hl : (J2 (71 + 4) 8 = -1 ∧ R.2.2 = [(2, 0)]) ∨ (J2 (71 + 4) 8 = 0 ∧ (∀ i, i < R.2.2.length → J2 (72 + 4) i = nI (R.2.2.getD i (0, 0)).1 ∧ J2 (73 + 4) i = nI (R.2.2.getD i (0, 0)).2) ∧ J2 (72 + 4) R.2.2.length = 0) := by
    rcases hlw with h | ⟨h1, h2, h3, h4, h5⟩
    · exact Or.inl ⟨by rw [hJ2 _ (by omega)]; exact h.2.2.1, h.2.2.2⟩
    · have hcc : c = R.2.2.length + 1 := by
        rw [c3 _ _ (by omega), h3] at hc
        have := (z_eq (a := R.2.2.length + 1) (b := c) (by omega) (by omega)).mp hc
        omega
      refine Or.inr ⟨by rw [hJ2 _ (by omega)]; exact h2, fun i hi => ?_, ?_⟩
      · rw [(d2 i (by omega)).1, (d2 i (by omega)).2, c3 _ _ (by omega), c3 _ _ (by omega)]; exact h4 i hi
      · rw [(d2 _ (by omega)).1, c3 _ _ (by omega)]; exact h5
  obtain ⟨J3, b1, b2, b3, b4, b5, b6, b7⟩ := m_begins hw hr.1.1 hr.1.2.2.2.2.1 hr.1.2.2.2.2.2.1
  refine ⟨J1, J2, J3, c1, d1, b1, (m_raw hw hr hl).keep (r_h_wf hw) (fun k _ => b7 _ _ (by omega) (by omega) (by omega) (by omega)) (fun k _ => b7 _ _ (by omega) (by omega) (by omega) (by omega)) (fun k _ => b7 _ _ (by omega) (by omega) (by omega) (by omega)), b2, b3, b4, b5, b6, fun o k h1 h2 h3 h4 h5 h6 h7 => by rw [b7 _ _ h4 h5 h6 h7, d3 _ _ h2 h3, c3 _ _ h1]⟩
theorem h_joint (hw : qt_w t) (hq : 82 ≤ q) (ha : 11 ≤ a2 ∧ a2 ≤ 23) (hb : 35 ≤ b ∧ b ≤ 38) (a : Nat) (hc : qt_c I t) (hm : qt_m J t) (hk : ∀ w, w < 27 → L (3 + 4) w = q_kw w) (hk' : ∀ w, w < 27 → M (70 + 4) w = q_mw27 w) : ∃ F I' L' J' M', F ≤ 20000 ∧ f_LH_hall a b a2 q I L = some (nI F, I', L') ∧ f_LM_hall J M = some (nI F, J', M') ∧ I' (1 + 4) 2 = 0 ∧ J' (65 + 4) 2 = 0 ∧ (F = 0 → ∃ R, r_wf R ∧ (q_cl a2 I' (r_h R) ∧ q_mc I' 7 (r_m0 R) ∧ I' (b + 4) 2 = 0 ∧ I' (0 + 4) 12 = 0 ∧ I' (0 + 4) 13 = 15 ∧ I' (0 + 4) 11 = 0 ∧ ∀ j, j < 4 → I' (57 + 2 * j + 4) 1 = 0) ∧ q_md J' (r_h R) ∧ q_mm J' 0 (r_m0 R) ∧ J' (78 + 4) 7 = 0 ∧ J' (75 + 4) 0 = 0 ∧ J' (65 + 4) 21 = 0 ∧ ∀ j, j < 4 → J' (79 + 4) j = 0) ∧ (∀ o k, ¬ (o = 5 ∧ 2 ≤ k ∧ k ≤ 8) → ¬ (a2 + 4 ≤ o ∧ o ≤ a2 + 14) → o ≠ q + 4 → o ≠ q + 5 → ¬ (F = 0 ∧ (o = 11 ∨ (o = b + 4 ∧ k = 2) ∨ (o = 4 ∧ (k = 11 ∨ k = 12 ∨ k = 13)) ∨ (61 ≤ o ∧ o ≤ 67 ∧ k = 1))) → I' o k = I o k) ∧ (∀ o k, ¬ (o = 5 ∧ k = 7) → o ≠ q + 4 → o ≠ q + 5 → L' o k = L o k) ∧ (∀ o k, ¬ (o = 69 ∧ (k ≤ 8 ∨ k = 13 ∨ k = 15 ∨ k = 16)) → o ≠ 71 → o ≠ 72 → ¬ (o = 75 ∧ 100 ≤ k) → ¬ (o = 76 ∧ 1100 ≤ k) → ¬ (o = 77 ∧ 1100 ≤ k) → ¬ (F = 0 ∧ ((o = 75 ∧ k < 100) ∨ (o = 76 ∧ k < 1100) ∨ (o = 77 ∧ k < 1100) ∨ (o = 82 ∧ k < 8) ∨ (o = 79 ∧ k = 0) ∨ (o = 69 ∧ k = 21) ∨ o = 83)) → J' o k = J o k) ∧ (∀ o k, o ≠ 73 → o ≠ 78 → M' o k = M o k) := by
  obtain ⟨I0, a1, a2', a3⟩ := e_clear (a := a2) (lh_hrI I q)
  obtain ⟨I1, L1, e1, e2, e3, e4, e5⟩ := e_rbegin (I := I0) (L := lh_hrL L q) hw ⟨by rw [a3 _ _ (by omega), hr_o (by omega) (by omega)]; exact hc.1, fun i hi => by rw [a3 _ _ (by omega), hr_o (by omega) (by omega)]; exact hc.2 i hi⟩ (fun w h => by rw [hr_L (by omega) (by omega)]; exact hk w h)
  obtain ⟨N, J1, M1, c1, c2, c3, c4, c5, c6, c7, c8, c9, c10⟩ := m_cutAll (J := lh_u2 J (65 + 4) 0 0) (M := M) hw ⟨by rw [q_u2o (by omega)]; exact hm.1, fun i hi => by rw [q_u2o (by omega)]; exact hm.2 i hi⟩
  obtain ⟨J2, s1, s2, s3⟩ := m_stands (x := 100) (by decide) (lh_u2 (lh_u2 (lh_u2 J1 (65 + 4) 13 0) (65 + 4) 15 0) (65 + 4) 16 0)
  have s1' : f_LM_standsAsAlways 100 (lh_u2 (lh_u2 (lh_u2 J1 (65 + 4) 13 0) (65 + 4) 15 0) (65 + 4) 16 0) = some J2 := s1
  have hJ2 : ∀ o k, ¬ (o = 75 ∧ 100 ≤ k) → ¬ (o = 69 ∧ (k = 13 ∨ k = 15 ∨ k = 16)) → J2 o k = J1 o k := fun o k h1 h2 => by rw [s3 _ _ (by omega), q_u2o (by omega), q_u2o (by omega), q_u2o (by omega)]
  have hrm : r_m t N 0 J2 M1 := by
    refine ⟨c2, Nat.zero_le _, c3, fun m hm' => ?_, c5, by rw [hJ2 _ _ (by omega) (by omega)]; exact c7, fun w hw => by rw [c10 _ _ (by omega)]; exact hk' w hw⟩
    obtain ⟨g1, g2, g3⟩ := c4 m hm'
    exact ⟨by rw [hJ2 _ _ (by omega) (by omega)]; exact g1, by rw [hJ2 _ _ (by omega) (by omega)]; exact g2, g3⟩
  have hsc : hs_c a2 q st_R [] (fun _ => false) I1 L1 := by
    refine ⟨a2'.kp (fun o k h1 h2 => e4 _ _ (by omega)), ⟨by rw [e4 _ _ (by omega), a3 _ _ (by omega)]; exact hr_3.1, fun i hi => absurd hi (Nat.not_lt_zero _)⟩, 0, by decide, by rw [e4 _ _ (by omega), a3 _ _ (by omega)]; exact hr_3.2, fun j _ => Nat.zero_testBit _⟩
  have hsm : hs_m st_R [] (fun _ => false) J2 M1 := by
    refine ⟨⟨⟨s2 0 (by decide), s2 1 (by decide), s2 2 (by decide), s2 3 (by decide), s2 4 (by decide), s2 5 (by decide), s2 6 (by decide), s2 7 (by decide)⟩, fun v hv => absurd hv (Nat.not_lt_zero _), fun v hv => absurd hv (Nat.not_lt_zero _), fun v hv => absurd hv (Nat.not_lt_zero _)⟩, ⟨by rw [s3 _ _ (by omega), q_u2o (by omega), q_u2s]; rfl, fun i hi => absurd hi (Nat.not_lt_zero _)⟩, ⟨0, by decide, by rw [s3 _ _ (by omega), q_u2s]; rfl, fun j _ => Nat.zero_testBit _⟩, Or.inl ⟨rfl, by rw [s3 _ _ (by omega), q_u2o (by omega), q_u2o (by omega), q_u2s], s2 8 (by decide), rfl⟩⟩
  have hsw : hs_w st_R [] := ⟨st_wf, fun w hw => absurd hw (by simp), rfl⟩
  obtain ⟨F, I2, L2, J3, M3, x1, x2, x3, x4, x5, x6, x7, x8, x9, x10⟩ := hl_loop (a := a2) (q := q) hw ha hq N lh_fuel lh_fuel 0 0 st_R [] (fun _ => false) I1 L1 J2 M1 (by omega) (by unfold lh_fuel; omega) (by unfold lh_fuel; omega) (Nat.le_refl _) e2 hrm e3 (by rw [hJ2 _ _ (by omega) (by omega)]; exact c8) hsc hsm hsw
  have x1' : f_Hr_readLines_8 a2 q lh_fuel 0 I1 L1 = some (I2, L2) := x1
  have hrl : f_Hr_readLines a2 q (lh_hrI I q) (lh_hrL L q) = some (nI F, lh_u2 I2 (1 + 4) 2 0, L2) := by
    unfold f_Hr_readLines f_Re_finish
    rw [a1, z_bs, e1, z_bs]
    simp only []
    rw [x1', z_bs, z_bs, q_u2o (by omega)]
    simp only []
    rw [x3]
  have hIf : ∀ o k, ¬ (o = 5 ∧ 2 ≤ k ∧ k ≤ 8) → ¬ (a2 + 4 ≤ o ∧ o ≤ a2 + 14) → o ≠ q + 4 → o ≠ q + 5 → lh_u2 I2 (1 + 4) 2 0 o k = I o k := fun o k h1 h2 h3 h4 => by
    rw [q_u2o (by omega), x7 _ _ (by omega) h2 h3, e4 _ _ (by omega), a3 _ _ (by omega), hr_o h3 h4]
  have hLf : ∀ o k, ¬ (o = 5 ∧ k = 7) → o ≠ q + 4 → o ≠ q + 5 → L2 o k = L o k := fun o k h1 h2 h3 => by rw [x8 _ _ h1 h3, e5 _ _ h1, hr_L h2 h3]
  have hJf : ∀ o k, ¬ (o = 69 ∧ (k ≤ 8 ∨ k = 13 ∨ k = 15 ∨ k = 16)) → o ≠ 71 → o ≠ 72 → ¬ (o = 75 ∧ 100 ≤ k) → ¬ (o = 76 ∧ 1100 ≤ k) → ¬ (o = 77 ∧ 1100 ≤ k) → J3 o k = J o k := fun o k h1 h2 h3 h4 h5 h6 => by
    rw [x9 _ _ (by omega) h4 h5 h6, hJ2 _ _ h4 (by omega), c9 _ _ h2 h3 (by omega), q_u2o (by omega)]
  have hMf : ∀ o k, o ≠ 73 → o ≠ 78 → M3 o k = M o k := fun o k h1 h2 => by rw [x10 _ _ h2, c10 _ _ h1]
  have hJ32 : J3 (65 + 4) 2 = 0 := by rw [x9 _ _ (by omega) (by omega) (by omega) (by omega), hJ2 _ _ (by omega) (by omega)]; exact c6
  have hmod : f_LM_hall J M = if J3 (65 + 4) 8 ≤ 0 then lh_bd (f_LM_hall_40 lh_fuel 0 J3) fun r18 => lh_bd (f_LM_hall_57 lh_fuel 0 r18) fun r25 => lh_bd (f_LM_begins r25) fun r27 => some (0, r27, M3) else some (J3 (65 + 4) 8, J3, M3) := by
    unfold f_LM_hall
    rw [c1, z_bs]
    simp only []
    rw [s1', z_bs, x2, z_bs]
  by_cases h0 : F = 0
  · obtain ⟨R, ns, O, y1, y2, y3⟩ := x6 h0
    have hcl2 : r_cls a2 (lh_u2 I2 (1 + 4) 2 0) R := y1.1.kp (fun o k h1 h2 => q_u2o (by omega))
    obtain ⟨I4, g1, g2, g3⟩ := e_settle y3.1 hcl2
    obtain ⟨I5, k1, k2, k3, k4, k5, k6, k7, k8⟩ := e_anew g2 ha hb
    obtain ⟨J4, J5, J6, m1, m2, m3, m4, m5, m6, m7, m8, m9, m10⟩ := m_hend y2 y3.1
    refine ⟨F, I5, L2, J6, M3, x5, ?_, ?_, ?_, ?_, fun _ => ⟨R, y3.1, ⟨g2.keep (fun j k hj hj3 => k8 _ _ (by omega) (by omega) (by omega) (by omega)), k2, k3, k4, k5, k6, k7⟩, m4, m5, m6, m7, m8, m9⟩, fun o k h1 h2 h3 h4 h5 => ?_, hLf, fun o k h1 h2 h3 h4 h5 h6 h7 => ?_, hMf⟩
    · unfold f_LH_hall
      rw [hrl, z_bs]
      simp only []
      rw [if_pos (by rw [h0]; rfl), g1, z_bs, k1, z_bs]
    · rw [hmod, x4, h0, if_pos (by decide), m1, z_bs, m2, z_bs, m3, z_bs]
      rfl
    · rw [k8 _ _ (by omega) (by omega) (by omega) (by omega), g3 _ _ (by omega) (by omega) (by omega) (by omega) (by omega), q_u2s]
    · rw [m10 _ _ (by omega) (by omega) (by omega) (by omega) (by omega) (by omega) (by omega)]; exact hJ32
    · rw [k8 _ _ (by omega) (by omega) (by omega) (by omega), g3 _ _ (by omega) (by omega) (by omega) (by omega) (by omega)]; exact hIf o k h1 h2 h3 h4
    · rw [m10 _ _ (by omega) (by omega) (by omega) (by omega) (by omega) (by omega) (by omega)]; exact hJf o k h1 h2 h3 h4 h5 h6
  · have hne := fl_ne (F := F) (by omega)
    refine ⟨F, lh_u2 I2 (1 + 4) 2 0, L2, J3, M3, x5, ?_, ?_, q_u2s, hJ32, fun h => absurd h h0, fun o k h1 h2 h3 h4 _ => hIf o k h1 h2 h3 h4, hLf, fun o k h1 h2 h3 h4 h5 h6 _ => hJf o k h1 h2 h3 h4 h5 h6, hMf⟩
    · unfold f_LH_hall
      rw [hrl, z_bs]
      simp only []
      rw [if_neg hne.1]
    · rw [hmod, x4, if_neg hne.2]
end Q88m
