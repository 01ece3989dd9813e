/-! a visitor's line, from its end -/
def e_vr3 (a q v : Nat) (I : lh_II) (L : lh_LL) : Option (Int32 × lh_II × lh_LL) := lh_bd (f_Re_take (nI 4) I L) fun r22 => if r22.1 = 0 then some (0, r22.2.1, r22.2.2) else lh_bd (f_Hr_readCells a q (a + 7) 48 (nI (v * 8)) r22.2.1 r22.2.2) fun r25 => if ((lh_u2 (lh_u2 r25.2.1 (a + 6 + 4) v r25.1) (a + 4) 11 (((lh_u2 r25.2.1 (a + 6 + 4) v r25.1) (a + 4) 11) + 1)) (1 + 4) 8) = 0 then some (1, lh_u2 (lh_u2 r25.2.1 (a + 6 + 4) v r25.1) (a + 4) 11 (((lh_u2 r25.2.1 (a + 6 + 4) v r25.1) (a + 4) 11) + 1), r25.2.2) else some (0, lh_u2 (lh_u2 r25.2.1 (a + 6 + 4) v r25.1) (a + 4) 11 (((lh_u2 r25.2.1 (a + 6 + 4) v r25.1) (a + 4) 11) + 1), r25.2.2)
def e_vr2 (a q v : Nat) (I : lh_II) (L : lh_LL) : Option (Int32 × lh_II × lh_LL) := lh_bd (f_Re_take (nI 3) I L) fun r13 => if r13.1 = 0 then some (0, r13.2.1, r13.2.2) else lh_bd (f_Re_wantNumber (nI 0) (nI 3) r13.2.1) fun r16 => if r16.1 = 0 then some (0, r16.2, r13.2.2) else lh_bd (f_Re_advance (lh_u2 r16.2 (a + 5 + 4) v (r16.2 (1 + 4) 6)) r13.2.2) fun r20 => e_vr3 a q v r20.1 r20.2
def e_vr1 (a q v : Nat) (I : lh_II) (L : lh_LL) : Option (Int32 × lh_II × lh_LL) := if (I (1 + 4) 4) < 16 then lh_bd (f_Re_refuse (1 : Int32) I) fun r6 => lh_gd (lh_z r6.1) (some (r6.1, r6.2, L)) else if (I (1 + 4) 4) ≤ 19 then lh_bd (f_Re_advance (lh_u2 I (a + 4 + 4) v ((0 + (I (1 + 4) 4)) - 16)) L) fun r11 => e_vr2 a q v r11.1 r11.2 else lh_bd (f_Re_refuse (1 : Int32) I) fun r29 => lh_gd (lh_z r29.1) (some (r29.1, r29.2, L))
def m_vr3 (v : Nat) (x1 x2 : Int32) (J : lh_II) (M : lh_LL) : Option (lh_II × lh_LL) := lh_bd (f_LM_takeWord (nI 4) J M) fun r7 => if (r7 (65 + 4) 8) = 0 then lh_bd (f_LM_readCells (nI (112 + 11 * v)) (lh_u2 (lh_u2 r7 (71 + 4) (109 + 11 * v) x1) (71 + 4) (110 + 11 * v) x2) M) fun r12 => some (lh_u2 r12.2 (71 + 4) (111 + 11 * v) r12.1, M) else some (r7, M)
def m_vr2 (v : Nat) (x1 : Int32) (J : lh_II) (M : lh_LL) : Option (lh_II × lh_LL) := lh_bd (f_LM_takeAfter (nI 3) (nI 0) (nI 3) J M) fun r5 => m_vr3 v x1 r5.1 r5.2 M
def m_vr1 (v : Nat) (J : lh_II) (M : lh_LL) : Option (lh_II × lh_LL) := lh_bd (f_LM_takeOne 16 4 J M) fun r3 => m_vr2 v r3.1 r3.2 M
section Q88k
variable {t : List Nat} {a q N n v : Nat} {I : lh_II} {L : lh_LL} {J : lh_II} {M : lh_LL}
theorem m_vr3' (v : Nat) (x1 x2 : Int32) (M : lh_LL) (hn : ¬ J (65 + 4) 8 = 0) : m_vr3 v x1 x2 J M = some (J, M) := by
  unfold m_vr3
  rw [m_tword' M hn, z_bs, if_neg hn]
theorem m_vr2' (v : Nat) (x1 : Int32) (M : lh_LL) (hn : ¬ J (65 + 4) 8 = 0) (hg : ¬ J (65 + 4) 8 ≤ 0) : m_vr2 v x1 J M = some (J, M) := by
  unfold m_vr2
  rw [m_tafter' M hn hg, z_bs, m_vr3' v _ _ M hn]
theorem m_vr1' (v : Nat) (M : lh_LL) (hn : ¬ J (65 + 4) 8 = 0) (hg : ¬ J (65 + 4) 8 ≤ 0) : m_vr1 v J M = some (J, M) := by
  unfold m_vr1
  rw [m_tone' M hn hg, z_bs, m_vr2' v _ M hn hg]
theorem fl_ne {F : Nat} (h : 1 ≤ F ∧ F ≤ 20000) : ¬ nI F = 0 ∧ ¬ nI F ≤ 0 := by
  refine ⟨?_, ?_⟩
  · rw [z_eqR 0 (by decide) (by omega)]; show ¬ F = 0; omega
  · rw [z_leR 0 (by decide) (by omega)]; show ¬ F ≤ 0; omega
theorem ln_v3 (hw : qt_w t) (ha : 11 ≤ a ∧ a ≤ 23) (hv : v < 6) (hc : r_c t n I L) (hm : r_m t N n J M) (h8 : I (1 + 4) 8 = 0) (h8' : J (65 + 4) 8 = 0) (h11 : I (a + 4) 11 = nI v) (x1 x2 : Int32) : ∃ I' L' J', ((e_vr3 a q v I L = some (1, I', L') ∧ m_vr3 v x1 x2 J M = some (J', M) ∧ I' (1 + 4) 8 = 0 ∧ J' (65 + 4) 8 = 0 ∧ (∃ n', n < n' ∧ r_c t n' I' L' ∧ r_m t N n' J' M) ∧ (∃ (m : Nat) (cs : Nat → Nat), (1 ≤ m ∧ m ≤ 8) ∧ (∀ i, i < m → cs i < 12 ∧ I' (a + 7 + 4) (v * 8 + i) = nI (cs i) ∧ J' (71 + 4) (112 + 11 * v + i) = nI (cs i)) ∧ I' (a + 6 + 4) v = nI m ∧ J' (71 + 4) (111 + 11 * v) = nI m) ∧ I' (a + 4) 11 = nI (v + 1) ∧ J' (71 + 4) (109 + 11 * v) = x1 ∧ J' (71 + 4) (110 + 11 * v) = x2) ∨ (e_vr3 a q v I L = some (0, I', L') ∧ m_vr3 v x1 x2 J M = some (J', M) ∧ ln_no I' J')) ∧ (∀ o k, ¬ (o = 5 ∧ 3 ≤ k ∧ k ≤ 8) → ¬ (o = a + 10 ∧ k = v) → ¬ (o = a + 4 ∧ k = 11) → ¬ (o = a + 11 ∧ v * 8 ≤ k ∧ k < v * 8 + 8) → I' o k = I o k) ∧ r_lf L L' ∧ (∀ o k, ¬ (o = 69 ∧ (k = 7 ∨ k = 8)) → ¬ (o = 75 ∧ 109 + 11 * v ≤ k ∧ k < 120 + 11 * v) → J' o k = J o k) := by
  have hl0 := hw.1
  have hP := tk_P_le t n
  obtain ⟨et1, et0⟩ := e_take hw hc h8 (x := 4) (by omega)
  by_cases hC : tk_C t n = 4
  · obtain ⟨I1, L1, a1, a2, a3, a4⟩ := et1 hC
    have hn := hm.nx (by omega)
    have hI8 : I1 (1 + 4) 8 = 0 := by rw [a3 _ _ (by omega)]; exact h8
    have ew := m_tword1 hm h8' (w := 4) (by decide) hC
    obtain ⟨J1, hJ1⟩ : ∃ J1, J1 = lh_u2 (lh_u2 (lh_u2 J (65 + 4) 7 (nI (n + 1))) (71 + 4) (109 + 11 * v) x1) (71 + 4) (110 + 11 * v) x2 := ⟨_, rfl⟩
    have hm1 : r_m t N (n + 1) J1 M := hm.kp (by omega) (by rw [hJ1, q_u2o (by omega), q_u2o (by omega), q_u2s]) (fun o k ho => by rw [hJ1, q_u2o (by omega), q_u2o (by omega), q_u2o (by omega)])
    have hJ8 : J1 (65 + 4) 8 = 0 := by rw [hJ1, q_u2o (by omega), q_u2o (by omega), q_u2o (by omega)]; exact h8'
    obtain ⟨I2, L2, J2, hh, c1, c2, c3⟩ := c_read (q := q) (a := a) (z := a + 7) (nz := 48) (v2 := v * 8) (x1 := 112 + 11 * v) hw (by omega) (by omega) (by omega) (by omega) a2 hm1 hI8 hJ8
    have h112 : I2 (a + 4) 11 = nI v := by rw [c1 _ _ (by omega) (by omega), a3 _ _ (by omega)]; exact h11
    have hmd : m_vr3 v x1 x2 J M = lh_bd (f_LM_readCells (nI (112 + 11 * v)) J1 M) fun r12 => some (lh_u2 r12.2 (71 + 4) (111 + 11 * v) r12.1, M) := by
      unfold m_vr3
      rw [ew, z_bs, if_pos (by rw [q_u2o (by omega)]; exact h8'), ← hJ1]
    have hcd : ∀ r : Int32, f_Hr_readCells a q (a + 7) 48 (nI (v * 8)) I1 L1 = some (r, I2, L2) → e_vr3 a q v I L = if I2 (1 + 4) 8 = 0 then some (1, lh_u2 (lh_u2 I2 (a + 6 + 4) v r) (a + 4) 11 (nI (v + 1)), L2) else some (0, lh_u2 (lh_u2 I2 (a + 6 + 4) v r) (a + 4) 11 (nI (v + 1)), L2) := by
      intro r hr
      unfold e_vr3
      rw [a1, z_bs]
      simp only []
      rw [if_neg (by decide), hr, z_bs]
      simp only []
      rw [q_u2o (o' := a + 4) (k' := 11) (by omega), h112, z_addL, q_u2o (o' := 1 + 4) (k' := 8) (by omega), q_u2o (o' := 1 + 4) (k' := 8) (by omega)]
    have hfr : ∀ r : Int32, ∀ o k, ¬ (o = 5 ∧ 3 ≤ k ∧ k ≤ 8) → ¬ (o = a + 10 ∧ k = v) → ¬ (o = a + 4 ∧ k = 11) → ¬ (o = a + 11 ∧ v * 8 ≤ k ∧ k < v * 8 + 8) → lh_u2 (lh_u2 I2 (a + 6 + 4) v r) (a + 4) 11 (nI (v + 1)) o k = I o k := fun r o k h1 h2 h3 h4 => by rw [q_u2o (by omega), q_u2o (by omega), c1 _ _ h1 (by omega), a3 _ _ (by omega)]
    have hfm : ∀ r : Int32, ∀ o k, ¬ (o = 69 ∧ (k = 7 ∨ k = 8)) → ¬ (o = 75 ∧ 109 + 11 * v ≤ k ∧ k < 120 + 11 * v) → lh_u2 J2 (71 + 4) (111 + 11 * v) r o k = J o k := fun r o k h1 h2 => by rw [q_u2o (by omega), c3 _ _ h1 (by omega), hJ1, q_u2o (by omega), q_u2o (by omega), q_u2o (by omega)]
    have hfl : r_lf L L2 := fun o k h => by rw [c2 _ _ h, a4 _ _ h]
    rcases hh with ⟨m, cs, g1, g2, g3, g4, n', g5, g6, g7, g8, g9⟩ | ⟨r, r', B, gB, g1, g2, g3, g4⟩
    · refine ⟨lh_u2 (lh_u2 I2 (a + 6 + 4) v (nI m)) (a + 4) 11 (nI (v + 1)), L2, lh_u2 J2 (71 + 4) (111 + 11 * v) (nI m), Or.inl ⟨?_, ?_, ?_, ?_, ⟨n', by omega, g6.kp (fun o k h => by rw [q_u2o (by omega), q_u2o (by omega)]), g7.kp g7.2.1 (by rw [q_u2o (by omega)]; exact g7.2.2.2.2.2.1) (fun o k ho => by rw [q_u2o (by omega)])⟩, ⟨m, cs, g8, fun i hi => ?_, ?_, q_u2s⟩, q_u2s, ?_, ?_⟩, hfr _, hfl, hfm _⟩
      · rw [hcd _ g1, if_pos g3]
      · rw [hmd, g2, z_bs]
      · rw [q_u2o (by omega), q_u2o (by omega)]; exact g3
      · rw [q_u2o (by omega)]; exact g4
      · obtain ⟨k1, k2, k3⟩ := g9 i hi
        exact ⟨k1, by rw [q_u2o (by omega), q_u2o (by omega)]; exact k2, by rw [q_u2o (by omega)]; exact k3⟩
      · rw [q_u2o (by omega), q_u2s]
      · rw [q_u2o (by omega), c3 _ _ (by omega) (by omega), hJ1, q_u2o (by omega), q_u2s]
      · rw [q_u2o (by omega), c3 _ _ (by omega) (by omega), hJ1, q_u2s]
    · have hne := fl_ne gB
      refine ⟨lh_u2 (lh_u2 I2 (a + 6 + 4) v r) (a + 4) 11 (nI (v + 1)), L2, lh_u2 J2 (71 + 4) (111 + 11 * v) r', Or.inr ⟨?_, ?_, B, gB, ?_, ?_⟩, hfr _, hfl, hfm _⟩
      · rw [hcd _ g1, if_neg (by rw [g3]; exact hne.1)]
      · rw [hmd, g2, z_bs]
      · rw [q_u2o (by omega), q_u2o (by omega)]; exact g3
      · rw [q_u2o (by omega)]; exact g4
  · have ew := m_tword0 hm h8' (w := 4) (by decide) hC
    have hne := tk_ne (x := 1) (p := tk_P t n) (by decide) (by decide) (by omega)
    refine ⟨lh_u2 I (1 + 4) 8 (nI (1 + 16 * tk_P t n)), L, lh_u2 J (65 + 4) 8 (nI (1 + 16 * tk_P t n)), Or.inr ⟨?_, ?_, 1 + 16 * tk_P t n, tk_fb (by omega) (by omega) (by omega), q_u2s, q_u2s⟩, fun o k h _ _ _ => q_u2o (by omega), fun _ _ _ => rfl, fun o k h _ => q_u2o (by omega)⟩
    · unfold e_vr3
      rw [et0 hC, z_bs]
      simp only []
      rw [if_pos trivial]
    · unfold m_vr3
      rw [ew, z_bs, if_neg (by rw [q_u2s]; exact hne)]
theorem ln_v2 (hw : qt_w t) (ha : 11 ≤ a ∧ a ≤ 23) (hv : v < 6) (hc : r_c t n I L) (hm : r_m t N n J M) (h8 : I (1 + 4) 8 = 0) (h8' : J (65 + 4) 8 = 0) (h11 : I (a + 4) 11 = nI v) (x1 : Int32) : ∃ I' L' J', ((e_vr2 a q v I L = some (1, I', L') ∧ m_vr2 v x1 J M = some (J', M) ∧ I' (1 + 4) 8 = 0 ∧ J' (65 + 4) 8 = 0 ∧ (∃ n', n < n' ∧ r_c t n' I' L' ∧ r_m t N n' J' M) ∧ (∃ (m : Nat) (cs : Nat → Nat), (1 ≤ m ∧ m ≤ 8) ∧ (∀ i, i < m → cs i < 12 ∧ I' (a + 7 + 4) (v * 8 + i) = nI (cs i) ∧ J' (71 + 4) (112 + 11 * v + i) = nI (cs i)) ∧ I' (a + 6 + 4) v = nI m ∧ J' (71 + 4) (111 + 11 * v) = nI m) ∧ I' (a + 4) 11 = nI (v + 1) ∧ J' (71 + 4) (109 + 11 * v) = x1 ∧ (∃ dy, dy < 4 ∧ I' (a + 5 + 4) v = nI dy ∧ J' (71 + 4) (110 + 11 * v) = nI dy)) ∨ (e_vr2 a q v I L = some (0, I', L') ∧ m_vr2 v x1 J M = some (J', M) ∧ ln_no I' J')) ∧ (∀ o k, ¬ (o = 5 ∧ 3 ≤ k ∧ k ≤ 8) → ¬ ((o = a + 9 ∨ o = a + 10) ∧ k = v) → ¬ (o = a + 4 ∧ k = 11) → ¬ (o = a + 11 ∧ v * 8 ≤ k ∧ k < v * 8 + 8) → I' o k = I o k) ∧ r_lf L L' ∧ (∀ o k, ¬ (o = 69 ∧ (k = 7 ∨ k = 8)) → ¬ (o = 75 ∧ 109 + 11 * v ≤ k ∧ k < 120 + 11 * v) → J' o k = J o k) := by
  obtain ⟨I3, L3, J3, hh, c1, c2, c3⟩ := ln_after hw (w := 3) (hi := 3) (by decide) (by decide) hc hm h8 h8'
  rcases hh with ⟨dy, d1, d2, d3, d4, d5, d6, d7, d8, d9⟩ | ⟨d1, ⟨F, gF, d2, d3⟩, d4⟩
  · obtain ⟨I5, L5, e1, e2, e3, e4⟩ := e_adv hw (r_c.kp (I' := lh_u2 I3 (a + 5 + 4) v (nI dy)) d6 (fun o k h => by rw [q_u2o (by omega)]))
    obtain ⟨I6, L6, J6, hh, f1, f2, f3⟩ := ln_v3 (q := q) hw ha hv e2 d7 (by rw [e3 _ _ (by omega), q_u2o (by omega)]; exact d8) d9 (by rw [e3 _ _ (by omega), q_u2o (by omega), c1 _ _ (by omega)]; exact h11) x1 (nI dy)
    have hce : e_vr2 a q v I L = e_vr3 a q v I5 L5 := by
      unfold e_vr2
      rw [d1, z_bs]
      simp only []
      rw [if_neg (by decide), d2, z_bs]
      simp only []
      rw [if_neg (by decide), d5, e1, z_bs]
    have hme : m_vr2 v x1 J M = m_vr3 v x1 (nI dy) J3 M := by
      unfold m_vr2
      rw [d3, z_bs]
    refine ⟨I6, L6, J6, ?_, fun o k h1 h2 h3 h4 => by rw [f1 _ _ h1 (by omega) h3 h4, e3 _ _ (by omega), q_u2o (by omega), c1 _ _ h1], fun o k h => by rw [f2 _ _ h, e4 _ _ h, c2 _ _ h], fun o k h1 h2 => by rw [f3 _ _ h1 h2, c3 _ _ h1]⟩
    rcases hh with ⟨g1, g2, g3, g4, ⟨n', g5, g6⟩, g7, g8, g9, g10⟩ | ⟨g1, g2, g3⟩
    · exact Or.inl ⟨hce.trans g1, hme.trans g2, g3, g4, ⟨n', by omega, g6⟩, g7, g8, g9, dy, by omega, by rw [f1 _ _ (by omega) (by omega) (by omega) (by omega), e3 _ _ (by omega), q_u2s], g10⟩
    · exact Or.inr ⟨hce.trans g1, hme.trans g2, g3⟩
  · have hne := fl_ne gF
    refine ⟨I3, L3, J3, Or.inr ⟨?_, ?_, F, gF, d2, d3⟩, fun o k h1 _ _ _ => c1 _ _ h1, c2, fun o k h1 _ => c3 _ _ h1⟩
    · unfold e_vr2
      rcases d4 with d4 | ⟨I4, d4, d5⟩
      · rw [d4, z_bs]
        simp only []
        rw [if_pos trivial]
      · rw [d4, z_bs]
        simp only []
        rw [if_neg (by decide), d5, z_bs]
        simp only []
        rw [if_pos trivial]
    · unfold m_vr2
      rw [d1, z_bs]
      exact m_vr3' (J := J3) v _ _ M (by rw [d3]; exact hne.1)
theorem ln_v1 (hw : qt_w t) (ha : 11 ≤ a ∧ a ≤ 23) (hv : v < 6) (hc : r_c t n I L) (hm : r_m t N n J M) (h8 : I (1 + 4) 8 = 0) (h8' : J (65 + 4) 8 = 0) (h11 : I (a + 4) 11 = nI v) : ∃ I' L' J', ((e_vr1 a q v I L = some (1, I', L') ∧ m_vr1 v J M = some (J', M) ∧ I' (1 + 4) 8 = 0 ∧ J' (65 + 4) 8 = 0 ∧ (∃ n', n < n' ∧ r_c t n' I' L' ∧ r_m t N n' J' M) ∧ (∃ (m : Nat) (cs : Nat → Nat), (1 ≤ m ∧ m ≤ 8) ∧ (∀ i, i < m → cs i < 12 ∧ I' (a + 7 + 4) (v * 8 + i) = nI (cs i) ∧ J' (71 + 4) (112 + 11 * v + i) = nI (cs i)) ∧ I' (a + 6 + 4) v = nI m ∧ J' (71 + 4) (111 + 11 * v) = nI m) ∧ I' (a + 4) 11 = nI (v + 1) ∧ (∃ kd, kd < 4 ∧ I' (a + 4 + 4) v = nI kd ∧ J' (71 + 4) (109 + 11 * v) = nI kd) ∧ (∃ dy, dy < 4 ∧ I' (a + 5 + 4) v = nI dy ∧ J' (71 + 4) (110 + 11 * v) = nI dy)) ∨ (e_vr1 a q v I L = some (0, I', L') ∧ m_vr1 v J M = some (J', M) ∧ ln_no I' J')) ∧ (∀ o k, ¬ (o = 5 ∧ 3 ≤ k ∧ k ≤ 8) → ¬ ((o = a + 8 ∨ o = a + 9 ∨ o = a + 10) ∧ k = v) → ¬ (o = a + 4 ∧ k = 11) → ¬ (o = a + 11 ∧ v * 8 ≤ k ∧ k < v * 8 + 8) → I' o k = I o k) ∧ r_lf L L' ∧ (∀ o k, ¬ (o = 69 ∧ (k = 7 ∨ k = 8)) → ¬ (o = 75 ∧ 109 + 11 * v ≤ k ∧ k < 120 + 11 * v) → J' o k = J o k) := by
  have hl0 := hw.1
  have hP := tk_P_le t n
  have hb := (tk_C_b t n).1
  have h4 : I (1 + 4) 4 = nI (tk_C t n) := hc.2.2.1
  by_cases hC : 16 ≤ tk_C t n ∧ tk_C t n ≤ 19
  · have hn := hm.nx (by omega)
    have ek := m_tone1 hm h8' hC
    have hx0 : ((0 : Int32) + nI (tk_C t n)) - 16 = nI (tk_C t n - 16) := by
      rw [z_addR, z_subL 16 (by show 16 ≤ 0 + tk_C t n; omega)]
      show nI (0 + tk_C t n - 16) = _
      rw [Nat.zero_add]
    obtain ⟨I5, L5, e1, e2, e3, e4⟩ := e_adv hw (r_c.kp (I' := lh_u2 I (a + 4 + 4) v (nI (tk_C t n - 16))) hc (fun o k h => by rw [q_u2o (by omega)]))
    have hm1 : r_m t N (n + 1) (lh_u2 J (65 + 4) 7 (nI (n + 1))) M := hm.kp (by omega) q_u2s (fun o k ho => by rw [q_u2o (by omega)])
    obtain ⟨I6, L6, J6, hh, f1, f2, f3⟩ := ln_v2 (q := q) hw ha hv e2 hm1 (by rw [e3 _ _ (by omega), q_u2o (by omega)]; exact h8) (by rw [q_u2o (by omega)]; exact h8') (by rw [e3 _ _ (by omega), q_u2o (by omega)]; exact h11) (nI (tk_C t n - 16))
    have hce : e_vr1 a q v I L = e_vr2 a q v I5 L5 := by
      unfold e_vr1
      rw [h4, if_neg (by rw [z_ltR 16 (by decide) (by omega)]; show ¬ tk_C t n < 16; omega), if_pos (by rw [z_leR 19 (by decide) (by omega)]; exact hC.2), hx0, e1, z_bs]
    have hme : m_vr1 v J M = m_vr2 v (nI (tk_C t n - 16)) (lh_u2 J (65 + 4) 7 (nI (n + 1))) M := by
      unfold m_vr1
      rw [ek, z_bs]
    refine ⟨I6, L6, J6, ?_, fun o k h1 h2 h3 h4 => by rw [f1 _ _ h1 (by omega) h3 h4, e3 _ _ (by omega), q_u2o (by omega)], fun o k h => by rw [f2 _ _ h, e4 _ _ h], fun o k h1 h2 => by rw [f3 _ _ h1 h2, q_u2o (by omega)]⟩
    rcases hh with ⟨g1, g2, g3, g4, ⟨n', g5, g6⟩, g7, g8, g9, g10⟩ | ⟨g1, g2, g3⟩
    · exact Or.inl ⟨hce.trans g1, hme.trans g2, g3, g4, ⟨n', by omega, g6⟩, g7, g8, ⟨tk_C t n - 16, by omega, by rw [f1 _ _ (by omega) (by omega) (by omega) (by omega), e3 _ _ (by omega), q_u2s], g9⟩, g10⟩
    · exact Or.inr ⟨hce.trans g1, hme.trans g2, g3⟩
  · have ek := m_tone0 hw hm h8' hC
    have er : f_Re_refuse 1 I = _ := e_refuse hc h8 1
    have hne := tk_ne (x := 1) (p := tk_P t n) (by decide) (by decide) (by omega)
    have hng := tk_ng (x := 1) (p := tk_P t n) (by decide) (by decide) (by omega)
    refine ⟨lh_u2 I (1 + 4) 8 (nI (1 + 16 * tk_P t n)), L, lh_u2 J (65 + 4) 8 (nI (1 + 16 * tk_P t n)), Or.inr ⟨?_, ?_, 1 + 16 * tk_P t n, tk_fb (by omega) (by omega) (by omega), q_u2s, q_u2s⟩, fun o k h _ _ _ => q_u2o (by omega), fun _ _ _ => rfl, fun o k h _ => q_u2o (by omega)⟩
    · unfold e_vr1
      rw [h4]
      by_cases h16 : tk_C t n < 16
      · rw [if_pos (by rw [z_ltR 16 (by decide) (by omega)]; exact h16), er, z_bs]
        rfl
      · rw [if_neg (by rw [z_ltR 16 (by decide) (by omega)]; exact h16), if_neg (by rw [z_leR 19 (by decide) (by omega)]; show ¬ tk_C t n ≤ 19; omega), er, z_bs]
        rfl
    · unfold m_vr1
      rw [ek, z_bs]
      exact m_vr2' (J := lh_u2 J (65 + 4) 8 (nI (1 + 16 * tk_P t n))) v _ M (by rw [q_u2s]; exact hne) (by rw [q_u2s]; exact hng)
end Q88k
