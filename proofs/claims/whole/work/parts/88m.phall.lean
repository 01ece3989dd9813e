/-! lh_P1 -/
theorem r_m0_w {R : lh_Rw} (w : r_wf R) (n : Nat) : q_mw (r_h R) n (r_m0 R) := by
  refine ⟨?_, ?_, ?_, ?_, Nat.zero_le _, ?_⟩
  · exact r_cl_lt w _
  · show 0 < 8; decide
  · show 0 < 4; decide
  · exact w.2.2.2.2.2.1
  · show 0 < 2 ^ _; exact Nat.two_pow_pos _
theorem p_hall : lh_P1 lh_inv := by
  intro t a b a2 b2 n I L hn hi
  obtain ⟨s, w, c, m, ha, fc, f0, fm⟩ := hi.opx
  have ht : qt_w (s_t s) := w.2.2.2.2.2.2.1
  have hc : qt_c I (s_t s) := c.2.2.2.2.2.2
  have hm : qt_m I (s_t s) := m.2.2.2.2.2.2
  obtain ⟨ha', hb', -, hL⟩ := hi
  have hbb : 35 ≤ b ∧ b ≤ 38 := by omega
  have haa : 11 ≤ a2 ∧ a2 ≤ 23 := by omega
  obtain ⟨F0, I0, L0, J0, M0, -, y2, -, -, -, -, y7, y8, -⟩ := h_joint ht hn haa hbb a hc hm (fun w h => (hL w h).1) (fun w h => (hL w h).2)
  have hm0 : qt_m I0 (s_t s) := ⟨by rw [y7 _ _ (by omega) (by omega) (by omega) (by omega) (by omega)]; exact hm.1, fun i hi' => by rw [y7 _ _ (by omega) (by omega) (by omega) (by omega) (by omega)]; exact hm.2 i hi'⟩
  obtain ⟨F, I1, L1, J1, M1, x1, x2, x3, x4, x5, x6, x7, x8, x9, x10⟩ := h_joint (M := L0) ht hn haa hbb a hc hm0 (fun w h => (hL w h).1) (fun w h => by rw [y8 _ _ (by omega) (by omega) (by omega)]; exact (hL w h).2)
  have hinj : (nI F0, I0, L0) = (nI F, I1, L1) := Option.some.inj (y2.symm.trans x2)
  obtain ⟨-, hI, hL0⟩ : nI F0 = nI F ∧ I0 = I1 ∧ L0 = L1 := by
    refine ⟨congrArg (fun z => z.1) hinj, congrArg (fun z => z.2.1) hinj, congrArg (fun z => z.2.2) hinj⟩
  subst hI
  subst hL0
  have hL1 : ∀ w, w < 27 → M1 (3 + 4) w = q_kw w ∧ M1 (70 + 4) w = q_mw27 w := fun w hw => by
    rw [x10 _ _ (by omega) (by omega), x10 _ _ (by omega) (by omega), x8 _ _ (by omega) (by omega) (by omega), x8 _ _ (by omega) (by omega) (by omega)]; exact hL w hw
  have hwl := w.less
  refine ⟨(nI F, I0, L0), (nI F, J1, M1), x2, x3, rfl, fun h => ?_, fun h => ?_⟩
  · have hF : F = 0 := by
      have h' : nI F = 0 := h
      rw [z_eqR 0 (by decide) (by omega)] at h'
      exact h'
    obtain ⟨R, z1, ⟨z2, z3, z4, z5, z6, z7, z8⟩, z9, z10, z11, z12, z13, z14⟩ := x6 hF
    have hlow : ∀ o k, o < 69 → J1 o k = I0 o k := fun o k h => x9 _ _ (by omega) (by omega) (by omega) (by omega) (by omega) (by omega) (by omega)
    show lh_inv t a2 b a b2 J1 M1
    refine ⟨by omega, hb', ⟨(r_h R, r_m0 R, [], fun _ => none, [], [], []), ?_, ?_, ?_⟩, hL1⟩
    · obtain ⟨w1, w2, w3, w4, w5, w6, w7, w8⟩ := hwl
      exact ⟨r_h_wf z1, r_m0_w z1 _, ⟨Nat.zero_le _, fun m hm => absurd hm (by simp [s_p])⟩, fun j m ss hj e => (by cases e), ⟨Nat.zero_le _, fun q hq => absurd hq (by simp [s_s])⟩, ⟨Nat.zero_le _, fun q hq => absurd hq (by simp [s_q])⟩, ⟨Nat.zero_le _, fun q hq => absurd hq (by simp [s_t])⟩, w8⟩
    · obtain ⟨h1, h2, ⟨e, he, he2, -⟩, h4, h5, -, -⟩ := c
      refine ⟨z2.keep (fun j k hj hj3 => hlow _ _ (by omega)), z3.kp (fun k _ => hlow _ _ (by omega)), ⟨e, he, ?_, ?_, fun k hk => absurd hk (Nat.not_lt_zero _)⟩, fun j hj => ?_, ⟨?_, ?_⟩, ⟨?_, fun k hk => absurd hk (Nat.not_lt_zero _)⟩, ?_, fun k hk => absurd hk (Nat.not_lt_zero _)⟩
      · rw [hlow _ _ (by omega), x7 _ _ (by omega) (by omega) (by omega) (by omega) (by omega)]; exact he2
      · rw [hlow _ _ (by omega)]; exact z7
      · show J1 (57 + 2 * j + 4) 1 = 0
        rw [hlow _ _ (by omega)]; exact z8 j hj
      · rw [hlow _ _ (by omega)]; exact z5
      · rw [hlow _ _ (by omega), z6]; rfl
      · rw [hlow _ _ (by omega)]; exact z4
      · rw [hlow _ _ (by omega)]; exact x4
    · refine ⟨z9, z10, ⟨z13, fun k hk => absurd hk (Nat.not_lt_zero _)⟩, fun j hj => z14 j hj, ⟨z11, fun k hk => absurd hk (Nat.not_lt_zero _)⟩, ⟨z12, fun k hk => absurd hk (Nat.not_lt_zero _)⟩, x5, fun k hk => absurd hk (Nat.not_lt_zero _)⟩
  · have hF : ¬ F = 0 := by
      intro e
      subst e
      exact h rfl
    have hJI : ∀ o k, ¬ (o = 5 ∧ 2 ≤ k ∧ k ≤ 8) → ¬ (a2 + 4 ≤ o ∧ o ≤ a2 + 14) → o < 86 → ¬ (o = 69 ∧ (k ≤ 8 ∨ k = 13 ∨ k = 15 ∨ k = 16)) → o ≠ 71 → o ≠ 72 → ¬ (o = 75 ∧ 100 ≤ k) → ¬ (o = 76 ∧ 1100 ≤ k) → ¬ (o = 77 ∧ 1100 ≤ k) → J1 o k = I o k := fun o k h1 h2 h3 h4 h5 h6 h7 h8 h9 => by rw [x9 o k h4 h5 h6 h7 h8 h9 (by omega), x7 o k h1 h2 (by omega) (by omega) (by omega)]
    show lh_inv t a b a2 b2 J1 M1
    refine ⟨ha', hb', ⟨(s_h s, s_n s, s_p s, s_m s, s_s s, s_q s, []), ?_, ?_, ?_⟩, hL1⟩
    · obtain ⟨w1, w2, w3, w4, w5, w6, w7, w8⟩ := hwl
      exact ⟨w1, w2, w3, w4, w5, w6, ⟨Nat.zero_le _, fun x hx => absurd hx (by simp [s_t])⟩, w8⟩
    · obtain ⟨h1, h2, h3, h4, h5, ⟨h6, h7⟩, -⟩ := c
      refine ⟨h1.keep (fun j k hj hj3 => hJI _ _ (by omega) (by omega) (by omega) (by omega) (by omega) (by omega) (by omega) (by omega) (by omega)), h2.kp (fun k _ => hJI _ _ (by omega) (by omega) (by omega) (by omega) (by omega) (by omega) (by omega) (by omega) (by omega)), qc_p.kp (p := s_p s) h3 (fun k _ => hJI _ _ (by omega) (by omega) (by omega) (by omega) (by omega) (by omega) (by omega) (by omega) (by omega)) (fun o k _ _ => hJI _ _ (by omega) (by omega) (by omega) (by omega) (by omega) (by omega) (by omega) (by omega) (by omega)), qc_m.kp (mk := s_m s) h4 (fun o k _ _ => hJI _ _ (by omega) (by omega) (by omega) (by omega) (by omega) (by omega) (by omega) (by omega) (by omega)), ⟨by rw [hJI _ _ (by omega) (by omega) (by omega) (by omega) (by omega) (by omega) (by omega) (by omega) (by omega)]; exact h5.1, by rw [hJI _ _ (by omega) (by omega) (by omega) (by omega) (by omega) (by omega) (by omega) (by omega) (by omega)]; exact h5.2⟩, ⟨by rw [hJI _ _ (by omega) (by omega) (by omega) (by omega) (by omega) (by omega) (by omega) (by omega) (by omega)]; exact h6, fun k hk => by rw [hJI _ _ (by omega) (by omega) (by omega) (by omega) (by omega) (by omega) (by omega) (by omega) (by omega), hJI _ _ (by omega) (by omega) (by omega) (by omega) (by omega) (by omega) (by omega) (by omega) (by omega)]; exact h7 k hk⟩, ?_, fun i hi' => absurd hi' (by simp [s_t])⟩
      rw [x9 _ _ (by omega) (by omega) (by omega) (by omega) (by omega) (by omega) (by omega)]; exact x4
    · obtain ⟨h1, h2, h3, h4, h5, ⟨h6, h7⟩, -⟩ := m
      exact ⟨h1.keep w.1 (fun k _ => hJI _ _ (by omega) (by omega) (by omega) (by omega) (by omega) (by omega) (by omega) (by omega) (by omega)) (fun k _ => hJI _ _ (by omega) (by omega) (by omega) (by omega) (by omega) (by omega) (by omega) (by omega) (by omega)) (fun k _ => hJI _ _ (by omega) (by omega) (by omega) (by omega) (by omega) (by omega) (by omega) (by omega) (by omega)), h2.kp (fun k _ _ => hJI _ _ (by omega) (by omega) (by omega) (by omega) (by omega) (by omega) (by omega) (by omega) (by omega)), qm_p.kp (p := s_p s) h3 w.2.2.1.1 (hJI _ _ (by omega) (by omega) (by omega) (by omega) (by omega) (by omega) (by omega) (by omega) (by omega)) (fun k _ _ => hJI _ _ (by omega) (by omega) (by omega) (by omega) (by omega) (by omega) (by omega) (by omega) (by omega)), qm_m.kp (mk := s_m s) h4 (fun j m' ss hj e => (w.2.2.2.1 j m' ss hj e).2.1) (fun k => hJI _ _ (by omega) (by omega) (by omega) (by omega) (by omega) (by omega) (by omega) (by omega) (by omega)) (fun k _ _ => hJI _ _ (by omega) (by omega) (by omega) (by omega) (by omega) (by omega) (by omega) (by omega) (by omega)), q_ms.kp h5 w.2.2.2.2.1.1 (fun k _ _ => hJI _ _ (by omega) (by omega) (by omega) (by omega) (by omega) (by omega) (by omega) (by omega) (by omega)), ⟨by rw [hJI _ _ (by omega) (by omega) (by omega) (by omega) (by omega) (by omega) (by omega) (by omega) (by omega)]; exact h6, fun k hk => by rw [hJI _ _ (by omega) (by omega) (by omega) (by omega) (by omega) (by omega) (by omega) (by omega) (by omega), hJI _ _ (by omega) (by omega) (by omega) (by omega) (by omega) (by omega) (by omega) (by omega) (by omega)]; exact h7 k hk⟩, x5, fun i hi' => absurd hi' (by simp [s_t])⟩
