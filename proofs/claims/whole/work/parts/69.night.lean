/-! night -/
theorem n_F_b {t : List Nat} (hw : qt_w t) (n l : Nat) : n_F t n l ≤ 20000 := by
  have hl0 := hw.1
  have hP := tk_P_le t n
  have hP1 := tk_P_le t (n + 1)
  have hP2 := tk_P_le t (n + 2)
  have hnfb : tk_nf (n_lo (tk_C t n)) (n_hi (tk_C t n)) t (n + 1) ≤ 4 := by unfold tk_nf; (repeat' split) <;> omega
  unfold n_F
  (repeat' split) <;> omega
theorem n_stop {b f v : Nat} {I : lh_II} (L : lh_LL) (hv : v < 2147483648) (h : I (1 + 4) 4 = 37 ∨ ¬ I (1 + 4) 8 = 0) : f_Ni_readLines_7 b (f + 1) (nI v) I L = some (I, L) := by
  have hend : f_Re_isAtEnd I = some 1 := by
    unfold f_Re_isAtEnd
    by_cases h1 : I (1 + 4) 4 = 37
    · rw [if_pos h1]
    · rw [if_neg h1, if_neg (h.resolve_left h1)]
  rw [f_Ni_readLines_7]
  by_cases h1 : 1000 < v
  · simp (disch := omega) only [z_ltL, h1, z_bs, z_gd, z_b1, z_b0, z_10, z_01, eq_self, reduceCtorEq, ↓reduceIte, if_true, if_false, Nat.not_lt_zero, not_true_eq_false, not_false_eq_true, Bool.false_eq_true, Nat.le_refl, Nat.lt_irrefl]
  · simp (disch := omega) only [z_ltL, h1, hend, z_bs, z_gd, z_b1, z_b0, z_10, z_01, eq_self, reduceCtorEq, ↓reduceIte, if_true, if_false, Nat.not_lt_zero, not_true_eq_false, not_false_eq_true, Bool.false_eq_true, Nat.le_refl, Nat.lt_irrefl]
theorem n_loop {t : List Nat} (hw : qt_w t) {b N : Nat} (hb : 35 ≤ b ∧ b ≤ 38) {M : lh_LL} : ∀ (d f1 f2 v n : Nat) (q : List (Nat × Nat)) (I : lh_II) (L : lh_LL) (J : lh_II), N ≤ n + d → d + 1 < f1 → d + 1 < f2 → v ≤ n → r_c t n I L → r_m t N n J M → I (1 + 4) 8 = 0 → J (65 + 4) 8 = 0 → n_c b q I → n_m q J → n_w q → ∃ F q' I' L' v' J', f_Ni_readLines_7 b f1 (nI v) I L = some (I', L') ∧ f_LM_night_7 M f2 (nI q.length) J = some (v', J') ∧ I' (1 + 4) 8 = nI F ∧ J' (65 + 4) 8 = nI F ∧ F ≤ 20000 ∧ (F = 0 → v' = nI q'.length ∧ n_c b q' I' ∧ n_m q' J' ∧ n_w q') ∧ n_cf b I I' ∧ r_lf L L' ∧ n_mf J J' := by
  intro d
  induction d with
  | zero =>
    intro f1 f2 v n q I L J hd h1 h2 hv hc hm h8 h8' hq hq' hqw
    obtain ⟨g1, rfl⟩ : ∃ g, f1 = g + 1 := ⟨f1 - 1, by omega⟩
    obtain ⟨g2, rfl⟩ : ∃ g, f2 = g + 1 := ⟨f2 - 1, by omega⟩
    have hN : N ≤ 1000 := hm.1
    have hnN : n ≤ N := hm.2.1
    have e : n = N := by omega
    have hC : tk_C t n = 37 := (tk_C_b t n).2.mpr (by rw [e]; exact hm.2.2.1)
    have q1 : J (67 + 4) n = nI (tk_so (tk_C t n)) := (hm.2.2.2.1 n hnN).1
    have h7 : J (65 + 4) 7 = nI n := hm.2.2.2.2.2.1
    refine ⟨0, q, I, L, nI q.length, J, n_stop L (by omega) (Or.inl (by rw [hc.2.2.1, hC]; rfl)), ?_, h8, h8', by decide, fun _ => ⟨rfl, hq, hq', hqw⟩, fun _ _ _ _ _ _ => rfl, fun _ _ _ => rfl, fun _ _ _ _ => rfl⟩
    rw [f_LM_night_7]
    simp (disch := omega) only [h8', h7, z_ix, z_cl, q1, hC, show (nI (tk_so 37) = 0) = True by decide, z_bs, z_gd, z_b1, z_b0, z_10, z_01, eq_self, reduceCtorEq, ↓reduceIte, if_true, if_false, Nat.not_lt_zero, not_true_eq_false, not_false_eq_true, Bool.false_eq_true, Nat.le_refl, Nat.lt_irrefl]
  | succ d ih =>
    intro f1 f2 v n q I L J hd h1 h2 hv hc hm h8 h8' hq hq' hqw
    obtain ⟨g1, rfl⟩ : ∃ g, f1 = g + 1 := ⟨f1 - 1, by omega⟩
    obtain ⟨g2, rfl⟩ : ∃ g, f2 = g + 1 := ⟨f2 - 1, by omega⟩
    have hN : N ≤ 1000 := hm.1
    have hnN : n ≤ N := hm.2.1
    by_cases hC : tk_C t n = 37
    · have q1 : J (67 + 4) n = nI (tk_so (tk_C t n)) := (hm.2.2.2.1 n hnN).1
      have h7 : J (65 + 4) 7 = nI n := hm.2.2.2.2.2.1
      refine ⟨0, q, I, L, nI q.length, J, n_stop L (by omega) (Or.inl (by rw [hc.2.2.1, hC]; rfl)), ?_, h8, h8', by decide, fun _ => ⟨rfl, hq, hq', hqw⟩, fun _ _ _ _ _ _ => rfl, fun _ _ _ => rfl, fun _ _ _ _ => rfl⟩
      rw [f_LM_night_7]
      simp (disch := omega) only [h8', h7, z_ix, z_cl, q1, hC, show (nI (tk_so 37) = 0) = True by decide, z_bs, z_gd, z_b1, z_b0, z_10, z_01, eq_self, reduceCtorEq, ↓reduceIte, if_true, if_false, Nat.not_lt_zero, not_true_eq_false, not_false_eq_true, Bool.false_eq_true, Nat.le_refl, Nat.lt_irrefl]
    · obtain ⟨I1, L1, e1, e2, e3, e4, e5⟩ := e_step (v := v) hw hb hc (by omega) hC h8 hq hqw.1 g1
      obtain ⟨v1, J1, k1, k2, k3, k4⟩ := m_step hw hm hC h8' hq' hqw.1 g2
      have hF := n_F_b hw n q.length
      by_cases h0 : n_F t n q.length = 0
      · obtain ⟨e6, e7, e8⟩ := e2 h0
        obtain ⟨k5, k6, k7, k8⟩ := k2 h0
        have hnn : n + 2 ≤ n_N t n := by unfold n_N; split <;> omega
        obtain ⟨F, q', I', L', v', J', x1, x2, x3, x4, x5, x6, x7, x8, x9⟩ := ih g1 g2 (v + 1) (n_N t n) (q ++ [n_l t n]) I1 L1 J1 (by omega) (by omega) (by omega) (by omega) e6 k6 e7 k7 e8 k8 (n_w_s hqw h0)
        rw [List.length_append] at x2
        have x2' : f_LM_night_7 M g2 (nI (q.length + 1)) J1 = some (v', J') := x2
        refine ⟨F, q', I', L', v', J', by rw [e1, x1], by rw [k1, k5, x2'], x3, x4, x5, x6, fun o k h1 h2 h3 h4 => by rw [x7 o k h1 h2 h3 h4, e4 o k h1 h2 h3 h4], fun o k h => by rw [x8 o k h, e5 o k h], fun o k h1 h2 => by rw [x9 o k h1 h2, k4 o k h1 h2]⟩
      · have e6 := e3 h0
        have k6 := k3 h0
        have hne : ¬ nI (n_F t n q.length) = 0 := by rw [z_eqR 0 (by decide) (by omega)]; exact h0
        obtain ⟨g3, rfl⟩ : ∃ g, g1 = g + 1 := ⟨g1 - 1, by omega⟩
        obtain ⟨g4, rfl⟩ : ∃ g, g2 = g + 1 := ⟨g2 - 1, by omega⟩
        refine ⟨n_F t n q.length, q, I1, L1, v1, J1, by rw [e1]; exact n_stop L1 (by omega) (Or.inr (by rw [e6]; exact hne)), ?_, e6, k6, hF, fun h => absurd h h0, e4, e5, k4⟩
        rw [k1, f_LM_night_7, if_neg (by rw [k6]; exact hne)]
theorem n_copy {l : Nat} (hl : l ≤ 40) (J : lh_II) : ∃ J', f_LM_night_113 (nI l) lh_fuel 0 J = some J' ∧ (∀ k, k < 2 * l → J' (75 + 4) (1 + k) = J (75 + 4) (85 + k)) ∧ ∀ o k, ¬ (o = 79 ∧ 1 ≤ k ∧ k ≤ 80) → J' o k = J o k := by
  have key := q_forI (F := fun f j (K : lh_II) => f_LM_night_113 (nI l) f (nI j) K) (N := 2 * l) (P := fun j K => (∀ k, k < j → K (75 + 4) (1 + k) = J (75 + 4) (85 + k)) ∧ ∀ o k, ¬ (o = 79 ∧ 1 ≤ k ∧ k ≤ 80) → K o k = J o k) (Q := fun K => (∀ k, k < 2 * l → K (75 + 4) (1 + k) = J (75 + 4) (85 + k)) ∧ ∀ o k, ¬ (o = 79 ∧ 1 ≤ k ∧ k ≤ 80) → K o k = J o k) (fun f j K hj hK => by
    obtain ⟨p1, p2⟩ := hK
    refine ⟨lh_u2 K (75 + 4) (1 + j) (K (75 + 4) (85 + j)), ⟨fun k hk => ?_, fun o k h => ?_⟩, ?_⟩
    · by_cases e : k = j
      · subst e; rw [q_u2s, p2 _ _ (by omega)]
      · rw [q_u2o (by omega)]; exact p1 k (by omega)
    · rw [q_u2o (by omega)]; exact p2 o k h
    · show f_LM_night_113 (nI l) (f + 1) (nI j) K = f_LM_night_113 (nI l) f (nI (j + 1)) _
      rw [f_LM_night_113]
      simp (disch := omega) only [z_le, z_mulR, z_addR, z_addL, z_ix, z_cl, show ¬ 2 * l ≤ j by omega, z_bs, z_gd, z_b1, z_b0, z_10, z_01, eq_self, reduceCtorEq, ↓reduceIte, if_true, if_false, Nat.not_lt_zero, not_true_eq_false, not_false_eq_true, Bool.false_eq_true, Nat.le_refl, Nat.lt_irrefl]) (fun f K hK => by
    refine ⟨K, ?_, hK⟩
    show f_LM_night_113 (nI l) (f + 1) (nI (2 * l)) K = _
    rw [f_LM_night_113]
    simp (disch := omega) only [z_le, z_mulR, z_bs, z_gd, z_b1, z_b0, z_10, z_01, eq_self, reduceCtorEq, ↓reduceIte, if_true, if_false, Nat.not_lt_zero, not_true_eq_false, not_false_eq_true, Bool.false_eq_true, Nat.le_refl, Nat.lt_irrefl]) (2 * l) lh_fuel 0 J (by omega) (by unfold lh_fuel; omega) ⟨fun k hk => by omega, fun _ _ _ => rfl⟩
  exact key
theorem n_joint {t : List Nat} (hw : qt_w t) {b : Nat} (hb : 35 ≤ b ∧ b ≤ 38) {I J : lh_II} {L M : lh_LL} (hc : qt_c I t) (hm : qt_m J t) (hk : ∀ w, w < 27 → L (3 + 4) w = q_kw w) (hk' : ∀ w, w < 27 → M (70 + 4) w = q_mw27 w) : ∃ F q I' L' J' M', F ≤ 20000 ∧ f_LH_night b I L = some (nI F, I', L') ∧ f_LM_night J M = some (nI F, J', M') ∧ I' (1 + 4) 2 = 0 ∧ J' (65 + 4) 2 = 0 ∧ (F = 0 → n_c b q I' ∧ n_w q ∧ J' (75 + 4) 0 = nI q.length ∧ ∀ k, k < q.length → J' (75 + 4) (1 + 2 * k) = nI (q.getD k (0, 0)).1 ∧ (3 ≤ (q.getD k (0, 0)).1 → J' (75 + 4) (2 + 2 * k) = nI (q.getD k (0, 0)).2)) ∧ (∀ o k, ¬ (o = 5 ∧ 2 ≤ k ∧ k ≤ 8) → ¬ (o = b + 4 ∧ k = 2) → o ≠ b + 5 → o ≠ b + 6 → I' o k = I o k) ∧ r_lf L L' ∧ (∀ o k, ¬ (o = 69 ∧ k ≤ 8) → o ≠ 71 → o ≠ 72 → ¬ (o = 79 ∧ (85 ≤ k ∨ F = 0)) → J' o k = J o k) ∧ (∀ o k, o ≠ 73 → M' o k = M o k) := by
  obtain ⟨I1, L1, e1, e2, e3, e4, e5⟩ := e_rbegin (I := lh_u2 I (b + 4) 2 0) (L := L) hw ⟨by rw [q_u2o (by omega)]; exact hc.1, fun i hi => by rw [q_u2o (by omega)]; exact hc.2 i hi⟩ hk
  obtain ⟨N, J1, M1, c1, c2, c3, c4, c5, c6, c7, c8, c9, c10⟩ := m_cutAll (J := lh_u2 J (65 + 4) 0 0) (M := M) hw ⟨by rw [q_u2o (by omega)]; exact hm.1, fun i hi => by rw [q_u2o (by omega)]; exact hm.2 i hi⟩
  have hrm : r_m t N 0 J1 M1 := ⟨c2, Nat.zero_le _, c3, c4, c5, c7, fun w hw => by rw [c10 _ _ (by omega)]; exact hk' w hw⟩
  obtain ⟨F, q, I2, L2, v2, J2, x1, x2, x3, x4, x5, x6, x7, x8, x9⟩ := n_loop hw hb (N := N) (M := M1) N lh_fuel lh_fuel 0 0 [] I1 L1 J1 (by omega) (by unfold lh_fuel; omega) (by unfold lh_fuel; omega) (Nat.le_refl _) e2 hrm e3 c8 ⟨by rw [e4 _ _ (by omega), q_u2s]; rfl, fun k hk => absurd hk (by simp)⟩ (fun k hk => absurd hk (by simp)) ⟨by simp, fun x hx => by simp at hx⟩
  have x1' : f_Ni_readLines_7 b lh_fuel 0 I1 L1 = some (I2, L2) := x1
  have x2' : f_LM_night_7 M1 lh_fuel 0 J1 = some (v2, J2) := x2
  have hcl : f_LH_night b I L = some (nI F, lh_u2 I2 (1 + 4) 2 0, L2) := by
    unfold f_LH_night f_Ni_readLines f_Re_finish
    rw [e1, z_bs, x1', z_bs, z_bs, q_u2o (by omega)]
    show some (I2 (1 + 4) 8, _, _) = _
    rw [x3]
  have hfr : ∀ o k, ¬ (o = 5 ∧ 2 ≤ k ∧ k ≤ 8) → ¬ (o = b + 4 ∧ k = 2) → o ≠ b + 5 → o ≠ b + 6 → lh_u2 I2 (1 + 4) 2 0 o k = I o k := fun o k h1 h2 h3 h4 => by
    rw [q_u2o (by omega), x7 o k (by omega) h2 h3 h4, e4 _ _ (by omega), q_u2o (by omega)]
  have hlf : r_lf L L2 := fun o k h => by rw [x8 o k h, e5 o k h]
  by_cases h0 : F = 0
  · obtain ⟨y1, y2, y3, y4⟩ := x6 h0
    have hq40 := y4.1
    obtain ⟨J3, g1, g2, g3⟩ := n_copy hq40 (lh_u2 J2 (75 + 4) 0 (nI q.length))
    refine ⟨F, q, lh_u2 I2 (1 + 4) 2 0, L2, J3, M1, x5, hcl, ?_, q_u2s, ?_, fun _ => ⟨⟨by rw [q_u2o (by omega)]; exact y2.1, fun k hk => by rw [q_u2o (by omega), q_u2o (by omega)]; exact y2.2 k hk⟩, y4, by rw [g3 _ _ (by omega), q_u2s], fun k hk => ?_⟩, hfr, hlf, fun o k h1 h2 h3 h4 => ?_, c10⟩
    · unfold f_LM_night
      rw [c1, z_bs, x2', z_bs]
      simp only []
      rw [x4, h0, if_pos (by decide), y1, g1, z_bs]
      rfl
    · rw [g3 _ _ (by omega), q_u2o (by omega), x9 _ _ (by omega) (by omega)]; exact c6
    · rw [g2 (2 * k) (by omega), show 2 + 2 * k = 1 + (2 * k + 1) by omega, g2 (2 * k + 1) (by omega), q_u2o (by omega), q_u2o (by omega)]
      have := y3 k hk
      rw [show 86 + 2 * k = 85 + (2 * k + 1) by omega] at this
      exact this
    · rw [g3 _ _ (by omega), q_u2o (by omega), x9 _ _ (by omega) (by omega), c9 _ _ h2 h3 (by omega), q_u2o (by omega)]
  · have hne : ¬ nI F ≤ 0 := by rw [z_leR 0 (by decide) (by omega)]; show ¬ F ≤ 0; omega
    refine ⟨F, q, lh_u2 I2 (1 + 4) 2 0, L2, J2, M1, x5, hcl, ?_, q_u2s, ?_, fun h => absurd h h0, hfr, hlf, fun o k h1 h2 h3 h4 => ?_, c10⟩
    · unfold f_LM_night
      rw [c1, z_bs, x2', z_bs]
      simp only []
      rw [x4, if_neg hne]
    · rw [x9 _ _ (by omega) (by omega)]; exact c6
    · rw [x9 _ _ (by omega) (by omega), c9 _ _ h2 h3 (by omega), q_u2o (by omega)]
theorem p_night : lh_P2 lh_inv := by
  intro t a b a2 b2 I L hi
  obtain ⟨s, w, c, m, ha, fc, f0, fm⟩ := hi.opx
  have ht : qt_w (s_t s) := w.2.2.2.2.2.2.1
  have hc : qt_c I (s_t s) := c.2.2.2.2.2.2
  have hm : qt_m I (s_t s) := m.2.2.2.2.2.2
  obtain ⟨ha', hb', -, hL⟩ := hi
  have hb2 : 35 ≤ b2 ∧ b2 ≤ 38 := by omega
  obtain ⟨F0, q0, I0, L0, J0, M0, -, y2, -, -, -, -, y7, y8, -⟩ := n_joint ht hb2 hc hm (fun w h => (hL w h).1) (fun w h => (hL w h).2)
  have hm0 : qt_m I0 (s_t s) := ⟨by rw [y7 _ _ (by omega) (by omega) (by omega) (by omega)]; exact hm.1, fun i hi' => by rw [y7 _ _ (by omega) (by omega) (by omega) (by omega)]; exact hm.2 i hi'⟩
  obtain ⟨F, q, I1, L1, J1, M1, x1, x2, x3, x4, x5, x6, x7, x8, x9, x10⟩ := n_joint (M := L0) ht hb2 hc hm0 (fun w h => (hL w h).1) (fun w h => by rw [y8 _ _ (by omega)]; exact (hL w h).2)
  have hinj : (nI F0, I0, L0) = (nI F, I1, L1) := Option.some.inj (y2.symm.trans x2)
  obtain ⟨-, hI, hL0⟩ : nI F0 = nI F ∧ I0 = I1 ∧ L0 = L1 := by
    refine ⟨congrArg (fun z => z.1) hinj, congrArg (fun z => z.2.1) hinj, congrArg (fun z => z.2.2) hinj⟩
  subst hI
  subst hL0
  have hJI : ∀ o k, ¬ (o = 5 ∧ 2 ≤ k ∧ k ≤ 8) → ¬ (o = b2 + 4 ∧ k = 2) → o ≠ b2 + 5 → o ≠ b2 + 6 → ¬ (o = 69 ∧ k ≤ 8) → o ≠ 71 → o ≠ 72 → ¬ (o = 79 ∧ (85 ≤ k ∨ F = 0)) → J1 o k = I o k := fun o k h1 h2 h3 h4 h5 h6 h7 h8 => by rw [x9 o k h5 h6 h7 h8, x7 o k h1 h2 h3 h4]
  have hL1 : ∀ w, w < 27 → M1 (3 + 4) w = q_kw w ∧ M1 (70 + 4) w = q_mw27 w := fun w hw => by
    rw [x10 _ _ (by omega), x10 _ _ (by omega), x8 _ _ (by omega), x8 _ _ (by omega)]; exact hL w hw
  have hwl := w.less
  refine ⟨(nI F, I0, L0), (nI F, J1, M1), x2, x3, rfl, fun h => ?_, fun h => ?_⟩
  · have hF : F = 0 := by
      have h' : nI F = 0 := h
      rw [z_eqR 0 (by decide) (by omega)] at h'
      exact h'
    obtain ⟨z1, z2, z3, z4⟩ := x6 hF
    show lh_inv t a b2 a2 b J1 M1
    refine ⟨ha', hb'.symm.imp (fun h => ⟨h.2, h.1⟩) (fun h => ⟨h.2, h.1⟩), ⟨(s_h s, s_n s, s_p s, s_m s, s_s s, q, []), ?_, ?_, ?_⟩, hL1⟩
    · obtain ⟨w1, w2, w3, w4, w5, w6, w7, w8⟩ := hwl
      exact ⟨w1, w2, w3, w4, w5, z2, ⟨Nat.zero_le _, fun x hx => absurd hx (by simp [s_t])⟩, w8⟩
    · obtain ⟨h1, h2, h3, h4, h5, -, -⟩ := c
      refine ⟨h1.keep (fun j k hj hj3 => hJI _ _ (by omega) (by omega) (by omega) (by omega) (by omega) (by omega) (by omega) (by omega)), h2.kp (fun k _ => hJI _ _ (by omega) (by omega) (by omega) (by omega) (by omega) (by omega) (by omega) (by omega)), qc_p.kp (p := s_p s) h3 (fun k _ => hJI _ _ (by omega) (by omega) (by omega) (by omega) (by omega) (by omega) (by omega) (by omega)) (fun o k _ _ => hJI _ _ (by omega) (by omega) (by omega) (by omega) (by omega) (by omega) (by omega) (by omega)), qc_m.kp (mk := s_m s) h4 (fun o k _ _ => hJI _ _ (by omega) (by omega) (by omega) (by omega) (by omega) (by omega) (by omega) (by omega)), ⟨by rw [hJI _ _ (by omega) (by omega) (by omega) (by omega) (by omega) (by omega) (by omega) (by omega)]; exact h5.1, by rw [hJI _ _ (by omega) (by omega) (by omega) (by omega) (by omega) (by omega) (by omega) (by omega)]; exact h5.2⟩, ⟨?_, fun k hk => ?_⟩, ?_, fun i hi' => absurd hi' (by simp [s_t])⟩
      · rw [x9 _ _ (by omega) (by omega) (by omega) (by omega)]; exact z1.1
      · rw [x9 _ _ (by omega) (by omega) (by omega) (by omega), x9 _ _ (by omega) (by omega) (by omega) (by omega)]; exact z1.2 k hk
      · rw [x9 _ _ (by omega) (by omega) (by omega) (by omega)]; exact x4
    · obtain ⟨h1, h2, h3, h4, h5, -, -⟩ := m
      exact ⟨h1.keep w.1 (fun k _ => hJI _ _ (by omega) (by omega) (by omega) (by omega) (by omega) (by omega) (by omega) (by omega)) (fun k _ => hJI _ _ (by omega) (by omega) (by omega) (by omega) (by omega) (by omega) (by omega) (by omega)) (fun k _ => hJI _ _ (by omega) (by omega) (by omega) (by omega) (by omega) (by omega) (by omega) (by omega)), h2.kp (fun k _ _ => hJI _ _ (by omega) (by omega) (by omega) (by omega) (by omega) (by omega) (by omega) (by omega)), qm_p.kp (p := s_p s) h3 w.2.2.1.1 (hJI _ _ (by omega) (by omega) (by omega) (by omega) (by omega) (by omega) (by omega) (by omega)) (fun k _ _ => hJI _ _ (by omega) (by omega) (by omega) (by omega) (by omega) (by omega) (by omega) (by omega)), qm_m.kp (mk := s_m s) h4 (fun j m' ss hj e => (w.2.2.2.1 j m' ss hj e).2.1) (fun k => hJI _ _ (by omega) (by omega) (by omega) (by omega) (by omega) (by omega) (by omega) (by omega)) (fun k _ _ => hJI _ _ (by omega) (by omega) (by omega) (by omega) (by omega) (by omega) (by omega) (by omega)), q_ms.kp h5 w.2.2.2.2.1.1 (fun k _ _ => hJI _ _ (by omega) (by omega) (by omega) (by omega) (by omega) (by omega) (by omega) (by omega)), ⟨z3, z4⟩, x5, fun i hi' => absurd hi' (by simp [s_t])⟩
  · have hF : ¬ F = 0 := by
      intro e
      subst e
      exact h rfl
    show lh_inv t a b a2 b2 J1 M1
    refine ⟨ha', hb', ⟨(s_h s, s_n s, s_p s, s_m s, s_s s, s_q s, []), ?_, ?_, ?_⟩, hL1⟩
    · obtain ⟨w1, w2, w3, w4, w5, w6, w7, w8⟩ := hwl
      exact ⟨w1, w2, w3, w4, w5, w6, ⟨Nat.zero_le _, fun x hx => absurd hx (by simp [s_t])⟩, w8⟩
    · obtain ⟨h1, h2, h3, h4, h5, ⟨h6, h7⟩, -⟩ := c
      refine ⟨h1.keep (fun j k hj hj3 => hJI _ _ (by omega) (by omega) (by omega) (by omega) (by omega) (by omega) (by omega) (by omega)), h2.kp (fun k _ => hJI _ _ (by omega) (by omega) (by omega) (by omega) (by omega) (by omega) (by omega) (by omega)), qc_p.kp (p := s_p s) h3 (fun k _ => hJI _ _ (by omega) (by omega) (by omega) (by omega) (by omega) (by omega) (by omega) (by omega)) (fun o k _ _ => hJI _ _ (by omega) (by omega) (by omega) (by omega) (by omega) (by omega) (by omega) (by omega)), qc_m.kp (mk := s_m s) h4 (fun o k _ _ => hJI _ _ (by omega) (by omega) (by omega) (by omega) (by omega) (by omega) (by omega) (by omega)), ⟨by rw [hJI _ _ (by omega) (by omega) (by omega) (by omega) (by omega) (by omega) (by omega) (by omega)]; exact h5.1, by rw [hJI _ _ (by omega) (by omega) (by omega) (by omega) (by omega) (by omega) (by omega) (by omega)]; exact h5.2⟩, ⟨?_, fun k hk => ?_⟩, ?_, fun i hi' => absurd hi' (by simp [s_t])⟩
      · rw [hJI _ _ (by omega) (by omega) (by omega) (by omega) (by omega) (by omega) (by omega) (by omega)]; exact h6
      · rw [hJI _ _ (by omega) (by omega) (by omega) (by omega) (by omega) (by omega) (by omega) (by omega), hJI _ _ (by omega) (by omega) (by omega) (by omega) (by omega) (by omega) (by omega) (by omega)]; exact h7 k hk
      · rw [x9 _ _ (by omega) (by omega) (by omega) (by omega)]; exact x4
    · obtain ⟨h1, h2, h3, h4, h5, ⟨h6, h7⟩, -⟩ := m
      have hq40 := w.2.2.2.2.2.1.1
      exact ⟨h1.keep w.1 (fun k _ => hJI _ _ (by omega) (by omega) (by omega) (by omega) (by omega) (by omega) (by omega) (by omega)) (fun k _ => hJI _ _ (by omega) (by omega) (by omega) (by omega) (by omega) (by omega) (by omega) (by omega)) (fun k _ => hJI _ _ (by omega) (by omega) (by omega) (by omega) (by omega) (by omega) (by omega) (by omega)), h2.kp (fun k _ _ => hJI _ _ (by omega) (by omega) (by omega) (by omega) (by omega) (by omega) (by omega) (by omega)), qm_p.kp (p := s_p s) h3 w.2.2.1.1 (hJI _ _ (by omega) (by omega) (by omega) (by omega) (by omega) (by omega) (by omega) (by omega)) (fun k _ _ => hJI _ _ (by omega) (by omega) (by omega) (by omega) (by omega) (by omega) (by omega) (by omega)), qm_m.kp (mk := s_m s) h4 (fun j m' ss hj e => (w.2.2.2.1 j m' ss hj e).2.1) (fun k => hJI _ _ (by omega) (by omega) (by omega) (by omega) (by omega) (by omega) (by omega) (by omega)) (fun k _ _ => hJI _ _ (by omega) (by omega) (by omega) (by omega) (by omega) (by omega) (by omega) (by omega)), q_ms.kp h5 w.2.2.2.2.1.1 (fun k _ _ => hJI _ _ (by omega) (by omega) (by omega) (by omega) (by omega) (by omega) (by omega) (by omega)), ⟨by rw [hJI _ _ (by omega) (by omega) (by omega) (by omega) (by omega) (by omega) (by omega) (by omega)]; exact h6, fun k hk => by
        have hk' : k < (s_q s).length := hk
        rw [hJI _ _ (by omega) (by omega) (by omega) (by omega) (by omega) (by omega) (by omega) (by omega), hJI _ _ (by omega) (by omega) (by omega) (by omega) (by omega) (by omega) (by omega) (by omega)]; exact h7 k hk⟩, x5, fun i hi' => absurd hi' (by simp [s_t])⟩
