/-! the start -/
theorem st_init {K J1 J2 : lh_II} (L : lh_LL) (e1 : f_LM_standsAsAlways 0 K = some J1) (e2 : f_LM_begins J1 = some J2) : ∃ M, f_LM_init_65 K L = some (J2, M) ∧ (∀ w, w < 27 → M (70 + 4) w = q_mw27 w) ∧ ∀ w, M (3 + 4) w = L (3 + 4) w := by
  refine ⟨_, by rw [f_LM_init_65, e1, z_bs, e2, z_bs], fun w hw => ?_, fun w => ?_⟩
  · exact match w, hw with
    | 0, _ => rfl
    | 1, _ => rfl
    | 2, _ => rfl
    | 3, _ => rfl
    | 4, _ => rfl
    | 5, _ => rfl
    | 6, _ => rfl
    | 7, _ => rfl
    | 8, _ => rfl
    | 9, _ => rfl
    | 10, _ => rfl
    | 11, _ => rfl
    | 12, _ => rfl
    | 13, _ => rfl
    | 14, _ => rfl
    | 15, _ => rfl
    | 16, _ => rfl
    | 17, _ => rfl
    | 18, _ => rfl
    | 19, _ => rfl
    | 20, _ => rfl
    | 21, _ => rfl
    | 22, _ => rfl
    | 23, _ => rfl
    | 24, _ => rfl
    | 25, _ => rfl
    | 26, _ => rfl
    | n + 27, h => absurd h (by omega)
  · simp (disch := omega) only [q_v2o]
def st_I0 : lh_II := (lh_u2 (lh_u2 (lh_u2 (lh_u2 (lh_u2 (lh_u2 (lh_u2 (lh_u2 (lh_u2 (lh_u2 (lh_u2 (lh_u2 (lh_u2 (lh_u2 (lh_u2 (lh_u2 (fun _ _ => 0) (1 + 4) 2 0) (1 + 4) 3 0) (1 + 4) 4 37) (1 + 4) 5 0) (1 + 4) 6 0) (1 + 4) 8 0) (35 + 4) 2 0) (35 + 4) 3 (-1)) (35 + 4) 4 (-1)) (38 + 4) 2 0) (38 + 4) 3 (-1)) (38 + 4) 4 (-1)) (0 + 4) 10 0) (0 + 4) 11 0) (0 + 4) 12 0) (0 + 4) 13 15)
def st_c : Option lh_II := f_Ha_clear 11 st_I0
def st_cf (I : lh_II) : Bool := decide (I (11 + 4) 9 = nI 8) && decide (I (11 + 4) 10 = nI 0) && decide (I (11 + 4) 11 = nI 0) && decide (I (11 + 4) 12 = nI 0) && decide (I (11 + 4) 13 = nI 2) && decide (I (11 + 4) 14 = nI 30) && decide (I (11 + 4) 15 = nI 0) && decide (I (11 + 4) 16 = nI 0) && decide (I (11 + 1 + 4) 2 = nI 1) && decide (I (11 + 2 + 4) 0 = q_cw (2, 0)) && decide (I (0 + 4) 10 = 0) && decide (I (0 + 4) 11 = 0) && decide (I (0 + 4) 12 = 0) && decide (I (0 + 4) 13 = 15) && decide (I (35 + 4) 2 = 0) && decide (I (1 + 4) 2 = 0) && decide (I (57 + 2 * 0 + 4) 1 = 0) && decide (I (57 + 2 * 1 + 4) 1 = 0) && decide (I (57 + 2 * 2 + 4) 1 = 0) && decide (I (57 + 2 * 3 + 4) 1 = 0)
def st_cok : Bool := match st_c with
  | none => false
  | some I => st_cf I
theorem st_cokt : st_cok = true := by decide +kernel
theorem st_clear : ∃ I, f_Ha_clear 11 st_I0 = some I ∧ st_cf I = true := by
  have h := st_cokt
  unfold st_cok at h
  cases e : st_c with
  | none => rw [e] at h; cases h
  | some I => rw [e] at h; exact ⟨I, e, h⟩
def st_R : lh_Rw := (fun j => [8, 0, 0, 2, 0, 30, 0, 0].getD j 0, fun _ _ => 0, [(2, 0)])
theorem st_wf : r_wf st_R := by
  refine ⟨by decide, by decide, by decide, by decide, by decide, by decide, by decide, by decide, fun v hv => absurd hv (Nat.not_lt_zero _), fun v hv => absurd hv (Nat.not_lt_zero _), fun v hv => absurd hv (Nat.not_lt_zero _), by decide, by decide⟩
theorem p_start : lh_Start lh_inv := by
  obtain ⟨L1, l1, l2⟩ := st_kw
  obtain ⟨I1, c1, c2⟩ := st_clear
  unfold st_cf at c2
  simp only [Bool.and_eq_true, decide_eq_true_eq] at c2
  obtain ⟨⟨⟨⟨⟨⟨⟨⟨⟨⟨⟨⟨⟨⟨⟨⟨⟨⟨⟨f1, f2⟩, f3⟩, f4⟩, f5⟩, f6⟩, f7⟩, f8⟩, f9⟩, f10⟩, f11⟩, f12⟩, f13⟩, f14⟩, f15⟩, f16⟩, f17⟩, f18⟩, f19⟩, f20⟩ := c2
  have hr : r_cls 11 I1 st_R := by
    refine ⟨⟨f1, f2, f3, f4, f5, f6, f7, f8⟩, fun v hv => absurd hv (Nat.not_lt_zero _), fun v t hv => absurd hv (Nat.not_lt_zero _), fun k hk => absurd hk (Nat.not_lt_zero _), fun k hk => absurd hk (Nat.not_lt_zero _), f9, fun i hi => ?_⟩
    have hi' : i < 1 := hi
    rw [show i = 0 by omega]
    exact f10
  obtain ⟨I2, s1, s2, s3⟩ := e_settle st_wf hr
  have hmb : f_Mo_begin 7 11 I2 = some (lh_u2 (lh_u2 (lh_u2 (lh_u2 (lh_u2 (lh_u2 (lh_u2 I2 (7 + 4) 0 (nI (r_cl st_R (st_R.1 6)))) (7 + 4) 1 0) (7 + 4) 2 0) (7 + 4) 3 (nI (st_R.1 5))) (7 + 4) 4 0) (7 + 4) 5 0) (7 + 4) 6 0) := by
    unfold f_Mo_begin
    rw [q_u2o (o' := 11 + 4) (k' := 14) (by omega), q_u2o (o' := 11 + 4) (k' := 14) (by omega), q_u2o (o' := 11 + 4) (k' := 14) (by omega), s2.O, s2.G]
    rfl
  obtain ⟨I3, hI3⟩ : ∃ I3, I3 = (lh_u2 (lh_u2 (lh_u2 (lh_u2 (lh_u2 (lh_u2 (lh_u2 I2 (7 + 4) 0 (nI (r_cl st_R (st_R.1 6)))) (7 + 4) 1 0) (7 + 4) 2 0) (7 + 4) 3 (nI (st_R.1 5))) (7 + 4) 4 0) (7 + 4) 5 0) (7 + 4) 6 0) := ⟨_, rfl⟩
  rw [← hI3] at hmb
  have g3 : ∀ o k, o ≠ 11 → I3 o k = I2 o k := fun o k h => by rw [hI3, q_u2o (by omega), q_u2o (by omega), q_u2o (by omega), q_u2o (by omega), q_u2o (by omega), q_u2o (by omega), q_u2o (by omega)]
  have hcls : f_LH_init_0 (fun _ _ => 0) (fun _ _ => 0) = some (I3, L1) := by
    unfold f_LH_init_0
    rw [l1, z_bs]
    have c1' := c1
    unfold st_I0 at c1'
    rw [c1', z_bs, s1, z_bs, hmb, z_bs]
  obtain ⟨J1, j1, j2, j3⟩ := m_stands (x := 0) (by decide) (lh_cu 0 65 I3)
  have j1' : f_LM_standsAsAlways 0 (lh_cu 0 65 I3) = some J1 := j1
  have j4 : ∀ k, k < 100 → J1 (71 + 4) k = r_al k := fun k hk => by have := j2 k hk; rwa [Nat.zero_add] at this
  obtain ⟨J2, b1, b2, b3, b4, b5, b6, b7⟩ := m_begins (J := J1) st_wf (j4 0 (by decide)) (j4 4 (by decide)) (j4 5 (by decide))
  obtain ⟨M, m1, m2, m3⟩ := st_init (lh_cu 0 65 L1) j1' b1
  have cu : ∀ (n : Nat) (X : lh_II) o k, o < n + 4 → lh_cu 0 n X o k = X o k := fun n X o k h => by unfold lh_cu; rw [if_neg (by omega)]
  have cuL : ∀ (n : Nat) (X : lh_LL) o k, o < n + 4 → lh_cu 0 n X o k = X o k := fun n X o k h => by unfold lh_cu; rw [if_neg (by omega)]
  have cuZ : ∀ (n : Nat) (X : lh_II) o k, n + 4 ≤ o → lh_cu 0 n X o k = 0 := fun n X o k h => by unfold lh_cu; rw [if_pos (by omega)]
  have hlow : ∀ o k, o < 69 → lh_cu 0 81 J2 o k = I3 o k := fun o k h => by rw [cu _ _ _ _ (by omega), b7 _ _ (by omega) (by omega) (by omega) (by omega), j3 _ _ (by omega), cu _ _ _ _ (by omega)]
  have hlow1 : ∀ o k, o < 69 → o ≠ 11 → ¬ (o = 11 + 4 ∧ (k = 10 ∨ k = 15)) → o ≠ 11 + 11 → o ≠ 11 + 12 → o ≠ 11 + 13 → o ≠ 11 + 14 → lh_cu 0 81 J2 o k = I1 o k := fun o k h h1 h2 h3 h4 h5 h6 => by rw [hlow o k h, g3 o k h1, s3 o k h2 h3 h4 h5 h6]
  have hmd : q_md J2 (r_h st_R) := by
    have hq : q_md J1 (r_h st_R) := m_raw st_wf ⟨⟨j4 0 (by decide), j4 1 (by decide), j4 2 (by decide), j4 3 (by decide), j4 4 (by decide), j4 5 (by decide), j4 6 (by decide), j4 7 (by decide)⟩, fun v hv => absurd hv (Nat.not_lt_zero _), fun v hv => absurd hv (Nat.not_lt_zero _), fun v hv => absurd hv (Nat.not_lt_zero _)⟩ (Or.inl ⟨j4 8 (by decide), rfl⟩)
    exact hq.keep (r_h_wf st_wf) (fun k _ => b7 _ _ (by omega) (by omega) (by omega) (by omega)) (fun k _ => b7 _ _ (by omega) (by omega) (by omega) (by omega)) (fun k _ => b7 _ _ (by omega) (by omega) (by omega) (by omega))
  refine ⟨(I3, L1), (J2, M), hcls, m1, ?_⟩
  show lh_inv 3584 11 35 23 38 (lh_cu 0 81 J2) (lh_cu 0 81 M)
  refine ⟨Or.inl ⟨rfl, rfl⟩, Or.inl ⟨rfl, rfl⟩, ⟨(r_h st_R, r_m0 st_R, [], fun _ => none, [], [], []), ?_, ?_, ?_⟩, fun w hw => ⟨?_, ?_⟩⟩
  · refine ⟨r_h_wf st_wf, ⟨by decide, by decide, by decide, by decide, by decide, by decide⟩, ⟨by decide, fun m hm => absurd hm (by simp [s_p])⟩, fun j m ss hj e => (by cases e), ⟨by decide, fun q hq => absurd hq (by simp [s_s])⟩, ⟨by decide, fun q hq => absurd hq (by simp [s_q])⟩, ⟨by decide, fun q hq => absurd hq (by simp [s_t])⟩, by decide⟩
  · refine ⟨s2.keep (fun j k hj hj3 => by rw [hlow _ _ (by omega), g3 _ _ (by omega)]), ⟨?_, ?_, ?_, ?_, ?_, ?_, ?_⟩, ⟨0, by decide, ?_, ?_, fun k hk => absurd hk (Nat.not_lt_zero _)⟩, fun j hj => ?_, ⟨?_, ?_⟩, ⟨?_, fun k hk => absurd hk (Nat.not_lt_zero _)⟩, ?_, fun k hk => absurd hk (Nat.not_lt_zero _)⟩
    · rw [hlow _ _ (by omega), hI3, q_u2o (by omega), q_u2o (by omega), q_u2o (by omega), q_u2o (by omega), q_u2o (by omega), q_u2o (by omega), q_u2s]; rfl
    · rw [hlow _ _ (by omega), hI3, q_u2o (by omega), q_u2o (by omega), q_u2o (by omega), q_u2o (by omega), q_u2o (by omega), q_u2s]; rfl
    · rw [hlow _ _ (by omega), hI3, q_u2o (by omega), q_u2o (by omega), q_u2o (by omega), q_u2o (by omega), q_u2s]; rfl
    · rw [hlow _ _ (by omega), hI3, q_u2o (by omega), q_u2o (by omega), q_u2o (by omega), q_u2s]; rfl
    · rw [hlow _ _ (by omega), hI3, q_u2o (by omega), q_u2o (by omega), q_u2s]; rfl
    · rw [hlow _ _ (by omega), hI3, q_u2o (by omega), q_u2s]; rfl
    · rw [hlow _ _ (by omega), hI3, q_u2s]; rfl
    · rw [hlow1 _ _ (by omega) (by omega) (by omega) (by omega) (by omega) (by omega) (by omega)]; exact f11
    · rw [hlow1 _ _ (by omega) (by omega) (by omega) (by omega) (by omega) (by omega) (by omega)]; exact f12
    · show lh_cu 0 81 J2 (57 + 2 * j + 4) 1 = 0
      rw [hlow1 _ _ (by omega) (by omega) (by omega) (by omega) (by omega) (by omega) (by omega)]
      exact match j, hj with
        | 0, _ => f17
        | 1, _ => f18
        | 2, _ => f19
        | 3, _ => f20
        | n + 4, h => absurd h (by omega)
    · rw [hlow1 _ _ (by omega) (by omega) (by omega) (by omega) (by omega) (by omega) (by omega)]; exact f13
    · rw [hlow1 _ _ (by omega) (by omega) (by omega) (by omega) (by omega) (by omega) (by omega), f14]; rfl
    · rw [hlow1 _ _ (by omega) (by omega) (by omega) (by omega) (by omega) (by omega) (by omega)]; exact f15
    · rw [hlow1 _ _ (by omega) (by omega) (by omega) (by omega) (by omega) (by omega) (by omega)]; exact f16
  · refine ⟨hmd.keep (r_h_wf st_wf) (fun k _ => cu _ _ _ _ (by omega)) (fun k _ => cu _ _ _ _ (by omega)) (fun k _ => cu _ _ _ _ (by omega)), b2.kp (fun k _ _ => cu _ _ _ _ (by omega)), ⟨?_, fun k hk => absurd hk (Nat.not_lt_zero _)⟩, fun j hj => ?_, ⟨?_, fun k hk => absurd hk (Nat.not_lt_zero _)⟩, ⟨?_, fun k hk => absurd hk (Nat.not_lt_zero _)⟩, ?_, fun k hk => absurd hk (Nat.not_lt_zero _)⟩
    · rw [cu _ _ _ _ (by omega)]; exact b5
    · show lh_cu 0 81 J2 (79 + 4) j = 0
      rw [cu _ _ _ _ (by omega)]; exact b6 j hj
    · rw [cu _ _ _ _ (by omega)]; exact b3
    · rw [cu _ _ _ _ (by omega)]; exact b4
    · rw [cu _ _ _ _ (by omega), b7 _ _ (by omega) (by omega) (by omega) (by omega), j3 _ _ (by omega), cuZ _ _ _ _ (by omega)]; rfl
  · rw [cuL _ _ _ _ (by omega), m3, cuL _ _ _ _ (by omega)]; exact l2 w hw
  · rw [cuL _ _ _ _ (by omega)]; exact m2 w hw
