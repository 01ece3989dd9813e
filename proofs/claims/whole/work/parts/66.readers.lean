/-! both readers at token n -/
def tk_C (t : List Nat) (n : Nat) : Nat := tk_c t (tk_pos t n)
def tk_P (t : List Nat) (n : Nat) : Nat := tk_i t (tk_pos t n)
def tk_V (t : List Nat) (n : Nat) : Nat := tk_v t (tk_pos t n)
def tk_W (t : List Nat) (n : Nat) : List Nat := tk_w t (tk_pos t n)
theorem tk_P_le (t : List Nat) (n : Nat) : tk_P t n ≤ t.length := (tk_i_le t (tk_pos_le t n)).2
theorem tk_C_b (t : List Nat) (n : Nat) : tk_C t n ≤ 38 ∧ (tk_C t n = 37 ↔ tk_P t n = t.length) := by
  have hp := tk_P_le t n
  unfold tk_C tk_P tk_c at *
  by_cases h : t.length ≤ tk_i t (tk_pos t n)
  · rw [if_pos h]; omega
  · rw [if_neg h]
    have h1 := tk_ix_le (tk_ws t (tk_i t (tk_pos t n)) (tk_end tk_let t (tk_i t (tk_pos t n))))
    have h2 := tk_sc_b (t.getD (tk_i t (tk_pos t n)) 0)
    repeat' split
    all_goals omega
theorem tk_C_w {t : List Nat} {n : Nat} (h : tk_C t n ≤ 27) : tk_C t n = tk_ix (tk_W t n) ∧ (∀ c ∈ tk_W t n, tk_let c = true) ∧ (tk_W t n).length ≤ 8 := by
  refine ⟨?_, tk_ws_all, ?_⟩
  · unfold tk_C tk_W tk_c tk_w at *
    have h2 := tk_sc_b (t.getD (tk_i t (tk_pos t n)) 0)
    repeat' split at h
    all_goals first | omega | skip
    next h3 h4 h5 => rw [if_neg h3, if_pos h4, if_pos h5]
  · unfold tk_C tk_c at h
    unfold tk_W tk_w
    rw [tk_ws_len]
    have h2 := tk_sc_b (t.getD (tk_i t (tk_pos t n)) 0)
    repeat' split at h
    all_goals omega
def r_c (t : List Nat) (n : Nat) (I : lh_II) (L : lh_LL) : Prop := qt_c I t ∧ I (1 + 4) 3 = nI (tk_pos t (n + 1)) ∧ I (1 + 4) 4 = nI (tk_C t n) ∧ I (1 + 4) 5 = nI (tk_P t n) ∧ (tk_C t n = 28 → I (1 + 4) 6 = nI (tk_V t n) ∧ tk_V t n ≤ 9999) ∧ (tk_C t n ≤ 27 → L (1 + 4) 7 = lN (tk_cd 32 (tk_W t n))) ∧ ∀ w, w < 27 → L (3 + 4) w = q_kw w
def r_cf (I I' : lh_II) : Prop := ∀ o k, ¬ (o = 5 ∧ (3 ≤ k ∧ k ≤ 6)) → I' o k = I o k
def r_lf (L L' : lh_LL) : Prop := ∀ o k, ¬ (o = 5 ∧ k = 7) → L' o k = L o k
theorem e_adv {t : List Nat} (hw : qt_w t) {n : Nat} {I : lh_II} {L : lh_LL} (h : r_c t n I L) : ∃ I' L', f_Re_advance I L = some (I', L') ∧ r_c t (n + 1) I' L' ∧ r_cf I I' ∧ r_lf L L' := by
  obtain ⟨h1, h2, h3, h4, h5, h6, h7⟩ := h
  obtain ⟨I', L', e1, e2, e3, e4, e5, e6, e7, e8⟩ := e_advance hw (tk_pos_le t (n + 1)) h1 h2 h7
  refine ⟨I', L', e1, ⟨⟨by rw [e7 _ _ (by omega)]; exact h1.1, fun i hi => by rw [e7 _ _ (by omega)]; exact h1.2 i hi⟩, e2, e3, e4, e5, e6, fun w hw => by rw [e8 _ _ (by omega)]; exact h7 w hw⟩, fun o k h => e7 o k (by omega), e8⟩
theorem e_rbegin {t : List Nat} (hw : qt_w t) {I : lh_II} {L : lh_LL} (hc : qt_c I t) (hk : ∀ w, w < 27 → L (3 + 4) w = q_kw w) : ∃ I' L', f_Re_begin I L = some (I', L') ∧ r_c t 0 I' L' ∧ I' (1 + 4) 8 = 0 ∧ (∀ o k, ¬ (o = 5 ∧ (3 ≤ k ∧ k ≤ 8)) → I' o k = I o k) ∧ r_lf L L' := by
  obtain ⟨I', L', e1, e2, e3, e4, e5, e6, e7, e8⟩ := e_advance (I := lh_u2 (lh_u2 I (1 + 4) 3 0) (1 + 4) 8 0) (L := L) hw (Nat.zero_le _) ⟨by rw [q_u2o (by omega), q_u2o (by omega)]; exact hc.1, fun i hi => by rw [q_u2o (by omega), q_u2o (by omega)]; exact hc.2 i hi⟩ (by rw [q_u2o (by omega), q_u2s]; rfl) hk
  refine ⟨I', L', by rw [f_Re_begin, e1, z_bs], ⟨⟨by rw [e7 _ _ (by omega), q_u2o (by omega), q_u2o (by omega)]; exact hc.1, fun i hi => by rw [e7 _ _ (by omega), q_u2o (by omega), q_u2o (by omega)]; exact hc.2 i hi⟩, e2, e3, e4, e5, e6, fun w hw => by rw [e8 _ _ (by omega)]; exact hk w hw⟩, by rw [e7 _ _ (by omega), q_u2s], fun o k h => by rw [e7 _ _ (by omega), q_u2o (by omega), q_u2o (by omega)], e8⟩
theorem r_c.kp {t : List Nat} {n : Nat} {I I' : lh_II} {L : lh_LL} (h : r_c t n I L) (hf : ∀ o k, (o = 5 ∧ k ≤ 6) ∨ o = 6 → I' o k = I o k) : r_c t n I' L := by
  obtain ⟨h1, h2, h3, h4, h5, h6, h7⟩ := h
  exact ⟨⟨by rw [hf _ _ (by omega)]; exact h1.1, fun i hi => by rw [hf _ _ (by omega)]; exact h1.2 i hi⟩, by rw [hf _ _ (by omega)]; exact h2, by rw [hf _ _ (by omega)]; exact h3, by rw [hf _ _ (by omega)]; exact h4, by rw [hf _ _ (by omega)]; exact h5, h6, h7⟩
def r_m (t : List Nat) (N n : Nat) (J : lh_II) (M : lh_LL) : Prop := N ≤ 1000 ∧ n ≤ N ∧ tk_P t N = t.length ∧ (∀ m, m ≤ N → tk_laid J M t m) ∧ (∀ m, m < N → tk_P t m < t.length) ∧ J (65 + 4) 7 = nI n ∧ ∀ w, w < 27 → M (70 + 4) w = q_mw27 w
theorem r_m.nx {t : List Nat} {N n : Nat} {J : lh_II} {M : lh_LL} (h : r_m t N n J M) (hc : tk_C t n ≠ 37) : n < N := by
  obtain ⟨h1, h2, h3, -⟩ := h
  have := (tk_C_b t n).2
  by_cases e : n = N
  · subst e; omega
  · omega
theorem r_m.kp {t : List Nat} {N n n' : Nat} {J J' : lh_II} {M : lh_LL} (h : r_m t N n J M) (hn : n' ≤ N) (h7 : J' (65 + 4) 7 = nI n') (hf : ∀ o k, o = 71 ∨ o = 72 → J' o k = J o k) : r_m t N n' J' M := by
  obtain ⟨h1, h2, h3, h4, h5, h6, h7'⟩ := h
  exact ⟨h1, hn, h3, fun m hm => ⟨by rw [hf _ _ (by omega)]; exact (h4 m hm).1, by rw [hf _ _ (by omega)]; exact (h4 m hm).2.1, (h4 m hm).2.2⟩, h5, h7, h7'⟩
theorem tk_so_1 (c : Nat) : (nI (tk_so c) = 1) = (c ≤ 27) := by
  unfold tk_so
  by_cases h : c ≤ 27
  · rw [if_pos h]; exact propext ⟨fun _ => h, fun _ => rfl⟩
  · rw [if_neg h]
    refine propext ⟨fun h' => ?_, fun h' => absurd h' h⟩
    exfalso
    repeat' split at h'
    all_goals exact absurd h' (by decide)
theorem tk_so_2 (c : Nat) : (nI (tk_so c) = 2) = (c = 28) := by
  unfold tk_so
  by_cases h : c = 28
  · subst h; decide
  · repeat' split
    all_goals (refine propext ⟨fun h => ?_, fun h' => absurd h' h⟩; first | exact absurd h (by decide) | omega)
theorem tk_so_3 {c : Nat} (hc : c ≤ 38) : (nI (tk_so c) = 3) = (29 ≤ c ∧ c ≤ 36) := by
  revert c
  decide +kernel
theorem tk_so_0 {c : Nat} (hc : c ≤ 38) : (nI (tk_so c) = 0) = (c = 37) := by
  revert c
  decide +kernel
theorem m_isWord {t : List Nat} {N n : Nat} {J : lh_II} {M : lh_LL} (h : r_m t N n J M) (h8 : J (65 + 4) 8 = 0) {w : Nat} (hw : w < 27) : f_LM_isWord (nI w) J M = some (q_b01 (decide (tk_C t n = w))) := by
  obtain ⟨h1, h2, h3, h4, h5, h6, h7⟩ := h
  obtain ⟨l1, l2, l3, -⟩ := h4 n h2
  obtain ⟨-, k2, -, k4, k5⟩ := tk_wd_c w hw
  have l1' : J (67 + 4) n = nI (tk_so (tk_C t n)) := l1
  unfold f_LM_isWord
  rw [h8, h6]
  simp (disch := omega) only [z_ix, z_cl, z_gd, l1', tk_so_1, ↓reduceIte]
  by_cases hc : tk_C t n ≤ 27
  · rw [if_pos hc]
    obtain ⟨c1, c2, c3⟩ := tk_C_w hc
    have hlt : tk_cd 37 (tk_W t n) < 37 ^ 8 := tk_cd_lt (by decide) 8 _ c3 c2
    have ec : (lg_cmp (M (69 + 4) n) (M (70 + 4) w) = 0) = (tk_C t n = w) := by
      rw [show M (69 + 4) n = lN (tk_cd 37 (tk_W t n)) from l3 hc, h7 w hw, k2, c1]
      refine propext ((lg_cmp_eq _ _).trans ((fb_lN_inj (by omega) (by omega)).trans (Iff.trans ?_ (tk_ix_iff hw).symm)))
      exact ⟨fun e => (tk_cd_inj (B := 37) (by decide) _ _ _ (Nat.le_refl _) c2 k5 e).symm, fun e => by rw [e]⟩
    by_cases hq : tk_C t n = w
    · rw [if_pos (ec.mpr hq), decide_eq_true hq]; rfl
    · rw [if_neg (fun h => hq (ec.mp h)), decide_eq_false hq]; rfl
  · rw [if_neg hc, decide_eq_false (by omega)]; rfl
theorem m_isWord' {J : lh_II} (M : lh_LL) (h8 : ¬ J (65 + 4) 8 = 0) (x : Int32) : f_LM_isWord x J M = some 0 := by
  unfold f_LM_isWord; rw [if_neg h8]
theorem m_isSign {t : List Nat} {N n : Nat} {J : lh_II} {M : lh_LL} (h : r_m t N n J M) (h8 : J (65 + 4) 8 = 0) {k : Nat} (hk : k < 8) : f_LM_isSign (nI (tk_sg.getD k 0)) J M = some (q_b01 (decide (tk_C t n = 29 + k))) := by
  obtain ⟨h1, h2, h3, h4, h5, h6, h7⟩ := h
  obtain ⟨l1, l2, -, -, l3⟩ := h4 n h2
  have hsg := (e_sgb k hk).2
  have r2 := (m_rank _ hsg).2
  have hb := (tk_C_b t n).1
  unfold f_LM_isSign
  rw [h8, h6]
  have l1' : J (67 + 4) n = nI (tk_so (tk_C t n)) := l1
  simp (disch := omega) only [z_ix, z_cl, z_gd, l1', tk_so_3 hb, ↓reduceIte, r2]
  by_cases hc : 29 ≤ tk_C t n ∧ tk_C t n ≤ 36
  · rw [if_pos hc]
    have l4 : M (69 + 4) n = lN (tk_sg.getD (tk_C t n - 29) 0) := l3 hc.1 hc.2
    have hsg2 := (e_sgb (tk_C t n - 29) (by omega)).2
    have hin : ∀ x, x < 8 → ∀ y, y < 8 → tk_sg.getD x 0 = tk_sg.getD y 0 → x = y := by decide +kernel
    have ec : (lg_cmp (M (69 + 4) n) (lN (tk_sg.getD k 0)) = 0) = (tk_C t n = 29 + k) := by
      rw [l4]
      refine propext ((lg_cmp_eq _ _).trans ((fb_lN_inj (by omega) (by omega)).trans ⟨fun e => ?_, fun e => by rw [e, show 29 + k - 29 = k by omega]⟩))
      have := hin _ (by omega) _ hk e
      omega
    by_cases hq : tk_C t n = 29 + k
    · rw [if_pos (ec.mpr hq), decide_eq_true hq]; rfl
    · rw [if_neg (fun h => hq (ec.mp h)), decide_eq_false hq]; rfl
  · rw [if_neg hc, decide_eq_false (by omega)]; rfl
theorem m_isSign' {J : lh_II} (M : lh_LL) (h8 : ¬ J (65 + 4) 8 = 0) (x : Int32) : f_LM_isSign x J M = some 0 := by
  unfold f_LM_isSign; rw [if_neg h8]
theorem m_wrong {t : List Nat} {N n : Nat} {J : lh_II} {M : lh_LL} (h : r_m t N n J M) (h8 : J (65 + 4) 8 = 0) (x : Nat) : f_LM_wrong (nI x) J = some (lh_u2 J (65 + 4) 8 (nI (x + 16 * tk_P t n))) := by
  obtain ⟨h1, h2, h3, h4, h5, h6, h7⟩ := h
  obtain ⟨l1, l2, -⟩ := h4 n h2
  have l2' : J (68 + 4) n = nI (tk_P t n) := l2
  unfold f_LM_wrong
  rw [h8, h6]
  simp (disch := omega) only [z_ix, z_cl, z_gd, l2', ↓reduceIte, z_mulR, z_add]
theorem m_wrong' {J : lh_II} (h8 : ¬ J (65 + 4) 8 = 0) (x : Int32) : f_LM_wrong x J = some J := by
  unfold f_LM_wrong; rw [if_neg h8]
theorem e_refuse {t : List Nat} {n : Nat} {I : lh_II} {L : lh_LL} (h : r_c t n I L) (h8 : I (1 + 4) 8 = 0) (x : Nat) : f_Re_refuse (nI x) I = some (0, lh_u2 I (1 + 4) 8 (nI (x + 16 * tk_P t n))) := by
  obtain ⟨h1, h2, h3, h4, -⟩ := h
  unfold f_Re_refuse
  rw [h8, h4]
  simp (disch := omega) only [↓reduceIte, z_mulR, z_add]
theorem tk_ne {x p : Nat} (h1 : 1 ≤ x) (h2 : x ≤ 15) (h3 : p ≤ 1000) : ¬ nI (x + 16 * p) = 0 := by
  rw [z_eqR 0 (by decide) (by omega)]
  show ¬ x + 16 * p = 0
  omega
/-- a number wanted: its fault -/
def tk_nf (lo hi : Nat) (t : List Nat) (n : Nat) : Nat := if tk_C t n = 28 then (if lo ≤ tk_V t n ∧ tk_V t n ≤ hi then 0 else 4) else 1
theorem lg_lt {a b : Nat} (ha : a < 2147483648) (hb : b < 2147483648) : (lg_cmp (lN a) (lN b) < 0) = (a < b) ∧ (lg_cmp (lN a) (lN b) ≤ 0) = (a ≤ b) := by
  have hq := fb_lN_inj (a := a) (b := b) (by omega) (by omega)
  have h1 : (lN a > lN b) ↔ b < a := by
    show lN b < lN a ↔ b < a
    rw [Int64.lt_iff_toInt_lt, lN_ti (by omega), lN_ti (by omega), if_pos (by omega), if_pos (by omega)]
    omega
  unfold lg_cmp
  by_cases h2 : b < a
  · rw [if_pos (h1.mpr h2)]
    exact ⟨propext ⟨fun h => absurd h (by decide), fun h => by omega⟩, propext ⟨fun h => absurd h (by decide), fun h => by omega⟩⟩
  · rw [if_neg (fun h => h2 (h1.mp h))]
    by_cases h3 : a = b
    · rw [if_pos (hq.mpr h3)]
      exact ⟨propext ⟨fun h => absurd h (by decide), fun h => by omega⟩, propext ⟨fun _ => by omega, fun _ => by decide⟩⟩
    · rw [if_neg (fun h => h3 (hq.mp h))]
      exact ⟨propext ⟨fun _ => by omega, fun _ => by decide⟩, propext ⟨fun _ => by omega, fun _ => by decide⟩⟩
theorem e_want {t : List Nat} {n : Nat} {I : lh_II} {L : lh_LL} (h : r_c t n I L) (h8 : I (1 + 4) 8 = 0) {lo hi : Nat} (hlo : lo ≤ 9999) (hhi : hi ≤ 9999) : f_Re_wantNumber (nI lo) (nI hi) I = if tk_nf lo hi t n = 0 then some (1, I) else some (0, lh_u2 I (1 + 4) 8 (nI (tk_nf lo hi t n + 16 * tk_P t n))) := by
  have r4 : f_Re_refuse 4 I = _ := e_refuse h h8 4
  have r1 : f_Re_refuse 1 I = _ := e_refuse h h8 1
  obtain ⟨h1, h2, h3, h4, h5, -⟩ := h
  have hb := (tk_C_b t n).1
  have hE : (nI (tk_C t n) = 28) = (tk_C t n = 28) := z_eqR 28 (by decide) (by omega)
  unfold f_Re_wantNumber tk_nf
  by_cases hc : tk_C t n = 28
  · obtain ⟨h6, h7⟩ := h5 hc
    have c1 : (nI (tk_V t n) < nI lo) = (tk_V t n < lo) := z_lt (by omega) (by omega)
    have c2 : (nI (tk_V t n) ≤ nI hi) = (tk_V t n ≤ hi) := z_le (by omega) (by omega)
    rw [h3, if_pos (hE.mpr hc), if_pos hc, h6, r4]
    by_cases g1 : tk_V t n < lo
    · rw [if_pos (c1.mpr g1), if_neg (show ¬ (lo ≤ tk_V t n ∧ tk_V t n ≤ hi) by omega)]; rfl
    · rw [if_neg (fun h => g1 (c1.mp h))]
      by_cases g2 : tk_V t n ≤ hi
      · rw [if_pos (c2.mpr g2), if_pos (show lo ≤ tk_V t n ∧ tk_V t n ≤ hi by omega)]; rfl
      · rw [if_neg (fun h => g2 (c2.mp h)), if_neg (show ¬ (lo ≤ tk_V t n ∧ tk_V t n ≤ hi) by omega)]; rfl
  · rw [h3, if_neg (fun h => hc (hE.mp h)), if_neg hc, r1]; rfl
theorem m_take {t : List Nat} {N n : Nat} {J : lh_II} {M : lh_LL} (h : r_m t N n J M) (h8 : J (65 + 4) 8 = 0) (hw : qt_w t) (hV : tk_C t n = 28 → tk_V t n ≤ 9999) {lo hi : Nat} (hlo : lo < 128) (hhi : hi < 128) : f_LM_takeNumber (nI lo) (nI hi) J M = if tk_nf lo hi t n = 0 then some (nI (tk_V t n), lh_u2 J (65 + 4) 7 (nI (n + 1))) else some (0, lh_u2 J (65 + 4) 8 (nI (tk_nf lo hi t n + 16 * tk_P t n))) := by
  have r4 : f_LM_wrong 4 J = _ := m_wrong h h8 4
  have r1 : f_LM_wrong 1 J = _ := m_wrong h h8 1
  have hp := tk_P_le t n
  have hl := hw.1
  have n4 := tk_ne (x := 4) (p := tk_P t n) (by decide) (by decide) (by omega)
  have n1 := tk_ne (x := 1) (p := tk_P t n) (by decide) (by decide) (by omega)
  have l4 : ¬ nI (4 + 16 * tk_P t n) ≤ 0 := by rw [z_leR 0 (by decide) (by omega)]; show ¬ _ ≤ 0; omega
  have l1' : ¬ nI (1 + 16 * tk_P t n) ≤ 0 := by rw [z_leR 0 (by decide) (by omega)]; show ¬ _ ≤ 0; omega
  have hnx := h.nx
  obtain ⟨h1, h2, h3, h4, h5, h6, h7⟩ := h
  obtain ⟨q1, q2, -, q3, -⟩ := h4 n h2
  have q1' : J (67 + 4) n = nI (tk_so (tk_C t n)) := q1
  have q3' : tk_C t n = 28 → M (69 + 4) n = lN (tk_V t n) := q3
  have hb := (tk_C_b t n).1
  unfold f_LM_takeNumber tk_nf
  by_cases hc : tk_C t n = 28
  · have hv := hV hc
    have g := q3' hc
    have hn := hnx (by omega)
    obtain ⟨c1, -⟩ := lg_lt (a := tk_V t n) (b := lo) (by omega) (by omega)
    obtain ⟨-, c2⟩ := lg_lt (a := tk_V t n) (b := hi) (by omega) (by omega)
    simp (disch := omega) only [h8, h6, z_ix, z_cl, z_gd, q1', tk_so_2, hc, g, (m_rank lo hlo).2, (m_rank hi hhi).2, c1, c2, r4, z_bs, q_u2s, q_u2o, z_addL, z_subL, ↓reduceIte, lN_i, l4]
    by_cases g1 : tk_V t n < lo
    · rw [if_pos g1, if_neg (show ¬ (lo ≤ tk_V t n ∧ tk_V t n ≤ hi) by omega)]; rfl
    · rw [if_neg g1]
      by_cases g2 : tk_V t n ≤ hi
      · rw [if_pos g2, if_pos (show lo ≤ tk_V t n ∧ tk_V t n ≤ hi by omega), if_pos (by decide), if_pos rfl, Nat.add_sub_cancel, g, lN_i]
      · rw [if_neg g2, if_neg (show ¬ (lo ≤ tk_V t n ∧ tk_V t n ≤ hi) by omega)]; rfl
  · simp (disch := omega) only [h8, h6, z_ix, z_cl, z_gd, q1', tk_so_2, hc, r1, z_bs, q_u2s, l1', ↓reduceIte]
    rfl
theorem m_tsign {t : List Nat} {N n : Nat} {J : lh_II} {M : lh_LL} (h : r_m t N n J M) (h8 : J (65 + 4) 8 = 0) {k : Nat} (hk : k < 8) : f_LM_takeSign (nI (tk_sg.getD k 0)) J M = some (if tk_C t n = 29 + k then lh_u2 J (65 + 4) 7 (nI (n + 1)) else lh_u2 J (65 + 4) 8 (nI (1 + 16 * tk_P t n))) := by
  have r1 : f_LM_wrong 1 J = _ := m_wrong h h8 1
  unfold f_LM_takeSign
  rw [m_isSign h h8 hk, z_bs]
  by_cases hc : tk_C t n = 29 + k
  · rw [decide_eq_true hc, if_pos hc, if_neg (by decide), h.2.2.2.2.2.1, z_addL]
  · rw [decide_eq_false hc, if_neg hc, if_pos (by decide), r1, z_bs]
theorem m_tsign' {J : lh_II} (M : lh_LL) (h8 : ¬ J (65 + 4) 8 = 0) (x : Int32) : f_LM_takeSign x J M = some J := by
  unfold f_LM_takeSign
  rw [m_isSign' M h8, z_bs, if_pos rfl, m_wrong' h8, z_bs]
theorem e_take {t : List Nat} (hw : qt_w t) {n : Nat} {I : lh_II} {L : lh_LL} (h : r_c t n I L) (h8 : I (1 + 4) 8 = 0) {x : Nat} (hx : x ≤ 38) : (tk_C t n = x → ∃ I' L', f_Re_take (nI x) I L = some (1, I', L') ∧ r_c t (n + 1) I' L' ∧ r_cf I I' ∧ r_lf L L') ∧ (¬ tk_C t n = x → f_Re_take (nI x) I L = some (0, lh_u2 I (1 + 4) 8 (nI (1 + 16 * tk_P t n)), L)) := by
  have r1 : f_Re_refuse 1 I = _ := e_refuse h h8 1
  have hb := (tk_C_b t n).1
  have hE : (nI (tk_C t n) = nI x) = (tk_C t n = x) := z_eq (by omega) (by omega)
  unfold f_Re_take
  rw [h.2.2.1]
  constructor
  · intro hc
    obtain ⟨I', L', e1, e2⟩ := e_adv hw h
    rw [if_pos (hE.mpr hc), e1, z_bs]
    exact ⟨I', L', rfl, e2⟩
  · intro hc
    rw [if_neg (fun h => hc (hE.mp h)), r1, z_bs]
    rfl
