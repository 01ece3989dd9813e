/-! undo, mark, say -/
theorem q_gT {l : List lh_Mt} {d : lh_Mt} {n k : Nat} (hk : k < n) : (l.take n).getD k d = l.getD k d := by
  rw [List.getD_eq_getElem?_getD, List.getD_eq_getElem?_getD, List.getElem?_take, if_pos hk]
theorem q_gM {l : List lh_Mt} {d : lh_Mt} {k : Nat} (hk : k < l.length) : l.getD k d ∈ l := by
  rw [List.getD_eq_getElem?_getD, List.getElem?_eq_getElem hk]
  exact List.getElem_mem hk
theorem p_undo : lh_P13 lh_inv := by
  intro t a b a2 b2 I L hi
  obtain ⟨s, w, c, m, ha, fc, f0, fm⟩ := hi.opx
  obtain ⟨m0, k0⟩ := f0 I q_fr.rf
  obtain ⟨e, e1, e2, e3, e4⟩ := c.p
  have hl := w.2.2.1.1
  have r21 : lh_u2 I (65 + 4) 0 0 (65 + 4) 21 = nI (s_p s).length := m0.p.1
  by_cases h0 : (s_p s).length = 0
  · refine ⟨(0, I), (0, lh_u2 I (65 + 4) 0 0), ?_, ?_, rfl, hi.en k0⟩
    · rw [f_LH_undo, e3, h0]; rfl
    · rw [f_LM_undo, r21, h0]; rfl
  · obtain ⟨l, hl1⟩ : ∃ l, (s_p s).length = l + 1 := ⟨(s_p s).length - 1, by omega⟩
    rw [hl1] at e3 r21 hl
    have e15 : nI e + 16 - 1 - (nI e + 16 - 1) / 16 * 16 = nI ((e + 15) % 16) := by
      rw [show nI e + 16 - 1 = nI (e + 15) from by rw [show (16 : Int32) = nI 16 from rfl, nI_add]; exact pk_sub (b := 1) (by omega)]
      exact pk_rem (d := 16) (by omega) (by omega) (by omega)
    have el : nI (l + 1) - 1 = nI l := nI_pred l
    obtain ⟨K, hK⟩ : ∃ K, K = lh_u2 (lh_u2 I (0 + 4) 10 (nI ((e + 15) % 16))) (0 + 4) 11 (nI l) := ⟨_, rfl⟩
    have hKo : ∀ o k, ¬ (o = 4 ∧ (k = 10 ∨ k = 11)) → K o k = I o k := fun o k h => by rw [hK, q_u2o (by omega), q_u2o (by omega)]
    have hlast : q_mc K (41 + (e + 15) % 16) ((s_p s).getD l q_m0) := by
      have := e4 l (by omega)
      rw [hl1, show (e + 16 - (l + 1) + l) % 16 = (e + 15) % 16 by omega] at this
      exact this.kp (fun k _ => hKo _ _ (by omega))
    obtain ⟨I1, g1, g2, g3⟩ := e_become (o := 7) (by omega) hlast
    have hig : ∀ o k, 69 ≤ o → I1 o k = I o k := fun o k h => by rw [g3 _ _ (by omega), hKo _ _ (by omega)]
    have r21' : I1 (65 + 4) 21 = nI (l + 1) := by rw [hig _ _ (by omega), m.p.1, hl1]
    obtain ⟨J0, hJ0⟩ : ∃ J0, J0 = lh_u2 (lh_u2 I1 (65 + 4) 0 0) (65 + 4) 21 (nI l) := ⟨_, rfl⟩
    have hJo : ∀ o k, ¬ (o = 69 ∧ (k = 0 ∨ k = 21)) → J0 o k = I1 o k := fun o k h => by rw [hJ0, q_u2o (by omega), q_u2o (by omega)]
    obtain ⟨J1, k1, k2, k3⟩ := m_copyM (J := J0) (x := 32 * (5 + l)) (y := 0) (by omega) (by omega) (by omega) ((m.p.2 l (by omega)).kp (fun k _ _ => by rw [hJo _ _ (by omega), hig _ _ (by omega)]))
    have k1' : f_LM_copies (nI (32 * (5 + l))) 0 7 J0 = some J1 := k1
    refine ⟨(1, I1), (1, J1), ?_, ?_, rfl, ?_⟩
    · have hne : (nI (l + 1) = 0) = False := by simp (disch := omega) only [z_eqR, Nat.add_one_ne_zero]
      rw [f_LH_undo]
      simp (disch := omega) only [e3, e2, e15, el, hne, q_u2o, q_u2s, ← hK, z_ix, z_cl, z_gd, g1, z_bs, if_false]
    · have hne : (nI (l + 1) = 0) = False := by simp (disch := omega) only [z_eqR, Nat.add_one_ne_zero]
      rw [f_LM_undo]
      simp (disch := omega) only [r21', hne, el, q_u2o, q_u2s, ← hJ0, z_addR, z_mulR, k1', z_bs, if_false]
    · show lh_inv t a b a2 b2 J1 L
      obtain ⟨ha', hb', -, hL⟩ := hi
      have lo : ∀ o k, o < 69 → J1 o k = I1 o k := fun o k h => by rw [k3 _ _ (by omega), hJo _ _ (by omega)]
      have hi2 : ∀ o k, 69 ≤ o → ¬ (o = 82 ∧ k < 7) → ¬ (o = 69 ∧ (k = 21 ∨ k = 0)) → J1 o k = I o k := fun o k h h1 h2 => by rw [k3 _ _ (by omega), hJo _ _ (by omega), hig _ _ h]
      have lo2 : ∀ o k, o < 69 → o ≠ 11 → ¬ (o = 4 ∧ (k = 10 ∨ k = 11)) → J1 o k = I o k := fun o k h h1 h2 => by rw [lo _ _ h, g3 _ _ (by omega), hKo _ _ h2]
      have hlen : ((s_p s).take l).length = l := by rw [List.length_take, hl1]; omega
      refine ⟨ha', hb', ⟨(s_h s, (s_p s).getD l q_m0, (s_p s).take l, s_m s, s_s s, s_q s, s_t s), ?_, ?_, ?_⟩, hL⟩
      · obtain ⟨w1, w2, ⟨w3, w3'⟩, w4, w5, w6, w7, w8⟩ := w.less
        exact ⟨w1, w3' _ (q_gM (by omega)), ⟨by show ((s_p s).take l).length ≤ 16; omega, fun m hm => w3' m (List.mem_of_mem_take hm)⟩, w4, w5, w6, w7, w8⟩
      · refine c.re (fun j k hj hj3 => lo2 _ _ (by omega) (by omega) (by omega)) (g2.kp (fun k _ => lo _ _ (by omega))) ?_ (c.m.kp (fun o k h1 h2 => lo2 _ _ (by omega) (by omega) (by omega))) ⟨by rw [lo2 _ _ (by omega) (by omega) (by omega)]; exact c.s.1, by rw [lo2 _ _ (by omega) (by omega) (by omega)]; exact c.s.2⟩ (fun k => ⟨lo2 _ _ (by omega) (by omega) (by omega), lo2 _ _ (by omega) (by omega) (by omega), lo2 _ _ (by omega) (by omega) (by omega)⟩) (fun k => ⟨lo2 _ _ (by omega) (by omega) (by omega), lo2 _ _ (by omega) (by omega) (by omega)⟩)
        refine ⟨(e + 15) % 16, Nat.mod_lt _ (by decide), ?_, ?_, fun k hk => ?_⟩
        · rw [lo _ _ (by omega), g3 _ _ (by omega), hK, q_u2o (by omega), q_u2s]
        · rw [lo _ _ (by omega), g3 _ _ (by omega), hK, q_u2s, hlen]
        · rw [hlen] at hk ⊢
          rw [q_gT hk]
          have := e4 k (by omega)
          rw [hl1, show (e + 16 - (l + 1) + k) % 16 = ((e + 15) % 16 + 16 - l + k) % 16 by omega] at this
          exact this.kp (fun k' _ => lo2 _ _ (by omega) (by omega) (by omega))
      · refine m.re w (fun o k h => hi2 _ _ (by omega) (by omega) (by omega)) k2 ⟨?_, fun k hk => ?_⟩ (m.m.kp (fun j m' ss hj e => (w.2.2.2.1 j m' ss hj e).2.1) (fun k => hi2 _ _ (by omega) (by omega) (by omega)) (fun k h1 h2 => hi2 _ _ (by omega) (by omega) (by omega))) (m.s.kp w.2.2.2.2.1.1 (fun k h1 h2 => hi2 _ _ (by omega) (by omega) (by omega)))
        · rw [k3 _ _ (by omega), hJ0, q_u2s, hlen]
        · rw [hlen] at hk
          rw [q_gT hk]
          exact (m.p.2 k (by omega)).kp (fun k' h1 h2 => hi2 _ _ (by omega) (by omega) (by omega))
/-! mark -/
theorem q_ms.cp {J J' : lh_II} {x y : Nat} {ss : List lh_Sd} (h : q_ms J x ss) (hs : ss.length ≤ 8) (e : ∀ k, k < 32 → J' 82 (y + k) = J 82 (x + k)) : q_ms J' y ss := by
  obtain ⟨h1, h2⟩ := h
  refine ⟨(e 7 (by omega)).trans h1, fun k hk => ?_⟩
  obtain ⟨g1, g2, g3⟩ := h2 k hk
  refine ⟨?_, ?_, ?_⟩
  · have := e (8 + 3 * k) (by omega)
    rw [show y + (8 + 3 * k) = y + 8 + 3 * k by omega, show x + (8 + 3 * k) = x + 8 + 3 * k by omega] at this
    exact this.trans g1
  · have := e (9 + 3 * k) (by omega)
    rw [show y + (9 + 3 * k) = y + 9 + 3 * k by omega, show x + (9 + 3 * k) = x + 9 + 3 * k by omega] at this
    exact this.trans g2
  · have := e (10 + 3 * k) (by omega)
    rw [show y + (10 + 3 * k) = y + 10 + 3 * k by omega, show x + (10 + 3 * k) = x + 10 + 3 * k by omega] at this
    exact this.trans g3
theorem q_mm.cp {J J' : lh_II} {x y : Nat} {m : lh_Mt} (h : q_mm J x m) (e : ∀ k, k < 32 → J' 82 (y + k) = J 82 (x + k)) : q_mm J' y m := by
  obtain ⟨m1, m2, m3, m4, m5, m6, m7⟩ := h
  exact ⟨(e 0 (by omega)).trans m1, (e 1 (by omega)).trans m2, (e 2 (by omega)).trans m3, (e 3 (by omega)).trans m4, (e 4 (by omega)).trans m5, (e 5 (by omega)).trans m6, (e 6 (by omega)).trans m7⟩
theorem p_mark : lh_P42 lh_inv := by
  intro t a b a2 b2 I L x1 z hz hi
  obtain ⟨s, w, c, m, ha, fc, f0, fm⟩ := hi.opx
  obtain ⟨m0, k0⟩ := f0 I q_fr.rf
  have e0 : ∀ (A B : Option (Int32 × lh_II)), (if x1 < 0 then A else if x1 < 4 then B else A) = if q_is 4 x1 = true then B else A := by
    intro A B
    rw [← q_isf (4 : Int32) rfl]
    by_cases h0 : x1 < 0
    · rw [if_pos h0, if_pos h0]
    · rw [if_neg h0, if_neg h0]
      by_cases h1 : (4 : Int32) ≤ x1
      · rw [if_pos h1, if_neg (fun h => (fa_of_lt h).2.1 h1)]
      · rw [if_neg h1, if_pos (fa_of_nle h1)]
  cases h1 : q_is 4 x1 with
  | false => exact ⟨(0, I), (0, lh_u2 I (65 + 4) 0 0), by rw [f_LH_mark, e0, h1, if_neg (by decide)], by simp only [f_LM_mark, m_in03, h1, z_bs, z_gd, z_b1, z_b0, z_10, z_01, eq_self, reduceCtorEq, ↓reduceIte, if_true, if_false, Nat.not_lt_zero, not_true_eq_false, not_false_eq_true, Bool.false_eq_true, Nat.le_refl, Nat.lt_irrefl], rfl, hi.en k0⟩
  | true =>
    obtain ⟨j, hj, rfl⟩ := q_is_ex (by omega) h1
    obtain ⟨ha', hb', -, hL⟩ := id hi
    have hpl := w.2.2.1.1
    rcases hz with rfl | rfl
    · -- laid
      obtain ⟨I1, g1, g2, g3⟩ := e_become (I := lh_u2 I (57 + 2 * j + 4) 1 1) (o := 57 + 2 * j + 1) (o2 := 7) (by omega) (c.2.1.kp (fun k _ => q_u2o (by omega)))
      have r12 : I1 (0 + 4) 12 = nI (s_s s).length := by rw [g3 _ _ (by omega), q_u2o (by omega)]; exact c.s.1
      have r13 : I1 (0 + 4) 13 = nI (q_dl (s_h s) (s_s s)) := by rw [g3 _ _ (by omega), q_u2o (by omega)]; exact c.s.2
      obtain ⟨I2, hI2⟩ : ∃ I2, I2 = lh_u2 (lh_u2 I1 (57 + 2 * j + 4) 2 (nI (s_s s).length)) (57 + 2 * j + 4) 3 (nI (q_dl (s_h s) (s_s s))) := ⟨_, rfl⟩
      have hI2o : ∀ o k, ¬ (o = 57 + 2 * j + 4 ∧ (k = 1 ∨ k = 2 ∨ k = 3)) → ¬ (o = 57 + 2 * j + 5 ∧ k < 7) → I2 o k = I o k := fun o k h1 h2 => by rw [hI2, q_u2o (by omega), q_u2o (by omega), g3 _ _ (by omega), q_u2o (by omega)]
      obtain ⟨J0, hJ0⟩ : ∃ J0, J0 = lh_u2 (lh_u2 I2 (65 + 4) 0 0) (79 + 4) j 1 := ⟨_, rfl⟩
      have hJ0o : ∀ o k, ¬ (o = 69 ∧ k = 0) → ¬ (o = 83 ∧ k = j) → J0 o k = I2 o k := fun o k h1 h2 => by rw [hJ0, q_u2o (by omega), q_u2o (by omega)]
      obtain ⟨J1, k1, k2, k3⟩ := m_copies (J := J0) (x := 0) (y := 32 * (1 + j)) (n := 32) (by omega) (by omega) (by omega)
      have k1' : f_LM_copies 0 (nI (32 * (1 + j))) 32 J0 = some J1 := k1
      have r21 : J1 (65 + 4) 21 = nI (s_p s).length := by rw [k3 _ _ (by omega), hJ0o _ _ (by omega) (by omega), hI2o _ _ (by omega) (by omega)]; exact m.p.1
      obtain ⟨J2, hJ2⟩ : ∃ J2, J2 = lh_u2 J1 (65 + 4) 21 (nI (s_p s).length) := ⟨_, rfl⟩
      have hJ2o : ∀ o k, J2 o k = J1 o k := fun o k => by
        rw [hJ2]
        by_cases e : o = 65 + 4 ∧ k = 21
        · obtain ⟨rfl, rfl⟩ := e; rw [q_u2s, r21]
        · exact q_u2o e
      refine ⟨(1, I2), (1, J2), ?_, ?_, rfl, ?_⟩
      · rw [f_LH_mark, e0, h1, if_pos rfl]
        simp (disch := omega) only [z_ix, z_gd, z_cl, if_true, g1, z_bs, r12, r13, q_u2o, ← hI2]
      · simp (disch := omega) only [f_LM_mark, m_in03, h1, z_ix, z_cl, ← hJ0, z_addR, z_mulR, k1', r21, ← hJ2, z_bs, z_gd, z_b1, z_b0, z_10, z_01, eq_self, reduceCtorEq, ↓reduceIte, if_true, if_false, Nat.not_lt_zero, not_true_eq_false, not_false_eq_true, Bool.false_eq_true, Nat.le_refl, Nat.lt_irrefl]
      · show lh_inv t a b a2 b2 J2 L
        have lo : ∀ o k, o < 69 → J2 o k = I2 o k := fun o k h => by rw [hJ2o, k3 _ _ (by omega), hJ0o _ _ (by omega) (by omega)]
        have lo2 : ∀ o k, o < 69 → ¬ (o = 57 + 2 * j + 4 ∧ (k = 1 ∨ k = 2 ∨ k = 3)) → ¬ (o = 57 + 2 * j + 5 ∧ k < 7) → J2 o k = I o k := fun o k h h1 h2 => by rw [lo _ _ h, hI2o _ _ h1 h2]
        have hi2 : ∀ o k, 69 ≤ o → ¬ (o = 69 ∧ k = 0) → ¬ (o = 83 ∧ k = j) → ¬ (o = 82 ∧ 32 * (1 + j) ≤ k ∧ k < 32 * (1 + j) + 32) → J2 o k = I o k := fun o k h h1 h2 h3 => by rw [hJ2o, k3 _ _ h3, hJ0o _ _ h1 h2, hI2o _ _ (by omega) (by omega)]
        have cpy : ∀ k, k < 32 → J2 82 (32 * (1 + j) + k) = I 82 (0 + k) := fun k hk => by rw [hJ2o, k2 k hk, hJ0o _ _ (by omega) (by omega), hI2o _ _ (by omega) (by omega)]
        refine ⟨ha', hb', ⟨(s_h s, s_n s, s_p s, (fun i => if i = j then some (s_n s, s_s s) else s_m s i), s_s s, s_q s, s_t s), ?_, ?_, ?_⟩, hL⟩
        · obtain ⟨w1, w2, w3, w4, w5, w6, w7, w8⟩ := w.less
          refine ⟨w1, w2, w3, fun i m' ss hi' e => ?_, w5, w6, w7, w8⟩
          have e' : (if i = j then some (s_n s, s_s s) else s_m s i) = some (m', ss) := e
          split at e'
          · cases e'; exact ⟨w2, w5⟩
          · exact w4 i m' ss hi' e'
        · refine c.re (fun i k hi' hj3 => lo2 _ _ (by omega) (by omega) (by omega)) (c.2.1.kp (fun k _ => lo2 _ _ (by omega) (by omega) (by omega))) (c.p.kp (fun k _ => lo2 _ _ (by omega) (by omega) (by omega)) (fun o k h1 h2 => lo2 _ _ (by omega) (by omega) (by omega))) (fun i hi' => ?_) ⟨by rw [lo2 _ _ (by omega) (by omega) (by omega)]; exact c.s.1, by rw [lo2 _ _ (by omega) (by omega) (by omega)]; exact c.s.2⟩ (fun k => ⟨lo2 _ _ (by omega) (by omega) (by omega), lo2 _ _ (by omega) (by omega) (by omega), lo2 _ _ (by omega) (by omega) (by omega)⟩) (fun k => ⟨lo2 _ _ (by omega) (by omega) (by omega), lo2 _ _ (by omega) (by omega) (by omega)⟩)
          by_cases e : i = j
          · subst e
            simp only [if_true]
            refine ⟨?_, g2.kp (fun k _ => by rw [lo _ _ (by omega), hI2, q_u2o (by omega), q_u2o (by omega)]), ?_, ?_⟩
            · rw [lo _ _ (by omega), hI2, q_u2o (by omega), q_u2o (by omega), g3 _ _ (by omega), q_u2s]
            · rw [lo _ _ (by omega), hI2, q_u2o (by omega), q_u2s]
            · rw [lo _ _ (by omega), hI2, q_u2s]
          · simp only [e, if_false]
            have := c.m i hi'
            cases hm : s_m s i with
            | none =>
              rw [hm] at this
              simp only at this ⊢
              rw [lo2 _ _ (by omega) (by omega) (by omega)]; exact this
            | some q =>
              obtain ⟨m', ss⟩ := q
              rw [hm] at this
              simp only at this ⊢
              obtain ⟨q1, q2, q3, q4⟩ := this
              exact ⟨by rw [lo2 _ _ (by omega) (by omega) (by omega)]; exact q1, q2.kp (fun k _ => lo2 _ _ (by omega) (by omega) (by omega)), by rw [lo2 _ _ (by omega) (by omega) (by omega)]; exact q3, by rw [lo2 _ _ (by omega) (by omega) (by omega)]; exact q4⟩
        · refine m.re w (fun o k h => hi2 _ _ (by omega) (by omega) (by omega) (by omega)) (m.2.1.kp (fun k _ _ => hi2 _ _ (by omega) (by omega) (by omega) (by omega))) (m.p.kp hpl (hi2 _ _ (by omega) (by omega) (by omega) (by omega)) (fun k _ _ => hi2 _ _ (by omega) (by omega) (by omega) (by omega))) (fun i hi' => ?_) (m.s.kp w.2.2.2.2.1.1 (fun k _ _ => hi2 _ _ (by omega) (by omega) (by omega) (by omega)))
          by_cases e : i = j
          · subst e
            simp only [if_true]
            exact ⟨by rw [hJ2o, k3 _ _ (by omega), hJ0, q_u2s], m.2.1.cp cpy, m.s.cp w.2.2.2.2.1.1 cpy⟩
          · simp only [e, if_false]
            have := m.m i hi'
            cases hm : s_m s i with
            | none =>
              rw [hm] at this
              simp only at this ⊢
              rw [hi2 _ _ (by omega) (by omega) (by omega) (by omega)]; exact this
            | some q =>
              obtain ⟨m', ss⟩ := q
              rw [hm] at this
              simp only at this ⊢
              obtain ⟨q1, q2, q3⟩ := this
              exact ⟨by rw [hi2 _ _ (by omega) (by omega) (by omega) (by omega)]; exact q1, q2.kp (fun k _ _ => hi2 _ _ (by omega) (by omega) (by omega) (by omega)), q3.kp (w.2.2.2.1 i m' ss hi' hm).2.1 (fun k _ _ => hi2 _ _ (by omega) (by omega) (by omega) (by omega))⟩
    · -- back
      have cj := c.m j hj
      have mj := m.m j hj
      have z1 : ¬ (1 : Int32) = 0 := by decide
      cases hm : s_m s j with
      | none =>
        rw [hm] at cj mj
        simp only at cj mj
        have mj' : lh_u2 I (65 + 4) 0 0 (79 + 4) j = 0 := by rw [q_u2o (by omega)]; exact mj
        refine ⟨(0, I), (0, lh_u2 I (65 + 4) 0 0), ?_, ?_, rfl, hi.en k0⟩
        · rw [f_LH_mark, e0, h1, if_pos rfl]
          simp (disch := omega) only [z_ix, z_gd, z_cl, z1, cj, if_false, if_true, show lh_z (0 : Int32) = true from rfl]
        · simp (disch := omega) only [f_LM_mark, m_in03, h1, z_ix, z_cl, mj', z_bs, z_gd, z_b1, z_b0, z_10, z_01, eq_self, reduceCtorEq, ↓reduceIte, if_true, if_false, Nat.not_lt_zero, not_true_eq_false, not_false_eq_true, Bool.false_eq_true, Nat.le_refl, Nat.lt_irrefl]
      | some q =>
        obtain ⟨mm, ss⟩ := q
        rw [hm] at cj mj
        simp only at cj mj
        obtain ⟨c1, c2, c3, c4⟩ := cj
        obtain ⟨q1, q2, q3⟩ := mj
        have hss := (w.2.2.2.1 j mm ss hj hm).2.1
        obtain ⟨I1, g1, g2, g3⟩ := e_become (I := I) (o := 7) (by omega) c2
        have r1 : I1 (57 + 2 * j + 4) 1 = 1 := by rw [g3 _ _ (by omega)]; exact c1
        have r2 : I1 (57 + 2 * j + 4) 2 = nI ss.length := by rw [g3 _ _ (by omega)]; exact c3
        have r3 : I1 (57 + 2 * j + 4) 3 = nI (q_dl (s_h s) ss) := by rw [g3 _ _ (by omega)]; exact c4
        obtain ⟨I2, hI2⟩ : ∃ I2, I2 = lh_u2 (lh_u2 (lh_u2 I1 (0 + 4) 12 (nI ss.length)) (0 + 4) 13 (nI (q_dl (s_h s) ss))) (0 + 4) 11 0 := ⟨_, rfl⟩
        have hI2o : ∀ o k, ¬ (o = 4 ∧ (k = 11 ∨ k = 12 ∨ k = 13)) → o ≠ 11 → I2 o k = I o k := fun o k h1 h2 => by rw [hI2, q_u2o (by omega), q_u2o (by omega), q_u2o (by omega), g3 _ _ (by omega)]
        obtain ⟨J0, hJ0⟩ : ∃ J0, J0 = lh_u2 (lh_u2 I2 (65 + 4) 0 0) (79 + 4) j 1 := ⟨_, rfl⟩
        have hJ0o : ∀ o k, ¬ (o = 69 ∧ k = 0) → J0 o k = I2 o k := fun o k h1 => by
          rw [hJ0]
          by_cases e : o = 79 + 4 ∧ k = j
          · obtain ⟨rfl, rfl⟩ := e; rw [q_u2s, hI2o _ _ (by omega) (by omega)]; exact q1.symm
          · rw [q_u2o e, q_u2o (by omega)]
        have mj' : lh_u2 I2 (65 + 4) 0 0 (79 + 4) j = 1 := by rw [q_u2o (by omega), hI2o _ _ (by omega) (by omega)]; exact q1
        obtain ⟨J1, k1, k2, k3⟩ := m_copies (J := J0) (x := 32 * (1 + j)) (y := 0) (n := 32) (by omega) (by omega) (by omega)
        have k1' : f_LM_copies (nI (32 * (1 + j))) 0 32 J0 = some J1 := k1
        obtain ⟨J2, hJ2⟩ : ∃ J2, J2 = lh_u2 J1 (65 + 4) 21 0 := ⟨_, rfl⟩
        have hJ2o : ∀ o k, ¬ (o = 69 ∧ k = 21) → J2 o k = J1 o k := fun o k h => by rw [hJ2, q_u2o (by omega)]
        refine ⟨(1, I2), (1, J2), ?_, ?_, rfl, ?_⟩
        · rw [f_LH_mark, e0, h1, if_pos rfl]
          simp (disch := omega) only [z_ix, z_gd, z_cl, z1, c1, g1, z_bs, r1, r2, r3, q_u2o, if_false, ← hI2, show lh_z (1 : Int32) = true from rfl]
        · simp (disch := omega) only [f_LM_mark, m_in03, h1, z_ix, z_cl, mj', ← hJ0, z_addR, z_mulR, k1', ← hJ2, z_bs, z_gd, z_b1, z_b0, z_10, z_01, eq_self, reduceCtorEq, ↓reduceIte, if_true, if_false, Nat.not_lt_zero, not_true_eq_false, not_false_eq_true, Bool.false_eq_true, Nat.le_refl, Nat.lt_irrefl]
        · show lh_inv t a b a2 b2 J2 L
          have lo : ∀ o k, o < 69 → J2 o k = I2 o k := fun o k h => by rw [hJ2o _ _ (by omega), k3 _ _ (by omega), hJ0o _ _ (by omega)]
          have lo2 : ∀ o k, o < 69 → ¬ (o = 4 ∧ (k = 11 ∨ k = 12 ∨ k = 13)) → o ≠ 11 → J2 o k = I o k := fun o k h h1 h2 => by rw [lo _ _ h, hI2o _ _ h1 h2]
          have hi2 : ∀ o k, 69 ≤ o → ¬ (o = 69 ∧ (k = 0 ∨ k = 21)) → ¬ (o = 82 ∧ k < 32) → J2 o k = I o k := fun o k h h1 h2 => by rw [hJ2o _ _ (by omega), k3 _ _ (by omega), hJ0o _ _ (by omega), hI2o _ _ (by omega) (by omega)]
          have cpy : ∀ k, k < 32 → J2 82 (0 + k) = I 82 (32 * (1 + j) + k) := fun k hk => by rw [hJ2o _ _ (by omega), k2 k hk, hJ0o _ _ (by omega), hI2o _ _ (by omega) (by omega)]
          obtain ⟨e, e1, e2, e3, e4⟩ := c.p
          refine ⟨ha', hb', ⟨(s_h s, mm, [], s_m s, ss, s_q s, s_t s), ?_, ?_, ?_⟩, hL⟩
          · obtain ⟨w1, w2, w3, w4, w5, w6, w7, w8⟩ := w.less
            exact ⟨w1, (w4 j mm ss hj hm).1, ⟨by show ([] : List lh_Mt).length ≤ 16; simp, fun m' hm' => by cases hm'⟩, w4, (w4 j mm ss hj hm).2, w6, w7, w8⟩
          · refine c.re (fun i k hi' hj3 => lo2 _ _ (by omega) (by omega) (by omega)) (g2.kp (fun k _ => by rw [lo _ _ (by omega), hI2, q_u2o (by omega), q_u2o (by omega), q_u2o (by omega)])) ⟨e, e1, by rw [lo2 _ _ (by omega) (by omega) (by omega)]; exact e2, by rw [lo _ _ (by omega), hI2, q_u2s]; rfl, fun k hk => absurd hk (by simp)⟩ (c.m.kp (fun o k h1 h2 => lo2 _ _ (by omega) (by omega) (by omega))) ⟨?_, ?_⟩ (fun k => ⟨lo2 _ _ (by omega) (by omega) (by omega), lo2 _ _ (by omega) (by omega) (by omega), lo2 _ _ (by omega) (by omega) (by omega)⟩) (fun k => ⟨lo2 _ _ (by omega) (by omega) (by omega), lo2 _ _ (by omega) (by omega) (by omega)⟩)
            · rw [lo _ _ (by omega), hI2, q_u2o (by omega), q_u2o (by omega), q_u2s]
            · rw [lo _ _ (by omega), hI2, q_u2o (by omega), q_u2s]
          · refine m.re w (fun o k h => hi2 _ _ (by omega) (by omega) (by omega)) (q2.cp cpy) ⟨by rw [hJ2, q_u2s]; rfl, fun k hk => absurd hk (by simp)⟩ (m.m.kp (fun j m' ss hj e => (w.2.2.2.1 j m' ss hj e).2.1) (fun k => hi2 _ _ (by omega) (by omega) (by omega)) (fun k h1 h2 => hi2 _ _ (by omega) (by omega) (by omega))) (q3.cp hss cpy)
/-! say -/
theorem q_gS {l : List lh_Sd} {n d : lh_Sd} {k : Nat} : (l ++ [n]).getD k d = if k < l.length then l.getD k d else if k = l.length then n else d := by
  rw [List.getD_eq_getElem?_getD, List.getD_eq_getElem?_getD]
  by_cases h1 : k < l.length
  · rw [if_pos h1, List.getElem?_append_left h1]
  · rw [if_neg h1, List.getElem?_append_right (by omega)]
    by_cases h2 : k = l.length
    · subst h2; simp
    · rw [if_neg h2, List.getElem?_eq_none (by simp; omega)]; rfl
theorem p_say : lh_P17 lh_inv := by
  intro t a b a2 b2 I L x1 x2 z hz hi
  obtain ⟨s, w, c, m, ha, fc, f0, fm⟩ := hi.opx
  obtain ⟨m0, k0⟩ := f0 I q_fr.rf
  have hC := w.1.C
  have c12 := c.s.1
  have c13 := c.s.2
  have r7 : lh_u2 I (65 + 4) 0 0 (78 + 4) 7 = nI (s_s s).length := m0.s.1
  have hsl := w.2.2.2.2.1.1
  cases h1 : q_is 8 x1 with
  | false => exact ⟨(0, I), (0, lh_u2 I (65 + 4) 0 0), by simp only [f_LH_say, e_isHour, h1, z_bs, z_gd, z_b1, z_b0, z_10, z_01, eq_self, reduceCtorEq, ↓reduceIte, if_true, if_false, Nat.not_lt_zero, not_true_eq_false, not_false_eq_true, Bool.false_eq_true, Nat.le_refl, Nat.lt_irrefl], by simp only [f_LM_say, m_in07, h1, z_bs, z_gd, z_b1, z_b0, z_10, z_01, eq_self, reduceCtorEq, ↓reduceIte, if_true, if_false, Nat.not_lt_zero, not_true_eq_false, not_false_eq_true, Bool.false_eq_true, Nat.le_refl, Nat.lt_irrefl], rfl, hi.en k0⟩
  | true =>
    cases h2 : q_is (q_C (s_h s)) x2 with
    | false => exact ⟨(0, I), (0, lh_u2 I (65 + 4) 0 0), by simp only [f_LH_say, e_isHour, e_hasCell c.1, h1, h2, z_bs, z_gd, z_b1, z_b0, z_10, z_01, eq_self, reduceCtorEq, ↓reduceIte, if_true, if_false, Nat.not_lt_zero, not_true_eq_false, not_false_eq_true, Bool.false_eq_true, Nat.le_refl, Nat.lt_irrefl], by simp only [f_LM_say, m_in07, m_isCell m0.1, h1, h2, z_bs, z_gd, z_b1, z_b0, z_10, z_01, eq_self, reduceCtorEq, ↓reduceIte, if_true, if_false, Nat.not_lt_zero, not_true_eq_false, not_false_eq_true, Bool.false_eq_true, Nat.le_refl, Nat.lt_irrefl], rfl, hi.en k0⟩
    | true =>
      obtain ⟨u, hu, rfl⟩ := q_is_ex (by omega) h1
      obtain ⟨x, hx, rfl⟩ := q_is_ex (by omega) h2
      by_cases h8 : (s_s s).length = 8
      · refine ⟨(0, I), (0, lh_u2 I (65 + 4) 0 0), ?_, ?_, rfl, hi.en k0⟩
        · simp (disch := omega) only [f_LH_say, e_isHour, e_hasCell c.1, h1, h2, c12, h8, z_le, z_lt, z_eq, z_leL, z_leR, z_ltL, z_ltR, z_eqR, z_eqL, z_m1, z_m1s, z_m1le, z_m1lt, z_m1lt0, z_m1le0, z_0lem1, z_m1lek, z_add, z_addL, z_addR, z_mulR, z_sub, z_subL, z_gd, z_ix, z_cl, z_or0, z_add0, z_bs, z_gd, z_b1, z_b0, z_10, z_01, eq_self, reduceCtorEq, ↓reduceIte, if_true, if_false, Nat.not_lt_zero, not_true_eq_false, not_false_eq_true, Bool.false_eq_true, Nat.le_refl, Nat.lt_irrefl]
        · simp (disch := omega) only [f_LM_say, m_in07, m_isCell m0.1, h1, h2, r7, h8, z_le, z_lt, z_eq, z_leL, z_leR, z_ltL, z_ltR, z_eqR, z_eqL, z_m1, z_m1s, z_m1le, z_m1lt, z_m1lt0, z_m1le0, z_0lem1, z_m1lek, z_add, z_addL, z_addR, z_mulR, z_sub, z_subL, z_gd, z_ix, z_cl, z_or0, z_add0, z_bs, z_gd, z_b1, z_b0, z_10, z_01, eq_self, reduceCtorEq, ↓reduceIte, if_true, if_false, Nat.not_lt_zero, not_true_eq_false, not_false_eq_true, Bool.false_eq_true, Nat.le_refl, Nat.lt_irrefl]
      · obtain ⟨zb, hzb⟩ : ∃ zb : Bool, z = q_b01 zb := by
          rcases hz with rfl | rfl
          · exact ⟨false, rfl⟩
          · exact ⟨true, rfl⟩
        have eD : q_dl (s_h s) (s_s s ++ [(u, x, zb)]) = q_mk (fun d => (s_s s).all (fun q => q_sb (s_h s) d q.1 q.2.1 == q.2.2) && (q_sb (s_h s) d u x == zb)) 4 := by
          unfold q_dl
          apply q_mk_cong
          intro d hd
          rw [List.all_append]; simp
        obtain ⟨I2, hI2⟩ : ∃ I2, I2 = lh_u2 (lh_u2 I (0 + 4) 12 (nI ((s_s s).length + 1))) (0 + 4) 13 (nI (q_dl (s_h s) (s_s s ++ [(u, x, zb)]))) := ⟨_, rfl⟩
        have hI2o : ∀ o k, ¬ (o = 4 ∧ (k = 12 ∨ k = 13)) → I2 o k = I o k := fun o k h => by rw [hI2, q_u2o (by omega), q_u2o (by omega)]
        have c' : q_cl a (lh_u2 I (0 + 4) 12 (nI ((s_s s).length + 1))) (s_h s) := c.1.keep (fun j k _ _ => q_u2o (by omega))
        have eI : f_LH_say a b (nI u) (nI x) z I = some (1, I2) := by
          have e9 : ∀ (A B : Option (Int32 × lh_II)), (if (s_s s).length < 8 then A else B) = A := fun A B => if_pos (by omega)
          simp (disch := omega) only [f_LH_say, e_isHour, e_hasCell c.1, h1, h2, c12, z_addL, z_ltR, e9, e_daysWith c' w.1 hu hx, q_u2o, c13, z_bs, z_gd, z_b1, z_b0, z_10, z_01, eq_self, reduceCtorEq, ↓reduceIte, if_true, if_false, Nat.not_lt_zero, not_true_eq_false, not_false_eq_true, Bool.false_eq_true, Nat.le_refl, Nat.lt_irrefl]
          rw [hI2, eD, hzb]
          cases zb with
          | false =>
            simp only [z_bs, z_gd, z_b1, z_b0, z_10, z_01, eq_self, reduceCtorEq, ↓reduceIte, if_true, if_false, Nat.not_lt_zero, not_true_eq_false, not_false_eq_true, Bool.false_eq_true, Nat.le_refl, Nat.lt_irrefl]
            congr 3
            unfold q_dl
            rw [q_andn (by omega)]
            congr 2
            funext d
            cases q_sb (s_h s) d u x <;> rfl
          | true =>
            simp only [z_bs, z_gd, z_b1, z_b0, z_10, z_01, eq_self, reduceCtorEq, ↓reduceIte, if_true, if_false, Nat.not_lt_zero, not_true_eq_false, not_false_eq_true, Bool.false_eq_true, Nat.le_refl, Nat.lt_irrefl]
            congr 3
            unfold q_dl
            rw [z_and, q_mk_and]
            congr 2
            funext d
            cases q_sb (s_h s) d u x <;> rfl
        obtain ⟨i1, i2, i3, i4, i5, i6⟩ := q_k3 (s_s s).length (by omega)
        have r7' : lh_u2 I2 (65 + 4) 0 0 (78 + 4) 7 = nI (s_s s).length := by rw [q_u2o (by omega), hI2o _ _ (by omega)]; exact m.s.1
        have r7'' : I2 (78 + 4) 7 = nI (s_s s).length := by rw [hI2o _ _ (by omega)]; exact m.s.1
        obtain ⟨J2, hJ2⟩ : ∃ J2, J2 = lh_u2 (lh_u2 (lh_u2 (lh_u2 (lh_u2 I2 (65 + 4) 0 0) (78 + 4) (8 + 3 * (s_s s).length) (nI u)) (78 + 4) (9 + 3 * (s_s s).length) (nI x)) (78 + 4) (10 + 3 * (s_s s).length) (q_b01 zb)) (78 + 4) 7 (nI ((s_s s).length + 1)) := ⟨_, rfl⟩
        have mI2 : q_md (lh_u2 I2 (65 + 4) 0 0) (s_h s) := m.1.keep w.1 (fun k _ => by rw [q_u2o (by omega), hI2o _ _ (by omega)]) (fun k _ => by rw [q_u2o (by omega), hI2o _ _ (by omega)]) (fun k _ => by rw [q_u2o (by omega), hI2o _ _ (by omega)])
        have eJ : f_LM_say (nI u) (nI x) z I2 = some (1, J2) := by
          have e9 : (nI (s_s s).length = 8) = False := by simp (disch := omega) only [z_eqR, h8]
          rw [f_LM_say, m_in07, h1, q_bs, if_neg (by decide), m_isCell mI2, h2, q_bs, if_neg (by decide)]
          simp only [r7', e9, i1, i2, i3, i4, i5, i6, z_gd, if_false]
          rw [hzb]
          cases zb with
          | false =>
            simp (disch := omega) only [q_u2o, r7'', z_addL, z_bs, z_gd, z_b1, z_b0, z_10, z_01, eq_self, reduceCtorEq, ↓reduceIte, if_true, if_false, Nat.not_lt_zero, not_true_eq_false, not_false_eq_true, Bool.false_eq_true, Nat.le_refl, Nat.lt_irrefl]
            rw [hJ2]; rfl
          | true =>
            simp (disch := omega) only [q_u2o, r7'', z_addL, z_bs, z_gd, z_b1, z_b0, z_10, z_01, eq_self, reduceCtorEq, ↓reduceIte, if_true, if_false, Nat.not_lt_zero, not_true_eq_false, not_false_eq_true, Bool.false_eq_true, Nat.le_refl, Nat.lt_irrefl]
            rw [hJ2]; rfl
        refine ⟨(1, I2), (1, J2), eI, eJ, rfl, ?_⟩
        show lh_inv t a b a2 b2 J2 L
        obtain ⟨ha', hb', -, hL⟩ := hi
        have lo : ∀ o k, o < 69 → J2 o k = I2 o k := fun o k h => by rw [hJ2, q_u2o (by omega), q_u2o (by omega), q_u2o (by omega), q_u2o (by omega), q_u2o (by omega)]
        have lo2 : ∀ o k, o < 69 → ¬ (o = 4 ∧ (k = 12 ∨ k = 13)) → J2 o k = I o k := fun o k h h1 => by rw [lo _ _ h, hI2o _ _ h1]
        have hi2 : ∀ o k, 69 ≤ o → ¬ (o = 69 ∧ k = 0) → ¬ (o = 82 ∧ (k = 7 ∨ (8 + 3 * (s_s s).length ≤ k ∧ k ≤ 10 + 3 * (s_s s).length))) → J2 o k = I o k := fun o k h h1 h2 => by rw [hJ2, q_u2o (by omega), q_u2o (by omega), q_u2o (by omega), q_u2o (by omega), q_u2o (by omega), hI2o _ _ (by omega)]
        have hlen : (s_s s ++ [(u, x, zb)]).length = (s_s s).length + 1 := by simp
        refine ⟨ha', hb', ⟨(s_h s, s_n s, s_p s, s_m s, s_s s ++ [(u, x, zb)], s_q s, s_t s), ?_, ?_, ?_⟩, hL⟩
        · obtain ⟨w1, w2, w3, w4, w5, w6, w7, w8⟩ := w.less
          refine ⟨w1, w2, w3, w4, ⟨by show (s_s s ++ [(u, x, zb)]).length ≤ 8; rw [hlen]; omega, fun q hq => ?_⟩, w6, w7, w8⟩
          have hq' : q ∈ s_s s ++ [(u, x, zb)] := hq
          rw [List.mem_append] at hq'
          rcases hq' with hq' | hq'
          · exact w5.2 q hq'
          · simp at hq'; subst hq'; exact ⟨hu, hx⟩
        · exact c.re (fun i k hi' hj3 => lo2 _ _ (by omega) (by omega)) (c.2.1.kp (fun k _ => lo2 _ _ (by omega) (by omega))) (c.p.kp (fun k _ => lo2 _ _ (by omega) (by omega)) (fun o k h1 h2 => lo2 _ _ (by omega) (by omega))) (c.m.kp (fun o k h1 h2 => lo2 _ _ (by omega) (by omega))) ⟨by rw [lo _ _ (by omega), hI2, q_u2o (by omega), q_u2s, hlen], by rw [lo _ _ (by omega), hI2, q_u2s]⟩ (fun k => ⟨lo2 _ _ (by omega) (by omega), lo2 _ _ (by omega) (by omega), lo2 _ _ (by omega) (by omega)⟩) (fun k => ⟨lo2 _ _ (by omega) (by omega), lo2 _ _ (by omega) (by omega)⟩)
        · refine m.re w (fun o k h => hi2 _ _ (by omega) (by omega) (by omega)) (m.2.1.kp (fun k _ _ => hi2 _ _ (by omega) (by omega) (by omega))) (m.p.kp w.2.2.1.1 (hi2 _ _ (by omega) (by omega) (by omega)) (fun k _ _ => hi2 _ _ (by omega) (by omega) (by omega))) (m.m.kp (fun j m' ss hj e => (w.2.2.2.1 j m' ss hj e).2.1) (fun k => hi2 _ _ (by omega) (by omega) (by omega)) (fun k h1 h2 => hi2 _ _ (by omega) (by omega) (by omega))) ⟨?_, fun k hk => ?_⟩
          · rw [Nat.zero_add, hJ2, q_u2s, hlen]
          · rw [hlen] at hk
            rw [q_gS, Nat.zero_add, Nat.zero_add, Nat.zero_add]
            by_cases e : k < (s_s s).length
            · rw [if_pos e]
              obtain ⟨q1, q2, q3⟩ := m.s.2 k e
              rw [Nat.zero_add] at q1 q2 q3
              exact ⟨by rw [hi2 _ _ (by omega) (by omega) (by omega)]; exact q1, by rw [hi2 _ _ (by omega) (by omega) (by omega)]; exact q2, by rw [hi2 _ _ (by omega) (by omega) (by omega)]; exact q3⟩
            · rw [if_neg e, if_pos (by omega), show k = (s_s s).length by omega]
              refine ⟨?_, ?_, ?_⟩
              · rw [hJ2, q_u2o (by omega), q_u2o (by omega), q_u2o (by omega), q_u2s]
              · rw [hJ2, q_u2o (by omega), q_u2o (by omega), q_u2s]
              · rw [hJ2, q_u2o (by omega), q_u2s]
