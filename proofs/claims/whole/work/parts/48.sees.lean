/-! questions of what is lit and seen -/
theorem lh_inv.opx {t a b a2 b2 : Nat} {I : lh_II} {L : lh_LL} (hi : lh_inv (t + 1) a b a2 b2 I L) : ∃ s, s_wf (t + 1) s ∧ s_cl a b I s ∧ s_md I s ∧ (a = 11 ∨ a = 23) ∧ (∀ I' : lh_II, (∀ o k, o ≠ a + 7 → o ≠ a + 15 → o ≠ 12 → I' o k = I o k) → q_fr a b I I') ∧ (∀ I', q_fr a b I I' → s_md (lh_u2 I' (65 + 4) 0 0) s ∧ q_fr a b I (lh_u2 I' (65 + 4) 0 0)) ∧ (∀ K J : lh_II, q_fr a b I K → (∀ o k, o ≠ 80 → o ≠ 81 → ¬ (o = 82 ∧ 672 ≤ k) → J o k = K o k) → q_fr a b I J) := by
  obtain ⟨ha, hb, ⟨s, w, c, m⟩, -⟩ := hi
  have n0 := q_nk0 ha hb
  refine ⟨s, w, c, m, by omega, fun I' h o k hk => h o k ?_ ?_ ?_, fun I' hf => ⟨m.keep w (hf.u2 n0), hf.u2 n0⟩, fun K J hK hJ o k hk => ?_⟩
  · unfold q_kp at hk; omega
  · unfold q_kp at hk; omega
  · unfold q_kp at hk; omega
  · rw [hJ o k (by unfold q_kp at hk; omega) (by unfold q_kp at hk; omega) (by unfold q_kp at hk; omega)]
    exact hK o k hk
section Q48
variable {a b : Nat} {I J : lh_II} {h : lh_H}
def q_isw (x : Int32) : Bool := decide (¬ x < -1 ∧ ¬ 1 < x)
theorem e_isWay (x : Int32) : f_LH_isWay x = some (q_b01 (q_isw x)) := by
  rw [f_LH_isWay]
  unfold q_isw
  by_cases h1 : x < -1
  · rw [if_pos h1]; simp [h1]; rfl
  · rw [if_neg h1]
    by_cases h2 : (1 : Int32) < x
    · rw [if_pos h2]; simp [h2]; rfl
    · rw [if_neg h2]; simp [h1, h2]; rfl
theorem m_isWay (x : Int32) : f_LM_within x (-1 : Int32) (1 : Int32) = some (q_b01 (q_isw x)) := by
  rw [← e_isWay, f_LH_isWay, f_LM_within]
theorem q_isw_way {x : Int32} (e : q_isw x = true) : q_way x := by
  unfold q_isw at e
  rw [decide_eq_true_eq, fa_lt, fa_lt, z_tm1] at e
  have h1 : (1 : Int32).toInt = 1 := by decide
  have h0 : (0 : Int32).toInt = 0 := by decide
  unfold q_way
  rw [fa_eq, fa_eq, fa_eq, z_tm1, h0, h1]
  omega
def q_vt (h : lh_H) (m : lh_Mt) (k : Nat) : Bool := match q_va h k with
  | none => false
  | some x => (q_lm h m).testBit x && match q_tk h k (q_sd h (u_d m) (u_o m) (q_ds (u_c m) x) (u_h m)) with
    | none => true
    | some g => decide (u_h m < g)
theorem q_lm_lt (w : q_wf h) {n : Nat} {m : lh_Mt} (hw : q_mw h n m) : q_lm h m < 2147483648 := by
  unfold q_lm
  split
  · omega
  · have := q_lt_lt w (st := q_P h) hw.1; omega
theorem e_vasesSeen (c : q_cl a I h) (w : q_wf h) {o n : Nat} {m : lh_Mt} (ha : a = 11 ∨ a = 23) (ho : o = 7 ∨ o = 8) (hm : q_mc I o m) (hw : q_mw h n m) : ∃ I', f_Ha_vasesSeenBy a o I = some (nI (q_mk (q_vt h m) (q_K h)), I') ∧ q_fc a I I' := by
  have hK := w.K
  have hC := w.C
  have hl := q_lm_lt w hw
  have key := q_forI (F := fun n k (K : Nat × lh_II) => f_Ha_vasesSeenBy_8 a o (nI (q_lm h m)) n (nI K.1) (nI k) K.2) (N := q_K h) (P := fun k K => K.1 = q_mk (q_vt h m) k ∧ q_fc a I K.2) (Q := fun r => r.1 = nI (q_mk (q_vt h m) (q_K h)) ∧ q_fc a I r.2) (fun n k K hk hK0 => by
    obtain ⟨y, K⟩ := K
    obtain ⟨hy, hK0⟩ := hK0
    simp only at hy hK0
    subst hy
    have cK : q_cl a K h := c.keep (fun j k' hj hj3 => hK0 _ _ (by omega) (by omega))
    obtain ⟨m1, m2, m3, m4, m5, m6, m7⟩ := hm.keep (I' := K) (fun k => hK0 _ _ (by omega) (by omega))
    have hw' := hw
    obtain ⟨w1, w2, w3, w4, w5, w6⟩ := hw
    cases hx : q_va h k with
    | none =>
      refine ⟨(q_mk (q_vt h m) k, K), ⟨(q_mk_no (by unfold q_vt; rw [hx])).symm, hK0⟩, ?_⟩
      simp (disch := omega) only [f_Ha_vasesSeenBy_8, cK.K, cK.va hk, hx, z_eN, show ¬ q_K h ≤ k by omega, z_le, z_lt, z_eq, z_leL, z_leR, z_ltL, z_ltR, z_eqR, z_eqL, z_m1, z_m1s, z_m1le, z_m1lt, z_m1lt0, z_m1le0, z_0lem1, z_m1lek, z_add, z_addL, z_addR, z_mulR, z_sub, z_subL, z_gd, z_ix, z_cl, z_or0, z_add0, z_bs, z_gd, z_b1, z_b0, z_10, z_01, eq_self, reduceCtorEq, ↓reduceIte, if_true, if_false, Nat.not_lt_zero, not_true_eq_false, not_false_eq_true, Bool.false_eq_true, Nat.le_refl, Nat.lt_irrefl]
    | some x =>
      have hxC := w.va hk hx
      cases hb : (q_lm h m).testBit x with
      | false =>
        refine ⟨(q_mk (q_vt h m) k, K), ⟨(q_mk_no (by unfold q_vt; rw [hx]; simp only [hb, Bool.false_and])).symm, hK0⟩, ?_⟩
        simp (disch := omega) only [f_Ha_vasesSeenBy_8, cK.K, cK.va hk, hx, hb, z_eS, z_bit1, show ¬ q_K h ≤ k by omega, z_le, z_lt, z_eq, z_leL, z_leR, z_ltL, z_ltR, z_eqR, z_eqL, z_m1, z_m1s, z_m1le, z_m1lt, z_m1lt0, z_m1le0, z_0lem1, z_m1lek, z_add, z_addL, z_addR, z_mulR, z_sub, z_subL, z_gd, z_ix, z_cl, z_or0, z_add0, z_bs, z_gd, z_b1, z_b0, z_10, z_01, eq_self, reduceCtorEq, ↓reduceIte, if_true, if_false, Nat.not_lt_zero, not_true_eq_false, not_false_eq_true, Bool.false_eq_true, Nat.le_refl, Nat.lt_irrefl]
      | true =>
        obtain ⟨K', g1, g2⟩ := e_dayShown cK w (u_d m) (u_o m) (q_ds (u_c m) x) (u_h m)
        have hK' : q_fc a I K' := fun o k h1 h2 => by rw [g2 o k h1, hK0 o k h1 h2]
        have cK' : q_cl a K' h := c.keep (fun j k' hj hj3 => hK' _ _ (by omega) (by omega))
        have h3 := q_sd_lt h (u_d m) (u_o m) (q_ds (u_c m) x) (u_h m)
        have ev : q_vt h m k = match q_tk h k (q_sd h (u_d m) (u_o m) (q_ds (u_c m) x) (u_h m)) with | none => true | some g => decide (u_h m < g) := by unfold q_vt; rw [hx]; simp only [hb, Bool.true_and]
        have pre : ∀ (y : Nat) (Z : Option (Int32 × lh_II)), (lh_bd (f_Ha_hourTaken a (nI k) (nI (q_sd h (u_d m) (u_o m) (q_ds (u_c m) x) (u_h m))) K') fun r9 => if r9 = (-1) then f_Ha_vasesSeenBy_8 a o (nI (q_lm h m)) n (nI y ||| ((1 : Int32) <<< (nI k &&& 31))) (nI k + 1) K' else if r9 ≤ (K' (o + 4) 1) then f_Ha_vasesSeenBy_8 a o (nI (q_lm h m)) n (nI y ||| 0) (nI k + 1) K' else f_Ha_vasesSeenBy_8 a o (nI (q_lm h m)) n (nI y ||| ((1 : Int32) <<< (nI k &&& 31))) (nI k + 1) K') = Z → f_Ha_vasesSeenBy_8 a o (nI (q_lm h m)) (n + 1) (nI y) (nI k) K = Z := by
          intro y Z hZ
          rw [← hZ, f_Ha_vasesSeenBy_8]
          simp (disch := omega) only [cK.K, cK.va hk, hx, hb, z_eS, z_bit1, z_le, z_m1, z_ix, z_gd, z_cl, m1, m2, m3, m4, show ¬ q_K h ≤ k by omega, z_bs, z_gd, z_b1, z_b0, z_10, z_01, eq_self, reduceCtorEq, ↓reduceIte, if_true, if_false, Nat.not_lt_zero, not_true_eq_false, not_false_eq_true, Bool.false_eq_true, Nat.le_refl, Nat.lt_irrefl]
          rw [q_dist (u_c m) (by omega) x (by omega), g1, z_bs]
        cases ht : q_tk h k (q_sd h (u_d m) (u_o m) (q_ds (u_c m) x) (u_h m)) with
        | none =>
          rw [ht] at ev
          refine ⟨(q_mk (q_vt h m) (k + 1), K'), ⟨rfl, hK'⟩, pre _ _ ?_⟩
          simp (disch := omega) only [e_hourTaken cK' w hk h3, ht, z_eN, z_sh1, z_or, z_le, z_lt, z_eq, z_leL, z_leR, z_ltL, z_ltR, z_eqR, z_eqL, z_m1, z_m1s, z_m1le, z_m1lt, z_m1lt0, z_m1le0, z_0lem1, z_m1lek, z_add, z_addL, z_addR, z_mulR, z_sub, z_subL, z_gd, z_ix, z_cl, z_or0, z_add0, z_bs, z_gd, z_b1, z_b0, z_10, z_01, eq_self, reduceCtorEq, ↓reduceIte, if_true, if_false, Nat.not_lt_zero, not_true_eq_false, not_false_eq_true, Bool.false_eq_true, Nat.le_refl, Nat.lt_irrefl]
          rw [q_mk_or ev]
        | some g =>
          have hg := q_tk_lt ht
          rw [ht] at ev
          simp only at ev
          refine ⟨(q_mk (q_vt h m) (k + 1), K'), ⟨rfl, hK'⟩, pre _ _ ?_⟩
          simp (disch := omega) only [e_hourTaken cK' w hk h3, ht, z_eS, z_sh1, z_or, g2 (o + 4) 1 (by omega), m2, z_le, z_lt, z_eq, z_leL, z_leR, z_ltL, z_ltR, z_eqR, z_eqL, z_m1, z_m1s, z_m1le, z_m1lt, z_m1lt0, z_m1le0, z_0lem1, z_m1lek, z_add, z_addL, z_addR, z_mulR, z_sub, z_subL, z_gd, z_ix, z_cl, z_or0, z_add0, z_bs, z_gd, z_b1, z_b0, z_10, z_01, eq_self, reduceCtorEq, ↓reduceIte, if_true, if_false, Nat.not_lt_zero, not_true_eq_false, not_false_eq_true, Bool.false_eq_true, Nat.le_refl, Nat.lt_irrefl]
          by_cases h5 : g ≤ u_h m
          · have e6 : q_vt h m k = false := by rw [ev]; simp; omega
            rw [if_pos h5, q_mk_no e6]
          · have e6 : q_vt h m k = true := by rw [ev]; simp; omega
            rw [if_neg h5, q_mk_or e6]) (fun n K hK0 => by
    obtain ⟨y, K⟩ := K
    obtain ⟨hy, hK0⟩ := hK0
    simp only at hy hK0
    have cK : q_cl a K h := c.keep (fun j k' hj hj3 => hK0 _ _ (by omega) (by omega))
    refine ⟨(nI y, K), ?_, ⟨by rw [hy], hK0⟩⟩
    simp (disch := omega) only [f_Ha_vasesSeenBy_8, cK.K, z_le, z_lt, z_eq, z_leL, z_leR, z_ltL, z_ltR, z_eqR, z_eqL, z_m1, z_m1s, z_m1le, z_m1lt, z_m1lt0, z_m1le0, z_0lem1, z_m1lek, z_add, z_addL, z_addR, z_mulR, z_sub, z_subL, z_gd, z_ix, z_cl, z_or0, z_add0, z_bs, z_gd, z_b1, z_b0, z_10, z_01, eq_self, reduceCtorEq, ↓reduceIte, if_true, if_false, Nat.not_lt_zero, not_true_eq_false, not_false_eq_true, Bool.false_eq_true, Nat.le_refl, Nat.lt_irrefl]) (q_K h) lh_fuel 0 (0, I) (Nat.zero_add _) (by unfold lh_fuel; omega) ⟨rfl, fun _ _ _ _ => rfl⟩
  obtain ⟨⟨r, I'⟩, e, h1, h2⟩ := key
  simp only at h1 h2
  subst h1
  have e' : f_Ha_vasesSeenBy_8 a o (nI (q_lm h m)) lh_fuel 0 0 I = _ := e
  exact ⟨I', by rw [f_Ha_vasesSeenBy, e_litBy c w hm hw, q_bs, e', q_bs], h2⟩
theorem m_isThere (m : q_md J h) (w : q_wf h) {b0 n k : Nat} {u : lh_Mt} (hb : b0 ≤ 704) (hm : q_mm J b0 u) (hw : q_mw h n u) (hk : k < q_K h) : ∃ J', f_LM_isThere (nI b0) (nI k) J = some (q_b01 (q_vt h u k), J') ∧ q_fm J J' := by
  have hK := w.K
  have hC := w.C
  have hl := q_lm_lt w hw
  have hlo := m_lightOf m w hb hm hw
  obtain ⟨m1, m2, m3, m4, m5, m6, m7⟩ := hm
  obtain ⟨w1, w2, w3, w4, w5, w6⟩ := hw
  cases hx : q_va h k with
  | none =>
    refine ⟨J, ?_, fun _ _ _ _ => rfl⟩
    have ev : q_vt h u k = false := by unfold q_vt; rw [hx]
    simp (disch := omega) only [f_LM_isThere, m_vaseAt m w hk, hx, ev, z_eN, z_le, z_lt, z_eq, z_leL, z_leR, z_ltL, z_ltR, z_eqR, z_eqL, z_m1, z_m1s, z_m1le, z_m1lt, z_m1lt0, z_m1le0, z_0lem1, z_m1lek, z_add, z_addL, z_addR, z_mulR, z_sub, z_subL, z_gd, z_ix, z_cl, z_or0, z_add0, z_bs, z_gd, z_b1, z_b0, z_10, z_01, eq_self, reduceCtorEq, ↓reduceIte, if_true, if_false, Nat.not_lt_zero, not_true_eq_false, not_false_eq_true, Bool.false_eq_true, Nat.le_refl, Nat.lt_irrefl]
  | some x =>
    have hxC := w.va hk hx
    cases hb2 : (q_lm h u).testBit x with
    | false =>
      refine ⟨J, ?_, fun _ _ _ _ => rfl⟩
      have ev : q_vt h u k = false := by unfold q_vt; rw [hx]; simp only [hb2, Bool.false_and]
      simp (disch := omega) only [f_LM_isThere, m_vaseAt m w hk, hlo, hx, hb2, ev, z_eS, z_bit0, z_le, z_lt, z_eq, z_leL, z_leR, z_ltL, z_ltR, z_eqR, z_eqL, z_m1, z_m1s, z_m1le, z_m1lt, z_m1lt0, z_m1le0, z_0lem1, z_m1lek, z_add, z_addL, z_addR, z_mulR, z_sub, z_subL, z_gd, z_ix, z_cl, z_or0, z_add0, z_bs, z_gd, z_b1, z_b0, z_10, z_01, eq_self, reduceCtorEq, ↓reduceIte, if_true, if_false, Nat.not_lt_zero, not_true_eq_false, not_false_eq_true, Bool.false_eq_true, Nat.le_refl, Nat.lt_irrefl]
    | true =>
      obtain ⟨J', g1, g2⟩ := m_dayShown m w (x := u_c u) (y := x) hb m4 m5 m3 w3 (by omega) (by omega)
      have mJ : q_md J' h := m.keep w (fun k _ => g2 _ _ (by omega) (by omega)) (fun k _ => g2 _ _ (by omega) (by omega)) (fun k _ => g2 _ _ (by omega) (by omega))
      have h3 := q_sd_lt h (u_d u) (u_o u) (q_ds (u_c u) x) (u_h u)
      have ev : q_vt h u k = match q_tk h k (q_sd h (u_d u) (u_o u) (q_ds (u_c u) x) (u_h u)) with | none => true | some g => decide (u_h u < g) := by unfold q_vt; rw [hx]; simp only [hb2, Bool.true_and]
      refine ⟨J', ?_, g2⟩
      cases ht : q_tk h k (q_sd h (u_d u) (u_o u) (q_ds (u_c u) x) (u_h u)) with
      | none =>
        rw [ht] at ev
        simp (disch := omega) only [f_LM_isThere, m_vaseAt m w hk, hlo, hx, hb2, ev, z_eS, z_eN, z_bit0, m6, g1, m_takenOf mJ w hk h3, ht, z_le, z_lt, z_eq, z_leL, z_leR, z_ltL, z_ltR, z_eqR, z_eqL, z_m1, z_m1s, z_m1le, z_m1lt, z_m1lt0, z_m1le0, z_0lem1, z_m1lek, z_add, z_addL, z_addR, z_mulR, z_sub, z_subL, z_gd, z_ix, z_cl, z_or0, z_add0, z_bs, z_gd, z_b1, z_b0, z_10, z_01, eq_self, reduceCtorEq, ↓reduceIte, if_true, if_false, Nat.not_lt_zero, not_true_eq_false, not_false_eq_true, Bool.false_eq_true, Nat.le_refl, Nat.lt_irrefl]
      | some g =>
        have hg := q_tk_lt ht
        rw [ht] at ev
        simp only at ev
        rw [ev]
        simp (disch := omega) only [f_LM_isThere, m_vaseAt m w hk, hlo, hx, hb2, z_eS, z_bit0, m6, g1, m_takenOf mJ w hk h3, ht, g2 (78 + 4) _ (by omega) (by omega), m3, z_le, z_lt, z_eq, z_leL, z_leR, z_ltL, z_ltR, z_eqR, z_eqL, z_m1, z_m1s, z_m1le, z_m1lt, z_m1lt0, z_m1le0, z_0lem1, z_m1lek, z_add, z_addL, z_addR, z_mulR, z_sub, z_subL, z_gd, z_ix, z_cl, z_or0, z_add0, z_bs, z_gd, z_b1, z_b0, z_10, z_01, eq_self, reduceCtorEq, ↓reduceIte, if_true, if_false, Nat.not_lt_zero, not_true_eq_false, not_false_eq_true, Bool.false_eq_true, Nat.le_refl, Nat.lt_irrefl]
        by_cases h5 : g ≤ u_h u
        · rw [if_pos h5]; simp only [show ¬ u_h u < g by omega, decide_false, z_bs, z_gd, z_b1, z_b0, z_10, z_01, eq_self, reduceCtorEq, ↓reduceIte, if_true, if_false, Nat.not_lt_zero, not_true_eq_false, not_false_eq_true, Bool.false_eq_true, Nat.le_refl, Nat.lt_irrefl]
        · rw [if_neg h5]; simp only [show u_h u < g by omega, decide_true, z_bs, z_gd, z_b1, z_b0, z_10, z_01, eq_self, reduceCtorEq, ↓reduceIte, if_true, if_false, Nat.not_lt_zero, not_true_eq_false, not_false_eq_true, Bool.false_eq_true, Nat.le_refl, Nat.lt_irrefl]
theorem m_treasures7 (m : q_md J h) (w : q_wf h) {n : Nat} {u : lh_Mt} (hm : q_mm J 0 u) (hw : q_mw h n u) : ∃ J', f_LM_treasures_7 lh_fuel 0 0 J = some (nI (q_mk (q_vt h u) (q_K h)), J') ∧ q_fm J J' := by
  have hK := w.K
  have key := q_forI (F := fun n k (K : Nat × lh_II) => f_LM_treasures_7 n (nI K.1) (nI k) K.2) (N := q_K h) (P := fun k K => K.1 = q_mk (q_vt h u) k ∧ q_fm J K.2) (Q := fun r => r.1 = nI (q_mk (q_vt h u) (q_K h)) ∧ q_fm J r.2) (fun n k K hk hK0 => by
    obtain ⟨y, K⟩ := K
    obtain ⟨hy, hK0⟩ := hK0
    simp only at hy hK0
    subst hy
    have mK : q_md K h := m.keep w (fun k _ => hK0 _ _ (by omega) (by omega)) (fun k _ => hK0 _ _ (by omega) (by omega)) (fun k _ => hK0 _ _ (by omega) (by omega))
    obtain ⟨K', g1, g2⟩ := m_isThere mK w (b0 := 0) (by omega) (hm.keep (fun k _ => hK0 _ _ (by omega) (by omega))) hw hk
    have g1' : f_LM_isThere 0 (nI k) K = _ := g1
    refine ⟨(q_mk (q_vt h u) (k + 1), K'), ⟨rfl, fun o k h1 h2 => by show K' o k = J o k; rw [g2 o k h1 h2, hK0 o k h1 h2]⟩, ?_⟩
    simp (disch := omega) only [f_LM_treasures_7, m_vases mK, g1', z_sh1, z_or, show ¬ q_K h ≤ k by omega, z_le, z_lt, z_eq, z_leL, z_leR, z_ltL, z_ltR, z_eqR, z_eqL, z_m1, z_m1s, z_m1le, z_m1lt, z_m1lt0, z_m1le0, z_0lem1, z_m1lek, z_add, z_addL, z_addR, z_mulR, z_sub, z_subL, z_gd, z_ix, z_cl, z_or0, z_add0, z_bs, z_gd, z_b1, z_b0, z_10, z_01, eq_self, reduceCtorEq, ↓reduceIte, if_true, if_false, Nat.not_lt_zero, not_true_eq_false, not_false_eq_true, Bool.false_eq_true, Nat.le_refl, Nat.lt_irrefl]
    cases ev : q_vt h u k with
    | false => simp only [q_mk_no ev, z_bs, z_gd, z_b1, z_b0, z_10, z_01, eq_self, reduceCtorEq, ↓reduceIte, if_true, if_false, Nat.not_lt_zero, not_true_eq_false, not_false_eq_true, Bool.false_eq_true, Nat.le_refl, Nat.lt_irrefl]
    | true => simp only [q_mk_or ev, z_bs, z_gd, z_b1, z_b0, z_10, z_01, eq_self, reduceCtorEq, ↓reduceIte, if_true, if_false, Nat.not_lt_zero, not_true_eq_false, not_false_eq_true, Bool.false_eq_true, Nat.le_refl, Nat.lt_irrefl]) (fun n K hK0 => by
    obtain ⟨y, K⟩ := K
    obtain ⟨hy, hK0⟩ := hK0
    simp only at hy hK0
    have mK : q_md K h := m.keep w (fun k _ => hK0 _ _ (by omega) (by omega)) (fun k _ => hK0 _ _ (by omega) (by omega)) (fun k _ => hK0 _ _ (by omega) (by omega))
    refine ⟨(nI y, K), ?_, ⟨by rw [hy], hK0⟩⟩
    simp (disch := omega) only [f_LM_treasures_7, m_vases mK, z_le, z_lt, z_eq, z_leL, z_leR, z_ltL, z_ltR, z_eqR, z_eqL, z_m1, z_m1s, z_m1le, z_m1lt, z_m1lt0, z_m1le0, z_0lem1, z_m1lek, z_add, z_addL, z_addR, z_mulR, z_sub, z_subL, z_gd, z_ix, z_cl, z_or0, z_add0, z_bs, z_gd, z_b1, z_b0, z_10, z_01, eq_self, reduceCtorEq, ↓reduceIte, if_true, if_false, Nat.not_lt_zero, not_true_eq_false, not_false_eq_true, Bool.false_eq_true, Nat.le_refl, Nat.lt_irrefl]) (q_K h) lh_fuel 0 (0, J) (Nat.zero_add _) (by unfold lh_fuel; omega) ⟨rfl, fun _ _ _ _ => rfl⟩
  obtain ⟨⟨r, J'⟩, e, h1, h2⟩ := key
  simp only at h1 h2
  subst h1
  exact ⟨J', e, h2⟩
theorem q_bitb {x j : Nat} (hx : x < 2147483648) (hj : j < 31) : (nI x >>> (nI j &&& 31)) &&& 1 = q_b01 (x.testBit j) := by
  rw [q_bit hx hj]; cases x.testBit j <;> rfl
/-- lights of the fellow -/
theorem m_fellowLights (m : q_md J h) (w : q_wf h) {n : Nat} (hn : n < 2147483648) (hF : 0 < q_F h) : f_LM_fellowLights (nI n) J = some (nI (q_lt h (q_fe h (n % q_F h)) (q_P h))) := by
  have hF8 := w.F
  have hC := w.C
  have h2 : n % q_F h < q_F h := Nat.mod_lt _ hF
  obtain ⟨i1, i2⟩ := q_k79 (n % q_F h) (by omega)
  have hr := m_round m w h2
  rw [f_LM_fellowLights, m.F, q_gd (by simp (disch := omega) only [z_eqR, show ¬ q_F h = 0 by omega, decide_false, Bool.not_false]), pk_rem hn hF (by omega), q_gd i1, i2, m_cells m, q_bs, q_bs, show nI (q_C h) - 1 = nI (q_C h - 1) from pk_sub (b := 1) (by omega)]
  have e3 : ∀ x : Int32, x = nI (q_fe h (n % q_F h)) → (lh_bd (f_LM_litFrom x (-1) J) fun r => some r) = some (nI (q_lt h (q_fe h (n % q_F h)) (q_P h))) := fun x hx => by rw [hx, m_litFrom m w (w.fe h2), q_bs]
  split
  · next h4 => rw [if_pos h4] at hr; exact e3 _ hr
  · next h4 => rw [if_neg h4] at hr; exact e3 _ hr
theorem e_fellowF (c : q_cl a I h) (w : q_wf h) {n : Nat} (hn : n < 2147483648) (hF : 0 < q_F h) : f_Ha_fellowAt a (nI n) I = some (nI (q_fe h (n % q_F h))) := by
  rw [e_fellowAt c w hn, if_neg (by omega)]
theorem l_never (c : q_cl a I h) (m : q_md J h) (w : q_wf h) : ∃ r, f_LH_never_4 a b I lh_fuel 0 0 = some r ∧ f_LM_never_7 J lh_fuel 0 0 = some r := by
  have hF := w.F
  have hC := w.C
  refine q_for2e (F1 := fun n k (x : Int32) => f_LH_never_4 a b I n x (nI k)) (F2 := fun n k (x : Int32) => f_LM_never_7 J n x (nI k)) (N := q_F h) (fun n1 n2 k x hk => ?_) (fun n1 n2 x => ?_) (q_F h) lh_fuel lh_fuel 0 0 (Nat.zero_add _) (by unfold lh_fuel; omega) (by unfold lh_fuel; omega)
  · have h1 := w.fe (Nat.mod_lt k (show 0 < q_F h by omega))
    simp (disch := omega) only [f_LH_never_4, f_LM_never_7, c.F, m.F, e_fellowF c w, m_fellowLights m w, e_lightFrom c w h1, show ¬ q_F h ≤ k by omega, z_le, z_lt, z_eq, z_leL, z_leR, z_ltL, z_ltR, z_eqR, z_eqL, z_m1, z_m1s, z_m1le, z_m1lt, z_m1lt0, z_m1le0, z_0lem1, z_m1lek, z_add, z_addL, z_addR, z_mulR, z_sub, z_subL, z_gd, z_ix, z_cl, z_or0, z_add0, z_bs, z_gd, z_b1, z_b0, z_10, z_01, eq_self, reduceCtorEq, ↓reduceIte, if_true, if_false, Nat.not_lt_zero, not_true_eq_false, not_false_eq_true, Bool.false_eq_true, Nat.le_refl, Nat.lt_irrefl]
    exact ⟨_, rfl, rfl⟩
  · simp (disch := omega) only [f_LH_never_4, f_LM_never_7, c.F, m.F, z_le, z_lt, z_eq, z_leL, z_leR, z_ltL, z_ltR, z_eqR, z_eqL, z_m1, z_m1s, z_m1le, z_m1lt, z_m1lt0, z_m1le0, z_0lem1, z_m1lek, z_add, z_addL, z_addR, z_mulR, z_sub, z_subL, z_gd, z_ix, z_cl, z_or0, z_add0, z_bs, z_gd, z_b1, z_b0, z_10, z_01, eq_self, reduceCtorEq, ↓reduceIte, if_true, if_false, Nat.not_lt_zero, not_true_eq_false, not_false_eq_true, Bool.false_eq_true, Nat.le_refl, Nat.lt_irrefl]
    exact ⟨_, rfl, rfl⟩
theorem l_exposed (c : q_cl a I h) (m : q_md J h) (w : q_wf h) {v lit : Nat} (hv : v < q_N h) (hl : lit < 2147483648) : ∃ r, f_LH_exposed_18 a b (nI v) (nI lit) I lh_fuel 0 0 = some r ∧ f_LM_exposed_21 (nI v) (nI lit) J lh_fuel 0 0 = some r := by
  have hN := w.N
  have hC := w.C
  refine q_for2e (F1 := fun n k (x : Int32) => f_LH_exposed_18 a b (nI v) (nI lit) I n x (nI k)) (F2 := fun n k (x : Int32) => f_LM_exposed_21 (nI v) (nI lit) J n x (nI k)) (N := 8) (fun n1 n2 k x hk => ?_) (fun n1 n2 x => ?_) 8 lh_fuel lh_fuel 0 0 rfl (by decide) (by decide)
  · cases hp : q_pl h v k with
    | none =>
      simp (disch := omega) only [f_LH_exposed_18, f_LM_exposed_21, e_placeOfN c w, m_cellOf m w, hp, z_eN, show ¬ 8 ≤ k by omega, z_le, z_lt, z_eq, z_leL, z_leR, z_ltL, z_ltR, z_eqR, z_eqL, z_m1, z_m1s, z_m1le, z_m1lt, z_m1lt0, z_m1le0, z_0lem1, z_m1lek, z_add, z_addL, z_addR, z_mulR, z_sub, z_subL, z_gd, z_ix, z_cl, z_or0, z_add0, z_bs, z_gd, z_b1, z_b0, z_10, z_01, eq_self, reduceCtorEq, ↓reduceIte, if_true, if_false, Nat.not_lt_zero, not_true_eq_false, not_false_eq_true, Bool.false_eq_true, Nat.le_refl, Nat.lt_irrefl]
      exact ⟨_, rfl, rfl⟩
    | some p =>
      have := w.pl hv hk hp
      simp (disch := omega) only [f_LH_exposed_18, f_LM_exposed_21, e_placeOfN c w, m_cellOf m w, hp, z_eS, z_bit1, show ¬ 8 ≤ k by omega, z_le, z_lt, z_eq, z_leL, z_leR, z_ltL, z_ltR, z_eqR, z_eqL, z_m1, z_m1s, z_m1le, z_m1lt, z_m1lt0, z_m1le0, z_0lem1, z_m1lek, z_add, z_addL, z_addR, z_mulR, z_sub, z_subL, z_gd, z_ix, z_cl, z_or0, z_add0, z_bs, z_gd, z_b1, z_b0, z_10, z_01, eq_self, reduceCtorEq, ↓reduceIte, if_true, if_false, Nat.not_lt_zero, not_true_eq_false, not_false_eq_true, Bool.false_eq_true, Nat.le_refl, Nat.lt_irrefl]
      cases hb : lit.testBit p <;> simp only [z_bs, z_gd, z_b1, z_b0, z_10, z_01, eq_self, reduceCtorEq, ↓reduceIte, if_true, if_false, Nat.not_lt_zero, not_true_eq_false, not_false_eq_true, Bool.false_eq_true, Nat.le_refl, Nat.lt_irrefl] <;> exact ⟨_, rfl, rfl⟩
  · simp (disch := omega) only [f_LH_exposed_18, f_LM_exposed_21, z_le, z_lt, z_eq, z_leL, z_leR, z_ltL, z_ltR, z_eqR, z_eqL, z_m1, z_m1s, z_m1le, z_m1lt, z_m1lt0, z_m1le0, z_0lem1, z_m1lek, z_add, z_addL, z_addR, z_mulR, z_sub, z_subL, z_gd, z_ix, z_cl, z_or0, z_add0, z_bs, z_gd, z_b1, z_b0, z_10, z_01, eq_self, reduceCtorEq, ↓reduceIte, if_true, if_false, Nat.not_lt_zero, not_true_eq_false, not_false_eq_true, Bool.false_eq_true, Nat.le_refl, Nat.lt_irrefl]
    exact ⟨_, rfl, rfl⟩
end Q48
theorem p_light : lh_P6 lh_inv := by
  intro t a b a2 b2 I L hi
  obtain ⟨s, w, c, m, m', hf⟩ := hi.op
  have e2 : f_LM_lightOf 0 (lh_u2 I (65 + 4) 0 0) = _ := m_lightOf m'.1 w.1 (b0 := 0) (by omega) m'.2.1 w.2.1
  exact ⟨_, (_, lh_u2 I (65 + 4) 0 0), by rw [f_LH_light, e_litBy c.1 w.1 c.2.1 w.2.1, q_bs], by rw [f_LM_light, e2, q_bs], rfl, hi.en hf⟩
theorem p_sees : lh_P8 lh_inv := by
  intro t a b a2 b2 I L hi
  obtain ⟨s, w, c, m, ha, fc, f0, fm⟩ := hi.opx
  obtain ⟨I1, g1, g2⟩ := e_seenBy c.1 w.1 ha (Or.inl rfl) c.2.1 w.2.1
  have k1 := fc I1 (fun o k h1 h2 _ => g2 o k h1 h2)
  obtain ⟨m', k2⟩ := f0 I1 k1
  obtain ⟨J1, g3, g4⟩ := m_seenNow m'.1 w.1 (b0 := 0) (by omega) m'.2.1 w.2.1
  have g3' : f_LM_seenNow 0 (lh_u2 I1 (65 + 4) 0 0) = _ := g3
  exact ⟨(_, I1), (_, J1), by rw [f_LH_sees, g1, q_bs], by rw [f_LM_sees, g3', q_bs], rfl, hi.en (fm _ _ k2 (fun o k h1 h2 _ => g4 o k h1 h2))⟩
theorem p_treasures : lh_P9 lh_inv := by
  intro t a b a2 b2 I L hi
  obtain ⟨s, w, c, m, ha, fc, f0, fm⟩ := hi.opx
  obtain ⟨I1, g1, g2⟩ := e_vasesSeen c.1 w.1 ha (Or.inl rfl) c.2.1 w.2.1
  have k1 := fc I1 (fun o k h1 h2 _ => g2 o k h1 h2)
  obtain ⟨m', k2⟩ := f0 I1 k1
  obtain ⟨J1, g3, g4⟩ := m_treasures7 m'.1 w.1 m'.2.1 w.2.1
  exact ⟨(_, I1), (_, J1), by rw [f_LH_treasures, g1, q_bs], by rw [f_LM_treasures, g3, q_bs], rfl, hi.en (fm _ _ k2 (fun o k h1 h2 _ => g4 o k h1 h2))⟩
theorem p_shown : lh_P7 lh_inv := by
  intro t a b a2 b2 I L x1 hi
  obtain ⟨s, w, c, m, ha, fc, f0, fm⟩ := hi.opx
  have hC := w.1.C
  obtain ⟨m0, k0⟩ := f0 I q_fr.rf
  have hl := q_lm_lt w.1 w.2.1
  cases h1 : q_is (q_C (s_h s)) x1 with
  | false => exact ⟨(-1, I), (-1, lh_u2 I (65 + 4) 0 0), by simp only [f_LH_shown, e_hasCell c.1, h1, z_bs, z_gd, z_b1, z_b0, z_10, z_01, eq_self, reduceCtorEq, ↓reduceIte, if_true, if_false, Nat.not_lt_zero, not_true_eq_false, not_false_eq_true, Bool.false_eq_true, Nat.le_refl, Nat.lt_irrefl], by simp only [f_LM_shown, m_isCell m0.1, h1, z_bs, z_gd, z_b1, z_b0, z_10, z_01, eq_self, reduceCtorEq, ↓reduceIte, if_true, if_false, Nat.not_lt_zero, not_true_eq_false, not_false_eq_true, Bool.false_eq_true, Nat.le_refl, Nat.lt_irrefl], rfl, hi.en k0⟩
  | true =>
    obtain ⟨x, hx, rfl⟩ := q_is_ex (by omega) h1
    have e2 : f_LM_lightOf 0 (lh_u2 I (65 + 4) 0 0) = _ := m_lightOf m0.1 w.1 (b0 := 0) (by omega) m0.2.1 w.2.1
    cases hb : (q_lm (s_h s) (s_n s)).testBit x with
    | false =>
      exact ⟨(-1, I), (-1, lh_u2 I (65 + 4) 0 0), by simp (disch := omega) only [f_LH_shown, e_hasCell c.1, h1, e_litBy c.1 w.1 c.2.1 w.2.1, z_bit0, hb, z_bs, z_gd, z_b1, z_b0, z_10, z_01, eq_self, reduceCtorEq, ↓reduceIte, if_true, if_false, Nat.not_lt_zero, not_true_eq_false, not_false_eq_true, Bool.false_eq_true, Nat.le_refl, Nat.lt_irrefl], by simp (disch := omega) only [f_LM_shown, m_isCell m0.1, h1, e2, z_bit1, hb, z_bs, z_gd, z_b1, z_b0, z_10, z_01, eq_self, reduceCtorEq, ↓reduceIte, if_true, if_false, Nat.not_lt_zero, not_true_eq_false, not_false_eq_true, Bool.false_eq_true, Nat.le_refl, Nat.lt_irrefl], rfl, hi.en k0⟩
    | true =>
      obtain ⟨n1, n2, n3, n4, -, -, -⟩ := c.2.1
      have w1 := w.2.1.1
      obtain ⟨I1, g1, g2⟩ := e_dayShown c.1 w.1 (u_d (s_n s)) (u_o (s_n s)) (q_ds (u_c (s_n s)) x) (u_h (s_n s))
      have k1 := fc I1 (fun o k h1 h2 _ => g2 o k h1)
      obtain ⟨m1, k2⟩ := f0 I1 k1
      have e3 : f_LM_lightOf 0 (lh_u2 I1 (65 + 4) 0 0) = _ := m_lightOf m1.1 w.1 (b0 := 0) (by omega) m1.2.1 w.2.1
      obtain ⟨p1, p2, p3, p4, p5, p6, -⟩ := m1.2.1
      obtain ⟨J1, g3, g4⟩ := m_dayShown m1.1 w.1 (b0 := 0) (x := u_c (s_n s)) (y := x) (by omega) p4 p5 p3 w.2.1.2.2.1 (by omega) (by omega)
      have g3' : f_LM_dayShown 0 (nI (u_c (s_n s))) (nI x) (lh_u2 I1 (65 + 4) 0 0) = _ := g3
      have p6' : lh_u2 I1 (65 + 4) 0 0 (78 + 4) 5 = _ := p6
      refine ⟨(nI (q_sd (s_h s) (u_d (s_n s)) (u_o (s_n s)) (q_ds (u_c (s_n s)) x) (u_h (s_n s))), I1), (nI (q_sd (s_h s) (u_d (s_n s)) (u_o (s_n s)) (q_ds (u_c (s_n s)) x) (u_h (s_n s))), J1), ?_, ?_, rfl, hi.en (fm _ _ k2 (fun o k h1 h2 _ => g4 o k h1 h2))⟩
      · simp (disch := omega) only [f_LH_shown, e_hasCell c.1, h1, e_litBy c.1 w.1 c.2.1 w.2.1, z_bit0, hb, n1, n2, n3, n4, z_bs, z_gd, z_b1, z_b0, z_10, reduceCtorEq, ↓reduceIte, Bool.true_eq_false, if_false]
        rw [q_dist (u_c (s_n s)) (by omega) x (by omega), g1, z_bs]
      · simp (disch := omega) only [f_LM_shown, m_isCell m1.1, h1, e3, z_bit1, hb, p6', g3', z_bs, z_gd, z_b1, z_b0, z_10, z_01, eq_self, reduceCtorEq, ↓reduceIte, if_true, if_false, Nat.not_lt_zero, not_true_eq_false, not_false_eq_true, Bool.false_eq_true, Nat.le_refl, Nat.lt_irrefl]
theorem p_would : lh_P39 lh_inv := by
  intro t a b a2 b2 I L x1 hi
  obtain ⟨s, w, c, m, ha, fc, f0, fm⟩ := hi.opx
  cases h1 : q_isw x1 with
  | false =>
    obtain ⟨m0, k0⟩ := f0 I q_fr.rf
    exact ⟨(-1, I), (-1, lh_u2 I (65 + 4) 0 0), by simp only [f_LH_would, e_isWay, h1, z_bs, z_gd, z_b1, z_b0, z_10, z_01, eq_self, reduceCtorEq, ↓reduceIte, if_true, if_false, Nat.not_lt_zero, not_true_eq_false, not_false_eq_true, Bool.false_eq_true, Nat.le_refl, Nat.lt_irrefl], by simp only [f_LM_would, m_isWay, h1, z_bs, z_gd, z_b1, z_b0, z_10, z_01, eq_self, reduceCtorEq, ↓reduceIte, if_true, if_false, Nat.not_lt_zero, not_true_eq_false, not_false_eq_true, Bool.false_eq_true, Nat.le_refl, Nat.lt_irrefl], rfl, hi.en k0⟩
  | true =>
    have hx := q_isw_way h1
    obtain ⟨I1, g1, g2⟩ := e_bumpsOf c.1 w.1 ha (Or.inl rfl) c.2.1 w.2.1 hx
    have k1 := fc I1 (fun o k h1 h2 _ => g2 o k h1 h2)
    obtain ⟨m', k2⟩ := f0 I1 k1
    obtain ⟨J1, g3, g4⟩ := m_bumpsBy m'.1 w.1 (b0 := 0) (by omega) m'.2.1 w.2.1 hx
    have g3' : f_LM_bumpsBy 0 x1 (lh_u2 I1 (65 + 4) 0 0) = _ := g3
    exact ⟨(nI (q_bu (s_h s) (s_n s) x1), I1), (nI (q_bu (s_h s) (s_n s) x1), J1), by simp only [f_LH_would, e_isWay, h1, g1, z_bs, z_gd, z_b1, z_b0, z_10, z_01, eq_self, reduceCtorEq, ↓reduceIte, if_true, if_false, Nat.not_lt_zero, not_true_eq_false, not_false_eq_true, Bool.false_eq_true, Nat.le_refl, Nat.lt_irrefl], by simp only [f_LM_would, m_isWay, h1, g3', z_bs, z_gd, z_b1, z_b0, z_10, z_01, eq_self, reduceCtorEq, ↓reduceIte, if_true, if_false, Nat.not_lt_zero, not_true_eq_false, not_false_eq_true, Bool.false_eq_true, Nat.le_refl, Nat.lt_irrefl], rfl, hi.en (fm _ _ k2 (fun o k h1 h2 _ => g4 o k h1 h2))⟩
theorem p_never : lh_P21 lh_inv := by
  intro t a b a2 b2 I L hi
  obtain ⟨s, w, c, m, m', hf⟩ := hi.op
  obtain ⟨r, e1, e2⟩ := l_never (b := b) c.1 m'.1 w.1
  exact ⟨_, (_, lh_u2 I (65 + 4) 0 0), by rw [f_LH_never, e1, q_bs, f_Ha_allCells, q_bs, c.1.C], by rw [f_LM_never, e2, q_bs, m_cells m'.1, q_bs], rfl, hi.en hf⟩
theorem p_exposed : lh_P38 lh_inv := by
  intro t a b a2 b2 I L x1 hi
  obtain ⟨s, w, c, m, m', hf⟩ := hi.op
  have hN := w.1.N
  cases h1 : q_is (q_N (s_h s)) x1 with
  | false => exact ⟨-1, (-1, lh_u2 I (65 + 4) 0 0), by simp only [f_LH_exposed, e_hasVisitor c.1, h1, z_bs, z_gd, z_b1, z_b0, z_10, z_01, eq_self, reduceCtorEq, ↓reduceIte, if_true, if_false, Nat.not_lt_zero, not_true_eq_false, not_false_eq_true, Bool.false_eq_true, Nat.le_refl, Nat.lt_irrefl], by simp only [f_LM_exposed, m_isVisitor m'.1, h1, z_bs, z_gd, z_b1, z_b0, z_10, z_01, eq_self, reduceCtorEq, ↓reduceIte, if_true, if_false, Nat.not_lt_zero, not_true_eq_false, not_false_eq_true, Bool.false_eq_true, Nat.le_refl, Nat.lt_irrefl], rfl, hi.en hf⟩
  | true =>
    obtain ⟨v, hv, rfl⟩ := q_is_ex (by omega) h1
    have hl := q_lt_lt w.1 (st := q_P (s_h s)) w.2.1.1
    obtain ⟨r, e1, e2⟩ := l_exposed (b := b) c.1 m'.1 w.1 hv (show q_lt (s_h s) (u_c (s_n s)) (q_P (s_h s)) < 2147483648 by omega)
    have e3 : lh_u2 I (65 + 4) 0 0 (78 + 4) 5 = nI (u_c (s_n s)) := m'.2.1.2.2.2.2.2.1
    have e4 : I (7 + 4) 0 = nI (u_c (s_n s)) := c.2.1.1
    exact ⟨r, (r, lh_u2 I (65 + 4) 0 0), by simp only [f_LH_exposed, e_hasVisitor c.1, h1, e4, e_lightFrom c.1 w.1 w.2.1.1, e1, z_bs, z_gd, z_b1, z_b0, z_10, z_01, eq_self, reduceCtorEq, ↓reduceIte, if_true, if_false, Nat.not_lt_zero, not_true_eq_false, not_false_eq_true, Bool.false_eq_true, Nat.le_refl, Nat.lt_irrefl], by simp only [f_LM_exposed, m_isVisitor m'.1, h1, e3, m_litFrom m'.1 w.1 w.2.1.1, e2, z_bs, z_gd, z_b1, z_b0, z_10, z_01, eq_self, reduceCtorEq, ↓reduceIte, if_true, if_false, Nat.not_lt_zero, not_true_eq_false, not_false_eq_true, Bool.false_eq_true, Nat.le_refl, Nat.lt_irrefl], rfl, hi.en hf⟩
