/-! reach, shortest -/
section Q59
variable {a b : Nat} {I J : lh_II} {L : lh_LL} {h : lh_H}
def q_clb (h : lh_H) (m : lh_Mt) (c : Nat) : Bool := (q_P h).testBit c || (!decide (u_o m = 0) && q_sb h (q_sd h (u_d m) (u_o m) 1 (u_h m)) (u_h m) c)
theorem q_op_clb (m : lh_Mt) (c : Nat) : q_op h m c = (decide (c < q_C h) && !q_clb h m c) := by
  unfold q_op q_clb
  cases (q_P h).testBit c <;> cases decide (u_o m = 0) <;> simp
theorem q_P_mk (w : q_wf h) : q_P h = q_mk (fun c => (q_P h).testBit c) (q_C h) := q_tb_eq w.P (fun _ _ => rfl)
theorem e_closed (c : q_cl a I h) (w : q_wf h) {n : Nat} {m : lh_Mt} (hw : q_mw h n m) (ha : a = 11 ∨ a = 23) : ∃ I', f_Ha_closedCells a (nI (u_d m)) (nI (u_o m)) (nI (u_h m)) I = some (nI (q_mk (q_clb h m) (q_C h)), I') ∧ q_fc a I I' := by
  obtain ⟨w1, w2, w3, w4, w5, w6⟩ := hw
  by_cases h0 : u_o m = 0
  · refine ⟨I, ?_, fun _ _ _ _ => rfl⟩
    simp (disch := omega) only [f_Ha_closedCells, h0, c.P, z_le, z_lt, z_eq, z_leL, z_leR, z_ltL, z_ltR, z_eqR, z_eqL, z_m1, z_m1s, z_m1le, z_m1lt, z_m1lt0, z_m1le0, z_0lem1, z_m1lek, z_add, z_addL, z_addR, z_mulR, z_sub, z_subL, z_gd, z_ix, z_cl, z_or0, z_add0, z_bs, z_gd, z_b1, z_b0, z_10, z_01, eq_self, reduceCtorEq, ↓reduceIte, if_true, if_false, Nat.not_lt_zero, not_true_eq_false, not_false_eq_true, Bool.false_eq_true, Nat.le_refl, Nat.lt_irrefl]
    congr 3
    rw [q_P_mk w]
    apply q_mk_cong
    intro i _
    unfold q_clb
    simp [h0]
  · obtain ⟨I', g1, g2⟩ := e_dayShown c w (u_d m) (u_o m) 1 (u_h m)
    have g1' : f_La_dayShown a (nI (u_d m)) (nI (u_o m)) 1 (nI (u_h m)) I = _ := g1
    have cI : q_cl a I' h := c.keep (fun j k' hj hj3 => g2 _ _ (by omega))
    have h3 := q_sd_lt h (u_d m) (u_o m) 1 (u_h m)
    refine ⟨I', ?_, fun o k h1 _ => g2 o k h1⟩
    simp (disch := omega) only [f_Ha_closedCells, show ¬ u_o m ≤ 0 by omega, c.P, g1', e_cellsWith cI w h3 w2, z_or, z_le, z_lt, z_eq, z_leL, z_leR, z_ltL, z_ltR, z_eqR, z_eqL, z_m1, z_m1s, z_m1le, z_m1lt, z_m1lt0, z_m1le0, z_0lem1, z_m1lek, z_add, z_addL, z_addR, z_mulR, z_sub, z_subL, z_gd, z_ix, z_cl, z_or0, z_add0, z_bs, z_gd, z_b1, z_b0, z_10, z_01, eq_self, reduceCtorEq, ↓reduceIte, if_true, if_false, Nat.not_lt_zero, not_true_eq_false, not_false_eq_true, Bool.false_eq_true, Nat.le_refl, Nat.lt_irrefl]
    congr 3
    rw [q_P_mk w, q_mk_or2]
    apply q_mk_cong
    intro i _
    unfold q_clb
    simp [h0]
def q_S (R : lh_Rs) (c : Nat) : Bool := q_any (R c) 64
theorem q_S_r1 (m : lh_Mt) (R : lh_Rs) (c : Nat) : q_S (q_r1 h m R) c = (q_S R c || (q_op h m c && ((decide (0 < c) && q_S R (c - 1)) || (decide (c + 1 < 12) && q_S R (c + 1))))) := by
  rw [Bool.eq_iff_iff]
  unfold q_S q_r1
  simp only [q_any_iff, Bool.or_eq_true, Bool.and_eq_true, decide_eq_true_eq]
  constructor
  · rintro ⟨k, hk, h1 | ⟨h1, h2 | h2⟩⟩
    · exact Or.inl ⟨k, hk, h1⟩
    · exact Or.inr ⟨h1, Or.inl ⟨h2.1, k, hk, h2.2⟩⟩
    · exact Or.inr ⟨h1, Or.inr ⟨h2.1, k, hk, h2.2⟩⟩
  · rintro (⟨k, hk, h1⟩ | ⟨h1, ⟨h2, k, hk, h3⟩ | ⟨h2, k, hk, h3⟩⟩)
    · exact ⟨k, hk, Or.inl h1⟩
    · exact ⟨k, hk, Or.inr ⟨h1, Or.inl ⟨h2, h3⟩⟩⟩
    · exact ⟨k, hk, Or.inr ⟨h1, Or.inr ⟨h2, h3⟩⟩⟩
theorem q_S_r2 (w : q_wf h) (m : lh_Mt) (R : lh_Rs) (c : Nat) : q_S (q_r2 h m R) c = q_S (q_r1 h m R) c := by
  have h64 := q_sm_64 w (q_cm (q_nm m) c) (q_P h)
  rw [Bool.eq_iff_iff]
  unfold q_S q_r2
  simp only [q_any_iff, Bool.and_eq_true, decide_eq_true_eq]
  constructor
  · rintro ⟨k, hk, i, hi, h1, h2⟩; exact ⟨i, hi, h1⟩
  · rintro ⟨i, hi, h1⟩; exact ⟨_, q_or64 hi h64, i, hi, h1, rfl⟩
theorem q_S_ok {R : lh_Rs} (hR : q_rok h R) {c : Nat} (hc : q_C h ≤ c) : q_S R c = false := by
  unfold q_S
  rw [← Bool.not_eq_true, q_any_iff]
  rintro ⟨k, _, h1⟩
  rw [hR c k hc] at h1
  cases h1
theorem q_sh1s : (((1 : Int32) &&& 31).toBitVec.smod 32).toNat = 1 := by decide
theorem e_stands (w : q_wf h) {R : lh_Rs} (hR : q_rok h R) (m : lh_Mt) : nI (q_mk (q_S R) 12) ||| (((nI (q_mk (q_S R) 12) <<< ((1 : Int32) &&& 31)) ||| (nI (q_mk (q_S R) 12) >>> ((1 : Int32) &&& 31))) &&& (nI (q_mk (fun _ => true) (q_C h)) &&& (nI (q_mk (q_clb h m) (q_C h)) ^^^ (-1)))) = nI (q_mk (q_S (q_r2 h m R)) 12) := by
  have hC := w.C
  have h12 := q_mk31 (q_S R) (Nat.le_refl 12)
  rw [pk_shlN _ 1 q_sh1s (by omega), pk_shrN (by omega) _ 1 q_sh1s, q_andn (by omega), z_or, z_and, z_or]
  refine congrArg nI ?_
  apply Nat.eq_of_testBit_eq
  intro i
  have e2 : (q_mk (q_S R) 12 * 2 ^ 1).testBit i = (decide (1 ≤ i) && (decide (i - 1 < 12) && q_S R (i - 1))) := by
    rw [← Nat.shiftLeft_eq, Nat.testBit_shiftLeft, q_mk_tb]
  have e3 : (q_mk (q_S R) 12 / 2 ^ 1).testBit i = (decide (1 + i < 12) && q_S R (1 + i)) := by
    rw [← Nat.shiftRight_eq_div_pow, Nat.testBit_shiftRight, q_mk_tb]
  rw [Nat.testBit_or, Nat.testBit_and, Nat.testBit_or, q_mk_tb, q_mk_tb, q_mk_tb, e2, e3, q_S_r2 w, q_S_r1, q_op_clb]
  by_cases hi : i < q_C h
  · have e4 : decide (0 < i) = decide (1 ≤ i) := rfl
    have e5 : decide (i - 1 < 12) = true := by simp; omega
    have e6 : decide (i < 12) = true := by simp; omega
    rw [e4, e5, e6, Nat.add_comm 1 i]
    simp only [hi, decide_true, Bool.true_and]
    cases q_S R i <;> cases q_clb h m i <;> simp
  · simp only [hi, decide_false, Bool.false_and, Bool.and_false, Bool.or_false]
theorem q_fst_at {p : Nat → Bool} {N n : Nat} (hn : n < N) (h0 : ∀ j, j < n → p j = false) (h1 : p n = true) : q_fst p 0 N = some n := by
  rw [show N = n + (N - n) by omega, q_fst_split, q_fst_no (fun i _ hi => h0 i (by omega)), Nat.zero_add]
  obtain ⟨d, hd⟩ : ∃ d, N - n = d + 1 := ⟨N - n - 1, by omega⟩
  simp only [hd]
  show (if p n = true then some n else _) = some n
  rw [if_pos h1]
def q_R0 (c0 z0 : Nat) : lh_Rs := fun c k => decide (c = c0) && decide (k = z0)
def q_Gi (h : lh_H) (m : lh_Mt) (z0 j : Nat) : lh_Go := q_it (q_go h) 0 j (q_R0 (u_c m) z0, m)
theorem q_Gi_s (m : lh_Mt) (z0 j : Nat) : q_Gi h m z0 (j + 1) = (q_r2 h (q_Gi h m z0 j).2 (q_Gi h m z0 j).1, q_nm (q_Gi h m z0 j).2) := by
  unfold q_Gi
  rw [q_it_succ, Nat.zero_add]
  rfl
theorem q_R0_ok {c0 z0 : Nat} (hc : c0 < q_C h) : q_rok h (q_R0 c0 z0) := fun c k h1 => by
  unfold q_R0
  simp; omega
theorem q_Gi_ok {n : Nat} {m : lh_Mt} (hw : q_mw h n m) (z0 j : Nat) : q_rok h (q_Gi h m z0 j).1 ∧ q_mw h n (q_Gi h m z0 j).2 := q_go_ok (q_R0_ok hw.1) hw j
theorem q_Gi_d (m : lh_Mt) (z0 : Nat) : ∀ j, u_d (q_Gi h m z0 j).2 = u_d m
  | 0 => rfl
  | j + 1 => by rw [q_Gi_s]; exact q_Gi_d m z0 j
theorem q_Gi_S0 (m : lh_Mt) {z0 c : Nat} (hz : z0 < 64) : q_S (q_Gi h m z0 0).1 c = decide (c = u_c m) := by
  show q_any (q_R0 (u_c m) z0 c) 64 = _
  rw [Bool.eq_iff_iff, q_any_iff]
  unfold q_R0
  constructor
  · rintro ⟨k, _, h1⟩
    simp only [Bool.and_eq_true] at h1
    exact h1.1
  · intro h1; exact ⟨z0, hz, by simp only [h1, Bool.true_and, decide_true]⟩
theorem e_reach13 (c : q_cl a I h) (w : q_wf h) {n z0 x : Nat} {m : lh_Mt} (ha : a = 11 ∨ a = 23) (hm : q_mc I 7 m) (hw : q_mw h n m) (hx : x < q_C h) (hz : z0 < 64) : ∃ I', f_Wa_fewestToStand a 7 (nI x) I = some (q_e (q_fst (fun j => q_S (q_Gi h m z0 j).1 x) 0 41), I') ∧ q_fc a I I' := by
  have hC := w.C
  have key := q_forX (F := fun f k (K : lh_II) => f_Wa_fewestToStand_13 a 7 (nI x) f (nI (q_mk (q_S (q_Gi h m z0 k).1) 12)) (nI (u_h (q_Gi h m z0 k).2)) (nI (u_o (q_Gi h m z0 k).2)) (nI k) K) (N := 41) (P := fun k K => q_fc a I K ∧ ∀ j, j < k → q_S (q_Gi h m z0 j).1 x = false) (Q := fun r => q_fc a I r.2.2 ∧ ((r.1 = 0 ∧ ∃ j, q_fst (fun j => q_S (q_Gi h m z0 j).1 x) 0 41 = some j ∧ r.2.1 = nI j) ∨ (r.1 = 1 ∧ q_fst (fun j => q_S (q_Gi h m z0 j).1 x) 0 41 = none))) (fun f k K hk hK => by
    obtain ⟨p1, p2⟩ := hK
    obtain ⟨ok1, ok2⟩ := q_Gi_ok hw z0 k
    have h12 := q_mk31 (q_S (q_Gi h m z0 k).1) (Nat.le_refl 12)
    have cK : q_cl a K h := c.keep (fun j k' hj hj3 => p1 _ _ (by omega) (by omega))
    have hb : (q_mk (q_S (q_Gi h m z0 k).1) 12).testBit x = q_S (q_Gi h m z0 k).1 x := by rw [q_mk_tb]; simp; omega
    cases hs : q_S (q_Gi h m z0 k).1 x with
    | true =>
      refine Or.inr ⟨(0, nI k, K), ?_, p1, Or.inl ⟨rfl, k, q_fst_at hk p2 hs, rfl⟩⟩
      simp (disch := omega) only [f_Wa_fewestToStand_13, z_bit1, hb, hs, show ¬ 40 < k by omega, z_le, z_lt, z_eq, z_leL, z_leR, z_ltL, z_ltR, z_eqR, z_eqL, z_m1, z_m1s, z_m1le, z_m1lt, z_m1lt0, z_m1le0, z_0lem1, z_m1lek, z_add, z_addL, z_addR, z_mulR, z_sub, z_subL, z_gd, z_ix, z_cl, z_or0, z_add0, z_bs, z_gd, z_b1, z_b0, z_10, z_01, eq_self, reduceCtorEq, ↓reduceIte, if_true, if_false, Nat.not_lt_zero, not_true_eq_false, not_false_eq_true, Bool.false_eq_true, Nat.le_refl, Nat.lt_irrefl]
    | false =>
      have rd : K (7 + 4) 2 = nI (u_d (q_Gi h m z0 k).2) := by rw [p1 _ _ (by omega) (by omega), q_Gi_d]; exact hm.2.2.1
      obtain ⟨K', g1, g2⟩ := e_closed cK w ok2 ha
      have o4 := ok2.2.2.2.1
      have u8 := ok2.2.1
      refine Or.inl ⟨K', ⟨fun o k h1 h2 => by rw [g2 o k h1 h2, p1 o k h1 h2], fun j hj => ?_⟩, ?_⟩
      · by_cases e : j = k
        · subst e; exact hs
        · exact p2 j (by omega)
      · rw [q_Gi_s]
        rw [f_Wa_fewestToStand_13]
        simp (disch := omega) only [z_bit1, hb, hs, show ¬ 40 < k by omega, z_ltL, f_Ha_allCells, cK.C, rd, g1, q_all1, z_bs, z_gd, z_b1, z_b0, z_10, z_01, eq_self, reduceCtorEq, ↓reduceIte, if_true, if_false, Nat.not_lt_zero, not_true_eq_false, not_false_eq_true, Bool.false_eq_true, Nat.le_refl, Nat.lt_irrefl]
        have ehour : nI (u_h (q_Gi h m z0 k).2) + 1 - (nI (u_h (q_Gi h m z0 k).2) + 1) / 8 * 8 = nI ((u_h (q_Gi h m z0 k).2 + 1) % 8) := by
          rw [nI_1]; exact pk_rem (d := 8) (by omega) (by omega) (by omega)
        rw [e_stands w ok1, q_oil o4, ehour, nI_1]
        rfl) (fun f K hK => by
    refine ⟨(1, nI 41, K), ?_, hK.1, Or.inr ⟨rfl, q_fst_no (fun i _ hi => hK.2 i (by omega))⟩⟩
    simp (disch := omega) only [f_Wa_fewestToStand_13, show 40 < 41 by omega, z_ltL, if_true]) 41 lh_fuel 0 I rfl (by decide) ⟨fun _ _ _ _ => rfl, fun j hj => absurd hj (by omega)⟩
  obtain ⟨⟨e, v, I'⟩, k1, k2, k3⟩ := key
  simp only at k2 k3
  have e0 : q_mk (q_S (q_Gi h m z0 0).1) 12 = 2 ^ u_c m := by
    have hc := hw.1
    apply Nat.eq_of_testBit_eq
    intro i
    rw [q_mk_tb, q_Gi_S0 m hz, Nat.testBit_two_pow]
    by_cases e : i = u_c m
    · subst e; simp; omega
    · simp [e, Ne.symm e]
  have k1' : f_Wa_fewestToStand_13 a 7 (nI x) lh_fuel (nI (2 ^ u_c m)) (nI (u_h m)) (nI (u_o m)) 0 I = some (e, v, I') := by rw [← e0]; exact k1
  refine ⟨I', ?_, k2⟩
  have hc := hw.1
  rw [f_Wa_fewestToStand, hm.1, hm.2.1, hm.2.2.2.1, z_sh1 (by omega), k1', q_bs]
  rcases k3 with ⟨rfl, j, h1, rfl⟩ | ⟨rfl, h1⟩
  · rw [h1]; rfl
  · rw [h1]; rfl
theorem m_reach40 (m : q_md J h) (w : q_wf h) {n z0 x : Nat} {u : lh_Mt} (hm : q_mm J 672 u) (hw : q_mw h n u) (hx : x < q_C h) (hL : ∀ c k, c < 12 → k < 64 → bl (L (80 + 4) c) k = q_R0 (u_c u) z0 c k) : ∃ r, f_LM_reach_40 (nI x) lh_fuel 0 J L = some r ∧ q_ff J r.2.2.1 ∧ (∀ o i, ¬ (o = 84 ∧ i < 24) → r.2.2.2 o i = L o i) ∧ ((r.1 = 0 ∧ ∃ j, q_fst (fun j => q_S (q_Gi h u z0 j).1 x) 0 41 = some j ∧ r.2.1 = nI j) ∨ (r.1 = 1 ∧ q_fst (fun j => q_S (q_Gi h u z0 j).1 x) 0 41 = none)) := by
  have hC := w.C
  have key := q_forX (F := fun f k (K : lh_II × lh_LL) => f_LM_reach_40 (nI x) f (nI k) K.1 K.2) (N := 41) (P := fun k K => (∃ c2, q_mm K.1 672 (q_cm (q_Gi h u z0 k).2 c2)) ∧ q_ff J K.1 ∧ (∀ c i, c < 12 → i < 64 → bl (K.2 (80 + 4) c) i = (q_Gi h u z0 k).1 c i) ∧ (∀ o i, ¬ (o = 84 ∧ i < 24) → K.2 o i = L o i) ∧ ∀ j, j < k → q_S (q_Gi h u z0 j).1 x = false) (Q := fun r => q_ff J r.2.2.1 ∧ (∀ o i, ¬ (o = 84 ∧ i < 24) → r.2.2.2 o i = L o i) ∧ ((r.1 = 0 ∧ ∃ j, q_fst (fun j => q_S (q_Gi h u z0 j).1 x) 0 41 = some j ∧ r.2.1 = nI j) ∨ (r.1 = 1 ∧ q_fst (fun j => q_S (q_Gi h u z0 j).1 x) 0 41 = none))) (fun f k K hk hK => by
    obtain ⟨K, M⟩ := K
    obtain ⟨⟨c2, p1⟩, p2, p3, p4, p5⟩ := hK
    simp only at p1 p2 p3 p4
    obtain ⟨ok1, ok2⟩ := q_Gi_ok hw z0 k
    have ec : (lg_cmp (M (80 + 4) x) (0 : Int64) = 0) = (q_S (q_Gi h u z0 k).1 x = false) := by
      rw [show (lg_cmp (M (80 + 4) x) (0 : Int64) = 0) = (M (80 + 4) x = 0) from propext (lg_cmp_eq _ _), bl_zero]
      unfold q_S
      rw [← Bool.not_eq_true, q_any_iff]
      apply propext
      constructor
      · rintro h1 ⟨i, hi, h2⟩
        rw [← p3 x i (by omega) hi, h1 i hi] at h2
        cases h2
      · intro h1 i hi
        rw [p3 x i (by omega) hi]
        apply Classical.byContradiction
        intro h2
        exact h1 ⟨i, hi, by simpa using h2⟩
    cases hs : q_S (q_Gi h u z0 k).1 x with
    | true =>
      refine Or.inr ⟨(0, nI k, K, M), ?_, p2, p4, Or.inl ⟨rfl, k, q_fst_at hk p5 hs, rfl⟩⟩
      simp (disch := omega) only [f_LM_reach_40, ec, hs, show ¬ 40 < k by omega, z_le, z_lt, z_eq, z_leL, z_leR, z_ltL, z_ltR, z_eqR, z_eqL, z_m1, z_m1s, z_m1le, z_m1lt, z_m1lt0, z_m1le0, z_0lem1, z_m1lek, z_add, z_addL, z_addR, z_mulR, z_sub, z_subL, z_gd, z_ix, z_cl, z_or0, z_add0, z_bs, z_gd, z_b1, z_b0, z_10, z_01, eq_self, reduceCtorEq, ↓reduceIte, if_true, if_false, Nat.not_lt_zero, not_true_eq_false, not_false_eq_true, Bool.false_eq_true, Nat.le_refl, Nat.lt_irrefl]
    | false =>
      obtain ⟨K', M', g1, g2, g3, g4, g5⟩ := m_goesOn (L := M) (m.ff w p2) w ok2 p1 ok1 p3
      refine Or.inl ⟨(K', M'), ⟨by rw [q_Gi_s]; exact g2, p2.tr g3, fun c i hc hi => by rw [q_Gi_s]; exact g4 c i hc hi, fun o i h9 => by show M' o i = _; rw [g5 o i h9, p4 o i h9], fun j hj => ?_⟩, ?_⟩
      · by_cases e : j = k
        · subst e; exact hs
        · exact p5 j (by omega)
      · simp (disch := omega) only [f_LM_reach_40, ec, hs, g1, show ¬ 40 < k by omega, z_le, z_lt, z_eq, z_leL, z_leR, z_ltL, z_ltR, z_eqR, z_eqL, z_m1, z_m1s, z_m1le, z_m1lt, z_m1lt0, z_m1le0, z_0lem1, z_m1lek, z_add, z_addL, z_addR, z_mulR, z_sub, z_subL, z_gd, z_ix, z_cl, z_or0, z_add0, z_bs, z_gd, z_b1, z_b0, z_10, z_01, eq_self, reduceCtorEq, ↓reduceIte, if_true, if_false, Nat.not_lt_zero, not_true_eq_false, not_false_eq_true, Bool.false_eq_true, Nat.le_refl, Nat.lt_irrefl]) (fun f K hK => by
    obtain ⟨K, M⟩ := K
    refine ⟨(1, nI 41, K, M), ?_, hK.2.1, hK.2.2.2.1, Or.inr ⟨rfl, q_fst_no (fun i _ hi => hK.2.2.2.2 i (by omega))⟩⟩
    simp (disch := omega) only [f_LM_reach_40, show 40 < 41 by omega, z_ltL, if_true]) 41 lh_fuel 0 (J, L) rfl (by decide) ⟨⟨u_c u, hm⟩, q_ff.rf, hL, fun _ _ _ => rfl, fun j hj => absurd hj (by omega)⟩
  obtain ⟨r, k1, k2⟩ := key
  exact ⟨r, k1, k2⟩
theorem m_zero20 (x1 : Int32) : ∃ L', f_LM_reach_20 x1 lh_fuel 0 L = some L' ∧ (∀ c, c < 12 → L' (80 + 4) c = 0) ∧ ∀ o i, ¬ (o = 84 ∧ i < 12) → L' o i = L o i := by
  have key := q_forI (F := fun f k (K : lh_LL) => f_LM_reach_20 x1 f (nI k) K) (N := 12) (P := fun k K => (∀ i, i < k → K (80 + 4) i = 0) ∧ ∀ o i, ¬ (o = 84 ∧ i < 12) → K o i = L o i) (Q := fun K => (∀ i, i < 12 → K (80 + 4) i = 0) ∧ ∀ o i, ¬ (o = 84 ∧ i < 12) → K o i = L o i) (fun f k K hk hK => by
    refine ⟨lh_v2 K (80 + 4) k 0, ⟨fun i hi => ?_, fun o i h9 => by rw [q_v2o (by omega)]; exact hK.2 o i h9⟩, ?_⟩
    · by_cases e : i = k
      · subst e; exact q_v2s
      · rw [q_v2o (by omega)]; exact hK.1 i (by omega)
    · simp (disch := omega) only [f_LM_reach_20, show ¬ 12 ≤ k by omega, z_le, z_lt, z_eq, z_leL, z_leR, z_ltL, z_ltR, z_eqR, z_eqL, z_m1, z_m1s, z_m1le, z_m1lt, z_m1lt0, z_m1le0, z_0lem1, z_m1lek, z_add, z_addL, z_addR, z_mulR, z_sub, z_subL, z_gd, z_ix, z_cl, z_or0, z_add0, z_bs, z_gd, z_b1, z_b0, z_10, z_01, eq_self, reduceCtorEq, ↓reduceIte, if_true, if_false, Nat.not_lt_zero, not_true_eq_false, not_false_eq_true, Bool.false_eq_true, Nat.le_refl, Nat.lt_irrefl]) (fun f K hK => by
    refine ⟨K, ?_, hK⟩
    simp (disch := omega) only [f_LM_reach_20, z_le, z_lt, z_eq, z_leL, z_leR, z_ltL, z_ltR, z_eqR, z_eqL, z_m1, z_m1s, z_m1le, z_m1lt, z_m1lt0, z_m1le0, z_0lem1, z_m1lek, z_add, z_addL, z_addR, z_mulR, z_sub, z_subL, z_gd, z_ix, z_cl, z_or0, z_add0, z_bs, z_gd, z_b1, z_b0, z_10, z_01, eq_self, reduceCtorEq, ↓reduceIte, if_true, if_false, Nat.not_lt_zero, not_true_eq_false, not_false_eq_true, Bool.false_eq_true, Nat.le_refl, Nat.lt_irrefl]) 12 lh_fuel 0 L rfl (by decide) ⟨fun i hi => absurd hi (by omega), fun _ _ _ => rfl⟩
  exact key
end Q59
theorem p_reach : lh_P34 lh_inv := by
  intro t a b a2 b2 I L x1 hi
  obtain ⟨s, w, c, m, ha, fc, f0, fm⟩ := hi.opx
  have hC := w.1.C
  obtain ⟨m0, k0⟩ := f0 I q_fr.rf
  cases h1 : q_is (q_C (s_h s)) x1 with
  | false => exact ⟨(-1, I), (-1, lh_u2 I (65 + 4) 0 0, L), by simp only [f_LH_reach, e_hasCell c.1, h1, z_bs, z_gd, z_b1, z_b0, z_10, z_01, eq_self, reduceCtorEq, ↓reduceIte, if_true, if_false, Nat.not_lt_zero, not_true_eq_false, not_false_eq_true, Bool.false_eq_true, Nat.le_refl, Nat.lt_irrefl], by simp only [f_LM_reach, m_isCell m0.1, h1, z_bs, z_gd, z_b1, z_b0, z_10, z_01, eq_self, reduceCtorEq, ↓reduceIte, if_true, if_false, Nat.not_lt_zero, not_true_eq_false, not_false_eq_true, Bool.false_eq_true, Nat.le_refl, Nat.lt_irrefl], rfl, hi.en k0⟩
  | true =>
    obtain ⟨x, hx, rfl⟩ := q_is_ex (by omega) h1
    cases h2 : (q_P (s_h s)).testBit x with
    | true => exact ⟨(-1, I), (-1, lh_u2 I (65 + 4) 0 0, L), by simp only [f_LH_reach, e_hasCell c.1, h1, e_hasPillar c.1 w.1 hx, h2, z_bs, z_gd, z_b1, z_b0, z_10, z_01, eq_self, reduceCtorEq, ↓reduceIte, if_true, if_false, Nat.not_lt_zero, not_true_eq_false, not_false_eq_true, Bool.false_eq_true, Nat.le_refl, Nat.lt_irrefl], by simp only [f_LM_reach, m_isCell m0.1, h1, m_isPillar m0.1 w.1 hx, h2, z_bs, z_gd, z_b1, z_b0, z_10, z_01, eq_self, reduceCtorEq, ↓reduceIte, if_true, if_false, Nat.not_lt_zero, not_true_eq_false, not_false_eq_true, Bool.false_eq_true, Nat.le_refl, Nat.lt_irrefl], rfl, hi.en k0⟩
    | false =>
      obtain ⟨I1, g1, g2⟩ := e_reach13 (z0 := 0) c.1 w.1 ha c.2.1 w.2.1 hx (by omega)
      have k1 := fc I1 (fun o k h1 h2 _ => g2 o k h1 h2)
      obtain ⟨m', k2⟩ := f0 I1 k1
      obtain ⟨J0, d1, d2, d3⟩ := m_copyM (J := lh_u2 I1 (65 + 4) 0 0) (x := 0) (y := 672) (by omega) (by omega) (by omega) m'.2.1
      have d1' : f_LM_copies 0 672 7 (lh_u2 I1 (65 + 4) 0 0) = some J0 := d1
      have hff : q_ff (lh_u2 I1 (65 + 4) 0 0) J0 := fun o k h1 h2 h3 => d3 _ _ (by omega)
      obtain ⟨L0, z1, z2, z3⟩ := m_zero20 (L := L) (nI x)
      have r5 : J0 (78 + 4) 5 = nI (u_c (s_n s)) := by rw [d3 _ _ (by omega)]; exact m'.2.1.2.2.2.2.2.1
      have hc := w.2.1.1
      obtain ⟨⟨e, v, J1, L1⟩, q1, q2, q3, q4⟩ := m_reach40 (L := lh_v2 L0 (80 + 4) (u_c (s_n s)) 1) (z0 := 0) (m'.1.ff w.1 hff) w.1 d2 w.2.1 hx (fun c k hc' hk => by
        unfold q_R0
        by_cases e : c = u_c (s_n s)
        · subst e; rw [q_v2s, bl_1 k hk]; simp
        · rw [q_v2o (by omega), z2 c hc', bl_0]; simp [e])
      simp only at q2 q3 q4
      have k3 : q_fr a b I J1 := fm _ _ k2 (fun o k h1 h2 h3 => by rw [q2 _ _ h1 h2 h3, hff _ _ h1 h2 h3])
      have hfin : lh_inv t a b a2 b2 J1 L1 := hi.keep k3 (fun w' hw' => ⟨by rw [q3 _ _ (by omega), q_v2o (by omega), z3 _ _ (by omega)], by rw [q3 _ _ (by omega), q_v2o (by omega), z3 _ _ (by omega)]⟩)
      refine ⟨(q_e (q_fst (fun j => q_S (q_Gi (s_h s) (s_n s) 0 j).1 x) 0 41), I1), (q_e (q_fst (fun j => q_S (q_Gi (s_h s) (s_n s) 0 j).1 x) 0 41), J1, L1), ?_, ?_, rfl, hfin⟩
      · simp only [f_LH_reach, e_hasCell c.1, h1, e_hasPillar c.1 w.1 hx, h2, g1, z_bs, z_gd, z_b1, z_b0, z_10, z_01, eq_self, reduceCtorEq, ↓reduceIte, if_true, if_false, Nat.not_lt_zero, not_true_eq_false, not_false_eq_true, Bool.false_eq_true, Nat.le_refl, Nat.lt_irrefl]
      · simp (disch := omega) only [f_LM_reach, m_isCell m'.1, h1, m_isPillar m'.1 w.1 hx, h2, d1', z1, r5, z_ix, z_cl, q1, z_bs, z_gd, z_b1, z_b0, z_10, z_01, eq_self, reduceCtorEq, ↓reduceIte, if_true, if_false, Nat.not_lt_zero, not_true_eq_false, not_false_eq_true, Bool.false_eq_true, Nat.le_refl, Nat.lt_irrefl]
        rcases q4 with ⟨rfl, j, h3, rfl⟩ | ⟨rfl, h3⟩
        · rw [h3]; rfl
        · rw [h3]; rfl
