/-! nights -/
def q_nx (g : Nat) : Nat := (g * 1103515245 + 12345) % 2147483648
def q_dr (g n : Nat) : Nat := g / 65536 % n
theorem q_nx_lt (g : Nat) : q_nx g < 2147483648 := Nat.mod_lt _ (by decide)
theorem q_nx64 {g : Nat} (hg : g < 2147483648) : ((lN g * 1103515245) + 12345) - ((lN g * 1103515245) + 12345) / 2147483648 * 2147483648 = lN (q_nx g) := by
  have e : lN g * 1103515245 + 12345 = lN (g * 1103515245 + 12345) := by
    rw [show (1103515245 : Int64) = lN 1103515245 from rfl, show (12345 : Int64) = lN 12345 from rfl, lN_mul, lN_add]
  rw [e]
  exact pk_lRem (b := 2147483648) (by omega) (by omega) (by omega)
theorem q_dr64 {g n : Nat} (hg : g < 2147483648) (h0 : 0 < n) (hn : n < 100) : ((lN g / 65536) - (lN g / 65536) / (nI n).toInt64 * (nI n).toInt64).toInt32 = nI (q_dr g n) := by
  have e : lN g / 65536 = lN (g / 65536) := pk_lDiv (b := 65536) (by omega) (by omega) (by omega)
  rw [e, nI_l (by omega), pk_lRem (by omega) h0 (by omega), lN_i]
  rfl
theorem q_nz : ∀ n, 0 < n → n < 100 → (!decide ((nI n).toInt64 = 0)) = true := by
  intro n h0 hn
  exact (by decide +kernel : ∀ n, n < 100 → 0 < n → (!decide ((nI n).toInt64 = 0)) = true) n hn h0
theorem e_next {g : Nat} (hg : g < 2147483648) : f_LH_nextDrawn (lN g) = some (lN (q_nx g)) := by rw [f_LH_nextDrawn, q_nx64 hg]
theorem e_below {g n : Nat} (hg : g < 2147483648) (h0 : 0 < n) (hn : n < 100) : f_LH_drawBelow (lN g) (nI n) = some (nI (q_dr g n)) := by
  rw [f_LH_drawBelow, if_neg (by rw [show (0 : Int32) = nI 0 from rfl, nI_leI (by omega) (by omega)]; omega), q_gd (q_nz n h0 hn), q_dr64 hg h0 hn]
theorem q_v2s {L : lh_LL} {o k : Nat} {x : Int64} : lh_v2 L o k x o k = x := by unfold lh_v2; rw [if_pos rfl, if_pos rfl]
theorem q_v2o {L : lh_LL} {o k : Nat} {x : Int64} {o' k' : Nat} (h : ¬ (o' = o ∧ k' = k)) : lh_v2 L o k x o' k' = L o' k' := by
  unfold lh_v2
  split
  · next h1 => rw [if_neg (fun h2 => h ⟨h1, h2⟩)]
  · rfl
theorem q_v2v {L : lh_LL} {o k : Nat} {x y : Int64} : lh_v2 (lh_v2 L o k x) o k y = lh_v2 L o k y := by
  funext o' k'
  by_cases e : o' = o ∧ k' = k
  · obtain ⟨rfl, rfl⟩ := e; rw [q_v2s, q_v2s]
  · rw [q_v2o e, q_v2o e, q_v2o e]
theorem m_draw {L : lh_LL} {g n : Nat} (hg : g < 2147483648) (h0 : 0 < n) (hn : n < 100) : f_LM_draw (nI n) (lh_v2 L (65 + 4) 24 (lN g)) = some (nI (q_dr (q_nx g) n), lh_v2 L (65 + 4) 24 (lN (q_nx g))) := by
  rw [f_LM_draw, q_gd (q_nz n h0 hn)]
  simp only [q_v2s, q_v2v, q_nx64 hg, q_dr64 (q_nx_lt g) h0 hn]
abbrev lh_Ng : Type := Nat × lh_Mt
def q_w8 (x : Nat) : Int32 := if x < 3 then 1 else if x < 6 then -1 else 0
theorem q_w8_way (x : Nat) : q_way (q_w8 x) := by
  unfold q_w8 q_way
  split
  · exact Or.inr (Or.inr rfl)
  · split
    · exact Or.inl rfl
    · exact Or.inr (Or.inl rfl)
def q_ng (h : lh_H) (_ : Nat) (x : lh_Ng) : lh_Ng :=
  if q_dr (q_nx x.1) 8 = 7 then (q_nx (q_nx x.1), q_wk h (if 2 ≤ u_o x.2 then q_trm x.2 (q_dr (q_nx (q_nx x.1)) 4) else x.2) 0)
  else (q_nx x.1, q_wk h x.2 (q_w8 (q_dr (q_nx x.1) 8)))
theorem q_ng_ok {h : lh_H} (w : q_wf h) {n g : Nat} {m : lh_Mt} (hg : g < 2147483648) (hm : q_mw h n m) : ∀ k, (q_it (q_ng h) 0 k (g, m)).1 < 2147483648 ∧ q_mw h (n + k) (q_it (q_ng h) 0 k (g, m)).2
  | 0 => ⟨hg, hm⟩
  | k + 1 => by
    obtain ⟨h1, h2⟩ := q_ng_ok w hg hm k
    rw [q_it_succ, Nat.zero_add]
    generalize q_it (q_ng h) 0 k (g, m) = x at *
    unfold q_ng
    split
    · refine ⟨q_nx_lt _, ?_⟩
      show q_mw h (n + (k + 1)) (q_wk h (if 2 ≤ u_o x.2 then q_trm x.2 (q_dr (q_nx (q_nx x.1)) 4) else x.2) 0)
      have : q_mw h (n + k) (if 2 ≤ u_o x.2 then q_trm x.2 (q_dr (q_nx (q_nx x.1)) 4) else x.2) := by
        split
        · exact q_trm_mw h2 (Nat.mod_lt _ (by decide))
        · exact h2
      exact q_wk_mw w this (Or.inr (Or.inl rfl))
    · exact ⟨q_nx_lt _, q_wk_mw w h2 (q_w8_way _)⟩
set_option maxHeartbeats 1000000 in
theorem e_drawNight {a b n : Nat} {I : lh_II} {h : lh_H} {g nn : Nat} {m : lh_Mt} (c : q_cl a I h) (w : q_wf h) (ha : a = 11 ∨ a = 23) (hg : g < 2147483648) (hm : q_mc I 8 m) (hw : q_mw h n m) (hn : nn ≤ 99) : ∃ I', f_LH_drawNight_5 a b (nI nn) lh_fuel (lN g) 0 I = some I' ∧ q_mc I' 8 (q_it (q_ng h) 0 nn (g, m)).2 ∧ ∀ o k, o ≠ a + 7 → o ≠ a + 15 → o ≠ 12 → I' o k = I o k := by
  have key := q_forI (F := fun f k (K : Nat × lh_II) => f_LH_drawNight_5 a b (nI nn) f (lN K.1) (nI k) K.2) (N := nn) (P := fun k K => K.1 = (q_it (q_ng h) 0 k (g, m)).1 ∧ q_mc K.2 8 (q_it (q_ng h) 0 k (g, m)).2 ∧ ∀ o k, o ≠ a + 7 → o ≠ a + 15 → o ≠ 12 → K.2 o k = I o k) (Q := fun K => q_mc K 8 (q_it (q_ng h) 0 nn (g, m)).2 ∧ ∀ o k, o ≠ a + 7 → o ≠ a + 15 → o ≠ 12 → K o k = I o k) (fun f k K hk hK => by
    obtain ⟨zg, K⟩ := K
    obtain ⟨p0, p1, p2⟩ := hK
    simp only at p0 p1 p2
    obtain ⟨ok1, ok2⟩ := q_ng_ok w hg hw k
    rw [q_it_succ, Nat.zero_add]
    generalize q_it (q_ng h) 0 k (g, m) = x at *
    obtain ⟨x0, x⟩ := x
    simp only at p0 p1 ok1 ok2
    subst p0
    have o4 := ok2.2.2.2.1
    have hd8 : q_dr (q_nx zg) 8 < 8 := Nat.mod_lt _ (by decide)
    have hd4 : q_dr (q_nx (q_nx zg)) 4 < 4 := Nat.mod_lt _ (by decide)
    have cK : ∀ K' : lh_II, (∀ o k, o ≠ a + 7 → o ≠ a + 15 → o ≠ 12 → K' o k = I o k) → q_cl a K' h := fun K' hK' => c.keep (fun j k' hj hj3 => hK' _ _ (by omega) (by omega) (by omega))
    have b8 : f_LH_drawBelow (lN (q_nx zg)) 8 = _ := e_below (n := 8) (q_nx_lt zg) (by omega) (by omega)
    have b4 : f_LH_drawBelow (lN (q_nx (q_nx zg))) 4 = _ := e_below (n := 4) (q_nx_lt _) (by omega) (by omega)
    have p3 : K (8 + 4) 3 = nI (u_o x) := p1.2.2.2.1
    unfold q_ng
    by_cases e7 : q_dr (q_nx zg) 8 = 7
    · simp only [e7, if_true]
      by_cases h5 : 2 ≤ u_o x
      · obtain ⟨K1, g1, g2, g3⟩ := e_trimTo (d := q_dr (q_nx (q_nx zg)) 4) p1 h5
        have hK1 : ∀ o k, o ≠ a + 7 → o ≠ a + 15 → o ≠ 12 → K1 o k = I o k := fun o k h1 h2 h3 => by rw [g3 _ _ (by omega)]; exact p2 _ _ h1 h2 h3
        obtain ⟨K2, g4, g5, g6⟩ := e_walk (cK K1 hK1) w ha (Or.inr rfl) g2 (q_trm_mw ok2 hd4) (x := 0) (Or.inr (Or.inl rfl))
        refine ⟨(q_nx (q_nx zg), K2), ⟨rfl, by simp only [h5, if_true]; exact g5, fun o k h1 h2 h3 => by show K2 o k = _; rw [g6 _ _ h1 h2 (by omega)]; exact hK1 _ _ h1 h2 h3⟩, ?_⟩
        simp (disch := omega) only [f_LH_drawNight_5, e_next ok1, e_next (q_nx_lt zg), b8, b4, e7, p3, g1, g4, show ¬ u_o x < 2 by omega, show ¬ nn ≤ k by omega, show 3 ≤ 7 by omega, show 6 ≤ 7 by omega, z_le, z_lt, z_eq, z_leL, z_leR, z_ltL, z_ltR, z_eqR, z_eqL, z_m1, z_m1s, z_m1le, z_m1lt, z_m1lt0, z_m1le0, z_0lem1, z_m1lek, z_add, z_addL, z_addR, z_mulR, z_sub, z_subL, z_gd, z_ix, z_cl, z_or0, z_add0, z_bs, z_gd, z_b1, z_b0, z_10, z_01, eq_self, reduceCtorEq, ↓reduceIte, if_true, if_false, Nat.not_lt_zero, not_true_eq_false, not_false_eq_true, Bool.false_eq_true, Nat.le_refl, Nat.lt_irrefl]
      · obtain ⟨K2, g4, g5, g6⟩ := e_walk (cK K p2) w ha (Or.inr rfl) p1 ok2 (x := 0) (Or.inr (Or.inl rfl))
        refine ⟨(q_nx (q_nx zg), K2), ⟨rfl, by simp only [h5, if_false]; exact g5, fun o k h1 h2 h3 => by show K2 o k = _; rw [g6 _ _ h1 h2 (by omega)]; exact p2 _ _ h1 h2 h3⟩, ?_⟩
        simp (disch := omega) only [f_LH_drawNight_5, e_next ok1, e_next (q_nx_lt zg), b8, e7, p3, g4, show u_o x < 2 by omega, show ¬ nn ≤ k by omega, show 3 ≤ 7 by omega, show 6 ≤ 7 by omega, z_le, z_lt, z_eq, z_leL, z_leR, z_ltL, z_ltR, z_eqR, z_eqL, z_m1, z_m1s, z_m1le, z_m1lt, z_m1lt0, z_m1le0, z_0lem1, z_m1lek, z_add, z_addL, z_addR, z_mulR, z_sub, z_subL, z_gd, z_ix, z_cl, z_or0, z_add0, z_bs, z_gd, z_b1, z_b0, z_10, z_01, eq_self, reduceCtorEq, ↓reduceIte, if_true, if_false, Nat.not_lt_zero, not_true_eq_false, not_false_eq_true, Bool.false_eq_true, Nat.le_refl, Nat.lt_irrefl]
    · simp only [e7, if_false]
      obtain ⟨K2, g4, g5, g6⟩ := e_walk (cK K p2) w ha (Or.inr rfl) p1 ok2 (q_w8_way (q_dr (q_nx zg) 8))
      refine ⟨(q_nx zg, K2), ⟨rfl, g5, fun o k h1 h2 h3 => by show K2 o k = _; rw [g6 _ _ h1 h2 (by omega)]; exact p2 _ _ h1 h2 h3⟩, ?_⟩
      unfold q_w8 at g4
      by_cases h3 : q_dr (q_nx zg) 8 < 3
      · rw [if_pos h3] at g4
        simp (disch := omega) only [f_LH_drawNight_5, e_next ok1, b8, e7, g4, show ¬ 3 ≤ q_dr (q_nx zg) 8 by omega, show ¬ nn ≤ k by omega, z_le, z_lt, z_eq, z_leL, z_leR, z_ltL, z_ltR, z_eqR, z_eqL, z_m1, z_m1s, z_m1le, z_m1lt, z_m1lt0, z_m1le0, z_0lem1, z_m1lek, z_add, z_addL, z_addR, z_mulR, z_sub, z_subL, z_gd, z_ix, z_cl, z_or0, z_add0, z_bs, z_gd, z_b1, z_b0, z_10, z_01, eq_self, reduceCtorEq, ↓reduceIte, if_true, if_false, Nat.not_lt_zero, not_true_eq_false, not_false_eq_true, Bool.false_eq_true, Nat.le_refl, Nat.lt_irrefl]
      · rw [if_neg h3] at g4
        by_cases h6 : q_dr (q_nx zg) 8 < 6
        · rw [if_pos h6] at g4
          simp (disch := omega) only [f_LH_drawNight_5, e_next ok1, b8, e7, g4, show 3 ≤ q_dr (q_nx zg) 8 by omega, show ¬ 6 ≤ q_dr (q_nx zg) 8 by omega, show ¬ nn ≤ k by omega, z_le, z_lt, z_eq, z_leL, z_leR, z_ltL, z_ltR, z_eqR, z_eqL, z_m1, z_m1s, z_m1le, z_m1lt, z_m1lt0, z_m1le0, z_0lem1, z_m1lek, z_add, z_addL, z_addR, z_mulR, z_sub, z_subL, z_gd, z_ix, z_cl, z_or0, z_add0, z_bs, z_gd, z_b1, z_b0, z_10, z_01, eq_self, reduceCtorEq, ↓reduceIte, if_true, if_false, Nat.not_lt_zero, not_true_eq_false, not_false_eq_true, Bool.false_eq_true, Nat.le_refl, Nat.lt_irrefl]
        · rw [if_neg h6] at g4
          simp (disch := omega) only [f_LH_drawNight_5, e_next ok1, b8, e7, g4, show 3 ≤ q_dr (q_nx zg) 8 by omega, show 6 ≤ q_dr (q_nx zg) 8 by omega, show ¬ nn ≤ k by omega, z_le, z_lt, z_eq, z_leL, z_leR, z_ltL, z_ltR, z_eqR, z_eqL, z_m1, z_m1s, z_m1le, z_m1lt, z_m1lt0, z_m1le0, z_0lem1, z_m1lek, z_add, z_addL, z_addR, z_mulR, z_sub, z_subL, z_gd, z_ix, z_cl, z_or0, z_add0, z_bs, z_gd, z_b1, z_b0, z_10, z_01, eq_self, reduceCtorEq, ↓reduceIte, if_true, if_false, Nat.not_lt_zero, not_true_eq_false, not_false_eq_true, Bool.false_eq_true, Nat.le_refl, Nat.lt_irrefl]) (fun f K hK => by
    obtain ⟨zg, K⟩ := K
    refine ⟨K, ?_, hK.2.1, hK.2.2⟩
    simp (disch := omega) only [f_LH_drawNight_5, z_le, z_lt, z_eq, z_leL, z_leR, z_ltL, z_ltR, z_eqR, z_eqL, z_m1, z_m1s, z_m1le, z_m1lt, z_m1lt0, z_m1le0, z_0lem1, z_m1lek, z_add, z_addL, z_addR, z_mulR, z_sub, z_subL, z_gd, z_ix, z_cl, z_or0, z_add0, z_bs, z_gd, z_b1, z_b0, z_10, z_01, eq_self, reduceCtorEq, ↓reduceIte, if_true, if_false, Nat.not_lt_zero, not_true_eq_false, not_false_eq_true, Bool.false_eq_true, Nat.le_refl, Nat.lt_irrefl]) nn lh_fuel 0 (g, I) (Nat.zero_add _) (by unfold lh_fuel; omega) ⟨rfl, hm, fun _ _ _ _ _ => rfl⟩
  obtain ⟨I', e, h1, h2⟩ := key
  exact ⟨I', e, h1, h2⟩
set_option maxHeartbeats 1000000 in
theorem m_nights31 {n : Nat} {J : lh_II} {L : lh_LL} {h : lh_H} {g nn : Nat} {m : lh_Mt} (mJ : q_md J h) (w : q_wf h) (x3 : Int32) (hg : g < 2147483648) (hm : q_mm J 704 m) (hw : q_mw h n m) (hn : nn ≤ 99) : ∃ J', f_LM_nights_31 (nI nn) x3 lh_fuel 0 J (lh_v2 L (65 + 4) 24 (lN g)) = some (J', lh_v2 L (65 + 4) 24 (lN (q_it (q_ng h) 0 nn (g, m)).1)) ∧ q_mm J' 704 (q_it (q_ng h) 0 nn (g, m)).2 ∧ ∀ o k, o ≠ 80 → o ≠ 81 → ¬ (o = 82 ∧ 704 ≤ k ∧ k < 711) → J' o k = J o k := by
  have key := q_forI (F := fun f k (K : Nat × lh_II) => f_LM_nights_31 (nI nn) x3 f (nI k) K.2 (lh_v2 L (65 + 4) 24 (lN K.1))) (N := nn) (P := fun k K => K.1 = (q_it (q_ng h) 0 k (g, m)).1 ∧ q_mm K.2 704 (q_it (q_ng h) 0 k (g, m)).2 ∧ ∀ o k, o ≠ 80 → o ≠ 81 → ¬ (o = 82 ∧ 704 ≤ k ∧ k < 711) → K.2 o k = J o k) (Q := fun r => r.2 = lh_v2 L (65 + 4) 24 (lN (q_it (q_ng h) 0 nn (g, m)).1) ∧ q_mm r.1 704 (q_it (q_ng h) 0 nn (g, m)).2 ∧ ∀ o k, o ≠ 80 → o ≠ 81 → ¬ (o = 82 ∧ 704 ≤ k ∧ k < 711) → r.1 o k = J o k) (fun f k K hk hK => by
    obtain ⟨zg, K⟩ := K
    obtain ⟨p0, p1, p2⟩ := hK
    simp only at p0 p1 p2
    obtain ⟨ok1, ok2⟩ := q_ng_ok w hg hw k
    rw [q_it_succ, Nat.zero_add]
    generalize q_it (q_ng h) 0 k (g, m) = x at *
    obtain ⟨x0, x⟩ := x
    simp only at p0 p1 ok1 ok2
    subst p0
    have o4 := ok2.2.2.2.1
    have hd8 : q_dr (q_nx zg) 8 < 8 := Nat.mod_lt _ (by decide)
    have hd4 : q_dr (q_nx (q_nx zg)) 4 < 4 := Nat.mod_lt _ (by decide)
    have mK : ∀ K' : lh_II, (∀ o k, o ≠ 80 → o ≠ 81 → ¬ (o = 82 ∧ 704 ≤ k ∧ k < 711) → K' o k = J o k) → q_md K' h := fun K' hK' => mJ.keep w (fun k _ => hK' _ _ (by omega) (by omega) (by omega)) (fun k _ => hK' _ _ (by omega) (by omega) (by omega)) (fun k _ => hK' _ _ (by omega) (by omega) (by omega))
    have b8 : f_LM_draw 8 (lh_v2 L (65 + 4) 24 (lN zg)) = _ := m_draw (n := 8) ok1 (by omega) (by omega)
    have b4 : f_LM_draw 4 (lh_v2 L (65 + 4) 24 (lN (q_nx zg))) = _ := m_draw (n := 4) (q_nx_lt zg) (by omega) (by omega)
    have p3 : K (78 + 4) 708 = nI (u_o x) := p1.2.2.2.2.1
    unfold q_ng
    by_cases e7 : q_dr (q_nx zg) 8 = 7
    · simp only [e7, if_true]
      by_cases h5 : 2 ≤ u_o x
      · obtain ⟨K1, g1, g2, g3⟩ := m_trims (b0 := 704) (d := q_dr (q_nx (q_nx zg)) 4) (by omega) p1 h5
        have g1' : f_LM_trims 704 (nI (q_dr (q_nx (q_nx zg)) 4)) K = _ := g1
        have hK1 : ∀ o k, o ≠ 80 → o ≠ 81 → ¬ (o = 82 ∧ 704 ≤ k ∧ k < 711) → K1 o k = J o k := fun o k h1 h2 h3 => by rw [g3 _ _ (by omega)]; exact p2 _ _ h1 h2 h3
        obtain ⟨K2, g4, g5, g6⟩ := m_steps (mK K1 hK1) w (b0 := 704) (by omega) g2 (q_trm_mw ok2 hd4) (x := 0) (Or.inr (Or.inl rfl))
        have g4' : f_LM_steps 704 0 K1 = _ := g4
        refine ⟨(q_nx (q_nx zg), K2), ⟨rfl, by simp only [h5, if_true]; exact g5, fun o k h1 h2 h3 => by show K2 o k = _; rw [g6 _ _ h1 h2 (by omega)]; exact hK1 _ _ h1 h2 h3⟩, ?_⟩
        simp (disch := omega) only [f_LM_nights_31, b8, b4, e7, p3, g1', g4', show ¬ u_o x ≤ 1 by omega, show ¬ nn ≤ k by omega, show 3 ≤ 7 by omega, show 6 ≤ 7 by omega, z_le, z_lt, z_eq, z_leL, z_leR, z_ltL, z_ltR, z_eqR, z_eqL, z_m1, z_m1s, z_m1le, z_m1lt, z_m1lt0, z_m1le0, z_0lem1, z_m1lek, z_add, z_addL, z_addR, z_mulR, z_sub, z_subL, z_gd, z_ix, z_cl, z_or0, z_add0, z_bs, z_gd, z_b1, z_b0, z_10, z_01, eq_self, reduceCtorEq, ↓reduceIte, if_true, if_false, Nat.not_lt_zero, not_true_eq_false, not_false_eq_true, Bool.false_eq_true, Nat.le_refl, Nat.lt_irrefl]
      · obtain ⟨K2, g4, g5, g6⟩ := m_steps (mK K p2) w (b0 := 704) (by omega) p1 ok2 (x := 0) (Or.inr (Or.inl rfl))
        have g4' : f_LM_steps 704 0 K = _ := g4
        refine ⟨(q_nx (q_nx zg), K2), ⟨rfl, by simp only [h5, if_false]; exact g5, fun o k h1 h2 h3 => by show K2 o k = _; rw [g6 _ _ h1 h2 (by omega)]; exact p2 _ _ h1 h2 h3⟩, ?_⟩
        simp (disch := omega) only [f_LM_nights_31, b8, b4, e7, p3, g4', show u_o x ≤ 1 by omega, show ¬ nn ≤ k by omega, show 3 ≤ 7 by omega, show 6 ≤ 7 by omega, z_le, z_lt, z_eq, z_leL, z_leR, z_ltL, z_ltR, z_eqR, z_eqL, z_m1, z_m1s, z_m1le, z_m1lt, z_m1lt0, z_m1le0, z_0lem1, z_m1lek, z_add, z_addL, z_addR, z_mulR, z_sub, z_subL, z_gd, z_ix, z_cl, z_or0, z_add0, z_bs, z_gd, z_b1, z_b0, z_10, z_01, eq_self, reduceCtorEq, ↓reduceIte, if_true, if_false, Nat.not_lt_zero, not_true_eq_false, not_false_eq_true, Bool.false_eq_true, Nat.le_refl, Nat.lt_irrefl]
    · simp only [e7, if_false]
      obtain ⟨K2, g4, g5, g6⟩ := m_steps (mK K p2) w (b0 := 704) (by omega) p1 ok2 (q_w8_way (q_dr (q_nx zg) 8))
      have g4' : f_LM_steps 704 (q_w8 (q_dr (q_nx zg) 8)) K = _ := g4
      refine ⟨(q_nx zg, K2), ⟨rfl, g5, fun o k h1 h2 h3 => by show K2 o k = _; rw [g6 _ _ h1 h2 (by omega)]; exact p2 _ _ h1 h2 h3⟩, ?_⟩
      unfold q_w8 at g4'
      by_cases h3 : q_dr (q_nx zg) 8 < 3
      · rw [if_pos h3] at g4'
        simp (disch := omega) only [f_LM_nights_31, b8, e7, g4', show ¬ 3 ≤ q_dr (q_nx zg) 8 by omega, show ¬ nn ≤ k by omega, z_le, z_lt, z_eq, z_leL, z_leR, z_ltL, z_ltR, z_eqR, z_eqL, z_m1, z_m1s, z_m1le, z_m1lt, z_m1lt0, z_m1le0, z_0lem1, z_m1lek, z_add, z_addL, z_addR, z_mulR, z_sub, z_subL, z_gd, z_ix, z_cl, z_or0, z_add0, z_bs, z_gd, z_b1, z_b0, z_10, z_01, eq_self, reduceCtorEq, ↓reduceIte, if_true, if_false, Nat.not_lt_zero, not_true_eq_false, not_false_eq_true, Bool.false_eq_true, Nat.le_refl, Nat.lt_irrefl]
      · rw [if_neg h3] at g4'
        by_cases h6 : q_dr (q_nx zg) 8 < 6
        · rw [if_pos h6] at g4'
          simp (disch := omega) only [f_LM_nights_31, b8, e7, g4', show 3 ≤ q_dr (q_nx zg) 8 by omega, show ¬ 6 ≤ q_dr (q_nx zg) 8 by omega, show ¬ nn ≤ k by omega, z_le, z_lt, z_eq, z_leL, z_leR, z_ltL, z_ltR, z_eqR, z_eqL, z_m1, z_m1s, z_m1le, z_m1lt, z_m1lt0, z_m1le0, z_0lem1, z_m1lek, z_add, z_addL, z_addR, z_mulR, z_sub, z_subL, z_gd, z_ix, z_cl, z_or0, z_add0, z_bs, z_gd, z_b1, z_b0, z_10, z_01, eq_self, reduceCtorEq, ↓reduceIte, if_true, if_false, Nat.not_lt_zero, not_true_eq_false, not_false_eq_true, Bool.false_eq_true, Nat.le_refl, Nat.lt_irrefl]
        · rw [if_neg h6] at g4'
          simp (disch := omega) only [f_LM_nights_31, b8, e7, g4', show 3 ≤ q_dr (q_nx zg) 8 by omega, show 6 ≤ q_dr (q_nx zg) 8 by omega, show ¬ nn ≤ k by omega, z_le, z_lt, z_eq, z_leL, z_leR, z_ltL, z_ltR, z_eqR, z_eqL, z_m1, z_m1s, z_m1le, z_m1lt, z_m1lt0, z_m1le0, z_0lem1, z_m1lek, z_add, z_addL, z_addR, z_mulR, z_sub, z_subL, z_gd, z_ix, z_cl, z_or0, z_add0, z_bs, z_gd, z_b1, z_b0, z_10, z_01, eq_self, reduceCtorEq, ↓reduceIte, if_true, if_false, Nat.not_lt_zero, not_true_eq_false, not_false_eq_true, Bool.false_eq_true, Nat.le_refl, Nat.lt_irrefl]) (fun f K hK => by
    obtain ⟨zg, K⟩ := K
    obtain ⟨p0, p1, p2⟩ := hK
    simp only at p0
    refine ⟨(K, lh_v2 L (65 + 4) 24 (lN zg)), ?_, by rw [p0], p1, p2⟩
    simp (disch := omega) only [f_LM_nights_31, z_le, z_lt, z_eq, z_leL, z_leR, z_ltL, z_ltR, z_eqR, z_eqL, z_m1, z_m1s, z_m1le, z_m1lt, z_m1lt0, z_m1le0, z_0lem1, z_m1lek, z_add, z_addL, z_addR, z_mulR, z_sub, z_subL, z_gd, z_ix, z_cl, z_or0, z_add0, z_bs, z_gd, z_b1, z_b0, z_10, z_01, eq_self, reduceCtorEq, ↓reduceIte, if_true, if_false, Nat.not_lt_zero, not_true_eq_false, not_false_eq_true, Bool.false_eq_true, Nat.le_refl, Nat.lt_irrefl]) nn lh_fuel 0 (g, J) (Nat.zero_add _) (by unfold lh_fuel; omega) ⟨rfl, hm, fun _ _ _ _ _ => rfl⟩
  obtain ⟨⟨J', L'⟩, e, h1, h2, h3⟩ := key
  simp only at h1 h2 h3
  subst h1
  exact ⟨J', e, h2, h3⟩
theorem p_nights : lh_P41 lh_inv := by
  intro t a b a2 b2 I L x1 x2 x3 hi
  obtain ⟨s, w, c, m, ha, fc, f0, fm⟩ := hi.opx
  obtain ⟨m0, k0⟩ := f0 I q_fr.rf
  have i1 : f_LM_within x1 0 9999 = _ := m_within (n := 9999) (by decide) x1
  have i2 : f_LM_within x2 1 99 = _ := m_in1 99 x2
  have j1 : ∀ (A B : Option (Int32 × lh_II)), (if x1 < 0 then A else if 9999 < x1 then A else B) = if q_is 10000 x1 = true then B else A := fun A B => q_isG 9999 (by decide)
  have j2 : ∀ (A B : Option (Int32 × lh_II)), (if x2 < 1 then A else if 99 < x2 then A else B) = if q_is1 99 x2 = true then B else A := fun A B => by
    rw [← q_is1L 99]
    by_cases h0 : x2 < 1
    · rw [if_pos h0, if_pos h0]
    · rw [if_neg h0, if_neg h0]
      by_cases h1 : nI 99 < x2
      · rw [if_pos (show (99 : Int32) < x2 from h1), if_neg (fa_of_lt h1).2.1]
      · rw [if_neg (show ¬ (99 : Int32) < x2 from h1), if_pos (fa_of_nlt h1)]
  have j3 : ∀ (A B : Option (Int32 × lh_II)), (if x3 < 0 then A else if x3 ≤ 2 then B else A) = if q_is 3 x3 = true then B else A := fun A B => q_isL 2 (by decide)
  have bad : f_LH_nights a b x1 x2 x3 I = some (-1, I) → f_LM_nights x1 x2 x3 I L = some (-1, lh_u2 I (65 + 4) 0 0, L) → ∃ (r1 : Int32 × lh_II) (r2 : Int32 × lh_II × lh_LL), f_LH_nights a b x1 x2 x3 I = some r1 ∧ f_LM_nights x1 x2 x3 r1.2 L = some r2 ∧ r1.1 = r2.1 ∧ lh_inv t a b a2 b2 r2.2.1 r2.2.2 := fun e1 e2 => ⟨_, _, e1, e2, rfl, hi.en k0⟩
  cases h1 : q_is 10000 x1 with
  | false => exact bad (by rw [f_LH_nights, j1, h1, if_neg (by decide)]) (by simp only [f_LM_nights, i1, h1, z_bs, z_gd, z_b1, z_b0, z_10, z_01, eq_self, reduceCtorEq, ↓reduceIte, if_true, if_false, Nat.not_lt_zero, not_true_eq_false, not_false_eq_true, Bool.false_eq_true, Nat.le_refl, Nat.lt_irrefl])
  | true =>
    cases h2 : q_is1 99 x2 with
    | false => exact bad (by rw [f_LH_nights, j1, h1, if_pos rfl, j2, h2, if_neg (by decide)]) (by simp only [f_LM_nights, i1, i2, h1, h2, z_bs, z_gd, z_b1, z_b0, z_10, z_01, eq_self, reduceCtorEq, ↓reduceIte, if_true, if_false, Nat.not_lt_zero, not_true_eq_false, not_false_eq_true, Bool.false_eq_true, Nat.le_refl, Nat.lt_irrefl])
    | true =>
      cases h3 : q_is 3 x3 with
      | false => exact bad (by rw [f_LH_nights, j1, h1, if_pos rfl, j2, h2, if_pos rfl, j3, h3, if_neg (by decide)]) (by simp only [f_LM_nights, i1, i2, m_in02, h1, h2, h3, z_bs, z_gd, z_b1, z_b0, z_10, z_01, eq_self, reduceCtorEq, ↓reduceIte, if_true, if_false, Nat.not_lt_zero, not_true_eq_false, not_false_eq_true, Bool.false_eq_true, Nat.le_refl, Nat.lt_irrefl])
      | true =>
        obtain ⟨g, hg, rfl⟩ := q_is_ex (by omega) h1
        obtain ⟨nn, hn1, hn2, rfl⟩ := q_is1_ex (by omega) h2
        obtain ⟨x, hx, rfl⟩ := q_is_ex (by omega) h3
        obtain ⟨I0, b1, b2', b3⟩ := e_become (o := 8) (by omega) c.2.1
        have c0 : q_cl a I0 (s_h s) := c.1.keep (fun j k hj hj3 => b3 _ _ (by omega))
        obtain ⟨I1, g1, g2, g3⟩ := e_drawNight (b := b) c0 w.1 ha (show g < 2147483648 by omega) b2' w.2.1 hn2
        have hI1 : ∀ o k, o ≠ a + 7 → o ≠ a + 15 → o ≠ 12 → I1 o k = I o k := fun o k h1 h2 h3 => by rw [g3 _ _ h1 h2 h3, b3 _ _ (by omega)]
        have k1 := fc I1 hI1
        obtain ⟨m', k2⟩ := f0 I1 k1
        obtain ⟨J0, d1, d2, d3⟩ := m_copyM (J := lh_u2 I1 (65 + 4) 0 0) (x := 0) (y := 704) (by omega) (by omega) (by omega) m'.2.1
        have d1' : f_LM_copies 0 704 7 (lh_u2 I1 (65 + 4) 0 0) = some J0 := d1
        have mJ0 : q_md J0 (s_h s) := m'.1.keep w.1 (fun k _ => d3 _ _ (by omega)) (fun k _ => d3 _ _ (by omega)) (fun k _ => d3 _ _ (by omega))
        obtain ⟨J1, q1, q2, q3⟩ := m_nights31 (L := L) mJ0 w.1 (nI x) (show g < 2147483648 by omega) d2 w.2.1 hn2
        have k3 : q_fr a b I J1 := fm _ _ k2 (fun o k h1 h2 h3 => by rw [q3 _ _ h1 h2 (by omega), d3 _ _ (by omega)])
        have gl : (nI g).toInt64 = lN g := nI_l (by omega)
        have r5 : I1 (8 + 4) 5 = _ := g2.2.2.2.2.2.1
        have r6 : I1 (8 + 4) 6 = _ := g2.2.2.2.2.2.2
        have r3 : I1 (8 + 4) 3 = _ := g2.2.2.2.1
        have r11 : I1 (7 + 4) 5 = u_b (s_n s) := by rw [hI1 _ _ (by omega) (by omega) (by omega)]; exact c.2.1.2.2.2.2.2.1
        have t5 : J1 (78 + 4) 705 = _ := q2.2.1
        have t6 : J1 (78 + 4) 710 = _ := q2.2.2.2.2.2.2
        have t3 : J1 (78 + 4) 708 = _ := q2.2.2.2.2.1
        have t1 : J1 (78 + 4) 1 = u_b (s_n s) := by rw [q3 _ _ (by omega) (by omega) (by omega), d3 _ _ (by omega)]; exact m'.2.1.2.1
        have hfin : lh_inv t a b a2 b2 J1 (lh_v2 L (65 + 4) 24 (lN (q_it (q_ng (s_h s)) 0 nn (g, s_n s)).1)) := hi.keep k3 (fun w hw => ⟨q_v2o (by omega), q_v2o (by omega)⟩)
        have h5 : x = 0 ∨ x = 1 ∨ x = 2 := by omega
        rcases h5 with rfl | rfl | rfl
        · refine ⟨(nI (u_z (q_it (q_ng (s_h s)) 0 nn (g, s_n s)).2), I1), (nI (u_z (q_it (q_ng (s_h s)) 0 nn (g, s_n s)).2), J1, lh_v2 L (65 + 4) 24 (lN (q_it (q_ng (s_h s)) 0 nn (g, s_n s)).1)), ?_, ?_, rfl, hfin⟩
          · rw [f_LH_nights, j1, h1, if_pos rfl, j2, h2, if_pos rfl, j3, h3, if_pos rfl]
            simp (disch := omega) only [b1, f_LH_drawNight, gl, g1, r6, z_eqR, z_bs, z_gd, z_b1, z_b0, z_10, z_01, eq_self, reduceCtorEq, ↓reduceIte, if_true, if_false, Nat.not_lt_zero, not_true_eq_false, not_false_eq_true, Bool.false_eq_true, Nat.le_refl, Nat.lt_irrefl]
          · simp (disch := omega) only [f_LM_nights, i1, i2, m_in02, h1, h2, h3, d1', gl, q1, t6, z_eqR, z_bs, z_gd, z_b1, z_b0, z_10, z_01, eq_self, reduceCtorEq, ↓reduceIte, if_true, if_false, Nat.not_lt_zero, not_true_eq_false, not_false_eq_true, Bool.false_eq_true, Nat.le_refl, Nat.lt_irrefl]
        · refine ⟨(u_b (q_it (q_ng (s_h s)) 0 nn (g, s_n s)).2 - u_b (s_n s), I1), (u_b (q_it (q_ng (s_h s)) 0 nn (g, s_n s)).2 - u_b (s_n s), J1, lh_v2 L (65 + 4) 24 (lN (q_it (q_ng (s_h s)) 0 nn (g, s_n s)).1)), ?_, ?_, rfl, hfin⟩
          · rw [f_LH_nights, j1, h1, if_pos rfl, j2, h2, if_pos rfl, j3, h3, if_pos rfl]
            simp (disch := omega) only [b1, f_LH_drawNight, gl, g1, r5, r11, z_eqR, show ¬ (1 : Nat) = 0 by omega, z_bs, z_gd, z_b1, z_b0, z_10, z_01, eq_self, reduceCtorEq, ↓reduceIte, if_true, if_false, Nat.not_lt_zero, not_true_eq_false, not_false_eq_true, Bool.false_eq_true, Nat.le_refl, Nat.lt_irrefl]
          · simp (disch := omega) only [f_LM_nights, i1, i2, m_in02, h1, h2, h3, d1', gl, q1, t5, t1, z_eqR, show ¬ (1 : Nat) = 0 by omega, z_bs, z_gd, z_b1, z_b0, z_10, z_01, eq_self, reduceCtorEq, ↓reduceIte, if_true, if_false, Nat.not_lt_zero, not_true_eq_false, not_false_eq_true, Bool.false_eq_true, Nat.le_refl, Nat.lt_irrefl]
        · refine ⟨(nI (u_o (q_it (q_ng (s_h s)) 0 nn (g, s_n s)).2), I1), (nI (u_o (q_it (q_ng (s_h s)) 0 nn (g, s_n s)).2), J1, lh_v2 L (65 + 4) 24 (lN (q_it (q_ng (s_h s)) 0 nn (g, s_n s)).1)), ?_, ?_, rfl, hfin⟩
          · rw [f_LH_nights, j1, h1, if_pos rfl, j2, h2, if_pos rfl, j3, h3, if_pos rfl]
            simp (disch := omega) only [b1, f_LH_drawNight, gl, g1, r3, z_eqR, show ¬ (2 : Nat) = 0 by omega, show ¬ (2 : Nat) = 1 by omega, z_bs, z_gd, z_b1, z_b0, z_10, z_01, eq_self, reduceCtorEq, ↓reduceIte, if_true, if_false, Nat.not_lt_zero, not_true_eq_false, not_false_eq_true, Bool.false_eq_true, Nat.le_refl, Nat.lt_irrefl]
          · simp (disch := omega) only [f_LM_nights, i1, i2, m_in02, h1, h2, h3, d1', gl, q1, t3, z_eqR, show ¬ (2 : Nat) = 0 by omega, show ¬ (2 : Nat) = 1 by omega, z_bs, z_gd, z_b1, z_b0, z_10, z_01, eq_self, reduceCtorEq, ↓reduceIte, if_true, if_false, Nat.not_lt_zero, not_true_eq_false, not_false_eq_true, Bool.false_eq_true, Nat.le_refl, Nat.lt_irrefl]
