/-! bumps and steps -/
section Q47
variable {a : Nat} {I J : lh_II} {h : lh_H}
def q_way (x : Int32) : Prop := x = -1 ∨ x = 0 ∨ x = 1
def q_tg (h : lh_H) (c : Nat) (x : Int32) : Option Nat := if x = 0 then some c else if x = 1 then (if c + 1 < q_C h then some (c + 1) else none) else if 1 ≤ c then some (c - 1) else none
def q_ent (h : lh_H) (c : Nat) (x : Int32) : Option Nat := match q_tg h c x with
  | none => none
  | some y => if (q_P h).testBit y = true then none else some y
theorem q_nI_m1 {c : Nat} (hc : 1 ≤ c) : nI c + (-1) = nI (c - 1) := by
  obtain ⟨k, rfl⟩ : ∃ k, c = k + 1 := ⟨c - 1, by omega⟩
  exact pk_m1 k
theorem q_tg_some (w : q_wf h) {c y : Nat} {x : Int32} (hx : q_way x) (hc : c < q_C h) (e : q_tg h c x = some y) : nI c + x = nI y ∧ y < q_C h ∧ (x = 0 → y = c) ∧ (x ≠ 0 → q_ds c y = 1) := by
  have hC := w.C
  unfold q_tg at e
  rcases hx with rfl | rfl | rfl
  · rw [if_neg (by decide), if_neg (by decide)] at e
    split at e
    · next h1 =>
      cases e
      refine ⟨q_nI_m1 h1, by omega, fun e => absurd e (by decide), fun _ => ?_⟩
      unfold q_ds
      rw [if_neg (by omega)]; omega
    · cases e
  · rw [if_pos rfl] at e
    cases e
    exact ⟨z_add0 _, hc, fun _ => rfl, fun h => absurd rfl h⟩
  · rw [if_neg (by decide), if_pos rfl] at e
    split at e
    · cases e
      refine ⟨nI_1 c, by omega, fun e => absurd e (by decide), fun _ => ?_⟩
      unfold q_ds
      rw [if_pos (by omega)]; omega
    · cases e
theorem q_tg_none (w : q_wf h) {c : Nat} {x : Int32} (hx : q_way x) (hc : c < q_C h) (e : q_tg h c x = none) : q_is (q_C h) (nI c + x) = false := by
  have hC := w.C
  unfold q_tg at e
  rcases hx with rfl | rfl | rfl
  · rw [if_neg (by decide), if_neg (by decide)] at e
    split at e
    · cases e
    · next h1 =>
      have : c = 0 := by omega
      subst this
      unfold q_is
      rw [show nI 0 + (-1) = (-1 : Int32) from by decide]
      simp only [decide_eq_false_iff_not, not_and]
      intro h
      exact absurd (by decide) h
  · cases e
  · rw [if_neg (by decide), if_pos rfl] at e
    split at e
    · cases e
    · rw [nI_1, q_is_nI (by omega) (by omega)]
      simp; omega
theorem q_ent_some (w : q_wf h) {c y : Nat} {x : Int32} (hx : q_way x) (hc : c < q_C h) (e : q_ent h c x = some y) : nI c + x = nI y ∧ y < q_C h ∧ (x = 0 → y = c) ∧ (x ≠ 0 → q_ds c y = 1) ∧ (q_P h).testBit y = false := by
  unfold q_ent at e
  cases et : q_tg h c x with
  | none => rw [et] at e; cases e
  | some z =>
    rw [et] at e
    simp only at e
    split at e
    · cases e
    · next h1 =>
      cases e
      obtain ⟨g1, g2, g3, g4⟩ := q_tg_some w hx hc et
      exact ⟨g1, g2, g3, g4, by simpa using h1⟩
theorem e_hasPillar (c : q_cl a I h) (w : q_wf h) {x : Nat} (hx : x < q_C h) : f_Ha_hasPillar a (nI x) I = some (q_b01 ((q_P h).testBit x)) := by
  have hC := w.C
  have hP := w.P12
  have h1 : q_is (q_C h) (nI x) = true := by rw [q_is_nI (by omega) (by omega)]; simp [hx]
  simp (disch := omega) only [f_Ha_hasPillar, e_hasCell c, h1, c.P, z_bit1, z_le, z_lt, z_eq, z_leL, z_leR, z_ltL, z_ltR, z_eqR, z_eqL, z_m1, z_m1s, z_m1le, z_m1lt, z_m1lt0, z_m1le0, z_0lem1, z_m1lek, z_add, z_addL, z_addR, z_mulR, z_sub, z_subL, z_gd, z_ix, z_cl, z_or0, z_add0, z_bs, z_gd, z_b1, z_b0, z_10, z_01, eq_self, reduceCtorEq, ↓reduceIte, if_true, if_false, Nat.not_lt_zero, not_true_eq_false, not_false_eq_true, Bool.false_eq_true, Nat.le_refl, Nat.lt_irrefl]
  cases (q_P h).testBit x <;> rfl
theorem e_canEnter (c : q_cl a I h) (w : q_wf h) {x : Nat} {y : Int32} (hy : q_way y) (hx : x < q_C h) : f_Ha_canEnter a (nI x + y) I = some (q_b01 (q_ent h x y).isSome) := by
  have hC := w.C
  cases e : q_tg h x y with
  | none =>
    have e2 : q_ent h x y = none := by unfold q_ent; rw [e]
    rw [e2]
    simp only [f_Ha_canEnter, e_hasCell c, q_tg_none w hy hx e, Option.isSome_none, z_bs, z_gd, z_b1, z_b0, z_10, z_01, eq_self, reduceCtorEq, ↓reduceIte, if_true, if_false, Nat.not_lt_zero, not_true_eq_false, not_false_eq_true, Bool.false_eq_true, Nat.le_refl, Nat.lt_irrefl]
  | some z =>
    obtain ⟨g1, g2, -, -⟩ := q_tg_some w hy hx e
    have h1 : q_is (q_C h) (nI z) = true := by rw [q_is_nI (by omega) (by omega)]; simp [g2]
    have e2 : q_ent h x y = if (q_P h).testBit z = true then none else some z := by unfold q_ent; rw [e]
    rw [e2, g1]
    cases hp : (q_P h).testBit z <;> simp only [f_Ha_canEnter, e_hasCell c, h1, e_hasPillar c w g2, hp, Option.isSome_none, Option.isSome_some, z_bs, z_gd, z_b1, z_b0, z_10, z_01, eq_self, reduceCtorEq, ↓reduceIte, if_true, if_false, Nat.not_lt_zero, not_true_eq_false, not_false_eq_true, Bool.false_eq_true, Nat.le_refl, Nat.lt_irrefl]
theorem m_canEnter (m : q_md J h) (w : q_wf h) {α : Type} {x : Nat} {y : Int32} (hy : q_way y) (hx : x < q_C h) (A B : Option α) : (lh_bd (f_LM_isCell (nI x + y) J) fun r => if r = 0 then A else lh_bd (f_LM_isPillar (nI x + y) J) fun r2 => if r2 = 0 then B else A) = if (q_ent h x y).isSome = true then B else A := by
  have hC := w.C
  cases e : q_tg h x y with
  | none =>
    have e2 : q_ent h x y = none := by unfold q_ent; rw [e]
    rw [e2]
    simp only [m_isCell m, q_tg_none w hy hx e, Option.isSome_none, z_bs, z_gd, z_b1, z_b0, z_10, z_01, eq_self, reduceCtorEq, ↓reduceIte, if_true, if_false, Nat.not_lt_zero, not_true_eq_false, not_false_eq_true, Bool.false_eq_true, Nat.le_refl, Nat.lt_irrefl]
  | some z =>
    obtain ⟨g1, g2, -, -⟩ := q_tg_some w hy hx e
    have h1 : q_is (q_C h) (nI z) = true := by rw [q_is_nI (by omega) (by omega)]; simp [g2]
    have e2 : q_ent h x y = if (q_P h).testBit z = true then none else some z := by unfold q_ent; rw [e]
    rw [e2, g1]
    cases hp : (q_P h).testBit z <;> simp only [m_isCell m, h1, m_isPillar m w g2, hp, Option.isSome_none, Option.isSome_some, z_bs, z_gd, z_b1, z_b0, z_10, z_01, eq_self, reduceCtorEq, ↓reduceIte, if_true, if_false, Nat.not_lt_zero, not_true_eq_false, not_false_eq_true, Bool.false_eq_true, Nat.le_refl, Nat.lt_irrefl]
theorem e_canY (c : q_cl a I h) (w : q_wf h) {x z : Nat} {y : Int32} (hy : q_way y) (hx : x < q_C h) (e : q_ent h x y = some z) : f_Ha_canEnter a (nI z) I = some 1 := by
  rw [← (q_ent_some w hy hx e).1, e_canEnter c w hy hx, e]; rfl
theorem m_canY (m : q_md J h) (w : q_wf h) {x z : Nat} {y : Int32} (hy : q_way y) (hx : x < q_C h) (e : q_ent h x y = some z) : f_LM_isCell (nI z) J = some 1 ∧ f_LM_isPillar (nI z) J = some 0 := by
  obtain ⟨-, g2, -, -, g5⟩ := q_ent_some w hy hx e
  have hC := w.C
  exact ⟨by rw [m_isCellN m w (by omega)]; simp only [g2, decide_true]; rfl, by rw [m_isPillar m w g2, g5]; rfl⟩
def q_bv (h : lh_H) (d u y v : Nat) : Nat := if q_dy h v = d ∧ q_pl h v u = some y then (if q_kd h v = 1 then 2 else 1) else 0
def q_bn (h : lh_H) (d u y : Nat) : Nat := fb_sm (q_bv h d u y) (q_N h)
def q_bu (h : lh_H) (m : lh_Mt) (x : Int32) : Nat := if x = 0 then 0 else if u_o m = 0 then 0 else match q_ent h (u_c m) x with
  | none => 0
  | some y => q_bn h (q_sd h (u_d m) (u_o m) 1 (u_h m)) (u_h m) y
theorem q_bn_le (w : q_wf h) (d u y : Nat) : q_bn h d u y ≤ 12 := by
  have := fb_sm_bound (f := q_bv h d u y) (c := 2) (n := q_N h) (fun k _ => by unfold q_bv; (repeat' split) <;> omega)
  have hN := w.N
  unfold q_bn
  omega
theorem q_bu_le (w : q_wf h) (m : lh_Mt) (x : Int32) : q_bu h m x ≤ 12 := by
  unfold q_bu
  split
  · omega
  · split
    · omega
    · split
      · omega
      · exact q_bn_le w _ _ _
theorem e_bumps31 (c : q_cl a I h) (w : q_wf h) {o d u y : Nat} (hd : d < 4) (hu : u < 8) (hy : y < q_C h) (h1 : I (o + 4) 1 = nI u) : f_Ha_bumpsOf_31 a o (nI y) (nI d) I lh_fuel 0 0 = some (nI (q_bn h d u y)) := by
  have hN := w.N
  have hC := w.C
  obtain ⟨r, e, hr⟩ := q_forI (F := fun n k (x : Int32) => f_Ha_bumpsOf_31 a o (nI y) (nI d) I n x (nI k)) (N := q_N h) (P := fun k x => x = nI (fb_sm (q_bv h d u y) k)) (Q := fun r => r = nI (q_bn h d u y)) (fun n k x hk hx => by
    subst hx
    have hk4 := w.kd hk
    have hdy := w.dy hk
    refine ⟨_, rfl, ?_⟩
    rw [fb_sm_succ]
    unfold q_bv
    cases hp : q_pl h k u with
    | none =>
      simp (disch := omega) only [f_Ha_bumpsOf_31, c.N, c.kd hk, c.dy hk, h1, e_placeOfN c w, hp, z_eN, and_false, Nat.add_zero, ite_self, show ¬ q_N h ≤ k by omega, z_le, z_lt, z_eq, z_leL, z_leR, z_ltL, z_ltR, z_eqR, z_eqL, z_m1, z_m1s, z_m1le, z_m1lt, z_m1lt0, z_m1le0, z_0lem1, z_m1lek, z_add, z_addL, z_addR, z_mulR, z_sub, z_subL, z_gd, z_ix, z_cl, z_or0, z_add0, z_bs, z_gd, z_b1, z_b0, z_10, z_01, eq_self, reduceCtorEq, ↓reduceIte, if_true, if_false, Nat.not_lt_zero, not_true_eq_false, not_false_eq_true, Bool.false_eq_true, Nat.le_refl, Nat.lt_irrefl]
    | some p =>
      have hpC := w.pl hk hu hp
      simp (disch := omega) only [f_Ha_bumpsOf_31, c.N, c.kd hk, c.dy hk, h1, e_placeOfN c w, hp, z_eS, Option.some.injEq, show ¬ q_N h ≤ k by omega, z_le, z_lt, z_eq, z_leL, z_leR, z_ltL, z_ltR, z_eqR, z_eqL, z_m1, z_m1s, z_m1le, z_m1lt, z_m1lt0, z_m1le0, z_0lem1, z_m1lek, z_add, z_addL, z_addR, z_mulR, z_sub, z_subL, z_gd, z_ix, z_cl, z_or0, z_add0, z_bs, z_gd, z_b1, z_b0, z_10, z_01, eq_self, reduceCtorEq, ↓reduceIte, if_true, if_false, Nat.not_lt_zero, not_true_eq_false, not_false_eq_true, Bool.false_eq_true, Nat.le_refl, Nat.lt_irrefl]
      by_cases h2 : q_dy h k = d <;> by_cases h3 : p = y <;> by_cases h4 : q_kd h k = 1 <;> simp only [h2, h3, h4, and_self, and_false, false_and, and_true, true_and, Nat.add_zero, z_bs, z_gd, z_b1, z_b0, z_10, z_01, eq_self, reduceCtorEq, ↓reduceIte, if_true, if_false, Nat.not_lt_zero, not_true_eq_false, not_false_eq_true, Bool.false_eq_true, Nat.le_refl, Nat.lt_irrefl]) (fun n x hx => by
    simp (disch := omega) only [f_Ha_bumpsOf_31, c.N, z_le, z_lt, z_eq, z_leL, z_leR, z_ltL, z_ltR, z_eqR, z_eqL, z_m1, z_m1s, z_m1le, z_m1lt, z_m1lt0, z_m1le0, z_0lem1, z_m1lek, z_add, z_addL, z_addR, z_mulR, z_sub, z_subL, z_gd, z_ix, z_cl, z_or0, z_add0, z_bs, z_gd, z_b1, z_b0, z_10, z_01, eq_self, reduceCtorEq, ↓reduceIte, if_true, if_false, Nat.not_lt_zero, not_true_eq_false, not_false_eq_true, Bool.false_eq_true, Nat.le_refl, Nat.lt_irrefl]
    exact ⟨_, rfl, hx⟩) (q_N h) lh_fuel 0 0 (Nat.zero_add _) (by unfold lh_fuel; omega) rfl
  subst hr
  exact e
theorem e_bumpsOf (c : q_cl a I h) (w : q_wf h) {o n : Nat} {m : lh_Mt} {x : Int32} (ha : a = 11 ∨ a = 23) (ho : o = 7 ∨ o = 8) (hm : q_mc I o m) (hw : q_mw h n m) (hx : q_way x) : ∃ I', f_Ha_bumpsOf a o x I = some (nI (q_bu h m x), I') ∧ q_fc a I I' := by
  obtain ⟨m1, m2, m3, m4, m5, m6, m7⟩ := hm
  obtain ⟨w1, w2, w3, w4, w5, w6⟩ := hw
  have hC := w.C
  unfold q_bu
  by_cases h0 : x = 0
  · exact ⟨I, by rw [f_Ha_bumpsOf, if_pos h0, if_pos h0]; rfl, fun _ _ _ _ => rfl⟩
  · by_cases h1 : u_o m = 0
    · exact ⟨I, by rw [f_Ha_bumpsOf, if_neg h0, if_neg h0, m4, h1, if_pos (by decide)]; rfl, fun _ _ _ _ => rfl⟩
    · cases e : q_ent h (u_c m) x with
      | none =>
        refine ⟨I, ?_, fun _ _ _ _ => rfl⟩
        simp (disch := omega) only [f_Ha_bumpsOf, h0, h1, m4, m1, e_canEnter c w hx w1, e, Option.isSome_none, show ¬ u_o m ≤ 0 by omega, z_leR, z_bs, z_gd, z_b1, z_b0, z_10, z_01, eq_self, reduceCtorEq, ↓reduceIte, if_true, if_false, Nat.not_lt_zero, not_true_eq_false, not_false_eq_true, Bool.false_eq_true, Nat.le_refl, Nat.lt_irrefl]
        rfl
      | some y =>
        obtain ⟨g1, g2, -, -, -⟩ := q_ent_some w hx w1 e
        obtain ⟨I', k1, k2⟩ := e_dayShown c w (u_d m) (u_o m) 1 (u_h m)
        have k1' : f_La_dayShown a (nI (u_d m)) (nI (u_o m)) 1 (nI (u_h m)) I = _ := k1
        have cI : q_cl a I' h := c.keep (fun j k' hj hj3 => k2 _ _ (by omega))
        have h3 := q_sd_lt h (u_d m) (u_o m) 1 (u_h m)
        refine ⟨I', ?_, fun o k h1 _ => k2 o k h1⟩
        simp (disch := omega) only [f_Ha_bumpsOf, h0, h1, m4, m3, m2, m1, e_canEnter c w hx w1, e, Option.isSome_some, show ¬ u_o m ≤ 0 by omega, z_leR, k1', g1, e_canY c w hx w1 e, e_bumps31 cI w (o := o) h3 w2 g2 (by rw [k2 _ _ (by omega)]; exact m2), z_bs, z_gd, z_b1, z_b0, z_10, z_01, eq_self, reduceCtorEq, ↓reduceIte, if_true, if_false, Nat.not_lt_zero, not_true_eq_false, not_false_eq_true, Bool.false_eq_true, Nat.le_refl, Nat.lt_irrefl]
theorem q_lt_adj (w : q_wf h) {c y st : Nat} (hc : c < q_C h) (hy : y < q_C h) (e : q_ds c y = 1) : (q_lt h c st).testBit y = true := by
  have hB := w.B
  unfold q_ds at e
  unfold q_lt
  obtain ⟨d, hd⟩ : ∃ d, q_B h = d + 1 := ⟨q_B h - 1, by omega⟩
  rw [hd]
  by_cases h1 : c ≤ y
  · rw [if_pos h1] at e
    rw [q_dn_or, Nat.testBit_or]
    have : (q_up h c st (d + 1) 1 (2 ^ c)).testBit y = true := by
      unfold q_up
      rw [if_neg (by omega)]
      split
      · rw [fb_bit_set]; simp; omega
      · rw [q_up_or, Nat.testBit_or, fb_bit_set]; simp; omega
    rw [this]; rfl
  · rw [if_neg h1] at e
    unfold q_dn
    rw [if_neg (by omega)]
    split
    · rw [fb_bit_set]; simp; omega
    · rw [q_dn_or, Nat.testBit_or, fb_bit_set]; simp; omega
theorem q_sm_tb (m : lh_Mt) (st v : Nat) (hv : v < q_N h) (h0 : ¬ u_o m = 0) : (q_sm h m st).testBit v = match q_pl h v (u_h m) with | none => false | some p => (q_lt h (u_c m) st).testBit p && decide (q_sd h (u_d m) (u_o m) (q_ds (u_c m) p) (u_h m) = q_dy h v) := by
  unfold q_sm
  rw [if_neg h0]
  unfold q_se
  rw [q_mk_tb]
  simp only [hv, decide_true, Bool.true_and]
  cases q_pl h v (u_h m) <;> rfl
theorem m_bumpsBy (m : q_md J h) (w : q_wf h) {b0 n : Nat} {u : lh_Mt} {x : Int32} (hb : b0 ≤ 704) (hm : q_mm J b0 u) (hw : q_mw h n u) (hx : q_way x) : ∃ J', f_LM_bumpsBy (nI b0) x J = some (nI (q_bu h u x), J') ∧ q_fm J J' := by
  obtain ⟨J', g1, g2⟩ := m_seenNow m w hb hm hw
  have hN := w.N
  have hC := w.C
  have hm' : q_mm J' b0 u := hm.keep (fun k _ => g2 _ _ (by omega) (by omega))
  have mJ : q_md J' h := m.keep w (fun k _ => g2 _ _ (by omega) (by omega)) (fun k _ => g2 _ _ (by omega) (by omega)) (fun k _ => g2 _ _ (by omega) (by omega))
  obtain ⟨m1, m2, m3, m4, m5, m6, m7⟩ := hm'
  have hw' := hw
  obtain ⟨w1, w2, w3, w4, w5, w6⟩ := hw
  have hs64 := q_sm_64 w u (q_P h)
  refine ⟨J', ?_, g2⟩
  by_cases h0 : x = 0
  · have e1 : f_LM_bumpsBy_8 (nI b0) x (nI (q_sm h u (q_P h))) J' lh_fuel 0 0 = some 0 := by
      rw [show lh_fuel = 4999 + 1 from rfl, f_LM_bumpsBy_8, m_visitors mJ, q_bs]
      (repeat' split) <;> first | rfl | contradiction
    have e2 : q_bu h u x = 0 := by unfold q_bu; rw [if_pos h0]
    rw [f_LM_bumpsBy, g1, q_bs, e1, q_bs, e2]
    simp (disch := omega) only [m6, m_canEnter mJ w hx w1, z_le, z_lt, z_eq, z_leL, z_leR, z_ltL, z_ltR, z_eqR, z_eqL, z_m1, z_m1s, z_m1le, z_m1lt, z_m1lt0, z_m1le0, z_0lem1, z_m1lek, z_add, z_addL, z_addR, z_mulR, z_sub, z_subL, z_gd, z_ix, z_cl, z_or0, z_add0, z_bs, z_gd, z_b1, z_b0, z_10, z_01, eq_self, reduceCtorEq, ↓reduceIte, if_true, if_false, Nat.not_lt_zero, not_true_eq_false, not_false_eq_true, Bool.false_eq_true, Nat.le_refl, Nat.lt_irrefl]
    split <;> rfl
  · -- the loop, at any rate, comes to an end
    have step : ∀ n k (y : Int32), k < q_N h → f_LM_bumpsBy_8 (nI b0) x (nI (q_sm h u (q_P h))) J' (n + 1) y (nI k) = f_LM_bumpsBy_8 (nI b0) x (nI (q_sm h u (q_P h))) J' n (if (q_sm h u (q_P h)).testBit k = true ∧ q_e (q_pl h k (u_h u)) = nI (u_c u) + x then (if q_kd h k = 1 then y + 2 else y + 1) else y) (nI (k + 1)) := by
      intro n k y hk
      have hk4 := w.kd hk
      simp (disch := omega) only [f_LM_bumpsBy_8, m_visitors mJ, h0, z_bit1, m3, m6, m_cellOf mJ w, m_kindOf mJ w, show ¬ q_N h ≤ k by omega, z_le, z_lt, z_eq, z_leL, z_leR, z_ltL, z_ltR, z_eqR, z_eqL, z_m1, z_m1s, z_m1le, z_m1lt, z_m1lt0, z_m1le0, z_0lem1, z_m1lek, z_add, z_addL, z_addR, z_mulR, z_sub, z_subL, z_gd, z_ix, z_cl, z_or0, z_add0, z_bs, z_gd, z_b1, z_b0, z_10, z_01, eq_self, reduceCtorEq, ↓reduceIte, if_true, if_false, Nat.not_lt_zero, not_true_eq_false, not_false_eq_true, Bool.false_eq_true, Nat.le_refl, Nat.lt_irrefl]
      by_cases h2 : (q_sm h u (q_P h)).testBit k = true
      · by_cases h3 : q_e (q_pl h k (u_h u)) = nI (u_c u) + x
        · by_cases h4 : q_kd h k = 1 <;> simp only [h2, h3, h4, and_self, z_bs, z_gd, z_b1, z_b0, z_10, z_01, eq_self, reduceCtorEq, ↓reduceIte, if_true, if_false, Nat.not_lt_zero, not_true_eq_false, not_false_eq_true, Bool.false_eq_true, Nat.le_refl, Nat.lt_irrefl]
        · simp only [h2, h3, and_false, z_bs, z_gd, z_b1, z_b0, z_10, z_01, eq_self, reduceCtorEq, ↓reduceIte, if_true, if_false, Nat.not_lt_zero, not_true_eq_false, not_false_eq_true, Bool.false_eq_true, Nat.le_refl, Nat.lt_irrefl]
      · simp only [if_neg h2, h2, false_and, z_bs, z_gd, z_b1, z_b0, z_10, z_01, eq_self, reduceCtorEq, ↓reduceIte, if_true, if_false, Nat.not_lt_zero, not_true_eq_false, not_false_eq_true, Bool.false_eq_true, Nat.le_refl, Nat.lt_irrefl]
    cases e : q_ent h (u_c u) x with
    | none =>
      obtain ⟨r, e1, -⟩ := q_forI (F := fun n k (y : Int32) => f_LM_bumpsBy_8 (nI b0) x (nI (q_sm h u (q_P h))) J' n y (nI k)) (N := q_N h) (P := fun _ _ => True) (Q := fun _ => True) (fun n k y hk _ => ⟨_, trivial, step n k y hk⟩) (fun n y _ => by
        simp (disch := omega) only [f_LM_bumpsBy_8, m_visitors mJ, z_le, z_lt, z_eq, z_leL, z_leR, z_ltL, z_ltR, z_eqR, z_eqL, z_m1, z_m1s, z_m1le, z_m1lt, z_m1lt0, z_m1le0, z_0lem1, z_m1lek, z_add, z_addL, z_addR, z_mulR, z_sub, z_subL, z_gd, z_ix, z_cl, z_or0, z_add0, z_bs, z_gd, z_b1, z_b0, z_10, z_01, eq_self, reduceCtorEq, ↓reduceIte, if_true, if_false, Nat.not_lt_zero, not_true_eq_false, not_false_eq_true, Bool.false_eq_true, Nat.le_refl, Nat.lt_irrefl]
        exact ⟨_, rfl, trivial⟩) (q_N h) lh_fuel 0 0 (Nat.zero_add _) (by unfold lh_fuel; omega) trivial
      have e1' : f_LM_bumpsBy_8 (nI b0) x (nI (q_sm h u (q_P h))) J' lh_fuel 0 0 = some r := e1
      have e2 : q_bu h u x = 0 := by unfold q_bu; rw [if_neg h0, e]; simp
      rw [f_LM_bumpsBy, g1, q_bs, e1', q_bs, e2]
      simp (disch := omega) only [m6, m_canEnter mJ w hx w1, e, Option.isSome_none, z_le, z_lt, z_eq, z_leL, z_leR, z_ltL, z_ltR, z_eqR, z_eqL, z_m1, z_m1s, z_m1le, z_m1lt, z_m1lt0, z_m1le0, z_0lem1, z_m1lek, z_add, z_addL, z_addR, z_mulR, z_sub, z_subL, z_gd, z_ix, z_cl, z_or0, z_add0, z_bs, z_gd, z_b1, z_b0, z_10, z_01, eq_self, reduceCtorEq, ↓reduceIte, if_true, if_false, Nat.not_lt_zero, not_true_eq_false, not_false_eq_true, Bool.false_eq_true, Nat.le_refl, Nat.lt_irrefl]
      rfl
    | some y =>
      obtain ⟨k1, k2, -, k4, -⟩ := q_ent_some w hx w1 e
      have hd1 := k4 h0
      obtain ⟨r, e1, hr⟩ := q_forI (F := fun n k (y : Int32) => f_LM_bumpsBy_8 (nI b0) x (nI (q_sm h u (q_P h))) J' n y (nI k)) (N := q_N h) (P := fun k z => z = nI (fb_sm (fun v => if u_o u = 0 then 0 else q_bv h (q_sd h (u_d u) (u_o u) 1 (u_h u)) (u_h u) y v) k)) (Q := fun r => r = nI (fb_sm (fun v => if u_o u = 0 then 0 else q_bv h (q_sd h (u_d u) (u_o u) 1 (u_h u)) (u_h u) y v) (q_N h))) (fun n k z hk hz => by
        subst hz
        refine ⟨_, rfl, ?_⟩
        rw [step n k _ hk, fb_sm_succ, k1]
        congr 1
        by_cases ho : u_o u = 0
        · have hs0 : q_sm h u (q_P h) = 0 := by unfold q_sm; rw [if_pos ho]
          rw [hs0]
          simp [ho]
        · rw [q_sm_tb u _ k hk ho]
          unfold q_bv
          cases hp : q_pl h k (u_h u) with
          | none => simp [ho]
          | some p =>
            have hpC := w.pl hk w2 hp
            have ee : (q_e (some p) = nI y) = (p = y) := by rw [z_eS]; exact z_eq (by omega) (by omega)
            simp only [ee, Option.some.injEq]
            by_cases h3 : p = y
            · subst h3
              rw [q_lt_adj w w1 k2 hd1, hd1]
              by_cases h4 : q_sd h (u_d u) (u_o u) 1 (u_h u) = q_dy h k
              · by_cases h5 : q_kd h k = 1
                · simp [ho, h4, h5, z_addL, nI_1]
                · simp [ho, h4, h5, nI_1]
              · simp [ho, h4, Ne.symm h4]
            · simp [ho, h3]) (fun n z hz => by
        simp (disch := omega) only [f_LM_bumpsBy_8, m_visitors mJ, z_le, z_lt, z_eq, z_leL, z_leR, z_ltL, z_ltR, z_eqR, z_eqL, z_m1, z_m1s, z_m1le, z_m1lt, z_m1lt0, z_m1le0, z_0lem1, z_m1lek, z_add, z_addL, z_addR, z_mulR, z_sub, z_subL, z_gd, z_ix, z_cl, z_or0, z_add0, z_bs, z_gd, z_b1, z_b0, z_10, z_01, eq_self, reduceCtorEq, ↓reduceIte, if_true, if_false, Nat.not_lt_zero, not_true_eq_false, not_false_eq_true, Bool.false_eq_true, Nat.le_refl, Nat.lt_irrefl]
        exact ⟨_, rfl, hz⟩) (q_N h) lh_fuel 0 0 (Nat.zero_add _) (by unfold lh_fuel; omega) rfl
      have e1' : f_LM_bumpsBy_8 (nI b0) x (nI (q_sm h u (q_P h))) J' lh_fuel 0 0 = some r := e1
      have e2 : r = nI (q_bu h u x) := by
        rw [hr]
        unfold q_bu
        rw [if_neg h0, e]
        by_cases ho : u_o u = 0
        · simp only [ho, if_true]
          rw [fb_sm_const 0]; rfl
        · simp only [ho, if_false]; rfl
      rw [f_LM_bumpsBy, g1, q_bs, e1', q_bs, e2]
      obtain ⟨q1, q2⟩ := m_canY mJ w hx w1 e
      simp (disch := omega) only [m6, k1, q1, q2, z_le, z_lt, z_eq, z_leL, z_leR, z_ltL, z_ltR, z_eqR, z_eqL, z_m1, z_m1s, z_m1le, z_m1lt, z_m1lt0, z_m1le0, z_0lem1, z_m1lek, z_add, z_addL, z_addR, z_mulR, z_sub, z_subL, z_gd, z_ix, z_cl, z_or0, z_add0, z_bs, z_gd, z_b1, z_b0, z_10, z_01, eq_self, reduceCtorEq, ↓reduceIte, if_true, if_false, Nat.not_lt_zero, not_true_eq_false, not_false_eq_true, Bool.false_eq_true, Nat.le_refl, Nat.lt_irrefl]
def q_nc (h : lh_H) (m : lh_Mt) (x : Int32) : Nat := match q_ent h (u_c m) x with
  | some y => if q_bu h m x = 0 then y else u_c m
  | none => u_c m
theorem q_nc_lt (w : q_wf h) {n : Nat} {m : lh_Mt} {x : Int32} (hw : q_mw h n m) (hx : q_way x) : q_nc h m x < q_C h := by
  unfold q_nc
  cases e : q_ent h (u_c m) x with
  | none => exact hw.1
  | some y =>
    simp only
    split
    · exact (q_ent_some w hx hw.1 e).2.1
    · exact hw.1
theorem m_cellBy (m : q_md J h) (w : q_wf h) {b0 n : Nat} {u : lh_Mt} {x : Int32} (hb : b0 ≤ 704) (hm : q_mm J b0 u) (hw : q_mw h n u) (hx : q_way x) : ∃ J', f_LM_cellBy (nI b0) x J = some (nI (q_nc h u x), J') ∧ q_fm J J' := by
  obtain ⟨J', g1, g2⟩ := m_bumpsBy m w hb hm hw hx
  have hm' : q_mm J' b0 u := hm.keep (fun k _ => g2 _ _ (by omega) (by omega))
  have hbu := q_bu_le w u x
  obtain ⟨m1, m2, m3, m4, m5, m6, m7⟩ := hm
  obtain ⟨-, -, -, -, -, n6, -⟩ := hm'
  obtain ⟨w1, w2, w3, w4, w5, w6⟩ := hw
  unfold q_nc
  cases e : q_ent h (u_c u) x with
  | none =>
    refine ⟨J, ?_, fun _ _ _ _ => rfl⟩
    simp (disch := omega) only [f_LM_cellBy, m6, m_canEnter m w hx w1, e, Option.isSome_none, z_le, z_lt, z_eq, z_leL, z_leR, z_ltL, z_ltR, z_eqR, z_eqL, z_m1, z_m1s, z_m1le, z_m1lt, z_m1lt0, z_m1le0, z_0lem1, z_m1lek, z_add, z_addL, z_addR, z_mulR, z_sub, z_subL, z_gd, z_ix, z_cl, z_or0, z_add0, z_bs, z_gd, z_b1, z_b0, z_10, z_01, eq_self, reduceCtorEq, ↓reduceIte, if_true, if_false, Nat.not_lt_zero, not_true_eq_false, not_false_eq_true, Bool.false_eq_true, Nat.le_refl, Nat.lt_irrefl]
  | some y =>
    obtain ⟨k1, k2, -, k4, -⟩ := q_ent_some w hx w1 e
    refine ⟨J', ?_, g2⟩
    obtain ⟨q1, q2⟩ := m_canY m w hx w1 e
    simp (disch := omega) only [f_LM_cellBy, m6, q1, q2, g1, k1, n6, z_le, z_lt, z_eq, z_leL, z_leR, z_ltL, z_ltR, z_eqR, z_eqL, z_m1, z_m1s, z_m1le, z_m1lt, z_m1lt0, z_m1le0, z_0lem1, z_m1lek, z_add, z_addL, z_addR, z_mulR, z_sub, z_subL, z_gd, z_ix, z_cl, z_or0, z_add0, z_bs, z_gd, z_b1, z_b0, z_10, z_01, eq_self, reduceCtorEq, ↓reduceIte, if_true, if_false, Nat.not_lt_zero, not_true_eq_false, not_false_eq_true, Bool.false_eq_true, Nat.le_refl, Nat.lt_irrefl]
    by_cases h1 : q_bu h u x = 0 <;> simp only [h1, z_bs, z_gd, z_b1, z_b0, z_10, z_01, eq_self, reduceCtorEq, ↓reduceIte, if_true, if_false, Nat.not_lt_zero, not_true_eq_false, not_false_eq_true, Bool.false_eq_true, Nat.le_refl, Nat.lt_irrefl]
def q_w1 (h : lh_H) (m : lh_Mt) (x : Int32) : lh_Mt := (q_nc h m x, (u_h m + 1) % 8, u_d m, u_o m - 1, u_s m + 1, u_b m + nI (q_bu h m x), u_z m)
def q_wk (h : lh_H) (m : lh_Mt) (x : Int32) : lh_Mt := (q_nc h m x, (u_h m + 1) % 8, u_d m, u_o m - 1, u_s m + 1, u_b m + nI (q_bu h m x), u_z m ||| q_sm h (q_w1 h m x) (q_P h))
theorem q_w1_mw (w : q_wf h) {n : Nat} {m : lh_Mt} {x : Int32} (hw : q_mw h n m) (hx : q_way x) : q_mw h (n + 1) (q_w1 h m x) := by
  have := q_nc_lt w hw hx
  obtain ⟨w1, w2, w3, w4, w5, w6⟩ := hw
  exact ⟨this, Nat.mod_lt _ (by decide), w3, by show u_o m - 1 ≤ 99; omega, by show u_s m + 1 ≤ n + 1; omega, w6⟩
theorem q_wk_mw (w : q_wf h) {n : Nat} {m : lh_Mt} {x : Int32} (hw : q_mw h n m) (hx : q_way x) : q_mw h (n + 1) (q_wk h m x) := by
  have := q_nc_lt w hw hx
  obtain ⟨w1, w2, w3, w4, w5, w6⟩ := hw
  exact ⟨this, Nat.mod_lt _ (by decide), w3, by show u_o m - 1 ≤ 99; omega, by show u_s m + 1 ≤ n + 1; omega, Nat.or_lt_two_pow w6 (q_sm_lt w _ _)⟩
theorem q_oil {o : Nat} (ho : o ≤ 99) : (if 0 < nI o - 1 then nI o - 1 else 0) = nI (o - 1) := (by decide +kernel : ∀ o, o < 100 → (if 0 < nI o - 1 then nI o - 1 else 0) = nI (o - 1)) o (by omega)
set_option maxHeartbeats 2000000 in
theorem e_walk (c : q_cl a I h) (w : q_wf h) {o n : Nat} {m : lh_Mt} {x : Int32} (ha : a = 11 ∨ a = 23) (ho : o = 7 ∨ o = 8) (hm : q_mc I o m) (hw : q_mw h n m) (hx : q_way x) : ∃ I', f_Ha_walk a o x I = some (nI (q_bu h m x), I') ∧ q_mc I' o (q_wk h m x) ∧ ∀ o' k, o' ≠ a + 7 → o' ≠ a + 15 → o' ≠ o + 4 → I' o' k = I o' k := by
  obtain ⟨I1, g1, g2⟩ := e_bumpsOf c w ha ho hm hw hx
  have c1 : q_cl a I1 h := c.keep (fun j k' hj hj3 => g2 _ _ (by omega) (by omega))
  have hbu := q_bu_le w m x
  have hm1 : q_mc I1 o m := hm.keep (fun k => g2 _ _ (by omega) (by omega))
  have hw1 := q_w1_mw w hw hx
  obtain ⟨m1, m2, m3, m4, m5, m6, m7⟩ := hm1
  have hw' := hw
  obtain ⟨w1, w2, w3, w4, w5, w6⟩ := hw
  -- whatever cell he comes to
  have fin : ∀ (K : lh_II), q_mc K o (q_w1 h m x) → (∀ o' k, o' ≠ o + 4 → K o' k = I1 o' k) → ∃ I', (lh_bd (f_Ha_seenBy a o K) fun r9 => some (nI (q_bu h m x), lh_u2 r9.2 (o + 4) 6 (nI (u_z m) ||| r9.1))) = some (nI (q_bu h m x), I') ∧ q_mc I' o (q_wk h m x) ∧ ∀ o' k, o' ≠ a + 7 → o' ≠ a + 15 → o' ≠ o + 4 → I' o' k = I o' k := by
    intro K hK1 hK2
    have cK : q_cl a K h := c1.keep (fun j k' hj hj3 => hK2 _ _ (by omega))
    obtain ⟨I2, k1, k2⟩ := e_seenBy cK w ha ho hK1 hw1
    refine ⟨lh_u2 I2 (o + 4) 6 (nI (u_z m) ||| nI (q_sm h (q_w1 h m x) (q_P h))), by rw [k1, q_bs], ?_, fun o' k h1 h2 h3 => ?_⟩
    · obtain ⟨n1, n2, n3, n4, n5, n6, n7⟩ := hK1
      have k3 : ∀ k, I2 (o + 4) k = K (o + 4) k := fun k => k2 _ _ (by omega) (by omega)
      refine ⟨?_, ?_, ?_, ?_, ?_, ?_, ?_⟩
      · rw [q_u2o (by omega), k3]; exact n1
      · rw [q_u2o (by omega), k3]; exact n2
      · rw [q_u2o (by omega), k3]; exact n3
      · rw [q_u2o (by omega), k3]; exact n4
      · rw [q_u2o (by omega), k3]; exact n5
      · rw [q_u2o (by omega), k3]; exact n6
      · rw [q_u2s, z_or]; rfl
    · rw [q_u2o (by omega), k2 _ _ h1 h2, hK2 _ _ h3, g2 _ _ h1 h2]
  have e8 : (u_h m + 1) - (u_h m + 1) / 8 * 8 = (u_h m + 1) % 8 := by omega
  have stay : q_nc h m x = u_c m → ∃ I', (lh_bd (f_Ha_seenBy a o (lh_u2 (lh_u2 (lh_u2 (lh_u2 I1 (o + 4) 1 (nI ((u_h m + 1) % 8))) (o + 4) 4 (nI (u_s m + 1))) (o + 4) 5 (u_b m + nI (q_bu h m x))) (o + 4) 3 (nI (u_o m - 1)))) fun r9 => some (nI (q_bu h m x), lh_u2 r9.2 (o + 4) 6 (nI (u_z m) ||| r9.1))) = some (nI (q_bu h m x), I') ∧ q_mc I' o (q_wk h m x) ∧ ∀ o' k, o' ≠ a + 7 → o' ≠ a + 15 → o' ≠ o + 4 → I' o' k = I o' k := by
    intro e
    refine fin _ ?_ (fun o' k h1 => by rw [q_u2o (by omega), q_u2o (by omega), q_u2o (by omega), q_u2o (by omega)])
    refine ⟨?_, ?_, ?_, ?_, ?_, ?_, ?_⟩ <;> (simp (disch := omega) only [q_u2o, q_u2s]) <;> first | rfl | assumption | skip
    · rw [m1]; show _ = nI (q_nc h m x); rw [e]
  cases e : q_ent h (u_c m) x with
  | none =>
    have e1 : q_nc h m x = u_c m := by unfold q_nc; rw [e]
    obtain ⟨I', k1, k2, k3⟩ := stay e1
    refine ⟨I', ?_, k2, k3⟩
    rw [← k1, f_Ha_walk, g1]
    simp (disch := omega) only [q_u2o, q_u2s, m1, m2, m3, m4, m5, m6, m7, e_canEnter c1 w hx w1, e, Option.isSome_none, ite_self, z_divL, z_mulL, e8, q_oil w4, z_sub, z_addL, z_bs, z_gd, z_b1, z_b0, z_10, z_01, eq_self, reduceCtorEq, ↓reduceIte, if_true, if_false, Nat.not_lt_zero, not_true_eq_false, not_false_eq_true, Bool.false_eq_true, Nat.le_refl, Nat.lt_irrefl]
  | some y =>
    obtain ⟨q1, q2, -, q4, -⟩ := q_ent_some w hx w1 e
    by_cases hb0 : q_bu h m x = 0
    · have e1 : q_nc h m x = y := by unfold q_nc; rw [e]; simp only; rw [if_pos hb0]
      obtain ⟨I', k1, k2, k3⟩ := fin (lh_u2 (lh_u2 (lh_u2 (lh_u2 (lh_u2 I1 (o + 4) 0 (nI y)) (o + 4) 1 (nI ((u_h m + 1) % 8))) (o + 4) 4 (nI (u_s m + 1))) (o + 4) 5 (u_b m + nI (q_bu h m x))) (o + 4) 3 (nI (u_o m - 1))) (by
        refine ⟨?_, ?_, ?_, ?_, ?_, ?_, ?_⟩ <;> (simp (disch := omega) only [q_u2o, q_u2s]) <;> first | rfl | assumption | skip
        · show _ = nI (q_nc h m x); rw [e1]) (fun o' k h1 => by rw [q_u2o (by omega), q_u2o (by omega), q_u2o (by omega), q_u2o (by omega), q_u2o (by omega)])
      refine ⟨I', ?_, k2, k3⟩
      rw [← k1, f_Ha_walk, g1]
      simp (disch := omega) only [q_u2o, q_u2s, m1, m2, m3, m4, m5, m6, m7, e_canY c1 w hx w1 e, q1, hb0, nI_0, z_divL, z_mulL, e8, q_oil w4, z_sub, z_addL, z_bs, z_gd, z_b1, z_b0, z_10, z_01, eq_self, reduceCtorEq, ↓reduceIte, if_true, if_false, Nat.not_lt_zero, not_true_eq_false, not_false_eq_true, Bool.false_eq_true, Nat.le_refl, Nat.lt_irrefl]
    · have e1 : q_nc h m x = u_c m := by unfold q_nc; rw [e]; simp only; rw [if_neg hb0]
      obtain ⟨I', k1, k2, k3⟩ := stay e1
      refine ⟨I', ?_, k2, k3⟩
      rw [← k1, f_Ha_walk, g1]
      simp (disch := omega) only [q_u2o, q_u2s, m1, m2, m3, m4, m5, m6, m7, hb0, z_eqR, z_divL, z_mulL, e8, q_oil w4, z_sub, z_addL, z_bs, z_gd, z_b1, z_b0, z_10, z_01, eq_self, reduceCtorEq, ↓reduceIte, if_true, if_false, Nat.not_lt_zero, not_true_eq_false, not_false_eq_true, Bool.false_eq_true, Nat.le_refl, Nat.lt_irrefl]
set_option maxHeartbeats 2000000 in
theorem m_steps (m : q_md J h) (w : q_wf h) {b0 n : Nat} {u : lh_Mt} {x : Int32} (hb : b0 ≤ 704) (hm : q_mm J b0 u) (hw : q_mw h n u) (hx : q_way x) : ∃ J', f_LM_steps (nI b0) x J = some (nI (q_bu h u x), J') ∧ q_mm J' b0 (q_wk h u x) ∧ ∀ o k, o ≠ 80 → o ≠ 81 → ¬ (o = 82 ∧ b0 ≤ k ∧ k < b0 + 7) → J' o k = J o k := by
  obtain ⟨J1, g1, g2⟩ := m_bumpsBy m w hb hm hw hx
  have hm1 : q_mm J1 b0 u := hm.keep (fun k _ => g2 _ _ (by omega) (by omega))
  have mJ1 : q_md J1 h := m.keep w (fun k _ => g2 _ _ (by omega) (by omega)) (fun k _ => g2 _ _ (by omega) (by omega)) (fun k _ => g2 _ _ (by omega) (by omega))
  obtain ⟨J2, g3, g4⟩ := m_cellBy mJ1 w hb hm1 hw hx
  have hm2 : q_mm J2 b0 u := hm1.keep (fun k _ => g4 _ _ (by omega) (by omega))
  have mJ2 : q_md J2 h := mJ1.keep w (fun k _ => g4 _ _ (by omega) (by omega)) (fun k _ => g4 _ _ (by omega) (by omega)) (fun k _ => g4 _ _ (by omega) (by omega))
  have hw1 := q_w1_mw w hw hx
  have hbu := q_bu_le w u x
  obtain ⟨m1, m2, m3, m4, m5, m6, m7⟩ := hm2
  obtain ⟨w1, w2, w3, w4, w5, w6⟩ := hw
  have e8 : (u_h u + 1) - (u_h u + 1) / 8 * 8 = (u_h u + 1) % 8 := by omega
  obtain ⟨K, hK⟩ : ∃ K, K = lh_u2 (lh_u2 (lh_u2 (lh_u2 (lh_u2 J2 (78 + 4) (b0 + 5) (nI (q_nc h u x))) (78 + 4) (b0 + 1) (u_b u + nI (q_bu h u x))) (78 + 4) (b0 + 2) (nI ((u_h u + 1) % 8))) (78 + 4) b0 (nI (u_s u + 1))) (78 + 4) (b0 + 4) (nI (u_o u - 1)) := ⟨_, rfl⟩
  have hKo : ∀ o k, o ≠ 82 → K o k = J2 o k := fun o k h1 => by rw [hK, q_u2o (by omega), q_u2o (by omega), q_u2o (by omega), q_u2o (by omega), q_u2o (by omega)]
  have hKk : ∀ k, ¬ (b0 ≤ k ∧ k < b0 + 7) → K 82 k = J2 82 k := fun k h1 => by rw [hK, q_u2o (by omega), q_u2o (by omega), q_u2o (by omega), q_u2o (by omega), q_u2o (by omega)]
  have hmK : q_mm K b0 (q_w1 h u x) := by
    rw [hK]
    refine ⟨?_, ?_, ?_, ?_, ?_, ?_, ?_⟩ <;> (simp (disch := omega) only [q_u2o, q_u2s]) <;> first | rfl | assumption
  have mK : q_md K h := mJ2.keep w (fun k _ => hKo _ _ (by omega)) (fun k _ => hKo _ _ (by omega)) (fun k _ => hKo _ _ (by omega))
  obtain ⟨J3, g5, g6⟩ := m_seenNow mK w hb hmK hw1
  obtain ⟨n1, n2, n3, n4, n5, n6, n7⟩ := hmK
  have g6' : ∀ k, J3 (78 + 4) k = K (78 + 4) k := fun k => g6 _ _ (by omega) (by omega)
  refine ⟨lh_u2 J3 (78 + 4) (b0 + 6) (nI (u_z u) ||| nI (q_sm h (q_w1 h u x) (q_P h))), ?_, ?_, fun o k h1 h2 h3 => ?_⟩
  · have eK : ∀ (A : Option (Int32 × lh_II)), (lh_bd (f_LM_seenNow (nI b0) K) fun r => some (nI (q_bu h u x), lh_u2 r.2 (78 + 4) (b0 + 6) (nI (u_z u) ||| r.1))) = A → some (nI (q_bu h u x), lh_u2 J3 (78 + 4) (b0 + 6) (nI (u_z u) ||| nI (q_sm h (q_w1 h u x) (q_P h)))) = A := fun A hA => by rw [← hA, g5, q_bs]
    refine (eK _ ?_).symm
    have o0 : nI (u_o u) - 0 = nI (u_o u) := by rw [show (0 : Int32) = nI 0 from rfl, z_sub (Nat.zero_le _)]; rfl
    by_cases ho : u_o u = 0
    · rw [f_LM_steps, g1, q_bs, g3, q_bs, hK]
      simp (disch := omega) only [q_u2o, q_u2s, m1, m2, m3, m4, m5, m6, m7, o0, z_add0, z_addL, z_divL, z_mulL, e8, z_sub, z_cl, z_ix, z_gd, z_leR, show u_o u ≤ 0 by omega, z_bs, z_gd, z_b1, z_b0, z_10, z_01, eq_self, reduceCtorEq, ↓reduceIte, if_true, if_false, Nat.not_lt_zero, not_true_eq_false, not_false_eq_true, Bool.false_eq_true, Nat.le_refl, Nat.lt_irrefl]
      rw [ho]
    · rw [f_LM_steps, g1, q_bs, g3, q_bs, hK]
      simp (disch := omega) only [q_u2o, q_u2s, m1, m2, m3, m4, m5, m6, m7, z_add0, z_addL, z_divL, z_mulL, e8, z_sub, z_subL, z_cl, z_ix, z_gd, z_leR, show ¬ u_o u ≤ 0 by omega, z_bs, z_gd, z_b1, z_b0, z_10, z_01, eq_self, reduceCtorEq, ↓reduceIte, if_true, if_false, Nat.not_lt_zero, not_true_eq_false, not_false_eq_true, Bool.false_eq_true, Nat.le_refl, Nat.lt_irrefl]
  · refine ⟨?_, ?_, ?_, ?_, ?_, ?_, ?_⟩
    · rw [q_u2o (by omega), g6']; exact n1
    · rw [q_u2o (by omega), g6']; exact n2
    · rw [q_u2o (by omega), g6']; exact n3
    · rw [q_u2o (by omega), g6']; exact n4
    · rw [q_u2o (by omega), g6']; exact n5
    · rw [q_u2o (by omega), g6']; exact n6
    · rw [q_u2s, z_or]; rfl
  · rw [q_u2o (by omega), g6 _ _ h1 h2]
    have h9 : J2 o k = J o k := by rw [g4 _ _ h1 h2, g2 _ _ h1 h2]
    by_cases e : o = 82
    · subst e; rw [hKk _ (by omega)]; exact h9
    · rw [hKo _ _ e]; exact h9
end Q47
