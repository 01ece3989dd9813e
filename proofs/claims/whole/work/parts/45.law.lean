/-! the law: both sides work it out alike -/
def q_st (I : lh_II) (o : Nat) : List Int32 → Prop
  | [] => True
  | x :: s => I o s.length = x ∧ q_st I o s
theorem q_st.up {I : lh_II} {o k : Nat} {y : Int32} : ∀ {s : List Int32}, q_st I o s → s.length ≤ k → q_st (lh_u2 I o k y) o s
  | [], _, _ => trivial
  | x :: s, h, hk => by
    have hl : s.length < k := hk
    refine ⟨?_, q_st.up h.2 (by omega)⟩
    rw [q_u2o (by omega)]
    exact h.1
theorem q_st.push {I : lh_II} {o : Nat} {y : Int32} {s : List Int32} (h : q_st I o s) : q_st (lh_u2 I o s.length y) o (y :: s) := ⟨q_u2s, h.up (Nat.le_refl _)⟩
theorem q_ck_cons (q : Nat × Nat) (ws : List (Nat × Nat)) (d : Nat) : q_ck (q :: ws) d = if q.1 = 1 then decide (q.2 ≤ 9999) && decide (d < 32) && q_ck ws (d + 1) else if q.1 = 2 then decide (q.2 < 4) && decide (d < 32) && q_ck ws (d + 1) else if q.1 = 3 then decide (1 ≤ d) && q_ck ws d else decide (4 ≤ q.1 ∧ q.1 ≤ 10) && decide (2 ≤ d) && q_ck ws (d - 1) := rfl
theorem q_ev_cons (f : Nat → Int32) (q : Nat × Nat) (ws : List (Nat × Nat)) (s : List Int32) : q_ev f (q :: ws) s = if q.1 = 1 then q_ev f ws (nI q.2 :: s) else if q.1 = 2 then q_ev f ws (f q.2 :: s) else if q.1 = 3 then q_ev f ws ((if s.headD 0 = 0 then 1 else 0) :: s.tail) else q_ev f ws (q_jo q.1 (s.tail.headD 0) (s.headD 0) :: s.tail.tail) := rfl
theorem q_jo_La (o : Nat) (x y : Int32) (v : Nat) (h1 : 4 ≤ o) (h2 : o ≤ 10) : f_La_joined (-(q_cw (o, v))) x y = some (q_jo o x y) ∧ ((0 : Int32) ≤ q_cw (o, v)) = False ∧ f_La_isFact (-(q_cw (o, v))) = some 0 ∧ (q_cw (o, v) = -20) = False := by
  have h : o = 4 ∨ o = 5 ∨ o = 6 ∨ o = 7 ∨ o = 8 ∨ o = 9 ∨ o = 10 := by omega
  rcases h with rfl | rfl | rfl | rfl | rfl | rfl | rfl
  · have e : q_cw (4, v) = -33 := rfl
    have e2 : -(-33 : Int32) = 33 := rfl
    rw [e, e2]
    refine ⟨?_, by decide, rfl, by decide⟩
    show f_La_joined 33 x y = some (x + y)
    rw [f_La_joined]
    simp (decide := true) only [if_true, if_false]
    all_goals (first | done | ((repeat' split) <;> first | rfl | contradiction))
  · have e : q_cw (5, v) = -34 := rfl
    have e2 : -(-34 : Int32) = 34 := rfl
    rw [e, e2]
    refine ⟨?_, by decide, rfl, by decide⟩
    show f_La_joined 34 x y = some (x - y)
    rw [f_La_joined]
    simp (decide := true) only [if_true, if_false]
    all_goals (first | done | ((repeat' split) <;> first | rfl | contradiction))
  · have e : q_cw (6, v) = -35 := rfl
    have e2 : -(-35 : Int32) = 35 := rfl
    rw [e, e2]
    refine ⟨?_, by decide, rfl, by decide⟩
    show f_La_joined 35 x y = some (x * y)
    rw [f_La_joined]
    simp (decide := true) only [if_true, if_false]
    all_goals (first | done | ((repeat' split) <;> first | rfl | contradiction))
  · have e : q_cw (7, v) = -31 := rfl
    have e2 : -(-31 : Int32) = 31 := rfl
    rw [e, e2]
    refine ⟨?_, by decide, rfl, by decide⟩
    show f_La_joined 31 x y = some (if y ≤ x then 0 else 1)
    rw [f_La_joined]
    simp (decide := true) only [if_true, if_false]
    all_goals (first | done | ((repeat' split) <;> first | rfl | contradiction))
  · have e : q_cw (8, v) = -32 := rfl
    have e2 : -(-32 : Int32) = 32 := rfl
    rw [e, e2]
    refine ⟨?_, by decide, rfl, by decide⟩
    show f_La_joined 32 x y = some (if x = y then 1 else 0)
    rw [f_La_joined]
    simp (decide := true) only [if_true, if_false]
    all_goals (first | done | ((repeat' split) <;> first | rfl | contradiction))
  · have e : q_cw (9, v) = -21 := rfl
    have e2 : -(-21 : Int32) = 21 := rfl
    rw [e, e2]
    refine ⟨?_, by decide, rfl, by decide⟩
    show f_La_joined 21 x y = some (if x = 0 then 0 else if y = 0 then 0 else 1)
    rw [f_La_joined]
    simp (decide := true) only [if_true, if_false]
    all_goals (first | done | ((repeat' split) <;> first | rfl | contradiction))
  · have e : q_cw (10, v) = -22 := rfl
    have e2 : -(-22 : Int32) = 22 := rfl
    rw [e, e2]
    refine ⟨?_, by decide, rfl, by decide⟩
    show f_La_joined 22 x y = some (if x = 0 then if y = 0 then 0 else 1 else 1)
    rw [f_La_joined]
    simp (decide := true) only [if_true, if_false]
    all_goals (first | done | ((repeat' split) <;> first | rfl | contradiction))
theorem q_jo_LM (o : Nat) (x y : Int32) (h1 : 4 ≤ o) (h2 : o ≤ 10) : f_LM_both (nI o) x y = some (q_jo o x y) := by
  have h : o = 4 ∨ o = 5 ∨ o = 6 ∨ o = 7 ∨ o = 8 ∨ o = 9 ∨ o = 10 := by omega
  rcases h with rfl | rfl | rfl | rfl | rfl | rfl | rfl
  · show f_LM_both 4 x y = some (x + y)
    rw [f_LM_both]
    simp (decide := true) only [if_true, if_false]
    all_goals (first | done | ((repeat' split) <;> first | rfl | contradiction))
  · show f_LM_both 5 x y = some (x - y)
    rw [f_LM_both]
    simp (decide := true) only [if_true, if_false]
    all_goals (first | done | ((repeat' split) <;> first | rfl | contradiction))
  · show f_LM_both 6 x y = some (x * y)
    rw [f_LM_both]
    simp (decide := true) only [if_true, if_false]
    all_goals (first | done | ((repeat' split) <;> first | rfl | contradiction))
  · show f_LM_both 7 x y = some (if y ≤ x then 0 else 1)
    rw [f_LM_both]
    simp (decide := true) only [if_true, if_false]
    all_goals (first | done | ((repeat' split) <;> first | rfl | contradiction))
  · show f_LM_both 8 x y = some (if x = y then 1 else 0)
    rw [f_LM_both]
    simp (decide := true) only [if_true, if_false]
    all_goals (first | done | ((repeat' split) <;> first | rfl | contradiction))
  · show f_LM_both 9 x y = some (if x = 0 then 0 else if y = 0 then 0 else 1)
    rw [f_LM_both]
    simp (decide := true) only [if_true, if_false]
    all_goals (first | done | ((repeat' split) <;> first | rfl | contradiction))
  · show f_LM_both 10 x y = some (if x = 0 then if y = 0 then 0 else 1 else 1)
    rw [f_LM_both]
    simp (decide := true) only [if_true, if_false]
    all_goals (first | done | ((repeat' split) <;> first | rfl | contradiction))
theorem q_fact : ∀ k, k < 4 → (0 ≤ q_cw (2, k)) = False ∧ (q_cw (2, k) < 0) = True ∧ f_La_isFact (-(q_cw (2, k))) = some 1 ∧ ∀ (d l r u : Nat), f_La_factOf (-(q_cw (2, k))) (nI d) (nI l) (nI r) (nI u) = some (q_fa d l r u k) := by
  intro k hk
  have h : k = 0 ∨ k = 1 ∨ k = 2 ∨ k = 3 := by omega
  rcases h with rfl | rfl | rfl | rfl <;> exact ⟨by simp only [q_cw]; decide, by simp only [q_cw]; decide, rfl, fun _ _ _ _ => rfl⟩
theorem q_getD_cons {q : Nat × Nat} {ws : List (Nat × Nat)} (k : Nat) : (q :: ws).getD (k + 1) (0, 0) = ws.getD k (0, 0) := rfl
set_option maxHeartbeats 1000000 in
theorem e_law4 {a d l r u : Nat} : ∀ (ws : List (Nat × Nat)) (pre n : Nat) (s : List Int32) (I : lh_II), (∀ i, i < ws.length → I (a + 2 + 4) (pre + i) = q_cw (ws.getD i (0, 0))) → I (a + 1 + 4) 2 = nI (pre + ws.length) → pre + ws.length ≤ 1000 → q_ck ws s.length = true → s.length ≤ 32 → q_st I (a + 3 + 4) s → ws.length < n → ∃ I', f_La_dayShown_4 a (nI d) (nI l) (nI r) (nI u) n (nI s.length) (nI pre) I = some (nI (q_ev (q_fa d l r u) ws s).length, I') ∧ (q_ev (q_fa d l r u) ws s).length = 1 ∧ q_st I' (a + 3 + 4) (q_ev (q_fa d l r u) ws s) ∧ ∀ o k, o ≠ a + 7 → I' o k = I o k
  | [], pre, n + 1, s, I, hc, hl, hp, hk, h32, hs, hn => by
    have hl1 : s.length = 1 := by simpa [q_ck] using hk
    have hl' : I (a + 1 + 4) 2 = nI pre := hl
    refine ⟨I, ?_, hl1, hs, fun _ _ _ => rfl⟩
    rw [f_La_dayShown_4, hl', if_pos (nI_le (Nat.le_refl _) (by simp at hp; omega))]
    rfl
  | q :: ws, pre, n + 1, s, I, hc, hl, hp, hk, h32, hs, hn => by
    have hlen : (q :: ws).length = ws.length + 1 := rfl
    rw [hlen] at hl hp hn
    have e0 : I (a + 2 + 4) pre = q_cw q := hc 0 (by rw [hlen]; omega)
    have hc' : ∀ i, i < ws.length → I (a + 2 + 4) (pre + 1 + i) = q_cw (ws.getD i (0, 0)) := fun i hi => by
      have := hc (i + 1) (by rw [hlen]; omega)
      rw [q_getD_cons] at this
      rw [← this]; congr 1; omega
    have hl2 : I (a + 1 + 4) 2 = nI (pre + 1 + ws.length) := by rw [hl]; congr 1; omega
    have go : ∀ (s' : List Int32) (y : Int32) (k : Nat), q_ck ws s'.length = true → s'.length ≤ 32 → q_st (lh_u2 I (a + 3 + 4) k y) (a + 3 + 4) s' → ∃ I', f_La_dayShown_4 a (nI d) (nI l) (nI r) (nI u) n (nI s'.length) (nI (pre + 1)) (lh_u2 I (a + 3 + 4) k y) = some (nI (q_ev (q_fa d l r u) ws s').length, I') ∧ (q_ev (q_fa d l r u) ws s').length = 1 ∧ q_st I' (a + 3 + 4) (q_ev (q_fa d l r u) ws s') ∧ ∀ o k, o ≠ a + 7 → I' o k = I o k := by
      intro s' y k h1 h2 h3
      obtain ⟨I', g1, g2, g3, g4⟩ := e_law4 ws (pre + 1) n s' (lh_u2 I (a + 3 + 4) k y) (fun i hi => by rw [q_u2o (by omega)]; exact hc' i hi) (by rw [q_u2o (by omega)]; exact hl2) (by omega) h1 h2 h3 (by omega)
      exact ⟨I', g1, g2, g3, fun o k' ho => by rw [g4 o k' ho, q_u2o (by omega)]⟩
    rw [q_ck_cons] at hk
    rw [q_ev_cons]
    obtain ⟨op, v⟩ := q
    simp only at hk ⊢
    simp (disch := omega) only [f_La_dayShown_4, hl, e0, show ¬ pre + (ws.length + 1) ≤ pre by omega, show ¬ 1000 ≤ pre by omega, z_le, z_lt, z_eq, z_leL, z_leR, z_ltL, z_ltR, z_eqR, z_eqL, z_m1, z_m1s, z_m1le, z_m1lt, z_m1lt0, z_m1le0, z_0lem1, z_m1lek, z_add, z_addL, z_addR, z_mulR, z_sub, z_subL, z_gd, z_ix, z_cl, z_or0, z_add0, z_bs, z_gd, z_b1, z_b0, z_10, z_01, eq_self, reduceCtorEq, ↓reduceIte, if_true, if_false, Nat.not_lt_zero, not_true_eq_false, not_false_eq_true, Bool.false_eq_true, Nat.le_refl, Nat.lt_irrefl]
    by_cases o1 : op = 1
    · subst o1
      simp only [if_true, Bool.and_eq_true, decide_eq_true_eq] at hk
      simp (disch := omega) only [q_cw, show ¬ 32 ≤ s.length by omega, Nat.zero_le, z_le, z_lt, z_eq, z_leL, z_leR, z_ltL, z_ltR, z_eqR, z_eqL, z_m1, z_m1s, z_m1le, z_m1lt, z_m1lt0, z_m1le0, z_0lem1, z_m1lek, z_add, z_addL, z_addR, z_mulR, z_sub, z_subL, z_gd, z_ix, z_cl, z_or0, z_add0, z_bs, z_gd, z_b1, z_b0, z_10, z_01, eq_self, reduceCtorEq, ↓reduceIte, if_true, if_false, Nat.not_lt_zero, not_true_eq_false, not_false_eq_true, Bool.false_eq_true, Nat.le_refl, Nat.lt_irrefl]
      exact go (nI v :: s) (nI v) s.length hk.2 hk.1.2 hs.push
    by_cases o2 : op = 2
    · subst o2
      simp only [o1, if_true, if_false, Bool.and_eq_true, decide_eq_true_eq] at hk
      obtain ⟨g1, g2, g3, g4⟩ := q_fact v hk.1.1
      simp (disch := omega) only [g1, g2, g3, g4, show ¬ 32 ≤ s.length by omega, Nat.zero_le, show ¬ (2 : Nat) = 1 by omega, z_le, z_lt, z_eq, z_leL, z_leR, z_ltL, z_ltR, z_eqR, z_eqL, z_m1, z_m1s, z_m1le, z_m1lt, z_m1lt0, z_m1le0, z_0lem1, z_m1lek, z_add, z_addL, z_addR, z_mulR, z_sub, z_subL, z_gd, z_ix, z_cl, z_or0, z_add0, z_bs, z_gd, z_b1, z_b0, z_10, z_01, eq_self, reduceCtorEq, ↓reduceIte, if_true, if_false, Nat.not_lt_zero, not_true_eq_false, not_false_eq_true, Bool.false_eq_true, Nat.le_refl, Nat.lt_irrefl]
      exact go (q_fa d l r u v :: s) (q_fa d l r u v) s.length hk.2 hk.1.2 hs.push
    by_cases o3 : op = 3
    · subst o3
      simp only [o1, o2, if_true, if_false, Bool.and_eq_true, decide_eq_true_eq] at hk
      obtain ⟨x, s, rfl⟩ : ∃ x s', s = x :: s' := by
        cases s with
        | nil => simp at hk
        | cons x s => exact ⟨x, s, rfl⟩
      have hx : I (a + 3 + 4) s.length = x := hs.1
      have hsl : (x :: s).length = s.length + 1 := rfl
      rw [hsl] at h32 hk ⊢
      have t1 : ((0 : Int32) ≤ q_cw (3, v)) = False := (by decide : ((0 : Int32) ≤ -20) = False)
      have t2 : f_La_isFact (-(q_cw (3, v))) = some 0 := rfl
      have t3 : (q_cw (3, v) = -20) = True := (by decide : ((-20 : Int32) = -20) = True)
      simp (disch := omega) only [t1, t2, t3, hx, show ¬ s.length + 1 < 1 by omega, show ¬ (3 : Nat) = 1 by omega, show ¬ (3 : Nat) = 2 by omega, Nat.add_sub_cancel, List.headD_cons, List.tail_cons, z_le, z_lt, z_eq, z_leL, z_leR, z_ltL, z_ltR, z_eqR, z_eqL, z_m1, z_m1s, z_m1le, z_m1lt, z_m1lt0, z_m1le0, z_0lem1, z_m1lek, z_add, z_addL, z_addR, z_mulR, z_sub, z_subL, z_gd, z_ix, z_cl, z_or0, z_add0, z_bs, z_gd, z_b1, z_b0, z_10, z_01, eq_self, reduceCtorEq, ↓reduceIte, if_true, if_false, Nat.not_lt_zero, not_true_eq_false, not_false_eq_true, Bool.false_eq_true, Nat.le_refl, Nat.lt_irrefl]
      by_cases hx0 : x = 0
      · simp only [hx0, if_true]
        exact go (1 :: s) 1 s.length hk.2 h32 hs.2.push
      · simp only [hx0, if_false]
        exact go (0 :: s) 0 s.length hk.2 h32 hs.2.push
    · simp only [o1, o2, o3, if_false, Bool.and_eq_true, decide_eq_true_eq] at hk
      obtain ⟨y, x, s, rfl⟩ : ∃ y x s', s = y :: x :: s' := by
        cases s with
        | nil => simp at hk
        | cons y s =>
          cases s with
          | nil => simp at hk
          | cons x s => exact ⟨y, x, s, rfl⟩
      have hy : I (a + 3 + 4) (s.length + 1) = y := hs.1
      have hx : I (a + 3 + 4) s.length = x := hs.2.1
      have hsl : (y :: x :: s).length = s.length + 2 := rfl
      rw [hsl] at h32 hk ⊢
      obtain ⟨t0, t1, t2, t3⟩ := q_jo_La op x y v hk.1.1.1 hk.1.1.2
      have e2 : nI (s.length + 2) + (-1) = nI (s.length + 1) := pk_m1 (s.length + 1)
      simp (disch := omega) only [t0, t1, t2, t3, hx, hy, e2, o1, o2, o3, show ¬ s.length + 2 < 2 by omega, Nat.add_sub_cancel, List.headD_cons, List.tail_cons, z_le, z_lt, z_eq, z_leL, z_leR, z_ltL, z_ltR, z_eqR, z_eqL, z_m1, z_m1s, z_m1le, z_m1lt, z_m1lt0, z_m1le0, z_0lem1, z_m1lek, z_add, z_addL, z_addR, z_mulR, z_sub, z_subL, z_gd, z_ix, z_cl, z_or0, z_add0, z_bs, z_gd, z_b1, z_b0, z_10, z_01, eq_self, reduceCtorEq, ↓reduceIte, if_true, if_false, Nat.not_lt_zero, not_true_eq_false, not_false_eq_true, Bool.false_eq_true, Nat.le_refl, Nat.lt_irrefl]
      exact go (q_jo op x y :: s) (q_jo op x y) s.length hk.2 (by simp only [List.length_cons]; omega) hs.2.2.push
  | [], _, 0, _, _, _, _, _, _, _, _, hn => absurd hn (by omega)
  | _ :: _, _, 0, _, _, _, _, _, _, _, _, hn => absurd hn (by omega)
theorem q_top {s : List Int32} (h : s.length = 1) : ∃ x, s = [x] := by
  cases s with
  | nil => simp at h
  | cons x s =>
    cases s with
    | nil => exact ⟨x, rfl⟩
    | cons y s => simp at h
theorem q_sd_lt (h : lh_H) (d l r u : Nat) : q_sd h d l r u < 4 := by
  unfold q_sd
  simp only
  split
  · omega
  · split
    · omega
    · next h1 h2 =>
      obtain ⟨j, hj, e⟩ := nI_of h1
      rw [e] at h2 ⊢
      simp (disch := omega) only [z_ltL] at h2
      rw [z_cl hj]
      omega
theorem q_sd_cl (x : Int32) : (if (0 : Int32) < (if x < 3 then x else 3) then (if x < 3 then x else 3) else 0) = nI (if x < 0 then 0 else if 3 < x then 3 else x.toNatClampNeg) := by
  by_cases h0 : x < 0
  · have h1 : x < 3 := fa_trans h0 (by decide)
    have h2 : ¬ (0 : Int32) < x := (fa_of_lt h0).2.2.1
    rw [if_pos h1, if_neg h2, if_pos h0]; rfl
  · obtain ⟨j, hj, rfl⟩ := nI_of h0
    rw [if_neg h0]
    simp (disch := omega) only [z_ltL, z_ltR, z_cl]
    by_cases h1 : j < 3
    · rw [if_pos h1, if_neg (show ¬ 3 < j by omega)]
      simp (disch := omega) only [z_ltL]
      by_cases h2 : 0 < j
      · rw [if_pos h2]
      · rw [if_neg h2, show j = 0 by omega]; rfl
    · rw [if_neg h1, if_pos (by decide)]
      by_cases h2 : 3 < j
      · rw [if_pos h2]; rfl
      · rw [if_neg h2, show j = 3 by omega]; rfl
theorem q_sd_md (x : Int32) : (if (0 : Int32) ≤ x then if x ≤ 3 then x else 3 else 0) = nI (if x < 0 then 0 else if 3 < x then 3 else x.toNatClampNeg) := by
  by_cases h0 : x < 0
  · rw [if_neg (fa_of_lt h0).2.1, if_pos h0]; rfl
  · obtain ⟨j, hj, rfl⟩ := nI_of h0
    rw [if_neg h0]
    simp (disch := omega) only [z_leL, z_leR, z_ltL, z_cl, Nat.zero_le, if_true]
    by_cases h1 : j ≤ 3
    · rw [if_pos h1, if_neg (by omega)]
    · rw [if_neg h1, if_pos (by omega)]; rfl
theorem e_dayShown {a : Nat} {I : lh_II} {h : lh_H} (c : q_cl a I h) (w : q_wf h) (d l r u : Nat) : ∃ I', f_La_dayShown a (nI d) (nI l) (nI r) (nI u) I = some (nI (q_sd h d l r u), I') ∧ ∀ o k, o ≠ a + 7 → I' o k = I o k := by
  have hl := w.ln
  obtain ⟨I', g1, g2, g3, g4⟩ := e_law4 (a := a) (d := d) (l := l) (r := r) (u := u) (q_lw h) 0 lh_fuel [] I (fun i hi => by rw [Nat.zero_add]; exact c.2.2.2.2.2.2.2 i hi) (by rw [Nat.zero_add]; exact c.2.2.2.2.2.2.1) (by omega) w.ck (by simp) trivial (by unfold lh_fuel; omega)
  have g1' : f_La_dayShown_4 a (nI d) (nI l) (nI r) (nI u) lh_fuel 0 0 I = _ := g1
  refine ⟨I', ?_, g4⟩
  obtain ⟨x, hx⟩ := q_top g2
  rw [hx] at g3 g1'
  have g5 : I' (a + 3 + 4) 0 = x := g3.1
  rw [f_La_dayShown, g1', q_bs]
  have e1 : q_sd h d l r u = (if x < 0 then 0 else if 3 < x then 3 else x.toNatClampNeg) := by unfold q_sd; rw [hx]; rfl
  rw [e1, ← q_sd_cl]
  have e9 : nI [x].length = 1 := rfl
  have e10 : ((1 : Int32) - 1).toNatClampNeg = 0 := by decide
  have e11 : ¬ (1 : Int32) ≤ 0 := by decide
  have e12 : lh_ix ((1 : Int32) - 1) 32 = true := by decide
  simp only [e9, e10, e11, e12, g5, z_gd, if_false]
set_option maxHeartbeats 1000000 in
theorem m_law4 {f : Nat → Int32} : ∀ (ws : List (Nat × Nat)) (pre n : Nat) (s : List Int32) (J : lh_II), (∀ i, i < ws.length → J (72 + 4) (pre + i) = nI (ws.getD i (0, 0)).1 ∧ J (73 + 4) (pre + i) = nI (ws.getD i (0, 0)).2) → J (72 + 4) (pre + ws.length) = 0 → pre + ws.length ≤ 1000 → q_ck ws s.length = true → s.length ≤ 32 → (∀ k, k < 4 → J (76 + 4) k = f k) → q_st J (77 + 4) s → ws.length < n → ∃ J', f_LM_worthAt_4 n (nI s.length) (nI pre) J = some J' ∧ (q_ev f ws s).length = 1 ∧ q_st J' (77 + 4) (q_ev f ws s) ∧ ∀ o k, o ≠ 81 → J' o k = J o k
  | [], pre, n + 1, s, I, hc, hl, hp, hk, h32, hf, hs, hn => by
    have hl1 : s.length = 1 := by simpa [q_ck] using hk
    have hl' : I (72 + 4) pre = 0 := hl
    have hp' : pre ≤ 1000 := by simpa using hp
    refine ⟨I, ?_, hl1, hs, fun _ _ _ => rfl⟩
    simp (disch := omega) only [f_LM_worthAt_4, hl', z_le, z_lt, z_eq, z_leL, z_leR, z_ltL, z_ltR, z_eqR, z_eqL, z_m1, z_m1s, z_m1le, z_m1lt, z_m1lt0, z_m1le0, z_0lem1, z_m1lek, z_add, z_addL, z_addR, z_mulR, z_sub, z_subL, z_gd, z_ix, z_cl, z_or0, z_add0, z_bs, z_gd, z_b1, z_b0, z_10, z_01, eq_self, reduceCtorEq, ↓reduceIte, if_true, if_false, Nat.not_lt_zero, not_true_eq_false, not_false_eq_true, Bool.false_eq_true, Nat.le_refl, Nat.lt_irrefl]
  | q :: ws, pre, n + 1, s, I, hc, hl, hp, hk, h32, hf, hs, hn => by
    have hlen : (q :: ws).length = ws.length + 1 := rfl
    rw [hlen] at hl hp hn
    have e0 : I (72 + 4) pre = nI q.1 := (hc 0 (by rw [hlen]; omega)).1
    have e0' : I (73 + 4) pre = nI q.2 := (hc 0 (by rw [hlen]; omega)).2
    have hc' : ∀ i, i < ws.length → I (72 + 4) (pre + 1 + i) = nI (ws.getD i (0, 0)).1 ∧ I (73 + 4) (pre + 1 + i) = nI (ws.getD i (0, 0)).2 := fun i hi => by
      have := hc (i + 1) (by rw [hlen]; omega)
      rw [q_getD_cons] at this
      rw [← this.1, ← this.2, show pre + 1 + i = pre + (i + 1) by omega]
      exact ⟨rfl, rfl⟩
    have hl2 : I (72 + 4) (pre + 1 + ws.length) = 0 := by rw [← hl]; congr 1; omega
    have go : ∀ (s' : List Int32) (y : Int32) (k : Nat), q_ck ws s'.length = true → s'.length ≤ 32 → q_st (lh_u2 I (77 + 4) k y) (77 + 4) s' → ∃ J', f_LM_worthAt_4 n (nI s'.length) (nI (pre + 1)) (lh_u2 I (77 + 4) k y) = some J' ∧ (q_ev f ws s').length = 1 ∧ q_st J' (77 + 4) (q_ev f ws s') ∧ ∀ o k, o ≠ 81 → J' o k = I o k := by
      intro s' y k h1 h2 h3
      obtain ⟨I', g1, g2, g3, g4⟩ := m_law4 (f := f) ws (pre + 1) n s' (lh_u2 I (77 + 4) k y) (fun i hi => by rw [q_u2o (by omega), q_u2o (by omega)]; exact hc' i hi) (by rw [q_u2o (by omega)]; exact hl2) (by omega) h1 h2 (fun k hk => by rw [q_u2o (by omega)]; exact hf k hk) h3 (by omega)
      exact ⟨I', g1, g2, g3, fun o k' ho => by rw [g4 o k' ho, q_u2o (by omega)]⟩
    rw [q_ck_cons] at hk
    rw [q_ev_cons]
    obtain ⟨op, v⟩ := q
    simp only at hk e0 e0' ⊢
    by_cases o1 : op = 1
    · subst o1
      simp only [if_true, Bool.and_eq_true, decide_eq_true_eq] at hk
      simp (disch := omega) only [f_LM_worthAt_4, e0, e0', show ¬ (1 : Nat) = 0 by omega, z_le, z_lt, z_eq, z_leL, z_leR, z_ltL, z_ltR, z_eqR, z_eqL, z_m1, z_m1s, z_m1le, z_m1lt, z_m1lt0, z_m1le0, z_0lem1, z_m1lek, z_add, z_addL, z_addR, z_mulR, z_sub, z_subL, z_gd, z_ix, z_cl, z_or0, z_add0, z_bs, z_gd, z_b1, z_b0, z_10, z_01, eq_self, reduceCtorEq, ↓reduceIte, if_true, if_false, Nat.not_lt_zero, not_true_eq_false, not_false_eq_true, Bool.false_eq_true, Nat.le_refl, Nat.lt_irrefl]
      exact go (nI v :: s) (nI v) s.length hk.2 hk.1.2 hs.push
    by_cases o2 : op = 2
    · subst o2
      simp only [o1, if_true, if_false, Bool.and_eq_true, decide_eq_true_eq] at hk
      simp (disch := omega) only [f_LM_worthAt_4, e0, e0', hf v hk.1.1, show ¬ (2 : Nat) = 0 by omega, show ¬ (2 : Nat) = 1 by omega, z_le, z_lt, z_eq, z_leL, z_leR, z_ltL, z_ltR, z_eqR, z_eqL, z_m1, z_m1s, z_m1le, z_m1lt, z_m1lt0, z_m1le0, z_0lem1, z_m1lek, z_add, z_addL, z_addR, z_mulR, z_sub, z_subL, z_gd, z_ix, z_cl, z_or0, z_add0, z_bs, z_gd, z_b1, z_b0, z_10, z_01, eq_self, reduceCtorEq, ↓reduceIte, if_true, if_false, Nat.not_lt_zero, not_true_eq_false, not_false_eq_true, Bool.false_eq_true, Nat.le_refl, Nat.lt_irrefl]
      exact go (f v :: s) (f v) s.length hk.2 hk.1.2 hs.push
    by_cases o3 : op = 3
    · subst o3
      simp only [o1, o2, if_true, if_false, Bool.and_eq_true, decide_eq_true_eq] at hk
      obtain ⟨x, s, rfl⟩ : ∃ x s', s = x :: s' := by
        cases s with
        | nil => simp at hk
        | cons x s => exact ⟨x, s, rfl⟩
      have hx : I (77 + 4) s.length = x := hs.1
      have hsl : (x :: s).length = s.length + 1 := rfl
      rw [hsl] at h32 hk ⊢
      simp (disch := omega) only [f_LM_worthAt_4, e0, e0', hx, show ¬ (3 : Nat) = 0 by omega, show ¬ (3 : Nat) = 1 by omega, show ¬ (3 : Nat) = 2 by omega, Nat.add_sub_cancel, List.headD_cons, List.tail_cons, z_le, z_lt, z_eq, z_leL, z_leR, z_ltL, z_ltR, z_eqR, z_eqL, z_m1, z_m1s, z_m1le, z_m1lt, z_m1lt0, z_m1le0, z_0lem1, z_m1lek, z_add, z_addL, z_addR, z_mulR, z_sub, z_subL, z_gd, z_ix, z_cl, z_or0, z_add0, z_bs, z_gd, z_b1, z_b0, z_10, z_01, eq_self, reduceCtorEq, ↓reduceIte, if_true, if_false, Nat.not_lt_zero, not_true_eq_false, not_false_eq_true, Bool.false_eq_true, Nat.le_refl, Nat.lt_irrefl]
      by_cases hx0 : x = 0
      · simp only [hx0, if_true]
        exact go (1 :: s) 1 s.length hk.2 h32 hs.2.push
      · simp only [hx0, if_false]
        exact go (0 :: s) 0 s.length hk.2 h32 hs.2.push
    · simp only [o1, o2, o3, if_false, Bool.and_eq_true, decide_eq_true_eq] at hk
      obtain ⟨y, x, s, rfl⟩ : ∃ y x s', s = y :: x :: s' := by
        cases s with
        | nil => simp at hk
        | cons y s =>
          cases s with
          | nil => simp at hk
          | cons x s => exact ⟨y, x, s, rfl⟩
      have hy : I (77 + 4) (s.length + 1) = y := hs.1
      have hx : I (77 + 4) s.length = x := hs.2.1
      have hsl : (y :: x :: s).length = s.length + 2 := rfl
      rw [hsl] at h32 hk ⊢
      have t0 := q_jo_LM op x y hk.1.1.1 hk.1.1.2
      have e2 : nI (s.length + 2) + (-1) = nI (s.length + 1) := pk_m1 (s.length + 1)
      simp (disch := omega) only [f_LM_worthAt_4, e0, e0', t0, hx, hy, e2, o1, o2, o3, show ¬ op = 0 by omega, Nat.add_sub_cancel, List.headD_cons, List.tail_cons, z_le, z_lt, z_eq, z_leL, z_leR, z_ltL, z_ltR, z_eqR, z_eqL, z_m1, z_m1s, z_m1le, z_m1lt, z_m1lt0, z_m1le0, z_0lem1, z_m1lek, z_add, z_addL, z_addR, z_mulR, z_sub, z_subL, z_gd, z_ix, z_cl, z_or0, z_add0, z_bs, z_gd, z_b1, z_b0, z_10, z_01, eq_self, reduceCtorEq, ↓reduceIte, if_true, if_false, Nat.not_lt_zero, not_true_eq_false, not_false_eq_true, Bool.false_eq_true, Nat.le_refl, Nat.lt_irrefl]
      exact go (q_jo op x y :: s) (q_jo op x y) s.length hk.2 (by simp only [List.length_cons]; omega) hs.2.2.push
  | [], _, 0, _, _, _, _, _, _, _, _, _, hn => absurd hn (by omega)
  | _ :: _, _, 0, _, _, _, _, _, _, _, _, _, hn => absurd hn (by omega)
def q_ds (x y : Nat) : Nat := if x ≤ y then y - x else x - y
set_option maxHeartbeats 1000000 in
theorem m_dayShown {J : lh_II} {h : lh_H} (m : q_md J h) (w : q_wf h) {b0 d l u x y : Nat} (hb : b0 ≤ 704) (hd : J (78 + 4) (b0 + 3) = nI d) (hl : J (78 + 4) (b0 + 4) = nI l) (hu : J (78 + 4) (b0 + 2) = nI u) (hd4 : d < 4) (hx : x < 100) (hy : y < 100) : ∃ J', f_LM_dayShown (nI b0) (nI x) (nI y) J = some (nI (q_sd h d l (q_ds x y) u), J') ∧ ∀ o k, o ≠ 80 → o ≠ 81 → J' o k = J o k := by
  have hln := w.ln
  have hC := w.C
  obtain ⟨K, hK⟩ : ∃ K, K = lh_u2 (lh_u2 (lh_u2 (lh_u2 J (76 + 4) 0 (nI d)) (76 + 4) 1 (nI l)) (76 + 4) 2 (nI (q_ds x y))) (76 + 4) 3 (nI u) := ⟨_, rfl⟩
  have hKo : ∀ o k, o ≠ 80 → K o k = J o k := fun o k ho => by rw [hK, q_u2o (by omega), q_u2o (by omega), q_u2o (by omega), q_u2o (by omega)]
  have hKf : ∀ k, k < 4 → K (76 + 4) k = q_fa d l (q_ds x y) u k := by
    intro k hk
    have h : k = 0 ∨ k = 1 ∨ k = 2 ∨ k = 3 := by omega
    rcases h with rfl | rfl | rfl | rfl <;> rw [hK] <;> rfl
  have e0 : f_LM_dayShown (nI b0) (nI x) (nI y) J = if 0 ≤ K (71 + 4) 8 then lh_bd (f_LM_worthAt (K (71 + 4) 8) K) (fun r6 => some ((if (0 : Int32) ≤ r6.1 then if r6.1 ≤ 3 then r6.1 else 3 else 0), r6.2)) else some ((if (0 : Int32) ≤ nI d then if nI d ≤ 3 then nI d else 3 else 0), K) := by
    have r1 : K (78 + 4) (b0 + 3) = nI d := by rw [hKo _ _ (by omega)]; exact hd
    rw [f_LM_dayShown]
    simp (disch := omega) only [z_addL, z_ix, z_cl, z_gd, hd, hl, hu, q_u2o]
    by_cases hxy : x ≤ y
    · have e1 : nI y - nI x = nI (q_ds x y) := by rw [z_sub hxy]; unfold q_ds; rw [if_pos hxy]
      rw [if_pos (nI_le hxy (by omega)), e1, ← hK]
      simp only [hKo (71 + 4) 8 (by omega)]
      by_cases hA : 0 ≤ J (71 + 4) 8
      · rw [if_pos hA, if_pos hA]
        congr 1
        funext r
        (repeat' split) <;> rfl
      · rw [if_neg hA, if_neg hA]
        (repeat' split) <;> rfl
    · have e1 : nI x - nI y = nI (q_ds x y) := by rw [z_sub (by omega)]; unfold q_ds; rw [if_neg hxy]
      rw [if_neg (nI_ge (by omega) (by omega)), e1, ← hK]
      simp only [hKo (71 + 4) 8 (by omega)]
      by_cases hA : 0 ≤ J (71 + 4) 8
      · rw [if_pos hA, if_pos hA]
        congr 1
        funext r
        (repeat' split) <;> rfl
      · rw [if_neg hA, if_neg hA]
        (repeat' split) <;> rfl
  rw [e0, hKo (71 + 4) 8 (by omega)]
  rcases m.2.2.2.2.2.2 with ⟨l1, l2⟩ | ⟨l1, l2, l3⟩
  · rw [l1, if_neg (by decide), q_sd_md]
    refine ⟨K, ?_, fun o k h1 h2 => hKo o k h1⟩
    congr 3
    unfold q_sd
    rw [l2]
    rfl
  · rw [l1, if_pos (by decide)]
    obtain ⟨J', g1, g2, g3, g4⟩ := m_law4 (f := q_fa d l (q_ds x y) u) (q_lw h) 0 lh_fuel [] K (fun i hi => by rw [Nat.zero_add, hKo _ _ (by omega), hKo _ _ (by omega)]; exact l2 i hi) (by rw [Nat.zero_add, hKo _ _ (by omega)]; exact l3) (by omega) w.ck (by simp) hKf trivial (by unfold lh_fuel; omega)
    have g1' : f_LM_worthAt_4 lh_fuel 0 0 K = _ := g1
    obtain ⟨z, hz⟩ := q_top g2
    rw [hz] at g3
    have g5 : J' (77 + 4) 0 = z := g3.1
    refine ⟨J', ?_, fun o k h1 h2 => by rw [g4 o k h2, hKo o k h1]⟩
    rw [f_LM_worthAt, g1', q_bs, q_bs, g5]
    show some ((if (0 : Int32) ≤ z then if z ≤ 3 then z else 3 else 0), J') = _
    rw [q_sd_md]
    congr 3
    unfold q_sd
    rw [hz]
    rfl
