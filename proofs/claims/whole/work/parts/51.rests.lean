/-! rests -/
def q_pay (b l g x y : Int32) : Int32 := if x = 1 then if y = 1 then b else -l else if y = 1 then g else 0
theorem e_payOf (x y b l g : Int32) : f_LH_payOf x y b l g = some (q_pay b l g x y) := by
  rw [f_LH_payOf]; unfold q_pay
  (repeat' split) <;> rfl
theorem m_getsBy (x y b l g : Int32) : f_LM_getsBy x y b l g = some (q_pay b l g x y) := by
  rw [f_LM_getsBy]; unfold q_pay
  (repeat' split) <;> rfl
def q_rr (b l g : Int32) (k : Nat) : Bool := decide (¬ q_pay b l g (nI (k / 2)) (nI (k % 2)) < q_pay b l g (1 - nI (k / 2)) (nI (k % 2)) ∧ ¬ q_pay b l g (nI (k % 2)) (nI (k / 2)) < q_pay b l g (1 - nI (k % 2)) (nI (k / 2)))
theorem q_k4 : ∀ k, k < 4 → nI k >>> ((1 : Int32) &&& 31) = nI (k / 2) ∧ nI k &&& 1 = nI (k % 2) ∧ nI k / 2 = nI (k / 2) ∧ nI k - nI (k / 2) * 2 = nI (k % 2) ∧ ¬ (4 : Int32) ≤ nI k := by decide +kernel
theorem e_rest20 {a b : Nat} {x1 x2 x3 x4 : Int32} : f_LH_rests_20 a b x1 x2 x3 x4 lh_fuel 0 0 = some (match q_fst (fun k => q_rr x1 x2 x3 k && decide (nI (fb_ct (q_rr x1 x2 x3) k) = x4)) 0 4 with | some j => ((0 : Nat), nI (fb_ct (q_rr x1 x2 x3) j), nI j) | none => (1, nI (fb_ct (q_rr x1 x2 x3) 4), nI 4)) := by
  have := q_forF (F := fun n k => f_LH_rests_20 a b x1 x2 x3 x4 n (nI (fb_ct (q_rr x1 x2 x3) k)) (nI k)) (N := 4) (p := fun k => q_rr x1 x2 x3 k && decide (nI (fb_ct (q_rr x1 x2 x3) k) = x4)) (fnd := fun j => ((0 : Nat), nI (fb_ct (q_rr x1 x2 x3) j), nI j)) (nf := (1, nI (fb_ct (q_rr x1 x2 x3) 4), nI 4)) (fun n k hk => by
    obtain ⟨g1, g2, g3, g4, g5⟩ := q_k4 k hk
    rw [f_LH_rests_20, if_neg g5, g1, g2]
    simp only [f_LH_isAtRest, e_payOf, z_bs, fb_ct_succ]
    have er : q_rr x1 x2 x3 k = decide (¬ q_pay x1 x2 x3 (nI (k / 2)) (nI (k % 2)) < q_pay x1 x2 x3 (1 - nI (k / 2)) (nI (k % 2)) ∧ ¬ q_pay x1 x2 x3 (nI (k % 2)) (nI (k / 2)) < q_pay x1 x2 x3 (1 - nI (k % 2)) (nI (k / 2))) := rfl
    by_cases h1 : q_pay x1 x2 x3 (nI (k / 2)) (nI (k % 2)) < q_pay x1 x2 x3 (1 - nI (k / 2)) (nI (k % 2))
    · have e2 : q_rr x1 x2 x3 k = false := by rw [er]; simp [h1]
      simp only [h1, e2, nI_1, Bool.false_and, Nat.add_zero, z_bs, z_gd, z_b1, z_b0, z_10, z_01, eq_self, reduceCtorEq, ↓reduceIte, if_true, if_false, Nat.not_lt_zero, not_true_eq_false, not_false_eq_true, Bool.false_eq_true, Nat.le_refl, Nat.lt_irrefl]
    · by_cases h2 : q_pay x1 x2 x3 (nI (k % 2)) (nI (k / 2)) < q_pay x1 x2 x3 (1 - nI (k % 2)) (nI (k / 2))
      · have e2 : q_rr x1 x2 x3 k = false := by rw [er]; simp [h2]
        simp only [h1, h2, e2, nI_1, Bool.false_and, Nat.add_zero, z_bs, z_gd, z_b1, z_b0, z_10, z_01, eq_self, reduceCtorEq, ↓reduceIte, if_true, if_false, Nat.not_lt_zero, not_true_eq_false, not_false_eq_true, Bool.false_eq_true, Nat.le_refl, Nat.lt_irrefl]
      · have e2 : q_rr x1 x2 x3 k = true := by rw [er]; simp [h1, h2]
        by_cases h3 : nI (fb_ct (q_rr x1 x2 x3) k) = x4
        · simp only [h1, h2, h3, e2, Bool.true_and, decide_true, z_bs, z_gd, z_b1, z_b0, z_10, z_01, eq_self, reduceCtorEq, ↓reduceIte, if_true, if_false, Nat.not_lt_zero, not_true_eq_false, not_false_eq_true, Bool.false_eq_true, Nat.le_refl, Nat.lt_irrefl]
        · simp only [h1, h2, h3, e2, nI_1, Bool.true_and, decide_false, z_bs, z_gd, z_b1, z_b0, z_10, z_01, eq_self, reduceCtorEq, ↓reduceIte, if_true, if_false, Nat.not_lt_zero, not_true_eq_false, not_false_eq_true, Bool.false_eq_true, Nat.le_refl, Nat.lt_irrefl]) (fun n => by
    show f_LH_rests_20 a b x1 x2 x3 x4 (n + 1) (nI (fb_ct (q_rr x1 x2 x3) 4)) (nI 4) = _
    rw [f_LH_rests_20, if_pos (by decide)]) 4 lh_fuel 0 rfl (by decide)
  exact this
theorem m_rest28 {x1 x2 x3 x4 : Int32} : f_LM_rests_28 x1 x2 x3 x4 1 lh_fuel 0 (-1) 0 = some (nI (fb_ct (q_rr x1 x2 x3) 4), q_e (q_fst (fun k => q_rr x1 x2 x3 k && decide (nI (fb_ct (q_rr x1 x2 x3) k) = x4)) 0 4)) := by
  obtain ⟨r, e, hr⟩ := q_forI (F := fun n k (x : Int32 × Int32) => f_LM_rests_28 x1 x2 x3 x4 1 n x.1 x.2 (nI k)) (N := 4) (P := fun k x => x = (nI (fb_ct (q_rr x1 x2 x3) k), q_e (q_fst (fun k => q_rr x1 x2 x3 k && decide (nI (fb_ct (q_rr x1 x2 x3) k) = x4)) 0 k))) (Q := fun r => r = (nI (fb_ct (q_rr x1 x2 x3) 4), q_e (q_fst (fun k => q_rr x1 x2 x3 k && decide (nI (fb_ct (q_rr x1 x2 x3) k) = x4)) 0 4))) (fun n k x hk hx => by
    subst hx
    refine ⟨_, rfl, ?_⟩
    obtain ⟨g1, g2, g3, g4, g5⟩ := q_k4 k hk
    rw [f_LM_rests_28, if_neg g5, if_neg (by decide), g3, g4]
    simp only [m_getsBy, z_bs, fb_ct_succ, q_fst_succ, Nat.zero_add]
    have er : q_rr x1 x2 x3 k = decide (¬ q_pay x1 x2 x3 (nI (k / 2)) (nI (k % 2)) < q_pay x1 x2 x3 (1 - nI (k / 2)) (nI (k % 2)) ∧ ¬ q_pay x1 x2 x3 (nI (k % 2)) (nI (k / 2)) < q_pay x1 x2 x3 (1 - nI (k % 2)) (nI (k / 2))) := rfl
    by_cases h1 : q_pay x1 x2 x3 (nI (k / 2)) (nI (k % 2)) < q_pay x1 x2 x3 (1 - nI (k / 2)) (nI (k % 2))
    · have e2 : q_rr x1 x2 x3 k = false := by rw [er]; simp [h1]
      simp only [h1, e2, nI_1, z_add0, Bool.false_and, Nat.add_zero, z_bs, z_gd, z_b1, z_b0, z_10, z_01, eq_self, reduceCtorEq, ↓reduceIte, if_true, if_false, Nat.not_lt_zero, not_true_eq_false, not_false_eq_true, Bool.false_eq_true, Nat.le_refl, Nat.lt_irrefl]; cases q_fst (fun k => q_rr x1 x2 x3 k && decide (nI (fb_ct (q_rr x1 x2 x3) k) = x4)) 0 k <;> rfl
    · by_cases h2 : q_pay x1 x2 x3 (nI (k % 2)) (nI (k / 2)) < q_pay x1 x2 x3 (1 - nI (k % 2)) (nI (k / 2))
      · have e2 : q_rr x1 x2 x3 k = false := by rw [er]; simp [h2]
        simp only [h1, h2, e2, nI_1, z_add0, Bool.false_and, Nat.add_zero, z_bs, z_gd, z_b1, z_b0, z_10, z_01, eq_self, reduceCtorEq, ↓reduceIte, if_true, if_false, Nat.not_lt_zero, not_true_eq_false, not_false_eq_true, Bool.false_eq_true, Nat.le_refl, Nat.lt_irrefl]; cases q_fst (fun k => q_rr x1 x2 x3 k && decide (nI (fb_ct (q_rr x1 x2 x3) k) = x4)) 0 k <;> rfl
      · have e2 : q_rr x1 x2 x3 k = true := by rw [er]; simp [h1, h2]
        by_cases h3 : nI (fb_ct (q_rr x1 x2 x3) k) = x4
        · cases hq : q_fst (fun k => q_rr x1 x2 x3 k && decide (nI (fb_ct (q_rr x1 x2 x3) k) = x4)) 0 k with
          | some j =>
            exfalso
            obtain ⟨-, hj, hpj⟩ := q_fst_lt hq
            simp only [Bool.and_eq_true, decide_eq_true_eq] at hpj
            have hlt := fb_ct_mono (q_rr x1 x2 x3) (show j + 1 ≤ k by omega)
            rw [fb_ct_succ, hpj.1, if_pos rfl] at hlt
            have hle := fb_ct_le (q_rr x1 x2 x3) k
            have hle2 := fb_ct_le (q_rr x1 x2 x3) j
            have := (nI_eq (a := fb_ct (q_rr x1 x2 x3) j) (b := fb_ct (q_rr x1 x2 x3) k) (by omega) (by omega)).mp (by rw [hpj.2, h3])
            omega
          | none => simp only [h1, h2, h3, e2, Bool.true_and, decide_true, z_eS, z_bs, z_gd, z_b1, z_b0, z_10, z_01, eq_self, reduceCtorEq, ↓reduceIte, if_true, if_false, Nat.not_lt_zero, not_true_eq_false, not_false_eq_true, Bool.false_eq_true, Nat.le_refl, Nat.lt_irrefl]; rw [← h3, nI_1, nI_1]
        · simp only [h1, h2, h3, e2, nI_1, Bool.true_and, decide_false, z_bs, z_gd, z_b1, z_b0, z_10, z_01, eq_self, reduceCtorEq, ↓reduceIte, if_true, if_false, Nat.not_lt_zero, not_true_eq_false, not_false_eq_true, Bool.false_eq_true, Nat.le_refl, Nat.lt_irrefl]; cases q_fst (fun k => q_rr x1 x2 x3 k && decide (nI (fb_ct (q_rr x1 x2 x3) k) = x4)) 0 k <;> rfl) (fun n x hx => by
    subst hx
    refine ⟨_, ?_, rfl⟩
    show f_LM_rests_28 x1 x2 x3 x4 1 (n + 1) _ _ (nI 4) = _
    rw [f_LM_rests_28, if_pos (by decide)]) 4 lh_fuel 0 (0, -1) rfl (by decide) rfl
  subst hr
  exact e
theorem m_rest0 {x1 x2 x3 x4 : Int32} : f_LM_rests_28 x1 x2 x3 x4 0 lh_fuel 0 (-1) 0 = some (0, -1) := by
  rw [show lh_fuel = 4999 + 1 from rfl, f_LM_rests_28, if_neg (by decide), if_pos rfl]
theorem e_isPay (x : Int32) : f_LH_isPay x = some (q_b01 (q_is 10 x)) := by
  rw [f_LH_isPay]
  have : (if x < 0 then some (0 : Int32) else if 9 < x then some 0 else some 1) = if q_is 10 x = true then some 1 else some 0 := q_isG 9 (by decide)
  rw [this]
  cases q_is 10 x <;> rfl
theorem p_rests : lh_P40 lh_inv := by
  intro t a b a2 b2 I L x1 x2 x3 x4 hi
  obtain ⟨ha, hb, hx, hL⟩ := id hi
  have n0 := q_nk0 ha hb
  have hI : ∀ z : Int32, lh_inv t a b a2 b2 (lh_u2 I (65 + 4) 0 z) L ∧ ∀ x, lh_inv t a b a2 b2 (lh_u2 I (65 + 4) 0 z) (lh_v2 L (81 + 4) 0 x) := fun z => ⟨hi.en (q_fr.rf.u2 n0), fun x => hi.keep (q_fr.rf.u2 n0) (fun w hw => ⟨by unfold lh_v2; rw [if_neg (by omega)], by unfold lh_v2; rw [if_neg (by omega)]⟩)⟩
  have t1 : ∀ z : Int32, f_LM_thrown (lh_u2 I (65 + 4) 0 z) = some z := fun z => by rw [f_LM_thrown, q_u2s]
  have c1 : ¬ (1 : Int32) ≤ 0 := by decide
  have c0 : (0 : Int32) ≤ 0 := by decide
  have bad : f_LH_rests a b x1 x2 x3 x4 = some none → f_LM_rests x1 x2 x3 x4 I = some (0, lh_u2 I (65 + 4) 0 1) → ∃ (r1 : Option Int32) (r2 : Int32 × lh_II) (r3 : Int32), f_LH_rests a b x1 x2 x3 x4 = some r1 ∧ f_LM_rests x1 x2 x3 x4 I = some r2 ∧ f_LM_thrown r2.2 = some r3 ∧ (r1 = none → r3 = 1) ∧ (∀ x, r1 = some x → r3 = 0 ∧ x = r2.1) ∧ lh_inv t a b a2 b2 r2.2 L ∧ ∀ x, lh_inv t a b a2 b2 r2.2 (lh_v2 L (81 + 4) 0 x) := fun e1 e2 => ⟨none, _, 1, e1, e2, t1 1, fun _ => rfl, fun x e => (by cases e), (hI 1).1, (hI 1).2⟩
  have good : ∀ y, f_LH_rests a b x1 x2 x3 x4 = some (some y) → f_LM_rests x1 x2 x3 x4 I = some (y, lh_u2 I (65 + 4) 0 0) → ∃ (r1 : Option Int32) (r2 : Int32 × lh_II) (r3 : Int32), f_LH_rests a b x1 x2 x3 x4 = some r1 ∧ f_LM_rests x1 x2 x3 x4 I = some r2 ∧ f_LM_thrown r2.2 = some r3 ∧ (r1 = none → r3 = 1) ∧ (∀ x, r1 = some x → r3 = 0 ∧ x = r2.1) ∧ lh_inv t a b a2 b2 r2.2 L ∧ ∀ x, lh_inv t a b a2 b2 r2.2 (lh_v2 L (81 + 4) 0 x) := fun y e1 e2 => ⟨some y, _, 0, e1, e2, t1 0, fun e => (by cases e), fun x e => (by cases e; exact ⟨rfl, rfl⟩), (hI 0).1, (hI 0).2⟩
  cases h1 : q_is 10 x1 with
  | false => exact bad (by simp only [f_LH_rests, e_isPay, h1, z_bs, z_gd, z_b1, z_b0, z_10, z_01, eq_self, reduceCtorEq, ↓reduceIte, if_true, if_false, Nat.not_lt_zero, not_true_eq_false, not_false_eq_true, Bool.false_eq_true, Nat.le_refl, Nat.lt_irrefl]) (by simp only [f_LM_rests, m_in09, h1, m_rest0, q_u2s, c1, z_bs, z_gd, z_b1, z_b0, z_10, z_01, eq_self, reduceCtorEq, ↓reduceIte, if_true, if_false, Nat.not_lt_zero, not_true_eq_false, not_false_eq_true, Bool.false_eq_true, Nat.le_refl, Nat.lt_irrefl])
  | true =>
    cases h2 : q_is 10 x2 with
    | false => exact bad (by simp only [f_LH_rests, e_isPay, h1, h2, z_bs, z_gd, z_b1, z_b0, z_10, z_01, eq_self, reduceCtorEq, ↓reduceIte, if_true, if_false, Nat.not_lt_zero, not_true_eq_false, not_false_eq_true, Bool.false_eq_true, Nat.le_refl, Nat.lt_irrefl]) (by simp only [f_LM_rests, m_in09, h1, h2, m_rest0, q_u2s, c1, z_bs, z_gd, z_b1, z_b0, z_10, z_01, eq_self, reduceCtorEq, ↓reduceIte, if_true, if_false, Nat.not_lt_zero, not_true_eq_false, not_false_eq_true, Bool.false_eq_true, Nat.le_refl, Nat.lt_irrefl])
    | true =>
      cases h3 : q_is 10 x3 with
      | false => exact bad (by simp only [f_LH_rests, e_isPay, h1, h2, h3, z_bs, z_gd, z_b1, z_b0, z_10, z_01, eq_self, reduceCtorEq, ↓reduceIte, if_true, if_false, Nat.not_lt_zero, not_true_eq_false, not_false_eq_true, Bool.false_eq_true, Nat.le_refl, Nat.lt_irrefl]) (by simp only [f_LM_rests, m_in09, h1, h2, h3, m_rest0, q_u2s, c1, z_bs, z_gd, z_b1, z_b0, z_10, z_01, eq_self, reduceCtorEq, ↓reduceIte, if_true, if_false, Nat.not_lt_zero, not_true_eq_false, not_false_eq_true, Bool.false_eq_true, Nat.le_refl, Nat.lt_irrefl])
      | true =>
        by_cases h4 : x4 < -1
        · have h4' : ¬ (-1 : Int32) ≤ x4 := (fa_of_lt h4).2.1
          exact bad (by simp only [f_LH_rests, e_isPay, h1, h2, h3, h4', z_bs, z_gd, z_b1, z_b0, z_10, z_01, eq_self, reduceCtorEq, ↓reduceIte, if_true, if_false, Nat.not_lt_zero, not_true_eq_false, not_false_eq_true, Bool.false_eq_true, Nat.le_refl, Nat.lt_irrefl]) (by simp only [f_LM_rests, m_in09, h1, h2, h3, h4, m_rest0, q_u2s, c1, z_bs, z_gd, z_b1, z_b0, z_10, z_01, eq_self, reduceCtorEq, ↓reduceIte, if_true, if_false, Nat.not_lt_zero, not_true_eq_false, not_false_eq_true, Bool.false_eq_true, Nat.le_refl, Nat.lt_irrefl])
        · have h4' : (-1 : Int32) ≤ x4 := fa_of_nlt h4
          by_cases h5 : x4 < 0
          · have h6 : x4 = -1 := by
              rw [fa_eq, z_tm1]
              rw [fa_lt] at h5
              rw [fa_le, z_tm1] at h4'
              have : (0 : Int32).toInt = 0 := by decide
              omega
            subst h6
            have hn : q_fst (fun k => q_rr x1 x2 x3 k && decide (nI (fb_ct (q_rr x1 x2 x3) k) = -1)) 0 4 = none := q_fst_no (fun i _ hi => by
              have := fb_ct_le (q_rr x1 x2 x3) i
              simp (disch := omega) only [z_m1, decide_false, Bool.and_false])
            have h7 : ¬ (0 : Int32) ≤ -1 := by decide
            exact good (nI (fb_ct (q_rr x1 x2 x3) 4)) (by simp only [f_LH_rests, e_isPay, h1, h2, h3, h4', e_rest20, hn, show ¬ (1 : Nat) = 0 by omega, z_bs, z_gd, z_b1, z_b0, z_10, z_01, eq_self, reduceCtorEq, ↓reduceIte, if_true, if_false, Nat.not_lt_zero, not_true_eq_false, not_false_eq_true, Bool.false_eq_true, Nat.le_refl, Nat.lt_irrefl]) (by simp only [f_LM_rests, m_in09, h1, h2, h3, h4, h5, h7, m_rest28, q_u2s, c0, z_bs, z_gd, z_b1, z_b0, z_10, z_01, eq_self, reduceCtorEq, ↓reduceIte, if_true, if_false, Nat.not_lt_zero, not_true_eq_false, not_false_eq_true, Bool.false_eq_true, Nat.le_refl, Nat.lt_irrefl])
          · have h6 : ¬ x4 = -1 := fun e => h5 (by rw [e]; decide)
            have h7 : (0 : Int32) ≤ x4 := fa_of_nlt h5
            cases hq : q_fst (fun k => q_rr x1 x2 x3 k && decide (nI (fb_ct (q_rr x1 x2 x3) k) = x4)) 0 4 with
            | none => exact bad (by simp only [f_LH_rests, e_isPay, h1, h2, h3, h4', e_rest20, hq, h6, show ¬ (1 : Nat) = 0 by omega, z_bs, z_gd, z_b1, z_b0, z_10, z_01, eq_self, reduceCtorEq, ↓reduceIte, if_true, if_false, Nat.not_lt_zero, not_true_eq_false, not_false_eq_true, Bool.false_eq_true, Nat.le_refl, Nat.lt_irrefl]) (by simp only [f_LM_rests, m_in09, h1, h2, h3, h4, h5, h7, m_rest28, hq, z_eN, z_m1lt0, q_u2s, c1, z_bs, z_gd, z_b1, z_b0, z_10, z_01, eq_self, reduceCtorEq, ↓reduceIte, if_true, if_false, Nat.not_lt_zero, not_true_eq_false, not_false_eq_true, Bool.false_eq_true, Nat.le_refl, Nat.lt_irrefl])
            | some j =>
              have hj := (q_fst_lt hq).2.1
              exact good (nI j) (by simp only [f_LH_rests, e_isPay, h1, h2, h3, h4', e_rest20, hq, z_bs, z_gd, z_b1, z_b0, z_10, z_01, eq_self, reduceCtorEq, ↓reduceIte, if_true, if_false, Nat.not_lt_zero, not_true_eq_false, not_false_eq_true, Bool.false_eq_true, Nat.le_refl, Nat.lt_irrefl]) (by simp (disch := omega) only [f_LM_rests, m_in09, h1, h2, h3, h4, h5, h7, m_rest28, hq, z_eS, z_ltR, q_u2s, c0, z_bs, z_gd, z_b1, z_b0, z_10, z_01, eq_self, reduceCtorEq, ↓reduceIte, if_true, if_false, Nat.not_lt_zero, not_true_eq_false, not_false_eq_true, Bool.false_eq_true, Nat.le_refl, Nat.lt_irrefl])
