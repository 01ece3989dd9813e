/-! cover -/
section Q56
variable {a b : Nat} {I J : lh_II} {h : lh_H}
def q_la (h : lh_H) (k : Nat) : Nat := q_it (fun c y => if k.testBit c = true then y ||| q_lt h c (q_P h) else y) 0 (q_C h) 0
theorem q_la_lt (w : q_wf h) (k : Nat) : q_la h k < 4096 := by
  unfold q_la
  have := q_it_inv (step := fun c y => if k.testBit c = true then y ||| q_lt h c (q_P h) else y) (P := fun _ y => y < 4096) (q_C h) 0 0 (by omega) (fun i y _ hi hy => by
    show (if k.testBit i = true then y ||| q_lt h i (q_P h) else y) < 4096
    split
    · exact Nat.or_lt_two_pow (n := 12) hy (q_lt_lt w (by omega))
    · exact hy)
  exact this
theorem e_litAll (c : q_cl a I h) (w : q_wf h) {k : Nat} (hk : k < 2147483648) : f_Ha_litFromAll a (nI k) I = some (nI (q_la h k)) := by
  have hC := w.C
  have := q_for (F := fun n j (y : Nat) => f_Ha_litFromAll_4 a (nI k) I n (nI y) (nI j)) (N := q_C h) (step := fun c y => if k.testBit c = true then y ||| q_lt h c (q_P h) else y) (fin := nI) (fun n j y hj => by
    simp (disch := omega) only [f_Ha_litFromAll_4, c.C, z_bit1, c.lt hj, z_or, show ¬ q_C h ≤ j by omega, z_le, z_lt, z_eq, z_leL, z_leR, z_ltL, z_ltR, z_eqR, z_eqL, z_m1, z_m1s, z_m1le, z_m1lt, z_m1lt0, z_m1le0, z_0lem1, z_m1lek, z_add, z_addL, z_addR, z_mulR, z_sub, z_subL, z_gd, z_ix, z_cl, z_or0, z_add0, z_bs, z_gd, z_b1, z_b0, z_10, z_01, eq_self, reduceCtorEq, ↓reduceIte, if_true, if_false, Nat.not_lt_zero, not_true_eq_false, not_false_eq_true, Bool.false_eq_true, Nat.le_refl, Nat.lt_irrefl]
    cases k.testBit j <;> simp only [z_bs, z_gd, z_b1, z_b0, z_10, z_01, eq_self, reduceCtorEq, ↓reduceIte, if_true, if_false, Nat.not_lt_zero, not_true_eq_false, not_false_eq_true, Bool.false_eq_true, Nat.le_refl, Nat.lt_irrefl]) (fun n y => by
    simp (disch := omega) only [f_Ha_litFromAll_4, c.C, z_le, z_lt, z_eq, z_leL, z_leR, z_ltL, z_ltR, z_eqR, z_eqL, z_m1, z_m1s, z_m1le, z_m1lt, z_m1lt0, z_m1le0, z_0lem1, z_m1lek, z_add, z_addL, z_addR, z_mulR, z_sub, z_subL, z_gd, z_ix, z_cl, z_or0, z_add0, z_bs, z_gd, z_b1, z_b0, z_10, z_01, eq_self, reduceCtorEq, ↓reduceIte, if_true, if_false, Nat.not_lt_zero, not_true_eq_false, not_false_eq_true, Bool.false_eq_true, Nat.le_refl, Nat.lt_irrefl]) (q_C h) lh_fuel 0 0 (Nat.zero_add _) (by unfold lh_fuel; omega)
  have h2 : f_Ha_litFromAll_4 a (nI k) I lh_fuel 0 0 = _ := this
  rw [f_Ha_litFromAll, h2, q_bs]
  rfl
theorem m_cover35 (m : q_md J h) (w : q_wf h) {k : Nat} (hk : k < 2147483648) (x1 x2 : Int32) : f_LM_cover_35 x1 x2 (nI k) J lh_fuel 0 0 = some (nI (q_la h k)) := by
  have hC := w.C
  have := q_for (F := fun n j (y : Nat) => f_LM_cover_35 x1 x2 (nI k) J n (nI y) (nI j)) (N := q_C h) (step := fun c y => if k.testBit c = true then y ||| q_lt h c (q_P h) else y) (fin := nI) (fun n j y hj => by
    simp (disch := omega) only [f_LM_cover_35, m_cells m, z_bit1, m_litFrom m w hj, z_or, show ¬ q_C h ≤ j by omega, z_le, z_lt, z_eq, z_leL, z_leR, z_ltL, z_ltR, z_eqR, z_eqL, z_m1, z_m1s, z_m1le, z_m1lt, z_m1lt0, z_m1le0, z_0lem1, z_m1lek, z_add, z_addL, z_addR, z_mulR, z_sub, z_subL, z_gd, z_ix, z_cl, z_or0, z_add0, z_bs, z_gd, z_b1, z_b0, z_10, z_01, eq_self, reduceCtorEq, ↓reduceIte, if_true, if_false, Nat.not_lt_zero, not_true_eq_false, not_false_eq_true, Bool.false_eq_true, Nat.le_refl, Nat.lt_irrefl]
    cases k.testBit j <;> simp only [z_bs, z_gd, z_b1, z_b0, z_10, z_01, eq_self, reduceCtorEq, ↓reduceIte, if_true, if_false, Nat.not_lt_zero, not_true_eq_false, not_false_eq_true, Bool.false_eq_true, Nat.le_refl, Nat.lt_irrefl]) (fun n y => by
    simp (disch := omega) only [f_LM_cover_35, m_cells m, z_le, z_lt, z_eq, z_leL, z_leR, z_ltL, z_ltR, z_eqR, z_eqL, z_m1, z_m1s, z_m1le, z_m1lt, z_m1lt0, z_m1le0, z_0lem1, z_m1lek, z_add, z_addL, z_addR, z_mulR, z_sub, z_subL, z_gd, z_ix, z_cl, z_or0, z_add0, z_bs, z_gd, z_b1, z_b0, z_10, z_01, eq_self, reduceCtorEq, ↓reduceIte, if_true, if_false, Nat.not_lt_zero, not_true_eq_false, not_false_eq_true, Bool.false_eq_true, Nat.le_refl, Nat.lt_irrefl]) (q_C h) lh_fuel 0 0 (Nat.zero_add _) (by unfold lh_fuel; omega)
  exact this
theorem q_pc12a : ∀ i, i < 64 → ∀ j, j < 64 → q_pc (64 * i + j) ≤ 12 := by decide +kernel
theorem q_pc12 {k : Nat} (hk : k < 4096) : q_pc k ≤ 12 := by
  have := q_pc12a (k / 64) (by omega) (k % 64) (by omega)
  rw [show 64 * (k / 64) + k % 64 = k by omega] at this
  exact this
def q_cvo (k : Nat) : Option Nat → Bool
  | none => true
  | some b => decide (q_pc k < q_pc b)
def q_cv (h : lh_H) (k : Nat) (x : Option Nat) : Option Nat := if k &&& q_P h = 0 ∧ q_cvo k x = true ∧ q_la h k = q_mk (fun _ => true) (q_C h) then some k else x
def q_cvc : Option Nat → Int32 × Int32
  | none => (-1, 13)
  | some b => (nI b, nI (q_pc b))
theorem q_cv_lt {N : Nat} : ∀ (d k : Nat) (x : Option Nat), k + d = N → (∀ b, x = some b → b < k) → ∀ b, q_it (q_cv h) k d x = some b → b < N
  | 0, k, x, hd, hx, b, e => by have := hx b e; omega
  | d + 1, k, x, hd, hx, b, e => by
    refine q_cv_lt d (k + 1) (q_cv h k x) (by omega) (fun b' e' => ?_) b e
    unfold q_cv at e'
    split at e'
    · cases e'; omega
    · have := hx b' e'; omega
theorem q_all_eq (n : Nat) : q_mk (fun _ => true) n = 2 ^ n - 1 := by
  induction n with
  | zero => rfl
  | succ n ih =>
    show q_mk (fun _ => true) n + (if true = true then 2 ^ n else 0) = _
    rw [ih, if_pos rfl, Nat.pow_succ]
    have := Nat.two_pow_pos n
    omega
theorem e_cover6 (c : q_cl a I h) (w : q_wf h) : ∀ (d k n : Nat) (x : Option Nat), k + d = 2 ^ q_C h → d < n → (∀ b, x = some b → b < 4096) → f_LH_cover_6 a b I n (q_cvc x).1 (q_cvc x).2 (nI k) = some (q_cvc (q_it (q_cv h) k d x)).1
  | 0, k, n + 1, x, hd, _, hx => by
    have hC := w.C
    have h2 : 2 ^ q_C h ≤ 4096 := Nat.pow_le_pow_right (n := 2) (by decide) hC.2
    have h0 := Nat.two_pow_pos (q_C h)
    have e1 : ((1 : Int32) <<< (nI (q_C h) &&& 31)) - 1 = nI (2 ^ q_C h - 1) := by rw [q_all1 (by omega), q_all_eq]
    simp (disch := omega) only [f_LH_cover_6, f_Ha_allCells, c.C, e1, show 2 ^ q_C h - 1 < k by omega, z_lt, z_bs, if_true]
    rfl
  | d + 1, k, n + 1, x, hd, hn, hx => by
    have hC := w.C
    have hP := w.P12
    have h2 : 2 ^ q_C h ≤ 4096 := Nat.pow_le_pow_right (n := 2) (by decide) hC.2
    have hk : k < 4096 := by omega
    have e1 : ((1 : Int32) <<< (nI (q_C h) &&& 31)) - 1 = nI (2 ^ q_C h - 1) := by rw [q_all1 (by omega), q_all_eq]
    have hla := q_la_lt w k
    have hpk := q_pc12 hk
    have hand : k &&& q_P h < 4096 := Nat.lt_of_le_of_lt Nat.and_le_left hk
    show _ = some (q_cvc (q_it (q_cv h) (k + 1) d (q_cv h k x))).1
    rw [← e_cover6 c w d (k + 1) n (q_cv h k x) (by omega) (by omega) (fun b' e' => by
      unfold q_cv at e'
      split at e'
      · cases e'; exact hk
      · exact hx b' e')]
    have ho : ((q_cvc x).2 ≤ nI (q_pc k)) = ¬ q_cvo k x = true := by
      cases x with
      | none =>
        show ((13 : Int32) ≤ nI (q_pc k)) = ¬ true = true
        simp (disch := omega) only [z_leL, show ¬ 13 ≤ q_pc k by omega, not_true_eq_false]
      | some b' =>
        have hb := q_pc12 (hx b' rfl)
        show (nI (q_pc b') ≤ nI (q_pc k)) = ¬ decide (q_pc k < q_pc b') = true
        simp (disch := omega) only [z_le, decide_eq_true_eq, Nat.not_lt]
    simp (disch := omega) only [f_LH_cover_6, f_Ha_allCells, c.C, c.P, e1, e_bits hk, e_litAll c w, ho, z_and, show ¬ 2 ^ q_C h - 1 < k by omega, z_lt, z_eq, z_eqR, z_addL, z_bs, if_false]
    unfold q_cv
    rw [q_all_eq]
    by_cases h5 : q_cvo k x = true
    · by_cases h6 : k &&& q_P h = 0
      · by_cases h7 : q_la h k = 2 ^ q_C h - 1
        · simp only [h5, h6, h7, not_true_eq_false, if_false, if_true, and_self]; rfl
        · simp only [h5, h6, h7, not_true_eq_false, if_false, if_true, and_false]
      · simp only [h5, h6, not_true_eq_false, if_false, false_and]
    · simp only [h5, not_false_eq_true, if_true, Bool.false_eq_true, false_and, and_false, if_false]
  | 0, _, 0, _, _, hn, _ => absurd hn (by omega)
  | _ + 1, _, 0, _, _, hn, _ => absurd hn (by omega)
theorem m_cover14 (m : q_md J h) (w : q_wf h) : ∀ (d k n : Nat) (x : Option Nat), k + d = 2 ^ q_C h → d < n → (∀ b, x = some b → b < 4096) → f_LM_cover_14 (nI (2 ^ q_C h - 1)) J n (q_e x) (nI k) = some (q_e (q_it (q_cv h) k d x))
  | 0, k, n + 1, x, hd, _, hx => by
    have hC := w.C
    have h2 : 2 ^ q_C h ≤ 4096 := Nat.pow_le_pow_right (n := 2) (by decide) hC.2
    have h0 := Nat.two_pow_pos (q_C h)
    simp (disch := omega) only [f_LM_cover_14, show 2 ^ q_C h - 1 < k by omega, z_lt, if_true]
    rfl
  | d + 1, k, n + 1, x, hd, hn, hx => by
    have hC := w.C
    have h2 : 2 ^ q_C h ≤ 4096 := Nat.pow_le_pow_right (n := 2) (by decide) hC.2
    have hk : k < 4096 := by omega
    have hla := q_la_lt w k
    have hpk := q_pc12 hk
    obtain ⟨p, p1, p2, p3⟩ := m.2.2.1
    have ep : k &&& p = k &&& q_P h := by
      rw [p3]
      apply Nat.eq_of_testBit_eq
      intro i
      rw [Nat.testBit_and, Nat.testBit_and, Nat.testBit_mod_two_pow]
      by_cases hi : i < q_C h
      · simp [hi]
      · rw [Nat.testBit_lt_two_pow (Nat.lt_of_lt_of_le (show k < 2 ^ q_C h by omega) (Nat.pow_le_pow_right (by decide) (by omega)))]
        simp
    have hand : k &&& q_P h < 4096 := Nat.lt_of_le_of_lt Nat.and_le_left hk
    show _ = some (q_e (q_it (q_cv h) (k + 1) d (q_cv h k x)))
    rw [← m_cover14 m w d (k + 1) n (q_cv h k x) (by omega) (by omega) (fun b' e' => by
      unfold q_cv at e'
      split at e'
      · cases e'; exact hk
      · exact hx b' e')]
    unfold q_cv
    rw [q_all_eq]
    cases x with
    | none =>
      simp (disch := omega) only [f_LM_cover_14, p2, z_and, ep, m_cover35 m w, z_eN, z_m1lt0, show ¬ 2 ^ q_C h - 1 < k by omega, z_lt, z_eq, z_eqR, z_addL, z_bs, if_false, if_true, q_cvo, true_and]
      by_cases h6 : k &&& q_P h = 0
      · by_cases h7 : q_la h k = 2 ^ q_C h - 1
        · simp only [h6, h7, if_true, and_self]; rfl
        · simp only [h6, h7, if_false, if_true, and_false]; rfl
      · simp only [h6, if_false, false_and]; rfl
    | some b' =>
      have hb4 := hx b' rfl
      have hb := q_pc12 hb4
      simp (disch := omega) only [f_LM_cover_14, p2, z_and, ep, m_cover35 m w, z_eS, m_bits (show k < 2 ^ 31 by omega), m_bits (show b' < 2 ^ 31 by omega), show ¬ 2 ^ q_C h - 1 < k by omega, z_le, z_lt, z_ltR, Nat.not_lt_zero, z_eq, z_eqR, z_addL, z_bs, if_false, q_cvo, decide_eq_true_eq]
      by_cases h6 : k &&& q_P h = 0
      · by_cases h8 : q_pc b' ≤ q_pc k
        · simp only [h6, h8, show ¬ q_pc k < q_pc b' by omega, if_true, false_and, and_false, if_false]; rfl
        · by_cases h7 : q_la h k = 2 ^ q_C h - 1
          · simp only [h6, h7, h8, show q_pc k < q_pc b' by omega, if_true, if_false, and_self]; rfl
          · simp only [h6, h7, h8, if_false, if_true, and_false]; rfl
      · simp only [h6, if_false, false_and]; rfl
  | 0, _, 0, _, _, hn, _ => absurd hn (by omega)
  | _ + 1, _, 0, _, _, hn, _ => absurd hn (by omega)
end Q56
theorem p_cover : lh_P16 lh_inv := by
  intro t a b a2 b2 I L hi
  obtain ⟨s, w, c, m, m', hf⟩ := hi.op
  have hC := w.1.C
  have h2 : 2 ^ q_C (s_h s) ≤ 4096 := Nat.pow_le_pow_right (n := 2) (by decide) hC.2
  have h0 := Nat.two_pow_pos (q_C (s_h s))
  have e1 : f_LH_cover_6 a b I lh_fuel (-1) 13 1 = _ := e_cover6 (b := b) c.1 w.1 (2 ^ q_C (s_h s) - 1) 1 lh_fuel none (by omega) (by unfold lh_fuel; omega) (fun b' e => by cases e)
  have e2 : f_LM_cover_14 (nI (2 ^ q_C (s_h s) - 1)) (lh_u2 I (65 + 4) 0 0) lh_fuel (-1) 0 = _ := m_cover14 m'.1 w.1 (2 ^ q_C (s_h s)) 0 lh_fuel none (by omega) (by unfold lh_fuel; omega) (fun b' e => by cases e)
  have e3 : q_it (q_cv (s_h s)) 0 (2 ^ q_C (s_h s)) none = q_it (q_cv (s_h s)) 1 (2 ^ q_C (s_h s) - 1) none := by
    obtain ⟨z, hz⟩ : ∃ z, 2 ^ q_C (s_h s) = z + 1 := ⟨2 ^ q_C (s_h s) - 1, by omega⟩
    rw [hz, Nat.add_sub_cancel]
    show q_it (q_cv (s_h s)) 1 z (q_cv (s_h s) 0 none) = _
    have e4 : q_cv (s_h s) 0 none = none := by
      unfold q_cv
      rw [if_neg]
      rintro ⟨-, -, h3⟩
      have h4 : q_la (s_h s) 0 = 0 := by
        unfold q_la
        have := q_it_inv (step := fun c y => if (0 : Nat).testBit c = true then y ||| q_lt (s_h s) c (q_P (s_h s)) else y) (P := fun _ y => y = 0) (q_C (s_h s)) 0 0 rfl (fun i y _ hi hy => by simp [hy])
        exact this
      rw [h4, q_all_eq] at h3
      have : 2 ^ 2 ≤ 2 ^ q_C (s_h s) := Nat.pow_le_pow_right (by decide) hC.1
      omega
    rw [e4]
  rw [e3] at e2
  have e5 : ((1 : Int32) <<< (nI (q_C (s_h s)) &&& 31)) - 1 = nI (2 ^ q_C (s_h s) - 1) := by rw [q_all1 (by omega), q_all_eq]
  refine ⟨_, (q_e (q_it (q_cv (s_h s)) 1 (2 ^ q_C (s_h s) - 1) none), lh_u2 I (65 + 4) 0 0), by rw [f_LH_cover, e1, q_bs], ?_, ?_, hi.en hf⟩
  · rw [f_LM_cover, m_cells m'.1, q_bs, e5, e2, q_bs]
  · cases q_it (q_cv (s_h s)) 1 (2 ^ q_C (s_h s) - 1) none <;> rfl
