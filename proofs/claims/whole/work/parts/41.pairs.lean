/-! pass, follows, alibi, wavers, exposed's like -/
def q_tw (h : lh_H) (x y : Int32) : Bool := q_is (q_N h) x && (q_is (q_N h) y && (!decide (x = y) && decide (q_dy h x.toNatClampNeg = q_dy h y.toNatClampNeg)))
theorem e_two {a : Nat} {I : lh_II} {h : lh_H} (c : q_cl a I h) (w : q_wf h) (x y : Int32) : f_Ha_areTwoOfOneDay a x y I = some (q_b01 (q_tw h x y)) := by
  have hN := w.N
  rw [f_Ha_areTwoOfOneDay, e_hasVisitor c, q_bs]
  unfold q_tw
  cases h1 : q_is (q_N h) x with
  | false => rw [q_b01_f rfl]; rfl
  | true =>
    rw [q_b01_t rfl, e_hasVisitor c, q_bs]
    cases h2 : q_is (q_N h) y with
    | false => rw [q_b01_f rfl]; rfl
    | true =>
      rw [q_b01_t rfl]
      obtain ⟨v, hv, rfl⟩ := q_is_ex (by omega) h1
      obtain ⟨u, hu, rfl⟩ := q_is_ex (by omega) h2
      by_cases h3 : nI v = nI u
      · rw [if_pos h3]; simp [h3]; rfl
      · rw [if_neg h3, q_gd (q_ix (show v < 6 by omega) (by decide)), q_gd (q_ix (show u < 6 by omega) (by decide)), nI_clamp (by omega), nI_clamp (by omega), c.dy hv, c.dy hu]
        have hd1 := w.dy hv
        have hd2 := w.dy hu
        simp only [nI_eq (show q_dy h v < 2 ^ 31 by omega) (show q_dy h u < 2 ^ 31 by omega)]
        by_cases h4 : q_dy h v = q_dy h u
        · rw [if_pos h4]; simp [h3, h4]; rfl
        · rw [if_neg h4]; simp [h3, h4]; rfl
theorem m_two {I : lh_II} {h : lh_H} (m : q_md I h) (w : q_wf h) (x y : Int32) : f_LM_areOfOneDay x y I = some (q_b01 (q_tw h x y)) := by
  have hN := w.N
  rw [f_LM_areOfOneDay, m_isVisitor m, q_bs]
  unfold q_tw
  cases h1 : q_is (q_N h) x with
  | false => rw [q_b01_f rfl]; rfl
  | true =>
    rw [q_b01_t rfl, m_isVisitor m, q_bs]
    cases h2 : q_is (q_N h) y with
    | false => rw [q_b01_f rfl]; rfl
    | true =>
      rw [q_b01_t rfl]
      obtain ⟨v, hv, rfl⟩ := q_is_ex (by omega) h1
      obtain ⟨u, hu, rfl⟩ := q_is_ex (by omega) h2
      by_cases h3 : nI v = nI u
      · rw [if_pos h3]; simp [h3]; rfl
      · rw [if_neg h3, m_dayOf m w hv, q_bs, m_dayOf m w hu, q_bs, nI_clamp (by omega), nI_clamp (by omega)]
        have hd1 := w.dy hv
        have hd2 := w.dy hu
        simp only [nI_eq (show q_dy h v < 2 ^ 31 by omega) (show q_dy h u < 2 ^ 31 by omega)]
        by_cases h4 : q_dy h v = q_dy h u
        · rw [if_pos h4]; simp [h3, h4]; rfl
        · rw [if_neg h4]; simp [h3, h4]; rfl
theorem q_tw_ex {h : lh_H} {x y : Int32} (w : q_wf h) (e : q_tw h x y = true) : ∃ v u, v < q_N h ∧ u < q_N h ∧ x = nI v ∧ y = nI u := by
  have hN := w.N
  unfold q_tw at e
  simp only [Bool.and_eq_true] at e
  obtain ⟨v, hv, rfl⟩ := q_is_ex (by omega) e.1
  obtain ⟨u, hu, rfl⟩ := q_is_ex (by omega) e.2.1
  exact ⟨v, u, hv, hu, rfl, rfl⟩
def q_same (o p : Option Nat) : Bool := match o with
  | none => false
  | some c => decide (p = some c)
theorem p_pass : lh_P24 lh_inv := by
  intro t a b a2 b2 I L x1 x2 hi
  obtain ⟨s, w, c, m, m', hf⟩ := hi.op
  cases h1 : q_tw (s_h s) x1 x2 with
  | false =>
    refine ⟨-1, (-1, lh_u2 I (65 + 4) 0 0), ?_, ?_, rfl, hi.en hf⟩
    · rw [f_LH_pass, e_two c.1 w.1, q_bs, q_b01_f h1]
    · rw [f_LM_pass]
      have : f_LM_pass_5 x1 x2 (lh_u2 I (65 + 4) 0 0) lh_fuel 0 = some (1, 0) := by
        rw [show lh_fuel = 4999 + 1 from rfl, f_LM_pass_5, if_neg (by decide), m_two m'.1 w.1, q_bs, q_b01_f h1]
      rw [this, q_bs, if_neg (by decide)]
  | true =>
    obtain ⟨v, u, hv, hu, rfl, rfl⟩ := q_tw_ex w.1 h1
    have e1 : f_LH_pass_10 a b (nI v) (nI u) I lh_fuel 0 = _ := q_forF (F := fun n k => f_LH_pass_10 a b (nI v) (nI u) I n (nI k)) (N := 8) (p := fun k => q_same (q_pl (s_h s) v k) (q_pl (s_h s) u k)) (fnd := fun k => ((0 : Nat), nI k)) (nf := (1, nI 8)) (fun n k hk => by
      show f_LH_pass_10 a b (nI v) (nI u) I (n + 1) (nI k) = _
      rw [f_LH_pass_10, if_neg (show ¬ (8 : Int32) ≤ nI k from nI_ge hk (by decide)), e_placeOfN c.1 w.1 hv hk, q_bs, e_placeOfN c.1 w.1 hu hk, q_bs, nI_1]
      simp only [q_e_m1 (w.1.pl31 hv hk), q_e_inj (w.1.pl31 hv hk) (w.1.pl31 hu hk)]
      unfold q_same
      cases h2 : q_pl (s_h s) v k with
      | none => rw [if_pos rfl, if_neg (by simp)]
      | some x =>
        rw [if_neg (by simp)]
        by_cases h3 : q_pl (s_h s) u k = some x
        · rw [if_pos h3.symm, if_pos (by simp [h3])]
        · rw [if_neg (fun e => h3 e.symm), if_neg (by simp [h3])]) (fun n => by
      show f_LH_pass_10 a b (nI v) (nI u) I (n + 1) (nI 8) = _
      rw [f_LH_pass_10, if_pos (by decide)]) 8 lh_fuel 0 rfl (by decide)
    have e2 : f_LM_pass_5 (nI v) (nI u) (lh_u2 I (65 + 4) 0 0) lh_fuel 0 = _ := q_forF (F := fun n k => f_LM_pass_5 (nI v) (nI u) (lh_u2 I (65 + 4) 0 0) n (nI k)) (N := 8) (p := fun k => q_same (q_pl (s_h s) v k) (q_pl (s_h s) u k)) (fnd := fun k => ((0 : Nat), nI k)) (nf := (1, nI 8)) (fun n k hk => by
      show f_LM_pass_5 (nI v) (nI u) (lh_u2 I (65 + 4) 0 0) (n + 1) (nI k) = _
      rw [f_LM_pass_5, if_neg (show ¬ (8 : Int32) ≤ nI k from nI_ge hk (by decide)), m_two m'.1 w.1, q_bs, q_b01_t h1, m_cellOf m'.1 w.1 hv hk, q_bs, q_bs, m_cellOf m'.1 w.1 hu hk, q_bs, nI_1]
      simp only [q_e_lt (w.1.pl31 hv hk), q_e_inj (w.1.pl31 hv hk) (w.1.pl31 hu hk)]
      unfold q_same
      cases h2 : q_pl (s_h s) v k with
      | none => rw [if_pos rfl, if_neg (by simp)]
      | some x =>
        rw [if_neg (by simp)]
        by_cases h3 : q_pl (s_h s) u k = some x
        · rw [if_pos h3.symm, if_pos (by simp [h3])]
        · rw [if_neg (fun e => h3 e.symm), if_neg (by simp [h3])]) (fun n => by
      show f_LM_pass_5 (nI v) (nI u) (lh_u2 I (65 + 4) 0 0) (n + 1) (nI 8) = _
      rw [f_LM_pass_5, if_pos (by decide)]) 8 lh_fuel 0 rfl (by decide)
    refine ⟨q_e (q_fst (fun k => q_same (q_pl (s_h s) v k) (q_pl (s_h s) u k)) 0 8), (q_e (q_fst (fun k => q_same (q_pl (s_h s) v k) (q_pl (s_h s) u k)) 0 8), lh_u2 I (65 + 4) 0 0), ?_, ?_, rfl, hi.en hf⟩
    · rw [f_LH_pass, e_two c.1 w.1, q_bs, q_b01_t h1, e1, q_bs]
      cases q_fst (fun k => q_same (q_pl (s_h s) v k) (q_pl (s_h s) u k)) 0 8 <;> rfl
    · rw [f_LM_pass, e2, q_bs]
      cases q_fst (fun k => q_same (q_pl (s_h s) v k) (q_pl (s_h s) u k)) 0 8 <;> rfl
