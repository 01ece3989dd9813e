/-! at, census, pass, follows, alibi -/
theorem p_at : lh_P4 lh_inv := by
  intro t a b a2 b2 I L x1 x2 hi
  obtain ⟨s, w, c, m, m', hf⟩ := hi.op
  refine ⟨_, (q_e (q_plx (s_h s) x1 x2), lh_u2 I (65 + 4) 0 0), by rw [f_LH_at, e_placeOf c.1 w.1, q_bs], ?_, rfl, hi.en hf⟩
  have hN := w.1.N
  rw [f_LM_at, m_isVisitor m'.1, q_bs]
  unfold q_plx
  cases h1 : q_is (q_N (s_h s)) x1 with
  | false => rw [q_b01_f rfl]; rfl
  | true =>
    rw [q_b01_t rfl, show (7 : Int32) = nI 7 from rfl, m_within (by decide), q_bs]
    cases h2 : q_is 8 x2 with
    | false => rw [q_b01_f rfl]; rfl
    | true =>
      rw [q_b01_t rfl]
      obtain ⟨v, hv, rfl⟩ := q_is_ex (by omega) h1
      obtain ⟨u, hu, rfl⟩ := q_is_ex (by omega) h2
      rw [m_cellOf m'.1 w.1 hv hu, q_bs, nI_clamp (by omega), nI_clamp (by omega)]
      rfl
/-- who is there -/
def q_wt (h : lh_H) (d u : Nat) : Nat := q_mk (fun v => decide (q_dy h v = d) && (q_pl h v u).isSome) (q_N h)
theorem e_whoIsThere {a : Nat} {I : lh_II} {h : lh_H} (c : q_cl a I h) (w : q_wf h) {d u : Nat} (hd : d < 4) (hu : u < 8) : f_Ha_whoIsThere a (nI d) (nI u) I = some (nI (q_wt h d u)) := by
  have hN := w.N
  rw [f_Ha_whoIsThere]
  have := q_for (F := fun m k (y : Nat) => f_Ha_whoIsThere_4 a (nI d) (nI u) I m (nI y) (nI k)) (N := q_N h) (step := fun v x => if (decide (q_dy h v = d) && (q_pl h v u).isSome) = true then x ||| 2 ^ v else x) (fin := nI) (fun m k y hk => by
    show f_Ha_whoIsThere_4 a (nI d) (nI u) I (m + 1) (nI y) (nI k) = f_Ha_whoIsThere_4 a (nI d) (nI u) I m (nI _) (nI (k + 1))
    rw [f_Ha_whoIsThere_4, c.N, if_neg (nI_ge hk (by omega)), q_gd (q_ix (show k < 6 by omega) (by decide)), nI_clamp (by omega), c.dy hk, e_placeOfN c w hk hu, q_bs, q_or1 (by omega), nI_1]
    have hdy := w.dy hk
    simp only [nI_eq (show q_dy h k < 2 ^ 31 by omega) (show d < 2 ^ 31 by omega), q_e_m1 (w.pl31 hk hu)]
    by_cases h1 : q_dy h k = d
    · rw [if_pos h1]
      cases h2 : q_pl h k u with
      | none => rw [if_pos rfl, if_neg (by simp)]
      | some x => rw [if_neg (by simp), if_pos (by simp [h1])]
    · rw [if_neg h1, if_neg (by simp [h1])]) (fun m y => by
    show f_Ha_whoIsThere_4 a (nI d) (nI u) I (m + 1) (nI y) (nI (q_N h)) = _
    rw [f_Ha_whoIsThere_4, c.N, if_pos (nI_le (Nat.le_refl _) (by omega))]) (q_N h) lh_fuel 0 0 (Nat.zero_add _) (by unfold lh_fuel; omega)
  have h2 : f_Ha_whoIsThere_4 a (nI d) (nI u) I lh_fuel 0 0 = _ := this
  rw [h2, q_bs, q_mkIt]
  rfl
theorem m_census19 {I : lh_II} {h : lh_H} (m : q_md I h) (w : q_wf h) {d u : Nat} (hd : d < 4) (hu : u < 8) : f_LM_census_19 (nI d) (nI u) I lh_fuel 0 0 = some (nI (q_wt h d u)) := by
  have hN := w.N
  have := q_for (F := fun n k (y : Nat) => f_LM_census_19 (nI d) (nI u) I n (nI y) (nI k)) (N := q_N h) (step := fun v x => if (decide (q_dy h v = d) && (q_pl h v u).isSome) = true then x ||| 2 ^ v else x) (fin := nI) (fun n k y hk => by
    show f_LM_census_19 (nI d) (nI u) I (n + 1) (nI y) (nI k) = f_LM_census_19 (nI d) (nI u) I n (nI _) (nI (k + 1))
    rw [f_LM_census_19, m_visitors m, q_bs, if_neg (nI_ge hk (by omega)), m_dayOf m w hk, q_bs, m_cellOf m w hk hu, q_bs, q_or1 (by omega), nI_1, q_or0]
    have hdy := w.dy hk
    simp only [nI_eq (show q_dy h k < 2 ^ 31 by omega) (show d < 2 ^ 31 by omega), q_e_lt (w.pl31 hk hu)]
    by_cases h1 : q_dy h k = d
    · rw [if_pos h1]
      cases h2 : q_pl h k u with
      | none => rw [if_pos rfl, if_neg (by simp)]
      | some x => rw [if_neg (by simp), if_pos (by simp [h1])]
    · rw [if_neg h1, if_neg (by simp [h1])]) (fun n y => by
    show f_LM_census_19 (nI d) (nI u) I (n + 1) (nI y) (nI (q_N h)) = _
    rw [f_LM_census_19, m_visitors m, q_bs, if_pos (nI_le (Nat.le_refl _) (by omega))]) (q_N h) lh_fuel 0 0 (Nat.zero_add _) (by unfold lh_fuel; omega)
  have h2 : f_LM_census_19 (nI d) (nI u) I lh_fuel 0 0 = _ := this
  rw [h2, q_mkIt]
  rfl
theorem p_census : lh_P35 lh_inv := by
  intro t a b a2 b2 I L x1 x2 hi
  obtain ⟨s, w, c, m, m', hf⟩ := hi.op
  cases h1 : q_is 4 x1 with
  | false =>
    refine ⟨-1, (-1, lh_u2 I (65 + 4) 0 0), ?_, ?_, rfl, hi.en hf⟩
    · rw [f_LH_census, e_isDay, q_bs, q_b01_f h1]
    · rw [f_LM_census, show (3 : Int32) = nI 3 from rfl, m_within (by decide), q_bs, q_b01_f h1]
  | true =>
    cases h2 : q_is 8 x2 with
    | false =>
      refine ⟨-1, (-1, lh_u2 I (65 + 4) 0 0), ?_, ?_, rfl, hi.en hf⟩
      · rw [f_LH_census, e_isDay, q_bs, q_b01_t h1, e_isHour, q_bs, q_b01_f h2]
      · rw [f_LM_census, show (3 : Int32) = nI 3 from rfl, m_within (by decide), q_bs, q_b01_t h1, show (7 : Int32) = nI 7 from rfl, m_within (by decide), q_bs, q_b01_f h2]
    | true =>
      obtain ⟨d, hd, rfl⟩ := q_is_ex (by decide) h1
      obtain ⟨u, hu, rfl⟩ := q_is_ex (by decide) h2
      refine ⟨nI (q_wt (s_h s) d u), (nI (q_wt (s_h s) d u), lh_u2 I (65 + 4) 0 0), ?_, ?_, rfl, hi.en hf⟩
      · rw [f_LH_census, e_isDay, q_bs, q_b01_t h1, e_isHour, q_bs, q_b01_t h2, e_whoIsThere c.1 w.1 hd hu, q_bs]
      · rw [f_LM_census, show (3 : Int32) = nI 3 from rfl, m_within (by decide), q_bs, q_b01_t h1, show (7 : Int32) = nI 7 from rfl, m_within (by decide), q_bs, q_b01_t h2, m_census19 m'.1 w.1 hd hu, q_bs]
