/-! what changes the state: step, trim, fill, undo, mark, say -/
def qc_p (I : lh_II) (p : List lh_Mt) : Prop := ∃ e, e < 16 ∧ I (0 + 4) 10 = nI e ∧ I (0 + 4) 11 = nI p.length ∧ ∀ k, k < p.length → q_mc I (41 + (e + 16 - p.length + k) % 16) (p.getD k q_m0)
def qc_m (I : lh_II) (h : lh_H) (mk : lh_Mk) : Prop := ∀ j, j < 4 → match mk j with
    | none => I (57 + 2 * j + 4) 1 = 0
    | some (m, ss) => I (57 + 2 * j + 4) 1 = 1 ∧ q_mc I (57 + 2 * j + 1) m ∧ I (57 + 2 * j + 4) 2 = nI ss.length ∧ I (57 + 2 * j + 4) 3 = nI (q_dl h ss)
def qc_s (I : lh_II) (h : lh_H) (ss : List lh_Sd) : Prop := I (0 + 4) 12 = nI ss.length ∧ I (0 + 4) 13 = nI (q_dl h ss)
def qm_p (I : lh_II) (p : List lh_Mt) : Prop := I (65 + 4) 21 = nI p.length ∧ ∀ k, k < p.length → q_mm I (32 * (5 + k)) (p.getD k q_m0)
def qm_m (I : lh_II) (mk : lh_Mk) : Prop := ∀ j, j < 4 → match mk j with
    | none => I (79 + 4) j = 0
    | some (m, ss) => I (79 + 4) j = 1 ∧ q_mm I (32 * (1 + j)) m ∧ q_ms I (32 * (1 + j)) ss
theorem s_cl.p {a b : Nat} {I : lh_II} {s : lh_St} (c : s_cl a b I s) : qc_p I (s_p s) := c.2.2.1
theorem s_cl.m {a b : Nat} {I : lh_II} {s : lh_St} (c : s_cl a b I s) : qc_m I (s_h s) (s_m s) := c.2.2.2.1
theorem s_cl.s {a b : Nat} {I : lh_II} {s : lh_St} (c : s_cl a b I s) : qc_s I (s_h s) (s_s s) := c.2.2.2.2.1
theorem s_md.p {I : lh_II} {s : lh_St} (c : s_md I s) : qm_p I (s_p s) := c.2.2.1
theorem s_md.m {I : lh_II} {s : lh_St} (c : s_md I s) : qm_m I (s_m s) := c.2.2.2.1
theorem s_md.s {I : lh_II} {s : lh_St} (c : s_md I s) : q_ms I 0 (s_s s) := c.2.2.2.2.1
theorem q_mc.kp {I I' : lh_II} {o : Nat} {m : lh_Mt} (h : q_mc I o m) (e : ∀ k, k < 7 → I' (o + 4) k = I (o + 4) k) : q_mc I' o m := by
  unfold q_mc
  rw [e _ (by omega), e _ (by omega), e _ (by omega), e _ (by omega), e _ (by omega), e _ (by omega), e _ (by omega)]
  exact h
theorem q_mm.kp {I I' : lh_II} {b : Nat} {m : lh_Mt} (h : q_mm I b m) (e : ∀ k, b ≤ k → k < b + 7 → I' (78 + 4) k = I (78 + 4) k) : q_mm I' b m := by
  unfold q_mm
  rw [e _ (by omega) (by omega), e _ (by omega) (by omega), e _ (by omega) (by omega), e _ (by omega) (by omega), e _ (by omega) (by omega), e _ (by omega) (by omega), e _ (by omega) (by omega)]
  exact h
theorem q_ms.kp {I I' : lh_II} {b : Nat} {ss : List lh_Sd} (h : q_ms I b ss) (hs : ss.length ≤ 8) (e : ∀ k, b + 7 ≤ k → k < b + 32 → I' (78 + 4) k = I (78 + 4) k) : q_ms I' b ss := by
  refine ⟨by rw [e _ (by omega) (by omega)]; exact h.1, fun k hk => ?_⟩
  rw [e _ (by omega) (by omega), e _ (by omega) (by omega), e _ (by omega) (by omega)]
  exact h.2 k hk
theorem qc_p.kp {I I' : lh_II} {p : List lh_Mt} (h : qc_p I p) (e0 : ∀ k, k = 10 ∨ k = 11 → I' 4 k = I 4 k) (e : ∀ o k, 45 ≤ o → o ≤ 60 → I' o k = I o k) : qc_p I' p := by
  obtain ⟨x, h1, h2, h3, h4⟩ := h
  exact ⟨x, h1, by rw [e0 _ (Or.inl rfl)]; exact h2, by rw [e0 _ (Or.inr rfl)]; exact h3, fun k hk => (h4 k hk).kp (fun k' _ => e _ _ (by omega) (by omega))⟩
theorem qc_m.kp {I I' : lh_II} {h : lh_H} {mk : lh_Mk} (c : qc_m I h mk) (e : ∀ o k, 61 ≤ o → o ≤ 68 → I' o k = I o k) : qc_m I' h mk := by
  intro j hj
  have := c j hj
  cases hm : mk j with
  | none =>
    rw [hm] at this
    simp only at this ⊢
    rw [e _ _ (by omega) (by omega)]; exact this
  | some q =>
    obtain ⟨m, ss⟩ := q
    rw [hm] at this
    simp only at this ⊢
    obtain ⟨g1, g2, g3, g4⟩ := this
    exact ⟨by rw [e _ _ (by omega) (by omega)]; exact g1, g2.kp (fun k _ => e _ _ (by omega) (by omega)), by rw [e _ _ (by omega) (by omega)]; exact g3, by rw [e _ _ (by omega) (by omega)]; exact g4⟩
theorem qm_p.kp {I I' : lh_II} {p : List lh_Mt} (c : qm_p I p) (hp : p.length ≤ 16) (e0 : I' 69 21 = I 69 21) (e : ∀ k, 160 ≤ k → k < 672 → I' 82 k = I 82 k) : qm_p I' p :=
  ⟨by rw [show I' (65 + 4) 21 = I (65 + 4) 21 from e0]; exact c.1, fun k hk => (c.2 k hk).kp (fun k' h1 h2 => e _ (by omega) (by omega))⟩
theorem qm_m.kp {I I' : lh_II} {mk : lh_Mk} (c : qm_m I mk) (hs : ∀ j m ss, j < 4 → mk j = some (m, ss) → ss.length ≤ 8) (e0 : ∀ k, I' 83 k = I 83 k) (e : ∀ k, 32 ≤ k → k < 160 → I' 82 k = I 82 k) : qm_m I' mk := by
  intro j hj
  have := c j hj
  cases hm : mk j with
  | none =>
    rw [hm] at this
    simp only at this ⊢
    rw [e0]; exact this
  | some q =>
    obtain ⟨m, ss⟩ := q
    rw [hm] at this
    simp only at this ⊢
    obtain ⟨g1, g2, g3⟩ := this
    exact ⟨by rw [e0]; exact g1, g2.kp (fun k h1 h2 => e _ (by omega) (by omega)), g3.kp (hs j m ss hj hm) (fun k h1 h2 => e _ (by omega) (by omega))⟩
theorem s_cl.re {a b : Nat} {I J : lh_II} {s : lh_St} {n' : lh_Mt} {p' : List lh_Mt} {mk' : lh_Mk} {ss' : List lh_Sd} (c : s_cl a b I s) (hh : ∀ j k, j < 11 → j ≠ 3 → J (a + j + 4) k = I (a + j + 4) k) (hn : q_mc J 7 n') (hp : qc_p J p') (hm : qc_m J (s_h s) mk') (hs : qc_s J (s_h s) ss') (hb : ∀ k, J (b + 4) 2 = I (b + 4) 2 ∧ J (b + 1 + 4) k = I (b + 1 + 4) k ∧ J (b + 2 + 4) k = I (b + 2 + 4) k) (ht : ∀ k, J (1 + 4) 2 = I (1 + 4) 2 ∧ J (2 + 4) k = I (2 + 4) k) : s_cl a b J (s_h s, n', p', mk', ss', s_q s, s_t s) := by
  obtain ⟨h1, -, -, -, -, ⟨h7, h8⟩, h9, h10⟩ := c
  exact ⟨h1.keep hh, hn, hp, hm, hs, ⟨by rw [(hb 0).1]; exact h7, fun k hk => by rw [(hb k).2.1, (hb k).2.2]; exact h8 k hk⟩, by rw [(ht 0).1]; exact h9, fun i hi => by rw [(ht i).2]; exact h10 i hi⟩
theorem s_md.re {I J : lh_II} {t : Nat} {s : lh_St} {n' : lh_Mt} {p' : List lh_Mt} {mk' : lh_Mk} {ss' : List lh_Sd} (c : s_md I s) (w : s_wf t s) (hh : ∀ o k, (o = 75 ∨ o = 76 ∨ o = 77 ∨ o = 79 ∨ o = 70 ∨ (o = 69 ∧ k = 2)) → J o k = I o k) (hn : q_mm J 0 n') (hp : qm_p J p') (hm : qm_m J mk') (hs : q_ms J 0 ss') : s_md J (s_h s, n', p', mk', ss', s_q s, s_t s) := by
  obtain ⟨h1, -, -, -, -, ⟨h7, h8⟩, h9, h10⟩ := c
  exact ⟨h1.keep w.1 (fun k _ => hh _ _ (by omega)) (fun k _ => hh _ _ (by omega)) (fun k _ => hh _ _ (by omega)), hn, hp, hm, hs, ⟨by rw [hh _ _ (by omega)]; exact h7, fun k hk => by rw [hh _ _ (by omega), hh _ _ (by omega)]; exact h8 k hk⟩, by rw [hh _ _ (by omega)]; exact h9, fun i hi => by rw [hh _ _ (by omega)]; exact h10 i hi⟩
/-! remembering -/
def q_push (p : List lh_Mt) (n : lh_Mt) : List lh_Mt := if p.length = 16 then p.drop 1 ++ [n] else p ++ [n]
theorem q_push_len {p : List lh_Mt} {n : lh_Mt} (hp : p.length ≤ 16) : (q_push p n).length = if p.length = 16 then 16 else p.length + 1 := by
  unfold q_push
  split
  · next h => simp [h]
  · simp
theorem q_gA {l : List lh_Mt} {n d : lh_Mt} {k : Nat} : (l ++ [n]).getD k d = if k < l.length then l.getD k d else if k = l.length then n else d := by
  rw [List.getD_eq_getElem?_getD, List.getD_eq_getElem?_getD]
  by_cases h1 : k < l.length
  · rw [if_pos h1, List.getElem?_append_left h1]
  · rw [if_neg h1, List.getElem?_append_right (by omega)]
    by_cases h2 : k = l.length
    · subst h2; simp
    · rw [if_neg h2, List.getElem?_eq_none (by simp; omega)]; rfl
theorem q_push_get {p : List lh_Mt} {n : lh_Mt} {k : Nat} (hp : p.length ≤ 16) (hk : k < (q_push p n).length) : (q_push p n).getD k q_m0 = if k + 1 = (q_push p n).length then n else if p.length = 16 then p.getD (k + 1) q_m0 else p.getD k q_m0 := by
  rw [q_push_len hp] at hk ⊢
  unfold q_push
  by_cases h : p.length = 16
  · rw [if_pos h] at hk ⊢
    rw [if_pos h, if_pos h, q_gA]
    have hl : (p.drop 1).length = 15 := by simp [h]
    rw [hl]
    by_cases h1 : k < 15
    · rw [if_pos h1, if_neg (by omega), List.getD_eq_getElem?_getD, List.getD_eq_getElem?_getD, List.getElem?_drop, Nat.add_comm 1 k]
    · rw [if_neg h1, if_pos (by omega), if_pos (by omega)]
  · rw [if_neg h] at hk ⊢
    rw [if_neg h, if_neg h, q_gA]
    by_cases h1 : k < p.length
    · rw [if_pos h1, if_neg (by omega)]
    · rw [if_neg h1, if_pos (by omega), if_pos (by omega)]
theorem q_push_mem {p : List lh_Mt} {n m : lh_Mt} (h : m ∈ q_push p n) : m = n ∨ m ∈ p := by
  unfold q_push at h
  split at h
  · rw [List.mem_append] at h
    rcases h with h | h
    · exact Or.inr (List.mem_of_mem_drop h)
    · exact Or.inl (by simpa using h)
  · rw [List.mem_append] at h
    rcases h with h | h
    · exact Or.inr h
    · exact Or.inl (by simpa using h)
theorem e_remember {a b : Nat} {I : lh_II} {n : lh_Mt} {p : List lh_Mt} (hn : q_mc I 7 n) (hp : qc_p I p) (hl : p.length ≤ 16) : ∃ I', f_LH_remember a b I = some I' ∧ qc_p I' (q_push p n) ∧ ∀ o k, ¬ (o = 4 ∧ (k = 10 ∨ k = 11)) → ¬ (45 ≤ o ∧ o ≤ 60) → I' o k = I o k := by
  obtain ⟨e, e1, e2, e3, e4⟩ := hp
  obtain ⟨I1, g1, g2, g3⟩ := e_become (o := 41 + e) (by omega) hn
  have r10 : I1 (0 + 4) 10 = nI e := by rw [g3 _ _ (by omega)]; exact e2
  have r11 : I1 (0 + 4) 11 = nI p.length := by rw [g3 _ _ (by omega)]; exact e3
  have e16 : nI e + 1 - (nI e + 1) / 16 * 16 = nI ((e + 1) % 16) := by
    rw [nI_1]; exact pk_rem (d := 16) (by omega) (by omega) (by omega)
  have e17 : nI (e + 1) - nI (e + 1) / 16 * 16 = nI ((e + 1) % 16) := pk_rem (d := 16) (by omega) (by omega) (by omega)
  have hfin : ∀ K : lh_II, K (0 + 4) 10 = nI ((e + 1) % 16) → K (0 + 4) 11 = nI (q_push p n).length → (∀ o k, ¬ (o = 4 ∧ (k = 10 ∨ k = 11)) → K o k = I1 o k) → qc_p K (q_push p n) := by
    intro K k1 k2 k3
    refine ⟨(e + 1) % 16, Nat.mod_lt _ (by decide), k1, k2, fun k hk => ?_⟩
    rw [q_push_get hl hk]
    rw [q_push_len hl] at hk ⊢
    by_cases h16 : p.length = 16
    · rw [if_pos h16] at hk ⊢
      rw [if_pos h16]
      by_cases h1 : k + 1 = 16
      · rw [if_pos h1, show ((e + 1) % 16 + 16 - 16 + k) % 16 = e by omega]
        exact g2.kp (fun k' _ => k3 _ _ (by omega))
      · rw [if_neg h1]
        have := e4 (k + 1) (by omega)
        rw [show ((e + 1) % 16 + 16 - 16 + k) % 16 = (e + 16 - p.length + (k + 1)) % 16 by omega]
        refine this.kp (fun k' _ => ?_)
        rw [k3 _ _ (by omega), g3 _ _ (by omega)]
    · rw [if_neg h16] at hk ⊢
      rw [if_neg h16]
      by_cases h1 : k + 1 = p.length + 1
      · rw [if_pos h1, show ((e + 1) % 16 + 16 - (p.length + 1) + k) % 16 = e by omega]
        exact g2.kp (fun k' _ => k3 _ _ (by omega))
      · rw [if_neg h1]
        have := e4 k (by omega)
        rw [show ((e + 1) % 16 + 16 - (p.length + 1) + k) % 16 = (e + 16 - p.length + k) % 16 by omega]
        refine this.kp (fun k' _ => ?_)
        rw [k3 _ _ (by omega), g3 _ _ (by omega)]
  by_cases h16 : p.length = 16
  · refine ⟨lh_u2 I1 (0 + 4) 10 (nI ((e + 1) % 16)), ?_, hfin _ q_u2s ?_ (fun o k h1 => q_u2o (by omega)), fun o k h1 h2 => by rw [q_u2o (by omega), g3 _ _ (by omega)]⟩
    · simp (disch := omega) only [f_LH_remember, e2, g1, r10, r11, e16, q_u2o, q_u2s, h16, z_ix, z_cl, z_gd, z_leL, Nat.le_refl, z_bs, ↓reduceIte]
    · rw [q_u2o (by omega), r11, q_push_len hl, h16]; rfl
  · refine ⟨lh_u2 (lh_u2 I1 (0 + 4) 10 (nI ((e + 1) % 16))) (0 + 4) 11 (nI (p.length + 1)), ?_, hfin _ ?_ ?_ (fun o k h1 => by rw [q_u2o (by omega), q_u2o (by omega)]), fun o k h1 h2 => by rw [q_u2o (by omega), q_u2o (by omega), g3 _ _ (by omega)]⟩
    · simp (disch := omega) only [f_LH_remember, e2, g1, r10, r11, e17, q_u2o, q_u2s, z_ix, z_cl, z_gd, z_leL, z_addL, show ¬ 16 ≤ p.length by omega, z_bs, ↓reduceIte]
    · rw [q_u2o (by omega), q_u2s]
    · rw [q_u2s, q_push_len hl, if_neg h16]
theorem m_keeps {J : lh_II} {n : lh_Mt} {p : List lh_Mt} (hn : q_mm J 0 n) (hp : qm_p J p) (hl : p.length ≤ 16) : ∃ J', f_LM_keeps J = some J' ∧ qm_p J' (q_push p n) ∧ ∀ o k, ¬ (o = 69 ∧ k = 21) → ¬ (o = 82 ∧ 160 ≤ k ∧ k < 672) → J' o k = J o k := by
  obtain ⟨e1, e2⟩ := hp
  by_cases h16 : p.length = 16
  · have key := q_forI (F := fun f k (K : lh_II) => f_LM_keeps_6 f (nI (k + 1)) K) (N := 15) (P := fun k K => (∀ i, i < k → q_mm K (32 * (5 + i)) (p.getD (i + 1) q_m0)) ∧ (∀ i, k ≤ i → i < 16 → q_mm K (32 * (5 + i)) (p.getD i q_m0)) ∧ ∀ o i, ¬ (o = 82 ∧ 160 ≤ i ∧ i < 672) → K o i = J o i) (Q := fun K => (∀ i, i < 15 → q_mm K (32 * (5 + i)) (p.getD (i + 1) q_m0)) ∧ ∀ o i, ¬ (o = 82 ∧ 160 ≤ i ∧ i < 672) → K o i = J o i) (fun f k K hk hK => by
      obtain ⟨h1, h2, h3⟩ := hK
      obtain ⟨K', g1, g2, g3⟩ := m_copyM (J := K) (x := 32 * (5 + (k + 1))) (y := 32 * (5 + k)) (by omega) (by omega) (by omega) (h2 (k + 1) (by omega) (by omega))
      refine ⟨K', ⟨fun i hi => ?_, fun i h4 h5 => ?_, fun o i h4 => ?_⟩, ?_⟩
      · by_cases e : i = k
        · subst e; exact g2
        · exact (h1 i (by omega)).kp (fun k' _ _ => g3 _ _ (by omega))
      · exact (h2 i (by omega) h5).kp (fun k' _ _ => g3 _ _ (by omega))
      · rw [g3 _ _ (by omega)]; exact h3 _ _ h4
      · simp (disch := omega) only [f_LM_keeps_6, show ¬ 16 ≤ k + 1 by omega, z_le, z_lt, z_eq, z_leL, z_leR, z_ltL, z_ltR, z_eqR, z_eqL, z_m1, z_m1s, z_m1le, z_m1lt, z_m1lt0, z_m1le0, z_0lem1, z_m1lek, z_add, z_addL, z_addR, z_mulR, z_sub, z_subL, z_gd, z_ix, z_cl, z_or0, z_add0, z_bs, z_gd, z_b1, z_b0, z_10, z_01, eq_self, reduceCtorEq, ↓reduceIte, if_true, if_false, Nat.not_lt_zero, not_true_eq_false, not_false_eq_true, Bool.false_eq_true, Nat.le_refl, Nat.lt_irrefl]
        rw [show 32 * (5 + (k + 1) - 1) = 32 * (5 + k) by omega, g1, z_bs]) (fun f K hK => by
      refine ⟨K, ?_, hK.1, hK.2.2⟩
      simp (disch := omega) only [f_LM_keeps_6, z_le, z_lt, z_eq, z_leL, z_leR, z_ltL, z_ltR, z_eqR, z_eqL, z_m1, z_m1s, z_m1le, z_m1lt, z_m1lt0, z_m1le0, z_0lem1, z_m1lek, z_add, z_addL, z_addR, z_mulR, z_sub, z_subL, z_gd, z_ix, z_cl, z_or0, z_add0, z_bs, z_gd, z_b1, z_b0, z_10, z_01, eq_self, reduceCtorEq, ↓reduceIte, if_true, if_false, Nat.not_lt_zero, not_true_eq_false, not_false_eq_true, Bool.false_eq_true, Nat.le_refl, Nat.lt_irrefl]) 15 lh_fuel 0 J rfl (by decide) ⟨fun i hi => absurd hi (by omega), fun i _ h2 => e2 i (by omega), fun _ _ _ => rfl⟩
    obtain ⟨K, k1, k2, k3⟩ := key
    have k1' : f_LM_keeps_6 lh_fuel 1 J = some K := k1
    have r21 : K (65 + 4) 21 = nI 16 := by rw [k3 _ _ (by omega), e1, h16]
    obtain ⟨K2, g1, g2, g3⟩ := m_copyM (J := lh_u2 K (65 + 4) 21 (nI 15)) (x := 0) (y := 32 * (5 + 15)) (m := n) (by omega) (by omega) (by omega) (hn.kp (fun k _ _ => by rw [q_u2o (by omega), k3 _ _ (by omega)]))
    have g1' : f_LM_copies 0 (nI (32 * (5 + 15))) 7 (lh_u2 K (65 + 4) 21 (nI 15)) = some K2 := g1
    have r21' : K2 (65 + 4) 21 = nI 15 := by rw [g3 _ _ (by omega), q_u2s]
    refine ⟨lh_u2 K2 (65 + 4) 21 (nI 16), ?_, ⟨?_, fun k hk => ?_⟩, fun o k h1 h2 => by rw [q_u2o (by omega), g3 _ _ (by omega), q_u2o (by omega), k3 _ _ (by omega)]⟩
    · simp (disch := omega) only [f_LM_keeps, e1, h16, k1', r21, q_u2s, g1', r21', z_le, z_lt, z_eq, z_leL, z_leR, z_ltL, z_ltR, z_eqR, z_eqL, z_m1, z_m1s, z_m1le, z_m1lt, z_m1lt0, z_m1le0, z_0lem1, z_m1lek, z_add, z_addL, z_addR, z_mulR, z_sub, z_subL, z_gd, z_ix, z_cl, z_or0, z_add0, z_bs, z_gd, z_b1, z_b0, z_10, z_01, eq_self, reduceCtorEq, ↓reduceIte, if_true, if_false, Nat.not_lt_zero, not_true_eq_false, not_false_eq_true, Bool.false_eq_true, Nat.le_refl, Nat.lt_irrefl]
    · rw [q_u2s, q_push_len hl, if_pos h16]
    · rw [q_push_get hl hk]
      rw [q_push_len hl, if_pos h16] at hk ⊢
      by_cases h1 : k + 1 = 16
      · rw [if_pos h1, show k = 15 by omega]
        exact g2.kp (fun k' _ _ => q_u2o (by omega))
      · rw [if_neg h1, if_pos h16]
        exact (k2 k (by omega)).kp (fun k' _ _ => by rw [q_u2o (by omega), g3 _ _ (by omega), q_u2o (by omega)])
  · obtain ⟨K2, g1, g2, g3⟩ := m_copyM (J := J) (x := 0) (y := 32 * (5 + p.length)) (by omega) (by omega) (by omega) hn
    have g1' : f_LM_copies 0 (nI (32 * (5 + p.length))) 7 J = some K2 := g1
    have r21' : K2 (65 + 4) 21 = nI p.length := by rw [g3 _ _ (by omega)]; exact e1
    refine ⟨lh_u2 K2 (65 + 4) 21 (nI (p.length + 1)), ?_, ⟨?_, fun k hk => ?_⟩, fun o k h1 h2 => by rw [q_u2o (by omega), g3 _ _ (by omega)]⟩
    · simp (disch := omega) only [f_LM_keeps, e1, h16, g1', r21', z_le, z_lt, z_eq, z_leL, z_leR, z_ltL, z_ltR, z_eqR, z_eqL, z_m1, z_m1s, z_m1le, z_m1lt, z_m1lt0, z_m1le0, z_0lem1, z_m1lek, z_add, z_addL, z_addR, z_mulR, z_sub, z_subL, z_gd, z_ix, z_cl, z_or0, z_add0, z_bs, z_gd, z_b1, z_b0, z_10, z_01, eq_self, reduceCtorEq, ↓reduceIte, if_true, if_false, Nat.not_lt_zero, not_true_eq_false, not_false_eq_true, Bool.false_eq_true, Nat.le_refl, Nat.lt_irrefl]
    · rw [q_u2s, q_push_len hl, if_neg h16]
    · rw [q_push_get hl hk]
      rw [q_push_len hl, if_neg h16] at hk ⊢
      by_cases h1 : k + 1 = p.length + 1
      · rw [if_pos h1, show k = p.length by omega]
        exact g2.kp (fun k' _ _ => q_u2o (by omega))
      · rw [if_neg h1, if_neg h16]
        exact (e2 k (by omega)).kp (fun k' _ _ => by rw [q_u2o (by omega), g3 _ _ (by omega)])
/-- the new state stands -/
theorem s_wf.now {t : Nat} {s : lh_St} (w : s_wf (t + 1) s) {n' : lh_Mt} (hn : q_mw (s_h s) (5000 - t) n') : s_wf t (s_h s, n', q_push (s_p s) (s_n s), s_m s, s_s s, s_q s, s_t s) := by
  have w0 := w.less
  obtain ⟨w1, w2, ⟨w3, w3'⟩, w4, w5, w6, w7, w8⟩ := w0
  refine ⟨w1, hn, ⟨?_, fun m hm => ?_⟩, w4, w5, w6, w7, w8⟩
  · show (q_push (s_p s) (s_n s)).length ≤ 16
    rw [q_push_len w3]; split <;> omega
  · rcases q_push_mem hm with rfl | hm
    · exact w2
    · exact w3' m hm
/-- a change of the moment, remembered -/
theorem s_now {t a b a2 b2 : Nat} {I I1 I2 J1 J2 : lh_II} {L : lh_LL} {s : lh_St} {n' : lh_Mt} (hi : lh_inv (t + 1) a b a2 b2 I L) (w : s_wf (t + 1) s) (c : s_cl a b I s) (m : s_md I s) (hn : q_mw (s_h s) (5000 - t) n')
    (cp : qc_p I1 (q_push (s_p s) (s_n s))) (c1 : ∀ o k, ¬ (o = 4 ∧ (k = 10 ∨ k = 11)) → ¬ (45 ≤ o ∧ o ≤ 60) → I1 o k = I o k)
    (cn : q_mc I2 7 n') (c2 : ∀ o k, o ≠ a + 7 → o ≠ a + 15 → o ≠ 11 → I2 o k = I1 o k)
    (mp : qm_p J1 (q_push (s_p s) (s_n s))) (m1 : ∀ o k, ¬ (o = 69 ∧ k = 21) → ¬ (o = 82 ∧ 160 ≤ k ∧ k < 672) → J1 o k = lh_u2 I2 (65 + 4) 0 0 o k)
    (mn : q_mm J2 0 n') (m2 : ∀ o k, o ≠ 80 → o ≠ 81 → ¬ (o = 82 ∧ k < 7) → J2 o k = J1 o k) : lh_inv t a b a2 b2 J2 L := by
  obtain ⟨ha, hb, -, hL⟩ := hi
  have hw := w.now hn
  have hpl : (q_push (s_p s) (s_n s)).length ≤ 16 := hw.2.2.1.1
  have lo : ∀ o k, o < 69 → J2 o k = I2 o k := fun o k h => by rw [m2 _ _ (by omega) (by omega) (by omega), m1 _ _ (by omega) (by omega), q_u2o (by omega)]
  have hig : ∀ o k, 69 ≤ o → I2 o k = I o k := fun o k h => by rw [c2 _ _ (by omega) (by omega) (by omega), c1 _ _ (by omega) (by omega)]
  have hi2 : ∀ o k, 69 ≤ o → o ≠ 80 → o ≠ 81 → ¬ (o = 82 ∧ (k < 7 ∨ (160 ≤ k ∧ k < 672))) → ¬ (o = 69 ∧ (k = 21 ∨ k = 0)) → J2 o k = I o k := fun o k h h1 h2 h3 h4 => by rw [m2 _ _ h1 h2 (by omega), m1 _ _ (by omega) (by omega), q_u2o (by omega), hig _ _ h]
  have lo2 : ∀ o k, o < 69 → o ≠ a + 7 → o ≠ a + 15 → o ≠ 11 → ¬ (o = 4 ∧ (k = 10 ∨ k = 11)) → ¬ (45 ≤ o ∧ o ≤ 60) → J2 o k = I o k := fun o k h h1 h2 h3 h4 h5 => by rw [lo _ _ h, c2 _ _ h1 h2 h3, c1 _ _ h4 h5]
  refine ⟨ha, hb, ⟨_, hw, ?_, ?_⟩, hL⟩
  · refine c.re (fun j k hj hj3 => lo2 _ _ (by omega) (by omega) (by omega) (by omega) (by omega) (by omega)) (cn.kp (fun k _ => lo _ _ (by omega))) (cp.kp (fun k hk => ?_) (fun o k h1 h2 => ?_)) (c.m.kp (fun o k h1 h2 => lo2 _ _ (by omega) (by omega) (by omega) (by omega) (by omega) (by omega))) ?_ (fun k => ⟨lo2 _ _ (by omega) (by omega) (by omega) (by omega) (by omega) (by omega), lo2 _ _ (by omega) (by omega) (by omega) (by omega) (by omega) (by omega), lo2 _ _ (by omega) (by omega) (by omega) (by omega) (by omega) (by omega)⟩) (fun k => ⟨lo2 _ _ (by omega) (by omega) (by omega) (by omega) (by omega) (by omega), lo2 _ _ (by omega) (by omega) (by omega) (by omega) (by omega) (by omega)⟩)
    · rw [lo _ _ (by omega), c2 _ _ (by omega) (by omega) (by omega)]
    · rw [lo _ _ (by omega), c2 _ _ (by omega) (by omega) (by omega)]
    · have hs := c.s
      exact ⟨by rw [lo2 _ _ (by omega) (by omega) (by omega) (by omega) (by omega) (by omega)]; exact hs.1, by rw [lo2 _ _ (by omega) (by omega) (by omega) (by omega) (by omega) (by omega)]; exact hs.2⟩
  · refine m.re w (fun o k h => hi2 _ _ (by omega) (by omega) (by omega) (by omega) (by omega)) mn (mp.kp hpl (m2 _ _ (by omega) (by omega) (by omega)) (fun k h1 h2 => m2 _ _ (by omega) (by omega) (by omega))) (m.m.kp (fun j m' ss hj e => (w.2.2.2.1 j m' ss hj e).2.1) (fun k => hi2 _ _ (by omega) (by omega) (by omega) (by omega) (by omega)) (fun k h1 h2 => hi2 _ _ (by omega) (by omega) (by omega) (by omega) (by omega))) (m.s.kp w.2.2.2.2.1.1 (fun k h1 h2 => hi2 _ _ (by omega) (by omega) (by omega) (by omega) (by omega)))
theorem p_step : lh_P10 lh_inv := by
  intro t a b a2 b2 I L x1 hi
  obtain ⟨s, w, c, m, ha, fc, f0, fm⟩ := hi.opx
  cases h1 : q_isw x1 with
  | false =>
    obtain ⟨m0, k0⟩ := f0 I q_fr.rf
    exact ⟨(-1, I), (-1, lh_u2 I (65 + 4) 0 0), by simp only [f_LH_step, e_isWay, h1, z_bs, z_gd, z_b1, z_b0, z_10, z_01, eq_self, reduceCtorEq, ↓reduceIte, if_true, if_false, Nat.not_lt_zero, not_true_eq_false, not_false_eq_true, Bool.false_eq_true, Nat.le_refl, Nat.lt_irrefl], by simp only [f_LM_step, m_isWay, h1, z_bs, z_gd, z_b1, z_b0, z_10, z_01, eq_self, reduceCtorEq, ↓reduceIte, if_true, if_false, Nat.not_lt_zero, not_true_eq_false, not_false_eq_true, Bool.false_eq_true, Nat.le_refl, Nat.lt_irrefl], rfl, hi.en k0⟩
  | true =>
    have hx := q_isw_way h1
    have ht : t + 1 ≤ 4000 := w.2.2.2.2.2.2.2
    obtain ⟨I1, g1, g2, g3⟩ := e_remember (a := a) (b := b) c.2.1 c.p w.2.2.1.1
    have c1 : q_cl a I1 (s_h s) := c.1.keep (fun j k hj hj3 => g3 _ _ (by omega) (by omega))
    obtain ⟨I2, g4, g5, g6⟩ := e_walk c1 w.1 ha (Or.inl rfl) (c.2.1.kp (fun k _ => g3 _ _ (by omega) (by omega))) w.2.1 hx
    have hig : ∀ o k, 69 ≤ o → ¬ (o = 69 ∧ k = 0) → lh_u2 I2 (65 + 4) 0 0 o k = I o k := fun o k h h0 => by rw [q_u2o (by omega), g6 _ _ (by omega) (by omega) (by omega), g3 _ _ (by omega) (by omega)]
    obtain ⟨J1, k1, k2, k3⟩ := m_keeps (J := lh_u2 I2 (65 + 4) 0 0) (m.2.1.kp (fun k _ _ => hig _ _ (by omega) (by omega))) (m.p.kp w.2.2.1.1 (hig _ _ (by omega) (by omega)) (fun k _ _ => hig _ _ (by omega) (by omega))) w.2.2.1.1
    have mJ : q_md J1 (s_h s) := m.1.keep w.1 (fun k _ => by rw [k3 _ _ (by omega) (by omega)]; exact hig _ _ (by omega) (by omega)) (fun k _ => by rw [k3 _ _ (by omega) (by omega)]; exact hig _ _ (by omega) (by omega)) (fun k _ => by rw [k3 _ _ (by omega) (by omega)]; exact hig _ _ (by omega) (by omega))
    obtain ⟨J2, k4, k5, k6⟩ := m_steps mJ w.1 (b0 := 0) (by omega) (m.2.1.kp (fun k _ _ => by rw [k3 _ _ (by omega) (by omega)]; exact hig _ _ (by omega) (by omega))) w.2.1 hx
    have k4' : f_LM_steps 0 x1 J1 = _ := k4
    refine ⟨(nI (q_bu (s_h s) (s_n s) x1), I2), (nI (q_bu (s_h s) (s_n s) x1), J2), by simp only [f_LH_step, e_isWay, h1, g1, g4, z_bs, z_gd, z_b1, z_b0, z_10, z_01, eq_self, reduceCtorEq, ↓reduceIte, if_true, if_false, Nat.not_lt_zero, not_true_eq_false, not_false_eq_true, Bool.false_eq_true, Nat.le_refl, Nat.lt_irrefl], by simp only [f_LM_step, m_isWay, h1, k1, k4', z_bs, z_gd, z_b1, z_b0, z_10, z_01, eq_self, reduceCtorEq, ↓reduceIte, if_true, if_false, Nat.not_lt_zero, not_true_eq_false, not_false_eq_true, Bool.false_eq_true, Nat.le_refl, Nat.lt_irrefl], rfl, ?_⟩
    exact s_now hi w c m ((q_wk_mw w.1 w.2.1 hx).le (by omega)) g2 g3 g5 g6 k2 k3 k5 (fun o k h1 h2 h3 => k6 o k h1 h2 (by omega))
theorem p_trim : lh_P11 lh_inv := by
  intro t a b a2 b2 I L x1 hi
  obtain ⟨s, w, c, m, ha, fc, f0, fm⟩ := hi.opx
  obtain ⟨m0, k0⟩ := f0 I q_fr.rf
  have n4 : I (7 + 4) 3 = nI (u_o (s_n s)) := c.2.1.2.2.2.1
  have p5 : lh_u2 I (65 + 4) 0 0 (78 + 4) 4 = nI (u_o (s_n s)) := m0.2.1.2.2.2.2.1
  have w4 := w.2.1.2.2.2.1
  cases h1 : q_is 4 x1 with
  | false => exact ⟨(-1, I), (-1, lh_u2 I (65 + 4) 0 0), by simp only [f_LH_trim, e_isDay, h1, z_bs, z_gd, z_b1, z_b0, z_10, z_01, eq_self, reduceCtorEq, ↓reduceIte, if_true, if_false, Nat.not_lt_zero, not_true_eq_false, not_false_eq_true, Bool.false_eq_true, Nat.le_refl, Nat.lt_irrefl], by simp only [f_LM_trim, m_in03, h1, z_bs, z_gd, z_b1, z_b0, z_10, z_01, eq_self, reduceCtorEq, ↓reduceIte, if_true, if_false, Nat.not_lt_zero, not_true_eq_false, not_false_eq_true, Bool.false_eq_true, Nat.le_refl, Nat.lt_irrefl], rfl, hi.en k0⟩
  | true =>
    by_cases h2 : 2 ≤ u_o (s_n s)
    · obtain ⟨d, hd, rfl⟩ := q_is_ex (by omega) h1
      have ht : t + 1 ≤ 4000 := w.2.2.2.2.2.2.2
      obtain ⟨I1, g1, g2, g3⟩ := e_remember (a := a) (b := b) c.2.1 c.p w.2.2.1.1
      obtain ⟨I2, g4, g5, g6⟩ := e_trimTo (I := I1) (o := 7) (d := d) (c.2.1.kp (fun k _ => g3 _ _ (by omega) (by omega))) h2
      have hig : ∀ o k, 69 ≤ o → ¬ (o = 69 ∧ k = 0) → lh_u2 I2 (65 + 4) 0 0 o k = I o k := fun o k h h0 => by rw [q_u2o (by omega), g6 _ _ (by omega), g3 _ _ (by omega) (by omega)]
      obtain ⟨J1, k1, k2, k3⟩ := m_keeps (J := lh_u2 I2 (65 + 4) 0 0) (m.2.1.kp (fun k _ _ => hig _ _ (by omega) (by omega))) (m.p.kp w.2.2.1.1 (hig _ _ (by omega) (by omega)) (fun k _ _ => hig _ _ (by omega) (by omega))) w.2.2.1.1
      obtain ⟨J2, k4, k5, k6⟩ := m_trims (J := J1) (b0 := 0) (d := d) (by omega) (m.2.1.kp (fun k _ _ => by rw [k3 _ _ (by omega) (by omega)]; exact hig _ _ (by omega) (by omega))) h2
      have k4' : f_LM_trims 0 (nI d) J1 = _ := k4
      have q4 : I2 (7 + 4) 3 = nI (u_o (s_n s) - 2) := g5.2.2.2.1
      have q5 : J2 (78 + 4) 4 = nI (u_o (s_n s) - 2) := k5.2.2.2.2.1
      have p5' : lh_u2 I2 (65 + 4) 0 0 (78 + 4) 4 = nI (u_o (s_n s)) := by rw [hig _ _ (by omega) (by omega)]; exact m.2.1.2.2.2.2.1
      refine ⟨(nI (u_o (s_n s) - 2), I2), (nI (u_o (s_n s) - 2), J2), ?_, ?_, rfl, ?_⟩
      · simp (disch := omega) only [f_LH_trim, e_isDay, h1, n4, h2, g1, g4, q4, z_le, z_lt, z_eq, z_leL, z_leR, z_ltL, z_ltR, z_eqR, z_eqL, z_m1, z_m1s, z_m1le, z_m1lt, z_m1lt0, z_m1le0, z_0lem1, z_m1lek, z_add, z_addL, z_addR, z_mulR, z_sub, z_subL, z_gd, z_ix, z_cl, z_or0, z_add0, z_bs, z_gd, z_b1, z_b0, z_10, z_01, eq_self, reduceCtorEq, ↓reduceIte, if_true, if_false, Nat.not_lt_zero, not_true_eq_false, not_false_eq_true, Bool.false_eq_true, Nat.le_refl, Nat.lt_irrefl]
      · simp (disch := omega) only [f_LM_trim, m_in03, h1, p5', h2, k1, k4', q5, z_le, z_lt, z_eq, z_leL, z_leR, z_ltL, z_ltR, z_eqR, z_eqL, z_m1, z_m1s, z_m1le, z_m1lt, z_m1lt0, z_m1le0, z_0lem1, z_m1lek, z_add, z_addL, z_addR, z_mulR, z_sub, z_subL, z_gd, z_ix, z_cl, z_or0, z_add0, z_bs, z_gd, z_b1, z_b0, z_10, z_01, eq_self, reduceCtorEq, ↓reduceIte, if_true, if_false, Nat.not_lt_zero, not_true_eq_false, not_false_eq_true, Bool.false_eq_true, Nat.le_refl, Nat.lt_irrefl]
      exact s_now hi w c m ((q_trm_mw w.2.1 hd).le (by omega)) g2 g3 g5 (fun o k h1 h2 h3 => g6 _ _ (by omega)) k2 k3 k5 (fun o k h1 h2 h3 => k6 o k (by omega))
    · refine ⟨(-1, I), (-1, lh_u2 I (65 + 4) 0 0), ?_, ?_, rfl, hi.en k0⟩
      · simp (disch := omega) only [f_LH_trim, e_isDay, h1, n4, h2, z_le, z_lt, z_eq, z_leL, z_leR, z_ltL, z_ltR, z_eqR, z_eqL, z_m1, z_m1s, z_m1le, z_m1lt, z_m1lt0, z_m1le0, z_0lem1, z_m1lek, z_add, z_addL, z_addR, z_mulR, z_sub, z_subL, z_gd, z_ix, z_cl, z_or0, z_add0, z_bs, z_gd, z_b1, z_b0, z_10, z_01, eq_self, reduceCtorEq, ↓reduceIte, if_true, if_false, Nat.not_lt_zero, not_true_eq_false, not_false_eq_true, Bool.false_eq_true, Nat.le_refl, Nat.lt_irrefl]
      · simp (disch := omega) only [f_LM_trim, m_in03, h1, p5, h2, z_le, z_lt, z_eq, z_leL, z_leR, z_ltL, z_ltR, z_eqR, z_eqL, z_m1, z_m1s, z_m1le, z_m1lt, z_m1lt0, z_m1le0, z_0lem1, z_m1lek, z_add, z_addL, z_addR, z_mulR, z_sub, z_subL, z_gd, z_ix, z_cl, z_or0, z_add0, z_bs, z_gd, z_b1, z_b0, z_10, z_01, eq_self, reduceCtorEq, ↓reduceIte, if_true, if_false, Nat.not_lt_zero, not_true_eq_false, not_false_eq_true, Bool.false_eq_true, Nat.le_refl, Nat.lt_irrefl]
def q_flm (m : lh_Mt) (x : Nat) : lh_Mt := (u_c m, u_h m, u_d m, min 99 (u_o m + x), u_s m, u_b m, u_z m)
theorem q_flm_mw {h : lh_H} {n x : Nat} {m : lh_Mt} (hw : q_mw h n m) : q_mw h n (q_flm m x) := ⟨hw.1, hw.2.1, hw.2.2.1, by show min 99 (u_o m + x) ≤ 99; omega, hw.2.2.2.2.1, hw.2.2.2.2.2⟩
theorem e_fillBy {I : lh_II} {o x : Nat} {m : lh_Mt} (hm : q_mc I o m) (ho : u_o m ≤ 99) (hx : x ≤ 99) : ∃ I', f_Mo_fillBy o (nI x) I = some I' ∧ q_mc I' o (q_flm m x) ∧ ∀ o' k, ¬ (o' = o + 4 ∧ k = 3) → I' o' k = I o' k := by
  obtain ⟨m1, m2, m3, m4, m5, m6, m7⟩ := hm
  refine ⟨lh_u2 I (o + 4) 3 (nI (min 99 (u_o m + x))), ?_, ?_, fun o' k h1 => ?_⟩
  · simp (disch := omega) only [f_Mo_fillBy, m4, z_add, z_ltR]
    by_cases h : u_o m + x < 99
    · rw [if_pos h, show min 99 (u_o m + x) = u_o m + x by omega]
    · rw [if_neg h, show min 99 (u_o m + x) = 99 by omega]; rfl
  · refine ⟨?_, ?_, ?_, ?_, ?_, ?_, ?_⟩ <;> simp (disch := omega) only [q_u2o, q_u2s] <;> first | rfl | assumption
  · rw [q_u2o (by omega)]
theorem m_fills {J : lh_II} {b0 x : Nat} {m : lh_Mt} (hb : b0 ≤ 704) (hm : q_mm J b0 m) (ho : u_o m ≤ 99) (hx : x ≤ 99) : ∃ J', f_LM_fills (nI b0) (nI x) J = some J' ∧ q_mm J' b0 (q_flm m x) ∧ ∀ o k, ¬ (o = 82 ∧ k = b0 + 4) → J' o k = J o k := by
  obtain ⟨m1, m2, m3, m4, m5, m6, m7⟩ := hm
  refine ⟨lh_u2 J (78 + 4) (b0 + 4) (nI (min 99 (u_o m + x))), ?_, ?_, fun o' k h1 => ?_⟩
  · simp (disch := omega) only [f_LM_fills, m5, z_le, z_lt, z_eq, z_leL, z_leR, z_ltL, z_ltR, z_eqR, z_eqL, z_m1, z_m1s, z_m1le, z_m1lt, z_m1lt0, z_m1le0, z_0lem1, z_m1lek, z_add, z_addL, z_addR, z_mulR, z_sub, z_subL, z_gd, z_ix, z_cl, z_or0, z_add0]
    by_cases h : u_o m + x ≤ 99
    · rw [if_pos h, show min 99 (u_o m + x) = u_o m + x by omega]
    · rw [if_neg h, show min 99 (u_o m + x) = 99 by omega]; rfl
  · refine ⟨?_, ?_, ?_, ?_, ?_, ?_, ?_⟩ <;> simp (disch := omega) only [q_u2o, q_u2s] <;> first | rfl | assumption
  · rw [q_u2o (by omega)]
def q_is1 (n : Nat) (x : Int32) : Bool := decide (¬ x < 1 ∧ x ≤ nI n)
theorem q_is1_ex {n : Nat} {x : Int32} (hn : n < 2147483648) (h : q_is1 n x = true) : ∃ k, 1 ≤ k ∧ k ≤ n ∧ x = nI k := by
  unfold q_is1 at h
  rw [decide_eq_true_eq] at h
  have h0 : ¬ x < 0 := fun h2 => h.1 (fa_trans h2 (by decide))
  obtain ⟨k, hk, rfl⟩ := nI_of h0
  simp (disch := omega) only [z_ltR, z_le] at h
  exact ⟨k, by omega, by omega, rfl⟩
theorem q_is1L {α : Type} (n : Nat) {x : Int32} {A B : α} : (if x < 1 then A else if x ≤ nI n then B else A) = if q_is1 n x = true then B else A := by
  unfold q_is1
  by_cases h0 : x < 1
  · rw [if_pos h0, if_neg (by simp [h0])]
  · rw [if_neg h0]
    by_cases h1 : x ≤ nI n
    · rw [if_pos h1, if_pos (by simp [h0, h1])]
    · rw [if_neg h1, if_neg (by simp [h1])]
theorem m_in1 (n : Nat) (x : Int32) : f_LM_within x (1 : Int32) (nI n) = some (q_b01 (q_is1 n x)) := by
  rw [f_LM_within]
  unfold q_is1
  by_cases h0 : x < 1
  · rw [if_pos h0]; simp [h0]; rfl
  · rw [if_neg h0]
    by_cases h1 : nI n < x
    · rw [if_pos h1]; have := (fa_of_lt h1).2.1; simp [this]; rfl
    · rw [if_neg h1]; have := fa_of_nlt h1; simp [h0, this]; rfl
theorem p_fill : lh_P12 lh_inv := by
  intro t a b a2 b2 I L x1 hi
  obtain ⟨s, w, c, m, ha, fc, f0, fm⟩ := hi.opx
  obtain ⟨m0, k0⟩ := f0 I q_fr.rf
  have w4 := w.2.1.2.2.2.1
  have e0 : f_LH_fill a b x1 I = if q_is1 99 x1 = true then lh_bd (f_LH_remember a b I) (fun r3 => lh_bd (f_Mo_fillBy 7 x1 r3) fun r5 => some ((r5 (7 + 4) 3), r5)) else some ((-1), I) := by
    rw [f_LH_fill]; exact q_is1L 99
  have e1 : f_LM_within x1 1 99 = _ := m_in1 99 x1
  cases h1 : q_is1 99 x1 with
  | false => exact ⟨(-1, I), (-1, lh_u2 I (65 + 4) 0 0), by simp only [e0, h1, z_bs, z_gd, z_b1, z_b0, z_10, z_01, eq_self, reduceCtorEq, ↓reduceIte, if_true, if_false, Nat.not_lt_zero, not_true_eq_false, not_false_eq_true, Bool.false_eq_true, Nat.le_refl, Nat.lt_irrefl], by simp only [f_LM_fill, e1, h1, z_bs, z_gd, z_b1, z_b0, z_10, z_01, eq_self, reduceCtorEq, ↓reduceIte, if_true, if_false, Nat.not_lt_zero, not_true_eq_false, not_false_eq_true, Bool.false_eq_true, Nat.le_refl, Nat.lt_irrefl], rfl, hi.en k0⟩
  | true =>
    obtain ⟨x, hx1, hx2, rfl⟩ := q_is1_ex (by omega) h1
    have ht : t + 1 ≤ 4000 := w.2.2.2.2.2.2.2
    obtain ⟨I1, g1, g2, g3⟩ := e_remember (a := a) (b := b) c.2.1 c.p w.2.2.1.1
    obtain ⟨I2, g4, g5, g6⟩ := e_fillBy (I := I1) (o := 7) (x := x) (c.2.1.kp (fun k _ => g3 _ _ (by omega) (by omega))) w4 hx2
    have hig : ∀ o k, 69 ≤ o → ¬ (o = 69 ∧ k = 0) → lh_u2 I2 (65 + 4) 0 0 o k = I o k := fun o k h h0 => by rw [q_u2o (by omega), g6 _ _ (by omega), g3 _ _ (by omega) (by omega)]
    obtain ⟨J1, k1, k2, k3⟩ := m_keeps (J := lh_u2 I2 (65 + 4) 0 0) (m.2.1.kp (fun k _ _ => hig _ _ (by omega) (by omega))) (m.p.kp w.2.2.1.1 (hig _ _ (by omega) (by omega)) (fun k _ _ => hig _ _ (by omega) (by omega))) w.2.2.1.1
    obtain ⟨J2, k4, k5, k6⟩ := m_fills (J := J1) (b0 := 0) (x := x) (by omega) (m.2.1.kp (fun k _ _ => by rw [k3 _ _ (by omega) (by omega)]; exact hig _ _ (by omega) (by omega))) w4 hx2
    have k4' : f_LM_fills 0 (nI x) J1 = _ := k4
    have q4 : I2 (7 + 4) 3 = nI (min 99 (u_o (s_n s) + x)) := g5.2.2.2.1
    have q5 : J2 (78 + 4) 4 = nI (min 99 (u_o (s_n s) + x)) := k5.2.2.2.2.1
    refine ⟨(nI (min 99 (u_o (s_n s) + x)), I2), (nI (min 99 (u_o (s_n s) + x)), J2), ?_, ?_, rfl, ?_⟩
    · simp only [e0, h1, g1, g4, q4, z_bs, z_gd, z_b1, z_b0, z_10, z_01, eq_self, reduceCtorEq, ↓reduceIte, if_true, if_false, Nat.not_lt_zero, not_true_eq_false, not_false_eq_true, Bool.false_eq_true, Nat.le_refl, Nat.lt_irrefl]
    · simp only [f_LM_fill, e1, h1, k1, k4', q5, z_bs, z_gd, z_b1, z_b0, z_10, z_01, eq_self, reduceCtorEq, ↓reduceIte, if_true, if_false, Nat.not_lt_zero, not_true_eq_false, not_false_eq_true, Bool.false_eq_true, Nat.le_refl, Nat.lt_irrefl]
    exact s_now hi w c m ((q_flm_mw w.2.1).le (by omega)) g2 g3 g5 (fun o k h1 h2 h3 => g6 _ _ (by omega)) k2 k3 k5 (fun o k h1 h2 h3 => k6 o k (by omega))
