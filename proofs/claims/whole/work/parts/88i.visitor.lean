/-! a visitor -/
def r_vis (R : lh_Rw) (kd dy m : Nat) (cs : Nat → Nat) : lh_Rw := (fun i => if i = 1 then R.1 1 + 1 else if i = 10 + R.1 1 then kd else if i = 20 + R.1 1 then dy else if i = 40 + R.1 1 then m else R.1 i, fun u i => if u = R.1 1 then cs i else R.2.1 u i, R.2.2)
section Q88j
variable {R : lh_Rw} {kd dy m : Nat} {cs : Nat → Nat}
theorem r_vis_1 : (r_vis R kd dy m cs).1 1 = R.1 1 + 1 := rfl
theorem r_vis_o {i : Nat} (h : ¬ i = 1) (h1 : ¬ i = 10 + R.1 1) (h2 : ¬ i = 20 + R.1 1) (h3 : ¬ i = 40 + R.1 1) : (r_vis R kd dy m cs).1 i = R.1 i := by
  show (if i = 1 then _ else _) = _
  rw [if_neg h, if_neg h1, if_neg h2, if_neg h3]
theorem r_vis_k (h6 : R.1 1 < 6) : (r_vis R kd dy m cs).1 (10 + R.1 1) = kd ∧ (r_vis R kd dy m cs).1 (20 + R.1 1) = dy ∧ (r_vis R kd dy m cs).1 (40 + R.1 1) = m := by
  refine ⟨?_, ?_, ?_⟩
  · show (if 10 + R.1 1 = 1 then _ else _) = _
    rw [if_neg (by omega), if_pos rfl]
  · show (if 20 + R.1 1 = 1 then _ else _) = _
    rw [if_neg (by omega), if_neg (by omega), if_pos rfl]
  · show (if 40 + R.1 1 = 1 then _ else _) = _
    rw [if_neg (by omega), if_neg (by omega), if_neg (by omega), if_pos rfl]
theorem r_vis_c (i : Nat) : (r_vis R kd dy m cs).2.1 (R.1 1) i = cs i := by
  show (if R.1 1 = R.1 1 then cs i else _) = _
  rw [if_pos rfl]
theorem r_vis_d {u : Nat} (h : ¬ u = R.1 1) (i : Nat) : (r_vis R kd dy m cs).2.1 u i = R.2.1 u i := if_neg h
theorem r_vis_3 : (r_vis R kd dy m cs).2.2 = R.2.2 := rfl
theorem r_wf.vis (h : r_wf R) (h6 : R.1 1 < 6) (hk : kd < 4) (hd : dy < 4) (hm : 1 ≤ m ∧ m ≤ 8) (hcs : ∀ i, i < m → cs i < 12) : r_wf (r_vis R kd dy m cs) := by
  obtain ⟨p1, p2, p3, p4, p5, p6, p7, p8, p9, p10, p11, p12, p13⟩ := h
  obtain ⟨e1, e2, e3⟩ := r_vis_k (R := R) (kd := kd) (dy := dy) (m := m) (cs := cs) h6
  refine ⟨?_, ?_, ?_, ?_, ?_, ?_, ?_, ?_, fun v hv => ?_, fun k hk => ?_, fun i hi => ?_, p12, p13⟩
  · rw [r_vis_o (by omega) (by omega) (by omega) (by omega)]; exact p1
  · rw [r_vis_1]; omega
  · rw [r_vis_o (by omega) (by omega) (by omega) (by omega)]; exact p3
  · rw [r_vis_o (by omega) (by omega) (by omega) (by omega)]; exact p4
  · rw [r_vis_o (by omega) (by omega) (by omega) (by omega)]; exact p5
  · rw [r_vis_o (by omega) (by omega) (by omega) (by omega)]; exact p6
  · rw [r_vis_o (by omega) (by omega) (by omega) (by omega)]; exact p7
  · rw [r_vis_o (by omega) (by omega) (by omega) (by omega)]; exact p8
  · rw [r_vis_1] at hv
    by_cases e : v = R.1 1
    · subst e
      rw [e1, e2, e3]
      exact ⟨hk, hd, hm.1, hm.2, fun t ht => by rw [r_vis_c]; exact hcs t ht⟩
    · obtain ⟨g1, g2, g3, g4, g5⟩ := p9 v (by omega)
      rw [r_vis_o (by omega) (by omega) (by omega) (by omega), r_vis_o (by omega) (by omega) (by omega) (by omega), r_vis_o (by omega) (by omega) (by omega) (by omega)]
      exact ⟨g1, g2, g3, g4, fun t ht => by rw [r_vis_d e]; exact g5 t ht⟩
  · rw [r_vis_o (by omega) (by omega) (by omega) (by omega)] at hk
    rw [r_vis_d (by omega)]; exact p10 k hk
  · rw [r_vis_o (by omega) (by omega) (by omega) (by omega)] at hi
    rw [r_vis_d (by omega)]; exact p11 i hi
theorem r_cls.vis {a : Nat} {I I' : lh_II} (h6 : R.1 1 < 6) (h : r_cls a I R) (hf : ∀ o k, a + 4 ≤ o → o ≤ a + 14 → ¬ (o = a + 4 ∧ k = 11) → ¬ ((o = a + 8 ∨ o = a + 9 ∨ o = a + 10) ∧ k = R.1 1) → ¬ (o = a + 11 ∧ R.1 1 * 8 ≤ k) → I' o k = I o k) (hf2 : ∀ k, k < R.1 1 * 8 → I' (a + 7 + 4) k = I (a + 7 + 4) k) (hv : I' (a + 4) 11 = nI (R.1 1 + 1)) (hk : I' (a + 4 + 4) (R.1 1) = nI kd) (hd : I' (a + 5 + 4) (R.1 1) = nI dy) (hm : I' (a + 6 + 4) (R.1 1) = nI m) (hm8 : m ≤ 8) (hw : r_wf R) (hcs : ∀ i, i < m → I' (a + 7 + 4) (R.1 1 * 8 + i) = nI (cs i)) : r_cls a I' (r_vis R kd dy m cs) := by
  obtain ⟨⟨h1, h2, h3, h4, h5, h6', h7, h8⟩, h9, h10, h11, h12, h13, h14⟩ := h
  obtain ⟨e1, e2, e3⟩ := r_vis_k (R := R) (kd := kd) (dy := dy) (m := m) (cs := cs) h6
  refine ⟨⟨?_, ?_, ?_, ?_, ?_, ?_, ?_, ?_⟩, fun v hv => ?_, fun v t hv ht => ?_, fun k hk => ?_, fun i hi => ?_, ?_, fun i hi => ?_⟩
  · rw [r_vis_o (by omega) (by omega) (by omega) (by omega), hf _ _ (by omega) (by omega) (by omega) (by omega) (by omega)]; exact h1
  · rw [r_vis_o (by omega) (by omega) (by omega) (by omega), hf _ _ (by omega) (by omega) (by omega) (by omega) (by omega)]; exact h2
  · rw [r_vis_1]; exact hv
  · rw [r_vis_o (by omega) (by omega) (by omega) (by omega), hf _ _ (by omega) (by omega) (by omega) (by omega) (by omega)]; exact h4
  · rw [r_vis_o (by omega) (by omega) (by omega) (by omega), hf _ _ (by omega) (by omega) (by omega) (by omega) (by omega)]; exact h5
  · rw [r_vis_o (by omega) (by omega) (by omega) (by omega), hf _ _ (by omega) (by omega) (by omega) (by omega) (by omega)]; exact h6'
  · rw [r_vis_o (by omega) (by omega) (by omega) (by omega), hf _ _ (by omega) (by omega) (by omega) (by omega) (by omega)]; exact h7
  · rw [r_vis_o (by omega) (by omega) (by omega) (by omega), hf _ _ (by omega) (by omega) (by omega) (by omega) (by omega)]; exact h8
  · rw [r_vis_1] at hv
    by_cases e : v = R.1 1
    · subst e
      rw [e1, e2, e3]
      exact ⟨hk, hd, hm⟩
    · rw [r_vis_o (by omega) (by omega) (by omega) (by omega), r_vis_o (by omega) (by omega) (by omega) (by omega), r_vis_o (by omega) (by omega) (by omega) (by omega), hf _ _ (by omega) (by omega) (by omega) (by omega) (by omega), hf _ _ (by omega) (by omega) (by omega) (by omega) (by omega), hf _ _ (by omega) (by omega) (by omega) (by omega) (by omega)]
      exact h9 v (by omega)
  · rw [r_vis_1] at hv
    by_cases e : v = R.1 1
    · subst e
      rw [e3] at ht
      rw [r_vis_c]
      exact hcs t ht
    · rw [r_vis_o (by omega) (by omega) (by omega) (by omega)] at ht
      have hb := (hw.2.2.2.2.2.2.2.2.1 v (by omega)).2.2.2.1
      rw [r_vis_d e, hf2 _ (by omega)]
      exact h10 v t (by omega) ht
  · rw [r_vis_o (by omega) (by omega) (by omega) (by omega)] at hk
    rw [r_vis_d (by omega), hf _ _ (by omega) (by omega) (by omega) (by omega) (by omega)]; exact h11 k hk
  · rw [r_vis_o (by omega) (by omega) (by omega) (by omega)] at hi
    rw [r_vis_d (by omega), hf _ _ (by omega) (by omega) (by omega) (by omega) (by omega)]; exact h12 i hi
  · rw [hf _ _ (by omega) (by omega) (by omega) (by omega) (by omega)]; exact h13
  · rw [hf _ _ (by omega) (by omega) (by omega) (by omega) (by omega)]; exact h14 i hi
theorem r_mdl.vis {J J' : lh_II} (hR : r_wf R) (h6 : R.1 1 < 6) (h : r_mdl 100 J R) (hf : ∀ k, 100 ≤ k → ¬ k = 101 → ¬ (109 + 11 * R.1 1 ≤ k ∧ k < 120 + 11 * R.1 1) → J' (71 + 4) k = J (71 + 4) k) (hv : J' (71 + 4) 101 = nI (R.1 1 + 1)) (hk : J' (71 + 4) (109 + 11 * R.1 1) = nI kd) (hd : J' (71 + 4) (110 + 11 * R.1 1) = nI dy) (hm : J' (71 + 4) (111 + 11 * R.1 1) = nI m) (hcs : ∀ i, i < m → J' (71 + 4) (112 + 11 * R.1 1 + i) = nI (cs i)) : r_mdl 100 J' (r_vis R kd dy m cs) := by
  obtain ⟨⟨h1, h2, h3, h4, h5, h6', h7, h8⟩, h9, h10, h11⟩ := h
  obtain ⟨e1, e2, e3⟩ := r_vis_k (R := R) (kd := kd) (dy := dy) (m := m) (cs := cs) h6
  refine ⟨⟨?_, ?_, ?_, ?_, ?_, ?_, ?_, ?_⟩, fun v hv => ?_, fun k hk => ?_, fun i hi => ?_⟩
  · rw [r_vis_o (by omega) (by omega) (by omega) (by omega), hf _ (by omega) (by omega) (by omega)]; exact h1
  · rw [r_vis_1]; exact hv
  · rw [r_vis_o (by omega) (by omega) (by omega) (by omega), hf _ (by omega) (by omega) (by omega)]; exact h3
  · rw [r_vis_o (by omega) (by omega) (by omega) (by omega), hf _ (by omega) (by omega) (by omega)]; exact h4
  · rw [r_vis_o (by omega) (by omega) (by omega) (by omega), hf _ (by omega) (by omega) (by omega)]; exact h5
  · rw [r_vis_o (by omega) (by omega) (by omega) (by omega), hf _ (by omega) (by omega) (by omega)]; exact h6'
  · rw [r_vis_o (by omega) (by omega) (by omega) (by omega), hf _ (by omega) (by omega) (by omega)]; exact h7
  · rw [r_vis_o (by omega) (by omega) (by omega) (by omega), hf _ (by omega) (by omega) (by omega)]; exact h8
  · rw [r_vis_1] at hv
    by_cases e : v = R.1 1
    · subst e
      rw [e1, e2, e3]
      exact ⟨hk, hd, hm, fun t ht => by rw [r_vis_c]; exact hcs t ht⟩
    · obtain ⟨g1, g2, g3, g4⟩ := h9 v (by omega)
      have hb := (hR.2.2.2.2.2.2.2.2.1 v (by omega)).2.2.2.1
      rw [r_vis_o (by omega) (by omega) (by omega) (by omega), r_vis_o (by omega) (by omega) (by omega) (by omega), r_vis_o (by omega) (by omega) (by omega) (by omega)]
      exact ⟨by rw [hf _ (by omega) (by omega) (by omega)]; exact g1, by rw [hf _ (by omega) (by omega) (by omega)]; exact g2, by rw [hf _ (by omega) (by omega) (by omega)]; exact g3, fun t ht => by rw [hf _ (by omega) (by omega) (by omega), r_vis_d e]; exact g4 t ht⟩
  · rw [r_vis_o (by omega) (by omega) (by omega) (by omega)] at hk
    rw [r_vis_d (by omega), hf _ (by omega) (by omega) (by omega)]; exact h10 k hk
  · rw [r_vis_o (by omega) (by omega) (by omega) (by omega)] at hi
    rw [r_vis_d (by omega), hf _ (by omega) (by omega) (by omega)]; exact h11 i hi
end Q88j
