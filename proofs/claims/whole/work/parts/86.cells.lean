/-! cells read, whole -/
theorem c_read {t : List Nat} (hw : qt_w t) {N a q z nz v2 x1 n : Nat} {M : lh_LL} (hz : 11 ≤ z) (hnz : v2 + 8 ≤ nz) (hnz2 : nz ≤ 48) (hx : x1 + 8 ≤ 200) {I : lh_II} {L : lh_LL} {J : lh_II} (hc : r_c t n I L) (hm : r_m t N n J M) (h8 : I (1 + 4) 8 = 0) (h8' : J (65 + 4) 8 = 0) : ∃ I' L' J', ((∃ m rw, f_Hr_readCells a q z nz (nI v2) I L = some (nI m, I', L') ∧ f_LM_readCells (nI x1) J M = some (nI m, J') ∧ c_ok t N M n z v2 x1 m rw I' L' J') ∨ (∃ v v' B, (1 ≤ B ∧ B ≤ 20000) ∧ f_Hr_readCells a q z nz (nI v2) I L = some (v, I', L') ∧ f_LM_readCells (nI x1) J M = some (v', J') ∧ I' (1 + 4) 8 = nI B ∧ J' (65 + 4) 8 = nI B)) ∧ c_cf z v2 I I' ∧ r_lf L L' ∧ c_mf x1 J J' := by
  obtain ⟨I', L', J', hor, p1, p2, p3⟩ := c_loop hw (a := a) (q := q) hz hnz hnz2 hx 9 lh_fuel lh_fuel 0 n (fun _ => 0) I L J rfl (by decide) (by decide) (by decide) hc hm h8 h8' (fun i hi => absurd hi (by omega))
  rcases hor with ⟨m, rw', y1, y2, y3⟩ | ⟨c, v, B, hc2, hB, y1, ⟨v', y2⟩, y3, y4, y5⟩
  · have y1' : f_Hr_readCells_2 a q z nz (nI v2) lh_fuel 0 I L = some (2, nI m, I', L') := y1
    have y2' : f_LM_readCells_2 (nI x1) M lh_fuel 0 J = some (nI m, J') := y2
    refine ⟨I', L', J', Or.inl ⟨m, rw', ?_, ?_, y3⟩, p1, p2, p3⟩
    · rw [f_Hr_readCells, y1', z_bs]; rfl
    · rw [f_LM_readCells, y2', z_bs]
  · have y1' : f_Hr_readCells_2 a q z nz (nI v2) lh_fuel 0 I L = some (c, v, I', L') := y1
    have y2' : f_LM_readCells_2 (nI x1) M lh_fuel 0 J = some (v', J') := y2
    have em : f_LM_readCells (nI x1) J M = some (v', J') := by rw [f_LM_readCells, y2', z_bs]
    by_cases h0 : c = 0
    · subst h0
      refine ⟨I', L', J', Or.inr ⟨0, v', B, hB, ?_, em, y3 rfl, y5⟩, p1, p2, p3⟩
      rw [f_Hr_readCells, y1', z_bs]; rfl
    · have h1 : c = 1 := by omega
      subst h1
      refine ⟨lh_u2 I' (1 + 4) 8 (nI B), L', J', Or.inr ⟨0, v', B, hB, ?_, em, q_u2s, y5⟩, fun o k h1 h2 => by rw [q_u2o (by omega)]; exact p1 o k h1 h2, p2, p3⟩
      rw [f_Hr_readCells, y1', z_bs]
      simp only [Nat.one_ne_zero, ↓reduceIte, y4 rfl, z_bs]
