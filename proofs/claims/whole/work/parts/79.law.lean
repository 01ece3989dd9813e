/-! the law, whole: both sides -/
theorem w_sp.cg {t : List Nat} {N a : Nat} {M : lh_LL} {nd ex : Nat} {f f' : lh_II → lh_LL → Option (Int32 × lh_II × lh_LL)} {g g' : lh_II → Option lh_II} (h : w_sp t N a M nd ex f g) (hf : ∀ I L, f' I L = f I L) (hg : ∀ J, g' J = g J) : w_sp t N a M nd ex f' g' := by
  have e1 : f' = f := funext fun I => funext fun L => hf I L
  have e2 : g' = g := funext hg
  rw [e1, e2]
  exact h
theorem f_Lag0 (d a : Nat) (x y : Int32) (I : lh_II) (L : lh_LL) : f_Lag (d + 1) 0 a x y I L = f_La_readLevel (f_Lag d 0) (fun a y I L => f_Lag d 1 a 0 y I L) a x y I L := by rw [f_Lag, if_pos rfl]
theorem f_Lag1 (d a : Nat) (x y : Int32) (I : lh_II) (L : lh_LL) : f_Lag (d + 1) 1 a x y I L = f_La_readPart (f_Lag d 0) (fun a y I L => f_Lag d 1 a 0 y I L) a y I L := by rw [f_Lag, if_neg (by decide)]
theorem w_chain {t : List Nat} (hw : qt_w t) {N a : Nat} {M : lh_LL} (ha : 11 ≤ a ∧ a ≤ 23) {nd ex y dC dM : Nat} (hex : ex + 4 ≤ 90) (hP : w_sp t N a M nd ex (fun I L => f_Lag dC 1 a 0 (nI y) I L) (fun J => f_LMg dM 4 (nI y) J M)) : w_sp t N a M (nd + 4) (ex + 4) (fun I L => f_Lag (dC + 5) 0 a 0 (nI y) I L) (fun J => f_LMg (dM + 4) 0 (nI y) J M) := by
  have s4 : w_sp t N a M nd ex (fun I L => f_Lag (dC + 1) 0 a (nI (3 + 1)) (nI y) I L) (fun J => f_LMg dM 4 (nI y) J M) := by
    intro n ws I L J h1 h2 h3 h4 h5 h6 h7
    obtain ⟨I', L', J', hor, r⟩ := hP n ws I L J h1 h2 h3 h4 h5 h6 h7
    have hq : f_Lag (dC + 1) 0 a (nI (3 + 1)) (nI y) I L = lh_bd (f_Lag dC 1 a 0 (nI y) I L) fun r21 => lh_gd (lh_z r21.1) (some (r21.1, r21.2.1, r21.2.2)) := by
      rw [f_Lag0]
      unfold f_La_readLevel
      rw [if_neg (by decide)]
    refine ⟨I', L', J', ?_, r⟩
    rcases hor with ⟨x1, x2, x3⟩ | ⟨x1, x2, x3⟩
    · left
      have x1' : f_Lag dC 1 a 0 (nI y) I L = some (1, I', L') := x1
      refine ⟨?_, x2, x3⟩
      show f_Lag (dC + 1) 0 a (nI (3 + 1)) (nI y) I L = _
      rw [hq, x1', z_bs]
      rfl
    · right
      have x1' : f_Lag dC 1 a 0 (nI y) I L = some (0, I', L') := x1
      refine ⟨?_, x2, x3⟩
      show f_Lag (dC + 1) 0 a (nI (3 + 1)) (nI y) I L = _
      rw [hq, x1', z_bs]
      rfl
  have s3 := w_level hw ha (l := 3) (y := y) (by decide) (by decide) (by omega) (gL := f_Lag (dC + 1) 0) (gP := fun a y I L => f_Lag (dC + 1) 1 a 0 y I L) (G := fun J => f_LMg dM 4 (nI y) J M) (H := fun f J => f_LM_products_3 (f_LMg dM 0) (f_LMg dM 1) (f_LMg dM 2) (f_LMg dM 3) (f_LMg dM 4) (nI y) M f J) (Z := fun J => f_LMg (dM + 1) 3 (nI y) J M) s4 m_pr1 m_pr2 m_pr3 (fun J => by
    show f_LMg (dM + 1) 3 (nI y) J M = _
    rw [f_LMg, if_neg (by decide), if_neg (by decide), if_neg (by decide), if_pos rfl]
    rfl)
  have s3' : w_sp t N a M (nd + 1) (ex + 1) (fun I L => f_Lag (dC + 2) 0 a (nI (2 + 1)) (nI y) I L) (fun J => f_LMg (dM + 1) 3 (nI y) J M) := s3.cg (fun I L => f_Lag0 (dC + 1) a _ _ I L) (fun J => rfl)
  have s2 := w_level hw ha (l := 2) (y := y) (by decide) (by decide) (by omega) (gL := f_Lag (dC + 2) 0) (gP := fun a y I L => f_Lag (dC + 2) 1 a 0 y I L) (G := fun J => f_LMg (dM + 1) 3 (nI y) J M) (H := fun f J => f_LM_sums_3 (f_LMg (dM + 1) 0) (f_LMg (dM + 1) 1) (f_LMg (dM + 1) 2) (f_LMg (dM + 1) 3) (f_LMg (dM + 1) 4) (nI y) M f J) (Z := fun J => f_LMg (dM + 2) 2 (nI y) J M) s3' m_su1 m_su2 m_su3 (fun J => by
    show f_LMg (dM + 1 + 1) 2 (nI y) J M = _
    rw [f_LMg, if_neg (by decide), if_neg (by decide), if_pos rfl]
    rfl)
  have s2' : w_sp t N a M (nd + 2) (ex + 2) (fun I L => f_Lag (dC + 3) 0 a (nI 2) (nI y) I L) (fun J => f_LMg (dM + 2) 2 (nI y) J M) := s2.cg (fun I L => f_Lag0 (dC + 2) a _ _ I L) (fun J => rfl)
  have s1 := w_test hw ha (y := y) (by omega) (gL := f_Lag (dC + 3) 0) (gP := fun a y I L => f_Lag (dC + 3) 1 a 0 y I L) (gW := f_LMg (dM + 2) 0) (gT := f_LMg (dM + 2) 1) (gS := f_LMg (dM + 2) 2) (gQ := f_LMg (dM + 2) 3) (gP' := f_LMg (dM + 2) 4) s2'
  have s1' : w_sp t N a M (nd + 3) (ex + 3) (fun I L => f_Lag (dC + 4) 0 a (nI (0 + 1)) (nI y) I L) (fun J => f_LMg (dM + 3) 1 (nI y) J M) := s1.cg (fun I L => f_Lag0 (dC + 3) a _ _ I L) (fun J => by
    show f_LMg (dM + 2 + 1) 1 (nI y) J M = _
    rw [f_LMg, if_neg (by decide), if_pos rfl])
  have s0 := w_level hw ha (l := 0) (y := y) (by decide) (by decide) (by omega) (gL := f_Lag (dC + 4) 0) (gP := fun a y I L => f_Lag (dC + 4) 1 a 0 y I L) (G := fun J => f_LMg (dM + 3) 1 (nI y) J M) (H := fun f J => f_LM_whole_3 (f_LMg (dM + 3) 0) (f_LMg (dM + 3) 1) (f_LMg (dM + 3) 2) (f_LMg (dM + 3) 3) (f_LMg (dM + 3) 4) (nI y) M f J) (Z := fun J => f_LMg (dM + 4) 0 (nI y) J M) s1' m_wh1 m_wh2 m_wh3 (fun J => by
    show f_LMg (dM + 3 + 1) 0 (nI y) J M = _
    rw [f_LMg, if_pos rfl]
    rfl)
  exact s0.cg (fun I L => f_Lag0 (dC + 4) a _ _ I L) (fun J => rfl)
theorem w_parts {t : List Nat} (hw : qt_w t) {N a : Nat} {M : lh_LL} (ha : 11 ≤ a ∧ a ≤ 23) : ∀ (z y dC dM : Nat), y + z = 5 → 6 * z + 1 ≤ dC → 5 * z + 1 ≤ dM → w_sp t N a M (1 + 4 * z) (5 * z) (fun I L => f_Lag dC 1 a 0 (nI y) I L) (fun J => f_LMg dM 4 (nI y) J M) := by
  intro z
  induction z with
  | zero =>
    intro y dC dM hy hC hM
    obtain ⟨d1, rfl⟩ : ∃ d, dC = d + 1 := ⟨dC - 1, by omega⟩
    obtain ⟨d2, rfl⟩ : ∃ d, dM = d + 1 := ⟨dM - 1, by omega⟩
    refine w_sp.cg (w_part hw ha (y := y) (gL := f_Lag d1 0) (gP := fun a y I L => f_Lag d1 1 a 0 y I L) (gW := f_LMg d2 0) (gT := f_LMg d2 1) (gS := f_LMg d2 2) (gQ := f_LMg d2 3) (gP' := f_LMg d2 4) (ndP := 0) (exP := 0) (ndW := 0) (exW := 0) (by omega) (fun h => absurd h (by omega)) (fun h => absurd h (by omega)) (by omega) (fun h => absurd h (by omega)) (by omega)) (fun I L => f_Lag1 d1 a _ _ I L) (fun J => ?_)
    rw [f_LMg, if_neg (by decide), if_neg (by decide), if_neg (by decide), if_neg (by decide)]
  | succ z ih =>
    intro y dC dM hy hC hM
    obtain ⟨d1, rfl⟩ : ∃ d, dC = d + 5 + 1 := ⟨dC - 6, by omega⟩
    obtain ⟨d2, rfl⟩ : ∃ d, dM = d + 4 + 1 := ⟨dM - 5, by omega⟩
    have hp := ih (y + 1) (d1 + 5) (d2 + 4) (by omega) (by omega) (by omega)
    have hwh := w_chain hw ha (by omega) (ih (y + 1) d1 d2 (by omega) (by omega) (by omega))
    refine w_sp.cg (w_part hw ha (y := y) (gL := f_Lag (d1 + 5) 0) (gP := fun a y I L => f_Lag (d1 + 5) 1 a 0 y I L) (gW := f_LMg (d2 + 4) 0) (gT := f_LMg (d2 + 4) 1) (gS := f_LMg (d2 + 4) 2) (gQ := f_LMg (d2 + 4) 3) (gP' := f_LMg (d2 + 4) 4) (by omega) (fun _ => hp) (fun _ => hwh) (by omega) (fun h => by omega) (by omega)) (fun I L => f_Lag1 (d1 + 5) a _ _ I L) (fun J => ?_)
    rw [f_LMg, if_neg (by decide), if_neg (by decide), if_neg (by decide), if_neg (by decide)]
/-- a law read from the first token after its word -/
theorem w_law {t : List Nat} (hw : qt_w t) {N a : Nat} {M : lh_LL} (ha : 11 ≤ a ∧ a ≤ 23) : w_sp t N a M 25 29 (fun I L => f_Lag lh_deep 0 a 0 0 I L) (fun J => f_LMg lh_deep 0 0 J M) := by
  have h := w_chain hw ha (M := M) (N := N) (y := 0) (dC := 35) (dM := 36) (by omega) (w_parts hw ha 5 0 35 36 rfl (by omega) (by omega))
  exact h
