/-! the class's token -/
theorem tk_run_all (p : Nat → Bool) (t : List Nat) : ∀ (d i k : Nat), i + k < tk_run p t d i → p (t.getD (i + k) 0) = true
  | 0, i, k, h => by unfold tk_run at h; omega
  | d + 1, i, k, h => by
    unfold tk_run at h
    split at h
    · next hp =>
      cases k with
      | zero => exact hp
      | succ k =>
        have := tk_run_all p t d (i + 1) k (by omega)
        rwa [show i + (k + 1) = i + 1 + k by omega]
    · omega
theorem tk_ws_all {p : Nat → Bool} {t : List Nat} {i : Nat} : ∀ c ∈ tk_ws t i (tk_end p t i), p c = true := by
  intro c hc
  unfold tk_ws at hc
  rw [List.mem_map] at hc
  obtain ⟨k, hk, rfl⟩ := hc
  rw [List.mem_range] at hk
  exact tk_run_all p t (t.length - i) i k (by unfold tk_end at hk; omega)
theorem tk_ws_len (t : List Nat) (i j : Nat) : (tk_ws t i j).length = j - i := by unfold tk_ws; rw [List.length_map, List.length_range]
theorem tk_sc_b (c : Nat) : (29 ≤ tk_sc c ∧ tk_sc c < 37) ∨ tk_sc c = 38 := by
  unfold tk_sc
  cases e : q_fst (fun k => decide (tk_sg.getD k 0 = c)) 0 8 with
  | none => exact Or.inr rfl
  | some k => have := q_fst_lt e; left; show 29 ≤ 29 + k ∧ 29 + k < 37; omega
theorem e_word {t : List Nat} (hw : qt_w t) {i : Nat} (hi : i ≤ t.length) {I : lh_II} {L : lh_LL} (hc : qt_c I t) (h3 : I (1 + 4) 3 = nI i) (h5 : I (1 + 4) 5 = nI i) (hk : ∀ w, w < 27 → L (3 + 4) w = q_kw w) : ∃ I' L', f_Re_readWord I L = some (I', L') ∧ I' (1 + 4) 3 = nI (tk_end tk_let t i) ∧ I' (1 + 4) 4 = nI (if tk_end tk_let t i - i ≤ 8 then tk_ix (tk_ws t i (tk_end tk_let t i)) else 38) ∧ (tk_end tk_let t i - i ≤ 8 → L' (1 + 4) 7 = lN (tk_cd 32 (tk_ws t i (tk_end tk_let t i)))) ∧ (∀ o k, ¬ (o = 5 ∧ (k = 3 ∨ k = 4)) → I' o k = I o k) ∧ ∀ o k, ¬ (o = 5 ∧ k = 7) → L' o k = L o k := by
  have hl := hw.1
  have hb := tk_end_b tk_let t hi
  obtain ⟨I1, L1, e1, e2, e3, e4, e5, e6⟩ := e_let hw (i0 := i) (t.length - i) lh_fuel i I (lh_v2 L (1 + 4) 7 0) (by omega) (by unfold lh_fuel; omega) (Nat.le_refl _) hc h3 (by rw [tk_ws_0]; simp) (fun _ => by rw [tk_ws_0, q_v2s]; rfl)
  have h51 : I1 (1 + 4) 5 = nI i := by rw [e5 _ _ (by omega)]; exact h5
  unfold f_Re_readWord
  rw [e1, z_bs]
  simp only [e2, h51]
  rw [z_sub hb.1]
  by_cases h8 : tk_end tk_let t i - i ≤ 8
  · have hcd : tk_cd 32 (tk_ws t i (tk_end tk_let t i)) < 32 ^ 8 := tk_cd_lt (by decide) 8 _ (by rw [tk_ws_len]; exact h8) e3
    obtain ⟨I2, g1, g2, g3⟩ := e_find (L := L1) (n := tk_cd 32 (tk_ws t i (tk_end tk_let t i))) (by omega) (fun w h => by rw [e6 _ _ (by omega), q_v2o (by omega)]; exact hk w h) (e4 h8) e3 rfl 27 lh_fuel 0 (lh_u2 I1 (1 + 4) 4 27) rfl (by decide) q_u2s (fun v h => by omega)
    have g1' : f_Re_readWord_46 L1 lh_fuel 0 (lh_u2 I1 (1 + 4) 4 27) = some I2 := g1
    rw [if_neg (by rw [z_ltL 8 (by decide) (by omega)]; show ¬ 8 < _; omega), g1', z_bs, if_pos h8]
    refine ⟨I2, L1, rfl, ?_, g2, e4, fun o k h => ?_, fun o k h => ?_⟩
    · rw [g3 _ _ (by omega), q_u2o (by omega)]; exact e2
    · rw [g3 _ _ (by omega), q_u2o (by omega), e5 _ _ (by omega)]
    · rw [e6 _ _ h, q_v2o (by omega)]
  · have g1 : f_Re_readWord_46 L1 lh_fuel 0 (lh_u2 I1 (1 + 4) 4 38) = some (lh_u2 I1 (1 + 4) 4 38) := by
      show f_Re_readWord_46 L1 (4999 + 1) 0 (lh_u2 I1 (1 + 4) 4 38) = _
      rw [f_Re_readWord_46, if_neg (by decide), q_u2s, if_neg (by decide)]
    rw [if_pos (by rw [z_ltL 8 (by decide) (by omega)]; show 8 < _; omega), g1, z_bs, if_neg h8]
    refine ⟨_, L1, rfl, ?_, q_u2s, fun h => absurd h h8, fun o k h => ?_, fun o k h => ?_⟩
    · rw [q_u2o (by omega)]; exact e2
    · rw [q_u2o (by omega), e5 _ _ (by omega)]
    · rw [e6 _ _ h, q_v2o (by omega)]
theorem e_number {t : List Nat} (hw : qt_w t) {i : Nat} (hi : i ≤ t.length) {I : lh_II} (hc : qt_c I t) (h3 : I (1 + 4) 3 = nI i) (h5 : I (1 + 4) 5 = nI i) : ∃ I', f_Re_readNumber I = some I' ∧ I' (1 + 4) 3 = nI (tk_end tk_dig t i) ∧ I' (1 + 4) 4 = nI (if tk_end tk_dig t i - i ≤ 4 then 28 else 38) ∧ (tk_end tk_dig t i - i ≤ 4 → I' (1 + 4) 6 = nI (tk_nm (tk_ws t i (tk_end tk_dig t i))) ∧ tk_nm (tk_ws t i (tk_end tk_dig t i)) ≤ 9999) ∧ (∀ o k, ¬ (o = 5 ∧ (k = 3 ∨ k = 4 ∨ k = 6)) → I' o k = I o k) := by
  have hl := hw.1
  have hb := tk_end_b tk_dig t hi
  obtain ⟨I1, v, e1, e2, e3, e4, e5⟩ := e_num hw (i0 := i) (t.length - i) lh_fuel i 0 (lh_u2 I (1 + 4) 6 0) (by omega) (by unfold lh_fuel; omega) (Nat.le_refl _) ⟨by rw [q_u2o (by omega)]; exact hc.1, fun j hj => by rw [q_u2o (by omega)]; exact hc.2 j hj⟩ (by rw [q_u2o (by omega)]; exact h3) q_u2s (by decide) (by unfold tk_nx; omega) (fun _ => by rw [tk_ws_0]; rfl)
  have h51 : I1 (1 + 4) 5 = nI i := by rw [e5 _ _ (by omega), q_u2o (by omega)]; exact h5
  unfold f_Re_readNumber
  rw [e1, z_bs]
  simp only [e2, h51]
  rw [z_sub hb.1]
  by_cases h8 : tk_end tk_dig t i - i ≤ 4
  · rw [if_neg (by rw [z_ltL 4 (by decide) (by omega)]; show ¬ 4 < _; omega), if_pos h8]
    refine ⟨_, rfl, ?_, q_u2s, fun h => ?_, fun o k h => ?_⟩
    · rw [q_u2o (by omega)]; exact e2
    · obtain ⟨e7, e8⟩ := e4 h
      rw [q_u2o (by omega), e3, ← e7]
      exact ⟨rfl, e8⟩
    · rw [q_u2o (by omega), e5 _ _ (by omega), q_u2o (by omega)]
  · rw [if_pos (by rw [z_ltL 4 (by decide) (by omega)]; show 4 < _; omega), if_neg h8]
    refine ⟨_, rfl, ?_, q_u2s, fun h => absurd h h8, fun o k h => ?_⟩
    · rw [q_u2o (by omega)]; exact e2
    · rw [q_u2o (by omega), e5 _ _ (by omega), q_u2o (by omega)]
theorem e_advance {t : List Nat} (hw : qt_w t) {i : Nat} (hi : i ≤ t.length) {I : lh_II} {L : lh_LL} (hc : qt_c I t) (h3 : I (1 + 4) 3 = nI i) (hk : ∀ w, w < 27 → L (3 + 4) w = q_kw w) : ∃ I' L', f_Re_advance I L = some (I', L') ∧ I' (1 + 4) 3 = nI (tk_n t i) ∧ I' (1 + 4) 4 = nI (tk_c t i) ∧ I' (1 + 4) 5 = nI (tk_i t i) ∧ (tk_c t i = 28 → I' (1 + 4) 6 = nI (tk_v t i) ∧ tk_v t i ≤ 9999) ∧ (tk_c t i ≤ 27 → L' (1 + 4) 7 = lN (tk_cd 32 (tk_w t i))) ∧ (∀ o k, ¬ (o = 5 ∧ (k = 3 ∨ k = 4 ∨ k = 5 ∨ k = 6)) → I' o k = I o k) ∧ ∀ o k, ¬ (o = 5 ∧ k = 7) → L' o k = L o k := by
  have hl := hw.1
  obtain ⟨I1, e1, e2, e3⟩ := e_skip hw (t.length - i) lh_fuel i I (by omega) (by unfold lh_fuel; omega) hc h3
  have hj := tk_i_le t hi
  unfold f_Re_advance
  rw [e1, z_bs, e2]
  obtain ⟨zJ, hJ⟩ : ∃ zJ, zJ = lh_u2 I1 (1 + 4) 5 (nI (tk_i t i)) := ⟨_, rfl⟩
  rw [← hJ]
  have j3 : zJ (1 + 4) 3 = nI (tk_i t i) := by rw [hJ, q_u2o (by omega)]; exact e2
  have j5 : zJ (1 + 4) 5 = nI (tk_i t i) := by rw [hJ, q_u2s]
  have jc : qt_c zJ t := ⟨by rw [hJ, q_u2o (by omega), e3 _ _ (by omega)]; exact hc.1, fun k hk => by rw [hJ, q_u2o (by omega), e3 _ _ (by omega)]; exact hc.2 k hk⟩
  have jf : ∀ o k, ¬ (o = 5 ∧ (k = 3 ∨ k = 5)) → zJ o k = I o k := fun o k h => by rw [hJ, q_u2o (by omega), e3 _ _ (by omega)]
  rw [j3, jc.1]
  unfold tk_n tk_c
  by_cases he : t.length ≤ tk_i t i
  · rw [if_neg (by rw [z_lt (by omega) (by omega)]; omega), if_pos he, if_pos he]
    refine ⟨_, L, rfl, ?_, q_u2s, ?_, fun h => absurd h (by decide), fun h => absurd h (by decide), fun o k h => ?_, fun _ _ _ => rfl⟩
    · rw [q_u2o (by omega), j3, show tk_i t i = t.length by omega]
    · rw [q_u2o (by omega), j5]
    · rw [q_u2o (by omega), jf _ _ (by omega)]
  · have hlt : tk_i t i < t.length := by omega
    have hch := tk_ch_lt hw hlt
    obtain ⟨t1, t2, -⟩ := e_isLet _ hch
    rw [if_pos (by rw [z_lt (by omega) (by omega)]; omega), if_neg he, if_neg he]
    simp (disch := omega) only [z_ix, z_cl, z_gd, jc.2 _ hlt, t1, t2, z_bs]
    by_cases hle : tk_let (t.getD (tk_i t i) 0) = true
    · rw [if_pos hle, if_pos hle, hle]
      obtain ⟨I2, L2, g1, g2, g3, g4, g5, g6⟩ := e_word hw hj.2 jc j3 j5 hk
      simp only [z_b1, z_10, ↓reduceIte, g1, z_bs]
      refine ⟨I2, L2, rfl, g2, g3, by rw [g5 _ _ (by omega)]; exact j5, fun h => ?_, fun h => ?_, fun o k h => ?_, g6⟩
      · exfalso
        split at h
        · have := tk_ix_le (tk_ws t (tk_i t i) (tk_end tk_let t (tk_i t i))); omega
        · omega
      · split at h
        · next h8 => exact g4 h8
        · omega
      · rw [g5 _ _ (by omega), jf _ _ (by omega)]
    · rw [if_neg hle, if_neg hle, show tk_let (t.getD (tk_i t i) 0) = false by simpa using hle]
      simp only [z_b0, ↓reduceIte]
      by_cases hdi : tk_dig (t.getD (tk_i t i) 0) = true
      · rw [if_pos hdi, if_pos hdi, hdi]
        obtain ⟨I2, g1, g2, g3, g4, g5⟩ := e_number hw hj.2 jc j3 j5
        simp only [z_b1, z_10, ↓reduceIte, g1, z_bs]
        refine ⟨I2, L, rfl, g2, g3, by rw [g5 _ _ (by omega)]; exact j5, fun h => ?_, fun h => ?_, fun o k h => ?_, fun _ _ _ => rfl⟩
        · split at h
          · next h8 => exact g4 h8
          · omega
        · split at h <;> omega
        · rw [g5 _ _ (by omega), jf _ _ (by omega)]
      · rw [if_neg hdi, if_neg hdi, show tk_dig (t.getD (tk_i t i) 0) = false by simpa using hdi]
        simp only [z_b0, ↓reduceIte, e_sgn hch, z_bs]
        have hsc := tk_sc_b (t.getD (tk_i t i) 0)
        have key : (if tk_m1 (q_fst (fun k => decide (tk_sg.getD k 0 = t.getD (tk_i t i) 0)) 0 8) < 0 then some (lh_u2 (lh_u2 zJ (1 + 4) 4 38) (1 + 4) 3 (lh_u2 zJ (1 + 4) 4 38 (1 + 4) 3 + 1), L) else some (lh_u2 (lh_u2 zJ (1 + 4) 4 (29 + tk_m1 (q_fst (fun k => decide (tk_sg.getD k 0 = t.getD (tk_i t i) 0)) 0 8))) (1 + 4) 3 (lh_u2 zJ (1 + 4) 4 (29 + tk_m1 (q_fst (fun k => decide (tk_sg.getD k 0 = t.getD (tk_i t i) 0)) 0 8)) (1 + 4) 3 + 1), L)) = some (lh_u2 (lh_u2 zJ (1 + 4) 4 (nI (tk_sc (t.getD (tk_i t i) 0)))) (1 + 4) 3 (nI (tk_i t i + 1)), L) := by
          rw [q_u2o (by omega), q_u2o (by omega), j3, z_addL]
          unfold tk_sc
          cases e : q_fst (fun k => decide (tk_sg.getD k 0 = t.getD (tk_i t i) 0)) 0 8 with
          | none => rfl
          | some k =>
            have := q_fst_lt e
            show (if nI k < 0 then _ else some (lh_u2 (lh_u2 zJ (1 + 4) 4 (29 + nI k)) (1 + 4) 3 _, L)) = some (lh_u2 (lh_u2 zJ (1 + 4) 4 (nI (29 + k))) (1 + 4) 3 _, L)
            rw [if_neg (by rw [z_ltR 0 (by decide) (by omega)]; exact Nat.not_lt_zero _), z_addR]
        refine ⟨_, L, key, q_u2s, by rw [q_u2o (by omega), q_u2s], by rw [q_u2o (by omega), q_u2o (by omega)]; exact j5, fun h => ?_, fun h => ?_, fun o k h => ?_, fun _ _ _ => rfl⟩
        · omega
        · omega
        · rw [q_u2o (by omega), q_u2o (by omega), jf _ _ (by omega)]
