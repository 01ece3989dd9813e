/-! the class's reader goes on by one token -/
theorem tk_ch {t : List Nat} (hw : qt_w t) {i : Nat} (h : i < t.length) : q_ch (t.getD i 0) := by
  rw [List.getD_eq_getElem?_getD, List.getElem?_eq_getElem h]
  exact hw.2 _ (List.getElem_mem h)
theorem tk_ch_lt {t : List Nat} (hw : qt_w t) {i : Nat} (h : i < t.length) : t.getD i 0 < 128 := by
  have := tk_ch hw h
  unfold q_ch at this
  omega
theorem e_isLet : ∀ c, c < 128 → f_Re_isLetter (nI c) = some (q_b01 (tk_let c)) ∧ f_Re_isDigit (nI c) = some (q_b01 (tk_dig c)) ∧ f_LM_isLetter (nI c) = some (q_b01 (tk_let c)) ∧ f_LM_isDigit (nI c) = some (q_b01 (tk_dig c)) ∧ f_LM_isSignOf (nI c) = some (q_b01 (decide (tk_sc c < 37))) := by decide +kernel
theorem e_skip {t : List Nat} (hw : qt_w t) : ∀ (d f i : Nat) (I : lh_II), i + d = t.length → d < f → qt_c I t → I (1 + 4) 3 = nI i → ∃ I', f_Re_advance_0 f I = some I' ∧ I' (1 + 4) 3 = nI (tk_i t i) ∧ ∀ o k, ¬ (o = 5 ∧ k = 3) → I' o k = I o k
  | _, 0, _, _, _, h, _, _ => absurd h (by omega)
  | 0, f + 1, i, I, hd, hf, hc, hi => by
    have hl := hw.1
    refine ⟨I, ?_, ?_, fun _ _ _ => rfl⟩
    · rw [f_Re_advance_0, hc.1, hi]
      simp (disch := omega) only [z_le, show t.length ≤ i by omega, z_bs, z_gd, z_b1, z_b0, z_10, z_01, eq_self, reduceCtorEq, ↓reduceIte, if_true, if_false, Nat.not_lt_zero, not_true_eq_false, not_false_eq_true, Bool.false_eq_true, Nat.le_refl, Nat.lt_irrefl]
    · rw [hi]; unfold tk_i; rw [tk_end_ge _ _ (by omega)]
  | d + 1, f + 1, i, I, hd, hf, hc, hi => by
    have hi' : i < t.length := by omega
    have hl := hw.1
    have hlt := tk_ch_lt hw hi'
    have hc2 := hc.2 i hi'
    have hn : f_Re_advance_0 (f + 1) I = if tk_bl (t.getD i 0) = true then f_Re_advance_0 f (lh_u2 I (1 + 4) 3 (nI (i + 1))) else some I := by
      rw [f_Re_advance_0, hc.1, hi]
      unfold tk_bl
      by_cases h10 : t.getD i 0 = 10
      · simp (disch := omega) only [hc2, h10, z_le, z_ix, z_cl, z_eqR, z_addL, show ¬ t.length ≤ i by omega, true_or, decide_true, z_bs, z_gd, z_b1, z_b0, z_10, z_01, eq_self, reduceCtorEq, ↓reduceIte, if_true, if_false, Nat.not_lt_zero, not_true_eq_false, not_false_eq_true, Bool.false_eq_true, Nat.le_refl, Nat.lt_irrefl]
      · by_cases h32 : t.getD i 0 = 32
        · simp (disch := omega) only [hc2, h10, h32, z_le, z_ix, z_cl, z_eqR, z_addL, show ¬ t.length ≤ i by omega, or_true, decide_true, show ¬ (32 : Nat) = 10 by decide, z_bs, z_gd, z_b1, z_b0, z_10, z_01, eq_self, reduceCtorEq, ↓reduceIte, if_true, if_false, Nat.not_lt_zero, not_true_eq_false, not_false_eq_true, Bool.false_eq_true, Nat.le_refl, Nat.lt_irrefl]
        · simp (disch := omega) only [hc2, h10, h32, z_le, z_ix, z_cl, z_eqR, z_addL, show ¬ t.length ≤ i by omega, or_self, decide_false, z_bs, z_gd, z_b1, z_b0, z_10, z_01, eq_self, reduceCtorEq, ↓reduceIte, if_true, if_false, Nat.not_lt_zero, not_true_eq_false, not_false_eq_true, Bool.false_eq_true, Nat.le_refl, Nat.lt_irrefl]
    by_cases hb : tk_bl (t.getD i 0) = true
    · rw [if_pos hb] at hn
      obtain ⟨I', e1, e2, e3⟩ := e_skip hw d f (i + 1) (lh_u2 I (1 + 4) 3 (nI (i + 1))) (by omega) (by omega) ⟨by rw [q_u2o (by omega)]; exact hc.1, fun j hj => by rw [q_u2o (by omega)]; exact hc.2 j hj⟩ q_u2s
      refine ⟨I', by rw [hn, e1], by rw [e2]; unfold tk_i; rw [tk_end_y hi' hb], fun o k h => by rw [e3 o k h, q_u2o (by omega)]⟩
    · rw [if_neg hb] at hn
      exact ⟨I, hn, by rw [hi]; unfold tk_i; rw [tk_end_n hb], fun _ _ _ => rfl⟩
theorem tk_mono {p : Nat → Bool} {t : List Nat} {i : Nat} (h : i < t.length) : i + 1 ≤ tk_end p t (i + 1) := (tk_end_b p t (by omega)).1
theorem e_dstep {x c : Nat} (hx : x < 100010) (h1 : 48 ≤ c) (h2 : c ≤ 57) : ((((nI x * 10) - (nI x * 10) / 100000 * 100000) + nI c) - 48) = nI (x * 10 % 100000 + (c - 48)) := by
  have e : nI x * 10 = nI (x * 10) := z_mulL 10 x
  have e2 : nI (x * 10) - nI (x * 10) / 100000 * 100000 = nI (x * 10 % 100000) := pk_rem (a := x * 10) (d := 100000) (by omega) (by decide) (by decide)
  rw [e, e2, nI_add]
  have e3 : nI (x * 10 % 100000 + c) - 48 = nI (x * 10 % 100000 + c - 48) := z_subL 48 (by show 48 ≤ _; omega)
  rw [e3]
  congr 1
  omega
def tk_nx (x n : Nat) : Prop := (n ≤ 4 → x ≤ 9999) ∧ (n ≤ 3 → x ≤ 999) ∧ (n ≤ 2 → x ≤ 99) ∧ (n ≤ 1 → x ≤ 9) ∧ (n = 0 → x = 0)
theorem e_num {t : List Nat} (hw : qt_w t) {i0 : Nat} : ∀ (d f i x : Nat) (I : lh_II), i + d = t.length → d < f → i0 ≤ i → qt_c I t → I (1 + 4) 3 = nI i → I (1 + 4) 6 = nI x → x < 100010 → tk_nx x (i - i0) → (i - i0 ≤ 4 → x = tk_nm (tk_ws t i0 i)) → ∃ I' v, f_Re_readNumber_3 f I = some I' ∧ I' (1 + 4) 3 = nI (tk_end tk_dig t i) ∧ I' (1 + 4) 6 = nI v ∧ (tk_end tk_dig t i - i0 ≤ 4 → v = tk_nm (tk_ws t i0 (tk_end tk_dig t i)) ∧ v ≤ 9999) ∧ ∀ o k, ¬ (o = 5 ∧ (k = 3 ∨ k = 6)) → I' o k = I o k
  | _, 0, _, _, _, _, h, _, _, _, _, _, _, _ => absurd h (by omega)
  | 0, f + 1, i, x, I, hd, hf, h0, hc, hi, hx, hx1, hx2, hx3 => by
    have hl := hw.1
    have e : tk_end tk_dig t i = i := tk_end_ge _ _ (by omega)
    refine ⟨I, x, ?_, by rw [e]; exact hi, hx, fun h => ?_, fun _ _ _ => rfl⟩
    · rw [f_Re_readNumber_3, hc.1, hi]
      simp (disch := omega) only [z_le, show t.length ≤ i by omega, z_bs, z_gd, z_b1, z_b0, z_10, z_01, eq_self, reduceCtorEq, ↓reduceIte, if_true, if_false, Nat.not_lt_zero, not_true_eq_false, not_false_eq_true, Bool.false_eq_true, Nat.le_refl, Nat.lt_irrefl]
    · rw [e] at h ⊢
      exact ⟨hx3 h, hx2.1 h⟩
  | d + 1, f + 1, i, x, I, hd, hf, h0, hc, hi, hx, hx1, hx2, hx3 => by
    have hi' : i < t.length := by omega
    have hl := hw.1
    have hlt := tk_ch_lt hw hi'
    have hc2 := hc.2 i hi'
    have hD := (e_isLet _ hlt).2.1
    by_cases hb : tk_dig (t.getD i 0) = true
    · have hb' := hb
      unfold tk_dig at hb'
      simp only [decide_eq_true_eq] at hb'
      have hn : f_Re_readNumber_3 (f + 1) I = f_Re_readNumber_3 f (lh_u2 (lh_u2 I (1 + 4) 6 (nI (x * 10 % 100000 + (t.getD i 0 - 48)))) (1 + 4) 3 (nI (i + 1))) := by
        rw [f_Re_readNumber_3, q_u2o (by omega), hc.1, hi, z_cl (by omega), hc2, hx, e_dstep hx1 hb'.1 hb'.2, hD, hb]
        simp (disch := omega) only [z_le, z_ix, z_addL, show ¬ t.length ≤ i by omega, z_bs, z_gd, z_b1, z_b0, z_10, z_01, eq_self, reduceCtorEq, ↓reduceIte, if_true, if_false, Nat.not_lt_zero, not_true_eq_false, not_false_eq_true, Bool.false_eq_true, Nat.le_refl, Nat.lt_irrefl]
      have e := tk_end_y hi' hb
      have hm := tk_mono (p := tk_dig) hi'
      obtain ⟨I', v, e1, e2, e3, e4, e5⟩ := e_num hw (i0 := i0) d f (i + 1) (x * 10 % 100000 + (t.getD i 0 - 48)) _ (by omega) (by omega) (by omega) (show qt_c (lh_u2 (lh_u2 I (1 + 4) 6 (nI (x * 10 % 100000 + (t.getD i 0 - 48)))) (1 + 4) 3 (nI (i + 1))) t from ⟨by rw [q_u2o (by omega), q_u2o (by omega)]; exact hc.1, fun j hj => by rw [q_u2o (by omega), q_u2o (by omega)]; exact hc.2 j hj⟩) q_u2s (by rw [q_u2o (by omega), q_u2s]) (by omega) (by unfold tk_nx at hx2 ⊢; omega) (fun h => by
        rw [tk_ws_s t h0, tk_nm_s, ← hx3 (by omega)]
        unfold tk_nx at hx2
        omega)
      rw [← e] at e2 e4
      exact ⟨I', v, by rw [hn, e1], e2, e3, e4, fun o k h => by rw [e5 o k h, q_u2o (by omega), q_u2o (by omega)]⟩
    · have e : tk_end tk_dig t i = i := tk_end_n hb
      refine ⟨I, x, ?_, by rw [e]; exact hi, hx, fun h => ?_, fun _ _ _ => rfl⟩
      · rw [f_Re_readNumber_3, hc.1, hi, z_cl (by omega), hc2, hD, show tk_dig (t.getD i 0) = false by simpa using hb]
        simp (disch := omega) only [z_le, z_ix, show ¬ t.length ≤ i by omega, z_bs, z_gd, z_b1, z_b0, z_10, z_01, eq_self, reduceCtorEq, ↓reduceIte, if_true, if_false, Nat.not_lt_zero, not_true_eq_false, not_false_eq_true, Bool.false_eq_true, Nat.le_refl, Nat.lt_irrefl]
      · rw [e] at h ⊢
        exact ⟨hx3 h, hx2.1 h⟩
theorem e_lt64 : ∀ c, c < 128 → 97 ≤ c → c ≤ 122 → ((nI c - 97) + 1).toInt64 = lN (c - 96) := by decide +kernel
theorem e_wl {n c : Nat} (hn : n < 2 ^ 40) (h1 : 97 ≤ c) (h2 : c ≤ 122) : f_Re_withLetter (lN n) (nI c) = some (lN (n * 32 + (c - 96))) := by
  have e1 : lN n <<< ((5 : Int32).toInt64 &&& 63) = lN (n * 2 ^ 5) := wb_shl n (by decide)
  unfold f_Re_withLetter
  rw [e_lt64 c (by omega) h1 h2, e1, wb_or (by omega) (by omega), Nat.mul_comm, ← Nat.two_pow_add_eq_or_of_lt (by omega), Nat.mul_comm]
theorem e_let {t : List Nat} (hw : qt_w t) {i0 : Nat} : ∀ (d f i : Nat) (I : lh_II) (L : lh_LL), i + d = t.length → d < f → i0 ≤ i → qt_c I t → I (1 + 4) 3 = nI i → (∀ c ∈ tk_ws t i0 i, tk_let c = true) → (i - i0 ≤ 8 → L (1 + 4) 7 = lN (tk_cd 32 (tk_ws t i0 i))) → ∃ I' L', f_Re_readWord_3 f I L = some (I', L') ∧ I' (1 + 4) 3 = nI (tk_end tk_let t i) ∧ (∀ c ∈ tk_ws t i0 (tk_end tk_let t i), tk_let c = true) ∧ (tk_end tk_let t i - i0 ≤ 8 → L' (1 + 4) 7 = lN (tk_cd 32 (tk_ws t i0 (tk_end tk_let t i)))) ∧ (∀ o k, ¬ (o = 5 ∧ k = 3) → I' o k = I o k) ∧ ∀ o k, ¬ (o = 5 ∧ k = 7) → L' o k = L o k
  | _, 0, _, _, _, _, h, _, _, _, _, _ => absurd h (by omega)
  | 0, f + 1, i, I, L, hd, hf, h0, hc, hi, hx, hx3 => by
    have hl := hw.1
    have e : tk_end tk_let t i = i := tk_end_ge _ _ (by omega)
    rw [e]
    refine ⟨I, L, ?_, hi, hx, hx3, fun _ _ _ => rfl, fun _ _ _ => rfl⟩
    rw [f_Re_readWord_3, hc.1, hi]
    simp (disch := omega) only [z_le, show t.length ≤ i by omega, z_bs, z_gd, z_b1, z_b0, z_10, z_01, eq_self, reduceCtorEq, ↓reduceIte, if_true, if_false, Nat.not_lt_zero, not_true_eq_false, not_false_eq_true, Bool.false_eq_true, Nat.le_refl, Nat.lt_irrefl]
  | d + 1, f + 1, i, I, L, hd, hf, h0, hc, hi, hx, hx3 => by
    have hi' : i < t.length := by omega
    have hl := hw.1
    have hlt := tk_ch_lt hw hi'
    have hc2 := hc.2 i hi'
    have hD := (e_isLet _ hlt).1
    by_cases hb : tk_let (t.getD i 0) = true
    · have hb' := hb
      unfold tk_let at hb'
      simp only [decide_eq_true_eq] at hb'
      obtain ⟨zv, hv⟩ : ∃ zv, f_Re_withLetter (L (1 + 4) 7) (nI (t.getD i 0)) = some zv := ⟨_, rfl⟩
      have hn : f_Re_readWord_3 (f + 1) I L = f_Re_readWord_3 f (lh_u2 I (1 + 4) 3 (nI (i + 1))) (lh_v2 L (1 + 4) 7 zv) := by
        rw [f_Re_readWord_3, hc.1, hi, z_cl (by omega), hc2, hD, hb, hv]
        simp (disch := omega) only [z_le, z_ix, z_addL, show ¬ t.length ≤ i by omega, z_bs, z_gd, z_b1, z_b0, z_10, z_01, eq_self, reduceCtorEq, ↓reduceIte, if_true, if_false, Nat.not_lt_zero, not_true_eq_false, not_false_eq_true, Bool.false_eq_true, Nat.le_refl, Nat.lt_irrefl]
      have e := tk_end_y hi' hb
      have hm := tk_mono (p := tk_let) hi'
      obtain ⟨I', L', e1, e2, e3, e4, e5, e6⟩ := e_let hw (i0 := i0) d f (i + 1) (lh_u2 I (1 + 4) 3 (nI (i + 1))) (lh_v2 L (1 + 4) 7 zv) (by omega) (by omega) (by omega) ⟨by rw [q_u2o (by omega)]; exact hc.1, fun j hj => by rw [q_u2o (by omega)]; exact hc.2 j hj⟩ q_u2s (fun c h => by
        rw [tk_ws_s t h0, List.mem_append] at h
        rcases h with h | h
        · exact hx c h
        · simp only [List.mem_singleton] at h
          rw [h]; exact hb) (fun h => by
        have hcd : tk_cd 32 (tk_ws t i0 i) < 32 ^ 8 := tk_cd_lt (by decide) 8 _ (by unfold tk_ws; rw [List.length_map, List.length_range]; omega) hx
        rw [q_v2s, tk_ws_s t h0, tk_cd_s]
        rw [hx3 (by omega), e_wl (by omega) hb'.1 hb'.2] at hv
        cases hv
        rfl)
      rw [← e] at e2 e3 e4
      exact ⟨I', L', by rw [hn, e1], e2, e3, e4, fun o k h => by rw [e5 o k h, q_u2o (by omega)], fun o k h => by rw [e6 o k h, q_v2o (by omega)]⟩
    · have e : tk_end tk_let t i = i := tk_end_n hb
      rw [e]
      refine ⟨I, L, ?_, hi, hx, hx3, fun _ _ _ => rfl, fun _ _ _ => rfl⟩
      rw [f_Re_readWord_3, hc.1, hi, z_cl (by omega), hc2, hD, show tk_let (t.getD i 0) = false by simpa using hb]
      simp (disch := omega) only [z_le, z_ix, show ¬ t.length ≤ i by omega, z_bs, z_gd, z_b1, z_b0, z_10, z_01, eq_self, reduceCtorEq, ↓reduceIte, if_true, if_false, Nat.not_lt_zero, not_true_eq_false, not_false_eq_true, Bool.false_eq_true, Nat.le_refl, Nat.lt_irrefl]
/-- which word it is -/
theorem e_find {L : lh_LL} {n : Nat} (hn : n < 2 ^ 40) (hk : ∀ w, w < 27 → L (3 + 4) w = q_kw w) (hL : L (1 + 4) 7 = lN n) {ws : List Nat} (hw : ∀ c ∈ ws, tk_let c = true) (he : n = tk_cd 32 ws) : ∀ (d f w : Nat) (I : lh_II), w + d = 27 → d < f → I (1 + 4) 4 = 27 → (∀ v, v < w → tk_wd.getD v [] ≠ ws) → ∃ I', f_Re_readWord_46 L f (nI w) I = some I' ∧ I' (1 + 4) 4 = nI (tk_ix ws) ∧ ∀ o k, ¬ (o = 5 ∧ k = 4) → I' o k = I o k
  | _, 0, _, _, _, h, _, _ => absurd h (by omega)
  | 0, f + 1, w, I, hd, hf, hi, hv => by
    have e : tk_ix ws = 27 := by
      have h1 := tk_ix_le ws
      by_cases h2 : tk_ix ws < 27
      · exact absurd ((tk_ix_iff h2).mp rfl) (hv _ (by omega))
      · omega
    refine ⟨I, ?_, by rw [hi, e]; rfl, fun _ _ _ => rfl⟩
    rw [f_Re_readWord_46]
    simp (disch := omega) only [z_leL, show 27 ≤ w by omega, z_bs, z_gd, z_b1, z_b0, z_10, z_01, eq_self, reduceCtorEq, ↓reduceIte, if_true, if_false, Nat.not_lt_zero, not_true_eq_false, not_false_eq_true, Bool.false_eq_true, Nat.le_refl, Nat.lt_irrefl]
  | d + 1, f + 1, w, I, hd, hf, hi, hv => by
    obtain ⟨k1, -, k3, -, k5⟩ := tk_wd_c w (by omega)
    have ec : (lg_cmp (L (3 + 4) w) (L (1 + 4) 7) = 0) = (tk_wd.getD w [] = ws) := by
      rw [hk w (by omega), hL, k1]
      refine propext ((lg_cmp_eq _ _).trans ((fb_lN_inj (by omega) (by omega)).trans ⟨fun h => ?_, fun h => by rw [he, h]⟩))
      exact tk_cd_inj (B := 32) (by decide) _ _ _ (Nat.le_refl _) k5 hw (by rw [h, he])
    by_cases h : tk_wd.getD w [] = ws
    · have h9 : tk_ix ws = w := (tk_ix_iff (by omega)).mpr h
      obtain ⟨g, hg⟩ : ∃ g, f = g + 1 := ⟨f - 1, by omega⟩
      refine ⟨lh_u2 I (1 + 4) 4 (nI w), ?_, by rw [q_u2s, h9], fun o k h => by rw [q_u2o (by omega)]⟩
      rw [f_Re_readWord_46, z_cl (by omega), hi]
      simp (disch := omega) only [ec, z_leL, z_ix, z_addL, h, show ¬ 27 ≤ w by omega, z_bs, z_gd, z_b1, z_b0, z_10, z_01, eq_self, reduceCtorEq, ↓reduceIte, if_true, if_false, Nat.not_lt_zero, not_true_eq_false, not_false_eq_true, Bool.false_eq_true, Nat.le_refl, Nat.lt_irrefl]
      rw [hg, f_Re_readWord_46, q_u2s]
      by_cases h27 : 27 ≤ w + 1
      · simp (disch := omega) only [z_leL, h27, z_bs, z_gd, z_b1, z_b0, z_10, z_01, eq_self, reduceCtorEq, ↓reduceIte, if_true, if_false, Nat.not_lt_zero, not_true_eq_false, not_false_eq_true, Bool.false_eq_true, Nat.le_refl, Nat.lt_irrefl]
      · simp (disch := omega) only [z_leL, z_eqR, h27, show ¬ w = 27 by omega, z_bs, z_gd, z_b1, z_b0, z_10, z_01, eq_self, reduceCtorEq, ↓reduceIte, if_true, if_false, Nat.not_lt_zero, not_true_eq_false, not_false_eq_true, Bool.false_eq_true, Nat.le_refl, Nat.lt_irrefl]
    · obtain ⟨I', e1, e2⟩ := e_find hn hk hL hw he d f (w + 1) I (by omega) (by omega) hi (fun v hv' => by
        by_cases e : v = w
        · subst e; exact h
        · exact hv v (by omega))
      refine ⟨I', ?_, e2⟩
      rw [f_Re_readWord_46, z_cl (by omega), hi]
      simp (disch := omega) only [ec, z_leL, z_ix, z_addL, h, show ¬ 27 ≤ w by omega, z_bs, z_gd, z_b1, z_b0, z_10, z_01, eq_self, reduceCtorEq, ↓reduceIte, if_true, if_false, Nat.not_lt_zero, not_true_eq_false, not_false_eq_true, Bool.false_eq_true, Nat.le_refl, Nat.lt_irrefl]
      exact e1
theorem e_sgb : ∀ k, k < 8 → (lh_byt.getD 1 []).getD k 0 = nI (tk_sg.getD k 0) ∧ tk_sg.getD k 0 < 128 := by decide +kernel
theorem e_i8 : ∀ c, c < 128 → (nI c).toInt8.toInt32 = nI c ∧ ((nI c < 0) = False) ∧ ((255 < nI c) = False) := by decide +kernel
def tk_m1 : Option Nat → Int32
  | some k => nI k
  | none => -1
theorem e_sgn {c : Nat} (hc : c < 128) (I : lh_II) : f_St_indexOf1 1 (nI c) I = some (tk_m1 (q_fst (fun k => decide (tk_sg.getD k 0 = c)) 0 8)) := by
  obtain ⟨h8, h80, h255⟩ := e_i8 c hc
  have hl : lh_strl.getD 1 0 = 8 := by decide
  have hs : (nI 8) >>> ((0 : Int32) &&& 31) = nI 8 := by decide
  have key := q_forF (F := fun f k => f_SL_indexOfChar_5 1 (nI 8) (nI c) I f (nI k)) (N := 8) (p := fun k => decide (tk_sg.getD k 0 = c)) (fnd := fun k => (0, nI k)) (nf := (1, nI 8)) (fun m k hk => by
    show f_SL_indexOfChar_5 1 (nI 8) (nI c) I (m + 1) (nI k) = if _ then _ else f_SL_indexOfChar_5 1 (nI 8) (nI c) I m (nI (k + 1))
    obtain ⟨hb, hsg⟩ := e_sgb k hk
    rw [f_SL_indexOfChar_5, hl, z_cl (by omega), hb]
    by_cases h : tk_sg.getD k 0 = c
    · simp (disch := omega) only [z_le, z_eq, z_ix, h, show ¬ 8 ≤ k by omega, decide_true, z_bs, z_gd, z_b1, z_b0, z_10, z_01, eq_self, reduceCtorEq, ↓reduceIte, if_true, if_false, Nat.not_lt_zero, not_true_eq_false, not_false_eq_true, Bool.false_eq_true, Nat.le_refl, Nat.lt_irrefl]
    · simp (disch := omega) only [z_le, z_eq, z_ix, z_addL, h, show ¬ 8 ≤ k by omega, decide_false, z_bs, z_gd, z_b1, z_b0, z_10, z_01, eq_self, reduceCtorEq, ↓reduceIte, if_true, if_false, Nat.not_lt_zero, not_true_eq_false, not_false_eq_true, Bool.false_eq_true, Nat.le_refl, Nat.lt_irrefl]) (fun m => by
    show f_SL_indexOfChar_5 1 (nI 8) (nI c) I (m + 1) (nI 8) = _
    rw [f_SL_indexOfChar_5]
    simp (disch := omega) only [z_le, z_bs, z_gd, z_b1, z_b0, z_10, z_01, eq_self, reduceCtorEq, ↓reduceIte, if_true, if_false, Nat.not_lt_zero, not_true_eq_false, not_false_eq_true, Bool.false_eq_true, Nat.le_refl, Nat.lt_irrefl]) 8 lh_fuel 0 rfl (by decide)
  have key' : f_SL_indexOfChar_5 1 (nI 8) (nI c) I lh_fuel 0 = _ := key
  unfold f_St_indexOf1 f_St_indexOf2 f_St_isLatin1 f_St_length f_St_coder f_SL_indexOf f_SL_canEncode f_SL_indexOfChar
  simp (disch := omega) only [hl, hs, h8, h80, h255, show ((0 : Int32) < 0) = False by decide, show ((0 : Int32) < nI 8) = True by decide, z_lt, key', z_bs, z_gd, z_b1, z_b0, z_10, z_01, eq_self, reduceCtorEq, ↓reduceIte, if_true, if_false, Nat.not_lt_zero, not_true_eq_false, not_false_eq_true, Bool.false_eq_true, Nat.le_refl, Nat.lt_irrefl]
  cases q_fst (fun k => decide (tk_sg.getD k 0 = c)) 0 8 with
  | none => simp (disch := omega) only [z_bs, Nat.one_ne_zero, ↓reduceIte]; rfl
  | some k => simp (disch := omega) only [z_bs, ↓reduceIte]; rfl
