/-! a name, on both sides; a word and a number behind it -/
section Q88h
variable {t : List Nat} {a q N n : Nat} {I : lh_II} {L : lh_LL} {J : lh_II} {M : lh_LL} {ns : List (List Nat)}
theorem ln_name (hw : qt_w t) (hq : 82 ≤ q) {x lim c : Nat} (hx : x ≤ 2) (hlim : lim ≤ 6) (hc : r_c t (n + 1) I L) (hm : r_m t N n J M) (h37 : tk_C t n ≠ 37) (h8 : I (1 + 4) 8 = 0) (h8' : J (65 + 4) 8 = 0) (hnc : nm_c q ns I L) (hnm : nm_m ns J M) (hnw : nm_w ns) (h10 : ns.length < 10) (hcc : J (71 + 4) (100 + x) = nI c) (hcl : c < lim) : ∃ I2 L2 J2 M2, ((f_Hr_readName a q I L = some (0, I2, L2) ∧ f_LM_readName (nI x) (nI lim) J M = some (J2, M2) ∧ ln_no I2 J2) ∨ (f_Hr_readName a q I L = some (1, I2, L2) ∧ f_LM_readName (nI x) (nI lim) J M = some (J2, M2) ∧ I2 (1 + 4) 8 = 0 ∧ J2 (65 + 4) 8 = 0 ∧ r_c t (n + 2) I2 L2 ∧ r_m t N (n + 2) J2 M2 ∧ (∃ w, nm_w (ns ++ [w]) ∧ nm_c q (ns ++ [w]) I2 L2 ∧ nm_m (ns ++ [w]) J2 M2) ∧ J2 (71 + 4) (100 + x) = nI (c + 1))) ∧ (∀ o k, ¬ (o = 5 ∧ 3 ≤ k ∧ k ≤ 8) → ¬ (o = q + 4 ∧ k = 3) → I2 o k = I o k) ∧ h_lf q L L2 ∧ (∀ o k, ¬ (o = 69 ∧ (k = 7 ∨ k = 8 ∨ k = 15)) → ¬ (o = 75 ∧ k = 100 + x) → J2 o k = J o k) ∧ h_nf M M2 := by
  have hl0 := hw.1
  have hP := tk_P_le t (n + 1)
  have hn := hm.nx h37
  have er := m_rname hw hm h8' h37 hx hlim hcc hcl hnm hnw h10
  by_cases hC : 23 ≤ tk_C t (n + 1) ∧ tk_C t (n + 1) ≤ 27
  · rw [if_pos hC] at er
    by_cases ht : (q_fst (nm_p ns (tk_W t (n + 1))) 0 ns.length).isSome = true
    · rw [if_pos ht] at er
      exact ⟨_, _, _, _, Or.inl ⟨e_rname3 hc h8 hC hnc hnw h10 ht, er, ⟨3 + 16 * tk_P t (n + 1), tk_fb (by decide) (by decide) (by omega), q_u2s, q_u2s⟩⟩, fun o k h1 h2 => q_u2o (by omega), fun _ _ _ _ => rfl, fun o k h1 h2 => by rw [q_u2o (by omega), q_u2o (by omega)], fun _ _ _ => rfl⟩
    · rw [if_neg ht] at er
      obtain ⟨I2, L2, b1, b2, b3, b4, b5, b6⟩ := e_rname1 (a := a) hw hq hc hC hnc hnw h10 ht
      have hm1 : r_m t N (n + 1) (lh_u2 J (65 + 4) 7 (nI (n + 1))) M := hm.kp (by omega) q_u2s (fun o k ho => by rw [q_u2o (by omega)])
      have hn1 := hm1.nx (by omega)
      have hwd := tk_C_w hC.2
      have hM : M (69 + 4) (n + 1) = lN (tk_cd 37 (tk_W t (n + 1))) := (hm.2.2.2.1 (n + 1) (by omega)).2.2.1 hC.2
      refine ⟨I2, L2, _, _, Or.inr ⟨b1, er, by rw [b3 _ _ (by omega) (by omega)]; exact h8, by rw [q_u2o (by omega), q_u2o (by omega), q_u2o (by omega), q_u2o (by omega)]; exact h8', b2, hm.kq (by omega) (by rw [q_u2o (by omega), q_u2s]) (fun o k ho => by rw [q_u2o (by omega), q_u2o (by omega), q_u2o (by omega), q_u2o (by omega)]) (fun o k ho => q_v2o (by omega)), ⟨tk_W t (n + 1), hnw.ap hwd.2.1 hwd.2.2, hnc.ap b5 (fun k hk => b4 _ _ (by omega) (by omega)) (by rw [show q + 5 = q + 1 + 4 by omega]; exact b6), hnm.ap (by rw [q_u2o (by omega), q_u2o (by omega), q_u2s]) (fun k hk => q_v2o (by omega)) (by rw [q_v2s]; exact hM)⟩, q_u2s⟩, fun o k h1 h2 => b3 _ _ (by omega) h2, fun o k h1 h2 => b4 _ _ h1 (by omega), fun o k h1 h2 => by rw [q_u2o (by omega), q_u2o (by omega), q_u2o (by omega), q_u2o (by omega)], fun o k h => q_v2o (by omega)⟩
  · rw [if_neg hC] at er
    exact ⟨_, _, _, _, Or.inl ⟨e_rname0 hc h8 hC, er, ⟨1 + 16 * tk_P t (n + 1), tk_fb (by decide) (by decide) (by omega), q_u2s, q_u2s⟩⟩, fun o k h1 h2 => q_u2o (by omega), fun _ _ _ _ => rfl, fun o k h1 h2 => by rw [q_u2o (by omega), q_u2o (by omega)], fun _ _ _ => rfl⟩
theorem ln_after (hw : qt_w t) {w hi : Nat} (hw7 : w < 27) (hhi : hi < 128) (hc : r_c t n I L) (hm : r_m t N n J M) (h8 : I (1 + 4) 8 = 0) (h8' : J (65 + 4) 8 = 0) : ∃ I3 L3 J3, ((∃ v, f_Re_take (nI w) I L = some (1, I3, L3) ∧ f_Re_wantNumber (nI 0) (nI hi) I3 = some (1, I3) ∧ f_LM_takeAfter (nI w) (nI 0) (nI hi) J M = some (nI v, J3) ∧ v ≤ hi ∧ I3 (1 + 4) 6 = nI v ∧ r_c t (n + 1) I3 L3 ∧ r_m t N (n + 2) J3 M ∧ I3 (1 + 4) 8 = 0 ∧ J3 (65 + 4) 8 = 0) ∨ (f_LM_takeAfter (nI w) (nI 0) (nI hi) J M = some (0, J3) ∧ ln_no I3 J3 ∧ (f_Re_take (nI w) I L = some (0, I3, L3) ∨ ∃ I4, f_Re_take (nI w) I L = some (1, I4, L3) ∧ f_Re_wantNumber (nI 0) (nI hi) I4 = some (0, I3)))) ∧ (∀ o k, ¬ (o = 5 ∧ 3 ≤ k ∧ k ≤ 8) → I3 o k = I o k) ∧ r_lf L L3 ∧ (∀ o k, ¬ (o = 69 ∧ (k = 7 ∨ k = 8)) → J3 o k = J o k) := by
  have hl0 := hw.1
  have hP := tk_P_le t n
  have hP1 := tk_P_le t (n + 1)
  obtain ⟨et1, et0⟩ := e_take hw hc h8 (x := w) (by omega)
  by_cases hC : tk_C t n = w
  · obtain ⟨I1, L1, a1, a2, a3, a4⟩ := et1 hC
    have hn := hm.nx (by omega)
    have hI8 : I1 (1 + 4) 8 = 0 := by rw [a3 _ _ (by omega)]; exact h8
    have ew := e_want a2 hI8 (lo := 0) (hi := hi) (by decide) (by omega)
    have ea := m_tafter1 hw hm h8' hw7 hC (lo := 0) (hi := hi) (by decide) hhi
    by_cases h0 : tk_nf 0 hi t (n + 1) = 0
    · obtain ⟨k1, k2, k3⟩ := tk_nf0 h0
      have hm1 : r_m t N (n + 1) (lh_u2 J (65 + 4) 7 (nI (n + 1))) M := hm.kp (by omega) q_u2s (fun o k ho => by rw [q_u2o (by omega)])
      have hn1 := hm1.nx (by omega)
      rw [if_pos h0] at ew ea
      exact ⟨I1, L1, _, Or.inl ⟨tk_V t (n + 1), a1, ew, ea, k3, (a2.2.2.2.2.1 k1).1, a2, hm1.kp (by omega) q_u2s (fun o k ho => by rw [q_u2o (by omega)]), hI8, by rw [q_u2o (by omega), q_u2o (by omega)]; exact h8'⟩, fun o k h => a3 _ _ (by omega), a4, fun o k h => by rw [q_u2o (by omega), q_u2o (by omega)]⟩
    · rw [if_neg h0] at ew ea
      have h4 := tk_nf4 0 hi t (n + 1)
      exact ⟨_, L1, _, Or.inr ⟨ea, ⟨tk_nf 0 hi t (n + 1) + 16 * tk_P t (n + 1), tk_fb (by omega) (by omega) (by omega), q_u2s, q_u2s⟩, Or.inr ⟨I1, a1, ew⟩⟩, fun o k h => by rw [q_u2o (by omega), a3 _ _ (by omega)], a4, fun o k h => by rw [q_u2o (by omega), q_u2o (by omega)]⟩
  · have ea := m_tafter0 hw hm h8' hw7 hC (nI 0) (nI hi)
    exact ⟨_, L, _, Or.inr ⟨ea, ⟨1 + 16 * tk_P t n, tk_fb (by omega) (by omega) (by omega), q_u2s, q_u2s⟩, Or.inl (et0 hC)⟩, fun o k h => q_u2o (by omega), fun _ _ _ => rfl, fun o k h => q_u2o (by omega)⟩
end Q88h
