theorem tc_Mo_init {Γ : lh_Cx} {h : lh_Hp} {o : Nat} {K : lh_Hp → Prop} (hK : K h) : lh_Met Γ m_Mo_init 1 0 0 [.ref (o + 4)] h (lh_kv K) := by
  refine lh_ofG k_Mo_init [(0, .ref (o + 4))] rfl (Nat.le_of_ble_eq_true rfl) rfl ?_
  refine lh_aload_n (q := 0) rfl rfl rfl ?_
  refine lh_objInit rfl rfl ⟨rfl, rfl⟩ rfl ?_
  exact lh_vret rfl rfl hK
theorem lh_laym_of {F : lh_FF} {S : lh_SS} (hs : ∀ k, k < 16 → S[65 + k]? = lh_SM[k]?) (hr : ∀ (k : Nat) (q : Nat × Nat × Nat), lh_RM[k]? = some q → F (q.1 + 4) q.2.1 = q.2.2 + 4) : lh_laym F S := by
  refine ⟨fun k q hk => ?_, hr⟩
  have hl : k < 16 := (List.getElem?_eq_some_iff.mp hk).1
  rw [hs k hl]; exact hk
theorem tc_Wa_init_4 {Γ : lh_Cx} {I : lh_II} {L : lh_LL} {F : lh_FF} {K : lh_Hp → Prop} (hG : lh_GX Γ) (hzI : lh_za 0 5 I) (hzL : lh_za 0 5 L) (hzF : lh_za 0 5 F) (hK : K (I, L, lh_f2 (lh_f2 F (4 + 4) 0 (5 + 4)) (4 + 4) 1 (6 + 4), lh_SH.take 7)) : lh_Met Γ m_Wa_init 1 2 24 [.ref (4 + 4)] (I, L, F, lh_SH.take 5) (lh_kv K) := by
  refine lh_ofG k_Wa_init [(0, .ref (4 + 4))] rfl (Nat.le_of_ble_eq_true rfl) rfl ?_
  refine lh_aload_n (q := 0) rfl rfl rfl ?_
  refine lh_objInit rfl rfl ⟨rfl, rfl⟩ rfl ?_
  refine lh_aload_n (q := 0) rfl rfl rfl ?_
  refine lh_bipush rfl lh_b_12 ?_
  refine lh_newa4 (u := 1) (N := 12) (n := 5) (S' := (lh_SH.take 6)) (bc := 1) (bs := 12) rfl (Or.inr (Or.inl ⟨rfl, rfl⟩)) (by decide) (by decide) (by decide) (by rfl) (by rfl) hzI.at hzL.at hzF.at ?_
  refine lh_putF4 rfl rfl rfl rfl rfl rfl rfl ?_
  refine lh_aload_n (q := 0) rfl rfl rfl ?_
  refine lh_bipush rfl lh_b_12 ?_
  refine lh_newa4 (u := 1) (N := 12) (n := 6) (S' := (lh_SH.take 7)) (bc := 0) (bs := 0) rfl (Or.inr (Or.inl ⟨rfl, rfl⟩)) (by decide) (by decide) (by decide) (by rfl) (by rfl) (hzI.mono (n' := 6) (by decide)).at (hzL.mono (n' := 6) (by decide)).at ((hzF.mono (n' := 6) (by decide)).f2 (by decide)).at ?_
  refine lh_putF4 rfl rfl rfl rfl rfl rfl rfl ?_
  exact lh_vret rfl rfl hK
theorem tc_La_init_12 {Γ : lh_Cx} {I : lh_II} {L : lh_LL} {F : lh_FF} {K : lh_Hp → Prop} (hG : lh_GX Γ) (hzI : lh_za 0 13 I) (hzL : lh_za 0 13 L) (hzF : lh_za 0 13 F) (hK : K (I, L, lh_f2 (lh_f2 F (12 + 4) 0 (13 + 4)) (12 + 4) 1 (14 + 4), lh_SH.take 15)) : lh_Met Γ m_La_init 1 2 1032 [.ref (12 + 4)] (I, L, F, lh_SH.take 13) (lh_kv K) := by
  refine lh_ofG k_La_init [(0, .ref (12 + 4))] rfl (Nat.le_of_ble_eq_true rfl) rfl ?_
  refine lh_aload_n (q := 0) rfl rfl rfl ?_
  refine lh_objInit rfl rfl ⟨rfl, rfl⟩ rfl ?_
  refine lh_aload_n (q := 0) rfl rfl rfl ?_
  refine lh_sipush rfl lh_s_1000 ?_
  refine lh_newa4 (u := 0) (N := 1000) (n := 13) (S' := (lh_SH.take 14)) (bc := 1) (bs := 32) rfl (Or.inl ⟨rfl, rfl⟩) (by decide) (by decide) (by decide) (by rfl) (by rfl) hzI.at hzL.at hzF.at ?_
  refine lh_putF4 rfl rfl rfl rfl rfl rfl rfl ?_
  refine lh_aload_n (q := 0) rfl rfl rfl ?_
  refine lh_bipush rfl lh_b_32 ?_
  refine lh_newa4 (u := 0) (N := 32) (n := 14) (S' := (lh_SH.take 15)) (bc := 0) (bs := 0) rfl (Or.inl ⟨rfl, rfl⟩) (by decide) (by decide) (by decide) (by rfl) (by rfl) (hzI.mono (n' := 14) (by decide)).at (hzL.mono (n' := 14) (by decide)).at ((hzF.mono (n' := 14) (by decide)).f2 (by decide)).at ?_
  refine lh_putF4 rfl rfl rfl rfl rfl rfl rfl ?_
  exact lh_vret rfl rfl hK
theorem tc_Ha_init_11 {Γ : lh_Cx} {I : lh_II} {L : lh_LL} {F : lh_FF} {K : lh_Hp → Prop} (hG : lh_GX Γ) (hzI : lh_za 0 12 I) (hzL : lh_za 0 12 L) (hzF : lh_za 0 12 F) (hK : K (I, L, lh_f2 (lh_f2 (lh_f2 (lh_f2 (lh_f2 (lh_f2 (lh_f2 (lh_f2 (lh_f2 (lh_f2 (lh_f2 F (12 + 4) 0 (13 + 4)) (12 + 4) 1 (14 + 4)) (11 + 4) 0 (12 + 4)) (11 + 4) 1 (15 + 4)) (11 + 4) 2 (16 + 4)) (11 + 4) 3 (17 + 4)) (11 + 4) 4 (18 + 4)) (11 + 4) 5 (19 + 4)) (11 + 4) 6 (20 + 4)) (11 + 4) 7 (21 + 4)) (11 + 4) 8 (22 + 4), lh_SH.take 23)) : lh_Met Γ m_Ha_init 2 11 1137 [.ref (11 + 4)] (I, L, F, lh_SH.take 12) (lh_kv K) := by
  refine lh_ofG k_Ha_init [(0, .ref (11 + 4))] rfl (Nat.le_of_ble_eq_true rfl) rfl ?_
  refine lh_aload_n (q := 0) rfl rfl rfl ?_
  refine lh_objInit rfl rfl ⟨rfl, rfl⟩ rfl ?_
  refine lh_aload_n (q := 0) rfl rfl rfl ?_
  refine lh_new4 (ci := 2) (N := 3) (n := 12) (S' := (lh_SH.take 13)) (bc := 10) (bs := 1134) rfl rfl rfl (by rfl) (by rfl) hzI.at hzL.at hzF.at ?_
  refine lh_dup rfl rfl ?_
  refine lh_cINv (N := m_La_init) (d := 1) (mc := 2) (ms := 1032) (bc := 8) (bs := 102) (As := []) (st := [.ref (12 + 4), .ref (11 + 4)]) rfl hG (by decide) v_La_init rfl rfl ⟨rfl, rfl⟩ rfl (tc_La_init_12 hG (hzI.mono (n' := 13) (by decide)) (hzL.mono (n' := 13) (by decide)) (hzF.mono (n' := 13) (by decide)) ?_)
  refine lh_putF4 rfl rfl rfl rfl rfl rfl rfl ?_
  refine lh_aload_n (q := 0) rfl rfl rfl ?_
  refine lh_bipush rfl lh_b_6 ?_
  refine lh_newa4 (u := 0) (N := 6) (n := 15) (S' := (lh_SH.take 16)) (bc := 7) (bs := 96) rfl (Or.inl ⟨rfl, rfl⟩) (by decide) (by decide) (by decide) (by rfl) (by rfl) (((hzI.mono (n' := 13) (by decide)).mono (n' := 15) (by decide)).mono (n' := 15) (by decide)).at (((hzL.mono (n' := 13) (by decide)).mono (n' := 15) (by decide)).mono (n' := 15) (by decide)).at ((((((hzF.mono (n' := 13) (by decide)).mono (n' := 15) (by decide)).f2 (by decide)).f2 (by decide)).mono (n' := 15) (by decide)).f2 (by decide)).at ?_
  refine lh_putF4 rfl rfl rfl rfl rfl rfl rfl ?_
  refine lh_aload_n (q := 0) rfl rfl rfl ?_
  refine lh_bipush rfl lh_b_6 ?_
  refine lh_newa4 (u := 0) (N := 6) (n := 16) (S' := (lh_SH.take 17)) (bc := 6) (bs := 90) rfl (Or.inl ⟨rfl, rfl⟩) (by decide) (by decide) (by decide) (by rfl) (by rfl) ((((hzI.mono (n' := 13) (by decide)).mono (n' := 15) (by decide)).mono (n' := 15) (by decide)).mono (n' := 16) (by decide)).at ((((hzL.mono (n' := 13) (by decide)).mono (n' := 15) (by decide)).mono (n' := 15) (by decide)).mono (n' := 16) (by decide)).at ((((((((hzF.mono (n' := 13) (by decide)).mono (n' := 15) (by decide)).f2 (by decide)).f2 (by decide)).mono (n' := 15) (by decide)).f2 (by decide)).mono (n' := 16) (by decide)).f2 (by decide)).at ?_
  refine lh_putF4 rfl rfl rfl rfl rfl rfl rfl ?_
  refine lh_aload_n (q := 0) rfl rfl rfl ?_
  refine lh_bipush rfl lh_b_6 ?_
  refine lh_newa4 (u := 0) (N := 6) (n := 17) (S' := (lh_SH.take 18)) (bc := 5) (bs := 84) rfl (Or.inl ⟨rfl, rfl⟩) (by decide) (by decide) (by decide) (by rfl) (by rfl) (((((hzI.mono (n' := 13) (by decide)).mono (n' := 15) (by decide)).mono (n' := 15) (by decide)).mono (n' := 16) (by decide)).mono (n' := 17) (by decide)).at (((((hzL.mono (n' := 13) (by decide)).mono (n' := 15) (by decide)).mono (n' := 15) (by decide)).mono (n' := 16) (by decide)).mono (n' := 17) (by decide)).at ((((((((((hzF.mono (n' := 13) (by decide)).mono (n' := 15) (by decide)).f2 (by decide)).f2 (by decide)).mono (n' := 15) (by decide)).f2 (by decide)).mono (n' := 16) (by decide)).f2 (by decide)).mono (n' := 17) (by decide)).f2 (by decide)).at ?_
  refine lh_putF4 rfl rfl rfl rfl rfl rfl rfl ?_
  refine lh_aload_n (q := 0) rfl rfl rfl ?_
  refine lh_bipush rfl lh_b_48 ?_
  refine lh_newa4 (u := 0) (N := 48) (n := 18) (S' := (lh_SH.take 19)) (bc := 4) (bs := 36) rfl (Or.inl ⟨rfl, rfl⟩) (by decide) (by decide) (by decide) (by rfl) (by rfl) ((((((hzI.mono (n' := 13) (by decide)).mono (n' := 15) (by decide)).mono (n' := 15) (by decide)).mono (n' := 16) (by decide)).mono (n' := 17) (by decide)).mono (n' := 18) (by decide)).at ((((((hzL.mono (n' := 13) (by decide)).mono (n' := 15) (by decide)).mono (n' := 15) (by decide)).mono (n' := 16) (by decide)).mono (n' := 17) (by decide)).mono (n' := 18) (by decide)).at ((((((((((((hzF.mono (n' := 13) (by decide)).mono (n' := 15) (by decide)).f2 (by decide)).f2 (by decide)).mono (n' := 15) (by decide)).f2 (by decide)).mono (n' := 16) (by decide)).f2 (by decide)).mono (n' := 17) (by decide)).f2 (by decide)).mono (n' := 18) (by decide)).f2 (by decide)).at ?_
  refine lh_putF4 rfl rfl rfl rfl rfl rfl rfl ?_
  refine lh_aload_n (q := 0) rfl rfl rfl ?_
  refine lh_iconst rfl lh_k_4 ?_
  refine lh_newa4 (u := 0) (N := 4) (n := 19) (S' := (lh_SH.take 20)) (bc := 3) (bs := 32) rfl (Or.inl ⟨rfl, rfl⟩) (by decide) (by decide) (by decide) (by rfl) (by rfl) (((((((hzI.mono (n' := 13) (by decide)).mono (n' := 15) (by decide)).mono (n' := 15) (by decide)).mono (n' := 16) (by decide)).mono (n' := 17) (by decide)).mono (n' := 18) (by decide)).mono (n' := 19) (by decide)).at (((((((hzL.mono (n' := 13) (by decide)).mono (n' := 15) (by decide)).mono (n' := 15) (by decide)).mono (n' := 16) (by decide)).mono (n' := 17) (by decide)).mono (n' := 18) (by decide)).mono (n' := 19) (by decide)).at ((((((((((((((hzF.mono (n' := 13) (by decide)).mono (n' := 15) (by decide)).f2 (by decide)).f2 (by decide)).mono (n' := 15) (by decide)).f2 (by decide)).mono (n' := 16) (by decide)).f2 (by decide)).mono (n' := 17) (by decide)).f2 (by decide)).mono (n' := 18) (by decide)).f2 (by decide)).mono (n' := 19) (by decide)).f2 (by decide)).at ?_
  refine lh_putF4 rfl rfl rfl rfl rfl rfl rfl ?_
  refine lh_aload_n (q := 0) rfl rfl rfl ?_
  refine lh_bipush rfl lh_b_8 ?_
  refine lh_newa4 (u := 0) (N := 8) (n := 20) (S' := (lh_SH.take 21)) (bc := 2) (bs := 24) rfl (Or.inl ⟨rfl, rfl⟩) (by decide) (by decide) (by decide) (by rfl) (by rfl) ((((((((hzI.mono (n' := 13) (by decide)).mono (n' := 15) (by decide)).mono (n' := 15) (by decide)).mono (n' := 16) (by decide)).mono (n' := 17) (by decide)).mono (n' := 18) (by decide)).mono (n' := 19) (by decide)).mono (n' := 20) (by decide)).at ((((((((hzL.mono (n' := 13) (by decide)).mono (n' := 15) (by decide)).mono (n' := 15) (by decide)).mono (n' := 16) (by decide)).mono (n' := 17) (by decide)).mono (n' := 18) (by decide)).mono (n' := 19) (by decide)).mono (n' := 20) (by decide)).at ((((((((((((((((hzF.mono (n' := 13) (by decide)).mono (n' := 15) (by decide)).f2 (by decide)).f2 (by decide)).mono (n' := 15) (by decide)).f2 (by decide)).mono (n' := 16) (by decide)).f2 (by decide)).mono (n' := 17) (by decide)).f2 (by decide)).mono (n' := 18) (by decide)).f2 (by decide)).mono (n' := 19) (by decide)).f2 (by decide)).mono (n' := 20) (by decide)).f2 (by decide)).at ?_
  refine lh_putF4 rfl rfl rfl rfl rfl rfl rfl ?_
  refine lh_aload_n (q := 0) rfl rfl rfl ?_
  refine lh_bipush rfl lh_b_12 ?_
  refine lh_newa4 (u := 0) (N := 12) (n := 21) (S' := (lh_SH.take 22)) (bc := 1) (bs := 12) rfl (Or.inl ⟨rfl, rfl⟩) (by decide) (by decide) (by decide) (by rfl) (by rfl) (((((((((hzI.mono (n' := 13) (by decide)).mono (n' := 15) (by decide)).mono (n' := 15) (by decide)).mono (n' := 16) (by decide)).mono (n' := 17) (by decide)).mono (n' := 18) (by decide)).mono (n' := 19) (by decide)).mono (n' := 20) (by decide)).mono (n' := 21) (by decide)).at (((((((((hzL.mono (n' := 13) (by decide)).mono (n' := 15) (by decide)).mono (n' := 15) (by decide)).mono (n' := 16) (by decide)).mono (n' := 17) (by decide)).mono (n' := 18) (by decide)).mono (n' := 19) (by decide)).mono (n' := 20) (by decide)).mono (n' := 21) (by decide)).at ((((((((((((((((((hzF.mono (n' := 13) (by decide)).mono (n' := 15) (by decide)).f2 (by decide)).f2 (by decide)).mono (n' := 15) (by decide)).f2 (by decide)).mono (n' := 16) (by decide)).f2 (by decide)).mono (n' := 17) (by decide)).f2 (by decide)).mono (n' := 18) (by decide)).f2 (by decide)).mono (n' := 19) (by decide)).f2 (by decide)).mono (n' := 20) (by decide)).f2 (by decide)).mono (n' := 21) (by decide)).f2 (by decide)).at ?_
  refine lh_putF4 rfl rfl rfl rfl rfl rfl rfl ?_
  refine lh_aload_n (q := 0) rfl rfl rfl ?_
  refine lh_bipush rfl lh_b_12 ?_
  refine lh_newa4 (u := 0) (N := 12) (n := 22) (S' := (lh_SH.take 23)) (bc := 0) (bs := 0) rfl (Or.inl ⟨rfl, rfl⟩) (by decide) (by decide) (by decide) (by rfl) (by rfl) ((((((((((hzI.mono (n' := 13) (by decide)).mono (n' := 15) (by decide)).mono (n' := 15) (by decide)).mono (n' := 16) (by decide)).mono (n' := 17) (by decide)).mono (n' := 18) (by decide)).mono (n' := 19) (by decide)).mono (n' := 20) (by decide)).mono (n' := 21) (by decide)).mono (n' := 22) (by decide)).at ((((((((((hzL.mono (n' := 13) (by decide)).mono (n' := 15) (by decide)).mono (n' := 15) (by decide)).mono (n' := 16) (by decide)).mono (n' := 17) (by decide)).mono (n' := 18) (by decide)).mono (n' := 19) (by decide)).mono (n' := 20) (by decide)).mono (n' := 21) (by decide)).mono (n' := 22) (by decide)).at ((((((((((((((((((((hzF.mono (n' := 13) (by decide)).mono (n' := 15) (by decide)).f2 (by decide)).f2 (by decide)).mono (n' := 15) (by decide)).f2 (by decide)).mono (n' := 16) (by decide)).f2 (by decide)).mono (n' := 17) (by decide)).f2 (by decide)).mono (n' := 18) (by decide)).f2 (by decide)).mono (n' := 19) (by decide)).f2 (by decide)).mono (n' := 20) (by decide)).f2 (by decide)).mono (n' := 21) (by decide)).f2 (by decide)).mono (n' := 22) (by decide)).f2 (by decide)).at ?_
  refine lh_putF4 rfl rfl rfl rfl rfl rfl rfl ?_
  exact lh_vret rfl rfl hK
theorem tc_La_init_24 {Γ : lh_Cx} {I : lh_II} {L : lh_LL} {F : lh_FF} {K : lh_Hp → Prop} (hG : lh_GX Γ) (hzI : lh_za 0 25 I) (hzL : lh_za 0 25 L) (hzF : lh_za 0 25 F) (hK : K (I, L, lh_f2 (lh_f2 F (24 + 4) 0 (25 + 4)) (24 + 4) 1 (26 + 4), lh_SH.take 27)) : lh_Met Γ m_La_init 1 2 1032 [.ref (24 + 4)] (I, L, F, lh_SH.take 25) (lh_kv K) := by
  refine lh_ofG k_La_init [(0, .ref (24 + 4))] rfl (Nat.le_of_ble_eq_true rfl) rfl ?_
  refine lh_aload_n (q := 0) rfl rfl rfl ?_
  refine lh_objInit rfl rfl ⟨rfl, rfl⟩ rfl ?_
  refine lh_aload_n (q := 0) rfl rfl rfl ?_
  refine lh_sipush rfl lh_s_1000 ?_
  refine lh_newa4 (u := 0) (N := 1000) (n := 25) (S' := (lh_SH.take 26)) (bc := 1) (bs := 32) rfl (Or.inl ⟨rfl, rfl⟩) (by decide) (by decide) (by decide) (by rfl) (by rfl) hzI.at hzL.at hzF.at ?_
  refine lh_putF4 rfl rfl rfl rfl rfl rfl rfl ?_
  refine lh_aload_n (q := 0) rfl rfl rfl ?_
  refine lh_bipush rfl lh_b_32 ?_
  refine lh_newa4 (u := 0) (N := 32) (n := 26) (S' := (lh_SH.take 27)) (bc := 0) (bs := 0) rfl (Or.inl ⟨rfl, rfl⟩) (by decide) (by decide) (by decide) (by rfl) (by rfl) (hzI.mono (n' := 26) (by decide)).at (hzL.mono (n' := 26) (by decide)).at ((hzF.mono (n' := 26) (by decide)).f2 (by decide)).at ?_
  refine lh_putF4 rfl rfl rfl rfl rfl rfl rfl ?_
  exact lh_vret rfl rfl hK
theorem tc_Ha_init_23 {Γ : lh_Cx} {I : lh_II} {L : lh_LL} {F : lh_FF} {K : lh_Hp → Prop} (hG : lh_GX Γ) (hzI : lh_za 0 24 I) (hzL : lh_za 0 24 L) (hzF : lh_za 0 24 F) (hK : K (I, L, lh_f2 (lh_f2 (lh_f2 (lh_f2 (lh_f2 (lh_f2 (lh_f2 (lh_f2 (lh_f2 (lh_f2 (lh_f2 F (24 + 4) 0 (25 + 4)) (24 + 4) 1 (26 + 4)) (23 + 4) 0 (24 + 4)) (23 + 4) 1 (27 + 4)) (23 + 4) 2 (28 + 4)) (23 + 4) 3 (29 + 4)) (23 + 4) 4 (30 + 4)) (23 + 4) 5 (31 + 4)) (23 + 4) 6 (32 + 4)) (23 + 4) 7 (33 + 4)) (23 + 4) 8 (34 + 4), lh_SH.take 35)) : lh_Met Γ m_Ha_init 2 11 1137 [.ref (23 + 4)] (I, L, F, lh_SH.take 24) (lh_kv K) := by
  refine lh_ofG k_Ha_init [(0, .ref (23 + 4))] rfl (Nat.le_of_ble_eq_true rfl) rfl ?_
  refine lh_aload_n (q := 0) rfl rfl rfl ?_
  refine lh_objInit rfl rfl ⟨rfl, rfl⟩ rfl ?_
  refine lh_aload_n (q := 0) rfl rfl rfl ?_
  refine lh_new4 (ci := 2) (N := 3) (n := 24) (S' := (lh_SH.take 25)) (bc := 10) (bs := 1134) rfl rfl rfl (by rfl) (by rfl) hzI.at hzL.at hzF.at ?_
  refine lh_dup rfl rfl ?_
  refine lh_cINv (N := m_La_init) (d := 1) (mc := 2) (ms := 1032) (bc := 8) (bs := 102) (As := []) (st := [.ref (24 + 4), .ref (23 + 4)]) rfl hG (by decide) v_La_init rfl rfl ⟨rfl, rfl⟩ rfl (tc_La_init_24 hG (hzI.mono (n' := 25) (by decide)) (hzL.mono (n' := 25) (by decide)) (hzF.mono (n' := 25) (by decide)) ?_)
  refine lh_putF4 rfl rfl rfl rfl rfl rfl rfl ?_
  refine lh_aload_n (q := 0) rfl rfl rfl ?_
  refine lh_bipush rfl lh_b_6 ?_
  refine lh_newa4 (u := 0) (N := 6) (n := 27) (S' := (lh_SH.take 28)) (bc := 7) (bs := 96) rfl (Or.inl ⟨rfl, rfl⟩) (by decide) (by decide) (by decide) (by rfl) (by rfl) (((hzI.mono (n' := 25) (by decide)).mono (n' := 27) (by decide)).mono (n' := 27) (by decide)).at (((hzL.mono (n' := 25) (by decide)).mono (n' := 27) (by decide)).mono (n' := 27) (by decide)).at ((((((hzF.mono (n' := 25) (by decide)).mono (n' := 27) (by decide)).f2 (by decide)).f2 (by decide)).mono (n' := 27) (by decide)).f2 (by decide)).at ?_
  refine lh_putF4 rfl rfl rfl rfl rfl rfl rfl ?_
  refine lh_aload_n (q := 0) rfl rfl rfl ?_
  refine lh_bipush rfl lh_b_6 ?_
  refine lh_newa4 (u := 0) (N := 6) (n := 28) (S' := (lh_SH.take 29)) (bc := 6) (bs := 90) rfl (Or.inl ⟨rfl, rfl⟩) (by decide) (by decide) (by decide) (by rfl) (by rfl) ((((hzI.mono (n' := 25) (by decide)).mono (n' := 27) (by decide)).mono (n' := 27) (by decide)).mono (n' := 28) (by decide)).at ((((hzL.mono (n' := 25) (by decide)).mono (n' := 27) (by decide)).mono (n' := 27) (by decide)).mono (n' := 28) (by decide)).at ((((((((hzF.mono (n' := 25) (by decide)).mono (n' := 27) (by decide)).f2 (by decide)).f2 (by decide)).mono (n' := 27) (by decide)).f2 (by decide)).mono (n' := 28) (by decide)).f2 (by decide)).at ?_
  refine lh_putF4 rfl rfl rfl rfl rfl rfl rfl ?_
  refine lh_aload_n (q := 0) rfl rfl rfl ?_
  refine lh_bipush rfl lh_b_6 ?_
  refine lh_newa4 (u := 0) (N := 6) (n := 29) (S' := (lh_SH.take 30)) (bc := 5) (bs := 84) rfl (Or.inl ⟨rfl, rfl⟩) (by decide) (by decide) (by decide) (by rfl) (by rfl) (((((hzI.mono (n' := 25) (by decide)).mono (n' := 27) (by decide)).mono (n' := 27) (by decide)).mono (n' := 28) (by decide)).mono (n' := 29) (by decide)).at (((((hzL.mono (n' := 25) (by decide)).mono (n' := 27) (by decide)).mono (n' := 27) (by decide)).mono (n' := 28) (by decide)).mono (n' := 29) (by decide)).at ((((((((((hzF.mono (n' := 25) (by decide)).mono (n' := 27) (by decide)).f2 (by decide)).f2 (by decide)).mono (n' := 27) (by decide)).f2 (by decide)).mono (n' := 28) (by decide)).f2 (by decide)).mono (n' := 29) (by decide)).f2 (by decide)).at ?_
  refine lh_putF4 rfl rfl rfl rfl rfl rfl rfl ?_
  refine lh_aload_n (q := 0) rfl rfl rfl ?_
  refine lh_bipush rfl lh_b_48 ?_
  refine lh_newa4 (u := 0) (N := 48) (n := 30) (S' := (lh_SH.take 31)) (bc := 4) (bs := 36) rfl (Or.inl ⟨rfl, rfl⟩) (by decide) (by decide) (by decide) (by rfl) (by rfl) ((((((hzI.mono (n' := 25) (by decide)).mono (n' := 27) (by decide)).mono (n' := 27) (by decide)).mono (n' := 28) (by decide)).mono (n' := 29) (by decide)).mono (n' := 30) (by decide)).at ((((((hzL.mono (n' := 25) (by decide)).mono (n' := 27) (by decide)).mono (n' := 27) (by decide)).mono (n' := 28) (by decide)).mono (n' := 29) (by decide)).mono (n' := 30) (by decide)).at ((((((((((((hzF.mono (n' := 25) (by decide)).mono (n' := 27) (by decide)).f2 (by decide)).f2 (by decide)).mono (n' := 27) (by decide)).f2 (by decide)).mono (n' := 28) (by decide)).f2 (by decide)).mono (n' := 29) (by decide)).f2 (by decide)).mono (n' := 30) (by decide)).f2 (by decide)).at ?_
  refine lh_putF4 rfl rfl rfl rfl rfl rfl rfl ?_
  refine lh_aload_n (q := 0) rfl rfl rfl ?_
  refine lh_iconst rfl lh_k_4 ?_
  refine lh_newa4 (u := 0) (N := 4) (n := 31) (S' := (lh_SH.take 32)) (bc := 3) (bs := 32) rfl (Or.inl ⟨rfl, rfl⟩) (by decide) (by decide) (by decide) (by rfl) (by rfl) (((((((hzI.mono (n' := 25) (by decide)).mono (n' := 27) (by decide)).mono (n' := 27) (by decide)).mono (n' := 28) (by decide)).mono (n' := 29) (by decide)).mono (n' := 30) (by decide)).mono (n' := 31) (by decide)).at (((((((hzL.mono (n' := 25) (by decide)).mono (n' := 27) (by decide)).mono (n' := 27) (by decide)).mono (n' := 28) (by decide)).mono (n' := 29) (by decide)).mono (n' := 30) (by decide)).mono (n' := 31) (by decide)).at ((((((((((((((hzF.mono (n' := 25) (by decide)).mono (n' := 27) (by decide)).f2 (by decide)).f2 (by decide)).mono (n' := 27) (by decide)).f2 (by decide)).mono (n' := 28) (by decide)).f2 (by decide)).mono (n' := 29) (by decide)).f2 (by decide)).mono (n' := 30) (by decide)).f2 (by decide)).mono (n' := 31) (by decide)).f2 (by decide)).at ?_
  refine lh_putF4 rfl rfl rfl rfl rfl rfl rfl ?_
  refine lh_aload_n (q := 0) rfl rfl rfl ?_
  refine lh_bipush rfl lh_b_8 ?_
  refine lh_newa4 (u := 0) (N := 8) (n := 32) (S' := (lh_SH.take 33)) (bc := 2) (bs := 24) rfl (Or.inl ⟨rfl, rfl⟩) (by decide) (by decide) (by decide) (by rfl) (by rfl) ((((((((hzI.mono (n' := 25) (by decide)).mono (n' := 27) (by decide)).mono (n' := 27) (by decide)).mono (n' := 28) (by decide)).mono (n' := 29) (by decide)).mono (n' := 30) (by decide)).mono (n' := 31) (by decide)).mono (n' := 32) (by decide)).at ((((((((hzL.mono (n' := 25) (by decide)).mono (n' := 27) (by decide)).mono (n' := 27) (by decide)).mono (n' := 28) (by decide)).mono (n' := 29) (by decide)).mono (n' := 30) (by decide)).mono (n' := 31) (by decide)).mono (n' := 32) (by decide)).at ((((((((((((((((hzF.mono (n' := 25) (by decide)).mono (n' := 27) (by decide)).f2 (by decide)).f2 (by decide)).mono (n' := 27) (by decide)).f2 (by decide)).mono (n' := 28) (by decide)).f2 (by decide)).mono (n' := 29) (by decide)).f2 (by decide)).mono (n' := 30) (by decide)).f2 (by decide)).mono (n' := 31) (by decide)).f2 (by decide)).mono (n' := 32) (by decide)).f2 (by decide)).at ?_
  refine lh_putF4 rfl rfl rfl rfl rfl rfl rfl ?_
  refine lh_aload_n (q := 0) rfl rfl rfl ?_
  refine lh_bipush rfl lh_b_12 ?_
  refine lh_newa4 (u := 0) (N := 12) (n := 33) (S' := (lh_SH.take 34)) (bc := 1) (bs := 12) rfl (Or.inl ⟨rfl, rfl⟩) (by decide) (by decide) (by decide) (by rfl) (by rfl) (((((((((hzI.mono (n' := 25) (by decide)).mono (n' := 27) (by decide)).mono (n' := 27) (by decide)).mono (n' := 28) (by decide)).mono (n' := 29) (by decide)).mono (n' := 30) (by decide)).mono (n' := 31) (by decide)).mono (n' := 32) (by decide)).mono (n' := 33) (by decide)).at (((((((((hzL.mono (n' := 25) (by decide)).mono (n' := 27) (by decide)).mono (n' := 27) (by decide)).mono (n' := 28) (by decide)).mono (n' := 29) (by decide)).mono (n' := 30) (by decide)).mono (n' := 31) (by decide)).mono (n' := 32) (by decide)).mono (n' := 33) (by decide)).at ((((((((((((((((((hzF.mono (n' := 25) (by decide)).mono (n' := 27) (by decide)).f2 (by decide)).f2 (by decide)).mono (n' := 27) (by decide)).f2 (by decide)).mono (n' := 28) (by decide)).f2 (by decide)).mono (n' := 29) (by decide)).f2 (by decide)).mono (n' := 30) (by decide)).f2 (by decide)).mono (n' := 31) (by decide)).f2 (by decide)).mono (n' := 32) (by decide)).f2 (by decide)).mono (n' := 33) (by decide)).f2 (by decide)).at ?_
  refine lh_putF4 rfl rfl rfl rfl rfl rfl rfl ?_
  refine lh_aload_n (q := 0) rfl rfl rfl ?_
  refine lh_bipush rfl lh_b_12 ?_
  refine lh_newa4 (u := 0) (N := 12) (n := 34) (S' := (lh_SH.take 35)) (bc := 0) (bs := 0) rfl (Or.inl ⟨rfl, rfl⟩) (by decide) (by decide) (by decide) (by rfl) (by rfl) ((((((((((hzI.mono (n' := 25) (by decide)).mono (n' := 27) (by decide)).mono (n' := 27) (by decide)).mono (n' := 28) (by decide)).mono (n' := 29) (by decide)).mono (n' := 30) (by decide)).mono (n' := 31) (by decide)).mono (n' := 32) (by decide)).mono (n' := 33) (by decide)).mono (n' := 34) (by decide)).at ((((((((((hzL.mono (n' := 25) (by decide)).mono (n' := 27) (by decide)).mono (n' := 27) (by decide)).mono (n' := 28) (by decide)).mono (n' := 29) (by decide)).mono (n' := 30) (by decide)).mono (n' := 31) (by decide)).mono (n' := 32) (by decide)).mono (n' := 33) (by decide)).mono (n' := 34) (by decide)).at ((((((((((((((((((((hzF.mono (n' := 25) (by decide)).mono (n' := 27) (by decide)).f2 (by decide)).f2 (by decide)).mono (n' := 27) (by decide)).f2 (by decide)).mono (n' := 28) (by decide)).f2 (by decide)).mono (n' := 29) (by decide)).f2 (by decide)).mono (n' := 30) (by decide)).f2 (by decide)).mono (n' := 31) (by decide)).f2 (by decide)).mono (n' := 32) (by decide)).f2 (by decide)).mono (n' := 33) (by decide)).f2 (by decide)).mono (n' := 34) (by decide)).f2 (by decide)).at ?_
  refine lh_putF4 rfl rfl rfl rfl rfl rfl rfl ?_
  exact lh_vret rfl rfl hK
theorem tc_Ni_init_35 {Γ : lh_Cx} {I : lh_II} {L : lh_LL} {F : lh_FF} {K : lh_Hp → Prop} (hG : lh_GX Γ) (hzI : lh_za 0 36 I) (hzL : lh_za 0 36 L) (hzF : lh_za 0 36 F) (hK : K (lh_u2 (lh_u2 (lh_u2 I (35 + 4) 2 0) (35 + 4) 3 (-1)) (35 + 4) 4 (-1), L, lh_f2 (lh_f2 F (35 + 4) 0 (36 + 4)) (35 + 4) 1 (37 + 4), lh_SH.take 38)) : lh_Met Γ m_Ni_init 1 2 80 [.ref (35 + 4)] (I, L, F, lh_SH.take 36) (lh_kv K) := by
  refine lh_ofG k_Ni_init [(0, .ref (35 + 4))] rfl (Nat.le_of_ble_eq_true rfl) rfl ?_
  refine lh_aload_n (q := 0) rfl rfl rfl ?_
  refine lh_objInit rfl rfl ⟨rfl, rfl⟩ rfl ?_
  refine lh_aload_n (q := 0) rfl rfl rfl ?_
  refine lh_bipush rfl lh_b_40 ?_
  refine lh_newa4 (u := 0) (N := 40) (n := 36) (S' := (lh_SH.take 37)) (bc := 1) (bs := 40) rfl (Or.inl ⟨rfl, rfl⟩) (by decide) (by decide) (by decide) (by rfl) (by rfl) hzI.at hzL.at hzF.at ?_
  refine lh_putF4 rfl rfl rfl rfl rfl rfl rfl ?_
  refine lh_aload_n (q := 0) rfl rfl rfl ?_
  refine lh_bipush rfl lh_b_40 ?_
  refine lh_newa4 (u := 0) (N := 40) (n := 37) (S' := (lh_SH.take 38)) (bc := 0) (bs := 0) rfl (Or.inl ⟨rfl, rfl⟩) (by decide) (by decide) (by decide) (by rfl) (by rfl) (hzI.mono (n' := 37) (by decide)).at (hzL.mono (n' := 37) (by decide)).at ((hzF.mono (n' := 37) (by decide)).f2 (by decide)).at ?_
  refine lh_putF4 rfl rfl rfl rfl rfl rfl rfl ?_
  refine lh_aload_n (q := 0) rfl rfl rfl ?_
  refine lh_iconst rfl lh_k_0 ?_
  refine lh_putI4 rfl rfl rfl rfl rfl ?_
  refine lh_aload_n (q := 0) rfl rfl rfl ?_
  refine lh_iconst rfl lh_k_m1 ?_
  refine lh_putI4 rfl rfl rfl rfl rfl ?_
  refine lh_aload_n (q := 0) rfl rfl rfl ?_
  refine lh_iconst rfl lh_k_m1 ?_
  refine lh_putI4 rfl rfl rfl rfl rfl ?_
  exact lh_vret rfl rfl hK
theorem tc_Ni_init_38 {Γ : lh_Cx} {I : lh_II} {L : lh_LL} {F : lh_FF} {K : lh_Hp → Prop} (hG : lh_GX Γ) (hzI : lh_za 0 39 I) (hzL : lh_za 0 39 L) (hzF : lh_za 0 39 F) (hK : K (lh_u2 (lh_u2 (lh_u2 I (38 + 4) 2 0) (38 + 4) 3 (-1)) (38 + 4) 4 (-1), L, lh_f2 (lh_f2 F (38 + 4) 0 (39 + 4)) (38 + 4) 1 (40 + 4), lh_SH.take 41)) : lh_Met Γ m_Ni_init 1 2 80 [.ref (38 + 4)] (I, L, F, lh_SH.take 39) (lh_kv K) := by
  refine lh_ofG k_Ni_init [(0, .ref (38 + 4))] rfl (Nat.le_of_ble_eq_true rfl) rfl ?_
  refine lh_aload_n (q := 0) rfl rfl rfl ?_
  refine lh_objInit rfl rfl ⟨rfl, rfl⟩ rfl ?_
  refine lh_aload_n (q := 0) rfl rfl rfl ?_
  refine lh_bipush rfl lh_b_40 ?_
  refine lh_newa4 (u := 0) (N := 40) (n := 39) (S' := (lh_SH.take 40)) (bc := 1) (bs := 40) rfl (Or.inl ⟨rfl, rfl⟩) (by decide) (by decide) (by decide) (by rfl) (by rfl) hzI.at hzL.at hzF.at ?_
  refine lh_putF4 rfl rfl rfl rfl rfl rfl rfl ?_
  refine lh_aload_n (q := 0) rfl rfl rfl ?_
  refine lh_bipush rfl lh_b_40 ?_
  refine lh_newa4 (u := 0) (N := 40) (n := 40) (S' := (lh_SH.take 41)) (bc := 0) (bs := 0) rfl (Or.inl ⟨rfl, rfl⟩) (by decide) (by decide) (by decide) (by rfl) (by rfl) (hzI.mono (n' := 40) (by decide)).at (hzL.mono (n' := 40) (by decide)).at ((hzF.mono (n' := 40) (by decide)).f2 (by decide)).at ?_
  refine lh_putF4 rfl rfl rfl rfl rfl rfl rfl ?_
  refine lh_aload_n (q := 0) rfl rfl rfl ?_
  refine lh_iconst rfl lh_k_0 ?_
  refine lh_putI4 rfl rfl rfl rfl rfl ?_
  refine lh_aload_n (q := 0) rfl rfl rfl ?_
  refine lh_iconst rfl lh_k_m1 ?_
  refine lh_putI4 rfl rfl rfl rfl rfl ?_
  refine lh_aload_n (q := 0) rfl rfl rfl ?_
  refine lh_iconst rfl lh_k_m1 ?_
  refine lh_putI4 rfl rfl rfl rfl rfl ?_
  exact lh_vret rfl rfl hK
theorem tc_Mk_init_57 {Γ : lh_Cx} {I : lh_II} {L : lh_LL} {F : lh_FF} {K : lh_Hp → Prop} (hG : lh_GX Γ) (hzI : lh_za 0 58 I) (hzL : lh_za 0 58 L) (hzF : lh_za 0 58 F) (hK : K (I, L, lh_f2 F (57 + 4) 0 (58 + 4), lh_SH.take 59)) : lh_Met Γ m_Mk_init 2 1 7 [.ref (57 + 4)] (I, L, F, lh_SH.take 58) (lh_kv K) := by
  refine lh_ofG k_Mk_init [(0, .ref (57 + 4))] rfl (Nat.le_of_ble_eq_true rfl) rfl ?_
  refine lh_aload_n (q := 0) rfl rfl rfl ?_
  refine lh_objInit rfl rfl ⟨rfl, rfl⟩ rfl ?_
  refine lh_aload_n (q := 0) rfl rfl rfl ?_
  refine lh_new4 (ci := 4) (N := 7) (n := 58) (S' := (lh_SH.take 59)) (bc := 0) (bs := 0) rfl rfl rfl (by rfl) (by rfl) hzI.at hzL.at hzF.at ?_
  refine lh_dup rfl rfl ?_
  refine lh_cINv (N := m_Mo_init) (d := 1) (mc := 0) (ms := 0) (bc := 0) (bs := 0) (As := []) (st := [.ref (58 + 4), .ref (57 + 4)]) rfl hG (by decide) v_Mo_init rfl rfl ⟨rfl, rfl⟩ rfl (tc_Mo_init ?_)
  refine lh_putF4 rfl rfl rfl rfl rfl rfl rfl ?_
  exact lh_vret rfl rfl hK
theorem tc_Mk_init_59 {Γ : lh_Cx} {I : lh_II} {L : lh_LL} {F : lh_FF} {K : lh_Hp → Prop} (hG : lh_GX Γ) (hzI : lh_za 0 60 I) (hzL : lh_za 0 60 L) (hzF : lh_za 0 60 F) (hK : K (I, L, lh_f2 F (59 + 4) 0 (60 + 4), lh_SH.take 61)) : lh_Met Γ m_Mk_init 2 1 7 [.ref (59 + 4)] (I, L, F, lh_SH.take 60) (lh_kv K) := by
  refine lh_ofG k_Mk_init [(0, .ref (59 + 4))] rfl (Nat.le_of_ble_eq_true rfl) rfl ?_
  refine lh_aload_n (q := 0) rfl rfl rfl ?_
  refine lh_objInit rfl rfl ⟨rfl, rfl⟩ rfl ?_
  refine lh_aload_n (q := 0) rfl rfl rfl ?_
  refine lh_new4 (ci := 4) (N := 7) (n := 60) (S' := (lh_SH.take 61)) (bc := 0) (bs := 0) rfl rfl rfl (by rfl) (by rfl) hzI.at hzL.at hzF.at ?_
  refine lh_dup rfl rfl ?_
  refine lh_cINv (N := m_Mo_init) (d := 1) (mc := 0) (ms := 0) (bc := 0) (bs := 0) (As := []) (st := [.ref (60 + 4), .ref (59 + 4)]) rfl hG (by decide) v_Mo_init rfl rfl ⟨rfl, rfl⟩ rfl (tc_Mo_init ?_)
  refine lh_putF4 rfl rfl rfl rfl rfl rfl rfl ?_
  exact lh_vret rfl rfl hK
theorem tc_Mk_init_61 {Γ : lh_Cx} {I : lh_II} {L : lh_LL} {F : lh_FF} {K : lh_Hp → Prop} (hG : lh_GX Γ) (hzI : lh_za 0 62 I) (hzL : lh_za 0 62 L) (hzF : lh_za 0 62 F) (hK : K (I, L, lh_f2 F (61 + 4) 0 (62 + 4), lh_SH.take 63)) : lh_Met Γ m_Mk_init 2 1 7 [.ref (61 + 4)] (I, L, F, lh_SH.take 62) (lh_kv K) := by
  refine lh_ofG k_Mk_init [(0, .ref (61 + 4))] rfl (Nat.le_of_ble_eq_true rfl) rfl ?_
  refine lh_aload_n (q := 0) rfl rfl rfl ?_
  refine lh_objInit rfl rfl ⟨rfl, rfl⟩ rfl ?_
  refine lh_aload_n (q := 0) rfl rfl rfl ?_
  refine lh_new4 (ci := 4) (N := 7) (n := 62) (S' := (lh_SH.take 63)) (bc := 0) (bs := 0) rfl rfl rfl (by rfl) (by rfl) hzI.at hzL.at hzF.at ?_
  refine lh_dup rfl rfl ?_
  refine lh_cINv (N := m_Mo_init) (d := 1) (mc := 0) (ms := 0) (bc := 0) (bs := 0) (As := []) (st := [.ref (62 + 4), .ref (61 + 4)]) rfl hG (by decide) v_Mo_init rfl rfl ⟨rfl, rfl⟩ rfl (tc_Mo_init ?_)
  refine lh_putF4 rfl rfl rfl rfl rfl rfl rfl ?_
  exact lh_vret rfl rfl hK
theorem tc_Mk_init_63 {Γ : lh_Cx} {I : lh_II} {L : lh_LL} {F : lh_FF} {K : lh_Hp → Prop} (hG : lh_GX Γ) (hzI : lh_za 0 64 I) (hzL : lh_za 0 64 L) (hzF : lh_za 0 64 F) (hK : K (I, L, lh_f2 F (63 + 4) 0 (64 + 4), lh_SH.take 65)) : lh_Met Γ m_Mk_init 2 1 7 [.ref (63 + 4)] (I, L, F, lh_SH.take 64) (lh_kv K) := by
  refine lh_ofG k_Mk_init [(0, .ref (63 + 4))] rfl (Nat.le_of_ble_eq_true rfl) rfl ?_
  refine lh_aload_n (q := 0) rfl rfl rfl ?_
  refine lh_objInit rfl rfl ⟨rfl, rfl⟩ rfl ?_
  refine lh_aload_n (q := 0) rfl rfl rfl ?_
  refine lh_new4 (ci := 4) (N := 7) (n := 64) (S' := (lh_SH.take 65)) (bc := 0) (bs := 0) rfl rfl rfl (by rfl) (by rfl) hzI.at hzL.at hzF.at ?_
  refine lh_dup rfl rfl ?_
  refine lh_cINv (N := m_Mo_init) (d := 1) (mc := 0) (ms := 0) (bc := 0) (bs := 0) (As := []) (st := [.ref (64 + 4), .ref (63 + 4)]) rfl hG (by decide) v_Mo_init rfl rfl ⟨rfl, rfl⟩ rfl (tc_Mo_init ?_)
  refine lh_putF4 rfl rfl rfl rfl rfl rfl rfl ?_
  exact lh_vret rfl rfl hK
def f_LM_init_65 (I : lh_II) (L : lh_LL) : Option (lh_II × lh_LL) := lh_bd (f_LM_standsAsAlways (0 : Int32) I) fun r1 => lh_bd (f_LM_begins r1) fun r3 => some (r3, lh_v2 (lh_v2 (lh_v2 (lh_v2 (lh_v2 (lh_v2 (lh_v2 (lh_v2 (lh_v2 (lh_v2 (lh_v2 (lh_v2 (lh_v2 (lh_v2 (lh_v2 (lh_v2 (lh_v2 (lh_v2 (lh_v2 (lh_v2 (lh_v2 (lh_v2 (lh_v2 (lh_v2 (lh_v2 (lh_v2 (lh_v2 L (70 + 4) 0 5892639) (70 + 4) 1 1126995080) (70 + 4) 2 57106169500) (70 + 4) 3 569) (70 + 4) 4 375310) (70 + 4) 5 1116443) (70 + 4) 6 57) (70 + 4) 7 108201) (70 + 4) 8 20880) (70 + 4) 9 14184879) (70 + 4) 10 426059389) (70 + 4) 11 36035688) (70 + 4) 12 102797) (70 + 4) 13 919322) (70 + 4) 14 1038048) (70 + 4) 15 316695) (70 + 4) 16 30596128) (70 + 4) 17 6040476) (70 + 4) 18 609378) (70 + 4) 19 37900956) (70 + 4) 20 19741) (70 + 4) 21 1891) (70 + 4) 22 573) (70 + 4) 23 5538) (70 + 4) 24 614923) (70 + 4) 25 8269) (70 + 4) 26 426554)
theorem tc_LM_init_65 {Γ : lh_Cx} {I : lh_II} {L : lh_LL} {F : lh_FF} {K : lh_Hp → Prop} {r : lh_II × lh_LL} (hG : lh_GX Γ) (hzI : lh_za 0 66 I) (hzL : lh_za 0 66 L) (hzF : lh_za 0 66 F) (hf : f_LM_init_65 I L = some r) (hK : K (r.1, r.2, lh_f2 (lh_f2 (lh_f2 (lh_f2 (lh_f2 (lh_f2 (lh_f2 (lh_f2 (lh_f2 (lh_f2 (lh_f2 (lh_f2 (lh_f2 (lh_f2 (lh_f2 F (65 + 4) 1 (66 + 4)) (65 + 4) 4 (67 + 4)) (65 + 4) 5 (68 + 4)) (65 + 4) 6 (69 + 4)) (65 + 4) 9 (70 + 4)) (65 + 4) 10 (71 + 4)) (65 + 4) 11 (72 + 4)) (65 + 4) 12 (73 + 4)) (65 + 4) 14 (74 + 4)) (65 + 4) 17 (75 + 4)) (65 + 4) 18 (76 + 4)) (65 + 4) 19 (77 + 4)) (65 + 4) 20 (78 + 4)) (65 + 4) 22 (79 + 4)) (65 + 4) 23 (80 + 4), lh_SH.take 81)) : lh_Met Γ m_LM_init 20 15 10681 [.ref (65 + 4)] (I, L, F, lh_SH.take 66) (lh_kv K) := by
  rw [f_LM_init_65] at hf
  refine lh_ofG k_LM_init [(0, .ref (65 + 4))] rfl (Nat.le_of_ble_eq_true rfl) rfl ?_
  refine lh_aload_n (q := 0) rfl rfl rfl ?_
  refine lh_objInit rfl rfl ⟨rfl, rfl⟩ rfl ?_
  refine lh_aload_n (q := 0) rfl rfl rfl ?_
  refine lh_sipush rfl lh_s_1000 ?_
  refine lh_newa4 (u := 0) (N := 1000) (n := 66) (S' := (lh_SH.take 67)) (bc := 14) (bs := 9681) rfl (Or.inl ⟨rfl, rfl⟩) (by decide) (by decide) (by decide) (by rfl) (by rfl) hzI.at hzL.at hzF.at ?_
  refine lh_putF4 rfl rfl rfl rfl rfl rfl rfl ?_
  refine lh_aload_n (q := 0) rfl rfl rfl ?_
  refine lh_sipush rfl lh_s_1002 ?_
  refine lh_newa4 (u := 0) (N := 1002) (n := 67) (S' := (lh_SH.take 68)) (bc := 13) (bs := 8679) rfl (Or.inl ⟨rfl, rfl⟩) (by decide) (by decide) (by decide) (by rfl) (by rfl) (hzI.mono (n' := 67) (by decide)).at (hzL.mono (n' := 67) (by decide)).at ((hzF.mono (n' := 67) (by decide)).f2 (by decide)).at ?_
  refine lh_putF4 rfl rfl rfl rfl rfl rfl rfl ?_
  refine lh_aload_n (q := 0) rfl rfl rfl ?_
  refine lh_sipush rfl lh_s_1002 ?_
  refine lh_newa4 (u := 0) (N := 1002) (n := 68) (S' := (lh_SH.take 69)) (bc := 12) (bs := 7677) rfl (Or.inl ⟨rfl, rfl⟩) (by decide) (by decide) (by decide) (by rfl) (by rfl) ((hzI.mono (n' := 67) (by decide)).mono (n' := 68) (by decide)).at ((hzL.mono (n' := 67) (by decide)).mono (n' := 68) (by decide)).at ((((hzF.mono (n' := 67) (by decide)).f2 (by decide)).mono (n' := 68) (by decide)).f2 (by decide)).at ?_
  refine lh_putF4 rfl rfl rfl rfl rfl rfl rfl ?_
  refine lh_aload_n (q := 0) rfl rfl rfl ?_
  refine lh_sipush rfl lh_s_1002 ?_
  refine lh_newa4 (u := 1) (N := 1002) (n := 69) (S' := (lh_SH.take 70)) (bc := 11) (bs := 6675) rfl (Or.inr (Or.inl ⟨rfl, rfl⟩)) (by decide) (by decide) (by decide) (by rfl) (by rfl) (((hzI.mono (n' := 67) (by decide)).mono (n' := 68) (by decide)).mono (n' := 69) (by decide)).at (((hzL.mono (n' := 67) (by decide)).mono (n' := 68) (by decide)).mono (n' := 69) (by decide)).at ((((((hzF.mono (n' := 67) (by decide)).f2 (by decide)).mono (n' := 68) (by decide)).f2 (by decide)).mono (n' := 69) (by decide)).f2 (by decide)).at ?_
  refine lh_putF4 rfl rfl rfl rfl rfl rfl rfl ?_
  refine lh_aload_n (q := 0) rfl rfl rfl ?_
  refine lh_bipush rfl lh_b_27 ?_
  refine lh_newa4 (u := 1) (N := 27) (n := 70) (S' := (lh_SH.take 71)) (bc := 10) (bs := 6648) rfl (Or.inr (Or.inl ⟨rfl, rfl⟩)) (by decide) (by decide) (by decide) (by rfl) (by rfl) ((((hzI.mono (n' := 67) (by decide)).mono (n' := 68) (by decide)).mono (n' := 69) (by decide)).mono (n' := 70) (by decide)).at ((((hzL.mono (n' := 67) (by decide)).mono (n' := 68) (by decide)).mono (n' := 69) (by decide)).mono (n' := 70) (by decide)).at ((((((((hzF.mono (n' := 67) (by decide)).f2 (by decide)).mono (n' := 68) (by decide)).f2 (by decide)).mono (n' := 69) (by decide)).f2 (by decide)).mono (n' := 70) (by decide)).f2 (by decide)).at ?_
  refine lh_dup rfl rfl ?_
  refine lh_iconst rfl lh_k_0 ?_
  refine lh_ldc2 rfl rfl ?_
  refine lh_last5 (k := 0) rfl rfl (by decide) (by decide) ?_
  refine lh_dup rfl rfl ?_
  refine lh_iconst rfl lh_k_1 ?_
  refine lh_ldc2 rfl rfl ?_
  refine lh_last5 (k := 1) rfl rfl (by decide) (by decide) ?_
  refine lh_dup rfl rfl ?_
  refine lh_iconst rfl lh_k_2 ?_
  refine lh_ldc2 rfl rfl ?_
  refine lh_last5 (k := 2) rfl rfl (by decide) (by decide) ?_
  refine lh_dup rfl rfl ?_
  refine lh_iconst rfl lh_k_3 ?_
  refine lh_ldc2 rfl rfl ?_
  refine lh_last5 (k := 3) rfl rfl (by decide) (by decide) ?_
  refine lh_dup rfl rfl ?_
  refine lh_iconst rfl lh_k_4 ?_
  refine lh_ldc2 rfl rfl ?_
  refine lh_last5 (k := 4) rfl rfl (by decide) (by decide) ?_
  refine lh_dup rfl rfl ?_
  refine lh_iconst rfl lh_k_5 ?_
  refine lh_ldc2 rfl rfl ?_
  refine lh_last5 (k := 5) rfl rfl (by decide) (by decide) ?_
  refine lh_dup rfl rfl ?_
  refine lh_bipush rfl lh_b_6 ?_
  refine lh_ldc2 rfl rfl ?_
  refine lh_last5 (k := 6) rfl rfl (by decide) (by decide) ?_
  refine lh_dup rfl rfl ?_
  refine lh_bipush rfl lh_b_7 ?_
  refine lh_ldc2 rfl rfl ?_
  refine lh_last5 (k := 7) rfl rfl (by decide) (by decide) ?_
  refine lh_dup rfl rfl ?_
  refine lh_bipush rfl lh_b_8 ?_
  refine lh_ldc2 rfl rfl ?_
  refine lh_last5 (k := 8) rfl rfl (by decide) (by decide) ?_
  refine lh_dup rfl rfl ?_
  refine lh_bipush rfl lh_b_9 ?_
  refine lh_ldc2 rfl rfl ?_
  refine lh_last5 (k := 9) rfl rfl (by decide) (by decide) ?_
  refine lh_dup rfl rfl ?_
  refine lh_bipush rfl lh_b_10 ?_
  refine lh_ldc2 rfl rfl ?_
  refine lh_last5 (k := 10) rfl rfl (by decide) (by decide) ?_
  refine lh_dup rfl rfl ?_
  refine lh_bipush rfl lh_b_11 ?_
  refine lh_ldc2 rfl rfl ?_
  refine lh_last5 (k := 11) rfl rfl (by decide) (by decide) ?_
  refine lh_dup rfl rfl ?_
  refine lh_bipush rfl lh_b_12 ?_
  refine lh_ldc2 rfl rfl ?_
  refine lh_last5 (k := 12) rfl rfl (by decide) (by decide) ?_
  refine lh_dup rfl rfl ?_
  refine lh_bipush rfl lh_b_13 ?_
  refine lh_ldc2 rfl rfl ?_
  refine lh_last5 (k := 13) rfl rfl (by decide) (by decide) ?_
  refine lh_dup rfl rfl ?_
  refine lh_bipush rfl lh_b_14 ?_
  refine lh_ldc2 rfl rfl ?_
  refine lh_last5 (k := 14) rfl rfl (by decide) (by decide) ?_
  refine lh_dup rfl rfl ?_
  refine lh_bipush rfl lh_b_15 ?_
  refine lh_ldc2 rfl rfl ?_
  refine lh_last5 (k := 15) rfl rfl (by decide) (by decide) ?_
  refine lh_dup rfl rfl ?_
  refine lh_bipush rfl lh_b_16 ?_
  refine lh_ldc2 rfl rfl ?_
  refine lh_last5 (k := 16) rfl rfl (by decide) (by decide) ?_
  refine lh_dup rfl rfl ?_
  refine lh_bipush rfl lh_b_17 ?_
  refine lh_ldc2 rfl rfl ?_
  refine lh_last5 (k := 17) rfl rfl (by decide) (by decide) ?_
  refine lh_dup rfl rfl ?_
  refine lh_bipush rfl lh_b_18 ?_
  refine lh_ldc2 rfl rfl ?_
  refine lh_last5 (k := 18) rfl rfl (by decide) (by decide) ?_
  refine lh_dup rfl rfl ?_
  refine lh_bipush rfl lh_b_19 ?_
  refine lh_ldc2 rfl rfl ?_
  refine lh_last5 (k := 19) rfl rfl (by decide) (by decide) ?_
  refine lh_dup rfl rfl ?_
  refine lh_bipush rfl lh_b_20 ?_
  refine lh_ldc2 rfl rfl ?_
  refine lh_last5 (k := 20) rfl rfl (by decide) (by decide) ?_
  refine lh_dup rfl rfl ?_
  refine lh_bipush rfl lh_b_21 ?_
  refine lh_ldc2 rfl rfl ?_
  refine lh_last5 (k := 21) rfl rfl (by decide) (by decide) ?_
  refine lh_dup rfl rfl ?_
  refine lh_bipush rfl lh_b_22 ?_
  refine lh_ldc2 rfl rfl ?_
  refine lh_last5 (k := 22) rfl rfl (by decide) (by decide) ?_
  refine lh_dup rfl rfl ?_
  refine lh_bipush rfl lh_b_23 ?_
  refine lh_ldc2 rfl rfl ?_
  refine lh_last5 (k := 23) rfl rfl (by decide) (by decide) ?_
  refine lh_dup rfl rfl ?_
  refine lh_bipush rfl lh_b_24 ?_
  refine lh_ldc2 rfl rfl ?_
  refine lh_last5 (k := 24) rfl rfl (by decide) (by decide) ?_
  refine lh_dup rfl rfl ?_
  refine lh_bipush rfl lh_b_25 ?_
  refine lh_ldc2 rfl rfl ?_
  refine lh_last5 (k := 25) rfl rfl (by decide) (by decide) ?_
  refine lh_dup rfl rfl ?_
  refine lh_bipush rfl lh_b_26 ?_
  refine lh_ldc2 rfl rfl ?_
  refine lh_last5 (k := 26) rfl rfl (by decide) (by decide) ?_
  refine lh_putF4 rfl rfl rfl rfl rfl rfl rfl ?_
  refine lh_aload_n (q := 0) rfl rfl rfl ?_
  refine lh_sipush rfl lh_s_200 ?_
  refine lh_newa4 (u := 0) (N := 200) (n := 71) (S' := (lh_SH.take 72)) (bc := 9) (bs := 6448) rfl (Or.inl ⟨rfl, rfl⟩) (by decide) (by decide) (by decide) (by rfl) (by rfl) (((((hzI.mono (n' := 67) (by decide)).mono (n' := 68) (by decide)).mono (n' := 69) (by decide)).mono (n' := 70) (by decide)).mono (n' := 71) (by decide)).at ((((((((((((((((((((((((((((((((hzL.mono (n' := 67) (by decide)).mono (n' := 68) (by decide)).mono (n' := 69) (by decide)).mono (n' := 70) (by decide)).mono (n' := 71) (by decide)).v2 (by decide)).v2 (by decide)).v2 (by decide)).v2 (by decide)).v2 (by decide)).v2 (by decide)).v2 (by decide)).v2 (by decide)).v2 (by decide)).v2 (by decide)).v2 (by decide)).v2 (by decide)).v2 (by decide)).v2 (by decide)).v2 (by decide)).v2 (by decide)).v2 (by decide)).v2 (by decide)).v2 (by decide)).v2 (by decide)).v2 (by decide)).v2 (by decide)).v2 (by decide)).v2 (by decide)).v2 (by decide)).v2 (by decide)).v2 (by decide)).at ((((((((((hzF.mono (n' := 67) (by decide)).f2 (by decide)).mono (n' := 68) (by decide)).f2 (by decide)).mono (n' := 69) (by decide)).f2 (by decide)).mono (n' := 70) (by decide)).f2 (by decide)).mono (n' := 71) (by decide)).f2 (by decide)).at ?_
  refine lh_putF4 rfl rfl rfl rfl rfl rfl rfl ?_
  refine lh_aload_n (q := 0) rfl rfl rfl ?_
  refine lh_sipush rfl lh_s_2200 ?_
  refine lh_newa4 (u := 0) (N := 2200) (n := 72) (S' := (lh_SH.take 73)) (bc := 8) (bs := 4248) rfl (Or.inl ⟨rfl, rfl⟩) (by decide) (by decide) (by decide) (by rfl) (by rfl) ((((((hzI.mono (n' := 67) (by decide)).mono (n' := 68) (by decide)).mono (n' := 69) (by decide)).mono (n' := 70) (by decide)).mono (n' := 71) (by decide)).mono (n' := 72) (by decide)).at (((((((((((((((((((((((((((((((((hzL.mono (n' := 67) (by decide)).mono (n' := 68) (by decide)).mono (n' := 69) (by decide)).mono (n' := 70) (by decide)).mono (n' := 71) (by decide)).v2 (by decide)).v2 (by decide)).v2 (by decide)).v2 (by decide)).v2 (by decide)).v2 (by decide)).v2 (by decide)).v2 (by decide)).v2 (by decide)).v2 (by decide)).v2 (by decide)).v2 (by decide)).v2 (by decide)).v2 (by decide)).v2 (by decide)).v2 (by decide)).v2 (by decide)).v2 (by decide)).v2 (by decide)).v2 (by decide)).v2 (by decide)).v2 (by decide)).v2 (by decide)).v2 (by decide)).v2 (by decide)).v2 (by decide)).v2 (by decide)).mono (n' := 72) (by decide)).at ((((((((((((hzF.mono (n' := 67) (by decide)).f2 (by decide)).mono (n' := 68) (by decide)).f2 (by decide)).mono (n' := 69) (by decide)).f2 (by decide)).mono (n' := 70) (by decide)).f2 (by decide)).mono (n' := 71) (by decide)).f2 (by decide)).mono (n' := 72) (by decide)).f2 (by decide)).at ?_
  refine lh_putF4 rfl rfl rfl rfl rfl rfl rfl ?_
  refine lh_aload_n (q := 0) rfl rfl rfl ?_
  refine lh_sipush rfl lh_s_2200 ?_
  refine lh_newa4 (u := 0) (N := 2200) (n := 73) (S' := (lh_SH.take 74)) (bc := 7) (bs := 2048) rfl (Or.inl ⟨rfl, rfl⟩) (by decide) (by decide) (by decide) (by rfl) (by rfl) (((((((hzI.mono (n' := 67) (by decide)).mono (n' := 68) (by decide)).mono (n' := 69) (by decide)).mono (n' := 70) (by decide)).mono (n' := 71) (by decide)).mono (n' := 72) (by decide)).mono (n' := 73) (by decide)).at ((((((((((((((((((((((((((((((((((hzL.mono (n' := 67) (by decide)).mono (n' := 68) (by decide)).mono (n' := 69) (by decide)).mono (n' := 70) (by decide)).mono (n' := 71) (by decide)).v2 (by decide)).v2 (by decide)).v2 (by decide)).v2 (by decide)).v2 (by decide)).v2 (by decide)).v2 (by decide)).v2 (by decide)).v2 (by decide)).v2 (by decide)).v2 (by decide)).v2 (by decide)).v2 (by decide)).v2 (by decide)).v2 (by decide)).v2 (by decide)).v2 (by decide)).v2 (by decide)).v2 (by decide)).v2 (by decide)).v2 (by decide)).v2 (by decide)).v2 (by decide)).v2 (by decide)).v2 (by decide)).v2 (by decide)).v2 (by decide)).mono (n' := 72) (by decide)).mono (n' := 73) (by decide)).at ((((((((((((((hzF.mono (n' := 67) (by decide)).f2 (by decide)).mono (n' := 68) (by decide)).f2 (by decide)).mono (n' := 69) (by decide)).f2 (by decide)).mono (n' := 70) (by decide)).f2 (by decide)).mono (n' := 71) (by decide)).f2 (by decide)).mono (n' := 72) (by decide)).f2 (by decide)).mono (n' := 73) (by decide)).f2 (by decide)).at ?_
  refine lh_putF4 rfl rfl rfl rfl rfl rfl rfl ?_
  refine lh_aload_n (q := 0) rfl rfl rfl ?_
  refine lh_bipush rfl lh_b_10 ?_
  refine lh_newa4 (u := 1) (N := 10) (n := 74) (S' := (lh_SH.take 75)) (bc := 6) (bs := 2038) rfl (Or.inr (Or.inl ⟨rfl, rfl⟩)) (by decide) (by decide) (by decide) (by rfl) (by rfl) ((((((((hzI.mono (n' := 67) (by decide)).mono (n' := 68) (by decide)).mono (n' := 69) (by decide)).mono (n' := 70) (by decide)).mono (n' := 71) (by decide)).mono (n' := 72) (by decide)).mono (n' := 73) (by decide)).mono (n' := 74) (by decide)).at (((((((((((((((((((((((((((((((((((hzL.mono (n' := 67) (by decide)).mono (n' := 68) (by decide)).mono (n' := 69) (by decide)).mono (n' := 70) (by decide)).mono (n' := 71) (by decide)).v2 (by decide)).v2 (by decide)).v2 (by decide)).v2 (by decide)).v2 (by decide)).v2 (by decide)).v2 (by decide)).v2 (by decide)).v2 (by decide)).v2 (by decide)).v2 (by decide)).v2 (by decide)).v2 (by decide)).v2 (by decide)).v2 (by decide)).v2 (by decide)).v2 (by decide)).v2 (by decide)).v2 (by decide)).v2 (by decide)).v2 (by decide)).v2 (by decide)).v2 (by decide)).v2 (by decide)).v2 (by decide)).v2 (by decide)).v2 (by decide)).mono (n' := 72) (by decide)).mono (n' := 73) (by decide)).mono (n' := 74) (by decide)).at ((((((((((((((((hzF.mono (n' := 67) (by decide)).f2 (by decide)).mono (n' := 68) (by decide)).f2 (by decide)).mono (n' := 69) (by decide)).f2 (by decide)).mono (n' := 70) (by decide)).f2 (by decide)).mono (n' := 71) (by decide)).f2 (by decide)).mono (n' := 72) (by decide)).f2 (by decide)).mono (n' := 73) (by decide)).f2 (by decide)).mono (n' := 74) (by decide)).f2 (by decide)).at ?_
  refine lh_putF4 rfl rfl rfl rfl rfl rfl rfl ?_
  refine lh_aload_n (q := 0) rfl rfl rfl ?_
  refine lh_sipush rfl lh_s_170 ?_
  refine lh_newa4 (u := 0) (N := 170) (n := 75) (S' := (lh_SH.take 76)) (bc := 5) (bs := 1868) rfl (Or.inl ⟨rfl, rfl⟩) (by decide) (by decide) (by decide) (by rfl) (by rfl) (((((((((hzI.mono (n' := 67) (by decide)).mono (n' := 68) (by decide)).mono (n' := 69) (by decide)).mono (n' := 70) (by decide)).mono (n' := 71) (by decide)).mono (n' := 72) (by decide)).mono (n' := 73) (by decide)).mono (n' := 74) (by decide)).mono (n' := 75) (by decide)).at ((((((((((((((((((((((((((((((((((((hzL.mono (n' := 67) (by decide)).mono (n' := 68) (by decide)).mono (n' := 69) (by decide)).mono (n' := 70) (by decide)).mono (n' := 71) (by decide)).v2 (by decide)).v2 (by decide)).v2 (by decide)).v2 (by decide)).v2 (by decide)).v2 (by decide)).v2 (by decide)).v2 (by decide)).v2 (by decide)).v2 (by decide)).v2 (by decide)).v2 (by decide)).v2 (by decide)).v2 (by decide)).v2 (by decide)).v2 (by decide)).v2 (by decide)).v2 (by decide)).v2 (by decide)).v2 (by decide)).v2 (by decide)).v2 (by decide)).v2 (by decide)).v2 (by decide)).v2 (by decide)).v2 (by decide)).v2 (by decide)).mono (n' := 72) (by decide)).mono (n' := 73) (by decide)).mono (n' := 74) (by decide)).mono (n' := 75) (by decide)).at ((((((((((((((((((hzF.mono (n' := 67) (by decide)).f2 (by decide)).mono (n' := 68) (by decide)).f2 (by decide)).mono (n' := 69) (by decide)).f2 (by decide)).mono (n' := 70) (by decide)).f2 (by decide)).mono (n' := 71) (by decide)).f2 (by decide)).mono (n' := 72) (by decide)).f2 (by decide)).mono (n' := 73) (by decide)).f2 (by decide)).mono (n' := 74) (by decide)).f2 (by decide)).mono (n' := 75) (by decide)).f2 (by decide)).at ?_
  refine lh_putF4 rfl rfl rfl rfl rfl rfl rfl ?_
  refine lh_aload_n (q := 0) rfl rfl rfl ?_
  refine lh_iconst rfl lh_k_4 ?_
  refine lh_newa4 (u := 0) (N := 4) (n := 76) (S' := (lh_SH.take 77)) (bc := 4) (bs := 1864) rfl (Or.inl ⟨rfl, rfl⟩) (by decide) (by decide) (by decide) (by rfl) (by rfl) ((((((((((hzI.mono (n' := 67) (by decide)).mono (n' := 68) (by decide)).mono (n' := 69) (by decide)).mono (n' := 70) (by decide)).mono (n' := 71) (by decide)).mono (n' := 72) (by decide)).mono (n' := 73) (by decide)).mono (n' := 74) (by decide)).mono (n' := 75) (by decide)).mono (n' := 76) (by decide)).at (((((((((((((((((((((((((((((((((((((hzL.mono (n' := 67) (by decide)).mono (n' := 68) (by decide)).mono (n' := 69) (by decide)).mono (n' := 70) (by decide)).mono (n' := 71) (by decide)).v2 (by decide)).v2 (by decide)).v2 (by decide)).v2 (by decide)).v2 (by decide)).v2 (by decide)).v2 (by decide)).v2 (by decide)).v2 (by decide)).v2 (by decide)).v2 (by decide)).v2 (by decide)).v2 (by decide)).v2 (by decide)).v2 (by decide)).v2 (by decide)).v2 (by decide)).v2 (by decide)).v2 (by decide)).v2 (by decide)).v2 (by decide)).v2 (by decide)).v2 (by decide)).v2 (by decide)).v2 (by decide)).v2 (by decide)).v2 (by decide)).mono (n' := 72) (by decide)).mono (n' := 73) (by decide)).mono (n' := 74) (by decide)).mono (n' := 75) (by decide)).mono (n' := 76) (by decide)).at ((((((((((((((((((((hzF.mono (n' := 67) (by decide)).f2 (by decide)).mono (n' := 68) (by decide)).f2 (by decide)).mono (n' := 69) (by decide)).f2 (by decide)).mono (n' := 70) (by decide)).f2 (by decide)).mono (n' := 71) (by decide)).f2 (by decide)).mono (n' := 72) (by decide)).f2 (by decide)).mono (n' := 73) (by decide)).f2 (by decide)).mono (n' := 74) (by decide)).f2 (by decide)).mono (n' := 75) (by decide)).f2 (by decide)).mono (n' := 76) (by decide)).f2 (by decide)).at ?_
  refine lh_putF4 rfl rfl rfl rfl rfl rfl rfl ?_
  refine lh_aload_n (q := 0) rfl rfl rfl ?_
  refine lh_sipush rfl lh_s_1100 ?_
  refine lh_newa4 (u := 0) (N := 1100) (n := 77) (S' := (lh_SH.take 78)) (bc := 3) (bs := 764) rfl (Or.inl ⟨rfl, rfl⟩) (by decide) (by decide) (by decide) (by rfl) (by rfl) (((((((((((hzI.mono (n' := 67) (by decide)).mono (n' := 68) (by decide)).mono (n' := 69) (by decide)).mono (n' := 70) (by decide)).mono (n' := 71) (by decide)).mono (n' := 72) (by decide)).mono (n' := 73) (by decide)).mono (n' := 74) (by decide)).mono (n' := 75) (by decide)).mono (n' := 76) (by decide)).mono (n' := 77) (by decide)).at ((((((((((((((((((((((((((((((((((((((hzL.mono (n' := 67) (by decide)).mono (n' := 68) (by decide)).mono (n' := 69) (by decide)).mono (n' := 70) (by decide)).mono (n' := 71) (by decide)).v2 (by decide)).v2 (by decide)).v2 (by decide)).v2 (by decide)).v2 (by decide)).v2 (by decide)).v2 (by decide)).v2 (by decide)).v2 (by decide)).v2 (by decide)).v2 (by decide)).v2 (by decide)).v2 (by decide)).v2 (by decide)).v2 (by decide)).v2 (by decide)).v2 (by decide)).v2 (by decide)).v2 (by decide)).v2 (by decide)).v2 (by decide)).v2 (by decide)).v2 (by decide)).v2 (by decide)).v2 (by decide)).v2 (by decide)).v2 (by decide)).mono (n' := 72) (by decide)).mono (n' := 73) (by decide)).mono (n' := 74) (by decide)).mono (n' := 75) (by decide)).mono (n' := 76) (by decide)).mono (n' := 77) (by decide)).at ((((((((((((((((((((((hzF.mono (n' := 67) (by decide)).f2 (by decide)).mono (n' := 68) (by decide)).f2 (by decide)).mono (n' := 69) (by decide)).f2 (by decide)).mono (n' := 70) (by decide)).f2 (by decide)).mono (n' := 71) (by decide)).f2 (by decide)).mono (n' := 72) (by decide)).f2 (by decide)).mono (n' := 73) (by decide)).f2 (by decide)).mono (n' := 74) (by decide)).f2 (by decide)).mono (n' := 75) (by decide)).f2 (by decide)).mono (n' := 76) (by decide)).f2 (by decide)).mono (n' := 77) (by decide)).f2 (by decide)).at ?_
  refine lh_putF4 rfl rfl rfl rfl rfl rfl rfl ?_
  refine lh_aload_n (q := 0) rfl rfl rfl ?_
  refine lh_sipush rfl lh_s_736 ?_
  refine lh_newa4 (u := 0) (N := 736) (n := 78) (S' := (lh_SH.take 79)) (bc := 2) (bs := 28) rfl (Or.inl ⟨rfl, rfl⟩) (by decide) (by decide) (by decide) (by rfl) (by rfl) ((((((((((((hzI.mono (n' := 67) (by decide)).mono (n' := 68) (by decide)).mono (n' := 69) (by decide)).mono (n' := 70) (by decide)).mono (n' := 71) (by decide)).mono (n' := 72) (by decide)).mono (n' := 73) (by decide)).mono (n' := 74) (by decide)).mono (n' := 75) (by decide)).mono (n' := 76) (by decide)).mono (n' := 77) (by decide)).mono (n' := 78) (by decide)).at (((((((((((((((((((((((((((((((((((((((hzL.mono (n' := 67) (by decide)).mono (n' := 68) (by decide)).mono (n' := 69) (by decide)).mono (n' := 70) (by decide)).mono (n' := 71) (by decide)).v2 (by decide)).v2 (by decide)).v2 (by decide)).v2 (by decide)).v2 (by decide)).v2 (by decide)).v2 (by decide)).v2 (by decide)).v2 (by decide)).v2 (by decide)).v2 (by decide)).v2 (by decide)).v2 (by decide)).v2 (by decide)).v2 (by decide)).v2 (by decide)).v2 (by decide)).v2 (by decide)).v2 (by decide)).v2 (by decide)).v2 (by decide)).v2 (by decide)).v2 (by decide)).v2 (by decide)).v2 (by decide)).v2 (by decide)).v2 (by decide)).mono (n' := 72) (by decide)).mono (n' := 73) (by decide)).mono (n' := 74) (by decide)).mono (n' := 75) (by decide)).mono (n' := 76) (by decide)).mono (n' := 77) (by decide)).mono (n' := 78) (by decide)).at ((((((((((((((((((((((((hzF.mono (n' := 67) (by decide)).f2 (by decide)).mono (n' := 68) (by decide)).f2 (by decide)).mono (n' := 69) (by decide)).f2 (by decide)).mono (n' := 70) (by decide)).f2 (by decide)).mono (n' := 71) (by decide)).f2 (by decide)).mono (n' := 72) (by decide)).f2 (by decide)).mono (n' := 73) (by decide)).f2 (by decide)).mono (n' := 74) (by decide)).f2 (by decide)).mono (n' := 75) (by decide)).f2 (by decide)).mono (n' := 76) (by decide)).f2 (by decide)).mono (n' := 77) (by decide)).f2 (by decide)).mono (n' := 78) (by decide)).f2 (by decide)).at ?_
  refine lh_putF4 rfl rfl rfl rfl rfl rfl rfl ?_
  refine lh_aload_n (q := 0) rfl rfl rfl ?_
  refine lh_iconst rfl lh_k_4 ?_
  refine lh_newa4 (u := 3) (N := 4) (n := 79) (S' := (lh_SH.take 80)) (bc := 1) (bs := 24) rfl (Or.inr (Or.inr (Or.inr ⟨rfl, rfl⟩))) (by decide) (by decide) (by decide) (by rfl) (by rfl) (((((((((((((hzI.mono (n' := 67) (by decide)).mono (n' := 68) (by decide)).mono (n' := 69) (by decide)).mono (n' := 70) (by decide)).mono (n' := 71) (by decide)).mono (n' := 72) (by decide)).mono (n' := 73) (by decide)).mono (n' := 74) (by decide)).mono (n' := 75) (by decide)).mono (n' := 76) (by decide)).mono (n' := 77) (by decide)).mono (n' := 78) (by decide)).mono (n' := 79) (by decide)).at ((((((((((((((((((((((((((((((((((((((((hzL.mono (n' := 67) (by decide)).mono (n' := 68) (by decide)).mono (n' := 69) (by decide)).mono (n' := 70) (by decide)).mono (n' := 71) (by decide)).v2 (by decide)).v2 (by decide)).v2 (by decide)).v2 (by decide)).v2 (by decide)).v2 (by decide)).v2 (by decide)).v2 (by decide)).v2 (by decide)).v2 (by decide)).v2 (by decide)).v2 (by decide)).v2 (by decide)).v2 (by decide)).v2 (by decide)).v2 (by decide)).v2 (by decide)).v2 (by decide)).v2 (by decide)).v2 (by decide)).v2 (by decide)).v2 (by decide)).v2 (by decide)).v2 (by decide)).v2 (by decide)).v2 (by decide)).v2 (by decide)).mono (n' := 72) (by decide)).mono (n' := 73) (by decide)).mono (n' := 74) (by decide)).mono (n' := 75) (by decide)).mono (n' := 76) (by decide)).mono (n' := 77) (by decide)).mono (n' := 78) (by decide)).mono (n' := 79) (by decide)).at ((((((((((((((((((((((((((hzF.mono (n' := 67) (by decide)).f2 (by decide)).mono (n' := 68) (by decide)).f2 (by decide)).mono (n' := 69) (by decide)).f2 (by decide)).mono (n' := 70) (by decide)).f2 (by decide)).mono (n' := 71) (by decide)).f2 (by decide)).mono (n' := 72) (by decide)).f2 (by decide)).mono (n' := 73) (by decide)).f2 (by decide)).mono (n' := 74) (by decide)).f2 (by decide)).mono (n' := 75) (by decide)).f2 (by decide)).mono (n' := 76) (by decide)).f2 (by decide)).mono (n' := 77) (by decide)).f2 (by decide)).mono (n' := 78) (by decide)).f2 (by decide)).mono (n' := 79) (by decide)).f2 (by decide)).at ?_
  refine lh_putF4 rfl rfl rfl rfl rfl rfl rfl ?_
  refine lh_aload_n (q := 0) rfl rfl rfl ?_
  refine lh_bipush rfl lh_b_24 ?_
  refine lh_newa4 (u := 1) (N := 24) (n := 80) (S' := (lh_SH.take 81)) (bc := 0) (bs := 0) rfl (Or.inr (Or.inl ⟨rfl, rfl⟩)) (by decide) (by decide) (by decide) (by rfl) (by rfl) ((((((((((((((hzI.mono (n' := 67) (by decide)).mono (n' := 68) (by decide)).mono (n' := 69) (by decide)).mono (n' := 70) (by decide)).mono (n' := 71) (by decide)).mono (n' := 72) (by decide)).mono (n' := 73) (by decide)).mono (n' := 74) (by decide)).mono (n' := 75) (by decide)).mono (n' := 76) (by decide)).mono (n' := 77) (by decide)).mono (n' := 78) (by decide)).mono (n' := 79) (by decide)).mono (n' := 80) (by decide)).at (((((((((((((((((((((((((((((((((((((((((hzL.mono (n' := 67) (by decide)).mono (n' := 68) (by decide)).mono (n' := 69) (by decide)).mono (n' := 70) (by decide)).mono (n' := 71) (by decide)).v2 (by decide)).v2 (by decide)).v2 (by decide)).v2 (by decide)).v2 (by decide)).v2 (by decide)).v2 (by decide)).v2 (by decide)).v2 (by decide)).v2 (by decide)).v2 (by decide)).v2 (by decide)).v2 (by decide)).v2 (by decide)).v2 (by decide)).v2 (by decide)).v2 (by decide)).v2 (by decide)).v2 (by decide)).v2 (by decide)).v2 (by decide)).v2 (by decide)).v2 (by decide)).v2 (by decide)).v2 (by decide)).v2 (by decide)).v2 (by decide)).mono (n' := 72) (by decide)).mono (n' := 73) (by decide)).mono (n' := 74) (by decide)).mono (n' := 75) (by decide)).mono (n' := 76) (by decide)).mono (n' := 77) (by decide)).mono (n' := 78) (by decide)).mono (n' := 79) (by decide)).mono (n' := 80) (by decide)).at ((((((((((((((((((((((((((((hzF.mono (n' := 67) (by decide)).f2 (by decide)).mono (n' := 68) (by decide)).f2 (by decide)).mono (n' := 69) (by decide)).f2 (by decide)).mono (n' := 70) (by decide)).f2 (by decide)).mono (n' := 71) (by decide)).f2 (by decide)).mono (n' := 72) (by decide)).f2 (by decide)).mono (n' := 73) (by decide)).f2 (by decide)).mono (n' := 74) (by decide)).f2 (by decide)).mono (n' := 75) (by decide)).f2 (by decide)).mono (n' := 76) (by decide)).f2 (by decide)).mono (n' := 77) (by decide)).f2 (by decide)).mono (n' := 78) (by decide)).f2 (by decide)).mono (n' := 79) (by decide)).f2 (by decide)).mono (n' := 80) (by decide)).f2 (by decide)).at ?_
  refine lh_putF4 rfl rfl rfl rfl rfl rfl rfl ?_
  refine lh_aload_n (q := 0) rfl rfl rfl ?_
  refine lh_iconst rfl lh_k_0 ?_
  have hS : lh_laym (lh_f2 (lh_f2 (lh_f2 (lh_f2 (lh_f2 (lh_f2 (lh_f2 (lh_f2 (lh_f2 (lh_f2 (lh_f2 (lh_f2 (lh_f2 (lh_f2 (lh_f2 F (65 + 4) 1 (66 + 4)) (65 + 4) 4 (67 + 4)) (65 + 4) 5 (68 + 4)) (65 + 4) 6 (69 + 4)) (65 + 4) 9 (70 + 4)) (65 + 4) 10 (71 + 4)) (65 + 4) 11 (72 + 4)) (65 + 4) 12 (73 + 4)) (65 + 4) 14 (74 + 4)) (65 + 4) 17 (75 + 4)) (65 + 4) 18 (76 + 4)) (65 + 4) 19 (77 + 4)) (65 + 4) 20 (78 + 4)) (65 + 4) 22 (79 + 4)) (65 + 4) 23 (80 + 4)) (lh_SH.take 81) := lh_laym_of (by decide) (by intro k q hk; match k, hk with
    | 0, hk => cases hk; rfl
    | 1, hk => cases hk; rfl
    | 2, hk => cases hk; rfl
    | 3, hk => cases hk; rfl
    | 4, hk => cases hk; rfl
    | 5, hk => cases hk; rfl
    | 6, hk => cases hk; rfl
    | 7, hk => cases hk; rfl
    | 8, hk => cases hk; rfl
    | 9, hk => cases hk; rfl
    | 10, hk => cases hk; rfl
    | 11, hk => cases hk; rfl
    | 12, hk => cases hk; rfl
    | 13, hk => cases hk; rfl
    | 14, hk => cases hk; rfl
    | n + 15, hk => cases hk)
  refine lh_bdE hf (fun r1 e2 hf => ?_)
  refine lh_cVv (N := m_LM_standsAsAlways) (d := 0) (o := 65) (As := [.int 0]) (st := []) rfl rfl v_LM_standsAsAlways rfl rfl rfl rfl ⟨rfl, rfl⟩ rfl (t_LM_standsAsAlways hG hS e2 ?_)
  refine lh_aload_n (q := 0) rfl rfl rfl ?_
  refine lh_bdE hf (fun r3 e4 hf => ?_)
  refine lh_cVv (N := m_LM_begins) (d := 2) (o := 65) (As := []) (st := []) rfl rfl v_LM_begins rfl rfl rfl rfl ⟨rfl, rfl⟩ rfl (t_LM_begins hG hS e4 ?_)
  exact lh_vret rfl rfl (by obtain rfl := Option.some.inj hf; exact hK)
