theorem lw_c22 {Γ : lh_Cx} {Z : List Frame → Array Value → State → State → Prop} {I : lh_II} {L : lh_LL} {F : lh_FF} {S : lh_SS} {a b a2 b2 bc bs i : Nat} {r1 : Int32} {r2 : Int32 × lh_II} (hG : lh_GX Γ) (hO : lh_ok F S a b a2 b2) (hL : lh_L Γ ≤ 3584) (hi : i + 6 < lh_L Γ) (hf1 : f_LH_taken a b (lh_xs Γ (i + 1)) (lh_xs Γ (i + 2)) (lh_xs Γ (i + 3)) I = some r1) (hf2 : f_LM_taken (lh_xs Γ (i + 1)) (lh_xs Γ (i + 2)) (lh_xs Γ (i + 3)) I = some r2) (he : r1 = r2.1) (kk : lh_G Γ m_LLm room_1 Z bc bs 13 [(0, .ref 0), (1, .ref (0 + 4)), (2, .ref (65 + 4)), (3, .ref (81 + 4)), (4, .int (nI i))] [] (r2.2, L, F, S)) : lh_G Γ m_LL22 room_1 Z bc bs 0 [(0, .ref 0), (1, .ref (0 + 4)), (2, .ref (65 + 4)), (3, .ref (81 + 4)), (4, .int (nI i))] [] (I, L, F, S) := by
  refine lh_aload_n (q := 1) rfl rfl rfl ?_
  refine lh_aload_n (q := 0) rfl rfl rfl ?_
  refine lh_iload (q := 4) rfl rfl ?_
  refine lh_iconst rfl lh_k_1 ?_
  refine lh_iadd rfl ?_
  refine lh_scr (q := i) (k := 1) rfl (by decide) (by omega) hL ?_
  refine lh_aload_n (q := 0) rfl rfl rfl ?_
  refine lh_iload (q := 4) rfl rfl ?_
  refine lh_iconst rfl lh_k_2 ?_
  refine lh_iadd rfl ?_
  refine lh_scr (q := i) (k := 2) rfl (by decide) (by omega) hL ?_
  refine lh_aload_n (q := 0) rfl rfl rfl ?_
  refine lh_iload (q := 4) rfl rfl ?_
  refine lh_iconst rfl lh_k_3 ?_
  refine lh_iadd rfl ?_
  refine lh_scr (q := i) (k := 3) rfl (by decide) (by omega) hL ?_
  refine lh_cVi (N := m_LH_taken) (d := 4) (o := 0) (As := [.int (lh_xs Γ (i + 1)), .int (lh_xs Γ (i + 2)), .int (lh_xs Γ (i + 3))]) (st := []) rfl rfl v_LH_taken (hO.1.1 0 _ rfl) rfl rfl rfl ⟨rfl, rfl⟩ rfl (t_LH_taken hG hO.1 hO.2.2.1 hO.2.2.2.2.2.2.1 hO.2.2.2.2.1 hO.2.2.2.2.2.2.2.2.1 hf1 ?_)
  refine lh_aload_n (q := 2) rfl rfl rfl ?_
  refine lh_aload_n (q := 0) rfl rfl rfl ?_
  refine lh_iload (q := 4) rfl rfl ?_
  refine lh_iconst rfl lh_k_1 ?_
  refine lh_iadd rfl ?_
  refine lh_scr (q := i) (k := 1) rfl (by decide) (by omega) hL ?_
  refine lh_aload_n (q := 0) rfl rfl rfl ?_
  refine lh_iload (q := 4) rfl rfl ?_
  refine lh_iconst rfl lh_k_2 ?_
  refine lh_iadd rfl ?_
  refine lh_scr (q := i) (k := 2) rfl (by decide) (by omega) hL ?_
  refine lh_aload_n (q := 0) rfl rfl rfl ?_
  refine lh_iload (q := 4) rfl rfl ?_
  refine lh_iconst rfl lh_k_3 ?_
  refine lh_iadd rfl ?_
  refine lh_scr (q := i) (k := 3) rfl (by decide) (by omega) hL ?_
  refine lh_cVi (N := m_LM_taken) (d := 4) (o := 65) (As := [.int (lh_xs Γ (i + 1)), .int (lh_xs Γ (i + 2)), .int (lh_xs Γ (i + 3))]) (st := [.int r1]) rfl rfl v_LM_taken (hO.2.1.1 0 _ rfl) rfl rfl rfl ⟨rfl, rfl⟩ rfl (t_LM_taken hG hO.2.1 hf2 ?_)
  refine lh_icmp_eq rfl (fun _ => ?_) (fun c => absurd he c)
  exact lh_sw2 k_LLm rfl rfl rfl rfl rfl rfl kk
theorem lw_c23 {Γ : lh_Cx} {Z : List Frame → Array Value → State → State → Prop} {I : lh_II} {L : lh_LL} {F : lh_FF} {S : lh_SS} {a b a2 b2 bc bs i : Nat} {r1 : Int32} {r2 : Int32 × lh_II} (hG : lh_GX Γ) (hO : lh_ok F S a b a2 b2) (hL : lh_L Γ ≤ 3584) (hi : i + 6 < lh_L Γ) (hf1 : f_LH_chance a b (lh_xs Γ (i + 1)) (lh_xs Γ (i + 2)) (lh_xs Γ (i + 3)) I = some r1) (hf2 : f_LM_chance (lh_xs Γ (i + 1)) (lh_xs Γ (i + 2)) (lh_xs Γ (i + 3)) I = some r2) (he : r1 = r2.1) (kk : lh_G Γ m_LLm room_1 Z bc bs 13 [(0, .ref 0), (1, .ref (0 + 4)), (2, .ref (65 + 4)), (3, .ref (81 + 4)), (4, .int (nI i))] [] (r2.2, L, F, S)) : lh_G Γ m_LL23 room_1 Z bc bs 0 [(0, .ref 0), (1, .ref (0 + 4)), (2, .ref (65 + 4)), (3, .ref (81 + 4)), (4, .int (nI i))] [] (I, L, F, S) := by
  refine lh_aload_n (q := 1) rfl rfl rfl ?_
  refine lh_aload_n (q := 0) rfl rfl rfl ?_
  refine lh_iload (q := 4) rfl rfl ?_
  refine lh_iconst rfl lh_k_1 ?_
  refine lh_iadd rfl ?_
  refine lh_scr (q := i) (k := 1) rfl (by decide) (by omega) hL ?_
  refine lh_aload_n (q := 0) rfl rfl rfl ?_
  refine lh_iload (q := 4) rfl rfl ?_
  refine lh_iconst rfl lh_k_2 ?_
  refine lh_iadd rfl ?_
  refine lh_scr (q := i) (k := 2) rfl (by decide) (by omega) hL ?_
  refine lh_aload_n (q := 0) rfl rfl rfl ?_
  refine lh_iload (q := 4) rfl rfl ?_
  refine lh_iconst rfl lh_k_3 ?_
  refine lh_iadd rfl ?_
  refine lh_scr (q := i) (k := 3) rfl (by decide) (by omega) hL ?_
  refine lh_cVi (N := m_LH_chance) (d := 3) (o := 0) (As := [.int (lh_xs Γ (i + 1)), .int (lh_xs Γ (i + 2)), .int (lh_xs Γ (i + 3))]) (st := []) rfl rfl v_LH_chance (hO.1.1 0 _ rfl) rfl rfl rfl ⟨rfl, rfl⟩ rfl (t_LH_chance hG hO.1 hO.2.2.1 hO.2.2.2.2.2.2.1 hO.2.2.2.2.1 hO.2.2.2.2.2.2.2.2.1 hf1 ?_)
  refine lh_aload_n (q := 2) rfl rfl rfl ?_
  refine lh_aload_n (q := 0) rfl rfl rfl ?_
  refine lh_iload (q := 4) rfl rfl ?_
  refine lh_iconst rfl lh_k_1 ?_
  refine lh_iadd rfl ?_
  refine lh_scr (q := i) (k := 1) rfl (by decide) (by omega) hL ?_
  refine lh_aload_n (q := 0) rfl rfl rfl ?_
  refine lh_iload (q := 4) rfl rfl ?_
  refine lh_iconst rfl lh_k_2 ?_
  refine lh_iadd rfl ?_
  refine lh_scr (q := i) (k := 2) rfl (by decide) (by omega) hL ?_
  refine lh_aload_n (q := 0) rfl rfl rfl ?_
  refine lh_iload (q := 4) rfl rfl ?_
  refine lh_iconst rfl lh_k_3 ?_
  refine lh_iadd rfl ?_
  refine lh_scr (q := i) (k := 3) rfl (by decide) (by omega) hL ?_
  refine lh_cVi (N := m_LM_chance) (d := 2) (o := 65) (As := [.int (lh_xs Γ (i + 1)), .int (lh_xs Γ (i + 2)), .int (lh_xs Γ (i + 3))]) (st := [.int r1]) rfl rfl v_LM_chance (hO.2.1.1 0 _ rfl) rfl rfl rfl ⟨rfl, rfl⟩ rfl (t_LM_chance hG hO.2.1 hf2 ?_)
  refine lh_icmp_eq rfl (fun _ => ?_) (fun c => absurd he c)
  exact lh_sw2 k_LLm rfl rfl rfl rfl rfl rfl kk
theorem lw_c24 {Γ : lh_Cx} {Z : List Frame → Array Value → State → State → Prop} {I : lh_II} {L : lh_LL} {F : lh_FF} {S : lh_SS} {a b a2 b2 bc bs i : Nat} {r1 : Int32} {r2 : Int32 × lh_II} (hG : lh_GX Γ) (hO : lh_ok F S a b a2 b2) (hL : lh_L Γ ≤ 3584) (hi : i + 6 < lh_L Γ) (hf1 : f_LH_pass a b (lh_xs Γ (i + 1)) (lh_xs Γ (i + 2)) I = some r1) (hf2 : f_LM_pass (lh_xs Γ (i + 1)) (lh_xs Γ (i + 2)) I = some r2) (he : r1 = r2.1) (kk : lh_G Γ m_LLm room_1 Z bc bs 13 [(0, .ref 0), (1, .ref (0 + 4)), (2, .ref (65 + 4)), (3, .ref (81 + 4)), (4, .int (nI i))] [] (r2.2, L, F, S)) : lh_G Γ m_LL24 room_1 Z bc bs 0 [(0, .ref 0), (1, .ref (0 + 4)), (2, .ref (65 + 4)), (3, .ref (81 + 4)), (4, .int (nI i))] [] (I, L, F, S) := by
  refine lh_aload_n (q := 1) rfl rfl rfl ?_
  refine lh_aload_n (q := 0) rfl rfl rfl ?_
  refine lh_iload (q := 4) rfl rfl ?_
  refine lh_iconst rfl lh_k_1 ?_
  refine lh_iadd rfl ?_
  refine lh_scr (q := i) (k := 1) rfl (by decide) (by omega) hL ?_
  refine lh_aload_n (q := 0) rfl rfl rfl ?_
  refine lh_iload (q := 4) rfl rfl ?_
  refine lh_iconst rfl lh_k_2 ?_
  refine lh_iadd rfl ?_
  refine lh_scr (q := i) (k := 2) rfl (by decide) (by omega) hL ?_
  refine lh_cVi (N := m_LH_pass) (d := 2) (o := 0) (As := [.int (lh_xs Γ (i + 1)), .int (lh_xs Γ (i + 2))]) (st := []) rfl rfl v_LH_pass (hO.1.1 0 _ rfl) rfl rfl rfl ⟨rfl, rfl⟩ rfl (t_LH_pass hG hO.1 hO.2.2.1 hO.2.2.2.2.2.2.1 hO.2.2.2.2.1 hO.2.2.2.2.2.2.2.2.1 hf1 ?_)
  refine lh_aload_n (q := 2) rfl rfl rfl ?_
  refine lh_aload_n (q := 0) rfl rfl rfl ?_
  refine lh_iload (q := 4) rfl rfl ?_
  refine lh_iconst rfl lh_k_1 ?_
  refine lh_iadd rfl ?_
  refine lh_scr (q := i) (k := 1) rfl (by decide) (by omega) hL ?_
  refine lh_aload_n (q := 0) rfl rfl rfl ?_
  refine lh_iload (q := 4) rfl rfl ?_
  refine lh_iconst rfl lh_k_2 ?_
  refine lh_iadd rfl ?_
  refine lh_scr (q := i) (k := 2) rfl (by decide) (by omega) hL ?_
  refine lh_cVi (N := m_LM_pass) (d := 3) (o := 65) (As := [.int (lh_xs Γ (i + 1)), .int (lh_xs Γ (i + 2))]) (st := [.int r1]) rfl rfl v_LM_pass (hO.2.1.1 0 _ rfl) rfl rfl rfl ⟨rfl, rfl⟩ rfl (t_LM_pass hG hO.2.1 hf2 ?_)
  refine lh_icmp_eq rfl (fun _ => ?_) (fun c => absurd he c)
  exact lh_sw2 k_LLm rfl rfl rfl rfl rfl rfl kk
theorem lw_c25 {Γ : lh_Cx} {Z : List Frame → Array Value → State → State → Prop} {I : lh_II} {L : lh_LL} {F : lh_FF} {S : lh_SS} {a b a2 b2 bc bs i : Nat} {r1 : Int32 × lh_II} {r2 : Int32 × lh_II} (hG : lh_GX Γ) (hO : lh_ok F S a b a2 b2) (hL : lh_L Γ ≤ 3584) (hi : i + 6 < lh_L Γ) (hf1 : f_LH_best a b I = some r1) (hf2 : f_LM_best r1.2 = some r2) (he : r1.1 = r2.1) (kk : lh_G Γ m_LLm room_1 Z bc bs 13 [(0, .ref 0), (1, .ref (0 + 4)), (2, .ref (65 + 4)), (3, .ref (81 + 4)), (4, .int (nI i))] [] (r2.2, L, F, S)) : lh_G Γ m_LL25 room_1 Z bc bs 0 [(0, .ref 0), (1, .ref (0 + 4)), (2, .ref (65 + 4)), (3, .ref (81 + 4)), (4, .int (nI i))] [] (I, L, F, S) := by
  refine lh_aload_n (q := 1) rfl rfl rfl ?_
  refine lh_cVi (N := m_LH_best) (d := 5) (o := 0) (As := []) (st := []) rfl rfl v_LH_best (hO.1.1 0 _ rfl) rfl rfl rfl ⟨rfl, rfl⟩ rfl (t_LH_best hG hO.1 hO.2.2.1 hO.2.2.2.2.2.2.1 hO.2.2.2.2.1 hO.2.2.2.2.2.2.2.2.1 hf1 ?_)
  refine lh_aload_n (q := 2) rfl rfl rfl ?_
  refine lh_cVi (N := m_LM_best) (d := 4) (o := 65) (As := []) (st := [.int r1.1]) rfl rfl v_LM_best (hO.2.1.1 0 _ rfl) rfl rfl rfl ⟨rfl, rfl⟩ rfl (t_LM_best hG hO.2.1 hf2 ?_)
  refine lh_icmp_eq rfl (fun _ => ?_) (fun c => absurd he c)
  exact lh_sw2 k_LLm rfl rfl rfl rfl rfl rfl kk
theorem lw_c26 {Γ : lh_Cx} {Z : List Frame → Array Value → State → State → Prop} {I : lh_II} {L : lh_LL} {F : lh_FF} {S : lh_SS} {a b a2 b2 bc bs i : Nat} {r1 : Int32} {r2 : Int32 × lh_II} (hG : lh_GX Γ) (hO : lh_ok F S a b a2 b2) (hL : lh_L Γ ≤ 3584) (hi : i + 6 < lh_L Γ) (hf1 : f_LH_lonely a b (lh_xs Γ (i + 1)) I = some r1) (hf2 : f_LM_lonely (lh_xs Γ (i + 1)) I = some r2) (he : r1 = r2.1) (kk : lh_G Γ m_LLm room_1 Z bc bs 13 [(0, .ref 0), (1, .ref (0 + 4)), (2, .ref (65 + 4)), (3, .ref (81 + 4)), (4, .int (nI i))] [] (r2.2, L, F, S)) : lh_G Γ m_LL26 room_1 Z bc bs 0 [(0, .ref 0), (1, .ref (0 + 4)), (2, .ref (65 + 4)), (3, .ref (81 + 4)), (4, .int (nI i))] [] (I, L, F, S) := by
  refine lh_aload_n (q := 1) rfl rfl rfl ?_
  refine lh_aload_n (q := 0) rfl rfl rfl ?_
  refine lh_iload (q := 4) rfl rfl ?_
  refine lh_iconst rfl lh_k_1 ?_
  refine lh_iadd rfl ?_
  refine lh_scr (q := i) (k := 1) rfl (by decide) (by omega) hL ?_
  refine lh_cVi (N := m_LH_lonely) (d := 3) (o := 0) (As := [.int (lh_xs Γ (i + 1))]) (st := []) rfl rfl v_LH_lonely (hO.1.1 0 _ rfl) rfl rfl rfl ⟨rfl, rfl⟩ rfl (t_LH_lonely hG hO.1 hO.2.2.1 hO.2.2.2.2.2.2.1 hO.2.2.2.2.1 hO.2.2.2.2.2.2.2.2.1 hf1 ?_)
  refine lh_aload_n (q := 2) rfl rfl rfl ?_
  refine lh_aload_n (q := 0) rfl rfl rfl ?_
  refine lh_iload (q := 4) rfl rfl ?_
  refine lh_iconst rfl lh_k_1 ?_
  refine lh_iadd rfl ?_
  refine lh_scr (q := i) (k := 1) rfl (by decide) (by omega) hL ?_
  refine lh_cVi (N := m_LM_lonely) (d := 2) (o := 65) (As := [.int (lh_xs Γ (i + 1))]) (st := [.int r1]) rfl rfl v_LM_lonely (hO.2.1.1 0 _ rfl) rfl rfl rfl ⟨rfl, rfl⟩ rfl (t_LM_lonely hG hO.2.1 hf2 ?_)
  refine lh_icmp_eq rfl (fun _ => ?_) (fun c => absurd he c)
  exact lh_sw2 k_LLm rfl rfl rfl rfl rfl rfl kk
theorem lw_c27 {Γ : lh_Cx} {Z : List Frame → Array Value → State → State → Prop} {I : lh_II} {L : lh_LL} {F : lh_FF} {S : lh_SS} {a b a2 b2 bc bs i : Nat} {r1 : Int32} {r2 : Int32 × lh_II} (hG : lh_GX Γ) (hO : lh_ok F S a b a2 b2) (hL : lh_L Γ ≤ 3584) (hi : i + 6 < lh_L Γ) (hf1 : f_LH_crowd a b (lh_xs Γ (i + 1)) I = some r1) (hf2 : f_LM_crowd (lh_xs Γ (i + 1)) I = some r2) (he : r1 = r2.1) (kk : lh_G Γ m_LLm room_1 Z bc bs 13 [(0, .ref 0), (1, .ref (0 + 4)), (2, .ref (65 + 4)), (3, .ref (81 + 4)), (4, .int (nI i))] [] (r2.2, L, F, S)) : lh_G Γ m_LL27 room_1 Z bc bs 0 [(0, .ref 0), (1, .ref (0 + 4)), (2, .ref (65 + 4)), (3, .ref (81 + 4)), (4, .int (nI i))] [] (I, L, F, S) := by
  refine lh_aload_n (q := 1) rfl rfl rfl ?_
  refine lh_aload_n (q := 0) rfl rfl rfl ?_
  refine lh_iload (q := 4) rfl rfl ?_
  refine lh_iconst rfl lh_k_1 ?_
  refine lh_iadd rfl ?_
  refine lh_scr (q := i) (k := 1) rfl (by decide) (by omega) hL ?_
  refine lh_cVi (N := m_LH_crowd) (d := 3) (o := 0) (As := [.int (lh_xs Γ (i + 1))]) (st := []) rfl rfl v_LH_crowd (hO.1.1 0 _ rfl) rfl rfl rfl ⟨rfl, rfl⟩ rfl (t_LH_crowd hG hO.1 hO.2.2.1 hO.2.2.2.2.2.2.1 hO.2.2.2.2.1 hO.2.2.2.2.2.2.2.2.1 hf1 ?_)
  refine lh_aload_n (q := 2) rfl rfl rfl ?_
  refine lh_aload_n (q := 0) rfl rfl rfl ?_
  refine lh_iload (q := 4) rfl rfl ?_
  refine lh_iconst rfl lh_k_1 ?_
  refine lh_iadd rfl ?_
  refine lh_scr (q := i) (k := 1) rfl (by decide) (by omega) hL ?_
  refine lh_cVi (N := m_LM_crowd) (d := 2) (o := 65) (As := [.int (lh_xs Γ (i + 1))]) (st := [.int r1]) rfl rfl v_LM_crowd (hO.2.1.1 0 _ rfl) rfl rfl rfl ⟨rfl, rfl⟩ rfl (t_LM_crowd hG hO.2.1 hf2 ?_)
  refine lh_icmp_eq rfl (fun _ => ?_) (fun c => absurd he c)
  exact lh_sw2 k_LLm rfl rfl rfl rfl rfl rfl kk
theorem lw_c28 {Γ : lh_Cx} {Z : List Frame → Array Value → State → State → Prop} {I : lh_II} {L : lh_LL} {F : lh_FF} {S : lh_SS} {a b a2 b2 bc bs i : Nat} {r1 : Int32} {r2 : Int32 × lh_II} (hG : lh_GX Γ) (hO : lh_ok F S a b a2 b2) (hL : lh_L Γ ≤ 3584) (hi : i + 6 < lh_L Γ) (hf1 : f_LH_alibi a b (lh_xs Γ (i + 1)) (lh_xs Γ (i + 2)) I = some r1) (hf2 : f_LM_alibi (lh_xs Γ (i + 1)) (lh_xs Γ (i + 2)) I = some r2) (he : r1 = r2.1) (kk : lh_G Γ m_LLm room_1 Z bc bs 13 [(0, .ref 0), (1, .ref (0 + 4)), (2, .ref (65 + 4)), (3, .ref (81 + 4)), (4, .int (nI i))] [] (r2.2, L, F, S)) : lh_G Γ m_LL28 room_1 Z bc bs 0 [(0, .ref 0), (1, .ref (0 + 4)), (2, .ref (65 + 4)), (3, .ref (81 + 4)), (4, .int (nI i))] [] (I, L, F, S) := by
  refine lh_aload_n (q := 1) rfl rfl rfl ?_
  refine lh_aload_n (q := 0) rfl rfl rfl ?_
  refine lh_iload (q := 4) rfl rfl ?_
  refine lh_iconst rfl lh_k_1 ?_
  refine lh_iadd rfl ?_
  refine lh_scr (q := i) (k := 1) rfl (by decide) (by omega) hL ?_
  refine lh_aload_n (q := 0) rfl rfl rfl ?_
  refine lh_iload (q := 4) rfl rfl ?_
  refine lh_iconst rfl lh_k_2 ?_
  refine lh_iadd rfl ?_
  refine lh_scr (q := i) (k := 2) rfl (by decide) (by omega) hL ?_
  refine lh_cVi (N := m_LH_alibi) (d := 2) (o := 0) (As := [.int (lh_xs Γ (i + 1)), .int (lh_xs Γ (i + 2))]) (st := []) rfl rfl v_LH_alibi (hO.1.1 0 _ rfl) rfl rfl rfl ⟨rfl, rfl⟩ rfl (t_LH_alibi hG hO.1 hO.2.2.1 hO.2.2.2.2.2.2.1 hO.2.2.2.2.1 hO.2.2.2.2.2.2.2.2.1 hf1 ?_)
  refine lh_aload_n (q := 2) rfl rfl rfl ?_
  refine lh_aload_n (q := 0) rfl rfl rfl ?_
  refine lh_iload (q := 4) rfl rfl ?_
  refine lh_iconst rfl lh_k_1 ?_
  refine lh_iadd rfl ?_
  refine lh_scr (q := i) (k := 1) rfl (by decide) (by omega) hL ?_
  refine lh_aload_n (q := 0) rfl rfl rfl ?_
  refine lh_iload (q := 4) rfl rfl ?_
  refine lh_iconst rfl lh_k_2 ?_
  refine lh_iadd rfl ?_
  refine lh_scr (q := i) (k := 2) rfl (by decide) (by omega) hL ?_
  refine lh_cVi (N := m_LM_alibi) (d := 2) (o := 65) (As := [.int (lh_xs Γ (i + 1)), .int (lh_xs Γ (i + 2))]) (st := [.int r1]) rfl rfl v_LM_alibi (hO.2.1.1 0 _ rfl) rfl rfl rfl ⟨rfl, rfl⟩ rfl (t_LM_alibi hG hO.2.1 hf2 ?_)
  refine lh_icmp_eq rfl (fun _ => ?_) (fun c => absurd he c)
  exact lh_sw2 k_LLm rfl rfl rfl rfl rfl rfl kk
theorem lw_c29 {Γ : lh_Cx} {Z : List Frame → Array Value → State → State → Prop} {I : lh_II} {L : lh_LL} {F : lh_FF} {S : lh_SS} {a b a2 b2 bc bs i : Nat} {r1 : Int32} {r2 : Int32 × lh_II} (hG : lh_GX Γ) (hO : lh_ok F S a b a2 b2) (hL : lh_L Γ ≤ 3584) (hi : i + 6 < lh_L Γ) (hf1 : f_LH_follows a b (lh_xs Γ (i + 1)) (lh_xs Γ (i + 2)) I = some r1) (hf2 : f_LM_follows (lh_xs Γ (i + 1)) (lh_xs Γ (i + 2)) I = some r2) (he : r1 = r2.1) (kk : lh_G Γ m_LLm room_1 Z bc bs 13 [(0, .ref 0), (1, .ref (0 + 4)), (2, .ref (65 + 4)), (3, .ref (81 + 4)), (4, .int (nI i))] [] (r2.2, L, F, S)) : lh_G Γ m_LL29 room_1 Z bc bs 0 [(0, .ref 0), (1, .ref (0 + 4)), (2, .ref (65 + 4)), (3, .ref (81 + 4)), (4, .int (nI i))] [] (I, L, F, S) := by
  refine lh_aload_n (q := 1) rfl rfl rfl ?_
  refine lh_aload_n (q := 0) rfl rfl rfl ?_
  refine lh_iload (q := 4) rfl rfl ?_
  refine lh_iconst rfl lh_k_1 ?_
  refine lh_iadd rfl ?_
  refine lh_scr (q := i) (k := 1) rfl (by decide) (by omega) hL ?_
  refine lh_aload_n (q := 0) rfl rfl rfl ?_
  refine lh_iload (q := 4) rfl rfl ?_
  refine lh_iconst rfl lh_k_2 ?_
  refine lh_iadd rfl ?_
  refine lh_scr (q := i) (k := 2) rfl (by decide) (by omega) hL ?_
  refine lh_cVi (N := m_LH_follows) (d := 2) (o := 0) (As := [.int (lh_xs Γ (i + 1)), .int (lh_xs Γ (i + 2))]) (st := []) rfl rfl v_LH_follows (hO.1.1 0 _ rfl) rfl rfl rfl ⟨rfl, rfl⟩ rfl (t_LH_follows hG hO.1 hO.2.2.1 hO.2.2.2.2.2.2.1 hO.2.2.2.2.1 hO.2.2.2.2.2.2.2.2.1 hf1 ?_)
  refine lh_aload_n (q := 2) rfl rfl rfl ?_
  refine lh_aload_n (q := 0) rfl rfl rfl ?_
  refine lh_iload (q := 4) rfl rfl ?_
  refine lh_iconst rfl lh_k_1 ?_
  refine lh_iadd rfl ?_
  refine lh_scr (q := i) (k := 1) rfl (by decide) (by omega) hL ?_
  refine lh_aload_n (q := 0) rfl rfl rfl ?_
  refine lh_iload (q := 4) rfl rfl ?_
  refine lh_iconst rfl lh_k_2 ?_
  refine lh_iadd rfl ?_
  refine lh_scr (q := i) (k := 2) rfl (by decide) (by omega) hL ?_
  refine lh_cVi (N := m_LM_follows) (d := 3) (o := 65) (As := [.int (lh_xs Γ (i + 1)), .int (lh_xs Γ (i + 2))]) (st := [.int r1]) rfl rfl v_LM_follows (hO.2.1.1 0 _ rfl) rfl rfl rfl ⟨rfl, rfl⟩ rfl (t_LM_follows hG hO.2.1 hf2 ?_)
  refine lh_icmp_eq rfl (fun _ => ?_) (fun c => absurd he c)
  exact lh_sw2 k_LLm rfl rfl rfl rfl rfl rfl kk
theorem lw_c30 {Γ : lh_Cx} {Z : List Frame → Array Value → State → State → Prop} {I : lh_II} {L : lh_LL} {F : lh_FF} {S : lh_SS} {a b a2 b2 bc bs i : Nat} {r1 : Int32 × lh_II} {r2 : Int32 × lh_II} (hG : lh_GX Γ) (hO : lh_ok F S a b a2 b2) (hL : lh_L Γ ≤ 3584) (hi : i + 6 < lh_L Γ) (hf1 : f_LH_blot a b I = some r1) (hf2 : f_LM_blot r1.2 = some r2) (he : r1.1 = r2.1) (kk : lh_G Γ m_LLm room_1 Z bc bs 13 [(0, .ref 0), (1, .ref (0 + 4)), (2, .ref (65 + 4)), (3, .ref (81 + 4)), (4, .int (nI i))] [] (r2.2, L, F, S)) : lh_G Γ m_LL30 room_1 Z bc bs 0 [(0, .ref 0), (1, .ref (0 + 4)), (2, .ref (65 + 4)), (3, .ref (81 + 4)), (4, .int (nI i))] [] (I, L, F, S) := by
  refine lh_aload_n (q := 1) rfl rfl rfl ?_
  refine lh_cVi (N := m_LH_blot) (d := 4) (o := 0) (As := []) (st := []) rfl rfl v_LH_blot (hO.1.1 0 _ rfl) rfl rfl rfl ⟨rfl, rfl⟩ rfl (t_LH_blot hG hO.1 hO.2.2.1 hO.2.2.2.2.2.2.1 hO.2.2.2.2.1 hO.2.2.2.2.2.2.2.2.1 hf1 ?_)
  refine lh_aload_n (q := 2) rfl rfl rfl ?_
  refine lh_cVi (N := m_LM_blot) (d := 5) (o := 65) (As := []) (st := [.int r1.1]) rfl rfl v_LM_blot (hO.2.1.1 0 _ rfl) rfl rfl rfl ⟨rfl, rfl⟩ rfl (t_LM_blot hG hO.2.1 hf2 ?_)
  refine lh_icmp_eq rfl (fun _ => ?_) (fun c => absurd he c)
  exact lh_sw2 k_LLm rfl rfl rfl rfl rfl rfl kk
theorem lw_c31 {Γ : lh_Cx} {Z : List Frame → Array Value → State → State → Prop} {I : lh_II} {L : lh_LL} {F : lh_FF} {S : lh_SS} {a b a2 b2 bc bs i : Nat} {r1 : Int32} {r2 : Int32 × lh_II} (hG : lh_GX Γ) (hO : lh_ok F S a b a2 b2) (hL : lh_L Γ ≤ 3584) (hi : i + 6 < lh_L Γ) (hf1 : f_LH_gap a b (lh_xs Γ (i + 1)) I = some r1) (hf2 : f_LM_gap (lh_xs Γ (i + 1)) I = some r2) (he : r1 = r2.1) (kk : lh_G Γ m_LLm room_1 Z bc bs 13 [(0, .ref 0), (1, .ref (0 + 4)), (2, .ref (65 + 4)), (3, .ref (81 + 4)), (4, .int (nI i))] [] (r2.2, L, F, S)) : lh_G Γ m_LL31 room_1 Z bc bs 0 [(0, .ref 0), (1, .ref (0 + 4)), (2, .ref (65 + 4)), (3, .ref (81 + 4)), (4, .int (nI i))] [] (I, L, F, S) := by
  refine lh_aload_n (q := 1) rfl rfl rfl ?_
  refine lh_aload_n (q := 0) rfl rfl rfl ?_
  refine lh_iload (q := 4) rfl rfl ?_
  refine lh_iconst rfl lh_k_1 ?_
  refine lh_iadd rfl ?_
  refine lh_scr (q := i) (k := 1) rfl (by decide) (by omega) hL ?_
  refine lh_cVi (N := m_LH_gap) (d := 3) (o := 0) (As := [.int (lh_xs Γ (i + 1))]) (st := []) rfl rfl v_LH_gap (hO.1.1 0 _ rfl) rfl rfl rfl ⟨rfl, rfl⟩ rfl (t_LH_gap hG hO.1 hO.2.2.1 hO.2.2.2.2.2.2.1 hO.2.2.2.2.1 hO.2.2.2.2.2.2.2.2.1 hf1 ?_)
  refine lh_aload_n (q := 2) rfl rfl rfl ?_
  refine lh_aload_n (q := 0) rfl rfl rfl ?_
  refine lh_iload (q := 4) rfl rfl ?_
  refine lh_iconst rfl lh_k_1 ?_
  refine lh_iadd rfl ?_
  refine lh_scr (q := i) (k := 1) rfl (by decide) (by omega) hL ?_
  refine lh_cVi (N := m_LM_gap) (d := 3) (o := 65) (As := [.int (lh_xs Γ (i + 1))]) (st := [.int r1]) rfl rfl v_LM_gap (hO.2.1.1 0 _ rfl) rfl rfl rfl ⟨rfl, rfl⟩ rfl (t_LM_gap hG hO.2.1 hf2 ?_)
  refine lh_icmp_eq rfl (fun _ => ?_) (fun c => absurd he c)
  exact lh_sw2 k_LLm rfl rfl rfl rfl rfl rfl kk
theorem lw_c32 {Γ : lh_Cx} {Z : List Frame → Array Value → State → State → Prop} {I : lh_II} {L : lh_LL} {F : lh_FF} {S : lh_SS} {a b a2 b2 bc bs i : Nat} {r1 : Int32} {r2 : Int32 × lh_II} (hG : lh_GX Γ) (hO : lh_ok F S a b a2 b2) (hL : lh_L Γ ≤ 3584) (hi : i + 6 < lh_L Γ) (hf1 : f_LH_same a b I = some r1) (hf2 : f_LM_same I = some r2) (he : r1 = r2.1) (kk : lh_G Γ m_LLm room_1 Z bc bs 13 [(0, .ref 0), (1, .ref (0 + 4)), (2, .ref (65 + 4)), (3, .ref (81 + 4)), (4, .int (nI i))] [] (r2.2, L, F, S)) : lh_G Γ m_LL32 room_1 Z bc bs 0 [(0, .ref 0), (1, .ref (0 + 4)), (2, .ref (65 + 4)), (3, .ref (81 + 4)), (4, .int (nI i))] [] (I, L, F, S) := by
  refine lh_aload_n (q := 1) rfl rfl rfl ?_
  refine lh_cVi (N := m_LH_same) (d := 4) (o := 0) (As := []) (st := []) rfl rfl v_LH_same (hO.1.1 0 _ rfl) rfl rfl rfl ⟨rfl, rfl⟩ rfl (t_LH_same hG hO.1 hO.2.2.1 hO.2.2.2.2.2.2.1 hO.2.2.2.2.1 hO.2.2.2.2.2.2.2.2.1 hf1 ?_)
  refine lh_aload_n (q := 2) rfl rfl rfl ?_
  refine lh_cVi (N := m_LM_same) (d := 3) (o := 65) (As := []) (st := [.int r1]) rfl rfl v_LM_same (hO.2.1.1 0 _ rfl) rfl rfl rfl ⟨rfl, rfl⟩ rfl (t_LM_same hG hO.2.1 hf2 ?_)
  refine lh_icmp_eq rfl (fun _ => ?_) (fun c => absurd he c)
  exact lh_sw2 k_LLm rfl rfl rfl rfl rfl rfl kk
theorem lw_c33 {Γ : lh_Cx} {Z : List Frame → Array Value → State → State → Prop} {I : lh_II} {L : lh_LL} {F : lh_FF} {S : lh_SS} {a b a2 b2 bc bs i : Nat} {r1 : Int32} {r2 : Int32 × lh_II} (hG : lh_GX Γ) (hO : lh_ok F S a b a2 b2) (hL : lh_L Γ ≤ 3584) (hi : i + 6 < lh_L Γ) (hf1 : f_LH_wavers a b (lh_xs Γ (i + 1)) I = some r1) (hf2 : f_LM_wavers (lh_xs Γ (i + 1)) I = some r2) (he : r1 = r2.1) (kk : lh_G Γ m_LLm room_1 Z bc bs 13 [(0, .ref 0), (1, .ref (0 + 4)), (2, .ref (65 + 4)), (3, .ref (81 + 4)), (4, .int (nI i))] [] (r2.2, L, F, S)) : lh_G Γ m_LL33 room_1 Z bc bs 0 [(0, .ref 0), (1, .ref (0 + 4)), (2, .ref (65 + 4)), (3, .ref (81 + 4)), (4, .int (nI i))] [] (I, L, F, S) := by
  refine lh_aload_n (q := 1) rfl rfl rfl ?_
  refine lh_aload_n (q := 0) rfl rfl rfl ?_
  refine lh_iload (q := 4) rfl rfl ?_
  refine lh_iconst rfl lh_k_1 ?_
  refine lh_iadd rfl ?_
  refine lh_scr (q := i) (k := 1) rfl (by decide) (by omega) hL ?_
  refine lh_cVi (N := m_LH_wavers) (d := 2) (o := 0) (As := [.int (lh_xs Γ (i + 1))]) (st := []) rfl rfl v_LH_wavers (hO.1.1 0 _ rfl) rfl rfl rfl ⟨rfl, rfl⟩ rfl (t_LH_wavers hG hO.1 hO.2.2.1 hO.2.2.2.2.2.2.1 hO.2.2.2.2.1 hO.2.2.2.2.2.2.2.2.1 hf1 ?_)
  refine lh_aload_n (q := 2) rfl rfl rfl ?_
  refine lh_aload_n (q := 0) rfl rfl rfl ?_
  refine lh_iload (q := 4) rfl rfl ?_
  refine lh_iconst rfl lh_k_1 ?_
  refine lh_iadd rfl ?_
  refine lh_scr (q := i) (k := 1) rfl (by decide) (by omega) hL ?_
  refine lh_cVi (N := m_LM_wavers) (d := 2) (o := 65) (As := [.int (lh_xs Γ (i + 1))]) (st := [.int r1]) rfl rfl v_LM_wavers (hO.2.1.1 0 _ rfl) rfl rfl rfl ⟨rfl, rfl⟩ rfl (t_LM_wavers hG hO.2.1 hf2 ?_)
  refine lh_icmp_eq rfl (fun _ => ?_) (fun c => absurd he c)
  exact lh_sw2 k_LLm rfl rfl rfl rfl rfl rfl kk
theorem lw_c34 {Γ : lh_Cx} {Z : List Frame → Array Value → State → State → Prop} {I : lh_II} {L : lh_LL} {F : lh_FF} {S : lh_SS} {a b a2 b2 bc bs i : Nat} {r1 : Int32 × lh_II} {r2 : Int32 × lh_II × lh_LL} (hG : lh_GX Γ) (hO : lh_ok F S a b a2 b2) (hL : lh_L Γ ≤ 3584) (hi : i + 6 < lh_L Γ) (hf1 : f_LH_reach a b (lh_xs Γ (i + 1)) I = some r1) (hf2 : f_LM_reach (lh_xs Γ (i + 1)) r1.2 L = some r2) (he : r1.1 = r2.1) (kk : lh_G Γ m_LLm room_1 Z bc bs 13 [(0, .ref 0), (1, .ref (0 + 4)), (2, .ref (65 + 4)), (3, .ref (81 + 4)), (4, .int (nI i))] [] (r2.2.1, r2.2.2, F, S)) : lh_G Γ m_LL34 room_1 Z bc bs 0 [(0, .ref 0), (1, .ref (0 + 4)), (2, .ref (65 + 4)), (3, .ref (81 + 4)), (4, .int (nI i))] [] (I, L, F, S) := by
  refine lh_aload_n (q := 1) rfl rfl rfl ?_
  refine lh_aload_n (q := 0) rfl rfl rfl ?_
  refine lh_iload (q := 4) rfl rfl ?_
  refine lh_iconst rfl lh_k_1 ?_
  refine lh_iadd rfl ?_
  refine lh_scr (q := i) (k := 1) rfl (by decide) (by omega) hL ?_
  refine lh_cVi (N := m_LH_reach) (d := 5) (o := 0) (As := [.int (lh_xs Γ (i + 1))]) (st := []) rfl rfl v_LH_reach (hO.1.1 0 _ rfl) rfl rfl rfl ⟨rfl, rfl⟩ rfl (t_LH_reach hG hO.1 hO.2.2.1 hO.2.2.2.2.2.2.1 hO.2.2.2.2.1 hO.2.2.2.2.2.2.2.2.1 hf1 ?_)
  refine lh_aload_n (q := 2) rfl rfl rfl ?_
  refine lh_aload_n (q := 0) rfl rfl rfl ?_
  refine lh_iload (q := 4) rfl rfl ?_
  refine lh_iconst rfl lh_k_1 ?_
  refine lh_iadd rfl ?_
  refine lh_scr (q := i) (k := 1) rfl (by decide) (by omega) hL ?_
  refine lh_cVi (N := m_LM_reach) (d := 8) (o := 65) (As := [.int (lh_xs Γ (i + 1))]) (st := [.int r1.1]) rfl rfl v_LM_reach (hO.2.1.1 0 _ rfl) rfl rfl rfl ⟨rfl, rfl⟩ rfl (t_LM_reach hG hO.2.1 hf2 ?_)
  refine lh_icmp_eq rfl (fun _ => ?_) (fun c => absurd he c)
  exact lh_sw2 k_LLm rfl rfl rfl rfl rfl rfl kk
theorem lw_c35 {Γ : lh_Cx} {Z : List Frame → Array Value → State → State → Prop} {I : lh_II} {L : lh_LL} {F : lh_FF} {S : lh_SS} {a b a2 b2 bc bs i : Nat} {r1 : Int32} {r2 : Int32 × lh_II} (hG : lh_GX Γ) (hO : lh_ok F S a b a2 b2) (hL : lh_L Γ ≤ 3584) (hi : i + 6 < lh_L Γ) (hf1 : f_LH_census a b (lh_xs Γ (i + 1)) (lh_xs Γ (i + 2)) I = some r1) (hf2 : f_LM_census (lh_xs Γ (i + 1)) (lh_xs Γ (i + 2)) I = some r2) (he : r1 = r2.1) (kk : lh_G Γ m_LLm room_1 Z bc bs 13 [(0, .ref 0), (1, .ref (0 + 4)), (2, .ref (65 + 4)), (3, .ref (81 + 4)), (4, .int (nI i))] [] (r2.2, L, F, S)) : lh_G Γ m_LL35 room_1 Z bc bs 0 [(0, .ref 0), (1, .ref (0 + 4)), (2, .ref (65 + 4)), (3, .ref (81 + 4)), (4, .int (nI i))] [] (I, L, F, S) := by
  refine lh_aload_n (q := 1) rfl rfl rfl ?_
  refine lh_aload_n (q := 0) rfl rfl rfl ?_
  refine lh_iload (q := 4) rfl rfl ?_
  refine lh_iconst rfl lh_k_1 ?_
  refine lh_iadd rfl ?_
  refine lh_scr (q := i) (k := 1) rfl (by decide) (by omega) hL ?_
  refine lh_aload_n (q := 0) rfl rfl rfl ?_
  refine lh_iload (q := 4) rfl rfl ?_
  refine lh_iconst rfl lh_k_2 ?_
  refine lh_iadd rfl ?_
  refine lh_scr (q := i) (k := 2) rfl (by decide) (by omega) hL ?_
  refine lh_cVi (N := m_LH_census) (d := 3) (o := 0) (As := [.int (lh_xs Γ (i + 1)), .int (lh_xs Γ (i + 2))]) (st := []) rfl rfl v_LH_census (hO.1.1 0 _ rfl) rfl rfl rfl ⟨rfl, rfl⟩ rfl (t_LH_census hG hO.1 hO.2.2.1 hO.2.2.2.2.2.2.1 hO.2.2.2.2.1 hO.2.2.2.2.2.2.2.2.1 hf1 ?_)
  refine lh_aload_n (q := 2) rfl rfl rfl ?_
  refine lh_aload_n (q := 0) rfl rfl rfl ?_
  refine lh_iload (q := 4) rfl rfl ?_
  refine lh_iconst rfl lh_k_1 ?_
  refine lh_iadd rfl ?_
  refine lh_scr (q := i) (k := 1) rfl (by decide) (by omega) hL ?_
  refine lh_aload_n (q := 0) rfl rfl rfl ?_
  refine lh_iload (q := 4) rfl rfl ?_
  refine lh_iconst rfl lh_k_2 ?_
  refine lh_iadd rfl ?_
  refine lh_scr (q := i) (k := 2) rfl (by decide) (by omega) hL ?_
  refine lh_cVi (N := m_LM_census) (d := 2) (o := 65) (As := [.int (lh_xs Γ (i + 1)), .int (lh_xs Γ (i + 2))]) (st := [.int r1]) rfl rfl v_LM_census (hO.2.1.1 0 _ rfl) rfl rfl rfl ⟨rfl, rfl⟩ rfl (t_LM_census hG hO.2.1 hf2 ?_)
  refine lh_icmp_eq rfl (fun _ => ?_) (fun c => absurd he c)
  exact lh_sw2 k_LLm rfl rfl rfl rfl rfl rfl kk
theorem lw_c36 {Γ : lh_Cx} {Z : List Frame → Array Value → State → State → Prop} {I : lh_II} {L : lh_LL} {F : lh_FF} {S : lh_SS} {a b a2 b2 bc bs i : Nat} {r1 : Int32 × lh_II} {r2 : Int32 × lh_II} (hG : lh_GX Γ) (hO : lh_ok F S a b a2 b2) (hL : lh_L Γ ≤ 3584) (hi : i + 6 < lh_L Γ) (hf1 : f_LH_choose a b I = some r1) (hf2 : f_LM_choose r1.2 = some r2) (he : r1.1 = r2.1) (kk : lh_G Γ m_LLm room_1 Z bc bs 13 [(0, .ref 0), (1, .ref (0 + 4)), (2, .ref (65 + 4)), (3, .ref (81 + 4)), (4, .int (nI i))] [] (r2.2, L, F, S)) : lh_G Γ m_LL36 room_1 Z bc bs 0 [(0, .ref 0), (1, .ref (0 + 4)), (2, .ref (65 + 4)), (3, .ref (81 + 4)), (4, .int (nI i))] [] (I, L, F, S) := by
  refine lh_aload_n (q := 1) rfl rfl rfl ?_
  refine lh_cVi (N := m_LH_choose) (d := 5) (o := 0) (As := []) (st := []) rfl rfl v_LH_choose (hO.1.1 0 _ rfl) rfl rfl rfl ⟨rfl, rfl⟩ rfl (t_LH_choose hG hO.1 hO.2.2.1 hO.2.2.2.2.2.2.1 hO.2.2.2.2.1 hO.2.2.2.2.2.2.2.2.1 hf1 ?_)
  refine lh_aload_n (q := 2) rfl rfl rfl ?_
  refine lh_cVi (N := m_LM_choose) (d := 5) (o := 65) (As := []) (st := [.int r1.1]) rfl rfl v_LM_choose (hO.2.1.1 0 _ rfl) rfl rfl rfl ⟨rfl, rfl⟩ rfl (t_LM_choose hG hO.2.1 hf2 ?_)
  refine lh_icmp_eq rfl (fun _ => ?_) (fun c => absurd he c)
  exact lh_sw2 k_LLm rfl rfl rfl rfl rfl rfl kk
theorem lw_c37 {Γ : lh_Cx} {Z : List Frame → Array Value → State → State → Prop} {I : lh_II} {L : lh_LL} {F : lh_FF} {S : lh_SS} {a b a2 b2 bc bs i : Nat} {r1 : Int32} {r2 : Int32 × lh_II} (hG : lh_GX Γ) (hO : lh_ok F S a b a2 b2) (hL : lh_L Γ ≤ 3584) (hi : i + 6 < lh_L Γ) (hf1 : f_LH_fellow a b (lh_xs Γ (i + 1)) I = some r1) (hf2 : f_LM_fellow (lh_xs Γ (i + 1)) I = some r2) (he : r1 = r2.1) (kk : lh_G Γ m_LLm room_1 Z bc bs 13 [(0, .ref 0), (1, .ref (0 + 4)), (2, .ref (65 + 4)), (3, .ref (81 + 4)), (4, .int (nI i))] [] (r2.2, L, F, S)) : lh_G Γ m_LL37 room_1 Z bc bs 0 [(0, .ref 0), (1, .ref (0 + 4)), (2, .ref (65 + 4)), (3, .ref (81 + 4)), (4, .int (nI i))] [] (I, L, F, S) := by
  refine lh_aload_n (q := 1) rfl rfl rfl ?_
  refine lh_aload_n (q := 0) rfl rfl rfl ?_
  refine lh_iload (q := 4) rfl rfl ?_
  refine lh_iconst rfl lh_k_1 ?_
  refine lh_iadd rfl ?_
  refine lh_scr (q := i) (k := 1) rfl (by decide) (by omega) hL ?_
  refine lh_cVi (N := m_LH_fellow) (d := 1) (o := 0) (As := [.int (lh_xs Γ (i + 1))]) (st := []) rfl rfl v_LH_fellow (hO.1.1 0 _ rfl) rfl rfl rfl ⟨rfl, rfl⟩ rfl (t_LH_fellow hG hO.1 hO.2.2.1 hO.2.2.2.2.2.2.1 hO.2.2.2.2.1 hO.2.2.2.2.2.2.2.2.1 hf1 ?_)
  refine lh_aload_n (q := 2) rfl rfl rfl ?_
  refine lh_aload_n (q := 0) rfl rfl rfl ?_
  refine lh_iload (q := 4) rfl rfl ?_
  refine lh_iconst rfl lh_k_1 ?_
  refine lh_iadd rfl ?_
  refine lh_scr (q := i) (k := 1) rfl (by decide) (by omega) hL ?_
  refine lh_cVi (N := m_LM_fellow) (d := 1) (o := 65) (As := [.int (lh_xs Γ (i + 1))]) (st := [.int r1]) rfl rfl v_LM_fellow (hO.2.1.1 0 _ rfl) rfl rfl rfl ⟨rfl, rfl⟩ rfl (t_LM_fellow hG hO.2.1 hf2 ?_)
  refine lh_icmp_eq rfl (fun _ => ?_) (fun c => absurd he c)
  exact lh_sw2 k_LLm rfl rfl rfl rfl rfl rfl kk
theorem lw_c38 {Γ : lh_Cx} {Z : List Frame → Array Value → State → State → Prop} {I : lh_II} {L : lh_LL} {F : lh_FF} {S : lh_SS} {a b a2 b2 bc bs i : Nat} {r1 : Int32} {r2 : Int32 × lh_II} (hG : lh_GX Γ) (hO : lh_ok F S a b a2 b2) (hL : lh_L Γ ≤ 3584) (hi : i + 6 < lh_L Γ) (hf1 : f_LH_exposed a b (lh_xs Γ (i + 1)) I = some r1) (hf2 : f_LM_exposed (lh_xs Γ (i + 1)) I = some r2) (he : r1 = r2.1) (kk : lh_G Γ m_LLm room_1 Z bc bs 13 [(0, .ref 0), (1, .ref (0 + 4)), (2, .ref (65 + 4)), (3, .ref (81 + 4)), (4, .int (nI i))] [] (r2.2, L, F, S)) : lh_G Γ m_LL38 room_1 Z bc bs 0 [(0, .ref 0), (1, .ref (0 + 4)), (2, .ref (65 + 4)), (3, .ref (81 + 4)), (4, .int (nI i))] [] (I, L, F, S) := by
  refine lh_aload_n (q := 1) rfl rfl rfl ?_
  refine lh_aload_n (q := 0) rfl rfl rfl ?_
  refine lh_iload (q := 4) rfl rfl ?_
  refine lh_iconst rfl lh_k_1 ?_
  refine lh_iadd rfl ?_
  refine lh_scr (q := i) (k := 1) rfl (by decide) (by omega) hL ?_
  refine lh_cVi (N := m_LH_exposed) (d := 2) (o := 0) (As := [.int (lh_xs Γ (i + 1))]) (st := []) rfl rfl v_LH_exposed (hO.1.1 0 _ rfl) rfl rfl rfl ⟨rfl, rfl⟩ rfl (t_LH_exposed hG hO.1 hO.2.2.1 hO.2.2.2.2.2.2.1 hO.2.2.2.2.1 hO.2.2.2.2.2.2.2.2.1 hf1 ?_)
  refine lh_aload_n (q := 2) rfl rfl rfl ?_
  refine lh_aload_n (q := 0) rfl rfl rfl ?_
  refine lh_iload (q := 4) rfl rfl ?_
  refine lh_iconst rfl lh_k_1 ?_
  refine lh_iadd rfl ?_
  refine lh_scr (q := i) (k := 1) rfl (by decide) (by omega) hL ?_
  refine lh_cVi (N := m_LM_exposed) (d := 3) (o := 65) (As := [.int (lh_xs Γ (i + 1))]) (st := [.int r1]) rfl rfl v_LM_exposed (hO.2.1.1 0 _ rfl) rfl rfl rfl ⟨rfl, rfl⟩ rfl (t_LM_exposed hG hO.2.1 hf2 ?_)
  refine lh_icmp_eq rfl (fun _ => ?_) (fun c => absurd he c)
  exact lh_sw2 k_LLm rfl rfl rfl rfl rfl rfl kk
theorem lw_c39 {Γ : lh_Cx} {Z : List Frame → Array Value → State → State → Prop} {I : lh_II} {L : lh_LL} {F : lh_FF} {S : lh_SS} {a b a2 b2 bc bs i : Nat} {r1 : Int32 × lh_II} {r2 : Int32 × lh_II} (hG : lh_GX Γ) (hO : lh_ok F S a b a2 b2) (hL : lh_L Γ ≤ 3584) (hi : i + 6 < lh_L Γ) (hf1 : f_LH_would a b (lh_xs Γ (i + 1)) I = some r1) (hf2 : f_LM_would (lh_xs Γ (i + 1)) r1.2 = some r2) (he : r1.1 = r2.1) (kk : lh_G Γ m_LLm room_1 Z bc bs 13 [(0, .ref 0), (1, .ref (0 + 4)), (2, .ref (65 + 4)), (3, .ref (81 + 4)), (4, .int (nI i))] [] (r2.2, L, F, S)) : lh_G Γ m_LL39 room_1 Z bc bs 0 [(0, .ref 0), (1, .ref (0 + 4)), (2, .ref (65 + 4)), (3, .ref (81 + 4)), (4, .int (nI i))] [] (I, L, F, S) := by
  refine lh_aload_n (q := 1) rfl rfl rfl ?_
  refine lh_aload_n (q := 0) rfl rfl rfl ?_
  refine lh_iload (q := 4) rfl rfl ?_
  refine lh_iconst rfl lh_k_1 ?_
  refine lh_iadd rfl ?_
  refine lh_scr (q := i) (k := 1) rfl (by decide) (by omega) hL ?_
  refine lh_cVi (N := m_LH_would) (d := 4) (o := 0) (As := [.int (lh_xs Γ (i + 1))]) (st := []) rfl rfl v_LH_would (hO.1.1 0 _ rfl) rfl rfl rfl ⟨rfl, rfl⟩ rfl (t_LH_would hG hO.1 hO.2.2.1 hO.2.2.2.2.2.2.1 hO.2.2.2.2.1 hO.2.2.2.2.2.2.2.2.1 hf1 ?_)
  refine lh_aload_n (q := 2) rfl rfl rfl ?_
  refine lh_aload_n (q := 0) rfl rfl rfl ?_
  refine lh_iload (q := 4) rfl rfl ?_
  refine lh_iconst rfl lh_k_1 ?_
  refine lh_iadd rfl ?_
  refine lh_scr (q := i) (k := 1) rfl (by decide) (by omega) hL ?_
  refine lh_cVi (N := m_LM_would) (d := 6) (o := 65) (As := [.int (lh_xs Γ (i + 1))]) (st := [.int r1.1]) rfl rfl v_LM_would (hO.2.1.1 0 _ rfl) rfl rfl rfl ⟨rfl, rfl⟩ rfl (t_LM_would hG hO.2.1 hf2 ?_)
  refine lh_icmp_eq rfl (fun _ => ?_) (fun c => absurd he c)
  exact lh_sw2 k_LLm rfl rfl rfl rfl rfl rfl kk
theorem lw_c41 {Γ : lh_Cx} {Z : List Frame → Array Value → State → State → Prop} {I : lh_II} {L : lh_LL} {F : lh_FF} {S : lh_SS} {a b a2 b2 bc bs i : Nat} {r1 : Int32 × lh_II} {r2 : Int32 × lh_II × lh_LL} (hG : lh_GX Γ) (hO : lh_ok F S a b a2 b2) (hL : lh_L Γ ≤ 3584) (hi : i + 6 < lh_L Γ) (hf1 : f_LH_nights a b (lh_xs Γ (i + 1)) (lh_xs Γ (i + 2)) (lh_xs Γ (i + 3)) I = some r1) (hf2 : f_LM_nights (lh_xs Γ (i + 1)) (lh_xs Γ (i + 2)) (lh_xs Γ (i + 3)) r1.2 L = some r2) (he : r1.1 = r2.1) (kk : lh_G Γ m_LLm room_1 Z bc bs 13 [(0, .ref 0), (1, .ref (0 + 4)), (2, .ref (65 + 4)), (3, .ref (81 + 4)), (4, .int (nI i))] [] (r2.2.1, r2.2.2, F, S)) : lh_G Γ m_LL41 room_1 Z bc bs 0 [(0, .ref 0), (1, .ref (0 + 4)), (2, .ref (65 + 4)), (3, .ref (81 + 4)), (4, .int (nI i))] [] (I, L, F, S) := by
  refine lh_aload_n (q := 1) rfl rfl rfl ?_
  refine lh_aload_n (q := 0) rfl rfl rfl ?_
  refine lh_iload (q := 4) rfl rfl ?_
  refine lh_iconst rfl lh_k_1 ?_
  refine lh_iadd rfl ?_
  refine lh_scr (q := i) (k := 1) rfl (by decide) (by omega) hL ?_
  refine lh_aload_n (q := 0) rfl rfl rfl ?_
  refine lh_iload (q := 4) rfl rfl ?_
  refine lh_iconst rfl lh_k_2 ?_
  refine lh_iadd rfl ?_
  refine lh_scr (q := i) (k := 2) rfl (by decide) (by omega) hL ?_
  refine lh_aload_n (q := 0) rfl rfl rfl ?_
  refine lh_iload (q := 4) rfl rfl ?_
  refine lh_iconst rfl lh_k_3 ?_
  refine lh_iadd rfl ?_
  refine lh_scr (q := i) (k := 3) rfl (by decide) (by omega) hL ?_
  refine lh_cVi (N := m_LH_nights) (d := 7) (o := 0) (As := [.int (lh_xs Γ (i + 1)), .int (lh_xs Γ (i + 2)), .int (lh_xs Γ (i + 3))]) (st := []) rfl rfl v_LH_nights (hO.1.1 0 _ rfl) rfl rfl rfl ⟨rfl, rfl⟩ rfl (t_LH_nights hG hO.1 hO.2.2.1 hO.2.2.2.2.2.2.1 hO.2.2.2.2.1 hO.2.2.2.2.2.2.2.2.1 hf1 ?_)
  refine lh_aload_n (q := 2) rfl rfl rfl ?_
  refine lh_aload_n (q := 0) rfl rfl rfl ?_
  refine lh_iload (q := 4) rfl rfl ?_
  refine lh_iconst rfl lh_k_1 ?_
  refine lh_iadd rfl ?_
  refine lh_scr (q := i) (k := 1) rfl (by decide) (by omega) hL ?_
  refine lh_aload_n (q := 0) rfl rfl rfl ?_
  refine lh_iload (q := 4) rfl rfl ?_
  refine lh_iconst rfl lh_k_2 ?_
  refine lh_iadd rfl ?_
  refine lh_scr (q := i) (k := 2) rfl (by decide) (by omega) hL ?_
  refine lh_aload_n (q := 0) rfl rfl rfl ?_
  refine lh_iload (q := 4) rfl rfl ?_
  refine lh_iconst rfl lh_k_3 ?_
  refine lh_iadd rfl ?_
  refine lh_scr (q := i) (k := 3) rfl (by decide) (by omega) hL ?_
  refine lh_cVi (N := m_LM_nights) (d := 8) (o := 65) (As := [.int (lh_xs Γ (i + 1)), .int (lh_xs Γ (i + 2)), .int (lh_xs Γ (i + 3))]) (st := [.int r1.1]) rfl rfl v_LM_nights (hO.2.1.1 0 _ rfl) rfl rfl rfl ⟨rfl, rfl⟩ rfl (t_LM_nights hG hO.2.1 hf2 ?_)
  refine lh_icmp_eq rfl (fun _ => ?_) (fun c => absurd he c)
  exact lh_sw2 k_LLm rfl rfl rfl rfl rfl rfl kk
theorem lw_c42 {Γ : lh_Cx} {Z : List Frame → Array Value → State → State → Prop} {I : lh_II} {L : lh_LL} {F : lh_FF} {S : lh_SS} {a b a2 b2 bc bs i : Nat} {r1 : Int32 × lh_II} {r2 : Int32 × lh_II} (hG : lh_GX Γ) (hO : lh_ok F S a b a2 b2) (hL : lh_L Γ ≤ 3584) (hi : i + 6 < lh_L Γ) (hf1 : f_LH_mark a b (lh_xs Γ (i + 1)) ((if lh_xs Γ (i + 2) = 0 then 0 else 1)) I = some r1) (hf2 : f_LM_mark (lh_xs Γ (i + 1)) ((if lh_xs Γ (i + 2) = 0 then 0 else 1)) r1.2 = some r2) (he : r1.1 = r2.1) (kk : lh_G Γ m_LLm room_1 Z bc bs 13 [(0, .ref 0), (1, .ref (0 + 4)), (2, .ref (65 + 4)), (3, .ref (81 + 4)), (4, .int (nI i))] [] (r2.2, L, F, S)) : lh_G Γ m_LL42 room_1 Z bc bs 0 [(0, .ref 0), (1, .ref (0 + 4)), (2, .ref (65 + 4)), (3, .ref (81 + 4)), (4, .int (nI i))] [] (I, L, F, S) := by
  refine lh_aload_n (q := 1) rfl rfl rfl ?_
  refine lh_aload_n (q := 0) rfl rfl rfl ?_
  refine lh_iload (q := 4) rfl rfl ?_
  refine lh_iconst rfl lh_k_1 ?_
  refine lh_iadd rfl ?_
  refine lh_scr (q := i) (k := 1) rfl (by decide) (by omega) hL ?_
  refine lh_aload_n (q := 0) rfl rfl rfl ?_
  refine lh_iload (q := 4) rfl rfl ?_
  refine lh_iconst rfl lh_k_2 ?_
  refine lh_iadd rfl ?_
  refine lh_scr (q := i) (k := 2) rfl (by decide) (by omega) hL ?_
  refine lh_if_eq rfl (fun cz => ?_) (fun cz => ?_)
  · rw [if_pos cz] at hf1 hf2
    refine lh_iconst rfl lh_k_0 ?_
    refine lh_cVi (N := m_LH_mark) (d := 1) (o := 0) (As := [.int (lh_xs Γ (i + 1)), .int 0]) (st := []) rfl rfl v_LH_mark (hO.1.1 0 _ rfl) rfl rfl rfl ⟨rfl, rfl⟩ rfl (t_LH_mark hG hO.1 hO.2.2.1 hO.2.2.2.2.2.2.1 hO.2.2.2.2.1 hO.2.2.2.2.2.2.2.2.1 hf1 ?_)
    refine lh_aload_n (q := 2) rfl rfl rfl ?_
    refine lh_aload_n (q := 0) rfl rfl rfl ?_
    refine lh_iload (q := 4) rfl rfl ?_
    refine lh_iconst rfl lh_k_1 ?_
    refine lh_iadd rfl ?_
    refine lh_scr (q := i) (k := 1) rfl (by decide) (by omega) hL ?_
    refine lh_aload_n (q := 0) rfl rfl rfl ?_
    refine lh_iload (q := 4) rfl rfl ?_
    refine lh_iconst rfl lh_k_2 ?_
    refine lh_iadd rfl ?_
    refine lh_scr (q := i) (k := 2) rfl (by decide) (by omega) hL ?_
    refine lh_if_eq rfl (fun _ => ?_) (fun c => absurd cz c)
    refine lh_iconst rfl lh_k_0 ?_
    refine lh_cVi (N := m_LM_mark) (d := 1) (o := 65) (As := [.int (lh_xs Γ (i + 1)), .int 0]) (st := [.int r1.1]) rfl rfl v_LM_mark (hO.2.1.1 0 _ rfl) rfl rfl rfl ⟨rfl, rfl⟩ rfl (t_LM_mark hG hO.2.1 hf2 ?_)
    refine lh_icmp_eq rfl (fun _ => ?_) (fun c => absurd he c)
    exact lh_sw2 k_LLm rfl rfl rfl rfl rfl rfl kk
  · rw [if_neg cz] at hf1 hf2
    refine lh_iconst rfl lh_k_1 ?_
    refine lh_goto rfl ?_
    refine lh_cVi (N := m_LH_mark) (d := 1) (o := 0) (As := [.int (lh_xs Γ (i + 1)), .int 1]) (st := []) rfl rfl v_LH_mark (hO.1.1 0 _ rfl) rfl rfl rfl ⟨rfl, rfl⟩ rfl (t_LH_mark hG hO.1 hO.2.2.1 hO.2.2.2.2.2.2.1 hO.2.2.2.2.1 hO.2.2.2.2.2.2.2.2.1 hf1 ?_)
    refine lh_aload_n (q := 2) rfl rfl rfl ?_
    refine lh_aload_n (q := 0) rfl rfl rfl ?_
    refine lh_iload (q := 4) rfl rfl ?_
    refine lh_iconst rfl lh_k_1 ?_
    refine lh_iadd rfl ?_
    refine lh_scr (q := i) (k := 1) rfl (by decide) (by omega) hL ?_
    refine lh_aload_n (q := 0) rfl rfl rfl ?_
    refine lh_iload (q := 4) rfl rfl ?_
    refine lh_iconst rfl lh_k_2 ?_
    refine lh_iadd rfl ?_
    refine lh_scr (q := i) (k := 2) rfl (by decide) (by omega) hL ?_
    refine lh_if_eq rfl (fun c => absurd c cz) (fun _ => ?_)
    refine lh_iconst rfl lh_k_1 ?_
    refine lh_goto rfl ?_
    refine lh_cVi (N := m_LM_mark) (d := 1) (o := 65) (As := [.int (lh_xs Γ (i + 1)), .int 1]) (st := [.int r1.1]) rfl rfl v_LM_mark (hO.2.1.1 0 _ rfl) rfl rfl rfl ⟨rfl, rfl⟩ rfl (t_LM_mark hG hO.2.1 hf2 ?_)
    refine lh_icmp_eq rfl (fun _ => ?_) (fun c => absurd he c)
    exact lh_sw2 k_LLm rfl rfl rfl rfl rfl rfl kk
theorem lw_c43 {Γ : lh_Cx} {Z : List Frame → Array Value → State → State → Prop} {I : lh_II} {L : lh_LL} {F : lh_FF} {S : lh_SS} {a b a2 b2 bc bs i : Nat} {r1 : Int32} {r2 : Int32 × lh_II} (hG : lh_GX Γ) (hO : lh_ok F S a b a2 b2) (hL : lh_L Γ ≤ 3584) (hi : i + 6 < lh_L Γ) (hf1 : f_LH_count a b (lh_xs Γ (i + 1)) I = some r1) (hf2 : f_LM_count (lh_xs Γ (i + 1)) I = some r2) (he : r1 = r2.1) (kk : lh_G Γ m_LLm room_1 Z bc bs 13 [(0, .ref 0), (1, .ref (0 + 4)), (2, .ref (65 + 4)), (3, .ref (81 + 4)), (4, .int (nI i))] [] (r2.2, L, F, S)) : lh_G Γ m_LL43 room_1 Z bc bs 0 [(0, .ref 0), (1, .ref (0 + 4)), (2, .ref (65 + 4)), (3, .ref (81 + 4)), (4, .int (nI i))] [] (I, L, F, S) := by
  refine lh_aload_n (q := 1) rfl rfl rfl ?_
  refine lh_aload_n (q := 0) rfl rfl rfl ?_
  refine lh_iload (q := 4) rfl rfl ?_
  refine lh_iconst rfl lh_k_1 ?_
  refine lh_iadd rfl ?_
  refine lh_scr (q := i) (k := 1) rfl (by decide) (by omega) hL ?_
  refine lh_cVi (N := m_LH_count) (d := 0) (o := 0) (As := [.int (lh_xs Γ (i + 1))]) (st := []) rfl rfl v_LH_count (hO.1.1 0 _ rfl) rfl rfl rfl ⟨rfl, rfl⟩ rfl (t_LH_count hG hO.1 hO.2.2.1 hO.2.2.2.2.2.2.1 hO.2.2.2.2.1 hO.2.2.2.2.2.2.2.2.1 hf1 ?_)
  refine lh_aload_n (q := 2) rfl rfl rfl ?_
  refine lh_aload_n (q := 0) rfl rfl rfl ?_
  refine lh_iload (q := 4) rfl rfl ?_
  refine lh_iconst rfl lh_k_1 ?_
  refine lh_iadd rfl ?_
  refine lh_scr (q := i) (k := 1) rfl (by decide) (by omega) hL ?_
  refine lh_cVi (N := m_LM_count) (d := 1) (o := 65) (As := [.int (lh_xs Γ (i + 1))]) (st := [.int r1]) rfl rfl v_LM_count (hO.2.1.1 0 _ rfl) rfl rfl rfl ⟨rfl, rfl⟩ rfl (t_LM_count hG hO.2.1 hf2 ?_)
  refine lh_icmp_eq rfl (fun _ => ?_) (fun c => absurd he c)
  exact lh_sw2 k_LLm rfl rfl rfl rfl rfl rfl kk
theorem lw_c40 {Γ : lh_Cx} {Z : List Frame → Array Value → State → State → Prop} {I : lh_II} {L : lh_LL} {F : lh_FF} {S : lh_SS} {a b a2 b2 bc bs i : Nat} {r1 : Option Int32} {r2 : Int32 × lh_II} {r3 : Int32} (hG : lh_GX Γ) (hY : lh_GY Γ) (hl : (lh_l Γ).stackTraces = false) (hO : lh_ok F S a b a2 b2) (h82 : 82 ≤ S.length) (hL : lh_L Γ ≤ 3584) (hi : i + 6 < lh_L Γ)
    (hf1 : f_LH_rests a b (lh_xs Γ (i + 1)) (lh_xs Γ (i + 2)) (lh_xs Γ (i + 3)) (lh_xs Γ (i + 4)) = some r1) (hf2 : f_LM_rests (lh_xs Γ (i + 1)) (lh_xs Γ (i + 2)) (lh_xs Γ (i + 3)) (lh_xs Γ (i + 4)) I = some r2) (hf3 : f_LM_thrown r2.2 = some r3)
    (hen : r1 = none → r3 = 1) (hes : ∀ x, r1 = some x → r3 = 0 ∧ x = r2.1)
    (kn : r1 = none → ∀ k, lh_G Γ m_LLm room_1 Z bc bs 13 [(0, .ref 0), (1, .ref (0 + 4)), (2, .ref (65 + 4)), (3, .ref (81 + 4)), (4, .int (nI i))] [] (r2.2, L, F, S ++ List.replicate k (16, 0)))
    (ks : ∀ x, r1 = some x → lh_G Γ m_LLm room_1 Z bc bs 13 [(0, .ref 0), (1, .ref (0 + 4)), (2, .ref (65 + 4)), (3, .ref (81 + 4)), (4, .int (nI i))] [] (r2.2, lh_v2 L (81 + 4) 0 x.toInt64, F, S)) :
    lh_G Γ m_LL40 room_1 Z (bc + 1) (bs + 6) 0 [(0, .ref 0), (1, .ref (0 + 4)), (2, .ref (65 + 4)), (3, .ref (81 + 4)), (4, .int (nI i))] [] (I, L, F, S) := by
  refine lh_aload_n (q := 1) rfl rfl rfl ?_
  refine lh_aload_n (q := 0) rfl rfl rfl ?_
  refine lh_iload (q := 4) rfl rfl ?_
  refine lh_iconst rfl lh_k_1 ?_
  refine lh_iadd rfl ?_
  refine lh_scr (q := i) (k := 1) rfl (by decide) (by omega) hL ?_
  refine lh_aload_n (q := 0) rfl rfl rfl ?_
  refine lh_iload (q := 4) rfl rfl ?_
  refine lh_iconst rfl lh_k_2 ?_
  refine lh_iadd rfl ?_
  refine lh_scr (q := i) (k := 2) rfl (by decide) (by omega) hL ?_
  refine lh_aload_n (q := 0) rfl rfl rfl ?_
  refine lh_iload (q := 4) rfl rfl ?_
  refine lh_iconst rfl lh_k_3 ?_
  refine lh_iadd rfl ?_
  refine lh_scr (q := i) (k := 3) rfl (by decide) (by omega) hL ?_
  refine lh_aload_n (q := 0) rfl rfl rfl ?_
  refine lh_iload (q := 4) rfl rfl ?_
  refine lh_iconst rfl lh_k_4 ?_
  refine lh_iadd rfl ?_
  refine lh_scr (q := i) (k := 4) rfl (by decide) (by omega) hL ?_
  refine lh_aload_n (q := 3) rfl rfl rfl ?_
  have rest : ∀ (k : Int32) (L' : lh_LL) (S' : lh_SS), lh_ok F S' a b a2 b2 → (r3 = k) → (k = 0 → L' (81 + 4) 0 = r2.1.toInt64) → lh_G Γ m_LLm room_1 Z bc bs 13 [(0, .ref 0), (1, .ref (0 + 4)), (2, .ref (65 + 4)), (3, .ref (81 + 4)), (4, .int (nI i))] [] (r2.2, L', F, S') →
      lh_G Γ m_LL40 room_1 Z bc bs 23 [(0, .ref 0), (1, .ref (0 + 4)), (2, .ref (65 + 4)), (3, .ref (81 + 4)), (4, .int (nI i))] [.int k] (I, L', F, S') := by
    intro k L' S' hO he hk0 kk
    refine lh_istore (lv' := [(0, .ref 0), (1, .ref (0 + 4)), (2, .ref (65 + 4)), (3, .ref (81 + 4)), (4, .int (nI i)), (5, .int k)]) rfl rfl rfl ?_
    refine lh_aload_n (q := 2) rfl rfl rfl ?_
    refine lh_aload_n (q := 0) rfl rfl rfl ?_
    refine lh_iload (q := 4) rfl rfl ?_
    refine lh_iconst rfl lh_k_1 ?_
    refine lh_iadd rfl ?_
    refine lh_scr (q := i) (k := 1) rfl (by decide) (by omega) hL ?_
    refine lh_aload_n (q := 0) rfl rfl rfl ?_
    refine lh_iload (q := 4) rfl rfl ?_
    refine lh_iconst rfl lh_k_2 ?_
    refine lh_iadd rfl ?_
    refine lh_scr (q := i) (k := 2) rfl (by decide) (by omega) hL ?_
    refine lh_aload_n (q := 0) rfl rfl rfl ?_
    refine lh_iload (q := 4) rfl rfl ?_
    refine lh_iconst rfl lh_k_3 ?_
    refine lh_iadd rfl ?_
    refine lh_scr (q := i) (k := 3) rfl (by decide) (by omega) hL ?_
    refine lh_aload_n (q := 0) rfl rfl rfl ?_
    refine lh_iload (q := 4) rfl rfl ?_
    refine lh_iconst rfl lh_k_4 ?_
    refine lh_iadd rfl ?_
    refine lh_scr (q := i) (k := 4) rfl (by decide) (by omega) hL ?_
    refine lh_cVi (N := m_LM_rests) (d := 1) (o := 65) (As := [.int (lh_xs Γ (i + 1)), .int (lh_xs Γ (i + 2)), .int (lh_xs Γ (i + 3)), .int (lh_xs Γ (i + 4))]) (st := []) rfl rfl v_LM_rests (hO.2.1.1 0 _ rfl) rfl rfl rfl ⟨rfl, rfl⟩ rfl (t_LM_rests hG hO.2.1 hf2 ?_)
    refine lh_istore (lv' := [(0, .ref 0), (1, .ref (0 + 4)), (2, .ref (65 + 4)), (3, .ref (81 + 4)), (4, .int (nI i)), (5, .int k), (6, .int r2.1)]) rfl rfl rfl ?_
    refine lh_aload_n (q := 2) rfl rfl rfl ?_
    refine lh_cVi (N := m_LM_thrown) (d := 0) (o := 65) (As := []) (st := []) rfl rfl v_LM_thrown (hO.2.1.1 0 _ rfl) rfl rfl rfl ⟨rfl, rfl⟩ rfl (t_LM_thrown hG hO.2.1 hf3 ?_)
    refine lh_iload (q := 5) rfl rfl ?_
    refine lh_icmp_eq rfl (fun _ => ?_) (fun c => absurd he c)
    refine lh_iload (q := 5) rfl rfl ?_
    refine lh_if_ne rfl (fun c => ?_) (fun c => ?_)
    · refine lh_goto rfl ?_
      exact lh_less [0, 1, 2, 3, 4] rfl (lh_sw2 k_LLm rfl rfl rfl rfl rfl rfl kk)
    · refine lh_aload_n (q := 3) rfl rfl rfl ?_
      refine lh_iconst rfl lh_k_0 ?_
      refine lh_lald5 (k := 0) rfl hO.2.2.2.2.2.2.2.2.2.2.1 (by decide) (by decide) ?_
      refine lh_iload (q := 6) rfl rfl ?_
      refine lh_i2l rfl ?_
      refine lh_lcmp rfl ?_
      refine lh_if_eq rfl (fun _ => ?_) (fun c9 => absurd (by rw [hk0 c]; exact lh_cmp0 _) c9)
      refine lh_goto rfl ?_
      exact lh_less [0, 1, 2, 3, 4] rfl (lh_sw2 k_LLm rfl rfl rfl rfl rfl rfl kk)
  refine lh_cSW (N := m_LL_rests) (hh := [(0, 14, 17, 13)]) (d := 9) (mc := 1) (ms := 6) (bc := bc) (bs := bs) (As := [.ref (0 + 4), .int (lh_xs Γ (i + 1)), .int (lh_xs Γ (i + 2)), .int (lh_xs Γ (i + 3)), .int (lh_xs Γ (i + 4)), .ref (81 + 4)]) (st := []) rfl rfl v_LL_rests rfl rfl ⟨rfl, rfl⟩ rfl
    ((t_LL_rests (K := fun x h' => lh_G Γ m_LL40 room_1 Z bc bs 23 [(0, .ref 0), (1, .ref (0 + 4)), (2, .ref (65 + 4)), (3, .ref (81 + 4)), (4, .int (nI i))] [.int x] h') hG hY hl hO.1 hO.2.2.1 hO.2.2.2.2.2.2.1 hO.2.2.2.2.1 hO.2.2.2.2.2.2.2.2.1 hO.2.2.2.2.2.2.2.2.2.2.1 hf1 ?_ ?_).mono (lh_kiG fun x h' hk => hk))
  · intro x hx
    obtain ⟨e1, e2⟩ := hes x hx
    exact rest 0 _ S hO e1 (fun _ => by rw [← e2]; unfold lh_v2; rw [if_pos rfl, if_pos rfl]) (ks x hx)
  · intro hn k
    exact rest 1 L (S ++ List.replicate k (16, 0)) (hO.junk h82 k) (hen hn) (fun h => absurd h (by decide)) (kn hn k)
