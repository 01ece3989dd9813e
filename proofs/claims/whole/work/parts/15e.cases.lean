theorem lw_c0 {Γ : lh_Cx} {Z : List Frame → Array Value → State → State → Prop} {I : lh_II} {L : lh_LL} {F : lh_FF} {S : lh_SS} {a b a2 b2 bc bs i : Nat} {r1 : Int32 × lh_II} {r2 : Int32 × lh_II} (hG : lh_GX Γ) (hO : lh_ok F S a b a2 b2) (hL : lh_L Γ ≤ 3584) (hi : i + 6 < lh_L Γ) (hf1 : f_LH_feed a b ((((lh_xs Γ (i + 1)).toInt64 <<< ((32 : Int32).toInt64 &&& 63)) ||| ((lh_xs Γ (i + 2)).toInt64 &&& 4294967295))) ((((lh_xs Γ (i + 3)).toInt64 <<< ((32 : Int32).toInt64 &&& 63)) ||| ((lh_xs Γ (i + 4)).toInt64 &&& 4294967295))) ((((lh_xs Γ (i + 5)).toInt64 <<< ((32 : Int32).toInt64 &&& 63)) ||| ((lh_xs Γ (i + 6)).toInt64 &&& 4294967295))) I = some r1) (hf2 : f_LM_feed ((((lh_xs Γ (i + 1)).toInt64 <<< ((32 : Int32).toInt64 &&& 63)) ||| ((lh_xs Γ (i + 2)).toInt64 &&& 4294967295))) ((((lh_xs Γ (i + 3)).toInt64 <<< ((32 : Int32).toInt64 &&& 63)) ||| ((lh_xs Γ (i + 4)).toInt64 &&& 4294967295))) ((((lh_xs Γ (i + 5)).toInt64 <<< ((32 : Int32).toInt64 &&& 63)) ||| ((lh_xs Γ (i + 6)).toInt64 &&& 4294967295))) r1.2 = some r2) (he : r1.1 = r2.1) (kk : lh_G Γ m_LLm room_1 Z bc bs 13 [(0, .ref 0), (1, .ref (0 + 4)), (2, .ref (65 + 4)), (3, .ref (81 + 4)), (4, .int (nI i))] [] (r2.2, L, F, S)) : lh_G Γ m_LL0 room_1 Z bc bs 0 [(0, .ref 0), (1, .ref (0 + 4)), (2, .ref (65 + 4)), (3, .ref (81 + 4)), (4, .int (nI i))] [] (I, L, F, S) := by
  refine lh_aload_n (q := 1) rfl rfl rfl ?_
  refine lh_aload_n (q := 0) rfl rfl rfl ?_
  refine lh_iload (q := 4) rfl rfl ?_
  refine lh_iconst rfl lh_k_1 ?_
  refine lh_iadd rfl ?_
  refine lh_scr (q := i) (k := 1) rfl (by decide) (by omega) hL ?_
  refine lh_i2l rfl ?_
  refine lh_bipush rfl lh_b_32 ?_
  refine lh_lshl rfl ?_
  refine lh_aload_n (q := 0) rfl rfl rfl ?_
  refine lh_iload (q := 4) rfl rfl ?_
  refine lh_iconst rfl lh_k_2 ?_
  refine lh_iadd rfl ?_
  refine lh_scr (q := i) (k := 2) rfl (by decide) (by omega) hL ?_
  refine lh_i2l rfl ?_
  refine lh_ldc2 rfl rfl ?_
  refine lh_land rfl ?_
  refine lh_lor rfl ?_
  refine lh_aload_n (q := 0) rfl rfl rfl ?_
  refine lh_iload (q := 4) rfl rfl ?_
  refine lh_iconst rfl lh_k_3 ?_
  refine lh_iadd rfl ?_
  refine lh_scr (q := i) (k := 3) rfl (by decide) (by omega) hL ?_
  refine lh_i2l rfl ?_
  refine lh_bipush rfl lh_b_32 ?_
  refine lh_lshl rfl ?_
  refine lh_aload_n (q := 0) rfl rfl rfl ?_
  refine lh_iload (q := 4) rfl rfl ?_
  refine lh_iconst rfl lh_k_4 ?_
  refine lh_iadd rfl ?_
  refine lh_scr (q := i) (k := 4) rfl (by decide) (by omega) hL ?_
  refine lh_i2l rfl ?_
  refine lh_ldc2 rfl rfl ?_
  refine lh_land rfl ?_
  refine lh_lor rfl ?_
  refine lh_aload_n (q := 0) rfl rfl rfl ?_
  refine lh_iload (q := 4) rfl rfl ?_
  refine lh_iconst rfl lh_k_5 ?_
  refine lh_iadd rfl ?_
  refine lh_scr (q := i) (k := 5) rfl (by decide) (by omega) hL ?_
  refine lh_i2l rfl ?_
  refine lh_bipush rfl lh_b_32 ?_
  refine lh_lshl rfl ?_
  refine lh_aload_n (q := 0) rfl rfl rfl ?_
  refine lh_iload (q := 4) rfl rfl ?_
  refine lh_bipush rfl lh_b_6 ?_
  refine lh_iadd rfl ?_
  refine lh_scr (q := i) (k := 6) rfl (by decide) (by omega) hL ?_
  refine lh_i2l rfl ?_
  refine lh_ldc2 rfl rfl ?_
  refine lh_land rfl ?_
  refine lh_lor rfl ?_
  refine lh_cVi (N := m_LH_feed) (d := 1) (o := 0) (As := [.long (((lh_xs Γ (i + 1)).toInt64 <<< ((32 : Int32).toInt64 &&& 63)) ||| ((lh_xs Γ (i + 2)).toInt64 &&& 4294967295)), .long (((lh_xs Γ (i + 3)).toInt64 <<< ((32 : Int32).toInt64 &&& 63)) ||| ((lh_xs Γ (i + 4)).toInt64 &&& 4294967295)), .long (((lh_xs Γ (i + 5)).toInt64 <<< ((32 : Int32).toInt64 &&& 63)) ||| ((lh_xs Γ (i + 6)).toInt64 &&& 4294967295))]) (st := []) rfl rfl v_LH_feed (hO.1.1 0 _ rfl) rfl rfl rfl ⟨rfl, rfl⟩ rfl (t_LH_feed hG hO.1 hO.2.2.1 hO.2.2.2.2.2.2.1 hO.2.2.2.2.1 hO.2.2.2.2.2.2.2.2.1 hf1 ?_)
  refine lh_aload_n (q := 2) rfl rfl rfl ?_
  refine lh_aload_n (q := 0) rfl rfl rfl ?_
  refine lh_iload (q := 4) rfl rfl ?_
  refine lh_iconst rfl lh_k_1 ?_
  refine lh_iadd rfl ?_
  refine lh_scr (q := i) (k := 1) rfl (by decide) (by omega) hL ?_
  refine lh_i2l rfl ?_
  refine lh_bipush rfl lh_b_32 ?_
  refine lh_lshl rfl ?_
  refine lh_aload_n (q := 0) rfl rfl rfl ?_
  refine lh_iload (q := 4) rfl rfl ?_
  refine lh_iconst rfl lh_k_2 ?_
  refine lh_iadd rfl ?_
  refine lh_scr (q := i) (k := 2) rfl (by decide) (by omega) hL ?_
  refine lh_i2l rfl ?_
  refine lh_ldc2 rfl rfl ?_
  refine lh_land rfl ?_
  refine lh_lor rfl ?_
  refine lh_aload_n (q := 0) rfl rfl rfl ?_
  refine lh_iload (q := 4) rfl rfl ?_
  refine lh_iconst rfl lh_k_3 ?_
  refine lh_iadd rfl ?_
  refine lh_scr (q := i) (k := 3) rfl (by decide) (by omega) hL ?_
  refine lh_i2l rfl ?_
  refine lh_bipush rfl lh_b_32 ?_
  refine lh_lshl rfl ?_
  refine lh_aload_n (q := 0) rfl rfl rfl ?_
  refine lh_iload (q := 4) rfl rfl ?_
  refine lh_iconst rfl lh_k_4 ?_
  refine lh_iadd rfl ?_
  refine lh_scr (q := i) (k := 4) rfl (by decide) (by omega) hL ?_
  refine lh_i2l rfl ?_
  refine lh_ldc2 rfl rfl ?_
  refine lh_land rfl ?_
  refine lh_lor rfl ?_
  refine lh_aload_n (q := 0) rfl rfl rfl ?_
  refine lh_iload (q := 4) rfl rfl ?_
  refine lh_iconst rfl lh_k_5 ?_
  refine lh_iadd rfl ?_
  refine lh_scr (q := i) (k := 5) rfl (by decide) (by omega) hL ?_
  refine lh_i2l rfl ?_
  refine lh_bipush rfl lh_b_32 ?_
  refine lh_lshl rfl ?_
  refine lh_aload_n (q := 0) rfl rfl rfl ?_
  refine lh_iload (q := 4) rfl rfl ?_
  refine lh_bipush rfl lh_b_6 ?_
  refine lh_iadd rfl ?_
  refine lh_scr (q := i) (k := 6) rfl (by decide) (by omega) hL ?_
  refine lh_i2l rfl ?_
  refine lh_ldc2 rfl rfl ?_
  refine lh_land rfl ?_
  refine lh_lor rfl ?_
  refine lh_cVi (N := m_LM_feed) (d := 1) (o := 65) (As := [.long (((lh_xs Γ (i + 1)).toInt64 <<< ((32 : Int32).toInt64 &&& 63)) ||| ((lh_xs Γ (i + 2)).toInt64 &&& 4294967295)), .long (((lh_xs Γ (i + 3)).toInt64 <<< ((32 : Int32).toInt64 &&& 63)) ||| ((lh_xs Γ (i + 4)).toInt64 &&& 4294967295)), .long (((lh_xs Γ (i + 5)).toInt64 <<< ((32 : Int32).toInt64 &&& 63)) ||| ((lh_xs Γ (i + 6)).toInt64 &&& 4294967295))]) (st := [.int r1.1]) rfl rfl v_LM_feed (hO.2.1.1 0 _ rfl) rfl rfl rfl ⟨rfl, rfl⟩ rfl (t_LM_feed hG hO.2.1 hf2 ?_)
  refine lh_icmp_eq rfl (fun _ => ?_) (fun c => absurd he c)
  exact lh_sw2 k_LLm rfl rfl rfl rfl rfl rfl kk
theorem lw_c1 {Γ : lh_Cx} {Z : List Frame → Array Value → State → State → Prop} {I : lh_II} {L : lh_LL} {F : lh_FF} {S : lh_SS} {a b a2 b2 bc bs i : Nat} {r1 : Int32 × lh_II × lh_LL} {r2 : Int32 × lh_II × lh_LL} (hG : lh_GX Γ) (hO : lh_ok F S a b a2 b2) (hL : lh_L Γ ≤ 3584) (hi : i + 6 < lh_L Γ) {n : Nat} (hl : S.length = n) (h82 : 82 ≤ n) {a' a2' : Nat} (hO' : lh_ok (lh_hallF F n a a2 r1.1) (S ++ [(7, 0)] ++ [(1, 10)]) a' b a2' b2) (hf1 : f_LH_hall a b a2 n I L = some r1) (hf2 : f_LM_hall r1.2.1 r1.2.2 = some r2) (he : r1.1 = r2.1) (kk : lh_G Γ m_LLm room_1 Z bc bs 13 [(0, .ref 0), (1, .ref (0 + 4)), (2, .ref (65 + 4)), (3, .ref (81 + 4)), (4, .int (nI i))] [] (r2.2.1, r2.2.2, (lh_hallF F n a a2 r1.1), (S ++ [(7, 0)] ++ [(1, 10)]))) : lh_G Γ m_LL1 room_1 Z (bc + 2) (bs + 15) 0 [(0, .ref 0), (1, .ref (0 + 4)), (2, .ref (65 + 4)), (3, .ref (81 + 4)), (4, .int (nI i))] [] (I, L, F, S) := by
  refine lh_aload_n (q := 1) rfl rfl rfl ?_
  refine lh_cVq (N := m_LH_hall) (d := 63) (mc := 2) (ms := 15) (bc := bc) (bs := bs) (o := 0) (As := []) (st := []) rfl rfl v_LH_hall (hO.1.1 0 _ rfl) rfl rfl rfl ⟨rfl, rfl⟩ rfl (t_LH_hall hG hO hl h82 hf1 ?_)
  refine lh_aload_n (q := 2) rfl rfl rfl ?_
  refine lh_cVi (N := m_LM_hall) (d := 62) (o := 65) (As := []) (st := [.int r1.1]) rfl rfl v_LM_hall (hO'.2.1.1 0 _ rfl) rfl rfl rfl ⟨rfl, rfl⟩ rfl (t_LM_hall hG hO'.2.1 hf2 ?_)
  refine lh_icmp_eq rfl (fun _ => ?_) (fun c => absurd he c)
  exact lh_sw2 k_LLm rfl rfl rfl rfl rfl rfl kk
theorem lw_c2 {Γ : lh_Cx} {Z : List Frame → Array Value → State → State → Prop} {I : lh_II} {L : lh_LL} {F : lh_FF} {S : lh_SS} {a b a2 b2 bc bs i : Nat} {r1 : Int32 × lh_II × lh_LL} {r2 : Int32 × lh_II × lh_LL} (hG : lh_GX Γ) (hO : lh_ok F S a b a2 b2) (hL : lh_L Γ ≤ 3584) (hi : i + 6 < lh_L Γ) {b' b2' : Nat} (hO' : lh_ok (lh_nightF F b b2 r1.1) S a b' a2 b2') (hf1 : f_LH_night b2 I L = some r1) (hf2 : f_LM_night r1.2.1 r1.2.2 = some r2) (he : r1.1 = r2.1) (kk : lh_G Γ m_LLm room_1 Z bc bs 13 [(0, .ref 0), (1, .ref (0 + 4)), (2, .ref (65 + 4)), (3, .ref (81 + 4)), (4, .int (nI i))] [] (r2.2.1, r2.2.2, (lh_nightF F b b2 r1.1), S)) : lh_G Γ m_LL2 room_1 Z bc bs 0 [(0, .ref 0), (1, .ref (0 + 4)), (2, .ref (65 + 4)), (3, .ref (81 + 4)), (4, .int (nI i))] [] (I, L, F, S) := by
  refine lh_aload_n (q := 1) rfl rfl rfl ?_
  refine lh_cVi (N := m_LH_night) (d := 7) (o := 0) (As := []) (st := []) rfl rfl v_LH_night (hO.1.1 0 _ rfl) rfl rfl rfl ⟨rfl, rfl⟩ rfl (t_LH_night hG hO hf1 ?_)
  refine lh_aload_n (q := 2) rfl rfl rfl ?_
  refine lh_cVi (N := m_LM_night) (d := 3) (o := 65) (As := []) (st := [.int r1.1]) rfl rfl v_LM_night (hO'.2.1.1 0 _ rfl) rfl rfl rfl ⟨rfl, rfl⟩ rfl (t_LM_night hG hO'.2.1 hf2 ?_)
  refine lh_icmp_eq rfl (fun _ => ?_) (fun c => absurd he c)
  exact lh_sw2 k_LLm rfl rfl rfl rfl rfl rfl kk
theorem lw_c3 {Γ : lh_Cx} {Z : List Frame → Array Value → State → State → Prop} {I : lh_II} {L : lh_LL} {F : lh_FF} {S : lh_SS} {a b a2 b2 bc bs i : Nat} {r1 : Int32 × lh_II} {r2 : Int32 × lh_II} (hG : lh_GX Γ) (hO : lh_ok F S a b a2 b2) (hL : lh_L Γ ≤ 3584) (hi : i + 6 < lh_L Γ) (hf1 : f_LH_visitor a b (lh_xs Γ (i + 1)) (lh_xs Γ (i + 2)) I = some r1) (hf2 : f_LM_visitor (lh_xs Γ (i + 1)) (lh_xs Γ (i + 2)) r1.2 = some r2) (he : r1.1 = r2.1) (kk : lh_G Γ m_LLm room_1 Z bc bs 13 [(0, .ref 0), (1, .ref (0 + 4)), (2, .ref (65 + 4)), (3, .ref (81 + 4)), (4, .int (nI i))] [] (r2.2, L, F, S)) : lh_G Γ m_LL3 room_1 Z bc bs 0 [(0, .ref 0), (1, .ref (0 + 4)), (2, .ref (65 + 4)), (3, .ref (81 + 4)), (4, .int (nI i))] [] (I, L, F, S) := by
  refine lh_aload_n (q := 1) rfl rfl rfl ?_
  refine lh_aload_n (q := 0) rfl rfl rfl ?_
  refine lh_iload (q := 4) rfl rfl ?_
  refine lh_iconst rfl lh_k_1 ?_
  refine lh_iadd rfl ?_
  refine lh_scr (q := i) (k := 1) rfl (by decide) (by omega) hL ?_
  refine lh_aload_n (q := 0) rfl rfl rfl ?_
  refine lh_iload (q := 4) rfl rfl ?_
  refine lh_iconst rfl lh_k_2 ?_
  refine lh_iadd rfl ?_
  refine lh_scr (q := i) (k := 2) rfl (by decide) (by omega) hL ?_
  refine lh_cVi (N := m_LH_visitor) (d := 5) (o := 0) (As := [.int (lh_xs Γ (i + 1)), .int (lh_xs Γ (i + 2))]) (st := []) rfl rfl v_LH_visitor (hO.1.1 0 _ rfl) rfl rfl rfl ⟨rfl, rfl⟩ rfl (t_LH_visitor hG hO.1 hO.2.2.1 hO.2.2.2.2.2.2.1 hO.2.2.2.2.1 hO.2.2.2.2.2.2.2.2.1 hf1 ?_)
  refine lh_aload_n (q := 2) rfl rfl rfl ?_
  refine lh_aload_n (q := 0) rfl rfl rfl ?_
  refine lh_iload (q := 4) rfl rfl ?_
  refine lh_iconst rfl lh_k_1 ?_
  refine lh_iadd rfl ?_
  refine lh_scr (q := i) (k := 1) rfl (by decide) (by omega) hL ?_
  refine lh_aload_n (q := 0) rfl rfl rfl ?_
  refine lh_iload (q := 4) rfl rfl ?_
  refine lh_iconst rfl lh_k_2 ?_
  refine lh_iadd rfl ?_
  refine lh_scr (q := i) (k := 2) rfl (by decide) (by omega) hL ?_
  refine lh_cVi (N := m_LM_visitor) (d := 5) (o := 65) (As := [.int (lh_xs Γ (i + 1)), .int (lh_xs Γ (i + 2))]) (st := [.int r1.1]) rfl rfl v_LM_visitor (hO.2.1.1 0 _ rfl) rfl rfl rfl ⟨rfl, rfl⟩ rfl (t_LM_visitor hG hO.2.1 hf2 ?_)
  refine lh_icmp_eq rfl (fun _ => ?_) (fun c => absurd he c)
  exact lh_sw2 k_LLm rfl rfl rfl rfl rfl rfl kk
theorem lw_c4 {Γ : lh_Cx} {Z : List Frame → Array Value → State → State → Prop} {I : lh_II} {L : lh_LL} {F : lh_FF} {S : lh_SS} {a b a2 b2 bc bs i : Nat} {r1 : Int32} {r2 : Int32 × lh_II} (hG : lh_GX Γ) (hO : lh_ok F S a b a2 b2) (hL : lh_L Γ ≤ 3584) (hi : i + 6 < lh_L Γ) (hf1 : f_LH_at a b (lh_xs Γ (i + 1)) (lh_xs Γ (i + 2)) I = some r1) (hf2 : f_LM_at (lh_xs Γ (i + 1)) (lh_xs Γ (i + 2)) I = some r2) (he : r1 = r2.1) (kk : lh_G Γ m_LLm room_1 Z bc bs 13 [(0, .ref 0), (1, .ref (0 + 4)), (2, .ref (65 + 4)), (3, .ref (81 + 4)), (4, .int (nI i))] [] (r2.2, L, F, S)) : lh_G Γ m_LL4 room_1 Z bc bs 0 [(0, .ref 0), (1, .ref (0 + 4)), (2, .ref (65 + 4)), (3, .ref (81 + 4)), (4, .int (nI i))] [] (I, L, F, S) := by
  refine lh_aload_n (q := 1) rfl rfl rfl ?_
  refine lh_aload_n (q := 0) rfl rfl rfl ?_
  refine lh_iload (q := 4) rfl rfl ?_
  refine lh_iconst rfl lh_k_1 ?_
  refine lh_iadd rfl ?_
  refine lh_scr (q := i) (k := 1) rfl (by decide) (by omega) hL ?_
  refine lh_aload_n (q := 0) rfl rfl rfl ?_
  refine lh_iload (q := 4) rfl rfl ?_
  refine lh_iconst rfl lh_k_2 ?_
  refine lh_iadd rfl ?_
  refine lh_scr (q := i) (k := 2) rfl (by decide) (by omega) hL ?_
  refine lh_cVi (N := m_LH_at) (d := 2) (o := 0) (As := [.int (lh_xs Γ (i + 1)), .int (lh_xs Γ (i + 2))]) (st := []) rfl rfl v_LH_at (hO.1.1 0 _ rfl) rfl rfl rfl ⟨rfl, rfl⟩ rfl (t_LH_at hG hO.1 hO.2.2.1 hO.2.2.2.2.2.2.1 hO.2.2.2.2.1 hO.2.2.2.2.2.2.2.2.1 hf1 ?_)
  refine lh_aload_n (q := 2) rfl rfl rfl ?_
  refine lh_aload_n (q := 0) rfl rfl rfl ?_
  refine lh_iload (q := 4) rfl rfl ?_
  refine lh_iconst rfl lh_k_1 ?_
  refine lh_iadd rfl ?_
  refine lh_scr (q := i) (k := 1) rfl (by decide) (by omega) hL ?_
  refine lh_aload_n (q := 0) rfl rfl rfl ?_
  refine lh_iload (q := 4) rfl rfl ?_
  refine lh_iconst rfl lh_k_2 ?_
  refine lh_iadd rfl ?_
  refine lh_scr (q := i) (k := 2) rfl (by decide) (by omega) hL ?_
  refine lh_cVi (N := m_LM_at) (d := 2) (o := 65) (As := [.int (lh_xs Γ (i + 1)), .int (lh_xs Γ (i + 2))]) (st := [.int r1]) rfl rfl v_LM_at (hO.2.1.1 0 _ rfl) rfl rfl rfl ⟨rfl, rfl⟩ rfl (t_LM_at hG hO.2.1 hf2 ?_)
  refine lh_icmp_eq rfl (fun _ => ?_) (fun c => absurd he c)
  exact lh_sw2 k_LLm rfl rfl rfl rfl rfl rfl kk
theorem lw_c5 {Γ : lh_Cx} {Z : List Frame → Array Value → State → State → Prop} {I : lh_II} {L : lh_LL} {F : lh_FF} {S : lh_SS} {a b a2 b2 bc bs i : Nat} {r1 : Int32 × lh_II} {r2 : Int32 × lh_II} (hG : lh_GX Γ) (hO : lh_ok F S a b a2 b2) (hL : lh_L Γ ≤ 3584) (hi : i + 6 < lh_L Γ) (hf1 : f_LH_vase a b (lh_xs Γ (i + 1)) (lh_xs Γ (i + 2)) I = some r1) (hf2 : f_LM_vase (lh_xs Γ (i + 1)) (lh_xs Γ (i + 2)) r1.2 = some r2) (he : r1.1 = r2.1) (kk : lh_G Γ m_LLm room_1 Z bc bs 13 [(0, .ref 0), (1, .ref (0 + 4)), (2, .ref (65 + 4)), (3, .ref (81 + 4)), (4, .int (nI i))] [] (r2.2, L, F, S)) : lh_G Γ m_LL5 room_1 Z bc bs 0 [(0, .ref 0), (1, .ref (0 + 4)), (2, .ref (65 + 4)), (3, .ref (81 + 4)), (4, .int (nI i))] [] (I, L, F, S) := by
  refine lh_aload_n (q := 1) rfl rfl rfl ?_
  refine lh_aload_n (q := 0) rfl rfl rfl ?_
  refine lh_iload (q := 4) rfl rfl ?_
  refine lh_iconst rfl lh_k_1 ?_
  refine lh_iadd rfl ?_
  refine lh_scr (q := i) (k := 1) rfl (by decide) (by omega) hL ?_
  refine lh_aload_n (q := 0) rfl rfl rfl ?_
  refine lh_iload (q := 4) rfl rfl ?_
  refine lh_iconst rfl lh_k_2 ?_
  refine lh_iadd rfl ?_
  refine lh_scr (q := i) (k := 2) rfl (by decide) (by omega) hL ?_
  refine lh_cVi (N := m_LH_vase) (d := 5) (o := 0) (As := [.int (lh_xs Γ (i + 1)), .int (lh_xs Γ (i + 2))]) (st := []) rfl rfl v_LH_vase (hO.1.1 0 _ rfl) rfl rfl rfl ⟨rfl, rfl⟩ rfl (t_LH_vase hG hO.1 hO.2.2.1 hO.2.2.2.2.2.2.1 hO.2.2.2.2.1 hO.2.2.2.2.2.2.2.2.1 hf1 ?_)
  refine lh_aload_n (q := 2) rfl rfl rfl ?_
  refine lh_aload_n (q := 0) rfl rfl rfl ?_
  refine lh_iload (q := 4) rfl rfl ?_
  refine lh_iconst rfl lh_k_1 ?_
  refine lh_iadd rfl ?_
  refine lh_scr (q := i) (k := 1) rfl (by decide) (by omega) hL ?_
  refine lh_aload_n (q := 0) rfl rfl rfl ?_
  refine lh_iload (q := 4) rfl rfl ?_
  refine lh_iconst rfl lh_k_2 ?_
  refine lh_iadd rfl ?_
  refine lh_scr (q := i) (k := 2) rfl (by decide) (by omega) hL ?_
  refine lh_cVi (N := m_LM_vase) (d := 5) (o := 65) (As := [.int (lh_xs Γ (i + 1)), .int (lh_xs Γ (i + 2))]) (st := [.int r1.1]) rfl rfl v_LM_vase (hO.2.1.1 0 _ rfl) rfl rfl rfl ⟨rfl, rfl⟩ rfl (t_LM_vase hG hO.2.1 hf2 ?_)
  refine lh_icmp_eq rfl (fun _ => ?_) (fun c => absurd he c)
  exact lh_sw2 k_LLm rfl rfl rfl rfl rfl rfl kk
theorem lw_c6 {Γ : lh_Cx} {Z : List Frame → Array Value → State → State → Prop} {I : lh_II} {L : lh_LL} {F : lh_FF} {S : lh_SS} {a b a2 b2 bc bs i : Nat} {r1 : Int32} {r2 : Int32 × lh_II} (hG : lh_GX Γ) (hO : lh_ok F S a b a2 b2) (hL : lh_L Γ ≤ 3584) (hi : i + 6 < lh_L Γ) (hf1 : f_LH_light a b I = some r1) (hf2 : f_LM_light I = some r2) (he : r1 = r2.1) (kk : lh_G Γ m_LLm room_1 Z bc bs 13 [(0, .ref 0), (1, .ref (0 + 4)), (2, .ref (65 + 4)), (3, .ref (81 + 4)), (4, .int (nI i))] [] (r2.2, L, F, S)) : lh_G Γ m_LL6 room_1 Z bc bs 0 [(0, .ref 0), (1, .ref (0 + 4)), (2, .ref (65 + 4)), (3, .ref (81 + 4)), (4, .int (nI i))] [] (I, L, F, S) := by
  refine lh_aload_n (q := 1) rfl rfl rfl ?_
  refine lh_cVi (N := m_LH_light) (d := 3) (o := 0) (As := []) (st := []) rfl rfl v_LH_light (hO.1.1 0 _ rfl) rfl rfl rfl ⟨rfl, rfl⟩ rfl (t_LH_light hG hO.1 hO.2.2.1 hO.2.2.2.2.2.2.1 hO.2.2.2.2.1 hO.2.2.2.2.2.2.2.2.1 hf1 ?_)
  refine lh_aload_n (q := 2) rfl rfl rfl ?_
  refine lh_cVi (N := m_LM_light) (d := 4) (o := 65) (As := []) (st := [.int r1]) rfl rfl v_LM_light (hO.2.1.1 0 _ rfl) rfl rfl rfl ⟨rfl, rfl⟩ rfl (t_LM_light hG hO.2.1 hf2 ?_)
  refine lh_icmp_eq rfl (fun _ => ?_) (fun c => absurd he c)
  exact lh_sw2 k_LLm rfl rfl rfl rfl rfl rfl kk
theorem lw_c7 {Γ : lh_Cx} {Z : List Frame → Array Value → State → State → Prop} {I : lh_II} {L : lh_LL} {F : lh_FF} {S : lh_SS} {a b a2 b2 bc bs i : Nat} {r1 : Int32 × lh_II} {r2 : Int32 × lh_II} (hG : lh_GX Γ) (hO : lh_ok F S a b a2 b2) (hL : lh_L Γ ≤ 3584) (hi : i + 6 < lh_L Γ) (hf1 : f_LH_shown a b (lh_xs Γ (i + 1)) I = some r1) (hf2 : f_LM_shown (lh_xs Γ (i + 1)) r1.2 = some r2) (he : r1.1 = r2.1) (kk : lh_G Γ m_LLm room_1 Z bc bs 13 [(0, .ref 0), (1, .ref (0 + 4)), (2, .ref (65 + 4)), (3, .ref (81 + 4)), (4, .int (nI i))] [] (r2.2, L, F, S)) : lh_G Γ m_LL7 room_1 Z bc bs 0 [(0, .ref 0), (1, .ref (0 + 4)), (2, .ref (65 + 4)), (3, .ref (81 + 4)), (4, .int (nI i))] [] (I, L, F, S) := by
  refine lh_aload_n (q := 1) rfl rfl rfl ?_
  refine lh_aload_n (q := 0) rfl rfl rfl ?_
  refine lh_iload (q := 4) rfl rfl ?_
  refine lh_iconst rfl lh_k_1 ?_
  refine lh_iadd rfl ?_
  refine lh_scr (q := i) (k := 1) rfl (by decide) (by omega) hL ?_
  refine lh_cVi (N := m_LH_shown) (d := 3) (o := 0) (As := [.int (lh_xs Γ (i + 1))]) (st := []) rfl rfl v_LH_shown (hO.1.1 0 _ rfl) rfl rfl rfl ⟨rfl, rfl⟩ rfl (t_LH_shown hG hO.1 hO.2.2.1 hO.2.2.2.2.2.2.1 hO.2.2.2.2.1 hO.2.2.2.2.2.2.2.2.1 hf1 ?_)
  refine lh_aload_n (q := 2) rfl rfl rfl ?_
  refine lh_aload_n (q := 0) rfl rfl rfl ?_
  refine lh_iload (q := 4) rfl rfl ?_
  refine lh_iconst rfl lh_k_1 ?_
  refine lh_iadd rfl ?_
  refine lh_scr (q := i) (k := 1) rfl (by decide) (by omega) hL ?_
  refine lh_cVi (N := m_LM_shown) (d := 4) (o := 65) (As := [.int (lh_xs Γ (i + 1))]) (st := [.int r1.1]) rfl rfl v_LM_shown (hO.2.1.1 0 _ rfl) rfl rfl rfl ⟨rfl, rfl⟩ rfl (t_LM_shown hG hO.2.1 hf2 ?_)
  refine lh_icmp_eq rfl (fun _ => ?_) (fun c => absurd he c)
  exact lh_sw2 k_LLm rfl rfl rfl rfl rfl rfl kk
theorem lw_c8 {Γ : lh_Cx} {Z : List Frame → Array Value → State → State → Prop} {I : lh_II} {L : lh_LL} {F : lh_FF} {S : lh_SS} {a b a2 b2 bc bs i : Nat} {r1 : Int32 × lh_II} {r2 : Int32 × lh_II} (hG : lh_GX Γ) (hO : lh_ok F S a b a2 b2) (hL : lh_L Γ ≤ 3584) (hi : i + 6 < lh_L Γ) (hf1 : f_LH_sees a b I = some r1) (hf2 : f_LM_sees r1.2 = some r2) (he : r1.1 = r2.1) (kk : lh_G Γ m_LLm room_1 Z bc bs 13 [(0, .ref 0), (1, .ref (0 + 4)), (2, .ref (65 + 4)), (3, .ref (81 + 4)), (4, .int (nI i))] [] (r2.2, L, F, S)) : lh_G Γ m_LL8 room_1 Z bc bs 0 [(0, .ref 0), (1, .ref (0 + 4)), (2, .ref (65 + 4)), (3, .ref (81 + 4)), (4, .int (nI i))] [] (I, L, F, S) := by
  refine lh_aload_n (q := 1) rfl rfl rfl ?_
  refine lh_cVi (N := m_LH_sees) (d := 5) (o := 0) (As := []) (st := []) rfl rfl v_LH_sees (hO.1.1 0 _ rfl) rfl rfl rfl ⟨rfl, rfl⟩ rfl (t_LH_sees hG hO.1 hO.2.2.1 hO.2.2.2.2.2.2.1 hO.2.2.2.2.1 hO.2.2.2.2.2.2.2.2.1 hf1 ?_)
  refine lh_aload_n (q := 2) rfl rfl rfl ?_
  refine lh_cVi (N := m_LM_sees) (d := 5) (o := 65) (As := []) (st := [.int r1.1]) rfl rfl v_LM_sees (hO.2.1.1 0 _ rfl) rfl rfl rfl ⟨rfl, rfl⟩ rfl (t_LM_sees hG hO.2.1 hf2 ?_)
  refine lh_icmp_eq rfl (fun _ => ?_) (fun c => absurd he c)
  exact lh_sw2 k_LLm rfl rfl rfl rfl rfl rfl kk
theorem lw_c9 {Γ : lh_Cx} {Z : List Frame → Array Value → State → State → Prop} {I : lh_II} {L : lh_LL} {F : lh_FF} {S : lh_SS} {a b a2 b2 bc bs i : Nat} {r1 : Int32 × lh_II} {r2 : Int32 × lh_II} (hG : lh_GX Γ) (hO : lh_ok F S a b a2 b2) (hL : lh_L Γ ≤ 3584) (hi : i + 6 < lh_L Γ) (hf1 : f_LH_treasures a b I = some r1) (hf2 : f_LM_treasures r1.2 = some r2) (he : r1.1 = r2.1) (kk : lh_G Γ m_LLm room_1 Z bc bs 13 [(0, .ref 0), (1, .ref (0 + 4)), (2, .ref (65 + 4)), (3, .ref (81 + 4)), (4, .int (nI i))] [] (r2.2, L, F, S)) : lh_G Γ m_LL9 room_1 Z bc bs 0 [(0, .ref 0), (1, .ref (0 + 4)), (2, .ref (65 + 4)), (3, .ref (81 + 4)), (4, .int (nI i))] [] (I, L, F, S) := by
  refine lh_aload_n (q := 1) rfl rfl rfl ?_
  refine lh_cVi (N := m_LH_treasures) (d := 5) (o := 0) (As := []) (st := []) rfl rfl v_LH_treasures (hO.1.1 0 _ rfl) rfl rfl rfl ⟨rfl, rfl⟩ rfl (t_LH_treasures hG hO.1 hO.2.2.1 hO.2.2.2.2.2.2.1 hO.2.2.2.2.1 hO.2.2.2.2.2.2.2.2.1 hf1 ?_)
  refine lh_aload_n (q := 2) rfl rfl rfl ?_
  refine lh_cVi (N := m_LM_treasures) (d := 5) (o := 65) (As := []) (st := [.int r1.1]) rfl rfl v_LM_treasures (hO.2.1.1 0 _ rfl) rfl rfl rfl ⟨rfl, rfl⟩ rfl (t_LM_treasures hG hO.2.1 hf2 ?_)
  refine lh_icmp_eq rfl (fun _ => ?_) (fun c => absurd he c)
  exact lh_sw2 k_LLm rfl rfl rfl rfl rfl rfl kk
theorem lw_c10 {Γ : lh_Cx} {Z : List Frame → Array Value → State → State → Prop} {I : lh_II} {L : lh_LL} {F : lh_FF} {S : lh_SS} {a b a2 b2 bc bs i : Nat} {r1 : Int32 × lh_II} {r2 : Int32 × lh_II} (hG : lh_GX Γ) (hO : lh_ok F S a b a2 b2) (hL : lh_L Γ ≤ 3584) (hi : i + 6 < lh_L Γ) (hf1 : f_LH_step a b (lh_xs Γ (i + 1)) I = some r1) (hf2 : f_LM_step (lh_xs Γ (i + 1)) r1.2 = some r2) (he : r1.1 = r2.1) (kk : lh_G Γ m_LLm room_1 Z bc bs 13 [(0, .ref 0), (1, .ref (0 + 4)), (2, .ref (65 + 4)), (3, .ref (81 + 4)), (4, .int (nI i))] [] (r2.2, L, F, S)) : lh_G Γ m_LL10 room_1 Z bc bs 0 [(0, .ref 0), (1, .ref (0 + 4)), (2, .ref (65 + 4)), (3, .ref (81 + 4)), (4, .int (nI i))] [] (I, L, F, S) := by
  refine lh_aload_n (q := 1) rfl rfl rfl ?_
  refine lh_aload_n (q := 0) rfl rfl rfl ?_
  refine lh_iload (q := 4) rfl rfl ?_
  refine lh_iconst rfl lh_k_1 ?_
  refine lh_iadd rfl ?_
  refine lh_scr (q := i) (k := 1) rfl (by decide) (by omega) hL ?_
  refine lh_cVi (N := m_LH_step) (d := 6) (o := 0) (As := [.int (lh_xs Γ (i + 1))]) (st := []) rfl rfl v_LH_step (hO.1.1 0 _ rfl) rfl rfl rfl ⟨rfl, rfl⟩ rfl (t_LH_step hG hO.1 hO.2.2.1 hO.2.2.2.2.2.2.1 hO.2.2.2.2.1 hO.2.2.2.2.2.2.2.2.1 hf1 ?_)
  refine lh_aload_n (q := 2) rfl rfl rfl ?_
  refine lh_aload_n (q := 0) rfl rfl rfl ?_
  refine lh_iload (q := 4) rfl rfl ?_
  refine lh_iconst rfl lh_k_1 ?_
  refine lh_iadd rfl ?_
  refine lh_scr (q := i) (k := 1) rfl (by decide) (by omega) hL ?_
  refine lh_cVi (N := m_LM_step) (d := 8) (o := 65) (As := [.int (lh_xs Γ (i + 1))]) (st := [.int r1.1]) rfl rfl v_LM_step (hO.2.1.1 0 _ rfl) rfl rfl rfl ⟨rfl, rfl⟩ rfl (t_LM_step hG hO.2.1 hf2 ?_)
  refine lh_icmp_eq rfl (fun _ => ?_) (fun c => absurd he c)
  exact lh_sw2 k_LLm rfl rfl rfl rfl rfl rfl kk
theorem lw_c11 {Γ : lh_Cx} {Z : List Frame → Array Value → State → State → Prop} {I : lh_II} {L : lh_LL} {F : lh_FF} {S : lh_SS} {a b a2 b2 bc bs i : Nat} {r1 : Int32 × lh_II} {r2 : Int32 × lh_II} (hG : lh_GX Γ) (hO : lh_ok F S a b a2 b2) (hL : lh_L Γ ≤ 3584) (hi : i + 6 < lh_L Γ) (hf1 : f_LH_trim a b (lh_xs Γ (i + 1)) I = some r1) (hf2 : f_LM_trim (lh_xs Γ (i + 1)) r1.2 = some r2) (he : r1.1 = r2.1) (kk : lh_G Γ m_LLm room_1 Z bc bs 13 [(0, .ref 0), (1, .ref (0 + 4)), (2, .ref (65 + 4)), (3, .ref (81 + 4)), (4, .int (nI i))] [] (r2.2, L, F, S)) : lh_G Γ m_LL11 room_1 Z bc bs 0 [(0, .ref 0), (1, .ref (0 + 4)), (2, .ref (65 + 4)), (3, .ref (81 + 4)), (4, .int (nI i))] [] (I, L, F, S) := by
  refine lh_aload_n (q := 1) rfl rfl rfl ?_
  refine lh_aload_n (q := 0) rfl rfl rfl ?_
  refine lh_iload (q := 4) rfl rfl ?_
  refine lh_iconst rfl lh_k_1 ?_
  refine lh_iadd rfl ?_
  refine lh_scr (q := i) (k := 1) rfl (by decide) (by omega) hL ?_
  refine lh_cVi (N := m_LH_trim) (d := 2) (o := 0) (As := [.int (lh_xs Γ (i + 1))]) (st := []) rfl rfl v_LH_trim (hO.1.1 0 _ rfl) rfl rfl rfl ⟨rfl, rfl⟩ rfl (t_LH_trim hG hO.1 hO.2.2.1 hO.2.2.2.2.2.2.1 hO.2.2.2.2.1 hO.2.2.2.2.2.2.2.2.1 hf1 ?_)
  refine lh_aload_n (q := 2) rfl rfl rfl ?_
  refine lh_aload_n (q := 0) rfl rfl rfl ?_
  refine lh_iload (q := 4) rfl rfl ?_
  refine lh_iconst rfl lh_k_1 ?_
  refine lh_iadd rfl ?_
  refine lh_scr (q := i) (k := 1) rfl (by decide) (by omega) hL ?_
  refine lh_cVi (N := m_LM_trim) (d := 2) (o := 65) (As := [.int (lh_xs Γ (i + 1))]) (st := [.int r1.1]) rfl rfl v_LM_trim (hO.2.1.1 0 _ rfl) rfl rfl rfl ⟨rfl, rfl⟩ rfl (t_LM_trim hG hO.2.1 hf2 ?_)
  refine lh_icmp_eq rfl (fun _ => ?_) (fun c => absurd he c)
  exact lh_sw2 k_LLm rfl rfl rfl rfl rfl rfl kk
theorem lw_c12 {Γ : lh_Cx} {Z : List Frame → Array Value → State → State → Prop} {I : lh_II} {L : lh_LL} {F : lh_FF} {S : lh_SS} {a b a2 b2 bc bs i : Nat} {r1 : Int32 × lh_II} {r2 : Int32 × lh_II} (hG : lh_GX Γ) (hO : lh_ok F S a b a2 b2) (hL : lh_L Γ ≤ 3584) (hi : i + 6 < lh_L Γ) (hf1 : f_LH_fill a b (lh_xs Γ (i + 1)) I = some r1) (hf2 : f_LM_fill (lh_xs Γ (i + 1)) r1.2 = some r2) (he : r1.1 = r2.1) (kk : lh_G Γ m_LLm room_1 Z bc bs 13 [(0, .ref 0), (1, .ref (0 + 4)), (2, .ref (65 + 4)), (3, .ref (81 + 4)), (4, .int (nI i))] [] (r2.2, L, F, S)) : lh_G Γ m_LL12 room_1 Z bc bs 0 [(0, .ref 0), (1, .ref (0 + 4)), (2, .ref (65 + 4)), (3, .ref (81 + 4)), (4, .int (nI i))] [] (I, L, F, S) := by
  refine lh_aload_n (q := 1) rfl rfl rfl ?_
  refine lh_aload_n (q := 0) rfl rfl rfl ?_
  refine lh_iload (q := 4) rfl rfl ?_
  refine lh_iconst rfl lh_k_1 ?_
  refine lh_iadd rfl ?_
  refine lh_scr (q := i) (k := 1) rfl (by decide) (by omega) hL ?_
  refine lh_cVi (N := m_LH_fill) (d := 2) (o := 0) (As := [.int (lh_xs Γ (i + 1))]) (st := []) rfl rfl v_LH_fill (hO.1.1 0 _ rfl) rfl rfl rfl ⟨rfl, rfl⟩ rfl (t_LH_fill hG hO.1 hO.2.2.1 hO.2.2.2.2.2.2.1 hO.2.2.2.2.1 hO.2.2.2.2.2.2.2.2.1 hf1 ?_)
  refine lh_aload_n (q := 2) rfl rfl rfl ?_
  refine lh_aload_n (q := 0) rfl rfl rfl ?_
  refine lh_iload (q := 4) rfl rfl ?_
  refine lh_iconst rfl lh_k_1 ?_
  refine lh_iadd rfl ?_
  refine lh_scr (q := i) (k := 1) rfl (by decide) (by omega) hL ?_
  refine lh_cVi (N := m_LM_fill) (d := 2) (o := 65) (As := [.int (lh_xs Γ (i + 1))]) (st := [.int r1.1]) rfl rfl v_LM_fill (hO.2.1.1 0 _ rfl) rfl rfl rfl ⟨rfl, rfl⟩ rfl (t_LM_fill hG hO.2.1 hf2 ?_)
  refine lh_icmp_eq rfl (fun _ => ?_) (fun c => absurd he c)
  exact lh_sw2 k_LLm rfl rfl rfl rfl rfl rfl kk
theorem lw_c13 {Γ : lh_Cx} {Z : List Frame → Array Value → State → State → Prop} {I : lh_II} {L : lh_LL} {F : lh_FF} {S : lh_SS} {a b a2 b2 bc bs i : Nat} {r1 : Int32 × lh_II} {r2 : Int32 × lh_II} (hG : lh_GX Γ) (hO : lh_ok F S a b a2 b2) (hL : lh_L Γ ≤ 3584) (hi : i + 6 < lh_L Γ) (hf1 : f_LH_undo a b I = some r1) (hf2 : f_LM_undo r1.2 = some r2) (he : r1.1 = r2.1) (kk : lh_G Γ m_LLm room_1 Z bc bs 13 [(0, .ref 0), (1, .ref (0 + 4)), (2, .ref (65 + 4)), (3, .ref (81 + 4)), (4, .int (nI i))] [] (r2.2, L, F, S)) : lh_G Γ m_LL13 room_1 Z bc bs 0 [(0, .ref 0), (1, .ref (0 + 4)), (2, .ref (65 + 4)), (3, .ref (81 + 4)), (4, .int (nI i))] [] (I, L, F, S) := by
  refine lh_aload_n (q := 1) rfl rfl rfl ?_
  refine lh_cVi (N := m_LH_undo) (d := 1) (o := 0) (As := []) (st := []) rfl rfl v_LH_undo (hO.1.1 0 _ rfl) rfl rfl rfl ⟨rfl, rfl⟩ rfl (t_LH_undo hG hO.1 hO.2.2.1 hO.2.2.2.2.2.2.1 hO.2.2.2.2.1 hO.2.2.2.2.2.2.2.2.1 hf1 ?_)
  refine lh_aload_n (q := 2) rfl rfl rfl ?_
  refine lh_cVi (N := m_LM_undo) (d := 1) (o := 65) (As := []) (st := [.int r1.1]) rfl rfl v_LM_undo (hO.2.1.1 0 _ rfl) rfl rfl rfl ⟨rfl, rfl⟩ rfl (t_LM_undo hG hO.2.1 hf2 ?_)
  refine lh_icmp_eq rfl (fun _ => ?_) (fun c => absurd he c)
  exact lh_sw2 k_LLm rfl rfl rfl rfl rfl rfl kk
theorem lw_c14 {Γ : lh_Cx} {Z : List Frame → Array Value → State → State → Prop} {I : lh_II} {L : lh_LL} {F : lh_FF} {S : lh_SS} {a b a2 b2 bc bs i : Nat} {r1 : Int32 × lh_II} {r2 : Int32 × lh_II} (hG : lh_GX Γ) (hO : lh_ok F S a b a2 b2) (hL : lh_L Γ ≤ 3584) (hi : i + 6 < lh_L Γ) (hf1 : f_LH_judged a b (lh_xs Γ (i + 1)) I = some r1) (hf2 : f_LM_judged (lh_xs Γ (i + 1)) r1.2 = some r2) (he : r1.1 = r2.1) (kk : lh_G Γ m_LLm room_1 Z bc bs 13 [(0, .ref 0), (1, .ref (0 + 4)), (2, .ref (65 + 4)), (3, .ref (81 + 4)), (4, .int (nI i))] [] (r2.2, L, F, S)) : lh_G Γ m_LL14 room_1 Z bc bs 0 [(0, .ref 0), (1, .ref (0 + 4)), (2, .ref (65 + 4)), (3, .ref (81 + 4)), (4, .int (nI i))] [] (I, L, F, S) := by
  refine lh_aload_n (q := 1) rfl rfl rfl ?_
  refine lh_aload_n (q := 0) rfl rfl rfl ?_
  refine lh_iload (q := 4) rfl rfl ?_
  refine lh_iconst rfl lh_k_1 ?_
  refine lh_iadd rfl ?_
  refine lh_scr (q := i) (k := 1) rfl (by decide) (by omega) hL ?_
  refine lh_cVi (N := m_LH_judged) (d := 7) (o := 0) (As := [.int (lh_xs Γ (i + 1))]) (st := []) rfl rfl v_LH_judged (hO.1.1 0 _ rfl) rfl rfl rfl ⟨rfl, rfl⟩ rfl (t_LH_judged hG hO.1 hO.2.2.1 hO.2.2.2.2.2.2.1 hO.2.2.2.2.1 hO.2.2.2.2.2.2.2.2.1 hf1 ?_)
  refine lh_aload_n (q := 2) rfl rfl rfl ?_
  refine lh_aload_n (q := 0) rfl rfl rfl ?_
  refine lh_iload (q := 4) rfl rfl ?_
  refine lh_iconst rfl lh_k_1 ?_
  refine lh_iadd rfl ?_
  refine lh_scr (q := i) (k := 1) rfl (by decide) (by omega) hL ?_
  refine lh_cVi (N := m_LM_judged) (d := 8) (o := 65) (As := [.int (lh_xs Γ (i + 1))]) (st := [.int r1.1]) rfl rfl v_LM_judged (hO.2.1.1 0 _ rfl) rfl rfl rfl ⟨rfl, rfl⟩ rfl (t_LM_judged hG hO.2.1 hf2 ?_)
  refine lh_icmp_eq rfl (fun _ => ?_) (fun c => absurd he c)
  exact lh_sw2 k_LLm rfl rfl rfl rfl rfl rfl kk
theorem lw_c15 {Γ : lh_Cx} {Z : List Frame → Array Value → State → State → Prop} {I : lh_II} {L : lh_LL} {F : lh_FF} {S : lh_SS} {a b a2 b2 bc bs i : Nat} {r1 : Int32 × lh_II × lh_LL} {r2 : Int32 × lh_II × lh_LL} (hG : lh_GX Γ) (hO : lh_ok F S a b a2 b2) (hL : lh_L Γ ≤ 3584) (hi : i + 6 < lh_L Γ) (hf1 : f_LH_shortest a b (lh_xs Γ (i + 1)) I L = some r1) (hf2 : f_LM_shortest (lh_xs Γ (i + 1)) r1.2.1 r1.2.2 = some r2) (he : r1.1 = r2.1) (kk : lh_G Γ m_LLm room_1 Z bc bs 13 [(0, .ref 0), (1, .ref (0 + 4)), (2, .ref (65 + 4)), (3, .ref (81 + 4)), (4, .int (nI i))] [] (r2.2.1, r2.2.2, F, S)) : lh_G Γ m_LL15 room_1 Z bc bs 0 [(0, .ref 0), (1, .ref (0 + 4)), (2, .ref (65 + 4)), (3, .ref (81 + 4)), (4, .int (nI i))] [] (I, L, F, S) := by
  refine lh_aload_n (q := 1) rfl rfl rfl ?_
  refine lh_aload_n (q := 0) rfl rfl rfl ?_
  refine lh_iload (q := 4) rfl rfl ?_
  refine lh_iconst rfl lh_k_1 ?_
  refine lh_iadd rfl ?_
  refine lh_scr (q := i) (k := 1) rfl (by decide) (by omega) hL ?_
  refine lh_cVi (N := m_LH_shortest) (d := 5) (o := 0) (As := [.int (lh_xs Γ (i + 1))]) (st := []) rfl rfl v_LH_shortest (hO.1.1 0 _ rfl) rfl rfl rfl ⟨rfl, rfl⟩ rfl (t_LH_shortest hG hO.1 hO.2.2.1 hO.2.2.2.2.2.2.1 hO.2.2.2.2.1 hO.2.2.2.2.2.2.2.2.1 hf1 ?_)
  refine lh_aload_n (q := 2) rfl rfl rfl ?_
  refine lh_aload_n (q := 0) rfl rfl rfl ?_
  refine lh_iload (q := 4) rfl rfl ?_
  refine lh_iconst rfl lh_k_1 ?_
  refine lh_iadd rfl ?_
  refine lh_scr (q := i) (k := 1) rfl (by decide) (by omega) hL ?_
  refine lh_cVi (N := m_LM_shortest) (d := 8) (o := 65) (As := [.int (lh_xs Γ (i + 1))]) (st := [.int r1.1]) rfl rfl v_LM_shortest (hO.2.1.1 0 _ rfl) rfl rfl rfl ⟨rfl, rfl⟩ rfl (t_LM_shortest hG hO.2.1 hf2 ?_)
  refine lh_icmp_eq rfl (fun _ => ?_) (fun c => absurd he c)
  exact lh_sw2 k_LLm rfl rfl rfl rfl rfl rfl kk
theorem lw_c16 {Γ : lh_Cx} {Z : List Frame → Array Value → State → State → Prop} {I : lh_II} {L : lh_LL} {F : lh_FF} {S : lh_SS} {a b a2 b2 bc bs i : Nat} {r1 : Int32} {r2 : Int32 × lh_II} (hG : lh_GX Γ) (hO : lh_ok F S a b a2 b2) (hL : lh_L Γ ≤ 3584) (hi : i + 6 < lh_L Γ) (hf1 : f_LH_cover a b I = some r1) (hf2 : f_LM_cover I = some r2) (he : r1 = r2.1) (kk : lh_G Γ m_LLm room_1 Z bc bs 13 [(0, .ref 0), (1, .ref (0 + 4)), (2, .ref (65 + 4)), (3, .ref (81 + 4)), (4, .int (nI i))] [] (r2.2, L, F, S)) : lh_G Γ m_LL16 room_1 Z bc bs 0 [(0, .ref 0), (1, .ref (0 + 4)), (2, .ref (65 + 4)), (3, .ref (81 + 4)), (4, .int (nI i))] [] (I, L, F, S) := by
  refine lh_aload_n (q := 1) rfl rfl rfl ?_
  refine lh_cVi (N := m_LH_cover) (d := 1) (o := 0) (As := []) (st := []) rfl rfl v_LH_cover (hO.1.1 0 _ rfl) rfl rfl rfl ⟨rfl, rfl⟩ rfl (t_LH_cover hG hO.1 hO.2.2.1 hO.2.2.2.2.2.2.1 hO.2.2.2.2.1 hO.2.2.2.2.2.2.2.2.1 hf1 ?_)
  refine lh_aload_n (q := 2) rfl rfl rfl ?_
  refine lh_cVi (N := m_LM_cover) (d := 3) (o := 65) (As := []) (st := [.int r1]) rfl rfl v_LM_cover (hO.2.1.1 0 _ rfl) rfl rfl rfl ⟨rfl, rfl⟩ rfl (t_LM_cover hG hO.2.1 hf2 ?_)
  refine lh_icmp_eq rfl (fun _ => ?_) (fun c => absurd he c)
  exact lh_sw2 k_LLm rfl rfl rfl rfl rfl rfl kk
theorem lw_c17 {Γ : lh_Cx} {Z : List Frame → Array Value → State → State → Prop} {I : lh_II} {L : lh_LL} {F : lh_FF} {S : lh_SS} {a b a2 b2 bc bs i : Nat} {r1 : Int32 × lh_II} {r2 : Int32 × lh_II} (hG : lh_GX Γ) (hO : lh_ok F S a b a2 b2) (hL : lh_L Γ ≤ 3584) (hi : i + 6 < lh_L Γ) (hf1 : f_LH_say a b (lh_xs Γ (i + 1)) (lh_xs Γ (i + 2)) ((if lh_xs Γ (i + 3) = 0 then 0 else 1)) I = some r1) (hf2 : f_LM_say (lh_xs Γ (i + 1)) (lh_xs Γ (i + 2)) ((if lh_xs Γ (i + 3) = 0 then 0 else 1)) r1.2 = some r2) (he : r1.1 = r2.1) (kk : lh_G Γ m_LLm room_1 Z bc bs 13 [(0, .ref 0), (1, .ref (0 + 4)), (2, .ref (65 + 4)), (3, .ref (81 + 4)), (4, .int (nI i))] [] (r2.2, L, F, S)) : lh_G Γ m_LL17 room_1 Z bc bs 0 [(0, .ref 0), (1, .ref (0 + 4)), (2, .ref (65 + 4)), (3, .ref (81 + 4)), (4, .int (nI i))] [] (I, L, F, S) := by
  refine lh_aload_n (q := 1) rfl rfl rfl ?_
  refine lh_aload_n (q := 0) rfl rfl rfl ?_
  refine lh_iload (q := 4) rfl rfl ?_
  refine lh_iconst rfl lh_k_1 ?_
  refine lh_iadd rfl ?_
  refine lh_scr (q := i) (k := 1) rfl (by decide) (by omega) hL ?_
  refine lh_aload_n (q := 0) rfl rfl rfl ?_
  refine lh_iload (q := 4) rfl rfl ?_
  refine lh_iconst rfl lh_k_2 ?_
  refine lh_iadd rfl ?_
  refine lh_scr (q := i) (k := 2) rfl (by decide) (by omega) hL ?_
  refine lh_aload_n (q := 0) rfl rfl rfl ?_
  refine lh_iload (q := 4) rfl rfl ?_
  refine lh_iconst rfl lh_k_3 ?_
  refine lh_iadd rfl ?_
  refine lh_scr (q := i) (k := 3) rfl (by decide) (by omega) hL ?_
  refine lh_if_eq rfl (fun cz => ?_) (fun cz => ?_)
  · rw [if_pos cz] at hf1 hf2
    refine lh_iconst rfl lh_k_0 ?_
    refine lh_cVi (N := m_LH_say) (d := 3) (o := 0) (As := [.int (lh_xs Γ (i + 1)), .int (lh_xs Γ (i + 2)), .int 0]) (st := []) rfl rfl v_LH_say (hO.1.1 0 _ rfl) rfl rfl rfl ⟨rfl, rfl⟩ rfl (t_LH_say hG hO.1 hO.2.2.1 hO.2.2.2.2.2.2.1 hO.2.2.2.2.1 hO.2.2.2.2.2.2.2.2.1 hf1 ?_)
    refine lh_aload_n (q := 2) rfl rfl rfl ?_
    refine lh_aload_n (q := 0) rfl rfl rfl ?_
    refine lh_iload (q := 4) rfl rfl ?_
    refine lh_iconst rfl lh_k_1 ?_
    refine lh_iadd rfl ?_
    refine lh_scr (q := i) (k := 1) rfl (by decide) (by omega) hL ?_
    refine lh_aload_n (q := 0) rfl rfl rfl ?_
    refine lh_iload (q := 4) rfl rfl ?_
    refine lh_iconst rfl lh_k_2 ?_
    refine lh_iadd rfl ?_
    refine lh_scr (q := i) (k := 2) rfl (by decide) (by omega) hL ?_
    refine lh_aload_n (q := 0) rfl rfl rfl ?_
    refine lh_iload (q := 4) rfl rfl ?_
    refine lh_iconst rfl lh_k_3 ?_
    refine lh_iadd rfl ?_
    refine lh_scr (q := i) (k := 3) rfl (by decide) (by omega) hL ?_
    refine lh_if_eq rfl (fun _ => ?_) (fun c => absurd cz c)
    refine lh_iconst rfl lh_k_0 ?_
    refine lh_cVi (N := m_LM_say) (d := 2) (o := 65) (As := [.int (lh_xs Γ (i + 1)), .int (lh_xs Γ (i + 2)), .int 0]) (st := [.int r1.1]) rfl rfl v_LM_say (hO.2.1.1 0 _ rfl) rfl rfl rfl ⟨rfl, rfl⟩ rfl (t_LM_say hG hO.2.1 hf2 ?_)
    refine lh_icmp_eq rfl (fun _ => ?_) (fun c => absurd he c)
    exact lh_sw2 k_LLm rfl rfl rfl rfl rfl rfl kk
  · rw [if_neg cz] at hf1 hf2
    refine lh_iconst rfl lh_k_1 ?_
    refine lh_goto rfl ?_
    refine lh_cVi (N := m_LH_say) (d := 3) (o := 0) (As := [.int (lh_xs Γ (i + 1)), .int (lh_xs Γ (i + 2)), .int 1]) (st := []) rfl rfl v_LH_say (hO.1.1 0 _ rfl) rfl rfl rfl ⟨rfl, rfl⟩ rfl (t_LH_say hG hO.1 hO.2.2.1 hO.2.2.2.2.2.2.1 hO.2.2.2.2.1 hO.2.2.2.2.2.2.2.2.1 hf1 ?_)
    refine lh_aload_n (q := 2) rfl rfl rfl ?_
    refine lh_aload_n (q := 0) rfl rfl rfl ?_
    refine lh_iload (q := 4) rfl rfl ?_
    refine lh_iconst rfl lh_k_1 ?_
    refine lh_iadd rfl ?_
    refine lh_scr (q := i) (k := 1) rfl (by decide) (by omega) hL ?_
    refine lh_aload_n (q := 0) rfl rfl rfl ?_
    refine lh_iload (q := 4) rfl rfl ?_
    refine lh_iconst rfl lh_k_2 ?_
    refine lh_iadd rfl ?_
    refine lh_scr (q := i) (k := 2) rfl (by decide) (by omega) hL ?_
    refine lh_aload_n (q := 0) rfl rfl rfl ?_
    refine lh_iload (q := 4) rfl rfl ?_
    refine lh_iconst rfl lh_k_3 ?_
    refine lh_iadd rfl ?_
    refine lh_scr (q := i) (k := 3) rfl (by decide) (by omega) hL ?_
    refine lh_if_eq rfl (fun c => absurd c cz) (fun _ => ?_)
    refine lh_iconst rfl lh_k_1 ?_
    refine lh_goto rfl ?_
    refine lh_cVi (N := m_LM_say) (d := 2) (o := 65) (As := [.int (lh_xs Γ (i + 1)), .int (lh_xs Γ (i + 2)), .int 1]) (st := [.int r1.1]) rfl rfl v_LM_say (hO.2.1.1 0 _ rfl) rfl rfl rfl ⟨rfl, rfl⟩ rfl (t_LM_say hG hO.2.1 hf2 ?_)
    refine lh_icmp_eq rfl (fun _ => ?_) (fun c => absurd he c)
    exact lh_sw2 k_LLm rfl rfl rfl rfl rfl rfl kk
theorem lw_c18 {Γ : lh_Cx} {Z : List Frame → Array Value → State → State → Prop} {I : lh_II} {L : lh_LL} {F : lh_FF} {S : lh_SS} {a b a2 b2 bc bs i : Nat} {r1 : Int32} {r2 : Int32 × lh_II} (hG : lh_GX Γ) (hO : lh_ok F S a b a2 b2) (hL : lh_L Γ ≤ 3584) (hi : i + 6 < lh_L Γ) (hf1 : f_LH_days a b I = some r1) (hf2 : f_LM_days I = some r2) (he : r1 = r2.1) (kk : lh_G Γ m_LLm room_1 Z bc bs 13 [(0, .ref 0), (1, .ref (0 + 4)), (2, .ref (65 + 4)), (3, .ref (81 + 4)), (4, .int (nI i))] [] (r2.2, L, F, S)) : lh_G Γ m_LL18 room_1 Z bc bs 0 [(0, .ref 0), (1, .ref (0 + 4)), (2, .ref (65 + 4)), (3, .ref (81 + 4)), (4, .int (nI i))] [] (I, L, F, S) := by
  refine lh_aload_n (q := 1) rfl rfl rfl ?_
  refine lh_cVi (N := m_LH_days) (d := 0) (o := 0) (As := []) (st := []) rfl rfl v_LH_days (hO.1.1 0 _ rfl) rfl rfl rfl ⟨rfl, rfl⟩ rfl (t_LH_days hG hO.1 hO.2.2.1 hO.2.2.2.2.2.2.1 hO.2.2.2.2.1 hO.2.2.2.2.2.2.2.2.1 hf1 ?_)
  refine lh_aload_n (q := 2) rfl rfl rfl ?_
  refine lh_cVi (N := m_LM_days) (d := 4) (o := 65) (As := []) (st := [.int r1]) rfl rfl v_LM_days (hO.2.1.1 0 _ rfl) rfl rfl rfl ⟨rfl, rfl⟩ rfl (t_LM_days hG hO.2.1 hf2 ?_)
  refine lh_icmp_eq rfl (fun _ => ?_) (fun c => absurd he c)
  exact lh_sw2 k_LLm rfl rfl rfl rfl rfl rfl kk
theorem lw_c19 {Γ : lh_Cx} {Z : List Frame → Array Value → State → State → Prop} {I : lh_II} {L : lh_LL} {F : lh_FF} {S : lh_SS} {a b a2 b2 bc bs i : Nat} {r1 : Int32} {r2 : Int32 × lh_II} (hG : lh_GX Γ) (hO : lh_ok F S a b a2 b2) (hL : lh_L Γ ≤ 3584) (hi : i + 6 < lh_L Γ) (hf1 : f_LH_ask a b I = some r1) (hf2 : f_LM_ask I = some r2) (he : r1 = r2.1) (kk : lh_G Γ m_LLm room_1 Z bc bs 13 [(0, .ref 0), (1, .ref (0 + 4)), (2, .ref (65 + 4)), (3, .ref (81 + 4)), (4, .int (nI i))] [] (r2.2, L, F, S)) : lh_G Γ m_LL19 room_1 Z bc bs 0 [(0, .ref 0), (1, .ref (0 + 4)), (2, .ref (65 + 4)), (3, .ref (81 + 4)), (4, .int (nI i))] [] (I, L, F, S) := by
  refine lh_aload_n (q := 1) rfl rfl rfl ?_
  refine lh_cVi (N := m_LH_ask) (d := 3) (o := 0) (As := []) (st := []) rfl rfl v_LH_ask (hO.1.1 0 _ rfl) rfl rfl rfl ⟨rfl, rfl⟩ rfl (t_LH_ask hG hO.1 hO.2.2.1 hO.2.2.2.2.2.2.1 hO.2.2.2.2.1 hO.2.2.2.2.2.2.2.2.1 hf1 ?_)
  refine lh_aload_n (q := 2) rfl rfl rfl ?_
  refine lh_cVi (N := m_LM_ask) (d := 4) (o := 65) (As := []) (st := [.int r1]) rfl rfl v_LM_ask (hO.2.1.1 0 _ rfl) rfl rfl rfl ⟨rfl, rfl⟩ rfl (t_LM_ask hG hO.2.1 hf2 ?_)
  refine lh_icmp_eq rfl (fun _ => ?_) (fun c => absurd he c)
  exact lh_sw2 k_LLm rfl rfl rfl rfl rfl rfl kk
theorem lw_c20 {Γ : lh_Cx} {Z : List Frame → Array Value → State → State → Prop} {I : lh_II} {L : lh_LL} {F : lh_FF} {S : lh_SS} {a b a2 b2 bc bs i : Nat} {r1 : Int32} {r2 : Int32 × lh_II} (hG : lh_GX Γ) (hO : lh_ok F S a b a2 b2) (hL : lh_L Γ ≤ 3584) (hi : i + 6 < lh_L Γ) (hf1 : f_LH_meet a b I = some r1) (hf2 : f_LM_meet I = some r2) (he : r1 = r2.1) (kk : lh_G Γ m_LLm room_1 Z bc bs 13 [(0, .ref 0), (1, .ref (0 + 4)), (2, .ref (65 + 4)), (3, .ref (81 + 4)), (4, .int (nI i))] [] (r2.2, L, F, S)) : lh_G Γ m_LL20 room_1 Z bc bs 0 [(0, .ref 0), (1, .ref (0 + 4)), (2, .ref (65 + 4)), (3, .ref (81 + 4)), (4, .int (nI i))] [] (I, L, F, S) := by
  refine lh_aload_n (q := 1) rfl rfl rfl ?_
  refine lh_cVi (N := m_LH_meet) (d := 2) (o := 0) (As := []) (st := []) rfl rfl v_LH_meet (hO.1.1 0 _ rfl) rfl rfl rfl ⟨rfl, rfl⟩ rfl (t_LH_meet hG hO.1 hO.2.2.1 hO.2.2.2.2.2.2.1 hO.2.2.2.2.1 hO.2.2.2.2.2.2.2.2.1 hf1 ?_)
  refine lh_aload_n (q := 2) rfl rfl rfl ?_
  refine lh_cVi (N := m_LM_meet) (d := 4) (o := 65) (As := []) (st := [.int r1]) rfl rfl v_LM_meet (hO.2.1.1 0 _ rfl) rfl rfl rfl ⟨rfl, rfl⟩ rfl (t_LM_meet hG hO.2.1 hf2 ?_)
  refine lh_icmp_eq rfl (fun _ => ?_) (fun c => absurd he c)
  exact lh_sw2 k_LLm rfl rfl rfl rfl rfl rfl kk
theorem lw_c21 {Γ : lh_Cx} {Z : List Frame → Array Value → State → State → Prop} {I : lh_II} {L : lh_LL} {F : lh_FF} {S : lh_SS} {a b a2 b2 bc bs i : Nat} {r1 : Int32} {r2 : Int32 × lh_II} (hG : lh_GX Γ) (hO : lh_ok F S a b a2 b2) (hL : lh_L Γ ≤ 3584) (hi : i + 6 < lh_L Γ) (hf1 : f_LH_never a b I = some r1) (hf2 : f_LM_never I = some r2) (he : r1 = r2.1) (kk : lh_G Γ m_LLm room_1 Z bc bs 13 [(0, .ref 0), (1, .ref (0 + 4)), (2, .ref (65 + 4)), (3, .ref (81 + 4)), (4, .int (nI i))] [] (r2.2, L, F, S)) : lh_G Γ m_LL21 room_1 Z bc bs 0 [(0, .ref 0), (1, .ref (0 + 4)), (2, .ref (65 + 4)), (3, .ref (81 + 4)), (4, .int (nI i))] [] (I, L, F, S) := by
  refine lh_aload_n (q := 1) rfl rfl rfl ?_
  refine lh_cVi (N := m_LH_never) (d := 2) (o := 0) (As := []) (st := []) rfl rfl v_LH_never (hO.1.1 0 _ rfl) rfl rfl rfl ⟨rfl, rfl⟩ rfl (t_LH_never hG hO.1 hO.2.2.1 hO.2.2.2.2.2.2.1 hO.2.2.2.2.1 hO.2.2.2.2.2.2.2.2.1 hf1 ?_)
  refine lh_aload_n (q := 2) rfl rfl rfl ?_
  refine lh_cVi (N := m_LM_never) (d := 4) (o := 65) (As := []) (st := [.int r1]) rfl rfl v_LM_never (hO.2.1.1 0 _ rfl) rfl rfl rfl ⟨rfl, rfl⟩ rfl (t_LM_never hG hO.2.1 hf2 ?_)
  refine lh_icmp_eq rfl (fun _ => ?_) (fun c => absurd he c)
  exact lh_sw2 k_LLm rfl rfl rfl rfl rfl rfl kk
