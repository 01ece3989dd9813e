/-! decompiled by program: f_.. the functions, t_.. that the methods do as they say -/
def f_LM_judged_19 (v1 : Int32) : Nat → Int32 → Int32 → Int32 → lh_II → Option (Int32 × Int32 × lh_II)
  | 0, _, _, _, _ => none
  | n + 1, v2, v3, v4, I => if (I (75 + 4) 0) ≤ v4 then some (v2, v3, I) else lh_gd (lh_ix (1 + (2 * v4)) 170) (lh_gd (lh_ix (2 + (2 * v4)) 170) (if (I (75 + 4) (1 + (2 * v4)).toNatClampNeg) = 3 then if (I (78 + 4) 676) ≤ 1 then if 0 ≤ v2 then if 3 ≤ (I (75 + 4) (1 + (2 * v4)).toNatClampNeg) then f_LM_judged_19 v1 n v2 v3 (v4 + 1) I else if (I (75 + 4) (1 + (2 * v4)).toNatClampNeg) = 0 then lh_bd (f_LM_steps (672 : Int32) (1 : Int32) I) fun r40 => if r40.1 ≤ 0 then f_LM_judged_19 v1 n v2 v3 (v4 + 1) r40.2 else if 0 ≤ v3 then f_LM_judged_19 v1 n v2 v3 (v4 + 1) r40.2 else f_LM_judged_19 v1 n v2 v4 (v4 + 1) r40.2 else if (I (75 + 4) (1 + (2 * v4)).toNatClampNeg) = 1 then lh_bd (f_LM_steps (672 : Int32) ((-1) : Int32) I) fun r36 => if r36.1 ≤ 0 then f_LM_judged_19 v1 n v2 v3 (v4 + 1) r36.2 else if 0 ≤ v3 then f_LM_judged_19 v1 n v2 v3 (v4 + 1) r36.2 else f_LM_judged_19 v1 n v2 v4 (v4 + 1) r36.2 else lh_bd (f_LM_steps (672 : Int32) (0 : Int32) I) fun r32 => if r32.1 ≤ 0 then f_LM_judged_19 v1 n v2 v3 (v4 + 1) r32.2 else if 0 ≤ v3 then f_LM_judged_19 v1 n v2 v3 (v4 + 1) r32.2 else f_LM_judged_19 v1 n v2 v4 (v4 + 1) r32.2 else if 3 ≤ (I (75 + 4) (1 + (2 * v4)).toNatClampNeg) then f_LM_judged_19 v1 n v4 v3 (v4 + 1) I else if (I (75 + 4) (1 + (2 * v4)).toNatClampNeg) = 0 then lh_bd (f_LM_steps (672 : Int32) (1 : Int32) I) fun r55 => if r55.1 ≤ 0 then f_LM_judged_19 v1 n v4 v3 (v4 + 1) r55.2 else if 0 ≤ v3 then f_LM_judged_19 v1 n v4 v3 (v4 + 1) r55.2 else f_LM_judged_19 v1 n v4 v4 (v4 + 1) r55.2 else if (I (75 + 4) (1 + (2 * v4)).toNatClampNeg) = 1 then lh_bd (f_LM_steps (672 : Int32) ((-1) : Int32) I) fun r51 => if r51.1 ≤ 0 then f_LM_judged_19 v1 n v4 v3 (v4 + 1) r51.2 else if 0 ≤ v3 then f_LM_judged_19 v1 n v4 v3 (v4 + 1) r51.2 else f_LM_judged_19 v1 n v4 v4 (v4 + 1) r51.2 else lh_bd (f_LM_steps (672 : Int32) (0 : Int32) I) fun r47 => if r47.1 ≤ 0 then f_LM_judged_19 v1 n v4 v3 (v4 + 1) r47.2 else if 0 ≤ v3 then f_LM_judged_19 v1 n v4 v3 (v4 + 1) r47.2 else f_LM_judged_19 v1 n v4 v4 (v4 + 1) r47.2 else if 3 ≤ (I (75 + 4) (1 + (2 * v4)).toNatClampNeg) then lh_bd (f_LM_trims (672 : Int32) (I (75 + 4) (2 + (2 * v4)).toNatClampNeg) I) fun r60 => f_LM_judged_19 v1 n v2 v3 (v4 + 1) r60 else if (I (75 + 4) (1 + (2 * v4)).toNatClampNeg) = 0 then lh_bd (f_LM_steps (672 : Int32) (1 : Int32) I) fun r72 => if r72.1 ≤ 0 then f_LM_judged_19 v1 n v2 v3 (v4 + 1) r72.2 else if 0 ≤ v3 then f_LM_judged_19 v1 n v2 v3 (v4 + 1) r72.2 else f_LM_judged_19 v1 n v2 v4 (v4 + 1) r72.2 else if (I (75 + 4) (1 + (2 * v4)).toNatClampNeg) = 1 then lh_bd (f_LM_steps (672 : Int32) ((-1) : Int32) I) fun r68 => if r68.1 ≤ 0 then f_LM_judged_19 v1 n v2 v3 (v4 + 1) r68.2 else if 0 ≤ v3 then f_LM_judged_19 v1 n v2 v3 (v4 + 1) r68.2 else f_LM_judged_19 v1 n v2 v4 (v4 + 1) r68.2 else lh_bd (f_LM_steps (672 : Int32) (0 : Int32) I) fun r64 => if r64.1 ≤ 0 then f_LM_judged_19 v1 n v2 v3 (v4 + 1) r64.2 else if 0 ≤ v3 then f_LM_judged_19 v1 n v2 v3 (v4 + 1) r64.2 else f_LM_judged_19 v1 n v2 v4 (v4 + 1) r64.2 else if 3 ≤ (I (75 + 4) (1 + (2 * v4)).toNatClampNeg) then lh_bd (f_LM_fills (672 : Int32) (I (75 + 4) (2 + (2 * v4)).toNatClampNeg) I) fun r11 => f_LM_judged_19 v1 n v2 v3 (v4 + 1) r11 else if (I (75 + 4) (1 + (2 * v4)).toNatClampNeg) = 0 then lh_bd (f_LM_steps (672 : Int32) (1 : Int32) I) fun r23 => if r23.1 ≤ 0 then f_LM_judged_19 v1 n v2 v3 (v4 + 1) r23.2 else if 0 ≤ v3 then f_LM_judged_19 v1 n v2 v3 (v4 + 1) r23.2 else f_LM_judged_19 v1 n v2 v4 (v4 + 1) r23.2 else if (I (75 + 4) (1 + (2 * v4)).toNatClampNeg) = 1 then lh_bd (f_LM_steps (672 : Int32) ((-1) : Int32) I) fun r19 => if r19.1 ≤ 0 then f_LM_judged_19 v1 n v2 v3 (v4 + 1) r19.2 else if 0 ≤ v3 then f_LM_judged_19 v1 n v2 v3 (v4 + 1) r19.2 else f_LM_judged_19 v1 n v2 v4 (v4 + 1) r19.2 else lh_bd (f_LM_steps (672 : Int32) (0 : Int32) I) fun r15 => if r15.1 ≤ 0 then f_LM_judged_19 v1 n v2 v3 (v4 + 1) r15.2 else if 0 ≤ v3 then f_LM_judged_19 v1 n v2 v3 (v4 + 1) r15.2 else f_LM_judged_19 v1 n v2 v4 (v4 + 1) r15.2))
def f_LM_judged (x1 : Int32) (I : lh_II) : Option (Int32 × lh_II) := lh_bd (f_LM_within x1 (0 : Int32) (2 : Int32)) fun r1 => if r1 = 0 then some ((-2), lh_u2 I (65 + 4) 0 0) else lh_bd (f_LM_starts (672 : Int32) (lh_u2 I (65 + 4) 0 0)) fun r4 => lh_bd (f_LM_judged_19 x1 lh_fuel (-1) (-1) 0 r4) fun r76 => if x1 = 0 then some (r76.1, r76.2.2) else if x1 = 1 then some (r76.2.1, r76.2.2) else some ((r76.2.2 (78 + 4) 678), r76.2.2)
theorem t_LM_judged_19 {Γ : lh_Cx} {F : lh_FF} {S : lh_SS} {Z : List Frame → Array Value → State → State → Prop} (hG : lh_GX Γ) (hS : lh_laym F S)  {v1 : Int32} {L : lh_LL} : ∀ (n : Nat) (v2 : Int32) (v3 : Int32) (v4 : Int32) (I : lh_II) (o : Int32 × Int32 × lh_II), f_LM_judged_19 v1 n v2 v3 v4 I = some o → ∀ (x0_ : lh_G Γ m_LM_judged (lh_R 8 0 0) Z 0 0 106 [(0, .ref (65 + 4)), (1, .int v1), (2, .int o.1), (3, .int o.2.1)] [] (o.2.2, L, F, S)), lh_G Γ m_LM_judged (lh_R 8 0 0) Z 0 0 19 [(0, .ref (65 + 4)), (1, .int v1), (2, .int v2), (3, .int v3), (4, .int v4)] [] (I, L, F, S) := by
  intro n
  induction n with
  | zero => intro v2 v3 v4 I o hf; cases hf
  | succ n ih =>
    intro v2 v3 v4 I o hf x0_
    rw [f_LM_judged_19] at hf
    refine lh_iload (q := 4) rfl rfl ?_
    refine lh_aload_n (q := 0) rfl rfl rfl ?_
    refine lh_getR4 rfl rfl (hS.1 0 _ rfl) rfl (hS.2 9 _ rfl) ?_
    refine lh_iconst rfl lh_k_0 ?_
    refine lh_iald5 (k := 0) rfl (hS.1 10 _ rfl) (by decide) (by decide) ?_
    refine lh_icmp_ge rfl (fun c6 => ?_) (fun c6 => ?_)
    · have hf := lh_ifT hf c6
      exact lh_less [0, 1, 2, 3] rfl (by cases hf; exact x0_)
    · have hf := lh_ifF hf c6
      refine lh_aload_n (q := 0) rfl rfl rfl ?_
      refine lh_getR4 rfl rfl (hS.1 0 _ rfl) rfl (hS.2 9 _ rfl) ?_
      refine lh_iconst rfl lh_k_1 ?_
      refine lh_iconst rfl lh_k_2 ?_
      refine lh_iload (q := 4) rfl rfl ?_
      refine lh_imul rfl ?_
      refine lh_iadd rfl ?_
      obtain ⟨g7, hf⟩ := lh_gdE hf
      refine lh_iald4 rfl (hS.1 10 _ rfl) g7 ?_
      refine lh_istore (lv' := [(0, .ref (65 + 4)), (1, .int v1), (2, .int v2), (3, .int v3), (4, .int v4), (5, .int (I (75 + 4) (1 + (2 * v4)).toNatClampNeg))]) rfl rfl rfl ?_
      refine lh_aload_n (q := 0) rfl rfl rfl ?_
      refine lh_getR4 rfl rfl (hS.1 0 _ rfl) rfl (hS.2 9 _ rfl) ?_
      refine lh_iconst rfl lh_k_2 ?_
      refine lh_iconst rfl lh_k_2 ?_
      refine lh_iload (q := 4) rfl rfl ?_
      refine lh_imul rfl ?_
      refine lh_iadd rfl ?_
      obtain ⟨g8, hf⟩ := lh_gdE hf
      refine lh_iald4 rfl (hS.1 10 _ rfl) g8 ?_
      refine lh_istore (lv' := [(0, .ref (65 + 4)), (1, .int v1), (2, .int v2), (3, .int v3), (4, .int v4), (5, .int (I (75 + 4) (1 + (2 * v4)).toNatClampNeg)), (6, .int (I (75 + 4) (2 + (2 * v4)).toNatClampNeg))]) rfl rfl rfl ?_
      refine lh_iload (q := 5) rfl rfl ?_
      refine lh_iconst rfl lh_k_3 ?_
      refine lh_icmp_ne rfl (fun c9 => ?_) (fun c9 => ?_)
      · have hf := lh_ifF hf c9
        refine lh_iconst rfl lh_k_1 ?_
        refine lh_goto rfl ?_
        refine lh_istore (lv' := [(0, .ref (65 + 4)), (1, .int v1), (2, .int v2), (3, .int v3), (4, .int v4), (5, .int (I (75 + 4) (1 + (2 * v4)).toNatClampNeg)), (6, .int (I (75 + 4) (2 + (2 * v4)).toNatClampNeg)), (7, .int 1)]) rfl rfl rfl ?_
        refine lh_iload (q := 7) rfl rfl ?_
        refine lh_if_ne rfl (fun _ => ?_) (fun c => absurd c (by decide)) 
        refine lh_iload_n (q := 2) rfl rfl rfl ?_
        refine lh_istore_n (lv' := [(0, .ref (65 + 4)), (1, .int v1), (2, .int v2), (3, .int v3), (4, .int v4), (5, .int (I (75 + 4) (1 + (2 * v4)).toNatClampNeg)), (6, .int (I (75 + 4) (2 + (2 * v4)).toNatClampNeg)), (7, .int 1)]) rfl rfl rfl rfl ?_
        refine lh_iload (q := 5) rfl rfl ?_
        refine lh_iconst rfl lh_k_3 ?_
        refine lh_icmp_ge rfl (fun c10 => ?_) (fun c10 => ?_)
        · have hf := lh_ifT hf c10
          refine lh_iload (q := 7) rfl rfl ?_
          refine lh_if_eq rfl (fun c => absurd c (by decide)) (fun _ => ?_)
          refine lh_iload (q := 5) rfl rfl ?_
          refine lh_iconst rfl lh_k_3 ?_
          refine lh_icmp_ne rfl (fun _ => ?_) (fun c => absurd c c9)
          refine lh_iload (q := 7) rfl rfl ?_
          refine lh_if_eq rfl (fun c => absurd c (by decide)) (fun _ => ?_)
          refine lh_aload_n (q := 0) rfl rfl rfl ?_
          refine lh_sipush rfl lh_s_672 ?_
          refine lh_iload (q := 6) rfl rfl ?_
          refine lh_bdE hf (fun r11 e12 hf => ?_)
          refine lh_cVv (N := m_LM_fills) (d := 0) (o := 65) (As := [.int 672, .int (I (75 + 4) (2 + (2 * v4)).toNatClampNeg)]) (st := []) rfl rfl v_LM_fills (hS.1 0 _ rfl) rfl rfl rfl ⟨rfl, rfl⟩ rfl (t_LM_fills hG hS e12 ?_)
          refine lh_iinc (q := 4) (v := (v4 + 1)) (lv' := [(0, .ref (65 + 4)), (1, .int v1), (2, .int v2), (3, .int v3), (4, .int (v4 + 1)), (5, .int (I (75 + 4) (1 + (2 * v4)).toNatClampNeg)), (6, .int (I (75 + 4) (2 + (2 * v4)).toNatClampNeg)), (7, .int 1)]) rfl rfl (congrArg (v4 + ·) (by decide)) rfl rfl ?_
          refine lh_goto rfl ?_
          refine lh_less [0, 1, 2, 3, 4] rfl ?_
          exact ih v2 v3 (v4 + 1) r11 _ hf x0_
        · have hf := lh_ifF hf c10
          refine lh_aload_n (q := 0) rfl rfl rfl ?_
          refine lh_sipush rfl lh_s_672 ?_
          refine lh_iload (q := 5) rfl rfl ?_
          refine lh_if_ne rfl (fun c13 => ?_) (fun c13 => ?_)
          · have hf := lh_ifF hf c13
            refine lh_iload (q := 5) rfl rfl ?_
            refine lh_iconst rfl lh_k_1 ?_
            refine lh_icmp_ne rfl (fun c14 => ?_) (fun c14 => ?_)
            · have hf := lh_ifF hf c14
              refine lh_iconst rfl lh_k_0 ?_
              refine lh_bdE hf (fun r15 e16 hf => ?_)
              refine lh_cVi (N := m_LM_steps) (d := 7) (o := 65) (As := [.int 672, .int 0]) (st := []) rfl rfl v_LM_steps (hS.1 0 _ rfl) rfl rfl rfl ⟨rfl, rfl⟩ rfl (t_LM_steps hG hS e16 ?_)
              refine lh_if_le rfl (fun c17 => ?_) (fun c17 => ?_)
              · have hf := lh_ifT hf c17
                refine lh_iload_n (q := 3) rfl rfl rfl ?_
                refine lh_istore_n (lv' := [(0, .ref (65 + 4)), (1, .int v1), (2, .int v2), (3, .int v3), (4, .int v4), (5, .int (I (75 + 4) (1 + (2 * v4)).toNatClampNeg)), (6, .int (I (75 + 4) (2 + (2 * v4)).toNatClampNeg)), (7, .int 1)]) rfl rfl rfl rfl ?_
                refine lh_goto rfl ?_
                refine lh_iinc (q := 4) (v := (v4 + 1)) (lv' := [(0, .ref (65 + 4)), (1, .int v1), (2, .int v2), (3, .int v3), (4, .int (v4 + 1)), (5, .int (I (75 + 4) (1 + (2 * v4)).toNatClampNeg)), (6, .int (I (75 + 4) (2 + (2 * v4)).toNatClampNeg)), (7, .int 1)]) rfl rfl (congrArg (v4 + ·) (by decide)) rfl rfl ?_
                refine lh_goto rfl ?_
                refine lh_less [0, 1, 2, 3, 4] rfl ?_
                exact ih v2 v3 (v4 + 1) r15.2 _ hf x0_
              · have hf := lh_ifF hf c17
                refine lh_iload_n (q := 3) rfl rfl rfl ?_
                refine lh_if_ge rfl (fun c18 => ?_) (fun c18 => ?_)
                · have hf := lh_ifT hf c18
                  refine lh_iload_n (q := 3) rfl rfl rfl ?_
                  refine lh_istore_n (lv' := [(0, .ref (65 + 4)), (1, .int v1), (2, .int v2), (3, .int v3), (4, .int v4), (5, .int (I (75 + 4) (1 + (2 * v4)).toNatClampNeg)), (6, .int (I (75 + 4) (2 + (2 * v4)).toNatClampNeg)), (7, .int 1)]) rfl rfl rfl rfl ?_
                  refine lh_goto rfl ?_
                  refine lh_iinc (q := 4) (v := (v4 + 1)) (lv' := [(0, .ref (65 + 4)), (1, .int v1), (2, .int v2), (3, .int v3), (4, .int (v4 + 1)), (5, .int (I (75 + 4) (1 + (2 * v4)).toNatClampNeg)), (6, .int (I (75 + 4) (2 + (2 * v4)).toNatClampNeg)), (7, .int 1)]) rfl rfl (congrArg (v4 + ·) (by decide)) rfl rfl ?_
                  refine lh_goto rfl ?_
                  refine lh_less [0, 1, 2, 3, 4] rfl ?_
                  exact ih v2 v3 (v4 + 1) r15.2 _ hf x0_
                · have hf := lh_ifF hf c18
                  refine lh_iload (q := 4) rfl rfl ?_
                  refine lh_goto rfl ?_
                  refine lh_istore_n (lv' := [(0, .ref (65 + 4)), (1, .int v1), (2, .int v2), (3, .int v4), (4, .int v4), (5, .int (I (75 + 4) (1 + (2 * v4)).toNatClampNeg)), (6, .int (I (75 + 4) (2 + (2 * v4)).toNatClampNeg)), (7, .int 1)]) rfl rfl rfl rfl ?_
                  refine lh_goto rfl ?_
                  refine lh_iinc (q := 4) (v := (v4 + 1)) (lv' := [(0, .ref (65 + 4)), (1, .int v1), (2, .int v2), (3, .int v4), (4, .int (v4 + 1)), (5, .int (I (75 + 4) (1 + (2 * v4)).toNatClampNeg)), (6, .int (I (75 + 4) (2 + (2 * v4)).toNatClampNeg)), (7, .int 1)]) rfl rfl (congrArg (v4 + ·) (by decide)) rfl rfl ?_
                  refine lh_goto rfl ?_
                  refine lh_less [0, 1, 2, 3, 4] rfl ?_
                  exact ih v2 v4 (v4 + 1) r15.2 _ hf x0_
            · have hf := lh_ifT hf c14
              refine lh_iconst rfl lh_k_m1 ?_
              refine lh_goto rfl ?_
              refine lh_bdE hf (fun r19 e20 hf => ?_)
              refine lh_cVi (N := m_LM_steps) (d := 7) (o := 65) (As := [.int 672, .int (-1)]) (st := []) rfl rfl v_LM_steps (hS.1 0 _ rfl) rfl rfl rfl ⟨rfl, rfl⟩ rfl (t_LM_steps hG hS e20 ?_)
              refine lh_if_le rfl (fun c21 => ?_) (fun c21 => ?_)
              · have hf := lh_ifT hf c21
                refine lh_iload_n (q := 3) rfl rfl rfl ?_
                refine lh_istore_n (lv' := [(0, .ref (65 + 4)), (1, .int v1), (2, .int v2), (3, .int v3), (4, .int v4), (5, .int (I (75 + 4) (1 + (2 * v4)).toNatClampNeg)), (6, .int (I (75 + 4) (2 + (2 * v4)).toNatClampNeg)), (7, .int 1)]) rfl rfl rfl rfl ?_
                refine lh_goto rfl ?_
                refine lh_iinc (q := 4) (v := (v4 + 1)) (lv' := [(0, .ref (65 + 4)), (1, .int v1), (2, .int v2), (3, .int v3), (4, .int (v4 + 1)), (5, .int (I (75 + 4) (1 + (2 * v4)).toNatClampNeg)), (6, .int (I (75 + 4) (2 + (2 * v4)).toNatClampNeg)), (7, .int 1)]) rfl rfl (congrArg (v4 + ·) (by decide)) rfl rfl ?_
                refine lh_goto rfl ?_
                refine lh_less [0, 1, 2, 3, 4] rfl ?_
                exact ih v2 v3 (v4 + 1) r19.2 _ hf x0_
              · have hf := lh_ifF hf c21
                refine lh_iload_n (q := 3) rfl rfl rfl ?_
                refine lh_if_ge rfl (fun c22 => ?_) (fun c22 => ?_)
                · have hf := lh_ifT hf c22
                  refine lh_iload_n (q := 3) rfl rfl rfl ?_
                  refine lh_istore_n (lv' := [(0, .ref (65 + 4)), (1, .int v1), (2, .int v2), (3, .int v3), (4, .int v4), (5, .int (I (75 + 4) (1 + (2 * v4)).toNatClampNeg)), (6, .int (I (75 + 4) (2 + (2 * v4)).toNatClampNeg)), (7, .int 1)]) rfl rfl rfl rfl ?_
                  refine lh_goto rfl ?_
                  refine lh_iinc (q := 4) (v := (v4 + 1)) (lv' := [(0, .ref (65 + 4)), (1, .int v1), (2, .int v2), (3, .int v3), (4, .int (v4 + 1)), (5, .int (I (75 + 4) (1 + (2 * v4)).toNatClampNeg)), (6, .int (I (75 + 4) (2 + (2 * v4)).toNatClampNeg)), (7, .int 1)]) rfl rfl (congrArg (v4 + ·) (by decide)) rfl rfl ?_
                  refine lh_goto rfl ?_
                  refine lh_less [0, 1, 2, 3, 4] rfl ?_
                  exact ih v2 v3 (v4 + 1) r19.2 _ hf x0_
                · have hf := lh_ifF hf c22
                  refine lh_iload (q := 4) rfl rfl ?_
                  refine lh_goto rfl ?_
                  refine lh_istore_n (lv' := [(0, .ref (65 + 4)), (1, .int v1), (2, .int v2), (3, .int v4), (4, .int v4), (5, .int (I (75 + 4) (1 + (2 * v4)).toNatClampNeg)), (6, .int (I (75 + 4) (2 + (2 * v4)).toNatClampNeg)), (7, .int 1)]) rfl rfl rfl rfl ?_
                  refine lh_goto rfl ?_
                  refine lh_iinc (q := 4) (v := (v4 + 1)) (lv' := [(0, .ref (65 + 4)), (1, .int v1), (2, .int v2), (3, .int v4), (4, .int (v4 + 1)), (5, .int (I (75 + 4) (1 + (2 * v4)).toNatClampNeg)), (6, .int (I (75 + 4) (2 + (2 * v4)).toNatClampNeg)), (7, .int 1)]) rfl rfl (congrArg (v4 + ·) (by decide)) rfl rfl ?_
                  refine lh_goto rfl ?_
                  refine lh_less [0, 1, 2, 3, 4] rfl ?_
                  exact ih v2 v4 (v4 + 1) r19.2 _ hf x0_
          · have hf := lh_ifT hf c13
            refine lh_iconst rfl lh_k_1 ?_
            refine lh_goto rfl ?_
            refine lh_bdE hf (fun r23 e24 hf => ?_)
            refine lh_cVi (N := m_LM_steps) (d := 7) (o := 65) (As := [.int 672, .int 1]) (st := []) rfl rfl v_LM_steps (hS.1 0 _ rfl) rfl rfl rfl ⟨rfl, rfl⟩ rfl (t_LM_steps hG hS e24 ?_)
            refine lh_if_le rfl (fun c25 => ?_) (fun c25 => ?_)
            · have hf := lh_ifT hf c25
              refine lh_iload_n (q := 3) rfl rfl rfl ?_
              refine lh_istore_n (lv' := [(0, .ref (65 + 4)), (1, .int v1), (2, .int v2), (3, .int v3), (4, .int v4), (5, .int (I (75 + 4) (1 + (2 * v4)).toNatClampNeg)), (6, .int (I (75 + 4) (2 + (2 * v4)).toNatClampNeg)), (7, .int 1)]) rfl rfl rfl rfl ?_
              refine lh_goto rfl ?_
              refine lh_iinc (q := 4) (v := (v4 + 1)) (lv' := [(0, .ref (65 + 4)), (1, .int v1), (2, .int v2), (3, .int v3), (4, .int (v4 + 1)), (5, .int (I (75 + 4) (1 + (2 * v4)).toNatClampNeg)), (6, .int (I (75 + 4) (2 + (2 * v4)).toNatClampNeg)), (7, .int 1)]) rfl rfl (congrArg (v4 + ·) (by decide)) rfl rfl ?_
              refine lh_goto rfl ?_
              refine lh_less [0, 1, 2, 3, 4] rfl ?_
              exact ih v2 v3 (v4 + 1) r23.2 _ hf x0_
            · have hf := lh_ifF hf c25
              refine lh_iload_n (q := 3) rfl rfl rfl ?_
              refine lh_if_ge rfl (fun c26 => ?_) (fun c26 => ?_)
              · have hf := lh_ifT hf c26
                refine lh_iload_n (q := 3) rfl rfl rfl ?_
                refine lh_istore_n (lv' := [(0, .ref (65 + 4)), (1, .int v1), (2, .int v2), (3, .int v3), (4, .int v4), (5, .int (I (75 + 4) (1 + (2 * v4)).toNatClampNeg)), (6, .int (I (75 + 4) (2 + (2 * v4)).toNatClampNeg)), (7, .int 1)]) rfl rfl rfl rfl ?_
                refine lh_goto rfl ?_
                refine lh_iinc (q := 4) (v := (v4 + 1)) (lv' := [(0, .ref (65 + 4)), (1, .int v1), (2, .int v2), (3, .int v3), (4, .int (v4 + 1)), (5, .int (I (75 + 4) (1 + (2 * v4)).toNatClampNeg)), (6, .int (I (75 + 4) (2 + (2 * v4)).toNatClampNeg)), (7, .int 1)]) rfl rfl (congrArg (v4 + ·) (by decide)) rfl rfl ?_
                refine lh_goto rfl ?_
                refine lh_less [0, 1, 2, 3, 4] rfl ?_
                exact ih v2 v3 (v4 + 1) r23.2 _ hf x0_
              · have hf := lh_ifF hf c26
                refine lh_iload (q := 4) rfl rfl ?_
                refine lh_goto rfl ?_
                refine lh_istore_n (lv' := [(0, .ref (65 + 4)), (1, .int v1), (2, .int v2), (3, .int v4), (4, .int v4), (5, .int (I (75 + 4) (1 + (2 * v4)).toNatClampNeg)), (6, .int (I (75 + 4) (2 + (2 * v4)).toNatClampNeg)), (7, .int 1)]) rfl rfl rfl rfl ?_
                refine lh_goto rfl ?_
                refine lh_iinc (q := 4) (v := (v4 + 1)) (lv' := [(0, .ref (65 + 4)), (1, .int v1), (2, .int v2), (3, .int v4), (4, .int (v4 + 1)), (5, .int (I (75 + 4) (1 + (2 * v4)).toNatClampNeg)), (6, .int (I (75 + 4) (2 + (2 * v4)).toNatClampNeg)), (7, .int 1)]) rfl rfl (congrArg (v4 + ·) (by decide)) rfl rfl ?_
                refine lh_goto rfl ?_
                refine lh_less [0, 1, 2, 3, 4] rfl ?_
                exact ih v2 v4 (v4 + 1) r23.2 _ hf x0_
      · have hf := lh_ifT hf c9
        refine lh_aload_n (q := 0) rfl rfl rfl ?_
        refine lh_getR4 rfl rfl (hS.1 0 _ rfl) rfl (hS.2 12 _ rfl) ?_
        refine lh_sipush rfl lh_s_676 ?_
        refine lh_iald5 (k := 676) rfl (hS.1 13 _ rfl) (by decide) (by decide) ?_
        refine lh_iconst rfl lh_k_1 ?_
        refine lh_icmp_le rfl (fun c27 => ?_) (fun c27 => ?_)
        · have hf := lh_ifT hf c27
          refine lh_iconst rfl lh_k_0 ?_
          refine lh_istore (lv' := [(0, .ref (65 + 4)), (1, .int v1), (2, .int v2), (3, .int v3), (4, .int v4), (5, .int (I (75 + 4) (1 + (2 * v4)).toNatClampNeg)), (6, .int (I (75 + 4) (2 + (2 * v4)).toNatClampNeg)), (7, .int 0)]) rfl rfl rfl ?_
          refine lh_iload (q := 7) rfl rfl ?_
          refine lh_if_ne rfl (fun c => absurd (by decide) c) (fun _ => ?_)
          refine lh_iload_n (q := 2) rfl rfl rfl ?_
          refine lh_if_ge rfl (fun c28 => ?_) (fun c28 => ?_)
          · have hf := lh_ifT hf c28
            refine lh_iload_n (q := 2) rfl rfl rfl ?_
            refine lh_istore_n (lv' := [(0, .ref (65 + 4)), (1, .int v1), (2, .int v2), (3, .int v3), (4, .int v4), (5, .int (I (75 + 4) (1 + (2 * v4)).toNatClampNeg)), (6, .int (I (75 + 4) (2 + (2 * v4)).toNatClampNeg)), (7, .int 0)]) rfl rfl rfl rfl ?_
            refine lh_iload (q := 5) rfl rfl ?_
            refine lh_iconst rfl lh_k_3 ?_
            refine lh_icmp_ge rfl (fun c29 => ?_) (fun c29 => ?_)
            · have hf := lh_ifT hf c29
              refine lh_iload (q := 7) rfl rfl ?_
              refine lh_if_eq rfl (fun _ => ?_) (fun c => absurd (by decide) c) 
              refine lh_iload (q := 7) rfl rfl ?_
              refine lh_if_eq rfl (fun _ => ?_) (fun c => absurd (by decide) c) 
              refine lh_iinc (q := 4) (v := (v4 + 1)) (lv' := [(0, .ref (65 + 4)), (1, .int v1), (2, .int v2), (3, .int v3), (4, .int (v4 + 1)), (5, .int (I (75 + 4) (1 + (2 * v4)).toNatClampNeg)), (6, .int (I (75 + 4) (2 + (2 * v4)).toNatClampNeg)), (7, .int 0)]) rfl rfl (congrArg (v4 + ·) (by decide)) rfl rfl ?_
              refine lh_goto rfl ?_
              refine lh_less [0, 1, 2, 3, 4] rfl ?_
              exact ih v2 v3 (v4 + 1) I _ hf x0_
            · have hf := lh_ifF hf c29
              refine lh_aload_n (q := 0) rfl rfl rfl ?_
              refine lh_sipush rfl lh_s_672 ?_
              refine lh_iload (q := 5) rfl rfl ?_
              refine lh_if_ne rfl (fun c30 => ?_) (fun c30 => ?_)
              · have hf := lh_ifF hf c30
                refine lh_iload (q := 5) rfl rfl ?_
                refine lh_iconst rfl lh_k_1 ?_
                refine lh_icmp_ne rfl (fun c31 => ?_) (fun c31 => ?_)
                · have hf := lh_ifF hf c31
                  refine lh_iconst rfl lh_k_0 ?_
                  refine lh_bdE hf (fun r32 e33 hf => ?_)
                  refine lh_cVi (N := m_LM_steps) (d := 7) (o := 65) (As := [.int 672, .int 0]) (st := []) rfl rfl v_LM_steps (hS.1 0 _ rfl) rfl rfl rfl ⟨rfl, rfl⟩ rfl (t_LM_steps hG hS e33 ?_)
                  refine lh_if_le rfl (fun c34 => ?_) (fun c34 => ?_)
                  · have hf := lh_ifT hf c34
                    refine lh_iload_n (q := 3) rfl rfl rfl ?_
                    refine lh_istore_n (lv' := [(0, .ref (65 + 4)), (1, .int v1), (2, .int v2), (3, .int v3), (4, .int v4), (5, .int (I (75 + 4) (1 + (2 * v4)).toNatClampNeg)), (6, .int (I (75 + 4) (2 + (2 * v4)).toNatClampNeg)), (7, .int 0)]) rfl rfl rfl rfl ?_
                    refine lh_goto rfl ?_
                    refine lh_iinc (q := 4) (v := (v4 + 1)) (lv' := [(0, .ref (65 + 4)), (1, .int v1), (2, .int v2), (3, .int v3), (4, .int (v4 + 1)), (5, .int (I (75 + 4) (1 + (2 * v4)).toNatClampNeg)), (6, .int (I (75 + 4) (2 + (2 * v4)).toNatClampNeg)), (7, .int 0)]) rfl rfl (congrArg (v4 + ·) (by decide)) rfl rfl ?_
                    refine lh_goto rfl ?_
                    refine lh_less [0, 1, 2, 3, 4] rfl ?_
                    exact ih v2 v3 (v4 + 1) r32.2 _ hf x0_
                  · have hf := lh_ifF hf c34
                    refine lh_iload_n (q := 3) rfl rfl rfl ?_
                    refine lh_if_ge rfl (fun c35 => ?_) (fun c35 => ?_)
                    · have hf := lh_ifT hf c35
                      refine lh_iload_n (q := 3) rfl rfl rfl ?_
                      refine lh_istore_n (lv' := [(0, .ref (65 + 4)), (1, .int v1), (2, .int v2), (3, .int v3), (4, .int v4), (5, .int (I (75 + 4) (1 + (2 * v4)).toNatClampNeg)), (6, .int (I (75 + 4) (2 + (2 * v4)).toNatClampNeg)), (7, .int 0)]) rfl rfl rfl rfl ?_
                      refine lh_goto rfl ?_
                      refine lh_iinc (q := 4) (v := (v4 + 1)) (lv' := [(0, .ref (65 + 4)), (1, .int v1), (2, .int v2), (3, .int v3), (4, .int (v4 + 1)), (5, .int (I (75 + 4) (1 + (2 * v4)).toNatClampNeg)), (6, .int (I (75 + 4) (2 + (2 * v4)).toNatClampNeg)), (7, .int 0)]) rfl rfl (congrArg (v4 + ·) (by decide)) rfl rfl ?_
                      refine lh_goto rfl ?_
                      refine lh_less [0, 1, 2, 3, 4] rfl ?_
                      exact ih v2 v3 (v4 + 1) r32.2 _ hf x0_
                    · have hf := lh_ifF hf c35
                      refine lh_iload (q := 4) rfl rfl ?_
                      refine lh_goto rfl ?_
                      refine lh_istore_n (lv' := [(0, .ref (65 + 4)), (1, .int v1), (2, .int v2), (3, .int v4), (4, .int v4), (5, .int (I (75 + 4) (1 + (2 * v4)).toNatClampNeg)), (6, .int (I (75 + 4) (2 + (2 * v4)).toNatClampNeg)), (7, .int 0)]) rfl rfl rfl rfl ?_
                      refine lh_goto rfl ?_
                      refine lh_iinc (q := 4) (v := (v4 + 1)) (lv' := [(0, .ref (65 + 4)), (1, .int v1), (2, .int v2), (3, .int v4), (4, .int (v4 + 1)), (5, .int (I (75 + 4) (1 + (2 * v4)).toNatClampNeg)), (6, .int (I (75 + 4) (2 + (2 * v4)).toNatClampNeg)), (7, .int 0)]) rfl rfl (congrArg (v4 + ·) (by decide)) rfl rfl ?_
                      refine lh_goto rfl ?_
                      refine lh_less [0, 1, 2, 3, 4] rfl ?_
                      exact ih v2 v4 (v4 + 1) r32.2 _ hf x0_
                · have hf := lh_ifT hf c31
                  refine lh_iconst rfl lh_k_m1 ?_
                  refine lh_goto rfl ?_
                  refine lh_bdE hf (fun r36 e37 hf => ?_)
                  refine lh_cVi (N := m_LM_steps) (d := 7) (o := 65) (As := [.int 672, .int (-1)]) (st := []) rfl rfl v_LM_steps (hS.1 0 _ rfl) rfl rfl rfl ⟨rfl, rfl⟩ rfl (t_LM_steps hG hS e37 ?_)
                  refine lh_if_le rfl (fun c38 => ?_) (fun c38 => ?_)
                  · have hf := lh_ifT hf c38
                    refine lh_iload_n (q := 3) rfl rfl rfl ?_
                    refine lh_istore_n (lv' := [(0, .ref (65 + 4)), (1, .int v1), (2, .int v2), (3, .int v3), (4, .int v4), (5, .int (I (75 + 4) (1 + (2 * v4)).toNatClampNeg)), (6, .int (I (75 + 4) (2 + (2 * v4)).toNatClampNeg)), (7, .int 0)]) rfl rfl rfl rfl ?_
                    refine lh_goto rfl ?_
                    refine lh_iinc (q := 4) (v := (v4 + 1)) (lv' := [(0, .ref (65 + 4)), (1, .int v1), (2, .int v2), (3, .int v3), (4, .int (v4 + 1)), (5, .int (I (75 + 4) (1 + (2 * v4)).toNatClampNeg)), (6, .int (I (75 + 4) (2 + (2 * v4)).toNatClampNeg)), (7, .int 0)]) rfl rfl (congrArg (v4 + ·) (by decide)) rfl rfl ?_
                    refine lh_goto rfl ?_
                    refine lh_less [0, 1, 2, 3, 4] rfl ?_
                    exact ih v2 v3 (v4 + 1) r36.2 _ hf x0_
                  · have hf := lh_ifF hf c38
                    refine lh_iload_n (q := 3) rfl rfl rfl ?_
                    refine lh_if_ge rfl (fun c39 => ?_) (fun c39 => ?_)
                    · have hf := lh_ifT hf c39
                      refine lh_iload_n (q := 3) rfl rfl rfl ?_
                      refine lh_istore_n (lv' := [(0, .ref (65 + 4)), (1, .int v1), (2, .int v2), (3, .int v3), (4, .int v4), (5, .int (I (75 + 4) (1 + (2 * v4)).toNatClampNeg)), (6, .int (I (75 + 4) (2 + (2 * v4)).toNatClampNeg)), (7, .int 0)]) rfl rfl rfl rfl ?_
                      refine lh_goto rfl ?_
                      refine lh_iinc (q := 4) (v := (v4 + 1)) (lv' := [(0, .ref (65 + 4)), (1, .int v1), (2, .int v2), (3, .int v3), (4, .int (v4 + 1)), (5, .int (I (75 + 4) (1 + (2 * v4)).toNatClampNeg)), (6, .int (I (75 + 4) (2 + (2 * v4)).toNatClampNeg)), (7, .int 0)]) rfl rfl (congrArg (v4 + ·) (by decide)) rfl rfl ?_
                      refine lh_goto rfl ?_
                      refine lh_less [0, 1, 2, 3, 4] rfl ?_
                      exact ih v2 v3 (v4 + 1) r36.2 _ hf x0_
                    · have hf := lh_ifF hf c39
                      refine lh_iload (q := 4) rfl rfl ?_
                      refine lh_goto rfl ?_
                      refine lh_istore_n (lv' := [(0, .ref (65 + 4)), (1, .int v1), (2, .int v2), (3, .int v4), (4, .int v4), (5, .int (I (75 + 4) (1 + (2 * v4)).toNatClampNeg)), (6, .int (I (75 + 4) (2 + (2 * v4)).toNatClampNeg)), (7, .int 0)]) rfl rfl rfl rfl ?_
                      refine lh_goto rfl ?_
                      refine lh_iinc (q := 4) (v := (v4 + 1)) (lv' := [(0, .ref (65 + 4)), (1, .int v1), (2, .int v2), (3, .int v4), (4, .int (v4 + 1)), (5, .int (I (75 + 4) (1 + (2 * v4)).toNatClampNeg)), (6, .int (I (75 + 4) (2 + (2 * v4)).toNatClampNeg)), (7, .int 0)]) rfl rfl (congrArg (v4 + ·) (by decide)) rfl rfl ?_
                      refine lh_goto rfl ?_
                      refine lh_less [0, 1, 2, 3, 4] rfl ?_
                      exact ih v2 v4 (v4 + 1) r36.2 _ hf x0_
              · have hf := lh_ifT hf c30
                refine lh_iconst rfl lh_k_1 ?_
                refine lh_goto rfl ?_
                refine lh_bdE hf (fun r40 e41 hf => ?_)
                refine lh_cVi (N := m_LM_steps) (d := 7) (o := 65) (As := [.int 672, .int 1]) (st := []) rfl rfl v_LM_steps (hS.1 0 _ rfl) rfl rfl rfl ⟨rfl, rfl⟩ rfl (t_LM_steps hG hS e41 ?_)
                refine lh_if_le rfl (fun c42 => ?_) (fun c42 => ?_)
                · have hf := lh_ifT hf c42
                  refine lh_iload_n (q := 3) rfl rfl rfl ?_
                  refine lh_istore_n (lv' := [(0, .ref (65 + 4)), (1, .int v1), (2, .int v2), (3, .int v3), (4, .int v4), (5, .int (I (75 + 4) (1 + (2 * v4)).toNatClampNeg)), (6, .int (I (75 + 4) (2 + (2 * v4)).toNatClampNeg)), (7, .int 0)]) rfl rfl rfl rfl ?_
                  refine lh_goto rfl ?_
                  refine lh_iinc (q := 4) (v := (v4 + 1)) (lv' := [(0, .ref (65 + 4)), (1, .int v1), (2, .int v2), (3, .int v3), (4, .int (v4 + 1)), (5, .int (I (75 + 4) (1 + (2 * v4)).toNatClampNeg)), (6, .int (I (75 + 4) (2 + (2 * v4)).toNatClampNeg)), (7, .int 0)]) rfl rfl (congrArg (v4 + ·) (by decide)) rfl rfl ?_
                  refine lh_goto rfl ?_
                  refine lh_less [0, 1, 2, 3, 4] rfl ?_
                  exact ih v2 v3 (v4 + 1) r40.2 _ hf x0_
                · have hf := lh_ifF hf c42
                  refine lh_iload_n (q := 3) rfl rfl rfl ?_
                  refine lh_if_ge rfl (fun c43 => ?_) (fun c43 => ?_)
                  · have hf := lh_ifT hf c43
                    refine lh_iload_n (q := 3) rfl rfl rfl ?_
                    refine lh_istore_n (lv' := [(0, .ref (65 + 4)), (1, .int v1), (2, .int v2), (3, .int v3), (4, .int v4), (5, .int (I (75 + 4) (1 + (2 * v4)).toNatClampNeg)), (6, .int (I (75 + 4) (2 + (2 * v4)).toNatClampNeg)), (7, .int 0)]) rfl rfl rfl rfl ?_
                    refine lh_goto rfl ?_
                    refine lh_iinc (q := 4) (v := (v4 + 1)) (lv' := [(0, .ref (65 + 4)), (1, .int v1), (2, .int v2), (3, .int v3), (4, .int (v4 + 1)), (5, .int (I (75 + 4) (1 + (2 * v4)).toNatClampNeg)), (6, .int (I (75 + 4) (2 + (2 * v4)).toNatClampNeg)), (7, .int 0)]) rfl rfl (congrArg (v4 + ·) (by decide)) rfl rfl ?_
                    refine lh_goto rfl ?_
                    refine lh_less [0, 1, 2, 3, 4] rfl ?_
                    exact ih v2 v3 (v4 + 1) r40.2 _ hf x0_
                  · have hf := lh_ifF hf c43
                    refine lh_iload (q := 4) rfl rfl ?_
                    refine lh_goto rfl ?_
                    refine lh_istore_n (lv' := [(0, .ref (65 + 4)), (1, .int v1), (2, .int v2), (3, .int v4), (4, .int v4), (5, .int (I (75 + 4) (1 + (2 * v4)).toNatClampNeg)), (6, .int (I (75 + 4) (2 + (2 * v4)).toNatClampNeg)), (7, .int 0)]) rfl rfl rfl rfl ?_
                    refine lh_goto rfl ?_
                    refine lh_iinc (q := 4) (v := (v4 + 1)) (lv' := [(0, .ref (65 + 4)), (1, .int v1), (2, .int v2), (3, .int v4), (4, .int (v4 + 1)), (5, .int (I (75 + 4) (1 + (2 * v4)).toNatClampNeg)), (6, .int (I (75 + 4) (2 + (2 * v4)).toNatClampNeg)), (7, .int 0)]) rfl rfl (congrArg (v4 + ·) (by decide)) rfl rfl ?_
                    refine lh_goto rfl ?_
                    refine lh_less [0, 1, 2, 3, 4] rfl ?_
                    exact ih v2 v4 (v4 + 1) r40.2 _ hf x0_
          · have hf := lh_ifF hf c28
            refine lh_iload (q := 4) rfl rfl ?_
            refine lh_goto rfl ?_
            refine lh_istore_n (lv' := [(0, .ref (65 + 4)), (1, .int v1), (2, .int v4), (3, .int v3), (4, .int v4), (5, .int (I (75 + 4) (1 + (2 * v4)).toNatClampNeg)), (6, .int (I (75 + 4) (2 + (2 * v4)).toNatClampNeg)), (7, .int 0)]) rfl rfl rfl rfl ?_
            refine lh_iload (q := 5) rfl rfl ?_
            refine lh_iconst rfl lh_k_3 ?_
            refine lh_icmp_ge rfl (fun c44 => ?_) (fun c44 => ?_)
            · have hf := lh_ifT hf c44
              refine lh_iload (q := 7) rfl rfl ?_
              refine lh_if_eq rfl (fun _ => ?_) (fun c => absurd (by decide) c) 
              refine lh_iload (q := 7) rfl rfl ?_
              refine lh_if_eq rfl (fun _ => ?_) (fun c => absurd (by decide) c) 
              refine lh_iinc (q := 4) (v := (v4 + 1)) (lv' := [(0, .ref (65 + 4)), (1, .int v1), (2, .int v4), (3, .int v3), (4, .int (v4 + 1)), (5, .int (I (75 + 4) (1 + (2 * v4)).toNatClampNeg)), (6, .int (I (75 + 4) (2 + (2 * v4)).toNatClampNeg)), (7, .int 0)]) rfl rfl (congrArg (v4 + ·) (by decide)) rfl rfl ?_
              refine lh_goto rfl ?_
              refine lh_less [0, 1, 2, 3, 4] rfl ?_
              exact ih v4 v3 (v4 + 1) I _ hf x0_
            · have hf := lh_ifF hf c44
              refine lh_aload_n (q := 0) rfl rfl rfl ?_
              refine lh_sipush rfl lh_s_672 ?_
              refine lh_iload (q := 5) rfl rfl ?_
              refine lh_if_ne rfl (fun c45 => ?_) (fun c45 => ?_)
              · have hf := lh_ifF hf c45
                refine lh_iload (q := 5) rfl rfl ?_
                refine lh_iconst rfl lh_k_1 ?_
                refine lh_icmp_ne rfl (fun c46 => ?_) (fun c46 => ?_)
                · have hf := lh_ifF hf c46
                  refine lh_iconst rfl lh_k_0 ?_
                  refine lh_bdE hf (fun r47 e48 hf => ?_)
                  refine lh_cVi (N := m_LM_steps) (d := 7) (o := 65) (As := [.int 672, .int 0]) (st := []) rfl rfl v_LM_steps (hS.1 0 _ rfl) rfl rfl rfl ⟨rfl, rfl⟩ rfl (t_LM_steps hG hS e48 ?_)
                  refine lh_if_le rfl (fun c49 => ?_) (fun c49 => ?_)
                  · have hf := lh_ifT hf c49
                    refine lh_iload_n (q := 3) rfl rfl rfl ?_
                    refine lh_istore_n (lv' := [(0, .ref (65 + 4)), (1, .int v1), (2, .int v4), (3, .int v3), (4, .int v4), (5, .int (I (75 + 4) (1 + (2 * v4)).toNatClampNeg)), (6, .int (I (75 + 4) (2 + (2 * v4)).toNatClampNeg)), (7, .int 0)]) rfl rfl rfl rfl ?_
                    refine lh_goto rfl ?_
                    refine lh_iinc (q := 4) (v := (v4 + 1)) (lv' := [(0, .ref (65 + 4)), (1, .int v1), (2, .int v4), (3, .int v3), (4, .int (v4 + 1)), (5, .int (I (75 + 4) (1 + (2 * v4)).toNatClampNeg)), (6, .int (I (75 + 4) (2 + (2 * v4)).toNatClampNeg)), (7, .int 0)]) rfl rfl (congrArg (v4 + ·) (by decide)) rfl rfl ?_
                    refine lh_goto rfl ?_
                    refine lh_less [0, 1, 2, 3, 4] rfl ?_
                    exact ih v4 v3 (v4 + 1) r47.2 _ hf x0_
                  · have hf := lh_ifF hf c49
                    refine lh_iload_n (q := 3) rfl rfl rfl ?_
                    refine lh_if_ge rfl (fun c50 => ?_) (fun c50 => ?_)
                    · have hf := lh_ifT hf c50
                      refine lh_iload_n (q := 3) rfl rfl rfl ?_
                      refine lh_istore_n (lv' := [(0, .ref (65 + 4)), (1, .int v1), (2, .int v4), (3, .int v3), (4, .int v4), (5, .int (I (75 + 4) (1 + (2 * v4)).toNatClampNeg)), (6, .int (I (75 + 4) (2 + (2 * v4)).toNatClampNeg)), (7, .int 0)]) rfl rfl rfl rfl ?_
                      refine lh_goto rfl ?_
                      refine lh_iinc (q := 4) (v := (v4 + 1)) (lv' := [(0, .ref (65 + 4)), (1, .int v1), (2, .int v4), (3, .int v3), (4, .int (v4 + 1)), (5, .int (I (75 + 4) (1 + (2 * v4)).toNatClampNeg)), (6, .int (I (75 + 4) (2 + (2 * v4)).toNatClampNeg)), (7, .int 0)]) rfl rfl (congrArg (v4 + ·) (by decide)) rfl rfl ?_
                      refine lh_goto rfl ?_
                      refine lh_less [0, 1, 2, 3, 4] rfl ?_
                      exact ih v4 v3 (v4 + 1) r47.2 _ hf x0_
                    · have hf := lh_ifF hf c50
                      refine lh_iload (q := 4) rfl rfl ?_
                      refine lh_goto rfl ?_
                      refine lh_istore_n (lv' := [(0, .ref (65 + 4)), (1, .int v1), (2, .int v4), (3, .int v4), (4, .int v4), (5, .int (I (75 + 4) (1 + (2 * v4)).toNatClampNeg)), (6, .int (I (75 + 4) (2 + (2 * v4)).toNatClampNeg)), (7, .int 0)]) rfl rfl rfl rfl ?_
                      refine lh_goto rfl ?_
                      refine lh_iinc (q := 4) (v := (v4 + 1)) (lv' := [(0, .ref (65 + 4)), (1, .int v1), (2, .int v4), (3, .int v4), (4, .int (v4 + 1)), (5, .int (I (75 + 4) (1 + (2 * v4)).toNatClampNeg)), (6, .int (I (75 + 4) (2 + (2 * v4)).toNatClampNeg)), (7, .int 0)]) rfl rfl (congrArg (v4 + ·) (by decide)) rfl rfl ?_
                      refine lh_goto rfl ?_
                      refine lh_less [0, 1, 2, 3, 4] rfl ?_
                      exact ih v4 v4 (v4 + 1) r47.2 _ hf x0_
                · have hf := lh_ifT hf c46
                  refine lh_iconst rfl lh_k_m1 ?_
                  refine lh_goto rfl ?_
                  refine lh_bdE hf (fun r51 e52 hf => ?_)
                  refine lh_cVi (N := m_LM_steps) (d := 7) (o := 65) (As := [.int 672, .int (-1)]) (st := []) rfl rfl v_LM_steps (hS.1 0 _ rfl) rfl rfl rfl ⟨rfl, rfl⟩ rfl (t_LM_steps hG hS e52 ?_)
                  refine lh_if_le rfl (fun c53 => ?_) (fun c53 => ?_)
                  · have hf := lh_ifT hf c53
                    refine lh_iload_n (q := 3) rfl rfl rfl ?_
                    refine lh_istore_n (lv' := [(0, .ref (65 + 4)), (1, .int v1), (2, .int v4), (3, .int v3), (4, .int v4), (5, .int (I (75 + 4) (1 + (2 * v4)).toNatClampNeg)), (6, .int (I (75 + 4) (2 + (2 * v4)).toNatClampNeg)), (7, .int 0)]) rfl rfl rfl rfl ?_
                    refine lh_goto rfl ?_
                    refine lh_iinc (q := 4) (v := (v4 + 1)) (lv' := [(0, .ref (65 + 4)), (1, .int v1), (2, .int v4), (3, .int v3), (4, .int (v4 + 1)), (5, .int (I (75 + 4) (1 + (2 * v4)).toNatClampNeg)), (6, .int (I (75 + 4) (2 + (2 * v4)).toNatClampNeg)), (7, .int 0)]) rfl rfl (congrArg (v4 + ·) (by decide)) rfl rfl ?_
                    refine lh_goto rfl ?_
                    refine lh_less [0, 1, 2, 3, 4] rfl ?_
                    exact ih v4 v3 (v4 + 1) r51.2 _ hf x0_
                  · have hf := lh_ifF hf c53
                    refine lh_iload_n (q := 3) rfl rfl rfl ?_
                    refine lh_if_ge rfl (fun c54 => ?_) (fun c54 => ?_)
                    · have hf := lh_ifT hf c54
                      refine lh_iload_n (q := 3) rfl rfl rfl ?_
                      refine lh_istore_n (lv' := [(0, .ref (65 + 4)), (1, .int v1), (2, .int v4), (3, .int v3), (4, .int v4), (5, .int (I (75 + 4) (1 + (2 * v4)).toNatClampNeg)), (6, .int (I (75 + 4) (2 + (2 * v4)).toNatClampNeg)), (7, .int 0)]) rfl rfl rfl rfl ?_
                      refine lh_goto rfl ?_
                      refine lh_iinc (q := 4) (v := (v4 + 1)) (lv' := [(0, .ref (65 + 4)), (1, .int v1), (2, .int v4), (3, .int v3), (4, .int (v4 + 1)), (5, .int (I (75 + 4) (1 + (2 * v4)).toNatClampNeg)), (6, .int (I (75 + 4) (2 + (2 * v4)).toNatClampNeg)), (7, .int 0)]) rfl rfl (congrArg (v4 + ·) (by decide)) rfl rfl ?_
                      refine lh_goto rfl ?_
                      refine lh_less [0, 1, 2, 3, 4] rfl ?_
                      exact ih v4 v3 (v4 + 1) r51.2 _ hf x0_
                    · have hf := lh_ifF hf c54
                      refine lh_iload (q := 4) rfl rfl ?_
                      refine lh_goto rfl ?_
                      refine lh_istore_n (lv' := [(0, .ref (65 + 4)), (1, .int v1), (2, .int v4), (3, .int v4), (4, .int v4), (5, .int (I (75 + 4) (1 + (2 * v4)).toNatClampNeg)), (6, .int (I (75 + 4) (2 + (2 * v4)).toNatClampNeg)), (7, .int 0)]) rfl rfl rfl rfl ?_
                      refine lh_goto rfl ?_
                      refine lh_iinc (q := 4) (v := (v4 + 1)) (lv' := [(0, .ref (65 + 4)), (1, .int v1), (2, .int v4), (3, .int v4), (4, .int (v4 + 1)), (5, .int (I (75 + 4) (1 + (2 * v4)).toNatClampNeg)), (6, .int (I (75 + 4) (2 + (2 * v4)).toNatClampNeg)), (7, .int 0)]) rfl rfl (congrArg (v4 + ·) (by decide)) rfl rfl ?_
                      refine lh_goto rfl ?_
                      refine lh_less [0, 1, 2, 3, 4] rfl ?_
                      exact ih v4 v4 (v4 + 1) r51.2 _ hf x0_
              · have hf := lh_ifT hf c45
                refine lh_iconst rfl lh_k_1 ?_
                refine lh_goto rfl ?_
                refine lh_bdE hf (fun r55 e56 hf => ?_)
                refine lh_cVi (N := m_LM_steps) (d := 7) (o := 65) (As := [.int 672, .int 1]) (st := []) rfl rfl v_LM_steps (hS.1 0 _ rfl) rfl rfl rfl ⟨rfl, rfl⟩ rfl (t_LM_steps hG hS e56 ?_)
                refine lh_if_le rfl (fun c57 => ?_) (fun c57 => ?_)
                · have hf := lh_ifT hf c57
                  refine lh_iload_n (q := 3) rfl rfl rfl ?_
                  refine lh_istore_n (lv' := [(0, .ref (65 + 4)), (1, .int v1), (2, .int v4), (3, .int v3), (4, .int v4), (5, .int (I (75 + 4) (1 + (2 * v4)).toNatClampNeg)), (6, .int (I (75 + 4) (2 + (2 * v4)).toNatClampNeg)), (7, .int 0)]) rfl rfl rfl rfl ?_
                  refine lh_goto rfl ?_
                  refine lh_iinc (q := 4) (v := (v4 + 1)) (lv' := [(0, .ref (65 + 4)), (1, .int v1), (2, .int v4), (3, .int v3), (4, .int (v4 + 1)), (5, .int (I (75 + 4) (1 + (2 * v4)).toNatClampNeg)), (6, .int (I (75 + 4) (2 + (2 * v4)).toNatClampNeg)), (7, .int 0)]) rfl rfl (congrArg (v4 + ·) (by decide)) rfl rfl ?_
                  refine lh_goto rfl ?_
                  refine lh_less [0, 1, 2, 3, 4] rfl ?_
                  exact ih v4 v3 (v4 + 1) r55.2 _ hf x0_
                · have hf := lh_ifF hf c57
                  refine lh_iload_n (q := 3) rfl rfl rfl ?_
                  refine lh_if_ge rfl (fun c58 => ?_) (fun c58 => ?_)
                  · have hf := lh_ifT hf c58
                    refine lh_iload_n (q := 3) rfl rfl rfl ?_
                    refine lh_istore_n (lv' := [(0, .ref (65 + 4)), (1, .int v1), (2, .int v4), (3, .int v3), (4, .int v4), (5, .int (I (75 + 4) (1 + (2 * v4)).toNatClampNeg)), (6, .int (I (75 + 4) (2 + (2 * v4)).toNatClampNeg)), (7, .int 0)]) rfl rfl rfl rfl ?_
                    refine lh_goto rfl ?_
                    refine lh_iinc (q := 4) (v := (v4 + 1)) (lv' := [(0, .ref (65 + 4)), (1, .int v1), (2, .int v4), (3, .int v3), (4, .int (v4 + 1)), (5, .int (I (75 + 4) (1 + (2 * v4)).toNatClampNeg)), (6, .int (I (75 + 4) (2 + (2 * v4)).toNatClampNeg)), (7, .int 0)]) rfl rfl (congrArg (v4 + ·) (by decide)) rfl rfl ?_
                    refine lh_goto rfl ?_
                    refine lh_less [0, 1, 2, 3, 4] rfl ?_
                    exact ih v4 v3 (v4 + 1) r55.2 _ hf x0_
                  · have hf := lh_ifF hf c58
                    refine lh_iload (q := 4) rfl rfl ?_
                    refine lh_goto rfl ?_
                    refine lh_istore_n (lv' := [(0, .ref (65 + 4)), (1, .int v1), (2, .int v4), (3, .int v4), (4, .int v4), (5, .int (I (75 + 4) (1 + (2 * v4)).toNatClampNeg)), (6, .int (I (75 + 4) (2 + (2 * v4)).toNatClampNeg)), (7, .int 0)]) rfl rfl rfl rfl ?_
                    refine lh_goto rfl ?_
                    refine lh_iinc (q := 4) (v := (v4 + 1)) (lv' := [(0, .ref (65 + 4)), (1, .int v1), (2, .int v4), (3, .int v4), (4, .int (v4 + 1)), (5, .int (I (75 + 4) (1 + (2 * v4)).toNatClampNeg)), (6, .int (I (75 + 4) (2 + (2 * v4)).toNatClampNeg)), (7, .int 0)]) rfl rfl (congrArg (v4 + ·) (by decide)) rfl rfl ?_
                    refine lh_goto rfl ?_
                    refine lh_less [0, 1, 2, 3, 4] rfl ?_
                    exact ih v4 v4 (v4 + 1) r55.2 _ hf x0_
        · have hf := lh_ifF hf c27
          refine lh_iconst rfl lh_k_1 ?_
          refine lh_goto rfl ?_
          refine lh_istore (lv' := [(0, .ref (65 + 4)), (1, .int v1), (2, .int v2), (3, .int v3), (4, .int v4), (5, .int (I (75 + 4) (1 + (2 * v4)).toNatClampNeg)), (6, .int (I (75 + 4) (2 + (2 * v4)).toNatClampNeg)), (7, .int 1)]) rfl rfl rfl ?_
          refine lh_iload (q := 7) rfl rfl ?_
          refine lh_if_ne rfl (fun _ => ?_) (fun c => absurd c (by decide)) 
          refine lh_iload_n (q := 2) rfl rfl rfl ?_
          refine lh_istore_n (lv' := [(0, .ref (65 + 4)), (1, .int v1), (2, .int v2), (3, .int v3), (4, .int v4), (5, .int (I (75 + 4) (1 + (2 * v4)).toNatClampNeg)), (6, .int (I (75 + 4) (2 + (2 * v4)).toNatClampNeg)), (7, .int 1)]) rfl rfl rfl rfl ?_
          refine lh_iload (q := 5) rfl rfl ?_
          refine lh_iconst rfl lh_k_3 ?_
          refine lh_icmp_ge rfl (fun c59 => ?_) (fun c59 => ?_)
          · have hf := lh_ifT hf c59
            refine lh_iload (q := 7) rfl rfl ?_
            refine lh_if_eq rfl (fun c => absurd c (by decide)) (fun _ => ?_)
            refine lh_iload (q := 5) rfl rfl ?_
            refine lh_iconst rfl lh_k_3 ?_
            refine lh_icmp_ne rfl (fun c => absurd c9 c) (fun _ => ?_)
            refine lh_aload_n (q := 0) rfl rfl rfl ?_
            refine lh_sipush rfl lh_s_672 ?_
            refine lh_iload (q := 6) rfl rfl ?_
            refine lh_bdE hf (fun r60 e61 hf => ?_)
            refine lh_cVv (N := m_LM_trims) (d := 0) (o := 65) (As := [.int 672, .int (I (75 + 4) (2 + (2 * v4)).toNatClampNeg)]) (st := []) rfl rfl v_LM_trims (hS.1 0 _ rfl) rfl rfl rfl ⟨rfl, rfl⟩ rfl (t_LM_trims hG hS e61 ?_)
            refine lh_goto rfl ?_
            refine lh_iinc (q := 4) (v := (v4 + 1)) (lv' := [(0, .ref (65 + 4)), (1, .int v1), (2, .int v2), (3, .int v3), (4, .int (v4 + 1)), (5, .int (I (75 + 4) (1 + (2 * v4)).toNatClampNeg)), (6, .int (I (75 + 4) (2 + (2 * v4)).toNatClampNeg)), (7, .int 1)]) rfl rfl (congrArg (v4 + ·) (by decide)) rfl rfl ?_
            refine lh_goto rfl ?_
            refine lh_less [0, 1, 2, 3, 4] rfl ?_
            exact ih v2 v3 (v4 + 1) r60 _ hf x0_
          · have hf := lh_ifF hf c59
            refine lh_aload_n (q := 0) rfl rfl rfl ?_
            refine lh_sipush rfl lh_s_672 ?_
            refine lh_iload (q := 5) rfl rfl ?_
            refine lh_if_ne rfl (fun c62 => ?_) (fun c62 => ?_)
            · have hf := lh_ifF hf c62
              refine lh_iload (q := 5) rfl rfl ?_
              refine lh_iconst rfl lh_k_1 ?_
              refine lh_icmp_ne rfl (fun c63 => ?_) (fun c63 => ?_)
              · have hf := lh_ifF hf c63
                refine lh_iconst rfl lh_k_0 ?_
                refine lh_bdE hf (fun r64 e65 hf => ?_)
                refine lh_cVi (N := m_LM_steps) (d := 7) (o := 65) (As := [.int 672, .int 0]) (st := []) rfl rfl v_LM_steps (hS.1 0 _ rfl) rfl rfl rfl ⟨rfl, rfl⟩ rfl (t_LM_steps hG hS e65 ?_)
                refine lh_if_le rfl (fun c66 => ?_) (fun c66 => ?_)
                · have hf := lh_ifT hf c66
                  refine lh_iload_n (q := 3) rfl rfl rfl ?_
                  refine lh_istore_n (lv' := [(0, .ref (65 + 4)), (1, .int v1), (2, .int v2), (3, .int v3), (4, .int v4), (5, .int (I (75 + 4) (1 + (2 * v4)).toNatClampNeg)), (6, .int (I (75 + 4) (2 + (2 * v4)).toNatClampNeg)), (7, .int 1)]) rfl rfl rfl rfl ?_
                  refine lh_goto rfl ?_
                  refine lh_iinc (q := 4) (v := (v4 + 1)) (lv' := [(0, .ref (65 + 4)), (1, .int v1), (2, .int v2), (3, .int v3), (4, .int (v4 + 1)), (5, .int (I (75 + 4) (1 + (2 * v4)).toNatClampNeg)), (6, .int (I (75 + 4) (2 + (2 * v4)).toNatClampNeg)), (7, .int 1)]) rfl rfl (congrArg (v4 + ·) (by decide)) rfl rfl ?_
                  refine lh_goto rfl ?_
                  refine lh_less [0, 1, 2, 3, 4] rfl ?_
                  exact ih v2 v3 (v4 + 1) r64.2 _ hf x0_
                · have hf := lh_ifF hf c66
                  refine lh_iload_n (q := 3) rfl rfl rfl ?_
                  refine lh_if_ge rfl (fun c67 => ?_) (fun c67 => ?_)
                  · have hf := lh_ifT hf c67
                    refine lh_iload_n (q := 3) rfl rfl rfl ?_
                    refine lh_istore_n (lv' := [(0, .ref (65 + 4)), (1, .int v1), (2, .int v2), (3, .int v3), (4, .int v4), (5, .int (I (75 + 4) (1 + (2 * v4)).toNatClampNeg)), (6, .int (I (75 + 4) (2 + (2 * v4)).toNatClampNeg)), (7, .int 1)]) rfl rfl rfl rfl ?_
                    refine lh_goto rfl ?_
                    refine lh_iinc (q := 4) (v := (v4 + 1)) (lv' := [(0, .ref (65 + 4)), (1, .int v1), (2, .int v2), (3, .int v3), (4, .int (v4 + 1)), (5, .int (I (75 + 4) (1 + (2 * v4)).toNatClampNeg)), (6, .int (I (75 + 4) (2 + (2 * v4)).toNatClampNeg)), (7, .int 1)]) rfl rfl (congrArg (v4 + ·) (by decide)) rfl rfl ?_
                    refine lh_goto rfl ?_
                    refine lh_less [0, 1, 2, 3, 4] rfl ?_
                    exact ih v2 v3 (v4 + 1) r64.2 _ hf x0_
                  · have hf := lh_ifF hf c67
                    refine lh_iload (q := 4) rfl rfl ?_
                    refine lh_goto rfl ?_
                    refine lh_istore_n (lv' := [(0, .ref (65 + 4)), (1, .int v1), (2, .int v2), (3, .int v4), (4, .int v4), (5, .int (I (75 + 4) (1 + (2 * v4)).toNatClampNeg)), (6, .int (I (75 + 4) (2 + (2 * v4)).toNatClampNeg)), (7, .int 1)]) rfl rfl rfl rfl ?_
                    refine lh_goto rfl ?_
                    refine lh_iinc (q := 4) (v := (v4 + 1)) (lv' := [(0, .ref (65 + 4)), (1, .int v1), (2, .int v2), (3, .int v4), (4, .int (v4 + 1)), (5, .int (I (75 + 4) (1 + (2 * v4)).toNatClampNeg)), (6, .int (I (75 + 4) (2 + (2 * v4)).toNatClampNeg)), (7, .int 1)]) rfl rfl (congrArg (v4 + ·) (by decide)) rfl rfl ?_
                    refine lh_goto rfl ?_
                    refine lh_less [0, 1, 2, 3, 4] rfl ?_
                    exact ih v2 v4 (v4 + 1) r64.2 _ hf x0_
              · have hf := lh_ifT hf c63
                refine lh_iconst rfl lh_k_m1 ?_
                refine lh_goto rfl ?_
                refine lh_bdE hf (fun r68 e69 hf => ?_)
                refine lh_cVi (N := m_LM_steps) (d := 7) (o := 65) (As := [.int 672, .int (-1)]) (st := []) rfl rfl v_LM_steps (hS.1 0 _ rfl) rfl rfl rfl ⟨rfl, rfl⟩ rfl (t_LM_steps hG hS e69 ?_)
                refine lh_if_le rfl (fun c70 => ?_) (fun c70 => ?_)
                · have hf := lh_ifT hf c70
                  refine lh_iload_n (q := 3) rfl rfl rfl ?_
                  refine lh_istore_n (lv' := [(0, .ref (65 + 4)), (1, .int v1), (2, .int v2), (3, .int v3), (4, .int v4), (5, .int (I (75 + 4) (1 + (2 * v4)).toNatClampNeg)), (6, .int (I (75 + 4) (2 + (2 * v4)).toNatClampNeg)), (7, .int 1)]) rfl rfl rfl rfl ?_
                  refine lh_goto rfl ?_
                  refine lh_iinc (q := 4) (v := (v4 + 1)) (lv' := [(0, .ref (65 + 4)), (1, .int v1), (2, .int v2), (3, .int v3), (4, .int (v4 + 1)), (5, .int (I (75 + 4) (1 + (2 * v4)).toNatClampNeg)), (6, .int (I (75 + 4) (2 + (2 * v4)).toNatClampNeg)), (7, .int 1)]) rfl rfl (congrArg (v4 + ·) (by decide)) rfl rfl ?_
                  refine lh_goto rfl ?_
                  refine lh_less [0, 1, 2, 3, 4] rfl ?_
                  exact ih v2 v3 (v4 + 1) r68.2 _ hf x0_
                · have hf := lh_ifF hf c70
                  refine lh_iload_n (q := 3) rfl rfl rfl ?_
                  refine lh_if_ge rfl (fun c71 => ?_) (fun c71 => ?_)
                  · have hf := lh_ifT hf c71
                    refine lh_iload_n (q := 3) rfl rfl rfl ?_
                    refine lh_istore_n (lv' := [(0, .ref (65 + 4)), (1, .int v1), (2, .int v2), (3, .int v3), (4, .int v4), (5, .int (I (75 + 4) (1 + (2 * v4)).toNatClampNeg)), (6, .int (I (75 + 4) (2 + (2 * v4)).toNatClampNeg)), (7, .int 1)]) rfl rfl rfl rfl ?_
                    refine lh_goto rfl ?_
                    refine lh_iinc (q := 4) (v := (v4 + 1)) (lv' := [(0, .ref (65 + 4)), (1, .int v1), (2, .int v2), (3, .int v3), (4, .int (v4 + 1)), (5, .int (I (75 + 4) (1 + (2 * v4)).toNatClampNeg)), (6, .int (I (75 + 4) (2 + (2 * v4)).toNatClampNeg)), (7, .int 1)]) rfl rfl (congrArg (v4 + ·) (by decide)) rfl rfl ?_
                    refine lh_goto rfl ?_
                    refine lh_less [0, 1, 2, 3, 4] rfl ?_
                    exact ih v2 v3 (v4 + 1) r68.2 _ hf x0_
                  · have hf := lh_ifF hf c71
                    refine lh_iload (q := 4) rfl rfl ?_
                    refine lh_goto rfl ?_
                    refine lh_istore_n (lv' := [(0, .ref (65 + 4)), (1, .int v1), (2, .int v2), (3, .int v4), (4, .int v4), (5, .int (I (75 + 4) (1 + (2 * v4)).toNatClampNeg)), (6, .int (I (75 + 4) (2 + (2 * v4)).toNatClampNeg)), (7, .int 1)]) rfl rfl rfl rfl ?_
                    refine lh_goto rfl ?_
                    refine lh_iinc (q := 4) (v := (v4 + 1)) (lv' := [(0, .ref (65 + 4)), (1, .int v1), (2, .int v2), (3, .int v4), (4, .int (v4 + 1)), (5, .int (I (75 + 4) (1 + (2 * v4)).toNatClampNeg)), (6, .int (I (75 + 4) (2 + (2 * v4)).toNatClampNeg)), (7, .int 1)]) rfl rfl (congrArg (v4 + ·) (by decide)) rfl rfl ?_
                    refine lh_goto rfl ?_
                    refine lh_less [0, 1, 2, 3, 4] rfl ?_
                    exact ih v2 v4 (v4 + 1) r68.2 _ hf x0_
            · have hf := lh_ifT hf c62
              refine lh_iconst rfl lh_k_1 ?_
              refine lh_goto rfl ?_
              refine lh_bdE hf (fun r72 e73 hf => ?_)
              refine lh_cVi (N := m_LM_steps) (d := 7) (o := 65) (As := [.int 672, .int 1]) (st := []) rfl rfl v_LM_steps (hS.1 0 _ rfl) rfl rfl rfl ⟨rfl, rfl⟩ rfl (t_LM_steps hG hS e73 ?_)
              refine lh_if_le rfl (fun c74 => ?_) (fun c74 => ?_)
              · have hf := lh_ifT hf c74
                refine lh_iload_n (q := 3) rfl rfl rfl ?_
                refine lh_istore_n (lv' := [(0, .ref (65 + 4)), (1, .int v1), (2, .int v2), (3, .int v3), (4, .int v4), (5, .int (I (75 + 4) (1 + (2 * v4)).toNatClampNeg)), (6, .int (I (75 + 4) (2 + (2 * v4)).toNatClampNeg)), (7, .int 1)]) rfl rfl rfl rfl ?_
                refine lh_goto rfl ?_
                refine lh_iinc (q := 4) (v := (v4 + 1)) (lv' := [(0, .ref (65 + 4)), (1, .int v1), (2, .int v2), (3, .int v3), (4, .int (v4 + 1)), (5, .int (I (75 + 4) (1 + (2 * v4)).toNatClampNeg)), (6, .int (I (75 + 4) (2 + (2 * v4)).toNatClampNeg)), (7, .int 1)]) rfl rfl (congrArg (v4 + ·) (by decide)) rfl rfl ?_
                refine lh_goto rfl ?_
                refine lh_less [0, 1, 2, 3, 4] rfl ?_
                exact ih v2 v3 (v4 + 1) r72.2 _ hf x0_
              · have hf := lh_ifF hf c74
                refine lh_iload_n (q := 3) rfl rfl rfl ?_
                refine lh_if_ge rfl (fun c75 => ?_) (fun c75 => ?_)
                · have hf := lh_ifT hf c75
                  refine lh_iload_n (q := 3) rfl rfl rfl ?_
                  refine lh_istore_n (lv' := [(0, .ref (65 + 4)), (1, .int v1), (2, .int v2), (3, .int v3), (4, .int v4), (5, .int (I (75 + 4) (1 + (2 * v4)).toNatClampNeg)), (6, .int (I (75 + 4) (2 + (2 * v4)).toNatClampNeg)), (7, .int 1)]) rfl rfl rfl rfl ?_
                  refine lh_goto rfl ?_
                  refine lh_iinc (q := 4) (v := (v4 + 1)) (lv' := [(0, .ref (65 + 4)), (1, .int v1), (2, .int v2), (3, .int v3), (4, .int (v4 + 1)), (5, .int (I (75 + 4) (1 + (2 * v4)).toNatClampNeg)), (6, .int (I (75 + 4) (2 + (2 * v4)).toNatClampNeg)), (7, .int 1)]) rfl rfl (congrArg (v4 + ·) (by decide)) rfl rfl ?_
                  refine lh_goto rfl ?_
                  refine lh_less [0, 1, 2, 3, 4] rfl ?_
                  exact ih v2 v3 (v4 + 1) r72.2 _ hf x0_
                · have hf := lh_ifF hf c75
                  refine lh_iload (q := 4) rfl rfl ?_
                  refine lh_goto rfl ?_
                  refine lh_istore_n (lv' := [(0, .ref (65 + 4)), (1, .int v1), (2, .int v2), (3, .int v4), (4, .int v4), (5, .int (I (75 + 4) (1 + (2 * v4)).toNatClampNeg)), (6, .int (I (75 + 4) (2 + (2 * v4)).toNatClampNeg)), (7, .int 1)]) rfl rfl rfl rfl ?_
                  refine lh_goto rfl ?_
                  refine lh_iinc (q := 4) (v := (v4 + 1)) (lv' := [(0, .ref (65 + 4)), (1, .int v1), (2, .int v2), (3, .int v4), (4, .int (v4 + 1)), (5, .int (I (75 + 4) (1 + (2 * v4)).toNatClampNeg)), (6, .int (I (75 + 4) (2 + (2 * v4)).toNatClampNeg)), (7, .int 1)]) rfl rfl (congrArg (v4 + ·) (by decide)) rfl rfl ?_
                  refine lh_goto rfl ?_
                  refine lh_less [0, 1, 2, 3, 4] rfl ?_
                  exact ih v2 v4 (v4 + 1) r72.2 _ hf x0_
theorem t_LM_judged {Γ : lh_Cx} {I : lh_II} {L : lh_LL} {F : lh_FF} {S : lh_SS} {K : Int32 → lh_Hp → Prop} {r : Int32 × lh_II} (hG : lh_GX Γ) (hS : lh_laym F S)  {x1 : Int32} (hf : f_LM_judged x1 I = some r) (hK : K r.1 (r.2, L, F, S)) : lh_Met Γ m_LM_judged 8 0 0 [.ref (65 + 4), .int x1] (I, L, F, S) (lh_ki K) := by
  rw [f_LM_judged] at hf
  refine lh_ofG k_LM_judged [(0, .ref (65 + 4)), (1, .int x1)] rfl (Nat.le_of_ble_eq_true rfl) rfl ?_
  refine lh_aload_n (q := 0) rfl rfl rfl ?_
  refine lh_iconst rfl lh_k_0 ?_
  refine lh_putI4 rfl rfl (hS.1 0 _ rfl) rfl rfl ?_
  refine lh_iload_n (q := 1) rfl rfl rfl ?_
  refine lh_iconst rfl lh_k_0 ?_
  refine lh_iconst rfl lh_k_2 ?_
  refine lh_bdE hf (fun r1 e2 hf => ?_)
  refine lh_cSi (N := m_LM_within) (d := 0) (As := [.int x1, .int 0, .int 2]) (st := []) rfl rfl v_LM_within rfl rfl ⟨rfl, rfl⟩ rfl (t_LM_within hG hS e2 ?_)
  refine lh_if_ne rfl (fun c3 => ?_) (fun c3 => ?_)
  · have hf := lh_ifF hf c3
    refine lh_aload_n (q := 0) rfl rfl rfl ?_
    refine lh_sipush rfl lh_s_672 ?_
    refine lh_bdE hf (fun r4 e5 hf => ?_)
    refine lh_cVv (N := m_LM_starts) (d := 1) (o := 65) (As := [.int 672]) (st := []) rfl rfl v_LM_starts (hS.1 0 _ rfl) rfl rfl rfl ⟨rfl, rfl⟩ rfl (t_LM_starts hG hS e5 ?_)
    refine lh_iconst rfl lh_k_m1 ?_
    refine lh_istore_n (lv' := [(0, .ref (65 + 4)), (1, .int x1), (2, .int (-1))]) rfl rfl rfl rfl ?_
    refine lh_iconst rfl lh_k_m1 ?_
    refine lh_istore_n (lv' := [(0, .ref (65 + 4)), (1, .int x1), (2, .int (-1)), (3, .int (-1))]) rfl rfl rfl rfl ?_
    refine lh_iconst rfl lh_k_0 ?_
    refine lh_istore (lv' := [(0, .ref (65 + 4)), (1, .int x1), (2, .int (-1)), (3, .int (-1)), (4, .int 0)]) rfl rfl rfl ?_
    refine lh_bdE hf (fun r76 e77 hf => ?_)
    refine t_LM_judged_19 hG hS  _ (-1) (-1) 0 r4 _ e77 ?_
    refine lh_iload_n (q := 1) rfl rfl rfl ?_
    refine lh_if_ne rfl (fun c78 => ?_) (fun c78 => ?_)
    · have hf := lh_ifF hf c78
      refine lh_iload_n (q := 1) rfl rfl rfl ?_
      refine lh_iconst rfl lh_k_1 ?_
      refine lh_icmp_ne rfl (fun c79 => ?_) (fun c79 => ?_)
      · have hf := lh_ifF hf c79
        refine lh_aload_n (q := 0) rfl rfl rfl ?_
        refine lh_getR4 rfl rfl (hS.1 0 _ rfl) rfl (hS.2 12 _ rfl) ?_
        refine lh_sipush rfl lh_s_678 ?_
        refine lh_iald5 (k := 678) rfl (hS.1 13 _ rfl) (by decide) (by decide) ?_
        exact lh_iret rfl rfl rfl (by obtain rfl := Option.some.inj hf; exact hK)
      · have hf := lh_ifT hf c79
        refine lh_iload_n (q := 3) rfl rfl rfl ?_
        refine lh_goto rfl ?_
        exact lh_iret rfl rfl rfl (by obtain rfl := Option.some.inj hf; exact hK)
    · have hf := lh_ifT hf c78
      refine lh_iload_n (q := 2) rfl rfl rfl ?_
      refine lh_goto rfl ?_
      exact lh_iret rfl rfl rfl (by obtain rfl := Option.some.inj hf; exact hK)
  · have hf := lh_ifT hf c3
    refine lh_bipush rfl lh_b_m2 ?_
    exact lh_iret rfl rfl rfl (by obtain rfl := Option.some.inj hf; exact hK)
def f_LM_light (I : lh_II) : Option (Int32 × lh_II) := lh_bd (f_LM_lightOf (0 : Int32) (lh_u2 I (65 + 4) 0 0)) fun r1 => some (r1, lh_u2 I (65 + 4) 0 0)
theorem t_LM_light {Γ : lh_Cx} {I : lh_II} {L : lh_LL} {F : lh_FF} {S : lh_SS} {K : Int32 → lh_Hp → Prop} {r : Int32 × lh_II} (hG : lh_GX Γ) (hS : lh_laym F S)  (hf : f_LM_light I = some r) (hK : K r.1 (r.2, L, F, S)) : lh_Met Γ m_LM_light 4 0 0 [.ref (65 + 4)] (I, L, F, S) (lh_ki K) := by
  rw [f_LM_light] at hf
  refine lh_ofG k_LM_light [(0, .ref (65 + 4))] rfl (Nat.le_of_ble_eq_true rfl) rfl ?_
  refine lh_aload_n (q := 0) rfl rfl rfl ?_
  refine lh_iconst rfl lh_k_0 ?_
  refine lh_putI4 rfl rfl (hS.1 0 _ rfl) rfl rfl ?_
  refine lh_aload_n (q := 0) rfl rfl rfl ?_
  refine lh_iconst rfl lh_k_0 ?_
  refine lh_bdE hf (fun r1 e2 hf => ?_)
  refine lh_cVi (N := m_LM_lightOf) (d := 3) (o := 65) (As := [.int 0]) (st := []) rfl rfl v_LM_lightOf (hS.1 0 _ rfl) rfl rfl rfl ⟨rfl, rfl⟩ rfl (t_LM_lightOf hG hS e2 ?_)
  exact lh_iret rfl rfl rfl (by obtain rfl := Option.some.inj hf; exact hK)
def f_LM_lonely_23 (v1 : Int32) (v2 : Int32) (v3 : Int32) (v4 : Int32) (I : lh_II) : Nat → Int32 → Int32 → Option (Int32)
  | 0, _, _ => none
  | n + 1, v5, v6 => lh_bd (f_LM_visitors I) fun r5 => if r5 ≤ v6 then some v5 else lh_bd (f_LM_dayOf v6 I) fun r8 => if r8 = v1 then lh_bd (f_LM_cellOf v6 v4 I) fun r11 => if r11 < 0 then f_LM_lonely_23 v1 v2 v3 v4 I n (v5 + 0) (v6 + 1) else f_LM_lonely_23 v1 v2 v3 v4 I n (v5 + 1) (v6 + 1) else f_LM_lonely_23 v1 v2 v3 v4 I n (v5 + 0) (v6 + 1)
def f_LM_lonely_16 (v1 : Int32) (I : lh_II) : Nat → Int32 → Int32 → Int32 → Option (Int32)
  | 0, _, _, _ => none
  | n + 1, v2, v3, v4 => if 8 ≤ v4 then some v2 else lh_bd (f_LM_lonely_23 v1 v2 v3 v4 I lh_fuel 0 0) fun r14 => if v3 ≤ r14 then f_LM_lonely_16 v1 I n v2 v3 (v4 + 1) else f_LM_lonely_16 v1 I n v4 r14 (v4 + 1)
def f_LM_lonely (x1 : Int32) (I : lh_II) : Option (Int32 × lh_II) := lh_bd (f_LM_within x1 (0 : Int32) (3 : Int32)) fun r1 => if r1 = 0 then some ((-1), lh_u2 I (65 + 4) 0 0) else lh_bd (f_LM_lonely_16 x1 (lh_u2 I (65 + 4) 0 0) lh_fuel 0 7 0) fun r17 => some (r17, lh_u2 I (65 + 4) 0 0)
theorem t_LM_lonely_23 {Γ : lh_Cx} {F : lh_FF} {S : lh_SS} {Z : List Frame → Array Value → State → State → Prop} (hG : lh_GX Γ) (hS : lh_laym F S)  {v1 : Int32} {v2 : Int32} {v3 : Int32} {v4 : Int32} {I : lh_II} {L : lh_LL} : ∀ (n : Nat) (v5 : Int32) (v6 : Int32) (o : Int32), f_LM_lonely_23 v1 v2 v3 v4 I n v5 v6 = some o → ∀ (x0_ : lh_G Γ m_LM_lonely (lh_R 2 0 0) Z 0 0 45 [(0, .ref (65 + 4)), (1, .int v1), (2, .int v2), (3, .int v3), (4, .int v4), (5, .int o)] [] (I, L, F, S)), lh_G Γ m_LM_lonely (lh_R 2 0 0) Z 0 0 23 [(0, .ref (65 + 4)), (1, .int v1), (2, .int v2), (3, .int v3), (4, .int v4), (5, .int v5), (6, .int v6)] [] (I, L, F, S) := by
  intro n
  induction n with
  | zero => intro v5 v6 o hf; cases hf
  | succ n ih =>
    intro v5 v6 o hf x0_
    rw [f_LM_lonely_23] at hf
    refine lh_iload (q := 6) rfl rfl ?_
    refine lh_aload_n (q := 0) rfl rfl rfl ?_
    refine lh_bdE hf (fun r5 e6 hf => ?_)
    refine lh_cVi (N := m_LM_visitors) (d := 0) (o := 65) (As := []) (st := [.int v6]) rfl rfl v_LM_visitors (hS.1 0 _ rfl) rfl rfl rfl ⟨rfl, rfl⟩ rfl (t_LM_visitors hG hS e6 ?_)
    refine lh_icmp_ge rfl (fun c7 => ?_) (fun c7 => ?_)
    · have hf := lh_ifT hf c7
      exact lh_less [0, 1, 2, 3, 4, 5] rfl (by cases hf; exact x0_)
    · have hf := lh_ifF hf c7
      refine lh_iload (q := 5) rfl rfl ?_
      refine lh_aload_n (q := 0) rfl rfl rfl ?_
      refine lh_iload (q := 6) rfl rfl ?_
      refine lh_bdE hf (fun r8 e9 hf => ?_)
      refine lh_cVi (N := m_LM_dayOf) (d := 0) (o := 65) (As := [.int v6]) (st := [.int v5]) rfl rfl v_LM_dayOf (hS.1 0 _ rfl) rfl rfl rfl ⟨rfl, rfl⟩ rfl (t_LM_dayOf hG hS e9 ?_)
      refine lh_iload_n (q := 1) rfl rfl rfl ?_
      refine lh_icmp_ne rfl (fun c10 => ?_) (fun c10 => ?_)
      · have hf := lh_ifF hf c10
        refine lh_iconst rfl lh_k_0 ?_
        refine lh_iadd rfl ?_
        refine lh_istore (lv' := [(0, .ref (65 + 4)), (1, .int v1), (2, .int v2), (3, .int v3), (4, .int v4), (5, .int (v5 + 0)), (6, .int v6)]) rfl rfl rfl ?_
        refine lh_iinc (q := 6) (v := (v6 + 1)) (lv' := [(0, .ref (65 + 4)), (1, .int v1), (2, .int v2), (3, .int v3), (4, .int v4), (5, .int (v5 + 0)), (6, .int (v6 + 1))]) rfl rfl (congrArg (v6 + ·) (by decide)) rfl rfl ?_
        refine lh_goto rfl ?_
        exact ih (v5 + 0) (v6 + 1) _ hf x0_
      · have hf := lh_ifT hf c10
        refine lh_aload_n (q := 0) rfl rfl rfl ?_
        refine lh_iload (q := 6) rfl rfl ?_
        refine lh_iload (q := 4) rfl rfl ?_
        refine lh_bdE hf (fun r11 e12 hf => ?_)
        refine lh_cVi (N := m_LM_cellOf) (d := 1) (o := 65) (As := [.int v6, .int v4]) (st := [.int v5]) rfl rfl v_LM_cellOf (hS.1 0 _ rfl) rfl rfl rfl ⟨rfl, rfl⟩ rfl (t_LM_cellOf hG hS e12 ?_)
        refine lh_if_lt rfl (fun c13 => ?_) (fun c13 => ?_)
        · have hf := lh_ifT hf c13
          refine lh_iconst rfl lh_k_0 ?_
          refine lh_iadd rfl ?_
          refine lh_istore (lv' := [(0, .ref (65 + 4)), (1, .int v1), (2, .int v2), (3, .int v3), (4, .int v4), (5, .int (v5 + 0)), (6, .int v6)]) rfl rfl rfl ?_
          refine lh_iinc (q := 6) (v := (v6 + 1)) (lv' := [(0, .ref (65 + 4)), (1, .int v1), (2, .int v2), (3, .int v3), (4, .int v4), (5, .int (v5 + 0)), (6, .int (v6 + 1))]) rfl rfl (congrArg (v6 + ·) (by decide)) rfl rfl ?_
          refine lh_goto rfl ?_
          exact ih (v5 + 0) (v6 + 1) _ hf x0_
        · have hf := lh_ifF hf c13
          refine lh_iconst rfl lh_k_1 ?_
          refine lh_goto rfl ?_
          refine lh_iadd rfl ?_
          refine lh_istore (lv' := [(0, .ref (65 + 4)), (1, .int v1), (2, .int v2), (3, .int v3), (4, .int v4), (5, .int (v5 + 1)), (6, .int v6)]) rfl rfl rfl ?_
          refine lh_iinc (q := 6) (v := (v6 + 1)) (lv' := [(0, .ref (65 + 4)), (1, .int v1), (2, .int v2), (3, .int v3), (4, .int v4), (5, .int (v5 + 1)), (6, .int (v6 + 1))]) rfl rfl (congrArg (v6 + ·) (by decide)) rfl rfl ?_
          refine lh_goto rfl ?_
          exact ih (v5 + 1) (v6 + 1) _ hf x0_
theorem t_LM_lonely_16 {Γ : lh_Cx} {F : lh_FF} {S : lh_SS} {Z : List Frame → Array Value → State → State → Prop} (hG : lh_GX Γ) (hS : lh_laym F S)  {v1 : Int32} {I : lh_II} {L : lh_LL} : ∀ (n : Nat) (v2 : Int32) (v3 : Int32) (v4 : Int32) (o : Int32), f_LM_lonely_16 v1 I n v2 v3 v4 = some o → ∀ (x0_ : lh_G Γ m_LM_lonely (lh_R 2 0 0) Z 0 0 61 [(2, .int o)] [] (I, L, F, S)), lh_G Γ m_LM_lonely (lh_R 2 0 0) Z 0 0 16 [(0, .ref (65 + 4)), (1, .int v1), (2, .int v2), (3, .int v3), (4, .int v4)] [] (I, L, F, S) := by
  intro n
  induction n with
  | zero => intro v2 v3 v4 o hf; cases hf
  | succ n ih =>
    intro v2 v3 v4 o hf x0_
    rw [f_LM_lonely_16] at hf
    refine lh_iload (q := 4) rfl rfl ?_
    refine lh_bipush rfl lh_b_8 ?_
    refine lh_icmp_ge rfl (fun c4 => ?_) (fun c4 => ?_)
    · have hf := lh_ifT hf c4
      exact lh_less [2] rfl (by cases hf; exact x0_)
    · have hf := lh_ifF hf c4
      refine lh_iconst rfl lh_k_0 ?_
      refine lh_istore (lv' := [(0, .ref (65 + 4)), (1, .int v1), (2, .int v2), (3, .int v3), (4, .int v4), (5, .int 0)]) rfl rfl rfl ?_
      refine lh_iconst rfl lh_k_0 ?_
      refine lh_istore (lv' := [(0, .ref (65 + 4)), (1, .int v1), (2, .int v2), (3, .int v3), (4, .int v4), (5, .int 0), (6, .int 0)]) rfl rfl rfl ?_
      refine lh_bdE hf (fun r14 e15 hf => ?_)
      refine t_LM_lonely_23 hG hS  _ 0 0 _ e15 ?_
      refine lh_iload (q := 5) rfl rfl ?_
      refine lh_iload_n (q := 3) rfl rfl rfl ?_
      refine lh_icmp_ge rfl (fun c16 => ?_) (fun c16 => ?_)
      · have hf := lh_ifT hf c16
        refine lh_iload_n (q := 2) rfl rfl rfl ?_
        refine lh_istore_n (lv' := [(0, .ref (65 + 4)), (1, .int v1), (2, .int v2), (3, .int v3), (4, .int v4), (5, .int r14)]) rfl rfl rfl rfl ?_
        refine lh_iload (q := 5) rfl rfl ?_
        refine lh_iload_n (q := 3) rfl rfl rfl ?_
        refine lh_icmp_ge rfl (fun _ => ?_) (fun c => absurd c16 c)
        refine lh_iload_n (q := 3) rfl rfl rfl ?_
        refine lh_istore_n (lv' := [(0, .ref (65 + 4)), (1, .int v1), (2, .int v2), (3, .int v3), (4, .int v4), (5, .int r14)]) rfl rfl rfl rfl ?_
        refine lh_iinc (q := 4) (v := (v4 + 1)) (lv' := [(0, .ref (65 + 4)), (1, .int v1), (2, .int v2), (3, .int v3), (4, .int (v4 + 1)), (5, .int r14)]) rfl rfl (congrArg (v4 + ·) (by decide)) rfl rfl ?_
        refine lh_goto rfl ?_
        refine lh_less [0, 1, 2, 3, 4] rfl ?_
        exact ih v2 v3 (v4 + 1) _ hf x0_
      · have hf := lh_ifF hf c16
        refine lh_iload (q := 4) rfl rfl ?_
        refine lh_goto rfl ?_
        refine lh_istore_n (lv' := [(0, .ref (65 + 4)), (1, .int v1), (2, .int v4), (3, .int v3), (4, .int v4), (5, .int r14)]) rfl rfl rfl rfl ?_
        refine lh_iload (q := 5) rfl rfl ?_
        refine lh_iload_n (q := 3) rfl rfl rfl ?_
        refine lh_icmp_ge rfl (fun c => absurd c c16) (fun _ => ?_)
        refine lh_iload (q := 5) rfl rfl ?_
        refine lh_goto rfl ?_
        refine lh_istore_n (lv' := [(0, .ref (65 + 4)), (1, .int v1), (2, .int v4), (3, .int r14), (4, .int v4), (5, .int r14)]) rfl rfl rfl rfl ?_
        refine lh_iinc (q := 4) (v := (v4 + 1)) (lv' := [(0, .ref (65 + 4)), (1, .int v1), (2, .int v4), (3, .int r14), (4, .int (v4 + 1)), (5, .int r14)]) rfl rfl (congrArg (v4 + ·) (by decide)) rfl rfl ?_
        refine lh_goto rfl ?_
        refine lh_less [0, 1, 2, 3, 4] rfl ?_
        exact ih v4 r14 (v4 + 1) _ hf x0_
theorem t_LM_lonely {Γ : lh_Cx} {I : lh_II} {L : lh_LL} {F : lh_FF} {S : lh_SS} {K : Int32 → lh_Hp → Prop} {r : Int32 × lh_II} (hG : lh_GX Γ) (hS : lh_laym F S)  {x1 : Int32} (hf : f_LM_lonely x1 I = some r) (hK : K r.1 (r.2, L, F, S)) : lh_Met Γ m_LM_lonely 2 0 0 [.ref (65 + 4), .int x1] (I, L, F, S) (lh_ki K) := by
  rw [f_LM_lonely] at hf
  refine lh_ofG k_LM_lonely [(0, .ref (65 + 4)), (1, .int x1)] rfl (Nat.le_of_ble_eq_true rfl) rfl ?_
  refine lh_aload_n (q := 0) rfl rfl rfl ?_
  refine lh_iconst rfl lh_k_0 ?_
  refine lh_putI4 rfl rfl (hS.1 0 _ rfl) rfl rfl ?_
  refine lh_iload_n (q := 1) rfl rfl rfl ?_
  refine lh_iconst rfl lh_k_0 ?_
  refine lh_iconst rfl lh_k_3 ?_
  refine lh_bdE hf (fun r1 e2 hf => ?_)
  refine lh_cSi (N := m_LM_within) (d := 0) (As := [.int x1, .int 0, .int 3]) (st := []) rfl rfl v_LM_within rfl rfl ⟨rfl, rfl⟩ rfl (t_LM_within hG hS e2 ?_)
  refine lh_if_ne rfl (fun c3 => ?_) (fun c3 => ?_)
  · have hf := lh_ifF hf c3
    refine lh_iconst rfl lh_k_0 ?_
    refine lh_istore_n (lv' := [(0, .ref (65 + 4)), (1, .int x1), (2, .int 0)]) rfl rfl rfl rfl ?_
    refine lh_bipush rfl lh_b_7 ?_
    refine lh_istore_n (lv' := [(0, .ref (65 + 4)), (1, .int x1), (2, .int 0), (3, .int 7)]) rfl rfl rfl rfl ?_
    refine lh_iconst rfl lh_k_0 ?_
    refine lh_istore (lv' := [(0, .ref (65 + 4)), (1, .int x1), (2, .int 0), (3, .int 7), (4, .int 0)]) rfl rfl rfl ?_
    refine lh_bdE hf (fun r17 e18 hf => ?_)
    refine t_LM_lonely_16 hG hS  _ 0 7 0 _ e18 ?_
    refine lh_iload_n (q := 0) rfl rfl rfl ?_
    exact lh_iret rfl rfl rfl (by obtain rfl := Option.some.inj hf; exact hK)
  · have hf := lh_ifT hf c3
    refine lh_iconst rfl lh_k_m1 ?_
    exact lh_iret rfl rfl rfl (by obtain rfl := Option.some.inj hf; exact hK)
def f_LM_mark (x1 : Int32) (x2 : Int32) (I : lh_II) : Option (Int32 × lh_II) := lh_bd (f_LM_within x1 (0 : Int32) (3 : Int32)) fun r1 => if r1 = 0 then some (0, lh_u2 I (65 + 4) 0 0) else if x2 = 0 then lh_gd (lh_ix x1 4) (lh_bd (f_LM_copies (0 : Int32) (32 * (1 + x1)) (32 : Int32) (lh_u2 (lh_u2 I (65 + 4) 0 0) (79 + 4) x1.toNatClampNeg 1)) fun r6 => some (1, lh_u2 r6 (65 + 4) 21 (r6 (65 + 4) 21))) else lh_gd (lh_ix x1 4) (if ((lh_u2 I (65 + 4) 0 0) (79 + 4) x1.toNatClampNeg) = 0 then some (0, lh_u2 I (65 + 4) 0 0) else lh_gd (lh_ix x1 4) (lh_bd (f_LM_copies (32 * (1 + x1)) (0 : Int32) (32 : Int32) (lh_u2 (lh_u2 I (65 + 4) 0 0) (79 + 4) x1.toNatClampNeg 1)) fun r11 => some (1, lh_u2 r11 (65 + 4) 21 0)))
theorem t_LM_mark {Γ : lh_Cx} {I : lh_II} {L : lh_LL} {F : lh_FF} {S : lh_SS} {K : Int32 → lh_Hp → Prop} {r : Int32 × lh_II} (hG : lh_GX Γ) (hS : lh_laym F S)  {x1 : Int32} {x2 : Int32} (hf : f_LM_mark x1 x2 I = some r) (hK : K r.1 (r.2, L, F, S)) : lh_Met Γ m_LM_mark 1 0 0 [.ref (65 + 4), .int x1, .int x2] (I, L, F, S) (lh_ki K) := by
  rw [f_LM_mark] at hf
  refine lh_ofG k_LM_mark [(0, .ref (65 + 4)), (1, .int x1), (2, .int x2)] rfl (Nat.le_of_ble_eq_true rfl) rfl ?_
  refine lh_aload_n (q := 0) rfl rfl rfl ?_
  refine lh_iconst rfl lh_k_0 ?_
  refine lh_putI4 rfl rfl (hS.1 0 _ rfl) rfl rfl ?_
  refine lh_iload_n (q := 1) rfl rfl rfl ?_
  refine lh_iconst rfl lh_k_0 ?_
  refine lh_iconst rfl lh_k_3 ?_
  refine lh_bdE hf (fun r1 e2 hf => ?_)
  refine lh_cSi (N := m_LM_within) (d := 0) (As := [.int x1, .int 0, .int 3]) (st := []) rfl rfl v_LM_within rfl rfl ⟨rfl, rfl⟩ rfl (t_LM_within hG hS e2 ?_)
  refine lh_if_eq rfl (fun c3 => ?_) (fun c3 => ?_)
  · have hf := lh_ifT hf c3
    refine lh_iconst rfl lh_k_0 ?_
    exact lh_iret rfl rfl (by decide) (by obtain rfl := Option.some.inj hf; exact hK)
  · have hf := lh_ifF hf c3
    refine lh_iload_n (q := 2) rfl rfl rfl ?_
    refine lh_if_eq rfl (fun c4 => ?_) (fun c4 => ?_)
    · have hf := lh_ifT hf c4
      refine lh_aload_n (q := 0) rfl rfl rfl ?_
      refine lh_getR4 rfl rfl (hS.1 0 _ rfl) rfl (hS.2 13 _ rfl) ?_
      refine lh_iload_n (q := 1) rfl rfl rfl ?_
      refine lh_iconst rfl lh_k_1 ?_
      obtain ⟨g5, hf⟩ := lh_gdE hf
      refine lh_bast4 rfl (hS.1 14 _ rfl) g5 (by decide) ?_
      refine lh_aload_n (q := 0) rfl rfl rfl ?_
      refine lh_iload_n (q := 2) rfl rfl rfl ?_
      refine lh_if_eq rfl (fun _ => ?_) (fun c => absurd c4 c)
      refine lh_iconst rfl lh_k_0 ?_
      refine lh_iload_n (q := 2) rfl rfl rfl ?_
      refine lh_if_eq rfl (fun _ => ?_) (fun c => absurd c4 c)
      refine lh_bipush rfl lh_b_32 ?_
      refine lh_iconst rfl lh_k_1 ?_
      refine lh_iload_n (q := 1) rfl rfl rfl ?_
      refine lh_iadd rfl ?_
      refine lh_imul rfl ?_
      refine lh_bipush rfl lh_b_32 ?_
      refine lh_bdE hf (fun r6 e7 hf => ?_)
      refine lh_cVv (N := m_LM_copies) (d := 0) (o := 65) (As := [.int 0, .int (32 * (1 + x1)), .int 32]) (st := []) rfl rfl v_LM_copies (hS.1 0 _ rfl) rfl rfl rfl ⟨rfl, rfl⟩ rfl (t_LM_copies hG hS e7 ?_)
      refine lh_aload_n (q := 0) rfl rfl rfl ?_
      refine lh_iload_n (q := 2) rfl rfl rfl ?_
      refine lh_if_eq rfl (fun _ => ?_) (fun c => absurd c4 c)
      refine lh_aload_n (q := 0) rfl rfl rfl ?_
      refine lh_getI4 rfl rfl (hS.1 0 _ rfl) rfl ?_
      refine lh_putI4 rfl rfl (hS.1 0 _ rfl) rfl rfl ?_
      refine lh_iconst rfl lh_k_1 ?_
      exact lh_iret rfl rfl (by decide) (by obtain rfl := Option.some.inj hf; exact hK)
    · have hf := lh_ifF hf c4
      refine lh_aload_n (q := 0) rfl rfl rfl ?_
      refine lh_getR4 rfl rfl (hS.1 0 _ rfl) rfl (hS.2 13 _ rfl) ?_
      refine lh_iload_n (q := 1) rfl rfl rfl ?_
      obtain ⟨g8, hf⟩ := lh_gdE hf
      refine lh_bald4 rfl (hS.1 14 _ rfl) g8 ?_
      refine lh_if_ne rfl (fun c9 => ?_) (fun c9 => ?_)
      · have hf := lh_ifF hf c9
        refine lh_aload_n (q := 0) rfl rfl rfl ?_
        refine lh_getR4 rfl rfl (hS.1 0 _ rfl) rfl (hS.2 13 _ rfl) ?_
        refine lh_iload_n (q := 1) rfl rfl rfl ?_
        refine lh_iconst rfl lh_k_1 ?_
        obtain ⟨g10, hf⟩ := lh_gdE hf
        refine lh_bast4 rfl (hS.1 14 _ rfl) g10 (by decide) ?_
        refine lh_aload_n (q := 0) rfl rfl rfl ?_
        refine lh_iload_n (q := 2) rfl rfl rfl ?_
        refine lh_if_eq rfl (fun c => absurd c c4) (fun _ => ?_)
        refine lh_bipush rfl lh_b_32 ?_
        refine lh_iconst rfl lh_k_1 ?_
        refine lh_iload_n (q := 1) rfl rfl rfl ?_
        refine lh_iadd rfl ?_
        refine lh_imul rfl ?_
        refine lh_goto rfl ?_
        refine lh_iload_n (q := 2) rfl rfl rfl ?_
        refine lh_if_eq rfl (fun c => absurd c c4) (fun _ => ?_)
        refine lh_iconst rfl lh_k_0 ?_
        refine lh_goto rfl ?_
        refine lh_bipush rfl lh_b_32 ?_
        refine lh_bdE hf (fun r11 e12 hf => ?_)
        refine lh_cVv (N := m_LM_copies) (d := 0) (o := 65) (As := [.int (32 * (1 + x1)), .int 0, .int 32]) (st := []) rfl rfl v_LM_copies (hS.1 0 _ rfl) rfl rfl rfl ⟨rfl, rfl⟩ rfl (t_LM_copies hG hS e12 ?_)
        refine lh_aload_n (q := 0) rfl rfl rfl ?_
        refine lh_iload_n (q := 2) rfl rfl rfl ?_
        refine lh_if_eq rfl (fun c => absurd c c4) (fun _ => ?_)
        refine lh_iconst rfl lh_k_0 ?_
        refine lh_goto rfl ?_
        refine lh_putI4 rfl rfl (hS.1 0 _ rfl) rfl rfl ?_
        refine lh_iconst rfl lh_k_1 ?_
        exact lh_iret rfl rfl (by decide) (by obtain rfl := Option.some.inj hf; exact hK)
      · have hf := lh_ifT hf c9
        refine lh_iconst rfl lh_k_0 ?_
        exact lh_iret rfl rfl (by decide) (by obtain rfl := Option.some.inj hf; exact hK)
def f_LM_meet_12 (I : lh_II) : Nat → Int32 → Option (Nat × Int32)
  | 0, _ => none
  | n + 1, v1 => if 40 < v1 then some (1, v1) else if (I (78 + 4) 4) ≤ v1 then lh_bd (f_LM_fellowLights ((I (78 + 4) 0) + v1) I) fun r4 => if (0 &&& r4) = 0 then f_LM_meet_12 I n (v1 + 1) else some (0, v1) else lh_bd (f_LM_litFrom (I (78 + 4) 5) ((-1) : Int32) I) fun r7 => lh_bd (f_LM_fellowLights ((I (78 + 4) 0) + v1) I) fun r9 => if (r7 &&& r9) = 0 then f_LM_meet_12 I n (v1 + 1) else some (0, v1)
def f_LM_meet (I : lh_II) : Option (Int32 × lh_II) := if ((lh_u2 I (65 + 4) 0 0) (71 + 4) 6) = 0 then some ((-1), lh_u2 I (65 + 4) 0 0) else lh_bd (f_LM_meet_12 (lh_u2 I (65 + 4) 0 0) lh_fuel 0) fun r12 => if r12.1 = 0 then some (r12.2, lh_u2 I (65 + 4) 0 0) else some ((-1), lh_u2 I (65 + 4) 0 0)
theorem t_LM_meet_12 {Γ : lh_Cx} {F : lh_FF} {S : lh_SS} {Z : List Frame → Array Value → State → State → Prop} (hG : lh_GX Γ) (hS : lh_laym F S)   {I : lh_II} {L : lh_LL} : ∀ (n : Nat) (v1 : Int32) (o : Nat × Int32), f_LM_meet_12 I n v1 = some o → ∀ (x0_ : o.1 = 0 → lh_G Γ m_LM_meet (lh_R 4 0 0) Z 0 0 42 [(1, .int o.2)] [] (I, L, F, S)), ∀ (x1_ : o.1 = 1 → lh_G Γ m_LM_meet (lh_R 4 0 0) Z 0 0 46 [] [] (I, L, F, S)), lh_G Γ m_LM_meet (lh_R 4 0 0) Z 0 0 12 [(0, .ref (65 + 4)), (1, .int v1)] [] (I, L, F, S) := by
  intro n
  induction n with
  | zero => intro v1 o hf; cases hf
  | succ n ih =>
    intro v1 o hf x0_ x1_
    rw [f_LM_meet_12] at hf
    refine lh_iload_n (q := 1) rfl rfl rfl ?_
    refine lh_bipush rfl lh_b_40 ?_
    refine lh_icmp_gt rfl (fun c2 => ?_) (fun c2 => ?_)
    · have hf := lh_ifT hf c2
      exact lh_less [] rfl (by cases hf; exact x1_ rfl)
    · have hf := lh_ifF hf c2
      refine lh_aload_n (q := 0) rfl rfl rfl ?_
      refine lh_getR4 rfl rfl (hS.1 0 _ rfl) rfl (hS.2 12 _ rfl) ?_
      refine lh_iconst rfl lh_k_4 ?_
      refine lh_iald5 (k := 4) rfl (hS.1 13 _ rfl) (by decide) (by decide) ?_
      refine lh_iload_n (q := 1) rfl rfl rfl ?_
      refine lh_icmp_le rfl (fun c3 => ?_) (fun c3 => ?_)
      · have hf := lh_ifT hf c3
        refine lh_iconst rfl lh_k_0 ?_
        refine lh_istore_n (lv' := [(0, .ref (65 + 4)), (1, .int v1), (2, .int 0)]) rfl rfl rfl rfl ?_
        refine lh_iload_n (q := 2) rfl rfl rfl ?_
        refine lh_aload_n (q := 0) rfl rfl rfl ?_
        refine lh_aload_n (q := 0) rfl rfl rfl ?_
        refine lh_getR4 rfl rfl (hS.1 0 _ rfl) rfl (hS.2 12 _ rfl) ?_
        refine lh_iconst rfl lh_k_0 ?_
        refine lh_iald5 (k := 0) rfl (hS.1 13 _ rfl) (by decide) (by decide) ?_
        refine lh_iload_n (q := 1) rfl rfl rfl ?_
        refine lh_iadd rfl ?_
        refine lh_bdE hf (fun r4 e5 hf => ?_)
        refine lh_cVi (N := m_LM_fellowLights) (d := 3) (o := 65) (As := [.int ((I (78 + 4) 0) + v1)]) (st := [.int 0]) rfl rfl v_LM_fellowLights (hS.1 0 _ rfl) rfl rfl rfl ⟨rfl, rfl⟩ rfl (t_LM_fellowLights hG hS e5 ?_)
        refine lh_iand rfl ?_
        refine lh_if_eq rfl (fun c6 => ?_) (fun c6 => ?_)
        · have hf := lh_ifT hf c6
          refine lh_iinc (q := 1) (v := (v1 + 1)) (lv' := [(0, .ref (65 + 4)), (1, .int (v1 + 1)), (2, .int 0)]) rfl rfl (congrArg (v1 + ·) (by decide)) rfl rfl ?_
          refine lh_goto rfl ?_
          refine lh_less [0, 1] rfl ?_
          exact ih (v1 + 1) _ hf x0_ x1_
        · have hf := lh_ifF hf c6
          exact lh_less [1] rfl (by cases hf; exact x0_ rfl)
      · have hf := lh_ifF hf c3
        refine lh_aload_n (q := 0) rfl rfl rfl ?_
        refine lh_aload_n (q := 0) rfl rfl rfl ?_
        refine lh_getR4 rfl rfl (hS.1 0 _ rfl) rfl (hS.2 12 _ rfl) ?_
        refine lh_iconst rfl lh_k_5 ?_
        refine lh_iald5 (k := 5) rfl (hS.1 13 _ rfl) (by decide) (by decide) ?_
        refine lh_iconst rfl lh_k_m1 ?_
        refine lh_bdE hf (fun r7 e8 hf => ?_)
        refine lh_cVi (N := m_LM_litFrom) (d := 2) (o := 65) (As := [.int (I (78 + 4) 5), .int (-1)]) (st := []) rfl rfl v_LM_litFrom (hS.1 0 _ rfl) rfl rfl rfl ⟨rfl, rfl⟩ rfl (t_LM_litFrom hG hS e8 ?_)
        refine lh_goto rfl ?_
        refine lh_istore_n (lv' := [(0, .ref (65 + 4)), (1, .int v1), (2, .int r7)]) rfl rfl rfl rfl ?_
        refine lh_iload_n (q := 2) rfl rfl rfl ?_
        refine lh_aload_n (q := 0) rfl rfl rfl ?_
        refine lh_aload_n (q := 0) rfl rfl rfl ?_
        refine lh_getR4 rfl rfl (hS.1 0 _ rfl) rfl (hS.2 12 _ rfl) ?_
        refine lh_iconst rfl lh_k_0 ?_
        refine lh_iald5 (k := 0) rfl (hS.1 13 _ rfl) (by decide) (by decide) ?_
        refine lh_iload_n (q := 1) rfl rfl rfl ?_
        refine lh_iadd rfl ?_
        refine lh_bdE hf (fun r9 e10 hf => ?_)
        refine lh_cVi (N := m_LM_fellowLights) (d := 3) (o := 65) (As := [.int ((I (78 + 4) 0) + v1)]) (st := [.int r7]) rfl rfl v_LM_fellowLights (hS.1 0 _ rfl) rfl rfl rfl ⟨rfl, rfl⟩ rfl (t_LM_fellowLights hG hS e10 ?_)
        refine lh_iand rfl ?_
        refine lh_if_eq rfl (fun c11 => ?_) (fun c11 => ?_)
        · have hf := lh_ifT hf c11
          refine lh_iinc (q := 1) (v := (v1 + 1)) (lv' := [(0, .ref (65 + 4)), (1, .int (v1 + 1)), (2, .int r7)]) rfl rfl (congrArg (v1 + ·) (by decide)) rfl rfl ?_
          refine lh_goto rfl ?_
          refine lh_less [0, 1] rfl ?_
          exact ih (v1 + 1) _ hf x0_ x1_
        · have hf := lh_ifF hf c11
          exact lh_less [1] rfl (by cases hf; exact x0_ rfl)
theorem t_LM_meet {Γ : lh_Cx} {I : lh_II} {L : lh_LL} {F : lh_FF} {S : lh_SS} {K : Int32 → lh_Hp → Prop} {r : Int32 × lh_II} (hG : lh_GX Γ) (hS : lh_laym F S)  (hf : f_LM_meet I = some r) (hK : K r.1 (r.2, L, F, S)) : lh_Met Γ m_LM_meet 4 0 0 [.ref (65 + 4)] (I, L, F, S) (lh_ki K) := by
  rw [f_LM_meet] at hf
  refine lh_ofG k_LM_meet [(0, .ref (65 + 4))] rfl (Nat.le_of_ble_eq_true rfl) rfl ?_
  refine lh_aload_n (q := 0) rfl rfl rfl ?_
  refine lh_iconst rfl lh_k_0 ?_
  refine lh_putI4 rfl rfl (hS.1 0 _ rfl) rfl rfl ?_
  refine lh_aload_n (q := 0) rfl rfl rfl ?_
  refine lh_getR4 rfl rfl (hS.1 0 _ rfl) rfl (hS.2 5 _ rfl) ?_
  refine lh_bipush rfl lh_b_6 ?_
  refine lh_iald5 (k := 6) rfl (hS.1 6 _ rfl) (by decide) (by decide) ?_
  refine lh_if_ne rfl (fun c1 => ?_) (fun c1 => ?_)
  · have hf := lh_ifF hf c1
    refine lh_iconst rfl lh_k_0 ?_
    refine lh_istore_n (lv' := [(0, .ref (65 + 4)), (1, .int 0)]) rfl rfl rfl rfl ?_
    refine lh_bdE hf (fun r12 e13 hf => ?_)
    refine t_LM_meet_12 hG hS  _ 0 _ e13 (fun q0_ => ?_) (fun q1_ => ?_)
    · have hf := lh_ifT hf q0_
      refine lh_iload_n (q := 0) rfl rfl rfl ?_
      exact lh_iret rfl rfl rfl (by obtain rfl := Option.some.inj hf; exact hK)
    · have hf := lh_ifF hf (by rw [q1_]; decide)
      refine lh_iconst rfl lh_k_m1 ?_
      exact lh_iret rfl rfl rfl (by obtain rfl := Option.some.inj hf; exact hK)
  · have hf := lh_ifT hf c1
    refine lh_iconst rfl lh_k_m1 ?_
    exact lh_iret rfl rfl rfl (by obtain rfl := Option.some.inj hf; exact hK)
def f_LM_never_7 (I : lh_II) : Nat → Int32 → Int32 → Option (Int32)
  | 0, _, _ => none
  | n + 1, v1, v2 => if (I (71 + 4) 6) ≤ v2 then some v1 else lh_bd (f_LM_fellowLights v2 I) fun r2 => f_LM_never_7 I n (v1 ||| r2) (v2 + 1)
def f_LM_never (I : lh_II) : Option (Int32 × lh_II) := lh_bd (f_LM_never_7 (lh_u2 I (65 + 4) 0 0) lh_fuel 0 0) fun r4 => lh_bd (f_LM_cells (lh_u2 I (65 + 4) 0 0)) fun r6 => some (((((1 : Int32) <<< (r6 &&& 31)) - 1) &&& (r4 ^^^ (-1))), lh_u2 I (65 + 4) 0 0)
theorem t_LM_never_7 {Γ : lh_Cx} {F : lh_FF} {S : lh_SS} {Z : List Frame → Array Value → State → State → Prop} (hG : lh_GX Γ) (hS : lh_laym F S)   {I : lh_II} {L : lh_LL} : ∀ (n : Nat) (v1 : Int32) (v2 : Int32) (o : Int32), f_LM_never_7 I n v1 v2 = some o → ∀ (x0_ : lh_G Γ m_LM_never (lh_R 4 0 0) Z 0 0 21 [(0, .ref (65 + 4)), (1, .int o)] [] (I, L, F, S)), lh_G Γ m_LM_never (lh_R 4 0 0) Z 0 0 7 [(0, .ref (65 + 4)), (1, .int v1), (2, .int v2)] [] (I, L, F, S) := by
  intro n
  induction n with
  | zero => intro v1 v2 o hf; cases hf
  | succ n ih =>
    intro v1 v2 o hf x0_
    rw [f_LM_never_7] at hf
    refine lh_iload_n (q := 2) rfl rfl rfl ?_
    refine lh_aload_n (q := 0) rfl rfl rfl ?_
    refine lh_getR4 rfl rfl (hS.1 0 _ rfl) rfl (hS.2 5 _ rfl) ?_
    refine lh_bipush rfl lh_b_6 ?_
    refine lh_iald5 (k := 6) rfl (hS.1 6 _ rfl) (by decide) (by decide) ?_
    refine lh_icmp_ge rfl (fun c1 => ?_) (fun c1 => ?_)
    · have hf := lh_ifT hf c1
      exact lh_less [0, 1] rfl (by cases hf; exact x0_)
    · have hf := lh_ifF hf c1
      refine lh_iload_n (q := 1) rfl rfl rfl ?_
      refine lh_aload_n (q := 0) rfl rfl rfl ?_
      refine lh_iload_n (q := 2) rfl rfl rfl ?_
      refine lh_bdE hf (fun r2 e3 hf => ?_)
      refine lh_cVi (N := m_LM_fellowLights) (d := 3) (o := 65) (As := [.int v2]) (st := [.int v1]) rfl rfl v_LM_fellowLights (hS.1 0 _ rfl) rfl rfl rfl ⟨rfl, rfl⟩ rfl (t_LM_fellowLights hG hS e3 ?_)
      refine lh_ior rfl ?_
      refine lh_istore_n (lv' := [(0, .ref (65 + 4)), (1, .int (v1 ||| r2)), (2, .int v2)]) rfl rfl rfl rfl ?_
      refine lh_iinc (q := 2) (v := (v2 + 1)) (lv' := [(0, .ref (65 + 4)), (1, .int (v1 ||| r2)), (2, .int (v2 + 1))]) rfl rfl (congrArg (v2 + ·) (by decide)) rfl rfl ?_
      refine lh_goto rfl ?_
      exact ih (v1 ||| r2) (v2 + 1) _ hf x0_
theorem t_LM_never {Γ : lh_Cx} {I : lh_II} {L : lh_LL} {F : lh_FF} {S : lh_SS} {K : Int32 → lh_Hp → Prop} {r : Int32 × lh_II} (hG : lh_GX Γ) (hS : lh_laym F S)  (hf : f_LM_never I = some r) (hK : K r.1 (r.2, L, F, S)) : lh_Met Γ m_LM_never 4 0 0 [.ref (65 + 4)] (I, L, F, S) (lh_ki K) := by
  rw [f_LM_never] at hf
  refine lh_ofG k_LM_never [(0, .ref (65 + 4))] rfl (Nat.le_of_ble_eq_true rfl) rfl ?_
  refine lh_aload_n (q := 0) rfl rfl rfl ?_
  refine lh_iconst rfl lh_k_0 ?_
  refine lh_putI4 rfl rfl (hS.1 0 _ rfl) rfl rfl ?_
  refine lh_iconst rfl lh_k_0 ?_
  refine lh_istore_n (lv' := [(0, .ref (65 + 4)), (1, .int 0)]) rfl rfl rfl rfl ?_
  refine lh_iconst rfl lh_k_0 ?_
  refine lh_istore_n (lv' := [(0, .ref (65 + 4)), (1, .int 0), (2, .int 0)]) rfl rfl rfl rfl ?_
  refine lh_bdE hf (fun r4 e5 hf => ?_)
  refine t_LM_never_7 hG hS  _ 0 0 _ e5 ?_
  refine lh_iconst rfl lh_k_1 ?_
  refine lh_aload_n (q := 0) rfl rfl rfl ?_
  refine lh_bdE hf (fun r6 e7 hf => ?_)
  refine lh_cVi (N := m_LM_cells) (d := 0) (o := 65) (As := []) (st := [.int 1]) rfl rfl v_LM_cells (hS.1 0 _ rfl) rfl rfl rfl ⟨rfl, rfl⟩ rfl (t_LM_cells hG hS e7 ?_)
  refine lh_ishl rfl ?_
  refine lh_iconst rfl lh_k_1 ?_
  refine lh_isub rfl ?_
  refine lh_iload_n (q := 1) rfl rfl rfl ?_
  refine lh_iconst rfl lh_k_m1 ?_
  refine lh_ixor rfl ?_
  refine lh_iand rfl ?_
  exact lh_iret rfl rfl rfl (by obtain rfl := Option.some.inj hf; exact hK)
def f_LM_night_7 (L : lh_LL) : Nat → Int32 → lh_II → Option (Int32 × lh_II)
  | 0, _, _ => none
  | n + 1, v1, I => if (I (65 + 4) 8) = 0 then lh_gd (lh_ix (I (65 + 4) 7) 1002) (if (I (67 + 4) (I (65 + 4) 7).toNatClampNeg) = 0 then some (v1, I) else lh_bd (f_LM_isWord (3 : Int32) I L) fun r6 => if r6 = 0 then lh_bd (f_LM_isWord (12 : Int32) I L) fun r9 => if r9 = 0 then lh_bd (f_LM_wordHere (13 : Int32) (3 : Int32) I L) fun r12 => if 0 ≤ r12 then lh_bd (f_LM_wordHere (13 : Int32) (3 : Int32) I L) fun r15 => if 0 ≤ (r15 + 2) then if v1 = 40 then lh_bd (f_LM_wrong (5 : Int32) I) fun r35 => lh_bd (f_LM_takeSign (59 : Int32) r35 L) fun r37 => f_LM_night_7 L n v1 r37 else lh_gd (lh_ix (85 + (2 * v1)) 170) (if (r15 + 2) = 3 then lh_bd (f_LM_takeNumber (0 : Int32) (3 : Int32) (lh_u2 (lh_u2 I (65 + 4) 7 ((I (65 + 4) 7) + 1)) (75 + 4) (85 + (2 * v1)).toNatClampNeg (r15 + 2)) L) fun r30 => lh_gd (lh_ix (86 + (2 * v1)) 170) (lh_bd (f_LM_takeSign (59 : Int32) (lh_u2 r30.2 (75 + 4) (86 + (2 * v1)).toNatClampNeg r30.1) L) fun r33 => f_LM_night_7 L n (v1 + 1) r33) else if (r15 + 2) = 4 then lh_bd (f_LM_takeNumber (1 : Int32) (99 : Int32) (lh_u2 (lh_u2 I (65 + 4) 7 ((I (65 + 4) 7) + 1)) (75 + 4) (85 + (2 * v1)).toNatClampNeg (r15 + 2)) L) fun r25 => lh_gd (lh_ix (86 + (2 * v1)) 170) (lh_bd (f_LM_takeSign (59 : Int32) (lh_u2 r25.2 (75 + 4) (86 + (2 * v1)).toNatClampNeg r25.1) L) fun r28 => f_LM_night_7 L n (v1 + 1) r28) else lh_gd (lh_ix (86 + (2 * v1)) 170) (lh_bd (f_LM_takeSign (59 : Int32) (lh_u2 (lh_u2 (lh_u2 I (65 + 4) 7 ((I (65 + 4) 7) + 1)) (75 + 4) (85 + (2 * v1)).toNatClampNeg (r15 + 2)) (75 + 4) (86 + (2 * v1)).toNatClampNeg 0) L) fun r23 => f_LM_night_7 L n (v1 + 1) r23)) else lh_bd (f_LM_wrong (1 : Int32) I) fun r39 => lh_bd (f_LM_takeSign (59 : Int32) r39 L) fun r41 => f_LM_night_7 L n v1 r41 else lh_bd (f_LM_wrong (1 : Int32) I) fun r43 => lh_bd (f_LM_takeSign (59 : Int32) r43 L) fun r45 => f_LM_night_7 L n v1 r45 else if v1 = 40 then lh_bd (f_LM_wrong (5 : Int32) I) fun r52 => lh_bd (f_LM_takeSign (59 : Int32) r52 L) fun r54 => f_LM_night_7 L n v1 r54 else lh_gd (lh_ix (85 + (2 * v1)) 170) (lh_gd (lh_ix (86 + (2 * v1)) 170) (lh_bd (f_LM_takeSign (59 : Int32) (lh_u2 (lh_u2 (lh_u2 I (65 + 4) 7 ((I (65 + 4) 7) + 1)) (75 + 4) (85 + (2 * v1)).toNatClampNeg 1) (75 + 4) (86 + (2 * v1)).toNatClampNeg 0) L) fun r50 => f_LM_night_7 L n (v1 + 1) r50)) else if v1 = 40 then lh_bd (f_LM_wrong (5 : Int32) I) fun r61 => lh_bd (f_LM_takeSign (59 : Int32) r61 L) fun r63 => f_LM_night_7 L n v1 r63 else lh_gd (lh_ix (85 + (2 * v1)) 170) (lh_gd (lh_ix (86 + (2 * v1)) 170) (lh_bd (f_LM_takeSign (59 : Int32) (lh_u2 (lh_u2 (lh_u2 I (65 + 4) 7 ((I (65 + 4) 7) + 1)) (75 + 4) (85 + (2 * v1)).toNatClampNeg 0) (75 + 4) (86 + (2 * v1)).toNatClampNeg 0) L) fun r59 => f_LM_night_7 L n (v1 + 1) r59))) else some (v1, I)
def f_LM_night_113 (v1 : Int32) : Nat → Int32 → lh_II → Option (lh_II)
  | 0, _, _ => none
  | n + 1, v2, I => if (2 * v1) ≤ v2 then some I else lh_gd (lh_ix (85 + v2) 170) (lh_gd (lh_ix (1 + v2) 170) (f_LM_night_113 v1 n (v2 + 1) (lh_u2 I (75 + 4) (1 + v2).toNatClampNeg (I (75 + 4) (85 + v2).toNatClampNeg))))
def f_LM_night (I : lh_II) (L : lh_LL) : Option (Int32 × lh_II × lh_LL) := lh_bd (f_LM_cutAll (lh_u2 I (65 + 4) 0 0) L) fun r1 => lh_bd (f_LM_night_7 r1.2 lh_fuel 0 r1.1) fun r65 => if (r65.2 (65 + 4) 8) ≤ 0 then lh_bd (f_LM_night_113 r65.1 lh_fuel 0 (lh_u2 r65.2 (75 + 4) 0 r65.1)) fun r71 => some (0, r71, r1.2) else some ((r65.2 (65 + 4) 8), r65.2, r1.2)
theorem t_LM_night_7 {Γ : lh_Cx} {F : lh_FF} {S : lh_SS} {Z : List Frame → Array Value → State → State → Prop} (hG : lh_GX Γ) (hS : lh_laym F S)   {L : lh_LL} : ∀ (n : Nat) (v1 : Int32) (I : lh_II) (o : Int32 × lh_II), f_LM_night_7 L n v1 I = some o → ∀ (x0_ : lh_G Γ m_LM_night (lh_R 3 0 0) Z 0 0 100 [(0, .ref (65 + 4)), (1, .int o.1)] [] (o.2, L, F, S)), lh_G Γ m_LM_night (lh_R 3 0 0) Z 0 0 7 [(0, .ref (65 + 4)), (1, .int v1)] [] (I, L, F, S) := by
  intro n
  induction n with
  | zero => intro v1 I o hf; cases hf
  | succ n ih =>
    intro v1 I o hf x0_
    rw [f_LM_night_7] at hf
    refine lh_aload_n (q := 0) rfl rfl rfl ?_
    refine lh_getI4 rfl rfl (hS.1 0 _ rfl) rfl ?_
    refine lh_if_ne rfl (fun c3 => ?_) (fun c3 => ?_)
    · have hf := lh_ifF hf c3
      cases hf; exact x0_
    · have hf := lh_ifT hf c3
      refine lh_aload_n (q := 0) rfl rfl rfl ?_
      refine lh_getR4 rfl rfl (hS.1 0 _ rfl) rfl (hS.2 1 _ rfl) ?_
      refine lh_aload_n (q := 0) rfl rfl rfl ?_
      refine lh_getI4 rfl rfl (hS.1 0 _ rfl) rfl ?_
      obtain ⟨g4, hf⟩ := lh_gdE hf
      refine lh_iald4 rfl (hS.1 2 _ rfl) g4 ?_
      refine lh_if_eq rfl (fun c5 => ?_) (fun c5 => ?_)
      · have hf := lh_ifT hf c5
        cases hf; exact x0_
      · have hf := lh_ifF hf c5
        refine lh_aload_n (q := 0) rfl rfl rfl ?_
        refine lh_iconst rfl lh_k_3 ?_
        refine lh_bdE hf (fun r6 e7 hf => ?_)
        refine lh_cVi (N := m_LM_isWord) (d := 0) (o := 65) (As := [.int 3]) (st := []) rfl rfl v_LM_isWord (hS.1 0 _ rfl) rfl rfl rfl ⟨rfl, rfl⟩ rfl (t_LM_isWord hG hS e7 ?_)
        refine lh_if_eq rfl (fun c8 => ?_) (fun c8 => ?_)
        · have hf := lh_ifT hf c8
          refine lh_aload_n (q := 0) rfl rfl rfl ?_
          refine lh_bipush rfl lh_b_12 ?_
          refine lh_bdE hf (fun r9 e10 hf => ?_)
          refine lh_cVi (N := m_LM_isWord) (d := 0) (o := 65) (As := [.int 12]) (st := []) rfl rfl v_LM_isWord (hS.1 0 _ rfl) rfl rfl rfl ⟨rfl, rfl⟩ rfl (t_LM_isWord hG hS e10 ?_)
          refine lh_if_eq rfl (fun c11 => ?_) (fun c11 => ?_)
          · have hf := lh_ifT hf c11
            refine lh_aload_n (q := 0) rfl rfl rfl ?_
            refine lh_bipush rfl lh_b_13 ?_
            refine lh_iconst rfl lh_k_3 ?_
            refine lh_bdE hf (fun r12 e13 hf => ?_)
            refine lh_cVi (N := m_LM_wordHere) (d := 1) (o := 65) (As := [.int 13, .int 3]) (st := []) rfl rfl v_LM_wordHere (hS.1 0 _ rfl) rfl rfl rfl ⟨rfl, rfl⟩ rfl (t_LM_wordHere hG hS e13 ?_)
            refine lh_if_ge rfl (fun c14 => ?_) (fun c14 => ?_)
            · have hf := lh_ifT hf c14
              refine lh_aload_n (q := 0) rfl rfl rfl ?_
              refine lh_bipush rfl lh_b_13 ?_
              refine lh_iconst rfl lh_k_3 ?_
              refine lh_bdE hf (fun r15 e16 hf => ?_)
              refine lh_cVi (N := m_LM_wordHere) (d := 1) (o := 65) (As := [.int 13, .int 3]) (st := []) rfl rfl v_LM_wordHere (hS.1 0 _ rfl) rfl rfl rfl ⟨rfl, rfl⟩ rfl (t_LM_wordHere hG hS e16 ?_)
              refine lh_iconst rfl lh_k_2 ?_
              refine lh_iadd rfl ?_
              refine lh_istore_n (lv' := [(0, .ref (65 + 4)), (1, .int v1), (2, .int (r15 + 2))]) rfl rfl rfl rfl ?_
              refine lh_iload_n (q := 2) rfl rfl rfl ?_
              refine lh_if_ge rfl (fun c17 => ?_) (fun c17 => ?_)
              · have hf := lh_ifT hf c17
                refine lh_iload_n (q := 1) rfl rfl rfl ?_
                refine lh_bipush rfl lh_b_40 ?_
                refine lh_icmp_ne rfl (fun c18 => ?_) (fun c18 => ?_)
                · have hf := lh_ifF hf c18
                  refine lh_aload_n (q := 0) rfl rfl rfl ?_
                  refine lh_dup rfl rfl ?_
                  refine lh_getI4 rfl rfl (hS.1 0 _ rfl) rfl ?_
                  refine lh_iconst rfl lh_k_1 ?_
                  refine lh_iadd rfl ?_
                  refine lh_putI4 rfl rfl (hS.1 0 _ rfl) rfl rfl ?_
                  refine lh_aload_n (q := 0) rfl rfl rfl ?_
                  refine lh_getR4 rfl rfl (hS.1 0 _ rfl) rfl (hS.2 9 _ rfl) ?_
                  refine lh_bipush rfl lh_b_85 ?_
                  refine lh_iconst rfl lh_k_2 ?_
                  refine lh_iload_n (q := 1) rfl rfl rfl ?_
                  refine lh_imul rfl ?_
                  refine lh_iadd rfl ?_
                  refine lh_iload_n (q := 2) rfl rfl rfl ?_
                  obtain ⟨g19, hf⟩ := lh_gdE hf
                  refine lh_iast4 rfl (hS.1 10 _ rfl) g19 ?_
                  refine lh_aload_n (q := 0) rfl rfl rfl ?_
                  refine lh_getR4 rfl rfl (hS.1 0 _ rfl) rfl (hS.2 9 _ rfl) ?_
                  refine lh_bipush rfl lh_b_86 ?_
                  refine lh_iconst rfl lh_k_2 ?_
                  refine lh_iload_n (q := 1) rfl rfl rfl ?_
                  refine lh_imul rfl ?_
                  refine lh_iadd rfl ?_
                  refine lh_iload_n (q := 2) rfl rfl rfl ?_
                  refine lh_iconst rfl lh_k_3 ?_
                  refine lh_icmp_ne rfl (fun c20 => ?_) (fun c20 => ?_)
                  · have hf := lh_ifF hf c20
                    refine lh_iload_n (q := 2) rfl rfl rfl ?_
                    refine lh_iconst rfl lh_k_4 ?_
                    refine lh_icmp_ne rfl (fun c21 => ?_) (fun c21 => ?_)
                    · have hf := lh_ifF hf c21
                      refine lh_iconst rfl lh_k_0 ?_
                      obtain ⟨g22, hf⟩ := lh_gdE hf
                      refine lh_iast4 rfl (hS.1 10 _ rfl) g22 ?_
                      refine lh_iinc (q := 1) (v := (v1 + 1)) (lv' := [(0, .ref (65 + 4)), (1, .int (v1 + 1)), (2, .int (r15 + 2))]) rfl rfl (congrArg (v1 + ·) (by decide)) rfl rfl ?_
                      refine lh_aload_n (q := 0) rfl rfl rfl ?_
                      refine lh_bipush rfl lh_b_59 ?_
                      refine lh_bdE hf (fun r23 e24 hf => ?_)
                      refine lh_cVv (N := m_LM_takeSign) (d := 1) (o := 65) (As := [.int 59]) (st := []) rfl rfl v_LM_takeSign (hS.1 0 _ rfl) rfl rfl rfl ⟨rfl, rfl⟩ rfl (t_LM_takeSign hG hS e24 ?_)
                      refine lh_goto rfl ?_
                      refine lh_less [0, 1] rfl ?_
                      exact ih (v1 + 1) r23 _ hf x0_
                    · have hf := lh_ifT hf c21
                      refine lh_aload_n (q := 0) rfl rfl rfl ?_
                      refine lh_iconst rfl lh_k_1 ?_
                      refine lh_bipush rfl lh_b_99 ?_
                      refine lh_bdE hf (fun r25 e26 hf => ?_)
                      refine lh_cVi (N := m_LM_takeNumber) (d := 1) (o := 65) (As := [.int 1, .int 99]) (st := [.int (86 + (2 * v1)), .ref (75 + 4)]) rfl rfl v_LM_takeNumber (hS.1 0 _ rfl) rfl rfl rfl ⟨rfl, rfl⟩ rfl (t_LM_takeNumber hG hS e26 ?_)
                      refine lh_goto rfl ?_
                      obtain ⟨g27, hf⟩ := lh_gdE hf
                      refine lh_iast4 rfl (hS.1 10 _ rfl) g27 ?_
                      refine lh_iinc (q := 1) (v := (v1 + 1)) (lv' := [(0, .ref (65 + 4)), (1, .int (v1 + 1)), (2, .int (r15 + 2))]) rfl rfl (congrArg (v1 + ·) (by decide)) rfl rfl ?_
                      refine lh_aload_n (q := 0) rfl rfl rfl ?_
                      refine lh_bipush rfl lh_b_59 ?_
                      refine lh_bdE hf (fun r28 e29 hf => ?_)
                      refine lh_cVv (N := m_LM_takeSign) (d := 1) (o := 65) (As := [.int 59]) (st := []) rfl rfl v_LM_takeSign (hS.1 0 _ rfl) rfl rfl rfl ⟨rfl, rfl⟩ rfl (t_LM_takeSign hG hS e29 ?_)
                      refine lh_goto rfl ?_
                      refine lh_less [0, 1] rfl ?_
                      exact ih (v1 + 1) r28 _ hf x0_
                  · have hf := lh_ifT hf c20
                    refine lh_aload_n (q := 0) rfl rfl rfl ?_
                    refine lh_iconst rfl lh_k_0 ?_
                    refine lh_iconst rfl lh_k_3 ?_
                    refine lh_bdE hf (fun r30 e31 hf => ?_)
                    refine lh_cVi (N := m_LM_takeNumber) (d := 1) (o := 65) (As := [.int 0, .int 3]) (st := [.int (86 + (2 * v1)), .ref (75 + 4)]) rfl rfl v_LM_takeNumber (hS.1 0 _ rfl) rfl rfl rfl ⟨rfl, rfl⟩ rfl (t_LM_takeNumber hG hS e31 ?_)
                    refine lh_goto rfl ?_
                    obtain ⟨g32, hf⟩ := lh_gdE hf
                    refine lh_iast4 rfl (hS.1 10 _ rfl) g32 ?_
                    refine lh_iinc (q := 1) (v := (v1 + 1)) (lv' := [(0, .ref (65 + 4)), (1, .int (v1 + 1)), (2, .int (r15 + 2))]) rfl rfl (congrArg (v1 + ·) (by decide)) rfl rfl ?_
                    refine lh_aload_n (q := 0) rfl rfl rfl ?_
                    refine lh_bipush rfl lh_b_59 ?_
                    refine lh_bdE hf (fun r33 e34 hf => ?_)
                    refine lh_cVv (N := m_LM_takeSign) (d := 1) (o := 65) (As := [.int 59]) (st := []) rfl rfl v_LM_takeSign (hS.1 0 _ rfl) rfl rfl rfl ⟨rfl, rfl⟩ rfl (t_LM_takeSign hG hS e34 ?_)
                    refine lh_goto rfl ?_
                    refine lh_less [0, 1] rfl ?_
                    exact ih (v1 + 1) r33 _ hf x0_
                · have hf := lh_ifT hf c18
                  refine lh_aload_n (q := 0) rfl rfl rfl ?_
                  refine lh_iconst rfl lh_k_5 ?_
                  refine lh_bdE hf (fun r35 e36 hf => ?_)
                  refine lh_cVv (N := m_LM_wrong) (d := 0) (o := 65) (As := [.int 5]) (st := []) rfl rfl v_LM_wrong (hS.1 0 _ rfl) rfl rfl rfl ⟨rfl, rfl⟩ rfl (t_LM_wrong hG hS e36 ?_)
                  refine lh_goto rfl ?_
                  refine lh_aload_n (q := 0) rfl rfl rfl ?_
                  refine lh_bipush rfl lh_b_59 ?_
                  refine lh_bdE hf (fun r37 e38 hf => ?_)
                  refine lh_cVv (N := m_LM_takeSign) (d := 1) (o := 65) (As := [.int 59]) (st := []) rfl rfl v_LM_takeSign (hS.1 0 _ rfl) rfl rfl rfl ⟨rfl, rfl⟩ rfl (t_LM_takeSign hG hS e38 ?_)
                  refine lh_goto rfl ?_
                  refine lh_less [0, 1] rfl ?_
                  exact ih v1 r37 _ hf x0_
              · have hf := lh_ifF hf c17
                refine lh_aload_n (q := 0) rfl rfl rfl ?_
                refine lh_iconst rfl lh_k_1 ?_
                refine lh_bdE hf (fun r39 e40 hf => ?_)
                refine lh_cVv (N := m_LM_wrong) (d := 0) (o := 65) (As := [.int 1]) (st := []) rfl rfl v_LM_wrong (hS.1 0 _ rfl) rfl rfl rfl ⟨rfl, rfl⟩ rfl (t_LM_wrong hG hS e40 ?_)
                refine lh_goto rfl ?_
                refine lh_aload_n (q := 0) rfl rfl rfl ?_
                refine lh_bipush rfl lh_b_59 ?_
                refine lh_bdE hf (fun r41 e42 hf => ?_)
                refine lh_cVv (N := m_LM_takeSign) (d := 1) (o := 65) (As := [.int 59]) (st := []) rfl rfl v_LM_takeSign (hS.1 0 _ rfl) rfl rfl rfl ⟨rfl, rfl⟩ rfl (t_LM_takeSign hG hS e42 ?_)
                refine lh_goto rfl ?_
                refine lh_less [0, 1] rfl ?_
                exact ih v1 r41 _ hf x0_
            · have hf := lh_ifF hf c14
              refine lh_iconst rfl lh_k_m1 ?_
              refine lh_goto rfl ?_
              refine lh_istore_n (lv' := [(0, .ref (65 + 4)), (1, .int v1), (2, .int (-1))]) rfl rfl rfl rfl ?_
              refine lh_iload_n (q := 2) rfl rfl rfl ?_
              refine lh_if_ge rfl (fun c => absurd c (by decide)) (fun _ => ?_)
              refine lh_aload_n (q := 0) rfl rfl rfl ?_
              refine lh_iconst rfl lh_k_1 ?_
              refine lh_bdE hf (fun r43 e44 hf => ?_)
              refine lh_cVv (N := m_LM_wrong) (d := 0) (o := 65) (As := [.int 1]) (st := []) rfl rfl v_LM_wrong (hS.1 0 _ rfl) rfl rfl rfl ⟨rfl, rfl⟩ rfl (t_LM_wrong hG hS e44 ?_)
              refine lh_goto rfl ?_
              refine lh_aload_n (q := 0) rfl rfl rfl ?_
              refine lh_bipush rfl lh_b_59 ?_
              refine lh_bdE hf (fun r45 e46 hf => ?_)
              refine lh_cVv (N := m_LM_takeSign) (d := 1) (o := 65) (As := [.int 59]) (st := []) rfl rfl v_LM_takeSign (hS.1 0 _ rfl) rfl rfl rfl ⟨rfl, rfl⟩ rfl (t_LM_takeSign hG hS e46 ?_)
              refine lh_goto rfl ?_
              refine lh_less [0, 1] rfl ?_
              exact ih v1 r45 _ hf x0_
          · have hf := lh_ifF hf c11
            refine lh_iconst rfl lh_k_1 ?_
            refine lh_goto rfl ?_
            refine lh_istore_n (lv' := [(0, .ref (65 + 4)), (1, .int v1), (2, .int 1)]) rfl rfl rfl rfl ?_
            refine lh_iload_n (q := 2) rfl rfl rfl ?_
            refine lh_if_ge rfl (fun _ => ?_) (fun c => absurd (by decide) c) 
            refine lh_iload_n (q := 1) rfl rfl rfl ?_
            refine lh_bipush rfl lh_b_40 ?_
            refine lh_icmp_ne rfl (fun c47 => ?_) (fun c47 => ?_)
            · have hf := lh_ifF hf c47
              refine lh_aload_n (q := 0) rfl rfl rfl ?_
              refine lh_dup rfl rfl ?_
              refine lh_getI4 rfl rfl (hS.1 0 _ rfl) rfl ?_
              refine lh_iconst rfl lh_k_1 ?_
              refine lh_iadd rfl ?_
              refine lh_putI4 rfl rfl (hS.1 0 _ rfl) rfl rfl ?_
              refine lh_aload_n (q := 0) rfl rfl rfl ?_
              refine lh_getR4 rfl rfl (hS.1 0 _ rfl) rfl (hS.2 9 _ rfl) ?_
              refine lh_bipush rfl lh_b_85 ?_
              refine lh_iconst rfl lh_k_2 ?_
              refine lh_iload_n (q := 1) rfl rfl rfl ?_
              refine lh_imul rfl ?_
              refine lh_iadd rfl ?_
              refine lh_iload_n (q := 2) rfl rfl rfl ?_
              obtain ⟨g48, hf⟩ := lh_gdE hf
              refine lh_iast4 rfl (hS.1 10 _ rfl) g48 ?_
              refine lh_aload_n (q := 0) rfl rfl rfl ?_
              refine lh_getR4 rfl rfl (hS.1 0 _ rfl) rfl (hS.2 9 _ rfl) ?_
              refine lh_bipush rfl lh_b_86 ?_
              refine lh_iconst rfl lh_k_2 ?_
              refine lh_iload_n (q := 1) rfl rfl rfl ?_
              refine lh_imul rfl ?_
              refine lh_iadd rfl ?_
              refine lh_iload_n (q := 2) rfl rfl rfl ?_
              refine lh_iconst rfl lh_k_3 ?_
              refine lh_icmp_ne rfl (fun _ => ?_) (fun c => absurd c (by decide)) 
              refine lh_iload_n (q := 2) rfl rfl rfl ?_
              refine lh_iconst rfl lh_k_4 ?_
              refine lh_icmp_ne rfl (fun _ => ?_) (fun c => absurd c (by decide)) 
              refine lh_iconst rfl lh_k_0 ?_
              obtain ⟨g49, hf⟩ := lh_gdE hf
              refine lh_iast4 rfl (hS.1 10 _ rfl) g49 ?_
              refine lh_iinc (q := 1) (v := (v1 + 1)) (lv' := [(0, .ref (65 + 4)), (1, .int (v1 + 1)), (2, .int 1)]) rfl rfl (congrArg (v1 + ·) (by decide)) rfl rfl ?_
              refine lh_aload_n (q := 0) rfl rfl rfl ?_
              refine lh_bipush rfl lh_b_59 ?_
              refine lh_bdE hf (fun r50 e51 hf => ?_)
              refine lh_cVv (N := m_LM_takeSign) (d := 1) (o := 65) (As := [.int 59]) (st := []) rfl rfl v_LM_takeSign (hS.1 0 _ rfl) rfl rfl rfl ⟨rfl, rfl⟩ rfl (t_LM_takeSign hG hS e51 ?_)
              refine lh_goto rfl ?_
              refine lh_less [0, 1] rfl ?_
              exact ih (v1 + 1) r50 _ hf x0_
            · have hf := lh_ifT hf c47
              refine lh_aload_n (q := 0) rfl rfl rfl ?_
              refine lh_iconst rfl lh_k_5 ?_
              refine lh_bdE hf (fun r52 e53 hf => ?_)
              refine lh_cVv (N := m_LM_wrong) (d := 0) (o := 65) (As := [.int 5]) (st := []) rfl rfl v_LM_wrong (hS.1 0 _ rfl) rfl rfl rfl ⟨rfl, rfl⟩ rfl (t_LM_wrong hG hS e53 ?_)
              refine lh_goto rfl ?_
              refine lh_aload_n (q := 0) rfl rfl rfl ?_
              refine lh_bipush rfl lh_b_59 ?_
              refine lh_bdE hf (fun r54 e55 hf => ?_)
              refine lh_cVv (N := m_LM_takeSign) (d := 1) (o := 65) (As := [.int 59]) (st := []) rfl rfl v_LM_takeSign (hS.1 0 _ rfl) rfl rfl rfl ⟨rfl, rfl⟩ rfl (t_LM_takeSign hG hS e55 ?_)
              refine lh_goto rfl ?_
              refine lh_less [0, 1] rfl ?_
              exact ih v1 r54 _ hf x0_
        · have hf := lh_ifF hf c8
          refine lh_iconst rfl lh_k_0 ?_
          refine lh_goto rfl ?_
          refine lh_istore_n (lv' := [(0, .ref (65 + 4)), (1, .int v1), (2, .int 0)]) rfl rfl rfl rfl ?_
          refine lh_iload_n (q := 2) rfl rfl rfl ?_
          refine lh_if_ge rfl (fun _ => ?_) (fun c => absurd (by decide) c) 
          refine lh_iload_n (q := 1) rfl rfl rfl ?_
          refine lh_bipush rfl lh_b_40 ?_
          refine lh_icmp_ne rfl (fun c56 => ?_) (fun c56 => ?_)
          · have hf := lh_ifF hf c56
            refine lh_aload_n (q := 0) rfl rfl rfl ?_
            refine lh_dup rfl rfl ?_
            refine lh_getI4 rfl rfl (hS.1 0 _ rfl) rfl ?_
            refine lh_iconst rfl lh_k_1 ?_
            refine lh_iadd rfl ?_
            refine lh_putI4 rfl rfl (hS.1 0 _ rfl) rfl rfl ?_
            refine lh_aload_n (q := 0) rfl rfl rfl ?_
            refine lh_getR4 rfl rfl (hS.1 0 _ rfl) rfl (hS.2 9 _ rfl) ?_
            refine lh_bipush rfl lh_b_85 ?_
            refine lh_iconst rfl lh_k_2 ?_
            refine lh_iload_n (q := 1) rfl rfl rfl ?_
            refine lh_imul rfl ?_
            refine lh_iadd rfl ?_
            refine lh_iload_n (q := 2) rfl rfl rfl ?_
            obtain ⟨g57, hf⟩ := lh_gdE hf
            refine lh_iast4 rfl (hS.1 10 _ rfl) g57 ?_
            refine lh_aload_n (q := 0) rfl rfl rfl ?_
            refine lh_getR4 rfl rfl (hS.1 0 _ rfl) rfl (hS.2 9 _ rfl) ?_
            refine lh_bipush rfl lh_b_86 ?_
            refine lh_iconst rfl lh_k_2 ?_
            refine lh_iload_n (q := 1) rfl rfl rfl ?_
            refine lh_imul rfl ?_
            refine lh_iadd rfl ?_
            refine lh_iload_n (q := 2) rfl rfl rfl ?_
            refine lh_iconst rfl lh_k_3 ?_
            refine lh_icmp_ne rfl (fun _ => ?_) (fun c => absurd c (by decide)) 
            refine lh_iload_n (q := 2) rfl rfl rfl ?_
            refine lh_iconst rfl lh_k_4 ?_
            refine lh_icmp_ne rfl (fun _ => ?_) (fun c => absurd c (by decide)) 
            refine lh_iconst rfl lh_k_0 ?_
            obtain ⟨g58, hf⟩ := lh_gdE hf
            refine lh_iast4 rfl (hS.1 10 _ rfl) g58 ?_
            refine lh_iinc (q := 1) (v := (v1 + 1)) (lv' := [(0, .ref (65 + 4)), (1, .int (v1 + 1)), (2, .int 0)]) rfl rfl (congrArg (v1 + ·) (by decide)) rfl rfl ?_
            refine lh_aload_n (q := 0) rfl rfl rfl ?_
            refine lh_bipush rfl lh_b_59 ?_
            refine lh_bdE hf (fun r59 e60 hf => ?_)
            refine lh_cVv (N := m_LM_takeSign) (d := 1) (o := 65) (As := [.int 59]) (st := []) rfl rfl v_LM_takeSign (hS.1 0 _ rfl) rfl rfl rfl ⟨rfl, rfl⟩ rfl (t_LM_takeSign hG hS e60 ?_)
            refine lh_goto rfl ?_
            refine lh_less [0, 1] rfl ?_
            exact ih (v1 + 1) r59 _ hf x0_
          · have hf := lh_ifT hf c56
            refine lh_aload_n (q := 0) rfl rfl rfl ?_
            refine lh_iconst rfl lh_k_5 ?_
            refine lh_bdE hf (fun r61 e62 hf => ?_)
            refine lh_cVv (N := m_LM_wrong) (d := 0) (o := 65) (As := [.int 5]) (st := []) rfl rfl v_LM_wrong (hS.1 0 _ rfl) rfl rfl rfl ⟨rfl, rfl⟩ rfl (t_LM_wrong hG hS e62 ?_)
            refine lh_goto rfl ?_
            refine lh_aload_n (q := 0) rfl rfl rfl ?_
            refine lh_bipush rfl lh_b_59 ?_
            refine lh_bdE hf (fun r63 e64 hf => ?_)
            refine lh_cVv (N := m_LM_takeSign) (d := 1) (o := 65) (As := [.int 59]) (st := []) rfl rfl v_LM_takeSign (hS.1 0 _ rfl) rfl rfl rfl ⟨rfl, rfl⟩ rfl (t_LM_takeSign hG hS e64 ?_)
            refine lh_goto rfl ?_
            refine lh_less [0, 1] rfl ?_
            exact ih v1 r63 _ hf x0_
theorem t_LM_night_113 {Γ : lh_Cx} {F : lh_FF} {S : lh_SS} {Z : List Frame → Array Value → State → State → Prop} (hG : lh_GX Γ) (hS : lh_laym F S)  {v1 : Int32} {L : lh_LL} : ∀ (n : Nat) (v2 : Int32) (I : lh_II) (o : lh_II), f_LM_night_113 v1 n v2 I = some o → ∀ (x0_ : lh_G Γ m_LM_night (lh_R 3 0 0) Z 0 0 132 [] [] (o, L, F, S)), lh_G Γ m_LM_night (lh_R 3 0 0) Z 0 0 113 [(0, .ref (65 + 4)), (1, .int v1), (2, .int v2)] [] (I, L, F, S) := by
  intro n
  induction n with
  | zero => intro v2 I o hf; cases hf
  | succ n ih =>
    intro v2 I o hf x0_
    rw [f_LM_night_113] at hf
    refine lh_iload_n (q := 2) rfl rfl rfl ?_
    refine lh_iconst rfl lh_k_2 ?_
    refine lh_iload_n (q := 1) rfl rfl rfl ?_
    refine lh_imul rfl ?_
    refine lh_icmp_ge rfl (fun c68 => ?_) (fun c68 => ?_)
    · have hf := lh_ifT hf c68
      exact lh_less [] rfl (by cases hf; exact x0_)
    · have hf := lh_ifF hf c68
      refine lh_aload_n (q := 0) rfl rfl rfl ?_
      refine lh_getR4 rfl rfl (hS.1 0 _ rfl) rfl (hS.2 9 _ rfl) ?_
      refine lh_iconst rfl lh_k_1 ?_
      refine lh_iload_n (q := 2) rfl rfl rfl ?_
      refine lh_iadd rfl ?_
      refine lh_aload_n (q := 0) rfl rfl rfl ?_
      refine lh_getR4 rfl rfl (hS.1 0 _ rfl) rfl (hS.2 9 _ rfl) ?_
      refine lh_bipush rfl lh_b_85 ?_
      refine lh_iload_n (q := 2) rfl rfl rfl ?_
      refine lh_iadd rfl ?_
      obtain ⟨g69, hf⟩ := lh_gdE hf
      refine lh_iald4 rfl (hS.1 10 _ rfl) g69 ?_
      obtain ⟨g70, hf⟩ := lh_gdE hf
      refine lh_iast4 rfl (hS.1 10 _ rfl) g70 ?_
      refine lh_iinc (q := 2) (v := (v2 + 1)) (lv' := [(0, .ref (65 + 4)), (1, .int v1), (2, .int (v2 + 1))]) rfl rfl (congrArg (v2 + ·) (by decide)) rfl rfl ?_
      refine lh_goto rfl ?_
      exact ih (v2 + 1) (lh_u2 I (75 + 4) (1 + v2).toNatClampNeg (I (75 + 4) (85 + v2).toNatClampNeg)) _ hf x0_
theorem t_LM_night {Γ : lh_Cx} {I : lh_II} {L : lh_LL} {F : lh_FF} {S : lh_SS} {K : Int32 → lh_Hp → Prop} {r : Int32 × lh_II × lh_LL} (hG : lh_GX Γ) (hS : lh_laym F S)  (hf : f_LM_night I L = some r) (hK : K r.1 (r.2.1, r.2.2, F, S)) : lh_Met Γ m_LM_night 3 0 0 [.ref (65 + 4)] (I, L, F, S) (lh_ki K) := by
  rw [f_LM_night] at hf
  refine lh_ofG k_LM_night [(0, .ref (65 + 4))] rfl (Nat.le_of_ble_eq_true rfl) rfl ?_
  refine lh_aload_n (q := 0) rfl rfl rfl ?_
  refine lh_iconst rfl lh_k_0 ?_
  refine lh_putI4 rfl rfl (hS.1 0 _ rfl) rfl rfl ?_
  refine lh_aload_n (q := 0) rfl rfl rfl ?_
  refine lh_bdE hf (fun r1 e2 hf => ?_)
  refine lh_cVv (N := m_LM_cutAll) (d := 2) (o := 65) (As := []) (st := []) rfl rfl v_LM_cutAll (hS.1 0 _ rfl) rfl rfl rfl ⟨rfl, rfl⟩ rfl (t_LM_cutAll hG hS e2 ?_)
  refine lh_iconst rfl lh_k_0 ?_
  refine lh_istore_n (lv' := [(0, .ref (65 + 4)), (1, .int 0)]) rfl rfl rfl rfl ?_
  refine lh_bdE hf (fun r65 e66 hf => ?_)
  refine t_LM_night_7 hG hS  _ 0 r1.1 _ e66 ?_
  refine lh_aload_n (q := 0) rfl rfl rfl ?_
  refine lh_getI4 rfl rfl (hS.1 0 _ rfl) rfl ?_
  refine lh_if_le rfl (fun c67 => ?_) (fun c67 => ?_)
  · have hf := lh_ifT hf c67
    refine lh_aload_n (q := 0) rfl rfl rfl ?_
    refine lh_getR4 rfl rfl (hS.1 0 _ rfl) rfl (hS.2 9 _ rfl) ?_
    refine lh_iconst rfl lh_k_0 ?_
    refine lh_iload_n (q := 1) rfl rfl rfl ?_
    refine lh_iast5 (k := 0) rfl (hS.1 10 _ rfl) (by decide) (by decide) ?_
    refine lh_iconst rfl lh_k_0 ?_
    refine lh_istore_n (lv' := [(0, .ref (65 + 4)), (1, .int r65.1), (2, .int 0)]) rfl rfl rfl rfl ?_
    refine lh_bdE hf (fun r71 e72 hf => ?_)
    refine t_LM_night_113 hG hS  _ 0 (lh_u2 r65.2 (75 + 4) 0 r65.1) _ e72 ?_
    refine lh_iconst rfl lh_k_0 ?_
    exact lh_iret rfl rfl rfl (by obtain rfl := Option.some.inj hf; exact hK)
  · have hf := lh_ifF hf c67
    refine lh_aload_n (q := 0) rfl rfl rfl ?_
    refine lh_getI4 rfl rfl (hS.1 0 _ rfl) rfl ?_
    exact lh_iret rfl rfl rfl (by obtain rfl := Option.some.inj hf; exact hK)
def f_LM_nights_31 (v2 : Int32) (v3 : Int32) : Nat → Int32 → lh_II → lh_LL → Option (lh_II × lh_LL)
  | 0, _, _, _ => none
  | n + 1, v4, I, L => if v2 ≤ v4 then some (I, L) else lh_bd (f_LM_draw (8 : Int32) L) fun r13 => if r13.1 = 7 then lh_bd (f_LM_draw (4 : Int32) r13.2) fun r24 => if r24.1 < 0 then if 3 ≤ r13.1 then if 6 ≤ r13.1 then lh_bd (f_LM_steps (704 : Int32) (0 : Int32) I) fun r29 => f_LM_nights_31 v2 v3 n (v4 + 1) r29.2 r24.2 else lh_bd (f_LM_steps (704 : Int32) ((-1) : Int32) I) fun r31 => f_LM_nights_31 v2 v3 n (v4 + 1) r31.2 r24.2 else lh_bd (f_LM_steps (704 : Int32) (1 : Int32) I) fun r33 => f_LM_nights_31 v2 v3 n (v4 + 1) r33.2 r24.2 else if (I (78 + 4) 708) ≤ 1 then if 3 ≤ r13.1 then if 6 ≤ r13.1 then lh_bd (f_LM_steps (704 : Int32) (0 : Int32) I) fun r38 => f_LM_nights_31 v2 v3 n (v4 + 1) r38.2 r24.2 else lh_bd (f_LM_steps (704 : Int32) ((-1) : Int32) I) fun r40 => f_LM_nights_31 v2 v3 n (v4 + 1) r40.2 r24.2 else lh_bd (f_LM_steps (704 : Int32) (1 : Int32) I) fun r42 => f_LM_nights_31 v2 v3 n (v4 + 1) r42.2 r24.2 else lh_bd (f_LM_trims (704 : Int32) r24.1 I) fun r44 => if 3 ≤ r13.1 then if 6 ≤ r13.1 then lh_bd (f_LM_steps (704 : Int32) (0 : Int32) r44) fun r48 => f_LM_nights_31 v2 v3 n (v4 + 1) r48.2 r24.2 else lh_bd (f_LM_steps (704 : Int32) ((-1) : Int32) r44) fun r50 => f_LM_nights_31 v2 v3 n (v4 + 1) r50.2 r24.2 else lh_bd (f_LM_steps (704 : Int32) (1 : Int32) r44) fun r52 => f_LM_nights_31 v2 v3 n (v4 + 1) r52.2 r24.2 else if 3 ≤ r13.1 then if 6 ≤ r13.1 then lh_bd (f_LM_steps (704 : Int32) (0 : Int32) I) fun r18 => f_LM_nights_31 v2 v3 n (v4 + 1) r18.2 r13.2 else lh_bd (f_LM_steps (704 : Int32) ((-1) : Int32) I) fun r20 => f_LM_nights_31 v2 v3 n (v4 + 1) r20.2 r13.2 else lh_bd (f_LM_steps (704 : Int32) (1 : Int32) I) fun r22 => f_LM_nights_31 v2 v3 n (v4 + 1) r22.2 r13.2
def f_LM_nights (x1 : Int32) (x2 : Int32) (x3 : Int32) (I : lh_II) (L : lh_LL) : Option (Int32 × lh_II × lh_LL) := lh_bd (f_LM_within x1 (0 : Int32) (9999 : Int32)) fun r1 => if r1 = 0 then some ((-1), lh_u2 I (65 + 4) 0 0, L) else lh_bd (f_LM_within x2 (1 : Int32) (99 : Int32)) fun r4 => if r4 = 0 then some ((-1), lh_u2 I (65 + 4) 0 0, L) else lh_bd (f_LM_within x3 (0 : Int32) (2 : Int32)) fun r7 => if r7 = 0 then some ((-1), lh_u2 I (65 + 4) 0 0, L) else lh_bd (f_LM_copies (0 : Int32) (704 : Int32) (7 : Int32) (lh_u2 I (65 + 4) 0 0)) fun r10 => lh_bd (f_LM_nights_31 x2 x3 lh_fuel 0 r10 (lh_v2 L (65 + 4) 24 x1.toInt64)) fun r54 => if x3 = 0 then some ((r54.1 (78 + 4) 710), r54.1, r54.2) else if x3 = 1 then some (((r54.1 (78 + 4) 705) - (r54.1 (78 + 4) 1)), r54.1, r54.2) else some ((r54.1 (78 + 4) 708), r54.1, r54.2)
theorem t_LM_nights_31 {Γ : lh_Cx} {F : lh_FF} {S : lh_SS} {Z : List Frame → Array Value → State → State → Prop} (hG : lh_GX Γ) (hS : lh_laym F S)  {v2 : Int32} {v3 : Int32} : ∀ (n : Nat) (v4 : Int32) (I : lh_II) (L : lh_LL) (o : lh_II × lh_LL), f_LM_nights_31 v2 v3 n v4 I L = some o → ∀ (x0_ : lh_G Γ m_LM_nights (lh_R 8 0 0) Z 0 0 76 [(0, .ref (65 + 4)), (3, .int v3)] [] (o.1, o.2, F, S)), lh_G Γ m_LM_nights (lh_R 8 0 0) Z 0 0 31 [(0, .ref (65 + 4)), (2, .int v2), (3, .int v3), (4, .int v4)] [] (I, L, F, S) := by
  intro n
  induction n with
  | zero => intro v4 I L o hf; cases hf
  | succ n ih =>
    intro v4 I L o hf x0_
    rw [f_LM_nights_31] at hf
    refine lh_iload (q := 3) rfl rfl ?_
    refine lh_iload_n (q := 1) rfl rfl rfl ?_
    refine lh_icmp_ge rfl (fun c12 => ?_) (fun c12 => ?_)
    · have hf := lh_ifT hf c12
      exact lh_less [0, 2] rfl (by cases hf; exact x0_)
    · have hf := lh_ifF hf c12
      refine lh_aload_n (q := 0) rfl rfl rfl ?_
      refine lh_bipush rfl lh_b_8 ?_
      refine lh_bdE hf (fun r13 e14 hf => ?_)
      refine lh_cVi (N := m_LM_draw) (d := 0) (o := 65) (As := [.int 8]) (st := []) rfl rfl v_LM_draw (hS.1 0 _ rfl) rfl rfl rfl ⟨rfl, rfl⟩ rfl (t_LM_draw hG hS e14 ?_)
      refine lh_istore (lv' := [(0, .ref (65 + 4)), (2, .int v2), (3, .int v3), (4, .int v4), (5, .int r13.1)]) rfl rfl rfl ?_
      refine lh_iload (q := 4) rfl rfl ?_
      refine lh_bipush rfl lh_b_7 ?_
      refine lh_icmp_ne rfl (fun c15 => ?_) (fun c15 => ?_)
      · have hf := lh_ifF hf c15
        refine lh_iconst rfl lh_k_m1 ?_
        refine lh_istore (lv' := [(0, .ref (65 + 4)), (2, .int v2), (3, .int v3), (4, .int v4), (5, .int r13.1), (6, .int (-1))]) rfl rfl rfl ?_
        refine lh_iload (q := 5) rfl rfl ?_
        refine lh_if_lt rfl (fun _ => ?_) (fun c => absurd (by decide) c) 
        refine lh_aload_n (q := 0) rfl rfl rfl ?_
        refine lh_sipush rfl lh_s_704 ?_
        refine lh_iload (q := 4) rfl rfl ?_
        refine lh_iconst rfl lh_k_3 ?_
        refine lh_icmp_ge rfl (fun c16 => ?_) (fun c16 => ?_)
        · have hf := lh_ifT hf c16
          refine lh_iload (q := 4) rfl rfl ?_
          refine lh_bipush rfl lh_b_6 ?_
          refine lh_icmp_ge rfl (fun c17 => ?_) (fun c17 => ?_)
          · have hf := lh_ifT hf c17
            refine lh_iconst rfl lh_k_0 ?_
            refine lh_bdE hf (fun r18 e19 hf => ?_)
            refine lh_cVi (N := m_LM_steps) (d := 7) (o := 65) (As := [.int 704, .int 0]) (st := []) rfl rfl v_LM_steps (hS.1 0 _ rfl) rfl rfl rfl ⟨rfl, rfl⟩ rfl (t_LM_steps hG hS e19 ?_)
            refine lh_pop rfl rfl ?_
            refine lh_iinc (q := 3) (v := (v4 + 1)) (lv' := [(0, .ref (65 + 4)), (2, .int v2), (3, .int v3), (4, .int (v4 + 1)), (5, .int r13.1), (6, .int (-1))]) rfl rfl (congrArg (v4 + ·) (by decide)) rfl rfl ?_
            refine lh_goto rfl ?_
            refine lh_less [0, 1, 2, 3] rfl ?_
            exact ih (v4 + 1) r18.2 r13.2 _ hf x0_
          · have hf := lh_ifF hf c17
            refine lh_iconst rfl lh_k_m1 ?_
            refine lh_goto rfl ?_
            refine lh_bdE hf (fun r20 e21 hf => ?_)
            refine lh_cVi (N := m_LM_steps) (d := 7) (o := 65) (As := [.int 704, .int (-1)]) (st := []) rfl rfl v_LM_steps (hS.1 0 _ rfl) rfl rfl rfl ⟨rfl, rfl⟩ rfl (t_LM_steps hG hS e21 ?_)
            refine lh_pop rfl rfl ?_
            refine lh_iinc (q := 3) (v := (v4 + 1)) (lv' := [(0, .ref (65 + 4)), (2, .int v2), (3, .int v3), (4, .int (v4 + 1)), (5, .int r13.1), (6, .int (-1))]) rfl rfl (congrArg (v4 + ·) (by decide)) rfl rfl ?_
            refine lh_goto rfl ?_
            refine lh_less [0, 1, 2, 3] rfl ?_
            exact ih (v4 + 1) r20.2 r13.2 _ hf x0_
        · have hf := lh_ifF hf c16
          refine lh_iconst rfl lh_k_1 ?_
          refine lh_goto rfl ?_
          refine lh_bdE hf (fun r22 e23 hf => ?_)
          refine lh_cVi (N := m_LM_steps) (d := 7) (o := 65) (As := [.int 704, .int 1]) (st := []) rfl rfl v_LM_steps (hS.1 0 _ rfl) rfl rfl rfl ⟨rfl, rfl⟩ rfl (t_LM_steps hG hS e23 ?_)
          refine lh_pop rfl rfl ?_
          refine lh_iinc (q := 3) (v := (v4 + 1)) (lv' := [(0, .ref (65 + 4)), (2, .int v2), (3, .int v3), (4, .int (v4 + 1)), (5, .int r13.1), (6, .int (-1))]) rfl rfl (congrArg (v4 + ·) (by decide)) rfl rfl ?_
          refine lh_goto rfl ?_
          refine lh_less [0, 1, 2, 3] rfl ?_
          exact ih (v4 + 1) r22.2 r13.2 _ hf x0_
      · have hf := lh_ifT hf c15
        refine lh_aload_n (q := 0) rfl rfl rfl ?_
        refine lh_iconst rfl lh_k_4 ?_
        refine lh_bdE hf (fun r24 e25 hf => ?_)
        refine lh_cVi (N := m_LM_draw) (d := 0) (o := 65) (As := [.int 4]) (st := []) rfl rfl v_LM_draw (hS.1 0 _ rfl) rfl rfl rfl ⟨rfl, rfl⟩ rfl (t_LM_draw hG hS e25 ?_)
        refine lh_goto rfl ?_
        refine lh_istore (lv' := [(0, .ref (65 + 4)), (2, .int v2), (3, .int v3), (4, .int v4), (5, .int r13.1), (6, .int r24.1)]) rfl rfl rfl ?_
        refine lh_iload (q := 5) rfl rfl ?_
        refine lh_if_lt rfl (fun c26 => ?_) (fun c26 => ?_)
        · have hf := lh_ifT hf c26
          refine lh_aload_n (q := 0) rfl rfl rfl ?_
          refine lh_sipush rfl lh_s_704 ?_
          refine lh_iload (q := 4) rfl rfl ?_
          refine lh_iconst rfl lh_k_3 ?_
          refine lh_icmp_ge rfl (fun c27 => ?_) (fun c27 => ?_)
          · have hf := lh_ifT hf c27
            refine lh_iload (q := 4) rfl rfl ?_
            refine lh_bipush rfl lh_b_6 ?_
            refine lh_icmp_ge rfl (fun c28 => ?_) (fun c28 => ?_)
            · have hf := lh_ifT hf c28
              refine lh_iconst rfl lh_k_0 ?_
              refine lh_bdE hf (fun r29 e30 hf => ?_)
              refine lh_cVi (N := m_LM_steps) (d := 7) (o := 65) (As := [.int 704, .int 0]) (st := []) rfl rfl v_LM_steps (hS.1 0 _ rfl) rfl rfl rfl ⟨rfl, rfl⟩ rfl (t_LM_steps hG hS e30 ?_)
              refine lh_pop rfl rfl ?_
              refine lh_iinc (q := 3) (v := (v4 + 1)) (lv' := [(0, .ref (65 + 4)), (2, .int v2), (3, .int v3), (4, .int (v4 + 1)), (5, .int r13.1), (6, .int r24.1)]) rfl rfl (congrArg (v4 + ·) (by decide)) rfl rfl ?_
              refine lh_goto rfl ?_
              refine lh_less [0, 1, 2, 3] rfl ?_
              exact ih (v4 + 1) r29.2 r24.2 _ hf x0_
            · have hf := lh_ifF hf c28
              refine lh_iconst rfl lh_k_m1 ?_
              refine lh_goto rfl ?_
              refine lh_bdE hf (fun r31 e32 hf => ?_)
              refine lh_cVi (N := m_LM_steps) (d := 7) (o := 65) (As := [.int 704, .int (-1)]) (st := []) rfl rfl v_LM_steps (hS.1 0 _ rfl) rfl rfl rfl ⟨rfl, rfl⟩ rfl (t_LM_steps hG hS e32 ?_)
              refine lh_pop rfl rfl ?_
              refine lh_iinc (q := 3) (v := (v4 + 1)) (lv' := [(0, .ref (65 + 4)), (2, .int v2), (3, .int v3), (4, .int (v4 + 1)), (5, .int r13.1), (6, .int r24.1)]) rfl rfl (congrArg (v4 + ·) (by decide)) rfl rfl ?_
              refine lh_goto rfl ?_
              refine lh_less [0, 1, 2, 3] rfl ?_
              exact ih (v4 + 1) r31.2 r24.2 _ hf x0_
          · have hf := lh_ifF hf c27
            refine lh_iconst rfl lh_k_1 ?_
            refine lh_goto rfl ?_
            refine lh_bdE hf (fun r33 e34 hf => ?_)
            refine lh_cVi (N := m_LM_steps) (d := 7) (o := 65) (As := [.int 704, .int 1]) (st := []) rfl rfl v_LM_steps (hS.1 0 _ rfl) rfl rfl rfl ⟨rfl, rfl⟩ rfl (t_LM_steps hG hS e34 ?_)
            refine lh_pop rfl rfl ?_
            refine lh_iinc (q := 3) (v := (v4 + 1)) (lv' := [(0, .ref (65 + 4)), (2, .int v2), (3, .int v3), (4, .int (v4 + 1)), (5, .int r13.1), (6, .int r24.1)]) rfl rfl (congrArg (v4 + ·) (by decide)) rfl rfl ?_
            refine lh_goto rfl ?_
            refine lh_less [0, 1, 2, 3] rfl ?_
            exact ih (v4 + 1) r33.2 r24.2 _ hf x0_
        · have hf := lh_ifF hf c26
          refine lh_aload_n (q := 0) rfl rfl rfl ?_
          refine lh_getR4 rfl rfl (hS.1 0 _ rfl) rfl (hS.2 12 _ rfl) ?_
          refine lh_sipush rfl lh_s_708 ?_
          refine lh_iald5 (k := 708) rfl (hS.1 13 _ rfl) (by decide) (by decide) ?_
          refine lh_iconst rfl lh_k_1 ?_
          refine lh_icmp_le rfl (fun c35 => ?_) (fun c35 => ?_)
          · have hf := lh_ifT hf c35
            refine lh_aload_n (q := 0) rfl rfl rfl ?_
            refine lh_sipush rfl lh_s_704 ?_
            refine lh_iload (q := 4) rfl rfl ?_
            refine lh_iconst rfl lh_k_3 ?_
            refine lh_icmp_ge rfl (fun c36 => ?_) (fun c36 => ?_)
            · have hf := lh_ifT hf c36
              refine lh_iload (q := 4) rfl rfl ?_
              refine lh_bipush rfl lh_b_6 ?_
              refine lh_icmp_ge rfl (fun c37 => ?_) (fun c37 => ?_)
              · have hf := lh_ifT hf c37
                refine lh_iconst rfl lh_k_0 ?_
                refine lh_bdE hf (fun r38 e39 hf => ?_)
                refine lh_cVi (N := m_LM_steps) (d := 7) (o := 65) (As := [.int 704, .int 0]) (st := []) rfl rfl v_LM_steps (hS.1 0 _ rfl) rfl rfl rfl ⟨rfl, rfl⟩ rfl (t_LM_steps hG hS e39 ?_)
                refine lh_pop rfl rfl ?_
                refine lh_iinc (q := 3) (v := (v4 + 1)) (lv' := [(0, .ref (65 + 4)), (2, .int v2), (3, .int v3), (4, .int (v4 + 1)), (5, .int r13.1), (6, .int r24.1)]) rfl rfl (congrArg (v4 + ·) (by decide)) rfl rfl ?_
                refine lh_goto rfl ?_
                refine lh_less [0, 1, 2, 3] rfl ?_
                exact ih (v4 + 1) r38.2 r24.2 _ hf x0_
              · have hf := lh_ifF hf c37
                refine lh_iconst rfl lh_k_m1 ?_
                refine lh_goto rfl ?_
                refine lh_bdE hf (fun r40 e41 hf => ?_)
                refine lh_cVi (N := m_LM_steps) (d := 7) (o := 65) (As := [.int 704, .int (-1)]) (st := []) rfl rfl v_LM_steps (hS.1 0 _ rfl) rfl rfl rfl ⟨rfl, rfl⟩ rfl (t_LM_steps hG hS e41 ?_)
                refine lh_pop rfl rfl ?_
                refine lh_iinc (q := 3) (v := (v4 + 1)) (lv' := [(0, .ref (65 + 4)), (2, .int v2), (3, .int v3), (4, .int (v4 + 1)), (5, .int r13.1), (6, .int r24.1)]) rfl rfl (congrArg (v4 + ·) (by decide)) rfl rfl ?_
                refine lh_goto rfl ?_
                refine lh_less [0, 1, 2, 3] rfl ?_
                exact ih (v4 + 1) r40.2 r24.2 _ hf x0_
            · have hf := lh_ifF hf c36
              refine lh_iconst rfl lh_k_1 ?_
              refine lh_goto rfl ?_
              refine lh_bdE hf (fun r42 e43 hf => ?_)
              refine lh_cVi (N := m_LM_steps) (d := 7) (o := 65) (As := [.int 704, .int 1]) (st := []) rfl rfl v_LM_steps (hS.1 0 _ rfl) rfl rfl rfl ⟨rfl, rfl⟩ rfl (t_LM_steps hG hS e43 ?_)
              refine lh_pop rfl rfl ?_
              refine lh_iinc (q := 3) (v := (v4 + 1)) (lv' := [(0, .ref (65 + 4)), (2, .int v2), (3, .int v3), (4, .int (v4 + 1)), (5, .int r13.1), (6, .int r24.1)]) rfl rfl (congrArg (v4 + ·) (by decide)) rfl rfl ?_
              refine lh_goto rfl ?_
              refine lh_less [0, 1, 2, 3] rfl ?_
              exact ih (v4 + 1) r42.2 r24.2 _ hf x0_
          · have hf := lh_ifF hf c35
            refine lh_aload_n (q := 0) rfl rfl rfl ?_
            refine lh_sipush rfl lh_s_704 ?_
            refine lh_iload (q := 5) rfl rfl ?_
            refine lh_bdE hf (fun r44 e45 hf => ?_)
            refine lh_cVv (N := m_LM_trims) (d := 0) (o := 65) (As := [.int 704, .int r24.1]) (st := []) rfl rfl v_LM_trims (hS.1 0 _ rfl) rfl rfl rfl ⟨rfl, rfl⟩ rfl (t_LM_trims hG hS e45 ?_)
            refine lh_aload_n (q := 0) rfl rfl rfl ?_
            refine lh_sipush rfl lh_s_704 ?_
            refine lh_iload (q := 4) rfl rfl ?_
            refine lh_iconst rfl lh_k_3 ?_
            refine lh_icmp_ge rfl (fun c46 => ?_) (fun c46 => ?_)
            · have hf := lh_ifT hf c46
              refine lh_iload (q := 4) rfl rfl ?_
              refine lh_bipush rfl lh_b_6 ?_
              refine lh_icmp_ge rfl (fun c47 => ?_) (fun c47 => ?_)
              · have hf := lh_ifT hf c47
                refine lh_iconst rfl lh_k_0 ?_
                refine lh_bdE hf (fun r48 e49 hf => ?_)
                refine lh_cVi (N := m_LM_steps) (d := 7) (o := 65) (As := [.int 704, .int 0]) (st := []) rfl rfl v_LM_steps (hS.1 0 _ rfl) rfl rfl rfl ⟨rfl, rfl⟩ rfl (t_LM_steps hG hS e49 ?_)
                refine lh_pop rfl rfl ?_
                refine lh_iinc (q := 3) (v := (v4 + 1)) (lv' := [(0, .ref (65 + 4)), (2, .int v2), (3, .int v3), (4, .int (v4 + 1)), (5, .int r13.1), (6, .int r24.1)]) rfl rfl (congrArg (v4 + ·) (by decide)) rfl rfl ?_
                refine lh_goto rfl ?_
                refine lh_less [0, 1, 2, 3] rfl ?_
                exact ih (v4 + 1) r48.2 r24.2 _ hf x0_
              · have hf := lh_ifF hf c47
                refine lh_iconst rfl lh_k_m1 ?_
                refine lh_goto rfl ?_
                refine lh_bdE hf (fun r50 e51 hf => ?_)
                refine lh_cVi (N := m_LM_steps) (d := 7) (o := 65) (As := [.int 704, .int (-1)]) (st := []) rfl rfl v_LM_steps (hS.1 0 _ rfl) rfl rfl rfl ⟨rfl, rfl⟩ rfl (t_LM_steps hG hS e51 ?_)
                refine lh_pop rfl rfl ?_
                refine lh_iinc (q := 3) (v := (v4 + 1)) (lv' := [(0, .ref (65 + 4)), (2, .int v2), (3, .int v3), (4, .int (v4 + 1)), (5, .int r13.1), (6, .int r24.1)]) rfl rfl (congrArg (v4 + ·) (by decide)) rfl rfl ?_
                refine lh_goto rfl ?_
                refine lh_less [0, 1, 2, 3] rfl ?_
                exact ih (v4 + 1) r50.2 r24.2 _ hf x0_
            · have hf := lh_ifF hf c46
              refine lh_iconst rfl lh_k_1 ?_
              refine lh_goto rfl ?_
              refine lh_bdE hf (fun r52 e53 hf => ?_)
              refine lh_cVi (N := m_LM_steps) (d := 7) (o := 65) (As := [.int 704, .int 1]) (st := []) rfl rfl v_LM_steps (hS.1 0 _ rfl) rfl rfl rfl ⟨rfl, rfl⟩ rfl (t_LM_steps hG hS e53 ?_)
              refine lh_pop rfl rfl ?_
              refine lh_iinc (q := 3) (v := (v4 + 1)) (lv' := [(0, .ref (65 + 4)), (2, .int v2), (3, .int v3), (4, .int (v4 + 1)), (5, .int r13.1), (6, .int r24.1)]) rfl rfl (congrArg (v4 + ·) (by decide)) rfl rfl ?_
              refine lh_goto rfl ?_
              refine lh_less [0, 1, 2, 3] rfl ?_
              exact ih (v4 + 1) r52.2 r24.2 _ hf x0_
theorem t_LM_nights {Γ : lh_Cx} {I : lh_II} {L : lh_LL} {F : lh_FF} {S : lh_SS} {K : Int32 → lh_Hp → Prop} {r : Int32 × lh_II × lh_LL} (hG : lh_GX Γ) (hS : lh_laym F S)  {x1 : Int32} {x2 : Int32} {x3 : Int32} (hf : f_LM_nights x1 x2 x3 I L = some r) (hK : K r.1 (r.2.1, r.2.2, F, S)) : lh_Met Γ m_LM_nights 8 0 0 [.ref (65 + 4), .int x1, .int x2, .int x3] (I, L, F, S) (lh_ki K) := by
  rw [f_LM_nights] at hf
  refine lh_ofG k_LM_nights [(0, .ref (65 + 4)), (1, .int x1), (2, .int x2), (3, .int x3)] rfl (Nat.le_of_ble_eq_true rfl) rfl ?_
  refine lh_aload_n (q := 0) rfl rfl rfl ?_
  refine lh_iconst rfl lh_k_0 ?_
  refine lh_putI4 rfl rfl (hS.1 0 _ rfl) rfl rfl ?_
  refine lh_iload_n (q := 1) rfl rfl rfl ?_
  refine lh_iconst rfl lh_k_0 ?_
  refine lh_sipush rfl lh_s_9999 ?_
  refine lh_bdE hf (fun r1 e2 hf => ?_)
  refine lh_cSi (N := m_LM_within) (d := 0) (As := [.int x1, .int 0, .int 9999]) (st := []) rfl rfl v_LM_within rfl rfl ⟨rfl, rfl⟩ rfl (t_LM_within hG hS e2 ?_)
  refine lh_if_eq rfl (fun c3 => ?_) (fun c3 => ?_)
  · have hf := lh_ifT hf c3
    refine lh_iconst rfl lh_k_m1 ?_
    exact lh_iret rfl rfl rfl (by obtain rfl := Option.some.inj hf; exact hK)
  · have hf := lh_ifF hf c3
    refine lh_iload_n (q := 2) rfl rfl rfl ?_
    refine lh_iconst rfl lh_k_1 ?_
    refine lh_bipush rfl lh_b_99 ?_
    refine lh_bdE hf (fun r4 e5 hf => ?_)
    refine lh_cSi (N := m_LM_within) (d := 0) (As := [.int x2, .int 1, .int 99]) (st := []) rfl rfl v_LM_within rfl rfl ⟨rfl, rfl⟩ rfl (t_LM_within hG hS e5 ?_)
    refine lh_if_eq rfl (fun c6 => ?_) (fun c6 => ?_)
    · have hf := lh_ifT hf c6
      refine lh_iconst rfl lh_k_m1 ?_
      exact lh_iret rfl rfl rfl (by obtain rfl := Option.some.inj hf; exact hK)
    · have hf := lh_ifF hf c6
      refine lh_iload_n (q := 3) rfl rfl rfl ?_
      refine lh_iconst rfl lh_k_0 ?_
      refine lh_iconst rfl lh_k_2 ?_
      refine lh_bdE hf (fun r7 e8 hf => ?_)
      refine lh_cSi (N := m_LM_within) (d := 0) (As := [.int x3, .int 0, .int 2]) (st := []) rfl rfl v_LM_within rfl rfl ⟨rfl, rfl⟩ rfl (t_LM_within hG hS e8 ?_)
      refine lh_if_ne rfl (fun c9 => ?_) (fun c9 => ?_)
      · have hf := lh_ifF hf c9
        refine lh_aload_n (q := 0) rfl rfl rfl ?_
        refine lh_iconst rfl lh_k_0 ?_
        refine lh_sipush rfl lh_s_704 ?_
        refine lh_bipush rfl lh_b_7 ?_
        refine lh_bdE hf (fun r10 e11 hf => ?_)
        refine lh_cVv (N := m_LM_copies) (d := 0) (o := 65) (As := [.int 0, .int 704, .int 7]) (st := []) rfl rfl v_LM_copies (hS.1 0 _ rfl) rfl rfl rfl ⟨rfl, rfl⟩ rfl (t_LM_copies hG hS e11 ?_)
        refine lh_aload_n (q := 0) rfl rfl rfl ?_
        refine lh_iload_n (q := 1) rfl rfl rfl ?_
        refine lh_i2l rfl ?_
        refine lh_putJ4 rfl rfl (hS.1 0 _ rfl) rfl rfl ?_
        refine lh_iconst rfl lh_k_0 ?_
        refine lh_istore (lv' := [(0, .ref (65 + 4)), (1, .int x1), (2, .int x2), (3, .int x3), (4, .int 0)]) rfl rfl rfl ?_
        refine lh_bdE hf (fun r54 e55 hf => ?_)
        refine lh_less [0, 2, 3, 4] rfl ?_
        refine t_LM_nights_31 hG hS  _ 0 r10 (lh_v2 L (65 + 4) 24 x1.toInt64) _ e55 ?_
        refine lh_iload_n (q := 1) rfl rfl rfl ?_
        refine lh_if_ne rfl (fun c56 => ?_) (fun c56 => ?_)
        · have hf := lh_ifF hf c56
          refine lh_iload_n (q := 1) rfl rfl rfl ?_
          refine lh_iconst rfl lh_k_1 ?_
          refine lh_icmp_ne rfl (fun c57 => ?_) (fun c57 => ?_)
          · have hf := lh_ifF hf c57
            refine lh_aload_n (q := 0) rfl rfl rfl ?_
            refine lh_getR4 rfl rfl (hS.1 0 _ rfl) rfl (hS.2 12 _ rfl) ?_
            refine lh_sipush rfl lh_s_708 ?_
            refine lh_iald5 (k := 708) rfl (hS.1 13 _ rfl) (by decide) (by decide) ?_
            exact lh_iret rfl rfl rfl (by obtain rfl := Option.some.inj hf; exact hK)
          · have hf := lh_ifT hf c57
            refine lh_aload_n (q := 0) rfl rfl rfl ?_
            refine lh_getR4 rfl rfl (hS.1 0 _ rfl) rfl (hS.2 12 _ rfl) ?_
            refine lh_sipush rfl lh_s_705 ?_
            refine lh_iald5 (k := 705) rfl (hS.1 13 _ rfl) (by decide) (by decide) ?_
            refine lh_aload_n (q := 0) rfl rfl rfl ?_
            refine lh_getR4 rfl rfl (hS.1 0 _ rfl) rfl (hS.2 12 _ rfl) ?_
            refine lh_iconst rfl lh_k_1 ?_
            refine lh_iald5 (k := 1) rfl (hS.1 13 _ rfl) (by decide) (by decide) ?_
            refine lh_isub rfl ?_
            refine lh_goto rfl ?_
            exact lh_iret rfl rfl rfl (by obtain rfl := Option.some.inj hf; exact hK)
        · have hf := lh_ifT hf c56
          refine lh_aload_n (q := 0) rfl rfl rfl ?_
          refine lh_getR4 rfl rfl (hS.1 0 _ rfl) rfl (hS.2 12 _ rfl) ?_
          refine lh_sipush rfl lh_s_710 ?_
          refine lh_iald5 (k := 710) rfl (hS.1 13 _ rfl) (by decide) (by decide) ?_
          refine lh_goto rfl ?_
          exact lh_iret rfl rfl rfl (by obtain rfl := Option.some.inj hf; exact hK)
      · have hf := lh_ifT hf c9
        refine lh_iconst rfl lh_k_m1 ?_
        exact lh_iret rfl rfl rfl (by obtain rfl := Option.some.inj hf; exact hK)
def f_LM_pass_5 (v1 : Int32) (v2 : Int32) (I : lh_II) : Nat → Int32 → Option (Nat × Int32)
  | 0, _ => none
  | n + 1, v3 => if 8 ≤ v3 then some (1, v3) else lh_bd (f_LM_areOfOneDay v1 v2 I) fun r2 => if r2 = 0 then some (1, v3) else lh_bd (f_LM_cellOf v1 v3 I) fun r5 => if r5 < 0 then f_LM_pass_5 v1 v2 I n (v3 + 1) else lh_bd (f_LM_cellOf v1 v3 I) fun r8 => lh_bd (f_LM_cellOf v2 v3 I) fun r10 => if r8 = r10 then some (0, v3) else f_LM_pass_5 v1 v2 I n (v3 + 1)
def f_LM_pass (x1 : Int32) (x2 : Int32) (I : lh_II) : Option (Int32 × lh_II) := lh_bd (f_LM_pass_5 x1 x2 (lh_u2 I (65 + 4) 0 0) lh_fuel 0) fun r13 => if r13.1 = 0 then some (r13.2, lh_u2 I (65 + 4) 0 0) else some ((-1), lh_u2 I (65 + 4) 0 0)
theorem t_LM_pass_5 {Γ : lh_Cx} {F : lh_FF} {S : lh_SS} {Z : List Frame → Array Value → State → State → Prop} (hG : lh_GX Γ) (hS : lh_laym F S)  {v1 : Int32} {v2 : Int32} {I : lh_II} {L : lh_LL} : ∀ (n : Nat) (v3 : Int32) (o : Nat × Int32), f_LM_pass_5 v1 v2 I n v3 = some o → ∀ (x0_ : o.1 = 0 → lh_G Γ m_LM_pass (lh_R 3 0 0) Z 0 0 27 [(3, .int o.2)] [] (I, L, F, S)), ∀ (x1_ : o.1 = 1 → lh_G Γ m_LM_pass (lh_R 3 0 0) Z 0 0 31 [] [] (I, L, F, S)), lh_G Γ m_LM_pass (lh_R 3 0 0) Z 0 0 5 [(0, .ref (65 + 4)), (1, .int v1), (2, .int v2), (3, .int v3)] [] (I, L, F, S) := by
  intro n
  induction n with
  | zero => intro v3 o hf; cases hf
  | succ n ih =>
    intro v3 o hf x0_ x1_
    rw [f_LM_pass_5] at hf
    refine lh_iload_n (q := 3) rfl rfl rfl ?_
    refine lh_bipush rfl lh_b_8 ?_
    refine lh_icmp_ge rfl (fun c1 => ?_) (fun c1 => ?_)
    · have hf := lh_ifT hf c1
      exact lh_less [] rfl (by cases hf; exact x1_ rfl)
    · have hf := lh_ifF hf c1
      refine lh_aload_n (q := 0) rfl rfl rfl ?_
      refine lh_iload_n (q := 1) rfl rfl rfl ?_
      refine lh_iload_n (q := 2) rfl rfl rfl ?_
      refine lh_bdE hf (fun r2 e3 hf => ?_)
      refine lh_cVi (N := m_LM_areOfOneDay) (d := 2) (o := 65) (As := [.int v1, .int v2]) (st := []) rfl rfl v_LM_areOfOneDay (hS.1 0 _ rfl) rfl rfl rfl ⟨rfl, rfl⟩ rfl (t_LM_areOfOneDay hG hS e3 ?_)
      refine lh_if_eq rfl (fun c4 => ?_) (fun c4 => ?_)
      · have hf := lh_ifT hf c4
        exact lh_less [] rfl (by cases hf; exact x1_ rfl)
      · have hf := lh_ifF hf c4
        refine lh_aload_n (q := 0) rfl rfl rfl ?_
        refine lh_iload_n (q := 1) rfl rfl rfl ?_
        refine lh_iload_n (q := 3) rfl rfl rfl ?_
        refine lh_bdE hf (fun r5 e6 hf => ?_)
        refine lh_cVi (N := m_LM_cellOf) (d := 1) (o := 65) (As := [.int v1, .int v3]) (st := []) rfl rfl v_LM_cellOf (hS.1 0 _ rfl) rfl rfl rfl ⟨rfl, rfl⟩ rfl (t_LM_cellOf hG hS e6 ?_)
        refine lh_if_lt rfl (fun c7 => ?_) (fun c7 => ?_)
        · have hf := lh_ifT hf c7
          refine lh_iinc (q := 3) (v := (v3 + 1)) (lv' := [(0, .ref (65 + 4)), (1, .int v1), (2, .int v2), (3, .int (v3 + 1))]) rfl rfl (congrArg (v3 + ·) (by decide)) rfl rfl ?_
          refine lh_goto rfl ?_
          exact ih (v3 + 1) _ hf x0_ x1_
        · have hf := lh_ifF hf c7
          refine lh_aload_n (q := 0) rfl rfl rfl ?_
          refine lh_iload_n (q := 1) rfl rfl rfl ?_
          refine lh_iload_n (q := 3) rfl rfl rfl ?_
          refine lh_bdE hf (fun r8 e9 hf => ?_)
          refine lh_cVi (N := m_LM_cellOf) (d := 1) (o := 65) (As := [.int v1, .int v3]) (st := []) rfl rfl v_LM_cellOf (hS.1 0 _ rfl) rfl rfl rfl ⟨rfl, rfl⟩ rfl (t_LM_cellOf hG hS e9 ?_)
          refine lh_aload_n (q := 0) rfl rfl rfl ?_
          refine lh_iload_n (q := 2) rfl rfl rfl ?_
          refine lh_iload_n (q := 3) rfl rfl rfl ?_
          refine lh_bdE hf (fun r10 e11 hf => ?_)
          refine lh_cVi (N := m_LM_cellOf) (d := 1) (o := 65) (As := [.int v2, .int v3]) (st := [.int r8]) rfl rfl v_LM_cellOf (hS.1 0 _ rfl) rfl rfl rfl ⟨rfl, rfl⟩ rfl (t_LM_cellOf hG hS e11 ?_)
          refine lh_icmp_ne rfl (fun c12 => ?_) (fun c12 => ?_)
          · have hf := lh_ifF hf c12
            refine lh_iinc (q := 3) (v := (v3 + 1)) (lv' := [(0, .ref (65 + 4)), (1, .int v1), (2, .int v2), (3, .int (v3 + 1))]) rfl rfl (congrArg (v3 + ·) (by decide)) rfl rfl ?_
            refine lh_goto rfl ?_
            exact ih (v3 + 1) _ hf x0_ x1_
          · have hf := lh_ifT hf c12
            exact lh_less [3] rfl (by cases hf; exact x0_ rfl)
theorem t_LM_pass {Γ : lh_Cx} {I : lh_II} {L : lh_LL} {F : lh_FF} {S : lh_SS} {K : Int32 → lh_Hp → Prop} {r : Int32 × lh_II} (hG : lh_GX Γ) (hS : lh_laym F S)  {x1 : Int32} {x2 : Int32} (hf : f_LM_pass x1 x2 I = some r) (hK : K r.1 (r.2, L, F, S)) : lh_Met Γ m_LM_pass 3 0 0 [.ref (65 + 4), .int x1, .int x2] (I, L, F, S) (lh_ki K) := by
  rw [f_LM_pass] at hf
  refine lh_ofG k_LM_pass [(0, .ref (65 + 4)), (1, .int x1), (2, .int x2)] rfl (Nat.le_of_ble_eq_true rfl) rfl ?_
  refine lh_aload_n (q := 0) rfl rfl rfl ?_
  refine lh_iconst rfl lh_k_0 ?_
  refine lh_putI4 rfl rfl (hS.1 0 _ rfl) rfl rfl ?_
  refine lh_iconst rfl lh_k_0 ?_
  refine lh_istore_n (lv' := [(0, .ref (65 + 4)), (1, .int x1), (2, .int x2), (3, .int 0)]) rfl rfl rfl rfl ?_
  refine lh_bdE hf (fun r13 e14 hf => ?_)
  refine t_LM_pass_5 hG hS  _ 0 _ e14 (fun q0_ => ?_) (fun q1_ => ?_)
  · have hf := lh_ifT hf q0_
    refine lh_iload_n (q := 0) rfl rfl rfl ?_
    exact lh_iret rfl rfl rfl (by obtain rfl := Option.some.inj hf; exact hK)
  · have hf := lh_ifF hf (by rw [q1_]; decide)
    refine lh_iconst rfl lh_k_m1 ?_
    exact lh_iret rfl rfl rfl (by obtain rfl := Option.some.inj hf; exact hK)
def f_LM_reach_20 (v1 : Int32) : Nat → Int32 → lh_LL → Option (lh_LL)
  | 0, _, _ => none
  | n + 1, v2, L => if 12 ≤ v2 then some L else lh_gd (lh_ix v2 24) (f_LM_reach_20 v1 n (v2 + 1) (lh_v2 L (80 + 4) v2.toNatClampNeg 0))
def f_LM_reach_40 (v1 : Int32) : Nat → Int32 → lh_II → lh_LL → Option (Nat × Int32 × lh_II × lh_LL)
  | 0, _, _, _ => none
  | n + 1, v2, I, L => if 40 < v2 then some (1, v2, I, L) else lh_gd (lh_ix v1 24) (if (lg_cmp (L (80 + 4) v1.toNatClampNeg) (0 : Int64)) = 0 then lh_bd (f_LM_goesOn I L) fun r17 => f_LM_reach_40 v1 n (v2 + 1) r17.1 r17.2 else some (0, v2, I, L))
def f_LM_reach (x1 : Int32) (I : lh_II) (L : lh_LL) : Option (Int32 × lh_II × lh_LL) := lh_bd (f_LM_isCell x1 (lh_u2 I (65 + 4) 0 0)) fun r1 => if r1 = 0 then some ((-1), lh_u2 I (65 + 4) 0 0, L) else lh_bd (f_LM_isPillar x1 (lh_u2 I (65 + 4) 0 0)) fun r4 => if r4 = 0 then lh_bd (f_LM_copies (0 : Int32) (672 : Int32) (7 : Int32) (lh_u2 I (65 + 4) 0 0)) fun r7 => lh_bd (f_LM_reach_20 x1 lh_fuel 0 L) fun r11 => lh_gd (lh_ix (r7 (78 + 4) 5) 24) (lh_bd (f_LM_reach_40 x1 lh_fuel 0 r7 (lh_v2 r11 (80 + 4) (r7 (78 + 4) 5).toNatClampNeg 1)) fun r19 => if r19.1 = 0 then some (r19.2.1, r19.2.2.1, r19.2.2.2) else some ((-1), r19.2.2.1, r19.2.2.2)) else some ((-1), lh_u2 I (65 + 4) 0 0, L)
theorem t_LM_reach_20 {Γ : lh_Cx} {F : lh_FF} {S : lh_SS} {Z : List Frame → Array Value → State → State → Prop} (hG : lh_GX Γ) (hS : lh_laym F S)  {v1 : Int32} {I : lh_II} : ∀ (n : Nat) (v2 : Int32) (L : lh_LL) (o : lh_LL), f_LM_reach_20 v1 n v2 L = some o → ∀ (x0_ : lh_G Γ m_LM_reach (lh_R 8 0 0) Z 0 0 30 [(0, .ref (65 + 4)), (1, .int v1)] [] (I, o, F, S)), lh_G Γ m_LM_reach (lh_R 8 0 0) Z 0 0 20 [(0, .ref (65 + 4)), (1, .int v1), (2, .int v2)] [] (I, L, F, S) := by
  intro n
  induction n with
  | zero => intro v2 L o hf; cases hf
  | succ n ih =>
    intro v2 L o hf x0_
    rw [f_LM_reach_20] at hf
    refine lh_iload_n (q := 2) rfl rfl rfl ?_
    refine lh_bipush rfl lh_b_12 ?_
    refine lh_icmp_ge rfl (fun c9 => ?_) (fun c9 => ?_)
    · have hf := lh_ifT hf c9
      exact lh_less [0, 1] rfl (by cases hf; exact x0_)
    · have hf := lh_ifF hf c9
      refine lh_aload_n (q := 0) rfl rfl rfl ?_
      refine lh_getR4 rfl rfl (hS.1 0 _ rfl) rfl (hS.2 14 _ rfl) ?_
      refine lh_iload_n (q := 2) rfl rfl rfl ?_
      refine lh_lconst (v := 0) rfl (by decide) ?_
      obtain ⟨g10, hf⟩ := lh_gdE hf
      refine lh_last4 rfl (hS.1 15 _ rfl) g10 ?_
      refine lh_iinc (q := 2) (v := (v2 + 1)) (lv' := [(0, .ref (65 + 4)), (1, .int v1), (2, .int (v2 + 1))]) rfl rfl (congrArg (v2 + ·) (by decide)) rfl rfl ?_
      refine lh_goto rfl ?_
      exact ih (v2 + 1) (lh_v2 L (80 + 4) v2.toNatClampNeg 0) _ hf x0_
theorem t_LM_reach_40 {Γ : lh_Cx} {F : lh_FF} {S : lh_SS} {Z : List Frame → Array Value → State → State → Prop} (hG : lh_GX Γ) (hS : lh_laym F S)  {v1 : Int32} : ∀ (n : Nat) (v2 : Int32) (I : lh_II) (L : lh_LL) (o : Nat × Int32 × lh_II × lh_LL), f_LM_reach_40 v1 n v2 I L = some o → ∀ (x0_ : o.1 = 0 → lh_G Γ m_LM_reach (lh_R 8 0 0) Z 0 0 50 [(2, .int o.2.1)] [] (o.2.2.1, o.2.2.2, F, S)), ∀ (x1_ : o.1 = 1 → lh_G Γ m_LM_reach (lh_R 8 0 0) Z 0 0 56 [] [] (o.2.2.1, o.2.2.2, F, S)), lh_G Γ m_LM_reach (lh_R 8 0 0) Z 0 0 40 [(0, .ref (65 + 4)), (1, .int v1), (2, .int v2)] [] (I, L, F, S) := by
  intro n
  induction n with
  | zero => intro v2 I L o hf; cases hf
  | succ n ih =>
    intro v2 I L o hf x0_ x1_
    rw [f_LM_reach_40] at hf
    refine lh_iload_n (q := 2) rfl rfl rfl ?_
    refine lh_bipush rfl lh_b_40 ?_
    refine lh_icmp_gt rfl (fun c14 => ?_) (fun c14 => ?_)
    · have hf := lh_ifT hf c14
      exact lh_less [] rfl (by cases hf; exact x1_ rfl)
    · have hf := lh_ifF hf c14
      refine lh_aload_n (q := 0) rfl rfl rfl ?_
      refine lh_getR4 rfl rfl (hS.1 0 _ rfl) rfl (hS.2 14 _ rfl) ?_
      refine lh_iload_n (q := 1) rfl rfl rfl ?_
      obtain ⟨g15, hf⟩ := lh_gdE hf
      refine lh_lald4 rfl (hS.1 15 _ rfl) g15 ?_
      refine lh_lconst (v := 0) rfl (by decide) ?_
      refine lh_lcmp rfl ?_
      refine lh_if_eq rfl (fun c16 => ?_) (fun c16 => ?_)
      · have hf := lh_ifT hf c16
        refine lh_aload_n (q := 0) rfl rfl rfl ?_
        refine lh_bdE hf (fun r17 e18 hf => ?_)
        refine lh_cVv (N := m_LM_goesOn) (d := 7) (o := 65) (As := []) (st := []) rfl rfl v_LM_goesOn (hS.1 0 _ rfl) rfl rfl rfl ⟨rfl, rfl⟩ rfl (t_LM_goesOn hG hS e18 ?_)
        refine lh_iinc (q := 2) (v := (v2 + 1)) (lv' := [(0, .ref (65 + 4)), (1, .int v1), (2, .int (v2 + 1))]) rfl rfl (congrArg (v2 + ·) (by decide)) rfl rfl ?_
        refine lh_goto rfl ?_
        exact ih (v2 + 1) r17.1 r17.2 _ hf x0_ x1_
      · have hf := lh_ifF hf c16
        exact lh_less [2] rfl (by cases hf; exact x0_ rfl)
theorem t_LM_reach {Γ : lh_Cx} {I : lh_II} {L : lh_LL} {F : lh_FF} {S : lh_SS} {K : Int32 → lh_Hp → Prop} {r : Int32 × lh_II × lh_LL} (hG : lh_GX Γ) (hS : lh_laym F S)  {x1 : Int32} (hf : f_LM_reach x1 I L = some r) (hK : K r.1 (r.2.1, r.2.2, F, S)) : lh_Met Γ m_LM_reach 8 0 0 [.ref (65 + 4), .int x1] (I, L, F, S) (lh_ki K) := by
  rw [f_LM_reach] at hf
  refine lh_ofG k_LM_reach [(0, .ref (65 + 4)), (1, .int x1)] rfl (Nat.le_of_ble_eq_true rfl) rfl ?_
  refine lh_aload_n (q := 0) rfl rfl rfl ?_
  refine lh_iconst rfl lh_k_0 ?_
  refine lh_putI4 rfl rfl (hS.1 0 _ rfl) rfl rfl ?_
  refine lh_aload_n (q := 0) rfl rfl rfl ?_
  refine lh_iload_n (q := 1) rfl rfl rfl ?_
  refine lh_bdE hf (fun r1 e2 hf => ?_)
  refine lh_cVi (N := m_LM_isCell) (d := 1) (o := 65) (As := [.int x1]) (st := []) rfl rfl v_LM_isCell (hS.1 0 _ rfl) rfl rfl rfl ⟨rfl, rfl⟩ rfl (t_LM_isCell hG hS e2 ?_)
  refine lh_if_eq rfl (fun c3 => ?_) (fun c3 => ?_)
  · have hf := lh_ifT hf c3
    refine lh_iconst rfl lh_k_m1 ?_
    exact lh_iret rfl rfl rfl (by obtain rfl := Option.some.inj hf; exact hK)
  · have hf := lh_ifF hf c3
    refine lh_aload_n (q := 0) rfl rfl rfl ?_
    refine lh_iload_n (q := 1) rfl rfl rfl ?_
    refine lh_bdE hf (fun r4 e5 hf => ?_)
    refine lh_cVi (N := m_LM_isPillar) (d := 0) (o := 65) (As := [.int x1]) (st := []) rfl rfl v_LM_isPillar (hS.1 0 _ rfl) rfl rfl rfl ⟨rfl, rfl⟩ rfl (t_LM_isPillar hG hS e5 ?_)
    refine lh_if_eq rfl (fun c6 => ?_) (fun c6 => ?_)
    · have hf := lh_ifT hf c6
      refine lh_aload_n (q := 0) rfl rfl rfl ?_
      refine lh_iconst rfl lh_k_0 ?_
      refine lh_sipush rfl lh_s_672 ?_
      refine lh_bipush rfl lh_b_7 ?_
      refine lh_bdE hf (fun r7 e8 hf => ?_)
      refine lh_cVv (N := m_LM_copies) (d := 0) (o := 65) (As := [.int 0, .int 672, .int 7]) (st := []) rfl rfl v_LM_copies (hS.1 0 _ rfl) rfl rfl rfl ⟨rfl, rfl⟩ rfl (t_LM_copies hG hS e8 ?_)
      refine lh_iconst rfl lh_k_0 ?_
      refine lh_istore_n (lv' := [(0, .ref (65 + 4)), (1, .int x1), (2, .int 0)]) rfl rfl rfl rfl ?_
      refine lh_bdE hf (fun r11 e12 hf => ?_)
      refine t_LM_reach_20 hG hS  _ 0 L _ e12 ?_
      refine lh_aload_n (q := 0) rfl rfl rfl ?_
      refine lh_getR4 rfl rfl (hS.1 0 _ rfl) rfl (hS.2 14 _ rfl) ?_
      refine lh_aload_n (q := 0) rfl rfl rfl ?_
      refine lh_getR4 rfl rfl (hS.1 0 _ rfl) rfl (hS.2 12 _ rfl) ?_
      refine lh_iconst rfl lh_k_5 ?_
      refine lh_iald5 (k := 5) rfl (hS.1 13 _ rfl) (by decide) (by decide) ?_
      refine lh_lconst (v := 1) rfl (by decide) ?_
      obtain ⟨g13, hf⟩ := lh_gdE hf
      refine lh_last4 rfl (hS.1 15 _ rfl) g13 ?_
      refine lh_iconst rfl lh_k_0 ?_
      refine lh_istore_n (lv' := [(0, .ref (65 + 4)), (1, .int x1), (2, .int 0)]) rfl rfl rfl rfl ?_
      refine lh_bdE hf (fun r19 e20 hf => ?_)
      refine t_LM_reach_40 hG hS  _ 0 r7 (lh_v2 r11 (80 + 4) (r7 (78 + 4) 5).toNatClampNeg 1) _ e20 (fun q0_ => ?_) (fun q1_ => ?_)
      · have hf := lh_ifT hf q0_
        refine lh_iload_n (q := 0) rfl rfl rfl ?_
        exact lh_iret rfl rfl rfl (by obtain rfl := Option.some.inj hf; exact hK)
      · have hf := lh_ifF hf (by rw [q1_]; decide)
        refine lh_iconst rfl lh_k_m1 ?_
        exact lh_iret rfl rfl rfl (by obtain rfl := Option.some.inj hf; exact hK)
    · have hf := lh_ifF hf c6
      refine lh_iconst rfl lh_k_m1 ?_
      exact lh_iret rfl rfl rfl (by obtain rfl := Option.some.inj hf; exact hK)
def f_LM_rests_28 (v1 : Int32) (v2 : Int32) (v3 : Int32) (v4 : Int32) (v5 : Int32) : Nat → Int32 → Int32 → Int32 → Option (Int32 × Int32)
  | 0, _, _, _ => none
  | n + 1, v6, v7, v8 => if 4 ≤ v8 then some (v6, v7) else if v5 = 0 then some (v6, v7) else lh_bd (f_LM_getsBy (1 - (v8 / 2)) (v8 - v8 / 2 * 2) v1 v2 v3) fun r6 => lh_bd (f_LM_getsBy (v8 / 2) (v8 - v8 / 2 * 2) v1 v2 v3) fun r8 => if r8 < r6 then f_LM_rests_28 v1 v2 v3 v4 v5 n (v6 + 0) v7 (v8 + 1) else lh_bd (f_LM_getsBy (1 - (v8 - v8 / 2 * 2)) (v8 / 2) v1 v2 v3) fun r11 => lh_bd (f_LM_getsBy (v8 - v8 / 2 * 2) (v8 / 2) v1 v2 v3) fun r13 => if r13 < r11 then f_LM_rests_28 v1 v2 v3 v4 v5 n (v6 + 0) v7 (v8 + 1) else if v6 = v4 then f_LM_rests_28 v1 v2 v3 v4 v5 n (v6 + 1) v8 (v8 + 1) else f_LM_rests_28 v1 v2 v3 v4 v5 n (v6 + 1) v7 (v8 + 1)
def f_LM_rests (x1 : Int32) (x2 : Int32) (x3 : Int32) (x4 : Int32) (I : lh_II) : Option (Int32 × lh_II) := lh_bd (f_LM_within x1 (0 : Int32) (9 : Int32)) fun r1 => if r1 = 0 then lh_bd (f_LM_rests_28 x1 x2 x3 x4 0 lh_fuel 0 (-1) 0) fun r17 => if ((lh_u2 I (65 + 4) 0 1) (65 + 4) 0) ≤ 0 then if 0 ≤ x4 then some (r17.2, lh_u2 I (65 + 4) 0 1) else some (r17.1, lh_u2 I (65 + 4) 0 1) else some (0, lh_u2 I (65 + 4) 0 1) else lh_bd (f_LM_within x2 (0 : Int32) (9 : Int32)) fun r21 => if r21 = 0 then lh_bd (f_LM_rests_28 x1 x2 x3 x4 0 lh_fuel 0 (-1) 0) fun r24 => if ((lh_u2 I (65 + 4) 0 1) (65 + 4) 0) ≤ 0 then if 0 ≤ x4 then some (r24.2, lh_u2 I (65 + 4) 0 1) else some (r24.1, lh_u2 I (65 + 4) 0 1) else some (0, lh_u2 I (65 + 4) 0 1) else lh_bd (f_LM_within x3 (0 : Int32) (9 : Int32)) fun r28 => if r28 = 0 then lh_bd (f_LM_rests_28 x1 x2 x3 x4 0 lh_fuel 0 (-1) 0) fun r31 => if ((lh_u2 I (65 + 4) 0 1) (65 + 4) 0) ≤ 0 then if 0 ≤ x4 then some (r31.2, lh_u2 I (65 + 4) 0 1) else some (r31.1, lh_u2 I (65 + 4) 0 1) else some (0, lh_u2 I (65 + 4) 0 1) else if x4 < (-1) then lh_bd (f_LM_rests_28 x1 x2 x3 x4 0 lh_fuel 0 (-1) 0) fun r36 => if ((lh_u2 I (65 + 4) 0 1) (65 + 4) 0) ≤ 0 then if 0 ≤ x4 then some (r36.2, lh_u2 I (65 + 4) 0 1) else some (r36.1, lh_u2 I (65 + 4) 0 1) else some (0, lh_u2 I (65 + 4) 0 1) else lh_bd (f_LM_rests_28 x1 x2 x3 x4 1 lh_fuel 0 (-1) 0) fun r40 => if x4 < 0 then if ((lh_u2 I (65 + 4) 0 0) (65 + 4) 0) ≤ 0 then if 0 ≤ x4 then some (r40.2, lh_u2 I (65 + 4) 0 0) else some (r40.1, lh_u2 I (65 + 4) 0 0) else some (0, lh_u2 I (65 + 4) 0 0) else if r40.2 < 0 then if ((lh_u2 I (65 + 4) 0 1) (65 + 4) 0) ≤ 0 then if 0 ≤ x4 then some (r40.2, lh_u2 I (65 + 4) 0 1) else some (r40.1, lh_u2 I (65 + 4) 0 1) else some (0, lh_u2 I (65 + 4) 0 1) else if ((lh_u2 I (65 + 4) 0 0) (65 + 4) 0) ≤ 0 then if 0 ≤ x4 then some (r40.2, lh_u2 I (65 + 4) 0 0) else some (r40.1, lh_u2 I (65 + 4) 0 0) else some (0, lh_u2 I (65 + 4) 0 0)
theorem t_LM_rests_28 {Γ : lh_Cx} {F : lh_FF} {S : lh_SS} {Z : List Frame → Array Value → State → State → Prop} (hG : lh_GX Γ) (hS : lh_laym F S)  {v1 : Int32} {v2 : Int32} {v3 : Int32} {v4 : Int32} {v5 : Int32} {I : lh_II} {L : lh_LL} : ∀ (n : Nat) (v6 : Int32) (v7 : Int32) (v8 : Int32) (o : Int32 × Int32), f_LM_rests_28 v1 v2 v3 v4 v5 n v6 v7 v8 = some o → ∀ (x0_ : lh_G Γ m_LM_rests (lh_R 1 0 0) Z 0 0 94 [(0, .ref (65 + 4)), (4, .int v4), (5, .int v5), (6, .int o.1), (7, .int o.2)] [] (I, L, F, S)), lh_G Γ m_LM_rests (lh_R 1 0 0) Z 0 0 28 [(0, .ref (65 + 4)), (1, .int v1), (2, .int v2), (3, .int v3), (4, .int v4), (5, .int v5), (6, .int v6), (7, .int v7), (8, .int v8)] [] (I, L, F, S) := by
  intro n
  induction n with
  | zero => intro v6 v7 v8 o hf; cases hf
  | succ n ih =>
    intro v6 v7 v8 o hf x0_
    rw [f_LM_rests_28] at hf
    refine lh_iload (q := 8) rfl rfl ?_
    refine lh_iconst rfl lh_k_4 ?_
    refine lh_icmp_ge rfl (fun c4 => ?_) (fun c4 => ?_)
    · have hf := lh_ifT hf c4
      exact lh_less [0, 4, 5, 6, 7] rfl (by cases hf; exact x0_)
    · have hf := lh_ifF hf c4
      refine lh_iload (q := 5) rfl rfl ?_
      refine lh_if_eq rfl (fun c5 => ?_) (fun c5 => ?_)
      · have hf := lh_ifT hf c5
        exact lh_less [0, 4, 5, 6, 7] rfl (by cases hf; exact x0_)
      · have hf := lh_ifF hf c5
        refine lh_iload (q := 8) rfl rfl ?_
        refine lh_iconst rfl lh_k_2 ?_
        refine lh_idiv rfl (by decide) ?_
        refine lh_istore (lv' := [(0, .ref (65 + 4)), (1, .int v1), (2, .int v2), (3, .int v3), (4, .int v4), (5, .int v5), (6, .int v6), (7, .int v7), (8, .int v8), (9, .int (v8 / 2))]) rfl rfl rfl ?_
        refine lh_iload (q := 8) rfl rfl ?_
        refine lh_iconst rfl lh_k_2 ?_
        refine lh_irem rfl (by decide) ?_
        refine lh_istore (lv' := [(0, .ref (65 + 4)), (1, .int v1), (2, .int v2), (3, .int v3), (4, .int v4), (5, .int v5), (6, .int v6), (7, .int v7), (8, .int v8), (9, .int (v8 / 2)), (10, .int (v8 - v8 / 2 * 2))]) rfl rfl rfl ?_
        refine lh_iconst rfl lh_k_1 ?_
        refine lh_iload (q := 9) rfl rfl ?_
        refine lh_isub rfl ?_
        refine lh_iload (q := 10) rfl rfl ?_
        refine lh_iload_n (q := 1) rfl rfl rfl ?_
        refine lh_iload_n (q := 2) rfl rfl rfl ?_
        refine lh_iload_n (q := 3) rfl rfl rfl ?_
        refine lh_bdE hf (fun r6 e7 hf => ?_)
        refine lh_cSi (N := m_LM_getsBy) (d := 0) (As := [.int (1 - (v8 / 2)), .int (v8 - v8 / 2 * 2), .int v1, .int v2, .int v3]) (st := []) rfl rfl v_LM_getsBy rfl rfl ⟨rfl, rfl⟩ rfl (t_LM_getsBy hG hS e7 ?_)
        refine lh_iload (q := 9) rfl rfl ?_
        refine lh_iload (q := 10) rfl rfl ?_
        refine lh_iload_n (q := 1) rfl rfl rfl ?_
        refine lh_iload_n (q := 2) rfl rfl rfl ?_
        refine lh_iload_n (q := 3) rfl rfl rfl ?_
        refine lh_bdE hf (fun r8 e9 hf => ?_)
        refine lh_cSi (N := m_LM_getsBy) (d := 0) (As := [.int (v8 / 2), .int (v8 - v8 / 2 * 2), .int v1, .int v2, .int v3]) (st := [.int r6]) rfl rfl v_LM_getsBy rfl rfl ⟨rfl, rfl⟩ rfl (t_LM_getsBy hG hS e9 ?_)
        refine lh_icmp_gt rfl (fun c10 => ?_) (fun c10 => ?_)
        · have hf := lh_ifT hf c10
          refine lh_iconst rfl lh_k_0 ?_
          refine lh_istore (lv' := [(0, .ref (65 + 4)), (1, .int v1), (2, .int v2), (3, .int v3), (4, .int v4), (5, .int v5), (6, .int v6), (7, .int v7), (8, .int v8), (9, .int (v8 / 2)), (10, .int (v8 - v8 / 2 * 2)), (11, .int 0)]) rfl rfl rfl ?_
          refine lh_iload (q := 11) rfl rfl ?_
          refine lh_if_eq rfl (fun _ => ?_) (fun c => absurd (by decide) c) 
          refine lh_iload (q := 7) rfl rfl ?_
          refine lh_istore (lv' := [(0, .ref (65 + 4)), (1, .int v1), (2, .int v2), (3, .int v3), (4, .int v4), (5, .int v5), (6, .int v6), (7, .int v7), (8, .int v8), (9, .int (v8 / 2)), (10, .int (v8 - v8 / 2 * 2)), (11, .int 0)]) rfl rfl rfl ?_
          refine lh_iload (q := 6) rfl rfl ?_
          refine lh_iload (q := 11) rfl rfl ?_
          refine lh_if_eq rfl (fun _ => ?_) (fun c => absurd (by decide) c) 
          refine lh_iconst rfl lh_k_0 ?_
          refine lh_iadd rfl ?_
          refine lh_istore (lv' := [(0, .ref (65 + 4)), (1, .int v1), (2, .int v2), (3, .int v3), (4, .int v4), (5, .int v5), (6, .int (v6 + 0)), (7, .int v7), (8, .int v8), (9, .int (v8 / 2)), (10, .int (v8 - v8 / 2 * 2)), (11, .int 0)]) rfl rfl rfl ?_
          refine lh_iinc (q := 8) (v := (v8 + 1)) (lv' := [(0, .ref (65 + 4)), (1, .int v1), (2, .int v2), (3, .int v3), (4, .int v4), (5, .int v5), (6, .int (v6 + 0)), (7, .int v7), (8, .int (v8 + 1)), (9, .int (v8 / 2)), (10, .int (v8 - v8 / 2 * 2)), (11, .int 0)]) rfl rfl (congrArg (v8 + ·) (by decide)) rfl rfl ?_
          refine lh_goto rfl ?_
          refine lh_less [0, 1, 2, 3, 4, 5, 6, 7, 8] rfl ?_
          exact ih (v6 + 0) v7 (v8 + 1) _ hf x0_
        · have hf := lh_ifF hf c10
          refine lh_iconst rfl lh_k_1 ?_
          refine lh_iload (q := 10) rfl rfl ?_
          refine lh_isub rfl ?_
          refine lh_iload (q := 9) rfl rfl ?_
          refine lh_iload_n (q := 1) rfl rfl rfl ?_
          refine lh_iload_n (q := 2) rfl rfl rfl ?_
          refine lh_iload_n (q := 3) rfl rfl rfl ?_
          refine lh_bdE hf (fun r11 e12 hf => ?_)
          refine lh_cSi (N := m_LM_getsBy) (d := 0) (As := [.int (1 - (v8 - v8 / 2 * 2)), .int (v8 / 2), .int v1, .int v2, .int v3]) (st := []) rfl rfl v_LM_getsBy rfl rfl ⟨rfl, rfl⟩ rfl (t_LM_getsBy hG hS e12 ?_)
          refine lh_iload (q := 10) rfl rfl ?_
          refine lh_iload (q := 9) rfl rfl ?_
          refine lh_iload_n (q := 1) rfl rfl rfl ?_
          refine lh_iload_n (q := 2) rfl rfl rfl ?_
          refine lh_iload_n (q := 3) rfl rfl rfl ?_
          refine lh_bdE hf (fun r13 e14 hf => ?_)
          refine lh_cSi (N := m_LM_getsBy) (d := 0) (As := [.int (v8 - v8 / 2 * 2), .int (v8 / 2), .int v1, .int v2, .int v3]) (st := [.int r11]) rfl rfl v_LM_getsBy rfl rfl ⟨rfl, rfl⟩ rfl (t_LM_getsBy hG hS e14 ?_)
          refine lh_icmp_gt rfl (fun c15 => ?_) (fun c15 => ?_)
          · have hf := lh_ifT hf c15
            refine lh_iconst rfl lh_k_0 ?_
            refine lh_istore (lv' := [(0, .ref (65 + 4)), (1, .int v1), (2, .int v2), (3, .int v3), (4, .int v4), (5, .int v5), (6, .int v6), (7, .int v7), (8, .int v8), (9, .int (v8 / 2)), (10, .int (v8 - v8 / 2 * 2)), (11, .int 0)]) rfl rfl rfl ?_
            refine lh_iload (q := 11) rfl rfl ?_
            refine lh_if_eq rfl (fun _ => ?_) (fun c => absurd (by decide) c) 
            refine lh_iload (q := 7) rfl rfl ?_
            refine lh_istore (lv' := [(0, .ref (65 + 4)), (1, .int v1), (2, .int v2), (3, .int v3), (4, .int v4), (5, .int v5), (6, .int v6), (7, .int v7), (8, .int v8), (9, .int (v8 / 2)), (10, .int (v8 - v8 / 2 * 2)), (11, .int 0)]) rfl rfl rfl ?_
            refine lh_iload (q := 6) rfl rfl ?_
            refine lh_iload (q := 11) rfl rfl ?_
            refine lh_if_eq rfl (fun _ => ?_) (fun c => absurd (by decide) c) 
            refine lh_iconst rfl lh_k_0 ?_
            refine lh_iadd rfl ?_
            refine lh_istore (lv' := [(0, .ref (65 + 4)), (1, .int v1), (2, .int v2), (3, .int v3), (4, .int v4), (5, .int v5), (6, .int (v6 + 0)), (7, .int v7), (8, .int v8), (9, .int (v8 / 2)), (10, .int (v8 - v8 / 2 * 2)), (11, .int 0)]) rfl rfl rfl ?_
            refine lh_iinc (q := 8) (v := (v8 + 1)) (lv' := [(0, .ref (65 + 4)), (1, .int v1), (2, .int v2), (3, .int v3), (4, .int v4), (5, .int v5), (6, .int (v6 + 0)), (7, .int v7), (8, .int (v8 + 1)), (9, .int (v8 / 2)), (10, .int (v8 - v8 / 2 * 2)), (11, .int 0)]) rfl rfl (congrArg (v8 + ·) (by decide)) rfl rfl ?_
            refine lh_goto rfl ?_
            refine lh_less [0, 1, 2, 3, 4, 5, 6, 7, 8] rfl ?_
            exact ih (v6 + 0) v7 (v8 + 1) _ hf x0_
          · have hf := lh_ifF hf c15
            refine lh_iconst rfl lh_k_1 ?_
            refine lh_goto rfl ?_
            refine lh_istore (lv' := [(0, .ref (65 + 4)), (1, .int v1), (2, .int v2), (3, .int v3), (4, .int v4), (5, .int v5), (6, .int v6), (7, .int v7), (8, .int v8), (9, .int (v8 / 2)), (10, .int (v8 - v8 / 2 * 2)), (11, .int 1)]) rfl rfl rfl ?_
            refine lh_iload (q := 11) rfl rfl ?_
            refine lh_if_eq rfl (fun c => absurd c (by decide)) (fun _ => ?_)
            refine lh_iload (q := 6) rfl rfl ?_
            refine lh_iload (q := 4) rfl rfl ?_
            refine lh_icmp_ne rfl (fun c16 => ?_) (fun c16 => ?_)
            · have hf := lh_ifF hf c16
              refine lh_iload (q := 7) rfl rfl ?_
              refine lh_istore (lv' := [(0, .ref (65 + 4)), (1, .int v1), (2, .int v2), (3, .int v3), (4, .int v4), (5, .int v5), (6, .int v6), (7, .int v7), (8, .int v8), (9, .int (v8 / 2)), (10, .int (v8 - v8 / 2 * 2)), (11, .int 1)]) rfl rfl rfl ?_
              refine lh_iload (q := 6) rfl rfl ?_
              refine lh_iload (q := 11) rfl rfl ?_
              refine lh_if_eq rfl (fun c => absurd c (by decide)) (fun _ => ?_)
              refine lh_iconst rfl lh_k_1 ?_
              refine lh_goto rfl ?_
              refine lh_iadd rfl ?_
              refine lh_istore (lv' := [(0, .ref (65 + 4)), (1, .int v1), (2, .int v2), (3, .int v3), (4, .int v4), (5, .int v5), (6, .int (v6 + 1)), (7, .int v7), (8, .int v8), (9, .int (v8 / 2)), (10, .int (v8 - v8 / 2 * 2)), (11, .int 1)]) rfl rfl rfl ?_
              refine lh_iinc (q := 8) (v := (v8 + 1)) (lv' := [(0, .ref (65 + 4)), (1, .int v1), (2, .int v2), (3, .int v3), (4, .int v4), (5, .int v5), (6, .int (v6 + 1)), (7, .int v7), (8, .int (v8 + 1)), (9, .int (v8 / 2)), (10, .int (v8 - v8 / 2 * 2)), (11, .int 1)]) rfl rfl (congrArg (v8 + ·) (by decide)) rfl rfl ?_
              refine lh_goto rfl ?_
              refine lh_less [0, 1, 2, 3, 4, 5, 6, 7, 8] rfl ?_
              exact ih (v6 + 1) v7 (v8 + 1) _ hf x0_
            · have hf := lh_ifT hf c16
              refine lh_iload (q := 8) rfl rfl ?_
              refine lh_goto rfl ?_
              refine lh_istore (lv' := [(0, .ref (65 + 4)), (1, .int v1), (2, .int v2), (3, .int v3), (4, .int v4), (5, .int v5), (6, .int v6), (7, .int v8), (8, .int v8), (9, .int (v8 / 2)), (10, .int (v8 - v8 / 2 * 2)), (11, .int 1)]) rfl rfl rfl ?_
              refine lh_iload (q := 6) rfl rfl ?_
              refine lh_iload (q := 11) rfl rfl ?_
              refine lh_if_eq rfl (fun c => absurd c (by decide)) (fun _ => ?_)
              refine lh_iconst rfl lh_k_1 ?_
              refine lh_goto rfl ?_
              refine lh_iadd rfl ?_
              refine lh_istore (lv' := [(0, .ref (65 + 4)), (1, .int v1), (2, .int v2), (3, .int v3), (4, .int v4), (5, .int v5), (6, .int (v6 + 1)), (7, .int v8), (8, .int v8), (9, .int (v8 / 2)), (10, .int (v8 - v8 / 2 * 2)), (11, .int 1)]) rfl rfl rfl ?_
              refine lh_iinc (q := 8) (v := (v8 + 1)) (lv' := [(0, .ref (65 + 4)), (1, .int v1), (2, .int v2), (3, .int v3), (4, .int v4), (5, .int v5), (6, .int (v6 + 1)), (7, .int v8), (8, .int (v8 + 1)), (9, .int (v8 / 2)), (10, .int (v8 - v8 / 2 * 2)), (11, .int 1)]) rfl rfl (congrArg (v8 + ·) (by decide)) rfl rfl ?_
              refine lh_goto rfl ?_
              refine lh_less [0, 1, 2, 3, 4, 5, 6, 7, 8] rfl ?_
              exact ih (v6 + 1) v8 (v8 + 1) _ hf x0_
theorem t_LM_rests {Γ : lh_Cx} {I : lh_II} {L : lh_LL} {F : lh_FF} {S : lh_SS} {K : Int32 → lh_Hp → Prop} {r : Int32 × lh_II} (hG : lh_GX Γ) (hS : lh_laym F S)  {x1 : Int32} {x2 : Int32} {x3 : Int32} {x4 : Int32} (hf : f_LM_rests x1 x2 x3 x4 I = some r) (hK : K r.1 (r.2, L, F, S)) : lh_Met Γ m_LM_rests 1 0 0 [.ref (65 + 4), .int x1, .int x2, .int x3, .int x4] (I, L, F, S) (lh_ki K) := by
  rw [f_LM_rests] at hf
  refine lh_ofG k_LM_rests [(0, .ref (65 + 4)), (1, .int x1), (2, .int x2), (3, .int x3), (4, .int x4)] rfl (Nat.le_of_ble_eq_true rfl) rfl ?_
  refine lh_iload_n (q := 1) rfl rfl rfl ?_
  refine lh_iconst rfl lh_k_0 ?_
  refine lh_bipush rfl lh_b_9 ?_
  refine lh_bdE hf (fun r1 e2 hf => ?_)
  refine lh_cSi (N := m_LM_within) (d := 0) (As := [.int x1, .int 0, .int 9]) (st := []) rfl rfl v_LM_within rfl rfl ⟨rfl, rfl⟩ rfl (t_LM_within hG hS e2 ?_)
  refine lh_if_eq rfl (fun c3 => ?_) (fun c3 => ?_)
  · have hf := lh_ifT hf c3
    refine lh_iconst rfl lh_k_0 ?_
    refine lh_istore (lv' := [(0, .ref (65 + 4)), (1, .int x1), (2, .int x2), (3, .int x3), (4, .int x4), (5, .int 0)]) rfl rfl rfl ?_
    refine lh_iconst rfl lh_k_0 ?_
    refine lh_istore (lv' := [(0, .ref (65 + 4)), (1, .int x1), (2, .int x2), (3, .int x3), (4, .int x4), (5, .int 0), (6, .int 0)]) rfl rfl rfl ?_
    refine lh_iconst rfl lh_k_m1 ?_
    refine lh_istore (lv' := [(0, .ref (65 + 4)), (1, .int x1), (2, .int x2), (3, .int x3), (4, .int x4), (5, .int 0), (6, .int 0), (7, .int (-1))]) rfl rfl rfl ?_
    refine lh_iconst rfl lh_k_0 ?_
    refine lh_istore (lv' := [(0, .ref (65 + 4)), (1, .int x1), (2, .int x2), (3, .int x3), (4, .int x4), (5, .int 0), (6, .int 0), (7, .int (-1)), (8, .int 0)]) rfl rfl rfl ?_
    refine lh_bdE hf (fun r17 e18 hf => ?_)
    refine t_LM_rests_28 hG hS  _ 0 (-1) 0 _ e18 ?_
    refine lh_aload_n (q := 0) rfl rfl rfl ?_
    refine lh_iload (q := 2) rfl rfl ?_
    refine lh_if_eq rfl (fun _ => ?_) (fun c => absurd (by decide) c) 
    refine lh_iconst rfl lh_k_1 ?_
    refine lh_putI4 rfl rfl (hS.1 0 _ rfl) rfl rfl ?_
    refine lh_aload_n (q := 0) rfl rfl rfl ?_
    refine lh_getI4 rfl rfl (hS.1 0 _ rfl) rfl ?_
    refine lh_if_le rfl (fun c19 => ?_) (fun c19 => ?_)
    · have hf := lh_ifT hf c19
      refine lh_iload (q := 1) rfl rfl ?_
      refine lh_if_ge rfl (fun c20 => ?_) (fun c20 => ?_)
      · have hf := lh_ifT hf c20
        refine lh_iload (q := 4) rfl rfl ?_
        exact lh_iret rfl rfl rfl (by obtain rfl := Option.some.inj hf; exact hK)
      · have hf := lh_ifF hf c20
        refine lh_iload (q := 3) rfl rfl ?_
        refine lh_goto rfl ?_
        exact lh_iret rfl rfl rfl (by obtain rfl := Option.some.inj hf; exact hK)
    · have hf := lh_ifF hf c19
      refine lh_iconst rfl lh_k_0 ?_
      refine lh_goto rfl ?_
      exact lh_iret rfl rfl rfl (by obtain rfl := Option.some.inj hf; exact hK)
  · have hf := lh_ifF hf c3
    refine lh_iload_n (q := 2) rfl rfl rfl ?_
    refine lh_iconst rfl lh_k_0 ?_
    refine lh_bipush rfl lh_b_9 ?_
    refine lh_bdE hf (fun r21 e22 hf => ?_)
    refine lh_cSi (N := m_LM_within) (d := 0) (As := [.int x2, .int 0, .int 9]) (st := []) rfl rfl v_LM_within rfl rfl ⟨rfl, rfl⟩ rfl (t_LM_within hG hS e22 ?_)
    refine lh_if_eq rfl (fun c23 => ?_) (fun c23 => ?_)
    · have hf := lh_ifT hf c23
      refine lh_iconst rfl lh_k_0 ?_
      refine lh_istore (lv' := [(0, .ref (65 + 4)), (1, .int x1), (2, .int x2), (3, .int x3), (4, .int x4), (5, .int 0)]) rfl rfl rfl ?_
      refine lh_iconst rfl lh_k_0 ?_
      refine lh_istore (lv' := [(0, .ref (65 + 4)), (1, .int x1), (2, .int x2), (3, .int x3), (4, .int x4), (5, .int 0), (6, .int 0)]) rfl rfl rfl ?_
      refine lh_iconst rfl lh_k_m1 ?_
      refine lh_istore (lv' := [(0, .ref (65 + 4)), (1, .int x1), (2, .int x2), (3, .int x3), (4, .int x4), (5, .int 0), (6, .int 0), (7, .int (-1))]) rfl rfl rfl ?_
      refine lh_iconst rfl lh_k_0 ?_
      refine lh_istore (lv' := [(0, .ref (65 + 4)), (1, .int x1), (2, .int x2), (3, .int x3), (4, .int x4), (5, .int 0), (6, .int 0), (7, .int (-1)), (8, .int 0)]) rfl rfl rfl ?_
      refine lh_bdE hf (fun r24 e25 hf => ?_)
      refine t_LM_rests_28 hG hS  _ 0 (-1) 0 _ e25 ?_
      refine lh_aload_n (q := 0) rfl rfl rfl ?_
      refine lh_iload (q := 2) rfl rfl ?_
      refine lh_if_eq rfl (fun _ => ?_) (fun c => absurd (by decide) c) 
      refine lh_iconst rfl lh_k_1 ?_
      refine lh_putI4 rfl rfl (hS.1 0 _ rfl) rfl rfl ?_
      refine lh_aload_n (q := 0) rfl rfl rfl ?_
      refine lh_getI4 rfl rfl (hS.1 0 _ rfl) rfl ?_
      refine lh_if_le rfl (fun c26 => ?_) (fun c26 => ?_)
      · have hf := lh_ifT hf c26
        refine lh_iload (q := 1) rfl rfl ?_
        refine lh_if_ge rfl (fun c27 => ?_) (fun c27 => ?_)
        · have hf := lh_ifT hf c27
          refine lh_iload (q := 4) rfl rfl ?_
          exact lh_iret rfl rfl rfl (by obtain rfl := Option.some.inj hf; exact hK)
        · have hf := lh_ifF hf c27
          refine lh_iload (q := 3) rfl rfl ?_
          refine lh_goto rfl ?_
          exact lh_iret rfl rfl rfl (by obtain rfl := Option.some.inj hf; exact hK)
      · have hf := lh_ifF hf c26
        refine lh_iconst rfl lh_k_0 ?_
        refine lh_goto rfl ?_
        exact lh_iret rfl rfl rfl (by obtain rfl := Option.some.inj hf; exact hK)
    · have hf := lh_ifF hf c23
      refine lh_iload_n (q := 3) rfl rfl rfl ?_
      refine lh_iconst rfl lh_k_0 ?_
      refine lh_bipush rfl lh_b_9 ?_
      refine lh_bdE hf (fun r28 e29 hf => ?_)
      refine lh_cSi (N := m_LM_within) (d := 0) (As := [.int x3, .int 0, .int 9]) (st := []) rfl rfl v_LM_within rfl rfl ⟨rfl, rfl⟩ rfl (t_LM_within hG hS e29 ?_)
      refine lh_if_eq rfl (fun c30 => ?_) (fun c30 => ?_)
      · have hf := lh_ifT hf c30
        refine lh_iconst rfl lh_k_0 ?_
        refine lh_istore (lv' := [(0, .ref (65 + 4)), (1, .int x1), (2, .int x2), (3, .int x3), (4, .int x4), (5, .int 0)]) rfl rfl rfl ?_
        refine lh_iconst rfl lh_k_0 ?_
        refine lh_istore (lv' := [(0, .ref (65 + 4)), (1, .int x1), (2, .int x2), (3, .int x3), (4, .int x4), (5, .int 0), (6, .int 0)]) rfl rfl rfl ?_
        refine lh_iconst rfl lh_k_m1 ?_
        refine lh_istore (lv' := [(0, .ref (65 + 4)), (1, .int x1), (2, .int x2), (3, .int x3), (4, .int x4), (5, .int 0), (6, .int 0), (7, .int (-1))]) rfl rfl rfl ?_
        refine lh_iconst rfl lh_k_0 ?_
        refine lh_istore (lv' := [(0, .ref (65 + 4)), (1, .int x1), (2, .int x2), (3, .int x3), (4, .int x4), (5, .int 0), (6, .int 0), (7, .int (-1)), (8, .int 0)]) rfl rfl rfl ?_
        refine lh_bdE hf (fun r31 e32 hf => ?_)
        refine t_LM_rests_28 hG hS  _ 0 (-1) 0 _ e32 ?_
        refine lh_aload_n (q := 0) rfl rfl rfl ?_
        refine lh_iload (q := 2) rfl rfl ?_
        refine lh_if_eq rfl (fun _ => ?_) (fun c => absurd (by decide) c) 
        refine lh_iconst rfl lh_k_1 ?_
        refine lh_putI4 rfl rfl (hS.1 0 _ rfl) rfl rfl ?_
        refine lh_aload_n (q := 0) rfl rfl rfl ?_
        refine lh_getI4 rfl rfl (hS.1 0 _ rfl) rfl ?_
        refine lh_if_le rfl (fun c33 => ?_) (fun c33 => ?_)
        · have hf := lh_ifT hf c33
          refine lh_iload (q := 1) rfl rfl ?_
          refine lh_if_ge rfl (fun c34 => ?_) (fun c34 => ?_)
          · have hf := lh_ifT hf c34
            refine lh_iload (q := 4) rfl rfl ?_
            exact lh_iret rfl rfl rfl (by obtain rfl := Option.some.inj hf; exact hK)
          · have hf := lh_ifF hf c34
            refine lh_iload (q := 3) rfl rfl ?_
            refine lh_goto rfl ?_
            exact lh_iret rfl rfl rfl (by obtain rfl := Option.some.inj hf; exact hK)
        · have hf := lh_ifF hf c33
          refine lh_iconst rfl lh_k_0 ?_
          refine lh_goto rfl ?_
          exact lh_iret rfl rfl rfl (by obtain rfl := Option.some.inj hf; exact hK)
      · have hf := lh_ifF hf c30
        refine lh_iload (q := 4) rfl rfl ?_
        refine lh_iconst rfl lh_k_m1 ?_
        refine lh_icmp_lt rfl (fun c35 => ?_) (fun c35 => ?_)
        · have hf := lh_ifT hf c35
          refine lh_iconst rfl lh_k_0 ?_
          refine lh_istore (lv' := [(0, .ref (65 + 4)), (1, .int x1), (2, .int x2), (3, .int x3), (4, .int x4), (5, .int 0)]) rfl rfl rfl ?_
          refine lh_iconst rfl lh_k_0 ?_
          refine lh_istore (lv' := [(0, .ref (65 + 4)), (1, .int x1), (2, .int x2), (3, .int x3), (4, .int x4), (5, .int 0), (6, .int 0)]) rfl rfl rfl ?_
          refine lh_iconst rfl lh_k_m1 ?_
          refine lh_istore (lv' := [(0, .ref (65 + 4)), (1, .int x1), (2, .int x2), (3, .int x3), (4, .int x4), (5, .int 0), (6, .int 0), (7, .int (-1))]) rfl rfl rfl ?_
          refine lh_iconst rfl lh_k_0 ?_
          refine lh_istore (lv' := [(0, .ref (65 + 4)), (1, .int x1), (2, .int x2), (3, .int x3), (4, .int x4), (5, .int 0), (6, .int 0), (7, .int (-1)), (8, .int 0)]) rfl rfl rfl ?_
          refine lh_bdE hf (fun r36 e37 hf => ?_)
          refine t_LM_rests_28 hG hS  _ 0 (-1) 0 _ e37 ?_
          refine lh_aload_n (q := 0) rfl rfl rfl ?_
          refine lh_iload (q := 2) rfl rfl ?_
          refine lh_if_eq rfl (fun _ => ?_) (fun c => absurd (by decide) c) 
          refine lh_iconst rfl lh_k_1 ?_
          refine lh_putI4 rfl rfl (hS.1 0 _ rfl) rfl rfl ?_
          refine lh_aload_n (q := 0) rfl rfl rfl ?_
          refine lh_getI4 rfl rfl (hS.1 0 _ rfl) rfl ?_
          refine lh_if_le rfl (fun c38 => ?_) (fun c38 => ?_)
          · have hf := lh_ifT hf c38
            refine lh_iload (q := 1) rfl rfl ?_
            refine lh_if_ge rfl (fun c39 => ?_) (fun c39 => ?_)
            · have hf := lh_ifT hf c39
              refine lh_iload (q := 4) rfl rfl ?_
              exact lh_iret rfl rfl rfl (by obtain rfl := Option.some.inj hf; exact hK)
            · have hf := lh_ifF hf c39
              refine lh_iload (q := 3) rfl rfl ?_
              refine lh_goto rfl ?_
              exact lh_iret rfl rfl rfl (by obtain rfl := Option.some.inj hf; exact hK)
          · have hf := lh_ifF hf c38
            refine lh_iconst rfl lh_k_0 ?_
            refine lh_goto rfl ?_
            exact lh_iret rfl rfl rfl (by obtain rfl := Option.some.inj hf; exact hK)
        · have hf := lh_ifF hf c35
          refine lh_iconst rfl lh_k_1 ?_
          refine lh_goto rfl ?_
          refine lh_istore (lv' := [(0, .ref (65 + 4)), (1, .int x1), (2, .int x2), (3, .int x3), (4, .int x4), (5, .int 1)]) rfl rfl rfl ?_
          refine lh_iconst rfl lh_k_0 ?_
          refine lh_istore (lv' := [(0, .ref (65 + 4)), (1, .int x1), (2, .int x2), (3, .int x3), (4, .int x4), (5, .int 1), (6, .int 0)]) rfl rfl rfl ?_
          refine lh_iconst rfl lh_k_m1 ?_
          refine lh_istore (lv' := [(0, .ref (65 + 4)), (1, .int x1), (2, .int x2), (3, .int x3), (4, .int x4), (5, .int 1), (6, .int 0), (7, .int (-1))]) rfl rfl rfl ?_
          refine lh_iconst rfl lh_k_0 ?_
          refine lh_istore (lv' := [(0, .ref (65 + 4)), (1, .int x1), (2, .int x2), (3, .int x3), (4, .int x4), (5, .int 1), (6, .int 0), (7, .int (-1)), (8, .int 0)]) rfl rfl rfl ?_
          refine lh_bdE hf (fun r40 e41 hf => ?_)
          refine t_LM_rests_28 hG hS  _ 0 (-1) 0 _ e41 ?_
          refine lh_aload_n (q := 0) rfl rfl rfl ?_
          refine lh_iload (q := 2) rfl rfl ?_
          refine lh_if_eq rfl (fun c => absurd c (by decide)) (fun _ => ?_)
          refine lh_iload (q := 1) rfl rfl ?_
          refine lh_if_lt rfl (fun c42 => ?_) (fun c42 => ?_)
          · have hf := lh_ifT hf c42
            refine lh_iconst rfl lh_k_0 ?_
            refine lh_goto rfl ?_
            refine lh_putI4 rfl rfl (hS.1 0 _ rfl) rfl rfl ?_
            refine lh_aload_n (q := 0) rfl rfl rfl ?_
            refine lh_getI4 rfl rfl (hS.1 0 _ rfl) rfl ?_
            refine lh_if_le rfl (fun c43 => ?_) (fun c43 => ?_)
            · have hf := lh_ifT hf c43
              refine lh_iload (q := 1) rfl rfl ?_
              refine lh_if_ge rfl (fun c44 => ?_) (fun c44 => ?_)
              · have hf := lh_ifT hf c44
                refine lh_iload (q := 4) rfl rfl ?_
                exact lh_iret rfl rfl rfl (by obtain rfl := Option.some.inj hf; exact hK)
              · have hf := lh_ifF hf c44
                refine lh_iload (q := 3) rfl rfl ?_
                refine lh_goto rfl ?_
                exact lh_iret rfl rfl rfl (by obtain rfl := Option.some.inj hf; exact hK)
            · have hf := lh_ifF hf c43
              refine lh_iconst rfl lh_k_0 ?_
              refine lh_goto rfl ?_
              exact lh_iret rfl rfl rfl (by obtain rfl := Option.some.inj hf; exact hK)
          · have hf := lh_ifF hf c42
            refine lh_iload (q := 4) rfl rfl ?_
            refine lh_if_lt rfl (fun c45 => ?_) (fun c45 => ?_)
            · have hf := lh_ifT hf c45
              refine lh_iconst rfl lh_k_1 ?_
              refine lh_putI4 rfl rfl (hS.1 0 _ rfl) rfl rfl ?_
              refine lh_aload_n (q := 0) rfl rfl rfl ?_
              refine lh_getI4 rfl rfl (hS.1 0 _ rfl) rfl ?_
              refine lh_if_le rfl (fun c46 => ?_) (fun c46 => ?_)
              · have hf := lh_ifT hf c46
                refine lh_iload (q := 1) rfl rfl ?_
                refine lh_if_ge rfl (fun c47 => ?_) (fun c47 => ?_)
                · have hf := lh_ifT hf c47
                  refine lh_iload (q := 4) rfl rfl ?_
                  exact lh_iret rfl rfl rfl (by obtain rfl := Option.some.inj hf; exact hK)
                · have hf := lh_ifF hf c47
                  refine lh_iload (q := 3) rfl rfl ?_
                  refine lh_goto rfl ?_
                  exact lh_iret rfl rfl rfl (by obtain rfl := Option.some.inj hf; exact hK)
              · have hf := lh_ifF hf c46
                refine lh_iconst rfl lh_k_0 ?_
                refine lh_goto rfl ?_
                exact lh_iret rfl rfl rfl (by obtain rfl := Option.some.inj hf; exact hK)
            · have hf := lh_ifF hf c45
              refine lh_iconst rfl lh_k_0 ?_
              refine lh_goto rfl ?_
              refine lh_putI4 rfl rfl (hS.1 0 _ rfl) rfl rfl ?_
              refine lh_aload_n (q := 0) rfl rfl rfl ?_
              refine lh_getI4 rfl rfl (hS.1 0 _ rfl) rfl ?_
              refine lh_if_le rfl (fun c48 => ?_) (fun c48 => ?_)
              · have hf := lh_ifT hf c48
                refine lh_iload (q := 1) rfl rfl ?_
                refine lh_if_ge rfl (fun c49 => ?_) (fun c49 => ?_)
                · have hf := lh_ifT hf c49
                  refine lh_iload (q := 4) rfl rfl ?_
                  exact lh_iret rfl rfl rfl (by obtain rfl := Option.some.inj hf; exact hK)
                · have hf := lh_ifF hf c49
                  refine lh_iload (q := 3) rfl rfl ?_
                  refine lh_goto rfl ?_
                  exact lh_iret rfl rfl rfl (by obtain rfl := Option.some.inj hf; exact hK)
              · have hf := lh_ifF hf c48
                refine lh_iconst rfl lh_k_0 ?_
                refine lh_goto rfl ?_
                exact lh_iret rfl rfl rfl (by obtain rfl := Option.some.inj hf; exact hK)
