/-! decompiled by program: f_.. the functions, t_.. that the methods do as they say -/
def f_LM_bumpsBy_8 (v1 : Int32) (v2 : Int32) (v3 : Int32) (I : lh_II) : Nat → Int32 → Int32 → Option (Int32)
  | 0, _, _ => none
  | n + 1, v4, v5 => lh_bd (f_LM_visitors I) fun r3 => if r3 ≤ v5 then some v4 else if v2 = 0 then some v4 else if ((v3 >>> (v5 &&& 31)) &&& 1) = 1 then lh_gd (lh_ix (v1 + 2) 736) (lh_bd (f_LM_cellOf v5 (I (78 + 4) (v1 + 2).toNatClampNeg) I) fun r9 => lh_gd (lh_ix (v1 + 5) 736) (if r9 = ((I (78 + 4) (v1 + 5).toNatClampNeg) + v2) then lh_bd (f_LM_kindOf v5 I) fun r13 => if r13 = 1 then f_LM_bumpsBy_8 v1 v2 v3 I n (v4 + 2) (v5 + 1) else f_LM_bumpsBy_8 v1 v2 v3 I n (v4 + 1) (v5 + 1) else f_LM_bumpsBy_8 v1 v2 v3 I n (v4 + 0) (v5 + 1))) else f_LM_bumpsBy_8 v1 v2 v3 I n (v4 + 0) (v5 + 1)
def f_LM_bumpsBy (x1 : Int32) (x2 : Int32) (I : lh_II) : Option (Int32 × lh_II) := lh_bd (f_LM_seenNow x1 I) fun r1 => lh_bd (f_LM_bumpsBy_8 x1 x2 r1.1 r1.2 lh_fuel 0 0) fun r16 => lh_gd (lh_ix (x1 + 5) 736) (lh_bd (f_LM_isCell ((r1.2 (78 + 4) (x1 + 5).toNatClampNeg) + x2) r1.2) fun r19 => if r19 = 0 then some (0, r1.2) else lh_bd (f_LM_isPillar ((r1.2 (78 + 4) (x1 + 5).toNatClampNeg) + x2) r1.2) fun r22 => if r22 = 0 then some (r16, r1.2) else some (0, r1.2))
theorem t_LM_bumpsBy_8 {Γ : lh_Cx} {F : lh_FF} {S : lh_SS} {Z : List Frame → Array Value → State → State → Prop} (hG : lh_GX Γ) (hS : lh_laym F S)  {v1 : Int32} {v2 : Int32} {v3 : Int32} {I : lh_II} {L : lh_LL} : ∀ (n : Nat) (v4 : Int32) (v5 : Int32) (o : Int32), f_LM_bumpsBy_8 v1 v2 v3 I n v4 v5 = some o → ∀ (x0_ : lh_G Γ m_LM_bumpsBy (lh_R 5 0 0) Z 0 0 54 [(0, .ref (65 + 4)), (1, .int v1), (2, .int v2), (4, .int o)] [] (I, L, F, S)), lh_G Γ m_LM_bumpsBy (lh_R 5 0 0) Z 0 0 8 [(0, .ref (65 + 4)), (1, .int v1), (2, .int v2), (3, .int v3), (4, .int v4), (5, .int v5)] [] (I, L, F, S) := by
  intro n
  induction n with
  | zero => intro v4 v5 o hf; cases hf
  | succ n ih =>
    intro v4 v5 o hf x0_
    rw [f_LM_bumpsBy_8] at hf
    refine lh_iload (q := 5) rfl rfl ?_
    refine lh_aload_n (q := 0) rfl rfl rfl ?_
    refine lh_bdE hf (fun r3 e4 hf => ?_)
    refine lh_cVi (N := m_LM_visitors) (d := 0) (o := 65) (As := []) (st := [.int v5]) rfl rfl v_LM_visitors (hS.1 0 _ rfl) rfl rfl rfl ⟨rfl, rfl⟩ rfl (t_LM_visitors hG hS e4 ?_)
    refine lh_icmp_ge rfl (fun c5 => ?_) (fun c5 => ?_)
    · have hf := lh_ifT hf c5
      exact lh_less [0, 1, 2, 4] rfl (by cases hf; exact x0_)
    · have hf := lh_ifF hf c5
      refine lh_iload_n (q := 2) rfl rfl rfl ?_
      refine lh_if_eq rfl (fun c6 => ?_) (fun c6 => ?_)
      · have hf := lh_ifT hf c6
        exact lh_less [0, 1, 2, 4] rfl (by cases hf; exact x0_)
      · have hf := lh_ifF hf c6
        refine lh_iload (q := 4) rfl rfl ?_
        refine lh_iload_n (q := 3) rfl rfl rfl ?_
        refine lh_iload (q := 5) rfl rfl ?_
        refine lh_ishr rfl ?_
        refine lh_iconst rfl lh_k_1 ?_
        refine lh_iand rfl ?_
        refine lh_iconst rfl lh_k_1 ?_
        refine lh_icmp_ne rfl (fun c7 => ?_) (fun c7 => ?_)
        · have hf := lh_ifF hf c7
          refine lh_iconst rfl lh_k_0 ?_
          refine lh_iadd rfl ?_
          refine lh_istore (lv' := [(0, .ref (65 + 4)), (1, .int v1), (2, .int v2), (3, .int v3), (4, .int (v4 + 0)), (5, .int v5)]) rfl rfl rfl ?_
          refine lh_iinc (q := 5) (v := (v5 + 1)) (lv' := [(0, .ref (65 + 4)), (1, .int v1), (2, .int v2), (3, .int v3), (4, .int (v4 + 0)), (5, .int (v5 + 1))]) rfl rfl (congrArg (v5 + ·) (by decide)) rfl rfl ?_
          refine lh_goto rfl ?_
          exact ih (v4 + 0) (v5 + 1) _ hf x0_
        · have hf := lh_ifT hf c7
          refine lh_aload_n (q := 0) rfl rfl rfl ?_
          refine lh_iload (q := 5) rfl rfl ?_
          refine lh_aload_n (q := 0) rfl rfl rfl ?_
          refine lh_getR4 rfl rfl (hS.1 0 _ rfl) rfl (hS.2 12 _ rfl) ?_
          refine lh_iload_n (q := 1) rfl rfl rfl ?_
          refine lh_iconst rfl lh_k_2 ?_
          refine lh_iadd rfl ?_
          obtain ⟨g8, hf⟩ := lh_gdE hf
          refine lh_iald4 rfl (hS.1 13 _ rfl) g8 ?_
          refine lh_bdE hf (fun r9 e10 hf => ?_)
          refine lh_cVi (N := m_LM_cellOf) (d := 1) (o := 65) (As := [.int v5, .int (I (78 + 4) (v1 + 2).toNatClampNeg)]) (st := [.int v4]) rfl rfl v_LM_cellOf (hS.1 0 _ rfl) rfl rfl rfl ⟨rfl, rfl⟩ rfl (t_LM_cellOf hG hS e10 ?_)
          refine lh_aload_n (q := 0) rfl rfl rfl ?_
          refine lh_getR4 rfl rfl (hS.1 0 _ rfl) rfl (hS.2 12 _ rfl) ?_
          refine lh_iload_n (q := 1) rfl rfl rfl ?_
          refine lh_iconst rfl lh_k_5 ?_
          refine lh_iadd rfl ?_
          obtain ⟨g11, hf⟩ := lh_gdE hf
          refine lh_iald4 rfl (hS.1 13 _ rfl) g11 ?_
          refine lh_iload_n (q := 2) rfl rfl rfl ?_
          refine lh_iadd rfl ?_
          refine lh_icmp_ne rfl (fun c12 => ?_) (fun c12 => ?_)
          · have hf := lh_ifF hf c12
            refine lh_iconst rfl lh_k_0 ?_
            refine lh_iadd rfl ?_
            refine lh_istore (lv' := [(0, .ref (65 + 4)), (1, .int v1), (2, .int v2), (3, .int v3), (4, .int (v4 + 0)), (5, .int v5)]) rfl rfl rfl ?_
            refine lh_iinc (q := 5) (v := (v5 + 1)) (lv' := [(0, .ref (65 + 4)), (1, .int v1), (2, .int v2), (3, .int v3), (4, .int (v4 + 0)), (5, .int (v5 + 1))]) rfl rfl (congrArg (v5 + ·) (by decide)) rfl rfl ?_
            refine lh_goto rfl ?_
            exact ih (v4 + 0) (v5 + 1) _ hf x0_
          · have hf := lh_ifT hf c12
            refine lh_aload_n (q := 0) rfl rfl rfl ?_
            refine lh_iload (q := 5) rfl rfl ?_
            refine lh_bdE hf (fun r13 e14 hf => ?_)
            refine lh_cVi (N := m_LM_kindOf) (d := 0) (o := 65) (As := [.int v5]) (st := [.int v4]) rfl rfl v_LM_kindOf (hS.1 0 _ rfl) rfl rfl rfl ⟨rfl, rfl⟩ rfl (t_LM_kindOf hG hS e14 ?_)
            refine lh_iconst rfl lh_k_1 ?_
            refine lh_icmp_ne rfl (fun c15 => ?_) (fun c15 => ?_)
            · have hf := lh_ifF hf c15
              refine lh_iconst rfl lh_k_1 ?_
              refine lh_goto rfl ?_
              refine lh_iadd rfl ?_
              refine lh_istore (lv' := [(0, .ref (65 + 4)), (1, .int v1), (2, .int v2), (3, .int v3), (4, .int (v4 + 1)), (5, .int v5)]) rfl rfl rfl ?_
              refine lh_iinc (q := 5) (v := (v5 + 1)) (lv' := [(0, .ref (65 + 4)), (1, .int v1), (2, .int v2), (3, .int v3), (4, .int (v4 + 1)), (5, .int (v5 + 1))]) rfl rfl (congrArg (v5 + ·) (by decide)) rfl rfl ?_
              refine lh_goto rfl ?_
              exact ih (v4 + 1) (v5 + 1) _ hf x0_
            · have hf := lh_ifT hf c15
              refine lh_iconst rfl lh_k_2 ?_
              refine lh_goto rfl ?_
              refine lh_iadd rfl ?_
              refine lh_istore (lv' := [(0, .ref (65 + 4)), (1, .int v1), (2, .int v2), (3, .int v3), (4, .int (v4 + 2)), (5, .int v5)]) rfl rfl rfl ?_
              refine lh_iinc (q := 5) (v := (v5 + 1)) (lv' := [(0, .ref (65 + 4)), (1, .int v1), (2, .int v2), (3, .int v3), (4, .int (v4 + 2)), (5, .int (v5 + 1))]) rfl rfl (congrArg (v5 + ·) (by decide)) rfl rfl ?_
              refine lh_goto rfl ?_
              exact ih (v4 + 2) (v5 + 1) _ hf x0_
theorem t_LM_bumpsBy {Γ : lh_Cx} {I : lh_II} {L : lh_LL} {F : lh_FF} {S : lh_SS} {K : Int32 → lh_Hp → Prop} {r : Int32 × lh_II} (hG : lh_GX Γ) (hS : lh_laym F S)  {x1 : Int32} {x2 : Int32} (hf : f_LM_bumpsBy x1 x2 I = some r) (hK : K r.1 (r.2, L, F, S)) : lh_Met Γ m_LM_bumpsBy 5 0 0 [.ref (65 + 4), .int x1, .int x2] (I, L, F, S) (lh_ki K) := by
  rw [f_LM_bumpsBy] at hf
  refine lh_ofG k_LM_bumpsBy [(0, .ref (65 + 4)), (1, .int x1), (2, .int x2)] rfl (Nat.le_of_ble_eq_true rfl) rfl ?_
  refine lh_aload_n (q := 0) rfl rfl rfl ?_
  refine lh_iload_n (q := 1) rfl rfl rfl ?_
  refine lh_bdE hf (fun r1 e2 hf => ?_)
  refine lh_cVi (N := m_LM_seenNow) (d := 4) (o := 65) (As := [.int x1]) (st := []) rfl rfl v_LM_seenNow (hS.1 0 _ rfl) rfl rfl rfl ⟨rfl, rfl⟩ rfl (t_LM_seenNow hG hS e2 ?_)
  refine lh_istore_n (lv' := [(0, .ref (65 + 4)), (1, .int x1), (2, .int x2), (3, .int r1.1)]) rfl rfl rfl rfl ?_
  refine lh_iconst rfl lh_k_0 ?_
  refine lh_istore (lv' := [(0, .ref (65 + 4)), (1, .int x1), (2, .int x2), (3, .int r1.1), (4, .int 0)]) rfl rfl rfl ?_
  refine lh_iconst rfl lh_k_0 ?_
  refine lh_istore (lv' := [(0, .ref (65 + 4)), (1, .int x1), (2, .int x2), (3, .int r1.1), (4, .int 0), (5, .int 0)]) rfl rfl rfl ?_
  refine lh_bdE hf (fun r16 e17 hf => ?_)
  refine t_LM_bumpsBy_8 hG hS  _ 0 0 _ e17 ?_
  refine lh_aload_n (q := 0) rfl rfl rfl ?_
  refine lh_getR4 rfl rfl (hS.1 0 _ rfl) rfl (hS.2 12 _ rfl) ?_
  refine lh_iload_n (q := 1) rfl rfl rfl ?_
  refine lh_iconst rfl lh_k_5 ?_
  refine lh_iadd rfl ?_
  obtain ⟨g18, hf⟩ := lh_gdE hf
  refine lh_iald4 rfl (hS.1 13 _ rfl) g18 ?_
  refine lh_iload_n (q := 2) rfl rfl rfl ?_
  refine lh_iadd rfl ?_
  refine lh_istore (lv' := [(0, .ref (65 + 4)), (1, .int x1), (2, .int x2), (4, .int r16), (5, .int ((r1.2 (78 + 4) (x1 + 5).toNatClampNeg) + x2))]) rfl rfl rfl ?_
  refine lh_aload_n (q := 0) rfl rfl rfl ?_
  refine lh_iload (q := 4) rfl rfl ?_
  refine lh_bdE hf (fun r19 e20 hf => ?_)
  refine lh_cVi (N := m_LM_isCell) (d := 1) (o := 65) (As := [.int ((r1.2 (78 + 4) (x1 + 5).toNatClampNeg) + x2)]) (st := []) rfl rfl v_LM_isCell (hS.1 0 _ rfl) rfl rfl rfl ⟨rfl, rfl⟩ rfl (t_LM_isCell hG hS e20 ?_)
  refine lh_if_eq rfl (fun c21 => ?_) (fun c21 => ?_)
  · have hf := lh_ifT hf c21
    refine lh_iconst rfl lh_k_0 ?_
    exact lh_iret rfl rfl rfl (by obtain rfl := Option.some.inj hf; exact hK)
  · have hf := lh_ifF hf c21
    refine lh_aload_n (q := 0) rfl rfl rfl ?_
    refine lh_iload (q := 4) rfl rfl ?_
    refine lh_bdE hf (fun r22 e23 hf => ?_)
    refine lh_cVi (N := m_LM_isPillar) (d := 0) (o := 65) (As := [.int ((r1.2 (78 + 4) (x1 + 5).toNatClampNeg) + x2)]) (st := []) rfl rfl v_LM_isPillar (hS.1 0 _ rfl) rfl rfl rfl ⟨rfl, rfl⟩ rfl (t_LM_isPillar hG hS e23 ?_)
    refine lh_if_ne rfl (fun c24 => ?_) (fun c24 => ?_)
    · have hf := lh_ifF hf c24
      refine lh_iconst rfl lh_k_0 ?_
      exact lh_iret rfl rfl rfl (by obtain rfl := Option.some.inj hf; exact hK)
    · have hf := lh_ifT hf c24
      refine lh_iload (q := 3) rfl rfl ?_
      refine lh_goto rfl ?_
      exact lh_iret rfl rfl rfl (by obtain rfl := Option.some.inj hf; exact hK)
def f_LM_cellBy (x1 : Int32) (x2 : Int32) (I : lh_II) : Option (Int32 × lh_II) := lh_gd (lh_ix (x1 + 5) 736) (lh_bd (f_LM_isCell ((I (78 + 4) (x1 + 5).toNatClampNeg) + x2) I) fun r2 => if r2 = 0 then lh_gd (lh_ix (x1 + 5) 736) (some ((I (78 + 4) (x1 + 5).toNatClampNeg), I)) else lh_bd (f_LM_isPillar ((I (78 + 4) (x1 + 5).toNatClampNeg) + x2) I) fun r6 => if r6 = 0 then lh_bd (f_LM_bumpsBy x1 x2 I) fun r10 => if r10.1 = 0 then some (((I (78 + 4) (x1 + 5).toNatClampNeg) + x2), r10.2) else lh_gd (lh_ix (x1 + 5) 736) (some ((r10.2 (78 + 4) (x1 + 5).toNatClampNeg), r10.2)) else lh_gd (lh_ix (x1 + 5) 736) (some ((I (78 + 4) (x1 + 5).toNatClampNeg), I)))
theorem t_LM_cellBy {Γ : lh_Cx} {I : lh_II} {L : lh_LL} {F : lh_FF} {S : lh_SS} {K : Int32 → lh_Hp → Prop} {r : Int32 × lh_II} (hG : lh_GX Γ) (hS : lh_laym F S)  {x1 : Int32} {x2 : Int32} (hf : f_LM_cellBy x1 x2 I = some r) (hK : K r.1 (r.2, L, F, S)) : lh_Met Γ m_LM_cellBy 6 0 0 [.ref (65 + 4), .int x1, .int x2] (I, L, F, S) (lh_ki K) := by
  rw [f_LM_cellBy] at hf
  refine lh_ofG k_LM_cellBy [(0, .ref (65 + 4)), (1, .int x1), (2, .int x2)] rfl (Nat.le_of_ble_eq_true rfl) rfl ?_
  refine lh_aload_n (q := 0) rfl rfl rfl ?_
  refine lh_getR4 rfl rfl (hS.1 0 _ rfl) rfl (hS.2 12 _ rfl) ?_
  refine lh_iload_n (q := 1) rfl rfl rfl ?_
  refine lh_iconst rfl lh_k_5 ?_
  refine lh_iadd rfl ?_
  obtain ⟨g1, hf⟩ := lh_gdE hf
  refine lh_iald4 rfl (hS.1 13 _ rfl) g1 ?_
  refine lh_iload_n (q := 2) rfl rfl rfl ?_
  refine lh_iadd rfl ?_
  refine lh_istore_n (lv' := [(0, .ref (65 + 4)), (1, .int x1), (2, .int x2), (3, .int ((I (78 + 4) (x1 + 5).toNatClampNeg) + x2))]) rfl rfl rfl rfl ?_
  refine lh_aload_n (q := 0) rfl rfl rfl ?_
  refine lh_iload_n (q := 3) rfl rfl rfl ?_
  refine lh_bdE hf (fun r2 e3 hf => ?_)
  refine lh_cVi (N := m_LM_isCell) (d := 1) (o := 65) (As := [.int ((I (78 + 4) (x1 + 5).toNatClampNeg) + x2)]) (st := []) rfl rfl v_LM_isCell (hS.1 0 _ rfl) rfl rfl rfl ⟨rfl, rfl⟩ rfl (t_LM_isCell hG hS e3 ?_)
  refine lh_if_eq rfl (fun c4 => ?_) (fun c4 => ?_)
  · have hf := lh_ifT hf c4
    refine lh_aload_n (q := 0) rfl rfl rfl ?_
    refine lh_getR4 rfl rfl (hS.1 0 _ rfl) rfl (hS.2 12 _ rfl) ?_
    refine lh_iload_n (q := 1) rfl rfl rfl ?_
    refine lh_iconst rfl lh_k_5 ?_
    refine lh_iadd rfl ?_
    obtain ⟨g5, hf⟩ := lh_gdE hf
    refine lh_iald4 rfl (hS.1 13 _ rfl) g5 ?_
    exact lh_iret rfl rfl rfl (by obtain rfl := Option.some.inj hf; exact hK)
  · have hf := lh_ifF hf c4
    refine lh_aload_n (q := 0) rfl rfl rfl ?_
    refine lh_iload_n (q := 3) rfl rfl rfl ?_
    refine lh_bdE hf (fun r6 e7 hf => ?_)
    refine lh_cVi (N := m_LM_isPillar) (d := 0) (o := 65) (As := [.int ((I (78 + 4) (x1 + 5).toNatClampNeg) + x2)]) (st := []) rfl rfl v_LM_isPillar (hS.1 0 _ rfl) rfl rfl rfl ⟨rfl, rfl⟩ rfl (t_LM_isPillar hG hS e7 ?_)
    refine lh_if_ne rfl (fun c8 => ?_) (fun c8 => ?_)
    · have hf := lh_ifF hf c8
      refine lh_aload_n (q := 0) rfl rfl rfl ?_
      refine lh_getR4 rfl rfl (hS.1 0 _ rfl) rfl (hS.2 12 _ rfl) ?_
      refine lh_iload_n (q := 1) rfl rfl rfl ?_
      refine lh_iconst rfl lh_k_5 ?_
      refine lh_iadd rfl ?_
      obtain ⟨g9, hf⟩ := lh_gdE hf
      refine lh_iald4 rfl (hS.1 13 _ rfl) g9 ?_
      exact lh_iret rfl rfl rfl (by obtain rfl := Option.some.inj hf; exact hK)
    · have hf := lh_ifT hf c8
      refine lh_aload_n (q := 0) rfl rfl rfl ?_
      refine lh_iload_n (q := 1) rfl rfl rfl ?_
      refine lh_iload_n (q := 2) rfl rfl rfl ?_
      refine lh_bdE hf (fun r10 e11 hf => ?_)
      refine lh_cVi (N := m_LM_bumpsBy) (d := 5) (o := 65) (As := [.int x1, .int x2]) (st := []) rfl rfl v_LM_bumpsBy (hS.1 0 _ rfl) rfl rfl rfl ⟨rfl, rfl⟩ rfl (t_LM_bumpsBy hG hS e11 ?_)
      refine lh_if_ne rfl (fun c12 => ?_) (fun c12 => ?_)
      · have hf := lh_ifF hf c12
        refine lh_aload_n (q := 0) rfl rfl rfl ?_
        refine lh_getR4 rfl rfl (hS.1 0 _ rfl) rfl (hS.2 12 _ rfl) ?_
        refine lh_iload_n (q := 1) rfl rfl rfl ?_
        refine lh_iconst rfl lh_k_5 ?_
        refine lh_iadd rfl ?_
        obtain ⟨g13, hf⟩ := lh_gdE hf
        refine lh_iald4 rfl (hS.1 13 _ rfl) g13 ?_
        exact lh_iret rfl rfl rfl (by obtain rfl := Option.some.inj hf; exact hK)
      · have hf := lh_ifT hf c12
        refine lh_iload_n (q := 3) rfl rfl rfl ?_
        refine lh_goto rfl ?_
        exact lh_iret rfl rfl rfl (by obtain rfl := Option.some.inj hf; exact hK)
def f_LM_census_19 (v1 : Int32) (v2 : Int32) (I : lh_II) : Nat → Int32 → Int32 → Option (Int32)
  | 0, _, _ => none
  | n + 1, v3, v4 => lh_bd (f_LM_visitors I) fun r7 => if r7 ≤ v4 then some v3 else lh_bd (f_LM_dayOf v4 I) fun r10 => if r10 = v1 then lh_bd (f_LM_cellOf v4 v2 I) fun r13 => if r13 < 0 then f_LM_census_19 v1 v2 I n (v3 ||| 0) (v4 + 1) else f_LM_census_19 v1 v2 I n (v3 ||| ((1 : Int32) <<< (v4 &&& 31))) (v4 + 1) else f_LM_census_19 v1 v2 I n (v3 ||| 0) (v4 + 1)
def f_LM_census (x1 : Int32) (x2 : Int32) (I : lh_II) : Option (Int32 × lh_II) := lh_bd (f_LM_within x1 (0 : Int32) (3 : Int32)) fun r1 => if r1 = 0 then some ((-1), lh_u2 I (65 + 4) 0 0) else lh_bd (f_LM_within x2 (0 : Int32) (7 : Int32)) fun r4 => if r4 = 0 then some ((-1), lh_u2 I (65 + 4) 0 0) else lh_bd (f_LM_census_19 x1 x2 (lh_u2 I (65 + 4) 0 0) lh_fuel 0 0) fun r16 => some (r16, lh_u2 I (65 + 4) 0 0)
theorem t_LM_census_19 {Γ : lh_Cx} {F : lh_FF} {S : lh_SS} {Z : List Frame → Array Value → State → State → Prop} (hG : lh_GX Γ) (hS : lh_laym F S)  {v1 : Int32} {v2 : Int32} {I : lh_II} {L : lh_LL} : ∀ (n : Nat) (v3 : Int32) (v4 : Int32) (o : Int32), f_LM_census_19 v1 v2 I n v3 v4 = some o → ∀ (x0_ : lh_G Γ m_LM_census (lh_R 2 0 0) Z 0 0 43 [(3, .int o)] [] (I, L, F, S)), lh_G Γ m_LM_census (lh_R 2 0 0) Z 0 0 19 [(0, .ref (65 + 4)), (1, .int v1), (2, .int v2), (3, .int v3), (4, .int v4)] [] (I, L, F, S) := by
  intro n
  induction n with
  | zero => intro v3 v4 o hf; cases hf
  | succ n ih =>
    intro v3 v4 o hf x0_
    rw [f_LM_census_19] at hf
    refine lh_iload (q := 4) rfl rfl ?_
    refine lh_aload_n (q := 0) rfl rfl rfl ?_
    refine lh_bdE hf (fun r7 e8 hf => ?_)
    refine lh_cVi (N := m_LM_visitors) (d := 0) (o := 65) (As := []) (st := [.int v4]) rfl rfl v_LM_visitors (hS.1 0 _ rfl) rfl rfl rfl ⟨rfl, rfl⟩ rfl (t_LM_visitors hG hS e8 ?_)
    refine lh_icmp_ge rfl (fun c9 => ?_) (fun c9 => ?_)
    · have hf := lh_ifT hf c9
      exact lh_less [3] rfl (by cases hf; exact x0_)
    · have hf := lh_ifF hf c9
      refine lh_iload_n (q := 3) rfl rfl rfl ?_
      refine lh_aload_n (q := 0) rfl rfl rfl ?_
      refine lh_iload (q := 4) rfl rfl ?_
      refine lh_bdE hf (fun r10 e11 hf => ?_)
      refine lh_cVi (N := m_LM_dayOf) (d := 0) (o := 65) (As := [.int v4]) (st := [.int v3]) rfl rfl v_LM_dayOf (hS.1 0 _ rfl) rfl rfl rfl ⟨rfl, rfl⟩ rfl (t_LM_dayOf hG hS e11 ?_)
      refine lh_iload_n (q := 1) rfl rfl rfl ?_
      refine lh_icmp_ne rfl (fun c12 => ?_) (fun c12 => ?_)
      · have hf := lh_ifF hf c12
        refine lh_iconst rfl lh_k_0 ?_
        refine lh_ior rfl ?_
        refine lh_istore_n (lv' := [(0, .ref (65 + 4)), (1, .int v1), (2, .int v2), (3, .int (v3 ||| 0)), (4, .int v4)]) rfl rfl rfl rfl ?_
        refine lh_iinc (q := 4) (v := (v4 + 1)) (lv' := [(0, .ref (65 + 4)), (1, .int v1), (2, .int v2), (3, .int (v3 ||| 0)), (4, .int (v4 + 1))]) rfl rfl (congrArg (v4 + ·) (by decide)) rfl rfl ?_
        refine lh_goto rfl ?_
        exact ih (v3 ||| 0) (v4 + 1) _ hf x0_
      · have hf := lh_ifT hf c12
        refine lh_aload_n (q := 0) rfl rfl rfl ?_
        refine lh_iload (q := 4) rfl rfl ?_
        refine lh_iload_n (q := 2) rfl rfl rfl ?_
        refine lh_bdE hf (fun r13 e14 hf => ?_)
        refine lh_cVi (N := m_LM_cellOf) (d := 1) (o := 65) (As := [.int v4, .int v2]) (st := [.int v3]) rfl rfl v_LM_cellOf (hS.1 0 _ rfl) rfl rfl rfl ⟨rfl, rfl⟩ rfl (t_LM_cellOf hG hS e14 ?_)
        refine lh_if_lt rfl (fun c15 => ?_) (fun c15 => ?_)
        · have hf := lh_ifT hf c15
          refine lh_iconst rfl lh_k_0 ?_
          refine lh_ior rfl ?_
          refine lh_istore_n (lv' := [(0, .ref (65 + 4)), (1, .int v1), (2, .int v2), (3, .int (v3 ||| 0)), (4, .int v4)]) rfl rfl rfl rfl ?_
          refine lh_iinc (q := 4) (v := (v4 + 1)) (lv' := [(0, .ref (65 + 4)), (1, .int v1), (2, .int v2), (3, .int (v3 ||| 0)), (4, .int (v4 + 1))]) rfl rfl (congrArg (v4 + ·) (by decide)) rfl rfl ?_
          refine lh_goto rfl ?_
          exact ih (v3 ||| 0) (v4 + 1) _ hf x0_
        · have hf := lh_ifF hf c15
          refine lh_iconst rfl lh_k_1 ?_
          refine lh_iload (q := 4) rfl rfl ?_
          refine lh_ishl rfl ?_
          refine lh_goto rfl ?_
          refine lh_ior rfl ?_
          refine lh_istore_n (lv' := [(0, .ref (65 + 4)), (1, .int v1), (2, .int v2), (3, .int (v3 ||| ((1 : Int32) <<< (v4 &&& 31)))), (4, .int v4)]) rfl rfl rfl rfl ?_
          refine lh_iinc (q := 4) (v := (v4 + 1)) (lv' := [(0, .ref (65 + 4)), (1, .int v1), (2, .int v2), (3, .int (v3 ||| ((1 : Int32) <<< (v4 &&& 31)))), (4, .int (v4 + 1))]) rfl rfl (congrArg (v4 + ·) (by decide)) rfl rfl ?_
          refine lh_goto rfl ?_
          exact ih (v3 ||| ((1 : Int32) <<< (v4 &&& 31))) (v4 + 1) _ hf x0_
theorem t_LM_census {Γ : lh_Cx} {I : lh_II} {L : lh_LL} {F : lh_FF} {S : lh_SS} {K : Int32 → lh_Hp → Prop} {r : Int32 × lh_II} (hG : lh_GX Γ) (hS : lh_laym F S)  {x1 : Int32} {x2 : Int32} (hf : f_LM_census x1 x2 I = some r) (hK : K r.1 (r.2, L, F, S)) : lh_Met Γ m_LM_census 2 0 0 [.ref (65 + 4), .int x1, .int x2] (I, L, F, S) (lh_ki K) := by
  rw [f_LM_census] at hf
  refine lh_ofG k_LM_census [(0, .ref (65 + 4)), (1, .int x1), (2, .int x2)] rfl (Nat.le_of_ble_eq_true rfl) rfl ?_
  refine lh_aload_n (q := 0) rfl rfl rfl ?_
  refine lh_iconst rfl lh_k_0 ?_
  refine lh_putI4 rfl rfl (hS.1 0 _ rfl) rfl rfl ?_
  refine lh_iload_n (q := 1) rfl rfl rfl ?_
  refine lh_iconst rfl lh_k_0 ?_
  refine lh_iconst rfl lh_k_3 ?_
  refine lh_bdE hf (fun r1 e2 hf => ?_)
  refine lh_cSi (N := m_LM_within) (d := 0) (As := [.int x1, .int 0, .int 3]) (st := []) rfl rfl v_LM_within rfl rfl ⟨rfl, rfl⟩ rfl (t_LM_within hG hS e2 ?_)
  refine lh_if_eq rfl (fun c3 => ?_) (fun c3 => ?_)
  · have hf := lh_ifT hf c3
    refine lh_iconst rfl lh_k_m1 ?_
    exact lh_iret rfl rfl rfl (by obtain rfl := Option.some.inj hf; exact hK)
  · have hf := lh_ifF hf c3
    refine lh_iload_n (q := 2) rfl rfl rfl ?_
    refine lh_iconst rfl lh_k_0 ?_
    refine lh_bipush rfl lh_b_7 ?_
    refine lh_bdE hf (fun r4 e5 hf => ?_)
    refine lh_cSi (N := m_LM_within) (d := 0) (As := [.int x2, .int 0, .int 7]) (st := []) rfl rfl v_LM_within rfl rfl ⟨rfl, rfl⟩ rfl (t_LM_within hG hS e5 ?_)
    refine lh_if_ne rfl (fun c6 => ?_) (fun c6 => ?_)
    · have hf := lh_ifF hf c6
      refine lh_iconst rfl lh_k_0 ?_
      refine lh_istore_n (lv' := [(0, .ref (65 + 4)), (1, .int x1), (2, .int x2), (3, .int 0)]) rfl rfl rfl rfl ?_
      refine lh_iconst rfl lh_k_0 ?_
      refine lh_istore (lv' := [(0, .ref (65 + 4)), (1, .int x1), (2, .int x2), (3, .int 0), (4, .int 0)]) rfl rfl rfl ?_
      refine lh_bdE hf (fun r16 e17 hf => ?_)
      refine t_LM_census_19 hG hS  _ 0 0 _ e17 ?_
      refine lh_iload_n (q := 0) rfl rfl rfl ?_
      exact lh_iret rfl rfl rfl (by obtain rfl := Option.some.inj hf; exact hK)
    · have hf := lh_ifT hf c6
      refine lh_iconst rfl lh_k_m1 ?_
      exact lh_iret rfl rfl rfl (by obtain rfl := Option.some.inj hf; exact hK)
def f_LM_vases (I : lh_II) : Option (Int32) := some (I (71 + 4) 2)
theorem t_LM_vases {Γ : lh_Cx} {I : lh_II} {L : lh_LL} {F : lh_FF} {S : lh_SS} {K : Int32 → lh_Hp → Prop} {r : Int32} (hG : lh_GX Γ) (hS : lh_laym F S)  (hf : f_LM_vases I = some r) (hK : K r (I, L, F, S)) : lh_Met Γ m_LM_vases 0 0 0 [.ref (65 + 4)] (I, L, F, S) (lh_ki K) := by
  rw [f_LM_vases] at hf
  refine lh_ofG k_LM_vases [(0, .ref (65 + 4))] rfl (Nat.le_of_ble_eq_true rfl) rfl ?_
  refine lh_aload_n (q := 0) rfl rfl rfl ?_
  refine lh_getR4 rfl rfl (hS.1 0 _ rfl) rfl (hS.2 5 _ rfl) ?_
  refine lh_iconst rfl lh_k_2 ?_
  refine lh_iald5 (k := 2) rfl (hS.1 6 _ rfl) (by decide) (by decide) ?_
  exact lh_iret rfl rfl rfl (by obtain rfl := Option.some.inj hf; exact hK)
def f_LM_isVase (x1 : Int32) (I : lh_II) : Option (Int32) := if x1 < 0 then some 0 else lh_bd (f_LM_vases I) fun r2 => if r2 ≤ x1 then some 0 else some 1
theorem t_LM_isVase {Γ : lh_Cx} {I : lh_II} {L : lh_LL} {F : lh_FF} {S : lh_SS} {K : Int32 → lh_Hp → Prop} {r : Int32} (hG : lh_GX Γ) (hS : lh_laym F S)  {x1 : Int32} (hf : f_LM_isVase x1 I = some r) (hK : K r (I, L, F, S)) : lh_Met Γ m_LM_isVase 1 0 0 [.ref (65 + 4), .int x1] (I, L, F, S) (lh_ki K) := by
  rw [f_LM_isVase] at hf
  refine lh_ofG k_LM_isVase [(0, .ref (65 + 4)), (1, .int x1)] rfl (Nat.le_of_ble_eq_true rfl) rfl ?_
  refine lh_iload_n (q := 1) rfl rfl rfl ?_
  refine lh_if_lt rfl (fun c1 => ?_) (fun c1 => ?_)
  · have hf := lh_ifT hf c1
    refine lh_iconst rfl lh_k_0 ?_
    exact lh_iret rfl rfl (by decide) (by obtain rfl := Option.some.inj hf; exact hK)
  · have hf := lh_ifF hf c1
    refine lh_iload_n (q := 1) rfl rfl rfl ?_
    refine lh_aload_n (q := 0) rfl rfl rfl ?_
    refine lh_bdE hf (fun r2 e3 hf => ?_)
    refine lh_cVi (N := m_LM_vases) (d := 0) (o := 65) (As := []) (st := [.int x1]) rfl rfl v_LM_vases (hS.1 0 _ rfl) rfl rfl rfl ⟨rfl, rfl⟩ rfl (t_LM_vases hG hS e3 ?_)
    refine lh_icmp_ge rfl (fun c4 => ?_) (fun c4 => ?_)
    · have hf := lh_ifT hf c4
      refine lh_iconst rfl lh_k_0 ?_
      exact lh_iret rfl rfl (by decide) (by obtain rfl := Option.some.inj hf; exact hK)
    · have hf := lh_ifF hf c4
      refine lh_iconst rfl lh_k_1 ?_
      refine lh_goto rfl ?_
      exact lh_iret rfl rfl (by decide) (by obtain rfl := Option.some.inj hf; exact hK)
def f_LM_vaseAt (x1 : Int32) (I : lh_II) : Option (Int32) := lh_gd (lh_ix (75 + x1) 200) (lh_bd (f_LM_cells I) fun r2 => if r2 ≤ (I (71 + 4) (75 + x1).toNatClampNeg) then some (-1) else lh_gd (lh_ix (75 + x1) 200) (some (I (71 + 4) (75 + x1).toNatClampNeg)))
theorem t_LM_vaseAt {Γ : lh_Cx} {I : lh_II} {L : lh_LL} {F : lh_FF} {S : lh_SS} {K : Int32 → lh_Hp → Prop} {r : Int32} (hG : lh_GX Γ) (hS : lh_laym F S)  {x1 : Int32} (hf : f_LM_vaseAt x1 I = some r) (hK : K r (I, L, F, S)) : lh_Met Γ m_LM_vaseAt 1 0 0 [.ref (65 + 4), .int x1] (I, L, F, S) (lh_ki K) := by
  rw [f_LM_vaseAt] at hf
  refine lh_ofG k_LM_vaseAt [(0, .ref (65 + 4)), (1, .int x1)] rfl (Nat.le_of_ble_eq_true rfl) rfl ?_
  refine lh_aload_n (q := 0) rfl rfl rfl ?_
  refine lh_getR4 rfl rfl (hS.1 0 _ rfl) rfl (hS.2 5 _ rfl) ?_
  refine lh_bipush rfl lh_b_75 ?_
  refine lh_iload_n (q := 1) rfl rfl rfl ?_
  refine lh_iadd rfl ?_
  obtain ⟨g1, hf⟩ := lh_gdE hf
  refine lh_iald4 rfl (hS.1 6 _ rfl) g1 ?_
  refine lh_aload_n (q := 0) rfl rfl rfl ?_
  refine lh_bdE hf (fun r2 e3 hf => ?_)
  refine lh_cVi (N := m_LM_cells) (d := 0) (o := 65) (As := []) (st := [.int (I (71 + 4) (75 + x1).toNatClampNeg)]) rfl rfl v_LM_cells (hS.1 0 _ rfl) rfl rfl rfl ⟨rfl, rfl⟩ rfl (t_LM_cells hG hS e3 ?_)
  refine lh_icmp_ge rfl (fun c4 => ?_) (fun c4 => ?_)
  · have hf := lh_ifT hf c4
    refine lh_iconst rfl lh_k_m1 ?_
    exact lh_iret rfl rfl rfl (by obtain rfl := Option.some.inj hf; exact hK)
  · have hf := lh_ifF hf c4
    refine lh_aload_n (q := 0) rfl rfl rfl ?_
    refine lh_getR4 rfl rfl (hS.1 0 _ rfl) rfl (hS.2 5 _ rfl) ?_
    refine lh_bipush rfl lh_b_75 ?_
    refine lh_iload_n (q := 1) rfl rfl rfl ?_
    refine lh_iadd rfl ?_
    obtain ⟨g5, hf⟩ := lh_gdE hf
    refine lh_iald4 rfl (hS.1 6 _ rfl) g5 ?_
    refine lh_goto rfl ?_
    exact lh_iret rfl rfl rfl (by obtain rfl := Option.some.inj hf; exact hK)
def f_LM_chance_33 (v1 : Int32) (v2 : Int32) (v3 : Int32) (v4 : Int64) (v6 : Int64) (v8 : Int32) (I : lh_II) : Nat → Int32 → Int32 → Option (Int32)
  | 0, _, _ => none
  | n + 1, v9, v10 => if 8 ≤ v10 then some v9 else if v9 = 0 then lh_bd (f_LM_kindOf v8 I) fun r15 => if r15 = 3 then lh_bd (f_LM_dayOf v8 I) fun r18 => if r18 = v2 then lh_bd (f_LM_vaseAt v1 I) fun r21 => if r21 < 0 then f_LM_chance_33 v1 v2 v3 v4 v6 v8 I n 0 (v10 + 1) else lh_bd (f_LM_cellOf v8 v10 I) fun r24 => lh_bd (f_LM_vaseAt v1 I) fun r26 => if r24 = r26 then f_LM_chance_33 v1 v2 v3 v4 v6 v8 I n 1 (v10 + 1) else f_LM_chance_33 v1 v2 v3 v4 v6 v8 I n 0 (v10 + 1) else f_LM_chance_33 v1 v2 v3 v4 v6 v8 I n 0 (v10 + 1) else f_LM_chance_33 v1 v2 v3 v4 v6 v8 I n 0 (v10 + 1) else f_LM_chance_33 v1 v2 v3 v4 v6 v8 I n 1 (v10 + 1)
def f_LM_chance_25 (v1 : Int32) (v2 : Int32) (v3 : Int32) (I : lh_II) : Nat → Int64 → Int64 → Int32 → Option (Int64 × Int64)
  | 0, _, _, _ => none
  | n + 1, v4, v6, v8 => lh_bd (f_LM_visitors I) fun r10 => if r10 ≤ v8 then some (v4, v6) else lh_bd (f_LM_chance_33 v1 v2 v3 v4 v6 v8 I lh_fuel 0 0) fun r29 => if r29 = 0 then f_LM_chance_25 v1 v2 v3 I n (v4 * 10) (v6 * 10) (v8 + 1) else f_LM_chance_25 v1 v2 v3 I n (v4 * 10) (v6 * (10 - v3).toInt64) (v8 + 1)
def f_LM_chance (x1 : Int32) (x2 : Int32) (x3 : Int32) (I : lh_II) : Option (Int32 × lh_II) := lh_bd (f_LM_isVase x1 (lh_u2 I (65 + 4) 0 0)) fun r1 => if r1 = 0 then some ((-1), lh_u2 I (65 + 4) 0 0) else lh_bd (f_LM_within x2 (0 : Int32) (3 : Int32)) fun r4 => if r4 = 0 then some ((-1), lh_u2 I (65 + 4) 0 0) else lh_bd (f_LM_within x3 (0 : Int32) (10 : Int32)) fun r7 => if r7 = 0 then some ((-1), lh_u2 I (65 + 4) 0 0) else lh_bd (f_LM_chance_25 x1 x2 x3 (lh_u2 I (65 + 4) 0 0) lh_fuel 1 1 0) fun r32 => lh_gd (!decide (r32.1 = 0)) (some ((((r32.1 - r32.2) * 1000000) / r32.1).toInt32, lh_u2 I (65 + 4) 0 0))
theorem t_LM_chance_33 {Γ : lh_Cx} {F : lh_FF} {S : lh_SS} {Z : List Frame → Array Value → State → State → Prop} (hG : lh_GX Γ) (hS : lh_laym F S)  {v1 : Int32} {v2 : Int32} {v3 : Int32} {v4 : Int64} {v6 : Int64} {v8 : Int32} {I : lh_II} {L : lh_LL} : ∀ (n : Nat) (v9 : Int32) (v10 : Int32) (o : Int32), f_LM_chance_33 v1 v2 v3 v4 v6 v8 I n v9 v10 = some o → ∀ (x0_ : lh_G Γ m_LM_chance (lh_R 2 0 0) Z 0 0 66 [(0, .ref (65 + 4)), (1, .int v1), (2, .int v2), (3, .int v3), (4, .long v4), (6, .long v6), (8, .int v8), (9, .int o)] [] (I, L, F, S)), lh_G Γ m_LM_chance (lh_R 2 0 0) Z 0 0 33 [(0, .ref (65 + 4)), (1, .int v1), (2, .int v2), (3, .int v3), (4, .long v4), (6, .long v6), (8, .int v8), (9, .int v9), (10, .int v10)] [] (I, L, F, S) := by
  intro n
  induction n with
  | zero => intro v9 v10 o hf; cases hf
  | succ n ih =>
    intro v9 v10 o hf x0_
    rw [f_LM_chance_33] at hf
    refine lh_iload (q := 8) rfl rfl ?_
    refine lh_bipush rfl lh_b_8 ?_
    refine lh_icmp_ge rfl (fun c13 => ?_) (fun c13 => ?_)
    · have hf := lh_ifT hf c13
      exact lh_less [0, 1, 2, 3, 4, 5, 6, 7] rfl (by cases hf; exact x0_)
    · have hf := lh_ifF hf c13
      refine lh_iload (q := 7) rfl rfl ?_
      refine lh_if_ne rfl (fun c14 => ?_) (fun c14 => ?_)
      · have hf := lh_ifF hf c14
        refine lh_iconst rfl lh_k_1 ?_
        refine lh_goto rfl ?_
        refine lh_istore (lv' := [(0, .ref (65 + 4)), (1, .int v1), (2, .int v2), (3, .int v3), (4, .long v4), (6, .long v6), (8, .int v8), (9, .int 1), (10, .int v10)]) rfl rfl rfl ?_
        refine lh_iinc (q := 8) (v := (v10 + 1)) (lv' := [(0, .ref (65 + 4)), (1, .int v1), (2, .int v2), (3, .int v3), (4, .long v4), (6, .long v6), (8, .int v8), (9, .int 1), (10, .int (v10 + 1))]) rfl rfl (congrArg (v10 + ·) (by decide)) rfl rfl ?_
        refine lh_goto rfl ?_
        exact ih 1 (v10 + 1) _ hf x0_
      · have hf := lh_ifT hf c14
        refine lh_aload_n (q := 0) rfl rfl rfl ?_
        refine lh_iload (q := 6) rfl rfl ?_
        refine lh_bdE hf (fun r15 e16 hf => ?_)
        refine lh_cVi (N := m_LM_kindOf) (d := 0) (o := 65) (As := [.int v8]) (st := []) rfl rfl v_LM_kindOf (hS.1 0 _ rfl) rfl rfl rfl ⟨rfl, rfl⟩ rfl (t_LM_kindOf hG hS e16 ?_)
        refine lh_iconst rfl lh_k_3 ?_
        refine lh_icmp_ne rfl (fun c17 => ?_) (fun c17 => ?_)
        · have hf := lh_ifF hf c17
          refine lh_iconst rfl lh_k_0 ?_
          refine lh_istore (lv' := [(0, .ref (65 + 4)), (1, .int v1), (2, .int v2), (3, .int v3), (4, .long v4), (6, .long v6), (8, .int v8), (9, .int 0), (10, .int v10)]) rfl rfl rfl ?_
          refine lh_iinc (q := 8) (v := (v10 + 1)) (lv' := [(0, .ref (65 + 4)), (1, .int v1), (2, .int v2), (3, .int v3), (4, .long v4), (6, .long v6), (8, .int v8), (9, .int 0), (10, .int (v10 + 1))]) rfl rfl (congrArg (v10 + ·) (by decide)) rfl rfl ?_
          refine lh_goto rfl ?_
          exact ih 0 (v10 + 1) _ hf x0_
        · have hf := lh_ifT hf c17
          refine lh_aload_n (q := 0) rfl rfl rfl ?_
          refine lh_iload (q := 6) rfl rfl ?_
          refine lh_bdE hf (fun r18 e19 hf => ?_)
          refine lh_cVi (N := m_LM_dayOf) (d := 0) (o := 65) (As := [.int v8]) (st := []) rfl rfl v_LM_dayOf (hS.1 0 _ rfl) rfl rfl rfl ⟨rfl, rfl⟩ rfl (t_LM_dayOf hG hS e19 ?_)
          refine lh_iload_n (q := 2) rfl rfl rfl ?_
          refine lh_icmp_ne rfl (fun c20 => ?_) (fun c20 => ?_)
          · have hf := lh_ifF hf c20
            refine lh_iconst rfl lh_k_0 ?_
            refine lh_istore (lv' := [(0, .ref (65 + 4)), (1, .int v1), (2, .int v2), (3, .int v3), (4, .long v4), (6, .long v6), (8, .int v8), (9, .int 0), (10, .int v10)]) rfl rfl rfl ?_
            refine lh_iinc (q := 8) (v := (v10 + 1)) (lv' := [(0, .ref (65 + 4)), (1, .int v1), (2, .int v2), (3, .int v3), (4, .long v4), (6, .long v6), (8, .int v8), (9, .int 0), (10, .int (v10 + 1))]) rfl rfl (congrArg (v10 + ·) (by decide)) rfl rfl ?_
            refine lh_goto rfl ?_
            exact ih 0 (v10 + 1) _ hf x0_
          · have hf := lh_ifT hf c20
            refine lh_aload_n (q := 0) rfl rfl rfl ?_
            refine lh_iload_n (q := 1) rfl rfl rfl ?_
            refine lh_bdE hf (fun r21 e22 hf => ?_)
            refine lh_cVi (N := m_LM_vaseAt) (d := 1) (o := 65) (As := [.int v1]) (st := []) rfl rfl v_LM_vaseAt (hS.1 0 _ rfl) rfl rfl rfl ⟨rfl, rfl⟩ rfl (t_LM_vaseAt hG hS e22 ?_)
            refine lh_if_lt rfl (fun c23 => ?_) (fun c23 => ?_)
            · have hf := lh_ifT hf c23
              refine lh_iconst rfl lh_k_0 ?_
              refine lh_istore (lv' := [(0, .ref (65 + 4)), (1, .int v1), (2, .int v2), (3, .int v3), (4, .long v4), (6, .long v6), (8, .int v8), (9, .int 0), (10, .int v10)]) rfl rfl rfl ?_
              refine lh_iinc (q := 8) (v := (v10 + 1)) (lv' := [(0, .ref (65 + 4)), (1, .int v1), (2, .int v2), (3, .int v3), (4, .long v4), (6, .long v6), (8, .int v8), (9, .int 0), (10, .int (v10 + 1))]) rfl rfl (congrArg (v10 + ·) (by decide)) rfl rfl ?_
              refine lh_goto rfl ?_
              exact ih 0 (v10 + 1) _ hf x0_
            · have hf := lh_ifF hf c23
              refine lh_aload_n (q := 0) rfl rfl rfl ?_
              refine lh_iload (q := 6) rfl rfl ?_
              refine lh_iload (q := 8) rfl rfl ?_
              refine lh_bdE hf (fun r24 e25 hf => ?_)
              refine lh_cVi (N := m_LM_cellOf) (d := 1) (o := 65) (As := [.int v8, .int v10]) (st := []) rfl rfl v_LM_cellOf (hS.1 0 _ rfl) rfl rfl rfl ⟨rfl, rfl⟩ rfl (t_LM_cellOf hG hS e25 ?_)
              refine lh_aload_n (q := 0) rfl rfl rfl ?_
              refine lh_iload_n (q := 1) rfl rfl rfl ?_
              refine lh_bdE hf (fun r26 e27 hf => ?_)
              refine lh_cVi (N := m_LM_vaseAt) (d := 1) (o := 65) (As := [.int v1]) (st := [.int r24]) rfl rfl v_LM_vaseAt (hS.1 0 _ rfl) rfl rfl rfl ⟨rfl, rfl⟩ rfl (t_LM_vaseAt hG hS e27 ?_)
              refine lh_icmp_ne rfl (fun c28 => ?_) (fun c28 => ?_)
              · have hf := lh_ifF hf c28
                refine lh_iconst rfl lh_k_0 ?_
                refine lh_istore (lv' := [(0, .ref (65 + 4)), (1, .int v1), (2, .int v2), (3, .int v3), (4, .long v4), (6, .long v6), (8, .int v8), (9, .int 0), (10, .int v10)]) rfl rfl rfl ?_
                refine lh_iinc (q := 8) (v := (v10 + 1)) (lv' := [(0, .ref (65 + 4)), (1, .int v1), (2, .int v2), (3, .int v3), (4, .long v4), (6, .long v6), (8, .int v8), (9, .int 0), (10, .int (v10 + 1))]) rfl rfl (congrArg (v10 + ·) (by decide)) rfl rfl ?_
                refine lh_goto rfl ?_
                exact ih 0 (v10 + 1) _ hf x0_
              · have hf := lh_ifT hf c28
                refine lh_iconst rfl lh_k_1 ?_
                refine lh_goto rfl ?_
                refine lh_istore (lv' := [(0, .ref (65 + 4)), (1, .int v1), (2, .int v2), (3, .int v3), (4, .long v4), (6, .long v6), (8, .int v8), (9, .int 1), (10, .int v10)]) rfl rfl rfl ?_
                refine lh_iinc (q := 8) (v := (v10 + 1)) (lv' := [(0, .ref (65 + 4)), (1, .int v1), (2, .int v2), (3, .int v3), (4, .long v4), (6, .long v6), (8, .int v8), (9, .int 1), (10, .int (v10 + 1))]) rfl rfl (congrArg (v10 + ·) (by decide)) rfl rfl ?_
                refine lh_goto rfl ?_
                exact ih 1 (v10 + 1) _ hf x0_
theorem t_LM_chance_25 {Γ : lh_Cx} {F : lh_FF} {S : lh_SS} {Z : List Frame → Array Value → State → State → Prop} (hG : lh_GX Γ) (hS : lh_laym F S)  {v1 : Int32} {v2 : Int32} {v3 : Int32} {I : lh_II} {L : lh_LL} : ∀ (n : Nat) (v4 : Int64) (v6 : Int64) (v8 : Int32) (o : Int64 × Int64), f_LM_chance_25 v1 v2 v3 I n v4 v6 v8 = some o → ∀ (x0_ : lh_G Γ m_LM_chance (lh_R 2 0 0) Z 0 0 83 [(4, .long o.1), (6, .long o.2)] [] (I, L, F, S)), lh_G Γ m_LM_chance (lh_R 2 0 0) Z 0 0 25 [(0, .ref (65 + 4)), (1, .int v1), (2, .int v2), (3, .int v3), (4, .long v4), (6, .long v6), (8, .int v8)] [] (I, L, F, S) := by
  intro n
  induction n with
  | zero => intro v4 v6 v8 o hf; cases hf
  | succ n ih =>
    intro v4 v6 v8 o hf x0_
    rw [f_LM_chance_25] at hf
    refine lh_iload (q := 6) rfl rfl ?_
    refine lh_aload_n (q := 0) rfl rfl rfl ?_
    refine lh_bdE hf (fun r10 e11 hf => ?_)
    refine lh_cVi (N := m_LM_visitors) (d := 0) (o := 65) (As := []) (st := [.int v8]) rfl rfl v_LM_visitors (hS.1 0 _ rfl) rfl rfl rfl ⟨rfl, rfl⟩ rfl (t_LM_visitors hG hS e11 ?_)
    refine lh_icmp_ge rfl (fun c12 => ?_) (fun c12 => ?_)
    · have hf := lh_ifT hf c12
      exact lh_less [4, 5] rfl (by cases hf; exact x0_)
    · have hf := lh_ifF hf c12
      refine lh_iconst rfl lh_k_0 ?_
      refine lh_istore (lv' := [(0, .ref (65 + 4)), (1, .int v1), (2, .int v2), (3, .int v3), (4, .long v4), (6, .long v6), (8, .int v8), (9, .int 0)]) rfl rfl rfl ?_
      refine lh_iconst rfl lh_k_0 ?_
      refine lh_istore (lv' := [(0, .ref (65 + 4)), (1, .int v1), (2, .int v2), (3, .int v3), (4, .long v4), (6, .long v6), (8, .int v8), (9, .int 0), (10, .int 0)]) rfl rfl rfl ?_
      refine lh_bdE hf (fun r29 e30 hf => ?_)
      refine t_LM_chance_33 hG hS  _ 0 0 _ e30 ?_
      refine lh_lload (q := 4) rfl rfl ?_
      refine lh_ldc2 rfl rfl ?_
      refine lh_lmul rfl ?_
      refine lh_lstore (lv' := [(0, .ref (65 + 4)), (1, .int v1), (2, .int v2), (3, .int v3), (4, .long (v4 * 10)), (6, .long v6), (8, .int v8), (9, .int r29)]) rfl rfl rfl ?_
      refine lh_lload (q := 5) rfl rfl ?_
      refine lh_iload (q := 7) rfl rfl ?_
      refine lh_if_eq rfl (fun c31 => ?_) (fun c31 => ?_)
      · have hf := lh_ifT hf c31
        refine lh_ldc2 rfl rfl ?_
        refine lh_lmul rfl ?_
        refine lh_lstore (lv' := [(0, .ref (65 + 4)), (1, .int v1), (2, .int v2), (3, .int v3), (4, .long (v4 * 10)), (6, .long (v6 * 10)), (8, .int v8), (9, .int r29)]) rfl rfl rfl ?_
        refine lh_iinc (q := 6) (v := (v8 + 1)) (lv' := [(0, .ref (65 + 4)), (1, .int v1), (2, .int v2), (3, .int v3), (4, .long (v4 * 10)), (6, .long (v6 * 10)), (8, .int (v8 + 1)), (9, .int r29)]) rfl rfl (congrArg (v8 + ·) (by decide)) rfl rfl ?_
        refine lh_goto rfl ?_
        refine lh_less [0, 1, 2, 3, 4, 5, 6] rfl ?_
        exact ih (v4 * 10) (v6 * 10) (v8 + 1) _ hf x0_
      · have hf := lh_ifF hf c31
        refine lh_bipush rfl lh_b_10 ?_
        refine lh_iload_n (q := 3) rfl rfl rfl ?_
        refine lh_isub rfl ?_
        refine lh_i2l rfl ?_
        refine lh_goto rfl ?_
        refine lh_lmul rfl ?_
        refine lh_lstore (lv' := [(0, .ref (65 + 4)), (1, .int v1), (2, .int v2), (3, .int v3), (4, .long (v4 * 10)), (6, .long (v6 * (10 - v3).toInt64)), (8, .int v8), (9, .int r29)]) rfl rfl rfl ?_
        refine lh_iinc (q := 6) (v := (v8 + 1)) (lv' := [(0, .ref (65 + 4)), (1, .int v1), (2, .int v2), (3, .int v3), (4, .long (v4 * 10)), (6, .long (v6 * (10 - v3).toInt64)), (8, .int (v8 + 1)), (9, .int r29)]) rfl rfl (congrArg (v8 + ·) (by decide)) rfl rfl ?_
        refine lh_goto rfl ?_
        refine lh_less [0, 1, 2, 3, 4, 5, 6] rfl ?_
        exact ih (v4 * 10) (v6 * (10 - v3).toInt64) (v8 + 1) _ hf x0_
theorem t_LM_chance {Γ : lh_Cx} {I : lh_II} {L : lh_LL} {F : lh_FF} {S : lh_SS} {K : Int32 → lh_Hp → Prop} {r : Int32 × lh_II} (hG : lh_GX Γ) (hS : lh_laym F S)  {x1 : Int32} {x2 : Int32} {x3 : Int32} (hf : f_LM_chance x1 x2 x3 I = some r) (hK : K r.1 (r.2, L, F, S)) : lh_Met Γ m_LM_chance 2 0 0 [.ref (65 + 4), .int x1, .int x2, .int x3] (I, L, F, S) (lh_ki K) := by
  rw [f_LM_chance] at hf
  refine lh_ofG k_LM_chance [(0, .ref (65 + 4)), (1, .int x1), (2, .int x2), (3, .int x3)] rfl (Nat.le_of_ble_eq_true rfl) rfl ?_
  refine lh_aload_n (q := 0) rfl rfl rfl ?_
  refine lh_iconst rfl lh_k_0 ?_
  refine lh_putI4 rfl rfl (hS.1 0 _ rfl) rfl rfl ?_
  refine lh_aload_n (q := 0) rfl rfl rfl ?_
  refine lh_iload_n (q := 1) rfl rfl rfl ?_
  refine lh_bdE hf (fun r1 e2 hf => ?_)
  refine lh_cVi (N := m_LM_isVase) (d := 1) (o := 65) (As := [.int x1]) (st := []) rfl rfl v_LM_isVase (hS.1 0 _ rfl) rfl rfl rfl ⟨rfl, rfl⟩ rfl (t_LM_isVase hG hS e2 ?_)
  refine lh_if_eq rfl (fun c3 => ?_) (fun c3 => ?_)
  · have hf := lh_ifT hf c3
    refine lh_iconst rfl lh_k_m1 ?_
    exact lh_iret rfl rfl rfl (by obtain rfl := Option.some.inj hf; exact hK)
  · have hf := lh_ifF hf c3
    refine lh_iload_n (q := 2) rfl rfl rfl ?_
    refine lh_iconst rfl lh_k_0 ?_
    refine lh_iconst rfl lh_k_3 ?_
    refine lh_bdE hf (fun r4 e5 hf => ?_)
    refine lh_cSi (N := m_LM_within) (d := 0) (As := [.int x2, .int 0, .int 3]) (st := []) rfl rfl v_LM_within rfl rfl ⟨rfl, rfl⟩ rfl (t_LM_within hG hS e5 ?_)
    refine lh_if_eq rfl (fun c6 => ?_) (fun c6 => ?_)
    · have hf := lh_ifT hf c6
      refine lh_iconst rfl lh_k_m1 ?_
      exact lh_iret rfl rfl rfl (by obtain rfl := Option.some.inj hf; exact hK)
    · have hf := lh_ifF hf c6
      refine lh_iload_n (q := 3) rfl rfl rfl ?_
      refine lh_iconst rfl lh_k_0 ?_
      refine lh_bipush rfl lh_b_10 ?_
      refine lh_bdE hf (fun r7 e8 hf => ?_)
      refine lh_cSi (N := m_LM_within) (d := 0) (As := [.int x3, .int 0, .int 10]) (st := []) rfl rfl v_LM_within rfl rfl ⟨rfl, rfl⟩ rfl (t_LM_within hG hS e8 ?_)
      refine lh_if_ne rfl (fun c9 => ?_) (fun c9 => ?_)
      · have hf := lh_ifF hf c9
        refine lh_lconst (v := 1) rfl (by decide) ?_
        refine lh_lstore (lv' := [(0, .ref (65 + 4)), (1, .int x1), (2, .int x2), (3, .int x3), (4, .long 1)]) rfl rfl rfl ?_
        refine lh_lconst (v := 1) rfl (by decide) ?_
        refine lh_lstore (lv' := [(0, .ref (65 + 4)), (1, .int x1), (2, .int x2), (3, .int x3), (4, .long 1), (6, .long 1)]) rfl rfl rfl ?_
        refine lh_iconst rfl lh_k_0 ?_
        refine lh_istore (lv' := [(0, .ref (65 + 4)), (1, .int x1), (2, .int x2), (3, .int x3), (4, .long 1), (6, .long 1), (8, .int 0)]) rfl rfl rfl ?_
        refine lh_bdE hf (fun r32 e33 hf => ?_)
        refine t_LM_chance_25 hG hS  _ 1 1 0 _ e33 ?_
        refine lh_lload (q := 0) rfl rfl ?_
        refine lh_lload (q := 1) rfl rfl ?_
        refine lh_lsub rfl ?_
        refine lh_ldc2 rfl rfl ?_
        refine lh_lmul rfl ?_
        refine lh_lload (q := 0) rfl rfl ?_
        obtain ⟨g34, hf⟩ := lh_gdE hf
        refine lh_ldiv rfl (by simpa using g34) ?_
        refine lh_l2i rfl ?_
        exact lh_iret rfl rfl rfl (by obtain rfl := Option.some.inj hf; exact hK)
      · have hf := lh_ifT hf c9
        refine lh_iconst rfl lh_k_m1 ?_
        exact lh_iret rfl rfl rfl (by obtain rfl := Option.some.inj hf; exact hK)
def f_LM_copies_2 (v1 : Int32) (v2 : Int32) (v3 : Int32) : Nat → Int32 → lh_II → Option (lh_II)
  | 0, _, _ => none
  | n + 1, v4, I => if v3 ≤ v4 then some I else lh_gd (lh_ix (v1 + v4) 736) (lh_gd (lh_ix (v2 + v4) 736) (f_LM_copies_2 v1 v2 v3 n (v4 + 1) (lh_u2 I (78 + 4) (v2 + v4).toNatClampNeg (I (78 + 4) (v1 + v4).toNatClampNeg))))
def f_LM_copies (x1 : Int32) (x2 : Int32) (x3 : Int32) (I : lh_II) : Option (lh_II) := lh_bd (f_LM_copies_2 x1 x2 x3 lh_fuel 0 I) fun r4 => some r4
theorem t_LM_copies_2 {Γ : lh_Cx} {F : lh_FF} {S : lh_SS} {Z : List Frame → Array Value → State → State → Prop} (hG : lh_GX Γ) (hS : lh_laym F S)  {v1 : Int32} {v2 : Int32} {v3 : Int32} {L : lh_LL} : ∀ (n : Nat) (v4 : Int32) (I : lh_II) (o : lh_II), f_LM_copies_2 v1 v2 v3 n v4 I = some o → ∀ (x0_ : lh_G Γ m_LM_copies (lh_R 0 0 0) Z 0 0 19 [] [] (o, L, F, S)), lh_G Γ m_LM_copies (lh_R 0 0 0) Z 0 0 2 [(0, .ref (65 + 4)), (1, .int v1), (2, .int v2), (3, .int v3), (4, .int v4)] [] (I, L, F, S) := by
  intro n
  induction n with
  | zero => intro v4 I o hf; cases hf
  | succ n ih =>
    intro v4 I o hf x0_
    rw [f_LM_copies_2] at hf
    refine lh_iload (q := 4) rfl rfl ?_
    refine lh_iload_n (q := 3) rfl rfl rfl ?_
    refine lh_icmp_ge rfl (fun c1 => ?_) (fun c1 => ?_)
    · have hf := lh_ifT hf c1
      exact lh_less [] rfl (by cases hf; exact x0_)
    · have hf := lh_ifF hf c1
      refine lh_aload_n (q := 0) rfl rfl rfl ?_
      refine lh_getR4 rfl rfl (hS.1 0 _ rfl) rfl (hS.2 12 _ rfl) ?_
      refine lh_iload_n (q := 2) rfl rfl rfl ?_
      refine lh_iload (q := 4) rfl rfl ?_
      refine lh_iadd rfl ?_
      refine lh_aload_n (q := 0) rfl rfl rfl ?_
      refine lh_getR4 rfl rfl (hS.1 0 _ rfl) rfl (hS.2 12 _ rfl) ?_
      refine lh_iload_n (q := 1) rfl rfl rfl ?_
      refine lh_iload (q := 4) rfl rfl ?_
      refine lh_iadd rfl ?_
      obtain ⟨g2, hf⟩ := lh_gdE hf
      refine lh_iald4 rfl (hS.1 13 _ rfl) g2 ?_
      obtain ⟨g3, hf⟩ := lh_gdE hf
      refine lh_iast4 rfl (hS.1 13 _ rfl) g3 ?_
      refine lh_iinc (q := 4) (v := (v4 + 1)) (lv' := [(0, .ref (65 + 4)), (1, .int v1), (2, .int v2), (3, .int v3), (4, .int (v4 + 1))]) rfl rfl (congrArg (v4 + ·) (by decide)) rfl rfl ?_
      refine lh_goto rfl ?_
      exact ih (v4 + 1) (lh_u2 I (78 + 4) (v2 + v4).toNatClampNeg (I (78 + 4) (v1 + v4).toNatClampNeg)) _ hf x0_
theorem t_LM_copies {Γ : lh_Cx} {I : lh_II} {L : lh_LL} {F : lh_FF} {S : lh_SS} {K : lh_Hp → Prop} {r : lh_II} (hG : lh_GX Γ) (hS : lh_laym F S)  {x1 : Int32} {x2 : Int32} {x3 : Int32} (hf : f_LM_copies x1 x2 x3 I = some r) (hK : K (r, L, F, S)) : lh_Met Γ m_LM_copies 0 0 0 [.ref (65 + 4), .int x1, .int x2, .int x3] (I, L, F, S) (lh_kv K) := by
  rw [f_LM_copies] at hf
  refine lh_ofG k_LM_copies [(0, .ref (65 + 4)), (1, .int x1), (2, .int x2), (3, .int x3)] rfl (Nat.le_of_ble_eq_true rfl) rfl ?_
  refine lh_iconst rfl lh_k_0 ?_
  refine lh_istore (lv' := [(0, .ref (65 + 4)), (1, .int x1), (2, .int x2), (3, .int x3), (4, .int 0)]) rfl rfl rfl ?_
  refine lh_bdE hf (fun r4 e5 hf => ?_)
  refine t_LM_copies_2 hG hS  _ 0 I _ e5 ?_
  exact lh_vret rfl rfl (by obtain rfl := Option.some.inj hf; exact hK)
def f_LM_trims (x1 : Int32) (x2 : Int32) (I : lh_II) : Option (lh_II) := lh_gd (lh_ix (x1 + 4) 736) (lh_gd (lh_ix (x1 + 4) 736) (lh_gd (lh_ix (x1 + 3) 736) (some (lh_u2 (lh_u2 I (78 + 4) (x1 + 4).toNatClampNeg ((I (78 + 4) (x1 + 4).toNatClampNeg) - 2)) (78 + 4) (x1 + 3).toNatClampNeg x2))))
theorem t_LM_trims {Γ : lh_Cx} {I : lh_II} {L : lh_LL} {F : lh_FF} {S : lh_SS} {K : lh_Hp → Prop} {r : lh_II} (hG : lh_GX Γ) (hS : lh_laym F S)  {x1 : Int32} {x2 : Int32} (hf : f_LM_trims x1 x2 I = some r) (hK : K (r, L, F, S)) : lh_Met Γ m_LM_trims 0 0 0 [.ref (65 + 4), .int x1, .int x2] (I, L, F, S) (lh_kv K) := by
  rw [f_LM_trims] at hf
  refine lh_ofG k_LM_trims [(0, .ref (65 + 4)), (1, .int x1), (2, .int x2)] rfl (Nat.le_of_ble_eq_true rfl) rfl ?_
  refine lh_aload_n (q := 0) rfl rfl rfl ?_
  refine lh_getR4 rfl rfl (hS.1 0 _ rfl) rfl (hS.2 12 _ rfl) ?_
  refine lh_iload_n (q := 1) rfl rfl rfl ?_
  refine lh_iconst rfl lh_k_4 ?_
  refine lh_iadd rfl ?_
  refine lh_dup2 rfl rfl rfl ?_
  obtain ⟨g1, hf⟩ := lh_gdE hf
  refine lh_iald4 rfl (hS.1 13 _ rfl) g1 ?_
  refine lh_iconst rfl lh_k_2 ?_
  refine lh_isub rfl ?_
  obtain ⟨g2, hf⟩ := lh_gdE hf
  refine lh_iast4 rfl (hS.1 13 _ rfl) g2 ?_
  refine lh_aload_n (q := 0) rfl rfl rfl ?_
  refine lh_getR4 rfl rfl (hS.1 0 _ rfl) rfl (hS.2 12 _ rfl) ?_
  refine lh_iload_n (q := 1) rfl rfl rfl ?_
  refine lh_iconst rfl lh_k_3 ?_
  refine lh_iadd rfl ?_
  refine lh_iload_n (q := 2) rfl rfl rfl ?_
  obtain ⟨g3, hf⟩ := lh_gdE hf
  refine lh_iast4 rfl (hS.1 13 _ rfl) g3 ?_
  exact lh_vret rfl rfl (by obtain rfl := Option.some.inj hf; exact hK)
def f_LM_choose_17 : Nat → Int32 → Int32 → Int32 → lh_II → Option (Int32 × lh_II)
  | 0, _, _, _, _ => none
  | n + 1, v1, v2, v3, I => if 4 ≤ v3 then some (v1, I) else lh_bd (f_LM_copies (0 : Int32) (672 : Int32) (7 : Int32) I) fun r3 => lh_bd (f_LM_trims (672 : Int32) v3 r3) fun r5 => lh_bd (f_LM_seenNow (672 : Int32) r5) fun r7 => lh_bd (f_LM_bits r7.1) fun r9 => if r9 ≤ v2 then f_LM_choose_17 n v1 v2 (v3 + 1) r7.2 else f_LM_choose_17 n v3 r9 (v3 + 1) r7.2
def f_LM_choose (I : lh_II) : Option (Int32 × lh_II) := if 2 ≤ ((lh_u2 I (65 + 4) 0 0) (78 + 4) 4) then lh_bd (f_LM_choose_17 lh_fuel (-1) (-1) 0 (lh_u2 I (65 + 4) 0 0)) fun r12 => some (r12.1, r12.2) else some ((-1), lh_u2 I (65 + 4) 0 0)
theorem t_LM_choose_17 {Γ : lh_Cx} {F : lh_FF} {S : lh_SS} {Z : List Frame → Array Value → State → State → Prop} (hG : lh_GX Γ) (hS : lh_laym F S)   {L : lh_LL} : ∀ (n : Nat) (v1 : Int32) (v2 : Int32) (v3 : Int32) (I : lh_II) (o : Int32 × lh_II), f_LM_choose_17 n v1 v2 v3 I = some o → ∀ (x0_ : lh_G Γ m_LM_choose (lh_R 5 0 0) Z 0 0 50 [(1, .int o.1)] [] (o.2, L, F, S)), lh_G Γ m_LM_choose (lh_R 5 0 0) Z 0 0 17 [(0, .ref (65 + 4)), (1, .int v1), (2, .int v2), (3, .int v3)] [] (I, L, F, S) := by
  intro n
  induction n with
  | zero => intro v1 v2 v3 I o hf; cases hf
  | succ n ih =>
    intro v1 v2 v3 I o hf x0_
    rw [f_LM_choose_17] at hf
    refine lh_iload_n (q := 3) rfl rfl rfl ?_
    refine lh_iconst rfl lh_k_4 ?_
    refine lh_icmp_ge rfl (fun c2 => ?_) (fun c2 => ?_)
    · have hf := lh_ifT hf c2
      exact lh_less [1] rfl (by cases hf; exact x0_)
    · have hf := lh_ifF hf c2
      refine lh_aload_n (q := 0) rfl rfl rfl ?_
      refine lh_iconst rfl lh_k_0 ?_
      refine lh_sipush rfl lh_s_672 ?_
      refine lh_bipush rfl lh_b_7 ?_
      refine lh_bdE hf (fun r3 e4 hf => ?_)
      refine lh_cVv (N := m_LM_copies) (d := 0) (o := 65) (As := [.int 0, .int 672, .int 7]) (st := []) rfl rfl v_LM_copies (hS.1 0 _ rfl) rfl rfl rfl ⟨rfl, rfl⟩ rfl (t_LM_copies hG hS e4 ?_)
      refine lh_aload_n (q := 0) rfl rfl rfl ?_
      refine lh_sipush rfl lh_s_672 ?_
      refine lh_iload_n (q := 3) rfl rfl rfl ?_
      refine lh_bdE hf (fun r5 e6 hf => ?_)
      refine lh_cVv (N := m_LM_trims) (d := 0) (o := 65) (As := [.int 672, .int v3]) (st := []) rfl rfl v_LM_trims (hS.1 0 _ rfl) rfl rfl rfl ⟨rfl, rfl⟩ rfl (t_LM_trims hG hS e6 ?_)
      refine lh_aload_n (q := 0) rfl rfl rfl ?_
      refine lh_sipush rfl lh_s_672 ?_
      refine lh_bdE hf (fun r7 e8 hf => ?_)
      refine lh_cVi (N := m_LM_seenNow) (d := 4) (o := 65) (As := [.int 672]) (st := []) rfl rfl v_LM_seenNow (hS.1 0 _ rfl) rfl rfl rfl ⟨rfl, rfl⟩ rfl (t_LM_seenNow hG hS e8 ?_)
      refine lh_bdE hf (fun r9 e10 hf => ?_)
      refine lh_cSi (N := m_LM_bits) (d := 0) (As := [.int r7.1]) (st := []) rfl rfl v_LM_bits rfl rfl ⟨rfl, rfl⟩ rfl (t_LM_bits hG hS e10 ?_)
      refine lh_istore (lv' := [(0, .ref (65 + 4)), (1, .int v1), (2, .int v2), (3, .int v3), (4, .int r9)]) rfl rfl rfl ?_
      refine lh_iload (q := 4) rfl rfl ?_
      refine lh_iload_n (q := 2) rfl rfl rfl ?_
      refine lh_icmp_le rfl (fun c11 => ?_) (fun c11 => ?_)
      · have hf := lh_ifT hf c11
        refine lh_iload_n (q := 1) rfl rfl rfl ?_
        refine lh_istore_n (lv' := [(0, .ref (65 + 4)), (1, .int v1), (2, .int v2), (3, .int v3), (4, .int r9)]) rfl rfl rfl rfl ?_
        refine lh_iload (q := 4) rfl rfl ?_
        refine lh_iload_n (q := 2) rfl rfl rfl ?_
        refine lh_icmp_le rfl (fun _ => ?_) (fun c => absurd c11 c)
        refine lh_iload_n (q := 2) rfl rfl rfl ?_
        refine lh_istore_n (lv' := [(0, .ref (65 + 4)), (1, .int v1), (2, .int v2), (3, .int v3), (4, .int r9)]) rfl rfl rfl rfl ?_
        refine lh_iinc (q := 3) (v := (v3 + 1)) (lv' := [(0, .ref (65 + 4)), (1, .int v1), (2, .int v2), (3, .int (v3 + 1)), (4, .int r9)]) rfl rfl (congrArg (v3 + ·) (by decide)) rfl rfl ?_
        refine lh_goto rfl ?_
        refine lh_less [0, 1, 2, 3] rfl ?_
        exact ih v1 v2 (v3 + 1) r7.2 _ hf x0_
      · have hf := lh_ifF hf c11
        refine lh_iload_n (q := 3) rfl rfl rfl ?_
        refine lh_goto rfl ?_
        refine lh_istore_n (lv' := [(0, .ref (65 + 4)), (1, .int v3), (2, .int v2), (3, .int v3), (4, .int r9)]) rfl rfl rfl rfl ?_
        refine lh_iload (q := 4) rfl rfl ?_
        refine lh_iload_n (q := 2) rfl rfl rfl ?_
        refine lh_icmp_le rfl (fun c => absurd c c11) (fun _ => ?_)
        refine lh_iload (q := 4) rfl rfl ?_
        refine lh_goto rfl ?_
        refine lh_istore_n (lv' := [(0, .ref (65 + 4)), (1, .int v3), (2, .int r9), (3, .int v3), (4, .int r9)]) rfl rfl rfl rfl ?_
        refine lh_iinc (q := 3) (v := (v3 + 1)) (lv' := [(0, .ref (65 + 4)), (1, .int v3), (2, .int r9), (3, .int (v3 + 1)), (4, .int r9)]) rfl rfl (congrArg (v3 + ·) (by decide)) rfl rfl ?_
        refine lh_goto rfl ?_
        refine lh_less [0, 1, 2, 3] rfl ?_
        exact ih v3 r9 (v3 + 1) r7.2 _ hf x0_
theorem t_LM_choose {Γ : lh_Cx} {I : lh_II} {L : lh_LL} {F : lh_FF} {S : lh_SS} {K : Int32 → lh_Hp → Prop} {r : Int32 × lh_II} (hG : lh_GX Γ) (hS : lh_laym F S)  (hf : f_LM_choose I = some r) (hK : K r.1 (r.2, L, F, S)) : lh_Met Γ m_LM_choose 5 0 0 [.ref (65 + 4)] (I, L, F, S) (lh_ki K) := by
  rw [f_LM_choose] at hf
  refine lh_ofG k_LM_choose [(0, .ref (65 + 4))] rfl (Nat.le_of_ble_eq_true rfl) rfl ?_
  refine lh_aload_n (q := 0) rfl rfl rfl ?_
  refine lh_iconst rfl lh_k_0 ?_
  refine lh_putI4 rfl rfl (hS.1 0 _ rfl) rfl rfl ?_
  refine lh_aload_n (q := 0) rfl rfl rfl ?_
  refine lh_getR4 rfl rfl (hS.1 0 _ rfl) rfl (hS.2 12 _ rfl) ?_
  refine lh_iconst rfl lh_k_4 ?_
  refine lh_iald5 (k := 4) rfl (hS.1 13 _ rfl) (by decide) (by decide) ?_
  refine lh_iconst rfl lh_k_2 ?_
  refine lh_icmp_ge rfl (fun c1 => ?_) (fun c1 => ?_)
  · have hf := lh_ifT hf c1
    refine lh_iconst rfl lh_k_m1 ?_
    refine lh_istore_n (lv' := [(0, .ref (65 + 4)), (1, .int (-1))]) rfl rfl rfl rfl ?_
    refine lh_iconst rfl lh_k_m1 ?_
    refine lh_istore_n (lv' := [(0, .ref (65 + 4)), (1, .int (-1)), (2, .int (-1))]) rfl rfl rfl rfl ?_
    refine lh_iconst rfl lh_k_0 ?_
    refine lh_istore_n (lv' := [(0, .ref (65 + 4)), (1, .int (-1)), (2, .int (-1)), (3, .int 0)]) rfl rfl rfl rfl ?_
    refine lh_bdE hf (fun r12 e13 hf => ?_)
    refine t_LM_choose_17 hG hS  _ (-1) (-1) 0 (lh_u2 I (65 + 4) 0 0) _ e13 ?_
    refine lh_iload_n (q := 0) rfl rfl rfl ?_
    exact lh_iret rfl rfl rfl (by obtain rfl := Option.some.inj hf; exact hK)
  · have hf := lh_ifF hf c1
    refine lh_iconst rfl lh_k_m1 ?_
    exact lh_iret rfl rfl rfl (by obtain rfl := Option.some.inj hf; exact hK)
def f_LM_count (x1 : Int32) (I : lh_II) : Option (Int32 × lh_II) := if x1 = 0 then lh_gd (lh_ix x1 200) (some (((lh_u2 I (65 + 4) 0 0) (71 + 4) x1.toNatClampNeg), lh_u2 I (65 + 4) 0 0)) else if x1 = 1 then lh_gd (lh_ix x1 200) (some (((lh_u2 I (65 + 4) 0 0) (71 + 4) x1.toNatClampNeg), lh_u2 I (65 + 4) 0 0)) else if x1 = 2 then lh_gd (lh_ix x1 200) (some (((lh_u2 I (65 + 4) 0 0) (71 + 4) x1.toNatClampNeg), lh_u2 I (65 + 4) 0 0)) else if x1 = 3 then lh_gd (lh_ix x1 200) (some (((lh_u2 I (65 + 4) 0 0) (71 + 4) x1.toNatClampNeg), lh_u2 I (65 + 4) 0 0)) else if x1 = 4 then some (((lh_u2 I (65 + 4) 0 0) (78 + 4) 5), lh_u2 I (65 + 4) 0 0) else if x1 = 5 then some (((lh_u2 I (65 + 4) 0 0) (78 + 4) 2), lh_u2 I (65 + 4) 0 0) else if x1 = 6 then some (((lh_u2 I (65 + 4) 0 0) (78 + 4) 3), lh_u2 I (65 + 4) 0 0) else if x1 = 7 then some (((lh_u2 I (65 + 4) 0 0) (78 + 4) 4), lh_u2 I (65 + 4) 0 0) else if x1 = 8 then some (((lh_u2 I (65 + 4) 0 0) (78 + 4) 0), lh_u2 I (65 + 4) 0 0) else if x1 = 9 then some (((lh_u2 I (65 + 4) 0 0) (78 + 4) 1), lh_u2 I (65 + 4) 0 0) else if x1 = 10 then some (((lh_u2 I (65 + 4) 0 0) (78 + 4) 6), lh_u2 I (65 + 4) 0 0) else if x1 = 11 then lh_bd (f_LM_cells (lh_u2 I (65 + 4) 0 0)) fun r17 => some ((((lh_u2 I (65 + 4) 0 0) (71 + 4) 7) &&& (((1 : Int32) <<< (r17 &&& 31)) - 1)), lh_u2 I (65 + 4) 0 0) else if x1 = 12 then some (((lh_u2 I (65 + 4) 0 0) (75 + 4) 0), lh_u2 I (65 + 4) 0 0) else if x1 = 13 then some (((lh_u2 I (65 + 4) 0 0) (78 + 4) 7), lh_u2 I (65 + 4) 0 0) else if x1 = 14 then some (((lh_u2 I (65 + 4) 0 0) (65 + 4) 21), lh_u2 I (65 + 4) 0 0) else if x1 = 15 then some (((lh_u2 I (65 + 4) 0 0) (65 + 4) 2), lh_u2 I (65 + 4) 0 0) else some ((-1), lh_u2 I (65 + 4) 0 0)
theorem t_LM_count {Γ : lh_Cx} {I : lh_II} {L : lh_LL} {F : lh_FF} {S : lh_SS} {K : Int32 → lh_Hp → Prop} {r : Int32 × lh_II} (hG : lh_GX Γ) (hS : lh_laym F S)  {x1 : Int32} (hf : f_LM_count x1 I = some r) (hK : K r.1 (r.2, L, F, S)) : lh_Met Γ m_LM_count 1 0 0 [.ref (65 + 4), .int x1] (I, L, F, S) (lh_ki K) := by
  rw [f_LM_count] at hf
  refine lh_ofG k_LM_count [(0, .ref (65 + 4)), (1, .int x1)] rfl (Nat.le_of_ble_eq_true rfl) rfl ?_
  refine lh_aload_n (q := 0) rfl rfl rfl ?_
  refine lh_iconst rfl lh_k_0 ?_
  refine lh_putI4 rfl rfl (hS.1 0 _ rfl) rfl rfl ?_
  refine lh_iload_n (q := 1) rfl rfl rfl ?_
  by_cases c1 : x1 = 0
  · have hf := lh_ifT hf c1
    refine lh_tsIn (q := 0) (tgt := 5) rfl (by rw [c1]; decide) (by decide) rfl rfl ?_
    refine lh_aload_n (q := 0) rfl rfl rfl ?_
    refine lh_getR4 rfl rfl (hS.1 0 _ rfl) rfl (hS.2 5 _ rfl) ?_
    refine lh_iload_n (q := 1) rfl rfl rfl ?_
    obtain ⟨g2, hf⟩ := lh_gdE hf
    refine lh_iald4 rfl (hS.1 6 _ rfl) g2 ?_
    exact lh_iret rfl rfl rfl (by obtain rfl := Option.some.inj hf; exact hK)
  · have hf := lh_ifF hf c1
    by_cases c3 : x1 = 1
    · have hf := lh_ifT hf c3
      refine lh_tsIn (q := 1) (tgt := 5) rfl (by rw [c3]; decide) (by decide) rfl rfl ?_
      refine lh_aload_n (q := 0) rfl rfl rfl ?_
      refine lh_getR4 rfl rfl (hS.1 0 _ rfl) rfl (hS.2 5 _ rfl) ?_
      refine lh_iload_n (q := 1) rfl rfl rfl ?_
      obtain ⟨g4, hf⟩ := lh_gdE hf
      refine lh_iald4 rfl (hS.1 6 _ rfl) g4 ?_
      exact lh_iret rfl rfl rfl (by obtain rfl := Option.some.inj hf; exact hK)
    · have hf := lh_ifF hf c3
      by_cases c5 : x1 = 2
      · have hf := lh_ifT hf c5
        refine lh_tsIn (q := 2) (tgt := 5) rfl (by rw [c5]; decide) (by decide) rfl rfl ?_
        refine lh_aload_n (q := 0) rfl rfl rfl ?_
        refine lh_getR4 rfl rfl (hS.1 0 _ rfl) rfl (hS.2 5 _ rfl) ?_
        refine lh_iload_n (q := 1) rfl rfl rfl ?_
        obtain ⟨g6, hf⟩ := lh_gdE hf
        refine lh_iald4 rfl (hS.1 6 _ rfl) g6 ?_
        exact lh_iret rfl rfl rfl (by obtain rfl := Option.some.inj hf; exact hK)
      · have hf := lh_ifF hf c5
        by_cases c7 : x1 = 3
        · have hf := lh_ifT hf c7
          refine lh_tsIn (q := 3) (tgt := 5) rfl (by rw [c7]; decide) (by decide) rfl rfl ?_
          refine lh_aload_n (q := 0) rfl rfl rfl ?_
          refine lh_getR4 rfl rfl (hS.1 0 _ rfl) rfl (hS.2 5 _ rfl) ?_
          refine lh_iload_n (q := 1) rfl rfl rfl ?_
          obtain ⟨g8, hf⟩ := lh_gdE hf
          refine lh_iald4 rfl (hS.1 6 _ rfl) g8 ?_
          exact lh_iret rfl rfl rfl (by obtain rfl := Option.some.inj hf; exact hK)
        · have hf := lh_ifF hf c7
          by_cases c9 : x1 = 4
          · have hf := lh_ifT hf c9
            refine lh_tsIn (q := 4) (tgt := 10) rfl (by rw [c9]; decide) (by decide) rfl rfl ?_
            refine lh_aload_n (q := 0) rfl rfl rfl ?_
            refine lh_getR4 rfl rfl (hS.1 0 _ rfl) rfl (hS.2 12 _ rfl) ?_
            refine lh_iconst rfl lh_k_5 ?_
            refine lh_iald5 (k := 5) rfl (hS.1 13 _ rfl) (by decide) (by decide) ?_
            exact lh_iret rfl rfl rfl (by obtain rfl := Option.some.inj hf; exact hK)
          · have hf := lh_ifF hf c9
            by_cases c10 : x1 = 5
            · have hf := lh_ifT hf c10
              refine lh_tsIn (q := 5) (tgt := 15) rfl (by rw [c10]; decide) (by decide) rfl rfl ?_
              refine lh_aload_n (q := 0) rfl rfl rfl ?_
              refine lh_getR4 rfl rfl (hS.1 0 _ rfl) rfl (hS.2 12 _ rfl) ?_
              refine lh_iconst rfl lh_k_2 ?_
              refine lh_iald5 (k := 2) rfl (hS.1 13 _ rfl) (by decide) (by decide) ?_
              exact lh_iret rfl rfl rfl (by obtain rfl := Option.some.inj hf; exact hK)
            · have hf := lh_ifF hf c10
              by_cases c11 : x1 = 6
              · have hf := lh_ifT hf c11
                refine lh_tsIn (q := 6) (tgt := 20) rfl (by rw [c11]; decide) (by decide) rfl rfl ?_
                refine lh_aload_n (q := 0) rfl rfl rfl ?_
                refine lh_getR4 rfl rfl (hS.1 0 _ rfl) rfl (hS.2 12 _ rfl) ?_
                refine lh_iconst rfl lh_k_3 ?_
                refine lh_iald5 (k := 3) rfl (hS.1 13 _ rfl) (by decide) (by decide) ?_
                exact lh_iret rfl rfl rfl (by obtain rfl := Option.some.inj hf; exact hK)
              · have hf := lh_ifF hf c11
                by_cases c12 : x1 = 7
                · have hf := lh_ifT hf c12
                  refine lh_tsIn (q := 7) (tgt := 25) rfl (by rw [c12]; decide) (by decide) rfl rfl ?_
                  refine lh_aload_n (q := 0) rfl rfl rfl ?_
                  refine lh_getR4 rfl rfl (hS.1 0 _ rfl) rfl (hS.2 12 _ rfl) ?_
                  refine lh_iconst rfl lh_k_4 ?_
                  refine lh_iald5 (k := 4) rfl (hS.1 13 _ rfl) (by decide) (by decide) ?_
                  exact lh_iret rfl rfl rfl (by obtain rfl := Option.some.inj hf; exact hK)
                · have hf := lh_ifF hf c12
                  by_cases c13 : x1 = 8
                  · have hf := lh_ifT hf c13
                    refine lh_tsIn (q := 8) (tgt := 30) rfl (by rw [c13]; decide) (by decide) rfl rfl ?_
                    refine lh_aload_n (q := 0) rfl rfl rfl ?_
                    refine lh_getR4 rfl rfl (hS.1 0 _ rfl) rfl (hS.2 12 _ rfl) ?_
                    refine lh_iconst rfl lh_k_0 ?_
                    refine lh_iald5 (k := 0) rfl (hS.1 13 _ rfl) (by decide) (by decide) ?_
                    exact lh_iret rfl rfl rfl (by obtain rfl := Option.some.inj hf; exact hK)
                  · have hf := lh_ifF hf c13
                    by_cases c14 : x1 = 9
                    · have hf := lh_ifT hf c14
                      refine lh_tsIn (q := 9) (tgt := 35) rfl (by rw [c14]; decide) (by decide) rfl rfl ?_
                      refine lh_aload_n (q := 0) rfl rfl rfl ?_
                      refine lh_getR4 rfl rfl (hS.1 0 _ rfl) rfl (hS.2 12 _ rfl) ?_
                      refine lh_iconst rfl lh_k_1 ?_
                      refine lh_iald5 (k := 1) rfl (hS.1 13 _ rfl) (by decide) (by decide) ?_
                      exact lh_iret rfl rfl rfl (by obtain rfl := Option.some.inj hf; exact hK)
                    · have hf := lh_ifF hf c14
                      by_cases c15 : x1 = 10
                      · have hf := lh_ifT hf c15
                        refine lh_tsIn (q := 10) (tgt := 40) rfl (by rw [c15]; decide) (by decide) rfl rfl ?_
                        refine lh_aload_n (q := 0) rfl rfl rfl ?_
                        refine lh_getR4 rfl rfl (hS.1 0 _ rfl) rfl (hS.2 12 _ rfl) ?_
                        refine lh_bipush rfl lh_b_6 ?_
                        refine lh_iald5 (k := 6) rfl (hS.1 13 _ rfl) (by decide) (by decide) ?_
                        exact lh_iret rfl rfl rfl (by obtain rfl := Option.some.inj hf; exact hK)
                      · have hf := lh_ifF hf c15
                        by_cases c16 : x1 = 11
                        · have hf := lh_ifT hf c16
                          refine lh_tsIn (q := 11) (tgt := 45) rfl (by rw [c16]; decide) (by decide) rfl rfl ?_
                          refine lh_aload_n (q := 0) rfl rfl rfl ?_
                          refine lh_getR4 rfl rfl (hS.1 0 _ rfl) rfl (hS.2 5 _ rfl) ?_
                          refine lh_bipush rfl lh_b_7 ?_
                          refine lh_iald5 (k := 7) rfl (hS.1 6 _ rfl) (by decide) (by decide) ?_
                          refine lh_iconst rfl lh_k_1 ?_
                          refine lh_aload_n (q := 0) rfl rfl rfl ?_
                          refine lh_bdE hf (fun r17 e18 hf => ?_)
                          refine lh_cVi (N := m_LM_cells) (d := 0) (o := 65) (As := []) (st := [.int 1, .int ((lh_u2 I (65 + 4) 0 0) (71 + 4) 7)]) rfl rfl v_LM_cells (hS.1 0 _ rfl) rfl rfl rfl ⟨rfl, rfl⟩ rfl (t_LM_cells hG hS e18 ?_)
                          refine lh_ishl rfl ?_
                          refine lh_iconst rfl lh_k_1 ?_
                          refine lh_isub rfl ?_
                          refine lh_iand rfl ?_
                          exact lh_iret rfl rfl rfl (by obtain rfl := Option.some.inj hf; exact hK)
                        · have hf := lh_ifF hf c16
                          by_cases c19 : x1 = 12
                          · have hf := lh_ifT hf c19
                            refine lh_tsIn (q := 12) (tgt := 57) rfl (by rw [c19]; decide) (by decide) rfl rfl ?_
                            refine lh_aload_n (q := 0) rfl rfl rfl ?_
                            refine lh_getR4 rfl rfl (hS.1 0 _ rfl) rfl (hS.2 9 _ rfl) ?_
                            refine lh_iconst rfl lh_k_0 ?_
                            refine lh_iald5 (k := 0) rfl (hS.1 10 _ rfl) (by decide) (by decide) ?_
                            exact lh_iret rfl rfl rfl (by obtain rfl := Option.some.inj hf; exact hK)
                          · have hf := lh_ifF hf c19
                            by_cases c20 : x1 = 13
                            · have hf := lh_ifT hf c20
                              refine lh_tsIn (q := 13) (tgt := 62) rfl (by rw [c20]; decide) (by decide) rfl rfl ?_
                              refine lh_aload_n (q := 0) rfl rfl rfl ?_
                              refine lh_getR4 rfl rfl (hS.1 0 _ rfl) rfl (hS.2 12 _ rfl) ?_
                              refine lh_bipush rfl lh_b_7 ?_
                              refine lh_iald5 (k := 7) rfl (hS.1 13 _ rfl) (by decide) (by decide) ?_
                              exact lh_iret rfl rfl rfl (by obtain rfl := Option.some.inj hf; exact hK)
                            · have hf := lh_ifF hf c20
                              by_cases c21 : x1 = 14
                              · have hf := lh_ifT hf c21
                                refine lh_tsIn (q := 14) (tgt := 67) rfl (by rw [c21]; decide) (by decide) rfl rfl ?_
                                refine lh_aload_n (q := 0) rfl rfl rfl ?_
                                refine lh_getI4 rfl rfl (hS.1 0 _ rfl) rfl ?_
                                exact lh_iret rfl rfl rfl (by obtain rfl := Option.some.inj hf; exact hK)
                              · have hf := lh_ifF hf c21
                                by_cases c22 : x1 = 15
                                · have hf := lh_ifT hf c22
                                  refine lh_tsIn (q := 15) (tgt := 70) rfl (by rw [c22]; decide) (by decide) rfl rfl ?_
                                  refine lh_aload_n (q := 0) rfl rfl rfl ?_
                                  refine lh_getI4 rfl rfl (hS.1 0 _ rfl) rfl ?_
                                  exact lh_iret rfl rfl rfl (by obtain rfl := Option.some.inj hf; exact hK)
                                · have hf := lh_ifF hf c22
                                  refine lh_tsOut (tgt := 73) rfl (by have q0 := lv_neT c1 (a := 0) (by decide); have q1 := lv_neT c3 (a := 1) (by decide); have q2 := lv_neT c5 (a := 2) (by decide); have q3 := lv_neT c7 (a := 3) (by decide); have q4 := lv_neT c9 (a := 4) (by decide); have q5 := lv_neT c10 (a := 5) (by decide); have q6 := lv_neT c11 (a := 6) (by decide); have q7 := lv_neT c12 (a := 7) (by decide); have q8 := lv_neT c13 (a := 8) (by decide); have q9 := lv_neT c14 (a := 9) (by decide); have q10 := lv_neT c15 (a := 10) (by decide); have q11 := lv_neT c16 (a := 11) (by decide); have q12 := lv_neT c19 (a := 12) (by decide); have q13 := lv_neT c20 (a := 13) (by decide); have q14 := lv_neT c21 (a := 14) (by decide); have q15 := lv_neT c22 (a := 15) (by decide); omega) rfl ?_
                                  refine lh_iconst rfl lh_k_m1 ?_
                                  exact lh_iret rfl rfl rfl (by obtain rfl := Option.some.inj hf; exact hK)
def f_LM_cover_35 (v1 : Int32) (v2 : Int32) (v3 : Int32) (I : lh_II) : Nat → Int32 → Int32 → Option (Int32)
  | 0, _, _ => none
  | n + 1, v4, v5 => lh_bd (f_LM_cells I) fun r6 => if r6 ≤ v5 then some v4 else if ((v3 >>> (v5 &&& 31)) &&& 1) = 1 then lh_bd (f_LM_litFrom v5 ((-1) : Int32) I) fun r10 => f_LM_cover_35 v1 v2 v3 I n (v4 ||| r10) (v5 + 1) else f_LM_cover_35 v1 v2 v3 I n (v4 ||| 0) (v5 + 1)
def f_LM_cover_14 (v1 : Int32) (I : lh_II) : Nat → Int32 → Int32 → Option (Int32)
  | 0, _, _ => none
  | n + 1, v2, v3 => if v1 < v3 then some v2 else if (v3 &&& (I (71 + 4) 7)) = 0 then if v2 < 0 then lh_bd (f_LM_cover_35 v1 v2 v3 I lh_fuel 0 0) fun r12 => if r12 = v1 then f_LM_cover_14 v1 I n v3 (v3 + 1) else f_LM_cover_14 v1 I n v2 (v3 + 1) else lh_bd (f_LM_bits v3) fun r15 => lh_bd (f_LM_bits v2) fun r17 => if r17 ≤ r15 then f_LM_cover_14 v1 I n v2 (v3 + 1) else lh_bd (f_LM_cover_35 v1 v2 v3 I lh_fuel 0 0) fun r20 => if r20 = v1 then f_LM_cover_14 v1 I n v3 (v3 + 1) else f_LM_cover_14 v1 I n v2 (v3 + 1) else f_LM_cover_14 v1 I n v2 (v3 + 1)
def f_LM_cover (I : lh_II) : Option (Int32 × lh_II) := lh_bd (f_LM_cells (lh_u2 I (65 + 4) 0 0)) fun r1 => lh_bd (f_LM_cover_14 (((1 : Int32) <<< (r1 &&& 31)) - 1) (lh_u2 I (65 + 4) 0 0) lh_fuel (-1) 0) fun r23 => some (r23, lh_u2 I (65 + 4) 0 0)
theorem t_LM_cover_35 {Γ : lh_Cx} {F : lh_FF} {S : lh_SS} {Z : List Frame → Array Value → State → State → Prop} (hG : lh_GX Γ) (hS : lh_laym F S)  {v1 : Int32} {v2 : Int32} {v3 : Int32} {I : lh_II} {L : lh_LL} : ∀ (n : Nat) (v4 : Int32) (v5 : Int32) (o : Int32), f_LM_cover_35 v1 v2 v3 I n v4 v5 = some o → ∀ (x0_ : lh_G Γ m_LM_cover (lh_R 3 0 0) Z 0 0 57 [(0, .ref (65 + 4)), (1, .int v1), (2, .int v2), (3, .int v3), (4, .int o)] [] (I, L, F, S)), lh_G Γ m_LM_cover (lh_R 3 0 0) Z 0 0 35 [(0, .ref (65 + 4)), (1, .int v1), (2, .int v2), (3, .int v3), (4, .int v4), (5, .int v5)] [] (I, L, F, S) := by
  intro n
  induction n with
  | zero => intro v4 v5 o hf; cases hf
  | succ n ih =>
    intro v4 v5 o hf x0_
    rw [f_LM_cover_35] at hf
    refine lh_iload (q := 5) rfl rfl ?_
    refine lh_aload_n (q := 0) rfl rfl rfl ?_
    refine lh_bdE hf (fun r6 e7 hf => ?_)
    refine lh_cVi (N := m_LM_cells) (d := 0) (o := 65) (As := []) (st := [.int v5]) rfl rfl v_LM_cells (hS.1 0 _ rfl) rfl rfl rfl ⟨rfl, rfl⟩ rfl (t_LM_cells hG hS e7 ?_)
    refine lh_icmp_ge rfl (fun c8 => ?_) (fun c8 => ?_)
    · have hf := lh_ifT hf c8
      exact lh_less [0, 1, 2, 3, 4] rfl (by cases hf; exact x0_)
    · have hf := lh_ifF hf c8
      refine lh_iload (q := 4) rfl rfl ?_
      refine lh_iload_n (q := 3) rfl rfl rfl ?_
      refine lh_iload (q := 5) rfl rfl ?_
      refine lh_ishr rfl ?_
      refine lh_iconst rfl lh_k_1 ?_
      refine lh_iand rfl ?_
      refine lh_iconst rfl lh_k_1 ?_
      refine lh_icmp_ne rfl (fun c9 => ?_) (fun c9 => ?_)
      · have hf := lh_ifF hf c9
        refine lh_iconst rfl lh_k_0 ?_
        refine lh_ior rfl ?_
        refine lh_istore (lv' := [(0, .ref (65 + 4)), (1, .int v1), (2, .int v2), (3, .int v3), (4, .int (v4 ||| 0)), (5, .int v5)]) rfl rfl rfl ?_
        refine lh_iinc (q := 5) (v := (v5 + 1)) (lv' := [(0, .ref (65 + 4)), (1, .int v1), (2, .int v2), (3, .int v3), (4, .int (v4 ||| 0)), (5, .int (v5 + 1))]) rfl rfl (congrArg (v5 + ·) (by decide)) rfl rfl ?_
        refine lh_goto rfl ?_
        exact ih (v4 ||| 0) (v5 + 1) _ hf x0_
      · have hf := lh_ifT hf c9
        refine lh_aload_n (q := 0) rfl rfl rfl ?_
        refine lh_iload (q := 5) rfl rfl ?_
        refine lh_iconst rfl lh_k_m1 ?_
        refine lh_bdE hf (fun r10 e11 hf => ?_)
        refine lh_cVi (N := m_LM_litFrom) (d := 2) (o := 65) (As := [.int v5, .int (-1)]) (st := [.int v4]) rfl rfl v_LM_litFrom (hS.1 0 _ rfl) rfl rfl rfl ⟨rfl, rfl⟩ rfl (t_LM_litFrom hG hS e11 ?_)
        refine lh_goto rfl ?_
        refine lh_ior rfl ?_
        refine lh_istore (lv' := [(0, .ref (65 + 4)), (1, .int v1), (2, .int v2), (3, .int v3), (4, .int (v4 ||| r10)), (5, .int v5)]) rfl rfl rfl ?_
        refine lh_iinc (q := 5) (v := (v5 + 1)) (lv' := [(0, .ref (65 + 4)), (1, .int v1), (2, .int v2), (3, .int v3), (4, .int (v4 ||| r10)), (5, .int (v5 + 1))]) rfl rfl (congrArg (v5 + ·) (by decide)) rfl rfl ?_
        refine lh_goto rfl ?_
        exact ih (v4 ||| r10) (v5 + 1) _ hf x0_
theorem t_LM_cover_14 {Γ : lh_Cx} {F : lh_FF} {S : lh_SS} {Z : List Frame → Array Value → State → State → Prop} (hG : lh_GX Γ) (hS : lh_laym F S)  {v1 : Int32} {I : lh_II} {L : lh_LL} : ∀ (n : Nat) (v2 : Int32) (v3 : Int32) (o : Int32), f_LM_cover_14 v1 I n v2 v3 = some o → ∀ (x0_ : lh_G Γ m_LM_cover (lh_R 3 0 0) Z 0 0 66 [(2, .int o)] [] (I, L, F, S)), lh_G Γ m_LM_cover (lh_R 3 0 0) Z 0 0 14 [(0, .ref (65 + 4)), (1, .int v1), (2, .int v2), (3, .int v3)] [] (I, L, F, S) := by
  intro n
  induction n with
  | zero => intro v2 v3 o hf; cases hf
  | succ n ih =>
    intro v2 v3 o hf x0_
    rw [f_LM_cover_14] at hf
    refine lh_iload_n (q := 3) rfl rfl rfl ?_
    refine lh_iload_n (q := 1) rfl rfl rfl ?_
    refine lh_icmp_gt rfl (fun c3 => ?_) (fun c3 => ?_)
    · have hf := lh_ifT hf c3
      exact lh_less [2] rfl (by cases hf; exact x0_)
    · have hf := lh_ifF hf c3
      refine lh_iload_n (q := 3) rfl rfl rfl ?_
      refine lh_aload_n (q := 0) rfl rfl rfl ?_
      refine lh_getR4 rfl rfl (hS.1 0 _ rfl) rfl (hS.2 5 _ rfl) ?_
      refine lh_bipush rfl lh_b_7 ?_
      refine lh_iald5 (k := 7) rfl (hS.1 6 _ rfl) (by decide) (by decide) ?_
      refine lh_iand rfl ?_
      refine lh_if_ne rfl (fun c4 => ?_) (fun c4 => ?_)
      · have hf := lh_ifF hf c4
        refine lh_iinc (q := 3) (v := (v3 + 1)) (lv' := [(0, .ref (65 + 4)), (1, .int v1), (2, .int v2), (3, .int (v3 + 1))]) rfl rfl (congrArg (v3 + ·) (by decide)) rfl rfl ?_
        refine lh_goto rfl ?_
        exact ih v2 (v3 + 1) _ hf x0_
      · have hf := lh_ifT hf c4
        refine lh_iload_n (q := 2) rfl rfl rfl ?_
        refine lh_if_lt rfl (fun c5 => ?_) (fun c5 => ?_)
        · have hf := lh_ifT hf c5
          refine lh_iconst rfl lh_k_0 ?_
          refine lh_istore (lv' := [(0, .ref (65 + 4)), (1, .int v1), (2, .int v2), (3, .int v3), (4, .int 0)]) rfl rfl rfl ?_
          refine lh_iconst rfl lh_k_0 ?_
          refine lh_istore (lv' := [(0, .ref (65 + 4)), (1, .int v1), (2, .int v2), (3, .int v3), (4, .int 0), (5, .int 0)]) rfl rfl rfl ?_
          refine lh_bdE hf (fun r12 e13 hf => ?_)
          refine t_LM_cover_35 hG hS  _ 0 0 _ e13 ?_
          refine lh_iload (q := 4) rfl rfl ?_
          refine lh_iload_n (q := 1) rfl rfl rfl ?_
          refine lh_icmp_ne rfl (fun c14 => ?_) (fun c14 => ?_)
          · have hf := lh_ifF hf c14
            refine lh_iload_n (q := 2) rfl rfl rfl ?_
            refine lh_istore_n (lv' := [(0, .ref (65 + 4)), (1, .int v1), (2, .int v2), (3, .int v3), (4, .int r12)]) rfl rfl rfl rfl ?_
            refine lh_iinc (q := 3) (v := (v3 + 1)) (lv' := [(0, .ref (65 + 4)), (1, .int v1), (2, .int v2), (3, .int (v3 + 1)), (4, .int r12)]) rfl rfl (congrArg (v3 + ·) (by decide)) rfl rfl ?_
            refine lh_goto rfl ?_
            refine lh_less [0, 1, 2, 3] rfl ?_
            exact ih v2 (v3 + 1) _ hf x0_
          · have hf := lh_ifT hf c14
            refine lh_iload_n (q := 3) rfl rfl rfl ?_
            refine lh_goto rfl ?_
            refine lh_istore_n (lv' := [(0, .ref (65 + 4)), (1, .int v1), (2, .int v3), (3, .int v3), (4, .int r12)]) rfl rfl rfl rfl ?_
            refine lh_iinc (q := 3) (v := (v3 + 1)) (lv' := [(0, .ref (65 + 4)), (1, .int v1), (2, .int v3), (3, .int (v3 + 1)), (4, .int r12)]) rfl rfl (congrArg (v3 + ·) (by decide)) rfl rfl ?_
            refine lh_goto rfl ?_
            refine lh_less [0, 1, 2, 3] rfl ?_
            exact ih v3 (v3 + 1) _ hf x0_
        · have hf := lh_ifF hf c5
          refine lh_iload_n (q := 3) rfl rfl rfl ?_
          refine lh_bdE hf (fun r15 e16 hf => ?_)
          refine lh_cSi (N := m_LM_bits) (d := 0) (As := [.int v3]) (st := []) rfl rfl v_LM_bits rfl rfl ⟨rfl, rfl⟩ rfl (t_LM_bits hG hS e16 ?_)
          refine lh_iload_n (q := 2) rfl rfl rfl ?_
          refine lh_bdE hf (fun r17 e18 hf => ?_)
          refine lh_cSi (N := m_LM_bits) (d := 0) (As := [.int v2]) (st := [.int r15]) rfl rfl v_LM_bits rfl rfl ⟨rfl, rfl⟩ rfl (t_LM_bits hG hS e18 ?_)
          refine lh_icmp_ge rfl (fun c19 => ?_) (fun c19 => ?_)
          · have hf := lh_ifT hf c19
            refine lh_iinc (q := 3) (v := (v3 + 1)) (lv' := [(0, .ref (65 + 4)), (1, .int v1), (2, .int v2), (3, .int (v3 + 1))]) rfl rfl (congrArg (v3 + ·) (by decide)) rfl rfl ?_
            refine lh_goto rfl ?_
            exact ih v2 (v3 + 1) _ hf x0_
          · have hf := lh_ifF hf c19
            refine lh_iconst rfl lh_k_0 ?_
            refine lh_istore (lv' := [(0, .ref (65 + 4)), (1, .int v1), (2, .int v2), (3, .int v3), (4, .int 0)]) rfl rfl rfl ?_
            refine lh_iconst rfl lh_k_0 ?_
            refine lh_istore (lv' := [(0, .ref (65 + 4)), (1, .int v1), (2, .int v2), (3, .int v3), (4, .int 0), (5, .int 0)]) rfl rfl rfl ?_
            refine lh_bdE hf (fun r20 e21 hf => ?_)
            refine t_LM_cover_35 hG hS  _ 0 0 _ e21 ?_
            refine lh_iload (q := 4) rfl rfl ?_
            refine lh_iload_n (q := 1) rfl rfl rfl ?_
            refine lh_icmp_ne rfl (fun c22 => ?_) (fun c22 => ?_)
            · have hf := lh_ifF hf c22
              refine lh_iload_n (q := 2) rfl rfl rfl ?_
              refine lh_istore_n (lv' := [(0, .ref (65 + 4)), (1, .int v1), (2, .int v2), (3, .int v3), (4, .int r20)]) rfl rfl rfl rfl ?_
              refine lh_iinc (q := 3) (v := (v3 + 1)) (lv' := [(0, .ref (65 + 4)), (1, .int v1), (2, .int v2), (3, .int (v3 + 1)), (4, .int r20)]) rfl rfl (congrArg (v3 + ·) (by decide)) rfl rfl ?_
              refine lh_goto rfl ?_
              refine lh_less [0, 1, 2, 3] rfl ?_
              exact ih v2 (v3 + 1) _ hf x0_
            · have hf := lh_ifT hf c22
              refine lh_iload_n (q := 3) rfl rfl rfl ?_
              refine lh_goto rfl ?_
              refine lh_istore_n (lv' := [(0, .ref (65 + 4)), (1, .int v1), (2, .int v3), (3, .int v3), (4, .int r20)]) rfl rfl rfl rfl ?_
              refine lh_iinc (q := 3) (v := (v3 + 1)) (lv' := [(0, .ref (65 + 4)), (1, .int v1), (2, .int v3), (3, .int (v3 + 1)), (4, .int r20)]) rfl rfl (congrArg (v3 + ·) (by decide)) rfl rfl ?_
              refine lh_goto rfl ?_
              refine lh_less [0, 1, 2, 3] rfl ?_
              exact ih v3 (v3 + 1) _ hf x0_
theorem t_LM_cover {Γ : lh_Cx} {I : lh_II} {L : lh_LL} {F : lh_FF} {S : lh_SS} {K : Int32 → lh_Hp → Prop} {r : Int32 × lh_II} (hG : lh_GX Γ) (hS : lh_laym F S)  (hf : f_LM_cover I = some r) (hK : K r.1 (r.2, L, F, S)) : lh_Met Γ m_LM_cover 3 0 0 [.ref (65 + 4)] (I, L, F, S) (lh_ki K) := by
  rw [f_LM_cover] at hf
  refine lh_ofG k_LM_cover [(0, .ref (65 + 4))] rfl (Nat.le_of_ble_eq_true rfl) rfl ?_
  refine lh_aload_n (q := 0) rfl rfl rfl ?_
  refine lh_iconst rfl lh_k_0 ?_
  refine lh_putI4 rfl rfl (hS.1 0 _ rfl) rfl rfl ?_
  refine lh_iconst rfl lh_k_1 ?_
  refine lh_aload_n (q := 0) rfl rfl rfl ?_
  refine lh_bdE hf (fun r1 e2 hf => ?_)
  refine lh_cVi (N := m_LM_cells) (d := 0) (o := 65) (As := []) (st := [.int 1]) rfl rfl v_LM_cells (hS.1 0 _ rfl) rfl rfl rfl ⟨rfl, rfl⟩ rfl (t_LM_cells hG hS e2 ?_)
  refine lh_ishl rfl ?_
  refine lh_iconst rfl lh_k_1 ?_
  refine lh_isub rfl ?_
  refine lh_istore_n (lv' := [(0, .ref (65 + 4)), (1, .int (((1 : Int32) <<< (r1 &&& 31)) - 1))]) rfl rfl rfl rfl ?_
  refine lh_iconst rfl lh_k_m1 ?_
  refine lh_istore_n (lv' := [(0, .ref (65 + 4)), (1, .int (((1 : Int32) <<< (r1 &&& 31)) - 1)), (2, .int (-1))]) rfl rfl rfl rfl ?_
  refine lh_iconst rfl lh_k_0 ?_
  refine lh_istore_n (lv' := [(0, .ref (65 + 4)), (1, .int (((1 : Int32) <<< (r1 &&& 31)) - 1)), (2, .int (-1)), (3, .int 0)]) rfl rfl rfl rfl ?_
  refine lh_bdE hf (fun r23 e24 hf => ?_)
  refine t_LM_cover_14 hG hS  _ (-1) 0 _ e24 ?_
  refine lh_iload_n (q := 0) rfl rfl rfl ?_
  exact lh_iret rfl rfl rfl (by obtain rfl := Option.some.inj hf; exact hK)
def f_LM_crowd_24 (v1 : Int32) (v2 : Int32) (v3 : Int32) (I : lh_II) : Nat → Int32 → Int32 → Option (Int32)
  | 0, _, _ => none
  | n + 1, v4, v5 => lh_bd (f_LM_visitors I) fun r7 => if r7 ≤ v5 then some v4 else lh_bd (f_LM_dayOf v5 I) fun r10 => if r10 = v1 then lh_bd (f_LM_cellOf v5 (v3 - v3 / 8 * 8) I) fun r13 => if r13 = (v3 / 8) then f_LM_crowd_24 v1 v2 v3 I n (v4 + 1) (v5 + 1) else f_LM_crowd_24 v1 v2 v3 I n (v4 + 0) (v5 + 1) else f_LM_crowd_24 v1 v2 v3 I n (v4 + 0) (v5 + 1)
def f_LM_crowd_14 (v1 : Int32) (I : lh_II) : Nat → Int32 → Int32 → Option (Int32)
  | 0, _, _ => none
  | n + 1, v2, v3 => lh_bd (f_LM_cells I) fun r4 => if (8 * r4) ≤ v3 then some v2 else lh_bd (f_LM_crowd_24 v1 v2 v3 I lh_fuel 0 0) fun r16 => if r16 ≤ v2 then f_LM_crowd_14 v1 I n v2 (v3 + 1) else f_LM_crowd_14 v1 I n r16 (v3 + 1)
def f_LM_crowd (x1 : Int32) (I : lh_II) : Option (Int32 × lh_II) := lh_bd (f_LM_within x1 (0 : Int32) (3 : Int32)) fun r1 => if r1 = 0 then some ((-1), lh_u2 I (65 + 4) 0 0) else lh_bd (f_LM_crowd_14 x1 (lh_u2 I (65 + 4) 0 0) lh_fuel 0 0) fun r19 => some (r19, lh_u2 I (65 + 4) 0 0)
theorem t_LM_crowd_24 {Γ : lh_Cx} {F : lh_FF} {S : lh_SS} {Z : List Frame → Array Value → State → State → Prop} (hG : lh_GX Γ) (hS : lh_laym F S)  {v1 : Int32} {v2 : Int32} {v3 : Int32} {I : lh_II} {L : lh_LL} : ∀ (n : Nat) (v4 : Int32) (v5 : Int32) (o : Int32), f_LM_crowd_24 v1 v2 v3 I n v4 v5 = some o → ∀ (x0_ : lh_G Γ m_LM_crowd (lh_R 2 0 0) Z 0 0 51 [(0, .ref (65 + 4)), (1, .int v1), (2, .int v2), (3, .int v3), (4, .int o)] [] (I, L, F, S)), lh_G Γ m_LM_crowd (lh_R 2 0 0) Z 0 0 24 [(0, .ref (65 + 4)), (1, .int v1), (2, .int v2), (3, .int v3), (4, .int v4), (5, .int v5)] [] (I, L, F, S) := by
  intro n
  induction n with
  | zero => intro v4 v5 o hf; cases hf
  | succ n ih =>
    intro v4 v5 o hf x0_
    rw [f_LM_crowd_24] at hf
    refine lh_iload (q := 5) rfl rfl ?_
    refine lh_aload_n (q := 0) rfl rfl rfl ?_
    refine lh_bdE hf (fun r7 e8 hf => ?_)
    refine lh_cVi (N := m_LM_visitors) (d := 0) (o := 65) (As := []) (st := [.int v5]) rfl rfl v_LM_visitors (hS.1 0 _ rfl) rfl rfl rfl ⟨rfl, rfl⟩ rfl (t_LM_visitors hG hS e8 ?_)
    refine lh_icmp_ge rfl (fun c9 => ?_) (fun c9 => ?_)
    · have hf := lh_ifT hf c9
      exact lh_less [0, 1, 2, 3, 4] rfl (by cases hf; exact x0_)
    · have hf := lh_ifF hf c9
      refine lh_iload (q := 4) rfl rfl ?_
      refine lh_aload_n (q := 0) rfl rfl rfl ?_
      refine lh_iload (q := 5) rfl rfl ?_
      refine lh_bdE hf (fun r10 e11 hf => ?_)
      refine lh_cVi (N := m_LM_dayOf) (d := 0) (o := 65) (As := [.int v5]) (st := [.int v4]) rfl rfl v_LM_dayOf (hS.1 0 _ rfl) rfl rfl rfl ⟨rfl, rfl⟩ rfl (t_LM_dayOf hG hS e11 ?_)
      refine lh_iload_n (q := 1) rfl rfl rfl ?_
      refine lh_icmp_ne rfl (fun c12 => ?_) (fun c12 => ?_)
      · have hf := lh_ifF hf c12
        refine lh_iconst rfl lh_k_0 ?_
        refine lh_iadd rfl ?_
        refine lh_istore (lv' := [(0, .ref (65 + 4)), (1, .int v1), (2, .int v2), (3, .int v3), (4, .int (v4 + 0)), (5, .int v5)]) rfl rfl rfl ?_
        refine lh_iinc (q := 5) (v := (v5 + 1)) (lv' := [(0, .ref (65 + 4)), (1, .int v1), (2, .int v2), (3, .int v3), (4, .int (v4 + 0)), (5, .int (v5 + 1))]) rfl rfl (congrArg (v5 + ·) (by decide)) rfl rfl ?_
        refine lh_goto rfl ?_
        exact ih (v4 + 0) (v5 + 1) _ hf x0_
      · have hf := lh_ifT hf c12
        refine lh_aload_n (q := 0) rfl rfl rfl ?_
        refine lh_iload (q := 5) rfl rfl ?_
        refine lh_iload_n (q := 3) rfl rfl rfl ?_
        refine lh_bipush rfl lh_b_8 ?_
        refine lh_irem rfl (by decide) ?_
        refine lh_bdE hf (fun r13 e14 hf => ?_)
        refine lh_cVi (N := m_LM_cellOf) (d := 1) (o := 65) (As := [.int v5, .int (v3 - v3 / 8 * 8)]) (st := [.int v4]) rfl rfl v_LM_cellOf (hS.1 0 _ rfl) rfl rfl rfl ⟨rfl, rfl⟩ rfl (t_LM_cellOf hG hS e14 ?_)
        refine lh_iload_n (q := 3) rfl rfl rfl ?_
        refine lh_bipush rfl lh_b_8 ?_
        refine lh_idiv rfl (by decide) ?_
        refine lh_icmp_ne rfl (fun c15 => ?_) (fun c15 => ?_)
        · have hf := lh_ifF hf c15
          refine lh_iconst rfl lh_k_0 ?_
          refine lh_iadd rfl ?_
          refine lh_istore (lv' := [(0, .ref (65 + 4)), (1, .int v1), (2, .int v2), (3, .int v3), (4, .int (v4 + 0)), (5, .int v5)]) rfl rfl rfl ?_
          refine lh_iinc (q := 5) (v := (v5 + 1)) (lv' := [(0, .ref (65 + 4)), (1, .int v1), (2, .int v2), (3, .int v3), (4, .int (v4 + 0)), (5, .int (v5 + 1))]) rfl rfl (congrArg (v5 + ·) (by decide)) rfl rfl ?_
          refine lh_goto rfl ?_
          exact ih (v4 + 0) (v5 + 1) _ hf x0_
        · have hf := lh_ifT hf c15
          refine lh_iconst rfl lh_k_1 ?_
          refine lh_goto rfl ?_
          refine lh_iadd rfl ?_
          refine lh_istore (lv' := [(0, .ref (65 + 4)), (1, .int v1), (2, .int v2), (3, .int v3), (4, .int (v4 + 1)), (5, .int v5)]) rfl rfl rfl ?_
          refine lh_iinc (q := 5) (v := (v5 + 1)) (lv' := [(0, .ref (65 + 4)), (1, .int v1), (2, .int v2), (3, .int v3), (4, .int (v4 + 1)), (5, .int (v5 + 1))]) rfl rfl (congrArg (v5 + ·) (by decide)) rfl rfl ?_
          refine lh_goto rfl ?_
          exact ih (v4 + 1) (v5 + 1) _ hf x0_
theorem t_LM_crowd_14 {Γ : lh_Cx} {F : lh_FF} {S : lh_SS} {Z : List Frame → Array Value → State → State → Prop} (hG : lh_GX Γ) (hS : lh_laym F S)  {v1 : Int32} {I : lh_II} {L : lh_LL} : ∀ (n : Nat) (v2 : Int32) (v3 : Int32) (o : Int32), f_LM_crowd_14 v1 I n v2 v3 = some o → ∀ (x0_ : lh_G Γ m_LM_crowd (lh_R 2 0 0) Z 0 0 60 [(2, .int o)] [] (I, L, F, S)), lh_G Γ m_LM_crowd (lh_R 2 0 0) Z 0 0 14 [(0, .ref (65 + 4)), (1, .int v1), (2, .int v2), (3, .int v3)] [] (I, L, F, S) := by
  intro n
  induction n with
  | zero => intro v2 v3 o hf; cases hf
  | succ n ih =>
    intro v2 v3 o hf x0_
    rw [f_LM_crowd_14] at hf
    refine lh_iload_n (q := 3) rfl rfl rfl ?_
    refine lh_bipush rfl lh_b_8 ?_
    refine lh_aload_n (q := 0) rfl rfl rfl ?_
    refine lh_bdE hf (fun r4 e5 hf => ?_)
    refine lh_cVi (N := m_LM_cells) (d := 0) (o := 65) (As := []) (st := [.int 8, .int v3]) rfl rfl v_LM_cells (hS.1 0 _ rfl) rfl rfl rfl ⟨rfl, rfl⟩ rfl (t_LM_cells hG hS e5 ?_)
    refine lh_imul rfl ?_
    refine lh_icmp_ge rfl (fun c6 => ?_) (fun c6 => ?_)
    · have hf := lh_ifT hf c6
      exact lh_less [2] rfl (by cases hf; exact x0_)
    · have hf := lh_ifF hf c6
      refine lh_iconst rfl lh_k_0 ?_
      refine lh_istore (lv' := [(0, .ref (65 + 4)), (1, .int v1), (2, .int v2), (3, .int v3), (4, .int 0)]) rfl rfl rfl ?_
      refine lh_iconst rfl lh_k_0 ?_
      refine lh_istore (lv' := [(0, .ref (65 + 4)), (1, .int v1), (2, .int v2), (3, .int v3), (4, .int 0), (5, .int 0)]) rfl rfl rfl ?_
      refine lh_bdE hf (fun r16 e17 hf => ?_)
      refine t_LM_crowd_24 hG hS  _ 0 0 _ e17 ?_
      refine lh_iload (q := 4) rfl rfl ?_
      refine lh_iload_n (q := 2) rfl rfl rfl ?_
      refine lh_icmp_le rfl (fun c18 => ?_) (fun c18 => ?_)
      · have hf := lh_ifT hf c18
        refine lh_iload_n (q := 2) rfl rfl rfl ?_
        refine lh_istore_n (lv' := [(0, .ref (65 + 4)), (1, .int v1), (2, .int v2), (3, .int v3), (4, .int r16)]) rfl rfl rfl rfl ?_
        refine lh_iinc (q := 3) (v := (v3 + 1)) (lv' := [(0, .ref (65 + 4)), (1, .int v1), (2, .int v2), (3, .int (v3 + 1)), (4, .int r16)]) rfl rfl (congrArg (v3 + ·) (by decide)) rfl rfl ?_
        refine lh_goto rfl ?_
        refine lh_less [0, 1, 2, 3] rfl ?_
        exact ih v2 (v3 + 1) _ hf x0_
      · have hf := lh_ifF hf c18
        refine lh_iload (q := 4) rfl rfl ?_
        refine lh_goto rfl ?_
        refine lh_istore_n (lv' := [(0, .ref (65 + 4)), (1, .int v1), (2, .int r16), (3, .int v3), (4, .int r16)]) rfl rfl rfl rfl ?_
        refine lh_iinc (q := 3) (v := (v3 + 1)) (lv' := [(0, .ref (65 + 4)), (1, .int v1), (2, .int r16), (3, .int (v3 + 1)), (4, .int r16)]) rfl rfl (congrArg (v3 + ·) (by decide)) rfl rfl ?_
        refine lh_goto rfl ?_
        refine lh_less [0, 1, 2, 3] rfl ?_
        exact ih r16 (v3 + 1) _ hf x0_
theorem t_LM_crowd {Γ : lh_Cx} {I : lh_II} {L : lh_LL} {F : lh_FF} {S : lh_SS} {K : Int32 → lh_Hp → Prop} {r : Int32 × lh_II} (hG : lh_GX Γ) (hS : lh_laym F S)  {x1 : Int32} (hf : f_LM_crowd x1 I = some r) (hK : K r.1 (r.2, L, F, S)) : lh_Met Γ m_LM_crowd 2 0 0 [.ref (65 + 4), .int x1] (I, L, F, S) (lh_ki K) := by
  rw [f_LM_crowd] at hf
  refine lh_ofG k_LM_crowd [(0, .ref (65 + 4)), (1, .int x1)] rfl (Nat.le_of_ble_eq_true rfl) rfl ?_
  refine lh_aload_n (q := 0) rfl rfl rfl ?_
  refine lh_iconst rfl lh_k_0 ?_
  refine lh_putI4 rfl rfl (hS.1 0 _ rfl) rfl rfl ?_
  refine lh_iload_n (q := 1) rfl rfl rfl ?_
  refine lh_iconst rfl lh_k_0 ?_
  refine lh_iconst rfl lh_k_3 ?_
  refine lh_bdE hf (fun r1 e2 hf => ?_)
  refine lh_cSi (N := m_LM_within) (d := 0) (As := [.int x1, .int 0, .int 3]) (st := []) rfl rfl v_LM_within rfl rfl ⟨rfl, rfl⟩ rfl (t_LM_within hG hS e2 ?_)
  refine lh_if_ne rfl (fun c3 => ?_) (fun c3 => ?_)
  · have hf := lh_ifF hf c3
    refine lh_iconst rfl lh_k_0 ?_
    refine lh_istore_n (lv' := [(0, .ref (65 + 4)), (1, .int x1), (2, .int 0)]) rfl rfl rfl rfl ?_
    refine lh_iconst rfl lh_k_0 ?_
    refine lh_istore_n (lv' := [(0, .ref (65 + 4)), (1, .int x1), (2, .int 0), (3, .int 0)]) rfl rfl rfl rfl ?_
    refine lh_bdE hf (fun r19 e20 hf => ?_)
    refine t_LM_crowd_14 hG hS  _ 0 0 _ e20 ?_
    refine lh_iload_n (q := 0) rfl rfl rfl ?_
    exact lh_iret rfl rfl rfl (by obtain rfl := Option.some.inj hf; exact hK)
  · have hf := lh_ifT hf c3
    refine lh_iconst rfl lh_k_m1 ?_
    exact lh_iret rfl rfl rfl (by obtain rfl := Option.some.inj hf; exact hK)
def f_LM_isLetter (x1 : Int32) : Option (Int32) := if x1 < 97 then some 0 else if 122 < x1 then some 0 else some 1
theorem t_LM_isLetter {Γ : lh_Cx} {I : lh_II} {L : lh_LL} {F : lh_FF} {S : lh_SS} {K : Int32 → lh_Hp → Prop} {r : Int32} (hG : lh_GX Γ) (hS : lh_laym F S)  {x1 : Int32} (hf : f_LM_isLetter x1 = some r) (hK : K r (I, L, F, S)) : lh_Met Γ m_LM_isLetter 0 0 0 [.int x1] (I, L, F, S) (lh_ki K) := by
  rw [f_LM_isLetter] at hf
  refine lh_ofG k_LM_isLetter [(0, .int x1)] rfl (Nat.le_of_ble_eq_true rfl) rfl ?_
  refine lh_iload_n (q := 0) rfl rfl rfl ?_
  refine lh_bipush rfl lh_b_97 ?_
  refine lh_icmp_lt rfl (fun c1 => ?_) (fun c1 => ?_)
  · have hf := lh_ifT hf c1
    refine lh_iconst rfl lh_k_0 ?_
    exact lh_iret rfl rfl (by decide) (by obtain rfl := Option.some.inj hf; exact hK)
  · have hf := lh_ifF hf c1
    refine lh_iload_n (q := 0) rfl rfl rfl ?_
    refine lh_bipush rfl lh_b_122 ?_
    refine lh_icmp_gt rfl (fun c2 => ?_) (fun c2 => ?_)
    · have hf := lh_ifT hf c2
      refine lh_iconst rfl lh_k_0 ?_
      exact lh_iret rfl rfl (by decide) (by obtain rfl := Option.some.inj hf; exact hK)
    · have hf := lh_ifF hf c2
      refine lh_iconst rfl lh_k_1 ?_
      refine lh_goto rfl ?_
      exact lh_iret rfl rfl (by decide) (by obtain rfl := Option.some.inj hf; exact hK)
def f_LM_rank (x1 : Int32) : Option (Int32) := lh_bd (f_LM_isLetter x1) fun r1 => if r1 = 0 then some (x1 - 21) else some (x1 - 96)
theorem t_LM_rank {Γ : lh_Cx} {I : lh_II} {L : lh_LL} {F : lh_FF} {S : lh_SS} {K : Int32 → lh_Hp → Prop} {r : Int32} (hG : lh_GX Γ) (hS : lh_laym F S)  {x1 : Int32} (hf : f_LM_rank x1 = some r) (hK : K r (I, L, F, S)) : lh_Met Γ m_LM_rank 1 0 0 [.int x1] (I, L, F, S) (lh_ki K) := by
  rw [f_LM_rank] at hf
  refine lh_ofG k_LM_rank [(0, .int x1)] rfl (Nat.le_of_ble_eq_true rfl) rfl ?_
  refine lh_iload_n (q := 0) rfl rfl rfl ?_
  refine lh_bdE hf (fun r1 e2 hf => ?_)
  refine lh_cSi (N := m_LM_isLetter) (d := 0) (As := [.int x1]) (st := []) rfl rfl v_LM_isLetter rfl rfl ⟨rfl, rfl⟩ rfl (t_LM_isLetter hG hS e2 ?_)
  refine lh_if_eq rfl (fun c3 => ?_) (fun c3 => ?_)
  · have hf := lh_ifT hf c3
    refine lh_iload_n (q := 0) rfl rfl rfl ?_
    refine lh_bipush rfl lh_b_21 ?_
    refine lh_isub rfl ?_
    exact lh_iret rfl rfl rfl (by obtain rfl := Option.some.inj hf; exact hK)
  · have hf := lh_ifF hf c3
    refine lh_iload_n (q := 0) rfl rfl rfl ?_
    refine lh_bipush rfl lh_b_96 ?_
    refine lh_isub rfl ?_
    refine lh_goto rfl ?_
    exact lh_iret rfl rfl rfl (by obtain rfl := Option.some.inj hf; exact hK)
def f_LM_isDigit (x1 : Int32) : Option (Int32) := if x1 < 48 then some 0 else if 57 < x1 then some 0 else some 1
theorem t_LM_isDigit {Γ : lh_Cx} {I : lh_II} {L : lh_LL} {F : lh_FF} {S : lh_SS} {K : Int32 → lh_Hp → Prop} {r : Int32} (hG : lh_GX Γ) (hS : lh_laym F S)  {x1 : Int32} (hf : f_LM_isDigit x1 = some r) (hK : K r (I, L, F, S)) : lh_Met Γ m_LM_isDigit 0 0 0 [.int x1] (I, L, F, S) (lh_ki K) := by
  rw [f_LM_isDigit] at hf
  refine lh_ofG k_LM_isDigit [(0, .int x1)] rfl (Nat.le_of_ble_eq_true rfl) rfl ?_
  refine lh_iload_n (q := 0) rfl rfl rfl ?_
  refine lh_bipush rfl lh_b_48 ?_
  refine lh_icmp_lt rfl (fun c1 => ?_) (fun c1 => ?_)
  · have hf := lh_ifT hf c1
    refine lh_iconst rfl lh_k_0 ?_
    exact lh_iret rfl rfl (by decide) (by obtain rfl := Option.some.inj hf; exact hK)
  · have hf := lh_ifF hf c1
    refine lh_iload_n (q := 0) rfl rfl rfl ?_
    refine lh_bipush rfl lh_b_57 ?_
    refine lh_icmp_gt rfl (fun c2 => ?_) (fun c2 => ?_)
    · have hf := lh_ifT hf c2
      refine lh_iconst rfl lh_k_0 ?_
      exact lh_iret rfl rfl (by decide) (by obtain rfl := Option.some.inj hf; exact hK)
    · have hf := lh_ifF hf c2
      refine lh_iconst rfl lh_k_1 ?_
      refine lh_goto rfl ?_
      exact lh_iret rfl rfl (by decide) (by obtain rfl := Option.some.inj hf; exact hK)
def f_LM_isSignOf (x1 : Int32) : Option (Int32) := if x1 = 40 then some 1 else if x1 = 41 then some 1 else if x1 = 59 then some 1 else if x1 = 61 then some 1 else if x1 = 60 then some 1 else if x1 = 43 then some 1 else if x1 = 45 then some 1 else if x1 = 42 then some 1 else some 0
theorem t_LM_isSignOf {Γ : lh_Cx} {I : lh_II} {L : lh_LL} {F : lh_FF} {S : lh_SS} {K : Int32 → lh_Hp → Prop} {r : Int32} (hG : lh_GX Γ) (hS : lh_laym F S)  {x1 : Int32} (hf : f_LM_isSignOf x1 = some r) (hK : K r (I, L, F, S)) : lh_Met Γ m_LM_isSignOf 0 0 0 [.int x1] (I, L, F, S) (lh_ki K) := by
  rw [f_LM_isSignOf] at hf
  refine lh_ofG k_LM_isSignOf [(0, .int x1)] rfl (Nat.le_of_ble_eq_true rfl) rfl ?_
  refine lh_iload_n (q := 0) rfl rfl rfl ?_
  refine lh_bipush rfl lh_b_40 ?_
  refine lh_icmp_eq rfl (fun c1 => ?_) (fun c1 => ?_)
  · have hf := lh_ifT hf c1
    refine lh_iconst rfl lh_k_1 ?_
    refine lh_goto rfl ?_
    exact lh_iret rfl rfl (by decide) (by obtain rfl := Option.some.inj hf; exact hK)
  · have hf := lh_ifF hf c1
    refine lh_iload_n (q := 0) rfl rfl rfl ?_
    refine lh_bipush rfl lh_b_41 ?_
    refine lh_icmp_eq rfl (fun c2 => ?_) (fun c2 => ?_)
    · have hf := lh_ifT hf c2
      refine lh_iconst rfl lh_k_1 ?_
      refine lh_goto rfl ?_
      exact lh_iret rfl rfl (by decide) (by obtain rfl := Option.some.inj hf; exact hK)
    · have hf := lh_ifF hf c2
      refine lh_iload_n (q := 0) rfl rfl rfl ?_
      refine lh_bipush rfl lh_b_59 ?_
      refine lh_icmp_eq rfl (fun c3 => ?_) (fun c3 => ?_)
      · have hf := lh_ifT hf c3
        refine lh_iconst rfl lh_k_1 ?_
        refine lh_goto rfl ?_
        exact lh_iret rfl rfl (by decide) (by obtain rfl := Option.some.inj hf; exact hK)
      · have hf := lh_ifF hf c3
        refine lh_iload_n (q := 0) rfl rfl rfl ?_
        refine lh_bipush rfl lh_b_61 ?_
        refine lh_icmp_eq rfl (fun c4 => ?_) (fun c4 => ?_)
        · have hf := lh_ifT hf c4
          refine lh_iconst rfl lh_k_1 ?_
          refine lh_goto rfl ?_
          exact lh_iret rfl rfl (by decide) (by obtain rfl := Option.some.inj hf; exact hK)
        · have hf := lh_ifF hf c4
          refine lh_iload_n (q := 0) rfl rfl rfl ?_
          refine lh_bipush rfl lh_b_60 ?_
          refine lh_icmp_eq rfl (fun c5 => ?_) (fun c5 => ?_)
          · have hf := lh_ifT hf c5
            refine lh_iconst rfl lh_k_1 ?_
            refine lh_goto rfl ?_
            exact lh_iret rfl rfl (by decide) (by obtain rfl := Option.some.inj hf; exact hK)
          · have hf := lh_ifF hf c5
            refine lh_iload_n (q := 0) rfl rfl rfl ?_
            refine lh_bipush rfl lh_b_43 ?_
            refine lh_icmp_eq rfl (fun c6 => ?_) (fun c6 => ?_)
            · have hf := lh_ifT hf c6
              refine lh_iconst rfl lh_k_1 ?_
              refine lh_goto rfl ?_
              exact lh_iret rfl rfl (by decide) (by obtain rfl := Option.some.inj hf; exact hK)
            · have hf := lh_ifF hf c6
              refine lh_iload_n (q := 0) rfl rfl rfl ?_
              refine lh_bipush rfl lh_b_45 ?_
              refine lh_icmp_eq rfl (fun c7 => ?_) (fun c7 => ?_)
              · have hf := lh_ifT hf c7
                refine lh_iconst rfl lh_k_1 ?_
                refine lh_goto rfl ?_
                exact lh_iret rfl rfl (by decide) (by obtain rfl := Option.some.inj hf; exact hK)
              · have hf := lh_ifF hf c7
                refine lh_iload_n (q := 0) rfl rfl rfl ?_
                refine lh_bipush rfl lh_b_42 ?_
                refine lh_icmp_ne rfl (fun c8 => ?_) (fun c8 => ?_)
                · have hf := lh_ifF hf c8
                  refine lh_iconst rfl lh_k_0 ?_
                  exact lh_iret rfl rfl (by decide) (by obtain rfl := Option.some.inj hf; exact hK)
                · have hf := lh_ifT hf c8
                  refine lh_iconst rfl lh_k_1 ?_
                  refine lh_goto rfl ?_
                  exact lh_iret rfl rfl (by decide) (by obtain rfl := Option.some.inj hf; exact hK)
def f_LM_cutAll_86 (v1 : Int32) (v4 : Int32) (I : lh_II) : Nat → Int32 → Int64 → Option (Int32 × Int64)
  | 0, _, _ => none
  | n + 1, v2, v5 => if (I (65 + 4) 3) ≤ v2 then some (v2, v5) else lh_gd (lh_ix v2 1000) (lh_bd (f_LM_isDigit (I (66 + 4) v2.toNatClampNeg)) fun r21 => if r21 = 0 then some (v2, v5) else if 4 ≤ (v2 - v4) then f_LM_cutAll_86 v1 v4 I n (v2 + 1) v5 else lh_gd (lh_ix v2 1000) (f_LM_cutAll_86 v1 v4 I n (v2 + 1) (((10 * v5) + (I (66 + 4) v2.toNatClampNeg).toInt64) - 48)))
def f_LM_cutAll_40 (v1 : Int32) (v4 : Int32) (I : lh_II) : Nat → Int32 → Int64 → Option (Int32 × Int64)
  | 0, _, _ => none
  | n + 1, v2, v5 => if (I (65 + 4) 3) ≤ v2 then some (v2, v5) else lh_gd (lh_ix v2 1000) (lh_bd (f_LM_isLetter (I (66 + 4) v2.toNatClampNeg)) fun r35 => if r35 = 0 then some (v2, v5) else if 8 ≤ (v2 - v4) then f_LM_cutAll_40 v1 v4 I n (v2 + 1) v5 else lh_gd (lh_ix v2 1000) (lh_bd (f_LM_rank (I (66 + 4) v2.toNatClampNeg)) fun r40 => f_LM_cutAll_40 v1 v4 I n (v2 + 1) ((37 * v5) + r40.toInt64)))
def f_LM_cutAll_11 : Nat → Int32 → Int32 → lh_II → lh_LL → Option (Int32 × lh_II × lh_LL)
  | 0, _, _, _, _ => none
  | n + 1, v1, v2, I, L => if (I (65 + 4) 3) ≤ v2 then some (v1, I, L) else lh_gd (lh_ix v2 1000) (if (I (66 + 4) v2.toNatClampNeg) = 10 then f_LM_cutAll_11 n v1 (v2 + 1) I L else if (I (66 + 4) v2.toNatClampNeg) = 32 then f_LM_cutAll_11 n v1 (v2 + 1) I L else lh_gd (lh_ix v1 1002) (lh_bd (f_LM_isLetter (I (66 + 4) v2.toNatClampNeg)) fun r6 => if r6 = 0 then lh_bd (f_LM_isDigit (I (66 + 4) v2.toNatClampNeg)) fun r9 => if r9 = 0 then lh_bd (f_LM_isSignOf (I (66 + 4) v2.toNatClampNeg)) fun r12 => if r12 = 0 then lh_gd (lh_ix v1 1002) (lh_gd (lh_ix v1 1002) (f_LM_cutAll_11 n (v1 + 1) (v2 + 1) (lh_u2 (lh_u2 I (68 + 4) v1.toNatClampNeg v2) (67 + 4) v1.toNatClampNeg 4) (lh_v2 L (69 + 4) v1.toNatClampNeg ((I (66 + 4) v2.toNatClampNeg).toInt64)))) else lh_gd (lh_ix v1 1002) (lh_gd (lh_ix v1 1002) (f_LM_cutAll_11 n (v1 + 1) (v2 + 1) (lh_u2 (lh_u2 I (68 + 4) v1.toNatClampNeg v2) (67 + 4) v1.toNatClampNeg 3) (lh_v2 L (69 + 4) v1.toNatClampNeg ((I (66 + 4) v2.toNatClampNeg).toInt64)))) else lh_bd (f_LM_cutAll_86 v1 v2 (lh_u2 I (68 + 4) v1.toNatClampNeg v2) lh_fuel v2 0) fun r26 => if (r26.1 - v2) ≤ 4 then lh_gd (lh_ix v1 1002) (lh_gd (lh_ix v1 1002) (f_LM_cutAll_11 n (v1 + 1) r26.1 (lh_u2 (lh_u2 I (68 + 4) v1.toNatClampNeg v2) (67 + 4) v1.toNatClampNeg 2) (lh_v2 L (69 + 4) v1.toNatClampNeg r26.2))) else lh_gd (lh_ix v1 1002) (lh_gd (lh_ix v1 1002) (f_LM_cutAll_11 n (v1 + 1) r26.1 (lh_u2 (lh_u2 I (68 + 4) v1.toNatClampNeg v2) (67 + 4) v1.toNatClampNeg 4) (lh_v2 L (69 + 4) v1.toNatClampNeg r26.2))) else lh_bd (f_LM_cutAll_40 v1 v2 (lh_u2 I (68 + 4) v1.toNatClampNeg v2) lh_fuel v2 0) fun r42 => if (r42.1 - v2) ≤ 8 then lh_gd (lh_ix v1 1002) (lh_gd (lh_ix v1 1002) (f_LM_cutAll_11 n (v1 + 1) r42.1 (lh_u2 (lh_u2 I (68 + 4) v1.toNatClampNeg v2) (67 + 4) v1.toNatClampNeg 1) (lh_v2 L (69 + 4) v1.toNatClampNeg r42.2))) else lh_gd (lh_ix v1 1002) (lh_gd (lh_ix v1 1002) (f_LM_cutAll_11 n (v1 + 1) r42.1 (lh_u2 (lh_u2 I (68 + 4) v1.toNatClampNeg v2) (67 + 4) v1.toNatClampNeg 4) (lh_v2 L (69 + 4) v1.toNatClampNeg r42.2)))))
def f_LM_cutAll (I : lh_II) (L : lh_LL) : Option (lh_II × lh_LL) := lh_bd (f_LM_cutAll_11 lh_fuel 0 0 (lh_u2 (lh_u2 I (65 + 4) 3 (I (65 + 4) 2)) (65 + 4) 2 0) L) fun r49 => lh_gd (lh_ix r49.1 1002) (lh_gd (lh_ix r49.1 1002) (some (lh_u2 (lh_u2 (lh_u2 (lh_u2 r49.2.1 (67 + 4) r49.1.toNatClampNeg 0) (68 + 4) r49.1.toNatClampNeg ((lh_u2 r49.2.1 (67 + 4) r49.1.toNatClampNeg 0) (65 + 4) 3)) (65 + 4) 7 0) (65 + 4) 8 0, r49.2.2)))
theorem t_LM_cutAll_86 {Γ : lh_Cx} {F : lh_FF} {S : lh_SS} {Z : List Frame → Array Value → State → State → Prop} (hG : lh_GX Γ) (hS : lh_laym F S)  {v1 : Int32} {v4 : Int32} {I : lh_II} {L : lh_LL} : ∀ (n : Nat) (v2 : Int32) (v5 : Int64) (o : Int32 × Int64), f_LM_cutAll_86 v1 v4 I n v2 v5 = some o → ∀ (x0_ : lh_G Γ m_LM_cutAll (lh_R 2 0 0) Z 0 0 117 [(0, .ref (65 + 4)), (1, .int v1), (2, .int o.1), (4, .int v4), (5, .long o.2)] [] (I, L, F, S)), lh_G Γ m_LM_cutAll (lh_R 2 0 0) Z 0 0 86 [(0, .ref (65 + 4)), (1, .int v1), (2, .int v2), (4, .int v4), (5, .long v5)] [] (I, L, F, S) := by
  intro n
  induction n with
  | zero => intro v2 v5 o hf; cases hf
  | succ n ih =>
    intro v2 v5 o hf x0_
    rw [f_LM_cutAll_86] at hf
    refine lh_iload_n (q := 2) rfl rfl rfl ?_
    refine lh_aload_n (q := 0) rfl rfl rfl ?_
    refine lh_getI4 rfl rfl (hS.1 0 _ rfl) rfl ?_
    refine lh_icmp_ge rfl (fun c19 => ?_) (fun c19 => ?_)
    · have hf := lh_ifT hf c19
      cases hf; exact x0_
    · have hf := lh_ifF hf c19
      refine lh_aload_n (q := 0) rfl rfl rfl ?_
      refine lh_getR4 rfl rfl (hS.1 0 _ rfl) rfl (hS.2 0 _ rfl) ?_
      refine lh_iload_n (q := 2) rfl rfl rfl ?_
      obtain ⟨g20, hf⟩ := lh_gdE hf
      refine lh_iald4 rfl (hS.1 1 _ rfl) g20 ?_
      refine lh_bdE hf (fun r21 e22 hf => ?_)
      refine lh_cSi (N := m_LM_isDigit) (d := 0) (As := [.int (I (66 + 4) v2.toNatClampNeg)]) (st := []) rfl rfl v_LM_isDigit rfl rfl ⟨rfl, rfl⟩ rfl (t_LM_isDigit hG hS e22 ?_)
      refine lh_if_eq rfl (fun c23 => ?_) (fun c23 => ?_)
      · have hf := lh_ifT hf c23
        cases hf; exact x0_
      · have hf := lh_ifF hf c23
        refine lh_iload_n (q := 2) rfl rfl rfl ?_
        refine lh_iload (q := 3) rfl rfl ?_
        refine lh_isub rfl ?_
        refine lh_iconst rfl lh_k_4 ?_
        refine lh_icmp_ge rfl (fun c24 => ?_) (fun c24 => ?_)
        · have hf := lh_ifT hf c24
          refine lh_lload (q := 4) rfl rfl ?_
          refine lh_lstore (lv' := [(0, .ref (65 + 4)), (1, .int v1), (2, .int v2), (4, .int v4), (5, .long v5)]) rfl rfl rfl ?_
          refine lh_iinc (q := 2) (v := (v2 + 1)) (lv' := [(0, .ref (65 + 4)), (1, .int v1), (2, .int (v2 + 1)), (4, .int v4), (5, .long v5)]) rfl rfl (congrArg (v2 + ·) (by decide)) rfl rfl ?_
          refine lh_goto rfl ?_
          exact ih (v2 + 1) v5 _ hf x0_
        · have hf := lh_ifF hf c24
          refine lh_ldc2 rfl rfl ?_
          refine lh_lload (q := 4) rfl rfl ?_
          refine lh_lmul rfl ?_
          refine lh_aload_n (q := 0) rfl rfl rfl ?_
          refine lh_getR4 rfl rfl (hS.1 0 _ rfl) rfl (hS.2 0 _ rfl) ?_
          refine lh_iload_n (q := 2) rfl rfl rfl ?_
          obtain ⟨g25, hf⟩ := lh_gdE hf
          refine lh_iald4 rfl (hS.1 1 _ rfl) g25 ?_
          refine lh_i2l rfl ?_
          refine lh_ladd rfl ?_
          refine lh_ldc2 rfl rfl ?_
          refine lh_lsub rfl ?_
          refine lh_goto rfl ?_
          refine lh_lstore (lv' := [(0, .ref (65 + 4)), (1, .int v1), (2, .int v2), (4, .int v4), (5, .long (((10 * v5) + (I (66 + 4) v2.toNatClampNeg).toInt64) - 48))]) rfl rfl rfl ?_
          refine lh_iinc (q := 2) (v := (v2 + 1)) (lv' := [(0, .ref (65 + 4)), (1, .int v1), (2, .int (v2 + 1)), (4, .int v4), (5, .long (((10 * v5) + (I (66 + 4) v2.toNatClampNeg).toInt64) - 48))]) rfl rfl (congrArg (v2 + ·) (by decide)) rfl rfl ?_
          refine lh_goto rfl ?_
          exact ih (v2 + 1) (((10 * v5) + (I (66 + 4) v2.toNatClampNeg).toInt64) - 48) _ hf x0_
theorem t_LM_cutAll_40 {Γ : lh_Cx} {F : lh_FF} {S : lh_SS} {Z : List Frame → Array Value → State → State → Prop} (hG : lh_GX Γ) (hS : lh_laym F S)  {v1 : Int32} {v4 : Int32} {I : lh_II} {L : lh_LL} : ∀ (n : Nat) (v2 : Int32) (v5 : Int64) (o : Int32 × Int64), f_LM_cutAll_40 v1 v4 I n v2 v5 = some o → ∀ (x0_ : lh_G Γ m_LM_cutAll (lh_R 2 0 0) Z 0 0 70 [(0, .ref (65 + 4)), (1, .int v1), (2, .int o.1), (4, .int v4), (5, .long o.2)] [] (I, L, F, S)), lh_G Γ m_LM_cutAll (lh_R 2 0 0) Z 0 0 40 [(0, .ref (65 + 4)), (1, .int v1), (2, .int v2), (4, .int v4), (5, .long v5)] [] (I, L, F, S) := by
  intro n
  induction n with
  | zero => intro v2 v5 o hf; cases hf
  | succ n ih =>
    intro v2 v5 o hf x0_
    rw [f_LM_cutAll_40] at hf
    refine lh_iload_n (q := 2) rfl rfl rfl ?_
    refine lh_aload_n (q := 0) rfl rfl rfl ?_
    refine lh_getI4 rfl rfl (hS.1 0 _ rfl) rfl ?_
    refine lh_icmp_ge rfl (fun c33 => ?_) (fun c33 => ?_)
    · have hf := lh_ifT hf c33
      cases hf; exact x0_
    · have hf := lh_ifF hf c33
      refine lh_aload_n (q := 0) rfl rfl rfl ?_
      refine lh_getR4 rfl rfl (hS.1 0 _ rfl) rfl (hS.2 0 _ rfl) ?_
      refine lh_iload_n (q := 2) rfl rfl rfl ?_
      obtain ⟨g34, hf⟩ := lh_gdE hf
      refine lh_iald4 rfl (hS.1 1 _ rfl) g34 ?_
      refine lh_bdE hf (fun r35 e36 hf => ?_)
      refine lh_cSi (N := m_LM_isLetter) (d := 0) (As := [.int (I (66 + 4) v2.toNatClampNeg)]) (st := []) rfl rfl v_LM_isLetter rfl rfl ⟨rfl, rfl⟩ rfl (t_LM_isLetter hG hS e36 ?_)
      refine lh_if_eq rfl (fun c37 => ?_) (fun c37 => ?_)
      · have hf := lh_ifT hf c37
        cases hf; exact x0_
      · have hf := lh_ifF hf c37
        refine lh_iload_n (q := 2) rfl rfl rfl ?_
        refine lh_iload (q := 3) rfl rfl ?_
        refine lh_isub rfl ?_
        refine lh_bipush rfl lh_b_8 ?_
        refine lh_icmp_ge rfl (fun c38 => ?_) (fun c38 => ?_)
        · have hf := lh_ifT hf c38
          refine lh_lload (q := 4) rfl rfl ?_
          refine lh_lstore (lv' := [(0, .ref (65 + 4)), (1, .int v1), (2, .int v2), (4, .int v4), (5, .long v5)]) rfl rfl rfl ?_
          refine lh_iinc (q := 2) (v := (v2 + 1)) (lv' := [(0, .ref (65 + 4)), (1, .int v1), (2, .int (v2 + 1)), (4, .int v4), (5, .long v5)]) rfl rfl (congrArg (v2 + ·) (by decide)) rfl rfl ?_
          refine lh_goto rfl ?_
          exact ih (v2 + 1) v5 _ hf x0_
        · have hf := lh_ifF hf c38
          refine lh_ldc2 rfl rfl ?_
          refine lh_lload (q := 4) rfl rfl ?_
          refine lh_lmul rfl ?_
          refine lh_aload_n (q := 0) rfl rfl rfl ?_
          refine lh_getR4 rfl rfl (hS.1 0 _ rfl) rfl (hS.2 0 _ rfl) ?_
          refine lh_iload_n (q := 2) rfl rfl rfl ?_
          obtain ⟨g39, hf⟩ := lh_gdE hf
          refine lh_iald4 rfl (hS.1 1 _ rfl) g39 ?_
          refine lh_bdE hf (fun r40 e41 hf => ?_)
          refine lh_cSi (N := m_LM_rank) (d := 1) (As := [.int (I (66 + 4) v2.toNatClampNeg)]) (st := [.long (37 * v5)]) rfl rfl v_LM_rank rfl rfl ⟨rfl, rfl⟩ rfl (t_LM_rank hG hS e41 ?_)
          refine lh_i2l rfl ?_
          refine lh_ladd rfl ?_
          refine lh_goto rfl ?_
          refine lh_lstore (lv' := [(0, .ref (65 + 4)), (1, .int v1), (2, .int v2), (4, .int v4), (5, .long ((37 * v5) + r40.toInt64))]) rfl rfl rfl ?_
          refine lh_iinc (q := 2) (v := (v2 + 1)) (lv' := [(0, .ref (65 + 4)), (1, .int v1), (2, .int (v2 + 1)), (4, .int v4), (5, .long ((37 * v5) + r40.toInt64))]) rfl rfl (congrArg (v2 + ·) (by decide)) rfl rfl ?_
          refine lh_goto rfl ?_
          exact ih (v2 + 1) ((37 * v5) + r40.toInt64) _ hf x0_
theorem t_LM_cutAll_11 {Γ : lh_Cx} {F : lh_FF} {S : lh_SS} {Z : List Frame → Array Value → State → State → Prop} (hG : lh_GX Γ) (hS : lh_laym F S)   : ∀ (n : Nat) (v1 : Int32) (v2 : Int32) (I : lh_II) (L : lh_LL) (o : Int32 × lh_II × lh_LL), f_LM_cutAll_11 n v1 v2 I L = some o → ∀ (x0_ : lh_G Γ m_LM_cutAll (lh_R 2 0 0) Z 0 0 151 [(0, .ref (65 + 4)), (1, .int o.1)] [] (o.2.1, o.2.2, F, S)), lh_G Γ m_LM_cutAll (lh_R 2 0 0) Z 0 0 11 [(0, .ref (65 + 4)), (1, .int v1), (2, .int v2)] [] (I, L, F, S) := by
  intro n
  induction n with
  | zero => intro v1 v2 I L o hf; cases hf
  | succ n ih =>
    intro v1 v2 I L o hf x0_
    rw [f_LM_cutAll_11] at hf
    refine lh_iload_n (q := 2) rfl rfl rfl ?_
    refine lh_aload_n (q := 0) rfl rfl rfl ?_
    refine lh_getI4 rfl rfl (hS.1 0 _ rfl) rfl ?_
    refine lh_icmp_ge rfl (fun c1 => ?_) (fun c1 => ?_)
    · have hf := lh_ifT hf c1
      exact lh_less [0, 1] rfl (by cases hf; exact x0_)
    · have hf := lh_ifF hf c1
      refine lh_aload_n (q := 0) rfl rfl rfl ?_
      refine lh_getR4 rfl rfl (hS.1 0 _ rfl) rfl (hS.2 0 _ rfl) ?_
      refine lh_iload_n (q := 2) rfl rfl rfl ?_
      obtain ⟨g2, hf⟩ := lh_gdE hf
      refine lh_iald4 rfl (hS.1 1 _ rfl) g2 ?_
      refine lh_istore_n (lv' := [(0, .ref (65 + 4)), (1, .int v1), (2, .int v2), (3, .int (I (66 + 4) v2.toNatClampNeg))]) rfl rfl rfl rfl ?_
      refine lh_iload_n (q := 3) rfl rfl rfl ?_
      refine lh_bipush rfl lh_b_10 ?_
      refine lh_icmp_eq rfl (fun c3 => ?_) (fun c3 => ?_)
      · have hf := lh_ifT hf c3
        refine lh_iinc (q := 2) (v := (v2 + 1)) (lv' := [(0, .ref (65 + 4)), (1, .int v1), (2, .int (v2 + 1)), (3, .int (I (66 + 4) v2.toNatClampNeg))]) rfl rfl (congrArg (v2 + ·) (by decide)) rfl rfl ?_
        refine lh_goto rfl ?_
        refine lh_less [0, 1, 2] rfl ?_
        exact ih v1 (v2 + 1) I L _ hf x0_
      · have hf := lh_ifF hf c3
        refine lh_iload_n (q := 3) rfl rfl rfl ?_
        refine lh_bipush rfl lh_b_32 ?_
        refine lh_icmp_ne rfl (fun c4 => ?_) (fun c4 => ?_)
        · have hf := lh_ifF hf c4
          refine lh_iload_n (q := 2) rfl rfl rfl ?_
          refine lh_istore (lv' := [(0, .ref (65 + 4)), (1, .int v1), (2, .int v2), (3, .int (I (66 + 4) v2.toNatClampNeg)), (4, .int v2)]) rfl rfl rfl ?_
          refine lh_lconst (v := 0) rfl (by decide) ?_
          refine lh_lstore (lv' := [(0, .ref (65 + 4)), (1, .int v1), (2, .int v2), (3, .int (I (66 + 4) v2.toNatClampNeg)), (4, .int v2), (5, .long 0)]) rfl rfl rfl ?_
          refine lh_aload_n (q := 0) rfl rfl rfl ?_
          refine lh_getR4 rfl rfl (hS.1 0 _ rfl) rfl (hS.2 2 _ rfl) ?_
          refine lh_iload_n (q := 1) rfl rfl rfl ?_
          refine lh_iload_n (q := 2) rfl rfl rfl ?_
          obtain ⟨g5, hf⟩ := lh_gdE hf
          refine lh_iast4 rfl (hS.1 3 _ rfl) g5 ?_
          refine lh_iload_n (q := 3) rfl rfl rfl ?_
          refine lh_bdE hf (fun r6 e7 hf => ?_)
          refine lh_cSi (N := m_LM_isLetter) (d := 0) (As := [.int (I (66 + 4) v2.toNatClampNeg)]) (st := []) rfl rfl v_LM_isLetter rfl rfl ⟨rfl, rfl⟩ rfl (t_LM_isLetter hG hS e7 ?_)
          refine lh_if_eq rfl (fun c8 => ?_) (fun c8 => ?_)
          · have hf := lh_ifT hf c8
            refine lh_iload_n (q := 3) rfl rfl rfl ?_
            refine lh_bdE hf (fun r9 e10 hf => ?_)
            refine lh_cSi (N := m_LM_isDigit) (d := 0) (As := [.int (I (66 + 4) v2.toNatClampNeg)]) (st := []) rfl rfl v_LM_isDigit rfl rfl ⟨rfl, rfl⟩ rfl (t_LM_isDigit hG hS e10 ?_)
            refine lh_if_eq rfl (fun c11 => ?_) (fun c11 => ?_)
            · have hf := lh_ifT hf c11
              refine lh_iload_n (q := 3) rfl rfl rfl ?_
              refine lh_i2l rfl ?_
              refine lh_lstore (lv' := [(0, .ref (65 + 4)), (1, .int v1), (2, .int v2), (3, .int (I (66 + 4) v2.toNatClampNeg)), (4, .int v2), (5, .long ((I (66 + 4) v2.toNatClampNeg).toInt64))]) rfl rfl rfl ?_
              refine lh_aload_n (q := 0) rfl rfl rfl ?_
              refine lh_getR4 rfl rfl (hS.1 0 _ rfl) rfl (hS.2 1 _ rfl) ?_
              refine lh_iload_n (q := 1) rfl rfl rfl ?_
              refine lh_iload_n (q := 3) rfl rfl rfl ?_
              refine lh_bdE hf (fun r12 e13 hf => ?_)
              refine lh_cSi (N := m_LM_isSignOf) (d := 0) (As := [.int (I (66 + 4) v2.toNatClampNeg)]) (st := [.int v1, .ref (67 + 4)]) rfl rfl v_LM_isSignOf rfl rfl ⟨rfl, rfl⟩ rfl (t_LM_isSignOf hG hS e13 ?_)
              refine lh_if_eq rfl (fun c14 => ?_) (fun c14 => ?_)
              · have hf := lh_ifT hf c14
                refine lh_iconst rfl lh_k_4 ?_
                obtain ⟨g15, hf⟩ := lh_gdE hf
                refine lh_iast4 rfl (hS.1 2 _ rfl) g15 ?_
                refine lh_iinc (q := 2) (v := (v2 + 1)) (lv' := [(0, .ref (65 + 4)), (1, .int v1), (2, .int (v2 + 1)), (3, .int (I (66 + 4) v2.toNatClampNeg)), (4, .int v2), (5, .long ((I (66 + 4) v2.toNatClampNeg).toInt64))]) rfl rfl (congrArg (v2 + ·) (by decide)) rfl rfl ?_
                refine lh_aload_n (q := 0) rfl rfl rfl ?_
                refine lh_getR4 rfl rfl (hS.1 0 _ rfl) rfl (hS.2 3 _ rfl) ?_
                refine lh_iload_n (q := 1) rfl rfl rfl ?_
                refine lh_lload (q := 5) rfl rfl ?_
                obtain ⟨g16, hf⟩ := lh_gdE hf
                refine lh_last4 rfl (hS.1 4 _ rfl) g16 ?_
                refine lh_iinc (q := 1) (v := (v1 + 1)) (lv' := [(0, .ref (65 + 4)), (1, .int (v1 + 1)), (2, .int (v2 + 1)), (3, .int (I (66 + 4) v2.toNatClampNeg)), (4, .int v2), (5, .long ((I (66 + 4) v2.toNatClampNeg).toInt64))]) rfl rfl (congrArg (v1 + ·) (by decide)) rfl rfl ?_
                refine lh_goto rfl ?_
                refine lh_less [0, 1, 2] rfl ?_
                exact ih (v1 + 1) (v2 + 1) (lh_u2 (lh_u2 I (68 + 4) v1.toNatClampNeg v2) (67 + 4) v1.toNatClampNeg 4) (lh_v2 L (69 + 4) v1.toNatClampNeg ((I (66 + 4) v2.toNatClampNeg).toInt64)) _ hf x0_
              · have hf := lh_ifF hf c14
                refine lh_iconst rfl lh_k_3 ?_
                refine lh_goto rfl ?_
                obtain ⟨g17, hf⟩ := lh_gdE hf
                refine lh_iast4 rfl (hS.1 2 _ rfl) g17 ?_
                refine lh_iinc (q := 2) (v := (v2 + 1)) (lv' := [(0, .ref (65 + 4)), (1, .int v1), (2, .int (v2 + 1)), (3, .int (I (66 + 4) v2.toNatClampNeg)), (4, .int v2), (5, .long ((I (66 + 4) v2.toNatClampNeg).toInt64))]) rfl rfl (congrArg (v2 + ·) (by decide)) rfl rfl ?_
                refine lh_aload_n (q := 0) rfl rfl rfl ?_
                refine lh_getR4 rfl rfl (hS.1 0 _ rfl) rfl (hS.2 3 _ rfl) ?_
                refine lh_iload_n (q := 1) rfl rfl rfl ?_
                refine lh_lload (q := 5) rfl rfl ?_
                obtain ⟨g18, hf⟩ := lh_gdE hf
                refine lh_last4 rfl (hS.1 4 _ rfl) g18 ?_
                refine lh_iinc (q := 1) (v := (v1 + 1)) (lv' := [(0, .ref (65 + 4)), (1, .int (v1 + 1)), (2, .int (v2 + 1)), (3, .int (I (66 + 4) v2.toNatClampNeg)), (4, .int v2), (5, .long ((I (66 + 4) v2.toNatClampNeg).toInt64))]) rfl rfl (congrArg (v1 + ·) (by decide)) rfl rfl ?_
                refine lh_goto rfl ?_
                refine lh_less [0, 1, 2] rfl ?_
                exact ih (v1 + 1) (v2 + 1) (lh_u2 (lh_u2 I (68 + 4) v1.toNatClampNeg v2) (67 + 4) v1.toNatClampNeg 3) (lh_v2 L (69 + 4) v1.toNatClampNeg ((I (66 + 4) v2.toNatClampNeg).toInt64)) _ hf x0_
            · have hf := lh_ifF hf c11
              refine lh_bdE hf (fun r26 e27 hf => ?_)
              refine lh_less [0, 1, 2, 4, 5] rfl ?_
              refine t_LM_cutAll_86 hG hS  _ v2 0 _ e27 ?_
              refine lh_aload_n (q := 0) rfl rfl rfl ?_
              refine lh_getR4 rfl rfl (hS.1 0 _ rfl) rfl (hS.2 1 _ rfl) ?_
              refine lh_iload_n (q := 1) rfl rfl rfl ?_
              refine lh_iload_n (q := 2) rfl rfl rfl ?_
              refine lh_iload (q := 3) rfl rfl ?_
              refine lh_isub rfl ?_
              refine lh_iconst rfl lh_k_4 ?_
              refine lh_icmp_le rfl (fun c28 => ?_) (fun c28 => ?_)
              · have hf := lh_ifT hf c28
                refine lh_iconst rfl lh_k_2 ?_
                obtain ⟨g29, hf⟩ := lh_gdE hf
                refine lh_iast4 rfl (hS.1 2 _ rfl) g29 ?_
                refine lh_goto rfl ?_
                refine lh_aload_n (q := 0) rfl rfl rfl ?_
                refine lh_getR4 rfl rfl (hS.1 0 _ rfl) rfl (hS.2 3 _ rfl) ?_
                refine lh_iload_n (q := 1) rfl rfl rfl ?_
                refine lh_lload (q := 4) rfl rfl ?_
                obtain ⟨g30, hf⟩ := lh_gdE hf
                refine lh_last4 rfl (hS.1 4 _ rfl) g30 ?_
                refine lh_iinc (q := 1) (v := (v1 + 1)) (lv' := [(0, .ref (65 + 4)), (1, .int (v1 + 1)), (2, .int r26.1), (4, .int v2), (5, .long r26.2)]) rfl rfl (congrArg (v1 + ·) (by decide)) rfl rfl ?_
                refine lh_goto rfl ?_
                refine lh_less [0, 1, 2] rfl ?_
                exact ih (v1 + 1) r26.1 (lh_u2 (lh_u2 I (68 + 4) v1.toNatClampNeg v2) (67 + 4) v1.toNatClampNeg 2) (lh_v2 L (69 + 4) v1.toNatClampNeg r26.2) _ hf x0_
              · have hf := lh_ifF hf c28
                refine lh_iconst rfl lh_k_4 ?_
                refine lh_goto rfl ?_
                obtain ⟨g31, hf⟩ := lh_gdE hf
                refine lh_iast4 rfl (hS.1 2 _ rfl) g31 ?_
                refine lh_goto rfl ?_
                refine lh_aload_n (q := 0) rfl rfl rfl ?_
                refine lh_getR4 rfl rfl (hS.1 0 _ rfl) rfl (hS.2 3 _ rfl) ?_
                refine lh_iload_n (q := 1) rfl rfl rfl ?_
                refine lh_lload (q := 4) rfl rfl ?_
                obtain ⟨g32, hf⟩ := lh_gdE hf
                refine lh_last4 rfl (hS.1 4 _ rfl) g32 ?_
                refine lh_iinc (q := 1) (v := (v1 + 1)) (lv' := [(0, .ref (65 + 4)), (1, .int (v1 + 1)), (2, .int r26.1), (4, .int v2), (5, .long r26.2)]) rfl rfl (congrArg (v1 + ·) (by decide)) rfl rfl ?_
                refine lh_goto rfl ?_
                refine lh_less [0, 1, 2] rfl ?_
                exact ih (v1 + 1) r26.1 (lh_u2 (lh_u2 I (68 + 4) v1.toNatClampNeg v2) (67 + 4) v1.toNatClampNeg 4) (lh_v2 L (69 + 4) v1.toNatClampNeg r26.2) _ hf x0_
          · have hf := lh_ifF hf c8
            refine lh_bdE hf (fun r42 e43 hf => ?_)
            refine lh_less [0, 1, 2, 4, 5] rfl ?_
            refine t_LM_cutAll_40 hG hS  _ v2 0 _ e43 ?_
            refine lh_aload_n (q := 0) rfl rfl rfl ?_
            refine lh_getR4 rfl rfl (hS.1 0 _ rfl) rfl (hS.2 1 _ rfl) ?_
            refine lh_iload_n (q := 1) rfl rfl rfl ?_
            refine lh_iload_n (q := 2) rfl rfl rfl ?_
            refine lh_iload (q := 3) rfl rfl ?_
            refine lh_isub rfl ?_
            refine lh_bipush rfl lh_b_8 ?_
            refine lh_icmp_le rfl (fun c44 => ?_) (fun c44 => ?_)
            · have hf := lh_ifT hf c44
              refine lh_iconst rfl lh_k_1 ?_
              obtain ⟨g45, hf⟩ := lh_gdE hf
              refine lh_iast4 rfl (hS.1 2 _ rfl) g45 ?_
              refine lh_goto rfl ?_
              refine lh_aload_n (q := 0) rfl rfl rfl ?_
              refine lh_getR4 rfl rfl (hS.1 0 _ rfl) rfl (hS.2 3 _ rfl) ?_
              refine lh_iload_n (q := 1) rfl rfl rfl ?_
              refine lh_lload (q := 4) rfl rfl ?_
              obtain ⟨g46, hf⟩ := lh_gdE hf
              refine lh_last4 rfl (hS.1 4 _ rfl) g46 ?_
              refine lh_iinc (q := 1) (v := (v1 + 1)) (lv' := [(0, .ref (65 + 4)), (1, .int (v1 + 1)), (2, .int r42.1), (4, .int v2), (5, .long r42.2)]) rfl rfl (congrArg (v1 + ·) (by decide)) rfl rfl ?_
              refine lh_goto rfl ?_
              refine lh_less [0, 1, 2] rfl ?_
              exact ih (v1 + 1) r42.1 (lh_u2 (lh_u2 I (68 + 4) v1.toNatClampNeg v2) (67 + 4) v1.toNatClampNeg 1) (lh_v2 L (69 + 4) v1.toNatClampNeg r42.2) _ hf x0_
            · have hf := lh_ifF hf c44
              refine lh_iconst rfl lh_k_4 ?_
              refine lh_goto rfl ?_
              obtain ⟨g47, hf⟩ := lh_gdE hf
              refine lh_iast4 rfl (hS.1 2 _ rfl) g47 ?_
              refine lh_goto rfl ?_
              refine lh_aload_n (q := 0) rfl rfl rfl ?_
              refine lh_getR4 rfl rfl (hS.1 0 _ rfl) rfl (hS.2 3 _ rfl) ?_
              refine lh_iload_n (q := 1) rfl rfl rfl ?_
              refine lh_lload (q := 4) rfl rfl ?_
              obtain ⟨g48, hf⟩ := lh_gdE hf
              refine lh_last4 rfl (hS.1 4 _ rfl) g48 ?_
              refine lh_iinc (q := 1) (v := (v1 + 1)) (lv' := [(0, .ref (65 + 4)), (1, .int (v1 + 1)), (2, .int r42.1), (4, .int v2), (5, .long r42.2)]) rfl rfl (congrArg (v1 + ·) (by decide)) rfl rfl ?_
              refine lh_goto rfl ?_
              refine lh_less [0, 1, 2] rfl ?_
              exact ih (v1 + 1) r42.1 (lh_u2 (lh_u2 I (68 + 4) v1.toNatClampNeg v2) (67 + 4) v1.toNatClampNeg 4) (lh_v2 L (69 + 4) v1.toNatClampNeg r42.2) _ hf x0_
        · have hf := lh_ifT hf c4
          refine lh_iinc (q := 2) (v := (v2 + 1)) (lv' := [(0, .ref (65 + 4)), (1, .int v1), (2, .int (v2 + 1)), (3, .int (I (66 + 4) v2.toNatClampNeg))]) rfl rfl (congrArg (v2 + ·) (by decide)) rfl rfl ?_
          refine lh_goto rfl ?_
          refine lh_less [0, 1, 2] rfl ?_
          exact ih v1 (v2 + 1) I L _ hf x0_
theorem t_LM_cutAll {Γ : lh_Cx} {I : lh_II} {L : lh_LL} {F : lh_FF} {S : lh_SS} {K : lh_Hp → Prop} {r : lh_II × lh_LL} (hG : lh_GX Γ) (hS : lh_laym F S)  (hf : f_LM_cutAll I L = some r) (hK : K (r.1, r.2, F, S)) : lh_Met Γ m_LM_cutAll 2 0 0 [.ref (65 + 4)] (I, L, F, S) (lh_kv K) := by
  rw [f_LM_cutAll] at hf
  refine lh_ofG k_LM_cutAll [(0, .ref (65 + 4))] rfl (Nat.le_of_ble_eq_true rfl) rfl ?_
  refine lh_aload_n (q := 0) rfl rfl rfl ?_
  refine lh_aload_n (q := 0) rfl rfl rfl ?_
  refine lh_getI4 rfl rfl (hS.1 0 _ rfl) rfl ?_
  refine lh_putI4 rfl rfl (hS.1 0 _ rfl) rfl rfl ?_
  refine lh_aload_n (q := 0) rfl rfl rfl ?_
  refine lh_iconst rfl lh_k_0 ?_
  refine lh_putI4 rfl rfl (hS.1 0 _ rfl) rfl rfl ?_
  refine lh_iconst rfl lh_k_0 ?_
  refine lh_istore_n (lv' := [(0, .ref (65 + 4)), (1, .int 0)]) rfl rfl rfl rfl ?_
  refine lh_iconst rfl lh_k_0 ?_
  refine lh_istore_n (lv' := [(0, .ref (65 + 4)), (1, .int 0), (2, .int 0)]) rfl rfl rfl rfl ?_
  refine lh_bdE hf (fun r49 e50 hf => ?_)
  refine t_LM_cutAll_11 hG hS  _ 0 0 (lh_u2 (lh_u2 I (65 + 4) 3 (I (65 + 4) 2)) (65 + 4) 2 0) L _ e50 ?_
  refine lh_aload_n (q := 0) rfl rfl rfl ?_
  refine lh_getR4 rfl rfl (hS.1 0 _ rfl) rfl (hS.2 1 _ rfl) ?_
  refine lh_iload_n (q := 1) rfl rfl rfl ?_
  refine lh_iconst rfl lh_k_0 ?_
  obtain ⟨g51, hf⟩ := lh_gdE hf
  refine lh_iast4 rfl (hS.1 2 _ rfl) g51 ?_
  refine lh_aload_n (q := 0) rfl rfl rfl ?_
  refine lh_getR4 rfl rfl (hS.1 0 _ rfl) rfl (hS.2 2 _ rfl) ?_
  refine lh_iload_n (q := 1) rfl rfl rfl ?_
  refine lh_aload_n (q := 0) rfl rfl rfl ?_
  refine lh_getI4 rfl rfl (hS.1 0 _ rfl) rfl ?_
  obtain ⟨g52, hf⟩ := lh_gdE hf
  refine lh_iast4 rfl (hS.1 3 _ rfl) g52 ?_
  refine lh_aload_n (q := 0) rfl rfl rfl ?_
  refine lh_iconst rfl lh_k_0 ?_
  refine lh_putI4 rfl rfl (hS.1 0 _ rfl) rfl rfl ?_
  refine lh_aload_n (q := 0) rfl rfl rfl ?_
  refine lh_iconst rfl lh_k_0 ?_
  refine lh_putI4 rfl rfl (hS.1 0 _ rfl) rfl rfl ?_
  exact lh_vret rfl rfl (by obtain rfl := Option.some.inj hf; exact hK)
def f_LM_days (I : lh_II) : Option (Int32 × lh_II) := lh_bd (f_LM_daysNow (lh_u2 I (65 + 4) 0 0)) fun r1 => some (r1, lh_u2 I (65 + 4) 0 0)
theorem t_LM_days {Γ : lh_Cx} {I : lh_II} {L : lh_LL} {F : lh_FF} {S : lh_SS} {K : Int32 → lh_Hp → Prop} {r : Int32 × lh_II} (hG : lh_GX Γ) (hS : lh_laym F S)  (hf : f_LM_days I = some r) (hK : K r.1 (r.2, L, F, S)) : lh_Met Γ m_LM_days 4 0 0 [.ref (65 + 4)] (I, L, F, S) (lh_ki K) := by
  rw [f_LM_days] at hf
  refine lh_ofG k_LM_days [(0, .ref (65 + 4))] rfl (Nat.le_of_ble_eq_true rfl) rfl ?_
  refine lh_aload_n (q := 0) rfl rfl rfl ?_
  refine lh_iconst rfl lh_k_0 ?_
  refine lh_putI4 rfl rfl (hS.1 0 _ rfl) rfl rfl ?_
  refine lh_aload_n (q := 0) rfl rfl rfl ?_
  refine lh_bdE hf (fun r1 e2 hf => ?_)
  refine lh_cVi (N := m_LM_daysNow) (d := 3) (o := 65) (As := []) (st := []) rfl rfl v_LM_daysNow (hS.1 0 _ rfl) rfl rfl rfl ⟨rfl, rfl⟩ rfl (t_LM_daysNow hG hS e2 ?_)
  exact lh_iret rfl rfl rfl (by obtain rfl := Option.some.inj hf; exact hK)
def f_LM_draw (x1 : Int32) (L : lh_LL) : Option (Int32 × lh_LL) := lh_gd (!decide (x1.toInt64 = 0)) (some (((((lh_v2 L (65 + 4) 24 ((((L (65 + 4) 24) * 1103515245) + 12345) - (((L (65 + 4) 24) * 1103515245) + 12345) / 2147483648 * 2147483648)) (65 + 4) 24) / 65536) - (((lh_v2 L (65 + 4) 24 ((((L (65 + 4) 24) * 1103515245) + 12345) - (((L (65 + 4) 24) * 1103515245) + 12345) / 2147483648 * 2147483648)) (65 + 4) 24) / 65536) / x1.toInt64 * x1.toInt64).toInt32, lh_v2 L (65 + 4) 24 ((((L (65 + 4) 24) * 1103515245) + 12345) - (((L (65 + 4) 24) * 1103515245) + 12345) / 2147483648 * 2147483648)))
theorem t_LM_draw {Γ : lh_Cx} {I : lh_II} {L : lh_LL} {F : lh_FF} {S : lh_SS} {K : Int32 → lh_Hp → Prop} {r : Int32 × lh_LL} (hG : lh_GX Γ) (hS : lh_laym F S)  {x1 : Int32} (hf : f_LM_draw x1 L = some r) (hK : K r.1 (I, r.2, F, S)) : lh_Met Γ m_LM_draw 0 0 0 [.ref (65 + 4), .int x1] (I, L, F, S) (lh_ki K) := by
  rw [f_LM_draw] at hf
  refine lh_ofG k_LM_draw [(0, .ref (65 + 4)), (1, .int x1)] rfl (Nat.le_of_ble_eq_true rfl) rfl ?_
  refine lh_aload_n (q := 0) rfl rfl rfl ?_
  refine lh_aload_n (q := 0) rfl rfl rfl ?_
  refine lh_getJ4 rfl rfl (hS.1 0 _ rfl) rfl ?_
  refine lh_ldc2 rfl rfl ?_
  refine lh_lmul rfl ?_
  refine lh_ldc2 rfl rfl ?_
  refine lh_ladd rfl ?_
  refine lh_ldc2 rfl rfl ?_
  refine lh_lrem rfl (by decide) ?_
  refine lh_putJ4 rfl rfl (hS.1 0 _ rfl) rfl rfl ?_
  refine lh_aload_n (q := 0) rfl rfl rfl ?_
  refine lh_getJ4 rfl rfl (hS.1 0 _ rfl) rfl ?_
  refine lh_ldc2 rfl rfl ?_
  refine lh_ldiv rfl (by decide) ?_
  refine lh_iload_n (q := 1) rfl rfl rfl ?_
  refine lh_i2l rfl ?_
  obtain ⟨g1, hf⟩ := lh_gdE hf
  refine lh_lrem rfl (by simpa using g1) ?_
  refine lh_l2i rfl ?_
  exact lh_iret rfl rfl rfl (by obtain rfl := Option.some.inj hf; exact hK)
def f_LM_emit (x1 : Int32) (x2 : Int32) (I : lh_II) : Option (lh_II) := lh_gd (lh_ix (1100 + (I (65 + 4) 13)) 2200) (lh_gd (lh_ix (1100 + ((lh_u2 I (72 + 4) (1100 + (I (65 + 4) 13)).toNatClampNeg x1) (65 + 4) 13)) 2200) (some (lh_u2 (lh_u2 (lh_u2 I (72 + 4) (1100 + (I (65 + 4) 13)).toNatClampNeg x1) (73 + 4) (1100 + ((lh_u2 I (72 + 4) (1100 + (I (65 + 4) 13)).toNatClampNeg x1) (65 + 4) 13)).toNatClampNeg x2) (65 + 4) 13 (((lh_u2 (lh_u2 I (72 + 4) (1100 + (I (65 + 4) 13)).toNatClampNeg x1) (73 + 4) (1100 + ((lh_u2 I (72 + 4) (1100 + (I (65 + 4) 13)).toNatClampNeg x1) (65 + 4) 13)).toNatClampNeg x2) (65 + 4) 13) + 1))))
theorem t_LM_emit {Γ : lh_Cx} {I : lh_II} {L : lh_LL} {F : lh_FF} {S : lh_SS} {K : lh_Hp → Prop} {r : lh_II} (hG : lh_GX Γ) (hS : lh_laym F S)  {x1 : Int32} {x2 : Int32} (hf : f_LM_emit x1 x2 I = some r) (hK : K (r, L, F, S)) : lh_Met Γ m_LM_emit 0 0 0 [.ref (65 + 4), .int x1, .int x2] (I, L, F, S) (lh_kv K) := by
  rw [f_LM_emit] at hf
  refine lh_ofG k_LM_emit [(0, .ref (65 + 4)), (1, .int x1), (2, .int x2)] rfl (Nat.le_of_ble_eq_true rfl) rfl ?_
  refine lh_aload_n (q := 0) rfl rfl rfl ?_
  refine lh_getR4 rfl rfl (hS.1 0 _ rfl) rfl (hS.2 6 _ rfl) ?_
  refine lh_sipush rfl lh_s_1100 ?_
  refine lh_aload_n (q := 0) rfl rfl rfl ?_
  refine lh_getI4 rfl rfl (hS.1 0 _ rfl) rfl ?_
  refine lh_iadd rfl ?_
  refine lh_iload_n (q := 1) rfl rfl rfl ?_
  obtain ⟨g1, hf⟩ := lh_gdE hf
  refine lh_iast4 rfl (hS.1 7 _ rfl) g1 ?_
  refine lh_aload_n (q := 0) rfl rfl rfl ?_
  refine lh_getR4 rfl rfl (hS.1 0 _ rfl) rfl (hS.2 7 _ rfl) ?_
  refine lh_sipush rfl lh_s_1100 ?_
  refine lh_aload_n (q := 0) rfl rfl rfl ?_
  refine lh_getI4 rfl rfl (hS.1 0 _ rfl) rfl ?_
  refine lh_iadd rfl ?_
  refine lh_iload_n (q := 2) rfl rfl rfl ?_
  obtain ⟨g2, hf⟩ := lh_gdE hf
  refine lh_iast4 rfl (hS.1 8 _ rfl) g2 ?_
  refine lh_aload_n (q := 0) rfl rfl rfl ?_
  refine lh_dup rfl rfl ?_
  refine lh_getI4 rfl rfl (hS.1 0 _ rfl) rfl ?_
  refine lh_iconst rfl lh_k_1 ?_
  refine lh_iadd rfl ?_
  refine lh_putI4 rfl rfl (hS.1 0 _ rfl) rfl rfl ?_
  exact lh_vret rfl rfl (by obtain rfl := Option.some.inj hf; exact hK)
def f_LM_exposed_21 (v1 : Int32) (v2 : Int32) (I : lh_II) : Nat → Int32 → Int32 → Option (Int32)
  | 0, _, _ => none
  | n + 1, v3, v4 => if 8 ≤ v4 then some v3 else lh_bd (f_LM_cellOf v1 v4 I) fun r7 => if r7 < 0 then f_LM_exposed_21 v1 v2 I n (v3 ||| 0) (v4 + 1) else if ((v2 >>> (r7 &&& 31)) &&& 1) = 1 then f_LM_exposed_21 v1 v2 I n (v3 ||| ((1 : Int32) <<< (v4 &&& 31))) (v4 + 1) else f_LM_exposed_21 v1 v2 I n (v3 ||| 0) (v4 + 1)
def f_LM_exposed (x1 : Int32) (I : lh_II) : Option (Int32 × lh_II) := lh_bd (f_LM_isVisitor x1 (lh_u2 I (65 + 4) 0 0)) fun r1 => if r1 = 0 then some ((-1), lh_u2 I (65 + 4) 0 0) else lh_bd (f_LM_litFrom ((lh_u2 I (65 + 4) 0 0) (78 + 4) 5) ((-1) : Int32) (lh_u2 I (65 + 4) 0 0)) fun r4 => lh_bd (f_LM_exposed_21 x1 r4 (lh_u2 I (65 + 4) 0 0) lh_fuel 0 0) fun r11 => some (r11, lh_u2 I (65 + 4) 0 0)
theorem t_LM_exposed_21 {Γ : lh_Cx} {F : lh_FF} {S : lh_SS} {Z : List Frame → Array Value → State → State → Prop} (hG : lh_GX Γ) (hS : lh_laym F S)  {v1 : Int32} {v2 : Int32} {I : lh_II} {L : lh_LL} : ∀ (n : Nat) (v3 : Int32) (v4 : Int32) (o : Int32), f_LM_exposed_21 v1 v2 I n v3 v4 = some o → ∀ (x0_ : lh_G Γ m_LM_exposed (lh_R 3 0 0) Z 0 0 48 [(3, .int o)] [] (I, L, F, S)), lh_G Γ m_LM_exposed (lh_R 3 0 0) Z 0 0 21 [(0, .ref (65 + 4)), (1, .int v1), (2, .int v2), (3, .int v3), (4, .int v4)] [] (I, L, F, S) := by
  intro n
  induction n with
  | zero => intro v3 v4 o hf; cases hf
  | succ n ih =>
    intro v3 v4 o hf x0_
    rw [f_LM_exposed_21] at hf
    refine lh_iload (q := 4) rfl rfl ?_
    refine lh_bipush rfl lh_b_8 ?_
    refine lh_icmp_ge rfl (fun c6 => ?_) (fun c6 => ?_)
    · have hf := lh_ifT hf c6
      exact lh_less [3] rfl (by cases hf; exact x0_)
    · have hf := lh_ifF hf c6
      refine lh_aload_n (q := 0) rfl rfl rfl ?_
      refine lh_iload_n (q := 1) rfl rfl rfl ?_
      refine lh_iload (q := 4) rfl rfl ?_
      refine lh_bdE hf (fun r7 e8 hf => ?_)
      refine lh_cVi (N := m_LM_cellOf) (d := 1) (o := 65) (As := [.int v1, .int v4]) (st := []) rfl rfl v_LM_cellOf (hS.1 0 _ rfl) rfl rfl rfl ⟨rfl, rfl⟩ rfl (t_LM_cellOf hG hS e8 ?_)
      refine lh_istore (lv' := [(0, .ref (65 + 4)), (1, .int v1), (2, .int v2), (3, .int v3), (4, .int v4), (5, .int r7)]) rfl rfl rfl ?_
      refine lh_iload_n (q := 3) rfl rfl rfl ?_
      refine lh_iload (q := 5) rfl rfl ?_
      refine lh_if_lt rfl (fun c9 => ?_) (fun c9 => ?_)
      · have hf := lh_ifT hf c9
        refine lh_iconst rfl lh_k_0 ?_
        refine lh_ior rfl ?_
        refine lh_istore_n (lv' := [(0, .ref (65 + 4)), (1, .int v1), (2, .int v2), (3, .int (v3 ||| 0)), (4, .int v4), (5, .int r7)]) rfl rfl rfl rfl ?_
        refine lh_iinc (q := 4) (v := (v4 + 1)) (lv' := [(0, .ref (65 + 4)), (1, .int v1), (2, .int v2), (3, .int (v3 ||| 0)), (4, .int (v4 + 1)), (5, .int r7)]) rfl rfl (congrArg (v4 + ·) (by decide)) rfl rfl ?_
        refine lh_goto rfl ?_
        refine lh_less [0, 1, 2, 3, 4] rfl ?_
        exact ih (v3 ||| 0) (v4 + 1) _ hf x0_
      · have hf := lh_ifF hf c9
        refine lh_iload_n (q := 2) rfl rfl rfl ?_
        refine lh_iload (q := 5) rfl rfl ?_
        refine lh_ishr rfl ?_
        refine lh_iconst rfl lh_k_1 ?_
        refine lh_iand rfl ?_
        refine lh_iconst rfl lh_k_1 ?_
        refine lh_icmp_ne rfl (fun c10 => ?_) (fun c10 => ?_)
        · have hf := lh_ifF hf c10
          refine lh_iconst rfl lh_k_0 ?_
          refine lh_ior rfl ?_
          refine lh_istore_n (lv' := [(0, .ref (65 + 4)), (1, .int v1), (2, .int v2), (3, .int (v3 ||| 0)), (4, .int v4), (5, .int r7)]) rfl rfl rfl rfl ?_
          refine lh_iinc (q := 4) (v := (v4 + 1)) (lv' := [(0, .ref (65 + 4)), (1, .int v1), (2, .int v2), (3, .int (v3 ||| 0)), (4, .int (v4 + 1)), (5, .int r7)]) rfl rfl (congrArg (v4 + ·) (by decide)) rfl rfl ?_
          refine lh_goto rfl ?_
          refine lh_less [0, 1, 2, 3, 4] rfl ?_
          exact ih (v3 ||| 0) (v4 + 1) _ hf x0_
        · have hf := lh_ifT hf c10
          refine lh_iconst rfl lh_k_1 ?_
          refine lh_iload (q := 4) rfl rfl ?_
          refine lh_ishl rfl ?_
          refine lh_goto rfl ?_
          refine lh_ior rfl ?_
          refine lh_istore_n (lv' := [(0, .ref (65 + 4)), (1, .int v1), (2, .int v2), (3, .int (v3 ||| ((1 : Int32) <<< (v4 &&& 31)))), (4, .int v4), (5, .int r7)]) rfl rfl rfl rfl ?_
          refine lh_iinc (q := 4) (v := (v4 + 1)) (lv' := [(0, .ref (65 + 4)), (1, .int v1), (2, .int v2), (3, .int (v3 ||| ((1 : Int32) <<< (v4 &&& 31)))), (4, .int (v4 + 1)), (5, .int r7)]) rfl rfl (congrArg (v4 + ·) (by decide)) rfl rfl ?_
          refine lh_goto rfl ?_
          refine lh_less [0, 1, 2, 3, 4] rfl ?_
          exact ih (v3 ||| ((1 : Int32) <<< (v4 &&& 31))) (v4 + 1) _ hf x0_
theorem t_LM_exposed {Γ : lh_Cx} {I : lh_II} {L : lh_LL} {F : lh_FF} {S : lh_SS} {K : Int32 → lh_Hp → Prop} {r : Int32 × lh_II} (hG : lh_GX Γ) (hS : lh_laym F S)  {x1 : Int32} (hf : f_LM_exposed x1 I = some r) (hK : K r.1 (r.2, L, F, S)) : lh_Met Γ m_LM_exposed 3 0 0 [.ref (65 + 4), .int x1] (I, L, F, S) (lh_ki K) := by
  rw [f_LM_exposed] at hf
  refine lh_ofG k_LM_exposed [(0, .ref (65 + 4)), (1, .int x1)] rfl (Nat.le_of_ble_eq_true rfl) rfl ?_
  refine lh_aload_n (q := 0) rfl rfl rfl ?_
  refine lh_iconst rfl lh_k_0 ?_
  refine lh_putI4 rfl rfl (hS.1 0 _ rfl) rfl rfl ?_
  refine lh_aload_n (q := 0) rfl rfl rfl ?_
  refine lh_iload_n (q := 1) rfl rfl rfl ?_
  refine lh_bdE hf (fun r1 e2 hf => ?_)
  refine lh_cVi (N := m_LM_isVisitor) (d := 1) (o := 65) (As := [.int x1]) (st := []) rfl rfl v_LM_isVisitor (hS.1 0 _ rfl) rfl rfl rfl ⟨rfl, rfl⟩ rfl (t_LM_isVisitor hG hS e2 ?_)
  refine lh_if_ne rfl (fun c3 => ?_) (fun c3 => ?_)
  · have hf := lh_ifF hf c3
    refine lh_aload_n (q := 0) rfl rfl rfl ?_
    refine lh_aload_n (q := 0) rfl rfl rfl ?_
    refine lh_getR4 rfl rfl (hS.1 0 _ rfl) rfl (hS.2 12 _ rfl) ?_
    refine lh_iconst rfl lh_k_5 ?_
    refine lh_iald5 (k := 5) rfl (hS.1 13 _ rfl) (by decide) (by decide) ?_
    refine lh_iconst rfl lh_k_m1 ?_
    refine lh_bdE hf (fun r4 e5 hf => ?_)
    refine lh_cVi (N := m_LM_litFrom) (d := 2) (o := 65) (As := [.int ((lh_u2 I (65 + 4) 0 0) (78 + 4) 5), .int (-1)]) (st := []) rfl rfl v_LM_litFrom (hS.1 0 _ rfl) rfl rfl rfl ⟨rfl, rfl⟩ rfl (t_LM_litFrom hG hS e5 ?_)
    refine lh_istore_n (lv' := [(0, .ref (65 + 4)), (1, .int x1), (2, .int r4)]) rfl rfl rfl rfl ?_
    refine lh_iconst rfl lh_k_0 ?_
    refine lh_istore_n (lv' := [(0, .ref (65 + 4)), (1, .int x1), (2, .int r4), (3, .int 0)]) rfl rfl rfl rfl ?_
    refine lh_iconst rfl lh_k_0 ?_
    refine lh_istore (lv' := [(0, .ref (65 + 4)), (1, .int x1), (2, .int r4), (3, .int 0), (4, .int 0)]) rfl rfl rfl ?_
    refine lh_bdE hf (fun r11 e12 hf => ?_)
    refine t_LM_exposed_21 hG hS  _ 0 0 _ e12 ?_
    refine lh_iload_n (q := 0) rfl rfl rfl ?_
    exact lh_iret rfl rfl rfl (by obtain rfl := Option.some.inj hf; exact hK)
  · have hf := lh_ifT hf c3
    refine lh_iconst rfl lh_k_m1 ?_
    exact lh_iret rfl rfl rfl (by obtain rfl := Option.some.inj hf; exact hK)
def f_LM_lay_2 (v1 : Int64) : Nat → Int32 → lh_II → Option (lh_II)
  | 0, _, _ => none
  | n + 1, v3, I => if v3 < 0 then some I else if ((v1 >>> (v3.toInt64 &&& 63)).toInt32 &&& 255) = 10 then if 1000 ≤ (I (65 + 4) 2) then f_LM_lay_2 v1 n (v3 + (-8)) I else lh_gd (lh_ix (I (65 + 4) 2) 1000) (f_LM_lay_2 v1 n (v3 + (-8)) (lh_u2 (lh_u2 I (66 + 4) (I (65 + 4) 2).toNatClampNeg ((v1 >>> (v3.toInt64 &&& 63)).toInt32 &&& 255)) (65 + 4) 2 (((lh_u2 I (66 + 4) (I (65 + 4) 2).toNatClampNeg ((v1 >>> (v3.toInt64 &&& 63)).toInt32 &&& 255)) (65 + 4) 2) + 1))) else if ((v1 >>> (v3.toInt64 &&& 63)).toInt32 &&& 255) < 32 then f_LM_lay_2 v1 n (v3 + (-8)) I else if 126 < ((v1 >>> (v3.toInt64 &&& 63)).toInt32 &&& 255) then f_LM_lay_2 v1 n (v3 + (-8)) I else if 1000 ≤ (I (65 + 4) 2) then f_LM_lay_2 v1 n (v3 + (-8)) I else lh_gd (lh_ix (I (65 + 4) 2) 1000) (f_LM_lay_2 v1 n (v3 + (-8)) (lh_u2 (lh_u2 I (66 + 4) (I (65 + 4) 2).toNatClampNeg ((v1 >>> (v3.toInt64 &&& 63)).toInt32 &&& 255)) (65 + 4) 2 (((lh_u2 I (66 + 4) (I (65 + 4) 2).toNatClampNeg ((v1 >>> (v3.toInt64 &&& 63)).toInt32 &&& 255)) (65 + 4) 2) + 1)))
def f_LM_lay (x1 : Int64) (I : lh_II) : Option (lh_II) := lh_bd (f_LM_lay_2 x1 lh_fuel 56 I) fun r9 => some r9
theorem t_LM_lay_2 {Γ : lh_Cx} {F : lh_FF} {S : lh_SS} {Z : List Frame → Array Value → State → State → Prop} (hG : lh_GX Γ) (hS : lh_laym F S)  {v1 : Int64} {L : lh_LL} : ∀ (n : Nat) (v3 : Int32) (I : lh_II) (o : lh_II), f_LM_lay_2 v1 n v3 I = some o → ∀ (x0_ : lh_G Γ m_LM_lay (lh_R 0 0 0) Z 0 0 38 [] [] (o, L, F, S)), lh_G Γ m_LM_lay (lh_R 0 0 0) Z 0 0 2 [(0, .ref (65 + 4)), (1, .long v1), (3, .int v3)] [] (I, L, F, S) := by
  intro n
  induction n with
  | zero => intro v3 I o hf; cases hf
  | succ n ih =>
    intro v3 I o hf x0_
    rw [f_LM_lay_2] at hf
    refine lh_iload_n (q := 2) rfl rfl rfl ?_
    refine lh_if_lt rfl (fun c1 => ?_) (fun c1 => ?_)
    · have hf := lh_ifT hf c1
      exact lh_less [] rfl (by cases hf; exact x0_)
    · have hf := lh_ifF hf c1
      refine lh_lload_n (q := 1) rfl rfl rfl ?_
      refine lh_iload_n (q := 2) rfl rfl rfl ?_
      refine lh_lshr rfl ?_
      refine lh_l2i rfl ?_
      refine lh_sipush rfl lh_s_255 ?_
      refine lh_iand rfl ?_
      refine lh_istore (lv' := [(0, .ref (65 + 4)), (1, .long v1), (3, .int v3), (4, .int ((v1 >>> (v3.toInt64 &&& 63)).toInt32 &&& 255))]) rfl rfl rfl ?_
      refine lh_iload (q := 3) rfl rfl ?_
      refine lh_bipush rfl lh_b_10 ?_
      refine lh_icmp_eq rfl (fun c2 => ?_) (fun c2 => ?_)
      · have hf := lh_ifT hf c2
        refine lh_aload_n (q := 0) rfl rfl rfl ?_
        refine lh_getI4 rfl rfl (hS.1 0 _ rfl) rfl ?_
        refine lh_sipush rfl lh_s_1000 ?_
        refine lh_icmp_ge rfl (fun c3 => ?_) (fun c3 => ?_)
        · have hf := lh_ifT hf c3
          refine lh_iinc (q := 2) (v := (v3 + (-8))) (lv' := [(0, .ref (65 + 4)), (1, .long v1), (3, .int (v3 + (-8))), (4, .int ((v1 >>> (v3.toInt64 &&& 63)).toInt32 &&& 255))]) rfl rfl (congrArg (v3 + ·) (by decide)) rfl rfl ?_
          refine lh_goto rfl ?_
          refine lh_less [0, 1, 2] rfl ?_
          exact ih (v3 + (-8)) I _ hf x0_
        · have hf := lh_ifF hf c3
          refine lh_aload_n (q := 0) rfl rfl rfl ?_
          refine lh_getR4 rfl rfl (hS.1 0 _ rfl) rfl (hS.2 0 _ rfl) ?_
          refine lh_aload_n (q := 0) rfl rfl rfl ?_
          refine lh_getI4 rfl rfl (hS.1 0 _ rfl) rfl ?_
          refine lh_iload (q := 3) rfl rfl ?_
          obtain ⟨g4, hf⟩ := lh_gdE hf
          refine lh_iast4 rfl (hS.1 1 _ rfl) g4 ?_
          refine lh_aload_n (q := 0) rfl rfl rfl ?_
          refine lh_dup rfl rfl ?_
          refine lh_getI4 rfl rfl (hS.1 0 _ rfl) rfl ?_
          refine lh_iconst rfl lh_k_1 ?_
          refine lh_iadd rfl ?_
          refine lh_putI4 rfl rfl (hS.1 0 _ rfl) rfl rfl ?_
          refine lh_iinc (q := 2) (v := (v3 + (-8))) (lv' := [(0, .ref (65 + 4)), (1, .long v1), (3, .int (v3 + (-8))), (4, .int ((v1 >>> (v3.toInt64 &&& 63)).toInt32 &&& 255))]) rfl rfl (congrArg (v3 + ·) (by decide)) rfl rfl ?_
          refine lh_goto rfl ?_
          refine lh_less [0, 1, 2] rfl ?_
          exact ih (v3 + (-8)) (lh_u2 (lh_u2 I (66 + 4) (I (65 + 4) 2).toNatClampNeg ((v1 >>> (v3.toInt64 &&& 63)).toInt32 &&& 255)) (65 + 4) 2 (((lh_u2 I (66 + 4) (I (65 + 4) 2).toNatClampNeg ((v1 >>> (v3.toInt64 &&& 63)).toInt32 &&& 255)) (65 + 4) 2) + 1)) _ hf x0_
      · have hf := lh_ifF hf c2
        refine lh_iload (q := 3) rfl rfl ?_
        refine lh_bipush rfl lh_b_32 ?_
        refine lh_icmp_lt rfl (fun c5 => ?_) (fun c5 => ?_)
        · have hf := lh_ifT hf c5
          refine lh_iinc (q := 2) (v := (v3 + (-8))) (lv' := [(0, .ref (65 + 4)), (1, .long v1), (3, .int (v3 + (-8))), (4, .int ((v1 >>> (v3.toInt64 &&& 63)).toInt32 &&& 255))]) rfl rfl (congrArg (v3 + ·) (by decide)) rfl rfl ?_
          refine lh_goto rfl ?_
          refine lh_less [0, 1, 2] rfl ?_
          exact ih (v3 + (-8)) I _ hf x0_
        · have hf := lh_ifF hf c5
          refine lh_iload (q := 3) rfl rfl ?_
          refine lh_bipush rfl lh_b_126 ?_
          refine lh_icmp_gt rfl (fun c6 => ?_) (fun c6 => ?_)
          · have hf := lh_ifT hf c6
            refine lh_iinc (q := 2) (v := (v3 + (-8))) (lv' := [(0, .ref (65 + 4)), (1, .long v1), (3, .int (v3 + (-8))), (4, .int ((v1 >>> (v3.toInt64 &&& 63)).toInt32 &&& 255))]) rfl rfl (congrArg (v3 + ·) (by decide)) rfl rfl ?_
            refine lh_goto rfl ?_
            refine lh_less [0, 1, 2] rfl ?_
            exact ih (v3 + (-8)) I _ hf x0_
          · have hf := lh_ifF hf c6
            refine lh_aload_n (q := 0) rfl rfl rfl ?_
            refine lh_getI4 rfl rfl (hS.1 0 _ rfl) rfl ?_
            refine lh_sipush rfl lh_s_1000 ?_
            refine lh_icmp_ge rfl (fun c7 => ?_) (fun c7 => ?_)
            · have hf := lh_ifT hf c7
              refine lh_iinc (q := 2) (v := (v3 + (-8))) (lv' := [(0, .ref (65 + 4)), (1, .long v1), (3, .int (v3 + (-8))), (4, .int ((v1 >>> (v3.toInt64 &&& 63)).toInt32 &&& 255))]) rfl rfl (congrArg (v3 + ·) (by decide)) rfl rfl ?_
              refine lh_goto rfl ?_
              refine lh_less [0, 1, 2] rfl ?_
              exact ih (v3 + (-8)) I _ hf x0_
            · have hf := lh_ifF hf c7
              refine lh_aload_n (q := 0) rfl rfl rfl ?_
              refine lh_getR4 rfl rfl (hS.1 0 _ rfl) rfl (hS.2 0 _ rfl) ?_
              refine lh_aload_n (q := 0) rfl rfl rfl ?_
              refine lh_getI4 rfl rfl (hS.1 0 _ rfl) rfl ?_
              refine lh_iload (q := 3) rfl rfl ?_
              obtain ⟨g8, hf⟩ := lh_gdE hf
              refine lh_iast4 rfl (hS.1 1 _ rfl) g8 ?_
              refine lh_aload_n (q := 0) rfl rfl rfl ?_
              refine lh_dup rfl rfl ?_
              refine lh_getI4 rfl rfl (hS.1 0 _ rfl) rfl ?_
              refine lh_iconst rfl lh_k_1 ?_
              refine lh_iadd rfl ?_
              refine lh_putI4 rfl rfl (hS.1 0 _ rfl) rfl rfl ?_
              refine lh_iinc (q := 2) (v := (v3 + (-8))) (lv' := [(0, .ref (65 + 4)), (1, .long v1), (3, .int (v3 + (-8))), (4, .int ((v1 >>> (v3.toInt64 &&& 63)).toInt32 &&& 255))]) rfl rfl (congrArg (v3 + ·) (by decide)) rfl rfl ?_
              refine lh_goto rfl ?_
              refine lh_less [0, 1, 2] rfl ?_
              exact ih (v3 + (-8)) (lh_u2 (lh_u2 I (66 + 4) (I (65 + 4) 2).toNatClampNeg ((v1 >>> (v3.toInt64 &&& 63)).toInt32 &&& 255)) (65 + 4) 2 (((lh_u2 I (66 + 4) (I (65 + 4) 2).toNatClampNeg ((v1 >>> (v3.toInt64 &&& 63)).toInt32 &&& 255)) (65 + 4) 2) + 1)) _ hf x0_
theorem t_LM_lay {Γ : lh_Cx} {I : lh_II} {L : lh_LL} {F : lh_FF} {S : lh_SS} {K : lh_Hp → Prop} {r : lh_II} (hG : lh_GX Γ) (hS : lh_laym F S)  {x1 : Int64} (hf : f_LM_lay x1 I = some r) (hK : K (r, L, F, S)) : lh_Met Γ m_LM_lay 0 0 0 [.ref (65 + 4), .long x1] (I, L, F, S) (lh_kv K) := by
  rw [f_LM_lay] at hf
  refine lh_ofG k_LM_lay [(0, .ref (65 + 4)), (1, .long x1)] rfl (Nat.le_of_ble_eq_true rfl) rfl ?_
  refine lh_bipush rfl lh_b_56 ?_
  refine lh_istore_n (lv' := [(0, .ref (65 + 4)), (1, .long x1), (3, .int 56)]) rfl rfl rfl rfl ?_
  refine lh_bdE hf (fun r9 e10 hf => ?_)
  refine t_LM_lay_2 hG hS  _ 56 I _ e10 ?_
  exact lh_vret rfl rfl (by obtain rfl := Option.some.inj hf; exact hK)
def f_LM_feed (x1 : Int64) (x2 : Int64) (x3 : Int64) (I : lh_II) : Option (Int32 × lh_II) := lh_bd (f_LM_lay x1 (lh_u2 I (65 + 4) 0 0)) fun r1 => lh_bd (f_LM_lay x2 r1) fun r3 => lh_bd (f_LM_lay x3 r3) fun r5 => some ((r5 (65 + 4) 2), r5)
theorem t_LM_feed {Γ : lh_Cx} {I : lh_II} {L : lh_LL} {F : lh_FF} {S : lh_SS} {K : Int32 → lh_Hp → Prop} {r : Int32 × lh_II} (hG : lh_GX Γ) (hS : lh_laym F S)  {x1 : Int64} {x2 : Int64} {x3 : Int64} (hf : f_LM_feed x1 x2 x3 I = some r) (hK : K r.1 (r.2, L, F, S)) : lh_Met Γ m_LM_feed 1 0 0 [.ref (65 + 4), .long x1, .long x2, .long x3] (I, L, F, S) (lh_ki K) := by
  rw [f_LM_feed] at hf
  refine lh_ofG k_LM_feed [(0, .ref (65 + 4)), (1, .long x1), (3, .long x2), (5, .long x3)] rfl (Nat.le_of_ble_eq_true rfl) rfl ?_
  refine lh_aload_n (q := 0) rfl rfl rfl ?_
  refine lh_iconst rfl lh_k_0 ?_
  refine lh_putI4 rfl rfl (hS.1 0 _ rfl) rfl rfl ?_
  refine lh_aload_n (q := 0) rfl rfl rfl ?_
  refine lh_lload_n (q := 1) rfl rfl rfl ?_
  refine lh_bdE hf (fun r1 e2 hf => ?_)
  refine lh_cVv (N := m_LM_lay) (d := 0) (o := 65) (As := [.long x1]) (st := []) rfl rfl v_LM_lay (hS.1 0 _ rfl) rfl rfl rfl ⟨rfl, rfl⟩ rfl (t_LM_lay hG hS e2 ?_)
  refine lh_aload_n (q := 0) rfl rfl rfl ?_
  refine lh_lload_n (q := 2) rfl rfl rfl ?_
  refine lh_bdE hf (fun r3 e4 hf => ?_)
  refine lh_cVv (N := m_LM_lay) (d := 0) (o := 65) (As := [.long x2]) (st := []) rfl rfl v_LM_lay (hS.1 0 _ rfl) rfl rfl rfl ⟨rfl, rfl⟩ rfl (t_LM_lay hG hS e4 ?_)
  refine lh_aload_n (q := 0) rfl rfl rfl ?_
  refine lh_lload (q := 3) rfl rfl ?_
  refine lh_bdE hf (fun r5 e6 hf => ?_)
  refine lh_cVv (N := m_LM_lay) (d := 0) (o := 65) (As := [.long x3]) (st := []) rfl rfl v_LM_lay (hS.1 0 _ rfl) rfl rfl rfl ⟨rfl, rfl⟩ rfl (t_LM_lay hG hS e6 ?_)
  refine lh_aload_n (q := 0) rfl rfl rfl ?_
  refine lh_getI4 rfl rfl (hS.1 0 _ rfl) rfl ?_
  exact lh_iret rfl rfl rfl (by obtain rfl := Option.some.inj hf; exact hK)
def f_LM_fellow (x1 : Int32) (I : lh_II) : Option (Int32 × lh_II) := lh_bd (f_LM_within x1 (0 : Int32) (40 : Int32)) fun r1 => if r1 = 0 then some ((-1), lh_u2 I (65 + 4) 0 0) else if ((lh_u2 I (65 + 4) 0 0) (71 + 4) 6) = 0 then some ((-1), lh_u2 I (65 + 4) 0 0) else lh_gd (!decide (((lh_u2 I (65 + 4) 0 0) (71 + 4) 6) = 0)) (lh_gd (lh_ix (79 + ((((lh_u2 I (65 + 4) 0 0) (78 + 4) 0) + x1) - (((lh_u2 I (65 + 4) 0 0) (78 + 4) 0) + x1) / ((lh_u2 I (65 + 4) 0 0) (71 + 4) 6) * ((lh_u2 I (65 + 4) 0 0) (71 + 4) 6))) 200) (lh_bd (f_LM_cells (lh_u2 I (65 + 4) 0 0)) fun r7 => if r7 ≤ ((lh_u2 I (65 + 4) 0 0) (71 + 4) (79 + ((((lh_u2 I (65 + 4) 0 0) (78 + 4) 0) + x1) - (((lh_u2 I (65 + 4) 0 0) (78 + 4) 0) + x1) / ((lh_u2 I (65 + 4) 0 0) (71 + 4) 6) * ((lh_u2 I (65 + 4) 0 0) (71 + 4) 6))).toNatClampNeg) then lh_bd (f_LM_cells (lh_u2 I (65 + 4) 0 0)) fun r10 => some ((r10 - 1), lh_u2 I (65 + 4) 0 0) else some (((lh_u2 I (65 + 4) 0 0) (71 + 4) (79 + ((((lh_u2 I (65 + 4) 0 0) (78 + 4) 0) + x1) - (((lh_u2 I (65 + 4) 0 0) (78 + 4) 0) + x1) / ((lh_u2 I (65 + 4) 0 0) (71 + 4) 6) * ((lh_u2 I (65 + 4) 0 0) (71 + 4) 6))).toNatClampNeg), lh_u2 I (65 + 4) 0 0)))
theorem t_LM_fellow {Γ : lh_Cx} {I : lh_II} {L : lh_LL} {F : lh_FF} {S : lh_SS} {K : Int32 → lh_Hp → Prop} {r : Int32 × lh_II} (hG : lh_GX Γ) (hS : lh_laym F S)  {x1 : Int32} (hf : f_LM_fellow x1 I = some r) (hK : K r.1 (r.2, L, F, S)) : lh_Met Γ m_LM_fellow 1 0 0 [.ref (65 + 4), .int x1] (I, L, F, S) (lh_ki K) := by
  rw [f_LM_fellow] at hf
  refine lh_ofG k_LM_fellow [(0, .ref (65 + 4)), (1, .int x1)] rfl (Nat.le_of_ble_eq_true rfl) rfl ?_
  refine lh_aload_n (q := 0) rfl rfl rfl ?_
  refine lh_iconst rfl lh_k_0 ?_
  refine lh_putI4 rfl rfl (hS.1 0 _ rfl) rfl rfl ?_
  refine lh_iload_n (q := 1) rfl rfl rfl ?_
  refine lh_iconst rfl lh_k_0 ?_
  refine lh_bipush rfl lh_b_40 ?_
  refine lh_bdE hf (fun r1 e2 hf => ?_)
  refine lh_cSi (N := m_LM_within) (d := 0) (As := [.int x1, .int 0, .int 40]) (st := []) rfl rfl v_LM_within rfl rfl ⟨rfl, rfl⟩ rfl (t_LM_within hG hS e2 ?_)
  refine lh_if_eq rfl (fun c3 => ?_) (fun c3 => ?_)
  · have hf := lh_ifT hf c3
    refine lh_iconst rfl lh_k_m1 ?_
    exact lh_iret rfl rfl rfl (by obtain rfl := Option.some.inj hf; exact hK)
  · have hf := lh_ifF hf c3
    refine lh_aload_n (q := 0) rfl rfl rfl ?_
    refine lh_getR4 rfl rfl (hS.1 0 _ rfl) rfl (hS.2 5 _ rfl) ?_
    refine lh_bipush rfl lh_b_6 ?_
    refine lh_iald5 (k := 6) rfl (hS.1 6 _ rfl) (by decide) (by decide) ?_
    refine lh_if_ne rfl (fun c4 => ?_) (fun c4 => ?_)
    · have hf := lh_ifF hf c4
      refine lh_aload_n (q := 0) rfl rfl rfl ?_
      refine lh_getR4 rfl rfl (hS.1 0 _ rfl) rfl (hS.2 5 _ rfl) ?_
      refine lh_bipush rfl lh_b_79 ?_
      refine lh_aload_n (q := 0) rfl rfl rfl ?_
      refine lh_getR4 rfl rfl (hS.1 0 _ rfl) rfl (hS.2 12 _ rfl) ?_
      refine lh_iconst rfl lh_k_0 ?_
      refine lh_iald5 (k := 0) rfl (hS.1 13 _ rfl) (by decide) (by decide) ?_
      refine lh_iload_n (q := 1) rfl rfl rfl ?_
      refine lh_iadd rfl ?_
      refine lh_aload_n (q := 0) rfl rfl rfl ?_
      refine lh_getR4 rfl rfl (hS.1 0 _ rfl) rfl (hS.2 5 _ rfl) ?_
      refine lh_bipush rfl lh_b_6 ?_
      refine lh_iald5 (k := 6) rfl (hS.1 6 _ rfl) (by decide) (by decide) ?_
      obtain ⟨g5, hf⟩ := lh_gdE hf
      refine lh_irem rfl (by simpa using g5) ?_
      refine lh_iadd rfl ?_
      obtain ⟨g6, hf⟩ := lh_gdE hf
      refine lh_iald4 rfl (hS.1 6 _ rfl) g6 ?_
      refine lh_istore_n (lv' := [(0, .ref (65 + 4)), (1, .int x1), (2, .int ((lh_u2 I (65 + 4) 0 0) (71 + 4) (79 + ((((lh_u2 I (65 + 4) 0 0) (78 + 4) 0) + x1) - (((lh_u2 I (65 + 4) 0 0) (78 + 4) 0) + x1) / ((lh_u2 I (65 + 4) 0 0) (71 + 4) 6) * ((lh_u2 I (65 + 4) 0 0) (71 + 4) 6))).toNatClampNeg))]) rfl rfl rfl rfl ?_
      refine lh_iload_n (q := 2) rfl rfl rfl ?_
      refine lh_aload_n (q := 0) rfl rfl rfl ?_
      refine lh_bdE hf (fun r7 e8 hf => ?_)
      refine lh_cVi (N := m_LM_cells) (d := 0) (o := 65) (As := []) (st := [.int ((lh_u2 I (65 + 4) 0 0) (71 + 4) (79 + ((((lh_u2 I (65 + 4) 0 0) (78 + 4) 0) + x1) - (((lh_u2 I (65 + 4) 0 0) (78 + 4) 0) + x1) / ((lh_u2 I (65 + 4) 0 0) (71 + 4) 6) * ((lh_u2 I (65 + 4) 0 0) (71 + 4) 6))).toNatClampNeg)]) rfl rfl v_LM_cells (hS.1 0 _ rfl) rfl rfl rfl ⟨rfl, rfl⟩ rfl (t_LM_cells hG hS e8 ?_)
      refine lh_icmp_ge rfl (fun c9 => ?_) (fun c9 => ?_)
      · have hf := lh_ifT hf c9
        refine lh_aload_n (q := 0) rfl rfl rfl ?_
        refine lh_bdE hf (fun r10 e11 hf => ?_)
        refine lh_cVi (N := m_LM_cells) (d := 0) (o := 65) (As := []) (st := []) rfl rfl v_LM_cells (hS.1 0 _ rfl) rfl rfl rfl ⟨rfl, rfl⟩ rfl (t_LM_cells hG hS e11 ?_)
        refine lh_iconst rfl lh_k_1 ?_
        refine lh_isub rfl ?_
        exact lh_iret rfl rfl rfl (by obtain rfl := Option.some.inj hf; exact hK)
      · have hf := lh_ifF hf c9
        refine lh_iload_n (q := 2) rfl rfl rfl ?_
        refine lh_goto rfl ?_
        exact lh_iret rfl rfl rfl (by obtain rfl := Option.some.inj hf; exact hK)
    · have hf := lh_ifT hf c4
      refine lh_iconst rfl lh_k_m1 ?_
      exact lh_iret rfl rfl rfl (by obtain rfl := Option.some.inj hf; exact hK)
def f_LM_fellowLights (x1 : Int32) (I : lh_II) : Option (Int32) := lh_gd (!decide ((I (71 + 4) 6) = 0)) (lh_gd (lh_ix (79 + (x1 - x1 / (I (71 + 4) 6) * (I (71 + 4) 6))) 200) (lh_bd (f_LM_cells I) fun r3 => if r3 ≤ (I (71 + 4) (79 + (x1 - x1 / (I (71 + 4) 6) * (I (71 + 4) 6))).toNatClampNeg) then lh_bd (f_LM_cells I) fun r6 => lh_bd (f_LM_litFrom (r6 - 1) ((-1) : Int32) I) fun r8 => some r8 else lh_bd (f_LM_litFrom (I (71 + 4) (79 + (x1 - x1 / (I (71 + 4) 6) * (I (71 + 4) 6))).toNatClampNeg) ((-1) : Int32) I) fun r10 => some r10))
theorem t_LM_fellowLights {Γ : lh_Cx} {I : lh_II} {L : lh_LL} {F : lh_FF} {S : lh_SS} {K : Int32 → lh_Hp → Prop} {r : Int32} (hG : lh_GX Γ) (hS : lh_laym F S)  {x1 : Int32} (hf : f_LM_fellowLights x1 I = some r) (hK : K r (I, L, F, S)) : lh_Met Γ m_LM_fellowLights 3 0 0 [.ref (65 + 4), .int x1] (I, L, F, S) (lh_ki K) := by
  rw [f_LM_fellowLights] at hf
  refine lh_ofG k_LM_fellowLights [(0, .ref (65 + 4)), (1, .int x1)] rfl (Nat.le_of_ble_eq_true rfl) rfl ?_
  refine lh_aload_n (q := 0) rfl rfl rfl ?_
  refine lh_getR4 rfl rfl (hS.1 0 _ rfl) rfl (hS.2 5 _ rfl) ?_
  refine lh_bipush rfl lh_b_79 ?_
  refine lh_iload_n (q := 1) rfl rfl rfl ?_
  refine lh_aload_n (q := 0) rfl rfl rfl ?_
  refine lh_getR4 rfl rfl (hS.1 0 _ rfl) rfl (hS.2 5 _ rfl) ?_
  refine lh_bipush rfl lh_b_6 ?_
  refine lh_iald5 (k := 6) rfl (hS.1 6 _ rfl) (by decide) (by decide) ?_
  obtain ⟨g1, hf⟩ := lh_gdE hf
  refine lh_irem rfl (by simpa using g1) ?_
  refine lh_iadd rfl ?_
  obtain ⟨g2, hf⟩ := lh_gdE hf
  refine lh_iald4 rfl (hS.1 6 _ rfl) g2 ?_
  refine lh_istore_n (lv' := [(0, .ref (65 + 4)), (1, .int x1), (2, .int (I (71 + 4) (79 + (x1 - x1 / (I (71 + 4) 6) * (I (71 + 4) 6))).toNatClampNeg))]) rfl rfl rfl rfl ?_
  refine lh_aload_n (q := 0) rfl rfl rfl ?_
  refine lh_iload_n (q := 2) rfl rfl rfl ?_
  refine lh_aload_n (q := 0) rfl rfl rfl ?_
  refine lh_bdE hf (fun r3 e4 hf => ?_)
  refine lh_cVi (N := m_LM_cells) (d := 0) (o := 65) (As := []) (st := [.int (I (71 + 4) (79 + (x1 - x1 / (I (71 + 4) 6) * (I (71 + 4) 6))).toNatClampNeg), .ref (65 + 4)]) rfl rfl v_LM_cells (hS.1 0 _ rfl) rfl rfl rfl ⟨rfl, rfl⟩ rfl (t_LM_cells hG hS e4 ?_)
  refine lh_icmp_ge rfl (fun c5 => ?_) (fun c5 => ?_)
  · have hf := lh_ifT hf c5
    refine lh_aload_n (q := 0) rfl rfl rfl ?_
    refine lh_bdE hf (fun r6 e7 hf => ?_)
    refine lh_cVi (N := m_LM_cells) (d := 0) (o := 65) (As := []) (st := [.ref (65 + 4)]) rfl rfl v_LM_cells (hS.1 0 _ rfl) rfl rfl rfl ⟨rfl, rfl⟩ rfl (t_LM_cells hG hS e7 ?_)
    refine lh_iconst rfl lh_k_1 ?_
    refine lh_isub rfl ?_
    refine lh_iconst rfl lh_k_m1 ?_
    refine lh_bdE hf (fun r8 e9 hf => ?_)
    refine lh_cVi (N := m_LM_litFrom) (d := 2) (o := 65) (As := [.int (r6 - 1), .int (-1)]) (st := []) rfl rfl v_LM_litFrom (hS.1 0 _ rfl) rfl rfl rfl ⟨rfl, rfl⟩ rfl (t_LM_litFrom hG hS e9 ?_)
    exact lh_iret rfl rfl rfl (by obtain rfl := Option.some.inj hf; exact hK)
  · have hf := lh_ifF hf c5
    refine lh_iload_n (q := 2) rfl rfl rfl ?_
    refine lh_goto rfl ?_
    refine lh_iconst rfl lh_k_m1 ?_
    refine lh_bdE hf (fun r10 e11 hf => ?_)
    refine lh_cVi (N := m_LM_litFrom) (d := 2) (o := 65) (As := [.int (I (71 + 4) (79 + (x1 - x1 / (I (71 + 4) 6) * (I (71 + 4) 6))).toNatClampNeg), .int (-1)]) (st := []) rfl rfl v_LM_litFrom (hS.1 0 _ rfl) rfl rfl rfl ⟨rfl, rfl⟩ rfl (t_LM_litFrom hG hS e11 ?_)
    exact lh_iret rfl rfl rfl (by obtain rfl := Option.some.inj hf; exact hK)
