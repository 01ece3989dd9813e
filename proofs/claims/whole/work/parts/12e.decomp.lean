/-! decompiled by program: f_.. the functions, t_.. that the methods do as they say -/
def f_LM_same_21 (v1 : Int32) (v2 : Int32) (v3 : Int32) (I : lh_II) : Nat → Int32 → Int32 → Option (Int32)
  | 0, _, _ => none
  | n + 1, v4, v5 => lh_bd (f_LM_cells I) fun r3 => if (8 * r3) ≤ v5 then some v4 else if v4 = 0 then f_LM_same_21 v1 v2 v3 I n 0 (v5 + 1) else lh_bd (f_LM_isSomebody v2 (v5 - v5 / 8 * 8) (v5 / 8) I) fun r7 => lh_bd (f_LM_isSomebody v3 (v5 - v5 / 8 * 8) (v5 / 8) I) fun r9 => if r7 = r9 then f_LM_same_21 v1 v2 v3 I n 1 (v5 + 1) else f_LM_same_21 v1 v2 v3 I n 0 (v5 + 1)
def f_LM_same_14 (v2 : Int32) (I : lh_II) : Nat → Int32 → Int32 → Option (Int32)
  | 0, _, _ => none
  | n + 1, v1, v3 => if 4 ≤ v3 then some v1 else lh_bd (f_LM_same_21 v1 v2 v3 I lh_fuel 1 0) fun r12 => if r12 = 0 then f_LM_same_14 v2 I n (v1 + 0) (v3 + 1) else f_LM_same_14 v2 I n (v1 + 1) (v3 + 1)
def f_LM_same_7 (I : lh_II) : Nat → Int32 → Int32 → Option (Int32)
  | 0, _, _ => none
  | n + 1, v1, v2 => if 4 ≤ v2 then some v1 else lh_bd (f_LM_same_14 v2 I lh_fuel v1 (v2 + 1)) fun r15 => f_LM_same_7 I n r15 (v2 + 1)
def f_LM_same (I : lh_II) : Option (Int32 × lh_II) := lh_bd (f_LM_same_7 (lh_u2 I (65 + 4) 0 0) lh_fuel 0 0) fun r17 => some (r17, lh_u2 I (65 + 4) 0 0)
theorem t_LM_same_21 {Γ : lh_Cx} {F : lh_FF} {S : lh_SS} {Z : List Frame → Array Value → State → State → Prop} (hG : lh_GX Γ) (hS : lh_lay F S)  {v1 : Int32} {v2 : Int32} {v3 : Int32} {I : lh_II} {L : lh_LL} : ∀ (n : Nat) (v4 : Int32) (v5 : Int32) (o : Int32), f_LM_same_21 v1 v2 v3 I n v4 v5 = some o → ∀ (x0_ : lh_G Γ m_LM_same (lh_R 3 0 0) Z 0 0 54 [(0, .ref (65 + 4)), (1, .int v1), (2, .int v2), (3, .int v3), (4, .int o)] [] (I, L, F, S)), lh_G Γ m_LM_same (lh_R 3 0 0) Z 0 0 21 [(0, .ref (65 + 4)), (1, .int v1), (2, .int v2), (3, .int v3), (4, .int v4), (5, .int v5)] [] (I, L, F, S) := by
  intro n
  induction n with
  | zero => intro v4 v5 o hf; cases hf
  | succ n ih =>
    intro v4 v5 o hf x0_
    rw [f_LM_same_21] at hf
    refine lh_iload (q := 5) rfl rfl ?_
    refine lh_bipush rfl lh_b_8 ?_
    refine lh_aload_n (q := 0) rfl rfl rfl ?_
    refine lh_bdE hf (fun r3 e4 hf => ?_)
    refine lh_cVi (N := m_LM_cells) (d := 0) (o := 65) (As := []) (st := [.int 8, .int v5]) rfl rfl v_LM_cells (hS.1 65 _ rfl) rfl rfl rfl ⟨rfl, rfl⟩ rfl (t_LM_cells hG hS e4 ?_)
    refine lh_imul rfl ?_
    refine lh_icmp_ge rfl (fun c5 => ?_) (fun c5 => ?_)
    · have hf := lh_ifT hf c5
      exact lh_less [0, 1, 2, 3, 4] rfl (by cases hf; exact x0_)
    · have hf := lh_ifF hf c5
      refine lh_iload (q := 4) rfl rfl ?_
      refine lh_if_eq rfl (fun c6 => ?_) (fun c6 => ?_)
      · have hf := lh_ifT hf c6
        refine lh_iconst rfl lh_k_0 ?_
        refine lh_istore (lv' := [(0, .ref (65 + 4)), (1, .int v1), (2, .int v2), (3, .int v3), (4, .int 0), (5, .int v5)]) rfl rfl rfl ?_
        refine lh_iinc (q := 5) (v := (v5 + 1)) (lv' := [(0, .ref (65 + 4)), (1, .int v1), (2, .int v2), (3, .int v3), (4, .int 0), (5, .int (v5 + 1))]) rfl rfl (congrArg (v5 + ·) (by decide)) rfl rfl ?_
        refine lh_goto rfl ?_
        exact ih 0 (v5 + 1) _ hf x0_
      · have hf := lh_ifF hf c6
        refine lh_aload_n (q := 0) rfl rfl rfl ?_
        refine lh_iload_n (q := 2) rfl rfl rfl ?_
        refine lh_iload (q := 5) rfl rfl ?_
        refine lh_bipush rfl lh_b_8 ?_
        refine lh_irem rfl (by decide) ?_
        refine lh_iload (q := 5) rfl rfl ?_
        refine lh_bipush rfl lh_b_8 ?_
        refine lh_idiv rfl (by decide) ?_
        refine lh_bdE hf (fun r7 e8 hf => ?_)
        refine lh_cVi (N := m_LM_isSomebody) (d := 2) (o := 65) (As := [.int v2, .int (v5 - v5 / 8 * 8), .int (v5 / 8)]) (st := []) rfl rfl v_LM_isSomebody (hS.1 65 _ rfl) rfl rfl rfl ⟨rfl, rfl⟩ rfl (t_LM_isSomebody hG hS e8 ?_)
        refine lh_aload_n (q := 0) rfl rfl rfl ?_
        refine lh_iload_n (q := 3) rfl rfl rfl ?_
        refine lh_iload (q := 5) rfl rfl ?_
        refine lh_bipush rfl lh_b_8 ?_
        refine lh_irem rfl (by decide) ?_
        refine lh_iload (q := 5) rfl rfl ?_
        refine lh_bipush rfl lh_b_8 ?_
        refine lh_idiv rfl (by decide) ?_
        refine lh_bdE hf (fun r9 e10 hf => ?_)
        refine lh_cVi (N := m_LM_isSomebody) (d := 2) (o := 65) (As := [.int v3, .int (v5 - v5 / 8 * 8), .int (v5 / 8)]) (st := [.int r7]) rfl rfl v_LM_isSomebody (hS.1 65 _ rfl) rfl rfl rfl ⟨rfl, rfl⟩ rfl (t_LM_isSomebody hG hS e10 ?_)
        refine lh_icmp_ne rfl (fun c11 => ?_) (fun c11 => ?_)
        · have hf := lh_ifF hf c11
          refine lh_iconst rfl lh_k_0 ?_
          refine lh_istore (lv' := [(0, .ref (65 + 4)), (1, .int v1), (2, .int v2), (3, .int v3), (4, .int 0), (5, .int v5)]) rfl rfl rfl ?_
          refine lh_iinc (q := 5) (v := (v5 + 1)) (lv' := [(0, .ref (65 + 4)), (1, .int v1), (2, .int v2), (3, .int v3), (4, .int 0), (5, .int (v5 + 1))]) rfl rfl (congrArg (v5 + ·) (by decide)) rfl rfl ?_
          refine lh_goto rfl ?_
          exact ih 0 (v5 + 1) _ hf x0_
        · have hf := lh_ifT hf c11
          refine lh_iconst rfl lh_k_1 ?_
          refine lh_goto rfl ?_
          refine lh_istore (lv' := [(0, .ref (65 + 4)), (1, .int v1), (2, .int v2), (3, .int v3), (4, .int 1), (5, .int v5)]) rfl rfl rfl ?_
          refine lh_iinc (q := 5) (v := (v5 + 1)) (lv' := [(0, .ref (65 + 4)), (1, .int v1), (2, .int v2), (3, .int v3), (4, .int 1), (5, .int (v5 + 1))]) rfl rfl (congrArg (v5 + ·) (by decide)) rfl rfl ?_
          refine lh_goto rfl ?_
          exact ih 1 (v5 + 1) _ hf x0_
theorem t_LM_same_14 {Γ : lh_Cx} {F : lh_FF} {S : lh_SS} {Z : List Frame → Array Value → State → State → Prop} (hG : lh_GX Γ) (hS : lh_lay F S)  {v2 : Int32} {I : lh_II} {L : lh_LL} : ∀ (n : Nat) (v1 : Int32) (v3 : Int32) (o : Int32), f_LM_same_14 v2 I n v1 v3 = some o → ∀ (x0_ : lh_G Γ m_LM_same (lh_R 3 0 0) Z 0 0 64 [(0, .ref (65 + 4)), (1, .int o), (2, .int v2)] [] (I, L, F, S)), lh_G Γ m_LM_same (lh_R 3 0 0) Z 0 0 14 [(0, .ref (65 + 4)), (1, .int v1), (2, .int v2), (3, .int v3)] [] (I, L, F, S) := by
  intro n
  induction n with
  | zero => intro v1 v3 o hf; cases hf
  | succ n ih =>
    intro v1 v3 o hf x0_
    rw [f_LM_same_14] at hf
    refine lh_iload_n (q := 3) rfl rfl rfl ?_
    refine lh_iconst rfl lh_k_4 ?_
    refine lh_icmp_ge rfl (fun c2 => ?_) (fun c2 => ?_)
    · have hf := lh_ifT hf c2
      exact lh_less [0, 1, 2] rfl (by cases hf; exact x0_)
    · have hf := lh_ifF hf c2
      refine lh_iconst rfl lh_k_1 ?_
      refine lh_istore (lv' := [(0, .ref (65 + 4)), (1, .int v1), (2, .int v2), (3, .int v3), (4, .int 1)]) rfl rfl rfl ?_
      refine lh_iconst rfl lh_k_0 ?_
      refine lh_istore (lv' := [(0, .ref (65 + 4)), (1, .int v1), (2, .int v2), (3, .int v3), (4, .int 1), (5, .int 0)]) rfl rfl rfl ?_
      refine lh_bdE hf (fun r12 e13 hf => ?_)
      refine t_LM_same_21 hG hS  _ 1 0 _ e13 ?_
      refine lh_iload_n (q := 1) rfl rfl rfl ?_
      refine lh_iload (q := 4) rfl rfl ?_
      refine lh_if_eq rfl (fun c14 => ?_) (fun c14 => ?_)
      · have hf := lh_ifT hf c14
        refine lh_iconst rfl lh_k_0 ?_
        refine lh_iadd rfl ?_
        refine lh_istore_n (lv' := [(0, .ref (65 + 4)), (1, .int (v1 + 0)), (2, .int v2), (3, .int v3), (4, .int r12)]) rfl rfl rfl rfl ?_
        refine lh_iinc (q := 3) (v := (v3 + 1)) (lv' := [(0, .ref (65 + 4)), (1, .int (v1 + 0)), (2, .int v2), (3, .int (v3 + 1)), (4, .int r12)]) rfl rfl (congrArg (v3 + ·) (by decide)) rfl rfl ?_
        refine lh_goto rfl ?_
        refine lh_less [0, 1, 2, 3] rfl ?_
        exact ih (v1 + 0) (v3 + 1) _ hf x0_
      · have hf := lh_ifF hf c14
        refine lh_iconst rfl lh_k_1 ?_
        refine lh_goto rfl ?_
        refine lh_iadd rfl ?_
        refine lh_istore_n (lv' := [(0, .ref (65 + 4)), (1, .int (v1 + 1)), (2, .int v2), (3, .int v3), (4, .int r12)]) rfl rfl rfl rfl ?_
        refine lh_iinc (q := 3) (v := (v3 + 1)) (lv' := [(0, .ref (65 + 4)), (1, .int (v1 + 1)), (2, .int v2), (3, .int (v3 + 1)), (4, .int r12)]) rfl rfl (congrArg (v3 + ·) (by decide)) rfl rfl ?_
        refine lh_goto rfl ?_
        refine lh_less [0, 1, 2, 3] rfl ?_
        exact ih (v1 + 1) (v3 + 1) _ hf x0_
theorem t_LM_same_7 {Γ : lh_Cx} {F : lh_FF} {S : lh_SS} {Z : List Frame → Array Value → State → State → Prop} (hG : lh_GX Γ) (hS : lh_lay F S)   {I : lh_II} {L : lh_LL} : ∀ (n : Nat) (v1 : Int32) (v2 : Int32) (o : Int32), f_LM_same_7 I n v1 v2 = some o → ∀ (x0_ : lh_G Γ m_LM_same (lh_R 3 0 0) Z 0 0 66 [(1, .int o)] [] (I, L, F, S)), lh_G Γ m_LM_same (lh_R 3 0 0) Z 0 0 7 [(0, .ref (65 + 4)), (1, .int v1), (2, .int v2)] [] (I, L, F, S) := by
  intro n
  induction n with
  | zero => intro v1 v2 o hf; cases hf
  | succ n ih =>
    intro v1 v2 o hf x0_
    rw [f_LM_same_7] at hf
    refine lh_iload_n (q := 2) rfl rfl rfl ?_
    refine lh_iconst rfl lh_k_4 ?_
    refine lh_icmp_ge rfl (fun c1 => ?_) (fun c1 => ?_)
    · have hf := lh_ifT hf c1
      exact lh_less [1] rfl (by cases hf; exact x0_)
    · have hf := lh_ifF hf c1
      refine lh_iload_n (q := 2) rfl rfl rfl ?_
      refine lh_iconst rfl lh_k_1 ?_
      refine lh_iadd rfl ?_
      refine lh_istore_n (lv' := [(0, .ref (65 + 4)), (1, .int v1), (2, .int v2), (3, .int (v2 + 1))]) rfl rfl rfl rfl ?_
      refine lh_bdE hf (fun r15 e16 hf => ?_)
      refine t_LM_same_14 hG hS  _ v1 (v2 + 1) _ e16 ?_
      refine lh_iinc (q := 2) (v := (v2 + 1)) (lv' := [(0, .ref (65 + 4)), (1, .int r15), (2, .int (v2 + 1))]) rfl rfl (congrArg (v2 + ·) (by decide)) rfl rfl ?_
      refine lh_goto rfl ?_
      exact ih r15 (v2 + 1) _ hf x0_
theorem t_LM_same {Γ : lh_Cx} {I : lh_II} {L : lh_LL} {F : lh_FF} {S : lh_SS} {K : Int32 → lh_Hp → Prop} {r : Int32 × lh_II} (hG : lh_GX Γ) (hS : lh_lay F S)  (hf : f_LM_same I = some r) (hK : K r.1 (r.2, L, F, S)) : lh_Met Γ m_LM_same 3 0 0 [.ref (65 + 4)] (I, L, F, S) (lh_ki K) := by
  rw [f_LM_same] at hf
  refine lh_ofG k_LM_same [(0, .ref (65 + 4))] rfl (Nat.le_of_ble_eq_true rfl) rfl ?_
  refine lh_aload_n (q := 0) rfl rfl rfl ?_
  refine lh_iconst rfl lh_k_0 ?_
  refine lh_putI4 rfl rfl (hS.1 65 _ rfl) rfl rfl ?_
  refine lh_iconst rfl lh_k_0 ?_
  refine lh_istore_n (lv' := [(0, .ref (65 + 4)), (1, .int 0)]) rfl rfl rfl rfl ?_
  refine lh_iconst rfl lh_k_0 ?_
  refine lh_istore_n (lv' := [(0, .ref (65 + 4)), (1, .int 0), (2, .int 0)]) rfl rfl rfl rfl ?_
  refine lh_bdE hf (fun r17 e18 hf => ?_)
  refine t_LM_same_7 hG hS  _ 0 0 _ e18 ?_
  refine lh_iload_n (q := 0) rfl rfl rfl ?_
  exact lh_iret rfl rfl rfl (by obtain rfl := Option.some.inj hf; exact hK)
def f_LM_say (x1 : Int32) (x2 : Int32) (x3 : Int32) (I : lh_II) : Option (Int32 × lh_II) := lh_bd (f_LM_within x1 (0 : Int32) (7 : Int32)) fun r1 => if r1 = 0 then some (0, lh_u2 I (65 + 4) 0 0) else lh_bd (f_LM_isCell x2 (lh_u2 I (65 + 4) 0 0)) fun r4 => if r4 = 0 then some (0, lh_u2 I (65 + 4) 0 0) else if ((lh_u2 I (65 + 4) 0 0) (78 + 4) 7) = 8 then some (0, lh_u2 I (65 + 4) 0 0) else lh_gd (lh_ix (8 + (3 * ((lh_u2 I (65 + 4) 0 0) (78 + 4) 7))) 736) (lh_gd (lh_ix ((8 + (3 * ((lh_u2 I (65 + 4) 0 0) (78 + 4) 7))) + 1) 736) (if x3 = 0 then lh_gd (lh_ix ((8 + (3 * ((lh_u2 I (65 + 4) 0 0) (78 + 4) 7))) + 2) 736) (some (1, lh_u2 (lh_u2 (lh_u2 (lh_u2 (lh_u2 I (65 + 4) 0 0) (78 + 4) (8 + (3 * ((lh_u2 I (65 + 4) 0 0) (78 + 4) 7))).toNatClampNeg x1) (78 + 4) ((8 + (3 * ((lh_u2 I (65 + 4) 0 0) (78 + 4) 7))) + 1).toNatClampNeg x2) (78 + 4) ((8 + (3 * ((lh_u2 I (65 + 4) 0 0) (78 + 4) 7))) + 2).toNatClampNeg 0) (78 + 4) 7 (((lh_u2 (lh_u2 (lh_u2 (lh_u2 I (65 + 4) 0 0) (78 + 4) (8 + (3 * ((lh_u2 I (65 + 4) 0 0) (78 + 4) 7))).toNatClampNeg x1) (78 + 4) ((8 + (3 * ((lh_u2 I (65 + 4) 0 0) (78 + 4) 7))) + 1).toNatClampNeg x2) (78 + 4) ((8 + (3 * ((lh_u2 I (65 + 4) 0 0) (78 + 4) 7))) + 2).toNatClampNeg 0) (78 + 4) 7) + 1))) else lh_gd (lh_ix ((8 + (3 * ((lh_u2 I (65 + 4) 0 0) (78 + 4) 7))) + 2) 736) (some (1, lh_u2 (lh_u2 (lh_u2 (lh_u2 (lh_u2 I (65 + 4) 0 0) (78 + 4) (8 + (3 * ((lh_u2 I (65 + 4) 0 0) (78 + 4) 7))).toNatClampNeg x1) (78 + 4) ((8 + (3 * ((lh_u2 I (65 + 4) 0 0) (78 + 4) 7))) + 1).toNatClampNeg x2) (78 + 4) ((8 + (3 * ((lh_u2 I (65 + 4) 0 0) (78 + 4) 7))) + 2).toNatClampNeg 1) (78 + 4) 7 (((lh_u2 (lh_u2 (lh_u2 (lh_u2 I (65 + 4) 0 0) (78 + 4) (8 + (3 * ((lh_u2 I (65 + 4) 0 0) (78 + 4) 7))).toNatClampNeg x1) (78 + 4) ((8 + (3 * ((lh_u2 I (65 + 4) 0 0) (78 + 4) 7))) + 1).toNatClampNeg x2) (78 + 4) ((8 + (3 * ((lh_u2 I (65 + 4) 0 0) (78 + 4) 7))) + 2).toNatClampNeg 1) (78 + 4) 7) + 1)))))
theorem t_LM_say {Γ : lh_Cx} {I : lh_II} {L : lh_LL} {F : lh_FF} {S : lh_SS} {K : Int32 → lh_Hp → Prop} {r : Int32 × lh_II} (hG : lh_GX Γ) (hS : lh_lay F S)  {x1 : Int32} {x2 : Int32} {x3 : Int32} (hf : f_LM_say x1 x2 x3 I = some r) (hK : K r.1 (r.2, L, F, S)) : lh_Met Γ m_LM_say 2 0 0 [.ref (65 + 4), .int x1, .int x2, .int x3] (I, L, F, S) (lh_ki K) := by
  rw [f_LM_say] at hf
  refine lh_ofG k_LM_say [(0, .ref (65 + 4)), (1, .int x1), (2, .int x2), (3, .int x3)] rfl (Nat.le_of_ble_eq_true rfl) rfl ?_
  refine lh_aload_n (q := 0) rfl rfl rfl ?_
  refine lh_iconst rfl lh_k_0 ?_
  refine lh_putI4 rfl rfl (hS.1 65 _ rfl) rfl rfl ?_
  refine lh_iload_n (q := 1) rfl rfl rfl ?_
  refine lh_iconst rfl lh_k_0 ?_
  refine lh_bipush rfl lh_b_7 ?_
  refine lh_bdE hf (fun r1 e2 hf => ?_)
  refine lh_cSi (N := m_LM_within) (d := 0) (As := [.int x1, .int 0, .int 7]) (st := []) rfl rfl v_LM_within rfl rfl ⟨rfl, rfl⟩ rfl (t_LM_within hG hS e2 ?_)
  refine lh_if_eq rfl (fun c3 => ?_) (fun c3 => ?_)
  · have hf := lh_ifT hf c3
    refine lh_iconst rfl lh_k_0 ?_
    exact lh_iret rfl rfl (by decide) (by obtain rfl := Option.some.inj hf; exact hK)
  · have hf := lh_ifF hf c3
    refine lh_aload_n (q := 0) rfl rfl rfl ?_
    refine lh_iload_n (q := 2) rfl rfl rfl ?_
    refine lh_bdE hf (fun r4 e5 hf => ?_)
    refine lh_cVi (N := m_LM_isCell) (d := 1) (o := 65) (As := [.int x2]) (st := []) rfl rfl v_LM_isCell (hS.1 65 _ rfl) rfl rfl rfl ⟨rfl, rfl⟩ rfl (t_LM_isCell hG hS e5 ?_)
    refine lh_if_eq rfl (fun c6 => ?_) (fun c6 => ?_)
    · have hf := lh_ifT hf c6
      refine lh_iconst rfl lh_k_0 ?_
      exact lh_iret rfl rfl (by decide) (by obtain rfl := Option.some.inj hf; exact hK)
    · have hf := lh_ifF hf c6
      refine lh_aload_n (q := 0) rfl rfl rfl ?_
      refine lh_getR4 rfl rfl (hS.1 65 _ rfl) rfl (hS.2 20 _ rfl) ?_
      refine lh_bipush rfl lh_b_7 ?_
      refine lh_iald5 (k := 7) rfl (hS.1 78 _ rfl) (by decide) (by decide) ?_
      refine lh_bipush rfl lh_b_8 ?_
      refine lh_icmp_ne rfl (fun c7 => ?_) (fun c7 => ?_)
      · have hf := lh_ifF hf c7
        refine lh_bipush rfl lh_b_8 ?_
        refine lh_iconst rfl lh_k_3 ?_
        refine lh_aload_n (q := 0) rfl rfl rfl ?_
        refine lh_getR4 rfl rfl (hS.1 65 _ rfl) rfl (hS.2 20 _ rfl) ?_
        refine lh_bipush rfl lh_b_7 ?_
        refine lh_iald5 (k := 7) rfl (hS.1 78 _ rfl) (by decide) (by decide) ?_
        refine lh_imul rfl ?_
        refine lh_iadd rfl ?_
        refine lh_istore (lv' := [(0, .ref (65 + 4)), (1, .int x1), (2, .int x2), (3, .int x3), (4, .int (8 + (3 * ((lh_u2 I (65 + 4) 0 0) (78 + 4) 7))))]) rfl rfl rfl ?_
        refine lh_aload_n (q := 0) rfl rfl rfl ?_
        refine lh_getR4 rfl rfl (hS.1 65 _ rfl) rfl (hS.2 20 _ rfl) ?_
        refine lh_iload (q := 4) rfl rfl ?_
        refine lh_iload_n (q := 1) rfl rfl rfl ?_
        obtain ⟨g8, hf⟩ := lh_gdE hf
        refine lh_iast4 rfl (hS.1 78 _ rfl) g8 ?_
        refine lh_aload_n (q := 0) rfl rfl rfl ?_
        refine lh_getR4 rfl rfl (hS.1 65 _ rfl) rfl (hS.2 20 _ rfl) ?_
        refine lh_iload (q := 4) rfl rfl ?_
        refine lh_iconst rfl lh_k_1 ?_
        refine lh_iadd rfl ?_
        refine lh_iload_n (q := 2) rfl rfl rfl ?_
        obtain ⟨g9, hf⟩ := lh_gdE hf
        refine lh_iast4 rfl (hS.1 78 _ rfl) g9 ?_
        refine lh_aload_n (q := 0) rfl rfl rfl ?_
        refine lh_getR4 rfl rfl (hS.1 65 _ rfl) rfl (hS.2 20 _ rfl) ?_
        refine lh_iload (q := 4) rfl rfl ?_
        refine lh_iconst rfl lh_k_2 ?_
        refine lh_iadd rfl ?_
        refine lh_iload_n (q := 3) rfl rfl rfl ?_
        refine lh_if_eq rfl (fun c10 => ?_) (fun c10 => ?_)
        · have hf := lh_ifT hf c10
          refine lh_iconst rfl lh_k_0 ?_
          obtain ⟨g11, hf⟩ := lh_gdE hf
          refine lh_iast4 rfl (hS.1 78 _ rfl) g11 ?_
          refine lh_aload_n (q := 0) rfl rfl rfl ?_
          refine lh_getR4 rfl rfl (hS.1 65 _ rfl) rfl (hS.2 20 _ rfl) ?_
          refine lh_bipush rfl lh_b_7 ?_
          refine lh_dup2 rfl rfl rfl ?_
          refine lh_iald5 (k := 7) rfl (hS.1 78 _ rfl) (by decide) (by decide) ?_
          refine lh_iconst rfl lh_k_1 ?_
          refine lh_iadd rfl ?_
          refine lh_iast5 (k := 7) rfl (hS.1 78 _ rfl) (by decide) (by decide) ?_
          refine lh_iconst rfl lh_k_1 ?_
          exact lh_iret rfl rfl (by decide) (by obtain rfl := Option.some.inj hf; exact hK)
        · have hf := lh_ifF hf c10
          refine lh_iconst rfl lh_k_1 ?_
          refine lh_goto rfl ?_
          obtain ⟨g12, hf⟩ := lh_gdE hf
          refine lh_iast4 rfl (hS.1 78 _ rfl) g12 ?_
          refine lh_aload_n (q := 0) rfl rfl rfl ?_
          refine lh_getR4 rfl rfl (hS.1 65 _ rfl) rfl (hS.2 20 _ rfl) ?_
          refine lh_bipush rfl lh_b_7 ?_
          refine lh_dup2 rfl rfl rfl ?_
          refine lh_iald5 (k := 7) rfl (hS.1 78 _ rfl) (by decide) (by decide) ?_
          refine lh_iconst rfl lh_k_1 ?_
          refine lh_iadd rfl ?_
          refine lh_iast5 (k := 7) rfl (hS.1 78 _ rfl) (by decide) (by decide) ?_
          refine lh_iconst rfl lh_k_1 ?_
          exact lh_iret rfl rfl (by decide) (by obtain rfl := Option.some.inj hf; exact hK)
      · have hf := lh_ifT hf c7
        refine lh_iconst rfl lh_k_0 ?_
        exact lh_iret rfl rfl (by decide) (by obtain rfl := Option.some.inj hf; exact hK)
def f_LM_sees (I : lh_II) : Option (Int32 × lh_II) := lh_bd (f_LM_seenNow (0 : Int32) (lh_u2 I (65 + 4) 0 0)) fun r1 => some (r1.1, r1.2)
theorem t_LM_sees {Γ : lh_Cx} {I : lh_II} {L : lh_LL} {F : lh_FF} {S : lh_SS} {K : Int32 → lh_Hp → Prop} {r : Int32 × lh_II} (hG : lh_GX Γ) (hS : lh_lay F S)  (hf : f_LM_sees I = some r) (hK : K r.1 (r.2, L, F, S)) : lh_Met Γ m_LM_sees 5 0 0 [.ref (65 + 4)] (I, L, F, S) (lh_ki K) := by
  rw [f_LM_sees] at hf
  refine lh_ofG k_LM_sees [(0, .ref (65 + 4))] rfl (Nat.le_of_ble_eq_true rfl) rfl ?_
  refine lh_aload_n (q := 0) rfl rfl rfl ?_
  refine lh_iconst rfl lh_k_0 ?_
  refine lh_putI4 rfl rfl (hS.1 65 _ rfl) rfl rfl ?_
  refine lh_aload_n (q := 0) rfl rfl rfl ?_
  refine lh_iconst rfl lh_k_0 ?_
  refine lh_bdE hf (fun r1 e2 hf => ?_)
  refine lh_cVi (N := m_LM_seenNow) (d := 4) (o := 65) (As := [.int 0]) (st := []) rfl rfl v_LM_seenNow (hS.1 65 _ rfl) rfl rfl rfl ⟨rfl, rfl⟩ rfl (t_LM_seenNow hG hS e2 ?_)
  exact lh_iret rfl rfl rfl (by obtain rfl := Option.some.inj hf; exact hK)
def f_LM_shortest_22 (v1 : Int32) : Nat → Int32 → lh_LL → Option (lh_LL)
  | 0, _, _ => none
  | n + 1, v2, L => if 12 ≤ v2 then some L else lh_gd (lh_ix v2 24) (f_LM_shortest_22 v1 n (v2 + 1) (lh_v2 L (80 + 4) v2.toNatClampNeg 0))
def f_LM_shortest_54 (v1 : Int32) (v2 : Int32) (L : lh_LL) : Nat → Int32 → Int32 → Option (Int32)
  | 0, _, _ => none
  | n + 1, v3, v4 => if 12 ≤ v4 then some v3 else if v3 = 0 then lh_gd (lh_ix v4 24) (lh_bd (f_LM_isWithAll (L (80 + 4) v4.toNatClampNeg) v1) fun r17 => if r17 = 0 then f_LM_shortest_54 v1 v2 L n 0 (v4 + 1) else f_LM_shortest_54 v1 v2 L n 1 (v4 + 1)) else f_LM_shortest_54 v1 v2 L n 1 (v4 + 1)
def f_LM_shortest_47 (v1 : Int32) : Nat → Int32 → lh_II → lh_LL → Option (Nat × Int32 × lh_II × lh_LL)
  | 0, _, _, _ => none
  | n + 1, v2, I, L => if 40 < v2 then some (1, v2, I, L) else lh_bd (f_LM_shortest_54 v1 v2 L lh_fuel 0 0) fun r20 => if r20 = 0 then lh_bd (f_LM_goesOn I L) fun r23 => f_LM_shortest_47 v1 n (v2 + 1) r23.1 r23.2 else some (0, v2, I, L)
def f_LM_shortest (x1 : Int32) (I : lh_II) (L : lh_LL) : Option (Int32 × lh_II × lh_LL) := lh_bd (f_LM_visitors (lh_u2 I (65 + 4) 0 0)) fun r1 => lh_bd (f_LM_within x1 (0 : Int32) ((1 <<< (r1 &&& 31)) - 1)) fun r3 => if r3 = 0 then some ((-1), lh_u2 I (65 + 4) 0 0, L) else lh_bd (f_LM_copies (0 : Int32) (672 : Int32) (7 : Int32) (lh_u2 I (65 + 4) 0 0)) fun r6 => lh_bd (f_LM_shortest_22 x1 lh_fuel 0 L) fun r10 => lh_gd (lh_ix (r6 (78 + 4) 5) 24) (lh_bd (f_LM_shortest_47 x1 lh_fuel 0 r6 (lh_v2 r10 (80 + 4) (r6 (78 + 4) 5).toNatClampNeg (1 <<< ((r6 (78 + 4) 6).toInt64 &&& 63)))) fun r25 => if r25.1 = 0 then some (r25.2.1, r25.2.2.1, r25.2.2.2) else some ((-1), r25.2.2.1, r25.2.2.2))
theorem t_LM_shortest_22 {Γ : lh_Cx} {F : lh_FF} {S : lh_SS} {Z : List Frame → Array Value → State → State → Prop} (hG : lh_GX Γ) (hS : lh_lay F S)  {v1 : Int32} {I : lh_II} : ∀ (n : Nat) (v2 : Int32) (L : lh_LL) (o : lh_LL), f_LM_shortest_22 v1 n v2 L = some o → ∀ (x0_ : lh_G Γ m_LM_shortest (lh_R 8 0 0) Z 0 0 32 [(0, .ref (65 + 4)), (1, .int v1)] [] (I, o, F, S)), lh_G Γ m_LM_shortest (lh_R 8 0 0) Z 0 0 22 [(0, .ref (65 + 4)), (1, .int v1), (2, .int v2)] [] (I, L, F, S) := by
  intro n
  induction n with
  | zero => intro v2 L o hf; cases hf
  | succ n ih =>
    intro v2 L o hf x0_
    rw [f_LM_shortest_22] at hf
    refine lh_iload_n (q := 2) rfl rfl rfl ?_
    refine lh_bipush rfl lh_b_12 ?_
    refine lh_icmp_ge rfl (fun c8 => ?_) (fun c8 => ?_)
    · have hf := lh_ifT hf c8
      exact lh_less [0, 1] rfl (by cases hf; exact x0_)
    · have hf := lh_ifF hf c8
      refine lh_aload_n (q := 0) rfl rfl rfl ?_
      refine lh_getR4 rfl rfl (hS.1 65 _ rfl) rfl (hS.2 22 _ rfl) ?_
      refine lh_iload_n (q := 2) rfl rfl rfl ?_
      refine lh_lconst (v := 0) rfl (by decide) ?_
      obtain ⟨g9, hf⟩ := lh_gdE hf
      refine lh_last4 rfl (hS.1 80 _ rfl) g9 ?_
      refine lh_iinc (q := 2) (v := (v2 + 1)) (lv' := [(0, .ref (65 + 4)), (1, .int v1), (2, .int (v2 + 1))]) rfl rfl (congrArg (v2 + ·) (by decide)) rfl rfl ?_
      refine lh_goto rfl ?_
      exact ih (v2 + 1) (lh_v2 L (80 + 4) v2.toNatClampNeg 0) _ hf x0_
theorem t_LM_shortest_54 {Γ : lh_Cx} {F : lh_FF} {S : lh_SS} {Z : List Frame → Array Value → State → State → Prop} (hG : lh_GX Γ) (hS : lh_lay F S)  {v1 : Int32} {v2 : Int32} {I : lh_II} {L : lh_LL} : ∀ (n : Nat) (v3 : Int32) (v4 : Int32) (o : Int32), f_LM_shortest_54 v1 v2 L n v3 v4 = some o → ∀ (x0_ : lh_G Γ m_LM_shortest (lh_R 8 0 0) Z 0 0 72 [(0, .ref (65 + 4)), (1, .int v1), (2, .int v2), (3, .int o)] [] (I, L, F, S)), lh_G Γ m_LM_shortest (lh_R 8 0 0) Z 0 0 54 [(0, .ref (65 + 4)), (1, .int v1), (2, .int v2), (3, .int v3), (4, .int v4)] [] (I, L, F, S) := by
  intro n
  induction n with
  | zero => intro v3 v4 o hf; cases hf
  | succ n ih =>
    intro v3 v4 o hf x0_
    rw [f_LM_shortest_54] at hf
    refine lh_iload (q := 4) rfl rfl ?_
    refine lh_bipush rfl lh_b_12 ?_
    refine lh_icmp_ge rfl (fun c14 => ?_) (fun c14 => ?_)
    · have hf := lh_ifT hf c14
      exact lh_less [0, 1, 2, 3] rfl (by cases hf; exact x0_)
    · have hf := lh_ifF hf c14
      refine lh_iload_n (q := 3) rfl rfl rfl ?_
      refine lh_if_ne rfl (fun c15 => ?_) (fun c15 => ?_)
      · have hf := lh_ifF hf c15
        refine lh_iconst rfl lh_k_1 ?_
        refine lh_goto rfl ?_
        refine lh_istore_n (lv' := [(0, .ref (65 + 4)), (1, .int v1), (2, .int v2), (3, .int 1), (4, .int v4)]) rfl rfl rfl rfl ?_
        refine lh_iinc (q := 4) (v := (v4 + 1)) (lv' := [(0, .ref (65 + 4)), (1, .int v1), (2, .int v2), (3, .int 1), (4, .int (v4 + 1))]) rfl rfl (congrArg (v4 + ·) (by decide)) rfl rfl ?_
        refine lh_goto rfl ?_
        exact ih 1 (v4 + 1) _ hf x0_
      · have hf := lh_ifT hf c15
        refine lh_aload_n (q := 0) rfl rfl rfl ?_
        refine lh_getR4 rfl rfl (hS.1 65 _ rfl) rfl (hS.2 22 _ rfl) ?_
        refine lh_iload (q := 4) rfl rfl ?_
        obtain ⟨g16, hf⟩ := lh_gdE hf
        refine lh_lald4 rfl (hS.1 80 _ rfl) g16 ?_
        refine lh_iload_n (q := 1) rfl rfl rfl ?_
        refine lh_bdE hf (fun r17 e18 hf => ?_)
        refine lh_cSi (N := m_LM_isWithAll) (d := 0) (As := [.long (L (80 + 4) v4.toNatClampNeg), .int v1]) (st := []) rfl rfl v_LM_isWithAll rfl rfl ⟨rfl, rfl⟩ rfl (t_LM_isWithAll hG hS e18 ?_)
        refine lh_if_eq rfl (fun c19 => ?_) (fun c19 => ?_)
        · have hf := lh_ifT hf c19
          refine lh_iconst rfl lh_k_0 ?_
          refine lh_istore_n (lv' := [(0, .ref (65 + 4)), (1, .int v1), (2, .int v2), (3, .int 0), (4, .int v4)]) rfl rfl rfl rfl ?_
          refine lh_iinc (q := 4) (v := (v4 + 1)) (lv' := [(0, .ref (65 + 4)), (1, .int v1), (2, .int v2), (3, .int 0), (4, .int (v4 + 1))]) rfl rfl (congrArg (v4 + ·) (by decide)) rfl rfl ?_
          refine lh_goto rfl ?_
          exact ih 0 (v4 + 1) _ hf x0_
        · have hf := lh_ifF hf c19
          refine lh_iconst rfl lh_k_1 ?_
          refine lh_goto rfl ?_
          refine lh_istore_n (lv' := [(0, .ref (65 + 4)), (1, .int v1), (2, .int v2), (3, .int 1), (4, .int v4)]) rfl rfl rfl rfl ?_
          refine lh_iinc (q := 4) (v := (v4 + 1)) (lv' := [(0, .ref (65 + 4)), (1, .int v1), (2, .int v2), (3, .int 1), (4, .int (v4 + 1))]) rfl rfl (congrArg (v4 + ·) (by decide)) rfl rfl ?_
          refine lh_goto rfl ?_
          exact ih 1 (v4 + 1) _ hf x0_
theorem t_LM_shortest_47 {Γ : lh_Cx} {F : lh_FF} {S : lh_SS} {Z : List Frame → Array Value → State → State → Prop} (hG : lh_GX Γ) (hS : lh_lay F S)  {v1 : Int32} : ∀ (n : Nat) (v2 : Int32) (I : lh_II) (L : lh_LL) (o : Nat × Int32 × lh_II × lh_LL), f_LM_shortest_47 v1 n v2 I L = some o → ∀ (x0_ : o.1 = 0 → lh_G Γ m_LM_shortest (lh_R 8 0 0) Z 0 0 74 [(2, .int o.2.1)] [] (o.2.2.1, o.2.2.2, F, S)), ∀ (x1_ : o.1 = 1 → lh_G Γ m_LM_shortest (lh_R 8 0 0) Z 0 0 80 [] [] (o.2.2.1, o.2.2.2, F, S)), lh_G Γ m_LM_shortest (lh_R 8 0 0) Z 0 0 47 [(0, .ref (65 + 4)), (1, .int v1), (2, .int v2)] [] (I, L, F, S) := by
  intro n
  induction n with
  | zero => intro v2 I L o hf; cases hf
  | succ n ih =>
    intro v2 I L o hf x0_ x1_
    rw [f_LM_shortest_47] at hf
    refine lh_iload_n (q := 2) rfl rfl rfl ?_
    refine lh_bipush rfl lh_b_40 ?_
    refine lh_icmp_gt rfl (fun c13 => ?_) (fun c13 => ?_)
    · have hf := lh_ifT hf c13
      exact lh_less [] rfl (by cases hf; exact x1_ rfl)
    · have hf := lh_ifF hf c13
      refine lh_iconst rfl lh_k_0 ?_
      refine lh_istore_n (lv' := [(0, .ref (65 + 4)), (1, .int v1), (2, .int v2), (3, .int 0)]) rfl rfl rfl rfl ?_
      refine lh_iconst rfl lh_k_0 ?_
      refine lh_istore (lv' := [(0, .ref (65 + 4)), (1, .int v1), (2, .int v2), (3, .int 0), (4, .int 0)]) rfl rfl rfl ?_
      refine lh_bdE hf (fun r20 e21 hf => ?_)
      refine t_LM_shortest_54 hG hS  _ 0 0 _ e21 ?_
      refine lh_iload_n (q := 3) rfl rfl rfl ?_
      refine lh_if_eq rfl (fun c22 => ?_) (fun c22 => ?_)
      · have hf := lh_ifT hf c22
        refine lh_aload_n (q := 0) rfl rfl rfl ?_
        refine lh_bdE hf (fun r23 e24 hf => ?_)
        refine lh_cVv (N := m_LM_goesOn) (d := 7) (o := 65) (As := []) (st := []) rfl rfl v_LM_goesOn (hS.1 65 _ rfl) rfl rfl rfl ⟨rfl, rfl⟩ rfl (t_LM_goesOn hG hS e24 ?_)
        refine lh_iinc (q := 2) (v := (v2 + 1)) (lv' := [(0, .ref (65 + 4)), (1, .int v1), (2, .int (v2 + 1)), (3, .int r20)]) rfl rfl (congrArg (v2 + ·) (by decide)) rfl rfl ?_
        refine lh_goto rfl ?_
        refine lh_less [0, 1, 2] rfl ?_
        exact ih (v2 + 1) r23.1 r23.2 _ hf x0_ x1_
      · have hf := lh_ifF hf c22
        exact lh_less [2] rfl (by cases hf; exact x0_ rfl)
theorem t_LM_shortest {Γ : lh_Cx} {I : lh_II} {L : lh_LL} {F : lh_FF} {S : lh_SS} {K : Int32 → lh_Hp → Prop} {r : Int32 × lh_II × lh_LL} (hG : lh_GX Γ) (hS : lh_lay F S)  {x1 : Int32} (hf : f_LM_shortest x1 I L = some r) (hK : K r.1 (r.2.1, r.2.2, F, S)) : lh_Met Γ m_LM_shortest 8 0 0 [.ref (65 + 4), .int x1] (I, L, F, S) (lh_ki K) := by
  rw [f_LM_shortest] at hf
  refine lh_ofG k_LM_shortest [(0, .ref (65 + 4)), (1, .int x1)] rfl (Nat.le_of_ble_eq_true rfl) rfl ?_
  refine lh_aload_n (q := 0) rfl rfl rfl ?_
  refine lh_iconst rfl lh_k_0 ?_
  refine lh_putI4 rfl rfl (hS.1 65 _ rfl) rfl rfl ?_
  refine lh_iload_n (q := 1) rfl rfl rfl ?_
  refine lh_iconst rfl lh_k_0 ?_
  refine lh_iconst rfl lh_k_1 ?_
  refine lh_aload_n (q := 0) rfl rfl rfl ?_
  refine lh_bdE hf (fun r1 e2 hf => ?_)
  refine lh_cVi (N := m_LM_visitors) (d := 0) (o := 65) (As := []) (st := [.int 1, .int 0, .int x1]) rfl rfl v_LM_visitors (hS.1 65 _ rfl) rfl rfl rfl ⟨rfl, rfl⟩ rfl (t_LM_visitors hG hS e2 ?_)
  refine lh_ishl rfl ?_
  refine lh_iconst rfl lh_k_1 ?_
  refine lh_isub rfl ?_
  refine lh_bdE hf (fun r3 e4 hf => ?_)
  refine lh_cSi (N := m_LM_within) (d := 0) (As := [.int x1, .int 0, .int ((1 <<< (r1 &&& 31)) - 1)]) (st := []) rfl rfl v_LM_within rfl rfl ⟨rfl, rfl⟩ rfl (t_LM_within hG hS e4 ?_)
  refine lh_if_ne rfl (fun c5 => ?_) (fun c5 => ?_)
  · have hf := lh_ifF hf c5
    refine lh_aload_n (q := 0) rfl rfl rfl ?_
    refine lh_iconst rfl lh_k_0 ?_
    refine lh_sipush rfl lh_s_672 ?_
    refine lh_bipush rfl lh_b_7 ?_
    refine lh_bdE hf (fun r6 e7 hf => ?_)
    refine lh_cVv (N := m_LM_copies) (d := 0) (o := 65) (As := [.int 0, .int 672, .int 7]) (st := []) rfl rfl v_LM_copies (hS.1 65 _ rfl) rfl rfl rfl ⟨rfl, rfl⟩ rfl (t_LM_copies hG hS e7 ?_)
    refine lh_iconst rfl lh_k_0 ?_
    refine lh_istore_n (lv' := [(0, .ref (65 + 4)), (1, .int x1), (2, .int 0)]) rfl rfl rfl rfl ?_
    refine lh_bdE hf (fun r10 e11 hf => ?_)
    refine t_LM_shortest_22 hG hS  _ 0 L _ e11 ?_
    refine lh_aload_n (q := 0) rfl rfl rfl ?_
    refine lh_getR4 rfl rfl (hS.1 65 _ rfl) rfl (hS.2 22 _ rfl) ?_
    refine lh_aload_n (q := 0) rfl rfl rfl ?_
    refine lh_getR4 rfl rfl (hS.1 65 _ rfl) rfl (hS.2 20 _ rfl) ?_
    refine lh_iconst rfl lh_k_5 ?_
    refine lh_iald5 (k := 5) rfl (hS.1 78 _ rfl) (by decide) (by decide) ?_
    refine lh_lconst (v := 1) rfl (by decide) ?_
    refine lh_aload_n (q := 0) rfl rfl rfl ?_
    refine lh_getR4 rfl rfl (hS.1 65 _ rfl) rfl (hS.2 20 _ rfl) ?_
    refine lh_bipush rfl lh_b_6 ?_
    refine lh_iald5 (k := 6) rfl (hS.1 78 _ rfl) (by decide) (by decide) ?_
    refine lh_lshl rfl ?_
    obtain ⟨g12, hf⟩ := lh_gdE hf
    refine lh_last4 rfl (hS.1 80 _ rfl) g12 ?_
    refine lh_iconst rfl lh_k_0 ?_
    refine lh_istore_n (lv' := [(0, .ref (65 + 4)), (1, .int x1), (2, .int 0)]) rfl rfl rfl rfl ?_
    refine lh_bdE hf (fun r25 e26 hf => ?_)
    refine t_LM_shortest_47 hG hS  _ 0 r6 (lh_v2 r10 (80 + 4) (r6 (78 + 4) 5).toNatClampNeg (1 <<< ((r6 (78 + 4) 6).toInt64 &&& 63))) _ e26 (fun q0_ => ?_) (fun q1_ => ?_)
    · have hf := lh_ifT hf q0_
      refine lh_iload_n (q := 0) rfl rfl rfl ?_
      exact lh_iret rfl rfl rfl (by obtain rfl := Option.some.inj hf; exact hK)
    · have hf := lh_ifF hf (by rw [q1_]; decide)
      refine lh_iconst rfl lh_k_m1 ?_
      exact lh_iret rfl rfl rfl (by obtain rfl := Option.some.inj hf; exact hK)
  · have hf := lh_ifT hf c5
    refine lh_iconst rfl lh_k_m1 ?_
    exact lh_iret rfl rfl rfl (by obtain rfl := Option.some.inj hf; exact hK)
def f_LM_shown (x1 : Int32) (I : lh_II) : Option (Int32 × lh_II) := lh_bd (f_LM_isCell x1 (lh_u2 I (65 + 4) 0 0)) fun r1 => if r1 = 0 then some ((-1), lh_u2 I (65 + 4) 0 0) else lh_bd (f_LM_lightOf (0 : Int32) (lh_u2 I (65 + 4) 0 0)) fun r4 => if ((r4 >>> (x1 &&& 31)) &&& 1) = 1 then lh_bd (f_LM_dayShown (0 : Int32) ((lh_u2 I (65 + 4) 0 0) (78 + 4) 5) x1 (lh_u2 I (65 + 4) 0 0)) fun r7 => some (r7.1, r7.2) else some ((-1), lh_u2 I (65 + 4) 0 0)
theorem t_LM_shown {Γ : lh_Cx} {I : lh_II} {L : lh_LL} {F : lh_FF} {S : lh_SS} {K : Int32 → lh_Hp → Prop} {r : Int32 × lh_II} (hG : lh_GX Γ) (hS : lh_lay F S)  {x1 : Int32} (hf : f_LM_shown x1 I = some r) (hK : K r.1 (r.2, L, F, S)) : lh_Met Γ m_LM_shown 4 0 0 [.ref (65 + 4), .int x1] (I, L, F, S) (lh_ki K) := by
  rw [f_LM_shown] at hf
  refine lh_ofG k_LM_shown [(0, .ref (65 + 4)), (1, .int x1)] rfl (Nat.le_of_ble_eq_true rfl) rfl ?_
  refine lh_aload_n (q := 0) rfl rfl rfl ?_
  refine lh_iconst rfl lh_k_0 ?_
  refine lh_putI4 rfl rfl (hS.1 65 _ rfl) rfl rfl ?_
  refine lh_aload_n (q := 0) rfl rfl rfl ?_
  refine lh_iload_n (q := 1) rfl rfl rfl ?_
  refine lh_bdE hf (fun r1 e2 hf => ?_)
  refine lh_cVi (N := m_LM_isCell) (d := 1) (o := 65) (As := [.int x1]) (st := []) rfl rfl v_LM_isCell (hS.1 65 _ rfl) rfl rfl rfl ⟨rfl, rfl⟩ rfl (t_LM_isCell hG hS e2 ?_)
  refine lh_if_eq rfl (fun c3 => ?_) (fun c3 => ?_)
  · have hf := lh_ifT hf c3
    refine lh_iconst rfl lh_k_m1 ?_
    exact lh_iret rfl rfl rfl (by obtain rfl := Option.some.inj hf; exact hK)
  · have hf := lh_ifF hf c3
    refine lh_aload_n (q := 0) rfl rfl rfl ?_
    refine lh_iconst rfl lh_k_0 ?_
    refine lh_bdE hf (fun r4 e5 hf => ?_)
    refine lh_cVi (N := m_LM_lightOf) (d := 3) (o := 65) (As := [.int 0]) (st := []) rfl rfl v_LM_lightOf (hS.1 65 _ rfl) rfl rfl rfl ⟨rfl, rfl⟩ rfl (t_LM_lightOf hG hS e5 ?_)
    refine lh_iload_n (q := 1) rfl rfl rfl ?_
    refine lh_ishr rfl ?_
    refine lh_iconst rfl lh_k_1 ?_
    refine lh_iand rfl ?_
    refine lh_iconst rfl lh_k_1 ?_
    refine lh_icmp_ne rfl (fun c6 => ?_) (fun c6 => ?_)
    · have hf := lh_ifF hf c6
      refine lh_iconst rfl lh_k_m1 ?_
      exact lh_iret rfl rfl rfl (by obtain rfl := Option.some.inj hf; exact hK)
    · have hf := lh_ifT hf c6
      refine lh_aload_n (q := 0) rfl rfl rfl ?_
      refine lh_iconst rfl lh_k_0 ?_
      refine lh_aload_n (q := 0) rfl rfl rfl ?_
      refine lh_getR4 rfl rfl (hS.1 65 _ rfl) rfl (hS.2 20 _ rfl) ?_
      refine lh_iconst rfl lh_k_5 ?_
      refine lh_iald5 (k := 5) rfl (hS.1 78 _ rfl) (by decide) (by decide) ?_
      refine lh_iload_n (q := 1) rfl rfl rfl ?_
      refine lh_bdE hf (fun r7 e8 hf => ?_)
      refine lh_cVi (N := m_LM_dayShown) (d := 2) (o := 65) (As := [.int 0, .int ((lh_u2 I (65 + 4) 0 0) (78 + 4) 5), .int x1]) (st := []) rfl rfl v_LM_dayShown (hS.1 65 _ rfl) rfl rfl rfl ⟨rfl, rfl⟩ rfl (t_LM_dayShown hG hS e8 ?_)
      refine lh_goto rfl ?_
      exact lh_iret rfl rfl rfl (by obtain rfl := Option.some.inj hf; exact hK)
def f_LM_step (x1 : Int32) (I : lh_II) : Option (Int32 × lh_II) := lh_bd (f_LM_within x1 ((-1) : Int32) (1 : Int32)) fun r1 => if r1 = 0 then some ((-1), lh_u2 I (65 + 4) 0 0) else lh_bd (f_LM_keeps (lh_u2 I (65 + 4) 0 0)) fun r4 => lh_bd (f_LM_steps (0 : Int32) x1 r4) fun r6 => some (r6.1, r6.2)
theorem t_LM_step {Γ : lh_Cx} {I : lh_II} {L : lh_LL} {F : lh_FF} {S : lh_SS} {K : Int32 → lh_Hp → Prop} {r : Int32 × lh_II} (hG : lh_GX Γ) (hS : lh_lay F S)  {x1 : Int32} (hf : f_LM_step x1 I = some r) (hK : K r.1 (r.2, L, F, S)) : lh_Met Γ m_LM_step 8 0 0 [.ref (65 + 4), .int x1] (I, L, F, S) (lh_ki K) := by
  rw [f_LM_step] at hf
  refine lh_ofG k_LM_step [(0, .ref (65 + 4)), (1, .int x1)] rfl (Nat.le_of_ble_eq_true rfl) rfl ?_
  refine lh_aload_n (q := 0) rfl rfl rfl ?_
  refine lh_iconst rfl lh_k_0 ?_
  refine lh_putI4 rfl rfl (hS.1 65 _ rfl) rfl rfl ?_
  refine lh_iload_n (q := 1) rfl rfl rfl ?_
  refine lh_iconst rfl lh_k_m1 ?_
  refine lh_iconst rfl lh_k_1 ?_
  refine lh_bdE hf (fun r1 e2 hf => ?_)
  refine lh_cSi (N := m_LM_within) (d := 0) (As := [.int x1, .int (-1), .int 1]) (st := []) rfl rfl v_LM_within rfl rfl ⟨rfl, rfl⟩ rfl (t_LM_within hG hS e2 ?_)
  refine lh_if_ne rfl (fun c3 => ?_) (fun c3 => ?_)
  · have hf := lh_ifF hf c3
    refine lh_aload_n (q := 0) rfl rfl rfl ?_
    refine lh_bdE hf (fun r4 e5 hf => ?_)
    refine lh_cVv (N := m_LM_keeps) (d := 1) (o := 65) (As := []) (st := []) rfl rfl v_LM_keeps (hS.1 65 _ rfl) rfl rfl rfl ⟨rfl, rfl⟩ rfl (t_LM_keeps hG hS e5 ?_)
    refine lh_aload_n (q := 0) rfl rfl rfl ?_
    refine lh_iconst rfl lh_k_0 ?_
    refine lh_iload_n (q := 1) rfl rfl rfl ?_
    refine lh_bdE hf (fun r6 e7 hf => ?_)
    refine lh_cVi (N := m_LM_steps) (d := 7) (o := 65) (As := [.int 0, .int x1]) (st := []) rfl rfl v_LM_steps (hS.1 65 _ rfl) rfl rfl rfl ⟨rfl, rfl⟩ rfl (t_LM_steps hG hS e7 ?_)
    exact lh_iret rfl rfl rfl (by obtain rfl := Option.some.inj hf; exact hK)
  · have hf := lh_ifT hf c3
    refine lh_iconst rfl lh_k_m1 ?_
    exact lh_iret rfl rfl rfl (by obtain rfl := Option.some.inj hf; exact hK)
def f_LM_taken (x1 : Int32) (x2 : Int32) (x3 : Int32) (I : lh_II) : Option (Int32 × lh_II) := lh_bd (f_LM_isVase x1 (lh_u2 I (65 + 4) 0 0)) fun r1 => if r1 = 0 then some ((-1), lh_u2 I (65 + 4) 0 0) else lh_bd (f_LM_within x2 (0 : Int32) (3 : Int32)) fun r4 => if r4 = 0 then some ((-1), lh_u2 I (65 + 4) 0 0) else lh_bd (f_LM_within x3 (0 : Int32) (1 : Int32)) fun r7 => if r7 = 0 then some ((-1), lh_u2 I (65 + 4) 0 0) else lh_bd (f_LM_takenOf x1 x2 (lh_u2 I (65 + 4) 0 0)) fun r10 => if r10 < 0 then some (r10, lh_u2 I (65 + 4) 0 0) else if x3 = 0 then some (r10, lh_u2 I (65 + 4) 0 0) else lh_bd (f_LM_thiefOf x1 x2 r10 (lh_u2 I (65 + 4) 0 0)) fun r14 => some (r14, lh_u2 I (65 + 4) 0 0)
theorem t_LM_taken {Γ : lh_Cx} {I : lh_II} {L : lh_LL} {F : lh_FF} {S : lh_SS} {K : Int32 → lh_Hp → Prop} {r : Int32 × lh_II} (hG : lh_GX Γ) (hS : lh_lay F S)  {x1 : Int32} {x2 : Int32} {x3 : Int32} (hf : f_LM_taken x1 x2 x3 I = some r) (hK : K r.1 (r.2, L, F, S)) : lh_Met Γ m_LM_taken 4 0 0 [.ref (65 + 4), .int x1, .int x2, .int x3] (I, L, F, S) (lh_ki K) := by
  rw [f_LM_taken] at hf
  refine lh_ofG k_LM_taken [(0, .ref (65 + 4)), (1, .int x1), (2, .int x2), (3, .int x3)] rfl (Nat.le_of_ble_eq_true rfl) rfl ?_
  refine lh_aload_n (q := 0) rfl rfl rfl ?_
  refine lh_iconst rfl lh_k_0 ?_
  refine lh_putI4 rfl rfl (hS.1 65 _ rfl) rfl rfl ?_
  refine lh_aload_n (q := 0) rfl rfl rfl ?_
  refine lh_iload_n (q := 1) rfl rfl rfl ?_
  refine lh_bdE hf (fun r1 e2 hf => ?_)
  refine lh_cVi (N := m_LM_isVase) (d := 1) (o := 65) (As := [.int x1]) (st := []) rfl rfl v_LM_isVase (hS.1 65 _ rfl) rfl rfl rfl ⟨rfl, rfl⟩ rfl (t_LM_isVase hG hS e2 ?_)
  refine lh_if_eq rfl (fun c3 => ?_) (fun c3 => ?_)
  · have hf := lh_ifT hf c3
    refine lh_iconst rfl lh_k_m1 ?_
    exact lh_iret rfl rfl rfl (by obtain rfl := Option.some.inj hf; exact hK)
  · have hf := lh_ifF hf c3
    refine lh_iload_n (q := 2) rfl rfl rfl ?_
    refine lh_iconst rfl lh_k_0 ?_
    refine lh_iconst rfl lh_k_3 ?_
    refine lh_bdE hf (fun r4 e5 hf => ?_)
    refine lh_cSi (N := m_LM_within) (d := 0) (As := [.int x2, .int 0, .int 3]) (st := []) rfl rfl v_LM_within rfl rfl ⟨rfl, rfl⟩ rfl (t_LM_within hG hS e5 ?_)
    refine lh_if_eq rfl (fun c6 => ?_) (fun c6 => ?_)
    · have hf := lh_ifT hf c6
      refine lh_iconst rfl lh_k_m1 ?_
      exact lh_iret rfl rfl rfl (by obtain rfl := Option.some.inj hf; exact hK)
    · have hf := lh_ifF hf c6
      refine lh_iload_n (q := 3) rfl rfl rfl ?_
      refine lh_iconst rfl lh_k_0 ?_
      refine lh_iconst rfl lh_k_1 ?_
      refine lh_bdE hf (fun r7 e8 hf => ?_)
      refine lh_cSi (N := m_LM_within) (d := 0) (As := [.int x3, .int 0, .int 1]) (st := []) rfl rfl v_LM_within rfl rfl ⟨rfl, rfl⟩ rfl (t_LM_within hG hS e8 ?_)
      refine lh_if_ne rfl (fun c9 => ?_) (fun c9 => ?_)
      · have hf := lh_ifF hf c9
        refine lh_aload_n (q := 0) rfl rfl rfl ?_
        refine lh_iload_n (q := 1) rfl rfl rfl ?_
        refine lh_iload_n (q := 2) rfl rfl rfl ?_
        refine lh_bdE hf (fun r10 e11 hf => ?_)
        refine lh_cVi (N := m_LM_takenOf) (d := 3) (o := 65) (As := [.int x1, .int x2]) (st := []) rfl rfl v_LM_takenOf (hS.1 65 _ rfl) rfl rfl rfl ⟨rfl, rfl⟩ rfl (t_LM_takenOf hG hS e11 ?_)
        refine lh_istore (lv' := [(0, .ref (65 + 4)), (1, .int x1), (2, .int x2), (3, .int x3), (4, .int r10)]) rfl rfl rfl ?_
        refine lh_iload (q := 4) rfl rfl ?_
        refine lh_if_lt rfl (fun c12 => ?_) (fun c12 => ?_)
        · have hf := lh_ifT hf c12
          refine lh_iload (q := 4) rfl rfl ?_
          refine lh_goto rfl ?_
          exact lh_iret rfl rfl rfl (by obtain rfl := Option.some.inj hf; exact hK)
        · have hf := lh_ifF hf c12
          refine lh_iload_n (q := 3) rfl rfl rfl ?_
          refine lh_if_ne rfl (fun c13 => ?_) (fun c13 => ?_)
          · have hf := lh_ifF hf c13
            refine lh_aload_n (q := 0) rfl rfl rfl ?_
            refine lh_iload_n (q := 1) rfl rfl rfl ?_
            refine lh_iload_n (q := 2) rfl rfl rfl ?_
            refine lh_iload (q := 4) rfl rfl ?_
            refine lh_bdE hf (fun r14 e15 hf => ?_)
            refine lh_cVi (N := m_LM_thiefOf) (d := 2) (o := 65) (As := [.int x1, .int x2, .int r10]) (st := []) rfl rfl v_LM_thiefOf (hS.1 65 _ rfl) rfl rfl rfl ⟨rfl, rfl⟩ rfl (t_LM_thiefOf hG hS e15 ?_)
            exact lh_iret rfl rfl rfl (by obtain rfl := Option.some.inj hf; exact hK)
          · have hf := lh_ifT hf c13
            refine lh_iload (q := 4) rfl rfl ?_
            refine lh_goto rfl ?_
            exact lh_iret rfl rfl rfl (by obtain rfl := Option.some.inj hf; exact hK)
      · have hf := lh_ifT hf c9
        refine lh_iconst rfl lh_k_m1 ?_
        exact lh_iret rfl rfl rfl (by obtain rfl := Option.some.inj hf; exact hK)
def f_LM_thrown (I : lh_II) : Option (Int32) := some (I (65 + 4) 0)
theorem t_LM_thrown {Γ : lh_Cx} {I : lh_II} {L : lh_LL} {F : lh_FF} {S : lh_SS} {K : Int32 → lh_Hp → Prop} {r : Int32} (hG : lh_GX Γ) (hS : lh_lay F S)  (hf : f_LM_thrown I = some r) (hK : K r (I, L, F, S)) : lh_Met Γ m_LM_thrown 0 0 0 [.ref (65 + 4)] (I, L, F, S) (lh_ki K) := by
  rw [f_LM_thrown] at hf
  refine lh_ofG k_LM_thrown [(0, .ref (65 + 4))] rfl (Nat.le_of_ble_eq_true rfl) rfl ?_
  refine lh_aload_n (q := 0) rfl rfl rfl ?_
  refine lh_getI4 rfl rfl (hS.1 65 _ rfl) rfl ?_
  exact lh_iret rfl rfl rfl (by obtain rfl := Option.some.inj hf; exact hK)
def f_LM_treasures_7 : Nat → Int32 → Int32 → lh_II → Option (Int32 × lh_II)
  | 0, _, _, _ => none
  | n + 1, v1, v2, I => lh_bd (f_LM_vases I) fun r1 => if r1 ≤ v2 then some (v1, I) else lh_bd (f_LM_isThere (0 : Int32) v2 I) fun r4 => if r4.1 = 0 then f_LM_treasures_7 n (v1 ||| 0) (v2 + 1) r4.2 else f_LM_treasures_7 n (v1 ||| (1 <<< (v2 &&& 31))) (v2 + 1) r4.2
def f_LM_treasures (I : lh_II) : Option (Int32 × lh_II) := lh_bd (f_LM_treasures_7 lh_fuel 0 0 (lh_u2 I (65 + 4) 0 0)) fun r7 => some (r7.1, r7.2)
theorem t_LM_treasures_7 {Γ : lh_Cx} {F : lh_FF} {S : lh_SS} {Z : List Frame → Array Value → State → State → Prop} (hG : lh_GX Γ) (hS : lh_lay F S)   {L : lh_LL} : ∀ (n : Nat) (v1 : Int32) (v2 : Int32) (I : lh_II) (o : Int32 × lh_II), f_LM_treasures_7 n v1 v2 I = some o → ∀ (x0_ : lh_G Γ m_LM_treasures (lh_R 5 0 0) Z 0 0 26 [(1, .int o.1)] [] (o.2, L, F, S)), lh_G Γ m_LM_treasures (lh_R 5 0 0) Z 0 0 7 [(0, .ref (65 + 4)), (1, .int v1), (2, .int v2)] [] (I, L, F, S) := by
  intro n
  induction n with
  | zero => intro v1 v2 I o hf; cases hf
  | succ n ih =>
    intro v1 v2 I o hf x0_
    rw [f_LM_treasures_7] at hf
    refine lh_iload_n (q := 2) rfl rfl rfl ?_
    refine lh_aload_n (q := 0) rfl rfl rfl ?_
    refine lh_bdE hf (fun r1 e2 hf => ?_)
    refine lh_cVi (N := m_LM_vases) (d := 0) (o := 65) (As := []) (st := [.int v2]) rfl rfl v_LM_vases (hS.1 65 _ rfl) rfl rfl rfl ⟨rfl, rfl⟩ rfl (t_LM_vases hG hS e2 ?_)
    refine lh_icmp_ge rfl (fun c3 => ?_) (fun c3 => ?_)
    · have hf := lh_ifT hf c3
      exact lh_less [1] rfl (by cases hf; exact x0_)
    · have hf := lh_ifF hf c3
      refine lh_iload_n (q := 1) rfl rfl rfl ?_
      refine lh_aload_n (q := 0) rfl rfl rfl ?_
      refine lh_iconst rfl lh_k_0 ?_
      refine lh_iload_n (q := 2) rfl rfl rfl ?_
      refine lh_bdE hf (fun r4 e5 hf => ?_)
      refine lh_cVi (N := m_LM_isThere) (d := 4) (o := 65) (As := [.int 0, .int v2]) (st := [.int v1]) rfl rfl v_LM_isThere (hS.1 65 _ rfl) rfl rfl rfl ⟨rfl, rfl⟩ rfl (t_LM_isThere hG hS e5 ?_)
      refine lh_if_eq rfl (fun c6 => ?_) (fun c6 => ?_)
      · have hf := lh_ifT hf c6
        refine lh_iconst rfl lh_k_0 ?_
        refine lh_ior rfl ?_
        refine lh_istore_n (lv' := [(0, .ref (65 + 4)), (1, .int (v1 ||| 0)), (2, .int v2)]) rfl rfl rfl rfl ?_
        refine lh_iinc (q := 2) (v := (v2 + 1)) (lv' := [(0, .ref (65 + 4)), (1, .int (v1 ||| 0)), (2, .int (v2 + 1))]) rfl rfl (congrArg (v2 + ·) (by decide)) rfl rfl ?_
        refine lh_goto rfl ?_
        exact ih (v1 ||| 0) (v2 + 1) r4.2 _ hf x0_
      · have hf := lh_ifF hf c6
        refine lh_iconst rfl lh_k_1 ?_
        refine lh_iload_n (q := 2) rfl rfl rfl ?_
        refine lh_ishl rfl ?_
        refine lh_goto rfl ?_
        refine lh_ior rfl ?_
        refine lh_istore_n (lv' := [(0, .ref (65 + 4)), (1, .int (v1 ||| (1 <<< (v2 &&& 31)))), (2, .int v2)]) rfl rfl rfl rfl ?_
        refine lh_iinc (q := 2) (v := (v2 + 1)) (lv' := [(0, .ref (65 + 4)), (1, .int (v1 ||| (1 <<< (v2 &&& 31)))), (2, .int (v2 + 1))]) rfl rfl (congrArg (v2 + ·) (by decide)) rfl rfl ?_
        refine lh_goto rfl ?_
        exact ih (v1 ||| (1 <<< (v2 &&& 31))) (v2 + 1) r4.2 _ hf x0_
theorem t_LM_treasures {Γ : lh_Cx} {I : lh_II} {L : lh_LL} {F : lh_FF} {S : lh_SS} {K : Int32 → lh_Hp → Prop} {r : Int32 × lh_II} (hG : lh_GX Γ) (hS : lh_lay F S)  (hf : f_LM_treasures I = some r) (hK : K r.1 (r.2, L, F, S)) : lh_Met Γ m_LM_treasures 5 0 0 [.ref (65 + 4)] (I, L, F, S) (lh_ki K) := by
  rw [f_LM_treasures] at hf
  refine lh_ofG k_LM_treasures [(0, .ref (65 + 4))] rfl (Nat.le_of_ble_eq_true rfl) rfl ?_
  refine lh_aload_n (q := 0) rfl rfl rfl ?_
  refine lh_iconst rfl lh_k_0 ?_
  refine lh_putI4 rfl rfl (hS.1 65 _ rfl) rfl rfl ?_
  refine lh_iconst rfl lh_k_0 ?_
  refine lh_istore_n (lv' := [(0, .ref (65 + 4)), (1, .int 0)]) rfl rfl rfl rfl ?_
  refine lh_iconst rfl lh_k_0 ?_
  refine lh_istore_n (lv' := [(0, .ref (65 + 4)), (1, .int 0), (2, .int 0)]) rfl rfl rfl rfl ?_
  refine lh_bdE hf (fun r7 e8 hf => ?_)
  refine t_LM_treasures_7 hG hS  _ 0 0 (lh_u2 I (65 + 4) 0 0) _ e8 ?_
  refine lh_iload_n (q := 0) rfl rfl rfl ?_
  exact lh_iret rfl rfl rfl (by obtain rfl := Option.some.inj hf; exact hK)
def f_LM_trim (x1 : Int32) (I : lh_II) : Option (Int32 × lh_II) := lh_bd (f_LM_within x1 (0 : Int32) (3 : Int32)) fun r1 => if r1 = 0 then some ((-1), lh_u2 I (65 + 4) 0 0) else if 2 ≤ ((lh_u2 I (65 + 4) 0 0) (78 + 4) 4) then lh_bd (f_LM_keeps (lh_u2 I (65 + 4) 0 0)) fun r5 => lh_bd (f_LM_trims (0 : Int32) x1 r5) fun r7 => some ((r7 (78 + 4) 4), r7) else some ((-1), lh_u2 I (65 + 4) 0 0)
theorem t_LM_trim {Γ : lh_Cx} {I : lh_II} {L : lh_LL} {F : lh_FF} {S : lh_SS} {K : Int32 → lh_Hp → Prop} {r : Int32 × lh_II} (hG : lh_GX Γ) (hS : lh_lay F S)  {x1 : Int32} (hf : f_LM_trim x1 I = some r) (hK : K r.1 (r.2, L, F, S)) : lh_Met Γ m_LM_trim 2 0 0 [.ref (65 + 4), .int x1] (I, L, F, S) (lh_ki K) := by
  rw [f_LM_trim] at hf
  refine lh_ofG k_LM_trim [(0, .ref (65 + 4)), (1, .int x1)] rfl (Nat.le_of_ble_eq_true rfl) rfl ?_
  refine lh_aload_n (q := 0) rfl rfl rfl ?_
  refine lh_iconst rfl lh_k_0 ?_
  refine lh_putI4 rfl rfl (hS.1 65 _ rfl) rfl rfl ?_
  refine lh_iload_n (q := 1) rfl rfl rfl ?_
  refine lh_iconst rfl lh_k_0 ?_
  refine lh_iconst rfl lh_k_3 ?_
  refine lh_bdE hf (fun r1 e2 hf => ?_)
  refine lh_cSi (N := m_LM_within) (d := 0) (As := [.int x1, .int 0, .int 3]) (st := []) rfl rfl v_LM_within rfl rfl ⟨rfl, rfl⟩ rfl (t_LM_within hG hS e2 ?_)
  refine lh_if_eq rfl (fun c3 => ?_) (fun c3 => ?_)
  · have hf := lh_ifT hf c3
    refine lh_iconst rfl lh_k_m1 ?_
    exact lh_iret rfl rfl rfl (by obtain rfl := Option.some.inj hf; exact hK)
  · have hf := lh_ifF hf c3
    refine lh_aload_n (q := 0) rfl rfl rfl ?_
    refine lh_getR4 rfl rfl (hS.1 65 _ rfl) rfl (hS.2 20 _ rfl) ?_
    refine lh_iconst rfl lh_k_4 ?_
    refine lh_iald5 (k := 4) rfl (hS.1 78 _ rfl) (by decide) (by decide) ?_
    refine lh_iconst rfl lh_k_2 ?_
    refine lh_icmp_ge rfl (fun c4 => ?_) (fun c4 => ?_)
    · have hf := lh_ifT hf c4
      refine lh_aload_n (q := 0) rfl rfl rfl ?_
      refine lh_bdE hf (fun r5 e6 hf => ?_)
      refine lh_cVv (N := m_LM_keeps) (d := 1) (o := 65) (As := []) (st := []) rfl rfl v_LM_keeps (hS.1 65 _ rfl) rfl rfl rfl ⟨rfl, rfl⟩ rfl (t_LM_keeps hG hS e6 ?_)
      refine lh_aload_n (q := 0) rfl rfl rfl ?_
      refine lh_iconst rfl lh_k_0 ?_
      refine lh_iload_n (q := 1) rfl rfl rfl ?_
      refine lh_bdE hf (fun r7 e8 hf => ?_)
      refine lh_cVv (N := m_LM_trims) (d := 0) (o := 65) (As := [.int 0, .int x1]) (st := []) rfl rfl v_LM_trims (hS.1 65 _ rfl) rfl rfl rfl ⟨rfl, rfl⟩ rfl (t_LM_trims hG hS e8 ?_)
      refine lh_aload_n (q := 0) rfl rfl rfl ?_
      refine lh_getR4 rfl rfl (hS.1 65 _ rfl) rfl (hS.2 20 _ rfl) ?_
      refine lh_iconst rfl lh_k_4 ?_
      refine lh_iald5 (k := 4) rfl (hS.1 78 _ rfl) (by decide) (by decide) ?_
      exact lh_iret rfl rfl rfl (by obtain rfl := Option.some.inj hf; exact hK)
    · have hf := lh_ifF hf c4
      refine lh_iconst rfl lh_k_m1 ?_
      exact lh_iret rfl rfl rfl (by obtain rfl := Option.some.inj hf; exact hK)
def f_LM_undo (I : lh_II) : Option (Int32 × lh_II) := if ((lh_u2 I (65 + 4) 0 0) (65 + 4) 21) = 0 then some (0, lh_u2 I (65 + 4) 0 0) else lh_bd (f_LM_copies (32 * (5 + ((lh_u2 (lh_u2 I (65 + 4) 0 0) (65 + 4) 21 (((lh_u2 I (65 + 4) 0 0) (65 + 4) 21) - 1)) (65 + 4) 21))) (0 : Int32) (7 : Int32) (lh_u2 (lh_u2 I (65 + 4) 0 0) (65 + 4) 21 (((lh_u2 I (65 + 4) 0 0) (65 + 4) 21) - 1))) fun r2 => some (1, r2)
theorem t_LM_undo {Γ : lh_Cx} {I : lh_II} {L : lh_LL} {F : lh_FF} {S : lh_SS} {K : Int32 → lh_Hp → Prop} {r : Int32 × lh_II} (hG : lh_GX Γ) (hS : lh_lay F S)  (hf : f_LM_undo I = some r) (hK : K r.1 (r.2, L, F, S)) : lh_Met Γ m_LM_undo 1 0 0 [.ref (65 + 4)] (I, L, F, S) (lh_ki K) := by
  rw [f_LM_undo] at hf
  refine lh_ofG k_LM_undo [(0, .ref (65 + 4))] rfl (Nat.le_of_ble_eq_true rfl) rfl ?_
  refine lh_aload_n (q := 0) rfl rfl rfl ?_
  refine lh_iconst rfl lh_k_0 ?_
  refine lh_putI4 rfl rfl (hS.1 65 _ rfl) rfl rfl ?_
  refine lh_aload_n (q := 0) rfl rfl rfl ?_
  refine lh_getI4 rfl rfl (hS.1 65 _ rfl) rfl ?_
  refine lh_if_ne rfl (fun c1 => ?_) (fun c1 => ?_)
  · have hf := lh_ifF hf c1
    refine lh_aload_n (q := 0) rfl rfl rfl ?_
    refine lh_dup rfl rfl ?_
    refine lh_getI4 rfl rfl (hS.1 65 _ rfl) rfl ?_
    refine lh_iconst rfl lh_k_1 ?_
    refine lh_isub rfl ?_
    refine lh_putI4 rfl rfl (hS.1 65 _ rfl) rfl rfl ?_
    refine lh_aload_n (q := 0) rfl rfl rfl ?_
    refine lh_bipush rfl lh_b_32 ?_
    refine lh_iconst rfl lh_k_5 ?_
    refine lh_aload_n (q := 0) rfl rfl rfl ?_
    refine lh_getI4 rfl rfl (hS.1 65 _ rfl) rfl ?_
    refine lh_iadd rfl ?_
    refine lh_imul rfl ?_
    refine lh_iconst rfl lh_k_0 ?_
    refine lh_bipush rfl lh_b_7 ?_
    refine lh_bdE hf (fun r2 e3 hf => ?_)
    refine lh_cVv (N := m_LM_copies) (d := 0) (o := 65) (As := [.int (32 * (5 + ((lh_u2 (lh_u2 I (65 + 4) 0 0) (65 + 4) 21 (((lh_u2 I (65 + 4) 0 0) (65 + 4) 21) - 1)) (65 + 4) 21))), .int 0, .int 7]) (st := []) rfl rfl v_LM_copies (hS.1 65 _ rfl) rfl rfl rfl ⟨rfl, rfl⟩ rfl (t_LM_copies hG hS e3 ?_)
    refine lh_iconst rfl lh_k_1 ?_
    exact lh_iret rfl rfl (by decide) (by obtain rfl := Option.some.inj hf; exact hK)
  · have hf := lh_ifT hf c1
    refine lh_iconst rfl lh_k_0 ?_
    exact lh_iret rfl rfl (by decide) (by obtain rfl := Option.some.inj hf; exact hK)
def f_LM_vase (x1 : Int32) (x2 : Int32) (I : lh_II) : Option (Int32 × lh_II) := lh_bd (f_LM_isVase x1 (lh_u2 I (65 + 4) 0 0)) fun r1 => if r1 = 0 then some ((-2), lh_u2 I (65 + 4) 0 0) else lh_bd (f_LM_within x2 (0 : Int32) (1 : Int32)) fun r4 => if r4 = 0 then some ((-2), lh_u2 I (65 + 4) 0 0) else if x2 = 0 then lh_bd (f_LM_vaseAt x1 (lh_u2 I (65 + 4) 0 0)) fun r11 => some (r11, lh_u2 I (65 + 4) 0 0) else lh_bd (f_LM_isThere (0 : Int32) x1 (lh_u2 I (65 + 4) 0 0)) fun r8 => if r8.1 = 0 then some (0, r8.2) else some (1, r8.2)
theorem t_LM_vase {Γ : lh_Cx} {I : lh_II} {L : lh_LL} {F : lh_FF} {S : lh_SS} {K : Int32 → lh_Hp → Prop} {r : Int32 × lh_II} (hG : lh_GX Γ) (hS : lh_lay F S)  {x1 : Int32} {x2 : Int32} (hf : f_LM_vase x1 x2 I = some r) (hK : K r.1 (r.2, L, F, S)) : lh_Met Γ m_LM_vase 5 0 0 [.ref (65 + 4), .int x1, .int x2] (I, L, F, S) (lh_ki K) := by
  rw [f_LM_vase] at hf
  refine lh_ofG k_LM_vase [(0, .ref (65 + 4)), (1, .int x1), (2, .int x2)] rfl (Nat.le_of_ble_eq_true rfl) rfl ?_
  refine lh_aload_n (q := 0) rfl rfl rfl ?_
  refine lh_iconst rfl lh_k_0 ?_
  refine lh_putI4 rfl rfl (hS.1 65 _ rfl) rfl rfl ?_
  refine lh_aload_n (q := 0) rfl rfl rfl ?_
  refine lh_iload_n (q := 1) rfl rfl rfl ?_
  refine lh_bdE hf (fun r1 e2 hf => ?_)
  refine lh_cVi (N := m_LM_isVase) (d := 1) (o := 65) (As := [.int x1]) (st := []) rfl rfl v_LM_isVase (hS.1 65 _ rfl) rfl rfl rfl ⟨rfl, rfl⟩ rfl (t_LM_isVase hG hS e2 ?_)
  refine lh_if_eq rfl (fun c3 => ?_) (fun c3 => ?_)
  · have hf := lh_ifT hf c3
    refine lh_bipush rfl lh_b_m2 ?_
    exact lh_iret rfl rfl rfl (by obtain rfl := Option.some.inj hf; exact hK)
  · have hf := lh_ifF hf c3
    refine lh_iload_n (q := 2) rfl rfl rfl ?_
    refine lh_iconst rfl lh_k_0 ?_
    refine lh_iconst rfl lh_k_1 ?_
    refine lh_bdE hf (fun r4 e5 hf => ?_)
    refine lh_cSi (N := m_LM_within) (d := 0) (As := [.int x2, .int 0, .int 1]) (st := []) rfl rfl v_LM_within rfl rfl ⟨rfl, rfl⟩ rfl (t_LM_within hG hS e5 ?_)
    refine lh_if_ne rfl (fun c6 => ?_) (fun c6 => ?_)
    · have hf := lh_ifF hf c6
      refine lh_iload_n (q := 2) rfl rfl rfl ?_
      refine lh_if_ne rfl (fun c7 => ?_) (fun c7 => ?_)
      · have hf := lh_ifF hf c7
        refine lh_aload_n (q := 0) rfl rfl rfl ?_
        refine lh_iconst rfl lh_k_0 ?_
        refine lh_iload_n (q := 1) rfl rfl rfl ?_
        refine lh_bdE hf (fun r8 e9 hf => ?_)
        refine lh_cVi (N := m_LM_isThere) (d := 4) (o := 65) (As := [.int 0, .int x1]) (st := []) rfl rfl v_LM_isThere (hS.1 65 _ rfl) rfl rfl rfl ⟨rfl, rfl⟩ rfl (t_LM_isThere hG hS e9 ?_)
        refine lh_if_eq rfl (fun c10 => ?_) (fun c10 => ?_)
        · have hf := lh_ifT hf c10
          refine lh_iconst rfl lh_k_0 ?_
          exact lh_iret rfl rfl rfl (by obtain rfl := Option.some.inj hf; exact hK)
        · have hf := lh_ifF hf c10
          refine lh_iconst rfl lh_k_1 ?_
          refine lh_goto rfl ?_
          exact lh_iret rfl rfl rfl (by obtain rfl := Option.some.inj hf; exact hK)
      · have hf := lh_ifT hf c7
        refine lh_aload_n (q := 0) rfl rfl rfl ?_
        refine lh_iload_n (q := 1) rfl rfl rfl ?_
        refine lh_bdE hf (fun r11 e12 hf => ?_)
        refine lh_cVi (N := m_LM_vaseAt) (d := 1) (o := 65) (As := [.int x1]) (st := []) rfl rfl v_LM_vaseAt (hS.1 65 _ rfl) rfl rfl rfl ⟨rfl, rfl⟩ rfl (t_LM_vaseAt hG hS e12 ?_)
        refine lh_goto rfl ?_
        exact lh_iret rfl rfl rfl (by obtain rfl := Option.some.inj hf; exact hK)
    · have hf := lh_ifT hf c6
      refine lh_bipush rfl lh_b_m2 ?_
      exact lh_iret rfl rfl rfl (by obtain rfl := Option.some.inj hf; exact hK)
def f_LM_visitor (x1 : Int32) (x2 : Int32) (I : lh_II) : Option (Int32 × lh_II) := lh_bd (f_LM_isVisitor x1 (lh_u2 I (65 + 4) 0 0)) fun r1 => if r1 = 0 then some ((-2), lh_u2 I (65 + 4) 0 0) else lh_bd (f_LM_within x2 (0 : Int32) (4 : Int32)) fun r4 => if r4 = 0 then some ((-2), lh_u2 I (65 + 4) 0 0) else if x2 = 0 then lh_bd (f_LM_kindOf x1 (lh_u2 I (65 + 4) 0 0)) fun r8 => some (r8, lh_u2 I (65 + 4) 0 0) else if x2 = 1 then lh_bd (f_LM_dayOf x1 (lh_u2 I (65 + 4) 0 0)) fun r11 => some (r11, lh_u2 I (65 + 4) 0 0) else if x2 = 2 then lh_bd (f_LM_cellOf x1 ((lh_u2 I (65 + 4) 0 0) (78 + 4) 2) (lh_u2 I (65 + 4) 0 0)) fun r14 => some (r14, lh_u2 I (65 + 4) 0 0) else if x2 = 3 then some (((((lh_u2 I (65 + 4) 0 0) (78 + 4) 6) >>> (x1 &&& 31)) &&& 1), lh_u2 I (65 + 4) 0 0) else lh_bd (f_LM_seenNow (0 : Int32) (lh_u2 I (65 + 4) 0 0)) fun r17 => some (((r17.1 >>> (x1 &&& 31)) &&& 1), r17.2)
theorem t_LM_visitor {Γ : lh_Cx} {I : lh_II} {L : lh_LL} {F : lh_FF} {S : lh_SS} {K : Int32 → lh_Hp → Prop} {r : Int32 × lh_II} (hG : lh_GX Γ) (hS : lh_lay F S)  {x1 : Int32} {x2 : Int32} (hf : f_LM_visitor x1 x2 I = some r) (hK : K r.1 (r.2, L, F, S)) : lh_Met Γ m_LM_visitor 5 0 0 [.ref (65 + 4), .int x1, .int x2] (I, L, F, S) (lh_ki K) := by
  rw [f_LM_visitor] at hf
  refine lh_ofG k_LM_visitor [(0, .ref (65 + 4)), (1, .int x1), (2, .int x2)] rfl (Nat.le_of_ble_eq_true rfl) rfl ?_
  refine lh_aload_n (q := 0) rfl rfl rfl ?_
  refine lh_iconst rfl lh_k_0 ?_
  refine lh_putI4 rfl rfl (hS.1 65 _ rfl) rfl rfl ?_
  refine lh_aload_n (q := 0) rfl rfl rfl ?_
  refine lh_iload_n (q := 1) rfl rfl rfl ?_
  refine lh_bdE hf (fun r1 e2 hf => ?_)
  refine lh_cVi (N := m_LM_isVisitor) (d := 1) (o := 65) (As := [.int x1]) (st := []) rfl rfl v_LM_isVisitor (hS.1 65 _ rfl) rfl rfl rfl ⟨rfl, rfl⟩ rfl (t_LM_isVisitor hG hS e2 ?_)
  refine lh_if_eq rfl (fun c3 => ?_) (fun c3 => ?_)
  · have hf := lh_ifT hf c3
    refine lh_bipush rfl lh_b_m2 ?_
    exact lh_iret rfl rfl rfl (by obtain rfl := Option.some.inj hf; exact hK)
  · have hf := lh_ifF hf c3
    refine lh_iload_n (q := 2) rfl rfl rfl ?_
    refine lh_iconst rfl lh_k_0 ?_
    refine lh_iconst rfl lh_k_4 ?_
    refine lh_bdE hf (fun r4 e5 hf => ?_)
    refine lh_cSi (N := m_LM_within) (d := 0) (As := [.int x2, .int 0, .int 4]) (st := []) rfl rfl v_LM_within rfl rfl ⟨rfl, rfl⟩ rfl (t_LM_within hG hS e5 ?_)
    refine lh_if_ne rfl (fun c6 => ?_) (fun c6 => ?_)
    · have hf := lh_ifF hf c6
      refine lh_iload_n (q := 2) rfl rfl rfl ?_
      by_cases c7 : x2 = 0
      · have hf := lh_ifT hf c7
        refine lh_tsIn (q := 0) (tgt := 16) rfl (by rw [c7]; decide) (by decide) rfl rfl ?_
        refine lh_aload_n (q := 0) rfl rfl rfl ?_
        refine lh_iload_n (q := 1) rfl rfl rfl ?_
        refine lh_bdE hf (fun r8 e9 hf => ?_)
        refine lh_cVi (N := m_LM_kindOf) (d := 0) (o := 65) (As := [.int x1]) (st := []) rfl rfl v_LM_kindOf (hS.1 65 _ rfl) rfl rfl rfl ⟨rfl, rfl⟩ rfl (t_LM_kindOf hG hS e9 ?_)
        exact lh_iret rfl rfl rfl (by obtain rfl := Option.some.inj hf; exact hK)
      · have hf := lh_ifF hf c7
        by_cases c10 : x2 = 1
        · have hf := lh_ifT hf c10
          refine lh_tsIn (q := 1) (tgt := 20) rfl (by rw [c10]; decide) (by decide) rfl rfl ?_
          refine lh_aload_n (q := 0) rfl rfl rfl ?_
          refine lh_iload_n (q := 1) rfl rfl rfl ?_
          refine lh_bdE hf (fun r11 e12 hf => ?_)
          refine lh_cVi (N := m_LM_dayOf) (d := 0) (o := 65) (As := [.int x1]) (st := []) rfl rfl v_LM_dayOf (hS.1 65 _ rfl) rfl rfl rfl ⟨rfl, rfl⟩ rfl (t_LM_dayOf hG hS e12 ?_)
          exact lh_iret rfl rfl rfl (by obtain rfl := Option.some.inj hf; exact hK)
        · have hf := lh_ifF hf c10
          by_cases c13 : x2 = 2
          · have hf := lh_ifT hf c13
            refine lh_tsIn (q := 2) (tgt := 24) rfl (by rw [c13]; decide) (by decide) rfl rfl ?_
            refine lh_aload_n (q := 0) rfl rfl rfl ?_
            refine lh_iload_n (q := 1) rfl rfl rfl ?_
            refine lh_aload_n (q := 0) rfl rfl rfl ?_
            refine lh_getR4 rfl rfl (hS.1 65 _ rfl) rfl (hS.2 20 _ rfl) ?_
            refine lh_iconst rfl lh_k_2 ?_
            refine lh_iald5 (k := 2) rfl (hS.1 78 _ rfl) (by decide) (by decide) ?_
            refine lh_bdE hf (fun r14 e15 hf => ?_)
            refine lh_cVi (N := m_LM_cellOf) (d := 1) (o := 65) (As := [.int x1, .int ((lh_u2 I (65 + 4) 0 0) (78 + 4) 2)]) (st := []) rfl rfl v_LM_cellOf (hS.1 65 _ rfl) rfl rfl rfl ⟨rfl, rfl⟩ rfl (t_LM_cellOf hG hS e15 ?_)
            exact lh_iret rfl rfl rfl (by obtain rfl := Option.some.inj hf; exact hK)
          · have hf := lh_ifF hf c13
            by_cases c16 : x2 = 3
            · have hf := lh_ifT hf c16
              refine lh_tsIn (q := 3) (tgt := 32) rfl (by rw [c16]; decide) (by decide) rfl rfl ?_
              refine lh_aload_n (q := 0) rfl rfl rfl ?_
              refine lh_getR4 rfl rfl (hS.1 65 _ rfl) rfl (hS.2 20 _ rfl) ?_
              refine lh_bipush rfl lh_b_6 ?_
              refine lh_iald5 (k := 6) rfl (hS.1 78 _ rfl) (by decide) (by decide) ?_
              refine lh_iload_n (q := 1) rfl rfl rfl ?_
              refine lh_ishr rfl ?_
              refine lh_iconst rfl lh_k_1 ?_
              refine lh_iand rfl ?_
              exact lh_iret rfl rfl rfl (by obtain rfl := Option.some.inj hf; exact hK)
            · have hf := lh_ifF hf c16
              refine lh_tsOut (tgt := 41) rfl (by have q0 := lv_neT c7 (a := 0) (by decide); have q1 := lv_neT c10 (a := 1) (by decide); have q2 := lv_neT c13 (a := 2) (by decide); have q3 := lv_neT c16 (a := 3) (by decide); omega) rfl ?_
              refine lh_aload_n (q := 0) rfl rfl rfl ?_
              refine lh_iconst rfl lh_k_0 ?_
              refine lh_bdE hf (fun r17 e18 hf => ?_)
              refine lh_cVi (N := m_LM_seenNow) (d := 4) (o := 65) (As := [.int 0]) (st := []) rfl rfl v_LM_seenNow (hS.1 65 _ rfl) rfl rfl rfl ⟨rfl, rfl⟩ rfl (t_LM_seenNow hG hS e18 ?_)
              refine lh_iload_n (q := 1) rfl rfl rfl ?_
              refine lh_ishr rfl ?_
              refine lh_iconst rfl lh_k_1 ?_
              refine lh_iand rfl ?_
              exact lh_iret rfl rfl rfl (by obtain rfl := Option.some.inj hf; exact hK)
    · have hf := lh_ifT hf c6
      refine lh_bipush rfl lh_b_m2 ?_
      exact lh_iret rfl rfl rfl (by obtain rfl := Option.some.inj hf; exact hK)
def f_LM_wavers_15 (v1 : Int32) (I : lh_II) : Nat → Int32 → Int32 → Int32 → Option (Int32)
  | 0, _, _, _ => none
  | n + 1, v2, v3, v4 => if 8 ≤ v4 then some v2 else lh_bd (f_LM_cellOf v1 (v4 - 1) I) fun r5 => lh_bd (f_LM_cellOf v1 v4 I) fun r7 => if r5 < 0 then if 0 ≤ (0 * v3) then f_LM_wavers_15 v1 I n (v2 + 0) v3 (v4 + 1) else f_LM_wavers_15 v1 I n (v2 + 1) v3 (v4 + 1) else if r7 < 0 then if 0 ≤ (0 * v3) then f_LM_wavers_15 v1 I n (v2 + 0) v3 (v4 + 1) else f_LM_wavers_15 v1 I n (v2 + 1) v3 (v4 + 1) else if r5 = r7 then if 0 ≤ (0 * v3) then f_LM_wavers_15 v1 I n (v2 + 0) v3 (v4 + 1) else f_LM_wavers_15 v1 I n (v2 + 1) v3 (v4 + 1) else if r7 ≤ r5 then if 0 ≤ ((-1) * v3) then f_LM_wavers_15 v1 I n (v2 + 0) (-1) (v4 + 1) else f_LM_wavers_15 v1 I n (v2 + 1) (-1) (v4 + 1) else if 0 ≤ (1 * v3) then f_LM_wavers_15 v1 I n (v2 + 0) 1 (v4 + 1) else f_LM_wavers_15 v1 I n (v2 + 1) 1 (v4 + 1)
def f_LM_wavers (x1 : Int32) (I : lh_II) : Option (Int32 × lh_II) := lh_bd (f_LM_isVisitor x1 (lh_u2 I (65 + 4) 0 0)) fun r1 => if r1 = 0 then some ((-1), lh_u2 I (65 + 4) 0 0) else lh_bd (f_LM_wavers_15 x1 (lh_u2 I (65 + 4) 0 0) lh_fuel 0 0 1) fun r18 => some (r18, lh_u2 I (65 + 4) 0 0)
theorem t_LM_wavers_15 {Γ : lh_Cx} {F : lh_FF} {S : lh_SS} {Z : List Frame → Array Value → State → State → Prop} (hG : lh_GX Γ) (hS : lh_lay F S)  {v1 : Int32} {I : lh_II} {L : lh_LL} : ∀ (n : Nat) (v2 : Int32) (v3 : Int32) (v4 : Int32) (o : Int32), f_LM_wavers_15 v1 I n v2 v3 v4 = some o → ∀ (x0_ : lh_G Γ m_LM_wavers (lh_R 2 0 0) Z 0 0 64 [(2, .int o)] [] (I, L, F, S)), lh_G Γ m_LM_wavers (lh_R 2 0 0) Z 0 0 15 [(0, .ref (65 + 4)), (1, .int v1), (2, .int v2), (3, .int v3), (4, .int v4)] [] (I, L, F, S) := by
  intro n
  induction n with
  | zero => intro v2 v3 v4 o hf; cases hf
  | succ n ih =>
    intro v2 v3 v4 o hf x0_
    rw [f_LM_wavers_15] at hf
    refine lh_iload (q := 4) rfl rfl ?_
    refine lh_bipush rfl lh_b_8 ?_
    refine lh_icmp_ge rfl (fun c4 => ?_) (fun c4 => ?_)
    · have hf := lh_ifT hf c4
      exact lh_less [2] rfl (by cases hf; exact x0_)
    · have hf := lh_ifF hf c4
      refine lh_aload_n (q := 0) rfl rfl rfl ?_
      refine lh_iload_n (q := 1) rfl rfl rfl ?_
      refine lh_iload (q := 4) rfl rfl ?_
      refine lh_iconst rfl lh_k_1 ?_
      refine lh_isub rfl ?_
      refine lh_bdE hf (fun r5 e6 hf => ?_)
      refine lh_cVi (N := m_LM_cellOf) (d := 1) (o := 65) (As := [.int v1, .int (v4 - 1)]) (st := []) rfl rfl v_LM_cellOf (hS.1 65 _ rfl) rfl rfl rfl ⟨rfl, rfl⟩ rfl (t_LM_cellOf hG hS e6 ?_)
      refine lh_istore (lv' := [(0, .ref (65 + 4)), (1, .int v1), (2, .int v2), (3, .int v3), (4, .int v4), (5, .int r5)]) rfl rfl rfl ?_
      refine lh_aload_n (q := 0) rfl rfl rfl ?_
      refine lh_iload_n (q := 1) rfl rfl rfl ?_
      refine lh_iload (q := 4) rfl rfl ?_
      refine lh_bdE hf (fun r7 e8 hf => ?_)
      refine lh_cVi (N := m_LM_cellOf) (d := 1) (o := 65) (As := [.int v1, .int v4]) (st := []) rfl rfl v_LM_cellOf (hS.1 65 _ rfl) rfl rfl rfl ⟨rfl, rfl⟩ rfl (t_LM_cellOf hG hS e8 ?_)
      refine lh_istore (lv' := [(0, .ref (65 + 4)), (1, .int v1), (2, .int v2), (3, .int v3), (4, .int v4), (5, .int r5), (6, .int r7)]) rfl rfl rfl ?_
      refine lh_iload (q := 5) rfl rfl ?_
      refine lh_if_lt rfl (fun c9 => ?_) (fun c9 => ?_)
      · have hf := lh_ifT hf c9
        refine lh_iconst rfl lh_k_0 ?_
        refine lh_goto rfl ?_
        refine lh_istore (lv' := [(0, .ref (65 + 4)), (1, .int v1), (2, .int v2), (3, .int v3), (4, .int v4), (5, .int r5), (6, .int r7), (7, .int 0)]) rfl rfl rfl ?_
        refine lh_iload_n (q := 2) rfl rfl rfl ?_
        refine lh_iload (q := 7) rfl rfl ?_
        refine lh_iload_n (q := 3) rfl rfl rfl ?_
        refine lh_imul rfl ?_
        refine lh_if_ge rfl (fun c10 => ?_) (fun c10 => ?_)
        · have hf := lh_ifT hf c10
          refine lh_iconst rfl lh_k_0 ?_
          refine lh_iadd rfl ?_
          refine lh_istore_n (lv' := [(0, .ref (65 + 4)), (1, .int v1), (2, .int (v2 + 0)), (3, .int v3), (4, .int v4), (5, .int r5), (6, .int r7), (7, .int 0)]) rfl rfl rfl rfl ?_
          refine lh_iload (q := 7) rfl rfl ?_
          refine lh_if_ne rfl (fun c => absurd (by decide) c) (fun _ => ?_)
          refine lh_iload_n (q := 3) rfl rfl rfl ?_
          refine lh_goto rfl ?_
          refine lh_istore_n (lv' := [(0, .ref (65 + 4)), (1, .int v1), (2, .int (v2 + 0)), (3, .int v3), (4, .int v4), (5, .int r5), (6, .int r7), (7, .int 0)]) rfl rfl rfl rfl ?_
          refine lh_iinc (q := 4) (v := (v4 + 1)) (lv' := [(0, .ref (65 + 4)), (1, .int v1), (2, .int (v2 + 0)), (3, .int v3), (4, .int (v4 + 1)), (5, .int r5), (6, .int r7), (7, .int 0)]) rfl rfl (congrArg (v4 + ·) (by decide)) rfl rfl ?_
          refine lh_goto rfl ?_
          refine lh_less [0, 1, 2, 3, 4] rfl ?_
          exact ih (v2 + 0) v3 (v4 + 1) _ hf x0_
        · have hf := lh_ifF hf c10
          refine lh_iconst rfl lh_k_1 ?_
          refine lh_goto rfl ?_
          refine lh_iadd rfl ?_
          refine lh_istore_n (lv' := [(0, .ref (65 + 4)), (1, .int v1), (2, .int (v2 + 1)), (3, .int v3), (4, .int v4), (5, .int r5), (6, .int r7), (7, .int 0)]) rfl rfl rfl rfl ?_
          refine lh_iload (q := 7) rfl rfl ?_
          refine lh_if_ne rfl (fun c => absurd (by decide) c) (fun _ => ?_)
          refine lh_iload_n (q := 3) rfl rfl rfl ?_
          refine lh_goto rfl ?_
          refine lh_istore_n (lv' := [(0, .ref (65 + 4)), (1, .int v1), (2, .int (v2 + 1)), (3, .int v3), (4, .int v4), (5, .int r5), (6, .int r7), (7, .int 0)]) rfl rfl rfl rfl ?_
          refine lh_iinc (q := 4) (v := (v4 + 1)) (lv' := [(0, .ref (65 + 4)), (1, .int v1), (2, .int (v2 + 1)), (3, .int v3), (4, .int (v4 + 1)), (5, .int r5), (6, .int r7), (7, .int 0)]) rfl rfl (congrArg (v4 + ·) (by decide)) rfl rfl ?_
          refine lh_goto rfl ?_
          refine lh_less [0, 1, 2, 3, 4] rfl ?_
          exact ih (v2 + 1) v3 (v4 + 1) _ hf x0_
      · have hf := lh_ifF hf c9
        refine lh_iload (q := 6) rfl rfl ?_
        refine lh_if_lt rfl (fun c11 => ?_) (fun c11 => ?_)
        · have hf := lh_ifT hf c11
          refine lh_iconst rfl lh_k_0 ?_
          refine lh_goto rfl ?_
          refine lh_istore (lv' := [(0, .ref (65 + 4)), (1, .int v1), (2, .int v2), (3, .int v3), (4, .int v4), (5, .int r5), (6, .int r7), (7, .int 0)]) rfl rfl rfl ?_
          refine lh_iload_n (q := 2) rfl rfl rfl ?_
          refine lh_iload (q := 7) rfl rfl ?_
          refine lh_iload_n (q := 3) rfl rfl rfl ?_
          refine lh_imul rfl ?_
          refine lh_if_ge rfl (fun c12 => ?_) (fun c12 => ?_)
          · have hf := lh_ifT hf c12
            refine lh_iconst rfl lh_k_0 ?_
            refine lh_iadd rfl ?_
            refine lh_istore_n (lv' := [(0, .ref (65 + 4)), (1, .int v1), (2, .int (v2 + 0)), (3, .int v3), (4, .int v4), (5, .int r5), (6, .int r7), (7, .int 0)]) rfl rfl rfl rfl ?_
            refine lh_iload (q := 7) rfl rfl ?_
            refine lh_if_ne rfl (fun c => absurd (by decide) c) (fun _ => ?_)
            refine lh_iload_n (q := 3) rfl rfl rfl ?_
            refine lh_goto rfl ?_
            refine lh_istore_n (lv' := [(0, .ref (65 + 4)), (1, .int v1), (2, .int (v2 + 0)), (3, .int v3), (4, .int v4), (5, .int r5), (6, .int r7), (7, .int 0)]) rfl rfl rfl rfl ?_
            refine lh_iinc (q := 4) (v := (v4 + 1)) (lv' := [(0, .ref (65 + 4)), (1, .int v1), (2, .int (v2 + 0)), (3, .int v3), (4, .int (v4 + 1)), (5, .int r5), (6, .int r7), (7, .int 0)]) rfl rfl (congrArg (v4 + ·) (by decide)) rfl rfl ?_
            refine lh_goto rfl ?_
            refine lh_less [0, 1, 2, 3, 4] rfl ?_
            exact ih (v2 + 0) v3 (v4 + 1) _ hf x0_
          · have hf := lh_ifF hf c12
            refine lh_iconst rfl lh_k_1 ?_
            refine lh_goto rfl ?_
            refine lh_iadd rfl ?_
            refine lh_istore_n (lv' := [(0, .ref (65 + 4)), (1, .int v1), (2, .int (v2 + 1)), (3, .int v3), (4, .int v4), (5, .int r5), (6, .int r7), (7, .int 0)]) rfl rfl rfl rfl ?_
            refine lh_iload (q := 7) rfl rfl ?_
            refine lh_if_ne rfl (fun c => absurd (by decide) c) (fun _ => ?_)
            refine lh_iload_n (q := 3) rfl rfl rfl ?_
            refine lh_goto rfl ?_
            refine lh_istore_n (lv' := [(0, .ref (65 + 4)), (1, .int v1), (2, .int (v2 + 1)), (3, .int v3), (4, .int v4), (5, .int r5), (6, .int r7), (7, .int 0)]) rfl rfl rfl rfl ?_
            refine lh_iinc (q := 4) (v := (v4 + 1)) (lv' := [(0, .ref (65 + 4)), (1, .int v1), (2, .int (v2 + 1)), (3, .int v3), (4, .int (v4 + 1)), (5, .int r5), (6, .int r7), (7, .int 0)]) rfl rfl (congrArg (v4 + ·) (by decide)) rfl rfl ?_
            refine lh_goto rfl ?_
            refine lh_less [0, 1, 2, 3, 4] rfl ?_
            exact ih (v2 + 1) v3 (v4 + 1) _ hf x0_
        · have hf := lh_ifF hf c11
          refine lh_iload (q := 5) rfl rfl ?_
          refine lh_iload (q := 6) rfl rfl ?_
          refine lh_icmp_ne rfl (fun c13 => ?_) (fun c13 => ?_)
          · have hf := lh_ifF hf c13
            refine lh_iload (q := 5) rfl rfl ?_
            refine lh_iload (q := 6) rfl rfl ?_
            refine lh_icmp_ge rfl (fun c14 => ?_) (fun c14 => ?_)
            · have hf := lh_ifT hf c14
              refine lh_iconst rfl lh_k_m1 ?_
              refine lh_istore (lv' := [(0, .ref (65 + 4)), (1, .int v1), (2, .int v2), (3, .int v3), (4, .int v4), (5, .int r5), (6, .int r7), (7, .int (-1))]) rfl rfl rfl ?_
              refine lh_iload_n (q := 2) rfl rfl rfl ?_
              refine lh_iload (q := 7) rfl rfl ?_
              refine lh_iload_n (q := 3) rfl rfl rfl ?_
              refine lh_imul rfl ?_
              refine lh_if_ge rfl (fun c15 => ?_) (fun c15 => ?_)
              · have hf := lh_ifT hf c15
                refine lh_iconst rfl lh_k_0 ?_
                refine lh_iadd rfl ?_
                refine lh_istore_n (lv' := [(0, .ref (65 + 4)), (1, .int v1), (2, .int (v2 + 0)), (3, .int v3), (4, .int v4), (5, .int r5), (6, .int r7), (7, .int (-1))]) rfl rfl rfl rfl ?_
                refine lh_iload (q := 7) rfl rfl ?_
                refine lh_if_ne rfl (fun _ => ?_) (fun c => absurd c (by decide)) 
                refine lh_iload (q := 7) rfl rfl ?_
                refine lh_istore_n (lv' := [(0, .ref (65 + 4)), (1, .int v1), (2, .int (v2 + 0)), (3, .int (-1)), (4, .int v4), (5, .int r5), (6, .int r7), (7, .int (-1))]) rfl rfl rfl rfl ?_
                refine lh_iinc (q := 4) (v := (v4 + 1)) (lv' := [(0, .ref (65 + 4)), (1, .int v1), (2, .int (v2 + 0)), (3, .int (-1)), (4, .int (v4 + 1)), (5, .int r5), (6, .int r7), (7, .int (-1))]) rfl rfl (congrArg (v4 + ·) (by decide)) rfl rfl ?_
                refine lh_goto rfl ?_
                refine lh_less [0, 1, 2, 3, 4] rfl ?_
                exact ih (v2 + 0) (-1) (v4 + 1) _ hf x0_
              · have hf := lh_ifF hf c15
                refine lh_iconst rfl lh_k_1 ?_
                refine lh_goto rfl ?_
                refine lh_iadd rfl ?_
                refine lh_istore_n (lv' := [(0, .ref (65 + 4)), (1, .int v1), (2, .int (v2 + 1)), (3, .int v3), (4, .int v4), (5, .int r5), (6, .int r7), (7, .int (-1))]) rfl rfl rfl rfl ?_
                refine lh_iload (q := 7) rfl rfl ?_
                refine lh_if_ne rfl (fun _ => ?_) (fun c => absurd c (by decide)) 
                refine lh_iload (q := 7) rfl rfl ?_
                refine lh_istore_n (lv' := [(0, .ref (65 + 4)), (1, .int v1), (2, .int (v2 + 1)), (3, .int (-1)), (4, .int v4), (5, .int r5), (6, .int r7), (7, .int (-1))]) rfl rfl rfl rfl ?_
                refine lh_iinc (q := 4) (v := (v4 + 1)) (lv' := [(0, .ref (65 + 4)), (1, .int v1), (2, .int (v2 + 1)), (3, .int (-1)), (4, .int (v4 + 1)), (5, .int r5), (6, .int r7), (7, .int (-1))]) rfl rfl (congrArg (v4 + ·) (by decide)) rfl rfl ?_
                refine lh_goto rfl ?_
                refine lh_less [0, 1, 2, 3, 4] rfl ?_
                exact ih (v2 + 1) (-1) (v4 + 1) _ hf x0_
            · have hf := lh_ifF hf c14
              refine lh_iconst rfl lh_k_1 ?_
              refine lh_goto rfl ?_
              refine lh_istore (lv' := [(0, .ref (65 + 4)), (1, .int v1), (2, .int v2), (3, .int v3), (4, .int v4), (5, .int r5), (6, .int r7), (7, .int 1)]) rfl rfl rfl ?_
              refine lh_iload_n (q := 2) rfl rfl rfl ?_
              refine lh_iload (q := 7) rfl rfl ?_
              refine lh_iload_n (q := 3) rfl rfl rfl ?_
              refine lh_imul rfl ?_
              refine lh_if_ge rfl (fun c16 => ?_) (fun c16 => ?_)
              · have hf := lh_ifT hf c16
                refine lh_iconst rfl lh_k_0 ?_
                refine lh_iadd rfl ?_
                refine lh_istore_n (lv' := [(0, .ref (65 + 4)), (1, .int v1), (2, .int (v2 + 0)), (3, .int v3), (4, .int v4), (5, .int r5), (6, .int r7), (7, .int 1)]) rfl rfl rfl rfl ?_
                refine lh_iload (q := 7) rfl rfl ?_
                refine lh_if_ne rfl (fun _ => ?_) (fun c => absurd c (by decide)) 
                refine lh_iload (q := 7) rfl rfl ?_
                refine lh_istore_n (lv' := [(0, .ref (65 + 4)), (1, .int v1), (2, .int (v2 + 0)), (3, .int 1), (4, .int v4), (5, .int r5), (6, .int r7), (7, .int 1)]) rfl rfl rfl rfl ?_
                refine lh_iinc (q := 4) (v := (v4 + 1)) (lv' := [(0, .ref (65 + 4)), (1, .int v1), (2, .int (v2 + 0)), (3, .int 1), (4, .int (v4 + 1)), (5, .int r5), (6, .int r7), (7, .int 1)]) rfl rfl (congrArg (v4 + ·) (by decide)) rfl rfl ?_
                refine lh_goto rfl ?_
                refine lh_less [0, 1, 2, 3, 4] rfl ?_
                exact ih (v2 + 0) 1 (v4 + 1) _ hf x0_
              · have hf := lh_ifF hf c16
                refine lh_iconst rfl lh_k_1 ?_
                refine lh_goto rfl ?_
                refine lh_iadd rfl ?_
                refine lh_istore_n (lv' := [(0, .ref (65 + 4)), (1, .int v1), (2, .int (v2 + 1)), (3, .int v3), (4, .int v4), (5, .int r5), (6, .int r7), (7, .int 1)]) rfl rfl rfl rfl ?_
                refine lh_iload (q := 7) rfl rfl ?_
                refine lh_if_ne rfl (fun _ => ?_) (fun c => absurd c (by decide)) 
                refine lh_iload (q := 7) rfl rfl ?_
                refine lh_istore_n (lv' := [(0, .ref (65 + 4)), (1, .int v1), (2, .int (v2 + 1)), (3, .int 1), (4, .int v4), (5, .int r5), (6, .int r7), (7, .int 1)]) rfl rfl rfl rfl ?_
                refine lh_iinc (q := 4) (v := (v4 + 1)) (lv' := [(0, .ref (65 + 4)), (1, .int v1), (2, .int (v2 + 1)), (3, .int 1), (4, .int (v4 + 1)), (5, .int r5), (6, .int r7), (7, .int 1)]) rfl rfl (congrArg (v4 + ·) (by decide)) rfl rfl ?_
                refine lh_goto rfl ?_
                refine lh_less [0, 1, 2, 3, 4] rfl ?_
                exact ih (v2 + 1) 1 (v4 + 1) _ hf x0_
          · have hf := lh_ifT hf c13
            refine lh_iconst rfl lh_k_0 ?_
            refine lh_goto rfl ?_
            refine lh_istore (lv' := [(0, .ref (65 + 4)), (1, .int v1), (2, .int v2), (3, .int v3), (4, .int v4), (5, .int r5), (6, .int r7), (7, .int 0)]) rfl rfl rfl ?_
            refine lh_iload_n (q := 2) rfl rfl rfl ?_
            refine lh_iload (q := 7) rfl rfl ?_
            refine lh_iload_n (q := 3) rfl rfl rfl ?_
            refine lh_imul rfl ?_
            refine lh_if_ge rfl (fun c17 => ?_) (fun c17 => ?_)
            · have hf := lh_ifT hf c17
              refine lh_iconst rfl lh_k_0 ?_
              refine lh_iadd rfl ?_
              refine lh_istore_n (lv' := [(0, .ref (65 + 4)), (1, .int v1), (2, .int (v2 + 0)), (3, .int v3), (4, .int v4), (5, .int r5), (6, .int r7), (7, .int 0)]) rfl rfl rfl rfl ?_
              refine lh_iload (q := 7) rfl rfl ?_
              refine lh_if_ne rfl (fun c => absurd (by decide) c) (fun _ => ?_)
              refine lh_iload_n (q := 3) rfl rfl rfl ?_
              refine lh_goto rfl ?_
              refine lh_istore_n (lv' := [(0, .ref (65 + 4)), (1, .int v1), (2, .int (v2 + 0)), (3, .int v3), (4, .int v4), (5, .int r5), (6, .int r7), (7, .int 0)]) rfl rfl rfl rfl ?_
              refine lh_iinc (q := 4) (v := (v4 + 1)) (lv' := [(0, .ref (65 + 4)), (1, .int v1), (2, .int (v2 + 0)), (3, .int v3), (4, .int (v4 + 1)), (5, .int r5), (6, .int r7), (7, .int 0)]) rfl rfl (congrArg (v4 + ·) (by decide)) rfl rfl ?_
              refine lh_goto rfl ?_
              refine lh_less [0, 1, 2, 3, 4] rfl ?_
              exact ih (v2 + 0) v3 (v4 + 1) _ hf x0_
            · have hf := lh_ifF hf c17
              refine lh_iconst rfl lh_k_1 ?_
              refine lh_goto rfl ?_
              refine lh_iadd rfl ?_
              refine lh_istore_n (lv' := [(0, .ref (65 + 4)), (1, .int v1), (2, .int (v2 + 1)), (3, .int v3), (4, .int v4), (5, .int r5), (6, .int r7), (7, .int 0)]) rfl rfl rfl rfl ?_
              refine lh_iload (q := 7) rfl rfl ?_
              refine lh_if_ne rfl (fun c => absurd (by decide) c) (fun _ => ?_)
              refine lh_iload_n (q := 3) rfl rfl rfl ?_
              refine lh_goto rfl ?_
              refine lh_istore_n (lv' := [(0, .ref (65 + 4)), (1, .int v1), (2, .int (v2 + 1)), (3, .int v3), (4, .int v4), (5, .int r5), (6, .int r7), (7, .int 0)]) rfl rfl rfl rfl ?_
              refine lh_iinc (q := 4) (v := (v4 + 1)) (lv' := [(0, .ref (65 + 4)), (1, .int v1), (2, .int (v2 + 1)), (3, .int v3), (4, .int (v4 + 1)), (5, .int r5), (6, .int r7), (7, .int 0)]) rfl rfl (congrArg (v4 + ·) (by decide)) rfl rfl ?_
              refine lh_goto rfl ?_
              refine lh_less [0, 1, 2, 3, 4] rfl ?_
              exact ih (v2 + 1) v3 (v4 + 1) _ hf x0_
theorem t_LM_wavers {Γ : lh_Cx} {I : lh_II} {L : lh_LL} {F : lh_FF} {S : lh_SS} {K : Int32 → lh_Hp → Prop} {r : Int32 × lh_II} (hG : lh_GX Γ) (hS : lh_lay F S)  {x1 : Int32} (hf : f_LM_wavers x1 I = some r) (hK : K r.1 (r.2, L, F, S)) : lh_Met Γ m_LM_wavers 2 0 0 [.ref (65 + 4), .int x1] (I, L, F, S) (lh_ki K) := by
  rw [f_LM_wavers] at hf
  refine lh_ofG k_LM_wavers [(0, .ref (65 + 4)), (1, .int x1)] rfl (Nat.le_of_ble_eq_true rfl) rfl ?_
  refine lh_aload_n (q := 0) rfl rfl rfl ?_
  refine lh_iconst rfl lh_k_0 ?_
  refine lh_putI4 rfl rfl (hS.1 65 _ rfl) rfl rfl ?_
  refine lh_aload_n (q := 0) rfl rfl rfl ?_
  refine lh_iload_n (q := 1) rfl rfl rfl ?_
  refine lh_bdE hf (fun r1 e2 hf => ?_)
  refine lh_cVi (N := m_LM_isVisitor) (d := 1) (o := 65) (As := [.int x1]) (st := []) rfl rfl v_LM_isVisitor (hS.1 65 _ rfl) rfl rfl rfl ⟨rfl, rfl⟩ rfl (t_LM_isVisitor hG hS e2 ?_)
  refine lh_if_ne rfl (fun c3 => ?_) (fun c3 => ?_)
  · have hf := lh_ifF hf c3
    refine lh_iconst rfl lh_k_0 ?_
    refine lh_istore_n (lv' := [(0, .ref (65 + 4)), (1, .int x1), (2, .int 0)]) rfl rfl rfl rfl ?_
    refine lh_iconst rfl lh_k_0 ?_
    refine lh_istore_n (lv' := [(0, .ref (65 + 4)), (1, .int x1), (2, .int 0), (3, .int 0)]) rfl rfl rfl rfl ?_
    refine lh_iconst rfl lh_k_1 ?_
    refine lh_istore (lv' := [(0, .ref (65 + 4)), (1, .int x1), (2, .int 0), (3, .int 0), (4, .int 1)]) rfl rfl rfl ?_
    refine lh_bdE hf (fun r18 e19 hf => ?_)
    refine t_LM_wavers_15 hG hS  _ 0 0 1 _ e19 ?_
    refine lh_iload_n (q := 0) rfl rfl rfl ?_
    exact lh_iret rfl rfl rfl (by obtain rfl := Option.some.inj hf; exact hK)
  · have hf := lh_ifT hf c3
    refine lh_iconst rfl lh_k_m1 ?_
    exact lh_iret rfl rfl rfl (by obtain rfl := Option.some.inj hf; exact hK)
def f_LM_would (x1 : Int32) (I : lh_II) : Option (Int32 × lh_II) := lh_bd (f_LM_within x1 ((-1) : Int32) (1 : Int32)) fun r1 => if r1 = 0 then some ((-1), lh_u2 I (65 + 4) 0 0) else lh_bd (f_LM_bumpsBy (0 : Int32) x1 (lh_u2 I (65 + 4) 0 0)) fun r4 => some (r4.1, r4.2)
theorem t_LM_would {Γ : lh_Cx} {I : lh_II} {L : lh_LL} {F : lh_FF} {S : lh_SS} {K : Int32 → lh_Hp → Prop} {r : Int32 × lh_II} (hG : lh_GX Γ) (hS : lh_lay F S)  {x1 : Int32} (hf : f_LM_would x1 I = some r) (hK : K r.1 (r.2, L, F, S)) : lh_Met Γ m_LM_would 6 0 0 [.ref (65 + 4), .int x1] (I, L, F, S) (lh_ki K) := by
  rw [f_LM_would] at hf
  refine lh_ofG k_LM_would [(0, .ref (65 + 4)), (1, .int x1)] rfl (Nat.le_of_ble_eq_true rfl) rfl ?_
  refine lh_aload_n (q := 0) rfl rfl rfl ?_
  refine lh_iconst rfl lh_k_0 ?_
  refine lh_putI4 rfl rfl (hS.1 65 _ rfl) rfl rfl ?_
  refine lh_iload_n (q := 1) rfl rfl rfl ?_
  refine lh_iconst rfl lh_k_m1 ?_
  refine lh_iconst rfl lh_k_1 ?_
  refine lh_bdE hf (fun r1 e2 hf => ?_)
  refine lh_cSi (N := m_LM_within) (d := 0) (As := [.int x1, .int (-1), .int 1]) (st := []) rfl rfl v_LM_within rfl rfl ⟨rfl, rfl⟩ rfl (t_LM_within hG hS e2 ?_)
  refine lh_if_eq rfl (fun c3 => ?_) (fun c3 => ?_)
  · have hf := lh_ifT hf c3
    refine lh_iconst rfl lh_k_m1 ?_
    exact lh_iret rfl rfl rfl (by obtain rfl := Option.some.inj hf; exact hK)
  · have hf := lh_ifF hf c3
    refine lh_aload_n (q := 0) rfl rfl rfl ?_
    refine lh_iconst rfl lh_k_0 ?_
    refine lh_iload_n (q := 1) rfl rfl rfl ?_
    refine lh_bdE hf (fun r4 e5 hf => ?_)
    refine lh_cVi (N := m_LM_bumpsBy) (d := 5) (o := 65) (As := [.int 0, .int x1]) (st := []) rfl rfl v_LM_bumpsBy (hS.1 65 _ rfl) rfl rfl rfl ⟨rfl, rfl⟩ rfl (t_LM_bumpsBy hG hS e5 ?_)
    refine lh_goto rfl ?_
    exact lh_iret rfl rfl rfl (by obtain rfl := Option.some.inj hf; exact hK)
