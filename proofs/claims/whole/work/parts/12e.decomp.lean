/-! decompiled by program: f_.. the functions, t_.. that the methods do as they say -/
def f_LM_same_21 (v1 : Int32) (v2 : Int32) (v3 : Int32) (I : lh_II) : Nat → Int32 → Int32 → Option (Int32)
  | 0, _, _ => none
  | n + 1, v4, v5 => lh_bd (f_LM_cells I) fun r3 => if (8 * r3) ≤ v5 then some v4 else if v4 = 0 then f_LM_same_21 v1 v2 v3 I n 0 (v5 + 1) else lh_bd (f_LM_isSomebody v2 (v5 - v5 / 8 * 8) (v5 / 8) I) fun r7 => lh_bd (f_LM_isSomebody v3 (v5 - v5 / 8 * 8) (v5 / 8) I) fun r9 => if r7 = r9 then f_LM_same_21 v1 v2 v3 I n 1 (v5 + 1) else f_LM_same_21 v1 v2 v3 I n 0 (v5 + 1)
def f_LM_same_14 (v2 : Int32) (I : lh_II) : Nat → Int32 → Int32 → Option (Int32)
  | 0, _, _ => none
  | n + 1, v1, v3 => if 4 ≤ v3 then some v1 else lh_bd (f_LM_same_21 v1 v2 v3 I lh_fuel 1 0) fun r12 => if r12 = 0 then f_LM_same_14 v2 I n (v1 + 0) (v3 + 1) else f_LM_same_14 v2 I n (v1 + 1) (v3 + 1)
def f_LM_same_7 (I : lh_II) : Nat → Int32 → Int32 → Option (Int32)
  | 0, _, _ => none
  | n + 1, v1, v2 => if 4 ≤ v2 then some v1 else lh_bd (f_LM_same_14 v2 I lh_fuel v1 (v2 + 1)) fun r15 => f_LM_same_7 I n r15 (v2 + 1)
def f_LM_same (I : lh_II) : Option (Int32 × lh_II) := lh_bd (f_LM_same_7 (lh_u2 I (65 + 4) 0 0) lh_fuel 0 0) fun r17 => some (r17, lh_u2 I (65 + 4) 0 0)
theorem t_LM_same_21 {Γ : lh_Cx} {F : lh_FF} {S : lh_SS} {Z : List Frame → Array Value → State → State → Prop} (hG : lh_GX Γ) (hS : lh_laym F S)  {v1 : Int32} {v2 : Int32} {v3 : Int32} {I : lh_II} {L : lh_LL} : ∀ (n : Nat) (v4 : Int32) (v5 : Int32) (o : Int32), f_LM_same_21 v1 v2 v3 I n v4 v5 = some o → ∀ (x0_ : lh_G Γ m_LM_same (lh_R 3 0 0) Z 0 0 54 [(0, .ref (65 + 4)), (1, .int v1), (2, .int v2), (3, .int v3), (4, .int o)] [] (I, L, F, S)), lh_G Γ m_LM_same (lh_R 3 0 0) Z 0 0 21 [(0, .ref (65 + 4)), (1, .int v1), (2, .int v2), (3, .int v3), (4, .int v4), (5, .int v5)] [] (I, L, F, S) := by
  intro n
  induction n with
  | zero => intro v4 v5 o hf; cases hf
  | succ n ih =>
    intro v4 v5 o hf x0_
    rw [f_LM_same_21] at hf
    refine lh_iload (q := 5) rfl rfl ?_
    refine lh_bipush rfl lh_b_8 ?_
    refine lh_aload_n (q := 0) rfl rfl rfl ?_
    refine lh_bdE hf (fun r3 e4 hf => ?_)
    refine lh_cVi (N := m_LM_cells) (d := 0) (o := 65) (As := []) (st := [.int 8, .int v5]) rfl rfl v_LM_cells (hS.1 0 _ rfl) rfl rfl rfl ⟨rfl, rfl⟩ rfl (t_LM_cells hG hS e4 ?_)
    refine lh_imul rfl ?_
    refine lh_icmp_ge rfl (fun c5 => ?_) (fun c5 => ?_)
    · have hf := lh_ifT hf c5
      exact lh_less [0, 1, 2, 3, 4] rfl (by cases hf; exact x0_)
    · have hf := lh_ifF hf c5
      refine lh_iload (q := 4) rfl rfl ?_
      refine lh_if_eq rfl (fun c6 => ?_) (fun c6 => ?_)
      · have hf := lh_ifT hf c6
        refine lh_iconst rfl lh_k_0 ?_
        refine lh_istore (lv' := [(0, .ref (65 + 4)), (1, .int v1), (2, .int v2), (3, .int v3), (4, .int 0), (5, .int v5)]) rfl rfl rfl ?_
        refine lh_iinc (q := 5) (v := (v5 + 1)) (lv' := [(0, .ref (65 + 4)), (1, .int v1), (2, .int v2), (3, .int v3), (4, .int 0), (5, .int (v5 + 1))]) rfl rfl (congrArg (v5 + ·) (by decide)) rfl rfl ?_
        refine lh_goto rfl ?_
        exact ih 0 (v5 + 1) _ hf x0_
      · have hf := lh_ifF hf c6
        refine lh_aload_n (q := 0) rfl rfl rfl ?_
        refine lh_iload_n (q := 2) rfl rfl rfl ?_
        refine lh_iload (q := 5) rfl rfl ?_
        refine lh_bipush rfl lh_b_8 ?_
        refine lh_irem rfl (by decide) ?_
        refine lh_iload (q := 5) rfl rfl ?_
        refine lh_bipush rfl lh_b_8 ?_
        refine lh_idiv rfl (by decide) ?_
        refine lh_bdE hf (fun r7 e8 hf => ?_)
        refine lh_cVi (N := m_LM_isSomebody) (d := 2) (o := 65) (As := [.int v2, .int (v5 - v5 / 8 * 8), .int (v5 / 8)]) (st := []) rfl rfl v_LM_isSomebody (hS.1 0 _ rfl) rfl rfl rfl ⟨rfl, rfl⟩ rfl (t_LM_isSomebody hG hS e8 ?_)
        refine lh_aload_n (q := 0) rfl rfl rfl ?_
        refine lh_iload_n (q := 3) rfl rfl rfl ?_
        refine lh_iload (q := 5) rfl rfl ?_
        refine lh_bipush rfl lh_b_8 ?_
        refine lh_irem rfl (by decide) ?_
        refine lh_iload (q := 5) rfl rfl ?_
        refine lh_bipush rfl lh_b_8 ?_
        refine lh_idiv rfl (by decide) ?_
        refine lh_bdE hf (fun r9 e10 hf => ?_)
        refine lh_cVi (N := m_LM_isSomebody) (d := 2) (o := 65) (As := [.int v3, .int (v5 - v5 / 8 * 8), .int (v5 / 8)]) (st := [.int r7]) rfl rfl v_LM_isSomebody (hS.1 0 _ rfl) rfl rfl rfl ⟨rfl, rfl⟩ rfl (t_LM_isSomebody hG hS e10 ?_)
        refine lh_icmp_ne rfl (fun c11 => ?_) (fun c11 => ?_)
        · have hf := lh_ifF hf c11
          refine lh_iconst rfl lh_k_0 ?_
          refine lh_istore (lv' := [(0, .ref (65 + 4)), (1, .int v1), (2, .int v2), (3, .int v3), (4, .int 0), (5, .int v5)]) rfl rfl rfl ?_
          refine lh_iinc (q := 5) (v := (v5 + 1)) (lv' := [(0, .ref (65 + 4)), (1, .int v1), (2, .int v2), (3, .int v3), (4, .int 0), (5, .int (v5 + 1))]) rfl rfl (congrArg (v5 + ·) (by decide)) rfl rfl ?_
          refine lh_goto rfl ?_
          exact ih 0 (v5 + 1) _ hf x0_
        · have hf := lh_ifT hf c11
          refine lh_iconst rfl lh_k_1 ?_
          refine lh_goto rfl ?_
          refine lh_istore (lv' := [(0, .ref (65 + 4)), (1, .int v1), (2, .int v2), (3, .int v3), (4, .int 1), (5, .int v5)]) rfl rfl rfl ?_
          refine lh_iinc (q := 5) (v := (v5 + 1)) (lv' := [(0, .ref (65 + 4)), (1, .int v1), (2, .int v2), (3, .int v3), (4, .int 1), (5, .int (v5 + 1))]) rfl rfl (congrArg (v5 + ·) (by decide)) rfl rfl ?_
          refine lh_goto rfl ?_
          exact ih 1 (v5 + 1) _ hf x0_
theorem t_LM_same_14 {Γ : lh_Cx} {F : lh_FF} {S : lh_SS} {Z : List Frame → Array Value → State → State → Prop} (hG : lh_GX Γ) (hS : lh_laym F S)  {v2 : Int32} {I : lh_II} {L : lh_LL} : ∀ (n : Nat) (v1 : Int32) (v3 : Int32) (o : Int32), f_LM_same_14 v2 I n v1 v3 = some o → ∀ (x0_ : lh_G Γ m_LM_same (lh_R 3 0 0) Z 0 0 64 [(0, .ref (65 + 4)), (1, .int o), (2, .int v2)] [] (I, L, F, S)), lh_G Γ m_LM_same (lh_R 3 0 0) Z 0 0 14 [(0, .ref (65 + 4)), (1, .int v1), (2, .int v2), (3, .int v3)] [] (I, L, F, S) := by
  intro n
  induction n with
  | zero => intro v1 v3 o hf; cases hf
  | succ n ih =>
    intro v1 v3 o hf x0_
    rw [f_LM_same_14] at hf
    refine lh_iload_n (q := 3) rfl rfl rfl ?_
    refine lh_iconst rfl lh_k_4 ?_
    refine lh_icmp_ge rfl (fun c2 => ?_) (fun c2 => ?_)
    · have hf := lh_ifT hf c2
      exact lh_less [0, 1, 2] rfl (by cases hf; exact x0_)
    · have hf := lh_ifF hf c2
      refine lh_iconst rfl lh_k_1 ?_
      refine lh_istore (lv' := [(0, .ref (65 + 4)), (1, .int v1), (2, .int v2), (3, .int v3), (4, .int 1)]) rfl rfl rfl ?_
      refine lh_iconst rfl lh_k_0 ?_
      refine lh_istore (lv' := [(0, .ref (65 + 4)), (1, .int v1), (2, .int v2), (3, .int v3), (4, .int 1), (5, .int 0)]) rfl rfl rfl ?_
      refine lh_bdE hf (fun r12 e13 hf => ?_)
      refine t_LM_same_21 hG hS  _ 1 0 _ e13 ?_
      refine lh_iload_n (q := 1) rfl rfl rfl ?_
      refine lh_iload (q := 4) rfl rfl ?_
      refine lh_if_eq rfl (fun c14 => ?_) (fun c14 => ?_)
      · have hf := lh_ifT hf c14
        refine lh_iconst rfl lh_k_0 ?_
        refine lh_iadd rfl ?_
        refine lh_istore_n (lv' := [(0, .ref (65 + 4)), (1, .int (v1 + 0)), (2, .int v2), (3, .int v3), (4, .int r12)]) rfl rfl rfl rfl ?_
        refine lh_iinc (q := 3) (v := (v3 + 1)) (lv' := [(0, .ref (65 + 4)), (1, .int (v1 + 0)), (2, .int v2), (3, .int (v3 + 1)), (4, .int r12)]) rfl rfl (congrArg (v3 + ·) (by decide)) rfl rfl ?_
        refine lh_goto rfl ?_
        refine lh_less [0, 1, 2, 3] rfl ?_
        exact ih (v1 + 0) (v3 + 1) _ hf x0_
      · have hf := lh_ifF hf c14
        refine lh_iconst rfl lh_k_1 ?_
        refine lh_goto rfl ?_
        refine lh_iadd rfl ?_
        refine lh_istore_n (lv' := [(0, .ref (65 + 4)), (1, .int (v1 + 1)), (2, .int v2), (3, .int v3), (4, .int r12)]) rfl rfl rfl rfl ?_
        refine lh_iinc (q := 3) (v := (v3 + 1)) (lv' := [(0, .ref (65 + 4)), (1, .int (v1 + 1)), (2, .int v2), (3, .int (v3 + 1)), (4, .int r12)]) rfl rfl (congrArg (v3 + ·) (by decide)) rfl rfl ?_
        refine lh_goto rfl ?_
        refine lh_less [0, 1, 2, 3] rfl ?_
        exact ih (v1 + 1) (v3 + 1) _ hf x0_
theorem t_LM_same_7 {Γ : lh_Cx} {F : lh_FF} {S : lh_SS} {Z : List Frame → Array Value → State → State → Prop} (hG : lh_GX Γ) (hS : lh_laym F S)   {I : lh_II} {L : lh_LL} : ∀ (n : Nat) (v1 : Int32) (v2 : Int32) (o : Int32), f_LM_same_7 I n v1 v2 = some o → ∀ (x0_ : lh_G Γ m_LM_same (lh_R 3 0 0) Z 0 0 66 [(1, .int o)] [] (I, L, F, S)), lh_G Γ m_LM_same (lh_R 3 0 0) Z 0 0 7 [(0, .ref (65 + 4)), (1, .int v1), (2, .int v2)] [] (I, L, F, S) := by
  intro n
  induction n with
  | zero => intro v1 v2 o hf; cases hf
  | succ n ih =>
    intro v1 v2 o hf x0_
    rw [f_LM_same_7] at hf
    refine lh_iload_n (q := 2) rfl rfl rfl ?_
    refine lh_iconst rfl lh_k_4 ?_
    refine lh_icmp_ge rfl (fun c1 => ?_) (fun c1 => ?_)
    · have hf := lh_ifT hf c1
      exact lh_less [1] rfl (by cases hf; exact x0_)
    · have hf := lh_ifF hf c1
      refine lh_iload_n (q := 2) rfl rfl rfl ?_
      refine lh_iconst rfl lh_k_1 ?_
      refine lh_iadd rfl ?_
      refine lh_istore_n (lv' := [(0, .ref (65 + 4)), (1, .int v1), (2, .int v2), (3, .int (v2 + 1))]) rfl rfl rfl rfl ?_
      refine lh_bdE hf (fun r15 e16 hf => ?_)
      refine t_LM_same_14 hG hS  _ v1 (v2 + 1) _ e16 ?_
      refine lh_iinc (q := 2) (v := (v2 + 1)) (lv' := [(0, .ref (65 + 4)), (1, .int r15), (2, .int (v2 + 1))]) rfl rfl (congrArg (v2 + ·) (by decide)) rfl rfl ?_
      refine lh_goto rfl ?_
      exact ih r15 (v2 + 1) _ hf x0_
theorem t_LM_same {Γ : lh_Cx} {I : lh_II} {L : lh_LL} {F : lh_FF} {S : lh_SS} {K : Int32 → lh_Hp → Prop} {r : Int32 × lh_II} (hG : lh_GX Γ) (hS : lh_laym F S)  (hf : f_LM_same I = some r) (hK : K r.1 (r.2, L, F, S)) : lh_Met Γ m_LM_same 3 0 0 [.ref (65 + 4)] (I, L, F, S) (lh_ki K) := by
  rw [f_LM_same] at hf
  refine lh_ofG k_LM_same [(0, .ref (65 + 4))] rfl (Nat.le_of_ble_eq_true rfl) rfl ?_
  refine lh_aload_n (q := 0) rfl rfl rfl ?_
  refine lh_iconst rfl lh_k_0 ?_
  refine lh_putI4 rfl rfl (hS.1 0 _ rfl) rfl rfl ?_
  refine lh_iconst rfl lh_k_0 ?_
  refine lh_istore_n (lv' := [(0, .ref (65 + 4)), (1, .int 0)]) rfl rfl rfl rfl ?_
  refine lh_iconst rfl lh_k_0 ?_
  refine lh_istore_n (lv' := [(0, .ref (65 + 4)), (1, .int 0), (2, .int 0)]) rfl rfl rfl rfl ?_
  refine lh_bdE hf (fun r17 e18 hf => ?_)
  refine t_LM_same_7 hG hS  _ 0 0 _ e18 ?_
  refine lh_iload_n (q := 0) rfl rfl rfl ?_
  exact lh_iret rfl rfl rfl (by obtain rfl := Option.some.inj hf; exact hK)
def f_LM_say (x1 : Int32) (x2 : Int32) (x3 : Int32) (I : lh_II) : Option (Int32 × lh_II) := lh_bd (f_LM_within x1 (0 : Int32) (7 : Int32)) fun r1 => if r1 = 0 then some (0, lh_u2 I (65 + 4) 0 0) else lh_bd (f_LM_isCell x2 (lh_u2 I (65 + 4) 0 0)) fun r4 => if r4 = 0 then some (0, lh_u2 I (65 + 4) 0 0) else if ((lh_u2 I (65 + 4) 0 0) (78 + 4) 7) = 8 then some (0, lh_u2 I (65 + 4) 0 0) else lh_gd (lh_ix (8 + (3 * ((lh_u2 I (65 + 4) 0 0) (78 + 4) 7))) 736) (lh_gd (lh_ix ((8 + (3 * ((lh_u2 I (65 + 4) 0 0) (78 + 4) 7))) + 1) 736) (if x3 = 0 then lh_gd (lh_ix ((8 + (3 * ((lh_u2 I (65 + 4) 0 0) (78 + 4) 7))) + 2) 736) (some (1, lh_u2 (lh_u2 (lh_u2 (lh_u2 (lh_u2 I (65 + 4) 0 0) (78 + 4) (8 + (3 * ((lh_u2 I (65 + 4) 0 0) (78 + 4) 7))).toNatClampNeg x1) (78 + 4) ((8 + (3 * ((lh_u2 I (65 + 4) 0 0) (78 + 4) 7))) + 1).toNatClampNeg x2) (78 + 4) ((8 + (3 * ((lh_u2 I (65 + 4) 0 0) (78 + 4) 7))) + 2).toNatClampNeg 0) (78 + 4) 7 (((lh_u2 (lh_u2 (lh_u2 (lh_u2 I (65 + 4) 0 0) (78 + 4) (8 + (3 * ((lh_u2 I (65 + 4) 0 0) (78 + 4) 7))).toNatClampNeg x1) (78 + 4) ((8 + (3 * ((lh_u2 I (65 + 4) 0 0) (78 + 4) 7))) + 1).toNatClampNeg x2) (78 + 4) ((8 + (3 * ((lh_u2 I (65 + 4) 0 0) (78 + 4) 7))) + 2).toNatClampNeg 0) (78 + 4) 7) + 1))) else lh_gd (lh_ix ((8 + (3 * ((lh_u2 I (65 + 4) 0 0) (78 + 4) 7))) + 2) 736) (some (1, lh_u2 (lh_u2 (lh_u2 (lh_u2 (lh_u2 I (65 + 4) 0 0) (78 + 4) (8 + (3 * ((lh_u2 I (65 + 4) 0 0) (78 + 4) 7))).toNatClampNeg x1) (78 + 4) ((8 + (3 * ((lh_u2 I (65 + 4) 0 0) (78 + 4) 7))) + 1).toNatClampNeg x2) (78 + 4) ((8 + (3 * ((lh_u2 I (65 + 4) 0 0) (78 + 4) 7))) + 2).toNatClampNeg 1) (78 + 4) 7 (((lh_u2 (lh_u2 (lh_u2 (lh_u2 I (65 + 4) 0 0) (78 + 4) (8 + (3 * ((lh_u2 I (65 + 4) 0 0) (78 + 4) 7))).toNatClampNeg x1) (78 + 4) ((8 + (3 * ((lh_u2 I (65 + 4) 0 0) (78 + 4) 7))) + 1).toNatClampNeg x2) (78 + 4) ((8 + (3 * ((lh_u2 I (65 + 4) 0 0) (78 + 4) 7))) + 2).toNatClampNeg 1) (78 + 4) 7) + 1)))))
theorem t_LM_say {Γ : lh_Cx} {I : lh_II} {L : lh_LL} {F : lh_FF} {S : lh_SS} {K : Int32 → lh_Hp → Prop} {r : Int32 × lh_II} (hG : lh_GX Γ) (hS : lh_laym F S)  {x1 : Int32} {x2 : Int32} {x3 : Int32} (hf : f_LM_say x1 x2 x3 I = some r) (hK : K r.1 (r.2, L, F, S)) : lh_Met Γ m_LM_say 2 0 0 [.ref (65 + 4), .int x1, .int x2, .int x3] (I, L, F, S) (lh_ki K) := by
  rw [f_LM_say] at hf
  refine lh_ofG k_LM_say [(0, .ref (65 + 4)), (1, .int x1), (2, .int x2), (3, .int x3)] rfl (Nat.le_of_ble_eq_true rfl) rfl ?_
  refine lh_aload_n (q := 0) rfl rfl rfl ?_
  refine lh_iconst rfl lh_k_0 ?_
  refine lh_putI4 rfl rfl (hS.1 0 _ rfl) rfl rfl ?_
  refine lh_iload_n (q := 1) rfl rfl rfl ?_
  refine lh_iconst rfl lh_k_0 ?_
  refine lh_bipush rfl lh_b_7 ?_
  refine lh_bdE hf (fun r1 e2 hf => ?_)
  refine lh_cSi (N := m_LM_within) (d := 0) (As := [.int x1, .int 0, .int 7]) (st := []) rfl rfl v_LM_within rfl rfl ⟨rfl, rfl⟩ rfl (t_LM_within hG hS e2 ?_)
  refine lh_if_eq rfl (fun c3 => ?_) (fun c3 => ?_)
  · have hf := lh_ifT hf c3
    refine lh_iconst rfl lh_k_0 ?_
    exact lh_iret rfl rfl (by decide) (by obtain rfl := Option.some.inj hf; exact hK)
  · have hf := lh_ifF hf c3
    refine lh_aload_n (q := 0) rfl rfl rfl ?_
    refine lh_iload_n (q := 2) rfl rfl rfl ?_
    refine lh_bdE hf (fun r4 e5 hf => ?_)
    refine lh_cVi (N := m_LM_isCell) (d := 1) (o := 65) (As := [.int x2]) (st := []) rfl rfl v_LM_isCell (hS.1 0 _ rfl) rfl rfl rfl ⟨rfl, rfl⟩ rfl (t_LM_isCell hG hS e5 ?_)
    refine lh_if_eq rfl (fun c6 => ?_) (fun c6 => ?_)
    · have hf := lh_ifT hf c6
      refine lh_iconst rfl lh_k_0 ?_
      exact lh_iret rfl rfl (by decide) (by obtain rfl := Option.some.inj hf; exact hK)
    · have hf := lh_ifF hf c6
      refine lh_aload_n (q := 0) rfl rfl rfl ?_
      refine lh_getR4 rfl rfl (hS.1 0 _ rfl) rfl (hS.2 12 _ rfl) ?_
      refine lh_bipush rfl lh_b_7 ?_
      refine lh_iald5 (k := 7) rfl (hS.1 13 _ rfl) (by decide) (by decide) ?_
      refine lh_bipush rfl lh_b_8 ?_
      refine lh_icmp_ne rfl (fun c7 => ?_) (fun c7 => ?_)
      · have hf := lh_ifF hf c7
        refine lh_bipush rfl lh_b_8 ?_
        refine lh_iconst rfl lh_k_3 ?_
        refine lh_aload_n (q := 0) rfl rfl rfl ?_
        refine lh_getR4 rfl rfl (hS.1 0 _ rfl) rfl (hS.2 12 _ rfl) ?_
        refine lh_bipush rfl lh_b_7 ?_
        refine lh_iald5 (k := 7) rfl (hS.1 13 _ rfl) (by decide) (by decide) ?_
        refine lh_imul rfl ?_
        refine lh_iadd rfl ?_
        refine lh_istore (lv' := [(0, .ref (65 + 4)), (1, .int x1), (2, .int x2), (3, .int x3), (4, .int (8 + (3 * ((lh_u2 I (65 + 4) 0 0) (78 + 4) 7))))]) rfl rfl rfl ?_
        refine lh_aload_n (q := 0) rfl rfl rfl ?_
        refine lh_getR4 rfl rfl (hS.1 0 _ rfl) rfl (hS.2 12 _ rfl) ?_
        refine lh_iload (q := 4) rfl rfl ?_
        refine lh_iload_n (q := 1) rfl rfl rfl ?_
        obtain ⟨g8, hf⟩ := lh_gdE hf
        refine lh_iast4 rfl (hS.1 13 _ rfl) g8 ?_
        refine lh_aload_n (q := 0) rfl rfl rfl ?_
        refine lh_getR4 rfl rfl (hS.1 0 _ rfl) rfl (hS.2 12 _ rfl) ?_
        refine lh_iload (q := 4) rfl rfl ?_
        refine lh_iconst rfl lh_k_1 ?_
        refine lh_iadd rfl ?_
        refine lh_iload_n (q := 2) rfl rfl rfl ?_
        obtain ⟨g9, hf⟩ := lh_gdE hf
        refine lh_iast4 rfl (hS.1 13 _ rfl) g9 ?_
        refine lh_aload_n (q := 0) rfl rfl rfl ?_
        refine lh_getR4 rfl rfl (hS.1 0 _ rfl) rfl (hS.2 12 _ rfl) ?_
        refine lh_iload (q := 4) rfl rfl ?_
        refine lh_iconst rfl lh_k_2 ?_
        refine lh_iadd rfl ?_
        refine lh_iload_n (q := 3) rfl rfl rfl ?_
        refine lh_if_eq rfl (fun c10 => ?_) (fun c10 => ?_)
        · have hf := lh_ifT hf c10
          refine lh_iconst rfl lh_k_0 ?_
          obtain ⟨g11, hf⟩ := lh_gdE hf
          refine lh_iast4 rfl (hS.1 13 _ rfl) g11 ?_
          refine lh_aload_n (q := 0) rfl rfl rfl ?_
          refine lh_getR4 rfl rfl (hS.1 0 _ rfl) rfl (hS.2 12 _ rfl) ?_
          refine lh_bipush rfl lh_b_7 ?_
          refine lh_dup2 rfl rfl rfl ?_
          refine lh_iald5 (k := 7) rfl (hS.1 13 _ rfl) (by decide) (by decide) ?_
          refine lh_iconst rfl lh_k_1 ?_
          refine lh_iadd rfl ?_
          refine lh_iast5 (k := 7) rfl (hS.1 13 _ rfl) (by decide) (by decide) ?_
          refine lh_iconst rfl lh_k_1 ?_
          exact lh_iret rfl rfl (by decide) (by obtain rfl := Option.some.inj hf; exact hK)
        · have hf := lh_ifF hf c10
          refine lh_iconst rfl lh_k_1 ?_
          refine lh_goto rfl ?_
          obtain ⟨g12, hf⟩ := lh_gdE hf
          refine lh_iast4 rfl (hS.1 13 _ rfl) g12 ?_
          refine lh_aload_n (q := 0) rfl rfl rfl ?_
          refine lh_getR4 rfl rfl (hS.1 0 _ rfl) rfl (hS.2 12 _ rfl) ?_
          refine lh_bipush rfl lh_b_7 ?_
          refine lh_dup2 rfl rfl rfl ?_
          refine lh_iald5 (k := 7) rfl (hS.1 13 _ rfl) (by decide) (by decide) ?_
          refine lh_iconst rfl lh_k_1 ?_
          refine lh_iadd rfl ?_
          refine lh_iast5 (k := 7) rfl (hS.1 13 _ rfl) (by decide) (by decide) ?_
          refine lh_iconst rfl lh_k_1 ?_
          exact lh_iret rfl rfl (by decide) (by obtain rfl := Option.some.inj hf; exact hK)
      · have hf := lh_ifT hf c7
        refine lh_iconst rfl lh_k_0 ?_
        exact lh_iret rfl rfl (by decide) (by obtain rfl := Option.some.inj hf; exact hK)
def f_LM_sees (I : lh_II) : Option (Int32 × lh_II) := lh_bd (f_LM_seenNow (0 : Int32) (lh_u2 I (65 + 4) 0 0)) fun r1 => some (r1.1, r1.2)
theorem t_LM_sees {Γ : lh_Cx} {I : lh_II} {L : lh_LL} {F : lh_FF} {S : lh_SS} {K : Int32 → lh_Hp → Prop} {r : Int32 × lh_II} (hG : lh_GX Γ) (hS : lh_laym F S)  (hf : f_LM_sees I = some r) (hK : K r.1 (r.2, L, F, S)) : lh_Met Γ m_LM_sees 5 0 0 [.ref (65 + 4)] (I, L, F, S) (lh_ki K) := by
  rw [f_LM_sees] at hf
  refine lh_ofG k_LM_sees [(0, .ref (65 + 4))] rfl (Nat.le_of_ble_eq_true rfl) rfl ?_
  refine lh_aload_n (q := 0) rfl rfl rfl ?_
  refine lh_iconst rfl lh_k_0 ?_
  refine lh_putI4 rfl rfl (hS.1 0 _ rfl) rfl rfl ?_
  refine lh_aload_n (q := 0) rfl rfl rfl ?_
  refine lh_iconst rfl lh_k_0 ?_
  refine lh_bdE hf (fun r1 e2 hf => ?_)
  refine lh_cVi (N := m_LM_seenNow) (d := 4) (o := 65) (As := [.int 0]) (st := []) rfl rfl v_LM_seenNow (hS.1 0 _ rfl) rfl rfl rfl ⟨rfl, rfl⟩ rfl (t_LM_seenNow hG hS e2 ?_)
  exact lh_iret rfl rfl rfl (by obtain rfl := Option.some.inj hf; exact hK)
def f_LM_shortest_22 (v1 : Int32) : Nat → Int32 → lh_LL → Option (lh_LL)
  | 0, _, _ => none
  | n + 1, v2, L => if 12 ≤ v2 then some L else lh_gd (lh_ix v2 24) (f_LM_shortest_22 v1 n (v2 + 1) (lh_v2 L (80 + 4) v2.toNatClampNeg 0))
def f_LM_shortest_54 (v1 : Int32) (v2 : Int32) (L : lh_LL) : Nat → Int32 → Int32 → Option (Int32)
  | 0, _, _ => none
  | n + 1, v3, v4 => if 12 ≤ v4 then some v3 else if v3 = 0 then lh_gd (lh_ix v4 24) (lh_bd (f_LM_isWithAll (L (80 + 4) v4.toNatClampNeg) v1) fun r17 => if r17 = 0 then f_LM_shortest_54 v1 v2 L n 0 (v4 + 1) else f_LM_shortest_54 v1 v2 L n 1 (v4 + 1)) else f_LM_shortest_54 v1 v2 L n 1 (v4 + 1)
def f_LM_shortest_47 (v1 : Int32) : Nat → Int32 → lh_II → lh_LL → Option (Nat × Int32 × lh_II × lh_LL)
  | 0, _, _, _ => none
  | n + 1, v2, I, L => if 40 < v2 then some (1, v2, I, L) else lh_bd (f_LM_shortest_54 v1 v2 L lh_fuel 0 0) fun r20 => if r20 = 0 then lh_bd (f_LM_goesOn I L) fun r23 => f_LM_shortest_47 v1 n (v2 + 1) r23.1 r23.2 else some (0, v2, I, L)
def f_LM_shortest (x1 : Int32) (I : lh_II) (L : lh_LL) : Option (Int32 × lh_II × lh_LL) := lh_bd (f_LM_visitors (lh_u2 I (65 + 4) 0 0)) fun r1 => lh_bd (f_LM_within x1 (0 : Int32) (((1 : Int32) <<< (r1 &&& 31)) - 1)) fun r3 => if r3 = 0 then some ((-1), lh_u2 I (65 + 4) 0 0, L) else lh_bd (f_LM_copies (0 : Int32) (672 : Int32) (7 : Int32) (lh_u2 I (65 + 4) 0 0)) fun r6 => lh_bd (f_LM_shortest_22 x1 lh_fuel 0 L) fun r10 => lh_gd (lh_ix (r6 (78 + 4) 5) 24) (lh_bd (f_LM_shortest_47 x1 lh_fuel 0 r6 (lh_v2 r10 (80 + 4) (r6 (78 + 4) 5).toNatClampNeg ((1 : Int64) <<< ((r6 (78 + 4) 6).toInt64 &&& 63)))) fun r25 => if r25.1 = 0 then some (r25.2.1, r25.2.2.1, r25.2.2.2) else some ((-1), r25.2.2.1, r25.2.2.2))
theorem t_LM_shortest_22 {Γ : lh_Cx} {F : lh_FF} {S : lh_SS} {Z : List Frame → Array Value → State → State → Prop} (hG : lh_GX Γ) (hS : lh_laym F S)  {v1 : Int32} {I : lh_II} : ∀ (n : Nat) (v2 : Int32) (L : lh_LL) (o : lh_LL), f_LM_shortest_22 v1 n v2 L = some o → ∀ (x0_ : lh_G Γ m_LM_shortest (lh_R 8 0 0) Z 0 0 32 [(0, .ref (65 + 4)), (1, .int v1)] [] (I, o, F, S)), lh_G Γ m_LM_shortest (lh_R 8 0 0) Z 0 0 22 [(0, .ref (65 + 4)), (1, .int v1), (2, .int v2)] [] (I, L, F, S) := by
  intro n
  induction n with
  | zero => intro v2 L o hf; cases hf
  | succ n ih =>
    intro v2 L o hf x0_
    rw [f_LM_shortest_22] at hf
    refine lh_iload_n (q := 2) rfl rfl rfl ?_
    refine lh_bipush rfl lh_b_12 ?_
    refine lh_icmp_ge rfl (fun c8 => ?_) (fun c8 => ?_)
    · have hf := lh_ifT hf c8
      exact lh_less [0, 1] rfl (by cases hf; exact x0_)
    · have hf := lh_ifF hf c8
      refine lh_aload_n (q := 0) rfl rfl rfl ?_
      refine lh_getR4 rfl rfl (hS.1 0 _ rfl) rfl (hS.2 14 _ rfl) ?_
      refine lh_iload_n (q := 2) rfl rfl rfl ?_
      refine lh_lconst (v := 0) rfl (by decide) ?_
      obtain ⟨g9, hf⟩ := lh_gdE hf
      refine lh_last4 rfl (hS.1 15 _ rfl) g9 ?_
      refine lh_iinc (q := 2) (v := (v2 + 1)) (lv' := [(0, .ref (65 + 4)), (1, .int v1), (2, .int (v2 + 1))]) rfl rfl (congrArg (v2 + ·) (by decide)) rfl rfl ?_
      refine lh_goto rfl ?_
      exact ih (v2 + 1) (lh_v2 L (80 + 4) v2.toNatClampNeg 0) _ hf x0_
theorem t_LM_shortest_54 {Γ : lh_Cx} {F : lh_FF} {S : lh_SS} {Z : List Frame → Array Value → State → State → Prop} (hG : lh_GX Γ) (hS : lh_laym F S)  {v1 : Int32} {v2 : Int32} {I : lh_II} {L : lh_LL} : ∀ (n : Nat) (v3 : Int32) (v4 : Int32) (o : Int32), f_LM_shortest_54 v1 v2 L n v3 v4 = some o → ∀ (x0_ : lh_G Γ m_LM_shortest (lh_R 8 0 0) Z 0 0 72 [(0, .ref (65 + 4)), (1, .int v1), (2, .int v2), (3, .int o)] [] (I, L, F, S)), lh_G Γ m_LM_shortest (lh_R 8 0 0) Z 0 0 54 [(0, .ref (65 + 4)), (1, .int v1), (2, .int v2), (3, .int v3), (4, .int v4)] [] (I, L, F, S) := by
  intro n
  induction n with
  | zero => intro v3 v4 o hf; cases hf
  | succ n ih =>
    intro v3 v4 o hf x0_
    rw [f_LM_shortest_54] at hf
    refine lh_iload (q := 4) rfl rfl ?_
    refine lh_bipush rfl lh_b_12 ?_
    refine lh_icmp_ge rfl (fun c14 => ?_) (fun c14 => ?_)
    · have hf := lh_ifT hf c14
      exact lh_less [0, 1, 2, 3] rfl (by cases hf; exact x0_)
    · have hf := lh_ifF hf c14
      refine lh_iload_n (q := 3) rfl rfl rfl ?_
      refine lh_if_ne rfl (fun c15 => ?_) (fun c15 => ?_)
      · have hf := lh_ifF hf c15
        refine lh_iconst rfl lh_k_1 ?_
        refine lh_goto rfl ?_
        refine lh_istore_n (lv' := [(0, .ref (65 + 4)), (1, .int v1), (2, .int v2), (3, .int 1), (4, .int v4)]) rfl rfl rfl rfl ?_
        refine lh_iinc (q := 4) (v := (v4 + 1)) (lv' := [(0, .ref (65 + 4)), (1, .int v1), (2, .int v2), (3, .int 1), (4, .int (v4 + 1))]) rfl rfl (congrArg (v4 + ·) (by decide)) rfl rfl ?_
        refine lh_goto rfl ?_
        exact ih 1 (v4 + 1) _ hf x0_
      · have hf := lh_ifT hf c15
        refine lh_aload_n (q := 0) rfl rfl rfl ?_
        refine lh_getR4 rfl rfl (hS.1 0 _ rfl) rfl (hS.2 14 _ rfl) ?_
        refine lh_iload (q := 4) rfl rfl ?_
        obtain ⟨g16, hf⟩ := lh_gdE hf
        refine lh_lald4 rfl (hS.1 15 _ rfl) g16 ?_
        refine lh_iload_n (q := 1) rfl rfl rfl ?_
        refine lh_bdE hf (fun r17 e18 hf => ?_)
        refine lh_cSi (N := m_LM_isWithAll) (d := 0) (As := [.long (L (80 + 4) v4.toNatClampNeg), .int v1]) (st := []) rfl rfl v_LM_isWithAll rfl rfl ⟨rfl, rfl⟩ rfl (t_LM_isWithAll hG hS e18 ?_)
        refine lh_if_eq rfl (fun c19 => ?_) (fun c19 => ?_)
        · have hf := lh_ifT hf c19
          refine lh_iconst rfl lh_k_0 ?_
          refine lh_istore_n (lv' := [(0, .ref (65 + 4)), (1, .int v1), (2, .int v2), (3, .int 0), (4, .int v4)]) rfl rfl rfl rfl ?_
          refine lh_iinc (q := 4) (v := (v4 + 1)) (lv' := [(0, .ref (65 + 4)), (1, .int v1), (2, .int v2), (3, .int 0), (4, .int (v4 + 1))]) rfl rfl (congrArg (v4 + ·) (by decide)) rfl rfl ?_
          refine lh_goto rfl ?_
          exact ih 0 (v4 + 1) _ hf x0_
        · have hf := lh_ifF hf c19
          refine lh_iconst rfl lh_k_1 ?_
          refine lh_goto rfl ?_
          refine lh_istore_n (lv' := [(0, .ref (65 + 4)), (1, .int v1), (2, .int v2), (3, .int 1), (4, .int v4)]) rfl rfl rfl rfl ?_
          refine lh_iinc (q := 4) (v := (v4 + 1)) (lv' := [(0, .ref (65 + 4)), (1, .int v1), (2, .int v2), (3, .int 1), (4, .int (v4 + 1))]) rfl rfl (congrArg (v4 + ·) (by decide)) rfl rfl ?_
          refine lh_goto rfl ?_
          exact ih 1 (v4 + 1) _ hf x0_
theorem t_LM_shortest_47 {Γ : lh_Cx} {F : lh_FF} {S : lh_SS} {Z : List Frame → Array Value → State → State → Prop} (hG : lh_GX Γ) (hS : lh_laym F S)  {v1 : Int32} : ∀ (n : Nat) (v2 : Int32) (I : lh_II) (L : lh_LL) (o : Nat × Int32 × lh_II × lh_LL), f_LM_shortest_47 v1 n v2 I L = some o → ∀ (x0_ : o.1 = 0 → lh_G Γ m_LM_shortest (lh_R 8 0 0) Z 0 0 74 [(2, .int o.2.1)] [] (o.2.2.1, o.2.2.2, F, S)), ∀ (x1_ : o.1 = 1 → lh_G Γ m_LM_shortest (lh_R 8 0 0) Z 0 0 80 [] [] (o.2.2.1, o.2.2.2, F, S)), lh_G Γ m_LM_shortest (lh_R 8 0 0) Z 0 0 47 [(0, .ref (65 + 4)), (1, .int v1), (2, .int v2)] [] (I, L, F, S) := by
  intro n
  induction n with
  | zero => intro v2 I L o hf; cases hf
  | succ n ih =>
    intro v2 I L o hf x0_ x1_
    rw [f_LM_shortest_47] at hf
    refine lh_iload_n (q := 2) rfl rfl rfl ?_
    refine lh_bipush rfl lh_b_40 ?_
    refine lh_icmp_gt rfl (fun c13 => ?_) (fun c13 => ?_)
    · have hf := lh_ifT hf c13
      exact lh_less [] rfl (by cases hf; exact x1_ rfl)
    · have hf := lh_ifF hf c13
      refine lh_iconst rfl lh_k_0 ?_
      refine lh_istore_n (lv' := [(0, .ref (65 + 4)), (1, .int v1), (2, .int v2), (3, .int 0)]) rfl rfl rfl rfl ?_
      refine lh_iconst rfl lh_k_0 ?_
      refine lh_istore (lv' := [(0, .ref (65 + 4)), (1, .int v1), (2, .int v2), (3, .int 0), (4, .int 0)]) rfl rfl rfl ?_
      refine lh_bdE hf (fun r20 e21 hf => ?_)
      refine t_LM_shortest_54 hG hS  _ 0 0 _ e21 ?_
      refine lh_iload_n (q := 3) rfl rfl rfl ?_
      refine lh_if_eq rfl (fun c22 => ?_) (fun c22 => ?_)
      · have hf := lh_ifT hf c22
        refine lh_aload_n (q := 0) rfl rfl rfl ?_
        refine lh_bdE hf (fun r23 e24 hf => ?_)
        refine lh_cVv (N := m_LM_goesOn) (d := 7) (o := 65) (As := []) (st := []) rfl rfl v_LM_goesOn (hS.1 0 _ rfl) rfl rfl rfl ⟨rfl, rfl⟩ rfl (t_LM_goesOn hG hS e24 ?_)
        refine lh_iinc (q := 2) (v := (v2 + 1)) (lv' := [(0, .ref (65 + 4)), (1, .int v1), (2, .int (v2 + 1)), (3, .int r20)]) rfl rfl (congrArg (v2 + ·) (by decide)) rfl rfl ?_
        refine lh_goto rfl ?_
        refine lh_less [0, 1, 2] rfl ?_
        exact ih (v2 + 1) r23.1 r23.2 _ hf x0_ x1_
      · have hf := lh_ifF hf c22
        exact lh_less [2] rfl (by cases hf; exact x0_ rfl)
theorem t_LM_shortest {Γ : lh_Cx} {I : lh_II} {L : lh_LL} {F : lh_FF} {S : lh_SS} {K : Int32 → lh_Hp → Prop} {r : Int32 × lh_II × lh_LL} (hG : lh_GX Γ) (hS : lh_laym F S)  {x1 : Int32} (hf : f_LM_shortest x1 I L = some r) (hK : K r.1 (r.2.1, r.2.2, F, S)) : lh_Met Γ m_LM_shortest 8 0 0 [.ref (65 + 4), .int x1] (I, L, F, S) (lh_ki K) := by
  rw [f_LM_shortest] at hf
  refine lh_ofG k_LM_shortest [(0, .ref (65 + 4)), (1, .int x1)] rfl (Nat.le_of_ble_eq_true rfl) rfl ?_
  refine lh_aload_n (q := 0) rfl rfl rfl ?_
  refine lh_iconst rfl lh_k_0 ?_
  refine lh_putI4 rfl rfl (hS.1 0 _ rfl) rfl rfl ?_
  refine lh_iload_n (q := 1) rfl rfl rfl ?_
  refine lh_iconst rfl lh_k_0 ?_
  refine lh_iconst rfl lh_k_1 ?_
  refine lh_aload_n (q := 0) rfl rfl rfl ?_
  refine lh_bdE hf (fun r1 e2 hf => ?_)
  refine lh_cVi (N := m_LM_visitors) (d := 0) (o := 65) (As := []) (st := [.int 1, .int 0, .int x1]) rfl rfl v_LM_visitors (hS.1 0 _ rfl) rfl rfl rfl ⟨rfl, rfl⟩ rfl (t_LM_visitors hG hS e2 ?_)
  refine lh_ishl rfl ?_
  refine lh_iconst rfl lh_k_1 ?_
  refine lh_isub rfl ?_
  refine lh_bdE hf (fun r3 e4 hf => ?_)
  refine lh_cSi (N := m_LM_within) (d := 0) (As := [.int x1, .int 0, .int (((1 : Int32) <<< (r1 &&& 31)) - 1)]) (st := []) rfl rfl v_LM_within rfl rfl ⟨rfl, rfl⟩ rfl (t_LM_within hG hS e4 ?_)
  refine lh_if_ne rfl (fun c5 => ?_) (fun c5 => ?_)
  · have hf := lh_ifF hf c5
    refine lh_aload_n (q := 0) rfl rfl rfl ?_
    refine lh_iconst rfl lh_k_0 ?_
    refine lh_sipush rfl lh_s_672 ?_
    refine lh_bipush rfl lh_b_7 ?_
    refine lh_bdE hf (fun r6 e7 hf => ?_)
    refine lh_cVv (N := m_LM_copies) (d := 0) (o := 65) (As := [.int 0, .int 672, .int 7]) (st := []) rfl rfl v_LM_copies (hS.1 0 _ rfl) rfl rfl rfl ⟨rfl, rfl⟩ rfl (t_LM_copies hG hS e7 ?_)
    refine lh_iconst rfl lh_k_0 ?_
    refine lh_istore_n (lv' := [(0, .ref (65 + 4)), (1, .int x1), (2, .int 0)]) rfl rfl rfl rfl ?_
    refine lh_bdE hf (fun r10 e11 hf => ?_)
    refine t_LM_shortest_22 hG hS  _ 0 L _ e11 ?_
    refine lh_aload_n (q := 0) rfl rfl rfl ?_
    refine lh_getR4 rfl rfl (hS.1 0 _ rfl) rfl (hS.2 14 _ rfl) ?_
    refine lh_aload_n (q := 0) rfl rfl rfl ?_
    refine lh_getR4 rfl rfl (hS.1 0 _ rfl) rfl (hS.2 12 _ rfl) ?_
    refine lh_iconst rfl lh_k_5 ?_
    refine lh_iald5 (k := 5) rfl (hS.1 13 _ rfl) (by decide) (by decide) ?_
    refine lh_lconst (v := 1) rfl (by decide) ?_
    refine lh_aload_n (q := 0) rfl rfl rfl ?_
    refine lh_getR4 rfl rfl (hS.1 0 _ rfl) rfl (hS.2 12 _ rfl) ?_
    refine lh_bipush rfl lh_b_6 ?_
    refine lh_iald5 (k := 6) rfl (hS.1 13 _ rfl) (by decide) (by decide) ?_
    refine lh_lshl rfl ?_
    obtain ⟨g12, hf⟩ := lh_gdE hf
    refine lh_last4 rfl (hS.1 15 _ rfl) g12 ?_
    refine lh_iconst rfl lh_k_0 ?_
    refine lh_istore_n (lv' := [(0, .ref (65 + 4)), (1, .int x1), (2, .int 0)]) rfl rfl rfl rfl ?_
    refine lh_bdE hf (fun r25 e26 hf => ?_)
    refine t_LM_shortest_47 hG hS  _ 0 r6 (lh_v2 r10 (80 + 4) (r6 (78 + 4) 5).toNatClampNeg ((1 : Int64) <<< ((r6 (78 + 4) 6).toInt64 &&& 63))) _ e26 (fun q0_ => ?_) (fun q1_ => ?_)
    · have hf := lh_ifT hf q0_
      refine lh_iload_n (q := 0) rfl rfl rfl ?_
      exact lh_iret rfl rfl rfl (by obtain rfl := Option.some.inj hf; exact hK)
    · have hf := lh_ifF hf (by rw [q1_]; decide)
      refine lh_iconst rfl lh_k_m1 ?_
      exact lh_iret rfl rfl rfl (by obtain rfl := Option.some.inj hf; exact hK)
  · have hf := lh_ifT hf c5
    refine lh_iconst rfl lh_k_m1 ?_
    exact lh_iret rfl rfl rfl (by obtain rfl := Option.some.inj hf; exact hK)
def f_LM_shown (x1 : Int32) (I : lh_II) : Option (Int32 × lh_II) := lh_bd (f_LM_isCell x1 (lh_u2 I (65 + 4) 0 0)) fun r1 => if r1 = 0 then some ((-1), lh_u2 I (65 + 4) 0 0) else lh_bd (f_LM_lightOf (0 : Int32) (lh_u2 I (65 + 4) 0 0)) fun r4 => if ((r4 >>> (x1 &&& 31)) &&& 1) = 1 then lh_bd (f_LM_dayShown (0 : Int32) ((lh_u2 I (65 + 4) 0 0) (78 + 4) 5) x1 (lh_u2 I (65 + 4) 0 0)) fun r7 => some (r7.1, r7.2) else some ((-1), lh_u2 I (65 + 4) 0 0)
theorem t_LM_shown {Γ : lh_Cx} {I : lh_II} {L : lh_LL} {F : lh_FF} {S : lh_SS} {K : Int32 → lh_Hp → Prop} {r : Int32 × lh_II} (hG : lh_GX Γ) (hS : lh_laym F S)  {x1 : Int32} (hf : f_LM_shown x1 I = some r) (hK : K r.1 (r.2, L, F, S)) : lh_Met Γ m_LM_shown 4 0 0 [.ref (65 + 4), .int x1] (I, L, F, S) (lh_ki K) := by
  rw [f_LM_shown] at hf
  refine lh_ofG k_LM_shown [(0, .ref (65 + 4)), (1, .int x1)] rfl (Nat.le_of_ble_eq_true rfl) rfl ?_
  refine lh_aload_n (q := 0) rfl rfl rfl ?_
  refine lh_iconst rfl lh_k_0 ?_
  refine lh_putI4 rfl rfl (hS.1 0 _ rfl) rfl rfl ?_
  refine lh_aload_n (q := 0) rfl rfl rfl ?_
  refine lh_iload_n (q := 1) rfl rfl rfl ?_
  refine lh_bdE hf (fun r1 e2 hf => ?_)
  refine lh_cVi (N := m_LM_isCell) (d := 1) (o := 65) (As := [.int x1]) (st := []) rfl rfl v_LM_isCell (hS.1 0 _ rfl) rfl rfl rfl ⟨rfl, rfl⟩ rfl (t_LM_isCell hG hS e2 ?_)
  refine lh_if_eq rfl (fun c3 => ?_) (fun c3 => ?_)
  · have hf := lh_ifT hf c3
    refine lh_iconst rfl lh_k_m1 ?_
    exact lh_iret rfl rfl rfl (by obtain rfl := Option.some.inj hf; exact hK)
  · have hf := lh_ifF hf c3
    refine lh_aload_n (q := 0) rfl rfl rfl ?_
    refine lh_iconst rfl lh_k_0 ?_
    refine lh_bdE hf (fun r4 e5 hf => ?_)
    refine lh_cVi (N := m_LM_lightOf) (d := 3) (o := 65) (As := [.int 0]) (st := []) rfl rfl v_LM_lightOf (hS.1 0 _ rfl) rfl rfl rfl ⟨rfl, rfl⟩ rfl (t_LM_lightOf hG hS e5 ?_)
    refine lh_iload_n (q := 1) rfl rfl rfl ?_
    refine lh_ishr rfl ?_
    refine lh_iconst rfl lh_k_1 ?_
    refine lh_iand rfl ?_
    refine lh_iconst rfl lh_k_1 ?_
    refine lh_icmp_ne rfl (fun c6 => ?_) (fun c6 => ?_)
    · have hf := lh_ifF hf c6
      refine lh_iconst rfl lh_k_m1 ?_
      exact lh_iret rfl rfl rfl (by obtain rfl := Option.some.inj hf; exact hK)
    · have hf := lh_ifT hf c6
      refine lh_aload_n (q := 0) rfl rfl rfl ?_
      refine lh_iconst rfl lh_k_0 ?_
      refine lh_aload_n (q := 0) rfl rfl rfl ?_
      refine lh_getR4 rfl rfl (hS.1 0 _ rfl) rfl (hS.2 12 _ rfl) ?_
      refine lh_iconst rfl lh_k_5 ?_
      refine lh_iald5 (k := 5) rfl (hS.1 13 _ rfl) (by decide) (by decide) ?_
      refine lh_iload_n (q := 1) rfl rfl rfl ?_
      refine lh_bdE hf (fun r7 e8 hf => ?_)
      refine lh_cVi (N := m_LM_dayShown) (d := 2) (o := 65) (As := [.int 0, .int ((lh_u2 I (65 + 4) 0 0) (78 + 4) 5), .int x1]) (st := []) rfl rfl v_LM_dayShown (hS.1 0 _ rfl) rfl rfl rfl ⟨rfl, rfl⟩ rfl (t_LM_dayShown hG hS e8 ?_)
      refine lh_goto rfl ?_
      exact lh_iret rfl rfl rfl (by obtain rfl := Option.some.inj hf; exact hK)
def f_LM_step (x1 : Int32) (I : lh_II) : Option (Int32 × lh_II) := lh_bd (f_LM_within x1 ((-1) : Int32) (1 : Int32)) fun r1 => if r1 = 0 then some ((-1), lh_u2 I (65 + 4) 0 0) else lh_bd (f_LM_keeps (lh_u2 I (65 + 4) 0 0)) fun r4 => lh_bd (f_LM_steps (0 : Int32) x1 r4) fun r6 => some (r6.1, r6.2)
theorem t_LM_step {Γ : lh_Cx} {I : lh_II} {L : lh_LL} {F : lh_FF} {S : lh_SS} {K : Int32 → lh_Hp → Prop} {r : Int32 × lh_II} (hG : lh_GX Γ) (hS : lh_laym F S)  {x1 : Int32} (hf : f_LM_step x1 I = some r) (hK : K r.1 (r.2, L, F, S)) : lh_Met Γ m_LM_step 8 0 0 [.ref (65 + 4), .int x1] (I, L, F, S) (lh_ki K) := by
  rw [f_LM_step] at hf
  refine lh_ofG k_LM_step [(0, .ref (65 + 4)), (1, .int x1)] rfl (Nat.le_of_ble_eq_true rfl) rfl ?_
  refine lh_aload_n (q := 0) rfl rfl rfl ?_
  refine lh_iconst rfl lh_k_0 ?_
  refine lh_putI4 rfl rfl (hS.1 0 _ rfl) rfl rfl ?_
  refine lh_iload_n (q := 1) rfl rfl rfl ?_
  refine lh_iconst rfl lh_k_m1 ?_
  refine lh_iconst rfl lh_k_1 ?_
  refine lh_bdE hf (fun r1 e2 hf => ?_)
  refine lh_cSi (N := m_LM_within) (d := 0) (As := [.int x1, .int (-1), .int 1]) (st := []) rfl rfl v_LM_within rfl rfl ⟨rfl, rfl⟩ rfl (t_LM_within hG hS e2 ?_)
  refine lh_if_ne rfl (fun c3 => ?_) (fun c3 => ?_)
  · have hf := lh_ifF hf c3
    refine lh_aload_n (q := 0) rfl rfl rfl ?_
    refine lh_bdE hf (fun r4 e5 hf => ?_)
    refine lh_cVv (N := m_LM_keeps) (d := 1) (o := 65) (As := []) (st := []) rfl rfl v_LM_keeps (hS.1 0 _ rfl) rfl rfl rfl ⟨rfl, rfl⟩ rfl (t_LM_keeps hG hS e5 ?_)
    refine lh_aload_n (q := 0) rfl rfl rfl ?_
    refine lh_iconst rfl lh_k_0 ?_
    refine lh_iload_n (q := 1) rfl rfl rfl ?_
    refine lh_bdE hf (fun r6 e7 hf => ?_)
    refine lh_cVi (N := m_LM_steps) (d := 7) (o := 65) (As := [.int 0, .int x1]) (st := []) rfl rfl v_LM_steps (hS.1 0 _ rfl) rfl rfl rfl ⟨rfl, rfl⟩ rfl (t_LM_steps hG hS e7 ?_)
    exact lh_iret rfl rfl rfl (by obtain rfl := Option.some.inj hf; exact hK)
  · have hf := lh_ifT hf c3
    refine lh_iconst rfl lh_k_m1 ?_
    exact lh_iret rfl rfl rfl (by obtain rfl := Option.some.inj hf; exact hK)
def f_LM_taken (x1 : Int32) (x2 : Int32) (x3 : Int32) (I : lh_II) : Option (Int32 × lh_II) := lh_bd (f_LM_isVase x1 (lh_u2 I (65 + 4) 0 0)) fun r1 => if r1 = 0 then some ((-1), lh_u2 I (65 + 4) 0 0) else lh_bd (f_LM_within x2 (0 : Int32) (3 : Int32)) fun r4 => if r4 = 0 then some ((-1), lh_u2 I (65 + 4) 0 0) else lh_bd (f_LM_within x3 (0 : Int32) (1 : Int32)) fun r7 => if r7 = 0 then some ((-1), lh_u2 I (65 + 4) 0 0) else lh_bd (f_LM_takenOf x1 x2 (lh_u2 I (65 + 4) 0 0)) fun r10 => if r10 < 0 then some (r10, lh_u2 I (65 + 4) 0 0) else if x3 = 0 then some (r10, lh_u2 I (65 + 4) 0 0) else lh_bd (f_LM_thiefOf x1 x2 r10 (lh_u2 I (65 + 4) 0 0)) fun r14 => some (r14, lh_u2 I (65 + 4) 0 0)
theorem t_LM_taken {Γ : lh_Cx} {I : lh_II} {L : lh_LL} {F : lh_FF} {S : lh_SS} {K : Int32 → lh_Hp → Prop} {r : Int32 × lh_II} (hG : lh_GX Γ) (hS : lh_laym F S)  {x1 : Int32} {x2 : Int32} {x3 : Int32} (hf : f_LM_taken x1 x2 x3 I = some r) (hK : K r.1 (r.2, L, F, S)) : lh_Met Γ m_LM_taken 4 0 0 [.ref (65 + 4), .int x1, .int x2, .int x3] (I, L, F, S) (lh_ki K) := by
  rw [f_LM_taken] at hf
  refine lh_ofG k_LM_taken [(0, .ref (65 + 4)), (1, .int x1), (2, .int x2), (3, .int x3)] rfl (Nat.le_of_ble_eq_true rfl) rfl ?_
  refine lh_aload_n (q := 0) rfl rfl rfl ?_
  refine lh_iconst rfl lh_k_0 ?_
  refine lh_putI4 rfl rfl (hS.1 0 _ rfl) rfl rfl ?_
  refine lh_aload_n (q := 0) rfl rfl rfl ?_
  refine lh_iload_n (q := 1) rfl rfl rfl ?_
  refine lh_bdE hf (fun r1 e2 hf => ?_)
  refine lh_cVi (N := m_LM_isVase) (d := 1) (o := 65) (As := [.int x1]) (st := []) rfl rfl v_LM_isVase (hS.1 0 _ rfl) rfl rfl rfl ⟨rfl, rfl⟩ rfl (t_LM_isVase hG hS e2 ?_)
  refine lh_if_eq rfl (fun c3 => ?_) (fun c3 => ?_)
  · have hf := lh_ifT hf c3
    refine lh_iconst rfl lh_k_m1 ?_
    exact lh_iret rfl rfl rfl (by obtain rfl := Option.some.inj hf; exact hK)
  · have hf := lh_ifF hf c3
    refine lh_iload_n (q := 2) rfl rfl rfl ?_
    refine lh_iconst rfl lh_k_0 ?_
    refine lh_iconst rfl lh_k_3 ?_
    refine lh_bdE hf (fun r4 e5 hf => ?_)
    refine lh_cSi (N := m_LM_within) (d := 0) (As := [.int x2, .int 0, .int 3]) (st := []) rfl rfl v_LM_within rfl rfl ⟨rfl, rfl⟩ rfl (t_LM_within hG hS e5 ?_)
    refine lh_if_eq rfl (fun c6 => ?_) (fun c6 => ?_)
    · have hf := lh_ifT hf c6
      refine lh_iconst rfl lh_k_m1 ?_
      exact lh_iret rfl rfl rfl (by obtain rfl := Option.some.inj hf; exact hK)
    · have hf := lh_ifF hf c6
      refine lh_iload_n (q := 3) rfl rfl rfl ?_
      refine lh_iconst rfl lh_k_0 ?_
      refine lh_iconst rfl lh_k_1 ?_
      refine lh_bdE hf (fun r7 e8 hf => ?_)
      refine lh_cSi (N := m_LM_within) (d := 0) (As := [.int x3, .int 0, .int 1]) (st := []) rfl rfl v_LM_within rfl rfl ⟨rfl, rfl⟩ rfl (t_LM_within hG hS e8 ?_)
      refine lh_if_ne rfl (fun c9 => ?_) (fun c9 => ?_)
      · have hf := lh_ifF hf c9
        refine lh_aload_n (q := 0) rfl rfl rfl ?_
        refine lh_iload_n (q := 1) rfl rfl rfl ?_
        refine lh_iload_n (q := 2) rfl rfl rfl ?_
        refine lh_bdE hf (fun r10 e11 hf => ?_)
        refine lh_cVi (N := m_LM_takenOf) (d := 3) (o := 65) (As := [.int x1, .int x2]) (st := []) rfl rfl v_LM_takenOf (hS.1 0 _ rfl) rfl rfl rfl ⟨rfl, rfl⟩ rfl (t_LM_takenOf hG hS e11 ?_)
        refine lh_istore (lv' := [(0, .ref (65 + 4)), (1, .int x1), (2, .int x2), (3, .int x3), (4, .int r10)]) rfl rfl rfl ?_
        refine lh_iload (q := 4) rfl rfl ?_
        refine lh_if_lt rfl (fun c12 => ?_) (fun c12 => ?_)
        · have hf := lh_ifT hf c12
          refine lh_iload (q := 4) rfl rfl ?_
          refine lh_goto rfl ?_
          exact lh_iret rfl rfl rfl (by obtain rfl := Option.some.inj hf; exact hK)
        · have hf := lh_ifF hf c12
          refine lh_iload_n (q := 3) rfl rfl rfl ?_
          refine lh_if_ne rfl (fun c13 => ?_) (fun c13 => ?_)
          · have hf := lh_ifF hf c13
            refine lh_aload_n (q := 0) rfl rfl rfl ?_
            refine lh_iload_n (q := 1) rfl rfl rfl ?_
            refine lh_iload_n (q := 2) rfl rfl rfl ?_
            refine lh_iload (q := 4) rfl rfl ?_
            refine lh_bdE hf (fun r14 e15 hf => ?_)
            refine lh_cVi (N := m_LM_thiefOf) (d := 2) (o := 65) (As := [.int x1, .int x2, .int r10]) (st := []) rfl rfl v_LM_thiefOf (hS.1 0 _ rfl) rfl rfl rfl ⟨rfl, rfl⟩ rfl (t_LM_thiefOf hG hS e15 ?_)
            exact lh_iret rfl rfl rfl (by obtain rfl := Option.some.inj hf; exact hK)
          · have hf := lh_ifT hf c13
            refine lh_iload (q := 4) rfl rfl ?_
            refine lh_goto rfl ?_
            exact lh_iret rfl rfl rfl (by obtain rfl := Option.some.inj hf; exact hK)
      · have hf := lh_ifT hf c9
        refine lh_iconst rfl lh_k_m1 ?_
        exact lh_iret rfl rfl rfl (by obtain rfl := Option.some.inj hf; exact hK)
def f_LM_thrown (I : lh_II) : Option (Int32) := some (I (65 + 4) 0)
theorem t_LM_thrown {Γ : lh_Cx} {I : lh_II} {L : lh_LL} {F : lh_FF} {S : lh_SS} {K : Int32 → lh_Hp → Prop} {r : Int32} (hG : lh_GX Γ) (hS : lh_laym F S)  (hf : f_LM_thrown I = some r) (hK : K r (I, L, F, S)) : lh_Met Γ m_LM_thrown 0 0 0 [.ref (65 + 4)] (I, L, F, S) (lh_ki K) := by
  rw [f_LM_thrown] at hf
  refine lh_ofG k_LM_thrown [(0, .ref (65 + 4))] rfl (Nat.le_of_ble_eq_true rfl) rfl ?_
  refine lh_aload_n (q := 0) rfl rfl rfl ?_
  refine lh_getI4 rfl rfl (hS.1 0 _ rfl) rfl ?_
  exact lh_iret rfl rfl rfl (by obtain rfl := Option.some.inj hf; exact hK)
def f_LM_treasures_7 : Nat → Int32 → Int32 → lh_II → Option (Int32 × lh_II)
  | 0, _, _, _ => none
  | n + 1, v1, v2, I => lh_bd (f_LM_vases I) fun r1 => if r1 ≤ v2 then some (v1, I) else lh_bd (f_LM_isThere (0 : Int32) v2 I) fun r4 => if r4.1 = 0 then f_LM_treasures_7 n (v1 ||| 0) (v2 + 1) r4.2 else f_LM_treasures_7 n (v1 ||| ((1 : Int32) <<< (v2 &&& 31))) (v2 + 1) r4.2
def f_LM_treasures (I : lh_II) : Option (Int32 × lh_II) := lh_bd (f_LM_treasures_7 lh_fuel 0 0 (lh_u2 I (65 + 4) 0 0)) fun r7 => some (r7.1, r7.2)
theorem t_LM_treasures_7 {Γ : lh_Cx} {F : lh_FF} {S : lh_SS} {Z : List Frame → Array Value → State → State → Prop} (hG : lh_GX Γ) (hS : lh_laym F S)   {L : lh_LL} : ∀ (n : Nat) (v1 : Int32) (v2 : Int32) (I : lh_II) (o : Int32 × lh_II), f_LM_treasures_7 n v1 v2 I = some o → ∀ (x0_ : lh_G Γ m_LM_treasures (lh_R 5 0 0) Z 0 0 26 [(1, .int o.1)] [] (o.2, L, F, S)), lh_G Γ m_LM_treasures (lh_R 5 0 0) Z 0 0 7 [(0, .ref (65 + 4)), (1, .int v1), (2, .int v2)] [] (I, L, F, S) := by
  intro n
  induction n with
  | zero => intro v1 v2 I o hf; cases hf
  | succ n ih =>
    intro v1 v2 I o hf x0_
    rw [f_LM_treasures_7] at hf
    refine lh_iload_n (q := 2) rfl rfl rfl ?_
    refine lh_aload_n (q := 0) rfl rfl rfl ?_
    refine lh_bdE hf (fun r1 e2 hf => ?_)
    refine lh_cVi (N := m_LM_vases) (d := 0) (o := 65) (As := []) (st := [.int v2]) rfl rfl v_LM_vases (hS.1 0 _ rfl) rfl rfl rfl ⟨rfl, rfl⟩ rfl (t_LM_vases hG hS e2 ?_)
    refine lh_icmp_ge rfl (fun c3 => ?_) (fun c3 => ?_)
    · have hf := lh_ifT hf c3
      exact lh_less [1] rfl (by cases hf; exact x0_)
    · have hf := lh_ifF hf c3
      refine lh_iload_n (q := 1) rfl rfl rfl ?_
      refine lh_aload_n (q := 0) rfl rfl rfl ?_
      refine lh_iconst rfl lh_k_0 ?_
      refine lh_iload_n (q := 2) rfl rfl rfl ?_
      refine lh_bdE hf (fun r4 e5 hf => ?_)
      refine lh_cVi (N := m_LM_isThere) (d := 4) (o := 65) (As := [.int 0, .int v2]) (st := [.int v1]) rfl rfl v_LM_isThere (hS.1 0 _ rfl) rfl rfl rfl ⟨rfl, rfl⟩ rfl (t_LM_isThere hG hS e5 ?_)
      refine lh_if_eq rfl (fun c6 => ?_) (fun c6 => ?_)
      · have hf := lh_ifT hf c6
        refine lh_iconst rfl lh_k_0 ?_
        refine lh_ior rfl ?_
        refine lh_istore_n (lv' := [(0, .ref (65 + 4)), (1, .int (v1 ||| 0)), (2, .int v2)]) rfl rfl rfl rfl ?_
        refine lh_iinc (q := 2) (v := (v2 + 1)) (lv' := [(0, .ref (65 + 4)), (1, .int (v1 ||| 0)), (2, .int (v2 + 1))]) rfl rfl (congrArg (v2 + ·) (by decide)) rfl rfl ?_
        refine lh_goto rfl ?_
        exact ih (v1 ||| 0) (v2 + 1) r4.2 _ hf x0_
      · have hf := lh_ifF hf c6
        refine lh_iconst rfl lh_k_1 ?_
        refine lh_iload_n (q := 2) rfl rfl rfl ?_
        refine lh_ishl rfl ?_
        refine lh_goto rfl ?_
        refine lh_ior rfl ?_
        refine lh_istore_n (lv' := [(0, .ref (65 + 4)), (1, .int (v1 ||| ((1 : Int32) <<< (v2 &&& 31)))), (2, .int v2)]) rfl rfl rfl rfl ?_
        refine lh_iinc (q := 2) (v := (v2 + 1)) (lv' := [(0, .ref (65 + 4)), (1, .int (v1 ||| ((1 : Int32) <<< (v2 &&& 31)))), (2, .int (v2 + 1))]) rfl rfl (congrArg (v2 + ·) (by decide)) rfl rfl ?_
        refine lh_goto rfl ?_
        exact ih (v1 ||| ((1 : Int32) <<< (v2 &&& 31))) (v2 + 1) r4.2 _ hf x0_
theorem t_LM_treasures {Γ : lh_Cx} {I : lh_II} {L : lh_LL} {F : lh_FF} {S : lh_SS} {K : Int32 → lh_Hp → Prop} {r : Int32 × lh_II} (hG : lh_GX Γ) (hS : lh_laym F S)  (hf : f_LM_treasures I = some r) (hK : K r.1 (r.2, L, F, S)) : lh_Met Γ m_LM_treasures 5 0 0 [.ref (65 + 4)] (I, L, F, S) (lh_ki K) := by
  rw [f_LM_treasures] at hf
  refine lh_ofG k_LM_treasures [(0, .ref (65 + 4))] rfl (Nat.le_of_ble_eq_true rfl) rfl ?_
  refine lh_aload_n (q := 0) rfl rfl rfl ?_
  refine lh_iconst rfl lh_k_0 ?_
  refine lh_putI4 rfl rfl (hS.1 0 _ rfl) rfl rfl ?_
  refine lh_iconst rfl lh_k_0 ?_
  refine lh_istore_n (lv' := [(0, .ref (65 + 4)), (1, .int 0)]) rfl rfl rfl rfl ?_
  refine lh_iconst rfl lh_k_0 ?_
  refine lh_istore_n (lv' := [(0, .ref (65 + 4)), (1, .int 0), (2, .int 0)]) rfl rfl rfl rfl ?_
  refine lh_bdE hf (fun r7 e8 hf => ?_)
  refine t_LM_treasures_7 hG hS  _ 0 0 (lh_u2 I (65 + 4) 0 0) _ e8 ?_
  refine lh_iload_n (q := 0) rfl rfl rfl ?_
  exact lh_iret rfl rfl rfl (by obtain rfl := Option.some.inj hf; exact hK)
def f_LM_trim (x1 : Int32) (I : lh_II) : Option (Int32 × lh_II) := lh_bd (f_LM_within x1 (0 : Int32) (3 : Int32)) fun r1 => if r1 = 0 then some ((-1), lh_u2 I (65 + 4) 0 0) else if 2 ≤ ((lh_u2 I (65 + 4) 0 0) (78 + 4) 4) then lh_bd (f_LM_keeps (lh_u2 I (65 + 4) 0 0)) fun r5 => lh_bd (f_LM_trims (0 : Int32) x1 r5) fun r7 => some ((r7 (78 + 4) 4), r7) else some ((-1), lh_u2 I (65 + 4) 0 0)
theorem t_LM_trim {Γ : lh_Cx} {I : lh_II} {L : lh_LL} {F : lh_FF} {S : lh_SS} {K : Int32 → lh_Hp → Prop} {r : Int32 × lh_II} (hG : lh_GX Γ) (hS : lh_laym F S)  {x1 : Int32} (hf : f_LM_trim x1 I = some r) (hK : K r.1 (r.2, L, F, S)) : lh_Met Γ m_LM_trim 2 0 0 [.ref (65 + 4), .int x1] (I, L, F, S) (lh_ki K) := by
  rw [f_LM_trim] at hf
  refine lh_ofG k_LM_trim [(0, .ref (65 + 4)), (1, .int x1)] rfl (Nat.le_of_ble_eq_true rfl) rfl ?_
  refine lh_aload_n (q := 0) rfl rfl rfl ?_
  refine lh_iconst rfl lh_k_0 ?_
  refine lh_putI4 rfl rfl (hS.1 0 _ rfl) rfl rfl ?_
  refine lh_iload_n (q := 1) rfl rfl rfl ?_
  refine lh_iconst rfl lh_k_0 ?_
  refine lh_iconst rfl lh_k_3 ?_
  refine lh_bdE hf (fun r1 e2 hf => ?_)
  refine lh_cSi (N := m_LM_within) (d := 0) (As := [.int x1, .int 0, .int 3]) (st := []) rfl rfl v_LM_within rfl rfl ⟨rfl, rfl⟩ rfl (t_LM_within hG hS e2 ?_)
  refine lh_if_eq rfl (fun c3 => ?_) (fun c3 => ?_)
  · have hf := lh_ifT hf c3
    refine lh_iconst rfl lh_k_m1 ?_
    exact lh_iret rfl rfl rfl (by obtain rfl := Option.some.inj hf; exact hK)
  · have hf := lh_ifF hf c3
    refine lh_aload_n (q := 0) rfl rfl rfl ?_
    refine lh_getR4 rfl rfl (hS.1 0 _ rfl) rfl (hS.2 12 _ rfl) ?_
    refine lh_iconst rfl lh_k_4 ?_
    refine lh_iald5 (k := 4) rfl (hS.1 13 _ rfl) (by decide) (by decide) ?_
    refine lh_iconst rfl lh_k_2 ?_
    refine lh_icmp_ge rfl (fun c4 => ?_) (fun c4 => ?_)
    · have hf := lh_ifT hf c4
      refine lh_aload_n (q := 0) rfl rfl rfl ?_
      refine lh_bdE hf (fun r5 e6 hf => ?_)
      refine lh_cVv (N := m_LM_keeps) (d := 1) (o := 65) (As := []) (st := []) rfl rfl v_LM_keeps (hS.1 0 _ rfl) rfl rfl rfl ⟨rfl, rfl⟩ rfl (t_LM_keeps hG hS e6 ?_)
      refine lh_aload_n (q := 0) rfl rfl rfl ?_
      refine lh_iconst rfl lh_k_0 ?_
      refine lh_iload_n (q := 1) rfl rfl rfl ?_
      refine lh_bdE hf (fun r7 e8 hf => ?_)
      refine lh_cVv (N := m_LM_trims) (d := 0) (o := 65) (As := [.int 0, .int x1]) (st := []) rfl rfl v_LM_trims (hS.1 0 _ rfl) rfl rfl rfl ⟨rfl, rfl⟩ rfl (t_LM_trims hG hS e8 ?_)
      refine lh_aload_n (q := 0) rfl rfl rfl ?_
      refine lh_getR4 rfl rfl (hS.1 0 _ rfl) rfl (hS.2 12 _ rfl) ?_
      refine lh_iconst rfl lh_k_4 ?_
      refine lh_iald5 (k := 4) rfl (hS.1 13 _ rfl) (by decide) (by decide) ?_
      exact lh_iret rfl rfl rfl (by obtain rfl := Option.some.inj hf; exact hK)
    · have hf := lh_ifF hf c4
      refine lh_iconst rfl lh_k_m1 ?_
      exact lh_iret rfl rfl rfl (by obtain rfl := Option.some.inj hf; exact hK)
def f_LM_undo (I : lh_II) : Option (Int32 × lh_II) := if ((lh_u2 I (65 + 4) 0 0) (65 + 4) 21) = 0 then some (0, lh_u2 I (65 + 4) 0 0) else lh_bd (f_LM_copies (32 * (5 + ((lh_u2 (lh_u2 I (65 + 4) 0 0) (65 + 4) 21 (((lh_u2 I (65 + 4) 0 0) (65 + 4) 21) - 1)) (65 + 4) 21))) (0 : Int32) (7 : Int32) (lh_u2 (lh_u2 I (65 + 4) 0 0) (65 + 4) 21 (((lh_u2 I (65 + 4) 0 0) (65 + 4) 21) - 1))) fun r2 => some (1, r2)
theorem t_LM_undo {Γ : lh_Cx} {I : lh_II} {L : lh_LL} {F : lh_FF} {S : lh_SS} {K : Int32 → lh_Hp → Prop} {r : Int32 × lh_II} (hG : lh_GX Γ) (hS : lh_laym F S)  (hf : f_LM_undo I = some r) (hK : K r.1 (r.2, L, F, S)) : lh_Met Γ m_LM_undo 1 0 0 [.ref (65 + 4)] (I, L, F, S) (lh_ki K) := by
  rw [f_LM_undo] at hf
  refine lh_ofG k_LM_undo [(0, .ref (65 + 4))] rfl (Nat.le_of_ble_eq_true rfl) rfl ?_
  refine lh_aload_n (q := 0) rfl rfl rfl ?_
  refine lh_iconst rfl lh_k_0 ?_
  refine lh_putI4 rfl rfl (hS.1 0 _ rfl) rfl rfl ?_
  refine lh_aload_n (q := 0) rfl rfl rfl ?_
  refine lh_getI4 rfl rfl (hS.1 0 _ rfl) rfl ?_
  refine lh_if_ne rfl (fun c1 => ?_) (fun c1 => ?_)
  · have hf := lh_ifF hf c1
    refine lh_aload_n (q := 0) rfl rfl rfl ?_
    refine lh_dup rfl rfl ?_
    refine lh_getI4 rfl rfl (hS.1 0 _ rfl) rfl ?_
    refine lh_iconst rfl lh_k_1 ?_
    refine lh_isub rfl ?_
    refine lh_putI4 rfl rfl (hS.1 0 _ rfl) rfl rfl ?_
    refine lh_aload_n (q := 0) rfl rfl rfl ?_
    refine lh_bipush rfl lh_b_32 ?_
    refine lh_iconst rfl lh_k_5 ?_
    refine lh_aload_n (q := 0) rfl rfl rfl ?_
    refine lh_getI4 rfl rfl (hS.1 0 _ rfl) rfl ?_
    refine lh_iadd rfl ?_
    refine lh_imul rfl ?_
    refine lh_iconst rfl lh_k_0 ?_
    refine lh_bipush rfl lh_b_7 ?_
    refine lh_bdE hf (fun r2 e3 hf => ?_)
    refine lh_cVv (N := m_LM_copies) (d := 0) (o := 65) (As := [.int (32 * (5 + ((lh_u2 (lh_u2 I (65 + 4) 0 0) (65 + 4) 21 (((lh_u2 I (65 + 4) 0 0) (65 + 4) 21) - 1)) (65 + 4) 21))), .int 0, .int 7]) (st := []) rfl rfl v_LM_copies (hS.1 0 _ rfl) rfl rfl rfl ⟨rfl, rfl⟩ rfl (t_LM_copies hG hS e3 ?_)
    refine lh_iconst rfl lh_k_1 ?_
    exact lh_iret rfl rfl (by decide) (by obtain rfl := Option.some.inj hf; exact hK)
  · have hf := lh_ifT hf c1
    refine lh_iconst rfl lh_k_0 ?_
    exact lh_iret rfl rfl (by decide) (by obtain rfl := Option.some.inj hf; exact hK)
def f_LM_vase (x1 : Int32) (x2 : Int32) (I : lh_II) : Option (Int32 × lh_II) := lh_bd (f_LM_isVase x1 (lh_u2 I (65 + 4) 0 0)) fun r1 => if r1 = 0 then some ((-2), lh_u2 I (65 + 4) 0 0) else lh_bd (f_LM_within x2 (0 : Int32) (1 : Int32)) fun r4 => if r4 = 0 then some ((-2), lh_u2 I (65 + 4) 0 0) else if x2 = 0 then lh_bd (f_LM_vaseAt x1 (lh_u2 I (65 + 4) 0 0)) fun r11 => some (r11, lh_u2 I (65 + 4) 0 0) else lh_bd (f_LM_isThere (0 : Int32) x1 (lh_u2 I (65 + 4) 0 0)) fun r8 => if r8.1 = 0 then some (0, r8.2) else some (1, r8.2)
theorem t_LM_vase {Γ : lh_Cx} {I : lh_II} {L : lh_LL} {F : lh_FF} {S : lh_SS} {K : Int32 → lh_Hp → Prop} {r : Int32 × lh_II} (hG : lh_GX Γ) (hS : lh_laym F S)  {x1 : Int32} {x2 : Int32} (hf : f_LM_vase x1 x2 I = some r) (hK : K r.1 (r.2, L, F, S)) : lh_Met Γ m_LM_vase 5 0 0 [.ref (65 + 4), .int x1, .int x2] (I, L, F, S) (lh_ki K) := by
  rw [f_LM_vase] at hf
  refine lh_ofG k_LM_vase [(0, .ref (65 + 4)), (1, .int x1), (2, .int x2)] rfl (Nat.le_of_ble_eq_true rfl) rfl ?_
  refine lh_aload_n (q := 0) rfl rfl rfl ?_
  refine lh_iconst rfl lh_k_0 ?_
  refine lh_putI4 rfl rfl (hS.1 0 _ rfl) rfl rfl ?_
  refine lh_aload_n (q := 0) rfl rfl rfl ?_
  refine lh_iload_n (q := 1) rfl rfl rfl ?_
  refine lh_bdE hf (fun r1 e2 hf => ?_)
  refine lh_cVi (N := m_LM_isVase) (d := 1) (o := 65) (As := [.int x1]) (st := []) rfl rfl v_LM_isVase (hS.1 0 _ rfl) rfl rfl rfl ⟨rfl, rfl⟩ rfl (t_LM_isVase hG hS e2 ?_)
  refine lh_if_eq rfl (fun c3 => ?_) (fun c3 => ?_)
  · have hf := lh_ifT hf c3
    refine lh_bipush rfl lh_b_m2 ?_
    exact lh_iret rfl rfl rfl (by obtain rfl := Option.some.inj hf; exact hK)
  · have hf := lh_ifF hf c3
    refine lh_iload_n (q := 2) rfl rfl rfl ?_
    refine lh_iconst rfl lh_k_0 ?_
    refine lh_iconst rfl lh_k_1 ?_
    refine lh_bdE hf (fun r4 e5 hf => ?_)
    refine lh_cSi (N := m_LM_within) (d := 0) (As := [.int x2, .int 0, .int 1]) (st := []) rfl rfl v_LM_within rfl rfl ⟨rfl, rfl⟩ rfl (t_LM_within hG hS e5 ?_)
    refine lh_if_ne rfl (fun c6 => ?_) (fun c6 => ?_)
    · have hf := lh_ifF hf c6
      refine lh_iload_n (q := 2) rfl rfl rfl ?_
      refine lh_if_ne rfl (fun c7 => ?_) (fun c7 => ?_)
      · have hf := lh_ifF hf c7
        refine lh_aload_n (q := 0) rfl rfl rfl ?_
        refine lh_iconst rfl lh_k_0 ?_
        refine lh_iload_n (q := 1) rfl rfl rfl ?_
        refine lh_bdE hf (fun r8 e9 hf => ?_)
        refine lh_cVi (N := m_LM_isThere) (d := 4) (o := 65) (As := [.int 0, .int x1]) (st := []) rfl rfl v_LM_isThere (hS.1 0 _ rfl) rfl rfl rfl ⟨rfl, rfl⟩ rfl (t_LM_isThere hG hS e9 ?_)
        refine lh_if_eq rfl (fun c10 => ?_) (fun c10 => ?_)
        · have hf := lh_ifT hf c10
          refine lh_iconst rfl lh_k_0 ?_
          exact lh_iret rfl rfl rfl (by obtain rfl := Option.some.inj hf; exact hK)
        · have hf := lh_ifF hf c10
          refine lh_iconst rfl lh_k_1 ?_
          refine lh_goto rfl ?_
          exact lh_iret rfl rfl rfl (by obtain rfl := Option.some.inj hf; exact hK)
      · have hf := lh_ifT hf c7
        refine lh_aload_n (q := 0) rfl rfl rfl ?_
        refine lh_iload_n (q := 1) rfl rfl rfl ?_
        refine lh_bdE hf (fun r11 e12 hf => ?_)
        refine lh_cVi (N := m_LM_vaseAt) (d := 1) (o := 65) (As := [.int x1]) (st := []) rfl rfl v_LM_vaseAt (hS.1 0 _ rfl) rfl rfl rfl ⟨rfl, rfl⟩ rfl (t_LM_vaseAt hG hS e12 ?_)
        refine lh_goto rfl ?_
        exact lh_iret rfl rfl rfl (by obtain rfl := Option.some.inj hf; exact hK)
    · have hf := lh_ifT hf c6
      refine lh_bipush rfl lh_b_m2 ?_
      exact lh_iret rfl rfl rfl (by obtain rfl := Option.some.inj hf; exact hK)
def f_LM_visitor (x1 : Int32) (x2 : Int32) (I : lh_II) : Option (Int32 × lh_II) := lh_bd (f_LM_isVisitor x1 (lh_u2 I (65 + 4) 0 0)) fun r1 => if r1 = 0 then some ((-2), lh_u2 I (65 + 4) 0 0) else lh_bd (f_LM_within x2 (0 : Int32) (4 : Int32)) fun r4 => if r4 = 0 then some ((-2), lh_u2 I (65 + 4) 0 0) else if x2 = 0 then lh_bd (f_LM_kindOf x1 (lh_u2 I (65 + 4) 0 0)) fun r8 => some (r8, lh_u2 I (65 + 4) 0 0) else if x2 = 1 then lh_bd (f_LM_dayOf x1 (lh_u2 I (65 + 4) 0 0)) fun r11 => some (r11, lh_u2 I (65 + 4) 0 0) else if x2 = 2 then lh_bd (f_LM_cellOf x1 ((lh_u2 I (65 + 4) 0 0) (78 + 4) 2) (lh_u2 I (65 + 4) 0 0)) fun r14 => some (r14, lh_u2 I (65 + 4) 0 0) else if x2 = 3 then some (((((lh_u2 I (65 + 4) 0 0) (78 + 4) 6) >>> (x1 &&& 31)) &&& 1), lh_u2 I (65 + 4) 0 0) else lh_bd (f_LM_seenNow (0 : Int32) (lh_u2 I (65 + 4) 0 0)) fun r17 => some (((r17.1 >>> (x1 &&& 31)) &&& 1), r17.2)
theorem t_LM_visitor {Γ : lh_Cx} {I : lh_II} {L : lh_LL} {F : lh_FF} {S : lh_SS} {K : Int32 → lh_Hp → Prop} {r : Int32 × lh_II} (hG : lh_GX Γ) (hS : lh_laym F S)  {x1 : Int32} {x2 : Int32} (hf : f_LM_visitor x1 x2 I = some r) (hK : K r.1 (r.2, L, F, S)) : lh_Met Γ m_LM_visitor 5 0 0 [.ref (65 + 4), .int x1, .int x2] (I, L, F, S) (lh_ki K) := by
  rw [f_LM_visitor] at hf
  refine lh_ofG k_LM_visitor [(0, .ref (65 + 4)), (1, .int x1), (2, .int x2)] rfl (Nat.le_of_ble_eq_true rfl) rfl ?_
  refine lh_aload_n (q := 0) rfl rfl rfl ?_
  refine lh_iconst rfl lh_k_0 ?_
  refine lh_putI4 rfl rfl (hS.1 0 _ rfl) rfl rfl ?_
  refine lh_aload_n (q := 0) rfl rfl rfl ?_
  refine lh_iload_n (q := 1) rfl rfl rfl ?_
  refine lh_bdE hf (fun r1 e2 hf => ?_)
  refine lh_cVi (N := m_LM_isVisitor) (d := 1) (o := 65) (As := [.int x1]) (st := []) rfl rfl v_LM_isVisitor (hS.1 0 _ rfl) rfl rfl rfl ⟨rfl, rfl⟩ rfl (t_LM_isVisitor hG hS e2 ?_)
  refine lh_if_eq rfl (fun c3 => ?_) (fun c3 => ?_)
  · have hf := lh_ifT hf c3
    refine lh_bipush rfl lh_b_m2 ?_
    exact lh_iret rfl rfl rfl (by obtain rfl := Option.some.inj hf; exact hK)
  · have hf := lh_ifF hf c3
    refine lh_iload_n (q := 2) rfl rfl rfl ?_
    refine lh_iconst rfl lh_k_0 ?_
    refine lh_iconst rfl lh_k_4 ?_
    refine lh_bdE hf (fun r4 e5 hf => ?_)
    refine lh_cSi (N := m_LM_within) (d := 0) (As := [.int x2, .int 0, .int 4]) (st := []) rfl rfl v_LM_within rfl rfl ⟨rfl, rfl⟩ rfl (t_LM_within hG hS e5 ?_)
    refine lh_if_ne rfl (fun c6 => ?_) (fun c6 => ?_)
    · have hf := lh_ifF hf c6
      refine lh_iload_n (q := 2) rfl rfl rfl ?_
      by_cases c7 : x2 = 0
      · have hf := lh_ifT hf c7
        refine lh_tsIn (q := 0) (tgt := 16) rfl (by rw [c7]; decide) (by decide) rfl rfl ?_
        refine lh_aload_n (q := 0) rfl rfl rfl ?_
        refine lh_iload_n (q := 1) rfl rfl rfl ?_
        refine lh_bdE hf (fun r8 e9 hf => ?_)
        refine lh_cVi (N := m_LM_kindOf) (d := 0) (o := 65) (As := [.int x1]) (st := []) rfl rfl v_LM_kindOf (hS.1 0 _ rfl) rfl rfl rfl ⟨rfl, rfl⟩ rfl (t_LM_kindOf hG hS e9 ?_)
        exact lh_iret rfl rfl rfl (by obtain rfl := Option.some.inj hf; exact hK)
      · have hf := lh_ifF hf c7
        by_cases c10 : x2 = 1
        · have hf := lh_ifT hf c10
          refine lh_tsIn (q := 1) (tgt := 20) rfl (by rw [c10]; decide) (by decide) rfl rfl ?_
          refine lh_aload_n (q := 0) rfl rfl rfl ?_
          refine lh_iload_n (q := 1) rfl rfl rfl ?_
          refine lh_bdE hf (fun r11 e12 hf => ?_)
          refine lh_cVi (N := m_LM_dayOf) (d := 0) (o := 65) (As := [.int x1]) (st := []) rfl rfl v_LM_dayOf (hS.1 0 _ rfl) rfl rfl rfl ⟨rfl, rfl⟩ rfl (t_LM_dayOf hG hS e12 ?_)
          exact lh_iret rfl rfl rfl (by obtain rfl := Option.some.inj hf; exact hK)
        · have hf := lh_ifF hf c10
          by_cases c13 : x2 = 2
          · have hf := lh_ifT hf c13
            refine lh_tsIn (q := 2) (tgt := 24) rfl (by rw [c13]; decide) (by decide) rfl rfl ?_
            refine lh_aload_n (q := 0) rfl rfl rfl ?_
            refine lh_iload_n (q := 1) rfl rfl rfl ?_
            refine lh_aload_n (q := 0) rfl rfl rfl ?_
            refine lh_getR4 rfl rfl (hS.1 0 _ rfl) rfl (hS.2 12 _ rfl) ?_
            refine lh_iconst rfl lh_k_2 ?_
            refine lh_iald5 (k := 2) rfl (hS.1 13 _ rfl) (by decide) (by decide) ?_
            refine lh_bdE hf (fun r14 e15 hf => ?_)
            refine lh_cVi (N := m_LM_cellOf) (d := 1) (o := 65) (As := [.int x1, .int ((lh_u2 I (65 + 4) 0 0) (78 + 4) 2)]) (st := []) rfl rfl v_LM_cellOf (hS.1 0 _ rfl) rfl rfl rfl ⟨rfl, rfl⟩ rfl (t_LM_cellOf hG hS e15 ?_)
            exact lh_iret rfl rfl rfl (by obtain rfl := Option.some.inj hf; exact hK)
          · have hf := lh_ifF hf c13
            by_cases c16 : x2 = 3
            · have hf := lh_ifT hf c16
              refine lh_tsIn (q := 3) (tgt := 32) rfl (by rw [c16]; decide) (by decide) rfl rfl ?_
              refine lh_aload_n (q := 0) rfl rfl rfl ?_
              refine lh_getR4 rfl rfl (hS.1 0 _ rfl) rfl (hS.2 12 _ rfl) ?_
              refine lh_bipush rfl lh_b_6 ?_
              refine lh_iald5 (k := 6) rfl (hS.1 13 _ rfl) (by decide) (by decide) ?_
              refine lh_iload_n (q := 1) rfl rfl rfl ?_
              refine lh_ishr rfl ?_
              refine lh_iconst rfl lh_k_1 ?_
              refine lh_iand rfl ?_
              exact lh_iret rfl rfl rfl (by obtain rfl := Option.some.inj hf; exact hK)
            · have hf := lh_ifF hf c16
              refine lh_tsOut (tgt := 41) rfl (by have q0 := lv_neT c7 (a := 0) (by decide); have q1 := lv_neT c10 (a := 1) (by decide); have q2 := lv_neT c13 (a := 2) (by decide); have q3 := lv_neT c16 (a := 3) (by decide); omega) rfl ?_
              refine lh_aload_n (q := 0) rfl rfl rfl ?_
              refine lh_iconst rfl lh_k_0 ?_
              refine lh_bdE hf (fun r17 e18 hf => ?_)
              refine lh_cVi (N := m_LM_seenNow) (d := 4) (o := 65) (As := [.int 0]) (st := []) rfl rfl v_LM_seenNow (hS.1 0 _ rfl) rfl rfl rfl ⟨rfl, rfl⟩ rfl (t_LM_seenNow hG hS e18 ?_)
              refine lh_iload_n (q := 1) rfl rfl rfl ?_
              refine lh_ishr rfl ?_
              refine lh_iconst rfl lh_k_1 ?_
              refine lh_iand rfl ?_
              exact lh_iret rfl rfl rfl (by obtain rfl := Option.some.inj hf; exact hK)
    · have hf := lh_ifT hf c6
      refine lh_bipush rfl lh_b_m2 ?_
      exact lh_iret rfl rfl rfl (by obtain rfl := Option.some.inj hf; exact hK)
def f_LM_wavers_15 (v1 : Int32) (I : lh_II) : Nat → Int32 → Int32 → Int32 → Option (Int32)
  | 0, _, _, _ => none
  | n + 1, v2, v3, v4 => if 8 ≤ v4 then some v2 else lh_bd (f_LM_cellOf v1 (v4 - 1) I) fun r5 => lh_bd (f_LM_cellOf v1 v4 I) fun r7 => if r5 < 0 then if 0 ≤ (0 * v3) then f_LM_wavers_15 v1 I n (v2 + 0) v3 (v4 + 1) else f_LM_wavers_15 v1 I n (v2 + 1) v3 (v4 + 1) else if r7 < 0 then if 0 ≤ (0 * v3) then f_LM_wavers_15 v1 I n (v2 + 0) v3 (v4 + 1) else f_LM_wavers_15 v1 I n (v2 + 1) v3 (v4 + 1) else if r5 = r7 then if 0 ≤ (0 * v3) then f_LM_wavers_15 v1 I n (v2 + 0) v3 (v4 + 1) else f_LM_wavers_15 v1 I n (v2 + 1) v3 (v4 + 1) else if r7 ≤ r5 then if 0 ≤ ((-1) * v3) then f_LM_wavers_15 v1 I n (v2 + 0) (-1) (v4 + 1) else f_LM_wavers_15 v1 I n (v2 + 1) (-1) (v4 + 1) else if 0 ≤ (1 * v3) then f_LM_wavers_15 v1 I n (v2 + 0) 1 (v4 + 1) else f_LM_wavers_15 v1 I n (v2 + 1) 1 (v4 + 1)
def f_LM_wavers (x1 : Int32) (I : lh_II) : Option (Int32 × lh_II) := lh_bd (f_LM_isVisitor x1 (lh_u2 I (65 + 4) 0 0)) fun r1 => if r1 = 0 then some ((-1), lh_u2 I (65 + 4) 0 0) else lh_bd (f_LM_wavers_15 x1 (lh_u2 I (65 + 4) 0 0) lh_fuel 0 0 1) fun r18 => some (r18, lh_u2 I (65 + 4) 0 0)
theorem t_LM_wavers_15 {Γ : lh_Cx} {F : lh_FF} {S : lh_SS} {Z : List Frame → Array Value → State → State → Prop} (hG : lh_GX Γ) (hS : lh_laym F S)  {v1 : Int32} {I : lh_II} {L : lh_LL} : ∀ (n : Nat) (v2 : Int32) (v3 : Int32) (v4 : Int32) (o : Int32), f_LM_wavers_15 v1 I n v2 v3 v4 = some o → ∀ (x0_ : lh_G Γ m_LM_wavers (lh_R 2 0 0) Z 0 0 64 [(2, .int o)] [] (I, L, F, S)), lh_G Γ m_LM_wavers (lh_R 2 0 0) Z 0 0 15 [(0, .ref (65 + 4)), (1, .int v1), (2, .int v2), (3, .int v3), (4, .int v4)] [] (I, L, F, S) := by
  intro n
  induction n with
  | zero => intro v2 v3 v4 o hf; cases hf
  | succ n ih =>
    intro v2 v3 v4 o hf x0_
    rw [f_LM_wavers_15] at hf
    refine lh_iload (q := 4) rfl rfl ?_
    refine lh_bipush rfl lh_b_8 ?_
    refine lh_icmp_ge rfl (fun c4 => ?_) (fun c4 => ?_)
    · have hf := lh_ifT hf c4
      exact lh_less [2] rfl (by cases hf; exact x0_)
    · have hf := lh_ifF hf c4
      refine lh_aload_n (q := 0) rfl rfl rfl ?_
      refine lh_iload_n (q := 1) rfl rfl rfl ?_
      refine lh_iload (q := 4) rfl rfl ?_
      refine lh_iconst rfl lh_k_1 ?_
      refine lh_isub rfl ?_
      refine lh_bdE hf (fun r5 e6 hf => ?_)
      refine lh_cVi (N := m_LM_cellOf) (d := 1) (o := 65) (As := [.int v1, .int (v4 - 1)]) (st := []) rfl rfl v_LM_cellOf (hS.1 0 _ rfl) rfl rfl rfl ⟨rfl, rfl⟩ rfl (t_LM_cellOf hG hS e6 ?_)
      refine lh_istore (lv' := [(0, .ref (65 + 4)), (1, .int v1), (2, .int v2), (3, .int v3), (4, .int v4), (5, .int r5)]) rfl rfl rfl ?_
      refine lh_aload_n (q := 0) rfl rfl rfl ?_
      refine lh_iload_n (q := 1) rfl rfl rfl ?_
      refine lh_iload (q := 4) rfl rfl ?_
      refine lh_bdE hf (fun r7 e8 hf => ?_)
      refine lh_cVi (N := m_LM_cellOf) (d := 1) (o := 65) (As := [.int v1, .int v4]) (st := []) rfl rfl v_LM_cellOf (hS.1 0 _ rfl) rfl rfl rfl ⟨rfl, rfl⟩ rfl (t_LM_cellOf hG hS e8 ?_)
      refine lh_istore (lv' := [(0, .ref (65 + 4)), (1, .int v1), (2, .int v2), (3, .int v3), (4, .int v4), (5, .int r5), (6, .int r7)]) rfl rfl rfl ?_
      refine lh_iload (q := 5) rfl rfl ?_
      refine lh_if_lt rfl (fun c9 => ?_) (fun c9 => ?_)
      · have hf := lh_ifT hf c9
        refine lh_iconst rfl lh_k_0 ?_
        refine lh_goto rfl ?_
        refine lh_istore (lv' := [(0, .ref (65 + 4)), (1, .int v1), (2, .int v2), (3, .int v3), (4, .int v4), (5, .int r5), (6, .int r7), (7, .int 0)]) rfl rfl rfl ?_
        refine lh_iload_n (q := 2) rfl rfl rfl ?_
        refine lh_iload (q := 7) rfl rfl ?_
        refine lh_iload_n (q := 3) rfl rfl rfl ?_
        refine lh_imul rfl ?_
        refine lh_if_ge rfl (fun c10 => ?_) (fun c10 => ?_)
        · have hf := lh_ifT hf c10
          refine lh_iconst rfl lh_k_0 ?_
          refine lh_iadd rfl ?_
          refine lh_istore_n (lv' := [(0, .ref (65 + 4)), (1, .int v1), (2, .int (v2 + 0)), (3, .int v3), (4, .int v4), (5, .int r5), (6, .int r7), (7, .int 0)]) rfl rfl rfl rfl ?_
          refine lh_iload (q := 7) rfl rfl ?_
          refine lh_if_ne rfl (fun c => absurd (by decide) c) (fun _ => ?_)
          refine lh_iload_n (q := 3) rfl rfl rfl ?_
          refine lh_goto rfl ?_
          refine lh_istore_n (lv' := [(0, .ref (65 + 4)), (1, .int v1), (2, .int (v2 + 0)), (3, .int v3), (4, .int v4), (5, .int r5), (6, .int r7), (7, .int 0)]) rfl rfl rfl rfl ?_
          refine lh_iinc (q := 4) (v := (v4 + 1)) (lv' := [(0, .ref (65 + 4)), (1, .int v1), (2, .int (v2 + 0)), (3, .int v3), (4, .int (v4 + 1)), (5, .int r5), (6, .int r7), (7, .int 0)]) rfl rfl (congrArg (v4 + ·) (by decide)) rfl rfl ?_
          refine lh_goto rfl ?_
          refine lh_less [0, 1, 2, 3, 4] rfl ?_
          exact ih (v2 + 0) v3 (v4 + 1) _ hf x0_
        · have hf := lh_ifF hf c10
          refine lh_iconst rfl lh_k_1 ?_
          refine lh_goto rfl ?_
          refine lh_iadd rfl ?_
          refine lh_istore_n (lv' := [(0, .ref (65 + 4)), (1, .int v1), (2, .int (v2 + 1)), (3, .int v3), (4, .int v4), (5, .int r5), (6, .int r7), (7, .int 0)]) rfl rfl rfl rfl ?_
          refine lh_iload (q := 7) rfl rfl ?_
          refine lh_if_ne rfl (fun c => absurd (by decide) c) (fun _ => ?_)
          refine lh_iload_n (q := 3) rfl rfl rfl ?_
          refine lh_goto rfl ?_
          refine lh_istore_n (lv' := [(0, .ref (65 + 4)), (1, .int v1), (2, .int (v2 + 1)), (3, .int v3), (4, .int v4), (5, .int r5), (6, .int r7), (7, .int 0)]) rfl rfl rfl rfl ?_
          refine lh_iinc (q := 4) (v := (v4 + 1)) (lv' := [(0, .ref (65 + 4)), (1, .int v1), (2, .int (v2 + 1)), (3, .int v3), (4, .int (v4 + 1)), (5, .int r5), (6, .int r7), (7, .int 0)]) rfl rfl (congrArg (v4 + ·) (by decide)) rfl rfl ?_
          refine lh_goto rfl ?_
          refine lh_less [0, 1, 2, 3, 4] rfl ?_
          exact ih (v2 + 1) v3 (v4 + 1) _ hf x0_
      · have hf := lh_ifF hf c9
        refine lh_iload (q := 6) rfl rfl ?_
        refine lh_if_lt rfl (fun c11 => ?_) (fun c11 => ?_)
        · have hf := lh_ifT hf c11
          refine lh_iconst rfl lh_k_0 ?_
          refine lh_goto rfl ?_
          refine lh_istore (lv' := [(0, .ref (65 + 4)), (1, .int v1), (2, .int v2), (3, .int v3), (4, .int v4), (5, .int r5), (6, .int r7), (7, .int 0)]) rfl rfl rfl ?_
          refine lh_iload_n (q := 2) rfl rfl rfl ?_
          refine lh_iload (q := 7) rfl rfl ?_
          refine lh_iload_n (q := 3) rfl rfl rfl ?_
          refine lh_imul rfl ?_
          refine lh_if_ge rfl (fun c12 => ?_) (fun c12 => ?_)
          · have hf := lh_ifT hf c12
            refine lh_iconst rfl lh_k_0 ?_
            refine lh_iadd rfl ?_
            refine lh_istore_n (lv' := [(0, .ref (65 + 4)), (1, .int v1), (2, .int (v2 + 0)), (3, .int v3), (4, .int v4), (5, .int r5), (6, .int r7), (7, .int 0)]) rfl rfl rfl rfl ?_
            refine lh_iload (q := 7) rfl rfl ?_
            refine lh_if_ne rfl (fun c => absurd (by decide) c) (fun _ => ?_)
            refine lh_iload_n (q := 3) rfl rfl rfl ?_
            refine lh_goto rfl ?_
            refine lh_istore_n (lv' := [(0, .ref (65 + 4)), (1, .int v1), (2, .int (v2 + 0)), (3, .int v3), (4, .int v4), (5, .int r5), (6, .int r7), (7, .int 0)]) rfl rfl rfl rfl ?_
            refine lh_iinc (q := 4) (v := (v4 + 1)) (lv' := [(0, .ref (65 + 4)), (1, .int v1), (2, .int (v2 + 0)), (3, .int v3), (4, .int (v4 + 1)), (5, .int r5), (6, .int r7), (7, .int 0)]) rfl rfl (congrArg (v4 + ·) (by decide)) rfl rfl ?_
            refine lh_goto rfl ?_
            refine lh_less [0, 1, 2, 3, 4] rfl ?_
            exact ih (v2 + 0) v3 (v4 + 1) _ hf x0_
          · have hf := lh_ifF hf c12
            refine lh_iconst rfl lh_k_1 ?_
            refine lh_goto rfl ?_
            refine lh_iadd rfl ?_
            refine lh_istore_n (lv' := [(0, .ref (65 + 4)), (1, .int v1), (2, .int (v2 + 1)), (3, .int v3), (4, .int v4), (5, .int r5), (6, .int r7), (7, .int 0)]) rfl rfl rfl rfl ?_
            refine lh_iload (q := 7) rfl rfl ?_
            refine lh_if_ne rfl (fun c => absurd (by decide) c) (fun _ => ?_)
            refine lh_iload_n (q := 3) rfl rfl rfl ?_
            refine lh_goto rfl ?_
            refine lh_istore_n (lv' := [(0, .ref (65 + 4)), (1, .int v1), (2, .int (v2 + 1)), (3, .int v3), (4, .int v4), (5, .int r5), (6, .int r7), (7, .int 0)]) rfl rfl rfl rfl ?_
            refine lh_iinc (q := 4) (v := (v4 + 1)) (lv' := [(0, .ref (65 + 4)), (1, .int v1), (2, .int (v2 + 1)), (3, .int v3), (4, .int (v4 + 1)), (5, .int r5), (6, .int r7), (7, .int 0)]) rfl rfl (congrArg (v4 + ·) (by decide)) rfl rfl ?_
            refine lh_goto rfl ?_
            refine lh_less [0, 1, 2, 3, 4] rfl ?_
            exact ih (v2 + 1) v3 (v4 + 1) _ hf x0_
        · have hf := lh_ifF hf c11
          refine lh_iload (q := 5) rfl rfl ?_
          refine lh_iload (q := 6) rfl rfl ?_
          refine lh_icmp_ne rfl (fun c13 => ?_) (fun c13 => ?_)
          · have hf := lh_ifF hf c13
            refine lh_iload (q := 5) rfl rfl ?_
            refine lh_iload (q := 6) rfl rfl ?_
            refine lh_icmp_ge rfl (fun c14 => ?_) (fun c14 => ?_)
            · have hf := lh_ifT hf c14
              refine lh_iconst rfl lh_k_m1 ?_
              refine lh_istore (lv' := [(0, .ref (65 + 4)), (1, .int v1), (2, .int v2), (3, .int v3), (4, .int v4), (5, .int r5), (6, .int r7), (7, .int (-1))]) rfl rfl rfl ?_
              refine lh_iload_n (q := 2) rfl rfl rfl ?_
              refine lh_iload (q := 7) rfl rfl ?_
              refine lh_iload_n (q := 3) rfl rfl rfl ?_
              refine lh_imul rfl ?_
              refine lh_if_ge rfl (fun c15 => ?_) (fun c15 => ?_)
              · have hf := lh_ifT hf c15
                refine lh_iconst rfl lh_k_0 ?_
                refine lh_iadd rfl ?_
                refine lh_istore_n (lv' := [(0, .ref (65 + 4)), (1, .int v1), (2, .int (v2 + 0)), (3, .int v3), (4, .int v4), (5, .int r5), (6, .int r7), (7, .int (-1))]) rfl rfl rfl rfl ?_
                refine lh_iload (q := 7) rfl rfl ?_
                refine lh_if_ne rfl (fun _ => ?_) (fun c => absurd c (by decide)) 
                refine lh_iload (q := 7) rfl rfl ?_
                refine lh_istore_n (lv' := [(0, .ref (65 + 4)), (1, .int v1), (2, .int (v2 + 0)), (3, .int (-1)), (4, .int v4), (5, .int r5), (6, .int r7), (7, .int (-1))]) rfl rfl rfl rfl ?_
                refine lh_iinc (q := 4) (v := (v4 + 1)) (lv' := [(0, .ref (65 + 4)), (1, .int v1), (2, .int (v2 + 0)), (3, .int (-1)), (4, .int (v4 + 1)), (5, .int r5), (6, .int r7), (7, .int (-1))]) rfl rfl (congrArg (v4 + ·) (by decide)) rfl rfl ?_
                refine lh_goto rfl ?_
                refine lh_less [0, 1, 2, 3, 4] rfl ?_
                exact ih (v2 + 0) (-1) (v4 + 1) _ hf x0_
              · have hf := lh_ifF hf c15
                refine lh_iconst rfl lh_k_1 ?_
                refine lh_goto rfl ?_
                refine lh_iadd rfl ?_
                refine lh_istore_n (lv' := [(0, .ref (65 + 4)), (1, .int v1), (2, .int (v2 + 1)), (3, .int v3), (4, .int v4), (5, .int r5), (6, .int r7), (7, .int (-1))]) rfl rfl rfl rfl ?_
                refine lh_iload (q := 7) rfl rfl ?_
                refine lh_if_ne rfl (fun _ => ?_) (fun c => absurd c (by decide)) 
                refine lh_iload (q := 7) rfl rfl ?_
                refine lh_istore_n (lv' := [(0, .ref (65 + 4)), (1, .int v1), (2, .int (v2 + 1)), (3, .int (-1)), (4, .int v4), (5, .int r5), (6, .int r7), (7, .int (-1))]) rfl rfl rfl rfl ?_
                refine lh_iinc (q := 4) (v := (v4 + 1)) (lv' := [(0, .ref (65 + 4)), (1, .int v1), (2, .int (v2 + 1)), (3, .int (-1)), (4, .int (v4 + 1)), (5, .int r5), (6, .int r7), (7, .int (-1))]) rfl rfl (congrArg (v4 + ·) (by decide)) rfl rfl ?_
                refine lh_goto rfl ?_
                refine lh_less [0, 1, 2, 3, 4] rfl ?_
                exact ih (v2 + 1) (-1) (v4 + 1) _ hf x0_
            · have hf := lh_ifF hf c14
              refine lh_iconst rfl lh_k_1 ?_
              refine lh_goto rfl ?_
              refine lh_istore (lv' := [(0, .ref (65 + 4)), (1, .int v1), (2, .int v2), (3, .int v3), (4, .int v4), (5, .int r5), (6, .int r7), (7, .int 1)]) rfl rfl rfl ?_
              refine lh_iload_n (q := 2) rfl rfl rfl ?_
              refine lh_iload (q := 7) rfl rfl ?_
              refine lh_iload_n (q := 3) rfl rfl rfl ?_
              refine lh_imul rfl ?_
              refine lh_if_ge rfl (fun c16 => ?_) (fun c16 => ?_)
              · have hf := lh_ifT hf c16
                refine lh_iconst rfl lh_k_0 ?_
                refine lh_iadd rfl ?_
                refine lh_istore_n (lv' := [(0, .ref (65 + 4)), (1, .int v1), (2, .int (v2 + 0)), (3, .int v3), (4, .int v4), (5, .int r5), (6, .int r7), (7, .int 1)]) rfl rfl rfl rfl ?_
                refine lh_iload (q := 7) rfl rfl ?_
                refine lh_if_ne rfl (fun _ => ?_) (fun c => absurd c (by decide)) 
                refine lh_iload (q := 7) rfl rfl ?_
                refine lh_istore_n (lv' := [(0, .ref (65 + 4)), (1, .int v1), (2, .int (v2 + 0)), (3, .int 1), (4, .int v4), (5, .int r5), (6, .int r7), (7, .int 1)]) rfl rfl rfl rfl ?_
                refine lh_iinc (q := 4) (v := (v4 + 1)) (lv' := [(0, .ref (65 + 4)), (1, .int v1), (2, .int (v2 + 0)), (3, .int 1), (4, .int (v4 + 1)), (5, .int r5), (6, .int r7), (7, .int 1)]) rfl rfl (congrArg (v4 + ·) (by decide)) rfl rfl ?_
                refine lh_goto rfl ?_
                refine lh_less [0, 1, 2, 3, 4] rfl ?_
                exact ih (v2 + 0) 1 (v4 + 1) _ hf x0_
              · have hf := lh_ifF hf c16
                refine lh_iconst rfl lh_k_1 ?_
                refine lh_goto rfl ?_
                refine lh_iadd rfl ?_
                refine lh_istore_n (lv' := [(0, .ref (65 + 4)), (1, .int v1), (2, .int (v2 + 1)), (3, .int v3), (4, .int v4), (5, .int r5), (6, .int r7), (7, .int 1)]) rfl rfl rfl rfl ?_
                refine lh_iload (q := 7) rfl rfl ?_
                refine lh_if_ne rfl (fun _ => ?_) (fun c => absurd c (by decide)) 
                refine lh_iload (q := 7) rfl rfl ?_
                refine lh_istore_n (lv' := [(0, .ref (65 + 4)), (1, .int v1), (2, .int (v2 + 1)), (3, .int 1), (4, .int v4), (5, .int r5), (6, .int r7), (7, .int 1)]) rfl rfl rfl rfl ?_
                refine lh_iinc (q := 4) (v := (v4 + 1)) (lv' := [(0, .ref (65 + 4)), (1, .int v1), (2, .int (v2 + 1)), (3, .int 1), (4, .int (v4 + 1)), (5, .int r5), (6, .int r7), (7, .int 1)]) rfl rfl (congrArg (v4 + ·) (by decide)) rfl rfl ?_
                refine lh_goto rfl ?_
                refine lh_less [0, 1, 2, 3, 4] rfl ?_
                exact ih (v2 + 1) 1 (v4 + 1) _ hf x0_
          · have hf := lh_ifT hf c13
            refine lh_iconst rfl lh_k_0 ?_
            refine lh_goto rfl ?_
            refine lh_istore (lv' := [(0, .ref (65 + 4)), (1, .int v1), (2, .int v2), (3, .int v3), (4, .int v4), (5, .int r5), (6, .int r7), (7, .int 0)]) rfl rfl rfl ?_
            refine lh_iload_n (q := 2) rfl rfl rfl ?_
            refine lh_iload (q := 7) rfl rfl ?_
            refine lh_iload_n (q := 3) rfl rfl rfl ?_
            refine lh_imul rfl ?_
            refine lh_if_ge rfl (fun c17 => ?_) (fun c17 => ?_)
            · have hf := lh_ifT hf c17
              refine lh_iconst rfl lh_k_0 ?_
              refine lh_iadd rfl ?_
              refine lh_istore_n (lv' := [(0, .ref (65 + 4)), (1, .int v1), (2, .int (v2 + 0)), (3, .int v3), (4, .int v4), (5, .int r5), (6, .int r7), (7, .int 0)]) rfl rfl rfl rfl ?_
              refine lh_iload (q := 7) rfl rfl ?_
              refine lh_if_ne rfl (fun c => absurd (by decide) c) (fun _ => ?_)
              refine lh_iload_n (q := 3) rfl rfl rfl ?_
              refine lh_goto rfl ?_
              refine lh_istore_n (lv' := [(0, .ref (65 + 4)), (1, .int v1), (2, .int (v2 + 0)), (3, .int v3), (4, .int v4), (5, .int r5), (6, .int r7), (7, .int 0)]) rfl rfl rfl rfl ?_
              refine lh_iinc (q := 4) (v := (v4 + 1)) (lv' := [(0, .ref (65 + 4)), (1, .int v1), (2, .int (v2 + 0)), (3, .int v3), (4, .int (v4 + 1)), (5, .int r5), (6, .int r7), (7, .int 0)]) rfl rfl (congrArg (v4 + ·) (by decide)) rfl rfl ?_
              refine lh_goto rfl ?_
              refine lh_less [0, 1, 2, 3, 4] rfl ?_
              exact ih (v2 + 0) v3 (v4 + 1) _ hf x0_
            · have hf := lh_ifF hf c17
              refine lh_iconst rfl lh_k_1 ?_
              refine lh_goto rfl ?_
              refine lh_iadd rfl ?_
              refine lh_istore_n (lv' := [(0, .ref (65 + 4)), (1, .int v1), (2, .int (v2 + 1)), (3, .int v3), (4, .int v4), (5, .int r5), (6, .int r7), (7, .int 0)]) rfl rfl rfl rfl ?_
              refine lh_iload (q := 7) rfl rfl ?_
              refine lh_if_ne rfl (fun c => absurd (by decide) c) (fun _ => ?_)
              refine lh_iload_n (q := 3) rfl rfl rfl ?_
              refine lh_goto rfl ?_
              refine lh_istore_n (lv' := [(0, .ref (65 + 4)), (1, .int v1), (2, .int (v2 + 1)), (3, .int v3), (4, .int v4), (5, .int r5), (6, .int r7), (7, .int 0)]) rfl rfl rfl rfl ?_
              refine lh_iinc (q := 4) (v := (v4 + 1)) (lv' := [(0, .ref (65 + 4)), (1, .int v1), (2, .int (v2 + 1)), (3, .int v3), (4, .int (v4 + 1)), (5, .int r5), (6, .int r7), (7, .int 0)]) rfl rfl (congrArg (v4 + ·) (by decide)) rfl rfl ?_
              refine lh_goto rfl ?_
              refine lh_less [0, 1, 2, 3, 4] rfl ?_
              exact ih (v2 + 1) v3 (v4 + 1) _ hf x0_
theorem t_LM_wavers {Γ : lh_Cx} {I : lh_II} {L : lh_LL} {F : lh_FF} {S : lh_SS} {K : Int32 → lh_Hp → Prop} {r : Int32 × lh_II} (hG : lh_GX Γ) (hS : lh_laym F S)  {x1 : Int32} (hf : f_LM_wavers x1 I = some r) (hK : K r.1 (r.2, L, F, S)) : lh_Met Γ m_LM_wavers 2 0 0 [.ref (65 + 4), .int x1] (I, L, F, S) (lh_ki K) := by
  rw [f_LM_wavers] at hf
  refine lh_ofG k_LM_wavers [(0, .ref (65 + 4)), (1, .int x1)] rfl (Nat.le_of_ble_eq_true rfl) rfl ?_
  refine lh_aload_n (q := 0) rfl rfl rfl ?_
  refine lh_iconst rfl lh_k_0 ?_
  refine lh_putI4 rfl rfl (hS.1 0 _ rfl) rfl rfl ?_
  refine lh_aload_n (q := 0) rfl rfl rfl ?_
  refine lh_iload_n (q := 1) rfl rfl rfl ?_
  refine lh_bdE hf (fun r1 e2 hf => ?_)
  refine lh_cVi (N := m_LM_isVisitor) (d := 1) (o := 65) (As := [.int x1]) (st := []) rfl rfl v_LM_isVisitor (hS.1 0 _ rfl) rfl rfl rfl ⟨rfl, rfl⟩ rfl (t_LM_isVisitor hG hS e2 ?_)
  refine lh_if_ne rfl (fun c3 => ?_) (fun c3 => ?_)
  · have hf := lh_ifF hf c3
    refine lh_iconst rfl lh_k_0 ?_
    refine lh_istore_n (lv' := [(0, .ref (65 + 4)), (1, .int x1), (2, .int 0)]) rfl rfl rfl rfl ?_
    refine lh_iconst rfl lh_k_0 ?_
    refine lh_istore_n (lv' := [(0, .ref (65 + 4)), (1, .int x1), (2, .int 0), (3, .int 0)]) rfl rfl rfl rfl ?_
    refine lh_iconst rfl lh_k_1 ?_
    refine lh_istore (lv' := [(0, .ref (65 + 4)), (1, .int x1), (2, .int 0), (3, .int 0), (4, .int 1)]) rfl rfl rfl ?_
    refine lh_bdE hf (fun r18 e19 hf => ?_)
    refine t_LM_wavers_15 hG hS  _ 0 0 1 _ e19 ?_
    refine lh_iload_n (q := 0) rfl rfl rfl ?_
    exact lh_iret rfl rfl rfl (by obtain rfl := Option.some.inj hf; exact hK)
  · have hf := lh_ifT hf c3
    refine lh_iconst rfl lh_k_m1 ?_
    exact lh_iret rfl rfl rfl (by obtain rfl := Option.some.inj hf; exact hK)
def f_LM_would (x1 : Int32) (I : lh_II) : Option (Int32 × lh_II) := lh_bd (f_LM_within x1 ((-1) : Int32) (1 : Int32)) fun r1 => if r1 = 0 then some ((-1), lh_u2 I (65 + 4) 0 0) else lh_bd (f_LM_bumpsBy (0 : Int32) x1 (lh_u2 I (65 + 4) 0 0)) fun r4 => some (r4.1, r4.2)
theorem t_LM_would {Γ : lh_Cx} {I : lh_II} {L : lh_LL} {F : lh_FF} {S : lh_SS} {K : Int32 → lh_Hp → Prop} {r : Int32 × lh_II} (hG : lh_GX Γ) (hS : lh_laym F S)  {x1 : Int32} (hf : f_LM_would x1 I = some r) (hK : K r.1 (r.2, L, F, S)) : lh_Met Γ m_LM_would 6 0 0 [.ref (65 + 4), .int x1] (I, L, F, S) (lh_ki K) := by
  rw [f_LM_would] at hf
  refine lh_ofG k_LM_would [(0, .ref (65 + 4)), (1, .int x1)] rfl (Nat.le_of_ble_eq_true rfl) rfl ?_
  refine lh_aload_n (q := 0) rfl rfl rfl ?_
  refine lh_iconst rfl lh_k_0 ?_
  refine lh_putI4 rfl rfl (hS.1 0 _ rfl) rfl rfl ?_
  refine lh_iload_n (q := 1) rfl rfl rfl ?_
  refine lh_iconst rfl lh_k_m1 ?_
  refine lh_iconst rfl lh_k_1 ?_
  refine lh_bdE hf (fun r1 e2 hf => ?_)
  refine lh_cSi (N := m_LM_within) (d := 0) (As := [.int x1, .int (-1), .int 1]) (st := []) rfl rfl v_LM_within rfl rfl ⟨rfl, rfl⟩ rfl (t_LM_within hG hS e2 ?_)
  refine lh_if_eq rfl (fun c3 => ?_) (fun c3 => ?_)
  · have hf := lh_ifT hf c3
    refine lh_iconst rfl lh_k_m1 ?_
    exact lh_iret rfl rfl rfl (by obtain rfl := Option.some.inj hf; exact hK)
  · have hf := lh_ifF hf c3
    refine lh_aload_n (q := 0) rfl rfl rfl ?_
    refine lh_iconst rfl lh_k_0 ?_
    refine lh_iload_n (q := 1) rfl rfl rfl ?_
    refine lh_bdE hf (fun r4 e5 hf => ?_)
    refine lh_cVi (N := m_LM_bumpsBy) (d := 5) (o := 65) (As := [.int 0, .int x1]) (st := []) rfl rfl v_LM_bumpsBy (hS.1 0 _ rfl) rfl rfl rfl ⟨rfl, rfl⟩ rfl (t_LM_bumpsBy hG hS e5 ?_)
    refine lh_goto rfl ?_
    exact lh_iret rfl rfl rfl (by obtain rfl := Option.some.inj hf; exact hK)
def f_LM_takePart (g_LM_whole : Int32 → lh_II → lh_LL → Option (lh_II)) (g_LM_test : Int32 → lh_II → lh_LL → Option (lh_II)) (g_LM_sums : Int32 → lh_II → lh_LL → Option (lh_II)) (g_LM_products : Int32 → lh_II → lh_LL → Option (lh_II)) (g_LM_takePart : Int32 → lh_II → lh_LL → Option (lh_II)) (x1 : Int32) (I : lh_II) (L : lh_LL) : Option (lh_II) := if (I (65 + 4) 8) ≤ 0 then lh_gd (lh_ix (I (65 + 4) 7) 1002) (if (I (67 + 4) (I (65 + 4) 7).toNatClampNeg) = 2 then lh_bd (f_LM_wordHere (23 : Int32) (4 : Int32) I L) fun r140 => if 0 ≤ r140 then if x1 = 5 then lh_bd (f_LM_wrong (5 : Int32) I) fun r161 => if (r161 (65 + 4) 8) ≤ 0 then lh_bd (f_LM_hasWord (20 : Int32) r161 L) fun r164 => if r164.1 = 0 then lh_bd (f_LM_hasSign (40 : Int32) r164.2 L) fun r167 => if r167.1 = 0 then lh_gd (lh_ix (r167.2 (65 + 4) 7) 1002) (lh_bd (f_LM_emit (1 : Int32) ((L (69 + 4) (r167.2 (65 + 4) 7).toNatClampNeg).toInt32) r167.2) fun r171 => some (lh_u2 r171 (65 + 4) 7 ((r171 (65 + 4) 7) + 1))) else lh_bd (g_LM_whole (x1 + 1) r167.2 L) fun r173 => lh_bd (f_LM_takeSign (41 : Int32) r173 L) fun r175 => some r175 else lh_bd (g_LM_takePart (x1 + 1) r164.2 L) fun r177 => lh_bd (f_LM_emit (3 : Int32) (0 : Int32) r177) fun r179 => some r179 else some r161 else lh_bd (f_LM_hasWord (20 : Int32) I L) fun r144 => if r144.1 = 0 then lh_bd (f_LM_hasSign (40 : Int32) r144.2 L) fun r147 => if r147.1 = 0 then lh_gd (lh_ix (r147.2 (65 + 4) 7) 1002) (lh_bd (f_LM_emit (1 : Int32) ((L (69 + 4) (r147.2 (65 + 4) 7).toNatClampNeg).toInt32) r147.2) fun r151 => some (lh_u2 r151 (65 + 4) 7 ((r151 (65 + 4) 7) + 1))) else lh_bd (g_LM_whole (x1 + 1) r147.2 L) fun r153 => lh_bd (f_LM_takeSign (41 : Int32) r153 L) fun r155 => some r155 else lh_bd (g_LM_takePart (x1 + 1) r144.2 L) fun r157 => lh_bd (f_LM_emit (3 : Int32) (0 : Int32) r157) fun r159 => some r159 else if x1 = 5 then lh_bd (f_LM_wrong (5 : Int32) I) fun r199 => if (r199 (65 + 4) 8) ≤ 0 then lh_bd (f_LM_hasWord (20 : Int32) r199 L) fun r202 => if r202.1 = 0 then lh_bd (f_LM_hasSign (40 : Int32) r202.2 L) fun r205 => if r205.1 = 0 then lh_gd (lh_ix (r205.2 (65 + 4) 7) 1002) (lh_bd (f_LM_emit (1 : Int32) ((L (69 + 4) (r205.2 (65 + 4) 7).toNatClampNeg).toInt32) r205.2) fun r209 => some (lh_u2 r209 (65 + 4) 7 ((r209 (65 + 4) 7) + 1))) else lh_bd (g_LM_whole (x1 + 1) r205.2 L) fun r211 => lh_bd (f_LM_takeSign (41 : Int32) r211 L) fun r213 => some r213 else lh_bd (g_LM_takePart (x1 + 1) r202.2 L) fun r215 => lh_bd (f_LM_emit (3 : Int32) (0 : Int32) r215) fun r217 => some r217 else some r199 else lh_bd (f_LM_hasWord (20 : Int32) I L) fun r182 => if r182.1 = 0 then lh_bd (f_LM_hasSign (40 : Int32) r182.2 L) fun r185 => if r185.1 = 0 then lh_gd (lh_ix (r185.2 (65 + 4) 7) 1002) (lh_bd (f_LM_emit (1 : Int32) ((L (69 + 4) (r185.2 (65 + 4) 7).toNatClampNeg).toInt32) r185.2) fun r189 => some (lh_u2 r189 (65 + 4) 7 ((r189 (65 + 4) 7) + 1))) else lh_bd (g_LM_whole (x1 + 1) r185.2 L) fun r191 => lh_bd (f_LM_takeSign (41 : Int32) r191 L) fun r193 => some r193 else lh_bd (g_LM_takePart (x1 + 1) r182.2 L) fun r195 => lh_bd (f_LM_emit (3 : Int32) (0 : Int32) r195) fun r197 => some r197 else lh_bd (f_LM_wordHere (23 : Int32) (4 : Int32) I L) fun r4 => if 0 ≤ r4 then if x1 = 5 then lh_bd (f_LM_wrong (5 : Int32) I) fun r24 => if (r24 (65 + 4) 8) ≤ 0 then lh_bd (f_LM_hasWord (20 : Int32) r24 L) fun r27 => if r27.1 = 0 then lh_bd (f_LM_hasSign (40 : Int32) r27.2 L) fun r30 => if r30.1 = 0 then lh_bd (f_LM_emit (2 : Int32) r4 r30.2) fun r33 => some (lh_u2 r33 (65 + 4) 7 ((r33 (65 + 4) 7) + 1)) else lh_bd (g_LM_whole (x1 + 1) r30.2 L) fun r35 => lh_bd (f_LM_takeSign (41 : Int32) r35 L) fun r37 => some r37 else lh_bd (g_LM_takePart (x1 + 1) r27.2 L) fun r39 => lh_bd (f_LM_emit (3 : Int32) (0 : Int32) r39) fun r41 => some r41 else some r24 else lh_bd (f_LM_hasWord (20 : Int32) I L) fun r8 => if r8.1 = 0 then lh_bd (f_LM_hasSign (40 : Int32) r8.2 L) fun r11 => if r11.1 = 0 then lh_bd (f_LM_emit (2 : Int32) r4 r11.2) fun r14 => some (lh_u2 r14 (65 + 4) 7 ((r14 (65 + 4) 7) + 1)) else lh_bd (g_LM_whole (x1 + 1) r11.2 L) fun r16 => lh_bd (f_LM_takeSign (41 : Int32) r16 L) fun r18 => some r18 else lh_bd (g_LM_takePart (x1 + 1) r8.2 L) fun r20 => lh_bd (f_LM_emit (3 : Int32) (0 : Int32) r20) fun r22 => some r22 else lh_bd (f_LM_isSign (40 : Int32) I L) fun r43 => if r43 = 0 then lh_bd (f_LM_isWord (20 : Int32) I L) fun r82 => if r82 = 0 then lh_bd (f_LM_wrong (1 : Int32) I) fun r121 => if (r121 (65 + 4) 8) ≤ 0 then lh_bd (f_LM_hasWord (20 : Int32) r121 L) fun r124 => if r124.1 = 0 then lh_bd (f_LM_hasSign (40 : Int32) r124.2 L) fun r127 => if r127.1 = 0 then lh_bd (f_LM_emit (2 : Int32) r4 r127.2) fun r130 => some (lh_u2 r130 (65 + 4) 7 ((r130 (65 + 4) 7) + 1)) else lh_bd (g_LM_whole (x1 + 1) r127.2 L) fun r132 => lh_bd (f_LM_takeSign (41 : Int32) r132 L) fun r134 => some r134 else lh_bd (g_LM_takePart (x1 + 1) r124.2 L) fun r136 => lh_bd (f_LM_emit (3 : Int32) (0 : Int32) r136) fun r138 => some r138 else some r121 else if x1 = 5 then lh_bd (f_LM_wrong (5 : Int32) I) fun r102 => if (r102 (65 + 4) 8) ≤ 0 then lh_bd (f_LM_hasWord (20 : Int32) r102 L) fun r105 => if r105.1 = 0 then lh_bd (f_LM_hasSign (40 : Int32) r105.2 L) fun r108 => if r108.1 = 0 then lh_bd (f_LM_emit (2 : Int32) r4 r108.2) fun r111 => some (lh_u2 r111 (65 + 4) 7 ((r111 (65 + 4) 7) + 1)) else lh_bd (g_LM_whole (x1 + 1) r108.2 L) fun r113 => lh_bd (f_LM_takeSign (41 : Int32) r113 L) fun r115 => some r115 else lh_bd (g_LM_takePart (x1 + 1) r105.2 L) fun r117 => lh_bd (f_LM_emit (3 : Int32) (0 : Int32) r117) fun r119 => some r119 else some r102 else lh_bd (f_LM_hasWord (20 : Int32) I L) fun r86 => if r86.1 = 0 then lh_bd (f_LM_hasSign (40 : Int32) r86.2 L) fun r89 => if r89.1 = 0 then lh_bd (f_LM_emit (2 : Int32) r4 r89.2) fun r92 => some (lh_u2 r92 (65 + 4) 7 ((r92 (65 + 4) 7) + 1)) else lh_bd (g_LM_whole (x1 + 1) r89.2 L) fun r94 => lh_bd (f_LM_takeSign (41 : Int32) r94 L) fun r96 => some r96 else lh_bd (g_LM_takePart (x1 + 1) r86.2 L) fun r98 => lh_bd (f_LM_emit (3 : Int32) (0 : Int32) r98) fun r100 => some r100 else if x1 = 5 then lh_bd (f_LM_wrong (5 : Int32) I) fun r63 => if (r63 (65 + 4) 8) ≤ 0 then lh_bd (f_LM_hasWord (20 : Int32) r63 L) fun r66 => if r66.1 = 0 then lh_bd (f_LM_hasSign (40 : Int32) r66.2 L) fun r69 => if r69.1 = 0 then lh_bd (f_LM_emit (2 : Int32) r4 r69.2) fun r72 => some (lh_u2 r72 (65 + 4) 7 ((r72 (65 + 4) 7) + 1)) else lh_bd (g_LM_whole (x1 + 1) r69.2 L) fun r74 => lh_bd (f_LM_takeSign (41 : Int32) r74 L) fun r76 => some r76 else lh_bd (g_LM_takePart (x1 + 1) r66.2 L) fun r78 => lh_bd (f_LM_emit (3 : Int32) (0 : Int32) r78) fun r80 => some r80 else some r63 else lh_bd (f_LM_hasWord (20 : Int32) I L) fun r47 => if r47.1 = 0 then lh_bd (f_LM_hasSign (40 : Int32) r47.2 L) fun r50 => if r50.1 = 0 then lh_bd (f_LM_emit (2 : Int32) r4 r50.2) fun r53 => some (lh_u2 r53 (65 + 4) 7 ((r53 (65 + 4) 7) + 1)) else lh_bd (g_LM_whole (x1 + 1) r50.2 L) fun r55 => lh_bd (f_LM_takeSign (41 : Int32) r55 L) fun r57 => some r57 else lh_bd (g_LM_takePart (x1 + 1) r47.2 L) fun r59 => lh_bd (f_LM_emit (3 : Int32) (0 : Int32) r59) fun r61 => some r61) else some I
theorem t_LM_takePart {Γ : lh_Cx} {I : lh_II} {L : lh_LL} {F : lh_FF} {S : lh_SS} {K : lh_Hp → Prop} {r : lh_II} (hG : lh_GX Γ) (hS : lh_laym F S) {D : Nat} {g_LM_whole : Int32 → lh_II → lh_LL → Option (lh_II)} (hg_LM_whole : ∀ {I : lh_II} {L : lh_LL} {K : lh_Hp → Prop} {r : lh_II}  {x1 : Int32}, g_LM_whole x1 I L = some r → K (r, L, F, S) → lh_Met Γ m_LM_whole (D + 10) 0 0 [.ref (65 + 4), .int x1] (I, L, F, S) (lh_kv K)) {g_LM_test : Int32 → lh_II → lh_LL → Option (lh_II)} (hg_LM_test : ∀ {I : lh_II} {L : lh_LL} {K : lh_Hp → Prop} {r : lh_II}  {x1 : Int32}, g_LM_test x1 I L = some r → K (r, L, F, S) → lh_Met Γ m_LM_test (D + 10) 0 0 [.ref (65 + 4), .int x1] (I, L, F, S) (lh_kv K)) {g_LM_sums : Int32 → lh_II → lh_LL → Option (lh_II)} (hg_LM_sums : ∀ {I : lh_II} {L : lh_LL} {K : lh_Hp → Prop} {r : lh_II}  {x1 : Int32}, g_LM_sums x1 I L = some r → K (r, L, F, S) → lh_Met Γ m_LM_sums (D + 10) 0 0 [.ref (65 + 4), .int x1] (I, L, F, S) (lh_kv K)) {g_LM_products : Int32 → lh_II → lh_LL → Option (lh_II)} (hg_LM_products : ∀ {I : lh_II} {L : lh_LL} {K : lh_Hp → Prop} {r : lh_II}  {x1 : Int32}, g_LM_products x1 I L = some r → K (r, L, F, S) → lh_Met Γ m_LM_products (D + 10) 0 0 [.ref (65 + 4), .int x1] (I, L, F, S) (lh_kv K)) {g_LM_takePart : Int32 → lh_II → lh_LL → Option (lh_II)} (hg_LM_takePart : ∀ {I : lh_II} {L : lh_LL} {K : lh_Hp → Prop} {r : lh_II}  {x1 : Int32}, g_LM_takePart x1 I L = some r → K (r, L, F, S) → lh_Met Γ m_LM_takePart (D + 10) 0 0 [.ref (65 + 4), .int x1] (I, L, F, S) (lh_kv K))  {x1 : Int32} (hf : f_LM_takePart g_LM_whole g_LM_test g_LM_sums g_LM_products g_LM_takePart x1 I L = some r) (hK : K (r, L, F, S)) : lh_Met Γ m_LM_takePart (D + 11) 0 0 [.ref (65 + 4), .int x1] (I, L, F, S) (lh_kv K) := by
  rw [f_LM_takePart] at hf
  refine lh_ofG k_LM_takePart [(0, .ref (65 + 4)), (1, .int x1)] rfl (Nat.le_of_ble_eq_true rfl) rfl ?_
  refine lh_aload_n (q := 0) rfl rfl rfl ?_
  refine lh_getI4 rfl rfl (hS.1 0 _ rfl) rfl ?_
  refine lh_if_le rfl (fun c1 => ?_) (fun c1 => ?_)
  · have hf := lh_ifT hf c1
    refine lh_aload_n (q := 0) rfl rfl rfl ?_
    refine lh_getR4 rfl rfl (hS.1 0 _ rfl) rfl (hS.2 1 _ rfl) ?_
    refine lh_aload_n (q := 0) rfl rfl rfl ?_
    refine lh_getI4 rfl rfl (hS.1 0 _ rfl) rfl ?_
    obtain ⟨g2, hf⟩ := lh_gdE hf
    refine lh_iald4 rfl (hS.1 2 _ rfl) g2 ?_
    refine lh_iconst rfl lh_k_2 ?_
    refine lh_icmp_ne rfl (fun c3 => ?_) (fun c3 => ?_)
    · have hf := lh_ifF hf c3
      refine lh_iconst rfl lh_k_0 ?_
      refine lh_istore_n (lv' := [(0, .ref (65 + 4)), (1, .int x1), (2, .int 0)]) rfl rfl rfl rfl ?_
      refine lh_aload_n (q := 0) rfl rfl rfl ?_
      refine lh_bipush rfl lh_b_23 ?_
      refine lh_iconst rfl lh_k_4 ?_
      refine lh_bdE hf (fun r4 e5 hf => ?_)
      refine lh_cVi (N := m_LM_wordHere) (d := 1) (o := 65) (As := [.int 23, .int 4]) (st := []) rfl rfl v_LM_wordHere (hS.1 0 _ rfl) rfl rfl rfl ⟨lh_bD (by omega), lh_bL (by omega)⟩ rfl (t_LM_wordHere hG hS e5 ?_)
      refine lh_istore_n (lv' := [(0, .ref (65 + 4)), (1, .int x1), (2, .int 0), (3, .int r4)]) rfl rfl rfl rfl ?_
      refine lh_iload_n (q := 3) rfl rfl rfl ?_
      refine lh_if_ge rfl (fun c6 => ?_) (fun c6 => ?_)
      · have hf := lh_ifT hf c6
        refine lh_iload_n (q := 1) rfl rfl rfl ?_
        refine lh_iconst rfl lh_k_5 ?_
        refine lh_icmp_ne rfl (fun c7 => ?_) (fun c7 => ?_)
        · have hf := lh_ifF hf c7
          refine lh_aload_n (q := 0) rfl rfl rfl ?_
          refine lh_getI4 rfl rfl (hS.1 0 _ rfl) rfl ?_
          refine lh_if_le rfl (fun _ => ?_) (fun c => absurd c1 c)
          refine lh_aload_n (q := 0) rfl rfl rfl ?_
          refine lh_bipush rfl lh_b_20 ?_
          refine lh_bdE hf (fun r8 e9 hf => ?_)
          refine lh_cVi (N := m_LM_hasWord) (d := 1) (o := 65) (As := [.int 20]) (st := []) rfl rfl v_LM_hasWord (hS.1 0 _ rfl) rfl rfl rfl ⟨lh_bD (by omega), lh_bL (by omega)⟩ rfl (t_LM_hasWord hG hS e9 ?_)
          refine lh_if_eq rfl (fun c10 => ?_) (fun c10 => ?_)
          · have hf := lh_ifT hf c10
            refine lh_aload_n (q := 0) rfl rfl rfl ?_
            refine lh_bipush rfl lh_b_40 ?_
            refine lh_bdE hf (fun r11 e12 hf => ?_)
            refine lh_cVi (N := m_LM_hasSign) (d := 1) (o := 65) (As := [.int 40]) (st := []) rfl rfl v_LM_hasSign (hS.1 0 _ rfl) rfl rfl rfl ⟨lh_bD (by omega), lh_bL (by omega)⟩ rfl (t_LM_hasSign hG hS e12 ?_)
            refine lh_if_eq rfl (fun c13 => ?_) (fun c13 => ?_)
            · have hf := lh_ifT hf c13
              refine lh_aload_n (q := 0) rfl rfl rfl ?_
              refine lh_iload_n (q := 2) rfl rfl rfl ?_
              refine lh_if_eq rfl (fun _ => ?_) (fun c => absurd (by decide) c) 
              refine lh_iconst rfl lh_k_2 ?_
              refine lh_iload_n (q := 2) rfl rfl rfl ?_
              refine lh_if_eq rfl (fun _ => ?_) (fun c => absurd (by decide) c) 
              refine lh_iload_n (q := 3) rfl rfl rfl ?_
              refine lh_bdE hf (fun r14 e15 hf => ?_)
              refine lh_cVv (N := m_LM_emit) (d := 0) (o := 65) (As := [.int 2, .int r4]) (st := []) rfl rfl v_LM_emit (hS.1 0 _ rfl) rfl rfl rfl ⟨lh_bD (by omega), lh_bL (by omega)⟩ rfl (t_LM_emit hG hS e15 ?_)
              refine lh_aload_n (q := 0) rfl rfl rfl ?_
              refine lh_dup rfl rfl ?_
              refine lh_getI4 rfl rfl (hS.1 0 _ rfl) rfl ?_
              refine lh_iconst rfl lh_k_1 ?_
              refine lh_iadd rfl ?_
              refine lh_putI4 rfl rfl (hS.1 0 _ rfl) rfl rfl ?_
              exact lh_vret rfl rfl (by obtain rfl := Option.some.inj hf; exact hK)
            · have hf := lh_ifF hf c13
              refine lh_aload_n (q := 0) rfl rfl rfl ?_
              refine lh_iload_n (q := 1) rfl rfl rfl ?_
              refine lh_iconst rfl lh_k_1 ?_
              refine lh_iadd rfl ?_
              refine lh_bdE hf (fun r16 e17 hf => ?_)
              refine lh_cVv (N := m_LM_whole) (d := D + 10) (o := 65) (As := [.int (x1 + 1)]) (st := []) rfl rfl v_LM_whole (hS.1 0 _ rfl) rfl rfl rfl ⟨lh_bD (by omega), lh_bL (by omega)⟩ rfl (hg_LM_whole e17 ?_)
              refine lh_aload_n (q := 0) rfl rfl rfl ?_
              refine lh_bipush rfl lh_b_41 ?_
              refine lh_bdE hf (fun r18 e19 hf => ?_)
              refine lh_cVv (N := m_LM_takeSign) (d := 1) (o := 65) (As := [.int 41]) (st := []) rfl rfl v_LM_takeSign (hS.1 0 _ rfl) rfl rfl rfl ⟨lh_bD (by omega), lh_bL (by omega)⟩ rfl (t_LM_takeSign hG hS e19 ?_)
              refine lh_goto rfl ?_
              exact lh_vret rfl rfl (by obtain rfl := Option.some.inj hf; exact hK)
          · have hf := lh_ifF hf c10
            refine lh_aload_n (q := 0) rfl rfl rfl ?_
            refine lh_iload_n (q := 1) rfl rfl rfl ?_
            refine lh_iconst rfl lh_k_1 ?_
            refine lh_iadd rfl ?_
            refine lh_bdE hf (fun r20 e21 hf => ?_)
            refine lh_cVv (N := m_LM_takePart) (d := D + 10) (o := 65) (As := [.int (x1 + 1)]) (st := []) rfl rfl v_LM_takePart (hS.1 0 _ rfl) rfl rfl rfl ⟨lh_bD (by omega), lh_bL (by omega)⟩ rfl (hg_LM_takePart e21 ?_)
            refine lh_aload_n (q := 0) rfl rfl rfl ?_
            refine lh_iconst rfl lh_k_3 ?_
            refine lh_iconst rfl lh_k_0 ?_
            refine lh_bdE hf (fun r22 e23 hf => ?_)
            refine lh_cVv (N := m_LM_emit) (d := 0) (o := 65) (As := [.int 3, .int 0]) (st := []) rfl rfl v_LM_emit (hS.1 0 _ rfl) rfl rfl rfl ⟨lh_bD (by omega), lh_bL (by omega)⟩ rfl (t_LM_emit hG hS e23 ?_)
            refine lh_goto rfl ?_
            exact lh_vret rfl rfl (by obtain rfl := Option.some.inj hf; exact hK)
        · have hf := lh_ifT hf c7
          refine lh_aload_n (q := 0) rfl rfl rfl ?_
          refine lh_iconst rfl lh_k_5 ?_
          refine lh_bdE hf (fun r24 e25 hf => ?_)
          refine lh_cVv (N := m_LM_wrong) (d := 0) (o := 65) (As := [.int 5]) (st := []) rfl rfl v_LM_wrong (hS.1 0 _ rfl) rfl rfl rfl ⟨lh_bD (by omega), lh_bL (by omega)⟩ rfl (t_LM_wrong hG hS e25 ?_)
          refine lh_aload_n (q := 0) rfl rfl rfl ?_
          refine lh_getI4 rfl rfl (hS.1 0 _ rfl) rfl ?_
          refine lh_if_le rfl (fun c26 => ?_) (fun c26 => ?_)
          · have hf := lh_ifT hf c26
            refine lh_aload_n (q := 0) rfl rfl rfl ?_
            refine lh_bipush rfl lh_b_20 ?_
            refine lh_bdE hf (fun r27 e28 hf => ?_)
            refine lh_cVi (N := m_LM_hasWord) (d := 1) (o := 65) (As := [.int 20]) (st := []) rfl rfl v_LM_hasWord (hS.1 0 _ rfl) rfl rfl rfl ⟨lh_bD (by omega), lh_bL (by omega)⟩ rfl (t_LM_hasWord hG hS e28 ?_)
            refine lh_if_eq rfl (fun c29 => ?_) (fun c29 => ?_)
            · have hf := lh_ifT hf c29
              refine lh_aload_n (q := 0) rfl rfl rfl ?_
              refine lh_bipush rfl lh_b_40 ?_
              refine lh_bdE hf (fun r30 e31 hf => ?_)
              refine lh_cVi (N := m_LM_hasSign) (d := 1) (o := 65) (As := [.int 40]) (st := []) rfl rfl v_LM_hasSign (hS.1 0 _ rfl) rfl rfl rfl ⟨lh_bD (by omega), lh_bL (by omega)⟩ rfl (t_LM_hasSign hG hS e31 ?_)
              refine lh_if_eq rfl (fun c32 => ?_) (fun c32 => ?_)
              · have hf := lh_ifT hf c32
                refine lh_aload_n (q := 0) rfl rfl rfl ?_
                refine lh_iload_n (q := 2) rfl rfl rfl ?_
                refine lh_if_eq rfl (fun _ => ?_) (fun c => absurd (by decide) c) 
                refine lh_iconst rfl lh_k_2 ?_
                refine lh_iload_n (q := 2) rfl rfl rfl ?_
                refine lh_if_eq rfl (fun _ => ?_) (fun c => absurd (by decide) c) 
                refine lh_iload_n (q := 3) rfl rfl rfl ?_
                refine lh_bdE hf (fun r33 e34 hf => ?_)
                refine lh_cVv (N := m_LM_emit) (d := 0) (o := 65) (As := [.int 2, .int r4]) (st := []) rfl rfl v_LM_emit (hS.1 0 _ rfl) rfl rfl rfl ⟨lh_bD (by omega), lh_bL (by omega)⟩ rfl (t_LM_emit hG hS e34 ?_)
                refine lh_aload_n (q := 0) rfl rfl rfl ?_
                refine lh_dup rfl rfl ?_
                refine lh_getI4 rfl rfl (hS.1 0 _ rfl) rfl ?_
                refine lh_iconst rfl lh_k_1 ?_
                refine lh_iadd rfl ?_
                refine lh_putI4 rfl rfl (hS.1 0 _ rfl) rfl rfl ?_
                exact lh_vret rfl rfl (by obtain rfl := Option.some.inj hf; exact hK)
              · have hf := lh_ifF hf c32
                refine lh_aload_n (q := 0) rfl rfl rfl ?_
                refine lh_iload_n (q := 1) rfl rfl rfl ?_
                refine lh_iconst rfl lh_k_1 ?_
                refine lh_iadd rfl ?_
                refine lh_bdE hf (fun r35 e36 hf => ?_)
                refine lh_cVv (N := m_LM_whole) (d := D + 10) (o := 65) (As := [.int (x1 + 1)]) (st := []) rfl rfl v_LM_whole (hS.1 0 _ rfl) rfl rfl rfl ⟨lh_bD (by omega), lh_bL (by omega)⟩ rfl (hg_LM_whole e36 ?_)
                refine lh_aload_n (q := 0) rfl rfl rfl ?_
                refine lh_bipush rfl lh_b_41 ?_
                refine lh_bdE hf (fun r37 e38 hf => ?_)
                refine lh_cVv (N := m_LM_takeSign) (d := 1) (o := 65) (As := [.int 41]) (st := []) rfl rfl v_LM_takeSign (hS.1 0 _ rfl) rfl rfl rfl ⟨lh_bD (by omega), lh_bL (by omega)⟩ rfl (t_LM_takeSign hG hS e38 ?_)
                refine lh_goto rfl ?_
                exact lh_vret rfl rfl (by obtain rfl := Option.some.inj hf; exact hK)
            · have hf := lh_ifF hf c29
              refine lh_aload_n (q := 0) rfl rfl rfl ?_
              refine lh_iload_n (q := 1) rfl rfl rfl ?_
              refine lh_iconst rfl lh_k_1 ?_
              refine lh_iadd rfl ?_
              refine lh_bdE hf (fun r39 e40 hf => ?_)
              refine lh_cVv (N := m_LM_takePart) (d := D + 10) (o := 65) (As := [.int (x1 + 1)]) (st := []) rfl rfl v_LM_takePart (hS.1 0 _ rfl) rfl rfl rfl ⟨lh_bD (by omega), lh_bL (by omega)⟩ rfl (hg_LM_takePart e40 ?_)
              refine lh_aload_n (q := 0) rfl rfl rfl ?_
              refine lh_iconst rfl lh_k_3 ?_
              refine lh_iconst rfl lh_k_0 ?_
              refine lh_bdE hf (fun r41 e42 hf => ?_)
              refine lh_cVv (N := m_LM_emit) (d := 0) (o := 65) (As := [.int 3, .int 0]) (st := []) rfl rfl v_LM_emit (hS.1 0 _ rfl) rfl rfl rfl ⟨lh_bD (by omega), lh_bL (by omega)⟩ rfl (t_LM_emit hG hS e42 ?_)
              refine lh_goto rfl ?_
              exact lh_vret rfl rfl (by obtain rfl := Option.some.inj hf; exact hK)
          · have hf := lh_ifF hf c26
            exact lh_vret rfl rfl (by obtain rfl := Option.some.inj hf; exact hK)
      · have hf := lh_ifF hf c6
        refine lh_iload_n (q := 2) rfl rfl rfl ?_
        refine lh_if_ne rfl (fun c => absurd (by decide) c) (fun _ => ?_)
        refine lh_aload_n (q := 0) rfl rfl rfl ?_
        refine lh_bipush rfl lh_b_40 ?_
        refine lh_bdE hf (fun r43 e44 hf => ?_)
        refine lh_cVi (N := m_LM_isSign) (d := 0) (o := 65) (As := [.int 40]) (st := []) rfl rfl v_LM_isSign (hS.1 0 _ rfl) rfl rfl rfl ⟨lh_bD (by omega), lh_bL (by omega)⟩ rfl (t_LM_isSign hG hS e44 ?_)
        refine lh_if_ne rfl (fun c45 => ?_) (fun c45 => ?_)
        · have hf := lh_ifF hf c45
          refine lh_iload_n (q := 1) rfl rfl rfl ?_
          refine lh_iconst rfl lh_k_5 ?_
          refine lh_icmp_ne rfl (fun c46 => ?_) (fun c46 => ?_)
          · have hf := lh_ifF hf c46
            refine lh_aload_n (q := 0) rfl rfl rfl ?_
            refine lh_getI4 rfl rfl (hS.1 0 _ rfl) rfl ?_
            refine lh_if_le rfl (fun _ => ?_) (fun c => absurd c1 c)
            refine lh_aload_n (q := 0) rfl rfl rfl ?_
            refine lh_bipush rfl lh_b_20 ?_
            refine lh_bdE hf (fun r47 e48 hf => ?_)
            refine lh_cVi (N := m_LM_hasWord) (d := 1) (o := 65) (As := [.int 20]) (st := []) rfl rfl v_LM_hasWord (hS.1 0 _ rfl) rfl rfl rfl ⟨lh_bD (by omega), lh_bL (by omega)⟩ rfl (t_LM_hasWord hG hS e48 ?_)
            refine lh_if_eq rfl (fun c49 => ?_) (fun c49 => ?_)
            · have hf := lh_ifT hf c49
              refine lh_aload_n (q := 0) rfl rfl rfl ?_
              refine lh_bipush rfl lh_b_40 ?_
              refine lh_bdE hf (fun r50 e51 hf => ?_)
              refine lh_cVi (N := m_LM_hasSign) (d := 1) (o := 65) (As := [.int 40]) (st := []) rfl rfl v_LM_hasSign (hS.1 0 _ rfl) rfl rfl rfl ⟨lh_bD (by omega), lh_bL (by omega)⟩ rfl (t_LM_hasSign hG hS e51 ?_)
              refine lh_if_eq rfl (fun c52 => ?_) (fun c52 => ?_)
              · have hf := lh_ifT hf c52
                refine lh_aload_n (q := 0) rfl rfl rfl ?_
                refine lh_iload_n (q := 2) rfl rfl rfl ?_
                refine lh_if_eq rfl (fun _ => ?_) (fun c => absurd (by decide) c) 
                refine lh_iconst rfl lh_k_2 ?_
                refine lh_iload_n (q := 2) rfl rfl rfl ?_
                refine lh_if_eq rfl (fun _ => ?_) (fun c => absurd (by decide) c) 
                refine lh_iload_n (q := 3) rfl rfl rfl ?_
                refine lh_bdE hf (fun r53 e54 hf => ?_)
                refine lh_cVv (N := m_LM_emit) (d := 0) (o := 65) (As := [.int 2, .int r4]) (st := []) rfl rfl v_LM_emit (hS.1 0 _ rfl) rfl rfl rfl ⟨lh_bD (by omega), lh_bL (by omega)⟩ rfl (t_LM_emit hG hS e54 ?_)
                refine lh_aload_n (q := 0) rfl rfl rfl ?_
                refine lh_dup rfl rfl ?_
                refine lh_getI4 rfl rfl (hS.1 0 _ rfl) rfl ?_
                refine lh_iconst rfl lh_k_1 ?_
                refine lh_iadd rfl ?_
                refine lh_putI4 rfl rfl (hS.1 0 _ rfl) rfl rfl ?_
                exact lh_vret rfl rfl (by obtain rfl := Option.some.inj hf; exact hK)
              · have hf := lh_ifF hf c52
                refine lh_aload_n (q := 0) rfl rfl rfl ?_
                refine lh_iload_n (q := 1) rfl rfl rfl ?_
                refine lh_iconst rfl lh_k_1 ?_
                refine lh_iadd rfl ?_
                refine lh_bdE hf (fun r55 e56 hf => ?_)
                refine lh_cVv (N := m_LM_whole) (d := D + 10) (o := 65) (As := [.int (x1 + 1)]) (st := []) rfl rfl v_LM_whole (hS.1 0 _ rfl) rfl rfl rfl ⟨lh_bD (by omega), lh_bL (by omega)⟩ rfl (hg_LM_whole e56 ?_)
                refine lh_aload_n (q := 0) rfl rfl rfl ?_
                refine lh_bipush rfl lh_b_41 ?_
                refine lh_bdE hf (fun r57 e58 hf => ?_)
                refine lh_cVv (N := m_LM_takeSign) (d := 1) (o := 65) (As := [.int 41]) (st := []) rfl rfl v_LM_takeSign (hS.1 0 _ rfl) rfl rfl rfl ⟨lh_bD (by omega), lh_bL (by omega)⟩ rfl (t_LM_takeSign hG hS e58 ?_)
                refine lh_goto rfl ?_
                exact lh_vret rfl rfl (by obtain rfl := Option.some.inj hf; exact hK)
            · have hf := lh_ifF hf c49
              refine lh_aload_n (q := 0) rfl rfl rfl ?_
              refine lh_iload_n (q := 1) rfl rfl rfl ?_
              refine lh_iconst rfl lh_k_1 ?_
              refine lh_iadd rfl ?_
              refine lh_bdE hf (fun r59 e60 hf => ?_)
              refine lh_cVv (N := m_LM_takePart) (d := D + 10) (o := 65) (As := [.int (x1 + 1)]) (st := []) rfl rfl v_LM_takePart (hS.1 0 _ rfl) rfl rfl rfl ⟨lh_bD (by omega), lh_bL (by omega)⟩ rfl (hg_LM_takePart e60 ?_)
              refine lh_aload_n (q := 0) rfl rfl rfl ?_
              refine lh_iconst rfl lh_k_3 ?_
              refine lh_iconst rfl lh_k_0 ?_
              refine lh_bdE hf (fun r61 e62 hf => ?_)
              refine lh_cVv (N := m_LM_emit) (d := 0) (o := 65) (As := [.int 3, .int 0]) (st := []) rfl rfl v_LM_emit (hS.1 0 _ rfl) rfl rfl rfl ⟨lh_bD (by omega), lh_bL (by omega)⟩ rfl (t_LM_emit hG hS e62 ?_)
              refine lh_goto rfl ?_
              exact lh_vret rfl rfl (by obtain rfl := Option.some.inj hf; exact hK)
          · have hf := lh_ifT hf c46
            refine lh_aload_n (q := 0) rfl rfl rfl ?_
            refine lh_iconst rfl lh_k_5 ?_
            refine lh_bdE hf (fun r63 e64 hf => ?_)
            refine lh_cVv (N := m_LM_wrong) (d := 0) (o := 65) (As := [.int 5]) (st := []) rfl rfl v_LM_wrong (hS.1 0 _ rfl) rfl rfl rfl ⟨lh_bD (by omega), lh_bL (by omega)⟩ rfl (t_LM_wrong hG hS e64 ?_)
            refine lh_aload_n (q := 0) rfl rfl rfl ?_
            refine lh_getI4 rfl rfl (hS.1 0 _ rfl) rfl ?_
            refine lh_if_le rfl (fun c65 => ?_) (fun c65 => ?_)
            · have hf := lh_ifT hf c65
              refine lh_aload_n (q := 0) rfl rfl rfl ?_
              refine lh_bipush rfl lh_b_20 ?_
              refine lh_bdE hf (fun r66 e67 hf => ?_)
              refine lh_cVi (N := m_LM_hasWord) (d := 1) (o := 65) (As := [.int 20]) (st := []) rfl rfl v_LM_hasWord (hS.1 0 _ rfl) rfl rfl rfl ⟨lh_bD (by omega), lh_bL (by omega)⟩ rfl (t_LM_hasWord hG hS e67 ?_)
              refine lh_if_eq rfl (fun c68 => ?_) (fun c68 => ?_)
              · have hf := lh_ifT hf c68
                refine lh_aload_n (q := 0) rfl rfl rfl ?_
                refine lh_bipush rfl lh_b_40 ?_
                refine lh_bdE hf (fun r69 e70 hf => ?_)
                refine lh_cVi (N := m_LM_hasSign) (d := 1) (o := 65) (As := [.int 40]) (st := []) rfl rfl v_LM_hasSign (hS.1 0 _ rfl) rfl rfl rfl ⟨lh_bD (by omega), lh_bL (by omega)⟩ rfl (t_LM_hasSign hG hS e70 ?_)
                refine lh_if_eq rfl (fun c71 => ?_) (fun c71 => ?_)
                · have hf := lh_ifT hf c71
                  refine lh_aload_n (q := 0) rfl rfl rfl ?_
                  refine lh_iload_n (q := 2) rfl rfl rfl ?_
                  refine lh_if_eq rfl (fun _ => ?_) (fun c => absurd (by decide) c) 
                  refine lh_iconst rfl lh_k_2 ?_
                  refine lh_iload_n (q := 2) rfl rfl rfl ?_
                  refine lh_if_eq rfl (fun _ => ?_) (fun c => absurd (by decide) c) 
                  refine lh_iload_n (q := 3) rfl rfl rfl ?_
                  refine lh_bdE hf (fun r72 e73 hf => ?_)
                  refine lh_cVv (N := m_LM_emit) (d := 0) (o := 65) (As := [.int 2, .int r4]) (st := []) rfl rfl v_LM_emit (hS.1 0 _ rfl) rfl rfl rfl ⟨lh_bD (by omega), lh_bL (by omega)⟩ rfl (t_LM_emit hG hS e73 ?_)
                  refine lh_aload_n (q := 0) rfl rfl rfl ?_
                  refine lh_dup rfl rfl ?_
                  refine lh_getI4 rfl rfl (hS.1 0 _ rfl) rfl ?_
                  refine lh_iconst rfl lh_k_1 ?_
                  refine lh_iadd rfl ?_
                  refine lh_putI4 rfl rfl (hS.1 0 _ rfl) rfl rfl ?_
                  exact lh_vret rfl rfl (by obtain rfl := Option.some.inj hf; exact hK)
                · have hf := lh_ifF hf c71
                  refine lh_aload_n (q := 0) rfl rfl rfl ?_
                  refine lh_iload_n (q := 1) rfl rfl rfl ?_
                  refine lh_iconst rfl lh_k_1 ?_
                  refine lh_iadd rfl ?_
                  refine lh_bdE hf (fun r74 e75 hf => ?_)
                  refine lh_cVv (N := m_LM_whole) (d := D + 10) (o := 65) (As := [.int (x1 + 1)]) (st := []) rfl rfl v_LM_whole (hS.1 0 _ rfl) rfl rfl rfl ⟨lh_bD (by omega), lh_bL (by omega)⟩ rfl (hg_LM_whole e75 ?_)
                  refine lh_aload_n (q := 0) rfl rfl rfl ?_
                  refine lh_bipush rfl lh_b_41 ?_
                  refine lh_bdE hf (fun r76 e77 hf => ?_)
                  refine lh_cVv (N := m_LM_takeSign) (d := 1) (o := 65) (As := [.int 41]) (st := []) rfl rfl v_LM_takeSign (hS.1 0 _ rfl) rfl rfl rfl ⟨lh_bD (by omega), lh_bL (by omega)⟩ rfl (t_LM_takeSign hG hS e77 ?_)
                  refine lh_goto rfl ?_
                  exact lh_vret rfl rfl (by obtain rfl := Option.some.inj hf; exact hK)
              · have hf := lh_ifF hf c68
                refine lh_aload_n (q := 0) rfl rfl rfl ?_
                refine lh_iload_n (q := 1) rfl rfl rfl ?_
                refine lh_iconst rfl lh_k_1 ?_
                refine lh_iadd rfl ?_
                refine lh_bdE hf (fun r78 e79 hf => ?_)
                refine lh_cVv (N := m_LM_takePart) (d := D + 10) (o := 65) (As := [.int (x1 + 1)]) (st := []) rfl rfl v_LM_takePart (hS.1 0 _ rfl) rfl rfl rfl ⟨lh_bD (by omega), lh_bL (by omega)⟩ rfl (hg_LM_takePart e79 ?_)
                refine lh_aload_n (q := 0) rfl rfl rfl ?_
                refine lh_iconst rfl lh_k_3 ?_
                refine lh_iconst rfl lh_k_0 ?_
                refine lh_bdE hf (fun r80 e81 hf => ?_)
                refine lh_cVv (N := m_LM_emit) (d := 0) (o := 65) (As := [.int 3, .int 0]) (st := []) rfl rfl v_LM_emit (hS.1 0 _ rfl) rfl rfl rfl ⟨lh_bD (by omega), lh_bL (by omega)⟩ rfl (t_LM_emit hG hS e81 ?_)
                refine lh_goto rfl ?_
                exact lh_vret rfl rfl (by obtain rfl := Option.some.inj hf; exact hK)
            · have hf := lh_ifF hf c65
              exact lh_vret rfl rfl (by obtain rfl := Option.some.inj hf; exact hK)
        · have hf := lh_ifT hf c45
          refine lh_aload_n (q := 0) rfl rfl rfl ?_
          refine lh_bipush rfl lh_b_20 ?_
          refine lh_bdE hf (fun r82 e83 hf => ?_)
          refine lh_cVi (N := m_LM_isWord) (d := 0) (o := 65) (As := [.int 20]) (st := []) rfl rfl v_LM_isWord (hS.1 0 _ rfl) rfl rfl rfl ⟨lh_bD (by omega), lh_bL (by omega)⟩ rfl (t_LM_isWord hG hS e83 ?_)
          refine lh_if_ne rfl (fun c84 => ?_) (fun c84 => ?_)
          · have hf := lh_ifF hf c84
            refine lh_iload_n (q := 1) rfl rfl rfl ?_
            refine lh_iconst rfl lh_k_5 ?_
            refine lh_icmp_ne rfl (fun c85 => ?_) (fun c85 => ?_)
            · have hf := lh_ifF hf c85
              refine lh_aload_n (q := 0) rfl rfl rfl ?_
              refine lh_getI4 rfl rfl (hS.1 0 _ rfl) rfl ?_
              refine lh_if_le rfl (fun _ => ?_) (fun c => absurd c1 c)
              refine lh_aload_n (q := 0) rfl rfl rfl ?_
              refine lh_bipush rfl lh_b_20 ?_
              refine lh_bdE hf (fun r86 e87 hf => ?_)
              refine lh_cVi (N := m_LM_hasWord) (d := 1) (o := 65) (As := [.int 20]) (st := []) rfl rfl v_LM_hasWord (hS.1 0 _ rfl) rfl rfl rfl ⟨lh_bD (by omega), lh_bL (by omega)⟩ rfl (t_LM_hasWord hG hS e87 ?_)
              refine lh_if_eq rfl (fun c88 => ?_) (fun c88 => ?_)
              · have hf := lh_ifT hf c88
                refine lh_aload_n (q := 0) rfl rfl rfl ?_
                refine lh_bipush rfl lh_b_40 ?_
                refine lh_bdE hf (fun r89 e90 hf => ?_)
                refine lh_cVi (N := m_LM_hasSign) (d := 1) (o := 65) (As := [.int 40]) (st := []) rfl rfl v_LM_hasSign (hS.1 0 _ rfl) rfl rfl rfl ⟨lh_bD (by omega), lh_bL (by omega)⟩ rfl (t_LM_hasSign hG hS e90 ?_)
                refine lh_if_eq rfl (fun c91 => ?_) (fun c91 => ?_)
                · have hf := lh_ifT hf c91
                  refine lh_aload_n (q := 0) rfl rfl rfl ?_
                  refine lh_iload_n (q := 2) rfl rfl rfl ?_
                  refine lh_if_eq rfl (fun _ => ?_) (fun c => absurd (by decide) c) 
                  refine lh_iconst rfl lh_k_2 ?_
                  refine lh_iload_n (q := 2) rfl rfl rfl ?_
                  refine lh_if_eq rfl (fun _ => ?_) (fun c => absurd (by decide) c) 
                  refine lh_iload_n (q := 3) rfl rfl rfl ?_
                  refine lh_bdE hf (fun r92 e93 hf => ?_)
                  refine lh_cVv (N := m_LM_emit) (d := 0) (o := 65) (As := [.int 2, .int r4]) (st := []) rfl rfl v_LM_emit (hS.1 0 _ rfl) rfl rfl rfl ⟨lh_bD (by omega), lh_bL (by omega)⟩ rfl (t_LM_emit hG hS e93 ?_)
                  refine lh_aload_n (q := 0) rfl rfl rfl ?_
                  refine lh_dup rfl rfl ?_
                  refine lh_getI4 rfl rfl (hS.1 0 _ rfl) rfl ?_
                  refine lh_iconst rfl lh_k_1 ?_
                  refine lh_iadd rfl ?_
                  refine lh_putI4 rfl rfl (hS.1 0 _ rfl) rfl rfl ?_
                  exact lh_vret rfl rfl (by obtain rfl := Option.some.inj hf; exact hK)
                · have hf := lh_ifF hf c91
                  refine lh_aload_n (q := 0) rfl rfl rfl ?_
                  refine lh_iload_n (q := 1) rfl rfl rfl ?_
                  refine lh_iconst rfl lh_k_1 ?_
                  refine lh_iadd rfl ?_
                  refine lh_bdE hf (fun r94 e95 hf => ?_)
                  refine lh_cVv (N := m_LM_whole) (d := D + 10) (o := 65) (As := [.int (x1 + 1)]) (st := []) rfl rfl v_LM_whole (hS.1 0 _ rfl) rfl rfl rfl ⟨lh_bD (by omega), lh_bL (by omega)⟩ rfl (hg_LM_whole e95 ?_)
                  refine lh_aload_n (q := 0) rfl rfl rfl ?_
                  refine lh_bipush rfl lh_b_41 ?_
                  refine lh_bdE hf (fun r96 e97 hf => ?_)
                  refine lh_cVv (N := m_LM_takeSign) (d := 1) (o := 65) (As := [.int 41]) (st := []) rfl rfl v_LM_takeSign (hS.1 0 _ rfl) rfl rfl rfl ⟨lh_bD (by omega), lh_bL (by omega)⟩ rfl (t_LM_takeSign hG hS e97 ?_)
                  refine lh_goto rfl ?_
                  exact lh_vret rfl rfl (by obtain rfl := Option.some.inj hf; exact hK)
              · have hf := lh_ifF hf c88
                refine lh_aload_n (q := 0) rfl rfl rfl ?_
                refine lh_iload_n (q := 1) rfl rfl rfl ?_
                refine lh_iconst rfl lh_k_1 ?_
                refine lh_iadd rfl ?_
                refine lh_bdE hf (fun r98 e99 hf => ?_)
                refine lh_cVv (N := m_LM_takePart) (d := D + 10) (o := 65) (As := [.int (x1 + 1)]) (st := []) rfl rfl v_LM_takePart (hS.1 0 _ rfl) rfl rfl rfl ⟨lh_bD (by omega), lh_bL (by omega)⟩ rfl (hg_LM_takePart e99 ?_)
                refine lh_aload_n (q := 0) rfl rfl rfl ?_
                refine lh_iconst rfl lh_k_3 ?_
                refine lh_iconst rfl lh_k_0 ?_
                refine lh_bdE hf (fun r100 e101 hf => ?_)
                refine lh_cVv (N := m_LM_emit) (d := 0) (o := 65) (As := [.int 3, .int 0]) (st := []) rfl rfl v_LM_emit (hS.1 0 _ rfl) rfl rfl rfl ⟨lh_bD (by omega), lh_bL (by omega)⟩ rfl (t_LM_emit hG hS e101 ?_)
                refine lh_goto rfl ?_
                exact lh_vret rfl rfl (by obtain rfl := Option.some.inj hf; exact hK)
            · have hf := lh_ifT hf c85
              refine lh_aload_n (q := 0) rfl rfl rfl ?_
              refine lh_iconst rfl lh_k_5 ?_
              refine lh_bdE hf (fun r102 e103 hf => ?_)
              refine lh_cVv (N := m_LM_wrong) (d := 0) (o := 65) (As := [.int 5]) (st := []) rfl rfl v_LM_wrong (hS.1 0 _ rfl) rfl rfl rfl ⟨lh_bD (by omega), lh_bL (by omega)⟩ rfl (t_LM_wrong hG hS e103 ?_)
              refine lh_aload_n (q := 0) rfl rfl rfl ?_
              refine lh_getI4 rfl rfl (hS.1 0 _ rfl) rfl ?_
              refine lh_if_le rfl (fun c104 => ?_) (fun c104 => ?_)
              · have hf := lh_ifT hf c104
                refine lh_aload_n (q := 0) rfl rfl rfl ?_
                refine lh_bipush rfl lh_b_20 ?_
                refine lh_bdE hf (fun r105 e106 hf => ?_)
                refine lh_cVi (N := m_LM_hasWord) (d := 1) (o := 65) (As := [.int 20]) (st := []) rfl rfl v_LM_hasWord (hS.1 0 _ rfl) rfl rfl rfl ⟨lh_bD (by omega), lh_bL (by omega)⟩ rfl (t_LM_hasWord hG hS e106 ?_)
                refine lh_if_eq rfl (fun c107 => ?_) (fun c107 => ?_)
                · have hf := lh_ifT hf c107
                  refine lh_aload_n (q := 0) rfl rfl rfl ?_
                  refine lh_bipush rfl lh_b_40 ?_
                  refine lh_bdE hf (fun r108 e109 hf => ?_)
                  refine lh_cVi (N := m_LM_hasSign) (d := 1) (o := 65) (As := [.int 40]) (st := []) rfl rfl v_LM_hasSign (hS.1 0 _ rfl) rfl rfl rfl ⟨lh_bD (by omega), lh_bL (by omega)⟩ rfl (t_LM_hasSign hG hS e109 ?_)
                  refine lh_if_eq rfl (fun c110 => ?_) (fun c110 => ?_)
                  · have hf := lh_ifT hf c110
                    refine lh_aload_n (q := 0) rfl rfl rfl ?_
                    refine lh_iload_n (q := 2) rfl rfl rfl ?_
                    refine lh_if_eq rfl (fun _ => ?_) (fun c => absurd (by decide) c) 
                    refine lh_iconst rfl lh_k_2 ?_
                    refine lh_iload_n (q := 2) rfl rfl rfl ?_
                    refine lh_if_eq rfl (fun _ => ?_) (fun c => absurd (by decide) c) 
                    refine lh_iload_n (q := 3) rfl rfl rfl ?_
                    refine lh_bdE hf (fun r111 e112 hf => ?_)
                    refine lh_cVv (N := m_LM_emit) (d := 0) (o := 65) (As := [.int 2, .int r4]) (st := []) rfl rfl v_LM_emit (hS.1 0 _ rfl) rfl rfl rfl ⟨lh_bD (by omega), lh_bL (by omega)⟩ rfl (t_LM_emit hG hS e112 ?_)
                    refine lh_aload_n (q := 0) rfl rfl rfl ?_
                    refine lh_dup rfl rfl ?_
                    refine lh_getI4 rfl rfl (hS.1 0 _ rfl) rfl ?_
                    refine lh_iconst rfl lh_k_1 ?_
                    refine lh_iadd rfl ?_
                    refine lh_putI4 rfl rfl (hS.1 0 _ rfl) rfl rfl ?_
                    exact lh_vret rfl rfl (by obtain rfl := Option.some.inj hf; exact hK)
                  · have hf := lh_ifF hf c110
                    refine lh_aload_n (q := 0) rfl rfl rfl ?_
                    refine lh_iload_n (q := 1) rfl rfl rfl ?_
                    refine lh_iconst rfl lh_k_1 ?_
                    refine lh_iadd rfl ?_
                    refine lh_bdE hf (fun r113 e114 hf => ?_)
                    refine lh_cVv (N := m_LM_whole) (d := D + 10) (o := 65) (As := [.int (x1 + 1)]) (st := []) rfl rfl v_LM_whole (hS.1 0 _ rfl) rfl rfl rfl ⟨lh_bD (by omega), lh_bL (by omega)⟩ rfl (hg_LM_whole e114 ?_)
                    refine lh_aload_n (q := 0) rfl rfl rfl ?_
                    refine lh_bipush rfl lh_b_41 ?_
                    refine lh_bdE hf (fun r115 e116 hf => ?_)
                    refine lh_cVv (N := m_LM_takeSign) (d := 1) (o := 65) (As := [.int 41]) (st := []) rfl rfl v_LM_takeSign (hS.1 0 _ rfl) rfl rfl rfl ⟨lh_bD (by omega), lh_bL (by omega)⟩ rfl (t_LM_takeSign hG hS e116 ?_)
                    refine lh_goto rfl ?_
                    exact lh_vret rfl rfl (by obtain rfl := Option.some.inj hf; exact hK)
                · have hf := lh_ifF hf c107
                  refine lh_aload_n (q := 0) rfl rfl rfl ?_
                  refine lh_iload_n (q := 1) rfl rfl rfl ?_
                  refine lh_iconst rfl lh_k_1 ?_
                  refine lh_iadd rfl ?_
                  refine lh_bdE hf (fun r117 e118 hf => ?_)
                  refine lh_cVv (N := m_LM_takePart) (d := D + 10) (o := 65) (As := [.int (x1 + 1)]) (st := []) rfl rfl v_LM_takePart (hS.1 0 _ rfl) rfl rfl rfl ⟨lh_bD (by omega), lh_bL (by omega)⟩ rfl (hg_LM_takePart e118 ?_)
                  refine lh_aload_n (q := 0) rfl rfl rfl ?_
                  refine lh_iconst rfl lh_k_3 ?_
                  refine lh_iconst rfl lh_k_0 ?_
                  refine lh_bdE hf (fun r119 e120 hf => ?_)
                  refine lh_cVv (N := m_LM_emit) (d := 0) (o := 65) (As := [.int 3, .int 0]) (st := []) rfl rfl v_LM_emit (hS.1 0 _ rfl) rfl rfl rfl ⟨lh_bD (by omega), lh_bL (by omega)⟩ rfl (t_LM_emit hG hS e120 ?_)
                  refine lh_goto rfl ?_
                  exact lh_vret rfl rfl (by obtain rfl := Option.some.inj hf; exact hK)
              · have hf := lh_ifF hf c104
                exact lh_vret rfl rfl (by obtain rfl := Option.some.inj hf; exact hK)
          · have hf := lh_ifT hf c84
            refine lh_aload_n (q := 0) rfl rfl rfl ?_
            refine lh_iconst rfl lh_k_1 ?_
            refine lh_bdE hf (fun r121 e122 hf => ?_)
            refine lh_cVv (N := m_LM_wrong) (d := 0) (o := 65) (As := [.int 1]) (st := []) rfl rfl v_LM_wrong (hS.1 0 _ rfl) rfl rfl rfl ⟨lh_bD (by omega), lh_bL (by omega)⟩ rfl (t_LM_wrong hG hS e122 ?_)
            refine lh_goto rfl ?_
            refine lh_aload_n (q := 0) rfl rfl rfl ?_
            refine lh_getI4 rfl rfl (hS.1 0 _ rfl) rfl ?_
            refine lh_if_le rfl (fun c123 => ?_) (fun c123 => ?_)
            · have hf := lh_ifT hf c123
              refine lh_aload_n (q := 0) rfl rfl rfl ?_
              refine lh_bipush rfl lh_b_20 ?_
              refine lh_bdE hf (fun r124 e125 hf => ?_)
              refine lh_cVi (N := m_LM_hasWord) (d := 1) (o := 65) (As := [.int 20]) (st := []) rfl rfl v_LM_hasWord (hS.1 0 _ rfl) rfl rfl rfl ⟨lh_bD (by omega), lh_bL (by omega)⟩ rfl (t_LM_hasWord hG hS e125 ?_)
              refine lh_if_eq rfl (fun c126 => ?_) (fun c126 => ?_)
              · have hf := lh_ifT hf c126
                refine lh_aload_n (q := 0) rfl rfl rfl ?_
                refine lh_bipush rfl lh_b_40 ?_
                refine lh_bdE hf (fun r127 e128 hf => ?_)
                refine lh_cVi (N := m_LM_hasSign) (d := 1) (o := 65) (As := [.int 40]) (st := []) rfl rfl v_LM_hasSign (hS.1 0 _ rfl) rfl rfl rfl ⟨lh_bD (by omega), lh_bL (by omega)⟩ rfl (t_LM_hasSign hG hS e128 ?_)
                refine lh_if_eq rfl (fun c129 => ?_) (fun c129 => ?_)
                · have hf := lh_ifT hf c129
                  refine lh_aload_n (q := 0) rfl rfl rfl ?_
                  refine lh_iload_n (q := 2) rfl rfl rfl ?_
                  refine lh_if_eq rfl (fun _ => ?_) (fun c => absurd (by decide) c) 
                  refine lh_iconst rfl lh_k_2 ?_
                  refine lh_iload_n (q := 2) rfl rfl rfl ?_
                  refine lh_if_eq rfl (fun _ => ?_) (fun c => absurd (by decide) c) 
                  refine lh_iload_n (q := 3) rfl rfl rfl ?_
                  refine lh_bdE hf (fun r130 e131 hf => ?_)
                  refine lh_cVv (N := m_LM_emit) (d := 0) (o := 65) (As := [.int 2, .int r4]) (st := []) rfl rfl v_LM_emit (hS.1 0 _ rfl) rfl rfl rfl ⟨lh_bD (by omega), lh_bL (by omega)⟩ rfl (t_LM_emit hG hS e131 ?_)
                  refine lh_aload_n (q := 0) rfl rfl rfl ?_
                  refine lh_dup rfl rfl ?_
                  refine lh_getI4 rfl rfl (hS.1 0 _ rfl) rfl ?_
                  refine lh_iconst rfl lh_k_1 ?_
                  refine lh_iadd rfl ?_
                  refine lh_putI4 rfl rfl (hS.1 0 _ rfl) rfl rfl ?_
                  exact lh_vret rfl rfl (by obtain rfl := Option.some.inj hf; exact hK)
                · have hf := lh_ifF hf c129
                  refine lh_aload_n (q := 0) rfl rfl rfl ?_
                  refine lh_iload_n (q := 1) rfl rfl rfl ?_
                  refine lh_iconst rfl lh_k_1 ?_
                  refine lh_iadd rfl ?_
                  refine lh_bdE hf (fun r132 e133 hf => ?_)
                  refine lh_cVv (N := m_LM_whole) (d := D + 10) (o := 65) (As := [.int (x1 + 1)]) (st := []) rfl rfl v_LM_whole (hS.1 0 _ rfl) rfl rfl rfl ⟨lh_bD (by omega), lh_bL (by omega)⟩ rfl (hg_LM_whole e133 ?_)
                  refine lh_aload_n (q := 0) rfl rfl rfl ?_
                  refine lh_bipush rfl lh_b_41 ?_
                  refine lh_bdE hf (fun r134 e135 hf => ?_)
                  refine lh_cVv (N := m_LM_takeSign) (d := 1) (o := 65) (As := [.int 41]) (st := []) rfl rfl v_LM_takeSign (hS.1 0 _ rfl) rfl rfl rfl ⟨lh_bD (by omega), lh_bL (by omega)⟩ rfl (t_LM_takeSign hG hS e135 ?_)
                  refine lh_goto rfl ?_
                  exact lh_vret rfl rfl (by obtain rfl := Option.some.inj hf; exact hK)
              · have hf := lh_ifF hf c126
                refine lh_aload_n (q := 0) rfl rfl rfl ?_
                refine lh_iload_n (q := 1) rfl rfl rfl ?_
                refine lh_iconst rfl lh_k_1 ?_
                refine lh_iadd rfl ?_
                refine lh_bdE hf (fun r136 e137 hf => ?_)
                refine lh_cVv (N := m_LM_takePart) (d := D + 10) (o := 65) (As := [.int (x1 + 1)]) (st := []) rfl rfl v_LM_takePart (hS.1 0 _ rfl) rfl rfl rfl ⟨lh_bD (by omega), lh_bL (by omega)⟩ rfl (hg_LM_takePart e137 ?_)
                refine lh_aload_n (q := 0) rfl rfl rfl ?_
                refine lh_iconst rfl lh_k_3 ?_
                refine lh_iconst rfl lh_k_0 ?_
                refine lh_bdE hf (fun r138 e139 hf => ?_)
                refine lh_cVv (N := m_LM_emit) (d := 0) (o := 65) (As := [.int 3, .int 0]) (st := []) rfl rfl v_LM_emit (hS.1 0 _ rfl) rfl rfl rfl ⟨lh_bD (by omega), lh_bL (by omega)⟩ rfl (t_LM_emit hG hS e139 ?_)
                refine lh_goto rfl ?_
                exact lh_vret rfl rfl (by obtain rfl := Option.some.inj hf; exact hK)
            · have hf := lh_ifF hf c123
              exact lh_vret rfl rfl (by obtain rfl := Option.some.inj hf; exact hK)
    · have hf := lh_ifT hf c3
      refine lh_iconst rfl lh_k_1 ?_
      refine lh_goto rfl ?_
      refine lh_istore_n (lv' := [(0, .ref (65 + 4)), (1, .int x1), (2, .int 1)]) rfl rfl rfl rfl ?_
      refine lh_aload_n (q := 0) rfl rfl rfl ?_
      refine lh_bipush rfl lh_b_23 ?_
      refine lh_iconst rfl lh_k_4 ?_
      refine lh_bdE hf (fun r140 e141 hf => ?_)
      refine lh_cVi (N := m_LM_wordHere) (d := 1) (o := 65) (As := [.int 23, .int 4]) (st := []) rfl rfl v_LM_wordHere (hS.1 0 _ rfl) rfl rfl rfl ⟨lh_bD (by omega), lh_bL (by omega)⟩ rfl (t_LM_wordHere hG hS e141 ?_)
      refine lh_istore_n (lv' := [(0, .ref (65 + 4)), (1, .int x1), (2, .int 1), (3, .int r140)]) rfl rfl rfl rfl ?_
      refine lh_iload_n (q := 3) rfl rfl rfl ?_
      refine lh_if_ge rfl (fun c142 => ?_) (fun c142 => ?_)
      · have hf := lh_ifT hf c142
        refine lh_iload_n (q := 1) rfl rfl rfl ?_
        refine lh_iconst rfl lh_k_5 ?_
        refine lh_icmp_ne rfl (fun c143 => ?_) (fun c143 => ?_)
        · have hf := lh_ifF hf c143
          refine lh_aload_n (q := 0) rfl rfl rfl ?_
          refine lh_getI4 rfl rfl (hS.1 0 _ rfl) rfl ?_
          refine lh_if_le rfl (fun _ => ?_) (fun c => absurd c1 c)
          refine lh_aload_n (q := 0) rfl rfl rfl ?_
          refine lh_bipush rfl lh_b_20 ?_
          refine lh_bdE hf (fun r144 e145 hf => ?_)
          refine lh_cVi (N := m_LM_hasWord) (d := 1) (o := 65) (As := [.int 20]) (st := []) rfl rfl v_LM_hasWord (hS.1 0 _ rfl) rfl rfl rfl ⟨lh_bD (by omega), lh_bL (by omega)⟩ rfl (t_LM_hasWord hG hS e145 ?_)
          refine lh_if_eq rfl (fun c146 => ?_) (fun c146 => ?_)
          · have hf := lh_ifT hf c146
            refine lh_aload_n (q := 0) rfl rfl rfl ?_
            refine lh_bipush rfl lh_b_40 ?_
            refine lh_bdE hf (fun r147 e148 hf => ?_)
            refine lh_cVi (N := m_LM_hasSign) (d := 1) (o := 65) (As := [.int 40]) (st := []) rfl rfl v_LM_hasSign (hS.1 0 _ rfl) rfl rfl rfl ⟨lh_bD (by omega), lh_bL (by omega)⟩ rfl (t_LM_hasSign hG hS e148 ?_)
            refine lh_if_eq rfl (fun c149 => ?_) (fun c149 => ?_)
            · have hf := lh_ifT hf c149
              refine lh_aload_n (q := 0) rfl rfl rfl ?_
              refine lh_iload_n (q := 2) rfl rfl rfl ?_
              refine lh_if_eq rfl (fun c => absurd c (by decide)) (fun _ => ?_)
              refine lh_iconst rfl lh_k_1 ?_
              refine lh_goto rfl ?_
              refine lh_iload_n (q := 2) rfl rfl rfl ?_
              refine lh_if_eq rfl (fun c => absurd c (by decide)) (fun _ => ?_)
              refine lh_aload_n (q := 0) rfl rfl rfl ?_
              refine lh_getR4 rfl rfl (hS.1 0 _ rfl) rfl (hS.2 3 _ rfl) ?_
              refine lh_aload_n (q := 0) rfl rfl rfl ?_
              refine lh_getI4 rfl rfl (hS.1 0 _ rfl) rfl ?_
              obtain ⟨g150, hf⟩ := lh_gdE hf
              refine lh_lald4 rfl (hS.1 4 _ rfl) g150 ?_
              refine lh_l2i rfl ?_
              refine lh_goto rfl ?_
              refine lh_bdE hf (fun r151 e152 hf => ?_)
              refine lh_cVv (N := m_LM_emit) (d := 0) (o := 65) (As := [.int 1, .int ((L (69 + 4) (r147.2 (65 + 4) 7).toNatClampNeg).toInt32)]) (st := []) rfl rfl v_LM_emit (hS.1 0 _ rfl) rfl rfl rfl ⟨lh_bD (by omega), lh_bL (by omega)⟩ rfl (t_LM_emit hG hS e152 ?_)
              refine lh_aload_n (q := 0) rfl rfl rfl ?_
              refine lh_dup rfl rfl ?_
              refine lh_getI4 rfl rfl (hS.1 0 _ rfl) rfl ?_
              refine lh_iconst rfl lh_k_1 ?_
              refine lh_iadd rfl ?_
              refine lh_putI4 rfl rfl (hS.1 0 _ rfl) rfl rfl ?_
              exact lh_vret rfl rfl (by obtain rfl := Option.some.inj hf; exact hK)
            · have hf := lh_ifF hf c149
              refine lh_aload_n (q := 0) rfl rfl rfl ?_
              refine lh_iload_n (q := 1) rfl rfl rfl ?_
              refine lh_iconst rfl lh_k_1 ?_
              refine lh_iadd rfl ?_
              refine lh_bdE hf (fun r153 e154 hf => ?_)
              refine lh_cVv (N := m_LM_whole) (d := D + 10) (o := 65) (As := [.int (x1 + 1)]) (st := []) rfl rfl v_LM_whole (hS.1 0 _ rfl) rfl rfl rfl ⟨lh_bD (by omega), lh_bL (by omega)⟩ rfl (hg_LM_whole e154 ?_)
              refine lh_aload_n (q := 0) rfl rfl rfl ?_
              refine lh_bipush rfl lh_b_41 ?_
              refine lh_bdE hf (fun r155 e156 hf => ?_)
              refine lh_cVv (N := m_LM_takeSign) (d := 1) (o := 65) (As := [.int 41]) (st := []) rfl rfl v_LM_takeSign (hS.1 0 _ rfl) rfl rfl rfl ⟨lh_bD (by omega), lh_bL (by omega)⟩ rfl (t_LM_takeSign hG hS e156 ?_)
              refine lh_goto rfl ?_
              exact lh_vret rfl rfl (by obtain rfl := Option.some.inj hf; exact hK)
          · have hf := lh_ifF hf c146
            refine lh_aload_n (q := 0) rfl rfl rfl ?_
            refine lh_iload_n (q := 1) rfl rfl rfl ?_
            refine lh_iconst rfl lh_k_1 ?_
            refine lh_iadd rfl ?_
            refine lh_bdE hf (fun r157 e158 hf => ?_)
            refine lh_cVv (N := m_LM_takePart) (d := D + 10) (o := 65) (As := [.int (x1 + 1)]) (st := []) rfl rfl v_LM_takePart (hS.1 0 _ rfl) rfl rfl rfl ⟨lh_bD (by omega), lh_bL (by omega)⟩ rfl (hg_LM_takePart e158 ?_)
            refine lh_aload_n (q := 0) rfl rfl rfl ?_
            refine lh_iconst rfl lh_k_3 ?_
            refine lh_iconst rfl lh_k_0 ?_
            refine lh_bdE hf (fun r159 e160 hf => ?_)
            refine lh_cVv (N := m_LM_emit) (d := 0) (o := 65) (As := [.int 3, .int 0]) (st := []) rfl rfl v_LM_emit (hS.1 0 _ rfl) rfl rfl rfl ⟨lh_bD (by omega), lh_bL (by omega)⟩ rfl (t_LM_emit hG hS e160 ?_)
            refine lh_goto rfl ?_
            exact lh_vret rfl rfl (by obtain rfl := Option.some.inj hf; exact hK)
        · have hf := lh_ifT hf c143
          refine lh_aload_n (q := 0) rfl rfl rfl ?_
          refine lh_iconst rfl lh_k_5 ?_
          refine lh_bdE hf (fun r161 e162 hf => ?_)
          refine lh_cVv (N := m_LM_wrong) (d := 0) (o := 65) (As := [.int 5]) (st := []) rfl rfl v_LM_wrong (hS.1 0 _ rfl) rfl rfl rfl ⟨lh_bD (by omega), lh_bL (by omega)⟩ rfl (t_LM_wrong hG hS e162 ?_)
          refine lh_aload_n (q := 0) rfl rfl rfl ?_
          refine lh_getI4 rfl rfl (hS.1 0 _ rfl) rfl ?_
          refine lh_if_le rfl (fun c163 => ?_) (fun c163 => ?_)
          · have hf := lh_ifT hf c163
            refine lh_aload_n (q := 0) rfl rfl rfl ?_
            refine lh_bipush rfl lh_b_20 ?_
            refine lh_bdE hf (fun r164 e165 hf => ?_)
            refine lh_cVi (N := m_LM_hasWord) (d := 1) (o := 65) (As := [.int 20]) (st := []) rfl rfl v_LM_hasWord (hS.1 0 _ rfl) rfl rfl rfl ⟨lh_bD (by omega), lh_bL (by omega)⟩ rfl (t_LM_hasWord hG hS e165 ?_)
            refine lh_if_eq rfl (fun c166 => ?_) (fun c166 => ?_)
            · have hf := lh_ifT hf c166
              refine lh_aload_n (q := 0) rfl rfl rfl ?_
              refine lh_bipush rfl lh_b_40 ?_
              refine lh_bdE hf (fun r167 e168 hf => ?_)
              refine lh_cVi (N := m_LM_hasSign) (d := 1) (o := 65) (As := [.int 40]) (st := []) rfl rfl v_LM_hasSign (hS.1 0 _ rfl) rfl rfl rfl ⟨lh_bD (by omega), lh_bL (by omega)⟩ rfl (t_LM_hasSign hG hS e168 ?_)
              refine lh_if_eq rfl (fun c169 => ?_) (fun c169 => ?_)
              · have hf := lh_ifT hf c169
                refine lh_aload_n (q := 0) rfl rfl rfl ?_
                refine lh_iload_n (q := 2) rfl rfl rfl ?_
                refine lh_if_eq rfl (fun c => absurd c (by decide)) (fun _ => ?_)
                refine lh_iconst rfl lh_k_1 ?_
                refine lh_goto rfl ?_
                refine lh_iload_n (q := 2) rfl rfl rfl ?_
                refine lh_if_eq rfl (fun c => absurd c (by decide)) (fun _ => ?_)
                refine lh_aload_n (q := 0) rfl rfl rfl ?_
                refine lh_getR4 rfl rfl (hS.1 0 _ rfl) rfl (hS.2 3 _ rfl) ?_
                refine lh_aload_n (q := 0) rfl rfl rfl ?_
                refine lh_getI4 rfl rfl (hS.1 0 _ rfl) rfl ?_
                obtain ⟨g170, hf⟩ := lh_gdE hf
                refine lh_lald4 rfl (hS.1 4 _ rfl) g170 ?_
                refine lh_l2i rfl ?_
                refine lh_goto rfl ?_
                refine lh_bdE hf (fun r171 e172 hf => ?_)
                refine lh_cVv (N := m_LM_emit) (d := 0) (o := 65) (As := [.int 1, .int ((L (69 + 4) (r167.2 (65 + 4) 7).toNatClampNeg).toInt32)]) (st := []) rfl rfl v_LM_emit (hS.1 0 _ rfl) rfl rfl rfl ⟨lh_bD (by omega), lh_bL (by omega)⟩ rfl (t_LM_emit hG hS e172 ?_)
                refine lh_aload_n (q := 0) rfl rfl rfl ?_
                refine lh_dup rfl rfl ?_
                refine lh_getI4 rfl rfl (hS.1 0 _ rfl) rfl ?_
                refine lh_iconst rfl lh_k_1 ?_
                refine lh_iadd rfl ?_
                refine lh_putI4 rfl rfl (hS.1 0 _ rfl) rfl rfl ?_
                exact lh_vret rfl rfl (by obtain rfl := Option.some.inj hf; exact hK)
              · have hf := lh_ifF hf c169
                refine lh_aload_n (q := 0) rfl rfl rfl ?_
                refine lh_iload_n (q := 1) rfl rfl rfl ?_
                refine lh_iconst rfl lh_k_1 ?_
                refine lh_iadd rfl ?_
                refine lh_bdE hf (fun r173 e174 hf => ?_)
                refine lh_cVv (N := m_LM_whole) (d := D + 10) (o := 65) (As := [.int (x1 + 1)]) (st := []) rfl rfl v_LM_whole (hS.1 0 _ rfl) rfl rfl rfl ⟨lh_bD (by omega), lh_bL (by omega)⟩ rfl (hg_LM_whole e174 ?_)
                refine lh_aload_n (q := 0) rfl rfl rfl ?_
                refine lh_bipush rfl lh_b_41 ?_
                refine lh_bdE hf (fun r175 e176 hf => ?_)
                refine lh_cVv (N := m_LM_takeSign) (d := 1) (o := 65) (As := [.int 41]) (st := []) rfl rfl v_LM_takeSign (hS.1 0 _ rfl) rfl rfl rfl ⟨lh_bD (by omega), lh_bL (by omega)⟩ rfl (t_LM_takeSign hG hS e176 ?_)
                refine lh_goto rfl ?_
                exact lh_vret rfl rfl (by obtain rfl := Option.some.inj hf; exact hK)
            · have hf := lh_ifF hf c166
              refine lh_aload_n (q := 0) rfl rfl rfl ?_
              refine lh_iload_n (q := 1) rfl rfl rfl ?_
              refine lh_iconst rfl lh_k_1 ?_
              refine lh_iadd rfl ?_
              refine lh_bdE hf (fun r177 e178 hf => ?_)
              refine lh_cVv (N := m_LM_takePart) (d := D + 10) (o := 65) (As := [.int (x1 + 1)]) (st := []) rfl rfl v_LM_takePart (hS.1 0 _ rfl) rfl rfl rfl ⟨lh_bD (by omega), lh_bL (by omega)⟩ rfl (hg_LM_takePart e178 ?_)
              refine lh_aload_n (q := 0) rfl rfl rfl ?_
              refine lh_iconst rfl lh_k_3 ?_
              refine lh_iconst rfl lh_k_0 ?_
              refine lh_bdE hf (fun r179 e180 hf => ?_)
              refine lh_cVv (N := m_LM_emit) (d := 0) (o := 65) (As := [.int 3, .int 0]) (st := []) rfl rfl v_LM_emit (hS.1 0 _ rfl) rfl rfl rfl ⟨lh_bD (by omega), lh_bL (by omega)⟩ rfl (t_LM_emit hG hS e180 ?_)
              refine lh_goto rfl ?_
              exact lh_vret rfl rfl (by obtain rfl := Option.some.inj hf; exact hK)
          · have hf := lh_ifF hf c163
            exact lh_vret rfl rfl (by obtain rfl := Option.some.inj hf; exact hK)
      · have hf := lh_ifF hf c142
        refine lh_iload_n (q := 2) rfl rfl rfl ?_
        refine lh_if_ne rfl (fun _ => ?_) (fun c => absurd c (by decide)) 
        refine lh_iload_n (q := 1) rfl rfl rfl ?_
        refine lh_iconst rfl lh_k_5 ?_
        refine lh_icmp_ne rfl (fun c181 => ?_) (fun c181 => ?_)
        · have hf := lh_ifF hf c181
          refine lh_aload_n (q := 0) rfl rfl rfl ?_
          refine lh_getI4 rfl rfl (hS.1 0 _ rfl) rfl ?_
          refine lh_if_le rfl (fun _ => ?_) (fun c => absurd c1 c)
          refine lh_aload_n (q := 0) rfl rfl rfl ?_
          refine lh_bipush rfl lh_b_20 ?_
          refine lh_bdE hf (fun r182 e183 hf => ?_)
          refine lh_cVi (N := m_LM_hasWord) (d := 1) (o := 65) (As := [.int 20]) (st := []) rfl rfl v_LM_hasWord (hS.1 0 _ rfl) rfl rfl rfl ⟨lh_bD (by omega), lh_bL (by omega)⟩ rfl (t_LM_hasWord hG hS e183 ?_)
          refine lh_if_eq rfl (fun c184 => ?_) (fun c184 => ?_)
          · have hf := lh_ifT hf c184
            refine lh_aload_n (q := 0) rfl rfl rfl ?_
            refine lh_bipush rfl lh_b_40 ?_
            refine lh_bdE hf (fun r185 e186 hf => ?_)
            refine lh_cVi (N := m_LM_hasSign) (d := 1) (o := 65) (As := [.int 40]) (st := []) rfl rfl v_LM_hasSign (hS.1 0 _ rfl) rfl rfl rfl ⟨lh_bD (by omega), lh_bL (by omega)⟩ rfl (t_LM_hasSign hG hS e186 ?_)
            refine lh_if_eq rfl (fun c187 => ?_) (fun c187 => ?_)
            · have hf := lh_ifT hf c187
              refine lh_aload_n (q := 0) rfl rfl rfl ?_
              refine lh_iload_n (q := 2) rfl rfl rfl ?_
              refine lh_if_eq rfl (fun c => absurd c (by decide)) (fun _ => ?_)
              refine lh_iconst rfl lh_k_1 ?_
              refine lh_goto rfl ?_
              refine lh_iload_n (q := 2) rfl rfl rfl ?_
              refine lh_if_eq rfl (fun c => absurd c (by decide)) (fun _ => ?_)
              refine lh_aload_n (q := 0) rfl rfl rfl ?_
              refine lh_getR4 rfl rfl (hS.1 0 _ rfl) rfl (hS.2 3 _ rfl) ?_
              refine lh_aload_n (q := 0) rfl rfl rfl ?_
              refine lh_getI4 rfl rfl (hS.1 0 _ rfl) rfl ?_
              obtain ⟨g188, hf⟩ := lh_gdE hf
              refine lh_lald4 rfl (hS.1 4 _ rfl) g188 ?_
              refine lh_l2i rfl ?_
              refine lh_goto rfl ?_
              refine lh_bdE hf (fun r189 e190 hf => ?_)
              refine lh_cVv (N := m_LM_emit) (d := 0) (o := 65) (As := [.int 1, .int ((L (69 + 4) (r185.2 (65 + 4) 7).toNatClampNeg).toInt32)]) (st := []) rfl rfl v_LM_emit (hS.1 0 _ rfl) rfl rfl rfl ⟨lh_bD (by omega), lh_bL (by omega)⟩ rfl (t_LM_emit hG hS e190 ?_)
              refine lh_aload_n (q := 0) rfl rfl rfl ?_
              refine lh_dup rfl rfl ?_
              refine lh_getI4 rfl rfl (hS.1 0 _ rfl) rfl ?_
              refine lh_iconst rfl lh_k_1 ?_
              refine lh_iadd rfl ?_
              refine lh_putI4 rfl rfl (hS.1 0 _ rfl) rfl rfl ?_
              exact lh_vret rfl rfl (by obtain rfl := Option.some.inj hf; exact hK)
            · have hf := lh_ifF hf c187
              refine lh_aload_n (q := 0) rfl rfl rfl ?_
              refine lh_iload_n (q := 1) rfl rfl rfl ?_
              refine lh_iconst rfl lh_k_1 ?_
              refine lh_iadd rfl ?_
              refine lh_bdE hf (fun r191 e192 hf => ?_)
              refine lh_cVv (N := m_LM_whole) (d := D + 10) (o := 65) (As := [.int (x1 + 1)]) (st := []) rfl rfl v_LM_whole (hS.1 0 _ rfl) rfl rfl rfl ⟨lh_bD (by omega), lh_bL (by omega)⟩ rfl (hg_LM_whole e192 ?_)
              refine lh_aload_n (q := 0) rfl rfl rfl ?_
              refine lh_bipush rfl lh_b_41 ?_
              refine lh_bdE hf (fun r193 e194 hf => ?_)
              refine lh_cVv (N := m_LM_takeSign) (d := 1) (o := 65) (As := [.int 41]) (st := []) rfl rfl v_LM_takeSign (hS.1 0 _ rfl) rfl rfl rfl ⟨lh_bD (by omega), lh_bL (by omega)⟩ rfl (t_LM_takeSign hG hS e194 ?_)
              refine lh_goto rfl ?_
              exact lh_vret rfl rfl (by obtain rfl := Option.some.inj hf; exact hK)
          · have hf := lh_ifF hf c184
            refine lh_aload_n (q := 0) rfl rfl rfl ?_
            refine lh_iload_n (q := 1) rfl rfl rfl ?_
            refine lh_iconst rfl lh_k_1 ?_
            refine lh_iadd rfl ?_
            refine lh_bdE hf (fun r195 e196 hf => ?_)
            refine lh_cVv (N := m_LM_takePart) (d := D + 10) (o := 65) (As := [.int (x1 + 1)]) (st := []) rfl rfl v_LM_takePart (hS.1 0 _ rfl) rfl rfl rfl ⟨lh_bD (by omega), lh_bL (by omega)⟩ rfl (hg_LM_takePart e196 ?_)
            refine lh_aload_n (q := 0) rfl rfl rfl ?_
            refine lh_iconst rfl lh_k_3 ?_
            refine lh_iconst rfl lh_k_0 ?_
            refine lh_bdE hf (fun r197 e198 hf => ?_)
            refine lh_cVv (N := m_LM_emit) (d := 0) (o := 65) (As := [.int 3, .int 0]) (st := []) rfl rfl v_LM_emit (hS.1 0 _ rfl) rfl rfl rfl ⟨lh_bD (by omega), lh_bL (by omega)⟩ rfl (t_LM_emit hG hS e198 ?_)
            refine lh_goto rfl ?_
            exact lh_vret rfl rfl (by obtain rfl := Option.some.inj hf; exact hK)
        · have hf := lh_ifT hf c181
          refine lh_aload_n (q := 0) rfl rfl rfl ?_
          refine lh_iconst rfl lh_k_5 ?_
          refine lh_bdE hf (fun r199 e200 hf => ?_)
          refine lh_cVv (N := m_LM_wrong) (d := 0) (o := 65) (As := [.int 5]) (st := []) rfl rfl v_LM_wrong (hS.1 0 _ rfl) rfl rfl rfl ⟨lh_bD (by omega), lh_bL (by omega)⟩ rfl (t_LM_wrong hG hS e200 ?_)
          refine lh_aload_n (q := 0) rfl rfl rfl ?_
          refine lh_getI4 rfl rfl (hS.1 0 _ rfl) rfl ?_
          refine lh_if_le rfl (fun c201 => ?_) (fun c201 => ?_)
          · have hf := lh_ifT hf c201
            refine lh_aload_n (q := 0) rfl rfl rfl ?_
            refine lh_bipush rfl lh_b_20 ?_
            refine lh_bdE hf (fun r202 e203 hf => ?_)
            refine lh_cVi (N := m_LM_hasWord) (d := 1) (o := 65) (As := [.int 20]) (st := []) rfl rfl v_LM_hasWord (hS.1 0 _ rfl) rfl rfl rfl ⟨lh_bD (by omega), lh_bL (by omega)⟩ rfl (t_LM_hasWord hG hS e203 ?_)
            refine lh_if_eq rfl (fun c204 => ?_) (fun c204 => ?_)
            · have hf := lh_ifT hf c204
              refine lh_aload_n (q := 0) rfl rfl rfl ?_
              refine lh_bipush rfl lh_b_40 ?_
              refine lh_bdE hf (fun r205 e206 hf => ?_)
              refine lh_cVi (N := m_LM_hasSign) (d := 1) (o := 65) (As := [.int 40]) (st := []) rfl rfl v_LM_hasSign (hS.1 0 _ rfl) rfl rfl rfl ⟨lh_bD (by omega), lh_bL (by omega)⟩ rfl (t_LM_hasSign hG hS e206 ?_)
              refine lh_if_eq rfl (fun c207 => ?_) (fun c207 => ?_)
              · have hf := lh_ifT hf c207
                refine lh_aload_n (q := 0) rfl rfl rfl ?_
                refine lh_iload_n (q := 2) rfl rfl rfl ?_
                refine lh_if_eq rfl (fun c => absurd c (by decide)) (fun _ => ?_)
                refine lh_iconst rfl lh_k_1 ?_
                refine lh_goto rfl ?_
                refine lh_iload_n (q := 2) rfl rfl rfl ?_
                refine lh_if_eq rfl (fun c => absurd c (by decide)) (fun _ => ?_)
                refine lh_aload_n (q := 0) rfl rfl rfl ?_
                refine lh_getR4 rfl rfl (hS.1 0 _ rfl) rfl (hS.2 3 _ rfl) ?_
                refine lh_aload_n (q := 0) rfl rfl rfl ?_
                refine lh_getI4 rfl rfl (hS.1 0 _ rfl) rfl ?_
                obtain ⟨g208, hf⟩ := lh_gdE hf
                refine lh_lald4 rfl (hS.1 4 _ rfl) g208 ?_
                refine lh_l2i rfl ?_
                refine lh_goto rfl ?_
                refine lh_bdE hf (fun r209 e210 hf => ?_)
                refine lh_cVv (N := m_LM_emit) (d := 0) (o := 65) (As := [.int 1, .int ((L (69 + 4) (r205.2 (65 + 4) 7).toNatClampNeg).toInt32)]) (st := []) rfl rfl v_LM_emit (hS.1 0 _ rfl) rfl rfl rfl ⟨lh_bD (by omega), lh_bL (by omega)⟩ rfl (t_LM_emit hG hS e210 ?_)
                refine lh_aload_n (q := 0) rfl rfl rfl ?_
                refine lh_dup rfl rfl ?_
                refine lh_getI4 rfl rfl (hS.1 0 _ rfl) rfl ?_
                refine lh_iconst rfl lh_k_1 ?_
                refine lh_iadd rfl ?_
                refine lh_putI4 rfl rfl (hS.1 0 _ rfl) rfl rfl ?_
                exact lh_vret rfl rfl (by obtain rfl := Option.some.inj hf; exact hK)
              · have hf := lh_ifF hf c207
                refine lh_aload_n (q := 0) rfl rfl rfl ?_
                refine lh_iload_n (q := 1) rfl rfl rfl ?_
                refine lh_iconst rfl lh_k_1 ?_
                refine lh_iadd rfl ?_
                refine lh_bdE hf (fun r211 e212 hf => ?_)
                refine lh_cVv (N := m_LM_whole) (d := D + 10) (o := 65) (As := [.int (x1 + 1)]) (st := []) rfl rfl v_LM_whole (hS.1 0 _ rfl) rfl rfl rfl ⟨lh_bD (by omega), lh_bL (by omega)⟩ rfl (hg_LM_whole e212 ?_)
                refine lh_aload_n (q := 0) rfl rfl rfl ?_
                refine lh_bipush rfl lh_b_41 ?_
                refine lh_bdE hf (fun r213 e214 hf => ?_)
                refine lh_cVv (N := m_LM_takeSign) (d := 1) (o := 65) (As := [.int 41]) (st := []) rfl rfl v_LM_takeSign (hS.1 0 _ rfl) rfl rfl rfl ⟨lh_bD (by omega), lh_bL (by omega)⟩ rfl (t_LM_takeSign hG hS e214 ?_)
                refine lh_goto rfl ?_
                exact lh_vret rfl rfl (by obtain rfl := Option.some.inj hf; exact hK)
            · have hf := lh_ifF hf c204
              refine lh_aload_n (q := 0) rfl rfl rfl ?_
              refine lh_iload_n (q := 1) rfl rfl rfl ?_
              refine lh_iconst rfl lh_k_1 ?_
              refine lh_iadd rfl ?_
              refine lh_bdE hf (fun r215 e216 hf => ?_)
              refine lh_cVv (N := m_LM_takePart) (d := D + 10) (o := 65) (As := [.int (x1 + 1)]) (st := []) rfl rfl v_LM_takePart (hS.1 0 _ rfl) rfl rfl rfl ⟨lh_bD (by omega), lh_bL (by omega)⟩ rfl (hg_LM_takePart e216 ?_)
              refine lh_aload_n (q := 0) rfl rfl rfl ?_
              refine lh_iconst rfl lh_k_3 ?_
              refine lh_iconst rfl lh_k_0 ?_
              refine lh_bdE hf (fun r217 e218 hf => ?_)
              refine lh_cVv (N := m_LM_emit) (d := 0) (o := 65) (As := [.int 3, .int 0]) (st := []) rfl rfl v_LM_emit (hS.1 0 _ rfl) rfl rfl rfl ⟨lh_bD (by omega), lh_bL (by omega)⟩ rfl (t_LM_emit hG hS e218 ?_)
              refine lh_goto rfl ?_
              exact lh_vret rfl rfl (by obtain rfl := Option.some.inj hf; exact hK)
          · have hf := lh_ifF hf c201
            exact lh_vret rfl rfl (by obtain rfl := Option.some.inj hf; exact hK)
  · have hf := lh_ifF hf c1
    exact lh_vret rfl rfl (by obtain rfl := Option.some.inj hf; exact hK)
def f_LM_products_3 (g_LM_whole : Int32 → lh_II → lh_LL → Option (lh_II)) (g_LM_test : Int32 → lh_II → lh_LL → Option (lh_II)) (g_LM_sums : Int32 → lh_II → lh_LL → Option (lh_II)) (g_LM_products : Int32 → lh_II → lh_LL → Option (lh_II)) (g_LM_takePart : Int32 → lh_II → lh_LL → Option (lh_II)) (v1 : Int32) (L : lh_LL) : Nat → lh_II → Option (lh_II)
  | 0, _ => none
  | n + 1, I => lh_bd (f_LM_hasSign (42 : Int32) I L) fun r3 => if r3.1 = 0 then some r3.2 else lh_bd (g_LM_takePart v1 r3.2 L) fun r6 => lh_bd (f_LM_emit (6 : Int32) (0 : Int32) r6) fun r8 => f_LM_products_3 g_LM_whole g_LM_test g_LM_sums g_LM_products g_LM_takePart v1 L n r8
def f_LM_products (g_LM_whole : Int32 → lh_II → lh_LL → Option (lh_II)) (g_LM_test : Int32 → lh_II → lh_LL → Option (lh_II)) (g_LM_sums : Int32 → lh_II → lh_LL → Option (lh_II)) (g_LM_products : Int32 → lh_II → lh_LL → Option (lh_II)) (g_LM_takePart : Int32 → lh_II → lh_LL → Option (lh_II)) (x1 : Int32) (I : lh_II) (L : lh_LL) : Option (lh_II) := lh_bd (g_LM_takePart x1 I L) fun r1 => lh_bd (f_LM_products_3 g_LM_whole g_LM_test g_LM_sums g_LM_products g_LM_takePart x1 L lh_fuel r1) fun r10 => some r10
theorem t_LM_products_3 {Γ : lh_Cx} {F : lh_FF} {S : lh_SS} {Z : List Frame → Array Value → State → State → Prop} (hG : lh_GX Γ) (hS : lh_laym F S) {D : Nat} {g_LM_whole : Int32 → lh_II → lh_LL → Option (lh_II)} (hg_LM_whole : ∀ {I : lh_II} {L : lh_LL} {K : lh_Hp → Prop} {r : lh_II}  {x1 : Int32}, g_LM_whole x1 I L = some r → K (r, L, F, S) → lh_Met Γ m_LM_whole (D + 10) 0 0 [.ref (65 + 4), .int x1] (I, L, F, S) (lh_kv K)) {g_LM_test : Int32 → lh_II → lh_LL → Option (lh_II)} (hg_LM_test : ∀ {I : lh_II} {L : lh_LL} {K : lh_Hp → Prop} {r : lh_II}  {x1 : Int32}, g_LM_test x1 I L = some r → K (r, L, F, S) → lh_Met Γ m_LM_test (D + 10) 0 0 [.ref (65 + 4), .int x1] (I, L, F, S) (lh_kv K)) {g_LM_sums : Int32 → lh_II → lh_LL → Option (lh_II)} (hg_LM_sums : ∀ {I : lh_II} {L : lh_LL} {K : lh_Hp → Prop} {r : lh_II}  {x1 : Int32}, g_LM_sums x1 I L = some r → K (r, L, F, S) → lh_Met Γ m_LM_sums (D + 10) 0 0 [.ref (65 + 4), .int x1] (I, L, F, S) (lh_kv K)) {g_LM_products : Int32 → lh_II → lh_LL → Option (lh_II)} (hg_LM_products : ∀ {I : lh_II} {L : lh_LL} {K : lh_Hp → Prop} {r : lh_II}  {x1 : Int32}, g_LM_products x1 I L = some r → K (r, L, F, S) → lh_Met Γ m_LM_products (D + 10) 0 0 [.ref (65 + 4), .int x1] (I, L, F, S) (lh_kv K)) {g_LM_takePart : Int32 → lh_II → lh_LL → Option (lh_II)} (hg_LM_takePart : ∀ {I : lh_II} {L : lh_LL} {K : lh_Hp → Prop} {r : lh_II}  {x1 : Int32}, g_LM_takePart x1 I L = some r → K (r, L, F, S) → lh_Met Γ m_LM_takePart (D + 10) 0 0 [.ref (65 + 4), .int x1] (I, L, F, S) (lh_kv K))  {v1 : Int32} {L : lh_LL} : ∀ (n : Nat) (I : lh_II) (o : lh_II), f_LM_products_3 g_LM_whole g_LM_test g_LM_sums g_LM_products g_LM_takePart v1 L n I = some o → ∀ (x0_ : lh_G Γ m_LM_products (lh_R (D + 11) 0 0) Z 0 0 15 [] [] (o, L, F, S)), lh_G Γ m_LM_products (lh_R (D + 11) 0 0) Z 0 0 3 [(0, .ref (65 + 4)), (1, .int v1)] [] (I, L, F, S) := by
  intro n
  induction n with
  | zero => intro I o hf; cases hf
  | succ n ih =>
    intro I o hf x0_
    rw [f_LM_products_3] at hf
    refine lh_aload_n (q := 0) rfl rfl rfl ?_
    refine lh_bipush rfl lh_b_42 ?_
    refine lh_bdE hf (fun r3 e4 hf => ?_)
    refine lh_cVi (N := m_LM_hasSign) (d := 1) (o := 65) (As := [.int 42]) (st := []) rfl rfl v_LM_hasSign (hS.1 0 _ rfl) rfl rfl rfl ⟨lh_bD (by omega), lh_bL (by omega)⟩ rfl (t_LM_hasSign hG hS e4 ?_)
    refine lh_if_eq rfl (fun c5 => ?_) (fun c5 => ?_)
    · have hf := lh_ifT hf c5
      exact lh_less [] rfl (by cases hf; exact x0_)
    · have hf := lh_ifF hf c5
      refine lh_aload_n (q := 0) rfl rfl rfl ?_
      refine lh_iload_n (q := 1) rfl rfl rfl ?_
      refine lh_bdE hf (fun r6 e7 hf => ?_)
      refine lh_cVv (N := m_LM_takePart) (d := D + 10) (o := 65) (As := [.int v1]) (st := []) rfl rfl v_LM_takePart (hS.1 0 _ rfl) rfl rfl rfl ⟨lh_bD (by omega), lh_bL (by omega)⟩ rfl (hg_LM_takePart e7 ?_)
      refine lh_aload_n (q := 0) rfl rfl rfl ?_
      refine lh_bipush rfl lh_b_6 ?_
      refine lh_iconst rfl lh_k_0 ?_
      refine lh_bdE hf (fun r8 e9 hf => ?_)
      refine lh_cVv (N := m_LM_emit) (d := 0) (o := 65) (As := [.int 6, .int 0]) (st := []) rfl rfl v_LM_emit (hS.1 0 _ rfl) rfl rfl rfl ⟨lh_bD (by omega), lh_bL (by omega)⟩ rfl (t_LM_emit hG hS e9 ?_)
      refine lh_goto rfl ?_
      exact ih r8 _ hf x0_
theorem t_LM_products {Γ : lh_Cx} {I : lh_II} {L : lh_LL} {F : lh_FF} {S : lh_SS} {K : lh_Hp → Prop} {r : lh_II} (hG : lh_GX Γ) (hS : lh_laym F S) {D : Nat} {g_LM_whole : Int32 → lh_II → lh_LL → Option (lh_II)} (hg_LM_whole : ∀ {I : lh_II} {L : lh_LL} {K : lh_Hp → Prop} {r : lh_II}  {x1 : Int32}, g_LM_whole x1 I L = some r → K (r, L, F, S) → lh_Met Γ m_LM_whole (D + 10) 0 0 [.ref (65 + 4), .int x1] (I, L, F, S) (lh_kv K)) {g_LM_test : Int32 → lh_II → lh_LL → Option (lh_II)} (hg_LM_test : ∀ {I : lh_II} {L : lh_LL} {K : lh_Hp → Prop} {r : lh_II}  {x1 : Int32}, g_LM_test x1 I L = some r → K (r, L, F, S) → lh_Met Γ m_LM_test (D + 10) 0 0 [.ref (65 + 4), .int x1] (I, L, F, S) (lh_kv K)) {g_LM_sums : Int32 → lh_II → lh_LL → Option (lh_II)} (hg_LM_sums : ∀ {I : lh_II} {L : lh_LL} {K : lh_Hp → Prop} {r : lh_II}  {x1 : Int32}, g_LM_sums x1 I L = some r → K (r, L, F, S) → lh_Met Γ m_LM_sums (D + 10) 0 0 [.ref (65 + 4), .int x1] (I, L, F, S) (lh_kv K)) {g_LM_products : Int32 → lh_II → lh_LL → Option (lh_II)} (hg_LM_products : ∀ {I : lh_II} {L : lh_LL} {K : lh_Hp → Prop} {r : lh_II}  {x1 : Int32}, g_LM_products x1 I L = some r → K (r, L, F, S) → lh_Met Γ m_LM_products (D + 10) 0 0 [.ref (65 + 4), .int x1] (I, L, F, S) (lh_kv K)) {g_LM_takePart : Int32 → lh_II → lh_LL → Option (lh_II)} (hg_LM_takePart : ∀ {I : lh_II} {L : lh_LL} {K : lh_Hp → Prop} {r : lh_II}  {x1 : Int32}, g_LM_takePart x1 I L = some r → K (r, L, F, S) → lh_Met Γ m_LM_takePart (D + 10) 0 0 [.ref (65 + 4), .int x1] (I, L, F, S) (lh_kv K))  {x1 : Int32} (hf : f_LM_products g_LM_whole g_LM_test g_LM_sums g_LM_products g_LM_takePart x1 I L = some r) (hK : K (r, L, F, S)) : lh_Met Γ m_LM_products (D + 11) 0 0 [.ref (65 + 4), .int x1] (I, L, F, S) (lh_kv K) := by
  rw [f_LM_products] at hf
  refine lh_ofG k_LM_products [(0, .ref (65 + 4)), (1, .int x1)] rfl (Nat.le_of_ble_eq_true rfl) rfl ?_
  refine lh_aload_n (q := 0) rfl rfl rfl ?_
  refine lh_iload_n (q := 1) rfl rfl rfl ?_
  refine lh_bdE hf (fun r1 e2 hf => ?_)
  refine lh_cVv (N := m_LM_takePart) (d := D + 10) (o := 65) (As := [.int x1]) (st := []) rfl rfl v_LM_takePart (hS.1 0 _ rfl) rfl rfl rfl ⟨lh_bD (by omega), lh_bL (by omega)⟩ rfl (hg_LM_takePart e2 ?_)
  refine lh_bdE hf (fun r10 e11 hf => ?_)
  refine t_LM_products_3 hG hS hg_LM_whole hg_LM_test hg_LM_sums hg_LM_products hg_LM_takePart _ r1 _ e11 ?_
  exact lh_vret rfl rfl (by obtain rfl := Option.some.inj hf; exact hK)
