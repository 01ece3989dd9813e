/-! decompiled by program: f_.. the functions, t_.. that the methods do as they say -/
def f_LM_visitors (I : lh_II) : Option (Int32) := some (I (71 + 4) 1)
theorem t_LM_visitors {Γ : lh_Cx} {I : lh_II} {L : lh_LL} {F : lh_FF} {S : lh_SS} {K : Int32 → lh_Hp → Prop} {r : Int32} (hG : lh_GX Γ) (hS : lh_laym F S)  (hf : f_LM_visitors I = some r) (hK : K r (I, L, F, S)) : lh_Met Γ m_LM_visitors 0 0 0 [.ref (65 + 4)] (I, L, F, S) (lh_ki K) := by
  rw [f_LM_visitors] at hf
  refine lh_ofG k_LM_visitors [(0, .ref (65 + 4))] rfl (Nat.le_of_ble_eq_true rfl) rfl ?_
  refine lh_aload_n (q := 0) rfl rfl rfl ?_
  refine lh_getR4 rfl rfl (hS.1 0 _ rfl) rfl (hS.2 5 _ rfl) ?_
  refine lh_iconst rfl lh_k_1 ?_
  refine lh_iald5 (k := 1) rfl (hS.1 6 _ rfl) (by decide) (by decide) ?_
  exact lh_iret rfl rfl rfl (by obtain rfl := Option.some.inj hf; exact hK)
def f_LM_isVisitor (x1 : Int32) (I : lh_II) : Option (Int32) := if x1 < 0 then some 0 else lh_bd (f_LM_visitors I) fun r2 => if r2 ≤ x1 then some 0 else some 1
theorem t_LM_isVisitor {Γ : lh_Cx} {I : lh_II} {L : lh_LL} {F : lh_FF} {S : lh_SS} {K : Int32 → lh_Hp → Prop} {r : Int32} (hG : lh_GX Γ) (hS : lh_laym F S)  {x1 : Int32} (hf : f_LM_isVisitor x1 I = some r) (hK : K r (I, L, F, S)) : lh_Met Γ m_LM_isVisitor 1 0 0 [.ref (65 + 4), .int x1] (I, L, F, S) (lh_ki K) := by
  rw [f_LM_isVisitor] at hf
  refine lh_ofG k_LM_isVisitor [(0, .ref (65 + 4)), (1, .int x1)] rfl (Nat.le_of_ble_eq_true rfl) rfl ?_
  refine lh_iload_n (q := 1) rfl rfl rfl ?_
  refine lh_if_lt rfl (fun c1 => ?_) (fun c1 => ?_)
  · have hf := lh_ifT hf c1
    refine lh_iconst rfl lh_k_0 ?_
    exact lh_iret rfl rfl (by decide) (by obtain rfl := Option.some.inj hf; exact hK)
  · have hf := lh_ifF hf c1
    refine lh_iload_n (q := 1) rfl rfl rfl ?_
    refine lh_aload_n (q := 0) rfl rfl rfl ?_
    refine lh_bdE hf (fun r2 e3 hf => ?_)
    refine lh_cVi (N := m_LM_visitors) (d := 0) (o := 65) (As := []) (st := [.int x1]) rfl rfl v_LM_visitors (hS.1 0 _ rfl) rfl rfl rfl ⟨rfl, rfl⟩ rfl (t_LM_visitors hG hS e3 ?_)
    refine lh_icmp_ge rfl (fun c4 => ?_) (fun c4 => ?_)
    · have hf := lh_ifT hf c4
      refine lh_iconst rfl lh_k_0 ?_
      exact lh_iret rfl rfl (by decide) (by obtain rfl := Option.some.inj hf; exact hK)
    · have hf := lh_ifF hf c4
      refine lh_iconst rfl lh_k_1 ?_
      refine lh_goto rfl ?_
      exact lh_iret rfl rfl (by decide) (by obtain rfl := Option.some.inj hf; exact hK)
def f_LM_cells (I : lh_II) : Option (Int32) := some (I (71 + 4) 0)
theorem t_LM_cells {Γ : lh_Cx} {I : lh_II} {L : lh_LL} {F : lh_FF} {S : lh_SS} {K : Int32 → lh_Hp → Prop} {r : Int32} (hG : lh_GX Γ) (hS : lh_laym F S)  (hf : f_LM_cells I = some r) (hK : K r (I, L, F, S)) : lh_Met Γ m_LM_cells 0 0 0 [.ref (65 + 4)] (I, L, F, S) (lh_ki K) := by
  rw [f_LM_cells] at hf
  refine lh_ofG k_LM_cells [(0, .ref (65 + 4))] rfl (Nat.le_of_ble_eq_true rfl) rfl ?_
  refine lh_aload_n (q := 0) rfl rfl rfl ?_
  refine lh_getR4 rfl rfl (hS.1 0 _ rfl) rfl (hS.2 5 _ rfl) ?_
  refine lh_iconst rfl lh_k_0 ?_
  refine lh_iald5 (k := 0) rfl (hS.1 6 _ rfl) (by decide) (by decide) ?_
  exact lh_iret rfl rfl rfl (by obtain rfl := Option.some.inj hf; exact hK)
def f_LM_isCell (x1 : Int32) (I : lh_II) : Option (Int32) := if x1 < 0 then some 0 else lh_bd (f_LM_cells I) fun r2 => if r2 ≤ x1 then some 0 else some 1
theorem t_LM_isCell {Γ : lh_Cx} {I : lh_II} {L : lh_LL} {F : lh_FF} {S : lh_SS} {K : Int32 → lh_Hp → Prop} {r : Int32} (hG : lh_GX Γ) (hS : lh_laym F S)  {x1 : Int32} (hf : f_LM_isCell x1 I = some r) (hK : K r (I, L, F, S)) : lh_Met Γ m_LM_isCell 1 0 0 [.ref (65 + 4), .int x1] (I, L, F, S) (lh_ki K) := by
  rw [f_LM_isCell] at hf
  refine lh_ofG k_LM_isCell [(0, .ref (65 + 4)), (1, .int x1)] rfl (Nat.le_of_ble_eq_true rfl) rfl ?_
  refine lh_iload_n (q := 1) rfl rfl rfl ?_
  refine lh_if_lt rfl (fun c1 => ?_) (fun c1 => ?_)
  · have hf := lh_ifT hf c1
    refine lh_iconst rfl lh_k_0 ?_
    exact lh_iret rfl rfl (by decide) (by obtain rfl := Option.some.inj hf; exact hK)
  · have hf := lh_ifF hf c1
    refine lh_iload_n (q := 1) rfl rfl rfl ?_
    refine lh_aload_n (q := 0) rfl rfl rfl ?_
    refine lh_bdE hf (fun r2 e3 hf => ?_)
    refine lh_cVi (N := m_LM_cells) (d := 0) (o := 65) (As := []) (st := [.int x1]) rfl rfl v_LM_cells (hS.1 0 _ rfl) rfl rfl rfl ⟨rfl, rfl⟩ rfl (t_LM_cells hG hS e3 ?_)
    refine lh_icmp_ge rfl (fun c4 => ?_) (fun c4 => ?_)
    · have hf := lh_ifT hf c4
      refine lh_iconst rfl lh_k_0 ?_
      exact lh_iret rfl rfl (by decide) (by obtain rfl := Option.some.inj hf; exact hK)
    · have hf := lh_ifF hf c4
      refine lh_iconst rfl lh_k_1 ?_
      refine lh_goto rfl ?_
      exact lh_iret rfl rfl (by decide) (by obtain rfl := Option.some.inj hf; exact hK)
def f_LM_kindOf (x1 : Int32) (I : lh_II) : Option (Int32) := lh_gd (lh_ix (9 + (11 * x1)) 200) (some (I (71 + 4) (9 + (11 * x1)).toNatClampNeg))
theorem t_LM_kindOf {Γ : lh_Cx} {I : lh_II} {L : lh_LL} {F : lh_FF} {S : lh_SS} {K : Int32 → lh_Hp → Prop} {r : Int32} (hG : lh_GX Γ) (hS : lh_laym F S)  {x1 : Int32} (hf : f_LM_kindOf x1 I = some r) (hK : K r (I, L, F, S)) : lh_Met Γ m_LM_kindOf 0 0 0 [.ref (65 + 4), .int x1] (I, L, F, S) (lh_ki K) := by
  rw [f_LM_kindOf] at hf
  refine lh_ofG k_LM_kindOf [(0, .ref (65 + 4)), (1, .int x1)] rfl (Nat.le_of_ble_eq_true rfl) rfl ?_
  refine lh_aload_n (q := 0) rfl rfl rfl ?_
  refine lh_getR4 rfl rfl (hS.1 0 _ rfl) rfl (hS.2 5 _ rfl) ?_
  refine lh_bipush rfl lh_b_9 ?_
  refine lh_bipush rfl lh_b_11 ?_
  refine lh_iload_n (q := 1) rfl rfl rfl ?_
  refine lh_imul rfl ?_
  refine lh_iadd rfl ?_
  obtain ⟨g1, hf⟩ := lh_gdE hf
  refine lh_iald4 rfl (hS.1 6 _ rfl) g1 ?_
  exact lh_iret rfl rfl rfl (by obtain rfl := Option.some.inj hf; exact hK)
def f_LM_cellOf (x1 : Int32) (x2 : Int32) (I : lh_II) : Option (Int32) := lh_gd (lh_ix ((9 + (11 * x1)) + 2) 200) (if (I (71 + 4) ((9 + (11 * x1)) + 2).toNatClampNeg) ≤ x2 then lh_bd (f_LM_kindOf x1 I) fun r3 => if r3 = 2 then lh_gd (lh_ix (((9 + (11 * x1)) + 2) + (I (71 + 4) ((9 + (11 * x1)) + 2).toNatClampNeg)) 200) (lh_bd (f_LM_cells I) fun r10 => if r10 ≤ (I (71 + 4) (((9 + (11 * x1)) + 2) + (I (71 + 4) ((9 + (11 * x1)) + 2).toNatClampNeg)).toNatClampNeg) then some (-1) else some (I (71 + 4) (((9 + (11 * x1)) + 2) + (I (71 + 4) ((9 + (11 * x1)) + 2).toNatClampNeg)).toNatClampNeg)) else lh_bd (f_LM_cells I) fun r6 => if r6 ≤ (-1) then some (-1) else some (-1) else lh_gd (lh_ix ((((9 + (11 * x1)) + 2) + 1) + x2) 200) (lh_bd (f_LM_cells I) fun r14 => if r14 ≤ (I (71 + 4) ((((9 + (11 * x1)) + 2) + 1) + x2).toNatClampNeg) then some (-1) else some (I (71 + 4) ((((9 + (11 * x1)) + 2) + 1) + x2).toNatClampNeg)))
theorem t_LM_cellOf {Γ : lh_Cx} {I : lh_II} {L : lh_LL} {F : lh_FF} {S : lh_SS} {K : Int32 → lh_Hp → Prop} {r : Int32} (hG : lh_GX Γ) (hS : lh_laym F S)  {x1 : Int32} {x2 : Int32} (hf : f_LM_cellOf x1 x2 I = some r) (hK : K r (I, L, F, S)) : lh_Met Γ m_LM_cellOf 1 0 0 [.ref (65 + 4), .int x1, .int x2] (I, L, F, S) (lh_ki K) := by
  rw [f_LM_cellOf] at hf
  refine lh_ofG k_LM_cellOf [(0, .ref (65 + 4)), (1, .int x1), (2, .int x2)] rfl (Nat.le_of_ble_eq_true rfl) rfl ?_
  refine lh_bipush rfl lh_b_9 ?_
  refine lh_bipush rfl lh_b_11 ?_
  refine lh_iload_n (q := 1) rfl rfl rfl ?_
  refine lh_imul rfl ?_
  refine lh_iadd rfl ?_
  refine lh_iconst rfl lh_k_2 ?_
  refine lh_iadd rfl ?_
  refine lh_istore_n (lv' := [(0, .ref (65 + 4)), (1, .int x1), (2, .int x2), (3, .int ((9 + (11 * x1)) + 2))]) rfl rfl rfl rfl ?_
  refine lh_aload_n (q := 0) rfl rfl rfl ?_
  refine lh_getR4 rfl rfl (hS.1 0 _ rfl) rfl (hS.2 5 _ rfl) ?_
  refine lh_iload_n (q := 3) rfl rfl rfl ?_
  obtain ⟨g1, hf⟩ := lh_gdE hf
  refine lh_iald4 rfl (hS.1 6 _ rfl) g1 ?_
  refine lh_istore (lv' := [(0, .ref (65 + 4)), (1, .int x1), (2, .int x2), (3, .int ((9 + (11 * x1)) + 2)), (4, .int (I (71 + 4) ((9 + (11 * x1)) + 2).toNatClampNeg))]) rfl rfl rfl ?_
  refine lh_iload_n (q := 2) rfl rfl rfl ?_
  refine lh_iload (q := 4) rfl rfl ?_
  refine lh_icmp_ge rfl (fun c2 => ?_) (fun c2 => ?_)
  · have hf := lh_ifT hf c2
    refine lh_aload_n (q := 0) rfl rfl rfl ?_
    refine lh_iload_n (q := 1) rfl rfl rfl ?_
    refine lh_bdE hf (fun r3 e4 hf => ?_)
    refine lh_cVi (N := m_LM_kindOf) (d := 0) (o := 65) (As := [.int x1]) (st := []) rfl rfl v_LM_kindOf (hS.1 0 _ rfl) rfl rfl rfl ⟨rfl, rfl⟩ rfl (t_LM_kindOf hG hS e4 ?_)
    refine lh_iconst rfl lh_k_2 ?_
    refine lh_icmp_ne rfl (fun c5 => ?_) (fun c5 => ?_)
    · have hf := lh_ifF hf c5
      refine lh_iconst rfl lh_k_m1 ?_
      refine lh_istore (lv' := [(0, .ref (65 + 4)), (1, .int x1), (2, .int x2), (3, .int ((9 + (11 * x1)) + 2)), (4, .int (I (71 + 4) ((9 + (11 * x1)) + 2).toNatClampNeg)), (5, .int (-1))]) rfl rfl rfl ?_
      refine lh_iload (q := 5) rfl rfl ?_
      refine lh_aload_n (q := 0) rfl rfl rfl ?_
      refine lh_bdE hf (fun r6 e7 hf => ?_)
      refine lh_cVi (N := m_LM_cells) (d := 0) (o := 65) (As := []) (st := [.int (-1)]) rfl rfl v_LM_cells (hS.1 0 _ rfl) rfl rfl rfl ⟨rfl, rfl⟩ rfl (t_LM_cells hG hS e7 ?_)
      refine lh_icmp_ge rfl (fun c8 => ?_) (fun c8 => ?_)
      · have hf := lh_ifT hf c8
        refine lh_iconst rfl lh_k_m1 ?_
        exact lh_iret rfl rfl rfl (by obtain rfl := Option.some.inj hf; exact hK)
      · have hf := lh_ifF hf c8
        refine lh_iload (q := 5) rfl rfl ?_
        refine lh_goto rfl ?_
        exact lh_iret rfl rfl rfl (by obtain rfl := Option.some.inj hf; exact hK)
    · have hf := lh_ifT hf c5
      refine lh_aload_n (q := 0) rfl rfl rfl ?_
      refine lh_getR4 rfl rfl (hS.1 0 _ rfl) rfl (hS.2 5 _ rfl) ?_
      refine lh_iload_n (q := 3) rfl rfl rfl ?_
      refine lh_iload (q := 4) rfl rfl ?_
      refine lh_iadd rfl ?_
      obtain ⟨g9, hf⟩ := lh_gdE hf
      refine lh_iald4 rfl (hS.1 6 _ rfl) g9 ?_
      refine lh_goto rfl ?_
      refine lh_istore (lv' := [(0, .ref (65 + 4)), (1, .int x1), (2, .int x2), (3, .int ((9 + (11 * x1)) + 2)), (4, .int (I (71 + 4) ((9 + (11 * x1)) + 2).toNatClampNeg)), (5, .int (I (71 + 4) (((9 + (11 * x1)) + 2) + (I (71 + 4) ((9 + (11 * x1)) + 2).toNatClampNeg)).toNatClampNeg))]) rfl rfl rfl ?_
      refine lh_iload (q := 5) rfl rfl ?_
      refine lh_aload_n (q := 0) rfl rfl rfl ?_
      refine lh_bdE hf (fun r10 e11 hf => ?_)
      refine lh_cVi (N := m_LM_cells) (d := 0) (o := 65) (As := []) (st := [.int (I (71 + 4) (((9 + (11 * x1)) + 2) + (I (71 + 4) ((9 + (11 * x1)) + 2).toNatClampNeg)).toNatClampNeg)]) rfl rfl v_LM_cells (hS.1 0 _ rfl) rfl rfl rfl ⟨rfl, rfl⟩ rfl (t_LM_cells hG hS e11 ?_)
      refine lh_icmp_ge rfl (fun c12 => ?_) (fun c12 => ?_)
      · have hf := lh_ifT hf c12
        refine lh_iconst rfl lh_k_m1 ?_
        exact lh_iret rfl rfl rfl (by obtain rfl := Option.some.inj hf; exact hK)
      · have hf := lh_ifF hf c12
        refine lh_iload (q := 5) rfl rfl ?_
        refine lh_goto rfl ?_
        exact lh_iret rfl rfl rfl (by obtain rfl := Option.some.inj hf; exact hK)
  · have hf := lh_ifF hf c2
    refine lh_aload_n (q := 0) rfl rfl rfl ?_
    refine lh_getR4 rfl rfl (hS.1 0 _ rfl) rfl (hS.2 5 _ rfl) ?_
    refine lh_iload_n (q := 3) rfl rfl rfl ?_
    refine lh_iconst rfl lh_k_1 ?_
    refine lh_iadd rfl ?_
    refine lh_iload_n (q := 2) rfl rfl rfl ?_
    refine lh_iadd rfl ?_
    obtain ⟨g13, hf⟩ := lh_gdE hf
    refine lh_iald4 rfl (hS.1 6 _ rfl) g13 ?_
    refine lh_goto rfl ?_
    refine lh_istore (lv' := [(0, .ref (65 + 4)), (1, .int x1), (2, .int x2), (3, .int ((9 + (11 * x1)) + 2)), (4, .int (I (71 + 4) ((9 + (11 * x1)) + 2).toNatClampNeg)), (5, .int (I (71 + 4) ((((9 + (11 * x1)) + 2) + 1) + x2).toNatClampNeg))]) rfl rfl rfl ?_
    refine lh_iload (q := 5) rfl rfl ?_
    refine lh_aload_n (q := 0) rfl rfl rfl ?_
    refine lh_bdE hf (fun r14 e15 hf => ?_)
    refine lh_cVi (N := m_LM_cells) (d := 0) (o := 65) (As := []) (st := [.int (I (71 + 4) ((((9 + (11 * x1)) + 2) + 1) + x2).toNatClampNeg)]) rfl rfl v_LM_cells (hS.1 0 _ rfl) rfl rfl rfl ⟨rfl, rfl⟩ rfl (t_LM_cells hG hS e15 ?_)
    refine lh_icmp_ge rfl (fun c16 => ?_) (fun c16 => ?_)
    · have hf := lh_ifT hf c16
      refine lh_iconst rfl lh_k_m1 ?_
      exact lh_iret rfl rfl rfl (by obtain rfl := Option.some.inj hf; exact hK)
    · have hf := lh_ifF hf c16
      refine lh_iload (q := 5) rfl rfl ?_
      refine lh_goto rfl ?_
      exact lh_iret rfl rfl rfl (by obtain rfl := Option.some.inj hf; exact hK)
def f_LM_alibi_17 (v1 : Int32) (v2 : Int32) (I : lh_II) : Nat → Int32 → Int32 → Option (Int32)
  | 0, _, _ => none
  | n + 1, v3, v4 => if 8 ≤ v4 then some v3 else lh_bd (f_LM_cellOf v1 v4 I) fun r8 => if r8 < 0 then f_LM_alibi_17 v1 v2 I n (v3 ||| 0) (v4 + 1) else lh_bd (f_LM_cellOf v1 v4 I) fun r11 => if r11 = v2 then f_LM_alibi_17 v1 v2 I n (v3 ||| 0) (v4 + 1) else f_LM_alibi_17 v1 v2 I n (v3 ||| ((1 : Int32) <<< (v4 &&& 31))) (v4 + 1)
def f_LM_alibi (x1 : Int32) (x2 : Int32) (I : lh_II) : Option (Int32 × lh_II) := lh_bd (f_LM_isVisitor x1 (lh_u2 I (65 + 4) 0 0)) fun r1 => if r1 = 0 then some ((-1), lh_u2 I (65 + 4) 0 0) else lh_bd (f_LM_isCell x2 (lh_u2 I (65 + 4) 0 0)) fun r4 => if r4 = 0 then some ((-1), lh_u2 I (65 + 4) 0 0) else lh_bd (f_LM_alibi_17 x1 x2 (lh_u2 I (65 + 4) 0 0) lh_fuel 0 0) fun r14 => some (r14, lh_u2 I (65 + 4) 0 0)
theorem t_LM_alibi_17 {Γ : lh_Cx} {F : lh_FF} {S : lh_SS} {Z : List Frame → Array Value → State → State → Prop} (hG : lh_GX Γ) (hS : lh_laym F S)  {v1 : Int32} {v2 : Int32} {I : lh_II} {L : lh_LL} : ∀ (n : Nat) (v3 : Int32) (v4 : Int32) (o : Int32), f_LM_alibi_17 v1 v2 I n v3 v4 = some o → ∀ (x0_ : lh_G Γ m_LM_alibi (lh_R 2 0 0) Z 0 0 41 [(3, .int o)] [] (I, L, F, S)), lh_G Γ m_LM_alibi (lh_R 2 0 0) Z 0 0 17 [(0, .ref (65 + 4)), (1, .int v1), (2, .int v2), (3, .int v3), (4, .int v4)] [] (I, L, F, S) := by
  intro n
  induction n with
  | zero => intro v3 v4 o hf; cases hf
  | succ n ih =>
    intro v3 v4 o hf x0_
    rw [f_LM_alibi_17] at hf
    refine lh_iload (q := 4) rfl rfl ?_
    refine lh_bipush rfl lh_b_8 ?_
    refine lh_icmp_ge rfl (fun c7 => ?_) (fun c7 => ?_)
    · have hf := lh_ifT hf c7
      exact lh_less [3] rfl (by cases hf; exact x0_)
    · have hf := lh_ifF hf c7
      refine lh_iload_n (q := 3) rfl rfl rfl ?_
      refine lh_aload_n (q := 0) rfl rfl rfl ?_
      refine lh_iload_n (q := 1) rfl rfl rfl ?_
      refine lh_iload (q := 4) rfl rfl ?_
      refine lh_bdE hf (fun r8 e9 hf => ?_)
      refine lh_cVi (N := m_LM_cellOf) (d := 1) (o := 65) (As := [.int v1, .int v4]) (st := [.int v3]) rfl rfl v_LM_cellOf (hS.1 0 _ rfl) rfl rfl rfl ⟨rfl, rfl⟩ rfl (t_LM_cellOf hG hS e9 ?_)
      refine lh_if_lt rfl (fun c10 => ?_) (fun c10 => ?_)
      · have hf := lh_ifT hf c10
        refine lh_iconst rfl lh_k_0 ?_
        refine lh_ior rfl ?_
        refine lh_istore_n (lv' := [(0, .ref (65 + 4)), (1, .int v1), (2, .int v2), (3, .int (v3 ||| 0)), (4, .int v4)]) rfl rfl rfl rfl ?_
        refine lh_iinc (q := 4) (v := (v4 + 1)) (lv' := [(0, .ref (65 + 4)), (1, .int v1), (2, .int v2), (3, .int (v3 ||| 0)), (4, .int (v4 + 1))]) rfl rfl (congrArg (v4 + ·) (by decide)) rfl rfl ?_
        refine lh_goto rfl ?_
        exact ih (v3 ||| 0) (v4 + 1) _ hf x0_
      · have hf := lh_ifF hf c10
        refine lh_aload_n (q := 0) rfl rfl rfl ?_
        refine lh_iload_n (q := 1) rfl rfl rfl ?_
        refine lh_iload (q := 4) rfl rfl ?_
        refine lh_bdE hf (fun r11 e12 hf => ?_)
        refine lh_cVi (N := m_LM_cellOf) (d := 1) (o := 65) (As := [.int v1, .int v4]) (st := [.int v3]) rfl rfl v_LM_cellOf (hS.1 0 _ rfl) rfl rfl rfl ⟨rfl, rfl⟩ rfl (t_LM_cellOf hG hS e12 ?_)
        refine lh_iload_n (q := 2) rfl rfl rfl ?_
        refine lh_icmp_eq rfl (fun c13 => ?_) (fun c13 => ?_)
        · have hf := lh_ifT hf c13
          refine lh_iconst rfl lh_k_0 ?_
          refine lh_ior rfl ?_
          refine lh_istore_n (lv' := [(0, .ref (65 + 4)), (1, .int v1), (2, .int v2), (3, .int (v3 ||| 0)), (4, .int v4)]) rfl rfl rfl rfl ?_
          refine lh_iinc (q := 4) (v := (v4 + 1)) (lv' := [(0, .ref (65 + 4)), (1, .int v1), (2, .int v2), (3, .int (v3 ||| 0)), (4, .int (v4 + 1))]) rfl rfl (congrArg (v4 + ·) (by decide)) rfl rfl ?_
          refine lh_goto rfl ?_
          exact ih (v3 ||| 0) (v4 + 1) _ hf x0_
        · have hf := lh_ifF hf c13
          refine lh_iconst rfl lh_k_1 ?_
          refine lh_iload (q := 4) rfl rfl ?_
          refine lh_ishl rfl ?_
          refine lh_goto rfl ?_
          refine lh_ior rfl ?_
          refine lh_istore_n (lv' := [(0, .ref (65 + 4)), (1, .int v1), (2, .int v2), (3, .int (v3 ||| ((1 : Int32) <<< (v4 &&& 31)))), (4, .int v4)]) rfl rfl rfl rfl ?_
          refine lh_iinc (q := 4) (v := (v4 + 1)) (lv' := [(0, .ref (65 + 4)), (1, .int v1), (2, .int v2), (3, .int (v3 ||| ((1 : Int32) <<< (v4 &&& 31)))), (4, .int (v4 + 1))]) rfl rfl (congrArg (v4 + ·) (by decide)) rfl rfl ?_
          refine lh_goto rfl ?_
          exact ih (v3 ||| ((1 : Int32) <<< (v4 &&& 31))) (v4 + 1) _ hf x0_
theorem t_LM_alibi {Γ : lh_Cx} {I : lh_II} {L : lh_LL} {F : lh_FF} {S : lh_SS} {K : Int32 → lh_Hp → Prop} {r : Int32 × lh_II} (hG : lh_GX Γ) (hS : lh_laym F S)  {x1 : Int32} {x2 : Int32} (hf : f_LM_alibi x1 x2 I = some r) (hK : K r.1 (r.2, L, F, S)) : lh_Met Γ m_LM_alibi 2 0 0 [.ref (65 + 4), .int x1, .int x2] (I, L, F, S) (lh_ki K) := by
  rw [f_LM_alibi] at hf
  refine lh_ofG k_LM_alibi [(0, .ref (65 + 4)), (1, .int x1), (2, .int x2)] rfl (Nat.le_of_ble_eq_true rfl) rfl ?_
  refine lh_aload_n (q := 0) rfl rfl rfl ?_
  refine lh_iconst rfl lh_k_0 ?_
  refine lh_putI4 rfl rfl (hS.1 0 _ rfl) rfl rfl ?_
  refine lh_aload_n (q := 0) rfl rfl rfl ?_
  refine lh_iload_n (q := 1) rfl rfl rfl ?_
  refine lh_bdE hf (fun r1 e2 hf => ?_)
  refine lh_cVi (N := m_LM_isVisitor) (d := 1) (o := 65) (As := [.int x1]) (st := []) rfl rfl v_LM_isVisitor (hS.1 0 _ rfl) rfl rfl rfl ⟨rfl, rfl⟩ rfl (t_LM_isVisitor hG hS e2 ?_)
  refine lh_if_eq rfl (fun c3 => ?_) (fun c3 => ?_)
  · have hf := lh_ifT hf c3
    refine lh_iconst rfl lh_k_m1 ?_
    exact lh_iret rfl rfl rfl (by obtain rfl := Option.some.inj hf; exact hK)
  · have hf := lh_ifF hf c3
    refine lh_aload_n (q := 0) rfl rfl rfl ?_
    refine lh_iload_n (q := 2) rfl rfl rfl ?_
    refine lh_bdE hf (fun r4 e5 hf => ?_)
    refine lh_cVi (N := m_LM_isCell) (d := 1) (o := 65) (As := [.int x2]) (st := []) rfl rfl v_LM_isCell (hS.1 0 _ rfl) rfl rfl rfl ⟨rfl, rfl⟩ rfl (t_LM_isCell hG hS e5 ?_)
    refine lh_if_ne rfl (fun c6 => ?_) (fun c6 => ?_)
    · have hf := lh_ifF hf c6
      refine lh_iconst rfl lh_k_0 ?_
      refine lh_istore_n (lv' := [(0, .ref (65 + 4)), (1, .int x1), (2, .int x2), (3, .int 0)]) rfl rfl rfl rfl ?_
      refine lh_iconst rfl lh_k_0 ?_
      refine lh_istore (lv' := [(0, .ref (65 + 4)), (1, .int x1), (2, .int x2), (3, .int 0), (4, .int 0)]) rfl rfl rfl ?_
      refine lh_bdE hf (fun r14 e15 hf => ?_)
      refine t_LM_alibi_17 hG hS  _ 0 0 _ e15 ?_
      refine lh_iload_n (q := 0) rfl rfl rfl ?_
      exact lh_iret rfl rfl rfl (by obtain rfl := Option.some.inj hf; exact hK)
    · have hf := lh_ifT hf c6
      refine lh_iconst rfl lh_k_m1 ?_
      exact lh_iret rfl rfl rfl (by obtain rfl := Option.some.inj hf; exact hK)
def f_LM_dayOf (x1 : Int32) (I : lh_II) : Option (Int32) := lh_gd (lh_ix ((9 + (11 * x1)) + 1) 200) (some (I (71 + 4) ((9 + (11 * x1)) + 1).toNatClampNeg))
theorem t_LM_dayOf {Γ : lh_Cx} {I : lh_II} {L : lh_LL} {F : lh_FF} {S : lh_SS} {K : Int32 → lh_Hp → Prop} {r : Int32} (hG : lh_GX Γ) (hS : lh_laym F S)  {x1 : Int32} (hf : f_LM_dayOf x1 I = some r) (hK : K r (I, L, F, S)) : lh_Met Γ m_LM_dayOf 0 0 0 [.ref (65 + 4), .int x1] (I, L, F, S) (lh_ki K) := by
  rw [f_LM_dayOf] at hf
  refine lh_ofG k_LM_dayOf [(0, .ref (65 + 4)), (1, .int x1)] rfl (Nat.le_of_ble_eq_true rfl) rfl ?_
  refine lh_aload_n (q := 0) rfl rfl rfl ?_
  refine lh_getR4 rfl rfl (hS.1 0 _ rfl) rfl (hS.2 5 _ rfl) ?_
  refine lh_bipush rfl lh_b_9 ?_
  refine lh_bipush rfl lh_b_11 ?_
  refine lh_iload_n (q := 1) rfl rfl rfl ?_
  refine lh_imul rfl ?_
  refine lh_iadd rfl ?_
  refine lh_iconst rfl lh_k_1 ?_
  refine lh_iadd rfl ?_
  obtain ⟨g1, hf⟩ := lh_gdE hf
  refine lh_iald4 rfl (hS.1 6 _ rfl) g1 ?_
  exact lh_iret rfl rfl rfl (by obtain rfl := Option.some.inj hf; exact hK)
def f_LM_areOfOneDay (x1 : Int32) (x2 : Int32) (I : lh_II) : Option (Int32) := lh_bd (f_LM_isVisitor x1 I) fun r1 => if r1 = 0 then some 0 else lh_bd (f_LM_isVisitor x2 I) fun r4 => if r4 = 0 then some 0 else if x1 = x2 then some 0 else lh_bd (f_LM_dayOf x1 I) fun r8 => lh_bd (f_LM_dayOf x2 I) fun r10 => if r8 = r10 then some 1 else some 0
theorem t_LM_areOfOneDay {Γ : lh_Cx} {I : lh_II} {L : lh_LL} {F : lh_FF} {S : lh_SS} {K : Int32 → lh_Hp → Prop} {r : Int32} (hG : lh_GX Γ) (hS : lh_laym F S)  {x1 : Int32} {x2 : Int32} (hf : f_LM_areOfOneDay x1 x2 I = some r) (hK : K r (I, L, F, S)) : lh_Met Γ m_LM_areOfOneDay 2 0 0 [.ref (65 + 4), .int x1, .int x2] (I, L, F, S) (lh_ki K) := by
  rw [f_LM_areOfOneDay] at hf
  refine lh_ofG k_LM_areOfOneDay [(0, .ref (65 + 4)), (1, .int x1), (2, .int x2)] rfl (Nat.le_of_ble_eq_true rfl) rfl ?_
  refine lh_aload_n (q := 0) rfl rfl rfl ?_
  refine lh_iload_n (q := 1) rfl rfl rfl ?_
  refine lh_bdE hf (fun r1 e2 hf => ?_)
  refine lh_cVi (N := m_LM_isVisitor) (d := 1) (o := 65) (As := [.int x1]) (st := []) rfl rfl v_LM_isVisitor (hS.1 0 _ rfl) rfl rfl rfl ⟨rfl, rfl⟩ rfl (t_LM_isVisitor hG hS e2 ?_)
  refine lh_if_eq rfl (fun c3 => ?_) (fun c3 => ?_)
  · have hf := lh_ifT hf c3
    refine lh_iconst rfl lh_k_0 ?_
    exact lh_iret rfl rfl (by decide) (by obtain rfl := Option.some.inj hf; exact hK)
  · have hf := lh_ifF hf c3
    refine lh_aload_n (q := 0) rfl rfl rfl ?_
    refine lh_iload_n (q := 2) rfl rfl rfl ?_
    refine lh_bdE hf (fun r4 e5 hf => ?_)
    refine lh_cVi (N := m_LM_isVisitor) (d := 1) (o := 65) (As := [.int x2]) (st := []) rfl rfl v_LM_isVisitor (hS.1 0 _ rfl) rfl rfl rfl ⟨rfl, rfl⟩ rfl (t_LM_isVisitor hG hS e5 ?_)
    refine lh_if_eq rfl (fun c6 => ?_) (fun c6 => ?_)
    · have hf := lh_ifT hf c6
      refine lh_iconst rfl lh_k_0 ?_
      exact lh_iret rfl rfl (by decide) (by obtain rfl := Option.some.inj hf; exact hK)
    · have hf := lh_ifF hf c6
      refine lh_iload_n (q := 1) rfl rfl rfl ?_
      refine lh_iload_n (q := 2) rfl rfl rfl ?_
      refine lh_icmp_eq rfl (fun c7 => ?_) (fun c7 => ?_)
      · have hf := lh_ifT hf c7
        refine lh_iconst rfl lh_k_0 ?_
        exact lh_iret rfl rfl (by decide) (by obtain rfl := Option.some.inj hf; exact hK)
      · have hf := lh_ifF hf c7
        refine lh_aload_n (q := 0) rfl rfl rfl ?_
        refine lh_iload_n (q := 1) rfl rfl rfl ?_
        refine lh_bdE hf (fun r8 e9 hf => ?_)
        refine lh_cVi (N := m_LM_dayOf) (d := 0) (o := 65) (As := [.int x1]) (st := []) rfl rfl v_LM_dayOf (hS.1 0 _ rfl) rfl rfl rfl ⟨rfl, rfl⟩ rfl (t_LM_dayOf hG hS e9 ?_)
        refine lh_aload_n (q := 0) rfl rfl rfl ?_
        refine lh_iload_n (q := 2) rfl rfl rfl ?_
        refine lh_bdE hf (fun r10 e11 hf => ?_)
        refine lh_cVi (N := m_LM_dayOf) (d := 0) (o := 65) (As := [.int x2]) (st := [.int r8]) rfl rfl v_LM_dayOf (hS.1 0 _ rfl) rfl rfl rfl ⟨rfl, rfl⟩ rfl (t_LM_dayOf hG hS e11 ?_)
        refine lh_icmp_ne rfl (fun c12 => ?_) (fun c12 => ?_)
        · have hf := lh_ifF hf c12
          refine lh_iconst rfl lh_k_0 ?_
          exact lh_iret rfl rfl (by decide) (by obtain rfl := Option.some.inj hf; exact hK)
        · have hf := lh_ifT hf c12
          refine lh_iconst rfl lh_k_1 ?_
          refine lh_goto rfl ?_
          exact lh_iret rfl rfl (by decide) (by obtain rfl := Option.some.inj hf; exact hK)
def f_LM_isSomebody_4 (v1 : Int32) (v2 : Int32) (v3 : Int32) (I : lh_II) : Nat → Int32 → Int32 → Option (Int32)
  | 0, _, _ => none
  | n + 1, v4, v5 => lh_bd (f_LM_visitors I) fun r1 => if r1 ≤ v5 then some v4 else if v4 = 0 then lh_bd (f_LM_dayOf v5 I) fun r5 => if r5 = v1 then lh_bd (f_LM_cellOf v5 v2 I) fun r8 => if r8 = v3 then f_LM_isSomebody_4 v1 v2 v3 I n 1 (v5 + 1) else f_LM_isSomebody_4 v1 v2 v3 I n 0 (v5 + 1) else f_LM_isSomebody_4 v1 v2 v3 I n 0 (v5 + 1) else f_LM_isSomebody_4 v1 v2 v3 I n 1 (v5 + 1)
def f_LM_isSomebody (x1 : Int32) (x2 : Int32) (x3 : Int32) (I : lh_II) : Option (Int32) := lh_bd (f_LM_isSomebody_4 x1 x2 x3 I lh_fuel 0 0) fun r11 => lh_gd (lh_z r11) (some r11)
theorem t_LM_isSomebody_4 {Γ : lh_Cx} {F : lh_FF} {S : lh_SS} {Z : List Frame → Array Value → State → State → Prop} (hG : lh_GX Γ) (hS : lh_laym F S)  {v1 : Int32} {v2 : Int32} {v3 : Int32} {I : lh_II} {L : lh_LL} : ∀ (n : Nat) (v4 : Int32) (v5 : Int32) (o : Int32), f_LM_isSomebody_4 v1 v2 v3 I n v4 v5 = some o → ∀ (x0_ : lh_G Γ m_LM_isSomebody (lh_R 2 0 0) Z 0 0 27 [(4, .int o)] [] (I, L, F, S)), lh_G Γ m_LM_isSomebody (lh_R 2 0 0) Z 0 0 4 [(0, .ref (65 + 4)), (1, .int v1), (2, .int v2), (3, .int v3), (4, .int v4), (5, .int v5)] [] (I, L, F, S) := by
  intro n
  induction n with
  | zero => intro v4 v5 o hf; cases hf
  | succ n ih =>
    intro v4 v5 o hf x0_
    rw [f_LM_isSomebody_4] at hf
    refine lh_iload (q := 5) rfl rfl ?_
    refine lh_aload_n (q := 0) rfl rfl rfl ?_
    refine lh_bdE hf (fun r1 e2 hf => ?_)
    refine lh_cVi (N := m_LM_visitors) (d := 0) (o := 65) (As := []) (st := [.int v5]) rfl rfl v_LM_visitors (hS.1 0 _ rfl) rfl rfl rfl ⟨rfl, rfl⟩ rfl (t_LM_visitors hG hS e2 ?_)
    refine lh_icmp_ge rfl (fun c3 => ?_) (fun c3 => ?_)
    · have hf := lh_ifT hf c3
      exact lh_less [4] rfl (by cases hf; exact x0_)
    · have hf := lh_ifF hf c3
      refine lh_iload (q := 4) rfl rfl ?_
      refine lh_if_ne rfl (fun c4 => ?_) (fun c4 => ?_)
      · have hf := lh_ifF hf c4
        refine lh_iconst rfl lh_k_1 ?_
        refine lh_goto rfl ?_
        refine lh_istore (lv' := [(0, .ref (65 + 4)), (1, .int v1), (2, .int v2), (3, .int v3), (4, .int 1), (5, .int v5)]) rfl rfl rfl ?_
        refine lh_iinc (q := 5) (v := (v5 + 1)) (lv' := [(0, .ref (65 + 4)), (1, .int v1), (2, .int v2), (3, .int v3), (4, .int 1), (5, .int (v5 + 1))]) rfl rfl (congrArg (v5 + ·) (by decide)) rfl rfl ?_
        refine lh_goto rfl ?_
        exact ih 1 (v5 + 1) _ hf x0_
      · have hf := lh_ifT hf c4
        refine lh_aload_n (q := 0) rfl rfl rfl ?_
        refine lh_iload (q := 5) rfl rfl ?_
        refine lh_bdE hf (fun r5 e6 hf => ?_)
        refine lh_cVi (N := m_LM_dayOf) (d := 0) (o := 65) (As := [.int v5]) (st := []) rfl rfl v_LM_dayOf (hS.1 0 _ rfl) rfl rfl rfl ⟨rfl, rfl⟩ rfl (t_LM_dayOf hG hS e6 ?_)
        refine lh_iload_n (q := 1) rfl rfl rfl ?_
        refine lh_icmp_ne rfl (fun c7 => ?_) (fun c7 => ?_)
        · have hf := lh_ifF hf c7
          refine lh_iconst rfl lh_k_0 ?_
          refine lh_istore (lv' := [(0, .ref (65 + 4)), (1, .int v1), (2, .int v2), (3, .int v3), (4, .int 0), (5, .int v5)]) rfl rfl rfl ?_
          refine lh_iinc (q := 5) (v := (v5 + 1)) (lv' := [(0, .ref (65 + 4)), (1, .int v1), (2, .int v2), (3, .int v3), (4, .int 0), (5, .int (v5 + 1))]) rfl rfl (congrArg (v5 + ·) (by decide)) rfl rfl ?_
          refine lh_goto rfl ?_
          exact ih 0 (v5 + 1) _ hf x0_
        · have hf := lh_ifT hf c7
          refine lh_aload_n (q := 0) rfl rfl rfl ?_
          refine lh_iload (q := 5) rfl rfl ?_
          refine lh_iload_n (q := 2) rfl rfl rfl ?_
          refine lh_bdE hf (fun r8 e9 hf => ?_)
          refine lh_cVi (N := m_LM_cellOf) (d := 1) (o := 65) (As := [.int v5, .int v2]) (st := []) rfl rfl v_LM_cellOf (hS.1 0 _ rfl) rfl rfl rfl ⟨rfl, rfl⟩ rfl (t_LM_cellOf hG hS e9 ?_)
          refine lh_iload_n (q := 3) rfl rfl rfl ?_
          refine lh_icmp_ne rfl (fun c10 => ?_) (fun c10 => ?_)
          · have hf := lh_ifF hf c10
            refine lh_iconst rfl lh_k_0 ?_
            refine lh_istore (lv' := [(0, .ref (65 + 4)), (1, .int v1), (2, .int v2), (3, .int v3), (4, .int 0), (5, .int v5)]) rfl rfl rfl ?_
            refine lh_iinc (q := 5) (v := (v5 + 1)) (lv' := [(0, .ref (65 + 4)), (1, .int v1), (2, .int v2), (3, .int v3), (4, .int 0), (5, .int (v5 + 1))]) rfl rfl (congrArg (v5 + ·) (by decide)) rfl rfl ?_
            refine lh_goto rfl ?_
            exact ih 0 (v5 + 1) _ hf x0_
          · have hf := lh_ifT hf c10
            refine lh_iconst rfl lh_k_1 ?_
            refine lh_goto rfl ?_
            refine lh_istore (lv' := [(0, .ref (65 + 4)), (1, .int v1), (2, .int v2), (3, .int v3), (4, .int 1), (5, .int v5)]) rfl rfl rfl ?_
            refine lh_iinc (q := 5) (v := (v5 + 1)) (lv' := [(0, .ref (65 + 4)), (1, .int v1), (2, .int v2), (3, .int v3), (4, .int 1), (5, .int (v5 + 1))]) rfl rfl (congrArg (v5 + ·) (by decide)) rfl rfl ?_
            refine lh_goto rfl ?_
            exact ih 1 (v5 + 1) _ hf x0_
theorem t_LM_isSomebody {Γ : lh_Cx} {I : lh_II} {L : lh_LL} {F : lh_FF} {S : lh_SS} {K : Int32 → lh_Hp → Prop} {r : Int32} (hG : lh_GX Γ) (hS : lh_laym F S)  {x1 : Int32} {x2 : Int32} {x3 : Int32} (hf : f_LM_isSomebody x1 x2 x3 I = some r) (hK : K r (I, L, F, S)) : lh_Met Γ m_LM_isSomebody 2 0 0 [.ref (65 + 4), .int x1, .int x2, .int x3] (I, L, F, S) (lh_ki K) := by
  rw [f_LM_isSomebody] at hf
  refine lh_ofG k_LM_isSomebody [(0, .ref (65 + 4)), (1, .int x1), (2, .int x2), (3, .int x3)] rfl (Nat.le_of_ble_eq_true rfl) rfl ?_
  refine lh_iconst rfl lh_k_0 ?_
  refine lh_istore (lv' := [(0, .ref (65 + 4)), (1, .int x1), (2, .int x2), (3, .int x3), (4, .int 0)]) rfl rfl rfl ?_
  refine lh_iconst rfl lh_k_0 ?_
  refine lh_istore (lv' := [(0, .ref (65 + 4)), (1, .int x1), (2, .int x2), (3, .int x3), (4, .int 0), (5, .int 0)]) rfl rfl rfl ?_
  refine lh_bdE hf (fun r11 e12 hf => ?_)
  refine t_LM_isSomebody_4 hG hS  _ 0 0 _ e12 ?_
  refine lh_iload (q := 0) rfl rfl ?_
  obtain ⟨g13, hf⟩ := lh_gdE hf
  exact lh_iret rfl rfl (lh_z_nar g13) (by obtain rfl := Option.some.inj hf; exact hK)
def f_LM_daysNow_11 (v1 : Int32) (v2 : Int32) (I : lh_II) : Nat → Int32 → Int32 → Option (Int32)
  | 0, _, _ => none
  | n + 1, v3, v4 => if (I (78 + 4) 7) ≤ v4 then some v3 else if v3 = 0 then f_LM_daysNow_11 v1 v2 I n 0 (v4 + 1) else lh_gd (lh_ix (8 + (3 * v4)) 736) (lh_gd (lh_ix ((8 + (3 * v4)) + 1) 736) (lh_bd (f_LM_isSomebody v2 (I (78 + 4) (8 + (3 * v4)).toNatClampNeg) (I (78 + 4) ((8 + (3 * v4)) + 1).toNatClampNeg) I) fun r6 => lh_gd (lh_ix ((8 + (3 * v4)) + 2) 736) (if (I (78 + 4) ((8 + (3 * v4)) + 2).toNatClampNeg) = 1 then if r6 = 1 then f_LM_daysNow_11 v1 v2 I n 1 (v4 + 1) else f_LM_daysNow_11 v1 v2 I n 0 (v4 + 1) else if r6 = 0 then f_LM_daysNow_11 v1 v2 I n 1 (v4 + 1) else f_LM_daysNow_11 v1 v2 I n 0 (v4 + 1))))
def f_LM_daysNow_4 (I : lh_II) : Nat → Int32 → Int32 → Option (Int32)
  | 0, _, _ => none
  | n + 1, v1, v2 => if 4 ≤ v2 then some v1 else lh_bd (f_LM_daysNow_11 v1 v2 I lh_fuel 1 0) fun r12 => if r12 = 0 then f_LM_daysNow_4 I n (v1 ||| 0) (v2 + 1) else f_LM_daysNow_4 I n (v1 ||| ((1 : Int32) <<< (v2 &&& 31))) (v2 + 1)
def f_LM_daysNow (I : lh_II) : Option (Int32) := lh_bd (f_LM_daysNow_4 I lh_fuel 0 0) fun r15 => some r15
theorem t_LM_daysNow_11 {Γ : lh_Cx} {F : lh_FF} {S : lh_SS} {Z : List Frame → Array Value → State → State → Prop} (hG : lh_GX Γ) (hS : lh_laym F S)  {v1 : Int32} {v2 : Int32} {I : lh_II} {L : lh_LL} : ∀ (n : Nat) (v3 : Int32) (v4 : Int32) (o : Int32), f_LM_daysNow_11 v1 v2 I n v3 v4 = some o → ∀ (x0_ : lh_G Γ m_LM_daysNow (lh_R 3 0 0) Z 0 0 56 [(0, .ref (65 + 4)), (1, .int v1), (2, .int v2), (3, .int o)] [] (I, L, F, S)), lh_G Γ m_LM_daysNow (lh_R 3 0 0) Z 0 0 11 [(0, .ref (65 + 4)), (1, .int v1), (2, .int v2), (3, .int v3), (4, .int v4)] [] (I, L, F, S) := by
  intro n
  induction n with
  | zero => intro v3 v4 o hf; cases hf
  | succ n ih =>
    intro v3 v4 o hf x0_
    rw [f_LM_daysNow_11] at hf
    refine lh_iload (q := 4) rfl rfl ?_
    refine lh_aload_n (q := 0) rfl rfl rfl ?_
    refine lh_getR4 rfl rfl (hS.1 0 _ rfl) rfl (hS.2 12 _ rfl) ?_
    refine lh_bipush rfl lh_b_7 ?_
    refine lh_iald5 (k := 7) rfl (hS.1 13 _ rfl) (by decide) (by decide) ?_
    refine lh_icmp_ge rfl (fun c2 => ?_) (fun c2 => ?_)
    · have hf := lh_ifT hf c2
      exact lh_less [0, 1, 2, 3] rfl (by cases hf; exact x0_)
    · have hf := lh_ifF hf c2
      refine lh_bipush rfl lh_b_8 ?_
      refine lh_iconst rfl lh_k_3 ?_
      refine lh_iload (q := 4) rfl rfl ?_
      refine lh_imul rfl ?_
      refine lh_iadd rfl ?_
      refine lh_istore (lv' := [(0, .ref (65 + 4)), (1, .int v1), (2, .int v2), (3, .int v3), (4, .int v4), (5, .int (8 + (3 * v4)))]) rfl rfl rfl ?_
      refine lh_iload_n (q := 3) rfl rfl rfl ?_
      refine lh_if_eq rfl (fun c3 => ?_) (fun c3 => ?_)
      · have hf := lh_ifT hf c3
        refine lh_iconst rfl lh_k_0 ?_
        refine lh_istore_n (lv' := [(0, .ref (65 + 4)), (1, .int v1), (2, .int v2), (3, .int 0), (4, .int v4), (5, .int (8 + (3 * v4)))]) rfl rfl rfl rfl ?_
        refine lh_iinc (q := 4) (v := (v4 + 1)) (lv' := [(0, .ref (65 + 4)), (1, .int v1), (2, .int v2), (3, .int 0), (4, .int (v4 + 1)), (5, .int (8 + (3 * v4)))]) rfl rfl (congrArg (v4 + ·) (by decide)) rfl rfl ?_
        refine lh_goto rfl ?_
        refine lh_less [0, 1, 2, 3, 4] rfl ?_
        exact ih 0 (v4 + 1) _ hf x0_
      · have hf := lh_ifF hf c3
        refine lh_aload_n (q := 0) rfl rfl rfl ?_
        refine lh_iload_n (q := 2) rfl rfl rfl ?_
        refine lh_aload_n (q := 0) rfl rfl rfl ?_
        refine lh_getR4 rfl rfl (hS.1 0 _ rfl) rfl (hS.2 12 _ rfl) ?_
        refine lh_iload (q := 5) rfl rfl ?_
        obtain ⟨g4, hf⟩ := lh_gdE hf
        refine lh_iald4 rfl (hS.1 13 _ rfl) g4 ?_
        refine lh_aload_n (q := 0) rfl rfl rfl ?_
        refine lh_getR4 rfl rfl (hS.1 0 _ rfl) rfl (hS.2 12 _ rfl) ?_
        refine lh_iload (q := 5) rfl rfl ?_
        refine lh_iconst rfl lh_k_1 ?_
        refine lh_iadd rfl ?_
        obtain ⟨g5, hf⟩ := lh_gdE hf
        refine lh_iald4 rfl (hS.1 13 _ rfl) g5 ?_
        refine lh_bdE hf (fun r6 e7 hf => ?_)
        refine lh_cVi (N := m_LM_isSomebody) (d := 2) (o := 65) (As := [.int v2, .int (I (78 + 4) (8 + (3 * v4)).toNatClampNeg), .int (I (78 + 4) ((8 + (3 * v4)) + 1).toNatClampNeg)]) (st := []) rfl rfl v_LM_isSomebody (hS.1 0 _ rfl) rfl rfl rfl ⟨rfl, rfl⟩ rfl (t_LM_isSomebody hG hS e7 ?_)
        refine lh_aload_n (q := 0) rfl rfl rfl ?_
        refine lh_getR4 rfl rfl (hS.1 0 _ rfl) rfl (hS.2 12 _ rfl) ?_
        refine lh_iload (q := 5) rfl rfl ?_
        refine lh_iconst rfl lh_k_2 ?_
        refine lh_iadd rfl ?_
        obtain ⟨g8, hf⟩ := lh_gdE hf
        refine lh_iald4 rfl (hS.1 13 _ rfl) g8 ?_
        refine lh_iconst rfl lh_k_1 ?_
        refine lh_icmp_ne rfl (fun c9 => ?_) (fun c9 => ?_)
        · have hf := lh_ifF hf c9
          refine lh_iconst rfl lh_k_0 ?_
          refine lh_icmp_ne rfl (fun c10 => ?_) (fun c10 => ?_)
          · have hf := lh_ifF hf c10
            refine lh_iconst rfl lh_k_0 ?_
            refine lh_istore_n (lv' := [(0, .ref (65 + 4)), (1, .int v1), (2, .int v2), (3, .int 0), (4, .int v4), (5, .int (8 + (3 * v4)))]) rfl rfl rfl rfl ?_
            refine lh_iinc (q := 4) (v := (v4 + 1)) (lv' := [(0, .ref (65 + 4)), (1, .int v1), (2, .int v2), (3, .int 0), (4, .int (v4 + 1)), (5, .int (8 + (3 * v4)))]) rfl rfl (congrArg (v4 + ·) (by decide)) rfl rfl ?_
            refine lh_goto rfl ?_
            refine lh_less [0, 1, 2, 3, 4] rfl ?_
            exact ih 0 (v4 + 1) _ hf x0_
          · have hf := lh_ifT hf c10
            refine lh_iconst rfl lh_k_1 ?_
            refine lh_goto rfl ?_
            refine lh_istore_n (lv' := [(0, .ref (65 + 4)), (1, .int v1), (2, .int v2), (3, .int 1), (4, .int v4), (5, .int (8 + (3 * v4)))]) rfl rfl rfl rfl ?_
            refine lh_iinc (q := 4) (v := (v4 + 1)) (lv' := [(0, .ref (65 + 4)), (1, .int v1), (2, .int v2), (3, .int 1), (4, .int (v4 + 1)), (5, .int (8 + (3 * v4)))]) rfl rfl (congrArg (v4 + ·) (by decide)) rfl rfl ?_
            refine lh_goto rfl ?_
            refine lh_less [0, 1, 2, 3, 4] rfl ?_
            exact ih 1 (v4 + 1) _ hf x0_
        · have hf := lh_ifT hf c9
          refine lh_iconst rfl lh_k_1 ?_
          refine lh_goto rfl ?_
          refine lh_icmp_ne rfl (fun c11 => ?_) (fun c11 => ?_)
          · have hf := lh_ifF hf c11
            refine lh_iconst rfl lh_k_0 ?_
            refine lh_istore_n (lv' := [(0, .ref (65 + 4)), (1, .int v1), (2, .int v2), (3, .int 0), (4, .int v4), (5, .int (8 + (3 * v4)))]) rfl rfl rfl rfl ?_
            refine lh_iinc (q := 4) (v := (v4 + 1)) (lv' := [(0, .ref (65 + 4)), (1, .int v1), (2, .int v2), (3, .int 0), (4, .int (v4 + 1)), (5, .int (8 + (3 * v4)))]) rfl rfl (congrArg (v4 + ·) (by decide)) rfl rfl ?_
            refine lh_goto rfl ?_
            refine lh_less [0, 1, 2, 3, 4] rfl ?_
            exact ih 0 (v4 + 1) _ hf x0_
          · have hf := lh_ifT hf c11
            refine lh_iconst rfl lh_k_1 ?_
            refine lh_goto rfl ?_
            refine lh_istore_n (lv' := [(0, .ref (65 + 4)), (1, .int v1), (2, .int v2), (3, .int 1), (4, .int v4), (5, .int (8 + (3 * v4)))]) rfl rfl rfl rfl ?_
            refine lh_iinc (q := 4) (v := (v4 + 1)) (lv' := [(0, .ref (65 + 4)), (1, .int v1), (2, .int v2), (3, .int 1), (4, .int (v4 + 1)), (5, .int (8 + (3 * v4)))]) rfl rfl (congrArg (v4 + ·) (by decide)) rfl rfl ?_
            refine lh_goto rfl ?_
            refine lh_less [0, 1, 2, 3, 4] rfl ?_
            exact ih 1 (v4 + 1) _ hf x0_
theorem t_LM_daysNow_4 {Γ : lh_Cx} {F : lh_FF} {S : lh_SS} {Z : List Frame → Array Value → State → State → Prop} (hG : lh_GX Γ) (hS : lh_laym F S)   {I : lh_II} {L : lh_LL} : ∀ (n : Nat) (v1 : Int32) (v2 : Int32) (o : Int32), f_LM_daysNow_4 I n v1 v2 = some o → ∀ (x0_ : lh_G Γ m_LM_daysNow (lh_R 3 0 0) Z 0 0 68 [(1, .int o)] [] (I, L, F, S)), lh_G Γ m_LM_daysNow (lh_R 3 0 0) Z 0 0 4 [(0, .ref (65 + 4)), (1, .int v1), (2, .int v2)] [] (I, L, F, S) := by
  intro n
  induction n with
  | zero => intro v1 v2 o hf; cases hf
  | succ n ih =>
    intro v1 v2 o hf x0_
    rw [f_LM_daysNow_4] at hf
    refine lh_iload_n (q := 2) rfl rfl rfl ?_
    refine lh_iconst rfl lh_k_4 ?_
    refine lh_icmp_ge rfl (fun c1 => ?_) (fun c1 => ?_)
    · have hf := lh_ifT hf c1
      exact lh_less [1] rfl (by cases hf; exact x0_)
    · have hf := lh_ifF hf c1
      refine lh_iconst rfl lh_k_1 ?_
      refine lh_istore_n (lv' := [(0, .ref (65 + 4)), (1, .int v1), (2, .int v2), (3, .int 1)]) rfl rfl rfl rfl ?_
      refine lh_iconst rfl lh_k_0 ?_
      refine lh_istore (lv' := [(0, .ref (65 + 4)), (1, .int v1), (2, .int v2), (3, .int 1), (4, .int 0)]) rfl rfl rfl ?_
      refine lh_bdE hf (fun r12 e13 hf => ?_)
      refine t_LM_daysNow_11 hG hS  _ 1 0 _ e13 ?_
      refine lh_iload_n (q := 1) rfl rfl rfl ?_
      refine lh_iload_n (q := 3) rfl rfl rfl ?_
      refine lh_if_eq rfl (fun c14 => ?_) (fun c14 => ?_)
      · have hf := lh_ifT hf c14
        refine lh_iconst rfl lh_k_0 ?_
        refine lh_ior rfl ?_
        refine lh_istore_n (lv' := [(0, .ref (65 + 4)), (1, .int (v1 ||| 0)), (2, .int v2), (3, .int r12)]) rfl rfl rfl rfl ?_
        refine lh_iinc (q := 2) (v := (v2 + 1)) (lv' := [(0, .ref (65 + 4)), (1, .int (v1 ||| 0)), (2, .int (v2 + 1)), (3, .int r12)]) rfl rfl (congrArg (v2 + ·) (by decide)) rfl rfl ?_
        refine lh_goto rfl ?_
        refine lh_less [0, 1, 2] rfl ?_
        exact ih (v1 ||| 0) (v2 + 1) _ hf x0_
      · have hf := lh_ifF hf c14
        refine lh_iconst rfl lh_k_1 ?_
        refine lh_iload_n (q := 2) rfl rfl rfl ?_
        refine lh_ishl rfl ?_
        refine lh_goto rfl ?_
        refine lh_ior rfl ?_
        refine lh_istore_n (lv' := [(0, .ref (65 + 4)), (1, .int (v1 ||| ((1 : Int32) <<< (v2 &&& 31)))), (2, .int v2), (3, .int r12)]) rfl rfl rfl rfl ?_
        refine lh_iinc (q := 2) (v := (v2 + 1)) (lv' := [(0, .ref (65 + 4)), (1, .int (v1 ||| ((1 : Int32) <<< (v2 &&& 31)))), (2, .int (v2 + 1)), (3, .int r12)]) rfl rfl (congrArg (v2 + ·) (by decide)) rfl rfl ?_
        refine lh_goto rfl ?_
        refine lh_less [0, 1, 2] rfl ?_
        exact ih (v1 ||| ((1 : Int32) <<< (v2 &&& 31))) (v2 + 1) _ hf x0_
theorem t_LM_daysNow {Γ : lh_Cx} {I : lh_II} {L : lh_LL} {F : lh_FF} {S : lh_SS} {K : Int32 → lh_Hp → Prop} {r : Int32} (hG : lh_GX Γ) (hS : lh_laym F S)  (hf : f_LM_daysNow I = some r) (hK : K r (I, L, F, S)) : lh_Met Γ m_LM_daysNow 3 0 0 [.ref (65 + 4)] (I, L, F, S) (lh_ki K) := by
  rw [f_LM_daysNow] at hf
  refine lh_ofG k_LM_daysNow [(0, .ref (65 + 4))] rfl (Nat.le_of_ble_eq_true rfl) rfl ?_
  refine lh_iconst rfl lh_k_0 ?_
  refine lh_istore_n (lv' := [(0, .ref (65 + 4)), (1, .int 0)]) rfl rfl rfl rfl ?_
  refine lh_iconst rfl lh_k_0 ?_
  refine lh_istore_n (lv' := [(0, .ref (65 + 4)), (1, .int 0), (2, .int 0)]) rfl rfl rfl rfl ?_
  refine lh_bdE hf (fun r15 e16 hf => ?_)
  refine t_LM_daysNow_4 hG hS  _ 0 0 _ e16 ?_
  refine lh_iload_n (q := 0) rfl rfl rfl ?_
  exact lh_iret rfl rfl rfl (by obtain rfl := Option.some.inj hf; exact hK)
def f_LM_bits_4 (v0 : Int32) : Nat → Int32 → Int32 → Option (Int32)
  | 0, _, _ => none
  | n + 1, v1, v2 => if 30 ≤ v2 then some v1 else f_LM_bits_4 v0 n (v1 + ((v0 >>> (v2 &&& 31)) &&& 1)) (v2 + 1)
def f_LM_bits (x1 : Int32) : Option (Int32) := lh_bd (f_LM_bits_4 x1 lh_fuel 0 0) fun r2 => some r2
theorem t_LM_bits_4 {Γ : lh_Cx} {F : lh_FF} {S : lh_SS} {Z : List Frame → Array Value → State → State → Prop} (hG : lh_GX Γ) (hS : lh_laym F S)  {v0 : Int32} {I : lh_II} {L : lh_LL} : ∀ (n : Nat) (v1 : Int32) (v2 : Int32) (o : Int32), f_LM_bits_4 v0 n v1 v2 = some o → ∀ (x0_ : lh_G Γ m_LM_bits (lh_R 0 0 0) Z 0 0 17 [(1, .int o)] [] (I, L, F, S)), lh_G Γ m_LM_bits (lh_R 0 0 0) Z 0 0 4 [(0, .int v0), (1, .int v1), (2, .int v2)] [] (I, L, F, S) := by
  intro n
  induction n with
  | zero => intro v1 v2 o hf; cases hf
  | succ n ih =>
    intro v1 v2 o hf x0_
    rw [f_LM_bits_4] at hf
    refine lh_iload_n (q := 2) rfl rfl rfl ?_
    refine lh_bipush rfl lh_b_30 ?_
    refine lh_icmp_ge rfl (fun c1 => ?_) (fun c1 => ?_)
    · have hf := lh_ifT hf c1
      exact lh_less [1] rfl (by cases hf; exact x0_)
    · have hf := lh_ifF hf c1
      refine lh_iload_n (q := 1) rfl rfl rfl ?_
      refine lh_iload_n (q := 0) rfl rfl rfl ?_
      refine lh_iload_n (q := 2) rfl rfl rfl ?_
      refine lh_ishr rfl ?_
      refine lh_iconst rfl lh_k_1 ?_
      refine lh_iand rfl ?_
      refine lh_iadd rfl ?_
      refine lh_istore_n (lv' := [(0, .int v0), (1, .int (v1 + ((v0 >>> (v2 &&& 31)) &&& 1))), (2, .int v2)]) rfl rfl rfl rfl ?_
      refine lh_iinc (q := 2) (v := (v2 + 1)) (lv' := [(0, .int v0), (1, .int (v1 + ((v0 >>> (v2 &&& 31)) &&& 1))), (2, .int (v2 + 1))]) rfl rfl (congrArg (v2 + ·) (by decide)) rfl rfl ?_
      refine lh_goto rfl ?_
      exact ih (v1 + ((v0 >>> (v2 &&& 31)) &&& 1)) (v2 + 1) _ hf x0_
theorem t_LM_bits {Γ : lh_Cx} {I : lh_II} {L : lh_LL} {F : lh_FF} {S : lh_SS} {K : Int32 → lh_Hp → Prop} {r : Int32} (hG : lh_GX Γ) (hS : lh_laym F S)  {x1 : Int32} (hf : f_LM_bits x1 = some r) (hK : K r (I, L, F, S)) : lh_Met Γ m_LM_bits 0 0 0 [.int x1] (I, L, F, S) (lh_ki K) := by
  rw [f_LM_bits] at hf
  refine lh_ofG k_LM_bits [(0, .int x1)] rfl (Nat.le_of_ble_eq_true rfl) rfl ?_
  refine lh_iconst rfl lh_k_0 ?_
  refine lh_istore_n (lv' := [(0, .int x1), (1, .int 0)]) rfl rfl rfl rfl ?_
  refine lh_iconst rfl lh_k_0 ?_
  refine lh_istore_n (lv' := [(0, .int x1), (1, .int 0), (2, .int 0)]) rfl rfl rfl rfl ?_
  refine lh_bdE hf (fun r2 e3 hf => ?_)
  refine t_LM_bits_4 hG hS  _ 0 0 _ e3 ?_
  refine lh_iload_n (q := 0) rfl rfl rfl ?_
  exact lh_iret rfl rfl rfl (by obtain rfl := Option.some.inj hf; exact hK)
def f_LM_ask_26 (v1 : Int32) (v2 : Int32) (v3 : Int32) (v4 : Int32) (v5 : Int32) (I : lh_II) : Nat → Int32 → Int32 → Option (Int32)
  | 0, _, _ => none
  | n + 1, v6, v7 => if 4 ≤ v7 then some v6 else if ((v1 >>> (v7 &&& 31)) &&& 1) = 1 then lh_bd (f_LM_isSomebody v7 v4 v5 I) fun r11 => if r11 = 0 then f_LM_ask_26 v1 v2 v3 v4 v5 I n (v6 + 0) (v7 + 1) else f_LM_ask_26 v1 v2 v3 v4 v5 I n (v6 + 1) (v7 + 1) else f_LM_ask_26 v1 v2 v3 v4 v5 I n (v6 + 0) (v7 + 1)
def f_LM_ask_18 (v1 : Int32) (v4 : Int32) (I : lh_II) : Nat → Int32 → Int32 → Int32 → Option (Int32 × Int32)
  | 0, _, _, _ => none
  | n + 1, v2, v3, v5 => lh_bd (f_LM_cells I) fun r6 => if r6 ≤ v5 then some (v2, v3) else lh_bd (f_LM_ask_26 v1 v2 v3 v4 v5 I lh_fuel 0 0) fun r14 => lh_bd (f_LM_bits v1) fun r16 => if r14 ≤ (r16 - r14) then lh_bd (f_LM_bits v1) fun r19 => if v3 ≤ (r19 - r14) then f_LM_ask_18 v1 v4 I n v2 v3 (v5 + 1) else f_LM_ask_18 v1 v4 I n ((12 * v4) + v5) (r19 - r14) (v5 + 1) else if v3 ≤ r14 then f_LM_ask_18 v1 v4 I n v2 v3 (v5 + 1) else f_LM_ask_18 v1 v4 I n ((12 * v4) + v5) r14 (v5 + 1)
def f_LM_ask_13 (v1 : Int32) (I : lh_II) : Nat → Int32 → Int32 → Int32 → Option (Int32)
  | 0, _, _, _ => none
  | n + 1, v2, v3, v4 => if 8 ≤ v4 then some v2 else lh_bd (f_LM_ask_18 v1 v4 I lh_fuel v2 v3 0) fun r23 => f_LM_ask_13 v1 I n r23.1 r23.2 (v4 + 1)
def f_LM_ask (I : lh_II) : Option (Int32 × lh_II) := lh_bd (f_LM_daysNow (lh_u2 I (65 + 4) 0 0)) fun r1 => lh_bd (f_LM_bits r1) fun r3 => lh_bd (f_LM_ask_13 r1 (lh_u2 I (65 + 4) 0 0) lh_fuel (-1) r3 0) fun r25 => some (r25, lh_u2 I (65 + 4) 0 0)
theorem t_LM_ask_26 {Γ : lh_Cx} {F : lh_FF} {S : lh_SS} {Z : List Frame → Array Value → State → State → Prop} (hG : lh_GX Γ) (hS : lh_laym F S)  {v1 : Int32} {v2 : Int32} {v3 : Int32} {v4 : Int32} {v5 : Int32} {I : lh_II} {L : lh_LL} : ∀ (n : Nat) (v6 : Int32) (v7 : Int32) (o : Int32), f_LM_ask_26 v1 v2 v3 v4 v5 I n v6 v7 = some o → ∀ (x0_ : lh_G Γ m_LM_ask (lh_R 4 0 0) Z 0 0 50 [(0, .ref (65 + 4)), (1, .int v1), (2, .int v2), (3, .int v3), (4, .int v4), (5, .int v5), (6, .int o)] [] (I, L, F, S)), lh_G Γ m_LM_ask (lh_R 4 0 0) Z 0 0 26 [(0, .ref (65 + 4)), (1, .int v1), (2, .int v2), (3, .int v3), (4, .int v4), (5, .int v5), (6, .int v6), (7, .int v7)] [] (I, L, F, S) := by
  intro n
  induction n with
  | zero => intro v6 v7 o hf; cases hf
  | succ n ih =>
    intro v6 v7 o hf x0_
    rw [f_LM_ask_26] at hf
    refine lh_iload (q := 7) rfl rfl ?_
    refine lh_iconst rfl lh_k_4 ?_
    refine lh_icmp_ge rfl (fun c9 => ?_) (fun c9 => ?_)
    · have hf := lh_ifT hf c9
      exact lh_less [0, 1, 2, 3, 4, 5, 6] rfl (by cases hf; exact x0_)
    · have hf := lh_ifF hf c9
      refine lh_iload (q := 6) rfl rfl ?_
      refine lh_iload_n (q := 1) rfl rfl rfl ?_
      refine lh_iload (q := 7) rfl rfl ?_
      refine lh_ishr rfl ?_
      refine lh_iconst rfl lh_k_1 ?_
      refine lh_iand rfl ?_
      refine lh_iconst rfl lh_k_1 ?_
      refine lh_icmp_ne rfl (fun c10 => ?_) (fun c10 => ?_)
      · have hf := lh_ifF hf c10
        refine lh_iconst rfl lh_k_0 ?_
        refine lh_iadd rfl ?_
        refine lh_istore (lv' := [(0, .ref (65 + 4)), (1, .int v1), (2, .int v2), (3, .int v3), (4, .int v4), (5, .int v5), (6, .int (v6 + 0)), (7, .int v7)]) rfl rfl rfl ?_
        refine lh_iinc (q := 7) (v := (v7 + 1)) (lv' := [(0, .ref (65 + 4)), (1, .int v1), (2, .int v2), (3, .int v3), (4, .int v4), (5, .int v5), (6, .int (v6 + 0)), (7, .int (v7 + 1))]) rfl rfl (congrArg (v7 + ·) (by decide)) rfl rfl ?_
        refine lh_goto rfl ?_
        exact ih (v6 + 0) (v7 + 1) _ hf x0_
      · have hf := lh_ifT hf c10
        refine lh_aload_n (q := 0) rfl rfl rfl ?_
        refine lh_iload (q := 7) rfl rfl ?_
        refine lh_iload (q := 4) rfl rfl ?_
        refine lh_iload (q := 5) rfl rfl ?_
        refine lh_bdE hf (fun r11 e12 hf => ?_)
        refine lh_cVi (N := m_LM_isSomebody) (d := 2) (o := 65) (As := [.int v7, .int v4, .int v5]) (st := [.int v6]) rfl rfl v_LM_isSomebody (hS.1 0 _ rfl) rfl rfl rfl ⟨rfl, rfl⟩ rfl (t_LM_isSomebody hG hS e12 ?_)
        refine lh_if_eq rfl (fun c13 => ?_) (fun c13 => ?_)
        · have hf := lh_ifT hf c13
          refine lh_iconst rfl lh_k_0 ?_
          refine lh_iadd rfl ?_
          refine lh_istore (lv' := [(0, .ref (65 + 4)), (1, .int v1), (2, .int v2), (3, .int v3), (4, .int v4), (5, .int v5), (6, .int (v6 + 0)), (7, .int v7)]) rfl rfl rfl ?_
          refine lh_iinc (q := 7) (v := (v7 + 1)) (lv' := [(0, .ref (65 + 4)), (1, .int v1), (2, .int v2), (3, .int v3), (4, .int v4), (5, .int v5), (6, .int (v6 + 0)), (7, .int (v7 + 1))]) rfl rfl (congrArg (v7 + ·) (by decide)) rfl rfl ?_
          refine lh_goto rfl ?_
          exact ih (v6 + 0) (v7 + 1) _ hf x0_
        · have hf := lh_ifF hf c13
          refine lh_iconst rfl lh_k_1 ?_
          refine lh_goto rfl ?_
          refine lh_iadd rfl ?_
          refine lh_istore (lv' := [(0, .ref (65 + 4)), (1, .int v1), (2, .int v2), (3, .int v3), (4, .int v4), (5, .int v5), (6, .int (v6 + 1)), (7, .int v7)]) rfl rfl rfl ?_
          refine lh_iinc (q := 7) (v := (v7 + 1)) (lv' := [(0, .ref (65 + 4)), (1, .int v1), (2, .int v2), (3, .int v3), (4, .int v4), (5, .int v5), (6, .int (v6 + 1)), (7, .int (v7 + 1))]) rfl rfl (congrArg (v7 + ·) (by decide)) rfl rfl ?_
          refine lh_goto rfl ?_
          exact ih (v6 + 1) (v7 + 1) _ hf x0_
theorem t_LM_ask_18 {Γ : lh_Cx} {F : lh_FF} {S : lh_SS} {Z : List Frame → Array Value → State → State → Prop} (hG : lh_GX Γ) (hS : lh_laym F S)  {v1 : Int32} {v4 : Int32} {I : lh_II} {L : lh_LL} : ∀ (n : Nat) (v2 : Int32) (v3 : Int32) (v5 : Int32) (o : Int32 × Int32), f_LM_ask_18 v1 v4 I n v2 v3 v5 = some o → ∀ (x0_ : lh_G Γ m_LM_ask (lh_R 4 0 0) Z 0 0 83 [(0, .ref (65 + 4)), (1, .int v1), (2, .int o.1), (3, .int o.2), (4, .int v4)] [] (I, L, F, S)), lh_G Γ m_LM_ask (lh_R 4 0 0) Z 0 0 18 [(0, .ref (65 + 4)), (1, .int v1), (2, .int v2), (3, .int v3), (4, .int v4), (5, .int v5)] [] (I, L, F, S) := by
  intro n
  induction n with
  | zero => intro v2 v3 v5 o hf; cases hf
  | succ n ih =>
    intro v2 v3 v5 o hf x0_
    rw [f_LM_ask_18] at hf
    refine lh_iload (q := 5) rfl rfl ?_
    refine lh_aload_n (q := 0) rfl rfl rfl ?_
    refine lh_bdE hf (fun r6 e7 hf => ?_)
    refine lh_cVi (N := m_LM_cells) (d := 0) (o := 65) (As := []) (st := [.int v5]) rfl rfl v_LM_cells (hS.1 0 _ rfl) rfl rfl rfl ⟨rfl, rfl⟩ rfl (t_LM_cells hG hS e7 ?_)
    refine lh_icmp_ge rfl (fun c8 => ?_) (fun c8 => ?_)
    · have hf := lh_ifT hf c8
      exact lh_less [0, 1, 2, 3, 4] rfl (by cases hf; exact x0_)
    · have hf := lh_ifF hf c8
      refine lh_iconst rfl lh_k_0 ?_
      refine lh_istore (lv' := [(0, .ref (65 + 4)), (1, .int v1), (2, .int v2), (3, .int v3), (4, .int v4), (5, .int v5), (6, .int 0)]) rfl rfl rfl ?_
      refine lh_iconst rfl lh_k_0 ?_
      refine lh_istore (lv' := [(0, .ref (65 + 4)), (1, .int v1), (2, .int v2), (3, .int v3), (4, .int v4), (5, .int v5), (6, .int 0), (7, .int 0)]) rfl rfl rfl ?_
      refine lh_bdE hf (fun r14 e15 hf => ?_)
      refine t_LM_ask_26 hG hS  _ 0 0 _ e15 ?_
      refine lh_iload (q := 6) rfl rfl ?_
      refine lh_iload_n (q := 1) rfl rfl rfl ?_
      refine lh_bdE hf (fun r16 e17 hf => ?_)
      refine lh_cSi (N := m_LM_bits) (d := 0) (As := [.int v1]) (st := [.int r14]) rfl rfl v_LM_bits rfl rfl ⟨rfl, rfl⟩ rfl (t_LM_bits hG hS e17 ?_)
      refine lh_iload (q := 6) rfl rfl ?_
      refine lh_isub rfl ?_
      refine lh_icmp_le rfl (fun c18 => ?_) (fun c18 => ?_)
      · have hf := lh_ifT hf c18
        refine lh_iload_n (q := 1) rfl rfl rfl ?_
        refine lh_bdE hf (fun r19 e20 hf => ?_)
        refine lh_cSi (N := m_LM_bits) (d := 0) (As := [.int v1]) (st := []) rfl rfl v_LM_bits rfl rfl ⟨rfl, rfl⟩ rfl (t_LM_bits hG hS e20 ?_)
        refine lh_iload (q := 6) rfl rfl ?_
        refine lh_isub rfl ?_
        refine lh_istore (lv' := [(0, .ref (65 + 4)), (1, .int v1), (2, .int v2), (3, .int v3), (4, .int v4), (5, .int v5), (6, .int r14), (7, .int (r19 - r14))]) rfl rfl rfl ?_
        refine lh_iload (q := 7) rfl rfl ?_
        refine lh_iload_n (q := 3) rfl rfl rfl ?_
        refine lh_icmp_ge rfl (fun c21 => ?_) (fun c21 => ?_)
        · have hf := lh_ifT hf c21
          refine lh_iload_n (q := 2) rfl rfl rfl ?_
          refine lh_istore_n (lv' := [(0, .ref (65 + 4)), (1, .int v1), (2, .int v2), (3, .int v3), (4, .int v4), (5, .int v5), (6, .int r14), (7, .int (r19 - r14))]) rfl rfl rfl rfl ?_
          refine lh_iload (q := 7) rfl rfl ?_
          refine lh_iload_n (q := 3) rfl rfl rfl ?_
          refine lh_icmp_ge rfl (fun _ => ?_) (fun c => absurd c21 c)
          refine lh_iload_n (q := 3) rfl rfl rfl ?_
          refine lh_istore_n (lv' := [(0, .ref (65 + 4)), (1, .int v1), (2, .int v2), (3, .int v3), (4, .int v4), (5, .int v5), (6, .int r14), (7, .int (r19 - r14))]) rfl rfl rfl rfl ?_
          refine lh_iinc (q := 5) (v := (v5 + 1)) (lv' := [(0, .ref (65 + 4)), (1, .int v1), (2, .int v2), (3, .int v3), (4, .int v4), (5, .int (v5 + 1)), (6, .int r14), (7, .int (r19 - r14))]) rfl rfl (congrArg (v5 + ·) (by decide)) rfl rfl ?_
          refine lh_goto rfl ?_
          refine lh_less [0, 1, 2, 3, 4, 5] rfl ?_
          exact ih v2 v3 (v5 + 1) _ hf x0_
        · have hf := lh_ifF hf c21
          refine lh_bipush rfl lh_b_12 ?_
          refine lh_iload (q := 4) rfl rfl ?_
          refine lh_imul rfl ?_
          refine lh_iload (q := 5) rfl rfl ?_
          refine lh_iadd rfl ?_
          refine lh_goto rfl ?_
          refine lh_istore_n (lv' := [(0, .ref (65 + 4)), (1, .int v1), (2, .int ((12 * v4) + v5)), (3, .int v3), (4, .int v4), (5, .int v5), (6, .int r14), (7, .int (r19 - r14))]) rfl rfl rfl rfl ?_
          refine lh_iload (q := 7) rfl rfl ?_
          refine lh_iload_n (q := 3) rfl rfl rfl ?_
          refine lh_icmp_ge rfl (fun c => absurd c c21) (fun _ => ?_)
          refine lh_iload (q := 7) rfl rfl ?_
          refine lh_goto rfl ?_
          refine lh_istore_n (lv' := [(0, .ref (65 + 4)), (1, .int v1), (2, .int ((12 * v4) + v5)), (3, .int (r19 - r14)), (4, .int v4), (5, .int v5), (6, .int r14), (7, .int (r19 - r14))]) rfl rfl rfl rfl ?_
          refine lh_iinc (q := 5) (v := (v5 + 1)) (lv' := [(0, .ref (65 + 4)), (1, .int v1), (2, .int ((12 * v4) + v5)), (3, .int (r19 - r14)), (4, .int v4), (5, .int (v5 + 1)), (6, .int r14), (7, .int (r19 - r14))]) rfl rfl (congrArg (v5 + ·) (by decide)) rfl rfl ?_
          refine lh_goto rfl ?_
          refine lh_less [0, 1, 2, 3, 4, 5] rfl ?_
          exact ih ((12 * v4) + v5) (r19 - r14) (v5 + 1) _ hf x0_
      · have hf := lh_ifF hf c18
        refine lh_iload (q := 6) rfl rfl ?_
        refine lh_goto rfl ?_
        refine lh_istore (lv' := [(0, .ref (65 + 4)), (1, .int v1), (2, .int v2), (3, .int v3), (4, .int v4), (5, .int v5), (6, .int r14), (7, .int r14)]) rfl rfl rfl ?_
        refine lh_iload (q := 7) rfl rfl ?_
        refine lh_iload_n (q := 3) rfl rfl rfl ?_
        refine lh_icmp_ge rfl (fun c22 => ?_) (fun c22 => ?_)
        · have hf := lh_ifT hf c22
          refine lh_iload_n (q := 2) rfl rfl rfl ?_
          refine lh_istore_n (lv' := [(0, .ref (65 + 4)), (1, .int v1), (2, .int v2), (3, .int v3), (4, .int v4), (5, .int v5), (6, .int r14), (7, .int r14)]) rfl rfl rfl rfl ?_
          refine lh_iload (q := 7) rfl rfl ?_
          refine lh_iload_n (q := 3) rfl rfl rfl ?_
          refine lh_icmp_ge rfl (fun _ => ?_) (fun c => absurd c22 c)
          refine lh_iload_n (q := 3) rfl rfl rfl ?_
          refine lh_istore_n (lv' := [(0, .ref (65 + 4)), (1, .int v1), (2, .int v2), (3, .int v3), (4, .int v4), (5, .int v5), (6, .int r14), (7, .int r14)]) rfl rfl rfl rfl ?_
          refine lh_iinc (q := 5) (v := (v5 + 1)) (lv' := [(0, .ref (65 + 4)), (1, .int v1), (2, .int v2), (3, .int v3), (4, .int v4), (5, .int (v5 + 1)), (6, .int r14), (7, .int r14)]) rfl rfl (congrArg (v5 + ·) (by decide)) rfl rfl ?_
          refine lh_goto rfl ?_
          refine lh_less [0, 1, 2, 3, 4, 5] rfl ?_
          exact ih v2 v3 (v5 + 1) _ hf x0_
        · have hf := lh_ifF hf c22
          refine lh_bipush rfl lh_b_12 ?_
          refine lh_iload (q := 4) rfl rfl ?_
          refine lh_imul rfl ?_
          refine lh_iload (q := 5) rfl rfl ?_
          refine lh_iadd rfl ?_
          refine lh_goto rfl ?_
          refine lh_istore_n (lv' := [(0, .ref (65 + 4)), (1, .int v1), (2, .int ((12 * v4) + v5)), (3, .int v3), (4, .int v4), (5, .int v5), (6, .int r14), (7, .int r14)]) rfl rfl rfl rfl ?_
          refine lh_iload (q := 7) rfl rfl ?_
          refine lh_iload_n (q := 3) rfl rfl rfl ?_
          refine lh_icmp_ge rfl (fun c => absurd c c22) (fun _ => ?_)
          refine lh_iload (q := 7) rfl rfl ?_
          refine lh_goto rfl ?_
          refine lh_istore_n (lv' := [(0, .ref (65 + 4)), (1, .int v1), (2, .int ((12 * v4) + v5)), (3, .int r14), (4, .int v4), (5, .int v5), (6, .int r14), (7, .int r14)]) rfl rfl rfl rfl ?_
          refine lh_iinc (q := 5) (v := (v5 + 1)) (lv' := [(0, .ref (65 + 4)), (1, .int v1), (2, .int ((12 * v4) + v5)), (3, .int r14), (4, .int v4), (5, .int (v5 + 1)), (6, .int r14), (7, .int r14)]) rfl rfl (congrArg (v5 + ·) (by decide)) rfl rfl ?_
          refine lh_goto rfl ?_
          refine lh_less [0, 1, 2, 3, 4, 5] rfl ?_
          exact ih ((12 * v4) + v5) r14 (v5 + 1) _ hf x0_
theorem t_LM_ask_13 {Γ : lh_Cx} {F : lh_FF} {S : lh_SS} {Z : List Frame → Array Value → State → State → Prop} (hG : lh_GX Γ) (hS : lh_laym F S)  {v1 : Int32} {I : lh_II} {L : lh_LL} : ∀ (n : Nat) (v2 : Int32) (v3 : Int32) (v4 : Int32) (o : Int32), f_LM_ask_13 v1 I n v2 v3 v4 = some o → ∀ (x0_ : lh_G Γ m_LM_ask (lh_R 4 0 0) Z 0 0 85 [(2, .int o)] [] (I, L, F, S)), lh_G Γ m_LM_ask (lh_R 4 0 0) Z 0 0 13 [(0, .ref (65 + 4)), (1, .int v1), (2, .int v2), (3, .int v3), (4, .int v4)] [] (I, L, F, S) := by
  intro n
  induction n with
  | zero => intro v2 v3 v4 o hf; cases hf
  | succ n ih =>
    intro v2 v3 v4 o hf x0_
    rw [f_LM_ask_13] at hf
    refine lh_iload (q := 4) rfl rfl ?_
    refine lh_bipush rfl lh_b_8 ?_
    refine lh_icmp_ge rfl (fun c5 => ?_) (fun c5 => ?_)
    · have hf := lh_ifT hf c5
      exact lh_less [2] rfl (by cases hf; exact x0_)
    · have hf := lh_ifF hf c5
      refine lh_iconst rfl lh_k_0 ?_
      refine lh_istore (lv' := [(0, .ref (65 + 4)), (1, .int v1), (2, .int v2), (3, .int v3), (4, .int v4), (5, .int 0)]) rfl rfl rfl ?_
      refine lh_bdE hf (fun r23 e24 hf => ?_)
      refine t_LM_ask_18 hG hS  _ v2 v3 0 _ e24 ?_
      refine lh_iinc (q := 4) (v := (v4 + 1)) (lv' := [(0, .ref (65 + 4)), (1, .int v1), (2, .int r23.1), (3, .int r23.2), (4, .int (v4 + 1))]) rfl rfl (congrArg (v4 + ·) (by decide)) rfl rfl ?_
      refine lh_goto rfl ?_
      exact ih r23.1 r23.2 (v4 + 1) _ hf x0_
theorem t_LM_ask {Γ : lh_Cx} {I : lh_II} {L : lh_LL} {F : lh_FF} {S : lh_SS} {K : Int32 → lh_Hp → Prop} {r : Int32 × lh_II} (hG : lh_GX Γ) (hS : lh_laym F S)  (hf : f_LM_ask I = some r) (hK : K r.1 (r.2, L, F, S)) : lh_Met Γ m_LM_ask 4 0 0 [.ref (65 + 4)] (I, L, F, S) (lh_ki K) := by
  rw [f_LM_ask] at hf
  refine lh_ofG k_LM_ask [(0, .ref (65 + 4))] rfl (Nat.le_of_ble_eq_true rfl) rfl ?_
  refine lh_aload_n (q := 0) rfl rfl rfl ?_
  refine lh_iconst rfl lh_k_0 ?_
  refine lh_putI4 rfl rfl (hS.1 0 _ rfl) rfl rfl ?_
  refine lh_aload_n (q := 0) rfl rfl rfl ?_
  refine lh_bdE hf (fun r1 e2 hf => ?_)
  refine lh_cVi (N := m_LM_daysNow) (d := 3) (o := 65) (As := []) (st := []) rfl rfl v_LM_daysNow (hS.1 0 _ rfl) rfl rfl rfl ⟨rfl, rfl⟩ rfl (t_LM_daysNow hG hS e2 ?_)
  refine lh_istore_n (lv' := [(0, .ref (65 + 4)), (1, .int r1)]) rfl rfl rfl rfl ?_
  refine lh_iconst rfl lh_k_m1 ?_
  refine lh_istore_n (lv' := [(0, .ref (65 + 4)), (1, .int r1), (2, .int (-1))]) rfl rfl rfl rfl ?_
  refine lh_iload_n (q := 1) rfl rfl rfl ?_
  refine lh_bdE hf (fun r3 e4 hf => ?_)
  refine lh_cSi (N := m_LM_bits) (d := 0) (As := [.int r1]) (st := []) rfl rfl v_LM_bits rfl rfl ⟨rfl, rfl⟩ rfl (t_LM_bits hG hS e4 ?_)
  refine lh_istore_n (lv' := [(0, .ref (65 + 4)), (1, .int r1), (2, .int (-1)), (3, .int r3)]) rfl rfl rfl rfl ?_
  refine lh_iconst rfl lh_k_0 ?_
  refine lh_istore (lv' := [(0, .ref (65 + 4)), (1, .int r1), (2, .int (-1)), (3, .int r3), (4, .int 0)]) rfl rfl rfl ?_
  refine lh_bdE hf (fun r25 e26 hf => ?_)
  refine t_LM_ask_13 hG hS  _ (-1) r3 0 _ e26 ?_
  refine lh_iload_n (q := 0) rfl rfl rfl ?_
  exact lh_iret rfl rfl rfl (by obtain rfl := Option.some.inj hf; exact hK)
def f_LM_within (x1 : Int32) (x2 : Int32) (x3 : Int32) : Option (Int32) := if x1 < x2 then some 0 else if x3 < x1 then some 0 else some 1
theorem t_LM_within {Γ : lh_Cx} {I : lh_II} {L : lh_LL} {F : lh_FF} {S : lh_SS} {K : Int32 → lh_Hp → Prop} {r : Int32} (hG : lh_GX Γ) (hS : lh_laym F S)  {x1 : Int32} {x2 : Int32} {x3 : Int32} (hf : f_LM_within x1 x2 x3 = some r) (hK : K r (I, L, F, S)) : lh_Met Γ m_LM_within 0 0 0 [.int x1, .int x2, .int x3] (I, L, F, S) (lh_ki K) := by
  rw [f_LM_within] at hf
  refine lh_ofG k_LM_within [(0, .int x1), (1, .int x2), (2, .int x3)] rfl (Nat.le_of_ble_eq_true rfl) rfl ?_
  refine lh_iload_n (q := 0) rfl rfl rfl ?_
  refine lh_iload_n (q := 1) rfl rfl rfl ?_
  refine lh_icmp_lt rfl (fun c1 => ?_) (fun c1 => ?_)
  · have hf := lh_ifT hf c1
    refine lh_iconst rfl lh_k_0 ?_
    exact lh_iret rfl rfl (by decide) (by obtain rfl := Option.some.inj hf; exact hK)
  · have hf := lh_ifF hf c1
    refine lh_iload_n (q := 0) rfl rfl rfl ?_
    refine lh_iload_n (q := 2) rfl rfl rfl ?_
    refine lh_icmp_gt rfl (fun c2 => ?_) (fun c2 => ?_)
    · have hf := lh_ifT hf c2
      refine lh_iconst rfl lh_k_0 ?_
      exact lh_iret rfl rfl (by decide) (by obtain rfl := Option.some.inj hf; exact hK)
    · have hf := lh_ifF hf c2
      refine lh_iconst rfl lh_k_1 ?_
      refine lh_goto rfl ?_
      exact lh_iret rfl rfl (by decide) (by obtain rfl := Option.some.inj hf; exact hK)
def f_LM_at (x1 : Int32) (x2 : Int32) (I : lh_II) : Option (Int32 × lh_II) := lh_bd (f_LM_isVisitor x1 (lh_u2 I (65 + 4) 0 0)) fun r1 => if r1 = 0 then some ((-1), lh_u2 I (65 + 4) 0 0) else lh_bd (f_LM_within x2 (0 : Int32) (7 : Int32)) fun r4 => if r4 = 0 then some ((-1), lh_u2 I (65 + 4) 0 0) else lh_bd (f_LM_cellOf x1 x2 (lh_u2 I (65 + 4) 0 0)) fun r7 => some (r7, lh_u2 I (65 + 4) 0 0)
theorem t_LM_at {Γ : lh_Cx} {I : lh_II} {L : lh_LL} {F : lh_FF} {S : lh_SS} {K : Int32 → lh_Hp → Prop} {r : Int32 × lh_II} (hG : lh_GX Γ) (hS : lh_laym F S)  {x1 : Int32} {x2 : Int32} (hf : f_LM_at x1 x2 I = some r) (hK : K r.1 (r.2, L, F, S)) : lh_Met Γ m_LM_at 2 0 0 [.ref (65 + 4), .int x1, .int x2] (I, L, F, S) (lh_ki K) := by
  rw [f_LM_at] at hf
  refine lh_ofG k_LM_at [(0, .ref (65 + 4)), (1, .int x1), (2, .int x2)] rfl (Nat.le_of_ble_eq_true rfl) rfl ?_
  refine lh_aload_n (q := 0) rfl rfl rfl ?_
  refine lh_iconst rfl lh_k_0 ?_
  refine lh_putI4 rfl rfl (hS.1 0 _ rfl) rfl rfl ?_
  refine lh_aload_n (q := 0) rfl rfl rfl ?_
  refine lh_iload_n (q := 1) rfl rfl rfl ?_
  refine lh_bdE hf (fun r1 e2 hf => ?_)
  refine lh_cVi (N := m_LM_isVisitor) (d := 1) (o := 65) (As := [.int x1]) (st := []) rfl rfl v_LM_isVisitor (hS.1 0 _ rfl) rfl rfl rfl ⟨rfl, rfl⟩ rfl (t_LM_isVisitor hG hS e2 ?_)
  refine lh_if_eq rfl (fun c3 => ?_) (fun c3 => ?_)
  · have hf := lh_ifT hf c3
    refine lh_iconst rfl lh_k_m1 ?_
    exact lh_iret rfl rfl rfl (by obtain rfl := Option.some.inj hf; exact hK)
  · have hf := lh_ifF hf c3
    refine lh_iload_n (q := 2) rfl rfl rfl ?_
    refine lh_iconst rfl lh_k_0 ?_
    refine lh_bipush rfl lh_b_7 ?_
    refine lh_bdE hf (fun r4 e5 hf => ?_)
    refine lh_cSi (N := m_LM_within) (d := 0) (As := [.int x2, .int 0, .int 7]) (st := []) rfl rfl v_LM_within rfl rfl ⟨rfl, rfl⟩ rfl (t_LM_within hG hS e5 ?_)
    refine lh_if_eq rfl (fun c6 => ?_) (fun c6 => ?_)
    · have hf := lh_ifT hf c6
      refine lh_iconst rfl lh_k_m1 ?_
      exact lh_iret rfl rfl rfl (by obtain rfl := Option.some.inj hf; exact hK)
    · have hf := lh_ifF hf c6
      refine lh_aload_n (q := 0) rfl rfl rfl ?_
      refine lh_iload_n (q := 1) rfl rfl rfl ?_
      refine lh_iload_n (q := 2) rfl rfl rfl ?_
      refine lh_bdE hf (fun r7 e8 hf => ?_)
      refine lh_cVi (N := m_LM_cellOf) (d := 1) (o := 65) (As := [.int x1, .int x2]) (st := []) rfl rfl v_LM_cellOf (hS.1 0 _ rfl) rfl rfl rfl ⟨rfl, rfl⟩ rfl (t_LM_cellOf hG hS e8 ?_)
      refine lh_goto rfl ?_
      exact lh_iret rfl rfl rfl (by obtain rfl := Option.some.inj hf; exact hK)
def f_LM_starts_2 (v1 : Int32) : Nat → Int32 → lh_II → Option (lh_II)
  | 0, _, _ => none
  | n + 1, v2, I => if 7 ≤ v2 then some I else lh_gd (lh_ix (v1 + v2) 736) (f_LM_starts_2 v1 n (v2 + 1) (lh_u2 I (78 + 4) (v1 + v2).toNatClampNeg 0))
def f_LM_starts (x1 : Int32) (I : lh_II) : Option (lh_II) := lh_bd (f_LM_starts_2 x1 lh_fuel 0 I) fun r3 => lh_gd (lh_ix (x1 + 4) 736) (lh_bd (f_LM_cells (lh_u2 r3 (78 + 4) (x1 + 4).toNatClampNeg (r3 (71 + 4) 4))) fun r6 => if r6 ≤ ((lh_u2 r3 (78 + 4) (x1 + 4).toNatClampNeg (r3 (71 + 4) 4)) (71 + 4) 5) then lh_bd (f_LM_cells (lh_u2 r3 (78 + 4) (x1 + 4).toNatClampNeg (r3 (71 + 4) 4))) fun r9 => lh_gd (lh_ix (x1 + 5) 736) (some (lh_u2 (lh_u2 r3 (78 + 4) (x1 + 4).toNatClampNeg (r3 (71 + 4) 4)) (78 + 4) (x1 + 5).toNatClampNeg (r9 - 1))) else lh_gd (lh_ix (x1 + 5) 736) (some (lh_u2 (lh_u2 r3 (78 + 4) (x1 + 4).toNatClampNeg (r3 (71 + 4) 4)) (78 + 4) (x1 + 5).toNatClampNeg ((lh_u2 r3 (78 + 4) (x1 + 4).toNatClampNeg (r3 (71 + 4) 4)) (71 + 4) 5))))
theorem t_LM_starts_2 {Γ : lh_Cx} {F : lh_FF} {S : lh_SS} {Z : List Frame → Array Value → State → State → Prop} (hG : lh_GX Γ) (hS : lh_laym F S)  {v1 : Int32} {L : lh_LL} : ∀ (n : Nat) (v2 : Int32) (I : lh_II) (o : lh_II), f_LM_starts_2 v1 n v2 I = some o → ∀ (x0_ : lh_G Γ m_LM_starts (lh_R 1 0 0) Z 0 0 14 [(0, .ref (65 + 4)), (1, .int v1)] [] (o, L, F, S)), lh_G Γ m_LM_starts (lh_R 1 0 0) Z 0 0 2 [(0, .ref (65 + 4)), (1, .int v1), (2, .int v2)] [] (I, L, F, S) := by
  intro n
  induction n with
  | zero => intro v2 I o hf; cases hf
  | succ n ih =>
    intro v2 I o hf x0_
    rw [f_LM_starts_2] at hf
    refine lh_iload_n (q := 2) rfl rfl rfl ?_
    refine lh_bipush rfl lh_b_7 ?_
    refine lh_icmp_ge rfl (fun c1 => ?_) (fun c1 => ?_)
    · have hf := lh_ifT hf c1
      exact lh_less [0, 1] rfl (by cases hf; exact x0_)
    · have hf := lh_ifF hf c1
      refine lh_aload_n (q := 0) rfl rfl rfl ?_
      refine lh_getR4 rfl rfl (hS.1 0 _ rfl) rfl (hS.2 12 _ rfl) ?_
      refine lh_iload_n (q := 1) rfl rfl rfl ?_
      refine lh_iload_n (q := 2) rfl rfl rfl ?_
      refine lh_iadd rfl ?_
      refine lh_iconst rfl lh_k_0 ?_
      obtain ⟨g2, hf⟩ := lh_gdE hf
      refine lh_iast4 rfl (hS.1 13 _ rfl) g2 ?_
      refine lh_iinc (q := 2) (v := (v2 + 1)) (lv' := [(0, .ref (65 + 4)), (1, .int v1), (2, .int (v2 + 1))]) rfl rfl (congrArg (v2 + ·) (by decide)) rfl rfl ?_
      refine lh_goto rfl ?_
      exact ih (v2 + 1) (lh_u2 I (78 + 4) (v1 + v2).toNatClampNeg 0) _ hf x0_
theorem t_LM_starts {Γ : lh_Cx} {I : lh_II} {L : lh_LL} {F : lh_FF} {S : lh_SS} {K : lh_Hp → Prop} {r : lh_II} (hG : lh_GX Γ) (hS : lh_laym F S)  {x1 : Int32} (hf : f_LM_starts x1 I = some r) (hK : K (r, L, F, S)) : lh_Met Γ m_LM_starts 1 0 0 [.ref (65 + 4), .int x1] (I, L, F, S) (lh_kv K) := by
  rw [f_LM_starts] at hf
  refine lh_ofG k_LM_starts [(0, .ref (65 + 4)), (1, .int x1)] rfl (Nat.le_of_ble_eq_true rfl) rfl ?_
  refine lh_iconst rfl lh_k_0 ?_
  refine lh_istore_n (lv' := [(0, .ref (65 + 4)), (1, .int x1), (2, .int 0)]) rfl rfl rfl rfl ?_
  refine lh_bdE hf (fun r3 e4 hf => ?_)
  refine t_LM_starts_2 hG hS  _ 0 I _ e4 ?_
  refine lh_aload_n (q := 0) rfl rfl rfl ?_
  refine lh_getR4 rfl rfl (hS.1 0 _ rfl) rfl (hS.2 12 _ rfl) ?_
  refine lh_iload_n (q := 1) rfl rfl rfl ?_
  refine lh_iconst rfl lh_k_4 ?_
  refine lh_iadd rfl ?_
  refine lh_aload_n (q := 0) rfl rfl rfl ?_
  refine lh_getR4 rfl rfl (hS.1 0 _ rfl) rfl (hS.2 5 _ rfl) ?_
  refine lh_iconst rfl lh_k_4 ?_
  refine lh_iald5 (k := 4) rfl (hS.1 6 _ rfl) (by decide) (by decide) ?_
  obtain ⟨g5, hf⟩ := lh_gdE hf
  refine lh_iast4 rfl (hS.1 13 _ rfl) g5 ?_
  refine lh_aload_n (q := 0) rfl rfl rfl ?_
  refine lh_getR4 rfl rfl (hS.1 0 _ rfl) rfl (hS.2 12 _ rfl) ?_
  refine lh_iload_n (q := 1) rfl rfl rfl ?_
  refine lh_iconst rfl lh_k_5 ?_
  refine lh_iadd rfl ?_
  refine lh_aload_n (q := 0) rfl rfl rfl ?_
  refine lh_getR4 rfl rfl (hS.1 0 _ rfl) rfl (hS.2 5 _ rfl) ?_
  refine lh_iconst rfl lh_k_5 ?_
  refine lh_iald5 (k := 5) rfl (hS.1 6 _ rfl) (by decide) (by decide) ?_
  refine lh_aload_n (q := 0) rfl rfl rfl ?_
  refine lh_bdE hf (fun r6 e7 hf => ?_)
  refine lh_cVi (N := m_LM_cells) (d := 0) (o := 65) (As := []) (st := [.int ((lh_u2 r3 (78 + 4) (x1 + 4).toNatClampNeg (r3 (71 + 4) 4)) (71 + 4) 5), .int (x1 + 5), .ref (78 + 4)]) rfl rfl v_LM_cells (hS.1 0 _ rfl) rfl rfl rfl ⟨rfl, rfl⟩ rfl (t_LM_cells hG hS e7 ?_)
  refine lh_icmp_ge rfl (fun c8 => ?_) (fun c8 => ?_)
  · have hf := lh_ifT hf c8
    refine lh_aload_n (q := 0) rfl rfl rfl ?_
    refine lh_bdE hf (fun r9 e10 hf => ?_)
    refine lh_cVi (N := m_LM_cells) (d := 0) (o := 65) (As := []) (st := [.int (x1 + 5), .ref (78 + 4)]) rfl rfl v_LM_cells (hS.1 0 _ rfl) rfl rfl rfl ⟨rfl, rfl⟩ rfl (t_LM_cells hG hS e10 ?_)
    refine lh_iconst rfl lh_k_1 ?_
    refine lh_isub rfl ?_
    obtain ⟨g11, hf⟩ := lh_gdE hf
    refine lh_iast4 rfl (hS.1 13 _ rfl) g11 ?_
    exact lh_vret rfl rfl (by obtain rfl := Option.some.inj hf; exact hK)
  · have hf := lh_ifF hf c8
    refine lh_aload_n (q := 0) rfl rfl rfl ?_
    refine lh_getR4 rfl rfl (hS.1 0 _ rfl) rfl (hS.2 5 _ rfl) ?_
    refine lh_iconst rfl lh_k_5 ?_
    refine lh_iald5 (k := 5) rfl (hS.1 6 _ rfl) (by decide) (by decide) ?_
    refine lh_goto rfl ?_
    obtain ⟨g12, hf⟩ := lh_gdE hf
    refine lh_iast4 rfl (hS.1 13 _ rfl) g12 ?_
    exact lh_vret rfl rfl (by obtain rfl := Option.some.inj hf; exact hK)
def f_LM_begins_18 : Nat → Int32 → lh_II → Option (lh_II)
  | 0, _, _ => none
  | n + 1, v1, I => if 4 ≤ v1 then some I else lh_gd (lh_ix v1 4) (f_LM_begins_18 n (v1 + 1) (lh_u2 I (79 + 4) v1.toNatClampNeg 0))
def f_LM_begins (I : lh_II) : Option (lh_II) := lh_bd (f_LM_starts (0 : Int32) I) fun r1 => lh_bd (f_LM_begins_18 lh_fuel 0 (lh_u2 (lh_u2 (lh_u2 r1 (78 + 4) 7 0) (75 + 4) 0 0) (65 + 4) 21 0)) fun r5 => some r5
theorem t_LM_begins_18 {Γ : lh_Cx} {F : lh_FF} {S : lh_SS} {Z : List Frame → Array Value → State → State → Prop} (hG : lh_GX Γ) (hS : lh_laym F S)   {L : lh_LL} : ∀ (n : Nat) (v1 : Int32) (I : lh_II) (o : lh_II), f_LM_begins_18 n v1 I = some o → ∀ (x0_ : lh_G Γ m_LM_begins (lh_R 2 0 0) Z 0 0 28 [] [] (o, L, F, S)), lh_G Γ m_LM_begins (lh_R 2 0 0) Z 0 0 18 [(0, .ref (65 + 4)), (1, .int v1)] [] (I, L, F, S) := by
  intro n
  induction n with
  | zero => intro v1 I o hf; cases hf
  | succ n ih =>
    intro v1 I o hf x0_
    rw [f_LM_begins_18] at hf
    refine lh_iload_n (q := 1) rfl rfl rfl ?_
    refine lh_iconst rfl lh_k_4 ?_
    refine lh_icmp_ge rfl (fun c3 => ?_) (fun c3 => ?_)
    · have hf := lh_ifT hf c3
      exact lh_less [] rfl (by cases hf; exact x0_)
    · have hf := lh_ifF hf c3
      refine lh_aload_n (q := 0) rfl rfl rfl ?_
      refine lh_getR4 rfl rfl (hS.1 0 _ rfl) rfl (hS.2 13 _ rfl) ?_
      refine lh_iload_n (q := 1) rfl rfl rfl ?_
      refine lh_iconst rfl lh_k_0 ?_
      obtain ⟨g4, hf⟩ := lh_gdE hf
      refine lh_bast4 rfl (hS.1 14 _ rfl) g4 (by decide) ?_
      refine lh_iinc (q := 1) (v := (v1 + 1)) (lv' := [(0, .ref (65 + 4)), (1, .int (v1 + 1))]) rfl rfl (congrArg (v1 + ·) (by decide)) rfl rfl ?_
      refine lh_goto rfl ?_
      exact ih (v1 + 1) (lh_u2 I (79 + 4) v1.toNatClampNeg 0) _ hf x0_
theorem t_LM_begins {Γ : lh_Cx} {I : lh_II} {L : lh_LL} {F : lh_FF} {S : lh_SS} {K : lh_Hp → Prop} {r : lh_II} (hG : lh_GX Γ) (hS : lh_laym F S)  (hf : f_LM_begins I = some r) (hK : K (r, L, F, S)) : lh_Met Γ m_LM_begins 2 0 0 [.ref (65 + 4)] (I, L, F, S) (lh_kv K) := by
  rw [f_LM_begins] at hf
  refine lh_ofG k_LM_begins [(0, .ref (65 + 4))] rfl (Nat.le_of_ble_eq_true rfl) rfl ?_
  refine lh_aload_n (q := 0) rfl rfl rfl ?_
  refine lh_iconst rfl lh_k_0 ?_
  refine lh_bdE hf (fun r1 e2 hf => ?_)
  refine lh_cVv (N := m_LM_starts) (d := 1) (o := 65) (As := [.int 0]) (st := []) rfl rfl v_LM_starts (hS.1 0 _ rfl) rfl rfl rfl ⟨rfl, rfl⟩ rfl (t_LM_starts hG hS e2 ?_)
  refine lh_aload_n (q := 0) rfl rfl rfl ?_
  refine lh_getR4 rfl rfl (hS.1 0 _ rfl) rfl (hS.2 12 _ rfl) ?_
  refine lh_bipush rfl lh_b_7 ?_
  refine lh_iconst rfl lh_k_0 ?_
  refine lh_iast5 (k := 7) rfl (hS.1 13 _ rfl) (by decide) (by decide) ?_
  refine lh_aload_n (q := 0) rfl rfl rfl ?_
  refine lh_getR4 rfl rfl (hS.1 0 _ rfl) rfl (hS.2 9 _ rfl) ?_
  refine lh_iconst rfl lh_k_0 ?_
  refine lh_iconst rfl lh_k_0 ?_
  refine lh_iast5 (k := 0) rfl (hS.1 10 _ rfl) (by decide) (by decide) ?_
  refine lh_aload_n (q := 0) rfl rfl rfl ?_
  refine lh_iconst rfl lh_k_0 ?_
  refine lh_putI4 rfl rfl (hS.1 0 _ rfl) rfl rfl ?_
  refine lh_iconst rfl lh_k_0 ?_
  refine lh_istore_n (lv' := [(0, .ref (65 + 4)), (1, .int 0)]) rfl rfl rfl rfl ?_
  refine lh_bdE hf (fun r5 e6 hf => ?_)
  refine t_LM_begins_18 hG hS  _ 0 (lh_u2 (lh_u2 (lh_u2 r1 (78 + 4) 7 0) (75 + 4) 0 0) (65 + 4) 21 0) _ e6 ?_
  exact lh_vret rfl rfl (by obtain rfl := Option.some.inj hf; exact hK)
def f_LM_isPillar (x1 : Int32) (I : lh_II) : Option (Int32) := if (((I (71 + 4) 7) >>> (x1 &&& 31)) &&& 1) = 1 then some 1 else some 0
theorem t_LM_isPillar {Γ : lh_Cx} {I : lh_II} {L : lh_LL} {F : lh_FF} {S : lh_SS} {K : Int32 → lh_Hp → Prop} {r : Int32} (hG : lh_GX Γ) (hS : lh_laym F S)  {x1 : Int32} (hf : f_LM_isPillar x1 I = some r) (hK : K r (I, L, F, S)) : lh_Met Γ m_LM_isPillar 0 0 0 [.ref (65 + 4), .int x1] (I, L, F, S) (lh_ki K) := by
  rw [f_LM_isPillar] at hf
  refine lh_ofG k_LM_isPillar [(0, .ref (65 + 4)), (1, .int x1)] rfl (Nat.le_of_ble_eq_true rfl) rfl ?_
  refine lh_aload_n (q := 0) rfl rfl rfl ?_
  refine lh_getR4 rfl rfl (hS.1 0 _ rfl) rfl (hS.2 5 _ rfl) ?_
  refine lh_bipush rfl lh_b_7 ?_
  refine lh_iald5 (k := 7) rfl (hS.1 6 _ rfl) (by decide) (by decide) ?_
  refine lh_iload_n (q := 1) rfl rfl rfl ?_
  refine lh_ishr rfl ?_
  refine lh_iconst rfl lh_k_1 ?_
  refine lh_iand rfl ?_
  refine lh_iconst rfl lh_k_1 ?_
  refine lh_icmp_ne rfl (fun c1 => ?_) (fun c1 => ?_)
  · have hf := lh_ifF hf c1
    refine lh_iconst rfl lh_k_0 ?_
    exact lh_iret rfl rfl (by decide) (by obtain rfl := Option.some.inj hf; exact hK)
  · have hf := lh_ifT hf c1
    refine lh_iconst rfl lh_k_1 ?_
    refine lh_goto rfl ?_
    exact lh_iret rfl rfl (by decide) (by obtain rfl := Option.some.inj hf; exact hK)
def f_LM_litFrom_13 (v1 : Int32) (v2 : Int32) (v4 : Int32) (I : lh_II) : Nat → Int32 → Int32 → Int32 → Option (Int32)
  | 0, _, _, _ => none
  | n + 1, v3, v5, v6 => if (I (71 + 4) 3) < v6 then some v3 else if v5 = 0 then some v3 else lh_bd (f_LM_isCell (v1 + (v4 * v6)) I) fun r4 => if r4 = 0 then f_LM_litFrom_13 v1 v2 v4 I n (v3 ||| 0) 0 (v6 + 1) else lh_bd (f_LM_isPillar (v1 + (v4 * v6)) I) fun r7 => if r7 = 0 then if (v1 + (v4 * v6)) = v2 then f_LM_litFrom_13 v1 v2 v4 I n (v3 ||| ((1 : Int32) <<< ((v1 + (v4 * v6)) &&& 31))) 0 (v6 + 1) else f_LM_litFrom_13 v1 v2 v4 I n (v3 ||| ((1 : Int32) <<< ((v1 + (v4 * v6)) &&& 31))) 1 (v6 + 1) else f_LM_litFrom_13 v1 v2 v4 I n (v3 ||| ((1 : Int32) <<< ((v1 + (v4 * v6)) &&& 31))) 0 (v6 + 1)
def f_LM_litFrom_6 (v1 : Int32) (v2 : Int32) (I : lh_II) : Nat → Int32 → Int32 → Option (Int32)
  | 0, _, _ => none
  | n + 1, v3, v4 => if 2 ≤ v4 then some v3 else lh_bd (f_LM_litFrom_13 v1 v2 v4 I lh_fuel v3 1 1) fun r11 => f_LM_litFrom_6 v1 v2 I n r11 (v4 + 2)
def f_LM_litFrom (x1 : Int32) (x2 : Int32) (I : lh_II) : Option (Int32) := lh_bd (f_LM_litFrom_6 x1 x2 I lh_fuel ((1 : Int32) <<< (x1 &&& 31)) (-1)) fun r13 => some r13
theorem t_LM_litFrom_13 {Γ : lh_Cx} {F : lh_FF} {S : lh_SS} {Z : List Frame → Array Value → State → State → Prop} (hG : lh_GX Γ) (hS : lh_laym F S)  {v1 : Int32} {v2 : Int32} {v4 : Int32} {I : lh_II} {L : lh_LL} : ∀ (n : Nat) (v3 : Int32) (v5 : Int32) (v6 : Int32) (o : Int32), f_LM_litFrom_13 v1 v2 v4 I n v3 v5 v6 = some o → ∀ (x0_ : lh_G Γ m_LM_litFrom (lh_R 2 0 0) Z 0 0 56 [(0, .ref (65 + 4)), (1, .int v1), (2, .int v2), (3, .int o), (4, .int v4)] [] (I, L, F, S)), lh_G Γ m_LM_litFrom (lh_R 2 0 0) Z 0 0 13 [(0, .ref (65 + 4)), (1, .int v1), (2, .int v2), (3, .int v3), (4, .int v4), (5, .int v5), (6, .int v6)] [] (I, L, F, S) := by
  intro n
  induction n with
  | zero => intro v3 v5 v6 o hf; cases hf
  | succ n ih =>
    intro v3 v5 v6 o hf x0_
    rw [f_LM_litFrom_13] at hf
    refine lh_iload (q := 6) rfl rfl ?_
    refine lh_aload_n (q := 0) rfl rfl rfl ?_
    refine lh_getR4 rfl rfl (hS.1 0 _ rfl) rfl (hS.2 5 _ rfl) ?_
    refine lh_iconst rfl lh_k_3 ?_
    refine lh_iald5 (k := 3) rfl (hS.1 6 _ rfl) (by decide) (by decide) ?_
    refine lh_icmp_gt rfl (fun c2 => ?_) (fun c2 => ?_)
    · have hf := lh_ifT hf c2
      exact lh_less [0, 1, 2, 3, 4] rfl (by cases hf; exact x0_)
    · have hf := lh_ifF hf c2
      refine lh_iload (q := 5) rfl rfl ?_
      refine lh_if_eq rfl (fun c3 => ?_) (fun c3 => ?_)
      · have hf := lh_ifT hf c3
        exact lh_less [0, 1, 2, 3, 4] rfl (by cases hf; exact x0_)
      · have hf := lh_ifF hf c3
        refine lh_iload_n (q := 1) rfl rfl rfl ?_
        refine lh_iload (q := 4) rfl rfl ?_
        refine lh_iload (q := 6) rfl rfl ?_
        refine lh_imul rfl ?_
        refine lh_iadd rfl ?_
        refine lh_istore (lv' := [(0, .ref (65 + 4)), (1, .int v1), (2, .int v2), (3, .int v3), (4, .int v4), (5, .int v5), (6, .int v6), (7, .int (v1 + (v4 * v6)))]) rfl rfl rfl ?_
        refine lh_aload_n (q := 0) rfl rfl rfl ?_
        refine lh_iload (q := 7) rfl rfl ?_
        refine lh_bdE hf (fun r4 e5 hf => ?_)
        refine lh_cVi (N := m_LM_isCell) (d := 1) (o := 65) (As := [.int (v1 + (v4 * v6))]) (st := []) rfl rfl v_LM_isCell (hS.1 0 _ rfl) rfl rfl rfl ⟨rfl, rfl⟩ rfl (t_LM_isCell hG hS e5 ?_)
        refine lh_istore (lv' := [(0, .ref (65 + 4)), (1, .int v1), (2, .int v2), (3, .int v3), (4, .int v4), (5, .int r4), (6, .int v6), (7, .int (v1 + (v4 * v6)))]) rfl rfl rfl ?_
        refine lh_iload_n (q := 3) rfl rfl rfl ?_
        refine lh_iload (q := 5) rfl rfl ?_
        refine lh_if_eq rfl (fun c6 => ?_) (fun c6 => ?_)
        · have hf := lh_ifT hf c6
          refine lh_iconst rfl lh_k_0 ?_
          refine lh_ior rfl ?_
          refine lh_istore_n (lv' := [(0, .ref (65 + 4)), (1, .int v1), (2, .int v2), (3, .int (v3 ||| 0)), (4, .int v4), (5, .int r4), (6, .int v6), (7, .int (v1 + (v4 * v6)))]) rfl rfl rfl rfl ?_
          refine lh_iload (q := 5) rfl rfl ?_
          refine lh_if_eq rfl (fun _ => ?_) (fun c => absurd c6 c)
          refine lh_iconst rfl lh_k_0 ?_
          refine lh_istore (lv' := [(0, .ref (65 + 4)), (1, .int v1), (2, .int v2), (3, .int (v3 ||| 0)), (4, .int v4), (5, .int 0), (6, .int v6), (7, .int (v1 + (v4 * v6)))]) rfl rfl rfl ?_
          refine lh_iinc (q := 6) (v := (v6 + 1)) (lv' := [(0, .ref (65 + 4)), (1, .int v1), (2, .int v2), (3, .int (v3 ||| 0)), (4, .int v4), (5, .int 0), (6, .int (v6 + 1)), (7, .int (v1 + (v4 * v6)))]) rfl rfl (congrArg (v6 + ·) (by decide)) rfl rfl ?_
          refine lh_goto rfl ?_
          refine lh_less [0, 1, 2, 3, 4, 5, 6] rfl ?_
          exact ih (v3 ||| 0) 0 (v6 + 1) _ hf x0_
        · have hf := lh_ifF hf c6
          refine lh_iconst rfl lh_k_1 ?_
          refine lh_iload (q := 7) rfl rfl ?_
          refine lh_ishl rfl ?_
          refine lh_goto rfl ?_
          refine lh_ior rfl ?_
          refine lh_istore_n (lv' := [(0, .ref (65 + 4)), (1, .int v1), (2, .int v2), (3, .int (v3 ||| ((1 : Int32) <<< ((v1 + (v4 * v6)) &&& 31)))), (4, .int v4), (5, .int r4), (6, .int v6), (7, .int (v1 + (v4 * v6)))]) rfl rfl rfl rfl ?_
          refine lh_iload (q := 5) rfl rfl ?_
          refine lh_if_eq rfl (fun c => absurd c c6) (fun _ => ?_)
          refine lh_aload_n (q := 0) rfl rfl rfl ?_
          refine lh_iload (q := 7) rfl rfl ?_
          refine lh_bdE hf (fun r7 e8 hf => ?_)
          refine lh_cVi (N := m_LM_isPillar) (d := 0) (o := 65) (As := [.int (v1 + (v4 * v6))]) (st := []) rfl rfl v_LM_isPillar (hS.1 0 _ rfl) rfl rfl rfl ⟨rfl, rfl⟩ rfl (t_LM_isPillar hG hS e8 ?_)
          refine lh_if_ne rfl (fun c9 => ?_) (fun c9 => ?_)
          · have hf := lh_ifF hf c9
            refine lh_iconst rfl lh_k_0 ?_
            refine lh_istore (lv' := [(0, .ref (65 + 4)), (1, .int v1), (2, .int v2), (3, .int (v3 ||| ((1 : Int32) <<< ((v1 + (v4 * v6)) &&& 31)))), (4, .int v4), (5, .int 0), (6, .int v6), (7, .int (v1 + (v4 * v6)))]) rfl rfl rfl ?_
            refine lh_iinc (q := 6) (v := (v6 + 1)) (lv' := [(0, .ref (65 + 4)), (1, .int v1), (2, .int v2), (3, .int (v3 ||| ((1 : Int32) <<< ((v1 + (v4 * v6)) &&& 31)))), (4, .int v4), (5, .int 0), (6, .int (v6 + 1)), (7, .int (v1 + (v4 * v6)))]) rfl rfl (congrArg (v6 + ·) (by decide)) rfl rfl ?_
            refine lh_goto rfl ?_
            refine lh_less [0, 1, 2, 3, 4, 5, 6] rfl ?_
            exact ih (v3 ||| ((1 : Int32) <<< ((v1 + (v4 * v6)) &&& 31))) 0 (v6 + 1) _ hf x0_
          · have hf := lh_ifT hf c9
            refine lh_iload (q := 7) rfl rfl ?_
            refine lh_iload_n (q := 2) rfl rfl rfl ?_
            refine lh_icmp_eq rfl (fun c10 => ?_) (fun c10 => ?_)
            · have hf := lh_ifT hf c10
              refine lh_iconst rfl lh_k_0 ?_
              refine lh_istore (lv' := [(0, .ref (65 + 4)), (1, .int v1), (2, .int v2), (3, .int (v3 ||| ((1 : Int32) <<< ((v1 + (v4 * v6)) &&& 31)))), (4, .int v4), (5, .int 0), (6, .int v6), (7, .int (v1 + (v4 * v6)))]) rfl rfl rfl ?_
              refine lh_iinc (q := 6) (v := (v6 + 1)) (lv' := [(0, .ref (65 + 4)), (1, .int v1), (2, .int v2), (3, .int (v3 ||| ((1 : Int32) <<< ((v1 + (v4 * v6)) &&& 31)))), (4, .int v4), (5, .int 0), (6, .int (v6 + 1)), (7, .int (v1 + (v4 * v6)))]) rfl rfl (congrArg (v6 + ·) (by decide)) rfl rfl ?_
              refine lh_goto rfl ?_
              refine lh_less [0, 1, 2, 3, 4, 5, 6] rfl ?_
              exact ih (v3 ||| ((1 : Int32) <<< ((v1 + (v4 * v6)) &&& 31))) 0 (v6 + 1) _ hf x0_
            · have hf := lh_ifF hf c10
              refine lh_iconst rfl lh_k_1 ?_
              refine lh_goto rfl ?_
              refine lh_istore (lv' := [(0, .ref (65 + 4)), (1, .int v1), (2, .int v2), (3, .int (v3 ||| ((1 : Int32) <<< ((v1 + (v4 * v6)) &&& 31)))), (4, .int v4), (5, .int 1), (6, .int v6), (7, .int (v1 + (v4 * v6)))]) rfl rfl rfl ?_
              refine lh_iinc (q := 6) (v := (v6 + 1)) (lv' := [(0, .ref (65 + 4)), (1, .int v1), (2, .int v2), (3, .int (v3 ||| ((1 : Int32) <<< ((v1 + (v4 * v6)) &&& 31)))), (4, .int v4), (5, .int 1), (6, .int (v6 + 1)), (7, .int (v1 + (v4 * v6)))]) rfl rfl (congrArg (v6 + ·) (by decide)) rfl rfl ?_
              refine lh_goto rfl ?_
              refine lh_less [0, 1, 2, 3, 4, 5, 6] rfl ?_
              exact ih (v3 ||| ((1 : Int32) <<< ((v1 + (v4 * v6)) &&& 31))) 1 (v6 + 1) _ hf x0_
theorem t_LM_litFrom_6 {Γ : lh_Cx} {F : lh_FF} {S : lh_SS} {Z : List Frame → Array Value → State → State → Prop} (hG : lh_GX Γ) (hS : lh_laym F S)  {v1 : Int32} {v2 : Int32} {I : lh_II} {L : lh_LL} : ∀ (n : Nat) (v3 : Int32) (v4 : Int32) (o : Int32), f_LM_litFrom_6 v1 v2 I n v3 v4 = some o → ∀ (x0_ : lh_G Γ m_LM_litFrom (lh_R 2 0 0) Z 0 0 58 [(3, .int o)] [] (I, L, F, S)), lh_G Γ m_LM_litFrom (lh_R 2 0 0) Z 0 0 6 [(0, .ref (65 + 4)), (1, .int v1), (2, .int v2), (3, .int v3), (4, .int v4)] [] (I, L, F, S) := by
  intro n
  induction n with
  | zero => intro v3 v4 o hf; cases hf
  | succ n ih =>
    intro v3 v4 o hf x0_
    rw [f_LM_litFrom_6] at hf
    refine lh_iload (q := 4) rfl rfl ?_
    refine lh_iconst rfl lh_k_2 ?_
    refine lh_icmp_ge rfl (fun c1 => ?_) (fun c1 => ?_)
    · have hf := lh_ifT hf c1
      exact lh_less [3] rfl (by cases hf; exact x0_)
    · have hf := lh_ifF hf c1
      refine lh_iconst rfl lh_k_1 ?_
      refine lh_istore (lv' := [(0, .ref (65 + 4)), (1, .int v1), (2, .int v2), (3, .int v3), (4, .int v4), (5, .int 1)]) rfl rfl rfl ?_
      refine lh_iconst rfl lh_k_1 ?_
      refine lh_istore (lv' := [(0, .ref (65 + 4)), (1, .int v1), (2, .int v2), (3, .int v3), (4, .int v4), (5, .int 1), (6, .int 1)]) rfl rfl rfl ?_
      refine lh_bdE hf (fun r11 e12 hf => ?_)
      refine t_LM_litFrom_13 hG hS  _ v3 1 1 _ e12 ?_
      refine lh_iinc (q := 4) (v := (v4 + 2)) (lv' := [(0, .ref (65 + 4)), (1, .int v1), (2, .int v2), (3, .int r11), (4, .int (v4 + 2))]) rfl rfl (congrArg (v4 + ·) (by decide)) rfl rfl ?_
      refine lh_goto rfl ?_
      exact ih r11 (v4 + 2) _ hf x0_
theorem t_LM_litFrom {Γ : lh_Cx} {I : lh_II} {L : lh_LL} {F : lh_FF} {S : lh_SS} {K : Int32 → lh_Hp → Prop} {r : Int32} (hG : lh_GX Γ) (hS : lh_laym F S)  {x1 : Int32} {x2 : Int32} (hf : f_LM_litFrom x1 x2 I = some r) (hK : K r (I, L, F, S)) : lh_Met Γ m_LM_litFrom 2 0 0 [.ref (65 + 4), .int x1, .int x2] (I, L, F, S) (lh_ki K) := by
  rw [f_LM_litFrom] at hf
  refine lh_ofG k_LM_litFrom [(0, .ref (65 + 4)), (1, .int x1), (2, .int x2)] rfl (Nat.le_of_ble_eq_true rfl) rfl ?_
  refine lh_iconst rfl lh_k_1 ?_
  refine lh_iload_n (q := 1) rfl rfl rfl ?_
  refine lh_ishl rfl ?_
  refine lh_istore_n (lv' := [(0, .ref (65 + 4)), (1, .int x1), (2, .int x2), (3, .int ((1 : Int32) <<< (x1 &&& 31)))]) rfl rfl rfl rfl ?_
  refine lh_iconst rfl lh_k_m1 ?_
  refine lh_istore (lv' := [(0, .ref (65 + 4)), (1, .int x1), (2, .int x2), (3, .int ((1 : Int32) <<< (x1 &&& 31))), (4, .int (-1))]) rfl rfl rfl ?_
  refine lh_bdE hf (fun r13 e14 hf => ?_)
  refine t_LM_litFrom_6 hG hS  _ ((1 : Int32) <<< (x1 &&& 31)) (-1) _ e14 ?_
  refine lh_iload_n (q := 0) rfl rfl rfl ?_
  exact lh_iret rfl rfl rfl (by obtain rfl := Option.some.inj hf; exact hK)
def f_LM_both (x1 : Int32) (x2 : Int32) (x3 : Int32) : Option (Int32) := if x1 = 4 then some (x2 + x3) else if x1 = 5 then some (x2 - x3) else if x1 = 6 then some (x2 * x3) else if x1 = 7 then if x3 ≤ x2 then some 0 else some 1 else if x1 = 8 then if x2 = x3 then some 1 else some 0 else if x1 = 9 then if x2 = 0 then some 0 else if x3 = 0 then some 0 else some 1 else if x2 = 0 then if x3 = 0 then some 0 else some 1 else some 1
theorem t_LM_both {Γ : lh_Cx} {I : lh_II} {L : lh_LL} {F : lh_FF} {S : lh_SS} {K : Int32 → lh_Hp → Prop} {r : Int32} (hG : lh_GX Γ) (hS : lh_laym F S)  {x1 : Int32} {x2 : Int32} {x3 : Int32} (hf : f_LM_both x1 x2 x3 = some r) (hK : K r (I, L, F, S)) : lh_Met Γ m_LM_both 0 0 0 [.int x1, .int x2, .int x3] (I, L, F, S) (lh_ki K) := by
  rw [f_LM_both] at hf
  refine lh_ofG k_LM_both [(0, .int x1), (1, .int x2), (2, .int x3)] rfl (Nat.le_of_ble_eq_true rfl) rfl ?_
  refine lh_iload_n (q := 0) rfl rfl rfl ?_
  by_cases c1 : x1 = 4
  · have hf := lh_ifT hf c1
    refine lh_tsIn (q := 0) (tgt := 2) rfl (by rw [c1]; decide) (by decide) rfl rfl ?_
    refine lh_iload_n (q := 1) rfl rfl rfl ?_
    refine lh_iload_n (q := 2) rfl rfl rfl ?_
    refine lh_iadd rfl ?_
    exact lh_iret rfl rfl rfl (by obtain rfl := Option.some.inj hf; exact hK)
  · have hf := lh_ifF hf c1
    by_cases c2 : x1 = 5
    · have hf := lh_ifT hf c2
      refine lh_tsIn (q := 1) (tgt := 6) rfl (by rw [c2]; decide) (by decide) rfl rfl ?_
      refine lh_iload_n (q := 1) rfl rfl rfl ?_
      refine lh_iload_n (q := 2) rfl rfl rfl ?_
      refine lh_isub rfl ?_
      exact lh_iret rfl rfl rfl (by obtain rfl := Option.some.inj hf; exact hK)
    · have hf := lh_ifF hf c2
      by_cases c3 : x1 = 6
      · have hf := lh_ifT hf c3
        refine lh_tsIn (q := 2) (tgt := 10) rfl (by rw [c3]; decide) (by decide) rfl rfl ?_
        refine lh_iload_n (q := 1) rfl rfl rfl ?_
        refine lh_iload_n (q := 2) rfl rfl rfl ?_
        refine lh_imul rfl ?_
        exact lh_iret rfl rfl rfl (by obtain rfl := Option.some.inj hf; exact hK)
      · have hf := lh_ifF hf c3
        by_cases c4 : x1 = 7
        · have hf := lh_ifT hf c4
          refine lh_tsIn (q := 3) (tgt := 14) rfl (by rw [c4]; decide) (by decide) rfl rfl ?_
          refine lh_iload_n (q := 1) rfl rfl rfl ?_
          refine lh_iload_n (q := 2) rfl rfl rfl ?_
          refine lh_icmp_ge rfl (fun c5 => ?_) (fun c5 => ?_)
          · have hf := lh_ifT hf c5
            refine lh_iconst rfl lh_k_0 ?_
            exact lh_iret rfl rfl rfl (by obtain rfl := Option.some.inj hf; exact hK)
          · have hf := lh_ifF hf c5
            refine lh_iconst rfl lh_k_1 ?_
            refine lh_goto rfl ?_
            exact lh_iret rfl rfl rfl (by obtain rfl := Option.some.inj hf; exact hK)
        · have hf := lh_ifF hf c4
          by_cases c6 : x1 = 8
          · have hf := lh_ifT hf c6
            refine lh_tsIn (q := 4) (tgt := 21) rfl (by rw [c6]; decide) (by decide) rfl rfl ?_
            refine lh_iload_n (q := 1) rfl rfl rfl ?_
            refine lh_iload_n (q := 2) rfl rfl rfl ?_
            refine lh_icmp_ne rfl (fun c7 => ?_) (fun c7 => ?_)
            · have hf := lh_ifF hf c7
              refine lh_iconst rfl lh_k_0 ?_
              exact lh_iret rfl rfl rfl (by obtain rfl := Option.some.inj hf; exact hK)
            · have hf := lh_ifT hf c7
              refine lh_iconst rfl lh_k_1 ?_
              refine lh_goto rfl ?_
              exact lh_iret rfl rfl rfl (by obtain rfl := Option.some.inj hf; exact hK)
          · have hf := lh_ifF hf c6
            by_cases c8 : x1 = 9
            · have hf := lh_ifT hf c8
              refine lh_tsIn (q := 5) (tgt := 28) rfl (by rw [c8]; decide) (by decide) rfl rfl ?_
              refine lh_iload_n (q := 1) rfl rfl rfl ?_
              refine lh_if_eq rfl (fun c9 => ?_) (fun c9 => ?_)
              · have hf := lh_ifT hf c9
                refine lh_iconst rfl lh_k_0 ?_
                exact lh_iret rfl rfl rfl (by obtain rfl := Option.some.inj hf; exact hK)
              · have hf := lh_ifF hf c9
                refine lh_iload_n (q := 2) rfl rfl rfl ?_
                refine lh_if_eq rfl (fun c10 => ?_) (fun c10 => ?_)
                · have hf := lh_ifT hf c10
                  refine lh_iconst rfl lh_k_0 ?_
                  exact lh_iret rfl rfl rfl (by obtain rfl := Option.some.inj hf; exact hK)
                · have hf := lh_ifF hf c10
                  refine lh_iconst rfl lh_k_1 ?_
                  refine lh_goto rfl ?_
                  exact lh_iret rfl rfl rfl (by obtain rfl := Option.some.inj hf; exact hK)
            · have hf := lh_ifF hf c8
              refine lh_tsOut (tgt := 36) rfl (by have q0 := lv_neT c1 (a := 4) (by decide); have q1 := lv_neT c2 (a := 5) (by decide); have q2 := lv_neT c3 (a := 6) (by decide); have q3 := lv_neT c4 (a := 7) (by decide); have q4 := lv_neT c6 (a := 8) (by decide); have q5 := lv_neT c8 (a := 9) (by decide); omega) rfl ?_
              refine lh_iload_n (q := 1) rfl rfl rfl ?_
              refine lh_if_ne rfl (fun c11 => ?_) (fun c11 => ?_)
              · have hf := lh_ifF hf c11
                refine lh_iconst rfl lh_k_1 ?_
                refine lh_goto rfl ?_
                exact lh_iret rfl rfl rfl (by obtain rfl := Option.some.inj hf; exact hK)
              · have hf := lh_ifT hf c11
                refine lh_iload_n (q := 2) rfl rfl rfl ?_
                refine lh_if_eq rfl (fun c12 => ?_) (fun c12 => ?_)
                · have hf := lh_ifT hf c12
                  refine lh_iconst rfl lh_k_0 ?_
                  exact lh_iret rfl rfl rfl (by obtain rfl := Option.some.inj hf; exact hK)
                · have hf := lh_ifF hf c12
                  refine lh_iconst rfl lh_k_1 ?_
                  refine lh_goto rfl ?_
                  exact lh_iret rfl rfl rfl (by obtain rfl := Option.some.inj hf; exact hK)
def f_LM_worthAt_4 : Nat → Int32 → Int32 → lh_II → Option (lh_II)
  | 0, _, _, _ => none
  | n + 1, v2, v3, I => lh_gd (lh_ix v3 2200) (if (I (72 + 4) v3.toNatClampNeg) = 0 then some I else lh_gd (lh_ix v3 2200) (if (I (72 + 4) v3.toNatClampNeg) = 1 then lh_gd (lh_ix v3 2200) (lh_gd (lh_ix v2 1100) (f_LM_worthAt_4 n (v2 + 1) (v3 + 1) (lh_u2 I (77 + 4) v2.toNatClampNeg (I (73 + 4) v3.toNatClampNeg)))) else if (I (72 + 4) v3.toNatClampNeg) = 2 then lh_gd (lh_ix v3 2200) (lh_gd (lh_ix (I (73 + 4) v3.toNatClampNeg) 4) (lh_gd (lh_ix v2 1100) (f_LM_worthAt_4 n (v2 + 1) (v3 + 1) (lh_u2 I (77 + 4) v2.toNatClampNeg (I (76 + 4) (I (73 + 4) v3.toNatClampNeg).toNatClampNeg))))) else if (I (72 + 4) v3.toNatClampNeg) = 3 then lh_gd (lh_ix (v2 - 1) 1100) (if (I (77 + 4) (v2 - 1).toNatClampNeg) = 0 then lh_gd (lh_ix (v2 - 1) 1100) (f_LM_worthAt_4 n v2 (v3 + 1) (lh_u2 I (77 + 4) (v2 - 1).toNatClampNeg 1)) else lh_gd (lh_ix (v2 - 1) 1100) (f_LM_worthAt_4 n v2 (v3 + 1) (lh_u2 I (77 + 4) (v2 - 1).toNatClampNeg 0))) else lh_gd (lh_ix ((v2 + (-1)) - 1) 1100) (lh_gd (lh_ix (v2 + (-1)) 1100) (lh_bd (f_LM_both (I (72 + 4) v3.toNatClampNeg) (I (77 + 4) ((v2 + (-1)) - 1).toNatClampNeg) (I (77 + 4) (v2 + (-1)).toNatClampNeg)) fun r11 => lh_gd (lh_ix ((v2 + (-1)) - 1) 1100) (f_LM_worthAt_4 n (v2 + (-1)) (v3 + 1) (lh_u2 I (77 + 4) ((v2 + (-1)) - 1).toNatClampNeg r11))))))
def f_LM_worthAt (x1 : Int32) (I : lh_II) : Option (Int32 × lh_II) := lh_bd (f_LM_worthAt_4 lh_fuel 0 x1 I) fun r21 => some ((r21 (77 + 4) 0), r21)
theorem t_LM_worthAt_4 {Γ : lh_Cx} {F : lh_FF} {S : lh_SS} {Z : List Frame → Array Value → State → State → Prop} (hG : lh_GX Γ) (hS : lh_laym F S)   {L : lh_LL} : ∀ (n : Nat) (v2 : Int32) (v3 : Int32) (I : lh_II) (o : lh_II), f_LM_worthAt_4 n v2 v3 I = some o → ∀ (x0_ : lh_G Γ m_LM_worthAt (lh_R 1 0 0) Z 0 0 82 [(0, .ref (65 + 4))] [] (o, L, F, S)), lh_G Γ m_LM_worthAt (lh_R 1 0 0) Z 0 0 4 [(0, .ref (65 + 4)), (2, .int v2), (3, .int v3)] [] (I, L, F, S) := by
  intro n
  induction n with
  | zero => intro v2 v3 I o hf; cases hf
  | succ n ih =>
    intro v2 v3 I o hf x0_
    rw [f_LM_worthAt_4] at hf
    refine lh_aload_n (q := 0) rfl rfl rfl ?_
    refine lh_getR4 rfl rfl (hS.1 0 _ rfl) rfl (hS.2 6 _ rfl) ?_
    refine lh_iload_n (q := 2) rfl rfl rfl ?_
    obtain ⟨g1, hf⟩ := lh_gdE hf
    refine lh_iald4 rfl (hS.1 7 _ rfl) g1 ?_
    refine lh_if_eq rfl (fun c2 => ?_) (fun c2 => ?_)
    · have hf := lh_ifT hf c2
      exact lh_less [0] rfl (by cases hf; exact x0_)
    · have hf := lh_ifF hf c2
      refine lh_aload_n (q := 0) rfl rfl rfl ?_
      refine lh_getR4 rfl rfl (hS.1 0 _ rfl) rfl (hS.2 6 _ rfl) ?_
      refine lh_iload_n (q := 2) rfl rfl rfl ?_
      obtain ⟨g3, hf⟩ := lh_gdE hf
      refine lh_iald4 rfl (hS.1 7 _ rfl) g3 ?_
      refine lh_istore (lv' := [(0, .ref (65 + 4)), (2, .int v2), (3, .int v3), (4, .int (I (72 + 4) v3.toNatClampNeg))]) rfl rfl rfl ?_
      refine lh_iload (q := 3) rfl rfl ?_
      refine lh_iconst rfl lh_k_1 ?_
      refine lh_icmp_eq rfl (fun c4 => ?_) (fun c4 => ?_)
      · have hf := lh_ifT hf c4
        refine lh_aload_n (q := 0) rfl rfl rfl ?_
        refine lh_getR4 rfl rfl (hS.1 0 _ rfl) rfl (hS.2 11 _ rfl) ?_
        refine lh_iload_n (q := 1) rfl rfl rfl ?_
        refine lh_iload (q := 3) rfl rfl ?_
        refine lh_iconst rfl lh_k_1 ?_
        refine lh_icmp_ne rfl (fun c => absurd c4 c) (fun _ => ?_)
        refine lh_aload_n (q := 0) rfl rfl rfl ?_
        refine lh_getR4 rfl rfl (hS.1 0 _ rfl) rfl (hS.2 7 _ rfl) ?_
        refine lh_iload_n (q := 2) rfl rfl rfl ?_
        obtain ⟨g5, hf⟩ := lh_gdE hf
        refine lh_iald4 rfl (hS.1 8 _ rfl) g5 ?_
        refine lh_goto rfl ?_
        obtain ⟨g6, hf⟩ := lh_gdE hf
        refine lh_iast4 rfl (hS.1 12 _ rfl) g6 ?_
        refine lh_iinc (q := 1) (v := (v2 + 1)) (lv' := [(0, .ref (65 + 4)), (2, .int (v2 + 1)), (3, .int v3), (4, .int (I (72 + 4) v3.toNatClampNeg))]) rfl rfl (congrArg (v2 + ·) (by decide)) rfl rfl ?_
        refine lh_goto rfl ?_
        refine lh_iinc (q := 2) (v := (v3 + 1)) (lv' := [(0, .ref (65 + 4)), (2, .int (v2 + 1)), (3, .int (v3 + 1)), (4, .int (I (72 + 4) v3.toNatClampNeg))]) rfl rfl (congrArg (v3 + ·) (by decide)) rfl rfl ?_
        refine lh_goto rfl ?_
        refine lh_less [0, 1, 2] rfl ?_
        exact ih (v2 + 1) (v3 + 1) (lh_u2 I (77 + 4) v2.toNatClampNeg (I (73 + 4) v3.toNatClampNeg)) _ hf x0_
      · have hf := lh_ifF hf c4
        refine lh_iload (q := 3) rfl rfl ?_
        refine lh_iconst rfl lh_k_2 ?_
        refine lh_icmp_ne rfl (fun c7 => ?_) (fun c7 => ?_)
        · have hf := lh_ifF hf c7
          refine lh_iload (q := 3) rfl rfl ?_
          refine lh_iconst rfl lh_k_3 ?_
          refine lh_icmp_ne rfl (fun c8 => ?_) (fun c8 => ?_)
          · have hf := lh_ifF hf c8
            refine lh_iinc (q := 1) (v := (v2 + (-1))) (lv' := [(0, .ref (65 + 4)), (2, .int (v2 + (-1))), (3, .int v3), (4, .int (I (72 + 4) v3.toNatClampNeg))]) rfl rfl (congrArg (v2 + ·) (by decide)) rfl rfl ?_
            refine lh_aload_n (q := 0) rfl rfl rfl ?_
            refine lh_getR4 rfl rfl (hS.1 0 _ rfl) rfl (hS.2 11 _ rfl) ?_
            refine lh_iload_n (q := 1) rfl rfl rfl ?_
            refine lh_iconst rfl lh_k_1 ?_
            refine lh_isub rfl ?_
            refine lh_iload (q := 3) rfl rfl ?_
            refine lh_aload_n (q := 0) rfl rfl rfl ?_
            refine lh_getR4 rfl rfl (hS.1 0 _ rfl) rfl (hS.2 11 _ rfl) ?_
            refine lh_iload_n (q := 1) rfl rfl rfl ?_
            refine lh_iconst rfl lh_k_1 ?_
            refine lh_isub rfl ?_
            obtain ⟨g9, hf⟩ := lh_gdE hf
            refine lh_iald4 rfl (hS.1 12 _ rfl) g9 ?_
            refine lh_aload_n (q := 0) rfl rfl rfl ?_
            refine lh_getR4 rfl rfl (hS.1 0 _ rfl) rfl (hS.2 11 _ rfl) ?_
            refine lh_iload_n (q := 1) rfl rfl rfl ?_
            obtain ⟨g10, hf⟩ := lh_gdE hf
            refine lh_iald4 rfl (hS.1 12 _ rfl) g10 ?_
            refine lh_bdE hf (fun r11 e12 hf => ?_)
            refine lh_cSi (N := m_LM_both) (d := 0) (As := [.int (I (72 + 4) v3.toNatClampNeg), .int (I (77 + 4) ((v2 + (-1)) - 1).toNatClampNeg), .int (I (77 + 4) (v2 + (-1)).toNatClampNeg)]) (st := [.int ((v2 + (-1)) - 1), .ref (77 + 4)]) rfl rfl v_LM_both rfl rfl ⟨rfl, rfl⟩ rfl (t_LM_both hG hS e12 ?_)
            obtain ⟨g13, hf⟩ := lh_gdE hf
            refine lh_iast4 rfl (hS.1 12 _ rfl) g13 ?_
            refine lh_iinc (q := 2) (v := (v3 + 1)) (lv' := [(0, .ref (65 + 4)), (2, .int (v2 + (-1))), (3, .int (v3 + 1)), (4, .int (I (72 + 4) v3.toNatClampNeg))]) rfl rfl (congrArg (v3 + ·) (by decide)) rfl rfl ?_
            refine lh_goto rfl ?_
            refine lh_less [0, 1, 2] rfl ?_
            exact ih (v2 + (-1)) (v3 + 1) (lh_u2 I (77 + 4) ((v2 + (-1)) - 1).toNatClampNeg r11) _ hf x0_
          · have hf := lh_ifT hf c8
            refine lh_aload_n (q := 0) rfl rfl rfl ?_
            refine lh_getR4 rfl rfl (hS.1 0 _ rfl) rfl (hS.2 11 _ rfl) ?_
            refine lh_iload_n (q := 1) rfl rfl rfl ?_
            refine lh_iconst rfl lh_k_1 ?_
            refine lh_isub rfl ?_
            refine lh_aload_n (q := 0) rfl rfl rfl ?_
            refine lh_getR4 rfl rfl (hS.1 0 _ rfl) rfl (hS.2 11 _ rfl) ?_
            refine lh_iload_n (q := 1) rfl rfl rfl ?_
            refine lh_iconst rfl lh_k_1 ?_
            refine lh_isub rfl ?_
            obtain ⟨g14, hf⟩ := lh_gdE hf
            refine lh_iald4 rfl (hS.1 12 _ rfl) g14 ?_
            refine lh_if_ne rfl (fun c15 => ?_) (fun c15 => ?_)
            · have hf := lh_ifF hf c15
              refine lh_iconst rfl lh_k_0 ?_
              obtain ⟨g16, hf⟩ := lh_gdE hf
              refine lh_iast4 rfl (hS.1 12 _ rfl) g16 ?_
              refine lh_goto rfl ?_
              refine lh_iinc (q := 2) (v := (v3 + 1)) (lv' := [(0, .ref (65 + 4)), (2, .int v2), (3, .int (v3 + 1)), (4, .int (I (72 + 4) v3.toNatClampNeg))]) rfl rfl (congrArg (v3 + ·) (by decide)) rfl rfl ?_
              refine lh_goto rfl ?_
              refine lh_less [0, 1, 2] rfl ?_
              exact ih v2 (v3 + 1) (lh_u2 I (77 + 4) (v2 - 1).toNatClampNeg 0) _ hf x0_
            · have hf := lh_ifT hf c15
              refine lh_iconst rfl lh_k_1 ?_
              refine lh_goto rfl ?_
              obtain ⟨g17, hf⟩ := lh_gdE hf
              refine lh_iast4 rfl (hS.1 12 _ rfl) g17 ?_
              refine lh_goto rfl ?_
              refine lh_iinc (q := 2) (v := (v3 + 1)) (lv' := [(0, .ref (65 + 4)), (2, .int v2), (3, .int (v3 + 1)), (4, .int (I (72 + 4) v3.toNatClampNeg))]) rfl rfl (congrArg (v3 + ·) (by decide)) rfl rfl ?_
              refine lh_goto rfl ?_
              refine lh_less [0, 1, 2] rfl ?_
              exact ih v2 (v3 + 1) (lh_u2 I (77 + 4) (v2 - 1).toNatClampNeg 1) _ hf x0_
        · have hf := lh_ifT hf c7
          refine lh_aload_n (q := 0) rfl rfl rfl ?_
          refine lh_getR4 rfl rfl (hS.1 0 _ rfl) rfl (hS.2 11 _ rfl) ?_
          refine lh_iload_n (q := 1) rfl rfl rfl ?_
          refine lh_iload (q := 3) rfl rfl ?_
          refine lh_iconst rfl lh_k_1 ?_
          refine lh_icmp_ne rfl (fun _ => ?_) (fun c => absurd c c4)
          refine lh_aload_n (q := 0) rfl rfl rfl ?_
          refine lh_getR4 rfl rfl (hS.1 0 _ rfl) rfl (hS.2 10 _ rfl) ?_
          refine lh_aload_n (q := 0) rfl rfl rfl ?_
          refine lh_getR4 rfl rfl (hS.1 0 _ rfl) rfl (hS.2 7 _ rfl) ?_
          refine lh_iload_n (q := 2) rfl rfl rfl ?_
          obtain ⟨g18, hf⟩ := lh_gdE hf
          refine lh_iald4 rfl (hS.1 8 _ rfl) g18 ?_
          obtain ⟨g19, hf⟩ := lh_gdE hf
          refine lh_iald4 rfl (hS.1 11 _ rfl) g19 ?_
          obtain ⟨g20, hf⟩ := lh_gdE hf
          refine lh_iast4 rfl (hS.1 12 _ rfl) g20 ?_
          refine lh_iinc (q := 1) (v := (v2 + 1)) (lv' := [(0, .ref (65 + 4)), (2, .int (v2 + 1)), (3, .int v3), (4, .int (I (72 + 4) v3.toNatClampNeg))]) rfl rfl (congrArg (v2 + ·) (by decide)) rfl rfl ?_
          refine lh_goto rfl ?_
          refine lh_iinc (q := 2) (v := (v3 + 1)) (lv' := [(0, .ref (65 + 4)), (2, .int (v2 + 1)), (3, .int (v3 + 1)), (4, .int (I (72 + 4) v3.toNatClampNeg))]) rfl rfl (congrArg (v3 + ·) (by decide)) rfl rfl ?_
          refine lh_goto rfl ?_
          refine lh_less [0, 1, 2] rfl ?_
          exact ih (v2 + 1) (v3 + 1) (lh_u2 I (77 + 4) v2.toNatClampNeg (I (76 + 4) (I (73 + 4) v3.toNatClampNeg).toNatClampNeg)) _ hf x0_
theorem t_LM_worthAt {Γ : lh_Cx} {I : lh_II} {L : lh_LL} {F : lh_FF} {S : lh_SS} {K : Int32 → lh_Hp → Prop} {r : Int32 × lh_II} (hG : lh_GX Γ) (hS : lh_laym F S)  {x1 : Int32} (hf : f_LM_worthAt x1 I = some r) (hK : K r.1 (r.2, L, F, S)) : lh_Met Γ m_LM_worthAt 1 0 0 [.ref (65 + 4), .int x1] (I, L, F, S) (lh_ki K) := by
  rw [f_LM_worthAt] at hf
  refine lh_ofG k_LM_worthAt [(0, .ref (65 + 4)), (1, .int x1)] rfl (Nat.le_of_ble_eq_true rfl) rfl ?_
  refine lh_iconst rfl lh_k_0 ?_
  refine lh_istore_n (lv' := [(0, .ref (65 + 4)), (1, .int x1), (2, .int 0)]) rfl rfl rfl rfl ?_
  refine lh_iload_n (q := 1) rfl rfl rfl ?_
  refine lh_istore_n (lv' := [(0, .ref (65 + 4)), (1, .int x1), (2, .int 0), (3, .int x1)]) rfl rfl rfl rfl ?_
  refine lh_bdE hf (fun r21 e22 hf => ?_)
  refine lh_less [0, 2, 3] rfl ?_
  refine t_LM_worthAt_4 hG hS  _ 0 x1 I _ e22 ?_
  refine lh_aload_n (q := 0) rfl rfl rfl ?_
  refine lh_getR4 rfl rfl (hS.1 0 _ rfl) rfl (hS.2 11 _ rfl) ?_
  refine lh_iconst rfl lh_k_0 ?_
  refine lh_iald5 (k := 0) rfl (hS.1 12 _ rfl) (by decide) (by decide) ?_
  exact lh_iret rfl rfl rfl (by obtain rfl := Option.some.inj hf; exact hK)
def f_LM_dayShown (x1 : Int32) (x2 : Int32) (x3 : Int32) (I : lh_II) : Option (Int32 × lh_II) := lh_gd (lh_ix (x1 + 3) 736) (lh_gd (lh_ix (x1 + 4) 736) (if x2 ≤ x3 then lh_gd (lh_ix (x1 + 2) 736) (if 0 ≤ ((lh_u2 (lh_u2 (lh_u2 (lh_u2 I (76 + 4) 0 (I (78 + 4) (x1 + 3).toNatClampNeg)) (76 + 4) 1 ((lh_u2 I (76 + 4) 0 (I (78 + 4) (x1 + 3).toNatClampNeg)) (78 + 4) (x1 + 4).toNatClampNeg)) (76 + 4) 2 (x3 - x2)) (76 + 4) 3 ((lh_u2 (lh_u2 (lh_u2 I (76 + 4) 0 (I (78 + 4) (x1 + 3).toNatClampNeg)) (76 + 4) 1 ((lh_u2 I (76 + 4) 0 (I (78 + 4) (x1 + 3).toNatClampNeg)) (78 + 4) (x1 + 4).toNatClampNeg)) (76 + 4) 2 (x3 - x2)) (78 + 4) (x1 + 2).toNatClampNeg)) (71 + 4) 8) then lh_bd (f_LM_worthAt ((lh_u2 (lh_u2 (lh_u2 (lh_u2 I (76 + 4) 0 (I (78 + 4) (x1 + 3).toNatClampNeg)) (76 + 4) 1 ((lh_u2 I (76 + 4) 0 (I (78 + 4) (x1 + 3).toNatClampNeg)) (78 + 4) (x1 + 4).toNatClampNeg)) (76 + 4) 2 (x3 - x2)) (76 + 4) 3 ((lh_u2 (lh_u2 (lh_u2 I (76 + 4) 0 (I (78 + 4) (x1 + 3).toNatClampNeg)) (76 + 4) 1 ((lh_u2 I (76 + 4) 0 (I (78 + 4) (x1 + 3).toNatClampNeg)) (78 + 4) (x1 + 4).toNatClampNeg)) (76 + 4) 2 (x3 - x2)) (78 + 4) (x1 + 2).toNatClampNeg)) (71 + 4) 8) (lh_u2 (lh_u2 (lh_u2 (lh_u2 I (76 + 4) 0 (I (78 + 4) (x1 + 3).toNatClampNeg)) (76 + 4) 1 ((lh_u2 I (76 + 4) 0 (I (78 + 4) (x1 + 3).toNatClampNeg)) (78 + 4) (x1 + 4).toNatClampNeg)) (76 + 4) 2 (x3 - x2)) (76 + 4) 3 ((lh_u2 (lh_u2 (lh_u2 I (76 + 4) 0 (I (78 + 4) (x1 + 3).toNatClampNeg)) (76 + 4) 1 ((lh_u2 I (76 + 4) 0 (I (78 + 4) (x1 + 3).toNatClampNeg)) (78 + 4) (x1 + 4).toNatClampNeg)) (76 + 4) 2 (x3 - x2)) (78 + 4) (x1 + 2).toNatClampNeg))) fun r6 => if 0 ≤ r6.1 then if r6.1 ≤ 3 then some (r6.1, r6.2) else some (3, r6.2) else some (0, r6.2) else lh_gd (lh_ix (x1 + 3) 736) (if 0 ≤ ((lh_u2 (lh_u2 (lh_u2 (lh_u2 I (76 + 4) 0 (I (78 + 4) (x1 + 3).toNatClampNeg)) (76 + 4) 1 ((lh_u2 I (76 + 4) 0 (I (78 + 4) (x1 + 3).toNatClampNeg)) (78 + 4) (x1 + 4).toNatClampNeg)) (76 + 4) 2 (x3 - x2)) (76 + 4) 3 ((lh_u2 (lh_u2 (lh_u2 I (76 + 4) 0 (I (78 + 4) (x1 + 3).toNatClampNeg)) (76 + 4) 1 ((lh_u2 I (76 + 4) 0 (I (78 + 4) (x1 + 3).toNatClampNeg)) (78 + 4) (x1 + 4).toNatClampNeg)) (76 + 4) 2 (x3 - x2)) (78 + 4) (x1 + 2).toNatClampNeg)) (78 + 4) (x1 + 3).toNatClampNeg) then if ((lh_u2 (lh_u2 (lh_u2 (lh_u2 I (76 + 4) 0 (I (78 + 4) (x1 + 3).toNatClampNeg)) (76 + 4) 1 ((lh_u2 I (76 + 4) 0 (I (78 + 4) (x1 + 3).toNatClampNeg)) (78 + 4) (x1 + 4).toNatClampNeg)) (76 + 4) 2 (x3 - x2)) (76 + 4) 3 ((lh_u2 (lh_u2 (lh_u2 I (76 + 4) 0 (I (78 + 4) (x1 + 3).toNatClampNeg)) (76 + 4) 1 ((lh_u2 I (76 + 4) 0 (I (78 + 4) (x1 + 3).toNatClampNeg)) (78 + 4) (x1 + 4).toNatClampNeg)) (76 + 4) 2 (x3 - x2)) (78 + 4) (x1 + 2).toNatClampNeg)) (78 + 4) (x1 + 3).toNatClampNeg) ≤ 3 then some (((lh_u2 (lh_u2 (lh_u2 (lh_u2 I (76 + 4) 0 (I (78 + 4) (x1 + 3).toNatClampNeg)) (76 + 4) 1 ((lh_u2 I (76 + 4) 0 (I (78 + 4) (x1 + 3).toNatClampNeg)) (78 + 4) (x1 + 4).toNatClampNeg)) (76 + 4) 2 (x3 - x2)) (76 + 4) 3 ((lh_u2 (lh_u2 (lh_u2 I (76 + 4) 0 (I (78 + 4) (x1 + 3).toNatClampNeg)) (76 + 4) 1 ((lh_u2 I (76 + 4) 0 (I (78 + 4) (x1 + 3).toNatClampNeg)) (78 + 4) (x1 + 4).toNatClampNeg)) (76 + 4) 2 (x3 - x2)) (78 + 4) (x1 + 2).toNatClampNeg)) (78 + 4) (x1 + 3).toNatClampNeg), lh_u2 (lh_u2 (lh_u2 (lh_u2 I (76 + 4) 0 (I (78 + 4) (x1 + 3).toNatClampNeg)) (76 + 4) 1 ((lh_u2 I (76 + 4) 0 (I (78 + 4) (x1 + 3).toNatClampNeg)) (78 + 4) (x1 + 4).toNatClampNeg)) (76 + 4) 2 (x3 - x2)) (76 + 4) 3 ((lh_u2 (lh_u2 (lh_u2 I (76 + 4) 0 (I (78 + 4) (x1 + 3).toNatClampNeg)) (76 + 4) 1 ((lh_u2 I (76 + 4) 0 (I (78 + 4) (x1 + 3).toNatClampNeg)) (78 + 4) (x1 + 4).toNatClampNeg)) (76 + 4) 2 (x3 - x2)) (78 + 4) (x1 + 2).toNatClampNeg)) else some (3, lh_u2 (lh_u2 (lh_u2 (lh_u2 I (76 + 4) 0 (I (78 + 4) (x1 + 3).toNatClampNeg)) (76 + 4) 1 ((lh_u2 I (76 + 4) 0 (I (78 + 4) (x1 + 3).toNatClampNeg)) (78 + 4) (x1 + 4).toNatClampNeg)) (76 + 4) 2 (x3 - x2)) (76 + 4) 3 ((lh_u2 (lh_u2 (lh_u2 I (76 + 4) 0 (I (78 + 4) (x1 + 3).toNatClampNeg)) (76 + 4) 1 ((lh_u2 I (76 + 4) 0 (I (78 + 4) (x1 + 3).toNatClampNeg)) (78 + 4) (x1 + 4).toNatClampNeg)) (76 + 4) 2 (x3 - x2)) (78 + 4) (x1 + 2).toNatClampNeg)) else some (0, lh_u2 (lh_u2 (lh_u2 (lh_u2 I (76 + 4) 0 (I (78 + 4) (x1 + 3).toNatClampNeg)) (76 + 4) 1 ((lh_u2 I (76 + 4) 0 (I (78 + 4) (x1 + 3).toNatClampNeg)) (78 + 4) (x1 + 4).toNatClampNeg)) (76 + 4) 2 (x3 - x2)) (76 + 4) 3 ((lh_u2 (lh_u2 (lh_u2 I (76 + 4) 0 (I (78 + 4) (x1 + 3).toNatClampNeg)) (76 + 4) 1 ((lh_u2 I (76 + 4) 0 (I (78 + 4) (x1 + 3).toNatClampNeg)) (78 + 4) (x1 + 4).toNatClampNeg)) (76 + 4) 2 (x3 - x2)) (78 + 4) (x1 + 2).toNatClampNeg)))) else lh_gd (lh_ix (x1 + 2) 736) (if 0 ≤ ((lh_u2 (lh_u2 (lh_u2 (lh_u2 I (76 + 4) 0 (I (78 + 4) (x1 + 3).toNatClampNeg)) (76 + 4) 1 ((lh_u2 I (76 + 4) 0 (I (78 + 4) (x1 + 3).toNatClampNeg)) (78 + 4) (x1 + 4).toNatClampNeg)) (76 + 4) 2 (x2 - x3)) (76 + 4) 3 ((lh_u2 (lh_u2 (lh_u2 I (76 + 4) 0 (I (78 + 4) (x1 + 3).toNatClampNeg)) (76 + 4) 1 ((lh_u2 I (76 + 4) 0 (I (78 + 4) (x1 + 3).toNatClampNeg)) (78 + 4) (x1 + 4).toNatClampNeg)) (76 + 4) 2 (x2 - x3)) (78 + 4) (x1 + 2).toNatClampNeg)) (71 + 4) 8) then lh_bd (f_LM_worthAt ((lh_u2 (lh_u2 (lh_u2 (lh_u2 I (76 + 4) 0 (I (78 + 4) (x1 + 3).toNatClampNeg)) (76 + 4) 1 ((lh_u2 I (76 + 4) 0 (I (78 + 4) (x1 + 3).toNatClampNeg)) (78 + 4) (x1 + 4).toNatClampNeg)) (76 + 4) 2 (x2 - x3)) (76 + 4) 3 ((lh_u2 (lh_u2 (lh_u2 I (76 + 4) 0 (I (78 + 4) (x1 + 3).toNatClampNeg)) (76 + 4) 1 ((lh_u2 I (76 + 4) 0 (I (78 + 4) (x1 + 3).toNatClampNeg)) (78 + 4) (x1 + 4).toNatClampNeg)) (76 + 4) 2 (x2 - x3)) (78 + 4) (x1 + 2).toNatClampNeg)) (71 + 4) 8) (lh_u2 (lh_u2 (lh_u2 (lh_u2 I (76 + 4) 0 (I (78 + 4) (x1 + 3).toNatClampNeg)) (76 + 4) 1 ((lh_u2 I (76 + 4) 0 (I (78 + 4) (x1 + 3).toNatClampNeg)) (78 + 4) (x1 + 4).toNatClampNeg)) (76 + 4) 2 (x2 - x3)) (76 + 4) 3 ((lh_u2 (lh_u2 (lh_u2 I (76 + 4) 0 (I (78 + 4) (x1 + 3).toNatClampNeg)) (76 + 4) 1 ((lh_u2 I (76 + 4) 0 (I (78 + 4) (x1 + 3).toNatClampNeg)) (78 + 4) (x1 + 4).toNatClampNeg)) (76 + 4) 2 (x2 - x3)) (78 + 4) (x1 + 2).toNatClampNeg))) fun r15 => if 0 ≤ r15.1 then if r15.1 ≤ 3 then some (r15.1, r15.2) else some (3, r15.2) else some (0, r15.2) else lh_gd (lh_ix (x1 + 3) 736) (if 0 ≤ ((lh_u2 (lh_u2 (lh_u2 (lh_u2 I (76 + 4) 0 (I (78 + 4) (x1 + 3).toNatClampNeg)) (76 + 4) 1 ((lh_u2 I (76 + 4) 0 (I (78 + 4) (x1 + 3).toNatClampNeg)) (78 + 4) (x1 + 4).toNatClampNeg)) (76 + 4) 2 (x2 - x3)) (76 + 4) 3 ((lh_u2 (lh_u2 (lh_u2 I (76 + 4) 0 (I (78 + 4) (x1 + 3).toNatClampNeg)) (76 + 4) 1 ((lh_u2 I (76 + 4) 0 (I (78 + 4) (x1 + 3).toNatClampNeg)) (78 + 4) (x1 + 4).toNatClampNeg)) (76 + 4) 2 (x2 - x3)) (78 + 4) (x1 + 2).toNatClampNeg)) (78 + 4) (x1 + 3).toNatClampNeg) then if ((lh_u2 (lh_u2 (lh_u2 (lh_u2 I (76 + 4) 0 (I (78 + 4) (x1 + 3).toNatClampNeg)) (76 + 4) 1 ((lh_u2 I (76 + 4) 0 (I (78 + 4) (x1 + 3).toNatClampNeg)) (78 + 4) (x1 + 4).toNatClampNeg)) (76 + 4) 2 (x2 - x3)) (76 + 4) 3 ((lh_u2 (lh_u2 (lh_u2 I (76 + 4) 0 (I (78 + 4) (x1 + 3).toNatClampNeg)) (76 + 4) 1 ((lh_u2 I (76 + 4) 0 (I (78 + 4) (x1 + 3).toNatClampNeg)) (78 + 4) (x1 + 4).toNatClampNeg)) (76 + 4) 2 (x2 - x3)) (78 + 4) (x1 + 2).toNatClampNeg)) (78 + 4) (x1 + 3).toNatClampNeg) ≤ 3 then some (((lh_u2 (lh_u2 (lh_u2 (lh_u2 I (76 + 4) 0 (I (78 + 4) (x1 + 3).toNatClampNeg)) (76 + 4) 1 ((lh_u2 I (76 + 4) 0 (I (78 + 4) (x1 + 3).toNatClampNeg)) (78 + 4) (x1 + 4).toNatClampNeg)) (76 + 4) 2 (x2 - x3)) (76 + 4) 3 ((lh_u2 (lh_u2 (lh_u2 I (76 + 4) 0 (I (78 + 4) (x1 + 3).toNatClampNeg)) (76 + 4) 1 ((lh_u2 I (76 + 4) 0 (I (78 + 4) (x1 + 3).toNatClampNeg)) (78 + 4) (x1 + 4).toNatClampNeg)) (76 + 4) 2 (x2 - x3)) (78 + 4) (x1 + 2).toNatClampNeg)) (78 + 4) (x1 + 3).toNatClampNeg), lh_u2 (lh_u2 (lh_u2 (lh_u2 I (76 + 4) 0 (I (78 + 4) (x1 + 3).toNatClampNeg)) (76 + 4) 1 ((lh_u2 I (76 + 4) 0 (I (78 + 4) (x1 + 3).toNatClampNeg)) (78 + 4) (x1 + 4).toNatClampNeg)) (76 + 4) 2 (x2 - x3)) (76 + 4) 3 ((lh_u2 (lh_u2 (lh_u2 I (76 + 4) 0 (I (78 + 4) (x1 + 3).toNatClampNeg)) (76 + 4) 1 ((lh_u2 I (76 + 4) 0 (I (78 + 4) (x1 + 3).toNatClampNeg)) (78 + 4) (x1 + 4).toNatClampNeg)) (76 + 4) 2 (x2 - x3)) (78 + 4) (x1 + 2).toNatClampNeg)) else some (3, lh_u2 (lh_u2 (lh_u2 (lh_u2 I (76 + 4) 0 (I (78 + 4) (x1 + 3).toNatClampNeg)) (76 + 4) 1 ((lh_u2 I (76 + 4) 0 (I (78 + 4) (x1 + 3).toNatClampNeg)) (78 + 4) (x1 + 4).toNatClampNeg)) (76 + 4) 2 (x2 - x3)) (76 + 4) 3 ((lh_u2 (lh_u2 (lh_u2 I (76 + 4) 0 (I (78 + 4) (x1 + 3).toNatClampNeg)) (76 + 4) 1 ((lh_u2 I (76 + 4) 0 (I (78 + 4) (x1 + 3).toNatClampNeg)) (78 + 4) (x1 + 4).toNatClampNeg)) (76 + 4) 2 (x2 - x3)) (78 + 4) (x1 + 2).toNatClampNeg)) else some (0, lh_u2 (lh_u2 (lh_u2 (lh_u2 I (76 + 4) 0 (I (78 + 4) (x1 + 3).toNatClampNeg)) (76 + 4) 1 ((lh_u2 I (76 + 4) 0 (I (78 + 4) (x1 + 3).toNatClampNeg)) (78 + 4) (x1 + 4).toNatClampNeg)) (76 + 4) 2 (x2 - x3)) (76 + 4) 3 ((lh_u2 (lh_u2 (lh_u2 I (76 + 4) 0 (I (78 + 4) (x1 + 3).toNatClampNeg)) (76 + 4) 1 ((lh_u2 I (76 + 4) 0 (I (78 + 4) (x1 + 3).toNatClampNeg)) (78 + 4) (x1 + 4).toNatClampNeg)) (76 + 4) 2 (x2 - x3)) (78 + 4) (x1 + 2).toNatClampNeg))))))
theorem t_LM_dayShown {Γ : lh_Cx} {I : lh_II} {L : lh_LL} {F : lh_FF} {S : lh_SS} {K : Int32 → lh_Hp → Prop} {r : Int32 × lh_II} (hG : lh_GX Γ) (hS : lh_laym F S)  {x1 : Int32} {x2 : Int32} {x3 : Int32} (hf : f_LM_dayShown x1 x2 x3 I = some r) (hK : K r.1 (r.2, L, F, S)) : lh_Met Γ m_LM_dayShown 2 0 0 [.ref (65 + 4), .int x1, .int x2, .int x3] (I, L, F, S) (lh_ki K) := by
  rw [f_LM_dayShown] at hf
  refine lh_ofG k_LM_dayShown [(0, .ref (65 + 4)), (1, .int x1), (2, .int x2), (3, .int x3)] rfl (Nat.le_of_ble_eq_true rfl) rfl ?_
  refine lh_aload_n (q := 0) rfl rfl rfl ?_
  refine lh_getR4 rfl rfl (hS.1 0 _ rfl) rfl (hS.2 10 _ rfl) ?_
  refine lh_iconst rfl lh_k_0 ?_
  refine lh_aload_n (q := 0) rfl rfl rfl ?_
  refine lh_getR4 rfl rfl (hS.1 0 _ rfl) rfl (hS.2 12 _ rfl) ?_
  refine lh_iload_n (q := 1) rfl rfl rfl ?_
  refine lh_iconst rfl lh_k_3 ?_
  refine lh_iadd rfl ?_
  obtain ⟨g1, hf⟩ := lh_gdE hf
  refine lh_iald4 rfl (hS.1 13 _ rfl) g1 ?_
  refine lh_iast5 (k := 0) rfl (hS.1 11 _ rfl) (by decide) (by decide) ?_
  refine lh_aload_n (q := 0) rfl rfl rfl ?_
  refine lh_getR4 rfl rfl (hS.1 0 _ rfl) rfl (hS.2 10 _ rfl) ?_
  refine lh_iconst rfl lh_k_1 ?_
  refine lh_aload_n (q := 0) rfl rfl rfl ?_
  refine lh_getR4 rfl rfl (hS.1 0 _ rfl) rfl (hS.2 12 _ rfl) ?_
  refine lh_iload_n (q := 1) rfl rfl rfl ?_
  refine lh_iconst rfl lh_k_4 ?_
  refine lh_iadd rfl ?_
  obtain ⟨g2, hf⟩ := lh_gdE hf
  refine lh_iald4 rfl (hS.1 13 _ rfl) g2 ?_
  refine lh_iast5 (k := 1) rfl (hS.1 11 _ rfl) (by decide) (by decide) ?_
  refine lh_aload_n (q := 0) rfl rfl rfl ?_
  refine lh_getR4 rfl rfl (hS.1 0 _ rfl) rfl (hS.2 10 _ rfl) ?_
  refine lh_iconst rfl lh_k_2 ?_
  refine lh_iload_n (q := 3) rfl rfl rfl ?_
  refine lh_iload_n (q := 2) rfl rfl rfl ?_
  refine lh_icmp_ge rfl (fun c3 => ?_) (fun c3 => ?_)
  · have hf := lh_ifT hf c3
    refine lh_iload_n (q := 3) rfl rfl rfl ?_
    refine lh_iload_n (q := 2) rfl rfl rfl ?_
    refine lh_isub rfl ?_
    refine lh_iast5 (k := 2) rfl (hS.1 11 _ rfl) (by decide) (by decide) ?_
    refine lh_aload_n (q := 0) rfl rfl rfl ?_
    refine lh_getR4 rfl rfl (hS.1 0 _ rfl) rfl (hS.2 10 _ rfl) ?_
    refine lh_iconst rfl lh_k_3 ?_
    refine lh_aload_n (q := 0) rfl rfl rfl ?_
    refine lh_getR4 rfl rfl (hS.1 0 _ rfl) rfl (hS.2 12 _ rfl) ?_
    refine lh_iload_n (q := 1) rfl rfl rfl ?_
    refine lh_iconst rfl lh_k_2 ?_
    refine lh_iadd rfl ?_
    obtain ⟨g4, hf⟩ := lh_gdE hf
    refine lh_iald4 rfl (hS.1 13 _ rfl) g4 ?_
    refine lh_iast5 (k := 3) rfl (hS.1 11 _ rfl) (by decide) (by decide) ?_
    refine lh_aload_n (q := 0) rfl rfl rfl ?_
    refine lh_getR4 rfl rfl (hS.1 0 _ rfl) rfl (hS.2 5 _ rfl) ?_
    refine lh_bipush rfl lh_b_8 ?_
    refine lh_iald5 (k := 8) rfl (hS.1 6 _ rfl) (by decide) (by decide) ?_
    refine lh_if_ge rfl (fun c5 => ?_) (fun c5 => ?_)
    · have hf := lh_ifT hf c5
      refine lh_aload_n (q := 0) rfl rfl rfl ?_
      refine lh_aload_n (q := 0) rfl rfl rfl ?_
      refine lh_getR4 rfl rfl (hS.1 0 _ rfl) rfl (hS.2 5 _ rfl) ?_
      refine lh_bipush rfl lh_b_8 ?_
      refine lh_iald5 (k := 8) rfl (hS.1 6 _ rfl) (by decide) (by decide) ?_
      refine lh_bdE hf (fun r6 e7 hf => ?_)
      refine lh_cVi (N := m_LM_worthAt) (d := 1) (o := 65) (As := [.int ((lh_u2 (lh_u2 (lh_u2 (lh_u2 I (76 + 4) 0 (I (78 + 4) (x1 + 3).toNatClampNeg)) (76 + 4) 1 ((lh_u2 I (76 + 4) 0 (I (78 + 4) (x1 + 3).toNatClampNeg)) (78 + 4) (x1 + 4).toNatClampNeg)) (76 + 4) 2 (x3 - x2)) (76 + 4) 3 ((lh_u2 (lh_u2 (lh_u2 I (76 + 4) 0 (I (78 + 4) (x1 + 3).toNatClampNeg)) (76 + 4) 1 ((lh_u2 I (76 + 4) 0 (I (78 + 4) (x1 + 3).toNatClampNeg)) (78 + 4) (x1 + 4).toNatClampNeg)) (76 + 4) 2 (x3 - x2)) (78 + 4) (x1 + 2).toNatClampNeg)) (71 + 4) 8)]) (st := []) rfl rfl v_LM_worthAt (hS.1 0 _ rfl) rfl rfl rfl ⟨rfl, rfl⟩ rfl (t_LM_worthAt hG hS e7 ?_)
      refine lh_istore (lv' := [(0, .ref (65 + 4)), (1, .int x1), (2, .int x2), (3, .int x3), (4, .int r6.1)]) rfl rfl rfl ?_
      refine lh_iload (q := 4) rfl rfl ?_
      refine lh_if_ge rfl (fun c8 => ?_) (fun c8 => ?_)
      · have hf := lh_ifT hf c8
        refine lh_iload (q := 4) rfl rfl ?_
        refine lh_iconst rfl lh_k_3 ?_
        refine lh_icmp_le rfl (fun c9 => ?_) (fun c9 => ?_)
        · have hf := lh_ifT hf c9
          refine lh_iload (q := 4) rfl rfl ?_
          exact lh_iret rfl rfl rfl (by obtain rfl := Option.some.inj hf; exact hK)
        · have hf := lh_ifF hf c9
          refine lh_iconst rfl lh_k_3 ?_
          refine lh_goto rfl ?_
          exact lh_iret rfl rfl rfl (by obtain rfl := Option.some.inj hf; exact hK)
      · have hf := lh_ifF hf c8
        refine lh_iconst rfl lh_k_0 ?_
        refine lh_goto rfl ?_
        exact lh_iret rfl rfl rfl (by obtain rfl := Option.some.inj hf; exact hK)
    · have hf := lh_ifF hf c5
      refine lh_aload_n (q := 0) rfl rfl rfl ?_
      refine lh_getR4 rfl rfl (hS.1 0 _ rfl) rfl (hS.2 12 _ rfl) ?_
      refine lh_iload_n (q := 1) rfl rfl rfl ?_
      refine lh_iconst rfl lh_k_3 ?_
      refine lh_iadd rfl ?_
      obtain ⟨g10, hf⟩ := lh_gdE hf
      refine lh_iald4 rfl (hS.1 13 _ rfl) g10 ?_
      refine lh_goto rfl ?_
      refine lh_istore (lv' := [(0, .ref (65 + 4)), (1, .int x1), (2, .int x2), (3, .int x3), (4, .int ((lh_u2 (lh_u2 (lh_u2 (lh_u2 I (76 + 4) 0 (I (78 + 4) (x1 + 3).toNatClampNeg)) (76 + 4) 1 ((lh_u2 I (76 + 4) 0 (I (78 + 4) (x1 + 3).toNatClampNeg)) (78 + 4) (x1 + 4).toNatClampNeg)) (76 + 4) 2 (x3 - x2)) (76 + 4) 3 ((lh_u2 (lh_u2 (lh_u2 I (76 + 4) 0 (I (78 + 4) (x1 + 3).toNatClampNeg)) (76 + 4) 1 ((lh_u2 I (76 + 4) 0 (I (78 + 4) (x1 + 3).toNatClampNeg)) (78 + 4) (x1 + 4).toNatClampNeg)) (76 + 4) 2 (x3 - x2)) (78 + 4) (x1 + 2).toNatClampNeg)) (78 + 4) (x1 + 3).toNatClampNeg))]) rfl rfl rfl ?_
      refine lh_iload (q := 4) rfl rfl ?_
      refine lh_if_ge rfl (fun c11 => ?_) (fun c11 => ?_)
      · have hf := lh_ifT hf c11
        refine lh_iload (q := 4) rfl rfl ?_
        refine lh_iconst rfl lh_k_3 ?_
        refine lh_icmp_le rfl (fun c12 => ?_) (fun c12 => ?_)
        · have hf := lh_ifT hf c12
          refine lh_iload (q := 4) rfl rfl ?_
          exact lh_iret rfl rfl rfl (by obtain rfl := Option.some.inj hf; exact hK)
        · have hf := lh_ifF hf c12
          refine lh_iconst rfl lh_k_3 ?_
          refine lh_goto rfl ?_
          exact lh_iret rfl rfl rfl (by obtain rfl := Option.some.inj hf; exact hK)
      · have hf := lh_ifF hf c11
        refine lh_iconst rfl lh_k_0 ?_
        refine lh_goto rfl ?_
        exact lh_iret rfl rfl rfl (by obtain rfl := Option.some.inj hf; exact hK)
  · have hf := lh_ifF hf c3
    refine lh_iload_n (q := 2) rfl rfl rfl ?_
    refine lh_iload_n (q := 3) rfl rfl rfl ?_
    refine lh_isub rfl ?_
    refine lh_goto rfl ?_
    refine lh_iast5 (k := 2) rfl (hS.1 11 _ rfl) (by decide) (by decide) ?_
    refine lh_aload_n (q := 0) rfl rfl rfl ?_
    refine lh_getR4 rfl rfl (hS.1 0 _ rfl) rfl (hS.2 10 _ rfl) ?_
    refine lh_iconst rfl lh_k_3 ?_
    refine lh_aload_n (q := 0) rfl rfl rfl ?_
    refine lh_getR4 rfl rfl (hS.1 0 _ rfl) rfl (hS.2 12 _ rfl) ?_
    refine lh_iload_n (q := 1) rfl rfl rfl ?_
    refine lh_iconst rfl lh_k_2 ?_
    refine lh_iadd rfl ?_
    obtain ⟨g13, hf⟩ := lh_gdE hf
    refine lh_iald4 rfl (hS.1 13 _ rfl) g13 ?_
    refine lh_iast5 (k := 3) rfl (hS.1 11 _ rfl) (by decide) (by decide) ?_
    refine lh_aload_n (q := 0) rfl rfl rfl ?_
    refine lh_getR4 rfl rfl (hS.1 0 _ rfl) rfl (hS.2 5 _ rfl) ?_
    refine lh_bipush rfl lh_b_8 ?_
    refine lh_iald5 (k := 8) rfl (hS.1 6 _ rfl) (by decide) (by decide) ?_
    refine lh_if_ge rfl (fun c14 => ?_) (fun c14 => ?_)
    · have hf := lh_ifT hf c14
      refine lh_aload_n (q := 0) rfl rfl rfl ?_
      refine lh_aload_n (q := 0) rfl rfl rfl ?_
      refine lh_getR4 rfl rfl (hS.1 0 _ rfl) rfl (hS.2 5 _ rfl) ?_
      refine lh_bipush rfl lh_b_8 ?_
      refine lh_iald5 (k := 8) rfl (hS.1 6 _ rfl) (by decide) (by decide) ?_
      refine lh_bdE hf (fun r15 e16 hf => ?_)
      refine lh_cVi (N := m_LM_worthAt) (d := 1) (o := 65) (As := [.int ((lh_u2 (lh_u2 (lh_u2 (lh_u2 I (76 + 4) 0 (I (78 + 4) (x1 + 3).toNatClampNeg)) (76 + 4) 1 ((lh_u2 I (76 + 4) 0 (I (78 + 4) (x1 + 3).toNatClampNeg)) (78 + 4) (x1 + 4).toNatClampNeg)) (76 + 4) 2 (x2 - x3)) (76 + 4) 3 ((lh_u2 (lh_u2 (lh_u2 I (76 + 4) 0 (I (78 + 4) (x1 + 3).toNatClampNeg)) (76 + 4) 1 ((lh_u2 I (76 + 4) 0 (I (78 + 4) (x1 + 3).toNatClampNeg)) (78 + 4) (x1 + 4).toNatClampNeg)) (76 + 4) 2 (x2 - x3)) (78 + 4) (x1 + 2).toNatClampNeg)) (71 + 4) 8)]) (st := []) rfl rfl v_LM_worthAt (hS.1 0 _ rfl) rfl rfl rfl ⟨rfl, rfl⟩ rfl (t_LM_worthAt hG hS e16 ?_)
      refine lh_istore (lv' := [(0, .ref (65 + 4)), (1, .int x1), (2, .int x2), (3, .int x3), (4, .int r15.1)]) rfl rfl rfl ?_
      refine lh_iload (q := 4) rfl rfl ?_
      refine lh_if_ge rfl (fun c17 => ?_) (fun c17 => ?_)
      · have hf := lh_ifT hf c17
        refine lh_iload (q := 4) rfl rfl ?_
        refine lh_iconst rfl lh_k_3 ?_
        refine lh_icmp_le rfl (fun c18 => ?_) (fun c18 => ?_)
        · have hf := lh_ifT hf c18
          refine lh_iload (q := 4) rfl rfl ?_
          exact lh_iret rfl rfl rfl (by obtain rfl := Option.some.inj hf; exact hK)
        · have hf := lh_ifF hf c18
          refine lh_iconst rfl lh_k_3 ?_
          refine lh_goto rfl ?_
          exact lh_iret rfl rfl rfl (by obtain rfl := Option.some.inj hf; exact hK)
      · have hf := lh_ifF hf c17
        refine lh_iconst rfl lh_k_0 ?_
        refine lh_goto rfl ?_
        exact lh_iret rfl rfl rfl (by obtain rfl := Option.some.inj hf; exact hK)
    · have hf := lh_ifF hf c14
      refine lh_aload_n (q := 0) rfl rfl rfl ?_
      refine lh_getR4 rfl rfl (hS.1 0 _ rfl) rfl (hS.2 12 _ rfl) ?_
      refine lh_iload_n (q := 1) rfl rfl rfl ?_
      refine lh_iconst rfl lh_k_3 ?_
      refine lh_iadd rfl ?_
      obtain ⟨g19, hf⟩ := lh_gdE hf
      refine lh_iald4 rfl (hS.1 13 _ rfl) g19 ?_
      refine lh_goto rfl ?_
      refine lh_istore (lv' := [(0, .ref (65 + 4)), (1, .int x1), (2, .int x2), (3, .int x3), (4, .int ((lh_u2 (lh_u2 (lh_u2 (lh_u2 I (76 + 4) 0 (I (78 + 4) (x1 + 3).toNatClampNeg)) (76 + 4) 1 ((lh_u2 I (76 + 4) 0 (I (78 + 4) (x1 + 3).toNatClampNeg)) (78 + 4) (x1 + 4).toNatClampNeg)) (76 + 4) 2 (x2 - x3)) (76 + 4) 3 ((lh_u2 (lh_u2 (lh_u2 I (76 + 4) 0 (I (78 + 4) (x1 + 3).toNatClampNeg)) (76 + 4) 1 ((lh_u2 I (76 + 4) 0 (I (78 + 4) (x1 + 3).toNatClampNeg)) (78 + 4) (x1 + 4).toNatClampNeg)) (76 + 4) 2 (x2 - x3)) (78 + 4) (x1 + 2).toNatClampNeg)) (78 + 4) (x1 + 3).toNatClampNeg))]) rfl rfl rfl ?_
      refine lh_iload (q := 4) rfl rfl ?_
      refine lh_if_ge rfl (fun c20 => ?_) (fun c20 => ?_)
      · have hf := lh_ifT hf c20
        refine lh_iload (q := 4) rfl rfl ?_
        refine lh_iconst rfl lh_k_3 ?_
        refine lh_icmp_le rfl (fun c21 => ?_) (fun c21 => ?_)
        · have hf := lh_ifT hf c21
          refine lh_iload (q := 4) rfl rfl ?_
          exact lh_iret rfl rfl rfl (by obtain rfl := Option.some.inj hf; exact hK)
        · have hf := lh_ifF hf c21
          refine lh_iconst rfl lh_k_3 ?_
          refine lh_goto rfl ?_
          exact lh_iret rfl rfl rfl (by obtain rfl := Option.some.inj hf; exact hK)
      · have hf := lh_ifF hf c20
        refine lh_iconst rfl lh_k_0 ?_
        refine lh_goto rfl ?_
        exact lh_iret rfl rfl rfl (by obtain rfl := Option.some.inj hf; exact hK)
def f_LM_seenFrom_4 (v1 : Int32) (v2 : Int32) (v3 : Int32) : Nat → Int32 → Int32 → lh_II → Option (Int32 × lh_II)
  | 0, _, _, _ => none
  | n + 1, v4, v5, I => lh_bd (f_LM_visitors I) fun r1 => if r1 ≤ v5 then some (v4, I) else lh_gd (lh_ix (v1 + 2) 736) (lh_bd (f_LM_cellOf v5 (I (78 + 4) (v1 + 2).toNatClampNeg) I) fun r5 => if r5 < 0 then f_LM_seenFrom_4 v1 v2 v3 n (v4 ||| 0) (v5 + 1) I else if ((v3 >>> (r5 &&& 31)) &&& 1) = 1 then lh_bd (f_LM_dayShown v1 v2 r5 I) fun r9 => lh_bd (f_LM_dayOf v5 r9.2) fun r11 => if r9.1 = r11 then f_LM_seenFrom_4 v1 v2 v3 n (v4 ||| ((1 : Int32) <<< (v5 &&& 31))) (v5 + 1) r9.2 else f_LM_seenFrom_4 v1 v2 v3 n (v4 ||| 0) (v5 + 1) r9.2 else f_LM_seenFrom_4 v1 v2 v3 n (v4 ||| 0) (v5 + 1) I)
def f_LM_seenFrom (x1 : Int32) (x2 : Int32) (x3 : Int32) (I : lh_II) : Option (Int32 × lh_II) := lh_bd (f_LM_seenFrom_4 x1 x2 x3 lh_fuel 0 0 I) fun r14 => some (r14.1, r14.2)
theorem t_LM_seenFrom_4 {Γ : lh_Cx} {F : lh_FF} {S : lh_SS} {Z : List Frame → Array Value → State → State → Prop} (hG : lh_GX Γ) (hS : lh_laym F S)  {v1 : Int32} {v2 : Int32} {v3 : Int32} {L : lh_LL} : ∀ (n : Nat) (v4 : Int32) (v5 : Int32) (I : lh_II) (o : Int32 × lh_II), f_LM_seenFrom_4 v1 v2 v3 n v4 v5 I = some o → ∀ (x0_ : lh_G Γ m_LM_seenFrom (lh_R 3 0 0) Z 0 0 46 [(4, .int o.1)] [] (o.2, L, F, S)), lh_G Γ m_LM_seenFrom (lh_R 3 0 0) Z 0 0 4 [(0, .ref (65 + 4)), (1, .int v1), (2, .int v2), (3, .int v3), (4, .int v4), (5, .int v5)] [] (I, L, F, S) := by
  intro n
  induction n with
  | zero => intro v4 v5 I o hf; cases hf
  | succ n ih =>
    intro v4 v5 I o hf x0_
    rw [f_LM_seenFrom_4] at hf
    refine lh_iload (q := 5) rfl rfl ?_
    refine lh_aload_n (q := 0) rfl rfl rfl ?_
    refine lh_bdE hf (fun r1 e2 hf => ?_)
    refine lh_cVi (N := m_LM_visitors) (d := 0) (o := 65) (As := []) (st := [.int v5]) rfl rfl v_LM_visitors (hS.1 0 _ rfl) rfl rfl rfl ⟨rfl, rfl⟩ rfl (t_LM_visitors hG hS e2 ?_)
    refine lh_icmp_ge rfl (fun c3 => ?_) (fun c3 => ?_)
    · have hf := lh_ifT hf c3
      exact lh_less [4] rfl (by cases hf; exact x0_)
    · have hf := lh_ifF hf c3
      refine lh_aload_n (q := 0) rfl rfl rfl ?_
      refine lh_iload (q := 5) rfl rfl ?_
      refine lh_aload_n (q := 0) rfl rfl rfl ?_
      refine lh_getR4 rfl rfl (hS.1 0 _ rfl) rfl (hS.2 12 _ rfl) ?_
      refine lh_iload_n (q := 1) rfl rfl rfl ?_
      refine lh_iconst rfl lh_k_2 ?_
      refine lh_iadd rfl ?_
      obtain ⟨g4, hf⟩ := lh_gdE hf
      refine lh_iald4 rfl (hS.1 13 _ rfl) g4 ?_
      refine lh_bdE hf (fun r5 e6 hf => ?_)
      refine lh_cVi (N := m_LM_cellOf) (d := 1) (o := 65) (As := [.int v5, .int (I (78 + 4) (v1 + 2).toNatClampNeg)]) (st := []) rfl rfl v_LM_cellOf (hS.1 0 _ rfl) rfl rfl rfl ⟨rfl, rfl⟩ rfl (t_LM_cellOf hG hS e6 ?_)
      refine lh_istore (lv' := [(0, .ref (65 + 4)), (1, .int v1), (2, .int v2), (3, .int v3), (4, .int v4), (5, .int v5), (6, .int r5)]) rfl rfl rfl ?_
      refine lh_iload (q := 4) rfl rfl ?_
      refine lh_iload (q := 6) rfl rfl ?_
      refine lh_if_lt rfl (fun c7 => ?_) (fun c7 => ?_)
      · have hf := lh_ifT hf c7
        refine lh_iconst rfl lh_k_0 ?_
        refine lh_ior rfl ?_
        refine lh_istore (lv' := [(0, .ref (65 + 4)), (1, .int v1), (2, .int v2), (3, .int v3), (4, .int (v4 ||| 0)), (5, .int v5), (6, .int r5)]) rfl rfl rfl ?_
        refine lh_iinc (q := 5) (v := (v5 + 1)) (lv' := [(0, .ref (65 + 4)), (1, .int v1), (2, .int v2), (3, .int v3), (4, .int (v4 ||| 0)), (5, .int (v5 + 1)), (6, .int r5)]) rfl rfl (congrArg (v5 + ·) (by decide)) rfl rfl ?_
        refine lh_goto rfl ?_
        refine lh_less [0, 1, 2, 3, 4, 5] rfl ?_
        exact ih (v4 ||| 0) (v5 + 1) I _ hf x0_
      · have hf := lh_ifF hf c7
        refine lh_iload_n (q := 3) rfl rfl rfl ?_
        refine lh_iload (q := 6) rfl rfl ?_
        refine lh_ishr rfl ?_
        refine lh_iconst rfl lh_k_1 ?_
        refine lh_iand rfl ?_
        refine lh_iconst rfl lh_k_1 ?_
        refine lh_icmp_ne rfl (fun c8 => ?_) (fun c8 => ?_)
        · have hf := lh_ifF hf c8
          refine lh_iconst rfl lh_k_0 ?_
          refine lh_ior rfl ?_
          refine lh_istore (lv' := [(0, .ref (65 + 4)), (1, .int v1), (2, .int v2), (3, .int v3), (4, .int (v4 ||| 0)), (5, .int v5), (6, .int r5)]) rfl rfl rfl ?_
          refine lh_iinc (q := 5) (v := (v5 + 1)) (lv' := [(0, .ref (65 + 4)), (1, .int v1), (2, .int v2), (3, .int v3), (4, .int (v4 ||| 0)), (5, .int (v5 + 1)), (6, .int r5)]) rfl rfl (congrArg (v5 + ·) (by decide)) rfl rfl ?_
          refine lh_goto rfl ?_
          refine lh_less [0, 1, 2, 3, 4, 5] rfl ?_
          exact ih (v4 ||| 0) (v5 + 1) I _ hf x0_
        · have hf := lh_ifT hf c8
          refine lh_aload_n (q := 0) rfl rfl rfl ?_
          refine lh_iload_n (q := 1) rfl rfl rfl ?_
          refine lh_iload_n (q := 2) rfl rfl rfl ?_
          refine lh_iload (q := 6) rfl rfl ?_
          refine lh_bdE hf (fun r9 e10 hf => ?_)
          refine lh_cVi (N := m_LM_dayShown) (d := 2) (o := 65) (As := [.int v1, .int v2, .int r5]) (st := [.int v4]) rfl rfl v_LM_dayShown (hS.1 0 _ rfl) rfl rfl rfl ⟨rfl, rfl⟩ rfl (t_LM_dayShown hG hS e10 ?_)
          refine lh_aload_n (q := 0) rfl rfl rfl ?_
          refine lh_iload (q := 5) rfl rfl ?_
          refine lh_bdE hf (fun r11 e12 hf => ?_)
          refine lh_cVi (N := m_LM_dayOf) (d := 0) (o := 65) (As := [.int v5]) (st := [.int r9.1, .int v4]) rfl rfl v_LM_dayOf (hS.1 0 _ rfl) rfl rfl rfl ⟨rfl, rfl⟩ rfl (t_LM_dayOf hG hS e12 ?_)
          refine lh_icmp_ne rfl (fun c13 => ?_) (fun c13 => ?_)
          · have hf := lh_ifF hf c13
            refine lh_iconst rfl lh_k_0 ?_
            refine lh_ior rfl ?_
            refine lh_istore (lv' := [(0, .ref (65 + 4)), (1, .int v1), (2, .int v2), (3, .int v3), (4, .int (v4 ||| 0)), (5, .int v5), (6, .int r5)]) rfl rfl rfl ?_
            refine lh_iinc (q := 5) (v := (v5 + 1)) (lv' := [(0, .ref (65 + 4)), (1, .int v1), (2, .int v2), (3, .int v3), (4, .int (v4 ||| 0)), (5, .int (v5 + 1)), (6, .int r5)]) rfl rfl (congrArg (v5 + ·) (by decide)) rfl rfl ?_
            refine lh_goto rfl ?_
            refine lh_less [0, 1, 2, 3, 4, 5] rfl ?_
            exact ih (v4 ||| 0) (v5 + 1) r9.2 _ hf x0_
          · have hf := lh_ifT hf c13
            refine lh_iconst rfl lh_k_1 ?_
            refine lh_iload (q := 5) rfl rfl ?_
            refine lh_ishl rfl ?_
            refine lh_goto rfl ?_
            refine lh_ior rfl ?_
            refine lh_istore (lv' := [(0, .ref (65 + 4)), (1, .int v1), (2, .int v2), (3, .int v3), (4, .int (v4 ||| ((1 : Int32) <<< (v5 &&& 31)))), (5, .int v5), (6, .int r5)]) rfl rfl rfl ?_
            refine lh_iinc (q := 5) (v := (v5 + 1)) (lv' := [(0, .ref (65 + 4)), (1, .int v1), (2, .int v2), (3, .int v3), (4, .int (v4 ||| ((1 : Int32) <<< (v5 &&& 31)))), (5, .int (v5 + 1)), (6, .int r5)]) rfl rfl (congrArg (v5 + ·) (by decide)) rfl rfl ?_
            refine lh_goto rfl ?_
            refine lh_less [0, 1, 2, 3, 4, 5] rfl ?_
            exact ih (v4 ||| ((1 : Int32) <<< (v5 &&& 31))) (v5 + 1) r9.2 _ hf x0_
theorem t_LM_seenFrom {Γ : lh_Cx} {I : lh_II} {L : lh_LL} {F : lh_FF} {S : lh_SS} {K : Int32 → lh_Hp → Prop} {r : Int32 × lh_II} (hG : lh_GX Γ) (hS : lh_laym F S)  {x1 : Int32} {x2 : Int32} {x3 : Int32} (hf : f_LM_seenFrom x1 x2 x3 I = some r) (hK : K r.1 (r.2, L, F, S)) : lh_Met Γ m_LM_seenFrom 3 0 0 [.ref (65 + 4), .int x1, .int x2, .int x3] (I, L, F, S) (lh_ki K) := by
  rw [f_LM_seenFrom] at hf
  refine lh_ofG k_LM_seenFrom [(0, .ref (65 + 4)), (1, .int x1), (2, .int x2), (3, .int x3)] rfl (Nat.le_of_ble_eq_true rfl) rfl ?_
  refine lh_iconst rfl lh_k_0 ?_
  refine lh_istore (lv' := [(0, .ref (65 + 4)), (1, .int x1), (2, .int x2), (3, .int x3), (4, .int 0)]) rfl rfl rfl ?_
  refine lh_iconst rfl lh_k_0 ?_
  refine lh_istore (lv' := [(0, .ref (65 + 4)), (1, .int x1), (2, .int x2), (3, .int x3), (4, .int 0), (5, .int 0)]) rfl rfl rfl ?_
  refine lh_bdE hf (fun r14 e15 hf => ?_)
  refine t_LM_seenFrom_4 hG hS  _ 0 0 I _ e15 ?_
  refine lh_iload (q := 0) rfl rfl ?_
  exact lh_iret rfl rfl rfl (by obtain rfl := Option.some.inj hf; exact hK)
def f_LM_best_9 : Nat → Int32 → Int32 → Int32 → lh_II → Option (Int32 × lh_II)
  | 0, _, _, _, _ => none
  | n + 1, v1, v2, v3, I => lh_bd (f_LM_cells I) fun r1 => if r1 ≤ v3 then some (v1, I) else lh_bd (f_LM_isPillar v3 I) fun r4 => if r4 = 0 then if (I (78 + 4) 4) ≤ 0 then lh_bd (f_LM_seenFrom (0 : Int32) v3 (0 : Int32) I) fun r8 => lh_bd (f_LM_bits r8.1) fun r10 => if r10 ≤ v2 then f_LM_best_9 n v1 v2 (v3 + 1) r8.2 else f_LM_best_9 n v3 r10 (v3 + 1) r8.2 else lh_bd (f_LM_litFrom v3 ((-1) : Int32) I) fun r13 => lh_bd (f_LM_seenFrom (0 : Int32) v3 r13 I) fun r15 => lh_bd (f_LM_bits r15.1) fun r17 => if r17 ≤ v2 then f_LM_best_9 n v1 v2 (v3 + 1) r15.2 else f_LM_best_9 n v3 r17 (v3 + 1) r15.2 else if (-1) ≤ v2 then f_LM_best_9 n v1 v2 (v3 + 1) I else f_LM_best_9 n v3 (-1) (v3 + 1) I
def f_LM_best (I : lh_II) : Option (Int32 × lh_II) := lh_bd (f_LM_best_9 lh_fuel (-1) (-1) 0 (lh_u2 I (65 + 4) 0 0)) fun r21 => some (r21.1, r21.2)
theorem t_LM_best_9 {Γ : lh_Cx} {F : lh_FF} {S : lh_SS} {Z : List Frame → Array Value → State → State → Prop} (hG : lh_GX Γ) (hS : lh_laym F S)   {L : lh_LL} : ∀ (n : Nat) (v1 : Int32) (v2 : Int32) (v3 : Int32) (I : lh_II) (o : Int32 × lh_II), f_LM_best_9 n v1 v2 v3 I = some o → ∀ (x0_ : lh_G Γ m_LM_best (lh_R 4 0 0) Z 0 0 52 [(1, .int o.1)] [] (o.2, L, F, S)), lh_G Γ m_LM_best (lh_R 4 0 0) Z 0 0 9 [(0, .ref (65 + 4)), (1, .int v1), (2, .int v2), (3, .int v3)] [] (I, L, F, S) := by
  intro n
  induction n with
  | zero => intro v1 v2 v3 I o hf; cases hf
  | succ n ih =>
    intro v1 v2 v3 I o hf x0_
    rw [f_LM_best_9] at hf
    refine lh_iload_n (q := 3) rfl rfl rfl ?_
    refine lh_aload_n (q := 0) rfl rfl rfl ?_
    refine lh_bdE hf (fun r1 e2 hf => ?_)
    refine lh_cVi (N := m_LM_cells) (d := 0) (o := 65) (As := []) (st := [.int v3]) rfl rfl v_LM_cells (hS.1 0 _ rfl) rfl rfl rfl ⟨rfl, rfl⟩ rfl (t_LM_cells hG hS e2 ?_)
    refine lh_icmp_ge rfl (fun c3 => ?_) (fun c3 => ?_)
    · have hf := lh_ifT hf c3
      exact lh_less [1] rfl (by cases hf; exact x0_)
    · have hf := lh_ifF hf c3
      refine lh_aload_n (q := 0) rfl rfl rfl ?_
      refine lh_iload_n (q := 3) rfl rfl rfl ?_
      refine lh_bdE hf (fun r4 e5 hf => ?_)
      refine lh_cVi (N := m_LM_isPillar) (d := 0) (o := 65) (As := [.int v3]) (st := []) rfl rfl v_LM_isPillar (hS.1 0 _ rfl) rfl rfl rfl ⟨rfl, rfl⟩ rfl (t_LM_isPillar hG hS e5 ?_)
      refine lh_if_eq rfl (fun c6 => ?_) (fun c6 => ?_)
      · have hf := lh_ifT hf c6
        refine lh_aload_n (q := 0) rfl rfl rfl ?_
        refine lh_iconst rfl lh_k_0 ?_
        refine lh_iload_n (q := 3) rfl rfl rfl ?_
        refine lh_aload_n (q := 0) rfl rfl rfl ?_
        refine lh_getR4 rfl rfl (hS.1 0 _ rfl) rfl (hS.2 12 _ rfl) ?_
        refine lh_iconst rfl lh_k_4 ?_
        refine lh_iald5 (k := 4) rfl (hS.1 13 _ rfl) (by decide) (by decide) ?_
        refine lh_if_le rfl (fun c7 => ?_) (fun c7 => ?_)
        · have hf := lh_ifT hf c7
          refine lh_iconst rfl lh_k_0 ?_
          refine lh_bdE hf (fun r8 e9 hf => ?_)
          refine lh_cVi (N := m_LM_seenFrom) (d := 3) (o := 65) (As := [.int 0, .int v3, .int 0]) (st := []) rfl rfl v_LM_seenFrom (hS.1 0 _ rfl) rfl rfl rfl ⟨rfl, rfl⟩ rfl (t_LM_seenFrom hG hS e9 ?_)
          refine lh_bdE hf (fun r10 e11 hf => ?_)
          refine lh_cSi (N := m_LM_bits) (d := 0) (As := [.int r8.1]) (st := []) rfl rfl v_LM_bits rfl rfl ⟨rfl, rfl⟩ rfl (t_LM_bits hG hS e11 ?_)
          refine lh_istore (lv' := [(0, .ref (65 + 4)), (1, .int v1), (2, .int v2), (3, .int v3), (4, .int r10)]) rfl rfl rfl ?_
          refine lh_iload (q := 4) rfl rfl ?_
          refine lh_iload_n (q := 2) rfl rfl rfl ?_
          refine lh_icmp_le rfl (fun c12 => ?_) (fun c12 => ?_)
          · have hf := lh_ifT hf c12
            refine lh_iload_n (q := 1) rfl rfl rfl ?_
            refine lh_istore_n (lv' := [(0, .ref (65 + 4)), (1, .int v1), (2, .int v2), (3, .int v3), (4, .int r10)]) rfl rfl rfl rfl ?_
            refine lh_iload (q := 4) rfl rfl ?_
            refine lh_iload_n (q := 2) rfl rfl rfl ?_
            refine lh_icmp_le rfl (fun _ => ?_) (fun c => absurd c12 c)
            refine lh_iload_n (q := 2) rfl rfl rfl ?_
            refine lh_istore_n (lv' := [(0, .ref (65 + 4)), (1, .int v1), (2, .int v2), (3, .int v3), (4, .int r10)]) rfl rfl rfl rfl ?_
            refine lh_iinc (q := 3) (v := (v3 + 1)) (lv' := [(0, .ref (65 + 4)), (1, .int v1), (2, .int v2), (3, .int (v3 + 1)), (4, .int r10)]) rfl rfl (congrArg (v3 + ·) (by decide)) rfl rfl ?_
            refine lh_goto rfl ?_
            refine lh_less [0, 1, 2, 3] rfl ?_
            exact ih v1 v2 (v3 + 1) r8.2 _ hf x0_
          · have hf := lh_ifF hf c12
            refine lh_iload_n (q := 3) rfl rfl rfl ?_
            refine lh_goto rfl ?_
            refine lh_istore_n (lv' := [(0, .ref (65 + 4)), (1, .int v3), (2, .int v2), (3, .int v3), (4, .int r10)]) rfl rfl rfl rfl ?_
            refine lh_iload (q := 4) rfl rfl ?_
            refine lh_iload_n (q := 2) rfl rfl rfl ?_
            refine lh_icmp_le rfl (fun c => absurd c c12) (fun _ => ?_)
            refine lh_iload (q := 4) rfl rfl ?_
            refine lh_goto rfl ?_
            refine lh_istore_n (lv' := [(0, .ref (65 + 4)), (1, .int v3), (2, .int r10), (3, .int v3), (4, .int r10)]) rfl rfl rfl rfl ?_
            refine lh_iinc (q := 3) (v := (v3 + 1)) (lv' := [(0, .ref (65 + 4)), (1, .int v3), (2, .int r10), (3, .int (v3 + 1)), (4, .int r10)]) rfl rfl (congrArg (v3 + ·) (by decide)) rfl rfl ?_
            refine lh_goto rfl ?_
            refine lh_less [0, 1, 2, 3] rfl ?_
            exact ih v3 r10 (v3 + 1) r8.2 _ hf x0_
        · have hf := lh_ifF hf c7
          refine lh_aload_n (q := 0) rfl rfl rfl ?_
          refine lh_iload_n (q := 3) rfl rfl rfl ?_
          refine lh_iconst rfl lh_k_m1 ?_
          refine lh_bdE hf (fun r13 e14 hf => ?_)
          refine lh_cVi (N := m_LM_litFrom) (d := 2) (o := 65) (As := [.int v3, .int (-1)]) (st := [.int v3, .int 0, .ref (65 + 4)]) rfl rfl v_LM_litFrom (hS.1 0 _ rfl) rfl rfl rfl ⟨rfl, rfl⟩ rfl (t_LM_litFrom hG hS e14 ?_)
          refine lh_goto rfl ?_
          refine lh_bdE hf (fun r15 e16 hf => ?_)
          refine lh_cVi (N := m_LM_seenFrom) (d := 3) (o := 65) (As := [.int 0, .int v3, .int r13]) (st := []) rfl rfl v_LM_seenFrom (hS.1 0 _ rfl) rfl rfl rfl ⟨rfl, rfl⟩ rfl (t_LM_seenFrom hG hS e16 ?_)
          refine lh_bdE hf (fun r17 e18 hf => ?_)
          refine lh_cSi (N := m_LM_bits) (d := 0) (As := [.int r15.1]) (st := []) rfl rfl v_LM_bits rfl rfl ⟨rfl, rfl⟩ rfl (t_LM_bits hG hS e18 ?_)
          refine lh_istore (lv' := [(0, .ref (65 + 4)), (1, .int v1), (2, .int v2), (3, .int v3), (4, .int r17)]) rfl rfl rfl ?_
          refine lh_iload (q := 4) rfl rfl ?_
          refine lh_iload_n (q := 2) rfl rfl rfl ?_
          refine lh_icmp_le rfl (fun c19 => ?_) (fun c19 => ?_)
          · have hf := lh_ifT hf c19
            refine lh_iload_n (q := 1) rfl rfl rfl ?_
            refine lh_istore_n (lv' := [(0, .ref (65 + 4)), (1, .int v1), (2, .int v2), (3, .int v3), (4, .int r17)]) rfl rfl rfl rfl ?_
            refine lh_iload (q := 4) rfl rfl ?_
            refine lh_iload_n (q := 2) rfl rfl rfl ?_
            refine lh_icmp_le rfl (fun _ => ?_) (fun c => absurd c19 c)
            refine lh_iload_n (q := 2) rfl rfl rfl ?_
            refine lh_istore_n (lv' := [(0, .ref (65 + 4)), (1, .int v1), (2, .int v2), (3, .int v3), (4, .int r17)]) rfl rfl rfl rfl ?_
            refine lh_iinc (q := 3) (v := (v3 + 1)) (lv' := [(0, .ref (65 + 4)), (1, .int v1), (2, .int v2), (3, .int (v3 + 1)), (4, .int r17)]) rfl rfl (congrArg (v3 + ·) (by decide)) rfl rfl ?_
            refine lh_goto rfl ?_
            refine lh_less [0, 1, 2, 3] rfl ?_
            exact ih v1 v2 (v3 + 1) r15.2 _ hf x0_
          · have hf := lh_ifF hf c19
            refine lh_iload_n (q := 3) rfl rfl rfl ?_
            refine lh_goto rfl ?_
            refine lh_istore_n (lv' := [(0, .ref (65 + 4)), (1, .int v3), (2, .int v2), (3, .int v3), (4, .int r17)]) rfl rfl rfl rfl ?_
            refine lh_iload (q := 4) rfl rfl ?_
            refine lh_iload_n (q := 2) rfl rfl rfl ?_
            refine lh_icmp_le rfl (fun c => absurd c c19) (fun _ => ?_)
            refine lh_iload (q := 4) rfl rfl ?_
            refine lh_goto rfl ?_
            refine lh_istore_n (lv' := [(0, .ref (65 + 4)), (1, .int v3), (2, .int r17), (3, .int v3), (4, .int r17)]) rfl rfl rfl rfl ?_
            refine lh_iinc (q := 3) (v := (v3 + 1)) (lv' := [(0, .ref (65 + 4)), (1, .int v3), (2, .int r17), (3, .int (v3 + 1)), (4, .int r17)]) rfl rfl (congrArg (v3 + ·) (by decide)) rfl rfl ?_
            refine lh_goto rfl ?_
            refine lh_less [0, 1, 2, 3] rfl ?_
            exact ih v3 r17 (v3 + 1) r15.2 _ hf x0_
      · have hf := lh_ifF hf c6
        refine lh_iconst rfl lh_k_m1 ?_
        refine lh_goto rfl ?_
        refine lh_istore (lv' := [(0, .ref (65 + 4)), (1, .int v1), (2, .int v2), (3, .int v3), (4, .int (-1))]) rfl rfl rfl ?_
        refine lh_iload (q := 4) rfl rfl ?_
        refine lh_iload_n (q := 2) rfl rfl rfl ?_
        refine lh_icmp_le rfl (fun c20 => ?_) (fun c20 => ?_)
        · have hf := lh_ifT hf c20
          refine lh_iload_n (q := 1) rfl rfl rfl ?_
          refine lh_istore_n (lv' := [(0, .ref (65 + 4)), (1, .int v1), (2, .int v2), (3, .int v3), (4, .int (-1))]) rfl rfl rfl rfl ?_
          refine lh_iload (q := 4) rfl rfl ?_
          refine lh_iload_n (q := 2) rfl rfl rfl ?_
          refine lh_icmp_le rfl (fun _ => ?_) (fun c => absurd c20 c)
          refine lh_iload_n (q := 2) rfl rfl rfl ?_
          refine lh_istore_n (lv' := [(0, .ref (65 + 4)), (1, .int v1), (2, .int v2), (3, .int v3), (4, .int (-1))]) rfl rfl rfl rfl ?_
          refine lh_iinc (q := 3) (v := (v3 + 1)) (lv' := [(0, .ref (65 + 4)), (1, .int v1), (2, .int v2), (3, .int (v3 + 1)), (4, .int (-1))]) rfl rfl (congrArg (v3 + ·) (by decide)) rfl rfl ?_
          refine lh_goto rfl ?_
          refine lh_less [0, 1, 2, 3] rfl ?_
          exact ih v1 v2 (v3 + 1) I _ hf x0_
        · have hf := lh_ifF hf c20
          refine lh_iload_n (q := 3) rfl rfl rfl ?_
          refine lh_goto rfl ?_
          refine lh_istore_n (lv' := [(0, .ref (65 + 4)), (1, .int v3), (2, .int v2), (3, .int v3), (4, .int (-1))]) rfl rfl rfl rfl ?_
          refine lh_iload (q := 4) rfl rfl ?_
          refine lh_iload_n (q := 2) rfl rfl rfl ?_
          refine lh_icmp_le rfl (fun c => absurd c c20) (fun _ => ?_)
          refine lh_iload (q := 4) rfl rfl ?_
          refine lh_goto rfl ?_
          refine lh_istore_n (lv' := [(0, .ref (65 + 4)), (1, .int v3), (2, .int (-1)), (3, .int v3), (4, .int (-1))]) rfl rfl rfl rfl ?_
          refine lh_iinc (q := 3) (v := (v3 + 1)) (lv' := [(0, .ref (65 + 4)), (1, .int v3), (2, .int (-1)), (3, .int (v3 + 1)), (4, .int (-1))]) rfl rfl (congrArg (v3 + ·) (by decide)) rfl rfl ?_
          refine lh_goto rfl ?_
          refine lh_less [0, 1, 2, 3] rfl ?_
          exact ih v3 (-1) (v3 + 1) I _ hf x0_
theorem t_LM_best {Γ : lh_Cx} {I : lh_II} {L : lh_LL} {F : lh_FF} {S : lh_SS} {K : Int32 → lh_Hp → Prop} {r : Int32 × lh_II} (hG : lh_GX Γ) (hS : lh_laym F S)  (hf : f_LM_best I = some r) (hK : K r.1 (r.2, L, F, S)) : lh_Met Γ m_LM_best 4 0 0 [.ref (65 + 4)] (I, L, F, S) (lh_ki K) := by
  rw [f_LM_best] at hf
  refine lh_ofG k_LM_best [(0, .ref (65 + 4))] rfl (Nat.le_of_ble_eq_true rfl) rfl ?_
  refine lh_aload_n (q := 0) rfl rfl rfl ?_
  refine lh_iconst rfl lh_k_0 ?_
  refine lh_putI4 rfl rfl (hS.1 0 _ rfl) rfl rfl ?_
  refine lh_iconst rfl lh_k_m1 ?_
  refine lh_istore_n (lv' := [(0, .ref (65 + 4)), (1, .int (-1))]) rfl rfl rfl rfl ?_
  refine lh_iconst rfl lh_k_m1 ?_
  refine lh_istore_n (lv' := [(0, .ref (65 + 4)), (1, .int (-1)), (2, .int (-1))]) rfl rfl rfl rfl ?_
  refine lh_iconst rfl lh_k_0 ?_
  refine lh_istore_n (lv' := [(0, .ref (65 + 4)), (1, .int (-1)), (2, .int (-1)), (3, .int 0)]) rfl rfl rfl rfl ?_
  refine lh_bdE hf (fun r21 e22 hf => ?_)
  refine t_LM_best_9 hG hS  _ (-1) (-1) 0 (lh_u2 I (65 + 4) 0 0) _ e22 ?_
  refine lh_iload_n (q := 0) rfl rfl rfl ?_
  exact lh_iret rfl rfl rfl (by obtain rfl := Option.some.inj hf; exact hK)
def f_LM_lightOf (x1 : Int32) (I : lh_II) : Option (Int32) := lh_gd (lh_ix (x1 + 4) 736) (if (I (78 + 4) (x1 + 4).toNatClampNeg) ≤ 0 then some 0 else lh_gd (lh_ix (x1 + 5) 736) (lh_bd (f_LM_litFrom (I (78 + 4) (x1 + 5).toNatClampNeg) ((-1) : Int32) I) fun r4 => some r4))
theorem t_LM_lightOf {Γ : lh_Cx} {I : lh_II} {L : lh_LL} {F : lh_FF} {S : lh_SS} {K : Int32 → lh_Hp → Prop} {r : Int32} (hG : lh_GX Γ) (hS : lh_laym F S)  {x1 : Int32} (hf : f_LM_lightOf x1 I = some r) (hK : K r (I, L, F, S)) : lh_Met Γ m_LM_lightOf 3 0 0 [.ref (65 + 4), .int x1] (I, L, F, S) (lh_ki K) := by
  rw [f_LM_lightOf] at hf
  refine lh_ofG k_LM_lightOf [(0, .ref (65 + 4)), (1, .int x1)] rfl (Nat.le_of_ble_eq_true rfl) rfl ?_
  refine lh_aload_n (q := 0) rfl rfl rfl ?_
  refine lh_getR4 rfl rfl (hS.1 0 _ rfl) rfl (hS.2 12 _ rfl) ?_
  refine lh_iload_n (q := 1) rfl rfl rfl ?_
  refine lh_iconst rfl lh_k_4 ?_
  refine lh_iadd rfl ?_
  obtain ⟨g1, hf⟩ := lh_gdE hf
  refine lh_iald4 rfl (hS.1 13 _ rfl) g1 ?_
  refine lh_if_le rfl (fun c2 => ?_) (fun c2 => ?_)
  · have hf := lh_ifT hf c2
    refine lh_iconst rfl lh_k_0 ?_
    exact lh_iret rfl rfl rfl (by obtain rfl := Option.some.inj hf; exact hK)
  · have hf := lh_ifF hf c2
    refine lh_aload_n (q := 0) rfl rfl rfl ?_
    refine lh_aload_n (q := 0) rfl rfl rfl ?_
    refine lh_getR4 rfl rfl (hS.1 0 _ rfl) rfl (hS.2 12 _ rfl) ?_
    refine lh_iload_n (q := 1) rfl rfl rfl ?_
    refine lh_iconst rfl lh_k_5 ?_
    refine lh_iadd rfl ?_
    obtain ⟨g3, hf⟩ := lh_gdE hf
    refine lh_iald4 rfl (hS.1 13 _ rfl) g3 ?_
    refine lh_iconst rfl lh_k_m1 ?_
    refine lh_bdE hf (fun r4 e5 hf => ?_)
    refine lh_cVi (N := m_LM_litFrom) (d := 2) (o := 65) (As := [.int (I (78 + 4) (x1 + 5).toNatClampNeg), .int (-1)]) (st := []) rfl rfl v_LM_litFrom (hS.1 0 _ rfl) rfl rfl rfl ⟨rfl, rfl⟩ rfl (t_LM_litFrom hG hS e5 ?_)
    refine lh_goto rfl ?_
    exact lh_iret rfl rfl rfl (by obtain rfl := Option.some.inj hf; exact hK)
def f_LM_seenNow (x1 : Int32) (I : lh_II) : Option (Int32 × lh_II) := lh_gd (lh_ix (x1 + 5) 736) (lh_bd (f_LM_lightOf x1 I) fun r2 => lh_bd (f_LM_seenFrom x1 (I (78 + 4) (x1 + 5).toNatClampNeg) r2 I) fun r4 => some (r4.1, r4.2))
theorem t_LM_seenNow {Γ : lh_Cx} {I : lh_II} {L : lh_LL} {F : lh_FF} {S : lh_SS} {K : Int32 → lh_Hp → Prop} {r : Int32 × lh_II} (hG : lh_GX Γ) (hS : lh_laym F S)  {x1 : Int32} (hf : f_LM_seenNow x1 I = some r) (hK : K r.1 (r.2, L, F, S)) : lh_Met Γ m_LM_seenNow 4 0 0 [.ref (65 + 4), .int x1] (I, L, F, S) (lh_ki K) := by
  rw [f_LM_seenNow] at hf
  refine lh_ofG k_LM_seenNow [(0, .ref (65 + 4)), (1, .int x1)] rfl (Nat.le_of_ble_eq_true rfl) rfl ?_
  refine lh_aload_n (q := 0) rfl rfl rfl ?_
  refine lh_iload_n (q := 1) rfl rfl rfl ?_
  refine lh_aload_n (q := 0) rfl rfl rfl ?_
  refine lh_getR4 rfl rfl (hS.1 0 _ rfl) rfl (hS.2 12 _ rfl) ?_
  refine lh_iload_n (q := 1) rfl rfl rfl ?_
  refine lh_iconst rfl lh_k_5 ?_
  refine lh_iadd rfl ?_
  obtain ⟨g1, hf⟩ := lh_gdE hf
  refine lh_iald4 rfl (hS.1 13 _ rfl) g1 ?_
  refine lh_aload_n (q := 0) rfl rfl rfl ?_
  refine lh_iload_n (q := 1) rfl rfl rfl ?_
  refine lh_bdE hf (fun r2 e3 hf => ?_)
  refine lh_cVi (N := m_LM_lightOf) (d := 3) (o := 65) (As := [.int x1]) (st := [.int (I (78 + 4) (x1 + 5).toNatClampNeg), .int x1, .ref (65 + 4)]) rfl rfl v_LM_lightOf (hS.1 0 _ rfl) rfl rfl rfl ⟨rfl, rfl⟩ rfl (t_LM_lightOf hG hS e3 ?_)
  refine lh_bdE hf (fun r4 e5 hf => ?_)
  refine lh_cVi (N := m_LM_seenFrom) (d := 3) (o := 65) (As := [.int x1, .int (I (78 + 4) (x1 + 5).toNatClampNeg), .int r2]) (st := []) rfl rfl v_LM_seenFrom (hS.1 0 _ rfl) rfl rfl rfl ⟨rfl, rfl⟩ rfl (t_LM_seenFrom hG hS e5 ?_)
  exact lh_iret rfl rfl rfl (by obtain rfl := Option.some.inj hf; exact hK)
def f_LM_blot_9 : Nat → Int32 → Int32 → Int32 → lh_II → Option (Int32 × lh_II)
  | 0, _, _, _, _ => none
  | n + 1, v1, v2, v3, I => lh_bd (f_LM_cells I) fun r1 => if r1 ≤ v3 then some (v1, I) else if (I (78 + 4) 4) ≤ 0 then lh_bd (f_LM_isPillar v3 I) fun r5 => if r5 = 0 then lh_bd (f_LM_seenNow (0 : Int32) I) fun r8 => lh_bd (f_LM_bits r8.1) fun r10 => lh_bd (f_LM_seenFrom (0 : Int32) (r8.2 (78 + 4) 5) (0 : Int32) r8.2) fun r12 => lh_bd (f_LM_bits r12.1) fun r14 => if (r10 - r14) ≤ v2 then f_LM_blot_9 n v1 v2 (v3 + 1) r12.2 else f_LM_blot_9 n v3 (r10 - r14) (v3 + 1) r12.2 else if (-1) ≤ v2 then f_LM_blot_9 n v1 v2 (v3 + 1) I else f_LM_blot_9 n v3 (-1) (v3 + 1) I else lh_bd (f_LM_litFrom (I (78 + 4) 5) v3 I) fun r18 => lh_bd (f_LM_isPillar v3 I) fun r20 => if r20 = 0 then lh_bd (f_LM_seenNow (0 : Int32) I) fun r23 => lh_bd (f_LM_bits r23.1) fun r25 => lh_bd (f_LM_seenFrom (0 : Int32) (r23.2 (78 + 4) 5) r18 r23.2) fun r27 => lh_bd (f_LM_bits r27.1) fun r29 => if (r25 - r29) ≤ v2 then f_LM_blot_9 n v1 v2 (v3 + 1) r27.2 else f_LM_blot_9 n v3 (r25 - r29) (v3 + 1) r27.2 else if (-1) ≤ v2 then f_LM_blot_9 n v1 v2 (v3 + 1) I else f_LM_blot_9 n v3 (-1) (v3 + 1) I
def f_LM_blot (I : lh_II) : Option (Int32 × lh_II) := lh_bd (f_LM_blot_9 lh_fuel (-1) (-1) 0 (lh_u2 I (65 + 4) 0 0)) fun r33 => some (r33.1, r33.2)
theorem t_LM_blot_9 {Γ : lh_Cx} {F : lh_FF} {S : lh_SS} {Z : List Frame → Array Value → State → State → Prop} (hG : lh_GX Γ) (hS : lh_laym F S)   {L : lh_LL} : ∀ (n : Nat) (v1 : Int32) (v2 : Int32) (v3 : Int32) (I : lh_II) (o : Int32 × lh_II), f_LM_blot_9 n v1 v2 v3 I = some o → ∀ (x0_ : lh_G Γ m_LM_blot (lh_R 5 0 0) Z 0 0 65 [(1, .int o.1)] [] (o.2, L, F, S)), lh_G Γ m_LM_blot (lh_R 5 0 0) Z 0 0 9 [(0, .ref (65 + 4)), (1, .int v1), (2, .int v2), (3, .int v3)] [] (I, L, F, S) := by
  intro n
  induction n with
  | zero => intro v1 v2 v3 I o hf; cases hf
  | succ n ih =>
    intro v1 v2 v3 I o hf x0_
    rw [f_LM_blot_9] at hf
    refine lh_iload_n (q := 3) rfl rfl rfl ?_
    refine lh_aload_n (q := 0) rfl rfl rfl ?_
    refine lh_bdE hf (fun r1 e2 hf => ?_)
    refine lh_cVi (N := m_LM_cells) (d := 0) (o := 65) (As := []) (st := [.int v3]) rfl rfl v_LM_cells (hS.1 0 _ rfl) rfl rfl rfl ⟨rfl, rfl⟩ rfl (t_LM_cells hG hS e2 ?_)
    refine lh_icmp_ge rfl (fun c3 => ?_) (fun c3 => ?_)
    · have hf := lh_ifT hf c3
      exact lh_less [1] rfl (by cases hf; exact x0_)
    · have hf := lh_ifF hf c3
      refine lh_aload_n (q := 0) rfl rfl rfl ?_
      refine lh_getR4 rfl rfl (hS.1 0 _ rfl) rfl (hS.2 12 _ rfl) ?_
      refine lh_iconst rfl lh_k_4 ?_
      refine lh_iald5 (k := 4) rfl (hS.1 13 _ rfl) (by decide) (by decide) ?_
      refine lh_if_le rfl (fun c4 => ?_) (fun c4 => ?_)
      · have hf := lh_ifT hf c4
        refine lh_iconst rfl lh_k_0 ?_
        refine lh_istore (lv' := [(0, .ref (65 + 4)), (1, .int v1), (2, .int v2), (3, .int v3), (4, .int 0)]) rfl rfl rfl ?_
        refine lh_aload_n (q := 0) rfl rfl rfl ?_
        refine lh_iload_n (q := 3) rfl rfl rfl ?_
        refine lh_bdE hf (fun r5 e6 hf => ?_)
        refine lh_cVi (N := m_LM_isPillar) (d := 0) (o := 65) (As := [.int v3]) (st := []) rfl rfl v_LM_isPillar (hS.1 0 _ rfl) rfl rfl rfl ⟨rfl, rfl⟩ rfl (t_LM_isPillar hG hS e6 ?_)
        refine lh_if_eq rfl (fun c7 => ?_) (fun c7 => ?_)
        · have hf := lh_ifT hf c7
          refine lh_aload_n (q := 0) rfl rfl rfl ?_
          refine lh_iconst rfl lh_k_0 ?_
          refine lh_bdE hf (fun r8 e9 hf => ?_)
          refine lh_cVi (N := m_LM_seenNow) (d := 4) (o := 65) (As := [.int 0]) (st := []) rfl rfl v_LM_seenNow (hS.1 0 _ rfl) rfl rfl rfl ⟨rfl, rfl⟩ rfl (t_LM_seenNow hG hS e9 ?_)
          refine lh_bdE hf (fun r10 e11 hf => ?_)
          refine lh_cSi (N := m_LM_bits) (d := 0) (As := [.int r8.1]) (st := []) rfl rfl v_LM_bits rfl rfl ⟨rfl, rfl⟩ rfl (t_LM_bits hG hS e11 ?_)
          refine lh_aload_n (q := 0) rfl rfl rfl ?_
          refine lh_iconst rfl lh_k_0 ?_
          refine lh_aload_n (q := 0) rfl rfl rfl ?_
          refine lh_getR4 rfl rfl (hS.1 0 _ rfl) rfl (hS.2 12 _ rfl) ?_
          refine lh_iconst rfl lh_k_5 ?_
          refine lh_iald5 (k := 5) rfl (hS.1 13 _ rfl) (by decide) (by decide) ?_
          refine lh_iload (q := 4) rfl rfl ?_
          refine lh_bdE hf (fun r12 e13 hf => ?_)
          refine lh_cVi (N := m_LM_seenFrom) (d := 3) (o := 65) (As := [.int 0, .int (r8.2 (78 + 4) 5), .int 0]) (st := [.int r10]) rfl rfl v_LM_seenFrom (hS.1 0 _ rfl) rfl rfl rfl ⟨rfl, rfl⟩ rfl (t_LM_seenFrom hG hS e13 ?_)
          refine lh_bdE hf (fun r14 e15 hf => ?_)
          refine lh_cSi (N := m_LM_bits) (d := 0) (As := [.int r12.1]) (st := [.int r10]) rfl rfl v_LM_bits rfl rfl ⟨rfl, rfl⟩ rfl (t_LM_bits hG hS e15 ?_)
          refine lh_isub rfl ?_
          refine lh_istore (lv' := [(0, .ref (65 + 4)), (1, .int v1), (2, .int v2), (3, .int v3), (4, .int 0), (5, .int (r10 - r14))]) rfl rfl rfl ?_
          refine lh_iload (q := 5) rfl rfl ?_
          refine lh_iload_n (q := 2) rfl rfl rfl ?_
          refine lh_icmp_le rfl (fun c16 => ?_) (fun c16 => ?_)
          · have hf := lh_ifT hf c16
            refine lh_iload_n (q := 1) rfl rfl rfl ?_
            refine lh_istore_n (lv' := [(0, .ref (65 + 4)), (1, .int v1), (2, .int v2), (3, .int v3), (4, .int 0), (5, .int (r10 - r14))]) rfl rfl rfl rfl ?_
            refine lh_iload (q := 5) rfl rfl ?_
            refine lh_iload_n (q := 2) rfl rfl rfl ?_
            refine lh_icmp_le rfl (fun _ => ?_) (fun c => absurd c16 c)
            refine lh_iload_n (q := 2) rfl rfl rfl ?_
            refine lh_istore_n (lv' := [(0, .ref (65 + 4)), (1, .int v1), (2, .int v2), (3, .int v3), (4, .int 0), (5, .int (r10 - r14))]) rfl rfl rfl rfl ?_
            refine lh_iinc (q := 3) (v := (v3 + 1)) (lv' := [(0, .ref (65 + 4)), (1, .int v1), (2, .int v2), (3, .int (v3 + 1)), (4, .int 0), (5, .int (r10 - r14))]) rfl rfl (congrArg (v3 + ·) (by decide)) rfl rfl ?_
            refine lh_goto rfl ?_
            refine lh_less [0, 1, 2, 3] rfl ?_
            exact ih v1 v2 (v3 + 1) r12.2 _ hf x0_
          · have hf := lh_ifF hf c16
            refine lh_iload_n (q := 3) rfl rfl rfl ?_
            refine lh_goto rfl ?_
            refine lh_istore_n (lv' := [(0, .ref (65 + 4)), (1, .int v3), (2, .int v2), (3, .int v3), (4, .int 0), (5, .int (r10 - r14))]) rfl rfl rfl rfl ?_
            refine lh_iload (q := 5) rfl rfl ?_
            refine lh_iload_n (q := 2) rfl rfl rfl ?_
            refine lh_icmp_le rfl (fun c => absurd c c16) (fun _ => ?_)
            refine lh_iload (q := 5) rfl rfl ?_
            refine lh_goto rfl ?_
            refine lh_istore_n (lv' := [(0, .ref (65 + 4)), (1, .int v3), (2, .int (r10 - r14)), (3, .int v3), (4, .int 0), (5, .int (r10 - r14))]) rfl rfl rfl rfl ?_
            refine lh_iinc (q := 3) (v := (v3 + 1)) (lv' := [(0, .ref (65 + 4)), (1, .int v3), (2, .int (r10 - r14)), (3, .int (v3 + 1)), (4, .int 0), (5, .int (r10 - r14))]) rfl rfl (congrArg (v3 + ·) (by decide)) rfl rfl ?_
            refine lh_goto rfl ?_
            refine lh_less [0, 1, 2, 3] rfl ?_
            exact ih v3 (r10 - r14) (v3 + 1) r12.2 _ hf x0_
        · have hf := lh_ifF hf c7
          refine lh_iconst rfl lh_k_m1 ?_
          refine lh_goto rfl ?_
          refine lh_istore (lv' := [(0, .ref (65 + 4)), (1, .int v1), (2, .int v2), (3, .int v3), (4, .int 0), (5, .int (-1))]) rfl rfl rfl ?_
          refine lh_iload (q := 5) rfl rfl ?_
          refine lh_iload_n (q := 2) rfl rfl rfl ?_
          refine lh_icmp_le rfl (fun c17 => ?_) (fun c17 => ?_)
          · have hf := lh_ifT hf c17
            refine lh_iload_n (q := 1) rfl rfl rfl ?_
            refine lh_istore_n (lv' := [(0, .ref (65 + 4)), (1, .int v1), (2, .int v2), (3, .int v3), (4, .int 0), (5, .int (-1))]) rfl rfl rfl rfl ?_
            refine lh_iload (q := 5) rfl rfl ?_
            refine lh_iload_n (q := 2) rfl rfl rfl ?_
            refine lh_icmp_le rfl (fun _ => ?_) (fun c => absurd c17 c)
            refine lh_iload_n (q := 2) rfl rfl rfl ?_
            refine lh_istore_n (lv' := [(0, .ref (65 + 4)), (1, .int v1), (2, .int v2), (3, .int v3), (4, .int 0), (5, .int (-1))]) rfl rfl rfl rfl ?_
            refine lh_iinc (q := 3) (v := (v3 + 1)) (lv' := [(0, .ref (65 + 4)), (1, .int v1), (2, .int v2), (3, .int (v3 + 1)), (4, .int 0), (5, .int (-1))]) rfl rfl (congrArg (v3 + ·) (by decide)) rfl rfl ?_
            refine lh_goto rfl ?_
            refine lh_less [0, 1, 2, 3] rfl ?_
            exact ih v1 v2 (v3 + 1) I _ hf x0_
          · have hf := lh_ifF hf c17
            refine lh_iload_n (q := 3) rfl rfl rfl ?_
            refine lh_goto rfl ?_
            refine lh_istore_n (lv' := [(0, .ref (65 + 4)), (1, .int v3), (2, .int v2), (3, .int v3), (4, .int 0), (5, .int (-1))]) rfl rfl rfl rfl ?_
            refine lh_iload (q := 5) rfl rfl ?_
            refine lh_iload_n (q := 2) rfl rfl rfl ?_
            refine lh_icmp_le rfl (fun c => absurd c c17) (fun _ => ?_)
            refine lh_iload (q := 5) rfl rfl ?_
            refine lh_goto rfl ?_
            refine lh_istore_n (lv' := [(0, .ref (65 + 4)), (1, .int v3), (2, .int (-1)), (3, .int v3), (4, .int 0), (5, .int (-1))]) rfl rfl rfl rfl ?_
            refine lh_iinc (q := 3) (v := (v3 + 1)) (lv' := [(0, .ref (65 + 4)), (1, .int v3), (2, .int (-1)), (3, .int (v3 + 1)), (4, .int 0), (5, .int (-1))]) rfl rfl (congrArg (v3 + ·) (by decide)) rfl rfl ?_
            refine lh_goto rfl ?_
            refine lh_less [0, 1, 2, 3] rfl ?_
            exact ih v3 (-1) (v3 + 1) I _ hf x0_
      · have hf := lh_ifF hf c4
        refine lh_aload_n (q := 0) rfl rfl rfl ?_
        refine lh_aload_n (q := 0) rfl rfl rfl ?_
        refine lh_getR4 rfl rfl (hS.1 0 _ rfl) rfl (hS.2 12 _ rfl) ?_
        refine lh_iconst rfl lh_k_5 ?_
        refine lh_iald5 (k := 5) rfl (hS.1 13 _ rfl) (by decide) (by decide) ?_
        refine lh_iload_n (q := 3) rfl rfl rfl ?_
        refine lh_bdE hf (fun r18 e19 hf => ?_)
        refine lh_cVi (N := m_LM_litFrom) (d := 2) (o := 65) (As := [.int (I (78 + 4) 5), .int v3]) (st := []) rfl rfl v_LM_litFrom (hS.1 0 _ rfl) rfl rfl rfl ⟨rfl, rfl⟩ rfl (t_LM_litFrom hG hS e19 ?_)
        refine lh_goto rfl ?_
        refine lh_istore (lv' := [(0, .ref (65 + 4)), (1, .int v1), (2, .int v2), (3, .int v3), (4, .int r18)]) rfl rfl rfl ?_
        refine lh_aload_n (q := 0) rfl rfl rfl ?_
        refine lh_iload_n (q := 3) rfl rfl rfl ?_
        refine lh_bdE hf (fun r20 e21 hf => ?_)
        refine lh_cVi (N := m_LM_isPillar) (d := 0) (o := 65) (As := [.int v3]) (st := []) rfl rfl v_LM_isPillar (hS.1 0 _ rfl) rfl rfl rfl ⟨rfl, rfl⟩ rfl (t_LM_isPillar hG hS e21 ?_)
        refine lh_if_eq rfl (fun c22 => ?_) (fun c22 => ?_)
        · have hf := lh_ifT hf c22
          refine lh_aload_n (q := 0) rfl rfl rfl ?_
          refine lh_iconst rfl lh_k_0 ?_
          refine lh_bdE hf (fun r23 e24 hf => ?_)
          refine lh_cVi (N := m_LM_seenNow) (d := 4) (o := 65) (As := [.int 0]) (st := []) rfl rfl v_LM_seenNow (hS.1 0 _ rfl) rfl rfl rfl ⟨rfl, rfl⟩ rfl (t_LM_seenNow hG hS e24 ?_)
          refine lh_bdE hf (fun r25 e26 hf => ?_)
          refine lh_cSi (N := m_LM_bits) (d := 0) (As := [.int r23.1]) (st := []) rfl rfl v_LM_bits rfl rfl ⟨rfl, rfl⟩ rfl (t_LM_bits hG hS e26 ?_)
          refine lh_aload_n (q := 0) rfl rfl rfl ?_
          refine lh_iconst rfl lh_k_0 ?_
          refine lh_aload_n (q := 0) rfl rfl rfl ?_
          refine lh_getR4 rfl rfl (hS.1 0 _ rfl) rfl (hS.2 12 _ rfl) ?_
          refine lh_iconst rfl lh_k_5 ?_
          refine lh_iald5 (k := 5) rfl (hS.1 13 _ rfl) (by decide) (by decide) ?_
          refine lh_iload (q := 4) rfl rfl ?_
          refine lh_bdE hf (fun r27 e28 hf => ?_)
          refine lh_cVi (N := m_LM_seenFrom) (d := 3) (o := 65) (As := [.int 0, .int (r23.2 (78 + 4) 5), .int r18]) (st := [.int r25]) rfl rfl v_LM_seenFrom (hS.1 0 _ rfl) rfl rfl rfl ⟨rfl, rfl⟩ rfl (t_LM_seenFrom hG hS e28 ?_)
          refine lh_bdE hf (fun r29 e30 hf => ?_)
          refine lh_cSi (N := m_LM_bits) (d := 0) (As := [.int r27.1]) (st := [.int r25]) rfl rfl v_LM_bits rfl rfl ⟨rfl, rfl⟩ rfl (t_LM_bits hG hS e30 ?_)
          refine lh_isub rfl ?_
          refine lh_istore (lv' := [(0, .ref (65 + 4)), (1, .int v1), (2, .int v2), (3, .int v3), (4, .int r18), (5, .int (r25 - r29))]) rfl rfl rfl ?_
          refine lh_iload (q := 5) rfl rfl ?_
          refine lh_iload_n (q := 2) rfl rfl rfl ?_
          refine lh_icmp_le rfl (fun c31 => ?_) (fun c31 => ?_)
          · have hf := lh_ifT hf c31
            refine lh_iload_n (q := 1) rfl rfl rfl ?_
            refine lh_istore_n (lv' := [(0, .ref (65 + 4)), (1, .int v1), (2, .int v2), (3, .int v3), (4, .int r18), (5, .int (r25 - r29))]) rfl rfl rfl rfl ?_
            refine lh_iload (q := 5) rfl rfl ?_
            refine lh_iload_n (q := 2) rfl rfl rfl ?_
            refine lh_icmp_le rfl (fun _ => ?_) (fun c => absurd c31 c)
            refine lh_iload_n (q := 2) rfl rfl rfl ?_
            refine lh_istore_n (lv' := [(0, .ref (65 + 4)), (1, .int v1), (2, .int v2), (3, .int v3), (4, .int r18), (5, .int (r25 - r29))]) rfl rfl rfl rfl ?_
            refine lh_iinc (q := 3) (v := (v3 + 1)) (lv' := [(0, .ref (65 + 4)), (1, .int v1), (2, .int v2), (3, .int (v3 + 1)), (4, .int r18), (5, .int (r25 - r29))]) rfl rfl (congrArg (v3 + ·) (by decide)) rfl rfl ?_
            refine lh_goto rfl ?_
            refine lh_less [0, 1, 2, 3] rfl ?_
            exact ih v1 v2 (v3 + 1) r27.2 _ hf x0_
          · have hf := lh_ifF hf c31
            refine lh_iload_n (q := 3) rfl rfl rfl ?_
            refine lh_goto rfl ?_
            refine lh_istore_n (lv' := [(0, .ref (65 + 4)), (1, .int v3), (2, .int v2), (3, .int v3), (4, .int r18), (5, .int (r25 - r29))]) rfl rfl rfl rfl ?_
            refine lh_iload (q := 5) rfl rfl ?_
            refine lh_iload_n (q := 2) rfl rfl rfl ?_
            refine lh_icmp_le rfl (fun c => absurd c c31) (fun _ => ?_)
            refine lh_iload (q := 5) rfl rfl ?_
            refine lh_goto rfl ?_
            refine lh_istore_n (lv' := [(0, .ref (65 + 4)), (1, .int v3), (2, .int (r25 - r29)), (3, .int v3), (4, .int r18), (5, .int (r25 - r29))]) rfl rfl rfl rfl ?_
            refine lh_iinc (q := 3) (v := (v3 + 1)) (lv' := [(0, .ref (65 + 4)), (1, .int v3), (2, .int (r25 - r29)), (3, .int (v3 + 1)), (4, .int r18), (5, .int (r25 - r29))]) rfl rfl (congrArg (v3 + ·) (by decide)) rfl rfl ?_
            refine lh_goto rfl ?_
            refine lh_less [0, 1, 2, 3] rfl ?_
            exact ih v3 (r25 - r29) (v3 + 1) r27.2 _ hf x0_
        · have hf := lh_ifF hf c22
          refine lh_iconst rfl lh_k_m1 ?_
          refine lh_goto rfl ?_
          refine lh_istore (lv' := [(0, .ref (65 + 4)), (1, .int v1), (2, .int v2), (3, .int v3), (4, .int r18), (5, .int (-1))]) rfl rfl rfl ?_
          refine lh_iload (q := 5) rfl rfl ?_
          refine lh_iload_n (q := 2) rfl rfl rfl ?_
          refine lh_icmp_le rfl (fun c32 => ?_) (fun c32 => ?_)
          · have hf := lh_ifT hf c32
            refine lh_iload_n (q := 1) rfl rfl rfl ?_
            refine lh_istore_n (lv' := [(0, .ref (65 + 4)), (1, .int v1), (2, .int v2), (3, .int v3), (4, .int r18), (5, .int (-1))]) rfl rfl rfl rfl ?_
            refine lh_iload (q := 5) rfl rfl ?_
            refine lh_iload_n (q := 2) rfl rfl rfl ?_
            refine lh_icmp_le rfl (fun _ => ?_) (fun c => absurd c32 c)
            refine lh_iload_n (q := 2) rfl rfl rfl ?_
            refine lh_istore_n (lv' := [(0, .ref (65 + 4)), (1, .int v1), (2, .int v2), (3, .int v3), (4, .int r18), (5, .int (-1))]) rfl rfl rfl rfl ?_
            refine lh_iinc (q := 3) (v := (v3 + 1)) (lv' := [(0, .ref (65 + 4)), (1, .int v1), (2, .int v2), (3, .int (v3 + 1)), (4, .int r18), (5, .int (-1))]) rfl rfl (congrArg (v3 + ·) (by decide)) rfl rfl ?_
            refine lh_goto rfl ?_
            refine lh_less [0, 1, 2, 3] rfl ?_
            exact ih v1 v2 (v3 + 1) I _ hf x0_
          · have hf := lh_ifF hf c32
            refine lh_iload_n (q := 3) rfl rfl rfl ?_
            refine lh_goto rfl ?_
            refine lh_istore_n (lv' := [(0, .ref (65 + 4)), (1, .int v3), (2, .int v2), (3, .int v3), (4, .int r18), (5, .int (-1))]) rfl rfl rfl rfl ?_
            refine lh_iload (q := 5) rfl rfl ?_
            refine lh_iload_n (q := 2) rfl rfl rfl ?_
            refine lh_icmp_le rfl (fun c => absurd c c32) (fun _ => ?_)
            refine lh_iload (q := 5) rfl rfl ?_
            refine lh_goto rfl ?_
            refine lh_istore_n (lv' := [(0, .ref (65 + 4)), (1, .int v3), (2, .int (-1)), (3, .int v3), (4, .int r18), (5, .int (-1))]) rfl rfl rfl rfl ?_
            refine lh_iinc (q := 3) (v := (v3 + 1)) (lv' := [(0, .ref (65 + 4)), (1, .int v3), (2, .int (-1)), (3, .int (v3 + 1)), (4, .int r18), (5, .int (-1))]) rfl rfl (congrArg (v3 + ·) (by decide)) rfl rfl ?_
            refine lh_goto rfl ?_
            refine lh_less [0, 1, 2, 3] rfl ?_
            exact ih v3 (-1) (v3 + 1) I _ hf x0_
theorem t_LM_blot {Γ : lh_Cx} {I : lh_II} {L : lh_LL} {F : lh_FF} {S : lh_SS} {K : Int32 → lh_Hp → Prop} {r : Int32 × lh_II} (hG : lh_GX Γ) (hS : lh_laym F S)  (hf : f_LM_blot I = some r) (hK : K r.1 (r.2, L, F, S)) : lh_Met Γ m_LM_blot 5 0 0 [.ref (65 + 4)] (I, L, F, S) (lh_ki K) := by
  rw [f_LM_blot] at hf
  refine lh_ofG k_LM_blot [(0, .ref (65 + 4))] rfl (Nat.le_of_ble_eq_true rfl) rfl ?_
  refine lh_aload_n (q := 0) rfl rfl rfl ?_
  refine lh_iconst rfl lh_k_0 ?_
  refine lh_putI4 rfl rfl (hS.1 0 _ rfl) rfl rfl ?_
  refine lh_iconst rfl lh_k_m1 ?_
  refine lh_istore_n (lv' := [(0, .ref (65 + 4)), (1, .int (-1))]) rfl rfl rfl rfl ?_
  refine lh_iconst rfl lh_k_m1 ?_
  refine lh_istore_n (lv' := [(0, .ref (65 + 4)), (1, .int (-1)), (2, .int (-1))]) rfl rfl rfl rfl ?_
  refine lh_iconst rfl lh_k_0 ?_
  refine lh_istore_n (lv' := [(0, .ref (65 + 4)), (1, .int (-1)), (2, .int (-1)), (3, .int 0)]) rfl rfl rfl rfl ?_
  refine lh_bdE hf (fun r33 e34 hf => ?_)
  refine t_LM_blot_9 hG hS  _ (-1) (-1) 0 (lh_u2 I (65 + 4) 0 0) _ e34 ?_
  refine lh_iload_n (q := 0) rfl rfl rfl ?_
  exact lh_iret rfl rfl rfl (by obtain rfl := Option.some.inj hf; exact hK)
