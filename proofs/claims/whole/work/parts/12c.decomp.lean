/-! decompiled by program: f_.. the functions, t_.. that the methods do as they say -/
def f_LM_keeps_6 : Nat → Int32 → lh_II → Option (lh_II)
  | 0, _, _ => none
  | n + 1, v1, I => if 16 ≤ v1 then some I else lh_bd (f_LM_copies (32 * (5 + v1)) (32 * ((5 + v1) - 1)) (7 : Int32) I) fun r5 => f_LM_keeps_6 n (v1 + 1) r5
def f_LM_keeps (I : lh_II) : Option (lh_II) := if (I (65 + 4) 21) = 16 then lh_bd (f_LM_keeps_6 lh_fuel 1 I) fun r7 => lh_bd (f_LM_copies (0 : Int32) (32 * (5 + ((lh_u2 r7 (65 + 4) 21 ((r7 (65 + 4) 21) - 1)) (65 + 4) 21))) (7 : Int32) (lh_u2 r7 (65 + 4) 21 ((r7 (65 + 4) 21) - 1))) fun r9 => some (lh_u2 r9 (65 + 4) 21 ((r9 (65 + 4) 21) + 1)) else lh_bd (f_LM_copies (0 : Int32) (32 * (5 + (I (65 + 4) 21))) (7 : Int32) I) fun r2 => some (lh_u2 r2 (65 + 4) 21 ((r2 (65 + 4) 21) + 1))
theorem t_LM_keeps_6 {Γ : lh_Cx} {F : lh_FF} {S : lh_SS} {Z : List Frame → Array Value → State → State → Prop} (hG : lh_GX Γ) (hS : lh_laym F S)   {L : lh_LL} : ∀ (n : Nat) (v1 : Int32) (I : lh_II) (o : lh_II), f_LM_keeps_6 n v1 I = some o → ∀ (x0_ : lh_G Γ m_LM_keeps (lh_R 1 0 0) Z 0 0 26 [(0, .ref (65 + 4))] [] (o, L, F, S)), lh_G Γ m_LM_keeps (lh_R 1 0 0) Z 0 0 6 [(0, .ref (65 + 4)), (1, .int v1)] [] (I, L, F, S) := by
  intro n
  induction n with
  | zero => intro v1 I o hf; cases hf
  | succ n ih =>
    intro v1 I o hf x0_
    rw [f_LM_keeps_6] at hf
    refine lh_iload_n (q := 1) rfl rfl rfl ?_
    refine lh_bipush rfl lh_b_16 ?_
    refine lh_icmp_ge rfl (fun c4 => ?_) (fun c4 => ?_)
    · have hf := lh_ifT hf c4
      exact lh_less [0] rfl (by cases hf; exact x0_)
    · have hf := lh_ifF hf c4
      refine lh_aload_n (q := 0) rfl rfl rfl ?_
      refine lh_bipush rfl lh_b_32 ?_
      refine lh_iconst rfl lh_k_5 ?_
      refine lh_iload_n (q := 1) rfl rfl rfl ?_
      refine lh_iadd rfl ?_
      refine lh_imul rfl ?_
      refine lh_bipush rfl lh_b_32 ?_
      refine lh_iconst rfl lh_k_5 ?_
      refine lh_iload_n (q := 1) rfl rfl rfl ?_
      refine lh_iadd rfl ?_
      refine lh_iconst rfl lh_k_1 ?_
      refine lh_isub rfl ?_
      refine lh_imul rfl ?_
      refine lh_bipush rfl lh_b_7 ?_
      refine lh_bdE hf (fun r5 e6 hf => ?_)
      refine lh_cVv (N := m_LM_copies) (d := 0) (o := 65) (As := [.int (32 * (5 + v1)), .int (32 * ((5 + v1) - 1)), .int 7]) (st := []) rfl rfl v_LM_copies (hS.1 0 _ rfl) rfl rfl rfl ⟨rfl, rfl⟩ rfl (t_LM_copies hG hS e6 ?_)
      refine lh_iinc (q := 1) (v := (v1 + 1)) (lv' := [(0, .ref (65 + 4)), (1, .int (v1 + 1))]) rfl rfl (congrArg (v1 + ·) (by decide)) rfl rfl ?_
      refine lh_goto rfl ?_
      exact ih (v1 + 1) r5 _ hf x0_
theorem t_LM_keeps {Γ : lh_Cx} {I : lh_II} {L : lh_LL} {F : lh_FF} {S : lh_SS} {K : lh_Hp → Prop} {r : lh_II} (hG : lh_GX Γ) (hS : lh_laym F S)  (hf : f_LM_keeps I = some r) (hK : K (r, L, F, S)) : lh_Met Γ m_LM_keeps 1 0 0 [.ref (65 + 4)] (I, L, F, S) (lh_kv K) := by
  rw [f_LM_keeps] at hf
  refine lh_ofG k_LM_keeps [(0, .ref (65 + 4))] rfl (Nat.le_of_ble_eq_true rfl) rfl ?_
  refine lh_aload_n (q := 0) rfl rfl rfl ?_
  refine lh_getI4 rfl rfl (hS.1 0 _ rfl) rfl ?_
  refine lh_bipush rfl lh_b_16 ?_
  refine lh_icmp_ne rfl (fun c1 => ?_) (fun c1 => ?_)
  · have hf := lh_ifF hf c1
    refine lh_aload_n (q := 0) rfl rfl rfl ?_
    refine lh_iconst rfl lh_k_0 ?_
    refine lh_bipush rfl lh_b_32 ?_
    refine lh_iconst rfl lh_k_5 ?_
    refine lh_aload_n (q := 0) rfl rfl rfl ?_
    refine lh_getI4 rfl rfl (hS.1 0 _ rfl) rfl ?_
    refine lh_iadd rfl ?_
    refine lh_imul rfl ?_
    refine lh_bipush rfl lh_b_7 ?_
    refine lh_bdE hf (fun r2 e3 hf => ?_)
    refine lh_cVv (N := m_LM_copies) (d := 0) (o := 65) (As := [.int 0, .int (32 * (5 + (I (65 + 4) 21))), .int 7]) (st := []) rfl rfl v_LM_copies (hS.1 0 _ rfl) rfl rfl rfl ⟨rfl, rfl⟩ rfl (t_LM_copies hG hS e3 ?_)
    refine lh_aload_n (q := 0) rfl rfl rfl ?_
    refine lh_dup rfl rfl ?_
    refine lh_getI4 rfl rfl (hS.1 0 _ rfl) rfl ?_
    refine lh_iconst rfl lh_k_1 ?_
    refine lh_iadd rfl ?_
    refine lh_putI4 rfl rfl (hS.1 0 _ rfl) rfl rfl ?_
    exact lh_vret rfl rfl (by obtain rfl := Option.some.inj hf; exact hK)
  · have hf := lh_ifT hf c1
    refine lh_iconst rfl lh_k_1 ?_
    refine lh_istore_n (lv' := [(0, .ref (65 + 4)), (1, .int 1)]) rfl rfl rfl rfl ?_
    refine lh_bdE hf (fun r7 e8 hf => ?_)
    refine t_LM_keeps_6 hG hS  _ 1 I _ e8 ?_
    refine lh_aload_n (q := 0) rfl rfl rfl ?_
    refine lh_dup rfl rfl ?_
    refine lh_getI4 rfl rfl (hS.1 0 _ rfl) rfl ?_
    refine lh_iconst rfl lh_k_1 ?_
    refine lh_isub rfl ?_
    refine lh_putI4 rfl rfl (hS.1 0 _ rfl) rfl rfl ?_
    refine lh_aload_n (q := 0) rfl rfl rfl ?_
    refine lh_iconst rfl lh_k_0 ?_
    refine lh_bipush rfl lh_b_32 ?_
    refine lh_iconst rfl lh_k_5 ?_
    refine lh_aload_n (q := 0) rfl rfl rfl ?_
    refine lh_getI4 rfl rfl (hS.1 0 _ rfl) rfl ?_
    refine lh_iadd rfl ?_
    refine lh_imul rfl ?_
    refine lh_bipush rfl lh_b_7 ?_
    refine lh_bdE hf (fun r9 e10 hf => ?_)
    refine lh_cVv (N := m_LM_copies) (d := 0) (o := 65) (As := [.int 0, .int (32 * (5 + ((lh_u2 r7 (65 + 4) 21 ((r7 (65 + 4) 21) - 1)) (65 + 4) 21))), .int 7]) (st := []) rfl rfl v_LM_copies (hS.1 0 _ rfl) rfl rfl rfl ⟨rfl, rfl⟩ rfl (t_LM_copies hG hS e10 ?_)
    refine lh_aload_n (q := 0) rfl rfl rfl ?_
    refine lh_dup rfl rfl ?_
    refine lh_getI4 rfl rfl (hS.1 0 _ rfl) rfl ?_
    refine lh_iconst rfl lh_k_1 ?_
    refine lh_iadd rfl ?_
    refine lh_putI4 rfl rfl (hS.1 0 _ rfl) rfl rfl ?_
    exact lh_vret rfl rfl (by obtain rfl := Option.some.inj hf; exact hK)
def f_LM_fills (x1 : Int32) (x2 : Int32) (I : lh_II) : Option (lh_II) := lh_gd (lh_ix (x1 + 4) 736) (if ((I (78 + 4) (x1 + 4).toNatClampNeg) + x2) ≤ 99 then lh_gd (lh_ix (x1 + 4) 736) (lh_gd (lh_ix (x1 + 4) 736) (some (lh_u2 I (78 + 4) (x1 + 4).toNatClampNeg ((I (78 + 4) (x1 + 4).toNatClampNeg) + x2)))) else lh_gd (lh_ix (x1 + 4) 736) (some (lh_u2 I (78 + 4) (x1 + 4).toNatClampNeg 99)))
theorem t_LM_fills {Γ : lh_Cx} {I : lh_II} {L : lh_LL} {F : lh_FF} {S : lh_SS} {K : lh_Hp → Prop} {r : lh_II} (hG : lh_GX Γ) (hS : lh_laym F S)  {x1 : Int32} {x2 : Int32} (hf : f_LM_fills x1 x2 I = some r) (hK : K (r, L, F, S)) : lh_Met Γ m_LM_fills 0 0 0 [.ref (65 + 4), .int x1, .int x2] (I, L, F, S) (lh_kv K) := by
  rw [f_LM_fills] at hf
  refine lh_ofG k_LM_fills [(0, .ref (65 + 4)), (1, .int x1), (2, .int x2)] rfl (Nat.le_of_ble_eq_true rfl) rfl ?_
  refine lh_aload_n (q := 0) rfl rfl rfl ?_
  refine lh_getR4 rfl rfl (hS.1 0 _ rfl) rfl (hS.2 12 _ rfl) ?_
  refine lh_iload_n (q := 1) rfl rfl rfl ?_
  refine lh_iconst rfl lh_k_4 ?_
  refine lh_iadd rfl ?_
  refine lh_aload_n (q := 0) rfl rfl rfl ?_
  refine lh_getR4 rfl rfl (hS.1 0 _ rfl) rfl (hS.2 12 _ rfl) ?_
  refine lh_iload_n (q := 1) rfl rfl rfl ?_
  refine lh_iconst rfl lh_k_4 ?_
  refine lh_iadd rfl ?_
  obtain ⟨g1, hf⟩ := lh_gdE hf
  refine lh_iald4 rfl (hS.1 13 _ rfl) g1 ?_
  refine lh_iload_n (q := 2) rfl rfl rfl ?_
  refine lh_iadd rfl ?_
  refine lh_bipush rfl lh_b_99 ?_
  refine lh_icmp_le rfl (fun c2 => ?_) (fun c2 => ?_)
  · have hf := lh_ifT hf c2
    refine lh_aload_n (q := 0) rfl rfl rfl ?_
    refine lh_getR4 rfl rfl (hS.1 0 _ rfl) rfl (hS.2 12 _ rfl) ?_
    refine lh_iload_n (q := 1) rfl rfl rfl ?_
    refine lh_iconst rfl lh_k_4 ?_
    refine lh_iadd rfl ?_
    obtain ⟨g3, hf⟩ := lh_gdE hf
    refine lh_iald4 rfl (hS.1 13 _ rfl) g3 ?_
    refine lh_iload_n (q := 2) rfl rfl rfl ?_
    refine lh_iadd rfl ?_
    obtain ⟨g4, hf⟩ := lh_gdE hf
    refine lh_iast4 rfl (hS.1 13 _ rfl) g4 ?_
    exact lh_vret rfl rfl (by obtain rfl := Option.some.inj hf; exact hK)
  · have hf := lh_ifF hf c2
    refine lh_bipush rfl lh_b_99 ?_
    refine lh_goto rfl ?_
    obtain ⟨g5, hf⟩ := lh_gdE hf
    refine lh_iast4 rfl (hS.1 13 _ rfl) g5 ?_
    exact lh_vret rfl rfl (by obtain rfl := Option.some.inj hf; exact hK)
def f_LM_fill (x1 : Int32) (I : lh_II) : Option (Int32 × lh_II) := lh_bd (f_LM_within x1 (1 : Int32) (99 : Int32)) fun r1 => if r1 = 0 then some ((-1), lh_u2 I (65 + 4) 0 0) else lh_bd (f_LM_keeps (lh_u2 I (65 + 4) 0 0)) fun r4 => lh_bd (f_LM_fills (0 : Int32) x1 r4) fun r6 => some ((r6 (78 + 4) 4), r6)
theorem t_LM_fill {Γ : lh_Cx} {I : lh_II} {L : lh_LL} {F : lh_FF} {S : lh_SS} {K : Int32 → lh_Hp → Prop} {r : Int32 × lh_II} (hG : lh_GX Γ) (hS : lh_laym F S)  {x1 : Int32} (hf : f_LM_fill x1 I = some r) (hK : K r.1 (r.2, L, F, S)) : lh_Met Γ m_LM_fill 2 0 0 [.ref (65 + 4), .int x1] (I, L, F, S) (lh_ki K) := by
  rw [f_LM_fill] at hf
  refine lh_ofG k_LM_fill [(0, .ref (65 + 4)), (1, .int x1)] rfl (Nat.le_of_ble_eq_true rfl) rfl ?_
  refine lh_aload_n (q := 0) rfl rfl rfl ?_
  refine lh_iconst rfl lh_k_0 ?_
  refine lh_putI4 rfl rfl (hS.1 0 _ rfl) rfl rfl ?_
  refine lh_iload_n (q := 1) rfl rfl rfl ?_
  refine lh_iconst rfl lh_k_1 ?_
  refine lh_bipush rfl lh_b_99 ?_
  refine lh_bdE hf (fun r1 e2 hf => ?_)
  refine lh_cSi (N := m_LM_within) (d := 0) (As := [.int x1, .int 1, .int 99]) (st := []) rfl rfl v_LM_within rfl rfl ⟨rfl, rfl⟩ rfl (t_LM_within hG hS e2 ?_)
  refine lh_if_ne rfl (fun c3 => ?_) (fun c3 => ?_)
  · have hf := lh_ifF hf c3
    refine lh_aload_n (q := 0) rfl rfl rfl ?_
    refine lh_bdE hf (fun r4 e5 hf => ?_)
    refine lh_cVv (N := m_LM_keeps) (d := 1) (o := 65) (As := []) (st := []) rfl rfl v_LM_keeps (hS.1 0 _ rfl) rfl rfl rfl ⟨rfl, rfl⟩ rfl (t_LM_keeps hG hS e5 ?_)
    refine lh_aload_n (q := 0) rfl rfl rfl ?_
    refine lh_iconst rfl lh_k_0 ?_
    refine lh_iload_n (q := 1) rfl rfl rfl ?_
    refine lh_bdE hf (fun r6 e7 hf => ?_)
    refine lh_cVv (N := m_LM_fills) (d := 0) (o := 65) (As := [.int 0, .int x1]) (st := []) rfl rfl v_LM_fills (hS.1 0 _ rfl) rfl rfl rfl ⟨rfl, rfl⟩ rfl (t_LM_fills hG hS e7 ?_)
    refine lh_aload_n (q := 0) rfl rfl rfl ?_
    refine lh_getR4 rfl rfl (hS.1 0 _ rfl) rfl (hS.2 12 _ rfl) ?_
    refine lh_iconst rfl lh_k_4 ?_
    refine lh_iald5 (k := 4) rfl (hS.1 13 _ rfl) (by decide) (by decide) ?_
    exact lh_iret rfl rfl rfl (by obtain rfl := Option.some.inj hf; exact hK)
  · have hf := lh_ifT hf c3
    refine lh_iconst rfl lh_k_m1 ?_
    exact lh_iret rfl rfl rfl (by obtain rfl := Option.some.inj hf; exact hK)
def f_LM_follows_14 (v1 : Int32) (v2 : Int32) (I : lh_II) : Nat → Int32 → Int32 → Option (Int32)
  | 0, _, _ => none
  | n + 1, v3, v4 => if 8 ≤ v4 then some v3 else lh_bd (f_LM_cellOf v1 v4 I) fun r5 => if r5 < 0 then f_LM_follows_14 v1 v2 I n (v3 ||| 0) (v4 + 1) else lh_bd (f_LM_cellOf v1 v4 I) fun r8 => lh_bd (f_LM_cellOf v2 (v4 - 1) I) fun r10 => if r8 = r10 then f_LM_follows_14 v1 v2 I n (v3 ||| ((1 : Int32) <<< (v4 &&& 31))) (v4 + 1) else f_LM_follows_14 v1 v2 I n (v3 ||| 0) (v4 + 1)
def f_LM_follows (x1 : Int32) (x2 : Int32) (I : lh_II) : Option (Int32 × lh_II) := lh_bd (f_LM_areOfOneDay x1 x2 (lh_u2 I (65 + 4) 0 0)) fun r1 => if r1 = 0 then some ((-1), lh_u2 I (65 + 4) 0 0) else lh_bd (f_LM_follows_14 x1 x2 (lh_u2 I (65 + 4) 0 0) lh_fuel 0 1) fun r13 => some (r13, lh_u2 I (65 + 4) 0 0)
theorem t_LM_follows_14 {Γ : lh_Cx} {F : lh_FF} {S : lh_SS} {Z : List Frame → Array Value → State → State → Prop} (hG : lh_GX Γ) (hS : lh_laym F S)  {v1 : Int32} {v2 : Int32} {I : lh_II} {L : lh_LL} : ∀ (n : Nat) (v3 : Int32) (v4 : Int32) (o : Int32), f_LM_follows_14 v1 v2 I n v3 v4 = some o → ∀ (x0_ : lh_G Γ m_LM_follows (lh_R 3 0 0) Z 0 0 43 [(3, .int o)] [] (I, L, F, S)), lh_G Γ m_LM_follows (lh_R 3 0 0) Z 0 0 14 [(0, .ref (65 + 4)), (1, .int v1), (2, .int v2), (3, .int v3), (4, .int v4)] [] (I, L, F, S) := by
  intro n
  induction n with
  | zero => intro v3 v4 o hf; cases hf
  | succ n ih =>
    intro v3 v4 o hf x0_
    rw [f_LM_follows_14] at hf
    refine lh_iload (q := 4) rfl rfl ?_
    refine lh_bipush rfl lh_b_8 ?_
    refine lh_icmp_ge rfl (fun c4 => ?_) (fun c4 => ?_)
    · have hf := lh_ifT hf c4
      exact lh_less [3] rfl (by cases hf; exact x0_)
    · have hf := lh_ifF hf c4
      refine lh_iload_n (q := 3) rfl rfl rfl ?_
      refine lh_aload_n (q := 0) rfl rfl rfl ?_
      refine lh_iload_n (q := 1) rfl rfl rfl ?_
      refine lh_iload (q := 4) rfl rfl ?_
      refine lh_bdE hf (fun r5 e6 hf => ?_)
      refine lh_cVi (N := m_LM_cellOf) (d := 1) (o := 65) (As := [.int v1, .int v4]) (st := [.int v3]) rfl rfl v_LM_cellOf (hS.1 0 _ rfl) rfl rfl rfl ⟨rfl, rfl⟩ rfl (t_LM_cellOf hG hS e6 ?_)
      refine lh_if_lt rfl (fun c7 => ?_) (fun c7 => ?_)
      · have hf := lh_ifT hf c7
        refine lh_iconst rfl lh_k_0 ?_
        refine lh_ior rfl ?_
        refine lh_istore_n (lv' := [(0, .ref (65 + 4)), (1, .int v1), (2, .int v2), (3, .int (v3 ||| 0)), (4, .int v4)]) rfl rfl rfl rfl ?_
        refine lh_iinc (q := 4) (v := (v4 + 1)) (lv' := [(0, .ref (65 + 4)), (1, .int v1), (2, .int v2), (3, .int (v3 ||| 0)), (4, .int (v4 + 1))]) rfl rfl (congrArg (v4 + ·) (by decide)) rfl rfl ?_
        refine lh_goto rfl ?_
        exact ih (v3 ||| 0) (v4 + 1) _ hf x0_
      · have hf := lh_ifF hf c7
        refine lh_aload_n (q := 0) rfl rfl rfl ?_
        refine lh_iload_n (q := 1) rfl rfl rfl ?_
        refine lh_iload (q := 4) rfl rfl ?_
        refine lh_bdE hf (fun r8 e9 hf => ?_)
        refine lh_cVi (N := m_LM_cellOf) (d := 1) (o := 65) (As := [.int v1, .int v4]) (st := [.int v3]) rfl rfl v_LM_cellOf (hS.1 0 _ rfl) rfl rfl rfl ⟨rfl, rfl⟩ rfl (t_LM_cellOf hG hS e9 ?_)
        refine lh_aload_n (q := 0) rfl rfl rfl ?_
        refine lh_iload_n (q := 2) rfl rfl rfl ?_
        refine lh_iload (q := 4) rfl rfl ?_
        refine lh_iconst rfl lh_k_1 ?_
        refine lh_isub rfl ?_
        refine lh_bdE hf (fun r10 e11 hf => ?_)
        refine lh_cVi (N := m_LM_cellOf) (d := 1) (o := 65) (As := [.int v2, .int (v4 - 1)]) (st := [.int r8, .int v3]) rfl rfl v_LM_cellOf (hS.1 0 _ rfl) rfl rfl rfl ⟨rfl, rfl⟩ rfl (t_LM_cellOf hG hS e11 ?_)
        refine lh_icmp_ne rfl (fun c12 => ?_) (fun c12 => ?_)
        · have hf := lh_ifF hf c12
          refine lh_iconst rfl lh_k_0 ?_
          refine lh_ior rfl ?_
          refine lh_istore_n (lv' := [(0, .ref (65 + 4)), (1, .int v1), (2, .int v2), (3, .int (v3 ||| 0)), (4, .int v4)]) rfl rfl rfl rfl ?_
          refine lh_iinc (q := 4) (v := (v4 + 1)) (lv' := [(0, .ref (65 + 4)), (1, .int v1), (2, .int v2), (3, .int (v3 ||| 0)), (4, .int (v4 + 1))]) rfl rfl (congrArg (v4 + ·) (by decide)) rfl rfl ?_
          refine lh_goto rfl ?_
          exact ih (v3 ||| 0) (v4 + 1) _ hf x0_
        · have hf := lh_ifT hf c12
          refine lh_iconst rfl lh_k_1 ?_
          refine lh_iload (q := 4) rfl rfl ?_
          refine lh_ishl rfl ?_
          refine lh_goto rfl ?_
          refine lh_ior rfl ?_
          refine lh_istore_n (lv' := [(0, .ref (65 + 4)), (1, .int v1), (2, .int v2), (3, .int (v3 ||| ((1 : Int32) <<< (v4 &&& 31)))), (4, .int v4)]) rfl rfl rfl rfl ?_
          refine lh_iinc (q := 4) (v := (v4 + 1)) (lv' := [(0, .ref (65 + 4)), (1, .int v1), (2, .int v2), (3, .int (v3 ||| ((1 : Int32) <<< (v4 &&& 31)))), (4, .int (v4 + 1))]) rfl rfl (congrArg (v4 + ·) (by decide)) rfl rfl ?_
          refine lh_goto rfl ?_
          exact ih (v3 ||| ((1 : Int32) <<< (v4 &&& 31))) (v4 + 1) _ hf x0_
theorem t_LM_follows {Γ : lh_Cx} {I : lh_II} {L : lh_LL} {F : lh_FF} {S : lh_SS} {K : Int32 → lh_Hp → Prop} {r : Int32 × lh_II} (hG : lh_GX Γ) (hS : lh_laym F S)  {x1 : Int32} {x2 : Int32} (hf : f_LM_follows x1 x2 I = some r) (hK : K r.1 (r.2, L, F, S)) : lh_Met Γ m_LM_follows 3 0 0 [.ref (65 + 4), .int x1, .int x2] (I, L, F, S) (lh_ki K) := by
  rw [f_LM_follows] at hf
  refine lh_ofG k_LM_follows [(0, .ref (65 + 4)), (1, .int x1), (2, .int x2)] rfl (Nat.le_of_ble_eq_true rfl) rfl ?_
  refine lh_aload_n (q := 0) rfl rfl rfl ?_
  refine lh_iconst rfl lh_k_0 ?_
  refine lh_putI4 rfl rfl (hS.1 0 _ rfl) rfl rfl ?_
  refine lh_aload_n (q := 0) rfl rfl rfl ?_
  refine lh_iload_n (q := 1) rfl rfl rfl ?_
  refine lh_iload_n (q := 2) rfl rfl rfl ?_
  refine lh_bdE hf (fun r1 e2 hf => ?_)
  refine lh_cVi (N := m_LM_areOfOneDay) (d := 2) (o := 65) (As := [.int x1, .int x2]) (st := []) rfl rfl v_LM_areOfOneDay (hS.1 0 _ rfl) rfl rfl rfl ⟨rfl, rfl⟩ rfl (t_LM_areOfOneDay hG hS e2 ?_)
  refine lh_if_ne rfl (fun c3 => ?_) (fun c3 => ?_)
  · have hf := lh_ifF hf c3
    refine lh_iconst rfl lh_k_0 ?_
    refine lh_istore_n (lv' := [(0, .ref (65 + 4)), (1, .int x1), (2, .int x2), (3, .int 0)]) rfl rfl rfl rfl ?_
    refine lh_iconst rfl lh_k_1 ?_
    refine lh_istore (lv' := [(0, .ref (65 + 4)), (1, .int x1), (2, .int x2), (3, .int 0), (4, .int 1)]) rfl rfl rfl ?_
    refine lh_bdE hf (fun r13 e14 hf => ?_)
    refine t_LM_follows_14 hG hS  _ 0 1 _ e14 ?_
    refine lh_iload_n (q := 0) rfl rfl rfl ?_
    exact lh_iret rfl rfl rfl (by obtain rfl := Option.some.inj hf; exact hK)
  · have hf := lh_ifT hf c3
    refine lh_iconst rfl lh_k_m1 ?_
    exact lh_iret rfl rfl rfl (by obtain rfl := Option.some.inj hf; exact hK)
def f_LM_gap_19 (v1 : Int32) (I : lh_II) : Nat → Int32 → Int32 → Option (Int32)
  | 0, _, _ => none
  | n + 1, v2, v3 => lh_bd (f_LM_cells I) fun r6 => if (8 * r6) ≤ v3 then some v2 else lh_bd (f_LM_isSomebody v1 (v3 - v3 / 8 * 8) (v3 / 8) I) fun r9 => if r9 = 0 then f_LM_gap_19 v1 I n (v2 &&& v2) (v3 + 1) else f_LM_gap_19 v1 I n (v2 &&& (((1 : Int32) <<< ((v3 / 8) &&& 31)) ^^^ (-1))) (v3 + 1)
def f_LM_gap (x1 : Int32) (I : lh_II) : Option (Int32 × lh_II) := lh_bd (f_LM_within x1 (0 : Int32) (3 : Int32)) fun r1 => if r1 = 0 then some ((-1), lh_u2 I (65 + 4) 0 0) else lh_bd (f_LM_cells (lh_u2 I (65 + 4) 0 0)) fun r4 => lh_bd (f_LM_gap_19 x1 (lh_u2 I (65 + 4) 0 0) lh_fuel (((1 : Int32) <<< (r4 &&& 31)) - 1) 0) fun r12 => some (r12, lh_u2 I (65 + 4) 0 0)
theorem t_LM_gap_19 {Γ : lh_Cx} {F : lh_FF} {S : lh_SS} {Z : List Frame → Array Value → State → State → Prop} (hG : lh_GX Γ) (hS : lh_laym F S)  {v1 : Int32} {I : lh_II} {L : lh_LL} : ∀ (n : Nat) (v2 : Int32) (v3 : Int32) (o : Int32), f_LM_gap_19 v1 I n v2 v3 = some o → ∀ (x0_ : lh_G Γ m_LM_gap (lh_R 3 0 0) Z 0 0 49 [(2, .int o)] [] (I, L, F, S)), lh_G Γ m_LM_gap (lh_R 3 0 0) Z 0 0 19 [(0, .ref (65 + 4)), (1, .int v1), (2, .int v2), (3, .int v3)] [] (I, L, F, S) := by
  intro n
  induction n with
  | zero => intro v2 v3 o hf; cases hf
  | succ n ih =>
    intro v2 v3 o hf x0_
    rw [f_LM_gap_19] at hf
    refine lh_iload_n (q := 3) rfl rfl rfl ?_
    refine lh_bipush rfl lh_b_8 ?_
    refine lh_aload_n (q := 0) rfl rfl rfl ?_
    refine lh_bdE hf (fun r6 e7 hf => ?_)
    refine lh_cVi (N := m_LM_cells) (d := 0) (o := 65) (As := []) (st := [.int 8, .int v3]) rfl rfl v_LM_cells (hS.1 0 _ rfl) rfl rfl rfl ⟨rfl, rfl⟩ rfl (t_LM_cells hG hS e7 ?_)
    refine lh_imul rfl ?_
    refine lh_icmp_ge rfl (fun c8 => ?_) (fun c8 => ?_)
    · have hf := lh_ifT hf c8
      exact lh_less [2] rfl (by cases hf; exact x0_)
    · have hf := lh_ifF hf c8
      refine lh_iload_n (q := 2) rfl rfl rfl ?_
      refine lh_aload_n (q := 0) rfl rfl rfl ?_
      refine lh_iload_n (q := 1) rfl rfl rfl ?_
      refine lh_iload_n (q := 3) rfl rfl rfl ?_
      refine lh_bipush rfl lh_b_8 ?_
      refine lh_irem rfl (by decide) ?_
      refine lh_iload_n (q := 3) rfl rfl rfl ?_
      refine lh_bipush rfl lh_b_8 ?_
      refine lh_idiv rfl (by decide) ?_
      refine lh_bdE hf (fun r9 e10 hf => ?_)
      refine lh_cVi (N := m_LM_isSomebody) (d := 2) (o := 65) (As := [.int v1, .int (v3 - v3 / 8 * 8), .int (v3 / 8)]) (st := [.int v2]) rfl rfl v_LM_isSomebody (hS.1 0 _ rfl) rfl rfl rfl ⟨rfl, rfl⟩ rfl (t_LM_isSomebody hG hS e10 ?_)
      refine lh_if_eq rfl (fun c11 => ?_) (fun c11 => ?_)
      · have hf := lh_ifT hf c11
        refine lh_iload_n (q := 2) rfl rfl rfl ?_
        refine lh_iand rfl ?_
        refine lh_istore_n (lv' := [(0, .ref (65 + 4)), (1, .int v1), (2, .int (v2 &&& v2)), (3, .int v3)]) rfl rfl rfl rfl ?_
        refine lh_iinc (q := 3) (v := (v3 + 1)) (lv' := [(0, .ref (65 + 4)), (1, .int v1), (2, .int (v2 &&& v2)), (3, .int (v3 + 1))]) rfl rfl (congrArg (v3 + ·) (by decide)) rfl rfl ?_
        refine lh_goto rfl ?_
        exact ih (v2 &&& v2) (v3 + 1) _ hf x0_
      · have hf := lh_ifF hf c11
        refine lh_iconst rfl lh_k_1 ?_
        refine lh_iload_n (q := 3) rfl rfl rfl ?_
        refine lh_bipush rfl lh_b_8 ?_
        refine lh_idiv rfl (by decide) ?_
        refine lh_ishl rfl ?_
        refine lh_iconst rfl lh_k_m1 ?_
        refine lh_ixor rfl ?_
        refine lh_goto rfl ?_
        refine lh_iand rfl ?_
        refine lh_istore_n (lv' := [(0, .ref (65 + 4)), (1, .int v1), (2, .int (v2 &&& (((1 : Int32) <<< ((v3 / 8) &&& 31)) ^^^ (-1)))), (3, .int v3)]) rfl rfl rfl rfl ?_
        refine lh_iinc (q := 3) (v := (v3 + 1)) (lv' := [(0, .ref (65 + 4)), (1, .int v1), (2, .int (v2 &&& (((1 : Int32) <<< ((v3 / 8) &&& 31)) ^^^ (-1)))), (3, .int (v3 + 1))]) rfl rfl (congrArg (v3 + ·) (by decide)) rfl rfl ?_
        refine lh_goto rfl ?_
        exact ih (v2 &&& (((1 : Int32) <<< ((v3 / 8) &&& 31)) ^^^ (-1))) (v3 + 1) _ hf x0_
theorem t_LM_gap {Γ : lh_Cx} {I : lh_II} {L : lh_LL} {F : lh_FF} {S : lh_SS} {K : Int32 → lh_Hp → Prop} {r : Int32 × lh_II} (hG : lh_GX Γ) (hS : lh_laym F S)  {x1 : Int32} (hf : f_LM_gap x1 I = some r) (hK : K r.1 (r.2, L, F, S)) : lh_Met Γ m_LM_gap 3 0 0 [.ref (65 + 4), .int x1] (I, L, F, S) (lh_ki K) := by
  rw [f_LM_gap] at hf
  refine lh_ofG k_LM_gap [(0, .ref (65 + 4)), (1, .int x1)] rfl (Nat.le_of_ble_eq_true rfl) rfl ?_
  refine lh_aload_n (q := 0) rfl rfl rfl ?_
  refine lh_iconst rfl lh_k_0 ?_
  refine lh_putI4 rfl rfl (hS.1 0 _ rfl) rfl rfl ?_
  refine lh_iload_n (q := 1) rfl rfl rfl ?_
  refine lh_iconst rfl lh_k_0 ?_
  refine lh_iconst rfl lh_k_3 ?_
  refine lh_bdE hf (fun r1 e2 hf => ?_)
  refine lh_cSi (N := m_LM_within) (d := 0) (As := [.int x1, .int 0, .int 3]) (st := []) rfl rfl v_LM_within rfl rfl ⟨rfl, rfl⟩ rfl (t_LM_within hG hS e2 ?_)
  refine lh_if_ne rfl (fun c3 => ?_) (fun c3 => ?_)
  · have hf := lh_ifF hf c3
    refine lh_iconst rfl lh_k_1 ?_
    refine lh_aload_n (q := 0) rfl rfl rfl ?_
    refine lh_bdE hf (fun r4 e5 hf => ?_)
    refine lh_cVi (N := m_LM_cells) (d := 0) (o := 65) (As := []) (st := [.int 1]) rfl rfl v_LM_cells (hS.1 0 _ rfl) rfl rfl rfl ⟨rfl, rfl⟩ rfl (t_LM_cells hG hS e5 ?_)
    refine lh_ishl rfl ?_
    refine lh_iconst rfl lh_k_1 ?_
    refine lh_isub rfl ?_
    refine lh_istore_n (lv' := [(0, .ref (65 + 4)), (1, .int x1), (2, .int (((1 : Int32) <<< (r4 &&& 31)) - 1))]) rfl rfl rfl rfl ?_
    refine lh_iconst rfl lh_k_0 ?_
    refine lh_istore_n (lv' := [(0, .ref (65 + 4)), (1, .int x1), (2, .int (((1 : Int32) <<< (r4 &&& 31)) - 1)), (3, .int 0)]) rfl rfl rfl rfl ?_
    refine lh_bdE hf (fun r12 e13 hf => ?_)
    refine t_LM_gap_19 hG hS  _ (((1 : Int32) <<< (r4 &&& 31)) - 1) 0 _ e13 ?_
    refine lh_iload_n (q := 0) rfl rfl rfl ?_
    exact lh_iret rfl rfl rfl (by obtain rfl := Option.some.inj hf; exact hK)
  · have hf := lh_ifT hf c3
    refine lh_iconst rfl lh_k_m1 ?_
    exact lh_iret rfl rfl rfl (by obtain rfl := Option.some.inj hf; exact hK)
def f_LM_getsBy (x1 : Int32) (x2 : Int32) (x3 : Int32) (x4 : Int32) (x5 : Int32) : Option (Int32) := if x1 = 1 then if x2 = 1 then some x3 else some (-x4) else if x2 = 1 then some x5 else some 0
theorem t_LM_getsBy {Γ : lh_Cx} {I : lh_II} {L : lh_LL} {F : lh_FF} {S : lh_SS} {K : Int32 → lh_Hp → Prop} {r : Int32} (hG : lh_GX Γ) (hS : lh_laym F S)  {x1 : Int32} {x2 : Int32} {x3 : Int32} {x4 : Int32} {x5 : Int32} (hf : f_LM_getsBy x1 x2 x3 x4 x5 = some r) (hK : K r (I, L, F, S)) : lh_Met Γ m_LM_getsBy 0 0 0 [.int x1, .int x2, .int x3, .int x4, .int x5] (I, L, F, S) (lh_ki K) := by
  rw [f_LM_getsBy] at hf
  refine lh_ofG k_LM_getsBy [(0, .int x1), (1, .int x2), (2, .int x3), (3, .int x4), (4, .int x5)] rfl (Nat.le_of_ble_eq_true rfl) rfl ?_
  refine lh_iload_n (q := 0) rfl rfl rfl ?_
  refine lh_iconst rfl lh_k_1 ?_
  refine lh_icmp_ne rfl (fun c1 => ?_) (fun c1 => ?_)
  · have hf := lh_ifF hf c1
    refine lh_iload_n (q := 1) rfl rfl rfl ?_
    refine lh_iconst rfl lh_k_1 ?_
    refine lh_icmp_ne rfl (fun c2 => ?_) (fun c2 => ?_)
    · have hf := lh_ifF hf c2
      refine lh_iconst rfl lh_k_0 ?_
      exact lh_iret rfl rfl rfl (by obtain rfl := Option.some.inj hf; exact hK)
    · have hf := lh_ifT hf c2
      refine lh_iload (q := 4) rfl rfl ?_
      refine lh_goto rfl ?_
      exact lh_iret rfl rfl rfl (by obtain rfl := Option.some.inj hf; exact hK)
  · have hf := lh_ifT hf c1
    refine lh_iload_n (q := 1) rfl rfl rfl ?_
    refine lh_iconst rfl lh_k_1 ?_
    refine lh_icmp_ne rfl (fun c3 => ?_) (fun c3 => ?_)
    · have hf := lh_ifF hf c3
      refine lh_iload_n (q := 3) rfl rfl rfl ?_
      refine lh_ineg rfl ?_
      refine lh_goto rfl ?_
      exact lh_iret rfl rfl rfl (by obtain rfl := Option.some.inj hf; exact hK)
    · have hf := lh_ifT hf c3
      refine lh_iload_n (q := 2) rfl rfl rfl ?_
      refine lh_goto rfl ?_
      exact lh_iret rfl rfl rfl (by obtain rfl := Option.some.inj hf; exact hK)
def f_LM_joined_4 (v0 : Int64) (v2 : Int32) : Nat → Int64 → Int32 → Option (Int64)
  | 0, _, _ => none
  | n + 1, v3, v5 => if 64 ≤ v5 then some v3 else if (lg_cmp ((v0 >>> (v5.toInt64 &&& 63)) &&& 1) (1 : Int64)) = 0 then f_LM_joined_4 v0 v2 n (v3 ||| ((1 : Int64) <<< ((v5 ||| v2).toInt64 &&& 63))) (v5 + 1) else f_LM_joined_4 v0 v2 n (v3 ||| 0) (v5 + 1)
def f_LM_joined (x1 : Int64) (x2 : Int32) : Option (Int64) := lh_bd (f_LM_joined_4 x1 x2 lh_fuel 0 0) fun r3 => some r3
theorem t_LM_joined_4 {Γ : lh_Cx} {F : lh_FF} {S : lh_SS} {Z : List Frame → Array Value → State → State → Prop} (hG : lh_GX Γ) (hS : lh_laym F S)  {v0 : Int64} {v2 : Int32} {I : lh_II} {L : lh_LL} : ∀ (n : Nat) (v3 : Int64) (v5 : Int32) (o : Int64), f_LM_joined_4 v0 v2 n v3 v5 = some o → ∀ (x0_ : lh_G Γ m_LM_joined (lh_R 0 0 0) Z 0 0 27 [(3, .long o)] [] (I, L, F, S)), lh_G Γ m_LM_joined (lh_R 0 0 0) Z 0 0 4 [(0, .long v0), (2, .int v2), (3, .long v3), (5, .int v5)] [] (I, L, F, S) := by
  intro n
  induction n with
  | zero => intro v3 v5 o hf; cases hf
  | succ n ih =>
    intro v3 v5 o hf x0_
    rw [f_LM_joined_4] at hf
    refine lh_iload (q := 3) rfl rfl ?_
    refine lh_bipush rfl lh_b_64 ?_
    refine lh_icmp_ge rfl (fun c1 => ?_) (fun c1 => ?_)
    · have hf := lh_ifT hf c1
      exact lh_less [2] rfl (by cases hf; exact x0_)
    · have hf := lh_ifF hf c1
      refine lh_lload_n (q := 2) rfl rfl rfl ?_
      refine lh_lload_n (q := 0) rfl rfl rfl ?_
      refine lh_iload (q := 3) rfl rfl ?_
      refine lh_lshr rfl ?_
      refine lh_lconst (v := 1) rfl (by decide) ?_
      refine lh_land rfl ?_
      refine lh_lconst (v := 1) rfl (by decide) ?_
      refine lh_lcmp rfl ?_
      refine lh_if_ne rfl (fun c2 => ?_) (fun c2 => ?_)
      · have hf := lh_ifF hf c2
        refine lh_lconst (v := 0) rfl (by decide) ?_
        refine lh_lor rfl ?_
        refine lh_lstore_n (lv' := [(0, .long v0), (2, .int v2), (3, .long (v3 ||| 0)), (5, .int v5)]) rfl rfl rfl rfl ?_
        refine lh_iinc (q := 3) (v := (v5 + 1)) (lv' := [(0, .long v0), (2, .int v2), (3, .long (v3 ||| 0)), (5, .int (v5 + 1))]) rfl rfl (congrArg (v5 + ·) (by decide)) rfl rfl ?_
        refine lh_goto rfl ?_
        exact ih (v3 ||| 0) (v5 + 1) _ hf x0_
      · have hf := lh_ifT hf c2
        refine lh_lconst (v := 1) rfl (by decide) ?_
        refine lh_iload (q := 3) rfl rfl ?_
        refine lh_iload_n (q := 1) rfl rfl rfl ?_
        refine lh_ior rfl ?_
        refine lh_lshl rfl ?_
        refine lh_goto rfl ?_
        refine lh_lor rfl ?_
        refine lh_lstore_n (lv' := [(0, .long v0), (2, .int v2), (3, .long (v3 ||| ((1 : Int64) <<< ((v5 ||| v2).toInt64 &&& 63)))), (5, .int v5)]) rfl rfl rfl rfl ?_
        refine lh_iinc (q := 3) (v := (v5 + 1)) (lv' := [(0, .long v0), (2, .int v2), (3, .long (v3 ||| ((1 : Int64) <<< ((v5 ||| v2).toInt64 &&& 63)))), (5, .int (v5 + 1))]) rfl rfl (congrArg (v5 + ·) (by decide)) rfl rfl ?_
        refine lh_goto rfl ?_
        exact ih (v3 ||| ((1 : Int64) <<< ((v5 ||| v2).toInt64 &&& 63))) (v5 + 1) _ hf x0_
theorem t_LM_joined {Γ : lh_Cx} {I : lh_II} {L : lh_LL} {F : lh_FF} {S : lh_SS} {K : Int64 → lh_Hp → Prop} {r : Int64} (hG : lh_GX Γ) (hS : lh_laym F S)  {x1 : Int64} {x2 : Int32} (hf : f_LM_joined x1 x2 = some r) (hK : K r (I, L, F, S)) : lh_Met Γ m_LM_joined 0 0 0 [.long x1, .int x2] (I, L, F, S) (lh_kl K) := by
  rw [f_LM_joined] at hf
  refine lh_ofG k_LM_joined [(0, .long x1), (2, .int x2)] rfl (Nat.le_of_ble_eq_true rfl) rfl ?_
  refine lh_lconst (v := 0) rfl (by decide) ?_
  refine lh_lstore_n (lv' := [(0, .long x1), (2, .int x2), (3, .long 0)]) rfl rfl rfl rfl ?_
  refine lh_iconst rfl lh_k_0 ?_
  refine lh_istore (lv' := [(0, .long x1), (2, .int x2), (3, .long 0), (5, .int 0)]) rfl rfl rfl ?_
  refine lh_bdE hf (fun r3 e4 hf => ?_)
  refine t_LM_joined_4 hG hS  _ 0 0 _ e4 ?_
  refine lh_lload_n (q := 0) rfl rfl rfl ?_
  exact lh_lret rfl rfl (by obtain rfl := Option.some.inj hf; exact hK)
def f_LM_goesOn_2 : Nat → Int32 → lh_LL → Option (lh_LL)
  | 0, _, _ => none
  | n + 1, v1, L => if 12 ≤ v1 then some L else lh_gd (lh_ix (12 + v1) 24) (f_LM_goesOn_2 n (v1 + 1) (lh_v2 L (80 + 4) (12 + v1).toNatClampNeg 0))
def f_LM_goesOn_22 (v1 : Int32) : Nat → Int32 → lh_II → lh_LL → Option (lh_II × lh_LL)
  | 0, _, _, _ => none
  | n + 1, v2, I, L => if 2 ≤ v2 then some (I, L) else lh_gd (lh_ix v1 24) (if (lg_cmp (L (80 + 4) v1.toNatClampNeg) (0 : Int64)) = 0 then some (I, L) else lh_bd (f_LM_bumpsBy (672 : Int32) v2 (lh_u2 I (78 + 4) 677 v1)) fun r11 => if r11.1 = 0 then lh_bd (f_LM_cellBy (672 : Int32) v2 r11.2) fun r14 => lh_gd (lh_ix (12 + r14.1) 24) (lh_gd (lh_ix v1 24) (lh_gd (lh_ix (12 + r14.1) 24) (f_LM_goesOn_22 v1 n (v2 + 1) r14.2 (lh_v2 L (80 + 4) (12 + r14.1).toNatClampNeg ((L (80 + 4) (12 + r14.1).toNatClampNeg) ||| (L (80 + 4) v1.toNatClampNeg)))))) else f_LM_goesOn_22 v1 n (v2 + 1) r11.2 L)
def f_LM_goesOn_16 : Nat → Int32 → lh_II → lh_LL → Option (lh_II × lh_LL)
  | 0, _, _, _ => none
  | n + 1, v1, I, L => lh_bd (f_LM_cells I) fun r5 => if r5 ≤ v1 then some (I, L) else lh_bd (f_LM_goesOn_22 v1 lh_fuel (-1) I L) fun r19 => f_LM_goesOn_16 n (v1 + 1) r19.1 r19.2
def f_LM_goesOn_91 : Nat → Int32 → lh_II → lh_LL → Option (lh_II × lh_LL)
  | 0, _, _, _ => none
  | n + 1, v1, I, L => if 12 ≤ v1 then some (I, L) else lh_gd (lh_ix (12 + v1) 24) (if (lg_cmp (L (80 + 4) (12 + v1).toNatClampNeg) (0 : Int64)) = 0 then lh_gd (lh_ix v1 24) (f_LM_goesOn_91 n (v1 + 1) (lh_u2 I (78 + 4) 677 v1) (lh_v2 L (80 + 4) v1.toNatClampNeg 0)) else lh_gd (lh_ix (12 + v1) 24) (lh_bd (f_LM_seenNow (672 : Int32) (lh_u2 I (78 + 4) 677 v1)) fun r28 => lh_bd (f_LM_joined (L (80 + 4) (12 + v1).toNatClampNeg) r28.1) fun r30 => lh_gd (lh_ix v1 24) (f_LM_goesOn_91 n (v1 + 1) r28.2 (lh_v2 L (80 + 4) v1.toNatClampNeg r30))))
def f_LM_goesOn (I : lh_II) (L : lh_LL) : Option (lh_II × lh_LL) := lh_bd (f_LM_goesOn_2 lh_fuel 0 L) fun r3 => lh_bd (f_LM_goesOn_16 lh_fuel 0 I r3) fun r21 => if ((lh_u2 r21.1 (78 + 4) 674 (((r21.1 (78 + 4) 674) + 1) - ((r21.1 (78 + 4) 674) + 1) / 8 * 8)) (78 + 4) 676) ≤ 0 then lh_bd (f_LM_goesOn_91 lh_fuel 0 (lh_u2 (lh_u2 r21.1 (78 + 4) 674 (((r21.1 (78 + 4) 674) + 1) - ((r21.1 (78 + 4) 674) + 1) / 8 * 8)) (78 + 4) 676 (((lh_u2 r21.1 (78 + 4) 674 (((r21.1 (78 + 4) 674) + 1) - ((r21.1 (78 + 4) 674) + 1) / 8 * 8)) (78 + 4) 676) - 0)) r21.2) fun r34 => some (r34.1, r34.2) else lh_bd (f_LM_goesOn_91 lh_fuel 0 (lh_u2 (lh_u2 r21.1 (78 + 4) 674 (((r21.1 (78 + 4) 674) + 1) - ((r21.1 (78 + 4) 674) + 1) / 8 * 8)) (78 + 4) 676 (((lh_u2 r21.1 (78 + 4) 674 (((r21.1 (78 + 4) 674) + 1) - ((r21.1 (78 + 4) 674) + 1) / 8 * 8)) (78 + 4) 676) - 1)) r21.2) fun r36 => some (r36.1, r36.2)
theorem t_LM_goesOn_2 {Γ : lh_Cx} {F : lh_FF} {S : lh_SS} {Z : List Frame → Array Value → State → State → Prop} (hG : lh_GX Γ) (hS : lh_laym F S)   {I : lh_II} : ∀ (n : Nat) (v1 : Int32) (L : lh_LL) (o : lh_LL), f_LM_goesOn_2 n v1 L = some o → ∀ (x0_ : lh_G Γ m_LM_goesOn (lh_R 7 0 0) Z 0 0 14 [(0, .ref (65 + 4))] [] (I, o, F, S)), lh_G Γ m_LM_goesOn (lh_R 7 0 0) Z 0 0 2 [(0, .ref (65 + 4)), (1, .int v1)] [] (I, L, F, S) := by
  intro n
  induction n with
  | zero => intro v1 L o hf; cases hf
  | succ n ih =>
    intro v1 L o hf x0_
    rw [f_LM_goesOn_2] at hf
    refine lh_iload_n (q := 1) rfl rfl rfl ?_
    refine lh_bipush rfl lh_b_12 ?_
    refine lh_icmp_ge rfl (fun c1 => ?_) (fun c1 => ?_)
    · have hf := lh_ifT hf c1
      exact lh_less [0] rfl (by cases hf; exact x0_)
    · have hf := lh_ifF hf c1
      refine lh_aload_n (q := 0) rfl rfl rfl ?_
      refine lh_getR4 rfl rfl (hS.1 0 _ rfl) rfl (hS.2 14 _ rfl) ?_
      refine lh_bipush rfl lh_b_12 ?_
      refine lh_iload_n (q := 1) rfl rfl rfl ?_
      refine lh_iadd rfl ?_
      refine lh_lconst (v := 0) rfl (by decide) ?_
      obtain ⟨g2, hf⟩ := lh_gdE hf
      refine lh_last4 rfl (hS.1 15 _ rfl) g2 ?_
      refine lh_iinc (q := 1) (v := (v1 + 1)) (lv' := [(0, .ref (65 + 4)), (1, .int (v1 + 1))]) rfl rfl (congrArg (v1 + ·) (by decide)) rfl rfl ?_
      refine lh_goto rfl ?_
      exact ih (v1 + 1) (lh_v2 L (80 + 4) (12 + v1).toNatClampNeg 0) _ hf x0_
theorem t_LM_goesOn_22 {Γ : lh_Cx} {F : lh_FF} {S : lh_SS} {Z : List Frame → Array Value → State → State → Prop} (hG : lh_GX Γ) (hS : lh_laym F S)  {v1 : Int32} : ∀ (n : Nat) (v2 : Int32) (I : lh_II) (L : lh_LL) (o : lh_II × lh_LL), f_LM_goesOn_22 v1 n v2 I L = some o → ∀ (x0_ : lh_G Γ m_LM_goesOn (lh_R 7 0 0) Z 0 0 60 [(0, .ref (65 + 4)), (1, .int v1)] [] (o.1, o.2, F, S)), lh_G Γ m_LM_goesOn (lh_R 7 0 0) Z 0 0 22 [(0, .ref (65 + 4)), (1, .int v1), (2, .int v2)] [] (I, L, F, S) := by
  intro n
  induction n with
  | zero => intro v2 I L o hf; cases hf
  | succ n ih =>
    intro v2 I L o hf x0_
    rw [f_LM_goesOn_22] at hf
    refine lh_iload_n (q := 2) rfl rfl rfl ?_
    refine lh_iconst rfl lh_k_2 ?_
    refine lh_icmp_ge rfl (fun c8 => ?_) (fun c8 => ?_)
    · have hf := lh_ifT hf c8
      exact lh_less [0, 1] rfl (by cases hf; exact x0_)
    · have hf := lh_ifF hf c8
      refine lh_aload_n (q := 0) rfl rfl rfl ?_
      refine lh_getR4 rfl rfl (hS.1 0 _ rfl) rfl (hS.2 14 _ rfl) ?_
      refine lh_iload_n (q := 1) rfl rfl rfl ?_
      obtain ⟨g9, hf⟩ := lh_gdE hf
      refine lh_lald4 rfl (hS.1 15 _ rfl) g9 ?_
      refine lh_lconst (v := 0) rfl (by decide) ?_
      refine lh_lcmp rfl ?_
      refine lh_if_eq rfl (fun c10 => ?_) (fun c10 => ?_)
      · have hf := lh_ifT hf c10
        exact lh_less [0, 1] rfl (by cases hf; exact x0_)
      · have hf := lh_ifF hf c10
        refine lh_aload_n (q := 0) rfl rfl rfl ?_
        refine lh_getR4 rfl rfl (hS.1 0 _ rfl) rfl (hS.2 12 _ rfl) ?_
        refine lh_sipush rfl lh_s_677 ?_
        refine lh_iload_n (q := 1) rfl rfl rfl ?_
        refine lh_iast5 (k := 677) rfl (hS.1 13 _ rfl) (by decide) (by decide) ?_
        refine lh_aload_n (q := 0) rfl rfl rfl ?_
        refine lh_sipush rfl lh_s_672 ?_
        refine lh_iload_n (q := 2) rfl rfl rfl ?_
        refine lh_bdE hf (fun r11 e12 hf => ?_)
        refine lh_cVi (N := m_LM_bumpsBy) (d := 5) (o := 65) (As := [.int 672, .int v2]) (st := []) rfl rfl v_LM_bumpsBy (hS.1 0 _ rfl) rfl rfl rfl ⟨rfl, rfl⟩ rfl (t_LM_bumpsBy hG hS e12 ?_)
        refine lh_if_ne rfl (fun c13 => ?_) (fun c13 => ?_)
        · have hf := lh_ifF hf c13
          refine lh_iinc (q := 2) (v := (v2 + 1)) (lv' := [(0, .ref (65 + 4)), (1, .int v1), (2, .int (v2 + 1))]) rfl rfl (congrArg (v2 + ·) (by decide)) rfl rfl ?_
          refine lh_goto rfl ?_
          exact ih (v2 + 1) r11.2 L _ hf x0_
        · have hf := lh_ifT hf c13
          refine lh_aload_n (q := 0) rfl rfl rfl ?_
          refine lh_getR4 rfl rfl (hS.1 0 _ rfl) rfl (hS.2 14 _ rfl) ?_
          refine lh_bipush rfl lh_b_12 ?_
          refine lh_aload_n (q := 0) rfl rfl rfl ?_
          refine lh_sipush rfl lh_s_672 ?_
          refine lh_iload_n (q := 2) rfl rfl rfl ?_
          refine lh_bdE hf (fun r14 e15 hf => ?_)
          refine lh_cVi (N := m_LM_cellBy) (d := 6) (o := 65) (As := [.int 672, .int v2]) (st := [.int 12, .ref (80 + 4)]) rfl rfl v_LM_cellBy (hS.1 0 _ rfl) rfl rfl rfl ⟨rfl, rfl⟩ rfl (t_LM_cellBy hG hS e15 ?_)
          refine lh_iadd rfl ?_
          refine lh_dup2 rfl rfl rfl ?_
          obtain ⟨g16, hf⟩ := lh_gdE hf
          refine lh_lald4 rfl (hS.1 15 _ rfl) g16 ?_
          refine lh_aload_n (q := 0) rfl rfl rfl ?_
          refine lh_getR4 rfl rfl (hS.1 0 _ rfl) rfl (hS.2 14 _ rfl) ?_
          refine lh_iload_n (q := 1) rfl rfl rfl ?_
          obtain ⟨g17, hf⟩ := lh_gdE hf
          refine lh_lald4 rfl (hS.1 15 _ rfl) g17 ?_
          refine lh_lor rfl ?_
          obtain ⟨g18, hf⟩ := lh_gdE hf
          refine lh_last4 rfl (hS.1 15 _ rfl) g18 ?_
          refine lh_iinc (q := 2) (v := (v2 + 1)) (lv' := [(0, .ref (65 + 4)), (1, .int v1), (2, .int (v2 + 1))]) rfl rfl (congrArg (v2 + ·) (by decide)) rfl rfl ?_
          refine lh_goto rfl ?_
          exact ih (v2 + 1) r14.2 (lh_v2 L (80 + 4) (12 + r14.1).toNatClampNeg ((L (80 + 4) (12 + r14.1).toNatClampNeg) ||| (L (80 + 4) v1.toNatClampNeg))) _ hf x0_
theorem t_LM_goesOn_16 {Γ : lh_Cx} {F : lh_FF} {S : lh_SS} {Z : List Frame → Array Value → State → State → Prop} (hG : lh_GX Γ) (hS : lh_laym F S)   : ∀ (n : Nat) (v1 : Int32) (I : lh_II) (L : lh_LL) (o : lh_II × lh_LL), f_LM_goesOn_16 n v1 I L = some o → ∀ (x0_ : lh_G Γ m_LM_goesOn (lh_R 7 0 0) Z 0 0 62 [(0, .ref (65 + 4))] [] (o.1, o.2, F, S)), lh_G Γ m_LM_goesOn (lh_R 7 0 0) Z 0 0 16 [(0, .ref (65 + 4)), (1, .int v1)] [] (I, L, F, S) := by
  intro n
  induction n with
  | zero => intro v1 I L o hf; cases hf
  | succ n ih =>
    intro v1 I L o hf x0_
    rw [f_LM_goesOn_16] at hf
    refine lh_iload_n (q := 1) rfl rfl rfl ?_
    refine lh_aload_n (q := 0) rfl rfl rfl ?_
    refine lh_bdE hf (fun r5 e6 hf => ?_)
    refine lh_cVi (N := m_LM_cells) (d := 0) (o := 65) (As := []) (st := [.int v1]) rfl rfl v_LM_cells (hS.1 0 _ rfl) rfl rfl rfl ⟨rfl, rfl⟩ rfl (t_LM_cells hG hS e6 ?_)
    refine lh_icmp_ge rfl (fun c7 => ?_) (fun c7 => ?_)
    · have hf := lh_ifT hf c7
      exact lh_less [0] rfl (by cases hf; exact x0_)
    · have hf := lh_ifF hf c7
      refine lh_iconst rfl lh_k_m1 ?_
      refine lh_istore_n (lv' := [(0, .ref (65 + 4)), (1, .int v1), (2, .int (-1))]) rfl rfl rfl rfl ?_
      refine lh_bdE hf (fun r19 e20 hf => ?_)
      refine t_LM_goesOn_22 hG hS  _ (-1) I L _ e20 ?_
      refine lh_iinc (q := 1) (v := (v1 + 1)) (lv' := [(0, .ref (65 + 4)), (1, .int (v1 + 1))]) rfl rfl (congrArg (v1 + ·) (by decide)) rfl rfl ?_
      refine lh_goto rfl ?_
      exact ih (v1 + 1) r19.1 r19.2 _ hf x0_
theorem t_LM_goesOn_91 {Γ : lh_Cx} {F : lh_FF} {S : lh_SS} {Z : List Frame → Array Value → State → State → Prop} (hG : lh_GX Γ) (hS : lh_laym F S)   : ∀ (n : Nat) (v1 : Int32) (I : lh_II) (L : lh_LL) (o : lh_II × lh_LL), f_LM_goesOn_91 n v1 I L = some o → ∀ (x0_ : lh_G Γ m_LM_goesOn (lh_R 7 0 0) Z 0 0 126 [] [] (o.1, o.2, F, S)), lh_G Γ m_LM_goesOn (lh_R 7 0 0) Z 0 0 91 [(0, .ref (65 + 4)), (1, .int v1)] [] (I, L, F, S) := by
  intro n
  induction n with
  | zero => intro v1 I L o hf; cases hf
  | succ n ih =>
    intro v1 I L o hf x0_
    rw [f_LM_goesOn_91] at hf
    refine lh_iload_n (q := 1) rfl rfl rfl ?_
    refine lh_bipush rfl lh_b_12 ?_
    refine lh_icmp_ge rfl (fun c24 => ?_) (fun c24 => ?_)
    · have hf := lh_ifT hf c24
      exact lh_less [] rfl (by cases hf; exact x0_)
    · have hf := lh_ifF hf c24
      refine lh_aload_n (q := 0) rfl rfl rfl ?_
      refine lh_getR4 rfl rfl (hS.1 0 _ rfl) rfl (hS.2 12 _ rfl) ?_
      refine lh_sipush rfl lh_s_677 ?_
      refine lh_iload_n (q := 1) rfl rfl rfl ?_
      refine lh_iast5 (k := 677) rfl (hS.1 13 _ rfl) (by decide) (by decide) ?_
      refine lh_aload_n (q := 0) rfl rfl rfl ?_
      refine lh_getR4 rfl rfl (hS.1 0 _ rfl) rfl (hS.2 14 _ rfl) ?_
      refine lh_iload_n (q := 1) rfl rfl rfl ?_
      refine lh_aload_n (q := 0) rfl rfl rfl ?_
      refine lh_getR4 rfl rfl (hS.1 0 _ rfl) rfl (hS.2 14 _ rfl) ?_
      refine lh_bipush rfl lh_b_12 ?_
      refine lh_iload_n (q := 1) rfl rfl rfl ?_
      refine lh_iadd rfl ?_
      obtain ⟨g25, hf⟩ := lh_gdE hf
      refine lh_lald4 rfl (hS.1 15 _ rfl) g25 ?_
      refine lh_lconst (v := 0) rfl (by decide) ?_
      refine lh_lcmp rfl ?_
      refine lh_if_ne rfl (fun c26 => ?_) (fun c26 => ?_)
      · have hf := lh_ifF hf c26
        refine lh_aload_n (q := 0) rfl rfl rfl ?_
        refine lh_getR4 rfl rfl (hS.1 0 _ rfl) rfl (hS.2 14 _ rfl) ?_
        refine lh_bipush rfl lh_b_12 ?_
        refine lh_iload_n (q := 1) rfl rfl rfl ?_
        refine lh_iadd rfl ?_
        obtain ⟨g27, hf⟩ := lh_gdE hf
        refine lh_lald4 rfl (hS.1 15 _ rfl) g27 ?_
        refine lh_aload_n (q := 0) rfl rfl rfl ?_
        refine lh_sipush rfl lh_s_672 ?_
        refine lh_bdE hf (fun r28 e29 hf => ?_)
        refine lh_cVi (N := m_LM_seenNow) (d := 4) (o := 65) (As := [.int 672]) (st := [.long (L (80 + 4) (12 + v1).toNatClampNeg), .int v1, .ref (80 + 4)]) rfl rfl v_LM_seenNow (hS.1 0 _ rfl) rfl rfl rfl ⟨rfl, rfl⟩ rfl (t_LM_seenNow hG hS e29 ?_)
        refine lh_bdE hf (fun r30 e31 hf => ?_)
        refine lh_cSl (N := m_LM_joined) (d := 0) (As := [.long (L (80 + 4) (12 + v1).toNatClampNeg), .int r28.1]) (st := [.int v1, .ref (80 + 4)]) rfl rfl v_LM_joined rfl rfl ⟨rfl, rfl⟩ rfl (t_LM_joined hG hS e31 ?_)
        obtain ⟨g32, hf⟩ := lh_gdE hf
        refine lh_last4 rfl (hS.1 15 _ rfl) g32 ?_
        refine lh_iinc (q := 1) (v := (v1 + 1)) (lv' := [(0, .ref (65 + 4)), (1, .int (v1 + 1))]) rfl rfl (congrArg (v1 + ·) (by decide)) rfl rfl ?_
        refine lh_goto rfl ?_
        exact ih (v1 + 1) r28.2 (lh_v2 L (80 + 4) v1.toNatClampNeg r30) _ hf x0_
      · have hf := lh_ifT hf c26
        refine lh_lconst (v := 0) rfl (by decide) ?_
        refine lh_goto rfl ?_
        obtain ⟨g33, hf⟩ := lh_gdE hf
        refine lh_last4 rfl (hS.1 15 _ rfl) g33 ?_
        refine lh_iinc (q := 1) (v := (v1 + 1)) (lv' := [(0, .ref (65 + 4)), (1, .int (v1 + 1))]) rfl rfl (congrArg (v1 + ·) (by decide)) rfl rfl ?_
        refine lh_goto rfl ?_
        exact ih (v1 + 1) (lh_u2 I (78 + 4) 677 v1) (lh_v2 L (80 + 4) v1.toNatClampNeg 0) _ hf x0_
theorem t_LM_goesOn {Γ : lh_Cx} {I : lh_II} {L : lh_LL} {F : lh_FF} {S : lh_SS} {K : lh_Hp → Prop} {r : lh_II × lh_LL} (hG : lh_GX Γ) (hS : lh_laym F S)  (hf : f_LM_goesOn I L = some r) (hK : K (r.1, r.2, F, S)) : lh_Met Γ m_LM_goesOn 7 0 0 [.ref (65 + 4)] (I, L, F, S) (lh_kv K) := by
  rw [f_LM_goesOn] at hf
  refine lh_ofG k_LM_goesOn [(0, .ref (65 + 4))] rfl (Nat.le_of_ble_eq_true rfl) rfl ?_
  refine lh_iconst rfl lh_k_0 ?_
  refine lh_istore_n (lv' := [(0, .ref (65 + 4)), (1, .int 0)]) rfl rfl rfl rfl ?_
  refine lh_bdE hf (fun r3 e4 hf => ?_)
  refine t_LM_goesOn_2 hG hS  _ 0 L _ e4 ?_
  refine lh_iconst rfl lh_k_0 ?_
  refine lh_istore_n (lv' := [(0, .ref (65 + 4)), (1, .int 0)]) rfl rfl rfl rfl ?_
  refine lh_bdE hf (fun r21 e22 hf => ?_)
  refine t_LM_goesOn_16 hG hS  _ 0 I r3 _ e22 ?_
  refine lh_aload_n (q := 0) rfl rfl rfl ?_
  refine lh_getR4 rfl rfl (hS.1 0 _ rfl) rfl (hS.2 12 _ rfl) ?_
  refine lh_sipush rfl lh_s_674 ?_
  refine lh_aload_n (q := 0) rfl rfl rfl ?_
  refine lh_getR4 rfl rfl (hS.1 0 _ rfl) rfl (hS.2 12 _ rfl) ?_
  refine lh_sipush rfl lh_s_674 ?_
  refine lh_iald5 (k := 674) rfl (hS.1 13 _ rfl) (by decide) (by decide) ?_
  refine lh_iconst rfl lh_k_1 ?_
  refine lh_iadd rfl ?_
  refine lh_bipush rfl lh_b_8 ?_
  refine lh_irem rfl (by decide) ?_
  refine lh_iast5 (k := 674) rfl (hS.1 13 _ rfl) (by decide) (by decide) ?_
  refine lh_aload_n (q := 0) rfl rfl rfl ?_
  refine lh_getR4 rfl rfl (hS.1 0 _ rfl) rfl (hS.2 12 _ rfl) ?_
  refine lh_sipush rfl lh_s_676 ?_
  refine lh_dup2 rfl rfl rfl ?_
  refine lh_iald5 (k := 676) rfl (hS.1 13 _ rfl) (by decide) (by decide) ?_
  refine lh_aload_n (q := 0) rfl rfl rfl ?_
  refine lh_getR4 rfl rfl (hS.1 0 _ rfl) rfl (hS.2 12 _ rfl) ?_
  refine lh_sipush rfl lh_s_676 ?_
  refine lh_iald5 (k := 676) rfl (hS.1 13 _ rfl) (by decide) (by decide) ?_
  refine lh_if_le rfl (fun c23 => ?_) (fun c23 => ?_)
  · have hf := lh_ifT hf c23
    refine lh_iconst rfl lh_k_0 ?_
    refine lh_isub rfl ?_
    refine lh_iast5 (k := 676) rfl (hS.1 13 _ rfl) (by decide) (by decide) ?_
    refine lh_iconst rfl lh_k_0 ?_
    refine lh_istore_n (lv' := [(0, .ref (65 + 4)), (1, .int 0)]) rfl rfl rfl rfl ?_
    refine lh_bdE hf (fun r34 e35 hf => ?_)
    refine t_LM_goesOn_91 hG hS  _ 0 (lh_u2 (lh_u2 r21.1 (78 + 4) 674 (((r21.1 (78 + 4) 674) + 1) - ((r21.1 (78 + 4) 674) + 1) / 8 * 8)) (78 + 4) 676 (((lh_u2 r21.1 (78 + 4) 674 (((r21.1 (78 + 4) 674) + 1) - ((r21.1 (78 + 4) 674) + 1) / 8 * 8)) (78 + 4) 676) - 0)) r21.2 _ e35 ?_
    exact lh_vret rfl rfl (by obtain rfl := Option.some.inj hf; exact hK)
  · have hf := lh_ifF hf c23
    refine lh_iconst rfl lh_k_1 ?_
    refine lh_goto rfl ?_
    refine lh_isub rfl ?_
    refine lh_iast5 (k := 676) rfl (hS.1 13 _ rfl) (by decide) (by decide) ?_
    refine lh_iconst rfl lh_k_0 ?_
    refine lh_istore_n (lv' := [(0, .ref (65 + 4)), (1, .int 0)]) rfl rfl rfl rfl ?_
    refine lh_bdE hf (fun r36 e37 hf => ?_)
    refine t_LM_goesOn_91 hG hS  _ 0 (lh_u2 (lh_u2 r21.1 (78 + 4) 674 (((r21.1 (78 + 4) 674) + 1) - ((r21.1 (78 + 4) 674) + 1) / 8 * 8)) (78 + 4) 676 (((lh_u2 r21.1 (78 + 4) 674 (((r21.1 (78 + 4) 674) + 1) - ((r21.1 (78 + 4) 674) + 1) / 8 * 8)) (78 + 4) 676) - 1)) r21.2 _ e37 ?_
    exact lh_vret rfl rfl (by obtain rfl := Option.some.inj hf; exact hK)
def f_LM_standsAsAlways_2 (v1 : Int32) : Nat → Int32 → lh_II → Option (lh_II)
  | 0, _, _ => none
  | n + 1, v2, I => if 100 ≤ v2 then some I else lh_gd (lh_ix (v1 + v2) 200) (f_LM_standsAsAlways_2 v1 n (v2 + 1) (lh_u2 I (71 + 4) (v1 + v2).toNatClampNeg 0))
def f_LM_standsAsAlways (x1 : Int32) (I : lh_II) : Option (lh_II) := lh_bd (f_LM_standsAsAlways_2 x1 lh_fuel 0 I) fun r3 => lh_gd (lh_ix (x1 + 0) 200) (lh_gd (lh_ix (x1 + 3) 200) (lh_gd (lh_ix (x1 + 4) 200) (lh_gd (lh_ix (x1 + 8) 200) (some (lh_u2 (lh_u2 (lh_u2 (lh_u2 r3 (71 + 4) (x1 + 0).toNatClampNeg 8) (71 + 4) (x1 + 3).toNatClampNeg 2) (71 + 4) (x1 + 4).toNatClampNeg 30) (71 + 4) (x1 + 8).toNatClampNeg (-1))))))
theorem t_LM_standsAsAlways_2 {Γ : lh_Cx} {F : lh_FF} {S : lh_SS} {Z : List Frame → Array Value → State → State → Prop} (hG : lh_GX Γ) (hS : lh_laym F S)  {v1 : Int32} {L : lh_LL} : ∀ (n : Nat) (v2 : Int32) (I : lh_II) (o : lh_II), f_LM_standsAsAlways_2 v1 n v2 I = some o → ∀ (x0_ : lh_G Γ m_LM_standsAsAlways (lh_R 0 0 0) Z 0 0 14 [(0, .ref (65 + 4)), (1, .int v1)] [] (o, L, F, S)), lh_G Γ m_LM_standsAsAlways (lh_R 0 0 0) Z 0 0 2 [(0, .ref (65 + 4)), (1, .int v1), (2, .int v2)] [] (I, L, F, S) := by
  intro n
  induction n with
  | zero => intro v2 I o hf; cases hf
  | succ n ih =>
    intro v2 I o hf x0_
    rw [f_LM_standsAsAlways_2] at hf
    refine lh_iload_n (q := 2) rfl rfl rfl ?_
    refine lh_bipush rfl lh_b_100 ?_
    refine lh_icmp_ge rfl (fun c1 => ?_) (fun c1 => ?_)
    · have hf := lh_ifT hf c1
      exact lh_less [0, 1] rfl (by cases hf; exact x0_)
    · have hf := lh_ifF hf c1
      refine lh_aload_n (q := 0) rfl rfl rfl ?_
      refine lh_getR4 rfl rfl (hS.1 0 _ rfl) rfl (hS.2 5 _ rfl) ?_
      refine lh_iload_n (q := 1) rfl rfl rfl ?_
      refine lh_iload_n (q := 2) rfl rfl rfl ?_
      refine lh_iadd rfl ?_
      refine lh_iconst rfl lh_k_0 ?_
      obtain ⟨g2, hf⟩ := lh_gdE hf
      refine lh_iast4 rfl (hS.1 6 _ rfl) g2 ?_
      refine lh_iinc (q := 2) (v := (v2 + 1)) (lv' := [(0, .ref (65 + 4)), (1, .int v1), (2, .int (v2 + 1))]) rfl rfl (congrArg (v2 + ·) (by decide)) rfl rfl ?_
      refine lh_goto rfl ?_
      exact ih (v2 + 1) (lh_u2 I (71 + 4) (v1 + v2).toNatClampNeg 0) _ hf x0_
theorem t_LM_standsAsAlways {Γ : lh_Cx} {I : lh_II} {L : lh_LL} {F : lh_FF} {S : lh_SS} {K : lh_Hp → Prop} {r : lh_II} (hG : lh_GX Γ) (hS : lh_laym F S)  {x1 : Int32} (hf : f_LM_standsAsAlways x1 I = some r) (hK : K (r, L, F, S)) : lh_Met Γ m_LM_standsAsAlways 0 0 0 [.ref (65 + 4), .int x1] (I, L, F, S) (lh_kv K) := by
  rw [f_LM_standsAsAlways] at hf
  refine lh_ofG k_LM_standsAsAlways [(0, .ref (65 + 4)), (1, .int x1)] rfl (Nat.le_of_ble_eq_true rfl) rfl ?_
  refine lh_iconst rfl lh_k_0 ?_
  refine lh_istore_n (lv' := [(0, .ref (65 + 4)), (1, .int x1), (2, .int 0)]) rfl rfl rfl rfl ?_
  refine lh_bdE hf (fun r3 e4 hf => ?_)
  refine t_LM_standsAsAlways_2 hG hS  _ 0 I _ e4 ?_
  refine lh_aload_n (q := 0) rfl rfl rfl ?_
  refine lh_getR4 rfl rfl (hS.1 0 _ rfl) rfl (hS.2 5 _ rfl) ?_
  refine lh_iload_n (q := 1) rfl rfl rfl ?_
  refine lh_iconst rfl lh_k_0 ?_
  refine lh_iadd rfl ?_
  refine lh_bipush rfl lh_b_8 ?_
  obtain ⟨g5, hf⟩ := lh_gdE hf
  refine lh_iast4 rfl (hS.1 6 _ rfl) g5 ?_
  refine lh_aload_n (q := 0) rfl rfl rfl ?_
  refine lh_getR4 rfl rfl (hS.1 0 _ rfl) rfl (hS.2 5 _ rfl) ?_
  refine lh_iload_n (q := 1) rfl rfl rfl ?_
  refine lh_iconst rfl lh_k_3 ?_
  refine lh_iadd rfl ?_
  refine lh_iconst rfl lh_k_2 ?_
  obtain ⟨g6, hf⟩ := lh_gdE hf
  refine lh_iast4 rfl (hS.1 6 _ rfl) g6 ?_
  refine lh_aload_n (q := 0) rfl rfl rfl ?_
  refine lh_getR4 rfl rfl (hS.1 0 _ rfl) rfl (hS.2 5 _ rfl) ?_
  refine lh_iload_n (q := 1) rfl rfl rfl ?_
  refine lh_iconst rfl lh_k_4 ?_
  refine lh_iadd rfl ?_
  refine lh_bipush rfl lh_b_30 ?_
  obtain ⟨g7, hf⟩ := lh_gdE hf
  refine lh_iast4 rfl (hS.1 6 _ rfl) g7 ?_
  refine lh_aload_n (q := 0) rfl rfl rfl ?_
  refine lh_getR4 rfl rfl (hS.1 0 _ rfl) rfl (hS.2 5 _ rfl) ?_
  refine lh_iload_n (q := 1) rfl rfl rfl ?_
  refine lh_bipush rfl lh_b_8 ?_
  refine lh_iadd rfl ?_
  refine lh_iconst rfl lh_k_m1 ?_
  obtain ⟨g8, hf⟩ := lh_gdE hf
  refine lh_iast4 rfl (hS.1 6 _ rfl) g8 ?_
  exact lh_vret rfl rfl (by obtain rfl := Option.some.inj hf; exact hK)
def f_LM_isWord (x1 : Int32) (I : lh_II) (L : lh_LL) : Option (Int32) := if (I (65 + 4) 8) = 0 then lh_gd (lh_ix (I (65 + 4) 7) 1002) (if (I (67 + 4) (I (65 + 4) 7).toNatClampNeg) = 1 then lh_gd (lh_ix (I (65 + 4) 7) 1002) (lh_gd (lh_ix x1 27) (if (lg_cmp (L (69 + 4) (I (65 + 4) 7).toNatClampNeg) (L (70 + 4) x1.toNatClampNeg)) = 0 then some 1 else some 0)) else some 0) else some 0
theorem t_LM_isWord {Γ : lh_Cx} {I : lh_II} {L : lh_LL} {F : lh_FF} {S : lh_SS} {K : Int32 → lh_Hp → Prop} {r : Int32} (hG : lh_GX Γ) (hS : lh_laym F S)  {x1 : Int32} (hf : f_LM_isWord x1 I L = some r) (hK : K r (I, L, F, S)) : lh_Met Γ m_LM_isWord 0 0 0 [.ref (65 + 4), .int x1] (I, L, F, S) (lh_ki K) := by
  rw [f_LM_isWord] at hf
  refine lh_ofG k_LM_isWord [(0, .ref (65 + 4)), (1, .int x1)] rfl (Nat.le_of_ble_eq_true rfl) rfl ?_
  refine lh_aload_n (q := 0) rfl rfl rfl ?_
  refine lh_getI4 rfl rfl (hS.1 0 _ rfl) rfl ?_
  refine lh_if_ne rfl (fun c1 => ?_) (fun c1 => ?_)
  · have hf := lh_ifF hf c1
    refine lh_iconst rfl lh_k_0 ?_
    exact lh_iret rfl rfl (by decide) (by obtain rfl := Option.some.inj hf; exact hK)
  · have hf := lh_ifT hf c1
    refine lh_aload_n (q := 0) rfl rfl rfl ?_
    refine lh_getR4 rfl rfl (hS.1 0 _ rfl) rfl (hS.2 1 _ rfl) ?_
    refine lh_aload_n (q := 0) rfl rfl rfl ?_
    refine lh_getI4 rfl rfl (hS.1 0 _ rfl) rfl ?_
    obtain ⟨g2, hf⟩ := lh_gdE hf
    refine lh_iald4 rfl (hS.1 2 _ rfl) g2 ?_
    refine lh_iconst rfl lh_k_1 ?_
    refine lh_icmp_ne rfl (fun c3 => ?_) (fun c3 => ?_)
    · have hf := lh_ifF hf c3
      refine lh_iconst rfl lh_k_0 ?_
      exact lh_iret rfl rfl (by decide) (by obtain rfl := Option.some.inj hf; exact hK)
    · have hf := lh_ifT hf c3
      refine lh_aload_n (q := 0) rfl rfl rfl ?_
      refine lh_getR4 rfl rfl (hS.1 0 _ rfl) rfl (hS.2 3 _ rfl) ?_
      refine lh_aload_n (q := 0) rfl rfl rfl ?_
      refine lh_getI4 rfl rfl (hS.1 0 _ rfl) rfl ?_
      obtain ⟨g4, hf⟩ := lh_gdE hf
      refine lh_lald4 rfl (hS.1 4 _ rfl) g4 ?_
      refine lh_aload_n (q := 0) rfl rfl rfl ?_
      refine lh_getR4 rfl rfl (hS.1 0 _ rfl) rfl (hS.2 4 _ rfl) ?_
      refine lh_iload_n (q := 1) rfl rfl rfl ?_
      obtain ⟨g5, hf⟩ := lh_gdE hf
      refine lh_lald4 rfl (hS.1 5 _ rfl) g5 ?_
      refine lh_lcmp rfl ?_
      refine lh_if_ne rfl (fun c6 => ?_) (fun c6 => ?_)
      · have hf := lh_ifF hf c6
        refine lh_iconst rfl lh_k_0 ?_
        exact lh_iret rfl rfl (by decide) (by obtain rfl := Option.some.inj hf; exact hK)
      · have hf := lh_ifT hf c6
        refine lh_iconst rfl lh_k_1 ?_
        refine lh_goto rfl ?_
        exact lh_iret rfl rfl (by decide) (by obtain rfl := Option.some.inj hf; exact hK)
def f_LM_wrong (x1 : Int32) (I : lh_II) : Option (lh_II) := if (I (65 + 4) 8) = 0 then lh_gd (lh_ix (I (65 + 4) 7) 1002) (some (lh_u2 I (65 + 4) 8 (x1 + (16 * (I (68 + 4) (I (65 + 4) 7).toNatClampNeg))))) else some I
theorem t_LM_wrong {Γ : lh_Cx} {I : lh_II} {L : lh_LL} {F : lh_FF} {S : lh_SS} {K : lh_Hp → Prop} {r : lh_II} (hG : lh_GX Γ) (hS : lh_laym F S)  {x1 : Int32} (hf : f_LM_wrong x1 I = some r) (hK : K (r, L, F, S)) : lh_Met Γ m_LM_wrong 0 0 0 [.ref (65 + 4), .int x1] (I, L, F, S) (lh_kv K) := by
  rw [f_LM_wrong] at hf
  refine lh_ofG k_LM_wrong [(0, .ref (65 + 4)), (1, .int x1)] rfl (Nat.le_of_ble_eq_true rfl) rfl ?_
  refine lh_aload_n (q := 0) rfl rfl rfl ?_
  refine lh_getI4 rfl rfl (hS.1 0 _ rfl) rfl ?_
  refine lh_if_ne rfl (fun c1 => ?_) (fun c1 => ?_)
  · have hf := lh_ifF hf c1
    exact lh_vret rfl rfl (by obtain rfl := Option.some.inj hf; exact hK)
  · have hf := lh_ifT hf c1
    refine lh_aload_n (q := 0) rfl rfl rfl ?_
    refine lh_iload_n (q := 1) rfl rfl rfl ?_
    refine lh_bipush rfl lh_b_16 ?_
    refine lh_aload_n (q := 0) rfl rfl rfl ?_
    refine lh_getR4 rfl rfl (hS.1 0 _ rfl) rfl (hS.2 2 _ rfl) ?_
    refine lh_aload_n (q := 0) rfl rfl rfl ?_
    refine lh_getI4 rfl rfl (hS.1 0 _ rfl) rfl ?_
    obtain ⟨g2, hf⟩ := lh_gdE hf
    refine lh_iald4 rfl (hS.1 3 _ rfl) g2 ?_
    refine lh_imul rfl ?_
    refine lh_iadd rfl ?_
    refine lh_putI4 rfl rfl (hS.1 0 _ rfl) rfl rfl ?_
    exact lh_vret rfl rfl (by obtain rfl := Option.some.inj hf; exact hK)
def f_LM_takeNumber (x1 : Int32) (x2 : Int32) (I : lh_II) (L : lh_LL) : Option (Int32 × lh_II) := if (I (65 + 4) 8) = 0 then lh_gd (lh_ix (I (65 + 4) 7) 1002) (if (I (67 + 4) (I (65 + 4) 7).toNatClampNeg) = 2 then lh_gd (lh_ix (I (65 + 4) 7) 1002) (if (lg_cmp (L (69 + 4) (I (65 + 4) 7).toNatClampNeg) x1.toInt64) < 0 then lh_bd (f_LM_wrong (4 : Int32) I) fun r8 => if (r8 (65 + 4) 8) ≤ 0 then lh_gd (lh_ix (((lh_u2 r8 (65 + 4) 7 ((r8 (65 + 4) 7) + 1)) (65 + 4) 7) - 1) 1002) (some ((L (69 + 4) (((lh_u2 r8 (65 + 4) 7 ((r8 (65 + 4) 7) + 1)) (65 + 4) 7) - 1).toNatClampNeg).toInt32, lh_u2 r8 (65 + 4) 7 ((r8 (65 + 4) 7) + 1))) else some (0, r8) else lh_gd (lh_ix (I (65 + 4) 7) 1002) (if (lg_cmp (L (69 + 4) (I (65 + 4) 7).toNatClampNeg) x2.toInt64) ≤ 0 then if (I (65 + 4) 8) ≤ 0 then lh_gd (lh_ix (((lh_u2 I (65 + 4) 7 ((I (65 + 4) 7) + 1)) (65 + 4) 7) - 1) 1002) (some ((L (69 + 4) (((lh_u2 I (65 + 4) 7 ((I (65 + 4) 7) + 1)) (65 + 4) 7) - 1).toNatClampNeg).toInt32, lh_u2 I (65 + 4) 7 ((I (65 + 4) 7) + 1))) else some (0, I) else lh_bd (f_LM_wrong (4 : Int32) I) fun r16 => if (r16 (65 + 4) 8) ≤ 0 then lh_gd (lh_ix (((lh_u2 r16 (65 + 4) 7 ((r16 (65 + 4) 7) + 1)) (65 + 4) 7) - 1) 1002) (some ((L (69 + 4) (((lh_u2 r16 (65 + 4) 7 ((r16 (65 + 4) 7) + 1)) (65 + 4) 7) - 1).toNatClampNeg).toInt32, lh_u2 r16 (65 + 4) 7 ((r16 (65 + 4) 7) + 1))) else some (0, r16))) else lh_bd (f_LM_wrong (1 : Int32) I) fun r20 => if (r20 (65 + 4) 8) ≤ 0 then lh_gd (lh_ix (((lh_u2 r20 (65 + 4) 7 ((r20 (65 + 4) 7) + 1)) (65 + 4) 7) - 1) 1002) (some ((L (69 + 4) (((lh_u2 r20 (65 + 4) 7 ((r20 (65 + 4) 7) + 1)) (65 + 4) 7) - 1).toNatClampNeg).toInt32, lh_u2 r20 (65 + 4) 7 ((r20 (65 + 4) 7) + 1))) else some (0, r20)) else if (I (65 + 4) 8) ≤ 0 then lh_gd (lh_ix (((lh_u2 I (65 + 4) 7 ((I (65 + 4) 7) + 1)) (65 + 4) 7) - 1) 1002) (some ((L (69 + 4) (((lh_u2 I (65 + 4) 7 ((I (65 + 4) 7) + 1)) (65 + 4) 7) - 1).toNatClampNeg).toInt32, lh_u2 I (65 + 4) 7 ((I (65 + 4) 7) + 1))) else some (0, I)
theorem t_LM_takeNumber {Γ : lh_Cx} {I : lh_II} {L : lh_LL} {F : lh_FF} {S : lh_SS} {K : Int32 → lh_Hp → Prop} {r : Int32 × lh_II} (hG : lh_GX Γ) (hS : lh_laym F S)  {x1 : Int32} {x2 : Int32} (hf : f_LM_takeNumber x1 x2 I L = some r) (hK : K r.1 (r.2, L, F, S)) : lh_Met Γ m_LM_takeNumber 1 0 0 [.ref (65 + 4), .int x1, .int x2] (I, L, F, S) (lh_ki K) := by
  rw [f_LM_takeNumber] at hf
  refine lh_ofG k_LM_takeNumber [(0, .ref (65 + 4)), (1, .int x1), (2, .int x2)] rfl (Nat.le_of_ble_eq_true rfl) rfl ?_
  refine lh_aload_n (q := 0) rfl rfl rfl ?_
  refine lh_getI4 rfl rfl (hS.1 0 _ rfl) rfl ?_
  refine lh_if_ne rfl (fun c1 => ?_) (fun c1 => ?_)
  · have hf := lh_ifF hf c1
    refine lh_aload_n (q := 0) rfl rfl rfl ?_
    refine lh_getI4 rfl rfl (hS.1 0 _ rfl) rfl ?_
    refine lh_if_ne rfl (fun _ => ?_) (fun c => absurd c c1)
    refine lh_aload_n (q := 0) rfl rfl rfl ?_
    refine lh_getI4 rfl rfl (hS.1 0 _ rfl) rfl ?_
    refine lh_if_le rfl (fun c2 => ?_) (fun c2 => ?_)
    · have hf := lh_ifT hf c2
      refine lh_aload_n (q := 0) rfl rfl rfl ?_
      refine lh_dup rfl rfl ?_
      refine lh_getI4 rfl rfl (hS.1 0 _ rfl) rfl ?_
      refine lh_iconst rfl lh_k_1 ?_
      refine lh_iadd rfl ?_
      refine lh_putI4 rfl rfl (hS.1 0 _ rfl) rfl rfl ?_
      refine lh_aload_n (q := 0) rfl rfl rfl ?_
      refine lh_getR4 rfl rfl (hS.1 0 _ rfl) rfl (hS.2 3 _ rfl) ?_
      refine lh_aload_n (q := 0) rfl rfl rfl ?_
      refine lh_getI4 rfl rfl (hS.1 0 _ rfl) rfl ?_
      refine lh_iconst rfl lh_k_1 ?_
      refine lh_isub rfl ?_
      obtain ⟨g3, hf⟩ := lh_gdE hf
      refine lh_lald4 rfl (hS.1 4 _ rfl) g3 ?_
      refine lh_l2i rfl ?_
      exact lh_iret rfl rfl rfl (by obtain rfl := Option.some.inj hf; exact hK)
    · have hf := lh_ifF hf c2
      refine lh_iconst rfl lh_k_0 ?_
      exact lh_iret rfl rfl rfl (by obtain rfl := Option.some.inj hf; exact hK)
  · have hf := lh_ifT hf c1
    refine lh_aload_n (q := 0) rfl rfl rfl ?_
    refine lh_getR4 rfl rfl (hS.1 0 _ rfl) rfl (hS.2 1 _ rfl) ?_
    refine lh_aload_n (q := 0) rfl rfl rfl ?_
    refine lh_getI4 rfl rfl (hS.1 0 _ rfl) rfl ?_
    obtain ⟨g4, hf⟩ := lh_gdE hf
    refine lh_iald4 rfl (hS.1 2 _ rfl) g4 ?_
    refine lh_iconst rfl lh_k_2 ?_
    refine lh_icmp_eq rfl (fun c5 => ?_) (fun c5 => ?_)
    · have hf := lh_ifT hf c5
      refine lh_aload_n (q := 0) rfl rfl rfl ?_
      refine lh_getI4 rfl rfl (hS.1 0 _ rfl) rfl ?_
      refine lh_if_ne rfl (fun c => absurd c1 c) (fun _ => ?_)
      refine lh_aload_n (q := 0) rfl rfl rfl ?_
      refine lh_getR4 rfl rfl (hS.1 0 _ rfl) rfl (hS.2 3 _ rfl) ?_
      refine lh_aload_n (q := 0) rfl rfl rfl ?_
      refine lh_getI4 rfl rfl (hS.1 0 _ rfl) rfl ?_
      obtain ⟨g6, hf⟩ := lh_gdE hf
      refine lh_lald4 rfl (hS.1 4 _ rfl) g6 ?_
      refine lh_iload_n (q := 1) rfl rfl rfl ?_
      refine lh_i2l rfl ?_
      refine lh_lcmp rfl ?_
      refine lh_if_lt rfl (fun c7 => ?_) (fun c7 => ?_)
      · have hf := lh_ifT hf c7
        refine lh_aload_n (q := 0) rfl rfl rfl ?_
        refine lh_iconst rfl lh_k_4 ?_
        refine lh_bdE hf (fun r8 e9 hf => ?_)
        refine lh_cVv (N := m_LM_wrong) (d := 0) (o := 65) (As := [.int 4]) (st := []) rfl rfl v_LM_wrong (hS.1 0 _ rfl) rfl rfl rfl ⟨rfl, rfl⟩ rfl (t_LM_wrong hG hS e9 ?_)
        refine lh_aload_n (q := 0) rfl rfl rfl ?_
        refine lh_getI4 rfl rfl (hS.1 0 _ rfl) rfl ?_
        refine lh_if_le rfl (fun c10 => ?_) (fun c10 => ?_)
        · have hf := lh_ifT hf c10
          refine lh_aload_n (q := 0) rfl rfl rfl ?_
          refine lh_dup rfl rfl ?_
          refine lh_getI4 rfl rfl (hS.1 0 _ rfl) rfl ?_
          refine lh_iconst rfl lh_k_1 ?_
          refine lh_iadd rfl ?_
          refine lh_putI4 rfl rfl (hS.1 0 _ rfl) rfl rfl ?_
          refine lh_aload_n (q := 0) rfl rfl rfl ?_
          refine lh_getR4 rfl rfl (hS.1 0 _ rfl) rfl (hS.2 3 _ rfl) ?_
          refine lh_aload_n (q := 0) rfl rfl rfl ?_
          refine lh_getI4 rfl rfl (hS.1 0 _ rfl) rfl ?_
          refine lh_iconst rfl lh_k_1 ?_
          refine lh_isub rfl ?_
          obtain ⟨g11, hf⟩ := lh_gdE hf
          refine lh_lald4 rfl (hS.1 4 _ rfl) g11 ?_
          refine lh_l2i rfl ?_
          exact lh_iret rfl rfl rfl (by obtain rfl := Option.some.inj hf; exact hK)
        · have hf := lh_ifF hf c10
          refine lh_iconst rfl lh_k_0 ?_
          exact lh_iret rfl rfl rfl (by obtain rfl := Option.some.inj hf; exact hK)
      · have hf := lh_ifF hf c7
        refine lh_aload_n (q := 0) rfl rfl rfl ?_
        refine lh_getR4 rfl rfl (hS.1 0 _ rfl) rfl (hS.2 3 _ rfl) ?_
        refine lh_aload_n (q := 0) rfl rfl rfl ?_
        refine lh_getI4 rfl rfl (hS.1 0 _ rfl) rfl ?_
        obtain ⟨g12, hf⟩ := lh_gdE hf
        refine lh_lald4 rfl (hS.1 4 _ rfl) g12 ?_
        refine lh_iload_n (q := 2) rfl rfl rfl ?_
        refine lh_i2l rfl ?_
        refine lh_lcmp rfl ?_
        refine lh_if_le rfl (fun c13 => ?_) (fun c13 => ?_)
        · have hf := lh_ifT hf c13
          refine lh_aload_n (q := 0) rfl rfl rfl ?_
          refine lh_getI4 rfl rfl (hS.1 0 _ rfl) rfl ?_
          refine lh_if_le rfl (fun c14 => ?_) (fun c14 => ?_)
          · have hf := lh_ifT hf c14
            refine lh_aload_n (q := 0) rfl rfl rfl ?_
            refine lh_dup rfl rfl ?_
            refine lh_getI4 rfl rfl (hS.1 0 _ rfl) rfl ?_
            refine lh_iconst rfl lh_k_1 ?_
            refine lh_iadd rfl ?_
            refine lh_putI4 rfl rfl (hS.1 0 _ rfl) rfl rfl ?_
            refine lh_aload_n (q := 0) rfl rfl rfl ?_
            refine lh_getR4 rfl rfl (hS.1 0 _ rfl) rfl (hS.2 3 _ rfl) ?_
            refine lh_aload_n (q := 0) rfl rfl rfl ?_
            refine lh_getI4 rfl rfl (hS.1 0 _ rfl) rfl ?_
            refine lh_iconst rfl lh_k_1 ?_
            refine lh_isub rfl ?_
            obtain ⟨g15, hf⟩ := lh_gdE hf
            refine lh_lald4 rfl (hS.1 4 _ rfl) g15 ?_
            refine lh_l2i rfl ?_
            exact lh_iret rfl rfl rfl (by obtain rfl := Option.some.inj hf; exact hK)
          · have hf := lh_ifF hf c14
            refine lh_iconst rfl lh_k_0 ?_
            exact lh_iret rfl rfl rfl (by obtain rfl := Option.some.inj hf; exact hK)
        · have hf := lh_ifF hf c13
          refine lh_aload_n (q := 0) rfl rfl rfl ?_
          refine lh_iconst rfl lh_k_4 ?_
          refine lh_bdE hf (fun r16 e17 hf => ?_)
          refine lh_cVv (N := m_LM_wrong) (d := 0) (o := 65) (As := [.int 4]) (st := []) rfl rfl v_LM_wrong (hS.1 0 _ rfl) rfl rfl rfl ⟨rfl, rfl⟩ rfl (t_LM_wrong hG hS e17 ?_)
          refine lh_aload_n (q := 0) rfl rfl rfl ?_
          refine lh_getI4 rfl rfl (hS.1 0 _ rfl) rfl ?_
          refine lh_if_le rfl (fun c18 => ?_) (fun c18 => ?_)
          · have hf := lh_ifT hf c18
            refine lh_aload_n (q := 0) rfl rfl rfl ?_
            refine lh_dup rfl rfl ?_
            refine lh_getI4 rfl rfl (hS.1 0 _ rfl) rfl ?_
            refine lh_iconst rfl lh_k_1 ?_
            refine lh_iadd rfl ?_
            refine lh_putI4 rfl rfl (hS.1 0 _ rfl) rfl rfl ?_
            refine lh_aload_n (q := 0) rfl rfl rfl ?_
            refine lh_getR4 rfl rfl (hS.1 0 _ rfl) rfl (hS.2 3 _ rfl) ?_
            refine lh_aload_n (q := 0) rfl rfl rfl ?_
            refine lh_getI4 rfl rfl (hS.1 0 _ rfl) rfl ?_
            refine lh_iconst rfl lh_k_1 ?_
            refine lh_isub rfl ?_
            obtain ⟨g19, hf⟩ := lh_gdE hf
            refine lh_lald4 rfl (hS.1 4 _ rfl) g19 ?_
            refine lh_l2i rfl ?_
            exact lh_iret rfl rfl rfl (by obtain rfl := Option.some.inj hf; exact hK)
          · have hf := lh_ifF hf c18
            refine lh_iconst rfl lh_k_0 ?_
            exact lh_iret rfl rfl rfl (by obtain rfl := Option.some.inj hf; exact hK)
    · have hf := lh_ifF hf c5
      refine lh_aload_n (q := 0) rfl rfl rfl ?_
      refine lh_iconst rfl lh_k_1 ?_
      refine lh_bdE hf (fun r20 e21 hf => ?_)
      refine lh_cVv (N := m_LM_wrong) (d := 0) (o := 65) (As := [.int 1]) (st := []) rfl rfl v_LM_wrong (hS.1 0 _ rfl) rfl rfl rfl ⟨rfl, rfl⟩ rfl (t_LM_wrong hG hS e21 ?_)
      refine lh_goto rfl ?_
      refine lh_aload_n (q := 0) rfl rfl rfl ?_
      refine lh_getI4 rfl rfl (hS.1 0 _ rfl) rfl ?_
      refine lh_if_le rfl (fun c22 => ?_) (fun c22 => ?_)
      · have hf := lh_ifT hf c22
        refine lh_aload_n (q := 0) rfl rfl rfl ?_
        refine lh_dup rfl rfl ?_
        refine lh_getI4 rfl rfl (hS.1 0 _ rfl) rfl ?_
        refine lh_iconst rfl lh_k_1 ?_
        refine lh_iadd rfl ?_
        refine lh_putI4 rfl rfl (hS.1 0 _ rfl) rfl rfl ?_
        refine lh_aload_n (q := 0) rfl rfl rfl ?_
        refine lh_getR4 rfl rfl (hS.1 0 _ rfl) rfl (hS.2 3 _ rfl) ?_
        refine lh_aload_n (q := 0) rfl rfl rfl ?_
        refine lh_getI4 rfl rfl (hS.1 0 _ rfl) rfl ?_
        refine lh_iconst rfl lh_k_1 ?_
        refine lh_isub rfl ?_
        obtain ⟨g23, hf⟩ := lh_gdE hf
        refine lh_lald4 rfl (hS.1 4 _ rfl) g23 ?_
        refine lh_l2i rfl ?_
        exact lh_iret rfl rfl rfl (by obtain rfl := Option.some.inj hf; exact hK)
      · have hf := lh_ifF hf c22
        refine lh_iconst rfl lh_k_0 ?_
        exact lh_iret rfl rfl rfl (by obtain rfl := Option.some.inj hf; exact hK)
def f_LM_wordHere_4 (v1 : Int32) (v2 : Int32) (I : lh_II) (L : lh_LL) : Nat → Int32 → Int32 → Option (Int32)
  | 0, _, _ => none
  | n + 1, v3, v4 => if v2 ≤ v4 then some v3 else lh_bd (f_LM_isWord (v1 + v4) I L) fun r2 => if r2 = 0 then f_LM_wordHere_4 v1 v2 I L n v3 (v4 + 1) else f_LM_wordHere_4 v1 v2 I L n v4 (v4 + 1)
def f_LM_wordHere (x1 : Int32) (x2 : Int32) (I : lh_II) (L : lh_LL) : Option (Int32) := lh_bd (f_LM_wordHere_4 x1 x2 I L lh_fuel (-1) 0) fun r5 => some r5
theorem t_LM_wordHere_4 {Γ : lh_Cx} {F : lh_FF} {S : lh_SS} {Z : List Frame → Array Value → State → State → Prop} (hG : lh_GX Γ) (hS : lh_laym F S)  {v1 : Int32} {v2 : Int32} {I : lh_II} {L : lh_LL} : ∀ (n : Nat) (v3 : Int32) (v4 : Int32) (o : Int32), f_LM_wordHere_4 v1 v2 I L n v3 v4 = some o → ∀ (x0_ : lh_G Γ m_LM_wordHere (lh_R 1 0 0) Z 0 0 19 [(3, .int o)] [] (I, L, F, S)), lh_G Γ m_LM_wordHere (lh_R 1 0 0) Z 0 0 4 [(0, .ref (65 + 4)), (1, .int v1), (2, .int v2), (3, .int v3), (4, .int v4)] [] (I, L, F, S) := by
  intro n
  induction n with
  | zero => intro v3 v4 o hf; cases hf
  | succ n ih =>
    intro v3 v4 o hf x0_
    rw [f_LM_wordHere_4] at hf
    refine lh_iload (q := 4) rfl rfl ?_
    refine lh_iload_n (q := 2) rfl rfl rfl ?_
    refine lh_icmp_ge rfl (fun c1 => ?_) (fun c1 => ?_)
    · have hf := lh_ifT hf c1
      exact lh_less [3] rfl (by cases hf; exact x0_)
    · have hf := lh_ifF hf c1
      refine lh_aload_n (q := 0) rfl rfl rfl ?_
      refine lh_iload_n (q := 1) rfl rfl rfl ?_
      refine lh_iload (q := 4) rfl rfl ?_
      refine lh_iadd rfl ?_
      refine lh_bdE hf (fun r2 e3 hf => ?_)
      refine lh_cVi (N := m_LM_isWord) (d := 0) (o := 65) (As := [.int (v1 + v4)]) (st := []) rfl rfl v_LM_isWord (hS.1 0 _ rfl) rfl rfl rfl ⟨rfl, rfl⟩ rfl (t_LM_isWord hG hS e3 ?_)
      refine lh_if_eq rfl (fun c4 => ?_) (fun c4 => ?_)
      · have hf := lh_ifT hf c4
        refine lh_iload_n (q := 3) rfl rfl rfl ?_
        refine lh_istore_n (lv' := [(0, .ref (65 + 4)), (1, .int v1), (2, .int v2), (3, .int v3), (4, .int v4)]) rfl rfl rfl rfl ?_
        refine lh_iinc (q := 4) (v := (v4 + 1)) (lv' := [(0, .ref (65 + 4)), (1, .int v1), (2, .int v2), (3, .int v3), (4, .int (v4 + 1))]) rfl rfl (congrArg (v4 + ·) (by decide)) rfl rfl ?_
        refine lh_goto rfl ?_
        exact ih v3 (v4 + 1) _ hf x0_
      · have hf := lh_ifF hf c4
        refine lh_iload (q := 4) rfl rfl ?_
        refine lh_goto rfl ?_
        refine lh_istore_n (lv' := [(0, .ref (65 + 4)), (1, .int v1), (2, .int v2), (3, .int v4), (4, .int v4)]) rfl rfl rfl rfl ?_
        refine lh_iinc (q := 4) (v := (v4 + 1)) (lv' := [(0, .ref (65 + 4)), (1, .int v1), (2, .int v2), (3, .int v4), (4, .int (v4 + 1))]) rfl rfl (congrArg (v4 + ·) (by decide)) rfl rfl ?_
        refine lh_goto rfl ?_
        exact ih v4 (v4 + 1) _ hf x0_
theorem t_LM_wordHere {Γ : lh_Cx} {I : lh_II} {L : lh_LL} {F : lh_FF} {S : lh_SS} {K : Int32 → lh_Hp → Prop} {r : Int32} (hG : lh_GX Γ) (hS : lh_laym F S)  {x1 : Int32} {x2 : Int32} (hf : f_LM_wordHere x1 x2 I L = some r) (hK : K r (I, L, F, S)) : lh_Met Γ m_LM_wordHere 1 0 0 [.ref (65 + 4), .int x1, .int x2] (I, L, F, S) (lh_ki K) := by
  rw [f_LM_wordHere] at hf
  refine lh_ofG k_LM_wordHere [(0, .ref (65 + 4)), (1, .int x1), (2, .int x2)] rfl (Nat.le_of_ble_eq_true rfl) rfl ?_
  refine lh_iconst rfl lh_k_m1 ?_
  refine lh_istore_n (lv' := [(0, .ref (65 + 4)), (1, .int x1), (2, .int x2), (3, .int (-1))]) rfl rfl rfl rfl ?_
  refine lh_iconst rfl lh_k_0 ?_
  refine lh_istore (lv' := [(0, .ref (65 + 4)), (1, .int x1), (2, .int x2), (3, .int (-1)), (4, .int 0)]) rfl rfl rfl ?_
  refine lh_bdE hf (fun r5 e6 hf => ?_)
  refine t_LM_wordHere_4 hG hS  _ (-1) 0 _ e6 ?_
  refine lh_iload_n (q := 0) rfl rfl rfl ?_
  exact lh_iret rfl rfl rfl (by obtain rfl := Option.some.inj hf; exact hK)
def f_LM_isName (I : lh_II) (L : lh_LL) : Option (Int32) := if (I (65 + 4) 8) = 0 then lh_gd (lh_ix (I (65 + 4) 7) 1002) (if (I (67 + 4) (I (65 + 4) 7).toNatClampNeg) = 1 then lh_bd (f_LM_wordHere (0 : Int32) (23 : Int32) I L) fun r4 => if 0 ≤ r4 then some 0 else some 1 else some 0) else some 0
theorem t_LM_isName {Γ : lh_Cx} {I : lh_II} {L : lh_LL} {F : lh_FF} {S : lh_SS} {K : Int32 → lh_Hp → Prop} {r : Int32} (hG : lh_GX Γ) (hS : lh_laym F S)  (hf : f_LM_isName I L = some r) (hK : K r (I, L, F, S)) : lh_Met Γ m_LM_isName 2 0 0 [.ref (65 + 4)] (I, L, F, S) (lh_ki K) := by
  rw [f_LM_isName] at hf
  refine lh_ofG k_LM_isName [(0, .ref (65 + 4))] rfl (Nat.le_of_ble_eq_true rfl) rfl ?_
  refine lh_aload_n (q := 0) rfl rfl rfl ?_
  refine lh_getI4 rfl rfl (hS.1 0 _ rfl) rfl ?_
  refine lh_if_ne rfl (fun c1 => ?_) (fun c1 => ?_)
  · have hf := lh_ifF hf c1
    refine lh_iconst rfl lh_k_0 ?_
    exact lh_iret rfl rfl (by decide) (by obtain rfl := Option.some.inj hf; exact hK)
  · have hf := lh_ifT hf c1
    refine lh_aload_n (q := 0) rfl rfl rfl ?_
    refine lh_getR4 rfl rfl (hS.1 0 _ rfl) rfl (hS.2 1 _ rfl) ?_
    refine lh_aload_n (q := 0) rfl rfl rfl ?_
    refine lh_getI4 rfl rfl (hS.1 0 _ rfl) rfl ?_
    obtain ⟨g2, hf⟩ := lh_gdE hf
    refine lh_iald4 rfl (hS.1 2 _ rfl) g2 ?_
    refine lh_iconst rfl lh_k_1 ?_
    refine lh_icmp_ne rfl (fun c3 => ?_) (fun c3 => ?_)
    · have hf := lh_ifF hf c3
      refine lh_iconst rfl lh_k_0 ?_
      exact lh_iret rfl rfl (by decide) (by obtain rfl := Option.some.inj hf; exact hK)
    · have hf := lh_ifT hf c3
      refine lh_aload_n (q := 0) rfl rfl rfl ?_
      refine lh_iconst rfl lh_k_0 ?_
      refine lh_bipush rfl lh_b_23 ?_
      refine lh_bdE hf (fun r4 e5 hf => ?_)
      refine lh_cVi (N := m_LM_wordHere) (d := 1) (o := 65) (As := [.int 0, .int 23]) (st := []) rfl rfl v_LM_wordHere (hS.1 0 _ rfl) rfl rfl rfl ⟨rfl, rfl⟩ rfl (t_LM_wordHere hG hS e5 ?_)
      refine lh_if_ge rfl (fun c6 => ?_) (fun c6 => ?_)
      · have hf := lh_ifT hf c6
        refine lh_iconst rfl lh_k_0 ?_
        exact lh_iret rfl rfl (by decide) (by obtain rfl := Option.some.inj hf; exact hK)
      · have hf := lh_ifF hf c6
        refine lh_iconst rfl lh_k_1 ?_
        refine lh_goto rfl ?_
        exact lh_iret rfl rfl (by decide) (by obtain rfl := Option.some.inj hf; exact hK)
def f_LM_isTold_4 (I : lh_II) (L : lh_LL) : Nat → Int32 → Int32 → Option (Int32)
  | 0, _, _ => none
  | n + 1, v1, v2 => if (I (65 + 4) 15) ≤ v2 then some v1 else if v1 = 0 then lh_gd (lh_ix v2 10) (lh_gd (lh_ix (I (65 + 4) 7) 1002) (if (lg_cmp (L (74 + 4) v2.toNatClampNeg) (L (69 + 4) (I (65 + 4) 7).toNatClampNeg)) = 0 then f_LM_isTold_4 I L n 1 (v2 + 1) else f_LM_isTold_4 I L n 0 (v2 + 1))) else f_LM_isTold_4 I L n 1 (v2 + 1)
def f_LM_isTold (I : lh_II) (L : lh_LL) : Option (Int32) := lh_bd (f_LM_isTold_4 I L lh_fuel 0 0) fun r6 => lh_gd (lh_z r6) (some r6)
theorem t_LM_isTold_4 {Γ : lh_Cx} {F : lh_FF} {S : lh_SS} {Z : List Frame → Array Value → State → State → Prop} (hG : lh_GX Γ) (hS : lh_laym F S)   {I : lh_II} {L : lh_LL} : ∀ (n : Nat) (v1 : Int32) (v2 : Int32) (o : Int32), f_LM_isTold_4 I L n v1 v2 = some o → ∀ (x0_ : lh_G Γ m_LM_isTold (lh_R 0 0 0) Z 0 0 27 [(1, .int o)] [] (I, L, F, S)), lh_G Γ m_LM_isTold (lh_R 0 0 0) Z 0 0 4 [(0, .ref (65 + 4)), (1, .int v1), (2, .int v2)] [] (I, L, F, S) := by
  intro n
  induction n with
  | zero => intro v1 v2 o hf; cases hf
  | succ n ih =>
    intro v1 v2 o hf x0_
    rw [f_LM_isTold_4] at hf
    refine lh_iload_n (q := 2) rfl rfl rfl ?_
    refine lh_aload_n (q := 0) rfl rfl rfl ?_
    refine lh_getI4 rfl rfl (hS.1 0 _ rfl) rfl ?_
    refine lh_icmp_ge rfl (fun c1 => ?_) (fun c1 => ?_)
    · have hf := lh_ifT hf c1
      exact lh_less [1] rfl (by cases hf; exact x0_)
    · have hf := lh_ifF hf c1
      refine lh_iload_n (q := 1) rfl rfl rfl ?_
      refine lh_if_ne rfl (fun c2 => ?_) (fun c2 => ?_)
      · have hf := lh_ifF hf c2
        refine lh_iconst rfl lh_k_1 ?_
        refine lh_goto rfl ?_
        refine lh_istore_n (lv' := [(0, .ref (65 + 4)), (1, .int 1), (2, .int v2)]) rfl rfl rfl rfl ?_
        refine lh_iinc (q := 2) (v := (v2 + 1)) (lv' := [(0, .ref (65 + 4)), (1, .int 1), (2, .int (v2 + 1))]) rfl rfl (congrArg (v2 + ·) (by decide)) rfl rfl ?_
        refine lh_goto rfl ?_
        exact ih 1 (v2 + 1) _ hf x0_
      · have hf := lh_ifT hf c2
        refine lh_aload_n (q := 0) rfl rfl rfl ?_
        refine lh_getR4 rfl rfl (hS.1 0 _ rfl) rfl (hS.2 8 _ rfl) ?_
        refine lh_iload_n (q := 2) rfl rfl rfl ?_
        obtain ⟨g3, hf⟩ := lh_gdE hf
        refine lh_lald4 rfl (hS.1 9 _ rfl) g3 ?_
        refine lh_aload_n (q := 0) rfl rfl rfl ?_
        refine lh_getR4 rfl rfl (hS.1 0 _ rfl) rfl (hS.2 3 _ rfl) ?_
        refine lh_aload_n (q := 0) rfl rfl rfl ?_
        refine lh_getI4 rfl rfl (hS.1 0 _ rfl) rfl ?_
        obtain ⟨g4, hf⟩ := lh_gdE hf
        refine lh_lald4 rfl (hS.1 4 _ rfl) g4 ?_
        refine lh_lcmp rfl ?_
        refine lh_if_ne rfl (fun c5 => ?_) (fun c5 => ?_)
        · have hf := lh_ifF hf c5
          refine lh_iconst rfl lh_k_0 ?_
          refine lh_istore_n (lv' := [(0, .ref (65 + 4)), (1, .int 0), (2, .int v2)]) rfl rfl rfl rfl ?_
          refine lh_iinc (q := 2) (v := (v2 + 1)) (lv' := [(0, .ref (65 + 4)), (1, .int 0), (2, .int (v2 + 1))]) rfl rfl (congrArg (v2 + ·) (by decide)) rfl rfl ?_
          refine lh_goto rfl ?_
          exact ih 0 (v2 + 1) _ hf x0_
        · have hf := lh_ifT hf c5
          refine lh_iconst rfl lh_k_1 ?_
          refine lh_goto rfl ?_
          refine lh_istore_n (lv' := [(0, .ref (65 + 4)), (1, .int 1), (2, .int v2)]) rfl rfl rfl rfl ?_
          refine lh_iinc (q := 2) (v := (v2 + 1)) (lv' := [(0, .ref (65 + 4)), (1, .int 1), (2, .int (v2 + 1))]) rfl rfl (congrArg (v2 + ·) (by decide)) rfl rfl ?_
          refine lh_goto rfl ?_
          exact ih 1 (v2 + 1) _ hf x0_
theorem t_LM_isTold {Γ : lh_Cx} {I : lh_II} {L : lh_LL} {F : lh_FF} {S : lh_SS} {K : Int32 → lh_Hp → Prop} {r : Int32} (hG : lh_GX Γ) (hS : lh_laym F S)  (hf : f_LM_isTold I L = some r) (hK : K r (I, L, F, S)) : lh_Met Γ m_LM_isTold 0 0 0 [.ref (65 + 4)] (I, L, F, S) (lh_ki K) := by
  rw [f_LM_isTold] at hf
  refine lh_ofG k_LM_isTold [(0, .ref (65 + 4))] rfl (Nat.le_of_ble_eq_true rfl) rfl ?_
  refine lh_iconst rfl lh_k_0 ?_
  refine lh_istore_n (lv' := [(0, .ref (65 + 4)), (1, .int 0)]) rfl rfl rfl rfl ?_
  refine lh_iconst rfl lh_k_0 ?_
  refine lh_istore_n (lv' := [(0, .ref (65 + 4)), (1, .int 0), (2, .int 0)]) rfl rfl rfl rfl ?_
  refine lh_bdE hf (fun r6 e7 hf => ?_)
  refine t_LM_isTold_4 hG hS  _ 0 0 _ e7 ?_
  refine lh_iload_n (q := 0) rfl rfl rfl ?_
  obtain ⟨g8, hf⟩ := lh_gdE hf
  exact lh_iret rfl rfl (lh_z_nar g8) (by obtain rfl := Option.some.inj hf; exact hK)
def f_LM_readName (x1 : Int32) (x2 : Int32) (I : lh_II) (L : lh_LL) : Option (lh_II × lh_LL) := lh_gd (lh_ix (100 + x1) 200) (if (I (71 + 4) (100 + x1).toNatClampNeg) = x2 then lh_bd (f_LM_wrong (5 : Int32) I) fun r28 => some (r28, L) else lh_bd (f_LM_isName (lh_u2 I (65 + 4) 7 ((I (65 + 4) 7) + 1)) L) fun r3 => if r3 = 0 then lh_bd (f_LM_wrong (1 : Int32) (lh_u2 I (65 + 4) 7 ((I (65 + 4) 7) + 1))) fun r21 => if (r21 (65 + 4) 8) = 0 then lh_gd (lh_ix (r21 (65 + 4) 7) 1002) (lh_gd (lh_ix (r21 (65 + 4) 15) 10) (lh_gd (lh_ix (100 + x1) 200) (lh_gd (lh_ix (100 + x1) 200) (some (lh_u2 (lh_u2 (lh_u2 r21 (65 + 4) 15 ((r21 (65 + 4) 15) + 1)) (65 + 4) 7 (((lh_u2 r21 (65 + 4) 15 ((r21 (65 + 4) 15) + 1)) (65 + 4) 7) + 1)) (71 + 4) (100 + x1).toNatClampNeg (((lh_u2 (lh_u2 r21 (65 + 4) 15 ((r21 (65 + 4) 15) + 1)) (65 + 4) 7 (((lh_u2 r21 (65 + 4) 15 ((r21 (65 + 4) 15) + 1)) (65 + 4) 7) + 1)) (71 + 4) (100 + x1).toNatClampNeg) + 1), lh_v2 L (74 + 4) (r21 (65 + 4) 15).toNatClampNeg (L (69 + 4) (r21 (65 + 4) 7).toNatClampNeg)))))) else some (r21, L) else lh_bd (f_LM_isTold (lh_u2 I (65 + 4) 7 ((I (65 + 4) 7) + 1)) L) fun r6 => if r6 = 0 then if ((lh_u2 I (65 + 4) 7 ((I (65 + 4) 7) + 1)) (65 + 4) 8) = 0 then lh_gd (lh_ix ((lh_u2 I (65 + 4) 7 ((I (65 + 4) 7) + 1)) (65 + 4) 7) 1002) (lh_gd (lh_ix ((lh_u2 I (65 + 4) 7 ((I (65 + 4) 7) + 1)) (65 + 4) 15) 10) (lh_gd (lh_ix (100 + x1) 200) (lh_gd (lh_ix (100 + x1) 200) (some (lh_u2 (lh_u2 (lh_u2 (lh_u2 I (65 + 4) 7 ((I (65 + 4) 7) + 1)) (65 + 4) 15 (((lh_u2 I (65 + 4) 7 ((I (65 + 4) 7) + 1)) (65 + 4) 15) + 1)) (65 + 4) 7 (((lh_u2 (lh_u2 I (65 + 4) 7 ((I (65 + 4) 7) + 1)) (65 + 4) 15 (((lh_u2 I (65 + 4) 7 ((I (65 + 4) 7) + 1)) (65 + 4) 15) + 1)) (65 + 4) 7) + 1)) (71 + 4) (100 + x1).toNatClampNeg (((lh_u2 (lh_u2 (lh_u2 I (65 + 4) 7 ((I (65 + 4) 7) + 1)) (65 + 4) 15 (((lh_u2 I (65 + 4) 7 ((I (65 + 4) 7) + 1)) (65 + 4) 15) + 1)) (65 + 4) 7 (((lh_u2 (lh_u2 I (65 + 4) 7 ((I (65 + 4) 7) + 1)) (65 + 4) 15 (((lh_u2 I (65 + 4) 7 ((I (65 + 4) 7) + 1)) (65 + 4) 15) + 1)) (65 + 4) 7) + 1)) (71 + 4) (100 + x1).toNatClampNeg) + 1), lh_v2 L (74 + 4) ((lh_u2 I (65 + 4) 7 ((I (65 + 4) 7) + 1)) (65 + 4) 15).toNatClampNeg (L (69 + 4) ((lh_u2 I (65 + 4) 7 ((I (65 + 4) 7) + 1)) (65 + 4) 7).toNatClampNeg)))))) else some (lh_u2 I (65 + 4) 7 ((I (65 + 4) 7) + 1), L) else lh_bd (f_LM_wrong (3 : Int32) (lh_u2 I (65 + 4) 7 ((I (65 + 4) 7) + 1))) fun r14 => if (r14 (65 + 4) 8) = 0 then lh_gd (lh_ix (r14 (65 + 4) 7) 1002) (lh_gd (lh_ix (r14 (65 + 4) 15) 10) (lh_gd (lh_ix (100 + x1) 200) (lh_gd (lh_ix (100 + x1) 200) (some (lh_u2 (lh_u2 (lh_u2 r14 (65 + 4) 15 ((r14 (65 + 4) 15) + 1)) (65 + 4) 7 (((lh_u2 r14 (65 + 4) 15 ((r14 (65 + 4) 15) + 1)) (65 + 4) 7) + 1)) (71 + 4) (100 + x1).toNatClampNeg (((lh_u2 (lh_u2 r14 (65 + 4) 15 ((r14 (65 + 4) 15) + 1)) (65 + 4) 7 (((lh_u2 r14 (65 + 4) 15 ((r14 (65 + 4) 15) + 1)) (65 + 4) 7) + 1)) (71 + 4) (100 + x1).toNatClampNeg) + 1), lh_v2 L (74 + 4) (r14 (65 + 4) 15).toNatClampNeg (L (69 + 4) (r14 (65 + 4) 7).toNatClampNeg)))))) else some (r14, L))
theorem t_LM_readName {Γ : lh_Cx} {I : lh_II} {L : lh_LL} {F : lh_FF} {S : lh_SS} {K : lh_Hp → Prop} {r : lh_II × lh_LL} (hG : lh_GX Γ) (hS : lh_laym F S)  {x1 : Int32} {x2 : Int32} (hf : f_LM_readName x1 x2 I L = some r) (hK : K (r.1, r.2, F, S)) : lh_Met Γ m_LM_readName 3 0 0 [.ref (65 + 4), .int x1, .int x2] (I, L, F, S) (lh_kv K) := by
  rw [f_LM_readName] at hf
  refine lh_ofG k_LM_readName [(0, .ref (65 + 4)), (1, .int x1), (2, .int x2)] rfl (Nat.le_of_ble_eq_true rfl) rfl ?_
  refine lh_aload_n (q := 0) rfl rfl rfl ?_
  refine lh_getR4 rfl rfl (hS.1 0 _ rfl) rfl (hS.2 5 _ rfl) ?_
  refine lh_bipush rfl lh_b_100 ?_
  refine lh_iload_n (q := 1) rfl rfl rfl ?_
  refine lh_iadd rfl ?_
  obtain ⟨g1, hf⟩ := lh_gdE hf
  refine lh_iald4 rfl (hS.1 6 _ rfl) g1 ?_
  refine lh_iload_n (q := 2) rfl rfl rfl ?_
  refine lh_icmp_ne rfl (fun c2 => ?_) (fun c2 => ?_)
  · have hf := lh_ifF hf c2
    refine lh_aload_n (q := 0) rfl rfl rfl ?_
    refine lh_dup rfl rfl ?_
    refine lh_getI4 rfl rfl (hS.1 0 _ rfl) rfl ?_
    refine lh_iconst rfl lh_k_1 ?_
    refine lh_iadd rfl ?_
    refine lh_putI4 rfl rfl (hS.1 0 _ rfl) rfl rfl ?_
    refine lh_aload_n (q := 0) rfl rfl rfl ?_
    refine lh_bdE hf (fun r3 e4 hf => ?_)
    refine lh_cVi (N := m_LM_isName) (d := 2) (o := 65) (As := []) (st := []) rfl rfl v_LM_isName (hS.1 0 _ rfl) rfl rfl rfl ⟨rfl, rfl⟩ rfl (t_LM_isName hG hS e4 ?_)
    refine lh_if_ne rfl (fun c5 => ?_) (fun c5 => ?_)
    · have hf := lh_ifF hf c5
      refine lh_aload_n (q := 0) rfl rfl rfl ?_
      refine lh_bdE hf (fun r6 e7 hf => ?_)
      refine lh_cVi (N := m_LM_isTold) (d := 0) (o := 65) (As := []) (st := []) rfl rfl v_LM_isTold (hS.1 0 _ rfl) rfl rfl rfl ⟨rfl, rfl⟩ rfl (t_LM_isTold hG hS e7 ?_)
      refine lh_if_eq rfl (fun c8 => ?_) (fun c8 => ?_)
      · have hf := lh_ifT hf c8
        refine lh_aload_n (q := 0) rfl rfl rfl ?_
        refine lh_getI4 rfl rfl (hS.1 0 _ rfl) rfl ?_
        refine lh_if_ne rfl (fun c9 => ?_) (fun c9 => ?_)
        · have hf := lh_ifF hf c9
          exact lh_vret rfl rfl (by obtain rfl := Option.some.inj hf; exact hK)
        · have hf := lh_ifT hf c9
          refine lh_aload_n (q := 0) rfl rfl rfl ?_
          refine lh_getR4 rfl rfl (hS.1 0 _ rfl) rfl (hS.2 8 _ rfl) ?_
          refine lh_aload_n (q := 0) rfl rfl rfl ?_
          refine lh_getI4 rfl rfl (hS.1 0 _ rfl) rfl ?_
          refine lh_aload_n (q := 0) rfl rfl rfl ?_
          refine lh_getR4 rfl rfl (hS.1 0 _ rfl) rfl (hS.2 3 _ rfl) ?_
          refine lh_aload_n (q := 0) rfl rfl rfl ?_
          refine lh_getI4 rfl rfl (hS.1 0 _ rfl) rfl ?_
          obtain ⟨g10, hf⟩ := lh_gdE hf
          refine lh_lald4 rfl (hS.1 4 _ rfl) g10 ?_
          obtain ⟨g11, hf⟩ := lh_gdE hf
          refine lh_last4 rfl (hS.1 9 _ rfl) g11 ?_
          refine lh_aload_n (q := 0) rfl rfl rfl ?_
          refine lh_dup rfl rfl ?_
          refine lh_getI4 rfl rfl (hS.1 0 _ rfl) rfl ?_
          refine lh_iconst rfl lh_k_1 ?_
          refine lh_iadd rfl ?_
          refine lh_putI4 rfl rfl (hS.1 0 _ rfl) rfl rfl ?_
          refine lh_aload_n (q := 0) rfl rfl rfl ?_
          refine lh_dup rfl rfl ?_
          refine lh_getI4 rfl rfl (hS.1 0 _ rfl) rfl ?_
          refine lh_iconst rfl lh_k_1 ?_
          refine lh_iadd rfl ?_
          refine lh_putI4 rfl rfl (hS.1 0 _ rfl) rfl rfl ?_
          refine lh_aload_n (q := 0) rfl rfl rfl ?_
          refine lh_getR4 rfl rfl (hS.1 0 _ rfl) rfl (hS.2 5 _ rfl) ?_
          refine lh_bipush rfl lh_b_100 ?_
          refine lh_iload_n (q := 1) rfl rfl rfl ?_
          refine lh_iadd rfl ?_
          refine lh_dup2 rfl rfl rfl ?_
          obtain ⟨g12, hf⟩ := lh_gdE hf
          refine lh_iald4 rfl (hS.1 6 _ rfl) g12 ?_
          refine lh_iconst rfl lh_k_1 ?_
          refine lh_iadd rfl ?_
          obtain ⟨g13, hf⟩ := lh_gdE hf
          refine lh_iast4 rfl (hS.1 6 _ rfl) g13 ?_
          exact lh_vret rfl rfl (by obtain rfl := Option.some.inj hf; exact hK)
      · have hf := lh_ifF hf c8
        refine lh_aload_n (q := 0) rfl rfl rfl ?_
        refine lh_iconst rfl lh_k_3 ?_
        refine lh_bdE hf (fun r14 e15 hf => ?_)
        refine lh_cVv (N := m_LM_wrong) (d := 0) (o := 65) (As := [.int 3]) (st := []) rfl rfl v_LM_wrong (hS.1 0 _ rfl) rfl rfl rfl ⟨rfl, rfl⟩ rfl (t_LM_wrong hG hS e15 ?_)
        refine lh_aload_n (q := 0) rfl rfl rfl ?_
        refine lh_getI4 rfl rfl (hS.1 0 _ rfl) rfl ?_
        refine lh_if_ne rfl (fun c16 => ?_) (fun c16 => ?_)
        · have hf := lh_ifF hf c16
          exact lh_vret rfl rfl (by obtain rfl := Option.some.inj hf; exact hK)
        · have hf := lh_ifT hf c16
          refine lh_aload_n (q := 0) rfl rfl rfl ?_
          refine lh_getR4 rfl rfl (hS.1 0 _ rfl) rfl (hS.2 8 _ rfl) ?_
          refine lh_aload_n (q := 0) rfl rfl rfl ?_
          refine lh_getI4 rfl rfl (hS.1 0 _ rfl) rfl ?_
          refine lh_aload_n (q := 0) rfl rfl rfl ?_
          refine lh_getR4 rfl rfl (hS.1 0 _ rfl) rfl (hS.2 3 _ rfl) ?_
          refine lh_aload_n (q := 0) rfl rfl rfl ?_
          refine lh_getI4 rfl rfl (hS.1 0 _ rfl) rfl ?_
          obtain ⟨g17, hf⟩ := lh_gdE hf
          refine lh_lald4 rfl (hS.1 4 _ rfl) g17 ?_
          obtain ⟨g18, hf⟩ := lh_gdE hf
          refine lh_last4 rfl (hS.1 9 _ rfl) g18 ?_
          refine lh_aload_n (q := 0) rfl rfl rfl ?_
          refine lh_dup rfl rfl ?_
          refine lh_getI4 rfl rfl (hS.1 0 _ rfl) rfl ?_
          refine lh_iconst rfl lh_k_1 ?_
          refine lh_iadd rfl ?_
          refine lh_putI4 rfl rfl (hS.1 0 _ rfl) rfl rfl ?_
          refine lh_aload_n (q := 0) rfl rfl rfl ?_
          refine lh_dup rfl rfl ?_
          refine lh_getI4 rfl rfl (hS.1 0 _ rfl) rfl ?_
          refine lh_iconst rfl lh_k_1 ?_
          refine lh_iadd rfl ?_
          refine lh_putI4 rfl rfl (hS.1 0 _ rfl) rfl rfl ?_
          refine lh_aload_n (q := 0) rfl rfl rfl ?_
          refine lh_getR4 rfl rfl (hS.1 0 _ rfl) rfl (hS.2 5 _ rfl) ?_
          refine lh_bipush rfl lh_b_100 ?_
          refine lh_iload_n (q := 1) rfl rfl rfl ?_
          refine lh_iadd rfl ?_
          refine lh_dup2 rfl rfl rfl ?_
          obtain ⟨g19, hf⟩ := lh_gdE hf
          refine lh_iald4 rfl (hS.1 6 _ rfl) g19 ?_
          refine lh_iconst rfl lh_k_1 ?_
          refine lh_iadd rfl ?_
          obtain ⟨g20, hf⟩ := lh_gdE hf
          refine lh_iast4 rfl (hS.1 6 _ rfl) g20 ?_
          exact lh_vret rfl rfl (by obtain rfl := Option.some.inj hf; exact hK)
    · have hf := lh_ifT hf c5
      refine lh_aload_n (q := 0) rfl rfl rfl ?_
      refine lh_iconst rfl lh_k_1 ?_
      refine lh_bdE hf (fun r21 e22 hf => ?_)
      refine lh_cVv (N := m_LM_wrong) (d := 0) (o := 65) (As := [.int 1]) (st := []) rfl rfl v_LM_wrong (hS.1 0 _ rfl) rfl rfl rfl ⟨rfl, rfl⟩ rfl (t_LM_wrong hG hS e22 ?_)
      refine lh_goto rfl ?_
      refine lh_aload_n (q := 0) rfl rfl rfl ?_
      refine lh_getI4 rfl rfl (hS.1 0 _ rfl) rfl ?_
      refine lh_if_ne rfl (fun c23 => ?_) (fun c23 => ?_)
      · have hf := lh_ifF hf c23
        exact lh_vret rfl rfl (by obtain rfl := Option.some.inj hf; exact hK)
      · have hf := lh_ifT hf c23
        refine lh_aload_n (q := 0) rfl rfl rfl ?_
        refine lh_getR4 rfl rfl (hS.1 0 _ rfl) rfl (hS.2 8 _ rfl) ?_
        refine lh_aload_n (q := 0) rfl rfl rfl ?_
        refine lh_getI4 rfl rfl (hS.1 0 _ rfl) rfl ?_
        refine lh_aload_n (q := 0) rfl rfl rfl ?_
        refine lh_getR4 rfl rfl (hS.1 0 _ rfl) rfl (hS.2 3 _ rfl) ?_
        refine lh_aload_n (q := 0) rfl rfl rfl ?_
        refine lh_getI4 rfl rfl (hS.1 0 _ rfl) rfl ?_
        obtain ⟨g24, hf⟩ := lh_gdE hf
        refine lh_lald4 rfl (hS.1 4 _ rfl) g24 ?_
        obtain ⟨g25, hf⟩ := lh_gdE hf
        refine lh_last4 rfl (hS.1 9 _ rfl) g25 ?_
        refine lh_aload_n (q := 0) rfl rfl rfl ?_
        refine lh_dup rfl rfl ?_
        refine lh_getI4 rfl rfl (hS.1 0 _ rfl) rfl ?_
        refine lh_iconst rfl lh_k_1 ?_
        refine lh_iadd rfl ?_
        refine lh_putI4 rfl rfl (hS.1 0 _ rfl) rfl rfl ?_
        refine lh_aload_n (q := 0) rfl rfl rfl ?_
        refine lh_dup rfl rfl ?_
        refine lh_getI4 rfl rfl (hS.1 0 _ rfl) rfl ?_
        refine lh_iconst rfl lh_k_1 ?_
        refine lh_iadd rfl ?_
        refine lh_putI4 rfl rfl (hS.1 0 _ rfl) rfl rfl ?_
        refine lh_aload_n (q := 0) rfl rfl rfl ?_
        refine lh_getR4 rfl rfl (hS.1 0 _ rfl) rfl (hS.2 5 _ rfl) ?_
        refine lh_bipush rfl lh_b_100 ?_
        refine lh_iload_n (q := 1) rfl rfl rfl ?_
        refine lh_iadd rfl ?_
        refine lh_dup2 rfl rfl rfl ?_
        obtain ⟨g26, hf⟩ := lh_gdE hf
        refine lh_iald4 rfl (hS.1 6 _ rfl) g26 ?_
        refine lh_iconst rfl lh_k_1 ?_
        refine lh_iadd rfl ?_
        obtain ⟨g27, hf⟩ := lh_gdE hf
        refine lh_iast4 rfl (hS.1 6 _ rfl) g27 ?_
        exact lh_vret rfl rfl (by obtain rfl := Option.some.inj hf; exact hK)
  · have hf := lh_ifT hf c2
    refine lh_aload_n (q := 0) rfl rfl rfl ?_
    refine lh_iconst rfl lh_k_5 ?_
    refine lh_bdE hf (fun r28 e29 hf => ?_)
    refine lh_cVv (N := m_LM_wrong) (d := 0) (o := 65) (As := [.int 5]) (st := []) rfl rfl v_LM_wrong (hS.1 0 _ rfl) rfl rfl rfl ⟨rfl, rfl⟩ rfl (t_LM_wrong hG hS e29 ?_)
    exact lh_vret rfl rfl (by obtain rfl := Option.some.inj hf; exact hK)
def f_LM_takeOne (x1 : Int32) (x2 : Int32) (I : lh_II) (L : lh_LL) : Option (Int32 × lh_II) := if (I (65 + 4) 8) ≤ 0 then lh_bd (f_LM_wordHere x1 x2 I L) fun r2 => if (I (65 + 4) 8) = 0 then if 0 ≤ r2 then if ((lh_u2 I (65 + 4) 7 ((I (65 + 4) 7) + 1)) (65 + 4) 8) ≤ 0 then some (r2, lh_u2 I (65 + 4) 7 ((I (65 + 4) 7) + 1)) else some (0, lh_u2 I (65 + 4) 7 ((I (65 + 4) 7) + 1)) else lh_bd (f_LM_wrong (1 : Int32) I) fun r8 => if (r8 (65 + 4) 8) ≤ 0 then if ((lh_u2 r8 (65 + 4) 7 ((r8 (65 + 4) 7) + 1)) (65 + 4) 8) ≤ 0 then some (r2, lh_u2 r8 (65 + 4) 7 ((r8 (65 + 4) 7) + 1)) else some (0, lh_u2 r8 (65 + 4) 7 ((r8 (65 + 4) 7) + 1)) else if ((lh_u2 r8 (65 + 4) 7 ((r8 (65 + 4) 7) + 0)) (65 + 4) 8) ≤ 0 then some (r2, lh_u2 r8 (65 + 4) 7 ((r8 (65 + 4) 7) + 0)) else some (0, lh_u2 r8 (65 + 4) 7 ((r8 (65 + 4) 7) + 0)) else if ((lh_u2 I (65 + 4) 7 ((I (65 + 4) 7) + 1)) (65 + 4) 8) ≤ 0 then some (r2, lh_u2 I (65 + 4) 7 ((I (65 + 4) 7) + 1)) else some (0, lh_u2 I (65 + 4) 7 ((I (65 + 4) 7) + 1)) else if (I (65 + 4) 8) = 0 then lh_bd (f_LM_wrong (1 : Int32) I) fun r15 => if (r15 (65 + 4) 8) ≤ 0 then if ((lh_u2 r15 (65 + 4) 7 ((r15 (65 + 4) 7) + 1)) (65 + 4) 8) ≤ 0 then some ((-1), lh_u2 r15 (65 + 4) 7 ((r15 (65 + 4) 7) + 1)) else some (0, lh_u2 r15 (65 + 4) 7 ((r15 (65 + 4) 7) + 1)) else if ((lh_u2 r15 (65 + 4) 7 ((r15 (65 + 4) 7) + 0)) (65 + 4) 8) ≤ 0 then some ((-1), lh_u2 r15 (65 + 4) 7 ((r15 (65 + 4) 7) + 0)) else some (0, lh_u2 r15 (65 + 4) 7 ((r15 (65 + 4) 7) + 0)) else if ((lh_u2 I (65 + 4) 7 ((I (65 + 4) 7) + 0)) (65 + 4) 8) ≤ 0 then some ((-1), lh_u2 I (65 + 4) 7 ((I (65 + 4) 7) + 0)) else some (0, lh_u2 I (65 + 4) 7 ((I (65 + 4) 7) + 0))
theorem t_LM_takeOne {Γ : lh_Cx} {I : lh_II} {L : lh_LL} {F : lh_FF} {S : lh_SS} {K : Int32 → lh_Hp → Prop} {r : Int32 × lh_II} (hG : lh_GX Γ) (hS : lh_laym F S)  {x1 : Int32} {x2 : Int32} (hf : f_LM_takeOne x1 x2 I L = some r) (hK : K r.1 (r.2, L, F, S)) : lh_Met Γ m_LM_takeOne 2 0 0 [.ref (65 + 4), .int x1, .int x2] (I, L, F, S) (lh_ki K) := by
  rw [f_LM_takeOne] at hf
  refine lh_ofG k_LM_takeOne [(0, .ref (65 + 4)), (1, .int x1), (2, .int x2)] rfl (Nat.le_of_ble_eq_true rfl) rfl ?_
  refine lh_aload_n (q := 0) rfl rfl rfl ?_
  refine lh_getI4 rfl rfl (hS.1 0 _ rfl) rfl ?_
  refine lh_if_le rfl (fun c1 => ?_) (fun c1 => ?_)
  · have hf := lh_ifT hf c1
    refine lh_aload_n (q := 0) rfl rfl rfl ?_
    refine lh_iload_n (q := 1) rfl rfl rfl ?_
    refine lh_iload_n (q := 2) rfl rfl rfl ?_
    refine lh_bdE hf (fun r2 e3 hf => ?_)
    refine lh_cVi (N := m_LM_wordHere) (d := 1) (o := 65) (As := [.int x1, .int x2]) (st := []) rfl rfl v_LM_wordHere (hS.1 0 _ rfl) rfl rfl rfl ⟨rfl, rfl⟩ rfl (t_LM_wordHere hG hS e3 ?_)
    refine lh_istore_n (lv' := [(0, .ref (65 + 4)), (1, .int x1), (2, .int x2), (3, .int r2)]) rfl rfl rfl rfl ?_
    refine lh_aload_n (q := 0) rfl rfl rfl ?_
    refine lh_getI4 rfl rfl (hS.1 0 _ rfl) rfl ?_
    refine lh_if_ne rfl (fun c4 => ?_) (fun c4 => ?_)
    · have hf := lh_ifF hf c4
      refine lh_aload_n (q := 0) rfl rfl rfl ?_
      refine lh_dup rfl rfl ?_
      refine lh_getI4 rfl rfl (hS.1 0 _ rfl) rfl ?_
      refine lh_aload_n (q := 0) rfl rfl rfl ?_
      refine lh_getI4 rfl rfl (hS.1 0 _ rfl) rfl ?_
      refine lh_if_le rfl (fun _ => ?_) (fun c => absurd c1 c)
      refine lh_iconst rfl lh_k_1 ?_
      refine lh_iadd rfl ?_
      refine lh_putI4 rfl rfl (hS.1 0 _ rfl) rfl rfl ?_
      refine lh_aload_n (q := 0) rfl rfl rfl ?_
      refine lh_getI4 rfl rfl (hS.1 0 _ rfl) rfl ?_
      refine lh_if_le rfl (fun c5 => ?_) (fun c5 => ?_)
      · have hf := lh_ifT hf c5
        refine lh_iload_n (q := 3) rfl rfl rfl ?_
        exact lh_iret rfl rfl rfl (by obtain rfl := Option.some.inj hf; exact hK)
      · have hf := lh_ifF hf c5
        refine lh_iconst rfl lh_k_0 ?_
        refine lh_goto rfl ?_
        exact lh_iret rfl rfl rfl (by obtain rfl := Option.some.inj hf; exact hK)
    · have hf := lh_ifT hf c4
      refine lh_iload_n (q := 3) rfl rfl rfl ?_
      refine lh_if_ge rfl (fun c6 => ?_) (fun c6 => ?_)
      · have hf := lh_ifT hf c6
        refine lh_aload_n (q := 0) rfl rfl rfl ?_
        refine lh_dup rfl rfl ?_
        refine lh_getI4 rfl rfl (hS.1 0 _ rfl) rfl ?_
        refine lh_aload_n (q := 0) rfl rfl rfl ?_
        refine lh_getI4 rfl rfl (hS.1 0 _ rfl) rfl ?_
        refine lh_if_le rfl (fun _ => ?_) (fun c => absurd c1 c)
        refine lh_iconst rfl lh_k_1 ?_
        refine lh_iadd rfl ?_
        refine lh_putI4 rfl rfl (hS.1 0 _ rfl) rfl rfl ?_
        refine lh_aload_n (q := 0) rfl rfl rfl ?_
        refine lh_getI4 rfl rfl (hS.1 0 _ rfl) rfl ?_
        refine lh_if_le rfl (fun c7 => ?_) (fun c7 => ?_)
        · have hf := lh_ifT hf c7
          refine lh_iload_n (q := 3) rfl rfl rfl ?_
          exact lh_iret rfl rfl rfl (by obtain rfl := Option.some.inj hf; exact hK)
        · have hf := lh_ifF hf c7
          refine lh_iconst rfl lh_k_0 ?_
          refine lh_goto rfl ?_
          exact lh_iret rfl rfl rfl (by obtain rfl := Option.some.inj hf; exact hK)
      · have hf := lh_ifF hf c6
        refine lh_aload_n (q := 0) rfl rfl rfl ?_
        refine lh_iconst rfl lh_k_1 ?_
        refine lh_bdE hf (fun r8 e9 hf => ?_)
        refine lh_cVv (N := m_LM_wrong) (d := 0) (o := 65) (As := [.int 1]) (st := []) rfl rfl v_LM_wrong (hS.1 0 _ rfl) rfl rfl rfl ⟨rfl, rfl⟩ rfl (t_LM_wrong hG hS e9 ?_)
        refine lh_aload_n (q := 0) rfl rfl rfl ?_
        refine lh_dup rfl rfl ?_
        refine lh_getI4 rfl rfl (hS.1 0 _ rfl) rfl ?_
        refine lh_aload_n (q := 0) rfl rfl rfl ?_
        refine lh_getI4 rfl rfl (hS.1 0 _ rfl) rfl ?_
        refine lh_if_le rfl (fun c10 => ?_) (fun c10 => ?_)
        · have hf := lh_ifT hf c10
          refine lh_iconst rfl lh_k_1 ?_
          refine lh_iadd rfl ?_
          refine lh_putI4 rfl rfl (hS.1 0 _ rfl) rfl rfl ?_
          refine lh_aload_n (q := 0) rfl rfl rfl ?_
          refine lh_getI4 rfl rfl (hS.1 0 _ rfl) rfl ?_
          refine lh_if_le rfl (fun c11 => ?_) (fun c11 => ?_)
          · have hf := lh_ifT hf c11
            refine lh_iload_n (q := 3) rfl rfl rfl ?_
            exact lh_iret rfl rfl rfl (by obtain rfl := Option.some.inj hf; exact hK)
          · have hf := lh_ifF hf c11
            refine lh_iconst rfl lh_k_0 ?_
            refine lh_goto rfl ?_
            exact lh_iret rfl rfl rfl (by obtain rfl := Option.some.inj hf; exact hK)
        · have hf := lh_ifF hf c10
          refine lh_iconst rfl lh_k_0 ?_
          refine lh_goto rfl ?_
          refine lh_iadd rfl ?_
          refine lh_putI4 rfl rfl (hS.1 0 _ rfl) rfl rfl ?_
          refine lh_aload_n (q := 0) rfl rfl rfl ?_
          refine lh_getI4 rfl rfl (hS.1 0 _ rfl) rfl ?_
          refine lh_if_le rfl (fun c12 => ?_) (fun c12 => ?_)
          · have hf := lh_ifT hf c12
            refine lh_iload_n (q := 3) rfl rfl rfl ?_
            exact lh_iret rfl rfl rfl (by obtain rfl := Option.some.inj hf; exact hK)
          · have hf := lh_ifF hf c12
            refine lh_iconst rfl lh_k_0 ?_
            refine lh_goto rfl ?_
            exact lh_iret rfl rfl rfl (by obtain rfl := Option.some.inj hf; exact hK)
  · have hf := lh_ifF hf c1
    refine lh_iconst rfl lh_k_m1 ?_
    refine lh_goto rfl ?_
    refine lh_istore_n (lv' := [(0, .ref (65 + 4)), (1, .int x1), (2, .int x2), (3, .int (-1))]) rfl rfl rfl rfl ?_
    refine lh_aload_n (q := 0) rfl rfl rfl ?_
    refine lh_getI4 rfl rfl (hS.1 0 _ rfl) rfl ?_
    refine lh_if_ne rfl (fun c13 => ?_) (fun c13 => ?_)
    · have hf := lh_ifF hf c13
      refine lh_aload_n (q := 0) rfl rfl rfl ?_
      refine lh_dup rfl rfl ?_
      refine lh_getI4 rfl rfl (hS.1 0 _ rfl) rfl ?_
      refine lh_aload_n (q := 0) rfl rfl rfl ?_
      refine lh_getI4 rfl rfl (hS.1 0 _ rfl) rfl ?_
      refine lh_if_le rfl (fun c => absurd c c1) (fun _ => ?_)
      refine lh_iconst rfl lh_k_0 ?_
      refine lh_goto rfl ?_
      refine lh_iadd rfl ?_
      refine lh_putI4 rfl rfl (hS.1 0 _ rfl) rfl rfl ?_
      refine lh_aload_n (q := 0) rfl rfl rfl ?_
      refine lh_getI4 rfl rfl (hS.1 0 _ rfl) rfl ?_
      refine lh_if_le rfl (fun c14 => ?_) (fun c14 => ?_)
      · have hf := lh_ifT hf c14
        refine lh_iload_n (q := 3) rfl rfl rfl ?_
        exact lh_iret rfl rfl rfl (by obtain rfl := Option.some.inj hf; exact hK)
      · have hf := lh_ifF hf c14
        refine lh_iconst rfl lh_k_0 ?_
        refine lh_goto rfl ?_
        exact lh_iret rfl rfl rfl (by obtain rfl := Option.some.inj hf; exact hK)
    · have hf := lh_ifT hf c13
      refine lh_iload_n (q := 3) rfl rfl rfl ?_
      refine lh_if_ge rfl (fun c => absurd c (by decide)) (fun _ => ?_)
      refine lh_aload_n (q := 0) rfl rfl rfl ?_
      refine lh_iconst rfl lh_k_1 ?_
      refine lh_bdE hf (fun r15 e16 hf => ?_)
      refine lh_cVv (N := m_LM_wrong) (d := 0) (o := 65) (As := [.int 1]) (st := []) rfl rfl v_LM_wrong (hS.1 0 _ rfl) rfl rfl rfl ⟨rfl, rfl⟩ rfl (t_LM_wrong hG hS e16 ?_)
      refine lh_aload_n (q := 0) rfl rfl rfl ?_
      refine lh_dup rfl rfl ?_
      refine lh_getI4 rfl rfl (hS.1 0 _ rfl) rfl ?_
      refine lh_aload_n (q := 0) rfl rfl rfl ?_
      refine lh_getI4 rfl rfl (hS.1 0 _ rfl) rfl ?_
      refine lh_if_le rfl (fun c17 => ?_) (fun c17 => ?_)
      · have hf := lh_ifT hf c17
        refine lh_iconst rfl lh_k_1 ?_
        refine lh_iadd rfl ?_
        refine lh_putI4 rfl rfl (hS.1 0 _ rfl) rfl rfl ?_
        refine lh_aload_n (q := 0) rfl rfl rfl ?_
        refine lh_getI4 rfl rfl (hS.1 0 _ rfl) rfl ?_
        refine lh_if_le rfl (fun c18 => ?_) (fun c18 => ?_)
        · have hf := lh_ifT hf c18
          refine lh_iload_n (q := 3) rfl rfl rfl ?_
          exact lh_iret rfl rfl rfl (by obtain rfl := Option.some.inj hf; exact hK)
        · have hf := lh_ifF hf c18
          refine lh_iconst rfl lh_k_0 ?_
          refine lh_goto rfl ?_
          exact lh_iret rfl rfl rfl (by obtain rfl := Option.some.inj hf; exact hK)
      · have hf := lh_ifF hf c17
        refine lh_iconst rfl lh_k_0 ?_
        refine lh_goto rfl ?_
        refine lh_iadd rfl ?_
        refine lh_putI4 rfl rfl (hS.1 0 _ rfl) rfl rfl ?_
        refine lh_aload_n (q := 0) rfl rfl rfl ?_
        refine lh_getI4 rfl rfl (hS.1 0 _ rfl) rfl ?_
        refine lh_if_le rfl (fun c19 => ?_) (fun c19 => ?_)
        · have hf := lh_ifT hf c19
          refine lh_iload_n (q := 3) rfl rfl rfl ?_
          exact lh_iret rfl rfl rfl (by obtain rfl := Option.some.inj hf; exact hK)
        · have hf := lh_ifF hf c19
          refine lh_iconst rfl lh_k_0 ?_
          refine lh_goto rfl ?_
          exact lh_iret rfl rfl rfl (by obtain rfl := Option.some.inj hf; exact hK)
def f_LM_hasWord (x1 : Int32) (I : lh_II) (L : lh_LL) : Option (Int32 × lh_II) := lh_bd (f_LM_isWord x1 I L) fun r1 => if r1 = 0 then lh_gd (lh_z r1) (some (r1, lh_u2 I (65 + 4) 7 ((I (65 + 4) 7) + 0))) else lh_gd (lh_z r1) (some (r1, lh_u2 I (65 + 4) 7 ((I (65 + 4) 7) + 1)))
theorem t_LM_hasWord {Γ : lh_Cx} {I : lh_II} {L : lh_LL} {F : lh_FF} {S : lh_SS} {K : Int32 → lh_Hp → Prop} {r : Int32 × lh_II} (hG : lh_GX Γ) (hS : lh_laym F S)  {x1 : Int32} (hf : f_LM_hasWord x1 I L = some r) (hK : K r.1 (r.2, L, F, S)) : lh_Met Γ m_LM_hasWord 1 0 0 [.ref (65 + 4), .int x1] (I, L, F, S) (lh_ki K) := by
  rw [f_LM_hasWord] at hf
  refine lh_ofG k_LM_hasWord [(0, .ref (65 + 4)), (1, .int x1)] rfl (Nat.le_of_ble_eq_true rfl) rfl ?_
  refine lh_aload_n (q := 0) rfl rfl rfl ?_
  refine lh_iload_n (q := 1) rfl rfl rfl ?_
  refine lh_bdE hf (fun r1 e2 hf => ?_)
  refine lh_cVi (N := m_LM_isWord) (d := 0) (o := 65) (As := [.int x1]) (st := []) rfl rfl v_LM_isWord (hS.1 0 _ rfl) rfl rfl rfl ⟨rfl, rfl⟩ rfl (t_LM_isWord hG hS e2 ?_)
  refine lh_istore_n (lv' := [(0, .ref (65 + 4)), (1, .int x1), (2, .int r1)]) rfl rfl rfl rfl ?_
  refine lh_aload_n (q := 0) rfl rfl rfl ?_
  refine lh_dup rfl rfl ?_
  refine lh_getI4 rfl rfl (hS.1 0 _ rfl) rfl ?_
  refine lh_iload_n (q := 2) rfl rfl rfl ?_
  refine lh_if_eq rfl (fun c3 => ?_) (fun c3 => ?_)
  · have hf := lh_ifT hf c3
    refine lh_iconst rfl lh_k_0 ?_
    refine lh_iadd rfl ?_
    refine lh_putI4 rfl rfl (hS.1 0 _ rfl) rfl rfl ?_
    refine lh_iload_n (q := 2) rfl rfl rfl ?_
    obtain ⟨g4, hf⟩ := lh_gdE hf
    exact lh_iret rfl rfl (lh_z_nar g4) (by obtain rfl := Option.some.inj hf; exact hK)
  · have hf := lh_ifF hf c3
    refine lh_iconst rfl lh_k_1 ?_
    refine lh_goto rfl ?_
    refine lh_iadd rfl ?_
    refine lh_putI4 rfl rfl (hS.1 0 _ rfl) rfl rfl ?_
    refine lh_iload_n (q := 2) rfl rfl rfl ?_
    obtain ⟨g5, hf⟩ := lh_gdE hf
    exact lh_iret rfl rfl (lh_z_nar g5) (by obtain rfl := Option.some.inj hf; exact hK)
def f_LM_takeWord (x1 : Int32) (I : lh_II) (L : lh_LL) : Option (lh_II) := lh_bd (f_LM_hasWord x1 I L) fun r1 => if r1.1 = 0 then lh_bd (f_LM_wrong (1 : Int32) r1.2) fun r4 => some r4 else some r1.2
theorem t_LM_takeWord {Γ : lh_Cx} {I : lh_II} {L : lh_LL} {F : lh_FF} {S : lh_SS} {K : lh_Hp → Prop} {r : lh_II} (hG : lh_GX Γ) (hS : lh_laym F S)  {x1 : Int32} (hf : f_LM_takeWord x1 I L = some r) (hK : K (r, L, F, S)) : lh_Met Γ m_LM_takeWord 2 0 0 [.ref (65 + 4), .int x1] (I, L, F, S) (lh_kv K) := by
  rw [f_LM_takeWord] at hf
  refine lh_ofG k_LM_takeWord [(0, .ref (65 + 4)), (1, .int x1)] rfl (Nat.le_of_ble_eq_true rfl) rfl ?_
  refine lh_aload_n (q := 0) rfl rfl rfl ?_
  refine lh_iload_n (q := 1) rfl rfl rfl ?_
  refine lh_bdE hf (fun r1 e2 hf => ?_)
  refine lh_cVi (N := m_LM_hasWord) (d := 1) (o := 65) (As := [.int x1]) (st := []) rfl rfl v_LM_hasWord (hS.1 0 _ rfl) rfl rfl rfl ⟨rfl, rfl⟩ rfl (t_LM_hasWord hG hS e2 ?_)
  refine lh_if_ne rfl (fun c3 => ?_) (fun c3 => ?_)
  · have hf := lh_ifF hf c3
    exact lh_vret rfl rfl (by obtain rfl := Option.some.inj hf; exact hK)
  · have hf := lh_ifT hf c3
    refine lh_aload_n (q := 0) rfl rfl rfl ?_
    refine lh_iconst rfl lh_k_1 ?_
    refine lh_bdE hf (fun r4 e5 hf => ?_)
    refine lh_cVv (N := m_LM_wrong) (d := 0) (o := 65) (As := [.int 1]) (st := []) rfl rfl v_LM_wrong (hS.1 0 _ rfl) rfl rfl rfl ⟨rfl, rfl⟩ rfl (t_LM_wrong hG hS e5 ?_)
    exact lh_vret rfl rfl (by obtain rfl := Option.some.inj hf; exact hK)
def f_LM_takeAfter (x1 : Int32) (x2 : Int32) (x3 : Int32) (I : lh_II) (L : lh_LL) : Option (Int32 × lh_II) := lh_bd (f_LM_takeWord x1 I L) fun r1 => lh_bd (f_LM_takeNumber x2 x3 r1 L) fun r3 => some (r3.1, r3.2)
theorem t_LM_takeAfter {Γ : lh_Cx} {I : lh_II} {L : lh_LL} {F : lh_FF} {S : lh_SS} {K : Int32 → lh_Hp → Prop} {r : Int32 × lh_II} (hG : lh_GX Γ) (hS : lh_laym F S)  {x1 : Int32} {x2 : Int32} {x3 : Int32} (hf : f_LM_takeAfter x1 x2 x3 I L = some r) (hK : K r.1 (r.2, L, F, S)) : lh_Met Γ m_LM_takeAfter 3 0 0 [.ref (65 + 4), .int x1, .int x2, .int x3] (I, L, F, S) (lh_ki K) := by
  rw [f_LM_takeAfter] at hf
  refine lh_ofG k_LM_takeAfter [(0, .ref (65 + 4)), (1, .int x1), (2, .int x2), (3, .int x3)] rfl (Nat.le_of_ble_eq_true rfl) rfl ?_
  refine lh_aload_n (q := 0) rfl rfl rfl ?_
  refine lh_iload_n (q := 1) rfl rfl rfl ?_
  refine lh_bdE hf (fun r1 e2 hf => ?_)
  refine lh_cVv (N := m_LM_takeWord) (d := 2) (o := 65) (As := [.int x1]) (st := []) rfl rfl v_LM_takeWord (hS.1 0 _ rfl) rfl rfl rfl ⟨rfl, rfl⟩ rfl (t_LM_takeWord hG hS e2 ?_)
  refine lh_aload_n (q := 0) rfl rfl rfl ?_
  refine lh_iload_n (q := 2) rfl rfl rfl ?_
  refine lh_iload_n (q := 3) rfl rfl rfl ?_
  refine lh_bdE hf (fun r3 e4 hf => ?_)
  refine lh_cVi (N := m_LM_takeNumber) (d := 1) (o := 65) (As := [.int x2, .int x3]) (st := []) rfl rfl v_LM_takeNumber (hS.1 0 _ rfl) rfl rfl rfl ⟨rfl, rfl⟩ rfl (t_LM_takeNumber hG hS e4 ?_)
  exact lh_iret rfl rfl rfl (by obtain rfl := Option.some.inj hf; exact hK)
def f_LM_readCells_2 (v1 : Int32) (L : lh_LL) : Nat → Int32 → lh_II → Option (Int32 × lh_II)
  | 0, _, _ => none
  | n + 1, v2, I => if (I (65 + 4) 8) = 0 then if v2 = 0 then lh_bd (f_LM_takeNumber (0 : Int32) (11 : Int32) I L) fun r3 => if (r3.2 (65 + 4) 8) = 0 then if v2 = 8 then lh_bd (f_LM_wrong (5 : Int32) (lh_u2 r3.2 (65 + 4) 7 ((r3.2 (65 + 4) 7) - 1))) fun r8 => f_LM_readCells_2 v1 L n v2 r8 else lh_gd (lh_ix (v1 + v2) 200) (f_LM_readCells_2 v1 L n (v2 + 1) (lh_u2 r3.2 (71 + 4) (v1 + v2).toNatClampNeg r3.1)) else f_LM_readCells_2 v1 L n v2 r3.2 else lh_gd (lh_ix (I (65 + 4) 7) 1002) (if (I (67 + 4) (I (65 + 4) 7).toNatClampNeg) = 2 then lh_bd (f_LM_takeNumber (0 : Int32) (11 : Int32) I L) fun r12 => if (r12.2 (65 + 4) 8) = 0 then if v2 = 8 then lh_bd (f_LM_wrong (5 : Int32) (lh_u2 r12.2 (65 + 4) 7 ((r12.2 (65 + 4) 7) - 1))) fun r17 => f_LM_readCells_2 v1 L n v2 r17 else lh_gd (lh_ix (v1 + v2) 200) (f_LM_readCells_2 v1 L n (v2 + 1) (lh_u2 r12.2 (71 + 4) (v1 + v2).toNatClampNeg r12.1)) else f_LM_readCells_2 v1 L n v2 r12.2 else some (v2, I)) else some (v2, I)
def f_LM_readCells (x1 : Int32) (I : lh_II) (L : lh_LL) : Option (Int32 × lh_II) := lh_bd (f_LM_readCells_2 x1 L lh_fuel 0 I) fun r19 => some (r19.1, r19.2)
theorem t_LM_readCells_2 {Γ : lh_Cx} {F : lh_FF} {S : lh_SS} {Z : List Frame → Array Value → State → State → Prop} (hG : lh_GX Γ) (hS : lh_laym F S)  {v1 : Int32} {L : lh_LL} : ∀ (n : Nat) (v2 : Int32) (I : lh_II) (o : Int32 × lh_II), f_LM_readCells_2 v1 L n v2 I = some o → ∀ (x0_ : lh_G Γ m_LM_readCells (lh_R 2 0 0) Z 0 0 47 [(2, .int o.1)] [] (o.2, L, F, S)), lh_G Γ m_LM_readCells (lh_R 2 0 0) Z 0 0 2 [(0, .ref (65 + 4)), (1, .int v1), (2, .int v2)] [] (I, L, F, S) := by
  intro n
  induction n with
  | zero => intro v2 I o hf; cases hf
  | succ n ih =>
    intro v2 I o hf x0_
    rw [f_LM_readCells_2] at hf
    refine lh_aload_n (q := 0) rfl rfl rfl ?_
    refine lh_getI4 rfl rfl (hS.1 0 _ rfl) rfl ?_
    refine lh_if_ne rfl (fun c1 => ?_) (fun c1 => ?_)
    · have hf := lh_ifF hf c1
      exact lh_less [2] rfl (by cases hf; exact x0_)
    · have hf := lh_ifT hf c1
      refine lh_iload_n (q := 2) rfl rfl rfl ?_
      refine lh_if_eq rfl (fun c2 => ?_) (fun c2 => ?_)
      · have hf := lh_ifT hf c2
        refine lh_aload_n (q := 0) rfl rfl rfl ?_
        refine lh_iconst rfl lh_k_0 ?_
        refine lh_bipush rfl lh_b_11 ?_
        refine lh_bdE hf (fun r3 e4 hf => ?_)
        refine lh_cVi (N := m_LM_takeNumber) (d := 1) (o := 65) (As := [.int 0, .int 11]) (st := []) rfl rfl v_LM_takeNumber (hS.1 0 _ rfl) rfl rfl rfl ⟨rfl, rfl⟩ rfl (t_LM_takeNumber hG hS e4 ?_)
        refine lh_istore_n (lv' := [(0, .ref (65 + 4)), (1, .int v1), (2, .int v2), (3, .int r3.1)]) rfl rfl rfl rfl ?_
        refine lh_aload_n (q := 0) rfl rfl rfl ?_
        refine lh_getI4 rfl rfl (hS.1 0 _ rfl) rfl ?_
        refine lh_if_ne rfl (fun c5 => ?_) (fun c5 => ?_)
        · have hf := lh_ifF hf c5
          refine lh_aload_n (q := 0) rfl rfl rfl ?_
          refine lh_getI4 rfl rfl (hS.1 0 _ rfl) rfl ?_
          refine lh_if_ne rfl (fun _ => ?_) (fun c => absurd c c5)
          refine lh_goto rfl ?_
          refine lh_less [0, 1, 2] rfl ?_
          exact ih v2 r3.2 _ hf x0_
        · have hf := lh_ifT hf c5
          refine lh_iload_n (q := 2) rfl rfl rfl ?_
          refine lh_bipush rfl lh_b_8 ?_
          refine lh_icmp_ne rfl (fun c6 => ?_) (fun c6 => ?_)
          · have hf := lh_ifF hf c6
            refine lh_aload_n (q := 0) rfl rfl rfl ?_
            refine lh_getI4 rfl rfl (hS.1 0 _ rfl) rfl ?_
            refine lh_if_ne rfl (fun c => absurd c5 c) (fun _ => ?_)
            refine lh_aload_n (q := 0) rfl rfl rfl ?_
            refine lh_getR4 rfl rfl (hS.1 0 _ rfl) rfl (hS.2 5 _ rfl) ?_
            refine lh_iload_n (q := 1) rfl rfl rfl ?_
            refine lh_iload_n (q := 2) rfl rfl rfl ?_
            refine lh_iadd rfl ?_
            refine lh_iload_n (q := 3) rfl rfl rfl ?_
            obtain ⟨g7, hf⟩ := lh_gdE hf
            refine lh_iast4 rfl (hS.1 6 _ rfl) g7 ?_
            refine lh_iinc (q := 2) (v := (v2 + 1)) (lv' := [(0, .ref (65 + 4)), (1, .int v1), (2, .int (v2 + 1)), (3, .int r3.1)]) rfl rfl (congrArg (v2 + ·) (by decide)) rfl rfl ?_
            refine lh_goto rfl ?_
            refine lh_less [0, 1, 2] rfl ?_
            exact ih (v2 + 1) (lh_u2 r3.2 (71 + 4) (v1 + v2).toNatClampNeg r3.1) _ hf x0_
          · have hf := lh_ifT hf c6
            refine lh_aload_n (q := 0) rfl rfl rfl ?_
            refine lh_dup rfl rfl ?_
            refine lh_getI4 rfl rfl (hS.1 0 _ rfl) rfl ?_
            refine lh_iconst rfl lh_k_1 ?_
            refine lh_isub rfl ?_
            refine lh_putI4 rfl rfl (hS.1 0 _ rfl) rfl rfl ?_
            refine lh_aload_n (q := 0) rfl rfl rfl ?_
            refine lh_iconst rfl lh_k_5 ?_
            refine lh_bdE hf (fun r8 e9 hf => ?_)
            refine lh_cVv (N := m_LM_wrong) (d := 0) (o := 65) (As := [.int 5]) (st := []) rfl rfl v_LM_wrong (hS.1 0 _ rfl) rfl rfl rfl ⟨rfl, rfl⟩ rfl (t_LM_wrong hG hS e9 ?_)
            refine lh_goto rfl ?_
            refine lh_goto rfl ?_
            refine lh_less [0, 1, 2] rfl ?_
            exact ih v2 r8 _ hf x0_
      · have hf := lh_ifF hf c2
        refine lh_aload_n (q := 0) rfl rfl rfl ?_
        refine lh_getR4 rfl rfl (hS.1 0 _ rfl) rfl (hS.2 1 _ rfl) ?_
        refine lh_aload_n (q := 0) rfl rfl rfl ?_
        refine lh_getI4 rfl rfl (hS.1 0 _ rfl) rfl ?_
        obtain ⟨g10, hf⟩ := lh_gdE hf
        refine lh_iald4 rfl (hS.1 2 _ rfl) g10 ?_
        refine lh_iconst rfl lh_k_2 ?_
        refine lh_icmp_ne rfl (fun c11 => ?_) (fun c11 => ?_)
        · have hf := lh_ifF hf c11
          exact lh_less [2] rfl (by cases hf; exact x0_)
        · have hf := lh_ifT hf c11
          refine lh_aload_n (q := 0) rfl rfl rfl ?_
          refine lh_iconst rfl lh_k_0 ?_
          refine lh_bipush rfl lh_b_11 ?_
          refine lh_bdE hf (fun r12 e13 hf => ?_)
          refine lh_cVi (N := m_LM_takeNumber) (d := 1) (o := 65) (As := [.int 0, .int 11]) (st := []) rfl rfl v_LM_takeNumber (hS.1 0 _ rfl) rfl rfl rfl ⟨rfl, rfl⟩ rfl (t_LM_takeNumber hG hS e13 ?_)
          refine lh_istore_n (lv' := [(0, .ref (65 + 4)), (1, .int v1), (2, .int v2), (3, .int r12.1)]) rfl rfl rfl rfl ?_
          refine lh_aload_n (q := 0) rfl rfl rfl ?_
          refine lh_getI4 rfl rfl (hS.1 0 _ rfl) rfl ?_
          refine lh_if_ne rfl (fun c14 => ?_) (fun c14 => ?_)
          · have hf := lh_ifF hf c14
            refine lh_aload_n (q := 0) rfl rfl rfl ?_
            refine lh_getI4 rfl rfl (hS.1 0 _ rfl) rfl ?_
            refine lh_if_ne rfl (fun _ => ?_) (fun c => absurd c c14)
            refine lh_goto rfl ?_
            refine lh_less [0, 1, 2] rfl ?_
            exact ih v2 r12.2 _ hf x0_
          · have hf := lh_ifT hf c14
            refine lh_iload_n (q := 2) rfl rfl rfl ?_
            refine lh_bipush rfl lh_b_8 ?_
            refine lh_icmp_ne rfl (fun c15 => ?_) (fun c15 => ?_)
            · have hf := lh_ifF hf c15
              refine lh_aload_n (q := 0) rfl rfl rfl ?_
              refine lh_getI4 rfl rfl (hS.1 0 _ rfl) rfl ?_
              refine lh_if_ne rfl (fun c => absurd c14 c) (fun _ => ?_)
              refine lh_aload_n (q := 0) rfl rfl rfl ?_
              refine lh_getR4 rfl rfl (hS.1 0 _ rfl) rfl (hS.2 5 _ rfl) ?_
              refine lh_iload_n (q := 1) rfl rfl rfl ?_
              refine lh_iload_n (q := 2) rfl rfl rfl ?_
              refine lh_iadd rfl ?_
              refine lh_iload_n (q := 3) rfl rfl rfl ?_
              obtain ⟨g16, hf⟩ := lh_gdE hf
              refine lh_iast4 rfl (hS.1 6 _ rfl) g16 ?_
              refine lh_iinc (q := 2) (v := (v2 + 1)) (lv' := [(0, .ref (65 + 4)), (1, .int v1), (2, .int (v2 + 1)), (3, .int r12.1)]) rfl rfl (congrArg (v2 + ·) (by decide)) rfl rfl ?_
              refine lh_goto rfl ?_
              refine lh_less [0, 1, 2] rfl ?_
              exact ih (v2 + 1) (lh_u2 r12.2 (71 + 4) (v1 + v2).toNatClampNeg r12.1) _ hf x0_
            · have hf := lh_ifT hf c15
              refine lh_aload_n (q := 0) rfl rfl rfl ?_
              refine lh_dup rfl rfl ?_
              refine lh_getI4 rfl rfl (hS.1 0 _ rfl) rfl ?_
              refine lh_iconst rfl lh_k_1 ?_
              refine lh_isub rfl ?_
              refine lh_putI4 rfl rfl (hS.1 0 _ rfl) rfl rfl ?_
              refine lh_aload_n (q := 0) rfl rfl rfl ?_
              refine lh_iconst rfl lh_k_5 ?_
              refine lh_bdE hf (fun r17 e18 hf => ?_)
              refine lh_cVv (N := m_LM_wrong) (d := 0) (o := 65) (As := [.int 5]) (st := []) rfl rfl v_LM_wrong (hS.1 0 _ rfl) rfl rfl rfl ⟨rfl, rfl⟩ rfl (t_LM_wrong hG hS e18 ?_)
              refine lh_goto rfl ?_
              refine lh_goto rfl ?_
              refine lh_less [0, 1, 2] rfl ?_
              exact ih v2 r17 _ hf x0_
theorem t_LM_readCells {Γ : lh_Cx} {I : lh_II} {L : lh_LL} {F : lh_FF} {S : lh_SS} {K : Int32 → lh_Hp → Prop} {r : Int32 × lh_II} (hG : lh_GX Γ) (hS : lh_laym F S)  {x1 : Int32} (hf : f_LM_readCells x1 I L = some r) (hK : K r.1 (r.2, L, F, S)) : lh_Met Γ m_LM_readCells 2 0 0 [.ref (65 + 4), .int x1] (I, L, F, S) (lh_ki K) := by
  rw [f_LM_readCells] at hf
  refine lh_ofG k_LM_readCells [(0, .ref (65 + 4)), (1, .int x1)] rfl (Nat.le_of_ble_eq_true rfl) rfl ?_
  refine lh_iconst rfl lh_k_0 ?_
  refine lh_istore_n (lv' := [(0, .ref (65 + 4)), (1, .int x1), (2, .int 0)]) rfl rfl rfl rfl ?_
  refine lh_bdE hf (fun r19 e20 hf => ?_)
  refine t_LM_readCells_2 hG hS  _ 0 I _ e20 ?_
  refine lh_iload_n (q := 0) rfl rfl rfl ?_
  exact lh_iret rfl rfl rfl (by obtain rfl := Option.some.inj hf; exact hK)
def f_LM_readVisitor (I : lh_II) (L : lh_LL) : Option (lh_II × lh_LL) := lh_bd (f_LM_readName (1 : Int32) (6 : Int32) I L) fun r1 => lh_bd (f_LM_takeOne (16 : Int32) (4 : Int32) r1.1 r1.2) fun r3 => lh_bd (f_LM_takeAfter (3 : Int32) (0 : Int32) (3 : Int32) r3.2 r1.2) fun r5 => lh_bd (f_LM_takeWord (4 : Int32) r5.2 r1.2) fun r7 => if (r7 (65 + 4) 8) = 0 then lh_gd (lh_ix (109 + (11 * (I (71 + 4) 101))) 200) (lh_gd (lh_ix ((109 + (11 * (I (71 + 4) 101))) + 1) 200) (lh_bd (f_LM_readCells ((109 + (11 * (I (71 + 4) 101))) + 3) (lh_u2 (lh_u2 r7 (71 + 4) (109 + (11 * (I (71 + 4) 101))).toNatClampNeg r3.1) (71 + 4) ((109 + (11 * (I (71 + 4) 101))) + 1).toNatClampNeg r5.1) r1.2) fun r12 => lh_gd (lh_ix ((109 + (11 * (I (71 + 4) 101))) + 2) 200) (some (lh_u2 r12.2 (71 + 4) ((109 + (11 * (I (71 + 4) 101))) + 2).toNatClampNeg r12.1, r1.2)))) else some (r7, r1.2)
theorem t_LM_readVisitor {Γ : lh_Cx} {I : lh_II} {L : lh_LL} {F : lh_FF} {S : lh_SS} {K : lh_Hp → Prop} {r : lh_II × lh_LL} (hG : lh_GX Γ) (hS : lh_laym F S)  (hf : f_LM_readVisitor I L = some r) (hK : K (r.1, r.2, F, S)) : lh_Met Γ m_LM_readVisitor 4 0 0 [.ref (65 + 4)] (I, L, F, S) (lh_kv K) := by
  rw [f_LM_readVisitor] at hf
  refine lh_ofG k_LM_readVisitor [(0, .ref (65 + 4))] rfl (Nat.le_of_ble_eq_true rfl) rfl ?_
  refine lh_bipush rfl lh_b_109 ?_
  refine lh_bipush rfl lh_b_11 ?_
  refine lh_aload_n (q := 0) rfl rfl rfl ?_
  refine lh_getR4 rfl rfl (hS.1 0 _ rfl) rfl (hS.2 5 _ rfl) ?_
  refine lh_bipush rfl lh_b_101 ?_
  refine lh_iald5 (k := 101) rfl (hS.1 6 _ rfl) (by decide) (by decide) ?_
  refine lh_imul rfl ?_
  refine lh_iadd rfl ?_
  refine lh_istore_n (lv' := [(0, .ref (65 + 4)), (1, .int (109 + (11 * (I (71 + 4) 101))))]) rfl rfl rfl rfl ?_
  refine lh_aload_n (q := 0) rfl rfl rfl ?_
  refine lh_iconst rfl lh_k_1 ?_
  refine lh_bipush rfl lh_b_6 ?_
  refine lh_bdE hf (fun r1 e2 hf => ?_)
  refine lh_cVv (N := m_LM_readName) (d := 3) (o := 65) (As := [.int 1, .int 6]) (st := []) rfl rfl v_LM_readName (hS.1 0 _ rfl) rfl rfl rfl ⟨rfl, rfl⟩ rfl (t_LM_readName hG hS e2 ?_)
  refine lh_aload_n (q := 0) rfl rfl rfl ?_
  refine lh_bipush rfl lh_b_16 ?_
  refine lh_iconst rfl lh_k_4 ?_
  refine lh_bdE hf (fun r3 e4 hf => ?_)
  refine lh_cVi (N := m_LM_takeOne) (d := 2) (o := 65) (As := [.int 16, .int 4]) (st := []) rfl rfl v_LM_takeOne (hS.1 0 _ rfl) rfl rfl rfl ⟨rfl, rfl⟩ rfl (t_LM_takeOne hG hS e4 ?_)
  refine lh_istore_n (lv' := [(0, .ref (65 + 4)), (1, .int (109 + (11 * (I (71 + 4) 101)))), (2, .int r3.1)]) rfl rfl rfl rfl ?_
  refine lh_aload_n (q := 0) rfl rfl rfl ?_
  refine lh_iconst rfl lh_k_3 ?_
  refine lh_iconst rfl lh_k_0 ?_
  refine lh_iconst rfl lh_k_3 ?_
  refine lh_bdE hf (fun r5 e6 hf => ?_)
  refine lh_cVi (N := m_LM_takeAfter) (d := 3) (o := 65) (As := [.int 3, .int 0, .int 3]) (st := []) rfl rfl v_LM_takeAfter (hS.1 0 _ rfl) rfl rfl rfl ⟨rfl, rfl⟩ rfl (t_LM_takeAfter hG hS e6 ?_)
  refine lh_istore_n (lv' := [(0, .ref (65 + 4)), (1, .int (109 + (11 * (I (71 + 4) 101)))), (2, .int r3.1), (3, .int r5.1)]) rfl rfl rfl rfl ?_
  refine lh_aload_n (q := 0) rfl rfl rfl ?_
  refine lh_iconst rfl lh_k_4 ?_
  refine lh_bdE hf (fun r7 e8 hf => ?_)
  refine lh_cVv (N := m_LM_takeWord) (d := 2) (o := 65) (As := [.int 4]) (st := []) rfl rfl v_LM_takeWord (hS.1 0 _ rfl) rfl rfl rfl ⟨rfl, rfl⟩ rfl (t_LM_takeWord hG hS e8 ?_)
  refine lh_aload_n (q := 0) rfl rfl rfl ?_
  refine lh_getI4 rfl rfl (hS.1 0 _ rfl) rfl ?_
  refine lh_if_ne rfl (fun c9 => ?_) (fun c9 => ?_)
  · have hf := lh_ifF hf c9
    exact lh_vret rfl rfl (by obtain rfl := Option.some.inj hf; exact hK)
  · have hf := lh_ifT hf c9
    refine lh_aload_n (q := 0) rfl rfl rfl ?_
    refine lh_getR4 rfl rfl (hS.1 0 _ rfl) rfl (hS.2 5 _ rfl) ?_
    refine lh_iload_n (q := 1) rfl rfl rfl ?_
    refine lh_iload_n (q := 2) rfl rfl rfl ?_
    obtain ⟨g10, hf⟩ := lh_gdE hf
    refine lh_iast4 rfl (hS.1 6 _ rfl) g10 ?_
    refine lh_aload_n (q := 0) rfl rfl rfl ?_
    refine lh_getR4 rfl rfl (hS.1 0 _ rfl) rfl (hS.2 5 _ rfl) ?_
    refine lh_iload_n (q := 1) rfl rfl rfl ?_
    refine lh_iconst rfl lh_k_1 ?_
    refine lh_iadd rfl ?_
    refine lh_iload_n (q := 3) rfl rfl rfl ?_
    obtain ⟨g11, hf⟩ := lh_gdE hf
    refine lh_iast4 rfl (hS.1 6 _ rfl) g11 ?_
    refine lh_aload_n (q := 0) rfl rfl rfl ?_
    refine lh_getR4 rfl rfl (hS.1 0 _ rfl) rfl (hS.2 5 _ rfl) ?_
    refine lh_iload_n (q := 1) rfl rfl rfl ?_
    refine lh_iconst rfl lh_k_2 ?_
    refine lh_iadd rfl ?_
    refine lh_aload_n (q := 0) rfl rfl rfl ?_
    refine lh_iload_n (q := 1) rfl rfl rfl ?_
    refine lh_iconst rfl lh_k_3 ?_
    refine lh_iadd rfl ?_
    refine lh_bdE hf (fun r12 e13 hf => ?_)
    refine lh_cVi (N := m_LM_readCells) (d := 2) (o := 65) (As := [.int ((109 + (11 * (I (71 + 4) 101))) + 3)]) (st := [.int ((109 + (11 * (I (71 + 4) 101))) + 2), .ref (71 + 4)]) rfl rfl v_LM_readCells (hS.1 0 _ rfl) rfl rfl rfl ⟨rfl, rfl⟩ rfl (t_LM_readCells hG hS e13 ?_)
    obtain ⟨g14, hf⟩ := lh_gdE hf
    refine lh_iast4 rfl (hS.1 6 _ rfl) g14 ?_
    exact lh_vret rfl rfl (by obtain rfl := Option.some.inj hf; exact hK)
def f_LM_isSign (x1 : Int32) (I : lh_II) (L : lh_LL) : Option (Int32) := if (I (65 + 4) 8) = 0 then lh_gd (lh_ix (I (65 + 4) 7) 1002) (if (I (67 + 4) (I (65 + 4) 7).toNatClampNeg) = 3 then lh_gd (lh_ix (I (65 + 4) 7) 1002) (if (lg_cmp (L (69 + 4) (I (65 + 4) 7).toNatClampNeg) x1.toInt64) = 0 then some 1 else some 0) else some 0) else some 0
theorem t_LM_isSign {Γ : lh_Cx} {I : lh_II} {L : lh_LL} {F : lh_FF} {S : lh_SS} {K : Int32 → lh_Hp → Prop} {r : Int32} (hG : lh_GX Γ) (hS : lh_laym F S)  {x1 : Int32} (hf : f_LM_isSign x1 I L = some r) (hK : K r (I, L, F, S)) : lh_Met Γ m_LM_isSign 0 0 0 [.ref (65 + 4), .int x1] (I, L, F, S) (lh_ki K) := by
  rw [f_LM_isSign] at hf
  refine lh_ofG k_LM_isSign [(0, .ref (65 + 4)), (1, .int x1)] rfl (Nat.le_of_ble_eq_true rfl) rfl ?_
  refine lh_aload_n (q := 0) rfl rfl rfl ?_
  refine lh_getI4 rfl rfl (hS.1 0 _ rfl) rfl ?_
  refine lh_if_ne rfl (fun c1 => ?_) (fun c1 => ?_)
  · have hf := lh_ifF hf c1
    refine lh_iconst rfl lh_k_0 ?_
    exact lh_iret rfl rfl (by decide) (by obtain rfl := Option.some.inj hf; exact hK)
  · have hf := lh_ifT hf c1
    refine lh_aload_n (q := 0) rfl rfl rfl ?_
    refine lh_getR4 rfl rfl (hS.1 0 _ rfl) rfl (hS.2 1 _ rfl) ?_
    refine lh_aload_n (q := 0) rfl rfl rfl ?_
    refine lh_getI4 rfl rfl (hS.1 0 _ rfl) rfl ?_
    obtain ⟨g2, hf⟩ := lh_gdE hf
    refine lh_iald4 rfl (hS.1 2 _ rfl) g2 ?_
    refine lh_iconst rfl lh_k_3 ?_
    refine lh_icmp_ne rfl (fun c3 => ?_) (fun c3 => ?_)
    · have hf := lh_ifF hf c3
      refine lh_iconst rfl lh_k_0 ?_
      exact lh_iret rfl rfl (by decide) (by obtain rfl := Option.some.inj hf; exact hK)
    · have hf := lh_ifT hf c3
      refine lh_aload_n (q := 0) rfl rfl rfl ?_
      refine lh_getR4 rfl rfl (hS.1 0 _ rfl) rfl (hS.2 3 _ rfl) ?_
      refine lh_aload_n (q := 0) rfl rfl rfl ?_
      refine lh_getI4 rfl rfl (hS.1 0 _ rfl) rfl ?_
      obtain ⟨g4, hf⟩ := lh_gdE hf
      refine lh_lald4 rfl (hS.1 4 _ rfl) g4 ?_
      refine lh_iload_n (q := 1) rfl rfl rfl ?_
      refine lh_i2l rfl ?_
      refine lh_lcmp rfl ?_
      refine lh_if_ne rfl (fun c5 => ?_) (fun c5 => ?_)
      · have hf := lh_ifF hf c5
        refine lh_iconst rfl lh_k_0 ?_
        exact lh_iret rfl rfl (by decide) (by obtain rfl := Option.some.inj hf; exact hK)
      · have hf := lh_ifT hf c5
        refine lh_iconst rfl lh_k_1 ?_
        refine lh_goto rfl ?_
        exact lh_iret rfl rfl (by decide) (by obtain rfl := Option.some.inj hf; exact hK)
def f_LM_hasSign (x1 : Int32) (I : lh_II) (L : lh_LL) : Option (Int32 × lh_II) := lh_bd (f_LM_isSign x1 I L) fun r1 => if r1 = 0 then lh_gd (lh_z r1) (some (r1, lh_u2 I (65 + 4) 7 ((I (65 + 4) 7) + 0))) else lh_gd (lh_z r1) (some (r1, lh_u2 I (65 + 4) 7 ((I (65 + 4) 7) + 1)))
theorem t_LM_hasSign {Γ : lh_Cx} {I : lh_II} {L : lh_LL} {F : lh_FF} {S : lh_SS} {K : Int32 → lh_Hp → Prop} {r : Int32 × lh_II} (hG : lh_GX Γ) (hS : lh_laym F S)  {x1 : Int32} (hf : f_LM_hasSign x1 I L = some r) (hK : K r.1 (r.2, L, F, S)) : lh_Met Γ m_LM_hasSign 1 0 0 [.ref (65 + 4), .int x1] (I, L, F, S) (lh_ki K) := by
  rw [f_LM_hasSign] at hf
  refine lh_ofG k_LM_hasSign [(0, .ref (65 + 4)), (1, .int x1)] rfl (Nat.le_of_ble_eq_true rfl) rfl ?_
  refine lh_aload_n (q := 0) rfl rfl rfl ?_
  refine lh_iload_n (q := 1) rfl rfl rfl ?_
  refine lh_bdE hf (fun r1 e2 hf => ?_)
  refine lh_cVi (N := m_LM_isSign) (d := 0) (o := 65) (As := [.int x1]) (st := []) rfl rfl v_LM_isSign (hS.1 0 _ rfl) rfl rfl rfl ⟨rfl, rfl⟩ rfl (t_LM_isSign hG hS e2 ?_)
  refine lh_istore_n (lv' := [(0, .ref (65 + 4)), (1, .int x1), (2, .int r1)]) rfl rfl rfl rfl ?_
  refine lh_aload_n (q := 0) rfl rfl rfl ?_
  refine lh_dup rfl rfl ?_
  refine lh_getI4 rfl rfl (hS.1 0 _ rfl) rfl ?_
  refine lh_iload_n (q := 2) rfl rfl rfl ?_
  refine lh_if_eq rfl (fun c3 => ?_) (fun c3 => ?_)
  · have hf := lh_ifT hf c3
    refine lh_iconst rfl lh_k_0 ?_
    refine lh_iadd rfl ?_
    refine lh_putI4 rfl rfl (hS.1 0 _ rfl) rfl rfl ?_
    refine lh_iload_n (q := 2) rfl rfl rfl ?_
    obtain ⟨g4, hf⟩ := lh_gdE hf
    exact lh_iret rfl rfl (lh_z_nar g4) (by obtain rfl := Option.some.inj hf; exact hK)
  · have hf := lh_ifF hf c3
    refine lh_iconst rfl lh_k_1 ?_
    refine lh_goto rfl ?_
    refine lh_iadd rfl ?_
    refine lh_putI4 rfl rfl (hS.1 0 _ rfl) rfl rfl ?_
    refine lh_iload_n (q := 2) rfl rfl rfl ?_
    obtain ⟨g5, hf⟩ := lh_gdE hf
    exact lh_iret rfl rfl (lh_z_nar g5) (by obtain rfl := Option.some.inj hf; exact hK)
def f_LM_takeSign (x1 : Int32) (I : lh_II) (L : lh_LL) : Option (lh_II) := lh_bd (f_LM_isSign x1 I L) fun r1 => if r1 = 0 then lh_bd (f_LM_wrong (1 : Int32) I) fun r4 => some r4 else some (lh_u2 I (65 + 4) 7 ((I (65 + 4) 7) + 1))
theorem t_LM_takeSign {Γ : lh_Cx} {I : lh_II} {L : lh_LL} {F : lh_FF} {S : lh_SS} {K : lh_Hp → Prop} {r : lh_II} (hG : lh_GX Γ) (hS : lh_laym F S)  {x1 : Int32} (hf : f_LM_takeSign x1 I L = some r) (hK : K (r, L, F, S)) : lh_Met Γ m_LM_takeSign 1 0 0 [.ref (65 + 4), .int x1] (I, L, F, S) (lh_kv K) := by
  rw [f_LM_takeSign] at hf
  refine lh_ofG k_LM_takeSign [(0, .ref (65 + 4)), (1, .int x1)] rfl (Nat.le_of_ble_eq_true rfl) rfl ?_
  refine lh_aload_n (q := 0) rfl rfl rfl ?_
  refine lh_iload_n (q := 1) rfl rfl rfl ?_
  refine lh_bdE hf (fun r1 e2 hf => ?_)
  refine lh_cVi (N := m_LM_isSign) (d := 0) (o := 65) (As := [.int x1]) (st := []) rfl rfl v_LM_isSign (hS.1 0 _ rfl) rfl rfl rfl ⟨rfl, rfl⟩ rfl (t_LM_isSign hG hS e2 ?_)
  refine lh_if_eq rfl (fun c3 => ?_) (fun c3 => ?_)
  · have hf := lh_ifT hf c3
    refine lh_aload_n (q := 0) rfl rfl rfl ?_
    refine lh_iconst rfl lh_k_1 ?_
    refine lh_bdE hf (fun r4 e5 hf => ?_)
    refine lh_cVv (N := m_LM_wrong) (d := 0) (o := 65) (As := [.int 1]) (st := []) rfl rfl v_LM_wrong (hS.1 0 _ rfl) rfl rfl rfl ⟨rfl, rfl⟩ rfl (t_LM_wrong hG hS e5 ?_)
    exact lh_vret rfl rfl (by obtain rfl := Option.some.inj hf; exact hK)
  · have hf := lh_ifF hf c3
    refine lh_aload_n (q := 0) rfl rfl rfl ?_
    refine lh_dup rfl rfl ?_
    refine lh_getI4 rfl rfl (hS.1 0 _ rfl) rfl ?_
    refine lh_iconst rfl lh_k_1 ?_
    refine lh_iadd rfl ?_
    refine lh_putI4 rfl rfl (hS.1 0 _ rfl) rfl rfl ?_
    refine lh_goto rfl ?_
    exact lh_vret rfl rfl (by obtain rfl := Option.some.inj hf; exact hK)
def f_LM_thiefOf_7 (v1 : Int32) (v2 : Int32) (v3 : Int32) (I : lh_II) : Nat → Int32 → Int32 → Option (Int32)
  | 0, _, _ => none
  | n + 1, v4, v5 => if v5 < 0 then some v4 else lh_bd (f_LM_kindOf v5 I) fun r4 => if r4 = 3 then lh_bd (f_LM_dayOf v5 I) fun r7 => if r7 = v2 then lh_bd (f_LM_vaseAt v1 I) fun r10 => if r10 < 0 then f_LM_thiefOf_7 v1 v2 v3 I n v4 (v5 + (-1)) else lh_bd (f_LM_cellOf v5 v3 I) fun r13 => lh_bd (f_LM_vaseAt v1 I) fun r15 => if r13 = r15 then f_LM_thiefOf_7 v1 v2 v3 I n v5 (v5 + (-1)) else f_LM_thiefOf_7 v1 v2 v3 I n v4 (v5 + (-1)) else f_LM_thiefOf_7 v1 v2 v3 I n v4 (v5 + (-1)) else f_LM_thiefOf_7 v1 v2 v3 I n v4 (v5 + (-1))
def f_LM_thiefOf (x1 : Int32) (x2 : Int32) (x3 : Int32) (I : lh_II) : Option (Int32) := lh_bd (f_LM_visitors I) fun r1 => lh_bd (f_LM_thiefOf_7 x1 x2 x3 I lh_fuel (-1) (r1 - 1)) fun r18 => some r18
theorem t_LM_thiefOf_7 {Γ : lh_Cx} {F : lh_FF} {S : lh_SS} {Z : List Frame → Array Value → State → State → Prop} (hG : lh_GX Γ) (hS : lh_laym F S)  {v1 : Int32} {v2 : Int32} {v3 : Int32} {I : lh_II} {L : lh_LL} : ∀ (n : Nat) (v4 : Int32) (v5 : Int32) (o : Int32), f_LM_thiefOf_7 v1 v2 v3 I n v4 v5 = some o → ∀ (x0_ : lh_G Γ m_LM_thiefOf (lh_R 2 0 0) Z 0 0 43 [(4, .int o)] [] (I, L, F, S)), lh_G Γ m_LM_thiefOf (lh_R 2 0 0) Z 0 0 7 [(0, .ref (65 + 4)), (1, .int v1), (2, .int v2), (3, .int v3), (4, .int v4), (5, .int v5)] [] (I, L, F, S) := by
  intro n
  induction n with
  | zero => intro v4 v5 o hf; cases hf
  | succ n ih =>
    intro v4 v5 o hf x0_
    rw [f_LM_thiefOf_7] at hf
    refine lh_iload (q := 5) rfl rfl ?_
    refine lh_if_lt rfl (fun c3 => ?_) (fun c3 => ?_)
    · have hf := lh_ifT hf c3
      exact lh_less [4] rfl (by cases hf; exact x0_)
    · have hf := lh_ifF hf c3
      refine lh_aload_n (q := 0) rfl rfl rfl ?_
      refine lh_iload (q := 5) rfl rfl ?_
      refine lh_bdE hf (fun r4 e5 hf => ?_)
      refine lh_cVi (N := m_LM_kindOf) (d := 0) (o := 65) (As := [.int v5]) (st := []) rfl rfl v_LM_kindOf (hS.1 0 _ rfl) rfl rfl rfl ⟨rfl, rfl⟩ rfl (t_LM_kindOf hG hS e5 ?_)
      refine lh_iconst rfl lh_k_3 ?_
      refine lh_icmp_ne rfl (fun c6 => ?_) (fun c6 => ?_)
      · have hf := lh_ifF hf c6
        refine lh_iconst rfl lh_k_0 ?_
        refine lh_istore (lv' := [(0, .ref (65 + 4)), (1, .int v1), (2, .int v2), (3, .int v3), (4, .int v4), (5, .int v5), (6, .int 0)]) rfl rfl rfl ?_
        refine lh_iload (q := 6) rfl rfl ?_
        refine lh_if_eq rfl (fun _ => ?_) (fun c => absurd (by decide) c) 
        refine lh_iload (q := 4) rfl rfl ?_
        refine lh_istore (lv' := [(0, .ref (65 + 4)), (1, .int v1), (2, .int v2), (3, .int v3), (4, .int v4), (5, .int v5), (6, .int 0)]) rfl rfl rfl ?_
        refine lh_iinc (q := 5) (v := (v5 + (-1))) (lv' := [(0, .ref (65 + 4)), (1, .int v1), (2, .int v2), (3, .int v3), (4, .int v4), (5, .int (v5 + (-1))), (6, .int 0)]) rfl rfl (congrArg (v5 + ·) (by decide)) rfl rfl ?_
        refine lh_goto rfl ?_
        refine lh_less [0, 1, 2, 3, 4, 5] rfl ?_
        exact ih v4 (v5 + (-1)) _ hf x0_
      · have hf := lh_ifT hf c6
        refine lh_aload_n (q := 0) rfl rfl rfl ?_
        refine lh_iload (q := 5) rfl rfl ?_
        refine lh_bdE hf (fun r7 e8 hf => ?_)
        refine lh_cVi (N := m_LM_dayOf) (d := 0) (o := 65) (As := [.int v5]) (st := []) rfl rfl v_LM_dayOf (hS.1 0 _ rfl) rfl rfl rfl ⟨rfl, rfl⟩ rfl (t_LM_dayOf hG hS e8 ?_)
        refine lh_iload_n (q := 2) rfl rfl rfl ?_
        refine lh_icmp_ne rfl (fun c9 => ?_) (fun c9 => ?_)
        · have hf := lh_ifF hf c9
          refine lh_iconst rfl lh_k_0 ?_
          refine lh_istore (lv' := [(0, .ref (65 + 4)), (1, .int v1), (2, .int v2), (3, .int v3), (4, .int v4), (5, .int v5), (6, .int 0)]) rfl rfl rfl ?_
          refine lh_iload (q := 6) rfl rfl ?_
          refine lh_if_eq rfl (fun _ => ?_) (fun c => absurd (by decide) c) 
          refine lh_iload (q := 4) rfl rfl ?_
          refine lh_istore (lv' := [(0, .ref (65 + 4)), (1, .int v1), (2, .int v2), (3, .int v3), (4, .int v4), (5, .int v5), (6, .int 0)]) rfl rfl rfl ?_
          refine lh_iinc (q := 5) (v := (v5 + (-1))) (lv' := [(0, .ref (65 + 4)), (1, .int v1), (2, .int v2), (3, .int v3), (4, .int v4), (5, .int (v5 + (-1))), (6, .int 0)]) rfl rfl (congrArg (v5 + ·) (by decide)) rfl rfl ?_
          refine lh_goto rfl ?_
          refine lh_less [0, 1, 2, 3, 4, 5] rfl ?_
          exact ih v4 (v5 + (-1)) _ hf x0_
        · have hf := lh_ifT hf c9
          refine lh_aload_n (q := 0) rfl rfl rfl ?_
          refine lh_iload_n (q := 1) rfl rfl rfl ?_
          refine lh_bdE hf (fun r10 e11 hf => ?_)
          refine lh_cVi (N := m_LM_vaseAt) (d := 1) (o := 65) (As := [.int v1]) (st := []) rfl rfl v_LM_vaseAt (hS.1 0 _ rfl) rfl rfl rfl ⟨rfl, rfl⟩ rfl (t_LM_vaseAt hG hS e11 ?_)
          refine lh_if_lt rfl (fun c12 => ?_) (fun c12 => ?_)
          · have hf := lh_ifT hf c12
            refine lh_iconst rfl lh_k_0 ?_
            refine lh_istore (lv' := [(0, .ref (65 + 4)), (1, .int v1), (2, .int v2), (3, .int v3), (4, .int v4), (5, .int v5), (6, .int 0)]) rfl rfl rfl ?_
            refine lh_iload (q := 6) rfl rfl ?_
            refine lh_if_eq rfl (fun _ => ?_) (fun c => absurd (by decide) c) 
            refine lh_iload (q := 4) rfl rfl ?_
            refine lh_istore (lv' := [(0, .ref (65 + 4)), (1, .int v1), (2, .int v2), (3, .int v3), (4, .int v4), (5, .int v5), (6, .int 0)]) rfl rfl rfl ?_
            refine lh_iinc (q := 5) (v := (v5 + (-1))) (lv' := [(0, .ref (65 + 4)), (1, .int v1), (2, .int v2), (3, .int v3), (4, .int v4), (5, .int (v5 + (-1))), (6, .int 0)]) rfl rfl (congrArg (v5 + ·) (by decide)) rfl rfl ?_
            refine lh_goto rfl ?_
            refine lh_less [0, 1, 2, 3, 4, 5] rfl ?_
            exact ih v4 (v5 + (-1)) _ hf x0_
          · have hf := lh_ifF hf c12
            refine lh_aload_n (q := 0) rfl rfl rfl ?_
            refine lh_iload (q := 5) rfl rfl ?_
            refine lh_iload_n (q := 3) rfl rfl rfl ?_
            refine lh_bdE hf (fun r13 e14 hf => ?_)
            refine lh_cVi (N := m_LM_cellOf) (d := 1) (o := 65) (As := [.int v5, .int v3]) (st := []) rfl rfl v_LM_cellOf (hS.1 0 _ rfl) rfl rfl rfl ⟨rfl, rfl⟩ rfl (t_LM_cellOf hG hS e14 ?_)
            refine lh_aload_n (q := 0) rfl rfl rfl ?_
            refine lh_iload_n (q := 1) rfl rfl rfl ?_
            refine lh_bdE hf (fun r15 e16 hf => ?_)
            refine lh_cVi (N := m_LM_vaseAt) (d := 1) (o := 65) (As := [.int v1]) (st := [.int r13]) rfl rfl v_LM_vaseAt (hS.1 0 _ rfl) rfl rfl rfl ⟨rfl, rfl⟩ rfl (t_LM_vaseAt hG hS e16 ?_)
            refine lh_icmp_ne rfl (fun c17 => ?_) (fun c17 => ?_)
            · have hf := lh_ifF hf c17
              refine lh_iconst rfl lh_k_0 ?_
              refine lh_istore (lv' := [(0, .ref (65 + 4)), (1, .int v1), (2, .int v2), (3, .int v3), (4, .int v4), (5, .int v5), (6, .int 0)]) rfl rfl rfl ?_
              refine lh_iload (q := 6) rfl rfl ?_
              refine lh_if_eq rfl (fun _ => ?_) (fun c => absurd (by decide) c) 
              refine lh_iload (q := 4) rfl rfl ?_
              refine lh_istore (lv' := [(0, .ref (65 + 4)), (1, .int v1), (2, .int v2), (3, .int v3), (4, .int v4), (5, .int v5), (6, .int 0)]) rfl rfl rfl ?_
              refine lh_iinc (q := 5) (v := (v5 + (-1))) (lv' := [(0, .ref (65 + 4)), (1, .int v1), (2, .int v2), (3, .int v3), (4, .int v4), (5, .int (v5 + (-1))), (6, .int 0)]) rfl rfl (congrArg (v5 + ·) (by decide)) rfl rfl ?_
              refine lh_goto rfl ?_
              refine lh_less [0, 1, 2, 3, 4, 5] rfl ?_
              exact ih v4 (v5 + (-1)) _ hf x0_
            · have hf := lh_ifT hf c17
              refine lh_iconst rfl lh_k_1 ?_
              refine lh_goto rfl ?_
              refine lh_istore (lv' := [(0, .ref (65 + 4)), (1, .int v1), (2, .int v2), (3, .int v3), (4, .int v4), (5, .int v5), (6, .int 1)]) rfl rfl rfl ?_
              refine lh_iload (q := 6) rfl rfl ?_
              refine lh_if_eq rfl (fun c => absurd c (by decide)) (fun _ => ?_)
              refine lh_iload (q := 5) rfl rfl ?_
              refine lh_goto rfl ?_
              refine lh_istore (lv' := [(0, .ref (65 + 4)), (1, .int v1), (2, .int v2), (3, .int v3), (4, .int v5), (5, .int v5), (6, .int 1)]) rfl rfl rfl ?_
              refine lh_iinc (q := 5) (v := (v5 + (-1))) (lv' := [(0, .ref (65 + 4)), (1, .int v1), (2, .int v2), (3, .int v3), (4, .int v5), (5, .int (v5 + (-1))), (6, .int 1)]) rfl rfl (congrArg (v5 + ·) (by decide)) rfl rfl ?_
              refine lh_goto rfl ?_
              refine lh_less [0, 1, 2, 3, 4, 5] rfl ?_
              exact ih v5 (v5 + (-1)) _ hf x0_
theorem t_LM_thiefOf {Γ : lh_Cx} {I : lh_II} {L : lh_LL} {F : lh_FF} {S : lh_SS} {K : Int32 → lh_Hp → Prop} {r : Int32} (hG : lh_GX Γ) (hS : lh_laym F S)  {x1 : Int32} {x2 : Int32} {x3 : Int32} (hf : f_LM_thiefOf x1 x2 x3 I = some r) (hK : K r (I, L, F, S)) : lh_Met Γ m_LM_thiefOf 2 0 0 [.ref (65 + 4), .int x1, .int x2, .int x3] (I, L, F, S) (lh_ki K) := by
  rw [f_LM_thiefOf] at hf
  refine lh_ofG k_LM_thiefOf [(0, .ref (65 + 4)), (1, .int x1), (2, .int x2), (3, .int x3)] rfl (Nat.le_of_ble_eq_true rfl) rfl ?_
  refine lh_iconst rfl lh_k_m1 ?_
  refine lh_istore (lv' := [(0, .ref (65 + 4)), (1, .int x1), (2, .int x2), (3, .int x3), (4, .int (-1))]) rfl rfl rfl ?_
  refine lh_aload_n (q := 0) rfl rfl rfl ?_
  refine lh_bdE hf (fun r1 e2 hf => ?_)
  refine lh_cVi (N := m_LM_visitors) (d := 0) (o := 65) (As := []) (st := []) rfl rfl v_LM_visitors (hS.1 0 _ rfl) rfl rfl rfl ⟨rfl, rfl⟩ rfl (t_LM_visitors hG hS e2 ?_)
  refine lh_iconst rfl lh_k_1 ?_
  refine lh_isub rfl ?_
  refine lh_istore (lv' := [(0, .ref (65 + 4)), (1, .int x1), (2, .int x2), (3, .int x3), (4, .int (-1)), (5, .int (r1 - 1))]) rfl rfl rfl ?_
  refine lh_bdE hf (fun r18 e19 hf => ?_)
  refine t_LM_thiefOf_7 hG hS  _ (-1) (r1 - 1) _ e19 ?_
  refine lh_iload (q := 0) rfl rfl ?_
  exact lh_iret rfl rfl rfl (by obtain rfl := Option.some.inj hf; exact hK)
def f_LM_takenOf_4 (v1 : Int32) (v2 : Int32) (I : lh_II) : Nat → Int32 → Int32 → Option (Int32)
  | 0, _, _ => none
  | n + 1, v3, v4 => if v4 < 0 then some v3 else lh_bd (f_LM_thiefOf v1 v2 v4 I) fun r2 => if r2 < 0 then f_LM_takenOf_4 v1 v2 I n v3 (v4 + (-1)) else f_LM_takenOf_4 v1 v2 I n v4 (v4 + (-1))
def f_LM_takenOf (x1 : Int32) (x2 : Int32) (I : lh_II) : Option (Int32) := lh_bd (f_LM_takenOf_4 x1 x2 I lh_fuel (-1) 7) fun r5 => some r5
theorem t_LM_takenOf_4 {Γ : lh_Cx} {F : lh_FF} {S : lh_SS} {Z : List Frame → Array Value → State → State → Prop} (hG : lh_GX Γ) (hS : lh_laym F S)  {v1 : Int32} {v2 : Int32} {I : lh_II} {L : lh_LL} : ∀ (n : Nat) (v3 : Int32) (v4 : Int32) (o : Int32), f_LM_takenOf_4 v1 v2 I n v3 v4 = some o → ∀ (x0_ : lh_G Γ m_LM_takenOf (lh_R 3 0 0) Z 0 0 18 [(3, .int o)] [] (I, L, F, S)), lh_G Γ m_LM_takenOf (lh_R 3 0 0) Z 0 0 4 [(0, .ref (65 + 4)), (1, .int v1), (2, .int v2), (3, .int v3), (4, .int v4)] [] (I, L, F, S) := by
  intro n
  induction n with
  | zero => intro v3 v4 o hf; cases hf
  | succ n ih =>
    intro v3 v4 o hf x0_
    rw [f_LM_takenOf_4] at hf
    refine lh_iload (q := 4) rfl rfl ?_
    refine lh_if_lt rfl (fun c1 => ?_) (fun c1 => ?_)
    · have hf := lh_ifT hf c1
      exact lh_less [3] rfl (by cases hf; exact x0_)
    · have hf := lh_ifF hf c1
      refine lh_aload_n (q := 0) rfl rfl rfl ?_
      refine lh_iload_n (q := 1) rfl rfl rfl ?_
      refine lh_iload_n (q := 2) rfl rfl rfl ?_
      refine lh_iload (q := 4) rfl rfl ?_
      refine lh_bdE hf (fun r2 e3 hf => ?_)
      refine lh_cVi (N := m_LM_thiefOf) (d := 2) (o := 65) (As := [.int v1, .int v2, .int v4]) (st := []) rfl rfl v_LM_thiefOf (hS.1 0 _ rfl) rfl rfl rfl ⟨rfl, rfl⟩ rfl (t_LM_thiefOf hG hS e3 ?_)
      refine lh_if_lt rfl (fun c4 => ?_) (fun c4 => ?_)
      · have hf := lh_ifT hf c4
        refine lh_iload_n (q := 3) rfl rfl rfl ?_
        refine lh_istore_n (lv' := [(0, .ref (65 + 4)), (1, .int v1), (2, .int v2), (3, .int v3), (4, .int v4)]) rfl rfl rfl rfl ?_
        refine lh_iinc (q := 4) (v := (v4 + (-1))) (lv' := [(0, .ref (65 + 4)), (1, .int v1), (2, .int v2), (3, .int v3), (4, .int (v4 + (-1)))]) rfl rfl (congrArg (v4 + ·) (by decide)) rfl rfl ?_
        refine lh_goto rfl ?_
        exact ih v3 (v4 + (-1)) _ hf x0_
      · have hf := lh_ifF hf c4
        refine lh_iload (q := 4) rfl rfl ?_
        refine lh_goto rfl ?_
        refine lh_istore_n (lv' := [(0, .ref (65 + 4)), (1, .int v1), (2, .int v2), (3, .int v4), (4, .int v4)]) rfl rfl rfl rfl ?_
        refine lh_iinc (q := 4) (v := (v4 + (-1))) (lv' := [(0, .ref (65 + 4)), (1, .int v1), (2, .int v2), (3, .int v4), (4, .int (v4 + (-1)))]) rfl rfl (congrArg (v4 + ·) (by decide)) rfl rfl ?_
        refine lh_goto rfl ?_
        exact ih v4 (v4 + (-1)) _ hf x0_
theorem t_LM_takenOf {Γ : lh_Cx} {I : lh_II} {L : lh_LL} {F : lh_FF} {S : lh_SS} {K : Int32 → lh_Hp → Prop} {r : Int32} (hG : lh_GX Γ) (hS : lh_laym F S)  {x1 : Int32} {x2 : Int32} (hf : f_LM_takenOf x1 x2 I = some r) (hK : K r (I, L, F, S)) : lh_Met Γ m_LM_takenOf 3 0 0 [.ref (65 + 4), .int x1, .int x2] (I, L, F, S) (lh_ki K) := by
  rw [f_LM_takenOf] at hf
  refine lh_ofG k_LM_takenOf [(0, .ref (65 + 4)), (1, .int x1), (2, .int x2)] rfl (Nat.le_of_ble_eq_true rfl) rfl ?_
  refine lh_iconst rfl lh_k_m1 ?_
  refine lh_istore_n (lv' := [(0, .ref (65 + 4)), (1, .int x1), (2, .int x2), (3, .int (-1))]) rfl rfl rfl rfl ?_
  refine lh_bipush rfl lh_b_7 ?_
  refine lh_istore (lv' := [(0, .ref (65 + 4)), (1, .int x1), (2, .int x2), (3, .int (-1)), (4, .int 7)]) rfl rfl rfl ?_
  refine lh_bdE hf (fun r5 e6 hf => ?_)
  refine t_LM_takenOf_4 hG hS  _ (-1) 7 _ e6 ?_
  refine lh_iload_n (q := 0) rfl rfl rfl ?_
  exact lh_iret rfl rfl rfl (by obtain rfl := Option.some.inj hf; exact hK)
def f_LM_isThere (x1 : Int32) (x2 : Int32) (I : lh_II) : Option (Int32 × lh_II) := lh_bd (f_LM_vaseAt x2 I) fun r1 => if r1 < 0 then some (0, I) else lh_bd (f_LM_lightOf x1 I) fun r4 => if ((r4 >>> (r1 &&& 31)) &&& 1) = 0 then some (0, I) else lh_gd (lh_ix (x1 + 5) 736) (lh_bd (f_LM_dayShown x1 (I (78 + 4) (x1 + 5).toNatClampNeg) r1 I) fun r8 => lh_bd (f_LM_takenOf x2 r8.1 r8.2) fun r10 => if r10 < 0 then some (1, r8.2) else lh_gd (lh_ix (x1 + 2) 736) (if r10 ≤ (r8.2 (78 + 4) (x1 + 2).toNatClampNeg) then some (0, r8.2) else some (1, r8.2)))
theorem t_LM_isThere {Γ : lh_Cx} {I : lh_II} {L : lh_LL} {F : lh_FF} {S : lh_SS} {K : Int32 → lh_Hp → Prop} {r : Int32 × lh_II} (hG : lh_GX Γ) (hS : lh_laym F S)  {x1 : Int32} {x2 : Int32} (hf : f_LM_isThere x1 x2 I = some r) (hK : K r.1 (r.2, L, F, S)) : lh_Met Γ m_LM_isThere 4 0 0 [.ref (65 + 4), .int x1, .int x2] (I, L, F, S) (lh_ki K) := by
  rw [f_LM_isThere] at hf
  refine lh_ofG k_LM_isThere [(0, .ref (65 + 4)), (1, .int x1), (2, .int x2)] rfl (Nat.le_of_ble_eq_true rfl) rfl ?_
  refine lh_aload_n (q := 0) rfl rfl rfl ?_
  refine lh_iload_n (q := 2) rfl rfl rfl ?_
  refine lh_bdE hf (fun r1 e2 hf => ?_)
  refine lh_cVi (N := m_LM_vaseAt) (d := 1) (o := 65) (As := [.int x2]) (st := []) rfl rfl v_LM_vaseAt (hS.1 0 _ rfl) rfl rfl rfl ⟨rfl, rfl⟩ rfl (t_LM_vaseAt hG hS e2 ?_)
  refine lh_istore_n (lv' := [(0, .ref (65 + 4)), (1, .int x1), (2, .int x2), (3, .int r1)]) rfl rfl rfl rfl ?_
  refine lh_iload_n (q := 3) rfl rfl rfl ?_
  refine lh_if_lt rfl (fun c3 => ?_) (fun c3 => ?_)
  · have hf := lh_ifT hf c3
    refine lh_iconst rfl lh_k_0 ?_
    exact lh_iret rfl rfl (by decide) (by obtain rfl := Option.some.inj hf; exact hK)
  · have hf := lh_ifF hf c3
    refine lh_aload_n (q := 0) rfl rfl rfl ?_
    refine lh_iload_n (q := 1) rfl rfl rfl ?_
    refine lh_bdE hf (fun r4 e5 hf => ?_)
    refine lh_cVi (N := m_LM_lightOf) (d := 3) (o := 65) (As := [.int x1]) (st := []) rfl rfl v_LM_lightOf (hS.1 0 _ rfl) rfl rfl rfl ⟨rfl, rfl⟩ rfl (t_LM_lightOf hG hS e5 ?_)
    refine lh_iload_n (q := 3) rfl rfl rfl ?_
    refine lh_ishr rfl ?_
    refine lh_iconst rfl lh_k_1 ?_
    refine lh_iand rfl ?_
    refine lh_if_ne rfl (fun c6 => ?_) (fun c6 => ?_)
    · have hf := lh_ifF hf c6
      refine lh_aload_n (q := 0) rfl rfl rfl ?_
      refine lh_iload_n (q := 2) rfl rfl rfl ?_
      refine lh_aload_n (q := 0) rfl rfl rfl ?_
      refine lh_iload_n (q := 1) rfl rfl rfl ?_
      refine lh_aload_n (q := 0) rfl rfl rfl ?_
      refine lh_getR4 rfl rfl (hS.1 0 _ rfl) rfl (hS.2 12 _ rfl) ?_
      refine lh_iload_n (q := 1) rfl rfl rfl ?_
      refine lh_iconst rfl lh_k_5 ?_
      refine lh_iadd rfl ?_
      obtain ⟨g7, hf⟩ := lh_gdE hf
      refine lh_iald4 rfl (hS.1 13 _ rfl) g7 ?_
      refine lh_iload_n (q := 3) rfl rfl rfl ?_
      refine lh_bdE hf (fun r8 e9 hf => ?_)
      refine lh_cVi (N := m_LM_dayShown) (d := 2) (o := 65) (As := [.int x1, .int (I (78 + 4) (x1 + 5).toNatClampNeg), .int r1]) (st := [.int x2, .ref (65 + 4)]) rfl rfl v_LM_dayShown (hS.1 0 _ rfl) rfl rfl rfl ⟨rfl, rfl⟩ rfl (t_LM_dayShown hG hS e9 ?_)
      refine lh_bdE hf (fun r10 e11 hf => ?_)
      refine lh_cVi (N := m_LM_takenOf) (d := 3) (o := 65) (As := [.int x2, .int r8.1]) (st := []) rfl rfl v_LM_takenOf (hS.1 0 _ rfl) rfl rfl rfl ⟨rfl, rfl⟩ rfl (t_LM_takenOf hG hS e11 ?_)
      refine lh_istore (lv' := [(0, .ref (65 + 4)), (1, .int x1), (2, .int x2), (3, .int r1), (4, .int r10)]) rfl rfl rfl ?_
      refine lh_iload (q := 4) rfl rfl ?_
      refine lh_if_lt rfl (fun c12 => ?_) (fun c12 => ?_)
      · have hf := lh_ifT hf c12
        refine lh_iconst rfl lh_k_1 ?_
        refine lh_goto rfl ?_
        exact lh_iret rfl rfl (by decide) (by obtain rfl := Option.some.inj hf; exact hK)
      · have hf := lh_ifF hf c12
        refine lh_aload_n (q := 0) rfl rfl rfl ?_
        refine lh_getR4 rfl rfl (hS.1 0 _ rfl) rfl (hS.2 12 _ rfl) ?_
        refine lh_iload_n (q := 1) rfl rfl rfl ?_
        refine lh_iconst rfl lh_k_2 ?_
        refine lh_iadd rfl ?_
        obtain ⟨g13, hf⟩ := lh_gdE hf
        refine lh_iald4 rfl (hS.1 13 _ rfl) g13 ?_
        refine lh_iload (q := 4) rfl rfl ?_
        refine lh_icmp_ge rfl (fun c14 => ?_) (fun c14 => ?_)
        · have hf := lh_ifT hf c14
          refine lh_iconst rfl lh_k_0 ?_
          exact lh_iret rfl rfl (by decide) (by obtain rfl := Option.some.inj hf; exact hK)
        · have hf := lh_ifF hf c14
          refine lh_iconst rfl lh_k_1 ?_
          refine lh_goto rfl ?_
          exact lh_iret rfl rfl (by decide) (by obtain rfl := Option.some.inj hf; exact hK)
    · have hf := lh_ifT hf c6
      refine lh_iconst rfl lh_k_0 ?_
      exact lh_iret rfl rfl (by decide) (by obtain rfl := Option.some.inj hf; exact hK)
def f_LM_isWithAll_4 (v0 : Int64) (v2 : Int32) : Nat → Int32 → Int32 → Option (Int32)
  | 0, _, _ => none
  | n + 1, v3, v4 => if 64 ≤ v4 then some v3 else if v3 = 0 then if (lg_cmp ((v0 >>> (v4.toInt64 &&& 63)) &&& 1) (1 : Int64)) = 0 then if (v2 &&& (v4 ^^^ (-1))) = 0 then f_LM_isWithAll_4 v0 v2 n 1 (v4 + 1) else f_LM_isWithAll_4 v0 v2 n 0 (v4 + 1) else f_LM_isWithAll_4 v0 v2 n 0 (v4 + 1) else f_LM_isWithAll_4 v0 v2 n 1 (v4 + 1)
def f_LM_isWithAll (x1 : Int64) (x2 : Int32) : Option (Int32) := lh_bd (f_LM_isWithAll_4 x1 x2 lh_fuel 0 0) fun r5 => lh_gd (lh_z r5) (some r5)
theorem t_LM_isWithAll_4 {Γ : lh_Cx} {F : lh_FF} {S : lh_SS} {Z : List Frame → Array Value → State → State → Prop} (hG : lh_GX Γ) (hS : lh_laym F S)  {v0 : Int64} {v2 : Int32} {I : lh_II} {L : lh_LL} : ∀ (n : Nat) (v3 : Int32) (v4 : Int32) (o : Int32), f_LM_isWithAll_4 v0 v2 n v3 v4 = some o → ∀ (x0_ : lh_G Γ m_LM_isWithAll (lh_R 0 0 0) Z 0 0 29 [(3, .int o)] [] (I, L, F, S)), lh_G Γ m_LM_isWithAll (lh_R 0 0 0) Z 0 0 4 [(0, .long v0), (2, .int v2), (3, .int v3), (4, .int v4)] [] (I, L, F, S) := by
  intro n
  induction n with
  | zero => intro v3 v4 o hf; cases hf
  | succ n ih =>
    intro v3 v4 o hf x0_
    rw [f_LM_isWithAll_4] at hf
    refine lh_iload (q := 3) rfl rfl ?_
    refine lh_bipush rfl lh_b_64 ?_
    refine lh_icmp_ge rfl (fun c1 => ?_) (fun c1 => ?_)
    · have hf := lh_ifT hf c1
      exact lh_less [2] rfl (by cases hf; exact x0_)
    · have hf := lh_ifF hf c1
      refine lh_iload_n (q := 2) rfl rfl rfl ?_
      refine lh_if_ne rfl (fun c2 => ?_) (fun c2 => ?_)
      · have hf := lh_ifF hf c2
        refine lh_iconst rfl lh_k_1 ?_
        refine lh_goto rfl ?_
        refine lh_istore_n (lv' := [(0, .long v0), (2, .int v2), (3, .int 1), (4, .int v4)]) rfl rfl rfl rfl ?_
        refine lh_iinc (q := 3) (v := (v4 + 1)) (lv' := [(0, .long v0), (2, .int v2), (3, .int 1), (4, .int (v4 + 1))]) rfl rfl (congrArg (v4 + ·) (by decide)) rfl rfl ?_
        refine lh_goto rfl ?_
        exact ih 1 (v4 + 1) _ hf x0_
      · have hf := lh_ifT hf c2
        refine lh_lload_n (q := 0) rfl rfl rfl ?_
        refine lh_iload (q := 3) rfl rfl ?_
        refine lh_lshr rfl ?_
        refine lh_lconst (v := 1) rfl (by decide) ?_
        refine lh_land rfl ?_
        refine lh_lconst (v := 1) rfl (by decide) ?_
        refine lh_lcmp rfl ?_
        refine lh_if_ne rfl (fun c3 => ?_) (fun c3 => ?_)
        · have hf := lh_ifF hf c3
          refine lh_iconst rfl lh_k_0 ?_
          refine lh_istore_n (lv' := [(0, .long v0), (2, .int v2), (3, .int 0), (4, .int v4)]) rfl rfl rfl rfl ?_
          refine lh_iinc (q := 3) (v := (v4 + 1)) (lv' := [(0, .long v0), (2, .int v2), (3, .int 0), (4, .int (v4 + 1))]) rfl rfl (congrArg (v4 + ·) (by decide)) rfl rfl ?_
          refine lh_goto rfl ?_
          exact ih 0 (v4 + 1) _ hf x0_
        · have hf := lh_ifT hf c3
          refine lh_iload_n (q := 1) rfl rfl rfl ?_
          refine lh_iload (q := 3) rfl rfl ?_
          refine lh_iconst rfl lh_k_m1 ?_
          refine lh_ixor rfl ?_
          refine lh_iand rfl ?_
          refine lh_if_ne rfl (fun c4 => ?_) (fun c4 => ?_)
          · have hf := lh_ifF hf c4
            refine lh_iconst rfl lh_k_0 ?_
            refine lh_istore_n (lv' := [(0, .long v0), (2, .int v2), (3, .int 0), (4, .int v4)]) rfl rfl rfl rfl ?_
            refine lh_iinc (q := 3) (v := (v4 + 1)) (lv' := [(0, .long v0), (2, .int v2), (3, .int 0), (4, .int (v4 + 1))]) rfl rfl (congrArg (v4 + ·) (by decide)) rfl rfl ?_
            refine lh_goto rfl ?_
            exact ih 0 (v4 + 1) _ hf x0_
          · have hf := lh_ifT hf c4
            refine lh_iconst rfl lh_k_1 ?_
            refine lh_goto rfl ?_
            refine lh_istore_n (lv' := [(0, .long v0), (2, .int v2), (3, .int 1), (4, .int v4)]) rfl rfl rfl rfl ?_
            refine lh_iinc (q := 3) (v := (v4 + 1)) (lv' := [(0, .long v0), (2, .int v2), (3, .int 1), (4, .int (v4 + 1))]) rfl rfl (congrArg (v4 + ·) (by decide)) rfl rfl ?_
            refine lh_goto rfl ?_
            exact ih 1 (v4 + 1) _ hf x0_
theorem t_LM_isWithAll {Γ : lh_Cx} {I : lh_II} {L : lh_LL} {F : lh_FF} {S : lh_SS} {K : Int32 → lh_Hp → Prop} {r : Int32} (hG : lh_GX Γ) (hS : lh_laym F S)  {x1 : Int64} {x2 : Int32} (hf : f_LM_isWithAll x1 x2 = some r) (hK : K r (I, L, F, S)) : lh_Met Γ m_LM_isWithAll 0 0 0 [.long x1, .int x2] (I, L, F, S) (lh_ki K) := by
  rw [f_LM_isWithAll] at hf
  refine lh_ofG k_LM_isWithAll [(0, .long x1), (2, .int x2)] rfl (Nat.le_of_ble_eq_true rfl) rfl ?_
  refine lh_iconst rfl lh_k_0 ?_
  refine lh_istore_n (lv' := [(0, .long x1), (2, .int x2), (3, .int 0)]) rfl rfl rfl rfl ?_
  refine lh_iconst rfl lh_k_0 ?_
  refine lh_istore (lv' := [(0, .long x1), (2, .int x2), (3, .int 0), (4, .int 0)]) rfl rfl rfl ?_
  refine lh_bdE hf (fun r5 e6 hf => ?_)
  refine t_LM_isWithAll_4 hG hS  _ 0 0 _ e6 ?_
  refine lh_iload_n (q := 0) rfl rfl rfl ?_
  obtain ⟨g7, hf⟩ := lh_gdE hf
  exact lh_iret rfl rfl (lh_z_nar g7) (by obtain rfl := Option.some.inj hf; exact hK)
def f_LM_steps (x1 : Int32) (x2 : Int32) (I : lh_II) : Option (Int32 × lh_II) := lh_bd (f_LM_bumpsBy x1 x2 I) fun r1 => lh_bd (f_LM_cellBy x1 x2 r1.2) fun r3 => lh_gd (lh_ix (x1 + 5) 736) (lh_gd (lh_ix (x1 + 1) 736) (lh_gd (lh_ix (x1 + 1) 736) (lh_gd (lh_ix (x1 + 2) 736) (lh_gd (lh_ix (x1 + 2) 736) (lh_gd (lh_ix (x1 + 0) 736) (lh_gd (lh_ix (x1 + 0) 736) (lh_gd (lh_ix (x1 + 4) 736) (lh_gd (lh_ix (x1 + 4) 736) (if ((lh_u2 (lh_u2 (lh_u2 (lh_u2 r3.2 (78 + 4) (x1 + 5).toNatClampNeg r3.1) (78 + 4) (x1 + 1).toNatClampNeg (((lh_u2 r3.2 (78 + 4) (x1 + 5).toNatClampNeg r3.1) (78 + 4) (x1 + 1).toNatClampNeg) + r1.1)) (78 + 4) (x1 + 2).toNatClampNeg ((((lh_u2 (lh_u2 r3.2 (78 + 4) (x1 + 5).toNatClampNeg r3.1) (78 + 4) (x1 + 1).toNatClampNeg (((lh_u2 r3.2 (78 + 4) (x1 + 5).toNatClampNeg r3.1) (78 + 4) (x1 + 1).toNatClampNeg) + r1.1)) (78 + 4) (x1 + 2).toNatClampNeg) + 1) - (((lh_u2 (lh_u2 r3.2 (78 + 4) (x1 + 5).toNatClampNeg r3.1) (78 + 4) (x1 + 1).toNatClampNeg (((lh_u2 r3.2 (78 + 4) (x1 + 5).toNatClampNeg r3.1) (78 + 4) (x1 + 1).toNatClampNeg) + r1.1)) (78 + 4) (x1 + 2).toNatClampNeg) + 1) / 8 * 8)) (78 + 4) (x1 + 0).toNatClampNeg (((lh_u2 (lh_u2 (lh_u2 r3.2 (78 + 4) (x1 + 5).toNatClampNeg r3.1) (78 + 4) (x1 + 1).toNatClampNeg (((lh_u2 r3.2 (78 + 4) (x1 + 5).toNatClampNeg r3.1) (78 + 4) (x1 + 1).toNatClampNeg) + r1.1)) (78 + 4) (x1 + 2).toNatClampNeg ((((lh_u2 (lh_u2 r3.2 (78 + 4) (x1 + 5).toNatClampNeg r3.1) (78 + 4) (x1 + 1).toNatClampNeg (((lh_u2 r3.2 (78 + 4) (x1 + 5).toNatClampNeg r3.1) (78 + 4) (x1 + 1).toNatClampNeg) + r1.1)) (78 + 4) (x1 + 2).toNatClampNeg) + 1) - (((lh_u2 (lh_u2 r3.2 (78 + 4) (x1 + 5).toNatClampNeg r3.1) (78 + 4) (x1 + 1).toNatClampNeg (((lh_u2 r3.2 (78 + 4) (x1 + 5).toNatClampNeg r3.1) (78 + 4) (x1 + 1).toNatClampNeg) + r1.1)) (78 + 4) (x1 + 2).toNatClampNeg) + 1) / 8 * 8)) (78 + 4) (x1 + 0).toNatClampNeg) + 1)) (78 + 4) (x1 + 4).toNatClampNeg) ≤ 0 then lh_gd (lh_ix (x1 + 4) 736) (lh_gd (lh_ix (x1 + 6) 736) (lh_bd (f_LM_seenNow x1 (lh_u2 (lh_u2 (lh_u2 (lh_u2 (lh_u2 r3.2 (78 + 4) (x1 + 5).toNatClampNeg r3.1) (78 + 4) (x1 + 1).toNatClampNeg (((lh_u2 r3.2 (78 + 4) (x1 + 5).toNatClampNeg r3.1) (78 + 4) (x1 + 1).toNatClampNeg) + r1.1)) (78 + 4) (x1 + 2).toNatClampNeg ((((lh_u2 (lh_u2 r3.2 (78 + 4) (x1 + 5).toNatClampNeg r3.1) (78 + 4) (x1 + 1).toNatClampNeg (((lh_u2 r3.2 (78 + 4) (x1 + 5).toNatClampNeg r3.1) (78 + 4) (x1 + 1).toNatClampNeg) + r1.1)) (78 + 4) (x1 + 2).toNatClampNeg) + 1) - (((lh_u2 (lh_u2 r3.2 (78 + 4) (x1 + 5).toNatClampNeg r3.1) (78 + 4) (x1 + 1).toNatClampNeg (((lh_u2 r3.2 (78 + 4) (x1 + 5).toNatClampNeg r3.1) (78 + 4) (x1 + 1).toNatClampNeg) + r1.1)) (78 + 4) (x1 + 2).toNatClampNeg) + 1) / 8 * 8)) (78 + 4) (x1 + 0).toNatClampNeg (((lh_u2 (lh_u2 (lh_u2 r3.2 (78 + 4) (x1 + 5).toNatClampNeg r3.1) (78 + 4) (x1 + 1).toNatClampNeg (((lh_u2 r3.2 (78 + 4) (x1 + 5).toNatClampNeg r3.1) (78 + 4) (x1 + 1).toNatClampNeg) + r1.1)) (78 + 4) (x1 + 2).toNatClampNeg ((((lh_u2 (lh_u2 r3.2 (78 + 4) (x1 + 5).toNatClampNeg r3.1) (78 + 4) (x1 + 1).toNatClampNeg (((lh_u2 r3.2 (78 + 4) (x1 + 5).toNatClampNeg r3.1) (78 + 4) (x1 + 1).toNatClampNeg) + r1.1)) (78 + 4) (x1 + 2).toNatClampNeg) + 1) - (((lh_u2 (lh_u2 r3.2 (78 + 4) (x1 + 5).toNatClampNeg r3.1) (78 + 4) (x1 + 1).toNatClampNeg (((lh_u2 r3.2 (78 + 4) (x1 + 5).toNatClampNeg r3.1) (78 + 4) (x1 + 1).toNatClampNeg) + r1.1)) (78 + 4) (x1 + 2).toNatClampNeg) + 1) / 8 * 8)) (78 + 4) (x1 + 0).toNatClampNeg) + 1)) (78 + 4) (x1 + 4).toNatClampNeg (((lh_u2 (lh_u2 (lh_u2 (lh_u2 r3.2 (78 + 4) (x1 + 5).toNatClampNeg r3.1) (78 + 4) (x1 + 1).toNatClampNeg (((lh_u2 r3.2 (78 + 4) (x1 + 5).toNatClampNeg r3.1) (78 + 4) (x1 + 1).toNatClampNeg) + r1.1)) (78 + 4) (x1 + 2).toNatClampNeg ((((lh_u2 (lh_u2 r3.2 (78 + 4) (x1 + 5).toNatClampNeg r3.1) (78 + 4) (x1 + 1).toNatClampNeg (((lh_u2 r3.2 (78 + 4) (x1 + 5).toNatClampNeg r3.1) (78 + 4) (x1 + 1).toNatClampNeg) + r1.1)) (78 + 4) (x1 + 2).toNatClampNeg) + 1) - (((lh_u2 (lh_u2 r3.2 (78 + 4) (x1 + 5).toNatClampNeg r3.1) (78 + 4) (x1 + 1).toNatClampNeg (((lh_u2 r3.2 (78 + 4) (x1 + 5).toNatClampNeg r3.1) (78 + 4) (x1 + 1).toNatClampNeg) + r1.1)) (78 + 4) (x1 + 2).toNatClampNeg) + 1) / 8 * 8)) (78 + 4) (x1 + 0).toNatClampNeg (((lh_u2 (lh_u2 (lh_u2 r3.2 (78 + 4) (x1 + 5).toNatClampNeg r3.1) (78 + 4) (x1 + 1).toNatClampNeg (((lh_u2 r3.2 (78 + 4) (x1 + 5).toNatClampNeg r3.1) (78 + 4) (x1 + 1).toNatClampNeg) + r1.1)) (78 + 4) (x1 + 2).toNatClampNeg ((((lh_u2 (lh_u2 r3.2 (78 + 4) (x1 + 5).toNatClampNeg r3.1) (78 + 4) (x1 + 1).toNatClampNeg (((lh_u2 r3.2 (78 + 4) (x1 + 5).toNatClampNeg r3.1) (78 + 4) (x1 + 1).toNatClampNeg) + r1.1)) (78 + 4) (x1 + 2).toNatClampNeg) + 1) - (((lh_u2 (lh_u2 r3.2 (78 + 4) (x1 + 5).toNatClampNeg r3.1) (78 + 4) (x1 + 1).toNatClampNeg (((lh_u2 r3.2 (78 + 4) (x1 + 5).toNatClampNeg r3.1) (78 + 4) (x1 + 1).toNatClampNeg) + r1.1)) (78 + 4) (x1 + 2).toNatClampNeg) + 1) / 8 * 8)) (78 + 4) (x1 + 0).toNatClampNeg) + 1)) (78 + 4) (x1 + 4).toNatClampNeg) - 0))) fun r17 => lh_gd (lh_ix (x1 + 6) 736) (some (r1.1, lh_u2 r17.2 (78 + 4) (x1 + 6).toNatClampNeg (((lh_u2 (lh_u2 (lh_u2 (lh_u2 (lh_u2 r3.2 (78 + 4) (x1 + 5).toNatClampNeg r3.1) (78 + 4) (x1 + 1).toNatClampNeg (((lh_u2 r3.2 (78 + 4) (x1 + 5).toNatClampNeg r3.1) (78 + 4) (x1 + 1).toNatClampNeg) + r1.1)) (78 + 4) (x1 + 2).toNatClampNeg ((((lh_u2 (lh_u2 r3.2 (78 + 4) (x1 + 5).toNatClampNeg r3.1) (78 + 4) (x1 + 1).toNatClampNeg (((lh_u2 r3.2 (78 + 4) (x1 + 5).toNatClampNeg r3.1) (78 + 4) (x1 + 1).toNatClampNeg) + r1.1)) (78 + 4) (x1 + 2).toNatClampNeg) + 1) - (((lh_u2 (lh_u2 r3.2 (78 + 4) (x1 + 5).toNatClampNeg r3.1) (78 + 4) (x1 + 1).toNatClampNeg (((lh_u2 r3.2 (78 + 4) (x1 + 5).toNatClampNeg r3.1) (78 + 4) (x1 + 1).toNatClampNeg) + r1.1)) (78 + 4) (x1 + 2).toNatClampNeg) + 1) / 8 * 8)) (78 + 4) (x1 + 0).toNatClampNeg (((lh_u2 (lh_u2 (lh_u2 r3.2 (78 + 4) (x1 + 5).toNatClampNeg r3.1) (78 + 4) (x1 + 1).toNatClampNeg (((lh_u2 r3.2 (78 + 4) (x1 + 5).toNatClampNeg r3.1) (78 + 4) (x1 + 1).toNatClampNeg) + r1.1)) (78 + 4) (x1 + 2).toNatClampNeg ((((lh_u2 (lh_u2 r3.2 (78 + 4) (x1 + 5).toNatClampNeg r3.1) (78 + 4) (x1 + 1).toNatClampNeg (((lh_u2 r3.2 (78 + 4) (x1 + 5).toNatClampNeg r3.1) (78 + 4) (x1 + 1).toNatClampNeg) + r1.1)) (78 + 4) (x1 + 2).toNatClampNeg) + 1) - (((lh_u2 (lh_u2 r3.2 (78 + 4) (x1 + 5).toNatClampNeg r3.1) (78 + 4) (x1 + 1).toNatClampNeg (((lh_u2 r3.2 (78 + 4) (x1 + 5).toNatClampNeg r3.1) (78 + 4) (x1 + 1).toNatClampNeg) + r1.1)) (78 + 4) (x1 + 2).toNatClampNeg) + 1) / 8 * 8)) (78 + 4) (x1 + 0).toNatClampNeg) + 1)) (78 + 4) (x1 + 4).toNatClampNeg (((lh_u2 (lh_u2 (lh_u2 (lh_u2 r3.2 (78 + 4) (x1 + 5).toNatClampNeg r3.1) (78 + 4) (x1 + 1).toNatClampNeg (((lh_u2 r3.2 (78 + 4) (x1 + 5).toNatClampNeg r3.1) (78 + 4) (x1 + 1).toNatClampNeg) + r1.1)) (78 + 4) (x1 + 2).toNatClampNeg ((((lh_u2 (lh_u2 r3.2 (78 + 4) (x1 + 5).toNatClampNeg r3.1) (78 + 4) (x1 + 1).toNatClampNeg (((lh_u2 r3.2 (78 + 4) (x1 + 5).toNatClampNeg r3.1) (78 + 4) (x1 + 1).toNatClampNeg) + r1.1)) (78 + 4) (x1 + 2).toNatClampNeg) + 1) - (((lh_u2 (lh_u2 r3.2 (78 + 4) (x1 + 5).toNatClampNeg r3.1) (78 + 4) (x1 + 1).toNatClampNeg (((lh_u2 r3.2 (78 + 4) (x1 + 5).toNatClampNeg r3.1) (78 + 4) (x1 + 1).toNatClampNeg) + r1.1)) (78 + 4) (x1 + 2).toNatClampNeg) + 1) / 8 * 8)) (78 + 4) (x1 + 0).toNatClampNeg (((lh_u2 (lh_u2 (lh_u2 r3.2 (78 + 4) (x1 + 5).toNatClampNeg r3.1) (78 + 4) (x1 + 1).toNatClampNeg (((lh_u2 r3.2 (78 + 4) (x1 + 5).toNatClampNeg r3.1) (78 + 4) (x1 + 1).toNatClampNeg) + r1.1)) (78 + 4) (x1 + 2).toNatClampNeg ((((lh_u2 (lh_u2 r3.2 (78 + 4) (x1 + 5).toNatClampNeg r3.1) (78 + 4) (x1 + 1).toNatClampNeg (((lh_u2 r3.2 (78 + 4) (x1 + 5).toNatClampNeg r3.1) (78 + 4) (x1 + 1).toNatClampNeg) + r1.1)) (78 + 4) (x1 + 2).toNatClampNeg) + 1) - (((lh_u2 (lh_u2 r3.2 (78 + 4) (x1 + 5).toNatClampNeg r3.1) (78 + 4) (x1 + 1).toNatClampNeg (((lh_u2 r3.2 (78 + 4) (x1 + 5).toNatClampNeg r3.1) (78 + 4) (x1 + 1).toNatClampNeg) + r1.1)) (78 + 4) (x1 + 2).toNatClampNeg) + 1) / 8 * 8)) (78 + 4) (x1 + 0).toNatClampNeg) + 1)) (78 + 4) (x1 + 4).toNatClampNeg) - 0)) (78 + 4) (x1 + 6).toNatClampNeg) ||| r17.1))))) else lh_gd (lh_ix (x1 + 4) 736) (lh_gd (lh_ix (x1 + 6) 736) (lh_bd (f_LM_seenNow x1 (lh_u2 (lh_u2 (lh_u2 (lh_u2 (lh_u2 r3.2 (78 + 4) (x1 + 5).toNatClampNeg r3.1) (78 + 4) (x1 + 1).toNatClampNeg (((lh_u2 r3.2 (78 + 4) (x1 + 5).toNatClampNeg r3.1) (78 + 4) (x1 + 1).toNatClampNeg) + r1.1)) (78 + 4) (x1 + 2).toNatClampNeg ((((lh_u2 (lh_u2 r3.2 (78 + 4) (x1 + 5).toNatClampNeg r3.1) (78 + 4) (x1 + 1).toNatClampNeg (((lh_u2 r3.2 (78 + 4) (x1 + 5).toNatClampNeg r3.1) (78 + 4) (x1 + 1).toNatClampNeg) + r1.1)) (78 + 4) (x1 + 2).toNatClampNeg) + 1) - (((lh_u2 (lh_u2 r3.2 (78 + 4) (x1 + 5).toNatClampNeg r3.1) (78 + 4) (x1 + 1).toNatClampNeg (((lh_u2 r3.2 (78 + 4) (x1 + 5).toNatClampNeg r3.1) (78 + 4) (x1 + 1).toNatClampNeg) + r1.1)) (78 + 4) (x1 + 2).toNatClampNeg) + 1) / 8 * 8)) (78 + 4) (x1 + 0).toNatClampNeg (((lh_u2 (lh_u2 (lh_u2 r3.2 (78 + 4) (x1 + 5).toNatClampNeg r3.1) (78 + 4) (x1 + 1).toNatClampNeg (((lh_u2 r3.2 (78 + 4) (x1 + 5).toNatClampNeg r3.1) (78 + 4) (x1 + 1).toNatClampNeg) + r1.1)) (78 + 4) (x1 + 2).toNatClampNeg ((((lh_u2 (lh_u2 r3.2 (78 + 4) (x1 + 5).toNatClampNeg r3.1) (78 + 4) (x1 + 1).toNatClampNeg (((lh_u2 r3.2 (78 + 4) (x1 + 5).toNatClampNeg r3.1) (78 + 4) (x1 + 1).toNatClampNeg) + r1.1)) (78 + 4) (x1 + 2).toNatClampNeg) + 1) - (((lh_u2 (lh_u2 r3.2 (78 + 4) (x1 + 5).toNatClampNeg r3.1) (78 + 4) (x1 + 1).toNatClampNeg (((lh_u2 r3.2 (78 + 4) (x1 + 5).toNatClampNeg r3.1) (78 + 4) (x1 + 1).toNatClampNeg) + r1.1)) (78 + 4) (x1 + 2).toNatClampNeg) + 1) / 8 * 8)) (78 + 4) (x1 + 0).toNatClampNeg) + 1)) (78 + 4) (x1 + 4).toNatClampNeg (((lh_u2 (lh_u2 (lh_u2 (lh_u2 r3.2 (78 + 4) (x1 + 5).toNatClampNeg r3.1) (78 + 4) (x1 + 1).toNatClampNeg (((lh_u2 r3.2 (78 + 4) (x1 + 5).toNatClampNeg r3.1) (78 + 4) (x1 + 1).toNatClampNeg) + r1.1)) (78 + 4) (x1 + 2).toNatClampNeg ((((lh_u2 (lh_u2 r3.2 (78 + 4) (x1 + 5).toNatClampNeg r3.1) (78 + 4) (x1 + 1).toNatClampNeg (((lh_u2 r3.2 (78 + 4) (x1 + 5).toNatClampNeg r3.1) (78 + 4) (x1 + 1).toNatClampNeg) + r1.1)) (78 + 4) (x1 + 2).toNatClampNeg) + 1) - (((lh_u2 (lh_u2 r3.2 (78 + 4) (x1 + 5).toNatClampNeg r3.1) (78 + 4) (x1 + 1).toNatClampNeg (((lh_u2 r3.2 (78 + 4) (x1 + 5).toNatClampNeg r3.1) (78 + 4) (x1 + 1).toNatClampNeg) + r1.1)) (78 + 4) (x1 + 2).toNatClampNeg) + 1) / 8 * 8)) (78 + 4) (x1 + 0).toNatClampNeg (((lh_u2 (lh_u2 (lh_u2 r3.2 (78 + 4) (x1 + 5).toNatClampNeg r3.1) (78 + 4) (x1 + 1).toNatClampNeg (((lh_u2 r3.2 (78 + 4) (x1 + 5).toNatClampNeg r3.1) (78 + 4) (x1 + 1).toNatClampNeg) + r1.1)) (78 + 4) (x1 + 2).toNatClampNeg ((((lh_u2 (lh_u2 r3.2 (78 + 4) (x1 + 5).toNatClampNeg r3.1) (78 + 4) (x1 + 1).toNatClampNeg (((lh_u2 r3.2 (78 + 4) (x1 + 5).toNatClampNeg r3.1) (78 + 4) (x1 + 1).toNatClampNeg) + r1.1)) (78 + 4) (x1 + 2).toNatClampNeg) + 1) - (((lh_u2 (lh_u2 r3.2 (78 + 4) (x1 + 5).toNatClampNeg r3.1) (78 + 4) (x1 + 1).toNatClampNeg (((lh_u2 r3.2 (78 + 4) (x1 + 5).toNatClampNeg r3.1) (78 + 4) (x1 + 1).toNatClampNeg) + r1.1)) (78 + 4) (x1 + 2).toNatClampNeg) + 1) / 8 * 8)) (78 + 4) (x1 + 0).toNatClampNeg) + 1)) (78 + 4) (x1 + 4).toNatClampNeg) - 1))) fun r22 => lh_gd (lh_ix (x1 + 6) 736) (some (r1.1, lh_u2 r22.2 (78 + 4) (x1 + 6).toNatClampNeg (((lh_u2 (lh_u2 (lh_u2 (lh_u2 (lh_u2 r3.2 (78 + 4) (x1 + 5).toNatClampNeg r3.1) (78 + 4) (x1 + 1).toNatClampNeg (((lh_u2 r3.2 (78 + 4) (x1 + 5).toNatClampNeg r3.1) (78 + 4) (x1 + 1).toNatClampNeg) + r1.1)) (78 + 4) (x1 + 2).toNatClampNeg ((((lh_u2 (lh_u2 r3.2 (78 + 4) (x1 + 5).toNatClampNeg r3.1) (78 + 4) (x1 + 1).toNatClampNeg (((lh_u2 r3.2 (78 + 4) (x1 + 5).toNatClampNeg r3.1) (78 + 4) (x1 + 1).toNatClampNeg) + r1.1)) (78 + 4) (x1 + 2).toNatClampNeg) + 1) - (((lh_u2 (lh_u2 r3.2 (78 + 4) (x1 + 5).toNatClampNeg r3.1) (78 + 4) (x1 + 1).toNatClampNeg (((lh_u2 r3.2 (78 + 4) (x1 + 5).toNatClampNeg r3.1) (78 + 4) (x1 + 1).toNatClampNeg) + r1.1)) (78 + 4) (x1 + 2).toNatClampNeg) + 1) / 8 * 8)) (78 + 4) (x1 + 0).toNatClampNeg (((lh_u2 (lh_u2 (lh_u2 r3.2 (78 + 4) (x1 + 5).toNatClampNeg r3.1) (78 + 4) (x1 + 1).toNatClampNeg (((lh_u2 r3.2 (78 + 4) (x1 + 5).toNatClampNeg r3.1) (78 + 4) (x1 + 1).toNatClampNeg) + r1.1)) (78 + 4) (x1 + 2).toNatClampNeg ((((lh_u2 (lh_u2 r3.2 (78 + 4) (x1 + 5).toNatClampNeg r3.1) (78 + 4) (x1 + 1).toNatClampNeg (((lh_u2 r3.2 (78 + 4) (x1 + 5).toNatClampNeg r3.1) (78 + 4) (x1 + 1).toNatClampNeg) + r1.1)) (78 + 4) (x1 + 2).toNatClampNeg) + 1) - (((lh_u2 (lh_u2 r3.2 (78 + 4) (x1 + 5).toNatClampNeg r3.1) (78 + 4) (x1 + 1).toNatClampNeg (((lh_u2 r3.2 (78 + 4) (x1 + 5).toNatClampNeg r3.1) (78 + 4) (x1 + 1).toNatClampNeg) + r1.1)) (78 + 4) (x1 + 2).toNatClampNeg) + 1) / 8 * 8)) (78 + 4) (x1 + 0).toNatClampNeg) + 1)) (78 + 4) (x1 + 4).toNatClampNeg (((lh_u2 (lh_u2 (lh_u2 (lh_u2 r3.2 (78 + 4) (x1 + 5).toNatClampNeg r3.1) (78 + 4) (x1 + 1).toNatClampNeg (((lh_u2 r3.2 (78 + 4) (x1 + 5).toNatClampNeg r3.1) (78 + 4) (x1 + 1).toNatClampNeg) + r1.1)) (78 + 4) (x1 + 2).toNatClampNeg ((((lh_u2 (lh_u2 r3.2 (78 + 4) (x1 + 5).toNatClampNeg r3.1) (78 + 4) (x1 + 1).toNatClampNeg (((lh_u2 r3.2 (78 + 4) (x1 + 5).toNatClampNeg r3.1) (78 + 4) (x1 + 1).toNatClampNeg) + r1.1)) (78 + 4) (x1 + 2).toNatClampNeg) + 1) - (((lh_u2 (lh_u2 r3.2 (78 + 4) (x1 + 5).toNatClampNeg r3.1) (78 + 4) (x1 + 1).toNatClampNeg (((lh_u2 r3.2 (78 + 4) (x1 + 5).toNatClampNeg r3.1) (78 + 4) (x1 + 1).toNatClampNeg) + r1.1)) (78 + 4) (x1 + 2).toNatClampNeg) + 1) / 8 * 8)) (78 + 4) (x1 + 0).toNatClampNeg (((lh_u2 (lh_u2 (lh_u2 r3.2 (78 + 4) (x1 + 5).toNatClampNeg r3.1) (78 + 4) (x1 + 1).toNatClampNeg (((lh_u2 r3.2 (78 + 4) (x1 + 5).toNatClampNeg r3.1) (78 + 4) (x1 + 1).toNatClampNeg) + r1.1)) (78 + 4) (x1 + 2).toNatClampNeg ((((lh_u2 (lh_u2 r3.2 (78 + 4) (x1 + 5).toNatClampNeg r3.1) (78 + 4) (x1 + 1).toNatClampNeg (((lh_u2 r3.2 (78 + 4) (x1 + 5).toNatClampNeg r3.1) (78 + 4) (x1 + 1).toNatClampNeg) + r1.1)) (78 + 4) (x1 + 2).toNatClampNeg) + 1) - (((lh_u2 (lh_u2 r3.2 (78 + 4) (x1 + 5).toNatClampNeg r3.1) (78 + 4) (x1 + 1).toNatClampNeg (((lh_u2 r3.2 (78 + 4) (x1 + 5).toNatClampNeg r3.1) (78 + 4) (x1 + 1).toNatClampNeg) + r1.1)) (78 + 4) (x1 + 2).toNatClampNeg) + 1) / 8 * 8)) (78 + 4) (x1 + 0).toNatClampNeg) + 1)) (78 + 4) (x1 + 4).toNatClampNeg) - 1)) (78 + 4) (x1 + 6).toNatClampNeg) ||| r22.1))))))))))))))
theorem t_LM_steps {Γ : lh_Cx} {I : lh_II} {L : lh_LL} {F : lh_FF} {S : lh_SS} {K : Int32 → lh_Hp → Prop} {r : Int32 × lh_II} (hG : lh_GX Γ) (hS : lh_laym F S)  {x1 : Int32} {x2 : Int32} (hf : f_LM_steps x1 x2 I = some r) (hK : K r.1 (r.2, L, F, S)) : lh_Met Γ m_LM_steps 7 0 0 [.ref (65 + 4), .int x1, .int x2] (I, L, F, S) (lh_ki K) := by
  rw [f_LM_steps] at hf
  refine lh_ofG k_LM_steps [(0, .ref (65 + 4)), (1, .int x1), (2, .int x2)] rfl (Nat.le_of_ble_eq_true rfl) rfl ?_
  refine lh_aload_n (q := 0) rfl rfl rfl ?_
  refine lh_iload_n (q := 1) rfl rfl rfl ?_
  refine lh_iload_n (q := 2) rfl rfl rfl ?_
  refine lh_bdE hf (fun r1 e2 hf => ?_)
  refine lh_cVi (N := m_LM_bumpsBy) (d := 5) (o := 65) (As := [.int x1, .int x2]) (st := []) rfl rfl v_LM_bumpsBy (hS.1 0 _ rfl) rfl rfl rfl ⟨rfl, rfl⟩ rfl (t_LM_bumpsBy hG hS e2 ?_)
  refine lh_istore_n (lv' := [(0, .ref (65 + 4)), (1, .int x1), (2, .int x2), (3, .int r1.1)]) rfl rfl rfl rfl ?_
  refine lh_aload_n (q := 0) rfl rfl rfl ?_
  refine lh_getR4 rfl rfl (hS.1 0 _ rfl) rfl (hS.2 12 _ rfl) ?_
  refine lh_iload_n (q := 1) rfl rfl rfl ?_
  refine lh_iconst rfl lh_k_5 ?_
  refine lh_iadd rfl ?_
  refine lh_aload_n (q := 0) rfl rfl rfl ?_
  refine lh_iload_n (q := 1) rfl rfl rfl ?_
  refine lh_iload_n (q := 2) rfl rfl rfl ?_
  refine lh_bdE hf (fun r3 e4 hf => ?_)
  refine lh_cVi (N := m_LM_cellBy) (d := 6) (o := 65) (As := [.int x1, .int x2]) (st := [.int (x1 + 5), .ref (78 + 4)]) rfl rfl v_LM_cellBy (hS.1 0 _ rfl) rfl rfl rfl ⟨rfl, rfl⟩ rfl (t_LM_cellBy hG hS e4 ?_)
  obtain ⟨g5, hf⟩ := lh_gdE hf
  refine lh_iast4 rfl (hS.1 13 _ rfl) g5 ?_
  refine lh_aload_n (q := 0) rfl rfl rfl ?_
  refine lh_getR4 rfl rfl (hS.1 0 _ rfl) rfl (hS.2 12 _ rfl) ?_
  refine lh_iload_n (q := 1) rfl rfl rfl ?_
  refine lh_iconst rfl lh_k_1 ?_
  refine lh_iadd rfl ?_
  refine lh_dup2 rfl rfl rfl ?_
  obtain ⟨g6, hf⟩ := lh_gdE hf
  refine lh_iald4 rfl (hS.1 13 _ rfl) g6 ?_
  refine lh_iload_n (q := 3) rfl rfl rfl ?_
  refine lh_iadd rfl ?_
  obtain ⟨g7, hf⟩ := lh_gdE hf
  refine lh_iast4 rfl (hS.1 13 _ rfl) g7 ?_
  refine lh_aload_n (q := 0) rfl rfl rfl ?_
  refine lh_getR4 rfl rfl (hS.1 0 _ rfl) rfl (hS.2 12 _ rfl) ?_
  refine lh_iload_n (q := 1) rfl rfl rfl ?_
  refine lh_iconst rfl lh_k_2 ?_
  refine lh_iadd rfl ?_
  refine lh_aload_n (q := 0) rfl rfl rfl ?_
  refine lh_getR4 rfl rfl (hS.1 0 _ rfl) rfl (hS.2 12 _ rfl) ?_
  refine lh_iload_n (q := 1) rfl rfl rfl ?_
  refine lh_iconst rfl lh_k_2 ?_
  refine lh_iadd rfl ?_
  obtain ⟨g8, hf⟩ := lh_gdE hf
  refine lh_iald4 rfl (hS.1 13 _ rfl) g8 ?_
  refine lh_iconst rfl lh_k_1 ?_
  refine lh_iadd rfl ?_
  refine lh_bipush rfl lh_b_8 ?_
  refine lh_irem rfl (by decide) ?_
  obtain ⟨g9, hf⟩ := lh_gdE hf
  refine lh_iast4 rfl (hS.1 13 _ rfl) g9 ?_
  refine lh_aload_n (q := 0) rfl rfl rfl ?_
  refine lh_getR4 rfl rfl (hS.1 0 _ rfl) rfl (hS.2 12 _ rfl) ?_
  refine lh_iload_n (q := 1) rfl rfl rfl ?_
  refine lh_iconst rfl lh_k_0 ?_
  refine lh_iadd rfl ?_
  refine lh_dup2 rfl rfl rfl ?_
  obtain ⟨g10, hf⟩ := lh_gdE hf
  refine lh_iald4 rfl (hS.1 13 _ rfl) g10 ?_
  refine lh_iconst rfl lh_k_1 ?_
  refine lh_iadd rfl ?_
  obtain ⟨g11, hf⟩ := lh_gdE hf
  refine lh_iast4 rfl (hS.1 13 _ rfl) g11 ?_
  refine lh_aload_n (q := 0) rfl rfl rfl ?_
  refine lh_getR4 rfl rfl (hS.1 0 _ rfl) rfl (hS.2 12 _ rfl) ?_
  refine lh_iload_n (q := 1) rfl rfl rfl ?_
  refine lh_iconst rfl lh_k_4 ?_
  refine lh_iadd rfl ?_
  refine lh_dup2 rfl rfl rfl ?_
  obtain ⟨g12, hf⟩ := lh_gdE hf
  refine lh_iald4 rfl (hS.1 13 _ rfl) g12 ?_
  refine lh_aload_n (q := 0) rfl rfl rfl ?_
  refine lh_getR4 rfl rfl (hS.1 0 _ rfl) rfl (hS.2 12 _ rfl) ?_
  refine lh_iload_n (q := 1) rfl rfl rfl ?_
  refine lh_iconst rfl lh_k_4 ?_
  refine lh_iadd rfl ?_
  obtain ⟨g13, hf⟩ := lh_gdE hf
  refine lh_iald4 rfl (hS.1 13 _ rfl) g13 ?_
  refine lh_if_le rfl (fun c14 => ?_) (fun c14 => ?_)
  · have hf := lh_ifT hf c14
    refine lh_iconst rfl lh_k_0 ?_
    refine lh_isub rfl ?_
    obtain ⟨g15, hf⟩ := lh_gdE hf
    refine lh_iast4 rfl (hS.1 13 _ rfl) g15 ?_
    refine lh_aload_n (q := 0) rfl rfl rfl ?_
    refine lh_getR4 rfl rfl (hS.1 0 _ rfl) rfl (hS.2 12 _ rfl) ?_
    refine lh_iload_n (q := 1) rfl rfl rfl ?_
    refine lh_bipush rfl lh_b_6 ?_
    refine lh_iadd rfl ?_
    refine lh_dup2 rfl rfl rfl ?_
    obtain ⟨g16, hf⟩ := lh_gdE hf
    refine lh_iald4 rfl (hS.1 13 _ rfl) g16 ?_
    refine lh_aload_n (q := 0) rfl rfl rfl ?_
    refine lh_iload_n (q := 1) rfl rfl rfl ?_
    refine lh_bdE hf (fun r17 e18 hf => ?_)
    refine lh_cVi (N := m_LM_seenNow) (d := 4) (o := 65) (As := [.int x1]) (st := [.int ((lh_u2 (lh_u2 (lh_u2 (lh_u2 (lh_u2 r3.2 (78 + 4) (x1 + 5).toNatClampNeg r3.1) (78 + 4) (x1 + 1).toNatClampNeg (((lh_u2 r3.2 (78 + 4) (x1 + 5).toNatClampNeg r3.1) (78 + 4) (x1 + 1).toNatClampNeg) + r1.1)) (78 + 4) (x1 + 2).toNatClampNeg ((((lh_u2 (lh_u2 r3.2 (78 + 4) (x1 + 5).toNatClampNeg r3.1) (78 + 4) (x1 + 1).toNatClampNeg (((lh_u2 r3.2 (78 + 4) (x1 + 5).toNatClampNeg r3.1) (78 + 4) (x1 + 1).toNatClampNeg) + r1.1)) (78 + 4) (x1 + 2).toNatClampNeg) + 1) - (((lh_u2 (lh_u2 r3.2 (78 + 4) (x1 + 5).toNatClampNeg r3.1) (78 + 4) (x1 + 1).toNatClampNeg (((lh_u2 r3.2 (78 + 4) (x1 + 5).toNatClampNeg r3.1) (78 + 4) (x1 + 1).toNatClampNeg) + r1.1)) (78 + 4) (x1 + 2).toNatClampNeg) + 1) / 8 * 8)) (78 + 4) (x1 + 0).toNatClampNeg (((lh_u2 (lh_u2 (lh_u2 r3.2 (78 + 4) (x1 + 5).toNatClampNeg r3.1) (78 + 4) (x1 + 1).toNatClampNeg (((lh_u2 r3.2 (78 + 4) (x1 + 5).toNatClampNeg r3.1) (78 + 4) (x1 + 1).toNatClampNeg) + r1.1)) (78 + 4) (x1 + 2).toNatClampNeg ((((lh_u2 (lh_u2 r3.2 (78 + 4) (x1 + 5).toNatClampNeg r3.1) (78 + 4) (x1 + 1).toNatClampNeg (((lh_u2 r3.2 (78 + 4) (x1 + 5).toNatClampNeg r3.1) (78 + 4) (x1 + 1).toNatClampNeg) + r1.1)) (78 + 4) (x1 + 2).toNatClampNeg) + 1) - (((lh_u2 (lh_u2 r3.2 (78 + 4) (x1 + 5).toNatClampNeg r3.1) (78 + 4) (x1 + 1).toNatClampNeg (((lh_u2 r3.2 (78 + 4) (x1 + 5).toNatClampNeg r3.1) (78 + 4) (x1 + 1).toNatClampNeg) + r1.1)) (78 + 4) (x1 + 2).toNatClampNeg) + 1) / 8 * 8)) (78 + 4) (x1 + 0).toNatClampNeg) + 1)) (78 + 4) (x1 + 4).toNatClampNeg (((lh_u2 (lh_u2 (lh_u2 (lh_u2 r3.2 (78 + 4) (x1 + 5).toNatClampNeg r3.1) (78 + 4) (x1 + 1).toNatClampNeg (((lh_u2 r3.2 (78 + 4) (x1 + 5).toNatClampNeg r3.1) (78 + 4) (x1 + 1).toNatClampNeg) + r1.1)) (78 + 4) (x1 + 2).toNatClampNeg ((((lh_u2 (lh_u2 r3.2 (78 + 4) (x1 + 5).toNatClampNeg r3.1) (78 + 4) (x1 + 1).toNatClampNeg (((lh_u2 r3.2 (78 + 4) (x1 + 5).toNatClampNeg r3.1) (78 + 4) (x1 + 1).toNatClampNeg) + r1.1)) (78 + 4) (x1 + 2).toNatClampNeg) + 1) - (((lh_u2 (lh_u2 r3.2 (78 + 4) (x1 + 5).toNatClampNeg r3.1) (78 + 4) (x1 + 1).toNatClampNeg (((lh_u2 r3.2 (78 + 4) (x1 + 5).toNatClampNeg r3.1) (78 + 4) (x1 + 1).toNatClampNeg) + r1.1)) (78 + 4) (x1 + 2).toNatClampNeg) + 1) / 8 * 8)) (78 + 4) (x1 + 0).toNatClampNeg (((lh_u2 (lh_u2 (lh_u2 r3.2 (78 + 4) (x1 + 5).toNatClampNeg r3.1) (78 + 4) (x1 + 1).toNatClampNeg (((lh_u2 r3.2 (78 + 4) (x1 + 5).toNatClampNeg r3.1) (78 + 4) (x1 + 1).toNatClampNeg) + r1.1)) (78 + 4) (x1 + 2).toNatClampNeg ((((lh_u2 (lh_u2 r3.2 (78 + 4) (x1 + 5).toNatClampNeg r3.1) (78 + 4) (x1 + 1).toNatClampNeg (((lh_u2 r3.2 (78 + 4) (x1 + 5).toNatClampNeg r3.1) (78 + 4) (x1 + 1).toNatClampNeg) + r1.1)) (78 + 4) (x1 + 2).toNatClampNeg) + 1) - (((lh_u2 (lh_u2 r3.2 (78 + 4) (x1 + 5).toNatClampNeg r3.1) (78 + 4) (x1 + 1).toNatClampNeg (((lh_u2 r3.2 (78 + 4) (x1 + 5).toNatClampNeg r3.1) (78 + 4) (x1 + 1).toNatClampNeg) + r1.1)) (78 + 4) (x1 + 2).toNatClampNeg) + 1) / 8 * 8)) (78 + 4) (x1 + 0).toNatClampNeg) + 1)) (78 + 4) (x1 + 4).toNatClampNeg) - 0)) (78 + 4) (x1 + 6).toNatClampNeg), .int (x1 + 6), .ref (78 + 4)]) rfl rfl v_LM_seenNow (hS.1 0 _ rfl) rfl rfl rfl ⟨rfl, rfl⟩ rfl (t_LM_seenNow hG hS e18 ?_)
    refine lh_ior rfl ?_
    obtain ⟨g19, hf⟩ := lh_gdE hf
    refine lh_iast4 rfl (hS.1 13 _ rfl) g19 ?_
    refine lh_iload_n (q := 3) rfl rfl rfl ?_
    exact lh_iret rfl rfl rfl (by obtain rfl := Option.some.inj hf; exact hK)
  · have hf := lh_ifF hf c14
    refine lh_iconst rfl lh_k_1 ?_
    refine lh_goto rfl ?_
    refine lh_isub rfl ?_
    obtain ⟨g20, hf⟩ := lh_gdE hf
    refine lh_iast4 rfl (hS.1 13 _ rfl) g20 ?_
    refine lh_aload_n (q := 0) rfl rfl rfl ?_
    refine lh_getR4 rfl rfl (hS.1 0 _ rfl) rfl (hS.2 12 _ rfl) ?_
    refine lh_iload_n (q := 1) rfl rfl rfl ?_
    refine lh_bipush rfl lh_b_6 ?_
    refine lh_iadd rfl ?_
    refine lh_dup2 rfl rfl rfl ?_
    obtain ⟨g21, hf⟩ := lh_gdE hf
    refine lh_iald4 rfl (hS.1 13 _ rfl) g21 ?_
    refine lh_aload_n (q := 0) rfl rfl rfl ?_
    refine lh_iload_n (q := 1) rfl rfl rfl ?_
    refine lh_bdE hf (fun r22 e23 hf => ?_)
    refine lh_cVi (N := m_LM_seenNow) (d := 4) (o := 65) (As := [.int x1]) (st := [.int ((lh_u2 (lh_u2 (lh_u2 (lh_u2 (lh_u2 r3.2 (78 + 4) (x1 + 5).toNatClampNeg r3.1) (78 + 4) (x1 + 1).toNatClampNeg (((lh_u2 r3.2 (78 + 4) (x1 + 5).toNatClampNeg r3.1) (78 + 4) (x1 + 1).toNatClampNeg) + r1.1)) (78 + 4) (x1 + 2).toNatClampNeg ((((lh_u2 (lh_u2 r3.2 (78 + 4) (x1 + 5).toNatClampNeg r3.1) (78 + 4) (x1 + 1).toNatClampNeg (((lh_u2 r3.2 (78 + 4) (x1 + 5).toNatClampNeg r3.1) (78 + 4) (x1 + 1).toNatClampNeg) + r1.1)) (78 + 4) (x1 + 2).toNatClampNeg) + 1) - (((lh_u2 (lh_u2 r3.2 (78 + 4) (x1 + 5).toNatClampNeg r3.1) (78 + 4) (x1 + 1).toNatClampNeg (((lh_u2 r3.2 (78 + 4) (x1 + 5).toNatClampNeg r3.1) (78 + 4) (x1 + 1).toNatClampNeg) + r1.1)) (78 + 4) (x1 + 2).toNatClampNeg) + 1) / 8 * 8)) (78 + 4) (x1 + 0).toNatClampNeg (((lh_u2 (lh_u2 (lh_u2 r3.2 (78 + 4) (x1 + 5).toNatClampNeg r3.1) (78 + 4) (x1 + 1).toNatClampNeg (((lh_u2 r3.2 (78 + 4) (x1 + 5).toNatClampNeg r3.1) (78 + 4) (x1 + 1).toNatClampNeg) + r1.1)) (78 + 4) (x1 + 2).toNatClampNeg ((((lh_u2 (lh_u2 r3.2 (78 + 4) (x1 + 5).toNatClampNeg r3.1) (78 + 4) (x1 + 1).toNatClampNeg (((lh_u2 r3.2 (78 + 4) (x1 + 5).toNatClampNeg r3.1) (78 + 4) (x1 + 1).toNatClampNeg) + r1.1)) (78 + 4) (x1 + 2).toNatClampNeg) + 1) - (((lh_u2 (lh_u2 r3.2 (78 + 4) (x1 + 5).toNatClampNeg r3.1) (78 + 4) (x1 + 1).toNatClampNeg (((lh_u2 r3.2 (78 + 4) (x1 + 5).toNatClampNeg r3.1) (78 + 4) (x1 + 1).toNatClampNeg) + r1.1)) (78 + 4) (x1 + 2).toNatClampNeg) + 1) / 8 * 8)) (78 + 4) (x1 + 0).toNatClampNeg) + 1)) (78 + 4) (x1 + 4).toNatClampNeg (((lh_u2 (lh_u2 (lh_u2 (lh_u2 r3.2 (78 + 4) (x1 + 5).toNatClampNeg r3.1) (78 + 4) (x1 + 1).toNatClampNeg (((lh_u2 r3.2 (78 + 4) (x1 + 5).toNatClampNeg r3.1) (78 + 4) (x1 + 1).toNatClampNeg) + r1.1)) (78 + 4) (x1 + 2).toNatClampNeg ((((lh_u2 (lh_u2 r3.2 (78 + 4) (x1 + 5).toNatClampNeg r3.1) (78 + 4) (x1 + 1).toNatClampNeg (((lh_u2 r3.2 (78 + 4) (x1 + 5).toNatClampNeg r3.1) (78 + 4) (x1 + 1).toNatClampNeg) + r1.1)) (78 + 4) (x1 + 2).toNatClampNeg) + 1) - (((lh_u2 (lh_u2 r3.2 (78 + 4) (x1 + 5).toNatClampNeg r3.1) (78 + 4) (x1 + 1).toNatClampNeg (((lh_u2 r3.2 (78 + 4) (x1 + 5).toNatClampNeg r3.1) (78 + 4) (x1 + 1).toNatClampNeg) + r1.1)) (78 + 4) (x1 + 2).toNatClampNeg) + 1) / 8 * 8)) (78 + 4) (x1 + 0).toNatClampNeg (((lh_u2 (lh_u2 (lh_u2 r3.2 (78 + 4) (x1 + 5).toNatClampNeg r3.1) (78 + 4) (x1 + 1).toNatClampNeg (((lh_u2 r3.2 (78 + 4) (x1 + 5).toNatClampNeg r3.1) (78 + 4) (x1 + 1).toNatClampNeg) + r1.1)) (78 + 4) (x1 + 2).toNatClampNeg ((((lh_u2 (lh_u2 r3.2 (78 + 4) (x1 + 5).toNatClampNeg r3.1) (78 + 4) (x1 + 1).toNatClampNeg (((lh_u2 r3.2 (78 + 4) (x1 + 5).toNatClampNeg r3.1) (78 + 4) (x1 + 1).toNatClampNeg) + r1.1)) (78 + 4) (x1 + 2).toNatClampNeg) + 1) - (((lh_u2 (lh_u2 r3.2 (78 + 4) (x1 + 5).toNatClampNeg r3.1) (78 + 4) (x1 + 1).toNatClampNeg (((lh_u2 r3.2 (78 + 4) (x1 + 5).toNatClampNeg r3.1) (78 + 4) (x1 + 1).toNatClampNeg) + r1.1)) (78 + 4) (x1 + 2).toNatClampNeg) + 1) / 8 * 8)) (78 + 4) (x1 + 0).toNatClampNeg) + 1)) (78 + 4) (x1 + 4).toNatClampNeg) - 1)) (78 + 4) (x1 + 6).toNatClampNeg), .int (x1 + 6), .ref (78 + 4)]) rfl rfl v_LM_seenNow (hS.1 0 _ rfl) rfl rfl rfl ⟨rfl, rfl⟩ rfl (t_LM_seenNow hG hS e23 ?_)
    refine lh_ior rfl ?_
    obtain ⟨g24, hf⟩ := lh_gdE hf
    refine lh_iast4 rfl (hS.1 13 _ rfl) g24 ?_
    refine lh_iload_n (q := 3) rfl rfl rfl ?_
    exact lh_iret rfl rfl rfl (by obtain rfl := Option.some.inj hf; exact hK)
