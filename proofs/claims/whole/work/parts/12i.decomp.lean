/-! decompiled by program: f_.. the functions, t_.. that the methods do as they say -/
def f_Re_begin (I : lh_II) (L : lh_LL) : Option (lh_II × lh_LL) := lh_bd (f_Re_advance (lh_u2 (lh_u2 I (1 + 4) 3 0) (1 + 4) 8 0) L) fun r1 => some (r1.1, r1.2)
theorem t_Re_begin {Γ : lh_Cx} {I : lh_II} {L : lh_LL} {F : lh_FF} {S : lh_SS} {K : lh_Hp → Prop} {r : lh_II × lh_LL} (hG : lh_GX Γ) (hS : lh_lay F S)  (hf : f_Re_begin I L = some r) (hK : K (r.1, r.2, F, S)) : lh_Met Γ m_Re_begin 5 0 0 [.ref (1 + 4)] (I, L, F, S) (lh_kv K) := by
  rw [f_Re_begin] at hf
  refine lh_ofG k_Re_begin [(0, .ref (1 + 4))] rfl (Nat.le_of_ble_eq_true rfl) rfl ?_
  refine lh_aload_n (q := 0) rfl rfl rfl ?_
  refine lh_iconst rfl lh_k_0 ?_
  refine lh_putI4 rfl rfl (hS.1 1 _ rfl) rfl rfl ?_
  refine lh_aload_n (q := 0) rfl rfl rfl ?_
  refine lh_iconst rfl lh_k_0 ?_
  refine lh_putI4 rfl rfl (hS.1 1 _ rfl) rfl rfl ?_
  refine lh_aload_n (q := 0) rfl rfl rfl ?_
  refine lh_bdE hf (fun r1 e2 hf => ?_)
  refine lh_cVv (N := m_Re_advance) (d := 4) (o := 1) (As := []) (st := []) rfl rfl v_Re_advance (hS.1 1 _ rfl) rfl rfl rfl ⟨rfl, rfl⟩ rfl (t_Re_advance hG hS e2 ?_)
  exact lh_vret rfl rfl (by obtain rfl := Option.some.inj hf; exact hK)
def f_Re_isAtEnd (I : lh_II) : Option (Int32) := if (I (1 + 4) 4) = 37 then some 1 else if (I (1 + 4) 8) = 0 then some 0 else some 1
theorem t_Re_isAtEnd {Γ : lh_Cx} {I : lh_II} {L : lh_LL} {F : lh_FF} {S : lh_SS} {K : Int32 → lh_Hp → Prop} {r : Int32} (hG : lh_GX Γ) (hS : lh_lay F S)  (hf : f_Re_isAtEnd I = some r) (hK : K r (I, L, F, S)) : lh_Met Γ m_Re_isAtEnd 0 0 0 [.ref (1 + 4)] (I, L, F, S) (lh_ki K) := by
  rw [f_Re_isAtEnd] at hf
  refine lh_ofG k_Re_isAtEnd [(0, .ref (1 + 4))] rfl (Nat.le_of_ble_eq_true rfl) rfl ?_
  refine lh_aload_n (q := 0) rfl rfl rfl ?_
  refine lh_getI4 rfl rfl (hS.1 1 _ rfl) rfl ?_
  refine lh_bipush rfl lh_b_37 ?_
  refine lh_icmp_eq rfl (fun c1 => ?_) (fun c1 => ?_)
  · have hf := lh_ifT hf c1
    refine lh_iconst rfl lh_k_1 ?_
    refine lh_goto rfl ?_
    exact lh_iret rfl rfl (by decide) (by obtain rfl := Option.some.inj hf; exact hK)
  · have hf := lh_ifF hf c1
    refine lh_aload_n (q := 0) rfl rfl rfl ?_
    refine lh_getI4 rfl rfl (hS.1 1 _ rfl) rfl ?_
    refine lh_if_eq rfl (fun c2 => ?_) (fun c2 => ?_)
    · have hf := lh_ifT hf c2
      refine lh_iconst rfl lh_k_0 ?_
      exact lh_iret rfl rfl (by decide) (by obtain rfl := Option.some.inj hf; exact hK)
    · have hf := lh_ifF hf c2
      refine lh_iconst rfl lh_k_1 ?_
      refine lh_goto rfl ?_
      exact lh_iret rfl rfl (by decide) (by obtain rfl := Option.some.inj hf; exact hK)
def f_Re_finish (I : lh_II) : Option (Int32 × lh_II) := some (((lh_u2 I (1 + 4) 2 0) (1 + 4) 8), lh_u2 I (1 + 4) 2 0)
theorem t_Re_finish {Γ : lh_Cx} {I : lh_II} {L : lh_LL} {F : lh_FF} {S : lh_SS} {K : Int32 → lh_Hp → Prop} {r : Int32 × lh_II} (hG : lh_GX Γ) (hS : lh_lay F S)  (hf : f_Re_finish I = some r) (hK : K r.1 (r.2, L, F, S)) : lh_Met Γ m_Re_finish 0 0 0 [.ref (1 + 4)] (I, L, F, S) (lh_ki K) := by
  rw [f_Re_finish] at hf
  refine lh_ofG k_Re_finish [(0, .ref (1 + 4))] rfl (Nat.le_of_ble_eq_true rfl) rfl ?_
  refine lh_aload_n (q := 0) rfl rfl rfl ?_
  refine lh_iconst rfl lh_k_0 ?_
  refine lh_putI4 rfl rfl (hS.1 1 _ rfl) rfl rfl ?_
  refine lh_aload_n (q := 0) rfl rfl rfl ?_
  refine lh_getI4 rfl rfl (hS.1 1 _ rfl) rfl ?_
  exact lh_iret rfl rfl rfl (by obtain rfl := Option.some.inj hf; exact hK)
def f_Int_bitCount (x1 : Int32) : Option (Int32) := some ((((((((x1 - ((x1.toUInt32 >>> ((1 : Int32).toUInt32 &&& Int32.toUInt32 31)).toInt32 &&& 1431655765)) &&& 858993459) + (((x1 - ((x1.toUInt32 >>> ((1 : Int32).toUInt32 &&& Int32.toUInt32 31)).toInt32 &&& 1431655765)).toUInt32 >>> ((2 : Int32).toUInt32 &&& Int32.toUInt32 31)).toInt32 &&& 858993459)) + ((((x1 - ((x1.toUInt32 >>> ((1 : Int32).toUInt32 &&& Int32.toUInt32 31)).toInt32 &&& 1431655765)) &&& 858993459) + (((x1 - ((x1.toUInt32 >>> ((1 : Int32).toUInt32 &&& Int32.toUInt32 31)).toInt32 &&& 1431655765)).toUInt32 >>> ((2 : Int32).toUInt32 &&& Int32.toUInt32 31)).toInt32 &&& 858993459)).toUInt32 >>> ((4 : Int32).toUInt32 &&& Int32.toUInt32 31)).toInt32) &&& 252645135) + ((((((x1 - ((x1.toUInt32 >>> ((1 : Int32).toUInt32 &&& Int32.toUInt32 31)).toInt32 &&& 1431655765)) &&& 858993459) + (((x1 - ((x1.toUInt32 >>> ((1 : Int32).toUInt32 &&& Int32.toUInt32 31)).toInt32 &&& 1431655765)).toUInt32 >>> ((2 : Int32).toUInt32 &&& Int32.toUInt32 31)).toInt32 &&& 858993459)) + ((((x1 - ((x1.toUInt32 >>> ((1 : Int32).toUInt32 &&& Int32.toUInt32 31)).toInt32 &&& 1431655765)) &&& 858993459) + (((x1 - ((x1.toUInt32 >>> ((1 : Int32).toUInt32 &&& Int32.toUInt32 31)).toInt32 &&& 1431655765)).toUInt32 >>> ((2 : Int32).toUInt32 &&& Int32.toUInt32 31)).toInt32 &&& 858993459)).toUInt32 >>> ((4 : Int32).toUInt32 &&& Int32.toUInt32 31)).toInt32) &&& 252645135).toUInt32 >>> ((8 : Int32).toUInt32 &&& Int32.toUInt32 31)).toInt32) + (((((((x1 - ((x1.toUInt32 >>> ((1 : Int32).toUInt32 &&& Int32.toUInt32 31)).toInt32 &&& 1431655765)) &&& 858993459) + (((x1 - ((x1.toUInt32 >>> ((1 : Int32).toUInt32 &&& Int32.toUInt32 31)).toInt32 &&& 1431655765)).toUInt32 >>> ((2 : Int32).toUInt32 &&& Int32.toUInt32 31)).toInt32 &&& 858993459)) + ((((x1 - ((x1.toUInt32 >>> ((1 : Int32).toUInt32 &&& Int32.toUInt32 31)).toInt32 &&& 1431655765)) &&& 858993459) + (((x1 - ((x1.toUInt32 >>> ((1 : Int32).toUInt32 &&& Int32.toUInt32 31)).toInt32 &&& 1431655765)).toUInt32 >>> ((2 : Int32).toUInt32 &&& Int32.toUInt32 31)).toInt32 &&& 858993459)).toUInt32 >>> ((4 : Int32).toUInt32 &&& Int32.toUInt32 31)).toInt32) &&& 252645135) + ((((((x1 - ((x1.toUInt32 >>> ((1 : Int32).toUInt32 &&& Int32.toUInt32 31)).toInt32 &&& 1431655765)) &&& 858993459) + (((x1 - ((x1.toUInt32 >>> ((1 : Int32).toUInt32 &&& Int32.toUInt32 31)).toInt32 &&& 1431655765)).toUInt32 >>> ((2 : Int32).toUInt32 &&& Int32.toUInt32 31)).toInt32 &&& 858993459)) + ((((x1 - ((x1.toUInt32 >>> ((1 : Int32).toUInt32 &&& Int32.toUInt32 31)).toInt32 &&& 1431655765)) &&& 858993459) + (((x1 - ((x1.toUInt32 >>> ((1 : Int32).toUInt32 &&& Int32.toUInt32 31)).toInt32 &&& 1431655765)).toUInt32 >>> ((2 : Int32).toUInt32 &&& Int32.toUInt32 31)).toInt32 &&& 858993459)).toUInt32 >>> ((4 : Int32).toUInt32 &&& Int32.toUInt32 31)).toInt32) &&& 252645135).toUInt32 >>> ((8 : Int32).toUInt32 &&& Int32.toUInt32 31)).toInt32).toUInt32 >>> ((16 : Int32).toUInt32 &&& Int32.toUInt32 31)).toInt32) &&& 63)
theorem t_Int_bitCount {Γ : lh_Cx} {I : lh_II} {L : lh_LL} {F : lh_FF} {S : lh_SS} {K : Int32 → lh_Hp → Prop} {r : Int32} (hG : lh_GX Γ) (hS : lh_lay F S)  {x1 : Int32} (hf : f_Int_bitCount x1 = some r) (hK : K r (I, L, F, S)) : lh_Met Γ m_Int_bitCount 0 0 0 [.int x1] (I, L, F, S) (lh_ki K) := by
  rw [f_Int_bitCount] at hf
  refine lh_ofG k_Int_bitCount [(0, .int x1)] rfl (Nat.le_of_ble_eq_true rfl) rfl ?_
  refine lh_iload_n (q := 0) rfl rfl rfl ?_
  refine lh_iload_n (q := 0) rfl rfl rfl ?_
  refine lh_iconst rfl lh_k_1 ?_
  refine lh_iushr rfl ?_
  refine lh_ldcw rfl rfl ?_
  refine lh_iand rfl ?_
  refine lh_isub rfl ?_
  refine lh_istore_n (lv' := [(0, .int (x1 - ((x1.toUInt32 >>> ((1 : Int32).toUInt32 &&& Int32.toUInt32 31)).toInt32 &&& 1431655765)))]) rfl rfl rfl rfl ?_
  refine lh_iload_n (q := 0) rfl rfl rfl ?_
  refine lh_ldcw rfl rfl ?_
  refine lh_iand rfl ?_
  refine lh_iload_n (q := 0) rfl rfl rfl ?_
  refine lh_iconst rfl lh_k_2 ?_
  refine lh_iushr rfl ?_
  refine lh_ldcw rfl rfl ?_
  refine lh_iand rfl ?_
  refine lh_iadd rfl ?_
  refine lh_istore_n (lv' := [(0, .int (((x1 - ((x1.toUInt32 >>> ((1 : Int32).toUInt32 &&& Int32.toUInt32 31)).toInt32 &&& 1431655765)) &&& 858993459) + (((x1 - ((x1.toUInt32 >>> ((1 : Int32).toUInt32 &&& Int32.toUInt32 31)).toInt32 &&& 1431655765)).toUInt32 >>> ((2 : Int32).toUInt32 &&& Int32.toUInt32 31)).toInt32 &&& 858993459)))]) rfl rfl rfl rfl ?_
  refine lh_iload_n (q := 0) rfl rfl rfl ?_
  refine lh_iload_n (q := 0) rfl rfl rfl ?_
  refine lh_iconst rfl lh_k_4 ?_
  refine lh_iushr rfl ?_
  refine lh_iadd rfl ?_
  refine lh_ldcw rfl rfl ?_
  refine lh_iand rfl ?_
  refine lh_istore_n (lv' := [(0, .int (((((x1 - ((x1.toUInt32 >>> ((1 : Int32).toUInt32 &&& Int32.toUInt32 31)).toInt32 &&& 1431655765)) &&& 858993459) + (((x1 - ((x1.toUInt32 >>> ((1 : Int32).toUInt32 &&& Int32.toUInt32 31)).toInt32 &&& 1431655765)).toUInt32 >>> ((2 : Int32).toUInt32 &&& Int32.toUInt32 31)).toInt32 &&& 858993459)) + ((((x1 - ((x1.toUInt32 >>> ((1 : Int32).toUInt32 &&& Int32.toUInt32 31)).toInt32 &&& 1431655765)) &&& 858993459) + (((x1 - ((x1.toUInt32 >>> ((1 : Int32).toUInt32 &&& Int32.toUInt32 31)).toInt32 &&& 1431655765)).toUInt32 >>> ((2 : Int32).toUInt32 &&& Int32.toUInt32 31)).toInt32 &&& 858993459)).toUInt32 >>> ((4 : Int32).toUInt32 &&& Int32.toUInt32 31)).toInt32) &&& 252645135))]) rfl rfl rfl rfl ?_
  refine lh_iload_n (q := 0) rfl rfl rfl ?_
  refine lh_iload_n (q := 0) rfl rfl rfl ?_
  refine lh_bipush rfl lh_b_8 ?_
  refine lh_iushr rfl ?_
  refine lh_iadd rfl ?_
  refine lh_istore_n (lv' := [(0, .int ((((((x1 - ((x1.toUInt32 >>> ((1 : Int32).toUInt32 &&& Int32.toUInt32 31)).toInt32 &&& 1431655765)) &&& 858993459) + (((x1 - ((x1.toUInt32 >>> ((1 : Int32).toUInt32 &&& Int32.toUInt32 31)).toInt32 &&& 1431655765)).toUInt32 >>> ((2 : Int32).toUInt32 &&& Int32.toUInt32 31)).toInt32 &&& 858993459)) + ((((x1 - ((x1.toUInt32 >>> ((1 : Int32).toUInt32 &&& Int32.toUInt32 31)).toInt32 &&& 1431655765)) &&& 858993459) + (((x1 - ((x1.toUInt32 >>> ((1 : Int32).toUInt32 &&& Int32.toUInt32 31)).toInt32 &&& 1431655765)).toUInt32 >>> ((2 : Int32).toUInt32 &&& Int32.toUInt32 31)).toInt32 &&& 858993459)).toUInt32 >>> ((4 : Int32).toUInt32 &&& Int32.toUInt32 31)).toInt32) &&& 252645135) + ((((((x1 - ((x1.toUInt32 >>> ((1 : Int32).toUInt32 &&& Int32.toUInt32 31)).toInt32 &&& 1431655765)) &&& 858993459) + (((x1 - ((x1.toUInt32 >>> ((1 : Int32).toUInt32 &&& Int32.toUInt32 31)).toInt32 &&& 1431655765)).toUInt32 >>> ((2 : Int32).toUInt32 &&& Int32.toUInt32 31)).toInt32 &&& 858993459)) + ((((x1 - ((x1.toUInt32 >>> ((1 : Int32).toUInt32 &&& Int32.toUInt32 31)).toInt32 &&& 1431655765)) &&& 858993459) + (((x1 - ((x1.toUInt32 >>> ((1 : Int32).toUInt32 &&& Int32.toUInt32 31)).toInt32 &&& 1431655765)).toUInt32 >>> ((2 : Int32).toUInt32 &&& Int32.toUInt32 31)).toInt32 &&& 858993459)).toUInt32 >>> ((4 : Int32).toUInt32 &&& Int32.toUInt32 31)).toInt32) &&& 252645135).toUInt32 >>> ((8 : Int32).toUInt32 &&& Int32.toUInt32 31)).toInt32))]) rfl rfl rfl rfl ?_
  refine lh_iload_n (q := 0) rfl rfl rfl ?_
  refine lh_iload_n (q := 0) rfl rfl rfl ?_
  refine lh_bipush rfl lh_b_16 ?_
  refine lh_iushr rfl ?_
  refine lh_iadd rfl ?_
  refine lh_istore_n (lv' := [(0, .int (((((((x1 - ((x1.toUInt32 >>> ((1 : Int32).toUInt32 &&& Int32.toUInt32 31)).toInt32 &&& 1431655765)) &&& 858993459) + (((x1 - ((x1.toUInt32 >>> ((1 : Int32).toUInt32 &&& Int32.toUInt32 31)).toInt32 &&& 1431655765)).toUInt32 >>> ((2 : Int32).toUInt32 &&& Int32.toUInt32 31)).toInt32 &&& 858993459)) + ((((x1 - ((x1.toUInt32 >>> ((1 : Int32).toUInt32 &&& Int32.toUInt32 31)).toInt32 &&& 1431655765)) &&& 858993459) + (((x1 - ((x1.toUInt32 >>> ((1 : Int32).toUInt32 &&& Int32.toUInt32 31)).toInt32 &&& 1431655765)).toUInt32 >>> ((2 : Int32).toUInt32 &&& Int32.toUInt32 31)).toInt32 &&& 858993459)).toUInt32 >>> ((4 : Int32).toUInt32 &&& Int32.toUInt32 31)).toInt32) &&& 252645135) + ((((((x1 - ((x1.toUInt32 >>> ((1 : Int32).toUInt32 &&& Int32.toUInt32 31)).toInt32 &&& 1431655765)) &&& 858993459) + (((x1 - ((x1.toUInt32 >>> ((1 : Int32).toUInt32 &&& Int32.toUInt32 31)).toInt32 &&& 1431655765)).toUInt32 >>> ((2 : Int32).toUInt32 &&& Int32.toUInt32 31)).toInt32 &&& 858993459)) + ((((x1 - ((x1.toUInt32 >>> ((1 : Int32).toUInt32 &&& Int32.toUInt32 31)).toInt32 &&& 1431655765)) &&& 858993459) + (((x1 - ((x1.toUInt32 >>> ((1 : Int32).toUInt32 &&& Int32.toUInt32 31)).toInt32 &&& 1431655765)).toUInt32 >>> ((2 : Int32).toUInt32 &&& Int32.toUInt32 31)).toInt32 &&& 858993459)).toUInt32 >>> ((4 : Int32).toUInt32 &&& Int32.toUInt32 31)).toInt32) &&& 252645135).toUInt32 >>> ((8 : Int32).toUInt32 &&& Int32.toUInt32 31)).toInt32) + (((((((x1 - ((x1.toUInt32 >>> ((1 : Int32).toUInt32 &&& Int32.toUInt32 31)).toInt32 &&& 1431655765)) &&& 858993459) + (((x1 - ((x1.toUInt32 >>> ((1 : Int32).toUInt32 &&& Int32.toUInt32 31)).toInt32 &&& 1431655765)).toUInt32 >>> ((2 : Int32).toUInt32 &&& Int32.toUInt32 31)).toInt32 &&& 858993459)) + ((((x1 - ((x1.toUInt32 >>> ((1 : Int32).toUInt32 &&& Int32.toUInt32 31)).toInt32 &&& 1431655765)) &&& 858993459) + (((x1 - ((x1.toUInt32 >>> ((1 : Int32).toUInt32 &&& Int32.toUInt32 31)).toInt32 &&& 1431655765)).toUInt32 >>> ((2 : Int32).toUInt32 &&& Int32.toUInt32 31)).toInt32 &&& 858993459)).toUInt32 >>> ((4 : Int32).toUInt32 &&& Int32.toUInt32 31)).toInt32) &&& 252645135) + ((((((x1 - ((x1.toUInt32 >>> ((1 : Int32).toUInt32 &&& Int32.toUInt32 31)).toInt32 &&& 1431655765)) &&& 858993459) + (((x1 - ((x1.toUInt32 >>> ((1 : Int32).toUInt32 &&& Int32.toUInt32 31)).toInt32 &&& 1431655765)).toUInt32 >>> ((2 : Int32).toUInt32 &&& Int32.toUInt32 31)).toInt32 &&& 858993459)) + ((((x1 - ((x1.toUInt32 >>> ((1 : Int32).toUInt32 &&& Int32.toUInt32 31)).toInt32 &&& 1431655765)) &&& 858993459) + (((x1 - ((x1.toUInt32 >>> ((1 : Int32).toUInt32 &&& Int32.toUInt32 31)).toInt32 &&& 1431655765)).toUInt32 >>> ((2 : Int32).toUInt32 &&& Int32.toUInt32 31)).toInt32 &&& 858993459)).toUInt32 >>> ((4 : Int32).toUInt32 &&& Int32.toUInt32 31)).toInt32) &&& 252645135).toUInt32 >>> ((8 : Int32).toUInt32 &&& Int32.toUInt32 31)).toInt32).toUInt32 >>> ((16 : Int32).toUInt32 &&& Int32.toUInt32 31)).toInt32))]) rfl rfl rfl rfl ?_
  refine lh_iload_n (q := 0) rfl rfl rfl ?_
  refine lh_bipush rfl lh_b_63 ?_
  refine lh_iand rfl ?_
  exact lh_iret rfl rfl rfl (by obtain rfl := Option.some.inj hf; exact hK)
def f_Int_compare (x1 : Int32) (x2 : Int32) : Option (Int32) := if x2 ≤ x1 then if x1 = x2 then some 0 else some 1 else some (-1)
theorem t_Int_compare {Γ : lh_Cx} {I : lh_II} {L : lh_LL} {F : lh_FF} {S : lh_SS} {K : Int32 → lh_Hp → Prop} {r : Int32} (hG : lh_GX Γ) (hS : lh_lay F S)  {x1 : Int32} {x2 : Int32} (hf : f_Int_compare x1 x2 = some r) (hK : K r (I, L, F, S)) : lh_Met Γ m_Int_compare 0 0 0 [.int x1, .int x2] (I, L, F, S) (lh_ki K) := by
  rw [f_Int_compare] at hf
  refine lh_ofG k_Int_compare [(0, .int x1), (1, .int x2)] rfl (Nat.le_of_ble_eq_true rfl) rfl ?_
  refine lh_iload_n (q := 0) rfl rfl rfl ?_
  refine lh_iload_n (q := 1) rfl rfl rfl ?_
  refine lh_icmp_ge rfl (fun c1 => ?_) (fun c1 => ?_)
  · have hf := lh_ifT hf c1
    refine lh_iload_n (q := 0) rfl rfl rfl ?_
    refine lh_iload_n (q := 1) rfl rfl rfl ?_
    refine lh_icmp_ne rfl (fun c2 => ?_) (fun c2 => ?_)
    · have hf := lh_ifF hf c2
      refine lh_iconst rfl lh_k_1 ?_
      exact lh_iret rfl rfl rfl (by obtain rfl := Option.some.inj hf; exact hK)
    · have hf := lh_ifT hf c2
      refine lh_iconst rfl lh_k_0 ?_
      refine lh_goto rfl ?_
      exact lh_iret rfl rfl rfl (by obtain rfl := Option.some.inj hf; exact hK)
  · have hf := lh_ifF hf c1
    refine lh_iconst rfl lh_k_m1 ?_
    refine lh_goto rfl ?_
    exact lh_iret rfl rfl rfl (by obtain rfl := Option.some.inj hf; exact hK)
def f_LH_alibi_16 (a : Nat) (b : Nat) (v1 : Int32) (v2 : Int32) (I : lh_II) : Nat → Int32 → Int32 → Option (Int32)
  | 0, _, _ => none
  | n + 1, v3, v4 => if 8 ≤ v4 then some v3 else lh_bd (f_Ha_placeOf a v1 v4 I) fun r8 => if r8 = (-1) then f_LH_alibi_16 a b v1 v2 I n v3 (v4 + 1) else if r8 = v2 then f_LH_alibi_16 a b v1 v2 I n v3 (v4 + 1) else f_LH_alibi_16 a b v1 v2 I n (v3 ||| ((1 : Int32) <<< (v4 &&& 31))) (v4 + 1)
def f_LH_alibi (a : Nat) (b : Nat) (x1 : Int32) (x2 : Int32) (I : lh_II) : Option (Int32) := lh_bd (f_Ha_hasVisitor a x1 I) fun r1 => if r1 = 0 then some (-1) else lh_bd (f_Ha_hasCell a x2 I) fun r4 => if r4 = 0 then some (-1) else lh_bd (f_LH_alibi_16 a b x1 x2 I lh_fuel 0 0) fun r12 => some r12
theorem t_LH_alibi_16 {Γ : lh_Cx} {F : lh_FF} {S : lh_SS} {Z : List Frame → Array Value → State → State → Prop} (hG : lh_GX Γ) (hS : lh_lay F S) {a : Nat} (ha : lh_hl F S a) (hA : F (0 + 4) 6 = a + 4) {b : Nat} (hb : lh_nl F S b) (hB : F (0 + 4) 8 = b + 4) {v1 : Int32} {v2 : Int32} {I : lh_II} {L : lh_LL} : ∀ (n : Nat) (v3 : Int32) (v4 : Int32) (o : Int32), f_LH_alibi_16 a b v1 v2 I n v3 v4 = some o → ∀ (x0_ : lh_G Γ m_LH_alibi (lh_R 2 0 0) Z 0 0 39 [(3, .int o)] [] (I, L, F, S)), lh_G Γ m_LH_alibi (lh_R 2 0 0) Z 0 0 16 [(0, .ref (0 + 4)), (1, .int v1), (2, .int v2), (3, .int v3), (4, .int v4)] [] (I, L, F, S) := by
  intro n
  induction n with
  | zero => intro v3 v4 o hf; cases hf
  | succ n ih =>
    intro v3 v4 o hf x0_
    rw [f_LH_alibi_16] at hf
    refine lh_iload (q := 4) rfl rfl ?_
    refine lh_bipush rfl lh_b_8 ?_
    refine lh_icmp_ge rfl (fun c7 => ?_) (fun c7 => ?_)
    · have hf := lh_ifT hf c7
      exact lh_less [3] rfl (by cases hf; exact x0_)
    · have hf := lh_ifF hf c7
      refine lh_aload_n (q := 0) rfl rfl rfl ?_
      refine lh_getR4 rfl rfl (hS.1 0 _ rfl) rfl hA ?_
      refine lh_iload_n (q := 1) rfl rfl rfl ?_
      refine lh_iload (q := 4) rfl rfl ?_
      refine lh_bdE hf (fun r8 e9 hf => ?_)
      refine lh_cVi (N := m_Ha_placeOf) (d := 1) (o := a) (As := [.int v1, .int v4]) (st := []) rfl rfl v_Ha_placeOf (ha.1 0 _ rfl) rfl rfl rfl ⟨rfl, rfl⟩ rfl (t_Ha_placeOf hG hS ha e9 ?_)
      refine lh_istore (lv' := [(0, .ref (0 + 4)), (1, .int v1), (2, .int v2), (3, .int v3), (4, .int v4), (5, .int r8)]) rfl rfl rfl ?_
      refine lh_iload (q := 5) rfl rfl ?_
      refine lh_iconst rfl lh_k_m1 ?_
      refine lh_icmp_eq rfl (fun c10 => ?_) (fun c10 => ?_)
      · have hf := lh_ifT hf c10
        refine lh_iinc (q := 4) (v := (v4 + 1)) (lv' := [(0, .ref (0 + 4)), (1, .int v1), (2, .int v2), (3, .int v3), (4, .int (v4 + 1)), (5, .int r8)]) rfl rfl (congrArg (v4 + ·) (by decide)) rfl rfl ?_
        refine lh_goto rfl ?_
        refine lh_less [0, 1, 2, 3, 4] rfl ?_
        exact ih v3 (v4 + 1) _ hf x0_
      · have hf := lh_ifF hf c10
        refine lh_iload (q := 5) rfl rfl ?_
        refine lh_iload_n (q := 2) rfl rfl rfl ?_
        refine lh_icmp_eq rfl (fun c11 => ?_) (fun c11 => ?_)
        · have hf := lh_ifT hf c11
          refine lh_iinc (q := 4) (v := (v4 + 1)) (lv' := [(0, .ref (0 + 4)), (1, .int v1), (2, .int v2), (3, .int v3), (4, .int (v4 + 1)), (5, .int r8)]) rfl rfl (congrArg (v4 + ·) (by decide)) rfl rfl ?_
          refine lh_goto rfl ?_
          refine lh_less [0, 1, 2, 3, 4] rfl ?_
          exact ih v3 (v4 + 1) _ hf x0_
        · have hf := lh_ifF hf c11
          refine lh_iload_n (q := 3) rfl rfl rfl ?_
          refine lh_iconst rfl lh_k_1 ?_
          refine lh_iload (q := 4) rfl rfl ?_
          refine lh_ishl rfl ?_
          refine lh_ior rfl ?_
          refine lh_istore_n (lv' := [(0, .ref (0 + 4)), (1, .int v1), (2, .int v2), (3, .int (v3 ||| ((1 : Int32) <<< (v4 &&& 31)))), (4, .int v4), (5, .int r8)]) rfl rfl rfl rfl ?_
          refine lh_iinc (q := 4) (v := (v4 + 1)) (lv' := [(0, .ref (0 + 4)), (1, .int v1), (2, .int v2), (3, .int (v3 ||| ((1 : Int32) <<< (v4 &&& 31)))), (4, .int (v4 + 1)), (5, .int r8)]) rfl rfl (congrArg (v4 + ·) (by decide)) rfl rfl ?_
          refine lh_goto rfl ?_
          refine lh_less [0, 1, 2, 3, 4] rfl ?_
          exact ih (v3 ||| ((1 : Int32) <<< (v4 &&& 31))) (v4 + 1) _ hf x0_
theorem t_LH_alibi {Γ : lh_Cx} {I : lh_II} {L : lh_LL} {F : lh_FF} {S : lh_SS} {K : Int32 → lh_Hp → Prop} {r : Int32} (hG : lh_GX Γ) (hS : lh_lay F S) {a : Nat} (ha : lh_hl F S a) (hA : F (0 + 4) 6 = a + 4) {b : Nat} (hb : lh_nl F S b) (hB : F (0 + 4) 8 = b + 4) {x1 : Int32} {x2 : Int32} (hf : f_LH_alibi a b x1 x2 I = some r) (hK : K r (I, L, F, S)) : lh_Met Γ m_LH_alibi 2 0 0 [.ref (0 + 4), .int x1, .int x2] (I, L, F, S) (lh_ki K) := by
  rw [f_LH_alibi] at hf
  refine lh_ofG k_LH_alibi [(0, .ref (0 + 4)), (1, .int x1), (2, .int x2)] rfl (Nat.le_of_ble_eq_true rfl) rfl ?_
  refine lh_aload_n (q := 0) rfl rfl rfl ?_
  refine lh_getR4 rfl rfl (hS.1 0 _ rfl) rfl hA ?_
  refine lh_iload_n (q := 1) rfl rfl rfl ?_
  refine lh_bdE hf (fun r1 e2 hf => ?_)
  refine lh_cVi (N := m_Ha_hasVisitor) (d := 0) (o := a) (As := [.int x1]) (st := []) rfl rfl v_Ha_hasVisitor (ha.1 0 _ rfl) rfl rfl rfl ⟨rfl, rfl⟩ rfl (t_Ha_hasVisitor hG hS ha e2 ?_)
  refine lh_if_eq rfl (fun c3 => ?_) (fun c3 => ?_)
  · have hf := lh_ifT hf c3
    refine lh_iconst rfl lh_k_m1 ?_
    exact lh_iret rfl rfl rfl (by obtain rfl := Option.some.inj hf; exact hK)
  · have hf := lh_ifF hf c3
    refine lh_aload_n (q := 0) rfl rfl rfl ?_
    refine lh_getR4 rfl rfl (hS.1 0 _ rfl) rfl hA ?_
    refine lh_iload_n (q := 2) rfl rfl rfl ?_
    refine lh_bdE hf (fun r4 e5 hf => ?_)
    refine lh_cVi (N := m_Ha_hasCell) (d := 0) (o := a) (As := [.int x2]) (st := []) rfl rfl v_Ha_hasCell (ha.1 0 _ rfl) rfl rfl rfl ⟨rfl, rfl⟩ rfl (t_Ha_hasCell hG hS ha e5 ?_)
    refine lh_if_ne rfl (fun c6 => ?_) (fun c6 => ?_)
    · have hf := lh_ifF hf c6
      refine lh_iconst rfl lh_k_0 ?_
      refine lh_istore_n (lv' := [(0, .ref (0 + 4)), (1, .int x1), (2, .int x2), (3, .int 0)]) rfl rfl rfl rfl ?_
      refine lh_iconst rfl lh_k_0 ?_
      refine lh_istore (lv' := [(0, .ref (0 + 4)), (1, .int x1), (2, .int x2), (3, .int 0), (4, .int 0)]) rfl rfl rfl ?_
      refine lh_bdE hf (fun r12 e13 hf => ?_)
      refine t_LH_alibi_16 hG hS ha hA hb hB _ 0 0 _ e13 ?_
      refine lh_iload_n (q := 0) rfl rfl rfl ?_
      exact lh_iret rfl rfl rfl (by obtain rfl := Option.some.inj hf; exact hK)
    · have hf := lh_ifT hf c6
      refine lh_iconst rfl lh_k_m1 ?_
      exact lh_iret rfl rfl rfl (by obtain rfl := Option.some.inj hf; exact hK)
def f_LH_ask_13 (a : Nat) (b : Nat) (v3 : Int32) (I : lh_II) : Nat → Int32 → Int32 → Int32 → Option (Int32 × Int32)
  | 0, _, _, _ => none
  | n + 1, v1, v2, v4 => if (I (a + 4) 9) ≤ v4 then some (v1, v2) else lh_bd (f_Ha_daysWithSomebody a v3 v4 I) fun r5 => lh_bd (f_Int_bitCount ((I (0 + 4) 13) &&& r5)) fun r7 => lh_bd (f_Int_bitCount ((I (0 + 4) 13) &&& (r5 ^^^ (-1)))) fun r9 => if v2 ≤ (if r7 < r9 then r9 else r7) then f_LH_ask_13 a b v3 I n v1 v2 (v4 + 1) else f_LH_ask_13 a b v3 I n ((12 * v3) + v4) (if r7 < r9 then r9 else r7) (v4 + 1)
def f_LH_ask_8 (a : Nat) (b : Nat) (I : lh_II) : Nat → Int32 → Int32 → Int32 → Option (Int32)
  | 0, _, _, _ => none
  | n + 1, v1, v2, v3 => if 8 ≤ v3 then some v1 else lh_bd (f_LH_ask_13 a b v3 I lh_fuel v1 v2 0) fun r12 => f_LH_ask_8 a b I n r12.1 r12.2 (v3 + 1)
def f_LH_ask (a : Nat) (b : Nat) (I : lh_II) : Option (Int32) := lh_bd (f_Int_bitCount (I (0 + 4) 13)) fun r1 => lh_bd (f_LH_ask_8 a b I lh_fuel (-1) r1 0) fun r14 => some r14
theorem t_LH_ask_13 {Γ : lh_Cx} {F : lh_FF} {S : lh_SS} {Z : List Frame → Array Value → State → State → Prop} (hG : lh_GX Γ) (hS : lh_lay F S) {a : Nat} (ha : lh_hl F S a) (hA : F (0 + 4) 6 = a + 4) {b : Nat} (hb : lh_nl F S b) (hB : F (0 + 4) 8 = b + 4) {v3 : Int32} {I : lh_II} {L : lh_LL} : ∀ (n : Nat) (v1 : Int32) (v2 : Int32) (v4 : Int32) (o : Int32 × Int32), f_LH_ask_13 a b v3 I n v1 v2 v4 = some o → ∀ (x0_ : lh_G Γ m_LH_ask (lh_R 3 0 0) Z 0 0 51 [(0, .ref (0 + 4)), (1, .int o.1), (2, .int o.2), (3, .int v3)] [] (I, L, F, S)), lh_G Γ m_LH_ask (lh_R 3 0 0) Z 0 0 13 [(0, .ref (0 + 4)), (1, .int v1), (2, .int v2), (3, .int v3), (4, .int v4)] [] (I, L, F, S) := by
  intro n
  induction n with
  | zero => intro v1 v2 v4 o hf; cases hf
  | succ n ih =>
    intro v1 v2 v4 o hf x0_
    rw [f_LH_ask_13] at hf
    refine lh_iload (q := 4) rfl rfl ?_
    refine lh_aload_n (q := 0) rfl rfl rfl ?_
    refine lh_getR4 rfl rfl (hS.1 0 _ rfl) rfl hA ?_
    refine lh_getI4 rfl rfl (ha.1 0 _ rfl) rfl ?_
    refine lh_icmp_ge rfl (fun c4 => ?_) (fun c4 => ?_)
    · have hf := lh_ifT hf c4
      exact lh_less [0, 1, 2, 3] rfl (by cases hf; exact x0_)
    · have hf := lh_ifF hf c4
      refine lh_aload_n (q := 0) rfl rfl rfl ?_
      refine lh_getR4 rfl rfl (hS.1 0 _ rfl) rfl hA ?_
      refine lh_iload_n (q := 3) rfl rfl rfl ?_
      refine lh_iload (q := 4) rfl rfl ?_
      refine lh_bdE hf (fun r5 e6 hf => ?_)
      refine lh_cVi (N := m_Ha_daysWithSomebody) (d := 2) (o := a) (As := [.int v3, .int v4]) (st := []) rfl rfl v_Ha_daysWithSomebody (ha.1 0 _ rfl) rfl rfl rfl ⟨rfl, rfl⟩ rfl (t_Ha_daysWithSomebody hG hS ha e6 ?_)
      refine lh_istore (lv' := [(0, .ref (0 + 4)), (1, .int v1), (2, .int v2), (3, .int v3), (4, .int v4), (5, .int r5)]) rfl rfl rfl ?_
      refine lh_aload_n (q := 0) rfl rfl rfl ?_
      refine lh_getI4 rfl rfl (hS.1 0 _ rfl) rfl ?_
      refine lh_iload (q := 5) rfl rfl ?_
      refine lh_iand rfl ?_
      refine lh_bdE hf (fun r7 e8 hf => ?_)
      refine lh_cSi (N := m_Int_bitCount) (d := 0) (As := [.int ((I (0 + 4) 13) &&& r5)]) (st := []) rfl rfl v_Int_bitCount rfl rfl ⟨rfl, rfl⟩ rfl (t_Int_bitCount hG hS e8 ?_)
      refine lh_aload_n (q := 0) rfl rfl rfl ?_
      refine lh_getI4 rfl rfl (hS.1 0 _ rfl) rfl ?_
      refine lh_iload (q := 5) rfl rfl ?_
      refine lh_iconst rfl lh_k_m1 ?_
      refine lh_ixor rfl ?_
      refine lh_iand rfl ?_
      refine lh_bdE hf (fun r9 e10 hf => ?_)
      refine lh_cSi (N := m_Int_bitCount) (d := 0) (As := [.int ((I (0 + 4) 13) &&& (r5 ^^^ (-1)))]) (st := [.int r7]) rfl rfl v_Int_bitCount rfl rfl ⟨rfl, rfl⟩ rfl (t_Int_bitCount hG hS e10 ?_)
      refine lh_max rfl rfl ⟨rfl, rfl⟩ rfl ?_
      refine lh_istore (lv' := [(0, .ref (0 + 4)), (1, .int v1), (2, .int v2), (3, .int v3), (4, .int v4), (5, .int r5), (6, .int (if r7 < r9 then r9 else r7))]) rfl rfl rfl ?_
      refine lh_iload (q := 6) rfl rfl ?_
      refine lh_iload_n (q := 2) rfl rfl rfl ?_
      refine lh_icmp_ge rfl (fun c11 => ?_) (fun c11 => ?_)
      · have hf := lh_ifT hf c11
        refine lh_iinc (q := 4) (v := (v4 + 1)) (lv' := [(0, .ref (0 + 4)), (1, .int v1), (2, .int v2), (3, .int v3), (4, .int (v4 + 1)), (5, .int r5), (6, .int (if r7 < r9 then r9 else r7))]) rfl rfl (congrArg (v4 + ·) (by decide)) rfl rfl ?_
        refine lh_goto rfl ?_
        refine lh_less [0, 1, 2, 3, 4] rfl ?_
        exact ih v1 v2 (v4 + 1) _ hf x0_
      · have hf := lh_ifF hf c11
        refine lh_iload (q := 6) rfl rfl ?_
        refine lh_istore_n (lv' := [(0, .ref (0 + 4)), (1, .int v1), (2, .int (if r7 < r9 then r9 else r7)), (3, .int v3), (4, .int v4), (5, .int r5), (6, .int (if r7 < r9 then r9 else r7))]) rfl rfl rfl rfl ?_
        refine lh_bipush rfl lh_b_12 ?_
        refine lh_iload_n (q := 3) rfl rfl rfl ?_
        refine lh_imul rfl ?_
        refine lh_iload (q := 4) rfl rfl ?_
        refine lh_iadd rfl ?_
        refine lh_istore_n (lv' := [(0, .ref (0 + 4)), (1, .int ((12 * v3) + v4)), (2, .int (if r7 < r9 then r9 else r7)), (3, .int v3), (4, .int v4), (5, .int r5), (6, .int (if r7 < r9 then r9 else r7))]) rfl rfl rfl rfl ?_
        refine lh_iinc (q := 4) (v := (v4 + 1)) (lv' := [(0, .ref (0 + 4)), (1, .int ((12 * v3) + v4)), (2, .int (if r7 < r9 then r9 else r7)), (3, .int v3), (4, .int (v4 + 1)), (5, .int r5), (6, .int (if r7 < r9 then r9 else r7))]) rfl rfl (congrArg (v4 + ·) (by decide)) rfl rfl ?_
        refine lh_goto rfl ?_
        refine lh_less [0, 1, 2, 3, 4] rfl ?_
        exact ih ((12 * v3) + v4) (if r7 < r9 then r9 else r7) (v4 + 1) _ hf x0_
theorem t_LH_ask_8 {Γ : lh_Cx} {F : lh_FF} {S : lh_SS} {Z : List Frame → Array Value → State → State → Prop} (hG : lh_GX Γ) (hS : lh_lay F S) {a : Nat} (ha : lh_hl F S a) (hA : F (0 + 4) 6 = a + 4) {b : Nat} (hb : lh_nl F S b) (hB : F (0 + 4) 8 = b + 4)  {I : lh_II} {L : lh_LL} : ∀ (n : Nat) (v1 : Int32) (v2 : Int32) (v3 : Int32) (o : Int32), f_LH_ask_8 a b I n v1 v2 v3 = some o → ∀ (x0_ : lh_G Γ m_LH_ask (lh_R 3 0 0) Z 0 0 53 [(1, .int o)] [] (I, L, F, S)), lh_G Γ m_LH_ask (lh_R 3 0 0) Z 0 0 8 [(0, .ref (0 + 4)), (1, .int v1), (2, .int v2), (3, .int v3)] [] (I, L, F, S) := by
  intro n
  induction n with
  | zero => intro v1 v2 v3 o hf; cases hf
  | succ n ih =>
    intro v1 v2 v3 o hf x0_
    rw [f_LH_ask_8] at hf
    refine lh_iload_n (q := 3) rfl rfl rfl ?_
    refine lh_bipush rfl lh_b_8 ?_
    refine lh_icmp_ge rfl (fun c3 => ?_) (fun c3 => ?_)
    · have hf := lh_ifT hf c3
      exact lh_less [1] rfl (by cases hf; exact x0_)
    · have hf := lh_ifF hf c3
      refine lh_iconst rfl lh_k_0 ?_
      refine lh_istore (lv' := [(0, .ref (0 + 4)), (1, .int v1), (2, .int v2), (3, .int v3), (4, .int 0)]) rfl rfl rfl ?_
      refine lh_bdE hf (fun r12 e13 hf => ?_)
      refine t_LH_ask_13 hG hS ha hA hb hB _ v1 v2 0 _ e13 ?_
      refine lh_iinc (q := 3) (v := (v3 + 1)) (lv' := [(0, .ref (0 + 4)), (1, .int r12.1), (2, .int r12.2), (3, .int (v3 + 1))]) rfl rfl (congrArg (v3 + ·) (by decide)) rfl rfl ?_
      refine lh_goto rfl ?_
      exact ih r12.1 r12.2 (v3 + 1) _ hf x0_
theorem t_LH_ask {Γ : lh_Cx} {I : lh_II} {L : lh_LL} {F : lh_FF} {S : lh_SS} {K : Int32 → lh_Hp → Prop} {r : Int32} (hG : lh_GX Γ) (hS : lh_lay F S) {a : Nat} (ha : lh_hl F S a) (hA : F (0 + 4) 6 = a + 4) {b : Nat} (hb : lh_nl F S b) (hB : F (0 + 4) 8 = b + 4) (hf : f_LH_ask a b I = some r) (hK : K r (I, L, F, S)) : lh_Met Γ m_LH_ask 3 0 0 [.ref (0 + 4)] (I, L, F, S) (lh_ki K) := by
  rw [f_LH_ask] at hf
  refine lh_ofG k_LH_ask [(0, .ref (0 + 4))] rfl (Nat.le_of_ble_eq_true rfl) rfl ?_
  refine lh_iconst rfl lh_k_m1 ?_
  refine lh_istore_n (lv' := [(0, .ref (0 + 4)), (1, .int (-1))]) rfl rfl rfl rfl ?_
  refine lh_aload_n (q := 0) rfl rfl rfl ?_
  refine lh_getI4 rfl rfl (hS.1 0 _ rfl) rfl ?_
  refine lh_bdE hf (fun r1 e2 hf => ?_)
  refine lh_cSi (N := m_Int_bitCount) (d := 0) (As := [.int (I (0 + 4) 13)]) (st := []) rfl rfl v_Int_bitCount rfl rfl ⟨rfl, rfl⟩ rfl (t_Int_bitCount hG hS e2 ?_)
  refine lh_istore_n (lv' := [(0, .ref (0 + 4)), (1, .int (-1)), (2, .int r1)]) rfl rfl rfl rfl ?_
  refine lh_iconst rfl lh_k_0 ?_
  refine lh_istore_n (lv' := [(0, .ref (0 + 4)), (1, .int (-1)), (2, .int r1), (3, .int 0)]) rfl rfl rfl rfl ?_
  refine lh_bdE hf (fun r14 e15 hf => ?_)
  refine t_LH_ask_8 hG hS ha hA hb hB _ (-1) r1 0 _ e15 ?_
  refine lh_iload_n (q := 0) rfl rfl rfl ?_
  exact lh_iret rfl rfl rfl (by obtain rfl := Option.some.inj hf; exact hK)
def f_LH_at (a : Nat) (b : Nat) (x1 : Int32) (x2 : Int32) (I : lh_II) : Option (Int32) := lh_bd (f_Ha_placeOf a x1 x2 I) fun r1 => some r1
theorem t_LH_at {Γ : lh_Cx} {I : lh_II} {L : lh_LL} {F : lh_FF} {S : lh_SS} {K : Int32 → lh_Hp → Prop} {r : Int32} (hG : lh_GX Γ) (hS : lh_lay F S) {a : Nat} (ha : lh_hl F S a) (hA : F (0 + 4) 6 = a + 4) {b : Nat} (hb : lh_nl F S b) (hB : F (0 + 4) 8 = b + 4) {x1 : Int32} {x2 : Int32} (hf : f_LH_at a b x1 x2 I = some r) (hK : K r (I, L, F, S)) : lh_Met Γ m_LH_at 2 0 0 [.ref (0 + 4), .int x1, .int x2] (I, L, F, S) (lh_ki K) := by
  rw [f_LH_at] at hf
  refine lh_ofG k_LH_at [(0, .ref (0 + 4)), (1, .int x1), (2, .int x2)] rfl (Nat.le_of_ble_eq_true rfl) rfl ?_
  refine lh_aload_n (q := 0) rfl rfl rfl ?_
  refine lh_getR4 rfl rfl (hS.1 0 _ rfl) rfl hA ?_
  refine lh_iload_n (q := 1) rfl rfl rfl ?_
  refine lh_iload_n (q := 2) rfl rfl rfl ?_
  refine lh_bdE hf (fun r1 e2 hf => ?_)
  refine lh_cVi (N := m_Ha_placeOf) (d := 1) (o := a) (As := [.int x1, .int x2]) (st := []) rfl rfl v_Ha_placeOf (ha.1 0 _ rfl) rfl rfl rfl ⟨rfl, rfl⟩ rfl (t_Ha_placeOf hG hS ha e2 ?_)
  exact lh_iret rfl rfl rfl (by obtain rfl := Option.some.inj hf; exact hK)
def f_Mo_begin (m : Nat) (a : Nat) (I : lh_II) : Option (lh_II) := some (lh_u2 (lh_u2 (lh_u2 (lh_u2 (lh_u2 (lh_u2 (lh_u2 I (m + 4) 0 (I (a + 4) 15)) (m + 4) 1 0) (m + 4) 2 0) (m + 4) 3 ((lh_u2 (lh_u2 (lh_u2 I (m + 4) 0 (I (a + 4) 15)) (m + 4) 1 0) (m + 4) 2 0) (a + 4) 14)) (m + 4) 4 0) (m + 4) 5 0) (m + 4) 6 0)
theorem t_Mo_begin {Γ : lh_Cx} {I : lh_II} {L : lh_LL} {F : lh_FF} {S : lh_SS} {K : lh_Hp → Prop} {r : lh_II} (hG : lh_GX Γ) (hS : lh_lay F S) {m : Nat} (hm : S[m]? = some (10, 0)) {a : Nat} (ha : lh_hl F S a) (hf : f_Mo_begin m a I = some r) (hK : K (r, L, F, S)) : lh_Met Γ m_Mo_begin 0 0 0 [.ref (m + 4), .ref (a + 4)] (I, L, F, S) (lh_kv K) := by
  rw [f_Mo_begin] at hf
  refine lh_ofG k_Mo_begin [(0, .ref (m + 4)), (1, .ref (a + 4))] rfl (Nat.le_of_ble_eq_true rfl) rfl ?_
  refine lh_aload_n (q := 0) rfl rfl rfl ?_
  refine lh_aload_n (q := 1) rfl rfl rfl ?_
  refine lh_getI4 rfl rfl (ha.1 0 _ rfl) rfl ?_
  refine lh_putI4 rfl rfl hm rfl rfl ?_
  refine lh_aload_n (q := 0) rfl rfl rfl ?_
  refine lh_iconst rfl lh_k_0 ?_
  refine lh_putI4 rfl rfl hm rfl rfl ?_
  refine lh_aload_n (q := 0) rfl rfl rfl ?_
  refine lh_iconst rfl lh_k_0 ?_
  refine lh_putI4 rfl rfl hm rfl rfl ?_
  refine lh_aload_n (q := 0) rfl rfl rfl ?_
  refine lh_aload_n (q := 1) rfl rfl rfl ?_
  refine lh_getI4 rfl rfl (ha.1 0 _ rfl) rfl ?_
  refine lh_putI4 rfl rfl hm rfl rfl ?_
  refine lh_aload_n (q := 0) rfl rfl rfl ?_
  refine lh_iconst rfl lh_k_0 ?_
  refine lh_putI4 rfl rfl hm rfl rfl ?_
  refine lh_aload_n (q := 0) rfl rfl rfl ?_
  refine lh_iconst rfl lh_k_0 ?_
  refine lh_putI4 rfl rfl hm rfl rfl ?_
  refine lh_aload_n (q := 0) rfl rfl rfl ?_
  refine lh_iconst rfl lh_k_0 ?_
  refine lh_putI4 rfl rfl hm rfl rfl ?_
  exact lh_vret rfl rfl (by obtain rfl := Option.some.inj hf; exact hK)
def f_LH_beginAnew_20 (a : Nat) (b : Nat) : Nat → Int32 → lh_II → Option (lh_II)
  | 0, _, _ => none
  | n + 1, v1, I => if 4 ≤ v1 then some I else lh_gd (lh_ix v1 4) (f_LH_beginAnew_20 a b n (v1 + 1) (lh_u2 I (57 + 2 * v1.toNatClampNeg + 4) 1 0))
def f_LH_beginAnew (a : Nat) (b : Nat) (I : lh_II) : Option (lh_II) := lh_bd (f_Mo_begin 7 a I) fun r1 => lh_bd (f_LH_beginAnew_20 a b lh_fuel 0 (lh_u2 (lh_u2 (lh_u2 (lh_u2 r1 (b + 4) 2 0) (0 + 4) 12 0) (0 + 4) 13 15) (0 + 4) 11 0)) fun r5 => some r5
theorem t_LH_beginAnew_20 {Γ : lh_Cx} {F : lh_FF} {S : lh_SS} {Z : List Frame → Array Value → State → State → Prop} (hG : lh_GX Γ) (hS : lh_lay F S) {a : Nat} (ha : lh_hl F S a) (hA : F (0 + 4) 6 = a + 4) {b : Nat} (hb : lh_nl F S b) (hB : F (0 + 4) 8 = b + 4)  {L : lh_LL} : ∀ (n : Nat) (v1 : Int32) (I : lh_II) (o : lh_II), f_LH_beginAnew_20 a b n v1 I = some o → ∀ (x0_ : lh_G Γ m_LH_beginAnew (lh_R 1 0 0) Z 0 0 31 [] [] (o, L, F, S)), lh_G Γ m_LH_beginAnew (lh_R 1 0 0) Z 0 0 20 [(0, .ref (0 + 4)), (1, .int v1)] [] (I, L, F, S) := by
  intro n
  induction n with
  | zero => intro v1 I o hf; cases hf
  | succ n ih =>
    intro v1 I o hf x0_
    rw [f_LH_beginAnew_20] at hf
    refine lh_iload_n (q := 1) rfl rfl rfl ?_
    refine lh_iconst rfl lh_k_4 ?_
    refine lh_icmp_ge rfl (fun c3 => ?_) (fun c3 => ?_)
    · have hf := lh_ifT hf c3
      exact lh_less [] rfl (by cases hf; exact x0_)
    · have hf := lh_ifF hf c3
      refine lh_aload_n (q := 0) rfl rfl rfl ?_
      refine lh_getR4 rfl rfl (hS.1 0 _ rfl) rfl (hS.2 13 _ rfl) ?_
      refine lh_iload_n (q := 1) rfl rfl rfl ?_
      obtain ⟨g4, hf⟩ := lh_gdE hf
      refine lh_aaload5 rfl (hS.1 10 _ rfl) (lh_ix_in g4) (lh_markF hS g4) ?_
      refine lh_iconst rfl lh_k_0 ?_
      refine lh_putZ4 rfl rfl (lh_markS hS g4) rfl rfl (by decide) ?_
      refine lh_iinc (q := 1) (v := (v1 + 1)) (lv' := [(0, .ref (0 + 4)), (1, .int (v1 + 1))]) rfl rfl (congrArg (v1 + ·) (by decide)) rfl rfl ?_
      refine lh_goto rfl ?_
      exact ih (v1 + 1) (lh_u2 I (57 + 2 * v1.toNatClampNeg + 4) 1 0) _ hf x0_
theorem t_LH_beginAnew {Γ : lh_Cx} {I : lh_II} {L : lh_LL} {F : lh_FF} {S : lh_SS} {K : lh_Hp → Prop} {r : lh_II} (hG : lh_GX Γ) (hS : lh_lay F S) {a : Nat} (ha : lh_hl F S a) (hA : F (0 + 4) 6 = a + 4) {b : Nat} (hb : lh_nl F S b) (hB : F (0 + 4) 8 = b + 4) (hf : f_LH_beginAnew a b I = some r) (hK : K (r, L, F, S)) : lh_Met Γ m_LH_beginAnew 1 0 0 [.ref (0 + 4)] (I, L, F, S) (lh_kv K) := by
  rw [f_LH_beginAnew] at hf
  refine lh_ofG k_LH_beginAnew [(0, .ref (0 + 4))] rfl (Nat.le_of_ble_eq_true rfl) rfl ?_
  refine lh_aload_n (q := 0) rfl rfl rfl ?_
  refine lh_getR4 rfl rfl (hS.1 0 _ rfl) rfl (hS.2 10 _ rfl) ?_
  refine lh_aload_n (q := 0) rfl rfl rfl ?_
  refine lh_getR4 rfl rfl (hS.1 0 _ rfl) rfl hA ?_
  refine lh_bdE hf (fun r1 e2 hf => ?_)
  refine lh_cVv (N := m_Mo_begin) (d := 0) (o := 7) (As := [.ref (a + 4)]) (st := []) rfl rfl v_Mo_begin (hS.1 7 _ rfl) rfl rfl rfl ⟨rfl, rfl⟩ rfl (t_Mo_begin hG hS (hS.1 7 _ rfl) ha e2 ?_)
  refine lh_aload_n (q := 0) rfl rfl rfl ?_
  refine lh_getR4 rfl rfl (hS.1 0 _ rfl) rfl hB ?_
  refine lh_iconst rfl lh_k_0 ?_
  refine lh_putI4 rfl rfl (hb.1 0 _ rfl) rfl rfl ?_
  refine lh_aload_n (q := 0) rfl rfl rfl ?_
  refine lh_iconst rfl lh_k_0 ?_
  refine lh_putI4 rfl rfl (hS.1 0 _ rfl) rfl rfl ?_
  refine lh_aload_n (q := 0) rfl rfl rfl ?_
  refine lh_bipush rfl lh_b_15 ?_
  refine lh_putI4 rfl rfl (hS.1 0 _ rfl) rfl rfl ?_
  refine lh_aload_n (q := 0) rfl rfl rfl ?_
  refine lh_iconst rfl lh_k_0 ?_
  refine lh_putI4 rfl rfl (hS.1 0 _ rfl) rfl rfl ?_
  refine lh_iconst rfl lh_k_0 ?_
  refine lh_istore_n (lv' := [(0, .ref (0 + 4)), (1, .int 0)]) rfl rfl rfl rfl ?_
  refine lh_bdE hf (fun r5 e6 hf => ?_)
  refine t_LH_beginAnew_20 hG hS ha hA hb hB _ 0 (lh_u2 (lh_u2 (lh_u2 (lh_u2 r1 (b + 4) 2 0) (0 + 4) 12 0) (0 + 4) 13 15) (0 + 4) 11 0) _ e6 ?_
  exact lh_vret rfl rfl (by obtain rfl := Option.some.inj hf; exact hK)
def f_Mo_become (m : Nat) (m2 : Nat) (I : lh_II) : Option (lh_II) := some (lh_u2 (lh_u2 (lh_u2 (lh_u2 (lh_u2 (lh_u2 (lh_u2 I (m + 4) 0 (I (m2 + 4) 0)) (m + 4) 1 ((lh_u2 I (m + 4) 0 (I (m2 + 4) 0)) (m2 + 4) 1)) (m + 4) 2 ((lh_u2 (lh_u2 I (m + 4) 0 (I (m2 + 4) 0)) (m + 4) 1 ((lh_u2 I (m + 4) 0 (I (m2 + 4) 0)) (m2 + 4) 1)) (m2 + 4) 2)) (m + 4) 3 ((lh_u2 (lh_u2 (lh_u2 I (m + 4) 0 (I (m2 + 4) 0)) (m + 4) 1 ((lh_u2 I (m + 4) 0 (I (m2 + 4) 0)) (m2 + 4) 1)) (m + 4) 2 ((lh_u2 (lh_u2 I (m + 4) 0 (I (m2 + 4) 0)) (m + 4) 1 ((lh_u2 I (m + 4) 0 (I (m2 + 4) 0)) (m2 + 4) 1)) (m2 + 4) 2)) (m2 + 4) 3)) (m + 4) 4 ((lh_u2 (lh_u2 (lh_u2 (lh_u2 I (m + 4) 0 (I (m2 + 4) 0)) (m + 4) 1 ((lh_u2 I (m + 4) 0 (I (m2 + 4) 0)) (m2 + 4) 1)) (m + 4) 2 ((lh_u2 (lh_u2 I (m + 4) 0 (I (m2 + 4) 0)) (m + 4) 1 ((lh_u2 I (m + 4) 0 (I (m2 + 4) 0)) (m2 + 4) 1)) (m2 + 4) 2)) (m + 4) 3 ((lh_u2 (lh_u2 (lh_u2 I (m + 4) 0 (I (m2 + 4) 0)) (m + 4) 1 ((lh_u2 I (m + 4) 0 (I (m2 + 4) 0)) (m2 + 4) 1)) (m + 4) 2 ((lh_u2 (lh_u2 I (m + 4) 0 (I (m2 + 4) 0)) (m + 4) 1 ((lh_u2 I (m + 4) 0 (I (m2 + 4) 0)) (m2 + 4) 1)) (m2 + 4) 2)) (m2 + 4) 3)) (m2 + 4) 4)) (m + 4) 5 ((lh_u2 (lh_u2 (lh_u2 (lh_u2 (lh_u2 I (m + 4) 0 (I (m2 + 4) 0)) (m + 4) 1 ((lh_u2 I (m + 4) 0 (I (m2 + 4) 0)) (m2 + 4) 1)) (m + 4) 2 ((lh_u2 (lh_u2 I (m + 4) 0 (I (m2 + 4) 0)) (m + 4) 1 ((lh_u2 I (m + 4) 0 (I (m2 + 4) 0)) (m2 + 4) 1)) (m2 + 4) 2)) (m + 4) 3 ((lh_u2 (lh_u2 (lh_u2 I (m + 4) 0 (I (m2 + 4) 0)) (m + 4) 1 ((lh_u2 I (m + 4) 0 (I (m2 + 4) 0)) (m2 + 4) 1)) (m + 4) 2 ((lh_u2 (lh_u2 I (m + 4) 0 (I (m2 + 4) 0)) (m + 4) 1 ((lh_u2 I (m + 4) 0 (I (m2 + 4) 0)) (m2 + 4) 1)) (m2 + 4) 2)) (m2 + 4) 3)) (m + 4) 4 ((lh_u2 (lh_u2 (lh_u2 (lh_u2 I (m + 4) 0 (I (m2 + 4) 0)) (m + 4) 1 ((lh_u2 I (m + 4) 0 (I (m2 + 4) 0)) (m2 + 4) 1)) (m + 4) 2 ((lh_u2 (lh_u2 I (m + 4) 0 (I (m2 + 4) 0)) (m + 4) 1 ((lh_u2 I (m + 4) 0 (I (m2 + 4) 0)) (m2 + 4) 1)) (m2 + 4) 2)) (m + 4) 3 ((lh_u2 (lh_u2 (lh_u2 I (m + 4) 0 (I (m2 + 4) 0)) (m + 4) 1 ((lh_u2 I (m + 4) 0 (I (m2 + 4) 0)) (m2 + 4) 1)) (m + 4) 2 ((lh_u2 (lh_u2 I (m + 4) 0 (I (m2 + 4) 0)) (m + 4) 1 ((lh_u2 I (m + 4) 0 (I (m2 + 4) 0)) (m2 + 4) 1)) (m2 + 4) 2)) (m2 + 4) 3)) (m2 + 4) 4)) (m2 + 4) 5)) (m + 4) 6 ((lh_u2 (lh_u2 (lh_u2 (lh_u2 (lh_u2 (lh_u2 I (m + 4) 0 (I (m2 + 4) 0)) (m + 4) 1 ((lh_u2 I (m + 4) 0 (I (m2 + 4) 0)) (m2 + 4) 1)) (m + 4) 2 ((lh_u2 (lh_u2 I (m + 4) 0 (I (m2 + 4) 0)) (m + 4) 1 ((lh_u2 I (m + 4) 0 (I (m2 + 4) 0)) (m2 + 4) 1)) (m2 + 4) 2)) (m + 4) 3 ((lh_u2 (lh_u2 (lh_u2 I (m + 4) 0 (I (m2 + 4) 0)) (m + 4) 1 ((lh_u2 I (m + 4) 0 (I (m2 + 4) 0)) (m2 + 4) 1)) (m + 4) 2 ((lh_u2 (lh_u2 I (m + 4) 0 (I (m2 + 4) 0)) (m + 4) 1 ((lh_u2 I (m + 4) 0 (I (m2 + 4) 0)) (m2 + 4) 1)) (m2 + 4) 2)) (m2 + 4) 3)) (m + 4) 4 ((lh_u2 (lh_u2 (lh_u2 (lh_u2 I (m + 4) 0 (I (m2 + 4) 0)) (m + 4) 1 ((lh_u2 I (m + 4) 0 (I (m2 + 4) 0)) (m2 + 4) 1)) (m + 4) 2 ((lh_u2 (lh_u2 I (m + 4) 0 (I (m2 + 4) 0)) (m + 4) 1 ((lh_u2 I (m + 4) 0 (I (m2 + 4) 0)) (m2 + 4) 1)) (m2 + 4) 2)) (m + 4) 3 ((lh_u2 (lh_u2 (lh_u2 I (m + 4) 0 (I (m2 + 4) 0)) (m + 4) 1 ((lh_u2 I (m + 4) 0 (I (m2 + 4) 0)) (m2 + 4) 1)) (m + 4) 2 ((lh_u2 (lh_u2 I (m + 4) 0 (I (m2 + 4) 0)) (m + 4) 1 ((lh_u2 I (m + 4) 0 (I (m2 + 4) 0)) (m2 + 4) 1)) (m2 + 4) 2)) (m2 + 4) 3)) (m2 + 4) 4)) (m + 4) 5 ((lh_u2 (lh_u2 (lh_u2 (lh_u2 (lh_u2 I (m + 4) 0 (I (m2 + 4) 0)) (m + 4) 1 ((lh_u2 I (m + 4) 0 (I (m2 + 4) 0)) (m2 + 4) 1)) (m + 4) 2 ((lh_u2 (lh_u2 I (m + 4) 0 (I (m2 + 4) 0)) (m + 4) 1 ((lh_u2 I (m + 4) 0 (I (m2 + 4) 0)) (m2 + 4) 1)) (m2 + 4) 2)) (m + 4) 3 ((lh_u2 (lh_u2 (lh_u2 I (m + 4) 0 (I (m2 + 4) 0)) (m + 4) 1 ((lh_u2 I (m + 4) 0 (I (m2 + 4) 0)) (m2 + 4) 1)) (m + 4) 2 ((lh_u2 (lh_u2 I (m + 4) 0 (I (m2 + 4) 0)) (m + 4) 1 ((lh_u2 I (m + 4) 0 (I (m2 + 4) 0)) (m2 + 4) 1)) (m2 + 4) 2)) (m2 + 4) 3)) (m + 4) 4 ((lh_u2 (lh_u2 (lh_u2 (lh_u2 I (m + 4) 0 (I (m2 + 4) 0)) (m + 4) 1 ((lh_u2 I (m + 4) 0 (I (m2 + 4) 0)) (m2 + 4) 1)) (m + 4) 2 ((lh_u2 (lh_u2 I (m + 4) 0 (I (m2 + 4) 0)) (m + 4) 1 ((lh_u2 I (m + 4) 0 (I (m2 + 4) 0)) (m2 + 4) 1)) (m2 + 4) 2)) (m + 4) 3 ((lh_u2 (lh_u2 (lh_u2 I (m + 4) 0 (I (m2 + 4) 0)) (m + 4) 1 ((lh_u2 I (m + 4) 0 (I (m2 + 4) 0)) (m2 + 4) 1)) (m + 4) 2 ((lh_u2 (lh_u2 I (m + 4) 0 (I (m2 + 4) 0)) (m + 4) 1 ((lh_u2 I (m + 4) 0 (I (m2 + 4) 0)) (m2 + 4) 1)) (m2 + 4) 2)) (m2 + 4) 3)) (m2 + 4) 4)) (m2 + 4) 5)) (m2 + 4) 6))
theorem t_Mo_become {Γ : lh_Cx} {I : lh_II} {L : lh_LL} {F : lh_FF} {S : lh_SS} {K : lh_Hp → Prop} {r : lh_II} (hG : lh_GX Γ) (hS : lh_lay F S) {m : Nat} (hm : S[m]? = some (10, 0)) {m2 : Nat} (hm2 : S[m2]? = some (10, 0)) (hf : f_Mo_become m m2 I = some r) (hK : K (r, L, F, S)) : lh_Met Γ m_Mo_become 0 0 0 [.ref (m + 4), .ref (m2 + 4)] (I, L, F, S) (lh_kv K) := by
  rw [f_Mo_become] at hf
  refine lh_ofG k_Mo_become [(0, .ref (m + 4)), (1, .ref (m2 + 4))] rfl (Nat.le_of_ble_eq_true rfl) rfl ?_
  refine lh_aload_n (q := 0) rfl rfl rfl ?_
  refine lh_aload_n (q := 1) rfl rfl rfl ?_
  refine lh_getI4 rfl rfl hm2 rfl ?_
  refine lh_putI4 rfl rfl hm rfl rfl ?_
  refine lh_aload_n (q := 0) rfl rfl rfl ?_
  refine lh_aload_n (q := 1) rfl rfl rfl ?_
  refine lh_getI4 rfl rfl hm2 rfl ?_
  refine lh_putI4 rfl rfl hm rfl rfl ?_
  refine lh_aload_n (q := 0) rfl rfl rfl ?_
  refine lh_aload_n (q := 1) rfl rfl rfl ?_
  refine lh_getI4 rfl rfl hm2 rfl ?_
  refine lh_putI4 rfl rfl hm rfl rfl ?_
  refine lh_aload_n (q := 0) rfl rfl rfl ?_
  refine lh_aload_n (q := 1) rfl rfl rfl ?_
  refine lh_getI4 rfl rfl hm2 rfl ?_
  refine lh_putI4 rfl rfl hm rfl rfl ?_
  refine lh_aload_n (q := 0) rfl rfl rfl ?_
  refine lh_aload_n (q := 1) rfl rfl rfl ?_
  refine lh_getI4 rfl rfl hm2 rfl ?_
  refine lh_putI4 rfl rfl hm rfl rfl ?_
  refine lh_aload_n (q := 0) rfl rfl rfl ?_
  refine lh_aload_n (q := 1) rfl rfl rfl ?_
  refine lh_getI4 rfl rfl hm2 rfl ?_
  refine lh_putI4 rfl rfl hm rfl rfl ?_
  refine lh_aload_n (q := 0) rfl rfl rfl ?_
  refine lh_aload_n (q := 1) rfl rfl rfl ?_
  refine lh_getI4 rfl rfl hm2 rfl ?_
  refine lh_putI4 rfl rfl hm rfl rfl ?_
  exact lh_vret rfl rfl (by obtain rfl := Option.some.inj hf; exact hK)
def f_LH_best_11 (a : Nat) (b : Nat) : Nat → Int32 → Int32 → Int32 → lh_II → Option (Int32 × lh_II)
  | 0, _, _, _, _ => none
  | n + 1, v1, v2, v3, I => if (I (a + 4) 9) ≤ v3 then some (v1, I) else lh_bd (f_Ha_hasPillar a v3 (lh_u2 I (8 + 4) 0 v3)) fun r4 => if r4 = 0 then lh_bd (f_Ha_seenBy a 8 (lh_u2 I (8 + 4) 0 v3)) fun r7 => lh_bd (f_Int_bitCount r7.1) fun r9 => if r9 ≤ v2 then f_LH_best_11 a b n v1 v2 (v3 + 1) r7.2 else f_LH_best_11 a b n v3 r9 (v3 + 1) r7.2 else if (-1) ≤ v2 then f_LH_best_11 a b n v1 v2 (v3 + 1) (lh_u2 I (8 + 4) 0 v3) else f_LH_best_11 a b n v3 (-1) (v3 + 1) (lh_u2 I (8 + 4) 0 v3)
def f_LH_best (a : Nat) (b : Nat) (I : lh_II) : Option (Int32 × lh_II) := lh_bd (f_Mo_become 8 7 I) fun r1 => lh_bd (f_LH_best_11 a b lh_fuel (-1) (-1) 0 r1) fun r13 => some (r13.1, r13.2)
theorem t_LH_best_11 {Γ : lh_Cx} {F : lh_FF} {S : lh_SS} {Z : List Frame → Array Value → State → State → Prop} (hG : lh_GX Γ) (hS : lh_lay F S) {a : Nat} (ha : lh_hl F S a) (hA : F (0 + 4) 6 = a + 4) {b : Nat} (hb : lh_nl F S b) (hB : F (0 + 4) 8 = b + 4)  {L : lh_LL} : ∀ (n : Nat) (v1 : Int32) (v2 : Int32) (v3 : Int32) (I : lh_II) (o : Int32 × lh_II), f_LH_best_11 a b n v1 v2 v3 I = some o → ∀ (x0_ : lh_G Γ m_LH_best (lh_R 5 0 0) Z 0 0 43 [(1, .int o.1)] [] (o.2, L, F, S)), lh_G Γ m_LH_best (lh_R 5 0 0) Z 0 0 11 [(0, .ref (0 + 4)), (1, .int v1), (2, .int v2), (3, .int v3)] [] (I, L, F, S) := by
  intro n
  induction n with
  | zero => intro v1 v2 v3 I o hf; cases hf
  | succ n ih =>
    intro v1 v2 v3 I o hf x0_
    rw [f_LH_best_11] at hf
    refine lh_iload_n (q := 3) rfl rfl rfl ?_
    refine lh_aload_n (q := 0) rfl rfl rfl ?_
    refine lh_getR4 rfl rfl (hS.1 0 _ rfl) rfl hA ?_
    refine lh_getI4 rfl rfl (ha.1 0 _ rfl) rfl ?_
    refine lh_icmp_ge rfl (fun c3 => ?_) (fun c3 => ?_)
    · have hf := lh_ifT hf c3
      exact lh_less [1] rfl (by cases hf; exact x0_)
    · have hf := lh_ifF hf c3
      refine lh_aload_n (q := 0) rfl rfl rfl ?_
      refine lh_getR4 rfl rfl (hS.1 0 _ rfl) rfl (hS.2 11 _ rfl) ?_
      refine lh_iload_n (q := 3) rfl rfl rfl ?_
      refine lh_putI4 rfl rfl (hS.1 8 _ rfl) rfl rfl ?_
      refine lh_aload_n (q := 0) rfl rfl rfl ?_
      refine lh_getR4 rfl rfl (hS.1 0 _ rfl) rfl hA ?_
      refine lh_iload_n (q := 3) rfl rfl rfl ?_
      refine lh_bdE hf (fun r4 e5 hf => ?_)
      refine lh_cVi (N := m_Ha_hasPillar) (d := 1) (o := a) (As := [.int v3]) (st := []) rfl rfl v_Ha_hasPillar (ha.1 0 _ rfl) rfl rfl rfl ⟨rfl, rfl⟩ rfl (t_Ha_hasPillar hG hS ha e5 ?_)
      refine lh_if_eq rfl (fun c6 => ?_) (fun c6 => ?_)
      · have hf := lh_ifT hf c6
        refine lh_aload_n (q := 0) rfl rfl rfl ?_
        refine lh_getR4 rfl rfl (hS.1 0 _ rfl) rfl hA ?_
        refine lh_aload_n (q := 0) rfl rfl rfl ?_
        refine lh_getR4 rfl rfl (hS.1 0 _ rfl) rfl (hS.2 11 _ rfl) ?_
        refine lh_bdE hf (fun r7 e8 hf => ?_)
        refine lh_cVi (N := m_Ha_seenBy) (d := 4) (o := a) (As := [.ref (8 + 4)]) (st := []) rfl rfl v_Ha_seenBy (ha.1 0 _ rfl) rfl rfl rfl ⟨rfl, rfl⟩ rfl (t_Ha_seenBy hG hS ha (hS.1 8 _ rfl) e8 ?_)
        refine lh_bdE hf (fun r9 e10 hf => ?_)
        refine lh_cSi (N := m_Int_bitCount) (d := 0) (As := [.int r7.1]) (st := []) rfl rfl v_Int_bitCount rfl rfl ⟨rfl, rfl⟩ rfl (t_Int_bitCount hG hS e10 ?_)
        refine lh_istore (lv' := [(0, .ref (0 + 4)), (1, .int v1), (2, .int v2), (3, .int v3), (4, .int r9)]) rfl rfl rfl ?_
        refine lh_iload (q := 4) rfl rfl ?_
        refine lh_iload_n (q := 2) rfl rfl rfl ?_
        refine lh_icmp_le rfl (fun c11 => ?_) (fun c11 => ?_)
        · have hf := lh_ifT hf c11
          refine lh_iinc (q := 3) (v := (v3 + 1)) (lv' := [(0, .ref (0 + 4)), (1, .int v1), (2, .int v2), (3, .int (v3 + 1)), (4, .int r9)]) rfl rfl (congrArg (v3 + ·) (by decide)) rfl rfl ?_
          refine lh_goto rfl ?_
          refine lh_less [0, 1, 2, 3] rfl ?_
          exact ih v1 v2 (v3 + 1) r7.2 _ hf x0_
        · have hf := lh_ifF hf c11
          refine lh_iload (q := 4) rfl rfl ?_
          refine lh_istore_n (lv' := [(0, .ref (0 + 4)), (1, .int v1), (2, .int r9), (3, .int v3), (4, .int r9)]) rfl rfl rfl rfl ?_
          refine lh_iload_n (q := 3) rfl rfl rfl ?_
          refine lh_istore_n (lv' := [(0, .ref (0 + 4)), (1, .int v3), (2, .int r9), (3, .int v3), (4, .int r9)]) rfl rfl rfl rfl ?_
          refine lh_iinc (q := 3) (v := (v3 + 1)) (lv' := [(0, .ref (0 + 4)), (1, .int v3), (2, .int r9), (3, .int (v3 + 1)), (4, .int r9)]) rfl rfl (congrArg (v3 + ·) (by decide)) rfl rfl ?_
          refine lh_goto rfl ?_
          refine lh_less [0, 1, 2, 3] rfl ?_
          exact ih v3 r9 (v3 + 1) r7.2 _ hf x0_
      · have hf := lh_ifF hf c6
        refine lh_iconst rfl lh_k_m1 ?_
        refine lh_goto rfl ?_
        refine lh_istore (lv' := [(0, .ref (0 + 4)), (1, .int v1), (2, .int v2), (3, .int v3), (4, .int (-1))]) rfl rfl rfl ?_
        refine lh_iload (q := 4) rfl rfl ?_
        refine lh_iload_n (q := 2) rfl rfl rfl ?_
        refine lh_icmp_le rfl (fun c12 => ?_) (fun c12 => ?_)
        · have hf := lh_ifT hf c12
          refine lh_iinc (q := 3) (v := (v3 + 1)) (lv' := [(0, .ref (0 + 4)), (1, .int v1), (2, .int v2), (3, .int (v3 + 1)), (4, .int (-1))]) rfl rfl (congrArg (v3 + ·) (by decide)) rfl rfl ?_
          refine lh_goto rfl ?_
          refine lh_less [0, 1, 2, 3] rfl ?_
          exact ih v1 v2 (v3 + 1) (lh_u2 I (8 + 4) 0 v3) _ hf x0_
        · have hf := lh_ifF hf c12
          refine lh_iload (q := 4) rfl rfl ?_
          refine lh_istore_n (lv' := [(0, .ref (0 + 4)), (1, .int v1), (2, .int (-1)), (3, .int v3), (4, .int (-1))]) rfl rfl rfl rfl ?_
          refine lh_iload_n (q := 3) rfl rfl rfl ?_
          refine lh_istore_n (lv' := [(0, .ref (0 + 4)), (1, .int v3), (2, .int (-1)), (3, .int v3), (4, .int (-1))]) rfl rfl rfl rfl ?_
          refine lh_iinc (q := 3) (v := (v3 + 1)) (lv' := [(0, .ref (0 + 4)), (1, .int v3), (2, .int (-1)), (3, .int (v3 + 1)), (4, .int (-1))]) rfl rfl (congrArg (v3 + ·) (by decide)) rfl rfl ?_
          refine lh_goto rfl ?_
          refine lh_less [0, 1, 2, 3] rfl ?_
          exact ih v3 (-1) (v3 + 1) (lh_u2 I (8 + 4) 0 v3) _ hf x0_
theorem t_LH_best {Γ : lh_Cx} {I : lh_II} {L : lh_LL} {F : lh_FF} {S : lh_SS} {K : Int32 → lh_Hp → Prop} {r : Int32 × lh_II} (hG : lh_GX Γ) (hS : lh_lay F S) {a : Nat} (ha : lh_hl F S a) (hA : F (0 + 4) 6 = a + 4) {b : Nat} (hb : lh_nl F S b) (hB : F (0 + 4) 8 = b + 4) (hf : f_LH_best a b I = some r) (hK : K r.1 (r.2, L, F, S)) : lh_Met Γ m_LH_best 5 0 0 [.ref (0 + 4)] (I, L, F, S) (lh_ki K) := by
  rw [f_LH_best] at hf
  refine lh_ofG k_LH_best [(0, .ref (0 + 4))] rfl (Nat.le_of_ble_eq_true rfl) rfl ?_
  refine lh_iconst rfl lh_k_m1 ?_
  refine lh_istore_n (lv' := [(0, .ref (0 + 4)), (1, .int (-1))]) rfl rfl rfl rfl ?_
  refine lh_iconst rfl lh_k_m1 ?_
  refine lh_istore_n (lv' := [(0, .ref (0 + 4)), (1, .int (-1)), (2, .int (-1))]) rfl rfl rfl rfl ?_
  refine lh_aload_n (q := 0) rfl rfl rfl ?_
  refine lh_getR4 rfl rfl (hS.1 0 _ rfl) rfl (hS.2 11 _ rfl) ?_
  refine lh_aload_n (q := 0) rfl rfl rfl ?_
  refine lh_getR4 rfl rfl (hS.1 0 _ rfl) rfl (hS.2 10 _ rfl) ?_
  refine lh_bdE hf (fun r1 e2 hf => ?_)
  refine lh_cVv (N := m_Mo_become) (d := 0) (o := 8) (As := [.ref (7 + 4)]) (st := []) rfl rfl v_Mo_become (hS.1 8 _ rfl) rfl rfl rfl ⟨rfl, rfl⟩ rfl (t_Mo_become hG hS (hS.1 8 _ rfl) (hS.1 7 _ rfl) e2 ?_)
  refine lh_iconst rfl lh_k_0 ?_
  refine lh_istore_n (lv' := [(0, .ref (0 + 4)), (1, .int (-1)), (2, .int (-1)), (3, .int 0)]) rfl rfl rfl rfl ?_
  refine lh_bdE hf (fun r13 e14 hf => ?_)
  refine t_LH_best_11 hG hS ha hA hb hB _ (-1) (-1) 0 r1 _ e14 ?_
  refine lh_iload_n (q := 0) rfl rfl rfl ?_
  exact lh_iret rfl rfl rfl (by obtain rfl := Option.some.inj hf; exact hK)
def f_LH_blot_6 (a : Nat) (b : Nat) : Nat → Int32 → Int32 → Int32 → lh_II → Option (Int32 × lh_II)
  | 0, _, _, _, _ => none
  | n + 1, v1, v2, v3, I => if (I (a + 4) 9) ≤ v3 then some (v1, I) else lh_bd (f_Ha_hasPillar a v3 I) fun r2 => if r2 = 0 then lh_bd (f_Ha_seenBehind a 7 ((I (a + 4) 10) ||| ((1 : Int32) <<< (v3 &&& 31))) I) fun r5 => lh_bd (f_Int_bitCount r5.1) fun r7 => if v2 ≤ r7 then f_LH_blot_6 a b n v1 v2 (v3 + 1) r5.2 else f_LH_blot_6 a b n v3 r7 (v3 + 1) r5.2 else f_LH_blot_6 a b n v1 v2 (v3 + 1) I
def f_LH_blot (a : Nat) (b : Nat) (I : lh_II) : Option (Int32 × lh_II) := lh_bd (f_LH_blot_6 a b lh_fuel (-1) 7 0 I) fun r10 => some (r10.1, r10.2)
theorem t_LH_blot_6 {Γ : lh_Cx} {F : lh_FF} {S : lh_SS} {Z : List Frame → Array Value → State → State → Prop} (hG : lh_GX Γ) (hS : lh_lay F S) {a : Nat} (ha : lh_hl F S a) (hA : F (0 + 4) 6 = a + 4) {b : Nat} (hb : lh_nl F S b) (hB : F (0 + 4) 8 = b + 4)  {L : lh_LL} : ∀ (n : Nat) (v1 : Int32) (v2 : Int32) (v3 : Int32) (I : lh_II) (o : Int32 × lh_II), f_LH_blot_6 a b n v1 v2 v3 I = some o → ∀ (x0_ : lh_G Γ m_LH_blot (lh_R 4 0 0) Z 0 0 39 [(1, .int o.1)] [] (o.2, L, F, S)), lh_G Γ m_LH_blot (lh_R 4 0 0) Z 0 0 6 [(0, .ref (0 + 4)), (1, .int v1), (2, .int v2), (3, .int v3)] [] (I, L, F, S) := by
  intro n
  induction n with
  | zero => intro v1 v2 v3 I o hf; cases hf
  | succ n ih =>
    intro v1 v2 v3 I o hf x0_
    rw [f_LH_blot_6] at hf
    refine lh_iload_n (q := 3) rfl rfl rfl ?_
    refine lh_aload_n (q := 0) rfl rfl rfl ?_
    refine lh_getR4 rfl rfl (hS.1 0 _ rfl) rfl hA ?_
    refine lh_getI4 rfl rfl (ha.1 0 _ rfl) rfl ?_
    refine lh_icmp_ge rfl (fun c1 => ?_) (fun c1 => ?_)
    · have hf := lh_ifT hf c1
      exact lh_less [1] rfl (by cases hf; exact x0_)
    · have hf := lh_ifF hf c1
      refine lh_aload_n (q := 0) rfl rfl rfl ?_
      refine lh_getR4 rfl rfl (hS.1 0 _ rfl) rfl hA ?_
      refine lh_iload_n (q := 3) rfl rfl rfl ?_
      refine lh_bdE hf (fun r2 e3 hf => ?_)
      refine lh_cVi (N := m_Ha_hasPillar) (d := 1) (o := a) (As := [.int v3]) (st := []) rfl rfl v_Ha_hasPillar (ha.1 0 _ rfl) rfl rfl rfl ⟨rfl, rfl⟩ rfl (t_Ha_hasPillar hG hS ha e3 ?_)
      refine lh_if_ne rfl (fun c4 => ?_) (fun c4 => ?_)
      · have hf := lh_ifF hf c4
        refine lh_iinc (q := 3) (v := (v3 + 1)) (lv' := [(0, .ref (0 + 4)), (1, .int v1), (2, .int v2), (3, .int (v3 + 1))]) rfl rfl (congrArg (v3 + ·) (by decide)) rfl rfl ?_
        refine lh_goto rfl ?_
        exact ih v1 v2 (v3 + 1) I _ hf x0_
      · have hf := lh_ifT hf c4
        refine lh_aload_n (q := 0) rfl rfl rfl ?_
        refine lh_getR4 rfl rfl (hS.1 0 _ rfl) rfl hA ?_
        refine lh_aload_n (q := 0) rfl rfl rfl ?_
        refine lh_getR4 rfl rfl (hS.1 0 _ rfl) rfl (hS.2 10 _ rfl) ?_
        refine lh_aload_n (q := 0) rfl rfl rfl ?_
        refine lh_getR4 rfl rfl (hS.1 0 _ rfl) rfl hA ?_
        refine lh_getI4 rfl rfl (ha.1 0 _ rfl) rfl ?_
        refine lh_iconst rfl lh_k_1 ?_
        refine lh_iload_n (q := 3) rfl rfl rfl ?_
        refine lh_ishl rfl ?_
        refine lh_ior rfl ?_
        refine lh_bdE hf (fun r5 e6 hf => ?_)
        refine lh_cVi (N := m_Ha_seenBehind) (d := 3) (o := a) (As := [.ref (7 + 4), .int ((I (a + 4) 10) ||| ((1 : Int32) <<< (v3 &&& 31)))]) (st := []) rfl rfl v_Ha_seenBehind (ha.1 0 _ rfl) rfl rfl rfl ⟨rfl, rfl⟩ rfl (t_Ha_seenBehind hG hS ha (hS.1 7 _ rfl) e6 ?_)
        refine lh_bdE hf (fun r7 e8 hf => ?_)
        refine lh_cSi (N := m_Int_bitCount) (d := 0) (As := [.int r5.1]) (st := []) rfl rfl v_Int_bitCount rfl rfl ⟨rfl, rfl⟩ rfl (t_Int_bitCount hG hS e8 ?_)
        refine lh_istore (lv' := [(0, .ref (0 + 4)), (1, .int v1), (2, .int v2), (3, .int v3), (4, .int r7)]) rfl rfl rfl ?_
        refine lh_iload (q := 4) rfl rfl ?_
        refine lh_iload_n (q := 2) rfl rfl rfl ?_
        refine lh_icmp_ge rfl (fun c9 => ?_) (fun c9 => ?_)
        · have hf := lh_ifT hf c9
          refine lh_iinc (q := 3) (v := (v3 + 1)) (lv' := [(0, .ref (0 + 4)), (1, .int v1), (2, .int v2), (3, .int (v3 + 1)), (4, .int r7)]) rfl rfl (congrArg (v3 + ·) (by decide)) rfl rfl ?_
          refine lh_goto rfl ?_
          refine lh_less [0, 1, 2, 3] rfl ?_
          exact ih v1 v2 (v3 + 1) r5.2 _ hf x0_
        · have hf := lh_ifF hf c9
          refine lh_iload (q := 4) rfl rfl ?_
          refine lh_istore_n (lv' := [(0, .ref (0 + 4)), (1, .int v1), (2, .int r7), (3, .int v3), (4, .int r7)]) rfl rfl rfl rfl ?_
          refine lh_iload_n (q := 3) rfl rfl rfl ?_
          refine lh_istore_n (lv' := [(0, .ref (0 + 4)), (1, .int v3), (2, .int r7), (3, .int v3), (4, .int r7)]) rfl rfl rfl rfl ?_
          refine lh_iinc (q := 3) (v := (v3 + 1)) (lv' := [(0, .ref (0 + 4)), (1, .int v3), (2, .int r7), (3, .int (v3 + 1)), (4, .int r7)]) rfl rfl (congrArg (v3 + ·) (by decide)) rfl rfl ?_
          refine lh_goto rfl ?_
          refine lh_less [0, 1, 2, 3] rfl ?_
          exact ih v3 r7 (v3 + 1) r5.2 _ hf x0_
theorem t_LH_blot {Γ : lh_Cx} {I : lh_II} {L : lh_LL} {F : lh_FF} {S : lh_SS} {K : Int32 → lh_Hp → Prop} {r : Int32 × lh_II} (hG : lh_GX Γ) (hS : lh_lay F S) {a : Nat} (ha : lh_hl F S a) (hA : F (0 + 4) 6 = a + 4) {b : Nat} (hb : lh_nl F S b) (hB : F (0 + 4) 8 = b + 4) (hf : f_LH_blot a b I = some r) (hK : K r.1 (r.2, L, F, S)) : lh_Met Γ m_LH_blot 4 0 0 [.ref (0 + 4)] (I, L, F, S) (lh_ki K) := by
  rw [f_LH_blot] at hf
  refine lh_ofG k_LH_blot [(0, .ref (0 + 4))] rfl (Nat.le_of_ble_eq_true rfl) rfl ?_
  refine lh_iconst rfl lh_k_m1 ?_
  refine lh_istore_n (lv' := [(0, .ref (0 + 4)), (1, .int (-1))]) rfl rfl rfl rfl ?_
  refine lh_bipush rfl lh_b_7 ?_
  refine lh_istore_n (lv' := [(0, .ref (0 + 4)), (1, .int (-1)), (2, .int 7)]) rfl rfl rfl rfl ?_
  refine lh_iconst rfl lh_k_0 ?_
  refine lh_istore_n (lv' := [(0, .ref (0 + 4)), (1, .int (-1)), (2, .int 7), (3, .int 0)]) rfl rfl rfl rfl ?_
  refine lh_bdE hf (fun r10 e11 hf => ?_)
  refine t_LH_blot_6 hG hS ha hA hb hB _ (-1) 7 0 I _ e11 ?_
  refine lh_iload_n (q := 0) rfl rfl rfl ?_
  exact lh_iret rfl rfl rfl (by obtain rfl := Option.some.inj hf; exact hK)
def f_LH_isDay (x1 : Int32) : Option (Int32) := if x1 < 0 then some 0 else if 4 ≤ x1 then some 0 else some 1
theorem t_LH_isDay {Γ : lh_Cx} {I : lh_II} {L : lh_LL} {F : lh_FF} {S : lh_SS} {K : Int32 → lh_Hp → Prop} {r : Int32} (hG : lh_GX Γ) (hS : lh_lay F S)  {x1 : Int32} (hf : f_LH_isDay x1 = some r) (hK : K r (I, L, F, S)) : lh_Met Γ m_LH_isDay 0 0 0 [.int x1] (I, L, F, S) (lh_ki K) := by
  rw [f_LH_isDay] at hf
  refine lh_ofG k_LH_isDay [(0, .int x1)] rfl (Nat.le_of_ble_eq_true rfl) rfl ?_
  refine lh_iload_n (q := 0) rfl rfl rfl ?_
  refine lh_if_lt rfl (fun c1 => ?_) (fun c1 => ?_)
  · have hf := lh_ifT hf c1
    refine lh_iconst rfl lh_k_0 ?_
    exact lh_iret rfl rfl (by decide) (by obtain rfl := Option.some.inj hf; exact hK)
  · have hf := lh_ifF hf c1
    refine lh_iload_n (q := 0) rfl rfl rfl ?_
    refine lh_iconst rfl lh_k_4 ?_
    refine lh_icmp_ge rfl (fun c2 => ?_) (fun c2 => ?_)
    · have hf := lh_ifT hf c2
      refine lh_iconst rfl lh_k_0 ?_
      exact lh_iret rfl rfl (by decide) (by obtain rfl := Option.some.inj hf; exact hK)
    · have hf := lh_ifF hf c2
      refine lh_iconst rfl lh_k_1 ?_
      refine lh_goto rfl ?_
      exact lh_iret rfl rfl (by decide) (by obtain rfl := Option.some.inj hf; exact hK)
def f_LH_census (a : Nat) (b : Nat) (x1 : Int32) (x2 : Int32) (I : lh_II) : Option (Int32) := lh_bd (f_LH_isDay x1) fun r1 => if r1 = 0 then some (-1) else lh_bd (f_LH_isHour x2) fun r4 => if r4 = 0 then some (-1) else lh_bd (f_Ha_whoIsThere a x1 x2 I) fun r7 => some r7
theorem t_LH_census {Γ : lh_Cx} {I : lh_II} {L : lh_LL} {F : lh_FF} {S : lh_SS} {K : Int32 → lh_Hp → Prop} {r : Int32} (hG : lh_GX Γ) (hS : lh_lay F S) {a : Nat} (ha : lh_hl F S a) (hA : F (0 + 4) 6 = a + 4) {b : Nat} (hb : lh_nl F S b) (hB : F (0 + 4) 8 = b + 4) {x1 : Int32} {x2 : Int32} (hf : f_LH_census a b x1 x2 I = some r) (hK : K r (I, L, F, S)) : lh_Met Γ m_LH_census 3 0 0 [.ref (0 + 4), .int x1, .int x2] (I, L, F, S) (lh_ki K) := by
  rw [f_LH_census] at hf
  refine lh_ofG k_LH_census [(0, .ref (0 + 4)), (1, .int x1), (2, .int x2)] rfl (Nat.le_of_ble_eq_true rfl) rfl ?_
  refine lh_iload_n (q := 1) rfl rfl rfl ?_
  refine lh_bdE hf (fun r1 e2 hf => ?_)
  refine lh_cSi (N := m_LH_isDay) (d := 0) (As := [.int x1]) (st := []) rfl rfl v_LH_isDay rfl rfl ⟨rfl, rfl⟩ rfl (t_LH_isDay hG hS e2 ?_)
  refine lh_if_eq rfl (fun c3 => ?_) (fun c3 => ?_)
  · have hf := lh_ifT hf c3
    refine lh_iconst rfl lh_k_m1 ?_
    exact lh_iret rfl rfl rfl (by obtain rfl := Option.some.inj hf; exact hK)
  · have hf := lh_ifF hf c3
    refine lh_iload_n (q := 2) rfl rfl rfl ?_
    refine lh_bdE hf (fun r4 e5 hf => ?_)
    refine lh_cSi (N := m_LH_isHour) (d := 0) (As := [.int x2]) (st := []) rfl rfl v_LH_isHour rfl rfl ⟨rfl, rfl⟩ rfl (t_LH_isHour hG hS e5 ?_)
    refine lh_if_ne rfl (fun c6 => ?_) (fun c6 => ?_)
    · have hf := lh_ifF hf c6
      refine lh_aload_n (q := 0) rfl rfl rfl ?_
      refine lh_getR4 rfl rfl (hS.1 0 _ rfl) rfl hA ?_
      refine lh_iload_n (q := 1) rfl rfl rfl ?_
      refine lh_iload_n (q := 2) rfl rfl rfl ?_
      refine lh_bdE hf (fun r7 e8 hf => ?_)
      refine lh_cVi (N := m_Ha_whoIsThere) (d := 2) (o := a) (As := [.int x1, .int x2]) (st := []) rfl rfl v_Ha_whoIsThere (ha.1 0 _ rfl) rfl rfl rfl ⟨rfl, rfl⟩ rfl (t_Ha_whoIsThere hG hS ha e8 ?_)
      exact lh_iret rfl rfl rfl (by obtain rfl := Option.some.inj hf; exact hK)
    · have hf := lh_ifT hf c6
      refine lh_iconst rfl lh_k_m1 ?_
      exact lh_iret rfl rfl rfl (by obtain rfl := Option.some.inj hf; exact hK)
def f_LH_chance_19 (a : Nat) (b : Nat) (v1 : Int32) (v2 : Int32) (v3 : Int32) (I : lh_II) : Nat → Int32 → Int32 → Option (Int32)
  | 0, _, _ => none
  | n + 1, v4, v5 => if (I (a + 4) 11) ≤ v5 then some v4 else lh_bd (f_Ha_wouldTake a v5 v1 v2 I) fun r10 => if r10 = 0 then f_LH_chance_19 a b v1 v2 v3 I n v4 (v5 + 1) else f_LH_chance_19 a b v1 v2 v3 I n ((v4 / 10) * (10 - v3)) (v5 + 1)
def f_LH_chance (a : Nat) (b : Nat) (x1 : Int32) (x2 : Int32) (x3 : Int32) (I : lh_II) : Option (Int32) := lh_bd (f_Ha_hasVase a x1 I) fun r1 => if r1 = 0 then some (-1) else lh_bd (f_LH_isDay x2) fun r4 => if r4 = 0 then some (-1) else if x3 < 0 then some (-1) else if x3 ≤ 10 then lh_bd (f_LH_chance_19 a b x1 x2 x3 I lh_fuel 1000000 0) fun r13 => some (1000000 - r13) else some (-1)
theorem t_LH_chance_19 {Γ : lh_Cx} {F : lh_FF} {S : lh_SS} {Z : List Frame → Array Value → State → State → Prop} (hG : lh_GX Γ) (hS : lh_lay F S) {a : Nat} (ha : lh_hl F S a) (hA : F (0 + 4) 6 = a + 4) {b : Nat} (hb : lh_nl F S b) (hB : F (0 + 4) 8 = b + 4) {v1 : Int32} {v2 : Int32} {v3 : Int32} {I : lh_II} {L : lh_LL} : ∀ (n : Nat) (v4 : Int32) (v5 : Int32) (o : Int32), f_LH_chance_19 a b v1 v2 v3 I n v4 v5 = some o → ∀ (x0_ : lh_G Γ m_LH_chance (lh_R 3 0 0) Z 0 0 41 [(4, .int o)] [] (I, L, F, S)), lh_G Γ m_LH_chance (lh_R 3 0 0) Z 0 0 19 [(0, .ref (0 + 4)), (1, .int v1), (2, .int v2), (3, .int v3), (4, .int v4), (5, .int v5)] [] (I, L, F, S) := by
  intro n
  induction n with
  | zero => intro v4 v5 o hf; cases hf
  | succ n ih =>
    intro v4 v5 o hf x0_
    rw [f_LH_chance_19] at hf
    refine lh_iload (q := 5) rfl rfl ?_
    refine lh_aload_n (q := 0) rfl rfl rfl ?_
    refine lh_getR4 rfl rfl (hS.1 0 _ rfl) rfl hA ?_
    refine lh_getI4 rfl rfl (ha.1 0 _ rfl) rfl ?_
    refine lh_icmp_ge rfl (fun c9 => ?_) (fun c9 => ?_)
    · have hf := lh_ifT hf c9
      exact lh_less [4] rfl (by cases hf; exact x0_)
    · have hf := lh_ifF hf c9
      refine lh_aload_n (q := 0) rfl rfl rfl ?_
      refine lh_getR4 rfl rfl (hS.1 0 _ rfl) rfl hA ?_
      refine lh_iload (q := 5) rfl rfl ?_
      refine lh_iload_n (q := 1) rfl rfl rfl ?_
      refine lh_iload_n (q := 2) rfl rfl rfl ?_
      refine lh_bdE hf (fun r10 e11 hf => ?_)
      refine lh_cVi (N := m_Ha_wouldTake) (d := 2) (o := a) (As := [.int v5, .int v1, .int v2]) (st := []) rfl rfl v_Ha_wouldTake (ha.1 0 _ rfl) rfl rfl rfl ⟨rfl, rfl⟩ rfl (t_Ha_wouldTake hG hS ha e11 ?_)
      refine lh_if_eq rfl (fun c12 => ?_) (fun c12 => ?_)
      · have hf := lh_ifT hf c12
        refine lh_iinc (q := 5) (v := (v5 + 1)) (lv' := [(0, .ref (0 + 4)), (1, .int v1), (2, .int v2), (3, .int v3), (4, .int v4), (5, .int (v5 + 1))]) rfl rfl (congrArg (v5 + ·) (by decide)) rfl rfl ?_
        refine lh_goto rfl ?_
        exact ih v4 (v5 + 1) _ hf x0_
      · have hf := lh_ifF hf c12
        refine lh_iload (q := 4) rfl rfl ?_
        refine lh_bipush rfl lh_b_10 ?_
        refine lh_idiv rfl (by decide) ?_
        refine lh_bipush rfl lh_b_10 ?_
        refine lh_iload_n (q := 3) rfl rfl rfl ?_
        refine lh_isub rfl ?_
        refine lh_imul rfl ?_
        refine lh_istore (lv' := [(0, .ref (0 + 4)), (1, .int v1), (2, .int v2), (3, .int v3), (4, .int ((v4 / 10) * (10 - v3))), (5, .int v5)]) rfl rfl rfl ?_
        refine lh_iinc (q := 5) (v := (v5 + 1)) (lv' := [(0, .ref (0 + 4)), (1, .int v1), (2, .int v2), (3, .int v3), (4, .int ((v4 / 10) * (10 - v3))), (5, .int (v5 + 1))]) rfl rfl (congrArg (v5 + ·) (by decide)) rfl rfl ?_
        refine lh_goto rfl ?_
        exact ih ((v4 / 10) * (10 - v3)) (v5 + 1) _ hf x0_
theorem t_LH_chance {Γ : lh_Cx} {I : lh_II} {L : lh_LL} {F : lh_FF} {S : lh_SS} {K : Int32 → lh_Hp → Prop} {r : Int32} (hG : lh_GX Γ) (hS : lh_lay F S) {a : Nat} (ha : lh_hl F S a) (hA : F (0 + 4) 6 = a + 4) {b : Nat} (hb : lh_nl F S b) (hB : F (0 + 4) 8 = b + 4) {x1 : Int32} {x2 : Int32} {x3 : Int32} (hf : f_LH_chance a b x1 x2 x3 I = some r) (hK : K r (I, L, F, S)) : lh_Met Γ m_LH_chance 3 0 0 [.ref (0 + 4), .int x1, .int x2, .int x3] (I, L, F, S) (lh_ki K) := by
  rw [f_LH_chance] at hf
  refine lh_ofG k_LH_chance [(0, .ref (0 + 4)), (1, .int x1), (2, .int x2), (3, .int x3)] rfl (Nat.le_of_ble_eq_true rfl) rfl ?_
  refine lh_aload_n (q := 0) rfl rfl rfl ?_
  refine lh_getR4 rfl rfl (hS.1 0 _ rfl) rfl hA ?_
  refine lh_iload_n (q := 1) rfl rfl rfl ?_
  refine lh_bdE hf (fun r1 e2 hf => ?_)
  refine lh_cVi (N := m_Ha_hasVase) (d := 0) (o := a) (As := [.int x1]) (st := []) rfl rfl v_Ha_hasVase (ha.1 0 _ rfl) rfl rfl rfl ⟨rfl, rfl⟩ rfl (t_Ha_hasVase hG hS ha e2 ?_)
  refine lh_if_eq rfl (fun c3 => ?_) (fun c3 => ?_)
  · have hf := lh_ifT hf c3
    refine lh_iconst rfl lh_k_m1 ?_
    exact lh_iret rfl rfl rfl (by obtain rfl := Option.some.inj hf; exact hK)
  · have hf := lh_ifF hf c3
    refine lh_iload_n (q := 2) rfl rfl rfl ?_
    refine lh_bdE hf (fun r4 e5 hf => ?_)
    refine lh_cSi (N := m_LH_isDay) (d := 0) (As := [.int x2]) (st := []) rfl rfl v_LH_isDay rfl rfl ⟨rfl, rfl⟩ rfl (t_LH_isDay hG hS e5 ?_)
    refine lh_if_eq rfl (fun c6 => ?_) (fun c6 => ?_)
    · have hf := lh_ifT hf c6
      refine lh_iconst rfl lh_k_m1 ?_
      exact lh_iret rfl rfl rfl (by obtain rfl := Option.some.inj hf; exact hK)
    · have hf := lh_ifF hf c6
      refine lh_iload_n (q := 3) rfl rfl rfl ?_
      refine lh_if_lt rfl (fun c7 => ?_) (fun c7 => ?_)
      · have hf := lh_ifT hf c7
        refine lh_iconst rfl lh_k_m1 ?_
        exact lh_iret rfl rfl rfl (by obtain rfl := Option.some.inj hf; exact hK)
      · have hf := lh_ifF hf c7
        refine lh_iload_n (q := 3) rfl rfl rfl ?_
        refine lh_bipush rfl lh_b_10 ?_
        refine lh_icmp_le rfl (fun c8 => ?_) (fun c8 => ?_)
        · have hf := lh_ifT hf c8
          refine lh_ldcw rfl rfl ?_
          refine lh_istore (lv' := [(0, .ref (0 + 4)), (1, .int x1), (2, .int x2), (3, .int x3), (4, .int 1000000)]) rfl rfl rfl ?_
          refine lh_iconst rfl lh_k_0 ?_
          refine lh_istore (lv' := [(0, .ref (0 + 4)), (1, .int x1), (2, .int x2), (3, .int x3), (4, .int 1000000), (5, .int 0)]) rfl rfl rfl ?_
          refine lh_bdE hf (fun r13 e14 hf => ?_)
          refine t_LH_chance_19 hG hS ha hA hb hB _ 1000000 0 _ e14 ?_
          refine lh_ldcw rfl rfl ?_
          refine lh_iload (q := 0) rfl rfl ?_
          refine lh_isub rfl ?_
          exact lh_iret rfl rfl rfl (by obtain rfl := Option.some.inj hf; exact hK)
        · have hf := lh_ifF hf c8
          refine lh_iconst rfl lh_k_m1 ?_
          exact lh_iret rfl rfl rfl (by obtain rfl := Option.some.inj hf; exact hK)
def f_Mo_trimTo (m : Nat) (x1 : Int32) (I : lh_II) : Option (lh_II) := some (lh_u2 (lh_u2 I (m + 4) 2 x1) (m + 4) 3 (((lh_u2 I (m + 4) 2 x1) (m + 4) 3) - 2))
theorem t_Mo_trimTo {Γ : lh_Cx} {I : lh_II} {L : lh_LL} {F : lh_FF} {S : lh_SS} {K : lh_Hp → Prop} {r : lh_II} (hG : lh_GX Γ) (hS : lh_lay F S) {m : Nat} (hm : S[m]? = some (10, 0)) {x1 : Int32} (hf : f_Mo_trimTo m x1 I = some r) (hK : K (r, L, F, S)) : lh_Met Γ m_Mo_trimTo 0 0 0 [.ref (m + 4), .int x1] (I, L, F, S) (lh_kv K) := by
  rw [f_Mo_trimTo] at hf
  refine lh_ofG k_Mo_trimTo [(0, .ref (m + 4)), (1, .int x1)] rfl (Nat.le_of_ble_eq_true rfl) rfl ?_
  refine lh_aload_n (q := 0) rfl rfl rfl ?_
  refine lh_iload_n (q := 1) rfl rfl rfl ?_
  refine lh_putI4 rfl rfl hm rfl rfl ?_
  refine lh_aload_n (q := 0) rfl rfl rfl ?_
  refine lh_dup rfl rfl ?_
  refine lh_getI4 rfl rfl hm rfl ?_
  refine lh_iconst rfl lh_k_2 ?_
  refine lh_isub rfl ?_
  refine lh_putI4 rfl rfl hm rfl rfl ?_
  exact lh_vret rfl rfl (by obtain rfl := Option.some.inj hf; exact hK)
def f_LH_choose_13 (a : Nat) (b : Nat) : Nat → Int32 → Int32 → Int32 → lh_II → Option (Int32 × lh_II)
  | 0, _, _, _, _ => none
  | n + 1, v1, v2, v3, I => if 4 ≤ v3 then some (v1, I) else lh_bd (f_Mo_become 8 7 I) fun r3 => lh_bd (f_Mo_trimTo 8 v3 r3) fun r5 => lh_bd (f_Ha_seenBy a 8 r5) fun r7 => lh_bd (f_Int_bitCount r7.1) fun r9 => if r9 ≤ v2 then f_LH_choose_13 a b n v1 v2 (v3 + 1) r7.2 else f_LH_choose_13 a b n v3 r9 (v3 + 1) r7.2
def f_LH_choose (a : Nat) (b : Nat) (I : lh_II) : Option (Int32 × lh_II) := if 2 ≤ (I (7 + 4) 3) then lh_bd (f_LH_choose_13 a b lh_fuel (-1) (-1) 0 I) fun r12 => some (r12.1, r12.2) else some ((-1), I)
theorem t_LH_choose_13 {Γ : lh_Cx} {F : lh_FF} {S : lh_SS} {Z : List Frame → Array Value → State → State → Prop} (hG : lh_GX Γ) (hS : lh_lay F S) {a : Nat} (ha : lh_hl F S a) (hA : F (0 + 4) 6 = a + 4) {b : Nat} (hb : lh_nl F S b) (hB : F (0 + 4) 8 = b + 4)  {L : lh_LL} : ∀ (n : Nat) (v1 : Int32) (v2 : Int32) (v3 : Int32) (I : lh_II) (o : Int32 × lh_II), f_LH_choose_13 a b n v1 v2 v3 I = some o → ∀ (x0_ : lh_G Γ m_LH_choose (lh_R 5 0 0) Z 0 0 41 [(1, .int o.1)] [] (o.2, L, F, S)), lh_G Γ m_LH_choose (lh_R 5 0 0) Z 0 0 13 [(0, .ref (0 + 4)), (1, .int v1), (2, .int v2), (3, .int v3)] [] (I, L, F, S) := by
  intro n
  induction n with
  | zero => intro v1 v2 v3 I o hf; cases hf
  | succ n ih =>
    intro v1 v2 v3 I o hf x0_
    rw [f_LH_choose_13] at hf
    refine lh_iload_n (q := 3) rfl rfl rfl ?_
    refine lh_iconst rfl lh_k_4 ?_
    refine lh_icmp_ge rfl (fun c2 => ?_) (fun c2 => ?_)
    · have hf := lh_ifT hf c2
      exact lh_less [1] rfl (by cases hf; exact x0_)
    · have hf := lh_ifF hf c2
      refine lh_aload_n (q := 0) rfl rfl rfl ?_
      refine lh_getR4 rfl rfl (hS.1 0 _ rfl) rfl (hS.2 11 _ rfl) ?_
      refine lh_aload_n (q := 0) rfl rfl rfl ?_
      refine lh_getR4 rfl rfl (hS.1 0 _ rfl) rfl (hS.2 10 _ rfl) ?_
      refine lh_bdE hf (fun r3 e4 hf => ?_)
      refine lh_cVv (N := m_Mo_become) (d := 0) (o := 8) (As := [.ref (7 + 4)]) (st := []) rfl rfl v_Mo_become (hS.1 8 _ rfl) rfl rfl rfl ⟨rfl, rfl⟩ rfl (t_Mo_become hG hS (hS.1 8 _ rfl) (hS.1 7 _ rfl) e4 ?_)
      refine lh_aload_n (q := 0) rfl rfl rfl ?_
      refine lh_getR4 rfl rfl (hS.1 0 _ rfl) rfl (hS.2 11 _ rfl) ?_
      refine lh_iload_n (q := 3) rfl rfl rfl ?_
      refine lh_bdE hf (fun r5 e6 hf => ?_)
      refine lh_cVv (N := m_Mo_trimTo) (d := 0) (o := 8) (As := [.int v3]) (st := []) rfl rfl v_Mo_trimTo (hS.1 8 _ rfl) rfl rfl rfl ⟨rfl, rfl⟩ rfl (t_Mo_trimTo hG hS (hS.1 8 _ rfl) e6 ?_)
      refine lh_aload_n (q := 0) rfl rfl rfl ?_
      refine lh_getR4 rfl rfl (hS.1 0 _ rfl) rfl hA ?_
      refine lh_aload_n (q := 0) rfl rfl rfl ?_
      refine lh_getR4 rfl rfl (hS.1 0 _ rfl) rfl (hS.2 11 _ rfl) ?_
      refine lh_bdE hf (fun r7 e8 hf => ?_)
      refine lh_cVi (N := m_Ha_seenBy) (d := 4) (o := a) (As := [.ref (8 + 4)]) (st := []) rfl rfl v_Ha_seenBy (ha.1 0 _ rfl) rfl rfl rfl ⟨rfl, rfl⟩ rfl (t_Ha_seenBy hG hS ha (hS.1 8 _ rfl) e8 ?_)
      refine lh_bdE hf (fun r9 e10 hf => ?_)
      refine lh_cSi (N := m_Int_bitCount) (d := 0) (As := [.int r7.1]) (st := []) rfl rfl v_Int_bitCount rfl rfl ⟨rfl, rfl⟩ rfl (t_Int_bitCount hG hS e10 ?_)
      refine lh_istore (lv' := [(0, .ref (0 + 4)), (1, .int v1), (2, .int v2), (3, .int v3), (4, .int r9)]) rfl rfl rfl ?_
      refine lh_iload (q := 4) rfl rfl ?_
      refine lh_iload_n (q := 2) rfl rfl rfl ?_
      refine lh_icmp_le rfl (fun c11 => ?_) (fun c11 => ?_)
      · have hf := lh_ifT hf c11
        refine lh_iinc (q := 3) (v := (v3 + 1)) (lv' := [(0, .ref (0 + 4)), (1, .int v1), (2, .int v2), (3, .int (v3 + 1)), (4, .int r9)]) rfl rfl (congrArg (v3 + ·) (by decide)) rfl rfl ?_
        refine lh_goto rfl ?_
        refine lh_less [0, 1, 2, 3] rfl ?_
        exact ih v1 v2 (v3 + 1) r7.2 _ hf x0_
      · have hf := lh_ifF hf c11
        refine lh_iload (q := 4) rfl rfl ?_
        refine lh_istore_n (lv' := [(0, .ref (0 + 4)), (1, .int v1), (2, .int r9), (3, .int v3), (4, .int r9)]) rfl rfl rfl rfl ?_
        refine lh_iload_n (q := 3) rfl rfl rfl ?_
        refine lh_istore_n (lv' := [(0, .ref (0 + 4)), (1, .int v3), (2, .int r9), (3, .int v3), (4, .int r9)]) rfl rfl rfl rfl ?_
        refine lh_iinc (q := 3) (v := (v3 + 1)) (lv' := [(0, .ref (0 + 4)), (1, .int v3), (2, .int r9), (3, .int (v3 + 1)), (4, .int r9)]) rfl rfl (congrArg (v3 + ·) (by decide)) rfl rfl ?_
        refine lh_goto rfl ?_
        refine lh_less [0, 1, 2, 3] rfl ?_
        exact ih v3 r9 (v3 + 1) r7.2 _ hf x0_
theorem t_LH_choose {Γ : lh_Cx} {I : lh_II} {L : lh_LL} {F : lh_FF} {S : lh_SS} {K : Int32 → lh_Hp → Prop} {r : Int32 × lh_II} (hG : lh_GX Γ) (hS : lh_lay F S) {a : Nat} (ha : lh_hl F S a) (hA : F (0 + 4) 6 = a + 4) {b : Nat} (hb : lh_nl F S b) (hB : F (0 + 4) 8 = b + 4) (hf : f_LH_choose a b I = some r) (hK : K r.1 (r.2, L, F, S)) : lh_Met Γ m_LH_choose 5 0 0 [.ref (0 + 4)] (I, L, F, S) (lh_ki K) := by
  rw [f_LH_choose] at hf
  refine lh_ofG k_LH_choose [(0, .ref (0 + 4))] rfl (Nat.le_of_ble_eq_true rfl) rfl ?_
  refine lh_aload_n (q := 0) rfl rfl rfl ?_
  refine lh_getR4 rfl rfl (hS.1 0 _ rfl) rfl (hS.2 10 _ rfl) ?_
  refine lh_getI4 rfl rfl (hS.1 7 _ rfl) rfl ?_
  refine lh_iconst rfl lh_k_2 ?_
  refine lh_icmp_ge rfl (fun c1 => ?_) (fun c1 => ?_)
  · have hf := lh_ifT hf c1
    refine lh_iconst rfl lh_k_m1 ?_
    refine lh_istore_n (lv' := [(0, .ref (0 + 4)), (1, .int (-1))]) rfl rfl rfl rfl ?_
    refine lh_iconst rfl lh_k_m1 ?_
    refine lh_istore_n (lv' := [(0, .ref (0 + 4)), (1, .int (-1)), (2, .int (-1))]) rfl rfl rfl rfl ?_
    refine lh_iconst rfl lh_k_0 ?_
    refine lh_istore_n (lv' := [(0, .ref (0 + 4)), (1, .int (-1)), (2, .int (-1)), (3, .int 0)]) rfl rfl rfl rfl ?_
    refine lh_bdE hf (fun r12 e13 hf => ?_)
    refine t_LH_choose_13 hG hS ha hA hb hB _ (-1) (-1) 0 I _ e13 ?_
    refine lh_iload_n (q := 0) rfl rfl rfl ?_
    exact lh_iret rfl rfl rfl (by obtain rfl := Option.some.inj hf; exact hK)
  · have hf := lh_ifF hf c1
    refine lh_iconst rfl lh_k_m1 ?_
    exact lh_iret rfl rfl rfl (by obtain rfl := Option.some.inj hf; exact hK)
def f_LH_count (a : Nat) (b : Nat) (x1 : Int32) (I : lh_II) : Option (Int32) := if x1 = 0 then some (I (a + 4) 9) else if x1 = 1 then some (I (a + 4) 11) else if x1 = 2 then some (I (a + 4) 12) else if x1 = 3 then some (I (a + 4) 13) else if x1 = 4 then some (I (7 + 4) 0) else if x1 = 5 then some (I (7 + 4) 1) else if x1 = 6 then some (I (7 + 4) 2) else if x1 = 7 then some (I (7 + 4) 3) else if x1 = 8 then some (I (7 + 4) 4) else if x1 = 9 then some (I (7 + 4) 5) else if x1 = 10 then some (I (7 + 4) 6) else if x1 = 11 then some (I (a + 4) 10) else if x1 = 12 then some (I (b + 4) 2) else if x1 = 13 then some (I (0 + 4) 12) else if x1 = 14 then some (I (0 + 4) 11) else if x1 = 15 then some (I (1 + 4) 2) else some (-1)
theorem t_LH_count {Γ : lh_Cx} {I : lh_II} {L : lh_LL} {F : lh_FF} {S : lh_SS} {K : Int32 → lh_Hp → Prop} {r : Int32} (hG : lh_GX Γ) (hS : lh_lay F S) {a : Nat} (ha : lh_hl F S a) (hA : F (0 + 4) 6 = a + 4) {b : Nat} (hb : lh_nl F S b) (hB : F (0 + 4) 8 = b + 4) {x1 : Int32} (hf : f_LH_count a b x1 I = some r) (hK : K r (I, L, F, S)) : lh_Met Γ m_LH_count 0 0 0 [.ref (0 + 4), .int x1] (I, L, F, S) (lh_ki K) := by
  rw [f_LH_count] at hf
  refine lh_ofG k_LH_count [(0, .ref (0 + 4)), (1, .int x1)] rfl (Nat.le_of_ble_eq_true rfl) rfl ?_
  refine lh_iload_n (q := 1) rfl rfl rfl ?_
  by_cases c1 : x1 = 0
  · have hf := lh_ifT hf c1
    refine lh_tsIn (q := 0) (tgt := 2) rfl (by rw [c1]; decide) (by decide) rfl rfl ?_
    refine lh_aload_n (q := 0) rfl rfl rfl ?_
    refine lh_getR4 rfl rfl (hS.1 0 _ rfl) rfl hA ?_
    refine lh_getI4 rfl rfl (ha.1 0 _ rfl) rfl ?_
    exact lh_iret rfl rfl rfl (by obtain rfl := Option.some.inj hf; exact hK)
  · have hf := lh_ifF hf c1
    by_cases c2 : x1 = 1
    · have hf := lh_ifT hf c2
      refine lh_tsIn (q := 1) (tgt := 6) rfl (by rw [c2]; decide) (by decide) rfl rfl ?_
      refine lh_aload_n (q := 0) rfl rfl rfl ?_
      refine lh_getR4 rfl rfl (hS.1 0 _ rfl) rfl hA ?_
      refine lh_getI4 rfl rfl (ha.1 0 _ rfl) rfl ?_
      exact lh_iret rfl rfl rfl (by obtain rfl := Option.some.inj hf; exact hK)
    · have hf := lh_ifF hf c2
      by_cases c3 : x1 = 2
      · have hf := lh_ifT hf c3
        refine lh_tsIn (q := 2) (tgt := 10) rfl (by rw [c3]; decide) (by decide) rfl rfl ?_
        refine lh_aload_n (q := 0) rfl rfl rfl ?_
        refine lh_getR4 rfl rfl (hS.1 0 _ rfl) rfl hA ?_
        refine lh_getI4 rfl rfl (ha.1 0 _ rfl) rfl ?_
        exact lh_iret rfl rfl rfl (by obtain rfl := Option.some.inj hf; exact hK)
      · have hf := lh_ifF hf c3
        by_cases c4 : x1 = 3
        · have hf := lh_ifT hf c4
          refine lh_tsIn (q := 3) (tgt := 14) rfl (by rw [c4]; decide) (by decide) rfl rfl ?_
          refine lh_aload_n (q := 0) rfl rfl rfl ?_
          refine lh_getR4 rfl rfl (hS.1 0 _ rfl) rfl hA ?_
          refine lh_getI4 rfl rfl (ha.1 0 _ rfl) rfl ?_
          exact lh_iret rfl rfl rfl (by obtain rfl := Option.some.inj hf; exact hK)
        · have hf := lh_ifF hf c4
          by_cases c5 : x1 = 4
          · have hf := lh_ifT hf c5
            refine lh_tsIn (q := 4) (tgt := 18) rfl (by rw [c5]; decide) (by decide) rfl rfl ?_
            refine lh_aload_n (q := 0) rfl rfl rfl ?_
            refine lh_getR4 rfl rfl (hS.1 0 _ rfl) rfl (hS.2 10 _ rfl) ?_
            refine lh_getI4 rfl rfl (hS.1 7 _ rfl) rfl ?_
            exact lh_iret rfl rfl rfl (by obtain rfl := Option.some.inj hf; exact hK)
          · have hf := lh_ifF hf c5
            by_cases c6 : x1 = 5
            · have hf := lh_ifT hf c6
              refine lh_tsIn (q := 5) (tgt := 22) rfl (by rw [c6]; decide) (by decide) rfl rfl ?_
              refine lh_aload_n (q := 0) rfl rfl rfl ?_
              refine lh_getR4 rfl rfl (hS.1 0 _ rfl) rfl (hS.2 10 _ rfl) ?_
              refine lh_getI4 rfl rfl (hS.1 7 _ rfl) rfl ?_
              exact lh_iret rfl rfl rfl (by obtain rfl := Option.some.inj hf; exact hK)
            · have hf := lh_ifF hf c6
              by_cases c7 : x1 = 6
              · have hf := lh_ifT hf c7
                refine lh_tsIn (q := 6) (tgt := 26) rfl (by rw [c7]; decide) (by decide) rfl rfl ?_
                refine lh_aload_n (q := 0) rfl rfl rfl ?_
                refine lh_getR4 rfl rfl (hS.1 0 _ rfl) rfl (hS.2 10 _ rfl) ?_
                refine lh_getI4 rfl rfl (hS.1 7 _ rfl) rfl ?_
                exact lh_iret rfl rfl rfl (by obtain rfl := Option.some.inj hf; exact hK)
              · have hf := lh_ifF hf c7
                by_cases c8 : x1 = 7
                · have hf := lh_ifT hf c8
                  refine lh_tsIn (q := 7) (tgt := 30) rfl (by rw [c8]; decide) (by decide) rfl rfl ?_
                  refine lh_aload_n (q := 0) rfl rfl rfl ?_
                  refine lh_getR4 rfl rfl (hS.1 0 _ rfl) rfl (hS.2 10 _ rfl) ?_
                  refine lh_getI4 rfl rfl (hS.1 7 _ rfl) rfl ?_
                  exact lh_iret rfl rfl rfl (by obtain rfl := Option.some.inj hf; exact hK)
                · have hf := lh_ifF hf c8
                  by_cases c9 : x1 = 8
                  · have hf := lh_ifT hf c9
                    refine lh_tsIn (q := 8) (tgt := 34) rfl (by rw [c9]; decide) (by decide) rfl rfl ?_
                    refine lh_aload_n (q := 0) rfl rfl rfl ?_
                    refine lh_getR4 rfl rfl (hS.1 0 _ rfl) rfl (hS.2 10 _ rfl) ?_
                    refine lh_getI4 rfl rfl (hS.1 7 _ rfl) rfl ?_
                    exact lh_iret rfl rfl rfl (by obtain rfl := Option.some.inj hf; exact hK)
                  · have hf := lh_ifF hf c9
                    by_cases c10 : x1 = 9
                    · have hf := lh_ifT hf c10
                      refine lh_tsIn (q := 9) (tgt := 38) rfl (by rw [c10]; decide) (by decide) rfl rfl ?_
                      refine lh_aload_n (q := 0) rfl rfl rfl ?_
                      refine lh_getR4 rfl rfl (hS.1 0 _ rfl) rfl (hS.2 10 _ rfl) ?_
                      refine lh_getI4 rfl rfl (hS.1 7 _ rfl) rfl ?_
                      exact lh_iret rfl rfl rfl (by obtain rfl := Option.some.inj hf; exact hK)
                    · have hf := lh_ifF hf c10
                      by_cases c11 : x1 = 10
                      · have hf := lh_ifT hf c11
                        refine lh_tsIn (q := 10) (tgt := 42) rfl (by rw [c11]; decide) (by decide) rfl rfl ?_
                        refine lh_aload_n (q := 0) rfl rfl rfl ?_
                        refine lh_getR4 rfl rfl (hS.1 0 _ rfl) rfl (hS.2 10 _ rfl) ?_
                        refine lh_getI4 rfl rfl (hS.1 7 _ rfl) rfl ?_
                        exact lh_iret rfl rfl rfl (by obtain rfl := Option.some.inj hf; exact hK)
                      · have hf := lh_ifF hf c11
                        by_cases c12 : x1 = 11
                        · have hf := lh_ifT hf c12
                          refine lh_tsIn (q := 11) (tgt := 46) rfl (by rw [c12]; decide) (by decide) rfl rfl ?_
                          refine lh_aload_n (q := 0) rfl rfl rfl ?_
                          refine lh_getR4 rfl rfl (hS.1 0 _ rfl) rfl hA ?_
                          refine lh_getI4 rfl rfl (ha.1 0 _ rfl) rfl ?_
                          exact lh_iret rfl rfl rfl (by obtain rfl := Option.some.inj hf; exact hK)
                        · have hf := lh_ifF hf c12
                          by_cases c13 : x1 = 12
                          · have hf := lh_ifT hf c13
                            refine lh_tsIn (q := 12) (tgt := 50) rfl (by rw [c13]; decide) (by decide) rfl rfl ?_
                            refine lh_aload_n (q := 0) rfl rfl rfl ?_
                            refine lh_getR4 rfl rfl (hS.1 0 _ rfl) rfl hB ?_
                            refine lh_getI4 rfl rfl (hb.1 0 _ rfl) rfl ?_
                            exact lh_iret rfl rfl rfl (by obtain rfl := Option.some.inj hf; exact hK)
                          · have hf := lh_ifF hf c13
                            by_cases c14 : x1 = 13
                            · have hf := lh_ifT hf c14
                              refine lh_tsIn (q := 13) (tgt := 54) rfl (by rw [c14]; decide) (by decide) rfl rfl ?_
                              refine lh_aload_n (q := 0) rfl rfl rfl ?_
                              refine lh_getI4 rfl rfl (hS.1 0 _ rfl) rfl ?_
                              exact lh_iret rfl rfl rfl (by obtain rfl := Option.some.inj hf; exact hK)
                            · have hf := lh_ifF hf c14
                              by_cases c15 : x1 = 14
                              · have hf := lh_ifT hf c15
                                refine lh_tsIn (q := 14) (tgt := 57) rfl (by rw [c15]; decide) (by decide) rfl rfl ?_
                                refine lh_aload_n (q := 0) rfl rfl rfl ?_
                                refine lh_getI4 rfl rfl (hS.1 0 _ rfl) rfl ?_
                                exact lh_iret rfl rfl rfl (by obtain rfl := Option.some.inj hf; exact hK)
                              · have hf := lh_ifF hf c15
                                by_cases c16 : x1 = 15
                                · have hf := lh_ifT hf c16
                                  refine lh_tsIn (q := 15) (tgt := 60) rfl (by rw [c16]; decide) (by decide) rfl rfl ?_
                                  refine lh_aload_n (q := 0) rfl rfl rfl ?_
                                  refine lh_getR4 rfl rfl (hS.1 0 _ rfl) rfl (hS.2 8 _ rfl) ?_
                                  refine lh_getI4 rfl rfl (hS.1 1 _ rfl) rfl ?_
                                  exact lh_iret rfl rfl rfl (by obtain rfl := Option.some.inj hf; exact hK)
                                · have hf := lh_ifF hf c16
                                  refine lh_tsOut (tgt := 64) rfl (by have q0 := lv_neT c1 (a := 0) (by decide); have q1 := lv_neT c2 (a := 1) (by decide); have q2 := lv_neT c3 (a := 2) (by decide); have q3 := lv_neT c4 (a := 3) (by decide); have q4 := lv_neT c5 (a := 4) (by decide); have q5 := lv_neT c6 (a := 5) (by decide); have q6 := lv_neT c7 (a := 6) (by decide); have q7 := lv_neT c8 (a := 7) (by decide); have q8 := lv_neT c9 (a := 8) (by decide); have q9 := lv_neT c10 (a := 9) (by decide); have q10 := lv_neT c11 (a := 10) (by decide); have q11 := lv_neT c12 (a := 11) (by decide); have q12 := lv_neT c13 (a := 12) (by decide); have q13 := lv_neT c14 (a := 13) (by decide); have q14 := lv_neT c15 (a := 14) (by decide); have q15 := lv_neT c16 (a := 15) (by decide); omega) rfl ?_
                                  refine lh_iconst rfl lh_k_m1 ?_
                                  exact lh_iret rfl rfl rfl (by obtain rfl := Option.some.inj hf; exact hK)
def f_LH_cover_6 (a : Nat) (b : Nat) (I : lh_II) : Nat → Int32 → Int32 → Int32 → Option (Int32)
  | 0, _, _, _ => none
  | n + 1, v1, v2, v3 => lh_bd (f_Ha_allCells a I) fun r1 => if r1 < v3 then some v1 else lh_bd (f_Int_bitCount v3) fun r4 => if v2 ≤ r4 then f_LH_cover_6 a b I n v1 v2 (v3 + 1) else if (v3 &&& (I (a + 4) 10)) = 0 then lh_bd (f_Ha_litFromAll a v3 I) fun r8 => lh_bd (f_Ha_allCells a I) fun r10 => if r8 = r10 then lh_bd (f_Int_bitCount v3) fun r13 => f_LH_cover_6 a b I n v3 r13 (v3 + 1) else f_LH_cover_6 a b I n v1 v2 (v3 + 1) else f_LH_cover_6 a b I n v1 v2 (v3 + 1)
def f_LH_cover (a : Nat) (b : Nat) (I : lh_II) : Option (Int32) := lh_bd (f_LH_cover_6 a b I lh_fuel (-1) 13 1) fun r15 => some r15
theorem t_LH_cover_6 {Γ : lh_Cx} {F : lh_FF} {S : lh_SS} {Z : List Frame → Array Value → State → State → Prop} (hG : lh_GX Γ) (hS : lh_lay F S) {a : Nat} (ha : lh_hl F S a) (hA : F (0 + 4) 6 = a + 4) {b : Nat} (hb : lh_nl F S b) (hB : F (0 + 4) 8 = b + 4)  {I : lh_II} {L : lh_LL} : ∀ (n : Nat) (v1 : Int32) (v2 : Int32) (v3 : Int32) (o : Int32), f_LH_cover_6 a b I n v1 v2 v3 = some o → ∀ (x0_ : lh_G Γ m_LH_cover (lh_R 1 0 0) Z 0 0 36 [(1, .int o)] [] (I, L, F, S)), lh_G Γ m_LH_cover (lh_R 1 0 0) Z 0 0 6 [(0, .ref (0 + 4)), (1, .int v1), (2, .int v2), (3, .int v3)] [] (I, L, F, S) := by
  intro n
  induction n with
  | zero => intro v1 v2 v3 o hf; cases hf
  | succ n ih =>
    intro v1 v2 v3 o hf x0_
    rw [f_LH_cover_6] at hf
    refine lh_iload_n (q := 3) rfl rfl rfl ?_
    refine lh_aload_n (q := 0) rfl rfl rfl ?_
    refine lh_getR4 rfl rfl (hS.1 0 _ rfl) rfl hA ?_
    refine lh_bdE hf (fun r1 e2 hf => ?_)
    refine lh_cVi (N := m_Ha_allCells) (d := 0) (o := a) (As := []) (st := [.int v3]) rfl rfl v_Ha_allCells (ha.1 0 _ rfl) rfl rfl rfl ⟨rfl, rfl⟩ rfl (t_Ha_allCells hG hS ha e2 ?_)
    refine lh_icmp_gt rfl (fun c3 => ?_) (fun c3 => ?_)
    · have hf := lh_ifT hf c3
      exact lh_less [1] rfl (by cases hf; exact x0_)
    · have hf := lh_ifF hf c3
      refine lh_iload_n (q := 3) rfl rfl rfl ?_
      refine lh_bdE hf (fun r4 e5 hf => ?_)
      refine lh_cSi (N := m_Int_bitCount) (d := 0) (As := [.int v3]) (st := []) rfl rfl v_Int_bitCount rfl rfl ⟨rfl, rfl⟩ rfl (t_Int_bitCount hG hS e5 ?_)
      refine lh_iload_n (q := 2) rfl rfl rfl ?_
      refine lh_icmp_ge rfl (fun c6 => ?_) (fun c6 => ?_)
      · have hf := lh_ifT hf c6
        refine lh_iinc (q := 3) (v := (v3 + 1)) (lv' := [(0, .ref (0 + 4)), (1, .int v1), (2, .int v2), (3, .int (v3 + 1))]) rfl rfl (congrArg (v3 + ·) (by decide)) rfl rfl ?_
        refine lh_goto rfl ?_
        exact ih v1 v2 (v3 + 1) _ hf x0_
      · have hf := lh_ifF hf c6
        refine lh_iload_n (q := 3) rfl rfl rfl ?_
        refine lh_aload_n (q := 0) rfl rfl rfl ?_
        refine lh_getR4 rfl rfl (hS.1 0 _ rfl) rfl hA ?_
        refine lh_getI4 rfl rfl (ha.1 0 _ rfl) rfl ?_
        refine lh_iand rfl ?_
        refine lh_if_ne rfl (fun c7 => ?_) (fun c7 => ?_)
        · have hf := lh_ifF hf c7
          refine lh_iinc (q := 3) (v := (v3 + 1)) (lv' := [(0, .ref (0 + 4)), (1, .int v1), (2, .int v2), (3, .int (v3 + 1))]) rfl rfl (congrArg (v3 + ·) (by decide)) rfl rfl ?_
          refine lh_goto rfl ?_
          exact ih v1 v2 (v3 + 1) _ hf x0_
        · have hf := lh_ifT hf c7
          refine lh_aload_n (q := 0) rfl rfl rfl ?_
          refine lh_getR4 rfl rfl (hS.1 0 _ rfl) rfl hA ?_
          refine lh_iload_n (q := 3) rfl rfl rfl ?_
          refine lh_bdE hf (fun r8 e9 hf => ?_)
          refine lh_cVi (N := m_Ha_litFromAll) (d := 0) (o := a) (As := [.int v3]) (st := []) rfl rfl v_Ha_litFromAll (ha.1 0 _ rfl) rfl rfl rfl ⟨rfl, rfl⟩ rfl (t_Ha_litFromAll hG hS ha e9 ?_)
          refine lh_aload_n (q := 0) rfl rfl rfl ?_
          refine lh_getR4 rfl rfl (hS.1 0 _ rfl) rfl hA ?_
          refine lh_bdE hf (fun r10 e11 hf => ?_)
          refine lh_cVi (N := m_Ha_allCells) (d := 0) (o := a) (As := []) (st := [.int r8]) rfl rfl v_Ha_allCells (ha.1 0 _ rfl) rfl rfl rfl ⟨rfl, rfl⟩ rfl (t_Ha_allCells hG hS ha e11 ?_)
          refine lh_icmp_ne rfl (fun c12 => ?_) (fun c12 => ?_)
          · have hf := lh_ifF hf c12
            refine lh_iinc (q := 3) (v := (v3 + 1)) (lv' := [(0, .ref (0 + 4)), (1, .int v1), (2, .int v2), (3, .int (v3 + 1))]) rfl rfl (congrArg (v3 + ·) (by decide)) rfl rfl ?_
            refine lh_goto rfl ?_
            exact ih v1 v2 (v3 + 1) _ hf x0_
          · have hf := lh_ifT hf c12
            refine lh_iload_n (q := 3) rfl rfl rfl ?_
            refine lh_istore_n (lv' := [(0, .ref (0 + 4)), (1, .int v3), (2, .int v2), (3, .int v3)]) rfl rfl rfl rfl ?_
            refine lh_iload_n (q := 3) rfl rfl rfl ?_
            refine lh_bdE hf (fun r13 e14 hf => ?_)
            refine lh_cSi (N := m_Int_bitCount) (d := 0) (As := [.int v3]) (st := []) rfl rfl v_Int_bitCount rfl rfl ⟨rfl, rfl⟩ rfl (t_Int_bitCount hG hS e14 ?_)
            refine lh_istore_n (lv' := [(0, .ref (0 + 4)), (1, .int v3), (2, .int r13), (3, .int v3)]) rfl rfl rfl rfl ?_
            refine lh_iinc (q := 3) (v := (v3 + 1)) (lv' := [(0, .ref (0 + 4)), (1, .int v3), (2, .int r13), (3, .int (v3 + 1))]) rfl rfl (congrArg (v3 + ·) (by decide)) rfl rfl ?_
            refine lh_goto rfl ?_
            exact ih v3 r13 (v3 + 1) _ hf x0_
theorem t_LH_cover {Γ : lh_Cx} {I : lh_II} {L : lh_LL} {F : lh_FF} {S : lh_SS} {K : Int32 → lh_Hp → Prop} {r : Int32} (hG : lh_GX Γ) (hS : lh_lay F S) {a : Nat} (ha : lh_hl F S a) (hA : F (0 + 4) 6 = a + 4) {b : Nat} (hb : lh_nl F S b) (hB : F (0 + 4) 8 = b + 4) (hf : f_LH_cover a b I = some r) (hK : K r (I, L, F, S)) : lh_Met Γ m_LH_cover 1 0 0 [.ref (0 + 4)] (I, L, F, S) (lh_ki K) := by
  rw [f_LH_cover] at hf
  refine lh_ofG k_LH_cover [(0, .ref (0 + 4))] rfl (Nat.le_of_ble_eq_true rfl) rfl ?_
  refine lh_iconst rfl lh_k_m1 ?_
  refine lh_istore_n (lv' := [(0, .ref (0 + 4)), (1, .int (-1))]) rfl rfl rfl rfl ?_
  refine lh_bipush rfl lh_b_13 ?_
  refine lh_istore_n (lv' := [(0, .ref (0 + 4)), (1, .int (-1)), (2, .int 13)]) rfl rfl rfl rfl ?_
  refine lh_iconst rfl lh_k_1 ?_
  refine lh_istore_n (lv' := [(0, .ref (0 + 4)), (1, .int (-1)), (2, .int 13), (3, .int 1)]) rfl rfl rfl rfl ?_
  refine lh_bdE hf (fun r15 e16 hf => ?_)
  refine t_LH_cover_6 hG hS ha hA hb hB _ (-1) 13 1 _ e16 ?_
  refine lh_iload_n (q := 0) rfl rfl rfl ?_
  exact lh_iret rfl rfl rfl (by obtain rfl := Option.some.inj hf; exact hK)
def f_LH_crowd_20 (a : Nat) (b : Nat) (v1 : Int32) (v3 : Int32) (v4 : Int32) (I : lh_II) : Nat → Int32 → Int32 → Option (Int32)
  | 0, _, _ => none
  | n + 1, v2, v5 => if (I (a + 4) 9) ≤ v5 then some v2 else lh_bd (f_Ha_whoIsIn a v5 v3 I) fun r8 => lh_bd (f_Int_bitCount (v4 &&& r8)) fun r10 => f_LH_crowd_20 a b v1 v3 v4 I n (if v2 < r10 then r10 else v2) (v5 + 1)
def f_LH_crowd_9 (a : Nat) (b : Nat) (v1 : Int32) (I : lh_II) : Nat → Int32 → Int32 → Option (Int32)
  | 0, _, _ => none
  | n + 1, v2, v3 => if 8 ≤ v3 then some v2 else lh_bd (f_Ha_whoIsThere a v1 v3 I) fun r5 => lh_bd (f_LH_crowd_20 a b v1 v3 r5 I lh_fuel v2 0) fun r12 => f_LH_crowd_9 a b v1 I n r12 (v3 + 1)
def f_LH_crowd (a : Nat) (b : Nat) (x1 : Int32) (I : lh_II) : Option (Int32) := lh_bd (f_LH_isDay x1) fun r1 => if r1 = 0 then some (-1) else lh_bd (f_LH_crowd_9 a b x1 I lh_fuel 0 0) fun r14 => some r14
theorem t_LH_crowd_20 {Γ : lh_Cx} {F : lh_FF} {S : lh_SS} {Z : List Frame → Array Value → State → State → Prop} (hG : lh_GX Γ) (hS : lh_lay F S) {a : Nat} (ha : lh_hl F S a) (hA : F (0 + 4) 6 = a + 4) {b : Nat} (hb : lh_nl F S b) (hB : F (0 + 4) 8 = b + 4) {v1 : Int32} {v3 : Int32} {v4 : Int32} {I : lh_II} {L : lh_LL} : ∀ (n : Nat) (v2 : Int32) (v5 : Int32) (o : Int32), f_LH_crowd_20 a b v1 v3 v4 I n v2 v5 = some o → ∀ (x0_ : lh_G Γ m_LH_crowd (lh_R 3 0 0) Z 0 0 38 [(0, .ref (0 + 4)), (1, .int v1), (2, .int o), (3, .int v3)] [] (I, L, F, S)), lh_G Γ m_LH_crowd (lh_R 3 0 0) Z 0 0 20 [(0, .ref (0 + 4)), (1, .int v1), (2, .int v2), (3, .int v3), (4, .int v4), (5, .int v5)] [] (I, L, F, S) := by
  intro n
  induction n with
  | zero => intro v2 v5 o hf; cases hf
  | succ n ih =>
    intro v2 v5 o hf x0_
    rw [f_LH_crowd_20] at hf
    refine lh_iload (q := 5) rfl rfl ?_
    refine lh_aload_n (q := 0) rfl rfl rfl ?_
    refine lh_getR4 rfl rfl (hS.1 0 _ rfl) rfl hA ?_
    refine lh_getI4 rfl rfl (ha.1 0 _ rfl) rfl ?_
    refine lh_icmp_ge rfl (fun c7 => ?_) (fun c7 => ?_)
    · have hf := lh_ifT hf c7
      exact lh_less [0, 1, 2, 3] rfl (by cases hf; exact x0_)
    · have hf := lh_ifF hf c7
      refine lh_iload_n (q := 2) rfl rfl rfl ?_
      refine lh_iload (q := 4) rfl rfl ?_
      refine lh_aload_n (q := 0) rfl rfl rfl ?_
      refine lh_getR4 rfl rfl (hS.1 0 _ rfl) rfl hA ?_
      refine lh_iload (q := 5) rfl rfl ?_
      refine lh_iload_n (q := 3) rfl rfl rfl ?_
      refine lh_bdE hf (fun r8 e9 hf => ?_)
      refine lh_cVi (N := m_Ha_whoIsIn) (d := 2) (o := a) (As := [.int v5, .int v3]) (st := [.int v4, .int v2]) rfl rfl v_Ha_whoIsIn (ha.1 0 _ rfl) rfl rfl rfl ⟨rfl, rfl⟩ rfl (t_Ha_whoIsIn hG hS ha e9 ?_)
      refine lh_iand rfl ?_
      refine lh_bdE hf (fun r10 e11 hf => ?_)
      refine lh_cSi (N := m_Int_bitCount) (d := 0) (As := [.int (v4 &&& r8)]) (st := [.int v2]) rfl rfl v_Int_bitCount rfl rfl ⟨rfl, rfl⟩ rfl (t_Int_bitCount hG hS e11 ?_)
      refine lh_max rfl rfl ⟨rfl, rfl⟩ rfl ?_
      refine lh_istore_n (lv' := [(0, .ref (0 + 4)), (1, .int v1), (2, .int (if v2 < r10 then r10 else v2)), (3, .int v3), (4, .int v4), (5, .int v5)]) rfl rfl rfl rfl ?_
      refine lh_iinc (q := 5) (v := (v5 + 1)) (lv' := [(0, .ref (0 + 4)), (1, .int v1), (2, .int (if v2 < r10 then r10 else v2)), (3, .int v3), (4, .int v4), (5, .int (v5 + 1))]) rfl rfl (congrArg (v5 + ·) (by decide)) rfl rfl ?_
      refine lh_goto rfl ?_
      exact ih (if v2 < r10 then r10 else v2) (v5 + 1) _ hf x0_
theorem t_LH_crowd_9 {Γ : lh_Cx} {F : lh_FF} {S : lh_SS} {Z : List Frame → Array Value → State → State → Prop} (hG : lh_GX Γ) (hS : lh_lay F S) {a : Nat} (ha : lh_hl F S a) (hA : F (0 + 4) 6 = a + 4) {b : Nat} (hb : lh_nl F S b) (hB : F (0 + 4) 8 = b + 4) {v1 : Int32} {I : lh_II} {L : lh_LL} : ∀ (n : Nat) (v2 : Int32) (v3 : Int32) (o : Int32), f_LH_crowd_9 a b v1 I n v2 v3 = some o → ∀ (x0_ : lh_G Γ m_LH_crowd (lh_R 3 0 0) Z 0 0 40 [(2, .int o)] [] (I, L, F, S)), lh_G Γ m_LH_crowd (lh_R 3 0 0) Z 0 0 9 [(0, .ref (0 + 4)), (1, .int v1), (2, .int v2), (3, .int v3)] [] (I, L, F, S) := by
  intro n
  induction n with
  | zero => intro v2 v3 o hf; cases hf
  | succ n ih =>
    intro v2 v3 o hf x0_
    rw [f_LH_crowd_9] at hf
    refine lh_iload_n (q := 3) rfl rfl rfl ?_
    refine lh_bipush rfl lh_b_8 ?_
    refine lh_icmp_ge rfl (fun c4 => ?_) (fun c4 => ?_)
    · have hf := lh_ifT hf c4
      exact lh_less [2] rfl (by cases hf; exact x0_)
    · have hf := lh_ifF hf c4
      refine lh_aload_n (q := 0) rfl rfl rfl ?_
      refine lh_getR4 rfl rfl (hS.1 0 _ rfl) rfl hA ?_
      refine lh_iload_n (q := 1) rfl rfl rfl ?_
      refine lh_iload_n (q := 3) rfl rfl rfl ?_
      refine lh_bdE hf (fun r5 e6 hf => ?_)
      refine lh_cVi (N := m_Ha_whoIsThere) (d := 2) (o := a) (As := [.int v1, .int v3]) (st := []) rfl rfl v_Ha_whoIsThere (ha.1 0 _ rfl) rfl rfl rfl ⟨rfl, rfl⟩ rfl (t_Ha_whoIsThere hG hS ha e6 ?_)
      refine lh_istore (lv' := [(0, .ref (0 + 4)), (1, .int v1), (2, .int v2), (3, .int v3), (4, .int r5)]) rfl rfl rfl ?_
      refine lh_iconst rfl lh_k_0 ?_
      refine lh_istore (lv' := [(0, .ref (0 + 4)), (1, .int v1), (2, .int v2), (3, .int v3), (4, .int r5), (5, .int 0)]) rfl rfl rfl ?_
      refine lh_bdE hf (fun r12 e13 hf => ?_)
      refine t_LH_crowd_20 hG hS ha hA hb hB _ v2 0 _ e13 ?_
      refine lh_iinc (q := 3) (v := (v3 + 1)) (lv' := [(0, .ref (0 + 4)), (1, .int v1), (2, .int r12), (3, .int (v3 + 1))]) rfl rfl (congrArg (v3 + ·) (by decide)) rfl rfl ?_
      refine lh_goto rfl ?_
      exact ih r12 (v3 + 1) _ hf x0_
theorem t_LH_crowd {Γ : lh_Cx} {I : lh_II} {L : lh_LL} {F : lh_FF} {S : lh_SS} {K : Int32 → lh_Hp → Prop} {r : Int32} (hG : lh_GX Γ) (hS : lh_lay F S) {a : Nat} (ha : lh_hl F S a) (hA : F (0 + 4) 6 = a + 4) {b : Nat} (hb : lh_nl F S b) (hB : F (0 + 4) 8 = b + 4) {x1 : Int32} (hf : f_LH_crowd a b x1 I = some r) (hK : K r (I, L, F, S)) : lh_Met Γ m_LH_crowd 3 0 0 [.ref (0 + 4), .int x1] (I, L, F, S) (lh_ki K) := by
  rw [f_LH_crowd] at hf
  refine lh_ofG k_LH_crowd [(0, .ref (0 + 4)), (1, .int x1)] rfl (Nat.le_of_ble_eq_true rfl) rfl ?_
  refine lh_iload_n (q := 1) rfl rfl rfl ?_
  refine lh_bdE hf (fun r1 e2 hf => ?_)
  refine lh_cSi (N := m_LH_isDay) (d := 0) (As := [.int x1]) (st := []) rfl rfl v_LH_isDay rfl rfl ⟨rfl, rfl⟩ rfl (t_LH_isDay hG hS e2 ?_)
  refine lh_if_ne rfl (fun c3 => ?_) (fun c3 => ?_)
  · have hf := lh_ifF hf c3
    refine lh_iconst rfl lh_k_0 ?_
    refine lh_istore_n (lv' := [(0, .ref (0 + 4)), (1, .int x1), (2, .int 0)]) rfl rfl rfl rfl ?_
    refine lh_iconst rfl lh_k_0 ?_
    refine lh_istore_n (lv' := [(0, .ref (0 + 4)), (1, .int x1), (2, .int 0), (3, .int 0)]) rfl rfl rfl rfl ?_
    refine lh_bdE hf (fun r14 e15 hf => ?_)
    refine t_LH_crowd_9 hG hS ha hA hb hB _ 0 0 _ e15 ?_
    refine lh_iload_n (q := 0) rfl rfl rfl ?_
    exact lh_iret rfl rfl rfl (by obtain rfl := Option.some.inj hf; exact hK)
  · have hf := lh_ifT hf c3
    refine lh_iconst rfl lh_k_m1 ?_
    exact lh_iret rfl rfl rfl (by obtain rfl := Option.some.inj hf; exact hK)
def f_LH_days (a : Nat) (b : Nat) (I : lh_II) : Option (Int32) := some (I (0 + 4) 13)
theorem t_LH_days {Γ : lh_Cx} {I : lh_II} {L : lh_LL} {F : lh_FF} {S : lh_SS} {K : Int32 → lh_Hp → Prop} {r : Int32} (hG : lh_GX Γ) (hS : lh_lay F S) {a : Nat} (ha : lh_hl F S a) (hA : F (0 + 4) 6 = a + 4) {b : Nat} (hb : lh_nl F S b) (hB : F (0 + 4) 8 = b + 4) (hf : f_LH_days a b I = some r) (hK : K r (I, L, F, S)) : lh_Met Γ m_LH_days 0 0 0 [.ref (0 + 4)] (I, L, F, S) (lh_ki K) := by
  rw [f_LH_days] at hf
  refine lh_ofG k_LH_days [(0, .ref (0 + 4))] rfl (Nat.le_of_ble_eq_true rfl) rfl ?_
  refine lh_aload_n (q := 0) rfl rfl rfl ?_
  refine lh_getI4 rfl rfl (hS.1 0 _ rfl) rfl ?_
  exact lh_iret rfl rfl rfl (by obtain rfl := Option.some.inj hf; exact hK)
def f_LH_drawBelow (x1 : Int64) (x2 : Int32) : Option (Int32) := if x2 ≤ 0 then some 0 else lh_gd (!decide (x2.toInt64 = 0)) (some (((x1 / 65536) - (x1 / 65536) / x2.toInt64 * x2.toInt64).toInt32))
theorem t_LH_drawBelow {Γ : lh_Cx} {I : lh_II} {L : lh_LL} {F : lh_FF} {S : lh_SS} {K : Int32 → lh_Hp → Prop} {r : Int32} (hG : lh_GX Γ) (hS : lh_lay F S)  {x1 : Int64} {x2 : Int32} (hf : f_LH_drawBelow x1 x2 = some r) (hK : K r (I, L, F, S)) : lh_Met Γ m_LH_drawBelow 0 0 0 [.long x1, .int x2] (I, L, F, S) (lh_ki K) := by
  rw [f_LH_drawBelow] at hf
  refine lh_ofG k_LH_drawBelow [(0, .long x1), (2, .int x2)] rfl (Nat.le_of_ble_eq_true rfl) rfl ?_
  refine lh_iload_n (q := 1) rfl rfl rfl ?_
  refine lh_if_le rfl (fun c1 => ?_) (fun c1 => ?_)
  · have hf := lh_ifT hf c1
    refine lh_iconst rfl lh_k_0 ?_
    exact lh_iret rfl rfl rfl (by obtain rfl := Option.some.inj hf; exact hK)
  · have hf := lh_ifF hf c1
    refine lh_lload_n (q := 0) rfl rfl rfl ?_
    refine lh_ldc2 rfl rfl ?_
    refine lh_ldiv rfl (by decide) ?_
    refine lh_iload_n (q := 1) rfl rfl rfl ?_
    refine lh_i2l rfl ?_
    obtain ⟨g2, hf⟩ := lh_gdE hf
    refine lh_lrem rfl (by simpa using g2) ?_
    refine lh_l2i rfl ?_
    refine lh_goto rfl ?_
    exact lh_iret rfl rfl rfl (by obtain rfl := Option.some.inj hf; exact hK)
def f_LH_nextDrawn (x1 : Int64) : Option (Int64) := some (((x1 * 1103515245) + 12345) - ((x1 * 1103515245) + 12345) / 2147483648 * 2147483648)
theorem t_LH_nextDrawn {Γ : lh_Cx} {I : lh_II} {L : lh_LL} {F : lh_FF} {S : lh_SS} {K : Int64 → lh_Hp → Prop} {r : Int64} (hG : lh_GX Γ) (hS : lh_lay F S)  {x1 : Int64} (hf : f_LH_nextDrawn x1 = some r) (hK : K r (I, L, F, S)) : lh_Met Γ m_LH_nextDrawn 0 0 0 [.long x1] (I, L, F, S) (lh_kl K) := by
  rw [f_LH_nextDrawn] at hf
  refine lh_ofG k_LH_nextDrawn [(0, .long x1)] rfl (Nat.le_of_ble_eq_true rfl) rfl ?_
  refine lh_lload_n (q := 0) rfl rfl rfl ?_
  refine lh_ldc2 rfl rfl ?_
  refine lh_lmul rfl ?_
  refine lh_ldc2 rfl rfl ?_
  refine lh_ladd rfl ?_
  refine lh_ldc2 rfl rfl ?_
  refine lh_lrem rfl (by decide) ?_
  exact lh_lret rfl rfl (by obtain rfl := Option.some.inj hf; exact hK)
def f_LH_drawNight_5 (a : Nat) (b : Nat) (v2 : Int32) : Nat → Int64 → Int32 → lh_II → Option (lh_II)
  | 0, _, _, _ => none
  | n + 1, v3, v5, I => if v2 ≤ v5 then some I else lh_bd (f_LH_nextDrawn v3) fun r2 => lh_bd (f_LH_drawBelow r2 (8 : Int32)) fun r4 => if r4 = 7 then lh_bd (f_LH_nextDrawn r2) fun r15 => if (I (8 + 4) 3) < 2 then if 3 ≤ r4 then if 6 ≤ r4 then lh_bd (f_Ha_walk a 8 (0 : Int32) I) fun r20 => f_LH_drawNight_5 a b v2 n r15 (v5 + 1) r20.2 else lh_bd (f_Ha_walk a 8 ((-1) : Int32) I) fun r22 => f_LH_drawNight_5 a b v2 n r15 (v5 + 1) r22.2 else lh_bd (f_Ha_walk a 8 (1 : Int32) I) fun r24 => f_LH_drawNight_5 a b v2 n r15 (v5 + 1) r24.2 else lh_bd (f_LH_drawBelow r15 (4 : Int32)) fun r26 => lh_bd (f_Mo_trimTo 8 r26 I) fun r28 => if 3 ≤ r4 then if 6 ≤ r4 then lh_bd (f_Ha_walk a 8 (0 : Int32) r28) fun r32 => f_LH_drawNight_5 a b v2 n r15 (v5 + 1) r32.2 else lh_bd (f_Ha_walk a 8 ((-1) : Int32) r28) fun r34 => f_LH_drawNight_5 a b v2 n r15 (v5 + 1) r34.2 else lh_bd (f_Ha_walk a 8 (1 : Int32) r28) fun r36 => f_LH_drawNight_5 a b v2 n r15 (v5 + 1) r36.2 else if 3 ≤ r4 then if 6 ≤ r4 then lh_bd (f_Ha_walk a 8 (0 : Int32) I) fun r9 => f_LH_drawNight_5 a b v2 n r2 (v5 + 1) r9.2 else lh_bd (f_Ha_walk a 8 ((-1) : Int32) I) fun r11 => f_LH_drawNight_5 a b v2 n r2 (v5 + 1) r11.2 else lh_bd (f_Ha_walk a 8 (1 : Int32) I) fun r13 => f_LH_drawNight_5 a b v2 n r2 (v5 + 1) r13.2
def f_LH_drawNight (a : Nat) (b : Nat) (x1 : Int32) (x2 : Int32) (I : lh_II) : Option (lh_II) := lh_bd (f_LH_drawNight_5 a b x2 lh_fuel x1.toInt64 0 I) fun r38 => some r38
theorem t_LH_drawNight_5 {Γ : lh_Cx} {F : lh_FF} {S : lh_SS} {Z : List Frame → Array Value → State → State → Prop} (hG : lh_GX Γ) (hS : lh_lay F S) {a : Nat} (ha : lh_hl F S a) (hA : F (0 + 4) 6 = a + 4) {b : Nat} (hb : lh_nl F S b) (hB : F (0 + 4) 8 = b + 4) {v2 : Int32} {L : lh_LL} : ∀ (n : Nat) (v3 : Int64) (v5 : Int32) (I : lh_II) (o : lh_II), f_LH_drawNight_5 a b v2 n v3 v5 I = some o → ∀ (x0_ : lh_G Γ m_LH_drawNight (lh_R 6 0 0) Z 0 0 51 [] [] (o, L, F, S)), lh_G Γ m_LH_drawNight (lh_R 6 0 0) Z 0 0 5 [(0, .ref (0 + 4)), (2, .int v2), (3, .long v3), (5, .int v5)] [] (I, L, F, S) := by
  intro n
  induction n with
  | zero => intro v3 v5 I o hf; cases hf
  | succ n ih =>
    intro v3 v5 I o hf x0_
    rw [f_LH_drawNight_5] at hf
    refine lh_iload (q := 3) rfl rfl ?_
    refine lh_iload_n (q := 1) rfl rfl rfl ?_
    refine lh_icmp_ge rfl (fun c1 => ?_) (fun c1 => ?_)
    · have hf := lh_ifT hf c1
      exact lh_less [] rfl (by cases hf; exact x0_)
    · have hf := lh_ifF hf c1
      refine lh_lload_n (q := 2) rfl rfl rfl ?_
      refine lh_bdE hf (fun r2 e3 hf => ?_)
      refine lh_cSl (N := m_LH_nextDrawn) (d := 0) (As := [.long v3]) (st := []) rfl rfl v_LH_nextDrawn rfl rfl ⟨rfl, rfl⟩ rfl (t_LH_nextDrawn hG hS e3 ?_)
      refine lh_lstore_n (lv' := [(0, .ref (0 + 4)), (2, .int v2), (3, .long r2), (5, .int v5)]) rfl rfl rfl rfl ?_
      refine lh_lload_n (q := 2) rfl rfl rfl ?_
      refine lh_bipush rfl lh_b_8 ?_
      refine lh_bdE hf (fun r4 e5 hf => ?_)
      refine lh_cSi (N := m_LH_drawBelow) (d := 0) (As := [.long r2, .int 8]) (st := []) rfl rfl v_LH_drawBelow rfl rfl ⟨rfl, rfl⟩ rfl (t_LH_drawBelow hG hS e5 ?_)
      refine lh_istore (lv' := [(0, .ref (0 + 4)), (2, .int v2), (3, .long r2), (5, .int v5), (6, .int r4)]) rfl rfl rfl ?_
      refine lh_iload (q := 4) rfl rfl ?_
      refine lh_bipush rfl lh_b_7 ?_
      refine lh_icmp_ne rfl (fun c6 => ?_) (fun c6 => ?_)
      · have hf := lh_ifF hf c6
        refine lh_aload_n (q := 0) rfl rfl rfl ?_
        refine lh_getR4 rfl rfl (hS.1 0 _ rfl) rfl hA ?_
        refine lh_aload_n (q := 0) rfl rfl rfl ?_
        refine lh_getR4 rfl rfl (hS.1 0 _ rfl) rfl (hS.2 11 _ rfl) ?_
        refine lh_iload (q := 4) rfl rfl ?_
        refine lh_iconst rfl lh_k_3 ?_
        refine lh_icmp_ge rfl (fun c7 => ?_) (fun c7 => ?_)
        · have hf := lh_ifT hf c7
          refine lh_iload (q := 4) rfl rfl ?_
          refine lh_bipush rfl lh_b_6 ?_
          refine lh_icmp_ge rfl (fun c8 => ?_) (fun c8 => ?_)
          · have hf := lh_ifT hf c8
            refine lh_iconst rfl lh_k_0 ?_
            refine lh_bdE hf (fun r9 e10 hf => ?_)
            refine lh_cVi (N := m_Ha_walk) (d := 5) (o := a) (As := [.ref (8 + 4), .int 0]) (st := []) rfl rfl v_Ha_walk (ha.1 0 _ rfl) rfl rfl rfl ⟨rfl, rfl⟩ rfl (t_Ha_walk hG hS ha (hS.1 8 _ rfl) e10 ?_)
            refine lh_pop rfl rfl ?_
            refine lh_iinc (q := 3) (v := (v5 + 1)) (lv' := [(0, .ref (0 + 4)), (2, .int v2), (3, .long r2), (5, .int (v5 + 1)), (6, .int r4)]) rfl rfl (congrArg (v5 + ·) (by decide)) rfl rfl ?_
            refine lh_goto rfl ?_
            refine lh_less [0, 1, 2, 3] rfl ?_
            exact ih r2 (v5 + 1) r9.2 _ hf x0_
          · have hf := lh_ifF hf c8
            refine lh_iconst rfl lh_k_m1 ?_
            refine lh_goto rfl ?_
            refine lh_bdE hf (fun r11 e12 hf => ?_)
            refine lh_cVi (N := m_Ha_walk) (d := 5) (o := a) (As := [.ref (8 + 4), .int (-1)]) (st := []) rfl rfl v_Ha_walk (ha.1 0 _ rfl) rfl rfl rfl ⟨rfl, rfl⟩ rfl (t_Ha_walk hG hS ha (hS.1 8 _ rfl) e12 ?_)
            refine lh_pop rfl rfl ?_
            refine lh_iinc (q := 3) (v := (v5 + 1)) (lv' := [(0, .ref (0 + 4)), (2, .int v2), (3, .long r2), (5, .int (v5 + 1)), (6, .int r4)]) rfl rfl (congrArg (v5 + ·) (by decide)) rfl rfl ?_
            refine lh_goto rfl ?_
            refine lh_less [0, 1, 2, 3] rfl ?_
            exact ih r2 (v5 + 1) r11.2 _ hf x0_
        · have hf := lh_ifF hf c7
          refine lh_iconst rfl lh_k_1 ?_
          refine lh_goto rfl ?_
          refine lh_bdE hf (fun r13 e14 hf => ?_)
          refine lh_cVi (N := m_Ha_walk) (d := 5) (o := a) (As := [.ref (8 + 4), .int 1]) (st := []) rfl rfl v_Ha_walk (ha.1 0 _ rfl) rfl rfl rfl ⟨rfl, rfl⟩ rfl (t_Ha_walk hG hS ha (hS.1 8 _ rfl) e14 ?_)
          refine lh_pop rfl rfl ?_
          refine lh_iinc (q := 3) (v := (v5 + 1)) (lv' := [(0, .ref (0 + 4)), (2, .int v2), (3, .long r2), (5, .int (v5 + 1)), (6, .int r4)]) rfl rfl (congrArg (v5 + ·) (by decide)) rfl rfl ?_
          refine lh_goto rfl ?_
          refine lh_less [0, 1, 2, 3] rfl ?_
          exact ih r2 (v5 + 1) r13.2 _ hf x0_
      · have hf := lh_ifT hf c6
        refine lh_lload_n (q := 2) rfl rfl rfl ?_
        refine lh_bdE hf (fun r15 e16 hf => ?_)
        refine lh_cSl (N := m_LH_nextDrawn) (d := 0) (As := [.long r2]) (st := []) rfl rfl v_LH_nextDrawn rfl rfl ⟨rfl, rfl⟩ rfl (t_LH_nextDrawn hG hS e16 ?_)
        refine lh_lstore_n (lv' := [(0, .ref (0 + 4)), (2, .int v2), (3, .long r15), (5, .int v5), (6, .int r4)]) rfl rfl rfl rfl ?_
        refine lh_aload_n (q := 0) rfl rfl rfl ?_
        refine lh_getR4 rfl rfl (hS.1 0 _ rfl) rfl (hS.2 11 _ rfl) ?_
        refine lh_getI4 rfl rfl (hS.1 8 _ rfl) rfl ?_
        refine lh_iconst rfl lh_k_2 ?_
        refine lh_icmp_lt rfl (fun c17 => ?_) (fun c17 => ?_)
        · have hf := lh_ifT hf c17
          refine lh_aload_n (q := 0) rfl rfl rfl ?_
          refine lh_getR4 rfl rfl (hS.1 0 _ rfl) rfl hA ?_
          refine lh_aload_n (q := 0) rfl rfl rfl ?_
          refine lh_getR4 rfl rfl (hS.1 0 _ rfl) rfl (hS.2 11 _ rfl) ?_
          refine lh_iload (q := 4) rfl rfl ?_
          refine lh_iconst rfl lh_k_3 ?_
          refine lh_icmp_ge rfl (fun c18 => ?_) (fun c18 => ?_)
          · have hf := lh_ifT hf c18
            refine lh_iload (q := 4) rfl rfl ?_
            refine lh_bipush rfl lh_b_6 ?_
            refine lh_icmp_ge rfl (fun c19 => ?_) (fun c19 => ?_)
            · have hf := lh_ifT hf c19
              refine lh_iconst rfl lh_k_0 ?_
              refine lh_bdE hf (fun r20 e21 hf => ?_)
              refine lh_cVi (N := m_Ha_walk) (d := 5) (o := a) (As := [.ref (8 + 4), .int 0]) (st := []) rfl rfl v_Ha_walk (ha.1 0 _ rfl) rfl rfl rfl ⟨rfl, rfl⟩ rfl (t_Ha_walk hG hS ha (hS.1 8 _ rfl) e21 ?_)
              refine lh_pop rfl rfl ?_
              refine lh_iinc (q := 3) (v := (v5 + 1)) (lv' := [(0, .ref (0 + 4)), (2, .int v2), (3, .long r15), (5, .int (v5 + 1)), (6, .int r4)]) rfl rfl (congrArg (v5 + ·) (by decide)) rfl rfl ?_
              refine lh_goto rfl ?_
              refine lh_less [0, 1, 2, 3] rfl ?_
              exact ih r15 (v5 + 1) r20.2 _ hf x0_
            · have hf := lh_ifF hf c19
              refine lh_iconst rfl lh_k_m1 ?_
              refine lh_goto rfl ?_
              refine lh_bdE hf (fun r22 e23 hf => ?_)
              refine lh_cVi (N := m_Ha_walk) (d := 5) (o := a) (As := [.ref (8 + 4), .int (-1)]) (st := []) rfl rfl v_Ha_walk (ha.1 0 _ rfl) rfl rfl rfl ⟨rfl, rfl⟩ rfl (t_Ha_walk hG hS ha (hS.1 8 _ rfl) e23 ?_)
              refine lh_pop rfl rfl ?_
              refine lh_iinc (q := 3) (v := (v5 + 1)) (lv' := [(0, .ref (0 + 4)), (2, .int v2), (3, .long r15), (5, .int (v5 + 1)), (6, .int r4)]) rfl rfl (congrArg (v5 + ·) (by decide)) rfl rfl ?_
              refine lh_goto rfl ?_
              refine lh_less [0, 1, 2, 3] rfl ?_
              exact ih r15 (v5 + 1) r22.2 _ hf x0_
          · have hf := lh_ifF hf c18
            refine lh_iconst rfl lh_k_1 ?_
            refine lh_goto rfl ?_
            refine lh_bdE hf (fun r24 e25 hf => ?_)
            refine lh_cVi (N := m_Ha_walk) (d := 5) (o := a) (As := [.ref (8 + 4), .int 1]) (st := []) rfl rfl v_Ha_walk (ha.1 0 _ rfl) rfl rfl rfl ⟨rfl, rfl⟩ rfl (t_Ha_walk hG hS ha (hS.1 8 _ rfl) e25 ?_)
            refine lh_pop rfl rfl ?_
            refine lh_iinc (q := 3) (v := (v5 + 1)) (lv' := [(0, .ref (0 + 4)), (2, .int v2), (3, .long r15), (5, .int (v5 + 1)), (6, .int r4)]) rfl rfl (congrArg (v5 + ·) (by decide)) rfl rfl ?_
            refine lh_goto rfl ?_
            refine lh_less [0, 1, 2, 3] rfl ?_
            exact ih r15 (v5 + 1) r24.2 _ hf x0_
        · have hf := lh_ifF hf c17
          refine lh_aload_n (q := 0) rfl rfl rfl ?_
          refine lh_getR4 rfl rfl (hS.1 0 _ rfl) rfl (hS.2 11 _ rfl) ?_
          refine lh_lload_n (q := 2) rfl rfl rfl ?_
          refine lh_iconst rfl lh_k_4 ?_
          refine lh_bdE hf (fun r26 e27 hf => ?_)
          refine lh_cSi (N := m_LH_drawBelow) (d := 0) (As := [.long r15, .int 4]) (st := [.ref (8 + 4)]) rfl rfl v_LH_drawBelow rfl rfl ⟨rfl, rfl⟩ rfl (t_LH_drawBelow hG hS e27 ?_)
          refine lh_bdE hf (fun r28 e29 hf => ?_)
          refine lh_cVv (N := m_Mo_trimTo) (d := 0) (o := 8) (As := [.int r26]) (st := []) rfl rfl v_Mo_trimTo (hS.1 8 _ rfl) rfl rfl rfl ⟨rfl, rfl⟩ rfl (t_Mo_trimTo hG hS (hS.1 8 _ rfl) e29 ?_)
          refine lh_aload_n (q := 0) rfl rfl rfl ?_
          refine lh_getR4 rfl rfl (hS.1 0 _ rfl) rfl hA ?_
          refine lh_aload_n (q := 0) rfl rfl rfl ?_
          refine lh_getR4 rfl rfl (hS.1 0 _ rfl) rfl (hS.2 11 _ rfl) ?_
          refine lh_iload (q := 4) rfl rfl ?_
          refine lh_iconst rfl lh_k_3 ?_
          refine lh_icmp_ge rfl (fun c30 => ?_) (fun c30 => ?_)
          · have hf := lh_ifT hf c30
            refine lh_iload (q := 4) rfl rfl ?_
            refine lh_bipush rfl lh_b_6 ?_
            refine lh_icmp_ge rfl (fun c31 => ?_) (fun c31 => ?_)
            · have hf := lh_ifT hf c31
              refine lh_iconst rfl lh_k_0 ?_
              refine lh_bdE hf (fun r32 e33 hf => ?_)
              refine lh_cVi (N := m_Ha_walk) (d := 5) (o := a) (As := [.ref (8 + 4), .int 0]) (st := []) rfl rfl v_Ha_walk (ha.1 0 _ rfl) rfl rfl rfl ⟨rfl, rfl⟩ rfl (t_Ha_walk hG hS ha (hS.1 8 _ rfl) e33 ?_)
              refine lh_pop rfl rfl ?_
              refine lh_iinc (q := 3) (v := (v5 + 1)) (lv' := [(0, .ref (0 + 4)), (2, .int v2), (3, .long r15), (5, .int (v5 + 1)), (6, .int r4)]) rfl rfl (congrArg (v5 + ·) (by decide)) rfl rfl ?_
              refine lh_goto rfl ?_
              refine lh_less [0, 1, 2, 3] rfl ?_
              exact ih r15 (v5 + 1) r32.2 _ hf x0_
            · have hf := lh_ifF hf c31
              refine lh_iconst rfl lh_k_m1 ?_
              refine lh_goto rfl ?_
              refine lh_bdE hf (fun r34 e35 hf => ?_)
              refine lh_cVi (N := m_Ha_walk) (d := 5) (o := a) (As := [.ref (8 + 4), .int (-1)]) (st := []) rfl rfl v_Ha_walk (ha.1 0 _ rfl) rfl rfl rfl ⟨rfl, rfl⟩ rfl (t_Ha_walk hG hS ha (hS.1 8 _ rfl) e35 ?_)
              refine lh_pop rfl rfl ?_
              refine lh_iinc (q := 3) (v := (v5 + 1)) (lv' := [(0, .ref (0 + 4)), (2, .int v2), (3, .long r15), (5, .int (v5 + 1)), (6, .int r4)]) rfl rfl (congrArg (v5 + ·) (by decide)) rfl rfl ?_
              refine lh_goto rfl ?_
              refine lh_less [0, 1, 2, 3] rfl ?_
              exact ih r15 (v5 + 1) r34.2 _ hf x0_
          · have hf := lh_ifF hf c30
            refine lh_iconst rfl lh_k_1 ?_
            refine lh_goto rfl ?_
            refine lh_bdE hf (fun r36 e37 hf => ?_)
            refine lh_cVi (N := m_Ha_walk) (d := 5) (o := a) (As := [.ref (8 + 4), .int 1]) (st := []) rfl rfl v_Ha_walk (ha.1 0 _ rfl) rfl rfl rfl ⟨rfl, rfl⟩ rfl (t_Ha_walk hG hS ha (hS.1 8 _ rfl) e37 ?_)
            refine lh_pop rfl rfl ?_
            refine lh_iinc (q := 3) (v := (v5 + 1)) (lv' := [(0, .ref (0 + 4)), (2, .int v2), (3, .long r15), (5, .int (v5 + 1)), (6, .int r4)]) rfl rfl (congrArg (v5 + ·) (by decide)) rfl rfl ?_
            refine lh_goto rfl ?_
            refine lh_less [0, 1, 2, 3] rfl ?_
            exact ih r15 (v5 + 1) r36.2 _ hf x0_
theorem t_LH_drawNight {Γ : lh_Cx} {I : lh_II} {L : lh_LL} {F : lh_FF} {S : lh_SS} {K : lh_Hp → Prop} {r : lh_II} (hG : lh_GX Γ) (hS : lh_lay F S) {a : Nat} (ha : lh_hl F S a) (hA : F (0 + 4) 6 = a + 4) {b : Nat} (hb : lh_nl F S b) (hB : F (0 + 4) 8 = b + 4) {x1 : Int32} {x2 : Int32} (hf : f_LH_drawNight a b x1 x2 I = some r) (hK : K (r, L, F, S)) : lh_Met Γ m_LH_drawNight 6 0 0 [.ref (0 + 4), .int x1, .int x2] (I, L, F, S) (lh_kv K) := by
  rw [f_LH_drawNight] at hf
  refine lh_ofG k_LH_drawNight [(0, .ref (0 + 4)), (1, .int x1), (2, .int x2)] rfl (Nat.le_of_ble_eq_true rfl) rfl ?_
  refine lh_iload_n (q := 1) rfl rfl rfl ?_
  refine lh_i2l rfl ?_
  refine lh_lstore_n (lv' := [(0, .ref (0 + 4)), (1, .int x1), (2, .int x2), (3, .long x1.toInt64)]) rfl rfl rfl rfl ?_
  refine lh_iconst rfl lh_k_0 ?_
  refine lh_istore (lv' := [(0, .ref (0 + 4)), (1, .int x1), (2, .int x2), (3, .long x1.toInt64), (5, .int 0)]) rfl rfl rfl ?_
  refine lh_bdE hf (fun r38 e39 hf => ?_)
  refine lh_less [0, 2, 3, 4] rfl ?_
  refine t_LH_drawNight_5 hG hS ha hA hb hB _ x1.toInt64 0 I _ e39 ?_
  exact lh_vret rfl rfl (by obtain rfl := Option.some.inj hf; exact hK)
def f_LH_exposed_18 (a : Nat) (b : Nat) (v1 : Int32) (v2 : Int32) (I : lh_II) : Nat → Int32 → Int32 → Option (Int32)
  | 0, _, _ => none
  | n + 1, v3, v4 => if 8 ≤ v4 then some v3 else lh_bd (f_Ha_placeOf a v1 v4 I) fun r7 => if r7 = (-1) then f_LH_exposed_18 a b v1 v2 I n v3 (v4 + 1) else if ((v2 >>> (r7 &&& 31)) &&& 1) = 1 then f_LH_exposed_18 a b v1 v2 I n (v3 ||| ((1 : Int32) <<< (v4 &&& 31))) (v4 + 1) else f_LH_exposed_18 a b v1 v2 I n v3 (v4 + 1)
def f_LH_exposed (a : Nat) (b : Nat) (x1 : Int32) (I : lh_II) : Option (Int32) := lh_bd (f_Ha_hasVisitor a x1 I) fun r1 => if r1 = 0 then some (-1) else lh_bd (f_Ha_lightFrom a (I (7 + 4) 0) I) fun r4 => lh_bd (f_LH_exposed_18 a b x1 r4 I lh_fuel 0 0) fun r11 => some r11
theorem t_LH_exposed_18 {Γ : lh_Cx} {F : lh_FF} {S : lh_SS} {Z : List Frame → Array Value → State → State → Prop} (hG : lh_GX Γ) (hS : lh_lay F S) {a : Nat} (ha : lh_hl F S a) (hA : F (0 + 4) 6 = a + 4) {b : Nat} (hb : lh_nl F S b) (hB : F (0 + 4) 8 = b + 4) {v1 : Int32} {v2 : Int32} {I : lh_II} {L : lh_LL} : ∀ (n : Nat) (v3 : Int32) (v4 : Int32) (o : Int32), f_LH_exposed_18 a b v1 v2 I n v3 v4 = some o → ∀ (x0_ : lh_G Γ m_LH_exposed (lh_R 2 0 0) Z 0 0 45 [(3, .int o)] [] (I, L, F, S)), lh_G Γ m_LH_exposed (lh_R 2 0 0) Z 0 0 18 [(0, .ref (0 + 4)), (1, .int v1), (2, .int v2), (3, .int v3), (4, .int v4)] [] (I, L, F, S) := by
  intro n
  induction n with
  | zero => intro v3 v4 o hf; cases hf
  | succ n ih =>
    intro v3 v4 o hf x0_
    rw [f_LH_exposed_18] at hf
    refine lh_iload (q := 4) rfl rfl ?_
    refine lh_bipush rfl lh_b_8 ?_
    refine lh_icmp_ge rfl (fun c6 => ?_) (fun c6 => ?_)
    · have hf := lh_ifT hf c6
      exact lh_less [3] rfl (by cases hf; exact x0_)
    · have hf := lh_ifF hf c6
      refine lh_aload_n (q := 0) rfl rfl rfl ?_
      refine lh_getR4 rfl rfl (hS.1 0 _ rfl) rfl hA ?_
      refine lh_iload_n (q := 1) rfl rfl rfl ?_
      refine lh_iload (q := 4) rfl rfl ?_
      refine lh_bdE hf (fun r7 e8 hf => ?_)
      refine lh_cVi (N := m_Ha_placeOf) (d := 1) (o := a) (As := [.int v1, .int v4]) (st := []) rfl rfl v_Ha_placeOf (ha.1 0 _ rfl) rfl rfl rfl ⟨rfl, rfl⟩ rfl (t_Ha_placeOf hG hS ha e8 ?_)
      refine lh_istore (lv' := [(0, .ref (0 + 4)), (1, .int v1), (2, .int v2), (3, .int v3), (4, .int v4), (5, .int r7)]) rfl rfl rfl ?_
      refine lh_iload (q := 5) rfl rfl ?_
      refine lh_iconst rfl lh_k_m1 ?_
      refine lh_icmp_eq rfl (fun c9 => ?_) (fun c9 => ?_)
      · have hf := lh_ifT hf c9
        refine lh_iinc (q := 4) (v := (v4 + 1)) (lv' := [(0, .ref (0 + 4)), (1, .int v1), (2, .int v2), (3, .int v3), (4, .int (v4 + 1)), (5, .int r7)]) rfl rfl (congrArg (v4 + ·) (by decide)) rfl rfl ?_
        refine lh_goto rfl ?_
        refine lh_less [0, 1, 2, 3, 4] rfl ?_
        exact ih v3 (v4 + 1) _ hf x0_
      · have hf := lh_ifF hf c9
        refine lh_iload_n (q := 2) rfl rfl rfl ?_
        refine lh_iload (q := 5) rfl rfl ?_
        refine lh_ishr rfl ?_
        refine lh_iconst rfl lh_k_1 ?_
        refine lh_iand rfl ?_
        refine lh_iconst rfl lh_k_1 ?_
        refine lh_icmp_ne rfl (fun c10 => ?_) (fun c10 => ?_)
        · have hf := lh_ifF hf c10
          refine lh_iinc (q := 4) (v := (v4 + 1)) (lv' := [(0, .ref (0 + 4)), (1, .int v1), (2, .int v2), (3, .int v3), (4, .int (v4 + 1)), (5, .int r7)]) rfl rfl (congrArg (v4 + ·) (by decide)) rfl rfl ?_
          refine lh_goto rfl ?_
          refine lh_less [0, 1, 2, 3, 4] rfl ?_
          exact ih v3 (v4 + 1) _ hf x0_
        · have hf := lh_ifT hf c10
          refine lh_iload_n (q := 3) rfl rfl rfl ?_
          refine lh_iconst rfl lh_k_1 ?_
          refine lh_iload (q := 4) rfl rfl ?_
          refine lh_ishl rfl ?_
          refine lh_ior rfl ?_
          refine lh_istore_n (lv' := [(0, .ref (0 + 4)), (1, .int v1), (2, .int v2), (3, .int (v3 ||| ((1 : Int32) <<< (v4 &&& 31)))), (4, .int v4), (5, .int r7)]) rfl rfl rfl rfl ?_
          refine lh_iinc (q := 4) (v := (v4 + 1)) (lv' := [(0, .ref (0 + 4)), (1, .int v1), (2, .int v2), (3, .int (v3 ||| ((1 : Int32) <<< (v4 &&& 31)))), (4, .int (v4 + 1)), (5, .int r7)]) rfl rfl (congrArg (v4 + ·) (by decide)) rfl rfl ?_
          refine lh_goto rfl ?_
          refine lh_less [0, 1, 2, 3, 4] rfl ?_
          exact ih (v3 ||| ((1 : Int32) <<< (v4 &&& 31))) (v4 + 1) _ hf x0_
theorem t_LH_exposed {Γ : lh_Cx} {I : lh_II} {L : lh_LL} {F : lh_FF} {S : lh_SS} {K : Int32 → lh_Hp → Prop} {r : Int32} (hG : lh_GX Γ) (hS : lh_lay F S) {a : Nat} (ha : lh_hl F S a) (hA : F (0 + 4) 6 = a + 4) {b : Nat} (hb : lh_nl F S b) (hB : F (0 + 4) 8 = b + 4) {x1 : Int32} (hf : f_LH_exposed a b x1 I = some r) (hK : K r (I, L, F, S)) : lh_Met Γ m_LH_exposed 2 0 0 [.ref (0 + 4), .int x1] (I, L, F, S) (lh_ki K) := by
  rw [f_LH_exposed] at hf
  refine lh_ofG k_LH_exposed [(0, .ref (0 + 4)), (1, .int x1)] rfl (Nat.le_of_ble_eq_true rfl) rfl ?_
  refine lh_aload_n (q := 0) rfl rfl rfl ?_
  refine lh_getR4 rfl rfl (hS.1 0 _ rfl) rfl hA ?_
  refine lh_iload_n (q := 1) rfl rfl rfl ?_
  refine lh_bdE hf (fun r1 e2 hf => ?_)
  refine lh_cVi (N := m_Ha_hasVisitor) (d := 0) (o := a) (As := [.int x1]) (st := []) rfl rfl v_Ha_hasVisitor (ha.1 0 _ rfl) rfl rfl rfl ⟨rfl, rfl⟩ rfl (t_Ha_hasVisitor hG hS ha e2 ?_)
  refine lh_if_ne rfl (fun c3 => ?_) (fun c3 => ?_)
  · have hf := lh_ifF hf c3
    refine lh_aload_n (q := 0) rfl rfl rfl ?_
    refine lh_getR4 rfl rfl (hS.1 0 _ rfl) rfl hA ?_
    refine lh_aload_n (q := 0) rfl rfl rfl ?_
    refine lh_getR4 rfl rfl (hS.1 0 _ rfl) rfl (hS.2 10 _ rfl) ?_
    refine lh_getI4 rfl rfl (hS.1 7 _ rfl) rfl ?_
    refine lh_bdE hf (fun r4 e5 hf => ?_)
    refine lh_cVi (N := m_Ha_lightFrom) (d := 1) (o := a) (As := [.int (I (7 + 4) 0)]) (st := []) rfl rfl v_Ha_lightFrom (ha.1 0 _ rfl) rfl rfl rfl ⟨rfl, rfl⟩ rfl (t_Ha_lightFrom hG hS ha e5 ?_)
    refine lh_istore_n (lv' := [(0, .ref (0 + 4)), (1, .int x1), (2, .int r4)]) rfl rfl rfl rfl ?_
    refine lh_iconst rfl lh_k_0 ?_
    refine lh_istore_n (lv' := [(0, .ref (0 + 4)), (1, .int x1), (2, .int r4), (3, .int 0)]) rfl rfl rfl rfl ?_
    refine lh_iconst rfl lh_k_0 ?_
    refine lh_istore (lv' := [(0, .ref (0 + 4)), (1, .int x1), (2, .int r4), (3, .int 0), (4, .int 0)]) rfl rfl rfl ?_
    refine lh_bdE hf (fun r11 e12 hf => ?_)
    refine t_LH_exposed_18 hG hS ha hA hb hB _ 0 0 _ e12 ?_
    refine lh_iload_n (q := 0) rfl rfl rfl ?_
    exact lh_iret rfl rfl rfl (by obtain rfl := Option.some.inj hf; exact hK)
  · have hf := lh_ifT hf c3
    refine lh_iconst rfl lh_k_m1 ?_
    exact lh_iret rfl rfl rfl (by obtain rfl := Option.some.inj hf; exact hK)
def f_Re_putBytes_2 (v1 : Int64) : Nat → Int32 → lh_II → Option (lh_II)
  | 0, _, _ => none
  | n + 1, v3, I => if v3 < 0 then some I else if ((v1.toUInt64 >>> (v3.toInt64.toUInt64 &&& Int64.toUInt64 63)).toInt64 &&& 255).toInt32 = 10 then if 1000 ≤ (I (1 + 4) 2) then f_Re_putBytes_2 v1 n (v3 + (-8)) I else lh_gd (lh_ix (I (1 + 4) 2) 1000) (f_Re_putBytes_2 v1 n (v3 + (-8)) (lh_u2 (lh_u2 I (2 + 4) (I (1 + 4) 2).toNatClampNeg (((((v1.toUInt64 >>> (v3.toInt64.toUInt64 &&& Int64.toUInt64 63)).toInt64 &&& 255).toInt32).toUInt32 % 65536).toInt32)) (1 + 4) 2 (((lh_u2 I (2 + 4) (I (1 + 4) 2).toNatClampNeg (((((v1.toUInt64 >>> (v3.toInt64.toUInt64 &&& Int64.toUInt64 63)).toInt64 &&& 255).toInt32).toUInt32 % 65536).toInt32)) (1 + 4) 2) + 1))) else if ((v1.toUInt64 >>> (v3.toInt64.toUInt64 &&& Int64.toUInt64 63)).toInt64 &&& 255).toInt32 < 32 then f_Re_putBytes_2 v1 n (v3 + (-8)) I else if 126 < ((v1.toUInt64 >>> (v3.toInt64.toUInt64 &&& Int64.toUInt64 63)).toInt64 &&& 255).toInt32 then f_Re_putBytes_2 v1 n (v3 + (-8)) I else if 1000 ≤ (I (1 + 4) 2) then f_Re_putBytes_2 v1 n (v3 + (-8)) I else lh_gd (lh_ix (I (1 + 4) 2) 1000) (f_Re_putBytes_2 v1 n (v3 + (-8)) (lh_u2 (lh_u2 I (2 + 4) (I (1 + 4) 2).toNatClampNeg (((((v1.toUInt64 >>> (v3.toInt64.toUInt64 &&& Int64.toUInt64 63)).toInt64 &&& 255).toInt32).toUInt32 % 65536).toInt32)) (1 + 4) 2 (((lh_u2 I (2 + 4) (I (1 + 4) 2).toNatClampNeg (((((v1.toUInt64 >>> (v3.toInt64.toUInt64 &&& Int64.toUInt64 63)).toInt64 &&& 255).toInt32).toUInt32 % 65536).toInt32)) (1 + 4) 2) + 1)))
def f_Re_putBytes (x1 : Int64) (I : lh_II) : Option (lh_II) := lh_bd (f_Re_putBytes_2 x1 lh_fuel 56 I) fun r9 => some r9
theorem t_Re_putBytes_2 {Γ : lh_Cx} {F : lh_FF} {S : lh_SS} {Z : List Frame → Array Value → State → State → Prop} (hG : lh_GX Γ) (hS : lh_lay F S)  {v1 : Int64} {L : lh_LL} : ∀ (n : Nat) (v3 : Int32) (I : lh_II) (o : lh_II), f_Re_putBytes_2 v1 n v3 I = some o → ∀ (x0_ : lh_G Γ m_Re_putBytes (lh_R 0 0 0) Z 0 0 39 [] [] (o, L, F, S)), lh_G Γ m_Re_putBytes (lh_R 0 0 0) Z 0 0 2 [(0, .ref (1 + 4)), (1, .long v1), (3, .int v3)] [] (I, L, F, S) := by
  intro n
  induction n with
  | zero => intro v3 I o hf; cases hf
  | succ n ih =>
    intro v3 I o hf x0_
    rw [f_Re_putBytes_2] at hf
    refine lh_iload_n (q := 2) rfl rfl rfl ?_
    refine lh_if_lt rfl (fun c1 => ?_) (fun c1 => ?_)
    · have hf := lh_ifT hf c1
      exact lh_less [] rfl (by cases hf; exact x0_)
    · have hf := lh_ifF hf c1
      refine lh_lload_n (q := 1) rfl rfl rfl ?_
      refine lh_iload_n (q := 2) rfl rfl rfl ?_
      refine lh_lushr rfl ?_
      refine lh_ldc2 rfl rfl ?_
      refine lh_land rfl ?_
      refine lh_l2i rfl ?_
      refine lh_istore (lv' := [(0, .ref (1 + 4)), (1, .long v1), (3, .int v3), (4, .int (((v1.toUInt64 >>> (v3.toInt64.toUInt64 &&& Int64.toUInt64 63)).toInt64 &&& 255).toInt32))]) rfl rfl rfl ?_
      refine lh_iload (q := 3) rfl rfl ?_
      refine lh_bipush rfl lh_b_10 ?_
      refine lh_icmp_eq rfl (fun c2 => ?_) (fun c2 => ?_)
      · have hf := lh_ifT hf c2
        refine lh_aload_n (q := 0) rfl rfl rfl ?_
        refine lh_getI4 rfl rfl (hS.1 1 _ rfl) rfl ?_
        refine lh_sipush rfl lh_s_1000 ?_
        refine lh_icmp_ge rfl (fun c3 => ?_) (fun c3 => ?_)
        · have hf := lh_ifT hf c3
          refine lh_iinc (q := 2) (v := (v3 + (-8))) (lv' := [(0, .ref (1 + 4)), (1, .long v1), (3, .int (v3 + (-8))), (4, .int (((v1.toUInt64 >>> (v3.toInt64.toUInt64 &&& Int64.toUInt64 63)).toInt64 &&& 255).toInt32))]) rfl rfl (congrArg (v3 + ·) (by decide)) rfl rfl ?_
          refine lh_goto rfl ?_
          refine lh_less [0, 1, 2] rfl ?_
          exact ih (v3 + (-8)) I _ hf x0_
        · have hf := lh_ifF hf c3
          refine lh_aload_n (q := 0) rfl rfl rfl ?_
          refine lh_getR4 rfl rfl (hS.1 1 _ rfl) rfl (hS.2 0 _ rfl) ?_
          refine lh_aload_n (q := 0) rfl rfl rfl ?_
          refine lh_getI4 rfl rfl (hS.1 1 _ rfl) rfl ?_
          refine lh_iload (q := 3) rfl rfl ?_
          refine lh_i2c rfl ?_
          obtain ⟨g4, hf⟩ := lh_gdE hf
          refine lh_cast4 rfl (hS.1 2 _ rfl) g4 (pk_nc _) ?_
          refine lh_aload_n (q := 0) rfl rfl rfl ?_
          refine lh_dup rfl rfl ?_
          refine lh_getI4 rfl rfl (hS.1 1 _ rfl) rfl ?_
          refine lh_iconst rfl lh_k_1 ?_
          refine lh_iadd rfl ?_
          refine lh_putI4 rfl rfl (hS.1 1 _ rfl) rfl rfl ?_
          refine lh_iinc (q := 2) (v := (v3 + (-8))) (lv' := [(0, .ref (1 + 4)), (1, .long v1), (3, .int (v3 + (-8))), (4, .int (((v1.toUInt64 >>> (v3.toInt64.toUInt64 &&& Int64.toUInt64 63)).toInt64 &&& 255).toInt32))]) rfl rfl (congrArg (v3 + ·) (by decide)) rfl rfl ?_
          refine lh_goto rfl ?_
          refine lh_less [0, 1, 2] rfl ?_
          exact ih (v3 + (-8)) (lh_u2 (lh_u2 I (2 + 4) (I (1 + 4) 2).toNatClampNeg (((((v1.toUInt64 >>> (v3.toInt64.toUInt64 &&& Int64.toUInt64 63)).toInt64 &&& 255).toInt32).toUInt32 % 65536).toInt32)) (1 + 4) 2 (((lh_u2 I (2 + 4) (I (1 + 4) 2).toNatClampNeg (((((v1.toUInt64 >>> (v3.toInt64.toUInt64 &&& Int64.toUInt64 63)).toInt64 &&& 255).toInt32).toUInt32 % 65536).toInt32)) (1 + 4) 2) + 1)) _ hf x0_
      · have hf := lh_ifF hf c2
        refine lh_iload (q := 3) rfl rfl ?_
        refine lh_bipush rfl lh_b_32 ?_
        refine lh_icmp_lt rfl (fun c5 => ?_) (fun c5 => ?_)
        · have hf := lh_ifT hf c5
          refine lh_iinc (q := 2) (v := (v3 + (-8))) (lv' := [(0, .ref (1 + 4)), (1, .long v1), (3, .int (v3 + (-8))), (4, .int (((v1.toUInt64 >>> (v3.toInt64.toUInt64 &&& Int64.toUInt64 63)).toInt64 &&& 255).toInt32))]) rfl rfl (congrArg (v3 + ·) (by decide)) rfl rfl ?_
          refine lh_goto rfl ?_
          refine lh_less [0, 1, 2] rfl ?_
          exact ih (v3 + (-8)) I _ hf x0_
        · have hf := lh_ifF hf c5
          refine lh_iload (q := 3) rfl rfl ?_
          refine lh_bipush rfl lh_b_126 ?_
          refine lh_icmp_gt rfl (fun c6 => ?_) (fun c6 => ?_)
          · have hf := lh_ifT hf c6
            refine lh_iinc (q := 2) (v := (v3 + (-8))) (lv' := [(0, .ref (1 + 4)), (1, .long v1), (3, .int (v3 + (-8))), (4, .int (((v1.toUInt64 >>> (v3.toInt64.toUInt64 &&& Int64.toUInt64 63)).toInt64 &&& 255).toInt32))]) rfl rfl (congrArg (v3 + ·) (by decide)) rfl rfl ?_
            refine lh_goto rfl ?_
            refine lh_less [0, 1, 2] rfl ?_
            exact ih (v3 + (-8)) I _ hf x0_
          · have hf := lh_ifF hf c6
            refine lh_aload_n (q := 0) rfl rfl rfl ?_
            refine lh_getI4 rfl rfl (hS.1 1 _ rfl) rfl ?_
            refine lh_sipush rfl lh_s_1000 ?_
            refine lh_icmp_ge rfl (fun c7 => ?_) (fun c7 => ?_)
            · have hf := lh_ifT hf c7
              refine lh_iinc (q := 2) (v := (v3 + (-8))) (lv' := [(0, .ref (1 + 4)), (1, .long v1), (3, .int (v3 + (-8))), (4, .int (((v1.toUInt64 >>> (v3.toInt64.toUInt64 &&& Int64.toUInt64 63)).toInt64 &&& 255).toInt32))]) rfl rfl (congrArg (v3 + ·) (by decide)) rfl rfl ?_
              refine lh_goto rfl ?_
              refine lh_less [0, 1, 2] rfl ?_
              exact ih (v3 + (-8)) I _ hf x0_
            · have hf := lh_ifF hf c7
              refine lh_aload_n (q := 0) rfl rfl rfl ?_
              refine lh_getR4 rfl rfl (hS.1 1 _ rfl) rfl (hS.2 0 _ rfl) ?_
              refine lh_aload_n (q := 0) rfl rfl rfl ?_
              refine lh_getI4 rfl rfl (hS.1 1 _ rfl) rfl ?_
              refine lh_iload (q := 3) rfl rfl ?_
              refine lh_i2c rfl ?_
              obtain ⟨g8, hf⟩ := lh_gdE hf
              refine lh_cast4 rfl (hS.1 2 _ rfl) g8 (pk_nc _) ?_
              refine lh_aload_n (q := 0) rfl rfl rfl ?_
              refine lh_dup rfl rfl ?_
              refine lh_getI4 rfl rfl (hS.1 1 _ rfl) rfl ?_
              refine lh_iconst rfl lh_k_1 ?_
              refine lh_iadd rfl ?_
              refine lh_putI4 rfl rfl (hS.1 1 _ rfl) rfl rfl ?_
              refine lh_iinc (q := 2) (v := (v3 + (-8))) (lv' := [(0, .ref (1 + 4)), (1, .long v1), (3, .int (v3 + (-8))), (4, .int (((v1.toUInt64 >>> (v3.toInt64.toUInt64 &&& Int64.toUInt64 63)).toInt64 &&& 255).toInt32))]) rfl rfl (congrArg (v3 + ·) (by decide)) rfl rfl ?_
              refine lh_goto rfl ?_
              refine lh_less [0, 1, 2] rfl ?_
              exact ih (v3 + (-8)) (lh_u2 (lh_u2 I (2 + 4) (I (1 + 4) 2).toNatClampNeg (((((v1.toUInt64 >>> (v3.toInt64.toUInt64 &&& Int64.toUInt64 63)).toInt64 &&& 255).toInt32).toUInt32 % 65536).toInt32)) (1 + 4) 2 (((lh_u2 I (2 + 4) (I (1 + 4) 2).toNatClampNeg (((((v1.toUInt64 >>> (v3.toInt64.toUInt64 &&& Int64.toUInt64 63)).toInt64 &&& 255).toInt32).toUInt32 % 65536).toInt32)) (1 + 4) 2) + 1)) _ hf x0_
theorem t_Re_putBytes {Γ : lh_Cx} {I : lh_II} {L : lh_LL} {F : lh_FF} {S : lh_SS} {K : lh_Hp → Prop} {r : lh_II} (hG : lh_GX Γ) (hS : lh_lay F S)  {x1 : Int64} (hf : f_Re_putBytes x1 I = some r) (hK : K (r, L, F, S)) : lh_Met Γ m_Re_putBytes 0 0 0 [.ref (1 + 4), .long x1] (I, L, F, S) (lh_kv K) := by
  rw [f_Re_putBytes] at hf
  refine lh_ofG k_Re_putBytes [(0, .ref (1 + 4)), (1, .long x1)] rfl (Nat.le_of_ble_eq_true rfl) rfl ?_
  refine lh_bipush rfl lh_b_56 ?_
  refine lh_istore_n (lv' := [(0, .ref (1 + 4)), (1, .long x1), (3, .int 56)]) rfl rfl rfl rfl ?_
  refine lh_bdE hf (fun r9 e10 hf => ?_)
  refine t_Re_putBytes_2 hG hS  _ 56 I _ e10 ?_
  exact lh_vret rfl rfl (by obtain rfl := Option.some.inj hf; exact hK)
def f_LH_feed (a : Nat) (b : Nat) (x1 : Int64) (x2 : Int64) (x3 : Int64) (I : lh_II) : Option (Int32 × lh_II) := lh_bd (f_Re_putBytes x1 I) fun r1 => lh_bd (f_Re_putBytes x2 r1) fun r3 => lh_bd (f_Re_putBytes x3 r3) fun r5 => some ((r5 (1 + 4) 2), r5)
theorem t_LH_feed {Γ : lh_Cx} {I : lh_II} {L : lh_LL} {F : lh_FF} {S : lh_SS} {K : Int32 → lh_Hp → Prop} {r : Int32 × lh_II} (hG : lh_GX Γ) (hS : lh_lay F S) {a : Nat} (ha : lh_hl F S a) (hA : F (0 + 4) 6 = a + 4) {b : Nat} (hb : lh_nl F S b) (hB : F (0 + 4) 8 = b + 4) {x1 : Int64} {x2 : Int64} {x3 : Int64} (hf : f_LH_feed a b x1 x2 x3 I = some r) (hK : K r.1 (r.2, L, F, S)) : lh_Met Γ m_LH_feed 1 0 0 [.ref (0 + 4), .long x1, .long x2, .long x3] (I, L, F, S) (lh_ki K) := by
  rw [f_LH_feed] at hf
  refine lh_ofG k_LH_feed [(0, .ref (0 + 4)), (1, .long x1), (3, .long x2), (5, .long x3)] rfl (Nat.le_of_ble_eq_true rfl) rfl ?_
  refine lh_aload_n (q := 0) rfl rfl rfl ?_
  refine lh_getR4 rfl rfl (hS.1 0 _ rfl) rfl (hS.2 8 _ rfl) ?_
  refine lh_lload_n (q := 1) rfl rfl rfl ?_
  refine lh_bdE hf (fun r1 e2 hf => ?_)
  refine lh_cVv (N := m_Re_putBytes) (d := 0) (o := 1) (As := [.long x1]) (st := []) rfl rfl v_Re_putBytes (hS.1 1 _ rfl) rfl rfl rfl ⟨rfl, rfl⟩ rfl (t_Re_putBytes hG hS e2 ?_)
  refine lh_aload_n (q := 0) rfl rfl rfl ?_
  refine lh_getR4 rfl rfl (hS.1 0 _ rfl) rfl (hS.2 8 _ rfl) ?_
  refine lh_lload_n (q := 2) rfl rfl rfl ?_
  refine lh_bdE hf (fun r3 e4 hf => ?_)
  refine lh_cVv (N := m_Re_putBytes) (d := 0) (o := 1) (As := [.long x2]) (st := []) rfl rfl v_Re_putBytes (hS.1 1 _ rfl) rfl rfl rfl ⟨rfl, rfl⟩ rfl (t_Re_putBytes hG hS e4 ?_)
  refine lh_aload_n (q := 0) rfl rfl rfl ?_
  refine lh_getR4 rfl rfl (hS.1 0 _ rfl) rfl (hS.2 8 _ rfl) ?_
  refine lh_lload (q := 3) rfl rfl ?_
  refine lh_bdE hf (fun r5 e6 hf => ?_)
  refine lh_cVv (N := m_Re_putBytes) (d := 0) (o := 1) (As := [.long x3]) (st := []) rfl rfl v_Re_putBytes (hS.1 1 _ rfl) rfl rfl rfl ⟨rfl, rfl⟩ rfl (t_Re_putBytes hG hS e6 ?_)
  refine lh_aload_n (q := 0) rfl rfl rfl ?_
  refine lh_getR4 rfl rfl (hS.1 0 _ rfl) rfl (hS.2 8 _ rfl) ?_
  refine lh_getI4 rfl rfl (hS.1 1 _ rfl) rfl ?_
  exact lh_iret rfl rfl rfl (by obtain rfl := Option.some.inj hf; exact hK)
def f_LH_fellow (a : Nat) (b : Nat) (x1 : Int32) (I : lh_II) : Option (Int32) := if x1 < 0 then some (-1) else if x1 ≤ 40 then lh_bd (f_Ha_fellowAt a ((I (7 + 4) 4) + x1) I) fun r3 => some r3 else some (-1)
theorem t_LH_fellow {Γ : lh_Cx} {I : lh_II} {L : lh_LL} {F : lh_FF} {S : lh_SS} {K : Int32 → lh_Hp → Prop} {r : Int32} (hG : lh_GX Γ) (hS : lh_lay F S) {a : Nat} (ha : lh_hl F S a) (hA : F (0 + 4) 6 = a + 4) {b : Nat} (hb : lh_nl F S b) (hB : F (0 + 4) 8 = b + 4) {x1 : Int32} (hf : f_LH_fellow a b x1 I = some r) (hK : K r (I, L, F, S)) : lh_Met Γ m_LH_fellow 1 0 0 [.ref (0 + 4), .int x1] (I, L, F, S) (lh_ki K) := by
  rw [f_LH_fellow] at hf
  refine lh_ofG k_LH_fellow [(0, .ref (0 + 4)), (1, .int x1)] rfl (Nat.le_of_ble_eq_true rfl) rfl ?_
  refine lh_iload_n (q := 1) rfl rfl rfl ?_
  refine lh_if_lt rfl (fun c1 => ?_) (fun c1 => ?_)
  · have hf := lh_ifT hf c1
    refine lh_iconst rfl lh_k_m1 ?_
    exact lh_iret rfl rfl rfl (by obtain rfl := Option.some.inj hf; exact hK)
  · have hf := lh_ifF hf c1
    refine lh_iload_n (q := 1) rfl rfl rfl ?_
    refine lh_bipush rfl lh_b_40 ?_
    refine lh_icmp_le rfl (fun c2 => ?_) (fun c2 => ?_)
    · have hf := lh_ifT hf c2
      refine lh_aload_n (q := 0) rfl rfl rfl ?_
      refine lh_getR4 rfl rfl (hS.1 0 _ rfl) rfl hA ?_
      refine lh_aload_n (q := 0) rfl rfl rfl ?_
      refine lh_getR4 rfl rfl (hS.1 0 _ rfl) rfl (hS.2 10 _ rfl) ?_
      refine lh_getI4 rfl rfl (hS.1 7 _ rfl) rfl ?_
      refine lh_iload_n (q := 1) rfl rfl rfl ?_
      refine lh_iadd rfl ?_
      refine lh_bdE hf (fun r3 e4 hf => ?_)
      refine lh_cVi (N := m_Ha_fellowAt) (d := 0) (o := a) (As := [.int ((I (7 + 4) 4) + x1)]) (st := []) rfl rfl v_Ha_fellowAt (ha.1 0 _ rfl) rfl rfl rfl ⟨rfl, rfl⟩ rfl (t_Ha_fellowAt hG hS ha e4 ?_)
      exact lh_iret rfl rfl rfl (by obtain rfl := Option.some.inj hf; exact hK)
    · have hf := lh_ifF hf c2
      refine lh_iconst rfl lh_k_m1 ?_
      exact lh_iret rfl rfl rfl (by obtain rfl := Option.some.inj hf; exact hK)
def f_LH_remember (a : Nat) (b : Nat) (I : lh_II) : Option (lh_II) := lh_gd (lh_ix (I (0 + 4) 10) 16) (lh_bd (f_Mo_become (41 + (I (0 + 4) 10).toNatClampNeg) 7 I) fun r2 => if 16 ≤ ((lh_u2 r2 (0 + 4) 10 (((r2 (0 + 4) 10) + 1) - ((r2 (0 + 4) 10) + 1) / 16 * 16)) (0 + 4) 11) then some (lh_u2 r2 (0 + 4) 10 (((r2 (0 + 4) 10) + 1) - ((r2 (0 + 4) 10) + 1) / 16 * 16)) else some (lh_u2 (lh_u2 r2 (0 + 4) 10 (((r2 (0 + 4) 10) + 1) - ((r2 (0 + 4) 10) + 1) / 16 * 16)) (0 + 4) 11 (((lh_u2 r2 (0 + 4) 10 (((r2 (0 + 4) 10) + 1) - ((r2 (0 + 4) 10) + 1) / 16 * 16)) (0 + 4) 11) + 1)))
theorem t_LH_remember {Γ : lh_Cx} {I : lh_II} {L : lh_LL} {F : lh_FF} {S : lh_SS} {K : lh_Hp → Prop} {r : lh_II} (hG : lh_GX Γ) (hS : lh_lay F S) {a : Nat} (ha : lh_hl F S a) (hA : F (0 + 4) 6 = a + 4) {b : Nat} (hb : lh_nl F S b) (hB : F (0 + 4) 8 = b + 4) (hf : f_LH_remember a b I = some r) (hK : K (r, L, F, S)) : lh_Met Γ m_LH_remember 1 0 0 [.ref (0 + 4)] (I, L, F, S) (lh_kv K) := by
  rw [f_LH_remember] at hf
  refine lh_ofG k_LH_remember [(0, .ref (0 + 4))] rfl (Nat.le_of_ble_eq_true rfl) rfl ?_
  refine lh_aload_n (q := 0) rfl rfl rfl ?_
  refine lh_getR4 rfl rfl (hS.1 0 _ rfl) rfl (hS.2 12 _ rfl) ?_
  refine lh_aload_n (q := 0) rfl rfl rfl ?_
  refine lh_getI4 rfl rfl (hS.1 0 _ rfl) rfl ?_
  obtain ⟨g1, hf⟩ := lh_gdE hf
  refine lh_aaload4 rfl (hS.1 9 _ rfl) (lh_ix_in g1) (lh_pastF hS g1) ?_
  refine lh_aload_n (q := 0) rfl rfl rfl ?_
  refine lh_getR4 rfl rfl (hS.1 0 _ rfl) rfl (hS.2 10 _ rfl) ?_
  refine lh_bdE hf (fun r2 e3 hf => ?_)
  refine lh_cVv (N := m_Mo_become) (d := 0) (o := 41 + (I (0 + 4) 10).toNatClampNeg) (As := [.ref (7 + 4)]) (st := []) rfl rfl v_Mo_become (lh_pastS hS g1) rfl rfl rfl ⟨rfl, rfl⟩ rfl (t_Mo_become hG hS (lh_pastS hS g1) (hS.1 7 _ rfl) e3 ?_)
  refine lh_aload_n (q := 0) rfl rfl rfl ?_
  refine lh_aload_n (q := 0) rfl rfl rfl ?_
  refine lh_getI4 rfl rfl (hS.1 0 _ rfl) rfl ?_
  refine lh_iconst rfl lh_k_1 ?_
  refine lh_iadd rfl ?_
  refine lh_bipush rfl lh_b_16 ?_
  refine lh_irem rfl (by decide) ?_
  refine lh_putI4 rfl rfl (hS.1 0 _ rfl) rfl rfl ?_
  refine lh_aload_n (q := 0) rfl rfl rfl ?_
  refine lh_getI4 rfl rfl (hS.1 0 _ rfl) rfl ?_
  refine lh_bipush rfl lh_b_16 ?_
  refine lh_icmp_ge rfl (fun c4 => ?_) (fun c4 => ?_)
  · have hf := lh_ifT hf c4
    exact lh_vret rfl rfl (by obtain rfl := Option.some.inj hf; exact hK)
  · have hf := lh_ifF hf c4
    refine lh_aload_n (q := 0) rfl rfl rfl ?_
    refine lh_dup rfl rfl ?_
    refine lh_getI4 rfl rfl (hS.1 0 _ rfl) rfl ?_
    refine lh_iconst rfl lh_k_1 ?_
    refine lh_iadd rfl ?_
    refine lh_putI4 rfl rfl (hS.1 0 _ rfl) rfl rfl ?_
    exact lh_vret rfl rfl (by obtain rfl := Option.some.inj hf; exact hK)
def f_Mo_fillBy (m : Nat) (x1 : Int32) (I : lh_II) : Option (lh_II) := some (lh_u2 I (m + 4) 3 (if ((I (m + 4) 3) + x1) < 99 then ((I (m + 4) 3) + x1) else 99))
theorem t_Mo_fillBy {Γ : lh_Cx} {I : lh_II} {L : lh_LL} {F : lh_FF} {S : lh_SS} {K : lh_Hp → Prop} {r : lh_II} (hG : lh_GX Γ) (hS : lh_lay F S) {m : Nat} (hm : S[m]? = some (10, 0)) {x1 : Int32} (hf : f_Mo_fillBy m x1 I = some r) (hK : K (r, L, F, S)) : lh_Met Γ m_Mo_fillBy 1 0 0 [.ref (m + 4), .int x1] (I, L, F, S) (lh_kv K) := by
  rw [f_Mo_fillBy] at hf
  refine lh_ofG k_Mo_fillBy [(0, .ref (m + 4)), (1, .int x1)] rfl (Nat.le_of_ble_eq_true rfl) rfl ?_
  refine lh_aload_n (q := 0) rfl rfl rfl ?_
  refine lh_bipush rfl lh_b_99 ?_
  refine lh_aload_n (q := 0) rfl rfl rfl ?_
  refine lh_getI4 rfl rfl hm rfl ?_
  refine lh_iload_n (q := 1) rfl rfl rfl ?_
  refine lh_iadd rfl ?_
  refine lh_min rfl rfl ⟨rfl, rfl⟩ rfl ?_
  refine lh_putI4 rfl rfl hm rfl rfl ?_
  exact lh_vret rfl rfl (by obtain rfl := Option.some.inj hf; exact hK)
def f_LH_fill (a : Nat) (b : Nat) (x1 : Int32) (I : lh_II) : Option (Int32 × lh_II) := if x1 < 1 then some ((-1), I) else if x1 ≤ 99 then lh_bd (f_LH_remember a b I) fun r3 => lh_bd (f_Mo_fillBy 7 x1 r3) fun r5 => some ((r5 (7 + 4) 3), r5) else some ((-1), I)
theorem t_LH_fill {Γ : lh_Cx} {I : lh_II} {L : lh_LL} {F : lh_FF} {S : lh_SS} {K : Int32 → lh_Hp → Prop} {r : Int32 × lh_II} (hG : lh_GX Γ) (hS : lh_lay F S) {a : Nat} (ha : lh_hl F S a) (hA : F (0 + 4) 6 = a + 4) {b : Nat} (hb : lh_nl F S b) (hB : F (0 + 4) 8 = b + 4) {x1 : Int32} (hf : f_LH_fill a b x1 I = some r) (hK : K r.1 (r.2, L, F, S)) : lh_Met Γ m_LH_fill 2 0 0 [.ref (0 + 4), .int x1] (I, L, F, S) (lh_ki K) := by
  rw [f_LH_fill] at hf
  refine lh_ofG k_LH_fill [(0, .ref (0 + 4)), (1, .int x1)] rfl (Nat.le_of_ble_eq_true rfl) rfl ?_
  refine lh_iload_n (q := 1) rfl rfl rfl ?_
  refine lh_iconst rfl lh_k_1 ?_
  refine lh_icmp_lt rfl (fun c1 => ?_) (fun c1 => ?_)
  · have hf := lh_ifT hf c1
    refine lh_iconst rfl lh_k_m1 ?_
    exact lh_iret rfl rfl rfl (by obtain rfl := Option.some.inj hf; exact hK)
  · have hf := lh_ifF hf c1
    refine lh_iload_n (q := 1) rfl rfl rfl ?_
    refine lh_bipush rfl lh_b_99 ?_
    refine lh_icmp_le rfl (fun c2 => ?_) (fun c2 => ?_)
    · have hf := lh_ifT hf c2
      refine lh_aload_n (q := 0) rfl rfl rfl ?_
      refine lh_bdE hf (fun r3 e4 hf => ?_)
      refine lh_cVv (N := m_LH_remember) (d := 1) (o := 0) (As := []) (st := []) rfl rfl v_LH_remember (hS.1 0 _ rfl) rfl rfl rfl ⟨rfl, rfl⟩ rfl (t_LH_remember hG hS ha hA hb hB e4 ?_)
      refine lh_aload_n (q := 0) rfl rfl rfl ?_
      refine lh_getR4 rfl rfl (hS.1 0 _ rfl) rfl (hS.2 10 _ rfl) ?_
      refine lh_iload_n (q := 1) rfl rfl rfl ?_
      refine lh_bdE hf (fun r5 e6 hf => ?_)
      refine lh_cVv (N := m_Mo_fillBy) (d := 1) (o := 7) (As := [.int x1]) (st := []) rfl rfl v_Mo_fillBy (hS.1 7 _ rfl) rfl rfl rfl ⟨rfl, rfl⟩ rfl (t_Mo_fillBy hG hS (hS.1 7 _ rfl) e6 ?_)
      refine lh_aload_n (q := 0) rfl rfl rfl ?_
      refine lh_getR4 rfl rfl (hS.1 0 _ rfl) rfl (hS.2 10 _ rfl) ?_
      refine lh_getI4 rfl rfl (hS.1 7 _ rfl) rfl ?_
      exact lh_iret rfl rfl rfl (by obtain rfl := Option.some.inj hf; exact hK)
    · have hf := lh_ifF hf c2
      refine lh_iconst rfl lh_k_m1 ?_
      exact lh_iret rfl rfl rfl (by obtain rfl := Option.some.inj hf; exact hK)
def f_LH_follows_12 (a : Nat) (b : Nat) (v1 : Int32) (v2 : Int32) (I : lh_II) : Nat → Int32 → Int32 → Option (Int32)
  | 0, _, _ => none
  | n + 1, v3, v4 => if 8 ≤ v4 then some v3 else lh_bd (f_Ha_placeOf a v1 v4 I) fun r5 => if r5 = (-1) then f_LH_follows_12 a b v1 v2 I n v3 (v4 + 1) else lh_bd (f_Ha_placeOf a v2 (v4 - 1) I) fun r8 => if r5 = r8 then f_LH_follows_12 a b v1 v2 I n (v3 ||| ((1 : Int32) <<< (v4 &&& 31))) (v4 + 1) else f_LH_follows_12 a b v1 v2 I n v3 (v4 + 1)
def f_LH_follows (a : Nat) (b : Nat) (x1 : Int32) (x2 : Int32) (I : lh_II) : Option (Int32) := lh_bd (f_Ha_areTwoOfOneDay a x1 x2 I) fun r1 => if r1 = 0 then some (-1) else lh_bd (f_LH_follows_12 a b x1 x2 I lh_fuel 0 1) fun r11 => some r11
theorem t_LH_follows_12 {Γ : lh_Cx} {F : lh_FF} {S : lh_SS} {Z : List Frame → Array Value → State → State → Prop} (hG : lh_GX Γ) (hS : lh_lay F S) {a : Nat} (ha : lh_hl F S a) (hA : F (0 + 4) 6 = a + 4) {b : Nat} (hb : lh_nl F S b) (hB : F (0 + 4) 8 = b + 4) {v1 : Int32} {v2 : Int32} {I : lh_II} {L : lh_LL} : ∀ (n : Nat) (v3 : Int32) (v4 : Int32) (o : Int32), f_LH_follows_12 a b v1 v2 I n v3 v4 = some o → ∀ (x0_ : lh_G Γ m_LH_follows (lh_R 2 0 0) Z 0 0 41 [(3, .int o)] [] (I, L, F, S)), lh_G Γ m_LH_follows (lh_R 2 0 0) Z 0 0 12 [(0, .ref (0 + 4)), (1, .int v1), (2, .int v2), (3, .int v3), (4, .int v4)] [] (I, L, F, S) := by
  intro n
  induction n with
  | zero => intro v3 v4 o hf; cases hf
  | succ n ih =>
    intro v3 v4 o hf x0_
    rw [f_LH_follows_12] at hf
    refine lh_iload (q := 4) rfl rfl ?_
    refine lh_bipush rfl lh_b_8 ?_
    refine lh_icmp_ge rfl (fun c4 => ?_) (fun c4 => ?_)
    · have hf := lh_ifT hf c4
      exact lh_less [3] rfl (by cases hf; exact x0_)
    · have hf := lh_ifF hf c4
      refine lh_aload_n (q := 0) rfl rfl rfl ?_
      refine lh_getR4 rfl rfl (hS.1 0 _ rfl) rfl hA ?_
      refine lh_iload_n (q := 1) rfl rfl rfl ?_
      refine lh_iload (q := 4) rfl rfl ?_
      refine lh_bdE hf (fun r5 e6 hf => ?_)
      refine lh_cVi (N := m_Ha_placeOf) (d := 1) (o := a) (As := [.int v1, .int v4]) (st := []) rfl rfl v_Ha_placeOf (ha.1 0 _ rfl) rfl rfl rfl ⟨rfl, rfl⟩ rfl (t_Ha_placeOf hG hS ha e6 ?_)
      refine lh_istore (lv' := [(0, .ref (0 + 4)), (1, .int v1), (2, .int v2), (3, .int v3), (4, .int v4), (5, .int r5)]) rfl rfl rfl ?_
      refine lh_iload (q := 5) rfl rfl ?_
      refine lh_iconst rfl lh_k_m1 ?_
      refine lh_icmp_eq rfl (fun c7 => ?_) (fun c7 => ?_)
      · have hf := lh_ifT hf c7
        refine lh_iinc (q := 4) (v := (v4 + 1)) (lv' := [(0, .ref (0 + 4)), (1, .int v1), (2, .int v2), (3, .int v3), (4, .int (v4 + 1)), (5, .int r5)]) rfl rfl (congrArg (v4 + ·) (by decide)) rfl rfl ?_
        refine lh_goto rfl ?_
        refine lh_less [0, 1, 2, 3, 4] rfl ?_
        exact ih v3 (v4 + 1) _ hf x0_
      · have hf := lh_ifF hf c7
        refine lh_iload (q := 5) rfl rfl ?_
        refine lh_aload_n (q := 0) rfl rfl rfl ?_
        refine lh_getR4 rfl rfl (hS.1 0 _ rfl) rfl hA ?_
        refine lh_iload_n (q := 2) rfl rfl rfl ?_
        refine lh_iload (q := 4) rfl rfl ?_
        refine lh_iconst rfl lh_k_1 ?_
        refine lh_isub rfl ?_
        refine lh_bdE hf (fun r8 e9 hf => ?_)
        refine lh_cVi (N := m_Ha_placeOf) (d := 1) (o := a) (As := [.int v2, .int (v4 - 1)]) (st := [.int r5]) rfl rfl v_Ha_placeOf (ha.1 0 _ rfl) rfl rfl rfl ⟨rfl, rfl⟩ rfl (t_Ha_placeOf hG hS ha e9 ?_)
        refine lh_icmp_ne rfl (fun c10 => ?_) (fun c10 => ?_)
        · have hf := lh_ifF hf c10
          refine lh_iinc (q := 4) (v := (v4 + 1)) (lv' := [(0, .ref (0 + 4)), (1, .int v1), (2, .int v2), (3, .int v3), (4, .int (v4 + 1)), (5, .int r5)]) rfl rfl (congrArg (v4 + ·) (by decide)) rfl rfl ?_
          refine lh_goto rfl ?_
          refine lh_less [0, 1, 2, 3, 4] rfl ?_
          exact ih v3 (v4 + 1) _ hf x0_
        · have hf := lh_ifT hf c10
          refine lh_iload_n (q := 3) rfl rfl rfl ?_
          refine lh_iconst rfl lh_k_1 ?_
          refine lh_iload (q := 4) rfl rfl ?_
          refine lh_ishl rfl ?_
          refine lh_ior rfl ?_
          refine lh_istore_n (lv' := [(0, .ref (0 + 4)), (1, .int v1), (2, .int v2), (3, .int (v3 ||| ((1 : Int32) <<< (v4 &&& 31)))), (4, .int v4), (5, .int r5)]) rfl rfl rfl rfl ?_
          refine lh_iinc (q := 4) (v := (v4 + 1)) (lv' := [(0, .ref (0 + 4)), (1, .int v1), (2, .int v2), (3, .int (v3 ||| ((1 : Int32) <<< (v4 &&& 31)))), (4, .int (v4 + 1)), (5, .int r5)]) rfl rfl (congrArg (v4 + ·) (by decide)) rfl rfl ?_
          refine lh_goto rfl ?_
          refine lh_less [0, 1, 2, 3, 4] rfl ?_
          exact ih (v3 ||| ((1 : Int32) <<< (v4 &&& 31))) (v4 + 1) _ hf x0_
theorem t_LH_follows {Γ : lh_Cx} {I : lh_II} {L : lh_LL} {F : lh_FF} {S : lh_SS} {K : Int32 → lh_Hp → Prop} {r : Int32} (hG : lh_GX Γ) (hS : lh_lay F S) {a : Nat} (ha : lh_hl F S a) (hA : F (0 + 4) 6 = a + 4) {b : Nat} (hb : lh_nl F S b) (hB : F (0 + 4) 8 = b + 4) {x1 : Int32} {x2 : Int32} (hf : f_LH_follows a b x1 x2 I = some r) (hK : K r (I, L, F, S)) : lh_Met Γ m_LH_follows 2 0 0 [.ref (0 + 4), .int x1, .int x2] (I, L, F, S) (lh_ki K) := by
  rw [f_LH_follows] at hf
  refine lh_ofG k_LH_follows [(0, .ref (0 + 4)), (1, .int x1), (2, .int x2)] rfl (Nat.le_of_ble_eq_true rfl) rfl ?_
  refine lh_aload_n (q := 0) rfl rfl rfl ?_
  refine lh_getR4 rfl rfl (hS.1 0 _ rfl) rfl hA ?_
  refine lh_iload_n (q := 1) rfl rfl rfl ?_
  refine lh_iload_n (q := 2) rfl rfl rfl ?_
  refine lh_bdE hf (fun r1 e2 hf => ?_)
  refine lh_cVi (N := m_Ha_areTwoOfOneDay) (d := 1) (o := a) (As := [.int x1, .int x2]) (st := []) rfl rfl v_Ha_areTwoOfOneDay (ha.1 0 _ rfl) rfl rfl rfl ⟨rfl, rfl⟩ rfl (t_Ha_areTwoOfOneDay hG hS ha e2 ?_)
  refine lh_if_ne rfl (fun c3 => ?_) (fun c3 => ?_)
  · have hf := lh_ifF hf c3
    refine lh_iconst rfl lh_k_0 ?_
    refine lh_istore_n (lv' := [(0, .ref (0 + 4)), (1, .int x1), (2, .int x2), (3, .int 0)]) rfl rfl rfl rfl ?_
    refine lh_iconst rfl lh_k_1 ?_
    refine lh_istore (lv' := [(0, .ref (0 + 4)), (1, .int x1), (2, .int x2), (3, .int 0), (4, .int 1)]) rfl rfl rfl ?_
    refine lh_bdE hf (fun r11 e12 hf => ?_)
    refine t_LH_follows_12 hG hS ha hA hb hB _ 0 1 _ e12 ?_
    refine lh_iload_n (q := 0) rfl rfl rfl ?_
    exact lh_iret rfl rfl rfl (by obtain rfl := Option.some.inj hf; exact hK)
  · have hf := lh_ifT hf c3
    refine lh_iconst rfl lh_k_m1 ?_
    exact lh_iret rfl rfl rfl (by obtain rfl := Option.some.inj hf; exact hK)
def f_LH_gap_9 (a : Nat) (b : Nat) (v1 : Int32) (I : lh_II) : Nat → Int32 → Int32 → Option (Int32)
  | 0, _, _ => none
  | n + 1, v2, v3 => if 8 ≤ v3 then some v2 else lh_bd (f_Ha_cellsWithSomebody a v1 v3 I) fun r5 => f_LH_gap_9 a b v1 I n (v2 ||| r5) (v3 + 1)
def f_LH_gap (a : Nat) (b : Nat) (x1 : Int32) (I : lh_II) : Option (Int32) := lh_bd (f_LH_isDay x1) fun r1 => if r1 = 0 then some (-1) else lh_bd (f_LH_gap_9 a b x1 I lh_fuel 0 0) fun r7 => lh_bd (f_Ha_allCells a I) fun r9 => some (r9 &&& (r7 ^^^ (-1)))
theorem t_LH_gap_9 {Γ : lh_Cx} {F : lh_FF} {S : lh_SS} {Z : List Frame → Array Value → State → State → Prop} (hG : lh_GX Γ) (hS : lh_lay F S) {a : Nat} (ha : lh_hl F S a) (hA : F (0 + 4) 6 = a + 4) {b : Nat} (hb : lh_nl F S b) (hB : F (0 + 4) 8 = b + 4) {v1 : Int32} {I : lh_II} {L : lh_LL} : ∀ (n : Nat) (v2 : Int32) (v3 : Int32) (o : Int32), f_LH_gap_9 a b v1 I n v2 v3 = some o → ∀ (x0_ : lh_G Γ m_LH_gap (lh_R 3 0 0) Z 0 0 22 [(0, .ref (0 + 4)), (2, .int o)] [] (I, L, F, S)), lh_G Γ m_LH_gap (lh_R 3 0 0) Z 0 0 9 [(0, .ref (0 + 4)), (1, .int v1), (2, .int v2), (3, .int v3)] [] (I, L, F, S) := by
  intro n
  induction n with
  | zero => intro v2 v3 o hf; cases hf
  | succ n ih =>
    intro v2 v3 o hf x0_
    rw [f_LH_gap_9] at hf
    refine lh_iload_n (q := 3) rfl rfl rfl ?_
    refine lh_bipush rfl lh_b_8 ?_
    refine lh_icmp_ge rfl (fun c4 => ?_) (fun c4 => ?_)
    · have hf := lh_ifT hf c4
      exact lh_less [0, 2] rfl (by cases hf; exact x0_)
    · have hf := lh_ifF hf c4
      refine lh_iload_n (q := 2) rfl rfl rfl ?_
      refine lh_aload_n (q := 0) rfl rfl rfl ?_
      refine lh_getR4 rfl rfl (hS.1 0 _ rfl) rfl hA ?_
      refine lh_iload_n (q := 1) rfl rfl rfl ?_
      refine lh_iload_n (q := 3) rfl rfl rfl ?_
      refine lh_bdE hf (fun r5 e6 hf => ?_)
      refine lh_cVi (N := m_Ha_cellsWithSomebody) (d := 2) (o := a) (As := [.int v1, .int v3]) (st := [.int v2]) rfl rfl v_Ha_cellsWithSomebody (ha.1 0 _ rfl) rfl rfl rfl ⟨rfl, rfl⟩ rfl (t_Ha_cellsWithSomebody hG hS ha e6 ?_)
      refine lh_ior rfl ?_
      refine lh_istore_n (lv' := [(0, .ref (0 + 4)), (1, .int v1), (2, .int (v2 ||| r5)), (3, .int v3)]) rfl rfl rfl rfl ?_
      refine lh_iinc (q := 3) (v := (v3 + 1)) (lv' := [(0, .ref (0 + 4)), (1, .int v1), (2, .int (v2 ||| r5)), (3, .int (v3 + 1))]) rfl rfl (congrArg (v3 + ·) (by decide)) rfl rfl ?_
      refine lh_goto rfl ?_
      exact ih (v2 ||| r5) (v3 + 1) _ hf x0_
theorem t_LH_gap {Γ : lh_Cx} {I : lh_II} {L : lh_LL} {F : lh_FF} {S : lh_SS} {K : Int32 → lh_Hp → Prop} {r : Int32} (hG : lh_GX Γ) (hS : lh_lay F S) {a : Nat} (ha : lh_hl F S a) (hA : F (0 + 4) 6 = a + 4) {b : Nat} (hb : lh_nl F S b) (hB : F (0 + 4) 8 = b + 4) {x1 : Int32} (hf : f_LH_gap a b x1 I = some r) (hK : K r (I, L, F, S)) : lh_Met Γ m_LH_gap 3 0 0 [.ref (0 + 4), .int x1] (I, L, F, S) (lh_ki K) := by
  rw [f_LH_gap] at hf
  refine lh_ofG k_LH_gap [(0, .ref (0 + 4)), (1, .int x1)] rfl (Nat.le_of_ble_eq_true rfl) rfl ?_
  refine lh_iload_n (q := 1) rfl rfl rfl ?_
  refine lh_bdE hf (fun r1 e2 hf => ?_)
  refine lh_cSi (N := m_LH_isDay) (d := 0) (As := [.int x1]) (st := []) rfl rfl v_LH_isDay rfl rfl ⟨rfl, rfl⟩ rfl (t_LH_isDay hG hS e2 ?_)
  refine lh_if_ne rfl (fun c3 => ?_) (fun c3 => ?_)
  · have hf := lh_ifF hf c3
    refine lh_iconst rfl lh_k_0 ?_
    refine lh_istore_n (lv' := [(0, .ref (0 + 4)), (1, .int x1), (2, .int 0)]) rfl rfl rfl rfl ?_
    refine lh_iconst rfl lh_k_0 ?_
    refine lh_istore_n (lv' := [(0, .ref (0 + 4)), (1, .int x1), (2, .int 0), (3, .int 0)]) rfl rfl rfl rfl ?_
    refine lh_bdE hf (fun r7 e8 hf => ?_)
    refine t_LH_gap_9 hG hS ha hA hb hB _ 0 0 _ e8 ?_
    refine lh_aload_n (q := 0) rfl rfl rfl ?_
    refine lh_getR4 rfl rfl (hS.1 0 _ rfl) rfl hA ?_
    refine lh_bdE hf (fun r9 e10 hf => ?_)
    refine lh_cVi (N := m_Ha_allCells) (d := 0) (o := a) (As := []) (st := []) rfl rfl v_Ha_allCells (ha.1 0 _ rfl) rfl rfl rfl ⟨rfl, rfl⟩ rfl (t_Ha_allCells hG hS ha e10 ?_)
    refine lh_iload_n (q := 1) rfl rfl rfl ?_
    refine lh_iconst rfl lh_k_m1 ?_
    refine lh_ixor rfl ?_
    refine lh_iand rfl ?_
    exact lh_iret rfl rfl rfl (by obtain rfl := Option.some.inj hf; exact hK)
  · have hf := lh_ifT hf c3
    refine lh_iconst rfl lh_k_m1 ?_
    exact lh_iret rfl rfl rfl (by obtain rfl := Option.some.inj hf; exact hK)
