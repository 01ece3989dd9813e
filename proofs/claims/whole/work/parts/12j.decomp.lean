/-! decompiled by program: f_.. the functions, t_.. that the methods do as they say -/
def f_LH_payOf (x1 : Int32) (x2 : Int32) (x3 : Int32) (x4 : Int32) (x5 : Int32) : Option (Int32) := if x1 = 1 then if x2 = 1 then some x3 else some (-x4) else if x2 = 1 then some x5 else some 0
theorem t_LH_payOf {Γ : lh_Cx} {I : lh_II} {L : lh_LL} {F : lh_FF} {S : lh_SS} {K : Int32 → lh_Hp → Prop} {r : Int32} (hG : lh_GX Γ) (hS : lh_lay F S)  {x1 : Int32} {x2 : Int32} {x3 : Int32} {x4 : Int32} {x5 : Int32} (hf : f_LH_payOf x1 x2 x3 x4 x5 = some r) (hK : K r (I, L, F, S)) : lh_Met Γ m_LH_payOf 0 0 0 [.int x1, .int x2, .int x3, .int x4, .int x5] (I, L, F, S) (lh_ki K) := by
  rw [f_LH_payOf] at hf
  refine lh_ofG k_LH_payOf [(0, .int x1), (1, .int x2), (2, .int x3), (3, .int x4), (4, .int x5)] rfl (Nat.le_of_ble_eq_true rfl) rfl ?_
  refine lh_iload_n (q := 0) rfl rfl rfl ?_
  refine lh_iconst rfl lh_k_1 ?_
  refine lh_icmp_ne rfl (fun c1 => ?_) (fun c1 => ?_)
  · have hf := lh_ifF hf c1
    refine lh_iload_n (q := 1) rfl rfl rfl ?_
    refine lh_iconst rfl lh_k_1 ?_
    refine lh_icmp_ne rfl (fun c2 => ?_) (fun c2 => ?_)
    · have hf := lh_ifF hf c2
      refine lh_iconst rfl lh_k_0 ?_
      exact lh_iret rfl rfl rfl (by obtain rfl := Option.some.inj hf; exact hK)
    · have hf := lh_ifT hf c2
      refine lh_iload (q := 4) rfl rfl ?_
      refine lh_goto rfl ?_
      exact lh_iret rfl rfl rfl (by obtain rfl := Option.some.inj hf; exact hK)
  · have hf := lh_ifT hf c1
    refine lh_iload_n (q := 1) rfl rfl rfl ?_
    refine lh_iconst rfl lh_k_1 ?_
    refine lh_icmp_ne rfl (fun c3 => ?_) (fun c3 => ?_)
    · have hf := lh_ifF hf c3
      refine lh_iload_n (q := 3) rfl rfl rfl ?_
      refine lh_ineg rfl ?_
      exact lh_iret rfl rfl rfl (by obtain rfl := Option.some.inj hf; exact hK)
    · have hf := lh_ifT hf c3
      refine lh_iload_n (q := 2) rfl rfl rfl ?_
      refine lh_goto rfl ?_
      exact lh_iret rfl rfl rfl (by obtain rfl := Option.some.inj hf; exact hK)
def f_LH_isAtRest (x1 : Int32) (x2 : Int32) (x3 : Int32) (x4 : Int32) (x5 : Int32) : Option (Int32) := lh_bd (f_LH_payOf x1 x2 x3 x4 x5) fun r1 => lh_bd (f_LH_payOf (1 - x1) x2 x3 x4 x5) fun r3 => if r1 < r3 then some 0 else some 1
theorem t_LH_isAtRest {Γ : lh_Cx} {I : lh_II} {L : lh_LL} {F : lh_FF} {S : lh_SS} {K : Int32 → lh_Hp → Prop} {r : Int32} (hG : lh_GX Γ) (hS : lh_lay F S)  {x1 : Int32} {x2 : Int32} {x3 : Int32} {x4 : Int32} {x5 : Int32} (hf : f_LH_isAtRest x1 x2 x3 x4 x5 = some r) (hK : K r (I, L, F, S)) : lh_Met Γ m_LH_isAtRest 1 0 0 [.int x1, .int x2, .int x3, .int x4, .int x5] (I, L, F, S) (lh_ki K) := by
  rw [f_LH_isAtRest] at hf
  refine lh_ofG k_LH_isAtRest [(0, .int x1), (1, .int x2), (2, .int x3), (3, .int x4), (4, .int x5)] rfl (Nat.le_of_ble_eq_true rfl) rfl ?_
  refine lh_iload_n (q := 0) rfl rfl rfl ?_
  refine lh_iload_n (q := 1) rfl rfl rfl ?_
  refine lh_iload_n (q := 2) rfl rfl rfl ?_
  refine lh_iload_n (q := 3) rfl rfl rfl ?_
  refine lh_iload (q := 4) rfl rfl ?_
  refine lh_bdE hf (fun r1 e2 hf => ?_)
  refine lh_cSi (N := m_LH_payOf) (d := 0) (As := [.int x1, .int x2, .int x3, .int x4, .int x5]) (st := []) rfl rfl v_LH_payOf rfl rfl ⟨rfl, rfl⟩ rfl (t_LH_payOf hG hS e2 ?_)
  refine lh_iconst rfl lh_k_1 ?_
  refine lh_iload_n (q := 0) rfl rfl rfl ?_
  refine lh_isub rfl ?_
  refine lh_iload_n (q := 1) rfl rfl rfl ?_
  refine lh_iload_n (q := 2) rfl rfl rfl ?_
  refine lh_iload_n (q := 3) rfl rfl rfl ?_
  refine lh_iload (q := 4) rfl rfl ?_
  refine lh_bdE hf (fun r3 e4 hf => ?_)
  refine lh_cSi (N := m_LH_payOf) (d := 0) (As := [.int (1 - x1), .int x2, .int x3, .int x4, .int x5]) (st := [.int r1]) rfl rfl v_LH_payOf rfl rfl ⟨rfl, rfl⟩ rfl (t_LH_payOf hG hS e4 ?_)
  refine lh_icmp_lt rfl (fun c5 => ?_) (fun c5 => ?_)
  · have hf := lh_ifT hf c5
    refine lh_iconst rfl lh_k_0 ?_
    exact lh_iret rfl rfl (by decide) (by obtain rfl := Option.some.inj hf; exact hK)
  · have hf := lh_ifF hf c5
    refine lh_iconst rfl lh_k_1 ?_
    refine lh_goto rfl ?_
    exact lh_iret rfl rfl (by decide) (by obtain rfl := Option.some.inj hf; exact hK)
def f_LH_isPay (x1 : Int32) : Option (Int32) := if x1 < 0 then some 0 else if 9 < x1 then some 0 else some 1
theorem t_LH_isPay {Γ : lh_Cx} {I : lh_II} {L : lh_LL} {F : lh_FF} {S : lh_SS} {K : Int32 → lh_Hp → Prop} {r : Int32} (hG : lh_GX Γ) (hS : lh_lay F S)  {x1 : Int32} (hf : f_LH_isPay x1 = some r) (hK : K r (I, L, F, S)) : lh_Met Γ m_LH_isPay 0 0 0 [.int x1] (I, L, F, S) (lh_ki K) := by
  rw [f_LH_isPay] at hf
  refine lh_ofG k_LH_isPay [(0, .int x1)] rfl (Nat.le_of_ble_eq_true rfl) rfl ?_
  refine lh_iload_n (q := 0) rfl rfl rfl ?_
  refine lh_if_lt rfl (fun c1 => ?_) (fun c1 => ?_)
  · have hf := lh_ifT hf c1
    refine lh_iconst rfl lh_k_0 ?_
    exact lh_iret rfl rfl (by decide) (by obtain rfl := Option.some.inj hf; exact hK)
  · have hf := lh_ifF hf c1
    refine lh_iload_n (q := 0) rfl rfl rfl ?_
    refine lh_bipush rfl lh_b_9 ?_
    refine lh_icmp_gt rfl (fun c2 => ?_) (fun c2 => ?_)
    · have hf := lh_ifT hf c2
      refine lh_iconst rfl lh_k_0 ?_
      exact lh_iret rfl rfl (by decide) (by obtain rfl := Option.some.inj hf; exact hK)
    · have hf := lh_ifF hf c2
      refine lh_iconst rfl lh_k_1 ?_
      refine lh_goto rfl ?_
      exact lh_iret rfl rfl (by decide) (by obtain rfl := Option.some.inj hf; exact hK)
def f_LH_isWay (x1 : Int32) : Option (Int32) := if x1 < (-1) then some 0 else if 1 < x1 then some 0 else some 1
theorem t_LH_isWay {Γ : lh_Cx} {I : lh_II} {L : lh_LL} {F : lh_FF} {S : lh_SS} {K : Int32 → lh_Hp → Prop} {r : Int32} (hG : lh_GX Γ) (hS : lh_lay F S)  {x1 : Int32} (hf : f_LH_isWay x1 = some r) (hK : K r (I, L, F, S)) : lh_Met Γ m_LH_isWay 0 0 0 [.int x1] (I, L, F, S) (lh_ki K) := by
  rw [f_LH_isWay] at hf
  refine lh_ofG k_LH_isWay [(0, .int x1)] rfl (Nat.le_of_ble_eq_true rfl) rfl ?_
  refine lh_iload_n (q := 0) rfl rfl rfl ?_
  refine lh_iconst rfl lh_k_m1 ?_
  refine lh_icmp_lt rfl (fun c1 => ?_) (fun c1 => ?_)
  · have hf := lh_ifT hf c1
    refine lh_iconst rfl lh_k_0 ?_
    exact lh_iret rfl rfl (by decide) (by obtain rfl := Option.some.inj hf; exact hK)
  · have hf := lh_ifF hf c1
    refine lh_iload_n (q := 0) rfl rfl rfl ?_
    refine lh_iconst rfl lh_k_1 ?_
    refine lh_icmp_gt rfl (fun c2 => ?_) (fun c2 => ?_)
    · have hf := lh_ifT hf c2
      refine lh_iconst rfl lh_k_0 ?_
      exact lh_iret rfl rfl (by decide) (by obtain rfl := Option.some.inj hf; exact hK)
    · have hf := lh_ifF hf c2
      refine lh_iconst rfl lh_k_1 ?_
      refine lh_goto rfl ?_
      exact lh_iret rfl rfl (by decide) (by obtain rfl := Option.some.inj hf; exact hK)
def f_Ni_play_8 (b : Nat) (a : Nat) (m : Nat) : Nat → Int32 → lh_II → Option (lh_II)
  | 0, _, _ => none
  | n + 1, v3, I => if (I (b + 4) 2) ≤ v3 then some I else if 40 ≤ v3 then some I else lh_gd (lh_ix v3 40) (if (I (b + 1 + 4) v3.toNatClampNeg) = 15 then lh_gd (lh_ix v3 40) (lh_bd (f_Mo_fillBy m (I (b + 2 + 4) v3.toNatClampNeg) I) fun r26 => f_Ni_play_8 b a m n (v3 + 1) r26) else if (I (b + 1 + 4) v3.toNatClampNeg) = 14 then if (I (m + 4) 3) < 2 then if (I (b + 4) 3) = (-1) then f_Ni_play_8 b a m n (v3 + 1) (lh_u2 I (b + 4) 3 v3) else f_Ni_play_8 b a m n (v3 + 1) I else lh_gd (lh_ix v3 40) (lh_bd (f_Mo_trimTo m (I (b + 2 + 4) v3.toNatClampNeg) I) fun r9 => f_Ni_play_8 b a m n (v3 + 1) r9) else if (I (b + 1 + 4) v3.toNatClampNeg) = 3 then lh_bd (f_Ha_walk a m (1 : Int32) I) fun r21 => if r21.1 ≤ 0 then f_Ni_play_8 b a m n (v3 + 1) r21.2 else if (r21.2 (b + 4) 4) = (-1) then f_Ni_play_8 b a m n (v3 + 1) (lh_u2 r21.2 (b + 4) 4 v3) else f_Ni_play_8 b a m n (v3 + 1) r21.2 else if (I (b + 1 + 4) v3.toNatClampNeg) = 12 then lh_bd (f_Ha_walk a m ((-1) : Int32) I) fun r17 => if r17.1 ≤ 0 then f_Ni_play_8 b a m n (v3 + 1) r17.2 else if (r17.2 (b + 4) 4) = (-1) then f_Ni_play_8 b a m n (v3 + 1) (lh_u2 r17.2 (b + 4) 4 v3) else f_Ni_play_8 b a m n (v3 + 1) r17.2 else lh_bd (f_Ha_walk a m (0 : Int32) I) fun r13 => if r13.1 ≤ 0 then f_Ni_play_8 b a m n (v3 + 1) r13.2 else if (r13.2 (b + 4) 4) = (-1) then f_Ni_play_8 b a m n (v3 + 1) (lh_u2 r13.2 (b + 4) 4 v3) else f_Ni_play_8 b a m n (v3 + 1) r13.2)
def f_Ni_play (b : Nat) (a : Nat) (m : Nat) (I : lh_II) : Option (lh_II) := lh_bd (f_Ni_play_8 b a m lh_fuel 0 (lh_u2 (lh_u2 I (b + 4) 3 (-1)) (b + 4) 4 (-1))) fun r28 => some r28
theorem t_Ni_play_8 {Γ : lh_Cx} {F : lh_FF} {S : lh_SS} {Z : List Frame → Array Value → State → State → Prop} (hG : lh_GX Γ) (hS : lh_lay F S) {b : Nat} (hb : lh_nl F S b) {a : Nat} (ha : lh_hl F S a) {m : Nat} (hm : S[m]? = some (10, 0))  {L : lh_LL} : ∀ (n : Nat) (v3 : Int32) (I : lh_II) (o : lh_II), f_Ni_play_8 b a m n v3 I = some o → ∀ (x0_ : lh_G Γ m_Ni_play (lh_R 6 0 0) Z 0 0 78 [] [] (o, L, F, S)), lh_G Γ m_Ni_play (lh_R 6 0 0) Z 0 0 8 [(0, .ref (b + 4)), (1, .ref (a + 4)), (2, .ref (m + 4)), (3, .int v3)] [] (I, L, F, S) := by
  intro n
  induction n with
  | zero => intro v3 I o hf; cases hf
  | succ n ih =>
    intro v3 I o hf x0_
    rw [f_Ni_play_8] at hf
    refine lh_iload_n (q := 3) rfl rfl rfl ?_
    refine lh_aload_n (q := 0) rfl rfl rfl ?_
    refine lh_getI4 rfl rfl (hb.1 0 _ rfl) rfl ?_
    refine lh_icmp_ge rfl (fun c1 => ?_) (fun c1 => ?_)
    · have hf := lh_ifT hf c1
      exact lh_less [] rfl (by cases hf; exact x0_)
    · have hf := lh_ifF hf c1
      refine lh_iload_n (q := 3) rfl rfl rfl ?_
      refine lh_bipush rfl lh_b_40 ?_
      refine lh_icmp_ge rfl (fun c2 => ?_) (fun c2 => ?_)
      · have hf := lh_ifT hf c2
        exact lh_less [] rfl (by cases hf; exact x0_)
      · have hf := lh_ifF hf c2
        refine lh_aload_n (q := 0) rfl rfl rfl ?_
        refine lh_getR4 rfl rfl (hb.1 0 _ rfl) rfl (hb.2 0 _ rfl) ?_
        refine lh_iload_n (q := 3) rfl rfl rfl ?_
        obtain ⟨g3, hf⟩ := lh_gdE hf
        refine lh_iald4 rfl (hb.1 1 _ rfl) g3 ?_
        refine lh_istore (lv' := [(0, .ref (b + 4)), (1, .ref (a + 4)), (2, .ref (m + 4)), (3, .int v3), (4, .int (I (b + 1 + 4) v3.toNatClampNeg))]) rfl rfl rfl ?_
        refine lh_iload (q := 4) rfl rfl ?_
        refine lh_bipush rfl lh_b_15 ?_
        refine lh_icmp_ne rfl (fun c4 => ?_) (fun c4 => ?_)
        · have hf := lh_ifF hf c4
          refine lh_iload (q := 4) rfl rfl ?_
          refine lh_bipush rfl lh_b_14 ?_
          refine lh_icmp_eq rfl (fun c5 => ?_) (fun c5 => ?_)
          · have hf := lh_ifT hf c5
            refine lh_aload_n (q := 2) rfl rfl rfl ?_
            refine lh_getI4 rfl rfl hm rfl ?_
            refine lh_iconst rfl lh_k_2 ?_
            refine lh_icmp_lt rfl (fun c6 => ?_) (fun c6 => ?_)
            · have hf := lh_ifT hf c6
              refine lh_aload_n (q := 0) rfl rfl rfl ?_
              refine lh_getI4 rfl rfl (hb.1 0 _ rfl) rfl ?_
              refine lh_iconst rfl lh_k_m1 ?_
              refine lh_icmp_ne rfl (fun c7 => ?_) (fun c7 => ?_)
              · have hf := lh_ifF hf c7
                refine lh_iinc (q := 3) (v := (v3 + 1)) (lv' := [(0, .ref (b + 4)), (1, .ref (a + 4)), (2, .ref (m + 4)), (3, .int (v3 + 1)), (4, .int (I (b + 1 + 4) v3.toNatClampNeg))]) rfl rfl (congrArg (v3 + ·) (by decide)) rfl rfl ?_
                refine lh_goto rfl ?_
                refine lh_less [0, 1, 2, 3] rfl ?_
                exact ih (v3 + 1) I _ hf x0_
              · have hf := lh_ifT hf c7
                refine lh_aload_n (q := 0) rfl rfl rfl ?_
                refine lh_iload_n (q := 3) rfl rfl rfl ?_
                refine lh_putI4 rfl rfl (hb.1 0 _ rfl) rfl rfl ?_
                refine lh_iinc (q := 3) (v := (v3 + 1)) (lv' := [(0, .ref (b + 4)), (1, .ref (a + 4)), (2, .ref (m + 4)), (3, .int (v3 + 1)), (4, .int (I (b + 1 + 4) v3.toNatClampNeg))]) rfl rfl (congrArg (v3 + ·) (by decide)) rfl rfl ?_
                refine lh_goto rfl ?_
                refine lh_less [0, 1, 2, 3] rfl ?_
                exact ih (v3 + 1) (lh_u2 I (b + 4) 3 v3) _ hf x0_
            · have hf := lh_ifF hf c6
              refine lh_aload_n (q := 2) rfl rfl rfl ?_
              refine lh_aload_n (q := 0) rfl rfl rfl ?_
              refine lh_getR4 rfl rfl (hb.1 0 _ rfl) rfl (hb.2 1 _ rfl) ?_
              refine lh_iload_n (q := 3) rfl rfl rfl ?_
              obtain ⟨g8, hf⟩ := lh_gdE hf
              refine lh_iald4 rfl (hb.1 2 _ rfl) g8 ?_
              refine lh_bdE hf (fun r9 e10 hf => ?_)
              refine lh_cVv (N := m_Mo_trimTo) (d := 0) (o := m) (As := [.int (I (b + 2 + 4) v3.toNatClampNeg)]) (st := []) rfl rfl v_Mo_trimTo hm rfl rfl rfl ⟨rfl, rfl⟩ rfl (t_Mo_trimTo hG hS hm e10 ?_)
              refine lh_goto rfl ?_
              refine lh_iinc (q := 3) (v := (v3 + 1)) (lv' := [(0, .ref (b + 4)), (1, .ref (a + 4)), (2, .ref (m + 4)), (3, .int (v3 + 1)), (4, .int (I (b + 1 + 4) v3.toNatClampNeg))]) rfl rfl (congrArg (v3 + ·) (by decide)) rfl rfl ?_
              refine lh_goto rfl ?_
              refine lh_less [0, 1, 2, 3] rfl ?_
              exact ih (v3 + 1) r9 _ hf x0_
          · have hf := lh_ifF hf c5
            refine lh_aload_n (q := 1) rfl rfl rfl ?_
            refine lh_aload_n (q := 2) rfl rfl rfl ?_
            refine lh_iload (q := 4) rfl rfl ?_
            refine lh_iconst rfl lh_k_3 ?_
            refine lh_icmp_ne rfl (fun c11 => ?_) (fun c11 => ?_)
            · have hf := lh_ifF hf c11
              refine lh_iload (q := 4) rfl rfl ?_
              refine lh_bipush rfl lh_b_12 ?_
              refine lh_icmp_ne rfl (fun c12 => ?_) (fun c12 => ?_)
              · have hf := lh_ifF hf c12
                refine lh_iconst rfl lh_k_0 ?_
                refine lh_bdE hf (fun r13 e14 hf => ?_)
                refine lh_cVi (N := m_Ha_walk) (d := 5) (o := a) (As := [.ref (m + 4), .int 0]) (st := []) rfl rfl v_Ha_walk (ha.1 0 _ rfl) rfl rfl rfl ⟨rfl, rfl⟩ rfl (t_Ha_walk hG hS ha hm e14 ?_)
                refine lh_istore (lv' := [(0, .ref (b + 4)), (1, .ref (a + 4)), (2, .ref (m + 4)), (3, .int v3), (4, .int (I (b + 1 + 4) v3.toNatClampNeg)), (5, .int r13.1)]) rfl rfl rfl ?_
                refine lh_iload (q := 5) rfl rfl ?_
                refine lh_if_le rfl (fun c15 => ?_) (fun c15 => ?_)
                · have hf := lh_ifT hf c15
                  refine lh_goto rfl ?_
                  refine lh_iinc (q := 3) (v := (v3 + 1)) (lv' := [(0, .ref (b + 4)), (1, .ref (a + 4)), (2, .ref (m + 4)), (3, .int (v3 + 1)), (4, .int (I (b + 1 + 4) v3.toNatClampNeg)), (5, .int r13.1)]) rfl rfl (congrArg (v3 + ·) (by decide)) rfl rfl ?_
                  refine lh_goto rfl ?_
                  refine lh_less [0, 1, 2, 3] rfl ?_
                  exact ih (v3 + 1) r13.2 _ hf x0_
                · have hf := lh_ifF hf c15
                  refine lh_aload_n (q := 0) rfl rfl rfl ?_
                  refine lh_getI4 rfl rfl (hb.1 0 _ rfl) rfl ?_
                  refine lh_iconst rfl lh_k_m1 ?_
                  refine lh_icmp_ne rfl (fun c16 => ?_) (fun c16 => ?_)
                  · have hf := lh_ifF hf c16
                    refine lh_goto rfl ?_
                    refine lh_iinc (q := 3) (v := (v3 + 1)) (lv' := [(0, .ref (b + 4)), (1, .ref (a + 4)), (2, .ref (m + 4)), (3, .int (v3 + 1)), (4, .int (I (b + 1 + 4) v3.toNatClampNeg)), (5, .int r13.1)]) rfl rfl (congrArg (v3 + ·) (by decide)) rfl rfl ?_
                    refine lh_goto rfl ?_
                    refine lh_less [0, 1, 2, 3] rfl ?_
                    exact ih (v3 + 1) r13.2 _ hf x0_
                  · have hf := lh_ifT hf c16
                    refine lh_aload_n (q := 0) rfl rfl rfl ?_
                    refine lh_iload_n (q := 3) rfl rfl rfl ?_
                    refine lh_putI4 rfl rfl (hb.1 0 _ rfl) rfl rfl ?_
                    refine lh_goto rfl ?_
                    refine lh_iinc (q := 3) (v := (v3 + 1)) (lv' := [(0, .ref (b + 4)), (1, .ref (a + 4)), (2, .ref (m + 4)), (3, .int (v3 + 1)), (4, .int (I (b + 1 + 4) v3.toNatClampNeg)), (5, .int r13.1)]) rfl rfl (congrArg (v3 + ·) (by decide)) rfl rfl ?_
                    refine lh_goto rfl ?_
                    refine lh_less [0, 1, 2, 3] rfl ?_
                    exact ih (v3 + 1) (lh_u2 r13.2 (b + 4) 4 v3) _ hf x0_
              · have hf := lh_ifT hf c12
                refine lh_iconst rfl lh_k_m1 ?_
                refine lh_goto rfl ?_
                refine lh_bdE hf (fun r17 e18 hf => ?_)
                refine lh_cVi (N := m_Ha_walk) (d := 5) (o := a) (As := [.ref (m + 4), .int (-1)]) (st := []) rfl rfl v_Ha_walk (ha.1 0 _ rfl) rfl rfl rfl ⟨rfl, rfl⟩ rfl (t_Ha_walk hG hS ha hm e18 ?_)
                refine lh_istore (lv' := [(0, .ref (b + 4)), (1, .ref (a + 4)), (2, .ref (m + 4)), (3, .int v3), (4, .int (I (b + 1 + 4) v3.toNatClampNeg)), (5, .int r17.1)]) rfl rfl rfl ?_
                refine lh_iload (q := 5) rfl rfl ?_
                refine lh_if_le rfl (fun c19 => ?_) (fun c19 => ?_)
                · have hf := lh_ifT hf c19
                  refine lh_goto rfl ?_
                  refine lh_iinc (q := 3) (v := (v3 + 1)) (lv' := [(0, .ref (b + 4)), (1, .ref (a + 4)), (2, .ref (m + 4)), (3, .int (v3 + 1)), (4, .int (I (b + 1 + 4) v3.toNatClampNeg)), (5, .int r17.1)]) rfl rfl (congrArg (v3 + ·) (by decide)) rfl rfl ?_
                  refine lh_goto rfl ?_
                  refine lh_less [0, 1, 2, 3] rfl ?_
                  exact ih (v3 + 1) r17.2 _ hf x0_
                · have hf := lh_ifF hf c19
                  refine lh_aload_n (q := 0) rfl rfl rfl ?_
                  refine lh_getI4 rfl rfl (hb.1 0 _ rfl) rfl ?_
                  refine lh_iconst rfl lh_k_m1 ?_
                  refine lh_icmp_ne rfl (fun c20 => ?_) (fun c20 => ?_)
                  · have hf := lh_ifF hf c20
                    refine lh_goto rfl ?_
                    refine lh_iinc (q := 3) (v := (v3 + 1)) (lv' := [(0, .ref (b + 4)), (1, .ref (a + 4)), (2, .ref (m + 4)), (3, .int (v3 + 1)), (4, .int (I (b + 1 + 4) v3.toNatClampNeg)), (5, .int r17.1)]) rfl rfl (congrArg (v3 + ·) (by decide)) rfl rfl ?_
                    refine lh_goto rfl ?_
                    refine lh_less [0, 1, 2, 3] rfl ?_
                    exact ih (v3 + 1) r17.2 _ hf x0_
                  · have hf := lh_ifT hf c20
                    refine lh_aload_n (q := 0) rfl rfl rfl ?_
                    refine lh_iload_n (q := 3) rfl rfl rfl ?_
                    refine lh_putI4 rfl rfl (hb.1 0 _ rfl) rfl rfl ?_
                    refine lh_goto rfl ?_
                    refine lh_iinc (q := 3) (v := (v3 + 1)) (lv' := [(0, .ref (b + 4)), (1, .ref (a + 4)), (2, .ref (m + 4)), (3, .int (v3 + 1)), (4, .int (I (b + 1 + 4) v3.toNatClampNeg)), (5, .int r17.1)]) rfl rfl (congrArg (v3 + ·) (by decide)) rfl rfl ?_
                    refine lh_goto rfl ?_
                    refine lh_less [0, 1, 2, 3] rfl ?_
                    exact ih (v3 + 1) (lh_u2 r17.2 (b + 4) 4 v3) _ hf x0_
            · have hf := lh_ifT hf c11
              refine lh_iconst rfl lh_k_1 ?_
              refine lh_goto rfl ?_
              refine lh_bdE hf (fun r21 e22 hf => ?_)
              refine lh_cVi (N := m_Ha_walk) (d := 5) (o := a) (As := [.ref (m + 4), .int 1]) (st := []) rfl rfl v_Ha_walk (ha.1 0 _ rfl) rfl rfl rfl ⟨rfl, rfl⟩ rfl (t_Ha_walk hG hS ha hm e22 ?_)
              refine lh_istore (lv' := [(0, .ref (b + 4)), (1, .ref (a + 4)), (2, .ref (m + 4)), (3, .int v3), (4, .int (I (b + 1 + 4) v3.toNatClampNeg)), (5, .int r21.1)]) rfl rfl rfl ?_
              refine lh_iload (q := 5) rfl rfl ?_
              refine lh_if_le rfl (fun c23 => ?_) (fun c23 => ?_)
              · have hf := lh_ifT hf c23
                refine lh_goto rfl ?_
                refine lh_iinc (q := 3) (v := (v3 + 1)) (lv' := [(0, .ref (b + 4)), (1, .ref (a + 4)), (2, .ref (m + 4)), (3, .int (v3 + 1)), (4, .int (I (b + 1 + 4) v3.toNatClampNeg)), (5, .int r21.1)]) rfl rfl (congrArg (v3 + ·) (by decide)) rfl rfl ?_
                refine lh_goto rfl ?_
                refine lh_less [0, 1, 2, 3] rfl ?_
                exact ih (v3 + 1) r21.2 _ hf x0_
              · have hf := lh_ifF hf c23
                refine lh_aload_n (q := 0) rfl rfl rfl ?_
                refine lh_getI4 rfl rfl (hb.1 0 _ rfl) rfl ?_
                refine lh_iconst rfl lh_k_m1 ?_
                refine lh_icmp_ne rfl (fun c24 => ?_) (fun c24 => ?_)
                · have hf := lh_ifF hf c24
                  refine lh_goto rfl ?_
                  refine lh_iinc (q := 3) (v := (v3 + 1)) (lv' := [(0, .ref (b + 4)), (1, .ref (a + 4)), (2, .ref (m + 4)), (3, .int (v3 + 1)), (4, .int (I (b + 1 + 4) v3.toNatClampNeg)), (5, .int r21.1)]) rfl rfl (congrArg (v3 + ·) (by decide)) rfl rfl ?_
                  refine lh_goto rfl ?_
                  refine lh_less [0, 1, 2, 3] rfl ?_
                  exact ih (v3 + 1) r21.2 _ hf x0_
                · have hf := lh_ifT hf c24
                  refine lh_aload_n (q := 0) rfl rfl rfl ?_
                  refine lh_iload_n (q := 3) rfl rfl rfl ?_
                  refine lh_putI4 rfl rfl (hb.1 0 _ rfl) rfl rfl ?_
                  refine lh_goto rfl ?_
                  refine lh_iinc (q := 3) (v := (v3 + 1)) (lv' := [(0, .ref (b + 4)), (1, .ref (a + 4)), (2, .ref (m + 4)), (3, .int (v3 + 1)), (4, .int (I (b + 1 + 4) v3.toNatClampNeg)), (5, .int r21.1)]) rfl rfl (congrArg (v3 + ·) (by decide)) rfl rfl ?_
                  refine lh_goto rfl ?_
                  refine lh_less [0, 1, 2, 3] rfl ?_
                  exact ih (v3 + 1) (lh_u2 r21.2 (b + 4) 4 v3) _ hf x0_
        · have hf := lh_ifT hf c4
          refine lh_aload_n (q := 2) rfl rfl rfl ?_
          refine lh_aload_n (q := 0) rfl rfl rfl ?_
          refine lh_getR4 rfl rfl (hb.1 0 _ rfl) rfl (hb.2 1 _ rfl) ?_
          refine lh_iload_n (q := 3) rfl rfl rfl ?_
          obtain ⟨g25, hf⟩ := lh_gdE hf
          refine lh_iald4 rfl (hb.1 2 _ rfl) g25 ?_
          refine lh_bdE hf (fun r26 e27 hf => ?_)
          refine lh_cVv (N := m_Mo_fillBy) (d := 1) (o := m) (As := [.int (I (b + 2 + 4) v3.toNatClampNeg)]) (st := []) rfl rfl v_Mo_fillBy hm rfl rfl rfl ⟨rfl, rfl⟩ rfl (t_Mo_fillBy hG hS hm e27 ?_)
          refine lh_goto rfl ?_
          refine lh_iinc (q := 3) (v := (v3 + 1)) (lv' := [(0, .ref (b + 4)), (1, .ref (a + 4)), (2, .ref (m + 4)), (3, .int (v3 + 1)), (4, .int (I (b + 1 + 4) v3.toNatClampNeg))]) rfl rfl (congrArg (v3 + ·) (by decide)) rfl rfl ?_
          refine lh_goto rfl ?_
          refine lh_less [0, 1, 2, 3] rfl ?_
          exact ih (v3 + 1) r26 _ hf x0_
theorem t_Ni_play {Γ : lh_Cx} {I : lh_II} {L : lh_LL} {F : lh_FF} {S : lh_SS} {K : lh_Hp → Prop} {r : lh_II} (hG : lh_GX Γ) (hS : lh_lay F S) {b : Nat} (hb : lh_nl F S b) {a : Nat} (ha : lh_hl F S a) {m : Nat} (hm : S[m]? = some (10, 0)) (hf : f_Ni_play b a m I = some r) (hK : K (r, L, F, S)) : lh_Met Γ m_Ni_play 6 0 0 [.ref (b + 4), .ref (a + 4), .ref (m + 4)] (I, L, F, S) (lh_kv K) := by
  rw [f_Ni_play] at hf
  refine lh_ofG k_Ni_play [(0, .ref (b + 4)), (1, .ref (a + 4)), (2, .ref (m + 4))] rfl (Nat.le_of_ble_eq_true rfl) rfl ?_
  refine lh_aload_n (q := 0) rfl rfl rfl ?_
  refine lh_iconst rfl lh_k_m1 ?_
  refine lh_putI4 rfl rfl (hb.1 0 _ rfl) rfl rfl ?_
  refine lh_aload_n (q := 0) rfl rfl rfl ?_
  refine lh_iconst rfl lh_k_m1 ?_
  refine lh_putI4 rfl rfl (hb.1 0 _ rfl) rfl rfl ?_
  refine lh_iconst rfl lh_k_0 ?_
  refine lh_istore_n (lv' := [(0, .ref (b + 4)), (1, .ref (a + 4)), (2, .ref (m + 4)), (3, .int 0)]) rfl rfl rfl rfl ?_
  refine lh_bdE hf (fun r28 e29 hf => ?_)
  refine t_Ni_play_8 hG hS hb ha hm _ 0 (lh_u2 (lh_u2 I (b + 4) 3 (-1)) (b + 4) 4 (-1)) _ e29 ?_
  exact lh_vret rfl rfl (by obtain rfl := Option.some.inj hf; exact hK)
def f_LH_judged (a : Nat) (b : Nat) (x1 : Int32) (I : lh_II) : Option (Int32 × lh_II) := if x1 < 0 then some ((-2), I) else if x1 ≤ 2 then lh_bd (f_Mo_begin 8 a I) fun r3 => lh_bd (f_Ni_play b a 8 r3) fun r5 => if x1 = 0 then some ((r5 (b + 4) 3), r5) else if x1 = 1 then some ((r5 (b + 4) 4), r5) else some ((r5 (8 + 4) 6), r5) else some ((-2), I)
theorem t_LH_judged {Γ : lh_Cx} {I : lh_II} {L : lh_LL} {F : lh_FF} {S : lh_SS} {K : Int32 → lh_Hp → Prop} {r : Int32 × lh_II} (hG : lh_GX Γ) (hS : lh_lay F S) {a : Nat} (ha : lh_hl F S a) (hA : F (0 + 4) 6 = a + 4) {b : Nat} (hb : lh_nl F S b) (hB : F (0 + 4) 8 = b + 4) {x1 : Int32} (hf : f_LH_judged a b x1 I = some r) (hK : K r.1 (r.2, L, F, S)) : lh_Met Γ m_LH_judged 7 0 0 [.ref (0 + 4), .int x1] (I, L, F, S) (lh_ki K) := by
  rw [f_LH_judged] at hf
  refine lh_ofG k_LH_judged [(0, .ref (0 + 4)), (1, .int x1)] rfl (Nat.le_of_ble_eq_true rfl) rfl ?_
  refine lh_iload_n (q := 1) rfl rfl rfl ?_
  refine lh_if_lt rfl (fun c1 => ?_) (fun c1 => ?_)
  · have hf := lh_ifT hf c1
    refine lh_bipush rfl lh_b_m2 ?_
    exact lh_iret rfl rfl rfl (by obtain rfl := Option.some.inj hf; exact hK)
  · have hf := lh_ifF hf c1
    refine lh_iload_n (q := 1) rfl rfl rfl ?_
    refine lh_iconst rfl lh_k_2 ?_
    refine lh_icmp_le rfl (fun c2 => ?_) (fun c2 => ?_)
    · have hf := lh_ifT hf c2
      refine lh_aload_n (q := 0) rfl rfl rfl ?_
      refine lh_getR4 rfl rfl (hS.1 0 _ rfl) rfl (hS.2 11 _ rfl) ?_
      refine lh_aload_n (q := 0) rfl rfl rfl ?_
      refine lh_getR4 rfl rfl (hS.1 0 _ rfl) rfl hA ?_
      refine lh_bdE hf (fun r3 e4 hf => ?_)
      refine lh_cVv (N := m_Mo_begin) (d := 0) (o := 8) (As := [.ref (a + 4)]) (st := []) rfl rfl v_Mo_begin (hS.1 8 _ rfl) rfl rfl rfl ⟨rfl, rfl⟩ rfl (t_Mo_begin hG hS (hS.1 8 _ rfl) ha e4 ?_)
      refine lh_aload_n (q := 0) rfl rfl rfl ?_
      refine lh_getR4 rfl rfl (hS.1 0 _ rfl) rfl hB ?_
      refine lh_aload_n (q := 0) rfl rfl rfl ?_
      refine lh_getR4 rfl rfl (hS.1 0 _ rfl) rfl hA ?_
      refine lh_aload_n (q := 0) rfl rfl rfl ?_
      refine lh_getR4 rfl rfl (hS.1 0 _ rfl) rfl (hS.2 11 _ rfl) ?_
      refine lh_bdE hf (fun r5 e6 hf => ?_)
      refine lh_cVv (N := m_Ni_play) (d := 6) (o := b) (As := [.ref (a + 4), .ref (8 + 4)]) (st := []) rfl rfl v_Ni_play (hb.1 0 _ rfl) rfl rfl rfl ⟨rfl, rfl⟩ rfl (t_Ni_play hG hS hb ha (hS.1 8 _ rfl) e6 ?_)
      refine lh_iload_n (q := 1) rfl rfl rfl ?_
      refine lh_if_ne rfl (fun c7 => ?_) (fun c7 => ?_)
      · have hf := lh_ifF hf c7
        refine lh_iload_n (q := 1) rfl rfl rfl ?_
        refine lh_iconst rfl lh_k_1 ?_
        refine lh_icmp_ne rfl (fun c8 => ?_) (fun c8 => ?_)
        · have hf := lh_ifF hf c8
          refine lh_aload_n (q := 0) rfl rfl rfl ?_
          refine lh_getR4 rfl rfl (hS.1 0 _ rfl) rfl (hS.2 11 _ rfl) ?_
          refine lh_getI4 rfl rfl (hS.1 8 _ rfl) rfl ?_
          exact lh_iret rfl rfl rfl (by obtain rfl := Option.some.inj hf; exact hK)
        · have hf := lh_ifT hf c8
          refine lh_aload_n (q := 0) rfl rfl rfl ?_
          refine lh_getR4 rfl rfl (hS.1 0 _ rfl) rfl hB ?_
          refine lh_getI4 rfl rfl (hb.1 0 _ rfl) rfl ?_
          refine lh_goto rfl ?_
          exact lh_iret rfl rfl rfl (by obtain rfl := Option.some.inj hf; exact hK)
      · have hf := lh_ifT hf c7
        refine lh_aload_n (q := 0) rfl rfl rfl ?_
        refine lh_getR4 rfl rfl (hS.1 0 _ rfl) rfl hB ?_
        refine lh_getI4 rfl rfl (hb.1 0 _ rfl) rfl ?_
        exact lh_iret rfl rfl rfl (by obtain rfl := Option.some.inj hf; exact hK)
    · have hf := lh_ifF hf c2
      refine lh_bipush rfl lh_b_m2 ?_
      exact lh_iret rfl rfl rfl (by obtain rfl := Option.some.inj hf; exact hK)
def f_LH_light (a : Nat) (b : Nat) (I : lh_II) : Option (Int32) := lh_bd (f_Ha_litBy a 7 I) fun r1 => some r1
theorem t_LH_light {Γ : lh_Cx} {I : lh_II} {L : lh_LL} {F : lh_FF} {S : lh_SS} {K : Int32 → lh_Hp → Prop} {r : Int32} (hG : lh_GX Γ) (hS : lh_lay F S) {a : Nat} (ha : lh_hl F S a) (hA : F (0 + 4) 6 = a + 4) {b : Nat} (hb : lh_nl F S b) (hB : F (0 + 4) 8 = b + 4) (hf : f_LH_light a b I = some r) (hK : K r (I, L, F, S)) : lh_Met Γ m_LH_light 3 0 0 [.ref (0 + 4)] (I, L, F, S) (lh_ki K) := by
  rw [f_LH_light] at hf
  refine lh_ofG k_LH_light [(0, .ref (0 + 4))] rfl (Nat.le_of_ble_eq_true rfl) rfl ?_
  refine lh_aload_n (q := 0) rfl rfl rfl ?_
  refine lh_getR4 rfl rfl (hS.1 0 _ rfl) rfl hA ?_
  refine lh_aload_n (q := 0) rfl rfl rfl ?_
  refine lh_getR4 rfl rfl (hS.1 0 _ rfl) rfl (hS.2 10 _ rfl) ?_
  refine lh_bdE hf (fun r1 e2 hf => ?_)
  refine lh_cVi (N := m_Ha_litBy) (d := 2) (o := a) (As := [.ref (7 + 4)]) (st := []) rfl rfl v_Ha_litBy (ha.1 0 _ rfl) rfl rfl rfl ⟨rfl, rfl⟩ rfl (t_Ha_litBy hG hS ha (hS.1 7 _ rfl) e2 ?_)
  exact lh_iret rfl rfl rfl (by obtain rfl := Option.some.inj hf; exact hK)
def f_LH_lonely_11 (a : Nat) (b : Nat) (v1 : Int32) (I : lh_II) : Nat → Int32 → Int32 → Int32 → Option (Int32)
  | 0, _, _, _ => none
  | n + 1, v2, v3, v4 => if 8 ≤ v4 then some v2 else lh_bd (f_Ha_whoIsThere a v1 v4 I) fun r5 => lh_bd (f_Int_bitCount r5) fun r7 => if v3 ≤ r7 then f_LH_lonely_11 a b v1 I n v2 v3 (v4 + 1) else f_LH_lonely_11 a b v1 I n v4 r7 (v4 + 1)
def f_LH_lonely (a : Nat) (b : Nat) (x1 : Int32) (I : lh_II) : Option (Int32) := lh_bd (f_LH_isDay x1) fun r1 => if r1 = 0 then some (-1) else lh_bd (f_LH_lonely_11 a b x1 I lh_fuel 0 7 0) fun r10 => some r10
theorem t_LH_lonely_11 {Γ : lh_Cx} {F : lh_FF} {S : lh_SS} {Z : List Frame → Array Value → State → State → Prop} (hG : lh_GX Γ) (hS : lh_lay F S) {a : Nat} (ha : lh_hl F S a) (hA : F (0 + 4) 6 = a + 4) {b : Nat} (hb : lh_nl F S b) (hB : F (0 + 4) 8 = b + 4) {v1 : Int32} {I : lh_II} {L : lh_LL} : ∀ (n : Nat) (v2 : Int32) (v3 : Int32) (v4 : Int32) (o : Int32), f_LH_lonely_11 a b v1 I n v2 v3 v4 = some o → ∀ (x0_ : lh_G Γ m_LH_lonely (lh_R 3 0 0) Z 0 0 30 [(2, .int o)] [] (I, L, F, S)), lh_G Γ m_LH_lonely (lh_R 3 0 0) Z 0 0 11 [(0, .ref (0 + 4)), (1, .int v1), (2, .int v2), (3, .int v3), (4, .int v4)] [] (I, L, F, S) := by
  intro n
  induction n with
  | zero => intro v2 v3 v4 o hf; cases hf
  | succ n ih =>
    intro v2 v3 v4 o hf x0_
    rw [f_LH_lonely_11] at hf
    refine lh_iload (q := 4) rfl rfl ?_
    refine lh_bipush rfl lh_b_8 ?_
    refine lh_icmp_ge rfl (fun c4 => ?_) (fun c4 => ?_)
    · have hf := lh_ifT hf c4
      exact lh_less [2] rfl (by cases hf; exact x0_)
    · have hf := lh_ifF hf c4
      refine lh_aload_n (q := 0) rfl rfl rfl ?_
      refine lh_getR4 rfl rfl (hS.1 0 _ rfl) rfl hA ?_
      refine lh_iload_n (q := 1) rfl rfl rfl ?_
      refine lh_iload (q := 4) rfl rfl ?_
      refine lh_bdE hf (fun r5 e6 hf => ?_)
      refine lh_cVi (N := m_Ha_whoIsThere) (d := 2) (o := a) (As := [.int v1, .int v4]) (st := []) rfl rfl v_Ha_whoIsThere (ha.1 0 _ rfl) rfl rfl rfl ⟨rfl, rfl⟩ rfl (t_Ha_whoIsThere hG hS ha e6 ?_)
      refine lh_bdE hf (fun r7 e8 hf => ?_)
      refine lh_cSi (N := m_Int_bitCount) (d := 0) (As := [.int r5]) (st := []) rfl rfl v_Int_bitCount rfl rfl ⟨rfl, rfl⟩ rfl (t_Int_bitCount hG hS e8 ?_)
      refine lh_istore (lv' := [(0, .ref (0 + 4)), (1, .int v1), (2, .int v2), (3, .int v3), (4, .int v4), (5, .int r7)]) rfl rfl rfl ?_
      refine lh_iload (q := 5) rfl rfl ?_
      refine lh_iload_n (q := 3) rfl rfl rfl ?_
      refine lh_icmp_ge rfl (fun c9 => ?_) (fun c9 => ?_)
      · have hf := lh_ifT hf c9
        refine lh_iinc (q := 4) (v := (v4 + 1)) (lv' := [(0, .ref (0 + 4)), (1, .int v1), (2, .int v2), (3, .int v3), (4, .int (v4 + 1)), (5, .int r7)]) rfl rfl (congrArg (v4 + ·) (by decide)) rfl rfl ?_
        refine lh_goto rfl ?_
        refine lh_less [0, 1, 2, 3, 4] rfl ?_
        exact ih v2 v3 (v4 + 1) _ hf x0_
      · have hf := lh_ifF hf c9
        refine lh_iload (q := 5) rfl rfl ?_
        refine lh_istore_n (lv' := [(0, .ref (0 + 4)), (1, .int v1), (2, .int v2), (3, .int r7), (4, .int v4), (5, .int r7)]) rfl rfl rfl rfl ?_
        refine lh_iload (q := 4) rfl rfl ?_
        refine lh_istore_n (lv' := [(0, .ref (0 + 4)), (1, .int v1), (2, .int v4), (3, .int r7), (4, .int v4), (5, .int r7)]) rfl rfl rfl rfl ?_
        refine lh_iinc (q := 4) (v := (v4 + 1)) (lv' := [(0, .ref (0 + 4)), (1, .int v1), (2, .int v4), (3, .int r7), (4, .int (v4 + 1)), (5, .int r7)]) rfl rfl (congrArg (v4 + ·) (by decide)) rfl rfl ?_
        refine lh_goto rfl ?_
        refine lh_less [0, 1, 2, 3, 4] rfl ?_
        exact ih v4 r7 (v4 + 1) _ hf x0_
theorem t_LH_lonely {Γ : lh_Cx} {I : lh_II} {L : lh_LL} {F : lh_FF} {S : lh_SS} {K : Int32 → lh_Hp → Prop} {r : Int32} (hG : lh_GX Γ) (hS : lh_lay F S) {a : Nat} (ha : lh_hl F S a) (hA : F (0 + 4) 6 = a + 4) {b : Nat} (hb : lh_nl F S b) (hB : F (0 + 4) 8 = b + 4) {x1 : Int32} (hf : f_LH_lonely a b x1 I = some r) (hK : K r (I, L, F, S)) : lh_Met Γ m_LH_lonely 3 0 0 [.ref (0 + 4), .int x1] (I, L, F, S) (lh_ki K) := by
  rw [f_LH_lonely] at hf
  refine lh_ofG k_LH_lonely [(0, .ref (0 + 4)), (1, .int x1)] rfl (Nat.le_of_ble_eq_true rfl) rfl ?_
  refine lh_iload_n (q := 1) rfl rfl rfl ?_
  refine lh_bdE hf (fun r1 e2 hf => ?_)
  refine lh_cSi (N := m_LH_isDay) (d := 0) (As := [.int x1]) (st := []) rfl rfl v_LH_isDay rfl rfl ⟨rfl, rfl⟩ rfl (t_LH_isDay hG hS e2 ?_)
  refine lh_if_ne rfl (fun c3 => ?_) (fun c3 => ?_)
  · have hf := lh_ifF hf c3
    refine lh_iconst rfl lh_k_0 ?_
    refine lh_istore_n (lv' := [(0, .ref (0 + 4)), (1, .int x1), (2, .int 0)]) rfl rfl rfl rfl ?_
    refine lh_bipush rfl lh_b_7 ?_
    refine lh_istore_n (lv' := [(0, .ref (0 + 4)), (1, .int x1), (2, .int 0), (3, .int 7)]) rfl rfl rfl rfl ?_
    refine lh_iconst rfl lh_k_0 ?_
    refine lh_istore (lv' := [(0, .ref (0 + 4)), (1, .int x1), (2, .int 0), (3, .int 7), (4, .int 0)]) rfl rfl rfl ?_
    refine lh_bdE hf (fun r10 e11 hf => ?_)
    refine t_LH_lonely_11 hG hS ha hA hb hB _ 0 7 0 _ e11 ?_
    refine lh_iload_n (q := 0) rfl rfl rfl ?_
    exact lh_iret rfl rfl rfl (by obtain rfl := Option.some.inj hf; exact hK)
  · have hf := lh_ifT hf c3
    refine lh_iconst rfl lh_k_m1 ?_
    exact lh_iret rfl rfl rfl (by obtain rfl := Option.some.inj hf; exact hK)
def f_LH_mark (a : Nat) (b : Nat) (x1 : Int32) (x2 : Int32) (I : lh_II) : Option (Int32 × lh_II) := if x1 < 0 then some (0, I) else if x1 < 4 then lh_gd (lh_ix x1 4) (if x2 = 0 then lh_bd (f_Mo_become (57 + 2 * x1.toNatClampNeg + 1) 7 (lh_u2 I (57 + 2 * x1.toNatClampNeg + 4) 1 1)) fun r10 => some (1, lh_u2 (lh_u2 r10 (57 + 2 * x1.toNatClampNeg + 4) 2 (r10 (0 + 4) 12)) (57 + 2 * x1.toNatClampNeg + 4) 3 ((lh_u2 r10 (57 + 2 * x1.toNatClampNeg + 4) 2 (r10 (0 + 4) 12)) (0 + 4) 13)) else if (I (57 + 2 * x1.toNatClampNeg + 4) 1) = 0 then lh_gd (lh_z (I (57 + 2 * x1.toNatClampNeg + 4) 1)) (some ((I (57 + 2 * x1.toNatClampNeg + 4) 1), I)) else lh_bd (f_Mo_become 7 (57 + 2 * x1.toNatClampNeg + 1) I) fun r7 => lh_gd (lh_z ((lh_u2 (lh_u2 (lh_u2 r7 (0 + 4) 12 (r7 (57 + 2 * x1.toNatClampNeg + 4) 2)) (0 + 4) 13 ((lh_u2 r7 (0 + 4) 12 (r7 (57 + 2 * x1.toNatClampNeg + 4) 2)) (57 + 2 * x1.toNatClampNeg + 4) 3)) (0 + 4) 11 0) (57 + 2 * x1.toNatClampNeg + 4) 1)) (some (((lh_u2 (lh_u2 (lh_u2 r7 (0 + 4) 12 (r7 (57 + 2 * x1.toNatClampNeg + 4) 2)) (0 + 4) 13 ((lh_u2 r7 (0 + 4) 12 (r7 (57 + 2 * x1.toNatClampNeg + 4) 2)) (57 + 2 * x1.toNatClampNeg + 4) 3)) (0 + 4) 11 0) (57 + 2 * x1.toNatClampNeg + 4) 1), lh_u2 (lh_u2 (lh_u2 r7 (0 + 4) 12 (r7 (57 + 2 * x1.toNatClampNeg + 4) 2)) (0 + 4) 13 ((lh_u2 r7 (0 + 4) 12 (r7 (57 + 2 * x1.toNatClampNeg + 4) 2)) (57 + 2 * x1.toNatClampNeg + 4) 3)) (0 + 4) 11 0))) else some (0, I)
theorem t_LH_mark {Γ : lh_Cx} {I : lh_II} {L : lh_LL} {F : lh_FF} {S : lh_SS} {K : Int32 → lh_Hp → Prop} {r : Int32 × lh_II} (hG : lh_GX Γ) (hS : lh_lay F S) {a : Nat} (ha : lh_hl F S a) (hA : F (0 + 4) 6 = a + 4) {b : Nat} (hb : lh_nl F S b) (hB : F (0 + 4) 8 = b + 4) {x1 : Int32} {x2 : Int32} (hf : f_LH_mark a b x1 x2 I = some r) (hK : K r.1 (r.2, L, F, S)) : lh_Met Γ m_LH_mark 1 0 0 [.ref (0 + 4), .int x1, .int x2] (I, L, F, S) (lh_ki K) := by
  rw [f_LH_mark] at hf
  refine lh_ofG k_LH_mark [(0, .ref (0 + 4)), (1, .int x1), (2, .int x2)] rfl (Nat.le_of_ble_eq_true rfl) rfl ?_
  refine lh_iload_n (q := 1) rfl rfl rfl ?_
  refine lh_if_lt rfl (fun c1 => ?_) (fun c1 => ?_)
  · have hf := lh_ifT hf c1
    refine lh_iconst rfl lh_k_0 ?_
    exact lh_iret rfl rfl (by decide) (by obtain rfl := Option.some.inj hf; exact hK)
  · have hf := lh_ifF hf c1
    refine lh_iload_n (q := 1) rfl rfl rfl ?_
    refine lh_iconst rfl lh_k_4 ?_
    refine lh_icmp_lt rfl (fun c2 => ?_) (fun c2 => ?_)
    · have hf := lh_ifT hf c2
      refine lh_aload_n (q := 0) rfl rfl rfl ?_
      refine lh_getR4 rfl rfl (hS.1 0 _ rfl) rfl (hS.2 13 _ rfl) ?_
      refine lh_iload_n (q := 1) rfl rfl rfl ?_
      obtain ⟨g3, hf⟩ := lh_gdE hf
      refine lh_aaload5 rfl (hS.1 10 _ rfl) (lh_ix_in g3) (lh_markF hS g3) ?_
      refine lh_astore_n (lv' := [(0, .ref (0 + 4)), (1, .int x1), (2, .int x2), (3, .ref (57 + 2 * x1.toNatClampNeg + 4))]) rfl rfl rfl rfl ?_
      refine lh_iload_n (q := 2) rfl rfl rfl ?_
      refine lh_if_ne rfl (fun c4 => ?_) (fun c4 => ?_)
      · have hf := lh_ifF hf c4
        refine lh_aload_n (q := 3) rfl rfl rfl ?_
        refine lh_getZ4 rfl rfl (lh_markS hS g3) rfl ?_
        refine lh_if_eq rfl (fun c5 => ?_) (fun c5 => ?_)
        · have hf := lh_ifT hf c5
          refine lh_aload_n (q := 3) rfl rfl rfl ?_
          refine lh_getZ4 rfl rfl (lh_markS hS g3) rfl ?_
          obtain ⟨g6, hf⟩ := lh_gdE hf
          exact lh_iret rfl rfl (lh_z_nar g6) (by obtain rfl := Option.some.inj hf; exact hK)
        · have hf := lh_ifF hf c5
          refine lh_aload_n (q := 0) rfl rfl rfl ?_
          refine lh_getR4 rfl rfl (hS.1 0 _ rfl) rfl (hS.2 10 _ rfl) ?_
          refine lh_aload_n (q := 3) rfl rfl rfl ?_
          refine lh_getR4 rfl rfl (lh_markS hS g3) rfl (lh_markR hS g3) ?_
          refine lh_bdE hf (fun r7 e8 hf => ?_)
          refine lh_cVv (N := m_Mo_become) (d := 0) (o := 7) (As := [.ref (57 + 2 * x1.toNatClampNeg + 1 + 4)]) (st := []) rfl rfl v_Mo_become (hS.1 7 _ rfl) rfl rfl rfl ⟨rfl, rfl⟩ rfl (t_Mo_become hG hS (hS.1 7 _ rfl) (lh_markM hS g3) e8 ?_)
          refine lh_aload_n (q := 0) rfl rfl rfl ?_
          refine lh_aload_n (q := 3) rfl rfl rfl ?_
          refine lh_getI4 rfl rfl (lh_markS hS g3) rfl ?_
          refine lh_putI4 rfl rfl (hS.1 0 _ rfl) rfl rfl ?_
          refine lh_aload_n (q := 0) rfl rfl rfl ?_
          refine lh_aload_n (q := 3) rfl rfl rfl ?_
          refine lh_getI4 rfl rfl (lh_markS hS g3) rfl ?_
          refine lh_putI4 rfl rfl (hS.1 0 _ rfl) rfl rfl ?_
          refine lh_aload_n (q := 0) rfl rfl rfl ?_
          refine lh_iconst rfl lh_k_0 ?_
          refine lh_putI4 rfl rfl (hS.1 0 _ rfl) rfl rfl ?_
          refine lh_aload_n (q := 3) rfl rfl rfl ?_
          refine lh_getZ4 rfl rfl (lh_markS hS g3) rfl ?_
          obtain ⟨g9, hf⟩ := lh_gdE hf
          exact lh_iret rfl rfl (lh_z_nar g9) (by obtain rfl := Option.some.inj hf; exact hK)
      · have hf := lh_ifT hf c4
        refine lh_aload_n (q := 3) rfl rfl rfl ?_
        refine lh_iconst rfl lh_k_1 ?_
        refine lh_putZ4 rfl rfl (lh_markS hS g3) rfl rfl (by decide) ?_
        refine lh_aload_n (q := 3) rfl rfl rfl ?_
        refine lh_getR4 rfl rfl (lh_markS hS g3) rfl (lh_markR hS g3) ?_
        refine lh_aload_n (q := 0) rfl rfl rfl ?_
        refine lh_getR4 rfl rfl (hS.1 0 _ rfl) rfl (hS.2 10 _ rfl) ?_
        refine lh_bdE hf (fun r10 e11 hf => ?_)
        refine lh_cVv (N := m_Mo_become) (d := 0) (o := 57 + 2 * x1.toNatClampNeg + 1) (As := [.ref (7 + 4)]) (st := []) rfl rfl v_Mo_become (lh_markM hS g3) rfl rfl rfl ⟨rfl, rfl⟩ rfl (t_Mo_become hG hS (lh_markM hS g3) (hS.1 7 _ rfl) e11 ?_)
        refine lh_aload_n (q := 3) rfl rfl rfl ?_
        refine lh_aload_n (q := 0) rfl rfl rfl ?_
        refine lh_getI4 rfl rfl (hS.1 0 _ rfl) rfl ?_
        refine lh_putI4 rfl rfl (lh_markS hS g3) rfl rfl ?_
        refine lh_aload_n (q := 3) rfl rfl rfl ?_
        refine lh_aload_n (q := 0) rfl rfl rfl ?_
        refine lh_getI4 rfl rfl (hS.1 0 _ rfl) rfl ?_
        refine lh_putI4 rfl rfl (lh_markS hS g3) rfl rfl ?_
        refine lh_iconst rfl lh_k_1 ?_
        exact lh_iret rfl rfl (by decide) (by obtain rfl := Option.some.inj hf; exact hK)
    · have hf := lh_ifF hf c2
      refine lh_iconst rfl lh_k_0 ?_
      exact lh_iret rfl rfl (by decide) (by obtain rfl := Option.some.inj hf; exact hK)
def f_LH_meet_8 (a : Nat) (b : Nat) (I : lh_II) : Nat → Int32 → Option (Nat × Int32)
  | 0, _ => none
  | n + 1, v1 => if 40 < v1 then some (1, v1) else if (I (7 + 4) 3) ≤ v1 then some (1, v1) else lh_bd (f_Ha_fellowAt a ((I (7 + 4) 4) + v1) I) fun r4 => lh_bd (f_Ha_lightFrom a r4 I) fun r6 => lh_bd (f_Ha_lightFrom a (I (7 + 4) 0) I) fun r8 => if (r8 &&& r6) = 0 then f_LH_meet_8 a b I n (v1 + 1) else some (0, v1)
def f_LH_meet (a : Nat) (b : Nat) (I : lh_II) : Option (Int32) := if (I (a + 4) 16) = 0 then some (-1) else lh_bd (f_LH_meet_8 a b I lh_fuel 0) fun r11 => if r11.1 = 0 then some r11.2 else some (-1)
theorem t_LH_meet_8 {Γ : lh_Cx} {F : lh_FF} {S : lh_SS} {Z : List Frame → Array Value → State → State → Prop} (hG : lh_GX Γ) (hS : lh_lay F S) {a : Nat} (ha : lh_hl F S a) (hA : F (0 + 4) 6 = a + 4) {b : Nat} (hb : lh_nl F S b) (hB : F (0 + 4) 8 = b + 4)  {I : lh_II} {L : lh_LL} : ∀ (n : Nat) (v1 : Int32) (o : Nat × Int32), f_LH_meet_8 a b I n v1 = some o → ∀ (x0_ : o.1 = 0 → lh_G Γ m_LH_meet (lh_R 2 0 0) Z 0 0 37 [(1, .int o.2)] [] (I, L, F, S)), ∀ (x1_ : o.1 = 1 → lh_G Γ m_LH_meet (lh_R 2 0 0) Z 0 0 41 [] [] (I, L, F, S)), lh_G Γ m_LH_meet (lh_R 2 0 0) Z 0 0 8 [(0, .ref (0 + 4)), (1, .int v1)] [] (I, L, F, S) := by
  intro n
  induction n with
  | zero => intro v1 o hf; cases hf
  | succ n ih =>
    intro v1 o hf x0_ x1_
    rw [f_LH_meet_8] at hf
    refine lh_iload_n (q := 1) rfl rfl rfl ?_
    refine lh_bipush rfl lh_b_40 ?_
    refine lh_icmp_gt rfl (fun c2 => ?_) (fun c2 => ?_)
    · have hf := lh_ifT hf c2
      exact lh_less [] rfl (by cases hf; exact x1_ rfl)
    · have hf := lh_ifF hf c2
      refine lh_iload_n (q := 1) rfl rfl rfl ?_
      refine lh_aload_n (q := 0) rfl rfl rfl ?_
      refine lh_getR4 rfl rfl (hS.1 0 _ rfl) rfl (hS.2 10 _ rfl) ?_
      refine lh_getI4 rfl rfl (hS.1 7 _ rfl) rfl ?_
      refine lh_icmp_ge rfl (fun c3 => ?_) (fun c3 => ?_)
      · have hf := lh_ifT hf c3
        exact lh_less [] rfl (by cases hf; exact x1_ rfl)
      · have hf := lh_ifF hf c3
        refine lh_aload_n (q := 0) rfl rfl rfl ?_
        refine lh_getR4 rfl rfl (hS.1 0 _ rfl) rfl hA ?_
        refine lh_aload_n (q := 0) rfl rfl rfl ?_
        refine lh_getR4 rfl rfl (hS.1 0 _ rfl) rfl hA ?_
        refine lh_aload_n (q := 0) rfl rfl rfl ?_
        refine lh_getR4 rfl rfl (hS.1 0 _ rfl) rfl (hS.2 10 _ rfl) ?_
        refine lh_getI4 rfl rfl (hS.1 7 _ rfl) rfl ?_
        refine lh_iload_n (q := 1) rfl rfl rfl ?_
        refine lh_iadd rfl ?_
        refine lh_bdE hf (fun r4 e5 hf => ?_)
        refine lh_cVi (N := m_Ha_fellowAt) (d := 0) (o := a) (As := [.int ((I (7 + 4) 4) + v1)]) (st := [.ref (a + 4)]) rfl rfl v_Ha_fellowAt (ha.1 0 _ rfl) rfl rfl rfl ⟨rfl, rfl⟩ rfl (t_Ha_fellowAt hG hS ha e5 ?_)
        refine lh_bdE hf (fun r6 e7 hf => ?_)
        refine lh_cVi (N := m_Ha_lightFrom) (d := 1) (o := a) (As := [.int r4]) (st := []) rfl rfl v_Ha_lightFrom (ha.1 0 _ rfl) rfl rfl rfl ⟨rfl, rfl⟩ rfl (t_Ha_lightFrom hG hS ha e7 ?_)
        refine lh_istore_n (lv' := [(0, .ref (0 + 4)), (1, .int v1), (2, .int r6)]) rfl rfl rfl rfl ?_
        refine lh_aload_n (q := 0) rfl rfl rfl ?_
        refine lh_getR4 rfl rfl (hS.1 0 _ rfl) rfl hA ?_
        refine lh_aload_n (q := 0) rfl rfl rfl ?_
        refine lh_getR4 rfl rfl (hS.1 0 _ rfl) rfl (hS.2 10 _ rfl) ?_
        refine lh_getI4 rfl rfl (hS.1 7 _ rfl) rfl ?_
        refine lh_bdE hf (fun r8 e9 hf => ?_)
        refine lh_cVi (N := m_Ha_lightFrom) (d := 1) (o := a) (As := [.int (I (7 + 4) 0)]) (st := []) rfl rfl v_Ha_lightFrom (ha.1 0 _ rfl) rfl rfl rfl ⟨rfl, rfl⟩ rfl (t_Ha_lightFrom hG hS ha e9 ?_)
        refine lh_iload_n (q := 2) rfl rfl rfl ?_
        refine lh_iand rfl ?_
        refine lh_if_eq rfl (fun c10 => ?_) (fun c10 => ?_)
        · have hf := lh_ifT hf c10
          refine lh_iinc (q := 1) (v := (v1 + 1)) (lv' := [(0, .ref (0 + 4)), (1, .int (v1 + 1)), (2, .int r6)]) rfl rfl (congrArg (v1 + ·) (by decide)) rfl rfl ?_
          refine lh_goto rfl ?_
          refine lh_less [0, 1] rfl ?_
          exact ih (v1 + 1) _ hf x0_ x1_
        · have hf := lh_ifF hf c10
          exact lh_less [1] rfl (by cases hf; exact x0_ rfl)
theorem t_LH_meet {Γ : lh_Cx} {I : lh_II} {L : lh_LL} {F : lh_FF} {S : lh_SS} {K : Int32 → lh_Hp → Prop} {r : Int32} (hG : lh_GX Γ) (hS : lh_lay F S) {a : Nat} (ha : lh_hl F S a) (hA : F (0 + 4) 6 = a + 4) {b : Nat} (hb : lh_nl F S b) (hB : F (0 + 4) 8 = b + 4) (hf : f_LH_meet a b I = some r) (hK : K r (I, L, F, S)) : lh_Met Γ m_LH_meet 2 0 0 [.ref (0 + 4)] (I, L, F, S) (lh_ki K) := by
  rw [f_LH_meet] at hf
  refine lh_ofG k_LH_meet [(0, .ref (0 + 4))] rfl (Nat.le_of_ble_eq_true rfl) rfl ?_
  refine lh_aload_n (q := 0) rfl rfl rfl ?_
  refine lh_getR4 rfl rfl (hS.1 0 _ rfl) rfl hA ?_
  refine lh_getI4 rfl rfl (ha.1 0 _ rfl) rfl ?_
  refine lh_if_ne rfl (fun c1 => ?_) (fun c1 => ?_)
  · have hf := lh_ifF hf c1
    refine lh_iconst rfl lh_k_0 ?_
    refine lh_istore_n (lv' := [(0, .ref (0 + 4)), (1, .int 0)]) rfl rfl rfl rfl ?_
    refine lh_bdE hf (fun r11 e12 hf => ?_)
    refine t_LH_meet_8 hG hS ha hA hb hB _ 0 _ e12 (fun q0_ => ?_) (fun q1_ => ?_)
    · have hf := lh_ifT hf q0_
      refine lh_iload_n (q := 0) rfl rfl rfl ?_
      exact lh_iret rfl rfl rfl (by obtain rfl := Option.some.inj hf; exact hK)
    · have hf := lh_ifF hf (by rw [q1_]; decide)
      refine lh_iconst rfl lh_k_m1 ?_
      exact lh_iret rfl rfl rfl (by obtain rfl := Option.some.inj hf; exact hK)
  · have hf := lh_ifT hf c1
    refine lh_iconst rfl lh_k_m1 ?_
    exact lh_iret rfl rfl rfl (by obtain rfl := Option.some.inj hf; exact hK)
def f_LH_never_4 (a : Nat) (b : Nat) (I : lh_II) : Nat → Int32 → Int32 → Option (Int32)
  | 0, _, _ => none
  | n + 1, v1, v2 => if (I (a + 4) 16) ≤ v2 then some v1 else lh_bd (f_Ha_fellowAt a v2 I) fun r2 => lh_bd (f_Ha_lightFrom a r2 I) fun r4 => f_LH_never_4 a b I n (v1 ||| r4) (v2 + 1)
def f_LH_never (a : Nat) (b : Nat) (I : lh_II) : Option (Int32) := lh_bd (f_LH_never_4 a b I lh_fuel 0 0) fun r6 => lh_bd (f_Ha_allCells a I) fun r8 => some (r8 &&& (r6 ^^^ (-1)))
theorem t_LH_never_4 {Γ : lh_Cx} {F : lh_FF} {S : lh_SS} {Z : List Frame → Array Value → State → State → Prop} (hG : lh_GX Γ) (hS : lh_lay F S) {a : Nat} (ha : lh_hl F S a) (hA : F (0 + 4) 6 = a + 4) {b : Nat} (hb : lh_nl F S b) (hB : F (0 + 4) 8 = b + 4)  {I : lh_II} {L : lh_LL} : ∀ (n : Nat) (v1 : Int32) (v2 : Int32) (o : Int32), f_LH_never_4 a b I n v1 v2 = some o → ∀ (x0_ : lh_G Γ m_LH_never (lh_R 2 0 0) Z 0 0 21 [(0, .ref (0 + 4)), (1, .int o)] [] (I, L, F, S)), lh_G Γ m_LH_never (lh_R 2 0 0) Z 0 0 4 [(0, .ref (0 + 4)), (1, .int v1), (2, .int v2)] [] (I, L, F, S) := by
  intro n
  induction n with
  | zero => intro v1 v2 o hf; cases hf
  | succ n ih =>
    intro v1 v2 o hf x0_
    rw [f_LH_never_4] at hf
    refine lh_iload_n (q := 2) rfl rfl rfl ?_
    refine lh_aload_n (q := 0) rfl rfl rfl ?_
    refine lh_getR4 rfl rfl (hS.1 0 _ rfl) rfl hA ?_
    refine lh_getI4 rfl rfl (ha.1 0 _ rfl) rfl ?_
    refine lh_icmp_ge rfl (fun c1 => ?_) (fun c1 => ?_)
    · have hf := lh_ifT hf c1
      exact lh_less [0, 1] rfl (by cases hf; exact x0_)
    · have hf := lh_ifF hf c1
      refine lh_iload_n (q := 1) rfl rfl rfl ?_
      refine lh_aload_n (q := 0) rfl rfl rfl ?_
      refine lh_getR4 rfl rfl (hS.1 0 _ rfl) rfl hA ?_
      refine lh_aload_n (q := 0) rfl rfl rfl ?_
      refine lh_getR4 rfl rfl (hS.1 0 _ rfl) rfl hA ?_
      refine lh_iload_n (q := 2) rfl rfl rfl ?_
      refine lh_bdE hf (fun r2 e3 hf => ?_)
      refine lh_cVi (N := m_Ha_fellowAt) (d := 0) (o := a) (As := [.int v2]) (st := [.ref (a + 4), .int v1]) rfl rfl v_Ha_fellowAt (ha.1 0 _ rfl) rfl rfl rfl ⟨rfl, rfl⟩ rfl (t_Ha_fellowAt hG hS ha e3 ?_)
      refine lh_bdE hf (fun r4 e5 hf => ?_)
      refine lh_cVi (N := m_Ha_lightFrom) (d := 1) (o := a) (As := [.int r2]) (st := [.int v1]) rfl rfl v_Ha_lightFrom (ha.1 0 _ rfl) rfl rfl rfl ⟨rfl, rfl⟩ rfl (t_Ha_lightFrom hG hS ha e5 ?_)
      refine lh_ior rfl ?_
      refine lh_istore_n (lv' := [(0, .ref (0 + 4)), (1, .int (v1 ||| r4)), (2, .int v2)]) rfl rfl rfl rfl ?_
      refine lh_iinc (q := 2) (v := (v2 + 1)) (lv' := [(0, .ref (0 + 4)), (1, .int (v1 ||| r4)), (2, .int (v2 + 1))]) rfl rfl (congrArg (v2 + ·) (by decide)) rfl rfl ?_
      refine lh_goto rfl ?_
      exact ih (v1 ||| r4) (v2 + 1) _ hf x0_
theorem t_LH_never {Γ : lh_Cx} {I : lh_II} {L : lh_LL} {F : lh_FF} {S : lh_SS} {K : Int32 → lh_Hp → Prop} {r : Int32} (hG : lh_GX Γ) (hS : lh_lay F S) {a : Nat} (ha : lh_hl F S a) (hA : F (0 + 4) 6 = a + 4) {b : Nat} (hb : lh_nl F S b) (hB : F (0 + 4) 8 = b + 4) (hf : f_LH_never a b I = some r) (hK : K r (I, L, F, S)) : lh_Met Γ m_LH_never 2 0 0 [.ref (0 + 4)] (I, L, F, S) (lh_ki K) := by
  rw [f_LH_never] at hf
  refine lh_ofG k_LH_never [(0, .ref (0 + 4))] rfl (Nat.le_of_ble_eq_true rfl) rfl ?_
  refine lh_iconst rfl lh_k_0 ?_
  refine lh_istore_n (lv' := [(0, .ref (0 + 4)), (1, .int 0)]) rfl rfl rfl rfl ?_
  refine lh_iconst rfl lh_k_0 ?_
  refine lh_istore_n (lv' := [(0, .ref (0 + 4)), (1, .int 0), (2, .int 0)]) rfl rfl rfl rfl ?_
  refine lh_bdE hf (fun r6 e7 hf => ?_)
  refine t_LH_never_4 hG hS ha hA hb hB _ 0 0 _ e7 ?_
  refine lh_aload_n (q := 0) rfl rfl rfl ?_
  refine lh_getR4 rfl rfl (hS.1 0 _ rfl) rfl hA ?_
  refine lh_bdE hf (fun r8 e9 hf => ?_)
  refine lh_cVi (N := m_Ha_allCells) (d := 0) (o := a) (As := []) (st := []) rfl rfl v_Ha_allCells (ha.1 0 _ rfl) rfl rfl rfl ⟨rfl, rfl⟩ rfl (t_Ha_allCells hG hS ha e9 ?_)
  refine lh_iload_n (q := 1) rfl rfl rfl ?_
  refine lh_iconst rfl lh_k_m1 ?_
  refine lh_ixor rfl ?_
  refine lh_iand rfl ?_
  exact lh_iret rfl rfl rfl (by obtain rfl := Option.some.inj hf; exact hK)
def f_Ni_readLine (b : Nat) (I : lh_II) (L : lh_LL) : Option (Int32 × lh_II × lh_LL) := if (I (1 + 4) 4) = 3 then if (I (b + 4) 2) < 40 then lh_bd (f_Re_advance I L) fun r3 => if (I (1 + 4) 4) = 14 then lh_bd (f_Re_wantNumber (0 : Int32) (3 : Int32) r3.1) fun r6 => if r6.1 = 0 then some (0, r6.2, r3.2) else lh_gd (lh_ix (r6.2 (b + 4) 2) 40) (lh_bd (f_Re_advance (lh_u2 r6.2 (b + 2 + 4) (r6.2 (b + 4) 2).toNatClampNeg (r6.2 (1 + 4) 6)) r3.2) fun r10 => lh_gd (lh_ix (r10.1 (b + 4) 2) 40) (some (1, lh_u2 (lh_u2 r10.1 (b + 1 + 4) (r10.1 (b + 4) 2).toNatClampNeg (I (1 + 4) 4)) (b + 4) 2 (((lh_u2 r10.1 (b + 1 + 4) (r10.1 (b + 4) 2).toNatClampNeg (I (1 + 4) 4)) (b + 4) 2) + 1), r10.2))) else if (I (1 + 4) 4) = 15 then lh_bd (f_Re_wantNumber (1 : Int32) (99 : Int32) r3.1) fun r15 => if r15.1 = 0 then some (0, r15.2, r3.2) else lh_gd (lh_ix (r15.2 (b + 4) 2) 40) (lh_bd (f_Re_advance (lh_u2 r15.2 (b + 2 + 4) (r15.2 (b + 4) 2).toNatClampNeg (r15.2 (1 + 4) 6)) r3.2) fun r19 => lh_gd (lh_ix (r19.1 (b + 4) 2) 40) (some (1, lh_u2 (lh_u2 r19.1 (b + 1 + 4) (r19.1 (b + 4) 2).toNatClampNeg (I (1 + 4) 4)) (b + 4) 2 (((lh_u2 r19.1 (b + 1 + 4) (r19.1 (b + 4) 2).toNatClampNeg (I (1 + 4) 4)) (b + 4) 2) + 1), r19.2))) else lh_gd (lh_ix (r3.1 (b + 4) 2) 40) (some (1, lh_u2 (lh_u2 r3.1 (b + 1 + 4) (r3.1 (b + 4) 2).toNatClampNeg (I (1 + 4) 4)) (b + 4) 2 (((lh_u2 r3.1 (b + 1 + 4) (r3.1 (b + 4) 2).toNatClampNeg (I (1 + 4) 4)) (b + 4) 2) + 1), r3.2)) else lh_bd (f_Re_refuse (5 : Int32) I) fun r22 => lh_gd (lh_z r22.1) (some (r22.1, r22.2, L)) else if (I (1 + 4) 4) = 12 then if (I (b + 4) 2) < 40 then lh_bd (f_Re_advance I L) fun r27 => if (I (1 + 4) 4) = 14 then lh_bd (f_Re_wantNumber (0 : Int32) (3 : Int32) r27.1) fun r30 => if r30.1 = 0 then some (0, r30.2, r27.2) else lh_gd (lh_ix (r30.2 (b + 4) 2) 40) (lh_bd (f_Re_advance (lh_u2 r30.2 (b + 2 + 4) (r30.2 (b + 4) 2).toNatClampNeg (r30.2 (1 + 4) 6)) r27.2) fun r34 => lh_gd (lh_ix (r34.1 (b + 4) 2) 40) (some (1, lh_u2 (lh_u2 r34.1 (b + 1 + 4) (r34.1 (b + 4) 2).toNatClampNeg (I (1 + 4) 4)) (b + 4) 2 (((lh_u2 r34.1 (b + 1 + 4) (r34.1 (b + 4) 2).toNatClampNeg (I (1 + 4) 4)) (b + 4) 2) + 1), r34.2))) else if (I (1 + 4) 4) = 15 then lh_bd (f_Re_wantNumber (1 : Int32) (99 : Int32) r27.1) fun r39 => if r39.1 = 0 then some (0, r39.2, r27.2) else lh_gd (lh_ix (r39.2 (b + 4) 2) 40) (lh_bd (f_Re_advance (lh_u2 r39.2 (b + 2 + 4) (r39.2 (b + 4) 2).toNatClampNeg (r39.2 (1 + 4) 6)) r27.2) fun r43 => lh_gd (lh_ix (r43.1 (b + 4) 2) 40) (some (1, lh_u2 (lh_u2 r43.1 (b + 1 + 4) (r43.1 (b + 4) 2).toNatClampNeg (I (1 + 4) 4)) (b + 4) 2 (((lh_u2 r43.1 (b + 1 + 4) (r43.1 (b + 4) 2).toNatClampNeg (I (1 + 4) 4)) (b + 4) 2) + 1), r43.2))) else lh_gd (lh_ix (r27.1 (b + 4) 2) 40) (some (1, lh_u2 (lh_u2 r27.1 (b + 1 + 4) (r27.1 (b + 4) 2).toNatClampNeg (I (1 + 4) 4)) (b + 4) 2 (((lh_u2 r27.1 (b + 1 + 4) (r27.1 (b + 4) 2).toNatClampNeg (I (1 + 4) 4)) (b + 4) 2) + 1), r27.2)) else lh_bd (f_Re_refuse (5 : Int32) I) fun r46 => lh_gd (lh_z r46.1) (some (r46.1, r46.2, L)) else if (I (1 + 4) 4) = 13 then if (I (b + 4) 2) < 40 then lh_bd (f_Re_advance I L) fun r51 => if (I (1 + 4) 4) = 14 then lh_bd (f_Re_wantNumber (0 : Int32) (3 : Int32) r51.1) fun r54 => if r54.1 = 0 then some (0, r54.2, r51.2) else lh_gd (lh_ix (r54.2 (b + 4) 2) 40) (lh_bd (f_Re_advance (lh_u2 r54.2 (b + 2 + 4) (r54.2 (b + 4) 2).toNatClampNeg (r54.2 (1 + 4) 6)) r51.2) fun r58 => lh_gd (lh_ix (r58.1 (b + 4) 2) 40) (some (1, lh_u2 (lh_u2 r58.1 (b + 1 + 4) (r58.1 (b + 4) 2).toNatClampNeg (I (1 + 4) 4)) (b + 4) 2 (((lh_u2 r58.1 (b + 1 + 4) (r58.1 (b + 4) 2).toNatClampNeg (I (1 + 4) 4)) (b + 4) 2) + 1), r58.2))) else if (I (1 + 4) 4) = 15 then lh_bd (f_Re_wantNumber (1 : Int32) (99 : Int32) r51.1) fun r63 => if r63.1 = 0 then some (0, r63.2, r51.2) else lh_gd (lh_ix (r63.2 (b + 4) 2) 40) (lh_bd (f_Re_advance (lh_u2 r63.2 (b + 2 + 4) (r63.2 (b + 4) 2).toNatClampNeg (r63.2 (1 + 4) 6)) r51.2) fun r67 => lh_gd (lh_ix (r67.1 (b + 4) 2) 40) (some (1, lh_u2 (lh_u2 r67.1 (b + 1 + 4) (r67.1 (b + 4) 2).toNatClampNeg (I (1 + 4) 4)) (b + 4) 2 (((lh_u2 r67.1 (b + 1 + 4) (r67.1 (b + 4) 2).toNatClampNeg (I (1 + 4) 4)) (b + 4) 2) + 1), r67.2))) else lh_gd (lh_ix (r51.1 (b + 4) 2) 40) (some (1, lh_u2 (lh_u2 r51.1 (b + 1 + 4) (r51.1 (b + 4) 2).toNatClampNeg (I (1 + 4) 4)) (b + 4) 2 (((lh_u2 r51.1 (b + 1 + 4) (r51.1 (b + 4) 2).toNatClampNeg (I (1 + 4) 4)) (b + 4) 2) + 1), r51.2)) else lh_bd (f_Re_refuse (5 : Int32) I) fun r70 => lh_gd (lh_z r70.1) (some (r70.1, r70.2, L)) else if (I (1 + 4) 4) = 14 then if (I (b + 4) 2) < 40 then lh_bd (f_Re_advance I L) fun r75 => lh_bd (f_Re_wantNumber (0 : Int32) (3 : Int32) r75.1) fun r77 => if r77.1 = 0 then some (0, r77.2, r75.2) else lh_gd (lh_ix (r77.2 (b + 4) 2) 40) (lh_bd (f_Re_advance (lh_u2 r77.2 (b + 2 + 4) (r77.2 (b + 4) 2).toNatClampNeg (r77.2 (1 + 4) 6)) r75.2) fun r81 => lh_gd (lh_ix (r81.1 (b + 4) 2) 40) (some (1, lh_u2 (lh_u2 r81.1 (b + 1 + 4) (r81.1 (b + 4) 2).toNatClampNeg (I (1 + 4) 4)) (b + 4) 2 (((lh_u2 r81.1 (b + 1 + 4) (r81.1 (b + 4) 2).toNatClampNeg (I (1 + 4) 4)) (b + 4) 2) + 1), r81.2))) else lh_bd (f_Re_refuse (5 : Int32) I) fun r84 => lh_gd (lh_z r84.1) (some (r84.1, r84.2, L)) else if (I (1 + 4) 4) = 15 then if (I (b + 4) 2) < 40 then lh_bd (f_Re_advance I L) fun r89 => lh_bd (f_Re_wantNumber (1 : Int32) (99 : Int32) r89.1) fun r91 => if r91.1 = 0 then some (0, r91.2, r89.2) else lh_gd (lh_ix (r91.2 (b + 4) 2) 40) (lh_bd (f_Re_advance (lh_u2 r91.2 (b + 2 + 4) (r91.2 (b + 4) 2).toNatClampNeg (r91.2 (1 + 4) 6)) r89.2) fun r95 => lh_gd (lh_ix (r95.1 (b + 4) 2) 40) (some (1, lh_u2 (lh_u2 r95.1 (b + 1 + 4) (r95.1 (b + 4) 2).toNatClampNeg (I (1 + 4) 4)) (b + 4) 2 (((lh_u2 r95.1 (b + 1 + 4) (r95.1 (b + 4) 2).toNatClampNeg (I (1 + 4) 4)) (b + 4) 2) + 1), r95.2))) else lh_bd (f_Re_refuse (5 : Int32) I) fun r98 => lh_gd (lh_z r98.1) (some (r98.1, r98.2, L)) else lh_bd (f_Re_refuse (1 : Int32) I) fun r101 => lh_gd (lh_z r101.1) (some (r101.1, r101.2, L))
theorem t_Ni_readLine {Γ : lh_Cx} {I : lh_II} {L : lh_LL} {F : lh_FF} {S : lh_SS} {K : Int32 → lh_Hp → Prop} {r : Int32 × lh_II × lh_LL} (hG : lh_GX Γ) (hS : lh_lay F S) {b : Nat} (hb : lh_nl F S b) (hf : f_Ni_readLine b I L = some r) (hK : K r.1 (r.2.1, r.2.2, F, S)) : lh_Met Γ m_Ni_readLine 5 0 0 [.ref (b + 4), .ref (1 + 4)] (I, L, F, S) (lh_ki K) := by
  rw [f_Ni_readLine] at hf
  refine lh_ofG k_Ni_readLine [(0, .ref (b + 4)), (1, .ref (1 + 4))] rfl (Nat.le_of_ble_eq_true rfl) rfl ?_
  refine lh_aload_n (q := 1) rfl rfl rfl ?_
  refine lh_getI4 rfl rfl (hS.1 1 _ rfl) rfl ?_
  refine lh_istore_n (lv' := [(0, .ref (b + 4)), (1, .ref (1 + 4)), (2, .int (I (1 + 4) 4))]) rfl rfl rfl rfl ?_
  refine lh_iload_n (q := 2) rfl rfl rfl ?_
  refine lh_iconst rfl lh_k_3 ?_
  refine lh_icmp_eq rfl (fun c1 => ?_) (fun c1 => ?_)
  · have hf := lh_ifT hf c1
    refine lh_aload_n (q := 0) rfl rfl rfl ?_
    refine lh_getI4 rfl rfl (hb.1 0 _ rfl) rfl ?_
    refine lh_bipush rfl lh_b_40 ?_
    refine lh_icmp_lt rfl (fun c2 => ?_) (fun c2 => ?_)
    · have hf := lh_ifT hf c2
      refine lh_aload_n (q := 1) rfl rfl rfl ?_
      refine lh_bdE hf (fun r3 e4 hf => ?_)
      refine lh_cVv (N := m_Re_advance) (d := 4) (o := 1) (As := []) (st := []) rfl rfl v_Re_advance (hS.1 1 _ rfl) rfl rfl rfl ⟨rfl, rfl⟩ rfl (t_Re_advance hG hS e4 ?_)
      refine lh_iload_n (q := 2) rfl rfl rfl ?_
      refine lh_bipush rfl lh_b_14 ?_
      refine lh_icmp_eq rfl (fun c5 => ?_) (fun c5 => ?_)
      · have hf := lh_ifT hf c5
        refine lh_aload_n (q := 1) rfl rfl rfl ?_
        refine lh_iload_n (q := 2) rfl rfl rfl ?_
        refine lh_bipush rfl lh_b_14 ?_
        refine lh_icmp_ne rfl (fun c => absurd c5 c) (fun _ => ?_)
        refine lh_iconst rfl lh_k_0 ?_
        refine lh_goto rfl ?_
        refine lh_iload_n (q := 2) rfl rfl rfl ?_
        refine lh_bipush rfl lh_b_14 ?_
        refine lh_icmp_ne rfl (fun c => absurd c5 c) (fun _ => ?_)
        refine lh_iconst rfl lh_k_3 ?_
        refine lh_goto rfl ?_
        refine lh_bdE hf (fun r6 e7 hf => ?_)
        refine lh_cVi (N := m_Re_wantNumber) (d := 1) (o := 1) (As := [.int 0, .int 3]) (st := []) rfl rfl v_Re_wantNumber (hS.1 1 _ rfl) rfl rfl rfl ⟨rfl, rfl⟩ rfl (t_Re_wantNumber hG hS e7 ?_)
        refine lh_if_ne rfl (fun c8 => ?_) (fun c8 => ?_)
        · have hf := lh_ifF hf c8
          refine lh_aload_n (q := 0) rfl rfl rfl ?_
          refine lh_getR4 rfl rfl (hb.1 0 _ rfl) rfl (hb.2 1 _ rfl) ?_
          refine lh_aload_n (q := 0) rfl rfl rfl ?_
          refine lh_getI4 rfl rfl (hb.1 0 _ rfl) rfl ?_
          refine lh_aload_n (q := 1) rfl rfl rfl ?_
          refine lh_getI4 rfl rfl (hS.1 1 _ rfl) rfl ?_
          obtain ⟨g9, hf⟩ := lh_gdE hf
          refine lh_iast4 rfl (hb.1 2 _ rfl) g9 ?_
          refine lh_aload_n (q := 1) rfl rfl rfl ?_
          refine lh_bdE hf (fun r10 e11 hf => ?_)
          refine lh_cVv (N := m_Re_advance) (d := 4) (o := 1) (As := []) (st := []) rfl rfl v_Re_advance (hS.1 1 _ rfl) rfl rfl rfl ⟨rfl, rfl⟩ rfl (t_Re_advance hG hS e11 ?_)
          refine lh_aload_n (q := 0) rfl rfl rfl ?_
          refine lh_getR4 rfl rfl (hb.1 0 _ rfl) rfl (hb.2 0 _ rfl) ?_
          refine lh_aload_n (q := 0) rfl rfl rfl ?_
          refine lh_getI4 rfl rfl (hb.1 0 _ rfl) rfl ?_
          refine lh_iload_n (q := 2) rfl rfl rfl ?_
          obtain ⟨g12, hf⟩ := lh_gdE hf
          refine lh_iast4 rfl (hb.1 1 _ rfl) g12 ?_
          refine lh_aload_n (q := 0) rfl rfl rfl ?_
          refine lh_dup rfl rfl ?_
          refine lh_getI4 rfl rfl (hb.1 0 _ rfl) rfl ?_
          refine lh_iconst rfl lh_k_1 ?_
          refine lh_iadd rfl ?_
          refine lh_putI4 rfl rfl (hb.1 0 _ rfl) rfl rfl ?_
          refine lh_iconst rfl lh_k_1 ?_
          exact lh_iret rfl rfl (by decide) (by obtain rfl := Option.some.inj hf; exact hK)
        · have hf := lh_ifT hf c8
          refine lh_iconst rfl lh_k_0 ?_
          exact lh_iret rfl rfl (by decide) (by obtain rfl := Option.some.inj hf; exact hK)
      · have hf := lh_ifF hf c5
        refine lh_iload_n (q := 2) rfl rfl rfl ?_
        refine lh_bipush rfl lh_b_15 ?_
        refine lh_icmp_ne rfl (fun c13 => ?_) (fun c13 => ?_)
        · have hf := lh_ifF hf c13
          refine lh_aload_n (q := 0) rfl rfl rfl ?_
          refine lh_getR4 rfl rfl (hb.1 0 _ rfl) rfl (hb.2 0 _ rfl) ?_
          refine lh_aload_n (q := 0) rfl rfl rfl ?_
          refine lh_getI4 rfl rfl (hb.1 0 _ rfl) rfl ?_
          refine lh_iload_n (q := 2) rfl rfl rfl ?_
          obtain ⟨g14, hf⟩ := lh_gdE hf
          refine lh_iast4 rfl (hb.1 1 _ rfl) g14 ?_
          refine lh_aload_n (q := 0) rfl rfl rfl ?_
          refine lh_dup rfl rfl ?_
          refine lh_getI4 rfl rfl (hb.1 0 _ rfl) rfl ?_
          refine lh_iconst rfl lh_k_1 ?_
          refine lh_iadd rfl ?_
          refine lh_putI4 rfl rfl (hb.1 0 _ rfl) rfl rfl ?_
          refine lh_iconst rfl lh_k_1 ?_
          exact lh_iret rfl rfl (by decide) (by obtain rfl := Option.some.inj hf; exact hK)
        · have hf := lh_ifT hf c13
          refine lh_aload_n (q := 1) rfl rfl rfl ?_
          refine lh_iload_n (q := 2) rfl rfl rfl ?_
          refine lh_bipush rfl lh_b_14 ?_
          refine lh_icmp_ne rfl (fun _ => ?_) (fun c => absurd c c5)
          refine lh_iconst rfl lh_k_1 ?_
          refine lh_iload_n (q := 2) rfl rfl rfl ?_
          refine lh_bipush rfl lh_b_14 ?_
          refine lh_icmp_ne rfl (fun _ => ?_) (fun c => absurd c c5)
          refine lh_bipush rfl lh_b_99 ?_
          refine lh_bdE hf (fun r15 e16 hf => ?_)
          refine lh_cVi (N := m_Re_wantNumber) (d := 1) (o := 1) (As := [.int 1, .int 99]) (st := []) rfl rfl v_Re_wantNumber (hS.1 1 _ rfl) rfl rfl rfl ⟨rfl, rfl⟩ rfl (t_Re_wantNumber hG hS e16 ?_)
          refine lh_if_ne rfl (fun c17 => ?_) (fun c17 => ?_)
          · have hf := lh_ifF hf c17
            refine lh_aload_n (q := 0) rfl rfl rfl ?_
            refine lh_getR4 rfl rfl (hb.1 0 _ rfl) rfl (hb.2 1 _ rfl) ?_
            refine lh_aload_n (q := 0) rfl rfl rfl ?_
            refine lh_getI4 rfl rfl (hb.1 0 _ rfl) rfl ?_
            refine lh_aload_n (q := 1) rfl rfl rfl ?_
            refine lh_getI4 rfl rfl (hS.1 1 _ rfl) rfl ?_
            obtain ⟨g18, hf⟩ := lh_gdE hf
            refine lh_iast4 rfl (hb.1 2 _ rfl) g18 ?_
            refine lh_aload_n (q := 1) rfl rfl rfl ?_
            refine lh_bdE hf (fun r19 e20 hf => ?_)
            refine lh_cVv (N := m_Re_advance) (d := 4) (o := 1) (As := []) (st := []) rfl rfl v_Re_advance (hS.1 1 _ rfl) rfl rfl rfl ⟨rfl, rfl⟩ rfl (t_Re_advance hG hS e20 ?_)
            refine lh_aload_n (q := 0) rfl rfl rfl ?_
            refine lh_getR4 rfl rfl (hb.1 0 _ rfl) rfl (hb.2 0 _ rfl) ?_
            refine lh_aload_n (q := 0) rfl rfl rfl ?_
            refine lh_getI4 rfl rfl (hb.1 0 _ rfl) rfl ?_
            refine lh_iload_n (q := 2) rfl rfl rfl ?_
            obtain ⟨g21, hf⟩ := lh_gdE hf
            refine lh_iast4 rfl (hb.1 1 _ rfl) g21 ?_
            refine lh_aload_n (q := 0) rfl rfl rfl ?_
            refine lh_dup rfl rfl ?_
            refine lh_getI4 rfl rfl (hb.1 0 _ rfl) rfl ?_
            refine lh_iconst rfl lh_k_1 ?_
            refine lh_iadd rfl ?_
            refine lh_putI4 rfl rfl (hb.1 0 _ rfl) rfl rfl ?_
            refine lh_iconst rfl lh_k_1 ?_
            exact lh_iret rfl rfl (by decide) (by obtain rfl := Option.some.inj hf; exact hK)
          · have hf := lh_ifT hf c17
            refine lh_iconst rfl lh_k_0 ?_
            exact lh_iret rfl rfl (by decide) (by obtain rfl := Option.some.inj hf; exact hK)
    · have hf := lh_ifF hf c2
      refine lh_aload_n (q := 1) rfl rfl rfl ?_
      refine lh_iconst rfl lh_k_5 ?_
      refine lh_bdE hf (fun r22 e23 hf => ?_)
      refine lh_cVi (N := m_Re_refuse) (d := 0) (o := 1) (As := [.int 5]) (st := []) rfl rfl v_Re_refuse (hS.1 1 _ rfl) rfl rfl rfl ⟨rfl, rfl⟩ rfl (t_Re_refuse hG hS e23 ?_)
      obtain ⟨g24, hf⟩ := lh_gdE hf
      exact lh_iret rfl rfl (lh_z_nar g24) (by obtain rfl := Option.some.inj hf; exact hK)
  · have hf := lh_ifF hf c1
    refine lh_iload_n (q := 2) rfl rfl rfl ?_
    refine lh_bipush rfl lh_b_12 ?_
    refine lh_icmp_eq rfl (fun c25 => ?_) (fun c25 => ?_)
    · have hf := lh_ifT hf c25
      refine lh_aload_n (q := 0) rfl rfl rfl ?_
      refine lh_getI4 rfl rfl (hb.1 0 _ rfl) rfl ?_
      refine lh_bipush rfl lh_b_40 ?_
      refine lh_icmp_lt rfl (fun c26 => ?_) (fun c26 => ?_)
      · have hf := lh_ifT hf c26
        refine lh_aload_n (q := 1) rfl rfl rfl ?_
        refine lh_bdE hf (fun r27 e28 hf => ?_)
        refine lh_cVv (N := m_Re_advance) (d := 4) (o := 1) (As := []) (st := []) rfl rfl v_Re_advance (hS.1 1 _ rfl) rfl rfl rfl ⟨rfl, rfl⟩ rfl (t_Re_advance hG hS e28 ?_)
        refine lh_iload_n (q := 2) rfl rfl rfl ?_
        refine lh_bipush rfl lh_b_14 ?_
        refine lh_icmp_eq rfl (fun c29 => ?_) (fun c29 => ?_)
        · have hf := lh_ifT hf c29
          refine lh_aload_n (q := 1) rfl rfl rfl ?_
          refine lh_iload_n (q := 2) rfl rfl rfl ?_
          refine lh_bipush rfl lh_b_14 ?_
          refine lh_icmp_ne rfl (fun c => absurd c29 c) (fun _ => ?_)
          refine lh_iconst rfl lh_k_0 ?_
          refine lh_goto rfl ?_
          refine lh_iload_n (q := 2) rfl rfl rfl ?_
          refine lh_bipush rfl lh_b_14 ?_
          refine lh_icmp_ne rfl (fun c => absurd c29 c) (fun _ => ?_)
          refine lh_iconst rfl lh_k_3 ?_
          refine lh_goto rfl ?_
          refine lh_bdE hf (fun r30 e31 hf => ?_)
          refine lh_cVi (N := m_Re_wantNumber) (d := 1) (o := 1) (As := [.int 0, .int 3]) (st := []) rfl rfl v_Re_wantNumber (hS.1 1 _ rfl) rfl rfl rfl ⟨rfl, rfl⟩ rfl (t_Re_wantNumber hG hS e31 ?_)
          refine lh_if_ne rfl (fun c32 => ?_) (fun c32 => ?_)
          · have hf := lh_ifF hf c32
            refine lh_aload_n (q := 0) rfl rfl rfl ?_
            refine lh_getR4 rfl rfl (hb.1 0 _ rfl) rfl (hb.2 1 _ rfl) ?_
            refine lh_aload_n (q := 0) rfl rfl rfl ?_
            refine lh_getI4 rfl rfl (hb.1 0 _ rfl) rfl ?_
            refine lh_aload_n (q := 1) rfl rfl rfl ?_
            refine lh_getI4 rfl rfl (hS.1 1 _ rfl) rfl ?_
            obtain ⟨g33, hf⟩ := lh_gdE hf
            refine lh_iast4 rfl (hb.1 2 _ rfl) g33 ?_
            refine lh_aload_n (q := 1) rfl rfl rfl ?_
            refine lh_bdE hf (fun r34 e35 hf => ?_)
            refine lh_cVv (N := m_Re_advance) (d := 4) (o := 1) (As := []) (st := []) rfl rfl v_Re_advance (hS.1 1 _ rfl) rfl rfl rfl ⟨rfl, rfl⟩ rfl (t_Re_advance hG hS e35 ?_)
            refine lh_aload_n (q := 0) rfl rfl rfl ?_
            refine lh_getR4 rfl rfl (hb.1 0 _ rfl) rfl (hb.2 0 _ rfl) ?_
            refine lh_aload_n (q := 0) rfl rfl rfl ?_
            refine lh_getI4 rfl rfl (hb.1 0 _ rfl) rfl ?_
            refine lh_iload_n (q := 2) rfl rfl rfl ?_
            obtain ⟨g36, hf⟩ := lh_gdE hf
            refine lh_iast4 rfl (hb.1 1 _ rfl) g36 ?_
            refine lh_aload_n (q := 0) rfl rfl rfl ?_
            refine lh_dup rfl rfl ?_
            refine lh_getI4 rfl rfl (hb.1 0 _ rfl) rfl ?_
            refine lh_iconst rfl lh_k_1 ?_
            refine lh_iadd rfl ?_
            refine lh_putI4 rfl rfl (hb.1 0 _ rfl) rfl rfl ?_
            refine lh_iconst rfl lh_k_1 ?_
            exact lh_iret rfl rfl (by decide) (by obtain rfl := Option.some.inj hf; exact hK)
          · have hf := lh_ifT hf c32
            refine lh_iconst rfl lh_k_0 ?_
            exact lh_iret rfl rfl (by decide) (by obtain rfl := Option.some.inj hf; exact hK)
        · have hf := lh_ifF hf c29
          refine lh_iload_n (q := 2) rfl rfl rfl ?_
          refine lh_bipush rfl lh_b_15 ?_
          refine lh_icmp_ne rfl (fun c37 => ?_) (fun c37 => ?_)
          · have hf := lh_ifF hf c37
            refine lh_aload_n (q := 0) rfl rfl rfl ?_
            refine lh_getR4 rfl rfl (hb.1 0 _ rfl) rfl (hb.2 0 _ rfl) ?_
            refine lh_aload_n (q := 0) rfl rfl rfl ?_
            refine lh_getI4 rfl rfl (hb.1 0 _ rfl) rfl ?_
            refine lh_iload_n (q := 2) rfl rfl rfl ?_
            obtain ⟨g38, hf⟩ := lh_gdE hf
            refine lh_iast4 rfl (hb.1 1 _ rfl) g38 ?_
            refine lh_aload_n (q := 0) rfl rfl rfl ?_
            refine lh_dup rfl rfl ?_
            refine lh_getI4 rfl rfl (hb.1 0 _ rfl) rfl ?_
            refine lh_iconst rfl lh_k_1 ?_
            refine lh_iadd rfl ?_
            refine lh_putI4 rfl rfl (hb.1 0 _ rfl) rfl rfl ?_
            refine lh_iconst rfl lh_k_1 ?_
            exact lh_iret rfl rfl (by decide) (by obtain rfl := Option.some.inj hf; exact hK)
          · have hf := lh_ifT hf c37
            refine lh_aload_n (q := 1) rfl rfl rfl ?_
            refine lh_iload_n (q := 2) rfl rfl rfl ?_
            refine lh_bipush rfl lh_b_14 ?_
            refine lh_icmp_ne rfl (fun _ => ?_) (fun c => absurd c c29)
            refine lh_iconst rfl lh_k_1 ?_
            refine lh_iload_n (q := 2) rfl rfl rfl ?_
            refine lh_bipush rfl lh_b_14 ?_
            refine lh_icmp_ne rfl (fun _ => ?_) (fun c => absurd c c29)
            refine lh_bipush rfl lh_b_99 ?_
            refine lh_bdE hf (fun r39 e40 hf => ?_)
            refine lh_cVi (N := m_Re_wantNumber) (d := 1) (o := 1) (As := [.int 1, .int 99]) (st := []) rfl rfl v_Re_wantNumber (hS.1 1 _ rfl) rfl rfl rfl ⟨rfl, rfl⟩ rfl (t_Re_wantNumber hG hS e40 ?_)
            refine lh_if_ne rfl (fun c41 => ?_) (fun c41 => ?_)
            · have hf := lh_ifF hf c41
              refine lh_aload_n (q := 0) rfl rfl rfl ?_
              refine lh_getR4 rfl rfl (hb.1 0 _ rfl) rfl (hb.2 1 _ rfl) ?_
              refine lh_aload_n (q := 0) rfl rfl rfl ?_
              refine lh_getI4 rfl rfl (hb.1 0 _ rfl) rfl ?_
              refine lh_aload_n (q := 1) rfl rfl rfl ?_
              refine lh_getI4 rfl rfl (hS.1 1 _ rfl) rfl ?_
              obtain ⟨g42, hf⟩ := lh_gdE hf
              refine lh_iast4 rfl (hb.1 2 _ rfl) g42 ?_
              refine lh_aload_n (q := 1) rfl rfl rfl ?_
              refine lh_bdE hf (fun r43 e44 hf => ?_)
              refine lh_cVv (N := m_Re_advance) (d := 4) (o := 1) (As := []) (st := []) rfl rfl v_Re_advance (hS.1 1 _ rfl) rfl rfl rfl ⟨rfl, rfl⟩ rfl (t_Re_advance hG hS e44 ?_)
              refine lh_aload_n (q := 0) rfl rfl rfl ?_
              refine lh_getR4 rfl rfl (hb.1 0 _ rfl) rfl (hb.2 0 _ rfl) ?_
              refine lh_aload_n (q := 0) rfl rfl rfl ?_
              refine lh_getI4 rfl rfl (hb.1 0 _ rfl) rfl ?_
              refine lh_iload_n (q := 2) rfl rfl rfl ?_
              obtain ⟨g45, hf⟩ := lh_gdE hf
              refine lh_iast4 rfl (hb.1 1 _ rfl) g45 ?_
              refine lh_aload_n (q := 0) rfl rfl rfl ?_
              refine lh_dup rfl rfl ?_
              refine lh_getI4 rfl rfl (hb.1 0 _ rfl) rfl ?_
              refine lh_iconst rfl lh_k_1 ?_
              refine lh_iadd rfl ?_
              refine lh_putI4 rfl rfl (hb.1 0 _ rfl) rfl rfl ?_
              refine lh_iconst rfl lh_k_1 ?_
              exact lh_iret rfl rfl (by decide) (by obtain rfl := Option.some.inj hf; exact hK)
            · have hf := lh_ifT hf c41
              refine lh_iconst rfl lh_k_0 ?_
              exact lh_iret rfl rfl (by decide) (by obtain rfl := Option.some.inj hf; exact hK)
      · have hf := lh_ifF hf c26
        refine lh_aload_n (q := 1) rfl rfl rfl ?_
        refine lh_iconst rfl lh_k_5 ?_
        refine lh_bdE hf (fun r46 e47 hf => ?_)
        refine lh_cVi (N := m_Re_refuse) (d := 0) (o := 1) (As := [.int 5]) (st := []) rfl rfl v_Re_refuse (hS.1 1 _ rfl) rfl rfl rfl ⟨rfl, rfl⟩ rfl (t_Re_refuse hG hS e47 ?_)
        obtain ⟨g48, hf⟩ := lh_gdE hf
        exact lh_iret rfl rfl (lh_z_nar g48) (by obtain rfl := Option.some.inj hf; exact hK)
    · have hf := lh_ifF hf c25
      refine lh_iload_n (q := 2) rfl rfl rfl ?_
      refine lh_bipush rfl lh_b_13 ?_
      refine lh_icmp_eq rfl (fun c49 => ?_) (fun c49 => ?_)
      · have hf := lh_ifT hf c49
        refine lh_aload_n (q := 0) rfl rfl rfl ?_
        refine lh_getI4 rfl rfl (hb.1 0 _ rfl) rfl ?_
        refine lh_bipush rfl lh_b_40 ?_
        refine lh_icmp_lt rfl (fun c50 => ?_) (fun c50 => ?_)
        · have hf := lh_ifT hf c50
          refine lh_aload_n (q := 1) rfl rfl rfl ?_
          refine lh_bdE hf (fun r51 e52 hf => ?_)
          refine lh_cVv (N := m_Re_advance) (d := 4) (o := 1) (As := []) (st := []) rfl rfl v_Re_advance (hS.1 1 _ rfl) rfl rfl rfl ⟨rfl, rfl⟩ rfl (t_Re_advance hG hS e52 ?_)
          refine lh_iload_n (q := 2) rfl rfl rfl ?_
          refine lh_bipush rfl lh_b_14 ?_
          refine lh_icmp_eq rfl (fun c53 => ?_) (fun c53 => ?_)
          · have hf := lh_ifT hf c53
            refine lh_aload_n (q := 1) rfl rfl rfl ?_
            refine lh_iload_n (q := 2) rfl rfl rfl ?_
            refine lh_bipush rfl lh_b_14 ?_
            refine lh_icmp_ne rfl (fun c => absurd c53 c) (fun _ => ?_)
            refine lh_iconst rfl lh_k_0 ?_
            refine lh_goto rfl ?_
            refine lh_iload_n (q := 2) rfl rfl rfl ?_
            refine lh_bipush rfl lh_b_14 ?_
            refine lh_icmp_ne rfl (fun c => absurd c53 c) (fun _ => ?_)
            refine lh_iconst rfl lh_k_3 ?_
            refine lh_goto rfl ?_
            refine lh_bdE hf (fun r54 e55 hf => ?_)
            refine lh_cVi (N := m_Re_wantNumber) (d := 1) (o := 1) (As := [.int 0, .int 3]) (st := []) rfl rfl v_Re_wantNumber (hS.1 1 _ rfl) rfl rfl rfl ⟨rfl, rfl⟩ rfl (t_Re_wantNumber hG hS e55 ?_)
            refine lh_if_ne rfl (fun c56 => ?_) (fun c56 => ?_)
            · have hf := lh_ifF hf c56
              refine lh_aload_n (q := 0) rfl rfl rfl ?_
              refine lh_getR4 rfl rfl (hb.1 0 _ rfl) rfl (hb.2 1 _ rfl) ?_
              refine lh_aload_n (q := 0) rfl rfl rfl ?_
              refine lh_getI4 rfl rfl (hb.1 0 _ rfl) rfl ?_
              refine lh_aload_n (q := 1) rfl rfl rfl ?_
              refine lh_getI4 rfl rfl (hS.1 1 _ rfl) rfl ?_
              obtain ⟨g57, hf⟩ := lh_gdE hf
              refine lh_iast4 rfl (hb.1 2 _ rfl) g57 ?_
              refine lh_aload_n (q := 1) rfl rfl rfl ?_
              refine lh_bdE hf (fun r58 e59 hf => ?_)
              refine lh_cVv (N := m_Re_advance) (d := 4) (o := 1) (As := []) (st := []) rfl rfl v_Re_advance (hS.1 1 _ rfl) rfl rfl rfl ⟨rfl, rfl⟩ rfl (t_Re_advance hG hS e59 ?_)
              refine lh_aload_n (q := 0) rfl rfl rfl ?_
              refine lh_getR4 rfl rfl (hb.1 0 _ rfl) rfl (hb.2 0 _ rfl) ?_
              refine lh_aload_n (q := 0) rfl rfl rfl ?_
              refine lh_getI4 rfl rfl (hb.1 0 _ rfl) rfl ?_
              refine lh_iload_n (q := 2) rfl rfl rfl ?_
              obtain ⟨g60, hf⟩ := lh_gdE hf
              refine lh_iast4 rfl (hb.1 1 _ rfl) g60 ?_
              refine lh_aload_n (q := 0) rfl rfl rfl ?_
              refine lh_dup rfl rfl ?_
              refine lh_getI4 rfl rfl (hb.1 0 _ rfl) rfl ?_
              refine lh_iconst rfl lh_k_1 ?_
              refine lh_iadd rfl ?_
              refine lh_putI4 rfl rfl (hb.1 0 _ rfl) rfl rfl ?_
              refine lh_iconst rfl lh_k_1 ?_
              exact lh_iret rfl rfl (by decide) (by obtain rfl := Option.some.inj hf; exact hK)
            · have hf := lh_ifT hf c56
              refine lh_iconst rfl lh_k_0 ?_
              exact lh_iret rfl rfl (by decide) (by obtain rfl := Option.some.inj hf; exact hK)
          · have hf := lh_ifF hf c53
            refine lh_iload_n (q := 2) rfl rfl rfl ?_
            refine lh_bipush rfl lh_b_15 ?_
            refine lh_icmp_ne rfl (fun c61 => ?_) (fun c61 => ?_)
            · have hf := lh_ifF hf c61
              refine lh_aload_n (q := 0) rfl rfl rfl ?_
              refine lh_getR4 rfl rfl (hb.1 0 _ rfl) rfl (hb.2 0 _ rfl) ?_
              refine lh_aload_n (q := 0) rfl rfl rfl ?_
              refine lh_getI4 rfl rfl (hb.1 0 _ rfl) rfl ?_
              refine lh_iload_n (q := 2) rfl rfl rfl ?_
              obtain ⟨g62, hf⟩ := lh_gdE hf
              refine lh_iast4 rfl (hb.1 1 _ rfl) g62 ?_
              refine lh_aload_n (q := 0) rfl rfl rfl ?_
              refine lh_dup rfl rfl ?_
              refine lh_getI4 rfl rfl (hb.1 0 _ rfl) rfl ?_
              refine lh_iconst rfl lh_k_1 ?_
              refine lh_iadd rfl ?_
              refine lh_putI4 rfl rfl (hb.1 0 _ rfl) rfl rfl ?_
              refine lh_iconst rfl lh_k_1 ?_
              exact lh_iret rfl rfl (by decide) (by obtain rfl := Option.some.inj hf; exact hK)
            · have hf := lh_ifT hf c61
              refine lh_aload_n (q := 1) rfl rfl rfl ?_
              refine lh_iload_n (q := 2) rfl rfl rfl ?_
              refine lh_bipush rfl lh_b_14 ?_
              refine lh_icmp_ne rfl (fun _ => ?_) (fun c => absurd c c53)
              refine lh_iconst rfl lh_k_1 ?_
              refine lh_iload_n (q := 2) rfl rfl rfl ?_
              refine lh_bipush rfl lh_b_14 ?_
              refine lh_icmp_ne rfl (fun _ => ?_) (fun c => absurd c c53)
              refine lh_bipush rfl lh_b_99 ?_
              refine lh_bdE hf (fun r63 e64 hf => ?_)
              refine lh_cVi (N := m_Re_wantNumber) (d := 1) (o := 1) (As := [.int 1, .int 99]) (st := []) rfl rfl v_Re_wantNumber (hS.1 1 _ rfl) rfl rfl rfl ⟨rfl, rfl⟩ rfl (t_Re_wantNumber hG hS e64 ?_)
              refine lh_if_ne rfl (fun c65 => ?_) (fun c65 => ?_)
              · have hf := lh_ifF hf c65
                refine lh_aload_n (q := 0) rfl rfl rfl ?_
                refine lh_getR4 rfl rfl (hb.1 0 _ rfl) rfl (hb.2 1 _ rfl) ?_
                refine lh_aload_n (q := 0) rfl rfl rfl ?_
                refine lh_getI4 rfl rfl (hb.1 0 _ rfl) rfl ?_
                refine lh_aload_n (q := 1) rfl rfl rfl ?_
                refine lh_getI4 rfl rfl (hS.1 1 _ rfl) rfl ?_
                obtain ⟨g66, hf⟩ := lh_gdE hf
                refine lh_iast4 rfl (hb.1 2 _ rfl) g66 ?_
                refine lh_aload_n (q := 1) rfl rfl rfl ?_
                refine lh_bdE hf (fun r67 e68 hf => ?_)
                refine lh_cVv (N := m_Re_advance) (d := 4) (o := 1) (As := []) (st := []) rfl rfl v_Re_advance (hS.1 1 _ rfl) rfl rfl rfl ⟨rfl, rfl⟩ rfl (t_Re_advance hG hS e68 ?_)
                refine lh_aload_n (q := 0) rfl rfl rfl ?_
                refine lh_getR4 rfl rfl (hb.1 0 _ rfl) rfl (hb.2 0 _ rfl) ?_
                refine lh_aload_n (q := 0) rfl rfl rfl ?_
                refine lh_getI4 rfl rfl (hb.1 0 _ rfl) rfl ?_
                refine lh_iload_n (q := 2) rfl rfl rfl ?_
                obtain ⟨g69, hf⟩ := lh_gdE hf
                refine lh_iast4 rfl (hb.1 1 _ rfl) g69 ?_
                refine lh_aload_n (q := 0) rfl rfl rfl ?_
                refine lh_dup rfl rfl ?_
                refine lh_getI4 rfl rfl (hb.1 0 _ rfl) rfl ?_
                refine lh_iconst rfl lh_k_1 ?_
                refine lh_iadd rfl ?_
                refine lh_putI4 rfl rfl (hb.1 0 _ rfl) rfl rfl ?_
                refine lh_iconst rfl lh_k_1 ?_
                exact lh_iret rfl rfl (by decide) (by obtain rfl := Option.some.inj hf; exact hK)
              · have hf := lh_ifT hf c65
                refine lh_iconst rfl lh_k_0 ?_
                exact lh_iret rfl rfl (by decide) (by obtain rfl := Option.some.inj hf; exact hK)
        · have hf := lh_ifF hf c50
          refine lh_aload_n (q := 1) rfl rfl rfl ?_
          refine lh_iconst rfl lh_k_5 ?_
          refine lh_bdE hf (fun r70 e71 hf => ?_)
          refine lh_cVi (N := m_Re_refuse) (d := 0) (o := 1) (As := [.int 5]) (st := []) rfl rfl v_Re_refuse (hS.1 1 _ rfl) rfl rfl rfl ⟨rfl, rfl⟩ rfl (t_Re_refuse hG hS e71 ?_)
          obtain ⟨g72, hf⟩ := lh_gdE hf
          exact lh_iret rfl rfl (lh_z_nar g72) (by obtain rfl := Option.some.inj hf; exact hK)
      · have hf := lh_ifF hf c49
        refine lh_iload_n (q := 2) rfl rfl rfl ?_
        refine lh_bipush rfl lh_b_14 ?_
        refine lh_icmp_eq rfl (fun c73 => ?_) (fun c73 => ?_)
        · have hf := lh_ifT hf c73
          refine lh_aload_n (q := 0) rfl rfl rfl ?_
          refine lh_getI4 rfl rfl (hb.1 0 _ rfl) rfl ?_
          refine lh_bipush rfl lh_b_40 ?_
          refine lh_icmp_lt rfl (fun c74 => ?_) (fun c74 => ?_)
          · have hf := lh_ifT hf c74
            refine lh_aload_n (q := 1) rfl rfl rfl ?_
            refine lh_bdE hf (fun r75 e76 hf => ?_)
            refine lh_cVv (N := m_Re_advance) (d := 4) (o := 1) (As := []) (st := []) rfl rfl v_Re_advance (hS.1 1 _ rfl) rfl rfl rfl ⟨rfl, rfl⟩ rfl (t_Re_advance hG hS e76 ?_)
            refine lh_iload_n (q := 2) rfl rfl rfl ?_
            refine lh_bipush rfl lh_b_14 ?_
            refine lh_icmp_eq rfl (fun _ => ?_) (fun c => absurd c73 c)
            refine lh_aload_n (q := 1) rfl rfl rfl ?_
            refine lh_iload_n (q := 2) rfl rfl rfl ?_
            refine lh_bipush rfl lh_b_14 ?_
            refine lh_icmp_ne rfl (fun c => absurd c73 c) (fun _ => ?_)
            refine lh_iconst rfl lh_k_0 ?_
            refine lh_goto rfl ?_
            refine lh_iload_n (q := 2) rfl rfl rfl ?_
            refine lh_bipush rfl lh_b_14 ?_
            refine lh_icmp_ne rfl (fun c => absurd c73 c) (fun _ => ?_)
            refine lh_iconst rfl lh_k_3 ?_
            refine lh_goto rfl ?_
            refine lh_bdE hf (fun r77 e78 hf => ?_)
            refine lh_cVi (N := m_Re_wantNumber) (d := 1) (o := 1) (As := [.int 0, .int 3]) (st := []) rfl rfl v_Re_wantNumber (hS.1 1 _ rfl) rfl rfl rfl ⟨rfl, rfl⟩ rfl (t_Re_wantNumber hG hS e78 ?_)
            refine lh_if_ne rfl (fun c79 => ?_) (fun c79 => ?_)
            · have hf := lh_ifF hf c79
              refine lh_aload_n (q := 0) rfl rfl rfl ?_
              refine lh_getR4 rfl rfl (hb.1 0 _ rfl) rfl (hb.2 1 _ rfl) ?_
              refine lh_aload_n (q := 0) rfl rfl rfl ?_
              refine lh_getI4 rfl rfl (hb.1 0 _ rfl) rfl ?_
              refine lh_aload_n (q := 1) rfl rfl rfl ?_
              refine lh_getI4 rfl rfl (hS.1 1 _ rfl) rfl ?_
              obtain ⟨g80, hf⟩ := lh_gdE hf
              refine lh_iast4 rfl (hb.1 2 _ rfl) g80 ?_
              refine lh_aload_n (q := 1) rfl rfl rfl ?_
              refine lh_bdE hf (fun r81 e82 hf => ?_)
              refine lh_cVv (N := m_Re_advance) (d := 4) (o := 1) (As := []) (st := []) rfl rfl v_Re_advance (hS.1 1 _ rfl) rfl rfl rfl ⟨rfl, rfl⟩ rfl (t_Re_advance hG hS e82 ?_)
              refine lh_aload_n (q := 0) rfl rfl rfl ?_
              refine lh_getR4 rfl rfl (hb.1 0 _ rfl) rfl (hb.2 0 _ rfl) ?_
              refine lh_aload_n (q := 0) rfl rfl rfl ?_
              refine lh_getI4 rfl rfl (hb.1 0 _ rfl) rfl ?_
              refine lh_iload_n (q := 2) rfl rfl rfl ?_
              obtain ⟨g83, hf⟩ := lh_gdE hf
              refine lh_iast4 rfl (hb.1 1 _ rfl) g83 ?_
              refine lh_aload_n (q := 0) rfl rfl rfl ?_
              refine lh_dup rfl rfl ?_
              refine lh_getI4 rfl rfl (hb.1 0 _ rfl) rfl ?_
              refine lh_iconst rfl lh_k_1 ?_
              refine lh_iadd rfl ?_
              refine lh_putI4 rfl rfl (hb.1 0 _ rfl) rfl rfl ?_
              refine lh_iconst rfl lh_k_1 ?_
              exact lh_iret rfl rfl (by decide) (by obtain rfl := Option.some.inj hf; exact hK)
            · have hf := lh_ifT hf c79
              refine lh_iconst rfl lh_k_0 ?_
              exact lh_iret rfl rfl (by decide) (by obtain rfl := Option.some.inj hf; exact hK)
          · have hf := lh_ifF hf c74
            refine lh_aload_n (q := 1) rfl rfl rfl ?_
            refine lh_iconst rfl lh_k_5 ?_
            refine lh_bdE hf (fun r84 e85 hf => ?_)
            refine lh_cVi (N := m_Re_refuse) (d := 0) (o := 1) (As := [.int 5]) (st := []) rfl rfl v_Re_refuse (hS.1 1 _ rfl) rfl rfl rfl ⟨rfl, rfl⟩ rfl (t_Re_refuse hG hS e85 ?_)
            obtain ⟨g86, hf⟩ := lh_gdE hf
            exact lh_iret rfl rfl (lh_z_nar g86) (by obtain rfl := Option.some.inj hf; exact hK)
        · have hf := lh_ifF hf c73
          refine lh_iload_n (q := 2) rfl rfl rfl ?_
          refine lh_bipush rfl lh_b_15 ?_
          refine lh_icmp_eq rfl (fun c87 => ?_) (fun c87 => ?_)
          · have hf := lh_ifT hf c87
            refine lh_aload_n (q := 0) rfl rfl rfl ?_
            refine lh_getI4 rfl rfl (hb.1 0 _ rfl) rfl ?_
            refine lh_bipush rfl lh_b_40 ?_
            refine lh_icmp_lt rfl (fun c88 => ?_) (fun c88 => ?_)
            · have hf := lh_ifT hf c88
              refine lh_aload_n (q := 1) rfl rfl rfl ?_
              refine lh_bdE hf (fun r89 e90 hf => ?_)
              refine lh_cVv (N := m_Re_advance) (d := 4) (o := 1) (As := []) (st := []) rfl rfl v_Re_advance (hS.1 1 _ rfl) rfl rfl rfl ⟨rfl, rfl⟩ rfl (t_Re_advance hG hS e90 ?_)
              refine lh_iload_n (q := 2) rfl rfl rfl ?_
              refine lh_bipush rfl lh_b_14 ?_
              refine lh_icmp_eq rfl (fun c => absurd c c73) (fun _ => ?_)
              refine lh_iload_n (q := 2) rfl rfl rfl ?_
              refine lh_bipush rfl lh_b_15 ?_
              refine lh_icmp_ne rfl (fun c => absurd c87 c) (fun _ => ?_)
              refine lh_aload_n (q := 1) rfl rfl rfl ?_
              refine lh_iload_n (q := 2) rfl rfl rfl ?_
              refine lh_bipush rfl lh_b_14 ?_
              refine lh_icmp_ne rfl (fun _ => ?_) (fun c => absurd c c73)
              refine lh_iconst rfl lh_k_1 ?_
              refine lh_iload_n (q := 2) rfl rfl rfl ?_
              refine lh_bipush rfl lh_b_14 ?_
              refine lh_icmp_ne rfl (fun _ => ?_) (fun c => absurd c c73)
              refine lh_bipush rfl lh_b_99 ?_
              refine lh_bdE hf (fun r91 e92 hf => ?_)
              refine lh_cVi (N := m_Re_wantNumber) (d := 1) (o := 1) (As := [.int 1, .int 99]) (st := []) rfl rfl v_Re_wantNumber (hS.1 1 _ rfl) rfl rfl rfl ⟨rfl, rfl⟩ rfl (t_Re_wantNumber hG hS e92 ?_)
              refine lh_if_ne rfl (fun c93 => ?_) (fun c93 => ?_)
              · have hf := lh_ifF hf c93
                refine lh_aload_n (q := 0) rfl rfl rfl ?_
                refine lh_getR4 rfl rfl (hb.1 0 _ rfl) rfl (hb.2 1 _ rfl) ?_
                refine lh_aload_n (q := 0) rfl rfl rfl ?_
                refine lh_getI4 rfl rfl (hb.1 0 _ rfl) rfl ?_
                refine lh_aload_n (q := 1) rfl rfl rfl ?_
                refine lh_getI4 rfl rfl (hS.1 1 _ rfl) rfl ?_
                obtain ⟨g94, hf⟩ := lh_gdE hf
                refine lh_iast4 rfl (hb.1 2 _ rfl) g94 ?_
                refine lh_aload_n (q := 1) rfl rfl rfl ?_
                refine lh_bdE hf (fun r95 e96 hf => ?_)
                refine lh_cVv (N := m_Re_advance) (d := 4) (o := 1) (As := []) (st := []) rfl rfl v_Re_advance (hS.1 1 _ rfl) rfl rfl rfl ⟨rfl, rfl⟩ rfl (t_Re_advance hG hS e96 ?_)
                refine lh_aload_n (q := 0) rfl rfl rfl ?_
                refine lh_getR4 rfl rfl (hb.1 0 _ rfl) rfl (hb.2 0 _ rfl) ?_
                refine lh_aload_n (q := 0) rfl rfl rfl ?_
                refine lh_getI4 rfl rfl (hb.1 0 _ rfl) rfl ?_
                refine lh_iload_n (q := 2) rfl rfl rfl ?_
                obtain ⟨g97, hf⟩ := lh_gdE hf
                refine lh_iast4 rfl (hb.1 1 _ rfl) g97 ?_
                refine lh_aload_n (q := 0) rfl rfl rfl ?_
                refine lh_dup rfl rfl ?_
                refine lh_getI4 rfl rfl (hb.1 0 _ rfl) rfl ?_
                refine lh_iconst rfl lh_k_1 ?_
                refine lh_iadd rfl ?_
                refine lh_putI4 rfl rfl (hb.1 0 _ rfl) rfl rfl ?_
                refine lh_iconst rfl lh_k_1 ?_
                exact lh_iret rfl rfl (by decide) (by obtain rfl := Option.some.inj hf; exact hK)
              · have hf := lh_ifT hf c93
                refine lh_iconst rfl lh_k_0 ?_
                exact lh_iret rfl rfl (by decide) (by obtain rfl := Option.some.inj hf; exact hK)
            · have hf := lh_ifF hf c88
              refine lh_aload_n (q := 1) rfl rfl rfl ?_
              refine lh_iconst rfl lh_k_5 ?_
              refine lh_bdE hf (fun r98 e99 hf => ?_)
              refine lh_cVi (N := m_Re_refuse) (d := 0) (o := 1) (As := [.int 5]) (st := []) rfl rfl v_Re_refuse (hS.1 1 _ rfl) rfl rfl rfl ⟨rfl, rfl⟩ rfl (t_Re_refuse hG hS e99 ?_)
              obtain ⟨g100, hf⟩ := lh_gdE hf
              exact lh_iret rfl rfl (lh_z_nar g100) (by obtain rfl := Option.some.inj hf; exact hK)
          · have hf := lh_ifF hf c87
            refine lh_aload_n (q := 1) rfl rfl rfl ?_
            refine lh_iconst rfl lh_k_1 ?_
            refine lh_bdE hf (fun r101 e102 hf => ?_)
            refine lh_cVi (N := m_Re_refuse) (d := 0) (o := 1) (As := [.int 1]) (st := []) rfl rfl v_Re_refuse (hS.1 1 _ rfl) rfl rfl rfl ⟨rfl, rfl⟩ rfl (t_Re_refuse hG hS e102 ?_)
            obtain ⟨g103, hf⟩ := lh_gdE hf
            exact lh_iret rfl rfl (lh_z_nar g103) (by obtain rfl := Option.some.inj hf; exact hK)
def f_Ni_readLines_7 (b : Nat) : Nat → Int32 → lh_II → lh_LL → Option (lh_II × lh_LL)
  | 0, _, _, _ => none
  | n + 1, v2, I, L => if 1000 < v2 then some (I, L) else lh_bd (f_Re_isAtEnd I) fun r4 => if r4 = 0 then lh_bd (f_Ni_readLine b I L) fun r7 => if r7.1 = 0 then f_Ni_readLines_7 b n (v2 + 1) r7.2.1 r7.2.2 else lh_bd (f_Re_take (36 : Int32) r7.2.1 r7.2.2) fun r10 => f_Ni_readLines_7 b n (v2 + 1) r10.2.1 r10.2.2 else some (I, L)
def f_Ni_readLines (b : Nat) (I : lh_II) (L : lh_LL) : Option (Int32 × lh_II × lh_LL) := lh_bd (f_Re_begin (lh_u2 I (b + 4) 2 0) L) fun r1 => lh_bd (f_Ni_readLines_7 b lh_fuel 0 r1.1 r1.2) fun r12 => lh_bd (f_Re_finish r12.1) fun r14 => some (r14.1, r14.2, r12.2)
theorem t_Ni_readLines_7 {Γ : lh_Cx} {F : lh_FF} {S : lh_SS} {Z : List Frame → Array Value → State → State → Prop} (hG : lh_GX Γ) (hS : lh_lay F S) {b : Nat} (hb : lh_nl F S b)  : ∀ (n : Nat) (v2 : Int32) (I : lh_II) (L : lh_LL) (o : lh_II × lh_LL), f_Ni_readLines_7 b n v2 I L = some o → ∀ (x0_ : lh_G Γ m_Ni_readLines (lh_R 6 0 0) Z 0 0 23 [(1, .ref (1 + 4))] [] (o.1, o.2, F, S)), lh_G Γ m_Ni_readLines (lh_R 6 0 0) Z 0 0 7 [(0, .ref (b + 4)), (1, .ref (1 + 4)), (2, .int v2)] [] (I, L, F, S) := by
  intro n
  induction n with
  | zero => intro v2 I L o hf; cases hf
  | succ n ih =>
    intro v2 I L o hf x0_
    rw [f_Ni_readLines_7] at hf
    refine lh_iload_n (q := 2) rfl rfl rfl ?_
    refine lh_sipush rfl lh_s_1000 ?_
    refine lh_icmp_gt rfl (fun c3 => ?_) (fun c3 => ?_)
    · have hf := lh_ifT hf c3
      exact lh_less [1] rfl (by cases hf; exact x0_)
    · have hf := lh_ifF hf c3
      refine lh_aload_n (q := 1) rfl rfl rfl ?_
      refine lh_bdE hf (fun r4 e5 hf => ?_)
      refine lh_cVi (N := m_Re_isAtEnd) (d := 0) (o := 1) (As := []) (st := []) rfl rfl v_Re_isAtEnd (hS.1 1 _ rfl) rfl rfl rfl ⟨rfl, rfl⟩ rfl (t_Re_isAtEnd hG hS e5 ?_)
      refine lh_if_ne rfl (fun c6 => ?_) (fun c6 => ?_)
      · have hf := lh_ifF hf c6
        exact lh_less [1] rfl (by cases hf; exact x0_)
      · have hf := lh_ifT hf c6
        refine lh_aload_n (q := 0) rfl rfl rfl ?_
        refine lh_aload_n (q := 1) rfl rfl rfl ?_
        refine lh_bdE hf (fun r7 e8 hf => ?_)
        refine lh_cVi (N := m_Ni_readLine) (d := 5) (o := b) (As := [.ref (1 + 4)]) (st := []) rfl rfl v_Ni_readLine (hb.1 0 _ rfl) rfl rfl rfl ⟨rfl, rfl⟩ rfl (t_Ni_readLine hG hS hb e8 ?_)
        refine lh_if_eq rfl (fun c9 => ?_) (fun c9 => ?_)
        · have hf := lh_ifT hf c9
          refine lh_iinc (q := 2) (v := (v2 + 1)) (lv' := [(0, .ref (b + 4)), (1, .ref (1 + 4)), (2, .int (v2 + 1))]) rfl rfl (congrArg (v2 + ·) (by decide)) rfl rfl ?_
          refine lh_goto rfl ?_
          exact ih (v2 + 1) r7.2.1 r7.2.2 _ hf x0_
        · have hf := lh_ifF hf c9
          refine lh_aload_n (q := 1) rfl rfl rfl ?_
          refine lh_bipush rfl lh_b_36 ?_
          refine lh_bdE hf (fun r10 e11 hf => ?_)
          refine lh_cVi (N := m_Re_take) (d := 5) (o := 1) (As := [.int 36]) (st := []) rfl rfl v_Re_take (hS.1 1 _ rfl) rfl rfl rfl ⟨rfl, rfl⟩ rfl (t_Re_take hG hS e11 ?_)
          refine lh_pop rfl rfl ?_
          refine lh_iinc (q := 2) (v := (v2 + 1)) (lv' := [(0, .ref (b + 4)), (1, .ref (1 + 4)), (2, .int (v2 + 1))]) rfl rfl (congrArg (v2 + ·) (by decide)) rfl rfl ?_
          refine lh_goto rfl ?_
          exact ih (v2 + 1) r10.2.1 r10.2.2 _ hf x0_
theorem t_Ni_readLines {Γ : lh_Cx} {I : lh_II} {L : lh_LL} {F : lh_FF} {S : lh_SS} {K : Int32 → lh_Hp → Prop} {r : Int32 × lh_II × lh_LL} (hG : lh_GX Γ) (hS : lh_lay F S) {b : Nat} (hb : lh_nl F S b) (hf : f_Ni_readLines b I L = some r) (hK : K r.1 (r.2.1, r.2.2, F, S)) : lh_Met Γ m_Ni_readLines 6 0 0 [.ref (b + 4), .ref (1 + 4)] (I, L, F, S) (lh_ki K) := by
  rw [f_Ni_readLines] at hf
  refine lh_ofG k_Ni_readLines [(0, .ref (b + 4)), (1, .ref (1 + 4))] rfl (Nat.le_of_ble_eq_true rfl) rfl ?_
  refine lh_aload_n (q := 0) rfl rfl rfl ?_
  refine lh_iconst rfl lh_k_0 ?_
  refine lh_putI4 rfl rfl (hb.1 0 _ rfl) rfl rfl ?_
  refine lh_aload_n (q := 1) rfl rfl rfl ?_
  refine lh_bdE hf (fun r1 e2 hf => ?_)
  refine lh_cVv (N := m_Re_begin) (d := 5) (o := 1) (As := []) (st := []) rfl rfl v_Re_begin (hS.1 1 _ rfl) rfl rfl rfl ⟨rfl, rfl⟩ rfl (t_Re_begin hG hS e2 ?_)
  refine lh_iconst rfl lh_k_0 ?_
  refine lh_istore_n (lv' := [(0, .ref (b + 4)), (1, .ref (1 + 4)), (2, .int 0)]) rfl rfl rfl rfl ?_
  refine lh_bdE hf (fun r12 e13 hf => ?_)
  refine t_Ni_readLines_7 hG hS hb _ 0 r1.1 r1.2 _ e13 ?_
  refine lh_aload_n (q := 0) rfl rfl rfl ?_
  refine lh_bdE hf (fun r14 e15 hf => ?_)
  refine lh_cVi (N := m_Re_finish) (d := 0) (o := 1) (As := []) (st := []) rfl rfl v_Re_finish (hS.1 1 _ rfl) rfl rfl rfl ⟨rfl, rfl⟩ rfl (t_Re_finish hG hS e15 ?_)
  exact lh_iret rfl rfl rfl (by obtain rfl := Option.some.inj hf; exact hK)
def f_LH_nights (a : Nat) (b : Nat) (x1 : Int32) (x2 : Int32) (x3 : Int32) (I : lh_II) : Option (Int32 × lh_II) := if x1 < 0 then some ((-1), I) else if 9999 < x1 then some ((-1), I) else if x2 < 1 then some ((-1), I) else if 99 < x2 then some ((-1), I) else if x3 < 0 then some ((-1), I) else if x3 ≤ 2 then lh_bd (f_Mo_become 8 7 I) fun r7 => lh_bd (f_LH_drawNight a b x1 x2 r7) fun r9 => if x3 = 0 then some ((r9 (8 + 4) 6), r9) else if x3 = 1 then some (((r9 (8 + 4) 5) - (r9 (7 + 4) 5)), r9) else some ((r9 (8 + 4) 3), r9) else some ((-1), I)
theorem t_LH_nights {Γ : lh_Cx} {I : lh_II} {L : lh_LL} {F : lh_FF} {S : lh_SS} {K : Int32 → lh_Hp → Prop} {r : Int32 × lh_II} (hG : lh_GX Γ) (hS : lh_lay F S) {a : Nat} (ha : lh_hl F S a) (hA : F (0 + 4) 6 = a + 4) {b : Nat} (hb : lh_nl F S b) (hB : F (0 + 4) 8 = b + 4) {x1 : Int32} {x2 : Int32} {x3 : Int32} (hf : f_LH_nights a b x1 x2 x3 I = some r) (hK : K r.1 (r.2, L, F, S)) : lh_Met Γ m_LH_nights 7 0 0 [.ref (0 + 4), .int x1, .int x2, .int x3] (I, L, F, S) (lh_ki K) := by
  rw [f_LH_nights] at hf
  refine lh_ofG k_LH_nights [(0, .ref (0 + 4)), (1, .int x1), (2, .int x2), (3, .int x3)] rfl (Nat.le_of_ble_eq_true rfl) rfl ?_
  refine lh_iload_n (q := 1) rfl rfl rfl ?_
  refine lh_if_lt rfl (fun c1 => ?_) (fun c1 => ?_)
  · have hf := lh_ifT hf c1
    refine lh_iconst rfl lh_k_m1 ?_
    exact lh_iret rfl rfl rfl (by obtain rfl := Option.some.inj hf; exact hK)
  · have hf := lh_ifF hf c1
    refine lh_iload_n (q := 1) rfl rfl rfl ?_
    refine lh_sipush rfl lh_s_9999 ?_
    refine lh_icmp_gt rfl (fun c2 => ?_) (fun c2 => ?_)
    · have hf := lh_ifT hf c2
      refine lh_iconst rfl lh_k_m1 ?_
      exact lh_iret rfl rfl rfl (by obtain rfl := Option.some.inj hf; exact hK)
    · have hf := lh_ifF hf c2
      refine lh_iload_n (q := 2) rfl rfl rfl ?_
      refine lh_iconst rfl lh_k_1 ?_
      refine lh_icmp_lt rfl (fun c3 => ?_) (fun c3 => ?_)
      · have hf := lh_ifT hf c3
        refine lh_iconst rfl lh_k_m1 ?_
        exact lh_iret rfl rfl rfl (by obtain rfl := Option.some.inj hf; exact hK)
      · have hf := lh_ifF hf c3
        refine lh_iload_n (q := 2) rfl rfl rfl ?_
        refine lh_bipush rfl lh_b_99 ?_
        refine lh_icmp_gt rfl (fun c4 => ?_) (fun c4 => ?_)
        · have hf := lh_ifT hf c4
          refine lh_iconst rfl lh_k_m1 ?_
          exact lh_iret rfl rfl rfl (by obtain rfl := Option.some.inj hf; exact hK)
        · have hf := lh_ifF hf c4
          refine lh_iload_n (q := 3) rfl rfl rfl ?_
          refine lh_if_lt rfl (fun c5 => ?_) (fun c5 => ?_)
          · have hf := lh_ifT hf c5
            refine lh_iconst rfl lh_k_m1 ?_
            exact lh_iret rfl rfl rfl (by obtain rfl := Option.some.inj hf; exact hK)
          · have hf := lh_ifF hf c5
            refine lh_iload_n (q := 3) rfl rfl rfl ?_
            refine lh_iconst rfl lh_k_2 ?_
            refine lh_icmp_le rfl (fun c6 => ?_) (fun c6 => ?_)
            · have hf := lh_ifT hf c6
              refine lh_aload_n (q := 0) rfl rfl rfl ?_
              refine lh_getR4 rfl rfl (hS.1 0 _ rfl) rfl (hS.2 11 _ rfl) ?_
              refine lh_aload_n (q := 0) rfl rfl rfl ?_
              refine lh_getR4 rfl rfl (hS.1 0 _ rfl) rfl (hS.2 10 _ rfl) ?_
              refine lh_bdE hf (fun r7 e8 hf => ?_)
              refine lh_cVv (N := m_Mo_become) (d := 0) (o := 8) (As := [.ref (7 + 4)]) (st := []) rfl rfl v_Mo_become (hS.1 8 _ rfl) rfl rfl rfl ⟨rfl, rfl⟩ rfl (t_Mo_become hG hS (hS.1 8 _ rfl) (hS.1 7 _ rfl) e8 ?_)
              refine lh_aload_n (q := 0) rfl rfl rfl ?_
              refine lh_iload_n (q := 1) rfl rfl rfl ?_
              refine lh_iload_n (q := 2) rfl rfl rfl ?_
              refine lh_bdE hf (fun r9 e10 hf => ?_)
              refine lh_cVv (N := m_LH_drawNight) (d := 6) (o := 0) (As := [.int x1, .int x2]) (st := []) rfl rfl v_LH_drawNight (hS.1 0 _ rfl) rfl rfl rfl ⟨rfl, rfl⟩ rfl (t_LH_drawNight hG hS ha hA hb hB e10 ?_)
              refine lh_iload_n (q := 3) rfl rfl rfl ?_
              refine lh_if_ne rfl (fun c11 => ?_) (fun c11 => ?_)
              · have hf := lh_ifF hf c11
                refine lh_iload_n (q := 3) rfl rfl rfl ?_
                refine lh_iconst rfl lh_k_1 ?_
                refine lh_icmp_ne rfl (fun c12 => ?_) (fun c12 => ?_)
                · have hf := lh_ifF hf c12
                  refine lh_aload_n (q := 0) rfl rfl rfl ?_
                  refine lh_getR4 rfl rfl (hS.1 0 _ rfl) rfl (hS.2 11 _ rfl) ?_
                  refine lh_getI4 rfl rfl (hS.1 8 _ rfl) rfl ?_
                  exact lh_iret rfl rfl rfl (by obtain rfl := Option.some.inj hf; exact hK)
                · have hf := lh_ifT hf c12
                  refine lh_aload_n (q := 0) rfl rfl rfl ?_
                  refine lh_getR4 rfl rfl (hS.1 0 _ rfl) rfl (hS.2 11 _ rfl) ?_
                  refine lh_getI4 rfl rfl (hS.1 8 _ rfl) rfl ?_
                  refine lh_aload_n (q := 0) rfl rfl rfl ?_
                  refine lh_getR4 rfl rfl (hS.1 0 _ rfl) rfl (hS.2 10 _ rfl) ?_
                  refine lh_getI4 rfl rfl (hS.1 7 _ rfl) rfl ?_
                  refine lh_isub rfl ?_
                  refine lh_goto rfl ?_
                  exact lh_iret rfl rfl rfl (by obtain rfl := Option.some.inj hf; exact hK)
              · have hf := lh_ifT hf c11
                refine lh_aload_n (q := 0) rfl rfl rfl ?_
                refine lh_getR4 rfl rfl (hS.1 0 _ rfl) rfl (hS.2 11 _ rfl) ?_
                refine lh_getI4 rfl rfl (hS.1 8 _ rfl) rfl ?_
                exact lh_iret rfl rfl rfl (by obtain rfl := Option.some.inj hf; exact hK)
            · have hf := lh_ifF hf c6
              refine lh_iconst rfl lh_k_m1 ?_
              exact lh_iret rfl rfl rfl (by obtain rfl := Option.some.inj hf; exact hK)
def f_LH_pass_10 (a : Nat) (b : Nat) (v1 : Int32) (v2 : Int32) (I : lh_II) : Nat → Int32 → Option (Nat × Int32)
  | 0, _ => none
  | n + 1, v3 => if 8 ≤ v3 then some (1, v3) else lh_bd (f_Ha_placeOf a v1 v3 I) fun r5 => if r5 = (-1) then f_LH_pass_10 a b v1 v2 I n (v3 + 1) else lh_bd (f_Ha_placeOf a v2 v3 I) fun r8 => if r5 = r8 then some (0, v3) else f_LH_pass_10 a b v1 v2 I n (v3 + 1)
def f_LH_pass (a : Nat) (b : Nat) (x1 : Int32) (x2 : Int32) (I : lh_II) : Option (Int32) := lh_bd (f_Ha_areTwoOfOneDay a x1 x2 I) fun r1 => if r1 = 0 then some (-1) else lh_bd (f_LH_pass_10 a b x1 x2 I lh_fuel 0) fun r11 => if r11.1 = 0 then some r11.2 else some (-1)
theorem t_LH_pass_10 {Γ : lh_Cx} {F : lh_FF} {S : lh_SS} {Z : List Frame → Array Value → State → State → Prop} (hG : lh_GX Γ) (hS : lh_lay F S) {a : Nat} (ha : lh_hl F S a) (hA : F (0 + 4) 6 = a + 4) {b : Nat} (hb : lh_nl F S b) (hB : F (0 + 4) 8 = b + 4) {v1 : Int32} {v2 : Int32} {I : lh_II} {L : lh_LL} : ∀ (n : Nat) (v3 : Int32) (o : Nat × Int32), f_LH_pass_10 a b v1 v2 I n v3 = some o → ∀ (x0_ : o.1 = 0 → lh_G Γ m_LH_pass (lh_R 2 0 0) Z 0 0 29 [(3, .int o.2)] [] (I, L, F, S)), ∀ (x1_ : o.1 = 1 → lh_G Γ m_LH_pass (lh_R 2 0 0) Z 0 0 33 [] [] (I, L, F, S)), lh_G Γ m_LH_pass (lh_R 2 0 0) Z 0 0 10 [(0, .ref (0 + 4)), (1, .int v1), (2, .int v2), (3, .int v3)] [] (I, L, F, S) := by
  intro n
  induction n with
  | zero => intro v3 o hf; cases hf
  | succ n ih =>
    intro v3 o hf x0_ x1_
    rw [f_LH_pass_10] at hf
    refine lh_iload_n (q := 3) rfl rfl rfl ?_
    refine lh_bipush rfl lh_b_8 ?_
    refine lh_icmp_ge rfl (fun c4 => ?_) (fun c4 => ?_)
    · have hf := lh_ifT hf c4
      exact lh_less [] rfl (by cases hf; exact x1_ rfl)
    · have hf := lh_ifF hf c4
      refine lh_aload_n (q := 0) rfl rfl rfl ?_
      refine lh_getR4 rfl rfl (hS.1 0 _ rfl) rfl hA ?_
      refine lh_iload_n (q := 1) rfl rfl rfl ?_
      refine lh_iload_n (q := 3) rfl rfl rfl ?_
      refine lh_bdE hf (fun r5 e6 hf => ?_)
      refine lh_cVi (N := m_Ha_placeOf) (d := 1) (o := a) (As := [.int v1, .int v3]) (st := []) rfl rfl v_Ha_placeOf (ha.1 0 _ rfl) rfl rfl rfl ⟨rfl, rfl⟩ rfl (t_Ha_placeOf hG hS ha e6 ?_)
      refine lh_istore (lv' := [(0, .ref (0 + 4)), (1, .int v1), (2, .int v2), (3, .int v3), (4, .int r5)]) rfl rfl rfl ?_
      refine lh_iload (q := 4) rfl rfl ?_
      refine lh_iconst rfl lh_k_m1 ?_
      refine lh_icmp_eq rfl (fun c7 => ?_) (fun c7 => ?_)
      · have hf := lh_ifT hf c7
        refine lh_iinc (q := 3) (v := (v3 + 1)) (lv' := [(0, .ref (0 + 4)), (1, .int v1), (2, .int v2), (3, .int (v3 + 1)), (4, .int r5)]) rfl rfl (congrArg (v3 + ·) (by decide)) rfl rfl ?_
        refine lh_goto rfl ?_
        refine lh_less [0, 1, 2, 3] rfl ?_
        exact ih (v3 + 1) _ hf x0_ x1_
      · have hf := lh_ifF hf c7
        refine lh_iload (q := 4) rfl rfl ?_
        refine lh_aload_n (q := 0) rfl rfl rfl ?_
        refine lh_getR4 rfl rfl (hS.1 0 _ rfl) rfl hA ?_
        refine lh_iload_n (q := 2) rfl rfl rfl ?_
        refine lh_iload_n (q := 3) rfl rfl rfl ?_
        refine lh_bdE hf (fun r8 e9 hf => ?_)
        refine lh_cVi (N := m_Ha_placeOf) (d := 1) (o := a) (As := [.int v2, .int v3]) (st := [.int r5]) rfl rfl v_Ha_placeOf (ha.1 0 _ rfl) rfl rfl rfl ⟨rfl, rfl⟩ rfl (t_Ha_placeOf hG hS ha e9 ?_)
        refine lh_icmp_ne rfl (fun c10 => ?_) (fun c10 => ?_)
        · have hf := lh_ifF hf c10
          refine lh_iinc (q := 3) (v := (v3 + 1)) (lv' := [(0, .ref (0 + 4)), (1, .int v1), (2, .int v2), (3, .int (v3 + 1)), (4, .int r5)]) rfl rfl (congrArg (v3 + ·) (by decide)) rfl rfl ?_
          refine lh_goto rfl ?_
          refine lh_less [0, 1, 2, 3] rfl ?_
          exact ih (v3 + 1) _ hf x0_ x1_
        · have hf := lh_ifT hf c10
          exact lh_less [3] rfl (by cases hf; exact x0_ rfl)
theorem t_LH_pass {Γ : lh_Cx} {I : lh_II} {L : lh_LL} {F : lh_FF} {S : lh_SS} {K : Int32 → lh_Hp → Prop} {r : Int32} (hG : lh_GX Γ) (hS : lh_lay F S) {a : Nat} (ha : lh_hl F S a) (hA : F (0 + 4) 6 = a + 4) {b : Nat} (hb : lh_nl F S b) (hB : F (0 + 4) 8 = b + 4) {x1 : Int32} {x2 : Int32} (hf : f_LH_pass a b x1 x2 I = some r) (hK : K r (I, L, F, S)) : lh_Met Γ m_LH_pass 2 0 0 [.ref (0 + 4), .int x1, .int x2] (I, L, F, S) (lh_ki K) := by
  rw [f_LH_pass] at hf
  refine lh_ofG k_LH_pass [(0, .ref (0 + 4)), (1, .int x1), (2, .int x2)] rfl (Nat.le_of_ble_eq_true rfl) rfl ?_
  refine lh_aload_n (q := 0) rfl rfl rfl ?_
  refine lh_getR4 rfl rfl (hS.1 0 _ rfl) rfl hA ?_
  refine lh_iload_n (q := 1) rfl rfl rfl ?_
  refine lh_iload_n (q := 2) rfl rfl rfl ?_
  refine lh_bdE hf (fun r1 e2 hf => ?_)
  refine lh_cVi (N := m_Ha_areTwoOfOneDay) (d := 1) (o := a) (As := [.int x1, .int x2]) (st := []) rfl rfl v_Ha_areTwoOfOneDay (ha.1 0 _ rfl) rfl rfl rfl ⟨rfl, rfl⟩ rfl (t_Ha_areTwoOfOneDay hG hS ha e2 ?_)
  refine lh_if_ne rfl (fun c3 => ?_) (fun c3 => ?_)
  · have hf := lh_ifF hf c3
    refine lh_iconst rfl lh_k_0 ?_
    refine lh_istore_n (lv' := [(0, .ref (0 + 4)), (1, .int x1), (2, .int x2), (3, .int 0)]) rfl rfl rfl rfl ?_
    refine lh_bdE hf (fun r11 e12 hf => ?_)
    refine t_LH_pass_10 hG hS ha hA hb hB _ 0 _ e12 (fun q0_ => ?_) (fun q1_ => ?_)
    · have hf := lh_ifT hf q0_
      refine lh_iload_n (q := 0) rfl rfl rfl ?_
      exact lh_iret rfl rfl rfl (by obtain rfl := Option.some.inj hf; exact hK)
    · have hf := lh_ifF hf (by rw [q1_]; decide)
      refine lh_iconst rfl lh_k_m1 ?_
      exact lh_iret rfl rfl rfl (by obtain rfl := Option.some.inj hf; exact hK)
  · have hf := lh_ifT hf c3
    refine lh_iconst rfl lh_k_m1 ?_
    exact lh_iret rfl rfl rfl (by obtain rfl := Option.some.inj hf; exact hK)
def f_Wa_fewestToStand_13 (a : Nat) (m : Nat) (v3 : Int32) : Nat → Int32 → Int32 → Int32 → Int32 → lh_II → Option (Nat × Int32 × lh_II)
  | 0, _, _, _, _, _ => none
  | n + 1, v4, v5, v6, v7, I => if 40 < v7 then some (1, v7, I) else if ((v4 >>> (v3 &&& 31)) &&& 1) = 1 then some (0, v7, I) else lh_bd (f_Ha_allCells a I) fun r3 => lh_bd (f_Ha_closedCells a (I (m + 4) 2) v6 v5 I) fun r5 => f_Wa_fewestToStand_13 a m v3 n (v4 ||| (((v4 <<< ((1 : Int32) &&& 31)) ||| (v4 >>> ((1 : Int32) &&& 31))) &&& (r3 &&& (r5.1 ^^^ (-1))))) ((v5 + 1) - (v5 + 1) / 8 * 8) (if 0 < (v6 - 1) then (v6 - 1) else 0) (v7 + 1) r5.2
def f_Wa_fewestToStand (a : Nat) (m : Nat) (x1 : Int32) (I : lh_II) : Option (Int32 × lh_II) := lh_bd (f_Wa_fewestToStand_13 a m x1 lh_fuel ((1 : Int32) <<< ((I (m + 4) 0) &&& 31)) (I (m + 4) 1) (I (m + 4) 3) 0 I) fun r7 => if r7.1 = 0 then some (r7.2.1, r7.2.2) else some ((-1), r7.2.2)
theorem t_Wa_fewestToStand_13 {Γ : lh_Cx} {F : lh_FF} {S : lh_SS} {Z : List Frame → Array Value → State → State → Prop} (hG : lh_GX Γ) (hS : lh_lay F S) {a : Nat} (ha : lh_hl F S a) {m : Nat} (hm : S[m]? = some (10, 0)) {v3 : Int32} {L : lh_LL} : ∀ (n : Nat) (v4 : Int32) (v5 : Int32) (v6 : Int32) (v7 : Int32) (I : lh_II) (o : Nat × Int32 × lh_II), f_Wa_fewestToStand_13 a m v3 n v4 v5 v6 v7 I = some o → ∀ (x0_ : o.1 = 0 → lh_G Γ m_Wa_fewestToStand (lh_R 4 0 0) Z 0 0 23 [(7, .int o.2.1)] [] (o.2.2, L, F, S)), ∀ (x1_ : o.1 = 1 → lh_G Γ m_Wa_fewestToStand (lh_R 4 0 0) Z 0 0 63 [] [] (o.2.2, L, F, S)), lh_G Γ m_Wa_fewestToStand (lh_R 4 0 0) Z 0 0 13 [(1, .ref (a + 4)), (2, .ref (m + 4)), (3, .int v3), (4, .int v4), (5, .int v5), (6, .int v6), (7, .int v7)] [] (I, L, F, S) := by
  intro n
  induction n with
  | zero => intro v4 v5 v6 v7 I o hf; cases hf
  | succ n ih =>
    intro v4 v5 v6 v7 I o hf x0_ x1_
    rw [f_Wa_fewestToStand_13] at hf
    refine lh_iload (q := 6) rfl rfl ?_
    refine lh_bipush rfl lh_b_40 ?_
    refine lh_icmp_gt rfl (fun c1 => ?_) (fun c1 => ?_)
    · have hf := lh_ifT hf c1
      exact lh_less [] rfl (by cases hf; exact x1_ rfl)
    · have hf := lh_ifF hf c1
      refine lh_iload (q := 3) rfl rfl ?_
      refine lh_iload_n (q := 2) rfl rfl rfl ?_
      refine lh_ishr rfl ?_
      refine lh_iconst rfl lh_k_1 ?_
      refine lh_iand rfl ?_
      refine lh_iconst rfl lh_k_1 ?_
      refine lh_icmp_ne rfl (fun c2 => ?_) (fun c2 => ?_)
      · have hf := lh_ifF hf c2
        refine lh_aload_n (q := 0) rfl rfl rfl ?_
        refine lh_bdE hf (fun r3 e4 hf => ?_)
        refine lh_cVi (N := m_Ha_allCells) (d := 0) (o := a) (As := []) (st := []) rfl rfl v_Ha_allCells (ha.1 0 _ rfl) rfl rfl rfl ⟨rfl, rfl⟩ rfl (t_Ha_allCells hG hS ha e4 ?_)
        refine lh_aload_n (q := 0) rfl rfl rfl ?_
        refine lh_aload_n (q := 1) rfl rfl rfl ?_
        refine lh_getI4 rfl rfl hm rfl ?_
        refine lh_iload (q := 5) rfl rfl ?_
        refine lh_iload (q := 4) rfl rfl ?_
        refine lh_bdE hf (fun r5 e6 hf => ?_)
        refine lh_cVi (N := m_Ha_closedCells) (d := 3) (o := a) (As := [.int (I (m + 4) 2), .int v6, .int v5]) (st := [.int r3]) rfl rfl v_Ha_closedCells (ha.1 0 _ rfl) rfl rfl rfl ⟨rfl, rfl⟩ rfl (t_Ha_closedCells hG hS ha e6 ?_)
        refine lh_iconst rfl lh_k_m1 ?_
        refine lh_ixor rfl ?_
        refine lh_iand rfl ?_
        refine lh_istore (lv' := [(1, .ref (a + 4)), (2, .ref (m + 4)), (3, .int v3), (4, .int v4), (5, .int v5), (6, .int v6), (7, .int v7), (8, .int (r3 &&& (r5.1 ^^^ (-1))))]) rfl rfl rfl ?_
        refine lh_iload (q := 3) rfl rfl ?_
        refine lh_iload (q := 3) rfl rfl ?_
        refine lh_iconst rfl lh_k_1 ?_
        refine lh_ishl rfl ?_
        refine lh_iload (q := 3) rfl rfl ?_
        refine lh_iconst rfl lh_k_1 ?_
        refine lh_ishr rfl ?_
        refine lh_ior rfl ?_
        refine lh_iload (q := 7) rfl rfl ?_
        refine lh_iand rfl ?_
        refine lh_ior rfl ?_
        refine lh_istore (lv' := [(1, .ref (a + 4)), (2, .ref (m + 4)), (3, .int v3), (4, .int (v4 ||| (((v4 <<< ((1 : Int32) &&& 31)) ||| (v4 >>> ((1 : Int32) &&& 31))) &&& (r3 &&& (r5.1 ^^^ (-1)))))), (5, .int v5), (6, .int v6), (7, .int v7), (8, .int (r3 &&& (r5.1 ^^^ (-1))))]) rfl rfl rfl ?_
        refine lh_iload (q := 4) rfl rfl ?_
        refine lh_iconst rfl lh_k_1 ?_
        refine lh_iadd rfl ?_
        refine lh_bipush rfl lh_b_8 ?_
        refine lh_irem rfl (by decide) ?_
        refine lh_istore (lv' := [(1, .ref (a + 4)), (2, .ref (m + 4)), (3, .int v3), (4, .int (v4 ||| (((v4 <<< ((1 : Int32) &&& 31)) ||| (v4 >>> ((1 : Int32) &&& 31))) &&& (r3 &&& (r5.1 ^^^ (-1)))))), (5, .int ((v5 + 1) - (v5 + 1) / 8 * 8)), (6, .int v6), (7, .int v7), (8, .int (r3 &&& (r5.1 ^^^ (-1))))]) rfl rfl rfl ?_
        refine lh_iconst rfl lh_k_0 ?_
        refine lh_iload (q := 5) rfl rfl ?_
        refine lh_iconst rfl lh_k_1 ?_
        refine lh_isub rfl ?_
        refine lh_max rfl rfl ⟨rfl, rfl⟩ rfl ?_
        refine lh_istore (lv' := [(1, .ref (a + 4)), (2, .ref (m + 4)), (3, .int v3), (4, .int (v4 ||| (((v4 <<< ((1 : Int32) &&& 31)) ||| (v4 >>> ((1 : Int32) &&& 31))) &&& (r3 &&& (r5.1 ^^^ (-1)))))), (5, .int ((v5 + 1) - (v5 + 1) / 8 * 8)), (6, .int (if 0 < (v6 - 1) then (v6 - 1) else 0)), (7, .int v7), (8, .int (r3 &&& (r5.1 ^^^ (-1))))]) rfl rfl rfl ?_
        refine lh_iinc (q := 6) (v := (v7 + 1)) (lv' := [(1, .ref (a + 4)), (2, .ref (m + 4)), (3, .int v3), (4, .int (v4 ||| (((v4 <<< ((1 : Int32) &&& 31)) ||| (v4 >>> ((1 : Int32) &&& 31))) &&& (r3 &&& (r5.1 ^^^ (-1)))))), (5, .int ((v5 + 1) - (v5 + 1) / 8 * 8)), (6, .int (if 0 < (v6 - 1) then (v6 - 1) else 0)), (7, .int (v7 + 1)), (8, .int (r3 &&& (r5.1 ^^^ (-1))))]) rfl rfl (congrArg (v7 + ·) (by decide)) rfl rfl ?_
        refine lh_goto rfl ?_
        refine lh_less [0, 1, 2, 3, 4, 5, 6] rfl ?_
        exact ih (v4 ||| (((v4 <<< ((1 : Int32) &&& 31)) ||| (v4 >>> ((1 : Int32) &&& 31))) &&& (r3 &&& (r5.1 ^^^ (-1))))) ((v5 + 1) - (v5 + 1) / 8 * 8) (if 0 < (v6 - 1) then (v6 - 1) else 0) (v7 + 1) r5.2 _ hf x0_ x1_
      · have hf := lh_ifT hf c2
        exact lh_less [6] rfl (by cases hf; exact x0_ rfl)
theorem t_Wa_fewestToStand {Γ : lh_Cx} {I : lh_II} {L : lh_LL} {F : lh_FF} {S : lh_SS} {K : Int32 → lh_Hp → Prop} {r : Int32 × lh_II} (hG : lh_GX Γ) (hS : lh_lay F S) {a : Nat} (ha : lh_hl F S a) {m : Nat} (hm : S[m]? = some (10, 0)) {x1 : Int32} (hf : f_Wa_fewestToStand a m x1 I = some r) (hK : K r.1 (r.2, L, F, S)) : lh_Met Γ m_Wa_fewestToStand 4 0 0 [.ref (4 + 4), .ref (a + 4), .ref (m + 4), .int x1] (I, L, F, S) (lh_ki K) := by
  rw [f_Wa_fewestToStand] at hf
  refine lh_ofG k_Wa_fewestToStand [(0, .ref (4 + 4)), (1, .ref (a + 4)), (2, .ref (m + 4)), (3, .int x1)] rfl (Nat.le_of_ble_eq_true rfl) rfl ?_
  refine lh_iconst rfl lh_k_1 ?_
  refine lh_aload_n (q := 2) rfl rfl rfl ?_
  refine lh_getI4 rfl rfl hm rfl ?_
  refine lh_ishl rfl ?_
  refine lh_istore (lv' := [(0, .ref (4 + 4)), (1, .ref (a + 4)), (2, .ref (m + 4)), (3, .int x1), (4, .int ((1 : Int32) <<< ((I (m + 4) 0) &&& 31)))]) rfl rfl rfl ?_
  refine lh_aload_n (q := 2) rfl rfl rfl ?_
  refine lh_getI4 rfl rfl hm rfl ?_
  refine lh_istore (lv' := [(0, .ref (4 + 4)), (1, .ref (a + 4)), (2, .ref (m + 4)), (3, .int x1), (4, .int ((1 : Int32) <<< ((I (m + 4) 0) &&& 31))), (5, .int (I (m + 4) 1))]) rfl rfl rfl ?_
  refine lh_aload_n (q := 2) rfl rfl rfl ?_
  refine lh_getI4 rfl rfl hm rfl ?_
  refine lh_istore (lv' := [(0, .ref (4 + 4)), (1, .ref (a + 4)), (2, .ref (m + 4)), (3, .int x1), (4, .int ((1 : Int32) <<< ((I (m + 4) 0) &&& 31))), (5, .int (I (m + 4) 1)), (6, .int (I (m + 4) 3))]) rfl rfl rfl ?_
  refine lh_iconst rfl lh_k_0 ?_
  refine lh_istore (lv' := [(0, .ref (4 + 4)), (1, .ref (a + 4)), (2, .ref (m + 4)), (3, .int x1), (4, .int ((1 : Int32) <<< ((I (m + 4) 0) &&& 31))), (5, .int (I (m + 4) 1)), (6, .int (I (m + 4) 3)), (7, .int 0)]) rfl rfl rfl ?_
  refine lh_bdE hf (fun r7 e8 hf => ?_)
  refine lh_less [1, 2, 3, 4, 5, 6, 7] rfl ?_
  refine t_Wa_fewestToStand_13 hG hS ha hm _ ((1 : Int32) <<< ((I (m + 4) 0) &&& 31)) (I (m + 4) 1) (I (m + 4) 3) 0 I _ e8 (fun q0_ => ?_) (fun q1_ => ?_)
  · have hf := lh_ifT hf q0_
    refine lh_iload (q := 0) rfl rfl ?_
    exact lh_iret rfl rfl rfl (by obtain rfl := Option.some.inj hf; exact hK)
  · have hf := lh_ifF hf (by rw [q1_]; decide)
    refine lh_iconst rfl lh_k_m1 ?_
    exact lh_iret rfl rfl rfl (by obtain rfl := Option.some.inj hf; exact hK)
def f_LH_reach (a : Nat) (b : Nat) (x1 : Int32) (I : lh_II) : Option (Int32 × lh_II) := lh_bd (f_Ha_hasCell a x1 I) fun r1 => if r1 = 0 then some ((-1), I) else lh_bd (f_Ha_hasPillar a x1 I) fun r4 => if r4 = 0 then lh_bd (f_Wa_fewestToStand a 7 x1 I) fun r7 => some (r7.1, r7.2) else some ((-1), I)
theorem t_LH_reach {Γ : lh_Cx} {I : lh_II} {L : lh_LL} {F : lh_FF} {S : lh_SS} {K : Int32 → lh_Hp → Prop} {r : Int32 × lh_II} (hG : lh_GX Γ) (hS : lh_lay F S) {a : Nat} (ha : lh_hl F S a) (hA : F (0 + 4) 6 = a + 4) {b : Nat} (hb : lh_nl F S b) (hB : F (0 + 4) 8 = b + 4) {x1 : Int32} (hf : f_LH_reach a b x1 I = some r) (hK : K r.1 (r.2, L, F, S)) : lh_Met Γ m_LH_reach 5 0 0 [.ref (0 + 4), .int x1] (I, L, F, S) (lh_ki K) := by
  rw [f_LH_reach] at hf
  refine lh_ofG k_LH_reach [(0, .ref (0 + 4)), (1, .int x1)] rfl (Nat.le_of_ble_eq_true rfl) rfl ?_
  refine lh_aload_n (q := 0) rfl rfl rfl ?_
  refine lh_getR4 rfl rfl (hS.1 0 _ rfl) rfl hA ?_
  refine lh_iload_n (q := 1) rfl rfl rfl ?_
  refine lh_bdE hf (fun r1 e2 hf => ?_)
  refine lh_cVi (N := m_Ha_hasCell) (d := 0) (o := a) (As := [.int x1]) (st := []) rfl rfl v_Ha_hasCell (ha.1 0 _ rfl) rfl rfl rfl ⟨rfl, rfl⟩ rfl (t_Ha_hasCell hG hS ha e2 ?_)
  refine lh_if_eq rfl (fun c3 => ?_) (fun c3 => ?_)
  · have hf := lh_ifT hf c3
    refine lh_iconst rfl lh_k_m1 ?_
    exact lh_iret rfl rfl rfl (by obtain rfl := Option.some.inj hf; exact hK)
  · have hf := lh_ifF hf c3
    refine lh_aload_n (q := 0) rfl rfl rfl ?_
    refine lh_getR4 rfl rfl (hS.1 0 _ rfl) rfl hA ?_
    refine lh_iload_n (q := 1) rfl rfl rfl ?_
    refine lh_bdE hf (fun r4 e5 hf => ?_)
    refine lh_cVi (N := m_Ha_hasPillar) (d := 1) (o := a) (As := [.int x1]) (st := []) rfl rfl v_Ha_hasPillar (ha.1 0 _ rfl) rfl rfl rfl ⟨rfl, rfl⟩ rfl (t_Ha_hasPillar hG hS ha e5 ?_)
    refine lh_if_eq rfl (fun c6 => ?_) (fun c6 => ?_)
    · have hf := lh_ifT hf c6
      refine lh_aload_n (q := 0) rfl rfl rfl ?_
      refine lh_getR4 rfl rfl (hS.1 0 _ rfl) rfl (hS.2 9 _ rfl) ?_
      refine lh_aload_n (q := 0) rfl rfl rfl ?_
      refine lh_getR4 rfl rfl (hS.1 0 _ rfl) rfl hA ?_
      refine lh_aload_n (q := 0) rfl rfl rfl ?_
      refine lh_getR4 rfl rfl (hS.1 0 _ rfl) rfl (hS.2 10 _ rfl) ?_
      refine lh_iload_n (q := 1) rfl rfl rfl ?_
      refine lh_bdE hf (fun r7 e8 hf => ?_)
      refine lh_cVi (N := m_Wa_fewestToStand) (d := 4) (o := 4) (As := [.ref (a + 4), .ref (7 + 4), .int x1]) (st := []) rfl rfl v_Wa_fewestToStand (hS.1 4 _ rfl) rfl rfl rfl ⟨rfl, rfl⟩ rfl (t_Wa_fewestToStand hG hS ha (hS.1 7 _ rfl) e8 ?_)
      exact lh_iret rfl rfl rfl (by obtain rfl := Option.some.inj hf; exact hK)
    · have hf := lh_ifF hf c6
      refine lh_iconst rfl lh_k_m1 ?_
      exact lh_iret rfl rfl rfl (by obtain rfl := Option.some.inj hf; exact hK)
def f_LH_same_11 (a : Nat) (b : Nat) (v2 : Int32) (I : lh_II) : Nat → Int32 → Int32 → Option (Int32)
  | 0, _, _ => none
  | n + 1, v1, v3 => if 4 ≤ v3 then some v1 else lh_bd (f_Ha_areAlike a v2 v3 I) fun r3 => if r3 = 0 then f_LH_same_11 a b v2 I n v1 (v3 + 1) else f_LH_same_11 a b v2 I n (v1 + 1) (v3 + 1)
def f_LH_same_4 (a : Nat) (b : Nat) (I : lh_II) : Nat → Int32 → Int32 → Option (Int32)
  | 0, _, _ => none
  | n + 1, v1, v2 => if 4 ≤ v2 then some v1 else lh_bd (f_LH_same_11 a b v2 I lh_fuel v1 (v2 + 1)) fun r6 => f_LH_same_4 a b I n r6 (v2 + 1)
def f_LH_same (a : Nat) (b : Nat) (I : lh_II) : Option (Int32) := lh_bd (f_LH_same_4 a b I lh_fuel 0 0) fun r8 => some r8
theorem t_LH_same_11 {Γ : lh_Cx} {F : lh_FF} {S : lh_SS} {Z : List Frame → Array Value → State → State → Prop} (hG : lh_GX Γ) (hS : lh_lay F S) {a : Nat} (ha : lh_hl F S a) (hA : F (0 + 4) 6 = a + 4) {b : Nat} (hb : lh_nl F S b) (hB : F (0 + 4) 8 = b + 4) {v2 : Int32} {I : lh_II} {L : lh_LL} : ∀ (n : Nat) (v1 : Int32) (v3 : Int32) (o : Int32), f_LH_same_11 a b v2 I n v1 v3 = some o → ∀ (x0_ : lh_G Γ m_LH_same (lh_R 4 0 0) Z 0 0 23 [(0, .ref (0 + 4)), (1, .int o), (2, .int v2)] [] (I, L, F, S)), lh_G Γ m_LH_same (lh_R 4 0 0) Z 0 0 11 [(0, .ref (0 + 4)), (1, .int v1), (2, .int v2), (3, .int v3)] [] (I, L, F, S) := by
  intro n
  induction n with
  | zero => intro v1 v3 o hf; cases hf
  | succ n ih =>
    intro v1 v3 o hf x0_
    rw [f_LH_same_11] at hf
    refine lh_iload_n (q := 3) rfl rfl rfl ?_
    refine lh_iconst rfl lh_k_4 ?_
    refine lh_icmp_ge rfl (fun c2 => ?_) (fun c2 => ?_)
    · have hf := lh_ifT hf c2
      exact lh_less [0, 1, 2] rfl (by cases hf; exact x0_)
    · have hf := lh_ifF hf c2
      refine lh_aload_n (q := 0) rfl rfl rfl ?_
      refine lh_getR4 rfl rfl (hS.1 0 _ rfl) rfl hA ?_
      refine lh_iload_n (q := 2) rfl rfl rfl ?_
      refine lh_iload_n (q := 3) rfl rfl rfl ?_
      refine lh_bdE hf (fun r3 e4 hf => ?_)
      refine lh_cVi (N := m_Ha_areAlike) (d := 3) (o := a) (As := [.int v2, .int v3]) (st := []) rfl rfl v_Ha_areAlike (ha.1 0 _ rfl) rfl rfl rfl ⟨rfl, rfl⟩ rfl (t_Ha_areAlike hG hS ha e4 ?_)
      refine lh_if_eq rfl (fun c5 => ?_) (fun c5 => ?_)
      · have hf := lh_ifT hf c5
        refine lh_iinc (q := 3) (v := (v3 + 1)) (lv' := [(0, .ref (0 + 4)), (1, .int v1), (2, .int v2), (3, .int (v3 + 1))]) rfl rfl (congrArg (v3 + ·) (by decide)) rfl rfl ?_
        refine lh_goto rfl ?_
        exact ih v1 (v3 + 1) _ hf x0_
      · have hf := lh_ifF hf c5
        refine lh_iinc (q := 1) (v := (v1 + 1)) (lv' := [(0, .ref (0 + 4)), (1, .int (v1 + 1)), (2, .int v2), (3, .int v3)]) rfl rfl (congrArg (v1 + ·) (by decide)) rfl rfl ?_
        refine lh_iinc (q := 3) (v := (v3 + 1)) (lv' := [(0, .ref (0 + 4)), (1, .int (v1 + 1)), (2, .int v2), (3, .int (v3 + 1))]) rfl rfl (congrArg (v3 + ·) (by decide)) rfl rfl ?_
        refine lh_goto rfl ?_
        exact ih (v1 + 1) (v3 + 1) _ hf x0_
theorem t_LH_same_4 {Γ : lh_Cx} {F : lh_FF} {S : lh_SS} {Z : List Frame → Array Value → State → State → Prop} (hG : lh_GX Γ) (hS : lh_lay F S) {a : Nat} (ha : lh_hl F S a) (hA : F (0 + 4) 6 = a + 4) {b : Nat} (hb : lh_nl F S b) (hB : F (0 + 4) 8 = b + 4)  {I : lh_II} {L : lh_LL} : ∀ (n : Nat) (v1 : Int32) (v2 : Int32) (o : Int32), f_LH_same_4 a b I n v1 v2 = some o → ∀ (x0_ : lh_G Γ m_LH_same (lh_R 4 0 0) Z 0 0 25 [(1, .int o)] [] (I, L, F, S)), lh_G Γ m_LH_same (lh_R 4 0 0) Z 0 0 4 [(0, .ref (0 + 4)), (1, .int v1), (2, .int v2)] [] (I, L, F, S) := by
  intro n
  induction n with
  | zero => intro v1 v2 o hf; cases hf
  | succ n ih =>
    intro v1 v2 o hf x0_
    rw [f_LH_same_4] at hf
    refine lh_iload_n (q := 2) rfl rfl rfl ?_
    refine lh_iconst rfl lh_k_4 ?_
    refine lh_icmp_ge rfl (fun c1 => ?_) (fun c1 => ?_)
    · have hf := lh_ifT hf c1
      exact lh_less [1] rfl (by cases hf; exact x0_)
    · have hf := lh_ifF hf c1
      refine lh_iload_n (q := 2) rfl rfl rfl ?_
      refine lh_iconst rfl lh_k_1 ?_
      refine lh_iadd rfl ?_
      refine lh_istore_n (lv' := [(0, .ref (0 + 4)), (1, .int v1), (2, .int v2), (3, .int (v2 + 1))]) rfl rfl rfl rfl ?_
      refine lh_bdE hf (fun r6 e7 hf => ?_)
      refine t_LH_same_11 hG hS ha hA hb hB _ v1 (v2 + 1) _ e7 ?_
      refine lh_iinc (q := 2) (v := (v2 + 1)) (lv' := [(0, .ref (0 + 4)), (1, .int r6), (2, .int (v2 + 1))]) rfl rfl (congrArg (v2 + ·) (by decide)) rfl rfl ?_
      refine lh_goto rfl ?_
      exact ih r6 (v2 + 1) _ hf x0_
theorem t_LH_same {Γ : lh_Cx} {I : lh_II} {L : lh_LL} {F : lh_FF} {S : lh_SS} {K : Int32 → lh_Hp → Prop} {r : Int32} (hG : lh_GX Γ) (hS : lh_lay F S) {a : Nat} (ha : lh_hl F S a) (hA : F (0 + 4) 6 = a + 4) {b : Nat} (hb : lh_nl F S b) (hB : F (0 + 4) 8 = b + 4) (hf : f_LH_same a b I = some r) (hK : K r (I, L, F, S)) : lh_Met Γ m_LH_same 4 0 0 [.ref (0 + 4)] (I, L, F, S) (lh_ki K) := by
  rw [f_LH_same] at hf
  refine lh_ofG k_LH_same [(0, .ref (0 + 4))] rfl (Nat.le_of_ble_eq_true rfl) rfl ?_
  refine lh_iconst rfl lh_k_0 ?_
  refine lh_istore_n (lv' := [(0, .ref (0 + 4)), (1, .int 0)]) rfl rfl rfl rfl ?_
  refine lh_iconst rfl lh_k_0 ?_
  refine lh_istore_n (lv' := [(0, .ref (0 + 4)), (1, .int 0), (2, .int 0)]) rfl rfl rfl rfl ?_
  refine lh_bdE hf (fun r8 e9 hf => ?_)
  refine t_LH_same_4 hG hS ha hA hb hB _ 0 0 _ e9 ?_
  refine lh_iload_n (q := 0) rfl rfl rfl ?_
  exact lh_iret rfl rfl rfl (by obtain rfl := Option.some.inj hf; exact hK)
def f_LH_say (a : Nat) (b : Nat) (x1 : Int32) (x2 : Int32) (x3 : Int32) (I : lh_II) : Option (Int32 × lh_II) := lh_bd (f_LH_isHour x1) fun r1 => if r1 = 0 then some (0, I) else lh_bd (f_Ha_hasCell a x2 I) fun r4 => if r4 = 0 then some (0, I) else if (I (0 + 4) 12) < 8 then lh_bd (f_Ha_daysWithSomebody a x1 x2 (lh_u2 I (0 + 4) 12 ((I (0 + 4) 12) + 1))) fun r8 => if x3 = 0 then some (1, lh_u2 (lh_u2 I (0 + 4) 12 ((I (0 + 4) 12) + 1)) (0 + 4) 13 (((lh_u2 I (0 + 4) 12 ((I (0 + 4) 12) + 1)) (0 + 4) 13) &&& (r8 ^^^ (-1)))) else some (1, lh_u2 (lh_u2 I (0 + 4) 12 ((I (0 + 4) 12) + 1)) (0 + 4) 13 (((lh_u2 I (0 + 4) 12 ((I (0 + 4) 12) + 1)) (0 + 4) 13) &&& r8)) else some (0, I)
theorem t_LH_say {Γ : lh_Cx} {I : lh_II} {L : lh_LL} {F : lh_FF} {S : lh_SS} {K : Int32 → lh_Hp → Prop} {r : Int32 × lh_II} (hG : lh_GX Γ) (hS : lh_lay F S) {a : Nat} (ha : lh_hl F S a) (hA : F (0 + 4) 6 = a + 4) {b : Nat} (hb : lh_nl F S b) (hB : F (0 + 4) 8 = b + 4) {x1 : Int32} {x2 : Int32} {x3 : Int32} (hf : f_LH_say a b x1 x2 x3 I = some r) (hK : K r.1 (r.2, L, F, S)) : lh_Met Γ m_LH_say 3 0 0 [.ref (0 + 4), .int x1, .int x2, .int x3] (I, L, F, S) (lh_ki K) := by
  rw [f_LH_say] at hf
  refine lh_ofG k_LH_say [(0, .ref (0 + 4)), (1, .int x1), (2, .int x2), (3, .int x3)] rfl (Nat.le_of_ble_eq_true rfl) rfl ?_
  refine lh_iload_n (q := 1) rfl rfl rfl ?_
  refine lh_bdE hf (fun r1 e2 hf => ?_)
  refine lh_cSi (N := m_LH_isHour) (d := 0) (As := [.int x1]) (st := []) rfl rfl v_LH_isHour rfl rfl ⟨rfl, rfl⟩ rfl (t_LH_isHour hG hS e2 ?_)
  refine lh_if_eq rfl (fun c3 => ?_) (fun c3 => ?_)
  · have hf := lh_ifT hf c3
    refine lh_iconst rfl lh_k_0 ?_
    exact lh_iret rfl rfl (by decide) (by obtain rfl := Option.some.inj hf; exact hK)
  · have hf := lh_ifF hf c3
    refine lh_aload_n (q := 0) rfl rfl rfl ?_
    refine lh_getR4 rfl rfl (hS.1 0 _ rfl) rfl hA ?_
    refine lh_iload_n (q := 2) rfl rfl rfl ?_
    refine lh_bdE hf (fun r4 e5 hf => ?_)
    refine lh_cVi (N := m_Ha_hasCell) (d := 0) (o := a) (As := [.int x2]) (st := []) rfl rfl v_Ha_hasCell (ha.1 0 _ rfl) rfl rfl rfl ⟨rfl, rfl⟩ rfl (t_Ha_hasCell hG hS ha e5 ?_)
    refine lh_if_eq rfl (fun c6 => ?_) (fun c6 => ?_)
    · have hf := lh_ifT hf c6
      refine lh_iconst rfl lh_k_0 ?_
      exact lh_iret rfl rfl (by decide) (by obtain rfl := Option.some.inj hf; exact hK)
    · have hf := lh_ifF hf c6
      refine lh_aload_n (q := 0) rfl rfl rfl ?_
      refine lh_getI4 rfl rfl (hS.1 0 _ rfl) rfl ?_
      refine lh_bipush rfl lh_b_8 ?_
      refine lh_icmp_lt rfl (fun c7 => ?_) (fun c7 => ?_)
      · have hf := lh_ifT hf c7
        refine lh_aload_n (q := 0) rfl rfl rfl ?_
        refine lh_dup rfl rfl ?_
        refine lh_getI4 rfl rfl (hS.1 0 _ rfl) rfl ?_
        refine lh_iconst rfl lh_k_1 ?_
        refine lh_iadd rfl ?_
        refine lh_putI4 rfl rfl (hS.1 0 _ rfl) rfl rfl ?_
        refine lh_aload_n (q := 0) rfl rfl rfl ?_
        refine lh_getR4 rfl rfl (hS.1 0 _ rfl) rfl hA ?_
        refine lh_iload_n (q := 1) rfl rfl rfl ?_
        refine lh_iload_n (q := 2) rfl rfl rfl ?_
        refine lh_bdE hf (fun r8 e9 hf => ?_)
        refine lh_cVi (N := m_Ha_daysWithSomebody) (d := 2) (o := a) (As := [.int x1, .int x2]) (st := []) rfl rfl v_Ha_daysWithSomebody (ha.1 0 _ rfl) rfl rfl rfl ⟨rfl, rfl⟩ rfl (t_Ha_daysWithSomebody hG hS ha e9 ?_)
        refine lh_istore (lv' := [(0, .ref (0 + 4)), (1, .int x1), (2, .int x2), (3, .int x3), (4, .int r8)]) rfl rfl rfl ?_
        refine lh_aload_n (q := 0) rfl rfl rfl ?_
        refine lh_dup rfl rfl ?_
        refine lh_getI4 rfl rfl (hS.1 0 _ rfl) rfl ?_
        refine lh_iload_n (q := 3) rfl rfl rfl ?_
        refine lh_if_eq rfl (fun c10 => ?_) (fun c10 => ?_)
        · have hf := lh_ifT hf c10
          refine lh_iload (q := 4) rfl rfl ?_
          refine lh_iconst rfl lh_k_m1 ?_
          refine lh_ixor rfl ?_
          refine lh_iand rfl ?_
          refine lh_putI4 rfl rfl (hS.1 0 _ rfl) rfl rfl ?_
          refine lh_iconst rfl lh_k_1 ?_
          exact lh_iret rfl rfl (by decide) (by obtain rfl := Option.some.inj hf; exact hK)
        · have hf := lh_ifF hf c10
          refine lh_iload (q := 4) rfl rfl ?_
          refine lh_goto rfl ?_
          refine lh_iand rfl ?_
          refine lh_putI4 rfl rfl (hS.1 0 _ rfl) rfl rfl ?_
          refine lh_iconst rfl lh_k_1 ?_
          exact lh_iret rfl rfl (by decide) (by obtain rfl := Option.some.inj hf; exact hK)
      · have hf := lh_ifF hf c7
        refine lh_iconst rfl lh_k_0 ?_
        exact lh_iret rfl rfl (by decide) (by obtain rfl := Option.some.inj hf; exact hK)
def f_LH_sees (a : Nat) (b : Nat) (I : lh_II) : Option (Int32 × lh_II) := lh_bd (f_Ha_seenBy a 7 I) fun r1 => some (r1.1, r1.2)
theorem t_LH_sees {Γ : lh_Cx} {I : lh_II} {L : lh_LL} {F : lh_FF} {S : lh_SS} {K : Int32 → lh_Hp → Prop} {r : Int32 × lh_II} (hG : lh_GX Γ) (hS : lh_lay F S) {a : Nat} (ha : lh_hl F S a) (hA : F (0 + 4) 6 = a + 4) {b : Nat} (hb : lh_nl F S b) (hB : F (0 + 4) 8 = b + 4) (hf : f_LH_sees a b I = some r) (hK : K r.1 (r.2, L, F, S)) : lh_Met Γ m_LH_sees 5 0 0 [.ref (0 + 4)] (I, L, F, S) (lh_ki K) := by
  rw [f_LH_sees] at hf
  refine lh_ofG k_LH_sees [(0, .ref (0 + 4))] rfl (Nat.le_of_ble_eq_true rfl) rfl ?_
  refine lh_aload_n (q := 0) rfl rfl rfl ?_
  refine lh_getR4 rfl rfl (hS.1 0 _ rfl) rfl hA ?_
  refine lh_aload_n (q := 0) rfl rfl rfl ?_
  refine lh_getR4 rfl rfl (hS.1 0 _ rfl) rfl (hS.2 10 _ rfl) ?_
  refine lh_bdE hf (fun r1 e2 hf => ?_)
  refine lh_cVi (N := m_Ha_seenBy) (d := 4) (o := a) (As := [.ref (7 + 4)]) (st := []) rfl rfl v_Ha_seenBy (ha.1 0 _ rfl) rfl rfl rfl ⟨rfl, rfl⟩ rfl (t_Ha_seenBy hG hS ha (hS.1 7 _ rfl) e2 ?_)
  exact lh_iret rfl rfl rfl (by obtain rfl := Option.some.inj hf; exact hK)
def f_Wa_setsWithAll_4 (v0 : Int32) (L : lh_LL) : Nat → Int64 → Int32 → Option (Int64)
  | 0, _, _ => none
  | n + 1, v1, v3 => if 6 ≤ v3 then some v1 else if ((v0 >>> (v3 &&& 31)) &&& 1) = 1 then lh_gd (lh_ix v3 6) (f_Wa_setsWithAll_4 v0 L n (v1 &&& (lh_sets v3.toNatClampNeg)) (v3 + 1)) else f_Wa_setsWithAll_4 v0 L n v1 (v3 + 1)
def f_Wa_setsWithAll (x1 : Int32) (L : lh_LL) : Option (Int64) := lh_bd (f_Wa_setsWithAll_4 x1 L lh_fuel (-1) 0) fun r4 => some r4
theorem t_Wa_setsWithAll_4 {Γ : lh_Cx} {F : lh_FF} {S : lh_SS} {Z : List Frame → Array Value → State → State → Prop} (hG : lh_GX Γ) (hS : lh_lay F S)  {v0 : Int32} {I : lh_II} {L : lh_LL} : ∀ (n : Nat) (v1 : Int64) (v3 : Int32) (o : Int64), f_Wa_setsWithAll_4 v0 L n v1 v3 = some o → ∀ (x0_ : lh_G Γ m_Wa_setsWithAll (lh_R 0 0 0) Z 0 0 22 [(1, .long o)] [] (I, L, F, S)), lh_G Γ m_Wa_setsWithAll (lh_R 0 0 0) Z 0 0 4 [(0, .int v0), (1, .long v1), (3, .int v3)] [] (I, L, F, S) := by
  intro n
  induction n with
  | zero => intro v1 v3 o hf; cases hf
  | succ n ih =>
    intro v1 v3 o hf x0_
    rw [f_Wa_setsWithAll_4] at hf
    refine lh_iload_n (q := 2) rfl rfl rfl ?_
    refine lh_bipush rfl lh_b_6 ?_
    refine lh_icmp_ge rfl (fun c1 => ?_) (fun c1 => ?_)
    · have hf := lh_ifT hf c1
      exact lh_less [1] rfl (by cases hf; exact x0_)
    · have hf := lh_ifF hf c1
      refine lh_iload_n (q := 0) rfl rfl rfl ?_
      refine lh_iload_n (q := 2) rfl rfl rfl ?_
      refine lh_ishr rfl ?_
      refine lh_iconst rfl lh_k_1 ?_
      refine lh_iand rfl ?_
      refine lh_iconst rfl lh_k_1 ?_
      refine lh_icmp_ne rfl (fun c2 => ?_) (fun c2 => ?_)
      · have hf := lh_ifF hf c2
        refine lh_iinc (q := 2) (v := (v3 + 1)) (lv' := [(0, .int v0), (1, .long v1), (3, .int (v3 + 1))]) rfl rfl (congrArg (v3 + ·) (by decide)) rfl rfl ?_
        refine lh_goto rfl ?_
        exact ih v1 (v3 + 1) _ hf x0_
      · have hf := lh_ifT hf c2
        refine lh_lload_n (q := 1) rfl rfl rfl ?_
        refine lh_gsets hG rfl rfl ?_
        refine lh_iload_n (q := 2) rfl rfl rfl ?_
        obtain ⟨g3, hf⟩ := lh_gdE hf
        refine lh_lsets hG rfl g3 ?_
        refine lh_land rfl ?_
        refine lh_lstore_n (lv' := [(0, .int v0), (1, .long (v1 &&& (lh_sets v3.toNatClampNeg))), (3, .int v3)]) rfl rfl rfl rfl ?_
        refine lh_iinc (q := 2) (v := (v3 + 1)) (lv' := [(0, .int v0), (1, .long (v1 &&& (lh_sets v3.toNatClampNeg))), (3, .int (v3 + 1))]) rfl rfl (congrArg (v3 + ·) (by decide)) rfl rfl ?_
        refine lh_goto rfl ?_
        exact ih (v1 &&& (lh_sets v3.toNatClampNeg)) (v3 + 1) _ hf x0_
theorem t_Wa_setsWithAll {Γ : lh_Cx} {I : lh_II} {L : lh_LL} {F : lh_FF} {S : lh_SS} {K : Int64 → lh_Hp → Prop} {r : Int64} (hG : lh_GX Γ) (hS : lh_lay F S)  {x1 : Int32} (hf : f_Wa_setsWithAll x1 L = some r) (hK : K r (I, L, F, S)) : lh_Met Γ m_Wa_setsWithAll 0 0 0 [.int x1] (I, L, F, S) (lh_kl K) := by
  rw [f_Wa_setsWithAll] at hf
  refine lh_ofG k_Wa_setsWithAll [(0, .int x1)] rfl (Nat.le_of_ble_eq_true rfl) rfl ?_
  refine lh_ldc2 rfl rfl ?_
  refine lh_lstore_n (lv' := [(0, .int x1), (1, .long (-1))]) rfl rfl rfl rfl ?_
  refine lh_iconst rfl lh_k_0 ?_
  refine lh_istore_n (lv' := [(0, .int x1), (1, .long (-1)), (3, .int 0)]) rfl rfl rfl rfl ?_
  refine lh_bdE hf (fun r4 e5 hf => ?_)
  refine t_Wa_setsWithAll_4 hG hS  _ (-1) 0 _ e5 ?_
  refine lh_lload_n (q := 0) rfl rfl rfl ?_
  exact lh_lret rfl rfl (by obtain rfl := Option.some.inj hf; exact hK)
def f_Wa_spread_2 (v1 : Int32) : Nat → Int32 → lh_LL → Option (lh_LL)
  | 0, _, _ => none
  | n + 1, v2, L => if 12 ≤ v2 then some L else lh_gd (lh_ix v2 12) (if ((v1 >>> (v2 &&& 31)) &&& 1) = 0 then if v2 ≤ 0 then if 12 ≤ (v2 + 1) then lh_gd (lh_ix v2 12) (f_Wa_spread_2 v1 n (v2 + 1) (lh_v2 L (6 + 4) v2.toNatClampNeg (((L (5 + 4) v2.toNatClampNeg) ||| 0) ||| 0))) else lh_gd (lh_ix (v2 + 1) 12) (lh_gd (lh_ix v2 12) (f_Wa_spread_2 v1 n (v2 + 1) (lh_v2 L (6 + 4) v2.toNatClampNeg (((L (5 + 4) v2.toNatClampNeg) ||| 0) ||| (L (5 + 4) (v2 + 1).toNatClampNeg))))) else lh_gd (lh_ix (v2 - 1) 12) (if 12 ≤ (v2 + 1) then lh_gd (lh_ix v2 12) (f_Wa_spread_2 v1 n (v2 + 1) (lh_v2 L (6 + 4) v2.toNatClampNeg (((L (5 + 4) v2.toNatClampNeg) ||| (L (5 + 4) (v2 - 1).toNatClampNeg)) ||| 0))) else lh_gd (lh_ix (v2 + 1) 12) (lh_gd (lh_ix v2 12) (f_Wa_spread_2 v1 n (v2 + 1) (lh_v2 L (6 + 4) v2.toNatClampNeg (((L (5 + 4) v2.toNatClampNeg) ||| (L (5 + 4) (v2 - 1).toNatClampNeg)) ||| (L (5 + 4) (v2 + 1).toNatClampNeg)))))) else lh_gd (lh_ix v2 12) (f_Wa_spread_2 v1 n (v2 + 1) (lh_v2 L (6 + 4) v2.toNatClampNeg (L (5 + 4) v2.toNatClampNeg))))
def f_Wa_spread (x1 : Int32) (L : lh_LL) : Option (lh_LL) := lh_bd (f_Wa_spread_2 x1 lh_fuel 0 L) fun r15 => some (lh_cp r15 (6 + 4) (5 + 4) 12)
theorem t_Wa_spread_2 {Γ : lh_Cx} {F : lh_FF} {S : lh_SS} {Z : List Frame → Array Value → State → State → Prop} (hG : lh_GX Γ) (hS : lh_lay F S)  {v1 : Int32} {I : lh_II} : ∀ (n : Nat) (v2 : Int32) (L : lh_LL) (o : lh_LL), f_Wa_spread_2 v1 n v2 L = some o → ∀ (x0_ : lh_G Γ m_Wa_spread (lh_R 1 0 0) Z 0 0 52 [(0, .ref (4 + 4))] [] (I, o, F, S)), lh_G Γ m_Wa_spread (lh_R 1 0 0) Z 0 0 2 [(0, .ref (4 + 4)), (1, .int v1), (2, .int v2)] [] (I, L, F, S) := by
  intro n
  induction n with
  | zero => intro v2 L o hf; cases hf
  | succ n ih =>
    intro v2 L o hf x0_
    rw [f_Wa_spread_2] at hf
    refine lh_iload_n (q := 2) rfl rfl rfl ?_
    refine lh_bipush rfl lh_b_12 ?_
    refine lh_icmp_ge rfl (fun c1 => ?_) (fun c1 => ?_)
    · have hf := lh_ifT hf c1
      exact lh_less [0] rfl (by cases hf; exact x0_)
    · have hf := lh_ifF hf c1
      refine lh_aload_n (q := 0) rfl rfl rfl ?_
      refine lh_getR4 rfl rfl (hS.1 4 _ rfl) rfl (hS.2 2 _ rfl) ?_
      refine lh_iload_n (q := 2) rfl rfl rfl ?_
      obtain ⟨g2, hf⟩ := lh_gdE hf
      refine lh_lald4 rfl (hS.1 5 _ rfl) g2 ?_
      refine lh_lstore_n (lv' := [(0, .ref (4 + 4)), (1, .int v1), (2, .int v2), (3, .long (L (5 + 4) v2.toNatClampNeg))]) rfl rfl rfl rfl ?_
      refine lh_iload_n (q := 1) rfl rfl rfl ?_
      refine lh_iload_n (q := 2) rfl rfl rfl ?_
      refine lh_ishr rfl ?_
      refine lh_iconst rfl lh_k_1 ?_
      refine lh_iand rfl ?_
      refine lh_if_ne rfl (fun c3 => ?_) (fun c3 => ?_)
      · have hf := lh_ifF hf c3
        refine lh_aload_n (q := 0) rfl rfl rfl ?_
        refine lh_getR4 rfl rfl (hS.1 4 _ rfl) rfl (hS.2 3 _ rfl) ?_
        refine lh_iload_n (q := 2) rfl rfl rfl ?_
        refine lh_lload_n (q := 3) rfl rfl rfl ?_
        obtain ⟨g4, hf⟩ := lh_gdE hf
        refine lh_last4 rfl (hS.1 6 _ rfl) g4 ?_
        refine lh_iinc (q := 2) (v := (v2 + 1)) (lv' := [(0, .ref (4 + 4)), (1, .int v1), (2, .int (v2 + 1)), (3, .long (L (5 + 4) v2.toNatClampNeg))]) rfl rfl (congrArg (v2 + ·) (by decide)) rfl rfl ?_
        refine lh_goto rfl ?_
        refine lh_less [0, 1, 2] rfl ?_
        exact ih (v2 + 1) (lh_v2 L (6 + 4) v2.toNatClampNeg (L (5 + 4) v2.toNatClampNeg)) _ hf x0_
      · have hf := lh_ifT hf c3
        refine lh_lload_n (q := 3) rfl rfl rfl ?_
        refine lh_iload_n (q := 2) rfl rfl rfl ?_
        refine lh_if_le rfl (fun c5 => ?_) (fun c5 => ?_)
        · have hf := lh_ifT hf c5
          refine lh_lconst (v := 0) rfl (by decide) ?_
          refine lh_lor rfl ?_
          refine lh_lstore_n (lv' := [(0, .ref (4 + 4)), (1, .int v1), (2, .int v2), (3, .long ((L (5 + 4) v2.toNatClampNeg) ||| 0))]) rfl rfl rfl rfl ?_
          refine lh_lload_n (q := 3) rfl rfl rfl ?_
          refine lh_iload_n (q := 2) rfl rfl rfl ?_
          refine lh_iconst rfl lh_k_1 ?_
          refine lh_iadd rfl ?_
          refine lh_bipush rfl lh_b_12 ?_
          refine lh_icmp_ge rfl (fun c6 => ?_) (fun c6 => ?_)
          · have hf := lh_ifT hf c6
            refine lh_lconst (v := 0) rfl (by decide) ?_
            refine lh_lor rfl ?_
            refine lh_lstore_n (lv' := [(0, .ref (4 + 4)), (1, .int v1), (2, .int v2), (3, .long (((L (5 + 4) v2.toNatClampNeg) ||| 0) ||| 0))]) rfl rfl rfl rfl ?_
            refine lh_aload_n (q := 0) rfl rfl rfl ?_
            refine lh_getR4 rfl rfl (hS.1 4 _ rfl) rfl (hS.2 3 _ rfl) ?_
            refine lh_iload_n (q := 2) rfl rfl rfl ?_
            refine lh_lload_n (q := 3) rfl rfl rfl ?_
            obtain ⟨g7, hf⟩ := lh_gdE hf
            refine lh_last4 rfl (hS.1 6 _ rfl) g7 ?_
            refine lh_iinc (q := 2) (v := (v2 + 1)) (lv' := [(0, .ref (4 + 4)), (1, .int v1), (2, .int (v2 + 1)), (3, .long (((L (5 + 4) v2.toNatClampNeg) ||| 0) ||| 0))]) rfl rfl (congrArg (v2 + ·) (by decide)) rfl rfl ?_
            refine lh_goto rfl ?_
            refine lh_less [0, 1, 2] rfl ?_
            exact ih (v2 + 1) (lh_v2 L (6 + 4) v2.toNatClampNeg (((L (5 + 4) v2.toNatClampNeg) ||| 0) ||| 0)) _ hf x0_
          · have hf := lh_ifF hf c6
            refine lh_aload_n (q := 0) rfl rfl rfl ?_
            refine lh_getR4 rfl rfl (hS.1 4 _ rfl) rfl (hS.2 2 _ rfl) ?_
            refine lh_iload_n (q := 2) rfl rfl rfl ?_
            refine lh_iconst rfl lh_k_1 ?_
            refine lh_iadd rfl ?_
            obtain ⟨g8, hf⟩ := lh_gdE hf
            refine lh_lald4 rfl (hS.1 5 _ rfl) g8 ?_
            refine lh_goto rfl ?_
            refine lh_lor rfl ?_
            refine lh_lstore_n (lv' := [(0, .ref (4 + 4)), (1, .int v1), (2, .int v2), (3, .long (((L (5 + 4) v2.toNatClampNeg) ||| 0) ||| (L (5 + 4) (v2 + 1).toNatClampNeg)))]) rfl rfl rfl rfl ?_
            refine lh_aload_n (q := 0) rfl rfl rfl ?_
            refine lh_getR4 rfl rfl (hS.1 4 _ rfl) rfl (hS.2 3 _ rfl) ?_
            refine lh_iload_n (q := 2) rfl rfl rfl ?_
            refine lh_lload_n (q := 3) rfl rfl rfl ?_
            obtain ⟨g9, hf⟩ := lh_gdE hf
            refine lh_last4 rfl (hS.1 6 _ rfl) g9 ?_
            refine lh_iinc (q := 2) (v := (v2 + 1)) (lv' := [(0, .ref (4 + 4)), (1, .int v1), (2, .int (v2 + 1)), (3, .long (((L (5 + 4) v2.toNatClampNeg) ||| 0) ||| (L (5 + 4) (v2 + 1).toNatClampNeg)))]) rfl rfl (congrArg (v2 + ·) (by decide)) rfl rfl ?_
            refine lh_goto rfl ?_
            refine lh_less [0, 1, 2] rfl ?_
            exact ih (v2 + 1) (lh_v2 L (6 + 4) v2.toNatClampNeg (((L (5 + 4) v2.toNatClampNeg) ||| 0) ||| (L (5 + 4) (v2 + 1).toNatClampNeg))) _ hf x0_
        · have hf := lh_ifF hf c5
          refine lh_aload_n (q := 0) rfl rfl rfl ?_
          refine lh_getR4 rfl rfl (hS.1 4 _ rfl) rfl (hS.2 2 _ rfl) ?_
          refine lh_iload_n (q := 2) rfl rfl rfl ?_
          refine lh_iconst rfl lh_k_1 ?_
          refine lh_isub rfl ?_
          obtain ⟨g10, hf⟩ := lh_gdE hf
          refine lh_lald4 rfl (hS.1 5 _ rfl) g10 ?_
          refine lh_goto rfl ?_
          refine lh_lor rfl ?_
          refine lh_lstore_n (lv' := [(0, .ref (4 + 4)), (1, .int v1), (2, .int v2), (3, .long ((L (5 + 4) v2.toNatClampNeg) ||| (L (5 + 4) (v2 - 1).toNatClampNeg)))]) rfl rfl rfl rfl ?_
          refine lh_lload_n (q := 3) rfl rfl rfl ?_
          refine lh_iload_n (q := 2) rfl rfl rfl ?_
          refine lh_iconst rfl lh_k_1 ?_
          refine lh_iadd rfl ?_
          refine lh_bipush rfl lh_b_12 ?_
          refine lh_icmp_ge rfl (fun c11 => ?_) (fun c11 => ?_)
          · have hf := lh_ifT hf c11
            refine lh_lconst (v := 0) rfl (by decide) ?_
            refine lh_lor rfl ?_
            refine lh_lstore_n (lv' := [(0, .ref (4 + 4)), (1, .int v1), (2, .int v2), (3, .long (((L (5 + 4) v2.toNatClampNeg) ||| (L (5 + 4) (v2 - 1).toNatClampNeg)) ||| 0))]) rfl rfl rfl rfl ?_
            refine lh_aload_n (q := 0) rfl rfl rfl ?_
            refine lh_getR4 rfl rfl (hS.1 4 _ rfl) rfl (hS.2 3 _ rfl) ?_
            refine lh_iload_n (q := 2) rfl rfl rfl ?_
            refine lh_lload_n (q := 3) rfl rfl rfl ?_
            obtain ⟨g12, hf⟩ := lh_gdE hf
            refine lh_last4 rfl (hS.1 6 _ rfl) g12 ?_
            refine lh_iinc (q := 2) (v := (v2 + 1)) (lv' := [(0, .ref (4 + 4)), (1, .int v1), (2, .int (v2 + 1)), (3, .long (((L (5 + 4) v2.toNatClampNeg) ||| (L (5 + 4) (v2 - 1).toNatClampNeg)) ||| 0))]) rfl rfl (congrArg (v2 + ·) (by decide)) rfl rfl ?_
            refine lh_goto rfl ?_
            refine lh_less [0, 1, 2] rfl ?_
            exact ih (v2 + 1) (lh_v2 L (6 + 4) v2.toNatClampNeg (((L (5 + 4) v2.toNatClampNeg) ||| (L (5 + 4) (v2 - 1).toNatClampNeg)) ||| 0)) _ hf x0_
          · have hf := lh_ifF hf c11
            refine lh_aload_n (q := 0) rfl rfl rfl ?_
            refine lh_getR4 rfl rfl (hS.1 4 _ rfl) rfl (hS.2 2 _ rfl) ?_
            refine lh_iload_n (q := 2) rfl rfl rfl ?_
            refine lh_iconst rfl lh_k_1 ?_
            refine lh_iadd rfl ?_
            obtain ⟨g13, hf⟩ := lh_gdE hf
            refine lh_lald4 rfl (hS.1 5 _ rfl) g13 ?_
            refine lh_goto rfl ?_
            refine lh_lor rfl ?_
            refine lh_lstore_n (lv' := [(0, .ref (4 + 4)), (1, .int v1), (2, .int v2), (3, .long (((L (5 + 4) v2.toNatClampNeg) ||| (L (5 + 4) (v2 - 1).toNatClampNeg)) ||| (L (5 + 4) (v2 + 1).toNatClampNeg)))]) rfl rfl rfl rfl ?_
            refine lh_aload_n (q := 0) rfl rfl rfl ?_
            refine lh_getR4 rfl rfl (hS.1 4 _ rfl) rfl (hS.2 3 _ rfl) ?_
            refine lh_iload_n (q := 2) rfl rfl rfl ?_
            refine lh_lload_n (q := 3) rfl rfl rfl ?_
            obtain ⟨g14, hf⟩ := lh_gdE hf
            refine lh_last4 rfl (hS.1 6 _ rfl) g14 ?_
            refine lh_iinc (q := 2) (v := (v2 + 1)) (lv' := [(0, .ref (4 + 4)), (1, .int v1), (2, .int (v2 + 1)), (3, .long (((L (5 + 4) v2.toNatClampNeg) ||| (L (5 + 4) (v2 - 1).toNatClampNeg)) ||| (L (5 + 4) (v2 + 1).toNatClampNeg)))]) rfl rfl (congrArg (v2 + ·) (by decide)) rfl rfl ?_
            refine lh_goto rfl ?_
            refine lh_less [0, 1, 2] rfl ?_
            exact ih (v2 + 1) (lh_v2 L (6 + 4) v2.toNatClampNeg (((L (5 + 4) v2.toNatClampNeg) ||| (L (5 + 4) (v2 - 1).toNatClampNeg)) ||| (L (5 + 4) (v2 + 1).toNatClampNeg))) _ hf x0_
theorem t_Wa_spread {Γ : lh_Cx} {I : lh_II} {L : lh_LL} {F : lh_FF} {S : lh_SS} {K : lh_Hp → Prop} {r : lh_LL} (hG : lh_GX Γ) (hS : lh_lay F S)  {x1 : Int32} (hf : f_Wa_spread x1 L = some r) (hK : K (I, r, F, S)) : lh_Met Γ m_Wa_spread 1 0 0 [.ref (4 + 4), .int x1] (I, L, F, S) (lh_kv K) := by
  rw [f_Wa_spread] at hf
  refine lh_ofG k_Wa_spread [(0, .ref (4 + 4)), (1, .int x1)] rfl (Nat.le_of_ble_eq_true rfl) rfl ?_
  refine lh_iconst rfl lh_k_0 ?_
  refine lh_istore_n (lv' := [(0, .ref (4 + 4)), (1, .int x1), (2, .int 0)]) rfl rfl rfl rfl ?_
  refine lh_bdE hf (fun r15 e16 hf => ?_)
  refine t_Wa_spread_2 hG hS  _ 0 L _ e16 ?_
  refine lh_aload_n (q := 0) rfl rfl rfl ?_
  refine lh_getR4 rfl rfl (hS.1 4 _ rfl) rfl (hS.2 3 _ rfl) ?_
  refine lh_iconst rfl lh_k_0 ?_
  refine lh_aload_n (q := 0) rfl rfl rfl ?_
  refine lh_getR4 rfl rfl (hS.1 4 _ rfl) rfl (hS.2 2 _ rfl) ?_
  refine lh_iconst rfl lh_k_0 ?_
  refine lh_bipush rfl lh_b_12 ?_
  refine lh_acopy (o1 := 6) (o2 := 5) (n := 12) rfl rfl (hS.1 6 _ rfl) (hS.1 5 _ rfl) (by decide) (by decide) (by decide) ⟨rfl, rfl⟩ rfl ?_
  exact lh_vret rfl rfl (by obtain rfl := Option.some.inj hf; exact hK)
def f_Wa_withSeen_4 (v2 : Int32) (L : lh_LL) : Nat → Int64 → Int32 → Option (Int64)
  | 0, _, _ => none
  | n + 1, v3, v5 => if 6 ≤ v5 then some v3 else if ((v2 >>> (v5 &&& 31)) &&& 1) = 1 then lh_gd (lh_ix v5 6) (lh_gd (lh_ix v5 6) (f_Wa_withSeen_4 v2 L n ((v3 &&& (lh_sets v5.toNatClampNeg)) ||| ((v3 &&& ((lh_sets v5.toNatClampNeg) ^^^ (-1))) <<< (((1 : Int32) <<< (v5 &&& 31)).toInt64 &&& 63))) (v5 + 1))) else f_Wa_withSeen_4 v2 L n v3 (v5 + 1)
def f_Wa_withSeen (x1 : Int64) (x2 : Int32) (L : lh_LL) : Option (Int64) := lh_bd (f_Wa_withSeen_4 x2 L lh_fuel x1 0) fun r5 => some r5
theorem t_Wa_withSeen_4 {Γ : lh_Cx} {F : lh_FF} {S : lh_SS} {Z : List Frame → Array Value → State → State → Prop} (hG : lh_GX Γ) (hS : lh_lay F S)  {v2 : Int32} {I : lh_II} {L : lh_LL} : ∀ (n : Nat) (v3 : Int64) (v5 : Int32) (o : Int64), f_Wa_withSeen_4 v2 L n v3 v5 = some o → ∀ (x0_ : lh_G Γ m_Wa_withSeen (lh_R 0 0 0) Z 0 0 34 [(3, .long o)] [] (I, L, F, S)), lh_G Γ m_Wa_withSeen (lh_R 0 0 0) Z 0 0 4 [(2, .int v2), (3, .long v3), (5, .int v5)] [] (I, L, F, S) := by
  intro n
  induction n with
  | zero => intro v3 v5 o hf; cases hf
  | succ n ih =>
    intro v3 v5 o hf x0_
    rw [f_Wa_withSeen_4] at hf
    refine lh_iload (q := 2) rfl rfl ?_
    refine lh_bipush rfl lh_b_6 ?_
    refine lh_icmp_ge rfl (fun c1 => ?_) (fun c1 => ?_)
    · have hf := lh_ifT hf c1
      exact lh_less [1] rfl (by cases hf; exact x0_)
    · have hf := lh_ifF hf c1
      refine lh_iload_n (q := 0) rfl rfl rfl ?_
      refine lh_iload (q := 2) rfl rfl ?_
      refine lh_ishr rfl ?_
      refine lh_iconst rfl lh_k_1 ?_
      refine lh_iand rfl ?_
      refine lh_iconst rfl lh_k_1 ?_
      refine lh_icmp_ne rfl (fun c2 => ?_) (fun c2 => ?_)
      · have hf := lh_ifF hf c2
        refine lh_iinc (q := 2) (v := (v5 + 1)) (lv' := [(2, .int v2), (3, .long v3), (5, .int (v5 + 1))]) rfl rfl (congrArg (v5 + ·) (by decide)) rfl rfl ?_
        refine lh_goto rfl ?_
        exact ih v3 (v5 + 1) _ hf x0_
      · have hf := lh_ifT hf c2
        refine lh_lload_n (q := 1) rfl rfl rfl ?_
        refine lh_gsets hG rfl rfl ?_
        refine lh_iload (q := 2) rfl rfl ?_
        obtain ⟨g3, hf⟩ := lh_gdE hf
        refine lh_lsets hG rfl g3 ?_
        refine lh_land rfl ?_
        refine lh_lload_n (q := 1) rfl rfl rfl ?_
        refine lh_gsets hG rfl rfl ?_
        refine lh_iload (q := 2) rfl rfl ?_
        obtain ⟨g4, hf⟩ := lh_gdE hf
        refine lh_lsets hG rfl g4 ?_
        refine lh_ldc2 rfl rfl ?_
        refine lh_lxor rfl ?_
        refine lh_land rfl ?_
        refine lh_iconst rfl lh_k_1 ?_
        refine lh_iload (q := 2) rfl rfl ?_
        refine lh_ishl rfl ?_
        refine lh_lshl rfl ?_
        refine lh_lor rfl ?_
        refine lh_lstore_n (lv' := [(2, .int v2), (3, .long ((v3 &&& (lh_sets v5.toNatClampNeg)) ||| ((v3 &&& ((lh_sets v5.toNatClampNeg) ^^^ (-1))) <<< (((1 : Int32) <<< (v5 &&& 31)).toInt64 &&& 63)))), (5, .int v5)]) rfl rfl rfl rfl ?_
        refine lh_iinc (q := 2) (v := (v5 + 1)) (lv' := [(2, .int v2), (3, .long ((v3 &&& (lh_sets v5.toNatClampNeg)) ||| ((v3 &&& ((lh_sets v5.toNatClampNeg) ^^^ (-1))) <<< (((1 : Int32) <<< (v5 &&& 31)).toInt64 &&& 63)))), (5, .int (v5 + 1))]) rfl rfl (congrArg (v5 + ·) (by decide)) rfl rfl ?_
        refine lh_goto rfl ?_
        exact ih ((v3 &&& (lh_sets v5.toNatClampNeg)) ||| ((v3 &&& ((lh_sets v5.toNatClampNeg) ^^^ (-1))) <<< (((1 : Int32) <<< (v5 &&& 31)).toInt64 &&& 63))) (v5 + 1) _ hf x0_
theorem t_Wa_withSeen {Γ : lh_Cx} {I : lh_II} {L : lh_LL} {F : lh_FF} {S : lh_SS} {K : Int64 → lh_Hp → Prop} {r : Int64} (hG : lh_GX Γ) (hS : lh_lay F S)  {x1 : Int64} {x2 : Int32} (hf : f_Wa_withSeen x1 x2 L = some r) (hK : K r (I, L, F, S)) : lh_Met Γ m_Wa_withSeen 0 0 0 [.long x1, .int x2] (I, L, F, S) (lh_kl K) := by
  rw [f_Wa_withSeen] at hf
  refine lh_ofG k_Wa_withSeen [(0, .long x1), (2, .int x2)] rfl (Nat.le_of_ble_eq_true rfl) rfl ?_
  refine lh_lload_n (q := 0) rfl rfl rfl ?_
  refine lh_lstore_n (lv' := [(0, .long x1), (2, .int x2), (3, .long x1)]) rfl rfl rfl rfl ?_
  refine lh_iconst rfl lh_k_0 ?_
  refine lh_istore (lv' := [(0, .long x1), (2, .int x2), (3, .long x1), (5, .int 0)]) rfl rfl rfl ?_
  refine lh_bdE hf (fun r5 e6 hf => ?_)
  refine lh_less [1, 2, 3] rfl ?_
  refine t_Wa_withSeen_4 hG hS  _ x1 0 _ e6 ?_
  refine lh_lload_n (q := 0) rfl rfl rfl ?_
  exact lh_lret rfl rfl (by obtain rfl := Option.some.inj hf; exact hK)
def f_Wa_look_2 (a : Nat) (v2 : Int32) (I : lh_II) : Nat → Int32 → lh_LL → Option (lh_LL)
  | 0, _, _ => none
  | n + 1, v3, L => if (I (a + 4) 9) ≤ v3 then some L else if 12 ≤ v3 then some L else lh_gd (lh_ix v3 12) (if (lg_cmp (L (5 + 4) v3.toNatClampNeg) (0 : Int64)) = 0 then f_Wa_look_2 a v2 I n (v3 + 1) L else lh_gd (lh_ix v3 12) (lh_bd (f_Ha_lightFrom a v3 I) fun r6 => lh_bd (f_Ha_seenIn a r6 v3 v2 I) fun r8 => lh_bd (f_Wa_withSeen (L (5 + 4) v3.toNatClampNeg) r8 L) fun r10 => lh_gd (lh_ix v3 12) (f_Wa_look_2 a v2 I n (v3 + 1) (lh_v2 L (5 + 4) v3.toNatClampNeg r10))))
def f_Wa_look (a : Nat) (x1 : Int32) (I : lh_II) (L : lh_LL) : Option (lh_LL) := lh_bd (f_Wa_look_2 a x1 I lh_fuel 0 L) fun r13 => some r13
theorem t_Wa_look_2 {Γ : lh_Cx} {F : lh_FF} {S : lh_SS} {Z : List Frame → Array Value → State → State → Prop} (hG : lh_GX Γ) (hS : lh_lay F S) {a : Nat} (ha : lh_hl F S a) {v2 : Int32} {I : lh_II} : ∀ (n : Nat) (v3 : Int32) (L : lh_LL) (o : lh_LL), f_Wa_look_2 a v2 I n v3 L = some o → ∀ (x0_ : lh_G Γ m_Wa_look (lh_R 3 0 0) Z 0 0 34 [] [] (I, o, F, S)), lh_G Γ m_Wa_look (lh_R 3 0 0) Z 0 0 2 [(0, .ref (4 + 4)), (1, .ref (a + 4)), (2, .int v2), (3, .int v3)] [] (I, L, F, S) := by
  intro n
  induction n with
  | zero => intro v3 L o hf; cases hf
  | succ n ih =>
    intro v3 L o hf x0_
    rw [f_Wa_look_2] at hf
    refine lh_iload_n (q := 3) rfl rfl rfl ?_
    refine lh_aload_n (q := 1) rfl rfl rfl ?_
    refine lh_getI4 rfl rfl (ha.1 0 _ rfl) rfl ?_
    refine lh_icmp_ge rfl (fun c1 => ?_) (fun c1 => ?_)
    · have hf := lh_ifT hf c1
      exact lh_less [] rfl (by cases hf; exact x0_)
    · have hf := lh_ifF hf c1
      refine lh_iload_n (q := 3) rfl rfl rfl ?_
      refine lh_bipush rfl lh_b_12 ?_
      refine lh_icmp_ge rfl (fun c2 => ?_) (fun c2 => ?_)
      · have hf := lh_ifT hf c2
        exact lh_less [] rfl (by cases hf; exact x0_)
      · have hf := lh_ifF hf c2
        refine lh_aload_n (q := 0) rfl rfl rfl ?_
        refine lh_getR4 rfl rfl (hS.1 4 _ rfl) rfl (hS.2 2 _ rfl) ?_
        refine lh_iload_n (q := 3) rfl rfl rfl ?_
        obtain ⟨g3, hf⟩ := lh_gdE hf
        refine lh_lald4 rfl (hS.1 5 _ rfl) g3 ?_
        refine lh_lconst (v := 0) rfl (by decide) ?_
        refine lh_lcmp rfl ?_
        refine lh_if_eq rfl (fun c4 => ?_) (fun c4 => ?_)
        · have hf := lh_ifT hf c4
          refine lh_iinc (q := 3) (v := (v3 + 1)) (lv' := [(0, .ref (4 + 4)), (1, .ref (a + 4)), (2, .int v2), (3, .int (v3 + 1))]) rfl rfl (congrArg (v3 + ·) (by decide)) rfl rfl ?_
          refine lh_goto rfl ?_
          exact ih (v3 + 1) L _ hf x0_
        · have hf := lh_ifF hf c4
          refine lh_aload_n (q := 0) rfl rfl rfl ?_
          refine lh_getR4 rfl rfl (hS.1 4 _ rfl) rfl (hS.2 2 _ rfl) ?_
          refine lh_iload_n (q := 3) rfl rfl rfl ?_
          refine lh_aload_n (q := 0) rfl rfl rfl ?_
          refine lh_getR4 rfl rfl (hS.1 4 _ rfl) rfl (hS.2 2 _ rfl) ?_
          refine lh_iload_n (q := 3) rfl rfl rfl ?_
          obtain ⟨g5, hf⟩ := lh_gdE hf
          refine lh_lald4 rfl (hS.1 5 _ rfl) g5 ?_
          refine lh_aload_n (q := 1) rfl rfl rfl ?_
          refine lh_aload_n (q := 1) rfl rfl rfl ?_
          refine lh_iload_n (q := 3) rfl rfl rfl ?_
          refine lh_bdE hf (fun r6 e7 hf => ?_)
          refine lh_cVi (N := m_Ha_lightFrom) (d := 1) (o := a) (As := [.int v3]) (st := [.ref (a + 4), .long (L (5 + 4) v3.toNatClampNeg), .int v3, .ref (5 + 4)]) rfl rfl v_Ha_lightFrom (ha.1 0 _ rfl) rfl rfl rfl ⟨rfl, rfl⟩ rfl (t_Ha_lightFrom hG hS ha e7 ?_)
          refine lh_iload_n (q := 3) rfl rfl rfl ?_
          refine lh_iload_n (q := 2) rfl rfl rfl ?_
          refine lh_bdE hf (fun r8 e9 hf => ?_)
          refine lh_cVi (N := m_Ha_seenIn) (d := 2) (o := a) (As := [.int r6, .int v3, .int v2]) (st := [.long (L (5 + 4) v3.toNatClampNeg), .int v3, .ref (5 + 4)]) rfl rfl v_Ha_seenIn (ha.1 0 _ rfl) rfl rfl rfl ⟨rfl, rfl⟩ rfl (t_Ha_seenIn hG hS ha e9 ?_)
          refine lh_bdE hf (fun r10 e11 hf => ?_)
          refine lh_cSl (N := m_Wa_withSeen) (d := 0) (As := [.long (L (5 + 4) v3.toNatClampNeg), .int r8]) (st := [.int v3, .ref (5 + 4)]) rfl rfl v_Wa_withSeen rfl rfl ⟨rfl, rfl⟩ rfl (t_Wa_withSeen hG hS e11 ?_)
          obtain ⟨g12, hf⟩ := lh_gdE hf
          refine lh_last4 rfl (hS.1 5 _ rfl) g12 ?_
          refine lh_iinc (q := 3) (v := (v3 + 1)) (lv' := [(0, .ref (4 + 4)), (1, .ref (a + 4)), (2, .int v2), (3, .int (v3 + 1))]) rfl rfl (congrArg (v3 + ·) (by decide)) rfl rfl ?_
          refine lh_goto rfl ?_
          exact ih (v3 + 1) (lh_v2 L (5 + 4) v3.toNatClampNeg r10) _ hf x0_
theorem t_Wa_look {Γ : lh_Cx} {I : lh_II} {L : lh_LL} {F : lh_FF} {S : lh_SS} {K : lh_Hp → Prop} {r : lh_LL} (hG : lh_GX Γ) (hS : lh_lay F S) {a : Nat} (ha : lh_hl F S a) {x1 : Int32} (hf : f_Wa_look a x1 I L = some r) (hK : K (I, r, F, S)) : lh_Met Γ m_Wa_look 3 0 0 [.ref (4 + 4), .ref (a + 4), .int x1] (I, L, F, S) (lh_kv K) := by
  rw [f_Wa_look] at hf
  refine lh_ofG k_Wa_look [(0, .ref (4 + 4)), (1, .ref (a + 4)), (2, .int x1)] rfl (Nat.le_of_ble_eq_true rfl) rfl ?_
  refine lh_iconst rfl lh_k_0 ?_
  refine lh_istore_n (lv' := [(0, .ref (4 + 4)), (1, .ref (a + 4)), (2, .int x1), (3, .int 0)]) rfl rfl rfl rfl ?_
  refine lh_bdE hf (fun r13 e14 hf => ?_)
  refine t_Wa_look_2 hG hS ha _ 0 L _ e14 ?_
  exact lh_vret rfl rfl (by obtain rfl := Option.some.inj hf; exact hK)
