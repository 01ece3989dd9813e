/-! decompiled by program: f_.. the functions, t_.. that the methods do as they say -/
def f_Wa_isReached_2 (v1 : Int64) (L : lh_LL) : Nat → Int32 → Option (Nat)
  | 0, _ => none
  | n + 1, v3 => if 12 ≤ v3 then some 1 else lh_gd (lh_ix v3 12) (if (lg_cmp ((L (5 + 4) v3.toNatClampNeg) &&& v1) (0 : Int64)) = 0 then f_Wa_isReached_2 v1 L n (v3 + 1) else some 0)
def f_Wa_isReached (x1 : Int64) (L : lh_LL) : Option (Int32) := lh_bd (f_Wa_isReached_2 x1 L lh_fuel 0) fun r4 => if r4 = 0 then some 1 else some 0
theorem t_Wa_isReached_2 {Γ : lh_Cx} {F : lh_FF} {S : lh_SS} {Z : List Frame → Array Value → State → State → Prop} (hG : lh_GX Γ) (hS : lh_lay F S)  {v1 : Int64} {I : lh_II} {L : lh_LL} : ∀ (n : Nat) (v3 : Int32) (o : Nat), f_Wa_isReached_2 v1 L n v3 = some o → ∀ (x0_ : o = 0 → lh_G Γ m_Wa_isReached (lh_R 0 0 0) Z 0 0 14 [] [] (I, L, F, S)), ∀ (x1_ : o = 1 → lh_G Γ m_Wa_isReached (lh_R 0 0 0) Z 0 0 18 [] [] (I, L, F, S)), lh_G Γ m_Wa_isReached (lh_R 0 0 0) Z 0 0 2 [(0, .ref (4 + 4)), (1, .long v1), (3, .int v3)] [] (I, L, F, S) := by
  intro n
  induction n with
  | zero => intro v3 o hf; cases hf
  | succ n ih =>
    intro v3 o hf x0_ x1_
    rw [f_Wa_isReached_2] at hf
    refine lh_iload_n (q := 2) rfl rfl rfl ?_
    refine lh_bipush rfl lh_b_12 ?_
    refine lh_icmp_ge rfl (fun c1 => ?_) (fun c1 => ?_)
    · have hf := lh_ifT hf c1
      exact lh_less [] rfl (by cases hf; exact x1_ rfl)
    · have hf := lh_ifF hf c1
      refine lh_aload_n (q := 0) rfl rfl rfl ?_
      refine lh_getR4 rfl rfl (hS.1 4 _ rfl) rfl (hS.2 2 _ rfl) ?_
      refine lh_iload_n (q := 2) rfl rfl rfl ?_
      obtain ⟨g2, hf⟩ := lh_gdE hf
      refine lh_lald4 rfl (hS.1 5 _ rfl) g2 ?_
      refine lh_lload_n (q := 1) rfl rfl rfl ?_
      refine lh_land rfl ?_
      refine lh_lconst (v := 0) rfl (by decide) ?_
      refine lh_lcmp rfl ?_
      refine lh_if_eq rfl (fun c3 => ?_) (fun c3 => ?_)
      · have hf := lh_ifT hf c3
        refine lh_iinc (q := 2) (v := (v3 + 1)) (lv' := [(0, .ref (4 + 4)), (1, .long v1), (3, .int (v3 + 1))]) rfl rfl (congrArg (v3 + ·) (by decide)) rfl rfl ?_
        refine lh_goto rfl ?_
        exact ih (v3 + 1) _ hf x0_ x1_
      · have hf := lh_ifF hf c3
        exact lh_less [] rfl (by cases hf; exact x0_ rfl)
theorem t_Wa_isReached {Γ : lh_Cx} {I : lh_II} {L : lh_LL} {F : lh_FF} {S : lh_SS} {K : Int32 → lh_Hp → Prop} {r : Int32} (hG : lh_GX Γ) (hS : lh_lay F S)  {x1 : Int64} (hf : f_Wa_isReached x1 L = some r) (hK : K r (I, L, F, S)) : lh_Met Γ m_Wa_isReached 0 0 0 [.ref (4 + 4), .long x1] (I, L, F, S) (lh_ki K) := by
  rw [f_Wa_isReached] at hf
  refine lh_ofG k_Wa_isReached [(0, .ref (4 + 4)), (1, .long x1)] rfl (Nat.le_of_ble_eq_true rfl) rfl ?_
  refine lh_iconst rfl lh_k_0 ?_
  refine lh_istore_n (lv' := [(0, .ref (4 + 4)), (1, .long x1), (3, .int 0)]) rfl rfl rfl rfl ?_
  refine lh_bdE hf (fun r4 e5 hf => ?_)
  refine t_Wa_isReached_2 hG hS  _ 0 _ e5 (fun q0_ => ?_) (fun q1_ => ?_)
  · have hf := lh_ifT hf q0_
    refine lh_iconst rfl lh_k_1 ?_
    exact lh_iret rfl rfl (by decide) (by obtain rfl := Option.some.inj hf; exact hK)
  · have hf := lh_ifF hf (by rw [q1_]; decide)
    refine lh_iconst rfl lh_k_0 ?_
    exact lh_iret rfl rfl (by decide) (by obtain rfl := Option.some.inj hf; exact hK)
def f_Wa_fewestToSee_37 (a : Nat) (m : Nat) (v4 : Int64) : Nat → Int32 → Int32 → Int32 → lh_II → lh_LL → Option (Nat × Int32 × lh_II × lh_LL)
  | 0, _, _, _, _, _ => none
  | n + 1, v6, v7, v8, I, L => if 40 < v8 then some (1, v8, I, L) else lh_bd (f_Ha_closedCells a (I (m + 4) 2) v7 v6 I) fun r10 => lh_bd (f_Ha_allCells a r10.2) fun r12 => lh_bd (f_Wa_spread (r10.1 ||| (r12 ^^^ (-1))) L) fun r14 => if (if 0 < (v7 - 1) then (v7 - 1) else 0) ≤ 0 then lh_bd (f_Wa_isReached v4 r14) fun r17 => if r17 = 0 then f_Wa_fewestToSee_37 a m v4 n ((v6 + 1) - (v6 + 1) / 8 * 8) (if 0 < (v7 - 1) then (v7 - 1) else 0) (v8 + 1) r10.2 r14 else some (0, v8, r10.2, r14) else lh_bd (f_Ha_tellDaysShown a (r10.2 (m + 4) 2) (if 0 < (v7 - 1) then (v7 - 1) else 0) ((v6 + 1) - (v6 + 1) / 8 * 8) r10.2) fun r20 => lh_bd (f_Wa_look a ((v6 + 1) - (v6 + 1) / 8 * 8) r20 r14) fun r22 => lh_bd (f_Wa_isReached v4 r22) fun r24 => if r24 = 0 then f_Wa_fewestToSee_37 a m v4 n ((v6 + 1) - (v6 + 1) / 8 * 8) (if 0 < (v7 - 1) then (v7 - 1) else 0) (v8 + 1) r20 r22 else some (0, v8, r20, r22)
def f_Wa_fewestToSee (a : Nat) (m : Nat) (x1 : Int32) (I : lh_II) (L : lh_LL) : Option (Int32 × lh_II × lh_LL) := if ((I (m + 4) 6) &&& x1) = x1 then some (0, I, L) else lh_bd (f_Arr_fill 5 12 (0 : Int64) L) fun r2 => lh_bd (f_Ha_hasCell a (I (m + 4) 0) I) fun r4 => if r4 = 0 then lh_bd (f_Wa_setsWithAll x1 r2) fun r7 => lh_bd (f_Wa_fewestToSee_37 a m r7 lh_fuel (I (m + 4) 1) (I (m + 4) 3) 1 I r2) fun r27 => if r27.1 = 0 then some (r27.2.1, r27.2.2.1, r27.2.2.2) else some ((-1), r27.2.2.1, r27.2.2.2) else lh_gd (lh_ix (I (m + 4) 0) 12) (lh_bd (f_Wa_setsWithAll x1 (lh_v2 r2 (5 + 4) (I (m + 4) 0).toNatClampNeg ((1 : Int64) <<< ((I (m + 4) 6).toInt64 &&& 63)))) fun r30 => lh_bd (f_Wa_fewestToSee_37 a m r30 lh_fuel (I (m + 4) 1) (I (m + 4) 3) 1 I (lh_v2 r2 (5 + 4) (I (m + 4) 0).toNatClampNeg ((1 : Int64) <<< ((I (m + 4) 6).toInt64 &&& 63)))) fun r32 => if r32.1 = 0 then some (r32.2.1, r32.2.2.1, r32.2.2.2) else some ((-1), r32.2.2.1, r32.2.2.2))
theorem t_Wa_fewestToSee_37 {Γ : lh_Cx} {F : lh_FF} {S : lh_SS} {Z : List Frame → Array Value → State → State → Prop} (hG : lh_GX Γ) (hS : lh_lay F S) {a : Nat} (ha : lh_hl F S a) {m : Nat} (hm : S[m]? = some (10, 0)) {v4 : Int64} : ∀ (n : Nat) (v6 : Int32) (v7 : Int32) (v8 : Int32) (I : lh_II) (L : lh_LL) (o : Nat × Int32 × lh_II × lh_LL), f_Wa_fewestToSee_37 a m v4 n v6 v7 v8 I L = some o → ∀ (x0_ : o.1 = 0 → lh_G Γ m_Wa_fewestToSee (lh_R 4 0 0) Z 0 0 81 [(8, .int o.2.1)] [] (o.2.2.1, o.2.2.2, F, S)), ∀ (x1_ : o.1 = 1 → lh_G Γ m_Wa_fewestToSee (lh_R 4 0 0) Z 0 0 85 [] [] (o.2.2.1, o.2.2.2, F, S)), lh_G Γ m_Wa_fewestToSee (lh_R 4 0 0) Z 0 0 37 [(0, .ref (4 + 4)), (1, .ref (a + 4)), (2, .ref (m + 4)), (4, .long v4), (6, .int v6), (7, .int v7), (8, .int v8)] [] (I, L, F, S) := by
  intro n
  induction n with
  | zero => intro v6 v7 v8 I L o hf; cases hf
  | succ n ih =>
    intro v6 v7 v8 I L o hf x0_ x1_
    rw [f_Wa_fewestToSee_37] at hf
    refine lh_iload (q := 6) rfl rfl ?_
    refine lh_bipush rfl lh_b_40 ?_
    refine lh_icmp_gt rfl (fun c9 => ?_) (fun c9 => ?_)
    · have hf := lh_ifT hf c9
      exact lh_less [] rfl (by cases hf; exact x1_ rfl)
    · have hf := lh_ifF hf c9
      refine lh_aload_n (q := 0) rfl rfl rfl ?_
      refine lh_aload_n (q := 1) rfl rfl rfl ?_
      refine lh_aload_n (q := 2) rfl rfl rfl ?_
      refine lh_getI4 rfl rfl hm rfl ?_
      refine lh_iload (q := 5) rfl rfl ?_
      refine lh_iload (q := 4) rfl rfl ?_
      refine lh_bdE hf (fun r10 e11 hf => ?_)
      refine lh_cVi (N := m_Ha_closedCells) (d := 3) (o := a) (As := [.int (I (m + 4) 2), .int v7, .int v6]) (st := [.ref (4 + 4)]) rfl rfl v_Ha_closedCells (ha.1 0 _ rfl) rfl rfl rfl ⟨rfl, rfl⟩ rfl (t_Ha_closedCells hG hS ha e11 ?_)
      refine lh_aload_n (q := 1) rfl rfl rfl ?_
      refine lh_bdE hf (fun r12 e13 hf => ?_)
      refine lh_cVi (N := m_Ha_allCells) (d := 0) (o := a) (As := []) (st := [.int r10.1, .ref (4 + 4)]) rfl rfl v_Ha_allCells (ha.1 0 _ rfl) rfl rfl rfl ⟨rfl, rfl⟩ rfl (t_Ha_allCells hG hS ha e13 ?_)
      refine lh_iconst rfl lh_k_m1 ?_
      refine lh_ixor rfl ?_
      refine lh_ior rfl ?_
      refine lh_bdE hf (fun r14 e15 hf => ?_)
      refine lh_cVv (N := m_Wa_spread) (d := 1) (o := 4) (As := [.int (r10.1 ||| (r12 ^^^ (-1)))]) (st := []) rfl rfl v_Wa_spread (hS.1 4 _ rfl) rfl rfl rfl ⟨rfl, rfl⟩ rfl (t_Wa_spread hG hS e15 ?_)
      refine lh_iload (q := 4) rfl rfl ?_
      refine lh_iconst rfl lh_k_1 ?_
      refine lh_iadd rfl ?_
      refine lh_bipush rfl lh_b_8 ?_
      refine lh_irem rfl (by decide) ?_
      refine lh_istore (lv' := [(0, .ref (4 + 4)), (1, .ref (a + 4)), (2, .ref (m + 4)), (4, .long v4), (6, .int ((v6 + 1) - (v6 + 1) / 8 * 8)), (7, .int v7), (8, .int v8)]) rfl rfl rfl ?_
      refine lh_iconst rfl lh_k_0 ?_
      refine lh_iload (q := 5) rfl rfl ?_
      refine lh_iconst rfl lh_k_1 ?_
      refine lh_isub rfl ?_
      refine lh_max rfl rfl ⟨rfl, rfl⟩ rfl ?_
      refine lh_istore (lv' := [(0, .ref (4 + 4)), (1, .ref (a + 4)), (2, .ref (m + 4)), (4, .long v4), (6, .int ((v6 + 1) - (v6 + 1) / 8 * 8)), (7, .int (if 0 < (v7 - 1) then (v7 - 1) else 0)), (8, .int v8)]) rfl rfl rfl ?_
      refine lh_iload (q := 5) rfl rfl ?_
      refine lh_if_le rfl (fun c16 => ?_) (fun c16 => ?_)
      · have hf := lh_ifT hf c16
        refine lh_aload_n (q := 0) rfl rfl rfl ?_
        refine lh_lload (q := 3) rfl rfl ?_
        refine lh_bdE hf (fun r17 e18 hf => ?_)
        refine lh_cVi (N := m_Wa_isReached) (d := 0) (o := 4) (As := [.long v4]) (st := []) rfl rfl v_Wa_isReached (hS.1 4 _ rfl) rfl rfl rfl ⟨rfl, rfl⟩ rfl (t_Wa_isReached hG hS e18 ?_)
        refine lh_if_eq rfl (fun c19 => ?_) (fun c19 => ?_)
        · have hf := lh_ifT hf c19
          refine lh_iinc (q := 6) (v := (v8 + 1)) (lv' := [(0, .ref (4 + 4)), (1, .ref (a + 4)), (2, .ref (m + 4)), (4, .long v4), (6, .int ((v6 + 1) - (v6 + 1) / 8 * 8)), (7, .int (if 0 < (v7 - 1) then (v7 - 1) else 0)), (8, .int (v8 + 1))]) rfl rfl (congrArg (v8 + ·) (by decide)) rfl rfl ?_
          refine lh_goto rfl ?_
          exact ih ((v6 + 1) - (v6 + 1) / 8 * 8) (if 0 < (v7 - 1) then (v7 - 1) else 0) (v8 + 1) r10.2 r14 _ hf x0_ x1_
        · have hf := lh_ifF hf c19
          exact lh_less [6] rfl (by cases hf; exact x0_ rfl)
      · have hf := lh_ifF hf c16
        refine lh_aload_n (q := 1) rfl rfl rfl ?_
        refine lh_aload_n (q := 2) rfl rfl rfl ?_
        refine lh_getI4 rfl rfl hm rfl ?_
        refine lh_iload (q := 5) rfl rfl ?_
        refine lh_iload (q := 4) rfl rfl ?_
        refine lh_bdE hf (fun r20 e21 hf => ?_)
        refine lh_cVv (N := m_Ha_tellDaysShown) (d := 2) (o := a) (As := [.int (r10.2 (m + 4) 2), .int (if 0 < (v7 - 1) then (v7 - 1) else 0), .int ((v6 + 1) - (v6 + 1) / 8 * 8)]) (st := []) rfl rfl v_Ha_tellDaysShown (ha.1 0 _ rfl) rfl rfl rfl ⟨rfl, rfl⟩ rfl (t_Ha_tellDaysShown hG hS ha e21 ?_)
        refine lh_aload_n (q := 0) rfl rfl rfl ?_
        refine lh_aload_n (q := 1) rfl rfl rfl ?_
        refine lh_iload (q := 4) rfl rfl ?_
        refine lh_bdE hf (fun r22 e23 hf => ?_)
        refine lh_cVv (N := m_Wa_look) (d := 3) (o := 4) (As := [.ref (a + 4), .int ((v6 + 1) - (v6 + 1) / 8 * 8)]) (st := []) rfl rfl v_Wa_look (hS.1 4 _ rfl) rfl rfl rfl ⟨rfl, rfl⟩ rfl (t_Wa_look hG hS ha e23 ?_)
        refine lh_aload_n (q := 0) rfl rfl rfl ?_
        refine lh_lload (q := 3) rfl rfl ?_
        refine lh_bdE hf (fun r24 e25 hf => ?_)
        refine lh_cVi (N := m_Wa_isReached) (d := 0) (o := 4) (As := [.long v4]) (st := []) rfl rfl v_Wa_isReached (hS.1 4 _ rfl) rfl rfl rfl ⟨rfl, rfl⟩ rfl (t_Wa_isReached hG hS e25 ?_)
        refine lh_if_eq rfl (fun c26 => ?_) (fun c26 => ?_)
        · have hf := lh_ifT hf c26
          refine lh_iinc (q := 6) (v := (v8 + 1)) (lv' := [(0, .ref (4 + 4)), (1, .ref (a + 4)), (2, .ref (m + 4)), (4, .long v4), (6, .int ((v6 + 1) - (v6 + 1) / 8 * 8)), (7, .int (if 0 < (v7 - 1) then (v7 - 1) else 0)), (8, .int (v8 + 1))]) rfl rfl (congrArg (v8 + ·) (by decide)) rfl rfl ?_
          refine lh_goto rfl ?_
          exact ih ((v6 + 1) - (v6 + 1) / 8 * 8) (if 0 < (v7 - 1) then (v7 - 1) else 0) (v8 + 1) r20 r22 _ hf x0_ x1_
        · have hf := lh_ifF hf c26
          exact lh_less [6] rfl (by cases hf; exact x0_ rfl)
theorem t_Wa_fewestToSee {Γ : lh_Cx} {I : lh_II} {L : lh_LL} {F : lh_FF} {S : lh_SS} {K : Int32 → lh_Hp → Prop} {r : Int32 × lh_II × lh_LL} (hG : lh_GX Γ) (hS : lh_lay F S) {a : Nat} (ha : lh_hl F S a) {m : Nat} (hm : S[m]? = some (10, 0)) {x1 : Int32} (hf : f_Wa_fewestToSee a m x1 I L = some r) (hK : K r.1 (r.2.1, r.2.2, F, S)) : lh_Met Γ m_Wa_fewestToSee 4 0 0 [.ref (4 + 4), .ref (a + 4), .ref (m + 4), .int x1] (I, L, F, S) (lh_ki K) := by
  rw [f_Wa_fewestToSee] at hf
  refine lh_ofG k_Wa_fewestToSee [(0, .ref (4 + 4)), (1, .ref (a + 4)), (2, .ref (m + 4)), (3, .int x1)] rfl (Nat.le_of_ble_eq_true rfl) rfl ?_
  refine lh_aload_n (q := 2) rfl rfl rfl ?_
  refine lh_getI4 rfl rfl hm rfl ?_
  refine lh_iload_n (q := 3) rfl rfl rfl ?_
  refine lh_iand rfl ?_
  refine lh_iload_n (q := 3) rfl rfl rfl ?_
  refine lh_icmp_ne rfl (fun c1 => ?_) (fun c1 => ?_)
  · have hf := lh_ifF hf c1
    refine lh_aload_n (q := 0) rfl rfl rfl ?_
    refine lh_getR4 rfl rfl (hS.1 4 _ rfl) rfl (hS.2 2 _ rfl) ?_
    refine lh_lconst (v := 0) rfl (by decide) ?_
    refine lh_bdE hf (fun r2 e3 hf => ?_)
    refine lh_cSv (N := m_Arr_fill) (d := 0) (As := [.ref (5 + 4), .long 0]) (st := []) rfl rfl v_Arr_fill rfl rfl ⟨rfl, rfl⟩ rfl (t_Arr_fill hG hS (hS.1 5 _ rfl) e3 ?_)
    refine lh_aload_n (q := 1) rfl rfl rfl ?_
    refine lh_aload_n (q := 2) rfl rfl rfl ?_
    refine lh_getI4 rfl rfl hm rfl ?_
    refine lh_bdE hf (fun r4 e5 hf => ?_)
    refine lh_cVi (N := m_Ha_hasCell) (d := 0) (o := a) (As := [.int (I (m + 4) 0)]) (st := []) rfl rfl v_Ha_hasCell (ha.1 0 _ rfl) rfl rfl rfl ⟨rfl, rfl⟩ rfl (t_Ha_hasCell hG hS ha e5 ?_)
    refine lh_if_eq rfl (fun c6 => ?_) (fun c6 => ?_)
    · have hf := lh_ifT hf c6
      refine lh_iload_n (q := 3) rfl rfl rfl ?_
      refine lh_bdE hf (fun r7 e8 hf => ?_)
      refine lh_cSl (N := m_Wa_setsWithAll) (d := 0) (As := [.int x1]) (st := []) rfl rfl v_Wa_setsWithAll rfl rfl ⟨rfl, rfl⟩ rfl (t_Wa_setsWithAll hG hS e8 ?_)
      refine lh_lstore (lv' := [(0, .ref (4 + 4)), (1, .ref (a + 4)), (2, .ref (m + 4)), (3, .int x1), (4, .long r7)]) rfl rfl rfl ?_
      refine lh_aload_n (q := 2) rfl rfl rfl ?_
      refine lh_getI4 rfl rfl hm rfl ?_
      refine lh_istore (lv' := [(0, .ref (4 + 4)), (1, .ref (a + 4)), (2, .ref (m + 4)), (3, .int x1), (4, .long r7), (6, .int (I (m + 4) 1))]) rfl rfl rfl ?_
      refine lh_aload_n (q := 2) rfl rfl rfl ?_
      refine lh_getI4 rfl rfl hm rfl ?_
      refine lh_istore (lv' := [(0, .ref (4 + 4)), (1, .ref (a + 4)), (2, .ref (m + 4)), (3, .int x1), (4, .long r7), (6, .int (I (m + 4) 1)), (7, .int (I (m + 4) 3))]) rfl rfl rfl ?_
      refine lh_iconst rfl lh_k_1 ?_
      refine lh_istore (lv' := [(0, .ref (4 + 4)), (1, .ref (a + 4)), (2, .ref (m + 4)), (3, .int x1), (4, .long r7), (6, .int (I (m + 4) 1)), (7, .int (I (m + 4) 3)), (8, .int 1)]) rfl rfl rfl ?_
      refine lh_bdE hf (fun r27 e28 hf => ?_)
      refine lh_less [0, 1, 2, 4, 5, 6, 7] rfl ?_
      refine t_Wa_fewestToSee_37 hG hS ha hm _ (I (m + 4) 1) (I (m + 4) 3) 1 I r2 _ e28 (fun q0_ => ?_) (fun q1_ => ?_)
      · have hf := lh_ifT hf q0_
        refine lh_iload (q := 0) rfl rfl ?_
        exact lh_iret rfl rfl rfl (by obtain rfl := Option.some.inj hf; exact hK)
      · have hf := lh_ifF hf (by rw [q1_]; decide)
        refine lh_iconst rfl lh_k_m1 ?_
        exact lh_iret rfl rfl rfl (by obtain rfl := Option.some.inj hf; exact hK)
    · have hf := lh_ifF hf c6
      refine lh_aload_n (q := 0) rfl rfl rfl ?_
      refine lh_getR4 rfl rfl (hS.1 4 _ rfl) rfl (hS.2 2 _ rfl) ?_
      refine lh_aload_n (q := 2) rfl rfl rfl ?_
      refine lh_getI4 rfl rfl hm rfl ?_
      refine lh_lconst (v := 1) rfl (by decide) ?_
      refine lh_aload_n (q := 2) rfl rfl rfl ?_
      refine lh_getI4 rfl rfl hm rfl ?_
      refine lh_lshl rfl ?_
      obtain ⟨g29, hf⟩ := lh_gdE hf
      refine lh_last4 rfl (hS.1 5 _ rfl) g29 ?_
      refine lh_iload_n (q := 3) rfl rfl rfl ?_
      refine lh_bdE hf (fun r30 e31 hf => ?_)
      refine lh_cSl (N := m_Wa_setsWithAll) (d := 0) (As := [.int x1]) (st := []) rfl rfl v_Wa_setsWithAll rfl rfl ⟨rfl, rfl⟩ rfl (t_Wa_setsWithAll hG hS e31 ?_)
      refine lh_lstore (lv' := [(0, .ref (4 + 4)), (1, .ref (a + 4)), (2, .ref (m + 4)), (3, .int x1), (4, .long r30)]) rfl rfl rfl ?_
      refine lh_aload_n (q := 2) rfl rfl rfl ?_
      refine lh_getI4 rfl rfl hm rfl ?_
      refine lh_istore (lv' := [(0, .ref (4 + 4)), (1, .ref (a + 4)), (2, .ref (m + 4)), (3, .int x1), (4, .long r30), (6, .int (I (m + 4) 1))]) rfl rfl rfl ?_
      refine lh_aload_n (q := 2) rfl rfl rfl ?_
      refine lh_getI4 rfl rfl hm rfl ?_
      refine lh_istore (lv' := [(0, .ref (4 + 4)), (1, .ref (a + 4)), (2, .ref (m + 4)), (3, .int x1), (4, .long r30), (6, .int (I (m + 4) 1)), (7, .int (I (m + 4) 3))]) rfl rfl rfl ?_
      refine lh_iconst rfl lh_k_1 ?_
      refine lh_istore (lv' := [(0, .ref (4 + 4)), (1, .ref (a + 4)), (2, .ref (m + 4)), (3, .int x1), (4, .long r30), (6, .int (I (m + 4) 1)), (7, .int (I (m + 4) 3)), (8, .int 1)]) rfl rfl rfl ?_
      refine lh_bdE hf (fun r32 e33 hf => ?_)
      refine lh_less [0, 1, 2, 4, 5, 6, 7] rfl ?_
      refine t_Wa_fewestToSee_37 hG hS ha hm _ (I (m + 4) 1) (I (m + 4) 3) 1 I (lh_v2 r2 (5 + 4) (I (m + 4) 0).toNatClampNeg ((1 : Int64) <<< ((I (m + 4) 6).toInt64 &&& 63))) _ e33 (fun q0_ => ?_) (fun q1_ => ?_)
      · have hf := lh_ifT hf q0_
        refine lh_iload (q := 0) rfl rfl ?_
        exact lh_iret rfl rfl rfl (by obtain rfl := Option.some.inj hf; exact hK)
      · have hf := lh_ifF hf (by rw [q1_]; decide)
        refine lh_iconst rfl lh_k_m1 ?_
        exact lh_iret rfl rfl rfl (by obtain rfl := Option.some.inj hf; exact hK)
  · have hf := lh_ifT hf c1
    refine lh_iconst rfl lh_k_0 ?_
    exact lh_iret rfl rfl rfl (by obtain rfl := Option.some.inj hf; exact hK)
def f_LH_shortest (a : Nat) (b : Nat) (x1 : Int32) (I : lh_II) (L : lh_LL) : Option (Int32 × lh_II × lh_LL) := if x1 < 0 then some ((-1), I, L) else if x1 < ((1 : Int32) <<< ((I (a + 4) 11) &&& 31)) then lh_bd (f_Wa_fewestToSee a 7 x1 I L) fun r3 => some (r3.1, r3.2.1, r3.2.2) else some ((-1), I, L)
theorem t_LH_shortest {Γ : lh_Cx} {I : lh_II} {L : lh_LL} {F : lh_FF} {S : lh_SS} {K : Int32 → lh_Hp → Prop} {r : Int32 × lh_II × lh_LL} (hG : lh_GX Γ) (hS : lh_lay F S) {a : Nat} (ha : lh_hl F S a) (hA : F (0 + 4) 6 = a + 4) {b : Nat} (hb : lh_nl F S b) (hB : F (0 + 4) 8 = b + 4) {x1 : Int32} (hf : f_LH_shortest a b x1 I L = some r) (hK : K r.1 (r.2.1, r.2.2, F, S)) : lh_Met Γ m_LH_shortest 5 0 0 [.ref (0 + 4), .int x1] (I, L, F, S) (lh_ki K) := by
  rw [f_LH_shortest] at hf
  refine lh_ofG k_LH_shortest [(0, .ref (0 + 4)), (1, .int x1)] rfl (Nat.le_of_ble_eq_true rfl) rfl ?_
  refine lh_iload_n (q := 1) rfl rfl rfl ?_
  refine lh_if_lt rfl (fun c1 => ?_) (fun c1 => ?_)
  · have hf := lh_ifT hf c1
    refine lh_iconst rfl lh_k_m1 ?_
    exact lh_iret rfl rfl rfl (by obtain rfl := Option.some.inj hf; exact hK)
  · have hf := lh_ifF hf c1
    refine lh_iload_n (q := 1) rfl rfl rfl ?_
    refine lh_iconst rfl lh_k_1 ?_
    refine lh_aload_n (q := 0) rfl rfl rfl ?_
    refine lh_getR4 rfl rfl (hS.1 0 _ rfl) rfl hA ?_
    refine lh_getI4 rfl rfl (ha.1 0 _ rfl) rfl ?_
    refine lh_ishl rfl ?_
    refine lh_icmp_lt rfl (fun c2 => ?_) (fun c2 => ?_)
    · have hf := lh_ifT hf c2
      refine lh_aload_n (q := 0) rfl rfl rfl ?_
      refine lh_getR4 rfl rfl (hS.1 0 _ rfl) rfl (hS.2 9 _ rfl) ?_
      refine lh_aload_n (q := 0) rfl rfl rfl ?_
      refine lh_getR4 rfl rfl (hS.1 0 _ rfl) rfl hA ?_
      refine lh_aload_n (q := 0) rfl rfl rfl ?_
      refine lh_getR4 rfl rfl (hS.1 0 _ rfl) rfl (hS.2 10 _ rfl) ?_
      refine lh_iload_n (q := 1) rfl rfl rfl ?_
      refine lh_bdE hf (fun r3 e4 hf => ?_)
      refine lh_cVi (N := m_Wa_fewestToSee) (d := 4) (o := 4) (As := [.ref (a + 4), .ref (7 + 4), .int x1]) (st := []) rfl rfl v_Wa_fewestToSee (hS.1 4 _ rfl) rfl rfl rfl ⟨rfl, rfl⟩ rfl (t_Wa_fewestToSee hG hS ha (hS.1 7 _ rfl) e4 ?_)
      exact lh_iret rfl rfl rfl (by obtain rfl := Option.some.inj hf; exact hK)
    · have hf := lh_ifF hf c2
      refine lh_iconst rfl lh_k_m1 ?_
      exact lh_iret rfl rfl rfl (by obtain rfl := Option.some.inj hf; exact hK)
def f_LH_shown (a : Nat) (b : Nat) (x1 : Int32) (I : lh_II) : Option (Int32 × lh_II) := lh_bd (f_Ha_hasCell a x1 I) fun r1 => if r1 = 0 then some ((-1), I) else lh_bd (f_Ha_litBy a 7 I) fun r4 => if ((r4 >>> (x1 &&& 31)) &&& 1) = 0 then some ((-1), I) else lh_bd (f_La_dayShown a (I (7 + 4) 2) (I (7 + 4) 3) (if 0 ≤ (x1 - (I (7 + 4) 0)) then (x1 - (I (7 + 4) 0)) else 0 - (x1 - (I (7 + 4) 0))) (I (7 + 4) 1) I) fun r7 => some (r7.1, r7.2)
theorem t_LH_shown {Γ : lh_Cx} {I : lh_II} {L : lh_LL} {F : lh_FF} {S : lh_SS} {K : Int32 → lh_Hp → Prop} {r : Int32 × lh_II} (hG : lh_GX Γ) (hS : lh_lay F S) {a : Nat} (ha : lh_hl F S a) (hA : F (0 + 4) 6 = a + 4) {b : Nat} (hb : lh_nl F S b) (hB : F (0 + 4) 8 = b + 4) {x1 : Int32} (hf : f_LH_shown a b x1 I = some r) (hK : K r.1 (r.2, L, F, S)) : lh_Met Γ m_LH_shown 3 0 0 [.ref (0 + 4), .int x1] (I, L, F, S) (lh_ki K) := by
  rw [f_LH_shown] at hf
  refine lh_ofG k_LH_shown [(0, .ref (0 + 4)), (1, .int x1)] rfl (Nat.le_of_ble_eq_true rfl) rfl ?_
  refine lh_aload_n (q := 0) rfl rfl rfl ?_
  refine lh_getR4 rfl rfl (hS.1 0 _ rfl) rfl hA ?_
  refine lh_iload_n (q := 1) rfl rfl rfl ?_
  refine lh_bdE hf (fun r1 e2 hf => ?_)
  refine lh_cVi (N := m_Ha_hasCell) (d := 0) (o := a) (As := [.int x1]) (st := []) rfl rfl v_Ha_hasCell (ha.1 0 _ rfl) rfl rfl rfl ⟨rfl, rfl⟩ rfl (t_Ha_hasCell hG hS ha e2 ?_)
  refine lh_if_eq rfl (fun c3 => ?_) (fun c3 => ?_)
  · have hf := lh_ifT hf c3
    refine lh_iconst rfl lh_k_m1 ?_
    exact lh_iret rfl rfl rfl (by obtain rfl := Option.some.inj hf; exact hK)
  · have hf := lh_ifF hf c3
    refine lh_aload_n (q := 0) rfl rfl rfl ?_
    refine lh_getR4 rfl rfl (hS.1 0 _ rfl) rfl hA ?_
    refine lh_aload_n (q := 0) rfl rfl rfl ?_
    refine lh_getR4 rfl rfl (hS.1 0 _ rfl) rfl (hS.2 10 _ rfl) ?_
    refine lh_bdE hf (fun r4 e5 hf => ?_)
    refine lh_cVi (N := m_Ha_litBy) (d := 2) (o := a) (As := [.ref (7 + 4)]) (st := []) rfl rfl v_Ha_litBy (ha.1 0 _ rfl) rfl rfl rfl ⟨rfl, rfl⟩ rfl (t_Ha_litBy hG hS ha (hS.1 7 _ rfl) e5 ?_)
    refine lh_iload_n (q := 1) rfl rfl rfl ?_
    refine lh_ishr rfl ?_
    refine lh_iconst rfl lh_k_1 ?_
    refine lh_iand rfl ?_
    refine lh_if_ne rfl (fun c6 => ?_) (fun c6 => ?_)
    · have hf := lh_ifF hf c6
      refine lh_aload_n (q := 0) rfl rfl rfl ?_
      refine lh_getR4 rfl rfl (hS.1 0 _ rfl) rfl hA ?_
      refine lh_getR4 rfl rfl (ha.1 0 _ rfl) rfl (ha.2 0 _ rfl) ?_
      refine lh_aload_n (q := 0) rfl rfl rfl ?_
      refine lh_getR4 rfl rfl (hS.1 0 _ rfl) rfl (hS.2 10 _ rfl) ?_
      refine lh_getI4 rfl rfl (hS.1 7 _ rfl) rfl ?_
      refine lh_aload_n (q := 0) rfl rfl rfl ?_
      refine lh_getR4 rfl rfl (hS.1 0 _ rfl) rfl (hS.2 10 _ rfl) ?_
      refine lh_getI4 rfl rfl (hS.1 7 _ rfl) rfl ?_
      refine lh_iload_n (q := 1) rfl rfl rfl ?_
      refine lh_aload_n (q := 0) rfl rfl rfl ?_
      refine lh_getR4 rfl rfl (hS.1 0 _ rfl) rfl (hS.2 10 _ rfl) ?_
      refine lh_getI4 rfl rfl (hS.1 7 _ rfl) rfl ?_
      refine lh_isub rfl ?_
      refine lh_abs rfl rfl ⟨rfl, rfl⟩ rfl ?_
      refine lh_aload_n (q := 0) rfl rfl rfl ?_
      refine lh_getR4 rfl rfl (hS.1 0 _ rfl) rfl (hS.2 10 _ rfl) ?_
      refine lh_getI4 rfl rfl (hS.1 7 _ rfl) rfl ?_
      refine lh_bdE hf (fun r7 e8 hf => ?_)
      refine lh_cVi (N := m_La_dayShown) (d := 1) (o := a + 1) (As := [.int (I (7 + 4) 2), .int (I (7 + 4) 3), .int (if 0 ≤ (x1 - (I (7 + 4) 0)) then (x1 - (I (7 + 4) 0)) else 0 - (x1 - (I (7 + 4) 0))), .int (I (7 + 4) 1)]) (st := []) rfl rfl v_La_dayShown (ha.1 1 _ rfl) rfl rfl rfl ⟨rfl, rfl⟩ rfl (t_La_dayShown hG hS ha e8 ?_)
      exact lh_iret rfl rfl rfl (by obtain rfl := Option.some.inj hf; exact hK)
    · have hf := lh_ifT hf c6
      refine lh_iconst rfl lh_k_m1 ?_
      exact lh_iret rfl rfl rfl (by obtain rfl := Option.some.inj hf; exact hK)
def f_LH_step (a : Nat) (b : Nat) (x1 : Int32) (I : lh_II) : Option (Int32 × lh_II) := lh_bd (f_LH_isWay x1) fun r1 => if r1 = 0 then some ((-1), I) else lh_bd (f_LH_remember a b I) fun r4 => lh_bd (f_Ha_walk a 7 x1 r4) fun r6 => some (r6.1, r6.2)
theorem t_LH_step {Γ : lh_Cx} {I : lh_II} {L : lh_LL} {F : lh_FF} {S : lh_SS} {K : Int32 → lh_Hp → Prop} {r : Int32 × lh_II} (hG : lh_GX Γ) (hS : lh_lay F S) {a : Nat} (ha : lh_hl F S a) (hA : F (0 + 4) 6 = a + 4) {b : Nat} (hb : lh_nl F S b) (hB : F (0 + 4) 8 = b + 4) {x1 : Int32} (hf : f_LH_step a b x1 I = some r) (hK : K r.1 (r.2, L, F, S)) : lh_Met Γ m_LH_step 6 0 0 [.ref (0 + 4), .int x1] (I, L, F, S) (lh_ki K) := by
  rw [f_LH_step] at hf
  refine lh_ofG k_LH_step [(0, .ref (0 + 4)), (1, .int x1)] rfl (Nat.le_of_ble_eq_true rfl) rfl ?_
  refine lh_iload_n (q := 1) rfl rfl rfl ?_
  refine lh_bdE hf (fun r1 e2 hf => ?_)
  refine lh_cSi (N := m_LH_isWay) (d := 0) (As := [.int x1]) (st := []) rfl rfl v_LH_isWay rfl rfl ⟨rfl, rfl⟩ rfl (t_LH_isWay hG hS e2 ?_)
  refine lh_if_ne rfl (fun c3 => ?_) (fun c3 => ?_)
  · have hf := lh_ifF hf c3
    refine lh_aload_n (q := 0) rfl rfl rfl ?_
    refine lh_bdE hf (fun r4 e5 hf => ?_)
    refine lh_cVv (N := m_LH_remember) (d := 1) (o := 0) (As := []) (st := []) rfl rfl v_LH_remember (hS.1 0 _ rfl) rfl rfl rfl ⟨rfl, rfl⟩ rfl (t_LH_remember hG hS ha hA hb hB e5 ?_)
    refine lh_aload_n (q := 0) rfl rfl rfl ?_
    refine lh_getR4 rfl rfl (hS.1 0 _ rfl) rfl hA ?_
    refine lh_aload_n (q := 0) rfl rfl rfl ?_
    refine lh_getR4 rfl rfl (hS.1 0 _ rfl) rfl (hS.2 10 _ rfl) ?_
    refine lh_iload_n (q := 1) rfl rfl rfl ?_
    refine lh_bdE hf (fun r6 e7 hf => ?_)
    refine lh_cVi (N := m_Ha_walk) (d := 5) (o := a) (As := [.ref (7 + 4), .int x1]) (st := []) rfl rfl v_Ha_walk (ha.1 0 _ rfl) rfl rfl rfl ⟨rfl, rfl⟩ rfl (t_Ha_walk hG hS ha (hS.1 7 _ rfl) e7 ?_)
    exact lh_iret rfl rfl rfl (by obtain rfl := Option.some.inj hf; exact hK)
  · have hf := lh_ifT hf c3
    refine lh_iconst rfl lh_k_m1 ?_
    exact lh_iret rfl rfl rfl (by obtain rfl := Option.some.inj hf; exact hK)
def f_LH_taken (a : Nat) (b : Nat) (x1 : Int32) (x2 : Int32) (x3 : Int32) (I : lh_II) : Option (Int32) := lh_bd (f_Ha_hasVase a x1 I) fun r1 => if r1 = 0 then some (-1) else lh_bd (f_LH_isDay x2) fun r4 => if r4 = 0 then some (-1) else if x3 < 0 then some (-1) else if x3 ≤ 1 then lh_bd (f_Ha_hourTaken a x1 x2 I) fun r9 => if x3 = 0 then some r9 else if r9 = (-1) then some r9 else lh_gd (lh_ix x1 4) (lh_bd (f_Ha_firstThiefIn a (I (a + 8 + 4) x1.toNatClampNeg) x2 r9 I) fun r14 => some r14) else some (-1)
theorem t_LH_taken {Γ : lh_Cx} {I : lh_II} {L : lh_LL} {F : lh_FF} {S : lh_SS} {K : Int32 → lh_Hp → Prop} {r : Int32} (hG : lh_GX Γ) (hS : lh_lay F S) {a : Nat} (ha : lh_hl F S a) (hA : F (0 + 4) 6 = a + 4) {b : Nat} (hb : lh_nl F S b) (hB : F (0 + 4) 8 = b + 4) {x1 : Int32} {x2 : Int32} {x3 : Int32} (hf : f_LH_taken a b x1 x2 x3 I = some r) (hK : K r (I, L, F, S)) : lh_Met Γ m_LH_taken 4 0 0 [.ref (0 + 4), .int x1, .int x2, .int x3] (I, L, F, S) (lh_ki K) := by
  rw [f_LH_taken] at hf
  refine lh_ofG k_LH_taken [(0, .ref (0 + 4)), (1, .int x1), (2, .int x2), (3, .int x3)] rfl (Nat.le_of_ble_eq_true rfl) rfl ?_
  refine lh_aload_n (q := 0) rfl rfl rfl ?_
  refine lh_getR4 rfl rfl (hS.1 0 _ rfl) rfl hA ?_
  refine lh_iload_n (q := 1) rfl rfl rfl ?_
  refine lh_bdE hf (fun r1 e2 hf => ?_)
  refine lh_cVi (N := m_Ha_hasVase) (d := 0) (o := a) (As := [.int x1]) (st := []) rfl rfl v_Ha_hasVase (ha.1 0 _ rfl) rfl rfl rfl ⟨rfl, rfl⟩ rfl (t_Ha_hasVase hG hS ha e2 ?_)
  refine lh_if_eq rfl (fun c3 => ?_) (fun c3 => ?_)
  · have hf := lh_ifT hf c3
    refine lh_iconst rfl lh_k_m1 ?_
    exact lh_iret rfl rfl rfl (by obtain rfl := Option.some.inj hf; exact hK)
  · have hf := lh_ifF hf c3
    refine lh_iload_n (q := 2) rfl rfl rfl ?_
    refine lh_bdE hf (fun r4 e5 hf => ?_)
    refine lh_cSi (N := m_LH_isDay) (d := 0) (As := [.int x2]) (st := []) rfl rfl v_LH_isDay rfl rfl ⟨rfl, rfl⟩ rfl (t_LH_isDay hG hS e5 ?_)
    refine lh_if_eq rfl (fun c6 => ?_) (fun c6 => ?_)
    · have hf := lh_ifT hf c6
      refine lh_iconst rfl lh_k_m1 ?_
      exact lh_iret rfl rfl rfl (by obtain rfl := Option.some.inj hf; exact hK)
    · have hf := lh_ifF hf c6
      refine lh_iload_n (q := 3) rfl rfl rfl ?_
      refine lh_if_lt rfl (fun c7 => ?_) (fun c7 => ?_)
      · have hf := lh_ifT hf c7
        refine lh_iconst rfl lh_k_m1 ?_
        exact lh_iret rfl rfl rfl (by obtain rfl := Option.some.inj hf; exact hK)
      · have hf := lh_ifF hf c7
        refine lh_iload_n (q := 3) rfl rfl rfl ?_
        refine lh_iconst rfl lh_k_1 ?_
        refine lh_icmp_le rfl (fun c8 => ?_) (fun c8 => ?_)
        · have hf := lh_ifT hf c8
          refine lh_aload_n (q := 0) rfl rfl rfl ?_
          refine lh_getR4 rfl rfl (hS.1 0 _ rfl) rfl hA ?_
          refine lh_iload_n (q := 1) rfl rfl rfl ?_
          refine lh_iload_n (q := 2) rfl rfl rfl ?_
          refine lh_bdE hf (fun r9 e10 hf => ?_)
          refine lh_cVi (N := m_Ha_hourTaken) (d := 3) (o := a) (As := [.int x1, .int x2]) (st := []) rfl rfl v_Ha_hourTaken (ha.1 0 _ rfl) rfl rfl rfl ⟨rfl, rfl⟩ rfl (t_Ha_hourTaken hG hS ha e10 ?_)
          refine lh_istore (lv' := [(0, .ref (0 + 4)), (1, .int x1), (2, .int x2), (3, .int x3), (4, .int r9)]) rfl rfl rfl ?_
          refine lh_iload_n (q := 3) rfl rfl rfl ?_
          refine lh_if_eq rfl (fun c11 => ?_) (fun c11 => ?_)
          · have hf := lh_ifT hf c11
            refine lh_iload (q := 4) rfl rfl ?_
            refine lh_goto rfl ?_
            exact lh_iret rfl rfl rfl (by obtain rfl := Option.some.inj hf; exact hK)
          · have hf := lh_ifF hf c11
            refine lh_iload (q := 4) rfl rfl ?_
            refine lh_iconst rfl lh_k_m1 ?_
            refine lh_icmp_ne rfl (fun c12 => ?_) (fun c12 => ?_)
            · have hf := lh_ifF hf c12
              refine lh_aload_n (q := 0) rfl rfl rfl ?_
              refine lh_getR4 rfl rfl (hS.1 0 _ rfl) rfl hA ?_
              refine lh_aload_n (q := 0) rfl rfl rfl ?_
              refine lh_getR4 rfl rfl (hS.1 0 _ rfl) rfl hA ?_
              refine lh_getR4 rfl rfl (ha.1 0 _ rfl) rfl (ha.2 7 _ rfl) ?_
              refine lh_iload_n (q := 1) rfl rfl rfl ?_
              obtain ⟨g13, hf⟩ := lh_gdE hf
              refine lh_iald4 rfl (ha.1 8 _ rfl) g13 ?_
              refine lh_iload_n (q := 2) rfl rfl rfl ?_
              refine lh_iload (q := 4) rfl rfl ?_
              refine lh_bdE hf (fun r14 e15 hf => ?_)
              refine lh_cVi (N := m_Ha_firstThiefIn) (d := 2) (o := a) (As := [.int (I (a + 8 + 4) x1.toNatClampNeg), .int x2, .int r9]) (st := []) rfl rfl v_Ha_firstThiefIn (ha.1 0 _ rfl) rfl rfl rfl ⟨rfl, rfl⟩ rfl (t_Ha_firstThiefIn hG hS ha e15 ?_)
              exact lh_iret rfl rfl rfl (by obtain rfl := Option.some.inj hf; exact hK)
            · have hf := lh_ifT hf c12
              refine lh_iload (q := 4) rfl rfl ?_
              refine lh_goto rfl ?_
              exact lh_iret rfl rfl rfl (by obtain rfl := Option.some.inj hf; exact hK)
        · have hf := lh_ifF hf c8
          refine lh_iconst rfl lh_k_m1 ?_
          exact lh_iret rfl rfl rfl (by obtain rfl := Option.some.inj hf; exact hK)
def f_LH_treasures (a : Nat) (b : Nat) (I : lh_II) : Option (Int32 × lh_II) := lh_bd (f_Ha_vasesSeenBy a 7 I) fun r1 => some (r1.1, r1.2)
theorem t_LH_treasures {Γ : lh_Cx} {I : lh_II} {L : lh_LL} {F : lh_FF} {S : lh_SS} {K : Int32 → lh_Hp → Prop} {r : Int32 × lh_II} (hG : lh_GX Γ) (hS : lh_lay F S) {a : Nat} (ha : lh_hl F S a) (hA : F (0 + 4) 6 = a + 4) {b : Nat} (hb : lh_nl F S b) (hB : F (0 + 4) 8 = b + 4) (hf : f_LH_treasures a b I = some r) (hK : K r.1 (r.2, L, F, S)) : lh_Met Γ m_LH_treasures 5 0 0 [.ref (0 + 4)] (I, L, F, S) (lh_ki K) := by
  rw [f_LH_treasures] at hf
  refine lh_ofG k_LH_treasures [(0, .ref (0 + 4))] rfl (Nat.le_of_ble_eq_true rfl) rfl ?_
  refine lh_aload_n (q := 0) rfl rfl rfl ?_
  refine lh_getR4 rfl rfl (hS.1 0 _ rfl) rfl hA ?_
  refine lh_aload_n (q := 0) rfl rfl rfl ?_
  refine lh_getR4 rfl rfl (hS.1 0 _ rfl) rfl (hS.2 10 _ rfl) ?_
  refine lh_bdE hf (fun r1 e2 hf => ?_)
  refine lh_cVi (N := m_Ha_vasesSeenBy) (d := 4) (o := a) (As := [.ref (7 + 4)]) (st := []) rfl rfl v_Ha_vasesSeenBy (ha.1 0 _ rfl) rfl rfl rfl ⟨rfl, rfl⟩ rfl (t_Ha_vasesSeenBy hG hS ha (hS.1 7 _ rfl) e2 ?_)
  exact lh_iret rfl rfl rfl (by obtain rfl := Option.some.inj hf; exact hK)
def f_LH_trim (a : Nat) (b : Nat) (x1 : Int32) (I : lh_II) : Option (Int32 × lh_II) := lh_bd (f_LH_isDay x1) fun r1 => if r1 = 0 then some ((-1), I) else if 2 ≤ (I (7 + 4) 3) then lh_bd (f_LH_remember a b I) fun r5 => lh_bd (f_Mo_trimTo 7 x1 r5) fun r7 => some ((r7 (7 + 4) 3), r7) else some ((-1), I)
theorem t_LH_trim {Γ : lh_Cx} {I : lh_II} {L : lh_LL} {F : lh_FF} {S : lh_SS} {K : Int32 → lh_Hp → Prop} {r : Int32 × lh_II} (hG : lh_GX Γ) (hS : lh_lay F S) {a : Nat} (ha : lh_hl F S a) (hA : F (0 + 4) 6 = a + 4) {b : Nat} (hb : lh_nl F S b) (hB : F (0 + 4) 8 = b + 4) {x1 : Int32} (hf : f_LH_trim a b x1 I = some r) (hK : K r.1 (r.2, L, F, S)) : lh_Met Γ m_LH_trim 2 0 0 [.ref (0 + 4), .int x1] (I, L, F, S) (lh_ki K) := by
  rw [f_LH_trim] at hf
  refine lh_ofG k_LH_trim [(0, .ref (0 + 4)), (1, .int x1)] rfl (Nat.le_of_ble_eq_true rfl) rfl ?_
  refine lh_iload_n (q := 1) rfl rfl rfl ?_
  refine lh_bdE hf (fun r1 e2 hf => ?_)
  refine lh_cSi (N := m_LH_isDay) (d := 0) (As := [.int x1]) (st := []) rfl rfl v_LH_isDay rfl rfl ⟨rfl, rfl⟩ rfl (t_LH_isDay hG hS e2 ?_)
  refine lh_if_eq rfl (fun c3 => ?_) (fun c3 => ?_)
  · have hf := lh_ifT hf c3
    refine lh_iconst rfl lh_k_m1 ?_
    exact lh_iret rfl rfl rfl (by obtain rfl := Option.some.inj hf; exact hK)
  · have hf := lh_ifF hf c3
    refine lh_aload_n (q := 0) rfl rfl rfl ?_
    refine lh_getR4 rfl rfl (hS.1 0 _ rfl) rfl (hS.2 10 _ rfl) ?_
    refine lh_getI4 rfl rfl (hS.1 7 _ rfl) rfl ?_
    refine lh_iconst rfl lh_k_2 ?_
    refine lh_icmp_ge rfl (fun c4 => ?_) (fun c4 => ?_)
    · have hf := lh_ifT hf c4
      refine lh_aload_n (q := 0) rfl rfl rfl ?_
      refine lh_bdE hf (fun r5 e6 hf => ?_)
      refine lh_cVv (N := m_LH_remember) (d := 1) (o := 0) (As := []) (st := []) rfl rfl v_LH_remember (hS.1 0 _ rfl) rfl rfl rfl ⟨rfl, rfl⟩ rfl (t_LH_remember hG hS ha hA hb hB e6 ?_)
      refine lh_aload_n (q := 0) rfl rfl rfl ?_
      refine lh_getR4 rfl rfl (hS.1 0 _ rfl) rfl (hS.2 10 _ rfl) ?_
      refine lh_iload_n (q := 1) rfl rfl rfl ?_
      refine lh_bdE hf (fun r7 e8 hf => ?_)
      refine lh_cVv (N := m_Mo_trimTo) (d := 0) (o := 7) (As := [.int x1]) (st := []) rfl rfl v_Mo_trimTo (hS.1 7 _ rfl) rfl rfl rfl ⟨rfl, rfl⟩ rfl (t_Mo_trimTo hG hS (hS.1 7 _ rfl) e8 ?_)
      refine lh_aload_n (q := 0) rfl rfl rfl ?_
      refine lh_getR4 rfl rfl (hS.1 0 _ rfl) rfl (hS.2 10 _ rfl) ?_
      refine lh_getI4 rfl rfl (hS.1 7 _ rfl) rfl ?_
      exact lh_iret rfl rfl rfl (by obtain rfl := Option.some.inj hf; exact hK)
    · have hf := lh_ifF hf c4
      refine lh_iconst rfl lh_k_m1 ?_
      exact lh_iret rfl rfl rfl (by obtain rfl := Option.some.inj hf; exact hK)
def f_LH_undo (a : Nat) (b : Nat) (I : lh_II) : Option (Int32 × lh_II) := if (I (0 + 4) 11) = 0 then some (0, I) else lh_gd (lh_ix ((lh_u2 (lh_u2 I (0 + 4) 10 ((((I (0 + 4) 10) + 16) - 1) - (((I (0 + 4) 10) + 16) - 1) / 16 * 16)) (0 + 4) 11 (((lh_u2 I (0 + 4) 10 ((((I (0 + 4) 10) + 16) - 1) - (((I (0 + 4) 10) + 16) - 1) / 16 * 16)) (0 + 4) 11) - 1)) (0 + 4) 10) 16) (lh_bd (f_Mo_become 7 (41 + ((lh_u2 (lh_u2 I (0 + 4) 10 ((((I (0 + 4) 10) + 16) - 1) - (((I (0 + 4) 10) + 16) - 1) / 16 * 16)) (0 + 4) 11 (((lh_u2 I (0 + 4) 10 ((((I (0 + 4) 10) + 16) - 1) - (((I (0 + 4) 10) + 16) - 1) / 16 * 16)) (0 + 4) 11) - 1)) (0 + 4) 10).toNatClampNeg) (lh_u2 (lh_u2 I (0 + 4) 10 ((((I (0 + 4) 10) + 16) - 1) - (((I (0 + 4) 10) + 16) - 1) / 16 * 16)) (0 + 4) 11 (((lh_u2 I (0 + 4) 10 ((((I (0 + 4) 10) + 16) - 1) - (((I (0 + 4) 10) + 16) - 1) / 16 * 16)) (0 + 4) 11) - 1))) fun r3 => some (1, r3))
theorem t_LH_undo {Γ : lh_Cx} {I : lh_II} {L : lh_LL} {F : lh_FF} {S : lh_SS} {K : Int32 → lh_Hp → Prop} {r : Int32 × lh_II} (hG : lh_GX Γ) (hS : lh_lay F S) {a : Nat} (ha : lh_hl F S a) (hA : F (0 + 4) 6 = a + 4) {b : Nat} (hb : lh_nl F S b) (hB : F (0 + 4) 8 = b + 4) (hf : f_LH_undo a b I = some r) (hK : K r.1 (r.2, L, F, S)) : lh_Met Γ m_LH_undo 1 0 0 [.ref (0 + 4)] (I, L, F, S) (lh_ki K) := by
  rw [f_LH_undo] at hf
  refine lh_ofG k_LH_undo [(0, .ref (0 + 4))] rfl (Nat.le_of_ble_eq_true rfl) rfl ?_
  refine lh_aload_n (q := 0) rfl rfl rfl ?_
  refine lh_getI4 rfl rfl (hS.1 0 _ rfl) rfl ?_
  refine lh_if_ne rfl (fun c1 => ?_) (fun c1 => ?_)
  · have hf := lh_ifF hf c1
    refine lh_aload_n (q := 0) rfl rfl rfl ?_
    refine lh_aload_n (q := 0) rfl rfl rfl ?_
    refine lh_getI4 rfl rfl (hS.1 0 _ rfl) rfl ?_
    refine lh_bipush rfl lh_b_16 ?_
    refine lh_iadd rfl ?_
    refine lh_iconst rfl lh_k_1 ?_
    refine lh_isub rfl ?_
    refine lh_bipush rfl lh_b_16 ?_
    refine lh_irem rfl (by decide) ?_
    refine lh_putI4 rfl rfl (hS.1 0 _ rfl) rfl rfl ?_
    refine lh_aload_n (q := 0) rfl rfl rfl ?_
    refine lh_dup rfl rfl ?_
    refine lh_getI4 rfl rfl (hS.1 0 _ rfl) rfl ?_
    refine lh_iconst rfl lh_k_1 ?_
    refine lh_isub rfl ?_
    refine lh_putI4 rfl rfl (hS.1 0 _ rfl) rfl rfl ?_
    refine lh_aload_n (q := 0) rfl rfl rfl ?_
    refine lh_getR4 rfl rfl (hS.1 0 _ rfl) rfl (hS.2 10 _ rfl) ?_
    refine lh_aload_n (q := 0) rfl rfl rfl ?_
    refine lh_getR4 rfl rfl (hS.1 0 _ rfl) rfl (hS.2 12 _ rfl) ?_
    refine lh_aload_n (q := 0) rfl rfl rfl ?_
    refine lh_getI4 rfl rfl (hS.1 0 _ rfl) rfl ?_
    obtain ⟨g2, hf⟩ := lh_gdE hf
    refine lh_aaload4 rfl (hS.1 9 _ rfl) (lh_ix_in g2) (lh_pastF hS g2) ?_
    refine lh_bdE hf (fun r3 e4 hf => ?_)
    refine lh_cVv (N := m_Mo_become) (d := 0) (o := 7) (As := [.ref (41 + ((lh_u2 (lh_u2 I (0 + 4) 10 ((((I (0 + 4) 10) + 16) - 1) - (((I (0 + 4) 10) + 16) - 1) / 16 * 16)) (0 + 4) 11 (((lh_u2 I (0 + 4) 10 ((((I (0 + 4) 10) + 16) - 1) - (((I (0 + 4) 10) + 16) - 1) / 16 * 16)) (0 + 4) 11) - 1)) (0 + 4) 10).toNatClampNeg + 4)]) (st := []) rfl rfl v_Mo_become (hS.1 7 _ rfl) rfl rfl rfl ⟨rfl, rfl⟩ rfl (t_Mo_become hG hS (hS.1 7 _ rfl) (lh_pastS hS g2) e4 ?_)
    refine lh_iconst rfl lh_k_1 ?_
    exact lh_iret rfl rfl (by decide) (by obtain rfl := Option.some.inj hf; exact hK)
  · have hf := lh_ifT hf c1
    refine lh_iconst rfl lh_k_0 ?_
    exact lh_iret rfl rfl (by decide) (by obtain rfl := Option.some.inj hf; exact hK)
def f_LH_vase (a : Nat) (b : Nat) (x1 : Int32) (x2 : Int32) (I : lh_II) : Option (Int32 × lh_II) := lh_bd (f_Ha_hasVase a x1 I) fun r1 => if r1 = 0 then some ((-2), I) else if x2 = 0 then lh_gd (lh_ix x1 4) (some ((I (a + 8 + 4) x1.toNatClampNeg), I)) else if x2 = 1 then lh_bd (f_Ha_vasesSeenBy a 7 I) fun r7 => some (((r7.1 >>> (x1 &&& 31)) &&& 1), r7.2) else some ((-2), I)
theorem t_LH_vase {Γ : lh_Cx} {I : lh_II} {L : lh_LL} {F : lh_FF} {S : lh_SS} {K : Int32 → lh_Hp → Prop} {r : Int32 × lh_II} (hG : lh_GX Γ) (hS : lh_lay F S) {a : Nat} (ha : lh_hl F S a) (hA : F (0 + 4) 6 = a + 4) {b : Nat} (hb : lh_nl F S b) (hB : F (0 + 4) 8 = b + 4) {x1 : Int32} {x2 : Int32} (hf : f_LH_vase a b x1 x2 I = some r) (hK : K r.1 (r.2, L, F, S)) : lh_Met Γ m_LH_vase 5 0 0 [.ref (0 + 4), .int x1, .int x2] (I, L, F, S) (lh_ki K) := by
  rw [f_LH_vase] at hf
  refine lh_ofG k_LH_vase [(0, .ref (0 + 4)), (1, .int x1), (2, .int x2)] rfl (Nat.le_of_ble_eq_true rfl) rfl ?_
  refine lh_aload_n (q := 0) rfl rfl rfl ?_
  refine lh_getR4 rfl rfl (hS.1 0 _ rfl) rfl hA ?_
  refine lh_iload_n (q := 1) rfl rfl rfl ?_
  refine lh_bdE hf (fun r1 e2 hf => ?_)
  refine lh_cVi (N := m_Ha_hasVase) (d := 0) (o := a) (As := [.int x1]) (st := []) rfl rfl v_Ha_hasVase (ha.1 0 _ rfl) rfl rfl rfl ⟨rfl, rfl⟩ rfl (t_Ha_hasVase hG hS ha e2 ?_)
  refine lh_if_ne rfl (fun c3 => ?_) (fun c3 => ?_)
  · have hf := lh_ifF hf c3
    refine lh_iload_n (q := 2) rfl rfl rfl ?_
    by_cases c4 : x2 = 0
    · have hf := lh_ifT hf c4
      refine lh_lsw (tgt := 9) (off := 25) rfl (by decide) (by rw [c4]; decide) rfl ?_
      refine lh_aload_n (q := 0) rfl rfl rfl ?_
      refine lh_getR4 rfl rfl (hS.1 0 _ rfl) rfl hA ?_
      refine lh_getR4 rfl rfl (ha.1 0 _ rfl) rfl (ha.2 7 _ rfl) ?_
      refine lh_iload_n (q := 1) rfl rfl rfl ?_
      obtain ⟨g5, hf⟩ := lh_gdE hf
      refine lh_iald4 rfl (ha.1 8 _ rfl) g5 ?_
      exact lh_iret rfl rfl rfl (by obtain rfl := Option.some.inj hf; exact hK)
    · have hf := lh_ifF hf c4
      by_cases c6 : x2 = 1
      · have hf := lh_ifT hf c6
        refine lh_lsw (tgt := 15) (off := 35) rfl (by decide) (by rw [c6]; decide) rfl ?_
        refine lh_aload_n (q := 0) rfl rfl rfl ?_
        refine lh_getR4 rfl rfl (hS.1 0 _ rfl) rfl hA ?_
        refine lh_aload_n (q := 0) rfl rfl rfl ?_
        refine lh_getR4 rfl rfl (hS.1 0 _ rfl) rfl (hS.2 10 _ rfl) ?_
        refine lh_bdE hf (fun r7 e8 hf => ?_)
        refine lh_cVi (N := m_Ha_vasesSeenBy) (d := 4) (o := a) (As := [.ref (7 + 4)]) (st := []) rfl rfl v_Ha_vasesSeenBy (ha.1 0 _ rfl) rfl rfl rfl ⟨rfl, rfl⟩ rfl (t_Ha_vasesSeenBy hG hS ha (hS.1 7 _ rfl) e8 ?_)
        refine lh_iload_n (q := 1) rfl rfl rfl ?_
        refine lh_ishr rfl ?_
        refine lh_iconst rfl lh_k_1 ?_
        refine lh_iand rfl ?_
        exact lh_iret rfl rfl rfl (by obtain rfl := Option.some.inj hf; exact hK)
      · have hf := lh_ifF hf c6
        refine lh_lsw (tgt := 25) (off := 51) rfl (by decide) (by show Op.lookupswitch.offset [(0, 25), (1, 35)] 51 _ = _; rw [lv_osw c4 (by decide)]; rw [lv_osw c6 (by decide)]; rfl) rfl ?_
        refine lh_bipush rfl lh_b_m2 ?_
        exact lh_iret rfl rfl rfl (by obtain rfl := Option.some.inj hf; exact hK)
  · have hf := lh_ifT hf c3
    refine lh_bipush rfl lh_b_m2 ?_
    exact lh_iret rfl rfl rfl (by obtain rfl := Option.some.inj hf; exact hK)
def f_LH_visitor (a : Nat) (b : Nat) (x1 : Int32) (x2 : Int32) (I : lh_II) : Option (Int32 × lh_II) := lh_bd (f_Ha_hasVisitor a x1 I) fun r1 => if r1 = 0 then some ((-2), I) else if x2 = 0 then lh_gd (lh_ix x1 6) (some ((I (a + 4 + 4) x1.toNatClampNeg), I)) else if x2 = 1 then lh_gd (lh_ix x1 6) (some ((I (a + 5 + 4) x1.toNatClampNeg), I)) else if x2 = 2 then lh_bd (f_Ha_placeOf a x1 (I (7 + 4) 1) I) fun r9 => some (r9, I) else if x2 = 3 then some ((((I (7 + 4) 6) >>> (x1 &&& 31)) &&& 1), I) else if x2 = 4 then lh_bd (f_Ha_seenBy a 7 I) fun r13 => some (((r13.1 >>> (x1 &&& 31)) &&& 1), r13.2) else some ((-2), I)
theorem t_LH_visitor {Γ : lh_Cx} {I : lh_II} {L : lh_LL} {F : lh_FF} {S : lh_SS} {K : Int32 → lh_Hp → Prop} {r : Int32 × lh_II} (hG : lh_GX Γ) (hS : lh_lay F S) {a : Nat} (ha : lh_hl F S a) (hA : F (0 + 4) 6 = a + 4) {b : Nat} (hb : lh_nl F S b) (hB : F (0 + 4) 8 = b + 4) {x1 : Int32} {x2 : Int32} (hf : f_LH_visitor a b x1 x2 I = some r) (hK : K r.1 (r.2, L, F, S)) : lh_Met Γ m_LH_visitor 5 0 0 [.ref (0 + 4), .int x1, .int x2] (I, L, F, S) (lh_ki K) := by
  rw [f_LH_visitor] at hf
  refine lh_ofG k_LH_visitor [(0, .ref (0 + 4)), (1, .int x1), (2, .int x2)] rfl (Nat.le_of_ble_eq_true rfl) rfl ?_
  refine lh_aload_n (q := 0) rfl rfl rfl ?_
  refine lh_getR4 rfl rfl (hS.1 0 _ rfl) rfl hA ?_
  refine lh_iload_n (q := 1) rfl rfl rfl ?_
  refine lh_bdE hf (fun r1 e2 hf => ?_)
  refine lh_cVi (N := m_Ha_hasVisitor) (d := 0) (o := a) (As := [.int x1]) (st := []) rfl rfl v_Ha_hasVisitor (ha.1 0 _ rfl) rfl rfl rfl ⟨rfl, rfl⟩ rfl (t_Ha_hasVisitor hG hS ha e2 ?_)
  refine lh_if_ne rfl (fun c3 => ?_) (fun c3 => ?_)
  · have hf := lh_ifF hf c3
    refine lh_iload_n (q := 2) rfl rfl rfl ?_
    by_cases c4 : x2 = 0
    · have hf := lh_ifT hf c4
      refine lh_tsIn (q := 0) (tgt := 9) rfl (by rw [c4]; decide) (by decide) rfl rfl ?_
      refine lh_aload_n (q := 0) rfl rfl rfl ?_
      refine lh_getR4 rfl rfl (hS.1 0 _ rfl) rfl hA ?_
      refine lh_getR4 rfl rfl (ha.1 0 _ rfl) rfl (ha.2 3 _ rfl) ?_
      refine lh_iload_n (q := 1) rfl rfl rfl ?_
      obtain ⟨g5, hf⟩ := lh_gdE hf
      refine lh_iald4 rfl (ha.1 4 _ rfl) g5 ?_
      exact lh_iret rfl rfl rfl (by obtain rfl := Option.some.inj hf; exact hK)
    · have hf := lh_ifF hf c4
      by_cases c6 : x2 = 1
      · have hf := lh_ifT hf c6
        refine lh_tsIn (q := 1) (tgt := 15) rfl (by rw [c6]; decide) (by decide) rfl rfl ?_
        refine lh_aload_n (q := 0) rfl rfl rfl ?_
        refine lh_getR4 rfl rfl (hS.1 0 _ rfl) rfl hA ?_
        refine lh_getR4 rfl rfl (ha.1 0 _ rfl) rfl (ha.2 4 _ rfl) ?_
        refine lh_iload_n (q := 1) rfl rfl rfl ?_
        obtain ⟨g7, hf⟩ := lh_gdE hf
        refine lh_iald4 rfl (ha.1 5 _ rfl) g7 ?_
        exact lh_iret rfl rfl rfl (by obtain rfl := Option.some.inj hf; exact hK)
      · have hf := lh_ifF hf c6
        by_cases c8 : x2 = 2
        · have hf := lh_ifT hf c8
          refine lh_tsIn (q := 2) (tgt := 21) rfl (by rw [c8]; decide) (by decide) rfl rfl ?_
          refine lh_aload_n (q := 0) rfl rfl rfl ?_
          refine lh_getR4 rfl rfl (hS.1 0 _ rfl) rfl hA ?_
          refine lh_iload_n (q := 1) rfl rfl rfl ?_
          refine lh_aload_n (q := 0) rfl rfl rfl ?_
          refine lh_getR4 rfl rfl (hS.1 0 _ rfl) rfl (hS.2 10 _ rfl) ?_
          refine lh_getI4 rfl rfl (hS.1 7 _ rfl) rfl ?_
          refine lh_bdE hf (fun r9 e10 hf => ?_)
          refine lh_cVi (N := m_Ha_placeOf) (d := 1) (o := a) (As := [.int x1, .int (I (7 + 4) 1)]) (st := []) rfl rfl v_Ha_placeOf (ha.1 0 _ rfl) rfl rfl rfl ⟨rfl, rfl⟩ rfl (t_Ha_placeOf hG hS ha e10 ?_)
          exact lh_iret rfl rfl rfl (by obtain rfl := Option.some.inj hf; exact hK)
        · have hf := lh_ifF hf c8
          by_cases c11 : x2 = 3
          · have hf := lh_ifT hf c11
            refine lh_tsIn (q := 3) (tgt := 29) rfl (by rw [c11]; decide) (by decide) rfl rfl ?_
            refine lh_aload_n (q := 0) rfl rfl rfl ?_
            refine lh_getR4 rfl rfl (hS.1 0 _ rfl) rfl (hS.2 10 _ rfl) ?_
            refine lh_getI4 rfl rfl (hS.1 7 _ rfl) rfl ?_
            refine lh_iload_n (q := 1) rfl rfl rfl ?_
            refine lh_ishr rfl ?_
            refine lh_iconst rfl lh_k_1 ?_
            refine lh_iand rfl ?_
            exact lh_iret rfl rfl rfl (by obtain rfl := Option.some.inj hf; exact hK)
          · have hf := lh_ifF hf c11
            by_cases c12 : x2 = 4
            · have hf := lh_ifT hf c12
              refine lh_tsIn (q := 4) (tgt := 37) rfl (by rw [c12]; decide) (by decide) rfl rfl ?_
              refine lh_aload_n (q := 0) rfl rfl rfl ?_
              refine lh_getR4 rfl rfl (hS.1 0 _ rfl) rfl hA ?_
              refine lh_aload_n (q := 0) rfl rfl rfl ?_
              refine lh_getR4 rfl rfl (hS.1 0 _ rfl) rfl (hS.2 10 _ rfl) ?_
              refine lh_bdE hf (fun r13 e14 hf => ?_)
              refine lh_cVi (N := m_Ha_seenBy) (d := 4) (o := a) (As := [.ref (7 + 4)]) (st := []) rfl rfl v_Ha_seenBy (ha.1 0 _ rfl) rfl rfl rfl ⟨rfl, rfl⟩ rfl (t_Ha_seenBy hG hS ha (hS.1 7 _ rfl) e14 ?_)
              refine lh_iload_n (q := 1) rfl rfl rfl ?_
              refine lh_ishr rfl ?_
              refine lh_iconst rfl lh_k_1 ?_
              refine lh_iand rfl ?_
              exact lh_iret rfl rfl rfl (by obtain rfl := Option.some.inj hf; exact hK)
            · have hf := lh_ifF hf c12
              refine lh_tsOut (tgt := 47) rfl (by have q0 := lv_neT c4 (a := 0) (by decide); have q1 := lv_neT c6 (a := 1) (by decide); have q2 := lv_neT c8 (a := 2) (by decide); have q3 := lv_neT c11 (a := 3) (by decide); have q4 := lv_neT c12 (a := 4) (by decide); omega) rfl ?_
              refine lh_bipush rfl lh_b_m2 ?_
              exact lh_iret rfl rfl rfl (by obtain rfl := Option.some.inj hf; exact hK)
  · have hf := lh_ifT hf c3
    refine lh_bipush rfl lh_b_m2 ?_
    exact lh_iret rfl rfl rfl (by obtain rfl := Option.some.inj hf; exact hK)
def f_LH_wavers_13 (a : Nat) (b : Nat) (v1 : Int32) (I : lh_II) : Nat → Int32 → Int32 → Int32 → Option (Int32)
  | 0, _, _, _ => none
  | n + 1, v2, v3, v4 => if 8 ≤ v4 then some v2 else lh_bd (f_Ha_placeOf a v1 (v4 - 1) I) fun r5 => lh_bd (f_Ha_placeOf a v1 v4 I) fun r7 => if r5 = (-1) then f_LH_wavers_13 a b v1 I n v2 v3 (v4 + 1) else if r7 = (-1) then f_LH_wavers_13 a b v1 I n v2 v3 (v4 + 1) else lh_bd (f_Int_compare r7 r5) fun r11 => if r11 = 0 then f_LH_wavers_13 a b v1 I n v2 v3 (v4 + 1) else if r11 = (-v3) then f_LH_wavers_13 a b v1 I n (v2 + 1) r11 (v4 + 1) else f_LH_wavers_13 a b v1 I n (v2 + 0) r11 (v4 + 1)
def f_LH_wavers (a : Nat) (b : Nat) (x1 : Int32) (I : lh_II) : Option (Int32) := lh_bd (f_Ha_hasVisitor a x1 I) fun r1 => if r1 = 0 then some (-1) else lh_bd (f_LH_wavers_13 a b x1 I lh_fuel 0 0 1) fun r15 => some r15
theorem t_LH_wavers_13 {Γ : lh_Cx} {F : lh_FF} {S : lh_SS} {Z : List Frame → Array Value → State → State → Prop} (hG : lh_GX Γ) (hS : lh_lay F S) {a : Nat} (ha : lh_hl F S a) (hA : F (0 + 4) 6 = a + 4) {b : Nat} (hb : lh_nl F S b) (hB : F (0 + 4) 8 = b + 4) {v1 : Int32} {I : lh_II} {L : lh_LL} : ∀ (n : Nat) (v2 : Int32) (v3 : Int32) (v4 : Int32) (o : Int32), f_LH_wavers_13 a b v1 I n v2 v3 v4 = some o → ∀ (x0_ : lh_G Γ m_LH_wavers (lh_R 2 0 0) Z 0 0 58 [(2, .int o)] [] (I, L, F, S)), lh_G Γ m_LH_wavers (lh_R 2 0 0) Z 0 0 13 [(0, .ref (0 + 4)), (1, .int v1), (2, .int v2), (3, .int v3), (4, .int v4)] [] (I, L, F, S) := by
  intro n
  induction n with
  | zero => intro v2 v3 v4 o hf; cases hf
  | succ n ih =>
    intro v2 v3 v4 o hf x0_
    rw [f_LH_wavers_13] at hf
    refine lh_iload (q := 4) rfl rfl ?_
    refine lh_bipush rfl lh_b_8 ?_
    refine lh_icmp_ge rfl (fun c4 => ?_) (fun c4 => ?_)
    · have hf := lh_ifT hf c4
      exact lh_less [2] rfl (by cases hf; exact x0_)
    · have hf := lh_ifF hf c4
      refine lh_aload_n (q := 0) rfl rfl rfl ?_
      refine lh_getR4 rfl rfl (hS.1 0 _ rfl) rfl hA ?_
      refine lh_iload_n (q := 1) rfl rfl rfl ?_
      refine lh_iload (q := 4) rfl rfl ?_
      refine lh_iconst rfl lh_k_1 ?_
      refine lh_isub rfl ?_
      refine lh_bdE hf (fun r5 e6 hf => ?_)
      refine lh_cVi (N := m_Ha_placeOf) (d := 1) (o := a) (As := [.int v1, .int (v4 - 1)]) (st := []) rfl rfl v_Ha_placeOf (ha.1 0 _ rfl) rfl rfl rfl ⟨rfl, rfl⟩ rfl (t_Ha_placeOf hG hS ha e6 ?_)
      refine lh_istore (lv' := [(0, .ref (0 + 4)), (1, .int v1), (2, .int v2), (3, .int v3), (4, .int v4), (5, .int r5)]) rfl rfl rfl ?_
      refine lh_aload_n (q := 0) rfl rfl rfl ?_
      refine lh_getR4 rfl rfl (hS.1 0 _ rfl) rfl hA ?_
      refine lh_iload_n (q := 1) rfl rfl rfl ?_
      refine lh_iload (q := 4) rfl rfl ?_
      refine lh_bdE hf (fun r7 e8 hf => ?_)
      refine lh_cVi (N := m_Ha_placeOf) (d := 1) (o := a) (As := [.int v1, .int v4]) (st := []) rfl rfl v_Ha_placeOf (ha.1 0 _ rfl) rfl rfl rfl ⟨rfl, rfl⟩ rfl (t_Ha_placeOf hG hS ha e8 ?_)
      refine lh_istore (lv' := [(0, .ref (0 + 4)), (1, .int v1), (2, .int v2), (3, .int v3), (4, .int v4), (5, .int r5), (6, .int r7)]) rfl rfl rfl ?_
      refine lh_iload (q := 5) rfl rfl ?_
      refine lh_iconst rfl lh_k_m1 ?_
      refine lh_icmp_eq rfl (fun c9 => ?_) (fun c9 => ?_)
      · have hf := lh_ifT hf c9
        refine lh_iconst rfl lh_k_0 ?_
        refine lh_goto rfl ?_
        refine lh_istore (lv' := [(0, .ref (0 + 4)), (1, .int v1), (2, .int v2), (3, .int v3), (4, .int v4), (5, .int r5), (6, .int r7), (7, .int 0)]) rfl rfl rfl ?_
        refine lh_iload (q := 7) rfl rfl ?_
        refine lh_if_eq rfl (fun _ => ?_) (fun c => absurd (by decide) c) 
        refine lh_iinc (q := 4) (v := (v4 + 1)) (lv' := [(0, .ref (0 + 4)), (1, .int v1), (2, .int v2), (3, .int v3), (4, .int (v4 + 1)), (5, .int r5), (6, .int r7), (7, .int 0)]) rfl rfl (congrArg (v4 + ·) (by decide)) rfl rfl ?_
        refine lh_goto rfl ?_
        refine lh_less [0, 1, 2, 3, 4] rfl ?_
        exact ih v2 v3 (v4 + 1) _ hf x0_
      · have hf := lh_ifF hf c9
        refine lh_iload (q := 6) rfl rfl ?_
        refine lh_iconst rfl lh_k_m1 ?_
        refine lh_icmp_ne rfl (fun c10 => ?_) (fun c10 => ?_)
        · have hf := lh_ifF hf c10
          refine lh_iload (q := 6) rfl rfl ?_
          refine lh_iload (q := 5) rfl rfl ?_
          refine lh_bdE hf (fun r11 e12 hf => ?_)
          refine lh_cSi (N := m_Int_compare) (d := 0) (As := [.int r7, .int r5]) (st := []) rfl rfl v_Int_compare rfl rfl ⟨rfl, rfl⟩ rfl (t_Int_compare hG hS e12 ?_)
          refine lh_istore (lv' := [(0, .ref (0 + 4)), (1, .int v1), (2, .int v2), (3, .int v3), (4, .int v4), (5, .int r5), (6, .int r7), (7, .int r11)]) rfl rfl rfl ?_
          refine lh_iload (q := 7) rfl rfl ?_
          refine lh_if_eq rfl (fun c13 => ?_) (fun c13 => ?_)
          · have hf := lh_ifT hf c13
            refine lh_iinc (q := 4) (v := (v4 + 1)) (lv' := [(0, .ref (0 + 4)), (1, .int v1), (2, .int v2), (3, .int v3), (4, .int (v4 + 1)), (5, .int r5), (6, .int r7), (7, .int r11)]) rfl rfl (congrArg (v4 + ·) (by decide)) rfl rfl ?_
            refine lh_goto rfl ?_
            refine lh_less [0, 1, 2, 3, 4] rfl ?_
            exact ih v2 v3 (v4 + 1) _ hf x0_
          · have hf := lh_ifF hf c13
            refine lh_iload_n (q := 2) rfl rfl rfl ?_
            refine lh_iload (q := 7) rfl rfl ?_
            refine lh_iload_n (q := 3) rfl rfl rfl ?_
            refine lh_ineg rfl ?_
            refine lh_icmp_ne rfl (fun c14 => ?_) (fun c14 => ?_)
            · have hf := lh_ifF hf c14
              refine lh_iconst rfl lh_k_0 ?_
              refine lh_iadd rfl ?_
              refine lh_istore_n (lv' := [(0, .ref (0 + 4)), (1, .int v1), (2, .int (v2 + 0)), (3, .int v3), (4, .int v4), (5, .int r5), (6, .int r7), (7, .int r11)]) rfl rfl rfl rfl ?_
              refine lh_iload (q := 7) rfl rfl ?_
              refine lh_istore_n (lv' := [(0, .ref (0 + 4)), (1, .int v1), (2, .int (v2 + 0)), (3, .int r11), (4, .int v4), (5, .int r5), (6, .int r7), (7, .int r11)]) rfl rfl rfl rfl ?_
              refine lh_iinc (q := 4) (v := (v4 + 1)) (lv' := [(0, .ref (0 + 4)), (1, .int v1), (2, .int (v2 + 0)), (3, .int r11), (4, .int (v4 + 1)), (5, .int r5), (6, .int r7), (7, .int r11)]) rfl rfl (congrArg (v4 + ·) (by decide)) rfl rfl ?_
              refine lh_goto rfl ?_
              refine lh_less [0, 1, 2, 3, 4] rfl ?_
              exact ih (v2 + 0) r11 (v4 + 1) _ hf x0_
            · have hf := lh_ifT hf c14
              refine lh_iconst rfl lh_k_1 ?_
              refine lh_goto rfl ?_
              refine lh_iadd rfl ?_
              refine lh_istore_n (lv' := [(0, .ref (0 + 4)), (1, .int v1), (2, .int (v2 + 1)), (3, .int v3), (4, .int v4), (5, .int r5), (6, .int r7), (7, .int r11)]) rfl rfl rfl rfl ?_
              refine lh_iload (q := 7) rfl rfl ?_
              refine lh_istore_n (lv' := [(0, .ref (0 + 4)), (1, .int v1), (2, .int (v2 + 1)), (3, .int r11), (4, .int v4), (5, .int r5), (6, .int r7), (7, .int r11)]) rfl rfl rfl rfl ?_
              refine lh_iinc (q := 4) (v := (v4 + 1)) (lv' := [(0, .ref (0 + 4)), (1, .int v1), (2, .int (v2 + 1)), (3, .int r11), (4, .int (v4 + 1)), (5, .int r5), (6, .int r7), (7, .int r11)]) rfl rfl (congrArg (v4 + ·) (by decide)) rfl rfl ?_
              refine lh_goto rfl ?_
              refine lh_less [0, 1, 2, 3, 4] rfl ?_
              exact ih (v2 + 1) r11 (v4 + 1) _ hf x0_
        · have hf := lh_ifT hf c10
          refine lh_iconst rfl lh_k_0 ?_
          refine lh_goto rfl ?_
          refine lh_istore (lv' := [(0, .ref (0 + 4)), (1, .int v1), (2, .int v2), (3, .int v3), (4, .int v4), (5, .int r5), (6, .int r7), (7, .int 0)]) rfl rfl rfl ?_
          refine lh_iload (q := 7) rfl rfl ?_
          refine lh_if_eq rfl (fun _ => ?_) (fun c => absurd (by decide) c) 
          refine lh_iinc (q := 4) (v := (v4 + 1)) (lv' := [(0, .ref (0 + 4)), (1, .int v1), (2, .int v2), (3, .int v3), (4, .int (v4 + 1)), (5, .int r5), (6, .int r7), (7, .int 0)]) rfl rfl (congrArg (v4 + ·) (by decide)) rfl rfl ?_
          refine lh_goto rfl ?_
          refine lh_less [0, 1, 2, 3, 4] rfl ?_
          exact ih v2 v3 (v4 + 1) _ hf x0_
theorem t_LH_wavers {Γ : lh_Cx} {I : lh_II} {L : lh_LL} {F : lh_FF} {S : lh_SS} {K : Int32 → lh_Hp → Prop} {r : Int32} (hG : lh_GX Γ) (hS : lh_lay F S) {a : Nat} (ha : lh_hl F S a) (hA : F (0 + 4) 6 = a + 4) {b : Nat} (hb : lh_nl F S b) (hB : F (0 + 4) 8 = b + 4) {x1 : Int32} (hf : f_LH_wavers a b x1 I = some r) (hK : K r (I, L, F, S)) : lh_Met Γ m_LH_wavers 2 0 0 [.ref (0 + 4), .int x1] (I, L, F, S) (lh_ki K) := by
  rw [f_LH_wavers] at hf
  refine lh_ofG k_LH_wavers [(0, .ref (0 + 4)), (1, .int x1)] rfl (Nat.le_of_ble_eq_true rfl) rfl ?_
  refine lh_aload_n (q := 0) rfl rfl rfl ?_
  refine lh_getR4 rfl rfl (hS.1 0 _ rfl) rfl hA ?_
  refine lh_iload_n (q := 1) rfl rfl rfl ?_
  refine lh_bdE hf (fun r1 e2 hf => ?_)
  refine lh_cVi (N := m_Ha_hasVisitor) (d := 0) (o := a) (As := [.int x1]) (st := []) rfl rfl v_Ha_hasVisitor (ha.1 0 _ rfl) rfl rfl rfl ⟨rfl, rfl⟩ rfl (t_Ha_hasVisitor hG hS ha e2 ?_)
  refine lh_if_ne rfl (fun c3 => ?_) (fun c3 => ?_)
  · have hf := lh_ifF hf c3
    refine lh_iconst rfl lh_k_0 ?_
    refine lh_istore_n (lv' := [(0, .ref (0 + 4)), (1, .int x1), (2, .int 0)]) rfl rfl rfl rfl ?_
    refine lh_iconst rfl lh_k_0 ?_
    refine lh_istore_n (lv' := [(0, .ref (0 + 4)), (1, .int x1), (2, .int 0), (3, .int 0)]) rfl rfl rfl rfl ?_
    refine lh_iconst rfl lh_k_1 ?_
    refine lh_istore (lv' := [(0, .ref (0 + 4)), (1, .int x1), (2, .int 0), (3, .int 0), (4, .int 1)]) rfl rfl rfl ?_
    refine lh_bdE hf (fun r15 e16 hf => ?_)
    refine t_LH_wavers_13 hG hS ha hA hb hB _ 0 0 1 _ e16 ?_
    refine lh_iload_n (q := 0) rfl rfl rfl ?_
    exact lh_iret rfl rfl rfl (by obtain rfl := Option.some.inj hf; exact hK)
  · have hf := lh_ifT hf c3
    refine lh_iconst rfl lh_k_m1 ?_
    exact lh_iret rfl rfl rfl (by obtain rfl := Option.some.inj hf; exact hK)
def f_LH_would (a : Nat) (b : Nat) (x1 : Int32) (I : lh_II) : Option (Int32 × lh_II) := lh_bd (f_LH_isWay x1) fun r1 => if r1 = 0 then some ((-1), I) else lh_bd (f_Ha_bumpsOf a 7 x1 I) fun r4 => some (r4.1, r4.2)
theorem t_LH_would {Γ : lh_Cx} {I : lh_II} {L : lh_LL} {F : lh_FF} {S : lh_SS} {K : Int32 → lh_Hp → Prop} {r : Int32 × lh_II} (hG : lh_GX Γ) (hS : lh_lay F S) {a : Nat} (ha : lh_hl F S a) (hA : F (0 + 4) 6 = a + 4) {b : Nat} (hb : lh_nl F S b) (hB : F (0 + 4) 8 = b + 4) {x1 : Int32} (hf : f_LH_would a b x1 I = some r) (hK : K r.1 (r.2, L, F, S)) : lh_Met Γ m_LH_would 4 0 0 [.ref (0 + 4), .int x1] (I, L, F, S) (lh_ki K) := by
  rw [f_LH_would] at hf
  refine lh_ofG k_LH_would [(0, .ref (0 + 4)), (1, .int x1)] rfl (Nat.le_of_ble_eq_true rfl) rfl ?_
  refine lh_iload_n (q := 1) rfl rfl rfl ?_
  refine lh_bdE hf (fun r1 e2 hf => ?_)
  refine lh_cSi (N := m_LH_isWay) (d := 0) (As := [.int x1]) (st := []) rfl rfl v_LH_isWay rfl rfl ⟨rfl, rfl⟩ rfl (t_LH_isWay hG hS e2 ?_)
  refine lh_if_eq rfl (fun c3 => ?_) (fun c3 => ?_)
  · have hf := lh_ifT hf c3
    refine lh_iconst rfl lh_k_m1 ?_
    exact lh_iret rfl rfl rfl (by obtain rfl := Option.some.inj hf; exact hK)
  · have hf := lh_ifF hf c3
    refine lh_aload_n (q := 0) rfl rfl rfl ?_
    refine lh_getR4 rfl rfl (hS.1 0 _ rfl) rfl hA ?_
    refine lh_aload_n (q := 0) rfl rfl rfl ?_
    refine lh_getR4 rfl rfl (hS.1 0 _ rfl) rfl (hS.2 10 _ rfl) ?_
    refine lh_iload_n (q := 1) rfl rfl rfl ?_
    refine lh_bdE hf (fun r4 e5 hf => ?_)
    refine lh_cVi (N := m_Ha_bumpsOf) (d := 3) (o := a) (As := [.ref (7 + 4), .int x1]) (st := []) rfl rfl v_Ha_bumpsOf (ha.1 0 _ rfl) rfl rfl rfl ⟨rfl, rfl⟩ rfl (t_Ha_bumpsOf hG hS ha (hS.1 7 _ rfl) e5 ?_)
    refine lh_goto rfl ?_
    exact lh_iret rfl rfl rfl (by obtain rfl := Option.some.inj hf; exact hK)
def f_La_readPart (g_La_readLevel : Nat → Int32 → Int32 → lh_II → lh_LL → Option (Int32 × lh_II × lh_LL)) (g_La_readPart : Nat → Int32 → lh_II → lh_LL → Option (Int32 × lh_II × lh_LL)) (a : Nat) (x1 : Int32) (I : lh_II) (L : lh_LL) : Option (Int32 × lh_II × lh_LL) := lh_bd (f_La_isFact (I (1 + 4) 4)) fun r1 => if r1 = 0 then if (I (1 + 4) 4) = 28 then if x1 < 5 then lh_bd (f_Re_advance I L) fun r38 => if (I (1 + 4) 4) = 20 then lh_bd (g_La_readPart a (x1 + 1) r38.1 r38.2) fun r60 => if r60.1 = 0 then some (0, r60.2.1, r60.2.2) else lh_bd (f_La_put a ((-20) : Int32) r60.2.1) fun r63 => if r63.1 = 0 then some (0, r63.2, r60.2.2) else some (1, r63.2, r60.2.2) else if (I (1 + 4) 4) = 29 then lh_bd (g_La_readLevel a (0 : Int32) (x1 + 1) r38.1 r38.2) fun r42 => if r42.1 = 0 then some (0, r42.2.1, r42.2.2) else if (r42.2.1 (1 + 4) 4) = 30 then lh_bd (f_Re_advance r42.2.1 r42.2.2) fun r46 => some (1, r46.1, r46.2) else lh_bd (f_Re_refuse (1 : Int32) r42.2.1) fun r48 => lh_gd (lh_z r48.1) (some (r48.1, r48.2, r42.2.2)) else lh_bd (f_La_isFact (I (1 + 4) 4)) fun r51 => if r51 = 0 then lh_bd (f_La_put a (I (1 + 4) 6) r38.1) fun r54 => lh_gd (lh_z r54.1) (some (r54.1, r54.2, r38.2)) else lh_bd (f_La_put a (-(I (1 + 4) 4)) r38.1) fun r57 => lh_gd (lh_z r57.1) (some (r57.1, r57.2, r38.2)) else lh_bd (f_Re_refuse (5 : Int32) I) fun r66 => lh_gd (lh_z r66.1) (some (r66.1, r66.2, L)) else if (I (1 + 4) 4) = 20 then if x1 < 5 then lh_bd (f_Re_advance I L) fun r71 => lh_bd (g_La_readPart a (x1 + 1) r71.1 r71.2) fun r73 => if r73.1 = 0 then some (0, r73.2.1, r73.2.2) else lh_bd (f_La_put a ((-20) : Int32) r73.2.1) fun r76 => if r76.1 = 0 then some (0, r76.2, r73.2.2) else some (1, r76.2, r73.2.2) else lh_bd (f_Re_refuse (5 : Int32) I) fun r79 => lh_gd (lh_z r79.1) (some (r79.1, r79.2, L)) else if (I (1 + 4) 4) = 29 then if x1 < 5 then lh_bd (f_Re_advance I L) fun r84 => lh_bd (g_La_readLevel a (0 : Int32) (x1 + 1) r84.1 r84.2) fun r86 => if r86.1 = 0 then some (0, r86.2.1, r86.2.2) else if (r86.2.1 (1 + 4) 4) = 30 then lh_bd (f_Re_advance r86.2.1 r86.2.2) fun r90 => some (1, r90.1, r90.2) else lh_bd (f_Re_refuse (1 : Int32) r86.2.1) fun r92 => lh_gd (lh_z r92.1) (some (r92.1, r92.2, r86.2.2)) else lh_bd (f_Re_refuse (5 : Int32) I) fun r95 => lh_gd (lh_z r95.1) (some (r95.1, r95.2, L)) else lh_bd (f_Re_refuse (1 : Int32) I) fun r98 => lh_gd (lh_z r98.1) (some (r98.1, r98.2, L)) else if x1 < 5 then lh_bd (f_Re_advance I L) fun r5 => if (I (1 + 4) 4) = 20 then lh_bd (g_La_readPart a (x1 + 1) r5.1 r5.2) fun r27 => if r27.1 = 0 then some (0, r27.2.1, r27.2.2) else lh_bd (f_La_put a ((-20) : Int32) r27.2.1) fun r30 => if r30.1 = 0 then some (0, r30.2, r27.2.2) else some (1, r30.2, r27.2.2) else if (I (1 + 4) 4) = 29 then lh_bd (g_La_readLevel a (0 : Int32) (x1 + 1) r5.1 r5.2) fun r9 => if r9.1 = 0 then some (0, r9.2.1, r9.2.2) else if (r9.2.1 (1 + 4) 4) = 30 then lh_bd (f_Re_advance r9.2.1 r9.2.2) fun r13 => some (1, r13.1, r13.2) else lh_bd (f_Re_refuse (1 : Int32) r9.2.1) fun r15 => lh_gd (lh_z r15.1) (some (r15.1, r15.2, r9.2.2)) else lh_bd (f_La_isFact (I (1 + 4) 4)) fun r18 => if r18 = 0 then lh_bd (f_La_put a (I (1 + 4) 6) r5.1) fun r21 => lh_gd (lh_z r21.1) (some (r21.1, r21.2, r5.2)) else lh_bd (f_La_put a (-(I (1 + 4) 4)) r5.1) fun r24 => lh_gd (lh_z r24.1) (some (r24.1, r24.2, r5.2)) else lh_bd (f_Re_refuse (5 : Int32) I) fun r33 => lh_gd (lh_z r33.1) (some (r33.1, r33.2, L))
theorem t_La_readPart {Γ : lh_Cx} {I : lh_II} {L : lh_LL} {F : lh_FF} {S : lh_SS} {K : Int32 → lh_Hp → Prop} {r : Int32 × lh_II × lh_LL} (hG : lh_GX Γ) (hS : lh_lay F S) {D : Nat} {g_La_readLevel : Nat → Int32 → Int32 → lh_II → lh_LL → Option (Int32 × lh_II × lh_LL)} (hg_La_readLevel : ∀ {I : lh_II} {L : lh_LL} {K : Int32 → lh_Hp → Prop} {r : Int32 × lh_II × lh_LL} {a : Nat} (ha : lh_hl F S a) {x1 : Int32} {x2 : Int32}, g_La_readLevel a x1 x2 I L = some r → K r.1 (r.2.1, r.2.2, F, S) → lh_Met Γ m_La_readLevel (D + 10) 0 0 [.ref (a + 1 + 4), .ref (1 + 4), .int x1, .int x2] (I, L, F, S) (lh_ki K)) {g_La_readPart : Nat → Int32 → lh_II → lh_LL → Option (Int32 × lh_II × lh_LL)} (hg_La_readPart : ∀ {I : lh_II} {L : lh_LL} {K : Int32 → lh_Hp → Prop} {r : Int32 × lh_II × lh_LL} {a : Nat} (ha : lh_hl F S a) {x1 : Int32}, g_La_readPart a x1 I L = some r → K r.1 (r.2.1, r.2.2, F, S) → lh_Met Γ m_La_readPart (D + 10) 0 0 [.ref (a + 1 + 4), .ref (1 + 4), .int x1] (I, L, F, S) (lh_ki K)) {a : Nat} (ha : lh_hl F S a) {x1 : Int32} (hf : f_La_readPart g_La_readLevel g_La_readPart a x1 I L = some r) (hK : K r.1 (r.2.1, r.2.2, F, S)) : lh_Met Γ m_La_readPart (D + 11) 0 0 [.ref (a + 1 + 4), .ref (1 + 4), .int x1] (I, L, F, S) (lh_ki K) := by
  rw [f_La_readPart] at hf
  refine lh_ofG k_La_readPart [(0, .ref (a + 1 + 4)), (1, .ref (1 + 4)), (2, .int x1)] rfl (Nat.le_of_ble_eq_true rfl) rfl ?_
  refine lh_aload_n (q := 1) rfl rfl rfl ?_
  refine lh_getI4 rfl rfl (hS.1 1 _ rfl) rfl ?_
  refine lh_istore_n (lv' := [(0, .ref (a + 1 + 4)), (1, .ref (1 + 4)), (2, .int x1), (3, .int (I (1 + 4) 4))]) rfl rfl rfl rfl ?_
  refine lh_iload_n (q := 3) rfl rfl rfl ?_
  refine lh_bdE hf (fun r1 e2 hf => ?_)
  refine lh_cSi (N := m_La_isFact) (d := 0) (As := [.int (I (1 + 4) 4)]) (st := []) rfl rfl v_La_isFact rfl rfl ⟨lh_bD (by omega), lh_bL (by omega)⟩ rfl (t_La_isFact hG hS e2 ?_)
  refine lh_if_ne rfl (fun c3 => ?_) (fun c3 => ?_)
  · have hf := lh_ifF hf c3
    refine lh_iload_n (q := 2) rfl rfl rfl ?_
    refine lh_iconst rfl lh_k_5 ?_
    refine lh_icmp_lt rfl (fun c4 => ?_) (fun c4 => ?_)
    · have hf := lh_ifT hf c4
      refine lh_aload_n (q := 1) rfl rfl rfl ?_
      refine lh_getI4 rfl rfl (hS.1 1 _ rfl) rfl ?_
      refine lh_istore (lv' := [(0, .ref (a + 1 + 4)), (1, .ref (1 + 4)), (2, .int x1), (3, .int (I (1 + 4) 4)), (4, .int (I (1 + 4) 6))]) rfl rfl rfl ?_
      refine lh_aload_n (q := 1) rfl rfl rfl ?_
      refine lh_bdE hf (fun r5 e6 hf => ?_)
      refine lh_cVv (N := m_Re_advance) (d := 4) (o := 1) (As := []) (st := []) rfl rfl v_Re_advance (hS.1 1 _ rfl) rfl rfl rfl ⟨lh_bD (by omega), lh_bL (by omega)⟩ rfl (t_Re_advance hG hS e6 ?_)
      refine lh_iload_n (q := 3) rfl rfl rfl ?_
      refine lh_bipush rfl lh_b_20 ?_
      refine lh_icmp_ne rfl (fun c7 => ?_) (fun c7 => ?_)
      · have hf := lh_ifF hf c7
        refine lh_iload_n (q := 3) rfl rfl rfl ?_
        refine lh_bipush rfl lh_b_29 ?_
        refine lh_icmp_eq rfl (fun c8 => ?_) (fun c8 => ?_)
        · have hf := lh_ifT hf c8
          refine lh_aload_n (q := 0) rfl rfl rfl ?_
          refine lh_aload_n (q := 1) rfl rfl rfl ?_
          refine lh_iconst rfl lh_k_0 ?_
          refine lh_iload_n (q := 2) rfl rfl rfl ?_
          refine lh_iconst rfl lh_k_1 ?_
          refine lh_iadd rfl ?_
          refine lh_bdE hf (fun r9 e10 hf => ?_)
          refine lh_cVi (N := m_La_readLevel) (d := D + 10) (o := a + 1) (As := [.ref (1 + 4), .int 0, .int (x1 + 1)]) (st := []) rfl rfl v_La_readLevel (ha.1 1 _ rfl) rfl rfl rfl ⟨lh_bD (by omega), lh_bL (by omega)⟩ rfl (hg_La_readLevel ha e10 ?_)
          refine lh_if_ne rfl (fun c11 => ?_) (fun c11 => ?_)
          · have hf := lh_ifF hf c11
            refine lh_aload_n (q := 1) rfl rfl rfl ?_
            refine lh_getI4 rfl rfl (hS.1 1 _ rfl) rfl ?_
            refine lh_bipush rfl lh_b_30 ?_
            refine lh_icmp_eq rfl (fun c12 => ?_) (fun c12 => ?_)
            · have hf := lh_ifT hf c12
              refine lh_aload_n (q := 1) rfl rfl rfl ?_
              refine lh_bdE hf (fun r13 e14 hf => ?_)
              refine lh_cVv (N := m_Re_advance) (d := 4) (o := 1) (As := []) (st := []) rfl rfl v_Re_advance (hS.1 1 _ rfl) rfl rfl rfl ⟨lh_bD (by omega), lh_bL (by omega)⟩ rfl (t_Re_advance hG hS e14 ?_)
              refine lh_iconst rfl lh_k_1 ?_
              exact lh_iret rfl rfl (by decide) (by obtain rfl := Option.some.inj hf; exact hK)
            · have hf := lh_ifF hf c12
              refine lh_aload_n (q := 1) rfl rfl rfl ?_
              refine lh_iconst rfl lh_k_1 ?_
              refine lh_bdE hf (fun r15 e16 hf => ?_)
              refine lh_cVi (N := m_Re_refuse) (d := 0) (o := 1) (As := [.int 1]) (st := []) rfl rfl v_Re_refuse (hS.1 1 _ rfl) rfl rfl rfl ⟨lh_bD (by omega), lh_bL (by omega)⟩ rfl (t_Re_refuse hG hS e16 ?_)
              obtain ⟨g17, hf⟩ := lh_gdE hf
              exact lh_iret rfl rfl (lh_z_nar g17) (by obtain rfl := Option.some.inj hf; exact hK)
          · have hf := lh_ifT hf c11
            refine lh_iconst rfl lh_k_0 ?_
            exact lh_iret rfl rfl (by decide) (by obtain rfl := Option.some.inj hf; exact hK)
        · have hf := lh_ifF hf c8
          refine lh_aload_n (q := 0) rfl rfl rfl ?_
          refine lh_iload_n (q := 3) rfl rfl rfl ?_
          refine lh_bdE hf (fun r18 e19 hf => ?_)
          refine lh_cSi (N := m_La_isFact) (d := 0) (As := [.int (I (1 + 4) 4)]) (st := [.ref (a + 1 + 4)]) rfl rfl v_La_isFact rfl rfl ⟨lh_bD (by omega), lh_bL (by omega)⟩ rfl (t_La_isFact hG hS e19 ?_)
          refine lh_if_eq rfl (fun c20 => ?_) (fun c20 => ?_)
          · have hf := lh_ifT hf c20
            refine lh_iload (q := 4) rfl rfl ?_
            refine lh_bdE hf (fun r21 e22 hf => ?_)
            refine lh_cVi (N := m_La_put) (d := 0) (o := a + 1) (As := [.int (I (1 + 4) 6)]) (st := []) rfl rfl v_La_put (ha.1 1 _ rfl) rfl rfl rfl ⟨lh_bD (by omega), lh_bL (by omega)⟩ rfl (t_La_put hG hS ha e22 ?_)
            obtain ⟨g23, hf⟩ := lh_gdE hf
            exact lh_iret rfl rfl (lh_z_nar g23) (by obtain rfl := Option.some.inj hf; exact hK)
          · have hf := lh_ifF hf c20
            refine lh_iload_n (q := 3) rfl rfl rfl ?_
            refine lh_ineg rfl ?_
            refine lh_goto rfl ?_
            refine lh_bdE hf (fun r24 e25 hf => ?_)
            refine lh_cVi (N := m_La_put) (d := 0) (o := a + 1) (As := [.int (-(I (1 + 4) 4))]) (st := []) rfl rfl v_La_put (ha.1 1 _ rfl) rfl rfl rfl ⟨lh_bD (by omega), lh_bL (by omega)⟩ rfl (t_La_put hG hS ha e25 ?_)
            obtain ⟨g26, hf⟩ := lh_gdE hf
            exact lh_iret rfl rfl (lh_z_nar g26) (by obtain rfl := Option.some.inj hf; exact hK)
      · have hf := lh_ifT hf c7
        refine lh_aload_n (q := 0) rfl rfl rfl ?_
        refine lh_aload_n (q := 1) rfl rfl rfl ?_
        refine lh_iload_n (q := 2) rfl rfl rfl ?_
        refine lh_iconst rfl lh_k_1 ?_
        refine lh_iadd rfl ?_
        refine lh_bdE hf (fun r27 e28 hf => ?_)
        refine lh_cVi (N := m_La_readPart) (d := D + 10) (o := a + 1) (As := [.ref (1 + 4), .int (x1 + 1)]) (st := []) rfl rfl v_La_readPart (ha.1 1 _ rfl) rfl rfl rfl ⟨lh_bD (by omega), lh_bL (by omega)⟩ rfl (hg_La_readPart ha e28 ?_)
        refine lh_if_eq rfl (fun c29 => ?_) (fun c29 => ?_)
        · have hf := lh_ifT hf c29
          refine lh_iconst rfl lh_k_0 ?_
          exact lh_iret rfl rfl (by decide) (by obtain rfl := Option.some.inj hf; exact hK)
        · have hf := lh_ifF hf c29
          refine lh_aload_n (q := 0) rfl rfl rfl ?_
          refine lh_bipush rfl lh_b_m20 ?_
          refine lh_bdE hf (fun r30 e31 hf => ?_)
          refine lh_cVi (N := m_La_put) (d := 0) (o := a + 1) (As := [.int (-20)]) (st := []) rfl rfl v_La_put (ha.1 1 _ rfl) rfl rfl rfl ⟨lh_bD (by omega), lh_bL (by omega)⟩ rfl (t_La_put hG hS ha e31 ?_)
          refine lh_if_eq rfl (fun c32 => ?_) (fun c32 => ?_)
          · have hf := lh_ifT hf c32
            refine lh_iconst rfl lh_k_0 ?_
            exact lh_iret rfl rfl (by decide) (by obtain rfl := Option.some.inj hf; exact hK)
          · have hf := lh_ifF hf c32
            refine lh_iconst rfl lh_k_1 ?_
            refine lh_goto rfl ?_
            exact lh_iret rfl rfl (by decide) (by obtain rfl := Option.some.inj hf; exact hK)
    · have hf := lh_ifF hf c4
      refine lh_aload_n (q := 1) rfl rfl rfl ?_
      refine lh_iconst rfl lh_k_5 ?_
      refine lh_bdE hf (fun r33 e34 hf => ?_)
      refine lh_cVi (N := m_Re_refuse) (d := 0) (o := 1) (As := [.int 5]) (st := []) rfl rfl v_Re_refuse (hS.1 1 _ rfl) rfl rfl rfl ⟨lh_bD (by omega), lh_bL (by omega)⟩ rfl (t_Re_refuse hG hS e34 ?_)
      obtain ⟨g35, hf⟩ := lh_gdE hf
      exact lh_iret rfl rfl (lh_z_nar g35) (by obtain rfl := Option.some.inj hf; exact hK)
  · have hf := lh_ifT hf c3
    refine lh_iload_n (q := 3) rfl rfl rfl ?_
    refine lh_bipush rfl lh_b_28 ?_
    refine lh_icmp_eq rfl (fun c36 => ?_) (fun c36 => ?_)
    · have hf := lh_ifT hf c36
      refine lh_iload_n (q := 2) rfl rfl rfl ?_
      refine lh_iconst rfl lh_k_5 ?_
      refine lh_icmp_lt rfl (fun c37 => ?_) (fun c37 => ?_)
      · have hf := lh_ifT hf c37
        refine lh_aload_n (q := 1) rfl rfl rfl ?_
        refine lh_getI4 rfl rfl (hS.1 1 _ rfl) rfl ?_
        refine lh_istore (lv' := [(0, .ref (a + 1 + 4)), (1, .ref (1 + 4)), (2, .int x1), (3, .int (I (1 + 4) 4)), (4, .int (I (1 + 4) 6))]) rfl rfl rfl ?_
        refine lh_aload_n (q := 1) rfl rfl rfl ?_
        refine lh_bdE hf (fun r38 e39 hf => ?_)
        refine lh_cVv (N := m_Re_advance) (d := 4) (o := 1) (As := []) (st := []) rfl rfl v_Re_advance (hS.1 1 _ rfl) rfl rfl rfl ⟨lh_bD (by omega), lh_bL (by omega)⟩ rfl (t_Re_advance hG hS e39 ?_)
        refine lh_iload_n (q := 3) rfl rfl rfl ?_
        refine lh_bipush rfl lh_b_20 ?_
        refine lh_icmp_ne rfl (fun c40 => ?_) (fun c40 => ?_)
        · have hf := lh_ifF hf c40
          refine lh_iload_n (q := 3) rfl rfl rfl ?_
          refine lh_bipush rfl lh_b_29 ?_
          refine lh_icmp_eq rfl (fun c41 => ?_) (fun c41 => ?_)
          · have hf := lh_ifT hf c41
            refine lh_aload_n (q := 0) rfl rfl rfl ?_
            refine lh_aload_n (q := 1) rfl rfl rfl ?_
            refine lh_iconst rfl lh_k_0 ?_
            refine lh_iload_n (q := 2) rfl rfl rfl ?_
            refine lh_iconst rfl lh_k_1 ?_
            refine lh_iadd rfl ?_
            refine lh_bdE hf (fun r42 e43 hf => ?_)
            refine lh_cVi (N := m_La_readLevel) (d := D + 10) (o := a + 1) (As := [.ref (1 + 4), .int 0, .int (x1 + 1)]) (st := []) rfl rfl v_La_readLevel (ha.1 1 _ rfl) rfl rfl rfl ⟨lh_bD (by omega), lh_bL (by omega)⟩ rfl (hg_La_readLevel ha e43 ?_)
            refine lh_if_ne rfl (fun c44 => ?_) (fun c44 => ?_)
            · have hf := lh_ifF hf c44
              refine lh_aload_n (q := 1) rfl rfl rfl ?_
              refine lh_getI4 rfl rfl (hS.1 1 _ rfl) rfl ?_
              refine lh_bipush rfl lh_b_30 ?_
              refine lh_icmp_eq rfl (fun c45 => ?_) (fun c45 => ?_)
              · have hf := lh_ifT hf c45
                refine lh_aload_n (q := 1) rfl rfl rfl ?_
                refine lh_bdE hf (fun r46 e47 hf => ?_)
                refine lh_cVv (N := m_Re_advance) (d := 4) (o := 1) (As := []) (st := []) rfl rfl v_Re_advance (hS.1 1 _ rfl) rfl rfl rfl ⟨lh_bD (by omega), lh_bL (by omega)⟩ rfl (t_Re_advance hG hS e47 ?_)
                refine lh_iconst rfl lh_k_1 ?_
                exact lh_iret rfl rfl (by decide) (by obtain rfl := Option.some.inj hf; exact hK)
              · have hf := lh_ifF hf c45
                refine lh_aload_n (q := 1) rfl rfl rfl ?_
                refine lh_iconst rfl lh_k_1 ?_
                refine lh_bdE hf (fun r48 e49 hf => ?_)
                refine lh_cVi (N := m_Re_refuse) (d := 0) (o := 1) (As := [.int 1]) (st := []) rfl rfl v_Re_refuse (hS.1 1 _ rfl) rfl rfl rfl ⟨lh_bD (by omega), lh_bL (by omega)⟩ rfl (t_Re_refuse hG hS e49 ?_)
                obtain ⟨g50, hf⟩ := lh_gdE hf
                exact lh_iret rfl rfl (lh_z_nar g50) (by obtain rfl := Option.some.inj hf; exact hK)
            · have hf := lh_ifT hf c44
              refine lh_iconst rfl lh_k_0 ?_
              exact lh_iret rfl rfl (by decide) (by obtain rfl := Option.some.inj hf; exact hK)
          · have hf := lh_ifF hf c41
            refine lh_aload_n (q := 0) rfl rfl rfl ?_
            refine lh_iload_n (q := 3) rfl rfl rfl ?_
            refine lh_bdE hf (fun r51 e52 hf => ?_)
            refine lh_cSi (N := m_La_isFact) (d := 0) (As := [.int (I (1 + 4) 4)]) (st := [.ref (a + 1 + 4)]) rfl rfl v_La_isFact rfl rfl ⟨lh_bD (by omega), lh_bL (by omega)⟩ rfl (t_La_isFact hG hS e52 ?_)
            refine lh_if_eq rfl (fun c53 => ?_) (fun c53 => ?_)
            · have hf := lh_ifT hf c53
              refine lh_iload (q := 4) rfl rfl ?_
              refine lh_bdE hf (fun r54 e55 hf => ?_)
              refine lh_cVi (N := m_La_put) (d := 0) (o := a + 1) (As := [.int (I (1 + 4) 6)]) (st := []) rfl rfl v_La_put (ha.1 1 _ rfl) rfl rfl rfl ⟨lh_bD (by omega), lh_bL (by omega)⟩ rfl (t_La_put hG hS ha e55 ?_)
              obtain ⟨g56, hf⟩ := lh_gdE hf
              exact lh_iret rfl rfl (lh_z_nar g56) (by obtain rfl := Option.some.inj hf; exact hK)
            · have hf := lh_ifF hf c53
              refine lh_iload_n (q := 3) rfl rfl rfl ?_
              refine lh_ineg rfl ?_
              refine lh_goto rfl ?_
              refine lh_bdE hf (fun r57 e58 hf => ?_)
              refine lh_cVi (N := m_La_put) (d := 0) (o := a + 1) (As := [.int (-(I (1 + 4) 4))]) (st := []) rfl rfl v_La_put (ha.1 1 _ rfl) rfl rfl rfl ⟨lh_bD (by omega), lh_bL (by omega)⟩ rfl (t_La_put hG hS ha e58 ?_)
              obtain ⟨g59, hf⟩ := lh_gdE hf
              exact lh_iret rfl rfl (lh_z_nar g59) (by obtain rfl := Option.some.inj hf; exact hK)
        · have hf := lh_ifT hf c40
          refine lh_aload_n (q := 0) rfl rfl rfl ?_
          refine lh_aload_n (q := 1) rfl rfl rfl ?_
          refine lh_iload_n (q := 2) rfl rfl rfl ?_
          refine lh_iconst rfl lh_k_1 ?_
          refine lh_iadd rfl ?_
          refine lh_bdE hf (fun r60 e61 hf => ?_)
          refine lh_cVi (N := m_La_readPart) (d := D + 10) (o := a + 1) (As := [.ref (1 + 4), .int (x1 + 1)]) (st := []) rfl rfl v_La_readPart (ha.1 1 _ rfl) rfl rfl rfl ⟨lh_bD (by omega), lh_bL (by omega)⟩ rfl (hg_La_readPart ha e61 ?_)
          refine lh_if_eq rfl (fun c62 => ?_) (fun c62 => ?_)
          · have hf := lh_ifT hf c62
            refine lh_iconst rfl lh_k_0 ?_
            exact lh_iret rfl rfl (by decide) (by obtain rfl := Option.some.inj hf; exact hK)
          · have hf := lh_ifF hf c62
            refine lh_aload_n (q := 0) rfl rfl rfl ?_
            refine lh_bipush rfl lh_b_m20 ?_
            refine lh_bdE hf (fun r63 e64 hf => ?_)
            refine lh_cVi (N := m_La_put) (d := 0) (o := a + 1) (As := [.int (-20)]) (st := []) rfl rfl v_La_put (ha.1 1 _ rfl) rfl rfl rfl ⟨lh_bD (by omega), lh_bL (by omega)⟩ rfl (t_La_put hG hS ha e64 ?_)
            refine lh_if_eq rfl (fun c65 => ?_) (fun c65 => ?_)
            · have hf := lh_ifT hf c65
              refine lh_iconst rfl lh_k_0 ?_
              exact lh_iret rfl rfl (by decide) (by obtain rfl := Option.some.inj hf; exact hK)
            · have hf := lh_ifF hf c65
              refine lh_iconst rfl lh_k_1 ?_
              refine lh_goto rfl ?_
              exact lh_iret rfl rfl (by decide) (by obtain rfl := Option.some.inj hf; exact hK)
      · have hf := lh_ifF hf c37
        refine lh_aload_n (q := 1) rfl rfl rfl ?_
        refine lh_iconst rfl lh_k_5 ?_
        refine lh_bdE hf (fun r66 e67 hf => ?_)
        refine lh_cVi (N := m_Re_refuse) (d := 0) (o := 1) (As := [.int 5]) (st := []) rfl rfl v_Re_refuse (hS.1 1 _ rfl) rfl rfl rfl ⟨lh_bD (by omega), lh_bL (by omega)⟩ rfl (t_Re_refuse hG hS e67 ?_)
        obtain ⟨g68, hf⟩ := lh_gdE hf
        exact lh_iret rfl rfl (lh_z_nar g68) (by obtain rfl := Option.some.inj hf; exact hK)
    · have hf := lh_ifF hf c36
      refine lh_iload_n (q := 3) rfl rfl rfl ?_
      refine lh_bipush rfl lh_b_20 ?_
      refine lh_icmp_eq rfl (fun c69 => ?_) (fun c69 => ?_)
      · have hf := lh_ifT hf c69
        refine lh_iload_n (q := 2) rfl rfl rfl ?_
        refine lh_iconst rfl lh_k_5 ?_
        refine lh_icmp_lt rfl (fun c70 => ?_) (fun c70 => ?_)
        · have hf := lh_ifT hf c70
          refine lh_aload_n (q := 1) rfl rfl rfl ?_
          refine lh_getI4 rfl rfl (hS.1 1 _ rfl) rfl ?_
          refine lh_istore (lv' := [(0, .ref (a + 1 + 4)), (1, .ref (1 + 4)), (2, .int x1), (3, .int (I (1 + 4) 4)), (4, .int (I (1 + 4) 6))]) rfl rfl rfl ?_
          refine lh_aload_n (q := 1) rfl rfl rfl ?_
          refine lh_bdE hf (fun r71 e72 hf => ?_)
          refine lh_cVv (N := m_Re_advance) (d := 4) (o := 1) (As := []) (st := []) rfl rfl v_Re_advance (hS.1 1 _ rfl) rfl rfl rfl ⟨lh_bD (by omega), lh_bL (by omega)⟩ rfl (t_Re_advance hG hS e72 ?_)
          refine lh_iload_n (q := 3) rfl rfl rfl ?_
          refine lh_bipush rfl lh_b_20 ?_
          refine lh_icmp_ne rfl (fun c => absurd c69 c) (fun _ => ?_)
          refine lh_aload_n (q := 0) rfl rfl rfl ?_
          refine lh_aload_n (q := 1) rfl rfl rfl ?_
          refine lh_iload_n (q := 2) rfl rfl rfl ?_
          refine lh_iconst rfl lh_k_1 ?_
          refine lh_iadd rfl ?_
          refine lh_bdE hf (fun r73 e74 hf => ?_)
          refine lh_cVi (N := m_La_readPart) (d := D + 10) (o := a + 1) (As := [.ref (1 + 4), .int (x1 + 1)]) (st := []) rfl rfl v_La_readPart (ha.1 1 _ rfl) rfl rfl rfl ⟨lh_bD (by omega), lh_bL (by omega)⟩ rfl (hg_La_readPart ha e74 ?_)
          refine lh_if_eq rfl (fun c75 => ?_) (fun c75 => ?_)
          · have hf := lh_ifT hf c75
            refine lh_iconst rfl lh_k_0 ?_
            exact lh_iret rfl rfl (by decide) (by obtain rfl := Option.some.inj hf; exact hK)
          · have hf := lh_ifF hf c75
            refine lh_aload_n (q := 0) rfl rfl rfl ?_
            refine lh_bipush rfl lh_b_m20 ?_
            refine lh_bdE hf (fun r76 e77 hf => ?_)
            refine lh_cVi (N := m_La_put) (d := 0) (o := a + 1) (As := [.int (-20)]) (st := []) rfl rfl v_La_put (ha.1 1 _ rfl) rfl rfl rfl ⟨lh_bD (by omega), lh_bL (by omega)⟩ rfl (t_La_put hG hS ha e77 ?_)
            refine lh_if_eq rfl (fun c78 => ?_) (fun c78 => ?_)
            · have hf := lh_ifT hf c78
              refine lh_iconst rfl lh_k_0 ?_
              exact lh_iret rfl rfl (by decide) (by obtain rfl := Option.some.inj hf; exact hK)
            · have hf := lh_ifF hf c78
              refine lh_iconst rfl lh_k_1 ?_
              refine lh_goto rfl ?_
              exact lh_iret rfl rfl (by decide) (by obtain rfl := Option.some.inj hf; exact hK)
        · have hf := lh_ifF hf c70
          refine lh_aload_n (q := 1) rfl rfl rfl ?_
          refine lh_iconst rfl lh_k_5 ?_
          refine lh_bdE hf (fun r79 e80 hf => ?_)
          refine lh_cVi (N := m_Re_refuse) (d := 0) (o := 1) (As := [.int 5]) (st := []) rfl rfl v_Re_refuse (hS.1 1 _ rfl) rfl rfl rfl ⟨lh_bD (by omega), lh_bL (by omega)⟩ rfl (t_Re_refuse hG hS e80 ?_)
          obtain ⟨g81, hf⟩ := lh_gdE hf
          exact lh_iret rfl rfl (lh_z_nar g81) (by obtain rfl := Option.some.inj hf; exact hK)
      · have hf := lh_ifF hf c69
        refine lh_iload_n (q := 3) rfl rfl rfl ?_
        refine lh_bipush rfl lh_b_29 ?_
        refine lh_icmp_eq rfl (fun c82 => ?_) (fun c82 => ?_)
        · have hf := lh_ifT hf c82
          refine lh_iload_n (q := 2) rfl rfl rfl ?_
          refine lh_iconst rfl lh_k_5 ?_
          refine lh_icmp_lt rfl (fun c83 => ?_) (fun c83 => ?_)
          · have hf := lh_ifT hf c83
            refine lh_aload_n (q := 1) rfl rfl rfl ?_
            refine lh_getI4 rfl rfl (hS.1 1 _ rfl) rfl ?_
            refine lh_istore (lv' := [(0, .ref (a + 1 + 4)), (1, .ref (1 + 4)), (2, .int x1), (3, .int (I (1 + 4) 4)), (4, .int (I (1 + 4) 6))]) rfl rfl rfl ?_
            refine lh_aload_n (q := 1) rfl rfl rfl ?_
            refine lh_bdE hf (fun r84 e85 hf => ?_)
            refine lh_cVv (N := m_Re_advance) (d := 4) (o := 1) (As := []) (st := []) rfl rfl v_Re_advance (hS.1 1 _ rfl) rfl rfl rfl ⟨lh_bD (by omega), lh_bL (by omega)⟩ rfl (t_Re_advance hG hS e85 ?_)
            refine lh_iload_n (q := 3) rfl rfl rfl ?_
            refine lh_bipush rfl lh_b_20 ?_
            refine lh_icmp_ne rfl (fun _ => ?_) (fun c => absurd c c69)
            refine lh_iload_n (q := 3) rfl rfl rfl ?_
            refine lh_bipush rfl lh_b_29 ?_
            refine lh_icmp_eq rfl (fun _ => ?_) (fun c => absurd c82 c)
            refine lh_aload_n (q := 0) rfl rfl rfl ?_
            refine lh_aload_n (q := 1) rfl rfl rfl ?_
            refine lh_iconst rfl lh_k_0 ?_
            refine lh_iload_n (q := 2) rfl rfl rfl ?_
            refine lh_iconst rfl lh_k_1 ?_
            refine lh_iadd rfl ?_
            refine lh_bdE hf (fun r86 e87 hf => ?_)
            refine lh_cVi (N := m_La_readLevel) (d := D + 10) (o := a + 1) (As := [.ref (1 + 4), .int 0, .int (x1 + 1)]) (st := []) rfl rfl v_La_readLevel (ha.1 1 _ rfl) rfl rfl rfl ⟨lh_bD (by omega), lh_bL (by omega)⟩ rfl (hg_La_readLevel ha e87 ?_)
            refine lh_if_ne rfl (fun c88 => ?_) (fun c88 => ?_)
            · have hf := lh_ifF hf c88
              refine lh_aload_n (q := 1) rfl rfl rfl ?_
              refine lh_getI4 rfl rfl (hS.1 1 _ rfl) rfl ?_
              refine lh_bipush rfl lh_b_30 ?_
              refine lh_icmp_eq rfl (fun c89 => ?_) (fun c89 => ?_)
              · have hf := lh_ifT hf c89
                refine lh_aload_n (q := 1) rfl rfl rfl ?_
                refine lh_bdE hf (fun r90 e91 hf => ?_)
                refine lh_cVv (N := m_Re_advance) (d := 4) (o := 1) (As := []) (st := []) rfl rfl v_Re_advance (hS.1 1 _ rfl) rfl rfl rfl ⟨lh_bD (by omega), lh_bL (by omega)⟩ rfl (t_Re_advance hG hS e91 ?_)
                refine lh_iconst rfl lh_k_1 ?_
                exact lh_iret rfl rfl (by decide) (by obtain rfl := Option.some.inj hf; exact hK)
              · have hf := lh_ifF hf c89
                refine lh_aload_n (q := 1) rfl rfl rfl ?_
                refine lh_iconst rfl lh_k_1 ?_
                refine lh_bdE hf (fun r92 e93 hf => ?_)
                refine lh_cVi (N := m_Re_refuse) (d := 0) (o := 1) (As := [.int 1]) (st := []) rfl rfl v_Re_refuse (hS.1 1 _ rfl) rfl rfl rfl ⟨lh_bD (by omega), lh_bL (by omega)⟩ rfl (t_Re_refuse hG hS e93 ?_)
                obtain ⟨g94, hf⟩ := lh_gdE hf
                exact lh_iret rfl rfl (lh_z_nar g94) (by obtain rfl := Option.some.inj hf; exact hK)
            · have hf := lh_ifT hf c88
              refine lh_iconst rfl lh_k_0 ?_
              exact lh_iret rfl rfl (by decide) (by obtain rfl := Option.some.inj hf; exact hK)
          · have hf := lh_ifF hf c83
            refine lh_aload_n (q := 1) rfl rfl rfl ?_
            refine lh_iconst rfl lh_k_5 ?_
            refine lh_bdE hf (fun r95 e96 hf => ?_)
            refine lh_cVi (N := m_Re_refuse) (d := 0) (o := 1) (As := [.int 5]) (st := []) rfl rfl v_Re_refuse (hS.1 1 _ rfl) rfl rfl rfl ⟨lh_bD (by omega), lh_bL (by omega)⟩ rfl (t_Re_refuse hG hS e96 ?_)
            obtain ⟨g97, hf⟩ := lh_gdE hf
            exact lh_iret rfl rfl (lh_z_nar g97) (by obtain rfl := Option.some.inj hf; exact hK)
        · have hf := lh_ifF hf c82
          refine lh_aload_n (q := 1) rfl rfl rfl ?_
          refine lh_iconst rfl lh_k_1 ?_
          refine lh_bdE hf (fun r98 e99 hf => ?_)
          refine lh_cVi (N := m_Re_refuse) (d := 0) (o := 1) (As := [.int 1]) (st := []) rfl rfl v_Re_refuse (hS.1 1 _ rfl) rfl rfl rfl ⟨lh_bD (by omega), lh_bL (by omega)⟩ rfl (t_Re_refuse hG hS e99 ?_)
          obtain ⟨g100, hf⟩ := lh_gdE hf
          exact lh_iret rfl rfl (lh_z_nar g100) (by obtain rfl := Option.some.inj hf; exact hK)
def f_La_readLevel_27 (g_La_readLevel : Nat → Int32 → Int32 → lh_II → lh_LL → Option (Int32 × lh_II × lh_LL)) (g_La_readPart : Nat → Int32 → lh_II → lh_LL → Option (Int32 × lh_II × lh_LL)) (a : Nat) (v2 : Int32) (v3 : Int32) (v4 : Int32) : Nat → Int32 → lh_II → lh_LL → Option (Nat × lh_II × lh_LL)
  | 0, _, _, _ => none
  | n + 1, v5, I, L => if v4 ≤ v5 then some (1, I, L) else lh_bd (f_La_isOfLevel (I (1 + 4) 4) v2) fun r7 => if r7 = 0 then some (1, I, L) else lh_bd (f_Re_advance I L) fun r10 => lh_bd (g_La_readLevel a (v2 + 1) v3 r10.1 r10.2) fun r12 => if r12.1 = 0 then some (0, r12.2.1, r12.2.2) else lh_bd (f_La_put a (-(I (1 + 4) 4)) r12.2.1) fun r15 => f_La_readLevel_27 g_La_readLevel g_La_readPart a v2 v3 v4 n (v5 + 1) r15.2 r12.2.2
def f_La_readLevel (g_La_readLevel : Nat → Int32 → Int32 → lh_II → lh_LL → Option (Int32 × lh_II × lh_LL)) (g_La_readPart : Nat → Int32 → lh_II → lh_LL → Option (Int32 × lh_II × lh_LL)) (a : Nat) (x1 : Int32) (x2 : Int32) (I : lh_II) (L : lh_LL) : Option (Int32 × lh_II × lh_LL) := if x1 < 4 then lh_bd (g_La_readLevel a (x1 + 1) x2 I L) fun r2 => if r2.1 = 0 then some (0, r2.2.1, r2.2.2) else if x1 = 1 then lh_bd (f_La_readLevel_27 g_La_readLevel g_La_readPart a x1 x2 1 lh_fuel 0 r2.2.1 r2.2.2) fun r19 => if r19.1 = 0 then some (0, r19.2.1, r19.2.2) else some (1, r19.2.1, r19.2.2) else lh_bd (f_La_readLevel_27 g_La_readLevel g_La_readPart a x1 x2 1000 lh_fuel 0 r2.2.1 r2.2.2) fun r17 => if r17.1 = 0 then some (0, r17.2.1, r17.2.2) else some (1, r17.2.1, r17.2.2) else lh_bd (g_La_readPart a x2 I L) fun r21 => lh_gd (lh_z r21.1) (some (r21.1, r21.2.1, r21.2.2))
theorem t_La_readLevel_27 {Γ : lh_Cx} {F : lh_FF} {S : lh_SS} {Z : List Frame → Array Value → State → State → Prop} (hG : lh_GX Γ) (hS : lh_lay F S) {D : Nat} {g_La_readLevel : Nat → Int32 → Int32 → lh_II → lh_LL → Option (Int32 × lh_II × lh_LL)} (hg_La_readLevel : ∀ {I : lh_II} {L : lh_LL} {K : Int32 → lh_Hp → Prop} {r : Int32 × lh_II × lh_LL} {a : Nat} (ha : lh_hl F S a) {x1 : Int32} {x2 : Int32}, g_La_readLevel a x1 x2 I L = some r → K r.1 (r.2.1, r.2.2, F, S) → lh_Met Γ m_La_readLevel (D + 10) 0 0 [.ref (a + 1 + 4), .ref (1 + 4), .int x1, .int x2] (I, L, F, S) (lh_ki K)) {g_La_readPart : Nat → Int32 → lh_II → lh_LL → Option (Int32 × lh_II × lh_LL)} (hg_La_readPart : ∀ {I : lh_II} {L : lh_LL} {K : Int32 → lh_Hp → Prop} {r : Int32 × lh_II × lh_LL} {a : Nat} (ha : lh_hl F S a) {x1 : Int32}, g_La_readPart a x1 I L = some r → K r.1 (r.2.1, r.2.2, F, S) → lh_Met Γ m_La_readPart (D + 10) 0 0 [.ref (a + 1 + 4), .ref (1 + 4), .int x1] (I, L, F, S) (lh_ki K)) {a : Nat} (ha : lh_hl F S a) {v2 : Int32} {v3 : Int32} {v4 : Int32} : ∀ (n : Nat) (v5 : Int32) (I : lh_II) (L : lh_LL) (o : Nat × lh_II × lh_LL), f_La_readLevel_27 g_La_readLevel g_La_readPart a v2 v3 v4 n v5 I L = some o → ∀ (x0_ : o.1 = 0 → lh_G Γ m_La_readLevel (lh_R (D + 11) 0 0) Z 0 0 48 [] [] (o.2.1, o.2.2, F, S)), ∀ (x1_ : o.1 = 1 → lh_G Γ m_La_readLevel (lh_R (D + 11) 0 0) Z 0 0 57 [] [] (o.2.1, o.2.2, F, S)), lh_G Γ m_La_readLevel (lh_R (D + 11) 0 0) Z 0 0 27 [(0, .ref (a + 1 + 4)), (1, .ref (1 + 4)), (2, .int v2), (3, .int v3), (4, .int v4), (5, .int v5)] [] (I, L, F, S) := by
  intro n
  induction n with
  | zero => intro v5 I L o hf; cases hf
  | succ n ih =>
    intro v5 I L o hf x0_ x1_
    rw [f_La_readLevel_27] at hf
    refine lh_iload (q := 5) rfl rfl ?_
    refine lh_iload (q := 4) rfl rfl ?_
    refine lh_icmp_ge rfl (fun c6 => ?_) (fun c6 => ?_)
    · have hf := lh_ifT hf c6
      exact lh_less [] rfl (by cases hf; exact x1_ rfl)
    · have hf := lh_ifF hf c6
      refine lh_aload_n (q := 1) rfl rfl rfl ?_
      refine lh_getI4 rfl rfl (hS.1 1 _ rfl) rfl ?_
      refine lh_iload_n (q := 2) rfl rfl rfl ?_
      refine lh_bdE hf (fun r7 e8 hf => ?_)
      refine lh_cSi (N := m_La_isOfLevel) (d := 0) (As := [.int (I (1 + 4) 4), .int v2]) (st := []) rfl rfl v_La_isOfLevel rfl rfl ⟨lh_bD (by omega), lh_bL (by omega)⟩ rfl (t_La_isOfLevel hG hS e8 ?_)
      refine lh_if_eq rfl (fun c9 => ?_) (fun c9 => ?_)
      · have hf := lh_ifT hf c9
        exact lh_less [] rfl (by cases hf; exact x1_ rfl)
      · have hf := lh_ifF hf c9
        refine lh_aload_n (q := 1) rfl rfl rfl ?_
        refine lh_getI4 rfl rfl (hS.1 1 _ rfl) rfl ?_
        refine lh_istore (lv' := [(0, .ref (a + 1 + 4)), (1, .ref (1 + 4)), (2, .int v2), (3, .int v3), (4, .int v4), (5, .int v5), (6, .int (I (1 + 4) 4))]) rfl rfl rfl ?_
        refine lh_aload_n (q := 1) rfl rfl rfl ?_
        refine lh_bdE hf (fun r10 e11 hf => ?_)
        refine lh_cVv (N := m_Re_advance) (d := 4) (o := 1) (As := []) (st := []) rfl rfl v_Re_advance (hS.1 1 _ rfl) rfl rfl rfl ⟨lh_bD (by omega), lh_bL (by omega)⟩ rfl (t_Re_advance hG hS e11 ?_)
        refine lh_aload_n (q := 0) rfl rfl rfl ?_
        refine lh_aload_n (q := 1) rfl rfl rfl ?_
        refine lh_iload_n (q := 2) rfl rfl rfl ?_
        refine lh_iconst rfl lh_k_1 ?_
        refine lh_iadd rfl ?_
        refine lh_iload_n (q := 3) rfl rfl rfl ?_
        refine lh_bdE hf (fun r12 e13 hf => ?_)
        refine lh_cVi (N := m_La_readLevel) (d := D + 10) (o := a + 1) (As := [.ref (1 + 4), .int (v2 + 1), .int v3]) (st := []) rfl rfl v_La_readLevel (ha.1 1 _ rfl) rfl rfl rfl ⟨lh_bD (by omega), lh_bL (by omega)⟩ rfl (hg_La_readLevel ha e13 ?_)
        refine lh_if_ne rfl (fun c14 => ?_) (fun c14 => ?_)
        · have hf := lh_ifF hf c14
          refine lh_aload_n (q := 0) rfl rfl rfl ?_
          refine lh_iload (q := 6) rfl rfl ?_
          refine lh_ineg rfl ?_
          refine lh_bdE hf (fun r15 e16 hf => ?_)
          refine lh_cVi (N := m_La_put) (d := 0) (o := a + 1) (As := [.int (-(I (1 + 4) 4))]) (st := []) rfl rfl v_La_put (ha.1 1 _ rfl) rfl rfl rfl ⟨lh_bD (by omega), lh_bL (by omega)⟩ rfl (t_La_put hG hS ha e16 ?_)
          refine lh_pop rfl rfl ?_
          refine lh_iinc (q := 5) (v := (v5 + 1)) (lv' := [(0, .ref (a + 1 + 4)), (1, .ref (1 + 4)), (2, .int v2), (3, .int v3), (4, .int v4), (5, .int (v5 + 1)), (6, .int (I (1 + 4) 4))]) rfl rfl (congrArg (v5 + ·) (by decide)) rfl rfl ?_
          refine lh_goto rfl ?_
          refine lh_less [0, 1, 2, 3, 4, 5] rfl ?_
          exact ih (v5 + 1) r15.2 r12.2.2 _ hf x0_ x1_
        · have hf := lh_ifT hf c14
          exact lh_less [] rfl (by cases hf; exact x0_ rfl)
theorem t_La_readLevel {Γ : lh_Cx} {I : lh_II} {L : lh_LL} {F : lh_FF} {S : lh_SS} {K : Int32 → lh_Hp → Prop} {r : Int32 × lh_II × lh_LL} (hG : lh_GX Γ) (hS : lh_lay F S) {D : Nat} {g_La_readLevel : Nat → Int32 → Int32 → lh_II → lh_LL → Option (Int32 × lh_II × lh_LL)} (hg_La_readLevel : ∀ {I : lh_II} {L : lh_LL} {K : Int32 → lh_Hp → Prop} {r : Int32 × lh_II × lh_LL} {a : Nat} (ha : lh_hl F S a) {x1 : Int32} {x2 : Int32}, g_La_readLevel a x1 x2 I L = some r → K r.1 (r.2.1, r.2.2, F, S) → lh_Met Γ m_La_readLevel (D + 10) 0 0 [.ref (a + 1 + 4), .ref (1 + 4), .int x1, .int x2] (I, L, F, S) (lh_ki K)) {g_La_readPart : Nat → Int32 → lh_II → lh_LL → Option (Int32 × lh_II × lh_LL)} (hg_La_readPart : ∀ {I : lh_II} {L : lh_LL} {K : Int32 → lh_Hp → Prop} {r : Int32 × lh_II × lh_LL} {a : Nat} (ha : lh_hl F S a) {x1 : Int32}, g_La_readPart a x1 I L = some r → K r.1 (r.2.1, r.2.2, F, S) → lh_Met Γ m_La_readPart (D + 10) 0 0 [.ref (a + 1 + 4), .ref (1 + 4), .int x1] (I, L, F, S) (lh_ki K)) {a : Nat} (ha : lh_hl F S a) {x1 : Int32} {x2 : Int32} (hf : f_La_readLevel g_La_readLevel g_La_readPart a x1 x2 I L = some r) (hK : K r.1 (r.2.1, r.2.2, F, S)) : lh_Met Γ m_La_readLevel (D + 11) 0 0 [.ref (a + 1 + 4), .ref (1 + 4), .int x1, .int x2] (I, L, F, S) (lh_ki K) := by
  rw [f_La_readLevel] at hf
  refine lh_ofG k_La_readLevel [(0, .ref (a + 1 + 4)), (1, .ref (1 + 4)), (2, .int x1), (3, .int x2)] rfl (Nat.le_of_ble_eq_true rfl) rfl ?_
  refine lh_iload_n (q := 2) rfl rfl rfl ?_
  refine lh_iconst rfl lh_k_4 ?_
  refine lh_icmp_lt rfl (fun c1 => ?_) (fun c1 => ?_)
  · have hf := lh_ifT hf c1
    refine lh_aload_n (q := 0) rfl rfl rfl ?_
    refine lh_aload_n (q := 1) rfl rfl rfl ?_
    refine lh_iload_n (q := 2) rfl rfl rfl ?_
    refine lh_iconst rfl lh_k_1 ?_
    refine lh_iadd rfl ?_
    refine lh_iload_n (q := 3) rfl rfl rfl ?_
    refine lh_bdE hf (fun r2 e3 hf => ?_)
    refine lh_cVi (N := m_La_readLevel) (d := D + 10) (o := a + 1) (As := [.ref (1 + 4), .int (x1 + 1), .int x2]) (st := []) rfl rfl v_La_readLevel (ha.1 1 _ rfl) rfl rfl rfl ⟨lh_bD (by omega), lh_bL (by omega)⟩ rfl (hg_La_readLevel ha e3 ?_)
    refine lh_if_ne rfl (fun c4 => ?_) (fun c4 => ?_)
    · have hf := lh_ifF hf c4
      refine lh_iload_n (q := 2) rfl rfl rfl ?_
      refine lh_iconst rfl lh_k_1 ?_
      refine lh_icmp_ne rfl (fun c5 => ?_) (fun c5 => ?_)
      · have hf := lh_ifF hf c5
        refine lh_sipush rfl lh_s_1000 ?_
        refine lh_istore (lv' := [(0, .ref (a + 1 + 4)), (1, .ref (1 + 4)), (2, .int x1), (3, .int x2), (4, .int 1000)]) rfl rfl rfl ?_
        refine lh_iconst rfl lh_k_0 ?_
        refine lh_istore (lv' := [(0, .ref (a + 1 + 4)), (1, .ref (1 + 4)), (2, .int x1), (3, .int x2), (4, .int 1000), (5, .int 0)]) rfl rfl rfl ?_
        refine lh_bdE hf (fun r17 e18 hf => ?_)
        refine t_La_readLevel_27 hG hS hg_La_readLevel hg_La_readPart ha _ 0 r2.2.1 r2.2.2 _ e18 (fun q0_ => ?_) (fun q1_ => ?_)
        · have hf := lh_ifT hf q0_
          refine lh_iconst rfl lh_k_0 ?_
          exact lh_iret rfl rfl (by decide) (by obtain rfl := Option.some.inj hf; exact hK)
        · have hf := lh_ifF hf (by rw [q1_]; decide)
          refine lh_iconst rfl lh_k_1 ?_
          exact lh_iret rfl rfl (by decide) (by obtain rfl := Option.some.inj hf; exact hK)
      · have hf := lh_ifT hf c5
        refine lh_iconst rfl lh_k_1 ?_
        refine lh_goto rfl ?_
        refine lh_istore (lv' := [(0, .ref (a + 1 + 4)), (1, .ref (1 + 4)), (2, .int x1), (3, .int x2), (4, .int 1)]) rfl rfl rfl ?_
        refine lh_iconst rfl lh_k_0 ?_
        refine lh_istore (lv' := [(0, .ref (a + 1 + 4)), (1, .ref (1 + 4)), (2, .int x1), (3, .int x2), (4, .int 1), (5, .int 0)]) rfl rfl rfl ?_
        refine lh_bdE hf (fun r19 e20 hf => ?_)
        refine t_La_readLevel_27 hG hS hg_La_readLevel hg_La_readPart ha _ 0 r2.2.1 r2.2.2 _ e20 (fun q0_ => ?_) (fun q1_ => ?_)
        · have hf := lh_ifT hf q0_
          refine lh_iconst rfl lh_k_0 ?_
          exact lh_iret rfl rfl (by decide) (by obtain rfl := Option.some.inj hf; exact hK)
        · have hf := lh_ifF hf (by rw [q1_]; decide)
          refine lh_iconst rfl lh_k_1 ?_
          exact lh_iret rfl rfl (by decide) (by obtain rfl := Option.some.inj hf; exact hK)
    · have hf := lh_ifT hf c4
      refine lh_iconst rfl lh_k_0 ?_
      exact lh_iret rfl rfl (by decide) (by obtain rfl := Option.some.inj hf; exact hK)
  · have hf := lh_ifF hf c1
    refine lh_aload_n (q := 0) rfl rfl rfl ?_
    refine lh_aload_n (q := 1) rfl rfl rfl ?_
    refine lh_iload_n (q := 3) rfl rfl rfl ?_
    refine lh_bdE hf (fun r21 e22 hf => ?_)
    refine lh_cVi (N := m_La_readPart) (d := D + 10) (o := a + 1) (As := [.ref (1 + 4), .int x2]) (st := []) rfl rfl v_La_readPart (ha.1 1 _ rfl) rfl rfl rfl ⟨lh_bD (by omega), lh_bL (by omega)⟩ rfl (hg_La_readPart ha e22 ?_)
    obtain ⟨g23, hf⟩ := lh_gdE hf
    exact lh_iret rfl rfl (lh_z_nar g23) (by obtain rfl := Option.some.inj hf; exact hK)
def f_Lag : Nat → Nat → Nat → Int32 → Int32 → lh_II → lh_LL → Option (Int32 × lh_II × lh_LL)
  | 0, _, _, _, _, _, _ => none
  | d + 1, w, a, x, y, I, L => if w = 0 then f_La_readLevel (f_Lag d 0) (fun a y I L => f_Lag d 1 a 0 y I L) a x y I L else f_La_readPart (f_Lag d 0) (fun a y I L => f_Lag d 1 a 0 y I L) a y I L
theorem t_Lag {Γ : lh_Cx} {F : lh_FF} {S : lh_SS} (hG : lh_GX Γ) (hS : lh_lay F S) : ∀ d : Nat, (∀ {I : lh_II} {L : lh_LL} {K : Int32 → lh_Hp → Prop} {r : (Int32 × lh_II × lh_LL)} {a : Nat} (_ : lh_hl F S a) {x1 : Int32} {x2 : Int32}, f_Lag d 0 a x1 x2 I L = some r → K r.1 (r.2.1, r.2.2, F, S) → lh_Met Γ m_La_readLevel (d + 10) 0 0 [.ref (a + 1 + 4), .ref (1 + 4), .int x1, .int x2] (I, L, F, S) (lh_ki K)) ∧ (∀ {I : lh_II} {L : lh_LL} {K : Int32 → lh_Hp → Prop} {r : (Int32 × lh_II × lh_LL)} {a : Nat} (_ : lh_hl F S a) {x1 : Int32}, f_Lag d 1 a 0 x1 I L = some r → K r.1 (r.2.1, r.2.2, F, S) → lh_Met Γ m_La_readPart (d + 10) 0 0 [.ref (a + 1 + 4), .ref (1 + 4), .int x1] (I, L, F, S) (lh_ki K)) := by
  intro d
  induction d with
  | zero =>
    refine ⟨?_, ?_⟩
    · intro I L K r a ha x1 x2 hf hK; rw [f_Lag] at hf; cases hf
    · intro I L K r a ha x1 hf hK; rw [f_Lag] at hf; cases hf
  | succ d ih =>
    obtain ⟨i0, i1⟩ := ih
    refine ⟨?_, ?_⟩
    · intro I L K r a ha x1 x2 hf hK
      rw [f_Lag] at hf
      have hf := lh_ifT hf (by decide)
      exact t_La_readLevel hG hS (D := d) (g_La_readPart := fun a y I L => f_Lag d 1 a 0 y I L) i0 i1 ha hf hK
    · intro I L K r a ha x1 hf hK
      rw [f_Lag] at hf
      have hf := lh_ifF hf (by decide)
      exact t_La_readPart hG hS (D := d) (g_La_readPart := fun a y I L => f_Lag d 1 a 0 y I L) i0 i1 ha hf hK
theorem t_Lag_La_readLevel {Γ : lh_Cx} {I : lh_II} {L : lh_LL} {F : lh_FF} {S : lh_SS} {K : Int32 → lh_Hp → Prop} {r : (Int32 × lh_II × lh_LL)} (hG : lh_GX Γ) (hS : lh_lay F S) {a : Nat} (ha : lh_hl F S a) {x1 : Int32} {x2 : Int32} (hf : f_Lag lh_deep 0 a x1 x2 I L = some r) (hK : K r.1 (r.2.1, r.2.2, F, S)) : lh_Met Γ m_La_readLevel 50 0 0 [.ref (a + 1 + 4), .ref (1 + 4), .int x1, .int x2] (I, L, F, S) (lh_ki K) := (t_Lag hG hS 40).1 ha hf hK

def f_Hr_readLine (a : Nat) (q : Nat) (I : lh_II) (L : lh_LL) : Option (Int32 × lh_II × lh_LL) := if (I (1 + 4) 4) = 0 then lh_bd (f_Hr_takeOnce a q (I (1 + 4) 4) I L) fun r2 => if r2.1 = 0 then some (0, r2.2.1, r2.2.2) else lh_bd (f_Hr_readMeasure a q (I (1 + 4) 4) r2.2.1 r2.2.2) fun r5 => if r5.1 = 0 then some (0, r5.2.1, r5.2.2) else some (1, r5.2.1, r5.2.2) else if (I (1 + 4) 4) = 1 then lh_bd (f_Re_advance I L) fun r9 => lh_bd (f_Hr_readPillar a q r9.1 r9.2) fun r11 => lh_gd (lh_z r11.1) (some (r11.1, r11.2.1, r11.2.2)) else if (I (1 + 4) 4) = 2 then lh_bd (f_Hr_takeIfRoom a q (I (a + 4) 11) (6 : Int32) I L) fun r15 => if r15.1 = 0 then some (0, r15.2.1, r15.2.2) else lh_bd (f_Hr_readVisitor a q r15.2.1 r15.2.2) fun r18 => if r18.1 = 0 then some (0, r18.2.1, r18.2.2) else some (1, r18.2.1, r18.2.2) else if (I (1 + 4) 4) = 3 then lh_bd (f_Re_refuse (1 : Int32) I) fun r22 => lh_gd (lh_z r22.1) (some (r22.1, r22.2, L)) else if (I (1 + 4) 4) = 4 then lh_bd (f_Re_refuse (1 : Int32) I) fun r26 => lh_gd (lh_z r26.1) (some (r26.1, r26.2, L)) else if (I (1 + 4) 4) = 5 then lh_bd (f_Hr_takeIfRoom a q (I (a + 4) 12) (4 : Int32) I L) fun r30 => if r30.1 = 0 then some (0, r30.2.1, r30.2.2) else lh_bd (f_Hr_readVase a q r30.2.1 r30.2.2) fun r33 => if r33.1 = 0 then some (0, r33.2.1, r33.2.2) else some (1, r33.2.1, r33.2.2) else if (I (1 + 4) 4) = 6 then lh_bd (f_Re_refuse (1 : Int32) I) fun r37 => lh_gd (lh_z r37.1) (some (r37.1, r37.2, L)) else if (I (1 + 4) 4) = 7 then lh_bd (f_Hr_takeOnce a q (I (1 + 4) 4) I L) fun r41 => if r41.1 = 0 then some (0, r41.2.1, r41.2.2) else lh_bd (f_Hr_readMeasure a q (I (1 + 4) 4) r41.2.1 r41.2.2) fun r44 => if r44.1 = 0 then some (0, r44.2.1, r44.2.2) else some (1, r44.2.1, r44.2.2) else if (I (1 + 4) 4) = 8 then lh_bd (f_Hr_takeOnce a q (I (1 + 4) 4) I L) fun r48 => if r48.1 = 0 then some (0, r48.2.1, r48.2.2) else lh_bd (f_Hr_readMeasure a q (I (1 + 4) 4) r48.2.1 r48.2.2) fun r51 => if r51.1 = 0 then some (0, r51.2.1, r51.2.2) else some (1, r51.2.1, r51.2.2) else if (I (1 + 4) 4) = 9 then lh_bd (f_Hr_takeOnce a q (I (1 + 4) 4) I L) fun r55 => if r55.1 = 0 then some (0, r55.2.1, r55.2.2) else lh_bd (f_Hr_readMeasure a q (I (1 + 4) 4) r55.2.1 r55.2.2) fun r58 => if r58.1 = 0 then some (0, r58.2.1, r58.2.2) else some (1, r58.2.1, r58.2.2) else if (I (1 + 4) 4) = 10 then lh_bd (f_Hr_takeOnce a q (I (1 + 4) 4) I L) fun r62 => if r62.1 = 0 then some (0, r62.2.1, r62.2.2) else lh_bd (f_Hr_readFellow a q r62.2.1 r62.2.2) fun r65 => if r65.1 = 0 then some (0, r65.2.1, r65.2.2) else some (1, r65.2.1, r65.2.2) else if (I (1 + 4) 4) = 11 then lh_bd (f_La_empty a I) fun r69 => lh_bd (f_Hr_takeOnce a q (I (1 + 4) 4) r69 L) fun r71 => if r71.1 = 0 then some (0, r71.2.1, r71.2.2) else lh_bd (f_Lag lh_deep 0 a (0 : Int32) (0 : Int32) r71.2.1 r71.2.2) fun r74 => if r74.1 = 0 then some (0, r74.2.1, r74.2.2) else some (1, r74.2.1, r74.2.2) else lh_bd (f_Re_refuse (1 : Int32) I) fun r77 => lh_gd (lh_z r77.1) (some (r77.1, r77.2, L))
theorem t_Hr_readLine {Γ : lh_Cx} {I : lh_II} {L : lh_LL} {F : lh_FF} {S : lh_SS} {K : Int32 → lh_Hp → Prop} {r : Int32 × lh_II × lh_LL} (hG : lh_GX Γ) (hS : lh_lay F S) {a : Nat} (ha : lh_hl F S a) {q : Nat} (hq : lh_ql F S q a) (hf : f_Hr_readLine a q I L = some r) (hK : K r.1 (r.2.1, r.2.2, F, S)) : lh_Met Γ m_Hr_readLine 60 0 0 [.ref (q + 4)] (I, L, F, S) (lh_ki K) := by
  rw [f_Hr_readLine] at hf
  refine lh_ofG k_Hr_readLine [(0, .ref (q + 4))] rfl (Nat.le_of_ble_eq_true rfl) rfl ?_
  refine lh_aload_n (q := 0) rfl rfl rfl ?_
  refine lh_getR4 rfl rfl hq.1 rfl hq.2.2.1 ?_
  refine lh_getI4 rfl rfl (hS.1 1 _ rfl) rfl ?_
  refine lh_istore_n (lv' := [(0, .ref (q + 4)), (1, .int (I (1 + 4) 4))]) rfl rfl rfl rfl ?_
  refine lh_iload_n (q := 1) rfl rfl rfl ?_
  by_cases c1 : (I (1 + 4) 4) = 0
  · have hf := lh_ifT hf c1
    refine lh_tsIn (q := 0) (tgt := 72) rfl (by rw [c1]; decide) (by decide) rfl rfl ?_
    refine lh_aload_n (q := 0) rfl rfl rfl ?_
    refine lh_iload_n (q := 1) rfl rfl rfl ?_
    refine lh_bdE hf (fun r2 e3 hf => ?_)
    refine lh_cVi (N := m_Hr_takeOnce) (d := 5) (o := q) (As := [.int (I (1 + 4) 4)]) (st := []) rfl rfl v_Hr_takeOnce hq.1 rfl rfl rfl ⟨rfl, rfl⟩ rfl (t_Hr_takeOnce hG hS ha hq e3 ?_)
    refine lh_if_eq rfl (fun c4 => ?_) (fun c4 => ?_)
    · have hf := lh_ifT hf c4
      refine lh_iconst rfl lh_k_0 ?_
      exact lh_iret rfl rfl (by decide) (by obtain rfl := Option.some.inj hf; exact hK)
    · have hf := lh_ifF hf c4
      refine lh_aload_n (q := 0) rfl rfl rfl ?_
      refine lh_iload_n (q := 1) rfl rfl rfl ?_
      refine lh_bdE hf (fun r5 e6 hf => ?_)
      refine lh_cVi (N := m_Hr_readMeasure) (d := 5) (o := q) (As := [.int (I (1 + 4) 4)]) (st := []) rfl rfl v_Hr_readMeasure hq.1 rfl rfl rfl ⟨rfl, rfl⟩ rfl (t_Hr_readMeasure hG hS ha hq e6 ?_)
      refine lh_if_eq rfl (fun c7 => ?_) (fun c7 => ?_)
      · have hf := lh_ifT hf c7
        refine lh_iconst rfl lh_k_0 ?_
        exact lh_iret rfl rfl (by decide) (by obtain rfl := Option.some.inj hf; exact hK)
      · have hf := lh_ifF hf c7
        refine lh_iconst rfl lh_k_1 ?_
        refine lh_goto rfl ?_
        exact lh_iret rfl rfl (by decide) (by obtain rfl := Option.some.inj hf; exact hK)
  · have hf := lh_ifF hf c1
    by_cases c8 : (I (1 + 4) 4) = 1
    · have hf := lh_ifT hf c8
      refine lh_tsIn (q := 1) (tgt := 6) rfl (by rw [c8]; decide) (by decide) rfl rfl ?_
      refine lh_aload_n (q := 0) rfl rfl rfl ?_
      refine lh_getR4 rfl rfl hq.1 rfl hq.2.2.1 ?_
      refine lh_bdE hf (fun r9 e10 hf => ?_)
      refine lh_cVv (N := m_Re_advance) (d := 4) (o := 1) (As := []) (st := []) rfl rfl v_Re_advance (hS.1 1 _ rfl) rfl rfl rfl ⟨rfl, rfl⟩ rfl (t_Re_advance hG hS e10 ?_)
      refine lh_aload_n (q := 0) rfl rfl rfl ?_
      refine lh_bdE hf (fun r11 e12 hf => ?_)
      refine lh_cVi (N := m_Hr_readPillar) (d := 5) (o := q) (As := []) (st := []) rfl rfl v_Hr_readPillar hq.1 rfl rfl rfl ⟨rfl, rfl⟩ rfl (t_Hr_readPillar hG hS ha hq e12 ?_)
      obtain ⟨g13, hf⟩ := lh_gdE hf
      exact lh_iret rfl rfl (lh_z_nar g13) (by obtain rfl := Option.some.inj hf; exact hK)
    · have hf := lh_ifF hf c8
      by_cases c14 : (I (1 + 4) 4) = 2
      · have hf := lh_ifT hf c14
        refine lh_tsIn (q := 2) (tgt := 12) rfl (by rw [c14]; decide) (by decide) rfl rfl ?_
        refine lh_aload_n (q := 0) rfl rfl rfl ?_
        refine lh_aload_n (q := 0) rfl rfl rfl ?_
        refine lh_getR4 rfl rfl hq.1 rfl hq.2.2.2.1 ?_
        refine lh_getI4 rfl rfl (ha.1 0 _ rfl) rfl ?_
        refine lh_bipush rfl lh_b_6 ?_
        refine lh_bdE hf (fun r15 e16 hf => ?_)
        refine lh_cVi (N := m_Hr_takeIfRoom) (d := 5) (o := q) (As := [.int (I (a + 4) 11), .int 6]) (st := []) rfl rfl v_Hr_takeIfRoom hq.1 rfl rfl rfl ⟨rfl, rfl⟩ rfl (t_Hr_takeIfRoom hG hS ha hq e16 ?_)
        refine lh_if_eq rfl (fun c17 => ?_) (fun c17 => ?_)
        · have hf := lh_ifT hf c17
          refine lh_iconst rfl lh_k_0 ?_
          exact lh_iret rfl rfl (by decide) (by obtain rfl := Option.some.inj hf; exact hK)
        · have hf := lh_ifF hf c17
          refine lh_aload_n (q := 0) rfl rfl rfl ?_
          refine lh_bdE hf (fun r18 e19 hf => ?_)
          refine lh_cVi (N := m_Hr_readVisitor) (d := 6) (o := q) (As := []) (st := []) rfl rfl v_Hr_readVisitor hq.1 rfl rfl rfl ⟨rfl, rfl⟩ rfl (t_Hr_readVisitor hG hS ha hq e19 ?_)
          refine lh_if_eq rfl (fun c20 => ?_) (fun c20 => ?_)
          · have hf := lh_ifT hf c20
            refine lh_iconst rfl lh_k_0 ?_
            exact lh_iret rfl rfl (by decide) (by obtain rfl := Option.some.inj hf; exact hK)
          · have hf := lh_ifF hf c20
            refine lh_iconst rfl lh_k_1 ?_
            refine lh_goto rfl ?_
            exact lh_iret rfl rfl (by decide) (by obtain rfl := Option.some.inj hf; exact hK)
      · have hf := lh_ifF hf c14
        by_cases c21 : (I (1 + 4) 4) = 3
        · have hf := lh_ifT hf c21
          refine lh_tsIn (q := 3) (tgt := 84) rfl (by rw [c21]; decide) (by decide) rfl rfl ?_
          refine lh_aload_n (q := 0) rfl rfl rfl ?_
          refine lh_getR4 rfl rfl hq.1 rfl hq.2.2.1 ?_
          refine lh_iconst rfl lh_k_1 ?_
          refine lh_bdE hf (fun r22 e23 hf => ?_)
          refine lh_cVi (N := m_Re_refuse) (d := 0) (o := 1) (As := [.int 1]) (st := []) rfl rfl v_Re_refuse (hS.1 1 _ rfl) rfl rfl rfl ⟨rfl, rfl⟩ rfl (t_Re_refuse hG hS e23 ?_)
          obtain ⟨g24, hf⟩ := lh_gdE hf
          exact lh_iret rfl rfl (lh_z_nar g24) (by obtain rfl := Option.some.inj hf; exact hK)
        · have hf := lh_ifF hf c21
          by_cases c25 : (I (1 + 4) 4) = 4
          · have hf := lh_ifT hf c25
            refine lh_tsIn (q := 4) (tgt := 84) rfl (by rw [c25]; decide) (by decide) rfl rfl ?_
            refine lh_aload_n (q := 0) rfl rfl rfl ?_
            refine lh_getR4 rfl rfl hq.1 rfl hq.2.2.1 ?_
            refine lh_iconst rfl lh_k_1 ?_
            refine lh_bdE hf (fun r26 e27 hf => ?_)
            refine lh_cVi (N := m_Re_refuse) (d := 0) (o := 1) (As := [.int 1]) (st := []) rfl rfl v_Re_refuse (hS.1 1 _ rfl) rfl rfl rfl ⟨rfl, rfl⟩ rfl (t_Re_refuse hG hS e27 ?_)
            obtain ⟨g28, hf⟩ := lh_gdE hf
            exact lh_iret rfl rfl (lh_z_nar g28) (by obtain rfl := Option.some.inj hf; exact hK)
          · have hf := lh_ifF hf c25
            by_cases c29 : (I (1 + 4) 4) = 5
            · have hf := lh_ifT hf c29
              refine lh_tsIn (q := 5) (tgt := 26) rfl (by rw [c29]; decide) (by decide) rfl rfl ?_
              refine lh_aload_n (q := 0) rfl rfl rfl ?_
              refine lh_aload_n (q := 0) rfl rfl rfl ?_
              refine lh_getR4 rfl rfl hq.1 rfl hq.2.2.2.1 ?_
              refine lh_getI4 rfl rfl (ha.1 0 _ rfl) rfl ?_
              refine lh_iconst rfl lh_k_4 ?_
              refine lh_bdE hf (fun r30 e31 hf => ?_)
              refine lh_cVi (N := m_Hr_takeIfRoom) (d := 5) (o := q) (As := [.int (I (a + 4) 12), .int 4]) (st := []) rfl rfl v_Hr_takeIfRoom hq.1 rfl rfl rfl ⟨rfl, rfl⟩ rfl (t_Hr_takeIfRoom hG hS ha hq e31 ?_)
              refine lh_if_eq rfl (fun c32 => ?_) (fun c32 => ?_)
              · have hf := lh_ifT hf c32
                refine lh_iconst rfl lh_k_0 ?_
                exact lh_iret rfl rfl (by decide) (by obtain rfl := Option.some.inj hf; exact hK)
              · have hf := lh_ifF hf c32
                refine lh_aload_n (q := 0) rfl rfl rfl ?_
                refine lh_bdE hf (fun r33 e34 hf => ?_)
                refine lh_cVi (N := m_Hr_readVase) (d := 6) (o := q) (As := []) (st := []) rfl rfl v_Hr_readVase hq.1 rfl rfl rfl ⟨rfl, rfl⟩ rfl (t_Hr_readVase hG hS ha hq e34 ?_)
                refine lh_if_eq rfl (fun c35 => ?_) (fun c35 => ?_)
                · have hf := lh_ifT hf c35
                  refine lh_iconst rfl lh_k_0 ?_
                  exact lh_iret rfl rfl (by decide) (by obtain rfl := Option.some.inj hf; exact hK)
                · have hf := lh_ifF hf c35
                  refine lh_iconst rfl lh_k_1 ?_
                  refine lh_goto rfl ?_
                  exact lh_iret rfl rfl (by decide) (by obtain rfl := Option.some.inj hf; exact hK)
            · have hf := lh_ifF hf c29
              by_cases c36 : (I (1 + 4) 4) = 6
              · have hf := lh_ifT hf c36
                refine lh_tsIn (q := 6) (tgt := 84) rfl (by rw [c36]; decide) (by decide) rfl rfl ?_
                refine lh_aload_n (q := 0) rfl rfl rfl ?_
                refine lh_getR4 rfl rfl hq.1 rfl hq.2.2.1 ?_
                refine lh_iconst rfl lh_k_1 ?_
                refine lh_bdE hf (fun r37 e38 hf => ?_)
                refine lh_cVi (N := m_Re_refuse) (d := 0) (o := 1) (As := [.int 1]) (st := []) rfl rfl v_Re_refuse (hS.1 1 _ rfl) rfl rfl rfl ⟨rfl, rfl⟩ rfl (t_Re_refuse hG hS e38 ?_)
                obtain ⟨g39, hf⟩ := lh_gdE hf
                exact lh_iret rfl rfl (lh_z_nar g39) (by obtain rfl := Option.some.inj hf; exact hK)
              · have hf := lh_ifF hf c36
                by_cases c40 : (I (1 + 4) 4) = 7
                · have hf := lh_ifT hf c40
                  refine lh_tsIn (q := 7) (tgt := 72) rfl (by rw [c40]; decide) (by decide) rfl rfl ?_
                  refine lh_aload_n (q := 0) rfl rfl rfl ?_
                  refine lh_iload_n (q := 1) rfl rfl rfl ?_
                  refine lh_bdE hf (fun r41 e42 hf => ?_)
                  refine lh_cVi (N := m_Hr_takeOnce) (d := 5) (o := q) (As := [.int (I (1 + 4) 4)]) (st := []) rfl rfl v_Hr_takeOnce hq.1 rfl rfl rfl ⟨rfl, rfl⟩ rfl (t_Hr_takeOnce hG hS ha hq e42 ?_)
                  refine lh_if_eq rfl (fun c43 => ?_) (fun c43 => ?_)
                  · have hf := lh_ifT hf c43
                    refine lh_iconst rfl lh_k_0 ?_
                    exact lh_iret rfl rfl (by decide) (by obtain rfl := Option.some.inj hf; exact hK)
                  · have hf := lh_ifF hf c43
                    refine lh_aload_n (q := 0) rfl rfl rfl ?_
                    refine lh_iload_n (q := 1) rfl rfl rfl ?_
                    refine lh_bdE hf (fun r44 e45 hf => ?_)
                    refine lh_cVi (N := m_Hr_readMeasure) (d := 5) (o := q) (As := [.int (I (1 + 4) 4)]) (st := []) rfl rfl v_Hr_readMeasure hq.1 rfl rfl rfl ⟨rfl, rfl⟩ rfl (t_Hr_readMeasure hG hS ha hq e45 ?_)
                    refine lh_if_eq rfl (fun c46 => ?_) (fun c46 => ?_)
                    · have hf := lh_ifT hf c46
                      refine lh_iconst rfl lh_k_0 ?_
                      exact lh_iret rfl rfl (by decide) (by obtain rfl := Option.some.inj hf; exact hK)
                    · have hf := lh_ifF hf c46
                      refine lh_iconst rfl lh_k_1 ?_
                      refine lh_goto rfl ?_
                      exact lh_iret rfl rfl (by decide) (by obtain rfl := Option.some.inj hf; exact hK)
                · have hf := lh_ifF hf c40
                  by_cases c47 : (I (1 + 4) 4) = 8
                  · have hf := lh_ifT hf c47
                    refine lh_tsIn (q := 8) (tgt := 72) rfl (by rw [c47]; decide) (by decide) rfl rfl ?_
                    refine lh_aload_n (q := 0) rfl rfl rfl ?_
                    refine lh_iload_n (q := 1) rfl rfl rfl ?_
                    refine lh_bdE hf (fun r48 e49 hf => ?_)
                    refine lh_cVi (N := m_Hr_takeOnce) (d := 5) (o := q) (As := [.int (I (1 + 4) 4)]) (st := []) rfl rfl v_Hr_takeOnce hq.1 rfl rfl rfl ⟨rfl, rfl⟩ rfl (t_Hr_takeOnce hG hS ha hq e49 ?_)
                    refine lh_if_eq rfl (fun c50 => ?_) (fun c50 => ?_)
                    · have hf := lh_ifT hf c50
                      refine lh_iconst rfl lh_k_0 ?_
                      exact lh_iret rfl rfl (by decide) (by obtain rfl := Option.some.inj hf; exact hK)
                    · have hf := lh_ifF hf c50
                      refine lh_aload_n (q := 0) rfl rfl rfl ?_
                      refine lh_iload_n (q := 1) rfl rfl rfl ?_
                      refine lh_bdE hf (fun r51 e52 hf => ?_)
                      refine lh_cVi (N := m_Hr_readMeasure) (d := 5) (o := q) (As := [.int (I (1 + 4) 4)]) (st := []) rfl rfl v_Hr_readMeasure hq.1 rfl rfl rfl ⟨rfl, rfl⟩ rfl (t_Hr_readMeasure hG hS ha hq e52 ?_)
                      refine lh_if_eq rfl (fun c53 => ?_) (fun c53 => ?_)
                      · have hf := lh_ifT hf c53
                        refine lh_iconst rfl lh_k_0 ?_
                        exact lh_iret rfl rfl (by decide) (by obtain rfl := Option.some.inj hf; exact hK)
                      · have hf := lh_ifF hf c53
                        refine lh_iconst rfl lh_k_1 ?_
                        refine lh_goto rfl ?_
                        exact lh_iret rfl rfl (by decide) (by obtain rfl := Option.some.inj hf; exact hK)
                  · have hf := lh_ifF hf c47
                    by_cases c54 : (I (1 + 4) 4) = 9
                    · have hf := lh_ifT hf c54
                      refine lh_tsIn (q := 9) (tgt := 72) rfl (by rw [c54]; decide) (by decide) rfl rfl ?_
                      refine lh_aload_n (q := 0) rfl rfl rfl ?_
                      refine lh_iload_n (q := 1) rfl rfl rfl ?_
                      refine lh_bdE hf (fun r55 e56 hf => ?_)
                      refine lh_cVi (N := m_Hr_takeOnce) (d := 5) (o := q) (As := [.int (I (1 + 4) 4)]) (st := []) rfl rfl v_Hr_takeOnce hq.1 rfl rfl rfl ⟨rfl, rfl⟩ rfl (t_Hr_takeOnce hG hS ha hq e56 ?_)
                      refine lh_if_eq rfl (fun c57 => ?_) (fun c57 => ?_)
                      · have hf := lh_ifT hf c57
                        refine lh_iconst rfl lh_k_0 ?_
                        exact lh_iret rfl rfl (by decide) (by obtain rfl := Option.some.inj hf; exact hK)
                      · have hf := lh_ifF hf c57
                        refine lh_aload_n (q := 0) rfl rfl rfl ?_
                        refine lh_iload_n (q := 1) rfl rfl rfl ?_
                        refine lh_bdE hf (fun r58 e59 hf => ?_)
                        refine lh_cVi (N := m_Hr_readMeasure) (d := 5) (o := q) (As := [.int (I (1 + 4) 4)]) (st := []) rfl rfl v_Hr_readMeasure hq.1 rfl rfl rfl ⟨rfl, rfl⟩ rfl (t_Hr_readMeasure hG hS ha hq e59 ?_)
                        refine lh_if_eq rfl (fun c60 => ?_) (fun c60 => ?_)
                        · have hf := lh_ifT hf c60
                          refine lh_iconst rfl lh_k_0 ?_
                          exact lh_iret rfl rfl (by decide) (by obtain rfl := Option.some.inj hf; exact hK)
                        · have hf := lh_ifF hf c60
                          refine lh_iconst rfl lh_k_1 ?_
                          refine lh_goto rfl ?_
                          exact lh_iret rfl rfl (by decide) (by obtain rfl := Option.some.inj hf; exact hK)
                    · have hf := lh_ifF hf c54
                      by_cases c61 : (I (1 + 4) 4) = 10
                      · have hf := lh_ifT hf c61
                        refine lh_tsIn (q := 10) (tgt := 40) rfl (by rw [c61]; decide) (by decide) rfl rfl ?_
                        refine lh_aload_n (q := 0) rfl rfl rfl ?_
                        refine lh_iload_n (q := 1) rfl rfl rfl ?_
                        refine lh_bdE hf (fun r62 e63 hf => ?_)
                        refine lh_cVi (N := m_Hr_takeOnce) (d := 5) (o := q) (As := [.int (I (1 + 4) 4)]) (st := []) rfl rfl v_Hr_takeOnce hq.1 rfl rfl rfl ⟨rfl, rfl⟩ rfl (t_Hr_takeOnce hG hS ha hq e63 ?_)
                        refine lh_if_eq rfl (fun c64 => ?_) (fun c64 => ?_)
                        · have hf := lh_ifT hf c64
                          refine lh_iconst rfl lh_k_0 ?_
                          exact lh_iret rfl rfl (by decide) (by obtain rfl := Option.some.inj hf; exact hK)
                        · have hf := lh_ifF hf c64
                          refine lh_aload_n (q := 0) rfl rfl rfl ?_
                          refine lh_bdE hf (fun r65 e66 hf => ?_)
                          refine lh_cVi (N := m_Hr_readFellow) (d := 6) (o := q) (As := []) (st := []) rfl rfl v_Hr_readFellow hq.1 rfl rfl rfl ⟨rfl, rfl⟩ rfl (t_Hr_readFellow hG hS ha hq e66 ?_)
                          refine lh_if_eq rfl (fun c67 => ?_) (fun c67 => ?_)
                          · have hf := lh_ifT hf c67
                            refine lh_iconst rfl lh_k_0 ?_
                            exact lh_iret rfl rfl (by decide) (by obtain rfl := Option.some.inj hf; exact hK)
                          · have hf := lh_ifF hf c67
                            refine lh_iconst rfl lh_k_1 ?_
                            refine lh_goto rfl ?_
                            exact lh_iret rfl rfl (by decide) (by obtain rfl := Option.some.inj hf; exact hK)
                      · have hf := lh_ifF hf c61
                        by_cases c68 : (I (1 + 4) 4) = 11
                        · have hf := lh_ifT hf c68
                          refine lh_tsIn (q := 11) (tgt := 51) rfl (by rw [c68]; decide) (by decide) rfl rfl ?_
                          refine lh_aload_n (q := 0) rfl rfl rfl ?_
                          refine lh_getR4 rfl rfl hq.1 rfl hq.2.2.2.1 ?_
                          refine lh_getR4 rfl rfl (ha.1 0 _ rfl) rfl (ha.2 0 _ rfl) ?_
                          refine lh_bdE hf (fun r69 e70 hf => ?_)
                          refine lh_cVv (N := m_La_empty) (d := 0) (o := a + 1) (As := []) (st := []) rfl rfl v_La_empty (ha.1 1 _ rfl) rfl rfl rfl ⟨rfl, rfl⟩ rfl (t_La_empty hG hS ha e70 ?_)
                          refine lh_aload_n (q := 0) rfl rfl rfl ?_
                          refine lh_iload_n (q := 1) rfl rfl rfl ?_
                          refine lh_bdE hf (fun r71 e72 hf => ?_)
                          refine lh_cVi (N := m_Hr_takeOnce) (d := 5) (o := q) (As := [.int (I (1 + 4) 4)]) (st := []) rfl rfl v_Hr_takeOnce hq.1 rfl rfl rfl ⟨rfl, rfl⟩ rfl (t_Hr_takeOnce hG hS ha hq e72 ?_)
                          refine lh_if_eq rfl (fun c73 => ?_) (fun c73 => ?_)
                          · have hf := lh_ifT hf c73
                            refine lh_iconst rfl lh_k_0 ?_
                            exact lh_iret rfl rfl (by decide) (by obtain rfl := Option.some.inj hf; exact hK)
                          · have hf := lh_ifF hf c73
                            refine lh_aload_n (q := 0) rfl rfl rfl ?_
                            refine lh_getR4 rfl rfl hq.1 rfl hq.2.2.2.1 ?_
                            refine lh_getR4 rfl rfl (ha.1 0 _ rfl) rfl (ha.2 0 _ rfl) ?_
                            refine lh_aload_n (q := 0) rfl rfl rfl ?_
                            refine lh_getR4 rfl rfl hq.1 rfl hq.2.2.1 ?_
                            refine lh_iconst rfl lh_k_0 ?_
                            refine lh_iconst rfl lh_k_0 ?_
                            refine lh_bdE hf (fun r74 e75 hf => ?_)
                            refine lh_cVi (N := m_La_readLevel) (d := 50) (o := a + 1) (As := [.ref (1 + 4), .int 0, .int 0]) (st := []) rfl rfl v_La_readLevel (ha.1 1 _ rfl) rfl rfl rfl ⟨rfl, rfl⟩ rfl (t_Lag_La_readLevel hG hS ha e75 ?_)
                            refine lh_if_eq rfl (fun c76 => ?_) (fun c76 => ?_)
                            · have hf := lh_ifT hf c76
                              refine lh_iconst rfl lh_k_0 ?_
                              exact lh_iret rfl rfl (by decide) (by obtain rfl := Option.some.inj hf; exact hK)
                            · have hf := lh_ifF hf c76
                              refine lh_iconst rfl lh_k_1 ?_
                              refine lh_goto rfl ?_
                              exact lh_iret rfl rfl (by decide) (by obtain rfl := Option.some.inj hf; exact hK)
                        · have hf := lh_ifF hf c68
                          refine lh_tsOut (tgt := 84) rfl (by have q0 := lv_neT c1 (a := 0) (by decide); have q1 := lv_neT c8 (a := 1) (by decide); have q2 := lv_neT c14 (a := 2) (by decide); have q3 := lv_neT c21 (a := 3) (by decide); have q4 := lv_neT c25 (a := 4) (by decide); have q5 := lv_neT c29 (a := 5) (by decide); have q6 := lv_neT c36 (a := 6) (by decide); have q7 := lv_neT c40 (a := 7) (by decide); have q8 := lv_neT c47 (a := 8) (by decide); have q9 := lv_neT c54 (a := 9) (by decide); have q10 := lv_neT c61 (a := 10) (by decide); have q11 := lv_neT c68 (a := 11) (by decide); omega) rfl ?_
                          refine lh_aload_n (q := 0) rfl rfl rfl ?_
                          refine lh_getR4 rfl rfl hq.1 rfl hq.2.2.1 ?_
                          refine lh_iconst rfl lh_k_1 ?_
                          refine lh_bdE hf (fun r77 e78 hf => ?_)
                          refine lh_cVi (N := m_Re_refuse) (d := 0) (o := 1) (As := [.int 1]) (st := []) rfl rfl v_Re_refuse (hS.1 1 _ rfl) rfl rfl rfl ⟨rfl, rfl⟩ rfl (t_Re_refuse hG hS e78 ?_)
                          obtain ⟨g79, hf⟩ := lh_gdE hf
                          exact lh_iret rfl rfl (lh_z_nar g79) (by obtain rfl := Option.some.inj hf; exact hK)
def f_Hr_readLines_8 (a : Nat) (q : Nat) : Nat → Int32 → lh_II → lh_LL → Option (lh_II × lh_LL)
  | 0, _, _, _ => none
  | n + 1, v1, I, L => if 1000 < v1 then some (I, L) else lh_bd (f_Re_isAtEnd I) fun r6 => if r6 = 0 then lh_bd (f_Hr_readLine a q I L) fun r9 => if r9.1 = 0 then f_Hr_readLines_8 a q n (v1 + 1) r9.2.1 r9.2.2 else lh_bd (f_Re_take (36 : Int32) r9.2.1 r9.2.2) fun r12 => f_Hr_readLines_8 a q n (v1 + 1) r12.2.1 r12.2.2 else some (I, L)
def f_Hr_readLines (a : Nat) (q : Nat) (I : lh_II) (L : lh_LL) : Option (Int32 × lh_II × lh_LL) := lh_bd (f_Ha_clear a I) fun r1 => lh_bd (f_Re_begin r1 L) fun r3 => lh_bd (f_Hr_readLines_8 a q lh_fuel 0 r3.1 r3.2) fun r14 => lh_bd (f_Re_finish r14.1) fun r16 => some (r16.1, r16.2, r14.2)
theorem t_Hr_readLines_8 {Γ : lh_Cx} {F : lh_FF} {S : lh_SS} {Z : List Frame → Array Value → State → State → Prop} (hG : lh_GX Γ) (hS : lh_lay F S) {a : Nat} (ha : lh_hl F S a) {q : Nat} (hq : lh_ql F S q a)  : ∀ (n : Nat) (v1 : Int32) (I : lh_II) (L : lh_LL) (o : lh_II × lh_LL), f_Hr_readLines_8 a q n v1 I L = some o → ∀ (x0_ : lh_G Γ m_Hr_readLines (lh_R 61 0 0) Z 0 0 25 [(0, .ref (q + 4))] [] (o.1, o.2, F, S)), lh_G Γ m_Hr_readLines (lh_R 61 0 0) Z 0 0 8 [(0, .ref (q + 4)), (1, .int v1)] [] (I, L, F, S) := by
  intro n
  induction n with
  | zero => intro v1 I L o hf; cases hf
  | succ n ih =>
    intro v1 I L o hf x0_
    rw [f_Hr_readLines_8] at hf
    refine lh_iload_n (q := 1) rfl rfl rfl ?_
    refine lh_sipush rfl lh_s_1000 ?_
    refine lh_icmp_gt rfl (fun c5 => ?_) (fun c5 => ?_)
    · have hf := lh_ifT hf c5
      exact lh_less [0] rfl (by cases hf; exact x0_)
    · have hf := lh_ifF hf c5
      refine lh_aload_n (q := 0) rfl rfl rfl ?_
      refine lh_getR4 rfl rfl hq.1 rfl hq.2.2.1 ?_
      refine lh_bdE hf (fun r6 e7 hf => ?_)
      refine lh_cVi (N := m_Re_isAtEnd) (d := 0) (o := 1) (As := []) (st := []) rfl rfl v_Re_isAtEnd (hS.1 1 _ rfl) rfl rfl rfl ⟨rfl, rfl⟩ rfl (t_Re_isAtEnd hG hS e7 ?_)
      refine lh_if_ne rfl (fun c8 => ?_) (fun c8 => ?_)
      · have hf := lh_ifF hf c8
        exact lh_less [0] rfl (by cases hf; exact x0_)
      · have hf := lh_ifT hf c8
        refine lh_aload_n (q := 0) rfl rfl rfl ?_
        refine lh_bdE hf (fun r9 e10 hf => ?_)
        refine lh_cVi (N := m_Hr_readLine) (d := 60) (o := q) (As := []) (st := []) rfl rfl v_Hr_readLine hq.1 rfl rfl rfl ⟨rfl, rfl⟩ rfl (t_Hr_readLine hG hS ha hq e10 ?_)
        refine lh_if_eq rfl (fun c11 => ?_) (fun c11 => ?_)
        · have hf := lh_ifT hf c11
          refine lh_iinc (q := 1) (v := (v1 + 1)) (lv' := [(0, .ref (q + 4)), (1, .int (v1 + 1))]) rfl rfl (congrArg (v1 + ·) (by decide)) rfl rfl ?_
          refine lh_goto rfl ?_
          exact ih (v1 + 1) r9.2.1 r9.2.2 _ hf x0_
        · have hf := lh_ifF hf c11
          refine lh_aload_n (q := 0) rfl rfl rfl ?_
          refine lh_getR4 rfl rfl hq.1 rfl hq.2.2.1 ?_
          refine lh_bipush rfl lh_b_36 ?_
          refine lh_bdE hf (fun r12 e13 hf => ?_)
          refine lh_cVi (N := m_Re_take) (d := 5) (o := 1) (As := [.int 36]) (st := []) rfl rfl v_Re_take (hS.1 1 _ rfl) rfl rfl rfl ⟨rfl, rfl⟩ rfl (t_Re_take hG hS e13 ?_)
          refine lh_pop rfl rfl ?_
          refine lh_iinc (q := 1) (v := (v1 + 1)) (lv' := [(0, .ref (q + 4)), (1, .int (v1 + 1))]) rfl rfl (congrArg (v1 + ·) (by decide)) rfl rfl ?_
          refine lh_goto rfl ?_
          exact ih (v1 + 1) r12.2.1 r12.2.2 _ hf x0_
theorem t_Hr_readLines {Γ : lh_Cx} {I : lh_II} {L : lh_LL} {F : lh_FF} {S : lh_SS} {K : Int32 → lh_Hp → Prop} {r : Int32 × lh_II × lh_LL} (hG : lh_GX Γ) (hS : lh_lay F S) {a : Nat} (ha : lh_hl F S a) {q : Nat} (hq : lh_ql F S q a) (hf : f_Hr_readLines a q I L = some r) (hK : K r.1 (r.2.1, r.2.2, F, S)) : lh_Met Γ m_Hr_readLines 61 0 0 [.ref (q + 4)] (I, L, F, S) (lh_ki K) := by
  rw [f_Hr_readLines] at hf
  refine lh_ofG k_Hr_readLines [(0, .ref (q + 4))] rfl (Nat.le_of_ble_eq_true rfl) rfl ?_
  refine lh_aload_n (q := 0) rfl rfl rfl ?_
  refine lh_getR4 rfl rfl hq.1 rfl hq.2.2.2.1 ?_
  refine lh_bdE hf (fun r1 e2 hf => ?_)
  refine lh_cVv (N := m_Ha_clear) (d := 2) (o := a) (As := []) (st := []) rfl rfl v_Ha_clear (ha.1 0 _ rfl) rfl rfl rfl ⟨rfl, rfl⟩ rfl (t_Ha_clear hG hS ha e2 ?_)
  refine lh_aload_n (q := 0) rfl rfl rfl ?_
  refine lh_getR4 rfl rfl hq.1 rfl hq.2.2.1 ?_
  refine lh_bdE hf (fun r3 e4 hf => ?_)
  refine lh_cVv (N := m_Re_begin) (d := 5) (o := 1) (As := []) (st := []) rfl rfl v_Re_begin (hS.1 1 _ rfl) rfl rfl rfl ⟨rfl, rfl⟩ rfl (t_Re_begin hG hS e4 ?_)
  refine lh_iconst rfl lh_k_0 ?_
  refine lh_istore_n (lv' := [(0, .ref (q + 4)), (1, .int 0)]) rfl rfl rfl rfl ?_
  refine lh_bdE hf (fun r14 e15 hf => ?_)
  refine t_Hr_readLines_8 hG hS ha hq _ 0 r3.1 r3.2 _ e15 ?_
  refine lh_aload_n (q := 0) rfl rfl rfl ?_
  refine lh_getR4 rfl rfl hq.1 rfl hq.2.2.1 ?_
  refine lh_bdE hf (fun r16 e17 hf => ?_)
  refine lh_cVi (N := m_Re_finish) (d := 0) (o := 1) (As := []) (st := []) rfl rfl v_Re_finish (hS.1 1 _ rfl) rfl rfl rfl ⟨rfl, rfl⟩ rfl (t_Re_finish hG hS e17 ?_)
  exact lh_iret rfl rfl rfl (by obtain rfl := Option.some.inj hf; exact hK)
