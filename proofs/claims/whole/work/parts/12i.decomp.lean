/-! decompiled by program: f_.. the functions, t_.. that the methods do as they say -/
def f_LH_say (a : Nat) (b : Nat) (x1 : Int32) (x2 : Int32) (x3 : Int32) (I : lh_II) : Option (Int32 × lh_II) := lh_bd (f_LH_isHour x1) fun r1 => if r1 = 0 then some (0, I) else lh_bd (f_Ha_hasCell a x2 I) fun r4 => if r4 = 0 then some (0, I) else if (I (0 + 4) 12) < 8 then lh_bd (f_Ha_daysWithSomebody a x1 x2 (lh_u2 I (0 + 4) 12 ((I (0 + 4) 12) + 1))) fun r8 => if x3 = 0 then some (1, lh_u2 (lh_u2 I (0 + 4) 12 ((I (0 + 4) 12) + 1)) (0 + 4) 13 (((lh_u2 I (0 + 4) 12 ((I (0 + 4) 12) + 1)) (0 + 4) 13) &&& (r8 ^^^ (-1)))) else some (1, lh_u2 (lh_u2 I (0 + 4) 12 ((I (0 + 4) 12) + 1)) (0 + 4) 13 (((lh_u2 I (0 + 4) 12 ((I (0 + 4) 12) + 1)) (0 + 4) 13) &&& r8)) else some (0, I)
theorem t_LH_say {Γ : lh_Cx} {I : lh_II} {L : lh_LL} {F : lh_FF} {S : lh_SS} {K : Int32 → lh_Hp → Prop} {r : Int32 × lh_II} (hG : lh_GX Γ) (hS : lh_lay F S) {a : Nat} (ha : lh_hl F S a) (hA : F (0 + 4) 6 = a + 4) {b : Nat} (hb : lh_nl F S b) (hB : F (0 + 4) 8 = b + 4) {x1 : Int32} {x2 : Int32} {x3 : Int32} (hf : f_LH_say a b x1 x2 x3 I = some r) (hK : K r.1 (r.2, L, F, S)) : lh_Met Γ m_LH_say 3 0 0 [.ref (0 + 4), .int x1, .int x2, .int x3] (I, L, F, S) (lh_ki K) := by
  rw [f_LH_say] at hf
  refine lh_ofG k_LH_say [(0, .ref (0 + 4)), (1, .int x1), (2, .int x2), (3, .int x3)] rfl (Nat.le_of_ble_eq_true rfl) rfl ?_
  refine lh_iload_n (q := 1) rfl rfl rfl ?_
  refine lh_bdE hf (fun r1 e2 hf => ?_)
  refine lh_cSi (N := m_LH_isHour) (d := 0) (As := [.int x1]) (st := []) rfl rfl v_LH_isHour rfl rfl ⟨rfl, rfl⟩ rfl (t_LH_isHour hG hS e2 ?_)
  refine lh_if_eq rfl (fun c3 => ?_) (fun c3 => ?_)
  · have hf := lh_ifT hf c3
    refine lh_iconst rfl lh_k_0 ?_
    exact lh_iret rfl rfl (by decide) (by obtain rfl := Option.some.inj hf; exact hK)
  · have hf := lh_ifF hf c3
    refine lh_aload_n (q := 0) rfl rfl rfl ?_
    refine lh_getR4 rfl rfl (hS.1 0 _ rfl) rfl hA ?_
    refine lh_iload_n (q := 2) rfl rfl rfl ?_
    refine lh_bdE hf (fun r4 e5 hf => ?_)
    refine lh_cVi (N := m_Ha_hasCell) (d := 0) (o := a) (As := [.int x2]) (st := []) rfl rfl v_Ha_hasCell (ha.1 0 _ rfl) rfl rfl rfl ⟨rfl, rfl⟩ rfl (t_Ha_hasCell hG hS ha e5 ?_)
    refine lh_if_eq rfl (fun c6 => ?_) (fun c6 => ?_)
    · have hf := lh_ifT hf c6
      refine lh_iconst rfl lh_k_0 ?_
      exact lh_iret rfl rfl (by decide) (by obtain rfl := Option.some.inj hf; exact hK)
    · have hf := lh_ifF hf c6
      refine lh_aload_n (q := 0) rfl rfl rfl ?_
      refine lh_getI4 rfl rfl (hS.1 0 _ rfl) rfl ?_
      refine lh_bipush rfl lh_b_8 ?_
      refine lh_icmp_lt rfl (fun c7 => ?_) (fun c7 => ?_)
      · have hf := lh_ifT hf c7
        refine lh_aload_n (q := 0) rfl rfl rfl ?_
        refine lh_dup rfl rfl ?_
        refine lh_getI4 rfl rfl (hS.1 0 _ rfl) rfl ?_
        refine lh_iconst rfl lh_k_1 ?_
        refine lh_iadd rfl ?_
        refine lh_putI4 rfl rfl (hS.1 0 _ rfl) rfl rfl ?_
        refine lh_aload_n (q := 0) rfl rfl rfl ?_
        refine lh_getR4 rfl rfl (hS.1 0 _ rfl) rfl hA ?_
        refine lh_iload_n (q := 1) rfl rfl rfl ?_
        refine lh_iload_n (q := 2) rfl rfl rfl ?_
        refine lh_bdE hf (fun r8 e9 hf => ?_)
        refine lh_cVi (N := m_Ha_daysWithSomebody) (d := 2) (o := a) (As := [.int x1, .int x2]) (st := []) rfl rfl v_Ha_daysWithSomebody (ha.1 0 _ rfl) rfl rfl rfl ⟨rfl, rfl⟩ rfl (t_Ha_daysWithSomebody hG hS ha e9 ?_)
        refine lh_istore (lv' := [(0, .ref (0 + 4)), (1, .int x1), (2, .int x2), (3, .int x3), (4, .int r8)]) rfl rfl rfl ?_
        refine lh_aload_n (q := 0) rfl rfl rfl ?_
        refine lh_dup rfl rfl ?_
        refine lh_getI4 rfl rfl (hS.1 0 _ rfl) rfl ?_
        refine lh_iload_n (q := 3) rfl rfl rfl ?_
        refine lh_if_eq rfl (fun c10 => ?_) (fun c10 => ?_)
        · have hf := lh_ifT hf c10
          refine lh_iload (q := 4) rfl rfl ?_
          refine lh_iconst rfl lh_k_m1 ?_
          refine lh_ixor rfl ?_
          refine lh_iand rfl ?_
          refine lh_putI4 rfl rfl (hS.1 0 _ rfl) rfl rfl ?_
          refine lh_iconst rfl lh_k_1 ?_
          exact lh_iret rfl rfl (by decide) (by obtain rfl := Option.some.inj hf; exact hK)
        · have hf := lh_ifF hf c10
          refine lh_iload (q := 4) rfl rfl ?_
          refine lh_goto rfl ?_
          refine lh_iand rfl ?_
          refine lh_putI4 rfl rfl (hS.1 0 _ rfl) rfl rfl ?_
          refine lh_iconst rfl lh_k_1 ?_
          exact lh_iret rfl rfl (by decide) (by obtain rfl := Option.some.inj hf; exact hK)
      · have hf := lh_ifF hf c7
        refine lh_iconst rfl lh_k_0 ?_
        exact lh_iret rfl rfl (by decide) (by obtain rfl := Option.some.inj hf; exact hK)
def f_LH_sees (a : Nat) (b : Nat) (I : lh_II) : Option (Int32 × lh_II) := lh_bd (f_Ha_seenBy a 7 I) fun r1 => some (r1.1, r1.2)
theorem t_LH_sees {Γ : lh_Cx} {I : lh_II} {L : lh_LL} {F : lh_FF} {S : lh_SS} {K : Int32 → lh_Hp → Prop} {r : Int32 × lh_II} (hG : lh_GX Γ) (hS : lh_lay F S) {a : Nat} (ha : lh_hl F S a) (hA : F (0 + 4) 6 = a + 4) {b : Nat} (hb : lh_nl F S b) (hB : F (0 + 4) 8 = b + 4) (hf : f_LH_sees a b I = some r) (hK : K r.1 (r.2, L, F, S)) : lh_Met Γ m_LH_sees 5 0 0 [.ref (0 + 4)] (I, L, F, S) (lh_ki K) := by
  rw [f_LH_sees] at hf
  refine lh_ofG k_LH_sees [(0, .ref (0 + 4))] rfl (Nat.le_of_ble_eq_true rfl) rfl ?_
  refine lh_aload_n (q := 0) rfl rfl rfl ?_
  refine lh_getR4 rfl rfl (hS.1 0 _ rfl) rfl hA ?_
  refine lh_aload_n (q := 0) rfl rfl rfl ?_
  refine lh_getR4 rfl rfl (hS.1 0 _ rfl) rfl (hS.2 25 _ rfl) ?_
  refine lh_bdE hf (fun r1 e2 hf => ?_)
  refine lh_cVi (N := m_Ha_seenBy) (d := 4) (o := a) (As := [.ref (7 + 4)]) (st := []) rfl rfl v_Ha_seenBy (ha.1 0 _ rfl) rfl rfl rfl ⟨rfl, rfl⟩ rfl (t_Ha_seenBy hG hS ha (hS.1 7 _ rfl) e2 ?_)
  exact lh_iret rfl rfl rfl (by obtain rfl := Option.some.inj hf; exact hK)
def f_Wa_isReached_2 (v1 : Int64) (L : lh_LL) : Nat → Int32 → Option (Nat)
  | 0, _ => none
  | n + 1, v3 => if 12 ≤ v3 then some 1 else lh_gd (lh_ix v3 12) (if (lg_cmp ((L (5 + 4) v3.toNatClampNeg) &&& v1) (0 : Int64)) = 0 then f_Wa_isReached_2 v1 L n (v3 + 1) else some 0)
def f_Wa_isReached (x1 : Int64) (L : lh_LL) : Option (Int32) := lh_bd (f_Wa_isReached_2 x1 L lh_fuel 0) fun r4 => if r4 = 0 then some 1 else some 0
theorem t_Wa_isReached_2 {Γ : lh_Cx} {F : lh_FF} {S : lh_SS} {Z : List Frame → Array Value → State → State → Prop} (hG : lh_GX Γ) (hS : lh_lay F S)  {v1 : Int64} {I : lh_II} {L : lh_LL} : ∀ (n : Nat) (v3 : Int32) (o : Nat), f_Wa_isReached_2 v1 L n v3 = some o → ∀ (x0_ : o = 0 → lh_G Γ m_Wa_isReached (lh_R 0 0 0) Z 0 0 14 [] [] (I, L, F, S)), ∀ (x1_ : o = 1 → lh_G Γ m_Wa_isReached (lh_R 0 0 0) Z 0 0 18 [] [] (I, L, F, S)), lh_G Γ m_Wa_isReached (lh_R 0 0 0) Z 0 0 2 [(0, .ref (4 + 4)), (1, .long v1), (3, .int v3)] [] (I, L, F, S) := by
  intro n
  induction n with
  | zero => intro v3 o hf; cases hf
  | succ n ih =>
    intro v3 o hf x0_ x1_
    rw [f_Wa_isReached_2] at hf
    refine lh_iload_n (q := 2) rfl rfl rfl ?_
    refine lh_bipush rfl lh_b_12 ?_
    refine lh_icmp_ge rfl (fun c1 => ?_) (fun c1 => ?_)
    · have hf := lh_ifT hf c1
      exact lh_less [] rfl (by cases hf; exact x1_ rfl)
    · have hf := lh_ifF hf c1
      refine lh_aload_n (q := 0) rfl rfl rfl ?_
      refine lh_getR4 rfl rfl (hS.1 4 _ rfl) rfl (hS.2 2 _ rfl) ?_
      refine lh_iload_n (q := 2) rfl rfl rfl ?_
      obtain ⟨g2, hf⟩ := lh_gdE hf
      refine lh_lald4 rfl (hS.1 5 _ rfl) g2 ?_
      refine lh_lload_n (q := 1) rfl rfl rfl ?_
      refine lh_land rfl ?_
      refine lh_lconst (v := 0) rfl (by decide) ?_
      refine lh_lcmp rfl ?_
      refine lh_if_eq rfl (fun c3 => ?_) (fun c3 => ?_)
      · have hf := lh_ifT hf c3
        refine lh_iinc (q := 2) (v := (v3 + 1)) (lv' := [(0, .ref (4 + 4)), (1, .long v1), (3, .int (v3 + 1))]) rfl rfl (congrArg (v3 + ·) (by decide)) rfl rfl ?_
        refine lh_goto rfl ?_
        exact ih (v3 + 1) _ hf x0_ x1_
      · have hf := lh_ifF hf c3
        exact lh_less [] rfl (by cases hf; exact x0_ rfl)
theorem t_Wa_isReached {Γ : lh_Cx} {I : lh_II} {L : lh_LL} {F : lh_FF} {S : lh_SS} {K : Int32 → lh_Hp → Prop} {r : Int32} (hG : lh_GX Γ) (hS : lh_lay F S)  {x1 : Int64} (hf : f_Wa_isReached x1 L = some r) (hK : K r (I, L, F, S)) : lh_Met Γ m_Wa_isReached 0 0 0 [.ref (4 + 4), .long x1] (I, L, F, S) (lh_ki K) := by
  rw [f_Wa_isReached] at hf
  refine lh_ofG k_Wa_isReached [(0, .ref (4 + 4)), (1, .long x1)] rfl (Nat.le_of_ble_eq_true rfl) rfl ?_
  refine lh_iconst rfl lh_k_0 ?_
  refine lh_istore_n (lv' := [(0, .ref (4 + 4)), (1, .long x1), (3, .int 0)]) rfl rfl rfl rfl ?_
  refine lh_bdE hf (fun r4 e5 hf => ?_)
  refine t_Wa_isReached_2 hG hS  _ 0 _ e5 (fun q0_ => ?_) (fun q1_ => ?_)
  · have hf := lh_ifT hf q0_
    refine lh_iconst rfl lh_k_1 ?_
    exact lh_iret rfl rfl (by decide) (by obtain rfl := Option.some.inj hf; exact hK)
  · have hf := lh_ifF hf (by rw [q1_]; decide)
    refine lh_iconst rfl lh_k_0 ?_
    exact lh_iret rfl rfl (by decide) (by obtain rfl := Option.some.inj hf; exact hK)
def f_LH_shown (a : Nat) (b : Nat) (x1 : Int32) (I : lh_II) : Option (Int32 × lh_II) := lh_bd (f_Ha_hasCell a x1 I) fun r1 => if r1 = 0 then some ((-1), I) else lh_bd (f_Ha_litBy a 7 I) fun r4 => if ((r4 >>> (x1 &&& 31)) &&& 1) = 0 then some ((-1), I) else lh_bd (f_La_dayShown a (I (7 + 4) 2) (I (7 + 4) 3) (if 0 ≤ (x1 - (I (7 + 4) 0)) then (x1 - (I (7 + 4) 0)) else 0 - (x1 - (I (7 + 4) 0))) (I (7 + 4) 1) I) fun r7 => some (r7.1, r7.2)
theorem t_LH_shown {Γ : lh_Cx} {I : lh_II} {L : lh_LL} {F : lh_FF} {S : lh_SS} {K : Int32 → lh_Hp → Prop} {r : Int32 × lh_II} (hG : lh_GX Γ) (hS : lh_lay F S) {a : Nat} (ha : lh_hl F S a) (hA : F (0 + 4) 6 = a + 4) {b : Nat} (hb : lh_nl F S b) (hB : F (0 + 4) 8 = b + 4) {x1 : Int32} (hf : f_LH_shown a b x1 I = some r) (hK : K r.1 (r.2, L, F, S)) : lh_Met Γ m_LH_shown 3 0 0 [.ref (0 + 4), .int x1] (I, L, F, S) (lh_ki K) := by
  rw [f_LH_shown] at hf
  refine lh_ofG k_LH_shown [(0, .ref (0 + 4)), (1, .int x1)] rfl (Nat.le_of_ble_eq_true rfl) rfl ?_
  refine lh_aload_n (q := 0) rfl rfl rfl ?_
  refine lh_getR4 rfl rfl (hS.1 0 _ rfl) rfl hA ?_
  refine lh_iload_n (q := 1) rfl rfl rfl ?_
  refine lh_bdE hf (fun r1 e2 hf => ?_)
  refine lh_cVi (N := m_Ha_hasCell) (d := 0) (o := a) (As := [.int x1]) (st := []) rfl rfl v_Ha_hasCell (ha.1 0 _ rfl) rfl rfl rfl ⟨rfl, rfl⟩ rfl (t_Ha_hasCell hG hS ha e2 ?_)
  refine lh_if_eq rfl (fun c3 => ?_) (fun c3 => ?_)
  · have hf := lh_ifT hf c3
    refine lh_iconst rfl lh_k_m1 ?_
    exact lh_iret rfl rfl rfl (by obtain rfl := Option.some.inj hf; exact hK)
  · have hf := lh_ifF hf c3
    refine lh_aload_n (q := 0) rfl rfl rfl ?_
    refine lh_getR4 rfl rfl (hS.1 0 _ rfl) rfl hA ?_
    refine lh_aload_n (q := 0) rfl rfl rfl ?_
    refine lh_getR4 rfl rfl (hS.1 0 _ rfl) rfl (hS.2 25 _ rfl) ?_
    refine lh_bdE hf (fun r4 e5 hf => ?_)
    refine lh_cVi (N := m_Ha_litBy) (d := 2) (o := a) (As := [.ref (7 + 4)]) (st := []) rfl rfl v_Ha_litBy (ha.1 0 _ rfl) rfl rfl rfl ⟨rfl, rfl⟩ rfl (t_Ha_litBy hG hS ha (hS.1 7 _ rfl) e5 ?_)
    refine lh_iload_n (q := 1) rfl rfl rfl ?_
    refine lh_ishr rfl ?_
    refine lh_iconst rfl lh_k_1 ?_
    refine lh_iand rfl ?_
    refine lh_if_ne rfl (fun c6 => ?_) (fun c6 => ?_)
    · have hf := lh_ifF hf c6
      refine lh_aload_n (q := 0) rfl rfl rfl ?_
      refine lh_getR4 rfl rfl (hS.1 0 _ rfl) rfl hA ?_
      refine lh_getR4 rfl rfl (ha.1 0 _ rfl) rfl (ha.2 0 _ rfl) ?_
      refine lh_aload_n (q := 0) rfl rfl rfl ?_
      refine lh_getR4 rfl rfl (hS.1 0 _ rfl) rfl (hS.2 25 _ rfl) ?_
      refine lh_getI4 rfl rfl (hS.1 7 _ rfl) rfl ?_
      refine lh_aload_n (q := 0) rfl rfl rfl ?_
      refine lh_getR4 rfl rfl (hS.1 0 _ rfl) rfl (hS.2 25 _ rfl) ?_
      refine lh_getI4 rfl rfl (hS.1 7 _ rfl) rfl ?_
      refine lh_iload_n (q := 1) rfl rfl rfl ?_
      refine lh_aload_n (q := 0) rfl rfl rfl ?_
      refine lh_getR4 rfl rfl (hS.1 0 _ rfl) rfl (hS.2 25 _ rfl) ?_
      refine lh_getI4 rfl rfl (hS.1 7 _ rfl) rfl ?_
      refine lh_isub rfl ?_
      refine lh_abs rfl rfl ⟨rfl, rfl⟩ rfl ?_
      refine lh_aload_n (q := 0) rfl rfl rfl ?_
      refine lh_getR4 rfl rfl (hS.1 0 _ rfl) rfl (hS.2 25 _ rfl) ?_
      refine lh_getI4 rfl rfl (hS.1 7 _ rfl) rfl ?_
      refine lh_bdE hf (fun r7 e8 hf => ?_)
      refine lh_cVi (N := m_La_dayShown) (d := 1) (o := a + 1) (As := [.int (I (7 + 4) 2), .int (I (7 + 4) 3), .int (if 0 ≤ (x1 - (I (7 + 4) 0)) then (x1 - (I (7 + 4) 0)) else 0 - (x1 - (I (7 + 4) 0))), .int (I (7 + 4) 1)]) (st := []) rfl rfl v_La_dayShown (ha.1 1 _ rfl) rfl rfl rfl ⟨rfl, rfl⟩ rfl (t_La_dayShown hG hS ha e8 ?_)
      exact lh_iret rfl rfl rfl (by obtain rfl := Option.some.inj hf; exact hK)
    · have hf := lh_ifT hf c6
      refine lh_iconst rfl lh_k_m1 ?_
      exact lh_iret rfl rfl rfl (by obtain rfl := Option.some.inj hf; exact hK)
def f_LH_step (a : Nat) (b : Nat) (x1 : Int32) (I : lh_II) : Option (Int32 × lh_II) := lh_bd (f_LH_isWay x1) fun r1 => if r1 = 0 then some ((-1), I) else lh_bd (f_LH_remember a b I) fun r4 => lh_bd (f_Ha_walk a 7 x1 r4) fun r6 => some (r6.1, r6.2)
theorem t_LH_step {Γ : lh_Cx} {I : lh_II} {L : lh_LL} {F : lh_FF} {S : lh_SS} {K : Int32 → lh_Hp → Prop} {r : Int32 × lh_II} (hG : lh_GX Γ) (hS : lh_lay F S) {a : Nat} (ha : lh_hl F S a) (hA : F (0 + 4) 6 = a + 4) {b : Nat} (hb : lh_nl F S b) (hB : F (0 + 4) 8 = b + 4) {x1 : Int32} (hf : f_LH_step a b x1 I = some r) (hK : K r.1 (r.2, L, F, S)) : lh_Met Γ m_LH_step 6 0 0 [.ref (0 + 4), .int x1] (I, L, F, S) (lh_ki K) := by
  rw [f_LH_step] at hf
  refine lh_ofG k_LH_step [(0, .ref (0 + 4)), (1, .int x1)] rfl (Nat.le_of_ble_eq_true rfl) rfl ?_
  refine lh_iload_n (q := 1) rfl rfl rfl ?_
  refine lh_bdE hf (fun r1 e2 hf => ?_)
  refine lh_cSi (N := m_LH_isWay) (d := 0) (As := [.int x1]) (st := []) rfl rfl v_LH_isWay rfl rfl ⟨rfl, rfl⟩ rfl (t_LH_isWay hG hS e2 ?_)
  refine lh_if_ne rfl (fun c3 => ?_) (fun c3 => ?_)
  · have hf := lh_ifF hf c3
    refine lh_aload_n (q := 0) rfl rfl rfl ?_
    refine lh_bdE hf (fun r4 e5 hf => ?_)
    refine lh_cVv (N := m_LH_remember) (d := 1) (o := 0) (As := []) (st := []) rfl rfl v_LH_remember (hS.1 0 _ rfl) rfl rfl rfl ⟨rfl, rfl⟩ rfl (t_LH_remember hG hS ha hA hb hB e5 ?_)
    refine lh_aload_n (q := 0) rfl rfl rfl ?_
    refine lh_getR4 rfl rfl (hS.1 0 _ rfl) rfl hA ?_
    refine lh_aload_n (q := 0) rfl rfl rfl ?_
    refine lh_getR4 rfl rfl (hS.1 0 _ rfl) rfl (hS.2 25 _ rfl) ?_
    refine lh_iload_n (q := 1) rfl rfl rfl ?_
    refine lh_bdE hf (fun r6 e7 hf => ?_)
    refine lh_cVi (N := m_Ha_walk) (d := 5) (o := a) (As := [.ref (7 + 4), .int x1]) (st := []) rfl rfl v_Ha_walk (ha.1 0 _ rfl) rfl rfl rfl ⟨rfl, rfl⟩ rfl (t_Ha_walk hG hS ha (hS.1 7 _ rfl) e7 ?_)
    exact lh_iret rfl rfl rfl (by obtain rfl := Option.some.inj hf; exact hK)
  · have hf := lh_ifT hf c3
    refine lh_iconst rfl lh_k_m1 ?_
    exact lh_iret rfl rfl rfl (by obtain rfl := Option.some.inj hf; exact hK)
def f_LH_taken (a : Nat) (b : Nat) (x1 : Int32) (x2 : Int32) (x3 : Int32) (I : lh_II) : Option (Int32) := lh_bd (f_Ha_hasVase a x1 I) fun r1 => if r1 = 0 then some (-1) else lh_bd (f_LH_isDay x2) fun r4 => if r4 = 0 then some (-1) else if x3 < 0 then some (-1) else if x3 ≤ 1 then lh_bd (f_Ha_hourTaken a x1 x2 I) fun r9 => if x3 = 0 then some r9 else if r9 = (-1) then some r9 else lh_gd (lh_ix x1 4) (lh_bd (f_Ha_firstThiefIn a (I (a + 8 + 4) x1.toNatClampNeg) x2 r9 I) fun r14 => some r14) else some (-1)
theorem t_LH_taken {Γ : lh_Cx} {I : lh_II} {L : lh_LL} {F : lh_FF} {S : lh_SS} {K : Int32 → lh_Hp → Prop} {r : Int32} (hG : lh_GX Γ) (hS : lh_lay F S) {a : Nat} (ha : lh_hl F S a) (hA : F (0 + 4) 6 = a + 4) {b : Nat} (hb : lh_nl F S b) (hB : F (0 + 4) 8 = b + 4) {x1 : Int32} {x2 : Int32} {x3 : Int32} (hf : f_LH_taken a b x1 x2 x3 I = some r) (hK : K r (I, L, F, S)) : lh_Met Γ m_LH_taken 4 0 0 [.ref (0 + 4), .int x1, .int x2, .int x3] (I, L, F, S) (lh_ki K) := by
  rw [f_LH_taken] at hf
  refine lh_ofG k_LH_taken [(0, .ref (0 + 4)), (1, .int x1), (2, .int x2), (3, .int x3)] rfl (Nat.le_of_ble_eq_true rfl) rfl ?_
  refine lh_aload_n (q := 0) rfl rfl rfl ?_
  refine lh_getR4 rfl rfl (hS.1 0 _ rfl) rfl hA ?_
  refine lh_iload_n (q := 1) rfl rfl rfl ?_
  refine lh_bdE hf (fun r1 e2 hf => ?_)
  refine lh_cVi (N := m_Ha_hasVase) (d := 0) (o := a) (As := [.int x1]) (st := []) rfl rfl v_Ha_hasVase (ha.1 0 _ rfl) rfl rfl rfl ⟨rfl, rfl⟩ rfl (t_Ha_hasVase hG hS ha e2 ?_)
  refine lh_if_eq rfl (fun c3 => ?_) (fun c3 => ?_)
  · have hf := lh_ifT hf c3
    refine lh_iconst rfl lh_k_m1 ?_
    exact lh_iret rfl rfl rfl (by obtain rfl := Option.some.inj hf; exact hK)
  · have hf := lh_ifF hf c3
    refine lh_iload_n (q := 2) rfl rfl rfl ?_
    refine lh_bdE hf (fun r4 e5 hf => ?_)
    refine lh_cSi (N := m_LH_isDay) (d := 0) (As := [.int x2]) (st := []) rfl rfl v_LH_isDay rfl rfl ⟨rfl, rfl⟩ rfl (t_LH_isDay hG hS e5 ?_)
    refine lh_if_eq rfl (fun c6 => ?_) (fun c6 => ?_)
    · have hf := lh_ifT hf c6
      refine lh_iconst rfl lh_k_m1 ?_
      exact lh_iret rfl rfl rfl (by obtain rfl := Option.some.inj hf; exact hK)
    · have hf := lh_ifF hf c6
      refine lh_iload_n (q := 3) rfl rfl rfl ?_
      refine lh_if_lt rfl (fun c7 => ?_) (fun c7 => ?_)
      · have hf := lh_ifT hf c7
        refine lh_iconst rfl lh_k_m1 ?_
        exact lh_iret rfl rfl rfl (by obtain rfl := Option.some.inj hf; exact hK)
      · have hf := lh_ifF hf c7
        refine lh_iload_n (q := 3) rfl rfl rfl ?_
        refine lh_iconst rfl lh_k_1 ?_
        refine lh_icmp_le rfl (fun c8 => ?_) (fun c8 => ?_)
        · have hf := lh_ifT hf c8
          refine lh_aload_n (q := 0) rfl rfl rfl ?_
          refine lh_getR4 rfl rfl (hS.1 0 _ rfl) rfl hA ?_
          refine lh_iload_n (q := 1) rfl rfl rfl ?_
          refine lh_iload_n (q := 2) rfl rfl rfl ?_
          refine lh_bdE hf (fun r9 e10 hf => ?_)
          refine lh_cVi (N := m_Ha_hourTaken) (d := 3) (o := a) (As := [.int x1, .int x2]) (st := []) rfl rfl v_Ha_hourTaken (ha.1 0 _ rfl) rfl rfl rfl ⟨rfl, rfl⟩ rfl (t_Ha_hourTaken hG hS ha e10 ?_)
          refine lh_istore (lv' := [(0, .ref (0 + 4)), (1, .int x1), (2, .int x2), (3, .int x3), (4, .int r9)]) rfl rfl rfl ?_
          refine lh_iload_n (q := 3) rfl rfl rfl ?_
          refine lh_if_eq rfl (fun c11 => ?_) (fun c11 => ?_)
          · have hf := lh_ifT hf c11
            refine lh_iload (q := 4) rfl rfl ?_
            refine lh_goto rfl ?_
            exact lh_iret rfl rfl rfl (by obtain rfl := Option.some.inj hf; exact hK)
          · have hf := lh_ifF hf c11
            refine lh_iload (q := 4) rfl rfl ?_
            refine lh_iconst rfl lh_k_m1 ?_
            refine lh_icmp_ne rfl (fun c12 => ?_) (fun c12 => ?_)
            · have hf := lh_ifF hf c12
              refine lh_aload_n (q := 0) rfl rfl rfl ?_
              refine lh_getR4 rfl rfl (hS.1 0 _ rfl) rfl hA ?_
              refine lh_aload_n (q := 0) rfl rfl rfl ?_
              refine lh_getR4 rfl rfl (hS.1 0 _ rfl) rfl hA ?_
              refine lh_getR4 rfl rfl (ha.1 0 _ rfl) rfl (ha.2 7 _ rfl) ?_
              refine lh_iload_n (q := 1) rfl rfl rfl ?_
              obtain ⟨g13, hf⟩ := lh_gdE hf
              refine lh_iald4 rfl (ha.1 8 _ rfl) g13 ?_
              refine lh_iload_n (q := 2) rfl rfl rfl ?_
              refine lh_iload (q := 4) rfl rfl ?_
              refine lh_bdE hf (fun r14 e15 hf => ?_)
              refine lh_cVi (N := m_Ha_firstThiefIn) (d := 2) (o := a) (As := [.int (I (a + 8 + 4) x1.toNatClampNeg), .int x2, .int r9]) (st := []) rfl rfl v_Ha_firstThiefIn (ha.1 0 _ rfl) rfl rfl rfl ⟨rfl, rfl⟩ rfl (t_Ha_firstThiefIn hG hS ha e15 ?_)
              exact lh_iret rfl rfl rfl (by obtain rfl := Option.some.inj hf; exact hK)
            · have hf := lh_ifT hf c12
              refine lh_iload (q := 4) rfl rfl ?_
              refine lh_goto rfl ?_
              exact lh_iret rfl rfl rfl (by obtain rfl := Option.some.inj hf; exact hK)
        · have hf := lh_ifF hf c8
          refine lh_iconst rfl lh_k_m1 ?_
          exact lh_iret rfl rfl rfl (by obtain rfl := Option.some.inj hf; exact hK)
def f_LH_treasures (a : Nat) (b : Nat) (I : lh_II) : Option (Int32 × lh_II) := lh_bd (f_Ha_vasesSeenBy a 7 I) fun r1 => some (r1.1, r1.2)
theorem t_LH_treasures {Γ : lh_Cx} {I : lh_II} {L : lh_LL} {F : lh_FF} {S : lh_SS} {K : Int32 → lh_Hp → Prop} {r : Int32 × lh_II} (hG : lh_GX Γ) (hS : lh_lay F S) {a : Nat} (ha : lh_hl F S a) (hA : F (0 + 4) 6 = a + 4) {b : Nat} (hb : lh_nl F S b) (hB : F (0 + 4) 8 = b + 4) (hf : f_LH_treasures a b I = some r) (hK : K r.1 (r.2, L, F, S)) : lh_Met Γ m_LH_treasures 5 0 0 [.ref (0 + 4)] (I, L, F, S) (lh_ki K) := by
  rw [f_LH_treasures] at hf
  refine lh_ofG k_LH_treasures [(0, .ref (0 + 4))] rfl (Nat.le_of_ble_eq_true rfl) rfl ?_
  refine lh_aload_n (q := 0) rfl rfl rfl ?_
  refine lh_getR4 rfl rfl (hS.1 0 _ rfl) rfl hA ?_
  refine lh_aload_n (q := 0) rfl rfl rfl ?_
  refine lh_getR4 rfl rfl (hS.1 0 _ rfl) rfl (hS.2 25 _ rfl) ?_
  refine lh_bdE hf (fun r1 e2 hf => ?_)
  refine lh_cVi (N := m_Ha_vasesSeenBy) (d := 4) (o := a) (As := [.ref (7 + 4)]) (st := []) rfl rfl v_Ha_vasesSeenBy (ha.1 0 _ rfl) rfl rfl rfl ⟨rfl, rfl⟩ rfl (t_Ha_vasesSeenBy hG hS ha (hS.1 7 _ rfl) e2 ?_)
  exact lh_iret rfl rfl rfl (by obtain rfl := Option.some.inj hf; exact hK)
def f_LH_trim (a : Nat) (b : Nat) (x1 : Int32) (I : lh_II) : Option (Int32 × lh_II) := lh_bd (f_LH_isDay x1) fun r1 => if r1 = 0 then some ((-1), I) else if 2 ≤ (I (7 + 4) 3) then lh_bd (f_LH_remember a b I) fun r5 => lh_bd (f_Mo_trimTo 7 x1 r5) fun r7 => some ((r7 (7 + 4) 3), r7) else some ((-1), I)
theorem t_LH_trim {Γ : lh_Cx} {I : lh_II} {L : lh_LL} {F : lh_FF} {S : lh_SS} {K : Int32 → lh_Hp → Prop} {r : Int32 × lh_II} (hG : lh_GX Γ) (hS : lh_lay F S) {a : Nat} (ha : lh_hl F S a) (hA : F (0 + 4) 6 = a + 4) {b : Nat} (hb : lh_nl F S b) (hB : F (0 + 4) 8 = b + 4) {x1 : Int32} (hf : f_LH_trim a b x1 I = some r) (hK : K r.1 (r.2, L, F, S)) : lh_Met Γ m_LH_trim 2 0 0 [.ref (0 + 4), .int x1] (I, L, F, S) (lh_ki K) := by
  rw [f_LH_trim] at hf
  refine lh_ofG k_LH_trim [(0, .ref (0 + 4)), (1, .int x1)] rfl (Nat.le_of_ble_eq_true rfl) rfl ?_
  refine lh_iload_n (q := 1) rfl rfl rfl ?_
  refine lh_bdE hf (fun r1 e2 hf => ?_)
  refine lh_cSi (N := m_LH_isDay) (d := 0) (As := [.int x1]) (st := []) rfl rfl v_LH_isDay rfl rfl ⟨rfl, rfl⟩ rfl (t_LH_isDay hG hS e2 ?_)
  refine lh_if_eq rfl (fun c3 => ?_) (fun c3 => ?_)
  · have hf := lh_ifT hf c3
    refine lh_iconst rfl lh_k_m1 ?_
    exact lh_iret rfl rfl rfl (by obtain rfl := Option.some.inj hf; exact hK)
  · have hf := lh_ifF hf c3
    refine lh_aload_n (q := 0) rfl rfl rfl ?_
    refine lh_getR4 rfl rfl (hS.1 0 _ rfl) rfl (hS.2 25 _ rfl) ?_
    refine lh_getI4 rfl rfl (hS.1 7 _ rfl) rfl ?_
    refine lh_iconst rfl lh_k_2 ?_
    refine lh_icmp_ge rfl (fun c4 => ?_) (fun c4 => ?_)
    · have hf := lh_ifT hf c4
      refine lh_aload_n (q := 0) rfl rfl rfl ?_
      refine lh_bdE hf (fun r5 e6 hf => ?_)
      refine lh_cVv (N := m_LH_remember) (d := 1) (o := 0) (As := []) (st := []) rfl rfl v_LH_remember (hS.1 0 _ rfl) rfl rfl rfl ⟨rfl, rfl⟩ rfl (t_LH_remember hG hS ha hA hb hB e6 ?_)
      refine lh_aload_n (q := 0) rfl rfl rfl ?_
      refine lh_getR4 rfl rfl (hS.1 0 _ rfl) rfl (hS.2 25 _ rfl) ?_
      refine lh_iload_n (q := 1) rfl rfl rfl ?_
      refine lh_bdE hf (fun r7 e8 hf => ?_)
      refine lh_cVv (N := m_Mo_trimTo) (d := 0) (o := 7) (As := [.int x1]) (st := []) rfl rfl v_Mo_trimTo (hS.1 7 _ rfl) rfl rfl rfl ⟨rfl, rfl⟩ rfl (t_Mo_trimTo hG hS (hS.1 7 _ rfl) e8 ?_)
      refine lh_aload_n (q := 0) rfl rfl rfl ?_
      refine lh_getR4 rfl rfl (hS.1 0 _ rfl) rfl (hS.2 25 _ rfl) ?_
      refine lh_getI4 rfl rfl (hS.1 7 _ rfl) rfl ?_
      exact lh_iret rfl rfl rfl (by obtain rfl := Option.some.inj hf; exact hK)
    · have hf := lh_ifF hf c4
      refine lh_iconst rfl lh_k_m1 ?_
      exact lh_iret rfl rfl rfl (by obtain rfl := Option.some.inj hf; exact hK)
def f_LH_undo (a : Nat) (b : Nat) (I : lh_II) : Option (Int32 × lh_II) := if (I (0 + 4) 11) = 0 then some (0, I) else lh_gd (lh_ix ((lh_u2 (lh_u2 I (0 + 4) 10 ((((I (0 + 4) 10) + 16) - 1) - (((I (0 + 4) 10) + 16) - 1) / 16 * 16)) (0 + 4) 11 (((lh_u2 I (0 + 4) 10 ((((I (0 + 4) 10) + 16) - 1) - (((I (0 + 4) 10) + 16) - 1) / 16 * 16)) (0 + 4) 11) - 1)) (0 + 4) 10) 16) (lh_bd (f_Mo_become 7 (41 + ((lh_u2 (lh_u2 I (0 + 4) 10 ((((I (0 + 4) 10) + 16) - 1) - (((I (0 + 4) 10) + 16) - 1) / 16 * 16)) (0 + 4) 11 (((lh_u2 I (0 + 4) 10 ((((I (0 + 4) 10) + 16) - 1) - (((I (0 + 4) 10) + 16) - 1) / 16 * 16)) (0 + 4) 11) - 1)) (0 + 4) 10).toNatClampNeg) (lh_u2 (lh_u2 I (0 + 4) 10 ((((I (0 + 4) 10) + 16) - 1) - (((I (0 + 4) 10) + 16) - 1) / 16 * 16)) (0 + 4) 11 (((lh_u2 I (0 + 4) 10 ((((I (0 + 4) 10) + 16) - 1) - (((I (0 + 4) 10) + 16) - 1) / 16 * 16)) (0 + 4) 11) - 1))) fun r3 => some (1, r3))
theorem t_LH_undo {Γ : lh_Cx} {I : lh_II} {L : lh_LL} {F : lh_FF} {S : lh_SS} {K : Int32 → lh_Hp → Prop} {r : Int32 × lh_II} (hG : lh_GX Γ) (hS : lh_lay F S) {a : Nat} (ha : lh_hl F S a) (hA : F (0 + 4) 6 = a + 4) {b : Nat} (hb : lh_nl F S b) (hB : F (0 + 4) 8 = b + 4) (hf : f_LH_undo a b I = some r) (hK : K r.1 (r.2, L, F, S)) : lh_Met Γ m_LH_undo 1 0 0 [.ref (0 + 4)] (I, L, F, S) (lh_ki K) := by
  rw [f_LH_undo] at hf
  refine lh_ofG k_LH_undo [(0, .ref (0 + 4))] rfl (Nat.le_of_ble_eq_true rfl) rfl ?_
  refine lh_aload_n (q := 0) rfl rfl rfl ?_
  refine lh_getI4 rfl rfl (hS.1 0 _ rfl) rfl ?_
  refine lh_if_ne rfl (fun c1 => ?_) (fun c1 => ?_)
  · have hf := lh_ifF hf c1
    refine lh_aload_n (q := 0) rfl rfl rfl ?_
    refine lh_aload_n (q := 0) rfl rfl rfl ?_
    refine lh_getI4 rfl rfl (hS.1 0 _ rfl) rfl ?_
    refine lh_bipush rfl lh_b_16 ?_
    refine lh_iadd rfl ?_
    refine lh_iconst rfl lh_k_1 ?_
    refine lh_isub rfl ?_
    refine lh_bipush rfl lh_b_16 ?_
    refine lh_irem rfl (by decide) ?_
    refine lh_putI4 rfl rfl (hS.1 0 _ rfl) rfl rfl ?_
    refine lh_aload_n (q := 0) rfl rfl rfl ?_
    refine lh_dup rfl rfl ?_
    refine lh_getI4 rfl rfl (hS.1 0 _ rfl) rfl ?_
    refine lh_iconst rfl lh_k_1 ?_
    refine lh_isub rfl ?_
    refine lh_putI4 rfl rfl (hS.1 0 _ rfl) rfl rfl ?_
    refine lh_aload_n (q := 0) rfl rfl rfl ?_
    refine lh_getR4 rfl rfl (hS.1 0 _ rfl) rfl (hS.2 25 _ rfl) ?_
    refine lh_aload_n (q := 0) rfl rfl rfl ?_
    refine lh_getR4 rfl rfl (hS.1 0 _ rfl) rfl (hS.2 27 _ rfl) ?_
    refine lh_aload_n (q := 0) rfl rfl rfl ?_
    refine lh_getI4 rfl rfl (hS.1 0 _ rfl) rfl ?_
    obtain ⟨g2, hf⟩ := lh_gdE hf
    refine lh_aaload4 rfl (hS.1 9 _ rfl) (lh_ix_in g2) (lh_pastF hS g2) ?_
    refine lh_bdE hf (fun r3 e4 hf => ?_)
    refine lh_cVv (N := m_Mo_become) (d := 0) (o := 7) (As := [.ref (41 + ((lh_u2 (lh_u2 I (0 + 4) 10 ((((I (0 + 4) 10) + 16) - 1) - (((I (0 + 4) 10) + 16) - 1) / 16 * 16)) (0 + 4) 11 (((lh_u2 I (0 + 4) 10 ((((I (0 + 4) 10) + 16) - 1) - (((I (0 + 4) 10) + 16) - 1) / 16 * 16)) (0 + 4) 11) - 1)) (0 + 4) 10).toNatClampNeg + 4)]) (st := []) rfl rfl v_Mo_become (hS.1 7 _ rfl) rfl rfl rfl ⟨rfl, rfl⟩ rfl (t_Mo_become hG hS (hS.1 7 _ rfl) (lh_pastS hS g2) e4 ?_)
    refine lh_iconst rfl lh_k_1 ?_
    exact lh_iret rfl rfl (by decide) (by obtain rfl := Option.some.inj hf; exact hK)
  · have hf := lh_ifT hf c1
    refine lh_iconst rfl lh_k_0 ?_
    exact lh_iret rfl rfl (by decide) (by obtain rfl := Option.some.inj hf; exact hK)
def f_LH_vase (a : Nat) (b : Nat) (x1 : Int32) (x2 : Int32) (I : lh_II) : Option (Int32 × lh_II) := lh_bd (f_Ha_hasVase a x1 I) fun r1 => if r1 = 0 then some ((-2), I) else if x2 = 0 then lh_gd (lh_ix x1 4) (some ((I (a + 8 + 4) x1.toNatClampNeg), I)) else if x2 = 1 then lh_bd (f_Ha_vasesSeenBy a 7 I) fun r7 => some (((r7.1 >>> (x1 &&& 31)) &&& 1), r7.2) else some ((-2), I)
theorem t_LH_vase {Γ : lh_Cx} {I : lh_II} {L : lh_LL} {F : lh_FF} {S : lh_SS} {K : Int32 → lh_Hp → Prop} {r : Int32 × lh_II} (hG : lh_GX Γ) (hS : lh_lay F S) {a : Nat} (ha : lh_hl F S a) (hA : F (0 + 4) 6 = a + 4) {b : Nat} (hb : lh_nl F S b) (hB : F (0 + 4) 8 = b + 4) {x1 : Int32} {x2 : Int32} (hf : f_LH_vase a b x1 x2 I = some r) (hK : K r.1 (r.2, L, F, S)) : lh_Met Γ m_LH_vase 5 0 0 [.ref (0 + 4), .int x1, .int x2] (I, L, F, S) (lh_ki K) := by
  rw [f_LH_vase] at hf
  refine lh_ofG k_LH_vase [(0, .ref (0 + 4)), (1, .int x1), (2, .int x2)] rfl (Nat.le_of_ble_eq_true rfl) rfl ?_
  refine lh_aload_n (q := 0) rfl rfl rfl ?_
  refine lh_getR4 rfl rfl (hS.1 0 _ rfl) rfl hA ?_
  refine lh_iload_n (q := 1) rfl rfl rfl ?_
  refine lh_bdE hf (fun r1 e2 hf => ?_)
  refine lh_cVi (N := m_Ha_hasVase) (d := 0) (o := a) (As := [.int x1]) (st := []) rfl rfl v_Ha_hasVase (ha.1 0 _ rfl) rfl rfl rfl ⟨rfl, rfl⟩ rfl (t_Ha_hasVase hG hS ha e2 ?_)
  refine lh_if_ne rfl (fun c3 => ?_) (fun c3 => ?_)
  · have hf := lh_ifF hf c3
    refine lh_iload_n (q := 2) rfl rfl rfl ?_
    by_cases c4 : x2 = 0
    · have hf := lh_ifT hf c4
      refine lh_lsw (tgt := 9) (off := 25) rfl (by decide) (by rw [c4]; decide) rfl ?_
      refine lh_aload_n (q := 0) rfl rfl rfl ?_
      refine lh_getR4 rfl rfl (hS.1 0 _ rfl) rfl hA ?_
      refine lh_getR4 rfl rfl (ha.1 0 _ rfl) rfl (ha.2 7 _ rfl) ?_
      refine lh_iload_n (q := 1) rfl rfl rfl ?_
      obtain ⟨g5, hf⟩ := lh_gdE hf
      refine lh_iald4 rfl (ha.1 8 _ rfl) g5 ?_
      exact lh_iret rfl rfl rfl (by obtain rfl := Option.some.inj hf; exact hK)
    · have hf := lh_ifF hf c4
      by_cases c6 : x2 = 1
      · have hf := lh_ifT hf c6
        refine lh_lsw (tgt := 15) (off := 35) rfl (by decide) (by rw [c6]; decide) rfl ?_
        refine lh_aload_n (q := 0) rfl rfl rfl ?_
        refine lh_getR4 rfl rfl (hS.1 0 _ rfl) rfl hA ?_
        refine lh_aload_n (q := 0) rfl rfl rfl ?_
        refine lh_getR4 rfl rfl (hS.1 0 _ rfl) rfl (hS.2 25 _ rfl) ?_
        refine lh_bdE hf (fun r7 e8 hf => ?_)
        refine lh_cVi (N := m_Ha_vasesSeenBy) (d := 4) (o := a) (As := [.ref (7 + 4)]) (st := []) rfl rfl v_Ha_vasesSeenBy (ha.1 0 _ rfl) rfl rfl rfl ⟨rfl, rfl⟩ rfl (t_Ha_vasesSeenBy hG hS ha (hS.1 7 _ rfl) e8 ?_)
        refine lh_iload_n (q := 1) rfl rfl rfl ?_
        refine lh_ishr rfl ?_
        refine lh_iconst rfl lh_k_1 ?_
        refine lh_iand rfl ?_
        exact lh_iret rfl rfl rfl (by obtain rfl := Option.some.inj hf; exact hK)
      · have hf := lh_ifF hf c6
        refine lh_lsw (tgt := 25) (off := 51) rfl (by decide) (by show Op.lookupswitch.offset [(0, 25), (1, 35)] 51 _ = _; rw [lv_osw c4 (by decide)]; rw [lv_osw c6 (by decide)]; rfl) rfl ?_
        refine lh_bipush rfl lh_b_m2 ?_
        exact lh_iret rfl rfl rfl (by obtain rfl := Option.some.inj hf; exact hK)
  · have hf := lh_ifT hf c3
    refine lh_bipush rfl lh_b_m2 ?_
    exact lh_iret rfl rfl rfl (by obtain rfl := Option.some.inj hf; exact hK)
def f_LH_visitor (a : Nat) (b : Nat) (x1 : Int32) (x2 : Int32) (I : lh_II) : Option (Int32 × lh_II) := lh_bd (f_Ha_hasVisitor a x1 I) fun r1 => if r1 = 0 then some ((-2), I) else if x2 = 0 then lh_gd (lh_ix x1 6) (some ((I (a + 4 + 4) x1.toNatClampNeg), I)) else if x2 = 1 then lh_gd (lh_ix x1 6) (some ((I (a + 5 + 4) x1.toNatClampNeg), I)) else if x2 = 2 then lh_bd (f_Ha_placeOf a x1 (I (7 + 4) 1) I) fun r9 => some (r9, I) else if x2 = 3 then some ((((I (7 + 4) 6) >>> (x1 &&& 31)) &&& 1), I) else if x2 = 4 then lh_bd (f_Ha_seenBy a 7 I) fun r13 => some (((r13.1 >>> (x1 &&& 31)) &&& 1), r13.2) else some ((-2), I)
theorem t_LH_visitor {Γ : lh_Cx} {I : lh_II} {L : lh_LL} {F : lh_FF} {S : lh_SS} {K : Int32 → lh_Hp → Prop} {r : Int32 × lh_II} (hG : lh_GX Γ) (hS : lh_lay F S) {a : Nat} (ha : lh_hl F S a) (hA : F (0 + 4) 6 = a + 4) {b : Nat} (hb : lh_nl F S b) (hB : F (0 + 4) 8 = b + 4) {x1 : Int32} {x2 : Int32} (hf : f_LH_visitor a b x1 x2 I = some r) (hK : K r.1 (r.2, L, F, S)) : lh_Met Γ m_LH_visitor 5 0 0 [.ref (0 + 4), .int x1, .int x2] (I, L, F, S) (lh_ki K) := by
  rw [f_LH_visitor] at hf
  refine lh_ofG k_LH_visitor [(0, .ref (0 + 4)), (1, .int x1), (2, .int x2)] rfl (Nat.le_of_ble_eq_true rfl) rfl ?_
  refine lh_aload_n (q := 0) rfl rfl rfl ?_
  refine lh_getR4 rfl rfl (hS.1 0 _ rfl) rfl hA ?_
  refine lh_iload_n (q := 1) rfl rfl rfl ?_
  refine lh_bdE hf (fun r1 e2 hf => ?_)
  refine lh_cVi (N := m_Ha_hasVisitor) (d := 0) (o := a) (As := [.int x1]) (st := []) rfl rfl v_Ha_hasVisitor (ha.1 0 _ rfl) rfl rfl rfl ⟨rfl, rfl⟩ rfl (t_Ha_hasVisitor hG hS ha e2 ?_)
  refine lh_if_ne rfl (fun c3 => ?_) (fun c3 => ?_)
  · have hf := lh_ifF hf c3
    refine lh_iload_n (q := 2) rfl rfl rfl ?_
    by_cases c4 : x2 = 0
    · have hf := lh_ifT hf c4
      refine lh_tsIn (q := 0) (tgt := 9) rfl (by rw [c4]; decide) (by decide) rfl rfl ?_
      refine lh_aload_n (q := 0) rfl rfl rfl ?_
      refine lh_getR4 rfl rfl (hS.1 0 _ rfl) rfl hA ?_
      refine lh_getR4 rfl rfl (ha.1 0 _ rfl) rfl (ha.2 3 _ rfl) ?_
      refine lh_iload_n (q := 1) rfl rfl rfl ?_
      obtain ⟨g5, hf⟩ := lh_gdE hf
      refine lh_iald4 rfl (ha.1 4 _ rfl) g5 ?_
      exact lh_iret rfl rfl rfl (by obtain rfl := Option.some.inj hf; exact hK)
    · have hf := lh_ifF hf c4
      by_cases c6 : x2 = 1
      · have hf := lh_ifT hf c6
        refine lh_tsIn (q := 1) (tgt := 15) rfl (by rw [c6]; decide) (by decide) rfl rfl ?_
        refine lh_aload_n (q := 0) rfl rfl rfl ?_
        refine lh_getR4 rfl rfl (hS.1 0 _ rfl) rfl hA ?_
        refine lh_getR4 rfl rfl (ha.1 0 _ rfl) rfl (ha.2 4 _ rfl) ?_
        refine lh_iload_n (q := 1) rfl rfl rfl ?_
        obtain ⟨g7, hf⟩ := lh_gdE hf
        refine lh_iald4 rfl (ha.1 5 _ rfl) g7 ?_
        exact lh_iret rfl rfl rfl (by obtain rfl := Option.some.inj hf; exact hK)
      · have hf := lh_ifF hf c6
        by_cases c8 : x2 = 2
        · have hf := lh_ifT hf c8
          refine lh_tsIn (q := 2) (tgt := 21) rfl (by rw [c8]; decide) (by decide) rfl rfl ?_
          refine lh_aload_n (q := 0) rfl rfl rfl ?_
          refine lh_getR4 rfl rfl (hS.1 0 _ rfl) rfl hA ?_
          refine lh_iload_n (q := 1) rfl rfl rfl ?_
          refine lh_aload_n (q := 0) rfl rfl rfl ?_
          refine lh_getR4 rfl rfl (hS.1 0 _ rfl) rfl (hS.2 25 _ rfl) ?_
          refine lh_getI4 rfl rfl (hS.1 7 _ rfl) rfl ?_
          refine lh_bdE hf (fun r9 e10 hf => ?_)
          refine lh_cVi (N := m_Ha_placeOf) (d := 1) (o := a) (As := [.int x1, .int (I (7 + 4) 1)]) (st := []) rfl rfl v_Ha_placeOf (ha.1 0 _ rfl) rfl rfl rfl ⟨rfl, rfl⟩ rfl (t_Ha_placeOf hG hS ha e10 ?_)
          exact lh_iret rfl rfl rfl (by obtain rfl := Option.some.inj hf; exact hK)
        · have hf := lh_ifF hf c8
          by_cases c11 : x2 = 3
          · have hf := lh_ifT hf c11
            refine lh_tsIn (q := 3) (tgt := 29) rfl (by rw [c11]; decide) (by decide) rfl rfl ?_
            refine lh_aload_n (q := 0) rfl rfl rfl ?_
            refine lh_getR4 rfl rfl (hS.1 0 _ rfl) rfl (hS.2 25 _ rfl) ?_
            refine lh_getI4 rfl rfl (hS.1 7 _ rfl) rfl ?_
            refine lh_iload_n (q := 1) rfl rfl rfl ?_
            refine lh_ishr rfl ?_
            refine lh_iconst rfl lh_k_1 ?_
            refine lh_iand rfl ?_
            exact lh_iret rfl rfl rfl (by obtain rfl := Option.some.inj hf; exact hK)
          · have hf := lh_ifF hf c11
            by_cases c12 : x2 = 4
            · have hf := lh_ifT hf c12
              refine lh_tsIn (q := 4) (tgt := 37) rfl (by rw [c12]; decide) (by decide) rfl rfl ?_
              refine lh_aload_n (q := 0) rfl rfl rfl ?_
              refine lh_getR4 rfl rfl (hS.1 0 _ rfl) rfl hA ?_
              refine lh_aload_n (q := 0) rfl rfl rfl ?_
              refine lh_getR4 rfl rfl (hS.1 0 _ rfl) rfl (hS.2 25 _ rfl) ?_
              refine lh_bdE hf (fun r13 e14 hf => ?_)
              refine lh_cVi (N := m_Ha_seenBy) (d := 4) (o := a) (As := [.ref (7 + 4)]) (st := []) rfl rfl v_Ha_seenBy (ha.1 0 _ rfl) rfl rfl rfl ⟨rfl, rfl⟩ rfl (t_Ha_seenBy hG hS ha (hS.1 7 _ rfl) e14 ?_)
              refine lh_iload_n (q := 1) rfl rfl rfl ?_
              refine lh_ishr rfl ?_
              refine lh_iconst rfl lh_k_1 ?_
              refine lh_iand rfl ?_
              exact lh_iret rfl rfl rfl (by obtain rfl := Option.some.inj hf; exact hK)
            · have hf := lh_ifF hf c12
              refine lh_tsOut (tgt := 47) rfl (by have q0 := lv_neT c4 (a := 0) (by decide); have q1 := lv_neT c6 (a := 1) (by decide); have q2 := lv_neT c8 (a := 2) (by decide); have q3 := lv_neT c11 (a := 3) (by decide); have q4 := lv_neT c12 (a := 4) (by decide); omega) rfl ?_
              refine lh_bipush rfl lh_b_m2 ?_
              exact lh_iret rfl rfl rfl (by obtain rfl := Option.some.inj hf; exact hK)
  · have hf := lh_ifT hf c3
    refine lh_bipush rfl lh_b_m2 ?_
    exact lh_iret rfl rfl rfl (by obtain rfl := Option.some.inj hf; exact hK)
def f_LH_wavers_13 (a : Nat) (b : Nat) (v1 : Int32) (I : lh_II) : Nat → Int32 → Int32 → Int32 → Option (Int32)
  | 0, _, _, _ => none
  | n + 1, v2, v3, v4 => if 8 ≤ v4 then some v2 else lh_bd (f_Ha_placeOf a v1 (v4 - 1) I) fun r5 => lh_bd (f_Ha_placeOf a v1 v4 I) fun r7 => if r5 = (-1) then f_LH_wavers_13 a b v1 I n v2 v3 (v4 + 1) else if r7 = (-1) then f_LH_wavers_13 a b v1 I n v2 v3 (v4 + 1) else lh_bd (f_Int_compare r7 r5) fun r11 => if r11 = 0 then f_LH_wavers_13 a b v1 I n v2 v3 (v4 + 1) else if r11 = (-v3) then f_LH_wavers_13 a b v1 I n (v2 + 1) r11 (v4 + 1) else f_LH_wavers_13 a b v1 I n (v2 + 0) r11 (v4 + 1)
def f_LH_wavers (a : Nat) (b : Nat) (x1 : Int32) (I : lh_II) : Option (Int32) := lh_bd (f_Ha_hasVisitor a x1 I) fun r1 => if r1 = 0 then some (-1) else lh_bd (f_LH_wavers_13 a b x1 I lh_fuel 0 0 1) fun r15 => some r15
theorem t_LH_wavers_13 {Γ : lh_Cx} {F : lh_FF} {S : lh_SS} {Z : List Frame → Array Value → State → State → Prop} (hG : lh_GX Γ) (hS : lh_lay F S) {a : Nat} (ha : lh_hl F S a) (hA : F (0 + 4) 6 = a + 4) {b : Nat} (hb : lh_nl F S b) (hB : F (0 + 4) 8 = b + 4) {v1 : Int32} {I : lh_II} {L : lh_LL} : ∀ (n : Nat) (v2 : Int32) (v3 : Int32) (v4 : Int32) (o : Int32), f_LH_wavers_13 a b v1 I n v2 v3 v4 = some o → ∀ (x0_ : lh_G Γ m_LH_wavers (lh_R 2 0 0) Z 0 0 58 [(2, .int o)] [] (I, L, F, S)), lh_G Γ m_LH_wavers (lh_R 2 0 0) Z 0 0 13 [(0, .ref (0 + 4)), (1, .int v1), (2, .int v2), (3, .int v3), (4, .int v4)] [] (I, L, F, S) := by
  intro n
  induction n with
  | zero => intro v2 v3 v4 o hf; cases hf
  | succ n ih =>
    intro v2 v3 v4 o hf x0_
    rw [f_LH_wavers_13] at hf
    refine lh_iload (q := 4) rfl rfl ?_
    refine lh_bipush rfl lh_b_8 ?_
    refine lh_icmp_ge rfl (fun c4 => ?_) (fun c4 => ?_)
    · have hf := lh_ifT hf c4
      exact lh_less [2] rfl (by cases hf; exact x0_)
    · have hf := lh_ifF hf c4
      refine lh_aload_n (q := 0) rfl rfl rfl ?_
      refine lh_getR4 rfl rfl (hS.1 0 _ rfl) rfl hA ?_
      refine lh_iload_n (q := 1) rfl rfl rfl ?_
      refine lh_iload (q := 4) rfl rfl ?_
      refine lh_iconst rfl lh_k_1 ?_
      refine lh_isub rfl ?_
      refine lh_bdE hf (fun r5 e6 hf => ?_)
      refine lh_cVi (N := m_Ha_placeOf) (d := 1) (o := a) (As := [.int v1, .int (v4 - 1)]) (st := []) rfl rfl v_Ha_placeOf (ha.1 0 _ rfl) rfl rfl rfl ⟨rfl, rfl⟩ rfl (t_Ha_placeOf hG hS ha e6 ?_)
      refine lh_istore (lv' := [(0, .ref (0 + 4)), (1, .int v1), (2, .int v2), (3, .int v3), (4, .int v4), (5, .int r5)]) rfl rfl rfl ?_
      refine lh_aload_n (q := 0) rfl rfl rfl ?_
      refine lh_getR4 rfl rfl (hS.1 0 _ rfl) rfl hA ?_
      refine lh_iload_n (q := 1) rfl rfl rfl ?_
      refine lh_iload (q := 4) rfl rfl ?_
      refine lh_bdE hf (fun r7 e8 hf => ?_)
      refine lh_cVi (N := m_Ha_placeOf) (d := 1) (o := a) (As := [.int v1, .int v4]) (st := []) rfl rfl v_Ha_placeOf (ha.1 0 _ rfl) rfl rfl rfl ⟨rfl, rfl⟩ rfl (t_Ha_placeOf hG hS ha e8 ?_)
      refine lh_istore (lv' := [(0, .ref (0 + 4)), (1, .int v1), (2, .int v2), (3, .int v3), (4, .int v4), (5, .int r5), (6, .int r7)]) rfl rfl rfl ?_
      refine lh_iload (q := 5) rfl rfl ?_
      refine lh_iconst rfl lh_k_m1 ?_
      refine lh_icmp_eq rfl (fun c9 => ?_) (fun c9 => ?_)
      · have hf := lh_ifT hf c9
        refine lh_iconst rfl lh_k_0 ?_
        refine lh_goto rfl ?_
        refine lh_istore (lv' := [(0, .ref (0 + 4)), (1, .int v1), (2, .int v2), (3, .int v3), (4, .int v4), (5, .int r5), (6, .int r7), (7, .int 0)]) rfl rfl rfl ?_
        refine lh_iload (q := 7) rfl rfl ?_
        refine lh_if_eq rfl (fun _ => ?_) (fun c => absurd (by decide) c) 
        refine lh_iinc (q := 4) (v := (v4 + 1)) (lv' := [(0, .ref (0 + 4)), (1, .int v1), (2, .int v2), (3, .int v3), (4, .int (v4 + 1)), (5, .int r5), (6, .int r7), (7, .int 0)]) rfl rfl (congrArg (v4 + ·) (by decide)) rfl rfl ?_
        refine lh_goto rfl ?_
        refine lh_less [0, 1, 2, 3, 4] rfl ?_
        exact ih v2 v3 (v4 + 1) _ hf x0_
      · have hf := lh_ifF hf c9
        refine lh_iload (q := 6) rfl rfl ?_
        refine lh_iconst rfl lh_k_m1 ?_
        refine lh_icmp_ne rfl (fun c10 => ?_) (fun c10 => ?_)
        · have hf := lh_ifF hf c10
          refine lh_iload (q := 6) rfl rfl ?_
          refine lh_iload (q := 5) rfl rfl ?_
          refine lh_bdE hf (fun r11 e12 hf => ?_)
          refine lh_cSi (N := m_Int_compare) (d := 0) (As := [.int r7, .int r5]) (st := []) rfl rfl v_Int_compare rfl rfl ⟨rfl, rfl⟩ rfl (t_Int_compare hG hS e12 ?_)
          refine lh_istore (lv' := [(0, .ref (0 + 4)), (1, .int v1), (2, .int v2), (3, .int v3), (4, .int v4), (5, .int r5), (6, .int r7), (7, .int r11)]) rfl rfl rfl ?_
          refine lh_iload (q := 7) rfl rfl ?_
          refine lh_if_eq rfl (fun c13 => ?_) (fun c13 => ?_)
          · have hf := lh_ifT hf c13
            refine lh_iinc (q := 4) (v := (v4 + 1)) (lv' := [(0, .ref (0 + 4)), (1, .int v1), (2, .int v2), (3, .int v3), (4, .int (v4 + 1)), (5, .int r5), (6, .int r7), (7, .int r11)]) rfl rfl (congrArg (v4 + ·) (by decide)) rfl rfl ?_
            refine lh_goto rfl ?_
            refine lh_less [0, 1, 2, 3, 4] rfl ?_
            exact ih v2 v3 (v4 + 1) _ hf x0_
          · have hf := lh_ifF hf c13
            refine lh_iload_n (q := 2) rfl rfl rfl ?_
            refine lh_iload (q := 7) rfl rfl ?_
            refine lh_iload_n (q := 3) rfl rfl rfl ?_
            refine lh_ineg rfl ?_
            refine lh_icmp_ne rfl (fun c14 => ?_) (fun c14 => ?_)
            · have hf := lh_ifF hf c14
              refine lh_iconst rfl lh_k_0 ?_
              refine lh_iadd rfl ?_
              refine lh_istore_n (lv' := [(0, .ref (0 + 4)), (1, .int v1), (2, .int (v2 + 0)), (3, .int v3), (4, .int v4), (5, .int r5), (6, .int r7), (7, .int r11)]) rfl rfl rfl rfl ?_
              refine lh_iload (q := 7) rfl rfl ?_
              refine lh_istore_n (lv' := [(0, .ref (0 + 4)), (1, .int v1), (2, .int (v2 + 0)), (3, .int r11), (4, .int v4), (5, .int r5), (6, .int r7), (7, .int r11)]) rfl rfl rfl rfl ?_
              refine lh_iinc (q := 4) (v := (v4 + 1)) (lv' := [(0, .ref (0 + 4)), (1, .int v1), (2, .int (v2 + 0)), (3, .int r11), (4, .int (v4 + 1)), (5, .int r5), (6, .int r7), (7, .int r11)]) rfl rfl (congrArg (v4 + ·) (by decide)) rfl rfl ?_
              refine lh_goto rfl ?_
              refine lh_less [0, 1, 2, 3, 4] rfl ?_
              exact ih (v2 + 0) r11 (v4 + 1) _ hf x0_
            · have hf := lh_ifT hf c14
              refine lh_iconst rfl lh_k_1 ?_
              refine lh_goto rfl ?_
              refine lh_iadd rfl ?_
              refine lh_istore_n (lv' := [(0, .ref (0 + 4)), (1, .int v1), (2, .int (v2 + 1)), (3, .int v3), (4, .int v4), (5, .int r5), (6, .int r7), (7, .int r11)]) rfl rfl rfl rfl ?_
              refine lh_iload (q := 7) rfl rfl ?_
              refine lh_istore_n (lv' := [(0, .ref (0 + 4)), (1, .int v1), (2, .int (v2 + 1)), (3, .int r11), (4, .int v4), (5, .int r5), (6, .int r7), (7, .int r11)]) rfl rfl rfl rfl ?_
              refine lh_iinc (q := 4) (v := (v4 + 1)) (lv' := [(0, .ref (0 + 4)), (1, .int v1), (2, .int (v2 + 1)), (3, .int r11), (4, .int (v4 + 1)), (5, .int r5), (6, .int r7), (7, .int r11)]) rfl rfl (congrArg (v4 + ·) (by decide)) rfl rfl ?_
              refine lh_goto rfl ?_
              refine lh_less [0, 1, 2, 3, 4] rfl ?_
              exact ih (v2 + 1) r11 (v4 + 1) _ hf x0_
        · have hf := lh_ifT hf c10
          refine lh_iconst rfl lh_k_0 ?_
          refine lh_goto rfl ?_
          refine lh_istore (lv' := [(0, .ref (0 + 4)), (1, .int v1), (2, .int v2), (3, .int v3), (4, .int v4), (5, .int r5), (6, .int r7), (7, .int 0)]) rfl rfl rfl ?_
          refine lh_iload (q := 7) rfl rfl ?_
          refine lh_if_eq rfl (fun _ => ?_) (fun c => absurd (by decide) c) 
          refine lh_iinc (q := 4) (v := (v4 + 1)) (lv' := [(0, .ref (0 + 4)), (1, .int v1), (2, .int v2), (3, .int v3), (4, .int (v4 + 1)), (5, .int r5), (6, .int r7), (7, .int 0)]) rfl rfl (congrArg (v4 + ·) (by decide)) rfl rfl ?_
          refine lh_goto rfl ?_
          refine lh_less [0, 1, 2, 3, 4] rfl ?_
          exact ih v2 v3 (v4 + 1) _ hf x0_
theorem t_LH_wavers {Γ : lh_Cx} {I : lh_II} {L : lh_LL} {F : lh_FF} {S : lh_SS} {K : Int32 → lh_Hp → Prop} {r : Int32} (hG : lh_GX Γ) (hS : lh_lay F S) {a : Nat} (ha : lh_hl F S a) (hA : F (0 + 4) 6 = a + 4) {b : Nat} (hb : lh_nl F S b) (hB : F (0 + 4) 8 = b + 4) {x1 : Int32} (hf : f_LH_wavers a b x1 I = some r) (hK : K r (I, L, F, S)) : lh_Met Γ m_LH_wavers 2 0 0 [.ref (0 + 4), .int x1] (I, L, F, S) (lh_ki K) := by
  rw [f_LH_wavers] at hf
  refine lh_ofG k_LH_wavers [(0, .ref (0 + 4)), (1, .int x1)] rfl (Nat.le_of_ble_eq_true rfl) rfl ?_
  refine lh_aload_n (q := 0) rfl rfl rfl ?_
  refine lh_getR4 rfl rfl (hS.1 0 _ rfl) rfl hA ?_
  refine lh_iload_n (q := 1) rfl rfl rfl ?_
  refine lh_bdE hf (fun r1 e2 hf => ?_)
  refine lh_cVi (N := m_Ha_hasVisitor) (d := 0) (o := a) (As := [.int x1]) (st := []) rfl rfl v_Ha_hasVisitor (ha.1 0 _ rfl) rfl rfl rfl ⟨rfl, rfl⟩ rfl (t_Ha_hasVisitor hG hS ha e2 ?_)
  refine lh_if_ne rfl (fun c3 => ?_) (fun c3 => ?_)
  · have hf := lh_ifF hf c3
    refine lh_iconst rfl lh_k_0 ?_
    refine lh_istore_n (lv' := [(0, .ref (0 + 4)), (1, .int x1), (2, .int 0)]) rfl rfl rfl rfl ?_
    refine lh_iconst rfl lh_k_0 ?_
    refine lh_istore_n (lv' := [(0, .ref (0 + 4)), (1, .int x1), (2, .int 0), (3, .int 0)]) rfl rfl rfl rfl ?_
    refine lh_iconst rfl lh_k_1 ?_
    refine lh_istore (lv' := [(0, .ref (0 + 4)), (1, .int x1), (2, .int 0), (3, .int 0), (4, .int 1)]) rfl rfl rfl ?_
    refine lh_bdE hf (fun r15 e16 hf => ?_)
    refine t_LH_wavers_13 hG hS ha hA hb hB _ 0 0 1 _ e16 ?_
    refine lh_iload_n (q := 0) rfl rfl rfl ?_
    exact lh_iret rfl rfl rfl (by obtain rfl := Option.some.inj hf; exact hK)
  · have hf := lh_ifT hf c3
    refine lh_iconst rfl lh_k_m1 ?_
    exact lh_iret rfl rfl rfl (by obtain rfl := Option.some.inj hf; exact hK)
def f_LH_would (a : Nat) (b : Nat) (x1 : Int32) (I : lh_II) : Option (Int32 × lh_II) := lh_bd (f_LH_isWay x1) fun r1 => if r1 = 0 then some ((-1), I) else lh_bd (f_Ha_bumpsOf a 7 x1 I) fun r4 => some (r4.1, r4.2)
theorem t_LH_would {Γ : lh_Cx} {I : lh_II} {L : lh_LL} {F : lh_FF} {S : lh_SS} {K : Int32 → lh_Hp → Prop} {r : Int32 × lh_II} (hG : lh_GX Γ) (hS : lh_lay F S) {a : Nat} (ha : lh_hl F S a) (hA : F (0 + 4) 6 = a + 4) {b : Nat} (hb : lh_nl F S b) (hB : F (0 + 4) 8 = b + 4) {x1 : Int32} (hf : f_LH_would a b x1 I = some r) (hK : K r.1 (r.2, L, F, S)) : lh_Met Γ m_LH_would 4 0 0 [.ref (0 + 4), .int x1] (I, L, F, S) (lh_ki K) := by
  rw [f_LH_would] at hf
  refine lh_ofG k_LH_would [(0, .ref (0 + 4)), (1, .int x1)] rfl (Nat.le_of_ble_eq_true rfl) rfl ?_
  refine lh_iload_n (q := 1) rfl rfl rfl ?_
  refine lh_bdE hf (fun r1 e2 hf => ?_)
  refine lh_cSi (N := m_LH_isWay) (d := 0) (As := [.int x1]) (st := []) rfl rfl v_LH_isWay rfl rfl ⟨rfl, rfl⟩ rfl (t_LH_isWay hG hS e2 ?_)
  refine lh_if_eq rfl (fun c3 => ?_) (fun c3 => ?_)
  · have hf := lh_ifT hf c3
    refine lh_iconst rfl lh_k_m1 ?_
    exact lh_iret rfl rfl rfl (by obtain rfl := Option.some.inj hf; exact hK)
  · have hf := lh_ifF hf c3
    refine lh_aload_n (q := 0) rfl rfl rfl ?_
    refine lh_getR4 rfl rfl (hS.1 0 _ rfl) rfl hA ?_
    refine lh_aload_n (q := 0) rfl rfl rfl ?_
    refine lh_getR4 rfl rfl (hS.1 0 _ rfl) rfl (hS.2 25 _ rfl) ?_
    refine lh_iload_n (q := 1) rfl rfl rfl ?_
    refine lh_bdE hf (fun r4 e5 hf => ?_)
    refine lh_cVi (N := m_Ha_bumpsOf) (d := 3) (o := a) (As := [.ref (7 + 4), .int x1]) (st := []) rfl rfl v_Ha_bumpsOf (ha.1 0 _ rfl) rfl rfl rfl ⟨rfl, rfl⟩ rfl (t_Ha_bumpsOf hG hS ha (hS.1 7 _ rfl) e5 ?_)
    refine lh_goto rfl ?_
    exact lh_iret rfl rfl rfl (by obtain rfl := Option.some.inj hf; exact hK)
