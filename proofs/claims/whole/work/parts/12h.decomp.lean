/-! decompiled by program: f_.. the functions, t_.. that the methods do as they say -/
def f_Ha_settle_18 (a : Nat) : Nat → Int32 → lh_II → Option (lh_II)
  | 0, _, _ => none
  | n + 1, v1, I => if (I (a + 4) 16) ≤ v1 then some I else if 8 ≤ v1 then some I else lh_gd (lh_ix v1 8) (lh_gd (lh_ix v1 8) (f_Ha_settle_18 a n (v1 + 1) (lh_u2 I (a + 9 + 4) v1.toNatClampNeg (if ((I (a + 4) 9) - 1) < (I (a + 9 + 4) v1.toNatClampNeg) then ((I (a + 4) 9) - 1) else (I (a + 9 + 4) v1.toNatClampNeg)))))
def f_Ha_settle_42 (a : Nat) : Nat → Int32 → lh_II → Option (lh_II)
  | 0, _, _ => none
  | n + 1, v1, I => if (I (a + 4) 12) ≤ v1 then some I else if 4 ≤ v1 then some I else lh_gd (lh_ix v1 4) (lh_bd (f_Ha_withinHall a (I (a + 8 + 4) v1.toNatClampNeg) I) fun r12 => lh_gd (lh_ix v1 4) (f_Ha_settle_42 a n (v1 + 1) (lh_u2 I (a + 8 + 4) v1.toNatClampNeg r12)))
def f_Ha_settle_63 (a : Nat) : Nat → Int32 → lh_II → Option (lh_II)
  | 0, _, _ => none
  | n + 1, v1, I => if (I (a + 4) 11) ≤ v1 then some I else if 6 ≤ v1 then some I else lh_bd (f_Ha_settleVisitor a v1 I) fun r19 => f_Ha_settle_63 a n (v1 + 1) r19
def f_Ha_settle_77 (a : Nat) : Nat → Int32 → lh_II → Option (lh_II)
  | 0, _, _ => none
  | n + 1, v1, I => if (I (a + 4) 9) ≤ v1 then some I else if 12 ≤ v1 then some I else lh_bd (f_Ha_lightAmong a v1 (I (a + 4) 10) I) fun r25 => lh_gd (lh_ix v1 12) (f_Ha_settle_77 a n (v1 + 1) (lh_u2 I (a + 10 + 4) v1.toNatClampNeg r25))
def f_Ha_settle (a : Nat) (I : lh_II) : Option (lh_II) := lh_bd (f_Ha_allCells a I) fun r1 => lh_bd (f_Ha_settle_18 a lh_fuel 0 (lh_u2 (lh_u2 I (a + 4) 10 ((I (a + 4) 10) &&& r1)) (a + 4) 15 (if (((lh_u2 I (a + 4) 10 ((I (a + 4) 10) &&& r1)) (a + 4) 9) - 1) < ((lh_u2 I (a + 4) 10 ((I (a + 4) 10) &&& r1)) (a + 4) 15) then (((lh_u2 I (a + 4) 10 ((I (a + 4) 10) &&& r1)) (a + 4) 9) - 1) else ((lh_u2 I (a + 4) 10 ((I (a + 4) 10) &&& r1)) (a + 4) 15)))) fun r7 => lh_bd (f_Ha_settle_42 a lh_fuel 0 r7) fun r15 => lh_bd (f_Ha_settle_63 a lh_fuel 0 r15) fun r21 => lh_bd (f_Ha_settle_77 a lh_fuel 0 r21) fun r28 => some r28
theorem t_Ha_settle_18 {Γ : lh_Cx} {F : lh_FF} {S : lh_SS} {Z : List Frame → Array Value → State → State → Prop} (hG : lh_GX Γ) (hS : lh_lay F S) {a : Nat} (ha : lh_hl F S a)  {L : lh_LL} : ∀ (n : Nat) (v1 : Int32) (I : lh_II) (o : lh_II), f_Ha_settle_18 a n v1 I = some o → ∀ (x0_ : lh_G Γ m_Ha_settle (lh_R 3 0 0) Z 0 0 40 [(0, .ref (a + 4))] [] (o, L, F, S)), lh_G Γ m_Ha_settle (lh_R 3 0 0) Z 0 0 18 [(0, .ref (a + 4)), (1, .int v1)] [] (I, L, F, S) := by
  intro n
  induction n with
  | zero => intro v1 I o hf; cases hf
  | succ n ih =>
    intro v1 I o hf x0_
    rw [f_Ha_settle_18] at hf
    refine lh_iload_n (q := 1) rfl rfl rfl ?_
    refine lh_aload_n (q := 0) rfl rfl rfl ?_
    refine lh_getI4 rfl rfl (ha.1 0 _ rfl) rfl ?_
    refine lh_icmp_ge rfl (fun c3 => ?_) (fun c3 => ?_)
    · have hf := lh_ifT hf c3
      exact lh_less [0] rfl (by cases hf; exact x0_)
    · have hf := lh_ifF hf c3
      refine lh_iload_n (q := 1) rfl rfl rfl ?_
      refine lh_bipush rfl lh_b_8 ?_
      refine lh_icmp_ge rfl (fun c4 => ?_) (fun c4 => ?_)
      · have hf := lh_ifT hf c4
        exact lh_less [0] rfl (by cases hf; exact x0_)
      · have hf := lh_ifF hf c4
        refine lh_aload_n (q := 0) rfl rfl rfl ?_
        refine lh_getR4 rfl rfl (ha.1 0 _ rfl) rfl (ha.2 8 _ rfl) ?_
        refine lh_iload_n (q := 1) rfl rfl rfl ?_
        refine lh_aload_n (q := 0) rfl rfl rfl ?_
        refine lh_getR4 rfl rfl (ha.1 0 _ rfl) rfl (ha.2 8 _ rfl) ?_
        refine lh_iload_n (q := 1) rfl rfl rfl ?_
        obtain ⟨g5, hf⟩ := lh_gdE hf
        refine lh_iald4 rfl (ha.1 9 _ rfl) g5 ?_
        refine lh_aload_n (q := 0) rfl rfl rfl ?_
        refine lh_getI4 rfl rfl (ha.1 0 _ rfl) rfl ?_
        refine lh_iconst rfl lh_k_1 ?_
        refine lh_isub rfl ?_
        refine lh_min rfl rfl ⟨rfl, rfl⟩ rfl ?_
        obtain ⟨g6, hf⟩ := lh_gdE hf
        refine lh_iast4 rfl (ha.1 9 _ rfl) g6 ?_
        refine lh_iinc (q := 1) (v := (v1 + 1)) (lv' := [(0, .ref (a + 4)), (1, .int (v1 + 1))]) rfl rfl (congrArg (v1 + ·) (by decide)) rfl rfl ?_
        refine lh_goto rfl ?_
        exact ih (v1 + 1) (lh_u2 I (a + 9 + 4) v1.toNatClampNeg (if ((I (a + 4) 9) - 1) < (I (a + 9 + 4) v1.toNatClampNeg) then ((I (a + 4) 9) - 1) else (I (a + 9 + 4) v1.toNatClampNeg))) _ hf x0_
theorem t_Ha_settle_42 {Γ : lh_Cx} {F : lh_FF} {S : lh_SS} {Z : List Frame → Array Value → State → State → Prop} (hG : lh_GX Γ) (hS : lh_lay F S) {a : Nat} (ha : lh_hl F S a)  {L : lh_LL} : ∀ (n : Nat) (v1 : Int32) (I : lh_II) (o : lh_II), f_Ha_settle_42 a n v1 I = some o → ∀ (x0_ : lh_G Γ m_Ha_settle (lh_R 3 0 0) Z 0 0 61 [(0, .ref (a + 4))] [] (o, L, F, S)), lh_G Γ m_Ha_settle (lh_R 3 0 0) Z 0 0 42 [(0, .ref (a + 4)), (1, .int v1)] [] (I, L, F, S) := by
  intro n
  induction n with
  | zero => intro v1 I o hf; cases hf
  | succ n ih =>
    intro v1 I o hf x0_
    rw [f_Ha_settle_42] at hf
    refine lh_iload_n (q := 1) rfl rfl rfl ?_
    refine lh_aload_n (q := 0) rfl rfl rfl ?_
    refine lh_getI4 rfl rfl (ha.1 0 _ rfl) rfl ?_
    refine lh_icmp_ge rfl (fun c9 => ?_) (fun c9 => ?_)
    · have hf := lh_ifT hf c9
      exact lh_less [0] rfl (by cases hf; exact x0_)
    · have hf := lh_ifF hf c9
      refine lh_iload_n (q := 1) rfl rfl rfl ?_
      refine lh_iconst rfl lh_k_4 ?_
      refine lh_icmp_ge rfl (fun c10 => ?_) (fun c10 => ?_)
      · have hf := lh_ifT hf c10
        exact lh_less [0] rfl (by cases hf; exact x0_)
      · have hf := lh_ifF hf c10
        refine lh_aload_n (q := 0) rfl rfl rfl ?_
        refine lh_getR4 rfl rfl (ha.1 0 _ rfl) rfl (ha.2 7 _ rfl) ?_
        refine lh_iload_n (q := 1) rfl rfl rfl ?_
        refine lh_aload_n (q := 0) rfl rfl rfl ?_
        refine lh_aload_n (q := 0) rfl rfl rfl ?_
        refine lh_getR4 rfl rfl (ha.1 0 _ rfl) rfl (ha.2 7 _ rfl) ?_
        refine lh_iload_n (q := 1) rfl rfl rfl ?_
        obtain ⟨g11, hf⟩ := lh_gdE hf
        refine lh_iald4 rfl (ha.1 8 _ rfl) g11 ?_
        refine lh_bdE hf (fun r12 e13 hf => ?_)
        refine lh_cVi (N := m_Ha_withinHall) (d := 1) (o := a) (As := [.int (I (a + 8 + 4) v1.toNatClampNeg)]) (st := [.int v1, .ref (a + 8 + 4)]) rfl rfl v_Ha_withinHall (ha.1 0 _ rfl) rfl rfl rfl ⟨rfl, rfl⟩ rfl (t_Ha_withinHall hG hS ha e13 ?_)
        obtain ⟨g14, hf⟩ := lh_gdE hf
        refine lh_iast4 rfl (ha.1 8 _ rfl) g14 ?_
        refine lh_iinc (q := 1) (v := (v1 + 1)) (lv' := [(0, .ref (a + 4)), (1, .int (v1 + 1))]) rfl rfl (congrArg (v1 + ·) (by decide)) rfl rfl ?_
        refine lh_goto rfl ?_
        exact ih (v1 + 1) (lh_u2 I (a + 8 + 4) v1.toNatClampNeg r12) _ hf x0_
theorem t_Ha_settle_63 {Γ : lh_Cx} {F : lh_FF} {S : lh_SS} {Z : List Frame → Array Value → State → State → Prop} (hG : lh_GX Γ) (hS : lh_lay F S) {a : Nat} (ha : lh_hl F S a)  {L : lh_LL} : ∀ (n : Nat) (v1 : Int32) (I : lh_II) (o : lh_II), f_Ha_settle_63 a n v1 I = some o → ∀ (x0_ : lh_G Γ m_Ha_settle (lh_R 3 0 0) Z 0 0 75 [(0, .ref (a + 4))] [] (o, L, F, S)), lh_G Γ m_Ha_settle (lh_R 3 0 0) Z 0 0 63 [(0, .ref (a + 4)), (1, .int v1)] [] (I, L, F, S) := by
  intro n
  induction n with
  | zero => intro v1 I o hf; cases hf
  | succ n ih =>
    intro v1 I o hf x0_
    rw [f_Ha_settle_63] at hf
    refine lh_iload_n (q := 1) rfl rfl rfl ?_
    refine lh_aload_n (q := 0) rfl rfl rfl ?_
    refine lh_getI4 rfl rfl (ha.1 0 _ rfl) rfl ?_
    refine lh_icmp_ge rfl (fun c17 => ?_) (fun c17 => ?_)
    · have hf := lh_ifT hf c17
      exact lh_less [0] rfl (by cases hf; exact x0_)
    · have hf := lh_ifF hf c17
      refine lh_iload_n (q := 1) rfl rfl rfl ?_
      refine lh_bipush rfl lh_b_6 ?_
      refine lh_icmp_ge rfl (fun c18 => ?_) (fun c18 => ?_)
      · have hf := lh_ifT hf c18
        exact lh_less [0] rfl (by cases hf; exact x0_)
      · have hf := lh_ifF hf c18
        refine lh_aload_n (q := 0) rfl rfl rfl ?_
        refine lh_iload_n (q := 1) rfl rfl rfl ?_
        refine lh_bdE hf (fun r19 e20 hf => ?_)
        refine lh_cVv (N := m_Ha_settleVisitor) (d := 2) (o := a) (As := [.int v1]) (st := []) rfl rfl v_Ha_settleVisitor (ha.1 0 _ rfl) rfl rfl rfl ⟨rfl, rfl⟩ rfl (t_Ha_settleVisitor hG hS ha e20 ?_)
        refine lh_iinc (q := 1) (v := (v1 + 1)) (lv' := [(0, .ref (a + 4)), (1, .int (v1 + 1))]) rfl rfl (congrArg (v1 + ·) (by decide)) rfl rfl ?_
        refine lh_goto rfl ?_
        exact ih (v1 + 1) r19 _ hf x0_
theorem t_Ha_settle_77 {Γ : lh_Cx} {F : lh_FF} {S : lh_SS} {Z : List Frame → Array Value → State → State → Prop} (hG : lh_GX Γ) (hS : lh_lay F S) {a : Nat} (ha : lh_hl F S a)  {L : lh_LL} : ∀ (n : Nat) (v1 : Int32) (I : lh_II) (o : lh_II), f_Ha_settle_77 a n v1 I = some o → ∀ (x0_ : lh_G Γ m_Ha_settle (lh_R 3 0 0) Z 0 0 95 [] [] (o, L, F, S)), lh_G Γ m_Ha_settle (lh_R 3 0 0) Z 0 0 77 [(0, .ref (a + 4)), (1, .int v1)] [] (I, L, F, S) := by
  intro n
  induction n with
  | zero => intro v1 I o hf; cases hf
  | succ n ih =>
    intro v1 I o hf x0_
    rw [f_Ha_settle_77] at hf
    refine lh_iload_n (q := 1) rfl rfl rfl ?_
    refine lh_aload_n (q := 0) rfl rfl rfl ?_
    refine lh_getI4 rfl rfl (ha.1 0 _ rfl) rfl ?_
    refine lh_icmp_ge rfl (fun c23 => ?_) (fun c23 => ?_)
    · have hf := lh_ifT hf c23
      exact lh_less [] rfl (by cases hf; exact x0_)
    · have hf := lh_ifF hf c23
      refine lh_iload_n (q := 1) rfl rfl rfl ?_
      refine lh_bipush rfl lh_b_12 ?_
      refine lh_icmp_ge rfl (fun c24 => ?_) (fun c24 => ?_)
      · have hf := lh_ifT hf c24
        exact lh_less [] rfl (by cases hf; exact x0_)
      · have hf := lh_ifF hf c24
        refine lh_aload_n (q := 0) rfl rfl rfl ?_
        refine lh_getR4 rfl rfl (ha.1 0 _ rfl) rfl (ha.2 9 _ rfl) ?_
        refine lh_iload_n (q := 1) rfl rfl rfl ?_
        refine lh_aload_n (q := 0) rfl rfl rfl ?_
        refine lh_iload_n (q := 1) rfl rfl rfl ?_
        refine lh_aload_n (q := 0) rfl rfl rfl ?_
        refine lh_getI4 rfl rfl (ha.1 0 _ rfl) rfl ?_
        refine lh_bdE hf (fun r25 e26 hf => ?_)
        refine lh_cVi (N := m_Ha_lightAmong) (d := 0) (o := a) (As := [.int v1, .int (I (a + 4) 10)]) (st := [.int v1, .ref (a + 10 + 4)]) rfl rfl v_Ha_lightAmong (ha.1 0 _ rfl) rfl rfl rfl ⟨rfl, rfl⟩ rfl (t_Ha_lightAmong hG hS ha e26 ?_)
        obtain ⟨g27, hf⟩ := lh_gdE hf
        refine lh_iast4 rfl (ha.1 10 _ rfl) g27 ?_
        refine lh_iinc (q := 1) (v := (v1 + 1)) (lv' := [(0, .ref (a + 4)), (1, .int (v1 + 1))]) rfl rfl (congrArg (v1 + ·) (by decide)) rfl rfl ?_
        refine lh_goto rfl ?_
        exact ih (v1 + 1) (lh_u2 I (a + 10 + 4) v1.toNatClampNeg r25) _ hf x0_
theorem t_Ha_settle {Γ : lh_Cx} {I : lh_II} {L : lh_LL} {F : lh_FF} {S : lh_SS} {K : lh_Hp → Prop} {r : lh_II} (hG : lh_GX Γ) (hS : lh_lay F S) {a : Nat} (ha : lh_hl F S a) (hf : f_Ha_settle a I = some r) (hK : K (r, L, F, S)) : lh_Met Γ m_Ha_settle 3 0 0 [.ref (a + 4)] (I, L, F, S) (lh_kv K) := by
  rw [f_Ha_settle] at hf
  refine lh_ofG k_Ha_settle [(0, .ref (a + 4))] rfl (Nat.le_of_ble_eq_true rfl) rfl ?_
  refine lh_aload_n (q := 0) rfl rfl rfl ?_
  refine lh_dup rfl rfl ?_
  refine lh_getI4 rfl rfl (ha.1 0 _ rfl) rfl ?_
  refine lh_aload_n (q := 0) rfl rfl rfl ?_
  refine lh_bdE hf (fun r1 e2 hf => ?_)
  refine lh_cVi (N := m_Ha_allCells) (d := 0) (o := a) (As := []) (st := [.int (I (a + 4) 10), .ref (a + 4)]) rfl rfl v_Ha_allCells (ha.1 0 _ rfl) rfl rfl rfl ⟨rfl, rfl⟩ rfl (t_Ha_allCells hG hS ha e2 ?_)
  refine lh_iand rfl ?_
  refine lh_putI4 rfl rfl (ha.1 0 _ rfl) rfl rfl ?_
  refine lh_aload_n (q := 0) rfl rfl rfl ?_
  refine lh_aload_n (q := 0) rfl rfl rfl ?_
  refine lh_getI4 rfl rfl (ha.1 0 _ rfl) rfl ?_
  refine lh_aload_n (q := 0) rfl rfl rfl ?_
  refine lh_getI4 rfl rfl (ha.1 0 _ rfl) rfl ?_
  refine lh_iconst rfl lh_k_1 ?_
  refine lh_isub rfl ?_
  refine lh_min rfl rfl ⟨rfl, rfl⟩ rfl ?_
  refine lh_putI4 rfl rfl (ha.1 0 _ rfl) rfl rfl ?_
  refine lh_iconst rfl lh_k_0 ?_
  refine lh_istore_n (lv' := [(0, .ref (a + 4)), (1, .int 0)]) rfl rfl rfl rfl ?_
  refine lh_bdE hf (fun r7 e8 hf => ?_)
  refine t_Ha_settle_18 hG hS ha _ 0 (lh_u2 (lh_u2 I (a + 4) 10 ((I (a + 4) 10) &&& r1)) (a + 4) 15 (if (((lh_u2 I (a + 4) 10 ((I (a + 4) 10) &&& r1)) (a + 4) 9) - 1) < ((lh_u2 I (a + 4) 10 ((I (a + 4) 10) &&& r1)) (a + 4) 15) then (((lh_u2 I (a + 4) 10 ((I (a + 4) 10) &&& r1)) (a + 4) 9) - 1) else ((lh_u2 I (a + 4) 10 ((I (a + 4) 10) &&& r1)) (a + 4) 15))) _ e8 ?_
  refine lh_iconst rfl lh_k_0 ?_
  refine lh_istore_n (lv' := [(0, .ref (a + 4)), (1, .int 0)]) rfl rfl rfl rfl ?_
  refine lh_bdE hf (fun r15 e16 hf => ?_)
  refine t_Ha_settle_42 hG hS ha _ 0 r7 _ e16 ?_
  refine lh_iconst rfl lh_k_0 ?_
  refine lh_istore_n (lv' := [(0, .ref (a + 4)), (1, .int 0)]) rfl rfl rfl rfl ?_
  refine lh_bdE hf (fun r21 e22 hf => ?_)
  refine t_Ha_settle_63 hG hS ha _ 0 r15 _ e22 ?_
  refine lh_iconst rfl lh_k_0 ?_
  refine lh_istore_n (lv' := [(0, .ref (a + 4)), (1, .int 0)]) rfl rfl rfl rfl ?_
  refine lh_bdE hf (fun r28 e29 hf => ?_)
  refine t_Ha_settle_77 hG hS ha _ 0 r21 _ e29 ?_
  exact lh_vret rfl rfl (by obtain rfl := Option.some.inj hf; exact hK)
def f_Ha_vasesSeenBy_8 (a : Nat) (m : Nat) (v2 : Int32) : Nat → Int32 → Int32 → lh_II → Option (Int32 × lh_II)
  | 0, _, _, _ => none
  | n + 1, v3, v4, I => if (I (a + 4) 12) ≤ v4 then some (v3, I) else lh_gd (lh_ix v4 4) (if (I (a + 8 + 4) v4.toNatClampNeg) = (-1) then f_Ha_vasesSeenBy_8 a m v2 n v3 (v4 + 1) I else if ((v2 >>> ((I (a + 8 + 4) v4.toNatClampNeg) &&& 31)) &&& 1) = 1 then lh_bd (f_La_dayShown a (I (m + 4) 2) (I (m + 4) 3) (if 0 ≤ ((I (a + 8 + 4) v4.toNatClampNeg) - (I (m + 4) 0)) then ((I (a + 8 + 4) v4.toNatClampNeg) - (I (m + 4) 0)) else 0 - ((I (a + 8 + 4) v4.toNatClampNeg) - (I (m + 4) 0))) (I (m + 4) 1) I) fun r7 => lh_bd (f_Ha_hourTaken a v4 r7.1 r7.2) fun r9 => if r9 = (-1) then f_Ha_vasesSeenBy_8 a m v2 n (v3 ||| ((1 : Int32) <<< (v4 &&& 31))) (v4 + 1) r7.2 else if r9 ≤ (r7.2 (m + 4) 1) then f_Ha_vasesSeenBy_8 a m v2 n (v3 ||| 0) (v4 + 1) r7.2 else f_Ha_vasesSeenBy_8 a m v2 n (v3 ||| ((1 : Int32) <<< (v4 &&& 31))) (v4 + 1) r7.2 else f_Ha_vasesSeenBy_8 a m v2 n v3 (v4 + 1) I)
def f_Ha_vasesSeenBy (a : Nat) (m : Nat) (I : lh_II) : Option (Int32 × lh_II) := lh_bd (f_Ha_litBy a m I) fun r1 => lh_bd (f_Ha_vasesSeenBy_8 a m r1 lh_fuel 0 0 I) fun r13 => some (r13.1, r13.2)
theorem t_Ha_vasesSeenBy_8 {Γ : lh_Cx} {F : lh_FF} {S : lh_SS} {Z : List Frame → Array Value → State → State → Prop} (hG : lh_GX Γ) (hS : lh_lay F S) {a : Nat} (ha : lh_hl F S a) {m : Nat} (hm : S[m]? = some (10, 0)) {v2 : Int32} {L : lh_LL} : ∀ (n : Nat) (v3 : Int32) (v4 : Int32) (I : lh_II) (o : Int32 × lh_II), f_Ha_vasesSeenBy_8 a m v2 n v3 v4 I = some o → ∀ (x0_ : lh_G Γ m_Ha_vasesSeenBy (lh_R 4 0 0) Z 0 0 64 [(3, .int o.1)] [] (o.2, L, F, S)), lh_G Γ m_Ha_vasesSeenBy (lh_R 4 0 0) Z 0 0 8 [(0, .ref (a + 4)), (1, .ref (m + 4)), (2, .int v2), (3, .int v3), (4, .int v4)] [] (I, L, F, S) := by
  intro n
  induction n with
  | zero => intro v3 v4 I o hf; cases hf
  | succ n ih =>
    intro v3 v4 I o hf x0_
    rw [f_Ha_vasesSeenBy_8] at hf
    refine lh_iload (q := 4) rfl rfl ?_
    refine lh_aload_n (q := 0) rfl rfl rfl ?_
    refine lh_getI4 rfl rfl (ha.1 0 _ rfl) rfl ?_
    refine lh_icmp_ge rfl (fun c3 => ?_) (fun c3 => ?_)
    · have hf := lh_ifT hf c3
      exact lh_less [3] rfl (by cases hf; exact x0_)
    · have hf := lh_ifF hf c3
      refine lh_aload_n (q := 0) rfl rfl rfl ?_
      refine lh_getR4 rfl rfl (ha.1 0 _ rfl) rfl (ha.2 7 _ rfl) ?_
      refine lh_iload (q := 4) rfl rfl ?_
      obtain ⟨g4, hf⟩ := lh_gdE hf
      refine lh_iald4 rfl (ha.1 8 _ rfl) g4 ?_
      refine lh_istore (lv' := [(0, .ref (a + 4)), (1, .ref (m + 4)), (2, .int v2), (3, .int v3), (4, .int v4), (5, .int (I (a + 8 + 4) v4.toNatClampNeg))]) rfl rfl rfl ?_
      refine lh_iload (q := 5) rfl rfl ?_
      refine lh_iconst rfl lh_k_m1 ?_
      refine lh_icmp_eq rfl (fun c5 => ?_) (fun c5 => ?_)
      · have hf := lh_ifT hf c5
        refine lh_iinc (q := 4) (v := (v4 + 1)) (lv' := [(0, .ref (a + 4)), (1, .ref (m + 4)), (2, .int v2), (3, .int v3), (4, .int (v4 + 1)), (5, .int (I (a + 8 + 4) v4.toNatClampNeg))]) rfl rfl (congrArg (v4 + ·) (by decide)) rfl rfl ?_
        refine lh_goto rfl ?_
        refine lh_less [0, 1, 2, 3, 4] rfl ?_
        exact ih v3 (v4 + 1) I _ hf x0_
      · have hf := lh_ifF hf c5
        refine lh_iload_n (q := 2) rfl rfl rfl ?_
        refine lh_iload (q := 5) rfl rfl ?_
        refine lh_ishr rfl ?_
        refine lh_iconst rfl lh_k_1 ?_
        refine lh_iand rfl ?_
        refine lh_iconst rfl lh_k_1 ?_
        refine lh_icmp_ne rfl (fun c6 => ?_) (fun c6 => ?_)
        · have hf := lh_ifF hf c6
          refine lh_iinc (q := 4) (v := (v4 + 1)) (lv' := [(0, .ref (a + 4)), (1, .ref (m + 4)), (2, .int v2), (3, .int v3), (4, .int (v4 + 1)), (5, .int (I (a + 8 + 4) v4.toNatClampNeg))]) rfl rfl (congrArg (v4 + ·) (by decide)) rfl rfl ?_
          refine lh_goto rfl ?_
          refine lh_less [0, 1, 2, 3, 4] rfl ?_
          exact ih v3 (v4 + 1) I _ hf x0_
        · have hf := lh_ifT hf c6
          refine lh_iload (q := 5) rfl rfl ?_
          refine lh_aload_n (q := 1) rfl rfl rfl ?_
          refine lh_getI4 rfl rfl hm rfl ?_
          refine lh_isub rfl ?_
          refine lh_abs rfl rfl ⟨rfl, rfl⟩ rfl ?_
          refine lh_istore (lv' := [(0, .ref (a + 4)), (1, .ref (m + 4)), (2, .int v2), (3, .int v3), (4, .int v4), (5, .int (I (a + 8 + 4) v4.toNatClampNeg)), (6, .int (if 0 ≤ ((I (a + 8 + 4) v4.toNatClampNeg) - (I (m + 4) 0)) then ((I (a + 8 + 4) v4.toNatClampNeg) - (I (m + 4) 0)) else 0 - ((I (a + 8 + 4) v4.toNatClampNeg) - (I (m + 4) 0))))]) rfl rfl rfl ?_
          refine lh_aload_n (q := 0) rfl rfl rfl ?_
          refine lh_iload (q := 4) rfl rfl ?_
          refine lh_aload_n (q := 0) rfl rfl rfl ?_
          refine lh_getR4 rfl rfl (ha.1 0 _ rfl) rfl (ha.2 0 _ rfl) ?_
          refine lh_aload_n (q := 1) rfl rfl rfl ?_
          refine lh_getI4 rfl rfl hm rfl ?_
          refine lh_aload_n (q := 1) rfl rfl rfl ?_
          refine lh_getI4 rfl rfl hm rfl ?_
          refine lh_iload (q := 6) rfl rfl ?_
          refine lh_aload_n (q := 1) rfl rfl rfl ?_
          refine lh_getI4 rfl rfl hm rfl ?_
          refine lh_bdE hf (fun r7 e8 hf => ?_)
          refine lh_cVi (N := m_La_dayShown) (d := 1) (o := a + 1) (As := [.int (I (m + 4) 2), .int (I (m + 4) 3), .int (if 0 ≤ ((I (a + 8 + 4) v4.toNatClampNeg) - (I (m + 4) 0)) then ((I (a + 8 + 4) v4.toNatClampNeg) - (I (m + 4) 0)) else 0 - ((I (a + 8 + 4) v4.toNatClampNeg) - (I (m + 4) 0))), .int (I (m + 4) 1)]) (st := [.int v4, .ref (a + 4)]) rfl rfl v_La_dayShown (ha.1 1 _ rfl) rfl rfl rfl ⟨rfl, rfl⟩ rfl (t_La_dayShown hG hS ha e8 ?_)
          refine lh_bdE hf (fun r9 e10 hf => ?_)
          refine lh_cVi (N := m_Ha_hourTaken) (d := 3) (o := a) (As := [.int v4, .int r7.1]) (st := []) rfl rfl v_Ha_hourTaken (ha.1 0 _ rfl) rfl rfl rfl ⟨rfl, rfl⟩ rfl (t_Ha_hourTaken hG hS ha e10 ?_)
          refine lh_istore (lv' := [(0, .ref (a + 4)), (1, .ref (m + 4)), (2, .int v2), (3, .int v3), (4, .int v4), (5, .int (I (a + 8 + 4) v4.toNatClampNeg)), (6, .int (if 0 ≤ ((I (a + 8 + 4) v4.toNatClampNeg) - (I (m + 4) 0)) then ((I (a + 8 + 4) v4.toNatClampNeg) - (I (m + 4) 0)) else 0 - ((I (a + 8 + 4) v4.toNatClampNeg) - (I (m + 4) 0)))), (7, .int r9)]) rfl rfl rfl ?_
          refine lh_iload_n (q := 3) rfl rfl rfl ?_
          refine lh_iload (q := 7) rfl rfl ?_
          refine lh_iconst rfl lh_k_m1 ?_
          refine lh_icmp_eq rfl (fun c11 => ?_) (fun c11 => ?_)
          · have hf := lh_ifT hf c11
            refine lh_iconst rfl lh_k_1 ?_
            refine lh_iload (q := 4) rfl rfl ?_
            refine lh_ishl rfl ?_
            refine lh_goto rfl ?_
            refine lh_ior rfl ?_
            refine lh_istore_n (lv' := [(0, .ref (a + 4)), (1, .ref (m + 4)), (2, .int v2), (3, .int (v3 ||| ((1 : Int32) <<< (v4 &&& 31)))), (4, .int v4), (5, .int (I (a + 8 + 4) v4.toNatClampNeg)), (6, .int (if 0 ≤ ((I (a + 8 + 4) v4.toNatClampNeg) - (I (m + 4) 0)) then ((I (a + 8 + 4) v4.toNatClampNeg) - (I (m + 4) 0)) else 0 - ((I (a + 8 + 4) v4.toNatClampNeg) - (I (m + 4) 0)))), (7, .int r9)]) rfl rfl rfl rfl ?_
            refine lh_iinc (q := 4) (v := (v4 + 1)) (lv' := [(0, .ref (a + 4)), (1, .ref (m + 4)), (2, .int v2), (3, .int (v3 ||| ((1 : Int32) <<< (v4 &&& 31)))), (4, .int (v4 + 1)), (5, .int (I (a + 8 + 4) v4.toNatClampNeg)), (6, .int (if 0 ≤ ((I (a + 8 + 4) v4.toNatClampNeg) - (I (m + 4) 0)) then ((I (a + 8 + 4) v4.toNatClampNeg) - (I (m + 4) 0)) else 0 - ((I (a + 8 + 4) v4.toNatClampNeg) - (I (m + 4) 0)))), (7, .int r9)]) rfl rfl (congrArg (v4 + ·) (by decide)) rfl rfl ?_
            refine lh_goto rfl ?_
            refine lh_less [0, 1, 2, 3, 4] rfl ?_
            exact ih (v3 ||| ((1 : Int32) <<< (v4 &&& 31))) (v4 + 1) r7.2 _ hf x0_
          · have hf := lh_ifF hf c11
            refine lh_aload_n (q := 1) rfl rfl rfl ?_
            refine lh_getI4 rfl rfl hm rfl ?_
            refine lh_iload (q := 7) rfl rfl ?_
            refine lh_icmp_ge rfl (fun c12 => ?_) (fun c12 => ?_)
            · have hf := lh_ifT hf c12
              refine lh_iconst rfl lh_k_0 ?_
              refine lh_ior rfl ?_
              refine lh_istore_n (lv' := [(0, .ref (a + 4)), (1, .ref (m + 4)), (2, .int v2), (3, .int (v3 ||| 0)), (4, .int v4), (5, .int (I (a + 8 + 4) v4.toNatClampNeg)), (6, .int (if 0 ≤ ((I (a + 8 + 4) v4.toNatClampNeg) - (I (m + 4) 0)) then ((I (a + 8 + 4) v4.toNatClampNeg) - (I (m + 4) 0)) else 0 - ((I (a + 8 + 4) v4.toNatClampNeg) - (I (m + 4) 0)))), (7, .int r9)]) rfl rfl rfl rfl ?_
              refine lh_iinc (q := 4) (v := (v4 + 1)) (lv' := [(0, .ref (a + 4)), (1, .ref (m + 4)), (2, .int v2), (3, .int (v3 ||| 0)), (4, .int (v4 + 1)), (5, .int (I (a + 8 + 4) v4.toNatClampNeg)), (6, .int (if 0 ≤ ((I (a + 8 + 4) v4.toNatClampNeg) - (I (m + 4) 0)) then ((I (a + 8 + 4) v4.toNatClampNeg) - (I (m + 4) 0)) else 0 - ((I (a + 8 + 4) v4.toNatClampNeg) - (I (m + 4) 0)))), (7, .int r9)]) rfl rfl (congrArg (v4 + ·) (by decide)) rfl rfl ?_
              refine lh_goto rfl ?_
              refine lh_less [0, 1, 2, 3, 4] rfl ?_
              exact ih (v3 ||| 0) (v4 + 1) r7.2 _ hf x0_
            · have hf := lh_ifF hf c12
              refine lh_iconst rfl lh_k_1 ?_
              refine lh_iload (q := 4) rfl rfl ?_
              refine lh_ishl rfl ?_
              refine lh_goto rfl ?_
              refine lh_ior rfl ?_
              refine lh_istore_n (lv' := [(0, .ref (a + 4)), (1, .ref (m + 4)), (2, .int v2), (3, .int (v3 ||| ((1 : Int32) <<< (v4 &&& 31)))), (4, .int v4), (5, .int (I (a + 8 + 4) v4.toNatClampNeg)), (6, .int (if 0 ≤ ((I (a + 8 + 4) v4.toNatClampNeg) - (I (m + 4) 0)) then ((I (a + 8 + 4) v4.toNatClampNeg) - (I (m + 4) 0)) else 0 - ((I (a + 8 + 4) v4.toNatClampNeg) - (I (m + 4) 0)))), (7, .int r9)]) rfl rfl rfl rfl ?_
              refine lh_iinc (q := 4) (v := (v4 + 1)) (lv' := [(0, .ref (a + 4)), (1, .ref (m + 4)), (2, .int v2), (3, .int (v3 ||| ((1 : Int32) <<< (v4 &&& 31)))), (4, .int (v4 + 1)), (5, .int (I (a + 8 + 4) v4.toNatClampNeg)), (6, .int (if 0 ≤ ((I (a + 8 + 4) v4.toNatClampNeg) - (I (m + 4) 0)) then ((I (a + 8 + 4) v4.toNatClampNeg) - (I (m + 4) 0)) else 0 - ((I (a + 8 + 4) v4.toNatClampNeg) - (I (m + 4) 0)))), (7, .int r9)]) rfl rfl (congrArg (v4 + ·) (by decide)) rfl rfl ?_
              refine lh_goto rfl ?_
              refine lh_less [0, 1, 2, 3, 4] rfl ?_
              exact ih (v3 ||| ((1 : Int32) <<< (v4 &&& 31))) (v4 + 1) r7.2 _ hf x0_
theorem t_Ha_vasesSeenBy {Γ : lh_Cx} {I : lh_II} {L : lh_LL} {F : lh_FF} {S : lh_SS} {K : Int32 → lh_Hp → Prop} {r : Int32 × lh_II} (hG : lh_GX Γ) (hS : lh_lay F S) {a : Nat} (ha : lh_hl F S a) {m : Nat} (hm : S[m]? = some (10, 0)) (hf : f_Ha_vasesSeenBy a m I = some r) (hK : K r.1 (r.2, L, F, S)) : lh_Met Γ m_Ha_vasesSeenBy 4 0 0 [.ref (a + 4), .ref (m + 4)] (I, L, F, S) (lh_ki K) := by
  rw [f_Ha_vasesSeenBy] at hf
  refine lh_ofG k_Ha_vasesSeenBy [(0, .ref (a + 4)), (1, .ref (m + 4))] rfl (Nat.le_of_ble_eq_true rfl) rfl ?_
  refine lh_aload_n (q := 0) rfl rfl rfl ?_
  refine lh_aload_n (q := 1) rfl rfl rfl ?_
  refine lh_bdE hf (fun r1 e2 hf => ?_)
  refine lh_cVi (N := m_Ha_litBy) (d := 2) (o := a) (As := [.ref (m + 4)]) (st := []) rfl rfl v_Ha_litBy (ha.1 0 _ rfl) rfl rfl rfl ⟨rfl, rfl⟩ rfl (t_Ha_litBy hG hS ha hm e2 ?_)
  refine lh_istore_n (lv' := [(0, .ref (a + 4)), (1, .ref (m + 4)), (2, .int r1)]) rfl rfl rfl rfl ?_
  refine lh_iconst rfl lh_k_0 ?_
  refine lh_istore_n (lv' := [(0, .ref (a + 4)), (1, .ref (m + 4)), (2, .int r1), (3, .int 0)]) rfl rfl rfl rfl ?_
  refine lh_iconst rfl lh_k_0 ?_
  refine lh_istore (lv' := [(0, .ref (a + 4)), (1, .ref (m + 4)), (2, .int r1), (3, .int 0), (4, .int 0)]) rfl rfl rfl ?_
  refine lh_bdE hf (fun r13 e14 hf => ?_)
  refine t_Ha_vasesSeenBy_8 hG hS ha hm _ 0 0 I _ e14 ?_
  refine lh_iload_n (q := 0) rfl rfl rfl ?_
  exact lh_iret rfl rfl rfl (by obtain rfl := Option.some.inj hf; exact hK)
def f_Ha_walk (a : Nat) (m : Nat) (x1 : Int32) (I : lh_II) : Option (Int32 × lh_II) := lh_bd (f_Ha_bumpsOf a m x1 I) fun r1 => if r1.1 = 0 then lh_bd (f_Ha_canEnter a ((r1.2 (m + 4) 0) + x1) r1.2) fun r6 => if r6 = 0 then lh_bd (f_Ha_seenBy a m (lh_u2 (lh_u2 (lh_u2 (lh_u2 r1.2 (m + 4) 1 (((r1.2 (m + 4) 1) + 1) - ((r1.2 (m + 4) 1) + 1) / 8 * 8)) (m + 4) 4 (((lh_u2 r1.2 (m + 4) 1 (((r1.2 (m + 4) 1) + 1) - ((r1.2 (m + 4) 1) + 1) / 8 * 8)) (m + 4) 4) + 1)) (m + 4) 5 (((lh_u2 (lh_u2 r1.2 (m + 4) 1 (((r1.2 (m + 4) 1) + 1) - ((r1.2 (m + 4) 1) + 1) / 8 * 8)) (m + 4) 4 (((lh_u2 r1.2 (m + 4) 1 (((r1.2 (m + 4) 1) + 1) - ((r1.2 (m + 4) 1) + 1) / 8 * 8)) (m + 4) 4) + 1)) (m + 4) 5) + r1.1)) (m + 4) 3 (if 0 < (((lh_u2 (lh_u2 (lh_u2 r1.2 (m + 4) 1 (((r1.2 (m + 4) 1) + 1) - ((r1.2 (m + 4) 1) + 1) / 8 * 8)) (m + 4) 4 (((lh_u2 r1.2 (m + 4) 1 (((r1.2 (m + 4) 1) + 1) - ((r1.2 (m + 4) 1) + 1) / 8 * 8)) (m + 4) 4) + 1)) (m + 4) 5 (((lh_u2 (lh_u2 r1.2 (m + 4) 1 (((r1.2 (m + 4) 1) + 1) - ((r1.2 (m + 4) 1) + 1) / 8 * 8)) (m + 4) 4 (((lh_u2 r1.2 (m + 4) 1 (((r1.2 (m + 4) 1) + 1) - ((r1.2 (m + 4) 1) + 1) / 8 * 8)) (m + 4) 4) + 1)) (m + 4) 5) + r1.1)) (m + 4) 3) - 1) then (((lh_u2 (lh_u2 (lh_u2 r1.2 (m + 4) 1 (((r1.2 (m + 4) 1) + 1) - ((r1.2 (m + 4) 1) + 1) / 8 * 8)) (m + 4) 4 (((lh_u2 r1.2 (m + 4) 1 (((r1.2 (m + 4) 1) + 1) - ((r1.2 (m + 4) 1) + 1) / 8 * 8)) (m + 4) 4) + 1)) (m + 4) 5 (((lh_u2 (lh_u2 r1.2 (m + 4) 1 (((r1.2 (m + 4) 1) + 1) - ((r1.2 (m + 4) 1) + 1) / 8 * 8)) (m + 4) 4 (((lh_u2 r1.2 (m + 4) 1 (((r1.2 (m + 4) 1) + 1) - ((r1.2 (m + 4) 1) + 1) / 8 * 8)) (m + 4) 4) + 1)) (m + 4) 5) + r1.1)) (m + 4) 3) - 1) else 0))) fun r9 => some (r1.1, lh_u2 r9.2 (m + 4) 6 (((lh_u2 (lh_u2 (lh_u2 (lh_u2 r1.2 (m + 4) 1 (((r1.2 (m + 4) 1) + 1) - ((r1.2 (m + 4) 1) + 1) / 8 * 8)) (m + 4) 4 (((lh_u2 r1.2 (m + 4) 1 (((r1.2 (m + 4) 1) + 1) - ((r1.2 (m + 4) 1) + 1) / 8 * 8)) (m + 4) 4) + 1)) (m + 4) 5 (((lh_u2 (lh_u2 r1.2 (m + 4) 1 (((r1.2 (m + 4) 1) + 1) - ((r1.2 (m + 4) 1) + 1) / 8 * 8)) (m + 4) 4 (((lh_u2 r1.2 (m + 4) 1 (((r1.2 (m + 4) 1) + 1) - ((r1.2 (m + 4) 1) + 1) / 8 * 8)) (m + 4) 4) + 1)) (m + 4) 5) + r1.1)) (m + 4) 3 (if 0 < (((lh_u2 (lh_u2 (lh_u2 r1.2 (m + 4) 1 (((r1.2 (m + 4) 1) + 1) - ((r1.2 (m + 4) 1) + 1) / 8 * 8)) (m + 4) 4 (((lh_u2 r1.2 (m + 4) 1 (((r1.2 (m + 4) 1) + 1) - ((r1.2 (m + 4) 1) + 1) / 8 * 8)) (m + 4) 4) + 1)) (m + 4) 5 (((lh_u2 (lh_u2 r1.2 (m + 4) 1 (((r1.2 (m + 4) 1) + 1) - ((r1.2 (m + 4) 1) + 1) / 8 * 8)) (m + 4) 4 (((lh_u2 r1.2 (m + 4) 1 (((r1.2 (m + 4) 1) + 1) - ((r1.2 (m + 4) 1) + 1) / 8 * 8)) (m + 4) 4) + 1)) (m + 4) 5) + r1.1)) (m + 4) 3) - 1) then (((lh_u2 (lh_u2 (lh_u2 r1.2 (m + 4) 1 (((r1.2 (m + 4) 1) + 1) - ((r1.2 (m + 4) 1) + 1) / 8 * 8)) (m + 4) 4 (((lh_u2 r1.2 (m + 4) 1 (((r1.2 (m + 4) 1) + 1) - ((r1.2 (m + 4) 1) + 1) / 8 * 8)) (m + 4) 4) + 1)) (m + 4) 5 (((lh_u2 (lh_u2 r1.2 (m + 4) 1 (((r1.2 (m + 4) 1) + 1) - ((r1.2 (m + 4) 1) + 1) / 8 * 8)) (m + 4) 4 (((lh_u2 r1.2 (m + 4) 1 (((r1.2 (m + 4) 1) + 1) - ((r1.2 (m + 4) 1) + 1) / 8 * 8)) (m + 4) 4) + 1)) (m + 4) 5) + r1.1)) (m + 4) 3) - 1) else 0)) (m + 4) 6) ||| r9.1)) else lh_bd (f_Ha_seenBy a m (lh_u2 (lh_u2 (lh_u2 (lh_u2 (lh_u2 r1.2 (m + 4) 0 ((r1.2 (m + 4) 0) + x1)) (m + 4) 1 ((((lh_u2 r1.2 (m + 4) 0 ((r1.2 (m + 4) 0) + x1)) (m + 4) 1) + 1) - (((lh_u2 r1.2 (m + 4) 0 ((r1.2 (m + 4) 0) + x1)) (m + 4) 1) + 1) / 8 * 8)) (m + 4) 4 (((lh_u2 (lh_u2 r1.2 (m + 4) 0 ((r1.2 (m + 4) 0) + x1)) (m + 4) 1 ((((lh_u2 r1.2 (m + 4) 0 ((r1.2 (m + 4) 0) + x1)) (m + 4) 1) + 1) - (((lh_u2 r1.2 (m + 4) 0 ((r1.2 (m + 4) 0) + x1)) (m + 4) 1) + 1) / 8 * 8)) (m + 4) 4) + 1)) (m + 4) 5 (((lh_u2 (lh_u2 (lh_u2 r1.2 (m + 4) 0 ((r1.2 (m + 4) 0) + x1)) (m + 4) 1 ((((lh_u2 r1.2 (m + 4) 0 ((r1.2 (m + 4) 0) + x1)) (m + 4) 1) + 1) - (((lh_u2 r1.2 (m + 4) 0 ((r1.2 (m + 4) 0) + x1)) (m + 4) 1) + 1) / 8 * 8)) (m + 4) 4 (((lh_u2 (lh_u2 r1.2 (m + 4) 0 ((r1.2 (m + 4) 0) + x1)) (m + 4) 1 ((((lh_u2 r1.2 (m + 4) 0 ((r1.2 (m + 4) 0) + x1)) (m + 4) 1) + 1) - (((lh_u2 r1.2 (m + 4) 0 ((r1.2 (m + 4) 0) + x1)) (m + 4) 1) + 1) / 8 * 8)) (m + 4) 4) + 1)) (m + 4) 5) + r1.1)) (m + 4) 3 (if 0 < (((lh_u2 (lh_u2 (lh_u2 (lh_u2 r1.2 (m + 4) 0 ((r1.2 (m + 4) 0) + x1)) (m + 4) 1 ((((lh_u2 r1.2 (m + 4) 0 ((r1.2 (m + 4) 0) + x1)) (m + 4) 1) + 1) - (((lh_u2 r1.2 (m + 4) 0 ((r1.2 (m + 4) 0) + x1)) (m + 4) 1) + 1) / 8 * 8)) (m + 4) 4 (((lh_u2 (lh_u2 r1.2 (m + 4) 0 ((r1.2 (m + 4) 0) + x1)) (m + 4) 1 ((((lh_u2 r1.2 (m + 4) 0 ((r1.2 (m + 4) 0) + x1)) (m + 4) 1) + 1) - (((lh_u2 r1.2 (m + 4) 0 ((r1.2 (m + 4) 0) + x1)) (m + 4) 1) + 1) / 8 * 8)) (m + 4) 4) + 1)) (m + 4) 5 (((lh_u2 (lh_u2 (lh_u2 r1.2 (m + 4) 0 ((r1.2 (m + 4) 0) + x1)) (m + 4) 1 ((((lh_u2 r1.2 (m + 4) 0 ((r1.2 (m + 4) 0) + x1)) (m + 4) 1) + 1) - (((lh_u2 r1.2 (m + 4) 0 ((r1.2 (m + 4) 0) + x1)) (m + 4) 1) + 1) / 8 * 8)) (m + 4) 4 (((lh_u2 (lh_u2 r1.2 (m + 4) 0 ((r1.2 (m + 4) 0) + x1)) (m + 4) 1 ((((lh_u2 r1.2 (m + 4) 0 ((r1.2 (m + 4) 0) + x1)) (m + 4) 1) + 1) - (((lh_u2 r1.2 (m + 4) 0 ((r1.2 (m + 4) 0) + x1)) (m + 4) 1) + 1) / 8 * 8)) (m + 4) 4) + 1)) (m + 4) 5) + r1.1)) (m + 4) 3) - 1) then (((lh_u2 (lh_u2 (lh_u2 (lh_u2 r1.2 (m + 4) 0 ((r1.2 (m + 4) 0) + x1)) (m + 4) 1 ((((lh_u2 r1.2 (m + 4) 0 ((r1.2 (m + 4) 0) + x1)) (m + 4) 1) + 1) - (((lh_u2 r1.2 (m + 4) 0 ((r1.2 (m + 4) 0) + x1)) (m + 4) 1) + 1) / 8 * 8)) (m + 4) 4 (((lh_u2 (lh_u2 r1.2 (m + 4) 0 ((r1.2 (m + 4) 0) + x1)) (m + 4) 1 ((((lh_u2 r1.2 (m + 4) 0 ((r1.2 (m + 4) 0) + x1)) (m + 4) 1) + 1) - (((lh_u2 r1.2 (m + 4) 0 ((r1.2 (m + 4) 0) + x1)) (m + 4) 1) + 1) / 8 * 8)) (m + 4) 4) + 1)) (m + 4) 5 (((lh_u2 (lh_u2 (lh_u2 r1.2 (m + 4) 0 ((r1.2 (m + 4) 0) + x1)) (m + 4) 1 ((((lh_u2 r1.2 (m + 4) 0 ((r1.2 (m + 4) 0) + x1)) (m + 4) 1) + 1) - (((lh_u2 r1.2 (m + 4) 0 ((r1.2 (m + 4) 0) + x1)) (m + 4) 1) + 1) / 8 * 8)) (m + 4) 4 (((lh_u2 (lh_u2 r1.2 (m + 4) 0 ((r1.2 (m + 4) 0) + x1)) (m + 4) 1 ((((lh_u2 r1.2 (m + 4) 0 ((r1.2 (m + 4) 0) + x1)) (m + 4) 1) + 1) - (((lh_u2 r1.2 (m + 4) 0 ((r1.2 (m + 4) 0) + x1)) (m + 4) 1) + 1) / 8 * 8)) (m + 4) 4) + 1)) (m + 4) 5) + r1.1)) (m + 4) 3) - 1) else 0))) fun r11 => some (r1.1, lh_u2 r11.2 (m + 4) 6 (((lh_u2 (lh_u2 (lh_u2 (lh_u2 (lh_u2 r1.2 (m + 4) 0 ((r1.2 (m + 4) 0) + x1)) (m + 4) 1 ((((lh_u2 r1.2 (m + 4) 0 ((r1.2 (m + 4) 0) + x1)) (m + 4) 1) + 1) - (((lh_u2 r1.2 (m + 4) 0 ((r1.2 (m + 4) 0) + x1)) (m + 4) 1) + 1) / 8 * 8)) (m + 4) 4 (((lh_u2 (lh_u2 r1.2 (m + 4) 0 ((r1.2 (m + 4) 0) + x1)) (m + 4) 1 ((((lh_u2 r1.2 (m + 4) 0 ((r1.2 (m + 4) 0) + x1)) (m + 4) 1) + 1) - (((lh_u2 r1.2 (m + 4) 0 ((r1.2 (m + 4) 0) + x1)) (m + 4) 1) + 1) / 8 * 8)) (m + 4) 4) + 1)) (m + 4) 5 (((lh_u2 (lh_u2 (lh_u2 r1.2 (m + 4) 0 ((r1.2 (m + 4) 0) + x1)) (m + 4) 1 ((((lh_u2 r1.2 (m + 4) 0 ((r1.2 (m + 4) 0) + x1)) (m + 4) 1) + 1) - (((lh_u2 r1.2 (m + 4) 0 ((r1.2 (m + 4) 0) + x1)) (m + 4) 1) + 1) / 8 * 8)) (m + 4) 4 (((lh_u2 (lh_u2 r1.2 (m + 4) 0 ((r1.2 (m + 4) 0) + x1)) (m + 4) 1 ((((lh_u2 r1.2 (m + 4) 0 ((r1.2 (m + 4) 0) + x1)) (m + 4) 1) + 1) - (((lh_u2 r1.2 (m + 4) 0 ((r1.2 (m + 4) 0) + x1)) (m + 4) 1) + 1) / 8 * 8)) (m + 4) 4) + 1)) (m + 4) 5) + r1.1)) (m + 4) 3 (if 0 < (((lh_u2 (lh_u2 (lh_u2 (lh_u2 r1.2 (m + 4) 0 ((r1.2 (m + 4) 0) + x1)) (m + 4) 1 ((((lh_u2 r1.2 (m + 4) 0 ((r1.2 (m + 4) 0) + x1)) (m + 4) 1) + 1) - (((lh_u2 r1.2 (m + 4) 0 ((r1.2 (m + 4) 0) + x1)) (m + 4) 1) + 1) / 8 * 8)) (m + 4) 4 (((lh_u2 (lh_u2 r1.2 (m + 4) 0 ((r1.2 (m + 4) 0) + x1)) (m + 4) 1 ((((lh_u2 r1.2 (m + 4) 0 ((r1.2 (m + 4) 0) + x1)) (m + 4) 1) + 1) - (((lh_u2 r1.2 (m + 4) 0 ((r1.2 (m + 4) 0) + x1)) (m + 4) 1) + 1) / 8 * 8)) (m + 4) 4) + 1)) (m + 4) 5 (((lh_u2 (lh_u2 (lh_u2 r1.2 (m + 4) 0 ((r1.2 (m + 4) 0) + x1)) (m + 4) 1 ((((lh_u2 r1.2 (m + 4) 0 ((r1.2 (m + 4) 0) + x1)) (m + 4) 1) + 1) - (((lh_u2 r1.2 (m + 4) 0 ((r1.2 (m + 4) 0) + x1)) (m + 4) 1) + 1) / 8 * 8)) (m + 4) 4 (((lh_u2 (lh_u2 r1.2 (m + 4) 0 ((r1.2 (m + 4) 0) + x1)) (m + 4) 1 ((((lh_u2 r1.2 (m + 4) 0 ((r1.2 (m + 4) 0) + x1)) (m + 4) 1) + 1) - (((lh_u2 r1.2 (m + 4) 0 ((r1.2 (m + 4) 0) + x1)) (m + 4) 1) + 1) / 8 * 8)) (m + 4) 4) + 1)) (m + 4) 5) + r1.1)) (m + 4) 3) - 1) then (((lh_u2 (lh_u2 (lh_u2 (lh_u2 r1.2 (m + 4) 0 ((r1.2 (m + 4) 0) + x1)) (m + 4) 1 ((((lh_u2 r1.2 (m + 4) 0 ((r1.2 (m + 4) 0) + x1)) (m + 4) 1) + 1) - (((lh_u2 r1.2 (m + 4) 0 ((r1.2 (m + 4) 0) + x1)) (m + 4) 1) + 1) / 8 * 8)) (m + 4) 4 (((lh_u2 (lh_u2 r1.2 (m + 4) 0 ((r1.2 (m + 4) 0) + x1)) (m + 4) 1 ((((lh_u2 r1.2 (m + 4) 0 ((r1.2 (m + 4) 0) + x1)) (m + 4) 1) + 1) - (((lh_u2 r1.2 (m + 4) 0 ((r1.2 (m + 4) 0) + x1)) (m + 4) 1) + 1) / 8 * 8)) (m + 4) 4) + 1)) (m + 4) 5 (((lh_u2 (lh_u2 (lh_u2 r1.2 (m + 4) 0 ((r1.2 (m + 4) 0) + x1)) (m + 4) 1 ((((lh_u2 r1.2 (m + 4) 0 ((r1.2 (m + 4) 0) + x1)) (m + 4) 1) + 1) - (((lh_u2 r1.2 (m + 4) 0 ((r1.2 (m + 4) 0) + x1)) (m + 4) 1) + 1) / 8 * 8)) (m + 4) 4 (((lh_u2 (lh_u2 r1.2 (m + 4) 0 ((r1.2 (m + 4) 0) + x1)) (m + 4) 1 ((((lh_u2 r1.2 (m + 4) 0 ((r1.2 (m + 4) 0) + x1)) (m + 4) 1) + 1) - (((lh_u2 r1.2 (m + 4) 0 ((r1.2 (m + 4) 0) + x1)) (m + 4) 1) + 1) / 8 * 8)) (m + 4) 4) + 1)) (m + 4) 5) + r1.1)) (m + 4) 3) - 1) else 0)) (m + 4) 6) ||| r11.1)) else lh_bd (f_Ha_seenBy a m (lh_u2 (lh_u2 (lh_u2 (lh_u2 r1.2 (m + 4) 1 (((r1.2 (m + 4) 1) + 1) - ((r1.2 (m + 4) 1) + 1) / 8 * 8)) (m + 4) 4 (((lh_u2 r1.2 (m + 4) 1 (((r1.2 (m + 4) 1) + 1) - ((r1.2 (m + 4) 1) + 1) / 8 * 8)) (m + 4) 4) + 1)) (m + 4) 5 (((lh_u2 (lh_u2 r1.2 (m + 4) 1 (((r1.2 (m + 4) 1) + 1) - ((r1.2 (m + 4) 1) + 1) / 8 * 8)) (m + 4) 4 (((lh_u2 r1.2 (m + 4) 1 (((r1.2 (m + 4) 1) + 1) - ((r1.2 (m + 4) 1) + 1) / 8 * 8)) (m + 4) 4) + 1)) (m + 4) 5) + r1.1)) (m + 4) 3 (if 0 < (((lh_u2 (lh_u2 (lh_u2 r1.2 (m + 4) 1 (((r1.2 (m + 4) 1) + 1) - ((r1.2 (m + 4) 1) + 1) / 8 * 8)) (m + 4) 4 (((lh_u2 r1.2 (m + 4) 1 (((r1.2 (m + 4) 1) + 1) - ((r1.2 (m + 4) 1) + 1) / 8 * 8)) (m + 4) 4) + 1)) (m + 4) 5 (((lh_u2 (lh_u2 r1.2 (m + 4) 1 (((r1.2 (m + 4) 1) + 1) - ((r1.2 (m + 4) 1) + 1) / 8 * 8)) (m + 4) 4 (((lh_u2 r1.2 (m + 4) 1 (((r1.2 (m + 4) 1) + 1) - ((r1.2 (m + 4) 1) + 1) / 8 * 8)) (m + 4) 4) + 1)) (m + 4) 5) + r1.1)) (m + 4) 3) - 1) then (((lh_u2 (lh_u2 (lh_u2 r1.2 (m + 4) 1 (((r1.2 (m + 4) 1) + 1) - ((r1.2 (m + 4) 1) + 1) / 8 * 8)) (m + 4) 4 (((lh_u2 r1.2 (m + 4) 1 (((r1.2 (m + 4) 1) + 1) - ((r1.2 (m + 4) 1) + 1) / 8 * 8)) (m + 4) 4) + 1)) (m + 4) 5 (((lh_u2 (lh_u2 r1.2 (m + 4) 1 (((r1.2 (m + 4) 1) + 1) - ((r1.2 (m + 4) 1) + 1) / 8 * 8)) (m + 4) 4 (((lh_u2 r1.2 (m + 4) 1 (((r1.2 (m + 4) 1) + 1) - ((r1.2 (m + 4) 1) + 1) / 8 * 8)) (m + 4) 4) + 1)) (m + 4) 5) + r1.1)) (m + 4) 3) - 1) else 0))) fun r4 => some (r1.1, lh_u2 r4.2 (m + 4) 6 (((lh_u2 (lh_u2 (lh_u2 (lh_u2 r1.2 (m + 4) 1 (((r1.2 (m + 4) 1) + 1) - ((r1.2 (m + 4) 1) + 1) / 8 * 8)) (m + 4) 4 (((lh_u2 r1.2 (m + 4) 1 (((r1.2 (m + 4) 1) + 1) - ((r1.2 (m + 4) 1) + 1) / 8 * 8)) (m + 4) 4) + 1)) (m + 4) 5 (((lh_u2 (lh_u2 r1.2 (m + 4) 1 (((r1.2 (m + 4) 1) + 1) - ((r1.2 (m + 4) 1) + 1) / 8 * 8)) (m + 4) 4 (((lh_u2 r1.2 (m + 4) 1 (((r1.2 (m + 4) 1) + 1) - ((r1.2 (m + 4) 1) + 1) / 8 * 8)) (m + 4) 4) + 1)) (m + 4) 5) + r1.1)) (m + 4) 3 (if 0 < (((lh_u2 (lh_u2 (lh_u2 r1.2 (m + 4) 1 (((r1.2 (m + 4) 1) + 1) - ((r1.2 (m + 4) 1) + 1) / 8 * 8)) (m + 4) 4 (((lh_u2 r1.2 (m + 4) 1 (((r1.2 (m + 4) 1) + 1) - ((r1.2 (m + 4) 1) + 1) / 8 * 8)) (m + 4) 4) + 1)) (m + 4) 5 (((lh_u2 (lh_u2 r1.2 (m + 4) 1 (((r1.2 (m + 4) 1) + 1) - ((r1.2 (m + 4) 1) + 1) / 8 * 8)) (m + 4) 4 (((lh_u2 r1.2 (m + 4) 1 (((r1.2 (m + 4) 1) + 1) - ((r1.2 (m + 4) 1) + 1) / 8 * 8)) (m + 4) 4) + 1)) (m + 4) 5) + r1.1)) (m + 4) 3) - 1) then (((lh_u2 (lh_u2 (lh_u2 r1.2 (m + 4) 1 (((r1.2 (m + 4) 1) + 1) - ((r1.2 (m + 4) 1) + 1) / 8 * 8)) (m + 4) 4 (((lh_u2 r1.2 (m + 4) 1 (((r1.2 (m + 4) 1) + 1) - ((r1.2 (m + 4) 1) + 1) / 8 * 8)) (m + 4) 4) + 1)) (m + 4) 5 (((lh_u2 (lh_u2 r1.2 (m + 4) 1 (((r1.2 (m + 4) 1) + 1) - ((r1.2 (m + 4) 1) + 1) / 8 * 8)) (m + 4) 4 (((lh_u2 r1.2 (m + 4) 1 (((r1.2 (m + 4) 1) + 1) - ((r1.2 (m + 4) 1) + 1) / 8 * 8)) (m + 4) 4) + 1)) (m + 4) 5) + r1.1)) (m + 4) 3) - 1) else 0)) (m + 4) 6) ||| r4.1))
theorem t_Ha_walk {Γ : lh_Cx} {I : lh_II} {L : lh_LL} {F : lh_FF} {S : lh_SS} {K : Int32 → lh_Hp → Prop} {r : Int32 × lh_II} (hG : lh_GX Γ) (hS : lh_lay F S) {a : Nat} (ha : lh_hl F S a) {m : Nat} (hm : S[m]? = some (10, 0)) {x1 : Int32} (hf : f_Ha_walk a m x1 I = some r) (hK : K r.1 (r.2, L, F, S)) : lh_Met Γ m_Ha_walk 5 0 0 [.ref (a + 4), .ref (m + 4), .int x1] (I, L, F, S) (lh_ki K) := by
  rw [f_Ha_walk] at hf
  refine lh_ofG k_Ha_walk [(0, .ref (a + 4)), (1, .ref (m + 4)), (2, .int x1)] rfl (Nat.le_of_ble_eq_true rfl) rfl ?_
  refine lh_aload_n (q := 0) rfl rfl rfl ?_
  refine lh_aload_n (q := 1) rfl rfl rfl ?_
  refine lh_iload_n (q := 2) rfl rfl rfl ?_
  refine lh_bdE hf (fun r1 e2 hf => ?_)
  refine lh_cVi (N := m_Ha_bumpsOf) (d := 3) (o := a) (As := [.ref (m + 4), .int x1]) (st := []) rfl rfl v_Ha_bumpsOf (ha.1 0 _ rfl) rfl rfl rfl ⟨rfl, rfl⟩ rfl (t_Ha_bumpsOf hG hS ha hm e2 ?_)
  refine lh_istore_n (lv' := [(0, .ref (a + 4)), (1, .ref (m + 4)), (2, .int x1), (3, .int r1.1)]) rfl rfl rfl rfl ?_
  refine lh_iload_n (q := 3) rfl rfl rfl ?_
  refine lh_if_ne rfl (fun c3 => ?_) (fun c3 => ?_)
  · have hf := lh_ifF hf c3
    refine lh_aload_n (q := 1) rfl rfl rfl ?_
    refine lh_aload_n (q := 1) rfl rfl rfl ?_
    refine lh_getI4 rfl rfl hm rfl ?_
    refine lh_iconst rfl lh_k_1 ?_
    refine lh_iadd rfl ?_
    refine lh_bipush rfl lh_b_8 ?_
    refine lh_irem rfl (by decide) ?_
    refine lh_putI4 rfl rfl hm rfl rfl ?_
    refine lh_aload_n (q := 1) rfl rfl rfl ?_
    refine lh_dup rfl rfl ?_
    refine lh_getI4 rfl rfl hm rfl ?_
    refine lh_iconst rfl lh_k_1 ?_
    refine lh_iadd rfl ?_
    refine lh_putI4 rfl rfl hm rfl rfl ?_
    refine lh_aload_n (q := 1) rfl rfl rfl ?_
    refine lh_dup rfl rfl ?_
    refine lh_getI4 rfl rfl hm rfl ?_
    refine lh_iload_n (q := 3) rfl rfl rfl ?_
    refine lh_iadd rfl ?_
    refine lh_putI4 rfl rfl hm rfl rfl ?_
    refine lh_aload_n (q := 1) rfl rfl rfl ?_
    refine lh_iconst rfl lh_k_0 ?_
    refine lh_aload_n (q := 1) rfl rfl rfl ?_
    refine lh_getI4 rfl rfl hm rfl ?_
    refine lh_iconst rfl lh_k_1 ?_
    refine lh_isub rfl ?_
    refine lh_max rfl rfl ⟨rfl, rfl⟩ rfl ?_
    refine lh_putI4 rfl rfl hm rfl rfl ?_
    refine lh_aload_n (q := 1) rfl rfl rfl ?_
    refine lh_dup rfl rfl ?_
    refine lh_getI4 rfl rfl hm rfl ?_
    refine lh_aload_n (q := 0) rfl rfl rfl ?_
    refine lh_aload_n (q := 1) rfl rfl rfl ?_
    refine lh_bdE hf (fun r4 e5 hf => ?_)
    refine lh_cVi (N := m_Ha_seenBy) (d := 4) (o := a) (As := [.ref (m + 4)]) (st := [.int ((lh_u2 (lh_u2 (lh_u2 (lh_u2 r1.2 (m + 4) 1 (((r1.2 (m + 4) 1) + 1) - ((r1.2 (m + 4) 1) + 1) / 8 * 8)) (m + 4) 4 (((lh_u2 r1.2 (m + 4) 1 (((r1.2 (m + 4) 1) + 1) - ((r1.2 (m + 4) 1) + 1) / 8 * 8)) (m + 4) 4) + 1)) (m + 4) 5 (((lh_u2 (lh_u2 r1.2 (m + 4) 1 (((r1.2 (m + 4) 1) + 1) - ((r1.2 (m + 4) 1) + 1) / 8 * 8)) (m + 4) 4 (((lh_u2 r1.2 (m + 4) 1 (((r1.2 (m + 4) 1) + 1) - ((r1.2 (m + 4) 1) + 1) / 8 * 8)) (m + 4) 4) + 1)) (m + 4) 5) + r1.1)) (m + 4) 3 (if 0 < (((lh_u2 (lh_u2 (lh_u2 r1.2 (m + 4) 1 (((r1.2 (m + 4) 1) + 1) - ((r1.2 (m + 4) 1) + 1) / 8 * 8)) (m + 4) 4 (((lh_u2 r1.2 (m + 4) 1 (((r1.2 (m + 4) 1) + 1) - ((r1.2 (m + 4) 1) + 1) / 8 * 8)) (m + 4) 4) + 1)) (m + 4) 5 (((lh_u2 (lh_u2 r1.2 (m + 4) 1 (((r1.2 (m + 4) 1) + 1) - ((r1.2 (m + 4) 1) + 1) / 8 * 8)) (m + 4) 4 (((lh_u2 r1.2 (m + 4) 1 (((r1.2 (m + 4) 1) + 1) - ((r1.2 (m + 4) 1) + 1) / 8 * 8)) (m + 4) 4) + 1)) (m + 4) 5) + r1.1)) (m + 4) 3) - 1) then (((lh_u2 (lh_u2 (lh_u2 r1.2 (m + 4) 1 (((r1.2 (m + 4) 1) + 1) - ((r1.2 (m + 4) 1) + 1) / 8 * 8)) (m + 4) 4 (((lh_u2 r1.2 (m + 4) 1 (((r1.2 (m + 4) 1) + 1) - ((r1.2 (m + 4) 1) + 1) / 8 * 8)) (m + 4) 4) + 1)) (m + 4) 5 (((lh_u2 (lh_u2 r1.2 (m + 4) 1 (((r1.2 (m + 4) 1) + 1) - ((r1.2 (m + 4) 1) + 1) / 8 * 8)) (m + 4) 4 (((lh_u2 r1.2 (m + 4) 1 (((r1.2 (m + 4) 1) + 1) - ((r1.2 (m + 4) 1) + 1) / 8 * 8)) (m + 4) 4) + 1)) (m + 4) 5) + r1.1)) (m + 4) 3) - 1) else 0)) (m + 4) 6), .ref (m + 4)]) rfl rfl v_Ha_seenBy (ha.1 0 _ rfl) rfl rfl rfl ⟨rfl, rfl⟩ rfl (t_Ha_seenBy hG hS ha hm e5 ?_)
    refine lh_ior rfl ?_
    refine lh_putI4 rfl rfl hm rfl rfl ?_
    refine lh_iload_n (q := 3) rfl rfl rfl ?_
    exact lh_iret rfl rfl rfl (by obtain rfl := Option.some.inj hf; exact hK)
  · have hf := lh_ifT hf c3
    refine lh_aload_n (q := 0) rfl rfl rfl ?_
    refine lh_aload_n (q := 1) rfl rfl rfl ?_
    refine lh_getI4 rfl rfl hm rfl ?_
    refine lh_iload_n (q := 2) rfl rfl rfl ?_
    refine lh_iadd rfl ?_
    refine lh_bdE hf (fun r6 e7 hf => ?_)
    refine lh_cVi (N := m_Ha_canEnter) (d := 2) (o := a) (As := [.int ((r1.2 (m + 4) 0) + x1)]) (st := []) rfl rfl v_Ha_canEnter (ha.1 0 _ rfl) rfl rfl rfl ⟨rfl, rfl⟩ rfl (t_Ha_canEnter hG hS ha e7 ?_)
    refine lh_if_eq rfl (fun c8 => ?_) (fun c8 => ?_)
    · have hf := lh_ifT hf c8
      refine lh_aload_n (q := 1) rfl rfl rfl ?_
      refine lh_aload_n (q := 1) rfl rfl rfl ?_
      refine lh_getI4 rfl rfl hm rfl ?_
      refine lh_iconst rfl lh_k_1 ?_
      refine lh_iadd rfl ?_
      refine lh_bipush rfl lh_b_8 ?_
      refine lh_irem rfl (by decide) ?_
      refine lh_putI4 rfl rfl hm rfl rfl ?_
      refine lh_aload_n (q := 1) rfl rfl rfl ?_
      refine lh_dup rfl rfl ?_
      refine lh_getI4 rfl rfl hm rfl ?_
      refine lh_iconst rfl lh_k_1 ?_
      refine lh_iadd rfl ?_
      refine lh_putI4 rfl rfl hm rfl rfl ?_
      refine lh_aload_n (q := 1) rfl rfl rfl ?_
      refine lh_dup rfl rfl ?_
      refine lh_getI4 rfl rfl hm rfl ?_
      refine lh_iload_n (q := 3) rfl rfl rfl ?_
      refine lh_iadd rfl ?_
      refine lh_putI4 rfl rfl hm rfl rfl ?_
      refine lh_aload_n (q := 1) rfl rfl rfl ?_
      refine lh_iconst rfl lh_k_0 ?_
      refine lh_aload_n (q := 1) rfl rfl rfl ?_
      refine lh_getI4 rfl rfl hm rfl ?_
      refine lh_iconst rfl lh_k_1 ?_
      refine lh_isub rfl ?_
      refine lh_max rfl rfl ⟨rfl, rfl⟩ rfl ?_
      refine lh_putI4 rfl rfl hm rfl rfl ?_
      refine lh_aload_n (q := 1) rfl rfl rfl ?_
      refine lh_dup rfl rfl ?_
      refine lh_getI4 rfl rfl hm rfl ?_
      refine lh_aload_n (q := 0) rfl rfl rfl ?_
      refine lh_aload_n (q := 1) rfl rfl rfl ?_
      refine lh_bdE hf (fun r9 e10 hf => ?_)
      refine lh_cVi (N := m_Ha_seenBy) (d := 4) (o := a) (As := [.ref (m + 4)]) (st := [.int ((lh_u2 (lh_u2 (lh_u2 (lh_u2 r1.2 (m + 4) 1 (((r1.2 (m + 4) 1) + 1) - ((r1.2 (m + 4) 1) + 1) / 8 * 8)) (m + 4) 4 (((lh_u2 r1.2 (m + 4) 1 (((r1.2 (m + 4) 1) + 1) - ((r1.2 (m + 4) 1) + 1) / 8 * 8)) (m + 4) 4) + 1)) (m + 4) 5 (((lh_u2 (lh_u2 r1.2 (m + 4) 1 (((r1.2 (m + 4) 1) + 1) - ((r1.2 (m + 4) 1) + 1) / 8 * 8)) (m + 4) 4 (((lh_u2 r1.2 (m + 4) 1 (((r1.2 (m + 4) 1) + 1) - ((r1.2 (m + 4) 1) + 1) / 8 * 8)) (m + 4) 4) + 1)) (m + 4) 5) + r1.1)) (m + 4) 3 (if 0 < (((lh_u2 (lh_u2 (lh_u2 r1.2 (m + 4) 1 (((r1.2 (m + 4) 1) + 1) - ((r1.2 (m + 4) 1) + 1) / 8 * 8)) (m + 4) 4 (((lh_u2 r1.2 (m + 4) 1 (((r1.2 (m + 4) 1) + 1) - ((r1.2 (m + 4) 1) + 1) / 8 * 8)) (m + 4) 4) + 1)) (m + 4) 5 (((lh_u2 (lh_u2 r1.2 (m + 4) 1 (((r1.2 (m + 4) 1) + 1) - ((r1.2 (m + 4) 1) + 1) / 8 * 8)) (m + 4) 4 (((lh_u2 r1.2 (m + 4) 1 (((r1.2 (m + 4) 1) + 1) - ((r1.2 (m + 4) 1) + 1) / 8 * 8)) (m + 4) 4) + 1)) (m + 4) 5) + r1.1)) (m + 4) 3) - 1) then (((lh_u2 (lh_u2 (lh_u2 r1.2 (m + 4) 1 (((r1.2 (m + 4) 1) + 1) - ((r1.2 (m + 4) 1) + 1) / 8 * 8)) (m + 4) 4 (((lh_u2 r1.2 (m + 4) 1 (((r1.2 (m + 4) 1) + 1) - ((r1.2 (m + 4) 1) + 1) / 8 * 8)) (m + 4) 4) + 1)) (m + 4) 5 (((lh_u2 (lh_u2 r1.2 (m + 4) 1 (((r1.2 (m + 4) 1) + 1) - ((r1.2 (m + 4) 1) + 1) / 8 * 8)) (m + 4) 4 (((lh_u2 r1.2 (m + 4) 1 (((r1.2 (m + 4) 1) + 1) - ((r1.2 (m + 4) 1) + 1) / 8 * 8)) (m + 4) 4) + 1)) (m + 4) 5) + r1.1)) (m + 4) 3) - 1) else 0)) (m + 4) 6), .ref (m + 4)]) rfl rfl v_Ha_seenBy (ha.1 0 _ rfl) rfl rfl rfl ⟨rfl, rfl⟩ rfl (t_Ha_seenBy hG hS ha hm e10 ?_)
      refine lh_ior rfl ?_
      refine lh_putI4 rfl rfl hm rfl rfl ?_
      refine lh_iload_n (q := 3) rfl rfl rfl ?_
      exact lh_iret rfl rfl rfl (by obtain rfl := Option.some.inj hf; exact hK)
    · have hf := lh_ifF hf c8
      refine lh_aload_n (q := 1) rfl rfl rfl ?_
      refine lh_dup rfl rfl ?_
      refine lh_getI4 rfl rfl hm rfl ?_
      refine lh_iload_n (q := 2) rfl rfl rfl ?_
      refine lh_iadd rfl ?_
      refine lh_putI4 rfl rfl hm rfl rfl ?_
      refine lh_aload_n (q := 1) rfl rfl rfl ?_
      refine lh_aload_n (q := 1) rfl rfl rfl ?_
      refine lh_getI4 rfl rfl hm rfl ?_
      refine lh_iconst rfl lh_k_1 ?_
      refine lh_iadd rfl ?_
      refine lh_bipush rfl lh_b_8 ?_
      refine lh_irem rfl (by decide) ?_
      refine lh_putI4 rfl rfl hm rfl rfl ?_
      refine lh_aload_n (q := 1) rfl rfl rfl ?_
      refine lh_dup rfl rfl ?_
      refine lh_getI4 rfl rfl hm rfl ?_
      refine lh_iconst rfl lh_k_1 ?_
      refine lh_iadd rfl ?_
      refine lh_putI4 rfl rfl hm rfl rfl ?_
      refine lh_aload_n (q := 1) rfl rfl rfl ?_
      refine lh_dup rfl rfl ?_
      refine lh_getI4 rfl rfl hm rfl ?_
      refine lh_iload_n (q := 3) rfl rfl rfl ?_
      refine lh_iadd rfl ?_
      refine lh_putI4 rfl rfl hm rfl rfl ?_
      refine lh_aload_n (q := 1) rfl rfl rfl ?_
      refine lh_iconst rfl lh_k_0 ?_
      refine lh_aload_n (q := 1) rfl rfl rfl ?_
      refine lh_getI4 rfl rfl hm rfl ?_
      refine lh_iconst rfl lh_k_1 ?_
      refine lh_isub rfl ?_
      refine lh_max rfl rfl ⟨rfl, rfl⟩ rfl ?_
      refine lh_putI4 rfl rfl hm rfl rfl ?_
      refine lh_aload_n (q := 1) rfl rfl rfl ?_
      refine lh_dup rfl rfl ?_
      refine lh_getI4 rfl rfl hm rfl ?_
      refine lh_aload_n (q := 0) rfl rfl rfl ?_
      refine lh_aload_n (q := 1) rfl rfl rfl ?_
      refine lh_bdE hf (fun r11 e12 hf => ?_)
      refine lh_cVi (N := m_Ha_seenBy) (d := 4) (o := a) (As := [.ref (m + 4)]) (st := [.int ((lh_u2 (lh_u2 (lh_u2 (lh_u2 (lh_u2 r1.2 (m + 4) 0 ((r1.2 (m + 4) 0) + x1)) (m + 4) 1 ((((lh_u2 r1.2 (m + 4) 0 ((r1.2 (m + 4) 0) + x1)) (m + 4) 1) + 1) - (((lh_u2 r1.2 (m + 4) 0 ((r1.2 (m + 4) 0) + x1)) (m + 4) 1) + 1) / 8 * 8)) (m + 4) 4 (((lh_u2 (lh_u2 r1.2 (m + 4) 0 ((r1.2 (m + 4) 0) + x1)) (m + 4) 1 ((((lh_u2 r1.2 (m + 4) 0 ((r1.2 (m + 4) 0) + x1)) (m + 4) 1) + 1) - (((lh_u2 r1.2 (m + 4) 0 ((r1.2 (m + 4) 0) + x1)) (m + 4) 1) + 1) / 8 * 8)) (m + 4) 4) + 1)) (m + 4) 5 (((lh_u2 (lh_u2 (lh_u2 r1.2 (m + 4) 0 ((r1.2 (m + 4) 0) + x1)) (m + 4) 1 ((((lh_u2 r1.2 (m + 4) 0 ((r1.2 (m + 4) 0) + x1)) (m + 4) 1) + 1) - (((lh_u2 r1.2 (m + 4) 0 ((r1.2 (m + 4) 0) + x1)) (m + 4) 1) + 1) / 8 * 8)) (m + 4) 4 (((lh_u2 (lh_u2 r1.2 (m + 4) 0 ((r1.2 (m + 4) 0) + x1)) (m + 4) 1 ((((lh_u2 r1.2 (m + 4) 0 ((r1.2 (m + 4) 0) + x1)) (m + 4) 1) + 1) - (((lh_u2 r1.2 (m + 4) 0 ((r1.2 (m + 4) 0) + x1)) (m + 4) 1) + 1) / 8 * 8)) (m + 4) 4) + 1)) (m + 4) 5) + r1.1)) (m + 4) 3 (if 0 < (((lh_u2 (lh_u2 (lh_u2 (lh_u2 r1.2 (m + 4) 0 ((r1.2 (m + 4) 0) + x1)) (m + 4) 1 ((((lh_u2 r1.2 (m + 4) 0 ((r1.2 (m + 4) 0) + x1)) (m + 4) 1) + 1) - (((lh_u2 r1.2 (m + 4) 0 ((r1.2 (m + 4) 0) + x1)) (m + 4) 1) + 1) / 8 * 8)) (m + 4) 4 (((lh_u2 (lh_u2 r1.2 (m + 4) 0 ((r1.2 (m + 4) 0) + x1)) (m + 4) 1 ((((lh_u2 r1.2 (m + 4) 0 ((r1.2 (m + 4) 0) + x1)) (m + 4) 1) + 1) - (((lh_u2 r1.2 (m + 4) 0 ((r1.2 (m + 4) 0) + x1)) (m + 4) 1) + 1) / 8 * 8)) (m + 4) 4) + 1)) (m + 4) 5 (((lh_u2 (lh_u2 (lh_u2 r1.2 (m + 4) 0 ((r1.2 (m + 4) 0) + x1)) (m + 4) 1 ((((lh_u2 r1.2 (m + 4) 0 ((r1.2 (m + 4) 0) + x1)) (m + 4) 1) + 1) - (((lh_u2 r1.2 (m + 4) 0 ((r1.2 (m + 4) 0) + x1)) (m + 4) 1) + 1) / 8 * 8)) (m + 4) 4 (((lh_u2 (lh_u2 r1.2 (m + 4) 0 ((r1.2 (m + 4) 0) + x1)) (m + 4) 1 ((((lh_u2 r1.2 (m + 4) 0 ((r1.2 (m + 4) 0) + x1)) (m + 4) 1) + 1) - (((lh_u2 r1.2 (m + 4) 0 ((r1.2 (m + 4) 0) + x1)) (m + 4) 1) + 1) / 8 * 8)) (m + 4) 4) + 1)) (m + 4) 5) + r1.1)) (m + 4) 3) - 1) then (((lh_u2 (lh_u2 (lh_u2 (lh_u2 r1.2 (m + 4) 0 ((r1.2 (m + 4) 0) + x1)) (m + 4) 1 ((((lh_u2 r1.2 (m + 4) 0 ((r1.2 (m + 4) 0) + x1)) (m + 4) 1) + 1) - (((lh_u2 r1.2 (m + 4) 0 ((r1.2 (m + 4) 0) + x1)) (m + 4) 1) + 1) / 8 * 8)) (m + 4) 4 (((lh_u2 (lh_u2 r1.2 (m + 4) 0 ((r1.2 (m + 4) 0) + x1)) (m + 4) 1 ((((lh_u2 r1.2 (m + 4) 0 ((r1.2 (m + 4) 0) + x1)) (m + 4) 1) + 1) - (((lh_u2 r1.2 (m + 4) 0 ((r1.2 (m + 4) 0) + x1)) (m + 4) 1) + 1) / 8 * 8)) (m + 4) 4) + 1)) (m + 4) 5 (((lh_u2 (lh_u2 (lh_u2 r1.2 (m + 4) 0 ((r1.2 (m + 4) 0) + x1)) (m + 4) 1 ((((lh_u2 r1.2 (m + 4) 0 ((r1.2 (m + 4) 0) + x1)) (m + 4) 1) + 1) - (((lh_u2 r1.2 (m + 4) 0 ((r1.2 (m + 4) 0) + x1)) (m + 4) 1) + 1) / 8 * 8)) (m + 4) 4 (((lh_u2 (lh_u2 r1.2 (m + 4) 0 ((r1.2 (m + 4) 0) + x1)) (m + 4) 1 ((((lh_u2 r1.2 (m + 4) 0 ((r1.2 (m + 4) 0) + x1)) (m + 4) 1) + 1) - (((lh_u2 r1.2 (m + 4) 0 ((r1.2 (m + 4) 0) + x1)) (m + 4) 1) + 1) / 8 * 8)) (m + 4) 4) + 1)) (m + 4) 5) + r1.1)) (m + 4) 3) - 1) else 0)) (m + 4) 6), .ref (m + 4)]) rfl rfl v_Ha_seenBy (ha.1 0 _ rfl) rfl rfl rfl ⟨rfl, rfl⟩ rfl (t_Ha_seenBy hG hS ha hm e12 ?_)
      refine lh_ior rfl ?_
      refine lh_putI4 rfl rfl hm rfl rfl ?_
      refine lh_iload_n (q := 3) rfl rfl rfl ?_
      exact lh_iret rfl rfl rfl (by obtain rfl := Option.some.inj hf; exact hK)
def f_Ha_whoIsIn_4 (a : Nat) (v1 : Int32) (v2 : Int32) (I : lh_II) : Nat → Int32 → Int32 → Option (Int32)
  | 0, _, _ => none
  | n + 1, v3, v4 => if (I (a + 4) 11) ≤ v4 then some v3 else lh_bd (f_Ha_placeOf a v4 v2 I) fun r2 => if r2 = v1 then f_Ha_whoIsIn_4 a v1 v2 I n (v3 ||| ((1 : Int32) <<< (v4 &&& 31))) (v4 + 1) else f_Ha_whoIsIn_4 a v1 v2 I n v3 (v4 + 1)
def f_Ha_whoIsIn (a : Nat) (x1 : Int32) (x2 : Int32) (I : lh_II) : Option (Int32) := lh_bd (f_Ha_whoIsIn_4 a x1 x2 I lh_fuel 0 0) fun r5 => some r5
theorem t_Ha_whoIsIn_4 {Γ : lh_Cx} {F : lh_FF} {S : lh_SS} {Z : List Frame → Array Value → State → State → Prop} (hG : lh_GX Γ) (hS : lh_lay F S) {a : Nat} (ha : lh_hl F S a) {v1 : Int32} {v2 : Int32} {I : lh_II} {L : lh_LL} : ∀ (n : Nat) (v3 : Int32) (v4 : Int32) (o : Int32), f_Ha_whoIsIn_4 a v1 v2 I n v3 v4 = some o → ∀ (x0_ : lh_G Γ m_Ha_whoIsIn (lh_R 2 0 0) Z 0 0 22 [(3, .int o)] [] (I, L, F, S)), lh_G Γ m_Ha_whoIsIn (lh_R 2 0 0) Z 0 0 4 [(0, .ref (a + 4)), (1, .int v1), (2, .int v2), (3, .int v3), (4, .int v4)] [] (I, L, F, S) := by
  intro n
  induction n with
  | zero => intro v3 v4 o hf; cases hf
  | succ n ih =>
    intro v3 v4 o hf x0_
    rw [f_Ha_whoIsIn_4] at hf
    refine lh_iload (q := 4) rfl rfl ?_
    refine lh_aload_n (q := 0) rfl rfl rfl ?_
    refine lh_getI4 rfl rfl (ha.1 0 _ rfl) rfl ?_
    refine lh_icmp_ge rfl (fun c1 => ?_) (fun c1 => ?_)
    · have hf := lh_ifT hf c1
      exact lh_less [3] rfl (by cases hf; exact x0_)
    · have hf := lh_ifF hf c1
      refine lh_aload_n (q := 0) rfl rfl rfl ?_
      refine lh_iload (q := 4) rfl rfl ?_
      refine lh_iload_n (q := 2) rfl rfl rfl ?_
      refine lh_bdE hf (fun r2 e3 hf => ?_)
      refine lh_cVi (N := m_Ha_placeOf) (d := 1) (o := a) (As := [.int v4, .int v2]) (st := []) rfl rfl v_Ha_placeOf (ha.1 0 _ rfl) rfl rfl rfl ⟨rfl, rfl⟩ rfl (t_Ha_placeOf hG hS ha e3 ?_)
      refine lh_iload_n (q := 1) rfl rfl rfl ?_
      refine lh_icmp_ne rfl (fun c4 => ?_) (fun c4 => ?_)
      · have hf := lh_ifF hf c4
        refine lh_iinc (q := 4) (v := (v4 + 1)) (lv' := [(0, .ref (a + 4)), (1, .int v1), (2, .int v2), (3, .int v3), (4, .int (v4 + 1))]) rfl rfl (congrArg (v4 + ·) (by decide)) rfl rfl ?_
        refine lh_goto rfl ?_
        exact ih v3 (v4 + 1) _ hf x0_
      · have hf := lh_ifT hf c4
        refine lh_iload_n (q := 3) rfl rfl rfl ?_
        refine lh_iconst rfl lh_k_1 ?_
        refine lh_iload (q := 4) rfl rfl ?_
        refine lh_ishl rfl ?_
        refine lh_ior rfl ?_
        refine lh_istore_n (lv' := [(0, .ref (a + 4)), (1, .int v1), (2, .int v2), (3, .int (v3 ||| ((1 : Int32) <<< (v4 &&& 31)))), (4, .int v4)]) rfl rfl rfl rfl ?_
        refine lh_iinc (q := 4) (v := (v4 + 1)) (lv' := [(0, .ref (a + 4)), (1, .int v1), (2, .int v2), (3, .int (v3 ||| ((1 : Int32) <<< (v4 &&& 31)))), (4, .int (v4 + 1))]) rfl rfl (congrArg (v4 + ·) (by decide)) rfl rfl ?_
        refine lh_goto rfl ?_
        exact ih (v3 ||| ((1 : Int32) <<< (v4 &&& 31))) (v4 + 1) _ hf x0_
theorem t_Ha_whoIsIn {Γ : lh_Cx} {I : lh_II} {L : lh_LL} {F : lh_FF} {S : lh_SS} {K : Int32 → lh_Hp → Prop} {r : Int32} (hG : lh_GX Γ) (hS : lh_lay F S) {a : Nat} (ha : lh_hl F S a) {x1 : Int32} {x2 : Int32} (hf : f_Ha_whoIsIn a x1 x2 I = some r) (hK : K r (I, L, F, S)) : lh_Met Γ m_Ha_whoIsIn 2 0 0 [.ref (a + 4), .int x1, .int x2] (I, L, F, S) (lh_ki K) := by
  rw [f_Ha_whoIsIn] at hf
  refine lh_ofG k_Ha_whoIsIn [(0, .ref (a + 4)), (1, .int x1), (2, .int x2)] rfl (Nat.le_of_ble_eq_true rfl) rfl ?_
  refine lh_iconst rfl lh_k_0 ?_
  refine lh_istore_n (lv' := [(0, .ref (a + 4)), (1, .int x1), (2, .int x2), (3, .int 0)]) rfl rfl rfl rfl ?_
  refine lh_iconst rfl lh_k_0 ?_
  refine lh_istore (lv' := [(0, .ref (a + 4)), (1, .int x1), (2, .int x2), (3, .int 0), (4, .int 0)]) rfl rfl rfl ?_
  refine lh_bdE hf (fun r5 e6 hf => ?_)
  refine t_Ha_whoIsIn_4 hG hS ha _ 0 0 _ e6 ?_
  refine lh_iload_n (q := 0) rfl rfl rfl ?_
  exact lh_iret rfl rfl rfl (by obtain rfl := Option.some.inj hf; exact hK)
def f_Ha_whoIsThere_4 (a : Nat) (v1 : Int32) (v2 : Int32) (I : lh_II) : Nat → Int32 → Int32 → Option (Int32)
  | 0, _, _ => none
  | n + 1, v3, v4 => if (I (a + 4) 11) ≤ v4 then some v3 else lh_gd (lh_ix v4 6) (if (I (a + 5 + 4) v4.toNatClampNeg) = v1 then lh_bd (f_Ha_placeOf a v4 v2 I) fun r4 => if r4 = (-1) then f_Ha_whoIsThere_4 a v1 v2 I n v3 (v4 + 1) else f_Ha_whoIsThere_4 a v1 v2 I n (v3 ||| ((1 : Int32) <<< (v4 &&& 31))) (v4 + 1) else f_Ha_whoIsThere_4 a v1 v2 I n v3 (v4 + 1))
def f_Ha_whoIsThere (a : Nat) (x1 : Int32) (x2 : Int32) (I : lh_II) : Option (Int32) := lh_bd (f_Ha_whoIsThere_4 a x1 x2 I lh_fuel 0 0) fun r7 => some r7
theorem t_Ha_whoIsThere_4 {Γ : lh_Cx} {F : lh_FF} {S : lh_SS} {Z : List Frame → Array Value → State → State → Prop} (hG : lh_GX Γ) (hS : lh_lay F S) {a : Nat} (ha : lh_hl F S a) {v1 : Int32} {v2 : Int32} {I : lh_II} {L : lh_LL} : ∀ (n : Nat) (v3 : Int32) (v4 : Int32) (o : Int32), f_Ha_whoIsThere_4 a v1 v2 I n v3 v4 = some o → ∀ (x0_ : lh_G Γ m_Ha_whoIsThere (lh_R 2 0 0) Z 0 0 28 [(3, .int o)] [] (I, L, F, S)), lh_G Γ m_Ha_whoIsThere (lh_R 2 0 0) Z 0 0 4 [(0, .ref (a + 4)), (1, .int v1), (2, .int v2), (3, .int v3), (4, .int v4)] [] (I, L, F, S) := by
  intro n
  induction n with
  | zero => intro v3 v4 o hf; cases hf
  | succ n ih =>
    intro v3 v4 o hf x0_
    rw [f_Ha_whoIsThere_4] at hf
    refine lh_iload (q := 4) rfl rfl ?_
    refine lh_aload_n (q := 0) rfl rfl rfl ?_
    refine lh_getI4 rfl rfl (ha.1 0 _ rfl) rfl ?_
    refine lh_icmp_ge rfl (fun c1 => ?_) (fun c1 => ?_)
    · have hf := lh_ifT hf c1
      exact lh_less [3] rfl (by cases hf; exact x0_)
    · have hf := lh_ifF hf c1
      refine lh_aload_n (q := 0) rfl rfl rfl ?_
      refine lh_getR4 rfl rfl (ha.1 0 _ rfl) rfl (ha.2 4 _ rfl) ?_
      refine lh_iload (q := 4) rfl rfl ?_
      obtain ⟨g2, hf⟩ := lh_gdE hf
      refine lh_iald4 rfl (ha.1 5 _ rfl) g2 ?_
      refine lh_iload_n (q := 1) rfl rfl rfl ?_
      refine lh_icmp_ne rfl (fun c3 => ?_) (fun c3 => ?_)
      · have hf := lh_ifF hf c3
        refine lh_iinc (q := 4) (v := (v4 + 1)) (lv' := [(0, .ref (a + 4)), (1, .int v1), (2, .int v2), (3, .int v3), (4, .int (v4 + 1))]) rfl rfl (congrArg (v4 + ·) (by decide)) rfl rfl ?_
        refine lh_goto rfl ?_
        exact ih v3 (v4 + 1) _ hf x0_
      · have hf := lh_ifT hf c3
        refine lh_aload_n (q := 0) rfl rfl rfl ?_
        refine lh_iload (q := 4) rfl rfl ?_
        refine lh_iload_n (q := 2) rfl rfl rfl ?_
        refine lh_bdE hf (fun r4 e5 hf => ?_)
        refine lh_cVi (N := m_Ha_placeOf) (d := 1) (o := a) (As := [.int v4, .int v2]) (st := []) rfl rfl v_Ha_placeOf (ha.1 0 _ rfl) rfl rfl rfl ⟨rfl, rfl⟩ rfl (t_Ha_placeOf hG hS ha e5 ?_)
        refine lh_iconst rfl lh_k_m1 ?_
        refine lh_icmp_eq rfl (fun c6 => ?_) (fun c6 => ?_)
        · have hf := lh_ifT hf c6
          refine lh_iinc (q := 4) (v := (v4 + 1)) (lv' := [(0, .ref (a + 4)), (1, .int v1), (2, .int v2), (3, .int v3), (4, .int (v4 + 1))]) rfl rfl (congrArg (v4 + ·) (by decide)) rfl rfl ?_
          refine lh_goto rfl ?_
          exact ih v3 (v4 + 1) _ hf x0_
        · have hf := lh_ifF hf c6
          refine lh_iload_n (q := 3) rfl rfl rfl ?_
          refine lh_iconst rfl lh_k_1 ?_
          refine lh_iload (q := 4) rfl rfl ?_
          refine lh_ishl rfl ?_
          refine lh_ior rfl ?_
          refine lh_istore_n (lv' := [(0, .ref (a + 4)), (1, .int v1), (2, .int v2), (3, .int (v3 ||| ((1 : Int32) <<< (v4 &&& 31)))), (4, .int v4)]) rfl rfl rfl rfl ?_
          refine lh_iinc (q := 4) (v := (v4 + 1)) (lv' := [(0, .ref (a + 4)), (1, .int v1), (2, .int v2), (3, .int (v3 ||| ((1 : Int32) <<< (v4 &&& 31)))), (4, .int (v4 + 1))]) rfl rfl (congrArg (v4 + ·) (by decide)) rfl rfl ?_
          refine lh_goto rfl ?_
          exact ih (v3 ||| ((1 : Int32) <<< (v4 &&& 31))) (v4 + 1) _ hf x0_
theorem t_Ha_whoIsThere {Γ : lh_Cx} {I : lh_II} {L : lh_LL} {F : lh_FF} {S : lh_SS} {K : Int32 → lh_Hp → Prop} {r : Int32} (hG : lh_GX Γ) (hS : lh_lay F S) {a : Nat} (ha : lh_hl F S a) {x1 : Int32} {x2 : Int32} (hf : f_Ha_whoIsThere a x1 x2 I = some r) (hK : K r (I, L, F, S)) : lh_Met Γ m_Ha_whoIsThere 2 0 0 [.ref (a + 4), .int x1, .int x2] (I, L, F, S) (lh_ki K) := by
  rw [f_Ha_whoIsThere] at hf
  refine lh_ofG k_Ha_whoIsThere [(0, .ref (a + 4)), (1, .int x1), (2, .int x2)] rfl (Nat.le_of_ble_eq_true rfl) rfl ?_
  refine lh_iconst rfl lh_k_0 ?_
  refine lh_istore_n (lv' := [(0, .ref (a + 4)), (1, .int x1), (2, .int x2), (3, .int 0)]) rfl rfl rfl rfl ?_
  refine lh_iconst rfl lh_k_0 ?_
  refine lh_istore (lv' := [(0, .ref (a + 4)), (1, .int x1), (2, .int x2), (3, .int 0), (4, .int 0)]) rfl rfl rfl ?_
  refine lh_bdE hf (fun r7 e8 hf => ?_)
  refine t_Ha_whoIsThere_4 hG hS ha _ 0 0 _ e8 ?_
  refine lh_iload_n (q := 0) rfl rfl rfl ?_
  exact lh_iret rfl rfl rfl (by obtain rfl := Option.some.inj hf; exact hK)
def f_Ha_wouldTake_24 (a : Nat) (v1 : Int32) (v4 : Int32) (I : lh_II) : Nat → Int32 → Option (Nat)
  | 0, _ => none
  | n + 1, v5 => if 8 ≤ v5 then some 1 else lh_bd (f_Ha_placeOf a v1 v5 I) fun r8 => if r8 = v4 then some 0 else f_Ha_wouldTake_24 a v1 v4 I n (v5 + 1)
def f_Ha_wouldTake (a : Nat) (x1 : Int32) (x2 : Int32) (x3 : Int32) (I : lh_II) : Option (Int32) := lh_gd (lh_ix x2 4) (lh_gd (lh_ix x1 6) (if (I (a + 4 + 4) x1.toNatClampNeg) = 3 then lh_gd (lh_ix x1 6) (if (I (a + 5 + 4) x1.toNatClampNeg) = x3 then if (I (a + 8 + 4) x2.toNatClampNeg) = (-1) then some 0 else lh_bd (f_Ha_wouldTake_24 a x1 (I (a + 8 + 4) x2.toNatClampNeg) I lh_fuel 0) fun r11 => if r11 = 0 then some 1 else some 0 else some 0) else some 0))
theorem t_Ha_wouldTake_24 {Γ : lh_Cx} {F : lh_FF} {S : lh_SS} {Z : List Frame → Array Value → State → State → Prop} (hG : lh_GX Γ) (hS : lh_lay F S) {a : Nat} (ha : lh_hl F S a) {v1 : Int32} {v4 : Int32} {I : lh_II} {L : lh_LL} : ∀ (n : Nat) (v5 : Int32) (o : Nat), f_Ha_wouldTake_24 a v1 v4 I n v5 = some o → ∀ (x0_ : o = 0 → lh_G Γ m_Ha_wouldTake (lh_R 2 0 0) Z 0 0 33 [] [] (I, L, F, S)), ∀ (x1_ : o = 1 → lh_G Γ m_Ha_wouldTake (lh_R 2 0 0) Z 0 0 37 [] [] (I, L, F, S)), lh_G Γ m_Ha_wouldTake (lh_R 2 0 0) Z 0 0 24 [(0, .ref (a + 4)), (1, .int v1), (4, .int v4), (5, .int v5)] [] (I, L, F, S) := by
  intro n
  induction n with
  | zero => intro v5 o hf; cases hf
  | succ n ih =>
    intro v5 o hf x0_ x1_
    rw [f_Ha_wouldTake_24] at hf
    refine lh_iload (q := 3) rfl rfl ?_
    refine lh_bipush rfl lh_b_8 ?_
    refine lh_icmp_ge rfl (fun c7 => ?_) (fun c7 => ?_)
    · have hf := lh_ifT hf c7
      exact lh_less [] rfl (by cases hf; exact x1_ rfl)
    · have hf := lh_ifF hf c7
      refine lh_aload_n (q := 0) rfl rfl rfl ?_
      refine lh_iload_n (q := 1) rfl rfl rfl ?_
      refine lh_iload (q := 3) rfl rfl ?_
      refine lh_bdE hf (fun r8 e9 hf => ?_)
      refine lh_cVi (N := m_Ha_placeOf) (d := 1) (o := a) (As := [.int v1, .int v5]) (st := []) rfl rfl v_Ha_placeOf (ha.1 0 _ rfl) rfl rfl rfl ⟨rfl, rfl⟩ rfl (t_Ha_placeOf hG hS ha e9 ?_)
      refine lh_iload (q := 2) rfl rfl ?_
      refine lh_icmp_ne rfl (fun c10 => ?_) (fun c10 => ?_)
      · have hf := lh_ifF hf c10
        refine lh_iinc (q := 3) (v := (v5 + 1)) (lv' := [(0, .ref (a + 4)), (1, .int v1), (4, .int v4), (5, .int (v5 + 1))]) rfl rfl (congrArg (v5 + ·) (by decide)) rfl rfl ?_
        refine lh_goto rfl ?_
        exact ih (v5 + 1) _ hf x0_ x1_
      · have hf := lh_ifT hf c10
        exact lh_less [] rfl (by cases hf; exact x0_ rfl)
theorem t_Ha_wouldTake {Γ : lh_Cx} {I : lh_II} {L : lh_LL} {F : lh_FF} {S : lh_SS} {K : Int32 → lh_Hp → Prop} {r : Int32} (hG : lh_GX Γ) (hS : lh_lay F S) {a : Nat} (ha : lh_hl F S a) {x1 : Int32} {x2 : Int32} {x3 : Int32} (hf : f_Ha_wouldTake a x1 x2 x3 I = some r) (hK : K r (I, L, F, S)) : lh_Met Γ m_Ha_wouldTake 2 0 0 [.ref (a + 4), .int x1, .int x2, .int x3] (I, L, F, S) (lh_ki K) := by
  rw [f_Ha_wouldTake] at hf
  refine lh_ofG k_Ha_wouldTake [(0, .ref (a + 4)), (1, .int x1), (2, .int x2), (3, .int x3)] rfl (Nat.le_of_ble_eq_true rfl) rfl ?_
  refine lh_aload_n (q := 0) rfl rfl rfl ?_
  refine lh_getR4 rfl rfl (ha.1 0 _ rfl) rfl (ha.2 7 _ rfl) ?_
  refine lh_iload_n (q := 2) rfl rfl rfl ?_
  obtain ⟨g1, hf⟩ := lh_gdE hf
  refine lh_iald4 rfl (ha.1 8 _ rfl) g1 ?_
  refine lh_istore (lv' := [(0, .ref (a + 4)), (1, .int x1), (2, .int x2), (3, .int x3), (4, .int (I (a + 8 + 4) x2.toNatClampNeg))]) rfl rfl rfl ?_
  refine lh_aload_n (q := 0) rfl rfl rfl ?_
  refine lh_getR4 rfl rfl (ha.1 0 _ rfl) rfl (ha.2 3 _ rfl) ?_
  refine lh_iload_n (q := 1) rfl rfl rfl ?_
  obtain ⟨g2, hf⟩ := lh_gdE hf
  refine lh_iald4 rfl (ha.1 4 _ rfl) g2 ?_
  refine lh_iconst rfl lh_k_3 ?_
  refine lh_icmp_ne rfl (fun c3 => ?_) (fun c3 => ?_)
  · have hf := lh_ifF hf c3
    refine lh_iconst rfl lh_k_0 ?_
    exact lh_iret rfl rfl (by decide) (by obtain rfl := Option.some.inj hf; exact hK)
  · have hf := lh_ifT hf c3
    refine lh_aload_n (q := 0) rfl rfl rfl ?_
    refine lh_getR4 rfl rfl (ha.1 0 _ rfl) rfl (ha.2 4 _ rfl) ?_
    refine lh_iload_n (q := 1) rfl rfl rfl ?_
    obtain ⟨g4, hf⟩ := lh_gdE hf
    refine lh_iald4 rfl (ha.1 5 _ rfl) g4 ?_
    refine lh_iload_n (q := 3) rfl rfl rfl ?_
    refine lh_icmp_ne rfl (fun c5 => ?_) (fun c5 => ?_)
    · have hf := lh_ifF hf c5
      refine lh_iconst rfl lh_k_0 ?_
      exact lh_iret rfl rfl (by decide) (by obtain rfl := Option.some.inj hf; exact hK)
    · have hf := lh_ifT hf c5
      refine lh_iload (q := 4) rfl rfl ?_
      refine lh_iconst rfl lh_k_m1 ?_
      refine lh_icmp_ne rfl (fun c6 => ?_) (fun c6 => ?_)
      · have hf := lh_ifF hf c6
        refine lh_iconst rfl lh_k_0 ?_
        refine lh_istore (lv' := [(0, .ref (a + 4)), (1, .int x1), (2, .int x2), (3, .int x3), (4, .int (I (a + 8 + 4) x2.toNatClampNeg)), (5, .int 0)]) rfl rfl rfl ?_
        refine lh_bdE hf (fun r11 e12 hf => ?_)
        refine lh_less [0, 1, 4, 5] rfl ?_
        refine t_Ha_wouldTake_24 hG hS ha _ 0 _ e12 (fun q0_ => ?_) (fun q1_ => ?_)
        · have hf := lh_ifT hf q0_
          refine lh_iconst rfl lh_k_1 ?_
          exact lh_iret rfl rfl (by decide) (by obtain rfl := Option.some.inj hf; exact hK)
        · have hf := lh_ifF hf (by rw [q1_]; decide)
          refine lh_iconst rfl lh_k_0 ?_
          exact lh_iret rfl rfl (by decide) (by obtain rfl := Option.some.inj hf; exact hK)
      · have hf := lh_ifT hf c6
        refine lh_iconst rfl lh_k_0 ?_
        exact lh_iret rfl rfl (by decide) (by obtain rfl := Option.some.inj hf; exact hK)
def f_Re_refuse (x1 : Int32) (I : lh_II) : Option (Int32 × lh_II) := if (I (1 + 4) 8) = 0 then some (0, lh_u2 I (1 + 4) 8 (x1 + (16 * (I (1 + 4) 5)))) else some (0, I)
theorem t_Re_refuse {Γ : lh_Cx} {I : lh_II} {L : lh_LL} {F : lh_FF} {S : lh_SS} {K : Int32 → lh_Hp → Prop} {r : Int32 × lh_II} (hG : lh_GX Γ) (hS : lh_lay F S)  {x1 : Int32} (hf : f_Re_refuse x1 I = some r) (hK : K r.1 (r.2, L, F, S)) : lh_Met Γ m_Re_refuse 0 0 0 [.ref (1 + 4), .int x1] (I, L, F, S) (lh_ki K) := by
  rw [f_Re_refuse] at hf
  refine lh_ofG k_Re_refuse [(0, .ref (1 + 4)), (1, .int x1)] rfl (Nat.le_of_ble_eq_true rfl) rfl ?_
  refine lh_aload_n (q := 0) rfl rfl rfl ?_
  refine lh_getI4 rfl rfl (hS.1 1 _ rfl) rfl ?_
  refine lh_if_ne rfl (fun c1 => ?_) (fun c1 => ?_)
  · have hf := lh_ifF hf c1
    refine lh_iconst rfl lh_k_0 ?_
    exact lh_iret rfl rfl (by decide) (by obtain rfl := Option.some.inj hf; exact hK)
  · have hf := lh_ifT hf c1
    refine lh_aload_n (q := 0) rfl rfl rfl ?_
    refine lh_iload_n (q := 1) rfl rfl rfl ?_
    refine lh_bipush rfl lh_b_16 ?_
    refine lh_aload_n (q := 0) rfl rfl rfl ?_
    refine lh_getI4 rfl rfl (hS.1 1 _ rfl) rfl ?_
    refine lh_imul rfl ?_
    refine lh_iadd rfl ?_
    refine lh_putI4 rfl rfl (hS.1 1 _ rfl) rfl rfl ?_
    refine lh_iconst rfl lh_k_0 ?_
    exact lh_iret rfl rfl (by decide) (by obtain rfl := Option.some.inj hf; exact hK)
def f_Re_wantNumber (x1 : Int32) (x2 : Int32) (I : lh_II) : Option (Int32 × lh_II) := if (I (1 + 4) 4) = 28 then if (I (1 + 4) 6) < x1 then lh_bd (f_Re_refuse (4 : Int32) I) fun r3 => if r3.1 = 0 then some (0, r3.2) else some (1, r3.2) else if (I (1 + 4) 6) ≤ x2 then some (1, I) else lh_bd (f_Re_refuse (4 : Int32) I) fun r7 => if r7.1 = 0 then some (0, r7.2) else some (1, r7.2) else lh_bd (f_Re_refuse (1 : Int32) I) fun r10 => lh_gd (lh_z r10.1) (some (r10.1, r10.2))
theorem t_Re_wantNumber {Γ : lh_Cx} {I : lh_II} {L : lh_LL} {F : lh_FF} {S : lh_SS} {K : Int32 → lh_Hp → Prop} {r : Int32 × lh_II} (hG : lh_GX Γ) (hS : lh_lay F S)  {x1 : Int32} {x2 : Int32} (hf : f_Re_wantNumber x1 x2 I = some r) (hK : K r.1 (r.2, L, F, S)) : lh_Met Γ m_Re_wantNumber 1 0 0 [.ref (1 + 4), .int x1, .int x2] (I, L, F, S) (lh_ki K) := by
  rw [f_Re_wantNumber] at hf
  refine lh_ofG k_Re_wantNumber [(0, .ref (1 + 4)), (1, .int x1), (2, .int x2)] rfl (Nat.le_of_ble_eq_true rfl) rfl ?_
  refine lh_aload_n (q := 0) rfl rfl rfl ?_
  refine lh_getI4 rfl rfl (hS.1 1 _ rfl) rfl ?_
  refine lh_bipush rfl lh_b_28 ?_
  refine lh_icmp_eq rfl (fun c1 => ?_) (fun c1 => ?_)
  · have hf := lh_ifT hf c1
    refine lh_aload_n (q := 0) rfl rfl rfl ?_
    refine lh_getI4 rfl rfl (hS.1 1 _ rfl) rfl ?_
    refine lh_iload_n (q := 1) rfl rfl rfl ?_
    refine lh_icmp_lt rfl (fun c2 => ?_) (fun c2 => ?_)
    · have hf := lh_ifT hf c2
      refine lh_aload_n (q := 0) rfl rfl rfl ?_
      refine lh_iconst rfl lh_k_4 ?_
      refine lh_bdE hf (fun r3 e4 hf => ?_)
      refine lh_cVi (N := m_Re_refuse) (d := 0) (o := 1) (As := [.int 4]) (st := []) rfl rfl v_Re_refuse (hS.1 1 _ rfl) rfl rfl rfl ⟨rfl, rfl⟩ rfl (t_Re_refuse hG hS e4 ?_)
      refine lh_if_eq rfl (fun c5 => ?_) (fun c5 => ?_)
      · have hf := lh_ifT hf c5
        refine lh_iconst rfl lh_k_0 ?_
        exact lh_iret rfl rfl (by decide) (by obtain rfl := Option.some.inj hf; exact hK)
      · have hf := lh_ifF hf c5
        refine lh_iconst rfl lh_k_1 ?_
        refine lh_goto rfl ?_
        exact lh_iret rfl rfl (by decide) (by obtain rfl := Option.some.inj hf; exact hK)
    · have hf := lh_ifF hf c2
      refine lh_aload_n (q := 0) rfl rfl rfl ?_
      refine lh_getI4 rfl rfl (hS.1 1 _ rfl) rfl ?_
      refine lh_iload_n (q := 2) rfl rfl rfl ?_
      refine lh_icmp_le rfl (fun c6 => ?_) (fun c6 => ?_)
      · have hf := lh_ifT hf c6
        refine lh_iconst rfl lh_k_1 ?_
        refine lh_goto rfl ?_
        exact lh_iret rfl rfl (by decide) (by obtain rfl := Option.some.inj hf; exact hK)
      · have hf := lh_ifF hf c6
        refine lh_aload_n (q := 0) rfl rfl rfl ?_
        refine lh_iconst rfl lh_k_4 ?_
        refine lh_bdE hf (fun r7 e8 hf => ?_)
        refine lh_cVi (N := m_Re_refuse) (d := 0) (o := 1) (As := [.int 4]) (st := []) rfl rfl v_Re_refuse (hS.1 1 _ rfl) rfl rfl rfl ⟨rfl, rfl⟩ rfl (t_Re_refuse hG hS e8 ?_)
        refine lh_if_eq rfl (fun c9 => ?_) (fun c9 => ?_)
        · have hf := lh_ifT hf c9
          refine lh_iconst rfl lh_k_0 ?_
          exact lh_iret rfl rfl (by decide) (by obtain rfl := Option.some.inj hf; exact hK)
        · have hf := lh_ifF hf c9
          refine lh_iconst rfl lh_k_1 ?_
          refine lh_goto rfl ?_
          exact lh_iret rfl rfl (by decide) (by obtain rfl := Option.some.inj hf; exact hK)
  · have hf := lh_ifF hf c1
    refine lh_aload_n (q := 0) rfl rfl rfl ?_
    refine lh_iconst rfl lh_k_1 ?_
    refine lh_bdE hf (fun r10 e11 hf => ?_)
    refine lh_cVi (N := m_Re_refuse) (d := 0) (o := 1) (As := [.int 1]) (st := []) rfl rfl v_Re_refuse (hS.1 1 _ rfl) rfl rfl rfl ⟨rfl, rfl⟩ rfl (t_Re_refuse hG hS e11 ?_)
    obtain ⟨g12, hf⟩ := lh_gdE hf
    exact lh_iret rfl rfl (lh_z_nar g12) (by obtain rfl := Option.some.inj hf; exact hK)
def f_Re_isLetter (x1 : Int32) : Option (Int32) := if x1 < 97 then some 0 else if 122 < x1 then some 0 else some 1
theorem t_Re_isLetter {Γ : lh_Cx} {I : lh_II} {L : lh_LL} {F : lh_FF} {S : lh_SS} {K : Int32 → lh_Hp → Prop} {r : Int32} (hG : lh_GX Γ) (hS : lh_lay F S)  {x1 : Int32} (hf : f_Re_isLetter x1 = some r) (hK : K r (I, L, F, S)) : lh_Met Γ m_Re_isLetter 0 0 0 [.int x1] (I, L, F, S) (lh_ki K) := by
  rw [f_Re_isLetter] at hf
  refine lh_ofG k_Re_isLetter [(0, .int x1)] rfl (Nat.le_of_ble_eq_true rfl) rfl ?_
  refine lh_iload_n (q := 0) rfl rfl rfl ?_
  refine lh_bipush rfl lh_b_97 ?_
  refine lh_icmp_lt rfl (fun c1 => ?_) (fun c1 => ?_)
  · have hf := lh_ifT hf c1
    refine lh_iconst rfl lh_k_0 ?_
    exact lh_iret rfl rfl (by decide) (by obtain rfl := Option.some.inj hf; exact hK)
  · have hf := lh_ifF hf c1
    refine lh_iload_n (q := 0) rfl rfl rfl ?_
    refine lh_bipush rfl lh_b_122 ?_
    refine lh_icmp_gt rfl (fun c2 => ?_) (fun c2 => ?_)
    · have hf := lh_ifT hf c2
      refine lh_iconst rfl lh_k_0 ?_
      exact lh_iret rfl rfl (by decide) (by obtain rfl := Option.some.inj hf; exact hK)
    · have hf := lh_ifF hf c2
      refine lh_iconst rfl lh_k_1 ?_
      refine lh_goto rfl ?_
      exact lh_iret rfl rfl (by decide) (by obtain rfl := Option.some.inj hf; exact hK)
def f_Re_withLetter (x1 : Int64) (x2 : Int32) : Option (Int64) := some ((x1 <<< ((5 : Int32).toInt64 &&& 63)) ||| ((x2 - 97) + 1).toInt64)
theorem t_Re_withLetter {Γ : lh_Cx} {I : lh_II} {L : lh_LL} {F : lh_FF} {S : lh_SS} {K : Int64 → lh_Hp → Prop} {r : Int64} (hG : lh_GX Γ) (hS : lh_lay F S)  {x1 : Int64} {x2 : Int32} (hf : f_Re_withLetter x1 x2 = some r) (hK : K r (I, L, F, S)) : lh_Met Γ m_Re_withLetter 0 0 0 [.long x1, .int x2] (I, L, F, S) (lh_kl K) := by
  rw [f_Re_withLetter] at hf
  refine lh_ofG k_Re_withLetter [(0, .long x1), (2, .int x2)] rfl (Nat.le_of_ble_eq_true rfl) rfl ?_
  refine lh_lload_n (q := 0) rfl rfl rfl ?_
  refine lh_iconst rfl lh_k_5 ?_
  refine lh_lshl rfl ?_
  refine lh_iload_n (q := 1) rfl rfl rfl ?_
  refine lh_bipush rfl lh_b_97 ?_
  refine lh_isub rfl ?_
  refine lh_iconst rfl lh_k_1 ?_
  refine lh_iadd rfl ?_
  refine lh_i2l rfl ?_
  refine lh_lor rfl ?_
  exact lh_lret rfl rfl (by obtain rfl := Option.some.inj hf; exact hK)
def f_Re_readWord_3 : Nat → lh_II → lh_LL → Option (lh_II × lh_LL)
  | 0, _, _ => none
  | n + 1, I, L => if (I (1 + 4) 2) ≤ (I (1 + 4) 3) then some (I, L) else lh_gd (lh_ix (I (1 + 4) 3) 1000) (lh_bd (f_Re_isLetter (I (2 + 4) (I (1 + 4) 3).toNatClampNeg)) fun r3 => if r3 = 0 then some (I, L) else lh_gd (lh_ix (I (1 + 4) 3) 1000) (lh_bd (f_Re_withLetter (L (1 + 4) 7) (I (2 + 4) (I (1 + 4) 3).toNatClampNeg)) fun r7 => f_Re_readWord_3 n (lh_u2 I (1 + 4) 3 ((I (1 + 4) 3) + 1)) (lh_v2 L (1 + 4) 7 r7)))
def f_Re_readWord_46 (L : lh_LL) : Nat → Int32 → lh_II → Option (lh_II)
  | 0, _, _ => none
  | n + 1, v1, I => if 27 ≤ v1 then some I else if (I (1 + 4) 4) = 27 then lh_gd (lh_ix v1 27) (if (lg_cmp (L (3 + 4) v1.toNatClampNeg) (L (1 + 4) 7)) = 0 then f_Re_readWord_46 L n (v1 + 1) (lh_u2 I (1 + 4) 4 v1) else f_Re_readWord_46 L n (v1 + 1) I) else some I
def f_Re_readWord (I : lh_II) (L : lh_LL) : Option (lh_II × lh_LL) := lh_bd (f_Re_readWord_3 lh_fuel I (lh_v2 L (1 + 4) 7 0)) fun r9 => if 8 < ((r9.1 (1 + 4) 3) - (r9.1 (1 + 4) 5)) then lh_bd (f_Re_readWord_46 r9.2 lh_fuel 0 (lh_u2 r9.1 (1 + 4) 4 38)) fun r16 => some (r16, r9.2) else lh_bd (f_Re_readWord_46 r9.2 lh_fuel 0 (lh_u2 r9.1 (1 + 4) 4 27)) fun r18 => some (r18, r9.2)
theorem t_Re_readWord_3 {Γ : lh_Cx} {F : lh_FF} {S : lh_SS} {Z : List Frame → Array Value → State → State → Prop} (hG : lh_GX Γ) (hS : lh_lay F S)   : ∀ (n : Nat) (I : lh_II) (L : lh_LL) (o : lh_II × lh_LL), f_Re_readWord_3 n I L = some o → ∀ (x0_ : lh_G Γ m_Re_readWord (lh_R 1 0 0) Z 0 0 32 [(0, .ref (1 + 4))] [] (o.1, o.2, F, S)), lh_G Γ m_Re_readWord (lh_R 1 0 0) Z 0 0 3 [(0, .ref (1 + 4))] [] (I, L, F, S) := by
  intro n
  induction n with
  | zero => intro I L o hf; cases hf
  | succ n ih =>
    intro I L o hf x0_
    rw [f_Re_readWord_3] at hf
    refine lh_aload_n (q := 0) rfl rfl rfl ?_
    refine lh_getI4 rfl rfl (hS.1 1 _ rfl) rfl ?_
    refine lh_aload_n (q := 0) rfl rfl rfl ?_
    refine lh_getI4 rfl rfl (hS.1 1 _ rfl) rfl ?_
    refine lh_icmp_ge rfl (fun c1 => ?_) (fun c1 => ?_)
    · have hf := lh_ifT hf c1
      cases hf; exact x0_
    · have hf := lh_ifF hf c1
      refine lh_aload_n (q := 0) rfl rfl rfl ?_
      refine lh_getR4 rfl rfl (hS.1 1 _ rfl) rfl (hS.2 0 _ rfl) ?_
      refine lh_aload_n (q := 0) rfl rfl rfl ?_
      refine lh_getI4 rfl rfl (hS.1 1 _ rfl) rfl ?_
      obtain ⟨g2, hf⟩ := lh_gdE hf
      refine lh_cald4 rfl (hS.1 2 _ rfl) g2 ?_
      refine lh_bdE hf (fun r3 e4 hf => ?_)
      refine lh_cSi (N := m_Re_isLetter) (d := 0) (As := [.int (I (2 + 4) (I (1 + 4) 3).toNatClampNeg)]) (st := []) rfl rfl v_Re_isLetter rfl rfl ⟨rfl, rfl⟩ rfl (t_Re_isLetter hG hS e4 ?_)
      refine lh_if_eq rfl (fun c5 => ?_) (fun c5 => ?_)
      · have hf := lh_ifT hf c5
        cases hf; exact x0_
      · have hf := lh_ifF hf c5
        refine lh_aload_n (q := 0) rfl rfl rfl ?_
        refine lh_aload_n (q := 0) rfl rfl rfl ?_
        refine lh_getJ4 rfl rfl (hS.1 1 _ rfl) rfl ?_
        refine lh_aload_n (q := 0) rfl rfl rfl ?_
        refine lh_getR4 rfl rfl (hS.1 1 _ rfl) rfl (hS.2 0 _ rfl) ?_
        refine lh_aload_n (q := 0) rfl rfl rfl ?_
        refine lh_getI4 rfl rfl (hS.1 1 _ rfl) rfl ?_
        obtain ⟨g6, hf⟩ := lh_gdE hf
        refine lh_cald4 rfl (hS.1 2 _ rfl) g6 ?_
        refine lh_bdE hf (fun r7 e8 hf => ?_)
        refine lh_cSl (N := m_Re_withLetter) (d := 0) (As := [.long (L (1 + 4) 7), .int (I (2 + 4) (I (1 + 4) 3).toNatClampNeg)]) (st := [.ref (1 + 4)]) rfl rfl v_Re_withLetter rfl rfl ⟨rfl, rfl⟩ rfl (t_Re_withLetter hG hS e8 ?_)
        refine lh_putJ4 rfl rfl (hS.1 1 _ rfl) rfl rfl ?_
        refine lh_aload_n (q := 0) rfl rfl rfl ?_
        refine lh_dup rfl rfl ?_
        refine lh_getI4 rfl rfl (hS.1 1 _ rfl) rfl ?_
        refine lh_iconst rfl lh_k_1 ?_
        refine lh_iadd rfl ?_
        refine lh_putI4 rfl rfl (hS.1 1 _ rfl) rfl rfl ?_
        refine lh_goto rfl ?_
        exact ih (lh_u2 I (1 + 4) 3 ((I (1 + 4) 3) + 1)) (lh_v2 L (1 + 4) 7 r7) _ hf x0_
theorem t_Re_readWord_46 {Γ : lh_Cx} {F : lh_FF} {S : lh_SS} {Z : List Frame → Array Value → State → State → Prop} (hG : lh_GX Γ) (hS : lh_lay F S)   {L : lh_LL} : ∀ (n : Nat) (v1 : Int32) (I : lh_II) (o : lh_II), f_Re_readWord_46 L n v1 I = some o → ∀ (x0_ : lh_G Γ m_Re_readWord (lh_R 1 0 0) Z 0 0 66 [] [] (o, L, F, S)), lh_G Γ m_Re_readWord (lh_R 1 0 0) Z 0 0 46 [(0, .ref (1 + 4)), (1, .int v1)] [] (I, L, F, S) := by
  intro n
  induction n with
  | zero => intro v1 I o hf; cases hf
  | succ n ih =>
    intro v1 I o hf x0_
    rw [f_Re_readWord_46] at hf
    refine lh_iload_n (q := 1) rfl rfl rfl ?_
    refine lh_bipush rfl lh_b_27 ?_
    refine lh_icmp_ge rfl (fun c12 => ?_) (fun c12 => ?_)
    · have hf := lh_ifT hf c12
      exact lh_less [] rfl (by cases hf; exact x0_)
    · have hf := lh_ifF hf c12
      refine lh_aload_n (q := 0) rfl rfl rfl ?_
      refine lh_getI4 rfl rfl (hS.1 1 _ rfl) rfl ?_
      refine lh_bipush rfl lh_b_27 ?_
      refine lh_icmp_ne rfl (fun c13 => ?_) (fun c13 => ?_)
      · have hf := lh_ifF hf c13
        exact lh_less [] rfl (by cases hf; exact x0_)
      · have hf := lh_ifT hf c13
        refine lh_aload_n (q := 0) rfl rfl rfl ?_
        refine lh_getR4 rfl rfl (hS.1 1 _ rfl) rfl (hS.2 1 _ rfl) ?_
        refine lh_iload_n (q := 1) rfl rfl rfl ?_
        obtain ⟨g14, hf⟩ := lh_gdE hf
        refine lh_lald4 rfl (hS.1 3 _ rfl) g14 ?_
        refine lh_aload_n (q := 0) rfl rfl rfl ?_
        refine lh_getJ4 rfl rfl (hS.1 1 _ rfl) rfl ?_
        refine lh_lcmp rfl ?_
        refine lh_if_ne rfl (fun c15 => ?_) (fun c15 => ?_)
        · have hf := lh_ifF hf c15
          refine lh_iinc (q := 1) (v := (v1 + 1)) (lv' := [(0, .ref (1 + 4)), (1, .int (v1 + 1))]) rfl rfl (congrArg (v1 + ·) (by decide)) rfl rfl ?_
          refine lh_goto rfl ?_
          exact ih (v1 + 1) I _ hf x0_
        · have hf := lh_ifT hf c15
          refine lh_aload_n (q := 0) rfl rfl rfl ?_
          refine lh_iload_n (q := 1) rfl rfl rfl ?_
          refine lh_putI4 rfl rfl (hS.1 1 _ rfl) rfl rfl ?_
          refine lh_iinc (q := 1) (v := (v1 + 1)) (lv' := [(0, .ref (1 + 4)), (1, .int (v1 + 1))]) rfl rfl (congrArg (v1 + ·) (by decide)) rfl rfl ?_
          refine lh_goto rfl ?_
          exact ih (v1 + 1) (lh_u2 I (1 + 4) 4 v1) _ hf x0_
theorem t_Re_readWord {Γ : lh_Cx} {I : lh_II} {L : lh_LL} {F : lh_FF} {S : lh_SS} {K : lh_Hp → Prop} {r : lh_II × lh_LL} (hG : lh_GX Γ) (hS : lh_lay F S)  (hf : f_Re_readWord I L = some r) (hK : K (r.1, r.2, F, S)) : lh_Met Γ m_Re_readWord 1 0 0 [.ref (1 + 4)] (I, L, F, S) (lh_kv K) := by
  rw [f_Re_readWord] at hf
  refine lh_ofG k_Re_readWord [(0, .ref (1 + 4))] rfl (Nat.le_of_ble_eq_true rfl) rfl ?_
  refine lh_aload_n (q := 0) rfl rfl rfl ?_
  refine lh_lconst (v := 0) rfl (by decide) ?_
  refine lh_putJ4 rfl rfl (hS.1 1 _ rfl) rfl rfl ?_
  refine lh_bdE hf (fun r9 e10 hf => ?_)
  refine t_Re_readWord_3 hG hS  _ I (lh_v2 L (1 + 4) 7 0) _ e10 ?_
  refine lh_aload_n (q := 0) rfl rfl rfl ?_
  refine lh_aload_n (q := 0) rfl rfl rfl ?_
  refine lh_getI4 rfl rfl (hS.1 1 _ rfl) rfl ?_
  refine lh_aload_n (q := 0) rfl rfl rfl ?_
  refine lh_getI4 rfl rfl (hS.1 1 _ rfl) rfl ?_
  refine lh_isub rfl ?_
  refine lh_bipush rfl lh_b_8 ?_
  refine lh_icmp_gt rfl (fun c11 => ?_) (fun c11 => ?_)
  · have hf := lh_ifT hf c11
    refine lh_bipush rfl lh_b_38 ?_
    refine lh_putI4 rfl rfl (hS.1 1 _ rfl) rfl rfl ?_
    refine lh_iconst rfl lh_k_0 ?_
    refine lh_istore_n (lv' := [(0, .ref (1 + 4)), (1, .int 0)]) rfl rfl rfl rfl ?_
    refine lh_bdE hf (fun r16 e17 hf => ?_)
    refine t_Re_readWord_46 hG hS  _ 0 (lh_u2 r9.1 (1 + 4) 4 38) _ e17 ?_
    exact lh_vret rfl rfl (by obtain rfl := Option.some.inj hf; exact hK)
  · have hf := lh_ifF hf c11
    refine lh_bipush rfl lh_b_27 ?_
    refine lh_goto rfl ?_
    refine lh_putI4 rfl rfl (hS.1 1 _ rfl) rfl rfl ?_
    refine lh_iconst rfl lh_k_0 ?_
    refine lh_istore_n (lv' := [(0, .ref (1 + 4)), (1, .int 0)]) rfl rfl rfl rfl ?_
    refine lh_bdE hf (fun r18 e19 hf => ?_)
    refine t_Re_readWord_46 hG hS  _ 0 (lh_u2 r9.1 (1 + 4) 4 27) _ e19 ?_
    exact lh_vret rfl rfl (by obtain rfl := Option.some.inj hf; exact hK)
def f_Re_isDigit (x1 : Int32) : Option (Int32) := if x1 < 48 then some 0 else if 57 < x1 then some 0 else some 1
theorem t_Re_isDigit {Γ : lh_Cx} {I : lh_II} {L : lh_LL} {F : lh_FF} {S : lh_SS} {K : Int32 → lh_Hp → Prop} {r : Int32} (hG : lh_GX Γ) (hS : lh_lay F S)  {x1 : Int32} (hf : f_Re_isDigit x1 = some r) (hK : K r (I, L, F, S)) : lh_Met Γ m_Re_isDigit 0 0 0 [.int x1] (I, L, F, S) (lh_ki K) := by
  rw [f_Re_isDigit] at hf
  refine lh_ofG k_Re_isDigit [(0, .int x1)] rfl (Nat.le_of_ble_eq_true rfl) rfl ?_
  refine lh_iload_n (q := 0) rfl rfl rfl ?_
  refine lh_bipush rfl lh_b_48 ?_
  refine lh_icmp_lt rfl (fun c1 => ?_) (fun c1 => ?_)
  · have hf := lh_ifT hf c1
    refine lh_iconst rfl lh_k_0 ?_
    exact lh_iret rfl rfl (by decide) (by obtain rfl := Option.some.inj hf; exact hK)
  · have hf := lh_ifF hf c1
    refine lh_iload_n (q := 0) rfl rfl rfl ?_
    refine lh_bipush rfl lh_b_57 ?_
    refine lh_icmp_gt rfl (fun c2 => ?_) (fun c2 => ?_)
    · have hf := lh_ifT hf c2
      refine lh_iconst rfl lh_k_0 ?_
      exact lh_iret rfl rfl (by decide) (by obtain rfl := Option.some.inj hf; exact hK)
    · have hf := lh_ifF hf c2
      refine lh_iconst rfl lh_k_1 ?_
      refine lh_goto rfl ?_
      exact lh_iret rfl rfl (by decide) (by obtain rfl := Option.some.inj hf; exact hK)
def f_Re_readNumber_3 : Nat → lh_II → Option (lh_II)
  | 0, _ => none
  | n + 1, I => if (I (1 + 4) 2) ≤ (I (1 + 4) 3) then some I else lh_gd (lh_ix (I (1 + 4) 3) 1000) (lh_bd (f_Re_isDigit (I (2 + 4) (I (1 + 4) 3).toNatClampNeg)) fun r3 => if r3 = 0 then some I else lh_gd (lh_ix (I (1 + 4) 3) 1000) (f_Re_readNumber_3 n (lh_u2 (lh_u2 I (1 + 4) 6 (((((I (1 + 4) 6) * 10) - ((I (1 + 4) 6) * 10) / 100000 * 100000) + (I (2 + 4) (I (1 + 4) 3).toNatClampNeg)) - 48)) (1 + 4) 3 (((lh_u2 I (1 + 4) 6 (((((I (1 + 4) 6) * 10) - ((I (1 + 4) 6) * 10) / 100000 * 100000) + (I (2 + 4) (I (1 + 4) 3).toNatClampNeg)) - 48)) (1 + 4) 3) + 1))))
def f_Re_readNumber (I : lh_II) : Option (lh_II) := lh_bd (f_Re_readNumber_3 lh_fuel (lh_u2 I (1 + 4) 6 0)) fun r7 => if 4 < ((r7 (1 + 4) 3) - (r7 (1 + 4) 5)) then some (lh_u2 r7 (1 + 4) 4 38) else some (lh_u2 r7 (1 + 4) 4 28)
theorem t_Re_readNumber_3 {Γ : lh_Cx} {F : lh_FF} {S : lh_SS} {Z : List Frame → Array Value → State → State → Prop} (hG : lh_GX Γ) (hS : lh_lay F S)   {L : lh_LL} : ∀ (n : Nat) (I : lh_II) (o : lh_II), f_Re_readNumber_3 n I = some o → ∀ (x0_ : lh_G Γ m_Re_readNumber (lh_R 1 0 0) Z 0 0 38 [(0, .ref (1 + 4))] [] (o, L, F, S)), lh_G Γ m_Re_readNumber (lh_R 1 0 0) Z 0 0 3 [(0, .ref (1 + 4))] [] (I, L, F, S) := by
  intro n
  induction n with
  | zero => intro I o hf; cases hf
  | succ n ih =>
    intro I o hf x0_
    rw [f_Re_readNumber_3] at hf
    refine lh_aload_n (q := 0) rfl rfl rfl ?_
    refine lh_getI4 rfl rfl (hS.1 1 _ rfl) rfl ?_
    refine lh_aload_n (q := 0) rfl rfl rfl ?_
    refine lh_getI4 rfl rfl (hS.1 1 _ rfl) rfl ?_
    refine lh_icmp_ge rfl (fun c1 => ?_) (fun c1 => ?_)
    · have hf := lh_ifT hf c1
      cases hf; exact x0_
    · have hf := lh_ifF hf c1
      refine lh_aload_n (q := 0) rfl rfl rfl ?_
      refine lh_getR4 rfl rfl (hS.1 1 _ rfl) rfl (hS.2 0 _ rfl) ?_
      refine lh_aload_n (q := 0) rfl rfl rfl ?_
      refine lh_getI4 rfl rfl (hS.1 1 _ rfl) rfl ?_
      obtain ⟨g2, hf⟩ := lh_gdE hf
      refine lh_cald4 rfl (hS.1 2 _ rfl) g2 ?_
      refine lh_bdE hf (fun r3 e4 hf => ?_)
      refine lh_cSi (N := m_Re_isDigit) (d := 0) (As := [.int (I (2 + 4) (I (1 + 4) 3).toNatClampNeg)]) (st := []) rfl rfl v_Re_isDigit rfl rfl ⟨rfl, rfl⟩ rfl (t_Re_isDigit hG hS e4 ?_)
      refine lh_if_eq rfl (fun c5 => ?_) (fun c5 => ?_)
      · have hf := lh_ifT hf c5
        cases hf; exact x0_
      · have hf := lh_ifF hf c5
        refine lh_aload_n (q := 0) rfl rfl rfl ?_
        refine lh_aload_n (q := 0) rfl rfl rfl ?_
        refine lh_getI4 rfl rfl (hS.1 1 _ rfl) rfl ?_
        refine lh_bipush rfl lh_b_10 ?_
        refine lh_imul rfl ?_
        refine lh_ldc rfl rfl ?_
        refine lh_irem rfl (by decide) ?_
        refine lh_aload_n (q := 0) rfl rfl rfl ?_
        refine lh_getR4 rfl rfl (hS.1 1 _ rfl) rfl (hS.2 0 _ rfl) ?_
        refine lh_aload_n (q := 0) rfl rfl rfl ?_
        refine lh_getI4 rfl rfl (hS.1 1 _ rfl) rfl ?_
        obtain ⟨g6, hf⟩ := lh_gdE hf
        refine lh_cald4 rfl (hS.1 2 _ rfl) g6 ?_
        refine lh_iadd rfl ?_
        refine lh_bipush rfl lh_b_48 ?_
        refine lh_isub rfl ?_
        refine lh_putI4 rfl rfl (hS.1 1 _ rfl) rfl rfl ?_
        refine lh_aload_n (q := 0) rfl rfl rfl ?_
        refine lh_dup rfl rfl ?_
        refine lh_getI4 rfl rfl (hS.1 1 _ rfl) rfl ?_
        refine lh_iconst rfl lh_k_1 ?_
        refine lh_iadd rfl ?_
        refine lh_putI4 rfl rfl (hS.1 1 _ rfl) rfl rfl ?_
        refine lh_goto rfl ?_
        exact ih (lh_u2 (lh_u2 I (1 + 4) 6 (((((I (1 + 4) 6) * 10) - ((I (1 + 4) 6) * 10) / 100000 * 100000) + (I (2 + 4) (I (1 + 4) 3).toNatClampNeg)) - 48)) (1 + 4) 3 (((lh_u2 I (1 + 4) 6 (((((I (1 + 4) 6) * 10) - ((I (1 + 4) 6) * 10) / 100000 * 100000) + (I (2 + 4) (I (1 + 4) 3).toNatClampNeg)) - 48)) (1 + 4) 3) + 1)) _ hf x0_
theorem t_Re_readNumber {Γ : lh_Cx} {I : lh_II} {L : lh_LL} {F : lh_FF} {S : lh_SS} {K : lh_Hp → Prop} {r : lh_II} (hG : lh_GX Γ) (hS : lh_lay F S)  (hf : f_Re_readNumber I = some r) (hK : K (r, L, F, S)) : lh_Met Γ m_Re_readNumber 1 0 0 [.ref (1 + 4)] (I, L, F, S) (lh_kv K) := by
  rw [f_Re_readNumber] at hf
  refine lh_ofG k_Re_readNumber [(0, .ref (1 + 4))] rfl (Nat.le_of_ble_eq_true rfl) rfl ?_
  refine lh_aload_n (q := 0) rfl rfl rfl ?_
  refine lh_iconst rfl lh_k_0 ?_
  refine lh_putI4 rfl rfl (hS.1 1 _ rfl) rfl rfl ?_
  refine lh_bdE hf (fun r7 e8 hf => ?_)
  refine t_Re_readNumber_3 hG hS  _ (lh_u2 I (1 + 4) 6 0) _ e8 ?_
  refine lh_aload_n (q := 0) rfl rfl rfl ?_
  refine lh_aload_n (q := 0) rfl rfl rfl ?_
  refine lh_getI4 rfl rfl (hS.1 1 _ rfl) rfl ?_
  refine lh_aload_n (q := 0) rfl rfl rfl ?_
  refine lh_getI4 rfl rfl (hS.1 1 _ rfl) rfl ?_
  refine lh_isub rfl ?_
  refine lh_iconst rfl lh_k_4 ?_
  refine lh_icmp_gt rfl (fun c9 => ?_) (fun c9 => ?_)
  · have hf := lh_ifT hf c9
    refine lh_bipush rfl lh_b_38 ?_
    refine lh_putI4 rfl rfl (hS.1 1 _ rfl) rfl rfl ?_
    exact lh_vret rfl rfl (by obtain rfl := Option.some.inj hf; exact hK)
  · have hf := lh_ifF hf c9
    refine lh_bipush rfl lh_b_28 ?_
    refine lh_goto rfl ?_
    refine lh_putI4 rfl rfl (hS.1 1 _ rfl) rfl rfl ?_
    exact lh_vret rfl rfl (by obtain rfl := Option.some.inj hf; exact hK)
def f_Re_advance_0 : Nat → lh_II → Option (lh_II)
  | 0, _ => none
  | n + 1, I => if (I (1 + 4) 2) ≤ (I (1 + 4) 3) then some I else lh_gd (lh_ix (I (1 + 4) 3) 1000) (if (I (2 + 4) (I (1 + 4) 3).toNatClampNeg) = 10 then f_Re_advance_0 n (lh_u2 I (1 + 4) 3 ((I (1 + 4) 3) + 1)) else lh_gd (lh_ix (I (1 + 4) 3) 1000) (if (I (2 + 4) (I (1 + 4) 3).toNatClampNeg) = 32 then f_Re_advance_0 n (lh_u2 I (1 + 4) 3 ((I (1 + 4) 3) + 1)) else some I))
def f_Re_advance (I : lh_II) (L : lh_LL) : Option (lh_II × lh_LL) := lh_bd (f_Re_advance_0 lh_fuel I) fun r6 => if ((lh_u2 r6 (1 + 4) 5 (r6 (1 + 4) 3)) (1 + 4) 3) < ((lh_u2 r6 (1 + 4) 5 (r6 (1 + 4) 3)) (1 + 4) 2) then lh_gd (lh_ix ((lh_u2 r6 (1 + 4) 5 (r6 (1 + 4) 3)) (1 + 4) 3) 1000) (lh_bd (f_Re_isLetter ((lh_u2 r6 (1 + 4) 5 (r6 (1 + 4) 3)) (2 + 4) ((lh_u2 r6 (1 + 4) 5 (r6 (1 + 4) 3)) (1 + 4) 3).toNatClampNeg)) fun r10 => if r10 = 0 then lh_gd (lh_ix ((lh_u2 r6 (1 + 4) 5 (r6 (1 + 4) 3)) (1 + 4) 3) 1000) (lh_bd (f_Re_isDigit ((lh_u2 r6 (1 + 4) 5 (r6 (1 + 4) 3)) (2 + 4) ((lh_u2 r6 (1 + 4) 5 (r6 (1 + 4) 3)) (1 + 4) 3).toNatClampNeg)) fun r14 => if r14 = 0 then lh_gd (lh_ix ((lh_u2 r6 (1 + 4) 5 (r6 (1 + 4) 3)) (1 + 4) 3) 1000) (lh_bd (f_St_indexOf1 1 ((lh_u2 r6 (1 + 4) 5 (r6 (1 + 4) 3)) (2 + 4) ((lh_u2 r6 (1 + 4) 5 (r6 (1 + 4) 3)) (1 + 4) 3).toNatClampNeg) (lh_u2 r6 (1 + 4) 5 (r6 (1 + 4) 3))) fun r18 => if r18 < 0 then some (lh_u2 (lh_u2 (lh_u2 r6 (1 + 4) 5 (r6 (1 + 4) 3)) (1 + 4) 4 38) (1 + 4) 3 (((lh_u2 (lh_u2 r6 (1 + 4) 5 (r6 (1 + 4) 3)) (1 + 4) 4 38) (1 + 4) 3) + 1), L) else some (lh_u2 (lh_u2 (lh_u2 r6 (1 + 4) 5 (r6 (1 + 4) 3)) (1 + 4) 4 (29 + r18)) (1 + 4) 3 (((lh_u2 (lh_u2 r6 (1 + 4) 5 (r6 (1 + 4) 3)) (1 + 4) 4 (29 + r18)) (1 + 4) 3) + 1), L)) else lh_bd (f_Re_readNumber (lh_u2 r6 (1 + 4) 5 (r6 (1 + 4) 3))) fun r21 => some (r21, L)) else lh_bd (f_Re_readWord (lh_u2 r6 (1 + 4) 5 (r6 (1 + 4) 3)) L) fun r23 => some (r23.1, r23.2)) else some (lh_u2 (lh_u2 r6 (1 + 4) 5 (r6 (1 + 4) 3)) (1 + 4) 4 37, L)
theorem t_Re_advance_0 {Γ : lh_Cx} {F : lh_FF} {S : lh_SS} {Z : List Frame → Array Value → State → State → Prop} (hG : lh_GX Γ) (hS : lh_lay F S)   {L : lh_LL} : ∀ (n : Nat) (I : lh_II) (o : lh_II), f_Re_advance_0 n I = some o → ∀ (x0_ : lh_G Γ m_Re_advance (lh_R 4 0 0) Z 0 0 26 [(0, .ref (1 + 4))] [] (o, L, F, S)), lh_G Γ m_Re_advance (lh_R 4 0 0) Z 0 0 0 [(0, .ref (1 + 4))] [] (I, L, F, S) := by
  intro n
  induction n with
  | zero => intro I o hf; cases hf
  | succ n ih =>
    intro I o hf x0_
    rw [f_Re_advance_0] at hf
    refine lh_aload_n (q := 0) rfl rfl rfl ?_
    refine lh_getI4 rfl rfl (hS.1 1 _ rfl) rfl ?_
    refine lh_aload_n (q := 0) rfl rfl rfl ?_
    refine lh_getI4 rfl rfl (hS.1 1 _ rfl) rfl ?_
    refine lh_icmp_ge rfl (fun c1 => ?_) (fun c1 => ?_)
    · have hf := lh_ifT hf c1
      cases hf; exact x0_
    · have hf := lh_ifF hf c1
      refine lh_aload_n (q := 0) rfl rfl rfl ?_
      refine lh_getR4 rfl rfl (hS.1 1 _ rfl) rfl (hS.2 0 _ rfl) ?_
      refine lh_aload_n (q := 0) rfl rfl rfl ?_
      refine lh_getI4 rfl rfl (hS.1 1 _ rfl) rfl ?_
      obtain ⟨g2, hf⟩ := lh_gdE hf
      refine lh_cald4 rfl (hS.1 2 _ rfl) g2 ?_
      refine lh_bipush rfl lh_b_10 ?_
      refine lh_icmp_eq rfl (fun c3 => ?_) (fun c3 => ?_)
      · have hf := lh_ifT hf c3
        refine lh_aload_n (q := 0) rfl rfl rfl ?_
        refine lh_dup rfl rfl ?_
        refine lh_getI4 rfl rfl (hS.1 1 _ rfl) rfl ?_
        refine lh_iconst rfl lh_k_1 ?_
        refine lh_iadd rfl ?_
        refine lh_putI4 rfl rfl (hS.1 1 _ rfl) rfl rfl ?_
        refine lh_goto rfl ?_
        exact ih (lh_u2 I (1 + 4) 3 ((I (1 + 4) 3) + 1)) _ hf x0_
      · have hf := lh_ifF hf c3
        refine lh_aload_n (q := 0) rfl rfl rfl ?_
        refine lh_getR4 rfl rfl (hS.1 1 _ rfl) rfl (hS.2 0 _ rfl) ?_
        refine lh_aload_n (q := 0) rfl rfl rfl ?_
        refine lh_getI4 rfl rfl (hS.1 1 _ rfl) rfl ?_
        obtain ⟨g4, hf⟩ := lh_gdE hf
        refine lh_cald4 rfl (hS.1 2 _ rfl) g4 ?_
        refine lh_bipush rfl lh_b_32 ?_
        refine lh_icmp_ne rfl (fun c5 => ?_) (fun c5 => ?_)
        · have hf := lh_ifF hf c5
          cases hf; exact x0_
        · have hf := lh_ifT hf c5
          refine lh_aload_n (q := 0) rfl rfl rfl ?_
          refine lh_dup rfl rfl ?_
          refine lh_getI4 rfl rfl (hS.1 1 _ rfl) rfl ?_
          refine lh_iconst rfl lh_k_1 ?_
          refine lh_iadd rfl ?_
          refine lh_putI4 rfl rfl (hS.1 1 _ rfl) rfl rfl ?_
          refine lh_goto rfl ?_
          exact ih (lh_u2 I (1 + 4) 3 ((I (1 + 4) 3) + 1)) _ hf x0_
theorem t_Re_advance {Γ : lh_Cx} {I : lh_II} {L : lh_LL} {F : lh_FF} {S : lh_SS} {K : lh_Hp → Prop} {r : lh_II × lh_LL} (hG : lh_GX Γ) (hS : lh_lay F S)  (hf : f_Re_advance I L = some r) (hK : K (r.1, r.2, F, S)) : lh_Met Γ m_Re_advance 4 0 0 [.ref (1 + 4)] (I, L, F, S) (lh_kv K) := by
  rw [f_Re_advance] at hf
  refine lh_ofG k_Re_advance [(0, .ref (1 + 4))] rfl (Nat.le_of_ble_eq_true rfl) rfl ?_
  refine lh_bdE hf (fun r6 e7 hf => ?_)
  refine t_Re_advance_0 hG hS  _ I _ e7 ?_
  refine lh_aload_n (q := 0) rfl rfl rfl ?_
  refine lh_aload_n (q := 0) rfl rfl rfl ?_
  refine lh_getI4 rfl rfl (hS.1 1 _ rfl) rfl ?_
  refine lh_putI4 rfl rfl (hS.1 1 _ rfl) rfl rfl ?_
  refine lh_aload_n (q := 0) rfl rfl rfl ?_
  refine lh_getI4 rfl rfl (hS.1 1 _ rfl) rfl ?_
  refine lh_aload_n (q := 0) rfl rfl rfl ?_
  refine lh_getI4 rfl rfl (hS.1 1 _ rfl) rfl ?_
  refine lh_icmp_lt rfl (fun c8 => ?_) (fun c8 => ?_)
  · have hf := lh_ifT hf c8
    refine lh_aload_n (q := 0) rfl rfl rfl ?_
    refine lh_getR4 rfl rfl (hS.1 1 _ rfl) rfl (hS.2 0 _ rfl) ?_
    refine lh_aload_n (q := 0) rfl rfl rfl ?_
    refine lh_getI4 rfl rfl (hS.1 1 _ rfl) rfl ?_
    obtain ⟨g9, hf⟩ := lh_gdE hf
    refine lh_cald4 rfl (hS.1 2 _ rfl) g9 ?_
    refine lh_bdE hf (fun r10 e11 hf => ?_)
    refine lh_cSi (N := m_Re_isLetter) (d := 0) (As := [.int ((lh_u2 r6 (1 + 4) 5 (r6 (1 + 4) 3)) (2 + 4) ((lh_u2 r6 (1 + 4) 5 (r6 (1 + 4) 3)) (1 + 4) 3).toNatClampNeg)]) (st := []) rfl rfl v_Re_isLetter rfl rfl ⟨rfl, rfl⟩ rfl (t_Re_isLetter hG hS e11 ?_)
    refine lh_if_eq rfl (fun c12 => ?_) (fun c12 => ?_)
    · have hf := lh_ifT hf c12
      refine lh_aload_n (q := 0) rfl rfl rfl ?_
      refine lh_getR4 rfl rfl (hS.1 1 _ rfl) rfl (hS.2 0 _ rfl) ?_
      refine lh_aload_n (q := 0) rfl rfl rfl ?_
      refine lh_getI4 rfl rfl (hS.1 1 _ rfl) rfl ?_
      obtain ⟨g13, hf⟩ := lh_gdE hf
      refine lh_cald4 rfl (hS.1 2 _ rfl) g13 ?_
      refine lh_bdE hf (fun r14 e15 hf => ?_)
      refine lh_cSi (N := m_Re_isDigit) (d := 0) (As := [.int ((lh_u2 r6 (1 + 4) 5 (r6 (1 + 4) 3)) (2 + 4) ((lh_u2 r6 (1 + 4) 5 (r6 (1 + 4) 3)) (1 + 4) 3).toNatClampNeg)]) (st := []) rfl rfl v_Re_isDigit rfl rfl ⟨rfl, rfl⟩ rfl (t_Re_isDigit hG hS e15 ?_)
      refine lh_if_eq rfl (fun c16 => ?_) (fun c16 => ?_)
      · have hf := lh_ifT hf c16
        refine lh_ldcG hG rfl rfl ?_
        refine lh_aload_n (q := 0) rfl rfl rfl ?_
        refine lh_getR4 rfl rfl (hS.1 1 _ rfl) rfl (hS.2 0 _ rfl) ?_
        refine lh_aload_n (q := 0) rfl rfl rfl ?_
        refine lh_getI4 rfl rfl (hS.1 1 _ rfl) rfl ?_
        obtain ⟨g17, hf⟩ := lh_gdE hf
        refine lh_cald4 rfl (hS.1 2 _ rfl) g17 ?_
        refine lh_bdE hf (fun r18 e19 hf => ?_)
        refine lh_invVt (i := 1) (N := m_St_indexOf1) (d := 3) (As := [.int ((lh_u2 r6 (1 + 4) 5 (r6 (1 + 4) 3)) (2 + 4) ((lh_u2 r6 (1 + 4) 5 (r6 (1 + 4) 3)) (1 + 4) 3).toNatClampNeg)]) (st := []) hG (by decide) rfl rfl v_St_indexOf1 rfl rfl rfl ⟨rfl, rfl⟩ rfl (lh_gsOut rfl (t_St_indexOf1 hG hS (by decide) e19 ?_))
        refine lh_istore_n (lv' := [(0, .ref (1 + 4)), (1, .int r18)]) rfl rfl rfl rfl ?_
        refine lh_aload_n (q := 0) rfl rfl rfl ?_
        refine lh_iload_n (q := 1) rfl rfl rfl ?_
        refine lh_if_lt rfl (fun c20 => ?_) (fun c20 => ?_)
        · have hf := lh_ifT hf c20
          refine lh_bipush rfl lh_b_38 ?_
          refine lh_putI4 rfl rfl (hS.1 1 _ rfl) rfl rfl ?_
          refine lh_aload_n (q := 0) rfl rfl rfl ?_
          refine lh_dup rfl rfl ?_
          refine lh_getI4 rfl rfl (hS.1 1 _ rfl) rfl ?_
          refine lh_iconst rfl lh_k_1 ?_
          refine lh_iadd rfl ?_
          refine lh_putI4 rfl rfl (hS.1 1 _ rfl) rfl rfl ?_
          exact lh_vret rfl rfl (by obtain rfl := Option.some.inj hf; exact hK)
        · have hf := lh_ifF hf c20
          refine lh_bipush rfl lh_b_29 ?_
          refine lh_iload_n (q := 1) rfl rfl rfl ?_
          refine lh_iadd rfl ?_
          refine lh_goto rfl ?_
          refine lh_putI4 rfl rfl (hS.1 1 _ rfl) rfl rfl ?_
          refine lh_aload_n (q := 0) rfl rfl rfl ?_
          refine lh_dup rfl rfl ?_
          refine lh_getI4 rfl rfl (hS.1 1 _ rfl) rfl ?_
          refine lh_iconst rfl lh_k_1 ?_
          refine lh_iadd rfl ?_
          refine lh_putI4 rfl rfl (hS.1 1 _ rfl) rfl rfl ?_
          exact lh_vret rfl rfl (by obtain rfl := Option.some.inj hf; exact hK)
      · have hf := lh_ifF hf c16
        refine lh_aload_n (q := 0) rfl rfl rfl ?_
        refine lh_bdE hf (fun r21 e22 hf => ?_)
        refine lh_cVv (N := m_Re_readNumber) (d := 1) (o := 1) (As := []) (st := []) rfl rfl v_Re_readNumber (hS.1 1 _ rfl) rfl rfl rfl ⟨rfl, rfl⟩ rfl (t_Re_readNumber hG hS e22 ?_)
        refine lh_goto rfl ?_
        exact lh_vret rfl rfl (by obtain rfl := Option.some.inj hf; exact hK)
    · have hf := lh_ifF hf c12
      refine lh_aload_n (q := 0) rfl rfl rfl ?_
      refine lh_bdE hf (fun r23 e24 hf => ?_)
      refine lh_cVv (N := m_Re_readWord) (d := 1) (o := 1) (As := []) (st := []) rfl rfl v_Re_readWord (hS.1 1 _ rfl) rfl rfl rfl ⟨rfl, rfl⟩ rfl (t_Re_readWord hG hS e24 ?_)
      refine lh_goto rfl ?_
      exact lh_vret rfl rfl (by obtain rfl := Option.some.inj hf; exact hK)
  · have hf := lh_ifF hf c8
    refine lh_aload_n (q := 0) rfl rfl rfl ?_
    refine lh_bipush rfl lh_b_37 ?_
    refine lh_putI4 rfl rfl (hS.1 1 _ rfl) rfl rfl ?_
    refine lh_goto rfl ?_
    exact lh_vret rfl rfl (by obtain rfl := Option.some.inj hf; exact hK)
def f_Hr_readCells_2 (a : Nat) (q : Nat) (z : Nat) (nz : Nat) (v2 : Int32) : Nat → Int32 → lh_II → lh_LL → Option (Nat × Int32 × lh_II × lh_LL)
  | 0, _, _, _ => none
  | n + 1, v3, I, L => if 8 < v3 then some (2, v3, I, L) else if v3 = 0 then lh_bd (f_Re_wantNumber (0 : Int32) (11 : Int32) I) fun r3 => if r3.1 = 0 then some (0, v3, r3.2, L) else if v3 = 8 then some (1, v3, r3.2, L) else if (v2 + v3) < (nI nz) then lh_gd (lh_ix (v2 + v3) nz) (lh_bd (f_Re_advance (lh_u2 r3.2 (z + 4) (v2 + v3).toNatClampNeg (r3.2 (1 + 4) 6)) L) fun r9 => f_Hr_readCells_2 a q z nz v2 n (v3 + 1) r9.1 r9.2) else some (1, v3, r3.2, L) else if (I (1 + 4) 4) = 28 then lh_bd (f_Re_wantNumber (0 : Int32) (11 : Int32) I) fun r12 => if r12.1 = 0 then some (0, v3, r12.2, L) else if v3 = 8 then some (1, v3, r12.2, L) else if (v2 + v3) < (nI nz) then lh_gd (lh_ix (v2 + v3) nz) (lh_bd (f_Re_advance (lh_u2 r12.2 (z + 4) (v2 + v3).toNatClampNeg (r12.2 (1 + 4) 6)) L) fun r18 => f_Hr_readCells_2 a q z nz v2 n (v3 + 1) r18.1 r18.2) else some (1, v3, r12.2, L) else some (2, v3, I, L)
def f_Hr_readCells (a : Nat) (q : Nat) (z : Nat) (nz : Nat) (x1 : Int32) (I : lh_II) (L : lh_LL) : Option (Int32 × lh_II × lh_LL) := lh_bd (f_Hr_readCells_2 a q z nz x1 lh_fuel 0 I L) fun r20 => if r20.1 = 0 then some (0, r20.2.2.1, r20.2.2.2) else if r20.1 = 1 then lh_bd (f_Re_refuse (5 : Int32) r20.2.2.1) fun r22 => some (0, r22.2, r20.2.2.2) else some (r20.2.1, r20.2.2.1, r20.2.2.2)
theorem t_Hr_readCells_2 {Γ : lh_Cx} {F : lh_FF} {S : lh_SS} {Z : List Frame → Array Value → State → State → Prop} (hG : lh_GX Γ) (hS : lh_lay F S) {a : Nat} (ha : lh_hl F S a) {q : Nat} (hq : lh_ql F S q a) {z nz : Nat} (hz : S[z]? = some (0, nz)) (hnz : Nat.ble nz 2000000000 = true) {v2 : Int32} : ∀ (n : Nat) (v3 : Int32) (I : lh_II) (L : lh_LL) (o : Nat × Int32 × lh_II × lh_LL), f_Hr_readCells_2 a q z nz v2 n v3 I L = some o → ∀ (x0_ : o.1 = 0 → lh_G Γ m_Hr_readCells (lh_R 5 0 0) Z 0 0 18 [] [] (o.2.2.1, o.2.2.2, F, S)), ∀ (x1_ : o.1 = 1 → lh_G Γ m_Hr_readCells (lh_R 5 0 0) Z 0 0 29 [(0, .ref (q + 4))] [] (o.2.2.1, o.2.2.2, F, S)), ∀ (x2_ : o.1 = 2 → lh_G Γ m_Hr_readCells (lh_R 5 0 0) Z 0 0 49 [(3, .int o.2.1)] [] (o.2.2.1, o.2.2.2, F, S)), lh_G Γ m_Hr_readCells (lh_R 5 0 0) Z 0 0 2 [(0, .ref (q + 4)), (1, .ref (z + 4)), (2, .int v2), (3, .int v3)] [] (I, L, F, S) := by
  intro n
  induction n with
  | zero => intro v3 I L o hf; cases hf
  | succ n ih =>
    intro v3 I L o hf x0_ x1_ x2_
    rw [f_Hr_readCells_2] at hf
    refine lh_iload_n (q := 3) rfl rfl rfl ?_
    refine lh_bipush rfl lh_b_8 ?_
    refine lh_icmp_gt rfl (fun c1 => ?_) (fun c1 => ?_)
    · have hf := lh_ifT hf c1
      exact lh_less [3] rfl (by cases hf; exact x2_ rfl)
    · have hf := lh_ifF hf c1
      refine lh_iload_n (q := 3) rfl rfl rfl ?_
      refine lh_if_eq rfl (fun c2 => ?_) (fun c2 => ?_)
      · have hf := lh_ifT hf c2
        refine lh_aload_n (q := 0) rfl rfl rfl ?_
        refine lh_getR4 rfl rfl hq.1 rfl hq.2.2.1 ?_
        refine lh_iconst rfl lh_k_0 ?_
        refine lh_bipush rfl lh_b_11 ?_
        refine lh_bdE hf (fun r3 e4 hf => ?_)
        refine lh_cVi (N := m_Re_wantNumber) (d := 1) (o := 1) (As := [.int 0, .int 11]) (st := []) rfl rfl v_Re_wantNumber (hS.1 1 _ rfl) rfl rfl rfl ⟨rfl, rfl⟩ rfl (t_Re_wantNumber hG hS e4 ?_)
        refine lh_if_ne rfl (fun c5 => ?_) (fun c5 => ?_)
        · have hf := lh_ifF hf c5
          refine lh_iload_n (q := 3) rfl rfl rfl ?_
          refine lh_bipush rfl lh_b_8 ?_
          refine lh_icmp_eq rfl (fun c6 => ?_) (fun c6 => ?_)
          · have hf := lh_ifT hf c6
            exact lh_less [0] rfl (by cases hf; exact x1_ rfl)
          · have hf := lh_ifF hf c6
            refine lh_iload_n (q := 2) rfl rfl rfl ?_
            refine lh_iload_n (q := 3) rfl rfl rfl ?_
            refine lh_iadd rfl ?_
            refine lh_aload_n (q := 1) rfl rfl rfl ?_
            refine lh_alen (v := nI nz) rfl hz (by decide) rfl ?_
            refine lh_icmp_lt rfl (fun c7 => ?_) (fun c7 => ?_)
            · have hf := lh_ifT hf c7
              refine lh_aload_n (q := 1) rfl rfl rfl ?_
              refine lh_iload_n (q := 2) rfl rfl rfl ?_
              refine lh_iload_n (q := 3) rfl rfl rfl ?_
              refine lh_iadd rfl ?_
              refine lh_aload_n (q := 0) rfl rfl rfl ?_
              refine lh_getR4 rfl rfl hq.1 rfl hq.2.2.1 ?_
              refine lh_getI4 rfl rfl (hS.1 1 _ rfl) rfl ?_
              obtain ⟨g8, hf⟩ := lh_gdE hf
              refine lh_iast4 rfl hz g8 ?_
              refine lh_iinc (q := 3) (v := (v3 + 1)) (lv' := [(0, .ref (q + 4)), (1, .ref (z + 4)), (2, .int v2), (3, .int (v3 + 1))]) rfl rfl (congrArg (v3 + ·) (by decide)) rfl rfl ?_
              refine lh_aload_n (q := 0) rfl rfl rfl ?_
              refine lh_getR4 rfl rfl hq.1 rfl hq.2.2.1 ?_
              refine lh_bdE hf (fun r9 e10 hf => ?_)
              refine lh_cVv (N := m_Re_advance) (d := 4) (o := 1) (As := []) (st := []) rfl rfl v_Re_advance (hS.1 1 _ rfl) rfl rfl rfl ⟨rfl, rfl⟩ rfl (t_Re_advance hG hS e10 ?_)
              refine lh_goto rfl ?_
              exact ih (v3 + 1) r9.1 r9.2 _ hf x0_ x1_ x2_
            · have hf := lh_ifF hf c7
              exact lh_less [0] rfl (by cases hf; exact x1_ rfl)
        · have hf := lh_ifT hf c5
          exact lh_less [] rfl (by cases hf; exact x0_ rfl)
      · have hf := lh_ifF hf c2
        refine lh_aload_n (q := 0) rfl rfl rfl ?_
        refine lh_getR4 rfl rfl hq.1 rfl hq.2.2.1 ?_
        refine lh_getI4 rfl rfl (hS.1 1 _ rfl) rfl ?_
        refine lh_bipush rfl lh_b_28 ?_
        refine lh_icmp_ne rfl (fun c11 => ?_) (fun c11 => ?_)
        · have hf := lh_ifF hf c11
          exact lh_less [3] rfl (by cases hf; exact x2_ rfl)
        · have hf := lh_ifT hf c11
          refine lh_aload_n (q := 0) rfl rfl rfl ?_
          refine lh_getR4 rfl rfl hq.1 rfl hq.2.2.1 ?_
          refine lh_iconst rfl lh_k_0 ?_
          refine lh_bipush rfl lh_b_11 ?_
          refine lh_bdE hf (fun r12 e13 hf => ?_)
          refine lh_cVi (N := m_Re_wantNumber) (d := 1) (o := 1) (As := [.int 0, .int 11]) (st := []) rfl rfl v_Re_wantNumber (hS.1 1 _ rfl) rfl rfl rfl ⟨rfl, rfl⟩ rfl (t_Re_wantNumber hG hS e13 ?_)
          refine lh_if_ne rfl (fun c14 => ?_) (fun c14 => ?_)
          · have hf := lh_ifF hf c14
            refine lh_iload_n (q := 3) rfl rfl rfl ?_
            refine lh_bipush rfl lh_b_8 ?_
            refine lh_icmp_eq rfl (fun c15 => ?_) (fun c15 => ?_)
            · have hf := lh_ifT hf c15
              exact lh_less [0] rfl (by cases hf; exact x1_ rfl)
            · have hf := lh_ifF hf c15
              refine lh_iload_n (q := 2) rfl rfl rfl ?_
              refine lh_iload_n (q := 3) rfl rfl rfl ?_
              refine lh_iadd rfl ?_
              refine lh_aload_n (q := 1) rfl rfl rfl ?_
              refine lh_alen (v := nI nz) rfl hz (by decide) rfl ?_
              refine lh_icmp_lt rfl (fun c16 => ?_) (fun c16 => ?_)
              · have hf := lh_ifT hf c16
                refine lh_aload_n (q := 1) rfl rfl rfl ?_
                refine lh_iload_n (q := 2) rfl rfl rfl ?_
                refine lh_iload_n (q := 3) rfl rfl rfl ?_
                refine lh_iadd rfl ?_
                refine lh_aload_n (q := 0) rfl rfl rfl ?_
                refine lh_getR4 rfl rfl hq.1 rfl hq.2.2.1 ?_
                refine lh_getI4 rfl rfl (hS.1 1 _ rfl) rfl ?_
                obtain ⟨g17, hf⟩ := lh_gdE hf
                refine lh_iast4 rfl hz g17 ?_
                refine lh_iinc (q := 3) (v := (v3 + 1)) (lv' := [(0, .ref (q + 4)), (1, .ref (z + 4)), (2, .int v2), (3, .int (v3 + 1))]) rfl rfl (congrArg (v3 + ·) (by decide)) rfl rfl ?_
                refine lh_aload_n (q := 0) rfl rfl rfl ?_
                refine lh_getR4 rfl rfl hq.1 rfl hq.2.2.1 ?_
                refine lh_bdE hf (fun r18 e19 hf => ?_)
                refine lh_cVv (N := m_Re_advance) (d := 4) (o := 1) (As := []) (st := []) rfl rfl v_Re_advance (hS.1 1 _ rfl) rfl rfl rfl ⟨rfl, rfl⟩ rfl (t_Re_advance hG hS e19 ?_)
                refine lh_goto rfl ?_
                exact ih (v3 + 1) r18.1 r18.2 _ hf x0_ x1_ x2_
              · have hf := lh_ifF hf c16
                exact lh_less [0] rfl (by cases hf; exact x1_ rfl)
          · have hf := lh_ifT hf c14
            exact lh_less [] rfl (by cases hf; exact x0_ rfl)
theorem t_Hr_readCells {Γ : lh_Cx} {I : lh_II} {L : lh_LL} {F : lh_FF} {S : lh_SS} {K : Int32 → lh_Hp → Prop} {r : Int32 × lh_II × lh_LL} (hG : lh_GX Γ) (hS : lh_lay F S) {a : Nat} (ha : lh_hl F S a) {q : Nat} (hq : lh_ql F S q a) {z nz : Nat} (hz : S[z]? = some (0, nz)) (hnz : Nat.ble nz 2000000000 = true) {x1 : Int32} (hf : f_Hr_readCells a q z nz x1 I L = some r) (hK : K r.1 (r.2.1, r.2.2, F, S)) : lh_Met Γ m_Hr_readCells 5 0 0 [.ref (q + 4), .ref (z + 4), .int x1] (I, L, F, S) (lh_ki K) := by
  rw [f_Hr_readCells] at hf
  refine lh_ofG k_Hr_readCells [(0, .ref (q + 4)), (1, .ref (z + 4)), (2, .int x1)] rfl (Nat.le_of_ble_eq_true rfl) rfl ?_
  refine lh_iconst rfl lh_k_0 ?_
  refine lh_istore_n (lv' := [(0, .ref (q + 4)), (1, .ref (z + 4)), (2, .int x1), (3, .int 0)]) rfl rfl rfl rfl ?_
  refine lh_bdE hf (fun r20 e21 hf => ?_)
  refine t_Hr_readCells_2 hG hS ha hq hz hnz _ 0 I L _ e21 (fun q0_ => ?_) (fun q1_ => ?_) (fun q2_ => ?_)
  · have hf := lh_ifT hf q0_
    refine lh_iconst rfl lh_k_0 ?_
    exact lh_iret rfl rfl rfl (by obtain rfl := Option.some.inj hf; exact hK)
  · have hf := lh_ifF hf (by rw [q1_]; decide); have hf := lh_ifT hf q1_
    refine lh_aload_n (q := 0) rfl rfl rfl ?_
    refine lh_getR4 rfl rfl hq.1 rfl hq.2.2.1 ?_
    refine lh_iconst rfl lh_k_5 ?_
    refine lh_bdE hf (fun r22 e23 hf => ?_)
    refine lh_cVi (N := m_Re_refuse) (d := 0) (o := 1) (As := [.int 5]) (st := []) rfl rfl v_Re_refuse (hS.1 1 _ rfl) rfl rfl rfl ⟨rfl, rfl⟩ rfl (t_Re_refuse hG hS e23 ?_)
    refine lh_pop rfl rfl ?_
    refine lh_iconst rfl lh_k_0 ?_
    exact lh_iret rfl rfl rfl (by obtain rfl := Option.some.inj hf; exact hK)
  · have hf := lh_ifF hf (by rw [q2_]; decide); have hf := lh_ifF hf (by rw [q2_]; decide)
    refine lh_iload_n (q := 0) rfl rfl rfl ?_
    exact lh_iret rfl rfl rfl (by obtain rfl := Option.some.inj hf; exact hK)
def f_Hr_readFellow (a : Nat) (q : Nat) (I : lh_II) (L : lh_LL) : Option (Int32 × lh_II × lh_LL) := lh_bd (f_Hr_readCells a q (a + 9) 8 (0 : Int32) I L) fun r1 => if ((lh_u2 r1.2.1 (a + 4) 16 r1.1) (1 + 4) 8) = 0 then some (1, lh_u2 r1.2.1 (a + 4) 16 r1.1, r1.2.2) else some (0, lh_u2 r1.2.1 (a + 4) 16 r1.1, r1.2.2)
theorem t_Hr_readFellow {Γ : lh_Cx} {I : lh_II} {L : lh_LL} {F : lh_FF} {S : lh_SS} {K : Int32 → lh_Hp → Prop} {r : Int32 × lh_II × lh_LL} (hG : lh_GX Γ) (hS : lh_lay F S) {a : Nat} (ha : lh_hl F S a) {q : Nat} (hq : lh_ql F S q a) (hf : f_Hr_readFellow a q I L = some r) (hK : K r.1 (r.2.1, r.2.2, F, S)) : lh_Met Γ m_Hr_readFellow 6 0 0 [.ref (q + 4)] (I, L, F, S) (lh_ki K) := by
  rw [f_Hr_readFellow] at hf
  refine lh_ofG k_Hr_readFellow [(0, .ref (q + 4))] rfl (Nat.le_of_ble_eq_true rfl) rfl ?_
  refine lh_aload_n (q := 0) rfl rfl rfl ?_
  refine lh_getR4 rfl rfl hq.1 rfl hq.2.2.2.1 ?_
  refine lh_aload_n (q := 0) rfl rfl rfl ?_
  refine lh_aload_n (q := 0) rfl rfl rfl ?_
  refine lh_getR4 rfl rfl hq.1 rfl hq.2.2.2.1 ?_
  refine lh_getR4 rfl rfl (ha.1 0 _ rfl) rfl (ha.2 8 _ rfl) ?_
  refine lh_iconst rfl lh_k_0 ?_
  refine lh_bdE hf (fun r1 e2 hf => ?_)
  refine lh_cVi (N := m_Hr_readCells) (d := 5) (o := q) (As := [.ref (a + 9 + 4), .int 0]) (st := [.ref (a + 4)]) rfl rfl v_Hr_readCells hq.1 rfl rfl rfl ⟨rfl, rfl⟩ rfl (t_Hr_readCells hG hS ha hq (ha.1 9 _ rfl) (by decide) e2 ?_)
  refine lh_putI4 rfl rfl (ha.1 0 _ rfl) rfl rfl ?_
  refine lh_aload_n (q := 0) rfl rfl rfl ?_
  refine lh_getR4 rfl rfl hq.1 rfl hq.2.2.1 ?_
  refine lh_getI4 rfl rfl (hS.1 1 _ rfl) rfl ?_
  refine lh_if_ne rfl (fun c3 => ?_) (fun c3 => ?_)
  · have hf := lh_ifF hf c3
    refine lh_iconst rfl lh_k_0 ?_
    exact lh_iret rfl rfl (by decide) (by obtain rfl := Option.some.inj hf; exact hK)
  · have hf := lh_ifT hf c3
    refine lh_iconst rfl lh_k_1 ?_
    refine lh_goto rfl ?_
    exact lh_iret rfl rfl (by decide) (by obtain rfl := Option.some.inj hf; exact hK)
def f_Hr_readPillar (a : Nat) (q : Nat) (I : lh_II) (L : lh_LL) : Option (Int32 × lh_II × lh_LL) := lh_bd (f_Re_wantNumber (0 : Int32) (11 : Int32) I) fun r1 => if r1.1 = 0 then some (0, r1.2, L) else if ((r1.2 (a + 4) 10) &&& ((1 : Int32) <<< ((r1.2 (1 + 4) 6) &&& 31))) = 0 then lh_bd (f_Re_advance (lh_u2 r1.2 (a + 4) 10 ((r1.2 (a + 4) 10) ||| ((1 : Int32) <<< ((r1.2 (1 + 4) 6) &&& 31)))) L) fun r5 => some (1, r5.1, r5.2) else lh_bd (f_Re_refuse (3 : Int32) r1.2) fun r7 => lh_gd (lh_z r7.1) (some (r7.1, r7.2, L))
theorem t_Hr_readPillar {Γ : lh_Cx} {I : lh_II} {L : lh_LL} {F : lh_FF} {S : lh_SS} {K : Int32 → lh_Hp → Prop} {r : Int32 × lh_II × lh_LL} (hG : lh_GX Γ) (hS : lh_lay F S) {a : Nat} (ha : lh_hl F S a) {q : Nat} (hq : lh_ql F S q a) (hf : f_Hr_readPillar a q I L = some r) (hK : K r.1 (r.2.1, r.2.2, F, S)) : lh_Met Γ m_Hr_readPillar 5 0 0 [.ref (q + 4)] (I, L, F, S) (lh_ki K) := by
  rw [f_Hr_readPillar] at hf
  refine lh_ofG k_Hr_readPillar [(0, .ref (q + 4))] rfl (Nat.le_of_ble_eq_true rfl) rfl ?_
  refine lh_aload_n (q := 0) rfl rfl rfl ?_
  refine lh_getR4 rfl rfl hq.1 rfl hq.2.2.1 ?_
  refine lh_iconst rfl lh_k_0 ?_
  refine lh_bipush rfl lh_b_11 ?_
  refine lh_bdE hf (fun r1 e2 hf => ?_)
  refine lh_cVi (N := m_Re_wantNumber) (d := 1) (o := 1) (As := [.int 0, .int 11]) (st := []) rfl rfl v_Re_wantNumber (hS.1 1 _ rfl) rfl rfl rfl ⟨rfl, rfl⟩ rfl (t_Re_wantNumber hG hS e2 ?_)
  refine lh_if_ne rfl (fun c3 => ?_) (fun c3 => ?_)
  · have hf := lh_ifF hf c3
    refine lh_iconst rfl lh_k_1 ?_
    refine lh_aload_n (q := 0) rfl rfl rfl ?_
    refine lh_getR4 rfl rfl hq.1 rfl hq.2.2.1 ?_
    refine lh_getI4 rfl rfl (hS.1 1 _ rfl) rfl ?_
    refine lh_ishl rfl ?_
    refine lh_istore_n (lv' := [(0, .ref (q + 4)), (1, .int ((1 : Int32) <<< ((r1.2 (1 + 4) 6) &&& 31)))]) rfl rfl rfl rfl ?_
    refine lh_aload_n (q := 0) rfl rfl rfl ?_
    refine lh_getR4 rfl rfl hq.1 rfl hq.2.2.2.1 ?_
    refine lh_getI4 rfl rfl (ha.1 0 _ rfl) rfl ?_
    refine lh_iload_n (q := 1) rfl rfl rfl ?_
    refine lh_iand rfl ?_
    refine lh_if_eq rfl (fun c4 => ?_) (fun c4 => ?_)
    · have hf := lh_ifT hf c4
      refine lh_aload_n (q := 0) rfl rfl rfl ?_
      refine lh_getR4 rfl rfl hq.1 rfl hq.2.2.2.1 ?_
      refine lh_dup rfl rfl ?_
      refine lh_getI4 rfl rfl (ha.1 0 _ rfl) rfl ?_
      refine lh_iload_n (q := 1) rfl rfl rfl ?_
      refine lh_ior rfl ?_
      refine lh_putI4 rfl rfl (ha.1 0 _ rfl) rfl rfl ?_
      refine lh_aload_n (q := 0) rfl rfl rfl ?_
      refine lh_getR4 rfl rfl hq.1 rfl hq.2.2.1 ?_
      refine lh_bdE hf (fun r5 e6 hf => ?_)
      refine lh_cVv (N := m_Re_advance) (d := 4) (o := 1) (As := []) (st := []) rfl rfl v_Re_advance (hS.1 1 _ rfl) rfl rfl rfl ⟨rfl, rfl⟩ rfl (t_Re_advance hG hS e6 ?_)
      refine lh_iconst rfl lh_k_1 ?_
      exact lh_iret rfl rfl (by decide) (by obtain rfl := Option.some.inj hf; exact hK)
    · have hf := lh_ifF hf c4
      refine lh_aload_n (q := 0) rfl rfl rfl ?_
      refine lh_getR4 rfl rfl hq.1 rfl hq.2.2.1 ?_
      refine lh_iconst rfl lh_k_3 ?_
      refine lh_bdE hf (fun r7 e8 hf => ?_)
      refine lh_cVi (N := m_Re_refuse) (d := 0) (o := 1) (As := [.int 3]) (st := []) rfl rfl v_Re_refuse (hS.1 1 _ rfl) rfl rfl rfl ⟨rfl, rfl⟩ rfl (t_Re_refuse hG hS e8 ?_)
      obtain ⟨g9, hf⟩ := lh_gdE hf
      exact lh_iret rfl rfl (lh_z_nar g9) (by obtain rfl := Option.some.inj hf; exact hK)
  · have hf := lh_ifT hf c3
    refine lh_iconst rfl lh_k_0 ?_
    exact lh_iret rfl rfl (by decide) (by obtain rfl := Option.some.inj hf; exact hK)
def f_Hr_takeIfRoom (a : Nat) (q : Nat) (x1 : Int32) (x2 : Int32) (I : lh_II) (L : lh_LL) : Option (Int32 × lh_II × lh_LL) := if x1 < x2 then lh_bd (f_Re_advance I L) fun r2 => some (1, r2.1, r2.2) else lh_bd (f_Re_refuse (5 : Int32) I) fun r4 => lh_gd (lh_z r4.1) (some (r4.1, r4.2, L))
theorem t_Hr_takeIfRoom {Γ : lh_Cx} {I : lh_II} {L : lh_LL} {F : lh_FF} {S : lh_SS} {K : Int32 → lh_Hp → Prop} {r : Int32 × lh_II × lh_LL} (hG : lh_GX Γ) (hS : lh_lay F S) {a : Nat} (ha : lh_hl F S a) {q : Nat} (hq : lh_ql F S q a) {x1 : Int32} {x2 : Int32} (hf : f_Hr_takeIfRoom a q x1 x2 I L = some r) (hK : K r.1 (r.2.1, r.2.2, F, S)) : lh_Met Γ m_Hr_takeIfRoom 5 0 0 [.ref (q + 4), .int x1, .int x2] (I, L, F, S) (lh_ki K) := by
  rw [f_Hr_takeIfRoom] at hf
  refine lh_ofG k_Hr_takeIfRoom [(0, .ref (q + 4)), (1, .int x1), (2, .int x2)] rfl (Nat.le_of_ble_eq_true rfl) rfl ?_
  refine lh_iload_n (q := 1) rfl rfl rfl ?_
  refine lh_iload_n (q := 2) rfl rfl rfl ?_
  refine lh_icmp_lt rfl (fun c1 => ?_) (fun c1 => ?_)
  · have hf := lh_ifT hf c1
    refine lh_aload_n (q := 0) rfl rfl rfl ?_
    refine lh_getR4 rfl rfl hq.1 rfl hq.2.2.1 ?_
    refine lh_bdE hf (fun r2 e3 hf => ?_)
    refine lh_cVv (N := m_Re_advance) (d := 4) (o := 1) (As := []) (st := []) rfl rfl v_Re_advance (hS.1 1 _ rfl) rfl rfl rfl ⟨rfl, rfl⟩ rfl (t_Re_advance hG hS e3 ?_)
    refine lh_iconst rfl lh_k_1 ?_
    exact lh_iret rfl rfl (by decide) (by obtain rfl := Option.some.inj hf; exact hK)
  · have hf := lh_ifF hf c1
    refine lh_aload_n (q := 0) rfl rfl rfl ?_
    refine lh_getR4 rfl rfl hq.1 rfl hq.2.2.1 ?_
    refine lh_iconst rfl lh_k_5 ?_
    refine lh_bdE hf (fun r4 e5 hf => ?_)
    refine lh_cVi (N := m_Re_refuse) (d := 0) (o := 1) (As := [.int 5]) (st := []) rfl rfl v_Re_refuse (hS.1 1 _ rfl) rfl rfl rfl ⟨rfl, rfl⟩ rfl (t_Re_refuse hG hS e5 ?_)
    obtain ⟨g6, hf⟩ := lh_gdE hf
    exact lh_iret rfl rfl (lh_z_nar g6) (by obtain rfl := Option.some.inj hf; exact hK)
def f_Hr_readName_17 (a : Nat) (q : Nat) (I : lh_II) (L : lh_LL) : Nat → Int32 → Option (Nat)
  | 0, _ => none
  | n + 1, v1 => if (I (q + 4) 3) ≤ v1 then some 1 else if 10 ≤ v1 then some 1 else lh_gd (lh_ix v1 10) (if (lg_cmp (L (q + 1 + 4) v1.toNatClampNeg) (L (1 + 4) 7)) = 0 then some 0 else f_Hr_readName_17 a q I L n (v1 + 1))
def f_Hr_readName (a : Nat) (q : Nat) (I : lh_II) (L : lh_LL) : Option (Int32 × lh_II × lh_LL) := if (I (1 + 4) 4) < 23 then lh_bd (f_Re_refuse (1 : Int32) I) fun r2 => lh_gd (lh_z r2.1) (some (r2.1, r2.2, L)) else if (I (1 + 4) 4) ≤ 27 then lh_bd (f_Hr_readName_17 a q I L lh_fuel 0) fun r10 => if r10 = 0 then lh_bd (f_Re_refuse (3 : Int32) I) fun r12 => lh_gd (lh_z r12.1) (some (r12.1, r12.2, L)) else if 10 ≤ (I (q + 4) 3) then lh_bd (f_Re_advance I L) fun r16 => some (1, r16.1, r16.2) else lh_gd (lh_ix (I (q + 4) 3) 10) (lh_bd (f_Re_advance (lh_u2 I (q + 4) 3 ((I (q + 4) 3) + 1)) (lh_v2 L (q + 1 + 4) (I (q + 4) 3).toNatClampNeg (L (1 + 4) 7))) fun r19 => some (1, r19.1, r19.2)) else lh_bd (f_Re_refuse (1 : Int32) I) fun r21 => lh_gd (lh_z r21.1) (some (r21.1, r21.2, L))
theorem t_Hr_readName_17 {Γ : lh_Cx} {F : lh_FF} {S : lh_SS} {Z : List Frame → Array Value → State → State → Prop} (hG : lh_GX Γ) (hS : lh_lay F S) {a : Nat} (ha : lh_hl F S a) {q : Nat} (hq : lh_ql F S q a)  {I : lh_II} {L : lh_LL} : ∀ (n : Nat) (v1 : Int32) (o : Nat), f_Hr_readName_17 a q I L n v1 = some o → ∀ (x0_ : o = 0 → lh_G Γ m_Hr_readName (lh_R 5 0 0) Z 0 0 35 [(0, .ref (q + 4))] [] (I, L, F, S)), ∀ (x1_ : o = 1 → lh_G Γ m_Hr_readName (lh_R 5 0 0) Z 0 0 42 [(0, .ref (q + 4))] [] (I, L, F, S)), lh_G Γ m_Hr_readName (lh_R 5 0 0) Z 0 0 17 [(0, .ref (q + 4)), (1, .int v1)] [] (I, L, F, S) := by
  intro n
  induction n with
  | zero => intro v1 o hf; cases hf
  | succ n ih =>
    intro v1 o hf x0_ x1_
    rw [f_Hr_readName_17] at hf
    refine lh_iload_n (q := 1) rfl rfl rfl ?_
    refine lh_aload_n (q := 0) rfl rfl rfl ?_
    refine lh_getI4 rfl rfl hq.1 rfl ?_
    refine lh_icmp_ge rfl (fun c6 => ?_) (fun c6 => ?_)
    · have hf := lh_ifT hf c6
      exact lh_less [0] rfl (by cases hf; exact x1_ rfl)
    · have hf := lh_ifF hf c6
      refine lh_iload_n (q := 1) rfl rfl rfl ?_
      refine lh_aload_n (q := 0) rfl rfl rfl ?_
      refine lh_getR4 rfl rfl hq.1 rfl hq.2.2.2.2 ?_
      refine lh_alen (v := 10) rfl hq.2.1 (by decide) (by decide) ?_
      refine lh_icmp_ge rfl (fun c7 => ?_) (fun c7 => ?_)
      · have hf := lh_ifT hf c7
        exact lh_less [0] rfl (by cases hf; exact x1_ rfl)
      · have hf := lh_ifF hf c7
        refine lh_aload_n (q := 0) rfl rfl rfl ?_
        refine lh_getR4 rfl rfl hq.1 rfl hq.2.2.2.2 ?_
        refine lh_iload_n (q := 1) rfl rfl rfl ?_
        obtain ⟨g8, hf⟩ := lh_gdE hf
        refine lh_lald4 rfl hq.2.1 g8 ?_
        refine lh_aload_n (q := 0) rfl rfl rfl ?_
        refine lh_getR4 rfl rfl hq.1 rfl hq.2.2.1 ?_
        refine lh_getJ4 rfl rfl (hS.1 1 _ rfl) rfl ?_
        refine lh_lcmp rfl ?_
        refine lh_if_ne rfl (fun c9 => ?_) (fun c9 => ?_)
        · have hf := lh_ifF hf c9
          refine lh_iinc (q := 1) (v := (v1 + 1)) (lv' := [(0, .ref (q + 4)), (1, .int (v1 + 1))]) rfl rfl (congrArg (v1 + ·) (by decide)) rfl rfl ?_
          refine lh_goto rfl ?_
          exact ih (v1 + 1) _ hf x0_ x1_
        · have hf := lh_ifT hf c9
          exact lh_less [0] rfl (by cases hf; exact x0_ rfl)
theorem t_Hr_readName {Γ : lh_Cx} {I : lh_II} {L : lh_LL} {F : lh_FF} {S : lh_SS} {K : Int32 → lh_Hp → Prop} {r : Int32 × lh_II × lh_LL} (hG : lh_GX Γ) (hS : lh_lay F S) {a : Nat} (ha : lh_hl F S a) {q : Nat} (hq : lh_ql F S q a) (hf : f_Hr_readName a q I L = some r) (hK : K r.1 (r.2.1, r.2.2, F, S)) : lh_Met Γ m_Hr_readName 5 0 0 [.ref (q + 4)] (I, L, F, S) (lh_ki K) := by
  rw [f_Hr_readName] at hf
  refine lh_ofG k_Hr_readName [(0, .ref (q + 4))] rfl (Nat.le_of_ble_eq_true rfl) rfl ?_
  refine lh_aload_n (q := 0) rfl rfl rfl ?_
  refine lh_getR4 rfl rfl hq.1 rfl hq.2.2.1 ?_
  refine lh_getI4 rfl rfl (hS.1 1 _ rfl) rfl ?_
  refine lh_bipush rfl lh_b_23 ?_
  refine lh_icmp_lt rfl (fun c1 => ?_) (fun c1 => ?_)
  · have hf := lh_ifT hf c1
    refine lh_aload_n (q := 0) rfl rfl rfl ?_
    refine lh_getR4 rfl rfl hq.1 rfl hq.2.2.1 ?_
    refine lh_iconst rfl lh_k_1 ?_
    refine lh_bdE hf (fun r2 e3 hf => ?_)
    refine lh_cVi (N := m_Re_refuse) (d := 0) (o := 1) (As := [.int 1]) (st := []) rfl rfl v_Re_refuse (hS.1 1 _ rfl) rfl rfl rfl ⟨rfl, rfl⟩ rfl (t_Re_refuse hG hS e3 ?_)
    obtain ⟨g4, hf⟩ := lh_gdE hf
    exact lh_iret rfl rfl (lh_z_nar g4) (by obtain rfl := Option.some.inj hf; exact hK)
  · have hf := lh_ifF hf c1
    refine lh_aload_n (q := 0) rfl rfl rfl ?_
    refine lh_getR4 rfl rfl hq.1 rfl hq.2.2.1 ?_
    refine lh_getI4 rfl rfl (hS.1 1 _ rfl) rfl ?_
    refine lh_bipush rfl lh_b_27 ?_
    refine lh_icmp_le rfl (fun c5 => ?_) (fun c5 => ?_)
    · have hf := lh_ifT hf c5
      refine lh_iconst rfl lh_k_0 ?_
      refine lh_istore_n (lv' := [(0, .ref (q + 4)), (1, .int 0)]) rfl rfl rfl rfl ?_
      refine lh_bdE hf (fun r10 e11 hf => ?_)
      refine t_Hr_readName_17 hG hS ha hq _ 0 _ e11 (fun q0_ => ?_) (fun q1_ => ?_)
      · have hf := lh_ifT hf q0_
        refine lh_aload_n (q := 0) rfl rfl rfl ?_
        refine lh_getR4 rfl rfl hq.1 rfl hq.2.2.1 ?_
        refine lh_iconst rfl lh_k_3 ?_
        refine lh_bdE hf (fun r12 e13 hf => ?_)
        refine lh_cVi (N := m_Re_refuse) (d := 0) (o := 1) (As := [.int 3]) (st := []) rfl rfl v_Re_refuse (hS.1 1 _ rfl) rfl rfl rfl ⟨rfl, rfl⟩ rfl (t_Re_refuse hG hS e13 ?_)
        obtain ⟨g14, hf⟩ := lh_gdE hf
        exact lh_iret rfl rfl (lh_z_nar g14) (by obtain rfl := Option.some.inj hf; exact hK)
      · have hf := lh_ifF hf (by rw [q1_]; decide)
        refine lh_aload_n (q := 0) rfl rfl rfl ?_
        refine lh_getI4 rfl rfl hq.1 rfl ?_
        refine lh_aload_n (q := 0) rfl rfl rfl ?_
        refine lh_getR4 rfl rfl hq.1 rfl hq.2.2.2.2 ?_
        refine lh_alen (v := 10) rfl hq.2.1 (by decide) (by decide) ?_
        refine lh_icmp_ge rfl (fun c15 => ?_) (fun c15 => ?_)
        · have hf := lh_ifT hf c15
          refine lh_aload_n (q := 0) rfl rfl rfl ?_
          refine lh_getR4 rfl rfl hq.1 rfl hq.2.2.1 ?_
          refine lh_bdE hf (fun r16 e17 hf => ?_)
          refine lh_cVv (N := m_Re_advance) (d := 4) (o := 1) (As := []) (st := []) rfl rfl v_Re_advance (hS.1 1 _ rfl) rfl rfl rfl ⟨rfl, rfl⟩ rfl (t_Re_advance hG hS e17 ?_)
          refine lh_iconst rfl lh_k_1 ?_
          exact lh_iret rfl rfl (by decide) (by obtain rfl := Option.some.inj hf; exact hK)
        · have hf := lh_ifF hf c15
          refine lh_aload_n (q := 0) rfl rfl rfl ?_
          refine lh_getR4 rfl rfl hq.1 rfl hq.2.2.2.2 ?_
          refine lh_aload_n (q := 0) rfl rfl rfl ?_
          refine lh_getI4 rfl rfl hq.1 rfl ?_
          refine lh_aload_n (q := 0) rfl rfl rfl ?_
          refine lh_getR4 rfl rfl hq.1 rfl hq.2.2.1 ?_
          refine lh_getJ4 rfl rfl (hS.1 1 _ rfl) rfl ?_
          obtain ⟨g18, hf⟩ := lh_gdE hf
          refine lh_last4 rfl hq.2.1 g18 ?_
          refine lh_aload_n (q := 0) rfl rfl rfl ?_
          refine lh_dup rfl rfl ?_
          refine lh_getI4 rfl rfl hq.1 rfl ?_
          refine lh_iconst rfl lh_k_1 ?_
          refine lh_iadd rfl ?_
          refine lh_putI4 rfl rfl hq.1 rfl rfl ?_
          refine lh_aload_n (q := 0) rfl rfl rfl ?_
          refine lh_getR4 rfl rfl hq.1 rfl hq.2.2.1 ?_
          refine lh_bdE hf (fun r19 e20 hf => ?_)
          refine lh_cVv (N := m_Re_advance) (d := 4) (o := 1) (As := []) (st := []) rfl rfl v_Re_advance (hS.1 1 _ rfl) rfl rfl rfl ⟨rfl, rfl⟩ rfl (t_Re_advance hG hS e20 ?_)
          refine lh_iconst rfl lh_k_1 ?_
          exact lh_iret rfl rfl (by decide) (by obtain rfl := Option.some.inj hf; exact hK)
    · have hf := lh_ifF hf c5
      refine lh_aload_n (q := 0) rfl rfl rfl ?_
      refine lh_getR4 rfl rfl hq.1 rfl hq.2.2.1 ?_
      refine lh_iconst rfl lh_k_1 ?_
      refine lh_bdE hf (fun r21 e22 hf => ?_)
      refine lh_cVi (N := m_Re_refuse) (d := 0) (o := 1) (As := [.int 1]) (st := []) rfl rfl v_Re_refuse (hS.1 1 _ rfl) rfl rfl rfl ⟨rfl, rfl⟩ rfl (t_Re_refuse hG hS e22 ?_)
      obtain ⟨g23, hf⟩ := lh_gdE hf
      exact lh_iret rfl rfl (lh_z_nar g23) (by obtain rfl := Option.some.inj hf; exact hK)
def f_Re_take (x1 : Int32) (I : lh_II) (L : lh_LL) : Option (Int32 × lh_II × lh_LL) := if (I (1 + 4) 4) = x1 then lh_bd (f_Re_advance I L) fun r2 => some (1, r2.1, r2.2) else lh_bd (f_Re_refuse (1 : Int32) I) fun r4 => lh_gd (lh_z r4.1) (some (r4.1, r4.2, L))
theorem t_Re_take {Γ : lh_Cx} {I : lh_II} {L : lh_LL} {F : lh_FF} {S : lh_SS} {K : Int32 → lh_Hp → Prop} {r : Int32 × lh_II × lh_LL} (hG : lh_GX Γ) (hS : lh_lay F S)  {x1 : Int32} (hf : f_Re_take x1 I L = some r) (hK : K r.1 (r.2.1, r.2.2, F, S)) : lh_Met Γ m_Re_take 5 0 0 [.ref (1 + 4), .int x1] (I, L, F, S) (lh_ki K) := by
  rw [f_Re_take] at hf
  refine lh_ofG k_Re_take [(0, .ref (1 + 4)), (1, .int x1)] rfl (Nat.le_of_ble_eq_true rfl) rfl ?_
  refine lh_aload_n (q := 0) rfl rfl rfl ?_
  refine lh_getI4 rfl rfl (hS.1 1 _ rfl) rfl ?_
  refine lh_iload_n (q := 1) rfl rfl rfl ?_
  refine lh_icmp_eq rfl (fun c1 => ?_) (fun c1 => ?_)
  · have hf := lh_ifT hf c1
    refine lh_aload_n (q := 0) rfl rfl rfl ?_
    refine lh_bdE hf (fun r2 e3 hf => ?_)
    refine lh_cVv (N := m_Re_advance) (d := 4) (o := 1) (As := []) (st := []) rfl rfl v_Re_advance (hS.1 1 _ rfl) rfl rfl rfl ⟨rfl, rfl⟩ rfl (t_Re_advance hG hS e3 ?_)
    refine lh_iconst rfl lh_k_1 ?_
    exact lh_iret rfl rfl (by decide) (by obtain rfl := Option.some.inj hf; exact hK)
  · have hf := lh_ifF hf c1
    refine lh_aload_n (q := 0) rfl rfl rfl ?_
    refine lh_iconst rfl lh_k_1 ?_
    refine lh_bdE hf (fun r4 e5 hf => ?_)
    refine lh_cVi (N := m_Re_refuse) (d := 0) (o := 1) (As := [.int 1]) (st := []) rfl rfl v_Re_refuse (hS.1 1 _ rfl) rfl rfl rfl ⟨rfl, rfl⟩ rfl (t_Re_refuse hG hS e5 ?_)
    obtain ⟨g6, hf⟩ := lh_gdE hf
    exact lh_iret rfl rfl (lh_z_nar g6) (by obtain rfl := Option.some.inj hf; exact hK)
def f_Hr_readVisitor (a : Nat) (q : Nat) (I : lh_II) (L : lh_LL) : Option (Int32 × lh_II × lh_LL) := if 6 ≤ (I (a + 4) 11) then some (0, I, L) else lh_bd (f_Hr_readName a q I L) fun r2 => if r2.1 = 0 then some (0, r2.2.1, r2.2.2) else if (r2.2.1 (1 + 4) 4) < 16 then lh_bd (f_Re_refuse (1 : Int32) r2.2.1) fun r6 => lh_gd (lh_z r6.1) (some (r6.1, r6.2, r2.2.2)) else if (r2.2.1 (1 + 4) 4) ≤ 19 then lh_gd (lh_ix (I (a + 4) 11) 6) (lh_bd (f_Re_advance (lh_u2 r2.2.1 (a + 4 + 4) (I (a + 4) 11).toNatClampNeg ((0 + (r2.2.1 (1 + 4) 4)) - 16)) r2.2.2) fun r11 => lh_bd (f_Re_take (3 : Int32) r11.1 r11.2) fun r13 => if r13.1 = 0 then some (0, r13.2.1, r13.2.2) else lh_bd (f_Re_wantNumber (0 : Int32) (3 : Int32) r13.2.1) fun r16 => if r16.1 = 0 then some (0, r16.2, r13.2.2) else lh_gd (lh_ix (I (a + 4) 11) 6) (lh_bd (f_Re_advance (lh_u2 r16.2 (a + 5 + 4) (I (a + 4) 11).toNatClampNeg (r16.2 (1 + 4) 6)) r13.2.2) fun r20 => lh_bd (f_Re_take (4 : Int32) r20.1 r20.2) fun r22 => if r22.1 = 0 then some (0, r22.2.1, r22.2.2) else lh_bd (f_Hr_readCells a q (a + 7) 48 ((I (a + 4) 11) * 8) r22.2.1 r22.2.2) fun r25 => lh_gd (lh_ix (I (a + 4) 11) 6) (if ((lh_u2 (lh_u2 r25.2.1 (a + 6 + 4) (I (a + 4) 11).toNatClampNeg r25.1) (a + 4) 11 (((lh_u2 r25.2.1 (a + 6 + 4) (I (a + 4) 11).toNatClampNeg r25.1) (a + 4) 11) + 1)) (1 + 4) 8) = 0 then some (1, lh_u2 (lh_u2 r25.2.1 (a + 6 + 4) (I (a + 4) 11).toNatClampNeg r25.1) (a + 4) 11 (((lh_u2 r25.2.1 (a + 6 + 4) (I (a + 4) 11).toNatClampNeg r25.1) (a + 4) 11) + 1), r25.2.2) else some (0, lh_u2 (lh_u2 r25.2.1 (a + 6 + 4) (I (a + 4) 11).toNatClampNeg r25.1) (a + 4) 11 (((lh_u2 r25.2.1 (a + 6 + 4) (I (a + 4) 11).toNatClampNeg r25.1) (a + 4) 11) + 1), r25.2.2)))) else lh_bd (f_Re_refuse (1 : Int32) r2.2.1) fun r29 => lh_gd (lh_z r29.1) (some (r29.1, r29.2, r2.2.2))
theorem t_Hr_readVisitor {Γ : lh_Cx} {I : lh_II} {L : lh_LL} {F : lh_FF} {S : lh_SS} {K : Int32 → lh_Hp → Prop} {r : Int32 × lh_II × lh_LL} (hG : lh_GX Γ) (hS : lh_lay F S) {a : Nat} (ha : lh_hl F S a) {q : Nat} (hq : lh_ql F S q a) (hf : f_Hr_readVisitor a q I L = some r) (hK : K r.1 (r.2.1, r.2.2, F, S)) : lh_Met Γ m_Hr_readVisitor 6 0 0 [.ref (q + 4)] (I, L, F, S) (lh_ki K) := by
  rw [f_Hr_readVisitor] at hf
  refine lh_ofG k_Hr_readVisitor [(0, .ref (q + 4))] rfl (Nat.le_of_ble_eq_true rfl) rfl ?_
  refine lh_aload_n (q := 0) rfl rfl rfl ?_
  refine lh_getR4 rfl rfl hq.1 rfl hq.2.2.2.1 ?_
  refine lh_getI4 rfl rfl (ha.1 0 _ rfl) rfl ?_
  refine lh_istore_n (lv' := [(0, .ref (q + 4)), (1, .int (I (a + 4) 11))]) rfl rfl rfl rfl ?_
  refine lh_iload_n (q := 1) rfl rfl rfl ?_
  refine lh_bipush rfl lh_b_6 ?_
  refine lh_icmp_ge rfl (fun c1 => ?_) (fun c1 => ?_)
  · have hf := lh_ifT hf c1
    refine lh_iconst rfl lh_k_0 ?_
    exact lh_iret rfl rfl (by decide) (by obtain rfl := Option.some.inj hf; exact hK)
  · have hf := lh_ifF hf c1
    refine lh_aload_n (q := 0) rfl rfl rfl ?_
    refine lh_bdE hf (fun r2 e3 hf => ?_)
    refine lh_cVi (N := m_Hr_readName) (d := 5) (o := q) (As := []) (st := []) rfl rfl v_Hr_readName hq.1 rfl rfl rfl ⟨rfl, rfl⟩ rfl (t_Hr_readName hG hS ha hq e3 ?_)
    refine lh_if_ne rfl (fun c4 => ?_) (fun c4 => ?_)
    · have hf := lh_ifF hf c4
      refine lh_aload_n (q := 0) rfl rfl rfl ?_
      refine lh_getR4 rfl rfl hq.1 rfl hq.2.2.1 ?_
      refine lh_getI4 rfl rfl (hS.1 1 _ rfl) rfl ?_
      refine lh_bipush rfl lh_b_16 ?_
      refine lh_icmp_lt rfl (fun c5 => ?_) (fun c5 => ?_)
      · have hf := lh_ifT hf c5
        refine lh_aload_n (q := 0) rfl rfl rfl ?_
        refine lh_getR4 rfl rfl hq.1 rfl hq.2.2.1 ?_
        refine lh_iconst rfl lh_k_1 ?_
        refine lh_bdE hf (fun r6 e7 hf => ?_)
        refine lh_cVi (N := m_Re_refuse) (d := 0) (o := 1) (As := [.int 1]) (st := []) rfl rfl v_Re_refuse (hS.1 1 _ rfl) rfl rfl rfl ⟨rfl, rfl⟩ rfl (t_Re_refuse hG hS e7 ?_)
        obtain ⟨g8, hf⟩ := lh_gdE hf
        exact lh_iret rfl rfl (lh_z_nar g8) (by obtain rfl := Option.some.inj hf; exact hK)
      · have hf := lh_ifF hf c5
        refine lh_aload_n (q := 0) rfl rfl rfl ?_
        refine lh_getR4 rfl rfl hq.1 rfl hq.2.2.1 ?_
        refine lh_getI4 rfl rfl (hS.1 1 _ rfl) rfl ?_
        refine lh_bipush rfl lh_b_19 ?_
        refine lh_icmp_le rfl (fun c9 => ?_) (fun c9 => ?_)
        · have hf := lh_ifT hf c9
          refine lh_aload_n (q := 0) rfl rfl rfl ?_
          refine lh_getR4 rfl rfl hq.1 rfl hq.2.2.2.1 ?_
          refine lh_getR4 rfl rfl (ha.1 0 _ rfl) rfl (ha.2 3 _ rfl) ?_
          refine lh_iload_n (q := 1) rfl rfl rfl ?_
          refine lh_iconst rfl lh_k_0 ?_
          refine lh_aload_n (q := 0) rfl rfl rfl ?_
          refine lh_getR4 rfl rfl hq.1 rfl hq.2.2.1 ?_
          refine lh_getI4 rfl rfl (hS.1 1 _ rfl) rfl ?_
          refine lh_iadd rfl ?_
          refine lh_bipush rfl lh_b_16 ?_
          refine lh_isub rfl ?_
          obtain ⟨g10, hf⟩ := lh_gdE hf
          refine lh_iast4 rfl (ha.1 4 _ rfl) g10 ?_
          refine lh_aload_n (q := 0) rfl rfl rfl ?_
          refine lh_getR4 rfl rfl hq.1 rfl hq.2.2.1 ?_
          refine lh_bdE hf (fun r11 e12 hf => ?_)
          refine lh_cVv (N := m_Re_advance) (d := 4) (o := 1) (As := []) (st := []) rfl rfl v_Re_advance (hS.1 1 _ rfl) rfl rfl rfl ⟨rfl, rfl⟩ rfl (t_Re_advance hG hS e12 ?_)
          refine lh_aload_n (q := 0) rfl rfl rfl ?_
          refine lh_getR4 rfl rfl hq.1 rfl hq.2.2.1 ?_
          refine lh_iconst rfl lh_k_3 ?_
          refine lh_bdE hf (fun r13 e14 hf => ?_)
          refine lh_cVi (N := m_Re_take) (d := 5) (o := 1) (As := [.int 3]) (st := []) rfl rfl v_Re_take (hS.1 1 _ rfl) rfl rfl rfl ⟨rfl, rfl⟩ rfl (t_Re_take hG hS e14 ?_)
          refine lh_if_eq rfl (fun c15 => ?_) (fun c15 => ?_)
          · have hf := lh_ifT hf c15
            refine lh_iconst rfl lh_k_0 ?_
            exact lh_iret rfl rfl (by decide) (by obtain rfl := Option.some.inj hf; exact hK)
          · have hf := lh_ifF hf c15
            refine lh_aload_n (q := 0) rfl rfl rfl ?_
            refine lh_getR4 rfl rfl hq.1 rfl hq.2.2.1 ?_
            refine lh_iconst rfl lh_k_0 ?_
            refine lh_iconst rfl lh_k_3 ?_
            refine lh_bdE hf (fun r16 e17 hf => ?_)
            refine lh_cVi (N := m_Re_wantNumber) (d := 1) (o := 1) (As := [.int 0, .int 3]) (st := []) rfl rfl v_Re_wantNumber (hS.1 1 _ rfl) rfl rfl rfl ⟨rfl, rfl⟩ rfl (t_Re_wantNumber hG hS e17 ?_)
            refine lh_if_ne rfl (fun c18 => ?_) (fun c18 => ?_)
            · have hf := lh_ifF hf c18
              refine lh_aload_n (q := 0) rfl rfl rfl ?_
              refine lh_getR4 rfl rfl hq.1 rfl hq.2.2.2.1 ?_
              refine lh_getR4 rfl rfl (ha.1 0 _ rfl) rfl (ha.2 4 _ rfl) ?_
              refine lh_iload_n (q := 1) rfl rfl rfl ?_
              refine lh_aload_n (q := 0) rfl rfl rfl ?_
              refine lh_getR4 rfl rfl hq.1 rfl hq.2.2.1 ?_
              refine lh_getI4 rfl rfl (hS.1 1 _ rfl) rfl ?_
              obtain ⟨g19, hf⟩ := lh_gdE hf
              refine lh_iast4 rfl (ha.1 5 _ rfl) g19 ?_
              refine lh_aload_n (q := 0) rfl rfl rfl ?_
              refine lh_getR4 rfl rfl hq.1 rfl hq.2.2.1 ?_
              refine lh_bdE hf (fun r20 e21 hf => ?_)
              refine lh_cVv (N := m_Re_advance) (d := 4) (o := 1) (As := []) (st := []) rfl rfl v_Re_advance (hS.1 1 _ rfl) rfl rfl rfl ⟨rfl, rfl⟩ rfl (t_Re_advance hG hS e21 ?_)
              refine lh_aload_n (q := 0) rfl rfl rfl ?_
              refine lh_getR4 rfl rfl hq.1 rfl hq.2.2.1 ?_
              refine lh_iconst rfl lh_k_4 ?_
              refine lh_bdE hf (fun r22 e23 hf => ?_)
              refine lh_cVi (N := m_Re_take) (d := 5) (o := 1) (As := [.int 4]) (st := []) rfl rfl v_Re_take (hS.1 1 _ rfl) rfl rfl rfl ⟨rfl, rfl⟩ rfl (t_Re_take hG hS e23 ?_)
              refine lh_if_ne rfl (fun c24 => ?_) (fun c24 => ?_)
              · have hf := lh_ifF hf c24
                refine lh_aload_n (q := 0) rfl rfl rfl ?_
                refine lh_getR4 rfl rfl hq.1 rfl hq.2.2.2.1 ?_
                refine lh_getR4 rfl rfl (ha.1 0 _ rfl) rfl (ha.2 5 _ rfl) ?_
                refine lh_iload_n (q := 1) rfl rfl rfl ?_
                refine lh_aload_n (q := 0) rfl rfl rfl ?_
                refine lh_aload_n (q := 0) rfl rfl rfl ?_
                refine lh_getR4 rfl rfl hq.1 rfl hq.2.2.2.1 ?_
                refine lh_getR4 rfl rfl (ha.1 0 _ rfl) rfl (ha.2 6 _ rfl) ?_
                refine lh_iload_n (q := 1) rfl rfl rfl ?_
                refine lh_bipush rfl lh_b_8 ?_
                refine lh_imul rfl ?_
                refine lh_bdE hf (fun r25 e26 hf => ?_)
                refine lh_cVi (N := m_Hr_readCells) (d := 5) (o := q) (As := [.ref (a + 7 + 4), .int ((I (a + 4) 11) * 8)]) (st := [.int (I (a + 4) 11), .ref (a + 6 + 4)]) rfl rfl v_Hr_readCells hq.1 rfl rfl rfl ⟨rfl, rfl⟩ rfl (t_Hr_readCells hG hS ha hq (ha.1 7 _ rfl) (by decide) e26 ?_)
                obtain ⟨g27, hf⟩ := lh_gdE hf
                refine lh_iast4 rfl (ha.1 6 _ rfl) g27 ?_
                refine lh_aload_n (q := 0) rfl rfl rfl ?_
                refine lh_getR4 rfl rfl hq.1 rfl hq.2.2.2.1 ?_
                refine lh_dup rfl rfl ?_
                refine lh_getI4 rfl rfl (ha.1 0 _ rfl) rfl ?_
                refine lh_iconst rfl lh_k_1 ?_
                refine lh_iadd rfl ?_
                refine lh_putI4 rfl rfl (ha.1 0 _ rfl) rfl rfl ?_
                refine lh_aload_n (q := 0) rfl rfl rfl ?_
                refine lh_getR4 rfl rfl hq.1 rfl hq.2.2.1 ?_
                refine lh_getI4 rfl rfl (hS.1 1 _ rfl) rfl ?_
                refine lh_if_ne rfl (fun c28 => ?_) (fun c28 => ?_)
                · have hf := lh_ifF hf c28
                  refine lh_iconst rfl lh_k_0 ?_
                  exact lh_iret rfl rfl (by decide) (by obtain rfl := Option.some.inj hf; exact hK)
                · have hf := lh_ifT hf c28
                  refine lh_iconst rfl lh_k_1 ?_
                  refine lh_goto rfl ?_
                  exact lh_iret rfl rfl (by decide) (by obtain rfl := Option.some.inj hf; exact hK)
              · have hf := lh_ifT hf c24
                refine lh_iconst rfl lh_k_0 ?_
                exact lh_iret rfl rfl (by decide) (by obtain rfl := Option.some.inj hf; exact hK)
            · have hf := lh_ifT hf c18
              refine lh_iconst rfl lh_k_0 ?_
              exact lh_iret rfl rfl (by decide) (by obtain rfl := Option.some.inj hf; exact hK)
        · have hf := lh_ifF hf c9
          refine lh_aload_n (q := 0) rfl rfl rfl ?_
          refine lh_getR4 rfl rfl hq.1 rfl hq.2.2.1 ?_
          refine lh_iconst rfl lh_k_1 ?_
          refine lh_bdE hf (fun r29 e30 hf => ?_)
          refine lh_cVi (N := m_Re_refuse) (d := 0) (o := 1) (As := [.int 1]) (st := []) rfl rfl v_Re_refuse (hS.1 1 _ rfl) rfl rfl rfl ⟨rfl, rfl⟩ rfl (t_Re_refuse hG hS e30 ?_)
          obtain ⟨g31, hf⟩ := lh_gdE hf
          exact lh_iret rfl rfl (lh_z_nar g31) (by obtain rfl := Option.some.inj hf; exact hK)
    · have hf := lh_ifT hf c4
      refine lh_iconst rfl lh_k_0 ?_
      exact lh_iret rfl rfl (by decide) (by obtain rfl := Option.some.inj hf; exact hK)
def f_Hr_readVase (a : Nat) (q : Nat) (I : lh_II) (L : lh_LL) : Option (Int32 × lh_II × lh_LL) := if 4 ≤ (I (a + 4) 12) then some (0, I, L) else lh_bd (f_Hr_readName a q I L) fun r2 => if r2.1 = 0 then some (0, r2.2.1, r2.2.2) else lh_bd (f_Re_take (6 : Int32) r2.2.1 r2.2.2) fun r5 => if r5.1 = 0 then some (0, r5.2.1, r5.2.2) else lh_bd (f_Re_wantNumber (0 : Int32) (11 : Int32) r5.2.1) fun r8 => if r8.1 = 0 then some (0, r8.2, r5.2.2) else lh_gd (lh_ix (I (a + 4) 12) 4) (lh_bd (f_Re_advance (lh_u2 (lh_u2 r8.2 (a + 8 + 4) (I (a + 4) 12).toNatClampNeg (r8.2 (1 + 4) 6)) (a + 4) 12 (((lh_u2 r8.2 (a + 8 + 4) (I (a + 4) 12).toNatClampNeg (r8.2 (1 + 4) 6)) (a + 4) 12) + 1)) r5.2.2) fun r12 => some (1, r12.1, r12.2))
theorem t_Hr_readVase {Γ : lh_Cx} {I : lh_II} {L : lh_LL} {F : lh_FF} {S : lh_SS} {K : Int32 → lh_Hp → Prop} {r : Int32 × lh_II × lh_LL} (hG : lh_GX Γ) (hS : lh_lay F S) {a : Nat} (ha : lh_hl F S a) {q : Nat} (hq : lh_ql F S q a) (hf : f_Hr_readVase a q I L = some r) (hK : K r.1 (r.2.1, r.2.2, F, S)) : lh_Met Γ m_Hr_readVase 6 0 0 [.ref (q + 4)] (I, L, F, S) (lh_ki K) := by
  rw [f_Hr_readVase] at hf
  refine lh_ofG k_Hr_readVase [(0, .ref (q + 4))] rfl (Nat.le_of_ble_eq_true rfl) rfl ?_
  refine lh_aload_n (q := 0) rfl rfl rfl ?_
  refine lh_getR4 rfl rfl hq.1 rfl hq.2.2.2.1 ?_
  refine lh_getI4 rfl rfl (ha.1 0 _ rfl) rfl ?_
  refine lh_istore_n (lv' := [(0, .ref (q + 4)), (1, .int (I (a + 4) 12))]) rfl rfl rfl rfl ?_
  refine lh_iload_n (q := 1) rfl rfl rfl ?_
  refine lh_iconst rfl lh_k_4 ?_
  refine lh_icmp_ge rfl (fun c1 => ?_) (fun c1 => ?_)
  · have hf := lh_ifT hf c1
    refine lh_iconst rfl lh_k_0 ?_
    exact lh_iret rfl rfl (by decide) (by obtain rfl := Option.some.inj hf; exact hK)
  · have hf := lh_ifF hf c1
    refine lh_aload_n (q := 0) rfl rfl rfl ?_
    refine lh_bdE hf (fun r2 e3 hf => ?_)
    refine lh_cVi (N := m_Hr_readName) (d := 5) (o := q) (As := []) (st := []) rfl rfl v_Hr_readName hq.1 rfl rfl rfl ⟨rfl, rfl⟩ rfl (t_Hr_readName hG hS ha hq e3 ?_)
    refine lh_if_eq rfl (fun c4 => ?_) (fun c4 => ?_)
    · have hf := lh_ifT hf c4
      refine lh_iconst rfl lh_k_0 ?_
      exact lh_iret rfl rfl (by decide) (by obtain rfl := Option.some.inj hf; exact hK)
    · have hf := lh_ifF hf c4
      refine lh_aload_n (q := 0) rfl rfl rfl ?_
      refine lh_getR4 rfl rfl hq.1 rfl hq.2.2.1 ?_
      refine lh_bipush rfl lh_b_6 ?_
      refine lh_bdE hf (fun r5 e6 hf => ?_)
      refine lh_cVi (N := m_Re_take) (d := 5) (o := 1) (As := [.int 6]) (st := []) rfl rfl v_Re_take (hS.1 1 _ rfl) rfl rfl rfl ⟨rfl, rfl⟩ rfl (t_Re_take hG hS e6 ?_)
      refine lh_if_eq rfl (fun c7 => ?_) (fun c7 => ?_)
      · have hf := lh_ifT hf c7
        refine lh_iconst rfl lh_k_0 ?_
        exact lh_iret rfl rfl (by decide) (by obtain rfl := Option.some.inj hf; exact hK)
      · have hf := lh_ifF hf c7
        refine lh_aload_n (q := 0) rfl rfl rfl ?_
        refine lh_getR4 rfl rfl hq.1 rfl hq.2.2.1 ?_
        refine lh_iconst rfl lh_k_0 ?_
        refine lh_bipush rfl lh_b_11 ?_
        refine lh_bdE hf (fun r8 e9 hf => ?_)
        refine lh_cVi (N := m_Re_wantNumber) (d := 1) (o := 1) (As := [.int 0, .int 11]) (st := []) rfl rfl v_Re_wantNumber (hS.1 1 _ rfl) rfl rfl rfl ⟨rfl, rfl⟩ rfl (t_Re_wantNumber hG hS e9 ?_)
        refine lh_if_ne rfl (fun c10 => ?_) (fun c10 => ?_)
        · have hf := lh_ifF hf c10
          refine lh_aload_n (q := 0) rfl rfl rfl ?_
          refine lh_getR4 rfl rfl hq.1 rfl hq.2.2.2.1 ?_
          refine lh_getR4 rfl rfl (ha.1 0 _ rfl) rfl (ha.2 7 _ rfl) ?_
          refine lh_iload_n (q := 1) rfl rfl rfl ?_
          refine lh_aload_n (q := 0) rfl rfl rfl ?_
          refine lh_getR4 rfl rfl hq.1 rfl hq.2.2.1 ?_
          refine lh_getI4 rfl rfl (hS.1 1 _ rfl) rfl ?_
          obtain ⟨g11, hf⟩ := lh_gdE hf
          refine lh_iast4 rfl (ha.1 8 _ rfl) g11 ?_
          refine lh_aload_n (q := 0) rfl rfl rfl ?_
          refine lh_getR4 rfl rfl hq.1 rfl hq.2.2.2.1 ?_
          refine lh_dup rfl rfl ?_
          refine lh_getI4 rfl rfl (ha.1 0 _ rfl) rfl ?_
          refine lh_iconst rfl lh_k_1 ?_
          refine lh_iadd rfl ?_
          refine lh_putI4 rfl rfl (ha.1 0 _ rfl) rfl rfl ?_
          refine lh_aload_n (q := 0) rfl rfl rfl ?_
          refine lh_getR4 rfl rfl hq.1 rfl hq.2.2.1 ?_
          refine lh_bdE hf (fun r12 e13 hf => ?_)
          refine lh_cVv (N := m_Re_advance) (d := 4) (o := 1) (As := []) (st := []) rfl rfl v_Re_advance (hS.1 1 _ rfl) rfl rfl rfl ⟨rfl, rfl⟩ rfl (t_Re_advance hG hS e13 ?_)
          refine lh_iconst rfl lh_k_1 ?_
          exact lh_iret rfl rfl (by decide) (by obtain rfl := Option.some.inj hf; exact hK)
        · have hf := lh_ifT hf c10
          refine lh_iconst rfl lh_k_0 ?_
          exact lh_iret rfl rfl (by decide) (by obtain rfl := Option.some.inj hf; exact hK)
def f_Hr_takeOnce (a : Nat) (q : Nat) (x1 : Int32) (I : lh_II) (L : lh_LL) : Option (Int32 × lh_II × lh_LL) := if (((I (q + 4) 4) >>> (x1 &&& 31)) &&& 1) = 1 then lh_bd (f_Re_refuse (3 : Int32) I) fun r4 => lh_gd (lh_z r4.1) (some (r4.1, r4.2, L)) else lh_bd (f_Re_advance (lh_u2 I (q + 4) 4 ((I (q + 4) 4) ||| ((1 : Int32) <<< (x1 &&& 31)))) L) fun r2 => some (1, r2.1, r2.2)
theorem t_Hr_takeOnce {Γ : lh_Cx} {I : lh_II} {L : lh_LL} {F : lh_FF} {S : lh_SS} {K : Int32 → lh_Hp → Prop} {r : Int32 × lh_II × lh_LL} (hG : lh_GX Γ) (hS : lh_lay F S) {a : Nat} (ha : lh_hl F S a) {q : Nat} (hq : lh_ql F S q a) {x1 : Int32} (hf : f_Hr_takeOnce a q x1 I L = some r) (hK : K r.1 (r.2.1, r.2.2, F, S)) : lh_Met Γ m_Hr_takeOnce 5 0 0 [.ref (q + 4), .int x1] (I, L, F, S) (lh_ki K) := by
  rw [f_Hr_takeOnce] at hf
  refine lh_ofG k_Hr_takeOnce [(0, .ref (q + 4)), (1, .int x1)] rfl (Nat.le_of_ble_eq_true rfl) rfl ?_
  refine lh_aload_n (q := 0) rfl rfl rfl ?_
  refine lh_getI4 rfl rfl hq.1 rfl ?_
  refine lh_iload_n (q := 1) rfl rfl rfl ?_
  refine lh_ishr rfl ?_
  refine lh_iconst rfl lh_k_1 ?_
  refine lh_iand rfl ?_
  refine lh_iconst rfl lh_k_1 ?_
  refine lh_icmp_ne rfl (fun c1 => ?_) (fun c1 => ?_)
  · have hf := lh_ifF hf c1
    refine lh_aload_n (q := 0) rfl rfl rfl ?_
    refine lh_dup rfl rfl ?_
    refine lh_getI4 rfl rfl hq.1 rfl ?_
    refine lh_iconst rfl lh_k_1 ?_
    refine lh_iload_n (q := 1) rfl rfl rfl ?_
    refine lh_ishl rfl ?_
    refine lh_ior rfl ?_
    refine lh_putI4 rfl rfl hq.1 rfl rfl ?_
    refine lh_aload_n (q := 0) rfl rfl rfl ?_
    refine lh_getR4 rfl rfl hq.1 rfl hq.2.2.1 ?_
    refine lh_bdE hf (fun r2 e3 hf => ?_)
    refine lh_cVv (N := m_Re_advance) (d := 4) (o := 1) (As := []) (st := []) rfl rfl v_Re_advance (hS.1 1 _ rfl) rfl rfl rfl ⟨rfl, rfl⟩ rfl (t_Re_advance hG hS e3 ?_)
    refine lh_iconst rfl lh_k_1 ?_
    exact lh_iret rfl rfl (by decide) (by obtain rfl := Option.some.inj hf; exact hK)
  · have hf := lh_ifT hf c1
    refine lh_aload_n (q := 0) rfl rfl rfl ?_
    refine lh_getR4 rfl rfl hq.1 rfl hq.2.2.1 ?_
    refine lh_iconst rfl lh_k_3 ?_
    refine lh_bdE hf (fun r4 e5 hf => ?_)
    refine lh_cVi (N := m_Re_refuse) (d := 0) (o := 1) (As := [.int 3]) (st := []) rfl rfl v_Re_refuse (hS.1 1 _ rfl) rfl rfl rfl ⟨rfl, rfl⟩ rfl (t_Re_refuse hG hS e5 ?_)
    obtain ⟨g6, hf⟩ := lh_gdE hf
    exact lh_iret rfl rfl (lh_z_nar g6) (by obtain rfl := Option.some.inj hf; exact hK)
def f_La_isOfLevel (x1 : Int32) (x2 : Int32) : Option (Int32) := if x2 = 0 then if x1 = 21 then some 1 else if x1 = 22 then some 1 else some 0 else if x2 = 1 then if x1 = 31 then some 1 else if x1 = 32 then some 1 else some 0 else if x2 = 2 then if x1 = 33 then some 1 else if x1 = 34 then some 1 else some 0 else if x1 = 35 then some 1 else some 0
theorem t_La_isOfLevel {Γ : lh_Cx} {I : lh_II} {L : lh_LL} {F : lh_FF} {S : lh_SS} {K : Int32 → lh_Hp → Prop} {r : Int32} (hG : lh_GX Γ) (hS : lh_lay F S)  {x1 : Int32} {x2 : Int32} (hf : f_La_isOfLevel x1 x2 = some r) (hK : K r (I, L, F, S)) : lh_Met Γ m_La_isOfLevel 0 0 0 [.int x1, .int x2] (I, L, F, S) (lh_ki K) := by
  rw [f_La_isOfLevel] at hf
  refine lh_ofG k_La_isOfLevel [(0, .int x1), (1, .int x2)] rfl (Nat.le_of_ble_eq_true rfl) rfl ?_
  refine lh_iload_n (q := 1) rfl rfl rfl ?_
  by_cases c1 : x2 = 0
  · have hf := lh_ifT hf c1
    refine lh_tsIn (q := 0) (tgt := 2) rfl (by rw [c1]; decide) (by decide) rfl rfl ?_
    refine lh_iload_n (q := 0) rfl rfl rfl ?_
    refine lh_bipush rfl lh_b_21 ?_
    refine lh_icmp_eq rfl (fun c2 => ?_) (fun c2 => ?_)
    · have hf := lh_ifT hf c2
      refine lh_iconst rfl lh_k_1 ?_
      refine lh_goto rfl ?_
      exact lh_iret rfl rfl (by decide) (by obtain rfl := Option.some.inj hf; exact hK)
    · have hf := lh_ifF hf c2
      refine lh_iload_n (q := 0) rfl rfl rfl ?_
      refine lh_bipush rfl lh_b_22 ?_
      refine lh_icmp_ne rfl (fun c3 => ?_) (fun c3 => ?_)
      · have hf := lh_ifF hf c3
        refine lh_iconst rfl lh_k_0 ?_
        exact lh_iret rfl rfl (by decide) (by obtain rfl := Option.some.inj hf; exact hK)
      · have hf := lh_ifT hf c3
        refine lh_iconst rfl lh_k_1 ?_
        refine lh_goto rfl ?_
        exact lh_iret rfl rfl (by decide) (by obtain rfl := Option.some.inj hf; exact hK)
  · have hf := lh_ifF hf c1
    by_cases c4 : x2 = 1
    · have hf := lh_ifT hf c4
      refine lh_tsIn (q := 1) (tgt := 12) rfl (by rw [c4]; decide) (by decide) rfl rfl ?_
      refine lh_iload_n (q := 0) rfl rfl rfl ?_
      refine lh_bipush rfl lh_b_31 ?_
      refine lh_icmp_eq rfl (fun c5 => ?_) (fun c5 => ?_)
      · have hf := lh_ifT hf c5
        refine lh_iconst rfl lh_k_1 ?_
        refine lh_goto rfl ?_
        exact lh_iret rfl rfl (by decide) (by obtain rfl := Option.some.inj hf; exact hK)
      · have hf := lh_ifF hf c5
        refine lh_iload_n (q := 0) rfl rfl rfl ?_
        refine lh_bipush rfl lh_b_32 ?_
        refine lh_icmp_ne rfl (fun c6 => ?_) (fun c6 => ?_)
        · have hf := lh_ifF hf c6
          refine lh_iconst rfl lh_k_0 ?_
          exact lh_iret rfl rfl (by decide) (by obtain rfl := Option.some.inj hf; exact hK)
        · have hf := lh_ifT hf c6
          refine lh_iconst rfl lh_k_1 ?_
          refine lh_goto rfl ?_
          exact lh_iret rfl rfl (by decide) (by obtain rfl := Option.some.inj hf; exact hK)
    · have hf := lh_ifF hf c4
      by_cases c7 : x2 = 2
      · have hf := lh_ifT hf c7
        refine lh_tsIn (q := 2) (tgt := 22) rfl (by rw [c7]; decide) (by decide) rfl rfl ?_
        refine lh_iload_n (q := 0) rfl rfl rfl ?_
        refine lh_bipush rfl lh_b_33 ?_
        refine lh_icmp_eq rfl (fun c8 => ?_) (fun c8 => ?_)
        · have hf := lh_ifT hf c8
          refine lh_iconst rfl lh_k_1 ?_
          refine lh_goto rfl ?_
          exact lh_iret rfl rfl (by decide) (by obtain rfl := Option.some.inj hf; exact hK)
        · have hf := lh_ifF hf c8
          refine lh_iload_n (q := 0) rfl rfl rfl ?_
          refine lh_bipush rfl lh_b_34 ?_
          refine lh_icmp_ne rfl (fun c9 => ?_) (fun c9 => ?_)
          · have hf := lh_ifF hf c9
            refine lh_iconst rfl lh_k_0 ?_
            exact lh_iret rfl rfl (by decide) (by obtain rfl := Option.some.inj hf; exact hK)
          · have hf := lh_ifT hf c9
            refine lh_iconst rfl lh_k_1 ?_
            refine lh_goto rfl ?_
            exact lh_iret rfl rfl (by decide) (by obtain rfl := Option.some.inj hf; exact hK)
      · have hf := lh_ifF hf c7
        refine lh_tsOut (tgt := 32) rfl (by have q0 := lv_neT c1 (a := 0) (by decide); have q1 := lv_neT c4 (a := 1) (by decide); have q2 := lv_neT c7 (a := 2) (by decide); omega) rfl ?_
        refine lh_iload_n (q := 0) rfl rfl rfl ?_
        refine lh_bipush rfl lh_b_35 ?_
        refine lh_icmp_ne rfl (fun c10 => ?_) (fun c10 => ?_)
        · have hf := lh_ifF hf c10
          refine lh_iconst rfl lh_k_0 ?_
          exact lh_iret rfl rfl (by decide) (by obtain rfl := Option.some.inj hf; exact hK)
        · have hf := lh_ifT hf c10
          refine lh_iconst rfl lh_k_1 ?_
          refine lh_goto rfl ?_
          exact lh_iret rfl rfl (by decide) (by obtain rfl := Option.some.inj hf; exact hK)
def f_Hr_readMeasure (a : Nat) (q : Nat) (x1 : Int32) (I : lh_II) (L : lh_LL) : Option (Int32 × lh_II × lh_LL) := if x1 = 0 then lh_bd (f_Re_wantNumber (2 : Int32) (12 : Int32) I) fun r19 => if r19.1 = 0 then some (0, r19.2, L) else lh_bd (f_Re_advance (lh_u2 r19.2 (a + 4) 9 (r19.2 (1 + 4) 6)) L) fun r22 => some (1, r22.1, r22.2) else if x1 = 7 then lh_bd (f_Re_wantNumber (1 : Int32) (5 : Int32) I) fun r14 => if r14.1 = 0 then some (0, r14.2, L) else lh_bd (f_Re_advance (lh_u2 r14.2 (a + 4) 13 (r14.2 (1 + 4) 6)) L) fun r17 => some (1, r17.1, r17.2) else if x1 = 8 then lh_bd (f_Re_wantNumber (0 : Int32) (99 : Int32) I) fun r9 => if r9.1 = 0 then some (0, r9.2, L) else lh_bd (f_Re_advance (lh_u2 r9.2 (a + 4) 14 (r9.2 (1 + 4) 6)) L) fun r12 => some (1, r12.1, r12.2) else lh_bd (f_Re_wantNumber (0 : Int32) (11 : Int32) I) fun r4 => if r4.1 = 0 then some (0, r4.2, L) else lh_bd (f_Re_advance (lh_u2 r4.2 (a + 4) 15 (r4.2 (1 + 4) 6)) L) fun r7 => some (1, r7.1, r7.2)
theorem t_Hr_readMeasure {Γ : lh_Cx} {I : lh_II} {L : lh_LL} {F : lh_FF} {S : lh_SS} {K : Int32 → lh_Hp → Prop} {r : Int32 × lh_II × lh_LL} (hG : lh_GX Γ) (hS : lh_lay F S) {a : Nat} (ha : lh_hl F S a) {q : Nat} (hq : lh_ql F S q a) {x1 : Int32} (hf : f_Hr_readMeasure a q x1 I L = some r) (hK : K r.1 (r.2.1, r.2.2, F, S)) : lh_Met Γ m_Hr_readMeasure 5 0 0 [.ref (q + 4), .int x1] (I, L, F, S) (lh_ki K) := by
  rw [f_Hr_readMeasure] at hf
  refine lh_ofG k_Hr_readMeasure [(0, .ref (q + 4)), (1, .int x1)] rfl (Nat.le_of_ble_eq_true rfl) rfl ?_
  refine lh_iload_n (q := 1) rfl rfl rfl ?_
  refine lh_if_ne rfl (fun c1 => ?_) (fun c1 => ?_)
  · have hf := lh_ifF hf c1
    refine lh_iload_n (q := 1) rfl rfl rfl ?_
    refine lh_bipush rfl lh_b_7 ?_
    refine lh_icmp_ne rfl (fun c2 => ?_) (fun c2 => ?_)
    · have hf := lh_ifF hf c2
      refine lh_iconst rfl lh_k_0 ?_
      refine lh_istore_n (lv' := [(0, .ref (q + 4)), (1, .int x1), (2, .int 0)]) rfl rfl rfl rfl ?_
      refine lh_iload_n (q := 1) rfl rfl rfl ?_
      refine lh_if_ne rfl (fun _ => ?_) (fun c => absurd c c1)
      refine lh_iload_n (q := 1) rfl rfl rfl ?_
      refine lh_bipush rfl lh_b_7 ?_
      refine lh_icmp_ne rfl (fun _ => ?_) (fun c => absurd c c2)
      refine lh_iload_n (q := 1) rfl rfl rfl ?_
      refine lh_bipush rfl lh_b_8 ?_
      refine lh_icmp_ne rfl (fun c3 => ?_) (fun c3 => ?_)
      · have hf := lh_ifF hf c3
        refine lh_bipush rfl lh_b_11 ?_
        refine lh_istore_n (lv' := [(0, .ref (q + 4)), (1, .int x1), (2, .int 0), (3, .int 11)]) rfl rfl rfl rfl ?_
        refine lh_aload_n (q := 0) rfl rfl rfl ?_
        refine lh_getR4 rfl rfl hq.1 rfl hq.2.2.1 ?_
        refine lh_iload_n (q := 2) rfl rfl rfl ?_
        refine lh_iload_n (q := 3) rfl rfl rfl ?_
        refine lh_bdE hf (fun r4 e5 hf => ?_)
        refine lh_cVi (N := m_Re_wantNumber) (d := 1) (o := 1) (As := [.int 0, .int 11]) (st := []) rfl rfl v_Re_wantNumber (hS.1 1 _ rfl) rfl rfl rfl ⟨rfl, rfl⟩ rfl (t_Re_wantNumber hG hS e5 ?_)
        refine lh_if_ne rfl (fun c6 => ?_) (fun c6 => ?_)
        · have hf := lh_ifF hf c6
          refine lh_iload_n (q := 1) rfl rfl rfl ?_
          refine lh_if_ne rfl (fun _ => ?_) (fun c => absurd c c1)
          refine lh_iload_n (q := 1) rfl rfl rfl ?_
          refine lh_bipush rfl lh_b_7 ?_
          refine lh_icmp_ne rfl (fun _ => ?_) (fun c => absurd c c2)
          refine lh_iload_n (q := 1) rfl rfl rfl ?_
          refine lh_bipush rfl lh_b_8 ?_
          refine lh_icmp_ne rfl (fun _ => ?_) (fun c => absurd c c3)
          refine lh_aload_n (q := 0) rfl rfl rfl ?_
          refine lh_getR4 rfl rfl hq.1 rfl hq.2.2.2.1 ?_
          refine lh_aload_n (q := 0) rfl rfl rfl ?_
          refine lh_getR4 rfl rfl hq.1 rfl hq.2.2.1 ?_
          refine lh_getI4 rfl rfl (hS.1 1 _ rfl) rfl ?_
          refine lh_putI4 rfl rfl (ha.1 0 _ rfl) rfl rfl ?_
          refine lh_aload_n (q := 0) rfl rfl rfl ?_
          refine lh_getR4 rfl rfl hq.1 rfl hq.2.2.1 ?_
          refine lh_bdE hf (fun r7 e8 hf => ?_)
          refine lh_cVv (N := m_Re_advance) (d := 4) (o := 1) (As := []) (st := []) rfl rfl v_Re_advance (hS.1 1 _ rfl) rfl rfl rfl ⟨rfl, rfl⟩ rfl (t_Re_advance hG hS e8 ?_)
          refine lh_iconst rfl lh_k_1 ?_
          exact lh_iret rfl rfl (by decide) (by obtain rfl := Option.some.inj hf; exact hK)
        · have hf := lh_ifT hf c6
          refine lh_iconst rfl lh_k_0 ?_
          exact lh_iret rfl rfl (by decide) (by obtain rfl := Option.some.inj hf; exact hK)
      · have hf := lh_ifT hf c3
        refine lh_bipush rfl lh_b_99 ?_
        refine lh_goto rfl ?_
        refine lh_istore_n (lv' := [(0, .ref (q + 4)), (1, .int x1), (2, .int 0), (3, .int 99)]) rfl rfl rfl rfl ?_
        refine lh_aload_n (q := 0) rfl rfl rfl ?_
        refine lh_getR4 rfl rfl hq.1 rfl hq.2.2.1 ?_
        refine lh_iload_n (q := 2) rfl rfl rfl ?_
        refine lh_iload_n (q := 3) rfl rfl rfl ?_
        refine lh_bdE hf (fun r9 e10 hf => ?_)
        refine lh_cVi (N := m_Re_wantNumber) (d := 1) (o := 1) (As := [.int 0, .int 99]) (st := []) rfl rfl v_Re_wantNumber (hS.1 1 _ rfl) rfl rfl rfl ⟨rfl, rfl⟩ rfl (t_Re_wantNumber hG hS e10 ?_)
        refine lh_if_ne rfl (fun c11 => ?_) (fun c11 => ?_)
        · have hf := lh_ifF hf c11
          refine lh_iload_n (q := 1) rfl rfl rfl ?_
          refine lh_if_ne rfl (fun _ => ?_) (fun c => absurd c c1)
          refine lh_iload_n (q := 1) rfl rfl rfl ?_
          refine lh_bipush rfl lh_b_7 ?_
          refine lh_icmp_ne rfl (fun _ => ?_) (fun c => absurd c c2)
          refine lh_iload_n (q := 1) rfl rfl rfl ?_
          refine lh_bipush rfl lh_b_8 ?_
          refine lh_icmp_ne rfl (fun c => absurd c3 c) (fun _ => ?_)
          refine lh_aload_n (q := 0) rfl rfl rfl ?_
          refine lh_getR4 rfl rfl hq.1 rfl hq.2.2.2.1 ?_
          refine lh_aload_n (q := 0) rfl rfl rfl ?_
          refine lh_getR4 rfl rfl hq.1 rfl hq.2.2.1 ?_
          refine lh_getI4 rfl rfl (hS.1 1 _ rfl) rfl ?_
          refine lh_putI4 rfl rfl (ha.1 0 _ rfl) rfl rfl ?_
          refine lh_goto rfl ?_
          refine lh_aload_n (q := 0) rfl rfl rfl ?_
          refine lh_getR4 rfl rfl hq.1 rfl hq.2.2.1 ?_
          refine lh_bdE hf (fun r12 e13 hf => ?_)
          refine lh_cVv (N := m_Re_advance) (d := 4) (o := 1) (As := []) (st := []) rfl rfl v_Re_advance (hS.1 1 _ rfl) rfl rfl rfl ⟨rfl, rfl⟩ rfl (t_Re_advance hG hS e13 ?_)
          refine lh_iconst rfl lh_k_1 ?_
          exact lh_iret rfl rfl (by decide) (by obtain rfl := Option.some.inj hf; exact hK)
        · have hf := lh_ifT hf c11
          refine lh_iconst rfl lh_k_0 ?_
          exact lh_iret rfl rfl (by decide) (by obtain rfl := Option.some.inj hf; exact hK)
    · have hf := lh_ifT hf c2
      refine lh_iconst rfl lh_k_1 ?_
      refine lh_goto rfl ?_
      refine lh_istore_n (lv' := [(0, .ref (q + 4)), (1, .int x1), (2, .int 1)]) rfl rfl rfl rfl ?_
      refine lh_iload_n (q := 1) rfl rfl rfl ?_
      refine lh_if_ne rfl (fun _ => ?_) (fun c => absurd c c1)
      refine lh_iload_n (q := 1) rfl rfl rfl ?_
      refine lh_bipush rfl lh_b_7 ?_
      refine lh_icmp_ne rfl (fun c => absurd c2 c) (fun _ => ?_)
      refine lh_iconst rfl lh_k_5 ?_
      refine lh_goto rfl ?_
      refine lh_istore_n (lv' := [(0, .ref (q + 4)), (1, .int x1), (2, .int 1), (3, .int 5)]) rfl rfl rfl rfl ?_
      refine lh_aload_n (q := 0) rfl rfl rfl ?_
      refine lh_getR4 rfl rfl hq.1 rfl hq.2.2.1 ?_
      refine lh_iload_n (q := 2) rfl rfl rfl ?_
      refine lh_iload_n (q := 3) rfl rfl rfl ?_
      refine lh_bdE hf (fun r14 e15 hf => ?_)
      refine lh_cVi (N := m_Re_wantNumber) (d := 1) (o := 1) (As := [.int 1, .int 5]) (st := []) rfl rfl v_Re_wantNumber (hS.1 1 _ rfl) rfl rfl rfl ⟨rfl, rfl⟩ rfl (t_Re_wantNumber hG hS e15 ?_)
      refine lh_if_ne rfl (fun c16 => ?_) (fun c16 => ?_)
      · have hf := lh_ifF hf c16
        refine lh_iload_n (q := 1) rfl rfl rfl ?_
        refine lh_if_ne rfl (fun _ => ?_) (fun c => absurd c c1)
        refine lh_iload_n (q := 1) rfl rfl rfl ?_
        refine lh_bipush rfl lh_b_7 ?_
        refine lh_icmp_ne rfl (fun c => absurd c2 c) (fun _ => ?_)
        refine lh_aload_n (q := 0) rfl rfl rfl ?_
        refine lh_getR4 rfl rfl hq.1 rfl hq.2.2.2.1 ?_
        refine lh_aload_n (q := 0) rfl rfl rfl ?_
        refine lh_getR4 rfl rfl hq.1 rfl hq.2.2.1 ?_
        refine lh_getI4 rfl rfl (hS.1 1 _ rfl) rfl ?_
        refine lh_putI4 rfl rfl (ha.1 0 _ rfl) rfl rfl ?_
        refine lh_goto rfl ?_
        refine lh_aload_n (q := 0) rfl rfl rfl ?_
        refine lh_getR4 rfl rfl hq.1 rfl hq.2.2.1 ?_
        refine lh_bdE hf (fun r17 e18 hf => ?_)
        refine lh_cVv (N := m_Re_advance) (d := 4) (o := 1) (As := []) (st := []) rfl rfl v_Re_advance (hS.1 1 _ rfl) rfl rfl rfl ⟨rfl, rfl⟩ rfl (t_Re_advance hG hS e18 ?_)
        refine lh_iconst rfl lh_k_1 ?_
        exact lh_iret rfl rfl (by decide) (by obtain rfl := Option.some.inj hf; exact hK)
      · have hf := lh_ifT hf c16
        refine lh_iconst rfl lh_k_0 ?_
        exact lh_iret rfl rfl (by decide) (by obtain rfl := Option.some.inj hf; exact hK)
  · have hf := lh_ifT hf c1
    refine lh_iconst rfl lh_k_2 ?_
    refine lh_goto rfl ?_
    refine lh_istore_n (lv' := [(0, .ref (q + 4)), (1, .int x1), (2, .int 2)]) rfl rfl rfl rfl ?_
    refine lh_iload_n (q := 1) rfl rfl rfl ?_
    refine lh_if_ne rfl (fun c => absurd c1 c) (fun _ => ?_)
    refine lh_bipush rfl lh_b_12 ?_
    refine lh_goto rfl ?_
    refine lh_istore_n (lv' := [(0, .ref (q + 4)), (1, .int x1), (2, .int 2), (3, .int 12)]) rfl rfl rfl rfl ?_
    refine lh_aload_n (q := 0) rfl rfl rfl ?_
    refine lh_getR4 rfl rfl hq.1 rfl hq.2.2.1 ?_
    refine lh_iload_n (q := 2) rfl rfl rfl ?_
    refine lh_iload_n (q := 3) rfl rfl rfl ?_
    refine lh_bdE hf (fun r19 e20 hf => ?_)
    refine lh_cVi (N := m_Re_wantNumber) (d := 1) (o := 1) (As := [.int 2, .int 12]) (st := []) rfl rfl v_Re_wantNumber (hS.1 1 _ rfl) rfl rfl rfl ⟨rfl, rfl⟩ rfl (t_Re_wantNumber hG hS e20 ?_)
    refine lh_if_ne rfl (fun c21 => ?_) (fun c21 => ?_)
    · have hf := lh_ifF hf c21
      refine lh_iload_n (q := 1) rfl rfl rfl ?_
      refine lh_if_ne rfl (fun c => absurd c1 c) (fun _ => ?_)
      refine lh_aload_n (q := 0) rfl rfl rfl ?_
      refine lh_getR4 rfl rfl hq.1 rfl hq.2.2.2.1 ?_
      refine lh_aload_n (q := 0) rfl rfl rfl ?_
      refine lh_getR4 rfl rfl hq.1 rfl hq.2.2.1 ?_
      refine lh_getI4 rfl rfl (hS.1 1 _ rfl) rfl ?_
      refine lh_putI4 rfl rfl (ha.1 0 _ rfl) rfl rfl ?_
      refine lh_goto rfl ?_
      refine lh_aload_n (q := 0) rfl rfl rfl ?_
      refine lh_getR4 rfl rfl hq.1 rfl hq.2.2.1 ?_
      refine lh_bdE hf (fun r22 e23 hf => ?_)
      refine lh_cVv (N := m_Re_advance) (d := 4) (o := 1) (As := []) (st := []) rfl rfl v_Re_advance (hS.1 1 _ rfl) rfl rfl rfl ⟨rfl, rfl⟩ rfl (t_Re_advance hG hS e23 ?_)
      refine lh_iconst rfl lh_k_1 ?_
      exact lh_iret rfl rfl (by decide) (by obtain rfl := Option.some.inj hf; exact hK)
    · have hf := lh_ifT hf c21
      refine lh_iconst rfl lh_k_0 ?_
      exact lh_iret rfl rfl (by decide) (by obtain rfl := Option.some.inj hf; exact hK)
