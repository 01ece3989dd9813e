/-! decompiled by program: f_.. the functions, t_.. that the methods do as they say -/
def f_Ha_vasesSeenBy_8 (a : Nat) (m : Nat) (v2 : Int32) : Nat → Int32 → Int32 → lh_II → Option (Int32 × lh_II)
  | 0, _, _, _ => none
  | n + 1, v3, v4, I => if (I (a + 4) 12) ≤ v4 then some (v3, I) else lh_gd (lh_ix v4 4) (if (I (a + 8 + 4) v4.toNatClampNeg) = (-1) then f_Ha_vasesSeenBy_8 a m v2 n v3 (v4 + 1) I else if ((v2 >>> ((I (a + 8 + 4) v4.toNatClampNeg) &&& 31)) &&& 1) = 1 then lh_bd (f_La_dayShown a (I (m + 4) 2) (I (m + 4) 3) (if 0 ≤ ((I (a + 8 + 4) v4.toNatClampNeg) - (I (m + 4) 0)) then ((I (a + 8 + 4) v4.toNatClampNeg) - (I (m + 4) 0)) else 0 - ((I (a + 8 + 4) v4.toNatClampNeg) - (I (m + 4) 0))) (I (m + 4) 1) I) fun r7 => lh_bd (f_Ha_hourTaken a v4 r7.1 r7.2) fun r9 => if r9 = (-1) then f_Ha_vasesSeenBy_8 a m v2 n (v3 ||| (1 <<< (v4 &&& 31))) (v4 + 1) r7.2 else if r9 ≤ (r7.2 (m + 4) 1) then f_Ha_vasesSeenBy_8 a m v2 n (v3 ||| 0) (v4 + 1) r7.2 else f_Ha_vasesSeenBy_8 a m v2 n (v3 ||| (1 <<< (v4 &&& 31))) (v4 + 1) r7.2 else f_Ha_vasesSeenBy_8 a m v2 n v3 (v4 + 1) I)
def f_Ha_vasesSeenBy (a : Nat) (m : Nat) (I : lh_II) : Option (Int32 × lh_II) := lh_bd (f_Ha_litBy a m I) fun r1 => lh_bd (f_Ha_vasesSeenBy_8 a m r1 lh_fuel 0 0 I) fun r13 => some (r13.1, r13.2)
theorem t_Ha_vasesSeenBy_8 {Γ : lh_Cx} {F : lh_FF} {S : lh_SS} {Z : List Frame → Array Value → State → State → Prop} (hG : lh_GX Γ) (hS : lh_lay F S) {a : Nat} (ha : lh_hl F S a) {m : Nat} (hm : S[m]? = some (10, 0)) {v2 : Int32} {L : lh_LL} : ∀ (n : Nat) (v3 : Int32) (v4 : Int32) (I : lh_II) (o : Int32 × lh_II), f_Ha_vasesSeenBy_8 a m v2 n v3 v4 I = some o → ∀ (x0_ : lh_G Γ m_Ha_vasesSeenBy (lh_R 4 0 0) Z 0 0 64 [(3, .int o.1)] [] (o.2, L, F, S)), lh_G Γ m_Ha_vasesSeenBy (lh_R 4 0 0) Z 0 0 8 [(0, .ref (a + 4)), (1, .ref (m + 4)), (2, .int v2), (3, .int v3), (4, .int v4)] [] (I, L, F, S) := by
  intro n
  induction n with
  | zero => intro v3 v4 I o hf; cases hf
  | succ n ih =>
    intro v3 v4 I o hf x0_
    rw [f_Ha_vasesSeenBy_8] at hf
    refine lh_iload (q := 4) rfl rfl ?_
    refine lh_aload_n (q := 0) rfl rfl rfl ?_
    refine lh_getI4 rfl rfl (ha.1 0 _ rfl) rfl ?_
    refine lh_icmp_ge rfl (fun c3 => ?_) (fun c3 => ?_)
    · have hf := lh_ifT hf c3
      exact lh_less [3] rfl (by cases hf; exact x0_)
    · have hf := lh_ifF hf c3
      refine lh_aload_n (q := 0) rfl rfl rfl ?_
      refine lh_getR4 rfl rfl (ha.1 0 _ rfl) rfl (ha.2 7 _ rfl) ?_
      refine lh_iload (q := 4) rfl rfl ?_
      obtain ⟨g4, hf⟩ := lh_gdE hf
      refine lh_iald4 rfl (ha.1 8 _ rfl) g4 ?_
      refine lh_istore (lv' := [(0, .ref (a + 4)), (1, .ref (m + 4)), (2, .int v2), (3, .int v3), (4, .int v4), (5, .int (I (a + 8 + 4) v4.toNatClampNeg))]) rfl rfl rfl ?_
      refine lh_iload (q := 5) rfl rfl ?_
      refine lh_iconst rfl lh_k_m1 ?_
      refine lh_icmp_eq rfl (fun c5 => ?_) (fun c5 => ?_)
      · have hf := lh_ifT hf c5
        refine lh_iinc (q := 4) (v := (v4 + 1)) (lv' := [(0, .ref (a + 4)), (1, .ref (m + 4)), (2, .int v2), (3, .int v3), (4, .int (v4 + 1)), (5, .int (I (a + 8 + 4) v4.toNatClampNeg))]) rfl rfl (congrArg (v4 + ·) (by decide)) rfl rfl ?_
        refine lh_goto rfl ?_
        refine lh_less [0, 1, 2, 3, 4] rfl ?_
        exact ih v3 (v4 + 1) I _ hf x0_
      · have hf := lh_ifF hf c5
        refine lh_iload_n (q := 2) rfl rfl rfl ?_
        refine lh_iload (q := 5) rfl rfl ?_
        refine lh_ishr rfl ?_
        refine lh_iconst rfl lh_k_1 ?_
        refine lh_iand rfl ?_
        refine lh_iconst rfl lh_k_1 ?_
        refine lh_icmp_ne rfl (fun c6 => ?_) (fun c6 => ?_)
        · have hf := lh_ifF hf c6
          refine lh_iinc (q := 4) (v := (v4 + 1)) (lv' := [(0, .ref (a + 4)), (1, .ref (m + 4)), (2, .int v2), (3, .int v3), (4, .int (v4 + 1)), (5, .int (I (a + 8 + 4) v4.toNatClampNeg))]) rfl rfl (congrArg (v4 + ·) (by decide)) rfl rfl ?_
          refine lh_goto rfl ?_
          refine lh_less [0, 1, 2, 3, 4] rfl ?_
          exact ih v3 (v4 + 1) I _ hf x0_
        · have hf := lh_ifT hf c6
          refine lh_iload (q := 5) rfl rfl ?_
          refine lh_aload_n (q := 1) rfl rfl rfl ?_
          refine lh_getI4 rfl rfl hm rfl ?_
          refine lh_isub rfl ?_
          refine lh_abs rfl rfl ⟨rfl, rfl⟩ rfl ?_
          refine lh_istore (lv' := [(0, .ref (a + 4)), (1, .ref (m + 4)), (2, .int v2), (3, .int v3), (4, .int v4), (5, .int (I (a + 8 + 4) v4.toNatClampNeg)), (6, .int (if 0 ≤ ((I (a + 8 + 4) v4.toNatClampNeg) - (I (m + 4) 0)) then ((I (a + 8 + 4) v4.toNatClampNeg) - (I (m + 4) 0)) else 0 - ((I (a + 8 + 4) v4.toNatClampNeg) - (I (m + 4) 0))))]) rfl rfl rfl ?_
          refine lh_aload_n (q := 0) rfl rfl rfl ?_
          refine lh_iload (q := 4) rfl rfl ?_
          refine lh_aload_n (q := 0) rfl rfl rfl ?_
          refine lh_getR4 rfl rfl (ha.1 0 _ rfl) rfl (ha.2 0 _ rfl) ?_
          refine lh_aload_n (q := 1) rfl rfl rfl ?_
          refine lh_getI4 rfl rfl hm rfl ?_
          refine lh_aload_n (q := 1) rfl rfl rfl ?_
          refine lh_getI4 rfl rfl hm rfl ?_
          refine lh_iload (q := 6) rfl rfl ?_
          refine lh_aload_n (q := 1) rfl rfl rfl ?_
          refine lh_getI4 rfl rfl hm rfl ?_
          refine lh_bdE hf (fun r7 e8 hf => ?_)
          refine lh_cVi (N := m_La_dayShown) (d := 1) (o := a + 1) (As := [.int (I (m + 4) 2), .int (I (m + 4) 3), .int (if 0 ≤ ((I (a + 8 + 4) v4.toNatClampNeg) - (I (m + 4) 0)) then ((I (a + 8 + 4) v4.toNatClampNeg) - (I (m + 4) 0)) else 0 - ((I (a + 8 + 4) v4.toNatClampNeg) - (I (m + 4) 0))), .int (I (m + 4) 1)]) (st := [.int v4, .ref (a + 4)]) rfl rfl v_La_dayShown (ha.1 1 _ rfl) rfl rfl rfl ⟨rfl, rfl⟩ rfl (t_La_dayShown hG hS ha e8 ?_)
          refine lh_bdE hf (fun r9 e10 hf => ?_)
          refine lh_cVi (N := m_Ha_hourTaken) (d := 3) (o := a) (As := [.int v4, .int r7.1]) (st := []) rfl rfl v_Ha_hourTaken (ha.1 0 _ rfl) rfl rfl rfl ⟨rfl, rfl⟩ rfl (t_Ha_hourTaken hG hS ha e10 ?_)
          refine lh_istore (lv' := [(0, .ref (a + 4)), (1, .ref (m + 4)), (2, .int v2), (3, .int v3), (4, .int v4), (5, .int (I (a + 8 + 4) v4.toNatClampNeg)), (6, .int (if 0 ≤ ((I (a + 8 + 4) v4.toNatClampNeg) - (I (m + 4) 0)) then ((I (a + 8 + 4) v4.toNatClampNeg) - (I (m + 4) 0)) else 0 - ((I (a + 8 + 4) v4.toNatClampNeg) - (I (m + 4) 0)))), (7, .int r9)]) rfl rfl rfl ?_
          refine lh_iload_n (q := 3) rfl rfl rfl ?_
          refine lh_iload (q := 7) rfl rfl ?_
          refine lh_iconst rfl lh_k_m1 ?_
          refine lh_icmp_eq rfl (fun c11 => ?_) (fun c11 => ?_)
          · have hf := lh_ifT hf c11
            refine lh_iconst rfl lh_k_1 ?_
            refine lh_iload (q := 4) rfl rfl ?_
            refine lh_ishl rfl ?_
            refine lh_goto rfl ?_
            refine lh_ior rfl ?_
            refine lh_istore_n (lv' := [(0, .ref (a + 4)), (1, .ref (m + 4)), (2, .int v2), (3, .int (v3 ||| (1 <<< (v4 &&& 31)))), (4, .int v4), (5, .int (I (a + 8 + 4) v4.toNatClampNeg)), (6, .int (if 0 ≤ ((I (a + 8 + 4) v4.toNatClampNeg) - (I (m + 4) 0)) then ((I (a + 8 + 4) v4.toNatClampNeg) - (I (m + 4) 0)) else 0 - ((I (a + 8 + 4) v4.toNatClampNeg) - (I (m + 4) 0)))), (7, .int r9)]) rfl rfl rfl rfl ?_
            refine lh_iinc (q := 4) (v := (v4 + 1)) (lv' := [(0, .ref (a + 4)), (1, .ref (m + 4)), (2, .int v2), (3, .int (v3 ||| (1 <<< (v4 &&& 31)))), (4, .int (v4 + 1)), (5, .int (I (a + 8 + 4) v4.toNatClampNeg)), (6, .int (if 0 ≤ ((I (a + 8 + 4) v4.toNatClampNeg) - (I (m + 4) 0)) then ((I (a + 8 + 4) v4.toNatClampNeg) - (I (m + 4) 0)) else 0 - ((I (a + 8 + 4) v4.toNatClampNeg) - (I (m + 4) 0)))), (7, .int r9)]) rfl rfl (congrArg (v4 + ·) (by decide)) rfl rfl ?_
            refine lh_goto rfl ?_
            refine lh_less [0, 1, 2, 3, 4] rfl ?_
            exact ih (v3 ||| (1 <<< (v4 &&& 31))) (v4 + 1) r7.2 _ hf x0_
          · have hf := lh_ifF hf c11
            refine lh_aload_n (q := 1) rfl rfl rfl ?_
            refine lh_getI4 rfl rfl hm rfl ?_
            refine lh_iload (q := 7) rfl rfl ?_
            refine lh_icmp_ge rfl (fun c12 => ?_) (fun c12 => ?_)
            · have hf := lh_ifT hf c12
              refine lh_iconst rfl lh_k_0 ?_
              refine lh_ior rfl ?_
              refine lh_istore_n (lv' := [(0, .ref (a + 4)), (1, .ref (m + 4)), (2, .int v2), (3, .int (v3 ||| 0)), (4, .int v4), (5, .int (I (a + 8 + 4) v4.toNatClampNeg)), (6, .int (if 0 ≤ ((I (a + 8 + 4) v4.toNatClampNeg) - (I (m + 4) 0)) then ((I (a + 8 + 4) v4.toNatClampNeg) - (I (m + 4) 0)) else 0 - ((I (a + 8 + 4) v4.toNatClampNeg) - (I (m + 4) 0)))), (7, .int r9)]) rfl rfl rfl rfl ?_
              refine lh_iinc (q := 4) (v := (v4 + 1)) (lv' := [(0, .ref (a + 4)), (1, .ref (m + 4)), (2, .int v2), (3, .int (v3 ||| 0)), (4, .int (v4 + 1)), (5, .int (I (a + 8 + 4) v4.toNatClampNeg)), (6, .int (if 0 ≤ ((I (a + 8 + 4) v4.toNatClampNeg) - (I (m + 4) 0)) then ((I (a + 8 + 4) v4.toNatClampNeg) - (I (m + 4) 0)) else 0 - ((I (a + 8 + 4) v4.toNatClampNeg) - (I (m + 4) 0)))), (7, .int r9)]) rfl rfl (congrArg (v4 + ·) (by decide)) rfl rfl ?_
              refine lh_goto rfl ?_
              refine lh_less [0, 1, 2, 3, 4] rfl ?_
              exact ih (v3 ||| 0) (v4 + 1) r7.2 _ hf x0_
            · have hf := lh_ifF hf c12
              refine lh_iconst rfl lh_k_1 ?_
              refine lh_iload (q := 4) rfl rfl ?_
              refine lh_ishl rfl ?_
              refine lh_goto rfl ?_
              refine lh_ior rfl ?_
              refine lh_istore_n (lv' := [(0, .ref (a + 4)), (1, .ref (m + 4)), (2, .int v2), (3, .int (v3 ||| (1 <<< (v4 &&& 31)))), (4, .int v4), (5, .int (I (a + 8 + 4) v4.toNatClampNeg)), (6, .int (if 0 ≤ ((I (a + 8 + 4) v4.toNatClampNeg) - (I (m + 4) 0)) then ((I (a + 8 + 4) v4.toNatClampNeg) - (I (m + 4) 0)) else 0 - ((I (a + 8 + 4) v4.toNatClampNeg) - (I (m + 4) 0)))), (7, .int r9)]) rfl rfl rfl rfl ?_
              refine lh_iinc (q := 4) (v := (v4 + 1)) (lv' := [(0, .ref (a + 4)), (1, .ref (m + 4)), (2, .int v2), (3, .int (v3 ||| (1 <<< (v4 &&& 31)))), (4, .int (v4 + 1)), (5, .int (I (a + 8 + 4) v4.toNatClampNeg)), (6, .int (if 0 ≤ ((I (a + 8 + 4) v4.toNatClampNeg) - (I (m + 4) 0)) then ((I (a + 8 + 4) v4.toNatClampNeg) - (I (m + 4) 0)) else 0 - ((I (a + 8 + 4) v4.toNatClampNeg) - (I (m + 4) 0)))), (7, .int r9)]) rfl rfl (congrArg (v4 + ·) (by decide)) rfl rfl ?_
              refine lh_goto rfl ?_
              refine lh_less [0, 1, 2, 3, 4] rfl ?_
              exact ih (v3 ||| (1 <<< (v4 &&& 31))) (v4 + 1) r7.2 _ hf x0_
theorem t_Ha_vasesSeenBy {Γ : lh_Cx} {I : lh_II} {L : lh_LL} {F : lh_FF} {S : lh_SS} {K : Int32 → lh_Hp → Prop} {r : Int32 × lh_II} (hG : lh_GX Γ) (hS : lh_lay F S) {a : Nat} (ha : lh_hl F S a) {m : Nat} (hm : S[m]? = some (10, 0)) (hf : f_Ha_vasesSeenBy a m I = some r) (hK : K r.1 (r.2, L, F, S)) : lh_Met Γ m_Ha_vasesSeenBy 4 0 0 [.ref (a + 4), .ref (m + 4)] (I, L, F, S) (lh_ki K) := by
  rw [f_Ha_vasesSeenBy] at hf
  refine lh_ofG k_Ha_vasesSeenBy [(0, .ref (a + 4)), (1, .ref (m + 4))] rfl (Nat.le_of_ble_eq_true rfl) rfl ?_
  refine lh_aload_n (q := 0) rfl rfl rfl ?_
  refine lh_aload_n (q := 1) rfl rfl rfl ?_
  refine lh_bdE hf (fun r1 e2 hf => ?_)
  refine lh_cVi (N := m_Ha_litBy) (d := 2) (o := a) (As := [.ref (m + 4)]) (st := []) rfl rfl v_Ha_litBy (ha.1 0 _ rfl) rfl rfl rfl ⟨rfl, rfl⟩ rfl (t_Ha_litBy hG hS ha hm e2 ?_)
  refine lh_istore_n (lv' := [(0, .ref (a + 4)), (1, .ref (m + 4)), (2, .int r1)]) rfl rfl rfl rfl ?_
  refine lh_iconst rfl lh_k_0 ?_
  refine lh_istore_n (lv' := [(0, .ref (a + 4)), (1, .ref (m + 4)), (2, .int r1), (3, .int 0)]) rfl rfl rfl rfl ?_
  refine lh_iconst rfl lh_k_0 ?_
  refine lh_istore (lv' := [(0, .ref (a + 4)), (1, .ref (m + 4)), (2, .int r1), (3, .int 0), (4, .int 0)]) rfl rfl rfl ?_
  refine lh_bdE hf (fun r13 e14 hf => ?_)
  refine t_Ha_vasesSeenBy_8 hG hS ha hm _ 0 0 I _ e14 ?_
  refine lh_iload_n (q := 0) rfl rfl rfl ?_
  exact lh_iret rfl rfl rfl (by obtain rfl := Option.some.inj hf; exact hK)
def f_Ha_walk (a : Nat) (m : Nat) (x1 : Int32) (I : lh_II) : Option (Int32 × lh_II) := lh_bd (f_Ha_bumpsOf a m x1 I) fun r1 => if r1.1 = 0 then lh_bd (f_Ha_canEnter a ((r1.2 (m + 4) 0) + x1) r1.2) fun r6 => if r6 = 0 then lh_bd (f_Ha_seenBy a m (lh_u2 (lh_u2 (lh_u2 (lh_u2 r1.2 (m + 4) 1 (((r1.2 (m + 4) 1) + 1) - ((r1.2 (m + 4) 1) + 1) / 8 * 8)) (m + 4) 4 (((lh_u2 r1.2 (m + 4) 1 (((r1.2 (m + 4) 1) + 1) - ((r1.2 (m + 4) 1) + 1) / 8 * 8)) (m + 4) 4) + 1)) (m + 4) 5 (((lh_u2 (lh_u2 r1.2 (m + 4) 1 (((r1.2 (m + 4) 1) + 1) - ((r1.2 (m + 4) 1) + 1) / 8 * 8)) (m + 4) 4 (((lh_u2 r1.2 (m + 4) 1 (((r1.2 (m + 4) 1) + 1) - ((r1.2 (m + 4) 1) + 1) / 8 * 8)) (m + 4) 4) + 1)) (m + 4) 5) + r1.1)) (m + 4) 3 (if 0 < (((lh_u2 (lh_u2 (lh_u2 r1.2 (m + 4) 1 (((r1.2 (m + 4) 1) + 1) - ((r1.2 (m + 4) 1) + 1) / 8 * 8)) (m + 4) 4 (((lh_u2 r1.2 (m + 4) 1 (((r1.2 (m + 4) 1) + 1) - ((r1.2 (m + 4) 1) + 1) / 8 * 8)) (m + 4) 4) + 1)) (m + 4) 5 (((lh_u2 (lh_u2 r1.2 (m + 4) 1 (((r1.2 (m + 4) 1) + 1) - ((r1.2 (m + 4) 1) + 1) / 8 * 8)) (m + 4) 4 (((lh_u2 r1.2 (m + 4) 1 (((r1.2 (m + 4) 1) + 1) - ((r1.2 (m + 4) 1) + 1) / 8 * 8)) (m + 4) 4) + 1)) (m + 4) 5) + r1.1)) (m + 4) 3) - 1) then (((lh_u2 (lh_u2 (lh_u2 r1.2 (m + 4) 1 (((r1.2 (m + 4) 1) + 1) - ((r1.2 (m + 4) 1) + 1) / 8 * 8)) (m + 4) 4 (((lh_u2 r1.2 (m + 4) 1 (((r1.2 (m + 4) 1) + 1) - ((r1.2 (m + 4) 1) + 1) / 8 * 8)) (m + 4) 4) + 1)) (m + 4) 5 (((lh_u2 (lh_u2 r1.2 (m + 4) 1 (((r1.2 (m + 4) 1) + 1) - ((r1.2 (m + 4) 1) + 1) / 8 * 8)) (m + 4) 4 (((lh_u2 r1.2 (m + 4) 1 (((r1.2 (m + 4) 1) + 1) - ((r1.2 (m + 4) 1) + 1) / 8 * 8)) (m + 4) 4) + 1)) (m + 4) 5) + r1.1)) (m + 4) 3) - 1) else 0))) fun r9 => some (r1.1, lh_u2 r9.2 (m + 4) 6 (((lh_u2 (lh_u2 (lh_u2 (lh_u2 r1.2 (m + 4) 1 (((r1.2 (m + 4) 1) + 1) - ((r1.2 (m + 4) 1) + 1) / 8 * 8)) (m + 4) 4 (((lh_u2 r1.2 (m + 4) 1 (((r1.2 (m + 4) 1) + 1) - ((r1.2 (m + 4) 1) + 1) / 8 * 8)) (m + 4) 4) + 1)) (m + 4) 5 (((lh_u2 (lh_u2 r1.2 (m + 4) 1 (((r1.2 (m + 4) 1) + 1) - ((r1.2 (m + 4) 1) + 1) / 8 * 8)) (m + 4) 4 (((lh_u2 r1.2 (m + 4) 1 (((r1.2 (m + 4) 1) + 1) - ((r1.2 (m + 4) 1) + 1) / 8 * 8)) (m + 4) 4) + 1)) (m + 4) 5) + r1.1)) (m + 4) 3 (if 0 < (((lh_u2 (lh_u2 (lh_u2 r1.2 (m + 4) 1 (((r1.2 (m + 4) 1) + 1) - ((r1.2 (m + 4) 1) + 1) / 8 * 8)) (m + 4) 4 (((lh_u2 r1.2 (m + 4) 1 (((r1.2 (m + 4) 1) + 1) - ((r1.2 (m + 4) 1) + 1) / 8 * 8)) (m + 4) 4) + 1)) (m + 4) 5 (((lh_u2 (lh_u2 r1.2 (m + 4) 1 (((r1.2 (m + 4) 1) + 1) - ((r1.2 (m + 4) 1) + 1) / 8 * 8)) (m + 4) 4 (((lh_u2 r1.2 (m + 4) 1 (((r1.2 (m + 4) 1) + 1) - ((r1.2 (m + 4) 1) + 1) / 8 * 8)) (m + 4) 4) + 1)) (m + 4) 5) + r1.1)) (m + 4) 3) - 1) then (((lh_u2 (lh_u2 (lh_u2 r1.2 (m + 4) 1 (((r1.2 (m + 4) 1) + 1) - ((r1.2 (m + 4) 1) + 1) / 8 * 8)) (m + 4) 4 (((lh_u2 r1.2 (m + 4) 1 (((r1.2 (m + 4) 1) + 1) - ((r1.2 (m + 4) 1) + 1) / 8 * 8)) (m + 4) 4) + 1)) (m + 4) 5 (((lh_u2 (lh_u2 r1.2 (m + 4) 1 (((r1.2 (m + 4) 1) + 1) - ((r1.2 (m + 4) 1) + 1) / 8 * 8)) (m + 4) 4 (((lh_u2 r1.2 (m + 4) 1 (((r1.2 (m + 4) 1) + 1) - ((r1.2 (m + 4) 1) + 1) / 8 * 8)) (m + 4) 4) + 1)) (m + 4) 5) + r1.1)) (m + 4) 3) - 1) else 0)) (m + 4) 6) ||| r9.1)) else lh_bd (f_Ha_seenBy a m (lh_u2 (lh_u2 (lh_u2 (lh_u2 (lh_u2 r1.2 (m + 4) 0 ((r1.2 (m + 4) 0) + x1)) (m + 4) 1 ((((lh_u2 r1.2 (m + 4) 0 ((r1.2 (m + 4) 0) + x1)) (m + 4) 1) + 1) - (((lh_u2 r1.2 (m + 4) 0 ((r1.2 (m + 4) 0) + x1)) (m + 4) 1) + 1) / 8 * 8)) (m + 4) 4 (((lh_u2 (lh_u2 r1.2 (m + 4) 0 ((r1.2 (m + 4) 0) + x1)) (m + 4) 1 ((((lh_u2 r1.2 (m + 4) 0 ((r1.2 (m + 4) 0) + x1)) (m + 4) 1) + 1) - (((lh_u2 r1.2 (m + 4) 0 ((r1.2 (m + 4) 0) + x1)) (m + 4) 1) + 1) / 8 * 8)) (m + 4) 4) + 1)) (m + 4) 5 (((lh_u2 (lh_u2 (lh_u2 r1.2 (m + 4) 0 ((r1.2 (m + 4) 0) + x1)) (m + 4) 1 ((((lh_u2 r1.2 (m + 4) 0 ((r1.2 (m + 4) 0) + x1)) (m + 4) 1) + 1) - (((lh_u2 r1.2 (m + 4) 0 ((r1.2 (m + 4) 0) + x1)) (m + 4) 1) + 1) / 8 * 8)) (m + 4) 4 (((lh_u2 (lh_u2 r1.2 (m + 4) 0 ((r1.2 (m + 4) 0) + x1)) (m + 4) 1 ((((lh_u2 r1.2 (m + 4) 0 ((r1.2 (m + 4) 0) + x1)) (m + 4) 1) + 1) - (((lh_u2 r1.2 (m + 4) 0 ((r1.2 (m + 4) 0) + x1)) (m + 4) 1) + 1) / 8 * 8)) (m + 4) 4) + 1)) (m + 4) 5) + r1.1)) (m + 4) 3 (if 0 < (((lh_u2 (lh_u2 (lh_u2 (lh_u2 r1.2 (m + 4) 0 ((r1.2 (m + 4) 0) + x1)) (m + 4) 1 ((((lh_u2 r1.2 (m + 4) 0 ((r1.2 (m + 4) 0) + x1)) (m + 4) 1) + 1) - (((lh_u2 r1.2 (m + 4) 0 ((r1.2 (m + 4) 0) + x1)) (m + 4) 1) + 1) / 8 * 8)) (m + 4) 4 (((lh_u2 (lh_u2 r1.2 (m + 4) 0 ((r1.2 (m + 4) 0) + x1)) (m + 4) 1 ((((lh_u2 r1.2 (m + 4) 0 ((r1.2 (m + 4) 0) + x1)) (m + 4) 1) + 1) - (((lh_u2 r1.2 (m + 4) 0 ((r1.2 (m + 4) 0) + x1)) (m + 4) 1) + 1) / 8 * 8)) (m + 4) 4) + 1)) (m + 4) 5 (((lh_u2 (lh_u2 (lh_u2 r1.2 (m + 4) 0 ((r1.2 (m + 4) 0) + x1)) (m + 4) 1 ((((lh_u2 r1.2 (m + 4) 0 ((r1.2 (m + 4) 0) + x1)) (m + 4) 1) + 1) - (((lh_u2 r1.2 (m + 4) 0 ((r1.2 (m + 4) 0) + x1)) (m + 4) 1) + 1) / 8 * 8)) (m + 4) 4 (((lh_u2 (lh_u2 r1.2 (m + 4) 0 ((r1.2 (m + 4) 0) + x1)) (m + 4) 1 ((((lh_u2 r1.2 (m + 4) 0 ((r1.2 (m + 4) 0) + x1)) (m + 4) 1) + 1) - (((lh_u2 r1.2 (m + 4) 0 ((r1.2 (m + 4) 0) + x1)) (m + 4) 1) + 1) / 8 * 8)) (m + 4) 4) + 1)) (m + 4) 5) + r1.1)) (m + 4) 3) - 1) then (((lh_u2 (lh_u2 (lh_u2 (lh_u2 r1.2 (m + 4) 0 ((r1.2 (m + 4) 0) + x1)) (m + 4) 1 ((((lh_u2 r1.2 (m + 4) 0 ((r1.2 (m + 4) 0) + x1)) (m + 4) 1) + 1) - (((lh_u2 r1.2 (m + 4) 0 ((r1.2 (m + 4) 0) + x1)) (m + 4) 1) + 1) / 8 * 8)) (m + 4) 4 (((lh_u2 (lh_u2 r1.2 (m + 4) 0 ((r1.2 (m + 4) 0) + x1)) (m + 4) 1 ((((lh_u2 r1.2 (m + 4) 0 ((r1.2 (m + 4) 0) + x1)) (m + 4) 1) + 1) - (((lh_u2 r1.2 (m + 4) 0 ((r1.2 (m + 4) 0) + x1)) (m + 4) 1) + 1) / 8 * 8)) (m + 4) 4) + 1)) (m + 4) 5 (((lh_u2 (lh_u2 (lh_u2 r1.2 (m + 4) 0 ((r1.2 (m + 4) 0) + x1)) (m + 4) 1 ((((lh_u2 r1.2 (m + 4) 0 ((r1.2 (m + 4) 0) + x1)) (m + 4) 1) + 1) - (((lh_u2 r1.2 (m + 4) 0 ((r1.2 (m + 4) 0) + x1)) (m + 4) 1) + 1) / 8 * 8)) (m + 4) 4 (((lh_u2 (lh_u2 r1.2 (m + 4) 0 ((r1.2 (m + 4) 0) + x1)) (m + 4) 1 ((((lh_u2 r1.2 (m + 4) 0 ((r1.2 (m + 4) 0) + x1)) (m + 4) 1) + 1) - (((lh_u2 r1.2 (m + 4) 0 ((r1.2 (m + 4) 0) + x1)) (m + 4) 1) + 1) / 8 * 8)) (m + 4) 4) + 1)) (m + 4) 5) + r1.1)) (m + 4) 3) - 1) else 0))) fun r11 => some (r1.1, lh_u2 r11.2 (m + 4) 6 (((lh_u2 (lh_u2 (lh_u2 (lh_u2 (lh_u2 r1.2 (m + 4) 0 ((r1.2 (m + 4) 0) + x1)) (m + 4) 1 ((((lh_u2 r1.2 (m + 4) 0 ((r1.2 (m + 4) 0) + x1)) (m + 4) 1) + 1) - (((lh_u2 r1.2 (m + 4) 0 ((r1.2 (m + 4) 0) + x1)) (m + 4) 1) + 1) / 8 * 8)) (m + 4) 4 (((lh_u2 (lh_u2 r1.2 (m + 4) 0 ((r1.2 (m + 4) 0) + x1)) (m + 4) 1 ((((lh_u2 r1.2 (m + 4) 0 ((r1.2 (m + 4) 0) + x1)) (m + 4) 1) + 1) - (((lh_u2 r1.2 (m + 4) 0 ((r1.2 (m + 4) 0) + x1)) (m + 4) 1) + 1) / 8 * 8)) (m + 4) 4) + 1)) (m + 4) 5 (((lh_u2 (lh_u2 (lh_u2 r1.2 (m + 4) 0 ((r1.2 (m + 4) 0) + x1)) (m + 4) 1 ((((lh_u2 r1.2 (m + 4) 0 ((r1.2 (m + 4) 0) + x1)) (m + 4) 1) + 1) - (((lh_u2 r1.2 (m + 4) 0 ((r1.2 (m + 4) 0) + x1)) (m + 4) 1) + 1) / 8 * 8)) (m + 4) 4 (((lh_u2 (lh_u2 r1.2 (m + 4) 0 ((r1.2 (m + 4) 0) + x1)) (m + 4) 1 ((((lh_u2 r1.2 (m + 4) 0 ((r1.2 (m + 4) 0) + x1)) (m + 4) 1) + 1) - (((lh_u2 r1.2 (m + 4) 0 ((r1.2 (m + 4) 0) + x1)) (m + 4) 1) + 1) / 8 * 8)) (m + 4) 4) + 1)) (m + 4) 5) + r1.1)) (m + 4) 3 (if 0 < (((lh_u2 (lh_u2 (lh_u2 (lh_u2 r1.2 (m + 4) 0 ((r1.2 (m + 4) 0) + x1)) (m + 4) 1 ((((lh_u2 r1.2 (m + 4) 0 ((r1.2 (m + 4) 0) + x1)) (m + 4) 1) + 1) - (((lh_u2 r1.2 (m + 4) 0 ((r1.2 (m + 4) 0) + x1)) (m + 4) 1) + 1) / 8 * 8)) (m + 4) 4 (((lh_u2 (lh_u2 r1.2 (m + 4) 0 ((r1.2 (m + 4) 0) + x1)) (m + 4) 1 ((((lh_u2 r1.2 (m + 4) 0 ((r1.2 (m + 4) 0) + x1)) (m + 4) 1) + 1) - (((lh_u2 r1.2 (m + 4) 0 ((r1.2 (m + 4) 0) + x1)) (m + 4) 1) + 1) / 8 * 8)) (m + 4) 4) + 1)) (m + 4) 5 (((lh_u2 (lh_u2 (lh_u2 r1.2 (m + 4) 0 ((r1.2 (m + 4) 0) + x1)) (m + 4) 1 ((((lh_u2 r1.2 (m + 4) 0 ((r1.2 (m + 4) 0) + x1)) (m + 4) 1) + 1) - (((lh_u2 r1.2 (m + 4) 0 ((r1.2 (m + 4) 0) + x1)) (m + 4) 1) + 1) / 8 * 8)) (m + 4) 4 (((lh_u2 (lh_u2 r1.2 (m + 4) 0 ((r1.2 (m + 4) 0) + x1)) (m + 4) 1 ((((lh_u2 r1.2 (m + 4) 0 ((r1.2 (m + 4) 0) + x1)) (m + 4) 1) + 1) - (((lh_u2 r1.2 (m + 4) 0 ((r1.2 (m + 4) 0) + x1)) (m + 4) 1) + 1) / 8 * 8)) (m + 4) 4) + 1)) (m + 4) 5) + r1.1)) (m + 4) 3) - 1) then (((lh_u2 (lh_u2 (lh_u2 (lh_u2 r1.2 (m + 4) 0 ((r1.2 (m + 4) 0) + x1)) (m + 4) 1 ((((lh_u2 r1.2 (m + 4) 0 ((r1.2 (m + 4) 0) + x1)) (m + 4) 1) + 1) - (((lh_u2 r1.2 (m + 4) 0 ((r1.2 (m + 4) 0) + x1)) (m + 4) 1) + 1) / 8 * 8)) (m + 4) 4 (((lh_u2 (lh_u2 r1.2 (m + 4) 0 ((r1.2 (m + 4) 0) + x1)) (m + 4) 1 ((((lh_u2 r1.2 (m + 4) 0 ((r1.2 (m + 4) 0) + x1)) (m + 4) 1) + 1) - (((lh_u2 r1.2 (m + 4) 0 ((r1.2 (m + 4) 0) + x1)) (m + 4) 1) + 1) / 8 * 8)) (m + 4) 4) + 1)) (m + 4) 5 (((lh_u2 (lh_u2 (lh_u2 r1.2 (m + 4) 0 ((r1.2 (m + 4) 0) + x1)) (m + 4) 1 ((((lh_u2 r1.2 (m + 4) 0 ((r1.2 (m + 4) 0) + x1)) (m + 4) 1) + 1) - (((lh_u2 r1.2 (m + 4) 0 ((r1.2 (m + 4) 0) + x1)) (m + 4) 1) + 1) / 8 * 8)) (m + 4) 4 (((lh_u2 (lh_u2 r1.2 (m + 4) 0 ((r1.2 (m + 4) 0) + x1)) (m + 4) 1 ((((lh_u2 r1.2 (m + 4) 0 ((r1.2 (m + 4) 0) + x1)) (m + 4) 1) + 1) - (((lh_u2 r1.2 (m + 4) 0 ((r1.2 (m + 4) 0) + x1)) (m + 4) 1) + 1) / 8 * 8)) (m + 4) 4) + 1)) (m + 4) 5) + r1.1)) (m + 4) 3) - 1) else 0)) (m + 4) 6) ||| r11.1)) else lh_bd (f_Ha_seenBy a m (lh_u2 (lh_u2 (lh_u2 (lh_u2 r1.2 (m + 4) 1 (((r1.2 (m + 4) 1) + 1) - ((r1.2 (m + 4) 1) + 1) / 8 * 8)) (m + 4) 4 (((lh_u2 r1.2 (m + 4) 1 (((r1.2 (m + 4) 1) + 1) - ((r1.2 (m + 4) 1) + 1) / 8 * 8)) (m + 4) 4) + 1)) (m + 4) 5 (((lh_u2 (lh_u2 r1.2 (m + 4) 1 (((r1.2 (m + 4) 1) + 1) - ((r1.2 (m + 4) 1) + 1) / 8 * 8)) (m + 4) 4 (((lh_u2 r1.2 (m + 4) 1 (((r1.2 (m + 4) 1) + 1) - ((r1.2 (m + 4) 1) + 1) / 8 * 8)) (m + 4) 4) + 1)) (m + 4) 5) + r1.1)) (m + 4) 3 (if 0 < (((lh_u2 (lh_u2 (lh_u2 r1.2 (m + 4) 1 (((r1.2 (m + 4) 1) + 1) - ((r1.2 (m + 4) 1) + 1) / 8 * 8)) (m + 4) 4 (((lh_u2 r1.2 (m + 4) 1 (((r1.2 (m + 4) 1) + 1) - ((r1.2 (m + 4) 1) + 1) / 8 * 8)) (m + 4) 4) + 1)) (m + 4) 5 (((lh_u2 (lh_u2 r1.2 (m + 4) 1 (((r1.2 (m + 4) 1) + 1) - ((r1.2 (m + 4) 1) + 1) / 8 * 8)) (m + 4) 4 (((lh_u2 r1.2 (m + 4) 1 (((r1.2 (m + 4) 1) + 1) - ((r1.2 (m + 4) 1) + 1) / 8 * 8)) (m + 4) 4) + 1)) (m + 4) 5) + r1.1)) (m + 4) 3) - 1) then (((lh_u2 (lh_u2 (lh_u2 r1.2 (m + 4) 1 (((r1.2 (m + 4) 1) + 1) - ((r1.2 (m + 4) 1) + 1) / 8 * 8)) (m + 4) 4 (((lh_u2 r1.2 (m + 4) 1 (((r1.2 (m + 4) 1) + 1) - ((r1.2 (m + 4) 1) + 1) / 8 * 8)) (m + 4) 4) + 1)) (m + 4) 5 (((lh_u2 (lh_u2 r1.2 (m + 4) 1 (((r1.2 (m + 4) 1) + 1) - ((r1.2 (m + 4) 1) + 1) / 8 * 8)) (m + 4) 4 (((lh_u2 r1.2 (m + 4) 1 (((r1.2 (m + 4) 1) + 1) - ((r1.2 (m + 4) 1) + 1) / 8 * 8)) (m + 4) 4) + 1)) (m + 4) 5) + r1.1)) (m + 4) 3) - 1) else 0))) fun r4 => some (r1.1, lh_u2 r4.2 (m + 4) 6 (((lh_u2 (lh_u2 (lh_u2 (lh_u2 r1.2 (m + 4) 1 (((r1.2 (m + 4) 1) + 1) - ((r1.2 (m + 4) 1) + 1) / 8 * 8)) (m + 4) 4 (((lh_u2 r1.2 (m + 4) 1 (((r1.2 (m + 4) 1) + 1) - ((r1.2 (m + 4) 1) + 1) / 8 * 8)) (m + 4) 4) + 1)) (m + 4) 5 (((lh_u2 (lh_u2 r1.2 (m + 4) 1 (((r1.2 (m + 4) 1) + 1) - ((r1.2 (m + 4) 1) + 1) / 8 * 8)) (m + 4) 4 (((lh_u2 r1.2 (m + 4) 1 (((r1.2 (m + 4) 1) + 1) - ((r1.2 (m + 4) 1) + 1) / 8 * 8)) (m + 4) 4) + 1)) (m + 4) 5) + r1.1)) (m + 4) 3 (if 0 < (((lh_u2 (lh_u2 (lh_u2 r1.2 (m + 4) 1 (((r1.2 (m + 4) 1) + 1) - ((r1.2 (m + 4) 1) + 1) / 8 * 8)) (m + 4) 4 (((lh_u2 r1.2 (m + 4) 1 (((r1.2 (m + 4) 1) + 1) - ((r1.2 (m + 4) 1) + 1) / 8 * 8)) (m + 4) 4) + 1)) (m + 4) 5 (((lh_u2 (lh_u2 r1.2 (m + 4) 1 (((r1.2 (m + 4) 1) + 1) - ((r1.2 (m + 4) 1) + 1) / 8 * 8)) (m + 4) 4 (((lh_u2 r1.2 (m + 4) 1 (((r1.2 (m + 4) 1) + 1) - ((r1.2 (m + 4) 1) + 1) / 8 * 8)) (m + 4) 4) + 1)) (m + 4) 5) + r1.1)) (m + 4) 3) - 1) then (((lh_u2 (lh_u2 (lh_u2 r1.2 (m + 4) 1 (((r1.2 (m + 4) 1) + 1) - ((r1.2 (m + 4) 1) + 1) / 8 * 8)) (m + 4) 4 (((lh_u2 r1.2 (m + 4) 1 (((r1.2 (m + 4) 1) + 1) - ((r1.2 (m + 4) 1) + 1) / 8 * 8)) (m + 4) 4) + 1)) (m + 4) 5 (((lh_u2 (lh_u2 r1.2 (m + 4) 1 (((r1.2 (m + 4) 1) + 1) - ((r1.2 (m + 4) 1) + 1) / 8 * 8)) (m + 4) 4 (((lh_u2 r1.2 (m + 4) 1 (((r1.2 (m + 4) 1) + 1) - ((r1.2 (m + 4) 1) + 1) / 8 * 8)) (m + 4) 4) + 1)) (m + 4) 5) + r1.1)) (m + 4) 3) - 1) else 0)) (m + 4) 6) ||| r4.1))
theorem t_Ha_walk {Γ : lh_Cx} {I : lh_II} {L : lh_LL} {F : lh_FF} {S : lh_SS} {K : Int32 → lh_Hp → Prop} {r : Int32 × lh_II} (hG : lh_GX Γ) (hS : lh_lay F S) {a : Nat} (ha : lh_hl F S a) {m : Nat} (hm : S[m]? = some (10, 0)) {x1 : Int32} (hf : f_Ha_walk a m x1 I = some r) (hK : K r.1 (r.2, L, F, S)) : lh_Met Γ m_Ha_walk 5 0 0 [.ref (a + 4), .ref (m + 4), .int x1] (I, L, F, S) (lh_ki K) := by
  rw [f_Ha_walk] at hf
  refine lh_ofG k_Ha_walk [(0, .ref (a + 4)), (1, .ref (m + 4)), (2, .int x1)] rfl (Nat.le_of_ble_eq_true rfl) rfl ?_
  refine lh_aload_n (q := 0) rfl rfl rfl ?_
  refine lh_aload_n (q := 1) rfl rfl rfl ?_
  refine lh_iload_n (q := 2) rfl rfl rfl ?_
  refine lh_bdE hf (fun r1 e2 hf => ?_)
  refine lh_cVi (N := m_Ha_bumpsOf) (d := 3) (o := a) (As := [.ref (m + 4), .int x1]) (st := []) rfl rfl v_Ha_bumpsOf (ha.1 0 _ rfl) rfl rfl rfl ⟨rfl, rfl⟩ rfl (t_Ha_bumpsOf hG hS ha hm e2 ?_)
  refine lh_istore_n (lv' := [(0, .ref (a + 4)), (1, .ref (m + 4)), (2, .int x1), (3, .int r1.1)]) rfl rfl rfl rfl ?_
  refine lh_iload_n (q := 3) rfl rfl rfl ?_
  refine lh_if_ne rfl (fun c3 => ?_) (fun c3 => ?_)
  · have hf := lh_ifF hf c3
    refine lh_aload_n (q := 1) rfl rfl rfl ?_
    refine lh_aload_n (q := 1) rfl rfl rfl ?_
    refine lh_getI4 rfl rfl hm rfl ?_
    refine lh_iconst rfl lh_k_1 ?_
    refine lh_iadd rfl ?_
    refine lh_bipush rfl lh_b_8 ?_
    refine lh_irem rfl (by decide) ?_
    refine lh_putI4 rfl rfl hm rfl rfl ?_
    refine lh_aload_n (q := 1) rfl rfl rfl ?_
    refine lh_dup rfl rfl ?_
    refine lh_getI4 rfl rfl hm rfl ?_
    refine lh_iconst rfl lh_k_1 ?_
    refine lh_iadd rfl ?_
    refine lh_putI4 rfl rfl hm rfl rfl ?_
    refine lh_aload_n (q := 1) rfl rfl rfl ?_
    refine lh_dup rfl rfl ?_
    refine lh_getI4 rfl rfl hm rfl ?_
    refine lh_iload_n (q := 3) rfl rfl rfl ?_
    refine lh_iadd rfl ?_
    refine lh_putI4 rfl rfl hm rfl rfl ?_
    refine lh_aload_n (q := 1) rfl rfl rfl ?_
    refine lh_iconst rfl lh_k_0 ?_
    refine lh_aload_n (q := 1) rfl rfl rfl ?_
    refine lh_getI4 rfl rfl hm rfl ?_
    refine lh_iconst rfl lh_k_1 ?_
    refine lh_isub rfl ?_
    refine lh_max rfl rfl ⟨rfl, rfl⟩ rfl ?_
    refine lh_putI4 rfl rfl hm rfl rfl ?_
    refine lh_aload_n (q := 1) rfl rfl rfl ?_
    refine lh_dup rfl rfl ?_
    refine lh_getI4 rfl rfl hm rfl ?_
    refine lh_aload_n (q := 0) rfl rfl rfl ?_
    refine lh_aload_n (q := 1) rfl rfl rfl ?_
    refine lh_bdE hf (fun r4 e5 hf => ?_)
    refine lh_cVi (N := m_Ha_seenBy) (d := 4) (o := a) (As := [.ref (m + 4)]) (st := [.int ((lh_u2 (lh_u2 (lh_u2 (lh_u2 r1.2 (m + 4) 1 (((r1.2 (m + 4) 1) + 1) - ((r1.2 (m + 4) 1) + 1) / 8 * 8)) (m + 4) 4 (((lh_u2 r1.2 (m + 4) 1 (((r1.2 (m + 4) 1) + 1) - ((r1.2 (m + 4) 1) + 1) / 8 * 8)) (m + 4) 4) + 1)) (m + 4) 5 (((lh_u2 (lh_u2 r1.2 (m + 4) 1 (((r1.2 (m + 4) 1) + 1) - ((r1.2 (m + 4) 1) + 1) / 8 * 8)) (m + 4) 4 (((lh_u2 r1.2 (m + 4) 1 (((r1.2 (m + 4) 1) + 1) - ((r1.2 (m + 4) 1) + 1) / 8 * 8)) (m + 4) 4) + 1)) (m + 4) 5) + r1.1)) (m + 4) 3 (if 0 < (((lh_u2 (lh_u2 (lh_u2 r1.2 (m + 4) 1 (((r1.2 (m + 4) 1) + 1) - ((r1.2 (m + 4) 1) + 1) / 8 * 8)) (m + 4) 4 (((lh_u2 r1.2 (m + 4) 1 (((r1.2 (m + 4) 1) + 1) - ((r1.2 (m + 4) 1) + 1) / 8 * 8)) (m + 4) 4) + 1)) (m + 4) 5 (((lh_u2 (lh_u2 r1.2 (m + 4) 1 (((r1.2 (m + 4) 1) + 1) - ((r1.2 (m + 4) 1) + 1) / 8 * 8)) (m + 4) 4 (((lh_u2 r1.2 (m + 4) 1 (((r1.2 (m + 4) 1) + 1) - ((r1.2 (m + 4) 1) + 1) / 8 * 8)) (m + 4) 4) + 1)) (m + 4) 5) + r1.1)) (m + 4) 3) - 1) then (((lh_u2 (lh_u2 (lh_u2 r1.2 (m + 4) 1 (((r1.2 (m + 4) 1) + 1) - ((r1.2 (m + 4) 1) + 1) / 8 * 8)) (m + 4) 4 (((lh_u2 r1.2 (m + 4) 1 (((r1.2 (m + 4) 1) + 1) - ((r1.2 (m + 4) 1) + 1) / 8 * 8)) (m + 4) 4) + 1)) (m + 4) 5 (((lh_u2 (lh_u2 r1.2 (m + 4) 1 (((r1.2 (m + 4) 1) + 1) - ((r1.2 (m + 4) 1) + 1) / 8 * 8)) (m + 4) 4 (((lh_u2 r1.2 (m + 4) 1 (((r1.2 (m + 4) 1) + 1) - ((r1.2 (m + 4) 1) + 1) / 8 * 8)) (m + 4) 4) + 1)) (m + 4) 5) + r1.1)) (m + 4) 3) - 1) else 0)) (m + 4) 6), .ref (m + 4)]) rfl rfl v_Ha_seenBy (ha.1 0 _ rfl) rfl rfl rfl ⟨rfl, rfl⟩ rfl (t_Ha_seenBy hG hS ha hm e5 ?_)
    refine lh_ior rfl ?_
    refine lh_putI4 rfl rfl hm rfl rfl ?_
    refine lh_iload_n (q := 3) rfl rfl rfl ?_
    exact lh_iret rfl rfl rfl (by obtain rfl := Option.some.inj hf; exact hK)
  · have hf := lh_ifT hf c3
    refine lh_aload_n (q := 0) rfl rfl rfl ?_
    refine lh_aload_n (q := 1) rfl rfl rfl ?_
    refine lh_getI4 rfl rfl hm rfl ?_
    refine lh_iload_n (q := 2) rfl rfl rfl ?_
    refine lh_iadd rfl ?_
    refine lh_bdE hf (fun r6 e7 hf => ?_)
    refine lh_cVi (N := m_Ha_canEnter) (d := 2) (o := a) (As := [.int ((r1.2 (m + 4) 0) + x1)]) (st := []) rfl rfl v_Ha_canEnter (ha.1 0 _ rfl) rfl rfl rfl ⟨rfl, rfl⟩ rfl (t_Ha_canEnter hG hS ha e7 ?_)
    refine lh_if_eq rfl (fun c8 => ?_) (fun c8 => ?_)
    · have hf := lh_ifT hf c8
      refine lh_aload_n (q := 1) rfl rfl rfl ?_
      refine lh_aload_n (q := 1) rfl rfl rfl ?_
      refine lh_getI4 rfl rfl hm rfl ?_
      refine lh_iconst rfl lh_k_1 ?_
      refine lh_iadd rfl ?_
      refine lh_bipush rfl lh_b_8 ?_
      refine lh_irem rfl (by decide) ?_
      refine lh_putI4 rfl rfl hm rfl rfl ?_
      refine lh_aload_n (q := 1) rfl rfl rfl ?_
      refine lh_dup rfl rfl ?_
      refine lh_getI4 rfl rfl hm rfl ?_
      refine lh_iconst rfl lh_k_1 ?_
      refine lh_iadd rfl ?_
      refine lh_putI4 rfl rfl hm rfl rfl ?_
      refine lh_aload_n (q := 1) rfl rfl rfl ?_
      refine lh_dup rfl rfl ?_
      refine lh_getI4 rfl rfl hm rfl ?_
      refine lh_iload_n (q := 3) rfl rfl rfl ?_
      refine lh_iadd rfl ?_
      refine lh_putI4 rfl rfl hm rfl rfl ?_
      refine lh_aload_n (q := 1) rfl rfl rfl ?_
      refine lh_iconst rfl lh_k_0 ?_
      refine lh_aload_n (q := 1) rfl rfl rfl ?_
      refine lh_getI4 rfl rfl hm rfl ?_
      refine lh_iconst rfl lh_k_1 ?_
      refine lh_isub rfl ?_
      refine lh_max rfl rfl ⟨rfl, rfl⟩ rfl ?_
      refine lh_putI4 rfl rfl hm rfl rfl ?_
      refine lh_aload_n (q := 1) rfl rfl rfl ?_
      refine lh_dup rfl rfl ?_
      refine lh_getI4 rfl rfl hm rfl ?_
      refine lh_aload_n (q := 0) rfl rfl rfl ?_
      refine lh_aload_n (q := 1) rfl rfl rfl ?_
      refine lh_bdE hf (fun r9 e10 hf => ?_)
      refine lh_cVi (N := m_Ha_seenBy) (d := 4) (o := a) (As := [.ref (m + 4)]) (st := [.int ((lh_u2 (lh_u2 (lh_u2 (lh_u2 r1.2 (m + 4) 1 (((r1.2 (m + 4) 1) + 1) - ((r1.2 (m + 4) 1) + 1) / 8 * 8)) (m + 4) 4 (((lh_u2 r1.2 (m + 4) 1 (((r1.2 (m + 4) 1) + 1) - ((r1.2 (m + 4) 1) + 1) / 8 * 8)) (m + 4) 4) + 1)) (m + 4) 5 (((lh_u2 (lh_u2 r1.2 (m + 4) 1 (((r1.2 (m + 4) 1) + 1) - ((r1.2 (m + 4) 1) + 1) / 8 * 8)) (m + 4) 4 (((lh_u2 r1.2 (m + 4) 1 (((r1.2 (m + 4) 1) + 1) - ((r1.2 (m + 4) 1) + 1) / 8 * 8)) (m + 4) 4) + 1)) (m + 4) 5) + r1.1)) (m + 4) 3 (if 0 < (((lh_u2 (lh_u2 (lh_u2 r1.2 (m + 4) 1 (((r1.2 (m + 4) 1) + 1) - ((r1.2 (m + 4) 1) + 1) / 8 * 8)) (m + 4) 4 (((lh_u2 r1.2 (m + 4) 1 (((r1.2 (m + 4) 1) + 1) - ((r1.2 (m + 4) 1) + 1) / 8 * 8)) (m + 4) 4) + 1)) (m + 4) 5 (((lh_u2 (lh_u2 r1.2 (m + 4) 1 (((r1.2 (m + 4) 1) + 1) - ((r1.2 (m + 4) 1) + 1) / 8 * 8)) (m + 4) 4 (((lh_u2 r1.2 (m + 4) 1 (((r1.2 (m + 4) 1) + 1) - ((r1.2 (m + 4) 1) + 1) / 8 * 8)) (m + 4) 4) + 1)) (m + 4) 5) + r1.1)) (m + 4) 3) - 1) then (((lh_u2 (lh_u2 (lh_u2 r1.2 (m + 4) 1 (((r1.2 (m + 4) 1) + 1) - ((r1.2 (m + 4) 1) + 1) / 8 * 8)) (m + 4) 4 (((lh_u2 r1.2 (m + 4) 1 (((r1.2 (m + 4) 1) + 1) - ((r1.2 (m + 4) 1) + 1) / 8 * 8)) (m + 4) 4) + 1)) (m + 4) 5 (((lh_u2 (lh_u2 r1.2 (m + 4) 1 (((r1.2 (m + 4) 1) + 1) - ((r1.2 (m + 4) 1) + 1) / 8 * 8)) (m + 4) 4 (((lh_u2 r1.2 (m + 4) 1 (((r1.2 (m + 4) 1) + 1) - ((r1.2 (m + 4) 1) + 1) / 8 * 8)) (m + 4) 4) + 1)) (m + 4) 5) + r1.1)) (m + 4) 3) - 1) else 0)) (m + 4) 6), .ref (m + 4)]) rfl rfl v_Ha_seenBy (ha.1 0 _ rfl) rfl rfl rfl ⟨rfl, rfl⟩ rfl (t_Ha_seenBy hG hS ha hm e10 ?_)
      refine lh_ior rfl ?_
      refine lh_putI4 rfl rfl hm rfl rfl ?_
      refine lh_iload_n (q := 3) rfl rfl rfl ?_
      exact lh_iret rfl rfl rfl (by obtain rfl := Option.some.inj hf; exact hK)
    · have hf := lh_ifF hf c8
      refine lh_aload_n (q := 1) rfl rfl rfl ?_
      refine lh_dup rfl rfl ?_
      refine lh_getI4 rfl rfl hm rfl ?_
      refine lh_iload_n (q := 2) rfl rfl rfl ?_
      refine lh_iadd rfl ?_
      refine lh_putI4 rfl rfl hm rfl rfl ?_
      refine lh_aload_n (q := 1) rfl rfl rfl ?_
      refine lh_aload_n (q := 1) rfl rfl rfl ?_
      refine lh_getI4 rfl rfl hm rfl ?_
      refine lh_iconst rfl lh_k_1 ?_
      refine lh_iadd rfl ?_
      refine lh_bipush rfl lh_b_8 ?_
      refine lh_irem rfl (by decide) ?_
      refine lh_putI4 rfl rfl hm rfl rfl ?_
      refine lh_aload_n (q := 1) rfl rfl rfl ?_
      refine lh_dup rfl rfl ?_
      refine lh_getI4 rfl rfl hm rfl ?_
      refine lh_iconst rfl lh_k_1 ?_
      refine lh_iadd rfl ?_
      refine lh_putI4 rfl rfl hm rfl rfl ?_
      refine lh_aload_n (q := 1) rfl rfl rfl ?_
      refine lh_dup rfl rfl ?_
      refine lh_getI4 rfl rfl hm rfl ?_
      refine lh_iload_n (q := 3) rfl rfl rfl ?_
      refine lh_iadd rfl ?_
      refine lh_putI4 rfl rfl hm rfl rfl ?_
      refine lh_aload_n (q := 1) rfl rfl rfl ?_
      refine lh_iconst rfl lh_k_0 ?_
      refine lh_aload_n (q := 1) rfl rfl rfl ?_
      refine lh_getI4 rfl rfl hm rfl ?_
      refine lh_iconst rfl lh_k_1 ?_
      refine lh_isub rfl ?_
      refine lh_max rfl rfl ⟨rfl, rfl⟩ rfl ?_
      refine lh_putI4 rfl rfl hm rfl rfl ?_
      refine lh_aload_n (q := 1) rfl rfl rfl ?_
      refine lh_dup rfl rfl ?_
      refine lh_getI4 rfl rfl hm rfl ?_
      refine lh_aload_n (q := 0) rfl rfl rfl ?_
      refine lh_aload_n (q := 1) rfl rfl rfl ?_
      refine lh_bdE hf (fun r11 e12 hf => ?_)
      refine lh_cVi (N := m_Ha_seenBy) (d := 4) (o := a) (As := [.ref (m + 4)]) (st := [.int ((lh_u2 (lh_u2 (lh_u2 (lh_u2 (lh_u2 r1.2 (m + 4) 0 ((r1.2 (m + 4) 0) + x1)) (m + 4) 1 ((((lh_u2 r1.2 (m + 4) 0 ((r1.2 (m + 4) 0) + x1)) (m + 4) 1) + 1) - (((lh_u2 r1.2 (m + 4) 0 ((r1.2 (m + 4) 0) + x1)) (m + 4) 1) + 1) / 8 * 8)) (m + 4) 4 (((lh_u2 (lh_u2 r1.2 (m + 4) 0 ((r1.2 (m + 4) 0) + x1)) (m + 4) 1 ((((lh_u2 r1.2 (m + 4) 0 ((r1.2 (m + 4) 0) + x1)) (m + 4) 1) + 1) - (((lh_u2 r1.2 (m + 4) 0 ((r1.2 (m + 4) 0) + x1)) (m + 4) 1) + 1) / 8 * 8)) (m + 4) 4) + 1)) (m + 4) 5 (((lh_u2 (lh_u2 (lh_u2 r1.2 (m + 4) 0 ((r1.2 (m + 4) 0) + x1)) (m + 4) 1 ((((lh_u2 r1.2 (m + 4) 0 ((r1.2 (m + 4) 0) + x1)) (m + 4) 1) + 1) - (((lh_u2 r1.2 (m + 4) 0 ((r1.2 (m + 4) 0) + x1)) (m + 4) 1) + 1) / 8 * 8)) (m + 4) 4 (((lh_u2 (lh_u2 r1.2 (m + 4) 0 ((r1.2 (m + 4) 0) + x1)) (m + 4) 1 ((((lh_u2 r1.2 (m + 4) 0 ((r1.2 (m + 4) 0) + x1)) (m + 4) 1) + 1) - (((lh_u2 r1.2 (m + 4) 0 ((r1.2 (m + 4) 0) + x1)) (m + 4) 1) + 1) / 8 * 8)) (m + 4) 4) + 1)) (m + 4) 5) + r1.1)) (m + 4) 3 (if 0 < (((lh_u2 (lh_u2 (lh_u2 (lh_u2 r1.2 (m + 4) 0 ((r1.2 (m + 4) 0) + x1)) (m + 4) 1 ((((lh_u2 r1.2 (m + 4) 0 ((r1.2 (m + 4) 0) + x1)) (m + 4) 1) + 1) - (((lh_u2 r1.2 (m + 4) 0 ((r1.2 (m + 4) 0) + x1)) (m + 4) 1) + 1) / 8 * 8)) (m + 4) 4 (((lh_u2 (lh_u2 r1.2 (m + 4) 0 ((r1.2 (m + 4) 0) + x1)) (m + 4) 1 ((((lh_u2 r1.2 (m + 4) 0 ((r1.2 (m + 4) 0) + x1)) (m + 4) 1) + 1) - (((lh_u2 r1.2 (m + 4) 0 ((r1.2 (m + 4) 0) + x1)) (m + 4) 1) + 1) / 8 * 8)) (m + 4) 4) + 1)) (m + 4) 5 (((lh_u2 (lh_u2 (lh_u2 r1.2 (m + 4) 0 ((r1.2 (m + 4) 0) + x1)) (m + 4) 1 ((((lh_u2 r1.2 (m + 4) 0 ((r1.2 (m + 4) 0) + x1)) (m + 4) 1) + 1) - (((lh_u2 r1.2 (m + 4) 0 ((r1.2 (m + 4) 0) + x1)) (m + 4) 1) + 1) / 8 * 8)) (m + 4) 4 (((lh_u2 (lh_u2 r1.2 (m + 4) 0 ((r1.2 (m + 4) 0) + x1)) (m + 4) 1 ((((lh_u2 r1.2 (m + 4) 0 ((r1.2 (m + 4) 0) + x1)) (m + 4) 1) + 1) - (((lh_u2 r1.2 (m + 4) 0 ((r1.2 (m + 4) 0) + x1)) (m + 4) 1) + 1) / 8 * 8)) (m + 4) 4) + 1)) (m + 4) 5) + r1.1)) (m + 4) 3) - 1) then (((lh_u2 (lh_u2 (lh_u2 (lh_u2 r1.2 (m + 4) 0 ((r1.2 (m + 4) 0) + x1)) (m + 4) 1 ((((lh_u2 r1.2 (m + 4) 0 ((r1.2 (m + 4) 0) + x1)) (m + 4) 1) + 1) - (((lh_u2 r1.2 (m + 4) 0 ((r1.2 (m + 4) 0) + x1)) (m + 4) 1) + 1) / 8 * 8)) (m + 4) 4 (((lh_u2 (lh_u2 r1.2 (m + 4) 0 ((r1.2 (m + 4) 0) + x1)) (m + 4) 1 ((((lh_u2 r1.2 (m + 4) 0 ((r1.2 (m + 4) 0) + x1)) (m + 4) 1) + 1) - (((lh_u2 r1.2 (m + 4) 0 ((r1.2 (m + 4) 0) + x1)) (m + 4) 1) + 1) / 8 * 8)) (m + 4) 4) + 1)) (m + 4) 5 (((lh_u2 (lh_u2 (lh_u2 r1.2 (m + 4) 0 ((r1.2 (m + 4) 0) + x1)) (m + 4) 1 ((((lh_u2 r1.2 (m + 4) 0 ((r1.2 (m + 4) 0) + x1)) (m + 4) 1) + 1) - (((lh_u2 r1.2 (m + 4) 0 ((r1.2 (m + 4) 0) + x1)) (m + 4) 1) + 1) / 8 * 8)) (m + 4) 4 (((lh_u2 (lh_u2 r1.2 (m + 4) 0 ((r1.2 (m + 4) 0) + x1)) (m + 4) 1 ((((lh_u2 r1.2 (m + 4) 0 ((r1.2 (m + 4) 0) + x1)) (m + 4) 1) + 1) - (((lh_u2 r1.2 (m + 4) 0 ((r1.2 (m + 4) 0) + x1)) (m + 4) 1) + 1) / 8 * 8)) (m + 4) 4) + 1)) (m + 4) 5) + r1.1)) (m + 4) 3) - 1) else 0)) (m + 4) 6), .ref (m + 4)]) rfl rfl v_Ha_seenBy (ha.1 0 _ rfl) rfl rfl rfl ⟨rfl, rfl⟩ rfl (t_Ha_seenBy hG hS ha hm e12 ?_)
      refine lh_ior rfl ?_
      refine lh_putI4 rfl rfl hm rfl rfl ?_
      refine lh_iload_n (q := 3) rfl rfl rfl ?_
      exact lh_iret rfl rfl rfl (by obtain rfl := Option.some.inj hf; exact hK)
def f_Ha_whoIsIn_4 (a : Nat) (v1 : Int32) (v2 : Int32) (I : lh_II) : Nat → Int32 → Int32 → Option (Int32)
  | 0, _, _ => none
  | n + 1, v3, v4 => if (I (a + 4) 11) ≤ v4 then some v3 else lh_bd (f_Ha_placeOf a v4 v2 I) fun r2 => if r2 = v1 then f_Ha_whoIsIn_4 a v1 v2 I n (v3 ||| (1 <<< (v4 &&& 31))) (v4 + 1) else f_Ha_whoIsIn_4 a v1 v2 I n v3 (v4 + 1)
def f_Ha_whoIsIn (a : Nat) (x1 : Int32) (x2 : Int32) (I : lh_II) : Option (Int32) := lh_bd (f_Ha_whoIsIn_4 a x1 x2 I lh_fuel 0 0) fun r5 => some r5
theorem t_Ha_whoIsIn_4 {Γ : lh_Cx} {F : lh_FF} {S : lh_SS} {Z : List Frame → Array Value → State → State → Prop} (hG : lh_GX Γ) (hS : lh_lay F S) {a : Nat} (ha : lh_hl F S a) {v1 : Int32} {v2 : Int32} {I : lh_II} {L : lh_LL} : ∀ (n : Nat) (v3 : Int32) (v4 : Int32) (o : Int32), f_Ha_whoIsIn_4 a v1 v2 I n v3 v4 = some o → ∀ (x0_ : lh_G Γ m_Ha_whoIsIn (lh_R 2 0 0) Z 0 0 22 [(3, .int o)] [] (I, L, F, S)), lh_G Γ m_Ha_whoIsIn (lh_R 2 0 0) Z 0 0 4 [(0, .ref (a + 4)), (1, .int v1), (2, .int v2), (3, .int v3), (4, .int v4)] [] (I, L, F, S) := by
  intro n
  induction n with
  | zero => intro v3 v4 o hf; cases hf
  | succ n ih =>
    intro v3 v4 o hf x0_
    rw [f_Ha_whoIsIn_4] at hf
    refine lh_iload (q := 4) rfl rfl ?_
    refine lh_aload_n (q := 0) rfl rfl rfl ?_
    refine lh_getI4 rfl rfl (ha.1 0 _ rfl) rfl ?_
    refine lh_icmp_ge rfl (fun c1 => ?_) (fun c1 => ?_)
    · have hf := lh_ifT hf c1
      exact lh_less [3] rfl (by cases hf; exact x0_)
    · have hf := lh_ifF hf c1
      refine lh_aload_n (q := 0) rfl rfl rfl ?_
      refine lh_iload (q := 4) rfl rfl ?_
      refine lh_iload_n (q := 2) rfl rfl rfl ?_
      refine lh_bdE hf (fun r2 e3 hf => ?_)
      refine lh_cVi (N := m_Ha_placeOf) (d := 1) (o := a) (As := [.int v4, .int v2]) (st := []) rfl rfl v_Ha_placeOf (ha.1 0 _ rfl) rfl rfl rfl ⟨rfl, rfl⟩ rfl (t_Ha_placeOf hG hS ha e3 ?_)
      refine lh_iload_n (q := 1) rfl rfl rfl ?_
      refine lh_icmp_ne rfl (fun c4 => ?_) (fun c4 => ?_)
      · have hf := lh_ifF hf c4
        refine lh_iinc (q := 4) (v := (v4 + 1)) (lv' := [(0, .ref (a + 4)), (1, .int v1), (2, .int v2), (3, .int v3), (4, .int (v4 + 1))]) rfl rfl (congrArg (v4 + ·) (by decide)) rfl rfl ?_
        refine lh_goto rfl ?_
        exact ih v3 (v4 + 1) _ hf x0_
      · have hf := lh_ifT hf c4
        refine lh_iload_n (q := 3) rfl rfl rfl ?_
        refine lh_iconst rfl lh_k_1 ?_
        refine lh_iload (q := 4) rfl rfl ?_
        refine lh_ishl rfl ?_
        refine lh_ior rfl ?_
        refine lh_istore_n (lv' := [(0, .ref (a + 4)), (1, .int v1), (2, .int v2), (3, .int (v3 ||| (1 <<< (v4 &&& 31)))), (4, .int v4)]) rfl rfl rfl rfl ?_
        refine lh_iinc (q := 4) (v := (v4 + 1)) (lv' := [(0, .ref (a + 4)), (1, .int v1), (2, .int v2), (3, .int (v3 ||| (1 <<< (v4 &&& 31)))), (4, .int (v4 + 1))]) rfl rfl (congrArg (v4 + ·) (by decide)) rfl rfl ?_
        refine lh_goto rfl ?_
        exact ih (v3 ||| (1 <<< (v4 &&& 31))) (v4 + 1) _ hf x0_
theorem t_Ha_whoIsIn {Γ : lh_Cx} {I : lh_II} {L : lh_LL} {F : lh_FF} {S : lh_SS} {K : Int32 → lh_Hp → Prop} {r : Int32} (hG : lh_GX Γ) (hS : lh_lay F S) {a : Nat} (ha : lh_hl F S a) {x1 : Int32} {x2 : Int32} (hf : f_Ha_whoIsIn a x1 x2 I = some r) (hK : K r (I, L, F, S)) : lh_Met Γ m_Ha_whoIsIn 2 0 0 [.ref (a + 4), .int x1, .int x2] (I, L, F, S) (lh_ki K) := by
  rw [f_Ha_whoIsIn] at hf
  refine lh_ofG k_Ha_whoIsIn [(0, .ref (a + 4)), (1, .int x1), (2, .int x2)] rfl (Nat.le_of_ble_eq_true rfl) rfl ?_
  refine lh_iconst rfl lh_k_0 ?_
  refine lh_istore_n (lv' := [(0, .ref (a + 4)), (1, .int x1), (2, .int x2), (3, .int 0)]) rfl rfl rfl rfl ?_
  refine lh_iconst rfl lh_k_0 ?_
  refine lh_istore (lv' := [(0, .ref (a + 4)), (1, .int x1), (2, .int x2), (3, .int 0), (4, .int 0)]) rfl rfl rfl ?_
  refine lh_bdE hf (fun r5 e6 hf => ?_)
  refine t_Ha_whoIsIn_4 hG hS ha _ 0 0 _ e6 ?_
  refine lh_iload_n (q := 0) rfl rfl rfl ?_
  exact lh_iret rfl rfl rfl (by obtain rfl := Option.some.inj hf; exact hK)
def f_Ha_whoIsThere_4 (a : Nat) (v1 : Int32) (v2 : Int32) (I : lh_II) : Nat → Int32 → Int32 → Option (Int32)
  | 0, _, _ => none
  | n + 1, v3, v4 => if (I (a + 4) 11) ≤ v4 then some v3 else lh_gd (lh_ix v4 6) (if (I (a + 5 + 4) v4.toNatClampNeg) = v1 then lh_bd (f_Ha_placeOf a v4 v2 I) fun r4 => if r4 = (-1) then f_Ha_whoIsThere_4 a v1 v2 I n v3 (v4 + 1) else f_Ha_whoIsThere_4 a v1 v2 I n (v3 ||| (1 <<< (v4 &&& 31))) (v4 + 1) else f_Ha_whoIsThere_4 a v1 v2 I n v3 (v4 + 1))
def f_Ha_whoIsThere (a : Nat) (x1 : Int32) (x2 : Int32) (I : lh_II) : Option (Int32) := lh_bd (f_Ha_whoIsThere_4 a x1 x2 I lh_fuel 0 0) fun r7 => some r7
theorem t_Ha_whoIsThere_4 {Γ : lh_Cx} {F : lh_FF} {S : lh_SS} {Z : List Frame → Array Value → State → State → Prop} (hG : lh_GX Γ) (hS : lh_lay F S) {a : Nat} (ha : lh_hl F S a) {v1 : Int32} {v2 : Int32} {I : lh_II} {L : lh_LL} : ∀ (n : Nat) (v3 : Int32) (v4 : Int32) (o : Int32), f_Ha_whoIsThere_4 a v1 v2 I n v3 v4 = some o → ∀ (x0_ : lh_G Γ m_Ha_whoIsThere (lh_R 2 0 0) Z 0 0 28 [(3, .int o)] [] (I, L, F, S)), lh_G Γ m_Ha_whoIsThere (lh_R 2 0 0) Z 0 0 4 [(0, .ref (a + 4)), (1, .int v1), (2, .int v2), (3, .int v3), (4, .int v4)] [] (I, L, F, S) := by
  intro n
  induction n with
  | zero => intro v3 v4 o hf; cases hf
  | succ n ih =>
    intro v3 v4 o hf x0_
    rw [f_Ha_whoIsThere_4] at hf
    refine lh_iload (q := 4) rfl rfl ?_
    refine lh_aload_n (q := 0) rfl rfl rfl ?_
    refine lh_getI4 rfl rfl (ha.1 0 _ rfl) rfl ?_
    refine lh_icmp_ge rfl (fun c1 => ?_) (fun c1 => ?_)
    · have hf := lh_ifT hf c1
      exact lh_less [3] rfl (by cases hf; exact x0_)
    · have hf := lh_ifF hf c1
      refine lh_aload_n (q := 0) rfl rfl rfl ?_
      refine lh_getR4 rfl rfl (ha.1 0 _ rfl) rfl (ha.2 4 _ rfl) ?_
      refine lh_iload (q := 4) rfl rfl ?_
      obtain ⟨g2, hf⟩ := lh_gdE hf
      refine lh_iald4 rfl (ha.1 5 _ rfl) g2 ?_
      refine lh_iload_n (q := 1) rfl rfl rfl ?_
      refine lh_icmp_ne rfl (fun c3 => ?_) (fun c3 => ?_)
      · have hf := lh_ifF hf c3
        refine lh_iinc (q := 4) (v := (v4 + 1)) (lv' := [(0, .ref (a + 4)), (1, .int v1), (2, .int v2), (3, .int v3), (4, .int (v4 + 1))]) rfl rfl (congrArg (v4 + ·) (by decide)) rfl rfl ?_
        refine lh_goto rfl ?_
        exact ih v3 (v4 + 1) _ hf x0_
      · have hf := lh_ifT hf c3
        refine lh_aload_n (q := 0) rfl rfl rfl ?_
        refine lh_iload (q := 4) rfl rfl ?_
        refine lh_iload_n (q := 2) rfl rfl rfl ?_
        refine lh_bdE hf (fun r4 e5 hf => ?_)
        refine lh_cVi (N := m_Ha_placeOf) (d := 1) (o := a) (As := [.int v4, .int v2]) (st := []) rfl rfl v_Ha_placeOf (ha.1 0 _ rfl) rfl rfl rfl ⟨rfl, rfl⟩ rfl (t_Ha_placeOf hG hS ha e5 ?_)
        refine lh_iconst rfl lh_k_m1 ?_
        refine lh_icmp_eq rfl (fun c6 => ?_) (fun c6 => ?_)
        · have hf := lh_ifT hf c6
          refine lh_iinc (q := 4) (v := (v4 + 1)) (lv' := [(0, .ref (a + 4)), (1, .int v1), (2, .int v2), (3, .int v3), (4, .int (v4 + 1))]) rfl rfl (congrArg (v4 + ·) (by decide)) rfl rfl ?_
          refine lh_goto rfl ?_
          exact ih v3 (v4 + 1) _ hf x0_
        · have hf := lh_ifF hf c6
          refine lh_iload_n (q := 3) rfl rfl rfl ?_
          refine lh_iconst rfl lh_k_1 ?_
          refine lh_iload (q := 4) rfl rfl ?_
          refine lh_ishl rfl ?_
          refine lh_ior rfl ?_
          refine lh_istore_n (lv' := [(0, .ref (a + 4)), (1, .int v1), (2, .int v2), (3, .int (v3 ||| (1 <<< (v4 &&& 31)))), (4, .int v4)]) rfl rfl rfl rfl ?_
          refine lh_iinc (q := 4) (v := (v4 + 1)) (lv' := [(0, .ref (a + 4)), (1, .int v1), (2, .int v2), (3, .int (v3 ||| (1 <<< (v4 &&& 31)))), (4, .int (v4 + 1))]) rfl rfl (congrArg (v4 + ·) (by decide)) rfl rfl ?_
          refine lh_goto rfl ?_
          exact ih (v3 ||| (1 <<< (v4 &&& 31))) (v4 + 1) _ hf x0_
theorem t_Ha_whoIsThere {Γ : lh_Cx} {I : lh_II} {L : lh_LL} {F : lh_FF} {S : lh_SS} {K : Int32 → lh_Hp → Prop} {r : Int32} (hG : lh_GX Γ) (hS : lh_lay F S) {a : Nat} (ha : lh_hl F S a) {x1 : Int32} {x2 : Int32} (hf : f_Ha_whoIsThere a x1 x2 I = some r) (hK : K r (I, L, F, S)) : lh_Met Γ m_Ha_whoIsThere 2 0 0 [.ref (a + 4), .int x1, .int x2] (I, L, F, S) (lh_ki K) := by
  rw [f_Ha_whoIsThere] at hf
  refine lh_ofG k_Ha_whoIsThere [(0, .ref (a + 4)), (1, .int x1), (2, .int x2)] rfl (Nat.le_of_ble_eq_true rfl) rfl ?_
  refine lh_iconst rfl lh_k_0 ?_
  refine lh_istore_n (lv' := [(0, .ref (a + 4)), (1, .int x1), (2, .int x2), (3, .int 0)]) rfl rfl rfl rfl ?_
  refine lh_iconst rfl lh_k_0 ?_
  refine lh_istore (lv' := [(0, .ref (a + 4)), (1, .int x1), (2, .int x2), (3, .int 0), (4, .int 0)]) rfl rfl rfl ?_
  refine lh_bdE hf (fun r7 e8 hf => ?_)
  refine t_Ha_whoIsThere_4 hG hS ha _ 0 0 _ e8 ?_
  refine lh_iload_n (q := 0) rfl rfl rfl ?_
  exact lh_iret rfl rfl rfl (by obtain rfl := Option.some.inj hf; exact hK)
def f_Ha_wouldTake_24 (a : Nat) (v1 : Int32) (v4 : Int32) (I : lh_II) : Nat → Int32 → Option (Nat)
  | 0, _ => none
  | n + 1, v5 => if 8 ≤ v5 then some 1 else lh_bd (f_Ha_placeOf a v1 v5 I) fun r8 => if r8 = v4 then some 0 else f_Ha_wouldTake_24 a v1 v4 I n (v5 + 1)
def f_Ha_wouldTake (a : Nat) (x1 : Int32) (x2 : Int32) (x3 : Int32) (I : lh_II) : Option (Int32) := lh_gd (lh_ix x2 4) (lh_gd (lh_ix x1 6) (if (I (a + 4 + 4) x1.toNatClampNeg) = 3 then lh_gd (lh_ix x1 6) (if (I (a + 5 + 4) x1.toNatClampNeg) = x3 then if (I (a + 8 + 4) x2.toNatClampNeg) = (-1) then some 0 else lh_bd (f_Ha_wouldTake_24 a x1 (I (a + 8 + 4) x2.toNatClampNeg) I lh_fuel 0) fun r11 => if r11 = 0 then some 1 else some 0 else some 0) else some 0))
theorem t_Ha_wouldTake_24 {Γ : lh_Cx} {F : lh_FF} {S : lh_SS} {Z : List Frame → Array Value → State → State → Prop} (hG : lh_GX Γ) (hS : lh_lay F S) {a : Nat} (ha : lh_hl F S a) {v1 : Int32} {v4 : Int32} {I : lh_II} {L : lh_LL} : ∀ (n : Nat) (v5 : Int32) (o : Nat), f_Ha_wouldTake_24 a v1 v4 I n v5 = some o → ∀ (x0_ : o = 0 → lh_G Γ m_Ha_wouldTake (lh_R 2 0 0) Z 0 0 33 [] [] (I, L, F, S)), ∀ (x1_ : o = 1 → lh_G Γ m_Ha_wouldTake (lh_R 2 0 0) Z 0 0 37 [] [] (I, L, F, S)), lh_G Γ m_Ha_wouldTake (lh_R 2 0 0) Z 0 0 24 [(0, .ref (a + 4)), (1, .int v1), (4, .int v4), (5, .int v5)] [] (I, L, F, S) := by
  intro n
  induction n with
  | zero => intro v5 o hf; cases hf
  | succ n ih =>
    intro v5 o hf x0_ x1_
    rw [f_Ha_wouldTake_24] at hf
    refine lh_iload (q := 3) rfl rfl ?_
    refine lh_bipush rfl lh_b_8 ?_
    refine lh_icmp_ge rfl (fun c7 => ?_) (fun c7 => ?_)
    · have hf := lh_ifT hf c7
      exact lh_less [] rfl (by cases hf; exact x1_ rfl)
    · have hf := lh_ifF hf c7
      refine lh_aload_n (q := 0) rfl rfl rfl ?_
      refine lh_iload_n (q := 1) rfl rfl rfl ?_
      refine lh_iload (q := 3) rfl rfl ?_
      refine lh_bdE hf (fun r8 e9 hf => ?_)
      refine lh_cVi (N := m_Ha_placeOf) (d := 1) (o := a) (As := [.int v1, .int v5]) (st := []) rfl rfl v_Ha_placeOf (ha.1 0 _ rfl) rfl rfl rfl ⟨rfl, rfl⟩ rfl (t_Ha_placeOf hG hS ha e9 ?_)
      refine lh_iload (q := 2) rfl rfl ?_
      refine lh_icmp_ne rfl (fun c10 => ?_) (fun c10 => ?_)
      · have hf := lh_ifF hf c10
        refine lh_iinc (q := 3) (v := (v5 + 1)) (lv' := [(0, .ref (a + 4)), (1, .int v1), (4, .int v4), (5, .int (v5 + 1))]) rfl rfl (congrArg (v5 + ·) (by decide)) rfl rfl ?_
        refine lh_goto rfl ?_
        exact ih (v5 + 1) _ hf x0_ x1_
      · have hf := lh_ifT hf c10
        exact lh_less [] rfl (by cases hf; exact x0_ rfl)
theorem t_Ha_wouldTake {Γ : lh_Cx} {I : lh_II} {L : lh_LL} {F : lh_FF} {S : lh_SS} {K : Int32 → lh_Hp → Prop} {r : Int32} (hG : lh_GX Γ) (hS : lh_lay F S) {a : Nat} (ha : lh_hl F S a) {x1 : Int32} {x2 : Int32} {x3 : Int32} (hf : f_Ha_wouldTake a x1 x2 x3 I = some r) (hK : K r (I, L, F, S)) : lh_Met Γ m_Ha_wouldTake 2 0 0 [.ref (a + 4), .int x1, .int x2, .int x3] (I, L, F, S) (lh_ki K) := by
  rw [f_Ha_wouldTake] at hf
  refine lh_ofG k_Ha_wouldTake [(0, .ref (a + 4)), (1, .int x1), (2, .int x2), (3, .int x3)] rfl (Nat.le_of_ble_eq_true rfl) rfl ?_
  refine lh_aload_n (q := 0) rfl rfl rfl ?_
  refine lh_getR4 rfl rfl (ha.1 0 _ rfl) rfl (ha.2 7 _ rfl) ?_
  refine lh_iload_n (q := 2) rfl rfl rfl ?_
  obtain ⟨g1, hf⟩ := lh_gdE hf
  refine lh_iald4 rfl (ha.1 8 _ rfl) g1 ?_
  refine lh_istore (lv' := [(0, .ref (a + 4)), (1, .int x1), (2, .int x2), (3, .int x3), (4, .int (I (a + 8 + 4) x2.toNatClampNeg))]) rfl rfl rfl ?_
  refine lh_aload_n (q := 0) rfl rfl rfl ?_
  refine lh_getR4 rfl rfl (ha.1 0 _ rfl) rfl (ha.2 3 _ rfl) ?_
  refine lh_iload_n (q := 1) rfl rfl rfl ?_
  obtain ⟨g2, hf⟩ := lh_gdE hf
  refine lh_iald4 rfl (ha.1 4 _ rfl) g2 ?_
  refine lh_iconst rfl lh_k_3 ?_
  refine lh_icmp_ne rfl (fun c3 => ?_) (fun c3 => ?_)
  · have hf := lh_ifF hf c3
    refine lh_iconst rfl lh_k_0 ?_
    exact lh_iret rfl rfl (by decide) (by obtain rfl := Option.some.inj hf; exact hK)
  · have hf := lh_ifT hf c3
    refine lh_aload_n (q := 0) rfl rfl rfl ?_
    refine lh_getR4 rfl rfl (ha.1 0 _ rfl) rfl (ha.2 4 _ rfl) ?_
    refine lh_iload_n (q := 1) rfl rfl rfl ?_
    obtain ⟨g4, hf⟩ := lh_gdE hf
    refine lh_iald4 rfl (ha.1 5 _ rfl) g4 ?_
    refine lh_iload_n (q := 3) rfl rfl rfl ?_
    refine lh_icmp_ne rfl (fun c5 => ?_) (fun c5 => ?_)
    · have hf := lh_ifF hf c5
      refine lh_iconst rfl lh_k_0 ?_
      exact lh_iret rfl rfl (by decide) (by obtain rfl := Option.some.inj hf; exact hK)
    · have hf := lh_ifT hf c5
      refine lh_iload (q := 4) rfl rfl ?_
      refine lh_iconst rfl lh_k_m1 ?_
      refine lh_icmp_ne rfl (fun c6 => ?_) (fun c6 => ?_)
      · have hf := lh_ifF hf c6
        refine lh_iconst rfl lh_k_0 ?_
        refine lh_istore (lv' := [(0, .ref (a + 4)), (1, .int x1), (2, .int x2), (3, .int x3), (4, .int (I (a + 8 + 4) x2.toNatClampNeg)), (5, .int 0)]) rfl rfl rfl ?_
        refine lh_bdE hf (fun r11 e12 hf => ?_)
        refine lh_less [0, 1, 4, 5] rfl ?_
        refine t_Ha_wouldTake_24 hG hS ha _ 0 _ e12 (fun q0_ => ?_) (fun q1_ => ?_)
        · have hf := lh_ifT hf q0_
          refine lh_iconst rfl lh_k_1 ?_
          exact lh_iret rfl rfl (by decide) (by obtain rfl := Option.some.inj hf; exact hK)
        · have hf := lh_ifF hf (by rw [q1_]; decide)
          refine lh_iconst rfl lh_k_0 ?_
          exact lh_iret rfl rfl (by decide) (by obtain rfl := Option.some.inj hf; exact hK)
      · have hf := lh_ifT hf c6
        refine lh_iconst rfl lh_k_0 ?_
        exact lh_iret rfl rfl (by decide) (by obtain rfl := Option.some.inj hf; exact hK)
def f_Re_refuse (x1 : Int32) (I : lh_II) : Option (Int32 × lh_II) := if (I (1 + 4) 8) = 0 then some (0, lh_u2 I (1 + 4) 8 (x1 + (16 * (I (1 + 4) 5)))) else some (0, I)
theorem t_Re_refuse {Γ : lh_Cx} {I : lh_II} {L : lh_LL} {F : lh_FF} {S : lh_SS} {K : Int32 → lh_Hp → Prop} {r : Int32 × lh_II} (hG : lh_GX Γ) (hS : lh_lay F S)  {x1 : Int32} (hf : f_Re_refuse x1 I = some r) (hK : K r.1 (r.2, L, F, S)) : lh_Met Γ m_Re_refuse 0 0 0 [.ref (1 + 4), .int x1] (I, L, F, S) (lh_ki K) := by
  rw [f_Re_refuse] at hf
  refine lh_ofG k_Re_refuse [(0, .ref (1 + 4)), (1, .int x1)] rfl (Nat.le_of_ble_eq_true rfl) rfl ?_
  refine lh_aload_n (q := 0) rfl rfl rfl ?_
  refine lh_getI4 rfl rfl (hS.1 1 _ rfl) rfl ?_
  refine lh_if_ne rfl (fun c1 => ?_) (fun c1 => ?_)
  · have hf := lh_ifF hf c1
    refine lh_iconst rfl lh_k_0 ?_
    exact lh_iret rfl rfl (by decide) (by obtain rfl := Option.some.inj hf; exact hK)
  · have hf := lh_ifT hf c1
    refine lh_aload_n (q := 0) rfl rfl rfl ?_
    refine lh_iload_n (q := 1) rfl rfl rfl ?_
    refine lh_bipush rfl lh_b_16 ?_
    refine lh_aload_n (q := 0) rfl rfl rfl ?_
    refine lh_getI4 rfl rfl (hS.1 1 _ rfl) rfl ?_
    refine lh_imul rfl ?_
    refine lh_iadd rfl ?_
    refine lh_putI4 rfl rfl (hS.1 1 _ rfl) rfl rfl ?_
    refine lh_iconst rfl lh_k_0 ?_
    exact lh_iret rfl rfl (by decide) (by obtain rfl := Option.some.inj hf; exact hK)
def f_Re_wantNumber (x1 : Int32) (x2 : Int32) (I : lh_II) : Option (Int32 × lh_II) := if (I (1 + 4) 4) = 28 then if (I (1 + 4) 6) < x1 then lh_bd (f_Re_refuse (4 : Int32) I) fun r3 => if r3.1 = 0 then some (0, r3.2) else some (1, r3.2) else if (I (1 + 4) 6) ≤ x2 then some (1, I) else lh_bd (f_Re_refuse (4 : Int32) I) fun r7 => if r7.1 = 0 then some (0, r7.2) else some (1, r7.2) else lh_bd (f_Re_refuse (1 : Int32) I) fun r10 => lh_gd (lh_z r10.1) (some (r10.1, r10.2))
theorem t_Re_wantNumber {Γ : lh_Cx} {I : lh_II} {L : lh_LL} {F : lh_FF} {S : lh_SS} {K : Int32 → lh_Hp → Prop} {r : Int32 × lh_II} (hG : lh_GX Γ) (hS : lh_lay F S)  {x1 : Int32} {x2 : Int32} (hf : f_Re_wantNumber x1 x2 I = some r) (hK : K r.1 (r.2, L, F, S)) : lh_Met Γ m_Re_wantNumber 1 0 0 [.ref (1 + 4), .int x1, .int x2] (I, L, F, S) (lh_ki K) := by
  rw [f_Re_wantNumber] at hf
  refine lh_ofG k_Re_wantNumber [(0, .ref (1 + 4)), (1, .int x1), (2, .int x2)] rfl (Nat.le_of_ble_eq_true rfl) rfl ?_
  refine lh_aload_n (q := 0) rfl rfl rfl ?_
  refine lh_getI4 rfl rfl (hS.1 1 _ rfl) rfl ?_
  refine lh_bipush rfl lh_b_28 ?_
  refine lh_icmp_eq rfl (fun c1 => ?_) (fun c1 => ?_)
  · have hf := lh_ifT hf c1
    refine lh_aload_n (q := 0) rfl rfl rfl ?_
    refine lh_getI4 rfl rfl (hS.1 1 _ rfl) rfl ?_
    refine lh_iload_n (q := 1) rfl rfl rfl ?_
    refine lh_icmp_lt rfl (fun c2 => ?_) (fun c2 => ?_)
    · have hf := lh_ifT hf c2
      refine lh_aload_n (q := 0) rfl rfl rfl ?_
      refine lh_iconst rfl lh_k_4 ?_
      refine lh_bdE hf (fun r3 e4 hf => ?_)
      refine lh_cVi (N := m_Re_refuse) (d := 0) (o := 1) (As := [.int 4]) (st := []) rfl rfl v_Re_refuse (hS.1 1 _ rfl) rfl rfl rfl ⟨rfl, rfl⟩ rfl (t_Re_refuse hG hS e4 ?_)
      refine lh_if_eq rfl (fun c5 => ?_) (fun c5 => ?_)
      · have hf := lh_ifT hf c5
        refine lh_iconst rfl lh_k_0 ?_
        exact lh_iret rfl rfl (by decide) (by obtain rfl := Option.some.inj hf; exact hK)
      · have hf := lh_ifF hf c5
        refine lh_iconst rfl lh_k_1 ?_
        refine lh_goto rfl ?_
        exact lh_iret rfl rfl (by decide) (by obtain rfl := Option.some.inj hf; exact hK)
    · have hf := lh_ifF hf c2
      refine lh_aload_n (q := 0) rfl rfl rfl ?_
      refine lh_getI4 rfl rfl (hS.1 1 _ rfl) rfl ?_
      refine lh_iload_n (q := 2) rfl rfl rfl ?_
      refine lh_icmp_le rfl (fun c6 => ?_) (fun c6 => ?_)
      · have hf := lh_ifT hf c6
        refine lh_iconst rfl lh_k_1 ?_
        refine lh_goto rfl ?_
        exact lh_iret rfl rfl (by decide) (by obtain rfl := Option.some.inj hf; exact hK)
      · have hf := lh_ifF hf c6
        refine lh_aload_n (q := 0) rfl rfl rfl ?_
        refine lh_iconst rfl lh_k_4 ?_
        refine lh_bdE hf (fun r7 e8 hf => ?_)
        refine lh_cVi (N := m_Re_refuse) (d := 0) (o := 1) (As := [.int 4]) (st := []) rfl rfl v_Re_refuse (hS.1 1 _ rfl) rfl rfl rfl ⟨rfl, rfl⟩ rfl (t_Re_refuse hG hS e8 ?_)
        refine lh_if_eq rfl (fun c9 => ?_) (fun c9 => ?_)
        · have hf := lh_ifT hf c9
          refine lh_iconst rfl lh_k_0 ?_
          exact lh_iret rfl rfl (by decide) (by obtain rfl := Option.some.inj hf; exact hK)
        · have hf := lh_ifF hf c9
          refine lh_iconst rfl lh_k_1 ?_
          refine lh_goto rfl ?_
          exact lh_iret rfl rfl (by decide) (by obtain rfl := Option.some.inj hf; exact hK)
  · have hf := lh_ifF hf c1
    refine lh_aload_n (q := 0) rfl rfl rfl ?_
    refine lh_iconst rfl lh_k_1 ?_
    refine lh_bdE hf (fun r10 e11 hf => ?_)
    refine lh_cVi (N := m_Re_refuse) (d := 0) (o := 1) (As := [.int 1]) (st := []) rfl rfl v_Re_refuse (hS.1 1 _ rfl) rfl rfl rfl ⟨rfl, rfl⟩ rfl (t_Re_refuse hG hS e11 ?_)
    obtain ⟨g12, hf⟩ := lh_gdE hf
    exact lh_iret rfl rfl (lh_z_nar g12) (by obtain rfl := Option.some.inj hf; exact hK)
def f_Re_isLetter (x1 : Int32) : Option (Int32) := if x1 < 97 then some 0 else if 122 < x1 then some 0 else some 1
theorem t_Re_isLetter {Γ : lh_Cx} {I : lh_II} {L : lh_LL} {F : lh_FF} {S : lh_SS} {K : Int32 → lh_Hp → Prop} {r : Int32} (hG : lh_GX Γ) (hS : lh_lay F S)  {x1 : Int32} (hf : f_Re_isLetter x1 = some r) (hK : K r (I, L, F, S)) : lh_Met Γ m_Re_isLetter 0 0 0 [.int x1] (I, L, F, S) (lh_ki K) := by
  rw [f_Re_isLetter] at hf
  refine lh_ofG k_Re_isLetter [(0, .int x1)] rfl (Nat.le_of_ble_eq_true rfl) rfl ?_
  refine lh_iload_n (q := 0) rfl rfl rfl ?_
  refine lh_bipush rfl lh_b_97 ?_
  refine lh_icmp_lt rfl (fun c1 => ?_) (fun c1 => ?_)
  · have hf := lh_ifT hf c1
    refine lh_iconst rfl lh_k_0 ?_
    exact lh_iret rfl rfl (by decide) (by obtain rfl := Option.some.inj hf; exact hK)
  · have hf := lh_ifF hf c1
    refine lh_iload_n (q := 0) rfl rfl rfl ?_
    refine lh_bipush rfl lh_b_122 ?_
    refine lh_icmp_gt rfl (fun c2 => ?_) (fun c2 => ?_)
    · have hf := lh_ifT hf c2
      refine lh_iconst rfl lh_k_0 ?_
      exact lh_iret rfl rfl (by decide) (by obtain rfl := Option.some.inj hf; exact hK)
    · have hf := lh_ifF hf c2
      refine lh_iconst rfl lh_k_1 ?_
      refine lh_goto rfl ?_
      exact lh_iret rfl rfl (by decide) (by obtain rfl := Option.some.inj hf; exact hK)
def f_Re_withLetter (x1 : Int64) (x2 : Int32) : Option (Int64) := some ((x1 <<< ((5 : Int32).toInt64 &&& 63)) ||| ((x2 - 97) + 1).toInt64)
theorem t_Re_withLetter {Γ : lh_Cx} {I : lh_II} {L : lh_LL} {F : lh_FF} {S : lh_SS} {K : Int64 → lh_Hp → Prop} {r : Int64} (hG : lh_GX Γ) (hS : lh_lay F S)  {x1 : Int64} {x2 : Int32} (hf : f_Re_withLetter x1 x2 = some r) (hK : K r (I, L, F, S)) : lh_Met Γ m_Re_withLetter 0 0 0 [.long x1, .int x2] (I, L, F, S) (lh_kl K) := by
  rw [f_Re_withLetter] at hf
  refine lh_ofG k_Re_withLetter [(0, .long x1), (2, .int x2)] rfl (Nat.le_of_ble_eq_true rfl) rfl ?_
  refine lh_lload_n (q := 0) rfl rfl rfl ?_
  refine lh_iconst rfl lh_k_5 ?_
  refine lh_lshl rfl ?_
  refine lh_iload_n (q := 1) rfl rfl rfl ?_
  refine lh_bipush rfl lh_b_97 ?_
  refine lh_isub rfl ?_
  refine lh_iconst rfl lh_k_1 ?_
  refine lh_iadd rfl ?_
  refine lh_i2l rfl ?_
  refine lh_lor rfl ?_
  exact lh_lret rfl rfl (by obtain rfl := Option.some.inj hf; exact hK)
def f_Re_readWord_3 : Nat → lh_II → lh_LL → Option (lh_II × lh_LL)
  | 0, _, _ => none
  | n + 1, I, L => if (I (1 + 4) 2) ≤ (I (1 + 4) 3) then some (I, L) else lh_gd (lh_ix (I (1 + 4) 3) 1000) (lh_bd (f_Re_isLetter (I (2 + 4) (I (1 + 4) 3).toNatClampNeg)) fun r3 => if r3 = 0 then some (I, L) else lh_gd (lh_ix (I (1 + 4) 3) 1000) (lh_bd (f_Re_withLetter (L (1 + 4) 7) (I (2 + 4) (I (1 + 4) 3).toNatClampNeg)) fun r7 => f_Re_readWord_3 n (lh_u2 I (1 + 4) 3 ((I (1 + 4) 3) + 1)) (lh_v2 L (1 + 4) 7 r7)))
def f_Re_readWord_46 (L : lh_LL) : Nat → Int32 → lh_II → Option (lh_II)
  | 0, _, _ => none
  | n + 1, v1, I => if 27 ≤ v1 then some I else if (I (1 + 4) 4) = 27 then lh_gd (lh_ix v1 27) (if (lg_cmp (L (3 + 4) v1.toNatClampNeg) (L (1 + 4) 7)) = 0 then f_Re_readWord_46 L n (v1 + 1) (lh_u2 I (1 + 4) 4 v1) else f_Re_readWord_46 L n (v1 + 1) I) else some I
def f_Re_readWord (I : lh_II) (L : lh_LL) : Option (lh_II × lh_LL) := lh_bd (f_Re_readWord_3 lh_fuel I (lh_v2 L (1 + 4) 7 0)) fun r9 => if 8 < ((r9.1 (1 + 4) 3) - (r9.1 (1 + 4) 5)) then lh_bd (f_Re_readWord_46 r9.2 lh_fuel 0 (lh_u2 r9.1 (1 + 4) 4 38)) fun r16 => some (r16, r9.2) else lh_bd (f_Re_readWord_46 r9.2 lh_fuel 0 (lh_u2 r9.1 (1 + 4) 4 27)) fun r18 => some (r18, r9.2)
theorem t_Re_readWord_3 {Γ : lh_Cx} {F : lh_FF} {S : lh_SS} {Z : List Frame → Array Value → State → State → Prop} (hG : lh_GX Γ) (hS : lh_lay F S)   : ∀ (n : Nat) (I : lh_II) (L : lh_LL) (o : lh_II × lh_LL), f_Re_readWord_3 n I L = some o → ∀ (x0_ : lh_G Γ m_Re_readWord (lh_R 1 0 0) Z 0 0 32 [(0, .ref (1 + 4))] [] (o.1, o.2, F, S)), lh_G Γ m_Re_readWord (lh_R 1 0 0) Z 0 0 3 [(0, .ref (1 + 4))] [] (I, L, F, S) := by
  intro n
  induction n with
  | zero => intro I L o hf; cases hf
  | succ n ih =>
    intro I L o hf x0_
    rw [f_Re_readWord_3] at hf
    refine lh_aload_n (q := 0) rfl rfl rfl ?_
    refine lh_getI4 rfl rfl (hS.1 1 _ rfl) rfl ?_
    refine lh_aload_n (q := 0) rfl rfl rfl ?_
    refine lh_getI4 rfl rfl (hS.1 1 _ rfl) rfl ?_
    refine lh_icmp_ge rfl (fun c1 => ?_) (fun c1 => ?_)
    · have hf := lh_ifT hf c1
      cases hf; exact x0_
    · have hf := lh_ifF hf c1
      refine lh_aload_n (q := 0) rfl rfl rfl ?_
      refine lh_getR4 rfl rfl (hS.1 1 _ rfl) rfl (hS.2 0 _ rfl) ?_
      refine lh_aload_n (q := 0) rfl rfl rfl ?_
      refine lh_getI4 rfl rfl (hS.1 1 _ rfl) rfl ?_
      obtain ⟨g2, hf⟩ := lh_gdE hf
      refine lh_cald4 rfl (hS.1 2 _ rfl) g2 ?_
      refine lh_bdE hf (fun r3 e4 hf => ?_)
      refine lh_cSi (N := m_Re_isLetter) (d := 0) (As := [.int (I (2 + 4) (I (1 + 4) 3).toNatClampNeg)]) (st := []) rfl rfl v_Re_isLetter rfl rfl ⟨rfl, rfl⟩ rfl (t_Re_isLetter hG hS e4 ?_)
      refine lh_if_eq rfl (fun c5 => ?_) (fun c5 => ?_)
      · have hf := lh_ifT hf c5
        cases hf; exact x0_
      · have hf := lh_ifF hf c5
        refine lh_aload_n (q := 0) rfl rfl rfl ?_
        refine lh_aload_n (q := 0) rfl rfl rfl ?_
        refine lh_getJ4 rfl rfl (hS.1 1 _ rfl) rfl ?_
        refine lh_aload_n (q := 0) rfl rfl rfl ?_
        refine lh_getR4 rfl rfl (hS.1 1 _ rfl) rfl (hS.2 0 _ rfl) ?_
        refine lh_aload_n (q := 0) rfl rfl rfl ?_
        refine lh_getI4 rfl rfl (hS.1 1 _ rfl) rfl ?_
        obtain ⟨g6, hf⟩ := lh_gdE hf
        refine lh_cald4 rfl (hS.1 2 _ rfl) g6 ?_
        refine lh_bdE hf (fun r7 e8 hf => ?_)
        refine lh_cSl (N := m_Re_withLetter) (d := 0) (As := [.long (L (1 + 4) 7), .int (I (2 + 4) (I (1 + 4) 3).toNatClampNeg)]) (st := [.ref (1 + 4)]) rfl rfl v_Re_withLetter rfl rfl ⟨rfl, rfl⟩ rfl (t_Re_withLetter hG hS e8 ?_)
        refine lh_putJ4 rfl rfl (hS.1 1 _ rfl) rfl rfl ?_
        refine lh_aload_n (q := 0) rfl rfl rfl ?_
        refine lh_dup rfl rfl ?_
        refine lh_getI4 rfl rfl (hS.1 1 _ rfl) rfl ?_
        refine lh_iconst rfl lh_k_1 ?_
        refine lh_iadd rfl ?_
        refine lh_putI4 rfl rfl (hS.1 1 _ rfl) rfl rfl ?_
        refine lh_goto rfl ?_
        exact ih (lh_u2 I (1 + 4) 3 ((I (1 + 4) 3) + 1)) (lh_v2 L (1 + 4) 7 r7) _ hf x0_
theorem t_Re_readWord_46 {Γ : lh_Cx} {F : lh_FF} {S : lh_SS} {Z : List Frame → Array Value → State → State → Prop} (hG : lh_GX Γ) (hS : lh_lay F S)   {L : lh_LL} : ∀ (n : Nat) (v1 : Int32) (I : lh_II) (o : lh_II), f_Re_readWord_46 L n v1 I = some o → ∀ (x0_ : lh_G Γ m_Re_readWord (lh_R 1 0 0) Z 0 0 66 [] [] (o, L, F, S)), lh_G Γ m_Re_readWord (lh_R 1 0 0) Z 0 0 46 [(0, .ref (1 + 4)), (1, .int v1)] [] (I, L, F, S) := by
  intro n
  induction n with
  | zero => intro v1 I o hf; cases hf
  | succ n ih =>
    intro v1 I o hf x0_
    rw [f_Re_readWord_46] at hf
    refine lh_iload_n (q := 1) rfl rfl rfl ?_
    refine lh_bipush rfl lh_b_27 ?_
    refine lh_icmp_ge rfl (fun c12 => ?_) (fun c12 => ?_)
    · have hf := lh_ifT hf c12
      exact lh_less [] rfl (by cases hf; exact x0_)
    · have hf := lh_ifF hf c12
      refine lh_aload_n (q := 0) rfl rfl rfl ?_
      refine lh_getI4 rfl rfl (hS.1 1 _ rfl) rfl ?_
      refine lh_bipush rfl lh_b_27 ?_
      refine lh_icmp_ne rfl (fun c13 => ?_) (fun c13 => ?_)
      · have hf := lh_ifF hf c13
        exact lh_less [] rfl (by cases hf; exact x0_)
      · have hf := lh_ifT hf c13
        refine lh_aload_n (q := 0) rfl rfl rfl ?_
        refine lh_getR4 rfl rfl (hS.1 1 _ rfl) rfl (hS.2 1 _ rfl) ?_
        refine lh_iload_n (q := 1) rfl rfl rfl ?_
        obtain ⟨g14, hf⟩ := lh_gdE hf
        refine lh_lald4 rfl (hS.1 3 _ rfl) g14 ?_
        refine lh_aload_n (q := 0) rfl rfl rfl ?_
        refine lh_getJ4 rfl rfl (hS.1 1 _ rfl) rfl ?_
        refine lh_lcmp rfl ?_
        refine lh_if_ne rfl (fun c15 => ?_) (fun c15 => ?_)
        · have hf := lh_ifF hf c15
          refine lh_iinc (q := 1) (v := (v1 + 1)) (lv' := [(0, .ref (1 + 4)), (1, .int (v1 + 1))]) rfl rfl (congrArg (v1 + ·) (by decide)) rfl rfl ?_
          refine lh_goto rfl ?_
          exact ih (v1 + 1) I _ hf x0_
        · have hf := lh_ifT hf c15
          refine lh_aload_n (q := 0) rfl rfl rfl ?_
          refine lh_iload_n (q := 1) rfl rfl rfl ?_
          refine lh_putI4 rfl rfl (hS.1 1 _ rfl) rfl rfl ?_
          refine lh_iinc (q := 1) (v := (v1 + 1)) (lv' := [(0, .ref (1 + 4)), (1, .int (v1 + 1))]) rfl rfl (congrArg (v1 + ·) (by decide)) rfl rfl ?_
          refine lh_goto rfl ?_
          exact ih (v1 + 1) (lh_u2 I (1 + 4) 4 v1) _ hf x0_
theorem t_Re_readWord {Γ : lh_Cx} {I : lh_II} {L : lh_LL} {F : lh_FF} {S : lh_SS} {K : lh_Hp → Prop} {r : lh_II × lh_LL} (hG : lh_GX Γ) (hS : lh_lay F S)  (hf : f_Re_readWord I L = some r) (hK : K (r.1, r.2, F, S)) : lh_Met Γ m_Re_readWord 1 0 0 [.ref (1 + 4)] (I, L, F, S) (lh_kv K) := by
  rw [f_Re_readWord] at hf
  refine lh_ofG k_Re_readWord [(0, .ref (1 + 4))] rfl (Nat.le_of_ble_eq_true rfl) rfl ?_
  refine lh_aload_n (q := 0) rfl rfl rfl ?_
  refine lh_lconst (v := 0) rfl (by decide) ?_
  refine lh_putJ4 rfl rfl (hS.1 1 _ rfl) rfl rfl ?_
  refine lh_bdE hf (fun r9 e10 hf => ?_)
  refine t_Re_readWord_3 hG hS  _ I (lh_v2 L (1 + 4) 7 0) _ e10 ?_
  refine lh_aload_n (q := 0) rfl rfl rfl ?_
  refine lh_aload_n (q := 0) rfl rfl rfl ?_
  refine lh_getI4 rfl rfl (hS.1 1 _ rfl) rfl ?_
  refine lh_aload_n (q := 0) rfl rfl rfl ?_
  refine lh_getI4 rfl rfl (hS.1 1 _ rfl) rfl ?_
  refine lh_isub rfl ?_
  refine lh_bipush rfl lh_b_8 ?_
  refine lh_icmp_gt rfl (fun c11 => ?_) (fun c11 => ?_)
  · have hf := lh_ifT hf c11
    refine lh_bipush rfl lh_b_38 ?_
    refine lh_putI4 rfl rfl (hS.1 1 _ rfl) rfl rfl ?_
    refine lh_iconst rfl lh_k_0 ?_
    refine lh_istore_n (lv' := [(0, .ref (1 + 4)), (1, .int 0)]) rfl rfl rfl rfl ?_
    refine lh_bdE hf (fun r16 e17 hf => ?_)
    refine t_Re_readWord_46 hG hS  _ 0 (lh_u2 r9.1 (1 + 4) 4 38) _ e17 ?_
    exact lh_vret rfl rfl (by obtain rfl := Option.some.inj hf; exact hK)
  · have hf := lh_ifF hf c11
    refine lh_bipush rfl lh_b_27 ?_
    refine lh_goto rfl ?_
    refine lh_putI4 rfl rfl (hS.1 1 _ rfl) rfl rfl ?_
    refine lh_iconst rfl lh_k_0 ?_
    refine lh_istore_n (lv' := [(0, .ref (1 + 4)), (1, .int 0)]) rfl rfl rfl rfl ?_
    refine lh_bdE hf (fun r18 e19 hf => ?_)
    refine t_Re_readWord_46 hG hS  _ 0 (lh_u2 r9.1 (1 + 4) 4 27) _ e19 ?_
    exact lh_vret rfl rfl (by obtain rfl := Option.some.inj hf; exact hK)
def f_Re_isDigit (x1 : Int32) : Option (Int32) := if x1 < 48 then some 0 else if 57 < x1 then some 0 else some 1
theorem t_Re_isDigit {Γ : lh_Cx} {I : lh_II} {L : lh_LL} {F : lh_FF} {S : lh_SS} {K : Int32 → lh_Hp → Prop} {r : Int32} (hG : lh_GX Γ) (hS : lh_lay F S)  {x1 : Int32} (hf : f_Re_isDigit x1 = some r) (hK : K r (I, L, F, S)) : lh_Met Γ m_Re_isDigit 0 0 0 [.int x1] (I, L, F, S) (lh_ki K) := by
  rw [f_Re_isDigit] at hf
  refine lh_ofG k_Re_isDigit [(0, .int x1)] rfl (Nat.le_of_ble_eq_true rfl) rfl ?_
  refine lh_iload_n (q := 0) rfl rfl rfl ?_
  refine lh_bipush rfl lh_b_48 ?_
  refine lh_icmp_lt rfl (fun c1 => ?_) (fun c1 => ?_)
  · have hf := lh_ifT hf c1
    refine lh_iconst rfl lh_k_0 ?_
    exact lh_iret rfl rfl (by decide) (by obtain rfl := Option.some.inj hf; exact hK)
  · have hf := lh_ifF hf c1
    refine lh_iload_n (q := 0) rfl rfl rfl ?_
    refine lh_bipush rfl lh_b_57 ?_
    refine lh_icmp_gt rfl (fun c2 => ?_) (fun c2 => ?_)
    · have hf := lh_ifT hf c2
      refine lh_iconst rfl lh_k_0 ?_
      exact lh_iret rfl rfl (by decide) (by obtain rfl := Option.some.inj hf; exact hK)
    · have hf := lh_ifF hf c2
      refine lh_iconst rfl lh_k_1 ?_
      refine lh_goto rfl ?_
      exact lh_iret rfl rfl (by decide) (by obtain rfl := Option.some.inj hf; exact hK)
def f_Re_readNumber_3 : Nat → lh_II → Option (lh_II)
  | 0, _ => none
  | n + 1, I => if (I (1 + 4) 2) ≤ (I (1 + 4) 3) then some I else lh_gd (lh_ix (I (1 + 4) 3) 1000) (lh_bd (f_Re_isDigit (I (2 + 4) (I (1 + 4) 3).toNatClampNeg)) fun r3 => if r3 = 0 then some I else lh_gd (lh_ix (I (1 + 4) 3) 1000) (f_Re_readNumber_3 n (lh_u2 (lh_u2 I (1 + 4) 6 (((((I (1 + 4) 6) * 10) - ((I (1 + 4) 6) * 10) / 100000 * 100000) + (I (2 + 4) (I (1 + 4) 3).toNatClampNeg)) - 48)) (1 + 4) 3 (((lh_u2 I (1 + 4) 6 (((((I (1 + 4) 6) * 10) - ((I (1 + 4) 6) * 10) / 100000 * 100000) + (I (2 + 4) (I (1 + 4) 3).toNatClampNeg)) - 48)) (1 + 4) 3) + 1))))
def f_Re_readNumber (I : lh_II) : Option (lh_II) := lh_bd (f_Re_readNumber_3 lh_fuel (lh_u2 I (1 + 4) 6 0)) fun r7 => if 4 < ((r7 (1 + 4) 3) - (r7 (1 + 4) 5)) then some (lh_u2 r7 (1 + 4) 4 38) else some (lh_u2 r7 (1 + 4) 4 28)
theorem t_Re_readNumber_3 {Γ : lh_Cx} {F : lh_FF} {S : lh_SS} {Z : List Frame → Array Value → State → State → Prop} (hG : lh_GX Γ) (hS : lh_lay F S)   {L : lh_LL} : ∀ (n : Nat) (I : lh_II) (o : lh_II), f_Re_readNumber_3 n I = some o → ∀ (x0_ : lh_G Γ m_Re_readNumber (lh_R 1 0 0) Z 0 0 38 [(0, .ref (1 + 4))] [] (o, L, F, S)), lh_G Γ m_Re_readNumber (lh_R 1 0 0) Z 0 0 3 [(0, .ref (1 + 4))] [] (I, L, F, S) := by
  intro n
  induction n with
  | zero => intro I o hf; cases hf
  | succ n ih =>
    intro I o hf x0_
    rw [f_Re_readNumber_3] at hf
    refine lh_aload_n (q := 0) rfl rfl rfl ?_
    refine lh_getI4 rfl rfl (hS.1 1 _ rfl) rfl ?_
    refine lh_aload_n (q := 0) rfl rfl rfl ?_
    refine lh_getI4 rfl rfl (hS.1 1 _ rfl) rfl ?_
    refine lh_icmp_ge rfl (fun c1 => ?_) (fun c1 => ?_)
    · have hf := lh_ifT hf c1
      cases hf; exact x0_
    · have hf := lh_ifF hf c1
      refine lh_aload_n (q := 0) rfl rfl rfl ?_
      refine lh_getR4 rfl rfl (hS.1 1 _ rfl) rfl (hS.2 0 _ rfl) ?_
      refine lh_aload_n (q := 0) rfl rfl rfl ?_
      refine lh_getI4 rfl rfl (hS.1 1 _ rfl) rfl ?_
      obtain ⟨g2, hf⟩ := lh_gdE hf
      refine lh_cald4 rfl (hS.1 2 _ rfl) g2 ?_
      refine lh_bdE hf (fun r3 e4 hf => ?_)
      refine lh_cSi (N := m_Re_isDigit) (d := 0) (As := [.int (I (2 + 4) (I (1 + 4) 3).toNatClampNeg)]) (st := []) rfl rfl v_Re_isDigit rfl rfl ⟨rfl, rfl⟩ rfl (t_Re_isDigit hG hS e4 ?_)
      refine lh_if_eq rfl (fun c5 => ?_) (fun c5 => ?_)
      · have hf := lh_ifT hf c5
        cases hf; exact x0_
      · have hf := lh_ifF hf c5
        refine lh_aload_n (q := 0) rfl rfl rfl ?_
        refine lh_aload_n (q := 0) rfl rfl rfl ?_
        refine lh_getI4 rfl rfl (hS.1 1 _ rfl) rfl ?_
        refine lh_bipush rfl lh_b_10 ?_
        refine lh_imul rfl ?_
        refine lh_ldc rfl rfl ?_
        refine lh_irem rfl (by decide) ?_
        refine lh_aload_n (q := 0) rfl rfl rfl ?_
        refine lh_getR4 rfl rfl (hS.1 1 _ rfl) rfl (hS.2 0 _ rfl) ?_
        refine lh_aload_n (q := 0) rfl rfl rfl ?_
        refine lh_getI4 rfl rfl (hS.1 1 _ rfl) rfl ?_
        obtain ⟨g6, hf⟩ := lh_gdE hf
        refine lh_cald4 rfl (hS.1 2 _ rfl) g6 ?_
        refine lh_iadd rfl ?_
        refine lh_bipush rfl lh_b_48 ?_
        refine lh_isub rfl ?_
        refine lh_putI4 rfl rfl (hS.1 1 _ rfl) rfl rfl ?_
        refine lh_aload_n (q := 0) rfl rfl rfl ?_
        refine lh_dup rfl rfl ?_
        refine lh_getI4 rfl rfl (hS.1 1 _ rfl) rfl ?_
        refine lh_iconst rfl lh_k_1 ?_
        refine lh_iadd rfl ?_
        refine lh_putI4 rfl rfl (hS.1 1 _ rfl) rfl rfl ?_
        refine lh_goto rfl ?_
        exact ih (lh_u2 (lh_u2 I (1 + 4) 6 (((((I (1 + 4) 6) * 10) - ((I (1 + 4) 6) * 10) / 100000 * 100000) + (I (2 + 4) (I (1 + 4) 3).toNatClampNeg)) - 48)) (1 + 4) 3 (((lh_u2 I (1 + 4) 6 (((((I (1 + 4) 6) * 10) - ((I (1 + 4) 6) * 10) / 100000 * 100000) + (I (2 + 4) (I (1 + 4) 3).toNatClampNeg)) - 48)) (1 + 4) 3) + 1)) _ hf x0_
theorem t_Re_readNumber {Γ : lh_Cx} {I : lh_II} {L : lh_LL} {F : lh_FF} {S : lh_SS} {K : lh_Hp → Prop} {r : lh_II} (hG : lh_GX Γ) (hS : lh_lay F S)  (hf : f_Re_readNumber I = some r) (hK : K (r, L, F, S)) : lh_Met Γ m_Re_readNumber 1 0 0 [.ref (1 + 4)] (I, L, F, S) (lh_kv K) := by
  rw [f_Re_readNumber] at hf
  refine lh_ofG k_Re_readNumber [(0, .ref (1 + 4))] rfl (Nat.le_of_ble_eq_true rfl) rfl ?_
  refine lh_aload_n (q := 0) rfl rfl rfl ?_
  refine lh_iconst rfl lh_k_0 ?_
  refine lh_putI4 rfl rfl (hS.1 1 _ rfl) rfl rfl ?_
  refine lh_bdE hf (fun r7 e8 hf => ?_)
  refine t_Re_readNumber_3 hG hS  _ (lh_u2 I (1 + 4) 6 0) _ e8 ?_
  refine lh_aload_n (q := 0) rfl rfl rfl ?_
  refine lh_aload_n (q := 0) rfl rfl rfl ?_
  refine lh_getI4 rfl rfl (hS.1 1 _ rfl) rfl ?_
  refine lh_aload_n (q := 0) rfl rfl rfl ?_
  refine lh_getI4 rfl rfl (hS.1 1 _ rfl) rfl ?_
  refine lh_isub rfl ?_
  refine lh_iconst rfl lh_k_4 ?_
  refine lh_icmp_gt rfl (fun c9 => ?_) (fun c9 => ?_)
  · have hf := lh_ifT hf c9
    refine lh_bipush rfl lh_b_38 ?_
    refine lh_putI4 rfl rfl (hS.1 1 _ rfl) rfl rfl ?_
    exact lh_vret rfl rfl (by obtain rfl := Option.some.inj hf; exact hK)
  · have hf := lh_ifF hf c9
    refine lh_bipush rfl lh_b_28 ?_
    refine lh_goto rfl ?_
    refine lh_putI4 rfl rfl (hS.1 1 _ rfl) rfl rfl ?_
    exact lh_vret rfl rfl (by obtain rfl := Option.some.inj hf; exact hK)
def f_La_isOfLevel (x1 : Int32) (x2 : Int32) : Option (Int32) := if x2 = 0 then if x1 = 21 then some 1 else if x1 = 22 then some 1 else some 0 else if x2 = 1 then if x1 = 31 then some 1 else if x1 = 32 then some 1 else some 0 else if x2 = 2 then if x1 = 33 then some 1 else if x1 = 34 then some 1 else some 0 else if x1 = 35 then some 1 else some 0
theorem t_La_isOfLevel {Γ : lh_Cx} {I : lh_II} {L : lh_LL} {F : lh_FF} {S : lh_SS} {K : Int32 → lh_Hp → Prop} {r : Int32} (hG : lh_GX Γ) (hS : lh_lay F S)  {x1 : Int32} {x2 : Int32} (hf : f_La_isOfLevel x1 x2 = some r) (hK : K r (I, L, F, S)) : lh_Met Γ m_La_isOfLevel 0 0 0 [.int x1, .int x2] (I, L, F, S) (lh_ki K) := by
  rw [f_La_isOfLevel] at hf
  refine lh_ofG k_La_isOfLevel [(0, .int x1), (1, .int x2)] rfl (Nat.le_of_ble_eq_true rfl) rfl ?_
  refine lh_iload_n (q := 1) rfl rfl rfl ?_
  by_cases c1 : x2 = 0
  · have hf := lh_ifT hf c1
    refine lh_tsIn (q := 0) (tgt := 2) rfl (by rw [c1]; decide) (by decide) rfl rfl ?_
    refine lh_iload_n (q := 0) rfl rfl rfl ?_
    refine lh_bipush rfl lh_b_21 ?_
    refine lh_icmp_eq rfl (fun c2 => ?_) (fun c2 => ?_)
    · have hf := lh_ifT hf c2
      refine lh_iconst rfl lh_k_1 ?_
      refine lh_goto rfl ?_
      exact lh_iret rfl rfl (by decide) (by obtain rfl := Option.some.inj hf; exact hK)
    · have hf := lh_ifF hf c2
      refine lh_iload_n (q := 0) rfl rfl rfl ?_
      refine lh_bipush rfl lh_b_22 ?_
      refine lh_icmp_ne rfl (fun c3 => ?_) (fun c3 => ?_)
      · have hf := lh_ifF hf c3
        refine lh_iconst rfl lh_k_0 ?_
        exact lh_iret rfl rfl (by decide) (by obtain rfl := Option.some.inj hf; exact hK)
      · have hf := lh_ifT hf c3
        refine lh_iconst rfl lh_k_1 ?_
        refine lh_goto rfl ?_
        exact lh_iret rfl rfl (by decide) (by obtain rfl := Option.some.inj hf; exact hK)
  · have hf := lh_ifF hf c1
    by_cases c4 : x2 = 1
    · have hf := lh_ifT hf c4
      refine lh_tsIn (q := 1) (tgt := 12) rfl (by rw [c4]; decide) (by decide) rfl rfl ?_
      refine lh_iload_n (q := 0) rfl rfl rfl ?_
      refine lh_bipush rfl lh_b_31 ?_
      refine lh_icmp_eq rfl (fun c5 => ?_) (fun c5 => ?_)
      · have hf := lh_ifT hf c5
        refine lh_iconst rfl lh_k_1 ?_
        refine lh_goto rfl ?_
        exact lh_iret rfl rfl (by decide) (by obtain rfl := Option.some.inj hf; exact hK)
      · have hf := lh_ifF hf c5
        refine lh_iload_n (q := 0) rfl rfl rfl ?_
        refine lh_bipush rfl lh_b_32 ?_
        refine lh_icmp_ne rfl (fun c6 => ?_) (fun c6 => ?_)
        · have hf := lh_ifF hf c6
          refine lh_iconst rfl lh_k_0 ?_
          exact lh_iret rfl rfl (by decide) (by obtain rfl := Option.some.inj hf; exact hK)
        · have hf := lh_ifT hf c6
          refine lh_iconst rfl lh_k_1 ?_
          refine lh_goto rfl ?_
          exact lh_iret rfl rfl (by decide) (by obtain rfl := Option.some.inj hf; exact hK)
    · have hf := lh_ifF hf c4
      by_cases c7 : x2 = 2
      · have hf := lh_ifT hf c7
        refine lh_tsIn (q := 2) (tgt := 22) rfl (by rw [c7]; decide) (by decide) rfl rfl ?_
        refine lh_iload_n (q := 0) rfl rfl rfl ?_
        refine lh_bipush rfl lh_b_33 ?_
        refine lh_icmp_eq rfl (fun c8 => ?_) (fun c8 => ?_)
        · have hf := lh_ifT hf c8
          refine lh_iconst rfl lh_k_1 ?_
          refine lh_goto rfl ?_
          exact lh_iret rfl rfl (by decide) (by obtain rfl := Option.some.inj hf; exact hK)
        · have hf := lh_ifF hf c8
          refine lh_iload_n (q := 0) rfl rfl rfl ?_
          refine lh_bipush rfl lh_b_34 ?_
          refine lh_icmp_ne rfl (fun c9 => ?_) (fun c9 => ?_)
          · have hf := lh_ifF hf c9
            refine lh_iconst rfl lh_k_0 ?_
            exact lh_iret rfl rfl (by decide) (by obtain rfl := Option.some.inj hf; exact hK)
          · have hf := lh_ifT hf c9
            refine lh_iconst rfl lh_k_1 ?_
            refine lh_goto rfl ?_
            exact lh_iret rfl rfl (by decide) (by obtain rfl := Option.some.inj hf; exact hK)
      · have hf := lh_ifF hf c7
        refine lh_tsOut (tgt := 32) rfl (by have q0 := lv_neT c1 (a := 0) (by decide); have q1 := lv_neT c4 (a := 1) (by decide); have q2 := lv_neT c7 (a := 2) (by decide); omega) rfl ?_
        refine lh_iload_n (q := 0) rfl rfl rfl ?_
        refine lh_bipush rfl lh_b_35 ?_
        refine lh_icmp_ne rfl (fun c10 => ?_) (fun c10 => ?_)
        · have hf := lh_ifF hf c10
          refine lh_iconst rfl lh_k_0 ?_
          exact lh_iret rfl rfl (by decide) (by obtain rfl := Option.some.inj hf; exact hK)
        · have hf := lh_ifT hf c10
          refine lh_iconst rfl lh_k_1 ?_
          refine lh_goto rfl ?_
          exact lh_iret rfl rfl (by decide) (by obtain rfl := Option.some.inj hf; exact hK)
def f_Re_isAtEnd (I : lh_II) : Option (Int32) := if (I (1 + 4) 4) = 37 then some 1 else if (I (1 + 4) 8) = 0 then some 0 else some 1
theorem t_Re_isAtEnd {Γ : lh_Cx} {I : lh_II} {L : lh_LL} {F : lh_FF} {S : lh_SS} {K : Int32 → lh_Hp → Prop} {r : Int32} (hG : lh_GX Γ) (hS : lh_lay F S)  (hf : f_Re_isAtEnd I = some r) (hK : K r (I, L, F, S)) : lh_Met Γ m_Re_isAtEnd 0 0 0 [.ref (1 + 4)] (I, L, F, S) (lh_ki K) := by
  rw [f_Re_isAtEnd] at hf
  refine lh_ofG k_Re_isAtEnd [(0, .ref (1 + 4))] rfl (Nat.le_of_ble_eq_true rfl) rfl ?_
  refine lh_aload_n (q := 0) rfl rfl rfl ?_
  refine lh_getI4 rfl rfl (hS.1 1 _ rfl) rfl ?_
  refine lh_bipush rfl lh_b_37 ?_
  refine lh_icmp_eq rfl (fun c1 => ?_) (fun c1 => ?_)
  · have hf := lh_ifT hf c1
    refine lh_iconst rfl lh_k_1 ?_
    refine lh_goto rfl ?_
    exact lh_iret rfl rfl (by decide) (by obtain rfl := Option.some.inj hf; exact hK)
  · have hf := lh_ifF hf c1
    refine lh_aload_n (q := 0) rfl rfl rfl ?_
    refine lh_getI4 rfl rfl (hS.1 1 _ rfl) rfl ?_
    refine lh_if_eq rfl (fun c2 => ?_) (fun c2 => ?_)
    · have hf := lh_ifT hf c2
      refine lh_iconst rfl lh_k_0 ?_
      exact lh_iret rfl rfl (by decide) (by obtain rfl := Option.some.inj hf; exact hK)
    · have hf := lh_ifF hf c2
      refine lh_iconst rfl lh_k_1 ?_
      refine lh_goto rfl ?_
      exact lh_iret rfl rfl (by decide) (by obtain rfl := Option.some.inj hf; exact hK)
def f_Re_finish (I : lh_II) : Option (Int32 × lh_II) := some (((lh_u2 I (1 + 4) 2 0) (1 + 4) 8), lh_u2 I (1 + 4) 2 0)
theorem t_Re_finish {Γ : lh_Cx} {I : lh_II} {L : lh_LL} {F : lh_FF} {S : lh_SS} {K : Int32 → lh_Hp → Prop} {r : Int32 × lh_II} (hG : lh_GX Γ) (hS : lh_lay F S)  (hf : f_Re_finish I = some r) (hK : K r.1 (r.2, L, F, S)) : lh_Met Γ m_Re_finish 0 0 0 [.ref (1 + 4)] (I, L, F, S) (lh_ki K) := by
  rw [f_Re_finish] at hf
  refine lh_ofG k_Re_finish [(0, .ref (1 + 4))] rfl (Nat.le_of_ble_eq_true rfl) rfl ?_
  refine lh_aload_n (q := 0) rfl rfl rfl ?_
  refine lh_iconst rfl lh_k_0 ?_
  refine lh_putI4 rfl rfl (hS.1 1 _ rfl) rfl rfl ?_
  refine lh_aload_n (q := 0) rfl rfl rfl ?_
  refine lh_getI4 rfl rfl (hS.1 1 _ rfl) rfl ?_
  exact lh_iret rfl rfl rfl (by obtain rfl := Option.some.inj hf; exact hK)
def f_Int_bitCount (x1 : Int32) : Option (Int32) := some ((((((((x1 - ((x1.toUInt32 >>> ((1 : Int32).toUInt32 &&& Int32.toUInt32 31)).toInt32 &&& 1431655765)) &&& 858993459) + (((x1 - ((x1.toUInt32 >>> ((1 : Int32).toUInt32 &&& Int32.toUInt32 31)).toInt32 &&& 1431655765)).toUInt32 >>> ((2 : Int32).toUInt32 &&& Int32.toUInt32 31)).toInt32 &&& 858993459)) + ((((x1 - ((x1.toUInt32 >>> ((1 : Int32).toUInt32 &&& Int32.toUInt32 31)).toInt32 &&& 1431655765)) &&& 858993459) + (((x1 - ((x1.toUInt32 >>> ((1 : Int32).toUInt32 &&& Int32.toUInt32 31)).toInt32 &&& 1431655765)).toUInt32 >>> ((2 : Int32).toUInt32 &&& Int32.toUInt32 31)).toInt32 &&& 858993459)).toUInt32 >>> ((4 : Int32).toUInt32 &&& Int32.toUInt32 31)).toInt32) &&& 252645135) + ((((((x1 - ((x1.toUInt32 >>> ((1 : Int32).toUInt32 &&& Int32.toUInt32 31)).toInt32 &&& 1431655765)) &&& 858993459) + (((x1 - ((x1.toUInt32 >>> ((1 : Int32).toUInt32 &&& Int32.toUInt32 31)).toInt32 &&& 1431655765)).toUInt32 >>> ((2 : Int32).toUInt32 &&& Int32.toUInt32 31)).toInt32 &&& 858993459)) + ((((x1 - ((x1.toUInt32 >>> ((1 : Int32).toUInt32 &&& Int32.toUInt32 31)).toInt32 &&& 1431655765)) &&& 858993459) + (((x1 - ((x1.toUInt32 >>> ((1 : Int32).toUInt32 &&& Int32.toUInt32 31)).toInt32 &&& 1431655765)).toUInt32 >>> ((2 : Int32).toUInt32 &&& Int32.toUInt32 31)).toInt32 &&& 858993459)).toUInt32 >>> ((4 : Int32).toUInt32 &&& Int32.toUInt32 31)).toInt32) &&& 252645135).toUInt32 >>> ((8 : Int32).toUInt32 &&& Int32.toUInt32 31)).toInt32) + (((((((x1 - ((x1.toUInt32 >>> ((1 : Int32).toUInt32 &&& Int32.toUInt32 31)).toInt32 &&& 1431655765)) &&& 858993459) + (((x1 - ((x1.toUInt32 >>> ((1 : Int32).toUInt32 &&& Int32.toUInt32 31)).toInt32 &&& 1431655765)).toUInt32 >>> ((2 : Int32).toUInt32 &&& Int32.toUInt32 31)).toInt32 &&& 858993459)) + ((((x1 - ((x1.toUInt32 >>> ((1 : Int32).toUInt32 &&& Int32.toUInt32 31)).toInt32 &&& 1431655765)) &&& 858993459) + (((x1 - ((x1.toUInt32 >>> ((1 : Int32).toUInt32 &&& Int32.toUInt32 31)).toInt32 &&& 1431655765)).toUInt32 >>> ((2 : Int32).toUInt32 &&& Int32.toUInt32 31)).toInt32 &&& 858993459)).toUInt32 >>> ((4 : Int32).toUInt32 &&& Int32.toUInt32 31)).toInt32) &&& 252645135) + ((((((x1 - ((x1.toUInt32 >>> ((1 : Int32).toUInt32 &&& Int32.toUInt32 31)).toInt32 &&& 1431655765)) &&& 858993459) + (((x1 - ((x1.toUInt32 >>> ((1 : Int32).toUInt32 &&& Int32.toUInt32 31)).toInt32 &&& 1431655765)).toUInt32 >>> ((2 : Int32).toUInt32 &&& Int32.toUInt32 31)).toInt32 &&& 858993459)) + ((((x1 - ((x1.toUInt32 >>> ((1 : Int32).toUInt32 &&& Int32.toUInt32 31)).toInt32 &&& 1431655765)) &&& 858993459) + (((x1 - ((x1.toUInt32 >>> ((1 : Int32).toUInt32 &&& Int32.toUInt32 31)).toInt32 &&& 1431655765)).toUInt32 >>> ((2 : Int32).toUInt32 &&& Int32.toUInt32 31)).toInt32 &&& 858993459)).toUInt32 >>> ((4 : Int32).toUInt32 &&& Int32.toUInt32 31)).toInt32) &&& 252645135).toUInt32 >>> ((8 : Int32).toUInt32 &&& Int32.toUInt32 31)).toInt32).toUInt32 >>> ((16 : Int32).toUInt32 &&& Int32.toUInt32 31)).toInt32) &&& 63)
theorem t_Int_bitCount {Γ : lh_Cx} {I : lh_II} {L : lh_LL} {F : lh_FF} {S : lh_SS} {K : Int32 → lh_Hp → Prop} {r : Int32} (hG : lh_GX Γ) (hS : lh_lay F S)  {x1 : Int32} (hf : f_Int_bitCount x1 = some r) (hK : K r (I, L, F, S)) : lh_Met Γ m_Int_bitCount 0 0 0 [.int x1] (I, L, F, S) (lh_ki K) := by
  rw [f_Int_bitCount] at hf
  refine lh_ofG k_Int_bitCount [(0, .int x1)] rfl (Nat.le_of_ble_eq_true rfl) rfl ?_
  refine lh_iload_n (q := 0) rfl rfl rfl ?_
  refine lh_iload_n (q := 0) rfl rfl rfl ?_
  refine lh_iconst rfl lh_k_1 ?_
  refine lh_iushr rfl ?_
  refine lh_ldcw rfl rfl ?_
  refine lh_iand rfl ?_
  refine lh_isub rfl ?_
  refine lh_istore_n (lv' := [(0, .int (x1 - ((x1.toUInt32 >>> ((1 : Int32).toUInt32 &&& Int32.toUInt32 31)).toInt32 &&& 1431655765)))]) rfl rfl rfl rfl ?_
  refine lh_iload_n (q := 0) rfl rfl rfl ?_
  refine lh_ldcw rfl rfl ?_
  refine lh_iand rfl ?_
  refine lh_iload_n (q := 0) rfl rfl rfl ?_
  refine lh_iconst rfl lh_k_2 ?_
  refine lh_iushr rfl ?_
  refine lh_ldcw rfl rfl ?_
  refine lh_iand rfl ?_
  refine lh_iadd rfl ?_
  refine lh_istore_n (lv' := [(0, .int (((x1 - ((x1.toUInt32 >>> ((1 : Int32).toUInt32 &&& Int32.toUInt32 31)).toInt32 &&& 1431655765)) &&& 858993459) + (((x1 - ((x1.toUInt32 >>> ((1 : Int32).toUInt32 &&& Int32.toUInt32 31)).toInt32 &&& 1431655765)).toUInt32 >>> ((2 : Int32).toUInt32 &&& Int32.toUInt32 31)).toInt32 &&& 858993459)))]) rfl rfl rfl rfl ?_
  refine lh_iload_n (q := 0) rfl rfl rfl ?_
  refine lh_iload_n (q := 0) rfl rfl rfl ?_
  refine lh_iconst rfl lh_k_4 ?_
  refine lh_iushr rfl ?_
  refine lh_iadd rfl ?_
  refine lh_ldcw rfl rfl ?_
  refine lh_iand rfl ?_
  refine lh_istore_n (lv' := [(0, .int (((((x1 - ((x1.toUInt32 >>> ((1 : Int32).toUInt32 &&& Int32.toUInt32 31)).toInt32 &&& 1431655765)) &&& 858993459) + (((x1 - ((x1.toUInt32 >>> ((1 : Int32).toUInt32 &&& Int32.toUInt32 31)).toInt32 &&& 1431655765)).toUInt32 >>> ((2 : Int32).toUInt32 &&& Int32.toUInt32 31)).toInt32 &&& 858993459)) + ((((x1 - ((x1.toUInt32 >>> ((1 : Int32).toUInt32 &&& Int32.toUInt32 31)).toInt32 &&& 1431655765)) &&& 858993459) + (((x1 - ((x1.toUInt32 >>> ((1 : Int32).toUInt32 &&& Int32.toUInt32 31)).toInt32 &&& 1431655765)).toUInt32 >>> ((2 : Int32).toUInt32 &&& Int32.toUInt32 31)).toInt32 &&& 858993459)).toUInt32 >>> ((4 : Int32).toUInt32 &&& Int32.toUInt32 31)).toInt32) &&& 252645135))]) rfl rfl rfl rfl ?_
  refine lh_iload_n (q := 0) rfl rfl rfl ?_
  refine lh_iload_n (q := 0) rfl rfl rfl ?_
  refine lh_bipush rfl lh_b_8 ?_
  refine lh_iushr rfl ?_
  refine lh_iadd rfl ?_
  refine lh_istore_n (lv' := [(0, .int ((((((x1 - ((x1.toUInt32 >>> ((1 : Int32).toUInt32 &&& Int32.toUInt32 31)).toInt32 &&& 1431655765)) &&& 858993459) + (((x1 - ((x1.toUInt32 >>> ((1 : Int32).toUInt32 &&& Int32.toUInt32 31)).toInt32 &&& 1431655765)).toUInt32 >>> ((2 : Int32).toUInt32 &&& Int32.toUInt32 31)).toInt32 &&& 858993459)) + ((((x1 - ((x1.toUInt32 >>> ((1 : Int32).toUInt32 &&& Int32.toUInt32 31)).toInt32 &&& 1431655765)) &&& 858993459) + (((x1 - ((x1.toUInt32 >>> ((1 : Int32).toUInt32 &&& Int32.toUInt32 31)).toInt32 &&& 1431655765)).toUInt32 >>> ((2 : Int32).toUInt32 &&& Int32.toUInt32 31)).toInt32 &&& 858993459)).toUInt32 >>> ((4 : Int32).toUInt32 &&& Int32.toUInt32 31)).toInt32) &&& 252645135) + ((((((x1 - ((x1.toUInt32 >>> ((1 : Int32).toUInt32 &&& Int32.toUInt32 31)).toInt32 &&& 1431655765)) &&& 858993459) + (((x1 - ((x1.toUInt32 >>> ((1 : Int32).toUInt32 &&& Int32.toUInt32 31)).toInt32 &&& 1431655765)).toUInt32 >>> ((2 : Int32).toUInt32 &&& Int32.toUInt32 31)).toInt32 &&& 858993459)) + ((((x1 - ((x1.toUInt32 >>> ((1 : Int32).toUInt32 &&& Int32.toUInt32 31)).toInt32 &&& 1431655765)) &&& 858993459) + (((x1 - ((x1.toUInt32 >>> ((1 : Int32).toUInt32 &&& Int32.toUInt32 31)).toInt32 &&& 1431655765)).toUInt32 >>> ((2 : Int32).toUInt32 &&& Int32.toUInt32 31)).toInt32 &&& 858993459)).toUInt32 >>> ((4 : Int32).toUInt32 &&& Int32.toUInt32 31)).toInt32) &&& 252645135).toUInt32 >>> ((8 : Int32).toUInt32 &&& Int32.toUInt32 31)).toInt32))]) rfl rfl rfl rfl ?_
  refine lh_iload_n (q := 0) rfl rfl rfl ?_
  refine lh_iload_n (q := 0) rfl rfl rfl ?_
  refine lh_bipush rfl lh_b_16 ?_
  refine lh_iushr rfl ?_
  refine lh_iadd rfl ?_
  refine lh_istore_n (lv' := [(0, .int (((((((x1 - ((x1.toUInt32 >>> ((1 : Int32).toUInt32 &&& Int32.toUInt32 31)).toInt32 &&& 1431655765)) &&& 858993459) + (((x1 - ((x1.toUInt32 >>> ((1 : Int32).toUInt32 &&& Int32.toUInt32 31)).toInt32 &&& 1431655765)).toUInt32 >>> ((2 : Int32).toUInt32 &&& Int32.toUInt32 31)).toInt32 &&& 858993459)) + ((((x1 - ((x1.toUInt32 >>> ((1 : Int32).toUInt32 &&& Int32.toUInt32 31)).toInt32 &&& 1431655765)) &&& 858993459) + (((x1 - ((x1.toUInt32 >>> ((1 : Int32).toUInt32 &&& Int32.toUInt32 31)).toInt32 &&& 1431655765)).toUInt32 >>> ((2 : Int32).toUInt32 &&& Int32.toUInt32 31)).toInt32 &&& 858993459)).toUInt32 >>> ((4 : Int32).toUInt32 &&& Int32.toUInt32 31)).toInt32) &&& 252645135) + ((((((x1 - ((x1.toUInt32 >>> ((1 : Int32).toUInt32 &&& Int32.toUInt32 31)).toInt32 &&& 1431655765)) &&& 858993459) + (((x1 - ((x1.toUInt32 >>> ((1 : Int32).toUInt32 &&& Int32.toUInt32 31)).toInt32 &&& 1431655765)).toUInt32 >>> ((2 : Int32).toUInt32 &&& Int32.toUInt32 31)).toInt32 &&& 858993459)) + ((((x1 - ((x1.toUInt32 >>> ((1 : Int32).toUInt32 &&& Int32.toUInt32 31)).toInt32 &&& 1431655765)) &&& 858993459) + (((x1 - ((x1.toUInt32 >>> ((1 : Int32).toUInt32 &&& Int32.toUInt32 31)).toInt32 &&& 1431655765)).toUInt32 >>> ((2 : Int32).toUInt32 &&& Int32.toUInt32 31)).toInt32 &&& 858993459)).toUInt32 >>> ((4 : Int32).toUInt32 &&& Int32.toUInt32 31)).toInt32) &&& 252645135).toUInt32 >>> ((8 : Int32).toUInt32 &&& Int32.toUInt32 31)).toInt32) + (((((((x1 - ((x1.toUInt32 >>> ((1 : Int32).toUInt32 &&& Int32.toUInt32 31)).toInt32 &&& 1431655765)) &&& 858993459) + (((x1 - ((x1.toUInt32 >>> ((1 : Int32).toUInt32 &&& Int32.toUInt32 31)).toInt32 &&& 1431655765)).toUInt32 >>> ((2 : Int32).toUInt32 &&& Int32.toUInt32 31)).toInt32 &&& 858993459)) + ((((x1 - ((x1.toUInt32 >>> ((1 : Int32).toUInt32 &&& Int32.toUInt32 31)).toInt32 &&& 1431655765)) &&& 858993459) + (((x1 - ((x1.toUInt32 >>> ((1 : Int32).toUInt32 &&& Int32.toUInt32 31)).toInt32 &&& 1431655765)).toUInt32 >>> ((2 : Int32).toUInt32 &&& Int32.toUInt32 31)).toInt32 &&& 858993459)).toUInt32 >>> ((4 : Int32).toUInt32 &&& Int32.toUInt32 31)).toInt32) &&& 252645135) + ((((((x1 - ((x1.toUInt32 >>> ((1 : Int32).toUInt32 &&& Int32.toUInt32 31)).toInt32 &&& 1431655765)) &&& 858993459) + (((x1 - ((x1.toUInt32 >>> ((1 : Int32).toUInt32 &&& Int32.toUInt32 31)).toInt32 &&& 1431655765)).toUInt32 >>> ((2 : Int32).toUInt32 &&& Int32.toUInt32 31)).toInt32 &&& 858993459)) + ((((x1 - ((x1.toUInt32 >>> ((1 : Int32).toUInt32 &&& Int32.toUInt32 31)).toInt32 &&& 1431655765)) &&& 858993459) + (((x1 - ((x1.toUInt32 >>> ((1 : Int32).toUInt32 &&& Int32.toUInt32 31)).toInt32 &&& 1431655765)).toUInt32 >>> ((2 : Int32).toUInt32 &&& Int32.toUInt32 31)).toInt32 &&& 858993459)).toUInt32 >>> ((4 : Int32).toUInt32 &&& Int32.toUInt32 31)).toInt32) &&& 252645135).toUInt32 >>> ((8 : Int32).toUInt32 &&& Int32.toUInt32 31)).toInt32).toUInt32 >>> ((16 : Int32).toUInt32 &&& Int32.toUInt32 31)).toInt32))]) rfl rfl rfl rfl ?_
  refine lh_iload_n (q := 0) rfl rfl rfl ?_
  refine lh_bipush rfl lh_b_63 ?_
  refine lh_iand rfl ?_
  exact lh_iret rfl rfl rfl (by obtain rfl := Option.some.inj hf; exact hK)
def f_Int_compare (x1 : Int32) (x2 : Int32) : Option (Int32) := if x2 ≤ x1 then if x1 = x2 then some 0 else some 1 else some (-1)
theorem t_Int_compare {Γ : lh_Cx} {I : lh_II} {L : lh_LL} {F : lh_FF} {S : lh_SS} {K : Int32 → lh_Hp → Prop} {r : Int32} (hG : lh_GX Γ) (hS : lh_lay F S)  {x1 : Int32} {x2 : Int32} (hf : f_Int_compare x1 x2 = some r) (hK : K r (I, L, F, S)) : lh_Met Γ m_Int_compare 0 0 0 [.int x1, .int x2] (I, L, F, S) (lh_ki K) := by
  rw [f_Int_compare] at hf
  refine lh_ofG k_Int_compare [(0, .int x1), (1, .int x2)] rfl (Nat.le_of_ble_eq_true rfl) rfl ?_
  refine lh_iload_n (q := 0) rfl rfl rfl ?_
  refine lh_iload_n (q := 1) rfl rfl rfl ?_
  refine lh_icmp_ge rfl (fun c1 => ?_) (fun c1 => ?_)
  · have hf := lh_ifT hf c1
    refine lh_iload_n (q := 0) rfl rfl rfl ?_
    refine lh_iload_n (q := 1) rfl rfl rfl ?_
    refine lh_icmp_ne rfl (fun c2 => ?_) (fun c2 => ?_)
    · have hf := lh_ifF hf c2
      refine lh_iconst rfl lh_k_1 ?_
      exact lh_iret rfl rfl rfl (by obtain rfl := Option.some.inj hf; exact hK)
    · have hf := lh_ifT hf c2
      refine lh_iconst rfl lh_k_0 ?_
      refine lh_goto rfl ?_
      exact lh_iret rfl rfl rfl (by obtain rfl := Option.some.inj hf; exact hK)
  · have hf := lh_ifF hf c1
    refine lh_iconst rfl lh_k_m1 ?_
    refine lh_goto rfl ?_
    exact lh_iret rfl rfl rfl (by obtain rfl := Option.some.inj hf; exact hK)
def f_LH_alibi_16 (a : Nat) (b : Nat) (v1 : Int32) (v2 : Int32) (I : lh_II) : Nat → Int32 → Int32 → Option (Int32)
  | 0, _, _ => none
  | n + 1, v3, v4 => if 8 ≤ v4 then some v3 else lh_bd (f_Ha_placeOf a v1 v4 I) fun r8 => if r8 = (-1) then f_LH_alibi_16 a b v1 v2 I n v3 (v4 + 1) else if r8 = v2 then f_LH_alibi_16 a b v1 v2 I n v3 (v4 + 1) else f_LH_alibi_16 a b v1 v2 I n (v3 ||| (1 <<< (v4 &&& 31))) (v4 + 1)
def f_LH_alibi (a : Nat) (b : Nat) (x1 : Int32) (x2 : Int32) (I : lh_II) : Option (Int32) := lh_bd (f_Ha_hasVisitor a x1 I) fun r1 => if r1 = 0 then some (-1) else lh_bd (f_Ha_hasCell a x2 I) fun r4 => if r4 = 0 then some (-1) else lh_bd (f_LH_alibi_16 a b x1 x2 I lh_fuel 0 0) fun r12 => some r12
theorem t_LH_alibi_16 {Γ : lh_Cx} {F : lh_FF} {S : lh_SS} {Z : List Frame → Array Value → State → State → Prop} (hG : lh_GX Γ) (hS : lh_lay F S) {a : Nat} (ha : lh_hl F S a) (hA : F (0 + 4) 6 = a + 4) {b : Nat} (hb : lh_nl F S b) (hB : F (0 + 4) 8 = b + 4) {v1 : Int32} {v2 : Int32} {I : lh_II} {L : lh_LL} : ∀ (n : Nat) (v3 : Int32) (v4 : Int32) (o : Int32), f_LH_alibi_16 a b v1 v2 I n v3 v4 = some o → ∀ (x0_ : lh_G Γ m_LH_alibi (lh_R 2 0 0) Z 0 0 39 [(3, .int o)] [] (I, L, F, S)), lh_G Γ m_LH_alibi (lh_R 2 0 0) Z 0 0 16 [(0, .ref (0 + 4)), (1, .int v1), (2, .int v2), (3, .int v3), (4, .int v4)] [] (I, L, F, S) := by
  intro n
  induction n with
  | zero => intro v3 v4 o hf; cases hf
  | succ n ih =>
    intro v3 v4 o hf x0_
    rw [f_LH_alibi_16] at hf
    refine lh_iload (q := 4) rfl rfl ?_
    refine lh_bipush rfl lh_b_8 ?_
    refine lh_icmp_ge rfl (fun c7 => ?_) (fun c7 => ?_)
    · have hf := lh_ifT hf c7
      exact lh_less [3] rfl (by cases hf; exact x0_)
    · have hf := lh_ifF hf c7
      refine lh_aload_n (q := 0) rfl rfl rfl ?_
      refine lh_getR4 rfl rfl (hS.1 0 _ rfl) rfl hA ?_
      refine lh_iload_n (q := 1) rfl rfl rfl ?_
      refine lh_iload (q := 4) rfl rfl ?_
      refine lh_bdE hf (fun r8 e9 hf => ?_)
      refine lh_cVi (N := m_Ha_placeOf) (d := 1) (o := a) (As := [.int v1, .int v4]) (st := []) rfl rfl v_Ha_placeOf (ha.1 0 _ rfl) rfl rfl rfl ⟨rfl, rfl⟩ rfl (t_Ha_placeOf hG hS ha e9 ?_)
      refine lh_istore (lv' := [(0, .ref (0 + 4)), (1, .int v1), (2, .int v2), (3, .int v3), (4, .int v4), (5, .int r8)]) rfl rfl rfl ?_
      refine lh_iload (q := 5) rfl rfl ?_
      refine lh_iconst rfl lh_k_m1 ?_
      refine lh_icmp_eq rfl (fun c10 => ?_) (fun c10 => ?_)
      · have hf := lh_ifT hf c10
        refine lh_iinc (q := 4) (v := (v4 + 1)) (lv' := [(0, .ref (0 + 4)), (1, .int v1), (2, .int v2), (3, .int v3), (4, .int (v4 + 1)), (5, .int r8)]) rfl rfl (congrArg (v4 + ·) (by decide)) rfl rfl ?_
        refine lh_goto rfl ?_
        refine lh_less [0, 1, 2, 3, 4] rfl ?_
        exact ih v3 (v4 + 1) _ hf x0_
      · have hf := lh_ifF hf c10
        refine lh_iload (q := 5) rfl rfl ?_
        refine lh_iload_n (q := 2) rfl rfl rfl ?_
        refine lh_icmp_eq rfl (fun c11 => ?_) (fun c11 => ?_)
        · have hf := lh_ifT hf c11
          refine lh_iinc (q := 4) (v := (v4 + 1)) (lv' := [(0, .ref (0 + 4)), (1, .int v1), (2, .int v2), (3, .int v3), (4, .int (v4 + 1)), (5, .int r8)]) rfl rfl (congrArg (v4 + ·) (by decide)) rfl rfl ?_
          refine lh_goto rfl ?_
          refine lh_less [0, 1, 2, 3, 4] rfl ?_
          exact ih v3 (v4 + 1) _ hf x0_
        · have hf := lh_ifF hf c11
          refine lh_iload_n (q := 3) rfl rfl rfl ?_
          refine lh_iconst rfl lh_k_1 ?_
          refine lh_iload (q := 4) rfl rfl ?_
          refine lh_ishl rfl ?_
          refine lh_ior rfl ?_
          refine lh_istore_n (lv' := [(0, .ref (0 + 4)), (1, .int v1), (2, .int v2), (3, .int (v3 ||| (1 <<< (v4 &&& 31)))), (4, .int v4), (5, .int r8)]) rfl rfl rfl rfl ?_
          refine lh_iinc (q := 4) (v := (v4 + 1)) (lv' := [(0, .ref (0 + 4)), (1, .int v1), (2, .int v2), (3, .int (v3 ||| (1 <<< (v4 &&& 31)))), (4, .int (v4 + 1)), (5, .int r8)]) rfl rfl (congrArg (v4 + ·) (by decide)) rfl rfl ?_
          refine lh_goto rfl ?_
          refine lh_less [0, 1, 2, 3, 4] rfl ?_
          exact ih (v3 ||| (1 <<< (v4 &&& 31))) (v4 + 1) _ hf x0_
theorem t_LH_alibi {Γ : lh_Cx} {I : lh_II} {L : lh_LL} {F : lh_FF} {S : lh_SS} {K : Int32 → lh_Hp → Prop} {r : Int32} (hG : lh_GX Γ) (hS : lh_lay F S) {a : Nat} (ha : lh_hl F S a) (hA : F (0 + 4) 6 = a + 4) {b : Nat} (hb : lh_nl F S b) (hB : F (0 + 4) 8 = b + 4) {x1 : Int32} {x2 : Int32} (hf : f_LH_alibi a b x1 x2 I = some r) (hK : K r (I, L, F, S)) : lh_Met Γ m_LH_alibi 2 0 0 [.ref (0 + 4), .int x1, .int x2] (I, L, F, S) (lh_ki K) := by
  rw [f_LH_alibi] at hf
  refine lh_ofG k_LH_alibi [(0, .ref (0 + 4)), (1, .int x1), (2, .int x2)] rfl (Nat.le_of_ble_eq_true rfl) rfl ?_
  refine lh_aload_n (q := 0) rfl rfl rfl ?_
  refine lh_getR4 rfl rfl (hS.1 0 _ rfl) rfl hA ?_
  refine lh_iload_n (q := 1) rfl rfl rfl ?_
  refine lh_bdE hf (fun r1 e2 hf => ?_)
  refine lh_cVi (N := m_Ha_hasVisitor) (d := 0) (o := a) (As := [.int x1]) (st := []) rfl rfl v_Ha_hasVisitor (ha.1 0 _ rfl) rfl rfl rfl ⟨rfl, rfl⟩ rfl (t_Ha_hasVisitor hG hS ha e2 ?_)
  refine lh_if_eq rfl (fun c3 => ?_) (fun c3 => ?_)
  · have hf := lh_ifT hf c3
    refine lh_iconst rfl lh_k_m1 ?_
    exact lh_iret rfl rfl rfl (by obtain rfl := Option.some.inj hf; exact hK)
  · have hf := lh_ifF hf c3
    refine lh_aload_n (q := 0) rfl rfl rfl ?_
    refine lh_getR4 rfl rfl (hS.1 0 _ rfl) rfl hA ?_
    refine lh_iload_n (q := 2) rfl rfl rfl ?_
    refine lh_bdE hf (fun r4 e5 hf => ?_)
    refine lh_cVi (N := m_Ha_hasCell) (d := 0) (o := a) (As := [.int x2]) (st := []) rfl rfl v_Ha_hasCell (ha.1 0 _ rfl) rfl rfl rfl ⟨rfl, rfl⟩ rfl (t_Ha_hasCell hG hS ha e5 ?_)
    refine lh_if_ne rfl (fun c6 => ?_) (fun c6 => ?_)
    · have hf := lh_ifF hf c6
      refine lh_iconst rfl lh_k_0 ?_
      refine lh_istore_n (lv' := [(0, .ref (0 + 4)), (1, .int x1), (2, .int x2), (3, .int 0)]) rfl rfl rfl rfl ?_
      refine lh_iconst rfl lh_k_0 ?_
      refine lh_istore (lv' := [(0, .ref (0 + 4)), (1, .int x1), (2, .int x2), (3, .int 0), (4, .int 0)]) rfl rfl rfl ?_
      refine lh_bdE hf (fun r12 e13 hf => ?_)
      refine t_LH_alibi_16 hG hS ha hA hb hB _ 0 0 _ e13 ?_
      refine lh_iload_n (q := 0) rfl rfl rfl ?_
      exact lh_iret rfl rfl rfl (by obtain rfl := Option.some.inj hf; exact hK)
    · have hf := lh_ifT hf c6
      refine lh_iconst rfl lh_k_m1 ?_
      exact lh_iret rfl rfl rfl (by obtain rfl := Option.some.inj hf; exact hK)
def f_LH_ask_13 (a : Nat) (b : Nat) (v3 : Int32) (I : lh_II) : Nat → Int32 → Int32 → Int32 → Option (Int32 × Int32)
  | 0, _, _, _ => none
  | n + 1, v1, v2, v4 => if (I (a + 4) 9) ≤ v4 then some (v1, v2) else lh_bd (f_Ha_daysWithSomebody a v3 v4 I) fun r5 => lh_bd (f_Int_bitCount ((I (0 + 4) 13) &&& r5)) fun r7 => lh_bd (f_Int_bitCount ((I (0 + 4) 13) &&& (r5 ^^^ (-1)))) fun r9 => if v2 ≤ (if r7 < r9 then r9 else r7) then f_LH_ask_13 a b v3 I n v1 v2 (v4 + 1) else f_LH_ask_13 a b v3 I n ((12 * v3) + v4) (if r7 < r9 then r9 else r7) (v4 + 1)
def f_LH_ask_8 (a : Nat) (b : Nat) (I : lh_II) : Nat → Int32 → Int32 → Int32 → Option (Int32)
  | 0, _, _, _ => none
  | n + 1, v1, v2, v3 => if 8 ≤ v3 then some v1 else lh_bd (f_LH_ask_13 a b v3 I lh_fuel v1 v2 0) fun r12 => f_LH_ask_8 a b I n r12.1 r12.2 (v3 + 1)
def f_LH_ask (a : Nat) (b : Nat) (I : lh_II) : Option (Int32) := lh_bd (f_Int_bitCount (I (0 + 4) 13)) fun r1 => lh_bd (f_LH_ask_8 a b I lh_fuel (-1) r1 0) fun r14 => some r14
theorem t_LH_ask_13 {Γ : lh_Cx} {F : lh_FF} {S : lh_SS} {Z : List Frame → Array Value → State → State → Prop} (hG : lh_GX Γ) (hS : lh_lay F S) {a : Nat} (ha : lh_hl F S a) (hA : F (0 + 4) 6 = a + 4) {b : Nat} (hb : lh_nl F S b) (hB : F (0 + 4) 8 = b + 4) {v3 : Int32} {I : lh_II} {L : lh_LL} : ∀ (n : Nat) (v1 : Int32) (v2 : Int32) (v4 : Int32) (o : Int32 × Int32), f_LH_ask_13 a b v3 I n v1 v2 v4 = some o → ∀ (x0_ : lh_G Γ m_LH_ask (lh_R 3 0 0) Z 0 0 51 [(0, .ref (0 + 4)), (1, .int o.1), (2, .int o.2), (3, .int v3)] [] (I, L, F, S)), lh_G Γ m_LH_ask (lh_R 3 0 0) Z 0 0 13 [(0, .ref (0 + 4)), (1, .int v1), (2, .int v2), (3, .int v3), (4, .int v4)] [] (I, L, F, S) := by
  intro n
  induction n with
  | zero => intro v1 v2 v4 o hf; cases hf
  | succ n ih =>
    intro v1 v2 v4 o hf x0_
    rw [f_LH_ask_13] at hf
    refine lh_iload (q := 4) rfl rfl ?_
    refine lh_aload_n (q := 0) rfl rfl rfl ?_
    refine lh_getR4 rfl rfl (hS.1 0 _ rfl) rfl hA ?_
    refine lh_getI4 rfl rfl (ha.1 0 _ rfl) rfl ?_
    refine lh_icmp_ge rfl (fun c4 => ?_) (fun c4 => ?_)
    · have hf := lh_ifT hf c4
      exact lh_less [0, 1, 2, 3] rfl (by cases hf; exact x0_)
    · have hf := lh_ifF hf c4
      refine lh_aload_n (q := 0) rfl rfl rfl ?_
      refine lh_getR4 rfl rfl (hS.1 0 _ rfl) rfl hA ?_
      refine lh_iload_n (q := 3) rfl rfl rfl ?_
      refine lh_iload (q := 4) rfl rfl ?_
      refine lh_bdE hf (fun r5 e6 hf => ?_)
      refine lh_cVi (N := m_Ha_daysWithSomebody) (d := 2) (o := a) (As := [.int v3, .int v4]) (st := []) rfl rfl v_Ha_daysWithSomebody (ha.1 0 _ rfl) rfl rfl rfl ⟨rfl, rfl⟩ rfl (t_Ha_daysWithSomebody hG hS ha e6 ?_)
      refine lh_istore (lv' := [(0, .ref (0 + 4)), (1, .int v1), (2, .int v2), (3, .int v3), (4, .int v4), (5, .int r5)]) rfl rfl rfl ?_
      refine lh_aload_n (q := 0) rfl rfl rfl ?_
      refine lh_getI4 rfl rfl (hS.1 0 _ rfl) rfl ?_
      refine lh_iload (q := 5) rfl rfl ?_
      refine lh_iand rfl ?_
      refine lh_bdE hf (fun r7 e8 hf => ?_)
      refine lh_cSi (N := m_Int_bitCount) (d := 0) (As := [.int ((I (0 + 4) 13) &&& r5)]) (st := []) rfl rfl v_Int_bitCount rfl rfl ⟨rfl, rfl⟩ rfl (t_Int_bitCount hG hS e8 ?_)
      refine lh_aload_n (q := 0) rfl rfl rfl ?_
      refine lh_getI4 rfl rfl (hS.1 0 _ rfl) rfl ?_
      refine lh_iload (q := 5) rfl rfl ?_
      refine lh_iconst rfl lh_k_m1 ?_
      refine lh_ixor rfl ?_
      refine lh_iand rfl ?_
      refine lh_bdE hf (fun r9 e10 hf => ?_)
      refine lh_cSi (N := m_Int_bitCount) (d := 0) (As := [.int ((I (0 + 4) 13) &&& (r5 ^^^ (-1)))]) (st := [.int r7]) rfl rfl v_Int_bitCount rfl rfl ⟨rfl, rfl⟩ rfl (t_Int_bitCount hG hS e10 ?_)
      refine lh_max rfl rfl ⟨rfl, rfl⟩ rfl ?_
      refine lh_istore (lv' := [(0, .ref (0 + 4)), (1, .int v1), (2, .int v2), (3, .int v3), (4, .int v4), (5, .int r5), (6, .int (if r7 < r9 then r9 else r7))]) rfl rfl rfl ?_
      refine lh_iload (q := 6) rfl rfl ?_
      refine lh_iload_n (q := 2) rfl rfl rfl ?_
      refine lh_icmp_ge rfl (fun c11 => ?_) (fun c11 => ?_)
      · have hf := lh_ifT hf c11
        refine lh_iinc (q := 4) (v := (v4 + 1)) (lv' := [(0, .ref (0 + 4)), (1, .int v1), (2, .int v2), (3, .int v3), (4, .int (v4 + 1)), (5, .int r5), (6, .int (if r7 < r9 then r9 else r7))]) rfl rfl (congrArg (v4 + ·) (by decide)) rfl rfl ?_
        refine lh_goto rfl ?_
        refine lh_less [0, 1, 2, 3, 4] rfl ?_
        exact ih v1 v2 (v4 + 1) _ hf x0_
      · have hf := lh_ifF hf c11
        refine lh_iload (q := 6) rfl rfl ?_
        refine lh_istore_n (lv' := [(0, .ref (0 + 4)), (1, .int v1), (2, .int (if r7 < r9 then r9 else r7)), (3, .int v3), (4, .int v4), (5, .int r5), (6, .int (if r7 < r9 then r9 else r7))]) rfl rfl rfl rfl ?_
        refine lh_bipush rfl lh_b_12 ?_
        refine lh_iload_n (q := 3) rfl rfl rfl ?_
        refine lh_imul rfl ?_
        refine lh_iload (q := 4) rfl rfl ?_
        refine lh_iadd rfl ?_
        refine lh_istore_n (lv' := [(0, .ref (0 + 4)), (1, .int ((12 * v3) + v4)), (2, .int (if r7 < r9 then r9 else r7)), (3, .int v3), (4, .int v4), (5, .int r5), (6, .int (if r7 < r9 then r9 else r7))]) rfl rfl rfl rfl ?_
        refine lh_iinc (q := 4) (v := (v4 + 1)) (lv' := [(0, .ref (0 + 4)), (1, .int ((12 * v3) + v4)), (2, .int (if r7 < r9 then r9 else r7)), (3, .int v3), (4, .int (v4 + 1)), (5, .int r5), (6, .int (if r7 < r9 then r9 else r7))]) rfl rfl (congrArg (v4 + ·) (by decide)) rfl rfl ?_
        refine lh_goto rfl ?_
        refine lh_less [0, 1, 2, 3, 4] rfl ?_
        exact ih ((12 * v3) + v4) (if r7 < r9 then r9 else r7) (v4 + 1) _ hf x0_
theorem t_LH_ask_8 {Γ : lh_Cx} {F : lh_FF} {S : lh_SS} {Z : List Frame → Array Value → State → State → Prop} (hG : lh_GX Γ) (hS : lh_lay F S) {a : Nat} (ha : lh_hl F S a) (hA : F (0 + 4) 6 = a + 4) {b : Nat} (hb : lh_nl F S b) (hB : F (0 + 4) 8 = b + 4)  {I : lh_II} {L : lh_LL} : ∀ (n : Nat) (v1 : Int32) (v2 : Int32) (v3 : Int32) (o : Int32), f_LH_ask_8 a b I n v1 v2 v3 = some o → ∀ (x0_ : lh_G Γ m_LH_ask (lh_R 3 0 0) Z 0 0 53 [(1, .int o)] [] (I, L, F, S)), lh_G Γ m_LH_ask (lh_R 3 0 0) Z 0 0 8 [(0, .ref (0 + 4)), (1, .int v1), (2, .int v2), (3, .int v3)] [] (I, L, F, S) := by
  intro n
  induction n with
  | zero => intro v1 v2 v3 o hf; cases hf
  | succ n ih =>
    intro v1 v2 v3 o hf x0_
    rw [f_LH_ask_8] at hf
    refine lh_iload_n (q := 3) rfl rfl rfl ?_
    refine lh_bipush rfl lh_b_8 ?_
    refine lh_icmp_ge rfl (fun c3 => ?_) (fun c3 => ?_)
    · have hf := lh_ifT hf c3
      exact lh_less [1] rfl (by cases hf; exact x0_)
    · have hf := lh_ifF hf c3
      refine lh_iconst rfl lh_k_0 ?_
      refine lh_istore (lv' := [(0, .ref (0 + 4)), (1, .int v1), (2, .int v2), (3, .int v3), (4, .int 0)]) rfl rfl rfl ?_
      refine lh_bdE hf (fun r12 e13 hf => ?_)
      refine t_LH_ask_13 hG hS ha hA hb hB _ v1 v2 0 _ e13 ?_
      refine lh_iinc (q := 3) (v := (v3 + 1)) (lv' := [(0, .ref (0 + 4)), (1, .int r12.1), (2, .int r12.2), (3, .int (v3 + 1))]) rfl rfl (congrArg (v3 + ·) (by decide)) rfl rfl ?_
      refine lh_goto rfl ?_
      exact ih r12.1 r12.2 (v3 + 1) _ hf x0_
theorem t_LH_ask {Γ : lh_Cx} {I : lh_II} {L : lh_LL} {F : lh_FF} {S : lh_SS} {K : Int32 → lh_Hp → Prop} {r : Int32} (hG : lh_GX Γ) (hS : lh_lay F S) {a : Nat} (ha : lh_hl F S a) (hA : F (0 + 4) 6 = a + 4) {b : Nat} (hb : lh_nl F S b) (hB : F (0 + 4) 8 = b + 4) (hf : f_LH_ask a b I = some r) (hK : K r (I, L, F, S)) : lh_Met Γ m_LH_ask 3 0 0 [.ref (0 + 4)] (I, L, F, S) (lh_ki K) := by
  rw [f_LH_ask] at hf
  refine lh_ofG k_LH_ask [(0, .ref (0 + 4))] rfl (Nat.le_of_ble_eq_true rfl) rfl ?_
  refine lh_iconst rfl lh_k_m1 ?_
  refine lh_istore_n (lv' := [(0, .ref (0 + 4)), (1, .int (-1))]) rfl rfl rfl rfl ?_
  refine lh_aload_n (q := 0) rfl rfl rfl ?_
  refine lh_getI4 rfl rfl (hS.1 0 _ rfl) rfl ?_
  refine lh_bdE hf (fun r1 e2 hf => ?_)
  refine lh_cSi (N := m_Int_bitCount) (d := 0) (As := [.int (I (0 + 4) 13)]) (st := []) rfl rfl v_Int_bitCount rfl rfl ⟨rfl, rfl⟩ rfl (t_Int_bitCount hG hS e2 ?_)
  refine lh_istore_n (lv' := [(0, .ref (0 + 4)), (1, .int (-1)), (2, .int r1)]) rfl rfl rfl rfl ?_
  refine lh_iconst rfl lh_k_0 ?_
  refine lh_istore_n (lv' := [(0, .ref (0 + 4)), (1, .int (-1)), (2, .int r1), (3, .int 0)]) rfl rfl rfl rfl ?_
  refine lh_bdE hf (fun r14 e15 hf => ?_)
  refine t_LH_ask_8 hG hS ha hA hb hB _ (-1) r1 0 _ e15 ?_
  refine lh_iload_n (q := 0) rfl rfl rfl ?_
  exact lh_iret rfl rfl rfl (by obtain rfl := Option.some.inj hf; exact hK)
def f_LH_at (a : Nat) (b : Nat) (x1 : Int32) (x2 : Int32) (I : lh_II) : Option (Int32) := lh_bd (f_Ha_placeOf a x1 x2 I) fun r1 => some r1
theorem t_LH_at {Γ : lh_Cx} {I : lh_II} {L : lh_LL} {F : lh_FF} {S : lh_SS} {K : Int32 → lh_Hp → Prop} {r : Int32} (hG : lh_GX Γ) (hS : lh_lay F S) {a : Nat} (ha : lh_hl F S a) (hA : F (0 + 4) 6 = a + 4) {b : Nat} (hb : lh_nl F S b) (hB : F (0 + 4) 8 = b + 4) {x1 : Int32} {x2 : Int32} (hf : f_LH_at a b x1 x2 I = some r) (hK : K r (I, L, F, S)) : lh_Met Γ m_LH_at 2 0 0 [.ref (0 + 4), .int x1, .int x2] (I, L, F, S) (lh_ki K) := by
  rw [f_LH_at] at hf
  refine lh_ofG k_LH_at [(0, .ref (0 + 4)), (1, .int x1), (2, .int x2)] rfl (Nat.le_of_ble_eq_true rfl) rfl ?_
  refine lh_aload_n (q := 0) rfl rfl rfl ?_
  refine lh_getR4 rfl rfl (hS.1 0 _ rfl) rfl hA ?_
  refine lh_iload_n (q := 1) rfl rfl rfl ?_
  refine lh_iload_n (q := 2) rfl rfl rfl ?_
  refine lh_bdE hf (fun r1 e2 hf => ?_)
  refine lh_cVi (N := m_Ha_placeOf) (d := 1) (o := a) (As := [.int x1, .int x2]) (st := []) rfl rfl v_Ha_placeOf (ha.1 0 _ rfl) rfl rfl rfl ⟨rfl, rfl⟩ rfl (t_Ha_placeOf hG hS ha e2 ?_)
  exact lh_iret rfl rfl rfl (by obtain rfl := Option.some.inj hf; exact hK)
def f_Mo_begin (m : Nat) (a : Nat) (I : lh_II) : Option (lh_II) := some (lh_u2 (lh_u2 (lh_u2 (lh_u2 (lh_u2 (lh_u2 (lh_u2 I (m + 4) 0 (I (a + 4) 15)) (m + 4) 1 0) (m + 4) 2 0) (m + 4) 3 ((lh_u2 (lh_u2 (lh_u2 I (m + 4) 0 (I (a + 4) 15)) (m + 4) 1 0) (m + 4) 2 0) (a + 4) 14)) (m + 4) 4 0) (m + 4) 5 0) (m + 4) 6 0)
theorem t_Mo_begin {Γ : lh_Cx} {I : lh_II} {L : lh_LL} {F : lh_FF} {S : lh_SS} {K : lh_Hp → Prop} {r : lh_II} (hG : lh_GX Γ) (hS : lh_lay F S) {m : Nat} (hm : S[m]? = some (10, 0)) {a : Nat} (ha : lh_hl F S a) (hf : f_Mo_begin m a I = some r) (hK : K (r, L, F, S)) : lh_Met Γ m_Mo_begin 0 0 0 [.ref (m + 4), .ref (a + 4)] (I, L, F, S) (lh_kv K) := by
  rw [f_Mo_begin] at hf
  refine lh_ofG k_Mo_begin [(0, .ref (m + 4)), (1, .ref (a + 4))] rfl (Nat.le_of_ble_eq_true rfl) rfl ?_
  refine lh_aload_n (q := 0) rfl rfl rfl ?_
  refine lh_aload_n (q := 1) rfl rfl rfl ?_
  refine lh_getI4 rfl rfl (ha.1 0 _ rfl) rfl ?_
  refine lh_putI4 rfl rfl hm rfl rfl ?_
  refine lh_aload_n (q := 0) rfl rfl rfl ?_
  refine lh_iconst rfl lh_k_0 ?_
  refine lh_putI4 rfl rfl hm rfl rfl ?_
  refine lh_aload_n (q := 0) rfl rfl rfl ?_
  refine lh_iconst rfl lh_k_0 ?_
  refine lh_putI4 rfl rfl hm rfl rfl ?_
  refine lh_aload_n (q := 0) rfl rfl rfl ?_
  refine lh_aload_n (q := 1) rfl rfl rfl ?_
  refine lh_getI4 rfl rfl (ha.1 0 _ rfl) rfl ?_
  refine lh_putI4 rfl rfl hm rfl rfl ?_
  refine lh_aload_n (q := 0) rfl rfl rfl ?_
  refine lh_iconst rfl lh_k_0 ?_
  refine lh_putI4 rfl rfl hm rfl rfl ?_
  refine lh_aload_n (q := 0) rfl rfl rfl ?_
  refine lh_iconst rfl lh_k_0 ?_
  refine lh_putI4 rfl rfl hm rfl rfl ?_
  refine lh_aload_n (q := 0) rfl rfl rfl ?_
  refine lh_iconst rfl lh_k_0 ?_
  refine lh_putI4 rfl rfl hm rfl rfl ?_
  exact lh_vret rfl rfl (by obtain rfl := Option.some.inj hf; exact hK)
def f_LH_beginAnew_20 (a : Nat) (b : Nat) : Nat → Int32 → lh_II → Option (lh_II)
  | 0, _, _ => none
  | n + 1, v1, I => if 4 ≤ v1 then some I else lh_gd (lh_ix v1 4) (f_LH_beginAnew_20 a b n (v1 + 1) (lh_u2 I (57 + 2 * v1.toNatClampNeg + 4) 1 0))
def f_LH_beginAnew (a : Nat) (b : Nat) (I : lh_II) : Option (lh_II) := lh_bd (f_Mo_begin 7 a I) fun r1 => lh_bd (f_LH_beginAnew_20 a b lh_fuel 0 (lh_u2 (lh_u2 (lh_u2 (lh_u2 r1 (b + 4) 2 0) (0 + 4) 12 0) (0 + 4) 13 15) (0 + 4) 11 0)) fun r5 => some r5
theorem t_LH_beginAnew_20 {Γ : lh_Cx} {F : lh_FF} {S : lh_SS} {Z : List Frame → Array Value → State → State → Prop} (hG : lh_GX Γ) (hS : lh_lay F S) {a : Nat} (ha : lh_hl F S a) (hA : F (0 + 4) 6 = a + 4) {b : Nat} (hb : lh_nl F S b) (hB : F (0 + 4) 8 = b + 4)  {L : lh_LL} : ∀ (n : Nat) (v1 : Int32) (I : lh_II) (o : lh_II), f_LH_beginAnew_20 a b n v1 I = some o → ∀ (x0_ : lh_G Γ m_LH_beginAnew (lh_R 1 0 0) Z 0 0 31 [] [] (o, L, F, S)), lh_G Γ m_LH_beginAnew (lh_R 1 0 0) Z 0 0 20 [(0, .ref (0 + 4)), (1, .int v1)] [] (I, L, F, S) := by
  intro n
  induction n with
  | zero => intro v1 I o hf; cases hf
  | succ n ih =>
    intro v1 I o hf x0_
    rw [f_LH_beginAnew_20] at hf
    refine lh_iload_n (q := 1) rfl rfl rfl ?_
    refine lh_iconst rfl lh_k_4 ?_
    refine lh_icmp_ge rfl (fun c3 => ?_) (fun c3 => ?_)
    · have hf := lh_ifT hf c3
      exact lh_less [] rfl (by cases hf; exact x0_)
    · have hf := lh_ifF hf c3
      refine lh_aload_n (q := 0) rfl rfl rfl ?_
      refine lh_getR4 rfl rfl (hS.1 0 _ rfl) rfl (hS.2 28 _ rfl) ?_
      refine lh_iload_n (q := 1) rfl rfl rfl ?_
      obtain ⟨g4, hf⟩ := lh_gdE hf
      refine lh_aaload5 rfl (hS.1 10 _ rfl) (lh_ix_in g4) (lh_markF hS g4) ?_
      refine lh_iconst rfl lh_k_0 ?_
      refine lh_putZ4 rfl rfl (lh_markS hS g4) rfl rfl (by decide) ?_
      refine lh_iinc (q := 1) (v := (v1 + 1)) (lv' := [(0, .ref (0 + 4)), (1, .int (v1 + 1))]) rfl rfl (congrArg (v1 + ·) (by decide)) rfl rfl ?_
      refine lh_goto rfl ?_
      exact ih (v1 + 1) (lh_u2 I (57 + 2 * v1.toNatClampNeg + 4) 1 0) _ hf x0_
theorem t_LH_beginAnew {Γ : lh_Cx} {I : lh_II} {L : lh_LL} {F : lh_FF} {S : lh_SS} {K : lh_Hp → Prop} {r : lh_II} (hG : lh_GX Γ) (hS : lh_lay F S) {a : Nat} (ha : lh_hl F S a) (hA : F (0 + 4) 6 = a + 4) {b : Nat} (hb : lh_nl F S b) (hB : F (0 + 4) 8 = b + 4) (hf : f_LH_beginAnew a b I = some r) (hK : K (r, L, F, S)) : lh_Met Γ m_LH_beginAnew 1 0 0 [.ref (0 + 4)] (I, L, F, S) (lh_kv K) := by
  rw [f_LH_beginAnew] at hf
  refine lh_ofG k_LH_beginAnew [(0, .ref (0 + 4))] rfl (Nat.le_of_ble_eq_true rfl) rfl ?_
  refine lh_aload_n (q := 0) rfl rfl rfl ?_
  refine lh_getR4 rfl rfl (hS.1 0 _ rfl) rfl (hS.2 25 _ rfl) ?_
  refine lh_aload_n (q := 0) rfl rfl rfl ?_
  refine lh_getR4 rfl rfl (hS.1 0 _ rfl) rfl hA ?_
  refine lh_bdE hf (fun r1 e2 hf => ?_)
  refine lh_cVv (N := m_Mo_begin) (d := 0) (o := 7) (As := [.ref (a + 4)]) (st := []) rfl rfl v_Mo_begin (hS.1 7 _ rfl) rfl rfl rfl ⟨rfl, rfl⟩ rfl (t_Mo_begin hG hS (hS.1 7 _ rfl) ha e2 ?_)
  refine lh_aload_n (q := 0) rfl rfl rfl ?_
  refine lh_getR4 rfl rfl (hS.1 0 _ rfl) rfl hB ?_
  refine lh_iconst rfl lh_k_0 ?_
  refine lh_putI4 rfl rfl (hb.1 0 _ rfl) rfl rfl ?_
  refine lh_aload_n (q := 0) rfl rfl rfl ?_
  refine lh_iconst rfl lh_k_0 ?_
  refine lh_putI4 rfl rfl (hS.1 0 _ rfl) rfl rfl ?_
  refine lh_aload_n (q := 0) rfl rfl rfl ?_
  refine lh_bipush rfl lh_b_15 ?_
  refine lh_putI4 rfl rfl (hS.1 0 _ rfl) rfl rfl ?_
  refine lh_aload_n (q := 0) rfl rfl rfl ?_
  refine lh_iconst rfl lh_k_0 ?_
  refine lh_putI4 rfl rfl (hS.1 0 _ rfl) rfl rfl ?_
  refine lh_iconst rfl lh_k_0 ?_
  refine lh_istore_n (lv' := [(0, .ref (0 + 4)), (1, .int 0)]) rfl rfl rfl rfl ?_
  refine lh_bdE hf (fun r5 e6 hf => ?_)
  refine t_LH_beginAnew_20 hG hS ha hA hb hB _ 0 (lh_u2 (lh_u2 (lh_u2 (lh_u2 r1 (b + 4) 2 0) (0 + 4) 12 0) (0 + 4) 13 15) (0 + 4) 11 0) _ e6 ?_
  exact lh_vret rfl rfl (by obtain rfl := Option.some.inj hf; exact hK)
def f_Mo_become (m : Nat) (m2 : Nat) (I : lh_II) : Option (lh_II) := some (lh_u2 (lh_u2 (lh_u2 (lh_u2 (lh_u2 (lh_u2 (lh_u2 I (m + 4) 0 (I (m2 + 4) 0)) (m + 4) 1 ((lh_u2 I (m + 4) 0 (I (m2 + 4) 0)) (m2 + 4) 1)) (m + 4) 2 ((lh_u2 (lh_u2 I (m + 4) 0 (I (m2 + 4) 0)) (m + 4) 1 ((lh_u2 I (m + 4) 0 (I (m2 + 4) 0)) (m2 + 4) 1)) (m2 + 4) 2)) (m + 4) 3 ((lh_u2 (lh_u2 (lh_u2 I (m + 4) 0 (I (m2 + 4) 0)) (m + 4) 1 ((lh_u2 I (m + 4) 0 (I (m2 + 4) 0)) (m2 + 4) 1)) (m + 4) 2 ((lh_u2 (lh_u2 I (m + 4) 0 (I (m2 + 4) 0)) (m + 4) 1 ((lh_u2 I (m + 4) 0 (I (m2 + 4) 0)) (m2 + 4) 1)) (m2 + 4) 2)) (m2 + 4) 3)) (m + 4) 4 ((lh_u2 (lh_u2 (lh_u2 (lh_u2 I (m + 4) 0 (I (m2 + 4) 0)) (m + 4) 1 ((lh_u2 I (m + 4) 0 (I (m2 + 4) 0)) (m2 + 4) 1)) (m + 4) 2 ((lh_u2 (lh_u2 I (m + 4) 0 (I (m2 + 4) 0)) (m + 4) 1 ((lh_u2 I (m + 4) 0 (I (m2 + 4) 0)) (m2 + 4) 1)) (m2 + 4) 2)) (m + 4) 3 ((lh_u2 (lh_u2 (lh_u2 I (m + 4) 0 (I (m2 + 4) 0)) (m + 4) 1 ((lh_u2 I (m + 4) 0 (I (m2 + 4) 0)) (m2 + 4) 1)) (m + 4) 2 ((lh_u2 (lh_u2 I (m + 4) 0 (I (m2 + 4) 0)) (m + 4) 1 ((lh_u2 I (m + 4) 0 (I (m2 + 4) 0)) (m2 + 4) 1)) (m2 + 4) 2)) (m2 + 4) 3)) (m2 + 4) 4)) (m + 4) 5 ((lh_u2 (lh_u2 (lh_u2 (lh_u2 (lh_u2 I (m + 4) 0 (I (m2 + 4) 0)) (m + 4) 1 ((lh_u2 I (m + 4) 0 (I (m2 + 4) 0)) (m2 + 4) 1)) (m + 4) 2 ((lh_u2 (lh_u2 I (m + 4) 0 (I (m2 + 4) 0)) (m + 4) 1 ((lh_u2 I (m + 4) 0 (I (m2 + 4) 0)) (m2 + 4) 1)) (m2 + 4) 2)) (m + 4) 3 ((lh_u2 (lh_u2 (lh_u2 I (m + 4) 0 (I (m2 + 4) 0)) (m + 4) 1 ((lh_u2 I (m + 4) 0 (I (m2 + 4) 0)) (m2 + 4) 1)) (m + 4) 2 ((lh_u2 (lh_u2 I (m + 4) 0 (I (m2 + 4) 0)) (m + 4) 1 ((lh_u2 I (m + 4) 0 (I (m2 + 4) 0)) (m2 + 4) 1)) (m2 + 4) 2)) (m2 + 4) 3)) (m + 4) 4 ((lh_u2 (lh_u2 (lh_u2 (lh_u2 I (m + 4) 0 (I (m2 + 4) 0)) (m + 4) 1 ((lh_u2 I (m + 4) 0 (I (m2 + 4) 0)) (m2 + 4) 1)) (m + 4) 2 ((lh_u2 (lh_u2 I (m + 4) 0 (I (m2 + 4) 0)) (m + 4) 1 ((lh_u2 I (m + 4) 0 (I (m2 + 4) 0)) (m2 + 4) 1)) (m2 + 4) 2)) (m + 4) 3 ((lh_u2 (lh_u2 (lh_u2 I (m + 4) 0 (I (m2 + 4) 0)) (m + 4) 1 ((lh_u2 I (m + 4) 0 (I (m2 + 4) 0)) (m2 + 4) 1)) (m + 4) 2 ((lh_u2 (lh_u2 I (m + 4) 0 (I (m2 + 4) 0)) (m + 4) 1 ((lh_u2 I (m + 4) 0 (I (m2 + 4) 0)) (m2 + 4) 1)) (m2 + 4) 2)) (m2 + 4) 3)) (m2 + 4) 4)) (m2 + 4) 5)) (m + 4) 6 ((lh_u2 (lh_u2 (lh_u2 (lh_u2 (lh_u2 (lh_u2 I (m + 4) 0 (I (m2 + 4) 0)) (m + 4) 1 ((lh_u2 I (m + 4) 0 (I (m2 + 4) 0)) (m2 + 4) 1)) (m + 4) 2 ((lh_u2 (lh_u2 I (m + 4) 0 (I (m2 + 4) 0)) (m + 4) 1 ((lh_u2 I (m + 4) 0 (I (m2 + 4) 0)) (m2 + 4) 1)) (m2 + 4) 2)) (m + 4) 3 ((lh_u2 (lh_u2 (lh_u2 I (m + 4) 0 (I (m2 + 4) 0)) (m + 4) 1 ((lh_u2 I (m + 4) 0 (I (m2 + 4) 0)) (m2 + 4) 1)) (m + 4) 2 ((lh_u2 (lh_u2 I (m + 4) 0 (I (m2 + 4) 0)) (m + 4) 1 ((lh_u2 I (m + 4) 0 (I (m2 + 4) 0)) (m2 + 4) 1)) (m2 + 4) 2)) (m2 + 4) 3)) (m + 4) 4 ((lh_u2 (lh_u2 (lh_u2 (lh_u2 I (m + 4) 0 (I (m2 + 4) 0)) (m + 4) 1 ((lh_u2 I (m + 4) 0 (I (m2 + 4) 0)) (m2 + 4) 1)) (m + 4) 2 ((lh_u2 (lh_u2 I (m + 4) 0 (I (m2 + 4) 0)) (m + 4) 1 ((lh_u2 I (m + 4) 0 (I (m2 + 4) 0)) (m2 + 4) 1)) (m2 + 4) 2)) (m + 4) 3 ((lh_u2 (lh_u2 (lh_u2 I (m + 4) 0 (I (m2 + 4) 0)) (m + 4) 1 ((lh_u2 I (m + 4) 0 (I (m2 + 4) 0)) (m2 + 4) 1)) (m + 4) 2 ((lh_u2 (lh_u2 I (m + 4) 0 (I (m2 + 4) 0)) (m + 4) 1 ((lh_u2 I (m + 4) 0 (I (m2 + 4) 0)) (m2 + 4) 1)) (m2 + 4) 2)) (m2 + 4) 3)) (m2 + 4) 4)) (m + 4) 5 ((lh_u2 (lh_u2 (lh_u2 (lh_u2 (lh_u2 I (m + 4) 0 (I (m2 + 4) 0)) (m + 4) 1 ((lh_u2 I (m + 4) 0 (I (m2 + 4) 0)) (m2 + 4) 1)) (m + 4) 2 ((lh_u2 (lh_u2 I (m + 4) 0 (I (m2 + 4) 0)) (m + 4) 1 ((lh_u2 I (m + 4) 0 (I (m2 + 4) 0)) (m2 + 4) 1)) (m2 + 4) 2)) (m + 4) 3 ((lh_u2 (lh_u2 (lh_u2 I (m + 4) 0 (I (m2 + 4) 0)) (m + 4) 1 ((lh_u2 I (m + 4) 0 (I (m2 + 4) 0)) (m2 + 4) 1)) (m + 4) 2 ((lh_u2 (lh_u2 I (m + 4) 0 (I (m2 + 4) 0)) (m + 4) 1 ((lh_u2 I (m + 4) 0 (I (m2 + 4) 0)) (m2 + 4) 1)) (m2 + 4) 2)) (m2 + 4) 3)) (m + 4) 4 ((lh_u2 (lh_u2 (lh_u2 (lh_u2 I (m + 4) 0 (I (m2 + 4) 0)) (m + 4) 1 ((lh_u2 I (m + 4) 0 (I (m2 + 4) 0)) (m2 + 4) 1)) (m + 4) 2 ((lh_u2 (lh_u2 I (m + 4) 0 (I (m2 + 4) 0)) (m + 4) 1 ((lh_u2 I (m + 4) 0 (I (m2 + 4) 0)) (m2 + 4) 1)) (m2 + 4) 2)) (m + 4) 3 ((lh_u2 (lh_u2 (lh_u2 I (m + 4) 0 (I (m2 + 4) 0)) (m + 4) 1 ((lh_u2 I (m + 4) 0 (I (m2 + 4) 0)) (m2 + 4) 1)) (m + 4) 2 ((lh_u2 (lh_u2 I (m + 4) 0 (I (m2 + 4) 0)) (m + 4) 1 ((lh_u2 I (m + 4) 0 (I (m2 + 4) 0)) (m2 + 4) 1)) (m2 + 4) 2)) (m2 + 4) 3)) (m2 + 4) 4)) (m2 + 4) 5)) (m2 + 4) 6))
theorem t_Mo_become {Γ : lh_Cx} {I : lh_II} {L : lh_LL} {F : lh_FF} {S : lh_SS} {K : lh_Hp → Prop} {r : lh_II} (hG : lh_GX Γ) (hS : lh_lay F S) {m : Nat} (hm : S[m]? = some (10, 0)) {m2 : Nat} (hm2 : S[m2]? = some (10, 0)) (hf : f_Mo_become m m2 I = some r) (hK : K (r, L, F, S)) : lh_Met Γ m_Mo_become 0 0 0 [.ref (m + 4), .ref (m2 + 4)] (I, L, F, S) (lh_kv K) := by
  rw [f_Mo_become] at hf
  refine lh_ofG k_Mo_become [(0, .ref (m + 4)), (1, .ref (m2 + 4))] rfl (Nat.le_of_ble_eq_true rfl) rfl ?_
  refine lh_aload_n (q := 0) rfl rfl rfl ?_
  refine lh_aload_n (q := 1) rfl rfl rfl ?_
  refine lh_getI4 rfl rfl hm2 rfl ?_
  refine lh_putI4 rfl rfl hm rfl rfl ?_
  refine lh_aload_n (q := 0) rfl rfl rfl ?_
  refine lh_aload_n (q := 1) rfl rfl rfl ?_
  refine lh_getI4 rfl rfl hm2 rfl ?_
  refine lh_putI4 rfl rfl hm rfl rfl ?_
  refine lh_aload_n (q := 0) rfl rfl rfl ?_
  refine lh_aload_n (q := 1) rfl rfl rfl ?_
  refine lh_getI4 rfl rfl hm2 rfl ?_
  refine lh_putI4 rfl rfl hm rfl rfl ?_
  refine lh_aload_n (q := 0) rfl rfl rfl ?_
  refine lh_aload_n (q := 1) rfl rfl rfl ?_
  refine lh_getI4 rfl rfl hm2 rfl ?_
  refine lh_putI4 rfl rfl hm rfl rfl ?_
  refine lh_aload_n (q := 0) rfl rfl rfl ?_
  refine lh_aload_n (q := 1) rfl rfl rfl ?_
  refine lh_getI4 rfl rfl hm2 rfl ?_
  refine lh_putI4 rfl rfl hm rfl rfl ?_
  refine lh_aload_n (q := 0) rfl rfl rfl ?_
  refine lh_aload_n (q := 1) rfl rfl rfl ?_
  refine lh_getI4 rfl rfl hm2 rfl ?_
  refine lh_putI4 rfl rfl hm rfl rfl ?_
  refine lh_aload_n (q := 0) rfl rfl rfl ?_
  refine lh_aload_n (q := 1) rfl rfl rfl ?_
  refine lh_getI4 rfl rfl hm2 rfl ?_
  refine lh_putI4 rfl rfl hm rfl rfl ?_
  exact lh_vret rfl rfl (by obtain rfl := Option.some.inj hf; exact hK)
def f_LH_best_11 (a : Nat) (b : Nat) : Nat → Int32 → Int32 → Int32 → lh_II → Option (Int32 × lh_II)
  | 0, _, _, _, _ => none
  | n + 1, v1, v2, v3, I => if (I (a + 4) 9) ≤ v3 then some (v1, I) else lh_bd (f_Ha_hasPillar a v3 (lh_u2 I (8 + 4) 0 v3)) fun r4 => if r4 = 0 then lh_bd (f_Ha_seenBy a 8 (lh_u2 I (8 + 4) 0 v3)) fun r7 => lh_bd (f_Int_bitCount r7.1) fun r9 => if r9 ≤ v2 then f_LH_best_11 a b n v1 v2 (v3 + 1) r7.2 else f_LH_best_11 a b n v3 r9 (v3 + 1) r7.2 else if (-1) ≤ v2 then f_LH_best_11 a b n v1 v2 (v3 + 1) (lh_u2 I (8 + 4) 0 v3) else f_LH_best_11 a b n v3 (-1) (v3 + 1) (lh_u2 I (8 + 4) 0 v3)
def f_LH_best (a : Nat) (b : Nat) (I : lh_II) : Option (Int32 × lh_II) := lh_bd (f_Mo_become 8 7 I) fun r1 => lh_bd (f_LH_best_11 a b lh_fuel (-1) (-1) 0 r1) fun r13 => some (r13.1, r13.2)
theorem t_LH_best_11 {Γ : lh_Cx} {F : lh_FF} {S : lh_SS} {Z : List Frame → Array Value → State → State → Prop} (hG : lh_GX Γ) (hS : lh_lay F S) {a : Nat} (ha : lh_hl F S a) (hA : F (0 + 4) 6 = a + 4) {b : Nat} (hb : lh_nl F S b) (hB : F (0 + 4) 8 = b + 4)  {L : lh_LL} : ∀ (n : Nat) (v1 : Int32) (v2 : Int32) (v3 : Int32) (I : lh_II) (o : Int32 × lh_II), f_LH_best_11 a b n v1 v2 v3 I = some o → ∀ (x0_ : lh_G Γ m_LH_best (lh_R 5 0 0) Z 0 0 43 [(1, .int o.1)] [] (o.2, L, F, S)), lh_G Γ m_LH_best (lh_R 5 0 0) Z 0 0 11 [(0, .ref (0 + 4)), (1, .int v1), (2, .int v2), (3, .int v3)] [] (I, L, F, S) := by
  intro n
  induction n with
  | zero => intro v1 v2 v3 I o hf; cases hf
  | succ n ih =>
    intro v1 v2 v3 I o hf x0_
    rw [f_LH_best_11] at hf
    refine lh_iload_n (q := 3) rfl rfl rfl ?_
    refine lh_aload_n (q := 0) rfl rfl rfl ?_
    refine lh_getR4 rfl rfl (hS.1 0 _ rfl) rfl hA ?_
    refine lh_getI4 rfl rfl (ha.1 0 _ rfl) rfl ?_
    refine lh_icmp_ge rfl (fun c3 => ?_) (fun c3 => ?_)
    · have hf := lh_ifT hf c3
      exact lh_less [1] rfl (by cases hf; exact x0_)
    · have hf := lh_ifF hf c3
      refine lh_aload_n (q := 0) rfl rfl rfl ?_
      refine lh_getR4 rfl rfl (hS.1 0 _ rfl) rfl (hS.2 26 _ rfl) ?_
      refine lh_iload_n (q := 3) rfl rfl rfl ?_
      refine lh_putI4 rfl rfl (hS.1 8 _ rfl) rfl rfl ?_
      refine lh_aload_n (q := 0) rfl rfl rfl ?_
      refine lh_getR4 rfl rfl (hS.1 0 _ rfl) rfl hA ?_
      refine lh_iload_n (q := 3) rfl rfl rfl ?_
      refine lh_bdE hf (fun r4 e5 hf => ?_)
      refine lh_cVi (N := m_Ha_hasPillar) (d := 1) (o := a) (As := [.int v3]) (st := []) rfl rfl v_Ha_hasPillar (ha.1 0 _ rfl) rfl rfl rfl ⟨rfl, rfl⟩ rfl (t_Ha_hasPillar hG hS ha e5 ?_)
      refine lh_if_eq rfl (fun c6 => ?_) (fun c6 => ?_)
      · have hf := lh_ifT hf c6
        refine lh_aload_n (q := 0) rfl rfl rfl ?_
        refine lh_getR4 rfl rfl (hS.1 0 _ rfl) rfl hA ?_
        refine lh_aload_n (q := 0) rfl rfl rfl ?_
        refine lh_getR4 rfl rfl (hS.1 0 _ rfl) rfl (hS.2 26 _ rfl) ?_
        refine lh_bdE hf (fun r7 e8 hf => ?_)
        refine lh_cVi (N := m_Ha_seenBy) (d := 4) (o := a) (As := [.ref (8 + 4)]) (st := []) rfl rfl v_Ha_seenBy (ha.1 0 _ rfl) rfl rfl rfl ⟨rfl, rfl⟩ rfl (t_Ha_seenBy hG hS ha (hS.1 8 _ rfl) e8 ?_)
        refine lh_bdE hf (fun r9 e10 hf => ?_)
        refine lh_cSi (N := m_Int_bitCount) (d := 0) (As := [.int r7.1]) (st := []) rfl rfl v_Int_bitCount rfl rfl ⟨rfl, rfl⟩ rfl (t_Int_bitCount hG hS e10 ?_)
        refine lh_istore (lv' := [(0, .ref (0 + 4)), (1, .int v1), (2, .int v2), (3, .int v3), (4, .int r9)]) rfl rfl rfl ?_
        refine lh_iload (q := 4) rfl rfl ?_
        refine lh_iload_n (q := 2) rfl rfl rfl ?_
        refine lh_icmp_le rfl (fun c11 => ?_) (fun c11 => ?_)
        · have hf := lh_ifT hf c11
          refine lh_iinc (q := 3) (v := (v3 + 1)) (lv' := [(0, .ref (0 + 4)), (1, .int v1), (2, .int v2), (3, .int (v3 + 1)), (4, .int r9)]) rfl rfl (congrArg (v3 + ·) (by decide)) rfl rfl ?_
          refine lh_goto rfl ?_
          refine lh_less [0, 1, 2, 3] rfl ?_
          exact ih v1 v2 (v3 + 1) r7.2 _ hf x0_
        · have hf := lh_ifF hf c11
          refine lh_iload (q := 4) rfl rfl ?_
          refine lh_istore_n (lv' := [(0, .ref (0 + 4)), (1, .int v1), (2, .int r9), (3, .int v3), (4, .int r9)]) rfl rfl rfl rfl ?_
          refine lh_iload_n (q := 3) rfl rfl rfl ?_
          refine lh_istore_n (lv' := [(0, .ref (0 + 4)), (1, .int v3), (2, .int r9), (3, .int v3), (4, .int r9)]) rfl rfl rfl rfl ?_
          refine lh_iinc (q := 3) (v := (v3 + 1)) (lv' := [(0, .ref (0 + 4)), (1, .int v3), (2, .int r9), (3, .int (v3 + 1)), (4, .int r9)]) rfl rfl (congrArg (v3 + ·) (by decide)) rfl rfl ?_
          refine lh_goto rfl ?_
          refine lh_less [0, 1, 2, 3] rfl ?_
          exact ih v3 r9 (v3 + 1) r7.2 _ hf x0_
      · have hf := lh_ifF hf c6
        refine lh_iconst rfl lh_k_m1 ?_
        refine lh_goto rfl ?_
        refine lh_istore (lv' := [(0, .ref (0 + 4)), (1, .int v1), (2, .int v2), (3, .int v3), (4, .int (-1))]) rfl rfl rfl ?_
        refine lh_iload (q := 4) rfl rfl ?_
        refine lh_iload_n (q := 2) rfl rfl rfl ?_
        refine lh_icmp_le rfl (fun c12 => ?_) (fun c12 => ?_)
        · have hf := lh_ifT hf c12
          refine lh_iinc (q := 3) (v := (v3 + 1)) (lv' := [(0, .ref (0 + 4)), (1, .int v1), (2, .int v2), (3, .int (v3 + 1)), (4, .int (-1))]) rfl rfl (congrArg (v3 + ·) (by decide)) rfl rfl ?_
          refine lh_goto rfl ?_
          refine lh_less [0, 1, 2, 3] rfl ?_
          exact ih v1 v2 (v3 + 1) (lh_u2 I (8 + 4) 0 v3) _ hf x0_
        · have hf := lh_ifF hf c12
          refine lh_iload (q := 4) rfl rfl ?_
          refine lh_istore_n (lv' := [(0, .ref (0 + 4)), (1, .int v1), (2, .int (-1)), (3, .int v3), (4, .int (-1))]) rfl rfl rfl rfl ?_
          refine lh_iload_n (q := 3) rfl rfl rfl ?_
          refine lh_istore_n (lv' := [(0, .ref (0 + 4)), (1, .int v3), (2, .int (-1)), (3, .int v3), (4, .int (-1))]) rfl rfl rfl rfl ?_
          refine lh_iinc (q := 3) (v := (v3 + 1)) (lv' := [(0, .ref (0 + 4)), (1, .int v3), (2, .int (-1)), (3, .int (v3 + 1)), (4, .int (-1))]) rfl rfl (congrArg (v3 + ·) (by decide)) rfl rfl ?_
          refine lh_goto rfl ?_
          refine lh_less [0, 1, 2, 3] rfl ?_
          exact ih v3 (-1) (v3 + 1) (lh_u2 I (8 + 4) 0 v3) _ hf x0_
theorem t_LH_best {Γ : lh_Cx} {I : lh_II} {L : lh_LL} {F : lh_FF} {S : lh_SS} {K : Int32 → lh_Hp → Prop} {r : Int32 × lh_II} (hG : lh_GX Γ) (hS : lh_lay F S) {a : Nat} (ha : lh_hl F S a) (hA : F (0 + 4) 6 = a + 4) {b : Nat} (hb : lh_nl F S b) (hB : F (0 + 4) 8 = b + 4) (hf : f_LH_best a b I = some r) (hK : K r.1 (r.2, L, F, S)) : lh_Met Γ m_LH_best 5 0 0 [.ref (0 + 4)] (I, L, F, S) (lh_ki K) := by
  rw [f_LH_best] at hf
  refine lh_ofG k_LH_best [(0, .ref (0 + 4))] rfl (Nat.le_of_ble_eq_true rfl) rfl ?_
  refine lh_iconst rfl lh_k_m1 ?_
  refine lh_istore_n (lv' := [(0, .ref (0 + 4)), (1, .int (-1))]) rfl rfl rfl rfl ?_
  refine lh_iconst rfl lh_k_m1 ?_
  refine lh_istore_n (lv' := [(0, .ref (0 + 4)), (1, .int (-1)), (2, .int (-1))]) rfl rfl rfl rfl ?_
  refine lh_aload_n (q := 0) rfl rfl rfl ?_
  refine lh_getR4 rfl rfl (hS.1 0 _ rfl) rfl (hS.2 26 _ rfl) ?_
  refine lh_aload_n (q := 0) rfl rfl rfl ?_
  refine lh_getR4 rfl rfl (hS.1 0 _ rfl) rfl (hS.2 25 _ rfl) ?_
  refine lh_bdE hf (fun r1 e2 hf => ?_)
  refine lh_cVv (N := m_Mo_become) (d := 0) (o := 8) (As := [.ref (7 + 4)]) (st := []) rfl rfl v_Mo_become (hS.1 8 _ rfl) rfl rfl rfl ⟨rfl, rfl⟩ rfl (t_Mo_become hG hS (hS.1 8 _ rfl) (hS.1 7 _ rfl) e2 ?_)
  refine lh_iconst rfl lh_k_0 ?_
  refine lh_istore_n (lv' := [(0, .ref (0 + 4)), (1, .int (-1)), (2, .int (-1)), (3, .int 0)]) rfl rfl rfl rfl ?_
  refine lh_bdE hf (fun r13 e14 hf => ?_)
  refine t_LH_best_11 hG hS ha hA hb hB _ (-1) (-1) 0 r1 _ e14 ?_
  refine lh_iload_n (q := 0) rfl rfl rfl ?_
  exact lh_iret rfl rfl rfl (by obtain rfl := Option.some.inj hf; exact hK)
def f_LH_blot_6 (a : Nat) (b : Nat) : Nat → Int32 → Int32 → Int32 → lh_II → Option (Int32 × lh_II)
  | 0, _, _, _, _ => none
  | n + 1, v1, v2, v3, I => if (I (a + 4) 9) ≤ v3 then some (v1, I) else lh_bd (f_Ha_hasPillar a v3 I) fun r2 => if r2 = 0 then lh_bd (f_Ha_seenBehind a 7 ((I (a + 4) 10) ||| (1 <<< (v3 &&& 31))) I) fun r5 => lh_bd (f_Int_bitCount r5.1) fun r7 => if v2 ≤ r7 then f_LH_blot_6 a b n v1 v2 (v3 + 1) r5.2 else f_LH_blot_6 a b n v3 r7 (v3 + 1) r5.2 else f_LH_blot_6 a b n v1 v2 (v3 + 1) I
def f_LH_blot (a : Nat) (b : Nat) (I : lh_II) : Option (Int32 × lh_II) := lh_bd (f_LH_blot_6 a b lh_fuel (-1) 7 0 I) fun r10 => some (r10.1, r10.2)
theorem t_LH_blot_6 {Γ : lh_Cx} {F : lh_FF} {S : lh_SS} {Z : List Frame → Array Value → State → State → Prop} (hG : lh_GX Γ) (hS : lh_lay F S) {a : Nat} (ha : lh_hl F S a) (hA : F (0 + 4) 6 = a + 4) {b : Nat} (hb : lh_nl F S b) (hB : F (0 + 4) 8 = b + 4)  {L : lh_LL} : ∀ (n : Nat) (v1 : Int32) (v2 : Int32) (v3 : Int32) (I : lh_II) (o : Int32 × lh_II), f_LH_blot_6 a b n v1 v2 v3 I = some o → ∀ (x0_ : lh_G Γ m_LH_blot (lh_R 4 0 0) Z 0 0 39 [(1, .int o.1)] [] (o.2, L, F, S)), lh_G Γ m_LH_blot (lh_R 4 0 0) Z 0 0 6 [(0, .ref (0 + 4)), (1, .int v1), (2, .int v2), (3, .int v3)] [] (I, L, F, S) := by
  intro n
  induction n with
  | zero => intro v1 v2 v3 I o hf; cases hf
  | succ n ih =>
    intro v1 v2 v3 I o hf x0_
    rw [f_LH_blot_6] at hf
    refine lh_iload_n (q := 3) rfl rfl rfl ?_
    refine lh_aload_n (q := 0) rfl rfl rfl ?_
    refine lh_getR4 rfl rfl (hS.1 0 _ rfl) rfl hA ?_
    refine lh_getI4 rfl rfl (ha.1 0 _ rfl) rfl ?_
    refine lh_icmp_ge rfl (fun c1 => ?_) (fun c1 => ?_)
    · have hf := lh_ifT hf c1
      exact lh_less [1] rfl (by cases hf; exact x0_)
    · have hf := lh_ifF hf c1
      refine lh_aload_n (q := 0) rfl rfl rfl ?_
      refine lh_getR4 rfl rfl (hS.1 0 _ rfl) rfl hA ?_
      refine lh_iload_n (q := 3) rfl rfl rfl ?_
      refine lh_bdE hf (fun r2 e3 hf => ?_)
      refine lh_cVi (N := m_Ha_hasPillar) (d := 1) (o := a) (As := [.int v3]) (st := []) rfl rfl v_Ha_hasPillar (ha.1 0 _ rfl) rfl rfl rfl ⟨rfl, rfl⟩ rfl (t_Ha_hasPillar hG hS ha e3 ?_)
      refine lh_if_ne rfl (fun c4 => ?_) (fun c4 => ?_)
      · have hf := lh_ifF hf c4
        refine lh_iinc (q := 3) (v := (v3 + 1)) (lv' := [(0, .ref (0 + 4)), (1, .int v1), (2, .int v2), (3, .int (v3 + 1))]) rfl rfl (congrArg (v3 + ·) (by decide)) rfl rfl ?_
        refine lh_goto rfl ?_
        exact ih v1 v2 (v3 + 1) I _ hf x0_
      · have hf := lh_ifT hf c4
        refine lh_aload_n (q := 0) rfl rfl rfl ?_
        refine lh_getR4 rfl rfl (hS.1 0 _ rfl) rfl hA ?_
        refine lh_aload_n (q := 0) rfl rfl rfl ?_
        refine lh_getR4 rfl rfl (hS.1 0 _ rfl) rfl (hS.2 25 _ rfl) ?_
        refine lh_aload_n (q := 0) rfl rfl rfl ?_
        refine lh_getR4 rfl rfl (hS.1 0 _ rfl) rfl hA ?_
        refine lh_getI4 rfl rfl (ha.1 0 _ rfl) rfl ?_
        refine lh_iconst rfl lh_k_1 ?_
        refine lh_iload_n (q := 3) rfl rfl rfl ?_
        refine lh_ishl rfl ?_
        refine lh_ior rfl ?_
        refine lh_bdE hf (fun r5 e6 hf => ?_)
        refine lh_cVi (N := m_Ha_seenBehind) (d := 3) (o := a) (As := [.ref (7 + 4), .int ((I (a + 4) 10) ||| (1 <<< (v3 &&& 31)))]) (st := []) rfl rfl v_Ha_seenBehind (ha.1 0 _ rfl) rfl rfl rfl ⟨rfl, rfl⟩ rfl (t_Ha_seenBehind hG hS ha (hS.1 7 _ rfl) e6 ?_)
        refine lh_bdE hf (fun r7 e8 hf => ?_)
        refine lh_cSi (N := m_Int_bitCount) (d := 0) (As := [.int r5.1]) (st := []) rfl rfl v_Int_bitCount rfl rfl ⟨rfl, rfl⟩ rfl (t_Int_bitCount hG hS e8 ?_)
        refine lh_istore (lv' := [(0, .ref (0 + 4)), (1, .int v1), (2, .int v2), (3, .int v3), (4, .int r7)]) rfl rfl rfl ?_
        refine lh_iload (q := 4) rfl rfl ?_
        refine lh_iload_n (q := 2) rfl rfl rfl ?_
        refine lh_icmp_ge rfl (fun c9 => ?_) (fun c9 => ?_)
        · have hf := lh_ifT hf c9
          refine lh_iinc (q := 3) (v := (v3 + 1)) (lv' := [(0, .ref (0 + 4)), (1, .int v1), (2, .int v2), (3, .int (v3 + 1)), (4, .int r7)]) rfl rfl (congrArg (v3 + ·) (by decide)) rfl rfl ?_
          refine lh_goto rfl ?_
          refine lh_less [0, 1, 2, 3] rfl ?_
          exact ih v1 v2 (v3 + 1) r5.2 _ hf x0_
        · have hf := lh_ifF hf c9
          refine lh_iload (q := 4) rfl rfl ?_
          refine lh_istore_n (lv' := [(0, .ref (0 + 4)), (1, .int v1), (2, .int r7), (3, .int v3), (4, .int r7)]) rfl rfl rfl rfl ?_
          refine lh_iload_n (q := 3) rfl rfl rfl ?_
          refine lh_istore_n (lv' := [(0, .ref (0 + 4)), (1, .int v3), (2, .int r7), (3, .int v3), (4, .int r7)]) rfl rfl rfl rfl ?_
          refine lh_iinc (q := 3) (v := (v3 + 1)) (lv' := [(0, .ref (0 + 4)), (1, .int v3), (2, .int r7), (3, .int (v3 + 1)), (4, .int r7)]) rfl rfl (congrArg (v3 + ·) (by decide)) rfl rfl ?_
          refine lh_goto rfl ?_
          refine lh_less [0, 1, 2, 3] rfl ?_
          exact ih v3 r7 (v3 + 1) r5.2 _ hf x0_
theorem t_LH_blot {Γ : lh_Cx} {I : lh_II} {L : lh_LL} {F : lh_FF} {S : lh_SS} {K : Int32 → lh_Hp → Prop} {r : Int32 × lh_II} (hG : lh_GX Γ) (hS : lh_lay F S) {a : Nat} (ha : lh_hl F S a) (hA : F (0 + 4) 6 = a + 4) {b : Nat} (hb : lh_nl F S b) (hB : F (0 + 4) 8 = b + 4) (hf : f_LH_blot a b I = some r) (hK : K r.1 (r.2, L, F, S)) : lh_Met Γ m_LH_blot 4 0 0 [.ref (0 + 4)] (I, L, F, S) (lh_ki K) := by
  rw [f_LH_blot] at hf
  refine lh_ofG k_LH_blot [(0, .ref (0 + 4))] rfl (Nat.le_of_ble_eq_true rfl) rfl ?_
  refine lh_iconst rfl lh_k_m1 ?_
  refine lh_istore_n (lv' := [(0, .ref (0 + 4)), (1, .int (-1))]) rfl rfl rfl rfl ?_
  refine lh_bipush rfl lh_b_7 ?_
  refine lh_istore_n (lv' := [(0, .ref (0 + 4)), (1, .int (-1)), (2, .int 7)]) rfl rfl rfl rfl ?_
  refine lh_iconst rfl lh_k_0 ?_
  refine lh_istore_n (lv' := [(0, .ref (0 + 4)), (1, .int (-1)), (2, .int 7), (3, .int 0)]) rfl rfl rfl rfl ?_
  refine lh_bdE hf (fun r10 e11 hf => ?_)
  refine t_LH_blot_6 hG hS ha hA hb hB _ (-1) 7 0 I _ e11 ?_
  refine lh_iload_n (q := 0) rfl rfl rfl ?_
  exact lh_iret rfl rfl rfl (by obtain rfl := Option.some.inj hf; exact hK)
def f_LH_isDay (x1 : Int32) : Option (Int32) := if x1 < 0 then some 0 else if 4 ≤ x1 then some 0 else some 1
theorem t_LH_isDay {Γ : lh_Cx} {I : lh_II} {L : lh_LL} {F : lh_FF} {S : lh_SS} {K : Int32 → lh_Hp → Prop} {r : Int32} (hG : lh_GX Γ) (hS : lh_lay F S)  {x1 : Int32} (hf : f_LH_isDay x1 = some r) (hK : K r (I, L, F, S)) : lh_Met Γ m_LH_isDay 0 0 0 [.int x1] (I, L, F, S) (lh_ki K) := by
  rw [f_LH_isDay] at hf
  refine lh_ofG k_LH_isDay [(0, .int x1)] rfl (Nat.le_of_ble_eq_true rfl) rfl ?_
  refine lh_iload_n (q := 0) rfl rfl rfl ?_
  refine lh_if_lt rfl (fun c1 => ?_) (fun c1 => ?_)
  · have hf := lh_ifT hf c1
    refine lh_iconst rfl lh_k_0 ?_
    exact lh_iret rfl rfl (by decide) (by obtain rfl := Option.some.inj hf; exact hK)
  · have hf := lh_ifF hf c1
    refine lh_iload_n (q := 0) rfl rfl rfl ?_
    refine lh_iconst rfl lh_k_4 ?_
    refine lh_icmp_ge rfl (fun c2 => ?_) (fun c2 => ?_)
    · have hf := lh_ifT hf c2
      refine lh_iconst rfl lh_k_0 ?_
      exact lh_iret rfl rfl (by decide) (by obtain rfl := Option.some.inj hf; exact hK)
    · have hf := lh_ifF hf c2
      refine lh_iconst rfl lh_k_1 ?_
      refine lh_goto rfl ?_
      exact lh_iret rfl rfl (by decide) (by obtain rfl := Option.some.inj hf; exact hK)
def f_LH_census (a : Nat) (b : Nat) (x1 : Int32) (x2 : Int32) (I : lh_II) : Option (Int32) := lh_bd (f_LH_isDay x1) fun r1 => if r1 = 0 then some (-1) else lh_bd (f_LH_isHour x2) fun r4 => if r4 = 0 then some (-1) else lh_bd (f_Ha_whoIsThere a x1 x2 I) fun r7 => some r7
theorem t_LH_census {Γ : lh_Cx} {I : lh_II} {L : lh_LL} {F : lh_FF} {S : lh_SS} {K : Int32 → lh_Hp → Prop} {r : Int32} (hG : lh_GX Γ) (hS : lh_lay F S) {a : Nat} (ha : lh_hl F S a) (hA : F (0 + 4) 6 = a + 4) {b : Nat} (hb : lh_nl F S b) (hB : F (0 + 4) 8 = b + 4) {x1 : Int32} {x2 : Int32} (hf : f_LH_census a b x1 x2 I = some r) (hK : K r (I, L, F, S)) : lh_Met Γ m_LH_census 3 0 0 [.ref (0 + 4), .int x1, .int x2] (I, L, F, S) (lh_ki K) := by
  rw [f_LH_census] at hf
  refine lh_ofG k_LH_census [(0, .ref (0 + 4)), (1, .int x1), (2, .int x2)] rfl (Nat.le_of_ble_eq_true rfl) rfl ?_
  refine lh_iload_n (q := 1) rfl rfl rfl ?_
  refine lh_bdE hf (fun r1 e2 hf => ?_)
  refine lh_cSi (N := m_LH_isDay) (d := 0) (As := [.int x1]) (st := []) rfl rfl v_LH_isDay rfl rfl ⟨rfl, rfl⟩ rfl (t_LH_isDay hG hS e2 ?_)
  refine lh_if_eq rfl (fun c3 => ?_) (fun c3 => ?_)
  · have hf := lh_ifT hf c3
    refine lh_iconst rfl lh_k_m1 ?_
    exact lh_iret rfl rfl rfl (by obtain rfl := Option.some.inj hf; exact hK)
  · have hf := lh_ifF hf c3
    refine lh_iload_n (q := 2) rfl rfl rfl ?_
    refine lh_bdE hf (fun r4 e5 hf => ?_)
    refine lh_cSi (N := m_LH_isHour) (d := 0) (As := [.int x2]) (st := []) rfl rfl v_LH_isHour rfl rfl ⟨rfl, rfl⟩ rfl (t_LH_isHour hG hS e5 ?_)
    refine lh_if_ne rfl (fun c6 => ?_) (fun c6 => ?_)
    · have hf := lh_ifF hf c6
      refine lh_aload_n (q := 0) rfl rfl rfl ?_
      refine lh_getR4 rfl rfl (hS.1 0 _ rfl) rfl hA ?_
      refine lh_iload_n (q := 1) rfl rfl rfl ?_
      refine lh_iload_n (q := 2) rfl rfl rfl ?_
      refine lh_bdE hf (fun r7 e8 hf => ?_)
      refine lh_cVi (N := m_Ha_whoIsThere) (d := 2) (o := a) (As := [.int x1, .int x2]) (st := []) rfl rfl v_Ha_whoIsThere (ha.1 0 _ rfl) rfl rfl rfl ⟨rfl, rfl⟩ rfl (t_Ha_whoIsThere hG hS ha e8 ?_)
      exact lh_iret rfl rfl rfl (by obtain rfl := Option.some.inj hf; exact hK)
    · have hf := lh_ifT hf c6
      refine lh_iconst rfl lh_k_m1 ?_
      exact lh_iret rfl rfl rfl (by obtain rfl := Option.some.inj hf; exact hK)
def f_LH_chance_19 (a : Nat) (b : Nat) (v1 : Int32) (v2 : Int32) (v3 : Int32) (I : lh_II) : Nat → Int32 → Int32 → Option (Int32)
  | 0, _, _ => none
  | n + 1, v4, v5 => if (I (a + 4) 11) ≤ v5 then some v4 else lh_bd (f_Ha_wouldTake a v5 v1 v2 I) fun r10 => if r10 = 0 then f_LH_chance_19 a b v1 v2 v3 I n v4 (v5 + 1) else f_LH_chance_19 a b v1 v2 v3 I n ((v4 / 10) * (10 - v3)) (v5 + 1)
def f_LH_chance (a : Nat) (b : Nat) (x1 : Int32) (x2 : Int32) (x3 : Int32) (I : lh_II) : Option (Int32) := lh_bd (f_Ha_hasVase a x1 I) fun r1 => if r1 = 0 then some (-1) else lh_bd (f_LH_isDay x2) fun r4 => if r4 = 0 then some (-1) else if x3 < 0 then some (-1) else if x3 ≤ 10 then lh_bd (f_LH_chance_19 a b x1 x2 x3 I lh_fuel 1000000 0) fun r13 => some (1000000 - r13) else some (-1)
theorem t_LH_chance_19 {Γ : lh_Cx} {F : lh_FF} {S : lh_SS} {Z : List Frame → Array Value → State → State → Prop} (hG : lh_GX Γ) (hS : lh_lay F S) {a : Nat} (ha : lh_hl F S a) (hA : F (0 + 4) 6 = a + 4) {b : Nat} (hb : lh_nl F S b) (hB : F (0 + 4) 8 = b + 4) {v1 : Int32} {v2 : Int32} {v3 : Int32} {I : lh_II} {L : lh_LL} : ∀ (n : Nat) (v4 : Int32) (v5 : Int32) (o : Int32), f_LH_chance_19 a b v1 v2 v3 I n v4 v5 = some o → ∀ (x0_ : lh_G Γ m_LH_chance (lh_R 3 0 0) Z 0 0 41 [(4, .int o)] [] (I, L, F, S)), lh_G Γ m_LH_chance (lh_R 3 0 0) Z 0 0 19 [(0, .ref (0 + 4)), (1, .int v1), (2, .int v2), (3, .int v3), (4, .int v4), (5, .int v5)] [] (I, L, F, S) := by
  intro n
  induction n with
  | zero => intro v4 v5 o hf; cases hf
  | succ n ih =>
    intro v4 v5 o hf x0_
    rw [f_LH_chance_19] at hf
    refine lh_iload (q := 5) rfl rfl ?_
    refine lh_aload_n (q := 0) rfl rfl rfl ?_
    refine lh_getR4 rfl rfl (hS.1 0 _ rfl) rfl hA ?_
    refine lh_getI4 rfl rfl (ha.1 0 _ rfl) rfl ?_
    refine lh_icmp_ge rfl (fun c9 => ?_) (fun c9 => ?_)
    · have hf := lh_ifT hf c9
      exact lh_less [4] rfl (by cases hf; exact x0_)
    · have hf := lh_ifF hf c9
      refine lh_aload_n (q := 0) rfl rfl rfl ?_
      refine lh_getR4 rfl rfl (hS.1 0 _ rfl) rfl hA ?_
      refine lh_iload (q := 5) rfl rfl ?_
      refine lh_iload_n (q := 1) rfl rfl rfl ?_
      refine lh_iload_n (q := 2) rfl rfl rfl ?_
      refine lh_bdE hf (fun r10 e11 hf => ?_)
      refine lh_cVi (N := m_Ha_wouldTake) (d := 2) (o := a) (As := [.int v5, .int v1, .int v2]) (st := []) rfl rfl v_Ha_wouldTake (ha.1 0 _ rfl) rfl rfl rfl ⟨rfl, rfl⟩ rfl (t_Ha_wouldTake hG hS ha e11 ?_)
      refine lh_if_eq rfl (fun c12 => ?_) (fun c12 => ?_)
      · have hf := lh_ifT hf c12
        refine lh_iinc (q := 5) (v := (v5 + 1)) (lv' := [(0, .ref (0 + 4)), (1, .int v1), (2, .int v2), (3, .int v3), (4, .int v4), (5, .int (v5 + 1))]) rfl rfl (congrArg (v5 + ·) (by decide)) rfl rfl ?_
        refine lh_goto rfl ?_
        exact ih v4 (v5 + 1) _ hf x0_
      · have hf := lh_ifF hf c12
        refine lh_iload (q := 4) rfl rfl ?_
        refine lh_bipush rfl lh_b_10 ?_
        refine lh_idiv rfl (by decide) ?_
        refine lh_bipush rfl lh_b_10 ?_
        refine lh_iload_n (q := 3) rfl rfl rfl ?_
        refine lh_isub rfl ?_
        refine lh_imul rfl ?_
        refine lh_istore (lv' := [(0, .ref (0 + 4)), (1, .int v1), (2, .int v2), (3, .int v3), (4, .int ((v4 / 10) * (10 - v3))), (5, .int v5)]) rfl rfl rfl ?_
        refine lh_iinc (q := 5) (v := (v5 + 1)) (lv' := [(0, .ref (0 + 4)), (1, .int v1), (2, .int v2), (3, .int v3), (4, .int ((v4 / 10) * (10 - v3))), (5, .int (v5 + 1))]) rfl rfl (congrArg (v5 + ·) (by decide)) rfl rfl ?_
        refine lh_goto rfl ?_
        exact ih ((v4 / 10) * (10 - v3)) (v5 + 1) _ hf x0_
theorem t_LH_chance {Γ : lh_Cx} {I : lh_II} {L : lh_LL} {F : lh_FF} {S : lh_SS} {K : Int32 → lh_Hp → Prop} {r : Int32} (hG : lh_GX Γ) (hS : lh_lay F S) {a : Nat} (ha : lh_hl F S a) (hA : F (0 + 4) 6 = a + 4) {b : Nat} (hb : lh_nl F S b) (hB : F (0 + 4) 8 = b + 4) {x1 : Int32} {x2 : Int32} {x3 : Int32} (hf : f_LH_chance a b x1 x2 x3 I = some r) (hK : K r (I, L, F, S)) : lh_Met Γ m_LH_chance 3 0 0 [.ref (0 + 4), .int x1, .int x2, .int x3] (I, L, F, S) (lh_ki K) := by
  rw [f_LH_chance] at hf
  refine lh_ofG k_LH_chance [(0, .ref (0 + 4)), (1, .int x1), (2, .int x2), (3, .int x3)] rfl (Nat.le_of_ble_eq_true rfl) rfl ?_
  refine lh_aload_n (q := 0) rfl rfl rfl ?_
  refine lh_getR4 rfl rfl (hS.1 0 _ rfl) rfl hA ?_
  refine lh_iload_n (q := 1) rfl rfl rfl ?_
  refine lh_bdE hf (fun r1 e2 hf => ?_)
  refine lh_cVi (N := m_Ha_hasVase) (d := 0) (o := a) (As := [.int x1]) (st := []) rfl rfl v_Ha_hasVase (ha.1 0 _ rfl) rfl rfl rfl ⟨rfl, rfl⟩ rfl (t_Ha_hasVase hG hS ha e2 ?_)
  refine lh_if_eq rfl (fun c3 => ?_) (fun c3 => ?_)
  · have hf := lh_ifT hf c3
    refine lh_iconst rfl lh_k_m1 ?_
    exact lh_iret rfl rfl rfl (by obtain rfl := Option.some.inj hf; exact hK)
  · have hf := lh_ifF hf c3
    refine lh_iload_n (q := 2) rfl rfl rfl ?_
    refine lh_bdE hf (fun r4 e5 hf => ?_)
    refine lh_cSi (N := m_LH_isDay) (d := 0) (As := [.int x2]) (st := []) rfl rfl v_LH_isDay rfl rfl ⟨rfl, rfl⟩ rfl (t_LH_isDay hG hS e5 ?_)
    refine lh_if_eq rfl (fun c6 => ?_) (fun c6 => ?_)
    · have hf := lh_ifT hf c6
      refine lh_iconst rfl lh_k_m1 ?_
      exact lh_iret rfl rfl rfl (by obtain rfl := Option.some.inj hf; exact hK)
    · have hf := lh_ifF hf c6
      refine lh_iload_n (q := 3) rfl rfl rfl ?_
      refine lh_if_lt rfl (fun c7 => ?_) (fun c7 => ?_)
      · have hf := lh_ifT hf c7
        refine lh_iconst rfl lh_k_m1 ?_
        exact lh_iret rfl rfl rfl (by obtain rfl := Option.some.inj hf; exact hK)
      · have hf := lh_ifF hf c7
        refine lh_iload_n (q := 3) rfl rfl rfl ?_
        refine lh_bipush rfl lh_b_10 ?_
        refine lh_icmp_le rfl (fun c8 => ?_) (fun c8 => ?_)
        · have hf := lh_ifT hf c8
          refine lh_ldcw rfl rfl ?_
          refine lh_istore (lv' := [(0, .ref (0 + 4)), (1, .int x1), (2, .int x2), (3, .int x3), (4, .int 1000000)]) rfl rfl rfl ?_
          refine lh_iconst rfl lh_k_0 ?_
          refine lh_istore (lv' := [(0, .ref (0 + 4)), (1, .int x1), (2, .int x2), (3, .int x3), (4, .int 1000000), (5, .int 0)]) rfl rfl rfl ?_
          refine lh_bdE hf (fun r13 e14 hf => ?_)
          refine t_LH_chance_19 hG hS ha hA hb hB _ 1000000 0 _ e14 ?_
          refine lh_ldcw rfl rfl ?_
          refine lh_iload (q := 0) rfl rfl ?_
          refine lh_isub rfl ?_
          exact lh_iret rfl rfl rfl (by obtain rfl := Option.some.inj hf; exact hK)
        · have hf := lh_ifF hf c8
          refine lh_iconst rfl lh_k_m1 ?_
          exact lh_iret rfl rfl rfl (by obtain rfl := Option.some.inj hf; exact hK)
def f_Mo_trimTo (m : Nat) (x1 : Int32) (I : lh_II) : Option (lh_II) := some (lh_u2 (lh_u2 I (m + 4) 2 x1) (m + 4) 3 (((lh_u2 I (m + 4) 2 x1) (m + 4) 3) - 2))
theorem t_Mo_trimTo {Γ : lh_Cx} {I : lh_II} {L : lh_LL} {F : lh_FF} {S : lh_SS} {K : lh_Hp → Prop} {r : lh_II} (hG : lh_GX Γ) (hS : lh_lay F S) {m : Nat} (hm : S[m]? = some (10, 0)) {x1 : Int32} (hf : f_Mo_trimTo m x1 I = some r) (hK : K (r, L, F, S)) : lh_Met Γ m_Mo_trimTo 0 0 0 [.ref (m + 4), .int x1] (I, L, F, S) (lh_kv K) := by
  rw [f_Mo_trimTo] at hf
  refine lh_ofG k_Mo_trimTo [(0, .ref (m + 4)), (1, .int x1)] rfl (Nat.le_of_ble_eq_true rfl) rfl ?_
  refine lh_aload_n (q := 0) rfl rfl rfl ?_
  refine lh_iload_n (q := 1) rfl rfl rfl ?_
  refine lh_putI4 rfl rfl hm rfl rfl ?_
  refine lh_aload_n (q := 0) rfl rfl rfl ?_
  refine lh_dup rfl rfl ?_
  refine lh_getI4 rfl rfl hm rfl ?_
  refine lh_iconst rfl lh_k_2 ?_
  refine lh_isub rfl ?_
  refine lh_putI4 rfl rfl hm rfl rfl ?_
  exact lh_vret rfl rfl (by obtain rfl := Option.some.inj hf; exact hK)
def f_LH_choose_13 (a : Nat) (b : Nat) : Nat → Int32 → Int32 → Int32 → lh_II → Option (Int32 × lh_II)
  | 0, _, _, _, _ => none
  | n + 1, v1, v2, v3, I => if 4 ≤ v3 then some (v1, I) else lh_bd (f_Mo_become 8 7 I) fun r3 => lh_bd (f_Mo_trimTo 8 v3 r3) fun r5 => lh_bd (f_Ha_seenBy a 8 r5) fun r7 => lh_bd (f_Int_bitCount r7.1) fun r9 => if r9 ≤ v2 then f_LH_choose_13 a b n v1 v2 (v3 + 1) r7.2 else f_LH_choose_13 a b n v3 r9 (v3 + 1) r7.2
def f_LH_choose (a : Nat) (b : Nat) (I : lh_II) : Option (Int32 × lh_II) := if 2 ≤ (I (7 + 4) 3) then lh_bd (f_LH_choose_13 a b lh_fuel (-1) (-1) 0 I) fun r12 => some (r12.1, r12.2) else some ((-1), I)
theorem t_LH_choose_13 {Γ : lh_Cx} {F : lh_FF} {S : lh_SS} {Z : List Frame → Array Value → State → State → Prop} (hG : lh_GX Γ) (hS : lh_lay F S) {a : Nat} (ha : lh_hl F S a) (hA : F (0 + 4) 6 = a + 4) {b : Nat} (hb : lh_nl F S b) (hB : F (0 + 4) 8 = b + 4)  {L : lh_LL} : ∀ (n : Nat) (v1 : Int32) (v2 : Int32) (v3 : Int32) (I : lh_II) (o : Int32 × lh_II), f_LH_choose_13 a b n v1 v2 v3 I = some o → ∀ (x0_ : lh_G Γ m_LH_choose (lh_R 5 0 0) Z 0 0 41 [(1, .int o.1)] [] (o.2, L, F, S)), lh_G Γ m_LH_choose (lh_R 5 0 0) Z 0 0 13 [(0, .ref (0 + 4)), (1, .int v1), (2, .int v2), (3, .int v3)] [] (I, L, F, S) := by
  intro n
  induction n with
  | zero => intro v1 v2 v3 I o hf; cases hf
  | succ n ih =>
    intro v1 v2 v3 I o hf x0_
    rw [f_LH_choose_13] at hf
    refine lh_iload_n (q := 3) rfl rfl rfl ?_
    refine lh_iconst rfl lh_k_4 ?_
    refine lh_icmp_ge rfl (fun c2 => ?_) (fun c2 => ?_)
    · have hf := lh_ifT hf c2
      exact lh_less [1] rfl (by cases hf; exact x0_)
    · have hf := lh_ifF hf c2
      refine lh_aload_n (q := 0) rfl rfl rfl ?_
      refine lh_getR4 rfl rfl (hS.1 0 _ rfl) rfl (hS.2 26 _ rfl) ?_
      refine lh_aload_n (q := 0) rfl rfl rfl ?_
      refine lh_getR4 rfl rfl (hS.1 0 _ rfl) rfl (hS.2 25 _ rfl) ?_
      refine lh_bdE hf (fun r3 e4 hf => ?_)
      refine lh_cVv (N := m_Mo_become) (d := 0) (o := 8) (As := [.ref (7 + 4)]) (st := []) rfl rfl v_Mo_become (hS.1 8 _ rfl) rfl rfl rfl ⟨rfl, rfl⟩ rfl (t_Mo_become hG hS (hS.1 8 _ rfl) (hS.1 7 _ rfl) e4 ?_)
      refine lh_aload_n (q := 0) rfl rfl rfl ?_
      refine lh_getR4 rfl rfl (hS.1 0 _ rfl) rfl (hS.2 26 _ rfl) ?_
      refine lh_iload_n (q := 3) rfl rfl rfl ?_
      refine lh_bdE hf (fun r5 e6 hf => ?_)
      refine lh_cVv (N := m_Mo_trimTo) (d := 0) (o := 8) (As := [.int v3]) (st := []) rfl rfl v_Mo_trimTo (hS.1 8 _ rfl) rfl rfl rfl ⟨rfl, rfl⟩ rfl (t_Mo_trimTo hG hS (hS.1 8 _ rfl) e6 ?_)
      refine lh_aload_n (q := 0) rfl rfl rfl ?_
      refine lh_getR4 rfl rfl (hS.1 0 _ rfl) rfl hA ?_
      refine lh_aload_n (q := 0) rfl rfl rfl ?_
      refine lh_getR4 rfl rfl (hS.1 0 _ rfl) rfl (hS.2 26 _ rfl) ?_
      refine lh_bdE hf (fun r7 e8 hf => ?_)
      refine lh_cVi (N := m_Ha_seenBy) (d := 4) (o := a) (As := [.ref (8 + 4)]) (st := []) rfl rfl v_Ha_seenBy (ha.1 0 _ rfl) rfl rfl rfl ⟨rfl, rfl⟩ rfl (t_Ha_seenBy hG hS ha (hS.1 8 _ rfl) e8 ?_)
      refine lh_bdE hf (fun r9 e10 hf => ?_)
      refine lh_cSi (N := m_Int_bitCount) (d := 0) (As := [.int r7.1]) (st := []) rfl rfl v_Int_bitCount rfl rfl ⟨rfl, rfl⟩ rfl (t_Int_bitCount hG hS e10 ?_)
      refine lh_istore (lv' := [(0, .ref (0 + 4)), (1, .int v1), (2, .int v2), (3, .int v3), (4, .int r9)]) rfl rfl rfl ?_
      refine lh_iload (q := 4) rfl rfl ?_
      refine lh_iload_n (q := 2) rfl rfl rfl ?_
      refine lh_icmp_le rfl (fun c11 => ?_) (fun c11 => ?_)
      · have hf := lh_ifT hf c11
        refine lh_iinc (q := 3) (v := (v3 + 1)) (lv' := [(0, .ref (0 + 4)), (1, .int v1), (2, .int v2), (3, .int (v3 + 1)), (4, .int r9)]) rfl rfl (congrArg (v3 + ·) (by decide)) rfl rfl ?_
        refine lh_goto rfl ?_
        refine lh_less [0, 1, 2, 3] rfl ?_
        exact ih v1 v2 (v3 + 1) r7.2 _ hf x0_
      · have hf := lh_ifF hf c11
        refine lh_iload (q := 4) rfl rfl ?_
        refine lh_istore_n (lv' := [(0, .ref (0 + 4)), (1, .int v1), (2, .int r9), (3, .int v3), (4, .int r9)]) rfl rfl rfl rfl ?_
        refine lh_iload_n (q := 3) rfl rfl rfl ?_
        refine lh_istore_n (lv' := [(0, .ref (0 + 4)), (1, .int v3), (2, .int r9), (3, .int v3), (4, .int r9)]) rfl rfl rfl rfl ?_
        refine lh_iinc (q := 3) (v := (v3 + 1)) (lv' := [(0, .ref (0 + 4)), (1, .int v3), (2, .int r9), (3, .int (v3 + 1)), (4, .int r9)]) rfl rfl (congrArg (v3 + ·) (by decide)) rfl rfl ?_
        refine lh_goto rfl ?_
        refine lh_less [0, 1, 2, 3] rfl ?_
        exact ih v3 r9 (v3 + 1) r7.2 _ hf x0_
theorem t_LH_choose {Γ : lh_Cx} {I : lh_II} {L : lh_LL} {F : lh_FF} {S : lh_SS} {K : Int32 → lh_Hp → Prop} {r : Int32 × lh_II} (hG : lh_GX Γ) (hS : lh_lay F S) {a : Nat} (ha : lh_hl F S a) (hA : F (0 + 4) 6 = a + 4) {b : Nat} (hb : lh_nl F S b) (hB : F (0 + 4) 8 = b + 4) (hf : f_LH_choose a b I = some r) (hK : K r.1 (r.2, L, F, S)) : lh_Met Γ m_LH_choose 5 0 0 [.ref (0 + 4)] (I, L, F, S) (lh_ki K) := by
  rw [f_LH_choose] at hf
  refine lh_ofG k_LH_choose [(0, .ref (0 + 4))] rfl (Nat.le_of_ble_eq_true rfl) rfl ?_
  refine lh_aload_n (q := 0) rfl rfl rfl ?_
  refine lh_getR4 rfl rfl (hS.1 0 _ rfl) rfl (hS.2 25 _ rfl) ?_
  refine lh_getI4 rfl rfl (hS.1 7 _ rfl) rfl ?_
  refine lh_iconst rfl lh_k_2 ?_
  refine lh_icmp_ge rfl (fun c1 => ?_) (fun c1 => ?_)
  · have hf := lh_ifT hf c1
    refine lh_iconst rfl lh_k_m1 ?_
    refine lh_istore_n (lv' := [(0, .ref (0 + 4)), (1, .int (-1))]) rfl rfl rfl rfl ?_
    refine lh_iconst rfl lh_k_m1 ?_
    refine lh_istore_n (lv' := [(0, .ref (0 + 4)), (1, .int (-1)), (2, .int (-1))]) rfl rfl rfl rfl ?_
    refine lh_iconst rfl lh_k_0 ?_
    refine lh_istore_n (lv' := [(0, .ref (0 + 4)), (1, .int (-1)), (2, .int (-1)), (3, .int 0)]) rfl rfl rfl rfl ?_
    refine lh_bdE hf (fun r12 e13 hf => ?_)
    refine t_LH_choose_13 hG hS ha hA hb hB _ (-1) (-1) 0 I _ e13 ?_
    refine lh_iload_n (q := 0) rfl rfl rfl ?_
    exact lh_iret rfl rfl rfl (by obtain rfl := Option.some.inj hf; exact hK)
  · have hf := lh_ifF hf c1
    refine lh_iconst rfl lh_k_m1 ?_
    exact lh_iret rfl rfl rfl (by obtain rfl := Option.some.inj hf; exact hK)
