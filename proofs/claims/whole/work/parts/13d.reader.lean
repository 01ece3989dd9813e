theorem tn_St_isLatin1 {Γ : lh_Cx} {I : lh_II} {L : lh_LL} {F : lh_FF} {S : lh_SS} {K : Int32 → lh_Hp → Prop} {r : Int32} (hG : lh_GX Γ) {i : Nat} (hi : i < 2) (hf : f_St_isLatin1 i = some r) (hK : K r (I, L, F, S)) : lh_Met (lh_gs Γ i) m_St_isLatin1 0 0 0 [.ref (2 + i)] (I, L, F, S) (lh_ki K) := by
  rw [f_St_isLatin1] at hf
  refine lh_ofG k_St_isLatin1 [(0, .ref (2 + i))] rfl (Nat.le_of_ble_eq_true rfl) rfl ?_
  refine lh_gcs hG rfl rfl ?_
  refine lh_if_eq rfl (fun c => absurd c (by decide)) (fun _ => ?_)
  refine lh_aload_n (q := 0) rfl rfl rfl ?_
  refine lh_sgC hG hi rfl rfl ?_
  refine lh_if_ne rfl (fun c => absurd (by decide) c) (fun _ => ?_)
  refine lh_iconst rfl lh_k_1 ?_
  refine lh_goto rfl ?_
  exact lh_iret rfl rfl (by decide) (by obtain rfl := Option.some.inj hf; exact hK)
theorem tn_St_coder {Γ : lh_Cx} {I : lh_II} {L : lh_LL} {F : lh_FF} {S : lh_SS} {K : Int32 → lh_Hp → Prop} {r : Int32} (hG : lh_GX Γ) {i : Nat} (hi : i < 2) (hf : f_St_coder i = some r) (hK : K r (I, L, F, S)) : lh_Met (lh_gs Γ i) m_St_coder 0 0 0 [.ref (2 + i)] (I, L, F, S) (lh_ki K) := by
  rw [f_St_coder] at hf
  refine lh_ofG k_St_coder [(0, .ref (2 + i))] rfl (Nat.le_of_ble_eq_true rfl) rfl ?_
  refine lh_gcs hG rfl rfl ?_
  refine lh_if_eq rfl (fun c => absurd c (by decide)) (fun _ => ?_)
  refine lh_aload_n (q := 0) rfl rfl rfl ?_
  refine lh_sgC hG hi rfl rfl ?_
  refine lh_goto rfl ?_
  exact lh_iret rfl rfl (by decide) (by obtain rfl := Option.some.inj hf; exact hK)
theorem tn_St_length {Γ : lh_Cx} {I : lh_II} {L : lh_LL} {F : lh_FF} {S : lh_SS} {K : Int32 → lh_Hp → Prop} {r : Int32} (hG : lh_GX Γ) {i : Nat} (hi : i < 2) (hf : f_St_length i = some r) (hK : K r (I, L, F, S)) : lh_Met (lh_gs Γ i) m_St_length 1 0 0 [.ref (2 + i)] (I, L, F, S) (lh_ki K) := by
  rw [f_St_length] at hf
  refine lh_ofG k_St_length [(0, .ref (2 + i))] rfl (Nat.le_of_ble_eq_true rfl) rfl ?_
  refine lh_aload_n (q := 0) rfl rfl rfl ?_
  refine lh_sgV hG hi rfl rfl ?_
  refine lh_sln hG hi rfl ?_
  refine lh_aload_n (q := 0) rfl rfl rfl ?_
  refine lh_bdE hf (fun r1 e2 hf => ?_)
  refine lh_invVs (i := i) (N := m_St_coder) (d := 0) (As := []) (st := [.int (nI (lh_strl.getD i 0))]) hG hi rfl rfl v_St_coder rfl rfl rfl ⟨rfl, rfl⟩ rfl (tn_St_coder hG hi e2 ?_)
  refine lh_ishr rfl ?_
  exact lh_iret rfl rfl rfl (by obtain rfl := Option.some.inj hf; exact hK)
theorem tn_Re_withLetter {Γ : lh_Cx} {I : lh_II} {L : lh_LL} {F : lh_FF} {S : lh_SS} {K : Int64 → lh_Hp → Prop} {r : Int64} (hG : lh_GX Γ)  {x1 : Int64} {x2 : Int32} (hf : f_Re_withLetter x1 x2 = some r) (hK : K r (I, L, F, S)) : lh_Met Γ m_Re_withLetter 0 0 0 [.long x1, .int x2] (I, L, F, S) (lh_kl K) := by
  rw [f_Re_withLetter] at hf
  refine lh_ofG k_Re_withLetter [(0, .long x1), (2, .int x2)] rfl (Nat.le_of_ble_eq_true rfl) rfl ?_
  refine lh_lload_n (q := 0) rfl rfl rfl ?_
  refine lh_iconst rfl lh_k_5 ?_
  refine lh_lshl rfl ?_
  refine lh_iload_n (q := 1) rfl rfl rfl ?_
  refine lh_bipush rfl lh_b_97 ?_
  refine lh_isub rfl ?_
  refine lh_iconst rfl lh_k_1 ?_
  refine lh_iadd rfl ?_
  refine lh_i2l rfl ?_
  refine lh_lor rfl ?_
  exact lh_lret rfl rfl (by obtain rfl := Option.some.inj hf; exact hK)
def f_St_charAt (i : Nat) (x1 : Int32) : Option Int32 := lh_gd (lh_ix x1 (lh_strl.getD i 0)) (some (lh_chr i x1))
theorem tn_St_charAt {Γ : lh_Cx} {h : lh_Hp} {K : Int32 → lh_Hp → Prop} {x1 : Int32} {i : Nat} {r : Int32} (hG : lh_GX Γ) (hi : i < 2) (hf : f_St_charAt i x1 = some r) (hK : K r h) : lh_Met (lh_gs Γ i) m_St_charAt 3 0 0 [.ref (2 + i), .int x1] h (lh_ki K) := by
  obtain ⟨hx, hf⟩ := lh_gdE hf
  obtain rfl := Option.some.inj hf
  obtain ⟨I, L, F, S⟩ := h
  refine lh_ofG k_St_charAt [(0, .ref (2 + i)), (1, .int x1)] rfl (Nat.le_of_ble_eq_true rfl) rfl ?_
  refine lh_aload_n (q := 0) rfl rfl rfl ?_
  refine lh_invVs (i := i) (N := m_St_isLatin1) (d := 0) (As := []) (st := []) hG hi rfl rfl v_St_isLatin1 rfl rfl rfl ⟨rfl, rfl⟩ rfl (tn_St_isLatin1 (r := 1) hG hi (by rw [f_St_isLatin1]) ?_)
  refine lh_if_eq rfl (fun c => absurd c (by decide)) (fun _ => ?_)
  refine lh_aload_n (q := 0) rfl rfl rfl ?_
  refine lh_sgV hG hi rfl rfl ?_
  refine lh_iload_n (q := 1) rfl rfl rfl ?_
  refine lh_cSi (N := m_SL_charAt) (d := 2) (As := [.ref 1, .int x1]) (st := []) rfl rfl v_SL_charAt rfl rfl ⟨rfl, rfl⟩ rfl (tn_SL_charAt hG hi hx ?_)
  exact lh_iret rfl rfl (pk_nc _) hK
def f_Re_init_35 : Nat → Int32 → Int32 → lh_LL → Option (lh_LL)
  | 0, _, _, _ => none
  | n + 1, v1, v2, L => lh_bd (f_St_length 0) fun r1 => if r1 ≤ v2 then some L else if 27 ≤ v1 then some L else lh_bd (f_St_charAt 0 v2) fun r5 => if r5 = 32 then f_Re_init_35 n (v1 + 1) (v2 + 1) L else lh_gd (lh_ix v1 27) (lh_bd (f_St_charAt 0 v2) fun r9 => lh_bd (f_Re_withLetter (L (3 + 4) v1.toNatClampNeg) r9) fun r11 => lh_gd (lh_ix v1 27) (f_Re_init_35 n v1 (v2 + 1) (lh_v2 L (3 + 4) v1.toNatClampNeg r11)))
theorem tn_Re_init_35 {Γ : lh_Cx} {F : lh_FF} {S : lh_SS} {Z : List Frame → Array Value → State → State → Prop} (hG : lh_GX Γ) (h1 : S[1]? = some (12, 0)) (h3 : S[3]? = some (1, 27)) (f3 : F (1 + 4) 1 = 3 + 4)  {I : lh_II} : ∀ (n : Nat) (v1 : Int32) (v2 : Int32) (L : lh_LL) (o : lh_LL), f_Re_init_35 n v1 v2 L = some o → ∀ (x0_ : lh_G Γ m_Re_init (lh_R 6 2 1027) Z 0 0 63 [] [] (I, o, F, S)), lh_G Γ m_Re_init (lh_R 6 2 1027) Z 0 0 35 [(0, .ref (1 + 4)), (1, .int v1), (2, .int v2)] [] (I, L, F, S) := by
  intro n
  induction n with
  | zero => intro v1 v2 L o hf; cases hf
  | succ n ih =>
    intro v1 v2 L o hf x0_
    rw [f_Re_init_35] at hf
    refine lh_iload_n (q := 2) rfl rfl rfl ?_
    refine lh_ldcW hG rfl rfl ?_
    refine lh_bdE hf (fun r1 e2 hf => ?_)
    refine lh_invVt (i := 0) (N := m_St_length) (d := 1) (As := []) (st := [.int v2]) hG (by decide) rfl rfl v_St_length rfl rfl rfl ⟨rfl, rfl⟩ rfl (lh_gsOut rfl (tn_St_length hG (by decide) e2 ?_))
    refine lh_icmp_ge rfl (fun c3 => ?_) (fun c3 => ?_)
    · have hf := lh_ifT hf c3
      exact lh_less [] rfl (by cases hf; exact x0_)
    · have hf := lh_ifF hf c3
      refine lh_iload_n (q := 1) rfl rfl rfl ?_
      refine lh_bipush rfl lh_b_27 ?_
      refine lh_icmp_ge rfl (fun c4 => ?_) (fun c4 => ?_)
      · have hf := lh_ifT hf c4
        exact lh_less [] rfl (by cases hf; exact x0_)
      · have hf := lh_ifF hf c4
        refine lh_ldcW hG rfl rfl ?_
        refine lh_iload_n (q := 2) rfl rfl rfl ?_
        refine lh_bdE hf (fun r5 e6 hf => ?_)
        refine lh_invVt (i := 0) (N := m_St_charAt) (d := 3) (As := [.int v2]) (st := []) hG (by decide) rfl rfl v_St_charAt rfl rfl rfl ⟨rfl, rfl⟩ rfl (lh_gsOut rfl (tn_St_charAt hG (by decide) e6 ?_))
        refine lh_bipush rfl lh_b_32 ?_
        refine lh_icmp_ne rfl (fun c7 => ?_) (fun c7 => ?_)
        · have hf := lh_ifF hf c7
          refine lh_aload_n (q := 0) rfl rfl rfl ?_
          refine lh_getR4 rfl rfl h1 rfl f3 ?_
          refine lh_iload_n (q := 1) rfl rfl rfl ?_
          refine lh_aload_n (q := 0) rfl rfl rfl ?_
          refine lh_getR4 rfl rfl h1 rfl f3 ?_
          refine lh_iload_n (q := 1) rfl rfl rfl ?_
          obtain ⟨g8, hf⟩ := lh_gdE hf
          refine lh_lald4 rfl h3 g8 ?_
          refine lh_ldcW hG rfl rfl ?_
          refine lh_iload_n (q := 2) rfl rfl rfl ?_
          refine lh_bdE hf (fun r9 e10 hf => ?_)
          refine lh_invVt (i := 0) (N := m_St_charAt) (d := 3) (As := [.int v2]) (st := [.long (L (3 + 4) v1.toNatClampNeg), .int v1, .ref (3 + 4)]) hG (by decide) rfl rfl v_St_charAt rfl rfl rfl ⟨rfl, rfl⟩ rfl (lh_gsOut rfl (tn_St_charAt hG (by decide) e10 ?_))
          refine lh_bdE hf (fun r11 e12 hf => ?_)
          refine lh_cSl (N := m_Re_withLetter) (d := 0) (As := [.long (L (3 + 4) v1.toNatClampNeg), .int r9]) (st := [.int v1, .ref (3 + 4)]) rfl rfl v_Re_withLetter rfl rfl ⟨rfl, rfl⟩ rfl (tn_Re_withLetter hG e12 ?_)
          obtain ⟨g13, hf⟩ := lh_gdE hf
          refine lh_last4 rfl h3 g13 ?_
          refine lh_iinc (q := 2) (v := (v2 + 1)) (lv' := [(0, .ref (1 + 4)), (1, .int v1), (2, .int (v2 + 1))]) rfl rfl (congrArg (v2 + ·) (by decide)) rfl rfl ?_
          refine lh_goto rfl ?_
          exact ih v1 (v2 + 1) (lh_v2 L (3 + 4) v1.toNatClampNeg r11) _ hf x0_
        · have hf := lh_ifT hf c7
          refine lh_iinc (q := 1) (v := (v1 + 1)) (lv' := [(0, .ref (1 + 4)), (1, .int (v1 + 1)), (2, .int v2)]) rfl rfl (congrArg (v1 + ·) (by decide)) rfl rfl ?_
          refine lh_goto rfl ?_
          refine lh_iinc (q := 2) (v := (v2 + 1)) (lv' := [(0, .ref (1 + 4)), (1, .int (v1 + 1)), (2, .int (v2 + 1))]) rfl rfl (congrArg (v2 + ·) (by decide)) rfl rfl ?_
          refine lh_goto rfl ?_
          exact ih (v1 + 1) (v2 + 1) L _ hf x0_
