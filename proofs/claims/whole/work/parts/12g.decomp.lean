/-! decompiled by program: f_.. the functions, t_.. that the methods do as they say -/
def f_St_isLatin1 (i : Nat) : Option (Int32) := some 1
theorem t_St_isLatin1 {Γ : lh_Cx} {I : lh_II} {L : lh_LL} {F : lh_FF} {S : lh_SS} {K : Int32 → lh_Hp → Prop} {r : Int32} (hG : lh_GX Γ) (hS : lh_lay F S) {i : Nat} (hi : i < 2) (hf : f_St_isLatin1 i = some r) (hK : K r (I, L, F, S)) : lh_Met (lh_gs Γ i) m_St_isLatin1 0 0 0 [.ref (2 + i)] (I, L, F, S) (lh_ki K) := by
  rw [f_St_isLatin1] at hf
  refine lh_ofG k_St_isLatin1 [(0, .ref (2 + i))] rfl (Nat.le_of_ble_eq_true rfl) rfl ?_
  refine lh_gcs hG rfl rfl ?_
  refine lh_if_eq rfl (fun c => absurd c (by decide)) (fun _ => ?_)
  refine lh_aload_n (q := 0) rfl rfl rfl ?_
  refine lh_sgC hG hi rfl rfl ?_
  refine lh_if_ne rfl (fun c => absurd (by decide) c) (fun _ => ?_)
  refine lh_iconst rfl lh_k_1 ?_
  refine lh_goto rfl ?_
  exact lh_iret rfl rfl (by decide) (by obtain rfl := Option.some.inj hf; exact hK)
def f_St_coder (i : Nat) : Option (Int32) := some 0
theorem t_St_coder {Γ : lh_Cx} {I : lh_II} {L : lh_LL} {F : lh_FF} {S : lh_SS} {K : Int32 → lh_Hp → Prop} {r : Int32} (hG : lh_GX Γ) (hS : lh_lay F S) {i : Nat} (hi : i < 2) (hf : f_St_coder i = some r) (hK : K r (I, L, F, S)) : lh_Met (lh_gs Γ i) m_St_coder 0 0 0 [.ref (2 + i)] (I, L, F, S) (lh_ki K) := by
  rw [f_St_coder] at hf
  refine lh_ofG k_St_coder [(0, .ref (2 + i))] rfl (Nat.le_of_ble_eq_true rfl) rfl ?_
  refine lh_gcs hG rfl rfl ?_
  refine lh_if_eq rfl (fun c => absurd c (by decide)) (fun _ => ?_)
  refine lh_aload_n (q := 0) rfl rfl rfl ?_
  refine lh_sgC hG hi rfl rfl ?_
  refine lh_goto rfl ?_
  exact lh_iret rfl rfl (by decide) (by obtain rfl := Option.some.inj hf; exact hK)
def f_St_length (i : Nat) : Option (Int32) := lh_bd (f_St_coder i) fun r1 => some ((nI (lh_strl.getD i 0)) >>> (r1 &&& 31))
theorem t_St_length {Γ : lh_Cx} {I : lh_II} {L : lh_LL} {F : lh_FF} {S : lh_SS} {K : Int32 → lh_Hp → Prop} {r : Int32} (hG : lh_GX Γ) (hS : lh_lay F S) {i : Nat} (hi : i < 2) (hf : f_St_length i = some r) (hK : K r (I, L, F, S)) : lh_Met (lh_gs Γ i) m_St_length 1 0 0 [.ref (2 + i)] (I, L, F, S) (lh_ki K) := by
  rw [f_St_length] at hf
  refine lh_ofG k_St_length [(0, .ref (2 + i))] rfl (Nat.le_of_ble_eq_true rfl) rfl ?_
  refine lh_aload_n (q := 0) rfl rfl rfl ?_
  refine lh_sgV hG hi rfl rfl ?_
  refine lh_sln hG hi rfl ?_
  refine lh_aload_n (q := 0) rfl rfl rfl ?_
  refine lh_bdE hf (fun r1 e2 hf => ?_)
  refine lh_invVs (i := i) (N := m_St_coder) (d := 0) (As := []) (st := [.int (nI (lh_strl.getD i 0))]) hG hi rfl rfl v_St_coder rfl rfl rfl ⟨rfl, rfl⟩ rfl (t_St_coder hG hS hi e2 ?_)
  refine lh_ishr rfl ?_
  exact lh_iret rfl rfl rfl (by obtain rfl := Option.some.inj hf; exact hK)
def f_SL_canEncode (i : Nat) (x1 : Int32) : Option (Int32) := if x1 < 0 then some 0 else if 255 < x1 then some 0 else some 1
theorem t_SL_canEncode {Γ : lh_Cx} {I : lh_II} {L : lh_LL} {F : lh_FF} {S : lh_SS} {K : Int32 → lh_Hp → Prop} {r : Int32} (hG : lh_GX Γ) (hS : lh_lay F S) {i : Nat} (hi : i < 2) {x1 : Int32} (hf : f_SL_canEncode i x1 = some r) (hK : K r (I, L, F, S)) : lh_Met (lh_gs Γ i) m_SL_canEncode 0 0 0 [.int x1] (I, L, F, S) (lh_ki K) := by
  rw [f_SL_canEncode] at hf
  refine lh_ofG k_SL_canEncode [(0, .int x1)] rfl (Nat.le_of_ble_eq_true rfl) rfl ?_
  refine lh_iload_n (q := 0) rfl rfl rfl ?_
  refine lh_if_lt rfl (fun c1 => ?_) (fun c1 => ?_)
  · have hf := lh_ifT hf c1
    refine lh_iconst rfl lh_k_0 ?_
    exact lh_iret rfl rfl (by decide) (by obtain rfl := Option.some.inj hf; exact hK)
  · have hf := lh_ifF hf c1
    refine lh_iload_n (q := 0) rfl rfl rfl ?_
    refine lh_sipush rfl lh_s_255 ?_
    refine lh_icmp_gt rfl (fun c2 => ?_) (fun c2 => ?_)
    · have hf := lh_ifT hf c2
      refine lh_iconst rfl lh_k_0 ?_
      exact lh_iret rfl rfl (by decide) (by obtain rfl := Option.some.inj hf; exact hK)
    · have hf := lh_ifF hf c2
      refine lh_iconst rfl lh_k_1 ?_
      refine lh_goto rfl ?_
      exact lh_iret rfl rfl (by decide) (by obtain rfl := Option.some.inj hf; exact hK)
def f_SL_indexOfChar_5 (i : Nat) (v3 : Int32) (v4 : Int32) (I : lh_II) : Nat → Int32 → Option (Nat × Int32)
  | 0, _ => none
  | n + 1, v5 => if v3 ≤ v5 then some (1, v5) else lh_gd (lh_ix v5 (lh_strl.getD i 0)) (if ((lh_byt.getD i []).getD v5.toNatClampNeg 0) = v4 then some (0, v5) else f_SL_indexOfChar_5 i v3 v4 I n (v5 + 1))
def f_SL_indexOfChar (i : Nat) (x1 : Int32) (x2 : Int32) (x3 : Int32) (I : lh_II) : Option (Int32) := lh_bd (f_SL_indexOfChar_5 i x3 x1.toInt8.toInt32 I lh_fuel x2) fun r4 => if r4.1 = 0 then some r4.2 else some (-1)
theorem t_SL_indexOfChar_5 {Γ : lh_Cx} {F : lh_FF} {S : lh_SS} {Z : List Frame → Array Value → State → State → Prop} (hG : lh_GX Γ) (hS : lh_lay F S) {i : Nat} (hi : i < 2) {v3 : Int32} {v4 : Int32} {I : lh_II} {L : lh_LL} : ∀ (n : Nat) (v5 : Int32) (o : Nat × Int32), f_SL_indexOfChar_5 i v3 v4 I n v5 = some o → ∀ (x0_ : o.1 = 0 → lh_G (lh_gs Γ i) m_SL_indexOfChar (lh_R 0 0 0) Z 0 0 13 [(5, .int o.2)] [] (I, L, F, S)), ∀ (x1_ : o.1 = 1 → lh_G (lh_gs Γ i) m_SL_indexOfChar (lh_R 0 0 0) Z 0 0 17 [] [] (I, L, F, S)), lh_G (lh_gs Γ i) m_SL_indexOfChar (lh_R 0 0 0) Z 0 0 5 [(0, .ref 1), (3, .int v3), (4, .int v4), (5, .int v5)] [] (I, L, F, S) := by
  intro n
  induction n with
  | zero => intro v5 o hf; cases hf
  | succ n ih =>
    intro v5 o hf x0_ x1_
    rw [f_SL_indexOfChar_5] at hf
    refine lh_iload (q := 3) rfl rfl ?_
    refine lh_iload_n (q := 1) rfl rfl rfl ?_
    refine lh_icmp_ge rfl (fun c1 => ?_) (fun c1 => ?_)
    · have hf := lh_ifT hf c1
      exact lh_less [] rfl (by cases hf; exact x1_ rfl)
    · have hf := lh_ifF hf c1
      refine lh_aload_n (q := 0) rfl rfl rfl ?_
      refine lh_iload (q := 3) rfl rfl ?_
      obtain ⟨g2, hf⟩ := lh_gdE hf
      refine lh_sbl hG hi rfl g2 ?_
      refine lh_iload (q := 2) rfl rfl ?_
      refine lh_icmp_ne rfl (fun c3 => ?_) (fun c3 => ?_)
      · have hf := lh_ifF hf c3
        refine lh_iinc (q := 3) (v := (v5 + 1)) (lv' := [(0, .ref 1), (3, .int v3), (4, .int v4), (5, .int (v5 + 1))]) rfl rfl (congrArg (v5 + ·) (by decide)) rfl rfl ?_
        refine lh_goto rfl ?_
        exact ih (v5 + 1) _ hf x0_ x1_
      · have hf := lh_ifT hf c3
        exact lh_less [3] rfl (by cases hf; exact x0_ rfl)
theorem t_SL_indexOfChar {Γ : lh_Cx} {I : lh_II} {L : lh_LL} {F : lh_FF} {S : lh_SS} {K : Int32 → lh_Hp → Prop} {r : Int32} (hG : lh_GX Γ) (hS : lh_lay F S) {i : Nat} (hi : i < 2) {x1 : Int32} {x2 : Int32} {x3 : Int32} (hf : f_SL_indexOfChar i x1 x2 x3 I = some r) (hK : K r (I, L, F, S)) : lh_Met (lh_gs Γ i) m_SL_indexOfChar 0 0 0 [.ref 1, .int x1, .int x2, .int x3] (I, L, F, S) (lh_ki K) := by
  rw [f_SL_indexOfChar] at hf
  refine lh_ofG k_SL_indexOfChar [(0, .ref 1), (1, .int x1), (2, .int x2), (3, .int x3)] rfl (Nat.le_of_ble_eq_true rfl) rfl ?_
  refine lh_iload_n (q := 1) rfl rfl rfl ?_
  refine lh_i2b rfl ?_
  refine lh_istore (lv' := [(0, .ref 1), (1, .int x1), (2, .int x2), (3, .int x3), (4, .int x1.toInt8.toInt32)]) rfl rfl rfl ?_
  refine lh_iload_n (q := 2) rfl rfl rfl ?_
  refine lh_istore (lv' := [(0, .ref 1), (1, .int x1), (2, .int x2), (3, .int x3), (4, .int x1.toInt8.toInt32), (5, .int x2)]) rfl rfl rfl ?_
  refine lh_bdE hf (fun r4 e5 hf => ?_)
  refine lh_less [0, 3, 4, 5] rfl ?_
  refine t_SL_indexOfChar_5 hG hS hi _ x2 _ e5 (fun q0_ => ?_) (fun q1_ => ?_)
  · have hf := lh_ifT hf q0_
    refine lh_iload (q := 0) rfl rfl ?_
    exact lh_iret rfl rfl rfl (by obtain rfl := Option.some.inj hf; exact hK)
  · have hf := lh_ifF hf (by rw [q1_]; decide)
    refine lh_iconst rfl lh_k_m1 ?_
    exact lh_iret rfl rfl rfl (by obtain rfl := Option.some.inj hf; exact hK)
def f_SL_indexOf (i : Nat) (x1 : Int32) (x2 : Int32) (x3 : Int32) (I : lh_II) : Option (Int32) := lh_bd (f_SL_canEncode i x1) fun r1 => if r1 = 0 then some (-1) else if (if x2 < 0 then 0 else x2) < (if (nI (lh_strl.getD i 0)) < x3 then (nI (lh_strl.getD i 0)) else x3) then lh_bd (f_SL_indexOfChar i x1 (if x2 < 0 then 0 else x2) (if (nI (lh_strl.getD i 0)) < x3 then (nI (lh_strl.getD i 0)) else x3) I) fun r5 => some r5 else some (-1)
theorem t_SL_indexOf {Γ : lh_Cx} {I : lh_II} {L : lh_LL} {F : lh_FF} {S : lh_SS} {K : Int32 → lh_Hp → Prop} {r : Int32} (hG : lh_GX Γ) (hS : lh_lay F S) {i : Nat} (hi : i < 2) {x1 : Int32} {x2 : Int32} {x3 : Int32} (hf : f_SL_indexOf i x1 x2 x3 I = some r) (hK : K r (I, L, F, S)) : lh_Met (lh_gs Γ i) m_SL_indexOf 1 0 0 [.ref 1, .int x1, .int x2, .int x3] (I, L, F, S) (lh_ki K) := by
  rw [f_SL_indexOf] at hf
  refine lh_ofG k_SL_indexOf [(0, .ref 1), (1, .int x1), (2, .int x2), (3, .int x3)] rfl (Nat.le_of_ble_eq_true rfl) rfl ?_
  refine lh_iload_n (q := 1) rfl rfl rfl ?_
  refine lh_bdE hf (fun r1 e2 hf => ?_)
  refine lh_cSi (N := m_SL_canEncode) (d := 0) (As := [.int x1]) (st := []) rfl rfl v_SL_canEncode rfl rfl ⟨rfl, rfl⟩ rfl (t_SL_canEncode hG hS hi e2 ?_)
  refine lh_if_ne rfl (fun c3 => ?_) (fun c3 => ?_)
  · have hf := lh_ifF hf c3
    refine lh_iload_n (q := 2) rfl rfl rfl ?_
    refine lh_iconst rfl lh_k_0 ?_
    refine lh_max rfl rfl ⟨rfl, rfl⟩ rfl ?_
    refine lh_istore_n (lv' := [(0, .ref 1), (1, .int x1), (2, .int (if x2 < 0 then 0 else x2)), (3, .int x3)]) rfl rfl rfl rfl ?_
    refine lh_iload_n (q := 3) rfl rfl rfl ?_
    refine lh_aload_n (q := 0) rfl rfl rfl ?_
    refine lh_sln hG hi rfl ?_
    refine lh_min rfl rfl ⟨rfl, rfl⟩ rfl ?_
    refine lh_istore_n (lv' := [(0, .ref 1), (1, .int x1), (2, .int (if x2 < 0 then 0 else x2)), (3, .int (if (nI (lh_strl.getD i 0)) < x3 then (nI (lh_strl.getD i 0)) else x3))]) rfl rfl rfl rfl ?_
    refine lh_iload_n (q := 2) rfl rfl rfl ?_
    refine lh_iload_n (q := 3) rfl rfl rfl ?_
    refine lh_icmp_lt rfl (fun c4 => ?_) (fun c4 => ?_)
    · have hf := lh_ifT hf c4
      refine lh_aload_n (q := 0) rfl rfl rfl ?_
      refine lh_iload_n (q := 1) rfl rfl rfl ?_
      refine lh_iload_n (q := 2) rfl rfl rfl ?_
      refine lh_iload_n (q := 3) rfl rfl rfl ?_
      refine lh_bdE hf (fun r5 e6 hf => ?_)
      refine lh_cSi (N := m_SL_indexOfChar) (d := 0) (As := [.ref 1, .int x1, .int (if x2 < 0 then 0 else x2), .int (if (nI (lh_strl.getD i 0)) < x3 then (nI (lh_strl.getD i 0)) else x3)]) (st := []) rfl rfl v_SL_indexOfChar rfl rfl ⟨rfl, rfl⟩ rfl (t_SL_indexOfChar hG hS hi e6 ?_)
      exact lh_iret rfl rfl rfl (by obtain rfl := Option.some.inj hf; exact hK)
    · have hf := lh_ifF hf c4
      refine lh_iconst rfl lh_k_m1 ?_
      exact lh_iret rfl rfl rfl (by obtain rfl := Option.some.inj hf; exact hK)
  · have hf := lh_ifT hf c3
    refine lh_iconst rfl lh_k_m1 ?_
    exact lh_iret rfl rfl rfl (by obtain rfl := Option.some.inj hf; exact hK)
def f_St_indexOf2 (i : Nat) (x1 : Int32) (x2 : Int32) (I : lh_II) : Option (Int32) := lh_bd (f_St_isLatin1 i) fun r1 => if r1 = 0 then lh_bd (f_St_length i) fun r4 => none else lh_bd (f_St_length i) fun r6 => lh_bd (f_SL_indexOf i x1 x2 r6 I) fun r8 => some r8
theorem t_St_indexOf2 {Γ : lh_Cx} {I : lh_II} {L : lh_LL} {F : lh_FF} {S : lh_SS} {K : Int32 → lh_Hp → Prop} {r : Int32} (hG : lh_GX Γ) (hS : lh_lay F S) {i : Nat} (hi : i < 2) {x1 : Int32} {x2 : Int32} (hf : f_St_indexOf2 i x1 x2 I = some r) (hK : K r (I, L, F, S)) : lh_Met (lh_gs Γ i) m_St_indexOf2 2 0 0 [.ref (2 + i), .int x1, .int x2] (I, L, F, S) (lh_ki K) := by
  rw [f_St_indexOf2] at hf
  refine lh_ofG k_St_indexOf2 [(0, .ref (2 + i)), (1, .int x1), (2, .int x2)] rfl (Nat.le_of_ble_eq_true rfl) rfl ?_
  refine lh_aload_n (q := 0) rfl rfl rfl ?_
  refine lh_bdE hf (fun r1 e2 hf => ?_)
  refine lh_invVs (i := i) (N := m_St_isLatin1) (d := 0) (As := []) (st := []) hG hi rfl rfl v_St_isLatin1 rfl rfl rfl ⟨rfl, rfl⟩ rfl (t_St_isLatin1 hG hS hi e2 ?_)
  refine lh_if_eq rfl (fun c3 => ?_) (fun c3 => ?_)
  · have hf := lh_ifT hf c3
    refine lh_aload_n (q := 0) rfl rfl rfl ?_
    refine lh_sgV hG hi rfl rfl ?_
    refine lh_iload_n (q := 1) rfl rfl rfl ?_
    refine lh_iload_n (q := 2) rfl rfl rfl ?_
    refine lh_aload_n (q := 0) rfl rfl rfl ?_
    refine lh_bdE hf (fun r4 e5 hf => ?_)
    refine lh_invVs (i := i) (N := m_St_length) (d := 1) (As := []) (st := [.int x2, .int x1, .ref 1]) hG hi rfl rfl v_St_length rfl rfl rfl ⟨rfl, rfl⟩ rfl (t_St_length hG hS hi e5 ?_)
    cases hf
  · have hf := lh_ifF hf c3
    refine lh_aload_n (q := 0) rfl rfl rfl ?_
    refine lh_sgV hG hi rfl rfl ?_
    refine lh_iload_n (q := 1) rfl rfl rfl ?_
    refine lh_iload_n (q := 2) rfl rfl rfl ?_
    refine lh_aload_n (q := 0) rfl rfl rfl ?_
    refine lh_bdE hf (fun r6 e7 hf => ?_)
    refine lh_invVs (i := i) (N := m_St_length) (d := 1) (As := []) (st := [.int x2, .int x1, .ref 1]) hG hi rfl rfl v_St_length rfl rfl rfl ⟨rfl, rfl⟩ rfl (t_St_length hG hS hi e7 ?_)
    refine lh_bdE hf (fun r8 e9 hf => ?_)
    refine lh_cSi (N := m_SL_indexOf) (d := 1) (As := [.ref 1, .int x1, .int x2, .int r6]) (st := []) rfl rfl v_SL_indexOf rfl rfl ⟨rfl, rfl⟩ rfl (t_SL_indexOf hG hS hi e9 ?_)
    refine lh_goto rfl ?_
    exact lh_iret rfl rfl rfl (by obtain rfl := Option.some.inj hf; exact hK)
def f_St_indexOf1 (i : Nat) (x1 : Int32) (I : lh_II) : Option (Int32) := lh_bd (f_St_indexOf2 i x1 (0 : Int32) I) fun r1 => some r1
theorem t_St_indexOf1 {Γ : lh_Cx} {I : lh_II} {L : lh_LL} {F : lh_FF} {S : lh_SS} {K : Int32 → lh_Hp → Prop} {r : Int32} (hG : lh_GX Γ) (hS : lh_lay F S) {i : Nat} (hi : i < 2) {x1 : Int32} (hf : f_St_indexOf1 i x1 I = some r) (hK : K r (I, L, F, S)) : lh_Met (lh_gs Γ i) m_St_indexOf1 3 0 0 [.ref (2 + i), .int x1] (I, L, F, S) (lh_ki K) := by
  rw [f_St_indexOf1] at hf
  refine lh_ofG k_St_indexOf1 [(0, .ref (2 + i)), (1, .int x1)] rfl (Nat.le_of_ble_eq_true rfl) rfl ?_
  refine lh_aload_n (q := 0) rfl rfl rfl ?_
  refine lh_iload_n (q := 1) rfl rfl rfl ?_
  refine lh_iconst rfl lh_k_0 ?_
  refine lh_bdE hf (fun r1 e2 hf => ?_)
  refine lh_invVs (i := i) (N := m_St_indexOf2) (d := 2) (As := [.int x1, .int 0]) (st := []) hG hi rfl rfl v_St_indexOf2 rfl rfl rfl ⟨rfl, rfl⟩ rfl (t_St_indexOf2 hG hS hi e2 ?_)
  exact lh_iret rfl rfl rfl (by obtain rfl := Option.some.inj hf; exact hK)
def f_Arr_fill_5 (w : Nat) (nw : Nat) (v1 : Int64) (v4 : Int32) : Nat → Int32 → lh_LL → Option (lh_LL)
  | 0, _, _ => none
  | n + 1, v3, L => if v4 ≤ v3 then some L else lh_gd (lh_ix v3 nw) (f_Arr_fill_5 w nw v1 v4 n (v3 + 1) (lh_v2 L (w + 4) v3.toNatClampNeg v1))
def f_Arr_fill (w : Nat) (nw : Nat) (x1 : Int64) (L : lh_LL) : Option (lh_LL) := lh_bd (f_Arr_fill_5 w nw x1 (nI nw) lh_fuel 0 L) fun r3 => some r3
theorem t_Arr_fill_5 {Γ : lh_Cx} {F : lh_FF} {S : lh_SS} {Z : List Frame → Array Value → State → State → Prop} (hG : lh_GX Γ) (hS : lh_lay F S) {w nw : Nat} (hw : S[w]? = some (1, nw)) {v1 : Int64} {v4 : Int32} {I : lh_II} : ∀ (n : Nat) (v3 : Int32) (L : lh_LL) (o : lh_LL), f_Arr_fill_5 w nw v1 v4 n v3 L = some o → ∀ (x0_ : lh_G Γ m_Arr_fill (lh_R 0 0 0) Z 0 0 14 [] [] (I, o, F, S)), lh_G Γ m_Arr_fill (lh_R 0 0 0) Z 0 0 5 [(0, .ref (w + 4)), (1, .long v1), (3, .int v3), (4, .int v4)] [] (I, L, F, S) := by
  intro n
  induction n with
  | zero => intro v3 L o hf; cases hf
  | succ n ih =>
    intro v3 L o hf x0_
    rw [f_Arr_fill_5] at hf
    refine lh_iload_n (q := 2) rfl rfl rfl ?_
    refine lh_iload (q := 3) rfl rfl ?_
    refine lh_icmp_ge rfl (fun c1 => ?_) (fun c1 => ?_)
    · have hf := lh_ifT hf c1
      exact lh_less [] rfl (by cases hf; exact x0_)
    · have hf := lh_ifF hf c1
      refine lh_aload_n (q := 0) rfl rfl rfl ?_
      refine lh_iload_n (q := 2) rfl rfl rfl ?_
      refine lh_lload_n (q := 1) rfl rfl rfl ?_
      obtain ⟨g2, hf⟩ := lh_gdE hf
      refine lh_last4 rfl hw g2 ?_
      refine lh_iinc (q := 2) (v := (v3 + 1)) (lv' := [(0, .ref (w + 4)), (1, .long v1), (3, .int (v3 + 1)), (4, .int v4)]) rfl rfl (congrArg (v3 + ·) (by decide)) rfl rfl ?_
      refine lh_goto rfl ?_
      exact ih (v3 + 1) (lh_v2 L (w + 4) v3.toNatClampNeg v1) _ hf x0_
theorem t_Arr_fill {Γ : lh_Cx} {I : lh_II} {L : lh_LL} {F : lh_FF} {S : lh_SS} {K : lh_Hp → Prop} {r : lh_LL} (hG : lh_GX Γ) (hS : lh_lay F S) {w nw : Nat} (hw : S[w]? = some (1, nw)) {x1 : Int64} (hf : f_Arr_fill w nw x1 L = some r) (hK : K (I, r, F, S)) : lh_Met Γ m_Arr_fill 0 0 0 [.ref (w + 4), .long x1] (I, L, F, S) (lh_kv K) := by
  rw [f_Arr_fill] at hf
  refine lh_ofG k_Arr_fill [(0, .ref (w + 4)), (1, .long x1)] rfl (Nat.le_of_ble_eq_true rfl) rfl ?_
  refine lh_iconst rfl lh_k_0 ?_
  refine lh_istore_n (lv' := [(0, .ref (w + 4)), (1, .long x1), (3, .int 0)]) rfl rfl rfl rfl ?_
  refine lh_aload_n (q := 0) rfl rfl rfl ?_
  refine lh_alen (v := nI nw) rfl hw (by decide) rfl ?_
  refine lh_istore (lv' := [(0, .ref (w + 4)), (1, .long x1), (3, .int 0), (4, .int (nI nw))]) rfl rfl rfl ?_
  refine lh_bdE hf (fun r3 e4 hf => ?_)
  refine t_Arr_fill_5 hG hS hw _ 0 L _ e4 ?_
  exact lh_vret rfl rfl (by obtain rfl := Option.some.inj hf; exact hK)
def f_Ha_allCells (a : Nat) (I : lh_II) : Option (Int32) := some (((1 : Int32) <<< ((I (a + 4) 9) &&& 31)) - 1)
theorem t_Ha_allCells {Γ : lh_Cx} {I : lh_II} {L : lh_LL} {F : lh_FF} {S : lh_SS} {K : Int32 → lh_Hp → Prop} {r : Int32} (hG : lh_GX Γ) (hS : lh_lay F S) {a : Nat} (ha : lh_hl F S a) (hf : f_Ha_allCells a I = some r) (hK : K r (I, L, F, S)) : lh_Met Γ m_Ha_allCells 0 0 0 [.ref (a + 4)] (I, L, F, S) (lh_ki K) := by
  rw [f_Ha_allCells] at hf
  refine lh_ofG k_Ha_allCells [(0, .ref (a + 4))] rfl (Nat.le_of_ble_eq_true rfl) rfl ?_
  refine lh_iconst rfl lh_k_1 ?_
  refine lh_aload_n (q := 0) rfl rfl rfl ?_
  refine lh_getI4 rfl rfl (ha.1 0 _ rfl) rfl ?_
  refine lh_ishl rfl ?_
  refine lh_iconst rfl lh_k_1 ?_
  refine lh_isub rfl ?_
  exact lh_iret rfl rfl rfl (by obtain rfl := Option.some.inj hf; exact hK)
def f_Ha_hasVisitor (a : Nat) (x1 : Int32) (I : lh_II) : Option (Int32) := if x1 < 0 then some 0 else if (I (a + 4) 11) ≤ x1 then some 0 else some 1
theorem t_Ha_hasVisitor {Γ : lh_Cx} {I : lh_II} {L : lh_LL} {F : lh_FF} {S : lh_SS} {K : Int32 → lh_Hp → Prop} {r : Int32} (hG : lh_GX Γ) (hS : lh_lay F S) {a : Nat} (ha : lh_hl F S a) {x1 : Int32} (hf : f_Ha_hasVisitor a x1 I = some r) (hK : K r (I, L, F, S)) : lh_Met Γ m_Ha_hasVisitor 0 0 0 [.ref (a + 4), .int x1] (I, L, F, S) (lh_ki K) := by
  rw [f_Ha_hasVisitor] at hf
  refine lh_ofG k_Ha_hasVisitor [(0, .ref (a + 4)), (1, .int x1)] rfl (Nat.le_of_ble_eq_true rfl) rfl ?_
  refine lh_iload_n (q := 1) rfl rfl rfl ?_
  refine lh_if_lt rfl (fun c1 => ?_) (fun c1 => ?_)
  · have hf := lh_ifT hf c1
    refine lh_iconst rfl lh_k_0 ?_
    exact lh_iret rfl rfl (by decide) (by obtain rfl := Option.some.inj hf; exact hK)
  · have hf := lh_ifF hf c1
    refine lh_iload_n (q := 1) rfl rfl rfl ?_
    refine lh_aload_n (q := 0) rfl rfl rfl ?_
    refine lh_getI4 rfl rfl (ha.1 0 _ rfl) rfl ?_
    refine lh_icmp_ge rfl (fun c2 => ?_) (fun c2 => ?_)
    · have hf := lh_ifT hf c2
      refine lh_iconst rfl lh_k_0 ?_
      exact lh_iret rfl rfl (by decide) (by obtain rfl := Option.some.inj hf; exact hK)
    · have hf := lh_ifF hf c2
      refine lh_iconst rfl lh_k_1 ?_
      refine lh_goto rfl ?_
      exact lh_iret rfl rfl (by decide) (by obtain rfl := Option.some.inj hf; exact hK)
def f_LH_isHour (x1 : Int32) : Option (Int32) := if x1 < 0 then some 0 else if 8 ≤ x1 then some 0 else some 1
theorem t_LH_isHour {Γ : lh_Cx} {I : lh_II} {L : lh_LL} {F : lh_FF} {S : lh_SS} {K : Int32 → lh_Hp → Prop} {r : Int32} (hG : lh_GX Γ) (hS : lh_lay F S)  {x1 : Int32} (hf : f_LH_isHour x1 = some r) (hK : K r (I, L, F, S)) : lh_Met Γ m_LH_isHour 0 0 0 [.int x1] (I, L, F, S) (lh_ki K) := by
  rw [f_LH_isHour] at hf
  refine lh_ofG k_LH_isHour [(0, .int x1)] rfl (Nat.le_of_ble_eq_true rfl) rfl ?_
  refine lh_iload_n (q := 0) rfl rfl rfl ?_
  refine lh_if_lt rfl (fun c1 => ?_) (fun c1 => ?_)
  · have hf := lh_ifT hf c1
    refine lh_iconst rfl lh_k_0 ?_
    exact lh_iret rfl rfl (by decide) (by obtain rfl := Option.some.inj hf; exact hK)
  · have hf := lh_ifF hf c1
    refine lh_iload_n (q := 0) rfl rfl rfl ?_
    refine lh_bipush rfl lh_b_8 ?_
    refine lh_icmp_ge rfl (fun c2 => ?_) (fun c2 => ?_)
    · have hf := lh_ifT hf c2
      refine lh_iconst rfl lh_k_0 ?_
      exact lh_iret rfl rfl (by decide) (by obtain rfl := Option.some.inj hf; exact hK)
    · have hf := lh_ifF hf c2
      refine lh_iconst rfl lh_k_1 ?_
      refine lh_goto rfl ?_
      exact lh_iret rfl rfl (by decide) (by obtain rfl := Option.some.inj hf; exact hK)
def f_Ha_placeOf (a : Nat) (x1 : Int32) (x2 : Int32) (I : lh_II) : Option (Int32) := lh_bd (f_Ha_hasVisitor a x1 I) fun r1 => if r1 = 0 then some (-1) else lh_bd (f_LH_isHour x2) fun r4 => if r4 = 0 then some (-1) else lh_gd (lh_ix ((x1 * 8) + x2) 48) (some (I (a + 7 + 4) ((x1 * 8) + x2).toNatClampNeg))
theorem t_Ha_placeOf {Γ : lh_Cx} {I : lh_II} {L : lh_LL} {F : lh_FF} {S : lh_SS} {K : Int32 → lh_Hp → Prop} {r : Int32} (hG : lh_GX Γ) (hS : lh_lay F S) {a : Nat} (ha : lh_hl F S a) {x1 : Int32} {x2 : Int32} (hf : f_Ha_placeOf a x1 x2 I = some r) (hK : K r (I, L, F, S)) : lh_Met Γ m_Ha_placeOf 1 0 0 [.ref (a + 4), .int x1, .int x2] (I, L, F, S) (lh_ki K) := by
  rw [f_Ha_placeOf] at hf
  refine lh_ofG k_Ha_placeOf [(0, .ref (a + 4)), (1, .int x1), (2, .int x2)] rfl (Nat.le_of_ble_eq_true rfl) rfl ?_
  refine lh_aload_n (q := 0) rfl rfl rfl ?_
  refine lh_iload_n (q := 1) rfl rfl rfl ?_
  refine lh_bdE hf (fun r1 e2 hf => ?_)
  refine lh_cVi (N := m_Ha_hasVisitor) (d := 0) (o := a) (As := [.int x1]) (st := []) rfl rfl v_Ha_hasVisitor (ha.1 0 _ rfl) rfl rfl rfl ⟨rfl, rfl⟩ rfl (t_Ha_hasVisitor hG hS ha e2 ?_)
  refine lh_if_eq rfl (fun c3 => ?_) (fun c3 => ?_)
  · have hf := lh_ifT hf c3
    refine lh_iconst rfl lh_k_m1 ?_
    exact lh_iret rfl rfl rfl (by obtain rfl := Option.some.inj hf; exact hK)
  · have hf := lh_ifF hf c3
    refine lh_iload_n (q := 2) rfl rfl rfl ?_
    refine lh_bdE hf (fun r4 e5 hf => ?_)
    refine lh_cSNi (N := m_LH_isHour) (d := 0) (host := "LanternHall") (As := [.int x2]) (st := []) rfl (fun U hU => (hG U hU).1) v_LH_isHour rfl rfl ⟨rfl, rfl⟩ rfl (t_LH_isHour hG hS e5 ?_)
    refine lh_if_eq rfl (fun c6 => ?_) (fun c6 => ?_)
    · have hf := lh_ifT hf c6
      refine lh_iconst rfl lh_k_m1 ?_
      exact lh_iret rfl rfl rfl (by obtain rfl := Option.some.inj hf; exact hK)
    · have hf := lh_ifF hf c6
      refine lh_aload_n (q := 0) rfl rfl rfl ?_
      refine lh_getR4 rfl rfl (ha.1 0 _ rfl) rfl (ha.2 6 _ rfl) ?_
      refine lh_iload_n (q := 1) rfl rfl rfl ?_
      refine lh_bipush rfl lh_b_8 ?_
      refine lh_imul rfl ?_
      refine lh_iload_n (q := 2) rfl rfl rfl ?_
      refine lh_iadd rfl ?_
      obtain ⟨g7, hf⟩ := lh_gdE hf
      refine lh_iald4 rfl (ha.1 7 _ rfl) g7 ?_
      refine lh_goto rfl ?_
      exact lh_iret rfl rfl rfl (by obtain rfl := Option.some.inj hf; exact hK)
def f_Ha_cellsWithSomebody_4 (a : Nat) (v1 : Int32) (v2 : Int32) (I : lh_II) : Nat → Int32 → Int32 → Option (Int32)
  | 0, _, _ => none
  | n + 1, v3, v4 => if (I (a + 4) 11) ≤ v4 then some v3 else lh_bd (f_Ha_placeOf a v4 v2 I) fun r2 => lh_gd (lh_ix v4 6) (if (I (a + 5 + 4) v4.toNatClampNeg) = v1 then if r2 = (-1) then f_Ha_cellsWithSomebody_4 a v1 v2 I n v3 (v4 + 1) else f_Ha_cellsWithSomebody_4 a v1 v2 I n (v3 ||| ((1 : Int32) <<< (r2 &&& 31))) (v4 + 1) else f_Ha_cellsWithSomebody_4 a v1 v2 I n v3 (v4 + 1))
def f_Ha_cellsWithSomebody (a : Nat) (x1 : Int32) (x2 : Int32) (I : lh_II) : Option (Int32) := lh_bd (f_Ha_cellsWithSomebody_4 a x1 x2 I lh_fuel 0 0) fun r7 => some r7
theorem t_Ha_cellsWithSomebody_4 {Γ : lh_Cx} {F : lh_FF} {S : lh_SS} {Z : List Frame → Array Value → State → State → Prop} (hG : lh_GX Γ) (hS : lh_lay F S) {a : Nat} (ha : lh_hl F S a) {v1 : Int32} {v2 : Int32} {I : lh_II} {L : lh_LL} : ∀ (n : Nat) (v3 : Int32) (v4 : Int32) (o : Int32), f_Ha_cellsWithSomebody_4 a v1 v2 I n v3 v4 = some o → ∀ (x0_ : lh_G Γ m_Ha_cellsWithSomebody (lh_R 2 0 0) Z 0 0 30 [(3, .int o)] [] (I, L, F, S)), lh_G Γ m_Ha_cellsWithSomebody (lh_R 2 0 0) Z 0 0 4 [(0, .ref (a + 4)), (1, .int v1), (2, .int v2), (3, .int v3), (4, .int v4)] [] (I, L, F, S) := by
  intro n
  induction n with
  | zero => intro v3 v4 o hf; cases hf
  | succ n ih =>
    intro v3 v4 o hf x0_
    rw [f_Ha_cellsWithSomebody_4] at hf
    refine lh_iload (q := 4) rfl rfl ?_
    refine lh_aload_n (q := 0) rfl rfl rfl ?_
    refine lh_getI4 rfl rfl (ha.1 0 _ rfl) rfl ?_
    refine lh_icmp_ge rfl (fun c1 => ?_) (fun c1 => ?_)
    · have hf := lh_ifT hf c1
      exact lh_less [3] rfl (by cases hf; exact x0_)
    · have hf := lh_ifF hf c1
      refine lh_aload_n (q := 0) rfl rfl rfl ?_
      refine lh_iload (q := 4) rfl rfl ?_
      refine lh_iload_n (q := 2) rfl rfl rfl ?_
      refine lh_bdE hf (fun r2 e3 hf => ?_)
      refine lh_cVi (N := m_Ha_placeOf) (d := 1) (o := a) (As := [.int v4, .int v2]) (st := []) rfl rfl v_Ha_placeOf (ha.1 0 _ rfl) rfl rfl rfl ⟨rfl, rfl⟩ rfl (t_Ha_placeOf hG hS ha e3 ?_)
      refine lh_istore (lv' := [(0, .ref (a + 4)), (1, .int v1), (2, .int v2), (3, .int v3), (4, .int v4), (5, .int r2)]) rfl rfl rfl ?_
      refine lh_aload_n (q := 0) rfl rfl rfl ?_
      refine lh_getR4 rfl rfl (ha.1 0 _ rfl) rfl (ha.2 4 _ rfl) ?_
      refine lh_iload (q := 4) rfl rfl ?_
      obtain ⟨g4, hf⟩ := lh_gdE hf
      refine lh_iald4 rfl (ha.1 5 _ rfl) g4 ?_
      refine lh_iload_n (q := 1) rfl rfl rfl ?_
      refine lh_icmp_ne rfl (fun c5 => ?_) (fun c5 => ?_)
      · have hf := lh_ifF hf c5
        refine lh_iinc (q := 4) (v := (v4 + 1)) (lv' := [(0, .ref (a + 4)), (1, .int v1), (2, .int v2), (3, .int v3), (4, .int (v4 + 1)), (5, .int r2)]) rfl rfl (congrArg (v4 + ·) (by decide)) rfl rfl ?_
        refine lh_goto rfl ?_
        refine lh_less [0, 1, 2, 3, 4] rfl ?_
        exact ih v3 (v4 + 1) _ hf x0_
      · have hf := lh_ifT hf c5
        refine lh_iload (q := 5) rfl rfl ?_
        refine lh_iconst rfl lh_k_m1 ?_
        refine lh_icmp_eq rfl (fun c6 => ?_) (fun c6 => ?_)
        · have hf := lh_ifT hf c6
          refine lh_iinc (q := 4) (v := (v4 + 1)) (lv' := [(0, .ref (a + 4)), (1, .int v1), (2, .int v2), (3, .int v3), (4, .int (v4 + 1)), (5, .int r2)]) rfl rfl (congrArg (v4 + ·) (by decide)) rfl rfl ?_
          refine lh_goto rfl ?_
          refine lh_less [0, 1, 2, 3, 4] rfl ?_
          exact ih v3 (v4 + 1) _ hf x0_
        · have hf := lh_ifF hf c6
          refine lh_iload_n (q := 3) rfl rfl rfl ?_
          refine lh_iconst rfl lh_k_1 ?_
          refine lh_iload (q := 5) rfl rfl ?_
          refine lh_ishl rfl ?_
          refine lh_ior rfl ?_
          refine lh_istore_n (lv' := [(0, .ref (a + 4)), (1, .int v1), (2, .int v2), (3, .int (v3 ||| ((1 : Int32) <<< (r2 &&& 31)))), (4, .int v4), (5, .int r2)]) rfl rfl rfl rfl ?_
          refine lh_iinc (q := 4) (v := (v4 + 1)) (lv' := [(0, .ref (a + 4)), (1, .int v1), (2, .int v2), (3, .int (v3 ||| ((1 : Int32) <<< (r2 &&& 31)))), (4, .int (v4 + 1)), (5, .int r2)]) rfl rfl (congrArg (v4 + ·) (by decide)) rfl rfl ?_
          refine lh_goto rfl ?_
          refine lh_less [0, 1, 2, 3, 4] rfl ?_
          exact ih (v3 ||| ((1 : Int32) <<< (r2 &&& 31))) (v4 + 1) _ hf x0_
theorem t_Ha_cellsWithSomebody {Γ : lh_Cx} {I : lh_II} {L : lh_LL} {F : lh_FF} {S : lh_SS} {K : Int32 → lh_Hp → Prop} {r : Int32} (hG : lh_GX Γ) (hS : lh_lay F S) {a : Nat} (ha : lh_hl F S a) {x1 : Int32} {x2 : Int32} (hf : f_Ha_cellsWithSomebody a x1 x2 I = some r) (hK : K r (I, L, F, S)) : lh_Met Γ m_Ha_cellsWithSomebody 2 0 0 [.ref (a + 4), .int x1, .int x2] (I, L, F, S) (lh_ki K) := by
  rw [f_Ha_cellsWithSomebody] at hf
  refine lh_ofG k_Ha_cellsWithSomebody [(0, .ref (a + 4)), (1, .int x1), (2, .int x2)] rfl (Nat.le_of_ble_eq_true rfl) rfl ?_
  refine lh_iconst rfl lh_k_0 ?_
  refine lh_istore_n (lv' := [(0, .ref (a + 4)), (1, .int x1), (2, .int x2), (3, .int 0)]) rfl rfl rfl rfl ?_
  refine lh_iconst rfl lh_k_0 ?_
  refine lh_istore (lv' := [(0, .ref (a + 4)), (1, .int x1), (2, .int x2), (3, .int 0), (4, .int 0)]) rfl rfl rfl ?_
  refine lh_bdE hf (fun r7 e8 hf => ?_)
  refine t_Ha_cellsWithSomebody_4 hG hS ha _ 0 0 _ e8 ?_
  refine lh_iload_n (q := 0) rfl rfl rfl ?_
  exact lh_iret rfl rfl rfl (by obtain rfl := Option.some.inj hf; exact hK)
def f_Ha_areAlike_2 (a : Nat) (v1 : Int32) (v2 : Int32) (I : lh_II) : Nat → Int32 → Option (Nat)
  | 0, _ => none
  | n + 1, v3 => if 8 ≤ v3 then some 1 else lh_bd (f_Ha_cellsWithSomebody a v1 v3 I) fun r2 => lh_bd (f_Ha_cellsWithSomebody a v2 v3 I) fun r4 => if r2 = r4 then f_Ha_areAlike_2 a v1 v2 I n (v3 + 1) else some 0
def f_Ha_areAlike (a : Nat) (x1 : Int32) (x2 : Int32) (I : lh_II) : Option (Int32) := lh_bd (f_Ha_areAlike_2 a x1 x2 I lh_fuel 0) fun r7 => if r7 = 0 then some 0 else some 1
theorem t_Ha_areAlike_2 {Γ : lh_Cx} {F : lh_FF} {S : lh_SS} {Z : List Frame → Array Value → State → State → Prop} (hG : lh_GX Γ) (hS : lh_lay F S) {a : Nat} (ha : lh_hl F S a) {v1 : Int32} {v2 : Int32} {I : lh_II} {L : lh_LL} : ∀ (n : Nat) (v3 : Int32) (o : Nat), f_Ha_areAlike_2 a v1 v2 I n v3 = some o → ∀ (x0_ : o = 0 → lh_G Γ m_Ha_areAlike (lh_R 3 0 0) Z 0 0 14 [] [] (I, L, F, S)), ∀ (x1_ : o = 1 → lh_G Γ m_Ha_areAlike (lh_R 3 0 0) Z 0 0 18 [] [] (I, L, F, S)), lh_G Γ m_Ha_areAlike (lh_R 3 0 0) Z 0 0 2 [(0, .ref (a + 4)), (1, .int v1), (2, .int v2), (3, .int v3)] [] (I, L, F, S) := by
  intro n
  induction n with
  | zero => intro v3 o hf; cases hf
  | succ n ih =>
    intro v3 o hf x0_ x1_
    rw [f_Ha_areAlike_2] at hf
    refine lh_iload_n (q := 3) rfl rfl rfl ?_
    refine lh_bipush rfl lh_b_8 ?_
    refine lh_icmp_ge rfl (fun c1 => ?_) (fun c1 => ?_)
    · have hf := lh_ifT hf c1
      exact lh_less [] rfl (by cases hf; exact x1_ rfl)
    · have hf := lh_ifF hf c1
      refine lh_aload_n (q := 0) rfl rfl rfl ?_
      refine lh_iload_n (q := 1) rfl rfl rfl ?_
      refine lh_iload_n (q := 3) rfl rfl rfl ?_
      refine lh_bdE hf (fun r2 e3 hf => ?_)
      refine lh_cVi (N := m_Ha_cellsWithSomebody) (d := 2) (o := a) (As := [.int v1, .int v3]) (st := []) rfl rfl v_Ha_cellsWithSomebody (ha.1 0 _ rfl) rfl rfl rfl ⟨rfl, rfl⟩ rfl (t_Ha_cellsWithSomebody hG hS ha e3 ?_)
      refine lh_aload_n (q := 0) rfl rfl rfl ?_
      refine lh_iload_n (q := 2) rfl rfl rfl ?_
      refine lh_iload_n (q := 3) rfl rfl rfl ?_
      refine lh_bdE hf (fun r4 e5 hf => ?_)
      refine lh_cVi (N := m_Ha_cellsWithSomebody) (d := 2) (o := a) (As := [.int v2, .int v3]) (st := [.int r2]) rfl rfl v_Ha_cellsWithSomebody (ha.1 0 _ rfl) rfl rfl rfl ⟨rfl, rfl⟩ rfl (t_Ha_cellsWithSomebody hG hS ha e5 ?_)
      refine lh_icmp_eq rfl (fun c6 => ?_) (fun c6 => ?_)
      · have hf := lh_ifT hf c6
        refine lh_iinc (q := 3) (v := (v3 + 1)) (lv' := [(0, .ref (a + 4)), (1, .int v1), (2, .int v2), (3, .int (v3 + 1))]) rfl rfl (congrArg (v3 + ·) (by decide)) rfl rfl ?_
        refine lh_goto rfl ?_
        exact ih (v3 + 1) _ hf x0_ x1_
      · have hf := lh_ifF hf c6
        exact lh_less [] rfl (by cases hf; exact x0_ rfl)
theorem t_Ha_areAlike {Γ : lh_Cx} {I : lh_II} {L : lh_LL} {F : lh_FF} {S : lh_SS} {K : Int32 → lh_Hp → Prop} {r : Int32} (hG : lh_GX Γ) (hS : lh_lay F S) {a : Nat} (ha : lh_hl F S a) {x1 : Int32} {x2 : Int32} (hf : f_Ha_areAlike a x1 x2 I = some r) (hK : K r (I, L, F, S)) : lh_Met Γ m_Ha_areAlike 3 0 0 [.ref (a + 4), .int x1, .int x2] (I, L, F, S) (lh_ki K) := by
  rw [f_Ha_areAlike] at hf
  refine lh_ofG k_Ha_areAlike [(0, .ref (a + 4)), (1, .int x1), (2, .int x2)] rfl (Nat.le_of_ble_eq_true rfl) rfl ?_
  refine lh_iconst rfl lh_k_0 ?_
  refine lh_istore_n (lv' := [(0, .ref (a + 4)), (1, .int x1), (2, .int x2), (3, .int 0)]) rfl rfl rfl rfl ?_
  refine lh_bdE hf (fun r7 e8 hf => ?_)
  refine t_Ha_areAlike_2 hG hS ha _ 0 _ e8 (fun q0_ => ?_) (fun q1_ => ?_)
  · have hf := lh_ifT hf q0_
    refine lh_iconst rfl lh_k_0 ?_
    exact lh_iret rfl rfl (by decide) (by obtain rfl := Option.some.inj hf; exact hK)
  · have hf := lh_ifF hf (by rw [q1_]; decide)
    refine lh_iconst rfl lh_k_1 ?_
    exact lh_iret rfl rfl (by decide) (by obtain rfl := Option.some.inj hf; exact hK)
def f_Ha_areTwoOfOneDay (a : Nat) (x1 : Int32) (x2 : Int32) (I : lh_II) : Option (Int32) := lh_bd (f_Ha_hasVisitor a x1 I) fun r1 => if r1 = 0 then some 0 else lh_bd (f_Ha_hasVisitor a x2 I) fun r4 => if r4 = 0 then some 0 else if x1 = x2 then some 0 else lh_gd (lh_ix x1 6) (lh_gd (lh_ix x2 6) (if (I (a + 5 + 4) x1.toNatClampNeg) = (I (a + 5 + 4) x2.toNatClampNeg) then some 1 else some 0))
theorem t_Ha_areTwoOfOneDay {Γ : lh_Cx} {I : lh_II} {L : lh_LL} {F : lh_FF} {S : lh_SS} {K : Int32 → lh_Hp → Prop} {r : Int32} (hG : lh_GX Γ) (hS : lh_lay F S) {a : Nat} (ha : lh_hl F S a) {x1 : Int32} {x2 : Int32} (hf : f_Ha_areTwoOfOneDay a x1 x2 I = some r) (hK : K r (I, L, F, S)) : lh_Met Γ m_Ha_areTwoOfOneDay 1 0 0 [.ref (a + 4), .int x1, .int x2] (I, L, F, S) (lh_ki K) := by
  rw [f_Ha_areTwoOfOneDay] at hf
  refine lh_ofG k_Ha_areTwoOfOneDay [(0, .ref (a + 4)), (1, .int x1), (2, .int x2)] rfl (Nat.le_of_ble_eq_true rfl) rfl ?_
  refine lh_aload_n (q := 0) rfl rfl rfl ?_
  refine lh_iload_n (q := 1) rfl rfl rfl ?_
  refine lh_bdE hf (fun r1 e2 hf => ?_)
  refine lh_cVi (N := m_Ha_hasVisitor) (d := 0) (o := a) (As := [.int x1]) (st := []) rfl rfl v_Ha_hasVisitor (ha.1 0 _ rfl) rfl rfl rfl ⟨rfl, rfl⟩ rfl (t_Ha_hasVisitor hG hS ha e2 ?_)
  refine lh_if_eq rfl (fun c3 => ?_) (fun c3 => ?_)
  · have hf := lh_ifT hf c3
    refine lh_iconst rfl lh_k_0 ?_
    exact lh_iret rfl rfl (by decide) (by obtain rfl := Option.some.inj hf; exact hK)
  · have hf := lh_ifF hf c3
    refine lh_aload_n (q := 0) rfl rfl rfl ?_
    refine lh_iload_n (q := 2) rfl rfl rfl ?_
    refine lh_bdE hf (fun r4 e5 hf => ?_)
    refine lh_cVi (N := m_Ha_hasVisitor) (d := 0) (o := a) (As := [.int x2]) (st := []) rfl rfl v_Ha_hasVisitor (ha.1 0 _ rfl) rfl rfl rfl ⟨rfl, rfl⟩ rfl (t_Ha_hasVisitor hG hS ha e5 ?_)
    refine lh_if_eq rfl (fun c6 => ?_) (fun c6 => ?_)
    · have hf := lh_ifT hf c6
      refine lh_iconst rfl lh_k_0 ?_
      exact lh_iret rfl rfl (by decide) (by obtain rfl := Option.some.inj hf; exact hK)
    · have hf := lh_ifF hf c6
      refine lh_iload_n (q := 1) rfl rfl rfl ?_
      refine lh_iload_n (q := 2) rfl rfl rfl ?_
      refine lh_icmp_eq rfl (fun c7 => ?_) (fun c7 => ?_)
      · have hf := lh_ifT hf c7
        refine lh_iconst rfl lh_k_0 ?_
        exact lh_iret rfl rfl (by decide) (by obtain rfl := Option.some.inj hf; exact hK)
      · have hf := lh_ifF hf c7
        refine lh_aload_n (q := 0) rfl rfl rfl ?_
        refine lh_getR4 rfl rfl (ha.1 0 _ rfl) rfl (ha.2 4 _ rfl) ?_
        refine lh_iload_n (q := 1) rfl rfl rfl ?_
        obtain ⟨g8, hf⟩ := lh_gdE hf
        refine lh_iald4 rfl (ha.1 5 _ rfl) g8 ?_
        refine lh_aload_n (q := 0) rfl rfl rfl ?_
        refine lh_getR4 rfl rfl (ha.1 0 _ rfl) rfl (ha.2 4 _ rfl) ?_
        refine lh_iload_n (q := 2) rfl rfl rfl ?_
        obtain ⟨g9, hf⟩ := lh_gdE hf
        refine lh_iald4 rfl (ha.1 5 _ rfl) g9 ?_
        refine lh_icmp_ne rfl (fun c10 => ?_) (fun c10 => ?_)
        · have hf := lh_ifF hf c10
          refine lh_iconst rfl lh_k_0 ?_
          exact lh_iret rfl rfl (by decide) (by obtain rfl := Option.some.inj hf; exact hK)
        · have hf := lh_ifT hf c10
          refine lh_iconst rfl lh_k_1 ?_
          refine lh_goto rfl ?_
          exact lh_iret rfl rfl (by decide) (by obtain rfl := Option.some.inj hf; exact hK)
def f_Ha_hasCell (a : Nat) (x1 : Int32) (I : lh_II) : Option (Int32) := if x1 < 0 then some 0 else if (I (a + 4) 9) ≤ x1 then some 0 else some 1
theorem t_Ha_hasCell {Γ : lh_Cx} {I : lh_II} {L : lh_LL} {F : lh_FF} {S : lh_SS} {K : Int32 → lh_Hp → Prop} {r : Int32} (hG : lh_GX Γ) (hS : lh_lay F S) {a : Nat} (ha : lh_hl F S a) {x1 : Int32} (hf : f_Ha_hasCell a x1 I = some r) (hK : K r (I, L, F, S)) : lh_Met Γ m_Ha_hasCell 0 0 0 [.ref (a + 4), .int x1] (I, L, F, S) (lh_ki K) := by
  rw [f_Ha_hasCell] at hf
  refine lh_ofG k_Ha_hasCell [(0, .ref (a + 4)), (1, .int x1)] rfl (Nat.le_of_ble_eq_true rfl) rfl ?_
  refine lh_iload_n (q := 1) rfl rfl rfl ?_
  refine lh_if_lt rfl (fun c1 => ?_) (fun c1 => ?_)
  · have hf := lh_ifT hf c1
    refine lh_iconst rfl lh_k_0 ?_
    exact lh_iret rfl rfl (by decide) (by obtain rfl := Option.some.inj hf; exact hK)
  · have hf := lh_ifF hf c1
    refine lh_iload_n (q := 1) rfl rfl rfl ?_
    refine lh_aload_n (q := 0) rfl rfl rfl ?_
    refine lh_getI4 rfl rfl (ha.1 0 _ rfl) rfl ?_
    refine lh_icmp_ge rfl (fun c2 => ?_) (fun c2 => ?_)
    · have hf := lh_ifT hf c2
      refine lh_iconst rfl lh_k_0 ?_
      exact lh_iret rfl rfl (by decide) (by obtain rfl := Option.some.inj hf; exact hK)
    · have hf := lh_ifF hf c2
      refine lh_iconst rfl lh_k_1 ?_
      refine lh_goto rfl ?_
      exact lh_iret rfl rfl (by decide) (by obtain rfl := Option.some.inj hf; exact hK)
def f_Ha_hasPillar (a : Nat) (x1 : Int32) (I : lh_II) : Option (Int32) := lh_bd (f_Ha_hasCell a x1 I) fun r1 => if r1 = 0 then some 0 else if (((I (a + 4) 10) >>> (x1 &&& 31)) &&& 1) = 1 then some 1 else some 0
theorem t_Ha_hasPillar {Γ : lh_Cx} {I : lh_II} {L : lh_LL} {F : lh_FF} {S : lh_SS} {K : Int32 → lh_Hp → Prop} {r : Int32} (hG : lh_GX Γ) (hS : lh_lay F S) {a : Nat} (ha : lh_hl F S a) {x1 : Int32} (hf : f_Ha_hasPillar a x1 I = some r) (hK : K r (I, L, F, S)) : lh_Met Γ m_Ha_hasPillar 1 0 0 [.ref (a + 4), .int x1] (I, L, F, S) (lh_ki K) := by
  rw [f_Ha_hasPillar] at hf
  refine lh_ofG k_Ha_hasPillar [(0, .ref (a + 4)), (1, .int x1)] rfl (Nat.le_of_ble_eq_true rfl) rfl ?_
  refine lh_aload_n (q := 0) rfl rfl rfl ?_
  refine lh_iload_n (q := 1) rfl rfl rfl ?_
  refine lh_bdE hf (fun r1 e2 hf => ?_)
  refine lh_cVi (N := m_Ha_hasCell) (d := 0) (o := a) (As := [.int x1]) (st := []) rfl rfl v_Ha_hasCell (ha.1 0 _ rfl) rfl rfl rfl ⟨rfl, rfl⟩ rfl (t_Ha_hasCell hG hS ha e2 ?_)
  refine lh_if_eq rfl (fun c3 => ?_) (fun c3 => ?_)
  · have hf := lh_ifT hf c3
    refine lh_iconst rfl lh_k_0 ?_
    exact lh_iret rfl rfl (by decide) (by obtain rfl := Option.some.inj hf; exact hK)
  · have hf := lh_ifF hf c3
    refine lh_aload_n (q := 0) rfl rfl rfl ?_
    refine lh_getI4 rfl rfl (ha.1 0 _ rfl) rfl ?_
    refine lh_iload_n (q := 1) rfl rfl rfl ?_
    refine lh_ishr rfl ?_
    refine lh_iconst rfl lh_k_1 ?_
    refine lh_iand rfl ?_
    refine lh_iconst rfl lh_k_1 ?_
    refine lh_icmp_ne rfl (fun c4 => ?_) (fun c4 => ?_)
    · have hf := lh_ifF hf c4
      refine lh_iconst rfl lh_k_0 ?_
      exact lh_iret rfl rfl (by decide) (by obtain rfl := Option.some.inj hf; exact hK)
    · have hf := lh_ifT hf c4
      refine lh_iconst rfl lh_k_1 ?_
      refine lh_goto rfl ?_
      exact lh_iret rfl rfl (by decide) (by obtain rfl := Option.some.inj hf; exact hK)
def f_Ha_canEnter (a : Nat) (x1 : Int32) (I : lh_II) : Option (Int32) := lh_bd (f_Ha_hasCell a x1 I) fun r1 => if r1 = 0 then some 0 else lh_bd (f_Ha_hasPillar a x1 I) fun r4 => if r4 = 0 then some 1 else some 0
theorem t_Ha_canEnter {Γ : lh_Cx} {I : lh_II} {L : lh_LL} {F : lh_FF} {S : lh_SS} {K : Int32 → lh_Hp → Prop} {r : Int32} (hG : lh_GX Γ) (hS : lh_lay F S) {a : Nat} (ha : lh_hl F S a) {x1 : Int32} (hf : f_Ha_canEnter a x1 I = some r) (hK : K r (I, L, F, S)) : lh_Met Γ m_Ha_canEnter 2 0 0 [.ref (a + 4), .int x1] (I, L, F, S) (lh_ki K) := by
  rw [f_Ha_canEnter] at hf
  refine lh_ofG k_Ha_canEnter [(0, .ref (a + 4)), (1, .int x1)] rfl (Nat.le_of_ble_eq_true rfl) rfl ?_
  refine lh_aload_n (q := 0) rfl rfl rfl ?_
  refine lh_iload_n (q := 1) rfl rfl rfl ?_
  refine lh_bdE hf (fun r1 e2 hf => ?_)
  refine lh_cVi (N := m_Ha_hasCell) (d := 0) (o := a) (As := [.int x1]) (st := []) rfl rfl v_Ha_hasCell (ha.1 0 _ rfl) rfl rfl rfl ⟨rfl, rfl⟩ rfl (t_Ha_hasCell hG hS ha e2 ?_)
  refine lh_if_eq rfl (fun c3 => ?_) (fun c3 => ?_)
  · have hf := lh_ifT hf c3
    refine lh_iconst rfl lh_k_0 ?_
    exact lh_iret rfl rfl (by decide) (by obtain rfl := Option.some.inj hf; exact hK)
  · have hf := lh_ifF hf c3
    refine lh_aload_n (q := 0) rfl rfl rfl ?_
    refine lh_iload_n (q := 1) rfl rfl rfl ?_
    refine lh_bdE hf (fun r4 e5 hf => ?_)
    refine lh_cVi (N := m_Ha_hasPillar) (d := 1) (o := a) (As := [.int x1]) (st := []) rfl rfl v_Ha_hasPillar (ha.1 0 _ rfl) rfl rfl rfl ⟨rfl, rfl⟩ rfl (t_Ha_hasPillar hG hS ha e5 ?_)
    refine lh_if_ne rfl (fun c6 => ?_) (fun c6 => ?_)
    · have hf := lh_ifF hf c6
      refine lh_iconst rfl lh_k_0 ?_
      exact lh_iret rfl rfl (by decide) (by obtain rfl := Option.some.inj hf; exact hK)
    · have hf := lh_ifT hf c6
      refine lh_iconst rfl lh_k_1 ?_
      refine lh_goto rfl ?_
      exact lh_iret rfl rfl (by decide) (by obtain rfl := Option.some.inj hf; exact hK)
def f_La_isFact (x1 : Int32) : Option (Int32) := if x1 < 23 then some 0 else if 26 < x1 then some 0 else some 1
theorem t_La_isFact {Γ : lh_Cx} {I : lh_II} {L : lh_LL} {F : lh_FF} {S : lh_SS} {K : Int32 → lh_Hp → Prop} {r : Int32} (hG : lh_GX Γ) (hS : lh_lay F S)  {x1 : Int32} (hf : f_La_isFact x1 = some r) (hK : K r (I, L, F, S)) : lh_Met Γ m_La_isFact 0 0 0 [.int x1] (I, L, F, S) (lh_ki K) := by
  rw [f_La_isFact] at hf
  refine lh_ofG k_La_isFact [(0, .int x1)] rfl (Nat.le_of_ble_eq_true rfl) rfl ?_
  refine lh_iload_n (q := 0) rfl rfl rfl ?_
  refine lh_bipush rfl lh_b_23 ?_
  refine lh_icmp_lt rfl (fun c1 => ?_) (fun c1 => ?_)
  · have hf := lh_ifT hf c1
    refine lh_iconst rfl lh_k_0 ?_
    exact lh_iret rfl rfl (by decide) (by obtain rfl := Option.some.inj hf; exact hK)
  · have hf := lh_ifF hf c1
    refine lh_iload_n (q := 0) rfl rfl rfl ?_
    refine lh_bipush rfl lh_b_26 ?_
    refine lh_icmp_gt rfl (fun c2 => ?_) (fun c2 => ?_)
    · have hf := lh_ifT hf c2
      refine lh_iconst rfl lh_k_0 ?_
      exact lh_iret rfl rfl (by decide) (by obtain rfl := Option.some.inj hf; exact hK)
    · have hf := lh_ifF hf c2
      refine lh_iconst rfl lh_k_1 ?_
      refine lh_goto rfl ?_
      exact lh_iret rfl rfl (by decide) (by obtain rfl := Option.some.inj hf; exact hK)
def f_La_factOf (x1 : Int32) (x2 : Int32) (x3 : Int32) (x4 : Int32) (x5 : Int32) : Option (Int32) := if x1 = 23 then some x2 else if x1 = 24 then some x3 else if x1 = 25 then some x4 else some x5
theorem t_La_factOf {Γ : lh_Cx} {I : lh_II} {L : lh_LL} {F : lh_FF} {S : lh_SS} {K : Int32 → lh_Hp → Prop} {r : Int32} (hG : lh_GX Γ) (hS : lh_lay F S)  {x1 : Int32} {x2 : Int32} {x3 : Int32} {x4 : Int32} {x5 : Int32} (hf : f_La_factOf x1 x2 x3 x4 x5 = some r) (hK : K r (I, L, F, S)) : lh_Met Γ m_La_factOf 0 0 0 [.int x1, .int x2, .int x3, .int x4, .int x5] (I, L, F, S) (lh_ki K) := by
  rw [f_La_factOf] at hf
  refine lh_ofG k_La_factOf [(0, .int x1), (1, .int x2), (2, .int x3), (3, .int x4), (4, .int x5)] rfl (Nat.le_of_ble_eq_true rfl) rfl ?_
  refine lh_iload_n (q := 0) rfl rfl rfl ?_
  by_cases c1 : x1 = 23
  · have hf := lh_ifT hf c1
    refine lh_tsIn (q := 0) (tgt := 2) rfl (by rw [c1]; decide) (by decide) rfl rfl ?_
    refine lh_iload_n (q := 1) rfl rfl rfl ?_
    exact lh_iret rfl rfl rfl (by obtain rfl := Option.some.inj hf; exact hK)
  · have hf := lh_ifF hf c1
    by_cases c2 : x1 = 24
    · have hf := lh_ifT hf c2
      refine lh_tsIn (q := 1) (tgt := 4) rfl (by rw [c2]; decide) (by decide) rfl rfl ?_
      refine lh_iload_n (q := 2) rfl rfl rfl ?_
      exact lh_iret rfl rfl rfl (by obtain rfl := Option.some.inj hf; exact hK)
    · have hf := lh_ifF hf c2
      by_cases c3 : x1 = 25
      · have hf := lh_ifT hf c3
        refine lh_tsIn (q := 2) (tgt := 6) rfl (by rw [c3]; decide) (by decide) rfl rfl ?_
        refine lh_iload_n (q := 3) rfl rfl rfl ?_
        exact lh_iret rfl rfl rfl (by obtain rfl := Option.some.inj hf; exact hK)
      · have hf := lh_ifF hf c3
        refine lh_tsOut (tgt := 8) rfl (by have q0 := lv_neT c1 (a := 23) (by decide); have q1 := lv_neT c2 (a := 24) (by decide); have q2 := lv_neT c3 (a := 25) (by decide); omega) rfl ?_
        refine lh_iload (q := 4) rfl rfl ?_
        exact lh_iret rfl rfl rfl (by obtain rfl := Option.some.inj hf; exact hK)
def f_La_joined (x1 : Int32) (x2 : Int32) (x3 : Int32) : Option (Int32) := if x1 = 21 then if x2 = 0 then some 0 else if x3 = 0 then some 0 else some 1 else if x1 = 22 then if x2 = 0 then if x3 = 0 then some 0 else some 1 else some 1 else if x1 = 23 then some (x2 * x3) else if x1 = 24 then some (x2 * x3) else if x1 = 25 then some (x2 * x3) else if x1 = 26 then some (x2 * x3) else if x1 = 27 then some (x2 * x3) else if x1 = 28 then some (x2 * x3) else if x1 = 29 then some (x2 * x3) else if x1 = 30 then some (x2 * x3) else if x1 = 31 then if x3 ≤ x2 then some 0 else some 1 else if x1 = 32 then if x2 = x3 then some 1 else some 0 else if x1 = 33 then some (x2 + x3) else if x1 = 34 then some (x2 - x3) else some (x2 * x3)
theorem t_La_joined {Γ : lh_Cx} {I : lh_II} {L : lh_LL} {F : lh_FF} {S : lh_SS} {K : Int32 → lh_Hp → Prop} {r : Int32} (hG : lh_GX Γ) (hS : lh_lay F S)  {x1 : Int32} {x2 : Int32} {x3 : Int32} (hf : f_La_joined x1 x2 x3 = some r) (hK : K r (I, L, F, S)) : lh_Met Γ m_La_joined 0 0 0 [.int x1, .int x2, .int x3] (I, L, F, S) (lh_ki K) := by
  rw [f_La_joined] at hf
  refine lh_ofG k_La_joined [(0, .int x1), (1, .int x2), (2, .int x3)] rfl (Nat.le_of_ble_eq_true rfl) rfl ?_
  refine lh_iload_n (q := 0) rfl rfl rfl ?_
  by_cases c1 : x1 = 21
  · have hf := lh_ifT hf c1
    refine lh_tsIn (q := 0) (tgt := 2) rfl (by rw [c1]; decide) (by decide) rfl rfl ?_
    refine lh_iload_n (q := 1) rfl rfl rfl ?_
    refine lh_if_eq rfl (fun c2 => ?_) (fun c2 => ?_)
    · have hf := lh_ifT hf c2
      refine lh_iconst rfl lh_k_0 ?_
      exact lh_iret rfl rfl rfl (by obtain rfl := Option.some.inj hf; exact hK)
    · have hf := lh_ifF hf c2
      refine lh_iload_n (q := 2) rfl rfl rfl ?_
      refine lh_if_eq rfl (fun c3 => ?_) (fun c3 => ?_)
      · have hf := lh_ifT hf c3
        refine lh_iconst rfl lh_k_0 ?_
        exact lh_iret rfl rfl rfl (by obtain rfl := Option.some.inj hf; exact hK)
      · have hf := lh_ifF hf c3
        refine lh_iconst rfl lh_k_1 ?_
        refine lh_goto rfl ?_
        exact lh_iret rfl rfl rfl (by obtain rfl := Option.some.inj hf; exact hK)
  · have hf := lh_ifF hf c1
    by_cases c4 : x1 = 22
    · have hf := lh_ifT hf c4
      refine lh_tsIn (q := 1) (tgt := 10) rfl (by rw [c4]; decide) (by decide) rfl rfl ?_
      refine lh_iload_n (q := 1) rfl rfl rfl ?_
      refine lh_if_ne rfl (fun c5 => ?_) (fun c5 => ?_)
      · have hf := lh_ifF hf c5
        refine lh_iconst rfl lh_k_1 ?_
        refine lh_goto rfl ?_
        exact lh_iret rfl rfl rfl (by obtain rfl := Option.some.inj hf; exact hK)
      · have hf := lh_ifT hf c5
        refine lh_iload_n (q := 2) rfl rfl rfl ?_
        refine lh_if_eq rfl (fun c6 => ?_) (fun c6 => ?_)
        · have hf := lh_ifT hf c6
          refine lh_iconst rfl lh_k_0 ?_
          exact lh_iret rfl rfl rfl (by obtain rfl := Option.some.inj hf; exact hK)
        · have hf := lh_ifF hf c6
          refine lh_iconst rfl lh_k_1 ?_
          refine lh_goto rfl ?_
          exact lh_iret rfl rfl rfl (by obtain rfl := Option.some.inj hf; exact hK)
    · have hf := lh_ifF hf c4
      by_cases c7 : x1 = 23
      · have hf := lh_ifT hf c7
        refine lh_tsIn (q := 2) (tgt := 40) rfl (by rw [c7]; decide) (by decide) rfl rfl ?_
        refine lh_iload_n (q := 1) rfl rfl rfl ?_
        refine lh_iload_n (q := 2) rfl rfl rfl ?_
        refine lh_imul rfl ?_
        exact lh_iret rfl rfl rfl (by obtain rfl := Option.some.inj hf; exact hK)
      · have hf := lh_ifF hf c7
        by_cases c8 : x1 = 24
        · have hf := lh_ifT hf c8
          refine lh_tsIn (q := 3) (tgt := 40) rfl (by rw [c8]; decide) (by decide) rfl rfl ?_
          refine lh_iload_n (q := 1) rfl rfl rfl ?_
          refine lh_iload_n (q := 2) rfl rfl rfl ?_
          refine lh_imul rfl ?_
          exact lh_iret rfl rfl rfl (by obtain rfl := Option.some.inj hf; exact hK)
        · have hf := lh_ifF hf c8
          by_cases c9 : x1 = 25
          · have hf := lh_ifT hf c9
            refine lh_tsIn (q := 4) (tgt := 40) rfl (by rw [c9]; decide) (by decide) rfl rfl ?_
            refine lh_iload_n (q := 1) rfl rfl rfl ?_
            refine lh_iload_n (q := 2) rfl rfl rfl ?_
            refine lh_imul rfl ?_
            exact lh_iret rfl rfl rfl (by obtain rfl := Option.some.inj hf; exact hK)
          · have hf := lh_ifF hf c9
            by_cases c10 : x1 = 26
            · have hf := lh_ifT hf c10
              refine lh_tsIn (q := 5) (tgt := 40) rfl (by rw [c10]; decide) (by decide) rfl rfl ?_
              refine lh_iload_n (q := 1) rfl rfl rfl ?_
              refine lh_iload_n (q := 2) rfl rfl rfl ?_
              refine lh_imul rfl ?_
              exact lh_iret rfl rfl rfl (by obtain rfl := Option.some.inj hf; exact hK)
            · have hf := lh_ifF hf c10
              by_cases c11 : x1 = 27
              · have hf := lh_ifT hf c11
                refine lh_tsIn (q := 6) (tgt := 40) rfl (by rw [c11]; decide) (by decide) rfl rfl ?_
                refine lh_iload_n (q := 1) rfl rfl rfl ?_
                refine lh_iload_n (q := 2) rfl rfl rfl ?_
                refine lh_imul rfl ?_
                exact lh_iret rfl rfl rfl (by obtain rfl := Option.some.inj hf; exact hK)
              · have hf := lh_ifF hf c11
                by_cases c12 : x1 = 28
                · have hf := lh_ifT hf c12
                  refine lh_tsIn (q := 7) (tgt := 40) rfl (by rw [c12]; decide) (by decide) rfl rfl ?_
                  refine lh_iload_n (q := 1) rfl rfl rfl ?_
                  refine lh_iload_n (q := 2) rfl rfl rfl ?_
                  refine lh_imul rfl ?_
                  exact lh_iret rfl rfl rfl (by obtain rfl := Option.some.inj hf; exact hK)
                · have hf := lh_ifF hf c12
                  by_cases c13 : x1 = 29
                  · have hf := lh_ifT hf c13
                    refine lh_tsIn (q := 8) (tgt := 40) rfl (by rw [c13]; decide) (by decide) rfl rfl ?_
                    refine lh_iload_n (q := 1) rfl rfl rfl ?_
                    refine lh_iload_n (q := 2) rfl rfl rfl ?_
                    refine lh_imul rfl ?_
                    exact lh_iret rfl rfl rfl (by obtain rfl := Option.some.inj hf; exact hK)
                  · have hf := lh_ifF hf c13
                    by_cases c14 : x1 = 30
                    · have hf := lh_ifT hf c14
                      refine lh_tsIn (q := 9) (tgt := 40) rfl (by rw [c14]; decide) (by decide) rfl rfl ?_
                      refine lh_iload_n (q := 1) rfl rfl rfl ?_
                      refine lh_iload_n (q := 2) rfl rfl rfl ?_
                      refine lh_imul rfl ?_
                      exact lh_iret rfl rfl rfl (by obtain rfl := Option.some.inj hf; exact hK)
                    · have hf := lh_ifF hf c14
                      by_cases c15 : x1 = 31
                      · have hf := lh_ifT hf c15
                        refine lh_tsIn (q := 10) (tgt := 18) rfl (by rw [c15]; decide) (by decide) rfl rfl ?_
                        refine lh_iload_n (q := 1) rfl rfl rfl ?_
                        refine lh_iload_n (q := 2) rfl rfl rfl ?_
                        refine lh_icmp_ge rfl (fun c16 => ?_) (fun c16 => ?_)
                        · have hf := lh_ifT hf c16
                          refine lh_iconst rfl lh_k_0 ?_
                          exact lh_iret rfl rfl rfl (by obtain rfl := Option.some.inj hf; exact hK)
                        · have hf := lh_ifF hf c16
                          refine lh_iconst rfl lh_k_1 ?_
                          refine lh_goto rfl ?_
                          exact lh_iret rfl rfl rfl (by obtain rfl := Option.some.inj hf; exact hK)
                      · have hf := lh_ifF hf c15
                        by_cases c17 : x1 = 32
                        · have hf := lh_ifT hf c17
                          refine lh_tsIn (q := 11) (tgt := 25) rfl (by rw [c17]; decide) (by decide) rfl rfl ?_
                          refine lh_iload_n (q := 1) rfl rfl rfl ?_
                          refine lh_iload_n (q := 2) rfl rfl rfl ?_
                          refine lh_icmp_ne rfl (fun c18 => ?_) (fun c18 => ?_)
                          · have hf := lh_ifF hf c18
                            refine lh_iconst rfl lh_k_0 ?_
                            exact lh_iret rfl rfl rfl (by obtain rfl := Option.some.inj hf; exact hK)
                          · have hf := lh_ifT hf c18
                            refine lh_iconst rfl lh_k_1 ?_
                            refine lh_goto rfl ?_
                            exact lh_iret rfl rfl rfl (by obtain rfl := Option.some.inj hf; exact hK)
                        · have hf := lh_ifF hf c17
                          by_cases c19 : x1 = 33
                          · have hf := lh_ifT hf c19
                            refine lh_tsIn (q := 12) (tgt := 32) rfl (by rw [c19]; decide) (by decide) rfl rfl ?_
                            refine lh_iload_n (q := 1) rfl rfl rfl ?_
                            refine lh_iload_n (q := 2) rfl rfl rfl ?_
                            refine lh_iadd rfl ?_
                            exact lh_iret rfl rfl rfl (by obtain rfl := Option.some.inj hf; exact hK)
                          · have hf := lh_ifF hf c19
                            by_cases c20 : x1 = 34
                            · have hf := lh_ifT hf c20
                              refine lh_tsIn (q := 13) (tgt := 36) rfl (by rw [c20]; decide) (by decide) rfl rfl ?_
                              refine lh_iload_n (q := 1) rfl rfl rfl ?_
                              refine lh_iload_n (q := 2) rfl rfl rfl ?_
                              refine lh_isub rfl ?_
                              exact lh_iret rfl rfl rfl (by obtain rfl := Option.some.inj hf; exact hK)
                            · have hf := lh_ifF hf c20
                              refine lh_tsOut (tgt := 40) rfl (by have q0 := lv_neT c1 (a := 21) (by decide); have q1 := lv_neT c4 (a := 22) (by decide); have q2 := lv_neT c7 (a := 23) (by decide); have q3 := lv_neT c8 (a := 24) (by decide); have q4 := lv_neT c9 (a := 25) (by decide); have q5 := lv_neT c10 (a := 26) (by decide); have q6 := lv_neT c11 (a := 27) (by decide); have q7 := lv_neT c12 (a := 28) (by decide); have q8 := lv_neT c13 (a := 29) (by decide); have q9 := lv_neT c14 (a := 30) (by decide); have q10 := lv_neT c15 (a := 31) (by decide); have q11 := lv_neT c17 (a := 32) (by decide); have q12 := lv_neT c19 (a := 33) (by decide); have q13 := lv_neT c20 (a := 34) (by decide); omega) rfl ?_
                              refine lh_iload_n (q := 1) rfl rfl rfl ?_
                              refine lh_iload_n (q := 2) rfl rfl rfl ?_
                              refine lh_imul rfl ?_
                              exact lh_iret rfl rfl rfl (by obtain rfl := Option.some.inj hf; exact hK)
def f_La_dayShown_4 (a : Nat) (v1 : Int32) (v2 : Int32) (v3 : Int32) (v4 : Int32) : Nat → Int32 → Int32 → lh_II → Option (Int32 × lh_II)
  | 0, _, _, _ => none
  | n + 1, v5, v6, I => if (I (a + 1 + 4) 2) ≤ v6 then some (v5, I) else if 1000 ≤ v6 then some (v5, I) else lh_gd (lh_ix v6 1000) (if 0 ≤ (I (a + 2 + 4) v6.toNatClampNeg) then if 32 ≤ v5 then f_La_dayShown_4 a v1 v2 v3 v4 n v5 (v6 + 1) I else if (I (a + 2 + 4) v6.toNatClampNeg) < 0 then lh_bd (f_La_factOf (-(I (a + 2 + 4) v6.toNatClampNeg)) v1 v2 v3 v4) fun r7 => lh_gd (lh_ix v5 32) (f_La_dayShown_4 a v1 v2 v3 v4 n (v5 + 1) (v6 + 1) (lh_u2 I (a + 3 + 4) v5.toNatClampNeg r7)) else lh_gd (lh_ix v5 32) (f_La_dayShown_4 a v1 v2 v3 v4 n (v5 + 1) (v6 + 1) (lh_u2 I (a + 3 + 4) v5.toNatClampNeg (I (a + 2 + 4) v6.toNatClampNeg))) else lh_bd (f_La_isFact (-(I (a + 2 + 4) v6.toNatClampNeg))) fun r11 => if r11 = 0 then if (I (a + 2 + 4) v6.toNatClampNeg) = (-20) then if v5 < 1 then if v5 < 2 then f_La_dayShown_4 a v1 v2 v3 v4 n v5 (v6 + 1) I else lh_gd (lh_ix ((v5 + (-1)) - 1) 32) (lh_gd (lh_ix (v5 + (-1)) 32) (lh_bd (f_La_joined (-(I (a + 2 + 4) v6.toNatClampNeg)) (I (a + 3 + 4) ((v5 + (-1)) - 1).toNatClampNeg) (I (a + 3 + 4) (v5 + (-1)).toNatClampNeg)) fun r25 => lh_gd (lh_ix ((v5 + (-1)) - 1) 32) (f_La_dayShown_4 a v1 v2 v3 v4 n (v5 + (-1)) (v6 + 1) (lh_u2 I (a + 3 + 4) ((v5 + (-1)) - 1).toNatClampNeg r25)))) else lh_gd (lh_ix (v5 - 1) 32) (if (I (a + 3 + 4) (v5 - 1).toNatClampNeg) = 0 then lh_gd (lh_ix (v5 - 1) 32) (f_La_dayShown_4 a v1 v2 v3 v4 n v5 (v6 + 1) (lh_u2 I (a + 3 + 4) (v5 - 1).toNatClampNeg 1)) else lh_gd (lh_ix (v5 - 1) 32) (f_La_dayShown_4 a v1 v2 v3 v4 n v5 (v6 + 1) (lh_u2 I (a + 3 + 4) (v5 - 1).toNatClampNeg 0))) else if v5 < 2 then f_La_dayShown_4 a v1 v2 v3 v4 n v5 (v6 + 1) I else lh_gd (lh_ix ((v5 + (-1)) - 1) 32) (lh_gd (lh_ix (v5 + (-1)) 32) (lh_bd (f_La_joined (-(I (a + 2 + 4) v6.toNatClampNeg)) (I (a + 3 + 4) ((v5 + (-1)) - 1).toNatClampNeg) (I (a + 3 + 4) (v5 + (-1)).toNatClampNeg)) fun r18 => lh_gd (lh_ix ((v5 + (-1)) - 1) 32) (f_La_dayShown_4 a v1 v2 v3 v4 n (v5 + (-1)) (v6 + 1) (lh_u2 I (a + 3 + 4) ((v5 + (-1)) - 1).toNatClampNeg r18)))) else if 32 ≤ v5 then f_La_dayShown_4 a v1 v2 v3 v4 n v5 (v6 + 1) I else if (I (a + 2 + 4) v6.toNatClampNeg) < 0 then lh_bd (f_La_factOf (-(I (a + 2 + 4) v6.toNatClampNeg)) v1 v2 v3 v4) fun r34 => lh_gd (lh_ix v5 32) (f_La_dayShown_4 a v1 v2 v3 v4 n (v5 + 1) (v6 + 1) (lh_u2 I (a + 3 + 4) v5.toNatClampNeg r34)) else lh_gd (lh_ix v5 32) (f_La_dayShown_4 a v1 v2 v3 v4 n (v5 + 1) (v6 + 1) (lh_u2 I (a + 3 + 4) v5.toNatClampNeg (I (a + 2 + 4) v6.toNatClampNeg))))
def f_La_dayShown (a : Nat) (x1 : Int32) (x2 : Int32) (x3 : Int32) (x4 : Int32) (I : lh_II) : Option (Int32 × lh_II) := lh_bd (f_La_dayShown_4 a x1 x2 x3 x4 lh_fuel 0 0 I) fun r38 => if r38.1 ≤ 0 then some ((if 0 < (if 0 < 3 then 0 else 3) then (if 0 < 3 then 0 else 3) else 0), r38.2) else lh_gd (lh_ix (r38.1 - 1) 32) (some ((if 0 < (if (r38.2 (a + 3 + 4) (r38.1 - 1).toNatClampNeg) < 3 then (r38.2 (a + 3 + 4) (r38.1 - 1).toNatClampNeg) else 3) then (if (r38.2 (a + 3 + 4) (r38.1 - 1).toNatClampNeg) < 3 then (r38.2 (a + 3 + 4) (r38.1 - 1).toNatClampNeg) else 3) else 0), r38.2))
theorem t_La_dayShown_4 {Γ : lh_Cx} {F : lh_FF} {S : lh_SS} {Z : List Frame → Array Value → State → State → Prop} (hG : lh_GX Γ) (hS : lh_lay F S) {a : Nat} (ha : lh_hl F S a) {v1 : Int32} {v2 : Int32} {v3 : Int32} {v4 : Int32} {L : lh_LL} : ∀ (n : Nat) (v5 : Int32) (v6 : Int32) (I : lh_II) (o : Int32 × lh_II), f_La_dayShown_4 a v1 v2 v3 v4 n v5 v6 I = some o → ∀ (x0_ : lh_G Γ m_La_dayShown (lh_R 1 0 0) Z 0 0 92 [(0, .ref (a + 1 + 4)), (5, .int o.1)] [] (o.2, L, F, S)), lh_G Γ m_La_dayShown (lh_R 1 0 0) Z 0 0 4 [(0, .ref (a + 1 + 4)), (1, .int v1), (2, .int v2), (3, .int v3), (4, .int v4), (5, .int v5), (6, .int v6)] [] (I, L, F, S) := by
  intro n
  induction n with
  | zero => intro v5 v6 I o hf; cases hf
  | succ n ih =>
    intro v5 v6 I o hf x0_
    rw [f_La_dayShown_4] at hf
    refine lh_iload (q := 6) rfl rfl ?_
    refine lh_aload_n (q := 0) rfl rfl rfl ?_
    refine lh_getI4 rfl rfl (ha.1 1 _ rfl) rfl ?_
    refine lh_icmp_ge rfl (fun c1 => ?_) (fun c1 => ?_)
    · have hf := lh_ifT hf c1
      exact lh_less [0, 5] rfl (by cases hf; exact x0_)
    · have hf := lh_ifF hf c1
      refine lh_iload (q := 6) rfl rfl ?_
      refine lh_sipush rfl lh_s_1000 ?_
      refine lh_icmp_ge rfl (fun c2 => ?_) (fun c2 => ?_)
      · have hf := lh_ifT hf c2
        exact lh_less [0, 5] rfl (by cases hf; exact x0_)
      · have hf := lh_ifF hf c2
        refine lh_aload_n (q := 0) rfl rfl rfl ?_
        refine lh_getR4 rfl rfl (ha.1 1 _ rfl) rfl (ha.2 1 _ rfl) ?_
        refine lh_iload (q := 6) rfl rfl ?_
        obtain ⟨g3, hf⟩ := lh_gdE hf
        refine lh_iald4 rfl (ha.1 2 _ rfl) g3 ?_
        refine lh_istore (lv' := [(0, .ref (a + 1 + 4)), (1, .int v1), (2, .int v2), (3, .int v3), (4, .int v4), (5, .int v5), (6, .int v6), (7, .int (I (a + 2 + 4) v6.toNatClampNeg))]) rfl rfl rfl ?_
        refine lh_iload (q := 7) rfl rfl ?_
        refine lh_if_ge rfl (fun c4 => ?_) (fun c4 => ?_)
        · have hf := lh_ifT hf c4
          refine lh_iload (q := 5) rfl rfl ?_
          refine lh_aload_n (q := 0) rfl rfl rfl ?_
          refine lh_getR4 rfl rfl (ha.1 1 _ rfl) rfl (ha.2 2 _ rfl) ?_
          refine lh_alen (v := 32) rfl (ha.1 3 _ rfl) (by decide) (by decide) ?_
          refine lh_icmp_ge rfl (fun c5 => ?_) (fun c5 => ?_)
          · have hf := lh_ifT hf c5
            refine lh_iinc (q := 6) (v := (v6 + 1)) (lv' := [(0, .ref (a + 1 + 4)), (1, .int v1), (2, .int v2), (3, .int v3), (4, .int v4), (5, .int v5), (6, .int (v6 + 1)), (7, .int (I (a + 2 + 4) v6.toNatClampNeg))]) rfl rfl (congrArg (v6 + ·) (by decide)) rfl rfl ?_
            refine lh_goto rfl ?_
            refine lh_less [0, 1, 2, 3, 4, 5, 6] rfl ?_
            exact ih v5 (v6 + 1) I _ hf x0_
          · have hf := lh_ifF hf c5
            refine lh_aload_n (q := 0) rfl rfl rfl ?_
            refine lh_getR4 rfl rfl (ha.1 1 _ rfl) rfl (ha.2 2 _ rfl) ?_
            refine lh_iload (q := 5) rfl rfl ?_
            refine lh_iload (q := 7) rfl rfl ?_
            refine lh_if_lt rfl (fun c6 => ?_) (fun c6 => ?_)
            · have hf := lh_ifT hf c6
              refine lh_iload (q := 7) rfl rfl ?_
              refine lh_ineg rfl ?_
              refine lh_iload_n (q := 1) rfl rfl rfl ?_
              refine lh_iload_n (q := 2) rfl rfl rfl ?_
              refine lh_iload_n (q := 3) rfl rfl rfl ?_
              refine lh_iload (q := 4) rfl rfl ?_
              refine lh_bdE hf (fun r7 e8 hf => ?_)
              refine lh_cSi (N := m_La_factOf) (d := 0) (As := [.int (-(I (a + 2 + 4) v6.toNatClampNeg)), .int v1, .int v2, .int v3, .int v4]) (st := [.int v5, .ref (a + 3 + 4)]) rfl rfl v_La_factOf rfl rfl ⟨rfl, rfl⟩ rfl (t_La_factOf hG hS e8 ?_)
              obtain ⟨g9, hf⟩ := lh_gdE hf
              refine lh_iast4 rfl (ha.1 3 _ rfl) g9 ?_
              refine lh_iinc (q := 5) (v := (v5 + 1)) (lv' := [(0, .ref (a + 1 + 4)), (1, .int v1), (2, .int v2), (3, .int v3), (4, .int v4), (5, .int (v5 + 1)), (6, .int v6), (7, .int (I (a + 2 + 4) v6.toNatClampNeg))]) rfl rfl (congrArg (v5 + ·) (by decide)) rfl rfl ?_
              refine lh_goto rfl ?_
              refine lh_iinc (q := 6) (v := (v6 + 1)) (lv' := [(0, .ref (a + 1 + 4)), (1, .int v1), (2, .int v2), (3, .int v3), (4, .int v4), (5, .int (v5 + 1)), (6, .int (v6 + 1)), (7, .int (I (a + 2 + 4) v6.toNatClampNeg))]) rfl rfl (congrArg (v6 + ·) (by decide)) rfl rfl ?_
              refine lh_goto rfl ?_
              refine lh_less [0, 1, 2, 3, 4, 5, 6] rfl ?_
              exact ih (v5 + 1) (v6 + 1) (lh_u2 I (a + 3 + 4) v5.toNatClampNeg r7) _ hf x0_
            · have hf := lh_ifF hf c6
              refine lh_iload (q := 7) rfl rfl ?_
              refine lh_goto rfl ?_
              obtain ⟨g10, hf⟩ := lh_gdE hf
              refine lh_iast4 rfl (ha.1 3 _ rfl) g10 ?_
              refine lh_iinc (q := 5) (v := (v5 + 1)) (lv' := [(0, .ref (a + 1 + 4)), (1, .int v1), (2, .int v2), (3, .int v3), (4, .int v4), (5, .int (v5 + 1)), (6, .int v6), (7, .int (I (a + 2 + 4) v6.toNatClampNeg))]) rfl rfl (congrArg (v5 + ·) (by decide)) rfl rfl ?_
              refine lh_goto rfl ?_
              refine lh_iinc (q := 6) (v := (v6 + 1)) (lv' := [(0, .ref (a + 1 + 4)), (1, .int v1), (2, .int v2), (3, .int v3), (4, .int v4), (5, .int (v5 + 1)), (6, .int (v6 + 1)), (7, .int (I (a + 2 + 4) v6.toNatClampNeg))]) rfl rfl (congrArg (v6 + ·) (by decide)) rfl rfl ?_
              refine lh_goto rfl ?_
              refine lh_less [0, 1, 2, 3, 4, 5, 6] rfl ?_
              exact ih (v5 + 1) (v6 + 1) (lh_u2 I (a + 3 + 4) v5.toNatClampNeg (I (a + 2 + 4) v6.toNatClampNeg)) _ hf x0_
        · have hf := lh_ifF hf c4
          refine lh_iload (q := 7) rfl rfl ?_
          refine lh_ineg rfl ?_
          refine lh_bdE hf (fun r11 e12 hf => ?_)
          refine lh_cSi (N := m_La_isFact) (d := 0) (As := [.int (-(I (a + 2 + 4) v6.toNatClampNeg))]) (st := []) rfl rfl v_La_isFact rfl rfl ⟨rfl, rfl⟩ rfl (t_La_isFact hG hS e12 ?_)
          refine lh_if_eq rfl (fun c13 => ?_) (fun c13 => ?_)
          · have hf := lh_ifT hf c13
            refine lh_iload (q := 7) rfl rfl ?_
            refine lh_bipush rfl lh_b_m20 ?_
            refine lh_icmp_ne rfl (fun c14 => ?_) (fun c14 => ?_)
            · have hf := lh_ifF hf c14
              refine lh_iload (q := 5) rfl rfl ?_
              refine lh_iconst rfl lh_k_2 ?_
              refine lh_icmp_lt rfl (fun c15 => ?_) (fun c15 => ?_)
              · have hf := lh_ifT hf c15
                refine lh_iinc (q := 6) (v := (v6 + 1)) (lv' := [(0, .ref (a + 1 + 4)), (1, .int v1), (2, .int v2), (3, .int v3), (4, .int v4), (5, .int v5), (6, .int (v6 + 1)), (7, .int (I (a + 2 + 4) v6.toNatClampNeg))]) rfl rfl (congrArg (v6 + ·) (by decide)) rfl rfl ?_
                refine lh_goto rfl ?_
                refine lh_less [0, 1, 2, 3, 4, 5, 6] rfl ?_
                exact ih v5 (v6 + 1) I _ hf x0_
              · have hf := lh_ifF hf c15
                refine lh_iinc (q := 5) (v := (v5 + (-1))) (lv' := [(0, .ref (a + 1 + 4)), (1, .int v1), (2, .int v2), (3, .int v3), (4, .int v4), (5, .int (v5 + (-1))), (6, .int v6), (7, .int (I (a + 2 + 4) v6.toNatClampNeg))]) rfl rfl (congrArg (v5 + ·) (by decide)) rfl rfl ?_
                refine lh_aload_n (q := 0) rfl rfl rfl ?_
                refine lh_getR4 rfl rfl (ha.1 1 _ rfl) rfl (ha.2 2 _ rfl) ?_
                refine lh_iload (q := 5) rfl rfl ?_
                refine lh_iconst rfl lh_k_1 ?_
                refine lh_isub rfl ?_
                refine lh_iload (q := 7) rfl rfl ?_
                refine lh_ineg rfl ?_
                refine lh_aload_n (q := 0) rfl rfl rfl ?_
                refine lh_getR4 rfl rfl (ha.1 1 _ rfl) rfl (ha.2 2 _ rfl) ?_
                refine lh_iload (q := 5) rfl rfl ?_
                refine lh_iconst rfl lh_k_1 ?_
                refine lh_isub rfl ?_
                obtain ⟨g16, hf⟩ := lh_gdE hf
                refine lh_iald4 rfl (ha.1 3 _ rfl) g16 ?_
                refine lh_aload_n (q := 0) rfl rfl rfl ?_
                refine lh_getR4 rfl rfl (ha.1 1 _ rfl) rfl (ha.2 2 _ rfl) ?_
                refine lh_iload (q := 5) rfl rfl ?_
                obtain ⟨g17, hf⟩ := lh_gdE hf
                refine lh_iald4 rfl (ha.1 3 _ rfl) g17 ?_
                refine lh_bdE hf (fun r18 e19 hf => ?_)
                refine lh_cSi (N := m_La_joined) (d := 0) (As := [.int (-(I (a + 2 + 4) v6.toNatClampNeg)), .int (I (a + 3 + 4) ((v5 + (-1)) - 1).toNatClampNeg), .int (I (a + 3 + 4) (v5 + (-1)).toNatClampNeg)]) (st := [.int ((v5 + (-1)) - 1), .ref (a + 3 + 4)]) rfl rfl v_La_joined rfl rfl ⟨rfl, rfl⟩ rfl (t_La_joined hG hS e19 ?_)
                obtain ⟨g20, hf⟩ := lh_gdE hf
                refine lh_iast4 rfl (ha.1 3 _ rfl) g20 ?_
                refine lh_iinc (q := 6) (v := (v6 + 1)) (lv' := [(0, .ref (a + 1 + 4)), (1, .int v1), (2, .int v2), (3, .int v3), (4, .int v4), (5, .int (v5 + (-1))), (6, .int (v6 + 1)), (7, .int (I (a + 2 + 4) v6.toNatClampNeg))]) rfl rfl (congrArg (v6 + ·) (by decide)) rfl rfl ?_
                refine lh_goto rfl ?_
                refine lh_less [0, 1, 2, 3, 4, 5, 6] rfl ?_
                exact ih (v5 + (-1)) (v6 + 1) (lh_u2 I (a + 3 + 4) ((v5 + (-1)) - 1).toNatClampNeg r18) _ hf x0_
            · have hf := lh_ifT hf c14
              refine lh_iload (q := 5) rfl rfl ?_
              refine lh_iconst rfl lh_k_1 ?_
              refine lh_icmp_lt rfl (fun c21 => ?_) (fun c21 => ?_)
              · have hf := lh_ifT hf c21
                refine lh_iload (q := 5) rfl rfl ?_
                refine lh_iconst rfl lh_k_2 ?_
                refine lh_icmp_lt rfl (fun c22 => ?_) (fun c22 => ?_)
                · have hf := lh_ifT hf c22
                  refine lh_iinc (q := 6) (v := (v6 + 1)) (lv' := [(0, .ref (a + 1 + 4)), (1, .int v1), (2, .int v2), (3, .int v3), (4, .int v4), (5, .int v5), (6, .int (v6 + 1)), (7, .int (I (a + 2 + 4) v6.toNatClampNeg))]) rfl rfl (congrArg (v6 + ·) (by decide)) rfl rfl ?_
                  refine lh_goto rfl ?_
                  refine lh_less [0, 1, 2, 3, 4, 5, 6] rfl ?_
                  exact ih v5 (v6 + 1) I _ hf x0_
                · have hf := lh_ifF hf c22
                  refine lh_iinc (q := 5) (v := (v5 + (-1))) (lv' := [(0, .ref (a + 1 + 4)), (1, .int v1), (2, .int v2), (3, .int v3), (4, .int v4), (5, .int (v5 + (-1))), (6, .int v6), (7, .int (I (a + 2 + 4) v6.toNatClampNeg))]) rfl rfl (congrArg (v5 + ·) (by decide)) rfl rfl ?_
                  refine lh_aload_n (q := 0) rfl rfl rfl ?_
                  refine lh_getR4 rfl rfl (ha.1 1 _ rfl) rfl (ha.2 2 _ rfl) ?_
                  refine lh_iload (q := 5) rfl rfl ?_
                  refine lh_iconst rfl lh_k_1 ?_
                  refine lh_isub rfl ?_
                  refine lh_iload (q := 7) rfl rfl ?_
                  refine lh_ineg rfl ?_
                  refine lh_aload_n (q := 0) rfl rfl rfl ?_
                  refine lh_getR4 rfl rfl (ha.1 1 _ rfl) rfl (ha.2 2 _ rfl) ?_
                  refine lh_iload (q := 5) rfl rfl ?_
                  refine lh_iconst rfl lh_k_1 ?_
                  refine lh_isub rfl ?_
                  obtain ⟨g23, hf⟩ := lh_gdE hf
                  refine lh_iald4 rfl (ha.1 3 _ rfl) g23 ?_
                  refine lh_aload_n (q := 0) rfl rfl rfl ?_
                  refine lh_getR4 rfl rfl (ha.1 1 _ rfl) rfl (ha.2 2 _ rfl) ?_
                  refine lh_iload (q := 5) rfl rfl ?_
                  obtain ⟨g24, hf⟩ := lh_gdE hf
                  refine lh_iald4 rfl (ha.1 3 _ rfl) g24 ?_
                  refine lh_bdE hf (fun r25 e26 hf => ?_)
                  refine lh_cSi (N := m_La_joined) (d := 0) (As := [.int (-(I (a + 2 + 4) v6.toNatClampNeg)), .int (I (a + 3 + 4) ((v5 + (-1)) - 1).toNatClampNeg), .int (I (a + 3 + 4) (v5 + (-1)).toNatClampNeg)]) (st := [.int ((v5 + (-1)) - 1), .ref (a + 3 + 4)]) rfl rfl v_La_joined rfl rfl ⟨rfl, rfl⟩ rfl (t_La_joined hG hS e26 ?_)
                  obtain ⟨g27, hf⟩ := lh_gdE hf
                  refine lh_iast4 rfl (ha.1 3 _ rfl) g27 ?_
                  refine lh_iinc (q := 6) (v := (v6 + 1)) (lv' := [(0, .ref (a + 1 + 4)), (1, .int v1), (2, .int v2), (3, .int v3), (4, .int v4), (5, .int (v5 + (-1))), (6, .int (v6 + 1)), (7, .int (I (a + 2 + 4) v6.toNatClampNeg))]) rfl rfl (congrArg (v6 + ·) (by decide)) rfl rfl ?_
                  refine lh_goto rfl ?_
                  refine lh_less [0, 1, 2, 3, 4, 5, 6] rfl ?_
                  exact ih (v5 + (-1)) (v6 + 1) (lh_u2 I (a + 3 + 4) ((v5 + (-1)) - 1).toNatClampNeg r25) _ hf x0_
              · have hf := lh_ifF hf c21
                refine lh_aload_n (q := 0) rfl rfl rfl ?_
                refine lh_getR4 rfl rfl (ha.1 1 _ rfl) rfl (ha.2 2 _ rfl) ?_
                refine lh_iload (q := 5) rfl rfl ?_
                refine lh_iconst rfl lh_k_1 ?_
                refine lh_isub rfl ?_
                refine lh_aload_n (q := 0) rfl rfl rfl ?_
                refine lh_getR4 rfl rfl (ha.1 1 _ rfl) rfl (ha.2 2 _ rfl) ?_
                refine lh_iload (q := 5) rfl rfl ?_
                refine lh_iconst rfl lh_k_1 ?_
                refine lh_isub rfl ?_
                obtain ⟨g28, hf⟩ := lh_gdE hf
                refine lh_iald4 rfl (ha.1 3 _ rfl) g28 ?_
                refine lh_if_ne rfl (fun c29 => ?_) (fun c29 => ?_)
                · have hf := lh_ifF hf c29
                  refine lh_iconst rfl lh_k_0 ?_
                  obtain ⟨g30, hf⟩ := lh_gdE hf
                  refine lh_iast4 rfl (ha.1 3 _ rfl) g30 ?_
                  refine lh_goto rfl ?_
                  refine lh_iinc (q := 6) (v := (v6 + 1)) (lv' := [(0, .ref (a + 1 + 4)), (1, .int v1), (2, .int v2), (3, .int v3), (4, .int v4), (5, .int v5), (6, .int (v6 + 1)), (7, .int (I (a + 2 + 4) v6.toNatClampNeg))]) rfl rfl (congrArg (v6 + ·) (by decide)) rfl rfl ?_
                  refine lh_goto rfl ?_
                  refine lh_less [0, 1, 2, 3, 4, 5, 6] rfl ?_
                  exact ih v5 (v6 + 1) (lh_u2 I (a + 3 + 4) (v5 - 1).toNatClampNeg 0) _ hf x0_
                · have hf := lh_ifT hf c29
                  refine lh_iconst rfl lh_k_1 ?_
                  refine lh_goto rfl ?_
                  obtain ⟨g31, hf⟩ := lh_gdE hf
                  refine lh_iast4 rfl (ha.1 3 _ rfl) g31 ?_
                  refine lh_goto rfl ?_
                  refine lh_iinc (q := 6) (v := (v6 + 1)) (lv' := [(0, .ref (a + 1 + 4)), (1, .int v1), (2, .int v2), (3, .int v3), (4, .int v4), (5, .int v5), (6, .int (v6 + 1)), (7, .int (I (a + 2 + 4) v6.toNatClampNeg))]) rfl rfl (congrArg (v6 + ·) (by decide)) rfl rfl ?_
                  refine lh_goto rfl ?_
                  refine lh_less [0, 1, 2, 3, 4, 5, 6] rfl ?_
                  exact ih v5 (v6 + 1) (lh_u2 I (a + 3 + 4) (v5 - 1).toNatClampNeg 1) _ hf x0_
          · have hf := lh_ifF hf c13
            refine lh_iload (q := 5) rfl rfl ?_
            refine lh_aload_n (q := 0) rfl rfl rfl ?_
            refine lh_getR4 rfl rfl (ha.1 1 _ rfl) rfl (ha.2 2 _ rfl) ?_
            refine lh_alen (v := 32) rfl (ha.1 3 _ rfl) (by decide) (by decide) ?_
            refine lh_icmp_ge rfl (fun c32 => ?_) (fun c32 => ?_)
            · have hf := lh_ifT hf c32
              refine lh_iinc (q := 6) (v := (v6 + 1)) (lv' := [(0, .ref (a + 1 + 4)), (1, .int v1), (2, .int v2), (3, .int v3), (4, .int v4), (5, .int v5), (6, .int (v6 + 1)), (7, .int (I (a + 2 + 4) v6.toNatClampNeg))]) rfl rfl (congrArg (v6 + ·) (by decide)) rfl rfl ?_
              refine lh_goto rfl ?_
              refine lh_less [0, 1, 2, 3, 4, 5, 6] rfl ?_
              exact ih v5 (v6 + 1) I _ hf x0_
            · have hf := lh_ifF hf c32
              refine lh_aload_n (q := 0) rfl rfl rfl ?_
              refine lh_getR4 rfl rfl (ha.1 1 _ rfl) rfl (ha.2 2 _ rfl) ?_
              refine lh_iload (q := 5) rfl rfl ?_
              refine lh_iload (q := 7) rfl rfl ?_
              refine lh_if_lt rfl (fun c33 => ?_) (fun c33 => ?_)
              · have hf := lh_ifT hf c33
                refine lh_iload (q := 7) rfl rfl ?_
                refine lh_ineg rfl ?_
                refine lh_iload_n (q := 1) rfl rfl rfl ?_
                refine lh_iload_n (q := 2) rfl rfl rfl ?_
                refine lh_iload_n (q := 3) rfl rfl rfl ?_
                refine lh_iload (q := 4) rfl rfl ?_
                refine lh_bdE hf (fun r34 e35 hf => ?_)
                refine lh_cSi (N := m_La_factOf) (d := 0) (As := [.int (-(I (a + 2 + 4) v6.toNatClampNeg)), .int v1, .int v2, .int v3, .int v4]) (st := [.int v5, .ref (a + 3 + 4)]) rfl rfl v_La_factOf rfl rfl ⟨rfl, rfl⟩ rfl (t_La_factOf hG hS e35 ?_)
                obtain ⟨g36, hf⟩ := lh_gdE hf
                refine lh_iast4 rfl (ha.1 3 _ rfl) g36 ?_
                refine lh_iinc (q := 5) (v := (v5 + 1)) (lv' := [(0, .ref (a + 1 + 4)), (1, .int v1), (2, .int v2), (3, .int v3), (4, .int v4), (5, .int (v5 + 1)), (6, .int v6), (7, .int (I (a + 2 + 4) v6.toNatClampNeg))]) rfl rfl (congrArg (v5 + ·) (by decide)) rfl rfl ?_
                refine lh_goto rfl ?_
                refine lh_iinc (q := 6) (v := (v6 + 1)) (lv' := [(0, .ref (a + 1 + 4)), (1, .int v1), (2, .int v2), (3, .int v3), (4, .int v4), (5, .int (v5 + 1)), (6, .int (v6 + 1)), (7, .int (I (a + 2 + 4) v6.toNatClampNeg))]) rfl rfl (congrArg (v6 + ·) (by decide)) rfl rfl ?_
                refine lh_goto rfl ?_
                refine lh_less [0, 1, 2, 3, 4, 5, 6] rfl ?_
                exact ih (v5 + 1) (v6 + 1) (lh_u2 I (a + 3 + 4) v5.toNatClampNeg r34) _ hf x0_
              · have hf := lh_ifF hf c33
                refine lh_iload (q := 7) rfl rfl ?_
                refine lh_goto rfl ?_
                obtain ⟨g37, hf⟩ := lh_gdE hf
                refine lh_iast4 rfl (ha.1 3 _ rfl) g37 ?_
                refine lh_iinc (q := 5) (v := (v5 + 1)) (lv' := [(0, .ref (a + 1 + 4)), (1, .int v1), (2, .int v2), (3, .int v3), (4, .int v4), (5, .int (v5 + 1)), (6, .int v6), (7, .int (I (a + 2 + 4) v6.toNatClampNeg))]) rfl rfl (congrArg (v5 + ·) (by decide)) rfl rfl ?_
                refine lh_goto rfl ?_
                refine lh_iinc (q := 6) (v := (v6 + 1)) (lv' := [(0, .ref (a + 1 + 4)), (1, .int v1), (2, .int v2), (3, .int v3), (4, .int v4), (5, .int (v5 + 1)), (6, .int (v6 + 1)), (7, .int (I (a + 2 + 4) v6.toNatClampNeg))]) rfl rfl (congrArg (v6 + ·) (by decide)) rfl rfl ?_
                refine lh_goto rfl ?_
                refine lh_less [0, 1, 2, 3, 4, 5, 6] rfl ?_
                exact ih (v5 + 1) (v6 + 1) (lh_u2 I (a + 3 + 4) v5.toNatClampNeg (I (a + 2 + 4) v6.toNatClampNeg)) _ hf x0_
theorem t_La_dayShown {Γ : lh_Cx} {I : lh_II} {L : lh_LL} {F : lh_FF} {S : lh_SS} {K : Int32 → lh_Hp → Prop} {r : Int32 × lh_II} (hG : lh_GX Γ) (hS : lh_lay F S) {a : Nat} (ha : lh_hl F S a) {x1 : Int32} {x2 : Int32} {x3 : Int32} {x4 : Int32} (hf : f_La_dayShown a x1 x2 x3 x4 I = some r) (hK : K r.1 (r.2, L, F, S)) : lh_Met Γ m_La_dayShown 1 0 0 [.ref (a + 1 + 4), .int x1, .int x2, .int x3, .int x4] (I, L, F, S) (lh_ki K) := by
  rw [f_La_dayShown] at hf
  refine lh_ofG k_La_dayShown [(0, .ref (a + 1 + 4)), (1, .int x1), (2, .int x2), (3, .int x3), (4, .int x4)] rfl (Nat.le_of_ble_eq_true rfl) rfl ?_
  refine lh_iconst rfl lh_k_0 ?_
  refine lh_istore (lv' := [(0, .ref (a + 1 + 4)), (1, .int x1), (2, .int x2), (3, .int x3), (4, .int x4), (5, .int 0)]) rfl rfl rfl ?_
  refine lh_iconst rfl lh_k_0 ?_
  refine lh_istore (lv' := [(0, .ref (a + 1 + 4)), (1, .int x1), (2, .int x2), (3, .int x3), (4, .int x4), (5, .int 0), (6, .int 0)]) rfl rfl rfl ?_
  refine lh_bdE hf (fun r38 e39 hf => ?_)
  refine t_La_dayShown_4 hG hS ha _ 0 0 I _ e39 ?_
  refine lh_iload (q := 1) rfl rfl ?_
  refine lh_if_le rfl (fun c40 => ?_) (fun c40 => ?_)
  · have hf := lh_ifT hf c40
    refine lh_iconst rfl lh_k_0 ?_
    refine lh_istore (lv' := [(0, .ref (a + 1 + 4)), (5, .int r38.1), (6, .int 0)]) rfl rfl rfl ?_
    refine lh_iconst rfl lh_k_0 ?_
    refine lh_iconst rfl lh_k_3 ?_
    refine lh_iload (q := 2) rfl rfl ?_
    refine lh_min rfl rfl ⟨rfl, rfl⟩ rfl ?_
    refine lh_max rfl rfl ⟨rfl, rfl⟩ rfl ?_
    exact lh_iret rfl rfl rfl (by obtain rfl := Option.some.inj hf; exact hK)
  · have hf := lh_ifF hf c40
    refine lh_aload_n (q := 0) rfl rfl rfl ?_
    refine lh_getR4 rfl rfl (ha.1 1 _ rfl) rfl (ha.2 2 _ rfl) ?_
    refine lh_iload (q := 1) rfl rfl ?_
    refine lh_iconst rfl lh_k_1 ?_
    refine lh_isub rfl ?_
    obtain ⟨g41, hf⟩ := lh_gdE hf
    refine lh_iald4 rfl (ha.1 3 _ rfl) g41 ?_
    refine lh_goto rfl ?_
    refine lh_istore (lv' := [(0, .ref (a + 1 + 4)), (5, .int r38.1), (6, .int (r38.2 (a + 3 + 4) (r38.1 - 1).toNatClampNeg))]) rfl rfl rfl ?_
    refine lh_iconst rfl lh_k_0 ?_
    refine lh_iconst rfl lh_k_3 ?_
    refine lh_iload (q := 2) rfl rfl ?_
    refine lh_min rfl rfl ⟨rfl, rfl⟩ rfl ?_
    refine lh_max rfl rfl ⟨rfl, rfl⟩ rfl ?_
    exact lh_iret rfl rfl rfl (by obtain rfl := Option.some.inj hf; exact hK)
def f_Ha_bumpsOf_31 (a : Nat) (m : Nat) (v3 : Int32) (v4 : Int32) (I : lh_II) : Nat → Int32 → Int32 → Option (Int32)
  | 0, _, _ => none
  | n + 1, v5, v6 => if (I (a + 4) 11) ≤ v6 then some v5 else lh_gd (lh_ix v6 6) (if (I (a + 5 + 4) v6.toNatClampNeg) = v4 then lh_bd (f_Ha_placeOf a v6 (I (m + 4) 1) I) fun r11 => if r11 = v3 then lh_gd (lh_ix v6 6) (if (I (a + 4 + 4) v6.toNatClampNeg) = 1 then f_Ha_bumpsOf_31 a m v3 v4 I n (v5 + 2) (v6 + 1) else f_Ha_bumpsOf_31 a m v3 v4 I n (v5 + 1) (v6 + 1)) else f_Ha_bumpsOf_31 a m v3 v4 I n v5 (v6 + 1) else f_Ha_bumpsOf_31 a m v3 v4 I n v5 (v6 + 1))
def f_Ha_bumpsOf (a : Nat) (m : Nat) (x1 : Int32) (I : lh_II) : Option (Int32 × lh_II) := if x1 = 0 then some (0, I) else if (I (m + 4) 3) ≤ 0 then some (0, I) else lh_bd (f_Ha_canEnter a ((I (m + 4) 0) + x1) I) fun r3 => if r3 = 0 then some (0, I) else lh_bd (f_La_dayShown a (I (m + 4) 2) (I (m + 4) 3) (1 : Int32) (I (m + 4) 1) I) fun r6 => lh_bd (f_Ha_bumpsOf_31 a m ((I (m + 4) 0) + x1) r6.1 r6.2 lh_fuel 0 0) fun r16 => some (r16, r6.2)
theorem t_Ha_bumpsOf_31 {Γ : lh_Cx} {F : lh_FF} {S : lh_SS} {Z : List Frame → Array Value → State → State → Prop} (hG : lh_GX Γ) (hS : lh_lay F S) {a : Nat} (ha : lh_hl F S a) {m : Nat} (hm : S[m]? = some (10, 0)) {v3 : Int32} {v4 : Int32} {I : lh_II} {L : lh_LL} : ∀ (n : Nat) (v5 : Int32) (v6 : Int32) (o : Int32), f_Ha_bumpsOf_31 a m v3 v4 I n v5 v6 = some o → ∀ (x0_ : lh_G Γ m_Ha_bumpsOf (lh_R 3 0 0) Z 0 0 62 [(5, .int o)] [] (I, L, F, S)), lh_G Γ m_Ha_bumpsOf (lh_R 3 0 0) Z 0 0 31 [(0, .ref (a + 4)), (1, .ref (m + 4)), (3, .int v3), (4, .int v4), (5, .int v5), (6, .int v6)] [] (I, L, F, S) := by
  intro n
  induction n with
  | zero => intro v5 v6 o hf; cases hf
  | succ n ih =>
    intro v5 v6 o hf x0_
    rw [f_Ha_bumpsOf_31] at hf
    refine lh_iload (q := 5) rfl rfl ?_
    refine lh_aload_n (q := 0) rfl rfl rfl ?_
    refine lh_getI4 rfl rfl (ha.1 0 _ rfl) rfl ?_
    refine lh_icmp_ge rfl (fun c8 => ?_) (fun c8 => ?_)
    · have hf := lh_ifT hf c8
      exact lh_less [4] rfl (by cases hf; exact x0_)
    · have hf := lh_ifF hf c8
      refine lh_aload_n (q := 0) rfl rfl rfl ?_
      refine lh_getR4 rfl rfl (ha.1 0 _ rfl) rfl (ha.2 4 _ rfl) ?_
      refine lh_iload (q := 5) rfl rfl ?_
      obtain ⟨g9, hf⟩ := lh_gdE hf
      refine lh_iald4 rfl (ha.1 5 _ rfl) g9 ?_
      refine lh_iload (q := 3) rfl rfl ?_
      refine lh_icmp_ne rfl (fun c10 => ?_) (fun c10 => ?_)
      · have hf := lh_ifF hf c10
        refine lh_iinc (q := 5) (v := (v6 + 1)) (lv' := [(0, .ref (a + 4)), (1, .ref (m + 4)), (3, .int v3), (4, .int v4), (5, .int v5), (6, .int (v6 + 1))]) rfl rfl (congrArg (v6 + ·) (by decide)) rfl rfl ?_
        refine lh_goto rfl ?_
        exact ih v5 (v6 + 1) _ hf x0_
      · have hf := lh_ifT hf c10
        refine lh_aload_n (q := 0) rfl rfl rfl ?_
        refine lh_iload (q := 5) rfl rfl ?_
        refine lh_aload_n (q := 1) rfl rfl rfl ?_
        refine lh_getI4 rfl rfl hm rfl ?_
        refine lh_bdE hf (fun r11 e12 hf => ?_)
        refine lh_cVi (N := m_Ha_placeOf) (d := 1) (o := a) (As := [.int v6, .int (I (m + 4) 1)]) (st := []) rfl rfl v_Ha_placeOf (ha.1 0 _ rfl) rfl rfl rfl ⟨rfl, rfl⟩ rfl (t_Ha_placeOf hG hS ha e12 ?_)
        refine lh_iload_n (q := 2) rfl rfl rfl ?_
        refine lh_icmp_ne rfl (fun c13 => ?_) (fun c13 => ?_)
        · have hf := lh_ifF hf c13
          refine lh_iinc (q := 5) (v := (v6 + 1)) (lv' := [(0, .ref (a + 4)), (1, .ref (m + 4)), (3, .int v3), (4, .int v4), (5, .int v5), (6, .int (v6 + 1))]) rfl rfl (congrArg (v6 + ·) (by decide)) rfl rfl ?_
          refine lh_goto rfl ?_
          exact ih v5 (v6 + 1) _ hf x0_
        · have hf := lh_ifT hf c13
          refine lh_iload (q := 4) rfl rfl ?_
          refine lh_aload_n (q := 0) rfl rfl rfl ?_
          refine lh_getR4 rfl rfl (ha.1 0 _ rfl) rfl (ha.2 3 _ rfl) ?_
          refine lh_iload (q := 5) rfl rfl ?_
          obtain ⟨g14, hf⟩ := lh_gdE hf
          refine lh_iald4 rfl (ha.1 4 _ rfl) g14 ?_
          refine lh_iconst rfl lh_k_1 ?_
          refine lh_icmp_ne rfl (fun c15 => ?_) (fun c15 => ?_)
          · have hf := lh_ifF hf c15
            refine lh_iconst rfl lh_k_1 ?_
            refine lh_iadd rfl ?_
            refine lh_istore (lv' := [(0, .ref (a + 4)), (1, .ref (m + 4)), (3, .int v3), (4, .int v4), (5, .int (v5 + 1)), (6, .int v6)]) rfl rfl rfl ?_
            refine lh_iinc (q := 5) (v := (v6 + 1)) (lv' := [(0, .ref (a + 4)), (1, .ref (m + 4)), (3, .int v3), (4, .int v4), (5, .int (v5 + 1)), (6, .int (v6 + 1))]) rfl rfl (congrArg (v6 + ·) (by decide)) rfl rfl ?_
            refine lh_goto rfl ?_
            exact ih (v5 + 1) (v6 + 1) _ hf x0_
          · have hf := lh_ifT hf c15
            refine lh_iconst rfl lh_k_2 ?_
            refine lh_goto rfl ?_
            refine lh_iadd rfl ?_
            refine lh_istore (lv' := [(0, .ref (a + 4)), (1, .ref (m + 4)), (3, .int v3), (4, .int v4), (5, .int (v5 + 2)), (6, .int v6)]) rfl rfl rfl ?_
            refine lh_iinc (q := 5) (v := (v6 + 1)) (lv' := [(0, .ref (a + 4)), (1, .ref (m + 4)), (3, .int v3), (4, .int v4), (5, .int (v5 + 2)), (6, .int (v6 + 1))]) rfl rfl (congrArg (v6 + ·) (by decide)) rfl rfl ?_
            refine lh_goto rfl ?_
            exact ih (v5 + 2) (v6 + 1) _ hf x0_
theorem t_Ha_bumpsOf {Γ : lh_Cx} {I : lh_II} {L : lh_LL} {F : lh_FF} {S : lh_SS} {K : Int32 → lh_Hp → Prop} {r : Int32 × lh_II} (hG : lh_GX Γ) (hS : lh_lay F S) {a : Nat} (ha : lh_hl F S a) {m : Nat} (hm : S[m]? = some (10, 0)) {x1 : Int32} (hf : f_Ha_bumpsOf a m x1 I = some r) (hK : K r.1 (r.2, L, F, S)) : lh_Met Γ m_Ha_bumpsOf 3 0 0 [.ref (a + 4), .ref (m + 4), .int x1] (I, L, F, S) (lh_ki K) := by
  rw [f_Ha_bumpsOf] at hf
  refine lh_ofG k_Ha_bumpsOf [(0, .ref (a + 4)), (1, .ref (m + 4)), (2, .int x1)] rfl (Nat.le_of_ble_eq_true rfl) rfl ?_
  refine lh_aload_n (q := 1) rfl rfl rfl ?_
  refine lh_getI4 rfl rfl hm rfl ?_
  refine lh_iload_n (q := 2) rfl rfl rfl ?_
  refine lh_iadd rfl ?_
  refine lh_istore_n (lv' := [(0, .ref (a + 4)), (1, .ref (m + 4)), (2, .int x1), (3, .int ((I (m + 4) 0) + x1))]) rfl rfl rfl rfl ?_
  refine lh_iload_n (q := 2) rfl rfl rfl ?_
  refine lh_if_eq rfl (fun c1 => ?_) (fun c1 => ?_)
  · have hf := lh_ifT hf c1
    refine lh_iconst rfl lh_k_0 ?_
    exact lh_iret rfl rfl rfl (by obtain rfl := Option.some.inj hf; exact hK)
  · have hf := lh_ifF hf c1
    refine lh_aload_n (q := 1) rfl rfl rfl ?_
    refine lh_getI4 rfl rfl hm rfl ?_
    refine lh_if_le rfl (fun c2 => ?_) (fun c2 => ?_)
    · have hf := lh_ifT hf c2
      refine lh_iconst rfl lh_k_0 ?_
      exact lh_iret rfl rfl rfl (by obtain rfl := Option.some.inj hf; exact hK)
    · have hf := lh_ifF hf c2
      refine lh_aload_n (q := 0) rfl rfl rfl ?_
      refine lh_iload_n (q := 3) rfl rfl rfl ?_
      refine lh_bdE hf (fun r3 e4 hf => ?_)
      refine lh_cVi (N := m_Ha_canEnter) (d := 2) (o := a) (As := [.int ((I (m + 4) 0) + x1)]) (st := []) rfl rfl v_Ha_canEnter (ha.1 0 _ rfl) rfl rfl rfl ⟨rfl, rfl⟩ rfl (t_Ha_canEnter hG hS ha e4 ?_)
      refine lh_if_ne rfl (fun c5 => ?_) (fun c5 => ?_)
      · have hf := lh_ifF hf c5
        refine lh_aload_n (q := 0) rfl rfl rfl ?_
        refine lh_getR4 rfl rfl (ha.1 0 _ rfl) rfl (ha.2 0 _ rfl) ?_
        refine lh_aload_n (q := 1) rfl rfl rfl ?_
        refine lh_getI4 rfl rfl hm rfl ?_
        refine lh_aload_n (q := 1) rfl rfl rfl ?_
        refine lh_getI4 rfl rfl hm rfl ?_
        refine lh_iconst rfl lh_k_1 ?_
        refine lh_aload_n (q := 1) rfl rfl rfl ?_
        refine lh_getI4 rfl rfl hm rfl ?_
        refine lh_bdE hf (fun r6 e7 hf => ?_)
        refine lh_cVi (N := m_La_dayShown) (d := 1) (o := a + 1) (As := [.int (I (m + 4) 2), .int (I (m + 4) 3), .int 1, .int (I (m + 4) 1)]) (st := []) rfl rfl v_La_dayShown (ha.1 1 _ rfl) rfl rfl rfl ⟨rfl, rfl⟩ rfl (t_La_dayShown hG hS ha e7 ?_)
        refine lh_istore (lv' := [(0, .ref (a + 4)), (1, .ref (m + 4)), (2, .int x1), (3, .int ((I (m + 4) 0) + x1)), (4, .int r6.1)]) rfl rfl rfl ?_
        refine lh_iconst rfl lh_k_0 ?_
        refine lh_istore (lv' := [(0, .ref (a + 4)), (1, .ref (m + 4)), (2, .int x1), (3, .int ((I (m + 4) 0) + x1)), (4, .int r6.1), (5, .int 0)]) rfl rfl rfl ?_
        refine lh_iconst rfl lh_k_0 ?_
        refine lh_istore (lv' := [(0, .ref (a + 4)), (1, .ref (m + 4)), (2, .int x1), (3, .int ((I (m + 4) 0) + x1)), (4, .int r6.1), (5, .int 0), (6, .int 0)]) rfl rfl rfl ?_
        refine lh_bdE hf (fun r16 e17 hf => ?_)
        refine lh_less [0, 1, 3, 4, 5, 6] rfl ?_
        refine t_Ha_bumpsOf_31 hG hS ha hm _ 0 0 _ e17 ?_
        refine lh_iload (q := 0) rfl rfl ?_
        exact lh_iret rfl rfl rfl (by obtain rfl := Option.some.inj hf; exact hK)
      · have hf := lh_ifT hf c5
        refine lh_iconst rfl lh_k_0 ?_
        exact lh_iret rfl rfl rfl (by obtain rfl := Option.some.inj hf; exact hK)
def f_La_empty (a : Nat) (I : lh_II) : Option (lh_II) := some (lh_u2 I (a + 1 + 4) 2 0)
theorem t_La_empty {Γ : lh_Cx} {I : lh_II} {L : lh_LL} {F : lh_FF} {S : lh_SS} {K : lh_Hp → Prop} {r : lh_II} (hG : lh_GX Γ) (hS : lh_lay F S) {a : Nat} (ha : lh_hl F S a) (hf : f_La_empty a I = some r) (hK : K (r, L, F, S)) : lh_Met Γ m_La_empty 0 0 0 [.ref (a + 1 + 4)] (I, L, F, S) (lh_kv K) := by
  rw [f_La_empty] at hf
  refine lh_ofG k_La_empty [(0, .ref (a + 1 + 4))] rfl (Nat.le_of_ble_eq_true rfl) rfl ?_
  refine lh_aload_n (q := 0) rfl rfl rfl ?_
  refine lh_iconst rfl lh_k_0 ?_
  refine lh_putI4 rfl rfl (ha.1 1 _ rfl) rfl rfl ?_
  exact lh_vret rfl rfl (by obtain rfl := Option.some.inj hf; exact hK)
def f_La_put (a : Nat) (x1 : Int32) (I : lh_II) : Option (Int32 × lh_II) := if 1000 ≤ (I (a + 1 + 4) 2) then some (1, I) else lh_gd (lh_ix (I (a + 1 + 4) 2) 1000) (some (1, lh_u2 (lh_u2 I (a + 2 + 4) (I (a + 1 + 4) 2).toNatClampNeg x1) (a + 1 + 4) 2 (((lh_u2 I (a + 2 + 4) (I (a + 1 + 4) 2).toNatClampNeg x1) (a + 1 + 4) 2) + 1)))
theorem t_La_put {Γ : lh_Cx} {I : lh_II} {L : lh_LL} {F : lh_FF} {S : lh_SS} {K : Int32 → lh_Hp → Prop} {r : Int32 × lh_II} (hG : lh_GX Γ) (hS : lh_lay F S) {a : Nat} (ha : lh_hl F S a) {x1 : Int32} (hf : f_La_put a x1 I = some r) (hK : K r.1 (r.2, L, F, S)) : lh_Met Γ m_La_put 0 0 0 [.ref (a + 1 + 4), .int x1] (I, L, F, S) (lh_ki K) := by
  rw [f_La_put] at hf
  refine lh_ofG k_La_put [(0, .ref (a + 1 + 4)), (1, .int x1)] rfl (Nat.le_of_ble_eq_true rfl) rfl ?_
  refine lh_aload_n (q := 0) rfl rfl rfl ?_
  refine lh_getI4 rfl rfl (ha.1 1 _ rfl) rfl ?_
  refine lh_sipush rfl lh_s_1000 ?_
  refine lh_icmp_ge rfl (fun c1 => ?_) (fun c1 => ?_)
  · have hf := lh_ifT hf c1
    refine lh_iconst rfl lh_k_1 ?_
    exact lh_iret rfl rfl (by decide) (by obtain rfl := Option.some.inj hf; exact hK)
  · have hf := lh_ifF hf c1
    refine lh_aload_n (q := 0) rfl rfl rfl ?_
    refine lh_getR4 rfl rfl (ha.1 1 _ rfl) rfl (ha.2 1 _ rfl) ?_
    refine lh_aload_n (q := 0) rfl rfl rfl ?_
    refine lh_getI4 rfl rfl (ha.1 1 _ rfl) rfl ?_
    refine lh_iload_n (q := 1) rfl rfl rfl ?_
    obtain ⟨g2, hf⟩ := lh_gdE hf
    refine lh_iast4 rfl (ha.1 2 _ rfl) g2 ?_
    refine lh_aload_n (q := 0) rfl rfl rfl ?_
    refine lh_dup rfl rfl ?_
    refine lh_getI4 rfl rfl (ha.1 1 _ rfl) rfl ?_
    refine lh_iconst rfl lh_k_1 ?_
    refine lh_iadd rfl ?_
    refine lh_putI4 rfl rfl (ha.1 1 _ rfl) rfl rfl ?_
    refine lh_iconst rfl lh_k_1 ?_
    exact lh_iret rfl rfl (by decide) (by obtain rfl := Option.some.inj hf; exact hK)
def f_La_clear (a : Nat) (I : lh_II) : Option (lh_II) := lh_bd (f_La_empty a I) fun r1 => lh_bd (f_La_put a ((-23) : Int32) r1) fun r3 => some r3.2
theorem t_La_clear {Γ : lh_Cx} {I : lh_II} {L : lh_LL} {F : lh_FF} {S : lh_SS} {K : lh_Hp → Prop} {r : lh_II} (hG : lh_GX Γ) (hS : lh_lay F S) {a : Nat} (ha : lh_hl F S a) (hf : f_La_clear a I = some r) (hK : K (r, L, F, S)) : lh_Met Γ m_La_clear 1 0 0 [.ref (a + 1 + 4)] (I, L, F, S) (lh_kv K) := by
  rw [f_La_clear] at hf
  refine lh_ofG k_La_clear [(0, .ref (a + 1 + 4))] rfl (Nat.le_of_ble_eq_true rfl) rfl ?_
  refine lh_aload_n (q := 0) rfl rfl rfl ?_
  refine lh_bdE hf (fun r1 e2 hf => ?_)
  refine lh_cVv (N := m_La_empty) (d := 0) (o := a + 1) (As := []) (st := []) rfl rfl v_La_empty (ha.1 1 _ rfl) rfl rfl rfl ⟨rfl, rfl⟩ rfl (t_La_empty hG hS ha e2 ?_)
  refine lh_aload_n (q := 0) rfl rfl rfl ?_
  refine lh_bipush rfl lh_b_m23 ?_
  refine lh_bdE hf (fun r3 e4 hf => ?_)
  refine lh_cVi (N := m_La_put) (d := 0) (o := a + 1) (As := [.int (-23)]) (st := []) rfl rfl v_La_put (ha.1 1 _ rfl) rfl rfl rfl ⟨rfl, rfl⟩ rfl (t_La_put hG hS ha e4 ?_)
  refine lh_pop rfl rfl ?_
  exact lh_vret rfl rfl (by obtain rfl := Option.some.inj hf; exact hK)
def f_Ha_clear (a : Nat) (I : lh_II) : Option (lh_II) := lh_bd (f_La_clear a (lh_u2 (lh_u2 (lh_u2 (lh_u2 (lh_u2 (lh_u2 (lh_u2 (lh_u2 I (a + 4) 9 8) (a + 4) 10 0) (a + 4) 11 0) (a + 4) 12 0) (a + 4) 13 2) (a + 4) 14 30) (a + 4) 15 0) (a + 4) 16 0)) fun r1 => some r1
theorem t_Ha_clear {Γ : lh_Cx} {I : lh_II} {L : lh_LL} {F : lh_FF} {S : lh_SS} {K : lh_Hp → Prop} {r : lh_II} (hG : lh_GX Γ) (hS : lh_lay F S) {a : Nat} (ha : lh_hl F S a) (hf : f_Ha_clear a I = some r) (hK : K (r, L, F, S)) : lh_Met Γ m_Ha_clear 2 0 0 [.ref (a + 4)] (I, L, F, S) (lh_kv K) := by
  rw [f_Ha_clear] at hf
  refine lh_ofG k_Ha_clear [(0, .ref (a + 4))] rfl (Nat.le_of_ble_eq_true rfl) rfl ?_
  refine lh_aload_n (q := 0) rfl rfl rfl ?_
  refine lh_bipush rfl lh_b_8 ?_
  refine lh_putI4 rfl rfl (ha.1 0 _ rfl) rfl rfl ?_
  refine lh_aload_n (q := 0) rfl rfl rfl ?_
  refine lh_iconst rfl lh_k_0 ?_
  refine lh_putI4 rfl rfl (ha.1 0 _ rfl) rfl rfl ?_
  refine lh_aload_n (q := 0) rfl rfl rfl ?_
  refine lh_iconst rfl lh_k_0 ?_
  refine lh_putI4 rfl rfl (ha.1 0 _ rfl) rfl rfl ?_
  refine lh_aload_n (q := 0) rfl rfl rfl ?_
  refine lh_iconst rfl lh_k_0 ?_
  refine lh_putI4 rfl rfl (ha.1 0 _ rfl) rfl rfl ?_
  refine lh_aload_n (q := 0) rfl rfl rfl ?_
  refine lh_iconst rfl lh_k_2 ?_
  refine lh_putI4 rfl rfl (ha.1 0 _ rfl) rfl rfl ?_
  refine lh_aload_n (q := 0) rfl rfl rfl ?_
  refine lh_bipush rfl lh_b_30 ?_
  refine lh_putI4 rfl rfl (ha.1 0 _ rfl) rfl rfl ?_
  refine lh_aload_n (q := 0) rfl rfl rfl ?_
  refine lh_iconst rfl lh_k_0 ?_
  refine lh_putI4 rfl rfl (ha.1 0 _ rfl) rfl rfl ?_
  refine lh_aload_n (q := 0) rfl rfl rfl ?_
  refine lh_iconst rfl lh_k_0 ?_
  refine lh_putI4 rfl rfl (ha.1 0 _ rfl) rfl rfl ?_
  refine lh_aload_n (q := 0) rfl rfl rfl ?_
  refine lh_getR4 rfl rfl (ha.1 0 _ rfl) rfl (ha.2 0 _ rfl) ?_
  refine lh_bdE hf (fun r1 e2 hf => ?_)
  refine lh_cVv (N := m_La_clear) (d := 1) (o := a + 1) (As := []) (st := []) rfl rfl v_La_clear (ha.1 1 _ rfl) rfl rfl rfl ⟨rfl, rfl⟩ rfl (t_La_clear hG hS ha e2 ?_)
  exact lh_vret rfl rfl (by obtain rfl := Option.some.inj hf; exact hK)
def f_Ha_closedCells (a : Nat) (x1 : Int32) (x2 : Int32) (x3 : Int32) (I : lh_II) : Option (Int32 × lh_II) := if x2 ≤ 0 then some ((I (a + 4) 10), I) else lh_bd (f_La_dayShown a x1 x2 (1 : Int32) x3 I) fun r2 => lh_bd (f_Ha_cellsWithSomebody a r2.1 x3 r2.2) fun r4 => some (((I (a + 4) 10) ||| r4), r2.2)
theorem t_Ha_closedCells {Γ : lh_Cx} {I : lh_II} {L : lh_LL} {F : lh_FF} {S : lh_SS} {K : Int32 → lh_Hp → Prop} {r : Int32 × lh_II} (hG : lh_GX Γ) (hS : lh_lay F S) {a : Nat} (ha : lh_hl F S a) {x1 : Int32} {x2 : Int32} {x3 : Int32} (hf : f_Ha_closedCells a x1 x2 x3 I = some r) (hK : K r.1 (r.2, L, F, S)) : lh_Met Γ m_Ha_closedCells 3 0 0 [.ref (a + 4), .int x1, .int x2, .int x3] (I, L, F, S) (lh_ki K) := by
  rw [f_Ha_closedCells] at hf
  refine lh_ofG k_Ha_closedCells [(0, .ref (a + 4)), (1, .int x1), (2, .int x2), (3, .int x3)] rfl (Nat.le_of_ble_eq_true rfl) rfl ?_
  refine lh_iload_n (q := 2) rfl rfl rfl ?_
  refine lh_if_le rfl (fun c1 => ?_) (fun c1 => ?_)
  · have hf := lh_ifT hf c1
    refine lh_aload_n (q := 0) rfl rfl rfl ?_
    refine lh_getI4 rfl rfl (ha.1 0 _ rfl) rfl ?_
    exact lh_iret rfl rfl rfl (by obtain rfl := Option.some.inj hf; exact hK)
  · have hf := lh_ifF hf c1
    refine lh_aload_n (q := 0) rfl rfl rfl ?_
    refine lh_getI4 rfl rfl (ha.1 0 _ rfl) rfl ?_
    refine lh_aload_n (q := 0) rfl rfl rfl ?_
    refine lh_aload_n (q := 0) rfl rfl rfl ?_
    refine lh_getR4 rfl rfl (ha.1 0 _ rfl) rfl (ha.2 0 _ rfl) ?_
    refine lh_iload_n (q := 1) rfl rfl rfl ?_
    refine lh_iload_n (q := 2) rfl rfl rfl ?_
    refine lh_iconst rfl lh_k_1 ?_
    refine lh_iload_n (q := 3) rfl rfl rfl ?_
    refine lh_bdE hf (fun r2 e3 hf => ?_)
    refine lh_cVi (N := m_La_dayShown) (d := 1) (o := a + 1) (As := [.int x1, .int x2, .int 1, .int x3]) (st := [.ref (a + 4), .int (I (a + 4) 10)]) rfl rfl v_La_dayShown (ha.1 1 _ rfl) rfl rfl rfl ⟨rfl, rfl⟩ rfl (t_La_dayShown hG hS ha e3 ?_)
    refine lh_iload_n (q := 3) rfl rfl rfl ?_
    refine lh_bdE hf (fun r4 e5 hf => ?_)
    refine lh_cVi (N := m_Ha_cellsWithSomebody) (d := 2) (o := a) (As := [.int r2.1, .int x3]) (st := [.int (I (a + 4) 10)]) rfl rfl v_Ha_cellsWithSomebody (ha.1 0 _ rfl) rfl rfl rfl ⟨rfl, rfl⟩ rfl (t_Ha_cellsWithSomebody hG hS ha e5 ?_)
    refine lh_ior rfl ?_
    refine lh_goto rfl ?_
    exact lh_iret rfl rfl rfl (by obtain rfl := Option.some.inj hf; exact hK)
def f_Ha_daysWithSomebody_4 (a : Nat) (v1 : Int32) (v2 : Int32) (I : lh_II) : Nat → Int32 → Int32 → Option (Int32)
  | 0, _, _ => none
  | n + 1, v3, v4 => if (I (a + 4) 11) ≤ v4 then some v3 else lh_bd (f_Ha_placeOf a v4 v1 I) fun r2 => if r2 = v2 then lh_gd (lh_ix v4 6) (f_Ha_daysWithSomebody_4 a v1 v2 I n (v3 ||| ((1 : Int32) <<< ((I (a + 5 + 4) v4.toNatClampNeg) &&& 31))) (v4 + 1)) else f_Ha_daysWithSomebody_4 a v1 v2 I n v3 (v4 + 1)
def f_Ha_daysWithSomebody (a : Nat) (x1 : Int32) (x2 : Int32) (I : lh_II) : Option (Int32) := lh_bd (f_Ha_daysWithSomebody_4 a x1 x2 I lh_fuel 0 0) fun r6 => some r6
theorem t_Ha_daysWithSomebody_4 {Γ : lh_Cx} {F : lh_FF} {S : lh_SS} {Z : List Frame → Array Value → State → State → Prop} (hG : lh_GX Γ) (hS : lh_lay F S) {a : Nat} (ha : lh_hl F S a) {v1 : Int32} {v2 : Int32} {I : lh_II} {L : lh_LL} : ∀ (n : Nat) (v3 : Int32) (v4 : Int32) (o : Int32), f_Ha_daysWithSomebody_4 a v1 v2 I n v3 v4 = some o → ∀ (x0_ : lh_G Γ m_Ha_daysWithSomebody (lh_R 2 0 0) Z 0 0 25 [(3, .int o)] [] (I, L, F, S)), lh_G Γ m_Ha_daysWithSomebody (lh_R 2 0 0) Z 0 0 4 [(0, .ref (a + 4)), (1, .int v1), (2, .int v2), (3, .int v3), (4, .int v4)] [] (I, L, F, S) := by
  intro n
  induction n with
  | zero => intro v3 v4 o hf; cases hf
  | succ n ih =>
    intro v3 v4 o hf x0_
    rw [f_Ha_daysWithSomebody_4] at hf
    refine lh_iload (q := 4) rfl rfl ?_
    refine lh_aload_n (q := 0) rfl rfl rfl ?_
    refine lh_getI4 rfl rfl (ha.1 0 _ rfl) rfl ?_
    refine lh_icmp_ge rfl (fun c1 => ?_) (fun c1 => ?_)
    · have hf := lh_ifT hf c1
      exact lh_less [3] rfl (by cases hf; exact x0_)
    · have hf := lh_ifF hf c1
      refine lh_aload_n (q := 0) rfl rfl rfl ?_
      refine lh_iload (q := 4) rfl rfl ?_
      refine lh_iload_n (q := 1) rfl rfl rfl ?_
      refine lh_bdE hf (fun r2 e3 hf => ?_)
      refine lh_cVi (N := m_Ha_placeOf) (d := 1) (o := a) (As := [.int v4, .int v1]) (st := []) rfl rfl v_Ha_placeOf (ha.1 0 _ rfl) rfl rfl rfl ⟨rfl, rfl⟩ rfl (t_Ha_placeOf hG hS ha e3 ?_)
      refine lh_iload_n (q := 2) rfl rfl rfl ?_
      refine lh_icmp_ne rfl (fun c4 => ?_) (fun c4 => ?_)
      · have hf := lh_ifF hf c4
        refine lh_iinc (q := 4) (v := (v4 + 1)) (lv' := [(0, .ref (a + 4)), (1, .int v1), (2, .int v2), (3, .int v3), (4, .int (v4 + 1))]) rfl rfl (congrArg (v4 + ·) (by decide)) rfl rfl ?_
        refine lh_goto rfl ?_
        exact ih v3 (v4 + 1) _ hf x0_
      · have hf := lh_ifT hf c4
        refine lh_iload_n (q := 3) rfl rfl rfl ?_
        refine lh_iconst rfl lh_k_1 ?_
        refine lh_aload_n (q := 0) rfl rfl rfl ?_
        refine lh_getR4 rfl rfl (ha.1 0 _ rfl) rfl (ha.2 4 _ rfl) ?_
        refine lh_iload (q := 4) rfl rfl ?_
        obtain ⟨g5, hf⟩ := lh_gdE hf
        refine lh_iald4 rfl (ha.1 5 _ rfl) g5 ?_
        refine lh_ishl rfl ?_
        refine lh_ior rfl ?_
        refine lh_istore_n (lv' := [(0, .ref (a + 4)), (1, .int v1), (2, .int v2), (3, .int (v3 ||| ((1 : Int32) <<< ((I (a + 5 + 4) v4.toNatClampNeg) &&& 31)))), (4, .int v4)]) rfl rfl rfl rfl ?_
        refine lh_iinc (q := 4) (v := (v4 + 1)) (lv' := [(0, .ref (a + 4)), (1, .int v1), (2, .int v2), (3, .int (v3 ||| ((1 : Int32) <<< ((I (a + 5 + 4) v4.toNatClampNeg) &&& 31)))), (4, .int (v4 + 1))]) rfl rfl (congrArg (v4 + ·) (by decide)) rfl rfl ?_
        refine lh_goto rfl ?_
        exact ih (v3 ||| ((1 : Int32) <<< ((I (a + 5 + 4) v4.toNatClampNeg) &&& 31))) (v4 + 1) _ hf x0_
theorem t_Ha_daysWithSomebody {Γ : lh_Cx} {I : lh_II} {L : lh_LL} {F : lh_FF} {S : lh_SS} {K : Int32 → lh_Hp → Prop} {r : Int32} (hG : lh_GX Γ) (hS : lh_lay F S) {a : Nat} (ha : lh_hl F S a) {x1 : Int32} {x2 : Int32} (hf : f_Ha_daysWithSomebody a x1 x2 I = some r) (hK : K r (I, L, F, S)) : lh_Met Γ m_Ha_daysWithSomebody 2 0 0 [.ref (a + 4), .int x1, .int x2] (I, L, F, S) (lh_ki K) := by
  rw [f_Ha_daysWithSomebody] at hf
  refine lh_ofG k_Ha_daysWithSomebody [(0, .ref (a + 4)), (1, .int x1), (2, .int x2)] rfl (Nat.le_of_ble_eq_true rfl) rfl ?_
  refine lh_iconst rfl lh_k_0 ?_
  refine lh_istore_n (lv' := [(0, .ref (a + 4)), (1, .int x1), (2, .int x2), (3, .int 0)]) rfl rfl rfl rfl ?_
  refine lh_iconst rfl lh_k_0 ?_
  refine lh_istore (lv' := [(0, .ref (a + 4)), (1, .int x1), (2, .int x2), (3, .int 0), (4, .int 0)]) rfl rfl rfl ?_
  refine lh_bdE hf (fun r6 e7 hf => ?_)
  refine t_Ha_daysWithSomebody_4 hG hS ha _ 0 0 _ e7 ?_
  refine lh_iload_n (q := 0) rfl rfl rfl ?_
  exact lh_iret rfl rfl rfl (by obtain rfl := Option.some.inj hf; exact hK)
def f_Ha_fellowAt (a : Nat) (x1 : Int32) (I : lh_II) : Option (Int32) := if (I (a + 4) 16) ≤ 0 then some (-1) else if x1 < 0 then some (-1) else lh_gd (!decide ((I (a + 4) 16) = 0)) (lh_gd (lh_ix (x1 - x1 / (I (a + 4) 16) * (I (a + 4) 16)) 8) (some (I (a + 9 + 4) (x1 - x1 / (I (a + 4) 16) * (I (a + 4) 16)).toNatClampNeg)))
theorem t_Ha_fellowAt {Γ : lh_Cx} {I : lh_II} {L : lh_LL} {F : lh_FF} {S : lh_SS} {K : Int32 → lh_Hp → Prop} {r : Int32} (hG : lh_GX Γ) (hS : lh_lay F S) {a : Nat} (ha : lh_hl F S a) {x1 : Int32} (hf : f_Ha_fellowAt a x1 I = some r) (hK : K r (I, L, F, S)) : lh_Met Γ m_Ha_fellowAt 0 0 0 [.ref (a + 4), .int x1] (I, L, F, S) (lh_ki K) := by
  rw [f_Ha_fellowAt] at hf
  refine lh_ofG k_Ha_fellowAt [(0, .ref (a + 4)), (1, .int x1)] rfl (Nat.le_of_ble_eq_true rfl) rfl ?_
  refine lh_aload_n (q := 0) rfl rfl rfl ?_
  refine lh_getI4 rfl rfl (ha.1 0 _ rfl) rfl ?_
  refine lh_if_le rfl (fun c1 => ?_) (fun c1 => ?_)
  · have hf := lh_ifT hf c1
    refine lh_iconst rfl lh_k_m1 ?_
    exact lh_iret rfl rfl rfl (by obtain rfl := Option.some.inj hf; exact hK)
  · have hf := lh_ifF hf c1
    refine lh_iload_n (q := 1) rfl rfl rfl ?_
    refine lh_if_lt rfl (fun c2 => ?_) (fun c2 => ?_)
    · have hf := lh_ifT hf c2
      refine lh_iconst rfl lh_k_m1 ?_
      exact lh_iret rfl rfl rfl (by obtain rfl := Option.some.inj hf; exact hK)
    · have hf := lh_ifF hf c2
      refine lh_aload_n (q := 0) rfl rfl rfl ?_
      refine lh_getR4 rfl rfl (ha.1 0 _ rfl) rfl (ha.2 8 _ rfl) ?_
      refine lh_iload_n (q := 1) rfl rfl rfl ?_
      refine lh_aload_n (q := 0) rfl rfl rfl ?_
      refine lh_getI4 rfl rfl (ha.1 0 _ rfl) rfl ?_
      obtain ⟨g3, hf⟩ := lh_gdE hf
      refine lh_irem rfl (by simpa using g3) ?_
      obtain ⟨g4, hf⟩ := lh_gdE hf
      refine lh_iald4 rfl (ha.1 9 _ rfl) g4 ?_
      refine lh_goto rfl ?_
      exact lh_iret rfl rfl rfl (by obtain rfl := Option.some.inj hf; exact hK)
def f_Ha_firstThiefIn_2 (a : Nat) (v1 : Int32) (v2 : Int32) (v3 : Int32) (I : lh_II) : Nat → Int32 → Option (Nat × Int32)
  | 0, _ => none
  | n + 1, v4 => if (I (a + 4) 11) ≤ v4 then some (1, v4) else lh_gd (lh_ix v4 6) (if (I (a + 4 + 4) v4.toNatClampNeg) = 3 then lh_gd (lh_ix v4 6) (if (I (a + 5 + 4) v4.toNatClampNeg) = v2 then lh_bd (f_Ha_placeOf a v4 v3 I) fun r6 => if r6 = v1 then some (0, v4) else f_Ha_firstThiefIn_2 a v1 v2 v3 I n (v4 + 1) else f_Ha_firstThiefIn_2 a v1 v2 v3 I n (v4 + 1)) else f_Ha_firstThiefIn_2 a v1 v2 v3 I n (v4 + 1))
def f_Ha_firstThiefIn (a : Nat) (x1 : Int32) (x2 : Int32) (x3 : Int32) (I : lh_II) : Option (Int32) := lh_bd (f_Ha_firstThiefIn_2 a x1 x2 x3 I lh_fuel 0) fun r9 => if r9.1 = 0 then some r9.2 else some (-1)
theorem t_Ha_firstThiefIn_2 {Γ : lh_Cx} {F : lh_FF} {S : lh_SS} {Z : List Frame → Array Value → State → State → Prop} (hG : lh_GX Γ) (hS : lh_lay F S) {a : Nat} (ha : lh_hl F S a) {v1 : Int32} {v2 : Int32} {v3 : Int32} {I : lh_II} {L : lh_LL} : ∀ (n : Nat) (v4 : Int32) (o : Nat × Int32), f_Ha_firstThiefIn_2 a v1 v2 v3 I n v4 = some o → ∀ (x0_ : o.1 = 0 → lh_G Γ m_Ha_firstThiefIn (lh_R 2 0 0) Z 0 0 24 [(4, .int o.2)] [] (I, L, F, S)), ∀ (x1_ : o.1 = 1 → lh_G Γ m_Ha_firstThiefIn (lh_R 2 0 0) Z 0 0 28 [] [] (I, L, F, S)), lh_G Γ m_Ha_firstThiefIn (lh_R 2 0 0) Z 0 0 2 [(0, .ref (a + 4)), (1, .int v1), (2, .int v2), (3, .int v3), (4, .int v4)] [] (I, L, F, S) := by
  intro n
  induction n with
  | zero => intro v4 o hf; cases hf
  | succ n ih =>
    intro v4 o hf x0_ x1_
    rw [f_Ha_firstThiefIn_2] at hf
    refine lh_iload (q := 4) rfl rfl ?_
    refine lh_aload_n (q := 0) rfl rfl rfl ?_
    refine lh_getI4 rfl rfl (ha.1 0 _ rfl) rfl ?_
    refine lh_icmp_ge rfl (fun c1 => ?_) (fun c1 => ?_)
    · have hf := lh_ifT hf c1
      exact lh_less [] rfl (by cases hf; exact x1_ rfl)
    · have hf := lh_ifF hf c1
      refine lh_aload_n (q := 0) rfl rfl rfl ?_
      refine lh_getR4 rfl rfl (ha.1 0 _ rfl) rfl (ha.2 3 _ rfl) ?_
      refine lh_iload (q := 4) rfl rfl ?_
      obtain ⟨g2, hf⟩ := lh_gdE hf
      refine lh_iald4 rfl (ha.1 4 _ rfl) g2 ?_
      refine lh_iconst rfl lh_k_3 ?_
      refine lh_icmp_ne rfl (fun c3 => ?_) (fun c3 => ?_)
      · have hf := lh_ifF hf c3
        refine lh_iinc (q := 4) (v := (v4 + 1)) (lv' := [(0, .ref (a + 4)), (1, .int v1), (2, .int v2), (3, .int v3), (4, .int (v4 + 1))]) rfl rfl (congrArg (v4 + ·) (by decide)) rfl rfl ?_
        refine lh_goto rfl ?_
        exact ih (v4 + 1) _ hf x0_ x1_
      · have hf := lh_ifT hf c3
        refine lh_aload_n (q := 0) rfl rfl rfl ?_
        refine lh_getR4 rfl rfl (ha.1 0 _ rfl) rfl (ha.2 4 _ rfl) ?_
        refine lh_iload (q := 4) rfl rfl ?_
        obtain ⟨g4, hf⟩ := lh_gdE hf
        refine lh_iald4 rfl (ha.1 5 _ rfl) g4 ?_
        refine lh_iload_n (q := 2) rfl rfl rfl ?_
        refine lh_icmp_ne rfl (fun c5 => ?_) (fun c5 => ?_)
        · have hf := lh_ifF hf c5
          refine lh_iinc (q := 4) (v := (v4 + 1)) (lv' := [(0, .ref (a + 4)), (1, .int v1), (2, .int v2), (3, .int v3), (4, .int (v4 + 1))]) rfl rfl (congrArg (v4 + ·) (by decide)) rfl rfl ?_
          refine lh_goto rfl ?_
          exact ih (v4 + 1) _ hf x0_ x1_
        · have hf := lh_ifT hf c5
          refine lh_aload_n (q := 0) rfl rfl rfl ?_
          refine lh_iload (q := 4) rfl rfl ?_
          refine lh_iload_n (q := 3) rfl rfl rfl ?_
          refine lh_bdE hf (fun r6 e7 hf => ?_)
          refine lh_cVi (N := m_Ha_placeOf) (d := 1) (o := a) (As := [.int v4, .int v3]) (st := []) rfl rfl v_Ha_placeOf (ha.1 0 _ rfl) rfl rfl rfl ⟨rfl, rfl⟩ rfl (t_Ha_placeOf hG hS ha e7 ?_)
          refine lh_iload_n (q := 1) rfl rfl rfl ?_
          refine lh_icmp_ne rfl (fun c8 => ?_) (fun c8 => ?_)
          · have hf := lh_ifF hf c8
            refine lh_iinc (q := 4) (v := (v4 + 1)) (lv' := [(0, .ref (a + 4)), (1, .int v1), (2, .int v2), (3, .int v3), (4, .int (v4 + 1))]) rfl rfl (congrArg (v4 + ·) (by decide)) rfl rfl ?_
            refine lh_goto rfl ?_
            exact ih (v4 + 1) _ hf x0_ x1_
          · have hf := lh_ifT hf c8
            exact lh_less [4] rfl (by cases hf; exact x0_ rfl)
theorem t_Ha_firstThiefIn {Γ : lh_Cx} {I : lh_II} {L : lh_LL} {F : lh_FF} {S : lh_SS} {K : Int32 → lh_Hp → Prop} {r : Int32} (hG : lh_GX Γ) (hS : lh_lay F S) {a : Nat} (ha : lh_hl F S a) {x1 : Int32} {x2 : Int32} {x3 : Int32} (hf : f_Ha_firstThiefIn a x1 x2 x3 I = some r) (hK : K r (I, L, F, S)) : lh_Met Γ m_Ha_firstThiefIn 2 0 0 [.ref (a + 4), .int x1, .int x2, .int x3] (I, L, F, S) (lh_ki K) := by
  rw [f_Ha_firstThiefIn] at hf
  refine lh_ofG k_Ha_firstThiefIn [(0, .ref (a + 4)), (1, .int x1), (2, .int x2), (3, .int x3)] rfl (Nat.le_of_ble_eq_true rfl) rfl ?_
  refine lh_iconst rfl lh_k_0 ?_
  refine lh_istore (lv' := [(0, .ref (a + 4)), (1, .int x1), (2, .int x2), (3, .int x3), (4, .int 0)]) rfl rfl rfl ?_
  refine lh_bdE hf (fun r9 e10 hf => ?_)
  refine t_Ha_firstThiefIn_2 hG hS ha _ 0 _ e10 (fun q0_ => ?_) (fun q1_ => ?_)
  · have hf := lh_ifT hf q0_
    refine lh_iload (q := 0) rfl rfl ?_
    exact lh_iret rfl rfl rfl (by obtain rfl := Option.some.inj hf; exact hK)
  · have hf := lh_ifF hf (by rw [q1_]; decide)
    refine lh_iconst rfl lh_k_m1 ?_
    exact lh_iret rfl rfl rfl (by obtain rfl := Option.some.inj hf; exact hK)
def f_Ha_hasVase (a : Nat) (x1 : Int32) (I : lh_II) : Option (Int32) := if x1 < 0 then some 0 else if (I (a + 4) 12) ≤ x1 then some 0 else some 1
theorem t_Ha_hasVase {Γ : lh_Cx} {I : lh_II} {L : lh_LL} {F : lh_FF} {S : lh_SS} {K : Int32 → lh_Hp → Prop} {r : Int32} (hG : lh_GX Γ) (hS : lh_lay F S) {a : Nat} (ha : lh_hl F S a) {x1 : Int32} (hf : f_Ha_hasVase a x1 I = some r) (hK : K r (I, L, F, S)) : lh_Met Γ m_Ha_hasVase 0 0 0 [.ref (a + 4), .int x1] (I, L, F, S) (lh_ki K) := by
  rw [f_Ha_hasVase] at hf
  refine lh_ofG k_Ha_hasVase [(0, .ref (a + 4)), (1, .int x1)] rfl (Nat.le_of_ble_eq_true rfl) rfl ?_
  refine lh_iload_n (q := 1) rfl rfl rfl ?_
  refine lh_if_lt rfl (fun c1 => ?_) (fun c1 => ?_)
  · have hf := lh_ifT hf c1
    refine lh_iconst rfl lh_k_0 ?_
    exact lh_iret rfl rfl (by decide) (by obtain rfl := Option.some.inj hf; exact hK)
  · have hf := lh_ifF hf c1
    refine lh_iload_n (q := 1) rfl rfl rfl ?_
    refine lh_aload_n (q := 0) rfl rfl rfl ?_
    refine lh_getI4 rfl rfl (ha.1 0 _ rfl) rfl ?_
    refine lh_icmp_ge rfl (fun c2 => ?_) (fun c2 => ?_)
    · have hf := lh_ifT hf c2
      refine lh_iconst rfl lh_k_0 ?_
      exact lh_iret rfl rfl (by decide) (by obtain rfl := Option.some.inj hf; exact hK)
    · have hf := lh_ifF hf c2
      refine lh_iconst rfl lh_k_1 ?_
      refine lh_goto rfl ?_
      exact lh_iret rfl rfl (by decide) (by obtain rfl := Option.some.inj hf; exact hK)
def f_Ha_hourTaken_7 (a : Nat) (v2 : Int32) (v3 : Int32) (I : lh_II) : Nat → Int32 → Option (Nat × Int32)
  | 0, _ => none
  | n + 1, v4 => if v3 = (-1) then some (1, v4) else if 8 ≤ v4 then some (1, v4) else lh_bd (f_Ha_firstThiefIn a v3 v2 v4 I) fun r4 => if r4 = (-1) then f_Ha_hourTaken_7 a v2 v3 I n (v4 + 1) else some (0, v4)
def f_Ha_hourTaken (a : Nat) (x1 : Int32) (x2 : Int32) (I : lh_II) : Option (Int32) := lh_gd (lh_ix x1 4) (lh_bd (f_Ha_hourTaken_7 a x2 (I (a + 8 + 4) x1.toNatClampNeg) I lh_fuel 0) fun r7 => if r7.1 = 0 then some r7.2 else some (-1))
theorem t_Ha_hourTaken_7 {Γ : lh_Cx} {F : lh_FF} {S : lh_SS} {Z : List Frame → Array Value → State → State → Prop} (hG : lh_GX Γ) (hS : lh_lay F S) {a : Nat} (ha : lh_hl F S a) {v2 : Int32} {v3 : Int32} {I : lh_II} {L : lh_LL} : ∀ (n : Nat) (v4 : Int32) (o : Nat × Int32), f_Ha_hourTaken_7 a v2 v3 I n v4 = some o → ∀ (x0_ : o.1 = 0 → lh_G Γ m_Ha_hourTaken (lh_R 3 0 0) Z 0 0 20 [(4, .int o.2)] [] (I, L, F, S)), ∀ (x1_ : o.1 = 1 → lh_G Γ m_Ha_hourTaken (lh_R 3 0 0) Z 0 0 24 [] [] (I, L, F, S)), lh_G Γ m_Ha_hourTaken (lh_R 3 0 0) Z 0 0 7 [(0, .ref (a + 4)), (2, .int v2), (3, .int v3), (4, .int v4)] [] (I, L, F, S) := by
  intro n
  induction n with
  | zero => intro v4 o hf; cases hf
  | succ n ih =>
    intro v4 o hf x0_ x1_
    rw [f_Ha_hourTaken_7] at hf
    refine lh_iload_n (q := 2) rfl rfl rfl ?_
    refine lh_iconst rfl lh_k_m1 ?_
    refine lh_icmp_eq rfl (fun c2 => ?_) (fun c2 => ?_)
    · have hf := lh_ifT hf c2
      exact lh_less [] rfl (by cases hf; exact x1_ rfl)
    · have hf := lh_ifF hf c2
      refine lh_iload (q := 3) rfl rfl ?_
      refine lh_bipush rfl lh_b_8 ?_
      refine lh_icmp_ge rfl (fun c3 => ?_) (fun c3 => ?_)
      · have hf := lh_ifT hf c3
        exact lh_less [] rfl (by cases hf; exact x1_ rfl)
      · have hf := lh_ifF hf c3
        refine lh_aload_n (q := 0) rfl rfl rfl ?_
        refine lh_iload_n (q := 2) rfl rfl rfl ?_
        refine lh_iload_n (q := 1) rfl rfl rfl ?_
        refine lh_iload (q := 3) rfl rfl ?_
        refine lh_bdE hf (fun r4 e5 hf => ?_)
        refine lh_cVi (N := m_Ha_firstThiefIn) (d := 2) (o := a) (As := [.int v3, .int v2, .int v4]) (st := []) rfl rfl v_Ha_firstThiefIn (ha.1 0 _ rfl) rfl rfl rfl ⟨rfl, rfl⟩ rfl (t_Ha_firstThiefIn hG hS ha e5 ?_)
        refine lh_iconst rfl lh_k_m1 ?_
        refine lh_icmp_eq rfl (fun c6 => ?_) (fun c6 => ?_)
        · have hf := lh_ifT hf c6
          refine lh_iinc (q := 3) (v := (v4 + 1)) (lv' := [(0, .ref (a + 4)), (2, .int v2), (3, .int v3), (4, .int (v4 + 1))]) rfl rfl (congrArg (v4 + ·) (by decide)) rfl rfl ?_
          refine lh_goto rfl ?_
          exact ih (v4 + 1) _ hf x0_ x1_
        · have hf := lh_ifF hf c6
          exact lh_less [3] rfl (by cases hf; exact x0_ rfl)
theorem t_Ha_hourTaken {Γ : lh_Cx} {I : lh_II} {L : lh_LL} {F : lh_FF} {S : lh_SS} {K : Int32 → lh_Hp → Prop} {r : Int32} (hG : lh_GX Γ) (hS : lh_lay F S) {a : Nat} (ha : lh_hl F S a) {x1 : Int32} {x2 : Int32} (hf : f_Ha_hourTaken a x1 x2 I = some r) (hK : K r (I, L, F, S)) : lh_Met Γ m_Ha_hourTaken 3 0 0 [.ref (a + 4), .int x1, .int x2] (I, L, F, S) (lh_ki K) := by
  rw [f_Ha_hourTaken] at hf
  refine lh_ofG k_Ha_hourTaken [(0, .ref (a + 4)), (1, .int x1), (2, .int x2)] rfl (Nat.le_of_ble_eq_true rfl) rfl ?_
  refine lh_aload_n (q := 0) rfl rfl rfl ?_
  refine lh_getR4 rfl rfl (ha.1 0 _ rfl) rfl (ha.2 7 _ rfl) ?_
  refine lh_iload_n (q := 1) rfl rfl rfl ?_
  obtain ⟨g1, hf⟩ := lh_gdE hf
  refine lh_iald4 rfl (ha.1 8 _ rfl) g1 ?_
  refine lh_istore_n (lv' := [(0, .ref (a + 4)), (1, .int x1), (2, .int x2), (3, .int (I (a + 8 + 4) x1.toNatClampNeg))]) rfl rfl rfl rfl ?_
  refine lh_iconst rfl lh_k_0 ?_
  refine lh_istore (lv' := [(0, .ref (a + 4)), (1, .int x1), (2, .int x2), (3, .int (I (a + 8 + 4) x1.toNatClampNeg)), (4, .int 0)]) rfl rfl rfl ?_
  refine lh_bdE hf (fun r7 e8 hf => ?_)
  refine lh_less [0, 2, 3, 4] rfl ?_
  refine t_Ha_hourTaken_7 hG hS ha _ 0 _ e8 (fun q0_ => ?_) (fun q1_ => ?_)
  · have hf := lh_ifT hf q0_
    refine lh_iload (q := 0) rfl rfl ?_
    exact lh_iret rfl rfl rfl (by obtain rfl := Option.some.inj hf; exact hK)
  · have hf := lh_ifF hf (by rw [q1_]; decide)
    refine lh_iconst rfl lh_k_m1 ?_
    exact lh_iret rfl rfl rfl (by obtain rfl := Option.some.inj hf; exact hK)
def f_Ha_lightAmong_6 (a : Nat) (v1 : Int32) (v2 : Int32) (I : lh_II) : Nat → Int32 → Int32 → Option (Nat × Int32)
  | 0, _, _ => none
  | n + 1, v3, v4 => if (I (a + 4) 13) < v4 then some (1, v3) else if (I (a + 4) 9) ≤ (v1 + v4) then some (1, v3) else if ((v2 >>> ((v1 + v4) &&& 31)) &&& 1) = 1 then some (0, (v3 ||| ((1 : Int32) <<< ((v1 + v4) &&& 31)))) else f_Ha_lightAmong_6 a v1 v2 I n (v3 ||| ((1 : Int32) <<< ((v1 + v4) &&& 31))) (v4 + 1)
def f_Ha_lightAmong_38 (a : Nat) (v1 : Int32) (v2 : Int32) (I : lh_II) : Nat → Int32 → Int32 → Option (Nat × Int32)
  | 0, _, _ => none
  | n + 1, v3, v4 => if (I (a + 4) 13) < v4 then some (1, v3) else if (v1 - v4) < 0 then some (1, v3) else if ((v2 >>> ((v1 - v4) &&& 31)) &&& 1) = 1 then some (0, (v3 ||| ((1 : Int32) <<< ((v1 - v4) &&& 31)))) else f_Ha_lightAmong_38 a v1 v2 I n (v3 ||| ((1 : Int32) <<< ((v1 - v4) &&& 31))) (v4 + 1)
def f_Ha_lightAmong (a : Nat) (x1 : Int32) (x2 : Int32) (I : lh_II) : Option (Int32) := lh_bd (f_Ha_lightAmong_6 a x1 x2 I lh_fuel ((1 : Int32) <<< (x1 &&& 31)) 1) fun r4 => if r4.1 = 0 then lh_bd (f_Ha_lightAmong_38 a x1 x2 I lh_fuel r4.2 1) fun r9 => if r9.1 = 0 then some r9.2 else some r9.2 else lh_bd (f_Ha_lightAmong_38 a x1 x2 I lh_fuel r4.2 1) fun r11 => if r11.1 = 0 then some r11.2 else some r11.2
theorem t_Ha_lightAmong_6 {Γ : lh_Cx} {F : lh_FF} {S : lh_SS} {Z : List Frame → Array Value → State → State → Prop} (hG : lh_GX Γ) (hS : lh_lay F S) {a : Nat} (ha : lh_hl F S a) {v1 : Int32} {v2 : Int32} {I : lh_II} {L : lh_LL} : ∀ (n : Nat) (v3 : Int32) (v4 : Int32) (o : Nat × Int32), f_Ha_lightAmong_6 a v1 v2 I n v3 v4 = some o → ∀ (x0_ : o.1 = 0 → lh_G Γ m_Ha_lightAmong (lh_R 0 0 0) Z 0 0 33 [(0, .ref (a + 4)), (1, .int v1), (2, .int v2), (3, .int o.2)] [] (I, L, F, S)), ∀ (x1_ : o.1 = 1 → lh_G Γ m_Ha_lightAmong (lh_R 0 0 0) Z 0 0 36 [(0, .ref (a + 4)), (1, .int v1), (2, .int v2), (3, .int o.2)] [] (I, L, F, S)), lh_G Γ m_Ha_lightAmong (lh_R 0 0 0) Z 0 0 6 [(0, .ref (a + 4)), (1, .int v1), (2, .int v2), (3, .int v3), (4, .int v4)] [] (I, L, F, S) := by
  intro n
  induction n with
  | zero => intro v3 v4 o hf; cases hf
  | succ n ih =>
    intro v3 v4 o hf x0_ x1_
    rw [f_Ha_lightAmong_6] at hf
    refine lh_iload (q := 4) rfl rfl ?_
    refine lh_aload_n (q := 0) rfl rfl rfl ?_
    refine lh_getI4 rfl rfl (ha.1 0 _ rfl) rfl ?_
    refine lh_icmp_gt rfl (fun c1 => ?_) (fun c1 => ?_)
    · have hf := lh_ifT hf c1
      exact lh_less [0, 1, 2, 3] rfl (by cases hf; exact x1_ rfl)
    · have hf := lh_ifF hf c1
      refine lh_iload_n (q := 1) rfl rfl rfl ?_
      refine lh_iload (q := 4) rfl rfl ?_
      refine lh_iadd rfl ?_
      refine lh_aload_n (q := 0) rfl rfl rfl ?_
      refine lh_getI4 rfl rfl (ha.1 0 _ rfl) rfl ?_
      refine lh_icmp_ge rfl (fun c2 => ?_) (fun c2 => ?_)
      · have hf := lh_ifT hf c2
        exact lh_less [0, 1, 2, 3] rfl (by cases hf; exact x1_ rfl)
      · have hf := lh_ifF hf c2
        refine lh_iload_n (q := 3) rfl rfl rfl ?_
        refine lh_iconst rfl lh_k_1 ?_
        refine lh_iload_n (q := 1) rfl rfl rfl ?_
        refine lh_iload (q := 4) rfl rfl ?_
        refine lh_iadd rfl ?_
        refine lh_ishl rfl ?_
        refine lh_ior rfl ?_
        refine lh_istore_n (lv' := [(0, .ref (a + 4)), (1, .int v1), (2, .int v2), (3, .int (v3 ||| ((1 : Int32) <<< ((v1 + v4) &&& 31)))), (4, .int v4)]) rfl rfl rfl rfl ?_
        refine lh_iload_n (q := 2) rfl rfl rfl ?_
        refine lh_iload_n (q := 1) rfl rfl rfl ?_
        refine lh_iload (q := 4) rfl rfl ?_
        refine lh_iadd rfl ?_
        refine lh_ishr rfl ?_
        refine lh_iconst rfl lh_k_1 ?_
        refine lh_iand rfl ?_
        refine lh_iconst rfl lh_k_1 ?_
        refine lh_icmp_ne rfl (fun c3 => ?_) (fun c3 => ?_)
        · have hf := lh_ifF hf c3
          refine lh_iinc (q := 4) (v := (v4 + 1)) (lv' := [(0, .ref (a + 4)), (1, .int v1), (2, .int v2), (3, .int (v3 ||| ((1 : Int32) <<< ((v1 + v4) &&& 31)))), (4, .int (v4 + 1))]) rfl rfl (congrArg (v4 + ·) (by decide)) rfl rfl ?_
          refine lh_goto rfl ?_
          exact ih (v3 ||| ((1 : Int32) <<< ((v1 + v4) &&& 31))) (v4 + 1) _ hf x0_ x1_
        · have hf := lh_ifT hf c3
          exact lh_less [0, 1, 2, 3] rfl (by cases hf; exact x0_ rfl)
theorem t_Ha_lightAmong_38 {Γ : lh_Cx} {F : lh_FF} {S : lh_SS} {Z : List Frame → Array Value → State → State → Prop} (hG : lh_GX Γ) (hS : lh_lay F S) {a : Nat} (ha : lh_hl F S a) {v1 : Int32} {v2 : Int32} {I : lh_II} {L : lh_LL} : ∀ (n : Nat) (v3 : Int32) (v4 : Int32) (o : Nat × Int32), f_Ha_lightAmong_38 a v1 v2 I n v3 v4 = some o → ∀ (x0_ : o.1 = 0 → lh_G Γ m_Ha_lightAmong (lh_R 0 0 0) Z 0 0 63 [(3, .int o.2)] [] (I, L, F, S)), ∀ (x1_ : o.1 = 1 → lh_G Γ m_Ha_lightAmong (lh_R 0 0 0) Z 0 0 66 [(3, .int o.2)] [] (I, L, F, S)), lh_G Γ m_Ha_lightAmong (lh_R 0 0 0) Z 0 0 38 [(0, .ref (a + 4)), (1, .int v1), (2, .int v2), (3, .int v3), (4, .int v4)] [] (I, L, F, S) := by
  intro n
  induction n with
  | zero => intro v3 v4 o hf; cases hf
  | succ n ih =>
    intro v3 v4 o hf x0_ x1_
    rw [f_Ha_lightAmong_38] at hf
    refine lh_iload (q := 4) rfl rfl ?_
    refine lh_aload_n (q := 0) rfl rfl rfl ?_
    refine lh_getI4 rfl rfl (ha.1 0 _ rfl) rfl ?_
    refine lh_icmp_gt rfl (fun c6 => ?_) (fun c6 => ?_)
    · have hf := lh_ifT hf c6
      exact lh_less [3] rfl (by cases hf; exact x1_ rfl)
    · have hf := lh_ifF hf c6
      refine lh_iload_n (q := 1) rfl rfl rfl ?_
      refine lh_iload (q := 4) rfl rfl ?_
      refine lh_isub rfl ?_
      refine lh_if_lt rfl (fun c7 => ?_) (fun c7 => ?_)
      · have hf := lh_ifT hf c7
        exact lh_less [3] rfl (by cases hf; exact x1_ rfl)
      · have hf := lh_ifF hf c7
        refine lh_iload_n (q := 3) rfl rfl rfl ?_
        refine lh_iconst rfl lh_k_1 ?_
        refine lh_iload_n (q := 1) rfl rfl rfl ?_
        refine lh_iload (q := 4) rfl rfl ?_
        refine lh_isub rfl ?_
        refine lh_ishl rfl ?_
        refine lh_ior rfl ?_
        refine lh_istore_n (lv' := [(0, .ref (a + 4)), (1, .int v1), (2, .int v2), (3, .int (v3 ||| ((1 : Int32) <<< ((v1 - v4) &&& 31)))), (4, .int v4)]) rfl rfl rfl rfl ?_
        refine lh_iload_n (q := 2) rfl rfl rfl ?_
        refine lh_iload_n (q := 1) rfl rfl rfl ?_
        refine lh_iload (q := 4) rfl rfl ?_
        refine lh_isub rfl ?_
        refine lh_ishr rfl ?_
        refine lh_iconst rfl lh_k_1 ?_
        refine lh_iand rfl ?_
        refine lh_iconst rfl lh_k_1 ?_
        refine lh_icmp_ne rfl (fun c8 => ?_) (fun c8 => ?_)
        · have hf := lh_ifF hf c8
          refine lh_iinc (q := 4) (v := (v4 + 1)) (lv' := [(0, .ref (a + 4)), (1, .int v1), (2, .int v2), (3, .int (v3 ||| ((1 : Int32) <<< ((v1 - v4) &&& 31)))), (4, .int (v4 + 1))]) rfl rfl (congrArg (v4 + ·) (by decide)) rfl rfl ?_
          refine lh_goto rfl ?_
          exact ih (v3 ||| ((1 : Int32) <<< ((v1 - v4) &&& 31))) (v4 + 1) _ hf x0_ x1_
        · have hf := lh_ifT hf c8
          exact lh_less [3] rfl (by cases hf; exact x0_ rfl)
theorem t_Ha_lightAmong {Γ : lh_Cx} {I : lh_II} {L : lh_LL} {F : lh_FF} {S : lh_SS} {K : Int32 → lh_Hp → Prop} {r : Int32} (hG : lh_GX Γ) (hS : lh_lay F S) {a : Nat} (ha : lh_hl F S a) {x1 : Int32} {x2 : Int32} (hf : f_Ha_lightAmong a x1 x2 I = some r) (hK : K r (I, L, F, S)) : lh_Met Γ m_Ha_lightAmong 0 0 0 [.ref (a + 4), .int x1, .int x2] (I, L, F, S) (lh_ki K) := by
  rw [f_Ha_lightAmong] at hf
  refine lh_ofG k_Ha_lightAmong [(0, .ref (a + 4)), (1, .int x1), (2, .int x2)] rfl (Nat.le_of_ble_eq_true rfl) rfl ?_
  refine lh_iconst rfl lh_k_1 ?_
  refine lh_iload_n (q := 1) rfl rfl rfl ?_
  refine lh_ishl rfl ?_
  refine lh_istore_n (lv' := [(0, .ref (a + 4)), (1, .int x1), (2, .int x2), (3, .int ((1 : Int32) <<< (x1 &&& 31)))]) rfl rfl rfl rfl ?_
  refine lh_iconst rfl lh_k_1 ?_
  refine lh_istore (lv' := [(0, .ref (a + 4)), (1, .int x1), (2, .int x2), (3, .int ((1 : Int32) <<< (x1 &&& 31))), (4, .int 1)]) rfl rfl rfl ?_
  refine lh_bdE hf (fun r4 e5 hf => ?_)
  refine t_Ha_lightAmong_6 hG hS ha _ ((1 : Int32) <<< (x1 &&& 31)) 1 _ e5 (fun q0_ => ?_) (fun q1_ => ?_)
  · have hf := lh_ifT hf q0_
    refine lh_goto rfl ?_
    refine lh_iconst rfl lh_k_1 ?_
    refine lh_istore (lv' := [(0, .ref (a + 4)), (1, .int x1), (2, .int x2), (3, .int r4.2), (4, .int 1)]) rfl rfl rfl ?_
    refine lh_bdE hf (fun r9 e10 hf => ?_)
    refine t_Ha_lightAmong_38 hG hS ha _ r4.2 1 _ e10 (fun q0_ => ?_) (fun q1_ => ?_)
    · have hf := lh_ifT hf q0_
      refine lh_goto rfl ?_
      refine lh_iload_n (q := 0) rfl rfl rfl ?_
      exact lh_iret rfl rfl rfl (by obtain rfl := Option.some.inj hf; exact hK)
    · have hf := lh_ifF hf (by rw [q1_]; decide)
      refine lh_iload_n (q := 0) rfl rfl rfl ?_
      exact lh_iret rfl rfl rfl (by obtain rfl := Option.some.inj hf; exact hK)
  · have hf := lh_ifF hf (by rw [q1_]; decide)
    refine lh_iconst rfl lh_k_1 ?_
    refine lh_istore (lv' := [(0, .ref (a + 4)), (1, .int x1), (2, .int x2), (3, .int r4.2), (4, .int 1)]) rfl rfl rfl ?_
    refine lh_bdE hf (fun r11 e12 hf => ?_)
    refine t_Ha_lightAmong_38 hG hS ha _ r4.2 1 _ e12 (fun q0_ => ?_) (fun q1_ => ?_)
    · have hf := lh_ifT hf q0_
      refine lh_goto rfl ?_
      refine lh_iload_n (q := 0) rfl rfl rfl ?_
      exact lh_iret rfl rfl rfl (by obtain rfl := Option.some.inj hf; exact hK)
    · have hf := lh_ifF hf (by rw [q1_]; decide)
      refine lh_iload_n (q := 0) rfl rfl rfl ?_
      exact lh_iret rfl rfl rfl (by obtain rfl := Option.some.inj hf; exact hK)
def f_Ha_lightFrom (a : Nat) (x1 : Int32) (I : lh_II) : Option (Int32) := lh_bd (f_Ha_hasCell a x1 I) fun r1 => if r1 = 0 then some 0 else lh_gd (lh_ix x1 12) (some (I (a + 10 + 4) x1.toNatClampNeg))
theorem t_Ha_lightFrom {Γ : lh_Cx} {I : lh_II} {L : lh_LL} {F : lh_FF} {S : lh_SS} {K : Int32 → lh_Hp → Prop} {r : Int32} (hG : lh_GX Γ) (hS : lh_lay F S) {a : Nat} (ha : lh_hl F S a) {x1 : Int32} (hf : f_Ha_lightFrom a x1 I = some r) (hK : K r (I, L, F, S)) : lh_Met Γ m_Ha_lightFrom 1 0 0 [.ref (a + 4), .int x1] (I, L, F, S) (lh_ki K) := by
  rw [f_Ha_lightFrom] at hf
  refine lh_ofG k_Ha_lightFrom [(0, .ref (a + 4)), (1, .int x1)] rfl (Nat.le_of_ble_eq_true rfl) rfl ?_
  refine lh_aload_n (q := 0) rfl rfl rfl ?_
  refine lh_iload_n (q := 1) rfl rfl rfl ?_
  refine lh_bdE hf (fun r1 e2 hf => ?_)
  refine lh_cVi (N := m_Ha_hasCell) (d := 0) (o := a) (As := [.int x1]) (st := []) rfl rfl v_Ha_hasCell (ha.1 0 _ rfl) rfl rfl rfl ⟨rfl, rfl⟩ rfl (t_Ha_hasCell hG hS ha e2 ?_)
  refine lh_if_eq rfl (fun c3 => ?_) (fun c3 => ?_)
  · have hf := lh_ifT hf c3
    refine lh_iconst rfl lh_k_0 ?_
    exact lh_iret rfl rfl rfl (by obtain rfl := Option.some.inj hf; exact hK)
  · have hf := lh_ifF hf c3
    refine lh_aload_n (q := 0) rfl rfl rfl ?_
    refine lh_getR4 rfl rfl (ha.1 0 _ rfl) rfl (ha.2 9 _ rfl) ?_
    refine lh_iload_n (q := 1) rfl rfl rfl ?_
    obtain ⟨g4, hf⟩ := lh_gdE hf
    refine lh_iald4 rfl (ha.1 10 _ rfl) g4 ?_
    refine lh_goto rfl ?_
    exact lh_iret rfl rfl rfl (by obtain rfl := Option.some.inj hf; exact hK)
def f_Ha_litBy (a : Nat) (m : Nat) (I : lh_II) : Option (Int32) := if (I (m + 4) 3) ≤ 0 then some 0 else lh_bd (f_Ha_lightFrom a (I (m + 4) 0) I) fun r2 => some r2
theorem t_Ha_litBy {Γ : lh_Cx} {I : lh_II} {L : lh_LL} {F : lh_FF} {S : lh_SS} {K : Int32 → lh_Hp → Prop} {r : Int32} (hG : lh_GX Γ) (hS : lh_lay F S) {a : Nat} (ha : lh_hl F S a) {m : Nat} (hm : S[m]? = some (10, 0)) (hf : f_Ha_litBy a m I = some r) (hK : K r (I, L, F, S)) : lh_Met Γ m_Ha_litBy 2 0 0 [.ref (a + 4), .ref (m + 4)] (I, L, F, S) (lh_ki K) := by
  rw [f_Ha_litBy] at hf
  refine lh_ofG k_Ha_litBy [(0, .ref (a + 4)), (1, .ref (m + 4))] rfl (Nat.le_of_ble_eq_true rfl) rfl ?_
  refine lh_aload_n (q := 1) rfl rfl rfl ?_
  refine lh_getI4 rfl rfl hm rfl ?_
  refine lh_if_le rfl (fun c1 => ?_) (fun c1 => ?_)
  · have hf := lh_ifT hf c1
    refine lh_iconst rfl lh_k_0 ?_
    exact lh_iret rfl rfl rfl (by obtain rfl := Option.some.inj hf; exact hK)
  · have hf := lh_ifF hf c1
    refine lh_aload_n (q := 0) rfl rfl rfl ?_
    refine lh_aload_n (q := 1) rfl rfl rfl ?_
    refine lh_getI4 rfl rfl hm rfl ?_
    refine lh_bdE hf (fun r2 e3 hf => ?_)
    refine lh_cVi (N := m_Ha_lightFrom) (d := 1) (o := a) (As := [.int (I (m + 4) 0)]) (st := []) rfl rfl v_Ha_lightFrom (ha.1 0 _ rfl) rfl rfl rfl ⟨rfl, rfl⟩ rfl (t_Ha_lightFrom hG hS ha e3 ?_)
    refine lh_goto rfl ?_
    exact lh_iret rfl rfl rfl (by obtain rfl := Option.some.inj hf; exact hK)
def f_Ha_litFromAll_4 (a : Nat) (v1 : Int32) (I : lh_II) : Nat → Int32 → Int32 → Option (Int32)
  | 0, _, _ => none
  | n + 1, v2, v3 => if (I (a + 4) 9) ≤ v3 then some v2 else if ((v1 >>> (v3 &&& 31)) &&& 1) = 1 then lh_gd (lh_ix v3 12) (f_Ha_litFromAll_4 a v1 I n (v2 ||| (I (a + 10 + 4) v3.toNatClampNeg)) (v3 + 1)) else f_Ha_litFromAll_4 a v1 I n v2 (v3 + 1)
def f_Ha_litFromAll (a : Nat) (x1 : Int32) (I : lh_II) : Option (Int32) := lh_bd (f_Ha_litFromAll_4 a x1 I lh_fuel 0 0) fun r4 => some r4
theorem t_Ha_litFromAll_4 {Γ : lh_Cx} {F : lh_FF} {S : lh_SS} {Z : List Frame → Array Value → State → State → Prop} (hG : lh_GX Γ) (hS : lh_lay F S) {a : Nat} (ha : lh_hl F S a) {v1 : Int32} {I : lh_II} {L : lh_LL} : ∀ (n : Nat) (v2 : Int32) (v3 : Int32) (o : Int32), f_Ha_litFromAll_4 a v1 I n v2 v3 = some o → ∀ (x0_ : lh_G Γ m_Ha_litFromAll (lh_R 0 0 0) Z 0 0 24 [(2, .int o)] [] (I, L, F, S)), lh_G Γ m_Ha_litFromAll (lh_R 0 0 0) Z 0 0 4 [(0, .ref (a + 4)), (1, .int v1), (2, .int v2), (3, .int v3)] [] (I, L, F, S) := by
  intro n
  induction n with
  | zero => intro v2 v3 o hf; cases hf
  | succ n ih =>
    intro v2 v3 o hf x0_
    rw [f_Ha_litFromAll_4] at hf
    refine lh_iload_n (q := 3) rfl rfl rfl ?_
    refine lh_aload_n (q := 0) rfl rfl rfl ?_
    refine lh_getI4 rfl rfl (ha.1 0 _ rfl) rfl ?_
    refine lh_icmp_ge rfl (fun c1 => ?_) (fun c1 => ?_)
    · have hf := lh_ifT hf c1
      exact lh_less [2] rfl (by cases hf; exact x0_)
    · have hf := lh_ifF hf c1
      refine lh_iload_n (q := 1) rfl rfl rfl ?_
      refine lh_iload_n (q := 3) rfl rfl rfl ?_
      refine lh_ishr rfl ?_
      refine lh_iconst rfl lh_k_1 ?_
      refine lh_iand rfl ?_
      refine lh_iconst rfl lh_k_1 ?_
      refine lh_icmp_ne rfl (fun c2 => ?_) (fun c2 => ?_)
      · have hf := lh_ifF hf c2
        refine lh_iinc (q := 3) (v := (v3 + 1)) (lv' := [(0, .ref (a + 4)), (1, .int v1), (2, .int v2), (3, .int (v3 + 1))]) rfl rfl (congrArg (v3 + ·) (by decide)) rfl rfl ?_
        refine lh_goto rfl ?_
        exact ih v2 (v3 + 1) _ hf x0_
      · have hf := lh_ifT hf c2
        refine lh_iload_n (q := 2) rfl rfl rfl ?_
        refine lh_aload_n (q := 0) rfl rfl rfl ?_
        refine lh_getR4 rfl rfl (ha.1 0 _ rfl) rfl (ha.2 9 _ rfl) ?_
        refine lh_iload_n (q := 3) rfl rfl rfl ?_
        obtain ⟨g3, hf⟩ := lh_gdE hf
        refine lh_iald4 rfl (ha.1 10 _ rfl) g3 ?_
        refine lh_ior rfl ?_
        refine lh_istore_n (lv' := [(0, .ref (a + 4)), (1, .int v1), (2, .int (v2 ||| (I (a + 10 + 4) v3.toNatClampNeg))), (3, .int v3)]) rfl rfl rfl rfl ?_
        refine lh_iinc (q := 3) (v := (v3 + 1)) (lv' := [(0, .ref (a + 4)), (1, .int v1), (2, .int (v2 ||| (I (a + 10 + 4) v3.toNatClampNeg))), (3, .int (v3 + 1))]) rfl rfl (congrArg (v3 + ·) (by decide)) rfl rfl ?_
        refine lh_goto rfl ?_
        exact ih (v2 ||| (I (a + 10 + 4) v3.toNatClampNeg)) (v3 + 1) _ hf x0_
theorem t_Ha_litFromAll {Γ : lh_Cx} {I : lh_II} {L : lh_LL} {F : lh_FF} {S : lh_SS} {K : Int32 → lh_Hp → Prop} {r : Int32} (hG : lh_GX Γ) (hS : lh_lay F S) {a : Nat} (ha : lh_hl F S a) {x1 : Int32} (hf : f_Ha_litFromAll a x1 I = some r) (hK : K r (I, L, F, S)) : lh_Met Γ m_Ha_litFromAll 0 0 0 [.ref (a + 4), .int x1] (I, L, F, S) (lh_ki K) := by
  rw [f_Ha_litFromAll] at hf
  refine lh_ofG k_Ha_litFromAll [(0, .ref (a + 4)), (1, .int x1)] rfl (Nat.le_of_ble_eq_true rfl) rfl ?_
  refine lh_iconst rfl lh_k_0 ?_
  refine lh_istore_n (lv' := [(0, .ref (a + 4)), (1, .int x1), (2, .int 0)]) rfl rfl rfl rfl ?_
  refine lh_iconst rfl lh_k_0 ?_
  refine lh_istore_n (lv' := [(0, .ref (a + 4)), (1, .int x1), (2, .int 0), (3, .int 0)]) rfl rfl rfl rfl ?_
  refine lh_bdE hf (fun r4 e5 hf => ?_)
  refine t_Ha_litFromAll_4 hG hS ha _ 0 0 _ e5 ?_
  refine lh_iload_n (q := 0) rfl rfl rfl ?_
  exact lh_iret rfl rfl rfl (by obtain rfl := Option.some.inj hf; exact hK)
def f_Ha_tellDaysShown_2 (a : Nat) (v1 : Int32) (v2 : Int32) (v3 : Int32) : Nat → Int32 → lh_II → Option (lh_II)
  | 0, _, _ => none
  | n + 1, v4, I => if (I (a + 4) 13) < v4 then some I else if 12 ≤ v4 then some I else lh_bd (f_La_dayShown a v1 v2 v4 v3 I) fun r3 => lh_gd (lh_ix v4 12) (f_Ha_tellDaysShown_2 a v1 v2 v3 n (v4 + 1) (lh_u2 r3.2 (a + 11 + 4) v4.toNatClampNeg r3.1))
def f_Ha_tellDaysShown (a : Nat) (x1 : Int32) (x2 : Int32) (x3 : Int32) (I : lh_II) : Option (lh_II) := lh_bd (f_Ha_tellDaysShown_2 a x1 x2 x3 lh_fuel 0 I) fun r6 => some r6
theorem t_Ha_tellDaysShown_2 {Γ : lh_Cx} {F : lh_FF} {S : lh_SS} {Z : List Frame → Array Value → State → State → Prop} (hG : lh_GX Γ) (hS : lh_lay F S) {a : Nat} (ha : lh_hl F S a) {v1 : Int32} {v2 : Int32} {v3 : Int32} {L : lh_LL} : ∀ (n : Nat) (v4 : Int32) (I : lh_II) (o : lh_II), f_Ha_tellDaysShown_2 a v1 v2 v3 n v4 I = some o → ∀ (x0_ : lh_G Γ m_Ha_tellDaysShown (lh_R 2 0 0) Z 0 0 22 [] [] (o, L, F, S)), lh_G Γ m_Ha_tellDaysShown (lh_R 2 0 0) Z 0 0 2 [(0, .ref (a + 4)), (1, .int v1), (2, .int v2), (3, .int v3), (4, .int v4)] [] (I, L, F, S) := by
  intro n
  induction n with
  | zero => intro v4 I o hf; cases hf
  | succ n ih =>
    intro v4 I o hf x0_
    rw [f_Ha_tellDaysShown_2] at hf
    refine lh_iload (q := 4) rfl rfl ?_
    refine lh_aload_n (q := 0) rfl rfl rfl ?_
    refine lh_getI4 rfl rfl (ha.1 0 _ rfl) rfl ?_
    refine lh_icmp_gt rfl (fun c1 => ?_) (fun c1 => ?_)
    · have hf := lh_ifT hf c1
      exact lh_less [] rfl (by cases hf; exact x0_)
    · have hf := lh_ifF hf c1
      refine lh_iload (q := 4) rfl rfl ?_
      refine lh_bipush rfl lh_b_12 ?_
      refine lh_icmp_ge rfl (fun c2 => ?_) (fun c2 => ?_)
      · have hf := lh_ifT hf c2
        exact lh_less [] rfl (by cases hf; exact x0_)
      · have hf := lh_ifF hf c2
        refine lh_aload_n (q := 0) rfl rfl rfl ?_
        refine lh_getR4 rfl rfl (ha.1 0 _ rfl) rfl (ha.2 10 _ rfl) ?_
        refine lh_iload (q := 4) rfl rfl ?_
        refine lh_aload_n (q := 0) rfl rfl rfl ?_
        refine lh_getR4 rfl rfl (ha.1 0 _ rfl) rfl (ha.2 0 _ rfl) ?_
        refine lh_iload_n (q := 1) rfl rfl rfl ?_
        refine lh_iload_n (q := 2) rfl rfl rfl ?_
        refine lh_iload (q := 4) rfl rfl ?_
        refine lh_iload_n (q := 3) rfl rfl rfl ?_
        refine lh_bdE hf (fun r3 e4 hf => ?_)
        refine lh_cVi (N := m_La_dayShown) (d := 1) (o := a + 1) (As := [.int v1, .int v2, .int v4, .int v3]) (st := [.int v4, .ref (a + 11 + 4)]) rfl rfl v_La_dayShown (ha.1 1 _ rfl) rfl rfl rfl ⟨rfl, rfl⟩ rfl (t_La_dayShown hG hS ha e4 ?_)
        obtain ⟨g5, hf⟩ := lh_gdE hf
        refine lh_iast4 rfl (ha.1 11 _ rfl) g5 ?_
        refine lh_iinc (q := 4) (v := (v4 + 1)) (lv' := [(0, .ref (a + 4)), (1, .int v1), (2, .int v2), (3, .int v3), (4, .int (v4 + 1))]) rfl rfl (congrArg (v4 + ·) (by decide)) rfl rfl ?_
        refine lh_goto rfl ?_
        exact ih (v4 + 1) (lh_u2 r3.2 (a + 11 + 4) v4.toNatClampNeg r3.1) _ hf x0_
theorem t_Ha_tellDaysShown {Γ : lh_Cx} {I : lh_II} {L : lh_LL} {F : lh_FF} {S : lh_SS} {K : lh_Hp → Prop} {r : lh_II} (hG : lh_GX Γ) (hS : lh_lay F S) {a : Nat} (ha : lh_hl F S a) {x1 : Int32} {x2 : Int32} {x3 : Int32} (hf : f_Ha_tellDaysShown a x1 x2 x3 I = some r) (hK : K (r, L, F, S)) : lh_Met Γ m_Ha_tellDaysShown 2 0 0 [.ref (a + 4), .int x1, .int x2, .int x3] (I, L, F, S) (lh_kv K) := by
  rw [f_Ha_tellDaysShown] at hf
  refine lh_ofG k_Ha_tellDaysShown [(0, .ref (a + 4)), (1, .int x1), (2, .int x2), (3, .int x3)] rfl (Nat.le_of_ble_eq_true rfl) rfl ?_
  refine lh_iconst rfl lh_k_0 ?_
  refine lh_istore (lv' := [(0, .ref (a + 4)), (1, .int x1), (2, .int x2), (3, .int x3), (4, .int 0)]) rfl rfl rfl ?_
  refine lh_bdE hf (fun r6 e7 hf => ?_)
  refine t_Ha_tellDaysShown_2 hG hS ha _ 0 I _ e7 ?_
  exact lh_vret rfl rfl (by obtain rfl := Option.some.inj hf; exact hK)
def f_Ha_seenIn_4 (a : Nat) (v1 : Int32) (v2 : Int32) (v3 : Int32) (I : lh_II) : Nat → Int32 → Int32 → Option (Int32)
  | 0, _, _ => none
  | n + 1, v4, v5 => if (I (a + 4) 11) ≤ v5 then some v4 else lh_bd (f_Ha_placeOf a v5 v3 I) fun r2 => if r2 = (-1) then f_Ha_seenIn_4 a v1 v2 v3 I n v4 (v5 + 1) else if ((v1 >>> (r2 &&& 31)) &&& 1) = 1 then lh_gd (lh_ix (if 0 ≤ (r2 - v2) then (r2 - v2) else 0 - (r2 - v2)) 12) (lh_gd (lh_ix v5 6) (if (I (a + 11 + 4) (if 0 ≤ (r2 - v2) then (r2 - v2) else 0 - (r2 - v2)).toNatClampNeg) = (I (a + 5 + 4) v5.toNatClampNeg) then f_Ha_seenIn_4 a v1 v2 v3 I n (v4 ||| ((1 : Int32) <<< (v5 &&& 31))) (v5 + 1) else f_Ha_seenIn_4 a v1 v2 v3 I n v4 (v5 + 1))) else f_Ha_seenIn_4 a v1 v2 v3 I n v4 (v5 + 1)
def f_Ha_seenIn (a : Nat) (x1 : Int32) (x2 : Int32) (x3 : Int32) (I : lh_II) : Option (Int32) := lh_bd (f_Ha_seenIn_4 a x1 x2 x3 I lh_fuel 0 0) fun r9 => some r9
theorem t_Ha_seenIn_4 {Γ : lh_Cx} {F : lh_FF} {S : lh_SS} {Z : List Frame → Array Value → State → State → Prop} (hG : lh_GX Γ) (hS : lh_lay F S) {a : Nat} (ha : lh_hl F S a) {v1 : Int32} {v2 : Int32} {v3 : Int32} {I : lh_II} {L : lh_LL} : ∀ (n : Nat) (v4 : Int32) (v5 : Int32) (o : Int32), f_Ha_seenIn_4 a v1 v2 v3 I n v4 v5 = some o → ∀ (x0_ : lh_G Γ m_Ha_seenIn (lh_R 2 0 0) Z 0 0 43 [(4, .int o)] [] (I, L, F, S)), lh_G Γ m_Ha_seenIn (lh_R 2 0 0) Z 0 0 4 [(0, .ref (a + 4)), (1, .int v1), (2, .int v2), (3, .int v3), (4, .int v4), (5, .int v5)] [] (I, L, F, S) := by
  intro n
  induction n with
  | zero => intro v4 v5 o hf; cases hf
  | succ n ih =>
    intro v4 v5 o hf x0_
    rw [f_Ha_seenIn_4] at hf
    refine lh_iload (q := 5) rfl rfl ?_
    refine lh_aload_n (q := 0) rfl rfl rfl ?_
    refine lh_getI4 rfl rfl (ha.1 0 _ rfl) rfl ?_
    refine lh_icmp_ge rfl (fun c1 => ?_) (fun c1 => ?_)
    · have hf := lh_ifT hf c1
      exact lh_less [4] rfl (by cases hf; exact x0_)
    · have hf := lh_ifF hf c1
      refine lh_aload_n (q := 0) rfl rfl rfl ?_
      refine lh_iload (q := 5) rfl rfl ?_
      refine lh_iload_n (q := 3) rfl rfl rfl ?_
      refine lh_bdE hf (fun r2 e3 hf => ?_)
      refine lh_cVi (N := m_Ha_placeOf) (d := 1) (o := a) (As := [.int v5, .int v3]) (st := []) rfl rfl v_Ha_placeOf (ha.1 0 _ rfl) rfl rfl rfl ⟨rfl, rfl⟩ rfl (t_Ha_placeOf hG hS ha e3 ?_)
      refine lh_istore (lv' := [(0, .ref (a + 4)), (1, .int v1), (2, .int v2), (3, .int v3), (4, .int v4), (5, .int v5), (6, .int r2)]) rfl rfl rfl ?_
      refine lh_iload (q := 6) rfl rfl ?_
      refine lh_iconst rfl lh_k_m1 ?_
      refine lh_icmp_eq rfl (fun c4 => ?_) (fun c4 => ?_)
      · have hf := lh_ifT hf c4
        refine lh_iinc (q := 5) (v := (v5 + 1)) (lv' := [(0, .ref (a + 4)), (1, .int v1), (2, .int v2), (3, .int v3), (4, .int v4), (5, .int (v5 + 1)), (6, .int r2)]) rfl rfl (congrArg (v5 + ·) (by decide)) rfl rfl ?_
        refine lh_goto rfl ?_
        refine lh_less [0, 1, 2, 3, 4, 5] rfl ?_
        exact ih v4 (v5 + 1) _ hf x0_
      · have hf := lh_ifF hf c4
        refine lh_iload_n (q := 1) rfl rfl rfl ?_
        refine lh_iload (q := 6) rfl rfl ?_
        refine lh_ishr rfl ?_
        refine lh_iconst rfl lh_k_1 ?_
        refine lh_iand rfl ?_
        refine lh_iconst rfl lh_k_1 ?_
        refine lh_icmp_ne rfl (fun c5 => ?_) (fun c5 => ?_)
        · have hf := lh_ifF hf c5
          refine lh_iinc (q := 5) (v := (v5 + 1)) (lv' := [(0, .ref (a + 4)), (1, .int v1), (2, .int v2), (3, .int v3), (4, .int v4), (5, .int (v5 + 1)), (6, .int r2)]) rfl rfl (congrArg (v5 + ·) (by decide)) rfl rfl ?_
          refine lh_goto rfl ?_
          refine lh_less [0, 1, 2, 3, 4, 5] rfl ?_
          exact ih v4 (v5 + 1) _ hf x0_
        · have hf := lh_ifT hf c5
          refine lh_aload_n (q := 0) rfl rfl rfl ?_
          refine lh_getR4 rfl rfl (ha.1 0 _ rfl) rfl (ha.2 10 _ rfl) ?_
          refine lh_iload (q := 6) rfl rfl ?_
          refine lh_iload_n (q := 2) rfl rfl rfl ?_
          refine lh_isub rfl ?_
          refine lh_abs rfl rfl ⟨rfl, rfl⟩ rfl ?_
          obtain ⟨g6, hf⟩ := lh_gdE hf
          refine lh_iald4 rfl (ha.1 11 _ rfl) g6 ?_
          refine lh_aload_n (q := 0) rfl rfl rfl ?_
          refine lh_getR4 rfl rfl (ha.1 0 _ rfl) rfl (ha.2 4 _ rfl) ?_
          refine lh_iload (q := 5) rfl rfl ?_
          obtain ⟨g7, hf⟩ := lh_gdE hf
          refine lh_iald4 rfl (ha.1 5 _ rfl) g7 ?_
          refine lh_icmp_ne rfl (fun c8 => ?_) (fun c8 => ?_)
          · have hf := lh_ifF hf c8
            refine lh_iinc (q := 5) (v := (v5 + 1)) (lv' := [(0, .ref (a + 4)), (1, .int v1), (2, .int v2), (3, .int v3), (4, .int v4), (5, .int (v5 + 1)), (6, .int r2)]) rfl rfl (congrArg (v5 + ·) (by decide)) rfl rfl ?_
            refine lh_goto rfl ?_
            refine lh_less [0, 1, 2, 3, 4, 5] rfl ?_
            exact ih v4 (v5 + 1) _ hf x0_
          · have hf := lh_ifT hf c8
            refine lh_iload (q := 4) rfl rfl ?_
            refine lh_iconst rfl lh_k_1 ?_
            refine lh_iload (q := 5) rfl rfl ?_
            refine lh_ishl rfl ?_
            refine lh_ior rfl ?_
            refine lh_istore (lv' := [(0, .ref (a + 4)), (1, .int v1), (2, .int v2), (3, .int v3), (4, .int (v4 ||| ((1 : Int32) <<< (v5 &&& 31)))), (5, .int v5), (6, .int r2)]) rfl rfl rfl ?_
            refine lh_iinc (q := 5) (v := (v5 + 1)) (lv' := [(0, .ref (a + 4)), (1, .int v1), (2, .int v2), (3, .int v3), (4, .int (v4 ||| ((1 : Int32) <<< (v5 &&& 31)))), (5, .int (v5 + 1)), (6, .int r2)]) rfl rfl (congrArg (v5 + ·) (by decide)) rfl rfl ?_
            refine lh_goto rfl ?_
            refine lh_less [0, 1, 2, 3, 4, 5] rfl ?_
            exact ih (v4 ||| ((1 : Int32) <<< (v5 &&& 31))) (v5 + 1) _ hf x0_
theorem t_Ha_seenIn {Γ : lh_Cx} {I : lh_II} {L : lh_LL} {F : lh_FF} {S : lh_SS} {K : Int32 → lh_Hp → Prop} {r : Int32} (hG : lh_GX Γ) (hS : lh_lay F S) {a : Nat} (ha : lh_hl F S a) {x1 : Int32} {x2 : Int32} {x3 : Int32} (hf : f_Ha_seenIn a x1 x2 x3 I = some r) (hK : K r (I, L, F, S)) : lh_Met Γ m_Ha_seenIn 2 0 0 [.ref (a + 4), .int x1, .int x2, .int x3] (I, L, F, S) (lh_ki K) := by
  rw [f_Ha_seenIn] at hf
  refine lh_ofG k_Ha_seenIn [(0, .ref (a + 4)), (1, .int x1), (2, .int x2), (3, .int x3)] rfl (Nat.le_of_ble_eq_true rfl) rfl ?_
  refine lh_iconst rfl lh_k_0 ?_
  refine lh_istore (lv' := [(0, .ref (a + 4)), (1, .int x1), (2, .int x2), (3, .int x3), (4, .int 0)]) rfl rfl rfl ?_
  refine lh_iconst rfl lh_k_0 ?_
  refine lh_istore (lv' := [(0, .ref (a + 4)), (1, .int x1), (2, .int x2), (3, .int x3), (4, .int 0), (5, .int 0)]) rfl rfl rfl ?_
  refine lh_bdE hf (fun r9 e10 hf => ?_)
  refine t_Ha_seenIn_4 hG hS ha _ 0 0 _ e10 ?_
  refine lh_iload (q := 0) rfl rfl ?_
  exact lh_iret rfl rfl rfl (by obtain rfl := Option.some.inj hf; exact hK)
def f_Ha_seenBehind (a : Nat) (m : Nat) (x1 : Int32) (I : lh_II) : Option (Int32 × lh_II) := if 0 < (I (m + 4) 3) then lh_bd (f_Ha_tellDaysShown a (I (m + 4) 2) (I (m + 4) 3) (I (m + 4) 1) I) fun r2 => lh_bd (f_Ha_lightAmong a (r2 (m + 4) 0) x1 r2) fun r4 => lh_bd (f_Ha_seenIn a r4 (r2 (m + 4) 0) (r2 (m + 4) 1) r2) fun r6 => some (r6, r2) else some (0, I)
theorem t_Ha_seenBehind {Γ : lh_Cx} {I : lh_II} {L : lh_LL} {F : lh_FF} {S : lh_SS} {K : Int32 → lh_Hp → Prop} {r : Int32 × lh_II} (hG : lh_GX Γ) (hS : lh_lay F S) {a : Nat} (ha : lh_hl F S a) {m : Nat} (hm : S[m]? = some (10, 0)) {x1 : Int32} (hf : f_Ha_seenBehind a m x1 I = some r) (hK : K r.1 (r.2, L, F, S)) : lh_Met Γ m_Ha_seenBehind 3 0 0 [.ref (a + 4), .ref (m + 4), .int x1] (I, L, F, S) (lh_ki K) := by
  rw [f_Ha_seenBehind] at hf
  refine lh_ofG k_Ha_seenBehind [(0, .ref (a + 4)), (1, .ref (m + 4)), (2, .int x1)] rfl (Nat.le_of_ble_eq_true rfl) rfl ?_
  refine lh_aload_n (q := 1) rfl rfl rfl ?_
  refine lh_getI4 rfl rfl hm rfl ?_
  refine lh_if_gt rfl (fun c1 => ?_) (fun c1 => ?_)
  · have hf := lh_ifT hf c1
    refine lh_aload_n (q := 0) rfl rfl rfl ?_
    refine lh_aload_n (q := 1) rfl rfl rfl ?_
    refine lh_getI4 rfl rfl hm rfl ?_
    refine lh_aload_n (q := 1) rfl rfl rfl ?_
    refine lh_getI4 rfl rfl hm rfl ?_
    refine lh_aload_n (q := 1) rfl rfl rfl ?_
    refine lh_getI4 rfl rfl hm rfl ?_
    refine lh_bdE hf (fun r2 e3 hf => ?_)
    refine lh_cVv (N := m_Ha_tellDaysShown) (d := 2) (o := a) (As := [.int (I (m + 4) 2), .int (I (m + 4) 3), .int (I (m + 4) 1)]) (st := []) rfl rfl v_Ha_tellDaysShown (ha.1 0 _ rfl) rfl rfl rfl ⟨rfl, rfl⟩ rfl (t_Ha_tellDaysShown hG hS ha e3 ?_)
    refine lh_aload_n (q := 0) rfl rfl rfl ?_
    refine lh_aload_n (q := 0) rfl rfl rfl ?_
    refine lh_aload_n (q := 1) rfl rfl rfl ?_
    refine lh_getI4 rfl rfl hm rfl ?_
    refine lh_iload_n (q := 2) rfl rfl rfl ?_
    refine lh_bdE hf (fun r4 e5 hf => ?_)
    refine lh_cVi (N := m_Ha_lightAmong) (d := 0) (o := a) (As := [.int (r2 (m + 4) 0), .int x1]) (st := [.ref (a + 4)]) rfl rfl v_Ha_lightAmong (ha.1 0 _ rfl) rfl rfl rfl ⟨rfl, rfl⟩ rfl (t_Ha_lightAmong hG hS ha e5 ?_)
    refine lh_aload_n (q := 1) rfl rfl rfl ?_
    refine lh_getI4 rfl rfl hm rfl ?_
    refine lh_aload_n (q := 1) rfl rfl rfl ?_
    refine lh_getI4 rfl rfl hm rfl ?_
    refine lh_bdE hf (fun r6 e7 hf => ?_)
    refine lh_cVi (N := m_Ha_seenIn) (d := 2) (o := a) (As := [.int r4, .int (r2 (m + 4) 0), .int (r2 (m + 4) 1)]) (st := []) rfl rfl v_Ha_seenIn (ha.1 0 _ rfl) rfl rfl rfl ⟨rfl, rfl⟩ rfl (t_Ha_seenIn hG hS ha e7 ?_)
    exact lh_iret rfl rfl rfl (by obtain rfl := Option.some.inj hf; exact hK)
  · have hf := lh_ifF hf c1
    refine lh_iconst rfl lh_k_0 ?_
    exact lh_iret rfl rfl rfl (by obtain rfl := Option.some.inj hf; exact hK)
def f_Ha_seenBy (a : Nat) (m : Nat) (I : lh_II) : Option (Int32 × lh_II) := lh_bd (f_Ha_seenBehind a m (I (a + 4) 10) I) fun r1 => some (r1.1, r1.2)
theorem t_Ha_seenBy {Γ : lh_Cx} {I : lh_II} {L : lh_LL} {F : lh_FF} {S : lh_SS} {K : Int32 → lh_Hp → Prop} {r : Int32 × lh_II} (hG : lh_GX Γ) (hS : lh_lay F S) {a : Nat} (ha : lh_hl F S a) {m : Nat} (hm : S[m]? = some (10, 0)) (hf : f_Ha_seenBy a m I = some r) (hK : K r.1 (r.2, L, F, S)) : lh_Met Γ m_Ha_seenBy 4 0 0 [.ref (a + 4), .ref (m + 4)] (I, L, F, S) (lh_ki K) := by
  rw [f_Ha_seenBy] at hf
  refine lh_ofG k_Ha_seenBy [(0, .ref (a + 4)), (1, .ref (m + 4))] rfl (Nat.le_of_ble_eq_true rfl) rfl ?_
  refine lh_aload_n (q := 0) rfl rfl rfl ?_
  refine lh_aload_n (q := 1) rfl rfl rfl ?_
  refine lh_aload_n (q := 0) rfl rfl rfl ?_
  refine lh_getI4 rfl rfl (ha.1 0 _ rfl) rfl ?_
  refine lh_bdE hf (fun r1 e2 hf => ?_)
  refine lh_cVi (N := m_Ha_seenBehind) (d := 3) (o := a) (As := [.ref (m + 4), .int (I (a + 4) 10)]) (st := []) rfl rfl v_Ha_seenBehind (ha.1 0 _ rfl) rfl rfl rfl ⟨rfl, rfl⟩ rfl (t_Ha_seenBehind hG hS ha hm e2 ?_)
  exact lh_iret rfl rfl rfl (by obtain rfl := Option.some.inj hf; exact hK)
def f_Ha_withinHall (a : Nat) (x1 : Int32) (I : lh_II) : Option (Int32) := lh_bd (f_Ha_hasCell a x1 I) fun r1 => if r1 = 0 then some (-1) else some x1
theorem t_Ha_withinHall {Γ : lh_Cx} {I : lh_II} {L : lh_LL} {F : lh_FF} {S : lh_SS} {K : Int32 → lh_Hp → Prop} {r : Int32} (hG : lh_GX Γ) (hS : lh_lay F S) {a : Nat} (ha : lh_hl F S a) {x1 : Int32} (hf : f_Ha_withinHall a x1 I = some r) (hK : K r (I, L, F, S)) : lh_Met Γ m_Ha_withinHall 1 0 0 [.ref (a + 4), .int x1] (I, L, F, S) (lh_ki K) := by
  rw [f_Ha_withinHall] at hf
  refine lh_ofG k_Ha_withinHall [(0, .ref (a + 4)), (1, .int x1)] rfl (Nat.le_of_ble_eq_true rfl) rfl ?_
  refine lh_aload_n (q := 0) rfl rfl rfl ?_
  refine lh_iload_n (q := 1) rfl rfl rfl ?_
  refine lh_bdE hf (fun r1 e2 hf => ?_)
  refine lh_cVi (N := m_Ha_hasCell) (d := 0) (o := a) (As := [.int x1]) (st := []) rfl rfl v_Ha_hasCell (ha.1 0 _ rfl) rfl rfl rfl ⟨rfl, rfl⟩ rfl (t_Ha_hasCell hG hS ha e2 ?_)
  refine lh_if_eq rfl (fun c3 => ?_) (fun c3 => ?_)
  · have hf := lh_ifT hf c3
    refine lh_iconst rfl lh_k_m1 ?_
    exact lh_iret rfl rfl rfl (by obtain rfl := Option.some.inj hf; exact hK)
  · have hf := lh_ifF hf c3
    refine lh_iload_n (q := 1) rfl rfl rfl ?_
    refine lh_goto rfl ?_
    exact lh_iret rfl rfl rfl (by obtain rfl := Option.some.inj hf; exact hK)
def f_Ha_settleVisitor_39 (a : Nat) (v2 : Int32) (v3 : Int32) (v5 : Int32) : Nat → Int32 → lh_II → Option (lh_II)
  | 0, _, _ => none
  | n + 1, v6, I => if 8 ≤ v6 then some I else if v3 ≤ v6 then lh_bd (f_Ha_withinHall a v5 I) fun r6 => lh_gd (lh_ix (v2 + v6) 48) (f_Ha_settleVisitor_39 a v2 v3 v5 n (v6 + 1) (lh_u2 I (a + 7 + 4) (v2 + v6).toNatClampNeg r6)) else lh_gd (lh_ix (v2 + v6) 48) (lh_bd (f_Ha_withinHall a (I (a + 7 + 4) (v2 + v6).toNatClampNeg) I) fun r10 => lh_gd (lh_ix (v2 + v6) 48) (f_Ha_settleVisitor_39 a v2 v3 v5 n (v6 + 1) (lh_u2 I (a + 7 + 4) (v2 + v6).toNatClampNeg r10)))
def f_Ha_settleVisitor (a : Nat) (x1 : Int32) (I : lh_II) : Option (lh_II) := lh_gd (lh_ix x1 6) (lh_gd (lh_ix x1 6) (if (I (a + 4 + 4) x1.toNatClampNeg) = 2 then if (I (a + 6 + 4) x1.toNatClampNeg) ≤ 0 then lh_bd (f_Ha_settleVisitor_39 a (x1 * 8) (I (a + 6 + 4) x1.toNatClampNeg) (-1) lh_fuel 0 I) fun r16 => some r16 else if 8 < (I (a + 6 + 4) x1.toNatClampNeg) then lh_bd (f_Ha_settleVisitor_39 a (x1 * 8) (I (a + 6 + 4) x1.toNatClampNeg) (-1) lh_fuel 0 I) fun r19 => some r19 else lh_gd (lh_ix (((x1 * 8) + (I (a + 6 + 4) x1.toNatClampNeg)) - 1) 48) (lh_bd (f_Ha_settleVisitor_39 a (x1 * 8) (I (a + 6 + 4) x1.toNatClampNeg) (I (a + 7 + 4) (((x1 * 8) + (I (a + 6 + 4) x1.toNatClampNeg)) - 1).toNatClampNeg) lh_fuel 0 I) fun r22 => some r22) else lh_bd (f_Ha_settleVisitor_39 a (x1 * 8) (I (a + 6 + 4) x1.toNatClampNeg) (-1) lh_fuel 0 I) fun r13 => some r13))
theorem t_Ha_settleVisitor_39 {Γ : lh_Cx} {F : lh_FF} {S : lh_SS} {Z : List Frame → Array Value → State → State → Prop} (hG : lh_GX Γ) (hS : lh_lay F S) {a : Nat} (ha : lh_hl F S a) {v2 : Int32} {v3 : Int32} {v5 : Int32} {L : lh_LL} : ∀ (n : Nat) (v6 : Int32) (I : lh_II) (o : lh_II), f_Ha_settleVisitor_39 a v2 v3 v5 n v6 I = some o → ∀ (x0_ : lh_G Γ m_Ha_settleVisitor (lh_R 2 0 0) Z 0 0 63 [] [] (o, L, F, S)), lh_G Γ m_Ha_settleVisitor (lh_R 2 0 0) Z 0 0 39 [(0, .ref (a + 4)), (2, .int v2), (3, .int v3), (5, .int v5), (6, .int v6)] [] (I, L, F, S) := by
  intro n
  induction n with
  | zero => intro v6 I o hf; cases hf
  | succ n ih =>
    intro v6 I o hf x0_
    rw [f_Ha_settleVisitor_39] at hf
    refine lh_iload (q := 4) rfl rfl ?_
    refine lh_bipush rfl lh_b_8 ?_
    refine lh_icmp_ge rfl (fun c4 => ?_) (fun c4 => ?_)
    · have hf := lh_ifT hf c4
      exact lh_less [] rfl (by cases hf; exact x0_)
    · have hf := lh_ifF hf c4
      refine lh_aload_n (q := 0) rfl rfl rfl ?_
      refine lh_getR4 rfl rfl (ha.1 0 _ rfl) rfl (ha.2 6 _ rfl) ?_
      refine lh_iload_n (q := 1) rfl rfl rfl ?_
      refine lh_iload (q := 4) rfl rfl ?_
      refine lh_iadd rfl ?_
      refine lh_aload_n (q := 0) rfl rfl rfl ?_
      refine lh_iload (q := 4) rfl rfl ?_
      refine lh_iload_n (q := 2) rfl rfl rfl ?_
      refine lh_icmp_ge rfl (fun c5 => ?_) (fun c5 => ?_)
      · have hf := lh_ifT hf c5
        refine lh_iload (q := 3) rfl rfl ?_
        refine lh_bdE hf (fun r6 e7 hf => ?_)
        refine lh_cVi (N := m_Ha_withinHall) (d := 1) (o := a) (As := [.int v5]) (st := [.int (v2 + v6), .ref (a + 7 + 4)]) rfl rfl v_Ha_withinHall (ha.1 0 _ rfl) rfl rfl rfl ⟨rfl, rfl⟩ rfl (t_Ha_withinHall hG hS ha e7 ?_)
        obtain ⟨g8, hf⟩ := lh_gdE hf
        refine lh_iast4 rfl (ha.1 7 _ rfl) g8 ?_
        refine lh_iinc (q := 4) (v := (v6 + 1)) (lv' := [(0, .ref (a + 4)), (2, .int v2), (3, .int v3), (5, .int v5), (6, .int (v6 + 1))]) rfl rfl (congrArg (v6 + ·) (by decide)) rfl rfl ?_
        refine lh_goto rfl ?_
        exact ih (v6 + 1) (lh_u2 I (a + 7 + 4) (v2 + v6).toNatClampNeg r6) _ hf x0_
      · have hf := lh_ifF hf c5
        refine lh_aload_n (q := 0) rfl rfl rfl ?_
        refine lh_getR4 rfl rfl (ha.1 0 _ rfl) rfl (ha.2 6 _ rfl) ?_
        refine lh_iload_n (q := 1) rfl rfl rfl ?_
        refine lh_iload (q := 4) rfl rfl ?_
        refine lh_iadd rfl ?_
        obtain ⟨g9, hf⟩ := lh_gdE hf
        refine lh_iald4 rfl (ha.1 7 _ rfl) g9 ?_
        refine lh_goto rfl ?_
        refine lh_bdE hf (fun r10 e11 hf => ?_)
        refine lh_cVi (N := m_Ha_withinHall) (d := 1) (o := a) (As := [.int (I (a + 7 + 4) (v2 + v6).toNatClampNeg)]) (st := [.int (v2 + v6), .ref (a + 7 + 4)]) rfl rfl v_Ha_withinHall (ha.1 0 _ rfl) rfl rfl rfl ⟨rfl, rfl⟩ rfl (t_Ha_withinHall hG hS ha e11 ?_)
        obtain ⟨g12, hf⟩ := lh_gdE hf
        refine lh_iast4 rfl (ha.1 7 _ rfl) g12 ?_
        refine lh_iinc (q := 4) (v := (v6 + 1)) (lv' := [(0, .ref (a + 4)), (2, .int v2), (3, .int v3), (5, .int v5), (6, .int (v6 + 1))]) rfl rfl (congrArg (v6 + ·) (by decide)) rfl rfl ?_
        refine lh_goto rfl ?_
        exact ih (v6 + 1) (lh_u2 I (a + 7 + 4) (v2 + v6).toNatClampNeg r10) _ hf x0_
theorem t_Ha_settleVisitor {Γ : lh_Cx} {I : lh_II} {L : lh_LL} {F : lh_FF} {S : lh_SS} {K : lh_Hp → Prop} {r : lh_II} (hG : lh_GX Γ) (hS : lh_lay F S) {a : Nat} (ha : lh_hl F S a) {x1 : Int32} (hf : f_Ha_settleVisitor a x1 I = some r) (hK : K (r, L, F, S)) : lh_Met Γ m_Ha_settleVisitor 2 0 0 [.ref (a + 4), .int x1] (I, L, F, S) (lh_kv K) := by
  rw [f_Ha_settleVisitor] at hf
  refine lh_ofG k_Ha_settleVisitor [(0, .ref (a + 4)), (1, .int x1)] rfl (Nat.le_of_ble_eq_true rfl) rfl ?_
  refine lh_iload_n (q := 1) rfl rfl rfl ?_
  refine lh_bipush rfl lh_b_8 ?_
  refine lh_imul rfl ?_
  refine lh_istore_n (lv' := [(0, .ref (a + 4)), (1, .int x1), (2, .int (x1 * 8))]) rfl rfl rfl rfl ?_
  refine lh_aload_n (q := 0) rfl rfl rfl ?_
  refine lh_getR4 rfl rfl (ha.1 0 _ rfl) rfl (ha.2 5 _ rfl) ?_
  refine lh_iload_n (q := 1) rfl rfl rfl ?_
  obtain ⟨g1, hf⟩ := lh_gdE hf
  refine lh_iald4 rfl (ha.1 6 _ rfl) g1 ?_
  refine lh_istore_n (lv' := [(0, .ref (a + 4)), (1, .int x1), (2, .int (x1 * 8)), (3, .int (I (a + 6 + 4) x1.toNatClampNeg))]) rfl rfl rfl rfl ?_
  refine lh_aload_n (q := 0) rfl rfl rfl ?_
  refine lh_getR4 rfl rfl (ha.1 0 _ rfl) rfl (ha.2 3 _ rfl) ?_
  refine lh_iload_n (q := 1) rfl rfl rfl ?_
  obtain ⟨g2, hf⟩ := lh_gdE hf
  refine lh_iald4 rfl (ha.1 4 _ rfl) g2 ?_
  refine lh_iconst rfl lh_k_2 ?_
  refine lh_icmp_ne rfl (fun c3 => ?_) (fun c3 => ?_)
  · have hf := lh_ifF hf c3
    refine lh_iconst rfl lh_k_0 ?_
    refine lh_istore (lv' := [(0, .ref (a + 4)), (1, .int x1), (2, .int (x1 * 8)), (3, .int (I (a + 6 + 4) x1.toNatClampNeg)), (4, .int 0)]) rfl rfl rfl ?_
    refine lh_iload (q := 4) rfl rfl ?_
    refine lh_if_eq rfl (fun _ => ?_) (fun c => absurd (by decide) c) 
    refine lh_iconst rfl lh_k_m1 ?_
    refine lh_istore (lv' := [(0, .ref (a + 4)), (1, .int x1), (2, .int (x1 * 8)), (3, .int (I (a + 6 + 4) x1.toNatClampNeg)), (4, .int 0), (5, .int (-1))]) rfl rfl rfl ?_
    refine lh_iconst rfl lh_k_0 ?_
    refine lh_istore (lv' := [(0, .ref (a + 4)), (1, .int x1), (2, .int (x1 * 8)), (3, .int (I (a + 6 + 4) x1.toNatClampNeg)), (4, .int 0), (5, .int (-1)), (6, .int 0)]) rfl rfl rfl ?_
    refine lh_bdE hf (fun r13 e14 hf => ?_)
    refine lh_less [0, 2, 3, 5, 6] rfl ?_
    refine t_Ha_settleVisitor_39 hG hS ha _ 0 I _ e14 ?_
    exact lh_vret rfl rfl (by obtain rfl := Option.some.inj hf; exact hK)
  · have hf := lh_ifT hf c3
    refine lh_iload_n (q := 3) rfl rfl rfl ?_
    refine lh_if_le rfl (fun c15 => ?_) (fun c15 => ?_)
    · have hf := lh_ifT hf c15
      refine lh_iconst rfl lh_k_0 ?_
      refine lh_istore (lv' := [(0, .ref (a + 4)), (1, .int x1), (2, .int (x1 * 8)), (3, .int (I (a + 6 + 4) x1.toNatClampNeg)), (4, .int 0)]) rfl rfl rfl ?_
      refine lh_iload (q := 4) rfl rfl ?_
      refine lh_if_eq rfl (fun _ => ?_) (fun c => absurd (by decide) c) 
      refine lh_iconst rfl lh_k_m1 ?_
      refine lh_istore (lv' := [(0, .ref (a + 4)), (1, .int x1), (2, .int (x1 * 8)), (3, .int (I (a + 6 + 4) x1.toNatClampNeg)), (4, .int 0), (5, .int (-1))]) rfl rfl rfl ?_
      refine lh_iconst rfl lh_k_0 ?_
      refine lh_istore (lv' := [(0, .ref (a + 4)), (1, .int x1), (2, .int (x1 * 8)), (3, .int (I (a + 6 + 4) x1.toNatClampNeg)), (4, .int 0), (5, .int (-1)), (6, .int 0)]) rfl rfl rfl ?_
      refine lh_bdE hf (fun r16 e17 hf => ?_)
      refine lh_less [0, 2, 3, 5, 6] rfl ?_
      refine t_Ha_settleVisitor_39 hG hS ha _ 0 I _ e17 ?_
      exact lh_vret rfl rfl (by obtain rfl := Option.some.inj hf; exact hK)
    · have hf := lh_ifF hf c15
      refine lh_iconst rfl lh_k_1 ?_
      refine lh_goto rfl ?_
      refine lh_istore (lv' := [(0, .ref (a + 4)), (1, .int x1), (2, .int (x1 * 8)), (3, .int (I (a + 6 + 4) x1.toNatClampNeg)), (4, .int 1)]) rfl rfl rfl ?_
      refine lh_iload (q := 4) rfl rfl ?_
      refine lh_if_eq rfl (fun c => absurd c (by decide)) (fun _ => ?_)
      refine lh_iload_n (q := 3) rfl rfl rfl ?_
      refine lh_bipush rfl lh_b_8 ?_
      refine lh_icmp_gt rfl (fun c18 => ?_) (fun c18 => ?_)
      · have hf := lh_ifT hf c18
        refine lh_iconst rfl lh_k_m1 ?_
        refine lh_istore (lv' := [(0, .ref (a + 4)), (1, .int x1), (2, .int (x1 * 8)), (3, .int (I (a + 6 + 4) x1.toNatClampNeg)), (4, .int 1), (5, .int (-1))]) rfl rfl rfl ?_
        refine lh_iconst rfl lh_k_0 ?_
        refine lh_istore (lv' := [(0, .ref (a + 4)), (1, .int x1), (2, .int (x1 * 8)), (3, .int (I (a + 6 + 4) x1.toNatClampNeg)), (4, .int 1), (5, .int (-1)), (6, .int 0)]) rfl rfl rfl ?_
        refine lh_bdE hf (fun r19 e20 hf => ?_)
        refine lh_less [0, 2, 3, 5, 6] rfl ?_
        refine t_Ha_settleVisitor_39 hG hS ha _ 0 I _ e20 ?_
        exact lh_vret rfl rfl (by obtain rfl := Option.some.inj hf; exact hK)
      · have hf := lh_ifF hf c18
        refine lh_aload_n (q := 0) rfl rfl rfl ?_
        refine lh_getR4 rfl rfl (ha.1 0 _ rfl) rfl (ha.2 6 _ rfl) ?_
        refine lh_iload_n (q := 2) rfl rfl rfl ?_
        refine lh_iload_n (q := 3) rfl rfl rfl ?_
        refine lh_iadd rfl ?_
        refine lh_iconst rfl lh_k_1 ?_
        refine lh_isub rfl ?_
        obtain ⟨g21, hf⟩ := lh_gdE hf
        refine lh_iald4 rfl (ha.1 7 _ rfl) g21 ?_
        refine lh_goto rfl ?_
        refine lh_istore (lv' := [(0, .ref (a + 4)), (1, .int x1), (2, .int (x1 * 8)), (3, .int (I (a + 6 + 4) x1.toNatClampNeg)), (4, .int 1), (5, .int (I (a + 7 + 4) (((x1 * 8) + (I (a + 6 + 4) x1.toNatClampNeg)) - 1).toNatClampNeg))]) rfl rfl rfl ?_
        refine lh_iconst rfl lh_k_0 ?_
        refine lh_istore (lv' := [(0, .ref (a + 4)), (1, .int x1), (2, .int (x1 * 8)), (3, .int (I (a + 6 + 4) x1.toNatClampNeg)), (4, .int 1), (5, .int (I (a + 7 + 4) (((x1 * 8) + (I (a + 6 + 4) x1.toNatClampNeg)) - 1).toNatClampNeg)), (6, .int 0)]) rfl rfl rfl ?_
        refine lh_bdE hf (fun r22 e23 hf => ?_)
        refine lh_less [0, 2, 3, 5, 6] rfl ?_
        refine t_Ha_settleVisitor_39 hG hS ha _ 0 I _ e23 ?_
        exact lh_vret rfl rfl (by obtain rfl := Option.some.inj hf; exact hK)
