/-! decompiled by program: f_.. the functions, t_.. that the methods do as they say -/
def f_LM_sums_3 (g_LM_whole : Int32 → lh_II → lh_LL → Option (lh_II)) (g_LM_test : Int32 → lh_II → lh_LL → Option (lh_II)) (g_LM_sums : Int32 → lh_II → lh_LL → Option (lh_II)) (g_LM_products : Int32 → lh_II → lh_LL → Option (lh_II)) (g_LM_takePart : Int32 → lh_II → lh_LL → Option (lh_II)) (v1 : Int32) (L : lh_LL) : Nat → lh_II → Option (lh_II)
  | 0, _ => none
  | n + 1, I => lh_bd (f_LM_isSign (43 : Int32) I L) fun r3 => if r3 = 0 then lh_bd (f_LM_isSign (45 : Int32) I L) fun r15 => if r15 = 0 then some I else lh_bd (f_LM_isSign (43 : Int32) I L) fun r18 => lh_bd (g_LM_products v1 (lh_u2 I (65 + 4) 7 ((I (65 + 4) 7) + 1)) L) fun r20 => if r18 = 0 then lh_bd (f_LM_emit (5 : Int32) (0 : Int32) r20) fun r23 => f_LM_sums_3 g_LM_whole g_LM_test g_LM_sums g_LM_products g_LM_takePart v1 L n r23 else lh_bd (f_LM_emit (4 : Int32) (0 : Int32) r20) fun r25 => f_LM_sums_3 g_LM_whole g_LM_test g_LM_sums g_LM_products g_LM_takePart v1 L n r25 else lh_bd (f_LM_isSign (43 : Int32) I L) fun r6 => lh_bd (g_LM_products v1 (lh_u2 I (65 + 4) 7 ((I (65 + 4) 7) + 1)) L) fun r8 => if r6 = 0 then lh_bd (f_LM_emit (5 : Int32) (0 : Int32) r8) fun r11 => f_LM_sums_3 g_LM_whole g_LM_test g_LM_sums g_LM_products g_LM_takePart v1 L n r11 else lh_bd (f_LM_emit (4 : Int32) (0 : Int32) r8) fun r13 => f_LM_sums_3 g_LM_whole g_LM_test g_LM_sums g_LM_products g_LM_takePart v1 L n r13
def f_LM_sums (g_LM_whole : Int32 → lh_II → lh_LL → Option (lh_II)) (g_LM_test : Int32 → lh_II → lh_LL → Option (lh_II)) (g_LM_sums : Int32 → lh_II → lh_LL → Option (lh_II)) (g_LM_products : Int32 → lh_II → lh_LL → Option (lh_II)) (g_LM_takePart : Int32 → lh_II → lh_LL → Option (lh_II)) (x1 : Int32) (I : lh_II) (L : lh_LL) : Option (lh_II) := lh_bd (g_LM_products x1 I L) fun r1 => lh_bd (f_LM_sums_3 g_LM_whole g_LM_test g_LM_sums g_LM_products g_LM_takePart x1 L lh_fuel r1) fun r27 => some r27
theorem t_LM_sums_3 {Γ : lh_Cx} {F : lh_FF} {S : lh_SS} {Z : List Frame → Array Value → State → State → Prop} (hG : lh_GX Γ) (hS : lh_laym F S) {D : Nat} {g_LM_whole : Int32 → lh_II → lh_LL → Option (lh_II)} (hg_LM_whole : ∀ {I : lh_II} {L : lh_LL} {K : lh_Hp → Prop} {r : lh_II}  {x1 : Int32}, g_LM_whole x1 I L = some r → K (r, L, F, S) → lh_Met Γ m_LM_whole (D + 10) 0 0 [.ref (65 + 4), .int x1] (I, L, F, S) (lh_kv K)) {g_LM_test : Int32 → lh_II → lh_LL → Option (lh_II)} (hg_LM_test : ∀ {I : lh_II} {L : lh_LL} {K : lh_Hp → Prop} {r : lh_II}  {x1 : Int32}, g_LM_test x1 I L = some r → K (r, L, F, S) → lh_Met Γ m_LM_test (D + 10) 0 0 [.ref (65 + 4), .int x1] (I, L, F, S) (lh_kv K)) {g_LM_sums : Int32 → lh_II → lh_LL → Option (lh_II)} (hg_LM_sums : ∀ {I : lh_II} {L : lh_LL} {K : lh_Hp → Prop} {r : lh_II}  {x1 : Int32}, g_LM_sums x1 I L = some r → K (r, L, F, S) → lh_Met Γ m_LM_sums (D + 10) 0 0 [.ref (65 + 4), .int x1] (I, L, F, S) (lh_kv K)) {g_LM_products : Int32 → lh_II → lh_LL → Option (lh_II)} (hg_LM_products : ∀ {I : lh_II} {L : lh_LL} {K : lh_Hp → Prop} {r : lh_II}  {x1 : Int32}, g_LM_products x1 I L = some r → K (r, L, F, S) → lh_Met Γ m_LM_products (D + 10) 0 0 [.ref (65 + 4), .int x1] (I, L, F, S) (lh_kv K)) {g_LM_takePart : Int32 → lh_II → lh_LL → Option (lh_II)} (hg_LM_takePart : ∀ {I : lh_II} {L : lh_LL} {K : lh_Hp → Prop} {r : lh_II}  {x1 : Int32}, g_LM_takePart x1 I L = some r → K (r, L, F, S) → lh_Met Γ m_LM_takePart (D + 10) 0 0 [.ref (65 + 4), .int x1] (I, L, F, S) (lh_kv K))  {v1 : Int32} {L : lh_LL} : ∀ (n : Nat) (I : lh_II) (o : lh_II), f_LM_sums_3 g_LM_whole g_LM_test g_LM_sums g_LM_products g_LM_takePart v1 L n I = some o → ∀ (x0_ : lh_G Γ m_LM_sums (lh_R (D + 11) 0 0) Z 0 0 33 [] [] (o, L, F, S)), lh_G Γ m_LM_sums (lh_R (D + 11) 0 0) Z 0 0 3 [(0, .ref (65 + 4)), (1, .int v1)] [] (I, L, F, S) := by
  intro n
  induction n with
  | zero => intro I o hf; cases hf
  | succ n ih =>
    intro I o hf x0_
    rw [f_LM_sums_3] at hf
    refine lh_aload_n (q := 0) rfl rfl rfl ?_
    refine lh_bipush rfl lh_b_43 ?_
    refine lh_bdE hf (fun r3 e4 hf => ?_)
    refine lh_cVi (N := m_LM_isSign) (d := 0) (o := 65) (As := [.int 43]) (st := []) rfl rfl v_LM_isSign (hS.1 0 _ rfl) rfl rfl rfl ⟨lh_bD (by omega), lh_bL (by omega)⟩ rfl (t_LM_isSign hG hS e4 ?_)
    refine lh_if_ne rfl (fun c5 => ?_) (fun c5 => ?_)
    · have hf := lh_ifF hf c5
      refine lh_aload_n (q := 0) rfl rfl rfl ?_
      refine lh_bipush rfl lh_b_43 ?_
      refine lh_bdE hf (fun r6 e7 hf => ?_)
      refine lh_cVi (N := m_LM_isSign) (d := 0) (o := 65) (As := [.int 43]) (st := []) rfl rfl v_LM_isSign (hS.1 0 _ rfl) rfl rfl rfl ⟨lh_bD (by omega), lh_bL (by omega)⟩ rfl (t_LM_isSign hG hS e7 ?_)
      refine lh_istore_n (lv' := [(0, .ref (65 + 4)), (1, .int v1), (2, .int r6)]) rfl rfl rfl rfl ?_
      refine lh_aload_n (q := 0) rfl rfl rfl ?_
      refine lh_dup rfl rfl ?_
      refine lh_getI4 rfl rfl (hS.1 0 _ rfl) rfl ?_
      refine lh_iconst rfl lh_k_1 ?_
      refine lh_iadd rfl ?_
      refine lh_putI4 rfl rfl (hS.1 0 _ rfl) rfl rfl ?_
      refine lh_aload_n (q := 0) rfl rfl rfl ?_
      refine lh_iload_n (q := 1) rfl rfl rfl ?_
      refine lh_bdE hf (fun r8 e9 hf => ?_)
      refine lh_cVv (N := m_LM_products) (d := D + 10) (o := 65) (As := [.int v1]) (st := []) rfl rfl v_LM_products (hS.1 0 _ rfl) rfl rfl rfl ⟨lh_bD (by omega), lh_bL (by omega)⟩ rfl (hg_LM_products e9 ?_)
      refine lh_aload_n (q := 0) rfl rfl rfl ?_
      refine lh_iload_n (q := 2) rfl rfl rfl ?_
      refine lh_if_eq rfl (fun c10 => ?_) (fun c10 => ?_)
      · have hf := lh_ifT hf c10
        refine lh_iconst rfl lh_k_5 ?_
        refine lh_iconst rfl lh_k_0 ?_
        refine lh_bdE hf (fun r11 e12 hf => ?_)
        refine lh_cVv (N := m_LM_emit) (d := 0) (o := 65) (As := [.int 5, .int 0]) (st := []) rfl rfl v_LM_emit (hS.1 0 _ rfl) rfl rfl rfl ⟨lh_bD (by omega), lh_bL (by omega)⟩ rfl (t_LM_emit hG hS e12 ?_)
        refine lh_goto rfl ?_
        refine lh_less [0, 1] rfl ?_
        exact ih r11 _ hf x0_
      · have hf := lh_ifF hf c10
        refine lh_iconst rfl lh_k_4 ?_
        refine lh_goto rfl ?_
        refine lh_iconst rfl lh_k_0 ?_
        refine lh_bdE hf (fun r13 e14 hf => ?_)
        refine lh_cVv (N := m_LM_emit) (d := 0) (o := 65) (As := [.int 4, .int 0]) (st := []) rfl rfl v_LM_emit (hS.1 0 _ rfl) rfl rfl rfl ⟨lh_bD (by omega), lh_bL (by omega)⟩ rfl (t_LM_emit hG hS e14 ?_)
        refine lh_goto rfl ?_
        refine lh_less [0, 1] rfl ?_
        exact ih r13 _ hf x0_
    · have hf := lh_ifT hf c5
      refine lh_aload_n (q := 0) rfl rfl rfl ?_
      refine lh_bipush rfl lh_b_45 ?_
      refine lh_bdE hf (fun r15 e16 hf => ?_)
      refine lh_cVi (N := m_LM_isSign) (d := 0) (o := 65) (As := [.int 45]) (st := []) rfl rfl v_LM_isSign (hS.1 0 _ rfl) rfl rfl rfl ⟨lh_bD (by omega), lh_bL (by omega)⟩ rfl (t_LM_isSign hG hS e16 ?_)
      refine lh_if_eq rfl (fun c17 => ?_) (fun c17 => ?_)
      · have hf := lh_ifT hf c17
        exact lh_less [] rfl (by cases hf; exact x0_)
      · have hf := lh_ifF hf c17
        refine lh_aload_n (q := 0) rfl rfl rfl ?_
        refine lh_bipush rfl lh_b_43 ?_
        refine lh_bdE hf (fun r18 e19 hf => ?_)
        refine lh_cVi (N := m_LM_isSign) (d := 0) (o := 65) (As := [.int 43]) (st := []) rfl rfl v_LM_isSign (hS.1 0 _ rfl) rfl rfl rfl ⟨lh_bD (by omega), lh_bL (by omega)⟩ rfl (t_LM_isSign hG hS e19 ?_)
        refine lh_istore_n (lv' := [(0, .ref (65 + 4)), (1, .int v1), (2, .int r18)]) rfl rfl rfl rfl ?_
        refine lh_aload_n (q := 0) rfl rfl rfl ?_
        refine lh_dup rfl rfl ?_
        refine lh_getI4 rfl rfl (hS.1 0 _ rfl) rfl ?_
        refine lh_iconst rfl lh_k_1 ?_
        refine lh_iadd rfl ?_
        refine lh_putI4 rfl rfl (hS.1 0 _ rfl) rfl rfl ?_
        refine lh_aload_n (q := 0) rfl rfl rfl ?_
        refine lh_iload_n (q := 1) rfl rfl rfl ?_
        refine lh_bdE hf (fun r20 e21 hf => ?_)
        refine lh_cVv (N := m_LM_products) (d := D + 10) (o := 65) (As := [.int v1]) (st := []) rfl rfl v_LM_products (hS.1 0 _ rfl) rfl rfl rfl ⟨lh_bD (by omega), lh_bL (by omega)⟩ rfl (hg_LM_products e21 ?_)
        refine lh_aload_n (q := 0) rfl rfl rfl ?_
        refine lh_iload_n (q := 2) rfl rfl rfl ?_
        refine lh_if_eq rfl (fun c22 => ?_) (fun c22 => ?_)
        · have hf := lh_ifT hf c22
          refine lh_iconst rfl lh_k_5 ?_
          refine lh_iconst rfl lh_k_0 ?_
          refine lh_bdE hf (fun r23 e24 hf => ?_)
          refine lh_cVv (N := m_LM_emit) (d := 0) (o := 65) (As := [.int 5, .int 0]) (st := []) rfl rfl v_LM_emit (hS.1 0 _ rfl) rfl rfl rfl ⟨lh_bD (by omega), lh_bL (by omega)⟩ rfl (t_LM_emit hG hS e24 ?_)
          refine lh_goto rfl ?_
          refine lh_less [0, 1] rfl ?_
          exact ih r23 _ hf x0_
        · have hf := lh_ifF hf c22
          refine lh_iconst rfl lh_k_4 ?_
          refine lh_goto rfl ?_
          refine lh_iconst rfl lh_k_0 ?_
          refine lh_bdE hf (fun r25 e26 hf => ?_)
          refine lh_cVv (N := m_LM_emit) (d := 0) (o := 65) (As := [.int 4, .int 0]) (st := []) rfl rfl v_LM_emit (hS.1 0 _ rfl) rfl rfl rfl ⟨lh_bD (by omega), lh_bL (by omega)⟩ rfl (t_LM_emit hG hS e26 ?_)
          refine lh_goto rfl ?_
          refine lh_less [0, 1] rfl ?_
          exact ih r25 _ hf x0_
theorem t_LM_sums {Γ : lh_Cx} {I : lh_II} {L : lh_LL} {F : lh_FF} {S : lh_SS} {K : lh_Hp → Prop} {r : lh_II} (hG : lh_GX Γ) (hS : lh_laym F S) {D : Nat} {g_LM_whole : Int32 → lh_II → lh_LL → Option (lh_II)} (hg_LM_whole : ∀ {I : lh_II} {L : lh_LL} {K : lh_Hp → Prop} {r : lh_II}  {x1 : Int32}, g_LM_whole x1 I L = some r → K (r, L, F, S) → lh_Met Γ m_LM_whole (D + 10) 0 0 [.ref (65 + 4), .int x1] (I, L, F, S) (lh_kv K)) {g_LM_test : Int32 → lh_II → lh_LL → Option (lh_II)} (hg_LM_test : ∀ {I : lh_II} {L : lh_LL} {K : lh_Hp → Prop} {r : lh_II}  {x1 : Int32}, g_LM_test x1 I L = some r → K (r, L, F, S) → lh_Met Γ m_LM_test (D + 10) 0 0 [.ref (65 + 4), .int x1] (I, L, F, S) (lh_kv K)) {g_LM_sums : Int32 → lh_II → lh_LL → Option (lh_II)} (hg_LM_sums : ∀ {I : lh_II} {L : lh_LL} {K : lh_Hp → Prop} {r : lh_II}  {x1 : Int32}, g_LM_sums x1 I L = some r → K (r, L, F, S) → lh_Met Γ m_LM_sums (D + 10) 0 0 [.ref (65 + 4), .int x1] (I, L, F, S) (lh_kv K)) {g_LM_products : Int32 → lh_II → lh_LL → Option (lh_II)} (hg_LM_products : ∀ {I : lh_II} {L : lh_LL} {K : lh_Hp → Prop} {r : lh_II}  {x1 : Int32}, g_LM_products x1 I L = some r → K (r, L, F, S) → lh_Met Γ m_LM_products (D + 10) 0 0 [.ref (65 + 4), .int x1] (I, L, F, S) (lh_kv K)) {g_LM_takePart : Int32 → lh_II → lh_LL → Option (lh_II)} (hg_LM_takePart : ∀ {I : lh_II} {L : lh_LL} {K : lh_Hp → Prop} {r : lh_II}  {x1 : Int32}, g_LM_takePart x1 I L = some r → K (r, L, F, S) → lh_Met Γ m_LM_takePart (D + 10) 0 0 [.ref (65 + 4), .int x1] (I, L, F, S) (lh_kv K))  {x1 : Int32} (hf : f_LM_sums g_LM_whole g_LM_test g_LM_sums g_LM_products g_LM_takePart x1 I L = some r) (hK : K (r, L, F, S)) : lh_Met Γ m_LM_sums (D + 11) 0 0 [.ref (65 + 4), .int x1] (I, L, F, S) (lh_kv K) := by
  rw [f_LM_sums] at hf
  refine lh_ofG k_LM_sums [(0, .ref (65 + 4)), (1, .int x1)] rfl (Nat.le_of_ble_eq_true rfl) rfl ?_
  refine lh_aload_n (q := 0) rfl rfl rfl ?_
  refine lh_iload_n (q := 1) rfl rfl rfl ?_
  refine lh_bdE hf (fun r1 e2 hf => ?_)
  refine lh_cVv (N := m_LM_products) (d := D + 10) (o := 65) (As := [.int x1]) (st := []) rfl rfl v_LM_products (hS.1 0 _ rfl) rfl rfl rfl ⟨lh_bD (by omega), lh_bL (by omega)⟩ rfl (hg_LM_products e2 ?_)
  refine lh_bdE hf (fun r27 e28 hf => ?_)
  refine t_LM_sums_3 hG hS hg_LM_whole hg_LM_test hg_LM_sums hg_LM_products hg_LM_takePart _ r1 _ e28 ?_
  exact lh_vret rfl rfl (by obtain rfl := Option.some.inj hf; exact hK)
def f_LM_test (g_LM_whole : Int32 → lh_II → lh_LL → Option (lh_II)) (g_LM_test : Int32 → lh_II → lh_LL → Option (lh_II)) (g_LM_sums : Int32 → lh_II → lh_LL → Option (lh_II)) (g_LM_products : Int32 → lh_II → lh_LL → Option (lh_II)) (g_LM_takePart : Int32 → lh_II → lh_LL → Option (lh_II)) (x1 : Int32) (I : lh_II) (L : lh_LL) : Option (lh_II) := lh_bd (g_LM_sums x1 I L) fun r1 => lh_bd (f_LM_isSign (60 : Int32) r1 L) fun r3 => lh_bd (f_LM_hasSign (60 : Int32) r1 L) fun r5 => if r5.1 = 0 then lh_bd (f_LM_hasSign (61 : Int32) r5.2 L) fun r15 => if r15.1 = 0 then some r15.2 else lh_bd (g_LM_sums x1 r15.2 L) fun r18 => if r3 = 0 then lh_bd (f_LM_emit (8 : Int32) (0 : Int32) r18) fun r21 => some r21 else lh_bd (f_LM_emit (7 : Int32) (0 : Int32) r18) fun r23 => some r23 else lh_bd (g_LM_sums x1 r5.2 L) fun r8 => if r3 = 0 then lh_bd (f_LM_emit (8 : Int32) (0 : Int32) r8) fun r11 => some r11 else lh_bd (f_LM_emit (7 : Int32) (0 : Int32) r8) fun r13 => some r13
theorem t_LM_test {Γ : lh_Cx} {I : lh_II} {L : lh_LL} {F : lh_FF} {S : lh_SS} {K : lh_Hp → Prop} {r : lh_II} (hG : lh_GX Γ) (hS : lh_laym F S) {D : Nat} {g_LM_whole : Int32 → lh_II → lh_LL → Option (lh_II)} (hg_LM_whole : ∀ {I : lh_II} {L : lh_LL} {K : lh_Hp → Prop} {r : lh_II}  {x1 : Int32}, g_LM_whole x1 I L = some r → K (r, L, F, S) → lh_Met Γ m_LM_whole (D + 10) 0 0 [.ref (65 + 4), .int x1] (I, L, F, S) (lh_kv K)) {g_LM_test : Int32 → lh_II → lh_LL → Option (lh_II)} (hg_LM_test : ∀ {I : lh_II} {L : lh_LL} {K : lh_Hp → Prop} {r : lh_II}  {x1 : Int32}, g_LM_test x1 I L = some r → K (r, L, F, S) → lh_Met Γ m_LM_test (D + 10) 0 0 [.ref (65 + 4), .int x1] (I, L, F, S) (lh_kv K)) {g_LM_sums : Int32 → lh_II → lh_LL → Option (lh_II)} (hg_LM_sums : ∀ {I : lh_II} {L : lh_LL} {K : lh_Hp → Prop} {r : lh_II}  {x1 : Int32}, g_LM_sums x1 I L = some r → K (r, L, F, S) → lh_Met Γ m_LM_sums (D + 10) 0 0 [.ref (65 + 4), .int x1] (I, L, F, S) (lh_kv K)) {g_LM_products : Int32 → lh_II → lh_LL → Option (lh_II)} (hg_LM_products : ∀ {I : lh_II} {L : lh_LL} {K : lh_Hp → Prop} {r : lh_II}  {x1 : Int32}, g_LM_products x1 I L = some r → K (r, L, F, S) → lh_Met Γ m_LM_products (D + 10) 0 0 [.ref (65 + 4), .int x1] (I, L, F, S) (lh_kv K)) {g_LM_takePart : Int32 → lh_II → lh_LL → Option (lh_II)} (hg_LM_takePart : ∀ {I : lh_II} {L : lh_LL} {K : lh_Hp → Prop} {r : lh_II}  {x1 : Int32}, g_LM_takePart x1 I L = some r → K (r, L, F, S) → lh_Met Γ m_LM_takePart (D + 10) 0 0 [.ref (65 + 4), .int x1] (I, L, F, S) (lh_kv K))  {x1 : Int32} (hf : f_LM_test g_LM_whole g_LM_test g_LM_sums g_LM_products g_LM_takePart x1 I L = some r) (hK : K (r, L, F, S)) : lh_Met Γ m_LM_test (D + 11) 0 0 [.ref (65 + 4), .int x1] (I, L, F, S) (lh_kv K) := by
  rw [f_LM_test] at hf
  refine lh_ofG k_LM_test [(0, .ref (65 + 4)), (1, .int x1)] rfl (Nat.le_of_ble_eq_true rfl) rfl ?_
  refine lh_aload_n (q := 0) rfl rfl rfl ?_
  refine lh_iload_n (q := 1) rfl rfl rfl ?_
  refine lh_bdE hf (fun r1 e2 hf => ?_)
  refine lh_cVv (N := m_LM_sums) (d := D + 10) (o := 65) (As := [.int x1]) (st := []) rfl rfl v_LM_sums (hS.1 0 _ rfl) rfl rfl rfl ⟨lh_bD (by omega), lh_bL (by omega)⟩ rfl (hg_LM_sums e2 ?_)
  refine lh_aload_n (q := 0) rfl rfl rfl ?_
  refine lh_bipush rfl lh_b_60 ?_
  refine lh_bdE hf (fun r3 e4 hf => ?_)
  refine lh_cVi (N := m_LM_isSign) (d := 0) (o := 65) (As := [.int 60]) (st := []) rfl rfl v_LM_isSign (hS.1 0 _ rfl) rfl rfl rfl ⟨lh_bD (by omega), lh_bL (by omega)⟩ rfl (t_LM_isSign hG hS e4 ?_)
  refine lh_istore_n (lv' := [(0, .ref (65 + 4)), (1, .int x1), (2, .int r3)]) rfl rfl rfl rfl ?_
  refine lh_aload_n (q := 0) rfl rfl rfl ?_
  refine lh_bipush rfl lh_b_60 ?_
  refine lh_bdE hf (fun r5 e6 hf => ?_)
  refine lh_cVi (N := m_LM_hasSign) (d := 1) (o := 65) (As := [.int 60]) (st := []) rfl rfl v_LM_hasSign (hS.1 0 _ rfl) rfl rfl rfl ⟨lh_bD (by omega), lh_bL (by omega)⟩ rfl (t_LM_hasSign hG hS e6 ?_)
  refine lh_if_ne rfl (fun c7 => ?_) (fun c7 => ?_)
  · have hf := lh_ifF hf c7
    refine lh_aload_n (q := 0) rfl rfl rfl ?_
    refine lh_iload_n (q := 1) rfl rfl rfl ?_
    refine lh_bdE hf (fun r8 e9 hf => ?_)
    refine lh_cVv (N := m_LM_sums) (d := D + 10) (o := 65) (As := [.int x1]) (st := []) rfl rfl v_LM_sums (hS.1 0 _ rfl) rfl rfl rfl ⟨lh_bD (by omega), lh_bL (by omega)⟩ rfl (hg_LM_sums e9 ?_)
    refine lh_aload_n (q := 0) rfl rfl rfl ?_
    refine lh_iload_n (q := 2) rfl rfl rfl ?_
    refine lh_if_eq rfl (fun c10 => ?_) (fun c10 => ?_)
    · have hf := lh_ifT hf c10
      refine lh_bipush rfl lh_b_8 ?_
      refine lh_iconst rfl lh_k_0 ?_
      refine lh_bdE hf (fun r11 e12 hf => ?_)
      refine lh_cVv (N := m_LM_emit) (d := 0) (o := 65) (As := [.int 8, .int 0]) (st := []) rfl rfl v_LM_emit (hS.1 0 _ rfl) rfl rfl rfl ⟨lh_bD (by omega), lh_bL (by omega)⟩ rfl (t_LM_emit hG hS e12 ?_)
      exact lh_vret rfl rfl (by obtain rfl := Option.some.inj hf; exact hK)
    · have hf := lh_ifF hf c10
      refine lh_bipush rfl lh_b_7 ?_
      refine lh_goto rfl ?_
      refine lh_iconst rfl lh_k_0 ?_
      refine lh_bdE hf (fun r13 e14 hf => ?_)
      refine lh_cVv (N := m_LM_emit) (d := 0) (o := 65) (As := [.int 7, .int 0]) (st := []) rfl rfl v_LM_emit (hS.1 0 _ rfl) rfl rfl rfl ⟨lh_bD (by omega), lh_bL (by omega)⟩ rfl (t_LM_emit hG hS e14 ?_)
      exact lh_vret rfl rfl (by obtain rfl := Option.some.inj hf; exact hK)
  · have hf := lh_ifT hf c7
    refine lh_aload_n (q := 0) rfl rfl rfl ?_
    refine lh_bipush rfl lh_b_61 ?_
    refine lh_bdE hf (fun r15 e16 hf => ?_)
    refine lh_cVi (N := m_LM_hasSign) (d := 1) (o := 65) (As := [.int 61]) (st := []) rfl rfl v_LM_hasSign (hS.1 0 _ rfl) rfl rfl rfl ⟨lh_bD (by omega), lh_bL (by omega)⟩ rfl (t_LM_hasSign hG hS e16 ?_)
    refine lh_if_eq rfl (fun c17 => ?_) (fun c17 => ?_)
    · have hf := lh_ifT hf c17
      exact lh_vret rfl rfl (by obtain rfl := Option.some.inj hf; exact hK)
    · have hf := lh_ifF hf c17
      refine lh_aload_n (q := 0) rfl rfl rfl ?_
      refine lh_iload_n (q := 1) rfl rfl rfl ?_
      refine lh_bdE hf (fun r18 e19 hf => ?_)
      refine lh_cVv (N := m_LM_sums) (d := D + 10) (o := 65) (As := [.int x1]) (st := []) rfl rfl v_LM_sums (hS.1 0 _ rfl) rfl rfl rfl ⟨lh_bD (by omega), lh_bL (by omega)⟩ rfl (hg_LM_sums e19 ?_)
      refine lh_aload_n (q := 0) rfl rfl rfl ?_
      refine lh_iload_n (q := 2) rfl rfl rfl ?_
      refine lh_if_eq rfl (fun c20 => ?_) (fun c20 => ?_)
      · have hf := lh_ifT hf c20
        refine lh_bipush rfl lh_b_8 ?_
        refine lh_iconst rfl lh_k_0 ?_
        refine lh_bdE hf (fun r21 e22 hf => ?_)
        refine lh_cVv (N := m_LM_emit) (d := 0) (o := 65) (As := [.int 8, .int 0]) (st := []) rfl rfl v_LM_emit (hS.1 0 _ rfl) rfl rfl rfl ⟨lh_bD (by omega), lh_bL (by omega)⟩ rfl (t_LM_emit hG hS e22 ?_)
        exact lh_vret rfl rfl (by obtain rfl := Option.some.inj hf; exact hK)
      · have hf := lh_ifF hf c20
        refine lh_bipush rfl lh_b_7 ?_
        refine lh_goto rfl ?_
        refine lh_iconst rfl lh_k_0 ?_
        refine lh_bdE hf (fun r23 e24 hf => ?_)
        refine lh_cVv (N := m_LM_emit) (d := 0) (o := 65) (As := [.int 7, .int 0]) (st := []) rfl rfl v_LM_emit (hS.1 0 _ rfl) rfl rfl rfl ⟨lh_bD (by omega), lh_bL (by omega)⟩ rfl (t_LM_emit hG hS e24 ?_)
        exact lh_vret rfl rfl (by obtain rfl := Option.some.inj hf; exact hK)
def f_LM_whole_3 (g_LM_whole : Int32 → lh_II → lh_LL → Option (lh_II)) (g_LM_test : Int32 → lh_II → lh_LL → Option (lh_II)) (g_LM_sums : Int32 → lh_II → lh_LL → Option (lh_II)) (g_LM_products : Int32 → lh_II → lh_LL → Option (lh_II)) (g_LM_takePart : Int32 → lh_II → lh_LL → Option (lh_II)) (v1 : Int32) (L : lh_LL) : Nat → lh_II → Option (lh_II)
  | 0, _ => none
  | n + 1, I => lh_bd (f_LM_isWord (21 : Int32) I L) fun r3 => if r3 = 0 then lh_bd (f_LM_isWord (22 : Int32) I L) fun r15 => if r15 = 0 then some I else lh_bd (f_LM_isWord (21 : Int32) I L) fun r18 => lh_bd (g_LM_test v1 (lh_u2 I (65 + 4) 7 ((I (65 + 4) 7) + 1)) L) fun r20 => if r18 = 0 then lh_bd (f_LM_emit (10 : Int32) (0 : Int32) r20) fun r23 => f_LM_whole_3 g_LM_whole g_LM_test g_LM_sums g_LM_products g_LM_takePart v1 L n r23 else lh_bd (f_LM_emit (9 : Int32) (0 : Int32) r20) fun r25 => f_LM_whole_3 g_LM_whole g_LM_test g_LM_sums g_LM_products g_LM_takePart v1 L n r25 else lh_bd (f_LM_isWord (21 : Int32) I L) fun r6 => lh_bd (g_LM_test v1 (lh_u2 I (65 + 4) 7 ((I (65 + 4) 7) + 1)) L) fun r8 => if r6 = 0 then lh_bd (f_LM_emit (10 : Int32) (0 : Int32) r8) fun r11 => f_LM_whole_3 g_LM_whole g_LM_test g_LM_sums g_LM_products g_LM_takePart v1 L n r11 else lh_bd (f_LM_emit (9 : Int32) (0 : Int32) r8) fun r13 => f_LM_whole_3 g_LM_whole g_LM_test g_LM_sums g_LM_products g_LM_takePart v1 L n r13
def f_LM_whole (g_LM_whole : Int32 → lh_II → lh_LL → Option (lh_II)) (g_LM_test : Int32 → lh_II → lh_LL → Option (lh_II)) (g_LM_sums : Int32 → lh_II → lh_LL → Option (lh_II)) (g_LM_products : Int32 → lh_II → lh_LL → Option (lh_II)) (g_LM_takePart : Int32 → lh_II → lh_LL → Option (lh_II)) (x1 : Int32) (I : lh_II) (L : lh_LL) : Option (lh_II) := lh_bd (g_LM_test x1 I L) fun r1 => lh_bd (f_LM_whole_3 g_LM_whole g_LM_test g_LM_sums g_LM_products g_LM_takePart x1 L lh_fuel r1) fun r27 => some r27
theorem t_LM_whole_3 {Γ : lh_Cx} {F : lh_FF} {S : lh_SS} {Z : List Frame → Array Value → State → State → Prop} (hG : lh_GX Γ) (hS : lh_laym F S) {D : Nat} {g_LM_whole : Int32 → lh_II → lh_LL → Option (lh_II)} (hg_LM_whole : ∀ {I : lh_II} {L : lh_LL} {K : lh_Hp → Prop} {r : lh_II}  {x1 : Int32}, g_LM_whole x1 I L = some r → K (r, L, F, S) → lh_Met Γ m_LM_whole (D + 10) 0 0 [.ref (65 + 4), .int x1] (I, L, F, S) (lh_kv K)) {g_LM_test : Int32 → lh_II → lh_LL → Option (lh_II)} (hg_LM_test : ∀ {I : lh_II} {L : lh_LL} {K : lh_Hp → Prop} {r : lh_II}  {x1 : Int32}, g_LM_test x1 I L = some r → K (r, L, F, S) → lh_Met Γ m_LM_test (D + 10) 0 0 [.ref (65 + 4), .int x1] (I, L, F, S) (lh_kv K)) {g_LM_sums : Int32 → lh_II → lh_LL → Option (lh_II)} (hg_LM_sums : ∀ {I : lh_II} {L : lh_LL} {K : lh_Hp → Prop} {r : lh_II}  {x1 : Int32}, g_LM_sums x1 I L = some r → K (r, L, F, S) → lh_Met Γ m_LM_sums (D + 10) 0 0 [.ref (65 + 4), .int x1] (I, L, F, S) (lh_kv K)) {g_LM_products : Int32 → lh_II → lh_LL → Option (lh_II)} (hg_LM_products : ∀ {I : lh_II} {L : lh_LL} {K : lh_Hp → Prop} {r : lh_II}  {x1 : Int32}, g_LM_products x1 I L = some r → K (r, L, F, S) → lh_Met Γ m_LM_products (D + 10) 0 0 [.ref (65 + 4), .int x1] (I, L, F, S) (lh_kv K)) {g_LM_takePart : Int32 → lh_II → lh_LL → Option (lh_II)} (hg_LM_takePart : ∀ {I : lh_II} {L : lh_LL} {K : lh_Hp → Prop} {r : lh_II}  {x1 : Int32}, g_LM_takePart x1 I L = some r → K (r, L, F, S) → lh_Met Γ m_LM_takePart (D + 10) 0 0 [.ref (65 + 4), .int x1] (I, L, F, S) (lh_kv K))  {v1 : Int32} {L : lh_LL} : ∀ (n : Nat) (I : lh_II) (o : lh_II), f_LM_whole_3 g_LM_whole g_LM_test g_LM_sums g_LM_products g_LM_takePart v1 L n I = some o → ∀ (x0_ : lh_G Γ m_LM_whole (lh_R (D + 11) 0 0) Z 0 0 33 [] [] (o, L, F, S)), lh_G Γ m_LM_whole (lh_R (D + 11) 0 0) Z 0 0 3 [(0, .ref (65 + 4)), (1, .int v1)] [] (I, L, F, S) := by
  intro n
  induction n with
  | zero => intro I o hf; cases hf
  | succ n ih =>
    intro I o hf x0_
    rw [f_LM_whole_3] at hf
    refine lh_aload_n (q := 0) rfl rfl rfl ?_
    refine lh_bipush rfl lh_b_21 ?_
    refine lh_bdE hf (fun r3 e4 hf => ?_)
    refine lh_cVi (N := m_LM_isWord) (d := 0) (o := 65) (As := [.int 21]) (st := []) rfl rfl v_LM_isWord (hS.1 0 _ rfl) rfl rfl rfl ⟨lh_bD (by omega), lh_bL (by omega)⟩ rfl (t_LM_isWord hG hS e4 ?_)
    refine lh_if_ne rfl (fun c5 => ?_) (fun c5 => ?_)
    · have hf := lh_ifF hf c5
      refine lh_aload_n (q := 0) rfl rfl rfl ?_
      refine lh_bipush rfl lh_b_21 ?_
      refine lh_bdE hf (fun r6 e7 hf => ?_)
      refine lh_cVi (N := m_LM_isWord) (d := 0) (o := 65) (As := [.int 21]) (st := []) rfl rfl v_LM_isWord (hS.1 0 _ rfl) rfl rfl rfl ⟨lh_bD (by omega), lh_bL (by omega)⟩ rfl (t_LM_isWord hG hS e7 ?_)
      refine lh_istore_n (lv' := [(0, .ref (65 + 4)), (1, .int v1), (2, .int r6)]) rfl rfl rfl rfl ?_
      refine lh_aload_n (q := 0) rfl rfl rfl ?_
      refine lh_dup rfl rfl ?_
      refine lh_getI4 rfl rfl (hS.1 0 _ rfl) rfl ?_
      refine lh_iconst rfl lh_k_1 ?_
      refine lh_iadd rfl ?_
      refine lh_putI4 rfl rfl (hS.1 0 _ rfl) rfl rfl ?_
      refine lh_aload_n (q := 0) rfl rfl rfl ?_
      refine lh_iload_n (q := 1) rfl rfl rfl ?_
      refine lh_bdE hf (fun r8 e9 hf => ?_)
      refine lh_cVv (N := m_LM_test) (d := D + 10) (o := 65) (As := [.int v1]) (st := []) rfl rfl v_LM_test (hS.1 0 _ rfl) rfl rfl rfl ⟨lh_bD (by omega), lh_bL (by omega)⟩ rfl (hg_LM_test e9 ?_)
      refine lh_aload_n (q := 0) rfl rfl rfl ?_
      refine lh_iload_n (q := 2) rfl rfl rfl ?_
      refine lh_if_eq rfl (fun c10 => ?_) (fun c10 => ?_)
      · have hf := lh_ifT hf c10
        refine lh_bipush rfl lh_b_10 ?_
        refine lh_iconst rfl lh_k_0 ?_
        refine lh_bdE hf (fun r11 e12 hf => ?_)
        refine lh_cVv (N := m_LM_emit) (d := 0) (o := 65) (As := [.int 10, .int 0]) (st := []) rfl rfl v_LM_emit (hS.1 0 _ rfl) rfl rfl rfl ⟨lh_bD (by omega), lh_bL (by omega)⟩ rfl (t_LM_emit hG hS e12 ?_)
        refine lh_goto rfl ?_
        refine lh_less [0, 1] rfl ?_
        exact ih r11 _ hf x0_
      · have hf := lh_ifF hf c10
        refine lh_bipush rfl lh_b_9 ?_
        refine lh_goto rfl ?_
        refine lh_iconst rfl lh_k_0 ?_
        refine lh_bdE hf (fun r13 e14 hf => ?_)
        refine lh_cVv (N := m_LM_emit) (d := 0) (o := 65) (As := [.int 9, .int 0]) (st := []) rfl rfl v_LM_emit (hS.1 0 _ rfl) rfl rfl rfl ⟨lh_bD (by omega), lh_bL (by omega)⟩ rfl (t_LM_emit hG hS e14 ?_)
        refine lh_goto rfl ?_
        refine lh_less [0, 1] rfl ?_
        exact ih r13 _ hf x0_
    · have hf := lh_ifT hf c5
      refine lh_aload_n (q := 0) rfl rfl rfl ?_
      refine lh_bipush rfl lh_b_22 ?_
      refine lh_bdE hf (fun r15 e16 hf => ?_)
      refine lh_cVi (N := m_LM_isWord) (d := 0) (o := 65) (As := [.int 22]) (st := []) rfl rfl v_LM_isWord (hS.1 0 _ rfl) rfl rfl rfl ⟨lh_bD (by omega), lh_bL (by omega)⟩ rfl (t_LM_isWord hG hS e16 ?_)
      refine lh_if_eq rfl (fun c17 => ?_) (fun c17 => ?_)
      · have hf := lh_ifT hf c17
        exact lh_less [] rfl (by cases hf; exact x0_)
      · have hf := lh_ifF hf c17
        refine lh_aload_n (q := 0) rfl rfl rfl ?_
        refine lh_bipush rfl lh_b_21 ?_
        refine lh_bdE hf (fun r18 e19 hf => ?_)
        refine lh_cVi (N := m_LM_isWord) (d := 0) (o := 65) (As := [.int 21]) (st := []) rfl rfl v_LM_isWord (hS.1 0 _ rfl) rfl rfl rfl ⟨lh_bD (by omega), lh_bL (by omega)⟩ rfl (t_LM_isWord hG hS e19 ?_)
        refine lh_istore_n (lv' := [(0, .ref (65 + 4)), (1, .int v1), (2, .int r18)]) rfl rfl rfl rfl ?_
        refine lh_aload_n (q := 0) rfl rfl rfl ?_
        refine lh_dup rfl rfl ?_
        refine lh_getI4 rfl rfl (hS.1 0 _ rfl) rfl ?_
        refine lh_iconst rfl lh_k_1 ?_
        refine lh_iadd rfl ?_
        refine lh_putI4 rfl rfl (hS.1 0 _ rfl) rfl rfl ?_
        refine lh_aload_n (q := 0) rfl rfl rfl ?_
        refine lh_iload_n (q := 1) rfl rfl rfl ?_
        refine lh_bdE hf (fun r20 e21 hf => ?_)
        refine lh_cVv (N := m_LM_test) (d := D + 10) (o := 65) (As := [.int v1]) (st := []) rfl rfl v_LM_test (hS.1 0 _ rfl) rfl rfl rfl ⟨lh_bD (by omega), lh_bL (by omega)⟩ rfl (hg_LM_test e21 ?_)
        refine lh_aload_n (q := 0) rfl rfl rfl ?_
        refine lh_iload_n (q := 2) rfl rfl rfl ?_
        refine lh_if_eq rfl (fun c22 => ?_) (fun c22 => ?_)
        · have hf := lh_ifT hf c22
          refine lh_bipush rfl lh_b_10 ?_
          refine lh_iconst rfl lh_k_0 ?_
          refine lh_bdE hf (fun r23 e24 hf => ?_)
          refine lh_cVv (N := m_LM_emit) (d := 0) (o := 65) (As := [.int 10, .int 0]) (st := []) rfl rfl v_LM_emit (hS.1 0 _ rfl) rfl rfl rfl ⟨lh_bD (by omega), lh_bL (by omega)⟩ rfl (t_LM_emit hG hS e24 ?_)
          refine lh_goto rfl ?_
          refine lh_less [0, 1] rfl ?_
          exact ih r23 _ hf x0_
        · have hf := lh_ifF hf c22
          refine lh_bipush rfl lh_b_9 ?_
          refine lh_goto rfl ?_
          refine lh_iconst rfl lh_k_0 ?_
          refine lh_bdE hf (fun r25 e26 hf => ?_)
          refine lh_cVv (N := m_LM_emit) (d := 0) (o := 65) (As := [.int 9, .int 0]) (st := []) rfl rfl v_LM_emit (hS.1 0 _ rfl) rfl rfl rfl ⟨lh_bD (by omega), lh_bL (by omega)⟩ rfl (t_LM_emit hG hS e26 ?_)
          refine lh_goto rfl ?_
          refine lh_less [0, 1] rfl ?_
          exact ih r25 _ hf x0_
theorem t_LM_whole {Γ : lh_Cx} {I : lh_II} {L : lh_LL} {F : lh_FF} {S : lh_SS} {K : lh_Hp → Prop} {r : lh_II} (hG : lh_GX Γ) (hS : lh_laym F S) {D : Nat} {g_LM_whole : Int32 → lh_II → lh_LL → Option (lh_II)} (hg_LM_whole : ∀ {I : lh_II} {L : lh_LL} {K : lh_Hp → Prop} {r : lh_II}  {x1 : Int32}, g_LM_whole x1 I L = some r → K (r, L, F, S) → lh_Met Γ m_LM_whole (D + 10) 0 0 [.ref (65 + 4), .int x1] (I, L, F, S) (lh_kv K)) {g_LM_test : Int32 → lh_II → lh_LL → Option (lh_II)} (hg_LM_test : ∀ {I : lh_II} {L : lh_LL} {K : lh_Hp → Prop} {r : lh_II}  {x1 : Int32}, g_LM_test x1 I L = some r → K (r, L, F, S) → lh_Met Γ m_LM_test (D + 10) 0 0 [.ref (65 + 4), .int x1] (I, L, F, S) (lh_kv K)) {g_LM_sums : Int32 → lh_II → lh_LL → Option (lh_II)} (hg_LM_sums : ∀ {I : lh_II} {L : lh_LL} {K : lh_Hp → Prop} {r : lh_II}  {x1 : Int32}, g_LM_sums x1 I L = some r → K (r, L, F, S) → lh_Met Γ m_LM_sums (D + 10) 0 0 [.ref (65 + 4), .int x1] (I, L, F, S) (lh_kv K)) {g_LM_products : Int32 → lh_II → lh_LL → Option (lh_II)} (hg_LM_products : ∀ {I : lh_II} {L : lh_LL} {K : lh_Hp → Prop} {r : lh_II}  {x1 : Int32}, g_LM_products x1 I L = some r → K (r, L, F, S) → lh_Met Γ m_LM_products (D + 10) 0 0 [.ref (65 + 4), .int x1] (I, L, F, S) (lh_kv K)) {g_LM_takePart : Int32 → lh_II → lh_LL → Option (lh_II)} (hg_LM_takePart : ∀ {I : lh_II} {L : lh_LL} {K : lh_Hp → Prop} {r : lh_II}  {x1 : Int32}, g_LM_takePart x1 I L = some r → K (r, L, F, S) → lh_Met Γ m_LM_takePart (D + 10) 0 0 [.ref (65 + 4), .int x1] (I, L, F, S) (lh_kv K))  {x1 : Int32} (hf : f_LM_whole g_LM_whole g_LM_test g_LM_sums g_LM_products g_LM_takePart x1 I L = some r) (hK : K (r, L, F, S)) : lh_Met Γ m_LM_whole (D + 11) 0 0 [.ref (65 + 4), .int x1] (I, L, F, S) (lh_kv K) := by
  rw [f_LM_whole] at hf
  refine lh_ofG k_LM_whole [(0, .ref (65 + 4)), (1, .int x1)] rfl (Nat.le_of_ble_eq_true rfl) rfl ?_
  refine lh_aload_n (q := 0) rfl rfl rfl ?_
  refine lh_iload_n (q := 1) rfl rfl rfl ?_
  refine lh_bdE hf (fun r1 e2 hf => ?_)
  refine lh_cVv (N := m_LM_test) (d := D + 10) (o := 65) (As := [.int x1]) (st := []) rfl rfl v_LM_test (hS.1 0 _ rfl) rfl rfl rfl ⟨lh_bD (by omega), lh_bL (by omega)⟩ rfl (hg_LM_test e2 ?_)
  refine lh_bdE hf (fun r27 e28 hf => ?_)
  refine t_LM_whole_3 hG hS hg_LM_whole hg_LM_test hg_LM_sums hg_LM_products hg_LM_takePart _ r1 _ e28 ?_
  exact lh_vret rfl rfl (by obtain rfl := Option.some.inj hf; exact hK)
def f_LMg : Nat → Nat → Int32 → lh_II → lh_LL → Option lh_II
  | 0, _, _, _, _ => none
  | d + 1, w, x, I, L => if w = 0 then f_LM_whole (f_LMg d 0) (f_LMg d 1) (f_LMg d 2) (f_LMg d 3) (f_LMg d 4) x I L else if w = 1 then f_LM_test (f_LMg d 0) (f_LMg d 1) (f_LMg d 2) (f_LMg d 3) (f_LMg d 4) x I L else if w = 2 then f_LM_sums (f_LMg d 0) (f_LMg d 1) (f_LMg d 2) (f_LMg d 3) (f_LMg d 4) x I L else if w = 3 then f_LM_products (f_LMg d 0) (f_LMg d 1) (f_LMg d 2) (f_LMg d 3) (f_LMg d 4) x I L else f_LM_takePart (f_LMg d 0) (f_LMg d 1) (f_LMg d 2) (f_LMg d 3) (f_LMg d 4) x I L
theorem t_LMg {Γ : lh_Cx} {F : lh_FF} {S : lh_SS} (hG : lh_GX Γ) (hS : lh_laym F S) : ∀ d : Nat, (∀ {I : lh_II} {L : lh_LL} {K : lh_Hp → Prop} {r : lh_II} {x1 : Int32}, f_LMg d 0 x1 I L = some r → K (r, L, F, S) → lh_Met Γ m_LM_whole (d + 10) 0 0 [.ref (65 + 4), .int x1] (I, L, F, S) (lh_kv K)) ∧ (∀ {I : lh_II} {L : lh_LL} {K : lh_Hp → Prop} {r : lh_II} {x1 : Int32}, f_LMg d 1 x1 I L = some r → K (r, L, F, S) → lh_Met Γ m_LM_test (d + 10) 0 0 [.ref (65 + 4), .int x1] (I, L, F, S) (lh_kv K)) ∧ (∀ {I : lh_II} {L : lh_LL} {K : lh_Hp → Prop} {r : lh_II} {x1 : Int32}, f_LMg d 2 x1 I L = some r → K (r, L, F, S) → lh_Met Γ m_LM_sums (d + 10) 0 0 [.ref (65 + 4), .int x1] (I, L, F, S) (lh_kv K)) ∧ (∀ {I : lh_II} {L : lh_LL} {K : lh_Hp → Prop} {r : lh_II} {x1 : Int32}, f_LMg d 3 x1 I L = some r → K (r, L, F, S) → lh_Met Γ m_LM_products (d + 10) 0 0 [.ref (65 + 4), .int x1] (I, L, F, S) (lh_kv K)) ∧ (∀ {I : lh_II} {L : lh_LL} {K : lh_Hp → Prop} {r : lh_II} {x1 : Int32}, f_LMg d 4 x1 I L = some r → K (r, L, F, S) → lh_Met Γ m_LM_takePart (d + 10) 0 0 [.ref (65 + 4), .int x1] (I, L, F, S) (lh_kv K)) := by
  intro d
  induction d with
  | zero => refine ⟨?_, ?_, ?_, ?_, ?_⟩ <;> (intro I L K r x1 hf hK; rw [f_LMg] at hf; cases hf)
  | succ d ih =>
    obtain ⟨i0, i1, i2, i3, i4⟩ := ih
    refine ⟨?_, ?_, ?_, ?_, ?_⟩
    · intro I L K r x1 hf hK
      rw [f_LMg] at hf
      have hf := lh_ifT hf (by decide)
      exact t_LM_whole hG hS (D := d) i0 i1 i2 i3 i4 hf hK
    · intro I L K r x1 hf hK
      rw [f_LMg] at hf
      have hf := lh_ifF hf (by decide)
      have hf := lh_ifT hf (by decide)
      exact t_LM_test hG hS (D := d) i0 i1 i2 i3 i4 hf hK
    · intro I L K r x1 hf hK
      rw [f_LMg] at hf
      have hf := lh_ifF hf (by decide)
      have hf := lh_ifF hf (by decide)
      have hf := lh_ifT hf (by decide)
      exact t_LM_sums hG hS (D := d) i0 i1 i2 i3 i4 hf hK
    · intro I L K r x1 hf hK
      rw [f_LMg] at hf
      have hf := lh_ifF hf (by decide)
      have hf := lh_ifF hf (by decide)
      have hf := lh_ifF hf (by decide)
      have hf := lh_ifT hf (by decide)
      exact t_LM_products hG hS (D := d) i0 i1 i2 i3 i4 hf hK
    · intro I L K r x1 hf hK
      rw [f_LMg] at hf
      have hf := lh_ifF hf (by decide)
      have hf := lh_ifF hf (by decide)
      have hf := lh_ifF hf (by decide)
      have hf := lh_ifF hf (by decide)
      exact t_LM_takePart hG hS (D := d) i0 i1 i2 i3 i4 hf hK
theorem t_LMg_LM_whole {Γ : lh_Cx} {I : lh_II} {L : lh_LL} {F : lh_FF} {S : lh_SS} {K : lh_Hp → Prop} {r : lh_II} (hG : lh_GX Γ) (hS : lh_laym F S) {x1 : Int32} (hf : f_LMg lh_deep 0 x1 I L = some r) (hK : K (r, L, F, S)) : lh_Met Γ m_LM_whole 50 0 0 [.ref (65 + 4), .int x1] (I, L, F, S) (lh_kv K) := (t_LMg hG hS 40).1 hf hK

def f_LM_readOnce (I : lh_II) (L : lh_LL) : Option (lh_II) := lh_bd (f_LM_isWord (0 : Int32) I L) fun r1 => if r1 = 0 then lh_bd (f_LM_wordHere (7 : Int32) (5 : Int32) I L) fun r4 => if (r4 + 1) = 0 then lh_bd (f_LM_isWord (0 : Int32) I L) fun r50 => if r50 = 0 then lh_bd (f_LM_wrong (1 : Int32) I) fun r62 => if (r62 (65 + 4) 8) ≤ 0 then lh_bd (f_LM_takeNumber (2 : Int32) (12 : Int32) (lh_u2 (lh_u2 r62 (65 + 4) 16 ((r62 (65 + 4) 16) ||| ((1 : Int32) <<< ((r4 + 1) &&& 31)))) (65 + 4) 7 (((lh_u2 r62 (65 + 4) 16 ((r62 (65 + 4) 16) ||| ((1 : Int32) <<< ((r4 + 1) &&& 31)))) (65 + 4) 7) + 1)) L) fun r65 => some (lh_u2 r65.2 (71 + 4) 100 r65.1) else some r62 else if (((I (65 + 4) 16) >>> ((r4 + 1) &&& 31)) &&& 1) = 1 then lh_bd (f_LM_wrong (3 : Int32) I) fun r57 => if (r57 (65 + 4) 8) ≤ 0 then lh_bd (f_LM_takeNumber (2 : Int32) (12 : Int32) (lh_u2 (lh_u2 r57 (65 + 4) 16 ((r57 (65 + 4) 16) ||| ((1 : Int32) <<< ((r4 + 1) &&& 31)))) (65 + 4) 7 (((lh_u2 r57 (65 + 4) 16 ((r57 (65 + 4) 16) ||| ((1 : Int32) <<< ((r4 + 1) &&& 31)))) (65 + 4) 7) + 1)) L) fun r60 => some (lh_u2 r60.2 (71 + 4) 100 r60.1) else some r57 else if (I (65 + 4) 8) ≤ 0 then lh_bd (f_LM_takeNumber (2 : Int32) (12 : Int32) (lh_u2 (lh_u2 I (65 + 4) 16 ((I (65 + 4) 16) ||| ((1 : Int32) <<< ((r4 + 1) &&& 31)))) (65 + 4) 7 (((lh_u2 I (65 + 4) 16 ((I (65 + 4) 16) ||| ((1 : Int32) <<< ((r4 + 1) &&& 31)))) (65 + 4) 7) + 1)) L) fun r55 => some (lh_u2 r55.2 (71 + 4) 100 r55.1) else some I else if (((I (65 + 4) 16) >>> ((r4 + 1) &&& 31)) &&& 1) = 1 then lh_bd (f_LM_wrong (3 : Int32) I) fun r28 => if (r28 (65 + 4) 8) ≤ 0 then if 4 ≤ (r4 + 1) then if (r4 + 1) = 4 then lh_bd (f_LM_readCells (179 : Int32) (lh_u2 (lh_u2 r28 (65 + 4) 16 ((r28 (65 + 4) 16) ||| ((1 : Int32) <<< ((r4 + 1) &&& 31)))) (65 + 4) 7 (((lh_u2 r28 (65 + 4) 16 ((r28 (65 + 4) 16) ||| ((1 : Int32) <<< ((r4 + 1) &&& 31)))) (65 + 4) 7) + 1)) L) fun r37 => some (lh_u2 r37.2 (71 + 4) 106 r37.1) else lh_bd (f_LMg lh_deep 0 (0 : Int32) (lh_u2 (lh_u2 (lh_u2 r28 (65 + 4) 16 ((r28 (65 + 4) 16) ||| ((1 : Int32) <<< ((r4 + 1) &&& 31)))) (65 + 4) 7 (((lh_u2 r28 (65 + 4) 16 ((r28 (65 + 4) 16) ||| ((1 : Int32) <<< ((r4 + 1) &&& 31)))) (65 + 4) 7) + 1)) (71 + 4) 108 ((lh_u2 (lh_u2 r28 (65 + 4) 16 ((r28 (65 + 4) 16) ||| ((1 : Int32) <<< ((r4 + 1) &&& 31)))) (65 + 4) 7 (((lh_u2 r28 (65 + 4) 16 ((r28 (65 + 4) 16) ||| ((1 : Int32) <<< ((r4 + 1) &&& 31)))) (65 + 4) 7) + 1)) (65 + 4) 13)) L) fun r33 => lh_bd (f_LM_emit (0 : Int32) (0 : Int32) r33) fun r35 => some r35 else if (r4 + 1) = 1 then lh_bd (f_LM_takeNumber (1 : Int32) (5 : Int32) (lh_u2 (lh_u2 r28 (65 + 4) 16 ((r28 (65 + 4) 16) ||| ((1 : Int32) <<< ((r4 + 1) &&& 31)))) (65 + 4) 7 (((lh_u2 r28 (65 + 4) 16 ((r28 (65 + 4) 16) ||| ((1 : Int32) <<< ((r4 + 1) &&& 31)))) (65 + 4) 7) + 1)) L) fun r47 => lh_gd (lh_ix ((103 + (r4 + 1)) - 1) 200) (some (lh_u2 r47.2 (71 + 4) ((103 + (r4 + 1)) - 1).toNatClampNeg r47.1)) else if (r4 + 1) = 2 then lh_bd (f_LM_takeNumber (0 : Int32) (99 : Int32) (lh_u2 (lh_u2 r28 (65 + 4) 16 ((r28 (65 + 4) 16) ||| ((1 : Int32) <<< ((r4 + 1) &&& 31)))) (65 + 4) 7 (((lh_u2 r28 (65 + 4) 16 ((r28 (65 + 4) 16) ||| ((1 : Int32) <<< ((r4 + 1) &&& 31)))) (65 + 4) 7) + 1)) L) fun r44 => lh_gd (lh_ix ((103 + (r4 + 1)) - 1) 200) (some (lh_u2 r44.2 (71 + 4) ((103 + (r4 + 1)) - 1).toNatClampNeg r44.1)) else lh_bd (f_LM_takeNumber (0 : Int32) (11 : Int32) (lh_u2 (lh_u2 r28 (65 + 4) 16 ((r28 (65 + 4) 16) ||| ((1 : Int32) <<< ((r4 + 1) &&& 31)))) (65 + 4) 7 (((lh_u2 r28 (65 + 4) 16 ((r28 (65 + 4) 16) ||| ((1 : Int32) <<< ((r4 + 1) &&& 31)))) (65 + 4) 7) + 1)) L) fun r41 => lh_gd (lh_ix ((103 + (r4 + 1)) - 1) 200) (some (lh_u2 r41.2 (71 + 4) ((103 + (r4 + 1)) - 1).toNatClampNeg r41.1)) else some r28 else if (I (65 + 4) 8) ≤ 0 then if 4 ≤ (r4 + 1) then if (r4 + 1) = 4 then lh_bd (f_LM_readCells (179 : Int32) (lh_u2 (lh_u2 I (65 + 4) 16 ((I (65 + 4) 16) ||| ((1 : Int32) <<< ((r4 + 1) &&& 31)))) (65 + 4) 7 (((lh_u2 I (65 + 4) 16 ((I (65 + 4) 16) ||| ((1 : Int32) <<< ((r4 + 1) &&& 31)))) (65 + 4) 7) + 1)) L) fun r15 => some (lh_u2 r15.2 (71 + 4) 106 r15.1) else lh_bd (f_LMg lh_deep 0 (0 : Int32) (lh_u2 (lh_u2 (lh_u2 I (65 + 4) 16 ((I (65 + 4) 16) ||| ((1 : Int32) <<< ((r4 + 1) &&& 31)))) (65 + 4) 7 (((lh_u2 I (65 + 4) 16 ((I (65 + 4) 16) ||| ((1 : Int32) <<< ((r4 + 1) &&& 31)))) (65 + 4) 7) + 1)) (71 + 4) 108 ((lh_u2 (lh_u2 I (65 + 4) 16 ((I (65 + 4) 16) ||| ((1 : Int32) <<< ((r4 + 1) &&& 31)))) (65 + 4) 7 (((lh_u2 I (65 + 4) 16 ((I (65 + 4) 16) ||| ((1 : Int32) <<< ((r4 + 1) &&& 31)))) (65 + 4) 7) + 1)) (65 + 4) 13)) L) fun r11 => lh_bd (f_LM_emit (0 : Int32) (0 : Int32) r11) fun r13 => some r13 else if (r4 + 1) = 1 then lh_bd (f_LM_takeNumber (1 : Int32) (5 : Int32) (lh_u2 (lh_u2 I (65 + 4) 16 ((I (65 + 4) 16) ||| ((1 : Int32) <<< ((r4 + 1) &&& 31)))) (65 + 4) 7 (((lh_u2 I (65 + 4) 16 ((I (65 + 4) 16) ||| ((1 : Int32) <<< ((r4 + 1) &&& 31)))) (65 + 4) 7) + 1)) L) fun r25 => lh_gd (lh_ix ((103 + (r4 + 1)) - 1) 200) (some (lh_u2 r25.2 (71 + 4) ((103 + (r4 + 1)) - 1).toNatClampNeg r25.1)) else if (r4 + 1) = 2 then lh_bd (f_LM_takeNumber (0 : Int32) (99 : Int32) (lh_u2 (lh_u2 I (65 + 4) 16 ((I (65 + 4) 16) ||| ((1 : Int32) <<< ((r4 + 1) &&& 31)))) (65 + 4) 7 (((lh_u2 I (65 + 4) 16 ((I (65 + 4) 16) ||| ((1 : Int32) <<< ((r4 + 1) &&& 31)))) (65 + 4) 7) + 1)) L) fun r22 => lh_gd (lh_ix ((103 + (r4 + 1)) - 1) 200) (some (lh_u2 r22.2 (71 + 4) ((103 + (r4 + 1)) - 1).toNatClampNeg r22.1)) else lh_bd (f_LM_takeNumber (0 : Int32) (11 : Int32) (lh_u2 (lh_u2 I (65 + 4) 16 ((I (65 + 4) 16) ||| ((1 : Int32) <<< ((r4 + 1) &&& 31)))) (65 + 4) 7 (((lh_u2 I (65 + 4) 16 ((I (65 + 4) 16) ||| ((1 : Int32) <<< ((r4 + 1) &&& 31)))) (65 + 4) 7) + 1)) L) fun r19 => lh_gd (lh_ix ((103 + (r4 + 1)) - 1) 200) (some (lh_u2 r19.2 (71 + 4) ((103 + (r4 + 1)) - 1).toNatClampNeg r19.1)) else some I else lh_bd (f_LM_isWord (0 : Int32) I L) fun r67 => if r67 = 0 then lh_bd (f_LM_wrong (1 : Int32) I) fun r79 => if (r79 (65 + 4) 8) ≤ 0 then lh_bd (f_LM_takeNumber (2 : Int32) (12 : Int32) (lh_u2 (lh_u2 r79 (65 + 4) 16 ((r79 (65 + 4) 16) ||| ((1 : Int32) <<< ((0 : Int32) &&& 31)))) (65 + 4) 7 (((lh_u2 r79 (65 + 4) 16 ((r79 (65 + 4) 16) ||| ((1 : Int32) <<< ((0 : Int32) &&& 31)))) (65 + 4) 7) + 1)) L) fun r82 => some (lh_u2 r82.2 (71 + 4) 100 r82.1) else some r79 else if (((I (65 + 4) 16) >>> ((0 : Int32) &&& 31)) &&& 1) = 1 then lh_bd (f_LM_wrong (3 : Int32) I) fun r74 => if (r74 (65 + 4) 8) ≤ 0 then lh_bd (f_LM_takeNumber (2 : Int32) (12 : Int32) (lh_u2 (lh_u2 r74 (65 + 4) 16 ((r74 (65 + 4) 16) ||| ((1 : Int32) <<< ((0 : Int32) &&& 31)))) (65 + 4) 7 (((lh_u2 r74 (65 + 4) 16 ((r74 (65 + 4) 16) ||| ((1 : Int32) <<< ((0 : Int32) &&& 31)))) (65 + 4) 7) + 1)) L) fun r77 => some (lh_u2 r77.2 (71 + 4) 100 r77.1) else some r74 else if (I (65 + 4) 8) ≤ 0 then lh_bd (f_LM_takeNumber (2 : Int32) (12 : Int32) (lh_u2 (lh_u2 I (65 + 4) 16 ((I (65 + 4) 16) ||| ((1 : Int32) <<< ((0 : Int32) &&& 31)))) (65 + 4) 7 (((lh_u2 I (65 + 4) 16 ((I (65 + 4) 16) ||| ((1 : Int32) <<< ((0 : Int32) &&& 31)))) (65 + 4) 7) + 1)) L) fun r72 => some (lh_u2 r72.2 (71 + 4) 100 r72.1) else some I
theorem t_LM_readOnce {Γ : lh_Cx} {I : lh_II} {L : lh_LL} {F : lh_FF} {S : lh_SS} {K : lh_Hp → Prop} {r : lh_II} (hG : lh_GX Γ) (hS : lh_laym F S)  (hf : f_LM_readOnce I L = some r) (hK : K (r, L, F, S)) : lh_Met Γ m_LM_readOnce 60 0 0 [.ref (65 + 4)] (I, L, F, S) (lh_kv K) := by
  rw [f_LM_readOnce] at hf
  refine lh_ofG k_LM_readOnce [(0, .ref (65 + 4))] rfl (Nat.le_of_ble_eq_true rfl) rfl ?_
  refine lh_aload_n (q := 0) rfl rfl rfl ?_
  refine lh_iconst rfl lh_k_0 ?_
  refine lh_bdE hf (fun r1 e2 hf => ?_)
  refine lh_cVi (N := m_LM_isWord) (d := 0) (o := 65) (As := [.int 0]) (st := []) rfl rfl v_LM_isWord (hS.1 0 _ rfl) rfl rfl rfl ⟨rfl, rfl⟩ rfl (t_LM_isWord hG hS e2 ?_)
  refine lh_if_eq rfl (fun c3 => ?_) (fun c3 => ?_)
  · have hf := lh_ifT hf c3
    refine lh_aload_n (q := 0) rfl rfl rfl ?_
    refine lh_bipush rfl lh_b_7 ?_
    refine lh_iconst rfl lh_k_5 ?_
    refine lh_bdE hf (fun r4 e5 hf => ?_)
    refine lh_cVi (N := m_LM_wordHere) (d := 1) (o := 65) (As := [.int 7, .int 5]) (st := []) rfl rfl v_LM_wordHere (hS.1 0 _ rfl) rfl rfl rfl ⟨rfl, rfl⟩ rfl (t_LM_wordHere hG hS e5 ?_)
    refine lh_iconst rfl lh_k_1 ?_
    refine lh_iadd rfl ?_
    refine lh_istore_n (lv' := [(0, .ref (65 + 4)), (1, .int (r4 + 1))]) rfl rfl rfl rfl ?_
    refine lh_iload_n (q := 1) rfl rfl rfl ?_
    refine lh_if_ne rfl (fun c6 => ?_) (fun c6 => ?_)
    · have hf := lh_ifF hf c6
      refine lh_aload_n (q := 0) rfl rfl rfl ?_
      refine lh_getI4 rfl rfl (hS.1 0 _ rfl) rfl ?_
      refine lh_iload_n (q := 1) rfl rfl rfl ?_
      refine lh_ishr rfl ?_
      refine lh_iconst rfl lh_k_1 ?_
      refine lh_iand rfl ?_
      refine lh_iconst rfl lh_k_1 ?_
      refine lh_icmp_ne rfl (fun c7 => ?_) (fun c7 => ?_)
      · have hf := lh_ifF hf c7
        refine lh_aload_n (q := 0) rfl rfl rfl ?_
        refine lh_getI4 rfl rfl (hS.1 0 _ rfl) rfl ?_
        refine lh_if_le rfl (fun c8 => ?_) (fun c8 => ?_)
        · have hf := lh_ifT hf c8
          refine lh_aload_n (q := 0) rfl rfl rfl ?_
          refine lh_dup rfl rfl ?_
          refine lh_getI4 rfl rfl (hS.1 0 _ rfl) rfl ?_
          refine lh_iconst rfl lh_k_1 ?_
          refine lh_iload_n (q := 1) rfl rfl rfl ?_
          refine lh_ishl rfl ?_
          refine lh_ior rfl ?_
          refine lh_putI4 rfl rfl (hS.1 0 _ rfl) rfl rfl ?_
          refine lh_aload_n (q := 0) rfl rfl rfl ?_
          refine lh_dup rfl rfl ?_
          refine lh_getI4 rfl rfl (hS.1 0 _ rfl) rfl ?_
          refine lh_iconst rfl lh_k_1 ?_
          refine lh_iadd rfl ?_
          refine lh_putI4 rfl rfl (hS.1 0 _ rfl) rfl rfl ?_
          refine lh_iload_n (q := 1) rfl rfl rfl ?_
          refine lh_if_ne rfl (fun _ => ?_) (fun c => absurd c c6)
          refine lh_iload_n (q := 1) rfl rfl rfl ?_
          refine lh_iconst rfl lh_k_4 ?_
          refine lh_icmp_ge rfl (fun c9 => ?_) (fun c9 => ?_)
          · have hf := lh_ifT hf c9
            refine lh_iload_n (q := 1) rfl rfl rfl ?_
            refine lh_iconst rfl lh_k_4 ?_
            refine lh_icmp_ne rfl (fun c10 => ?_) (fun c10 => ?_)
            · have hf := lh_ifF hf c10
              refine lh_aload_n (q := 0) rfl rfl rfl ?_
              refine lh_getR4 rfl rfl (hS.1 0 _ rfl) rfl (hS.2 5 _ rfl) ?_
              refine lh_bipush rfl lh_b_108 ?_
              refine lh_aload_n (q := 0) rfl rfl rfl ?_
              refine lh_getI4 rfl rfl (hS.1 0 _ rfl) rfl ?_
              refine lh_iast5 (k := 108) rfl (hS.1 6 _ rfl) (by decide) (by decide) ?_
              refine lh_aload_n (q := 0) rfl rfl rfl ?_
              refine lh_iconst rfl lh_k_0 ?_
              refine lh_bdE hf (fun r11 e12 hf => ?_)
              refine lh_cVv (N := m_LM_whole) (d := 50) (o := 65) (As := [.int 0]) (st := []) rfl rfl v_LM_whole (hS.1 0 _ rfl) rfl rfl rfl ⟨rfl, rfl⟩ rfl (t_LMg_LM_whole hG hS e12 ?_)
              refine lh_aload_n (q := 0) rfl rfl rfl ?_
              refine lh_iconst rfl lh_k_0 ?_
              refine lh_iconst rfl lh_k_0 ?_
              refine lh_bdE hf (fun r13 e14 hf => ?_)
              refine lh_cVv (N := m_LM_emit) (d := 0) (o := 65) (As := [.int 0, .int 0]) (st := []) rfl rfl v_LM_emit (hS.1 0 _ rfl) rfl rfl rfl ⟨rfl, rfl⟩ rfl (t_LM_emit hG hS e14 ?_)
              exact lh_vret rfl rfl (by obtain rfl := Option.some.inj hf; exact hK)
            · have hf := lh_ifT hf c10
              refine lh_aload_n (q := 0) rfl rfl rfl ?_
              refine lh_getR4 rfl rfl (hS.1 0 _ rfl) rfl (hS.2 5 _ rfl) ?_
              refine lh_bipush rfl lh_b_106 ?_
              refine lh_aload_n (q := 0) rfl rfl rfl ?_
              refine lh_sipush rfl lh_s_179 ?_
              refine lh_bdE hf (fun r15 e16 hf => ?_)
              refine lh_cVi (N := m_LM_readCells) (d := 2) (o := 65) (As := [.int 179]) (st := [.int 106, .ref (71 + 4)]) rfl rfl v_LM_readCells (hS.1 0 _ rfl) rfl rfl rfl ⟨rfl, rfl⟩ rfl (t_LM_readCells hG hS e16 ?_)
              refine lh_iast5 (k := 106) rfl (hS.1 6 _ rfl) (by decide) (by decide) ?_
              refine lh_goto rfl ?_
              exact lh_vret rfl rfl (by obtain rfl := Option.some.inj hf; exact hK)
          · have hf := lh_ifF hf c9
            refine lh_aload_n (q := 0) rfl rfl rfl ?_
            refine lh_getR4 rfl rfl (hS.1 0 _ rfl) rfl (hS.2 5 _ rfl) ?_
            refine lh_bipush rfl lh_b_103 ?_
            refine lh_iload_n (q := 1) rfl rfl rfl ?_
            refine lh_iadd rfl ?_
            refine lh_iconst rfl lh_k_1 ?_
            refine lh_isub rfl ?_
            refine lh_aload_n (q := 0) rfl rfl rfl ?_
            refine lh_iload_n (q := 1) rfl rfl rfl ?_
            refine lh_iconst rfl lh_k_1 ?_
            refine lh_icmp_ne rfl (fun c17 => ?_) (fun c17 => ?_)
            · have hf := lh_ifF hf c17
              refine lh_iconst rfl lh_k_0 ?_
              refine lh_iload_n (q := 1) rfl rfl rfl ?_
              refine lh_iconst rfl lh_k_1 ?_
              refine lh_icmp_ne rfl (fun _ => ?_) (fun c => absurd c c17)
              refine lh_iload_n (q := 1) rfl rfl rfl ?_
              refine lh_iconst rfl lh_k_2 ?_
              refine lh_icmp_ne rfl (fun c18 => ?_) (fun c18 => ?_)
              · have hf := lh_ifF hf c18
                refine lh_bipush rfl lh_b_11 ?_
                refine lh_bdE hf (fun r19 e20 hf => ?_)
                refine lh_cVi (N := m_LM_takeNumber) (d := 1) (o := 65) (As := [.int 0, .int 11]) (st := [.int ((103 + (r4 + 1)) - 1), .ref (71 + 4)]) rfl rfl v_LM_takeNumber (hS.1 0 _ rfl) rfl rfl rfl ⟨rfl, rfl⟩ rfl (t_LM_takeNumber hG hS e20 ?_)
                obtain ⟨g21, hf⟩ := lh_gdE hf
                refine lh_iast4 rfl (hS.1 6 _ rfl) g21 ?_
                refine lh_goto rfl ?_
                exact lh_vret rfl rfl (by obtain rfl := Option.some.inj hf; exact hK)
              · have hf := lh_ifT hf c18
                refine lh_bipush rfl lh_b_99 ?_
                refine lh_goto rfl ?_
                refine lh_bdE hf (fun r22 e23 hf => ?_)
                refine lh_cVi (N := m_LM_takeNumber) (d := 1) (o := 65) (As := [.int 0, .int 99]) (st := [.int ((103 + (r4 + 1)) - 1), .ref (71 + 4)]) rfl rfl v_LM_takeNumber (hS.1 0 _ rfl) rfl rfl rfl ⟨rfl, rfl⟩ rfl (t_LM_takeNumber hG hS e23 ?_)
                obtain ⟨g24, hf⟩ := lh_gdE hf
                refine lh_iast4 rfl (hS.1 6 _ rfl) g24 ?_
                refine lh_goto rfl ?_
                exact lh_vret rfl rfl (by obtain rfl := Option.some.inj hf; exact hK)
            · have hf := lh_ifT hf c17
              refine lh_iconst rfl lh_k_1 ?_
              refine lh_goto rfl ?_
              refine lh_iload_n (q := 1) rfl rfl rfl ?_
              refine lh_iconst rfl lh_k_1 ?_
              refine lh_icmp_ne rfl (fun c => absurd c17 c) (fun _ => ?_)
              refine lh_iconst rfl lh_k_5 ?_
              refine lh_goto rfl ?_
              refine lh_bdE hf (fun r25 e26 hf => ?_)
              refine lh_cVi (N := m_LM_takeNumber) (d := 1) (o := 65) (As := [.int 1, .int 5]) (st := [.int ((103 + (r4 + 1)) - 1), .ref (71 + 4)]) rfl rfl v_LM_takeNumber (hS.1 0 _ rfl) rfl rfl rfl ⟨rfl, rfl⟩ rfl (t_LM_takeNumber hG hS e26 ?_)
              obtain ⟨g27, hf⟩ := lh_gdE hf
              refine lh_iast4 rfl (hS.1 6 _ rfl) g27 ?_
              refine lh_goto rfl ?_
              exact lh_vret rfl rfl (by obtain rfl := Option.some.inj hf; exact hK)
        · have hf := lh_ifF hf c8
          exact lh_vret rfl rfl (by obtain rfl := Option.some.inj hf; exact hK)
      · have hf := lh_ifT hf c7
        refine lh_aload_n (q := 0) rfl rfl rfl ?_
        refine lh_iconst rfl lh_k_3 ?_
        refine lh_bdE hf (fun r28 e29 hf => ?_)
        refine lh_cVv (N := m_LM_wrong) (d := 0) (o := 65) (As := [.int 3]) (st := []) rfl rfl v_LM_wrong (hS.1 0 _ rfl) rfl rfl rfl ⟨rfl, rfl⟩ rfl (t_LM_wrong hG hS e29 ?_)
        refine lh_aload_n (q := 0) rfl rfl rfl ?_
        refine lh_getI4 rfl rfl (hS.1 0 _ rfl) rfl ?_
        refine lh_if_le rfl (fun c30 => ?_) (fun c30 => ?_)
        · have hf := lh_ifT hf c30
          refine lh_aload_n (q := 0) rfl rfl rfl ?_
          refine lh_dup rfl rfl ?_
          refine lh_getI4 rfl rfl (hS.1 0 _ rfl) rfl ?_
          refine lh_iconst rfl lh_k_1 ?_
          refine lh_iload_n (q := 1) rfl rfl rfl ?_
          refine lh_ishl rfl ?_
          refine lh_ior rfl ?_
          refine lh_putI4 rfl rfl (hS.1 0 _ rfl) rfl rfl ?_
          refine lh_aload_n (q := 0) rfl rfl rfl ?_
          refine lh_dup rfl rfl ?_
          refine lh_getI4 rfl rfl (hS.1 0 _ rfl) rfl ?_
          refine lh_iconst rfl lh_k_1 ?_
          refine lh_iadd rfl ?_
          refine lh_putI4 rfl rfl (hS.1 0 _ rfl) rfl rfl ?_
          refine lh_iload_n (q := 1) rfl rfl rfl ?_
          refine lh_if_ne rfl (fun _ => ?_) (fun c => absurd c c6)
          refine lh_iload_n (q := 1) rfl rfl rfl ?_
          refine lh_iconst rfl lh_k_4 ?_
          refine lh_icmp_ge rfl (fun c31 => ?_) (fun c31 => ?_)
          · have hf := lh_ifT hf c31
            refine lh_iload_n (q := 1) rfl rfl rfl ?_
            refine lh_iconst rfl lh_k_4 ?_
            refine lh_icmp_ne rfl (fun c32 => ?_) (fun c32 => ?_)
            · have hf := lh_ifF hf c32
              refine lh_aload_n (q := 0) rfl rfl rfl ?_
              refine lh_getR4 rfl rfl (hS.1 0 _ rfl) rfl (hS.2 5 _ rfl) ?_
              refine lh_bipush rfl lh_b_108 ?_
              refine lh_aload_n (q := 0) rfl rfl rfl ?_
              refine lh_getI4 rfl rfl (hS.1 0 _ rfl) rfl ?_
              refine lh_iast5 (k := 108) rfl (hS.1 6 _ rfl) (by decide) (by decide) ?_
              refine lh_aload_n (q := 0) rfl rfl rfl ?_
              refine lh_iconst rfl lh_k_0 ?_
              refine lh_bdE hf (fun r33 e34 hf => ?_)
              refine lh_cVv (N := m_LM_whole) (d := 50) (o := 65) (As := [.int 0]) (st := []) rfl rfl v_LM_whole (hS.1 0 _ rfl) rfl rfl rfl ⟨rfl, rfl⟩ rfl (t_LMg_LM_whole hG hS e34 ?_)
              refine lh_aload_n (q := 0) rfl rfl rfl ?_
              refine lh_iconst rfl lh_k_0 ?_
              refine lh_iconst rfl lh_k_0 ?_
              refine lh_bdE hf (fun r35 e36 hf => ?_)
              refine lh_cVv (N := m_LM_emit) (d := 0) (o := 65) (As := [.int 0, .int 0]) (st := []) rfl rfl v_LM_emit (hS.1 0 _ rfl) rfl rfl rfl ⟨rfl, rfl⟩ rfl (t_LM_emit hG hS e36 ?_)
              exact lh_vret rfl rfl (by obtain rfl := Option.some.inj hf; exact hK)
            · have hf := lh_ifT hf c32
              refine lh_aload_n (q := 0) rfl rfl rfl ?_
              refine lh_getR4 rfl rfl (hS.1 0 _ rfl) rfl (hS.2 5 _ rfl) ?_
              refine lh_bipush rfl lh_b_106 ?_
              refine lh_aload_n (q := 0) rfl rfl rfl ?_
              refine lh_sipush rfl lh_s_179 ?_
              refine lh_bdE hf (fun r37 e38 hf => ?_)
              refine lh_cVi (N := m_LM_readCells) (d := 2) (o := 65) (As := [.int 179]) (st := [.int 106, .ref (71 + 4)]) rfl rfl v_LM_readCells (hS.1 0 _ rfl) rfl rfl rfl ⟨rfl, rfl⟩ rfl (t_LM_readCells hG hS e38 ?_)
              refine lh_iast5 (k := 106) rfl (hS.1 6 _ rfl) (by decide) (by decide) ?_
              refine lh_goto rfl ?_
              exact lh_vret rfl rfl (by obtain rfl := Option.some.inj hf; exact hK)
          · have hf := lh_ifF hf c31
            refine lh_aload_n (q := 0) rfl rfl rfl ?_
            refine lh_getR4 rfl rfl (hS.1 0 _ rfl) rfl (hS.2 5 _ rfl) ?_
            refine lh_bipush rfl lh_b_103 ?_
            refine lh_iload_n (q := 1) rfl rfl rfl ?_
            refine lh_iadd rfl ?_
            refine lh_iconst rfl lh_k_1 ?_
            refine lh_isub rfl ?_
            refine lh_aload_n (q := 0) rfl rfl rfl ?_
            refine lh_iload_n (q := 1) rfl rfl rfl ?_
            refine lh_iconst rfl lh_k_1 ?_
            refine lh_icmp_ne rfl (fun c39 => ?_) (fun c39 => ?_)
            · have hf := lh_ifF hf c39
              refine lh_iconst rfl lh_k_0 ?_
              refine lh_iload_n (q := 1) rfl rfl rfl ?_
              refine lh_iconst rfl lh_k_1 ?_
              refine lh_icmp_ne rfl (fun _ => ?_) (fun c => absurd c c39)
              refine lh_iload_n (q := 1) rfl rfl rfl ?_
              refine lh_iconst rfl lh_k_2 ?_
              refine lh_icmp_ne rfl (fun c40 => ?_) (fun c40 => ?_)
              · have hf := lh_ifF hf c40
                refine lh_bipush rfl lh_b_11 ?_
                refine lh_bdE hf (fun r41 e42 hf => ?_)
                refine lh_cVi (N := m_LM_takeNumber) (d := 1) (o := 65) (As := [.int 0, .int 11]) (st := [.int ((103 + (r4 + 1)) - 1), .ref (71 + 4)]) rfl rfl v_LM_takeNumber (hS.1 0 _ rfl) rfl rfl rfl ⟨rfl, rfl⟩ rfl (t_LM_takeNumber hG hS e42 ?_)
                obtain ⟨g43, hf⟩ := lh_gdE hf
                refine lh_iast4 rfl (hS.1 6 _ rfl) g43 ?_
                refine lh_goto rfl ?_
                exact lh_vret rfl rfl (by obtain rfl := Option.some.inj hf; exact hK)
              · have hf := lh_ifT hf c40
                refine lh_bipush rfl lh_b_99 ?_
                refine lh_goto rfl ?_
                refine lh_bdE hf (fun r44 e45 hf => ?_)
                refine lh_cVi (N := m_LM_takeNumber) (d := 1) (o := 65) (As := [.int 0, .int 99]) (st := [.int ((103 + (r4 + 1)) - 1), .ref (71 + 4)]) rfl rfl v_LM_takeNumber (hS.1 0 _ rfl) rfl rfl rfl ⟨rfl, rfl⟩ rfl (t_LM_takeNumber hG hS e45 ?_)
                obtain ⟨g46, hf⟩ := lh_gdE hf
                refine lh_iast4 rfl (hS.1 6 _ rfl) g46 ?_
                refine lh_goto rfl ?_
                exact lh_vret rfl rfl (by obtain rfl := Option.some.inj hf; exact hK)
            · have hf := lh_ifT hf c39
              refine lh_iconst rfl lh_k_1 ?_
              refine lh_goto rfl ?_
              refine lh_iload_n (q := 1) rfl rfl rfl ?_
              refine lh_iconst rfl lh_k_1 ?_
              refine lh_icmp_ne rfl (fun c => absurd c39 c) (fun _ => ?_)
              refine lh_iconst rfl lh_k_5 ?_
              refine lh_goto rfl ?_
              refine lh_bdE hf (fun r47 e48 hf => ?_)
              refine lh_cVi (N := m_LM_takeNumber) (d := 1) (o := 65) (As := [.int 1, .int 5]) (st := [.int ((103 + (r4 + 1)) - 1), .ref (71 + 4)]) rfl rfl v_LM_takeNumber (hS.1 0 _ rfl) rfl rfl rfl ⟨rfl, rfl⟩ rfl (t_LM_takeNumber hG hS e48 ?_)
              obtain ⟨g49, hf⟩ := lh_gdE hf
              refine lh_iast4 rfl (hS.1 6 _ rfl) g49 ?_
              refine lh_goto rfl ?_
              exact lh_vret rfl rfl (by obtain rfl := Option.some.inj hf; exact hK)
        · have hf := lh_ifF hf c30
          exact lh_vret rfl rfl (by obtain rfl := Option.some.inj hf; exact hK)
    · have hf := lh_ifT hf c6
      refine lh_aload_n (q := 0) rfl rfl rfl ?_
      refine lh_iconst rfl lh_k_0 ?_
      refine lh_bdE hf (fun r50 e51 hf => ?_)
      refine lh_cVi (N := m_LM_isWord) (d := 0) (o := 65) (As := [.int 0]) (st := []) rfl rfl v_LM_isWord (hS.1 0 _ rfl) rfl rfl rfl ⟨rfl, rfl⟩ rfl (t_LM_isWord hG hS e51 ?_)
      refine lh_if_ne rfl (fun c52 => ?_) (fun c52 => ?_)
      · have hf := lh_ifF hf c52
        refine lh_aload_n (q := 0) rfl rfl rfl ?_
        refine lh_getI4 rfl rfl (hS.1 0 _ rfl) rfl ?_
        refine lh_iload_n (q := 1) rfl rfl rfl ?_
        refine lh_ishr rfl ?_
        refine lh_iconst rfl lh_k_1 ?_
        refine lh_iand rfl ?_
        refine lh_iconst rfl lh_k_1 ?_
        refine lh_icmp_ne rfl (fun c53 => ?_) (fun c53 => ?_)
        · have hf := lh_ifF hf c53
          refine lh_aload_n (q := 0) rfl rfl rfl ?_
          refine lh_getI4 rfl rfl (hS.1 0 _ rfl) rfl ?_
          refine lh_if_le rfl (fun c54 => ?_) (fun c54 => ?_)
          · have hf := lh_ifT hf c54
            refine lh_aload_n (q := 0) rfl rfl rfl ?_
            refine lh_dup rfl rfl ?_
            refine lh_getI4 rfl rfl (hS.1 0 _ rfl) rfl ?_
            refine lh_iconst rfl lh_k_1 ?_
            refine lh_iload_n (q := 1) rfl rfl rfl ?_
            refine lh_ishl rfl ?_
            refine lh_ior rfl ?_
            refine lh_putI4 rfl rfl (hS.1 0 _ rfl) rfl rfl ?_
            refine lh_aload_n (q := 0) rfl rfl rfl ?_
            refine lh_dup rfl rfl ?_
            refine lh_getI4 rfl rfl (hS.1 0 _ rfl) rfl ?_
            refine lh_iconst rfl lh_k_1 ?_
            refine lh_iadd rfl ?_
            refine lh_putI4 rfl rfl (hS.1 0 _ rfl) rfl rfl ?_
            refine lh_iload_n (q := 1) rfl rfl rfl ?_
            refine lh_if_ne rfl (fun c => absurd c6 c) (fun _ => ?_)
            refine lh_aload_n (q := 0) rfl rfl rfl ?_
            refine lh_getR4 rfl rfl (hS.1 0 _ rfl) rfl (hS.2 5 _ rfl) ?_
            refine lh_bipush rfl lh_b_100 ?_
            refine lh_aload_n (q := 0) rfl rfl rfl ?_
            refine lh_iconst rfl lh_k_2 ?_
            refine lh_bipush rfl lh_b_12 ?_
            refine lh_bdE hf (fun r55 e56 hf => ?_)
            refine lh_cVi (N := m_LM_takeNumber) (d := 1) (o := 65) (As := [.int 2, .int 12]) (st := [.int 100, .ref (71 + 4)]) rfl rfl v_LM_takeNumber (hS.1 0 _ rfl) rfl rfl rfl ⟨rfl, rfl⟩ rfl (t_LM_takeNumber hG hS e56 ?_)
            refine lh_iast5 (k := 100) rfl (hS.1 6 _ rfl) (by decide) (by decide) ?_
            refine lh_goto rfl ?_
            exact lh_vret rfl rfl (by obtain rfl := Option.some.inj hf; exact hK)
          · have hf := lh_ifF hf c54
            exact lh_vret rfl rfl (by obtain rfl := Option.some.inj hf; exact hK)
        · have hf := lh_ifT hf c53
          refine lh_aload_n (q := 0) rfl rfl rfl ?_
          refine lh_iconst rfl lh_k_3 ?_
          refine lh_bdE hf (fun r57 e58 hf => ?_)
          refine lh_cVv (N := m_LM_wrong) (d := 0) (o := 65) (As := [.int 3]) (st := []) rfl rfl v_LM_wrong (hS.1 0 _ rfl) rfl rfl rfl ⟨rfl, rfl⟩ rfl (t_LM_wrong hG hS e58 ?_)
          refine lh_aload_n (q := 0) rfl rfl rfl ?_
          refine lh_getI4 rfl rfl (hS.1 0 _ rfl) rfl ?_
          refine lh_if_le rfl (fun c59 => ?_) (fun c59 => ?_)
          · have hf := lh_ifT hf c59
            refine lh_aload_n (q := 0) rfl rfl rfl ?_
            refine lh_dup rfl rfl ?_
            refine lh_getI4 rfl rfl (hS.1 0 _ rfl) rfl ?_
            refine lh_iconst rfl lh_k_1 ?_
            refine lh_iload_n (q := 1) rfl rfl rfl ?_
            refine lh_ishl rfl ?_
            refine lh_ior rfl ?_
            refine lh_putI4 rfl rfl (hS.1 0 _ rfl) rfl rfl ?_
            refine lh_aload_n (q := 0) rfl rfl rfl ?_
            refine lh_dup rfl rfl ?_
            refine lh_getI4 rfl rfl (hS.1 0 _ rfl) rfl ?_
            refine lh_iconst rfl lh_k_1 ?_
            refine lh_iadd rfl ?_
            refine lh_putI4 rfl rfl (hS.1 0 _ rfl) rfl rfl ?_
            refine lh_iload_n (q := 1) rfl rfl rfl ?_
            refine lh_if_ne rfl (fun c => absurd c6 c) (fun _ => ?_)
            refine lh_aload_n (q := 0) rfl rfl rfl ?_
            refine lh_getR4 rfl rfl (hS.1 0 _ rfl) rfl (hS.2 5 _ rfl) ?_
            refine lh_bipush rfl lh_b_100 ?_
            refine lh_aload_n (q := 0) rfl rfl rfl ?_
            refine lh_iconst rfl lh_k_2 ?_
            refine lh_bipush rfl lh_b_12 ?_
            refine lh_bdE hf (fun r60 e61 hf => ?_)
            refine lh_cVi (N := m_LM_takeNumber) (d := 1) (o := 65) (As := [.int 2, .int 12]) (st := [.int 100, .ref (71 + 4)]) rfl rfl v_LM_takeNumber (hS.1 0 _ rfl) rfl rfl rfl ⟨rfl, rfl⟩ rfl (t_LM_takeNumber hG hS e61 ?_)
            refine lh_iast5 (k := 100) rfl (hS.1 6 _ rfl) (by decide) (by decide) ?_
            refine lh_goto rfl ?_
            exact lh_vret rfl rfl (by obtain rfl := Option.some.inj hf; exact hK)
          · have hf := lh_ifF hf c59
            exact lh_vret rfl rfl (by obtain rfl := Option.some.inj hf; exact hK)
      · have hf := lh_ifT hf c52
        refine lh_aload_n (q := 0) rfl rfl rfl ?_
        refine lh_iconst rfl lh_k_1 ?_
        refine lh_bdE hf (fun r62 e63 hf => ?_)
        refine lh_cVv (N := m_LM_wrong) (d := 0) (o := 65) (As := [.int 1]) (st := []) rfl rfl v_LM_wrong (hS.1 0 _ rfl) rfl rfl rfl ⟨rfl, rfl⟩ rfl (t_LM_wrong hG hS e63 ?_)
        refine lh_goto rfl ?_
        refine lh_aload_n (q := 0) rfl rfl rfl ?_
        refine lh_getI4 rfl rfl (hS.1 0 _ rfl) rfl ?_
        refine lh_if_le rfl (fun c64 => ?_) (fun c64 => ?_)
        · have hf := lh_ifT hf c64
          refine lh_aload_n (q := 0) rfl rfl rfl ?_
          refine lh_dup rfl rfl ?_
          refine lh_getI4 rfl rfl (hS.1 0 _ rfl) rfl ?_
          refine lh_iconst rfl lh_k_1 ?_
          refine lh_iload_n (q := 1) rfl rfl rfl ?_
          refine lh_ishl rfl ?_
          refine lh_ior rfl ?_
          refine lh_putI4 rfl rfl (hS.1 0 _ rfl) rfl rfl ?_
          refine lh_aload_n (q := 0) rfl rfl rfl ?_
          refine lh_dup rfl rfl ?_
          refine lh_getI4 rfl rfl (hS.1 0 _ rfl) rfl ?_
          refine lh_iconst rfl lh_k_1 ?_
          refine lh_iadd rfl ?_
          refine lh_putI4 rfl rfl (hS.1 0 _ rfl) rfl rfl ?_
          refine lh_iload_n (q := 1) rfl rfl rfl ?_
          refine lh_if_ne rfl (fun c => absurd c6 c) (fun _ => ?_)
          refine lh_aload_n (q := 0) rfl rfl rfl ?_
          refine lh_getR4 rfl rfl (hS.1 0 _ rfl) rfl (hS.2 5 _ rfl) ?_
          refine lh_bipush rfl lh_b_100 ?_
          refine lh_aload_n (q := 0) rfl rfl rfl ?_
          refine lh_iconst rfl lh_k_2 ?_
          refine lh_bipush rfl lh_b_12 ?_
          refine lh_bdE hf (fun r65 e66 hf => ?_)
          refine lh_cVi (N := m_LM_takeNumber) (d := 1) (o := 65) (As := [.int 2, .int 12]) (st := [.int 100, .ref (71 + 4)]) rfl rfl v_LM_takeNumber (hS.1 0 _ rfl) rfl rfl rfl ⟨rfl, rfl⟩ rfl (t_LM_takeNumber hG hS e66 ?_)
          refine lh_iast5 (k := 100) rfl (hS.1 6 _ rfl) (by decide) (by decide) ?_
          refine lh_goto rfl ?_
          exact lh_vret rfl rfl (by obtain rfl := Option.some.inj hf; exact hK)
        · have hf := lh_ifF hf c64
          exact lh_vret rfl rfl (by obtain rfl := Option.some.inj hf; exact hK)
  · have hf := lh_ifF hf c3
    refine lh_iconst rfl lh_k_0 ?_
    refine lh_goto rfl ?_
    refine lh_istore_n (lv' := [(0, .ref (65 + 4)), (1, .int 0)]) rfl rfl rfl rfl ?_
    refine lh_iload_n (q := 1) rfl rfl rfl ?_
    refine lh_if_ne rfl (fun c => absurd (by decide) c) (fun _ => ?_)
    refine lh_aload_n (q := 0) rfl rfl rfl ?_
    refine lh_iconst rfl lh_k_0 ?_
    refine lh_bdE hf (fun r67 e68 hf => ?_)
    refine lh_cVi (N := m_LM_isWord) (d := 0) (o := 65) (As := [.int 0]) (st := []) rfl rfl v_LM_isWord (hS.1 0 _ rfl) rfl rfl rfl ⟨rfl, rfl⟩ rfl (t_LM_isWord hG hS e68 ?_)
    refine lh_if_ne rfl (fun c69 => ?_) (fun c69 => ?_)
    · have hf := lh_ifF hf c69
      refine lh_aload_n (q := 0) rfl rfl rfl ?_
      refine lh_getI4 rfl rfl (hS.1 0 _ rfl) rfl ?_
      refine lh_iload_n (q := 1) rfl rfl rfl ?_
      refine lh_ishr rfl ?_
      refine lh_iconst rfl lh_k_1 ?_
      refine lh_iand rfl ?_
      refine lh_iconst rfl lh_k_1 ?_
      refine lh_icmp_ne rfl (fun c70 => ?_) (fun c70 => ?_)
      · have hf := lh_ifF hf c70
        refine lh_aload_n (q := 0) rfl rfl rfl ?_
        refine lh_getI4 rfl rfl (hS.1 0 _ rfl) rfl ?_
        refine lh_if_le rfl (fun c71 => ?_) (fun c71 => ?_)
        · have hf := lh_ifT hf c71
          refine lh_aload_n (q := 0) rfl rfl rfl ?_
          refine lh_dup rfl rfl ?_
          refine lh_getI4 rfl rfl (hS.1 0 _ rfl) rfl ?_
          refine lh_iconst rfl lh_k_1 ?_
          refine lh_iload_n (q := 1) rfl rfl rfl ?_
          refine lh_ishl rfl ?_
          refine lh_ior rfl ?_
          refine lh_putI4 rfl rfl (hS.1 0 _ rfl) rfl rfl ?_
          refine lh_aload_n (q := 0) rfl rfl rfl ?_
          refine lh_dup rfl rfl ?_
          refine lh_getI4 rfl rfl (hS.1 0 _ rfl) rfl ?_
          refine lh_iconst rfl lh_k_1 ?_
          refine lh_iadd rfl ?_
          refine lh_putI4 rfl rfl (hS.1 0 _ rfl) rfl rfl ?_
          refine lh_iload_n (q := 1) rfl rfl rfl ?_
          refine lh_if_ne rfl (fun c => absurd (by decide) c) (fun _ => ?_)
          refine lh_aload_n (q := 0) rfl rfl rfl ?_
          refine lh_getR4 rfl rfl (hS.1 0 _ rfl) rfl (hS.2 5 _ rfl) ?_
          refine lh_bipush rfl lh_b_100 ?_
          refine lh_aload_n (q := 0) rfl rfl rfl ?_
          refine lh_iconst rfl lh_k_2 ?_
          refine lh_bipush rfl lh_b_12 ?_
          refine lh_bdE hf (fun r72 e73 hf => ?_)
          refine lh_cVi (N := m_LM_takeNumber) (d := 1) (o := 65) (As := [.int 2, .int 12]) (st := [.int 100, .ref (71 + 4)]) rfl rfl v_LM_takeNumber (hS.1 0 _ rfl) rfl rfl rfl ⟨rfl, rfl⟩ rfl (t_LM_takeNumber hG hS e73 ?_)
          refine lh_iast5 (k := 100) rfl (hS.1 6 _ rfl) (by decide) (by decide) ?_
          refine lh_goto rfl ?_
          exact lh_vret rfl rfl (by obtain rfl := Option.some.inj hf; exact hK)
        · have hf := lh_ifF hf c71
          exact lh_vret rfl rfl (by obtain rfl := Option.some.inj hf; exact hK)
      · have hf := lh_ifT hf c70
        refine lh_aload_n (q := 0) rfl rfl rfl ?_
        refine lh_iconst rfl lh_k_3 ?_
        refine lh_bdE hf (fun r74 e75 hf => ?_)
        refine lh_cVv (N := m_LM_wrong) (d := 0) (o := 65) (As := [.int 3]) (st := []) rfl rfl v_LM_wrong (hS.1 0 _ rfl) rfl rfl rfl ⟨rfl, rfl⟩ rfl (t_LM_wrong hG hS e75 ?_)
        refine lh_aload_n (q := 0) rfl rfl rfl ?_
        refine lh_getI4 rfl rfl (hS.1 0 _ rfl) rfl ?_
        refine lh_if_le rfl (fun c76 => ?_) (fun c76 => ?_)
        · have hf := lh_ifT hf c76
          refine lh_aload_n (q := 0) rfl rfl rfl ?_
          refine lh_dup rfl rfl ?_
          refine lh_getI4 rfl rfl (hS.1 0 _ rfl) rfl ?_
          refine lh_iconst rfl lh_k_1 ?_
          refine lh_iload_n (q := 1) rfl rfl rfl ?_
          refine lh_ishl rfl ?_
          refine lh_ior rfl ?_
          refine lh_putI4 rfl rfl (hS.1 0 _ rfl) rfl rfl ?_
          refine lh_aload_n (q := 0) rfl rfl rfl ?_
          refine lh_dup rfl rfl ?_
          refine lh_getI4 rfl rfl (hS.1 0 _ rfl) rfl ?_
          refine lh_iconst rfl lh_k_1 ?_
          refine lh_iadd rfl ?_
          refine lh_putI4 rfl rfl (hS.1 0 _ rfl) rfl rfl ?_
          refine lh_iload_n (q := 1) rfl rfl rfl ?_
          refine lh_if_ne rfl (fun c => absurd (by decide) c) (fun _ => ?_)
          refine lh_aload_n (q := 0) rfl rfl rfl ?_
          refine lh_getR4 rfl rfl (hS.1 0 _ rfl) rfl (hS.2 5 _ rfl) ?_
          refine lh_bipush rfl lh_b_100 ?_
          refine lh_aload_n (q := 0) rfl rfl rfl ?_
          refine lh_iconst rfl lh_k_2 ?_
          refine lh_bipush rfl lh_b_12 ?_
          refine lh_bdE hf (fun r77 e78 hf => ?_)
          refine lh_cVi (N := m_LM_takeNumber) (d := 1) (o := 65) (As := [.int 2, .int 12]) (st := [.int 100, .ref (71 + 4)]) rfl rfl v_LM_takeNumber (hS.1 0 _ rfl) rfl rfl rfl ⟨rfl, rfl⟩ rfl (t_LM_takeNumber hG hS e78 ?_)
          refine lh_iast5 (k := 100) rfl (hS.1 6 _ rfl) (by decide) (by decide) ?_
          refine lh_goto rfl ?_
          exact lh_vret rfl rfl (by obtain rfl := Option.some.inj hf; exact hK)
        · have hf := lh_ifF hf c76
          exact lh_vret rfl rfl (by obtain rfl := Option.some.inj hf; exact hK)
    · have hf := lh_ifT hf c69
      refine lh_aload_n (q := 0) rfl rfl rfl ?_
      refine lh_iconst rfl lh_k_1 ?_
      refine lh_bdE hf (fun r79 e80 hf => ?_)
      refine lh_cVv (N := m_LM_wrong) (d := 0) (o := 65) (As := [.int 1]) (st := []) rfl rfl v_LM_wrong (hS.1 0 _ rfl) rfl rfl rfl ⟨rfl, rfl⟩ rfl (t_LM_wrong hG hS e80 ?_)
      refine lh_goto rfl ?_
      refine lh_aload_n (q := 0) rfl rfl rfl ?_
      refine lh_getI4 rfl rfl (hS.1 0 _ rfl) rfl ?_
      refine lh_if_le rfl (fun c81 => ?_) (fun c81 => ?_)
      · have hf := lh_ifT hf c81
        refine lh_aload_n (q := 0) rfl rfl rfl ?_
        refine lh_dup rfl rfl ?_
        refine lh_getI4 rfl rfl (hS.1 0 _ rfl) rfl ?_
        refine lh_iconst rfl lh_k_1 ?_
        refine lh_iload_n (q := 1) rfl rfl rfl ?_
        refine lh_ishl rfl ?_
        refine lh_ior rfl ?_
        refine lh_putI4 rfl rfl (hS.1 0 _ rfl) rfl rfl ?_
        refine lh_aload_n (q := 0) rfl rfl rfl ?_
        refine lh_dup rfl rfl ?_
        refine lh_getI4 rfl rfl (hS.1 0 _ rfl) rfl ?_
        refine lh_iconst rfl lh_k_1 ?_
        refine lh_iadd rfl ?_
        refine lh_putI4 rfl rfl (hS.1 0 _ rfl) rfl rfl ?_
        refine lh_iload_n (q := 1) rfl rfl rfl ?_
        refine lh_if_ne rfl (fun c => absurd (by decide) c) (fun _ => ?_)
        refine lh_aload_n (q := 0) rfl rfl rfl ?_
        refine lh_getR4 rfl rfl (hS.1 0 _ rfl) rfl (hS.2 5 _ rfl) ?_
        refine lh_bipush rfl lh_b_100 ?_
        refine lh_aload_n (q := 0) rfl rfl rfl ?_
        refine lh_iconst rfl lh_k_2 ?_
        refine lh_bipush rfl lh_b_12 ?_
        refine lh_bdE hf (fun r82 e83 hf => ?_)
        refine lh_cVi (N := m_LM_takeNumber) (d := 1) (o := 65) (As := [.int 2, .int 12]) (st := [.int 100, .ref (71 + 4)]) rfl rfl v_LM_takeNumber (hS.1 0 _ rfl) rfl rfl rfl ⟨rfl, rfl⟩ rfl (t_LM_takeNumber hG hS e83 ?_)
        refine lh_iast5 (k := 100) rfl (hS.1 6 _ rfl) (by decide) (by decide) ?_
        refine lh_goto rfl ?_
        exact lh_vret rfl rfl (by obtain rfl := Option.some.inj hf; exact hK)
      · have hf := lh_ifF hf c81
        exact lh_vret rfl rfl (by obtain rfl := Option.some.inj hf; exact hK)
def f_LM_readLine (I : lh_II) (L : lh_LL) : Option (lh_II × lh_LL) := lh_bd (f_LM_isWord (1 : Int32) I L) fun r1 => if r1 = 0 then lh_bd (f_LM_isWord (2 : Int32) I L) fun r4 => if r4 = 0 then lh_bd (f_LM_isWord (5 : Int32) I L) fun r7 => if r7 = 0 then lh_bd (f_LM_readOnce I L) fun r10 => some (r10, L) else lh_bd (f_LM_readName (2 : Int32) (4 : Int32) I L) fun r12 => lh_bd (f_LM_takeAfter (6 : Int32) (0 : Int32) (11 : Int32) r12.1 r12.2) fun r14 => if (r14.2 (65 + 4) 8) = 0 then lh_gd (lh_ix (175 + (I (71 + 4) 102)) 200) (some (lh_u2 r14.2 (71 + 4) (175 + (I (71 + 4) 102)).toNatClampNeg r14.1, r12.2)) else some (r14.2, r12.2) else lh_bd (f_LM_readVisitor I L) fun r18 => some (r18.1, r18.2) else lh_bd (f_LM_takeNumber (0 : Int32) (11 : Int32) (lh_u2 I (65 + 4) 7 ((I (65 + 4) 7) + 1)) L) fun r20 => if (r20.2 (65 + 4) 8) = 0 then if (((r20.2 (71 + 4) 107) >>> (r20.1 &&& 31)) &&& 1) = 1 then lh_bd (f_LM_wrong (3 : Int32) (lh_u2 r20.2 (65 + 4) 7 ((r20.2 (65 + 4) 7) - 1))) fun r24 => some (lh_u2 r24 (71 + 4) 107 ((r24 (71 + 4) 107) ||| ((1 : Int32) <<< (r20.1 &&& 31))), L) else some (lh_u2 r20.2 (71 + 4) 107 ((r20.2 (71 + 4) 107) ||| ((1 : Int32) <<< (r20.1 &&& 31))), L) else some (lh_u2 r20.2 (71 + 4) 107 ((r20.2 (71 + 4) 107) ||| ((1 : Int32) <<< (r20.1 &&& 31))), L)
theorem t_LM_readLine {Γ : lh_Cx} {I : lh_II} {L : lh_LL} {F : lh_FF} {S : lh_SS} {K : lh_Hp → Prop} {r : lh_II × lh_LL} (hG : lh_GX Γ) (hS : lh_laym F S)  (hf : f_LM_readLine I L = some r) (hK : K (r.1, r.2, F, S)) : lh_Met Γ m_LM_readLine 61 0 0 [.ref (65 + 4)] (I, L, F, S) (lh_kv K) := by
  rw [f_LM_readLine] at hf
  refine lh_ofG k_LM_readLine [(0, .ref (65 + 4))] rfl (Nat.le_of_ble_eq_true rfl) rfl ?_
  refine lh_aload_n (q := 0) rfl rfl rfl ?_
  refine lh_iconst rfl lh_k_1 ?_
  refine lh_bdE hf (fun r1 e2 hf => ?_)
  refine lh_cVi (N := m_LM_isWord) (d := 0) (o := 65) (As := [.int 1]) (st := []) rfl rfl v_LM_isWord (hS.1 0 _ rfl) rfl rfl rfl ⟨rfl, rfl⟩ rfl (t_LM_isWord hG hS e2 ?_)
  refine lh_if_eq rfl (fun c3 => ?_) (fun c3 => ?_)
  · have hf := lh_ifT hf c3
    refine lh_aload_n (q := 0) rfl rfl rfl ?_
    refine lh_iconst rfl lh_k_2 ?_
    refine lh_bdE hf (fun r4 e5 hf => ?_)
    refine lh_cVi (N := m_LM_isWord) (d := 0) (o := 65) (As := [.int 2]) (st := []) rfl rfl v_LM_isWord (hS.1 0 _ rfl) rfl rfl rfl ⟨rfl, rfl⟩ rfl (t_LM_isWord hG hS e5 ?_)
    refine lh_if_eq rfl (fun c6 => ?_) (fun c6 => ?_)
    · have hf := lh_ifT hf c6
      refine lh_aload_n (q := 0) rfl rfl rfl ?_
      refine lh_iconst rfl lh_k_5 ?_
      refine lh_bdE hf (fun r7 e8 hf => ?_)
      refine lh_cVi (N := m_LM_isWord) (d := 0) (o := 65) (As := [.int 5]) (st := []) rfl rfl v_LM_isWord (hS.1 0 _ rfl) rfl rfl rfl ⟨rfl, rfl⟩ rfl (t_LM_isWord hG hS e8 ?_)
      refine lh_if_eq rfl (fun c9 => ?_) (fun c9 => ?_)
      · have hf := lh_ifT hf c9
        refine lh_aload_n (q := 0) rfl rfl rfl ?_
        refine lh_bdE hf (fun r10 e11 hf => ?_)
        refine lh_cVv (N := m_LM_readOnce) (d := 60) (o := 65) (As := []) (st := []) rfl rfl v_LM_readOnce (hS.1 0 _ rfl) rfl rfl rfl ⟨rfl, rfl⟩ rfl (t_LM_readOnce hG hS e11 ?_)
        exact lh_vret rfl rfl (by obtain rfl := Option.some.inj hf; exact hK)
      · have hf := lh_ifF hf c9
        refine lh_sipush rfl lh_s_175 ?_
        refine lh_aload_n (q := 0) rfl rfl rfl ?_
        refine lh_getR4 rfl rfl (hS.1 0 _ rfl) rfl (hS.2 5 _ rfl) ?_
        refine lh_bipush rfl lh_b_102 ?_
        refine lh_iald5 (k := 102) rfl (hS.1 6 _ rfl) (by decide) (by decide) ?_
        refine lh_iadd rfl ?_
        refine lh_istore_n (lv' := [(0, .ref (65 + 4)), (1, .int (175 + (I (71 + 4) 102)))]) rfl rfl rfl rfl ?_
        refine lh_aload_n (q := 0) rfl rfl rfl ?_
        refine lh_iconst rfl lh_k_2 ?_
        refine lh_iconst rfl lh_k_4 ?_
        refine lh_bdE hf (fun r12 e13 hf => ?_)
        refine lh_cVv (N := m_LM_readName) (d := 3) (o := 65) (As := [.int 2, .int 4]) (st := []) rfl rfl v_LM_readName (hS.1 0 _ rfl) rfl rfl rfl ⟨rfl, rfl⟩ rfl (t_LM_readName hG hS e13 ?_)
        refine lh_aload_n (q := 0) rfl rfl rfl ?_
        refine lh_bipush rfl lh_b_6 ?_
        refine lh_iconst rfl lh_k_0 ?_
        refine lh_bipush rfl lh_b_11 ?_
        refine lh_bdE hf (fun r14 e15 hf => ?_)
        refine lh_cVi (N := m_LM_takeAfter) (d := 3) (o := 65) (As := [.int 6, .int 0, .int 11]) (st := []) rfl rfl v_LM_takeAfter (hS.1 0 _ rfl) rfl rfl rfl ⟨rfl, rfl⟩ rfl (t_LM_takeAfter hG hS e15 ?_)
        refine lh_istore_n (lv' := [(0, .ref (65 + 4)), (1, .int (175 + (I (71 + 4) 102))), (2, .int r14.1)]) rfl rfl rfl rfl ?_
        refine lh_aload_n (q := 0) rfl rfl rfl ?_
        refine lh_getI4 rfl rfl (hS.1 0 _ rfl) rfl ?_
        refine lh_if_ne rfl (fun c16 => ?_) (fun c16 => ?_)
        · have hf := lh_ifF hf c16
          refine lh_goto rfl ?_
          exact lh_vret rfl rfl (by obtain rfl := Option.some.inj hf; exact hK)
        · have hf := lh_ifT hf c16
          refine lh_aload_n (q := 0) rfl rfl rfl ?_
          refine lh_getR4 rfl rfl (hS.1 0 _ rfl) rfl (hS.2 5 _ rfl) ?_
          refine lh_iload_n (q := 1) rfl rfl rfl ?_
          refine lh_iload_n (q := 2) rfl rfl rfl ?_
          obtain ⟨g17, hf⟩ := lh_gdE hf
          refine lh_iast4 rfl (hS.1 6 _ rfl) g17 ?_
          refine lh_goto rfl ?_
          exact lh_vret rfl rfl (by obtain rfl := Option.some.inj hf; exact hK)
    · have hf := lh_ifF hf c6
      refine lh_aload_n (q := 0) rfl rfl rfl ?_
      refine lh_bdE hf (fun r18 e19 hf => ?_)
      refine lh_cVv (N := m_LM_readVisitor) (d := 4) (o := 65) (As := []) (st := []) rfl rfl v_LM_readVisitor (hS.1 0 _ rfl) rfl rfl rfl ⟨rfl, rfl⟩ rfl (t_LM_readVisitor hG hS e19 ?_)
      refine lh_goto rfl ?_
      exact lh_vret rfl rfl (by obtain rfl := Option.some.inj hf; exact hK)
  · have hf := lh_ifF hf c3
    refine lh_aload_n (q := 0) rfl rfl rfl ?_
    refine lh_dup rfl rfl ?_
    refine lh_getI4 rfl rfl (hS.1 0 _ rfl) rfl ?_
    refine lh_iconst rfl lh_k_1 ?_
    refine lh_iadd rfl ?_
    refine lh_putI4 rfl rfl (hS.1 0 _ rfl) rfl rfl ?_
    refine lh_aload_n (q := 0) rfl rfl rfl ?_
    refine lh_iconst rfl lh_k_0 ?_
    refine lh_bipush rfl lh_b_11 ?_
    refine lh_bdE hf (fun r20 e21 hf => ?_)
    refine lh_cVi (N := m_LM_takeNumber) (d := 1) (o := 65) (As := [.int 0, .int 11]) (st := []) rfl rfl v_LM_takeNumber (hS.1 0 _ rfl) rfl rfl rfl ⟨rfl, rfl⟩ rfl (t_LM_takeNumber hG hS e21 ?_)
    refine lh_istore_n (lv' := [(0, .ref (65 + 4)), (1, .int r20.1)]) rfl rfl rfl rfl ?_
    refine lh_aload_n (q := 0) rfl rfl rfl ?_
    refine lh_getI4 rfl rfl (hS.1 0 _ rfl) rfl ?_
    refine lh_if_ne rfl (fun c22 => ?_) (fun c22 => ?_)
    · have hf := lh_ifF hf c22
      refine lh_aload_n (q := 0) rfl rfl rfl ?_
      refine lh_getR4 rfl rfl (hS.1 0 _ rfl) rfl (hS.2 5 _ rfl) ?_
      refine lh_bipush rfl lh_b_107 ?_
      refine lh_dup2 rfl rfl rfl ?_
      refine lh_iald5 (k := 107) rfl (hS.1 6 _ rfl) (by decide) (by decide) ?_
      refine lh_iconst rfl lh_k_1 ?_
      refine lh_iload_n (q := 1) rfl rfl rfl ?_
      refine lh_ishl rfl ?_
      refine lh_ior rfl ?_
      refine lh_iast5 (k := 107) rfl (hS.1 6 _ rfl) (by decide) (by decide) ?_
      refine lh_goto rfl ?_
      exact lh_vret rfl rfl (by obtain rfl := Option.some.inj hf; exact hK)
    · have hf := lh_ifT hf c22
      refine lh_aload_n (q := 0) rfl rfl rfl ?_
      refine lh_getR4 rfl rfl (hS.1 0 _ rfl) rfl (hS.2 5 _ rfl) ?_
      refine lh_bipush rfl lh_b_107 ?_
      refine lh_iald5 (k := 107) rfl (hS.1 6 _ rfl) (by decide) (by decide) ?_
      refine lh_iload_n (q := 1) rfl rfl rfl ?_
      refine lh_ishr rfl ?_
      refine lh_iconst rfl lh_k_1 ?_
      refine lh_iand rfl ?_
      refine lh_iconst rfl lh_k_1 ?_
      refine lh_icmp_ne rfl (fun c23 => ?_) (fun c23 => ?_)
      · have hf := lh_ifF hf c23
        refine lh_aload_n (q := 0) rfl rfl rfl ?_
        refine lh_getR4 rfl rfl (hS.1 0 _ rfl) rfl (hS.2 5 _ rfl) ?_
        refine lh_bipush rfl lh_b_107 ?_
        refine lh_dup2 rfl rfl rfl ?_
        refine lh_iald5 (k := 107) rfl (hS.1 6 _ rfl) (by decide) (by decide) ?_
        refine lh_iconst rfl lh_k_1 ?_
        refine lh_iload_n (q := 1) rfl rfl rfl ?_
        refine lh_ishl rfl ?_
        refine lh_ior rfl ?_
        refine lh_iast5 (k := 107) rfl (hS.1 6 _ rfl) (by decide) (by decide) ?_
        refine lh_goto rfl ?_
        exact lh_vret rfl rfl (by obtain rfl := Option.some.inj hf; exact hK)
      · have hf := lh_ifT hf c23
        refine lh_aload_n (q := 0) rfl rfl rfl ?_
        refine lh_dup rfl rfl ?_
        refine lh_getI4 rfl rfl (hS.1 0 _ rfl) rfl ?_
        refine lh_iconst rfl lh_k_1 ?_
        refine lh_isub rfl ?_
        refine lh_putI4 rfl rfl (hS.1 0 _ rfl) rfl rfl ?_
        refine lh_aload_n (q := 0) rfl rfl rfl ?_
        refine lh_iconst rfl lh_k_3 ?_
        refine lh_bdE hf (fun r24 e25 hf => ?_)
        refine lh_cVv (N := m_LM_wrong) (d := 0) (o := 65) (As := [.int 3]) (st := []) rfl rfl v_LM_wrong (hS.1 0 _ rfl) rfl rfl rfl ⟨rfl, rfl⟩ rfl (t_LM_wrong hG hS e25 ?_)
        refine lh_aload_n (q := 0) rfl rfl rfl ?_
        refine lh_getR4 rfl rfl (hS.1 0 _ rfl) rfl (hS.2 5 _ rfl) ?_
        refine lh_bipush rfl lh_b_107 ?_
        refine lh_dup2 rfl rfl rfl ?_
        refine lh_iald5 (k := 107) rfl (hS.1 6 _ rfl) (by decide) (by decide) ?_
        refine lh_iconst rfl lh_k_1 ?_
        refine lh_iload_n (q := 1) rfl rfl rfl ?_
        refine lh_ishl rfl ?_
        refine lh_ior rfl ?_
        refine lh_iast5 (k := 107) rfl (hS.1 6 _ rfl) (by decide) (by decide) ?_
        refine lh_goto rfl ?_
        exact lh_vret rfl rfl (by obtain rfl := Option.some.inj hf; exact hK)
def f_LM_hall_17 : Nat → lh_II → lh_LL → Option (lh_II × lh_LL)
  | 0, _, _ => none
  | n + 1, I, L => if (I (65 + 4) 8) = 0 then lh_gd (lh_ix (I (65 + 4) 7) 1002) (if (I (67 + 4) (I (65 + 4) 7).toNatClampNeg) = 0 then some (I, L) else lh_bd (f_LM_readLine I L) fun r8 => lh_bd (f_LM_takeSign (59 : Int32) r8.1 r8.2) fun r10 => f_LM_hall_17 n r10 r8.2) else some (I, L)
def f_LM_hall_40 : Nat → Int32 → lh_II → Option (lh_II)
  | 0, _, _ => none
  | n + 1, v1, I => if 100 ≤ v1 then some I else lh_gd (lh_ix (100 + v1) 200) (lh_gd (lh_ix v1 200) (f_LM_hall_40 n (v1 + 1) (lh_u2 I (71 + 4) v1.toNatClampNeg (I (71 + 4) (100 + v1).toNatClampNeg))))
def f_LM_hall_57 : Nat → Int32 → lh_II → Option (lh_II)
  | 0, _, _ => none
  | n + 1, v1, I => if (I (65 + 4) 13) ≤ v1 then some I else lh_gd (lh_ix (1100 + v1) 2200) (lh_gd (lh_ix v1 2200) (lh_gd (lh_ix (1100 + v1) 2200) (lh_gd (lh_ix v1 2200) (f_LM_hall_57 n (v1 + 1) (lh_u2 (lh_u2 I (72 + 4) v1.toNatClampNeg (I (72 + 4) (1100 + v1).toNatClampNeg)) (73 + 4) v1.toNatClampNeg ((lh_u2 I (72 + 4) v1.toNatClampNeg (I (72 + 4) (1100 + v1).toNatClampNeg)) (73 + 4) (1100 + v1).toNatClampNeg))))))
def f_LM_hall (I : lh_II) (L : lh_LL) : Option (Int32 × lh_II × lh_LL) := lh_bd (f_LM_cutAll (lh_u2 I (65 + 4) 0 0) L) fun r1 => lh_bd (f_LM_standsAsAlways (100 : Int32) (lh_u2 (lh_u2 (lh_u2 r1.1 (65 + 4) 13 0) (65 + 4) 15 0) (65 + 4) 16 0)) fun r3 => lh_bd (f_LM_hall_17 lh_fuel r3 r1.2) fun r12 => if (r12.1 (65 + 4) 8) ≤ 0 then lh_bd (f_LM_hall_40 lh_fuel 0 r12.1) fun r18 => lh_bd (f_LM_hall_57 lh_fuel 0 r18) fun r25 => lh_bd (f_LM_begins r25) fun r27 => some (0, r27, r12.2) else some ((r12.1 (65 + 4) 8), r12.1, r12.2)
theorem t_LM_hall_17 {Γ : lh_Cx} {F : lh_FF} {S : lh_SS} {Z : List Frame → Array Value → State → State → Prop} (hG : lh_GX Γ) (hS : lh_laym F S)   : ∀ (n : Nat) (I : lh_II) (L : lh_LL) (o : lh_II × lh_LL), f_LM_hall_17 n I L = some o → ∀ (x0_ : lh_G Γ m_LM_hall (lh_R 62 0 0) Z 0 0 32 [(0, .ref (65 + 4))] [] (o.1, o.2, F, S)), lh_G Γ m_LM_hall (lh_R 62 0 0) Z 0 0 17 [(0, .ref (65 + 4))] [] (I, L, F, S) := by
  intro n
  induction n with
  | zero => intro I L o hf; cases hf
  | succ n ih =>
    intro I L o hf x0_
    rw [f_LM_hall_17] at hf
    refine lh_aload_n (q := 0) rfl rfl rfl ?_
    refine lh_getI4 rfl rfl (hS.1 0 _ rfl) rfl ?_
    refine lh_if_ne rfl (fun c5 => ?_) (fun c5 => ?_)
    · have hf := lh_ifF hf c5
      cases hf; exact x0_
    · have hf := lh_ifT hf c5
      refine lh_aload_n (q := 0) rfl rfl rfl ?_
      refine lh_getR4 rfl rfl (hS.1 0 _ rfl) rfl (hS.2 1 _ rfl) ?_
      refine lh_aload_n (q := 0) rfl rfl rfl ?_
      refine lh_getI4 rfl rfl (hS.1 0 _ rfl) rfl ?_
      obtain ⟨g6, hf⟩ := lh_gdE hf
      refine lh_iald4 rfl (hS.1 2 _ rfl) g6 ?_
      refine lh_if_eq rfl (fun c7 => ?_) (fun c7 => ?_)
      · have hf := lh_ifT hf c7
        cases hf; exact x0_
      · have hf := lh_ifF hf c7
        refine lh_aload_n (q := 0) rfl rfl rfl ?_
        refine lh_bdE hf (fun r8 e9 hf => ?_)
        refine lh_cVv (N := m_LM_readLine) (d := 61) (o := 65) (As := []) (st := []) rfl rfl v_LM_readLine (hS.1 0 _ rfl) rfl rfl rfl ⟨rfl, rfl⟩ rfl (t_LM_readLine hG hS e9 ?_)
        refine lh_aload_n (q := 0) rfl rfl rfl ?_
        refine lh_bipush rfl lh_b_59 ?_
        refine lh_bdE hf (fun r10 e11 hf => ?_)
        refine lh_cVv (N := m_LM_takeSign) (d := 1) (o := 65) (As := [.int 59]) (st := []) rfl rfl v_LM_takeSign (hS.1 0 _ rfl) rfl rfl rfl ⟨rfl, rfl⟩ rfl (t_LM_takeSign hG hS e11 ?_)
        refine lh_goto rfl ?_
        exact ih r10 r8.2 _ hf x0_
theorem t_LM_hall_40 {Γ : lh_Cx} {F : lh_FF} {S : lh_SS} {Z : List Frame → Array Value → State → State → Prop} (hG : lh_GX Γ) (hS : lh_laym F S)   {L : lh_LL} : ∀ (n : Nat) (v1 : Int32) (I : lh_II) (o : lh_II), f_LM_hall_40 n v1 I = some o → ∀ (x0_ : lh_G Γ m_LM_hall (lh_R 62 0 0) Z 0 0 55 [(0, .ref (65 + 4))] [] (o, L, F, S)), lh_G Γ m_LM_hall (lh_R 62 0 0) Z 0 0 40 [(0, .ref (65 + 4)), (1, .int v1)] [] (I, L, F, S) := by
  intro n
  induction n with
  | zero => intro v1 I o hf; cases hf
  | succ n ih =>
    intro v1 I o hf x0_
    rw [f_LM_hall_40] at hf
    refine lh_iload_n (q := 1) rfl rfl rfl ?_
    refine lh_bipush rfl lh_b_100 ?_
    refine lh_icmp_ge rfl (fun c15 => ?_) (fun c15 => ?_)
    · have hf := lh_ifT hf c15
      exact lh_less [0] rfl (by cases hf; exact x0_)
    · have hf := lh_ifF hf c15
      refine lh_aload_n (q := 0) rfl rfl rfl ?_
      refine lh_getR4 rfl rfl (hS.1 0 _ rfl) rfl (hS.2 5 _ rfl) ?_
      refine lh_iload_n (q := 1) rfl rfl rfl ?_
      refine lh_aload_n (q := 0) rfl rfl rfl ?_
      refine lh_getR4 rfl rfl (hS.1 0 _ rfl) rfl (hS.2 5 _ rfl) ?_
      refine lh_bipush rfl lh_b_100 ?_
      refine lh_iload_n (q := 1) rfl rfl rfl ?_
      refine lh_iadd rfl ?_
      obtain ⟨g16, hf⟩ := lh_gdE hf
      refine lh_iald4 rfl (hS.1 6 _ rfl) g16 ?_
      obtain ⟨g17, hf⟩ := lh_gdE hf
      refine lh_iast4 rfl (hS.1 6 _ rfl) g17 ?_
      refine lh_iinc (q := 1) (v := (v1 + 1)) (lv' := [(0, .ref (65 + 4)), (1, .int (v1 + 1))]) rfl rfl (congrArg (v1 + ·) (by decide)) rfl rfl ?_
      refine lh_goto rfl ?_
      exact ih (v1 + 1) (lh_u2 I (71 + 4) v1.toNatClampNeg (I (71 + 4) (100 + v1).toNatClampNeg)) _ hf x0_
theorem t_LM_hall_57 {Γ : lh_Cx} {F : lh_FF} {S : lh_SS} {Z : List Frame → Array Value → State → State → Prop} (hG : lh_GX Γ) (hS : lh_laym F S)   {L : lh_LL} : ∀ (n : Nat) (v1 : Int32) (I : lh_II) (o : lh_II), f_LM_hall_57 n v1 I = some o → ∀ (x0_ : lh_G Γ m_LM_hall (lh_R 62 0 0) Z 0 0 83 [(0, .ref (65 + 4))] [] (o, L, F, S)), lh_G Γ m_LM_hall (lh_R 62 0 0) Z 0 0 57 [(0, .ref (65 + 4)), (1, .int v1)] [] (I, L, F, S) := by
  intro n
  induction n with
  | zero => intro v1 I o hf; cases hf
  | succ n ih =>
    intro v1 I o hf x0_
    rw [f_LM_hall_57] at hf
    refine lh_iload_n (q := 1) rfl rfl rfl ?_
    refine lh_aload_n (q := 0) rfl rfl rfl ?_
    refine lh_getI4 rfl rfl (hS.1 0 _ rfl) rfl ?_
    refine lh_icmp_ge rfl (fun c20 => ?_) (fun c20 => ?_)
    · have hf := lh_ifT hf c20
      exact lh_less [0] rfl (by cases hf; exact x0_)
    · have hf := lh_ifF hf c20
      refine lh_aload_n (q := 0) rfl rfl rfl ?_
      refine lh_getR4 rfl rfl (hS.1 0 _ rfl) rfl (hS.2 6 _ rfl) ?_
      refine lh_iload_n (q := 1) rfl rfl rfl ?_
      refine lh_aload_n (q := 0) rfl rfl rfl ?_
      refine lh_getR4 rfl rfl (hS.1 0 _ rfl) rfl (hS.2 6 _ rfl) ?_
      refine lh_sipush rfl lh_s_1100 ?_
      refine lh_iload_n (q := 1) rfl rfl rfl ?_
      refine lh_iadd rfl ?_
      obtain ⟨g21, hf⟩ := lh_gdE hf
      refine lh_iald4 rfl (hS.1 7 _ rfl) g21 ?_
      obtain ⟨g22, hf⟩ := lh_gdE hf
      refine lh_iast4 rfl (hS.1 7 _ rfl) g22 ?_
      refine lh_aload_n (q := 0) rfl rfl rfl ?_
      refine lh_getR4 rfl rfl (hS.1 0 _ rfl) rfl (hS.2 7 _ rfl) ?_
      refine lh_iload_n (q := 1) rfl rfl rfl ?_
      refine lh_aload_n (q := 0) rfl rfl rfl ?_
      refine lh_getR4 rfl rfl (hS.1 0 _ rfl) rfl (hS.2 7 _ rfl) ?_
      refine lh_sipush rfl lh_s_1100 ?_
      refine lh_iload_n (q := 1) rfl rfl rfl ?_
      refine lh_iadd rfl ?_
      obtain ⟨g23, hf⟩ := lh_gdE hf
      refine lh_iald4 rfl (hS.1 8 _ rfl) g23 ?_
      obtain ⟨g24, hf⟩ := lh_gdE hf
      refine lh_iast4 rfl (hS.1 8 _ rfl) g24 ?_
      refine lh_iinc (q := 1) (v := (v1 + 1)) (lv' := [(0, .ref (65 + 4)), (1, .int (v1 + 1))]) rfl rfl (congrArg (v1 + ·) (by decide)) rfl rfl ?_
      refine lh_goto rfl ?_
      exact ih (v1 + 1) (lh_u2 (lh_u2 I (72 + 4) v1.toNatClampNeg (I (72 + 4) (1100 + v1).toNatClampNeg)) (73 + 4) v1.toNatClampNeg ((lh_u2 I (72 + 4) v1.toNatClampNeg (I (72 + 4) (1100 + v1).toNatClampNeg)) (73 + 4) (1100 + v1).toNatClampNeg)) _ hf x0_
theorem t_LM_hall {Γ : lh_Cx} {I : lh_II} {L : lh_LL} {F : lh_FF} {S : lh_SS} {K : Int32 → lh_Hp → Prop} {r : Int32 × lh_II × lh_LL} (hG : lh_GX Γ) (hS : lh_laym F S)  (hf : f_LM_hall I L = some r) (hK : K r.1 (r.2.1, r.2.2, F, S)) : lh_Met Γ m_LM_hall 62 0 0 [.ref (65 + 4)] (I, L, F, S) (lh_ki K) := by
  rw [f_LM_hall] at hf
  refine lh_ofG k_LM_hall [(0, .ref (65 + 4))] rfl (Nat.le_of_ble_eq_true rfl) rfl ?_
  refine lh_aload_n (q := 0) rfl rfl rfl ?_
  refine lh_iconst rfl lh_k_0 ?_
  refine lh_putI4 rfl rfl (hS.1 0 _ rfl) rfl rfl ?_
  refine lh_aload_n (q := 0) rfl rfl rfl ?_
  refine lh_bdE hf (fun r1 e2 hf => ?_)
  refine lh_cVv (N := m_LM_cutAll) (d := 2) (o := 65) (As := []) (st := []) rfl rfl v_LM_cutAll (hS.1 0 _ rfl) rfl rfl rfl ⟨rfl, rfl⟩ rfl (t_LM_cutAll hG hS e2 ?_)
  refine lh_aload_n (q := 0) rfl rfl rfl ?_
  refine lh_iconst rfl lh_k_0 ?_
  refine lh_putI4 rfl rfl (hS.1 0 _ rfl) rfl rfl ?_
  refine lh_aload_n (q := 0) rfl rfl rfl ?_
  refine lh_iconst rfl lh_k_0 ?_
  refine lh_putI4 rfl rfl (hS.1 0 _ rfl) rfl rfl ?_
  refine lh_aload_n (q := 0) rfl rfl rfl ?_
  refine lh_iconst rfl lh_k_0 ?_
  refine lh_putI4 rfl rfl (hS.1 0 _ rfl) rfl rfl ?_
  refine lh_aload_n (q := 0) rfl rfl rfl ?_
  refine lh_bipush rfl lh_b_100 ?_
  refine lh_bdE hf (fun r3 e4 hf => ?_)
  refine lh_cVv (N := m_LM_standsAsAlways) (d := 0) (o := 65) (As := [.int 100]) (st := []) rfl rfl v_LM_standsAsAlways (hS.1 0 _ rfl) rfl rfl rfl ⟨rfl, rfl⟩ rfl (t_LM_standsAsAlways hG hS e4 ?_)
  refine lh_bdE hf (fun r12 e13 hf => ?_)
  refine t_LM_hall_17 hG hS  _ r3 r1.2 _ e13 ?_
  refine lh_aload_n (q := 0) rfl rfl rfl ?_
  refine lh_getI4 rfl rfl (hS.1 0 _ rfl) rfl ?_
  refine lh_if_le rfl (fun c14 => ?_) (fun c14 => ?_)
  · have hf := lh_ifT hf c14
    refine lh_iconst rfl lh_k_0 ?_
    refine lh_istore_n (lv' := [(0, .ref (65 + 4)), (1, .int 0)]) rfl rfl rfl rfl ?_
    refine lh_bdE hf (fun r18 e19 hf => ?_)
    refine t_LM_hall_40 hG hS  _ 0 r12.1 _ e19 ?_
    refine lh_iconst rfl lh_k_0 ?_
    refine lh_istore_n (lv' := [(0, .ref (65 + 4)), (1, .int 0)]) rfl rfl rfl rfl ?_
    refine lh_bdE hf (fun r25 e26 hf => ?_)
    refine t_LM_hall_57 hG hS  _ 0 r18 _ e26 ?_
    refine lh_aload_n (q := 0) rfl rfl rfl ?_
    refine lh_bdE hf (fun r27 e28 hf => ?_)
    refine lh_cVv (N := m_LM_begins) (d := 2) (o := 65) (As := []) (st := []) rfl rfl v_LM_begins (hS.1 0 _ rfl) rfl rfl rfl ⟨rfl, rfl⟩ rfl (t_LM_begins hG hS e28 ?_)
    refine lh_iconst rfl lh_k_0 ?_
    exact lh_iret rfl rfl rfl (by obtain rfl := Option.some.inj hf; exact hK)
  · have hf := lh_ifF hf c14
    refine lh_aload_n (q := 0) rfl rfl rfl ?_
    refine lh_getI4 rfl rfl (hS.1 0 _ rfl) rfl ?_
    exact lh_iret rfl rfl rfl (by obtain rfl := Option.some.inj hf; exact hK)
