/-! hall and night: the calls that change which hall and which night stand -/
def lh_zr {α : Type} (z : α) (n : Nat) (I : Nat → Nat → α) : Nat → Nat → α := fun a i => if a = n + 4 then z else I a i
def lh_ok (F : lh_FF) (S : lh_SS) (a b a2 b2 : Nat) : Prop := lh_lay F S ∧ lh_laym F S ∧ lh_hl F S a ∧ lh_hl F S a2 ∧ lh_nl F S b ∧ lh_nl F S b2 ∧ F (0 + 4) 6 = a + 4 ∧ F (0 + 4) 7 = a2 + 4 ∧ F (0 + 4) 8 = b + 4 ∧ F (0 + 4) 9 = b2 + 4 ∧ S[81]? = some (1, 1) ∧ (11 ≤ a ∧ a ≤ 23) ∧ (11 ≤ a2 ∧ a2 ≤ 23) ∧ (35 ≤ b ∧ b ≤ 38) ∧ (35 ≤ b2 ∧ b2 ≤ 38)
theorem lh_lay.ext {F F' : lh_FF} {S S' : lh_SS} (h : lh_lay F S) (hF : ∀ o k, o < 86 → ¬ (o = 4 ∧ 6 ≤ k) → F' o k = F o k) (hS : ∀ k, k < 82 → S'[k]? = S[k]?) : lh_lay F' S' := by
  refine ⟨fun k q hk => ?_, fun k q hk => ?_⟩
  · have hl : k < 65 := (List.getElem?_eq_some_iff.mp hk).1
    rw [hS k (by omega)]
    exact h.1 k q hk
  · have := (by decide : ∀ q ∈ lh_RF, q.1 < 82 ∧ ¬ (q.1 = 0 ∧ 6 ≤ q.2.1)) q (List.mem_of_getElem? hk)
    rw [hF _ _ (by omega) (by omega)]
    exact h.2 k q hk
theorem lh_laym.ext {F F' : lh_FF} {S S' : lh_SS} (h : lh_laym F S) (hF : ∀ o k, o < 86 → ¬ (o = 4 ∧ 6 ≤ k) → F' o k = F o k) (hS : ∀ k, k < 82 → S'[k]? = S[k]?) : lh_laym F' S' := by
  refine ⟨fun k q hk => ?_, fun k q hk => ?_⟩
  · have hl : k < 16 := (List.getElem?_eq_some_iff.mp hk).1
    rw [hS (65 + k) (by omega)]
    exact h.1 k q hk
  · have := (by decide : ∀ q ∈ lh_RM, q.1 < 82 ∧ ¬ (q.1 = 0 ∧ 6 ≤ q.2.1)) q (List.mem_of_getElem? hk)
    rw [hF _ _ (by omega) (by omega)]
    exact h.2 k q hk
theorem lh_hl.ext {F F' : lh_FF} {S S' : lh_SS} {a : Nat} (h : lh_hl F S a) (ha : 11 ≤ a ∧ a ≤ 23) (hF : ∀ o k, o < 86 → ¬ (o = 4 ∧ 6 ≤ k) → F' o k = F o k) (hS : ∀ k, k < 82 → S'[k]? = S[k]?) : lh_hl F' S' a := by
  refine ⟨fun k q hk => ?_, fun k q hk => ?_⟩
  · have hl : k < 12 := (List.getElem?_eq_some_iff.mp hk).1
    rw [hS (a + k) (by omega)]
    exact h.1 k q hk
  · have := (by decide : ∀ q ∈ lh_HRF, q.1 < 2) q (List.mem_of_getElem? hk)
    rw [hF _ _ (by omega) (by omega)]
    exact h.2 k q hk
theorem lh_nl.ext {F F' : lh_FF} {S S' : lh_SS} {a : Nat} (h : lh_nl F S a) (ha : 35 ≤ a ∧ a ≤ 38) (hF : ∀ o k, o < 86 → ¬ (o = 4 ∧ 6 ≤ k) → F' o k = F o k) (hS : ∀ k, k < 82 → S'[k]? = S[k]?) : lh_nl F' S' a := by
  refine ⟨fun k q hk => ?_, fun k q hk => ?_⟩
  · have hl : k < 3 := (List.getElem?_eq_some_iff.mp hk).1
    rw [hS (a + k) (by omega)]
    exact h.1 k q hk
  · have := (by decide : ∀ q ∈ lh_NRF, q.1 < 2) q (List.mem_of_getElem? hk)
    rw [hF _ _ (by omega) (by omega)]
    exact h.2 k q hk
theorem lh_ok.ext {F F' : lh_FF} {S S' : lh_SS} {a b a2 b2 : Nat} (h : lh_ok F S a b a2 b2) (hF : ∀ o k, o < 86 → F' o k = F o k) (hS : ∀ k, k < 82 → S'[k]? = S[k]?) : lh_ok F' S' a b a2 b2 := by
  have hF' : ∀ o k, o < 86 → ¬ (o = 4 ∧ 6 ≤ k) → F' o k = F o k := fun o k ho _ => hF o k ho
  obtain ⟨h1, h2, h3, h4, h5, h6, h7, h8, h9, h10, h11, h12, h13, h14, h15⟩ := h
  exact ⟨h1.ext hF' hS, h2.ext hF' hS, h3.ext h12 hF' hS, h4.ext h13 hF' hS, h5.ext h14 hF' hS, h6.ext h15 hF' hS, by rw [hF _ _ (by decide)]; exact h7, by rw [hF _ _ (by decide)]; exact h8, by rw [hF _ _ (by decide)]; exact h9, by rw [hF _ _ (by decide)]; exact h10, by rw [hS _ (by decide)]; exact h11, h12, h13, h14, h15⟩
theorem lh_f2o {F : lh_FF} {o k x : Nat} : ∀ o' k', ¬ (o' = o ∧ k' = k) → lh_f2 F o k x o' k' = F o' k' := by
  intro o' k' h
  unfold lh_f2
  split
  · next h1 => rw [if_neg (fun h2 => h ⟨h1, h2⟩)]
  · rfl
theorem lh_f2s {F : lh_FF} {o k x : Nat} : lh_f2 F o k x o k = x := by unfold lh_f2; rw [if_pos rfl, if_pos rfl]
def lh_swH (F : lh_FF) (a a2 : Nat) : lh_FF := lh_f2 (lh_f2 F (0 + 4) 6 (a2 + 4)) (0 + 4) 7 (a + 4)
def lh_swN (F : lh_FF) (b b2 : Nat) : lh_FF := lh_f2 (lh_f2 F (0 + 4) 8 (b2 + 4)) (0 + 4) 9 (b + 4)
theorem lh_ok.swH {F : lh_FF} {S : lh_SS} {a b a2 b2 : Nat} (h : lh_ok F S a b a2 b2) : lh_ok (lh_swH F a a2) S a2 b a b2 := by
  have hF' : ∀ o k, o < 86 → ¬ (o = 4 ∧ 6 ≤ k) → lh_swH F a a2 o k = F o k := fun o k ho hn => by
    unfold lh_swH
    rw [lh_f2o _ _ (by omega), lh_f2o _ _ (by omega)]
  obtain ⟨h1, h2, h3, h4, h5, h6, h7, h8, h9, h10, h11, h12, h13, h14, h15⟩ := h
  refine ⟨h1.ext hF' (fun _ _ => rfl), h2.ext hF' (fun _ _ => rfl), h4.ext h13 hF' (fun _ _ => rfl), h3.ext h12 hF' (fun _ _ => rfl), h5.ext h14 hF' (fun _ _ => rfl), h6.ext h15 hF' (fun _ _ => rfl), ?_, ?_, ?_, ?_, h11, h13, h12, h14, h15⟩
  · unfold lh_swH; rw [lh_f2o _ _ (by omega), lh_f2s]
  · unfold lh_swH; rw [lh_f2s]
  · unfold lh_swH; rw [lh_f2o _ _ (by omega), lh_f2o _ _ (by omega)]; exact h9
  · unfold lh_swH; rw [lh_f2o _ _ (by omega), lh_f2o _ _ (by omega)]; exact h10
theorem lh_ok.swN {F : lh_FF} {S : lh_SS} {a b a2 b2 : Nat} (h : lh_ok F S a b a2 b2) : lh_ok (lh_swN F b b2) S a b2 a2 b := by
  have hF' : ∀ o k, o < 86 → ¬ (o = 4 ∧ 6 ≤ k) → lh_swN F b b2 o k = F o k := fun o k ho hn => by
    unfold lh_swN
    rw [lh_f2o _ _ (by omega), lh_f2o _ _ (by omega)]
  obtain ⟨h1, h2, h3, h4, h5, h6, h7, h8, h9, h10, h11, h12, h13, h14, h15⟩ := h
  refine ⟨h1.ext hF' (fun _ _ => rfl), h2.ext hF' (fun _ _ => rfl), h3.ext h12 hF' (fun _ _ => rfl), h4.ext h13 hF' (fun _ _ => rfl), h6.ext h15 hF' (fun _ _ => rfl), h5.ext h14 hF' (fun _ _ => rfl), ?_, ?_, ?_, ?_, h11, h12, h13, h15, h14⟩
  · unfold lh_swN; rw [lh_f2o _ _ (by omega), lh_f2o _ _ (by omega)]; exact h7
  · unfold lh_swN; rw [lh_f2o _ _ (by omega), lh_f2o _ _ (by omega)]; exact h8
  · unfold lh_swN; rw [lh_f2o _ _ (by omega), lh_f2s]
  · unfold lh_swN; rw [lh_f2s]
/-- the tables with a new HallReader q, for the hall a -/
def lh_hrF (F : lh_FF) (q a : Nat) : lh_FF := lh_f2 (lh_f2 (lh_f2 (lh_zr 0 (q + 1) (lh_zr 0 q F)) (q + 4) 2 (q + 1 + 4)) (q + 4) 0 (1 + 4)) (q + 4) 1 (a + 4)
def lh_hrI (I : lh_II) (q : Nat) : lh_II := lh_u2 (lh_u2 (lh_zr 0 (q + 1) (lh_zr 0 q I)) (q + 4) 3 0) (q + 4) 4 0
def lh_hrL (L : lh_LL) (q : Nat) : lh_LL := lh_zr 0 (q + 1) (lh_zr 0 q L)
theorem tc_Hr_init {Γ : lh_Cx} {I : lh_II} {L : lh_LL} {F : lh_FF} {S : lh_SS} {K : lh_Hp → Prop} {q a : Nat} (hq : S[q]? = some (7, 0)) (hl : S.length = q + 1)
    (hK : K (lh_u2 (lh_u2 (lh_zr 0 (q + 1) I) (q + 4) 3 0) (q + 4) 4 0, lh_zr 0 (q + 1) L, lh_f2 (lh_f2 (lh_f2 (lh_zr 0 (q + 1) F) (q + 4) 2 (q + 1 + 4)) (q + 4) 0 (1 + 4)) (q + 4) 1 (a + 4), S ++ [(1, 10)])) : lh_Met Γ m_Hr_init 1 1 10 [.ref (q + 4), .ref (1 + 4), .ref (a + 4)] (I, L, F, S) (lh_kv K) := by
  have hq' : (S ++ [(1, 10)])[q]? = some (7, 0) := by rw [List.getElem?_append_left (by omega)]; exact hq
  refine lh_ofG k_Hr_init [(0, .ref (q + 4)), (1, .ref (1 + 4)), (2, .ref (a + 4))] rfl (Nat.le_of_ble_eq_true rfl) rfl ?_
  refine lh_aload_n (q := 0) rfl rfl rfl ?_
  refine lh_objInit rfl rfl ⟨rfl, rfl⟩ rfl ?_
  refine lh_aload_n (q := 0) rfl rfl rfl ?_
  refine lh_bipush rfl lh_b_10 ?_
  refine lh_newaK (u := 1) (N := 10) (bc := 0) (bs := 0) rfl (Or.inr (Or.inl ⟨rfl, rfl⟩)) (by decide) (by decide) (by decide) ?_
  have e : lh_al (I, L, F, S) (1, 10) = (lh_zr 0 (q + 1) I, lh_zr 0 (q + 1) L, lh_zr 0 (q + 1) F, S ++ [(1, 10)]) := by
    show ((fun a i => if a = S.length + 4 then 0 else I a i), (fun a i => if a = S.length + 4 then 0 else L a i), (fun a i => if a = S.length + 4 then 0 else F a i), S ++ [(1, 10)]) = _
    rw [hl]; rfl
  rw [e]
  show lh_G Γ m_Hr_init _ _ 0 0 5 _ [.ref (S.length + 4), .ref (q + 4)] _
  rw [hl]
  refine lh_putF4 rfl rfl hq' rfl rfl rfl rfl ?_
  refine lh_aload_n (q := 0) rfl rfl rfl ?_
  refine lh_iconst rfl lh_k_0 ?_
  refine lh_putI4 rfl rfl hq' rfl rfl ?_
  refine lh_aload_n (q := 0) rfl rfl rfl ?_
  refine lh_iconst rfl lh_k_0 ?_
  refine lh_putI4 rfl rfl hq' rfl rfl ?_
  refine lh_aload_n (q := 0) rfl rfl rfl ?_
  refine lh_aload_n (q := 1) rfl rfl rfl ?_
  refine lh_putF4 rfl rfl hq' rfl rfl rfl rfl ?_
  refine lh_aload_n (q := 0) rfl rfl rfl ?_
  refine lh_aload_n (q := 2) rfl rfl rfl ?_
  refine lh_putF4 rfl rfl hq' rfl rfl rfl rfl ?_
  exact lh_vret rfl rfl hK
def f_LH_hall (a b a2 n : Nat) (I : lh_II) (L : lh_LL) : Option (Int32 × lh_II × lh_LL) :=
  lh_bd (f_Hr_readLines a2 n (lh_hrI I n) (lh_hrL L n)) fun r => if r.1 = 0 then lh_bd (f_Ha_settle a2 r.2.1) fun I2 => lh_bd (f_LH_beginAnew a2 b I2) fun I3 => some (r.1, I3, r.2.2) else some r
def lh_hallF (F : lh_FF) (n a a2 : Nat) (x : Int32) : lh_FF := if x = 0 then lh_swH (lh_hrF F n a2) a a2 else lh_hrF F n a2
theorem lh_ok.hr {F : lh_FF} {S : lh_SS} {a b a2 b2 n : Nat} (h : lh_ok F S a b a2 b2) (hl : S.length = n) (hn : 82 ≤ n) (a' : Nat) : lh_ok (lh_hrF F n a') (S ++ [(7, 0)] ++ [(1, 10)]) a b a2 b2 := by
  refine h.ext (fun o k ho => ?_) (fun k hk => ?_)
  · unfold lh_hrF
    rw [lh_f2o _ _ (by omega), lh_f2o _ _ (by omega), lh_f2o _ _ (by omega)]
    unfold lh_zr
    rw [if_neg (by omega), if_neg (by omega)]
  · rw [List.append_assoc, List.getElem?_append_left (by omega)]
theorem lh_hrq {F : lh_FF} {S : lh_SS} {n a : Nat} (hl : S.length = n) : lh_ql (lh_hrF F n a) (S ++ [(7, 0)] ++ [(1, 10)]) n a := by
  refine ⟨?_, ?_, ?_, ?_, ?_⟩
  · rw [List.append_assoc, List.getElem?_append_right (by omega), hl, Nat.sub_self]; rfl
  · rw [List.append_assoc, List.getElem?_append_right (by omega), hl, Nat.add_sub_cancel_left]; rfl
  · unfold lh_hrF
    rw [lh_f2o _ _ (by omega), lh_f2s]
  · unfold lh_hrF
    rw [lh_f2s]
  · unfold lh_hrF
    rw [lh_f2o _ _ (by omega), lh_f2o _ _ (by omega), lh_f2s]
theorem t_LH_hall {Γ : lh_Cx} {I : lh_II} {L : lh_LL} {F : lh_FF} {S : lh_SS} {K : Int32 → lh_Hp → Prop} {a b a2 b2 n : Nat} {r : Int32 × lh_II × lh_LL} (hG : lh_GX Γ) (hO : lh_ok F S a b a2 b2) (hl : S.length = n) (hn : 82 ≤ n) (hf : f_LH_hall a b a2 n I L = some r)
    (hK : K r.1 (r.2.1, r.2.2, lh_hallF F n a a2 r.1, S ++ [(7, 0)] ++ [(1, 10)])) : lh_Met Γ m_LH_hall 63 2 15 [.ref (0 + 4)] (I, L, F, S) (lh_ki K) := by
  have hS1 : ∀ k, k < 82 → (S ++ [(7, 0)])[k]? = S[k]? := fun k hk => List.getElem?_append_left (by omega)
  have hO1 : lh_ok (lh_zr 0 n F) (S ++ [(7, 0)]) a b a2 b2 := hO.ext (fun o k ho => by unfold lh_zr; rw [if_neg (by omega)]) hS1
  have hO2 := hO.hr hl hn a2
  have hq := lh_hrq (F := F) (a := a2) hl
  rw [f_LH_hall] at hf
  refine lh_ofG k_LH_hall [(0, .ref (0 + 4))] rfl (Nat.le_of_ble_eq_true rfl) rfl ?_
  refine lh_new (ci := 1) (N := 5) (bc := 1) (bs := 10) rfl rfl rfl ?_
  have e : lh_al (I, L, F, S) (1 + 6, 0) = (lh_zr 0 n I, lh_zr 0 n L, lh_zr 0 n F, S ++ [(7, 0)]) := by
    show ((fun a i => if a = S.length + 4 then 0 else I a i), (fun a i => if a = S.length + 4 then 0 else L a i), (fun a i => if a = S.length + 4 then 0 else F a i), S ++ [(7, 0)]) = _
    rw [hl]; rfl
  rw [e]
  show lh_G Γ m_LH_hall _ _ 1 10 1 _ [.ref (S.length + 4)] _
  rw [hl]
  refine lh_dup rfl rfl ?_
  refine lh_aload_n (q := 0) rfl rfl rfl ?_
  refine lh_getR4 (x := 1) rfl rfl (hO1.1.1 0 _ rfl) rfl (hO1.1.2 8 _ rfl) ?_
  refine lh_aload_n (q := 0) rfl rfl rfl ?_
  refine lh_getR4 (x := a2) rfl rfl (hO1.1.1 0 _ rfl) rfl hO1.2.2.2.2.2.2.2.1 ?_
  refine lh_cIv (N := m_Hr_init) (d := 1) (mc := 1) (ms := 10) (bc := 0) (bs := 0) (As := [.ref (1 + 4), .ref (a2 + 4)]) (st := [.ref (n + 4)]) rfl rfl v_Hr_init rfl rfl ⟨rfl, rfl⟩ rfl (tc_Hr_init (by rw [List.getElem?_append_right (by omega), hl, Nat.sub_self]; rfl) (by simp [hl]) ?_)
  refine lh_bdE hf (fun r1 e1 hf => ?_)
  refine lh_cVi (N := m_Hr_readLines) (d := 61) (o := n) (As := []) (st := []) rfl rfl v_Hr_readLines hq.1 rfl rfl rfl ⟨rfl, rfl⟩ rfl (t_Hr_readLines hG hO2.1 hO2.2.2.2.1 hq e1 ?_)
  refine lh_istore_n (lv' := [(0, .ref (0 + 4)), (1, .int r1.1)]) rfl rfl rfl rfl ?_
  refine lh_iload_n (q := 1) rfl rfl rfl ?_
  refine lh_if_ne rfl (fun c => ?_) (fun c => ?_)
  · have hf := lh_ifF hf c
    obtain rfl := Option.some.inj hf
    refine lh_iload_n (q := 1) rfl rfl rfl ?_
    refine lh_iret rfl rfl rfl ?_
    unfold lh_hallF at hK
    rw [if_neg c] at hK
    exact hK
  · have hf := lh_ifT hf c
    refine lh_aload_n (q := 0) rfl rfl rfl ?_
    refine lh_getR4 (x := a) rfl rfl (hO2.1.1 0 _ rfl) rfl hO2.2.2.2.2.2.2.1 ?_
    refine lh_astore_n (lv' := [(0, .ref (0 + 4)), (1, .int r1.1), (2, .ref (a + 4))]) rfl rfl rfl rfl ?_
    refine lh_aload_n (q := 0) rfl rfl rfl ?_
    refine lh_aload_n (q := 0) rfl rfl rfl ?_
    refine lh_getR4 (x := a2) rfl rfl (hO2.1.1 0 _ rfl) rfl hO2.2.2.2.2.2.2.2.1 ?_
    refine lh_putR4 rfl rfl (hO2.1.1 0 _ rfl) rfl rfl ?_
    refine lh_aload_n (q := 0) rfl rfl rfl ?_
    refine lh_aload_n (q := 2) rfl rfl rfl ?_
    refine lh_putR4 rfl rfl (hO2.1.1 0 _ rfl) rfl rfl ?_
    have hO3 := hO2.swH
    refine lh_aload_n (q := 0) rfl rfl rfl ?_
    refine lh_getR4 (x := a2) rfl rfl (hO3.1.1 0 _ rfl) rfl hO3.2.2.2.2.2.2.1 ?_
    refine lh_bdE hf (fun r2 e2 hf => ?_)
    refine lh_cVv (N := m_Ha_settle) (d := 3) (o := a2) (As := []) (st := []) rfl rfl v_Ha_settle (hO3.2.2.1.1 0 _ rfl) rfl rfl rfl ⟨rfl, rfl⟩ rfl (t_Ha_settle hG hO3.1 hO3.2.2.1 e2 ?_)
    refine lh_aload_n (q := 0) rfl rfl rfl ?_
    refine lh_bdE hf (fun r3 e3 hf => ?_)
    refine lh_cVv (N := m_LH_beginAnew) (d := 1) (o := 0) (As := []) (st := []) rfl rfl v_LH_beginAnew (hO3.1.1 0 _ rfl) rfl rfl rfl ⟨rfl, rfl⟩ rfl (t_LH_beginAnew hG hO3.1 hO3.2.2.1 hO3.2.2.2.2.2.2.1 hO3.2.2.2.2.1 hO3.2.2.2.2.2.2.2.2.1 e3 ?_)
    obtain rfl := Option.some.inj hf
    refine lh_iload_n (q := 1) rfl rfl rfl ?_
    refine lh_iret rfl rfl rfl ?_
    unfold lh_hallF at hK
    rw [if_pos (show r1.1 = 0 from c)] at hK
    exact hK
def f_LH_night (b2 : Nat) (I : lh_II) (L : lh_LL) : Option (Int32 × lh_II × lh_LL) := f_Ni_readLines b2 I L
def lh_nightF (F : lh_FF) (b b2 : Nat) (x : Int32) : lh_FF := if x = 0 then lh_swN F b b2 else F
theorem t_LH_night {Γ : lh_Cx} {I : lh_II} {L : lh_LL} {F : lh_FF} {S : lh_SS} {K : Int32 → lh_Hp → Prop} {a b a2 b2 : Nat} {r : Int32 × lh_II × lh_LL} (hG : lh_GX Γ) (hO : lh_ok F S a b a2 b2) (hf : f_LH_night b2 I L = some r)
    (hK : K r.1 (r.2.1, r.2.2, lh_nightF F b b2 r.1, S)) : lh_Met Γ m_LH_night 7 0 0 [.ref (0 + 4)] (I, L, F, S) (lh_ki K) := by
  rw [f_LH_night] at hf
  refine lh_ofG k_LH_night [(0, .ref (0 + 4))] rfl (Nat.le_of_ble_eq_true rfl) rfl ?_
  refine lh_aload_n (q := 0) rfl rfl rfl ?_
  refine lh_getR4 (x := b2) rfl rfl (hO.1.1 0 _ rfl) rfl hO.2.2.2.2.2.2.2.2.2.1 ?_
  refine lh_aload_n (q := 0) rfl rfl rfl ?_
  refine lh_getR4 (x := 1) rfl rfl (hO.1.1 0 _ rfl) rfl (hO.1.2 8 _ rfl) ?_
  refine lh_cVi (N := m_Ni_readLines) (d := 6) (o := b2) (As := [.ref (1 + 4)]) (st := []) rfl rfl v_Ni_readLines (hO.2.2.2.2.2.1.1 0 _ rfl) rfl rfl rfl ⟨rfl, rfl⟩ rfl (t_Ni_readLines hG hO.1 hO.2.2.2.2.2.1 hf ?_)
  refine lh_istore_n (lv' := [(0, .ref (0 + 4)), (1, .int r.1)]) rfl rfl rfl rfl ?_
  refine lh_iload_n (q := 1) rfl rfl rfl ?_
  refine lh_if_ne rfl (fun c => ?_) (fun c => ?_)
  · refine lh_iload_n (q := 1) rfl rfl rfl ?_
    refine lh_iret rfl rfl rfl ?_
    unfold lh_nightF at hK
    rw [if_neg c] at hK
    exact hK
  · refine lh_aload_n (q := 0) rfl rfl rfl ?_
    refine lh_getR4 (x := b) rfl rfl (hO.1.1 0 _ rfl) rfl hO.2.2.2.2.2.2.2.2.1 ?_
    refine lh_astore_n (lv' := [(0, .ref (0 + 4)), (1, .int r.1), (2, .ref (b + 4))]) rfl rfl rfl rfl ?_
    refine lh_aload_n (q := 0) rfl rfl rfl ?_
    refine lh_aload_n (q := 0) rfl rfl rfl ?_
    refine lh_getR4 (x := b2) rfl rfl (hO.1.1 0 _ rfl) rfl hO.2.2.2.2.2.2.2.2.2.1 ?_
    refine lh_putR4 rfl rfl (hO.1.1 0 _ rfl) rfl rfl ?_
    refine lh_aload_n (q := 0) rfl rfl rfl ?_
    refine lh_aload_n (q := 2) rfl rfl rfl ?_
    refine lh_putR4 rfl rfl (hO.1.1 0 _ rfl) rfl rfl ?_
    refine lh_iload_n (q := 1) rfl rfl rfl ?_
    refine lh_iret rfl rfl rfl ?_
    unfold lh_nightF at hK
    rw [if_pos (show r.1 = 0 from c)] at hK
    exact hK
