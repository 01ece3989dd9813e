section LHSTAT
variable {Γ : lh_Cx} {M : lh_M} {R : Room} {Z : List Frame → Array Value → State → State → Prop} {bc bs j pc j' t : Nat} {lv : List (Nat × Value)} {st : List Value} {h : lh_Hp} {I : lh_II} {L : lh_LL} {F : lh_FF} {S : lh_SS}
/-- Walks.SETS_WITH: the row of six longs -/
theorem lh_gsets (hG : lh_GX Γ) (hj : (lh_is M)[j]? = some (pc, .getstatic 84, 3, j', t)) (hcn : (lh_ct M).1 = "LanternHall$Walks") (k : lh_G Γ M R Z bc bs j' lv (.ref 1 :: st) h) : lh_G Γ M R Z bc bs j lv st h := by
  intro hM p e s m args below meth c ls H locs cells slots C hz hR hl hc hs
  obtain ⟨hd, hn⟩ := lh_fetch hM hj rfl
  have hk := k hM p e s m args below meth c ls H locs cells slots C hz hR hl hc hs
  rw [hn] at hk
  obtain ⟨hx, hb, -, -, hown, hts, -, -, hK, hS0⟩ := C
  have hX := hG s hK.2.2.2.1
  have hw : Cond.fieldLink "LanternHall$Walks" 84 "LanternHall$Walks" "SETS_WITH" "[J" ∈ lh_T := lh_mem_T (by decide +kernel)
  rw [hcn] at hown
  exact va_gets hx hb (hX.2.1.kept (fun a h1 h2 => hS0.2.1 a h1 h2)) (lh_sz hS0 hR.1 hz) hown (hts _ hw) (fun _ h => h) hd hk
theorem lh_lsets {i : Int32} (hG : lh_GX Γ) (hj : (lh_is M)[j]? = some (pc, .laload, 1, j', t)) (hin : lh_ix i 6 = true)
    (k : lh_G Γ M R Z bc bs j' lv (.long (lh_sets i.toNatClampNeg) :: st) h) : lh_G Γ M R Z bc bs j lv (.int i :: .ref 1 :: st) h := by
  intro hM p e s m args below meth c ls H locs cells slots C hz hR hl hc hs
  obtain ⟨hd, hn⟩ := lh_fetch hM hj rfl
  have hk := k hM p e s m args below meth c ls H locs cells slots C hz hR hl hc hs
  rw [hn] at hk
  obtain ⟨hx, hb, -, -, hown, hts, -, -, hK, hS0⟩ := C
  have hX := hG s hK.2.2.2.1
  exact va_tl hx hb (hX.2.2.1.kept (fun a h1 h2 => hS0.2.1 a h1 h2)) (lh_sz hS0 hR.1 hz) (lh_ix_in hin) rfl hd hk
/-- System.arraycopy of a whole row of longs -/
def lh_cp (L : lh_LL) (o1 o2 n : Nat) : lh_LL := fun a i => if a = o2 then (if i < n then L o1 i else L a i) else L a i
theorem lh_acopy {o1 o2 n idx i : Nat} {k : Int32} (hj : (lh_is M)[j]? = some (pc, .invokestatic idx, 3, j', i)) (hl : ((lh_ct M).2.2.1)[i]? = some (idx, arraycopyName)) (h1 : S[o1]? = some (1, n)) (h2 : S[o2]? = some (1, n)) (hk0 : k.toNatClampNeg = n) (hk1 : ¬ k < 0) (hne : o1 ≠ o2)
    (hd : Nat.ble 1 R.frames = true ∧ Nat.ble 64 R.locals = true) (hst : Nat.ble ((st.map fun v => v.category).sum) 8 = true)
    (kk : lh_G Γ M R Z bc bs j' lv st (I, lh_cp L (o1 + 4) (o2 + 4) n, F, S)) : lh_G Γ M R Z bc bs j lv (.int k :: .int 0 :: .ref (o2 + 4) :: .int 0 :: .ref (o1 + 4) :: st) (I, L, F, S) := by
  intro hM p e s m args below meth c ls H locs cells slots C hz hR hv hc hs
  obtain ⟨hdc, hn⟩ := lh_fetch hM hj rfl
  have C' := C
  obtain ⟨hx, hb, -, hml, hown, hts, -, -, hK, hS0⟩ := C
  have hd1 := Nat.le_of_ble_eq_true hd.1
  have hd2 := Nat.le_of_ble_eq_true hd.2
  have hst' := Nat.le_of_ble_eq_true hst
  have hc0 : H[(lh_H0 Γ).size + o1]? = some (arrV (lh_cA Γ 1) n (fun q => .long (L (o1 + 4) q))) := hR.2.2 o1 _ h1
  have hc1 : H[(lh_H0 Γ).size + o2]? = some (arrV (lh_cA Γ 1) n (fun q => .long (L (o2 + 4) q))) := hR.2.2 o2 _ h2
  obtain ⟨-, k0, hk0', cm0, hkk0⟩ := (hK.1.2 1 _ rfl).1 n (fun q => .long (L (o1 + 4) q))
  have w1 : Cond.native arraycopyName ∈ lh_T := lh_mem_T (by decide +kernel)
  have w2 : Cond.static arraycopyName ∈ lh_T := lh_mem_T (by decide +kernel)
  have w3 : Cond.initialized "java/lang/System" ∈ lh_T := lh_mem_T (by decide +kernel)
  have hkn : k.toInt = (n : Int) := by
    rw [← hk0]
    have hz0 : (0 : Int) ≤ k.toInt := by
      have := Int32.not_lt.mp hk1
      simpa using Int32.le_iff_toInt_le.mp this
    show k.toInt = ((k.toInt.toNat : Nat) : Int)
    omega
  have hnw : nativeFrameWords "java/lang/System" "arraycopy" 5 ≤ 40 := by decide +kernel
  intro T hT X
  obtain ⟨vm', X', step⟩ := X.arraycopy hx hown (hts _ (lh_link hM hl)) (hts _ w1) (hts _ w2) (hts _ w3) (src := (lh_H0 Γ).size + o1) (dst := (lh_H0 Γ).size + o2) (cs := arrV (lh_cA Γ 1) n (fun q => .long (L (o1 + 4) q))) (cd := arrV (lh_cA Γ 1) n (fun q => .long (L (o2 + 4) q))) (srcPos := 0) (destPos := 0) (n := k)
    (by rw [hT]; exact hc0) (by rw [hT]; exact hc1) (fun _ h => by cases h) (fun _ h => by cases h) (fun h => by cases h) (fun h => by cases h) hk0' hk0' hkk0 hkk0 rfl (by decide) (by decide) hk1
    (by rw [arrV_size, hkn]; simp) (by rw [arrV_size, hkn]; simp)
    (fun vm₁ _ q hq => by
      have e1 : (arrV (lh_cA Γ 1) n (fun q => Value.long (L (o1 + 4) q))).slots.getD ((0 : Int32).toNatClampNeg + q) .null = .long (L (o1 + 4) q) := by
        rw [Array.getD_eq_getD_getElem?, show (0 : Int32).toNatClampNeg + q = q by simp, arrV_read _ _ (by omega)]
        rfl
      rw [e1]
      exact ⟨rfl, trivial⟩)
    (g := F0 m (lh_pc (lh_is M) j) ls (.int k :: .int 0 :: .ref ((lh_H0 Γ).size + o2) :: .int 0 :: .ref ((lh_H0 Γ).size + o1) :: st.map (lh_tr Γ))) rfl (by rw [hml]; exact hv.1) (rest := st.map (lh_tr Γ)) rfl (by rw [hb]; exact hdc) hd1 (by rw [lh_tr_sum]; show 2 * 0 + _ + _ ≤ _; omega)
  have e1 : copied (arrV (lh_cA Γ 1) n (fun q => Value.long (L (o1 + 4) q))) (arrV (lh_cA Γ 1) n (fun q => Value.long (L (o2 + 4) q))) 0 0 k = arrV (lh_cA Γ 1) n (fun q => .long (lh_cp L (o1 + 4) (o2 + 4) n (o2 + 4) q)) := by
    have e2 := va_copied (sp := (0 : Int32).toNatClampNeg) (dp := (0 : Int32).toNatClampNeg) (n := k.toNatClampNeg) (n1 := n) (fun z => Value.long z) (lh_cA Γ 1) (lh_cA Γ 1) (n0 := n) (L (o1 + 4)) (L (o2 + 4)) (by simp; omega)
    refine Eq.trans e2 ?_
    congr 1
    funext q
    simp only [va_cpy, lh_cp, if_pos, hk0]
    simp
  rw [e1] at X' step
  have hlt : (lh_H0 Γ).size + o2 < H.size := (Array.getElem?_eq_some_iff.mp hc1).1
  generalize hcell : arrV (lh_cA Γ 1) n (fun q => Value.long (lh_cp L (o1 + 4) (o2 + 4) n (o2 + 4) q)) = cell' at X' step
  have hheap : ((T.setVm vm').setCell ((lh_H0 Γ).size + o2) cell').heap = H.setIfInBounds ((lh_H0 Γ).size + o2) cell' := by rw [← hT]; rfl
  have hR1 : lh_Rel Γ (I, lh_cp L (o1 + 4) (o2 + 4) n, F, S) (H.setIfInBounds ((lh_H0 Γ).size + o2) cell') (locs ++ [⟨(lh_H0 Γ).size + o2, 0⟩]) := by
    refine hR.set (h' := (I, lh_cp L (o1 + 4) (o2 + 4) n, F, S)) h2 rfl (fun _ _ => rfl) (fun a ha => ?_) (fun _ _ => rfl) ?_ (by simp) (fun x hx => by simp [Array.getElem?_setIfInBounds, Ne.symm hx])
    · funext q
      simp only [lh_cp, if_neg ha]
    · show (H.setIfInBounds ((lh_H0 Γ).size + o2) cell')[(lh_H0 Γ).size + o2]? = _
      rw [← hcell]
      simp [Array.getElem?_setIfInBounds, hlt]
  have hk := kk hM p e s m args below meth c ls _ (locs ++ ((arrV (lh_cA Γ 1) n (fun q => Value.long (L (o1 + 4) q))).stretch (0 : Int32).toNatClampNeg k.toNatClampNeg).zipIdx.map fun q => ⟨(lh_H0 Γ).size + o2, (0 : Int32).toNatClampNeg + q.2⟩) cells slots C' (by simp; exact hz) ⟨⟨hR1.1.1, hR1.1.2.1, fun l hl => by
      rcases List.mem_append.mp hl with h9 | h9
      · exact hR.1.2.2 l h9
      · obtain ⟨z, -, hz9⟩ := List.mem_map.mp h9
        rw [← hz9]
        exact Nat.le_add_right _ _⟩, hR1.2⟩ hv hc hs
  rw [hn] at hk
  obtain ⟨t2, a1, b1⟩ := hk _ hheap X'
  exact ⟨t2, step t2 a1, b1⟩
/-- the strings: the text's own cell is one of the special ones -/
theorem lh_ldcG (hG : lh_GX Γ) (hj : (lh_is M)[j]? = some (pc, .ldc 79, 2, j', t)) (hcn : (lh_ct M).1 = "LanternHall$Reader") (k : lh_G Γ M R Z bc bs j' lv (.ref 3 :: st) h) : lh_G Γ M R Z bc bs j lv st h := by
  intro hM p e s m args below meth c ls H locs cells slots C hz hR hl hc hs
  obtain ⟨hd, hn⟩ := lh_fetch hM hj rfl
  have hk := k hM p e s m args below meth c ls H locs cells slots C hz hR hl hc hs
  rw [hn] at hk
  have hX := hG s C.2.2.2.2.2.2.2.2.1.2.2.2.1
  have hown := C.2.2.2.2.1
  rw [hcn] at hown
  exact va_ldcS C.1 C.2.1 hown hX.2.2.2.2.1 hd hk
theorem lh_ldcW (hG : lh_GX Γ) (hj : (lh_is M)[j]? = some (pc, .ldc 42, 2, j', t)) (hcn : (lh_ct M).1 = "LanternHall$Reader") (k : lh_G Γ M R Z bc bs j' lv (.ref 2 :: st) h) : lh_G Γ M R Z bc bs j lv st h := by
  intro hM p e s m args below meth c ls H locs cells slots C hz hR hl hc hs
  obtain ⟨hd, hn⟩ := lh_fetch hM hj rfl
  have hk := k hM p e s m args below meth c ls H locs cells slots C hz hR hl hc hs
  rw [hn] at hk
  have hX := hG s C.2.2.2.2.2.2.2.2.1.2.2.2.1
  have hown := C.2.2.2.2.1
  rw [hcn] at hown
  exact va_ldcS C.1 C.2.1 hown hX.2.2.2.1 hd hk
theorem lh_i2b {x : Int32} (hj : (lh_is M)[j]? = some (pc, .i2b, 1, j', t)) (k : lh_G Γ M R Z bc bs j' lv (.int x.toInt8.toInt32 :: st) h) : lh_G Γ M R Z bc bs j lv (.int x :: st) h := by
  intro hM p e s m args below meth c ls H locs cells slots C hz hR hl hc hs
  obtain ⟨hd, hn⟩ := lh_fetch hM hj rfl
  have hk := k hM p e s m args below meth c ls H locs cells slots C hz hR hl hc hs
  rw [hn] at hk
  exact lv_i2b C.1 C.2.1 hd rfl hk
end LHSTAT
/-! inside String's own methods: the place 1 is the text's row of bytes -/
def lh_gs (Γ : lh_Cx) (i : Nat) : lh_Cx := (Γ.1, Γ.2.1, Γ.2.2.1, Γ.2.2.2.1, Γ.2.2.2.2.1, Γ.2.2.2.2.2.1, (fun k => if k = 1 then lh_sp Γ (4 + i) else lh_sp Γ k), lh_X Γ)
section LHSTR
variable {Γ : lh_Cx} {M : lh_M} {R : Room} {Z : List Frame → Array Value → State → State → Prop} {bc bs j pc j' t i : Nat} {lv : List (Nat × Value)} {st : List Value} {h : lh_Hp}
theorem lh_aloads_n {n : Fin 4} {q l a : Nat} (hj : (lh_is M)[j]? = some (pc, .aload_n n, 1, j', t)) (hi : (n : Nat) = l) (hv : lv[q]? = some (l, .ref a)) (k : lh_G Γ M R Z bc bs j' lv (.ref a :: st) h) : lh_G Γ M R Z bc bs j lv st h := lh_aload_n hj hi hv k
theorem lh_gsA : lh_A (lh_gs Γ i) = lh_A Γ := rfl
theorem lh_strS (hG : lh_GX Γ) {s : State} (hK : lh_KU (lh_gs Γ i) s) (hi : i < 2) : va_O "java/lang/String" (lh_sp Γ (2 + i)) (lh_A Γ) s (lh_H0 Γ) ∧ va_OF "java/lang/String" "coder" "B" (.int 0) (lh_sp Γ (2 + i)) (lh_A Γ) s (lh_H0 Γ) ∧ va_OF "java/lang/String" "value" "[B" (.ref (lh_sp Γ (4 + i))) (lh_sp Γ (2 + i)) (lh_A Γ) s (lh_H0 Γ) ∧ va_T .byte (lh_sp Γ (4 + i)) (lh_strl.getD i 0) (fun j => .int ((lh_byt.getD i []).getD j 0)) (lh_A Γ) s (lh_H0 Γ) :=
  (hG s hK.2.2.2.1).2.2.2.2.2.1.1 i hi
theorem lh_ad2 (hi : i < 2) : lh_ad (lh_gs Γ i) (2 + i) = lh_sp Γ (2 + i) := by
  match i, hi with
  | 0, _ => rfl
  | 1, _ => rfl
/-- getfield value, coder -/
theorem lh_sgV (hG : lh_GX Γ) (hi : i < 2) (hj : (lh_is M)[j]? = some (pc, .getfield 9, 3, j', t)) (hcn : (lh_ct M).1 = "java/lang/String") (k : lh_G (lh_gs Γ i) M R Z bc bs j' lv (.ref 1 :: st) h) : lh_G (lh_gs Γ i) M R Z bc bs j lv (.ref (2 + i) :: st) h := by
  intro hM p e s m args below meth c ls H locs cells slots C hz hR hl hc hs
  obtain ⟨hd, hn⟩ := lh_fetch hM hj rfl
  have hk := k hM p e s m args below meth c ls H locs cells slots C hz hR hl hc hs
  rw [hn] at hk
  obtain ⟨hx, hb, -, -, hown, hts, -, -, hK, hS0⟩ := C
  have hX := lh_strS hG hK hi
  have hw : Cond.fieldLink "java/lang/String" 9 "java/lang/String" "value" "[B" ∈ lh_T := lh_mem_T (by decide +kernel)
  rw [hcn] at hown
  show W _ _ _ _ _ _ _ _ _ _ _ _ _ _ _ (F0 m (lh_pc (lh_is M) j) ls (.ref (lh_ad (lh_gs Γ i) (2 + i)) :: st.map _))
  rw [lh_ad2 hi]
  exact vk_getf hx hb (hX.2.2.1.kept (fun a h1 h2 => hS0.2.1 a h1 h2)) (lh_sz hS0 hR.1 hz) hown (hts _ hw) (fun _ h => h) hd hk
theorem lh_sgC (hG : lh_GX Γ) (hi : i < 2) (hj : (lh_is M)[j]? = some (pc, .getfield 15, 3, j', t)) (hcn : (lh_ct M).1 = "java/lang/String") (k : lh_G (lh_gs Γ i) M R Z bc bs j' lv (.int 0 :: st) h) : lh_G (lh_gs Γ i) M R Z bc bs j lv (.ref (2 + i) :: st) h := by
  intro hM p e s m args below meth c ls H locs cells slots C hz hR hl hc hs
  obtain ⟨hd, hn⟩ := lh_fetch hM hj rfl
  have hk := k hM p e s m args below meth c ls H locs cells slots C hz hR hl hc hs
  rw [hn] at hk
  obtain ⟨hx, hb, -, -, hown, hts, -, -, hK, hS0⟩ := C
  have hX := lh_strS hG hK hi
  have hw : Cond.fieldLink "java/lang/String" 15 "java/lang/String" "coder" "B" ∈ lh_T := lh_mem_T (by decide +kernel)
  rw [hcn] at hown
  show W _ _ _ _ _ _ _ _ _ _ _ _ _ _ _ (F0 m (lh_pc (lh_is M) j) ls (.ref (lh_ad (lh_gs Γ i) (2 + i)) :: st.map _))
  rw [lh_ad2 hi]
  exact vk_getf hx hb (hX.2.1.kept (fun a h1 h2 => hS0.2.1 a h1 h2)) (lh_sz hS0 hR.1 hz) hown (hts _ hw) (fun _ h => h) hd hk
theorem lh_gcs (hG : lh_GX Γ) (hj : (lh_is M)[j]? = some (pc, .getstatic 38, 3, j', t)) (hcn : (lh_ct M).1 = "java/lang/String") (k : lh_G (lh_gs Γ i) M R Z bc bs j' lv (.int 1 :: st) h) : lh_G (lh_gs Γ i) M R Z bc bs j lv st h := by
  intro hM p e s m args below meth c ls H locs cells slots C hz hR hl hc hs
  obtain ⟨hd, hn⟩ := lh_fetch hM hj rfl
  have hk := k hM p e s m args below meth c ls H locs cells slots C hz hR hl hc hs
  rw [hn] at hk
  obtain ⟨hx, hb, -, -, hown, hts, -, -, hK, hS0⟩ := C
  have hX := (hG s hK.2.2.2.1).2.2.2.2.2.2.1
  have hw : Cond.fieldLink "java/lang/String" 38 "java/lang/String" "COMPACT_STRINGS" "Z" ∈ lh_T := lh_mem_T (by decide +kernel)
  rw [hcn] at hown
  exact va_gets hx hb (hX.kept (fun a h1 h2 => hS0.2.1 a h1 h2)) (lh_sz hS0 hR.1 hz) hown (hts _ hw) (fun _ h => h) hd hk
theorem lh_sbl {x : Int32} (hG : lh_GX Γ) (hi : i < 2) (hj : (lh_is M)[j]? = some (pc, .baload, 1, j', t)) (hin : lh_ix x (lh_strl.getD i 0) = true)
    (k : lh_G (lh_gs Γ i) M R Z bc bs j' lv (.int ((lh_byt.getD i []).getD x.toNatClampNeg 0) :: st) h) : lh_G (lh_gs Γ i) M R Z bc bs j lv (.int x :: .ref 1 :: st) h := by
  intro hM p e s m args below meth c ls H locs cells slots C hz hR hl hc hs
  obtain ⟨hd, hn⟩ := lh_fetch hM hj rfl
  have hk := k hM p e s m args below meth c ls H locs cells slots C hz hR hl hc hs
  rw [hn] at hk
  obtain ⟨hx, hb, -, -, hown, hts, -, -, hK, hS0⟩ := C
  have hX := lh_strS hG hK hi
  exact va_tb hx hb (hX.2.2.2.kept (fun a h1 h2 => hS0.2.1 a h1 h2)) (lh_sz hS0 hR.1 hz) (lh_ix_in hin) rfl hd hk
theorem lh_sln (hG : lh_GX Γ) (hi : i < 2) (hj : (lh_is M)[j]? = some (pc, .arraylength, 1, j', t))
    (k : lh_G (lh_gs Γ i) M R Z bc bs j' lv (.int (nI (lh_strl.getD i 0)) :: st) h) : lh_G (lh_gs Γ i) M R Z bc bs j lv (.ref 1 :: st) h := by
  intro hM p e s m args below meth c ls H locs cells slots C hz hR hl hc hs
  obtain ⟨hd, hn⟩ := lh_fetch hM hj rfl
  have hk := k hM p e s m args below meth c ls H locs cells slots C hz hR hl hc hs
  rw [hn] at hk
  obtain ⟨hx, hb, -, -, hown, hts, -, -, hK, hS0⟩ := C
  have hX := lh_strS hG hK hi
  exact va_tlen hx hb (hX.2.2.2.kept (fun a h1 h2 => hS0.2.1 a h1 h2)) (lh_sz hS0 hR.1 hz) rfl hd hk
/-- a call on the text itself -/
theorem lh_invVs {N : lh_M} {d na idx q : Nat} {As sk : List Value} (hG : lh_GX Γ) (hi : i < 2) (hj : (lh_is M)[j]? = some (pc, .invokevirtual idx, 3, j', q)) (hl : ((lh_ct M).2.2.1)[q]? = some (idx, lh_y N)) (hN : lh_okV N na) (hcn : (lh_y N).cls = "java/lang/String")
    (hna : As.length = na) (hsk : As.reverse ++ .ref (2 + i) :: st = sk) (hd : Nat.ble (d + 1) R.frames = true ∧ Nat.ble (64 * (d + 1)) R.locals = true) (hst : Nat.ble ((st.map fun v => v.category).sum) 8 = true)
    (hm : lh_Met (lh_gs Γ i) N d 0 0 (.ref (2 + i) :: As) h (lh_ki fun x h' => lh_G (lh_gs Γ i) M R Z bc bs j' lv (.int x :: st) h')) : lh_G (lh_gs Γ i) M R Z bc bs j lv sk h := by
  intro hM p e s m args below meth c ls H locs cells slots C hz hR hv hc hs
  obtain ⟨hdc, hn⟩ := lh_fetch hM hj rfl
  have C' := C
  obtain ⟨hx, hb, -, hml, hown, hts, -, -, hK, hS0⟩ := C
  obtain ⟨⟨hNM, hcd⟩, hpl, hpa, hmx, w1, w2, w3⟩ := hN
  have hd1 := Nat.le_of_ble_eq_true hd.1
  have hd2 := Nat.le_of_ble_eq_true hd.2
  have hst' := Nat.le_of_ble_eq_true hst
  have cb := callB_of (Ts := lh_T) (own := (lh_ct M).1) (index := idx) (y := lh_y N) (R := R) (rm := lh_R d 0 0) (mc := 0) (ms := 0) na hts (lh_goodIn _ hcd) rfl rfl rfl (hts _ w3) (hts _ (lh_link hM hl)) ⟨hpl.1, hpl.2, hpa⟩ ⟨hd1, by show 8 + (lh_mx N + 11) + 64 * d ≤ R.locals; omega⟩
  obtain ⟨cell, q1, q2, q3, q4⟩ := ((lh_strS hG hK hi).1.kept (fun a h1 h2 => hR.1.2.1 a h1 h2) : va_O "java/lang/String" (lh_sp Γ (2 + i)) (lh_A Γ) s H)
  have hrun := va_runV (l := lh_l Γ) (e := e) (below := below) (meth := meth) (locs := locs) (cells := cells) (slots := slots) (cc := lh_bs M) (nL := lh_mx M) (b := lh_ad (lh_gs Γ i) (2 + i)) (As := As.map (lh_tr (lh_gs Γ i))) (rest := st.map (lh_tr (lh_gs Γ i))) (g := F0 m (lh_pc (lh_is M) j) ls (sk.map (lh_tr (lh_gs Γ i)))) ⟨hx, hb, hml, hown, hts⟩ hm ⟨cb, hts _ w1, hts _ w2⟩
    ⟨lh_blind _, ⟨cell, by rw [lh_ad2 hi]; exact q1, q2, by rw [hcn]; exact q3⟩, fun U hU hW => ⟨rfl, hK.warm hW, by rw [hU]; exact hR.nil⟩⟩ rfl (by rw [List.length_map]; exact hna) hv.1 (by rw [← hsk]; simp [List.map_reverse]; rfl) (by rw [lh_tr_sum]; show 2 * 0 + _ ≤ 8; omega) hdc ⟨by omega, by omega⟩
  refine lh_run hR hrun (fun r h' H1 locs1 hQ hR1 hz1 => ?_)
  match r, hQ with
  | some (.int x), hQ =>
    have hk := hQ hM p e s m args below meth c ls H1 locs1 (cells + 0) (slots + 0) C' (by omega) hR1 hv (by omega) (by omega)
    rw [hn] at hk
    exact hk
/-- out of String's methods again -/
theorem lh_gsOut {N : lh_M} {d : Nat} {as : List Value} {K : Int32 → lh_Hp → Prop} (ha : as.map (lh_tr (lh_gs Γ i)) = as.map (lh_tr Γ)) (hm : lh_Met (lh_gs Γ i) N d 0 0 as h (lh_ki K)) : lh_Met Γ N d 0 0 as h (lh_ki K) := by
  intro p e h1 h2 h3 s m args below h4 h5 h6 h7
  have h6' : lh_Pc (lh_gs Γ i) as h args s := ⟨by rw [ha]; exact h6.1, h6.2.1, h6.2.2⟩
  obtain ⟨n, o, a1, a2, a3, ⟨r, h', b1, b2, b3⟩, a5⟩ := hm p e h1 h2 h3 s m args below h4 h5 h6' h7
  refine ⟨n, o, a1, a2, a3, ⟨r, h', ?_, b2, b3⟩, a5⟩
  match r, b2 with
  | some (.int x), _ => exact b1
/-- the same call from where the text is one of the special cells -/
theorem lh_invVt {N : lh_M} {d na idx q : Nat} {As sk : List Value} (hG : lh_GX Γ) (hi : i < 2) (hj : (lh_is M)[j]? = some (pc, .invokevirtual idx, 3, j', q)) (hl : ((lh_ct M).2.2.1)[q]? = some (idx, lh_y N)) (hN : lh_okV N na) (hcn : (lh_y N).cls = "java/lang/String")
    (hna : As.length = na) (hsk : As.reverse ++ .ref (2 + i) :: st = sk) (hd : Nat.ble (d + 1) R.frames = true ∧ Nat.ble (64 * (d + 1)) R.locals = true) (hst : Nat.ble ((st.map fun v => v.category).sum) 8 = true)
    (hm : lh_Met Γ N d 0 0 (.ref (2 + i) :: As) h (lh_ki fun x h' => lh_G Γ M R Z bc bs j' lv (.int x :: st) h')) : lh_G Γ M R Z bc bs j lv sk h := by
  intro hM p e s m args below meth c ls H locs cells slots C hz hR hv hc hs
  obtain ⟨hdc, hn⟩ := lh_fetch hM hj rfl
  have C' := C
  obtain ⟨hx, hb, -, hml, hown, hts, -, -, hK, hS0⟩ := C
  obtain ⟨⟨hNM, hcd⟩, hpl, hpa, hmx, w1, w2, w3⟩ := hN
  have hd1 := Nat.le_of_ble_eq_true hd.1
  have hd2 := Nat.le_of_ble_eq_true hd.2
  have hst' := Nat.le_of_ble_eq_true hst
  have hA2 : lh_ad Γ (2 + i) = lh_sp Γ (2 + i) := by
    match i, hi with
    | 0, _ => rfl
    | 1, _ => rfl
  have cb := callB_of (Ts := lh_T) (own := (lh_ct M).1) (index := idx) (y := lh_y N) (R := R) (rm := lh_R d 0 0) (mc := 0) (ms := 0) na hts (lh_goodIn _ hcd) rfl rfl rfl (hts _ w3) (hts _ (lh_link hM hl)) ⟨hpl.1, hpl.2, hpa⟩ ⟨hd1, by show 8 + (lh_mx N + 11) + 64 * d ≤ R.locals; omega⟩
  obtain ⟨cell, q1, q2, q3, q4⟩ := ((((hG s hK.2.2.2.1).2.2.2.2.2.1.1 i hi).1).kept (fun a h1 h2 => hR.1.2.1 a h1 h2) : va_O "java/lang/String" (lh_sp Γ (2 + i)) (lh_A Γ) s H)
  have hrun := va_runV (l := lh_l Γ) (e := e) (below := below) (meth := meth) (locs := locs) (cells := cells) (slots := slots) (cc := lh_bs M) (nL := lh_mx M) (b := lh_ad Γ (2 + i)) (As := As.map (lh_tr Γ)) (rest := st.map (lh_tr Γ)) (g := F0 m (lh_pc (lh_is M) j) ls (sk.map (lh_tr Γ))) ⟨hx, hb, hml, hown, hts⟩ hm ⟨cb, hts _ w1, hts _ w2⟩
    ⟨lh_blind _, ⟨cell, by rw [hA2]; exact q1, q2, by rw [hcn]; exact q3⟩, fun U hU hW => ⟨rfl, hK.warm hW, by rw [hU]; exact hR.nil⟩⟩ rfl (by rw [List.length_map]; exact hna) hv.1 (by rw [← hsk]; simp [List.map_reverse]; rfl) (by rw [lh_tr_sum]; show 2 * 0 + _ ≤ 8; omega) hdc ⟨by omega, by omega⟩
  refine lh_run hR hrun (fun r h' H1 locs1 hQ hR1 hz1 => ?_)
  match r, hQ with
  | some (.int x), hQ =>
    have hk := hQ hM p e s m args below meth c ls H1 locs1 (cells + 0) (slots + 0) C' (by omega) hR1 hv (by omega) (by omega)
    rw [hn] at hk
    exact hk
end LHSTR
theorem lh_bD {d D : Nat} (h : d + 1 ≤ D + 11) : Nat.ble (d + 1) (lh_R (D + 11) 0 0).frames = true := Nat.ble_eq_true_of_le h
theorem lh_bL {d D : Nat} (h : d + 1 ≤ D + 11) : Nat.ble (64 * (d + 1)) (lh_R (D + 11) 0 0).locals = true := Nat.ble_eq_true_of_le (by show 64 * (d + 1) ≤ 64 * (D + 11); omega)
def lh_deep : Nat := 40
/-! the special places named otherwise -/
def lh_sw (Γ : lh_Cx) (f : Nat → Nat) : lh_Cx := (Γ.1, Γ.2.1, Γ.2.2.1, Γ.2.2.2.1, Γ.2.2.2.2.1, Γ.2.2.2.2.2.1, f, lh_X Γ)
theorem lh_swOut {Γ : lh_Cx} {f g : Nat → Nat} {N : lh_M} {d mc ms : Nat} {as : List Value} {h : lh_Hp} {Q : Option Value → lh_Hp → Prop} (h0 : f 0 = g 0) (ha : as.map (lh_tr (lh_sw Γ f)) = as.map (lh_tr (lh_sw Γ g))) (hq : ∀ r h', Q r h' → r.map (lh_tr (lh_sw Γ f)) = r.map (lh_tr (lh_sw Γ g)))
    (hm : lh_Met (lh_sw Γ f) N d mc ms as h Q) : lh_Met (lh_sw Γ g) N d mc ms as h Q := by
  intro p e h1 h2 h3 s m args below h4 h5 h6 h7
  have hku : lh_KU (lh_sw Γ g) s → lh_KU (lh_sw Γ f) s := by
    intro hk
    refine ⟨hk.1, ?_, ?_, hk.2.2.2⟩
    · have := hk.2.1
      show va_X (f 0) _ _ _ _
      rw [h0]
      exact this
    · have := hk.2.2.1
      show f 0 < _
      rw [h0]
      exact this
  have h6' : lh_Pc (lh_sw Γ f) as h args s := ⟨by rw [ha]; exact h6.1, hku h6.2.1, h6.2.2⟩
  obtain ⟨n, o, a1, a2, a3, ⟨r, h', b1, b2, b3⟩, a5⟩ := hm p e h1 h2 h3 s m args below h4 h5 h6' h7
  exact ⟨n, o, a1, a2, a3, ⟨r, h', by rw [← hq r h' b2]; exact b1, b2, b3⟩, a5⟩
section LHFMT
variable {Γ : lh_Cx} {M : lh_M} {R : Room} {Z : List Frame → Array Value → State → State → Prop} {bc bs j pc j' t : Nat} {lv : List (Nat × Value)} {st : List Value} {h : lh_Hp}
/-- Preconditions.SIOOBE_FORMATTER: null, or something at the place 1 -/
theorem lh_gfmt {f : Nat → Nat} {v : Value} (hG : lh_GX Γ) (hv : lh_tr (lh_sw Γ f) v = lh_fmt Γ) (hj : (lh_is M)[j]? = some (pc, .getstatic 1053, 3, j', t)) (hcn : (lh_ct M).1 = "java/lang/String") (k : lh_G (lh_sw Γ f) M R Z bc bs j' lv (v :: st) h) : lh_G (lh_sw Γ f) M R Z bc bs j lv st h := by
  intro hM p e s m args below meth c ls H locs cells slots C hz hR hl hc hs
  obtain ⟨hd, hn⟩ := lh_fetch hM hj rfl
  have hk := k hM p e s m args below meth c ls H locs cells slots C hz hR hl hc hs
  rw [hn, List.map_cons, hv] at hk
  obtain ⟨hx, hb, -, -, hown, hts, -, -, hK, hS0⟩ := C
  have hX := (hG s hK.2.2.2.1).2.2.2.2.2.2.2.2.1
  have hw : Cond.fieldLink "java/lang/String" 1053 "jdk/internal/util/Preconditions" "SIOOBE_FORMATTER" "Ljava/util/function/BiFunction;" ∈ lh_T := lh_mem_T (by decide +kernel)
  rw [hcn] at hown
  exact va_gets hx hb (hX.kept (fun a h1 h2 => hS0.2.1 a h1 h2)) (lh_sz hS0 hR.1 hz) hown (hts _ hw) (fun _ h => h) hd hk
end LHFMT
