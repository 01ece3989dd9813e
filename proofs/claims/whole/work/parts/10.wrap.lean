section LHWRAP
variable {Γ : lh_Cx} {M : lh_M} {R : Room} {Z : List Frame → Array Value → State → State → Prop} {bc bs j pc j' t : Nat} {lv : List (Nat × Value)} {st : List Value} {h : lh_Hp}
def lh_ki (K : Int32 → lh_Hp → Prop) : Option Value → lh_Hp → Prop := fun r h => match r with
  | some (.int x) => K x h
  | _ => False
def lh_kl (K : Int64 → lh_Hp → Prop) : Option Value → lh_Hp → Prop := fun r h => match r with
  | some (.long x) => K x h
  | _ => False
def lh_kv (K : lh_Hp → Prop) : Option Value → lh_Hp → Prop := fun r h => match r with
  | none => K h
  | _ => False
theorem lh_Met.mono {N : lh_M} {d mc ms : Nat} {as : List Value} {Q Q' : Option Value → lh_Hp → Prop} (hq : ∀ r h', Q r h' → Q' r h') (hm : lh_Met Γ N d mc ms as h Q) : lh_Met Γ N d mc ms as h Q' := by
  intro p e h1 h2 h3 s m args below h4 h5 h6 h7
  obtain ⟨n, o, a1, a2, a3, ⟨r, h', b1, b2, b3⟩, a5⟩ := hm p e h1 h2 h3 s m args below h4 h5 h6 h7
  exact ⟨n, o, a1, a2, a3, ⟨r, h', b1, hq r h' b2, b3⟩, a5⟩
theorem lh_kiG {P : Int32 → lh_Hp → Prop} {Q : Option Value → lh_Hp → Prop} (hq : ∀ x h', P x h' → Q (some (.int x)) h') : ∀ r h', lh_ki P r h' → Q r h' := by
  intro r h' hr
  match r, hr with
  | some (.int x), hr => exact hq x h' hr
theorem lh_klG {P : Int64 → lh_Hp → Prop} {Q : Option Value → lh_Hp → Prop} (hq : ∀ x h', P x h' → Q (some (.long x)) h') : ∀ r h', lh_kl P r h' → Q r h' := by
  intro r h' hr
  match r, hr with
  | some (.long x), hr => exact hq x h' hr
theorem lh_kvG {P : lh_Hp → Prop} {Q : Option Value → lh_Hp → Prop} (hq : ∀ h', P h' → Q none h') : ∀ r h', lh_kv P r h' → Q r h' := by
  intro r h' hr
  match r, hr with
  | none, hr => exact hq h' hr
theorem lh_cVi {N : lh_M} {d o n ci na idx i : Nat} {As sk : List Value} (hj : (lh_is M)[j]? = some (pc, .invokevirtual idx, 3, j', i)) (hl : ((lh_ct M).2.2.1)[i]? = some (idx, lh_y N)) (hN : lh_okV N na) (ho : h.2.2.2[o]? = some (ci + 6, n)) (hcn : (lh_cls[ci]?).map (fun r => r.1) = some (lh_y N).cls)
    (hna : As.length = na) (hsk : As.reverse ++ .ref (o + 4) :: st = sk) (hd : Nat.ble (d + 1) R.frames = true ∧ Nat.ble (64 * (d + 1)) R.locals = true) (hst : Nat.ble ((st.map fun v => v.category).sum) 8 = true)
    (hm : lh_Met Γ N d 0 0 (.ref (o + 4) :: As) h (lh_ki fun x h' => lh_G Γ M R Z bc bs j' lv (.int x :: st) h')) : lh_G Γ M R Z bc bs j lv sk h :=
  lh_invV (mc := 0) (ms := 0) hj hl hN ho hcn hna hsk hd hst (hm.mono (lh_kiG fun x h' hk => hk))
theorem lh_cSi {N : lh_M} {d na idx i : Nat} {As sk : List Value} (hj : (lh_is M)[j]? = some (pc, .invokestatic idx, 3, j', i)) (hl : ((lh_ct M).2.2.1)[i]? = some (idx, lh_y N)) (hN : lh_okS N na)
    (hna : As.length = na) (hsk : As.reverse ++ st = sk) (hd : Nat.ble (d + 1) R.frames = true ∧ Nat.ble (64 * (d + 1)) R.locals = true) (hst : Nat.ble ((st.map fun v => v.category).sum) 8 = true)
    (hm : lh_Met Γ N d 0 0 As h (lh_ki fun x h' => lh_G Γ M R Z bc bs j' lv (.int x :: st) h')) : lh_G Γ M R Z bc bs j lv sk h :=
  lh_invS (mc := 0) (ms := 0) hj hl hN hna hsk hd hst (hm.mono (lh_kiG fun x h' hk => hk))
theorem lh_cVl {N : lh_M} {d o n ci na idx i : Nat} {As sk : List Value} (hj : (lh_is M)[j]? = some (pc, .invokevirtual idx, 3, j', i)) (hl : ((lh_ct M).2.2.1)[i]? = some (idx, lh_y N)) (hN : lh_okV N na) (ho : h.2.2.2[o]? = some (ci + 6, n)) (hcn : (lh_cls[ci]?).map (fun r => r.1) = some (lh_y N).cls)
    (hna : As.length = na) (hsk : As.reverse ++ .ref (o + 4) :: st = sk) (hd : Nat.ble (d + 1) R.frames = true ∧ Nat.ble (64 * (d + 1)) R.locals = true) (hst : Nat.ble ((st.map fun v => v.category).sum) 8 = true)
    (hm : lh_Met Γ N d 0 0 (.ref (o + 4) :: As) h (lh_kl fun x h' => lh_G Γ M R Z bc bs j' lv (.long x :: st) h')) : lh_G Γ M R Z bc bs j lv sk h :=
  lh_invV (mc := 0) (ms := 0) hj hl hN ho hcn hna hsk hd hst (hm.mono (lh_klG fun x h' hk => hk))
theorem lh_cSl {N : lh_M} {d na idx i : Nat} {As sk : List Value} (hj : (lh_is M)[j]? = some (pc, .invokestatic idx, 3, j', i)) (hl : ((lh_ct M).2.2.1)[i]? = some (idx, lh_y N)) (hN : lh_okS N na)
    (hna : As.length = na) (hsk : As.reverse ++ st = sk) (hd : Nat.ble (d + 1) R.frames = true ∧ Nat.ble (64 * (d + 1)) R.locals = true) (hst : Nat.ble ((st.map fun v => v.category).sum) 8 = true)
    (hm : lh_Met Γ N d 0 0 As h (lh_kl fun x h' => lh_G Γ M R Z bc bs j' lv (.long x :: st) h')) : lh_G Γ M R Z bc bs j lv sk h :=
  lh_invS (mc := 0) (ms := 0) hj hl hN hna hsk hd hst (hm.mono (lh_klG fun x h' hk => hk))
theorem lh_cVv {N : lh_M} {d o n ci na idx i : Nat} {As sk : List Value} (hj : (lh_is M)[j]? = some (pc, .invokevirtual idx, 3, j', i)) (hl : ((lh_ct M).2.2.1)[i]? = some (idx, lh_y N)) (hN : lh_okV N na) (ho : h.2.2.2[o]? = some (ci + 6, n)) (hcn : (lh_cls[ci]?).map (fun r => r.1) = some (lh_y N).cls)
    (hna : As.length = na) (hsk : As.reverse ++ .ref (o + 4) :: st = sk) (hd : Nat.ble (d + 1) R.frames = true ∧ Nat.ble (64 * (d + 1)) R.locals = true) (hst : Nat.ble ((st.map fun v => v.category).sum) 8 = true)
    (hm : lh_Met Γ N d 0 0 (.ref (o + 4) :: As) h (lh_kv fun h' => lh_G Γ M R Z bc bs j' lv (st) h')) : lh_G Γ M R Z bc bs j lv sk h :=
  lh_invV (mc := 0) (ms := 0) hj hl hN ho hcn hna hsk hd hst (hm.mono (lh_kvG fun h' hk => hk))
theorem lh_cSv {N : lh_M} {d na idx i : Nat} {As sk : List Value} (hj : (lh_is M)[j]? = some (pc, .invokestatic idx, 3, j', i)) (hl : ((lh_ct M).2.2.1)[i]? = some (idx, lh_y N)) (hN : lh_okS N na)
    (hna : As.length = na) (hsk : As.reverse ++ st = sk) (hd : Nat.ble (d + 1) R.frames = true ∧ Nat.ble (64 * (d + 1)) R.locals = true) (hst : Nat.ble ((st.map fun v => v.category).sum) 8 = true)
    (hm : lh_Met Γ N d 0 0 As h (lh_kv fun h' => lh_G Γ M R Z bc bs j' lv (st) h')) : lh_G Γ M R Z bc bs j lv sk h :=
  lh_invS (mc := 0) (ms := 0) hj hl hN hna hsk hd hst (hm.mono (lh_kvG fun h' hk => hk))
theorem lh_cSNi {N : lh_M} {d na idx : Nat} {host : String} {As sk : List Value} (hj : (lh_is M)[j]? = some (pc, .invokestatic idx, 3, j', t)) (hX : ∀ U, lh_X Γ U → va_Nw (.methodLinkNest (lh_ct M).1 idx (lh_y N) host) U) (hN : lh_okS N na)
    (hna : As.length = na) (hsk : As.reverse ++ st = sk) (hd : Nat.ble (d + 1) R.frames = true ∧ Nat.ble (64 * (d + 1)) R.locals = true) (hst : Nat.ble ((st.map fun v => v.category).sum) 8 = true)
    (hm : lh_Met Γ N d 0 0 As h (lh_ki fun x h' => lh_G Γ M R Z bc bs j' lv (.int x :: st) h')) : lh_G Γ M R Z bc bs j lv sk h :=
  lh_invSN (mc := 0) (ms := 0) hj hX hN hna hsk hd hst (hm.mono (lh_kiG fun x h' hk => hk))
/-- reads at known places -/
theorem lh_getIv {o n i idx ci k : Nat} {v : Int32} (hj : (lh_is M)[j]? = some (pc, .getfield idx, 3, j', i)) (hf : ((lh_ct M).2.1)[i]? = some (idx, ci, k)) (ho : h.2.2.2[o]? = some (ci + 6, n)) (ht : lh_tag ci k = 0) (hv : h.1 (o + 4) k = v)
    (kk : lh_G Γ M R Z bc bs j' lv (.int v :: st) h) : lh_G Γ M R Z bc bs j lv (.ref (o + 4) :: st) h := lh_getI hj hf ho ht (by rw [hv]; exact kk)
theorem lh_ixN {i : Int32} {k n : Nat} (hi : i = nI k) (hk : k < n) (hn : Nat.ble n 2000000000 = true) : vp_in i n ∧ i.toNatClampNeg = k := by
  have hn' := Nat.le_of_ble_eq_true hn
  rw [hi]
  exact ⟨vp_in_nI hk (by omega), nI_clamp (by omega)⟩
theorem lh_ialoadN {o n k : Nat} {i v : Int32} (hj : (lh_is M)[j]? = some (pc, .iaload, 1, j', t)) (ho : h.2.2.2[o]? = some (0, n)) (hi : i = nI k) (hk : k < n) (hn : Nat.ble n 2000000000 = true) (hv : h.1 (o + 4) k = v)
    (kk : lh_G Γ M R Z bc bs j' lv (.int v :: st) h) : lh_G Γ M R Z bc bs j lv (.int i :: .ref (o + 4) :: st) h := by
  obtain ⟨h1, h2⟩ := lh_ixN hi hk hn
  exact lh_ialoadK hj ho h1 (by rw [h2, hv]; exact kk)
theorem lh_laloadN {o n k : Nat} {i : Int32} {v : Int64} (hj : (lh_is M)[j]? = some (pc, .laload, 1, j', t)) (ho : h.2.2.2[o]? = some (1, n)) (hi : i = nI k) (hk : k < n) (hn : Nat.ble n 2000000000 = true) (hv : h.2.1 (o + 4) k = v)
    (kk : lh_G Γ M R Z bc bs j' lv (.long v :: st) h) : lh_G Γ M R Z bc bs j lv (.int i :: .ref (o + 4) :: st) h := by
  obtain ⟨h1, h2⟩ := lh_ixN hi hk hn
  exact lh_laloadK hj ho h1 (by rw [h2, hv]; exact kk)
theorem lh_caloadN {o n k : Nat} {i v : Int32} (hj : (lh_is M)[j]? = some (pc, .caload, 1, j', t)) (ho : h.2.2.2[o]? = some (2, n)) (hi : i = nI k) (hk : k < n) (hn : Nat.ble n 2000000000 = true) (hv : h.1 (o + 4) k = v)
    (kk : lh_G Γ M R Z bc bs j' lv (.int v :: st) h) : lh_G Γ M R Z bc bs j lv (.int i :: .ref (o + 4) :: st) h := by
  obtain ⟨h1, h2⟩ := lh_ixN hi hk hn
  exact lh_caloadK hj ho h1 (by rw [h2, hv]; exact kk)
theorem lh_baloadN {o n k : Nat} {i v : Int32} (hj : (lh_is M)[j]? = some (pc, .baload, 1, j', t)) (ho : h.2.2.2[o]? = some (3, n)) (hi : i = nI k) (hk : k < n) (hn : Nat.ble n 2000000000 = true) (hv : h.1 (o + 4) k = v)
    (kk : lh_G Γ M R Z bc bs j' lv (.int v :: st) h) : lh_G Γ M R Z bc bs j lv (.int i :: .ref (o + 4) :: st) h := by
  obtain ⟨h1, h2⟩ := lh_ixN hi hk hn
  exact lh_baloadK hj ho h1 (by rw [h2, hv]; exact kk)
theorem lh_iastoreN {o n k : Nat} {i x : Int32} (hj : (lh_is M)[j]? = some (pc, .iastore, 1, j', t)) (ho : h.2.2.2[o]? = some (0, n)) (hi : i = nI k) (hk : k < n) (hn : Nat.ble n 2000000000 = true)
    (kk : lh_G Γ M R Z bc bs j' lv st (lh_uI h (o + 4) k x)) : lh_G Γ M R Z bc bs j lv (.int x :: .int i :: .ref (o + 4) :: st) h := by
  obtain ⟨h1, h2⟩ := lh_ixN hi hk hn
  exact lh_iastoreK hj ho h1 (by rw [h2]; exact kk)
theorem lh_lastoreN {o n k : Nat} {i : Int32} {x : Int64} (hj : (lh_is M)[j]? = some (pc, .lastore, 1, j', t)) (ho : h.2.2.2[o]? = some (1, n)) (hi : i = nI k) (hk : k < n) (hn : Nat.ble n 2000000000 = true)
    (kk : lh_G Γ M R Z bc bs j' lv st (lh_uL h (o + 4) k x)) : lh_G Γ M R Z bc bs j lv (.long x :: .int i :: .ref (o + 4) :: st) h := by
  obtain ⟨h1, h2⟩ := lh_ixN hi hk hn
  exact lh_lastoreK hj ho h1 (by rw [h2]; exact kk)
theorem lh_castoreN {o n k : Nat} {i x : Int32} (hj : (lh_is M)[j]? = some (pc, .castore, 1, j', t)) (ho : h.2.2.2[o]? = some (2, n)) (hi : i = nI k) (hk : k < n) (hn : Nat.ble n 2000000000 = true) (hx : narrow .char (.int x) = .int x)
    (kk : lh_G Γ M R Z bc bs j' lv st (lh_uI h (o + 4) k x)) : lh_G Γ M R Z bc bs j lv (.int x :: .int i :: .ref (o + 4) :: st) h := by
  obtain ⟨h1, h2⟩ := lh_ixN hi hk hn
  exact lh_castoreK hj ho h1 hx (by rw [h2]; exact kk)
theorem lh_bastoreN {o n k : Nat} {i x : Int32} (hj : (lh_is M)[j]? = some (pc, .bastore, 1, j', t)) (ho : h.2.2.2[o]? = some (3, n)) (hi : i = nI k) (hk : k < n) (hn : Nat.ble n 2000000000 = true) (hx : x = 0 ∨ x = 1)
    (kk : lh_G Γ M R Z bc bs j' lv st (lh_uI h (o + 4) k x)) : lh_G Γ M R Z bc bs j lv (.int x :: .int i :: .ref (o + 4) :: st) h := by
  obtain ⟨h1, h2⟩ := lh_ixN hi hk hn
  exact lh_bastoreK hj ho h1 hx (by rw [h2]; exact kk)
theorem lh_lit (n : Nat) : (OfNat.ofNat n : Int32) = nI n := rfl
theorem lh_n1 (k : Nat) : nI k + Int32.ofInt 1 = nI (k + 1) := nI_1 k
theorem lh_nz {r : Int32} {c : Prop} {D : Decidable c} (hr : r = @ite _ c D 1 0) : narrow .boolean (.int r) = .int r := by
  rw [hr]
  split <;> decide
end LHWRAP
theorem lh_k_m1 : Int32.ofInt (-1) = -1 := by decide
theorem lh_k_0 : Int32.ofInt (0) = 0 := by decide
theorem lh_k_1 : Int32.ofInt (1) = 1 := by decide
theorem lh_k_2 : Int32.ofInt (2) = 2 := by decide
theorem lh_k_3 : Int32.ofInt (3) = 3 := by decide
theorem lh_k_4 : Int32.ofInt (4) = 4 := by decide
theorem lh_k_5 : Int32.ofInt (5) = 5 := by decide
theorem lh_b_m23 : (Int8.ofInt (-23)).toInt32 = -23 := by decide
theorem lh_b_m20 : (Int8.ofInt (-20)).toInt32 = -20 := by decide
theorem lh_b_m2 : (Int8.ofInt (-2)).toInt32 = -2 := by decide
theorem lh_b_6 : (Int8.ofInt (6)).toInt32 = 6 := by decide
theorem lh_b_7 : (Int8.ofInt (7)).toInt32 = 7 := by decide
theorem lh_b_8 : (Int8.ofInt (8)).toInt32 = 8 := by decide
theorem lh_b_9 : (Int8.ofInt (9)).toInt32 = 9 := by decide
theorem lh_b_10 : (Int8.ofInt (10)).toInt32 = 10 := by decide
theorem lh_b_11 : (Int8.ofInt (11)).toInt32 = 11 := by decide
theorem lh_b_12 : (Int8.ofInt (12)).toInt32 = 12 := by decide
theorem lh_b_13 : (Int8.ofInt (13)).toInt32 = 13 := by decide
theorem lh_b_14 : (Int8.ofInt (14)).toInt32 = 14 := by decide
theorem lh_b_15 : (Int8.ofInt (15)).toInt32 = 15 := by decide
theorem lh_b_16 : (Int8.ofInt (16)).toInt32 = 16 := by decide
theorem lh_b_17 : (Int8.ofInt (17)).toInt32 = 17 := by decide
theorem lh_b_18 : (Int8.ofInt (18)).toInt32 = 18 := by decide
theorem lh_b_19 : (Int8.ofInt (19)).toInt32 = 19 := by decide
theorem lh_b_20 : (Int8.ofInt (20)).toInt32 = 20 := by decide
theorem lh_b_21 : (Int8.ofInt (21)).toInt32 = 21 := by decide
theorem lh_b_22 : (Int8.ofInt (22)).toInt32 = 22 := by decide
theorem lh_b_23 : (Int8.ofInt (23)).toInt32 = 23 := by decide
theorem lh_b_24 : (Int8.ofInt (24)).toInt32 = 24 := by decide
theorem lh_b_25 : (Int8.ofInt (25)).toInt32 = 25 := by decide
theorem lh_b_26 : (Int8.ofInt (26)).toInt32 = 26 := by decide
theorem lh_b_27 : (Int8.ofInt (27)).toInt32 = 27 := by decide
theorem lh_b_28 : (Int8.ofInt (28)).toInt32 = 28 := by decide
theorem lh_b_29 : (Int8.ofInt (29)).toInt32 = 29 := by decide
theorem lh_b_30 : (Int8.ofInt (30)).toInt32 = 30 := by decide
theorem lh_b_31 : (Int8.ofInt (31)).toInt32 = 31 := by decide
theorem lh_b_32 : (Int8.ofInt (32)).toInt32 = 32 := by decide
theorem lh_b_33 : (Int8.ofInt (33)).toInt32 = 33 := by decide
theorem lh_b_34 : (Int8.ofInt (34)).toInt32 = 34 := by decide
theorem lh_b_35 : (Int8.ofInt (35)).toInt32 = 35 := by decide
theorem lh_b_36 : (Int8.ofInt (36)).toInt32 = 36 := by decide
theorem lh_b_37 : (Int8.ofInt (37)).toInt32 = 37 := by decide
theorem lh_b_38 : (Int8.ofInt (38)).toInt32 = 38 := by decide
theorem lh_b_40 : (Int8.ofInt (40)).toInt32 = 40 := by decide
theorem lh_b_41 : (Int8.ofInt (41)).toInt32 = 41 := by decide
theorem lh_b_42 : (Int8.ofInt (42)).toInt32 = 42 := by decide
theorem lh_b_43 : (Int8.ofInt (43)).toInt32 = 43 := by decide
theorem lh_b_45 : (Int8.ofInt (45)).toInt32 = 45 := by decide
theorem lh_b_48 : (Int8.ofInt (48)).toInt32 = 48 := by decide
theorem lh_b_56 : (Int8.ofInt (56)).toInt32 = 56 := by decide
theorem lh_b_57 : (Int8.ofInt (57)).toInt32 = 57 := by decide
theorem lh_b_59 : (Int8.ofInt (59)).toInt32 = 59 := by decide
theorem lh_b_60 : (Int8.ofInt (60)).toInt32 = 60 := by decide
theorem lh_b_61 : (Int8.ofInt (61)).toInt32 = 61 := by decide
theorem lh_b_63 : (Int8.ofInt (63)).toInt32 = 63 := by decide
theorem lh_b_64 : (Int8.ofInt (64)).toInt32 = 64 := by decide
theorem lh_b_75 : (Int8.ofInt (75)).toInt32 = 75 := by decide
theorem lh_b_79 : (Int8.ofInt (79)).toInt32 = 79 := by decide
theorem lh_b_85 : (Int8.ofInt (85)).toInt32 = 85 := by decide
theorem lh_b_86 : (Int8.ofInt (86)).toInt32 = 86 := by decide
theorem lh_b_96 : (Int8.ofInt (96)).toInt32 = 96 := by decide
theorem lh_b_97 : (Int8.ofInt (97)).toInt32 = 97 := by decide
theorem lh_b_99 : (Int8.ofInt (99)).toInt32 = 99 := by decide
theorem lh_b_100 : (Int8.ofInt (100)).toInt32 = 100 := by decide
theorem lh_b_101 : (Int8.ofInt (101)).toInt32 = 101 := by decide
theorem lh_b_102 : (Int8.ofInt (102)).toInt32 = 102 := by decide
theorem lh_b_103 : (Int8.ofInt (103)).toInt32 = 103 := by decide
theorem lh_b_106 : (Int8.ofInt (106)).toInt32 = 106 := by decide
theorem lh_b_107 : (Int8.ofInt (107)).toInt32 = 107 := by decide
theorem lh_b_108 : (Int8.ofInt (108)).toInt32 = 108 := by decide
theorem lh_b_109 : (Int8.ofInt (109)).toInt32 = 109 := by decide
theorem lh_b_122 : (Int8.ofInt (122)).toInt32 = 122 := by decide
theorem lh_b_126 : (Int8.ofInt (126)).toInt32 = 126 := by decide
theorem lh_s_170 : (Int16.ofInt (170)).toInt32 = 170 := by decide
theorem lh_s_175 : (Int16.ofInt (175)).toInt32 = 175 := by decide
theorem lh_s_179 : (Int16.ofInt (179)).toInt32 = 179 := by decide
theorem lh_s_200 : (Int16.ofInt (200)).toInt32 = 200 := by decide
theorem lh_s_255 : (Int16.ofInt (255)).toInt32 = 255 := by decide
theorem lh_s_672 : (Int16.ofInt (672)).toInt32 = 672 := by decide
theorem lh_s_674 : (Int16.ofInt (674)).toInt32 = 674 := by decide
theorem lh_s_676 : (Int16.ofInt (676)).toInt32 = 676 := by decide
theorem lh_s_677 : (Int16.ofInt (677)).toInt32 = 677 := by decide
theorem lh_s_678 : (Int16.ofInt (678)).toInt32 = 678 := by decide
theorem lh_s_704 : (Int16.ofInt (704)).toInt32 = 704 := by decide
theorem lh_s_705 : (Int16.ofInt (705)).toInt32 = 705 := by decide
theorem lh_s_708 : (Int16.ofInt (708)).toInt32 = 708 := by decide
theorem lh_s_710 : (Int16.ofInt (710)).toInt32 = 710 := by decide
theorem lh_s_736 : (Int16.ofInt (736)).toInt32 = 736 := by decide
theorem lh_s_1000 : (Int16.ofInt (1000)).toInt32 = 1000 := by decide
theorem lh_s_1002 : (Int16.ofInt (1002)).toInt32 = 1002 := by decide
theorem lh_s_1023 : (Int16.ofInt (1023)).toInt32 = 1023 := by decide
theorem lh_s_1100 : (Int16.ofInt (1100)).toInt32 = 1100 := by decide
theorem lh_s_2200 : (Int16.ofInt (2200)).toInt32 = 2200 := by decide
theorem lh_s_9999 : (Int16.ofInt (9999)).toInt32 = 9999 := by decide
