/-! new objects and rows in heaps whose tables are 0 from there on; references written -/
def lh_f2 (F : lh_FF) (o k x : Nat) : lh_FF := fun a i => if a = o then (if i = k then x else F a i) else F a i
section LHCTOR
variable {Γ : lh_Cx} {M : lh_M} {R : Room} {Z : List Frame → Array Value → State → State → Prop} {bc bs j pc j' t : Nat} {lv : List (Nat × Value)} {st : List Value} {I : lh_II} {L : lh_LL} {F : lh_FF} {S : lh_SS}
theorem lh_alz {n : Nat} {q : Nat × Nat} (hn : S.length = n) (hI : ∀ q, I (n + 4) q = 0) (hL : ∀ q, L (n + 4) q = 0) (hF : ∀ q, F (n + 4) q = 0) : lh_al (I, L, F, S) q = (I, L, F, S ++ [q]) := by
  subst hn
  have e1 : (fun a i => if a = S.length + 4 then 0 else I a i) = I := by
    funext a i
    split
    · next h => rw [h]; exact (hI i).symm
    · rfl
  have e2 : (fun a i => if a = S.length + 4 then 0 else L a i) = L := by
    funext a i
    split
    · next h => rw [h]; exact (hL i).symm
    · rfl
  have e3 : (fun a i => if a = S.length + 4 then 0 else F a i) = F := by
    funext a i
    split
    · next h => rw [h]; exact (hF i).symm
    · rfl
  show ((fun a i => if a = S.length + 4 then 0 else I a i), (fun a i => if a = S.length + 4 then 0 else L a i), (fun a i => if a = S.length + 4 then 0 else F a i), S ++ [q]) = _
  rw [e1, e2, e3]
theorem lh_new4 {i idx ci N n : Nat} {S' : lh_SS} (hj : (lh_is M)[j]? = some (pc, .new idx, 3, j', i)) (hf : ((lh_ct M).2.2.2.2.2)[i]? = some (idx, ci)) (hN : (lh_cls[ci]?).map (fun r => r.2.2) = some N) (hn : S.length = n) (hS' : S ++ [(ci + 6, 0)] = S') (hI : ∀ q, I (n + 4) q = 0) (hL : ∀ q, L (n + 4) q = 0) (hF : ∀ q, F (n + 4) q = 0)
    (k : lh_G Γ M R Z bc bs j' lv (.ref (n + 4) :: st) (I, L, F, S')) : lh_G Γ M R Z (bc + 1) (bs + N) j lv st (I, L, F, S) := by
  refine lh_new hj hf hN ?_
  rw [lh_alz hn hI hL hF, hS']
  show lh_G Γ M R Z bc bs j' lv (.ref (S.length + 4) :: st) (I, L, F, S')
  rw [hn]
  exact k
theorem lh_newa4 {u N n : Nat} {z : Int32} {at_ : ArrayType} {S' : lh_SS} (hj : (lh_is M)[j]? = some (pc, .newarray at_, 2, j', t)) (hu : (u = 0 ∧ at_ = .int) ∨ (u = 1 ∧ at_ = .long) ∨ (u = 2 ∧ at_ = .char) ∨ (u = 3 ∧ at_ = .boolean)) (hn0 : ¬ z < 0) (hN : z.toNatClampNeg = N) (hb8 : N ≤ 60000000) (hn : S.length = n) (hS' : S ++ [(u, N)] = S') (hI : ∀ q, I (n + 4) q = 0) (hL : ∀ q, L (n + 4) q = 0) (hF : ∀ q, F (n + 4) q = 0)
    (k : lh_G Γ M R Z bc bs j' lv (.ref (n + 4) :: st) (I, L, F, S')) : lh_G Γ M R Z (bc + 1) (bs + N) j lv (.int z :: st) (I, L, F, S) := by
  refine lh_newaK hj hu hn0 hN hb8 ?_
  rw [lh_alz hn hI hL hF, hS']
  show lh_G Γ M R Z bc bs j' lv (.ref (S.length + 4) :: st) (I, L, F, S')
  rw [hn]
  exact k
theorem lh_newq4 {u N n idx : Nat} {z : Int32} {C : String} {S' : lh_SS} (hj : (lh_is M)[j]? = some (pc, .anewarray idx, 3, j', t)) (hu : u = 4 ∨ u = 5) (ht : (lh_tys Γ)[u]? = some (lh_cA Γ u, .object C)) (hcl : lh_mem (.classLink (lh_ct M).1 idx C) = true) (hX : ∀ U, lh_X Γ U → va_AO C U) (hn0 : ¬ z < 0) (hN : z.toNatClampNeg = N) (hb8 : N ≤ 60000000) (hn : S.length = n) (hS' : S ++ [(u, N)] = S') (hI : ∀ q, I (n + 4) q = 0) (hL : ∀ q, L (n + 4) q = 0) (hF : ∀ q, F (n + 4) q = 0)
    (k : lh_G Γ M R Z bc bs j' lv (.ref (n + 4) :: st) (I, L, F, S')) : lh_G Γ M R Z (bc + 1) (bs + N) j lv (.int z :: st) (I, L, F, S) := by
  refine lh_newq hj hu ht hcl hX hn0 hN hb8 ?_
  rw [lh_alz hn hI hL hF, hS']
  show lh_G Γ M R Z bc bs j' lv (.ref (S.length + 4) :: st) (I, L, F, S')
  rw [hn]
  exact k
theorem lh_putR4 {o n i idx ci k x : Nat} (hj : (lh_is M)[j]? = some (pc, .putfield idx, 3, j', i)) (hf : ((lh_ct M).2.1)[i]? = some (idx, ci, k)) (ho : S[o]? = some (ci + 6, n)) (hfin : (lh_Tt ci k).2.2.2 = false) (ht : lh_tag ci k = 2)
    (kk : lh_G Γ M R Z bc bs j' lv st (I, L, lh_f2 F (o + 4) k (x + 4), S)) : lh_G Γ M R Z bc bs j lv (.ref (x + 4) :: .ref (o + 4) :: st) (I, L, F, S) := lh_putR hj hf ho hfin ht kk
theorem lh_putF4 {o n i idx ci k x : Nat} (hj : (lh_is M)[j]? = some (pc, .putfield idx, 3, j', i)) (hf : ((lh_ct M).2.1)[i]? = some (idx, ci, k)) (ho : S[o]? = some (ci + 6, n)) (hfin : (lh_Tt ci k).2.2.2 = true) (hin : (lh_y M).name = "<init>") (hcn : (lh_cls[ci]?).map (fun r => r.1) = some (lh_ct M).1) (ht : lh_tag ci k = 2)
    (kk : lh_G Γ M R Z bc bs j' lv st (I, L, lh_f2 F (o + 4) k (x + 4), S)) : lh_G Γ M R Z bc bs j lv (.ref (x + 4) :: .ref (o + 4) :: st) (I, L, F, S) := lh_putF hj hf ho hfin hin hcn ht kk
theorem lh_aast45 {o n x n2 ci u k : Nat} {i : Int32} {C : String} (hj : (lh_is M)[j]? = some (pc, .aastore, 1, j', t)) (ho : S[o]? = some (u, n)) (hu : u = 4 ∨ u = 5) (ht : (lh_tys Γ)[u]? = some (lh_cA Γ u, .object C)) (hin : lh_ix i n = true) (hi : i.toNatClampNeg = k) (hx : S[x]? = some (ci + 6, n2)) (hcn : (lh_cls[ci]?).map (fun r => r.1) = some C)
    (kk : lh_G Γ M R Z bc bs j' lv st (I, L, lh_f2 F (o + 4) k (x + 4), S)) : lh_G Γ M R Z bc bs j lv (.ref (x + 4) :: .int i :: .ref (o + 4) :: st) (I, L, F, S) :=
  lh_aastK (i2 := 0) hj ho hu ht (lh_ix_in hin) hx hcn (by rw [hi]; exact kk)
theorem lh_cIv {N : lh_M} {h : lh_Hp} {d mc ms na o idx i : Nat} {As sk : List Value} (hj : (lh_is M)[j]? = some (pc, .invokespecial idx, 3, j', i)) (hl : ((lh_ct M).2.2.1)[i]? = some (idx, lh_y N)) (hN : lh_okI N na)
    (hna : As.length = na) (hsk : As.reverse ++ .ref o :: st = sk) (hd : Nat.ble (d + 1) R.frames = true ∧ Nat.ble (64 * (d + 1)) R.locals = true) (hst : Nat.ble ((st.map fun v => v.category).sum) 8 = true)
    (hm : lh_Met Γ N d mc ms (.ref o :: As) h (lh_kv fun h' => lh_G Γ M R Z bc bs j' lv st h')) : lh_G Γ M R Z (bc + mc) (bs + ms) j lv sk h :=
  lh_invI hj hl hN hna hsk hd hst (hm.mono (lh_kvG fun h' hk => hk))
theorem lh_cINv {N : lh_M} {h : lh_Hp} {d mc ms na o idx : Nat} {As sk : List Value} (hj : (lh_is M)[j]? = some (pc, .invokespecial idx, 3, j', t)) (hG : lh_GX Γ) (hw : ((lh_ct M).1, idx, lh_y N) ∈ lh_nests) (hN : lh_okI N na)
    (hna : As.length = na) (hsk : As.reverse ++ .ref o :: st = sk) (hd : Nat.ble (d + 1) R.frames = true ∧ Nat.ble (64 * (d + 1)) R.locals = true) (hst : Nat.ble ((st.map fun v => v.category).sum) 8 = true)
    (hm : lh_Met Γ N d mc ms (.ref o :: As) h (lh_kv fun h' => lh_G Γ M R Z bc bs j' lv st h')) : lh_G Γ M R Z (bc + mc) (bs + ms) j lv sk h :=
  lh_invIN (host := "LanternHall") hj (fun U hU => (hG U hU).2.2.2.2.2.2.2.1 _ hw) hN hna hsk hd hst (hm.mono (lh_kvG fun h' hk => hk))
end LHCTOR
/-- a table is 0 from an object on -/
def lh_za {α : Type} (z : α) (n : Nat) (I : Nat → Nat → α) : Prop := ∀ o, n + 4 ≤ o → ∀ q, I o q = z
theorem lh_za.mono {α : Type} {z : α} {n n' : Nat} {I : Nat → Nat → α} (h : lh_za z n I) (hn : n ≤ n') : lh_za z n' I := fun o ho q => h o (by omega) q
theorem lh_za.u2 {n o k : Nat} {I : lh_II} {x : Int32} (h : lh_za 0 n I) (ho : o < n + 4) : lh_za 0 n (lh_u2 I o k x) := fun a ha q => by
  unfold lh_u2
  rw [if_neg (by omega)]
  exact h a ha q
theorem lh_za.v2 {n o k : Nat} {L : lh_LL} {x : Int64} (h : lh_za 0 n L) (ho : o < n + 4) : lh_za 0 n (lh_v2 L o k x) := fun a ha q => by
  unfold lh_v2
  rw [if_neg (by omega)]
  exact h a ha q
theorem lh_za.f2 {n o k x : Nat} {F : lh_FF} (h : lh_za 0 n F) (ho : o < n + 4) : lh_za 0 n (lh_f2 F o k x) := fun a ha q => by
  unfold lh_f2
  rw [if_neg (by omega)]
  exact h a ha q
theorem lh_za.at {α : Type} {z : α} {n : Nat} {I : Nat → Nat → α} (h : lh_za z n I) : ∀ q, I (n + 4) q = z := fun q => h _ (Nat.le_refl _) q
