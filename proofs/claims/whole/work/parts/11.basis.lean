/-! what the decompiled functions are made of; heaps as (I, L, F, S) -/
abbrev lh_II : Type := Nat → Nat → Int32
abbrev lh_LL : Type := Nat → Nat → Int64
abbrev lh_FF : Type := Nat → Nat → Nat
abbrev lh_SS : Type := List (Nat × Nat)
def lh_u2 (I : lh_II) (o k : Nat) (x : Int32) : lh_II := fun a i => if a = o then (if i = k then x else I a i) else I a i
def lh_v2 (L : lh_LL) (o k : Nat) (x : Int64) : lh_LL := fun a i => if a = o then (if i = k then x else L a i) else L a i
def lh_bd {α β : Type} (x : Option α) (k : α → Option β) : Option β := match x with
  | some a => k a
  | none => none
def lh_gd {α : Type} (b : Bool) (x : Option α) : Option α := match b with
  | true => x
  | false => none
def lh_ix (i : Int32) (n : Nat) : Bool := decide (0 ≤ i.toInt) && decide (i.toInt < (n : Int))
def lh_z (x : Int32) : Bool := decide (x = 0) || decide (x = 1)
theorem lh_ix_in {i : Int32} {n : Nat} (h : lh_ix i n = true) : vp_in i n := by
  simp only [lh_ix, Bool.and_eq_true, decide_eq_true_eq] at h
  exact vp_in_iff.mpr h
theorem lh_z_or {x : Int32} (h : lh_z x = true) : x = 0 ∨ x = 1 := by
  simp only [lh_z, Bool.or_eq_true, decide_eq_true_eq] at h
  exact h
theorem lh_z_nar {x : Int32} (h : lh_z x = true) : narrow .boolean (.int x) = .int x := by
  rcases lh_z_or h with rfl | rfl <;> decide
theorem lh_ifT {α : Type} {c : Prop} {D : Decidable c} {a b : Option α} {y : α} (h : (@ite _ c D a b) = some y) (hc : c) : a = some y := by rw [if_pos hc] at h; exact h
theorem lh_ifF {α : Type} {c : Prop} {D : Decidable c} {a b : Option α} {y : α} (h : (@ite _ c D a b) = some y) (hc : ¬ c) : b = some y := by rw [if_neg hc] at h; exact h
theorem lh_gdE {α : Type} {b : Bool} {x : Option α} {y : α} (h : lh_gd b x = some y) : b = true ∧ x = some y := by
  cases b with
  | true => exact ⟨rfl, h⟩
  | false => cases h
theorem lh_bdE {α β : Type} {x : Option α} {k : α → Option β} {y : β} {P : Prop} (h : lh_bd x k = some y) (q : ∀ z, x = some z → k z = some y → P) : P := by
  cases x with
  | none => cases h
  | some z => exact q z rfl h
section LHTUP
variable {Γ : lh_Cx} {M : lh_M} {R : Room} {Z : List Frame → Array Value → State → State → Prop} {bc bs j pc j' t : Nat} {lv : List (Nat × Value)} {st : List Value} {I : lh_II} {L : lh_LL} {F : lh_FF} {S : lh_SS}
theorem lh_getI4 {o n i idx ci k : Nat} (hj : (lh_is M)[j]? = some (pc, .getfield idx, 3, j', i)) (hf : ((lh_ct M).2.1)[i]? = some (idx, ci, k)) (ho : S[o]? = some (ci + 6, n)) (ht : lh_tag ci k = 0)
    (kk : lh_G Γ M R Z bc bs j' lv (.int (I (o + 4) k) :: st) (I, L, F, S)) : lh_G Γ M R Z bc bs j lv (.ref (o + 4) :: st) (I, L, F, S) := lh_getI hj hf ho ht kk
theorem lh_getZ4 {o n i idx ci k : Nat} (hj : (lh_is M)[j]? = some (pc, .getfield idx, 3, j', i)) (hf : ((lh_ct M).2.1)[i]? = some (idx, ci, k)) (ho : S[o]? = some (ci + 6, n)) (ht : lh_tag ci k = 3)
    (kk : lh_G Γ M R Z bc bs j' lv (.int (I (o + 4) k) :: st) (I, L, F, S)) : lh_G Γ M R Z bc bs j lv (.ref (o + 4) :: st) (I, L, F, S) := lh_getZ hj hf ho ht kk
theorem lh_getJ4 {o n i idx ci k : Nat} (hj : (lh_is M)[j]? = some (pc, .getfield idx, 3, j', i)) (hf : ((lh_ct M).2.1)[i]? = some (idx, ci, k)) (ho : S[o]? = some (ci + 6, n)) (ht : lh_tag ci k = 1)
    (kk : lh_G Γ M R Z bc bs j' lv (.long (L (o + 4) k) :: st) (I, L, F, S)) : lh_G Γ M R Z bc bs j lv (.ref (o + 4) :: st) (I, L, F, S) := lh_getJ hj hf ho ht kk
theorem lh_getR4 {o n i idx ci k x : Nat} (hj : (lh_is M)[j]? = some (pc, .getfield idx, 3, j', i)) (hf : ((lh_ct M).2.1)[i]? = some (idx, ci, k)) (ho : S[o]? = some (ci + 6, n)) (ht : lh_tag ci k = 2) (hx : F (o + 4) k = x + 4)
    (kk : lh_G Γ M R Z bc bs j' lv (.ref (x + 4) :: st) (I, L, F, S)) : lh_G Γ M R Z bc bs j lv (.ref (o + 4) :: st) (I, L, F, S) := lh_getR hj hf ho ht hx kk
theorem lh_putI4 {o n i idx ci k : Nat} {x : Int32} (hj : (lh_is M)[j]? = some (pc, .putfield idx, 3, j', i)) (hf : ((lh_ct M).2.1)[i]? = some (idx, ci, k)) (ho : S[o]? = some (ci + 6, n)) (hfin : (lh_Tt ci k).2.2.2 = false) (ht : lh_tag ci k = 0)
    (kk : lh_G Γ M R Z bc bs j' lv st (lh_u2 I (o + 4) k x, L, F, S)) : lh_G Γ M R Z bc bs j lv (.int x :: .ref (o + 4) :: st) (I, L, F, S) := lh_putI hj hf ho hfin ht kk
theorem lh_putZ4 {o n i idx ci k : Nat} {x : Int32} (hj : (lh_is M)[j]? = some (pc, .putfield idx, 3, j', i)) (hf : ((lh_ct M).2.1)[i]? = some (idx, ci, k)) (ho : S[o]? = some (ci + 6, n)) (hfin : (lh_Tt ci k).2.2.2 = false) (ht : lh_tag ci k = 3) (hx : lh_z x = true)
    (kk : lh_G Γ M R Z bc bs j' lv st (lh_u2 I (o + 4) k x, L, F, S)) : lh_G Γ M R Z bc bs j lv (.int x :: .ref (o + 4) :: st) (I, L, F, S) := lh_putZ hj hf ho hfin ht (lh_z_or hx) kk
theorem lh_putJ4 {o n i idx ci k : Nat} {x : Int64} (hj : (lh_is M)[j]? = some (pc, .putfield idx, 3, j', i)) (hf : ((lh_ct M).2.1)[i]? = some (idx, ci, k)) (ho : S[o]? = some (ci + 6, n)) (hfin : (lh_Tt ci k).2.2.2 = false) (ht : lh_tag ci k = 1)
    (kk : lh_G Γ M R Z bc bs j' lv st (I, lh_v2 L (o + 4) k x, F, S)) : lh_G Γ M R Z bc bs j lv (.long x :: .ref (o + 4) :: st) (I, L, F, S) := lh_putJ hj hf ho hfin ht kk
theorem lh_iald4 {o n : Nat} {i : Int32} (hj : (lh_is M)[j]? = some (pc, .iaload, 1, j', t)) (ho : S[o]? = some (0, n)) (hin : lh_ix i n = true)
    (k : lh_G Γ M R Z bc bs j' lv (.int (I (o + 4) i.toNatClampNeg) :: st) (I, L, F, S)) : lh_G Γ M R Z bc bs j lv (.int i :: .ref (o + 4) :: st) (I, L, F, S) := lh_ialoadK hj ho (lh_ix_in hin) k
theorem lh_cald4 {o n : Nat} {i : Int32} (hj : (lh_is M)[j]? = some (pc, .caload, 1, j', t)) (ho : S[o]? = some (2, n)) (hin : lh_ix i n = true)
    (k : lh_G Γ M R Z bc bs j' lv (.int (I (o + 4) i.toNatClampNeg) :: st) (I, L, F, S)) : lh_G Γ M R Z bc bs j lv (.int i :: .ref (o + 4) :: st) (I, L, F, S) := lh_caloadK hj ho (lh_ix_in hin) k
theorem lh_bald4 {o n : Nat} {i : Int32} (hj : (lh_is M)[j]? = some (pc, .baload, 1, j', t)) (ho : S[o]? = some (3, n)) (hin : lh_ix i n = true)
    (k : lh_G Γ M R Z bc bs j' lv (.int (I (o + 4) i.toNatClampNeg) :: st) (I, L, F, S)) : lh_G Γ M R Z bc bs j lv (.int i :: .ref (o + 4) :: st) (I, L, F, S) := lh_baloadK hj ho (lh_ix_in hin) k
theorem lh_lald4 {o n : Nat} {i : Int32} (hj : (lh_is M)[j]? = some (pc, .laload, 1, j', t)) (ho : S[o]? = some (1, n)) (hin : lh_ix i n = true)
    (k : lh_G Γ M R Z bc bs j' lv (.long (L (o + 4) i.toNatClampNeg) :: st) (I, L, F, S)) : lh_G Γ M R Z bc bs j lv (.int i :: .ref (o + 4) :: st) (I, L, F, S) := lh_laloadK hj ho (lh_ix_in hin) k
theorem lh_iast4 {o n : Nat} {i x : Int32} (hj : (lh_is M)[j]? = some (pc, .iastore, 1, j', t)) (ho : S[o]? = some (0, n)) (hin : lh_ix i n = true)
    (k : lh_G Γ M R Z bc bs j' lv st (lh_u2 I (o + 4) i.toNatClampNeg x, L, F, S)) : lh_G Γ M R Z bc bs j lv (.int x :: .int i :: .ref (o + 4) :: st) (I, L, F, S) := lh_iastoreK hj ho (lh_ix_in hin) k
theorem lh_cast4 {o n : Nat} {i x : Int32} (hj : (lh_is M)[j]? = some (pc, .castore, 1, j', t)) (ho : S[o]? = some (2, n)) (hin : lh_ix i n = true) (hx : narrow .char (.int x) = .int x)
    (k : lh_G Γ M R Z bc bs j' lv st (lh_u2 I (o + 4) i.toNatClampNeg x, L, F, S)) : lh_G Γ M R Z bc bs j lv (.int x :: .int i :: .ref (o + 4) :: st) (I, L, F, S) := lh_castoreK hj ho (lh_ix_in hin) hx k
theorem lh_bast4 {o n : Nat} {i x : Int32} (hj : (lh_is M)[j]? = some (pc, .bastore, 1, j', t)) (ho : S[o]? = some (3, n)) (hin : lh_ix i n = true) (hx : lh_z x = true)
    (k : lh_G Γ M R Z bc bs j' lv st (lh_u2 I (o + 4) i.toNatClampNeg x, L, F, S)) : lh_G Γ M R Z bc bs j lv (.int x :: .int i :: .ref (o + 4) :: st) (I, L, F, S) := lh_bastoreK hj ho (lh_ix_in hin) (lh_z_or hx) k
theorem lh_last4 {o n : Nat} {i : Int32} {x : Int64} (hj : (lh_is M)[j]? = some (pc, .lastore, 1, j', t)) (ho : S[o]? = some (1, n)) (hin : lh_ix i n = true)
    (k : lh_G Γ M R Z bc bs j' lv st (I, lh_v2 L (o + 4) i.toNatClampNeg x, F, S)) : lh_G Γ M R Z bc bs j lv (.long x :: .int i :: .ref (o + 4) :: st) (I, L, F, S) := lh_lastoreK hj ho (lh_ix_in hin) k
/-- the same at a place that is a numeral -/
theorem lh_num {i : Int32} {n k : Nat} (hi : i.toNatClampNeg = k) (hin : lh_ix i n = true) : vp_in i n ∧ i.toNatClampNeg = k := ⟨lh_ix_in hin, hi⟩
theorem lh_iald5 {o n k : Nat} {i : Int32} (hj : (lh_is M)[j]? = some (pc, .iaload, 1, j', t)) (ho : S[o]? = some (0, n)) (hin : lh_ix i n = true) (hi : i.toNatClampNeg = k)
    (kk : lh_G Γ M R Z bc bs j' lv (.int (I (o + 4) k) :: st) (I, L, F, S)) : lh_G Γ M R Z bc bs j lv (.int i :: .ref (o + 4) :: st) (I, L, F, S) := lh_iald4 hj ho hin (by rw [hi]; exact kk)
theorem lh_lald5 {o n k : Nat} {i : Int32} (hj : (lh_is M)[j]? = some (pc, .laload, 1, j', t)) (ho : S[o]? = some (1, n)) (hin : lh_ix i n = true) (hi : i.toNatClampNeg = k)
    (kk : lh_G Γ M R Z bc bs j' lv (.long (L (o + 4) k) :: st) (I, L, F, S)) : lh_G Γ M R Z bc bs j lv (.int i :: .ref (o + 4) :: st) (I, L, F, S) := lh_lald4 hj ho hin (by rw [hi]; exact kk)
theorem lh_iast5 {o n k : Nat} {i x : Int32} (hj : (lh_is M)[j]? = some (pc, .iastore, 1, j', t)) (ho : S[o]? = some (0, n)) (hin : lh_ix i n = true) (hi : i.toNatClampNeg = k)
    (kk : lh_G Γ M R Z bc bs j' lv st (lh_u2 I (o + 4) k x, L, F, S)) : lh_G Γ M R Z bc bs j lv (.int x :: .int i :: .ref (o + 4) :: st) (I, L, F, S) := lh_iast4 hj ho hin (by rw [hi]; exact kk)
theorem lh_last5 {o n k : Nat} {i : Int32} {x : Int64} (hj : (lh_is M)[j]? = some (pc, .lastore, 1, j', t)) (ho : S[o]? = some (1, n)) (hin : lh_ix i n = true) (hi : i.toNatClampNeg = k)
    (kk : lh_G Γ M R Z bc bs j' lv st (I, lh_v2 L (o + 4) k x, F, S)) : lh_G Γ M R Z bc bs j lv (.long x :: .int i :: .ref (o + 4) :: st) (I, L, F, S) := lh_last4 hj ho hin (by rw [hi]; exact kk)
end LHTUP
/-- the fixed objects: their shapes, and the references that never change -/
def lh_SH : lh_SS := [(14, 0), (12, 0), (2, 1000), (1, 27), (13, 0), (1, 12), (1, 12), (10, 0), (10, 0), (4, 16), (5, 4), (6, 0), (8, 0), (0, 1000), (0, 32), (0, 6), (0, 6), (0, 6), (0, 48), (0, 4), (0, 8), (0, 12), (0, 12), (6, 0), (8, 0), (0, 1000), (0, 32), (0, 6), (0, 6), (0, 6), (0, 48), (0, 4), (0, 8), (0, 12), (0, 12), (11, 0), (0, 40), (0, 40), (11, 0), (0, 40), (0, 40), (10, 0), (10, 0), (10, 0), (10, 0), (10, 0), (10, 0), (10, 0), (10, 0), (10, 0), (10, 0), (10, 0), (10, 0), (10, 0), (10, 0), (10, 0), (10, 0), (9, 0), (10, 0), (9, 0), (10, 0), (9, 0), (10, 0), (9, 0), (10, 0), (15, 0), (0, 1000), (0, 1002), (0, 1002), (1, 1002), (1, 27), (0, 200), (0, 2200), (0, 2200), (1, 10), (0, 170), (0, 4), (0, 1100), (0, 736), (3, 4), (1, 24), (1, 1)]
def lh_SM : lh_SS := [(15, 0), (0, 1000), (0, 1002), (0, 1002), (1, 1002), (1, 27), (0, 200), (0, 2200), (0, 2200), (1, 10), (0, 170), (0, 4), (0, 1100), (0, 736), (3, 4), (1, 24)]
def lh_RF : List (Nat × Nat × Nat) := [(1, 0, 2), (1, 1, 3), (4, 0, 5), (4, 1, 6), (57, 0, 58), (59, 0, 60), (61, 0, 62), (63, 0, 64), (0, 0, 1), (0, 1, 4), (0, 2, 7), (0, 3, 8), (0, 4, 9), (0, 5, 10), (9, 0, 41), (9, 1, 42), (9, 2, 43), (9, 3, 44), (9, 4, 45), (9, 5, 46), (9, 6, 47), (9, 7, 48), (9, 8, 49), (9, 9, 50), (9, 10, 51), (9, 11, 52), (9, 12, 53), (9, 13, 54), (9, 14, 55), (9, 15, 56), (10, 0, 57), (10, 1, 59), (10, 2, 61), (10, 3, 63)]
def lh_RM : List (Nat × Nat × Nat) := [(65, 1, 66), (65, 4, 67), (65, 5, 68), (65, 6, 69), (65, 9, 70), (65, 10, 71), (65, 11, 72), (65, 12, 73), (65, 14, 74), (65, 17, 75), (65, 18, 76), (65, 19, 77), (65, 20, 78), (65, 22, 79), (65, 23, 80)]
/-- the class: objects 0 to 64; the reference: 65 on -/
def lh_lay (F : lh_FF) (S : lh_SS) : Prop := (∀ (k : Nat) (q : Nat × Nat), (lh_SH.take 65)[k]? = some q → S[k]? = some q) ∧ ∀ (k : Nat) (q : Nat × Nat × Nat), lh_RF[k]? = some q → F (q.1 + 4) q.2.1 = q.2.2 + 4
def lh_laym (F : lh_FF) (S : lh_SS) : Prop := (∀ (k : Nat) (q : Nat × Nat), lh_SM[k]? = some q → S[65 + k]? = some q) ∧ ∀ (k : Nat) (q : Nat × Nat × Nat), lh_RM[k]? = some q → F (q.1 + 4) q.2.1 = q.2.2 + 4
/-- a Hall with what hangs on it, a Night -/
def lh_HSH : lh_SS := [(6, 0), (8, 0), (0, 1000), (0, 32), (0, 6), (0, 6), (0, 6), (0, 48), (0, 4), (0, 8), (0, 12), (0, 12)]
def lh_HRF : List (Nat × Nat × Nat) := [(0, 0, 1), (1, 0, 2), (1, 1, 3), (0, 1, 4), (0, 2, 5), (0, 3, 6), (0, 4, 7), (0, 5, 8), (0, 6, 9), (0, 7, 10), (0, 8, 11)]
def lh_hl (F : lh_FF) (S : lh_SS) (a : Nat) : Prop := (∀ (k : Nat) (q : Nat × Nat), lh_HSH[k]? = some q → S[a + k]? = some q) ∧ ∀ (k : Nat) (q : Nat × Nat × Nat), lh_HRF[k]? = some q → F (a + q.1 + 4) q.2.1 = a + q.2.2 + 4
def lh_NSH : lh_SS := [(11, 0), (0, 40), (0, 40)]
def lh_NRF : List (Nat × Nat × Nat) := [(0, 0, 1), (0, 1, 2)]
def lh_nl (F : lh_FF) (S : lh_SS) (b : Nat) : Prop := (∀ (k : Nat) (q : Nat × Nat), lh_NSH[k]? = some q → S[b + k]? = some q) ∧ ∀ (k : Nat) (q : Nat × Nat × Nat), lh_NRF[k]? = some q → F (b + q.1 + 4) q.2.1 = b + q.2.2 + 4
def lh_sets : Nat → Int64
  | 0 => -6148914691236517206
  | 1 => -3689348814741910324
  | 2 => -1085102592571150096
  | 3 => -71777214294589696
  | 4 => -281470681808896
  | _ => -4294967296
def lh_strl : List Nat := [137, 8]
def lh_byt : List (List Int32) := [[99, 101, 108, 108, 115, 32, 112, 105, 108, 108, 97, 114, 32, 118, 105, 115, 105, 116, 111, 114, 32, 111, 110, 32, 103, 111, 101, 115, 32, 118, 97, 115, 101, 32, 97, 116, 32, 98, 101, 97, 109, 32, 111, 105, 108, 32, 103, 117, 97, 114, 100, 32, 102, 101, 108, 108, 111, 119, 32, 115, 104, 111, 119, 115, 32, 98, 97, 99, 107, 32, 114, 101, 115, 116, 32, 116, 114, 105, 109, 32, 102, 105, 108, 108, 32, 112, 108, 97, 105, 110, 32, 99, 104, 105, 108, 100, 32, 108, 97, 100, 121, 32, 116, 104, 105, 101, 102, 32, 110, 111, 116, 32, 97, 110, 100, 32, 111, 114, 32, 100, 97, 121, 32, 108, 101, 102, 116, 32, 102, 97, 114, 32, 104, 111, 117, 114, 32], [40, 41, 60, 61, 43, 45, 42, 59]]
def lh_nests : List (String × Nat × MethodName) := [("LanternHall", 18, ⟨"LanternHall$Walks", "<init>", "()V"⟩), ("LanternHall", 25, ⟨"LanternHall$Moment", "<init>", "()V"⟩), ("LanternHall", 45, ⟨"LanternHall$Hall", "<init>", "()V"⟩), ("LanternHall", 55, ⟨"LanternHall$Night", "<init>", "()V"⟩), ("LanternHall", 76, ⟨"LanternHall$Mark", "<init>", "()V"⟩), ("LanternHall$Hall", 11, ⟨"LanternHall$Law", "<init>", "()V"⟩), ("LanternHall$Mark", 9, ⟨"LanternHall$Moment", "<init>", "()V"⟩)]
def lh_fmt (Γ : lh_Cx) : Value := if lh_sp Γ 7 = 0 then .null else .ref (lh_sp Γ 6)
/-- what stays true of the tables and of what lay there before the law was called -/
def lh_XX (Γ : lh_Cx) (U : State) : Prop := va_Nw (.methodLinkNest "LanternHall$Hall" 108 ⟨"LanternHall", "isHour", "(I)Z"⟩ "LanternHall") U ∧ va_Z "LanternHall$Walks" "SETS_WITH" "[J" (.ref (lh_sp Γ 1)) (lh_A Γ) U (lh_H0 Γ) ∧ va_T .long (lh_sp Γ 1) 6 (fun j => .long (lh_sets j)) (lh_A Γ) U (lh_H0 Γ) ∧ vk_R "LanternHall$Reader" 42 "cells pillar visitor on goes vase at beam oil guard fellow shows back rest trim fill plain child lady thief not and or day left far hour " (lh_sp Γ 2) U ∧ vk_R "LanternHall$Reader" 79 "()<=+-*;" (lh_sp Γ 3) U ∧ vk_S 2 lh_strl lh_byt (fun i => lh_sp Γ (2 + i)) (fun i => lh_sp Γ (4 + i)) (lh_A Γ) U (lh_H0 Γ) ∧ va_Z "java/lang/String" "COMPACT_STRINGS" "Z" (.int 1) (lh_A Γ) U (lh_H0 Γ) ∧ (∀ q ∈ lh_nests, va_Nw (.methodLinkNest q.1 q.2.1 q.2.2 "LanternHall") U) ∧ va_Z "jdk/internal/util/Preconditions" "SIOOBE_FORMATTER" "Ljava/util/function/BiFunction;" (lh_fmt Γ) (lh_A Γ) U (lh_H0 Γ) ∧ va_AO "LanternHall$Moment" U ∧ va_AO "LanternHall$Mark" U
def lh_GX (Γ : lh_Cx) : Prop := ∀ U, lh_X Γ U → lh_XX Γ U
def lh_ql (F : lh_FF) (S : lh_SS) (q a : Nat) : Prop := S[q]? = some (7, 0) ∧ S[q + 1]? = some (1, 10) ∧ F (q + 4) 0 = 1 + 4 ∧ F (q + 4) 1 = a + 4 ∧ F (q + 4) 2 = q + 1 + 4
theorem lh_ixlt {i : Int32} {n : Nat} (h : lh_ix i n = true) : i.toNatClampNeg < n := lh_inlt (lh_ix_in h)
theorem lh_pastF {F : lh_FF} {S : lh_SS} {i : Int32} (hS : lh_lay F S) (h : lh_ix i 16 = true) : F (9 + 4) i.toNatClampNeg = 41 + i.toNatClampNeg + 4 :=
  hS.2 (14 + i.toNatClampNeg) (9, i.toNatClampNeg, 41 + i.toNatClampNeg) ((by decide : ∀ k, k < 16 → lh_RF[14 + k]? = some (9, k, 41 + k)) _ (lh_ixlt h))
theorem lh_pastS {F : lh_FF} {S : lh_SS} {i : Int32} (hS : lh_lay F S) (h : lh_ix i 16 = true) : S[41 + i.toNatClampNeg]? = some (10, 0) :=
  hS.1 (41 + i.toNatClampNeg) (10, 0) ((by decide : ∀ k, k < 16 → (lh_SH.take 65)[41 + k]? = some (10, 0)) _ (lh_ixlt h))
theorem lh_markF {F : lh_FF} {S : lh_SS} {i : Int32} (hS : lh_lay F S) (h : lh_ix i 4 = true) : F (10 + 4) i.toNatClampNeg = 57 + 2 * i.toNatClampNeg + 4 :=
  hS.2 (30 + i.toNatClampNeg) (10, i.toNatClampNeg, 57 + 2 * i.toNatClampNeg) ((by decide : ∀ k, k < 4 → lh_RF[30 + k]? = some (10, k, 57 + 2 * k)) _ (lh_ixlt h))
theorem lh_markS {F : lh_FF} {S : lh_SS} {i : Int32} (hS : lh_lay F S) (h : lh_ix i 4 = true) : S[57 + 2 * i.toNatClampNeg]? = some (9, 0) :=
  hS.1 (57 + 2 * i.toNatClampNeg) (9, 0) ((by decide : ∀ k, k < 4 → (lh_SH.take 65)[57 + 2 * k]? = some (9, 0)) _ (lh_ixlt h))
theorem lh_markM {F : lh_FF} {S : lh_SS} {i : Int32} (hS : lh_lay F S) (h : lh_ix i 4 = true) : S[57 + 2 * i.toNatClampNeg + 1]? = some (10, 0) :=
  hS.1 (57 + 2 * i.toNatClampNeg + 1) (10, 0) ((by decide : ∀ k, k < 4 → (lh_SH.take 65)[57 + 2 * k + 1]? = some (10, 0)) _ (lh_ixlt h))
theorem lh_markR {F : lh_FF} {S : lh_SS} {i : Int32} (hS : lh_lay F S) (h : lh_ix i 4 = true) : F (57 + 2 * i.toNatClampNeg + 4) 0 = 57 + 2 * i.toNatClampNeg + 1 + 4 :=
  hS.2 (4 + i.toNatClampNeg) (57 + 2 * i.toNatClampNeg, 0, 57 + 2 * i.toNatClampNeg + 1) ((by decide : ∀ k, k < 4 → lh_RF[4 + k]? = some (57 + 2 * k, 0, 57 + 2 * k + 1)) _ (lh_ixlt h))
def lh_fuel : Nat := 5000
