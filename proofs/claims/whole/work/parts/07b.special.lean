section LHSPEC
variable {Γ : lh_Cx} {M : lh_M} {R : Room} {Z : List Frame → Array Value → State → State → Prop} {bc bs j pc j' t : Nat} {lv : List (Nat × Value)} {st : List Value} {h : lh_Hp}
/-- Object's constructor; the three of Math -/
theorem lh_objInit {i idx o : Nat} (hj : (lh_is M)[j]? = some (pc, .invokespecial idx, 3, j', i)) (hl : ((lh_ct M).2.2.1)[i]? = some (idx, Lib.objectInit)) (hd : Nat.ble 1 R.frames = true ∧ Nat.ble 32 R.locals = true) (hst : Nat.ble ((st.map fun v => v.category).sum) 8 = true)
    (k : lh_G Γ M R Z bc bs j' lv st h) : lh_G Γ M R Z bc bs j lv (.ref o :: st) h := by
  intro hM p e s m args below meth c ls H locs cells slots C hz hR hv hc hs
  obtain ⟨hdc, hn⟩ := lh_fetch hM hj rfl
  have hk := k hM p e s m args below meth c ls H locs cells slots C hz hR hv hc hs
  rw [hn] at hk
  have hd1 := Nat.le_of_ble_eq_true hd.1
  have hd2 := Nat.le_of_ble_eq_true hd.2
  have hst' := Nat.le_of_ble_eq_true hst
  have w1 : Cond.instanceMethod Lib.objectInit ∈ lh_T := lh_mem_T (by decide +kernel)
  have w2 : Cond.code Lib.objectInit ⟨#[0xb1]⟩ 1 none ∈ lh_T := lh_cd_T 1 31 rfl rfl
  exact W.objInit C.1 C.2.1 C.2.2.2.2.1 (C.2.2.2.2.2.1 _ (lh_link hM hl)) (C.2.2.2.2.2.1 _ w1) (C.2.2.2.2.2.1 _ w2) rfl (by rw [C.2.2.2.1]; exact hv.1) rfl hdc hd1 (by rw [lh_tr_sum]; show 2 * 0 + _ + 12 ≤ _; omega) hk
theorem lh_max {i idx : Nat} {x y : Int32} (hj : (lh_is M)[j]? = some (pc, .invokestatic idx, 3, j', i)) (hl : ((lh_ct M).2.2.1)[i]? = some (idx, Lib.Math.max.name)) (hd : Nat.ble 1 R.frames = true ∧ Nat.ble 32 R.locals = true) (hst : Nat.ble ((st.map fun v => v.category).sum) 8 = true)
    (k : lh_G Γ M R Z bc bs j' lv (.int (if x < y then y else x) :: st) h) : lh_G Γ M R Z bc bs j lv (.int y :: .int x :: st) h := by
  intro hM p e s m args below meth c ls H locs cells slots C hz hR hv hc hs
  obtain ⟨hdc, hn⟩ := lh_fetch hM hj rfl
  have hk := k hM p e s m args below meth c ls H locs cells slots C hz hR hv hc hs
  rw [hn] at hk
  have hd1 := Nat.le_of_ble_eq_true hd.1
  have hd2 := Nat.le_of_ble_eq_true hd.2
  have hst' := Nat.le_of_ble_eq_true hst
  have w1 : Cond.static Lib.Math.max.name ∈ lh_T := lh_mem_T (by decide +kernel)
  have w3 : Cond.initialized "java/lang/Math" ∈ lh_T := lh_mem_T (by decide +kernel)
  have w2 : Cond.code Lib.Math.max.name Lib.Math.max.code 2 (some .int) ∈ lh_T := lh_mem_T (by decide +kernel)
  exact va_mmax C.1 C.2.1 (by rw [C.2.2.2.1, hv.1]) C.2.2.2.2.1 (C.2.2.2.2.2.1 _ (lh_link hM hl)) (C.2.2.2.2.2.1 _ w1) (C.2.2.2.2.2.1 _ w3) (C.2.2.2.2.2.1 _ w2) hd1 (by rw [lh_tr_sum]; omega) (by omega) (by omega) hdc hk
theorem lh_min {i idx : Nat} {x y : Int32} (hj : (lh_is M)[j]? = some (pc, .invokestatic idx, 3, j', i)) (hl : ((lh_ct M).2.2.1)[i]? = some (idx, Lib.Math.min.name)) (hd : Nat.ble 1 R.frames = true ∧ Nat.ble 32 R.locals = true) (hst : Nat.ble ((st.map fun v => v.category).sum) 8 = true)
    (k : lh_G Γ M R Z bc bs j' lv (.int (if y < x then y else x) :: st) h) : lh_G Γ M R Z bc bs j lv (.int y :: .int x :: st) h := by
  intro hM p e s m args below meth c ls H locs cells slots C hz hR hv hc hs
  obtain ⟨hdc, hn⟩ := lh_fetch hM hj rfl
  have hk := k hM p e s m args below meth c ls H locs cells slots C hz hR hv hc hs
  rw [hn] at hk
  have hd1 := Nat.le_of_ble_eq_true hd.1
  have hd2 := Nat.le_of_ble_eq_true hd.2
  have hst' := Nat.le_of_ble_eq_true hst
  have w1 : Cond.static Lib.Math.min.name ∈ lh_T := lh_mem_T (by decide +kernel)
  have w3 : Cond.initialized "java/lang/Math" ∈ lh_T := lh_mem_T (by decide +kernel)
  have w2 : Cond.code Lib.Math.min.name Lib.Math.min.code 2 (some .int) ∈ lh_T := lh_mem_T (by decide +kernel)
  exact va_mmin C.1 C.2.1 (by rw [C.2.2.2.1, hv.1]) C.2.2.2.2.1 (C.2.2.2.2.2.1 _ (lh_link hM hl)) (C.2.2.2.2.2.1 _ w1) (C.2.2.2.2.2.1 _ w3) (C.2.2.2.2.2.1 _ w2) hd1 (by rw [lh_tr_sum]; omega) (by omega) (by omega) hdc hk
theorem lh_abs {i idx : Nat} {x : Int32} (hj : (lh_is M)[j]? = some (pc, .invokestatic idx, 3, j', i)) (hl : ((lh_ct M).2.2.1)[i]? = some (idx, Lib.Math.abs.name)) (hd : Nat.ble 1 R.frames = true ∧ Nat.ble 32 R.locals = true) (hst : Nat.ble ((st.map fun v => v.category).sum) 8 = true)
    (k : lh_G Γ M R Z bc bs j' lv (.int (if 0 ≤ x then x else 0 - x) :: st) h) : lh_G Γ M R Z bc bs j lv (.int x :: st) h := by
  intro hM p e s m args below meth c ls H locs cells slots C hz hR hv hc hs
  obtain ⟨hdc, hn⟩ := lh_fetch hM hj rfl
  have hk := k hM p e s m args below meth c ls H locs cells slots C hz hR hv hc hs
  rw [hn] at hk
  have hd1 := Nat.le_of_ble_eq_true hd.1
  have hd2 := Nat.le_of_ble_eq_true hd.2
  have hst' := Nat.le_of_ble_eq_true hst
  have w1 : Cond.static Lib.Math.abs.name ∈ lh_T := lh_mem_T (by decide +kernel)
  have w3 : Cond.initialized "java/lang/Math" ∈ lh_T := lh_mem_T (by decide +kernel)
  have w2 : Cond.code Lib.Math.abs.name Lib.Math.abs.code 1 (some .int) ∈ lh_T := lh_mem_T (by decide +kernel)
  exact va_mabs C.1 C.2.1 (by rw [C.2.2.2.1, hv.1]) C.2.2.2.2.1 (C.2.2.2.2.2.1 _ (lh_link hM hl)) (C.2.2.2.2.2.1 _ w1) (C.2.2.2.2.2.1 _ w3) (C.2.2.2.2.2.1 _ w2) hd1 (by rw [lh_tr_sum]; omega) (by omega) (by omega) hdc hk
end LHSPEC
