section LHRULES
variable {Γ : lh_Cx} {M : lh_M} {R : Room} {Z : List Frame → Array Value → State → State → Prop} {bc bs j pc j' t : Nat} {lv : List (Nat × Value)} {st : List Value} {h : lh_Hp}
/-- one step that touches neither heap nor locals -/
theorem lh_iadd {x y : Int32} (hj : (lh_is M)[j]? = some (pc, .iadd, 1, j', t)) (k : lh_G Γ M R Z bc bs j' lv (.int (x + y) :: st) h) : lh_G Γ M R Z bc bs j lv (.int y :: .int x :: st) h := by
  intro hM p e s m args below meth c ls H locs cells slots C hz hR hl hc hs
  obtain ⟨hd, hn⟩ := lh_fetch hM hj rfl
  have hk := k hM p e s m args below meth c ls H locs cells slots C hz hR hl hc hs
  rw [hn] at hk
  exact lv_iadd C.1 C.2.1 hd hk
theorem lh_isub {x y : Int32} (hj : (lh_is M)[j]? = some (pc, .isub, 1, j', t)) (k : lh_G Γ M R Z bc bs j' lv (.int (x - y) :: st) h) : lh_G Γ M R Z bc bs j lv (.int y :: .int x :: st) h := by
  intro hM p e s m args below meth c ls H locs cells slots C hz hR hl hc hs
  obtain ⟨hd, hn⟩ := lh_fetch hM hj rfl
  have hk := k hM p e s m args below meth c ls H locs cells slots C hz hR hl hc hs
  rw [hn] at hk
  exact lv_isub C.1 C.2.1 hd hk
theorem lh_imul {x y : Int32} (hj : (lh_is M)[j]? = some (pc, .imul, 1, j', t)) (k : lh_G Γ M R Z bc bs j' lv (.int (x * y) :: st) h) : lh_G Γ M R Z bc bs j lv (.int y :: .int x :: st) h := by
  intro hM p e s m args below meth c ls H locs cells slots C hz hR hl hc hs
  obtain ⟨hd, hn⟩ := lh_fetch hM hj rfl
  have hk := k hM p e s m args below meth c ls H locs cells slots C hz hR hl hc hs
  rw [hn] at hk
  exact lv_imul C.1 C.2.1 hd hk
theorem lh_iand {x y : Int32} (hj : (lh_is M)[j]? = some (pc, .iand, 1, j', t)) (k : lh_G Γ M R Z bc bs j' lv (.int (x &&& y) :: st) h) : lh_G Γ M R Z bc bs j lv (.int y :: .int x :: st) h := by
  intro hM p e s m args below meth c ls H locs cells slots C hz hR hl hc hs
  obtain ⟨hd, hn⟩ := lh_fetch hM hj rfl
  have hk := k hM p e s m args below meth c ls H locs cells slots C hz hR hl hc hs
  rw [hn] at hk
  exact lv_iand C.1 C.2.1 hd hk
theorem lh_ior {x y : Int32} (hj : (lh_is M)[j]? = some (pc, .ior, 1, j', t)) (k : lh_G Γ M R Z bc bs j' lv (.int (x ||| y) :: st) h) : lh_G Γ M R Z bc bs j lv (.int y :: .int x :: st) h := by
  intro hM p e s m args below meth c ls H locs cells slots C hz hR hl hc hs
  obtain ⟨hd, hn⟩ := lh_fetch hM hj rfl
  have hk := k hM p e s m args below meth c ls H locs cells slots C hz hR hl hc hs
  rw [hn] at hk
  exact lv_ior C.1 C.2.1 hd hk
theorem lh_ixor {x y : Int32} (hj : (lh_is M)[j]? = some (pc, .ixor, 1, j', t)) (k : lh_G Γ M R Z bc bs j' lv (.int (x ^^^ y) :: st) h) : lh_G Γ M R Z bc bs j lv (.int y :: .int x :: st) h := by
  intro hM p e s m args below meth c ls H locs cells slots C hz hR hl hc hs
  obtain ⟨hd, hn⟩ := lh_fetch hM hj rfl
  have hk := k hM p e s m args below meth c ls H locs cells slots C hz hR hl hc hs
  rw [hn] at hk
  exact lv_ixor C.1 C.2.1 hd hk
theorem lh_ladd {x y : Int64} (hj : (lh_is M)[j]? = some (pc, .ladd, 1, j', t)) (k : lh_G Γ M R Z bc bs j' lv (.long (x + y) :: st) h) : lh_G Γ M R Z bc bs j lv (.long y :: .long x :: st) h := by
  intro hM p e s m args below meth c ls H locs cells slots C hz hR hl hc hs
  obtain ⟨hd, hn⟩ := lh_fetch hM hj rfl
  have hk := k hM p e s m args below meth c ls H locs cells slots C hz hR hl hc hs
  rw [hn] at hk
  exact lv_ladd C.1 C.2.1 hd hk
theorem lh_lsub {x y : Int64} (hj : (lh_is M)[j]? = some (pc, .lsub, 1, j', t)) (k : lh_G Γ M R Z bc bs j' lv (.long (x - y) :: st) h) : lh_G Γ M R Z bc bs j lv (.long y :: .long x :: st) h := by
  intro hM p e s m args below meth c ls H locs cells slots C hz hR hl hc hs
  obtain ⟨hd, hn⟩ := lh_fetch hM hj rfl
  have hk := k hM p e s m args below meth c ls H locs cells slots C hz hR hl hc hs
  rw [hn] at hk
  exact lv_lsub C.1 C.2.1 hd hk
theorem lh_lmul {x y : Int64} (hj : (lh_is M)[j]? = some (pc, .lmul, 1, j', t)) (k : lh_G Γ M R Z bc bs j' lv (.long (x * y) :: st) h) : lh_G Γ M R Z bc bs j lv (.long y :: .long x :: st) h := by
  intro hM p e s m args below meth c ls H locs cells slots C hz hR hl hc hs
  obtain ⟨hd, hn⟩ := lh_fetch hM hj rfl
  have hk := k hM p e s m args below meth c ls H locs cells slots C hz hR hl hc hs
  rw [hn] at hk
  exact lv_lmul C.1 C.2.1 hd hk
theorem lh_land {x y : Int64} (hj : (lh_is M)[j]? = some (pc, .land, 1, j', t)) (k : lh_G Γ M R Z bc bs j' lv (.long (x &&& y) :: st) h) : lh_G Γ M R Z bc bs j lv (.long y :: .long x :: st) h := by
  intro hM p e s m args below meth c ls H locs cells slots C hz hR hl hc hs
  obtain ⟨hd, hn⟩ := lh_fetch hM hj rfl
  have hk := k hM p e s m args below meth c ls H locs cells slots C hz hR hl hc hs
  rw [hn] at hk
  exact lv_land C.1 C.2.1 hd hk
theorem lh_lor {x y : Int64} (hj : (lh_is M)[j]? = some (pc, .lor, 1, j', t)) (k : lh_G Γ M R Z bc bs j' lv (.long (x ||| y) :: st) h) : lh_G Γ M R Z bc bs j lv (.long y :: .long x :: st) h := by
  intro hM p e s m args below meth c ls H locs cells slots C hz hR hl hc hs
  obtain ⟨hd, hn⟩ := lh_fetch hM hj rfl
  have hk := k hM p e s m args below meth c ls H locs cells slots C hz hR hl hc hs
  rw [hn] at hk
  exact lv_lor C.1 C.2.1 hd hk
theorem lh_lxor {x y : Int64} (hj : (lh_is M)[j]? = some (pc, .lxor, 1, j', t)) (k : lh_G Γ M R Z bc bs j' lv (.long (x ^^^ y) :: st) h) : lh_G Γ M R Z bc bs j lv (.long y :: .long x :: st) h := by
  intro hM p e s m args below meth c ls H locs cells slots C hz hR hl hc hs
  obtain ⟨hd, hn⟩ := lh_fetch hM hj rfl
  have hk := k hM p e s m args below meth c ls H locs cells slots C hz hR hl hc hs
  rw [hn] at hk
  exact lv_lxor C.1 C.2.1 hd hk
theorem lh_idiv {x y : Int32} (hj : (lh_is M)[j]? = some (pc, .idiv, 1, j', t)) (hne : ¬ y = 0) (k : lh_G Γ M R Z bc bs j' lv (.int (x / y) :: st) h) : lh_G Γ M R Z bc bs j lv (.int y :: .int x :: st) h := by
  intro hM p e s m args below meth c ls H locs cells slots C hz hR hl hc hs
  obtain ⟨hd, hn⟩ := lh_fetch hM hj rfl
  have hk := k hM p e s m args below meth c ls H locs cells slots C hz hR hl hc hs
  rw [hn] at hk
  exact lv_idiv C.1 C.2.1 hd hne hk
theorem lh_irem {x y : Int32} (hj : (lh_is M)[j]? = some (pc, .irem, 1, j', t)) (hne : ¬ y = 0) (k : lh_G Γ M R Z bc bs j' lv (.int (x - x / y * y) :: st) h) : lh_G Γ M R Z bc bs j lv (.int y :: .int x :: st) h := by
  intro hM p e s m args below meth c ls H locs cells slots C hz hR hl hc hs
  obtain ⟨hd, hn⟩ := lh_fetch hM hj rfl
  have hk := k hM p e s m args below meth c ls H locs cells slots C hz hR hl hc hs
  rw [hn] at hk
  exact lv_irem C.1 C.2.1 hd hne hk
theorem lh_ldiv {x y : Int64} (hj : (lh_is M)[j]? = some (pc, .ldiv, 1, j', t)) (hne : ¬ y = 0) (k : lh_G Γ M R Z bc bs j' lv (.long (x / y) :: st) h) : lh_G Γ M R Z bc bs j lv (.long y :: .long x :: st) h := by
  intro hM p e s m args below meth c ls H locs cells slots C hz hR hl hc hs
  obtain ⟨hd, hn⟩ := lh_fetch hM hj rfl
  have hk := k hM p e s m args below meth c ls H locs cells slots C hz hR hl hc hs
  rw [hn] at hk
  exact lv_ldiv C.1 C.2.1 hd hne hk
theorem lh_lrem {x y : Int64} (hj : (lh_is M)[j]? = some (pc, .lrem, 1, j', t)) (hne : ¬ y = 0) (k : lh_G Γ M R Z bc bs j' lv (.long (x - x / y * y) :: st) h) : lh_G Γ M R Z bc bs j lv (.long y :: .long x :: st) h := by
  intro hM p e s m args below meth c ls H locs cells slots C hz hR hl hc hs
  obtain ⟨hd, hn⟩ := lh_fetch hM hj rfl
  have hk := k hM p e s m args below meth c ls H locs cells slots C hz hR hl hc hs
  rw [hn] at hk
  exact lv_lrem C.1 C.2.1 hd hne hk
theorem lh_ineg {x : Int32} (hj : (lh_is M)[j]? = some (pc, .ineg, 1, j', t)) (k : lh_G Γ M R Z bc bs j' lv (.int (-x) :: st) h) : lh_G Γ M R Z bc bs j lv (.int x :: st) h := by
  intro hM p e s m args below meth c ls H locs cells slots C hz hR hl hc hs
  obtain ⟨hd, hn⟩ := lh_fetch hM hj rfl
  have hk := k hM p e s m args below meth c ls H locs cells slots C hz hR hl hc hs
  rw [hn] at hk
  exact lv_ineg C.1 C.2.1 hd hk
theorem lh_ishl {x y : Int32} (hj : (lh_is M)[j]? = some (pc, .ishl, 1, j', t)) (k : lh_G Γ M R Z bc bs j' lv (.int (x <<< (y &&& 31)) :: st) h) : lh_G Γ M R Z bc bs j lv (.int y :: .int x :: st) h := by
  intro hM p e s m args below meth c ls H locs cells slots C hz hR hl hc hs
  obtain ⟨hd, hn⟩ := lh_fetch hM hj rfl
  have hk := k hM p e s m args below meth c ls H locs cells slots C hz hR hl hc hs
  rw [hn] at hk
  exact lv_ishl C.1 C.2.1 hd hk
theorem lh_ishr {x y : Int32} (hj : (lh_is M)[j]? = some (pc, .ishr, 1, j', t)) (k : lh_G Γ M R Z bc bs j' lv (.int (x >>> (y &&& 31)) :: st) h) : lh_G Γ M R Z bc bs j lv (.int y :: .int x :: st) h := by
  intro hM p e s m args below meth c ls H locs cells slots C hz hR hl hc hs
  obtain ⟨hd, hn⟩ := lh_fetch hM hj rfl
  have hk := k hM p e s m args below meth c ls H locs cells slots C hz hR hl hc hs
  rw [hn] at hk
  exact lv_ishr C.1 C.2.1 hd hk
theorem lh_iushr {x y : Int32} (hj : (lh_is M)[j]? = some (pc, .iushr, 1, j', t)) (k : lh_G Γ M R Z bc bs j' lv (.int ((x.toUInt32 >>> (y.toUInt32 &&& Int32.toUInt32 31)).toInt32) :: st) h) : lh_G Γ M R Z bc bs j lv (.int y :: .int x :: st) h := by
  intro hM p e s m args below meth c ls H locs cells slots C hz hR hl hc hs
  obtain ⟨hd, hn⟩ := lh_fetch hM hj rfl
  have hk := k hM p e s m args below meth c ls H locs cells slots C hz hR hl hc hs
  rw [hn] at hk
  exact lv_iushr C.1 C.2.1 hd rfl hk
theorem lh_lushr {x : Int64} {y : Int32} (hj : (lh_is M)[j]? = some (pc, .lushr, 1, j', t)) (k : lh_G Γ M R Z bc bs j' lv (.long ((x.toUInt64 >>> (y.toInt64.toUInt64 &&& Int64.toUInt64 63)).toInt64) :: st) h) : lh_G Γ M R Z bc bs j lv (.int y :: .long x :: st) h := by
  intro hM p e s m args below meth c ls H locs cells slots C hz hR hl hc hs
  obtain ⟨hd, hn⟩ := lh_fetch hM hj rfl
  have hk := k hM p e s m args below meth c ls H locs cells slots C hz hR hl hc hs
  rw [hn] at hk
  exact lv_lushr C.1 C.2.1 hd rfl hk
theorem lh_lshl {x : Int64} {y : Int32} (hj : (lh_is M)[j]? = some (pc, .lshl, 1, j', t)) (k : lh_G Γ M R Z bc bs j' lv (.long (x <<< (y.toInt64 &&& 63)) :: st) h) : lh_G Γ M R Z bc bs j lv (.int y :: .long x :: st) h := by
  intro hM p e s m args below meth c ls H locs cells slots C hz hR hl hc hs
  obtain ⟨hd, hn⟩ := lh_fetch hM hj rfl
  have hk := k hM p e s m args below meth c ls H locs cells slots C hz hR hl hc hs
  rw [hn] at hk
  exact lv_lshl C.1 C.2.1 hd rfl hk
theorem lh_lshr {x : Int64} {y : Int32} (hj : (lh_is M)[j]? = some (pc, .lshr, 1, j', t)) (k : lh_G Γ M R Z bc bs j' lv (.long (x >>> (y.toInt64 &&& 63)) :: st) h) : lh_G Γ M R Z bc bs j lv (.int y :: .long x :: st) h := by
  intro hM p e s m args below meth c ls H locs cells slots C hz hR hl hc hs
  obtain ⟨hd, hn⟩ := lh_fetch hM hj rfl
  have hk := k hM p e s m args below meth c ls H locs cells slots C hz hR hl hc hs
  rw [hn] at hk
  exact lv_lshr C.1 C.2.1 hd rfl hk
theorem lh_i2l {x : Int32} (hj : (lh_is M)[j]? = some (pc, .i2l, 1, j', t)) (k : lh_G Γ M R Z bc bs j' lv (.long x.toInt64 :: st) h) : lh_G Γ M R Z bc bs j lv (.int x :: st) h := by
  intro hM p e s m args below meth c ls H locs cells slots C hz hR hl hc hs
  obtain ⟨hd, hn⟩ := lh_fetch hM hj rfl
  have hk := k hM p e s m args below meth c ls H locs cells slots C hz hR hl hc hs
  rw [hn] at hk
  exact lv_i2l C.1 C.2.1 hd rfl hk
theorem lh_l2i {x : Int64} (hj : (lh_is M)[j]? = some (pc, .l2i, 1, j', t)) (k : lh_G Γ M R Z bc bs j' lv (.int x.toInt32 :: st) h) : lh_G Γ M R Z bc bs j lv (.long x :: st) h := by
  intro hM p e s m args below meth c ls H locs cells slots C hz hR hl hc hs
  obtain ⟨hd, hn⟩ := lh_fetch hM hj rfl
  have hk := k hM p e s m args below meth c ls H locs cells slots C hz hR hl hc hs
  rw [hn] at hk
  exact lv_l2i C.1 C.2.1 hd rfl hk
theorem lh_i2c {x : Int32} (hj : (lh_is M)[j]? = some (pc, .i2c, 1, j', t)) (k : lh_G Γ M R Z bc bs j' lv (.int (x.toUInt32 % 65536).toInt32 :: st) h) : lh_G Γ M R Z bc bs j lv (.int x :: st) h := by
  intro hM p e s m args below meth c ls H locs cells slots C hz hR hl hc hs
  obtain ⟨hd, hn⟩ := lh_fetch hM hj rfl
  have hk := k hM p e s m args below meth c ls H locs cells slots C hz hR hl hc hs
  rw [hn] at hk
  exact lv_i2c C.1 C.2.1 hd rfl hk
theorem lh_lcmp {x y : Int64} (hj : (lh_is M)[j]? = some (pc, .lcmp, 1, j', t)) (k : lh_G Γ M R Z bc bs j' lv (.int (lg_cmp x y) :: st) h) : lh_G Γ M R Z bc bs j lv (.long y :: .long x :: st) h := by
  intro hM p e s m args below meth c ls H locs cells slots C hz hR hl hc hs
  obtain ⟨hd, hn⟩ := lh_fetch hM hj rfl
  have hk := k hM p e s m args below meth c ls H locs cells slots C hz hR hl hc hs
  rw [hn] at hk
  exact W.lcmp C.1 C.2.1 hd hk
theorem lh_iconst {n : Int} {v : Int32} (hj : (lh_is M)[j]? = some (pc, .iconst n, 1, j', t)) (hv : Int32.ofInt n = v) (k : lh_G Γ M R Z bc bs j' lv (.int v :: st) h) : lh_G Γ M R Z bc bs j lv (st) h := by
  intro hM p e s m args below meth c ls H locs cells slots C hz hR hl hc hs
  obtain ⟨hd, hn⟩ := lh_fetch hM hj rfl
  have hk := k hM p e s m args below meth c ls H locs cells slots C hz hR hl hc hs
  rw [hn] at hk
  exact lv_iconst C.1 C.2.1 hd hv hk
theorem lh_bipush {n : Int} {v : Int32} (hj : (lh_is M)[j]? = some (pc, .bipush n, 2, j', t)) (hv : (Int8.ofInt n).toInt32 = v) (k : lh_G Γ M R Z bc bs j' lv (.int v :: st) h) : lh_G Γ M R Z bc bs j lv (st) h := by
  intro hM p e s m args below meth c ls H locs cells slots C hz hR hl hc hs
  obtain ⟨hd, hn⟩ := lh_fetch hM hj rfl
  have hk := k hM p e s m args below meth c ls H locs cells slots C hz hR hl hc hs
  rw [hn] at hk
  exact lv_bipush C.1 C.2.1 hd hv hk
theorem lh_sipush {n : Int} {v : Int32} (hj : (lh_is M)[j]? = some (pc, .sipush n, 3, j', t)) (hv : (Int16.ofInt n).toInt32 = v) (k : lh_G Γ M R Z bc bs j' lv (.int v :: st) h) : lh_G Γ M R Z bc bs j lv (st) h := by
  intro hM p e s m args below meth c ls H locs cells slots C hz hR hl hc hs
  obtain ⟨hd, hn⟩ := lh_fetch hM hj rfl
  have hk := k hM p e s m args below meth c ls H locs cells slots C hz hR hl hc hs
  rw [hn] at hk
  exact lv_sipush C.1 C.2.1 hd hv hk
theorem lh_lconst {n : Fin 2} {v : Int64} (hj : (lh_is M)[j]? = some (pc, .lconst n, 1, j', t)) (hv : Int64.ofNat (n : Nat) = v) (k : lh_G Γ M R Z bc bs j' lv (.long v :: st) h) : lh_G Γ M R Z bc bs j lv (st) h := by
  intro hM p e s m args below meth c ls H locs cells slots C hz hR hl hc hs
  obtain ⟨hd, hn⟩ := lh_fetch hM hj rfl
  have hk := k hM p e s m args below meth c ls H locs cells slots C hz hR hl hc hs
  rw [hn] at hk
  exact lv_lconst C.1 C.2.1 hd hv hk
theorem lh_dup {v : Value} (hj : (lh_is M)[j]? = some (pc, .dup, 1, j', t)) (hv : v.category = 1) (k : lh_G Γ M R Z bc bs j' lv (v :: v :: st) h) : lh_G Γ M R Z bc bs j lv (v :: st) h := by
  intro hM p e s m args below meth c ls H locs cells slots C hz hR hl hc hs
  obtain ⟨hd, hn⟩ := lh_fetch hM hj rfl
  have hk := k hM p e s m args below meth c ls H locs cells slots C hz hR hl hc hs
  rw [hn] at hk
  exact lv_dup C.1 C.2.1 hd (by rw [lh_tr_cat]; exact hv) hk
theorem lh_pop {v : Value} (hj : (lh_is M)[j]? = some (pc, .pop, 1, j', t)) (hv : v.category = 1) (k : lh_G Γ M R Z bc bs j' lv (st) h) : lh_G Γ M R Z bc bs j lv (v :: st) h := by
  intro hM p e s m args below meth c ls H locs cells slots C hz hR hl hc hs
  obtain ⟨hd, hn⟩ := lh_fetch hM hj rfl
  have hk := k hM p e s m args below meth c ls H locs cells slots C hz hR hl hc hs
  rw [hn] at hk
  exact lv_pop C.1 C.2.1 hd (by rw [lh_tr_cat]; exact hv) hk
theorem lh_dup2 {v w : Value} (hj : (lh_is M)[j]? = some (pc, .dup2, 1, j', t)) (hv : v.category = 1) (hw : w.category = 1) (k : lh_G Γ M R Z bc bs j' lv (v :: w :: v :: w :: st) h) : lh_G Γ M R Z bc bs j lv (v :: w :: st) h := by
  intro hM p e s m args below meth c ls H locs cells slots C hz hR hl hc hs
  obtain ⟨hd, hn⟩ := lh_fetch hM hj rfl
  have hk := k hM p e s m args below meth c ls H locs cells slots C hz hR hl hc hs
  rw [hn] at hk
  exact lv_dup2_11 C.1 C.2.1 hd (by rw [lh_tr_cat]; exact hv) (by rw [lh_tr_cat]; exact hw) hk
theorem lh_lvget {lv : List (Nat × Value)} {ls : Array Slot} {n k i : Nat} {v : Value} (hl : lv_has ls n (lh_lv Γ lv)) (hk : lv[k]? = some (i, v)) : ls[i]? = some (.val (lh_tr Γ v)) :=
  hl.2.2 (i, lh_tr Γ v) (List.mem_map.mpr ⟨(i, v), List.mem_of_getElem? hk, rfl⟩)
theorem lh_iload_n {n : Fin 4} {q i : Nat} {x : Int32} (hj : (lh_is M)[j]? = some (pc, .iload_n n, 1, j', t)) (hi : (n : Nat) = i) (hv : lv[q]? = some (i, .int x)) (k : lh_G Γ M R Z bc bs j' lv (.int x :: st) h) : lh_G Γ M R Z bc bs j lv (st) h := by
  intro hM p e s m args below meth c ls H locs cells slots C hz hR hl hc hs
  obtain ⟨hd, hn⟩ := lh_fetch hM hj rfl
  have hk := k hM p e s m args below meth c ls H locs cells slots C hz hR hl hc hs
  rw [hn] at hk
  exact lv_iload_n C.1 C.2.1 hd hi (lh_lvget hl hv) hk
theorem lh_iload {q i : Nat} {x : Int32} (hj : (lh_is M)[j]? = some (pc, .iload i, 2, j', t)) (hv : lv[q]? = some (i, .int x)) (k : lh_G Γ M R Z bc bs j' lv (.int x :: st) h) : lh_G Γ M R Z bc bs j lv (st) h := by
  intro hM p e s m args below meth c ls H locs cells slots C hz hR hl hc hs
  obtain ⟨hd, hn⟩ := lh_fetch hM hj rfl
  have hk := k hM p e s m args below meth c ls H locs cells slots C hz hR hl hc hs
  rw [hn] at hk
  exact lv_iload C.1 C.2.1 hd (lh_lvget hl hv) hk
theorem lh_lload_n {n : Fin 4} {q i : Nat} {x : Int64} (hj : (lh_is M)[j]? = some (pc, .lload_n n, 1, j', t)) (hi : (n : Nat) = i) (hv : lv[q]? = some (i, .long x)) (k : lh_G Γ M R Z bc bs j' lv (.long x :: st) h) : lh_G Γ M R Z bc bs j lv (st) h := by
  intro hM p e s m args below meth c ls H locs cells slots C hz hR hl hc hs
  obtain ⟨hd, hn⟩ := lh_fetch hM hj rfl
  have hk := k hM p e s m args below meth c ls H locs cells slots C hz hR hl hc hs
  rw [hn] at hk
  exact lv_lload_n C.1 C.2.1 hd hi (lh_lvget hl hv) hk
theorem lh_lload {q i : Nat} {x : Int64} (hj : (lh_is M)[j]? = some (pc, .lload i, 2, j', t)) (hv : lv[q]? = some (i, .long x)) (k : lh_G Γ M R Z bc bs j' lv (.long x :: st) h) : lh_G Γ M R Z bc bs j lv (st) h := by
  intro hM p e s m args below meth c ls H locs cells slots C hz hR hl hc hs
  obtain ⟨hd, hn⟩ := lh_fetch hM hj rfl
  have hk := k hM p e s m args below meth c ls H locs cells slots C hz hR hl hc hs
  rw [hn] at hk
  exact lv_lload C.1 C.2.1 hd (lh_lvget hl hv) hk
theorem lh_aload_n {n : Fin 4} {q i : Nat} {x : Nat} (hj : (lh_is M)[j]? = some (pc, .aload_n n, 1, j', t)) (hi : (n : Nat) = i) (hv : lv[q]? = some (i, .ref x)) (k : lh_G Γ M R Z bc bs j' lv (.ref x :: st) h) : lh_G Γ M R Z bc bs j lv (st) h := by
  intro hM p e s m args below meth c ls H locs cells slots C hz hR hl hc hs
  obtain ⟨hd, hn⟩ := lh_fetch hM hj rfl
  have hk := k hM p e s m args below meth c ls H locs cells slots C hz hR hl hc hs
  rw [hn] at hk
  exact lv_aload_n C.1 C.2.1 hd hi (lh_lvget hl hv) hk
theorem lh_aload {q i : Nat} {x : Nat} (hj : (lh_is M)[j]? = some (pc, .aload i, 2, j', t)) (hv : lv[q]? = some (i, .ref x)) (k : lh_G Γ M R Z bc bs j' lv (.ref x :: st) h) : lh_G Γ M R Z bc bs j lv (st) h := by
  intro hM p e s m args below meth c ls H locs cells slots C hz hR hl hc hs
  obtain ⟨hd, hn⟩ := lh_fetch hM hj rfl
  have hk := k hM p e s m args below meth c ls H locs cells slots C hz hR hl hc hs
  rw [hn] at hk
  exact lv_aload C.1 C.2.1 hd (lh_lvget hl hv) hk
def lh_ins (i : Nat) (v : Value) : List (Nat × Value) → List (Nat × Value)
  | [] => [(i, v)]
  | q :: r => match Nat.blt i q.1 with
    | true => (i, v) :: q :: r
    | false => q :: lh_ins i v r
def lh_sto (i : Nat) (v : Value) (l : List (Nat × Value)) : List (Nat × Value) := lh_ins i v (l.filter fun q => !(Nat.beq q.1 i) && !(Nat.beq (q.1 + 1) i && Nat.beq q.2.category 2))
def lh_sto2 (i : Nat) (v : Value) (l : List (Nat × Value)) : List (Nat × Value) := lh_ins i v (l.filter fun q => !(Nat.beq q.1 i) && (!(Nat.beq q.1 (i + 1)) && !(Nat.beq (q.1 + 1) i && Nat.beq q.2.category 2)))
theorem lh_ins_mem {i : Nat} {v : Value} {q : Nat × Value} : ∀ {l : List (Nat × Value)}, q ∈ lh_ins i v l → q = (i, v) ∨ q ∈ l
  | [], h => Or.inl (List.mem_singleton.mp h)
  | r :: l, h => by
    unfold lh_ins at h
    split at h
    · rcases List.mem_cons.mp h with h | h
      · exact Or.inl h
      · exact Or.inr h
    · rcases List.mem_cons.mp h with h | h
      · exact Or.inr (by rw [h]; exact List.mem_cons_self)
      · rcases lh_ins_mem h with h | h
        · exact Or.inl h
        · exact Or.inr (List.mem_cons_of_mem _ h)
theorem lh_nb (a b : Nat) : Nat.beq a b = (a == b) := by
  rw [Bool.eq_iff_iff, Nat.beq_eq, beq_iff_eq]
theorem lh_sto_has {ls : Array Slot} {n i : Nat} {v : Value} {l : List (Nat × Value)} (hl : lv_has ls n ((i, lh_tr Γ v) :: (lh_lv Γ l).filter (fun q => !(q.1 == i) && !(q.1 + 1 == i && q.2.category == 2)))) : lv_has ls n (lh_lv Γ (lh_sto i v l)) := by
  refine ⟨hl.1, hl.2.1, fun q hq => hl.2.2 q ?_⟩
  obtain ⟨r, hr, rfl⟩ := List.mem_map.mp hq
  rcases lh_ins_mem hr with h | h
  · rw [h]; exact List.mem_cons_self
  · obtain ⟨h1, h2⟩ := List.mem_filter.mp h
    refine List.mem_cons_of_mem _ (List.mem_filter.mpr ⟨List.mem_map.mpr ⟨r, h1, rfl⟩, ?_⟩)
    simp only [lh_nb] at h2
    simp only [lh_tr_cat]
    exact h2
theorem lh_sto2_has {ls : Array Slot} {n i : Nat} {v : Value} {l : List (Nat × Value)} (hl : lv_has ls n ((i, lh_tr Γ v) :: (lh_lv Γ l).filter (fun q => !(q.1 == i) && (!(q.1 == i + 1) && !(q.1 + 1 == i && q.2.category == 2))))) : lv_has ls n (lh_lv Γ (lh_sto2 i v l)) := by
  refine ⟨hl.1, hl.2.1, fun q hq => hl.2.2 q ?_⟩
  obtain ⟨r, hr, rfl⟩ := List.mem_map.mp hq
  rcases lh_ins_mem hr with h | h
  · rw [h]; exact List.mem_cons_self
  · obtain ⟨h1, h2⟩ := List.mem_filter.mp h
    refine List.mem_cons_of_mem _ (List.mem_filter.mpr ⟨List.mem_map.mpr ⟨r, h1, rfl⟩, ?_⟩)
    simp only [lh_nb] at h2
    simp only [lh_tr_cat]
    exact h2
theorem lh_istore_n {n : Fin 4} {i : Nat} {x : Int32} {lv' : List (Nat × Value)} (hj : (lh_is M)[j]? = some (pc, .istore_n n, 1, j', t)) (hi : (n : Nat) = i) (hn : Nat.ble (i + 1) (lh_mx M) = true) (hv : lh_sto i (.int x) lv = lv') (k : lh_G Γ M R Z bc bs j' lv' st h) : lh_G Γ M R Z bc bs j lv (.int x :: st) h := by
  intro hM p e s m args below meth c ls H locs cells slots C hz hR hl hc hs
  obtain ⟨hd, hn'⟩ := lh_fetch hM hj rfl
  subst hv
  refine lv_istore_n C.1 C.2.1 hd hi hl (Nat.le_of_ble_eq_true hn) rfl (fun ls' hl' => ?_)
  have hk := k hM p e s m args below meth c ls' H locs cells slots C hz hR (lh_sto_has hl') hc hs
  rw [hn'] at hk
  exact hk
theorem lh_istore {i : Nat} {x : Int32} {lv' : List (Nat × Value)} (hj : (lh_is M)[j]? = some (pc, .istore i, 2, j', t)) (hn : Nat.ble (i + 1) (lh_mx M) = true) (hv : lh_sto i (.int x) lv = lv') (k : lh_G Γ M R Z bc bs j' lv' st h) : lh_G Γ M R Z bc bs j lv (.int x :: st) h := by
  intro hM p e s m args below meth c ls H locs cells slots C hz hR hl hc hs
  obtain ⟨hd, hn'⟩ := lh_fetch hM hj rfl
  subst hv
  refine lv_istore C.1 C.2.1 hd hl (Nat.le_of_ble_eq_true hn) rfl (fun ls' hl' => ?_)
  have hk := k hM p e s m args below meth c ls' H locs cells slots C hz hR (lh_sto_has hl') hc hs
  rw [hn'] at hk
  exact hk
theorem lh_lstore_n {n : Fin 4} {i : Nat} {x : Int64} {lv' : List (Nat × Value)} (hj : (lh_is M)[j]? = some (pc, .lstore_n n, 1, j', t)) (hi : (n : Nat) = i) (hn : Nat.ble (i + 1 + 1) (lh_mx M) = true) (hv : lh_sto2 i (.long x) lv = lv') (k : lh_G Γ M R Z bc bs j' lv' st h) : lh_G Γ M R Z bc bs j lv (.long x :: st) h := by
  intro hM p e s m args below meth c ls H locs cells slots C hz hR hl hc hs
  obtain ⟨hd, hn'⟩ := lh_fetch hM hj rfl
  subst hv
  refine lv_lstore_n C.1 C.2.1 hd hi hl (Nat.le_of_ble_eq_true hn) rfl (fun ls' hl' => ?_)
  have hk := k hM p e s m args below meth c ls' H locs cells slots C hz hR (lh_sto2_has hl') hc hs
  rw [hn'] at hk
  exact hk
theorem lh_lstore {i : Nat} {x : Int64} {lv' : List (Nat × Value)} (hj : (lh_is M)[j]? = some (pc, .lstore i, 2, j', t)) (hn : Nat.ble (i + 1 + 1) (lh_mx M) = true) (hv : lh_sto2 i (.long x) lv = lv') (k : lh_G Γ M R Z bc bs j' lv' st h) : lh_G Γ M R Z bc bs j lv (.long x :: st) h := by
  intro hM p e s m args below meth c ls H locs cells slots C hz hR hl hc hs
  obtain ⟨hd, hn'⟩ := lh_fetch hM hj rfl
  subst hv
  refine lv_lstore C.1 C.2.1 hd hl (Nat.le_of_ble_eq_true hn) rfl (fun ls' hl' => ?_)
  have hk := k hM p e s m args below meth c ls' H locs cells slots C hz hR (lh_sto2_has hl') hc hs
  rw [hn'] at hk
  exact hk
theorem lh_astore_n {n : Fin 4} {i : Nat} {x : Nat} {lv' : List (Nat × Value)} (hj : (lh_is M)[j]? = some (pc, .astore_n n, 1, j', t)) (hi : (n : Nat) = i) (hn : Nat.ble (i + 1) (lh_mx M) = true) (hv : lh_sto i (.ref x) lv = lv') (k : lh_G Γ M R Z bc bs j' lv' st h) : lh_G Γ M R Z bc bs j lv (.ref x :: st) h := by
  intro hM p e s m args below meth c ls H locs cells slots C hz hR hl hc hs
  obtain ⟨hd, hn'⟩ := lh_fetch hM hj rfl
  subst hv
  refine lv_astore_n C.1 C.2.1 hd hi hl (Nat.le_of_ble_eq_true hn) rfl (fun ls' hl' => ?_)
  have hk := k hM p e s m args below meth c ls' H locs cells slots C hz hR (lh_sto_has hl') hc hs
  rw [hn'] at hk
  exact hk
theorem lh_astore {i : Nat} {x : Nat} {lv' : List (Nat × Value)} (hj : (lh_is M)[j]? = some (pc, .astore i, 2, j', t)) (hn : Nat.ble (i + 1) (lh_mx M) = true) (hv : lh_sto i (.ref x) lv = lv') (k : lh_G Γ M R Z bc bs j' lv' st h) : lh_G Γ M R Z bc bs j lv (.ref x :: st) h := by
  intro hM p e s m args below meth c ls H locs cells slots C hz hR hl hc hs
  obtain ⟨hd, hn'⟩ := lh_fetch hM hj rfl
  subst hv
  refine lv_astore C.1 C.2.1 hd hl (Nat.le_of_ble_eq_true hn) rfl (fun ls' hl' => ?_)
  have hk := k hM p e s m args below meth c ls' H locs cells slots C hz hR (lh_sto_has hl') hc hs
  rw [hn'] at hk
  exact hk
theorem lh_iinc {i q : Nat} {n : Int} {x v : Int32} {lv' : List (Nat × Value)} (hj : (lh_is M)[j]? = some (pc, .iinc i n, 3, j', t)) (hq : lv[q]? = some (i, .int x)) (hx : x + Int32.ofInt n = v) (hn : Nat.ble (i + 1) (lh_mx M) = true) (hv : lh_sto i (.int v) lv = lv') (k : lh_G Γ M R Z bc bs j' lv' st h) : lh_G Γ M R Z bc bs j lv st h := by
  intro hM p e s m args below meth c ls H locs cells slots C hz hR hl hc hs
  obtain ⟨hd, hn'⟩ := lh_fetch hM hj rfl
  subst hv
  have hq' : (lh_lv Γ lv)[q]? = some (i, .int x) := by unfold lh_lv; rw [List.getElem?_map, hq]; rfl
  refine lv_iinc C.1 C.2.1 hd hl hq' hx (Nat.le_of_ble_eq_true hn) rfl (fun ls' hl' => ?_)
  have hk := k hM p e s m args below meth c ls' H locs cells slots C hz hR (lh_sto_has (v := .int v) hl') hc hs
  rw [hn'] at hk
  exact hk
theorem lh_less {lv' : List (Nat × Value)} (ks : List Nat) (hv : lv_pick lv ks = lv') (k : lh_G Γ M R Z bc bs j lv' st h) : lh_G Γ M R Z bc bs j lv st h := by
  intro hM p e s m args below meth c ls H locs cells slots C hz hR hl hc hs
  refine k hM p e s m args below meth c ls H locs cells slots C hz hR ⟨hl.1, hl.2.1, fun q hq => hl.2.2 q ?_⟩ hc hs
  obtain ⟨r, hr, rfl⟩ := List.mem_map.mp hq
  rw [← hv] at hr
  obtain ⟨i, -, hi⟩ := List.mem_filterMap.mp hr
  exact List.mem_map.mpr ⟨r, List.mem_of_getElem? hi, rfl⟩
theorem lh_icmp_eq {x y : Int32} {off : Int} (hj : (lh_is M)[j]? = some (pc, .if_icmp .eq off, 3, j', t)) (kt : x = y → lh_G Γ M R Z bc bs t lv st h) (kf : ¬ x = y → lh_G Γ M R Z bc bs j' lv st h) : lh_G Γ M R Z bc bs j lv (.int y :: .int x :: st) h := by
  intro hM p e s m args below meth c ls H locs cells slots C hz hR hl hc hs
  obtain ⟨hd, hn⟩ := lh_fetch hM hj rfl
  have ht := lh_fetchT hM hj
  simp only [lh_tgt, decide_eq_true_eq] at ht
  refine lv_icmp_eq C.1 C.2.1 hd ht (fun q => kt q hM p e s m args below meth c ls H locs cells slots C hz hR hl hc hs) (fun q => ?_)
  have hk := kf q hM p e s m args below meth c ls H locs cells slots C hz hR hl hc hs
  rw [hn] at hk
  exact hk
theorem lh_if_eq {x : Int32} {off : Int} (hj : (lh_is M)[j]? = some (pc, .ifCond .eq off, 3, j', t)) (kt : x = 0 → lh_G Γ M R Z bc bs t lv st h) (kf : ¬ x = 0 → lh_G Γ M R Z bc bs j' lv st h) : lh_G Γ M R Z bc bs j lv (.int x :: st) h := by
  intro hM p e s m args below meth c ls H locs cells slots C hz hR hl hc hs
  obtain ⟨hd, hn⟩ := lh_fetch hM hj rfl
  have ht := lh_fetchT hM hj
  simp only [lh_tgt, decide_eq_true_eq] at ht
  refine lv_if_eq C.1 C.2.1 hd ht (fun q => kt q hM p e s m args below meth c ls H locs cells slots C hz hR hl hc hs) (fun q => ?_)
  have hk := kf q hM p e s m args below meth c ls H locs cells slots C hz hR hl hc hs
  rw [hn] at hk
  exact hk
theorem lh_icmp_ne {x y : Int32} {off : Int} (hj : (lh_is M)[j]? = some (pc, .if_icmp .ne off, 3, j', t)) (kt : ¬ x = y → lh_G Γ M R Z bc bs t lv st h) (kf : x = y → lh_G Γ M R Z bc bs j' lv st h) : lh_G Γ M R Z bc bs j lv (.int y :: .int x :: st) h := by
  intro hM p e s m args below meth c ls H locs cells slots C hz hR hl hc hs
  obtain ⟨hd, hn⟩ := lh_fetch hM hj rfl
  have ht := lh_fetchT hM hj
  simp only [lh_tgt, decide_eq_true_eq] at ht
  refine lv_icmp_ne C.1 C.2.1 hd ht (fun q => kt q hM p e s m args below meth c ls H locs cells slots C hz hR hl hc hs) (fun q => ?_)
  have hk := kf q hM p e s m args below meth c ls H locs cells slots C hz hR hl hc hs
  rw [hn] at hk
  exact hk
theorem lh_if_ne {x : Int32} {off : Int} (hj : (lh_is M)[j]? = some (pc, .ifCond .ne off, 3, j', t)) (kt : ¬ x = 0 → lh_G Γ M R Z bc bs t lv st h) (kf : x = 0 → lh_G Γ M R Z bc bs j' lv st h) : lh_G Γ M R Z bc bs j lv (.int x :: st) h := by
  intro hM p e s m args below meth c ls H locs cells slots C hz hR hl hc hs
  obtain ⟨hd, hn⟩ := lh_fetch hM hj rfl
  have ht := lh_fetchT hM hj
  simp only [lh_tgt, decide_eq_true_eq] at ht
  refine lv_if_ne C.1 C.2.1 hd ht (fun q => kt q hM p e s m args below meth c ls H locs cells slots C hz hR hl hc hs) (fun q => ?_)
  have hk := kf q hM p e s m args below meth c ls H locs cells slots C hz hR hl hc hs
  rw [hn] at hk
  exact hk
theorem lh_icmp_lt {x y : Int32} {off : Int} (hj : (lh_is M)[j]? = some (pc, .if_icmp .lt off, 3, j', t)) (kt : x < y → lh_G Γ M R Z bc bs t lv st h) (kf : ¬ x < y → lh_G Γ M R Z bc bs j' lv st h) : lh_G Γ M R Z bc bs j lv (.int y :: .int x :: st) h := by
  intro hM p e s m args below meth c ls H locs cells slots C hz hR hl hc hs
  obtain ⟨hd, hn⟩ := lh_fetch hM hj rfl
  have ht := lh_fetchT hM hj
  simp only [lh_tgt, decide_eq_true_eq] at ht
  refine lv_icmp_lt C.1 C.2.1 hd ht (fun q => kt q hM p e s m args below meth c ls H locs cells slots C hz hR hl hc hs) (fun q => ?_)
  have hk := kf q hM p e s m args below meth c ls H locs cells slots C hz hR hl hc hs
  rw [hn] at hk
  exact hk
theorem lh_if_lt {x : Int32} {off : Int} (hj : (lh_is M)[j]? = some (pc, .ifCond .lt off, 3, j', t)) (kt : x < 0 → lh_G Γ M R Z bc bs t lv st h) (kf : ¬ x < 0 → lh_G Γ M R Z bc bs j' lv st h) : lh_G Γ M R Z bc bs j lv (.int x :: st) h := by
  intro hM p e s m args below meth c ls H locs cells slots C hz hR hl hc hs
  obtain ⟨hd, hn⟩ := lh_fetch hM hj rfl
  have ht := lh_fetchT hM hj
  simp only [lh_tgt, decide_eq_true_eq] at ht
  refine lv_if_lt C.1 C.2.1 hd ht (fun q => kt q hM p e s m args below meth c ls H locs cells slots C hz hR hl hc hs) (fun q => ?_)
  have hk := kf q hM p e s m args below meth c ls H locs cells slots C hz hR hl hc hs
  rw [hn] at hk
  exact hk
theorem lh_icmp_ge {x y : Int32} {off : Int} (hj : (lh_is M)[j]? = some (pc, .if_icmp .ge off, 3, j', t)) (kt : y ≤ x → lh_G Γ M R Z bc bs t lv st h) (kf : ¬ y ≤ x → lh_G Γ M R Z bc bs j' lv st h) : lh_G Γ M R Z bc bs j lv (.int y :: .int x :: st) h := by
  intro hM p e s m args below meth c ls H locs cells slots C hz hR hl hc hs
  obtain ⟨hd, hn⟩ := lh_fetch hM hj rfl
  have ht := lh_fetchT hM hj
  simp only [lh_tgt, decide_eq_true_eq] at ht
  refine lv_icmp_ge C.1 C.2.1 hd ht (fun q => kt q hM p e s m args below meth c ls H locs cells slots C hz hR hl hc hs) (fun q => ?_)
  have hk := kf q hM p e s m args below meth c ls H locs cells slots C hz hR hl hc hs
  rw [hn] at hk
  exact hk
theorem lh_if_ge {x : Int32} {off : Int} (hj : (lh_is M)[j]? = some (pc, .ifCond .ge off, 3, j', t)) (kt : 0 ≤ x → lh_G Γ M R Z bc bs t lv st h) (kf : ¬ 0 ≤ x → lh_G Γ M R Z bc bs j' lv st h) : lh_G Γ M R Z bc bs j lv (.int x :: st) h := by
  intro hM p e s m args below meth c ls H locs cells slots C hz hR hl hc hs
  obtain ⟨hd, hn⟩ := lh_fetch hM hj rfl
  have ht := lh_fetchT hM hj
  simp only [lh_tgt, decide_eq_true_eq] at ht
  refine lv_if_ge C.1 C.2.1 hd ht (fun q => kt q hM p e s m args below meth c ls H locs cells slots C hz hR hl hc hs) (fun q => ?_)
  have hk := kf q hM p e s m args below meth c ls H locs cells slots C hz hR hl hc hs
  rw [hn] at hk
  exact hk
theorem lh_icmp_gt {x y : Int32} {off : Int} (hj : (lh_is M)[j]? = some (pc, .if_icmp .gt off, 3, j', t)) (kt : y < x → lh_G Γ M R Z bc bs t lv st h) (kf : ¬ y < x → lh_G Γ M R Z bc bs j' lv st h) : lh_G Γ M R Z bc bs j lv (.int y :: .int x :: st) h := by
  intro hM p e s m args below meth c ls H locs cells slots C hz hR hl hc hs
  obtain ⟨hd, hn⟩ := lh_fetch hM hj rfl
  have ht := lh_fetchT hM hj
  simp only [lh_tgt, decide_eq_true_eq] at ht
  refine lv_icmp_gt C.1 C.2.1 hd ht (fun q => kt q hM p e s m args below meth c ls H locs cells slots C hz hR hl hc hs) (fun q => ?_)
  have hk := kf q hM p e s m args below meth c ls H locs cells slots C hz hR hl hc hs
  rw [hn] at hk
  exact hk
theorem lh_if_gt {x : Int32} {off : Int} (hj : (lh_is M)[j]? = some (pc, .ifCond .gt off, 3, j', t)) (kt : 0 < x → lh_G Γ M R Z bc bs t lv st h) (kf : ¬ 0 < x → lh_G Γ M R Z bc bs j' lv st h) : lh_G Γ M R Z bc bs j lv (.int x :: st) h := by
  intro hM p e s m args below meth c ls H locs cells slots C hz hR hl hc hs
  obtain ⟨hd, hn⟩ := lh_fetch hM hj rfl
  have ht := lh_fetchT hM hj
  simp only [lh_tgt, decide_eq_true_eq] at ht
  refine lv_if_gt C.1 C.2.1 hd ht (fun q => kt q hM p e s m args below meth c ls H locs cells slots C hz hR hl hc hs) (fun q => ?_)
  have hk := kf q hM p e s m args below meth c ls H locs cells slots C hz hR hl hc hs
  rw [hn] at hk
  exact hk
theorem lh_icmp_le {x y : Int32} {off : Int} (hj : (lh_is M)[j]? = some (pc, .if_icmp .le off, 3, j', t)) (kt : x ≤ y → lh_G Γ M R Z bc bs t lv st h) (kf : ¬ x ≤ y → lh_G Γ M R Z bc bs j' lv st h) : lh_G Γ M R Z bc bs j lv (.int y :: .int x :: st) h := by
  intro hM p e s m args below meth c ls H locs cells slots C hz hR hl hc hs
  obtain ⟨hd, hn⟩ := lh_fetch hM hj rfl
  have ht := lh_fetchT hM hj
  simp only [lh_tgt, decide_eq_true_eq] at ht
  refine lv_icmp_le C.1 C.2.1 hd ht (fun q => kt q hM p e s m args below meth c ls H locs cells slots C hz hR hl hc hs) (fun q => ?_)
  have hk := kf q hM p e s m args below meth c ls H locs cells slots C hz hR hl hc hs
  rw [hn] at hk
  exact hk
theorem lh_if_le {x : Int32} {off : Int} (hj : (lh_is M)[j]? = some (pc, .ifCond .le off, 3, j', t)) (kt : x ≤ 0 → lh_G Γ M R Z bc bs t lv st h) (kf : ¬ x ≤ 0 → lh_G Γ M R Z bc bs j' lv st h) : lh_G Γ M R Z bc bs j lv (.int x :: st) h := by
  intro hM p e s m args below meth c ls H locs cells slots C hz hR hl hc hs
  obtain ⟨hd, hn⟩ := lh_fetch hM hj rfl
  have ht := lh_fetchT hM hj
  simp only [lh_tgt, decide_eq_true_eq] at ht
  refine lv_if_le C.1 C.2.1 hd ht (fun q => kt q hM p e s m args below meth c ls H locs cells slots C hz hR hl hc hs) (fun q => ?_)
  have hk := kf q hM p e s m args below meth c ls H locs cells slots C hz hR hl hc hs
  rw [hn] at hk
  exact hk
theorem lh_goto {off : Int} (hj : (lh_is M)[j]? = some (pc, .goto off, 3, j', t)) (k : lh_G Γ M R Z bc bs t lv st h) : lh_G Γ M R Z bc bs j lv st h := by
  intro hM p e s m args below meth c ls H locs cells slots C hz hR hl hc hs
  have hd := lh_fetchE hM hj
  have ht := lh_fetchT hM hj
  simp only [lh_tgt, decide_eq_true_eq] at ht
  exact lv_goto C.1 C.2.1 hd ht (k hM p e s m args below meth c ls H locs cells slots C hz hR hl hc hs)
end LHRULES
