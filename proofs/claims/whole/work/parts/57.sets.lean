/-! sets of sets as longs -/
def bl (x : Int64) (i : Nat) : Bool := x.toBitVec.getLsbD i
theorem bl_ext {x y : Int64} (h : ∀ i, i < 64 → bl x i = bl y i) : x = y := Int64.toBitVec_inj.mp (BitVec.eq_of_getLsbD_eq (fun i hi => h i hi))
theorem bl_or (x y : Int64) (i : Nat) : bl (x ||| y) i = (bl x i || bl y i) := by unfold bl; rw [Int64.toBitVec_or, BitVec.getLsbD_or]
theorem bl_and (x y : Int64) (i : Nat) : bl (x &&& y) i = (bl x i && bl y i) := by unfold bl; rw [Int64.toBitVec_and, BitVec.getLsbD_and]
theorem bl_xor (x y : Int64) (i : Nat) : bl (x ^^^ y) i = (bl x i ^^ bl y i) := by unfold bl; rw [Int64.toBitVec_xor, BitVec.getLsbD_xor]
theorem bl_0 (i : Nat) : bl 0 i = false := BitVec.getLsbD_zero
theorem bl_1 : ∀ i, i < 64 → bl 1 i = decide (i = 0) := by decide +kernel
theorem bl_m1 : ∀ i, i < 64 → bl (-1) i = true := by decide +kernel
theorem bl_s : ∀ k, k < 64 → (((nI k).toInt64 &&& 63).toBitVec.smod 64).toNat = k := by decide +kernel
theorem bl_shl {k : Nat} (hk : k < 64) (x : Int64) {i : Nat} (hi : i < 64) : bl (x <<< ((nI k).toInt64 &&& 63)) i = (decide (k ≤ i) && bl x (i - k)) := by
  unfold bl
  rw [Int64.toBitVec_shiftLeft]
  show (x.toBitVec <<< (((nI k).toInt64 &&& 63).toBitVec.smod 64).toNat).getLsbD i = _
  rw [bl_s k hk, BitVec.getLsbD_shiftLeft]
  rcases Nat.lt_or_ge i k with h | h
  · simp [h, Nat.not_le.mpr h]
  · simp [hi, h, Nat.not_lt.mpr h]
theorem bl_sshr {k : Nat} (hk : k < 64) (x : Int64) {i : Nat} (hi : i < 64) : bl (x >>> ((nI k).toInt64 &&& 63)) i = if k + i < 64 then bl x (k + i) else bl x 63 := by
  unfold bl
  rw [Int64.toBitVec_shiftRight]
  show (x.toBitVec.sshiftRight (((nI k).toInt64 &&& 63).toBitVec.smod 64).toNat).getLsbD i = _
  rw [bl_s k hk, BitVec.getLsbD_sshiftRight, BitVec.msb_eq_getLsbD_last]
  simp [hi]
theorem bl_one {k : Nat} (hk : k < 64) {i : Nat} (hi : i < 64) : bl ((1 : Int64) <<< ((nI k).toInt64 &&& 63)) i = decide (i = k) := by
  rw [bl_shl hk _ hi, bl_1 _ (by omega)]
  by_cases h : k ≤ i
  · by_cases e : i = k
    · simp [e]
    · simp [h, e]; omega
  · simp [h]; omega
theorem bl_bit {k : Nat} (hk : k < 64) (x : Int64) : ((x >>> ((nI k).toInt64 &&& 63)) &&& 1 = 1) = (bl x k = true) := by
  have h0 : ∀ i, i < 64 → bl ((x >>> ((nI k).toInt64 &&& 63)) &&& 1) i = (decide (i = 0) && bl x k) := by
    intro i hi
    rw [bl_and, bl_sshr hk _ hi, bl_1 i hi]
    by_cases e : i = 0
    · subst e; rw [if_pos (by omega)]; simp
    · simp [e]
  apply propext
  constructor
  · intro e
    have := h0 0 (by omega)
    rw [e] at this
    simpa [bl_1 0 (by omega)] using this.symm
  · intro e
    apply bl_ext
    intro i hi
    rw [h0 i hi, e, bl_1 i hi, Bool.and_true]
theorem bl_zero {x : Int64} : (x = 0) = ∀ i, i < 64 → bl x i = false := by
  apply propext
  constructor
  · intro e i _; rw [e, bl_0]
  · intro e; exact bl_ext (fun i hi => by rw [e i hi, bl_0])
/-- all sets, joined by s -/
def q_jn (x : Int64) (s : Nat) : Nat → Bool := fun i => q_any (fun k => bl x k && decide (k ||| s = i)) 64
theorem q_or64 {k s : Nat} (hk : k < 64) (hs : s < 64) : k ||| s < 64 := Nat.or_lt_two_pow (n := 6) hk hs
theorem m_joined (x : Int64) {s : Nat} (hs : s < 64) : ∃ y, f_LM_joined x (nI s) = some y ∧ ∀ i, i < 64 → bl y i = q_jn x s i := by
  have key := q_forI (F := fun n k (y : Int64) => f_LM_joined_4 x (nI s) n y (nI k)) (N := 64) (P := fun n y => ∀ i, i < 64 → bl y i = q_any (fun k => bl x k && decide (k ||| s = i)) n) (Q := fun y => ∀ i, i < 64 → bl y i = q_jn x s i) (fun n k y hk hy => by
    have hks := q_or64 hk hs
    have ec : (lg_cmp ((x >>> ((nI k).toInt64 &&& 63)) &&& 1) (1 : Int64) = 0) = (bl x k = true) := by rw [← bl_bit hk]; exact propext (lg_cmp_eq _ _)
    cases hb : bl x k with
    | true =>
      refine ⟨y ||| ((1 : Int64) <<< ((nI (k ||| s)).toInt64 &&& 63)), fun i hi => ?_, ?_⟩
      · rw [bl_or, hy i hi, bl_one hks hi, q_any_succ, hb]
        simp [eq_comm]
      · simp (disch := omega) only [f_LM_joined_4, ec, hb, z_or, show ¬ 64 ≤ k by omega, z_leL, z_addL, z_bs, z_gd, z_b1, z_b0, z_10, z_01, eq_self, reduceCtorEq, ↓reduceIte, if_true, if_false, Nat.not_lt_zero, not_true_eq_false, not_false_eq_true, Bool.false_eq_true, Nat.le_refl, Nat.lt_irrefl]
    | false =>
      refine ⟨y ||| 0, fun i hi => ?_, ?_⟩
      · rw [bl_or, bl_0, hy i hi, q_any_succ, hb]; simp
      · simp (disch := omega) only [f_LM_joined_4, ec, hb, show ¬ 64 ≤ k by omega, z_leL, z_addL, z_bs, z_gd, z_b1, z_b0, z_10, z_01, eq_self, reduceCtorEq, ↓reduceIte, if_true, if_false, Nat.not_lt_zero, not_true_eq_false, not_false_eq_true, Bool.false_eq_true, Nat.le_refl, Nat.lt_irrefl]) (fun n y hy => by
    refine ⟨y, ?_, hy⟩
    simp (disch := omega) only [f_LM_joined_4, z_le, z_lt, z_eq, z_leL, z_leR, z_ltL, z_ltR, z_eqR, z_eqL, z_m1, z_m1s, z_m1le, z_m1lt, z_m1lt0, z_m1le0, z_0lem1, z_m1lek, z_add, z_addL, z_addR, z_mulR, z_sub, z_subL, z_gd, z_ix, z_cl, z_or0, z_add0, z_bs, z_gd, z_b1, z_b0, z_10, z_01, eq_self, reduceCtorEq, ↓reduceIte, if_true, if_false, Nat.not_lt_zero, not_true_eq_false, not_false_eq_true, Bool.false_eq_true, Nat.le_refl, Nat.lt_irrefl]) 64 lh_fuel 0 0 rfl (by decide) (fun i hi => by rw [bl_0]; rfl)
  obtain ⟨y, e, h⟩ := key
  have e' : f_LM_joined_4 x (nI s) lh_fuel 0 0 = some y := e
  exact ⟨y, by rw [f_LM_joined, e', q_bs], h⟩
theorem bl_sets : ∀ j, j < 6 → ∀ i, i < 64 → bl (lh_sets j) i = i.testBit j := by decide +kernel
/-- with who is seen, one by one -/
theorem q_or_step {k s j i : Nat} (hk : k < 64) (hj : j < 6) : (k ||| (s % 2 ^ j) ||| 2 ^ j = i) ↔ (k ||| (s % 2 ^ j ||| 2 ^ j) = i) := by rw [Nat.or_assoc]
theorem q_mod_bit (s j : Nat) : s % 2 ^ (j + 1) = if s.testBit j = true then s % 2 ^ j ||| 2 ^ j else s % 2 ^ j := by
  apply Nat.eq_of_testBit_eq
  intro i
  rw [Nat.testBit_mod_two_pow]
  split
  · next h =>
    rw [fb_bit_set, Nat.testBit_mod_two_pow]
    by_cases e : i = j
    · subst e; simp [h]
    · have : decide (i < j + 1) = decide (i < j) := by rw [decide_eq_decide]; omega
      rw [this]; simp [e]
  · next h =>
    rw [Nat.testBit_mod_two_pow]
    by_cases e : i = j
    · subst e; simp at h; simp [h]
    · have : decide (i < j + 1) = decide (i < j) := by rw [decide_eq_decide]; omega
      rw [this]
theorem q_tb_sub : ∀ j, j < 6 → ∀ i, i < 64 → i.testBit j = true → 2 ^ j ≤ i ∧ (i - 2 ^ j).testBit j = false ∧ (i - 2 ^ j) ||| 2 ^ j = i := by decide +kernel
theorem q_tb_or2 : ∀ j, j < 6 → ∀ i, i < 64 → i.testBit j = true → i ||| 2 ^ j = i := by decide +kernel
theorem q_tb_add : ∀ j, j < 6 → ∀ i, i < 64 → i.testBit j = false → i ||| 2 ^ j = i + 2 ^ j ∧ i + 2 ^ j < 64 := by decide +kernel
theorem q_ws_bit {v : Int64} {j i : Nat} (hj : j < 6) (hi : i < 64) : bl ((v &&& lh_sets j) ||| ((v &&& (lh_sets j ^^^ (-1))) <<< ((nI (2 ^ j)).toInt64 &&& 63))) i = q_any (fun k => bl v k && decide (k ||| 2 ^ j = i)) 64 := by
  have h2 : 2 ^ j < 64 := Nat.lt_of_lt_of_le (Nat.pow_lt_pow_right (by decide) hj) (by decide)
  rw [bl_or, bl_and, bl_shl h2 _ hi, bl_sets j hj i hi, Bool.eq_iff_iff, q_any_iff]
  have hx : ∀ k, k < 64 → bl (v &&& (lh_sets j ^^^ (-1))) k = (bl v k && !k.testBit j) := fun k hk => by rw [bl_and, bl_xor, bl_m1 k hk, bl_sets j hj k hk, Bool.xor_true]
  constructor
  · intro h
    simp only [Bool.or_eq_true, Bool.and_eq_true, decide_eq_true_eq] at h
    rcases h with h | h
    · exact ⟨i, hi, by simp [h.1, q_tb_or2 j hj i hi h.2]⟩
    · have hlt : i - 2 ^ j < 64 := Nat.lt_of_le_of_lt (Nat.sub_le _ _) hi
      rw [hx _ hlt] at h
      simp only [Bool.and_eq_true, Bool.not_eq_true'] at h
      have := q_tb_add j hj (i - 2 ^ j) hlt h.2.2
      refine ⟨i - 2 ^ j, hlt, ?_⟩
      simp only [h.2.1, Bool.true_and, decide_eq_true_eq]
      rw [this.1, Nat.sub_add_cancel h.1]
  · rintro ⟨k, hk, h⟩
    simp only [Bool.and_eq_true, decide_eq_true_eq] at h
    simp only [Bool.or_eq_true, Bool.and_eq_true, decide_eq_true_eq]
    by_cases hb : k.testBit j = true
    · have := q_tb_or2 j hj k hk hb
      rw [this] at h
      rw [← h.2]
      exact Or.inl ⟨h.1, hb⟩
    · have hb' : k.testBit j = false := by simpa using hb
      have := q_tb_add j hj k hk hb'
      have hi2 : i = k + 2 ^ j := by rw [← h.2, this.1]
      refine Or.inr ⟨by rw [hi2]; exact Nat.le_add_left _ _, ?_⟩
      rw [show i - 2 ^ j = k by rw [hi2, Nat.add_sub_cancel], hx k hk, h.1, hb']; rfl
theorem e_withSeen (x : Int64) {s : Nat} (hs : s < 64) (L : lh_LL) : ∃ y, f_Wa_withSeen x (nI s) L = some y ∧ ∀ i, i < 64 → bl y i = q_jn x s i := by
  have key := q_forI (F := fun n j (y : Int64) => f_Wa_withSeen_4 (nI s) L n y (nI j)) (N := 6) (P := fun j y => ∀ i, i < 64 → bl y i = q_any (fun k => bl x k && decide (k ||| (s % 2 ^ j) = i)) 64) (Q := fun y => ∀ i, i < 64 → bl y i = q_jn x s i) (fun n j y hj hy => by
    have e1 : ((1 : Int32) <<< (nI j &&& 31)) = nI (2 ^ j) := z_sh1 (by omega)
    cases hb : s.testBit j with
    | true =>
      refine ⟨(y &&& lh_sets j) ||| ((y &&& (lh_sets j ^^^ (-1))) <<< ((nI (2 ^ j)).toInt64 &&& 63)), fun i hi => ?_, ?_⟩
      · rw [q_ws_bit hj hi, q_mod_bit, hb, if_pos rfl, Bool.eq_iff_iff, q_any_iff, q_any_iff]
        constructor
        · rintro ⟨k, hk, h⟩
          rw [hy k hk] at h
          simp only [Bool.and_eq_true, decide_eq_true_eq, q_any_iff] at h
          obtain ⟨⟨k2, hk2, h2⟩, h3⟩ := h
          refine ⟨k2, hk2, ?_⟩
          simp only [h2.1, Bool.true_and, decide_eq_true_eq]
          rw [← Nat.or_assoc, h2.2, h3]
        · rintro ⟨k, hk, h⟩
          simp only [Bool.and_eq_true, decide_eq_true_eq] at h
          have h6 : k ||| s % 2 ^ j < 64 := q_or64 hk (Nat.lt_of_le_of_lt (Nat.mod_le _ _) hs)
          refine ⟨k ||| s % 2 ^ j, h6, ?_⟩
          rw [hy _ h6]
          simp only [Bool.and_eq_true, decide_eq_true_eq, q_any_iff]
          exact ⟨⟨k, hk, h.1, rfl⟩, by rw [Nat.or_assoc]; exact h.2⟩
      · simp (disch := omega) only [f_Wa_withSeen_4, z_bit1, hb, e1, show ¬ 6 ≤ j by omega, z_le, z_lt, z_eq, z_leL, z_leR, z_ltL, z_ltR, z_eqR, z_eqL, z_m1, z_m1s, z_m1le, z_m1lt, z_m1lt0, z_m1le0, z_0lem1, z_m1lek, z_add, z_addL, z_addR, z_mulR, z_sub, z_subL, z_gd, z_ix, z_cl, z_or0, z_add0, z_bs, z_gd, z_b1, z_b0, z_10, z_01, eq_self, reduceCtorEq, ↓reduceIte, if_true, if_false, Nat.not_lt_zero, not_true_eq_false, not_false_eq_true, Bool.false_eq_true, Nat.le_refl, Nat.lt_irrefl]
    | false =>
      refine ⟨y, fun i hi => by rw [hy i hi, q_mod_bit, hb, if_neg (by decide)], ?_⟩
      simp (disch := omega) only [f_Wa_withSeen_4, z_bit1, hb, show ¬ 6 ≤ j by omega, z_le, z_lt, z_eq, z_leL, z_leR, z_ltL, z_ltR, z_eqR, z_eqL, z_m1, z_m1s, z_m1le, z_m1lt, z_m1lt0, z_m1le0, z_0lem1, z_m1lek, z_add, z_addL, z_addR, z_mulR, z_sub, z_subL, z_gd, z_ix, z_cl, z_or0, z_add0, z_bs, z_gd, z_b1, z_b0, z_10, z_01, eq_self, reduceCtorEq, ↓reduceIte, if_true, if_false, Nat.not_lt_zero, not_true_eq_false, not_false_eq_true, Bool.false_eq_true, Nat.le_refl, Nat.lt_irrefl]) (fun n y hy => by
    refine ⟨y, ?_, fun i hi => ?_⟩
    · simp (disch := omega) only [f_Wa_withSeen_4, z_le, z_lt, z_eq, z_leL, z_leR, z_ltL, z_ltR, z_eqR, z_eqL, z_m1, z_m1s, z_m1le, z_m1lt, z_m1lt0, z_m1le0, z_0lem1, z_m1lek, z_add, z_addL, z_addR, z_mulR, z_sub, z_subL, z_gd, z_ix, z_cl, z_or0, z_add0, z_bs, z_gd, z_b1, z_b0, z_10, z_01, eq_self, reduceCtorEq, ↓reduceIte, if_true, if_false, Nat.not_lt_zero, not_true_eq_false, not_false_eq_true, Bool.false_eq_true, Nat.le_refl, Nat.lt_irrefl]
    · rw [hy i hi, Nat.mod_eq_of_lt (show s < 2 ^ 6 from hs)]; rfl) 6 lh_fuel 0 x rfl (by decide) (fun i hi => by
    rw [Nat.pow_zero, Nat.mod_one, Bool.eq_iff_iff, q_any_iff]
    constructor
    · intro h; exact ⟨i, hi, by simp [h]⟩
    · rintro ⟨k, hk, h⟩
      simp only [Bool.and_eq_true, decide_eq_true_eq, Nat.or_zero] at h
      rw [← h.2]; exact h.1)
  obtain ⟨y, e, h⟩ := key
  have e' : f_Wa_withSeen_4 (nI s) L lh_fuel x 0 = some y := e
  exact ⟨y, by rw [f_Wa_withSeen, e', q_bs], h⟩
theorem q_jn_0 {x : Int64} {s : Nat} (hs : s < 64) : (∀ i, i < 64 → q_jn x s i = false) ↔ ∀ i, i < 64 → bl x i = false := by
  constructor
  · intro h i hi
    apply Classical.byContradiction
    intro hb
    have h1 := h (i ||| s) (q_or64 hi hs)
    have : q_jn x s (i ||| s) = true := q_any_iff.mpr ⟨i, hi, by simp at hb; simp [hb]⟩
    rw [this] at h1
    cases h1
  · intro h i hi
    unfold q_jn
    rw [← Bool.not_eq_true, q_any_iff]
    rintro ⟨k, hk, h2⟩
    rw [h k hk] at h2
    cases h2
theorem q_jn_z {x : Int64} {i : Nat} (hi : i < 64) : q_jn x 0 i = bl x i := by
  rw [Bool.eq_iff_iff]
  unfold q_jn
  rw [q_any_iff]
  constructor
  · rintro ⟨k, hk, h⟩
    simp only [Bool.and_eq_true, decide_eq_true_eq, Nat.or_zero] at h
    rw [← h.2]; exact h.1
  · intro h; exact ⟨i, hi, by simp [h]⟩
/-- the goal: all that hold the wanted -/
def q_gl (s k : Nat) : Bool := decide (k ||| s = k)
theorem q_gl_and : ∀ s, s < 64 → ∀ k, k < 64 → (nI s &&& (nI k ^^^ (-1)) = 0) = (q_gl s k = true) := by decide +kernel
theorem m_isWithAll (x : Int64) {s : Nat} (hs : s < 64) : f_LM_isWithAll x (nI s) = some (q_b01 (q_any (fun k => bl x k && q_gl s k) 64)) := by
  have := q_for (F := fun n k (y : Bool) => f_LM_isWithAll_4 x (nI s) n (q_b01 y) (nI k)) (N := 64) (step := fun k y => y || (bl x k && q_gl s k)) (fin := q_b01) (fun n k y hk => by
    have ec : (lg_cmp ((x >>> ((nI k).toInt64 &&& 63)) &&& 1) (1 : Int64) = 0) = (bl x k = true) := by rw [← bl_bit hk]; exact propext (lg_cmp_eq _ _)
    cases y with
    | true => simp (disch := omega) only [f_LM_isWithAll_4, show ¬ 64 ≤ k by omega, Bool.true_or, z_le, z_lt, z_eq, z_leL, z_leR, z_ltL, z_ltR, z_eqR, z_eqL, z_m1, z_m1s, z_m1le, z_m1lt, z_m1lt0, z_m1le0, z_0lem1, z_m1lek, z_add, z_addL, z_addR, z_mulR, z_sub, z_subL, z_gd, z_ix, z_cl, z_or0, z_add0, z_bs, z_gd, z_b1, z_b0, z_10, z_01, eq_self, reduceCtorEq, ↓reduceIte, if_true, if_false, Nat.not_lt_zero, not_true_eq_false, not_false_eq_true, Bool.false_eq_true, Nat.le_refl, Nat.lt_irrefl]
    | false =>
      simp (disch := omega) only [f_LM_isWithAll_4, ec, q_gl_and s hs k hk, show ¬ 64 ≤ k by omega, Bool.false_or, z_leL, z_addL, z_bs, z_gd, z_b1, z_b0, z_10, z_01, eq_self, reduceCtorEq, ↓reduceIte, if_true, if_false, Nat.not_lt_zero, not_true_eq_false, not_false_eq_true, Bool.false_eq_true, Nat.le_refl, Nat.lt_irrefl]
      cases bl x k <;> cases q_gl s k <;> simp only [Bool.and_true, Bool.and_false, z_bs, z_gd, z_b1, z_b0, z_10, z_01, eq_self, reduceCtorEq, ↓reduceIte, if_true, if_false, Nat.not_lt_zero, not_true_eq_false, not_false_eq_true, Bool.false_eq_true, Nat.le_refl, Nat.lt_irrefl]) (fun n y => by
    simp (disch := omega) only [f_LM_isWithAll_4, z_le, z_lt, z_eq, z_leL, z_leR, z_ltL, z_ltR, z_eqR, z_eqL, z_m1, z_m1s, z_m1le, z_m1lt, z_m1lt0, z_m1le0, z_0lem1, z_m1lek, z_add, z_addL, z_addR, z_mulR, z_sub, z_subL, z_gd, z_ix, z_cl, z_or0, z_add0, z_bs, z_gd, z_b1, z_b0, z_10, z_01, eq_self, reduceCtorEq, ↓reduceIte, if_true, if_false, Nat.not_lt_zero, not_true_eq_false, not_false_eq_true, Bool.false_eq_true, Nat.le_refl, Nat.lt_irrefl]) 64 lh_fuel 0 false rfl (by decide)
  have e : ∀ n, q_it (fun k y => y || (bl x k && q_gl s k)) 0 n false = q_any (fun k => bl x k && q_gl s k) n := by
    intro n
    induction n with
    | zero => rfl
    | succ n ih => rw [q_it_succ, ih, Nat.zero_add, q_any_succ]
  rw [e] at this
  have h2 : f_LM_isWithAll_4 x (nI s) lh_fuel 0 0 = _ := this
  rw [f_LM_isWithAll, h2, q_bs, z_lz]
  rfl
theorem q_gl_bit : ∀ s, s < 64 → ∀ k, k < 64 → q_gl s k = !q_any (fun j => s.testBit j && !k.testBit j) 6 := by decide +kernel
theorem e_setsWith {s : Nat} (hs : s < 64) (L : lh_LL) : ∃ y, f_Wa_setsWithAll (nI s) L = some y ∧ ∀ k, k < 64 → bl y k = q_gl s k := by
  have key := q_forI (F := fun n j (y : Int64) => f_Wa_setsWithAll_4 (nI s) L n y (nI j)) (N := 6) (P := fun j y => ∀ k, k < 64 → bl y k = !q_any (fun j => s.testBit j && !k.testBit j) j) (Q := fun y => ∀ k, k < 64 → bl y k = q_gl s k) (fun n j y hj hy => by
    cases hb : s.testBit j with
    | true =>
      refine ⟨y &&& lh_sets j, fun k hk => ?_, ?_⟩
      · rw [bl_and, hy k hk, bl_sets j hj k hk, q_any_succ, hb]
        cases k.testBit j <;> simp
      · simp (disch := omega) only [f_Wa_setsWithAll_4, z_bit1, hb, show ¬ 6 ≤ j by omega, z_le, z_lt, z_eq, z_leL, z_leR, z_ltL, z_ltR, z_eqR, z_eqL, z_m1, z_m1s, z_m1le, z_m1lt, z_m1lt0, z_m1le0, z_0lem1, z_m1lek, z_add, z_addL, z_addR, z_mulR, z_sub, z_subL, z_gd, z_ix, z_cl, z_or0, z_add0, z_bs, z_gd, z_b1, z_b0, z_10, z_01, eq_self, reduceCtorEq, ↓reduceIte, if_true, if_false, Nat.not_lt_zero, not_true_eq_false, not_false_eq_true, Bool.false_eq_true, Nat.le_refl, Nat.lt_irrefl]
    | false =>
      refine ⟨y, fun k hk => by rw [hy k hk, q_any_succ, hb]; simp, ?_⟩
      simp (disch := omega) only [f_Wa_setsWithAll_4, z_bit1, hb, show ¬ 6 ≤ j by omega, z_le, z_lt, z_eq, z_leL, z_leR, z_ltL, z_ltR, z_eqR, z_eqL, z_m1, z_m1s, z_m1le, z_m1lt, z_m1lt0, z_m1le0, z_0lem1, z_m1lek, z_add, z_addL, z_addR, z_mulR, z_sub, z_subL, z_gd, z_ix, z_cl, z_or0, z_add0, z_bs, z_gd, z_b1, z_b0, z_10, z_01, eq_self, reduceCtorEq, ↓reduceIte, if_true, if_false, Nat.not_lt_zero, not_true_eq_false, not_false_eq_true, Bool.false_eq_true, Nat.le_refl, Nat.lt_irrefl]) (fun n y hy => by
    refine ⟨y, ?_, fun k hk => by rw [hy k hk, q_gl_bit s hs k hk]⟩
    simp (disch := omega) only [f_Wa_setsWithAll_4, z_le, z_lt, z_eq, z_leL, z_leR, z_ltL, z_ltR, z_eqR, z_eqL, z_m1, z_m1s, z_m1le, z_m1lt, z_m1lt0, z_m1le0, z_0lem1, z_m1lek, z_add, z_addL, z_addR, z_mulR, z_sub, z_subL, z_gd, z_ix, z_cl, z_or0, z_add0, z_bs, z_gd, z_b1, z_b0, z_10, z_01, eq_self, reduceCtorEq, ↓reduceIte, if_true, if_false, Nat.not_lt_zero, not_true_eq_false, not_false_eq_true, Bool.false_eq_true, Nat.le_refl, Nat.lt_irrefl]) 6 lh_fuel 0 (-1) rfl (by decide) (fun k hk => by rw [bl_m1 k hk]; rfl)
  obtain ⟨y, e, h⟩ := key
  have e' : f_Wa_setsWithAll_4 (nI s) L lh_fuel (-1) 0 = some y := e
  exact ⟨y, by rw [f_Wa_setsWithAll, e', q_bs], h⟩
