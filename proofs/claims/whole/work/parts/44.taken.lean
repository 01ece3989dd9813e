/-! taken, chance, rests -/
theorem q_fst_succ {p : Nat → Bool} : ∀ (d k : Nat), q_fst p k (d + 1) = match q_fst p k d with | some j => some j | none => if p (k + d) = true then some (k + d) else none
  | 0, k => by
    show (if p k = true then some k else none) = _
    rfl
  | d + 1, k => by
    show (if p k = true then some k else q_fst p (k + 1) (d + 1)) = match (if p k = true then some k else q_fst p (k + 1) d) with | some j => some j | none => _
    by_cases hp : p k = true
    · rw [if_pos hp, if_pos hp]
    · rw [if_neg hp, if_neg hp, q_fst_succ d (k + 1), show k + 1 + d = k + (d + 1) by omega]
def q_d1 : Nat → Int32
  | 0 => -1
  | j + 1 => nI j
theorem q_d1a (j : Nat) : nI j + (-1) = q_d1 j := by
  cases j with
  | zero => decide
  | succ j => exact pk_m1 j
theorem q_d1s (j : Nat) : nI j - 1 = q_d1 j := by
  cases j with
  | zero => decide
  | succ j => exact nI_pred j
theorem q_down {F : Nat → Int32 → Int32 → Option Int32} {p : Nat → Bool} {N : Nat} (hs : ∀ m j x, j < N → F (m + 1) x (nI j) = F m (if p j = true then nI j else x) (q_d1 j)) (he : ∀ m x, F (m + 1) x (-1) = some x) : ∀ (j m : Nat) (x : Int32), j ≤ N → j < m → F m x (q_d1 j) = some (match q_fst p 0 j with | some i => nI i | none => x)
  | _, 0, _, _, h => absurd h (by omega)
  | 0, m + 1, x, _, _ => he m x
  | j + 1, m + 1, x, h1, h2 => by
    show F (m + 1) x (nI j) = _
    rw [hs m j x (by omega), q_down hs he j m _ (by omega) (by omega), q_fst_succ, Nat.zero_add]
    cases q_fst p 0 j with
    | some i => rfl
    | none =>
      by_cases hp : p j = true
      · simp only [hp, if_true]
      · simp only [if_neg hp]
section Q44
variable {a b : Nat} {I J : lh_II} {h : lh_H}
def q_th (h : lh_H) (k d u v : Nat) : Bool := decide (q_kd h v = 3) && (decide (q_dy h v = d) && match q_va h k with
  | none => false
  | some c => decide (q_pl h v u = some c))
def q_t1 (h : lh_H) (k d u : Nat) : Option Nat := q_fst (q_th h k d u) 0 (q_N h)
def q_tk (h : lh_H) (k d : Nat) : Option Nat := q_fst (fun u => (q_t1 h k d u).isSome) 0 8
theorem q_t1_lt {k d u v : Nat} (e : q_t1 h k d u = some v) : v < q_N h := by have := q_fst_lt e; omega
theorem q_tk_lt {k d u : Nat} (e : q_tk h k d = some u) : u < 8 := by have := q_fst_lt e; omega
theorem e_thief (c : q_cl a I h) (w : q_wf h) {k x d u : Nat} (hx : q_va h k = some x) (hxC : x < q_C h) (hd : d < 4) (hu : u < 8) : f_Ha_firstThiefIn a (nI x) (nI d) (nI u) I = some (q_e (q_t1 h k d u)) := by
  have hN := w.N
  have hC := w.C
  have := q_forF (F := fun n v => f_Ha_firstThiefIn_2 a (nI x) (nI d) (nI u) I n (nI v)) (N := q_N h) (p := q_th h k d u) (fnd := fun v => ((0 : Nat), nI v)) (nf := (1, nI (q_N h))) (fun n v hv => by
    have hk := w.kd hv
    have hdy := w.dy hv
    unfold q_th
    rw [hx]
    cases hp : q_pl h v u with
    | none =>
      simp (disch := omega) only [f_Ha_firstThiefIn_2, c.N, c.kd hv, c.dy hv, e_placeOfN c w, hp, z_eN, show ¬ q_N h ≤ v by omega, decide_false, Bool.and_false, z_le, z_lt, z_eq, z_leL, z_leR, z_ltL, z_ltR, z_eqR, z_eqL, z_m1, z_m1s, z_m1le, z_m1lt, z_m1lt0, z_m1le0, z_0lem1, z_m1lek, z_add, z_addL, z_addR, z_mulR, z_sub, z_subL, z_gd, z_ix, z_cl, z_or0, z_add0, z_bs, z_gd, z_b1, z_b0, z_10, z_01, eq_self, reduceCtorEq, ↓reduceIte, if_true, if_false, Nat.not_lt_zero, not_true_eq_false, not_false_eq_true, Bool.false_eq_true, Nat.le_refl, Nat.lt_irrefl]
      by_cases h2 : q_kd h v = 3 <;> by_cases h3 : q_dy h v = d <;> simp only [h2, h3, z_bs, z_gd, z_b1, z_b0, z_10, z_01, eq_self, reduceCtorEq, ↓reduceIte, if_true, if_false, Nat.not_lt_zero, not_true_eq_false, not_false_eq_true, Bool.false_eq_true, Nat.le_refl, Nat.lt_irrefl]
    | some p =>
      have := w.pl hv hu hp
      simp (disch := omega) only [f_Ha_firstThiefIn_2, c.N, c.kd hv, c.dy hv, e_placeOfN c w, hp, z_eS, show ¬ q_N h ≤ v by omega, Option.some.injEq, Bool.and_eq_true, decide_eq_true_eq, z_le, z_lt, z_eq, z_leL, z_leR, z_ltL, z_ltR, z_eqR, z_eqL, z_m1, z_m1s, z_m1le, z_m1lt, z_m1lt0, z_m1le0, z_0lem1, z_m1lek, z_add, z_addL, z_addR, z_mulR, z_sub, z_subL, z_gd, z_ix, z_cl, z_or0, z_add0, z_bs, z_gd, z_b1, z_b0, z_10, z_01, eq_self, reduceCtorEq, ↓reduceIte, if_true, if_false, Nat.not_lt_zero, not_true_eq_false, not_false_eq_true, Bool.false_eq_true, Nat.le_refl, Nat.lt_irrefl]
      by_cases h2 : q_kd h v = 3 <;> by_cases h3 : q_dy h v = d <;> by_cases h4 : p = x <;> simp only [h2, h3, h4, and_self, and_false, false_and, and_true, true_and, z_bs, z_gd, z_b1, z_b0, z_10, z_01, eq_self, reduceCtorEq, ↓reduceIte, if_true, if_false, Nat.not_lt_zero, not_true_eq_false, not_false_eq_true, Bool.false_eq_true, Nat.le_refl, Nat.lt_irrefl]) (fun n => by
    simp (disch := omega) only [f_Ha_firstThiefIn_2, c.N, z_le, z_lt, z_eq, z_leL, z_leR, z_ltL, z_ltR, z_eqR, z_eqL, z_m1, z_m1s, z_m1le, z_m1lt, z_m1lt0, z_m1le0, z_0lem1, z_m1lek, z_add, z_addL, z_addR, z_mulR, z_sub, z_subL, z_gd, z_ix, z_cl, z_or0, z_add0, z_bs, z_gd, z_b1, z_b0, z_10, z_01, eq_self, reduceCtorEq, ↓reduceIte, if_true, if_false, Nat.not_lt_zero, not_true_eq_false, not_false_eq_true, Bool.false_eq_true, Nat.le_refl, Nat.lt_irrefl]) (q_N h) lh_fuel 0 (Nat.zero_add _) (by unfold lh_fuel; omega)
  have h2 : f_Ha_firstThiefIn_2 a (nI x) (nI d) (nI u) I lh_fuel 0 = _ := this
  rw [f_Ha_firstThiefIn, h2, q_bs]
  unfold q_t1
  cases q_fst (q_th h k d u) 0 (q_N h) <;> rfl
theorem e_hourTaken (c : q_cl a I h) (w : q_wf h) {k d : Nat} (hk : k < q_K h) (hd : d < 4) : f_Ha_hourTaken a (nI k) (nI d) I = some (q_e (q_tk h k d)) := by
  have hK := w.K
  have hC := w.C
  have hN := w.N
  rw [f_Ha_hourTaken, q_gd (q_ix (show k < 4 by omega) (by decide)), nI_clamp (by omega), c.va hk]
  cases hx : q_va h k with
  | none =>
    have e : q_tk h k d = none := by
      unfold q_tk
      have : ∀ u, q_t1 h k d u = none := by
        intro u
        cases e : q_t1 h k d u with
        | none => rfl
        | some v =>
          have := (q_fst_lt e).2.2
          unfold q_th at this
          rw [hx] at this
          simp at this
      simp only [this]
      rfl
    rw [e, show lh_fuel = 4999 + 1 from rfl, f_Ha_hourTaken_7, z_eN, if_pos rfl]
    rfl
  | some x =>
    have hxC := w.va hk hx
    have := q_forF (F := fun n u => f_Ha_hourTaken_7 a (nI d) (nI x) I n (nI u)) (N := 8) (p := fun u => (q_t1 h k d u).isSome) (fnd := fun u => ((0 : Nat), nI u)) (nf := (1, nI 8)) (fun n u hu => by
      simp (disch := omega) only [f_Ha_hourTaken_7, e_thief c w hx hxC hd hu, show ¬ 8 ≤ u by omega, z_le, z_lt, z_eq, z_leL, z_leR, z_ltL, z_ltR, z_eqR, z_eqL, z_m1, z_m1s, z_m1le, z_m1lt, z_m1lt0, z_m1le0, z_0lem1, z_m1lek, z_add, z_addL, z_addR, z_mulR, z_sub, z_subL, z_gd, z_ix, z_cl, z_or0, z_add0, z_bs, z_gd, z_b1, z_b0, z_10, z_01, eq_self, reduceCtorEq, ↓reduceIte, if_true, if_false, Nat.not_lt_zero, not_true_eq_false, not_false_eq_true, Bool.false_eq_true, Nat.le_refl, Nat.lt_irrefl]
      cases e : q_t1 h k d u with
      | none => simp only [z_eN, Option.isSome_none, z_bs, z_gd, z_b1, z_b0, z_10, z_01, eq_self, reduceCtorEq, ↓reduceIte, if_true, if_false, Nat.not_lt_zero, not_true_eq_false, not_false_eq_true, Bool.false_eq_true, Nat.le_refl, Nat.lt_irrefl]
      | some v =>
        have := q_t1_lt e
        simp (disch := omega) only [z_eS, Option.isSome_some, z_le, z_lt, z_eq, z_leL, z_leR, z_ltL, z_ltR, z_eqR, z_eqL, z_m1, z_m1s, z_m1le, z_m1lt, z_m1lt0, z_m1le0, z_0lem1, z_m1lek, z_add, z_addL, z_addR, z_mulR, z_sub, z_subL, z_gd, z_ix, z_cl, z_or0, z_add0, z_bs, z_gd, z_b1, z_b0, z_10, z_01, eq_self, reduceCtorEq, ↓reduceIte, if_true, if_false, Nat.not_lt_zero, not_true_eq_false, not_false_eq_true, Bool.false_eq_true, Nat.le_refl, Nat.lt_irrefl]) (fun n => by
      simp (disch := omega) only [f_Ha_hourTaken_7, z_le, z_lt, z_eq, z_leL, z_leR, z_ltL, z_ltR, z_eqR, z_eqL, z_m1, z_m1s, z_m1le, z_m1lt, z_m1lt0, z_m1le0, z_0lem1, z_m1lek, z_add, z_addL, z_addR, z_mulR, z_sub, z_subL, z_gd, z_ix, z_cl, z_or0, z_add0, z_bs, z_gd, z_b1, z_b0, z_10, z_01, eq_self, reduceCtorEq, ↓reduceIte, if_true, if_false, Nat.not_lt_zero, not_true_eq_false, not_false_eq_true, Bool.false_eq_true, Nat.le_refl, Nat.lt_irrefl]) 8 lh_fuel 0 rfl (by decide)
    have h2 : f_Ha_hourTaken_7 a (nI d) (nI x) I lh_fuel 0 = _ := this
    show lh_bd (f_Ha_hourTaken_7 a (nI d) (nI x) I lh_fuel 0) _ = _
    rw [h2, q_bs]
    unfold q_tk
    cases q_fst (fun u => (q_t1 h k d u).isSome) 0 8 <;> rfl
theorem m_thiefOf (m : q_md J h) (w : q_wf h) {k d u : Nat} (hk : k < q_K h) (hd : d < 4) (hu : u < 8) : f_LM_thiefOf (nI k) (nI d) (nI u) J = some (q_e (q_t1 h k d u)) := by
  have hK := w.K
  have hC := w.C
  have hN := w.N
  have := q_down (F := fun n x v => f_LM_thiefOf_7 (nI k) (nI d) (nI u) J n x v) (p := q_th h k d u) (N := q_N h) (fun n v x hv => by
    have hkd := w.kd hv
    have hdy := w.dy hv
    unfold q_th
    cases hx : q_va h k with
    | none =>
      simp (disch := omega) only [f_LM_thiefOf_7, m_kindOf m w, m_dayOf m w, m_vaseAt m w, hx, z_eN, Bool.and_false, q_d1a, z_le, z_lt, z_eq, z_leL, z_leR, z_ltL, z_ltR, z_eqR, z_eqL, z_m1, z_m1s, z_m1le, z_m1lt, z_m1lt0, z_m1le0, z_0lem1, z_m1lek, z_add, z_addL, z_addR, z_mulR, z_sub, z_subL, z_gd, z_ix, z_cl, z_or0, z_add0, z_bs, z_gd, z_b1, z_b0, z_10, z_01, eq_self, reduceCtorEq, ↓reduceIte, if_true, if_false, Nat.not_lt_zero, not_true_eq_false, not_false_eq_true, Bool.false_eq_true, Nat.le_refl, Nat.lt_irrefl]
      by_cases h2 : q_kd h v = 3 <;> by_cases h3 : q_dy h v = d <;> simp only [h2, h3, z_bs, z_gd, z_b1, z_b0, z_10, z_01, eq_self, reduceCtorEq, ↓reduceIte, if_true, if_false, Nat.not_lt_zero, not_true_eq_false, not_false_eq_true, Bool.false_eq_true, Nat.le_refl, Nat.lt_irrefl]
    | some y =>
      have hy := w.va hk hx
      cases hp : q_pl h v u with
      | none =>
        simp (disch := omega) only [f_LM_thiefOf_7, m_kindOf m w, m_dayOf m w, m_vaseAt m w, m_cellOf m w, hx, hp, z_eN, z_eS, decide_false, Bool.and_false, q_d1a, z_le, z_lt, z_eq, z_leL, z_leR, z_ltL, z_ltR, z_eqR, z_eqL, z_m1, z_m1s, z_m1le, z_m1lt, z_m1lt0, z_m1le0, z_0lem1, z_m1lek, z_add, z_addL, z_addR, z_mulR, z_sub, z_subL, z_gd, z_ix, z_cl, z_or0, z_add0, z_bs, z_gd, z_b1, z_b0, z_10, z_01, eq_self, reduceCtorEq, ↓reduceIte, if_true, if_false, Nat.not_lt_zero, not_true_eq_false, not_false_eq_true, Bool.false_eq_true, Nat.le_refl, Nat.lt_irrefl]
        by_cases h2 : q_kd h v = 3 <;> by_cases h3 : q_dy h v = d <;> simp only [h2, h3, z_bs, z_gd, z_b1, z_b0, z_10, z_01, eq_self, reduceCtorEq, ↓reduceIte, if_true, if_false, Nat.not_lt_zero, not_true_eq_false, not_false_eq_true, Bool.false_eq_true, Nat.le_refl, Nat.lt_irrefl]
      | some p =>
        have := w.pl hv hu hp
        simp (disch := omega) only [f_LM_thiefOf_7, m_kindOf m w, m_dayOf m w, m_vaseAt m w, m_cellOf m w, hx, hp, z_eS, q_d1a, Option.some.injEq, Bool.and_eq_true, decide_eq_true_eq, z_le, z_lt, z_eq, z_leL, z_leR, z_ltL, z_ltR, z_eqR, z_eqL, z_m1, z_m1s, z_m1le, z_m1lt, z_m1lt0, z_m1le0, z_0lem1, z_m1lek, z_add, z_addL, z_addR, z_mulR, z_sub, z_subL, z_gd, z_ix, z_cl, z_or0, z_add0, z_bs, z_gd, z_b1, z_b0, z_10, z_01, eq_self, reduceCtorEq, ↓reduceIte, if_true, if_false, Nat.not_lt_zero, not_true_eq_false, not_false_eq_true, Bool.false_eq_true, Nat.le_refl, Nat.lt_irrefl]
        by_cases h2 : q_kd h v = 3 <;> by_cases h3 : q_dy h v = d <;> by_cases h4 : p = y <;> simp only [h2, h3, h4, and_self, and_false, false_and, and_true, true_and, z_bs, z_gd, z_b1, z_b0, z_10, z_01, eq_self, reduceCtorEq, ↓reduceIte, if_true, if_false, Nat.not_lt_zero, not_true_eq_false, not_false_eq_true, Bool.false_eq_true, Nat.le_refl, Nat.lt_irrefl]) (fun n x => by
    show f_LM_thiefOf_7 _ _ _ J (n + 1) x (-1) = _
    rw [f_LM_thiefOf_7, if_pos (by decide)]) (q_N h) lh_fuel (-1) (Nat.le_refl _) (by unfold lh_fuel; omega)
  rw [f_LM_thiefOf, m_visitors m, q_bs, q_d1s, this, q_bs]
  unfold q_t1
  cases q_fst (q_th h k d u) 0 (q_N h) <;> rfl
theorem m_takenOf (m : q_md J h) (w : q_wf h) {k d : Nat} (hk : k < q_K h) (hd : d < 4) : f_LM_takenOf (nI k) (nI d) J = some (q_e (q_tk h k d)) := by
  have hN := w.N
  have := q_down (F := fun n x v => f_LM_takenOf_4 (nI k) (nI d) J n x v) (p := fun u => (q_t1 h k d u).isSome) (N := 8) (fun n u x hu => by
    simp (disch := omega) only [f_LM_takenOf_4, m_thiefOf m w hk hd hu, q_d1a, z_le, z_lt, z_eq, z_leL, z_leR, z_ltL, z_ltR, z_eqR, z_eqL, z_m1, z_m1s, z_m1le, z_m1lt, z_m1lt0, z_m1le0, z_0lem1, z_m1lek, z_add, z_addL, z_addR, z_mulR, z_sub, z_subL, z_gd, z_ix, z_cl, z_or0, z_add0, z_bs, z_gd, z_b1, z_b0, z_10, z_01, eq_self, reduceCtorEq, ↓reduceIte, if_true, if_false, Nat.not_lt_zero, not_true_eq_false, not_false_eq_true, Bool.false_eq_true, Nat.le_refl, Nat.lt_irrefl]
    cases e : q_t1 h k d u with
    | none => simp only [z_eN, z_m1lt0, Option.isSome_none, z_bs, z_gd, z_b1, z_b0, z_10, z_01, eq_self, reduceCtorEq, ↓reduceIte, if_true, if_false, Nat.not_lt_zero, not_true_eq_false, not_false_eq_true, Bool.false_eq_true, Nat.le_refl, Nat.lt_irrefl]
    | some v =>
      have := q_t1_lt e
      simp (disch := omega) only [z_eS, Option.isSome_some, z_le, z_lt, z_eq, z_leL, z_leR, z_ltL, z_ltR, z_eqR, z_eqL, z_m1, z_m1s, z_m1le, z_m1lt, z_m1lt0, z_m1le0, z_0lem1, z_m1lek, z_add, z_addL, z_addR, z_mulR, z_sub, z_subL, z_gd, z_ix, z_cl, z_or0, z_add0, z_bs, z_gd, z_b1, z_b0, z_10, z_01, eq_self, reduceCtorEq, ↓reduceIte, if_true, if_false, Nat.not_lt_zero, not_true_eq_false, not_false_eq_true, Bool.false_eq_true, Nat.le_refl, Nat.lt_irrefl]) (fun n x => by
    show f_LM_takenOf_4 _ _ J (n + 1) x (-1) = _
    rw [f_LM_takenOf_4, if_pos (by decide)]) 8 lh_fuel (-1) (Nat.le_refl _) (by decide)
  have h2 : f_LM_takenOf_4 (nI k) (nI d) J lh_fuel (-1) 7 = _ := this
  rw [f_LM_takenOf, h2, q_bs]
  unfold q_tk
  cases q_fst (fun u => (q_t1 h k d u).isSome) 0 8 <;> rfl
/-- chance -/
def q_wo (h : lh_H) (k d v : Nat) : Bool := q_any (fun u => q_th h k d u v) 8
theorem q_fst_any {p : Nat → Bool} : ∀ n, (q_fst p 0 n).isSome = q_any p n
  | 0 => rfl
  | n + 1 => by
    rw [q_fst_succ, q_any_succ, ← q_fst_any n, Nat.zero_add]
    cases q_fst p 0 n with
    | some j => simp
    | none =>
      by_cases hp : p n = true
      · simp [hp]
      · simp [hp]
theorem e_wouldTake (c : q_cl a I h) (w : q_wf h) {k d v : Nat} (hk : k < q_K h) (hd : d < 4) (hv : v < q_N h) : f_Ha_wouldTake a (nI v) (nI k) (nI d) I = some (q_b01 (q_wo h k d v)) := by
  have hK := w.K
  have hC := w.C
  have hN := w.N
  have hkd := w.kd hv
  have hdy := w.dy hv
  have hno : (∀ u, q_th h k d u v = false) → q_wo h k d v = false := by
    intro hn
    unfold q_wo
    rw [← Bool.not_eq_true, q_any_iff]
    rintro ⟨u, -, e⟩
    rw [hn u] at e
    cases e
  simp (disch := omega) only [f_Ha_wouldTake, c.kd hv, c.dy hv, c.va hk, z_le, z_lt, z_eq, z_leL, z_leR, z_ltL, z_ltR, z_eqR, z_eqL, z_m1, z_m1s, z_m1le, z_m1lt, z_m1lt0, z_m1le0, z_0lem1, z_m1lek, z_add, z_addL, z_addR, z_mulR, z_sub, z_subL, z_gd, z_ix, z_cl, z_or0, z_add0, z_bs, z_gd, z_b1, z_b0, z_10, z_01, eq_self, reduceCtorEq, ↓reduceIte, if_true, if_false, Nat.not_lt_zero, not_true_eq_false, not_false_eq_true, Bool.false_eq_true, Nat.le_refl, Nat.lt_irrefl]
  by_cases h2 : q_kd h v = 3
  · by_cases h3 : q_dy h v = d
    · cases hx : q_va h k with
      | none =>
        rw [hno (fun u => by unfold q_th; rw [hx]; simp)]
        simp only [h2, h3, z_eN, z_bs, z_gd, z_b1, z_b0, z_10, z_01, eq_self, reduceCtorEq, ↓reduceIte, if_true, if_false, Nat.not_lt_zero, not_true_eq_false, not_false_eq_true, Bool.false_eq_true, Nat.le_refl, Nat.lt_irrefl]
      | some x =>
        have hxC := w.va hk hx
        have := q_forF (F := fun n u => f_Ha_wouldTake_24 a (nI v) (nI x) I n (nI u)) (N := 8) (p := fun u => q_th h k d u v) (fnd := fun _ => (0 : Nat)) (nf := 1) (fun n u hu => by
          unfold q_th
          rw [hx]
          cases hp : q_pl h v u with
          | none => simp (disch := omega) only [f_Ha_wouldTake_24, e_placeOfN c w, hp, z_eN, show ¬ 8 ≤ u by omega, decide_false, Bool.and_false, z_le, z_lt, z_eq, z_leL, z_leR, z_ltL, z_ltR, z_eqR, z_eqL, z_m1, z_m1s, z_m1le, z_m1lt, z_m1lt0, z_m1le0, z_0lem1, z_m1lek, z_add, z_addL, z_addR, z_mulR, z_sub, z_subL, z_gd, z_ix, z_cl, z_or0, z_add0, z_bs, z_gd, z_b1, z_b0, z_10, z_01, eq_self, reduceCtorEq, ↓reduceIte, if_true, if_false, Nat.not_lt_zero, not_true_eq_false, not_false_eq_true, Bool.false_eq_true, Nat.le_refl, Nat.lt_irrefl]
          | some p =>
            have := w.pl hv hu hp
            simp (disch := omega) only [f_Ha_wouldTake_24, e_placeOfN c w, hp, h2, h3, z_eS, show ¬ 8 ≤ u by omega, Option.some.injEq, Bool.and_eq_true, decide_eq_true_eq, true_and, z_le, z_lt, z_eq, z_leL, z_leR, z_ltL, z_ltR, z_eqR, z_eqL, z_m1, z_m1s, z_m1le, z_m1lt, z_m1lt0, z_m1le0, z_0lem1, z_m1lek, z_add, z_addL, z_addR, z_mulR, z_sub, z_subL, z_gd, z_ix, z_cl, z_or0, z_add0, z_bs, z_gd, z_b1, z_b0, z_10, z_01, eq_self, reduceCtorEq, ↓reduceIte, if_true, if_false, Nat.not_lt_zero, not_true_eq_false, not_false_eq_true, Bool.false_eq_true, Nat.le_refl, Nat.lt_irrefl]) (fun n => by
          simp (disch := omega) only [f_Ha_wouldTake_24, z_le, z_lt, z_eq, z_leL, z_leR, z_ltL, z_ltR, z_eqR, z_eqL, z_m1, z_m1s, z_m1le, z_m1lt, z_m1lt0, z_m1le0, z_0lem1, z_m1lek, z_add, z_addL, z_addR, z_mulR, z_sub, z_subL, z_gd, z_ix, z_cl, z_or0, z_add0, z_bs, z_gd, z_b1, z_b0, z_10, z_01, eq_self, reduceCtorEq, ↓reduceIte, if_true, if_false, Nat.not_lt_zero, not_true_eq_false, not_false_eq_true, Bool.false_eq_true, Nat.le_refl, Nat.lt_irrefl]) 8 lh_fuel 0 rfl (by decide)
        have h5 : f_Ha_wouldTake_24 a (nI v) (nI x) I lh_fuel 0 = _ := this
        simp (disch := omega) only [h2, h3, z_eS, h5, z_le, z_lt, z_eq, z_leL, z_leR, z_ltL, z_ltR, z_eqR, z_eqL, z_m1, z_m1s, z_m1le, z_m1lt, z_m1lt0, z_m1le0, z_0lem1, z_m1lek, z_add, z_addL, z_addR, z_mulR, z_sub, z_subL, z_gd, z_ix, z_cl, z_or0, z_add0, z_bs, z_gd, z_b1, z_b0, z_10, z_01, eq_self, reduceCtorEq, ↓reduceIte, if_true, if_false, Nat.not_lt_zero, not_true_eq_false, not_false_eq_true, Bool.false_eq_true, Nat.le_refl, Nat.lt_irrefl]
        have e : q_wo h k d v = (q_fst (fun u => q_th h k d u v) 0 8).isSome := (q_fst_any 8).symm
        rw [e]
        cases q_fst (fun u => q_th h k d u v) 0 8 <;> rfl
    · rw [hno (fun u => by unfold q_th; simp [h3])]
      simp only [h2, h3, z_bs, z_gd, z_b1, z_b0, z_10, z_01, eq_self, reduceCtorEq, ↓reduceIte, if_true, if_false, Nat.not_lt_zero, not_true_eq_false, not_false_eq_true, Bool.false_eq_true, Nat.le_refl, Nat.lt_irrefl]
  · rw [hno (fun u => by unfold q_th; simp [h2])]
    simp only [h2, z_bs, z_gd, z_b1, z_b0, z_10, z_01, eq_self, reduceCtorEq, ↓reduceIte, if_true, if_false, Nat.not_lt_zero, not_true_eq_false, not_false_eq_true, Bool.false_eq_true, Nat.le_refl, Nat.lt_irrefl]
theorem m_chance33 (m : q_md J h) (w : q_wf h) {k d v : Nat} (hk : k < q_K h) (hd : d < 4) (hv : v < q_N h) (x3 : Int32) (y1 y2 : Int64) : f_LM_chance_33 (nI k) (nI d) x3 y1 y2 (nI v) J lh_fuel 0 0 = some (q_b01 (q_wo h k d v)) := by
  have hK := w.K
  have hC := w.C
  have hN := w.N
  have hkd := w.kd hv
  have hdy := w.dy hv
  have := q_for (F := fun n u (y : Bool) => f_LM_chance_33 (nI k) (nI d) x3 y1 y2 (nI v) J n (q_b01 y) (nI u)) (N := 8) (step := fun u x => x || q_th h k d u v) (fin := q_b01) (fun n u y hu => by
    cases y with
    | true => simp (disch := omega) only [f_LM_chance_33, show ¬ 8 ≤ u by omega, Bool.true_or, z_le, z_lt, z_eq, z_leL, z_leR, z_ltL, z_ltR, z_eqR, z_eqL, z_m1, z_m1s, z_m1le, z_m1lt, z_m1lt0, z_m1le0, z_0lem1, z_m1lek, z_add, z_addL, z_addR, z_mulR, z_sub, z_subL, z_gd, z_ix, z_cl, z_or0, z_add0, z_bs, z_gd, z_b1, z_b0, z_10, z_01, eq_self, reduceCtorEq, ↓reduceIte, if_true, if_false, Nat.not_lt_zero, not_true_eq_false, not_false_eq_true, Bool.false_eq_true, Nat.le_refl, Nat.lt_irrefl]
    | false =>
      unfold q_th
      cases hx : q_va h k with
      | none =>
        simp (disch := omega) only [f_LM_chance_33, m_kindOf m w, m_dayOf m w, m_vaseAt m w, hx, z_eN, Bool.and_false, Bool.or_false, show ¬ 8 ≤ u by omega, z_le, z_lt, z_eq, z_leL, z_leR, z_ltL, z_ltR, z_eqR, z_eqL, z_m1, z_m1s, z_m1le, z_m1lt, z_m1lt0, z_m1le0, z_0lem1, z_m1lek, z_add, z_addL, z_addR, z_mulR, z_sub, z_subL, z_gd, z_ix, z_cl, z_or0, z_add0, z_bs, z_gd, z_b1, z_b0, z_10, z_01, eq_self, reduceCtorEq, ↓reduceIte, if_true, if_false, Nat.not_lt_zero, not_true_eq_false, not_false_eq_true, Bool.false_eq_true, Nat.le_refl, Nat.lt_irrefl]
        by_cases h2 : q_kd h v = 3 <;> by_cases h3 : q_dy h v = d <;> simp only [h2, h3, z_bs, z_gd, z_b1, z_b0, z_10, z_01, eq_self, reduceCtorEq, ↓reduceIte, if_true, if_false, Nat.not_lt_zero, not_true_eq_false, not_false_eq_true, Bool.false_eq_true, Nat.le_refl, Nat.lt_irrefl]
      | some y =>
        have hy := w.va hk hx
        cases hp : q_pl h v u with
        | none =>
          simp (disch := omega) only [f_LM_chance_33, m_kindOf m w, m_dayOf m w, m_vaseAt m w, m_cellOf m w, hx, hp, z_eN, z_eS, decide_false, Bool.and_false, Bool.or_false, show ¬ 8 ≤ u by omega, z_le, z_lt, z_eq, z_leL, z_leR, z_ltL, z_ltR, z_eqR, z_eqL, z_m1, z_m1s, z_m1le, z_m1lt, z_m1lt0, z_m1le0, z_0lem1, z_m1lek, z_add, z_addL, z_addR, z_mulR, z_sub, z_subL, z_gd, z_ix, z_cl, z_or0, z_add0, z_bs, z_gd, z_b1, z_b0, z_10, z_01, eq_self, reduceCtorEq, ↓reduceIte, if_true, if_false, Nat.not_lt_zero, not_true_eq_false, not_false_eq_true, Bool.false_eq_true, Nat.le_refl, Nat.lt_irrefl]
          by_cases h2 : q_kd h v = 3 <;> by_cases h3 : q_dy h v = d <;> simp only [h2, h3, z_bs, z_gd, z_b1, z_b0, z_10, z_01, eq_self, reduceCtorEq, ↓reduceIte, if_true, if_false, Nat.not_lt_zero, not_true_eq_false, not_false_eq_true, Bool.false_eq_true, Nat.le_refl, Nat.lt_irrefl]
        | some p =>
          have := w.pl hv hu hp
          simp (disch := omega) only [f_LM_chance_33, m_kindOf m w, m_dayOf m w, m_vaseAt m w, m_cellOf m w, hx, hp, z_eS, Option.some.injEq, Bool.false_or, show ¬ 8 ≤ u by omega, z_le, z_lt, z_eq, z_leL, z_leR, z_ltL, z_ltR, z_eqR, z_eqL, z_m1, z_m1s, z_m1le, z_m1lt, z_m1lt0, z_m1le0, z_0lem1, z_m1lek, z_add, z_addL, z_addR, z_mulR, z_sub, z_subL, z_gd, z_ix, z_cl, z_or0, z_add0, z_bs, z_gd, z_b1, z_b0, z_10, z_01, eq_self, reduceCtorEq, ↓reduceIte, if_true, if_false, Nat.not_lt_zero, not_true_eq_false, not_false_eq_true, Bool.false_eq_true, Nat.le_refl, Nat.lt_irrefl]
          by_cases h2 : q_kd h v = 3 <;> by_cases h3 : q_dy h v = d <;> by_cases h4 : p = y <;> simp only [h2, h3, h4, decide_true, decide_false, Bool.and_true, Bool.and_false, Bool.false_and, Bool.true_and, z_bs, z_gd, z_b1, z_b0, z_10, z_01, eq_self, reduceCtorEq, ↓reduceIte, if_true, if_false, Nat.not_lt_zero, not_true_eq_false, not_false_eq_true, Bool.false_eq_true, Nat.le_refl, Nat.lt_irrefl]) (fun n y => by
    simp (disch := omega) only [f_LM_chance_33, z_le, z_lt, z_eq, z_leL, z_leR, z_ltL, z_ltR, z_eqR, z_eqL, z_m1, z_m1s, z_m1le, z_m1lt, z_m1lt0, z_m1le0, z_0lem1, z_m1lek, z_add, z_addL, z_addR, z_mulR, z_sub, z_subL, z_gd, z_ix, z_cl, z_or0, z_add0, z_bs, z_gd, z_b1, z_b0, z_10, z_01, eq_self, reduceCtorEq, ↓reduceIte, if_true, if_false, Nat.not_lt_zero, not_true_eq_false, not_false_eq_true, Bool.false_eq_true, Nat.le_refl, Nat.lt_irrefl]) 8 lh_fuel 0 false rfl (by decide)
  have e0 : ∀ n, q_it (fun u x => x || q_th h k d u v) 0 n false = q_any (fun u => q_th h k d u v) n := by
    intro n
    induction n with
    | zero => rfl
    | succ n ih => rw [q_it_succ, ih, Nat.zero_add, q_any_succ]
  rw [e0] at this
  exact this
def q_sf (o j : Nat) : Nat := 10 ^ (6 - j) * (10 - o) ^ j
theorem q_sf_step : ∀ o, o < 11 → ∀ j, j < 6 → nI (q_sf o j) / 10 * (10 - nI o) = nI (q_sf o (j + 1)) := by decide +kernel
theorem e_chance19 (c : q_cl a I h) (w : q_wf h) {k d o : Nat} (hk : k < q_K h) (hd : d < 4) (ho : o < 11) : f_LH_chance_19 a b (nI k) (nI d) (nI o) I lh_fuel 1000000 0 = some (nI (q_sf o (fb_ct (q_wo h k d) (q_N h)))) := by
  have hN := w.N
  obtain ⟨r, e, hr⟩ := q_forI (F := fun n v (y : Int32) => f_LH_chance_19 a b (nI k) (nI d) (nI o) I n y (nI v)) (N := q_N h) (P := fun v y => y = nI (q_sf o (fb_ct (q_wo h k d) v))) (Q := fun r => r = nI (q_sf o (fb_ct (q_wo h k d) (q_N h)))) (fun n v y hv hy => by
    subst hy
    have h1 := fb_ct_le (q_wo h k d) v
    simp (disch := omega) only [f_LH_chance_19, c.N, e_wouldTake c w hk hd hv, fb_ct_succ, show ¬ q_N h ≤ v by omega, z_le, z_lt, z_eq, z_leL, z_leR, z_ltL, z_ltR, z_eqR, z_eqL, z_m1, z_m1s, z_m1le, z_m1lt, z_m1lt0, z_m1le0, z_0lem1, z_m1lek, z_add, z_addL, z_addR, z_mulR, z_sub, z_subL, z_gd, z_ix, z_cl, z_or0, z_add0, z_bs, z_gd, z_b1, z_b0, z_10, z_01, eq_self, reduceCtorEq, ↓reduceIte, if_true, if_false, Nat.not_lt_zero, not_true_eq_false, not_false_eq_true, Bool.false_eq_true, Nat.le_refl, Nat.lt_irrefl]
    cases q_wo h k d v
    · simp only [Nat.add_zero, z_bs, z_gd, z_b1, z_b0, z_10, z_01, eq_self, reduceCtorEq, ↓reduceIte, if_true, if_false, Nat.not_lt_zero, not_true_eq_false, not_false_eq_true, Bool.false_eq_true, Nat.le_refl, Nat.lt_irrefl]; exact ⟨_, rfl, rfl⟩
    · simp only [z_bs, z_gd, z_b1, z_b0, z_10, z_01, eq_self, reduceCtorEq, ↓reduceIte, if_true, if_false, Nat.not_lt_zero, not_true_eq_false, not_false_eq_true, Bool.false_eq_true, Nat.le_refl, Nat.lt_irrefl, q_sf_step o ho _ (show fb_ct (q_wo h k d) v < 6 by omega)]; exact ⟨_, rfl, rfl⟩) (fun n y hy => by
    simp (disch := omega) only [f_LH_chance_19, c.N, z_le, z_lt, z_eq, z_leL, z_leR, z_ltL, z_ltR, z_eqR, z_eqL, z_m1, z_m1s, z_m1le, z_m1lt, z_m1lt0, z_m1le0, z_0lem1, z_m1lek, z_add, z_addL, z_addR, z_mulR, z_sub, z_subL, z_gd, z_ix, z_cl, z_or0, z_add0, z_bs, z_gd, z_b1, z_b0, z_10, z_01, eq_self, reduceCtorEq, ↓reduceIte, if_true, if_false, Nat.not_lt_zero, not_true_eq_false, not_false_eq_true, Bool.false_eq_true, Nat.le_refl, Nat.lt_irrefl]
    exact ⟨_, rfl, hy⟩) (q_N h) lh_fuel 0 1000000 (Nat.zero_add _) (by unfold lh_fuel; omega) (by show (1000000 : Int32) = nI (q_sf o 0); unfold q_sf; rfl)
  subst hr
  exact e
theorem m_chance25 (m : q_md J h) (w : q_wf h) {k d o : Nat} (hk : k < q_K h) (hd : d < 4) (ho : o < 11) : f_LM_chance_25 (nI k) (nI d) (nI o) J lh_fuel 1 1 0 = some (lN (10 ^ q_N h), lN ((10 - o) ^ fb_ct (q_wo h k d) (q_N h) * 10 ^ (q_N h - fb_ct (q_wo h k d) (q_N h)))) := by
  have hN := w.N
  obtain ⟨r, e, hr⟩ := q_forI (F := fun n v (y : Int64 × Int64) => f_LM_chance_25 (nI k) (nI d) (nI o) J n y.1 y.2 (nI v)) (N := q_N h) (P := fun v y => y = (lN (10 ^ v), lN ((10 - o) ^ fb_ct (q_wo h k d) v * 10 ^ (v - fb_ct (q_wo h k d) v)))) (Q := fun r => r = (lN (10 ^ q_N h), lN ((10 - o) ^ fb_ct (q_wo h k d) (q_N h) * 10 ^ (q_N h - fb_ct (q_wo h k d) (q_N h))))) (fun n v y hv hy => by
    subst hy
    have h1 := fb_ct_le (q_wo h k d) v
    have e10 : (10 : Int32) - nI o = nI (10 - o) := pk_sub (a := 10) (by omega)
    have l10 : ∀ x, lN x * (10 : Int64) = lN (x * 10) := fun x => lN_mul x 10
    simp (disch := omega) only [f_LM_chance_25, m_visitors m, m_chance33 m w hk hd hv, fb_ct_succ, e10, nI_l, l10, lN_mul, show ¬ q_N h ≤ v by omega, z_le, z_lt, z_eq, z_leL, z_leR, z_ltL, z_ltR, z_eqR, z_eqL, z_m1, z_m1s, z_m1le, z_m1lt, z_m1lt0, z_m1le0, z_0lem1, z_m1lek, z_add, z_addL, z_addR, z_mulR, z_sub, z_subL, z_gd, z_ix, z_cl, z_or0, z_add0, z_bs, z_gd, z_b1, z_b0, z_10, z_01, eq_self, reduceCtorEq, ↓reduceIte, if_true, if_false, Nat.not_lt_zero, not_true_eq_false, not_false_eq_true, Bool.false_eq_true, Nat.le_refl, Nat.lt_irrefl]
    cases q_wo h k d v
    · simp only [Nat.add_zero, z_bs, z_gd, z_b1, z_b0, z_10, z_01, eq_self, reduceCtorEq, ↓reduceIte, if_true, if_false, Nat.not_lt_zero, not_true_eq_false, not_false_eq_true, Bool.false_eq_true, Nat.le_refl, Nat.lt_irrefl]
      refine ⟨_, rfl, ?_⟩
      rw [show v + 1 - fb_ct (q_wo h k d) v = (v - fb_ct (q_wo h k d) v) + 1 by omega, Nat.pow_succ, Nat.pow_succ, Nat.mul_assoc]
    · simp only [z_bs, z_gd, z_b1, z_b0, z_10, z_01, eq_self, reduceCtorEq, ↓reduceIte, if_true, if_false, Nat.not_lt_zero, not_true_eq_false, not_false_eq_true, Bool.false_eq_true, Nat.le_refl, Nat.lt_irrefl]
      refine ⟨_, rfl, ?_⟩
      rw [show v + 1 - (fb_ct (q_wo h k d) v + 1) = v - fb_ct (q_wo h k d) v by omega, Nat.pow_succ, Nat.pow_succ, Nat.mul_right_comm]) (fun n y hy => by
    simp (disch := omega) only [f_LM_chance_25, m_visitors m, z_le, z_lt, z_eq, z_leL, z_leR, z_ltL, z_ltR, z_eqR, z_eqL, z_m1, z_m1s, z_m1le, z_m1lt, z_m1lt0, z_m1le0, z_0lem1, z_m1lek, z_add, z_addL, z_addR, z_mulR, z_sub, z_subL, z_gd, z_ix, z_cl, z_or0, z_add0, z_bs, z_gd, z_b1, z_b0, z_10, z_01, eq_self, reduceCtorEq, ↓reduceIte, if_true, if_false, Nat.not_lt_zero, not_true_eq_false, not_false_eq_true, Bool.false_eq_true, Nat.le_refl, Nat.lt_irrefl]
    exact ⟨_, rfl, hy⟩) (q_N h) lh_fuel 0 (1, 1) (Nat.zero_add _) (by unfold lh_fuel; omega) (by show ((1 : Int64), (1 : Int64)) = (lN (10 ^ 0), lN ((10 - o) ^ 0 * 10 ^ (0 - 0))); rfl)
  subst hr
  exact e
theorem q_chance_eq : ∀ n, n < 7 → ∀ o, o < 11 → ∀ j, j < n + 1 → (!decide (lN (10 ^ n) = 0)) = true ∧ (((lN (10 ^ n) - lN ((10 - o) ^ j * 10 ^ (n - j))) * 1000000) / lN (10 ^ n)).toInt32 = 1000000 - nI (q_sf o j) := by decide +kernel
end Q44
theorem p_taken : lh_P22 lh_inv := by
  intro t a b a2 b2 I L x1 x2 x3 hi
  obtain ⟨s, w, c, m, m', hf⟩ := hi.op
  have hK := w.1.K
  have hN := w.1.N
  have hl : ∀ (A B : Option Int32), (if x3 < 0 then A else if x3 ≤ 1 then B else A) = if q_is 2 x3 = true then B else A := fun A B => q_isL 1 (by decide)
  cases h1 : q_is (q_K (s_h s)) x1 with
  | false => exact ⟨-1, (-1, lh_u2 I (65 + 4) 0 0), by simp only [f_LH_taken, e_hasVase c.1, h1, z_bs, z_gd, z_b1, z_b0, z_10, z_01, eq_self, reduceCtorEq, ↓reduceIte, if_true, if_false, Nat.not_lt_zero, not_true_eq_false, not_false_eq_true, Bool.false_eq_true, Nat.le_refl, Nat.lt_irrefl], by simp only [f_LM_taken, m_isVase m'.1, h1, z_bs, z_gd, z_b1, z_b0, z_10, z_01, eq_self, reduceCtorEq, ↓reduceIte, if_true, if_false, Nat.not_lt_zero, not_true_eq_false, not_false_eq_true, Bool.false_eq_true, Nat.le_refl, Nat.lt_irrefl], rfl, hi.en hf⟩
  | true =>
    cases h2 : q_is 4 x2 with
    | false => exact ⟨-1, (-1, lh_u2 I (65 + 4) 0 0), by simp only [f_LH_taken, e_hasVase c.1, e_isDay, h1, h2, z_bs, z_gd, z_b1, z_b0, z_10, z_01, eq_self, reduceCtorEq, ↓reduceIte, if_true, if_false, Nat.not_lt_zero, not_true_eq_false, not_false_eq_true, Bool.false_eq_true, Nat.le_refl, Nat.lt_irrefl], by simp only [f_LM_taken, m_isVase m'.1, m_in03, h1, h2, z_bs, z_gd, z_b1, z_b0, z_10, z_01, eq_self, reduceCtorEq, ↓reduceIte, if_true, if_false, Nat.not_lt_zero, not_true_eq_false, not_false_eq_true, Bool.false_eq_true, Nat.le_refl, Nat.lt_irrefl], rfl, hi.en hf⟩
    | true =>
      cases h3 : q_is 2 x3 with
      | false => exact ⟨-1, (-1, lh_u2 I (65 + 4) 0 0), by simp only [f_LH_taken, e_hasVase c.1, e_isDay, hl, h1, h2, h3, z_bs, z_gd, z_b1, z_b0, z_10, z_01, eq_self, reduceCtorEq, ↓reduceIte, if_true, if_false, Nat.not_lt_zero, not_true_eq_false, not_false_eq_true, Bool.false_eq_true, Nat.le_refl, Nat.lt_irrefl], by simp only [f_LM_taken, m_isVase m'.1, m_in03, m_in01, h1, h2, h3, z_bs, z_gd, z_b1, z_b0, z_10, z_01, eq_self, reduceCtorEq, ↓reduceIte, if_true, if_false, Nat.not_lt_zero, not_true_eq_false, not_false_eq_true, Bool.false_eq_true, Nat.le_refl, Nat.lt_irrefl], rfl, hi.en hf⟩
      | true =>
        obtain ⟨k, hk, rfl⟩ := q_is_ex (by omega) h1
        obtain ⟨d, hd, rfl⟩ := q_is_ex (by omega) h2
        obtain ⟨x, hx, rfl⟩ := q_is_ex (by omega) h3
        cases hu : q_tk (s_h s) k d with
        | none =>
          refine ⟨-1, (-1, lh_u2 I (65 + 4) 0 0), ?_, ?_, rfl, hi.en hf⟩
          · simp (disch := omega) only [f_LH_taken, e_hasVase c.1, e_isDay, h1, h2, e_hourTaken c.1 w.1 hk hd, hu, z_eN, show x ≤ 1 by omega, ite_self, z_le, z_lt, z_eq, z_leL, z_leR, z_ltL, z_ltR, z_eqR, z_eqL, z_m1, z_m1s, z_m1le, z_m1lt, z_m1lt0, z_m1le0, z_0lem1, z_m1lek, z_add, z_addL, z_addR, z_mulR, z_sub, z_subL, z_gd, z_ix, z_cl, z_or0, z_add0, z_bs, z_gd, z_b1, z_b0, z_10, z_01, eq_self, reduceCtorEq, ↓reduceIte, if_true, if_false, Nat.not_lt_zero, not_true_eq_false, not_false_eq_true, Bool.false_eq_true, Nat.le_refl, Nat.lt_irrefl]
          · simp (disch := omega) only [f_LM_taken, m_isVase m'.1, m_in03, m_in01, h1, h2, h3, m_takenOf m'.1 w.1 hk hd, hu, z_eN, z_le, z_lt, z_eq, z_leL, z_leR, z_ltL, z_ltR, z_eqR, z_eqL, z_m1, z_m1s, z_m1le, z_m1lt, z_m1lt0, z_m1le0, z_0lem1, z_m1lek, z_add, z_addL, z_addR, z_mulR, z_sub, z_subL, z_gd, z_ix, z_cl, z_or0, z_add0, z_bs, z_gd, z_b1, z_b0, z_10, z_01, eq_self, reduceCtorEq, ↓reduceIte, if_true, if_false, Nat.not_lt_zero, not_true_eq_false, not_false_eq_true, Bool.false_eq_true, Nat.le_refl, Nat.lt_irrefl]
        | some u =>
          have hu8 := q_tk_lt hu
          by_cases hx0 : x = 0
          · subst hx0
            refine ⟨nI u, (nI u, lh_u2 I (65 + 4) 0 0), ?_, ?_, rfl, hi.en hf⟩
            · simp (disch := omega) only [f_LH_taken, e_hasVase c.1, e_isDay, h1, h2, e_hourTaken c.1 w.1 hk hd, hu, z_eS, Nat.zero_le, z_le, z_lt, z_eq, z_leL, z_leR, z_ltL, z_ltR, z_eqR, z_eqL, z_m1, z_m1s, z_m1le, z_m1lt, z_m1lt0, z_m1le0, z_0lem1, z_m1lek, z_add, z_addL, z_addR, z_mulR, z_sub, z_subL, z_gd, z_ix, z_cl, z_or0, z_add0, z_bs, z_gd, z_b1, z_b0, z_10, z_01, eq_self, reduceCtorEq, ↓reduceIte, if_true, if_false, Nat.not_lt_zero, not_true_eq_false, not_false_eq_true, Bool.false_eq_true, Nat.le_refl, Nat.lt_irrefl]
            · simp (disch := omega) only [f_LM_taken, m_isVase m'.1, m_in03, m_in01, h1, h2, h3, m_takenOf m'.1 w.1 hk hd, hu, z_eS, z_le, z_lt, z_eq, z_leL, z_leR, z_ltL, z_ltR, z_eqR, z_eqL, z_m1, z_m1s, z_m1le, z_m1lt, z_m1lt0, z_m1le0, z_0lem1, z_m1lek, z_add, z_addL, z_addR, z_mulR, z_sub, z_subL, z_gd, z_ix, z_cl, z_or0, z_add0, z_bs, z_gd, z_b1, z_b0, z_10, z_01, eq_self, reduceCtorEq, ↓reduceIte, if_true, if_false, Nat.not_lt_zero, not_true_eq_false, not_false_eq_true, Bool.false_eq_true, Nat.le_refl, Nat.lt_irrefl]
          · cases hv : q_va (s_h s) k with
            | none =>
              have h9 := (q_fst_lt hu).2.2
              simp only [Option.isSome_iff_exists] at h9
              obtain ⟨v, h9⟩ := h9
              have h8 := (q_fst_lt h9).2.2
              unfold q_th at h8
              rw [hv] at h8
              simp at h8
            | some y =>
              have hy := w.1.va hk hv
              refine ⟨q_e (q_t1 (s_h s) k d u), (q_e (q_t1 (s_h s) k d u), lh_u2 I (65 + 4) 0 0), ?_, ?_, rfl, hi.en hf⟩
              · simp (disch := omega) only [f_LH_taken, e_hasVase c.1, e_isDay, h1, h2, e_hourTaken c.1 w.1 hk hd, hu, hx0, show x ≤ 1 by omega, z_eS, c.1.va hk, hv, e_thief c.1 w.1 hv hy hd hu8, z_le, z_lt, z_eq, z_leL, z_leR, z_ltL, z_ltR, z_eqR, z_eqL, z_m1, z_m1s, z_m1le, z_m1lt, z_m1lt0, z_m1le0, z_0lem1, z_m1lek, z_add, z_addL, z_addR, z_mulR, z_sub, z_subL, z_gd, z_ix, z_cl, z_or0, z_add0, z_bs, z_gd, z_b1, z_b0, z_10, z_01, eq_self, reduceCtorEq, ↓reduceIte, if_true, if_false, Nat.not_lt_zero, not_true_eq_false, not_false_eq_true, Bool.false_eq_true, Nat.le_refl, Nat.lt_irrefl]
              · simp (disch := omega) only [f_LM_taken, m_isVase m'.1, m_in03, m_in01, h1, h2, h3, m_takenOf m'.1 w.1 hk hd, hu, hx0, z_eS, m_thiefOf m'.1 w.1 hk hd hu8, z_le, z_lt, z_eq, z_leL, z_leR, z_ltL, z_ltR, z_eqR, z_eqL, z_m1, z_m1s, z_m1le, z_m1lt, z_m1lt0, z_m1le0, z_0lem1, z_m1lek, z_add, z_addL, z_addR, z_mulR, z_sub, z_subL, z_gd, z_ix, z_cl, z_or0, z_add0, z_bs, z_gd, z_b1, z_b0, z_10, z_01, eq_self, reduceCtorEq, ↓reduceIte, if_true, if_false, Nat.not_lt_zero, not_true_eq_false, not_false_eq_true, Bool.false_eq_true, Nat.le_refl, Nat.lt_irrefl]
theorem p_chance : lh_P23 lh_inv := by
  intro t a b a2 b2 I L x1 x2 x3 hi
  obtain ⟨s, w, c, m, m', hf⟩ := hi.op
  have hK := w.1.K
  have hN := w.1.N
  have hl : ∀ (A B : Option Int32), (if x3 < 0 then A else if x3 ≤ 10 then B else A) = if q_is 11 x3 = true then B else A := fun A B => q_isL 10 (by decide)
  cases h1 : q_is (q_K (s_h s)) x1 with
  | false => exact ⟨-1, (-1, lh_u2 I (65 + 4) 0 0), by simp only [f_LH_chance, e_hasVase c.1, h1, z_bs, z_gd, z_b1, z_b0, z_10, z_01, eq_self, reduceCtorEq, ↓reduceIte, if_true, if_false, Nat.not_lt_zero, not_true_eq_false, not_false_eq_true, Bool.false_eq_true, Nat.le_refl, Nat.lt_irrefl], by simp only [f_LM_chance, m_isVase m'.1, h1, z_bs, z_gd, z_b1, z_b0, z_10, z_01, eq_self, reduceCtorEq, ↓reduceIte, if_true, if_false, Nat.not_lt_zero, not_true_eq_false, not_false_eq_true, Bool.false_eq_true, Nat.le_refl, Nat.lt_irrefl], rfl, hi.en hf⟩
  | true =>
    cases h2 : q_is 4 x2 with
    | false => exact ⟨-1, (-1, lh_u2 I (65 + 4) 0 0), by simp only [f_LH_chance, e_hasVase c.1, e_isDay, h1, h2, z_bs, z_gd, z_b1, z_b0, z_10, z_01, eq_self, reduceCtorEq, ↓reduceIte, if_true, if_false, Nat.not_lt_zero, not_true_eq_false, not_false_eq_true, Bool.false_eq_true, Nat.le_refl, Nat.lt_irrefl], by simp only [f_LM_chance, m_isVase m'.1, m_in03, h1, h2, z_bs, z_gd, z_b1, z_b0, z_10, z_01, eq_self, reduceCtorEq, ↓reduceIte, if_true, if_false, Nat.not_lt_zero, not_true_eq_false, not_false_eq_true, Bool.false_eq_true, Nat.le_refl, Nat.lt_irrefl], rfl, hi.en hf⟩
    | true =>
      cases h3 : q_is 11 x3 with
      | false => exact ⟨-1, (-1, lh_u2 I (65 + 4) 0 0), by simp only [f_LH_chance, e_hasVase c.1, e_isDay, hl, h1, h2, h3, z_bs, z_gd, z_b1, z_b0, z_10, z_01, eq_self, reduceCtorEq, ↓reduceIte, if_true, if_false, Nat.not_lt_zero, not_true_eq_false, not_false_eq_true, Bool.false_eq_true, Nat.le_refl, Nat.lt_irrefl], by simp only [f_LM_chance, m_isVase m'.1, m_in03, m_in010, h1, h2, h3, z_bs, z_gd, z_b1, z_b0, z_10, z_01, eq_self, reduceCtorEq, ↓reduceIte, if_true, if_false, Nat.not_lt_zero, not_true_eq_false, not_false_eq_true, Bool.false_eq_true, Nat.le_refl, Nat.lt_irrefl], rfl, hi.en hf⟩
      | true =>
        obtain ⟨k, hk, rfl⟩ := q_is_ex (by omega) h1
        obtain ⟨d, hd, rfl⟩ := q_is_ex (by omega) h2
        obtain ⟨o, ho, rfl⟩ := q_is_ex (by omega) h3
        have hj := fb_ct_le (q_wo (s_h s) k d) (q_N (s_h s))
        obtain ⟨g1, g2⟩ := q_chance_eq (q_N (s_h s)) (by omega) o ho _ (Nat.lt_succ_of_le hj)
        refine ⟨1000000 - nI (q_sf o (fb_ct (q_wo (s_h s) k d) (q_N (s_h s)))), (1000000 - nI (q_sf o (fb_ct (q_wo (s_h s) k d) (q_N (s_h s)))), lh_u2 I (65 + 4) 0 0), ?_, ?_, rfl, hi.en hf⟩
        · simp only [f_LH_chance, e_hasVase c.1, e_isDay, hl, h1, h2, h3, e_chance19 c.1 w.1 hk hd ho, z_bs, z_gd, z_b1, z_b0, z_10, z_01, eq_self, reduceCtorEq, ↓reduceIte, if_true, if_false, Nat.not_lt_zero, not_true_eq_false, not_false_eq_true, Bool.false_eq_true, Nat.le_refl, Nat.lt_irrefl]
        · simp only [f_LM_chance, m_isVase m'.1, m_in03, m_in010, h1, h2, h3, m_chance25 m'.1 w.1 hk hd ho, z_bs, z_gd, z_b1, z_b0, z_10, z_01, eq_self, reduceCtorEq, ↓reduceIte, if_true, if_false, Nat.not_lt_zero, not_true_eq_false, not_false_eq_true, Bool.false_eq_true, Nat.le_refl, Nat.lt_irrefl]
          rw [q_gd g1, g2]
