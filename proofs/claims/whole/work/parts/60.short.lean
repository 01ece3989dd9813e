/-! shortest -/
section Q60
variable {a b : Nat} {I J : lh_II} {L : lh_LL} {h : lh_H}
theorem z_bt0 (x : Int32) {j : Nat} (hj : j < 31) : (((x >>> (nI j &&& 31)) &&& 1) = 0) = (bt x j = false) := by
  have h0 : ∀ i, i < 32 → bt ((x >>> (nI j &&& 31)) &&& 1) i = (decide (i = 0) && bt x j) := by
    intro i hi
    rw [b_and, b_sshr j (by omega) _ hi]
    rw [show bt (1 : Int32) i = decide (i = 0) from (by decide +kernel : ∀ i, i < 32 → bt (1 : Int32) i = decide (i = 0)) i hi]
    by_cases e : i = 0
    · subst e; rw [if_pos (by omega)]; simp
    · simp [e]
  apply propext
  constructor
  · intro e
    have := h0 0 (by omega)
    rw [e, b_0] at this
    simpa using this.symm
  · intro e
    apply b_ext
    intro i hi
    rw [h0 i hi, e, b_0, Bool.and_false]
theorem bt_nI {x i : Nat} (hx : x < 2 ^ 31) (hi : i < 32) : bt (nI x) i = x.testBit i := by
  show (BitVec.ofNat 32 x).getLsbD i = _
  rw [BitVec.getLsbD_ofNat]
  simp [hi]
theorem e_spread {v : Int32} {m : lh_Mt} {R : lh_Rs} (hv : ∀ c, c < 12 → bt v c = !q_op h m c) (hL : ∀ c k, c < 12 → k < 64 → bl (L (5 + 4) c) k = R c k) : ∃ L', f_Wa_spread v L = some L' ∧ (∀ c k, c < 12 → k < 64 → bl (L' (5 + 4) c) k = q_r1 h m R c k) ∧ ∀ o i, o ≠ 9 → o ≠ 10 → L' o i = L o i := by
  have or0 : ∀ x : Int64, x ||| 0 = x := fun x => bl_ext (fun i _ => by rw [bl_or, bl_0, Bool.or_false])
  have key := q_forI (F := fun f k (K : lh_LL) => f_Wa_spread_2 v f (nI k) K) (N := 12) (P := fun k K => (∀ c i, c < k → i < 64 → bl (K (6 + 4) c) i = q_r1 h m R c i) ∧ ∀ o i, o ≠ 10 → K o i = L o i) (Q := fun K => (∀ c i, c < 12 → i < 64 → bl (K (6 + 4) c) i = q_r1 h m R c i) ∧ ∀ o i, o ≠ 10 → K o i = L o i) (fun f k K hk hK => by
    obtain ⟨p1, p2⟩ := hK
    have r : ∀ i, K (5 + 4) i = L (5 + 4) i := fun i => p2 _ _ (by omega)
    have hput : ∀ y : Int64, (∀ i, i < 64 → bl y i = q_r1 h m R k i) → (∀ c i, c < k + 1 → i < 64 → bl (lh_v2 K (6 + 4) k y (6 + 4) c) i = q_r1 h m R c i) ∧ ∀ o i, o ≠ 10 → lh_v2 K (6 + 4) k y o i = L o i := by
      intro y hy
      refine ⟨fun c i hc hi => ?_, fun o i h9 => by rw [q_v2o (by omega)]; exact p2 o i h9⟩
      by_cases e : c = k
      · subst e; rw [q_v2s]; exact hy i hi
      · rw [q_v2o (by omega)]; exact p1 c i (by omega) hi
    have hb := hv k hk
    cases ho : q_op h m k with
    | false =>
      rw [ho, Bool.not_false] at hb
      refine ⟨lh_v2 K (6 + 4) k (L (5 + 4) k), hput _ (fun i hi => ?_), ?_⟩
      · rw [hL k i hk hi]; unfold q_r1; rw [ho]; simp
      · simp (disch := omega) only [f_Wa_spread_2, z_bt0, hb, r, Bool.true_eq_false, show ¬ 12 ≤ k by omega, z_le, z_lt, z_eq, z_leL, z_leR, z_ltL, z_ltR, z_eqR, z_eqL, z_m1, z_m1s, z_m1le, z_m1lt, z_m1lt0, z_m1le0, z_0lem1, z_m1lek, z_add, z_addL, z_addR, z_mulR, z_sub, z_subL, z_gd, z_ix, z_cl, z_or0, z_add0, z_bs, z_gd, z_b1, z_b0, z_10, z_01, eq_self, reduceCtorEq, ↓reduceIte, if_true, if_false, Nat.not_lt_zero, not_true_eq_false, not_false_eq_true, Bool.false_eq_true, Nat.le_refl, Nat.lt_irrefl]
    | true =>
      rw [ho, Bool.not_true] at hb
      by_cases k0 : k = 0
      · subst k0
        refine ⟨lh_v2 K (6 + 4) 0 (L (5 + 4) 0 ||| L (5 + 4) 1), hput _ (fun i hi => ?_), ?_⟩
        · rw [bl_or, hL 0 i hk hi, hL 1 i (by omega) hi]; unfold q_r1; rw [ho]; simp
        · simp (disch := omega) only [f_Wa_spread_2, z_bt0, hb, r, or0, show ¬ 12 ≤ 0 by omega, show ¬ 12 ≤ 0 + 1 by omega, z_le, z_lt, z_eq, z_leL, z_leR, z_ltL, z_ltR, z_eqR, z_eqL, z_m1, z_m1s, z_m1le, z_m1lt, z_m1lt0, z_m1le0, z_0lem1, z_m1lek, z_add, z_addL, z_addR, z_mulR, z_sub, z_subL, z_gd, z_ix, z_cl, z_or0, z_add0, z_bs, z_gd, z_b1, z_b0, z_10, z_01, eq_self, reduceCtorEq, ↓reduceIte, if_true, if_false, Nat.not_lt_zero, not_true_eq_false, not_false_eq_true, Bool.false_eq_true, Nat.le_refl, Nat.lt_irrefl]
      · by_cases k11 : k = 11
        · subst k11
          refine ⟨lh_v2 K (6 + 4) 11 (L (5 + 4) 11 ||| L (5 + 4) 10), hput _ (fun i hi => ?_), ?_⟩
          · rw [bl_or, hL 11 i hk hi, hL 10 i (by omega) hi]; unfold q_r1; rw [ho]; simp
          · simp (disch := omega) only [f_Wa_spread_2, z_bt0, hb, r, or0, show ¬ 12 ≤ 11 by omega, show 12 ≤ 11 + 1 by omega, show ¬ 11 ≤ 0 by omega, show (11 : Nat) - 1 = 10 from rfl, z_le, z_lt, z_eq, z_leL, z_leR, z_ltL, z_ltR, z_eqR, z_eqL, z_m1, z_m1s, z_m1le, z_m1lt, z_m1lt0, z_m1le0, z_0lem1, z_m1lek, z_add, z_addL, z_addR, z_mulR, z_sub, z_subL, z_gd, z_ix, z_cl, z_or0, z_add0, z_bs, z_gd, z_b1, z_b0, z_10, z_01, eq_self, reduceCtorEq, ↓reduceIte, if_true, if_false, Nat.not_lt_zero, not_true_eq_false, not_false_eq_true, Bool.false_eq_true, Nat.le_refl, Nat.lt_irrefl]
        · refine ⟨lh_v2 K (6 + 4) k ((L (5 + 4) k ||| L (5 + 4) (k - 1)) ||| L (5 + 4) (k + 1)), hput _ (fun i hi => ?_), ?_⟩
          · rw [bl_or, bl_or, hL k i hk hi, hL (k - 1) i (by omega) hi, hL (k + 1) i (by omega) hi]
            unfold q_r1
            rw [ho]
            have e1 : decide (0 < k) = true := by simp; omega
            have e2 : decide (k + 1 < 12) = true := by simp; omega
            rw [e1, e2]
            simp [Bool.or_assoc]
          · simp (disch := omega) only [f_Wa_spread_2, z_bt0, hb, r, show ¬ 12 ≤ k by omega, show ¬ 12 ≤ k + 1 by omega, show ¬ k ≤ 0 by omega, z_le, z_lt, z_eq, z_leL, z_leR, z_ltL, z_ltR, z_eqR, z_eqL, z_m1, z_m1s, z_m1le, z_m1lt, z_m1lt0, z_m1le0, z_0lem1, z_m1lek, z_add, z_addL, z_addR, z_mulR, z_sub, z_subL, z_gd, z_ix, z_cl, z_or0, z_add0, z_bs, z_gd, z_b1, z_b0, z_10, z_01, eq_self, reduceCtorEq, ↓reduceIte, if_true, if_false, Nat.not_lt_zero, not_true_eq_false, not_false_eq_true, Bool.false_eq_true, Nat.le_refl, Nat.lt_irrefl]) (fun f K hK => by
    refine ⟨K, ?_, hK⟩
    simp (disch := omega) only [f_Wa_spread_2, z_le, z_lt, z_eq, z_leL, z_leR, z_ltL, z_ltR, z_eqR, z_eqL, z_m1, z_m1s, z_m1le, z_m1lt, z_m1lt0, z_m1le0, z_0lem1, z_m1lek, z_add, z_addL, z_addR, z_mulR, z_sub, z_subL, z_gd, z_ix, z_cl, z_or0, z_add0, z_bs, z_gd, z_b1, z_b0, z_10, z_01, eq_self, reduceCtorEq, ↓reduceIte, if_true, if_false, Nat.not_lt_zero, not_true_eq_false, not_false_eq_true, Bool.false_eq_true, Nat.le_refl, Nat.lt_irrefl]) 12 lh_fuel 0 L rfl (by decide) ⟨fun c i hc => absurd hc (by omega), fun _ _ _ => rfl⟩
  obtain ⟨K, e, h1, h2⟩ := key
  have e' : f_Wa_spread_2 v lh_fuel 0 L = some K := e
  refine ⟨lh_cp K (6 + 4) (5 + 4) 12, by rw [f_Wa_spread, e', q_bs], fun c k hc hk => ?_, fun o i h3 h4 => ?_⟩
  · unfold lh_cp
    rw [if_pos rfl, if_pos hc]
    exact h1 c k hc hk
  · unfold lh_cp
    rw [if_neg (by omega)]
    exact h2 o i h4
theorem e_look (c : q_cl a I h) (w : q_wf h) {d l u : Nat} (hu : u < 8) (hI : ∀ r, r ≤ q_B h → I (a + 11 + 4) r = nI (q_sd h d l r u)) : ∃ L', f_Wa_look a (nI u) I L = some L' ∧ (∀ x k, x < q_C h → k < 64 → bl (L' (5 + 4) x) k = q_jn (L (5 + 4) x) (q_se h (q_lt h x (q_P h)) x d l u) k) ∧ (∀ x, q_C h ≤ x → L' (5 + 4) x = L (5 + 4) x) ∧ ∀ o i, o ≠ 9 → L' o i = L o i := by
  have hC := w.C
  have key := q_forI (F := fun f k (K : lh_LL) => f_Wa_look_2 a (nI u) I f (nI k) K) (N := q_C h) (P := fun k K => (∀ x i, x < k → i < 64 → bl (K (5 + 4) x) i = q_jn (L (5 + 4) x) (q_se h (q_lt h x (q_P h)) x d l u) i) ∧ (∀ x, k ≤ x → K (5 + 4) x = L (5 + 4) x) ∧ ∀ o i, o ≠ 9 → K o i = L o i) (Q := fun K => (∀ x i, x < q_C h → i < 64 → bl (K (5 + 4) x) i = q_jn (L (5 + 4) x) (q_se h (q_lt h x (q_P h)) x d l u) i) ∧ (∀ x, q_C h ≤ x → K (5 + 4) x = L (5 + 4) x) ∧ ∀ o i, o ≠ 9 → K o i = L o i) (fun f k K hk hK => by
    obtain ⟨p1, p2, p3⟩ := hK
    have hl := q_lt_lt w (st := q_P h) hk
    have h64 := q_se_64 w (q_lt h k (q_P h)) k d l u
    have ec : (lg_cmp (K (5 + 4) k) (0 : Int64) = 0) = (L (5 + 4) k = 0) := by rw [p2 k (Nat.le_refl _)]; exact propext (lg_cmp_eq _ _)
    by_cases hz : L (5 + 4) k = 0
    · refine ⟨K, ⟨fun x i hx hi => ?_, fun x hx => p2 x (by omega), p3⟩, ?_⟩
      · by_cases e : x = k
        · subst e
          rw [p2 x (Nat.le_refl _), hz, bl_0]
          symm
          exact (q_jn_0 h64).mpr (fun i _ => bl_0 i) i hi
        · exact p1 x i (by omega) hi
      · simp (disch := omega) only [f_Wa_look_2, c.C, ec, hz, show ¬ q_C h ≤ k by omega, show ¬ 12 ≤ k by omega, z_le, z_lt, z_eq, z_leL, z_leR, z_ltL, z_ltR, z_eqR, z_eqL, z_m1, z_m1s, z_m1le, z_m1lt, z_m1lt0, z_m1le0, z_0lem1, z_m1lek, z_add, z_addL, z_addR, z_mulR, z_sub, z_subL, z_gd, z_ix, z_cl, z_or0, z_add0, z_bs, z_gd, z_b1, z_b0, z_10, z_01, eq_self, reduceCtorEq, ↓reduceIte, if_true, if_false, Nat.not_lt_zero, not_true_eq_false, not_false_eq_true, Bool.false_eq_true, Nat.le_refl, Nat.lt_irrefl]
    · obtain ⟨y, g1, g2⟩ := e_withSeen (L (5 + 4) k) h64 K
      have es := e_seenIn (I := I) (d := d) (l := l) c w hk hu (show q_lt h k (q_P h) < 2147483648 by omega) (fun p hp => (q_lt_tb hk hp).2) hI
      refine ⟨lh_v2 K (5 + 4) k y, ⟨fun x i hx hi => ?_, fun x hx => by rw [q_v2o (by omega)]; exact p2 x (by omega), fun o i h9 => by rw [q_v2o (by omega)]; exact p3 o i h9⟩, ?_⟩
      · by_cases e : x = k
        · subst e; rw [q_v2s]; exact g2 i hi
        · rw [q_v2o (by omega)]; exact p1 x i (by omega) hi
      · have ec2 : (lg_cmp (L (5 + 4) k) (0 : Int64) = 0) = (L (5 + 4) k = 0) := propext (lg_cmp_eq _ _)
        simp (disch := omega) only [f_Wa_look_2, c.C, ec2, hz, e_lightFrom c w hk, es, p2 k (Nat.le_refl _), g1, show ¬ q_C h ≤ k by omega, show ¬ 12 ≤ k by omega, z_le, z_lt, z_eq, z_leL, z_leR, z_ltL, z_ltR, z_eqR, z_eqL, z_m1, z_m1s, z_m1le, z_m1lt, z_m1lt0, z_m1le0, z_0lem1, z_m1lek, z_add, z_addL, z_addR, z_mulR, z_sub, z_subL, z_gd, z_ix, z_cl, z_or0, z_add0, z_bs, z_gd, z_b1, z_b0, z_10, z_01, eq_self, reduceCtorEq, ↓reduceIte, if_true, if_false, Nat.not_lt_zero, not_true_eq_false, not_false_eq_true, Bool.false_eq_true, Nat.le_refl, Nat.lt_irrefl]) (fun f K hK => by
    refine ⟨K, ?_, hK⟩
    simp (disch := omega) only [f_Wa_look_2, c.C, z_le, z_lt, z_eq, z_leL, z_leR, z_ltL, z_ltR, z_eqR, z_eqL, z_m1, z_m1s, z_m1le, z_m1lt, z_m1lt0, z_m1le0, z_0lem1, z_m1lek, z_add, z_addL, z_addR, z_mulR, z_sub, z_subL, z_gd, z_ix, z_cl, z_or0, z_add0, z_bs, z_gd, z_b1, z_b0, z_10, z_01, eq_self, reduceCtorEq, ↓reduceIte, if_true, if_false, Nat.not_lt_zero, not_true_eq_false, not_false_eq_true, Bool.false_eq_true, Nat.le_refl, Nat.lt_irrefl]) (q_C h) lh_fuel 0 L (Nat.zero_add _) (by unfold lh_fuel; omega) ⟨fun x i hx => absurd hx (by omega), fun _ _ => rfl, fun _ _ _ => rfl⟩
  obtain ⟨K, e, h1⟩ := key
  have e' : f_Wa_look_2 a (nI u) I lh_fuel 0 L = some K := e
  exact ⟨K, by rw [f_Wa_look, e', q_bs], h1⟩
def q_pp (R : lh_Rs) (s : Nat) : Bool := q_any (fun c => q_any (fun k => R c k && q_gl s k) 64) 12
theorem e_isReached {g : Int64} {R : lh_Rs} {s : Nat} (hg : ∀ k, k < 64 → bl g k = q_gl s k) (hL : ∀ c k, c < 12 → k < 64 → bl (L (5 + 4) c) k = R c k) : f_Wa_isReached g L = some (q_b01 (q_pp R s)) := by
  have hz : ∀ c, c < 12 → ((L (5 + 4) c &&& g) = 0) = (q_any (fun k => R c k && q_gl s k) 64 = false) := by
    intro c hc
    rw [bl_zero, ← Bool.not_eq_true, q_any_iff]
    apply propext
    constructor
    · rintro h1 ⟨k, hk, h2⟩
      have := h1 k hk
      rw [bl_and, hL c k hc hk, hg k hk] at this
      rw [this] at h2
      cases h2
    · intro h1 k hk
      rw [bl_and, hL c k hc hk, hg k hk]
      apply Classical.byContradiction
      intro h2
      exact h1 ⟨k, hk, by simpa using h2⟩
  have := q_forF (F := fun n k => f_Wa_isReached_2 g L n (nI k)) (N := 12) (p := fun c => q_any (fun k => R c k && q_gl s k) 64) (fnd := fun _ => (0 : Nat)) (nf := 1) (fun n k hk => by
    have ec : (lg_cmp (L (5 + 4) k &&& g) (0 : Int64) = 0) = (q_any (fun i => R k i && q_gl s i) 64 = false) := by rw [← hz k hk]; exact propext (lg_cmp_eq _ _)
    simp (disch := omega) only [f_Wa_isReached_2, ec, show ¬ 12 ≤ k by omega, z_le, z_lt, z_eq, z_leL, z_leR, z_ltL, z_ltR, z_eqR, z_eqL, z_m1, z_m1s, z_m1le, z_m1lt, z_m1lt0, z_m1le0, z_0lem1, z_m1lek, z_add, z_addL, z_addR, z_mulR, z_sub, z_subL, z_gd, z_ix, z_cl, z_or0, z_add0, z_bs, z_gd, z_b1, z_b0, z_10, z_01, eq_self, reduceCtorEq, ↓reduceIte, if_true, if_false, Nat.not_lt_zero, not_true_eq_false, not_false_eq_true, Bool.false_eq_true, Nat.le_refl, Nat.lt_irrefl]
    cases q_any (fun i => R k i && q_gl s i) 64 <;> simp only [Bool.true_eq_false, z_bs, z_gd, z_b1, z_b0, z_10, z_01, eq_self, reduceCtorEq, ↓reduceIte, if_true, if_false, Nat.not_lt_zero, not_true_eq_false, not_false_eq_true, Bool.false_eq_true, Nat.le_refl, Nat.lt_irrefl]) (fun n => by
    simp (disch := omega) only [f_Wa_isReached_2, z_le, z_lt, z_eq, z_leL, z_leR, z_ltL, z_ltR, z_eqR, z_eqL, z_m1, z_m1s, z_m1le, z_m1lt, z_m1lt0, z_m1le0, z_0lem1, z_m1lek, z_add, z_addL, z_addR, z_mulR, z_sub, z_subL, z_gd, z_ix, z_cl, z_or0, z_add0, z_bs, z_gd, z_b1, z_b0, z_10, z_01, eq_self, reduceCtorEq, ↓reduceIte, if_true, if_false, Nat.not_lt_zero, not_true_eq_false, not_false_eq_true, Bool.false_eq_true, Nat.le_refl, Nat.lt_irrefl]) 12 lh_fuel 0 rfl (by decide)
  have h2 : f_Wa_isReached_2 g L lh_fuel 0 = _ := this
  rw [f_Wa_isReached, h2, q_bs]
  have e : q_pp R s = (q_fst (fun c => q_any (fun k => R c k && q_gl s k) 64) 0 12).isSome := (q_fst_any 12).symm
  rw [e]
  cases q_fst (fun c => q_any (fun k => R c k && q_gl s k) 64) 0 12 <;> rfl
theorem q_sm_cm (m : lh_Mt) (c : Nat) : q_sm h (q_cm m c) (q_P h) = if u_o m = 0 then 0 else q_se h (q_lt h c (q_P h)) c (u_d m) (u_o m) (u_h m) := rfl
theorem e_see37 (c : q_cl a I h) (w : q_wf h) {n s z0 : Nat} {m : lh_Mt} {g : Int64} (ha : a = 11 ∨ a = 23) (hm : q_mc I 7 m) (hw : q_mw h n m) (hg : ∀ k, k < 64 → bl g k = q_gl s k) (hp0 : q_pp (q_Gi h m z0 0).1 s = false) (hL : ∀ x k, x < 12 → k < 64 → bl (L (5 + 4) x) k = q_R0 (u_c m) z0 x k) :
    ∃ r, f_Wa_fewestToSee_37 a 7 g lh_fuel (nI (u_h m)) (nI (u_o m)) 1 I L = some r ∧ q_fc a I r.2.2.1 ∧ (∀ o i, o ≠ 9 → o ≠ 10 → r.2.2.2 o i = L o i) ∧ ((r.1 = 0 ∧ ∃ j, q_fst (fun j => q_pp (q_Gi h m z0 j).1 s) 0 41 = some j ∧ r.2.1 = nI j) ∨ (r.1 = 1 ∧ q_fst (fun j => q_pp (q_Gi h m z0 j).1 s) 0 41 = none)) := by
  have hC := w.C
  have key := q_forX (F := fun f k (K : lh_II × lh_LL) => f_Wa_fewestToSee_37 a 7 g f (nI (u_h (q_Gi h m z0 k).2)) (nI (u_o (q_Gi h m z0 k).2)) (nI (k + 1)) K.1 K.2) (N := 40) (P := fun k K => q_fc a I K.1 ∧ (∀ x i, x < 12 → i < 64 → bl (K.2 (5 + 4) x) i = (q_Gi h m z0 k).1 x i) ∧ (∀ o i, o ≠ 9 → o ≠ 10 → K.2 o i = L o i) ∧ ∀ j, j < k + 1 → q_pp (q_Gi h m z0 j).1 s = false) (Q := fun r => q_fc a I r.2.2.1 ∧ (∀ o i, o ≠ 9 → o ≠ 10 → r.2.2.2 o i = L o i) ∧ ((r.1 = 0 ∧ ∃ j, q_fst (fun j => q_pp (q_Gi h m z0 j).1 s) 0 41 = some j ∧ r.2.1 = nI j) ∨ (r.1 = 1 ∧ q_fst (fun j => q_pp (q_Gi h m z0 j).1 s) 0 41 = none))) (fun f k K hk hK => by
    obtain ⟨K, M⟩ := K
    obtain ⟨p1, p2, p3, p4⟩ := hK
    simp only at p1 p2 p3
    obtain ⟨ok1, ok2⟩ := q_Gi_ok hw z0 k
    have cK : q_cl a K h := c.keep (fun j k' hj hj3 => p1 _ _ (by omega) (by omega))
    have rd : ∀ K' : lh_II, q_fc a I K' → K' (7 + 4) 2 = nI (u_d (q_Gi h m z0 k).2) := fun K' hK' => by rw [hK' _ _ (by omega) (by omega), q_Gi_d]; exact hm.2.2.1
    obtain ⟨K1, g1, g2⟩ := e_closed cK w ok2 ha
    have hK1 : q_fc a I K1 := fun o k h1 h2 => by rw [g2 o k h1 h2, p1 o k h1 h2]
    have cK1 : q_cl a K1 h := c.keep (fun j k' hj hj3 => hK1 _ _ (by omega) (by omega))
    have hall : q_mk (fun _ => true) (q_C h) < 2 ^ 31 := Nat.lt_trans (q_mk31 _ hC.2) (by decide)
    have hclb : q_mk (q_clb h (q_Gi h m z0 k).2) (q_C h) < 2 ^ 31 := Nat.lt_trans (q_mk31 _ hC.2) (by decide)
    obtain ⟨M1, s1, s2, s3⟩ := e_spread (h := h) (m := (q_Gi h m z0 k).2) (L := M) (v := nI (q_mk (q_clb h (q_Gi h m z0 k).2) (q_C h)) ||| (nI (q_mk (fun _ => true) (q_C h)) ^^^ (-1))) (fun x hx => by
      rw [b_or, b_xor, b_m1 x (by omega), bt_nI hclb (by omega), bt_nI hall (by omega), q_mk_tb, q_mk_tb, q_op_clb]
      cases decide (x < q_C h) <;> cases q_clb h (q_Gi h m z0 k).2 x <;> rfl) p2
    have o4 := ok2.2.2.2.1
    have u8 := ok2.2.1
    have eG := q_Gi_s (h := h) m z0 k
    have ehour : nI (u_h (q_Gi h m z0 k).2) + 1 - (nI (u_h (q_Gi h m z0 k).2) + 1) / 8 * 8 = nI ((u_h (q_Gi h m z0 k).2 + 1) % 8) := by
      rw [nI_1]; exact pk_rem (d := 8) (by omega) (by omega) (by omega)
    have ehour2 : nI (u_h (q_Gi h m z0 k).2 + 1) - nI (u_h (q_Gi h m z0 k).2 + 1) / 8 * 8 = nI ((u_h (q_Gi h m z0 k).2 + 1) % 8) := pk_rem (d := 8) (by omega) (by omega) (by omega)
    have esa : (((1 : Int32) <<< (nI (q_C h) &&& 31)) - 1) = nI (q_mk (fun _ => true) (q_C h)) := q_all1 (by omega)
    -- the end of a step, once who is seen is known
    have fin : ∀ (K' : lh_II) (M' : lh_LL), q_fc a I K' → (∀ x i, x < 12 → i < 64 → bl (M' (5 + 4) x) i = (q_Gi h m z0 (k + 1)).1 x i) → (∀ o i, o ≠ 9 → o ≠ 10 → M' o i = L o i) → f_Wa_fewestToSee_37 a 7 g (f + 1) (nI (u_h (q_Gi h m z0 k).2)) (nI (u_o (q_Gi h m z0 k).2)) (nI (k + 1)) K M = (lh_bd (f_Wa_isReached g M') fun r24 => if r24 = 0 then f_Wa_fewestToSee_37 a 7 g f (nI (u_h (q_Gi h m z0 (k + 1)).2)) (nI (u_o (q_Gi h m z0 (k + 1)).2)) (nI (k + 1 + 1)) K' M' else some (0, nI (k + 1), K', M')) → (∃ y : lh_II × lh_LL, (q_fc a I y.1 ∧ (∀ x i, x < 12 → i < 64 → bl (y.2 (5 + 4) x) i = (q_Gi h m z0 (k + 1)).1 x i) ∧ (∀ o i, o ≠ 9 → o ≠ 10 → y.2 o i = L o i) ∧ ∀ j, j < k + 1 + 1 → q_pp (q_Gi h m z0 j).1 s = false) ∧ f_Wa_fewestToSee_37 a 7 g (f + 1) (nI (u_h (q_Gi h m z0 k).2)) (nI (u_o (q_Gi h m z0 k).2)) (nI (k + 1)) K M = f_Wa_fewestToSee_37 a 7 g f (nI (u_h (q_Gi h m z0 (k + 1)).2)) (nI (u_o (q_Gi h m z0 (k + 1)).2)) (nI (k + 1 + 1)) y.1 y.2) ∨ ∃ r : Nat × Int32 × lh_II × lh_LL, f_Wa_fewestToSee_37 a 7 g (f + 1) (nI (u_h (q_Gi h m z0 k).2)) (nI (u_o (q_Gi h m z0 k).2)) (nI (k + 1)) K M = some r ∧ q_fc a I r.2.2.1 ∧ (∀ o i, o ≠ 9 → o ≠ 10 → r.2.2.2 o i = L o i) ∧ ((r.1 = 0 ∧ ∃ j, q_fst (fun j => q_pp (q_Gi h m z0 j).1 s) 0 41 = some j ∧ r.2.1 = nI j) ∨ (r.1 = 1 ∧ q_fst (fun j => q_pp (q_Gi h m z0 j).1 s) 0 41 = none)) := by
      intro K' M' f1 f2 f3 f4
      rw [e_isReached hg f2, q_bs] at f4
      cases hpp : q_pp (q_Gi h m z0 (k + 1)).1 s with
      | true =>
        rw [hpp, if_neg (by decide)] at f4
        exact Or.inr ⟨_, f4, f1, f3, Or.inl ⟨rfl, k + 1, q_fst_at (by omega) p4 hpp, rfl⟩⟩
      | false =>
        rw [hpp, if_pos (by decide)] at f4
        refine Or.inl ⟨(K', M'), ⟨f1, f2, f3, fun j hj => ?_⟩, f4⟩
        by_cases e : j = k + 1
        · subst e; exact hpp
        · exact p4 j (by omega)
    have eu : u_h (q_Gi h m z0 (k + 1)).2 = (u_h (q_Gi h m z0 k).2 + 1) % 8 := by rw [eG]; rfl
    have el : u_o (q_Gi h m z0 (k + 1)).2 = u_o (q_Gi h m z0 k).2 - 1 := by rw [eG]; rfl
    by_cases hl0 : u_o (q_Gi h m z0 k).2 - 1 = 0
    · refine fin K1 M1 hK1 (fun x i hx hi => ?_) (fun o i h1 h2 => by rw [s3 o i h1 h2, p3 o i h1 h2]) ?_
      · rw [s2 x i hx hi, eG]
        show _ = q_r2 h (q_Gi h m z0 k).2 (q_Gi h m z0 k).1 x i
        unfold q_r2
        rw [q_sm_cm, if_pos (show u_o (q_nm (q_Gi h m z0 k).2) = 0 from hl0), Bool.eq_iff_iff, q_any_iff]
        constructor
        · intro h1; exact ⟨i, hi, by simp [h1]⟩
        · rintro ⟨j, hj, h1⟩
          simp only [Bool.and_eq_true, decide_eq_true_eq, Nat.or_zero] at h1
          rw [← h1.2]; exact h1.1
      · rw [f_Wa_fewestToSee_37]
        simp (disch := omega) only [z_ltL, show ¬ 40 < k + 1 by omega, if_false, rd K p1, g1, f_Ha_allCells, cK1.C, esa, s1, ehour2, q_oil o4, hl0, z_leR, Nat.le_refl, if_true, z_bs, nI_1, eu, el]
    · obtain ⟨K2, t1, t2, t3⟩ := e_tell cK1 w (u_d (q_Gi h m z0 k).2) (u_o (q_Gi h m z0 k).2 - 1) ((u_h (q_Gi h m z0 k).2 + 1) % 8)
      have hK2 : q_fc a I K2 := fun o k h1 h2 => by rw [t3 o k h1 h2, hK1 o k h1 h2]
      have cK2 : q_cl a K2 h := c.keep (fun j k' hj hj3 => hK2 _ _ (by omega) (by omega))
      obtain ⟨M2, l1, l2, l3, l4⟩ := e_look (L := M1) cK2 w (Nat.mod_lt _ (by decide)) t2
      refine fin K2 M2 hK2 (fun x i hx hi => ?_) (fun o i h1 h2 => by rw [l4 o i h1, s3 o i h1 h2, p3 o i h1 h2]) ?_
      · rw [eG]
        show _ = q_r2 h (q_Gi h m z0 k).2 (q_Gi h m z0 k).1 x i
        by_cases hxC : x < q_C h
        · rw [l2 x i hxC hi]
          unfold q_jn q_r2
          rw [q_sm_cm, if_neg (show ¬ u_o (q_nm (q_Gi h m z0 k).2) = 0 from hl0)]
          apply q_any_cong
          intro j hj
          rw [s2 x j hx hj]
          rfl
        · rw [l3 x (by omega), s2 x i hx hi, q_r1_ok ok1 x i (by omega), q_r2_ok ok1 x i (by omega)]
      · rw [f_Wa_fewestToSee_37]
        simp (disch := omega) only [z_ltL, show ¬ 40 < k + 1 by omega, if_false, rd K p1, rd K1 hK1, g1, f_Ha_allCells, cK1.C, esa, s1, ehour2, q_oil o4, z_leR, show ¬ u_o (q_Gi h m z0 k).2 - 1 ≤ 0 by omega, t1, l1, z_bs, nI_1, eu, el]) (fun f K hK => by
    obtain ⟨K, M⟩ := K
    refine ⟨(1, nI 41, K, M), ?_, hK.1, hK.2.2.1, Or.inr ⟨rfl, q_fst_no (fun i _ hi => hK.2.2.2 i (by omega))⟩⟩
    show f_Wa_fewestToSee_37 a 7 g (f + 1) _ _ (nI 41) K M = _
    rw [f_Wa_fewestToSee_37, if_pos (by decide)]) 40 lh_fuel 0 (I, L) rfl (by decide) ⟨fun _ _ _ _ => rfl, hL, fun _ _ _ _ => rfl, fun j hj => by rw [show j = 0 by omega]; exact hp0⟩
  obtain ⟨r, k1, k2⟩ := key
  exact ⟨r, k1, k2⟩
theorem e_fill12 : ∃ L', f_Arr_fill 5 12 0 L = some L' ∧ (∀ c, c < 12 → L' (5 + 4) c = 0) ∧ ∀ o i, ¬ (o = 9 ∧ i < 12) → L' o i = L o i := by
  obtain ⟨K, e, h1, h2⟩ := q_forI (F := fun f k (K : lh_LL) => f_Arr_fill_5 5 12 0 (nI 12) f (nI k) K) (N := 12) (P := fun k K => (∀ i, i < k → K (5 + 4) i = 0) ∧ ∀ o i, ¬ (o = 9 ∧ i < 12) → K o i = L o i) (Q := fun K => (∀ i, i < 12 → K (5 + 4) i = 0) ∧ ∀ o i, ¬ (o = 9 ∧ i < 12) → K o i = L o i) (fun f k K hk hK => by
    refine ⟨lh_v2 K (5 + 4) k 0, ⟨fun i hi => ?_, fun o i h9 => by rw [q_v2o (by omega)]; exact hK.2 o i h9⟩, ?_⟩
    · by_cases e : i = k
      · subst e; exact q_v2s
      · rw [q_v2o (by omega)]; exact hK.1 i (by omega)
    · simp (disch := omega) only [f_Arr_fill_5, show ¬ 12 ≤ k by omega, z_le, z_lt, z_eq, z_leL, z_leR, z_ltL, z_ltR, z_eqR, z_eqL, z_m1, z_m1s, z_m1le, z_m1lt, z_m1lt0, z_m1le0, z_0lem1, z_m1lek, z_add, z_addL, z_addR, z_mulR, z_sub, z_subL, z_gd, z_ix, z_cl, z_or0, z_add0, z_bs, z_gd, z_b1, z_b0, z_10, z_01, eq_self, reduceCtorEq, ↓reduceIte, if_true, if_false, Nat.not_lt_zero, not_true_eq_false, not_false_eq_true, Bool.false_eq_true, Nat.le_refl, Nat.lt_irrefl]) (fun f K hK => by
    refine ⟨K, ?_, hK⟩
    simp (disch := omega) only [f_Arr_fill_5, z_le, z_lt, z_eq, z_leL, z_leR, z_ltL, z_ltR, z_eqR, z_eqL, z_m1, z_m1s, z_m1le, z_m1lt, z_m1lt0, z_m1le0, z_0lem1, z_m1lek, z_add, z_addL, z_addR, z_mulR, z_sub, z_subL, z_gd, z_ix, z_cl, z_or0, z_add0, z_bs, z_gd, z_b1, z_b0, z_10, z_01, eq_self, reduceCtorEq, ↓reduceIte, if_true, if_false, Nat.not_lt_zero, not_true_eq_false, not_false_eq_true, Bool.false_eq_true, Nat.le_refl, Nat.lt_irrefl]) 12 lh_fuel 0 L rfl (by decide) ⟨fun i hi => absurd hi (by omega), fun _ _ _ => rfl⟩
  have e' : f_Arr_fill_5 5 12 0 (nI 12) lh_fuel 0 L = some K := e
  exact ⟨K, by rw [f_Arr_fill, e', q_bs], h1, h2⟩
theorem m_short54 {s : Nat} {R : lh_Rs} (hs : s < 64) (x2 : Int32) (hL : ∀ c k, c < 12 → k < 64 → bl (L (80 + 4) c) k = R c k) : f_LM_shortest_54 (nI s) x2 L lh_fuel 0 0 = some (q_b01 (q_pp R s)) := by
  have := q_for (F := fun n k (y : Bool) => f_LM_shortest_54 (nI s) x2 L n (q_b01 y) (nI k)) (N := 12) (step := fun c y => y || q_any (fun k => R c k && q_gl s k) 64) (fin := q_b01) (fun n k y hk => by
    have e1 : q_any (fun i => bl (L (80 + 4) k) i && q_gl s i) 64 = q_any (fun i => R k i && q_gl s i) 64 := q_any_cong (fun i hi => by rw [hL k i hk hi])
    cases y with
    | true => simp (disch := omega) only [f_LM_shortest_54, show ¬ 12 ≤ k by omega, Bool.true_or, z_le, z_lt, z_eq, z_leL, z_leR, z_ltL, z_ltR, z_eqR, z_eqL, z_m1, z_m1s, z_m1le, z_m1lt, z_m1lt0, z_m1le0, z_0lem1, z_m1lek, z_add, z_addL, z_addR, z_mulR, z_sub, z_subL, z_gd, z_ix, z_cl, z_or0, z_add0, z_bs, z_gd, z_b1, z_b0, z_10, z_01, eq_self, reduceCtorEq, ↓reduceIte, if_true, if_false, Nat.not_lt_zero, not_true_eq_false, not_false_eq_true, Bool.false_eq_true, Nat.le_refl, Nat.lt_irrefl]
    | false =>
      simp (disch := omega) only [f_LM_shortest_54, m_isWithAll _ hs, e1, show ¬ 12 ≤ k by omega, Bool.false_or, z_le, z_lt, z_eq, z_leL, z_leR, z_ltL, z_ltR, z_eqR, z_eqL, z_m1, z_m1s, z_m1le, z_m1lt, z_m1lt0, z_m1le0, z_0lem1, z_m1lek, z_add, z_addL, z_addR, z_mulR, z_sub, z_subL, z_gd, z_ix, z_cl, z_or0, z_add0, z_bs, z_gd, z_b1, z_b0, z_10, z_01, eq_self, reduceCtorEq, ↓reduceIte, if_true, if_false, Nat.not_lt_zero, not_true_eq_false, not_false_eq_true, Bool.false_eq_true, Nat.le_refl, Nat.lt_irrefl]
      cases q_any (fun i => R k i && q_gl s i) 64 <;> simp only [z_bs, z_gd, z_b1, z_b0, z_10, z_01, eq_self, reduceCtorEq, ↓reduceIte, if_true, if_false, Nat.not_lt_zero, not_true_eq_false, not_false_eq_true, Bool.false_eq_true, Nat.le_refl, Nat.lt_irrefl]) (fun n y => by
    simp (disch := omega) only [f_LM_shortest_54, z_le, z_lt, z_eq, z_leL, z_leR, z_ltL, z_ltR, z_eqR, z_eqL, z_m1, z_m1s, z_m1le, z_m1lt, z_m1lt0, z_m1le0, z_0lem1, z_m1lek, z_add, z_addL, z_addR, z_mulR, z_sub, z_subL, z_gd, z_ix, z_cl, z_or0, z_add0, z_bs, z_gd, z_b1, z_b0, z_10, z_01, eq_self, reduceCtorEq, ↓reduceIte, if_true, if_false, Nat.not_lt_zero, not_true_eq_false, not_false_eq_true, Bool.false_eq_true, Nat.le_refl, Nat.lt_irrefl]) 12 lh_fuel 0 false rfl (by decide)
  have e : ∀ n, q_it (fun c y => y || q_any (fun k => R c k && q_gl s k) 64) 0 n false = q_any (fun c => q_any (fun k => R c k && q_gl s k) 64) n := by
    intro n
    induction n with
    | zero => rfl
    | succ n ih => rw [q_it_succ, ih, Nat.zero_add]; rfl
  rw [e] at this
  exact this
theorem m_short47 (m : q_md J h) (w : q_wf h) {n z0 s : Nat} {u : lh_Mt} (hs : s < 64) (hm : q_mm J 672 u) (hw : q_mw h n u) (hL : ∀ c k, c < 12 → k < 64 → bl (L (80 + 4) c) k = q_R0 (u_c u) z0 c k) : ∃ r, f_LM_shortest_47 (nI s) lh_fuel 0 J L = some r ∧ q_ff J r.2.2.1 ∧ (∀ o i, ¬ (o = 84 ∧ i < 24) → r.2.2.2 o i = L o i) ∧ ((r.1 = 0 ∧ ∃ j, q_fst (fun j => q_pp (q_Gi h u z0 j).1 s) 0 41 = some j ∧ r.2.1 = nI j) ∨ (r.1 = 1 ∧ q_fst (fun j => q_pp (q_Gi h u z0 j).1 s) 0 41 = none)) := by
  have hC := w.C
  have key := q_forX (F := fun f k (K : lh_II × lh_LL) => f_LM_shortest_47 (nI s) f (nI k) K.1 K.2) (N := 41) (P := fun k K => (∃ c2, q_mm K.1 672 (q_cm (q_Gi h u z0 k).2 c2)) ∧ q_ff J K.1 ∧ (∀ c i, c < 12 → i < 64 → bl (K.2 (80 + 4) c) i = (q_Gi h u z0 k).1 c i) ∧ (∀ o i, ¬ (o = 84 ∧ i < 24) → K.2 o i = L o i) ∧ ∀ j, j < k → q_pp (q_Gi h u z0 j).1 s = false) (Q := fun r => q_ff J r.2.2.1 ∧ (∀ o i, ¬ (o = 84 ∧ i < 24) → r.2.2.2 o i = L o i) ∧ ((r.1 = 0 ∧ ∃ j, q_fst (fun j => q_pp (q_Gi h u z0 j).1 s) 0 41 = some j ∧ r.2.1 = nI j) ∨ (r.1 = 1 ∧ q_fst (fun j => q_pp (q_Gi h u z0 j).1 s) 0 41 = none))) (fun f k K hk hK => by
    obtain ⟨K, M⟩ := K
    obtain ⟨⟨c2, p1⟩, p2, p3, p4, p5⟩ := hK
    simp only at p1 p2 p3 p4
    obtain ⟨ok1, ok2⟩ := q_Gi_ok hw z0 k
    cases hpp : q_pp (q_Gi h u z0 k).1 s with
    | true =>
      refine Or.inr ⟨(0, nI k, K, M), ?_, p2, p4, Or.inl ⟨rfl, k, q_fst_at hk p5 hpp, rfl⟩⟩
      simp (disch := omega) only [f_LM_shortest_47, m_short54 hs _ p3, hpp, show ¬ 40 < k by omega, z_le, z_lt, z_eq, z_leL, z_leR, z_ltL, z_ltR, z_eqR, z_eqL, z_m1, z_m1s, z_m1le, z_m1lt, z_m1lt0, z_m1le0, z_0lem1, z_m1lek, z_add, z_addL, z_addR, z_mulR, z_sub, z_subL, z_gd, z_ix, z_cl, z_or0, z_add0, z_bs, z_gd, z_b1, z_b0, z_10, z_01, eq_self, reduceCtorEq, ↓reduceIte, if_true, if_false, Nat.not_lt_zero, not_true_eq_false, not_false_eq_true, Bool.false_eq_true, Nat.le_refl, Nat.lt_irrefl]
    | false =>
      obtain ⟨K', M', g1, g2, g3, g4, g5⟩ := m_goesOn (L := M) (m.ff w p2) w ok2 p1 ok1 p3
      refine Or.inl ⟨(K', M'), ⟨by rw [q_Gi_s]; exact g2, p2.tr g3, fun c i hc hi => by rw [q_Gi_s]; exact g4 c i hc hi, fun o i h9 => by show M' o i = _; rw [g5 o i h9, p4 o i h9], fun j hj => ?_⟩, ?_⟩
      · by_cases e : j = k
        · subst e; exact hpp
        · exact p5 j (by omega)
      · simp (disch := omega) only [f_LM_shortest_47, m_short54 hs _ p3, hpp, g1, show ¬ 40 < k by omega, z_le, z_lt, z_eq, z_leL, z_leR, z_ltL, z_ltR, z_eqR, z_eqL, z_m1, z_m1s, z_m1le, z_m1lt, z_m1lt0, z_m1le0, z_0lem1, z_m1lek, z_add, z_addL, z_addR, z_mulR, z_sub, z_subL, z_gd, z_ix, z_cl, z_or0, z_add0, z_bs, z_gd, z_b1, z_b0, z_10, z_01, eq_self, reduceCtorEq, ↓reduceIte, if_true, if_false, Nat.not_lt_zero, not_true_eq_false, not_false_eq_true, Bool.false_eq_true, Nat.le_refl, Nat.lt_irrefl]) (fun f K hK => by
    obtain ⟨K, M⟩ := K
    refine ⟨(1, nI 41, K, M), ?_, hK.2.1, hK.2.2.2.1, Or.inr ⟨rfl, q_fst_no (fun i _ hi => hK.2.2.2.2 i (by omega))⟩⟩
    simp (disch := omega) only [f_LM_shortest_47, show 40 < 41 by omega, z_ltL, if_true]) 41 lh_fuel 0 (J, L) rfl (by decide) ⟨⟨u_c u, hm⟩, q_ff.rf, hL, fun _ _ _ => rfl, fun j hj => absurd hj (by omega)⟩
  obtain ⟨r, k1, k2⟩ := key
  exact ⟨r, k1, k2⟩
theorem m_zero22 (x1 : Int32) : ∃ L', f_LM_shortest_22 x1 lh_fuel 0 L = some L' ∧ (∀ c, c < 12 → L' (80 + 4) c = 0) ∧ ∀ o i, ¬ (o = 84 ∧ i < 12) → L' o i = L o i := by
  have key := q_forI (F := fun f k (K : lh_LL) => f_LM_shortest_22 x1 f (nI k) K) (N := 12) (P := fun k K => (∀ i, i < k → K (80 + 4) i = 0) ∧ ∀ o i, ¬ (o = 84 ∧ i < 12) → K o i = L o i) (Q := fun K => (∀ i, i < 12 → K (80 + 4) i = 0) ∧ ∀ o i, ¬ (o = 84 ∧ i < 12) → K o i = L o i) (fun f k K hk hK => by
    refine ⟨lh_v2 K (80 + 4) k 0, ⟨fun i hi => ?_, fun o i h9 => by rw [q_v2o (by omega)]; exact hK.2 o i h9⟩, ?_⟩
    · by_cases e : i = k
      · subst e; exact q_v2s
      · rw [q_v2o (by omega)]; exact hK.1 i (by omega)
    · simp (disch := omega) only [f_LM_shortest_22, show ¬ 12 ≤ k by omega, z_le, z_lt, z_eq, z_leL, z_leR, z_ltL, z_ltR, z_eqR, z_eqL, z_m1, z_m1s, z_m1le, z_m1lt, z_m1lt0, z_m1le0, z_0lem1, z_m1lek, z_add, z_addL, z_addR, z_mulR, z_sub, z_subL, z_gd, z_ix, z_cl, z_or0, z_add0, z_bs, z_gd, z_b1, z_b0, z_10, z_01, eq_self, reduceCtorEq, ↓reduceIte, if_true, if_false, Nat.not_lt_zero, not_true_eq_false, not_false_eq_true, Bool.false_eq_true, Nat.le_refl, Nat.lt_irrefl]) (fun f K hK => by
    refine ⟨K, ?_, hK⟩
    simp (disch := omega) only [f_LM_shortest_22, z_le, z_lt, z_eq, z_leL, z_leR, z_ltL, z_ltR, z_eqR, z_eqL, z_m1, z_m1s, z_m1le, z_m1lt, z_m1lt0, z_m1le0, z_0lem1, z_m1lek, z_add, z_addL, z_addR, z_mulR, z_sub, z_subL, z_gd, z_ix, z_cl, z_or0, z_add0, z_bs, z_gd, z_b1, z_b0, z_10, z_01, eq_self, reduceCtorEq, ↓reduceIte, if_true, if_false, Nat.not_lt_zero, not_true_eq_false, not_false_eq_true, Bool.false_eq_true, Nat.le_refl, Nat.lt_irrefl]) 12 lh_fuel 0 L rfl (by decide) ⟨fun i hi => absurd hi (by omega), fun _ _ _ => rfl⟩
  exact key
theorem q_sees0 : ∀ z, z < 64 → ∀ s, s < 64 → (nI z &&& nI s = nI s) = (q_gl s z = true) := by decide +kernel
theorem q_pp0 (m : lh_Mt) {s z0 : Nat} (hc : u_c m < 12) (hz : z0 < 64) : q_pp (q_Gi h m z0 0).1 s = q_gl s z0 := by
  show q_pp (q_R0 (u_c m) z0) s = _
  unfold q_pp q_R0
  rw [Bool.eq_iff_iff, q_any_iff]
  constructor
  · rintro ⟨c, _, h1⟩
    rw [q_any_iff] at h1
    obtain ⟨k, _, h2⟩ := h1
    simp only [Bool.and_eq_true, decide_eq_true_eq] at h2
    rw [← h2.1.2]; exact h2.2
  · intro h1
    exact ⟨u_c m, hc, q_any_iff.mpr ⟨z0, hz, by simp [h1]⟩⟩
end Q60
theorem p_shortest : lh_P15 lh_inv := by
  intro t a b a2 b2 I L x1 hi
  obtain ⟨s, w, c, m, ha, fc, f0, fm⟩ := hi.opx
  have hC := w.1.C
  have hN := w.1.N
  have hc := w.2.1.1
  obtain ⟨m0, k0⟩ := f0 I q_fr.rf
  have h2N : 2 ^ q_N (s_h s) ≤ 64 := Nat.pow_le_pow_right (n := 2) (by decide) hN
  have h2N0 := Nat.two_pow_pos (q_N (s_h s))
  have eN : (1 : Int32) <<< (nI (q_N (s_h s)) &&& 31) = nI (2 ^ q_N (s_h s)) := z_sh1 (by omega)
  have e0 : ∀ (A B : Option (Int32 × lh_II × lh_LL)), (if x1 < 0 then A else if x1 < nI (2 ^ q_N (s_h s)) then B else A) = if q_is (2 ^ q_N (s_h s)) x1 = true then B else A := by
    intro A B
    rw [← q_isf _ rfl]
    by_cases h0 : x1 < 0
    · rw [if_pos h0, if_pos h0]
    · rw [if_neg h0, if_neg h0]
      by_cases h1 : nI (2 ^ q_N (s_h s)) ≤ x1
      · rw [if_pos h1, if_neg (fun h => (fa_of_lt h).2.1 h1)]
      · rw [if_neg h1, if_pos (fa_of_nle h1)]
  have ew : f_LM_within x1 0 (nI (2 ^ q_N (s_h s)) - 1) = some (q_b01 (q_is (2 ^ q_N (s_h s)) x1)) := by
    rw [show nI (2 ^ q_N (s_h s)) - 1 = nI (2 ^ q_N (s_h s) - 1) from pk_sub (b := 1) (by omega), m_within (by omega), show 2 ^ q_N (s_h s) - 1 + 1 = 2 ^ q_N (s_h s) by omega]
  cases h1 : q_is (2 ^ q_N (s_h s)) x1 with
  | false => exact ⟨(-1, I, L), (-1, lh_u2 I (65 + 4) 0 0, L), by rw [f_LH_shortest, c.1.N, eN, e0, h1, if_neg (by decide)], by simp only [f_LM_shortest, m_visitors m0.1, eN, ew, h1, z_bs, z_gd, z_b1, z_b0, z_10, z_01, eq_self, reduceCtorEq, ↓reduceIte, if_true, if_false, Nat.not_lt_zero, not_true_eq_false, not_false_eq_true, Bool.false_eq_true, Nat.le_refl, Nat.lt_irrefl], rfl, hi.en k0⟩
  | true =>
    obtain ⟨x, hx, rfl⟩ := q_is_ex (by omega) h1
    have hx64 : x < 64 := by omega
    have hz64 : u_z (s_n s) < 64 := Nat.lt_of_lt_of_le w.2.1.2.2.2.2.2 h2N
    have hpp0 := q_pp0 (h := s_h s) (s_n s) (s := x) (by omega) hz64
    -- the class
    have hcl : ∃ I1 L1, f_LH_shortest a b (nI x) I L = some (q_e (q_fst (fun j => q_pp (q_Gi (s_h s) (s_n s) (u_z (s_n s)) j).1 x) 0 41), I1, L1) ∧ q_fc a I I1 ∧ ∀ o i, o ≠ 9 → o ≠ 10 → L1 o i = L o i := by
      rw [f_LH_shortest, c.1.N, eN, e0, h1, if_pos rfl]
      have e6 : I (7 + 4) 6 = nI (u_z (s_n s)) := c.2.1.2.2.2.2.2.2
      by_cases hg0 : q_gl x (u_z (s_n s)) = true
      · refine ⟨I, L, ?_, fun _ _ _ _ => rfl, fun _ _ _ _ => rfl⟩
        rw [q_fst_at (n := 0) (by omega) (fun j hj => absurd hj (by omega)) (by rw [hpp0]; exact hg0)]
        have e7 : nI (u_z (s_n s)) &&& nI x = nI x := by rw [q_sees0 _ hz64 _ hx64]; exact hg0
        rw [f_Wa_fewestToSee, e6, if_pos e7]
        rfl
      · have e7 : ¬ (nI (u_z (s_n s)) &&& nI x = nI x) := by rw [q_sees0 _ hz64 _ hx64]; exact hg0
        obtain ⟨L0, z1, z2, z3⟩ := e_fill12 (L := L)
        have ecell : q_is (q_C (s_h s)) (nI (u_c (s_n s))) = true := by rw [q_is_nI (by omega) (by omega)]; simp [hc]
        obtain ⟨L2, hL2⟩ : ∃ L2, L2 = lh_v2 L0 (5 + 4) (u_c (s_n s)) ((1 : Int64) <<< ((nI (u_z (s_n s))).toInt64 &&& 63)) := ⟨_, rfl⟩
        obtain ⟨g, s1, s2⟩ := e_setsWith hx64 L2
        obtain ⟨⟨e, v, I1, L1⟩, q1, q2, q3, q4⟩ := e_see37 (L := L2) (z0 := u_z (s_n s)) c.1 w.1 ha c.2.1 w.2.1 s2 (by rw [hpp0]; simpa using hg0) (fun y k hy hk => by
          unfold q_R0
          rw [hL2]
          by_cases e : y = u_c (s_n s)
          · subst e; rw [q_v2s, bl_one hz64 hk]; simp
          · rw [q_v2o (by omega), z2 y hy, bl_0]; simp [e])
        simp only at q2 q3 q4
        refine ⟨I1, L1, ?_, q2, fun o i h3 h4 => by rw [q3 o i h3 h4, hL2, q_v2o (by omega), z3 o i (by omega)]⟩
        have e1 : I (7 + 4) 0 = nI (u_c (s_n s)) := c.2.1.1
        have e2 : I (7 + 4) 1 = nI (u_h (s_n s)) := c.2.1.2.1
        have e3 : I (7 + 4) 3 = nI (u_o (s_n s)) := c.2.1.2.2.2.1
        have efs : f_Wa_fewestToSee a 7 (nI x) I L = some (q_e (q_fst (fun j => q_pp (q_Gi (s_h s) (s_n s) (u_z (s_n s)) j).1 x) 0 41), I1, L1) := by
          rw [f_Wa_fewestToSee, e6, if_neg e7, z1, q_bs, e1, e_hasCell c.1, ecell, q_bs, if_neg (by decide), q_gd (q_ix (by omega) (by decide)), z_cl (by omega), ← hL2, s1, q_bs, e2, e3, q1, q_bs]
          rcases q4 with ⟨rfl, j, h3, rfl⟩ | ⟨rfl, h3⟩
          · rw [h3]; rfl
          · rw [h3]; rfl
        rw [efs, q_bs]
    obtain ⟨I1, L1, g1, g2, g3⟩ := hcl
    have k1 := fc I1 (fun o k h1 h2 _ => g2 o k h1 h2)
    obtain ⟨m', k2⟩ := f0 I1 k1
    obtain ⟨J0, d1, d2, d3⟩ := m_copyM (J := lh_u2 I1 (65 + 4) 0 0) (x := 0) (y := 672) (by omega) (by omega) (by omega) m'.2.1
    have d1' : f_LM_copies 0 672 7 (lh_u2 I1 (65 + 4) 0 0) = some J0 := d1
    have hff : q_ff (lh_u2 I1 (65 + 4) 0 0) J0 := fun o k h1 h2 h3 => d3 _ _ (by omega)
    obtain ⟨L0, z1, z2, z3⟩ := m_zero22 (L := L1) (nI x)
    have r5 : J0 (78 + 4) 5 = nI (u_c (s_n s)) := by rw [d3 _ _ (by omega)]; exact m'.2.1.2.2.2.2.2.1
    have r6 : J0 (78 + 4) 6 = nI (u_z (s_n s)) := by rw [d3 _ _ (by omega)]; exact m'.2.1.2.2.2.2.2.2
    obtain ⟨⟨e, v, J1, L3⟩, q1, q2, q3, q4⟩ := m_short47 (L := lh_v2 L0 (80 + 4) (u_c (s_n s)) ((1 : Int64) <<< ((nI (u_z (s_n s))).toInt64 &&& 63))) (z0 := u_z (s_n s)) (m'.1.ff w.1 hff) w.1 hx64 d2 w.2.1 (fun c k hc' hk => by
      unfold q_R0
      by_cases e : c = u_c (s_n s)
      · subst e; rw [q_v2s, bl_one hz64 hk]; simp
      · rw [q_v2o (by omega), z2 c hc', bl_0]; simp [e])
    simp only at q2 q3 q4
    have k3 : q_fr a b I J1 := fm _ _ k2 (fun o k h1 h2 h3 => by rw [q2 _ _ h1 h2 h3, hff _ _ h1 h2 h3])
    have hfin : lh_inv t a b a2 b2 J1 L3 := hi.keep k3 (fun w' hw' => ⟨by rw [q3 _ _ (by omega), q_v2o (by omega), z3 _ _ (by omega), g3 _ _ (by omega) (by omega)], by rw [q3 _ _ (by omega), q_v2o (by omega), z3 _ _ (by omega), g3 _ _ (by omega) (by omega)]⟩)
    refine ⟨(q_e (q_fst (fun j => q_pp (q_Gi (s_h s) (s_n s) (u_z (s_n s)) j).1 x) 0 41), I1, L1), (q_e (q_fst (fun j => q_pp (q_Gi (s_h s) (s_n s) (u_z (s_n s)) j).1 x) 0 41), J1, L3), g1, ?_, rfl, hfin⟩
    simp (disch := omega) only [f_LM_shortest, m_visitors m'.1, eN, ew, h1, d1', z1, r5, r6, z_ix, z_cl, q1, z_bs, z_gd, z_b1, z_b0, z_10, z_01, eq_self, reduceCtorEq, ↓reduceIte, if_true, if_false, Nat.not_lt_zero, not_true_eq_false, not_false_eq_true, Bool.false_eq_true, Nat.le_refl, Nat.lt_irrefl]
    rcases q4 with ⟨rfl, j, h3, rfl⟩ | ⟨rfl, h3⟩
    · rw [h3]; rfl
    · rw [h3]; rfl
