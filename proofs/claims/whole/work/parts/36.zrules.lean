/-! numbers for simp; two loops at once -/
theorem z_le {a b : Nat} (ha : a < 2147483648) (hb : b < 2147483648) : (nI a ≤ nI b) = (a ≤ b) := propext (nI_leI ha hb)
theorem z_lt {a b : Nat} (ha : a < 2147483648) (hb : b < 2147483648) : (nI a < nI b) = (a < b) := propext (nI_ltI ha hb)
theorem z_eq {a b : Nat} (ha : a < 2147483648) (hb : b < 2147483648) : (nI a = nI b) = (a = b) := propext (nI_eq ha hb)
theorem z_leL (n : Nat) {k : Nat} (hn : (OfNat.ofNat n : Nat) < 2147483648) (hk : k < 2147483648) : ((no_index (OfNat.ofNat n : Int32)) ≤ nI k) = ((OfNat.ofNat n : Nat) ≤ k) := z_le hn hk
theorem z_leR (n : Nat) {k : Nat} (hn : (OfNat.ofNat n : Nat) < 2147483648) (hk : k < 2147483648) : (nI k ≤ (no_index (OfNat.ofNat n : Int32))) = (k ≤ (OfNat.ofNat n : Nat)) := z_le hk hn
theorem z_ltL (n : Nat) {k : Nat} (hn : (OfNat.ofNat n : Nat) < 2147483648) (hk : k < 2147483648) : ((no_index (OfNat.ofNat n : Int32)) < nI k) = ((OfNat.ofNat n : Nat) < k) := z_lt hn hk
theorem z_ltR (n : Nat) {k : Nat} (hn : (OfNat.ofNat n : Nat) < 2147483648) (hk : k < 2147483648) : (nI k < (no_index (OfNat.ofNat n : Int32))) = (k < (OfNat.ofNat n : Nat)) := z_lt hk hn
theorem z_eqR (n : Nat) {k : Nat} (hn : (OfNat.ofNat n : Nat) < 2147483648) (hk : k < 2147483648) : (nI k = (no_index (OfNat.ofNat n : Int32))) = (k = (OfNat.ofNat n : Nat)) := z_eq hk hn
theorem z_eqL (n : Nat) {k : Nat} (hn : (OfNat.ofNat n : Nat) < 2147483648) (hk : k < 2147483648) : ((no_index (OfNat.ofNat n : Int32)) = nI k) = ((OfNat.ofNat n : Nat) = k) := z_eq hn hk
theorem z_tm1 : (-1 : Int32).toInt = -1 := by decide
theorem z_m1 {k : Nat} (hk : k < 2147483648) : (nI k = -1) = False := by
  rw [fa_eq, nI_toInt hk, z_tm1]; simp only [eq_iff_iff, iff_false]; omega
theorem z_m1s {k : Nat} (hk : k < 2147483648) : ((-1 : Int32) = nI k) = False := by
  rw [fa_eq, nI_toInt hk, z_tm1]; simp only [eq_iff_iff, iff_false]; omega
theorem z_m1le {k : Nat} (hk : k < 2147483648) : (nI k ≤ -1) = False := by
  rw [fa_le, nI_toInt hk, z_tm1]; simp only [eq_iff_iff, iff_false]; omega
theorem z_m1lt {k : Nat} (hk : k < 2147483648) : (nI k < -1) = False := by
  rw [fa_lt, nI_toInt hk, z_tm1]; simp only [eq_iff_iff, iff_false]; omega
theorem z_m1lek {k : Nat} (hk : k < 2147483648) : ((-1 : Int32) ≤ nI k) = True := by
  rw [fa_le, nI_toInt hk, z_tm1]; simp only [eq_iff_iff, iff_true]; omega
theorem z_m1lt0 : ((-1 : Int32) < 0) = True := by decide
theorem z_m1le0 : ((-1 : Int32) ≤ 0) = True := by decide
theorem z_0lem1 : ((0 : Int32) ≤ -1) = False := by decide
theorem z_10 : ((1 : Int32) = 0) = False := by decide
theorem z_01 : ((0 : Int32) = 1) = False := by decide
theorem z_add (a b : Nat) : nI a + nI b = nI (a + b) := nI_add a b
theorem z_addL (n k : Nat) : nI k + (no_index (OfNat.ofNat n : Int32)) = nI (k + (OfNat.ofNat n : Nat)) := nI_add k n
theorem z_addR (n k : Nat) : (no_index (OfNat.ofNat n : Int32)) + nI k = nI ((OfNat.ofNat n : Nat) + k) := nI_add n k
theorem z_mulR (n k : Nat) : (no_index (OfNat.ofNat n : Int32)) * nI k = nI ((OfNat.ofNat n : Nat) * k) := pk_mul n k
theorem z_mulL (n k : Nat) : nI k * (no_index (OfNat.ofNat n : Int32)) = nI (k * (OfNat.ofNat n : Nat)) := pk_mul k n
theorem z_sub {a b : Nat} (h : b ≤ a) : nI a - nI b = nI (a - b) := pk_sub h
theorem z_subL (n : Nat) {k : Nat} (h : (OfNat.ofNat n : Nat) ≤ k) : nI k - (no_index (OfNat.ofNat n : Int32)) = nI (k - (OfNat.ofNat n : Nat)) := pk_sub h
theorem z_subR (n : Nat) {k : Nat} (h : k ≤ (OfNat.ofNat n : Nat)) : (no_index (OfNat.ofNat n : Int32)) - nI k = nI ((OfNat.ofNat n : Nat) - k) := pk_sub h
theorem z_divL (n : Nat) {k : Nat} (hk : k < 2147483648) (h0 : 0 < (OfNat.ofNat n : Nat)) (hn : (OfNat.ofNat n : Nat) < 2147483648) : nI k / (no_index (OfNat.ofNat n : Int32)) = nI (k / (OfNat.ofNat n : Nat)) := pk_div hk h0 hn
theorem z_gd {α : Type} (x : Option α) : lh_gd true x = x := by unfold lh_gd; exact Eq.refl x
theorem z_bs {α β : Type} (y : α) (k : α → Option β) : lh_bd (some y) k = k y := by unfold lh_bd; exact Eq.refl _
theorem z_ix {k n : Nat} (hk : k < n) (hn : n < 2147483648) : lh_ix (nI k) n = true := q_ix hk hn
theorem z_cl {k : Nat} (hk : k < 2147483648) : (nI k).toNatClampNeg = k := nI_clamp hk
theorem z_or0 (x : Int32) : x ||| 0 = x := q_or0 x
theorem z_add0 (x : Int32) : x + 0 = x := q_add0 x
theorem z_b1 : q_b01 true = 1 := by decide
theorem z_b0 : q_b01 false = 0 := by decide
theorem z_eN : q_e none = -1 := by unfold q_e; exact Eq.refl _
theorem z_eS (c : Nat) : q_e (some c) = nI c := by unfold q_e; exact Eq.refl _
theorem z_bit1 {x j : Nat} (hx : x < 2147483648) (hj : j < 31) : (((nI x >>> (nI j &&& 31)) &&& 1) = 1) = (x.testBit j = true) := propext (q_bit1 hx hj)
theorem z_bit0 {x j : Nat} (hx : x < 2147483648) (hj : j < 31) : (((nI x >>> (nI j &&& 31)) &&& 1) = 0) = (x.testBit j = false) := propext (q_bit0 hx hj)
theorem z_sh1 {j : Nat} (hj : j < 31) : (1 : Int32) <<< (nI j &&& 31) = nI (2 ^ j) := q_sh1 hj
theorem z_or (a b : Nat) : nI a ||| nI b = nI (a ||| b) := fa_or a b
theorem z_and (a b : Nat) : nI a &&& nI b = nI (a &&& b) := fa_and a b
theorem z_lz {b : Bool} : lh_z (q_b01 b) = true := by cases b <;> rfl
theorem z_b01e {x y : Bool} : (q_b01 x = q_b01 y) = (x = y) := by cases x <;> cases y <;> decide
theorem z_b01_1 {x : Bool} : (q_b01 x = 1) = (x = true) := by cases x <;> decide
theorem z_b01_0 {x : Bool} : (q_b01 x = 0) = (x = false) := by cases x <;> decide
theorem q_for2 {α1 α2 β1 β2 : Type} {F1 : Nat → Nat → α1 → Option β1} {F2 : Nat → Nat → α2 → Option β2} {N : Nat} {P : Nat → α1 → α2 → Prop} {Q : β1 → β2 → Prop} (hs : ∀ m1 m2 k x1 x2, k < N → P k x1 x2 → (∃ y1 y2, P (k + 1) y1 y2 ∧ F1 (m1 + 1) k x1 = F1 m1 (k + 1) y1 ∧ F2 (m2 + 1) k x2 = F2 m2 (k + 1) y2) ∨ ∃ r1 r2, F1 (m1 + 1) k x1 = some r1 ∧ F2 (m2 + 1) k x2 = some r2 ∧ Q r1 r2) (he : ∀ m1 m2 x1 x2, P N x1 x2 → ∃ r1 r2, F1 (m1 + 1) N x1 = some r1 ∧ F2 (m2 + 1) N x2 = some r2 ∧ Q r1 r2) :
    ∀ (d m1 m2 k : Nat) (x1 : α1) (x2 : α2), k + d = N → d < m1 → d < m2 → P k x1 x2 → ∃ r1 r2, F1 m1 k x1 = some r1 ∧ F2 m2 k x2 = some r2 ∧ Q r1 r2
  | 0, m1 + 1, m2 + 1, k, x1, x2, h, _, _, hp => by
    have e : k = N := by omega
    subst e; exact he m1 m2 x1 x2 hp
  | d + 1, m1 + 1, m2 + 1, k, x1, x2, h, h1, h2, hp => by
    rcases hs m1 m2 k x1 x2 (by omega) hp with ⟨y1, y2, hy, e1, e2⟩ | h9
    · rw [e1, e2]
      exact q_for2 hs he d m1 m2 (k + 1) y1 y2 (by omega) (by omega) (by omega) hy
    · exact h9
  | 0, 0, _, _, _, _, _, h, _, _ => absurd h (by omega)
  | d + 1, 0, _, _, _, _, _, h, _, _ => absurd h (by omega)
  | 0, _ + 1, 0, _, _, _, _, _, h, _ => absurd h (by omega)
  | d + 1, _ + 1, 0, _, _, _, _, _, h, _ => absurd h (by omega)
theorem q_for2e {α β : Type} {F1 F2 : Nat → Nat → α → Option β} {N : Nat} (hs : ∀ m1 m2 k x, k < N → ∃ y, F1 (m1 + 1) k x = F1 m1 (k + 1) y ∧ F2 (m2 + 1) k x = F2 m2 (k + 1) y) (he : ∀ m1 m2 x, ∃ r, F1 (m1 + 1) N x = some r ∧ F2 (m2 + 1) N x = some r) (d m1 m2 k : Nat) (x : α) (h : k + d = N) (h1 : d < m1) (h2 : d < m2) : ∃ r, F1 m1 k x = some r ∧ F2 m2 k x = some r := by
  obtain ⟨r1, r2, e1, e2, rfl⟩ := q_for2 (F1 := F1) (F2 := F2) (N := N) (P := fun _ x y => x = y) (Q := fun x y => x = y) (fun m1 m2 k x1 x2 hk e => by
    subst e
    obtain ⟨y, a, b⟩ := hs m1 m2 k x1 hk
    exact Or.inl ⟨y, y, rfl, a, b⟩) (fun m1 m2 x1 x2 e => by
    subst e
    obtain ⟨r, a, b⟩ := he m1 m2 x1
    exact ⟨r, r, a, b, rfl⟩) d m1 m2 k x x h h1 h2 rfl
  exact ⟨r1, e1, e2⟩
/-- bits put by a list of places -/
theorem q_any_succ (p : Nat → Bool) (n : Nat) : q_any p (n + 1) = (q_any p n || p n) := rfl
theorem q_any_iff {p : Nat → Bool} : ∀ {n : Nat}, q_any p n = true ↔ ∃ k, k < n ∧ p k = true
  | 0 => by simp [q_any]
  | n + 1 => by
    rw [q_any_succ, Bool.or_eq_true, q_any_iff]
    constructor
    · rintro (⟨k, h1, h2⟩ | h)
      · exact ⟨k, by omega, h2⟩
      · exact ⟨n, by omega, h⟩
    · rintro ⟨k, h1, h2⟩
      rcases Nat.lt_or_ge k n with h | h
      · exact Or.inl ⟨k, h, h2⟩
      · have e : k = n := by omega
        subst e; exact Or.inr h2
theorem q_any_cong {p q : Nat → Bool} : ∀ {n : Nat}, (∀ k, k < n → p k = q k) → q_any p n = q_any q n
  | 0, _ => rfl
  | n + 1, h => by rw [q_any_succ, q_any_succ, q_any_cong (fun k hk => h k (by omega)), h n (by omega)]
theorem q_it_bits {p : Nat → Bool} {f : Nat → Nat} {M : Nat} : ∀ (n : Nat), (∀ v, v < n → p v = true → f v < M) → q_it (fun v x => if p v = true then x ||| 2 ^ f v else x) 0 n 0 = q_mk (fun i => q_any (fun v => p v && decide (f v = i)) n) M
  | 0, _ => by
    show 0 = _
    apply Nat.eq_of_testBit_eq
    intro i
    rw [q_mk_tb]
    simp [q_any]
  | n + 1, h => by
    rw [q_it_succ, q_it_bits n (fun v hv => h v (by omega)), Nat.zero_add]
    apply Nat.eq_of_testBit_eq
    intro i
    by_cases hp : p n = true
    · have := h n (by omega) hp
      rw [if_pos hp, fb_bit_set, q_mk_tb, q_mk_tb, q_any_succ, hp]
      by_cases hi : i = f n
      · subst hi; simp [this]
      · simp [hi, Ne.symm hi]
    · rw [if_neg hp, q_mk_tb, q_mk_tb, q_any_succ]
      simp at hp
      simp [hp]
theorem q_pc_mk (p : Nat → Bool) {n : Nat} (hn : n ≤ 30) : q_pc (q_mk p n) = fb_ct p n := by
  unfold q_pc
  have h1 : fb_ct (fun i => (q_mk p n).testBit i) 30 = fb_ct (fun i => (q_mk p n).testBit i) n + fb_ct (fun k => (q_mk p n).testBit (n + k)) (30 - n) := by
    have := fb_ct_split (fun i => (q_mk p n).testBit i) n (30 - n)
    rw [show n + (30 - n) = 30 by omega] at this
    exact this
  have h2 : fb_ct (fun k => (q_mk p n).testBit (n + k)) (30 - n) = 0 := fb_ct_zero.mpr (fun k _ => by rw [q_mk_tb]; simp; omega)
  rw [h1, h2, Nat.add_zero]
  exact fb_ct_cong (fun k hk => by rw [q_mk_tb]; simp [hk])
theorem q_it_ct {p : Nat → Bool} : ∀ (n : Nat), q_it (fun v (x : Nat) => if p v = true then x + 1 else x) 0 n 0 = fb_ct p n
  | 0 => rfl
  | n + 1 => by
    rw [q_it_succ, q_it_ct n, Nat.zero_add, fb_ct_succ]
    split <;> simp_all
theorem q_mk_and (p q : Nat → Bool) {n : Nat} : q_mk p n &&& q_mk q n = q_mk (fun i => p i && q i) n := by
  apply Nat.eq_of_testBit_eq
  intro i
  rw [Nat.testBit_and, q_mk_tb, q_mk_tb, q_mk_tb]
  cases decide (i < n) <;> simp
theorem q_mk_inj {p q : Nat → Bool} {n : Nat} (h : q_mk p n = q_mk q n) : ∀ i, i < n → p i = q i := fun i hi => by
  have := congrArg (fun x => x.testBit i) h
  simp only [q_mk_tb, hi, decide_true, Bool.true_and] at this
  exact this
theorem q_mk_or2 (p q : Nat → Bool) {n : Nat} : q_mk p n ||| q_mk q n = q_mk (fun i => p i || q i) n := by
  apply Nat.eq_of_testBit_eq
  intro i
  rw [Nat.testBit_or, q_mk_tb, q_mk_tb, q_mk_tb]
  cases decide (i < n) <;> simp
/-- a mask and what a mask leaves out -/
theorem q_andn {p q : Nat → Bool} {n : Nat} (hn : n ≤ 30) : nI (q_mk p n) &&& (nI (q_mk q n) ^^^ (-1)) = nI (q_mk (fun i => p i && !q i) n) := by
  have hb : ∀ x, x < 2 ^ 31 → ∀ i, i < 32 → bt (nI x) i = x.testBit i := by
    intro x hx i hi
    show (BitVec.ofNat 32 x).getLsbD i = _
    rw [BitVec.getLsbD_ofNat]
    simp [hi]
  have hl : ∀ r, q_mk r n < 2 ^ 31 := fun r => Nat.lt_of_lt_of_le (q_mk_lt r n) (Nat.pow_le_pow_right (by decide) (by omega))
  apply b_ext
  intro i hi
  rw [b_and, b_xor, b_m1 i hi, hb _ (hl p) i hi, hb _ (hl q) i hi, hb _ (hl _) i hi, q_mk_tb, q_mk_tb, q_mk_tb]
  cases decide (i < n) <;> simp
theorem q_all1 {n : Nat} (hn : n < 31) : ((1 : Int32) <<< (nI n &&& 31)) - 1 = nI (q_mk (fun _ => true) n) := by
  have h : ∀ n, q_mk (fun _ => true) n = 2 ^ n - 1 := by
    intro n
    induction n with
    | zero => rfl
    | succ n ih =>
      show q_mk (fun _ => true) n + (if true = true then 2 ^ n else 0) = _
      rw [ih, if_pos rfl, Nat.pow_succ]
      have := Nat.two_pow_pos n
      omega
  rw [z_sh1 (by omega), h]
  exact pk_sub (Nat.two_pow_pos n)
