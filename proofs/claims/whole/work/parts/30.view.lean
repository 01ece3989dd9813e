/-! ===== THE PURE PART: the two computations answer alike ===== -/
theorem q_gd {α : Type} {b : Bool} {x : Option α} (h : b = true) : lh_gd b x = x := by rw [h]; rfl
theorem q_bd {α β : Type} {x : Option α} {y : α} {k : α → Option β} (h : x = some y) : lh_bd x k = k y := by rw [h]; rfl
theorem q_bs {α β : Type} (y : α) (k : α → Option β) : lh_bd (some y) k = k y := rfl
theorem q_ix {k n : Nat} (hk : k < n) (hn : n < 2 ^ 31) : lh_ix (nI k) n = true := by
  simp only [lh_ix, nI_toInt (show k < 2 ^ 31 by omega), Bool.and_eq_true, decide_eq_true_eq]
  omega
/-- a loop over k, k + 1, .. : so many times -/
def q_it {α : Type} (step : Nat → α → α) : Nat → Nat → α → α
  | _, 0, x => x
  | k, d + 1, x => q_it step (k + 1) d (step k x)
theorem q_it_succ {α : Type} (step : Nat → α → α) : ∀ (d k : Nat) (x : α), q_it step k (d + 1) x = step (k + d) (q_it step k d x)
  | 0, k, x => rfl
  | d + 1, k, x => by
    show q_it step (k + 1) (d + 1) (step k x) = _
    rw [q_it_succ step d (k + 1) (step k x)]
    show step (k + 1 + d) _ = step (k + (d + 1)) _
    rw [show k + 1 + d = k + (d + 1) by omega]
    rfl
theorem q_it_cong {α : Type} {s1 s2 : Nat → α → α} : ∀ (d k : Nat) (x : α), (∀ i y, k ≤ i → i < k + d → s1 i y = s2 i y) → q_it s1 k d x = q_it s2 k d x
  | 0, k, x, _ => rfl
  | d + 1, k, x, h => by
    show q_it s1 (k + 1) d (s1 k x) = q_it s2 (k + 1) d (s2 k x)
    rw [h k x (Nat.le_refl k) (by omega)]
    exact q_it_cong d (k + 1) _ (fun i y h1 h2 => h i y (by omega) (by omega))
theorem q_it_inv {α : Type} {step : Nat → α → α} {P : Nat → α → Prop} : ∀ (d k : Nat) (x : α), P k x → (∀ i y, k ≤ i → i < k + d → P i y → P (i + 1) (step i y)) → P (k + d) (q_it step k d x)
  | 0, k, x, h, _ => h
  | d + 1, k, x, h, hs => by
    rw [show k + (d + 1) = k + 1 + d by omega]
    exact q_it_inv d (k + 1) (step k x) (hs k x (Nat.le_refl k) (by omega) h) (fun i y h1 h2 => hs i y (by omega) (by omega))
theorem q_for {α β : Type} {F : Nat → Nat → α → Option β} {N : Nat} {step : Nat → α → α} {fin : α → β} (hs : ∀ m k x, k < N → F (m + 1) k x = F m (k + 1) (step k x)) (he : ∀ m x, F (m + 1) N x = some (fin x)) :
    ∀ (d m k : Nat) (x : α), k + d = N → d < m → F m k x = some (fin (q_it step k d x))
  | 0, 0, k, x, _, h => absurd h (by omega)
  | 0, m + 1, k, x, h, _ => by
    have e : k = N := by omega
    rw [e]; exact he m x
  | d + 1, 0, k, x, _, h => absurd h (by omega)
  | d + 1, m + 1, k, x, h, hm => by
    rw [hs m k x (by omega)]
    exact q_for hs he d m (k + 1) (step k x) (by omega) (by omega)
/-- the same for a body that may fail in itself, and carries a heap: an invariant in place of a closed form -/
theorem q_forI {α β : Type} {F : Nat → Nat → α → Option β} {N : Nat} {P : Nat → α → Prop} {Q : β → Prop} (hs : ∀ m k x, k < N → P k x → ∃ y, P (k + 1) y ∧ F (m + 1) k x = F m (k + 1) y) (he : ∀ m x, P N x → ∃ r, F (m + 1) N x = some r ∧ Q r) :
    ∀ (d m k : Nat) (x : α), k + d = N → d < m → P k x → ∃ r, F m k x = some r ∧ Q r
  | 0, 0, k, x, _, h, _ => absurd h (by omega)
  | 0, m + 1, k, x, h, _, hp => by
    have e : k = N := by omega
    subst e; exact he m x hp
  | d + 1, 0, k, x, _, h, _ => absurd h (by omega)
  | d + 1, m + 1, k, x, h, hm, hp => by
    obtain ⟨y, hy, e⟩ := hs m k x (by omega) hp
    rw [e]
    exact q_forI hs he d m (k + 1) y (by omega) (by omega) hy
/-- with ways out of the loop -/
theorem q_forX {α β : Type} {F : Nat → Nat → α → Option β} {N : Nat} {P : Nat → α → Prop} {Q : β → Prop} (hs : ∀ m k x, k < N → P k x → (∃ y, P (k + 1) y ∧ F (m + 1) k x = F m (k + 1) y) ∨ ∃ r, F (m + 1) k x = some r ∧ Q r) (he : ∀ m x, P N x → ∃ r, F (m + 1) N x = some r ∧ Q r) :
    ∀ (d m k : Nat) (x : α), k + d = N → d < m → P k x → ∃ r, F m k x = some r ∧ Q r
  | 0, 0, k, x, _, h, _ => absurd h (by omega)
  | 0, m + 1, k, x, h, _, hp => by
    have e : k = N := by omega
    subst e; exact he m x hp
  | d + 1, 0, k, x, _, h, _ => absurd h (by omega)
  | d + 1, m + 1, k, x, h, hm, hp => by
    rcases hs m k x (by omega) hp with ⟨y, hy, e⟩ | h9
    · rw [e]
      exact q_forX hs he d m (k + 1) y (by omega) (by omega) hy
    · exact h9
theorem q_1 : (1 : Int32) = nI 1 := rfl
/-- a set of places as a number -/
def q_mk (p : Nat → Bool) : Nat → Nat
  | 0 => 0
  | n + 1 => q_mk p n + (if p n then 2 ^ n else 0)
theorem q_mk_lt (p : Nat → Bool) : ∀ n, q_mk p n < 2 ^ n
  | 0 => by simp [q_mk]
  | n + 1 => by
    have := q_mk_lt p n
    unfold q_mk
    rw [Nat.pow_succ]
    split <;> omega
theorem q_mk_tb (p : Nat → Bool) : ∀ n i, (q_mk p n).testBit i = (decide (i < n) && p i)
  | 0, i => by simp [q_mk]
  | n + 1, i => by
    unfold q_mk
    have h := q_mk_lt p n
    by_cases hp : p n = true
    · rw [if_pos hp, Nat.add_comm]
      by_cases hi : i = n
      · subst hi
        rw [Nat.testBit_two_pow_add_eq, Nat.testBit_lt_two_pow h]
        simp [hp]
      · by_cases hlt : i < n
        · rw [Nat.testBit_two_pow_add_gt hlt, q_mk_tb p n i]
          simp [hlt, Nat.lt_succ_of_lt hlt]
        · have h3 : 2 ^ n + q_mk p n < 2 ^ i := by
            have : 2 ^ (n + 1) ≤ 2 ^ i := Nat.pow_le_pow_right (by decide) (by omega)
            rw [Nat.pow_succ] at this
            omega
          rw [Nat.testBit_lt_two_pow h3]
          simp [show ¬ i < n + 1 by omega]
    · rw [if_neg hp, Nat.add_zero, q_mk_tb p n i]
      by_cases hi : i = n
      · subst hi
        simp at hp
        simp [hp]
      · by_cases hlt : i < n
        · simp [hlt, Nat.lt_succ_of_lt hlt]
        · simp [hlt, show ¬ i < n + 1 by omega]
theorem q_mk_cong {p q : Nat → Bool} : ∀ {n : Nat}, (∀ i, i < n → p i = q i) → q_mk p n = q_mk q n
  | 0, _ => rfl
  | n + 1, h => by
    unfold q_mk
    rw [q_mk_cong (fun i hi => h i (by omega)), h n (by omega)]
theorem q_tb_eq {x n : Nat} {p : Nat → Bool} (hx : x < 2 ^ n) (h : ∀ i, i < n → x.testBit i = p i) : x = q_mk p n := by
  apply Nat.eq_of_testBit_eq
  intro i
  rw [q_mk_tb]
  by_cases hi : i < n
  · rw [h i hi]; simp [hi]
  · rw [Nat.testBit_lt_two_pow (Nat.lt_of_lt_of_le hx (Nat.pow_le_pow_right (by decide) (by omega)))]
    simp [hi]
theorem q_sh1 {j : Nat} (hj : j < 31) : (1 : Int32) <<< (nI j &&& 31) = nI (2 ^ j) := (by decide +kernel : ∀ j, j < 31 → (1 : Int32) <<< (nI j &&& 31) = nI (2 ^ j)) j hj
theorem q_or1 {x j : Nat} (hj : j < 31) : nI x ||| ((1 : Int32) <<< (nI j &&& 31)) = nI (x ||| 2 ^ j) := by rw [q_sh1 hj, fa_or]
theorem q_mk_or {p : Nat → Bool} {n : Nat} (hp : p n = true) : q_mk p n ||| 2 ^ n = q_mk p (n + 1) := by
  show _ = q_mk p n + (if p n then 2 ^ n else 0)
  rw [if_pos hp, Nat.or_comm, Nat.add_comm]
  have := Nat.two_pow_add_eq_or_of_lt (q_mk_lt p n) 1
  rw [Nat.mul_one] at this
  exact this.symm
theorem q_mk_no {p : Nat → Bool} {n : Nat} (hp : p n = false) : q_mk p (n + 1) = q_mk p n := by
  show q_mk p n + (if p n then 2 ^ n else 0) = _
  rw [hp]; rfl
/-- a bit of a small number -/
theorem q_bit {x j : Nat} (hx : x < 2 ^ 31) (hj : j < 31) : (nI x >>> (nI j &&& 31)) &&& 1 = nI (if x.testBit j then 1 else 0) := by
  have h1 : bt (nI x) = x.testBit := by
    funext i
    show (BitVec.ofNat 32 x).getLsbD i = _
    rw [BitVec.getLsbD_ofNat]
    by_cases hi : i < 32
    · simp [hi]
    · rw [Nat.testBit_lt_two_pow (Nat.lt_of_lt_of_le hx (Nat.pow_le_pow_right (by decide) (by omega)))]
      simp
  apply b_ext
  intro i hi
  rw [b_and, b_sshr j (by omega) _ hi]
  rw [show bt (1 : Int32) i = decide (i = 0) from (by decide +kernel : ∀ i, i < 32 → bt (1 : Int32) i = decide (i = 0)) i hi]
  have h0 : bt (nI 0) i = false := b_0 i
  have h2 : bt (nI 1) i = decide (i = 0) := (by decide +kernel : ∀ i, i < 32 → bt (nI 1) i = decide (i = 0)) i hi
  by_cases hi0 : i = 0
  · subst hi0
    rw [if_pos (by omega), h1, Nat.add_zero]
    cases hb : x.testBit j
    · simp [h0]
    · simp [h2]
  · cases hb : x.testBit j
    · simp [hi0, h0]
    · simp [hi0, h2]
theorem q_bit1 {x j : Nat} (hx : x < 2 ^ 31) (hj : j < 31) : (((nI x >>> (nI j &&& 31)) &&& 1) = 1) ↔ x.testBit j = true := by
  rw [q_bit hx hj]
  cases x.testBit j <;> decide
theorem q_bit0 {x j : Nat} (hx : x < 2 ^ 31) (hj : j < 31) : (((nI x >>> (nI j &&& 31)) &&& 1) = 0) ↔ x.testBit j = false := by
  rw [q_bit hx hj]
  cases x.testBit j <;> decide
