/-! the class's plain questions -/
section QBASE
variable {a : Nat} {I : lh_II} {h : lh_H}
theorem q_in {x : Int32} {n : Nat} (hn : n < 2 ^ 31) (h0 : ¬ x < 0) (h1 : ¬ nI n ≤ x) : ∃ k, k < n ∧ x = nI k := by
  obtain ⟨k, hk, rfl⟩ := nI_of h0
  refine ⟨k, ?_, rfl⟩
  rcases Nat.lt_or_ge k n with q | q
  · exact q
  · exact absurd (nI_le q hk) h1
/-- whether x is one of the first n numbers -/
def q_is (n : Nat) (x : Int32) : Bool := decide (¬ x < 0 ∧ ¬ nI n ≤ x)
theorem q_is_nI {n k : Nat} (hn : n < 2 ^ 31) (hk : k < 2 ^ 31) : q_is n (nI k) = decide (k < n) := by
  unfold q_is
  rw [decide_eq_decide]
  rw [nI_leI hn hk]
  have := nI_pos hk
  constructor
  · intro q; omega
  · intro q; exact ⟨this, by omega⟩
theorem q_is_ex {n : Nat} {x : Int32} (hn : n < 2 ^ 31) (hx : q_is n x = true) : ∃ k, k < n ∧ x = nI k := by
  unfold q_is at hx
  rw [decide_eq_true_eq] at hx
  exact q_in hn hx.1 hx.2
theorem q_isf {α : Type} {n : Nat} {x : Int32} {A B : α} (m : Int32) (hm : m = nI n) : (if x < 0 then A else if m ≤ x then A else B) = if q_is n x = true then B else A := by
  subst hm
  unfold q_is
  by_cases h0 : x < 0
  · rw [if_pos h0, if_neg (by simp [h0])]
  · rw [if_neg h0]
    by_cases h1 : nI n ≤ x
    · rw [if_pos h1, if_neg (by simp [h0, h1])]
    · rw [if_neg h1, if_pos (by simp [h0, h1])]
def q_b01 (b : Bool) : Int32 := if b = true then 1 else 0
theorem e_hasCell (c : q_cl a I h) (x : Int32) : f_Ha_hasCell a x I = some (q_b01 (q_is (q_C h) x)) := by
  rw [f_Ha_hasCell, q_isf _ c.C]; unfold q_b01; split <;> rfl
theorem e_hasVisitor (c : q_cl a I h) (x : Int32) : f_Ha_hasVisitor a x I = some (q_b01 (q_is (q_N h) x)) := by
  rw [f_Ha_hasVisitor, q_isf _ c.N]; unfold q_b01; split <;> rfl
theorem e_hasVase (c : q_cl a I h) (x : Int32) : f_Ha_hasVase a x I = some (q_b01 (q_is (q_K h) x)) := by
  rw [f_Ha_hasVase, q_isf _ c.K]; unfold q_b01; split <;> rfl
theorem e_isHour (x : Int32) : f_LH_isHour x = some (q_b01 (q_is 8 x)) := by
  rw [f_LH_isHour, q_isf (8 : Int32) rfl]; unfold q_b01; split <;> rfl
theorem e_isDay (x : Int32) : f_LH_isDay x = some (q_b01 (q_is 4 x)) := by
  rw [f_LH_isDay, q_isf (4 : Int32) rfl]; unfold q_b01; split <;> rfl
theorem q_b01_0 {b : Bool} : (q_b01 b = 0) = (b = false) := by cases b <;> decide
theorem q_b01_t {α : Type} {b : Bool} {A B : α} (hb : b = true) : (if q_b01 b = 0 then A else B) = B := by subst hb; rfl
theorem q_b01_f {α : Type} {b : Bool} {A B : α} (hb : b = false) : (if q_b01 b = 0 then A else B) = A := by subst hb; rfl
theorem q_48 : ∀ v, v < 6 → ∀ t, t < 8 → lh_ix (nI v * 8 + nI t) 48 = true ∧ (nI v * 8 + nI t).toNatClampNeg = v * 8 + t := by decide +kernel
/-- who is where, for any two ints -/
def q_plx (h : lh_H) (x t : Int32) : Option Nat := if q_is (q_N h) x = true then if q_is 8 t = true then q_pl h x.toNatClampNeg t.toNatClampNeg else none else none
theorem q_plx_nI {v t : Nat} (w : q_wf h) (hv : v < q_N h) (ht : t < 8) : q_plx h (nI v) (nI t) = q_pl h v t := by
  have hN := w.N
  unfold q_plx
  rw [q_is_nI (by omega) (by omega), q_is_nI (by omega) (by omega), if_pos (by simp [hv]), if_pos (by simp [ht]), nI_clamp (by omega), nI_clamp (by omega)]
theorem e_placeOf (c : q_cl a I h) (w : q_wf h) (x t : Int32) : f_Ha_placeOf a x t I = some (q_e (q_plx h x t)) := by
  have hN := w.N
  rw [f_Ha_placeOf, e_hasVisitor c, q_bs]
  unfold q_plx
  cases h1 : q_is (q_N h) x with
  | false => rw [q_b01_f rfl]; rfl
  | true =>
    rw [q_b01_t rfl, e_isHour, q_bs]
    cases h2 : q_is 8 t with
    | false => rw [q_b01_f rfl]; rfl
    | true =>
      rw [q_b01_t rfl]
      obtain ⟨v, hv, rfl⟩ := q_is_ex (by omega) h1
      obtain ⟨u, hu, rfl⟩ := q_is_ex (by omega) h2
      obtain ⟨i1, i2⟩ := q_48 v (by omega) u hu
      rw [q_gd i1, i2, c.pl hv hu, nI_clamp (by omega), nI_clamp (by omega)]
      rfl
theorem e_placeOfN (c : q_cl a I h) (w : q_wf h) {v t : Nat} (hv : v < q_N h) (ht : t < 8) : f_Ha_placeOf a (nI v) (nI t) I = some (q_e (q_pl h v t)) := by
  rw [e_placeOf c w, q_plx_nI w hv ht]
theorem q_e_m1 {o : Option Nat} (ho : ∀ c, o = some c → c < 2 ^ 31) : (q_e o = -1) = (o = none) := by
  cases o with
  | none => simp [q_e]
  | some c =>
    have := nI_pos (ho c rfl)
    simp only [q_e, reduceCtorEq, eq_iff_iff, iff_false]
    intro e
    rw [e] at this
    exact this (by decide)
theorem q_e_lt {o : Option Nat} (ho : ∀ c, o = some c → c < 2 ^ 31) : (q_e o < 0) = (o = none) := by
  cases o with
  | none => simp [q_e]
  | some c =>
    have := nI_pos (ho c rfl)
    simp [q_e, this]
theorem q_e_inj {o p : Option Nat} (ho : ∀ c, o = some c → c < 2 ^ 31) (hp : ∀ c, p = some c → c < 2 ^ 31) : (q_e o = q_e p) = (o = p) := by
  cases o with
  | none =>
    show ((-1 : Int32) = q_e p) = (none = p)
    rw [show ((-1 : Int32) = q_e p) = (q_e p = -1) from propext eq_comm, q_e_m1 hp]
    exact propext eq_comm
  | some c =>
    cases p with
    | none => rw [show q_e none = -1 from rfl, q_e_m1 ho]
    | some d =>
      show (nI c = nI d) = _
      rw [nI_eq (ho c rfl) (hp d rfl)]
      simp
theorem q_e_nI {o : Option Nat} {c : Nat} (ho : ∀ c, o = some c → c < 2 ^ 31) (hc : c < 2 ^ 31) : (q_e o = nI c) = (o = some c) := q_e_inj (p := some c) ho (fun d e => by cases e; exact hc)
theorem q_wf.pl31 (w : q_wf h) {v t : Nat} (hv : v < q_N h) (ht : t < 8) : ∀ c, q_pl h v t = some c → c < 2 ^ 31 := fun c e => by have := w.pl hv ht e; have := w.C; omega
theorem q_wf.va31 (w : q_wf h) {k : Nat} (hk : k < q_K h) : ∀ c, q_va h k = some c → c < 2 ^ 31 := fun c e => by have := w.va hk e; have := w.C; omega
theorem q_plx_lt (w : q_wf h) {x t : Int32} {c : Nat} (e : q_plx h x t = some c) : c < q_C h := by
  have hN := w.N
  unfold q_plx at e
  split at e
  · next h1 =>
    split at e
    · next h2 =>
      obtain ⟨v, hv, rfl⟩ := q_is_ex (by omega) h1
      obtain ⟨u, hu, rfl⟩ := q_is_ex (by omega) h2
      rw [nI_clamp (by omega), nI_clamp (by omega)] at e
      exact w.pl hv hu e
    · cases e
  · cases e
theorem q_wf.plx31 (w : q_wf h) {x t : Int32} : ∀ c, q_plx h x t = some c → c < 2 ^ 31 := fun c e => by have := q_plx_lt w e; have := w.C; omega
end QBASE
