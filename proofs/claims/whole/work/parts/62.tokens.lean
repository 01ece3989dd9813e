/-! the tape cut into tokens -/
def tk_let (c : Nat) : Bool := decide (97 ≤ c ∧ c ≤ 122)
def tk_dig (c : Nat) : Bool := decide (48 ≤ c ∧ c ≤ 57)
def tk_bl (c : Nat) : Bool := decide (c = 10 ∨ c = 32)
def tk_run (p : Nat → Bool) (t : List Nat) : Nat → Nat → Nat
  | 0, i => i
  | d + 1, i => if p (t.getD i 0) = true then tk_run p t d (i + 1) else i
def tk_end (p : Nat → Bool) (t : List Nat) (i : Nat) : Nat := tk_run p t (t.length - i) i
theorem tk_end_ge (p : Nat → Bool) (t : List Nat) {i : Nat} (h : t.length ≤ i) : tk_end p t i = i := by
  unfold tk_end
  rw [show t.length - i = 0 by omega]
  rfl
theorem tk_end_y {p : Nat → Bool} {t : List Nat} {i : Nat} (h : i < t.length) (hp : p (t.getD i 0) = true) : tk_end p t i = tk_end p t (i + 1) := by
  unfold tk_end
  obtain ⟨d, hd⟩ : ∃ d, t.length - i = d + 1 := ⟨t.length - i - 1, by omega⟩
  rw [hd, show t.length - (i + 1) = d by omega]
  show (if p (t.getD i 0) = true then tk_run p t d (i + 1) else i) = _
  rw [if_pos hp]
theorem tk_end_n {p : Nat → Bool} {t : List Nat} {i : Nat} (hp : ¬ p (t.getD i 0) = true) : tk_end p t i = i := by
  unfold tk_end
  cases t.length - i with
  | zero => rfl
  | succ d =>
    show (if p (t.getD i 0) = true then tk_run p t d (i + 1) else i) = _
    rw [if_neg hp]
theorem tk_run_b (p : Nat → Bool) (t : List Nat) : ∀ (d i : Nat), i ≤ tk_run p t d i ∧ tk_run p t d i ≤ i + d
  | 0, i => ⟨Nat.le_refl _, Nat.le_refl _⟩
  | d + 1, i => by
    unfold tk_run
    split
    · have := tk_run_b p t d (i + 1); omega
    · omega
theorem tk_end_b (p : Nat → Bool) (t : List Nat) {i : Nat} (h : i ≤ t.length) : i ≤ tk_end p t i ∧ tk_end p t i ≤ t.length := by
  have := tk_run_b p t (t.length - i) i
  unfold tk_end
  omega
theorem tk_run_stop (p : Nat → Bool) (t : List Nat) : ∀ (d i : Nat), tk_run p t d i < i + d → ¬ p (t.getD (tk_run p t d i) 0) = true
  | 0, i, h => by unfold tk_run at h; omega
  | d + 1, i, h => by
    unfold tk_run at h ⊢
    split at h
    · next hp => rw [if_pos hp]; exact tk_run_stop p t d (i + 1) (by omega)
    · next hp => rw [if_neg hp]; exact hp
theorem tk_end_stop {p : Nat → Bool} {t : List Nat} {i : Nat} (hi : i ≤ t.length) (h : tk_end p t i < t.length) : ¬ p (t.getD (tk_end p t i) 0) = true := by
  unfold tk_end at h ⊢
  exact tk_run_stop p t _ i (by omega)
/-- the letters from i to j -/
def tk_ws (t : List Nat) (i j : Nat) : List Nat := (List.range (j - i)).map (fun k => t.getD (i + k) 0)
theorem tk_ws_s (t : List Nat) {i j : Nat} (h : i ≤ j) : tk_ws t i (j + 1) = tk_ws t i j ++ [t.getD j 0] := by
  unfold tk_ws
  rw [show j + 1 - i = (j - i) + 1 by omega, List.range_succ, List.map_append]
  simp [show i + (j - i) = j by omega]
theorem tk_ws_0 (t : List Nat) (i : Nat) : tk_ws t i i = [] := by unfold tk_ws; simp
def tk_cd (B : Nat) (ws : List Nat) : Nat := ws.foldl (fun x c => x * B + (c - 96)) 0
theorem tk_cd_s (B : Nat) (ws : List Nat) (c : Nat) : tk_cd B (ws ++ [c]) = tk_cd B ws * B + (c - 96) := by unfold tk_cd; rw [List.foldl_append]; rfl
def tk_nm (ds : List Nat) : Nat := ds.foldl (fun x c => x * 10 + (c - 48)) 0
theorem tk_nm_s (ds : List Nat) (c : Nat) : tk_nm (ds ++ [c]) = tk_nm ds * 10 + (c - 48) := by unfold tk_nm; rw [List.foldl_append]; rfl
def tk_wd : List (List Nat) := [[99, 101, 108, 108, 115], [112, 105, 108, 108, 97, 114], [118, 105, 115, 105, 116, 111, 114], [111, 110], [103, 111, 101, 115], [118, 97, 115, 101], [97, 116], [98, 101, 97, 109], [111, 105, 108], [103, 117, 97, 114, 100], [102, 101, 108, 108, 111, 119], [115, 104, 111, 119, 115], [98, 97, 99, 107], [114, 101, 115, 116], [116, 114, 105, 109], [102, 105, 108, 108], [112, 108, 97, 105, 110], [99, 104, 105, 108, 100], [108, 97, 100, 121], [116, 104, 105, 101, 102], [110, 111, 116], [97, 110, 100], [111, 114], [100, 97, 121], [108, 101, 102, 116], [102, 97, 114], [104, 111, 117, 114]]
theorem tk_wd_c : ∀ w, w < 27 → q_kw w = lN (tk_cd 32 (tk_wd.getD w [])) ∧ q_mw27 w = lN (tk_cd 37 (tk_wd.getD w [])) ∧ tk_cd 32 (tk_wd.getD w []) < 2 ^ 40 ∧ tk_cd 37 (tk_wd.getD w []) < 2 ^ 45 ∧ (∀ c ∈ tk_wd.getD w [], tk_let c = true) := by decide +kernel
theorem tk_wd_inj : ∀ w, w < 27 → ∀ v, v < 27 → tk_wd.getD w [] = tk_wd.getD v [] → w = v := by decide +kernel
/-- which word: 27 none of them -/
def tk_ix (ws : List Nat) : Nat := match q_fst (fun w => decide (tk_wd.getD w [] = ws)) 0 27 with
  | some w => w
  | none => 27
theorem tk_ix_le (ws : List Nat) : tk_ix ws ≤ 27 := by
  unfold tk_ix
  cases e : q_fst (fun w => decide (tk_wd.getD w [] = ws)) 0 27 with
  | none => exact Nat.le_refl _
  | some w => have := q_fst_lt e; show w ≤ 27; omega
theorem tk_ix_iff {ws : List Nat} {w : Nat} (hw : w < 27) : tk_ix ws = w ↔ tk_wd.getD w [] = ws := by
  unfold tk_ix
  constructor
  · intro h
    cases e : q_fst (fun w => decide (tk_wd.getD w [] = ws)) 0 27 with
    | none => rw [e] at h; simp only at h; omega
    | some v =>
      rw [e] at h
      simp only at h
      subst h
      have := (q_fst_lt e).2.2
      simpa using this
  · intro h
    cases e : q_fst (fun w => decide (tk_wd.getD w [] = ws)) 0 27 with
    | none =>
      exfalso
      have h1 : (q_fst (fun w => decide (tk_wd.getD w [] = ws)) 0 27).isSome = true := by
        rw [q_fst_any, q_any_iff]; exact ⟨w, hw, by simp only [decide_eq_true_eq]; exact h⟩
      rw [e] at h1
      cases h1
    | some v =>
      have h2 := q_fst_lt e
      have h3 := h2.2.2
      simp only [decide_eq_true_eq] at h3
      exact tk_wd_inj v (by omega) w hw (by rw [h3, h])
theorem tk_nl (ws : List Nat) : ws = [] ∨ ∃ us c, ws = us ++ [c] := by
  rcases List.eq_nil_or_concat ws with h | ⟨us, c, h⟩
  · exact Or.inl h
  · exact Or.inr ⟨us, c, by rw [h, List.concat_eq_append]⟩
/-- a code tells the letters -/
theorem tk_cd_inj {B : Nat} (hB : 27 ≤ B) : ∀ (n : Nat) (ws vs : List Nat), ws.length ≤ n → (∀ c ∈ ws, tk_let c = true) → (∀ c ∈ vs, tk_let c = true) → tk_cd B ws = tk_cd B vs → ws = vs := by
  intro n
  induction n with
  | zero =>
    intro ws vs h0 hw hv e
    have : ws = [] := List.length_eq_zero_iff.mp (by omega)
    subst this
    rcases tk_nl vs with rfl | ⟨us, c, rfl⟩
    · rfl
    · exfalso
      have hc := hv c (by simp)
      unfold tk_let at hc
      simp only [decide_eq_true_eq] at hc
      rw [tk_cd_s] at e
      have : tk_cd B [] = 0 := rfl
      omega
  | succ n ih =>
    intro ws vs h0 hw hv e
    rcases tk_nl ws with rfl | ⟨us, c, rfl⟩
    · rcases tk_nl vs with rfl | ⟨us, c, rfl⟩
      · rfl
      · exfalso
        have hc := hv c (by simp)
        unfold tk_let at hc
        simp only [decide_eq_true_eq] at hc
        rw [tk_cd_s] at e
        have : tk_cd B [] = 0 := rfl
        omega
    · have hc := hw c (by simp)
      unfold tk_let at hc
      simp only [decide_eq_true_eq] at hc
      rcases tk_nl vs with rfl | ⟨xs, d, rfl⟩
      · exfalso
        rw [tk_cd_s] at e
        have : tk_cd B [] = 0 := rfl
        omega
      · have hd := hv d (by simp)
        unfold tk_let at hd
        simp only [decide_eq_true_eq] at hd
        rw [tk_cd_s, tk_cd_s] at e
        have e1 : (tk_cd B us * B + (c - 96)) % B = (tk_cd B xs * B + (d - 96)) % B := by rw [e]
        have e2 : (tk_cd B us * B + (c - 96)) / B = (tk_cd B xs * B + (d - 96)) / B := by rw [e]
        rw [Nat.mul_comm, Nat.mul_add_mod, Nat.mod_eq_of_lt (by omega), Nat.mul_comm (tk_cd B xs), Nat.mul_add_mod, Nat.mod_eq_of_lt (by omega)] at e1
        rw [Nat.mul_comm, Nat.mul_add_div (by omega), Nat.div_eq_of_lt (by omega), Nat.mul_comm (tk_cd B xs), Nat.mul_add_div (by omega), Nat.div_eq_of_lt (by omega)] at e2
        have hlen : us.length ≤ n := by simp at h0; omega
        have := ih us xs hlen (fun x hx => hw x (by simp [hx])) (fun x hx => hv x (by simp [hx])) (by omega)
        rw [this, show c = d by omega]
theorem tk_cd_lt {B : Nat} (hB : 27 ≤ B) : ∀ (n : Nat) (ws : List Nat), ws.length ≤ n → (∀ c ∈ ws, tk_let c = true) → tk_cd B ws < B ^ n := by
  intro n
  induction n with
  | zero =>
    intro ws h0 hw
    have : ws = [] := List.length_eq_zero_iff.mp (by omega)
    subst this
    show 0 < B ^ 0
    simp
  | succ n ih =>
    intro ws h0 hw
    rcases tk_nl ws with rfl | ⟨us, c, rfl⟩
    · exact Nat.pow_pos (by omega)
    · have hc := hw c (by simp)
      unfold tk_let at hc
      simp only [decide_eq_true_eq] at hc
      have := ih us (by simp at h0; omega) (fun x hx => hw x (by simp [hx]))
      rw [tk_cd_s, Nat.pow_succ]
      calc tk_cd B us * B + (c - 96) < tk_cd B us * B + B := by omega
        _ = (tk_cd B us + 1) * B := by rw [Nat.add_mul, Nat.one_mul]
        _ ≤ B ^ n * B := Nat.mul_le_mul_right B this
/-- signs -/
def tk_sg : List Nat := [40, 41, 60, 61, 43, 45, 42, 59]
def tk_sc (c : Nat) : Nat := match q_fst (fun k => decide (tk_sg.getD k 0 = c)) 0 8 with
  | some k => 29 + k
  | none => 38
/-- a token: its code, its place, its number, its letters; and where the next may begin -/
def tk_i (t : List Nat) (i : Nat) : Nat := tk_end tk_bl t i
def tk_c (t : List Nat) (i : Nat) : Nat := if t.length ≤ tk_i t i then 37 else if tk_let (t.getD (tk_i t i) 0) = true then (if tk_end tk_let t (tk_i t i) - tk_i t i ≤ 8 then tk_ix (tk_ws t (tk_i t i) (tk_end tk_let t (tk_i t i))) else 38) else if tk_dig (t.getD (tk_i t i) 0) = true then (if tk_end tk_dig t (tk_i t i) - tk_i t i ≤ 4 then 28 else 38) else tk_sc (t.getD (tk_i t i) 0)
def tk_n (t : List Nat) (i : Nat) : Nat := if t.length ≤ tk_i t i then t.length else if tk_let (t.getD (tk_i t i) 0) = true then tk_end tk_let t (tk_i t i) else if tk_dig (t.getD (tk_i t i) 0) = true then tk_end tk_dig t (tk_i t i) else tk_i t i + 1
def tk_w (t : List Nat) (i : Nat) : List Nat := tk_ws t (tk_i t i) (tk_end tk_let t (tk_i t i))
def tk_v (t : List Nat) (i : Nat) : Nat := tk_nm (tk_ws t (tk_i t i) (tk_end tk_dig t (tk_i t i)))
def tk_pos (t : List Nat) : Nat → Nat
  | 0 => 0
  | n + 1 => tk_n t (tk_pos t n)
theorem tk_i_le (t : List Nat) {i : Nat} (h : i ≤ t.length) : i ≤ tk_i t i ∧ tk_i t i ≤ t.length := tk_end_b _ _ h
theorem tk_n_le (t : List Nat) {i : Nat} (h : i ≤ t.length) : i ≤ tk_n t i ∧ tk_n t i ≤ t.length ∧ (tk_i t i < t.length → tk_i t i < tk_n t i) := by
  have h1 := tk_i_le t h
  unfold tk_n
  by_cases h2 : t.length ≤ tk_i t i
  · rw [if_pos h2]; omega
  · rw [if_neg h2]
    have h3 : tk_i t i < t.length := by omega
    by_cases h4 : tk_let (t.getD (tk_i t i) 0) = true
    · rw [if_pos h4, tk_end_y h3 h4]
      have := tk_end_b tk_let t (show tk_i t i + 1 ≤ t.length by omega)
      omega
    · rw [if_neg h4]
      by_cases h5 : tk_dig (t.getD (tk_i t i) 0) = true
      · rw [if_pos h5, tk_end_y h3 h5]
        have := tk_end_b tk_dig t (show tk_i t i + 1 ≤ t.length by omega)
        omega
      · rw [if_neg h5]; omega
theorem tk_pos_le (t : List Nat) : ∀ n, tk_pos t n ≤ t.length
  | 0 => Nat.zero_le _
  | n + 1 => (tk_n_le t (tk_pos_le t n)).2.1
