/-! an abstract hall: numbers (0 cells, 1 visitors, 2 vases, 3 beam, 4 fellows, 5 oil, 6 guard, 7 pillars, 10.. kinds, 20.. days, 30.. fellow's cells); who is where (visitor, hour), vases (100, k); the law's work -/
abbrev lh_H : Type := (Nat → Nat) × (Nat → Nat → Option Nat) × List (Nat × Nat)
def q_C (h : lh_H) : Nat := h.1 0
def q_N (h : lh_H) : Nat := h.1 1
def q_K (h : lh_H) : Nat := h.1 2
def q_B (h : lh_H) : Nat := h.1 3
def q_F (h : lh_H) : Nat := h.1 4
def q_O (h : lh_H) : Nat := h.1 5
def q_G (h : lh_H) : Nat := h.1 6
def q_P (h : lh_H) : Nat := h.1 7
def q_kd (h : lh_H) (v : Nat) : Nat := h.1 (10 + v)
def q_dy (h : lh_H) (v : Nat) : Nat := h.1 (20 + v)
def q_fe (h : lh_H) (i : Nat) : Nat := h.1 (30 + i)
def q_pl (h : lh_H) (v t : Nat) : Option Nat := h.2.1 v t
def q_va (h : lh_H) (k : Nat) : Option Nat := h.2.1 100 k
def q_lw (h : lh_H) : List (Nat × Nat) := h.2.2
def q_e : Option Nat → Int32
  | none => -1
  | some c => nI c
/-- the law: work as the class writes it; that it goes through; what it gives -/
def q_cw (q : Nat × Nat) : Int32 := if q.1 = 1 then nI q.2 else if q.1 = 2 then -nI (23 + q.2) else if q.1 = 3 then -20 else if q.1 = 4 then -33 else if q.1 = 5 then -34 else if q.1 = 6 then -35 else if q.1 = 7 then -31 else if q.1 = 8 then -32 else if q.1 = 9 then -21 else -22
def q_ck : List (Nat × Nat) → Nat → Bool
  | [], d => d == 1
  | q :: ws, d => if q.1 = 1 then decide (q.2 ≤ 9999) && decide (d < 32) && q_ck ws (d + 1) else if q.1 = 2 then decide (q.2 < 4) && decide (d < 32) && q_ck ws (d + 1) else if q.1 = 3 then decide (1 ≤ d) && q_ck ws d else decide (4 ≤ q.1 ∧ q.1 ≤ 10) && decide (2 ≤ d) && q_ck ws (d - 1)
def q_jo (o : Nat) (x y : Int32) : Int32 := if o = 4 then x + y else if o = 5 then x - y else if o = 6 then x * y else if o = 7 then (if y ≤ x then 0 else 1) else if o = 8 then (if x = y then 1 else 0) else if o = 9 then (if x = 0 then 0 else if y = 0 then 0 else 1) else (if x = 0 then if y = 0 then 0 else 1 else 1)
def q_ev (f : Nat → Int32) : List (Nat × Nat) → List Int32 → List Int32
  | [], s => s
  | q :: ws, s => if q.1 = 1 then q_ev f ws (nI q.2 :: s) else if q.1 = 2 then q_ev f ws (f q.2 :: s) else if q.1 = 3 then q_ev f ws ((if s.headD 0 = 0 then 1 else 0) :: s.tail) else q_ev f ws (q_jo q.1 (s.tail.headD 0) (s.headD 0) :: s.tail.tail)
def q_fa (d l r u : Nat) : Nat → Int32
  | 0 => nI d
  | 1 => nI l
  | 2 => nI r
  | _ => nI u
/-- the day shown: day, oil left, how far, hour -/
def q_sd (h : lh_H) (d l r u : Nat) : Nat := let v := (q_ev (q_fa d l r u) (q_lw h) []).headD 0; if v < 0 then 0 else if 3 < v then 3 else v.toNatClampNeg
/-- what is lit from c, these pillars standing -/
def q_up (h : lh_H) (c st : Nat) : Nat → Nat → Nat → Nat
  | 0, _, x => x
  | d + 1, r, x => if q_C h ≤ c + r then x else if st.testBit (c + r) then x ||| 2 ^ (c + r) else q_up h c st d (r + 1) (x ||| 2 ^ (c + r))
def q_dn (h : lh_H) (c st : Nat) : Nat → Nat → Nat → Nat
  | 0, _, x => x
  | d + 1, r, x => if c < r then x else if st.testBit (c - r) then x ||| 2 ^ (c - r) else q_dn h c st d (r + 1) (x ||| 2 ^ (c - r))
def q_lt (h : lh_H) (c st : Nat) : Nat := q_dn h c st (q_B h) 1 (q_up h c st (q_B h) 1 (2 ^ c))
/-- a hall that stands -/
def q_wf (h : lh_H) : Prop := (2 ≤ q_C h ∧ q_C h ≤ 12) ∧ q_N h ≤ 6 ∧ q_K h ≤ 4 ∧ (1 ≤ q_B h ∧ q_B h ≤ 5) ∧ q_F h ≤ 8 ∧ q_O h ≤ 99 ∧ q_G h < q_C h ∧ q_P h < 2 ^ q_C h ∧ (∀ v, v < q_N h → q_kd h v < 4 ∧ q_dy h v < 4) ∧ (∀ v t c, v < q_N h → t < 8 → q_pl h v t = some c → c < q_C h) ∧ (∀ k c, k < q_K h → q_va h k = some c → c < q_C h) ∧ (∀ i, i < q_F h → q_fe h i < q_C h) ∧ q_ck (q_lw h) 0 = true ∧ (q_lw h).length ≤ 1000
theorem q_wf.C {h : lh_H} (w : q_wf h) : 2 ≤ q_C h ∧ q_C h ≤ 12 := w.1
theorem q_wf.N {h : lh_H} (w : q_wf h) : q_N h ≤ 6 := w.2.1
theorem q_wf.K {h : lh_H} (w : q_wf h) : q_K h ≤ 4 := w.2.2.1
theorem q_wf.B {h : lh_H} (w : q_wf h) : 1 ≤ q_B h ∧ q_B h ≤ 5 := w.2.2.2.1
theorem q_wf.F {h : lh_H} (w : q_wf h) : q_F h ≤ 8 := w.2.2.2.2.1
theorem q_wf.O {h : lh_H} (w : q_wf h) : q_O h ≤ 99 := w.2.2.2.2.2.1
theorem q_wf.G {h : lh_H} (w : q_wf h) : q_G h < q_C h := w.2.2.2.2.2.2.1
theorem q_wf.P {h : lh_H} (w : q_wf h) : q_P h < 2 ^ q_C h := w.2.2.2.2.2.2.2.1
theorem q_wf.kd {h : lh_H} (w : q_wf h) {v : Nat} (hv : v < q_N h) : q_kd h v < 4 := (w.2.2.2.2.2.2.2.2.1 v hv).1
theorem q_wf.dy {h : lh_H} (w : q_wf h) {v : Nat} (hv : v < q_N h) : q_dy h v < 4 := (w.2.2.2.2.2.2.2.2.1 v hv).2
theorem q_wf.pl {h : lh_H} (w : q_wf h) {v t c : Nat} (hv : v < q_N h) (ht : t < 8) (e : q_pl h v t = some c) : c < q_C h := w.2.2.2.2.2.2.2.2.2.1 v t c hv ht e
theorem q_wf.va {h : lh_H} (w : q_wf h) {k c : Nat} (hk : k < q_K h) (e : q_va h k = some c) : c < q_C h := w.2.2.2.2.2.2.2.2.2.2.1 k c hk e
theorem q_wf.fe {h : lh_H} (w : q_wf h) {i : Nat} (hi : i < q_F h) : q_fe h i < q_C h := w.2.2.2.2.2.2.2.2.2.2.2.1 i hi
theorem q_wf.ck {h : lh_H} (w : q_wf h) : q_ck (q_lw h) 0 = true := w.2.2.2.2.2.2.2.2.2.2.2.2.1
theorem q_wf.ln {h : lh_H} (w : q_wf h) : (q_lw h).length ≤ 1000 := w.2.2.2.2.2.2.2.2.2.2.2.2.2
theorem q_wf.P12 {h : lh_H} (w : q_wf h) : q_P h < 4096 := Nat.lt_of_lt_of_le w.P (Nat.pow_le_pow_right (n := 2) (by decide) w.C.2)
/-- the class's hall a -/
def q_cl (a : Nat) (I : lh_II) (h : lh_H) : Prop := (I (a + 4) 9 = nI (q_C h) ∧ I (a + 4) 10 = nI (q_P h) ∧ I (a + 4) 11 = nI (q_N h) ∧ I (a + 4) 12 = nI (q_K h) ∧ I (a + 4) 13 = nI (q_B h) ∧ I (a + 4) 14 = nI (q_O h) ∧ I (a + 4) 15 = nI (q_G h) ∧ I (a + 4) 16 = nI (q_F h)) ∧ (∀ v, v < q_N h → I (a + 4 + 4) v = nI (q_kd h v) ∧ I (a + 5 + 4) v = nI (q_dy h v)) ∧ (∀ v t, v < q_N h → t < 8 → I (a + 7 + 4) (v * 8 + t) = q_e (q_pl h v t)) ∧ (∀ k, k < q_K h → I (a + 8 + 4) k = q_e (q_va h k)) ∧ (∀ i, i < q_F h → I (a + 9 + 4) i = nI (q_fe h i)) ∧ (∀ c, c < q_C h → I (a + 10 + 4) c = nI (q_lt h c (q_P h))) ∧ I (a + 1 + 4) 2 = nI (q_lw h).length ∧ ∀ i, i < (q_lw h).length → I (a + 2 + 4) i = q_cw ((q_lw h).getD i (0, 0))
theorem q_cl.C {a : Nat} {I : lh_II} {h : lh_H} (c : q_cl a I h) : I (a + 4) 9 = nI (q_C h) := c.1.1
theorem q_cl.P {a : Nat} {I : lh_II} {h : lh_H} (c : q_cl a I h) : I (a + 4) 10 = nI (q_P h) := c.1.2.1
theorem q_cl.N {a : Nat} {I : lh_II} {h : lh_H} (c : q_cl a I h) : I (a + 4) 11 = nI (q_N h) := c.1.2.2.1
theorem q_cl.K {a : Nat} {I : lh_II} {h : lh_H} (c : q_cl a I h) : I (a + 4) 12 = nI (q_K h) := c.1.2.2.2.1
theorem q_cl.B {a : Nat} {I : lh_II} {h : lh_H} (c : q_cl a I h) : I (a + 4) 13 = nI (q_B h) := c.1.2.2.2.2.1
theorem q_cl.O {a : Nat} {I : lh_II} {h : lh_H} (c : q_cl a I h) : I (a + 4) 14 = nI (q_O h) := c.1.2.2.2.2.2.1
theorem q_cl.G {a : Nat} {I : lh_II} {h : lh_H} (c : q_cl a I h) : I (a + 4) 15 = nI (q_G h) := c.1.2.2.2.2.2.2.1
theorem q_cl.F {a : Nat} {I : lh_II} {h : lh_H} (c : q_cl a I h) : I (a + 4) 16 = nI (q_F h) := c.1.2.2.2.2.2.2.2
theorem q_cl.kd {a : Nat} {I : lh_II} {h : lh_H} (c : q_cl a I h) {v : Nat} (hv : v < q_N h) : I (a + 4 + 4) v = nI (q_kd h v) := (c.2.1 v hv).1
theorem q_cl.dy {a : Nat} {I : lh_II} {h : lh_H} (c : q_cl a I h) {v : Nat} (hv : v < q_N h) : I (a + 5 + 4) v = nI (q_dy h v) := (c.2.1 v hv).2
theorem q_cl.pl {a : Nat} {I : lh_II} {h : lh_H} (c : q_cl a I h) {v t : Nat} (hv : v < q_N h) (ht : t < 8) : I (a + 7 + 4) (v * 8 + t) = q_e (q_pl h v t) := c.2.2.1 v t hv ht
theorem q_cl.va {a : Nat} {I : lh_II} {h : lh_H} (c : q_cl a I h) {k : Nat} (hk : k < q_K h) : I (a + 8 + 4) k = q_e (q_va h k) := c.2.2.2.1 k hk
theorem q_cl.fe {a : Nat} {I : lh_II} {h : lh_H} (c : q_cl a I h) {i : Nat} (hi : i < q_F h) : I (a + 9 + 4) i = nI (q_fe h i) := c.2.2.2.2.1 i hi
theorem q_cl.lt {a : Nat} {I : lh_II} {h : lh_H} (c : q_cl a I h) {i : Nat} (hi : i < q_C h) : I (a + 10 + 4) i = nI (q_lt h i (q_P h)) := c.2.2.2.2.2.1 i hi
theorem q_cl.ln {a : Nat} {I : lh_II} {h : lh_H} (c : q_cl a I h) : I (a + 1 + 4) 2 = nI (q_lw h).length := c.2.2.2.2.2.2.1
theorem q_cl.lw {a : Nat} {I : lh_II} {h : lh_H} (c : q_cl a I h) {i : Nat} (hi : i < (q_lw h).length) : I (a + 2 + 4) i = q_cw ((q_lw h).getD i (0, 0)) := c.2.2.2.2.2.2.2 i hi
theorem q_cl.keep {a : Nat} {I I' : lh_II} {h : lh_H} (c : q_cl a I h) (e : ∀ j k, j < 11 → j ≠ 3 → I' (a + j + 4) k = I (a + j + 4) k) : q_cl a I' h := by
  have e0 : ∀ k, I' (a + 4) k = I (a + 4) k := fun k => e 0 k (by decide) (by decide)
  obtain ⟨⟨a1, a2, a3, a4, a5, a6, a7, a8⟩, b, d, f, g, l, m, n⟩ := c
  refine ⟨⟨by rw [e0]; exact a1, by rw [e0]; exact a2, by rw [e0]; exact a3, by rw [e0]; exact a4, by rw [e0]; exact a5, by rw [e0]; exact a6, by rw [e0]; exact a7, by rw [e0]; exact a8⟩, fun v hv => ?_, fun v t hv ht => ?_, fun k hk => ?_, fun i hi => ?_, fun i hi => ?_, ?_, fun i hi => ?_⟩
  · rw [e 4 _ (by decide) (by decide), e 5 _ (by decide) (by decide)]; exact b v hv
  · rw [e 7 _ (by decide) (by decide)]; exact d v t hv ht
  · rw [e 8 _ (by decide) (by decide)]; exact f k hk
  · rw [e 9 _ (by decide) (by decide)]; exact g i hi
  · rw [e 10 _ (by decide) (by decide)]; exact l i hi
  · rw [e 1 _ (by decide) (by decide)]; exact m
  · rw [e 2 _ (by decide) (by decide)]; exact n i hi
/-- the reference's hall -/
def q_raw (h : lh_H) (v n : Nat) (raw : Nat → Nat) (t : Nat) : Option Nat := if t < n then (if raw t < q_C h then some (raw t) else none) else if q_kd h v = 2 then (if raw (n - 1) < q_C h then some (raw (n - 1)) else none) else none
def q_md (I : lh_II) (h : lh_H) : Prop := (I (71 + 4) 0 = nI (q_C h) ∧ I (71 + 4) 1 = nI (q_N h) ∧ I (71 + 4) 2 = nI (q_K h) ∧ I (71 + 4) 3 = nI (q_B h) ∧ I (71 + 4) 4 = nI (q_O h) ∧ I (71 + 4) 6 = nI (q_F h)) ∧ (∃ g, g < 12 ∧ I (71 + 4) 5 = nI g ∧ q_G h = if g < q_C h then g else q_C h - 1) ∧ (∃ p, p < 4096 ∧ I (71 + 4) 7 = nI p ∧ q_P h = p % 2 ^ q_C h) ∧ (∀ v, v < q_N h → I (71 + 4) (9 + 11 * v) = nI (q_kd h v) ∧ I (71 + 4) (10 + 11 * v) = nI (q_dy h v) ∧ ∃ (n : Nat) (raw : Nat → Nat), (1 ≤ n ∧ n ≤ 8) ∧ I (71 + 4) (11 + 11 * v) = nI n ∧ (∀ t, t < n → raw t < 12 ∧ I (71 + 4) (12 + 11 * v + t) = nI (raw t)) ∧ ∀ t, t < 8 → q_pl h v t = q_raw h v n raw t) ∧
  (∀ k, k < q_K h → ∃ r, r < 12 ∧ I (71 + 4) (75 + k) = nI r ∧ q_va h k = if r < q_C h then some r else none) ∧ (∀ i, i < q_F h → ∃ r, r < 12 ∧ I (71 + 4) (79 + i) = nI r ∧ q_fe h i = if r < q_C h then r else q_C h - 1) ∧
  ((I (71 + 4) 8 = -1 ∧ q_lw h = [(2, 0)]) ∨ (I (71 + 4) 8 = 0 ∧ (∀ i, i < (q_lw h).length → I (72 + 4) i = nI ((q_lw h).getD i (0, 0)).1 ∧ I (73 + 4) i = nI ((q_lw h).getD i (0, 0)).2) ∧ I (72 + 4) (q_lw h).length = 0))
theorem q_md.C {I : lh_II} {h : lh_H} (c : q_md I h) : I (71 + 4) 0 = nI (q_C h) := c.1.1
theorem q_md.N {I : lh_II} {h : lh_H} (c : q_md I h) : I (71 + 4) 1 = nI (q_N h) := c.1.2.1
theorem q_md.K {I : lh_II} {h : lh_H} (c : q_md I h) : I (71 + 4) 2 = nI (q_K h) := c.1.2.2.1
theorem q_md.B {I : lh_II} {h : lh_H} (c : q_md I h) : I (71 + 4) 3 = nI (q_B h) := c.1.2.2.2.1
theorem q_md.O {I : lh_II} {h : lh_H} (c : q_md I h) : I (71 + 4) 4 = nI (q_O h) := c.1.2.2.2.2.1
theorem q_md.F {I : lh_II} {h : lh_H} (c : q_md I h) : I (71 + 4) 6 = nI (q_F h) := c.1.2.2.2.2.2
theorem q_md.keep {I I' : lh_II} {h : lh_H} (c : q_md I h) (w : q_wf h) (e1 : ∀ k, k < 100 → I' (71 + 4) k = I (71 + 4) k) (e2 : ∀ k, k < 1100 → I' (72 + 4) k = I (72 + 4) k) (e3 : ∀ k, k < 1100 → I' (73 + 4) k = I (73 + 4) k) : q_md I' h := by
  have hN := w.N
  have hK := w.K
  have hF := w.F
  have hl := w.ln
  obtain ⟨⟨a1, a2, a3, a4, a5, a6⟩, ⟨g, g1, g2, g3⟩, ⟨p, p1, p2, p3⟩, b, d, f, l⟩ := c
  refine ⟨⟨by rw [e1 _ (by decide)]; exact a1, by rw [e1 _ (by decide)]; exact a2, by rw [e1 _ (by decide)]; exact a3, by rw [e1 _ (by decide)]; exact a4, by rw [e1 _ (by decide)]; exact a5, by rw [e1 _ (by decide)]; exact a6⟩, ⟨g, g1, by rw [e1 _ (by decide)]; exact g2, g3⟩, ⟨p, p1, by rw [e1 _ (by decide)]; exact p2, p3⟩, fun v hv => ?_, fun k hk => ?_, fun i hi => ?_, ?_⟩
  · obtain ⟨b1, b2, n, raw, b3, b4, b5, b6⟩ := b v hv
    refine ⟨by rw [e1 _ (by omega)]; exact b1, by rw [e1 _ (by omega)]; exact b2, n, raw, b3, by rw [e1 _ (by omega)]; exact b4, fun t ht => ⟨(b5 t ht).1, by rw [e1 _ (by omega)]; exact (b5 t ht).2⟩, b6⟩
  · obtain ⟨r, r1, r2, r3⟩ := d k hk
    exact ⟨r, r1, by rw [e1 _ (by omega)]; exact r2, r3⟩
  · obtain ⟨r, r1, r2, r3⟩ := f i hi
    exact ⟨r, r1, by rw [e1 _ (by omega)]; exact r2, r3⟩
  · rw [e1 _ (by decide)]
    rcases l with l | ⟨l1, l2, l3⟩
    · exact Or.inl l
    · exact Or.inr ⟨l1, fun i hi => by rw [e2 _ (by omega), e3 _ (by omega)]; exact l2 i hi, by rw [e2 _ (by omega)]; exact l3⟩
