/-! moments, what was said, what is past, marks, nights, the tape: the whole state, and how both sides hold it -/
abbrev lh_Mt : Type := Nat × Nat × Nat × Nat × Nat × Int32 × Nat
def u_c (m : lh_Mt) : Nat := m.1
def u_h (m : lh_Mt) : Nat := m.2.1
def u_d (m : lh_Mt) : Nat := m.2.2.1
def u_o (m : lh_Mt) : Nat := m.2.2.2.1
def u_s (m : lh_Mt) : Nat := m.2.2.2.2.1
def u_b (m : lh_Mt) : Int32 := m.2.2.2.2.2.1
def u_z (m : lh_Mt) : Nat := m.2.2.2.2.2.2
def q_mc (I : lh_II) (o : Nat) (m : lh_Mt) : Prop := I (o + 4) 0 = nI (u_c m) ∧ I (o + 4) 1 = nI (u_h m) ∧ I (o + 4) 2 = nI (u_d m) ∧ I (o + 4) 3 = nI (u_o m) ∧ I (o + 4) 4 = nI (u_s m) ∧ I (o + 4) 5 = u_b m ∧ I (o + 4) 6 = nI (u_z m)
def q_mm (I : lh_II) (b : Nat) (m : lh_Mt) : Prop := I (78 + 4) b = nI (u_s m) ∧ I (78 + 4) (b + 1) = u_b m ∧ I (78 + 4) (b + 2) = nI (u_h m) ∧ I (78 + 4) (b + 3) = nI (u_d m) ∧ I (78 + 4) (b + 4) = nI (u_o m) ∧ I (78 + 4) (b + 5) = nI (u_c m) ∧ I (78 + 4) (b + 6) = nI (u_z m)
def q_mw (h : lh_H) (n : Nat) (m : lh_Mt) : Prop := u_c m < q_C h ∧ u_h m < 8 ∧ u_d m < 4 ∧ u_o m ≤ 99 ∧ u_s m ≤ n ∧ u_z m < 2 ^ q_N h
abbrev lh_Sd : Type := Nat × Nat × Bool
def q_any (p : Nat → Bool) : Nat → Bool
  | 0 => false
  | n + 1 => q_any p n || p n
/-- somebody is there on a day, at an hour, in a cell -/
def q_sb (h : lh_H) (d u c : Nat) : Bool := q_any (fun v => decide (q_dy h v = d) && decide (q_pl h v u = some c)) (q_N h)
/-- the days that are left -/
def q_dl (h : lh_H) (ss : List lh_Sd) : Nat := q_mk (fun d => ss.all fun q => q_sb h d q.1 q.2.1 == q.2.2) 4
def q_sw (h : lh_H) (ss : List lh_Sd) : Prop := ss.length ≤ 8 ∧ ∀ q ∈ ss, q.1 < 8 ∧ q.2.1 < q_C h
def q_ms (I : lh_II) (b : Nat) (ss : List lh_Sd) : Prop := I (78 + 4) (b + 7) = nI ss.length ∧ ∀ k, k < ss.length → I (78 + 4) (b + 8 + 3 * k) = nI (ss.getD k (0, 0, false)).1 ∧ I (78 + 4) (b + 9 + 3 * k) = nI (ss.getD k (0, 0, false)).2.1 ∧ I (78 + 4) (b + 10 + 3 * k) = q_b01 (ss.getD k (0, 0, false)).2.2
abbrev lh_Mk : Type := Nat → Option (lh_Mt × List lh_Sd)
def q_act (x : Nat) : Nat := if x = 0 then 3 else if x = 1 then 12 else if x = 2 then 13 else if x = 3 then 14 else 15
def q_m0 : lh_Mt := (0, 0, 0, 0, 0, 0, 0)
abbrev lh_St : Type := lh_H × lh_Mt × List lh_Mt × lh_Mk × List lh_Sd × List (Nat × Nat) × List Nat
def s_h (s : lh_St) : lh_H := s.1
def s_n (s : lh_St) : lh_Mt := s.2.1
def s_p (s : lh_St) : List lh_Mt := s.2.2.1
def s_m (s : lh_St) : lh_Mk := s.2.2.2.1
def s_s (s : lh_St) : List lh_Sd := s.2.2.2.2.1
def s_q (s : lh_St) : List (Nat × Nat) := s.2.2.2.2.2.1
def s_t (s : lh_St) : List Nat := s.2.2.2.2.2.2
def q_ln (q : Nat × Nat) : Prop := q.1 ≤ 4 ∧ (q.1 = 3 → q.2 < 4) ∧ (q.1 = 4 → 1 ≤ q.2 ∧ q.2 ≤ 99)
def q_ch (x : Nat) : Prop := x = 10 ∨ (32 ≤ x ∧ x ≤ 126)
/-- a state that stands, with t calls to come -/
def s_wf (t : Nat) (s : lh_St) : Prop := q_wf (s_h s) ∧ q_mw (s_h s) (5000 - t) (s_n s) ∧ ((s_p s).length ≤ 16 ∧ ∀ m ∈ s_p s, q_mw (s_h s) (5000 - t) m) ∧ (∀ j m ss, j < 4 → s_m s j = some (m, ss) → q_mw (s_h s) (5000 - t) m ∧ q_sw (s_h s) ss) ∧ q_sw (s_h s) (s_s s) ∧ ((s_q s).length ≤ 40 ∧ ∀ q ∈ s_q s, q_ln q) ∧ ((s_t s).length ≤ 1000 ∧ ∀ x ∈ s_t s, q_ch x) ∧ t ≤ 4000
/-- the class's side -/
def s_cl (a b : Nat) (I : lh_II) (s : lh_St) : Prop := q_cl a I (s_h s) ∧ q_mc I 7 (s_n s) ∧ (∃ e, e < 16 ∧ I (0 + 4) 10 = nI e ∧ I (0 + 4) 11 = nI (s_p s).length ∧ ∀ k, k < (s_p s).length → q_mc I (41 + (e + 16 - (s_p s).length + k) % 16) ((s_p s).getD k q_m0)) ∧
  (∀ j, j < 4 → match s_m s j with
    | none => I (57 + 2 * j + 4) 1 = 0
    | some (m, ss) => I (57 + 2 * j + 4) 1 = 1 ∧ q_mc I (57 + 2 * j + 1) m ∧ I (57 + 2 * j + 4) 2 = nI ss.length ∧ I (57 + 2 * j + 4) 3 = nI (q_dl (s_h s) ss)) ∧
  (I (0 + 4) 12 = nI (s_s s).length ∧ I (0 + 4) 13 = nI (q_dl (s_h s) (s_s s))) ∧ (I (b + 4) 2 = nI (s_q s).length ∧ ∀ k, k < (s_q s).length → I (b + 1 + 4) k = nI (q_act ((s_q s).getD k (0, 0)).1) ∧ (3 ≤ ((s_q s).getD k (0, 0)).1 → I (b + 2 + 4) k = nI ((s_q s).getD k (0, 0)).2)) ∧
  (I (1 + 4) 2 = nI (s_t s).length ∧ ∀ i, i < (s_t s).length → I (2 + 4) i = nI ((s_t s).getD i 0))
/-- the reference's side -/
def s_md (I : lh_II) (s : lh_St) : Prop := q_md I (s_h s) ∧ q_mm I 0 (s_n s) ∧ (I (65 + 4) 21 = nI (s_p s).length ∧ ∀ k, k < (s_p s).length → q_mm I (32 * (5 + k)) ((s_p s).getD k q_m0)) ∧
  (∀ j, j < 4 → match s_m s j with
    | none => I (79 + 4) j = 0
    | some (m, ss) => I (79 + 4) j = 1 ∧ q_mm I (32 * (1 + j)) m ∧ q_ms I (32 * (1 + j)) ss) ∧
  q_ms I 0 (s_s s) ∧ (I (75 + 4) 0 = nI (s_q s).length ∧ ∀ k, k < (s_q s).length → I (75 + 4) (1 + 2 * k) = nI ((s_q s).getD k (0, 0)).1 ∧ (3 ≤ ((s_q s).getD k (0, 0)).1 → I (75 + 4) (2 + 2 * k) = nI ((s_q s).getD k (0, 0)).2)) ∧
  (I (65 + 4) 2 = nI (s_t s).length ∧ ∀ i, i < (s_t s).length → I (66 + 4) i = nI ((s_t s).getD i 0))
def q_kw : Nat → Int64 := fun w => [3322259, 546713650, 23944548850, 494, 244915, 722533, 52, 70701, 15660, 8029764, 206975479, 20201203, 66667, 595572, 674093, 206220, 17171758, 3417476, 394393, 21243046, 14836, 1476, 498, 4153, 398548, 6194, 278194].getD w 0
def q_mw27 : Nat → Int64 := fun w => [5892639, 1126995080, 57106169500, 569, 375310, 1116443, 57, 108201, 20880, 14184879, 426059389, 36035688, 102797, 919322, 1038048, 316695, 30596128, 6040476, 609378, 37900956, 19741, 1891, 573, 5538, 614923, 8269, 426554].getD w 0
def lh_inv (t a b a2 b2 : Nat) (I : lh_II) (L : lh_LL) : Prop := ((a = 11 ∧ a2 = 23) ∨ (a = 23 ∧ a2 = 11)) ∧ ((b = 35 ∧ b2 = 38) ∨ (b = 38 ∧ b2 = 35)) ∧ (∃ s : lh_St, s_wf t s ∧ s_cl a b I s ∧ s_md I s) ∧ (∀ w, w < 27 → L (3 + 4) w = q_kw w ∧ L (70 + 4) w = q_mw27 w)
/-- the places that matter -/
def q_kp (a b o k : Nat) : Prop := o = 4 ∨ (o = 5 ∧ k = 2) ∨ o = 6 ∨ o = 11 ∨ (45 ≤ o ∧ o ≤ 68) ∨ (a + 4 ≤ o ∧ o ≤ a + 14 ∧ o ≠ a + 7) ∨ (o = b + 4 ∧ k = 2) ∨ o = b + 5 ∨ o = b + 6 ∨ (o = 69 ∧ (k = 2 ∨ k = 21)) ∨ o = 70 ∨ (o = 75 ∧ k < 100) ∨ (o = 76 ∧ k < 1100) ∨ (o = 77 ∧ k < 1100) ∨ (o = 79 ∧ k < 85) ∨ (o = 82 ∧ k < 672) ∨ o = 83
theorem k_0 {a b k : Nat} : q_kp a b (0 + 4) k := Or.inl rfl
theorem k_len {a b : Nat} : q_kp a b (1 + 4) 2 := Or.inr (Or.inl ⟨rfl, rfl⟩)
theorem k_tp {a b k : Nat} : q_kp a b (2 + 4) k := Or.inr (Or.inr (Or.inl rfl))
theorem k_now {a b k : Nat} : q_kp a b (7 + 4) k := Or.inr (Or.inr (Or.inr (Or.inl rfl)))
theorem k_pm {a b o k : Nat} (h : 45 ≤ o ∧ o ≤ 68) : q_kp a b o k := Or.inr (Or.inr (Or.inr (Or.inr (Or.inl h))))
theorem k_ha {a b j k : Nat} (h : j < 11) (h3 : j ≠ 3) : q_kp a b (a + j + 4) k := Or.inr (Or.inr (Or.inr (Or.inr (Or.inr (Or.inl (by omega))))))
theorem k_nl {a b : Nat} : q_kp a b (b + 4) 2 := Or.inr (Or.inr (Or.inr (Or.inr (Or.inr (Or.inr (Or.inl ⟨rfl, rfl⟩))))))
theorem k_n1 {a b k : Nat} : q_kp a b (b + 1 + 4) k := Or.inr (Or.inr (Or.inr (Or.inr (Or.inr (Or.inr (Or.inr (Or.inl rfl)))))))
theorem k_n2 {a b k : Nat} : q_kp a b (b + 2 + 4) k := Or.inr (Or.inr (Or.inr (Or.inr (Or.inr (Or.inr (Or.inr (Or.inr (Or.inl rfl))))))))
theorem k_m2 {a b : Nat} : q_kp a b (65 + 4) 2 := Or.inr (Or.inr (Or.inr (Or.inr (Or.inr (Or.inr (Or.inr (Or.inr (Or.inr (Or.inl ⟨rfl, Or.inl rfl⟩)))))))))
theorem k_m21 {a b : Nat} : q_kp a b (65 + 4) 21 := Or.inr (Or.inr (Or.inr (Or.inr (Or.inr (Or.inr (Or.inr (Or.inr (Or.inr (Or.inl ⟨rfl, Or.inr rfl⟩)))))))))
theorem k_mt {a b k : Nat} : q_kp a b (66 + 4) k := Or.inr (Or.inr (Or.inr (Or.inr (Or.inr (Or.inr (Or.inr (Or.inr (Or.inr (Or.inr (Or.inl rfl))))))))))
theorem k_75 {a b k : Nat} (h : k < 100) : q_kp a b (71 + 4) k := Or.inr (Or.inr (Or.inr (Or.inr (Or.inr (Or.inr (Or.inr (Or.inr (Or.inr (Or.inr (Or.inr (Or.inl ⟨rfl, h⟩)))))))))))
theorem k_76 {a b k : Nat} (h : k < 1100) : q_kp a b (72 + 4) k := Or.inr (Or.inr (Or.inr (Or.inr (Or.inr (Or.inr (Or.inr (Or.inr (Or.inr (Or.inr (Or.inr (Or.inr (Or.inl ⟨rfl, h⟩))))))))))))
theorem k_77 {a b k : Nat} (h : k < 1100) : q_kp a b (73 + 4) k := Or.inr (Or.inr (Or.inr (Or.inr (Or.inr (Or.inr (Or.inr (Or.inr (Or.inr (Or.inr (Or.inr (Or.inr (Or.inr (Or.inl ⟨rfl, h⟩)))))))))))))
theorem k_79 {a b k : Nat} (h : k < 85) : q_kp a b (75 + 4) k := Or.inr (Or.inr (Or.inr (Or.inr (Or.inr (Or.inr (Or.inr (Or.inr (Or.inr (Or.inr (Or.inr (Or.inr (Or.inr (Or.inr (Or.inl ⟨rfl, h⟩))))))))))))))
theorem k_82 {a b k : Nat} (h : k < 672) : q_kp a b (78 + 4) k := Or.inr (Or.inr (Or.inr (Or.inr (Or.inr (Or.inr (Or.inr (Or.inr (Or.inr (Or.inr (Or.inr (Or.inr (Or.inr (Or.inr (Or.inr (Or.inl ⟨rfl, h⟩)))))))))))))))
theorem k_83 {a b k : Nat} : q_kp a b (79 + 4) k := Or.inr (Or.inr (Or.inr (Or.inr (Or.inr (Or.inr (Or.inr (Or.inr (Or.inr (Or.inr (Or.inr (Or.inr (Or.inr (Or.inr (Or.inr (Or.inr rfl)))))))))))))))
def q_fr (a b : Nat) (I I' : lh_II) : Prop := ∀ o k, q_kp a b o k → I' o k = I o k
theorem q_fr.rf {a b : Nat} {I : lh_II} : q_fr a b I I := fun _ _ _ => rfl
theorem q_fr.tr {a b : Nat} {I J K : lh_II} (h1 : q_fr a b I J) (h2 : q_fr a b J K) : q_fr a b I K := fun o k h => (h2 o k h).trans (h1 o k h)
theorem q_u2o {I : lh_II} {o k : Nat} {x : Int32} {o' k' : Nat} (h : ¬ (o' = o ∧ k' = k)) : lh_u2 I o k x o' k' = I o' k' := by
  unfold lh_u2
  split
  · next h1 => rw [if_neg (fun h2 => h ⟨h1, h2⟩)]
  · rfl
theorem q_u2s {I : lh_II} {o k : Nat} {x : Int32} : lh_u2 I o k x o k = x := by unfold lh_u2; rw [if_pos rfl, if_pos rfl]
theorem q_fr.u2 {a b : Nat} {I J : lh_II} {o k : Nat} {x : Int32} (h : q_fr a b I J) (hn : ¬ q_kp a b o k) : q_fr a b I (lh_u2 J o k x) := fun o' k' hk => by
  rw [q_u2o (fun e => hn (by rw [← e.1, ← e.2]; exact hk))]
  exact h o' k' hk
theorem q_mc.keep {I I' : lh_II} {o : Nat} {m : lh_Mt} (h : q_mc I o m) (e : ∀ k, I' (o + 4) k = I (o + 4) k) : q_mc I' o m := by
  unfold q_mc
  simp only [e]
  exact h
theorem q_mm.keep {I I' : lh_II} {b : Nat} {m : lh_Mt} (h : q_mm I b m) (e : ∀ k, k < b + 7 → I' (78 + 4) k = I (78 + 4) k) : q_mm I' b m := by
  unfold q_mm
  rw [e _ (by omega), e _ (by omega), e _ (by omega), e _ (by omega), e _ (by omega), e _ (by omega), e _ (by omega)]
  exact h
theorem q_ms.keep {I I' : lh_II} {b : Nat} {ss : List lh_Sd} (h : q_ms I b ss) (hs : ss.length ≤ 8) (e : ∀ k, k < b + 32 → I' (78 + 4) k = I (78 + 4) k) : q_ms I' b ss := by
  refine ⟨by rw [e _ (by omega)]; exact h.1, fun k hk => ?_⟩
  rw [e _ (by omega), e _ (by omega), e _ (by omega)]
  exact h.2 k hk
theorem s_cl.keep {a b : Nat} {I I' : lh_II} {s : lh_St} (h : s_cl a b I s) (hp : (s_p s).length ≤ 16) (hf : q_fr a b I I') : s_cl a b I' s := by
  obtain ⟨h1, h2, ⟨e, e1, e2, e3, e4⟩, h4, ⟨h5, h6⟩, ⟨h7, h8⟩, h9, h10⟩ := h
  refine ⟨h1.keep (fun j k hj hn => hf _ _ (k_ha hj hn)), h2.keep (fun k => hf _ _ k_now), ⟨e, e1, by rw [hf _ _ k_0]; exact e2, by rw [hf _ _ k_0]; exact e3, fun k hk => (e4 k hk).keep (fun k' => hf _ _ (k_pm (by omega)))⟩, fun j hj => ?_, ⟨by rw [hf _ _ k_0]; exact h5, by rw [hf _ _ k_0]; exact h6⟩, ⟨by rw [hf _ _ k_nl]; exact h7, fun k hk => by rw [hf _ _ k_n1, hf _ _ k_n2]; exact h8 k hk⟩, by rw [hf _ _ k_len]; exact h9, fun i hi => by rw [hf _ _ k_tp]; exact h10 i hi⟩
  have := h4 j hj
  cases hm : s_m s j with
  | none =>
    rw [hm] at this
    simp only at this ⊢
    rw [hf _ _ (k_pm (by omega))]
    exact this
  | some q =>
    obtain ⟨m, ss⟩ := q
    rw [hm] at this
    simp only at this ⊢
    obtain ⟨g1, g2, g3, g4⟩ := this
    exact ⟨by rw [hf _ _ (k_pm (by omega))]; exact g1, g2.keep (fun k => hf _ _ (k_pm (by omega))), by rw [hf _ _ (k_pm (by omega))]; exact g3, by rw [hf _ _ (k_pm (by omega))]; exact g4⟩
theorem s_md.keep {t a b : Nat} {I I' : lh_II} {s : lh_St} (h : s_md I s) (w : s_wf t s) (hf : q_fr a b I I') : s_md I' s := by
  obtain ⟨h1, h2, ⟨e1, e2⟩, h4, h5, ⟨h7, h8⟩, h9, h10⟩ := h
  obtain ⟨w1, w2, ⟨w3, -⟩, w4, w5, ⟨w6, -⟩, w7, -⟩ := w
  refine ⟨h1.keep w1 (fun k hk => hf _ _ (k_75 hk)) (fun k hk => hf _ _ (k_76 hk)) (fun k hk => hf _ _ (k_77 hk)), h2.keep (fun k hk => hf _ _ (k_82 (by omega))), ⟨by rw [hf _ _ k_m21]; exact e1, fun k hk => (e2 k hk).keep (fun k' hk' => hf _ _ (k_82 (by omega)))⟩, fun j hj => ?_, h5.keep w5.1 (fun k hk => hf _ _ (k_82 (by omega))), ⟨by rw [hf _ _ (k_79 (by omega))]; exact h7, fun k hk => by rw [hf _ _ (k_79 (by omega)), hf _ _ (k_79 (by omega))]; exact h8 k hk⟩, by rw [hf _ _ k_m2]; exact h9, fun i hi => by rw [hf _ _ k_mt]; exact h10 i hi⟩
  have := h4 j hj
  cases hm : s_m s j with
  | none =>
    rw [hm] at this
    simp only at this ⊢
    rw [hf _ _ k_83]
    exact this
  | some q =>
    obtain ⟨m, ss⟩ := q
    rw [hm] at this
    simp only at this ⊢
    obtain ⟨g1, g2, g3⟩ := this
    exact ⟨by rw [hf _ _ k_83]; exact g1, g2.keep (fun k hk => hf _ _ (k_82 (by omega))), g3.keep (w4 j m ss hj hm).2.1 (fun k hk => hf _ _ (k_82 (by omega)))⟩
theorem q_mw.le {h : lh_H} {n n' : Nat} {m : lh_Mt} (hw : q_mw h n m) (hn : n ≤ n') : q_mw h n' m := ⟨hw.1, hw.2.1, hw.2.2.1, hw.2.2.2.1, Nat.le_trans hw.2.2.2.2.1 hn, hw.2.2.2.2.2⟩
theorem s_wf.less {t : Nat} {s : lh_St} (w : s_wf (t + 1) s) : s_wf t s := by
  obtain ⟨w1, w2, ⟨w3, w3'⟩, w4, w5, w6, w7, w8⟩ := w
  exact ⟨w1, w2.le (by omega), ⟨w3, fun m hm => (w3' m hm).le (by omega)⟩, fun j m ss hj e => ⟨(w4 j m ss hj e).1.le (by omega), (w4 j m ss hj e).2⟩, w5, w6, w7, by omega⟩
theorem lh_inv.keep {t a b a2 b2 : Nat} {I I' : lh_II} {L L' : lh_LL} (h : lh_inv (t + 1) a b a2 b2 I L) (hf : q_fr a b I I') (hL : ∀ w, w < 27 → L' (3 + 4) w = L (3 + 4) w ∧ L' (70 + 4) w = L (70 + 4) w) : lh_inv t a b a2 b2 I' L' := by
  obtain ⟨h1, h2, ⟨s, w, hc, hm⟩, h4⟩ := h
  exact ⟨h1, h2, ⟨s, w.less, hc.keep w.2.2.1.1 hf, hm.keep w hf⟩, fun k hk => by rw [(hL k hk).1, (hL k hk).2]; exact h4 k hk⟩
