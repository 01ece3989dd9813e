/-! judged, nights -/
def q_bg (h : lh_H) : lh_Mt := (q_G h, 0, 0, q_O h, 0, 0, 0)
theorem q_bg_mw {h : lh_H} (w : q_wf h) (n : Nat) : q_mw h n (q_bg h) := ⟨w.G, by show 0 < 8; omega, by show 0 < 4; omega, w.O, Nat.zero_le _, Nat.two_pow_pos _⟩
theorem e_begin {a o : Nat} {I : lh_II} {h : lh_H} (c : q_cl a I h) (ho : o ≠ a) : ∃ I', f_Mo_begin o a I = some I' ∧ q_mc I' o (q_bg h) ∧ ∀ o' k, ¬ (o' = o + 4 ∧ k < 7) → I' o' k = I o' k := by
  refine ⟨lh_u2 (lh_u2 (lh_u2 (lh_u2 (lh_u2 (lh_u2 (lh_u2 I (o + 4) 0 (nI (q_G h))) (o + 4) 1 0) (o + 4) 2 0) (o + 4) 3 (nI (q_O h))) (o + 4) 4 0) (o + 4) 5 0) (o + 4) 6 0, ?_, ?_, fun o' k h1 => ?_⟩
  · simp (disch := omega) only [f_Mo_begin, q_u2o, c.G, c.O]
  · refine ⟨?_, ?_, ?_, ?_, ?_, ?_, ?_⟩ <;> simp (disch := omega) only [q_u2o, q_u2s] <;> rfl
  · rw [q_u2o (by omega), q_u2o (by omega), q_u2o (by omega), q_u2o (by omega), q_u2o (by omega), q_u2o (by omega), q_u2o (by omega)]
