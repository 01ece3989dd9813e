theorem q_ju_st {h : lh_H} (w : q_wf h) {q : List (Nat × Nat)} (hq : ∀ x ∈ q, q_ln x) {k : Nat} (hk : k < q.length) (x : lh_Ju) (h1 : q_mw h k x.1) (h2 : ∀ j, x.2.1 = some j → j < k) (h3 : ∀ j, x.2.2 = some j → j < k) : q_mw h (k + 1) (q_ju h q k x).1 ∧ (∀ j, (q_ju h q k x).2.1 = some j → j < k + 1) ∧ ∀ j, (q_ju h q k x).2.2 = some j → j < k + 1 := by
  obtain ⟨l1, l2, l3⟩ := hq _ (q_gQ (d := (0, 0)) hk)
  obtain ⟨x, zff, zfb⟩ := x
  have hm : ∀ (o : Option Nat) (j : Nat), (∀ j, o = some j → j < k) → q_o1 o k = some j → j < k + 1 := by
    intro o j ho e
    cases o with
    | none => cases e; omega
    | some i => cases e; have := ho _ rfl; omega
  unfold q_ju
  by_cases e4 : (q.getD k (0, 0)).1 = 4
  · rw [if_pos e4]
    exact ⟨(q_flm_mw h1).le (by omega), fun j e => by have := h2 j e; omega, fun j e => by have := h3 j e; omega⟩
  · rw [if_neg e4]
    by_cases e3 : (q.getD k (0, 0)).1 = 3
    · rw [if_pos e3]
      by_cases e5 : 2 ≤ u_o x
      · rw [if_pos e5]
        exact ⟨(q_trm_mw h1 (l2 e3)).le (by omega), fun j e => by have := h2 j e; omega, fun j e => by have := h3 j e; omega⟩
      · rw [if_neg e5]
        exact ⟨h1.le (by omega), fun j e => hm _ j h2 e, fun j e => by have := h3 j e; omega⟩
    · rw [if_neg e3]
      refine ⟨q_wk_mw w h1 (q_wy_way _), fun j e => by have := h2 j e; omega, fun j e => ?_⟩
      have e' : (if q_bu h x (q_wy (q.getD k (0, 0)).1) = 0 then zfb else q_o1 zfb k) = some j := e
      by_cases e6 : q_bu h x (q_wy (q.getD k (0, 0)).1) = 0
      · rw [if_pos e6] at e'
        have := h3 j e'
        omega
      · rw [if_neg e6] at e'
        exact hm _ j h3 e'
theorem q_ju_ok {h : lh_H} (w : q_wf h) {q : List (Nat × Nat)} (hq : ∀ x ∈ q, q_ln x) : ∀ k, k ≤ q.length → q_mw h k (q_it (q_ju h q) 0 k (q_bg h, none, none)).1 ∧ (∀ j, (q_it (q_ju h q) 0 k (q_bg h, none, none)).2.1 = some j → j < k) ∧ ∀ j, (q_it (q_ju h q) 0 k (q_bg h, none, none)).2.2 = some j → j < k
  | 0, _ => ⟨q_bg_mw w 0, fun j e => (by cases e), fun j e => (by cases e)⟩
  | k + 1, hk => by
    obtain ⟨h1, h2, h3⟩ := q_ju_ok w hq k (by omega)
    rw [q_it_succ, Nat.zero_add]
    exact q_ju_st w hq (by omega) _ h1 h2 h3
theorem q_act_eq : ∀ x, x ≤ 4 → (nI (q_act x) = 15) = (x = 4) ∧ (nI (q_act x) = 14) = (x = 3) ∧ (nI (q_act x) = 3) = (x = 0) ∧ (nI (q_act x) = 12) = (x = 1) := by decide +kernel
