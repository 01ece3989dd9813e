abbrev lh_Ju : Type := lh_Mt × Option Nat × Option Nat
def q_wy (x : Nat) : Int32 := if x = 0 then 1 else if x = 1 then -1 else 0
theorem q_wy_way (x : Nat) : q_way (q_wy x) := by
  unfold q_wy q_way
  split
  · exact Or.inr (Or.inr rfl)
  · split
    · exact Or.inl rfl
    · exact Or.inr (Or.inl rfl)
def q_o1 (o : Option Nat) (k : Nat) : Option Nat := match o with
  | none => some k
  | some j => some j
def q_ju (h : lh_H) (q : List (Nat × Nat)) (k : Nat) (x : lh_Ju) : lh_Ju :=
  if (q.getD k (0, 0)).1 = 4 then (q_flm x.1 (q.getD k (0, 0)).2, x.2.1, x.2.2)
  else if (q.getD k (0, 0)).1 = 3 then (if 2 ≤ u_o x.1 then (q_trm x.1 (q.getD k (0, 0)).2, x.2.1, x.2.2) else (x.1, q_o1 x.2.1 k, x.2.2))
  else (q_wk h x.1 (q_wy (q.getD k (0, 0)).1), x.2.1, if q_bu h x.1 (q_wy (q.getD k (0, 0)).1) = 0 then x.2.2 else q_o1 x.2.2 k)
theorem q_gQ {l : List (Nat × Nat)} {d : Nat × Nat} {k : Nat} (hk : k < l.length) : l.getD k d ∈ l := by
  rw [List.getD_eq_getElem?_getD, List.getElem?_eq_getElem hk]
  exact List.getElem_mem hk
