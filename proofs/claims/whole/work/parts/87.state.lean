/-! the hall while it is read -/
def o_b (j : Nat) : Nat := [0, 7, 8, 9, 10, 11].getD j 0
def hs_c (a q : Nat) (R : lh_Rw) (ns : List (List Nat)) (O : Nat → Bool) (I : lh_II) (L : lh_LL) : Prop := r_cls a I R ∧ nm_c q ns I L ∧ ∃ x, x < 4096 ∧ I (q + 4) 4 = nI x ∧ ∀ j, j < 6 → x.testBit (o_b j) = O j
def hs_m (R : lh_Rw) (ns : List (List Nat)) (O : Nat → Bool) (J : lh_II) (M : lh_LL) : Prop := r_mdl 100 J R ∧ nm_m ns J M ∧ (∃ x, x < 64 ∧ J (65 + 4) 16 = nI x ∧ ∀ j, j < 6 → x.testBit j = O j) ∧ ((O 5 = false ∧ J (65 + 4) 13 = 0 ∧ J (71 + 4) 108 = -1 ∧ R.2.2 = [(2, 0)]) ∨ (O 5 = true ∧ J (71 + 4) 108 = 0 ∧ J (65 + 4) 13 = nI (R.2.2.length + 1) ∧ (∀ i, i < R.2.2.length → J (72 + 4) (1100 + i) = nI (R.2.2.getD i (0, 0)).1 ∧ J (73 + 4) (1100 + i) = nI (R.2.2.getD i (0, 0)).2) ∧ J (72 + 4) (1100 + R.2.2.length) = 0))
def hs_w (R : lh_Rw) (ns : List (List Nat)) : Prop := r_wf R ∧ nm_w ns ∧ ns.length = R.1 1 + R.1 2
def h_cf (a q : Nat) (I I' : lh_II) : Prop := ∀ o k, ¬ (o = 5 ∧ 3 ≤ k ∧ k ≤ 8) → ¬ (a + 4 ≤ o ∧ o ≤ a + 14) → o ≠ q + 4 → I' o k = I o k
def h_lf (q : Nat) (L L' : lh_LL) : Prop := ∀ o k, ¬ (o = 5 ∧ k = 7) → o ≠ q + 5 → L' o k = L o k
def h_mf (J J' : lh_II) : Prop := ∀ o k, ¬ (o = 69 ∧ (k = 7 ∨ k = 8 ∨ k = 13 ∨ k = 15 ∨ k = 16)) → ¬ (o = 75 ∧ 100 ≤ k) → ¬ (o = 76 ∧ 1100 ≤ k) → ¬ (o = 77 ∧ 1100 ≤ k) → J' o k = J o k
def h_nf (M M' : lh_LL) : Prop := ∀ o k, o ≠ 78 → M' o k = M o k
