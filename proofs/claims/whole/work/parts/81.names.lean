/-! names told: both sides -/
def nm_w (ns : List (List Nat)) : Prop := ∀ w ∈ ns, (∀ c ∈ w, tk_let c = true) ∧ w.length ≤ 8
def nm_c (q : Nat) (ns : List (List Nat)) (I : lh_II) (L : lh_LL) : Prop := I (q + 4) 3 = nI ns.length ∧ ∀ i, i < ns.length → L (q + 1 + 4) i = lN (tk_cd 32 (ns.getD i []))
def nm_m (ns : List (List Nat)) (J : lh_II) (M : lh_LL) : Prop := J (65 + 4) 15 = nI ns.length ∧ ∀ i, i < ns.length → M (74 + 4) i = lN (tk_cd 37 (ns.getD i []))
theorem nm_eq {B : Nat} (hB : 27 ≤ B) (hB2 : B ≤ 37) {u v : List Nat} (hu : (∀ c ∈ u, tk_let c = true) ∧ u.length ≤ 8) (hv : (∀ c ∈ v, tk_let c = true) ∧ v.length ≤ 8) : (lg_cmp (lN (tk_cd B u)) (lN (tk_cd B v)) = 0) = (u = v) := by
  have h1 : tk_cd B u < B ^ 8 := tk_cd_lt hB 8 _ hu.2 hu.1
  have h2 : tk_cd B v < B ^ 8 := tk_cd_lt hB 8 _ hv.2 hv.1
  have h3 : B ^ 8 ≤ 37 ^ 8 := Nat.pow_le_pow_left hB2 8
  refine propext ((lg_cmp_eq _ _).trans ((fb_lN_inj (by omega) (by omega)).trans ⟨fun e => ?_, fun e => by rw [e]⟩))
  exact tk_cd_inj hB _ _ _ (Nat.le_refl _) hu.1 hv.1 e
def nm_p (ns : List (List Nat)) (w : List Nat) : Nat → Bool := fun i => decide (ns.getD i [] = w)
theorem e_nm17 {a q n : Nat} {t : List Nat} {I : lh_II} {L : lh_LL} {ns : List (List Nat)} (hc : r_c t n I L) (hC : tk_C t n ≤ 27) (hn : nm_c q ns I L) (hw : nm_w ns) (h10 : ns.length ≤ 10) : f_Hr_readName_17 a q I L lh_fuel 0 = some (if (q_fst (nm_p ns (tk_W t n)) 0 ns.length).isSome = true then 0 else 1) := by
  obtain ⟨c1, c2, c3⟩ := tk_C_w hC
  have hL : L (1 + 4) 7 = lN (tk_cd 32 (tk_W t n)) := hc.2.2.2.2.2.1 hC
  have key := q_forF (F := fun f k => f_Hr_readName_17 a q I L f (nI k)) (N := ns.length) (p := nm_p ns (tk_W t n)) (fnd := fun _ => 0) (nf := 1) (fun m k hk => by
    show f_Hr_readName_17 a q I L (m + 1) (nI k) = if _ then _ else f_Hr_readName_17 a q I L m (nI (k + 1))
    have hg : ns.getD k [] ∈ ns := by
      rw [List.getD_eq_getElem?_getD, List.getElem?_eq_getElem hk]
      exact List.getElem_mem hk
    have ec := nm_eq (B := 32) (by decide) (by decide) (hw _ hg) ⟨c2, c3⟩
    rw [f_Hr_readName_17, hn.1, z_cl (by omega), hn.2 k hk, hL]
    unfold nm_p
    by_cases h : ns.getD k [] = tk_W t n
    · simp (disch := omega) only [z_le, z_leL, z_ix, lh_cmp0, show ¬ ns.length ≤ k by omega, show ¬ 10 ≤ k by omega, h, decide_true, z_bs, z_gd, z_b1, z_b0, z_10, z_01, eq_self, reduceCtorEq, ↓reduceIte, if_true, if_false, Nat.not_lt_zero, not_true_eq_false, not_false_eq_true, Bool.false_eq_true, Nat.le_refl, Nat.lt_irrefl]
    · simp (disch := omega) only [z_le, z_leL, z_ix, z_addL, ec, show ¬ ns.length ≤ k by omega, show ¬ 10 ≤ k by omega, h, decide_false, z_bs, z_gd, z_b1, z_b0, z_10, z_01, eq_self, reduceCtorEq, ↓reduceIte, if_true, if_false, Nat.not_lt_zero, not_true_eq_false, not_false_eq_true, Bool.false_eq_true, Nat.le_refl, Nat.lt_irrefl]) (fun m => by
    show f_Hr_readName_17 a q I L (m + 1) (nI ns.length) = _
    rw [f_Hr_readName_17, hn.1]
    simp (disch := omega) only [z_le, z_bs, z_gd, z_b1, z_b0, z_10, z_01, eq_self, reduceCtorEq, ↓reduceIte, if_true, if_false, Nat.not_lt_zero, not_true_eq_false, not_false_eq_true, Bool.false_eq_true, Nat.le_refl, Nat.lt_irrefl]) ns.length lh_fuel 0 (by omega) (by unfold lh_fuel; omega)
  have key' : f_Hr_readName_17 a q I L lh_fuel 0 = _ := key
  rw [key']
  cases q_fst (nm_p ns (tk_W t n)) 0 ns.length with
  | none => rfl
  | some j => rfl
theorem m_told4 {t : List Nat} {N n : Nat} {J : lh_II} {M : lh_LL} {ns : List (List Nat)} (h : r_m t N n J M) (hC : tk_C t n ≤ 27) (hn : nm_m ns J M) (hw : nm_w ns) (h10 : ns.length ≤ 10) : ∀ (d f k : Nat) (b : Bool), k + d = ns.length → d < f → f_LM_isTold_4 J M f (q_b01 b) (nI k) = some (q_b01 (b || (q_fst (nm_p ns (tk_W t n)) k d).isSome)) := by
  obtain ⟨c1, c2, c3⟩ := tk_C_w hC
  have hN : N ≤ 1000 := h.1
  have hnN : n ≤ N := h.2.1
  have h7 : J (65 + 4) 7 = nI n := h.2.2.2.2.2.1
  have hL : M (69 + 4) n = lN (tk_cd 37 (tk_W t n)) := (h.2.2.2.1 n hnN).2.2.1 hC
  intro d
  induction d with
  | zero =>
    intro f k b hk hf
    obtain ⟨g, rfl⟩ : ∃ g, f = g + 1 := ⟨f - 1, by omega⟩
    rw [f_LM_isTold_4, hn.1]
    simp (disch := omega) only [z_le, show ns.length ≤ k by omega, z_bs, z_gd, z_b1, z_b0, z_10, z_01, eq_self, reduceCtorEq, ↓reduceIte, if_true, if_false, Nat.not_lt_zero, not_true_eq_false, not_false_eq_true, Bool.false_eq_true, Nat.le_refl, Nat.lt_irrefl]
    unfold q_fst
    simp
  | succ d ih =>
    intro f k b hk hf
    obtain ⟨g, rfl⟩ : ∃ g, f = g + 1 := ⟨f - 1, by omega⟩
    have hk' : k < ns.length := by omega
    have hg : ns.getD k [] ∈ ns := by
      rw [List.getD_eq_getElem?_getD, List.getElem?_eq_getElem hk']
      exact List.getElem_mem hk'
    have ec := nm_eq (B := 37) (by decide) (by decide) (hw _ hg) ⟨c2, c3⟩
    have i1 : f_LM_isTold_4 J M g 1 (nI (k + 1)) = _ := ih g (k + 1) true (by omega) (by omega)
    have i0 : f_LM_isTold_4 J M g 0 (nI (k + 1)) = _ := ih g (k + 1) false (by omega) (by omega)
    rw [f_LM_isTold_4, hn.1, h7, z_cl (by omega), z_cl (by omega), hn.2 k hk', hL]
    unfold q_fst
    cases b with
    | true =>
      simp (disch := omega) only [z_le, z_addL, show ¬ ns.length ≤ k by omega, i1, Bool.true_or, z_bs, z_gd, z_b1, z_b0, z_10, z_01, eq_self, reduceCtorEq, ↓reduceIte, if_true, if_false, Nat.not_lt_zero, not_true_eq_false, not_false_eq_true, Bool.false_eq_true, Nat.le_refl, Nat.lt_irrefl]
    | false =>
      by_cases hq : ns.getD k [] = tk_W t n
      · have hp : nm_p ns (tk_W t n) k = true := decide_eq_true hq
        simp (disch := omega) only [z_le, z_ix, z_addL, show ¬ ns.length ≤ k by omega, hq, lh_cmp0, i1, hp, Option.isSome_some, Bool.true_or, Bool.or_true, z_bs, z_gd, z_b1, z_b0, z_10, z_01, eq_self, reduceCtorEq, ↓reduceIte, if_true, if_false, Nat.not_lt_zero, not_true_eq_false, not_false_eq_true, Bool.false_eq_true, Nat.le_refl, Nat.lt_irrefl]
      · have hp : nm_p ns (tk_W t n) k = false := decide_eq_false hq
        simp (disch := omega) only [z_le, z_ix, z_addL, show ¬ ns.length ≤ k by omega, ec, hq, i0, hp, Bool.false_or, z_bs, z_gd, z_b1, z_b0, z_10, z_01, eq_self, reduceCtorEq, ↓reduceIte, if_true, if_false, Nat.not_lt_zero, not_true_eq_false, not_false_eq_true, Bool.false_eq_true, Nat.le_refl, Nat.lt_irrefl]
theorem m_told {t : List Nat} {N n : Nat} {J : lh_II} {M : lh_LL} {ns : List (List Nat)} (h : r_m t N n J M) (hC : tk_C t n ≤ 27) (hn : nm_m ns J M) (hw : nm_w ns) (h10 : ns.length ≤ 10) : f_LM_isTold J M = some (q_b01 (q_fst (nm_p ns (tk_W t n)) 0 ns.length).isSome) := by
  unfold f_LM_isTold
  have e : f_LM_isTold_4 J M lh_fuel 0 0 = _ := m_told4 h hC hn hw h10 ns.length lh_fuel 0 false (by omega) (by unfold lh_fuel; omega)
  rw [e, z_bs, z_lz, z_gd, Bool.false_or]
