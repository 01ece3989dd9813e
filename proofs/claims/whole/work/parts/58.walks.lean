/-! one step on, all ways at once -/
abbrev lh_Rs : Type := Nat → Nat → Bool
def q_op (h : lh_H) (m : lh_Mt) (c : Nat) : Bool := decide (c < q_C h) && (!(q_P h).testBit c && (decide (u_o m = 0) || !q_sb h (q_sd h (u_d m) (u_o m) 1 (u_h m)) (u_h m) c))
def q_r1 (h : lh_H) (m : lh_Mt) (R : lh_Rs) (c k : Nat) : Bool := R c k || (q_op h m c && ((decide (0 < c) && R (c - 1) k) || (decide (c + 1 < 12) && R (c + 1) k)))
def q_nm (m : lh_Mt) : lh_Mt := (u_c m, (u_h m + 1) % 8, u_d m, u_o m - 1, u_s m, u_b m, u_z m)
def q_r2 (h : lh_H) (m : lh_Mt) (R : lh_Rs) (c k : Nat) : Bool := q_any (fun i => q_r1 h m R c i && decide (i ||| q_sm h (q_cm (q_nm m) c) (q_P h) = k)) 64
abbrev lh_Go : Type := lh_Rs × lh_Mt
def q_go (h : lh_H) (_ : Nat) (x : lh_Go) : lh_Go := (q_r2 h x.2 x.1, q_nm x.2)
def q_rok (h : lh_H) (R : lh_Rs) : Prop := ∀ c k, q_C h ≤ c → R c k = false
theorem q_nm_mw {h : lh_H} {n : Nat} {m : lh_Mt} (hw : q_mw h n m) : q_mw h n (q_nm m) := ⟨hw.1, Nat.mod_lt _ (by decide), hw.2.2.1, by have := hw.2.2.2.1; show u_o m - 1 ≤ 99; omega, hw.2.2.2.2.1, hw.2.2.2.2.2⟩
theorem q_r1_ok {h : lh_H} {m : lh_Mt} {R : lh_Rs} (hR : q_rok h R) : q_rok h (q_r1 h m R) := fun c k hc => by
  unfold q_r1 q_op
  rw [hR c k hc]
  simp [show ¬ c < q_C h by omega]
theorem q_r2_ok {h : lh_H} {m : lh_Mt} {R : lh_Rs} (hR : q_rok h R) : q_rok h (q_r2 h m R) := fun c k hc => by
  unfold q_r2
  rw [← Bool.not_eq_true, q_any_iff]
  rintro ⟨i, _, h2⟩
  rw [q_r1_ok hR c i hc] at h2
  cases h2
theorem q_go_ok {h : lh_H} {n : Nat} {R : lh_Rs} {m : lh_Mt} (hR : q_rok h R) (hm : q_mw h n m) : ∀ j, q_rok h (q_it (q_go h) 0 j (R, m)).1 ∧ q_mw h n (q_it (q_go h) 0 j (R, m)).2
  | 0 => ⟨hR, hm⟩
  | j + 1 => by
    obtain ⟨h1, h2⟩ := q_go_ok hR hm j
    rw [q_it_succ, Nat.zero_add]
    exact ⟨q_r2_ok h1, q_nm_mw h2⟩
section Q58
variable {a : Nat} {I J : lh_II} {L : lh_LL} {h : lh_H}
theorem q_bn_0 (d u y : Nat) : q_bn h d u y = 0 ↔ q_sb h d u y = false := by
  unfold q_bn
  rw [q_sb_def, ← Bool.not_eq_true, q_any_iff]
  constructor
  · rintro h0 ⟨v, hv, hs⟩
    have := fb_sm_zero h0 v hv
    unfold q_sbv at hs
    simp only [Bool.and_eq_true, decide_eq_true_eq] at hs
    unfold q_bv at this
    rw [if_pos hs] at this
    split at this <;> omega
  · intro hn
    have : fb_sm (q_bv h d u y) (q_N h) = fb_sm (fun _ => 0) (q_N h) := fb_sm_cong (fun v hv => by
      unfold q_bv
      rw [if_neg]
      rintro ⟨h1, h2⟩
      exact hn ⟨v, hv, by unfold q_sbv; simp [h1, h2]⟩)
    rw [this, fb_sm_const]; rfl
/-- whither from c with x -/
def q_con (h : lh_H) (m : lh_Mt) (c c' : Nat) (x : Int32) : Bool := decide (q_bu h (q_cm m c) x = 0) && decide (q_nc h (q_cm m c) x = c')
def q_co3 (h : lh_H) (m : lh_Mt) (c c' : Nat) : Bool := (q_con h m c c' (-1) || q_con h m c c' 0) || q_con h m c c' 1
theorem q_con_0 (m : lh_Mt) {c c' : Nat} (w : q_wf h) (hc : c < q_C h) : q_con h m c c' 0 = decide (c = c') := by
  unfold q_con
  have e1 : q_bu h (q_cm m c) 0 = 0 := by unfold q_bu; rw [if_pos rfl]
  have e2 : q_nc h (q_cm m c) 0 = c := by
    unfold q_nc
    cases e : q_ent h (u_c (q_cm m c)) 0 with
    | none => rfl
    | some y =>
      have := (q_ent_some w (Or.inr (Or.inl rfl)) hc e).2.2.1 rfl
      simp only [e1, if_true]
      exact this
  rw [e1, e2]; simp
theorem q_con_x (m : lh_Mt) {c c' : Nat} {x : Int32} (w : q_wf h) (hx : q_way x) (hx0 : x ≠ 0) (hc : c < q_C h) : (q_con h m c c' x = true → c = c' ∨ (q_op h m c' = true ∧ q_tg h c x = some c')) ∧ (q_op h m c' = true → q_tg h c x = some c' → q_con h m c c' x = true) := by
  have hcu : u_c (q_cm m c) = c := rfl
  constructor
  · intro hcon
    unfold q_con at hcon
    simp only [Bool.and_eq_true, decide_eq_true_eq] at hcon
    obtain ⟨h1, h2⟩ := hcon
    unfold q_nc at h2
    rw [hcu] at h2
    cases e : q_ent h c x with
    | none => rw [e] at h2; exact Or.inl h2
    | some y =>
      rw [e] at h2
      simp only [h1, if_true] at h2
      subst h2
      obtain ⟨-, g2, -, -, g5⟩ := q_ent_some w hx hc e
      refine Or.inr ⟨?_, ?_⟩
      · unfold q_op
        simp only [g2, decide_true, g5, Bool.not_false, Bool.true_and, Bool.or_eq_true, decide_eq_true_eq, Bool.not_eq_true']
        unfold q_bu at h1
        rw [if_neg hx0, hcu, e] at h1
        by_cases ho : u_o m = 0
        · exact Or.inl ho
        · rw [if_neg (show ¬ u_o (q_cm m c) = 0 from ho)] at h1
          exact Or.inr ((q_bn_0 _ _ _).mp h1)
      · unfold q_ent at e
        cases et : q_tg h c x with
        | none => rw [et] at e; cases e
        | some z =>
          rw [et] at e
          simp only at e
          split at e
          · cases e
          · exact e
  · intro hop ht
    unfold q_op at hop
    simp only [Bool.and_eq_true, Bool.not_eq_true', Bool.or_eq_true, decide_eq_true_eq] at hop
    have e : q_ent h c x = some c' := by
      unfold q_ent
      rw [ht]
      simp only
      rw [if_neg (by rw [hop.2.1]; decide)]
    have hb : q_bu h (q_cm m c) x = 0 := by
      unfold q_bu
      rw [if_neg hx0, hcu, e]
      by_cases ho : u_o (q_cm m c) = 0
      · rw [if_pos ho]
      · rw [if_neg ho]
        rcases hop.2.2 with h1 | h1
        · exact absurd h1 ho
        · exact (q_bn_0 _ _ _).mpr h1
    unfold q_con
    rw [hb]
    unfold q_nc
    rw [hcu, e]
    simp only [hb, if_true, decide_true, Bool.and_self]
theorem q_co3_r1 (w : q_wf h) {m : lh_Mt} {R : lh_Rs} (hR : q_rok h R) {c' k : Nat} (hc : c' < 12) : q_any (fun c => q_co3 h m c c' && R c k) (q_C h) = q_r1 h m R c' k := by
  have hC := w.C
  rw [Bool.eq_iff_iff, q_any_iff]
  unfold q_r1
  simp only [Bool.or_eq_true, Bool.and_eq_true, decide_eq_true_eq]
  constructor
  · rintro ⟨c, hcC, h1, h2⟩
    unfold q_co3 at h1
    simp only [Bool.or_eq_true] at h1
    rcases h1 with (h1 | h1) | h1
    · rcases (q_con_x m w (Or.inl rfl) (by decide) hcC).1 h1 with h3 | ⟨h3, h4⟩
      · subst h3; exact Or.inl h2
      · unfold q_tg at h4
        rw [if_neg (by decide), if_neg (by decide)] at h4
        split at h4
        · cases h4
          refine Or.inr ⟨h3, Or.inr ⟨by omega, ?_⟩⟩
          rw [show c - 1 + 1 = c by omega]; exact h2
        · cases h4
    · rw [q_con_0 m w hcC] at h1
      simp only [decide_eq_true_eq] at h1
      subst h1; exact Or.inl h2
    · rcases (q_con_x m w (Or.inr (Or.inr rfl)) (by decide) hcC).1 h1 with h3 | ⟨h3, h4⟩
      · subst h3; exact Or.inl h2
      · unfold q_tg at h4
        rw [if_neg (by decide), if_pos rfl] at h4
        split at h4
        · cases h4
          exact Or.inr ⟨h3, Or.inl ⟨by omega, by rw [Nat.add_sub_cancel]; exact h2⟩⟩
        · cases h4
  · have hlt : ∀ c, R c k = true → c < q_C h := fun c h1 => by
      apply Classical.byContradiction
      intro h2
      rw [hR c k (by omega)] at h1
      cases h1
    rintro (h1 | ⟨h1, h2 | h2⟩)
    · have := hlt _ h1
      refine ⟨c', this, ?_, h1⟩
      unfold q_co3
      rw [q_con_0 m w this]; simp
    · have := hlt _ h2.2
      refine ⟨c' - 1, this, ?_, h2.2⟩
      have hcc : c' < q_C h := by
        unfold q_op at h1
        simp only [Bool.and_eq_true, decide_eq_true_eq] at h1
        exact h1.1
      have := (q_con_x (c' := c') m w (Or.inr (Or.inr rfl)) (by decide) this).2 h1 (by
        unfold q_tg
        rw [if_neg (by decide), if_pos rfl, if_pos (by omega), show c' - 1 + 1 = c' by omega])
      unfold q_co3
      rw [this]; simp
    · have := hlt _ h2.2
      refine ⟨c' + 1, this, ?_, h2.2⟩
      have := (q_con_x (c' := c') m w (Or.inl rfl) (by decide) this).2 h1 (by
        unfold q_tg
        rw [if_neg (by decide), if_neg (by decide), if_pos (by omega), Nat.add_sub_cancel])
      unfold q_co3
      rw [this]; simp
def q_ff (J J' : lh_II) : Prop := ∀ o k, o ≠ 80 → o ≠ 81 → ¬ (o = 82 ∧ 672 ≤ k) → J' o k = J o k
theorem q_ff.rf {J : lh_II} : q_ff J J := fun _ _ _ _ _ => rfl
theorem q_ff.tr {J K M : lh_II} (h1 : q_ff J K) (h2 : q_ff K M) : q_ff J M := fun o k a b c => (h2 o k a b c).trans (h1 o k a b c)
theorem q_md.ff {J J' : lh_II} {h : lh_H} (m : q_md J h) (w : q_wf h) (f : q_ff J J') : q_md J' h := m.keep w (fun k _ => f _ _ (by omega) (by omega) (by omega)) (fun k _ => f _ _ (by omega) (by omega) (by omega)) (fun k _ => f _ _ (by omega) (by omega) (by omega))
theorem q_cm_put {J : lh_II} {u : lh_Mt} {c c' : Nat} (hm : q_mm J 672 (q_cm u c)) : q_mm (lh_u2 J (78 + 4) 677 (nI c')) 672 (q_cm u c') := by
  obtain ⟨m1, m2, m3, m4, m5, m6, m7⟩ := hm
  refine ⟨?_, ?_, ?_, ?_, ?_, q_u2s, ?_⟩ <;> (rw [q_u2o (by omega)]; assumption)
theorem m_way (m : q_md J h) (w : q_wf h) {n : Nat} {u : lh_Mt} {c0 c1 : Nat} {x : Int32} (hw : q_mw h n u) (hc : c0 < q_C h) (hm : q_mm J 672 (q_cm u c1)) (hx : q_way x) (h2 : ¬ (2 : Int32) ≤ x) (hz : ¬ L (80 + 4) c0 = 0) (f : Nat) :
    ∃ J', f_LM_goesOn_22 (nI c0) (f + 1) x J L = f_LM_goesOn_22 (nI c0) f (x + 1) J' (if q_bu h (q_cm u c0) x = 0 then lh_v2 L (80 + 4) (12 + q_nc h (q_cm u c0) x) (L (80 + 4) (12 + q_nc h (q_cm u c0) x) ||| L (80 + 4) c0) else L) ∧ q_mm J' 672 (q_cm u c0) ∧ q_ff J J' := by
  have hC := w.C
  have hf0 : q_ff J (lh_u2 J (78 + 4) 677 (nI c0)) := fun o k h1 h2 h3 => q_u2o (by omega)
  have m0 : q_md (lh_u2 J (78 + 4) 677 (nI c0)) h := m.ff w hf0
  have hmm := q_cm_put (c' := c0) hm
  obtain ⟨J1, g1, g2⟩ := m_bumpsBy m0 w (b0 := 672) (by omega) hmm (q_cm_mw hw hc) hx
  have g1' : f_LM_bumpsBy 672 x (lh_u2 J (78 + 4) 677 (nI c0)) = _ := g1
  have hf1 : q_ff J J1 := hf0.tr (fun o k h1 h2 _ => g2 o k h1 h2)
  have hm1 : q_mm J1 672 (q_cm u c0) := hmm.keep (fun k _ => g2 _ _ (by omega) (by omega))
  have hbu := q_bu_le w (q_cm u c0) x
  have hcmp : (lg_cmp (L (80 + 4) c0) (0 : Int64) = 0) = False := by rw [show (lg_cmp (L (80 + 4) c0) (0 : Int64) = 0) = (L (80 + 4) c0 = 0) from propext (lg_cmp_eq _ _)]; simp [hz]
  by_cases hb : q_bu h (q_cm u c0) x = 0
  · obtain ⟨J2, g3, g4⟩ := m_cellBy (m.ff w hf1) w (b0 := 672) (by omega) hm1 (q_cm_mw hw hc) hx
    have g3' : f_LM_cellBy 672 x J1 = _ := g3
    have hnc := q_nc_lt w (q_cm_mw hw hc) hx
    refine ⟨J2, ?_, hm1.keep (fun k _ => g4 _ _ (by omega) (by omega)), hf1.tr (fun o k h1 h2 _ => g4 o k h1 h2)⟩
    rw [f_LM_goesOn_22, if_neg h2]
    simp (disch := omega) only [hcmp, g1', g3', hb, z_ix, z_cl, z_gd, z_addR, z_eqR, z_bs, z_gd, z_b1, z_b0, z_10, z_01, eq_self, reduceCtorEq, ↓reduceIte, if_true, if_false, Nat.not_lt_zero, not_true_eq_false, not_false_eq_true, Bool.false_eq_true, Nat.le_refl, Nat.lt_irrefl]
  · refine ⟨J1, ?_, hm1, hf1⟩
    rw [f_LM_goesOn_22, if_neg h2]
    simp (disch := omega) only [hcmp, g1', hb, z_ix, z_cl, z_gd, z_eqR, z_bs, z_gd, z_b1, z_b0, z_10, z_01, eq_self, reduceCtorEq, ↓reduceIte, if_true, if_false, Nat.not_lt_zero, not_true_eq_false, not_false_eq_true, Bool.false_eq_true, Nat.le_refl, Nat.lt_irrefl]
theorem q_put_bit {L : lh_LL} {c0 t c' k : Nat} (b : Prop) [Decidable b] : bl ((if b then lh_v2 L (80 + 4) (12 + t) (L (80 + 4) (12 + t) ||| L (80 + 4) c0) else L) (80 + 4) (12 + c')) k = (bl (L (80 + 4) (12 + c')) k || ((decide b && decide (t = c')) && bl (L (80 + 4) c0) k)) := by
  by_cases hb : b
  · rw [if_pos hb]
    by_cases e : t = c'
    · subst e; rw [q_v2s, bl_or]; simp [hb]
    · rw [q_v2o (by omega)]; simp [e]
  · rw [if_neg hb]; simp [hb]
theorem q_put_o {L : lh_LL} {c0 t : Nat} (ht : t < 12) (b : Prop) [Decidable b] {o i : Nat} (hne : ¬ (o = 84 ∧ 12 ≤ i ∧ i < 24)) : (if b then lh_v2 L (80 + 4) (12 + t) (L (80 + 4) (12 + t) ||| L (80 + 4) c0) else L) o i = L o i := by
  split
  · exact q_v2o (by omega)
  · rfl
theorem m_go22 (m : q_md J h) (w : q_wf h) {n : Nat} {u : lh_Mt} {c0 c1 : Nat} (hw : q_mw h n u) (hc : c0 < q_C h) (hm : q_mm J 672 (q_cm u c1)) :
    ∃ J' L', f_LM_goesOn_22 (nI c0) lh_fuel (-1) J L = some (J', L') ∧ (∃ c2, q_mm J' 672 (q_cm u c2)) ∧ q_ff J J' ∧ (∀ c' k, k < 64 → bl (L' (80 + 4) (12 + c')) k = (bl (L (80 + 4) (12 + c')) k || (q_co3 h u c0 c' && bl (L (80 + 4) c0) k))) ∧ ∀ o i, ¬ (o = 84 ∧ 12 ≤ i ∧ i < 24) → L' o i = L o i := by
  have hC := w.C
  by_cases hz : L (80 + 4) c0 = 0
  · refine ⟨J, L, ?_, ⟨c1, hm⟩, q_ff.rf, fun c' k hk => by rw [hz, bl_0]; simp, fun _ _ _ => rfl⟩
    have hcmp : lg_cmp (0 : Int64) (0 : Int64) = 0 := (lg_cmp_eq _ _).mpr rfl
    rw [show lh_fuel = 4999 + 1 from rfl, f_LM_goesOn_22, if_neg (by decide), z_cl (by omega), hz, if_pos hcmp, q_gd (q_ix (by omega) (by decide))]
  · have t1 := q_nc_lt w (q_cm_mw hw hc) (x := -1) (Or.inl rfl)
    have t2 := q_nc_lt w (q_cm_mw hw hc) (x := 0) (Or.inr (Or.inl rfl))
    have t3 := q_nc_lt w (q_cm_mw hw hc) (x := 1) (Or.inr (Or.inr rfl))
    obtain ⟨J1, e1, n1, f1⟩ := m_way (L := L) m w hw hc hm (x := -1) (Or.inl rfl) (by decide) hz 4999
    obtain ⟨L1, hL1⟩ : ∃ L1, L1 = (if q_bu h (q_cm u c0) (-1) = 0 then lh_v2 L (80 + 4) (12 + q_nc h (q_cm u c0) (-1)) (L (80 + 4) (12 + q_nc h (q_cm u c0) (-1)) ||| L (80 + 4) c0) else L) := ⟨_, rfl⟩
    rw [← hL1] at e1
    have o1 : ∀ o i, ¬ (o = 84 ∧ 12 ≤ i ∧ i < 24) → L1 o i = L o i := fun o i h9 => by rw [hL1]; exact q_put_o (by omega) _ h9
    have z1 : L1 (80 + 4) c0 = L (80 + 4) c0 := o1 _ _ (by omega)
    obtain ⟨J2, e2, n2, f2⟩ := m_way (L := L1) (m.ff w f1) w hw hc n1 (x := 0) (Or.inr (Or.inl rfl)) (by decide) (by rw [z1]; exact hz) 4998
    obtain ⟨L2, hL2⟩ : ∃ L2, L2 = (if q_bu h (q_cm u c0) 0 = 0 then lh_v2 L1 (80 + 4) (12 + q_nc h (q_cm u c0) 0) (L1 (80 + 4) (12 + q_nc h (q_cm u c0) 0) ||| L1 (80 + 4) c0) else L1) := ⟨_, rfl⟩
    rw [← hL2] at e2
    have o2 : ∀ o i, ¬ (o = 84 ∧ 12 ≤ i ∧ i < 24) → L2 o i = L1 o i := fun o i h9 => by rw [hL2]; exact q_put_o (by omega) _ h9
    have z2 : L2 (80 + 4) c0 = L (80 + 4) c0 := (o2 _ _ (by omega)).trans z1
    obtain ⟨J3, e3, n3, f3⟩ := m_way (L := L2) (m.ff w (f1.tr f2)) w hw hc n2 (x := 1) (Or.inr (Or.inr rfl)) (by decide) (by rw [z2]; exact hz) 4997
    obtain ⟨L3, hL3⟩ : ∃ L3, L3 = (if q_bu h (q_cm u c0) 1 = 0 then lh_v2 L2 (80 + 4) (12 + q_nc h (q_cm u c0) 1) (L2 (80 + 4) (12 + q_nc h (q_cm u c0) 1) ||| L2 (80 + 4) c0) else L2) := ⟨_, rfl⟩
    rw [← hL3] at e3
    have o3 : ∀ o i, ¬ (o = 84 ∧ 12 ≤ i ∧ i < 24) → L3 o i = L2 o i := fun o i h9 => by rw [hL3]; exact q_put_o (by omega) _ h9
    refine ⟨J3, L3, ?_, ⟨c0, n3⟩, (f1.tr f2).tr f3, fun c' k hk => ?_, fun o i h9 => by rw [o3 o i h9, o2 o i h9, o1 o i h9]⟩
    · rw [show lh_fuel = 4999 + 1 from rfl, e1, show (-1 : Int32) + 1 = 0 from by decide, show (4999 : Nat) = 4998 + 1 from rfl, e2, show (0 : Int32) + 1 = 1 from by decide, show (4998 : Nat) = 4997 + 1 from rfl, e3, show (1 : Int32) + 1 = 2 from by decide, show (4997 : Nat) = 4996 + 1 from rfl, f_LM_goesOn_22, if_pos (by decide)]
    · rw [hL3, q_put_bit, z2, hL2, q_put_bit, z1, hL1, q_put_bit]
      unfold q_co3 q_con
      cases bl (L (80 + 4) c0) k <;> simp [Bool.or_assoc]
theorem m_goesOn (m : q_md J h) (w : q_wf h) {n : Nat} {u : lh_Mt} {c1 : Nat} {R : lh_Rs} (hw : q_mw h n u) (hm : q_mm J 672 (q_cm u c1)) (hR : q_rok h R) (hL : ∀ c k, c < 12 → k < 64 → bl (L (80 + 4) c) k = R c k) :
    ∃ J' L', f_LM_goesOn J L = some (J', L') ∧ (∃ c2, q_mm J' 672 (q_cm (q_nm u) c2)) ∧ q_ff J J' ∧ (∀ c k, c < 12 → k < 64 → bl (L' (80 + 4) c) k = q_r2 h u R c k) ∧ ∀ o i, ¬ (o = 84 ∧ i < 24) → L' o i = L o i := by
  have hC := w.C
  -- nothing reached yet
  obtain ⟨L0, e0, h0, o0⟩ := q_forI (F := fun f k (K : lh_LL) => f_LM_goesOn_2 f (nI k) K) (N := 12) (P := fun k K => (∀ i, i < k → K (80 + 4) (12 + i) = 0) ∧ ∀ o i, ¬ (o = 84 ∧ 12 ≤ i ∧ i < 24) → K o i = L o i) (Q := fun K => (∀ i, i < 12 → K (80 + 4) (12 + i) = 0) ∧ ∀ o i, ¬ (o = 84 ∧ 12 ≤ i ∧ i < 24) → K o i = L o i) (fun f k K hk hK => by
    refine ⟨lh_v2 K (80 + 4) (12 + k) 0, ⟨fun i hi => ?_, fun o i h9 => by rw [q_v2o (by omega)]; exact hK.2 o i h9⟩, ?_⟩
    · by_cases e : i = k
      · subst e; exact q_v2s
      · rw [q_v2o (by omega)]; exact hK.1 i (by omega)
    · simp (disch := omega) only [f_LM_goesOn_2, show ¬ 12 ≤ k by omega, z_le, z_lt, z_eq, z_leL, z_leR, z_ltL, z_ltR, z_eqR, z_eqL, z_m1, z_m1s, z_m1le, z_m1lt, z_m1lt0, z_m1le0, z_0lem1, z_m1lek, z_add, z_addL, z_addR, z_mulR, z_sub, z_subL, z_gd, z_ix, z_cl, z_or0, z_add0, z_bs, z_gd, z_b1, z_b0, z_10, z_01, eq_self, reduceCtorEq, ↓reduceIte, if_true, if_false, Nat.not_lt_zero, not_true_eq_false, not_false_eq_true, Bool.false_eq_true, Nat.le_refl, Nat.lt_irrefl]) (fun f K hK => by
    refine ⟨K, ?_, hK⟩
    simp (disch := omega) only [f_LM_goesOn_2, z_le, z_lt, z_eq, z_leL, z_leR, z_ltL, z_ltR, z_eqR, z_eqL, z_m1, z_m1s, z_m1le, z_m1lt, z_m1lt0, z_m1le0, z_0lem1, z_m1lek, z_add, z_addL, z_addR, z_mulR, z_sub, z_subL, z_gd, z_ix, z_cl, z_or0, z_add0, z_bs, z_gd, z_b1, z_b0, z_10, z_01, eq_self, reduceCtorEq, ↓reduceIte, if_true, if_false, Nat.not_lt_zero, not_true_eq_false, not_false_eq_true, Bool.false_eq_true, Nat.le_refl, Nat.lt_irrefl]) 12 lh_fuel 0 L rfl (by decide) ⟨fun i hi => absurd hi (by omega), fun _ _ _ => rfl⟩
  have e0' : f_LM_goesOn_2 lh_fuel 0 L = some L0 := e0
  -- from each cell
  obtain ⟨⟨J1, L1⟩, e1, ⟨c2, n1⟩, f1, h1, o1⟩ := q_forI (F := fun f k (K : lh_II × lh_LL) => f_LM_goesOn_16 f (nI k) K.1 K.2) (N := q_C h) (P := fun k K => (∃ c2, q_mm K.1 672 (q_cm u c2)) ∧ q_ff J K.1 ∧ (∀ c' i, c' < 12 → i < 64 → bl (K.2 (80 + 4) (12 + c')) i = q_any (fun c => q_co3 h u c c' && R c i) k) ∧ ∀ o i, ¬ (o = 84 ∧ 12 ≤ i ∧ i < 24) → K.2 o i = L o i) (Q := fun K => (∃ c2, q_mm K.1 672 (q_cm u c2)) ∧ q_ff J K.1 ∧ (∀ c' i, c' < 12 → i < 64 → bl (K.2 (80 + 4) (12 + c')) i = q_any (fun c => q_co3 h u c c' && R c i) (q_C h)) ∧ ∀ o i, ¬ (o = 84 ∧ 12 ≤ i ∧ i < 24) → K.2 o i = L o i) (fun f k K hk hK => by
    obtain ⟨K, M⟩ := K
    obtain ⟨⟨c2, p1⟩, p2, p3, p4⟩ := hK
    simp only at p1 p2 p3 p4
    obtain ⟨K', M', g1, g2, g3, g4, g5⟩ := m_go22 (L := M) (m.ff w p2) w hw hk p1
    refine ⟨(K', M'), ⟨g2, p2.tr g3, fun c' i hc' hi => ?_, fun o i h9 => by show M' o i = _; rw [g5 o i h9, p4 o i h9]⟩, ?_⟩
    · show bl (M' (80 + 4) (12 + c')) i = _
      rw [g4 c' i hi, p3 c' i hc' hi, q_any_succ, p4 _ _ (by omega), hL k i (by omega) hi]
    · simp (disch := omega) only [f_LM_goesOn_16, m_cells (m.ff w p2), g1, show ¬ q_C h ≤ k by omega, z_le, z_lt, z_eq, z_leL, z_leR, z_ltL, z_ltR, z_eqR, z_eqL, z_m1, z_m1s, z_m1le, z_m1lt, z_m1lt0, z_m1le0, z_0lem1, z_m1lek, z_add, z_addL, z_addR, z_mulR, z_sub, z_subL, z_gd, z_ix, z_cl, z_or0, z_add0, z_bs, z_gd, z_b1, z_b0, z_10, z_01, eq_self, reduceCtorEq, ↓reduceIte, if_true, if_false, Nat.not_lt_zero, not_true_eq_false, not_false_eq_true, Bool.false_eq_true, Nat.le_refl, Nat.lt_irrefl]) (fun f K hK => by
    refine ⟨K, ?_, hK⟩
    simp (disch := omega) only [f_LM_goesOn_16, m_cells (m.ff w hK.2.1), z_le, z_lt, z_eq, z_leL, z_leR, z_ltL, z_ltR, z_eqR, z_eqL, z_m1, z_m1s, z_m1le, z_m1lt, z_m1lt0, z_m1le0, z_0lem1, z_m1lek, z_add, z_addL, z_addR, z_mulR, z_sub, z_subL, z_gd, z_ix, z_cl, z_or0, z_add0, z_bs, z_gd, z_b1, z_b0, z_10, z_01, eq_self, reduceCtorEq, ↓reduceIte, if_true, if_false, Nat.not_lt_zero, not_true_eq_false, not_false_eq_true, Bool.false_eq_true, Nat.le_refl, Nat.lt_irrefl]) (q_C h) lh_fuel 0 (J, L0) (Nat.zero_add _) (by unfold lh_fuel; omega) ⟨⟨c1, hm⟩, q_ff.rf, fun c' i hc' hi => by show bl (L0 (80 + 4) (12 + c')) i = _; rw [h0 c' hc', bl_0]; rfl, o0⟩
  simp only at n1 f1 h1 o1
  have e1' : f_LM_goesOn_16 lh_fuel 0 J L0 = some (J1, L1) := e1
  have h1' : ∀ c' i, c' < 12 → i < 64 → bl (L1 (80 + 4) (12 + c')) i = q_r1 h u R c' i := fun c' i hc' hi => by rw [h1 c' i hc' hi, q_co3_r1 w hR hc']
  -- an hour on
  obtain ⟨w1, w2, w3, w4, w5, w6⟩ := id hw
  obtain ⟨K2, hK2⟩ : ∃ K2, K2 = lh_u2 (lh_u2 J1 (78 + 4) 674 (nI ((u_h u + 1) % 8))) (78 + 4) 676 (nI (u_o u - 1)) := ⟨_, rfl⟩
  have f2 : q_ff J1 K2 := fun o k h1 h2 h3 => by rw [hK2, q_u2o (by omega), q_u2o (by omega)]
  have n2 : q_mm K2 672 (q_cm (q_nm u) c2) := by
    obtain ⟨m1, m2, m3, m4, m5, m6, m7⟩ := n1
    rw [hK2]
    refine ⟨?_, ?_, ?_, ?_, ?_, ?_, ?_⟩ <;> simp (disch := omega) only [q_u2o, q_u2s] <;> first | rfl | assumption
  have r674 : J1 (78 + 4) 674 = nI (u_h u) := n1.2.2.1
  have r676 : J1 (78 + 4) 676 = nI (u_o u) := n1.2.2.2.2.1
  have hwn := q_nm_mw hw
  -- who is seen
  obtain ⟨⟨J3, L3⟩, e3, n3, f3, h3, o3⟩ := q_forI (F := fun f k (K : lh_II × lh_LL) => f_LM_goesOn_91 f (nI k) K.1 K.2) (N := 12) (P := fun k K => (∃ c2, q_mm K.1 672 (q_cm (q_nm u) c2)) ∧ q_ff J K.1 ∧ (∀ c i, c < k → i < 64 → bl (K.2 (80 + 4) c) i = q_r2 h u R c i) ∧ (∀ c, c < 12 → K.2 (80 + 4) (12 + c) = L1 (80 + 4) (12 + c)) ∧ ∀ o i, ¬ (o = 84 ∧ i < 24) → K.2 o i = L o i) (Q := fun K => (∃ c2, q_mm K.1 672 (q_cm (q_nm u) c2)) ∧ q_ff J K.1 ∧ (∀ c i, c < 12 → i < 64 → bl (K.2 (80 + 4) c) i = q_r2 h u R c i) ∧ ∀ o i, ¬ (o = 84 ∧ i < 24) → K.2 o i = L o i) (fun f k K hk hK => by
    obtain ⟨K, M⟩ := K
    obtain ⟨⟨c3, p1⟩, p2, p3, p4, p5⟩ := hK
    simp only at p1 p2 p3 p4 p5
    have hf0 : q_ff K (lh_u2 K (78 + 4) 677 (nI k)) := fun o k h1 h2 h3 => q_u2o (by omega)
    have hp := q_cm_put (c' := k) p1
    have ec : (lg_cmp (M (80 + 4) (12 + k)) (0 : Int64) = 0) = (L1 (80 + 4) (12 + k) = 0) := by rw [p4 k hk]; exact propext (lg_cmp_eq _ _)
    have hput : ∀ (y : Int64) (K' : lh_II), (∀ i, i < 64 → bl y i = q_r2 h u R k i) → (∃ c2, q_mm K' 672 (q_cm (q_nm u) c2)) → q_ff K K' → (∃ c2, q_mm K' 672 (q_cm (q_nm u) c2)) ∧ q_ff J K' ∧ (∀ c i, c < k + 1 → i < 64 → bl (lh_v2 M (80 + 4) k y (80 + 4) c) i = q_r2 h u R c i) ∧ (∀ c, c < 12 → lh_v2 M (80 + 4) k y (80 + 4) (12 + c) = L1 (80 + 4) (12 + c)) ∧ ∀ o i, ¬ (o = 84 ∧ i < 24) → lh_v2 M (80 + 4) k y o i = L o i := by
      intro y K' hy hc2 hf
      refine ⟨hc2, p2.tr hf, fun c i hc hi => ?_, fun c hc => by rw [q_v2o (by omega)]; exact p4 c hc, fun o i h9 => by rw [q_v2o (by omega)]; exact p5 o i h9⟩
      by_cases e : c = k
      · subst e; rw [q_v2s]; exact hy i hi
      · rw [q_v2o (by omega)]; exact p3 c i (by omega) hi
    by_cases hz : L1 (80 + 4) (12 + k) = 0
    · refine ⟨(lh_u2 K (78 + 4) 677 (nI k), lh_v2 M (80 + 4) k 0), hput 0 _ (fun i hi => ?_) ⟨k, hp⟩ hf0, ?_⟩
      · rw [bl_0]
        unfold q_r2
        symm
        rw [← Bool.not_eq_true, q_any_iff]
        rintro ⟨j, hj, h9⟩
        rw [← h1' k j hk hj, hz, bl_0] at h9
        cases h9
      · simp (disch := omega) only [f_LM_goesOn_91, ec, hz, show ¬ 12 ≤ k by omega, z_le, z_lt, z_eq, z_leL, z_leR, z_ltL, z_ltR, z_eqR, z_eqL, z_m1, z_m1s, z_m1le, z_m1lt, z_m1lt0, z_m1le0, z_0lem1, z_m1lek, z_add, z_addL, z_addR, z_mulR, z_sub, z_subL, z_gd, z_ix, z_cl, z_or0, z_add0, z_bs, z_gd, z_b1, z_b0, z_10, z_01, eq_self, reduceCtorEq, ↓reduceIte, if_true, if_false, Nat.not_lt_zero, not_true_eq_false, not_false_eq_true, Bool.false_eq_true, Nat.le_refl, Nat.lt_irrefl]
    · have hkC : k < q_C h := by
        apply Classical.byContradiction
        intro h9
        apply hz
        rw [bl_zero]
        intro i hi
        rw [h1' k i hk hi]
        exact q_r1_ok hR k i (by omega)
      obtain ⟨K', g1, g2⟩ := m_seenNow ((m.ff w p2).ff w hf0) w (b0 := 672) (by omega) hp (q_cm_mw hwn hkC)
      have g1' : f_LM_seenNow 672 (lh_u2 K (78 + 4) 677 (nI k)) = _ := g1
      have h64 := q_sm_64 w (q_cm (q_nm u) k) (q_P h)
      obtain ⟨y, g3, g4⟩ := m_joined (M (80 + 4) (12 + k)) h64
      have hf1 : q_ff K K' := hf0.tr (fun o k h1 h2 _ => g2 o k h1 h2)
      refine ⟨(K', lh_v2 M (80 + 4) k y), hput y _ (fun i hi => ?_) ⟨k, hp.keep (fun k _ => g2 _ _ (by omega) (by omega))⟩ hf1, ?_⟩
      · rw [g4 i hi]
        unfold q_jn q_r2
        apply q_any_cong
        intro j hj
        rw [p4 k hk, h1' k j hk hj]
      · simp (disch := omega) only [f_LM_goesOn_91, ec, hz, g1', g3, show ¬ 12 ≤ k by omega, z_le, z_lt, z_eq, z_leL, z_leR, z_ltL, z_ltR, z_eqR, z_eqL, z_m1, z_m1s, z_m1le, z_m1lt, z_m1lt0, z_m1le0, z_0lem1, z_m1lek, z_add, z_addL, z_addR, z_mulR, z_sub, z_subL, z_gd, z_ix, z_cl, z_or0, z_add0, z_bs, z_gd, z_b1, z_b0, z_10, z_01, eq_self, reduceCtorEq, ↓reduceIte, if_true, if_false, Nat.not_lt_zero, not_true_eq_false, not_false_eq_true, Bool.false_eq_true, Nat.le_refl, Nat.lt_irrefl]) (fun f K hK => by
    refine ⟨K, ?_, hK.1, hK.2.1, hK.2.2.1, hK.2.2.2.2⟩
    simp (disch := omega) only [f_LM_goesOn_91, z_le, z_lt, z_eq, z_leL, z_leR, z_ltL, z_ltR, z_eqR, z_eqL, z_m1, z_m1s, z_m1le, z_m1lt, z_m1lt0, z_m1le0, z_0lem1, z_m1lek, z_add, z_addL, z_addR, z_mulR, z_sub, z_subL, z_gd, z_ix, z_cl, z_or0, z_add0, z_bs, z_gd, z_b1, z_b0, z_10, z_01, eq_self, reduceCtorEq, ↓reduceIte, if_true, if_false, Nat.not_lt_zero, not_true_eq_false, not_false_eq_true, Bool.false_eq_true, Nat.le_refl, Nat.lt_irrefl]) 12 lh_fuel 0 (K2, L1) rfl (by decide) ⟨⟨c2, n2⟩, f1.tr f2, fun c i hc => absurd hc (by omega), fun _ _ => rfl, fun o i h9 => o1 o i (by omega)⟩
  simp only at n3 f3 h3 o3
  have e3' : f_LM_goesOn_91 lh_fuel 0 K2 L1 = some (J3, L3) := e3
  refine ⟨J3, L3, ?_, n3, f3, h3, o3⟩
  have e8 : (u_h u + 1) - (u_h u + 1) / 8 * 8 = (u_h u + 1) % 8 := by omega
  have x0 : nI (u_o u) - 0 = nI (u_o u) := by rw [show (0 : Int32) = nI 0 from rfl, z_sub (Nat.zero_le _)]; rfl
  rw [f_LM_goesOn, e0', q_bs, e1', q_bs]
  by_cases ho : u_o u = 0
  · simp (disch := omega) only [q_u2o, r674, r676, x0, z_addL, z_divL, z_mulL, z_sub, e8, z_leR, show u_o u ≤ 0 by omega, if_true]
    rw [show lh_u2 (lh_u2 J1 (78 + 4) 674 (nI ((u_h u + 1) % 8))) (78 + 4) 676 (nI (u_o u)) = K2 from by rw [hK2, ho], e3', q_bs]
  · simp (disch := omega) only [q_u2o, r674, r676, z_addL, z_divL, z_mulL, z_sub, z_subL, e8, z_leR, show ¬ u_o u ≤ 0 by omega, if_false, ← hK2, e3', z_bs]
end Q58
