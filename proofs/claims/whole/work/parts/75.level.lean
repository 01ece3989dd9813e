/-! a level of the law: its loop -/
def w_lk (t : List Nat) (N a : Nat) (M : lh_LL) (nd n : Nat) (ws : List (Nat × Nat)) (I' : lh_II) (L' : lh_LL) (J' : lh_II) : Prop := I' (1 + 4) 8 = 0 ∧ J' (65 + 4) 8 = 0 ∧ ∃ n' es, n ≤ n' ∧ r_c t n' I' L' ∧ r_m t N n' J' M ∧ w_c a (ws ++ es) I' ∧ w_m (ws ++ es) J' ∧ es.length + n ≤ n' ∧ ∀ rest d, 1 ≤ d → d + nd ≤ 32 → q_ck (es ++ rest) d = q_ck rest d
theorem q_ck_op {k : Nat} (hk : 4 ≤ k ∧ k ≤ 10) (ws : List (Nat × Nat)) {d : Nat} (hd : 1 ≤ d) : q_ck ((k, 0) :: ws) (d + 1) = q_ck ws d := by
  show (if k = 1 then _ else if k = 2 then _ else if k = 3 then _ else decide (4 ≤ k ∧ k ≤ 10) && decide (2 ≤ d + 1) && q_ck ws (d + 1 - 1)) = _
  rw [if_neg (by omega), if_neg (by omega), if_neg (by omega), decide_eq_true hk, decide_eq_true (by omega), Nat.add_sub_cancel]
  simp
theorem w_loop {t : List Nat} (hw : qt_w t) {N a : Nat} {M : lh_LL} (ha : 11 ≤ a ∧ a ≤ 23) {nd ex lim : Nat} (hex : ex + 1 ≤ 90) {F : lh_II → lh_LL → Option (Int32 × lh_II × lh_LL)} {G : lh_II → Option lh_II} (hFG : w_sp t N a M nd ex F G) {op : Nat → Option Nat} (hop : ∀ c k, op c = some k → (4 ≤ k ∧ k ≤ 10) ∧ c ≠ 37 ∧ q_cw (k, 0) = -nI c)
    {K : Nat → Nat → lh_II → lh_LL → Option (Nat × lh_II × lh_LL)} {H : Nat → lh_II → Option lh_II}
    (k1 : ∀ f v n I L, v < 2000 → r_c t n I L → op (tk_C t n) = none → K (f + 1) v I L = some (1, I, L))
    (k2 : ∀ f v n I L I1 L1, v < lim → r_c t n I L → (∃ k, op (tk_C t n) = some k) → f_Re_advance I L = some (I1, L1) → K (f + 1) v I L = lh_bd (F I1 L1) fun r => if r.1 = 0 then some (0, r.2.1, r.2.2) else lh_bd (f_La_put a (-(nI (tk_C t n))) r.2.1) fun r2 => K f (v + 1) r2.2 r.2.2)
    (h1 : ∀ f n J, r_m t N n J M → J (65 + 4) 8 = 0 → op (tk_C t n) = none → H (f + 1) J = some J)
    (h2 : ∀ f n J k, r_m t N n J M → J (65 + 4) 8 = 0 → op (tk_C t n) = some k → H (f + 1) J = lh_bd (G (lh_u2 J (65 + 4) 7 (nI (n + 1)))) fun r => lh_bd (f_LM_emit (nI k) 0 r) fun r2 => H f r2)
    (h3 : ∀ f J, ¬ J (65 + 4) 8 = 0 → H (f + 1) J = some J) (hlim : 1000 ≤ lim) :
    ∀ (dd fC fM v n : Nat) (ws : List (Nat × Nat)) (I : lh_II) (L : lh_LL) (J : lh_II), N ≤ n + dd → dd + 1 < fC → dd + 1 < fM → v ≤ n → r_c t n I L → r_m t N n J M → I (1 + 4) 8 = 0 → J (65 + 4) 8 = 0 → w_c a ws I → w_m ws J → ws.length ≤ n → ∃ I' L' J', ((K fC v I L = some (1, I', L') ∧ H fM J = some J' ∧ w_lk t N a M nd n ws I' L' J') ∨ (K fC v I L = some (0, I', L') ∧ H fM J = some J' ∧ w_no (ex + 1) I' J')) ∧ w_cf a I I' ∧ r_lf L L' ∧ w_mf J J' := by
  intro dd
  induction dd with
  | zero =>
    intro fC fM v n ws I L J hd hfC hfM hv hc hm h8 h8' hwc hwm hln
    obtain ⟨g1, rfl⟩ : ∃ g, fC = g + 1 := ⟨fC - 1, by omega⟩
    obtain ⟨g2, rfl⟩ : ∃ g, fM = g + 1 := ⟨fM - 1, by omega⟩
    have hN : N ≤ 1000 := hm.1
    have hnN : n ≤ N := hm.2.1
    have e : n = N := by omega
    have hC : tk_C t n = 37 := (tk_C_b t n).2.mpr (by rw [e]; exact hm.2.2.1)
    have ho : op (tk_C t n) = none := by
      cases h : op (tk_C t n) with
      | none => rfl
      | some k => exact absurd hC (hop _ k h).2.1
    refine ⟨I, L, J, Or.inl ⟨k1 g1 v n I L (by omega) hc ho, h1 g2 n J hm h8' ho, h8, h8', n, [], Nat.le_refl _, hc, hm, by rw [List.append_nil]; exact hwc, by rw [List.append_nil]; exact hwm, by simp, fun rest d _ _ => rfl⟩, fun _ _ _ _ _ => rfl, fun _ _ _ => rfl, fun _ _ _ _ _ => rfl⟩
  | succ dd ih =>
    intro fC fM v n ws I L J hd hfC hfM hv hc hm h8 h8' hwc hwm hln
    obtain ⟨g1, rfl⟩ : ∃ g, fC = g + 1 := ⟨fC - 1, by omega⟩
    obtain ⟨g2, rfl⟩ : ∃ g, fM = g + 1 := ⟨fM - 1, by omega⟩
    have hN : N ≤ 1000 := hm.1
    have hnN : n ≤ N := hm.2.1
    cases ho : op (tk_C t n) with
    | none =>
      refine ⟨I, L, J, Or.inl ⟨k1 g1 v n I L (by omega) hc ho, h1 g2 n J hm h8' ho, h8, h8', n, [], Nat.le_refl _, hc, hm, by rw [List.append_nil]; exact hwc, by rw [List.append_nil]; exact hwm, by simp, fun rest d _ _ => rfl⟩, fun _ _ _ _ _ => rfl, fun _ _ _ => rfl, fun _ _ _ _ _ => rfl⟩
    | some k =>
      obtain ⟨hk, h37, hcw⟩ := hop _ k ho
      have hnx := hm.nx h37
      obtain ⟨I1, L1, e1, e2, e3, e4⟩ := e_adv hw hc
      have hwc1 : w_c a ws I1 := hwc.kp (fun o k ho => e3 _ _ (by omega))
      have h81 : I1 (1 + 4) 8 = 0 := by rw [e3 _ _ (by omega)]; exact h8
      have hm1 : r_m t N (n + 1) (lh_u2 J (65 + 4) 7 (nI (n + 1))) M := hm.kp (by omega) q_u2s (fun o k ho => by rw [q_u2o (by omega)])
      have hwm1 : w_m ws (lh_u2 J (65 + 4) 7 (nI (n + 1))) := hwm.kp (fun o k ho => by rw [q_u2o (by omega)])
      have h81' : lh_u2 J (65 + 4) 7 (nI (n + 1)) (65 + 4) 8 = 0 := by rw [q_u2o (by omega)]; exact h8'
      have hcl := k2 g1 v n I L I1 L1 (by omega) hc ⟨k, ho⟩ e1
      have hmd := h2 g2 n J k hm h8' ho
      obtain ⟨I2, L2, J2, hor, f1, f2, f3⟩ := hFG (n + 1) ws I1 L1 (lh_u2 J (65 + 4) 7 (nI (n + 1))) e2 hm1 h81 h81' hwc1 hwm1 (by omega)
      rcases hor with ⟨x1, x2, x3, x4, n', es, x5, x6, x7, x8, x9, x10, x11⟩ | ⟨x1, x2, B, x3, x4, x5, c, x6, x7⟩
      · have hlen : (ws ++ es).length = ws.length + es.length := List.length_append
        have hn'N : n' ≤ N := x7.2.1
        have ep := e_put1 x8.1 (show (ws ++ es).length < 1000 by omega) (-nI (tk_C t n))
        have em := m_emit x9.1 (show (ws ++ es).length < 1100 by omega) (nI k) 0
        have ea := w_c.ap (x := (k, 0)) x8
        have eb := w_m.ap (x := (k, 0)) x9
        rw [hcw] at ea
        have hcl2 : K (g1 + 1) v I L = K g1 (v + 1) (lh_u2 (lh_u2 I2 (a + 2 + 4) (ws ++ es).length (-nI (tk_C t n))) (a + 1 + 4) 2 (nI ((ws ++ es).length + 1))) L2 := by
          rw [hcl, x1, z_bs]
          simp only [z_10, ↓reduceIte, ep, z_bs]
        have hmd2 : H (g2 + 1) J = H g2 (lh_u2 (lh_u2 (lh_u2 J2 (72 + 4) (1100 + (ws ++ es).length) (nI k)) (73 + 4) (1100 + (ws ++ es).length) 0) (65 + 4) 13 (nI ((ws ++ es).length + 1))) := by
          rw [hmd, x2, z_bs, em, z_bs]
        have hlen2 : (ws ++ es ++ [(k, 0)]).length = (ws ++ es).length + 1 := by rw [List.length_append]; rfl
        obtain ⟨I3, L3, J3, hor3, p1, p2, p3⟩ := ih g1 g2 (v + 1) n' (ws ++ es ++ [(k, 0)]) (lh_u2 (lh_u2 I2 (a + 2 + 4) (ws ++ es).length (-nI (tk_C t n))) (a + 1 + 4) 2 (nI ((ws ++ es).length + 1))) L2 (lh_u2 (lh_u2 (lh_u2 J2 (72 + 4) (1100 + (ws ++ es).length) (nI k)) (73 + 4) (1100 + (ws ++ es).length) 0) (65 + 4) 13 (nI ((ws ++ es).length + 1))) (by omega) (by omega) (by omega) (by omega) (x6.kp (fun o k ho => by rw [q_u2o (by omega), q_u2o (by omega)])) (x7.kp hn'N (by rw [q_u2o (by omega), q_u2o (by omega), q_u2o (by omega)]; exact x7.2.2.2.2.2.1) (fun o k ho => by rw [q_u2o (by omega), q_u2o (by omega), q_u2o (by omega)])) (by rw [q_u2o (by omega), q_u2o (by omega)]; exact x3) (by rw [q_u2o (by omega), q_u2o (by omega), q_u2o (by omega)]; exact x4) ea eb (by omega)
        have fr1 : w_cf a I I3 := fun o k g1 g2 g3 => by rw [p1 _ _ g1 g2 g3, q_u2o (by omega), q_u2o (by omega), f1 _ _ g1 g2 g3, e3 _ _ (by omega)]
        have fr2 : r_lf L L3 := fun o k g1 => by rw [p2 _ _ g1, f2 _ _ g1, e4 _ _ g1]
        have fr3 : w_mf J J3 := fun o k g1 g2 g3 => by rw [p3 _ _ g1 g2 g3, q_u2o (by omega), q_u2o (by omega), q_u2o (by omega), f3 _ _ g1 g2 g3, q_u2o (by omega)]
        rcases hor3 with ⟨y1, y2, y3, y4, n2, es2, y5, y6, y7, y8, y9, y10, y11⟩ | ⟨y1, y2, y3⟩
        · refine ⟨I3, L3, J3, Or.inl ⟨by rw [hcl2, y1], by rw [hmd2, y2], y3, y4, n2, es ++ ((k, 0) :: es2), by omega, y6, y7, ?_, ?_, ?_, fun rest d hd1 hd2 => ?_⟩, fr1, fr2, fr3⟩
          · rw [show ws ++ (es ++ (k, 0) :: es2) = ws ++ es ++ [(k, 0)] ++ es2 by simp]; exact y8
          · rw [show ws ++ (es ++ (k, 0) :: es2) = ws ++ es ++ [(k, 0)] ++ es2 by simp]; exact y9
          · rw [List.length_append, List.length_cons]; omega
          · rw [List.append_assoc, x11 _ _ hd2, List.cons_append, q_ck_op hk _ hd1]
            exact y11 rest d hd1 hd2
        · exact ⟨I3, L3, J3, Or.inr ⟨by rw [hcl2, y1], by rw [hmd2, y2], y3⟩, fr1, fr2, fr3⟩
      · have hne : ¬ nI B = 0 := by rw [z_eqR 0 (by decide) (by omega)]; show ¬ B = 0; omega
        have em := m_emit x6 (show c < 1100 by omega) (nI k) 0
        obtain ⟨g3, rfl⟩ : ∃ g, g2 = g + 1 := ⟨g2 - 1, by omega⟩
        have hst := h3 g3 (lh_u2 (lh_u2 (lh_u2 J2 (72 + 4) (1100 + c) (nI k)) (73 + 4) (1100 + c) 0) (65 + 4) 13 (nI (c + 1))) (by rw [q_u2o (by omega), q_u2o (by omega), q_u2o (by omega), x5]; exact hne)
        refine ⟨I2, L2, _, Or.inr ⟨by rw [hcl, x1, z_bs]; simp only [↓reduceIte], by rw [hmd, x2, z_bs, em, z_bs, hst], B, x3, x4, by rw [q_u2o (by omega), q_u2o (by omega), q_u2o (by omega)]; exact x5, c + 1, q_u2s, by omega⟩, fun o k g1 g2 g3 => by rw [f1 _ _ g1 g2 g3, e3 _ _ (by omega)], fun o k g1 => by rw [f2 _ _ g1, e4 _ _ g1], fun o k g1 g2 g3 => by rw [q_u2o (by omega), q_u2o (by omega), q_u2o (by omega), f3 _ _ g1 g2 g3, q_u2o (by omega)]⟩
