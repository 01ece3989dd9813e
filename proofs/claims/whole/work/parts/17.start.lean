/-! the start -/
theorem lh_wd {w : Cond} (k j : Nat) (h : (lh_seg k)[j]? = some w) : w ∈ lw_tbl := lh_seg_in k (List.mem_of_getElem? h)
def lh_cu {α : Type} (z : α) (n : Nat) (I : Nat → Nat → α) : Nat → Nat → α := fun a i => if n + 4 ≤ a then z else I a i
theorem lh_cu_za {α : Type} {z : α} {n : Nat} {I : Nat → Nat → α} : lh_za z n (lh_cu z n I) := fun o ho q => by unfold lh_cu; rw [if_pos ho]
theorem lh_cut {Γ : lh_Cx} {M : lh_M} {R : Room} {Z : List Frame → Array Value → State → State → Prop} {bc bs j n : Nat} {lv : List (Nat × Value)} {st : List Value} {I : lh_II} {L : lh_LL} {F : lh_FF} {S : lh_SS} (hn : S.length = n) (k : lh_G Γ M R Z bc bs j lv st (lh_cu 0 n I, lh_cu 0 n L, lh_cu 0 n F, S)) : lh_G Γ M R Z bc bs j lv st (I, L, F, S) := by
  intro hM p e s m args below meth c ls H locs cells slots C hz hR hl hc hs
  refine k hM p e s m args below meth c ls H locs cells slots C hz ⟨hR.1, hR.2.1, fun k q hk => ?_⟩ hl hc hs
  have hk' : S[k]? = some q := hk
  have hlt : k < n := by rw [← hn]; exact (List.getElem?_eq_some_iff.mp hk').1
  refine (hR.2.2 k q hk).kept rfl ?_ ?_ ?_ <;> (funext i; show lh_cu 0 n _ _ _ = _; unfold lh_cu; rw [if_neg (by omega)])
def lh_F1 : lh_FF := lh_f2 (lh_f2 (lh_f2 (lh_f2 (lh_f2 (lh_f2 (lh_f2 (lh_f2 (lh_f2 (lh_f2 (lh_f2 (lh_f2 (lh_f2 (lh_f2 (lh_f2 (lh_f2 (lh_f2 (lh_f2 (lh_f2 (lh_f2 (lh_f2 (lh_f2 (lh_f2 (lh_f2 (lh_f2 (lh_f2 (lh_f2 (lh_f2 (lh_f2 (lh_f2 (lh_f2 (lh_f2 (lh_f2 (lh_f2 (lh_f2 (lh_f2 (lh_f2 (lh_f2 (lh_f2 (lh_f2 (lh_f2 (lh_f2 (lh_f2 (lh_f2 (lh_f2 (lh_f2 (lh_f2 (lh_f2 (lh_f2 (lh_f2 (lh_f2 (lh_f2 (lh_f2 (lh_f2 (lh_f2 (lh_f2 (lh_f2 (lh_f2 (lh_f2 (lh_f2 (lh_f2 (lh_f2 (lh_f2 (lh_f2 (fun _ _ => 0) (1 + 4) 0 (2 + 4)) (1 + 4) 1 (3 + 4)) (0 + 4) 0 (1 + 4)) (4 + 4) 0 (5 + 4)) (4 + 4) 1 (6 + 4)) (0 + 4) 1 (4 + 4)) (0 + 4) 2 (7 + 4)) (0 + 4) 3 (8 + 4)) (0 + 4) 4 (9 + 4)) (0 + 4) 5 (10 + 4)) (12 + 4) 0 (13 + 4)) (12 + 4) 1 (14 + 4)) (11 + 4) 0 (12 + 4)) (11 + 4) 1 (15 + 4)) (11 + 4) 2 (16 + 4)) (11 + 4) 3 (17 + 4)) (11 + 4) 4 (18 + 4)) (11 + 4) 5 (19 + 4)) (11 + 4) 6 (20 + 4)) (11 + 4) 7 (21 + 4)) (11 + 4) 8 (22 + 4)) (0 + 4) 6 (11 + 4)) (24 + 4) 0 (25 + 4)) (24 + 4) 1 (26 + 4)) (23 + 4) 0 (24 + 4)) (23 + 4) 1 (27 + 4)) (23 + 4) 2 (28 + 4)) (23 + 4) 3 (29 + 4)) (23 + 4) 4 (30 + 4)) (23 + 4) 5 (31 + 4)) (23 + 4) 6 (32 + 4)) (23 + 4) 7 (33 + 4)) (23 + 4) 8 (34 + 4)) (0 + 4) 7 (23 + 4)) (35 + 4) 0 (36 + 4)) (35 + 4) 1 (37 + 4)) (0 + 4) 8 (35 + 4)) (38 + 4) 0 (39 + 4)) (38 + 4) 1 (40 + 4)) (0 + 4) 9 (38 + 4)) (9 + 4) 0 (41 + 4)) (9 + 4) 1 (42 + 4)) (9 + 4) 2 (43 + 4)) (9 + 4) 3 (44 + 4)) (9 + 4) 4 (45 + 4)) (9 + 4) 5 (46 + 4)) (9 + 4) 6 (47 + 4)) (9 + 4) 7 (48 + 4)) (9 + 4) 8 (49 + 4)) (9 + 4) 9 (50 + 4)) (9 + 4) 10 (51 + 4)) (9 + 4) 11 (52 + 4)) (9 + 4) 12 (53 + 4)) (9 + 4) 13 (54 + 4)) (9 + 4) 14 (55 + 4)) (9 + 4) 15 (56 + 4)) (57 + 4) 0 (58 + 4)) (10 + 4) 0 (57 + 4)) (59 + 4) 0 (60 + 4)) (10 + 4) 1 (59 + 4)) (61 + 4) 0 (62 + 4)) (10 + 4) 2 (61 + 4)) (63 + 4) 0 (64 + 4)) (10 + 4) 3 (63 + 4)
def lh_F2 (F : lh_FF) : lh_FF := lh_f2 (lh_f2 (lh_f2 (lh_f2 (lh_f2 (lh_f2 (lh_f2 (lh_f2 (lh_f2 (lh_f2 (lh_f2 (lh_f2 (lh_f2 (lh_f2 (lh_f2 F (65 + 4) 1 (66 + 4)) (65 + 4) 4 (67 + 4)) (65 + 4) 5 (68 + 4)) (65 + 4) 6 (69 + 4)) (65 + 4) 9 (70 + 4)) (65 + 4) 10 (71 + 4)) (65 + 4) 11 (72 + 4)) (65 + 4) 12 (73 + 4)) (65 + 4) 14 (74 + 4)) (65 + 4) 17 (75 + 4)) (65 + 4) 18 (76 + 4)) (65 + 4) 19 (77 + 4)) (65 + 4) 20 (78 + 4)) (65 + 4) 22 (79 + 4)) (65 + 4) 23 (80 + 4)
def lh_F3 : lh_FF := lh_cu 0 81 (lh_F2 (lh_cu 0 65 lh_F1))
theorem lh_F3hl {a : Nat} (ha : a = 11 ∨ a = 23) : lh_hl lh_F3 lh_SH a := by
  rcases ha with rfl | rfl
  · refine ⟨?_, ?_⟩
    · intro k q hk; match k, hk with
      | 0, hk => cases hk; rfl
      | 1, hk => cases hk; rfl
      | 2, hk => cases hk; rfl
      | 3, hk => cases hk; rfl
      | 4, hk => cases hk; rfl
      | 5, hk => cases hk; rfl
      | 6, hk => cases hk; rfl
      | 7, hk => cases hk; rfl
      | 8, hk => cases hk; rfl
      | 9, hk => cases hk; rfl
      | 10, hk => cases hk; rfl
      | 11, hk => cases hk; rfl
      | n + 12, hk => cases hk
    · intro k q hk; match k, hk with
      | 0, hk => cases hk; rfl
      | 1, hk => cases hk; rfl
      | 2, hk => cases hk; rfl
      | 3, hk => cases hk; rfl
      | 4, hk => cases hk; rfl
      | 5, hk => cases hk; rfl
      | 6, hk => cases hk; rfl
      | 7, hk => cases hk; rfl
      | 8, hk => cases hk; rfl
      | 9, hk => cases hk; rfl
      | 10, hk => cases hk; rfl
      | n + 11, hk => cases hk
  · refine ⟨?_, ?_⟩
    · intro k q hk; match k, hk with
      | 0, hk => cases hk; rfl
      | 1, hk => cases hk; rfl
      | 2, hk => cases hk; rfl
      | 3, hk => cases hk; rfl
      | 4, hk => cases hk; rfl
      | 5, hk => cases hk; rfl
      | 6, hk => cases hk; rfl
      | 7, hk => cases hk; rfl
      | 8, hk => cases hk; rfl
      | 9, hk => cases hk; rfl
      | 10, hk => cases hk; rfl
      | 11, hk => cases hk; rfl
      | n + 12, hk => cases hk
    · intro k q hk; match k, hk with
      | 0, hk => cases hk; rfl
      | 1, hk => cases hk; rfl
      | 2, hk => cases hk; rfl
      | 3, hk => cases hk; rfl
      | 4, hk => cases hk; rfl
      | 5, hk => cases hk; rfl
      | 6, hk => cases hk; rfl
      | 7, hk => cases hk; rfl
      | 8, hk => cases hk; rfl
      | 9, hk => cases hk; rfl
      | 10, hk => cases hk; rfl
      | n + 11, hk => cases hk
theorem lh_F3nl {a : Nat} (ha : a = 35 ∨ a = 38) : lh_nl lh_F3 lh_SH a := by
  rcases ha with rfl | rfl
  · refine ⟨?_, ?_⟩
    · intro k q hk; match k, hk with
      | 0, hk => cases hk; rfl
      | 1, hk => cases hk; rfl
      | 2, hk => cases hk; rfl
      | n + 3, hk => cases hk
    · intro k q hk; match k, hk with
      | 0, hk => cases hk; rfl
      | 1, hk => cases hk; rfl
      | n + 2, hk => cases hk
  · refine ⟨?_, ?_⟩
    · intro k q hk; match k, hk with
      | 0, hk => cases hk; rfl
      | 1, hk => cases hk; rfl
      | 2, hk => cases hk; rfl
      | n + 3, hk => cases hk
    · intro k q hk; match k, hk with
      | 0, hk => cases hk; rfl
      | 1, hk => cases hk; rfl
      | n + 2, hk => cases hk
theorem lh_F3lay : lh_lay lh_F3 lh_SH := by
  refine ⟨?_, ?_⟩
  · intro k q hk
    rw [List.getElem?_take] at hk
    split at hk
    · exact hk
    · cases hk
  · intro k q hk; match k, hk with
    | 0, hk => cases hk; rfl
    | 1, hk => cases hk; rfl
    | 2, hk => cases hk; rfl
    | 3, hk => cases hk; rfl
    | 4, hk => cases hk; rfl
    | 5, hk => cases hk; rfl
    | 6, hk => cases hk; rfl
    | 7, hk => cases hk; rfl
    | 8, hk => cases hk; rfl
    | 9, hk => cases hk; rfl
    | 10, hk => cases hk; rfl
    | 11, hk => cases hk; rfl
    | 12, hk => cases hk; rfl
    | 13, hk => cases hk; rfl
    | 14, hk => cases hk; rfl
    | 15, hk => cases hk; rfl
    | 16, hk => cases hk; rfl
    | 17, hk => cases hk; rfl
    | 18, hk => cases hk; rfl
    | 19, hk => cases hk; rfl
    | 20, hk => cases hk; rfl
    | 21, hk => cases hk; rfl
    | 22, hk => cases hk; rfl
    | 23, hk => cases hk; rfl
    | 24, hk => cases hk; rfl
    | 25, hk => cases hk; rfl
    | 26, hk => cases hk; rfl
    | 27, hk => cases hk; rfl
    | 28, hk => cases hk; rfl
    | 29, hk => cases hk; rfl
    | 30, hk => cases hk; rfl
    | 31, hk => cases hk; rfl
    | 32, hk => cases hk; rfl
    | 33, hk => cases hk; rfl
    | n + 34, hk => cases hk
theorem lh_F3laym : lh_laym lh_F3 lh_SH := by
  refine ⟨?_, ?_⟩
  · intro k q hk; match k, hk with
    | 0, hk => cases hk; rfl
    | 1, hk => cases hk; rfl
    | 2, hk => cases hk; rfl
    | 3, hk => cases hk; rfl
    | 4, hk => cases hk; rfl
    | 5, hk => cases hk; rfl
    | 6, hk => cases hk; rfl
    | 7, hk => cases hk; rfl
    | 8, hk => cases hk; rfl
    | 9, hk => cases hk; rfl
    | 10, hk => cases hk; rfl
    | 11, hk => cases hk; rfl
    | 12, hk => cases hk; rfl
    | 13, hk => cases hk; rfl
    | 14, hk => cases hk; rfl
    | 15, hk => cases hk; rfl
    | n + 16, hk => cases hk
  · intro k q hk; match k, hk with
    | 0, hk => cases hk; rfl
    | 1, hk => cases hk; rfl
    | 2, hk => cases hk; rfl
    | 3, hk => cases hk; rfl
    | 4, hk => cases hk; rfl
    | 5, hk => cases hk; rfl
    | 6, hk => cases hk; rfl
    | 7, hk => cases hk; rfl
    | 8, hk => cases hk; rfl
    | 9, hk => cases hk; rfl
    | 10, hk => cases hk; rfl
    | 11, hk => cases hk; rfl
    | 12, hk => cases hk; rfl
    | 13, hk => cases hk; rfl
    | 14, hk => cases hk; rfl
    | n + 15, hk => cases hk
theorem lh_F3ok : lh_ok lh_F3 lh_SH 11 35 23 38 := ⟨lh_F3lay, lh_F3laym, lh_F3hl (Or.inl rfl), lh_F3hl (Or.inr rfl), lh_F3nl (Or.inl rfl), lh_F3nl (Or.inr rfl), rfl, rfl, rfl, rfl, rfl, by decide, by decide, by decide, by decide⟩
def lh_Start (Inv : Nat → Nat → Nat → Nat → Nat → lh_II → lh_LL → Prop) : Prop := ∃ (r1 r2 : lh_II × lh_LL), f_LH_init_0 (fun _ _ => 0) (fun _ _ => 0) = some r1 ∧ f_LM_init_65 (lh_cu 0 65 r1.1) (lh_cu 0 65 r1.2) = some r2 ∧ Inv 3584 11 35 23 38 (lh_cu 0 81 r2.1) (lh_cu 0 81 r2.2)
theorem lh_kn {s : State} {args : Array Value} (hts : ∀ w ∈ lw_tbl, w.before args s = true) : ∀ (ci : Nat) (r : vw_C), lh_cls[ci]? = some r → ∃ (cC : ClassId) (iS : Nat → Nat), u_Kn s r.1 r.2.1 r.2.2 cC iS := by
  intro ci r hr
  match ci, hr with
  | 0, hr => cases hr; exact u_known (n := 17) hts (fun w h => lh_T_tbl (lh_layT (ci := 0) rfl w h)) (hts _ (lh_T_tbl (lh_ms_T (q := (1, 195)) (by decide +kernel))))
  | 1, hr => cases hr; exact u_known (n := 5) hts (fun w h => lh_T_tbl (lh_layT (ci := 1) rfl w h)) (hts _ (lh_T_tbl (lh_ms_T (q := (2, 207)) (by decide +kernel))))
  | 2, hr => cases hr; exact u_known (n := 3) hts (fun w h => lh_T_tbl (lh_layT (ci := 2) rfl w h)) (hts _ (lh_T_tbl (lh_ms_T (q := (1, 201)) (by decide +kernel))))
  | 3, hr => cases hr; exact u_known (n := 4) hts (fun w h => lh_T_tbl (lh_layT (ci := 3) rfl w h)) (hts _ (lh_T_tbl (lh_ms_T (q := (2, 82)) (by decide +kernel))))
  | 4, hr => cases hr; exact u_known (n := 7) hts (fun w h => lh_T_tbl (lh_layT (ci := 4) rfl w h)) (hts _ (lh_T_tbl (lh_ms_T (q := (1, 144)) (by decide +kernel))))
  | 5, hr => cases hr; exact u_known (n := 5) hts (fun w h => lh_T_tbl (lh_layT (ci := 5) rfl w h)) (hts _ (lh_T_tbl (lh_ms_T (q := (2, 58)) (by decide +kernel))))
  | 6, hr => cases hr; exact u_known (n := 9) hts (fun w h => lh_T_tbl (lh_layT (ci := 6) rfl w h)) (hts _ (lh_T_tbl (lh_ms_T (q := (1, 33)) (by decide +kernel))))
  | 7, hr => cases hr; exact u_known (n := 2) hts (fun w h => lh_T_tbl (lh_layT (ci := 7) rfl w h)) (hts _ (lh_T_tbl (lh_ms_T (q := (1, 131)) (by decide +kernel))))
  | 8, hr => cases hr; exact u_known (n := 14) hts (fun w h => lh_T_tbl (lh_layT (ci := 8) rfl w h)) (hts _ (lh_T_tbl (lh_ms_T (q := (1, 25)) (by decide +kernel))))
  | 9, hr => cases hr; exact u_known (n := 25) hts (fun w h => lh_T_tbl (lh_layT (ci := 9) rfl w h)) (hts _ (lh_T_tbl (lh_ms_T (q := (5, 181)) (by decide +kernel))))
  | n + 10, hr => cases hr
theorem lh_kD {s : State} {args : Array Value} (hts : ∀ w ∈ lw_tbl, w.before args s = true) : ∃ D : va_G, ∀ (ci : Nat) (r : vw_C), lh_cls[ci]? = some r → u_Kn s r.1 r.2.1 r.2.2 (D.1 ci) (D.2 ci) := by
  have h : ∀ ci : Nat, ∃ q : ClassId × (Nat → Nat), ∀ r, lh_cls[ci]? = some r → u_Kn s r.1 r.2.1 r.2.2 q.1 q.2 := by
    intro ci
    cases hr : lh_cls[ci]? with
    | none => exact ⟨(0, fun _ => 0), fun r h => by cases h⟩
    | some r =>
      obtain ⟨cC, iS, h⟩ := lh_kn hts ci r hr
      exact ⟨(cC, iS), fun r' h' => by cases h'; exact h⟩
  obtain ⟨f, hf⟩ := Classical.axiomOfChoice h
  exact ⟨(fun c => (f c).1, fun c => (f c).2), hf⟩
theorem lh_aC {s : State} {args : Array Value} {ty : FieldType} (hty : ∀ C, ty ≠ .object C) (h : (Cond.arrayClass ty).before args s = true) : ∃ cA, ArrOfT s cA ty ∧ va_RA s cA ty := by
  obtain ⟨cA, kA, comp, h1, h2, h3⟩ := Cond.arrayClass_spec h
  refine ⟨cA, fun n z => ⟨fun k h => (by cases h), kA, h2, comp, h3⟩, ?_⟩
  cases ty <;> first | exact h1 | exact absurd rfl (hty _)
theorem lh_aO {s : State} {args : Array Value} {C : String} (h : (Cond.arrayOver (.object C)).before args s = true) : ∃ cA, ArrOfT s cA (.object C) ∧ va_RA s cA (.object C) := by
  obtain ⟨comp, cA, kA, h1, h2, h3, h4, h5⟩ := Cond.arrayOver_spec h
  exact ⟨cA, fun n z => ⟨fun k h => (by cases h), kA, h3, comp, h4⟩, kA, comp, h3, h4, h1, h5⟩
theorem lh_bad_in : ∀ w ∈ lh_nsw.filter (fun w => !goodWord w), w ∈ lw_tbl := by decide +kernel
theorem lh_bad_k : lh_nsw.filter (fun w => !goodWord w) = [.declares ⟨"java/lang/RuntimeException", "<init>", "()V"⟩, .declares ⟨"java/lang/Exception", "<init>", "()V"⟩, .declares ⟨"java/lang/Throwable", "<init>", "()V"⟩, .castable lh_nse lh_nse] := by decide +kernel
def lh_Xd (Γ : lh_Cx) (U : State) : Prop := lh_XX Γ U ∧ lh_YY Γ U
theorem lh_Xwarm {Γ : lh_Cx} : ∀ u v : State, u.WarmedH v.vm → lh_Xd Γ u → lh_Xd Γ v := by
  intro u v hW h
  obtain ⟨⟨a1, a2, a3, a4, a5, a6, a7, a8, a9, a10, a11⟩, b1, b2, b3⟩ := h
  refine ⟨⟨va_Nw.warmM hW a1, va_Z.moved hW.alike a2, va_T.moved hW.alike a3, vk_R.warm hW a4, vk_R.warm hW a5, vk_S.moved hW.alike a6, va_Z.moved hW.alike a7, fun q hq => va_Nw.warmM hW (a8 q hq), va_Z.moved hW.alike a9, va_AO.moved hW.alike a10, va_AO.moved hW.alike a11⟩, vx_Zq.moved hW.alike b1, vx_Zq.moved hW.alike b2, fun w hw => ?_⟩
  have hw2 := hw
  rw [lh_bad_k] at hw2
  simp only [List.mem_cons, List.not_mem_nil, or_false] at hw2
  rcases hw2 with rfl | rfl | rfl | rfl
  · exact va_Nw.warmD hW (b3 _ hw)
  · exact va_Nw.warmD hW (b3 _ hw)
  · exact va_Nw.warmD hW (b3 _ hw)
  · exact va_Nw.warmC hW (b3 _ hw)
theorem lh_atom {args : Array Value} {s : State} (h : (Jvm.Cond.and given_1 narrow_1).before args s = true) {w : Cond} (hw : w ∈ flatC (Jvm.Cond.and given_1 narrow_1)) : w.before args s = true := flat_of_before _ h w hw
theorem lh_atoms {args : Array Value} {s : State} (h : (Jvm.Cond.and given_1 narrow_1).before args s = true) (hts : ∀ w ∈ lw_tbl, w.before args s = true) : ∃ sp : Nat → Nat, ∀ Γ : lh_Cx, lh_H0 Γ = s.heap → (∀ k, 0 < k → lh_sp Γ k = sp k) → lh_Xd Γ s := by
  have hA : ∀ a : Nat, a < s.heap.size → ¬ s.heap.size ≤ a := fun a ha => Nat.not_le.mpr ha
  obtain ⟨t1, e1, hT⟩ := va_Tof (args := args) (s := s) (tm := .static "LanternHall$Walks" "SETS_WITH" "[J") (ty := .long) (N := 6) (f := fun j => .long (lh_sets j)) (A := fun q => s.heap.size ≤ q) (by decide) (lh_atom h (by decide +kernel)) (va_eqt (z := 6) (lh_atom h (by decide +kernel))) (fun j hj => by
    match j, hj with
    | 0, _ => exact va_eqtl (z := -6148914691236517206) (lh_atom h (by decide +kernel))
    | 1, _ => exact va_eqtl (z := -3689348814741910324) (lh_atom h (by decide +kernel))
    | 2, _ => exact va_eqtl (z := -1085102592571150096) (lh_atom h (by decide +kernel))
    | 3, _ => exact va_eqtl (z := -71777214294589696) (lh_atom h (by decide +kernel))
    | 4, _ => exact va_eqtl (z := -281470681808896) (lh_atom h (by decide +kernel))
    | 5, _ => exact va_eqtl (z := -4294967296) (lh_atom h (by decide +kernel))
    | n + 6, hj => exact absurd hj (by omega)) hA
  obtain ⟨adK, adV, hS, hR⟩ := vk_Sof (args := args) (s := s) (N := 2) (tm := fun i => if i = 0 then .string "LanternHall$Reader" 42 else .string "LanternHall$Reader" 79) (len := lh_strl) (byt := lh_byt) (A := fun q => s.heap.size ≤ q)
    (fun i hi => by match i, hi with | 0, _ => decide | 1, _ => decide)
    (fun i hi => by match i, hi with | 0, _ => exact lh_atom h (by decide +kernel) | 1, _ => exact lh_atom h (by decide +kernel))
    (fun i hi => by match i, hi with | 0, _ => exact lh_atom h (by decide +kernel) | 1, _ => exact lh_atom h (by decide +kernel))
    (fun i hi => by match i, hi with | 0, _ => exact lh_atom h (by decide +kernel) | 1, _ => exact lh_atom h (by decide +kernel))
    (fun i hi => by match i, hi with | 0, _ => exact lh_atom h (by decide +kernel) | 1, _ => exact lh_atom h (by decide +kernel))
    (fun i hi j hj => by match i, hi with
      | 0, _ => exact lh_atom h ((by decide +kernel : ∀ j, j < 137 → (Cond.eq (.elem (.field (.string "LanternHall$Reader" 42) "java/lang/String" "value" "[B") (.int (Int32.ofNat j))) (.int ((lh_byt.getD 0 []).getD j 0))) ∈ flatC (Jvm.Cond.and given_1 narrow_1)) j hj)
      | 1, _ => exact lh_atom h ((by decide +kernel : ∀ j, j < 8 → (Cond.eq (.elem (.field (.string "LanternHall$Reader" 79) "java/lang/String" "value" "[B") (.int (Int32.ofNat j))) (.int ((lh_byt.getD 1 []).getD j 0))) ∈ flatC (Jvm.Cond.and given_1 narrow_1)) j hj))
    (fun i j hi hj hne => by match i, hi, j, hj with
      | 0, _, 1, _ => exact Or.inl (lh_atom h (by decide +kernel))
      | 1, _, 0, _ => exact Or.inr (lh_atom h (by decide +kernel))
      | 0, _, 0, _ => exact absurd rfl hne
      | 1, _, 1, _ => exact absurd rfl hne) hA
  have hZq := va_Zqof (args := args) (s := s) (C := "jdk/internal/util/Preconditions") (n := "SIOOBE_FORMATTER") (d := "Ljava/util/function/BiFunction;") (A := fun q => s.heap.size ≤ q) (hts _ (lh_wd 1 64 rfl)) (hts _ (lh_wd 1 5 rfl)) (lh_atom h (by decide +kernel)) hA
  obtain ⟨f6, f7, hF⟩ : ∃ f6 f7 : Nat, va_Z "jdk/internal/util/Preconditions" "SIOOBE_FORMATTER" "Ljava/util/function/BiFunction;" (if f7 = 0 then .null else .ref f6) (fun q => s.heap.size ≤ q) s s.heap := by
    rcases hZq with h9 | ⟨t9, h9⟩
    · exact ⟨0, 0, h9⟩
    · exact ⟨t9, 1, h9⟩
  refine ⟨fun k => match k with | 1 => t1 | 2 => adK 0 | 3 => adK 1 | 4 => adV 0 | 5 => adV 1 | 6 => f6 | _ => f7, fun Γ hH hs => ?_⟩
  have eA : lh_A Γ = fun q => s.heap.size ≤ q := by unfold lh_A; rw [hH]
  refine ⟨⟨va_Nw.of rfl (hts _ (lh_wd 3 190 rfl)), ?_, ?_, ?_, ?_, ?_, ?_, ?_, ?_, va_AO.of (hts _ (lh_wd 1 191 rfl)), va_AO.of (hts _ (lh_wd 1 193 rfl))⟩, ?_, ?_, ?_⟩
  · rw [eA, hH, hs 1 (by decide)]
    exact va_Zof (hts _ (lh_wd 4 122 rfl)) (hts _ (lh_wd 1 7 rfl)) e1 hA
  · rw [eA, hH, hs 1 (by decide)]
    exact hT
  · rw [hs 2 (by decide)]
    exact vk_R.of (hts _ (lh_wd 1 38 rfl)) (hR 0 (by decide))
  · rw [hs 3 (by decide)]
    exact vk_R.of (hts _ (lh_wd 3 16 rfl)) (hR 1 (by decide))
  · rw [eA, hH]
    refine ⟨fun i hi => ?_, fun i j hi hj => ?_⟩
    · show va_O _ (lh_sp Γ (2 + i)) _ _ _ ∧ va_OF _ _ _ _ (lh_sp Γ (2 + i)) _ _ _ ∧ va_OF _ _ _ (.ref (lh_sp Γ (4 + i))) (lh_sp Γ (2 + i)) _ _ _ ∧ va_T _ (lh_sp Γ (4 + i)) _ _ _ _ _
      match i, hi with
      | 0, hi => rw [hs 2 (by decide), hs 4 (by decide)]; exact hS.1 0 hi
      | 1, hi => rw [hs 3 (by decide), hs 5 (by decide)]; exact hS.1 1 hi
    · show lh_sp Γ (2 + i) = lh_sp Γ (2 + j) → i = j
      match i, hi, j, hj with
      | 0, hi, 0, hj => exact fun _ => rfl
      | 1, hi, 1, hj => exact fun _ => rfl
      | 0, hi, 1, hj => rw [hs 2 (by decide), hs 3 (by decide)]; exact hS.2 0 1 hi hj
      | 1, hi, 0, hj => rw [hs 3 (by decide), hs 2 (by decide)]; exact hS.2 1 0 hi hj
  · rw [eA, hH]
    exact va_Zof (hts _ (lh_wd 1 48 rfl)) (hts _ (lh_wd 1 3 rfl)) (va_eqt (z := 1) (lh_atom h (by decide +kernel))) hA
  · intro q hq
    refine va_Nw.of rfl (hts _ ?_)
    have hm : ∀ q ∈ lh_nests, (q = ("LanternHall", 18, ⟨"LanternHall$Walks", "<init>", "()V"⟩) ∨ q = ("LanternHall", 25, ⟨"LanternHall$Moment", "<init>", "()V"⟩) ∨ q = ("LanternHall", 45, ⟨"LanternHall$Hall", "<init>", "()V"⟩) ∨ q = ("LanternHall", 55, ⟨"LanternHall$Night", "<init>", "()V"⟩) ∨ q = ("LanternHall", 76, ⟨"LanternHall$Mark", "<init>", "()V"⟩) ∨ q = ("LanternHall$Hall", 11, ⟨"LanternHall$Law", "<init>", "()V"⟩) ∨ q = ("LanternHall$Mark", 9, ⟨"LanternHall$Moment", "<init>", "()V"⟩)) := by decide +kernel
    rcases hm q hq with rfl | rfl | rfl | rfl | rfl | rfl | rfl
    · exact lh_wd 1 132 rfl
    · exact lh_wd 1 145 rfl
    · exact lh_wd 1 196 rfl
    · exact lh_wd 2 59 rfl
    · exact lh_wd 2 83 rfl
    · exact lh_wd 1 202 rfl
    · exact lh_wd 2 88 rfl
  · rw [eA, hH]
    unfold lh_fmt
    rw [hs 7 (by decide), hs 6 (by decide)]
    exact hF
  · rw [eA, hH]
    exact vx_Zqof (hts _ (lh_wd 5 130 rfl)) (hts _ (lh_wd 1 20 rfl)) (lh_atom h (by decide +kernel)) hA
  · rw [eA, hH]
    exact vx_Zqof (hts _ (lh_wd 5 132 rfl)) (hts _ (lh_wd 1 20 rfl)) (lh_atom h (by decide +kernel)) hA
  · intro w hw
    exact va_Nw.of (lh_nsw_tb w hw) (hts w (lh_bad_in w hw))
