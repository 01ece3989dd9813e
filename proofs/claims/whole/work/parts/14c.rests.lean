/-! the method that throws, and the one that catches -/
/-- what is there besides: cells of exceptions that nobody holds -/
def lh_ju (h : lh_Hp) (n : Nat) : lh_Hp := (h.1, h.2.1, h.2.2.1, h.2.2.2 ++ List.replicate n (16, 0))
def lh_nse : String := "java/util/NoSuchElementException"
def lh_XC (Γ : lh_Cx) (X : lh_Hp → Prop) : String → State → State → Prop := fun E st t => E = lh_nse ∧ ∃ (h : lh_Hp) (n : Nat), X h ∧ lh_Rel Γ (lh_ju h n) t.heap [] ∧ st.heap.size ≤ t.heap.size
def lh_nsw : List Cond := vx_at0 "LanternHall" 308 lh_nse ["java/lang/RuntimeException", "java/lang/Exception"]
/-- what a throw needs of the tables and of what lay there before -/
def lh_YY (Γ : lh_Cx) (U : State) : Prop := vx_Zq Bundle.tN "UNASSIGNED_STACK" Bundle.steD (lh_A Γ) U (lh_H0 Γ) ∧ vx_Zq Bundle.tN "SUPPRESSED_SENTINEL" Bundle.listD (lh_A Γ) U (lh_H0 Γ) ∧ ∀ w ∈ lh_nsw.filter (fun w => !goodWord w), va_Nw w U
def lh_GY (Γ : lh_Cx) : Prop := ∀ U, lh_X Γ U → lh_YY Γ U
theorem lh_nsw_in : ∀ w ∈ lh_nsw.filter goodWord, w ∈ lw_tbl := by decide +kernel
theorem lh_nsw_ot : ∀ w ∈ Cond.classLink "LanternHall" 306 lh_nse :: Cond.initialized lh_nse :: lh_nsw, vx_ot w = true := by decide +kernel
theorem lh_nsw_cs : Cond.castable lh_nse lh_nse ∈ lh_nsw.filter (fun w => !goodWord w) := by decide +kernel
theorem lh_nsw_tb : ∀ w ∈ lh_nsw.filter (fun w => !goodWord w), w.onTables = true := by decide +kernel
def lh_ZC (P : Code → Prop) (Z0 : List Frame → Array Value → State → State → Prop) : List Frame → Array Value → State → State → Prop := fun below args s t =>
  (∀ (m : MethodId) (meth : Method) (c : Code), s.frames = .invoking m args :: below → s.vm.method? m = some meth → meth.code = some c → P c) → Z0 below args s t
def lh_ZX (Γ : lh_Cx) (Q : Option Value → lh_Hp → Prop) (X : lh_Hp → Prop) (mc ms : Nat) : List Frame → Array Value → State → State → Prop := fun below args s => vx_MQ below (lh_Qc Γ Q) (lh_XC Γ X) args s mc ms (lh_A Γ)
def lh_noT (c : Code) : Prop := ∀ x ∈ c.exceptionTable.toList, False
def lh_MeX (Γ : lh_Cx) (M : lh_M) (d mc ms : Nat) (args : List Value) (h : lh_Hp) (Q : Option Value → lh_Hp → Prop) (X : lh_Hp → Prop) : Prop :=
  vx_Met (lh_l Γ) (lh_y M) (Cond.code (lh_y M) (lh_bs M) (lh_mx M) (lh_rt M) :: lh_T) (lh_R d mc ms) (lh_Pc Γ args h) (lh_Qc Γ Q) (lh_XC Γ X) mc ms (lh_A Γ)
def lh_MeW (Γ : lh_Cx) (M : lh_M) (hh : List (Nat × Nat × Nat × Nat)) (d mc ms : Nat) (args : List Value) (h : lh_Hp) (Q : Option Value → lh_Hp → Prop) : Prop :=
  Met (lh_l Γ) (lh_y M) (Cond.codeWith (lh_y M) (lh_bs M) (lh_mx M) (lh_rt M) hh :: lh_T) (lh_R d mc ms) (lh_Pc Γ args h) (lh_Qc Γ Q) mc ms (lh_A Γ)
section LHTHR
variable {Γ : lh_Cx} {M : lh_M} {R : Room} {bc bs j pc j' t : Nat} {lv : List (Nat × Value)} {st : List Value} {h : lh_Hp} {P : Code → Prop} {Z0 : List Frame → Array Value → State → State → Prop}
theorem lh_useC (k : lh_okM M → ∀ (p : Program) (e : Env) (s : State) (m : MethodId) (args : Array Value) (below : List Frame) (meth : Method) (c : Code) (ls : Array Slot) (H : Heap) (locs : List Loc) (cells slots : Nat), P c →
    lh_C Γ M p s m args meth c → s.heap.size ≤ H.size → lh_Rel Γ h H locs → lv_has ls (lh_mx M) (lh_lv Γ lv) → cells + bc ≤ R.cells → slots + bs ≤ R.slots →
    W p (lh_l Γ) e R s m args below meth c H locs cells slots (Z0 below args s) (F0 m (lh_pc (lh_is M) j) ls (st.map (lh_tr Γ)))) : lh_G Γ M R (lh_ZC P Z0) bc bs j lv st h := by
  intro hM p e s m args below meth c ls H locs cells slots C hz hR hl hc hs T hT X
  by_cases hP : P c
  · obtain ⟨t, a, b⟩ := k hM p e s m args below meth c ls H locs cells slots hP C hz hR hl hc hs T hT X
    exact ⟨t, a, fun _ => b⟩
  · exact ⟨_, Steps.refl _, fun hc9 => absurd (hc9 m meth c X.frames X.method X.code) hP⟩
theorem lh_fromC {p : Program} {e : Env} {s : State} {m : MethodId} {args : Array Value} {below : List Frame} {meth : Method} {c : Code} {H : Heap} {locs : List Loc} {cells slots : Nat} {g : JFrame} (hP : P c)
    (k : W p (lh_l Γ) e R s m args below meth c H locs cells slots (lh_ZC P Z0 below args s) g) : W p (lh_l Γ) e R s m args below meth c H locs cells slots (Z0 below args s) g := by
  intro T hT X
  obtain ⟨t, a, b⟩ := k T hT X
  refine ⟨t, a, b (fun m' meth' c' h1 h2 h3 => ?_)⟩
  have e1 := X.frames.symm.trans h1
  injection e1 with e1 _
  injection e1 with e1 _
  subst e1
  cases X.method.symm.trans h2
  cases X.code.symm.trans h3
  exact hP
theorem lh_toC (k : lh_G Γ M R Z0 bc bs j lv st h) : lh_G Γ M R (lh_ZC P Z0) bc bs j lv st h := by
  intro hM p e s m args below meth c ls H locs cells slots C hz hR hl hc hs T hT X
  obtain ⟨t, a, b⟩ := k hM p e s m args below meth c ls H locs cells slots C hz hR hl hc hs T hT X
  exact ⟨t, a, fun _ => b⟩
theorem lh_toX {Q : Option Value → lh_Hp → Prop} {X : lh_Hp → Prop} {mc ms : Nat} (k : lh_G Γ M R (lh_Z Γ Q mc ms) bc bs j lv st h) : lh_G Γ M R (lh_ZC P (lh_ZX Γ Q X mc ms)) bc bs j lv st h := by
  refine lh_toC ?_
  intro hM p e s m args below meth c ls H locs cells slots C hz hR hl hc hs
  exact vx_ret (k hM p e s m args below meth c ls H locs cells slots C hz hR hl hc hs)
theorem lh_Rel.junk {H H1 : Heap} {locs : List Loc} (hR : lh_Rel Γ h H locs) (hz : H.size ≤ H1.size) (hq : ∀ q : Nat, q < H.size → H1[q]? = H[q]?) : lh_Rel Γ (lh_ju h (H1.size - H.size)) H1 [] := by
  obtain ⟨⟨s1, s2, s3⟩, hsz, hat⟩ := hR
  refine ⟨⟨by omega, fun x h1 h2 => by rw [hq x (by omega)]; exact s2 x h1 h2, fun _ h9 => by cases h9⟩, ?_, fun k q hk => ?_⟩
  · show H1.size = (lh_H0 Γ).size + (h.2.2.2 ++ List.replicate (H1.size - H.size) (16, 0)).length
    rw [List.length_append, List.length_replicate]
    omega
  · have hk' : (h.2.2.2 ++ List.replicate (H1.size - H.size) (16, 0))[k]? = some q := hk
    by_cases hl : k < h.2.2.2.length
    · rw [List.getElem?_append_left hl] at hk'
      exact (hat k q hk').kept (hq _ (by omega)) rfl rfl rfl
    · rw [List.getElem?_append_right (by omega)] at hk'
      obtain ⟨h1, h2⟩ := List.getElem?_eq_some_iff.mp hk'
      rw [List.length_replicate] at h1
      rw [List.getElem_replicate] at h2
      subst h2
      exact ⟨by omega, fun r hr => by cases hr⟩
theorem lh_thr {Q : Option Value → lh_Hp → Prop} {X : lh_Hp → Prop} {d mc ms p0 p1 p2 p3 t0 t1 t2 t3 j4 : Nat} (hY : lh_GY Γ) (hl : (lh_l Γ).stackTraces = false) (hown : (lh_ct M).1 = "LanternHall") (i0 : (lh_is M)[j]? = some (p0, .new 306, 3, j + 1, t0)) (i1 : (lh_is M)[j + 1]? = some (p1, .dup, 1, j + 2, t1)) (i2 : (lh_is M)[j + 2]? = some (p2, .invokespecial 308, 3, j + 3, t2)) (i3 : (lh_is M)[j + 3]? = some (p3, .athrow, 1, j4, t3))
    (hd : Nat.ble 6 d = true) (hb1 : mc = bc + 1) (hb2 : ms = bs + 6) (hX : X h) : lh_G Γ M (lh_R d mc ms) (lh_ZC lh_noT (lh_ZX Γ Q X mc ms)) (bc + 1) (bs + 6) j lv [] h := by
  refine lh_useC (fun hM p e s m args below meth c ls H locs cells slots hP C hz hR hlv hc hs => ?_)
  obtain ⟨d0, e0⟩ := lh_fetch hM i0 rfl
  obtain ⟨d1, e1⟩ := lh_fetch hM i1 rfl
  obtain ⟨d2, e2⟩ := lh_fetch hM i2 rfl
  have d3 := lh_fetchE hM i3
  have hd6 := Nat.le_of_ble_eq_true hd
  have hc' : cells + (bc + 1) ≤ mc := hc
  have hs' : slots + (bs + 6) ≤ ms := hs
  obtain ⟨hx, hb, -, hml, how, hts, hlk, -, hK, hS0⟩ := C
  rw [hown] at how
  obtain ⟨y1, y2, y3⟩ := hY s hK.2.2.2.1
  have hat : ∀ w ∈ lh_nsw, w.before args s = true := by
    intro w hw
    by_cases g : goodWord w = true
    · exact hts w (List.mem_filter.mpr ⟨lh_nsw_in w (List.mem_filter.mpr ⟨hw, g⟩), g⟩)
    · have hm : w ∈ lh_nsw.filter (fun w => !goodWord w) := List.mem_filter.mpr ⟨hw, by simpa using g⟩
      exact va_tabs (lh_nsw_tb w hm) rfl (y3 w hm)
  have hSk : ∀ q : Nat, q < (lh_H0 Γ).size → ¬ lh_A Γ q → s.heap[q]? = (lh_H0 Γ)[q]? := hS0.2.1
  refine vx_throw0 (own := "LanternHall") (cls := lh_nse) (names := ["java/lang/RuntimeException", "java/lang/Exception"]) (ik := 306) (ic := 308) (A := lh_A Γ) hx hb hl how (by decide) (by decide) (hts _ (lh_ms_T (q := (5, 103)) (by decide +kernel))) (hts _ (lh_ms_T (q := (1, 23)) (by decide +kernel))) hat lh_nsw_ot
    (y1.kept hSk) (y2.kept hSk) ⟨hz, fun q h1 h2 => ?_, hR.1.2.2⟩ (hlv.1.trans hml.symm) d0 ?_ ?_ ?_ (fun x hx => (hP x hx).elim) ?_ ?_ ?_ ?_ hlk ?_ hR.1.2.2 ?_ ?_
  · have h3 : q < (lh_H0 Γ).size := Nat.lt_of_not_le h2
    rw [hR.1.2.1 q h3 h2, hSk q h3 h2]
  · rw [← e0]; exact d1
  · rw [show lh_pc (lh_is M) j + 4 = lh_pc (lh_is M) (j + 2) by omega]; exact d2
  · rw [show lh_pc (lh_is M) j + 7 = lh_pc (lh_is M) (j + 3) by omega]; exact d3
  · show 2 + 3 < d; omega
  · show 0 + (13 * (2 + 1) + 42) ≤ 64 * d; omega
  · show cells + 1 ≤ mc; omega
  · show slots + 6 ≤ ms; omega
  · intro t hA h1 h2
    exact ⟨rfl, h, _, hX, hR.junk h1 h2, by omega⟩
  · omega
  · omega
theorem lh_ofGX {d mc ms : Nat} {args : List Value} {Q : Option Value → lh_Hp → Prop} {X : lh_Hp → Prop} (hM : lh_okM M) (lv : List (Nat × Value)) (hlv : lv_args 0 args = lv) (hmx : ((lg_sl args).length ≤ lh_mx M))
    (h0 : lh_pc (lh_is M) 0 = 0) (k : lh_G Γ M (lh_R d mc ms) (lh_ZC lh_noT (lh_ZX Γ Q X mc ms)) mc ms 0 lv [] h) : lh_MeX Γ M d mc ms args h Q X := by
  refine vx_ofW (cc := lh_bs M) (maxL := lh_mx M) (ret := lh_rt M) hM.1.1 rfl ?_
  intro p e s m as below meth c s₁ B hml ht hv
  obtain ⟨rfl, hK, hR⟩ := hv
  have hts := atoms_spec (ws := Cond.code (lh_y M) (lh_bs M) (lh_mx M) (lh_rt M) :: lh_T) B.pre
  have hown : s.vm.findClass (lh_y M).cls = some m.cls := findClass_of_methodNamed B.named
  have hlen : (lg_sl (args.map (lh_tr Γ))).length = (lg_sl args).length := by
    clear k hlv hmx hR hts B
    induction args with
    | nil => rfl
    | cons v vs ih =>
      simp only [lg_sl, List.map_cons, List.flatMap_cons, List.length_append] at ih ⊢
      rw [ih, lh_tr_cat]
      split <;> rfl
  have hl := lv_entry (args.map (lh_tr Γ)) (n := lh_mx M) (by rw [hlen]; exact hmx)
  rw [lg_entry_eq]
  rw [lh_args, hlv] at hl
  have := k hM p e s m (args.map (lh_tr Γ)).toArray below meth c _ s.heap [] 0 0 ⟨B.exec, B.bytes, B.returns, hml, by rw [← hM.1.2]; exact hown, fun w hw => hts w (List.mem_cons_of_mem _ hw), B.notSynchronized, (name_of_methodNamed B.named B.method).1, hK, hR.1⟩ (Nat.le_refl _) hR hl (by show 0 + mc ≤ mc; omega) (by show 0 + ms ≤ ms; omega)
  rw [h0] at this
  exact lh_fromC ht this
theorem lh_ofGW {d mc ms : Nat} {args : List Value} {Q : Option Value → lh_Hp → Prop} {hh : List (Nat × Nat × Nat × Nat)} (hM : lh_okM M) (lv : List (Nat × Value)) (hlv : lv_args 0 args = lv) (hmx : ((lg_sl args).length ≤ lh_mx M))
    (h0 : lh_pc (lh_is M) 0 = 0) (k : lh_G Γ M (lh_R d mc ms) (lh_ZC (fun c => c.exceptionTable.toList = tableOf hh) (lh_Z Γ Q mc ms)) mc ms 0 lv [] h) : lh_MeW Γ M hh d mc ms args h Q := by
  refine va_MetW (cc := lh_bs M) (maxL := lh_mx M) (ret := lh_rt M) hM.1.1 rfl ?_
  intro p e s m as below meth c s₁ B hml hv
  obtain ⟨rfl, hK, hR⟩ := hv
  have hts := atoms_spec (ws := Cond.codeWith (lh_y M) (lh_bs M) (lh_mx M) (lh_rt M) hh :: lh_T) B.pre
  have ht := vx_table (x := lh_y M) B (hts _ List.mem_cons_self)
  have hown : s.vm.findClass (lh_y M).cls = some m.cls := findClass_of_methodNamed B.named
  have hlen : (lg_sl (args.map (lh_tr Γ))).length = (lg_sl args).length := by
    clear k hlv hmx hR hts B ht
    induction args with
    | nil => rfl
    | cons v vs ih =>
      simp only [lg_sl, List.map_cons, List.flatMap_cons, List.length_append] at ih ⊢
      rw [ih, lh_tr_cat]
      split <;> rfl
  have hl := lv_entry (args.map (lh_tr Γ)) (n := lh_mx M) (by rw [hlen]; exact hmx)
  rw [lg_entry_eq]
  rw [lh_args, hlv] at hl
  have := k hM p e s m (args.map (lh_tr Γ)).toArray below meth c _ s.heap [] 0 0 ⟨B.exec, B.bytes, B.returns, hml, by rw [← hM.1.2]; exact hown, fun w hw => hts w (List.mem_cons_of_mem _ hw), B.notSynchronized, (name_of_methodNamed B.named B.method).1, hK, hR.1⟩ (Nat.le_refl _) hR hl (by show 0 + mc ≤ mc; omega) (by show 0 + ms ≤ ms; omega)
  rw [h0] at this
  exact lh_fromC ht this
/-- a call that returns, or throws into a handler of this method which keeps the exception and goes on -/
theorem lh_cXi {N : lh_M} {d mc ms o n ci na idx i jh jn th i6 : Nat} {As sk : List Value} {K : Int32 → lh_Hp → Prop} {KX : lh_Hp → Prop} (hY : lh_GY Γ) (hown : (lh_ct M).1 = "LanternHallLaw") (hj : (lh_is M)[j]? = some (pc, .invokevirtual idx, 3, j', i)) (hl : ((lh_ct M).2.2.1)[i]? = some (idx, lh_y N)) (hN : lh_okV N na) (ho : h.2.2.2[o]? = some (ci + 6, n)) (hcn : (lh_cls[ci]?).map (fun r => r.1) = some (lh_y N).cls)
    (hna : As.length = na) (hsk : As.reverse ++ .ref (o + 4) :: st = sk) (hd : Nat.ble (d + 1) R.frames = true ∧ Nat.ble (64 * (d + 1)) R.locals = true) (hst : Nat.ble ((st.map fun v => v.category).sum) 8 = true)
    (hcov : Nat.ble 0 pc = true ∧ Nat.ble (pc + 1) 14 = true) (hh : (lh_is M)[jh]? = some (17, .astore i6, 2, jn, th)) (hi6 : Nat.ble (i6 + 1) (lh_mx M) = true) (hlv6 : lv.all (fun q => !(q.1 == i6) && !(q.1 + 1 == i6 && q.2.category == 2)) = true)
    (hm : lh_MeX Γ N d mc ms (.ref (o + 4) :: As) h (lh_ki K) KX)
    (kk : ∀ x h', K x h' → lh_G Γ M R (lh_ZC (fun c => c.exceptionTable.toList = tableOf [(0, 14, 17, 13)]) Z0) bc bs j' lv (.int x :: st) h')
    (kx : ∀ h' k, KX h' → lh_G Γ M R (lh_ZC (fun c => c.exceptionTable.toList = tableOf [(0, 14, 17, 13)]) Z0) bc bs jn lv [] (lh_ju h' k)) : lh_G Γ M R (lh_ZC (fun c => c.exceptionTable.toList = tableOf [(0, 14, 17, 13)]) Z0) (bc + mc) (bs + ms) j lv sk h := by
  refine lh_useC (fun hM p e s m args below meth c ls H locs cells slots hP C hz hR hv hc hs => ?_)
  obtain ⟨hdc, hn⟩ := lh_fetch hM hj rfl
  obtain ⟨hdh, hnh⟩ := lh_fetch hM hh rfl
  have hpj : lh_pc (lh_is M) j = pc := by unfold lh_pc; rw [hj]
  have hph : lh_pc (lh_is M) jh = 17 := by unfold lh_pc; rw [hh]
  have C' := C
  obtain ⟨hx, hb, -, hml, how, hts, -, -, hK, -⟩ := C
  obtain ⟨⟨hNM, hcd⟩, hpl, hpa, hmx, w1, w2, w3⟩ := hN
  have hd1 := Nat.le_of_ble_eq_true hd.1
  have hd2 := Nat.le_of_ble_eq_true hd.2
  have hst' := Nat.le_of_ble_eq_true hst
  have cb := callB_of (Ts := lh_T) (own := (lh_ct M).1) (index := idx) (y := lh_y N) (R := R) (rm := lh_R d mc ms) (mc := mc) (ms := ms) na hts (lh_goodIn _ hcd) rfl rfl rfl (hts _ w3) (hts _ (lh_link hM hl)) ⟨hpl.1, hpl.2, hpa⟩ ⟨hd1, by show 8 + (lh_mx N + 11) + 64 * d ≤ R.locals; omega⟩
  obtain ⟨r, hr⟩ : ∃ r, lh_cls[ci]? = some r := by
    cases h9 : lh_cls[ci]? with
    | none => rw [h9] at hcn; cases hcn
    | some r => exact ⟨r, rfl⟩
  obtain ⟨cell, q1, q2, q3, -⟩ := (hR.2.2 o _ ho).2 r hr
  rw [hr] at hcn
  have hcn' : r.1 = (lh_y N).cls := Option.some.inj hcn
  have hrun := vx_runV (l := lh_l Γ) (e := e) (below := below) (meth := meth) (locs := locs) (cells := cells) (slots := slots) (cc := lh_bs M) (nL := lh_mx M) (As := As.map (lh_tr Γ)) (rest := st.map (lh_tr Γ)) (g := F0 m (lh_pc (lh_is M) j) ls (sk.map (lh_tr Γ))) ⟨hx, hb, hml, how, hts⟩ hm ⟨cb, hts _ w1, hts _ w2⟩
    ⟨lh_blind _, ⟨cell, q1, by rw [q3]; rfl, by rw [← hcn', q2]; exact (hK.1.1 ci r hr).2.1⟩, fun U hU hW => ⟨rfl, hK.warm hW, by rw [hU]; exact hR.nil⟩⟩ rfl (by rw [List.length_map]; exact hna) hv.1 (by rw [← hsk]; simp [List.map_reverse]; rfl) (by rw [lh_tr_sum]; show 2 * 0 + _ ≤ 8; omega) hdc ⟨by omega, by omega⟩
  intro T hT X
  rcases hrun T hT X with ⟨v, st₀, t, T', L, g0, X', hL, e1, e2, ⟨r9, h', hv9, hQ, hR', hz9⟩, stp⟩ | ⟨q, st₀, t, T', L, E, ce, g0, X', hL, e1, e2, ⟨rfl, h', n9, hKX, hR', hz9⟩, hce, hcv, hcl, stp⟩
  · match r9, hQ with
    | some (.int x9), hQ =>
      have hv' : v = some (.int x9) := by injection hv9
      subst hv'
      rw [g0] at hz9
      have hk := kk x9 h' hQ hM p e s m args below meth c ls T'.heap (locs ++ L) (cells + mc) (slots + ms) C' (by rw [e1]; omega) ⟨⟨by rw [e1]; exact hR'.1.1, by rw [e1]; exact hR'.1.2.1, fun l hl => by
        rcases List.mem_append.mp hl with h | h
        · exact hR.1.2.2 l h
        · exact hL l h⟩, by rw [e1]; exact hR'.2.1, by rw [e1]; exact hR'.2.2⟩ hv (by omega) (by omega)
      rw [hn] at hk
      obtain ⟨t2, a1, b1⟩ := lh_fromC hP hk T' rfl X'
      exact ⟨t2, stp t2 a1, b1⟩
  · rw [g0] at hz9
    have hk := kx h' n9 hKX
    have hlink : (Cond.classLink "LanternHallLaw" 13 lh_nse).before args s = true := hts _ (lh_ms_T (q := (5, 95)) (by decide +kernel))
    have hcast : (Cond.castable lh_nse lh_nse).before args s = true := va_tabs (lh_nsw_tb _ lh_nsw_cs) rfl ((hY s hK.2.2.2.1).2.2 _ lh_nsw_cs)
    have hcov1 := Nat.le_of_ble_eq_true hcov.2
    have hW := lx_catch (l := lh_l Γ) (R := R) (locs := locs ++ L) (cells := cells + mc) (slots := slots + ms) (below := below) (meth := meth) (e := e) (p := p) (Q := Z0 below args s) (pc := lh_pc (lh_is M) j) (ls := ls) (rest := st.map (lh_tr Γ)) (H := T'.heap) (own := "LanternHallLaw") (name := lh_nse) (E := lh_nse) (ce := ce) (q := q) (by rw [← hown]; exact how) ⟨0, 14, 17, 13⟩ [] hP (by rw [hpj]; simp [covers]; omega) (by decide) hlink hcast (by rw [e1]; exact hce) hcv hcl (by
      show W p (lh_l Γ) e R s m args below meth c T'.heap (locs ++ L) (cells + mc) (slots + ms) (Z0 below args s) (F0 m 17 ls (.ref q :: []))
      rw [hph] at hdh hnh
      refine lv_astore hx hb hdh hv (Nat.le_of_ble_eq_true hi6) rfl (fun ls' hl' => ?_)
      have hv2 : lv_has ls' (lh_mx M) (lh_lv Γ lv) := ⟨hl'.1, hl'.2.1, fun q hq => hl'.2.2 q (List.mem_cons_of_mem _ (List.mem_filter.mpr ⟨hq, by
        obtain ⟨q0, h0, rfl⟩ := List.mem_map.mp hq
        have := List.all_eq_true.mp hlv6 q0 h0
        simp only [lh_tr_cat]
        exact this⟩))⟩
      have hk2 := hk hM p e s m args below meth c ls' T'.heap (locs ++ L) (cells + mc) (slots + ms) C' (by rw [e1]; omega) ⟨⟨by rw [e1]; exact hR'.1.1, by rw [e1]; exact hR'.1.2.1, fun l hl => by
        rcases List.mem_append.mp hl with h | h
        · exact hR.1.2.2 l h
        · exact hL l h⟩, by rw [e1]; exact hR'.2.1, by rw [e1]; exact hR'.2.2⟩ hv2 (by omega) (by omega)
      rw [hnh] at hk2
      exact lh_fromC hP hk2)
    obtain ⟨t2, a1, b1⟩ := hW T' rfl X'
    exact ⟨t2, stp.trans a1, b1⟩
end LHTHR
def f_LH_rests_20 (a : Nat) (b : Nat) (v1 : Int32) (v2 : Int32) (v3 : Int32) (v4 : Int32) : Nat → Int32 → Int32 → Option (Nat × Int32 × Int32)
  | 0, _, _ => none
  | n + 1, v5, v6 => if 4 ≤ v6 then some (1, v5, v6) else lh_bd (f_LH_isAtRest (v6 >>> ((1 : Int32) &&& 31)) (v6 &&& 1) v1 v2 v3) fun r12 => if r12 = 0 then f_LH_rests_20 a b v1 v2 v3 v4 n v5 (v6 + 1) else lh_bd (f_LH_isAtRest (v6 &&& 1) (v6 >>> ((1 : Int32) &&& 31)) v1 v2 v3) fun r15 => if r15 = 0 then f_LH_rests_20 a b v1 v2 v3 v4 n v5 (v6 + 1) else if v5 = v4 then some (0, v5, v6) else f_LH_rests_20 a b v1 v2 v3 v4 n (v5 + 1) (v6 + 1)
def f_LH_rests (a : Nat) (b : Nat) (x1 : Int32) (x2 : Int32) (x3 : Int32) (x4 : Int32) : Option (Option Int32) := lh_bd (f_LH_isPay x1) fun r1 => if r1 = 0 then some none else lh_bd (f_LH_isPay x2) fun r4 => if r4 = 0 then some none else lh_bd (f_LH_isPay x3) fun r7 => if r7 = 0 then some none else if (-1) ≤ x4 then lh_bd (f_LH_rests_20 a b x1 x2 x3 x4 lh_fuel 0 0) fun r19 => if r19.1 = 0 then some (some r19.2.2) else if x4 = (-1) then some (some r19.2.1) else some none else some none
theorem t_LH_rests_20 {Γ : lh_Cx} {F : lh_FF} {S : lh_SS} {Z : List Frame → Array Value → State → State → Prop} (hG : lh_GX Γ) (hS : lh_lay F S) {a : Nat} (ha : lh_hl F S a) (hA : F (0 + 4) 6 = a + 4) {b : Nat} (hb : lh_nl F S b) (hB : F (0 + 4) 8 = b + 4) {v1 : Int32} {v2 : Int32} {v3 : Int32} {v4 : Int32} {I : lh_II} {L : lh_LL} : ∀ (n : Nat) (v5 : Int32) (v6 : Int32) (o : Nat × Int32 × Int32), f_LH_rests_20 a b v1 v2 v3 v4 n v5 v6 = some o → ∀ (x0_ : o.1 = 0 → lh_G Γ m_LH_rests (lh_R 8 1 6) Z 1 6 48 [(6, .int o.2.2)] [] (I, L, F, S)), ∀ (x1_ : o.1 = 1 → lh_G Γ m_LH_rests (lh_R 8 1 6) Z 1 6 53 [(4, .int v4), (5, .int o.2.1)] [] (I, L, F, S)), lh_G Γ m_LH_rests (lh_R 8 1 6) Z 1 6 20 [(1, .int v1), (2, .int v2), (3, .int v3), (4, .int v4), (5, .int v5), (6, .int v6)] [] (I, L, F, S) := by
  intro n
  induction n with
  | zero => intro v5 v6 o hf; cases hf
  | succ n ih =>
    intro v5 v6 o hf x0_ x1_
    rw [f_LH_rests_20] at hf
    refine lh_iload (q := 5) rfl rfl ?_
    refine lh_iconst rfl lh_k_4 ?_
    refine lh_icmp_ge rfl (fun c11 => ?_) (fun c11 => ?_)
    · have hf := lh_ifT hf c11
      exact lh_less [3, 4] rfl (by cases hf; exact x1_ rfl)
    · have hf := lh_ifF hf c11
      refine lh_iload (q := 5) rfl rfl ?_
      refine lh_iconst rfl lh_k_1 ?_
      refine lh_ishr rfl ?_
      refine lh_istore (lv' := [(1, .int v1), (2, .int v2), (3, .int v3), (4, .int v4), (5, .int v5), (6, .int v6), (7, .int (v6 >>> ((1 : Int32) &&& 31)))]) rfl rfl rfl ?_
      refine lh_iload (q := 5) rfl rfl ?_
      refine lh_iconst rfl lh_k_1 ?_
      refine lh_iand rfl ?_
      refine lh_istore (lv' := [(1, .int v1), (2, .int v2), (3, .int v3), (4, .int v4), (5, .int v5), (6, .int v6), (7, .int (v6 >>> ((1 : Int32) &&& 31))), (8, .int (v6 &&& 1))]) rfl rfl rfl ?_
      refine lh_iload (q := 6) rfl rfl ?_
      refine lh_iload (q := 7) rfl rfl ?_
      refine lh_iload_n (q := 0) rfl rfl rfl ?_
      refine lh_iload_n (q := 1) rfl rfl rfl ?_
      refine lh_iload_n (q := 2) rfl rfl rfl ?_
      refine lh_bdE hf (fun r12 e13 hf => ?_)
      refine lh_cSi (N := m_LH_isAtRest) (d := 1) (As := [.int (v6 >>> ((1 : Int32) &&& 31)), .int (v6 &&& 1), .int v1, .int v2, .int v3]) (st := []) rfl rfl v_LH_isAtRest rfl rfl ⟨rfl, rfl⟩ rfl (t_LH_isAtRest hG hS e13 ?_)
      refine lh_if_eq rfl (fun c14 => ?_) (fun c14 => ?_)
      · have hf := lh_ifT hf c14
        refine lh_iinc (q := 5) (v := (v6 + 1)) (lv' := [(1, .int v1), (2, .int v2), (3, .int v3), (4, .int v4), (5, .int v5), (6, .int (v6 + 1)), (7, .int (v6 >>> ((1 : Int32) &&& 31))), (8, .int (v6 &&& 1))]) rfl rfl (congrArg (v6 + ·) (by decide)) rfl rfl ?_
        refine lh_goto rfl ?_
        refine lh_less [0, 1, 2, 3, 4, 5] rfl ?_
        exact ih v5 (v6 + 1) _ hf x0_ x1_
      · have hf := lh_ifF hf c14
        refine lh_iload (q := 7) rfl rfl ?_
        refine lh_iload (q := 6) rfl rfl ?_
        refine lh_iload_n (q := 0) rfl rfl rfl ?_
        refine lh_iload_n (q := 1) rfl rfl rfl ?_
        refine lh_iload_n (q := 2) rfl rfl rfl ?_
        refine lh_bdE hf (fun r15 e16 hf => ?_)
        refine lh_cSi (N := m_LH_isAtRest) (d := 1) (As := [.int (v6 &&& 1), .int (v6 >>> ((1 : Int32) &&& 31)), .int v1, .int v2, .int v3]) (st := []) rfl rfl v_LH_isAtRest rfl rfl ⟨rfl, rfl⟩ rfl (t_LH_isAtRest hG hS e16 ?_)
        refine lh_if_eq rfl (fun c17 => ?_) (fun c17 => ?_)
        · have hf := lh_ifT hf c17
          refine lh_iinc (q := 5) (v := (v6 + 1)) (lv' := [(1, .int v1), (2, .int v2), (3, .int v3), (4, .int v4), (5, .int v5), (6, .int (v6 + 1)), (7, .int (v6 >>> ((1 : Int32) &&& 31))), (8, .int (v6 &&& 1))]) rfl rfl (congrArg (v6 + ·) (by decide)) rfl rfl ?_
          refine lh_goto rfl ?_
          refine lh_less [0, 1, 2, 3, 4, 5] rfl ?_
          exact ih v5 (v6 + 1) _ hf x0_ x1_
        · have hf := lh_ifF hf c17
          refine lh_iload (q := 4) rfl rfl ?_
          refine lh_iload (q := 3) rfl rfl ?_
          refine lh_icmp_ne rfl (fun c18 => ?_) (fun c18 => ?_)
          · have hf := lh_ifF hf c18
            refine lh_iinc (q := 4) (v := (v5 + 1)) (lv' := [(1, .int v1), (2, .int v2), (3, .int v3), (4, .int v4), (5, .int (v5 + 1)), (6, .int v6), (7, .int (v6 >>> ((1 : Int32) &&& 31))), (8, .int (v6 &&& 1))]) rfl rfl (congrArg (v5 + ·) (by decide)) rfl rfl ?_
            refine lh_iinc (q := 5) (v := (v6 + 1)) (lv' := [(1, .int v1), (2, .int v2), (3, .int v3), (4, .int v4), (5, .int (v5 + 1)), (6, .int (v6 + 1)), (7, .int (v6 >>> ((1 : Int32) &&& 31))), (8, .int (v6 &&& 1))]) rfl rfl (congrArg (v6 + ·) (by decide)) rfl rfl ?_
            refine lh_goto rfl ?_
            refine lh_less [0, 1, 2, 3, 4, 5] rfl ?_
            exact ih (v5 + 1) (v6 + 1) _ hf x0_ x1_
          · have hf := lh_ifT hf c18
            exact lh_less [5] rfl (by cases hf; exact x0_ rfl)
theorem t_LH_rests {Γ : lh_Cx} {I : lh_II} {L : lh_LL} {F : lh_FF} {S : lh_SS} {K : Option Int32 → lh_Hp → Prop} {r : Option Int32} (hG : lh_GX Γ) (hY : lh_GY Γ) (hl : (lh_l Γ).stackTraces = false) (hS : lh_lay F S) {a : Nat} (ha : lh_hl F S a) (hA : F (0 + 4) 6 = a + 4) {b : Nat} (hb : lh_nl F S b) (hB : F (0 + 4) 8 = b + 4) {x1 : Int32} {x2 : Int32} {x3 : Int32} {x4 : Int32} (hf : f_LH_rests a b x1 x2 x3 x4 = some r) (hK : K r (I, L, F, S)) : lh_MeX Γ m_LH_rests 8 1 6 [.ref (0 + 4), .int x1, .int x2, .int x3, .int x4] (I, L, F, S) (lh_ki fun x h => K (some x) h) (fun h => K none h) := by
  rw [f_LH_rests] at hf
  refine lh_ofGX k_LH_rests [(0, .ref (0 + 4)), (1, .int x1), (2, .int x2), (3, .int x3), (4, .int x4)] rfl (Nat.le_of_ble_eq_true rfl) rfl ?_
  refine lh_iload_n (q := 1) rfl rfl rfl ?_
  refine lh_bdE hf (fun r1 e2 hf => ?_)
  refine lh_cSi (N := m_LH_isPay) (d := 0) (As := [.int x1]) (st := []) rfl rfl v_LH_isPay rfl rfl ⟨rfl, rfl⟩ rfl (t_LH_isPay hG hS e2 ?_)
  refine lh_if_eq rfl (fun c3 => ?_) (fun c3 => ?_)
  · have hf := lh_ifT hf c3
    exact lh_thr hY hl rfl rfl rfl rfl rfl rfl rfl rfl (by obtain rfl := Option.some.inj hf; exact hK)
  · have hf := lh_ifF hf c3
    refine lh_iload_n (q := 2) rfl rfl rfl ?_
    refine lh_bdE hf (fun r4 e5 hf => ?_)
    refine lh_cSi (N := m_LH_isPay) (d := 0) (As := [.int x2]) (st := []) rfl rfl v_LH_isPay rfl rfl ⟨rfl, rfl⟩ rfl (t_LH_isPay hG hS e5 ?_)
    refine lh_if_eq rfl (fun c6 => ?_) (fun c6 => ?_)
    · have hf := lh_ifT hf c6
      exact lh_thr hY hl rfl rfl rfl rfl rfl rfl rfl rfl (by obtain rfl := Option.some.inj hf; exact hK)
    · have hf := lh_ifF hf c6
      refine lh_iload_n (q := 3) rfl rfl rfl ?_
      refine lh_bdE hf (fun r7 e8 hf => ?_)
      refine lh_cSi (N := m_LH_isPay) (d := 0) (As := [.int x3]) (st := []) rfl rfl v_LH_isPay rfl rfl ⟨rfl, rfl⟩ rfl (t_LH_isPay hG hS e8 ?_)
      refine lh_if_eq rfl (fun c9 => ?_) (fun c9 => ?_)
      · have hf := lh_ifT hf c9
        exact lh_thr hY hl rfl rfl rfl rfl rfl rfl rfl rfl (by obtain rfl := Option.some.inj hf; exact hK)
      · have hf := lh_ifF hf c9
        refine lh_iload (q := 4) rfl rfl ?_
        refine lh_iconst rfl lh_k_m1 ?_
        refine lh_icmp_ge rfl (fun c10 => ?_) (fun c10 => ?_)
        · have hf := lh_ifT hf c10
          refine lh_iconst rfl lh_k_0 ?_
          refine lh_istore (lv' := [(0, .ref (0 + 4)), (1, .int x1), (2, .int x2), (3, .int x3), (4, .int x4), (5, .int 0)]) rfl rfl rfl ?_
          refine lh_iconst rfl lh_k_0 ?_
          refine lh_istore (lv' := [(0, .ref (0 + 4)), (1, .int x1), (2, .int x2), (3, .int x3), (4, .int x4), (5, .int 0), (6, .int 0)]) rfl rfl rfl ?_
          refine lh_bdE hf (fun r19 e20 hf => ?_)
          refine lh_less [1, 2, 3, 4, 5, 6] rfl ?_
          refine t_LH_rests_20 hG hS ha hA hb hB _ 0 0 _ e20 (fun q0_ => ?_) (fun q1_ => ?_)
          · have hf := lh_ifT hf q0_
            refine lh_iload (q := 0) rfl rfl ?_
            exact lh_toX (lh_iret rfl rfl rfl (by obtain rfl := Option.some.inj hf; exact hK))
          · have hf := lh_ifF hf (by rw [q1_]; decide)
            refine lh_iload (q := 0) rfl rfl ?_
            refine lh_iconst rfl lh_k_m1 ?_
            refine lh_icmp_eq rfl (fun c21 => ?_) (fun c21 => ?_)
            · have hf := lh_ifT hf c21
              refine lh_iload (q := 1) rfl rfl ?_
              exact lh_toX (lh_iret rfl rfl rfl (by obtain rfl := Option.some.inj hf; exact hK))
            · have hf := lh_ifF hf c21
              exact lh_thr hY hl rfl rfl rfl rfl rfl rfl rfl rfl (by obtain rfl := Option.some.inj hf; exact hK)
        · have hf := lh_ifF hf c10
          exact lh_thr hY hl rfl rfl rfl rfl rfl rfl rfl rfl (by obtain rfl := Option.some.inj hf; exact hK)
def i_LL_rests : List lh_I := [(0, .aload 5, 2, 1, 0), (2, .iconst 0, 1, 2, 0), (3, .aload_n 0, 1, 3, 0), (4, .iload_n 1, 1, 4, 0), (5, .iload_n 2, 1, 5, 0), (6, .iload_n 3, 1, 6, 0), (7, .iload 4, 2, 7, 0), (9, .invokevirtual 7, 3, 8, 0), (12, .i2l, 1, 9, 0), (13, .lastore, 1, 10, 0), (14, .goto 7, 3, 11, 14), (17, .astore 6, 2, 12, 0), (19, .iconst 1, 1, 13, 0), (20, .ireturn, 1, 14, 0), (21, .iconst 0, 1, 15, 0), (22, .ireturn, 1, 16, 0)]
def m_LL_rests : lh_M := (ct_LL, ⟨"LanternHallLaw", "rests", "(LLanternHall;IIII[J)I"⟩, method_3_code, 7, (some .int), i_LL_rests)
theorem k_LL_rests : lh_okM m_LL_rests := ⟨⟨by decide +kernel, rfl⟩, by decide +kernel, trivial, c_LL⟩
theorem t_LL_rests {Γ : lh_Cx} {I : lh_II} {L : lh_LL} {F : lh_FF} {S : lh_SS} {K : Int32 → lh_Hp → Prop} {r : Option Int32} (hG : lh_GX Γ) (hY : lh_GY Γ) (hl : (lh_l Γ).stackTraces = false) (hS : lh_lay F S) {a : Nat} (ha : lh_hl F S a) (hA : F (0 + 4) 6 = a + 4) {b : Nat} (hb : lh_nl F S b) (hB : F (0 + 4) 8 = b + 4) (h81 : S[81]? = some (1, 1)) {x1 : Int32} {x2 : Int32} {x3 : Int32} {x4 : Int32} (hf : f_LH_rests a b x1 x2 x3 x4 = some r)
    (hKs : ∀ x, r = some x → K 0 (I, lh_v2 L (81 + 4) 0 x.toInt64, F, S)) (hKn : r = none → ∀ k, K 1 (lh_ju (I, L, F, S) k)) : lh_MeW Γ m_LL_rests [(0, 14, 17, 13)] 9 1 6 [.ref (0 + 4), .int x1, .int x2, .int x3, .int x4, .ref (81 + 4)] (I, L, F, S) (lh_ki K) := by
  refine lh_ofGW k_LL_rests [(0, .ref (0 + 4)), (1, .int x1), (2, .int x2), (3, .int x3), (4, .int x4), (5, .ref (81 + 4))] rfl (Nat.le_of_ble_eq_true rfl) rfl ?_
  refine lh_aload (q := 5) rfl rfl ?_
  refine lh_iconst rfl lh_k_0 ?_
  refine lh_aload_n (q := 0) rfl rfl rfl ?_
  refine lh_iload_n (q := 1) rfl rfl rfl ?_
  refine lh_iload_n (q := 2) rfl rfl rfl ?_
  refine lh_iload_n (q := 3) rfl rfl rfl ?_
  refine lh_iload (q := 4) rfl rfl ?_
  refine lh_cXi (N := m_LH_rests) (d := 8) (mc := 1) (ms := 6) (bc := 0) (bs := 0) (o := 0) (jh := 11) (jn := 12) (i6 := 6) (As := [.int x1, .int x2, .int x3, .int x4]) (st := [.int 0, .ref (81 + 4)]) (K := fun x h => r = some x ∧ h = (I, L, F, S)) (KX := fun h => r = none ∧ h = (I, L, F, S)) hY rfl rfl rfl v_LH_rests (hS.1 0 _ rfl) rfl rfl rfl ⟨rfl, rfl⟩ rfl ⟨rfl, rfl⟩ rfl rfl rfl
    (t_LH_rests (K := fun x h => r = x ∧ h = (I, L, F, S)) hG hY hl hS ha hA hb hB hf ⟨rfl, rfl⟩) ?_ ?_
  · rintro x h' ⟨e, rfl⟩
    refine lh_i2l rfl ?_
    refine lh_last5 (k := 0) rfl h81 (by decide) (by decide) ?_
    refine lh_goto rfl ?_
    refine lh_iconst rfl lh_k_0 ?_
    exact lh_toC (lh_iret rfl rfl rfl (hKs x e))
  · rintro h' k ⟨e, rfl⟩
    refine lh_iconst rfl lh_k_1 ?_
    exact lh_toC (lh_iret rfl rfl rfl (hKn e k))
