/-! A judgement over W: a method's frame at an instruction's number, its locals and stack with refs as numbers of objects, a heap as three tables (ints, longs, refs) and shapes -/
abbrev lh_Cx : Type := Launch × Heap × Nat × (Nat → Int32) × va_G × (Nat → ClassId) × (Nat → Nat) × (State → Prop)
abbrev lh_l (Γ : lh_Cx) : Launch := Γ.1
abbrev lh_H0 (Γ : lh_Cx) : Heap := Γ.2.1
abbrev lh_L (Γ : lh_Cx) : Nat := Γ.2.2.1
abbrev lh_xs (Γ : lh_Cx) : Nat → Int32 := Γ.2.2.2.1
abbrev lh_D (Γ : lh_Cx) : va_G := Γ.2.2.2.2.1
abbrev lh_cA (Γ : lh_Cx) : Nat → ClassId := Γ.2.2.2.2.2.1
abbrev lh_sp (Γ : lh_Cx) : Nat → Nat := Γ.2.2.2.2.2.2.1
abbrev lh_X (Γ : lh_Cx) : State → Prop := Γ.2.2.2.2.2.2.2
def lh_A (Γ : lh_Cx) : Nat → Prop := fun q => (lh_H0 Γ).size ≤ q
def lh_ad (Γ : lh_Cx) : Nat → Nat
  | 0 => lh_sp Γ 0
  | 1 => lh_sp Γ 1
  | 2 => lh_sp Γ 2
  | 3 => lh_sp Γ 3
  | k + 4 => (lh_H0 Γ).size + k
def lh_tr (Γ : lh_Cx) : Value → Value
  | .ref a => .ref (lh_ad Γ a)
  | v => v
theorem lh_tr_cat (Γ : lh_Cx) (v : Value) : (lh_tr Γ v).category = v.category := by cases v <;> rfl
theorem lh_tr_sum (Γ : lh_Cx) (st : List Value) : ((st.map (lh_tr Γ)).map fun v => v.category).sum = (st.map fun v => v.category).sum := by
  rw [List.map_map]
  congr 1
  apply List.map_congr_left
  intro v _
  exact lh_tr_cat Γ v
/-- ints, longs, refs by object and place; shapes -/
abbrev lh_Hp : Type := (Nat → Nat → Int32) × (Nat → Nat → Int64) × (Nat → Nat → Nat) × List (Nat × Nat)
def lh_rv (Γ : lh_Cx) : Nat → Value
  | k + 4 => .ref ((lh_H0 Γ).size + k)
  | _ => .null
def lh_fv (Γ : lh_Cx) (h : lh_Hp) (o k : Nat) : Nat → Value
  | 0 => .int (h.1 o k)
  | 1 => .long (h.2.1 o k)
  | 2 => lh_rv Γ (h.2.2.1 o k)
  | _ => .int (h.1 o k)
def lh_obj (Γ : lh_Cx) (h : lh_Hp) (k ci : Nat) (H : Heap) : Prop :=
  (lh_H0 Γ).size + k < H.size ∧ ∀ r : vw_C, lh_cls[ci]? = some r → t_OB ((lh_H0 Γ).size + k) ((lh_D Γ).1 ci) r.2.2 ((lh_D Γ).2 ci) H (fun j => lh_fv Γ h (k + 4) j (lh_tag ci j))
def lh_at (Γ : lh_Cx) (h : lh_Hp) (k : Nat) (q : Nat × Nat) (H : Heap) : Prop := match q.1 with
  | 0 => H[(lh_H0 Γ).size + k]? = some (arrV (lh_cA Γ 0) q.2 (fun j => .int (h.1 (k + 4) j)))
  | 1 => H[(lh_H0 Γ).size + k]? = some (arrV (lh_cA Γ 1) q.2 (fun j => .long (h.2.1 (k + 4) j)))
  | 2 => H[(lh_H0 Γ).size + k]? = some (arrV (lh_cA Γ 2) q.2 (fun j => .int (h.1 (k + 4) j)))
  | 3 => H[(lh_H0 Γ).size + k]? = some (arrV (lh_cA Γ 3) q.2 (fun j => .int (h.1 (k + 4) j)))
  | 4 => H[(lh_H0 Γ).size + k]? = some (arrV (lh_cA Γ 4) q.2 (fun j => lh_rv Γ (h.2.2.1 (k + 4) j)))
  | 5 => H[(lh_H0 Γ).size + k]? = some (arrV (lh_cA Γ 5) q.2 (fun j => lh_rv Γ (h.2.2.1 (k + 4) j)))
  | ci + 6 => lh_obj Γ h k ci H
def lh_Rel (Γ : lh_Cx) (h : lh_Hp) (H : Heap) (locs : List Loc) : Prop :=
  va_S (lh_A Γ) (lh_H0 Γ) H locs ∧ H.size = (lh_H0 Γ).size + h.2.2.2.length ∧ ∀ (k : Nat) (q : Nat × Nat), h.2.2.2[k]? = some q → lh_at Γ h k q H
theorem lh_at.kept {Γ : lh_Cx} {h h' : lh_Hp} {k : Nat} {q : Nat × Nat} {H H1 : Heap} (hk : lh_at Γ h k q H) (hq : H1[(lh_H0 Γ).size + k]? = H[(lh_H0 Γ).size + k]?)
    (e1 : h'.1 (k + 4) = h.1 (k + 4)) (e2 : h'.2.1 (k + 4) = h.2.1 (k + 4)) (e3 : h'.2.2.1 (k + 4) = h.2.2.1 (k + 4)) : lh_at Γ h' k q H1 := by
  obtain ⟨t, n⟩ := q
  have hfv : ∀ j, lh_fv Γ h' (k + 4) j = lh_fv Γ h (k + 4) j := by
    intro j
    funext t
    match t with
    | 0 => simp only [lh_fv, e1]
    | 1 => simp only [lh_fv, e2]
    | 2 => simp only [lh_fv, e3]
    | t + 3 => simp only [lh_fv, e1]
  match t, hk with
  | 0, hk => simp only [lh_at, e1] at hk ⊢; exact hq.trans hk
  | 1, hk => simp only [lh_at, e2] at hk ⊢; exact hq.trans hk
  | 2, hk => simp only [lh_at, e1] at hk ⊢; exact hq.trans hk
  | 3, hk => simp only [lh_at, e1] at hk ⊢; exact hq.trans hk
  | 4, hk => simp only [lh_at, e3] at hk ⊢; exact hq.trans hk
  | 5, hk => simp only [lh_at, e3] at hk ⊢; exact hq.trans hk
  | ci + 6, hk =>
    obtain ⟨h1, h2⟩ := hk
    refine ⟨?_, fun r hr => ?_⟩
    · rw [Array.getElem?_eq_getElem h1] at hq
      exact (Array.getElem?_eq_some_iff.mp hq).1
    · have := (h2 r hr).kept hq
      simp only [hfv]
      exact this
theorem lh_at.lt {Γ : lh_Cx} {h : lh_Hp} {k : Nat} {q : Nat × Nat} {H : Heap} (hk : lh_at Γ h k q H) : (lh_H0 Γ).size + k < H.size := by
  obtain ⟨t, n⟩ := q
  match t, hk with
  | 0, hk => exact (Array.getElem?_eq_some_iff.mp hk).1
  | 1, hk => exact (Array.getElem?_eq_some_iff.mp hk).1
  | 2, hk => exact (Array.getElem?_eq_some_iff.mp hk).1
  | 3, hk => exact (Array.getElem?_eq_some_iff.mp hk).1
  | 4, hk => exact (Array.getElem?_eq_some_iff.mp hk).1
  | 5, hk => exact (Array.getElem?_eq_some_iff.mp hk).1
  | ci + 6, hk =>
    exact hk.1
/-- one object is written: the rest stays -/
theorem lh_Rel.set {Γ : lh_Cx} {h h' : lh_Hp} {H H1 : Heap} {locs : List Loc} {k i : Nat} {q : Nat × Nat} (hR : lh_Rel Γ h H locs) (hq : h.2.2.2[k]? = some q) (hs : h'.2.2.2 = h.2.2.2)
    (e1 : ∀ a, a ≠ k + 4 → h'.1 a = h.1 a) (e2 : ∀ a, a ≠ k + 4 → h'.2.1 a = h.2.1 a) (e3 : ∀ a, a ≠ k + 4 → h'.2.2.1 a = h.2.2.1 a)
    (hn : lh_at Γ h' k q H1) (hz : H1.size = H.size) (ho : ∀ x, x ≠ (lh_H0 Γ).size + k → H1[x]? = H[x]?) : lh_Rel Γ h' H1 (locs ++ [⟨(lh_H0 Γ).size + k, i⟩]) := by
  obtain ⟨⟨s1, s2, s3⟩, hsz, hat⟩ := hR
  refine ⟨⟨by rw [hz]; exact s1, fun x h1 h2 => ?_, fun l hl => ?_⟩, by rw [hz, hsz, hs], fun k2 q2 h2 => ?_⟩
  · rw [ho x (fun e => h2 (by rw [e]; exact Nat.le_add_right _ _))]
    exact s2 x h1 h2
  · rcases List.mem_append.mp hl with h9 | h9
    · exact s3 l h9
    · rw [List.mem_singleton] at h9
      subst h9
      exact Nat.le_add_right _ _
  · rw [hs] at h2
    by_cases hk : k2 = k
    · subst hk
      cases hq.symm.trans h2
      exact hn
    · exact (hat k2 q2 h2).kept (ho _ (by omega)) (e1 _ (by omega)) (e2 _ (by omega)) (e3 _ (by omega))
/-- the records of a class and of a method -/
abbrev lh_CT : Type := String × List (Nat × Nat × Nat) × List (Nat × MethodName) × List (Nat × Int32) × List (Nat × Int64) × List (Nat × Nat)
abbrev lh_I : Type := Nat × Instr × Nat × Nat × Nat
abbrev lh_M : Type := lh_CT × MethodName × ByteArray × Nat × Option FieldType × List lh_I
abbrev lh_ct (M : lh_M) : lh_CT := M.1
abbrev lh_y (M : lh_M) : MethodName := M.2.1
abbrev lh_bs (M : lh_M) : ByteArray := M.2.2.1
abbrev lh_mx (M : lh_M) : Nat := M.2.2.2.1
abbrev lh_rt (M : lh_M) : Option FieldType := M.2.2.2.2.1
abbrev lh_is (M : lh_M) : List lh_I := M.2.2.2.2.2
def lh_pc (is : List lh_I) (j : Nat) : Nat := match is[j]? with
  | some q => q.1
  | none => 0
def lh_fall : Instr → Bool
  | .goto _ => false
  | .ireturn => false
  | .lreturn => false
  | .return_ => false
  | .areturn => false
  | .athrow => false
  | .tableswitch .. => false
  | .lookupswitch .. => false
  | _ => true
def lh_tgt (is : List lh_I) (q : lh_I) : Bool := match q.2.1 with
  | .goto off => decide ((q.1 : Int) + off = (lh_pc is q.2.2.2.2 : Int))
  | .if_icmp _ off => decide ((q.1 : Int) + off = (lh_pc is q.2.2.2.2 : Int))
  | .ifCond _ off => decide ((q.1 : Int) + off = (lh_pc is q.2.2.2.2 : Int))
  | _ => true
def lh_isok (b : ByteArray) (is : List lh_I) : Bool := is.all fun q => decide (decode b q.1 = .ok (q.2.1, q.2.2.1)) && (!lh_fall q.2.1 || decide (lh_pc is q.2.2.2.1 = q.1 + q.2.2.1)) && lh_tgt is q
def lh_okF (ct : lh_CT) : Prop := ∀ q ∈ ct.2.1, ∃ r, lh_cls[q.2.1]? = some r ∧ q.2.2 < r.2.2 ∧ Cond.fieldLink ct.1 q.1 (r.2.1 q.2.2).1 (r.2.1 q.2.2).2.1 (r.2.1 q.2.2).2.2.1 ∈ lh_T
def lh_okL (ct : lh_CT) : Prop := (∀ q ∈ ct.2.2.1, Cond.methodLink ct.1 q.1 q.2 ∈ lh_T) ∧ (∀ q ∈ ct.2.2.2.1, Cond.constant ct.1 q.1 q.2 ∈ lh_T) ∧ (∀ q ∈ ct.2.2.2.2.1, Cond.constantLong ct.1 q.1 q.2 ∈ lh_T) ∧
  ∀ q ∈ ct.2.2.2.2.2, ∃ r, lh_cls[q.2]? = some r ∧ Cond.classLink ct.1 q.1 r.1 ∈ lh_T ∧ Cond.instantiable r.1 r.2.2 ∈ lh_T ∧ Cond.initialized r.1 ∈ lh_T
/-- a word by its place: the list, the place in it -/
def lh_seg : Nat → List Cond
  | 0 => k2_sels lw_privs
  | 1 => tables_1_1
  | 2 => tables_1_2
  | 3 => tables_1_3
  | 4 => tables_1_4
  | 5 => tables_1_5
  | 6 => tables_1_6
  | 7 => tables_1_7
  | _ => tables_1_8
theorem lh_seg_in (k : Nat) {w : Cond} (h : w ∈ lh_seg k) : w ∈ lw_tbl := by
  unfold lw_tbl
  unfold tables_1
  match k, h with
  | 0, h => exact List.mem_append_left _ h
  | 1, h => exact List.mem_append_right _ (List.mem_append_left _ h)
  | 2, h => exact List.mem_append_right _ (List.mem_append_right _ (List.mem_append_left _ h))
  | 3, h => exact List.mem_append_right _ (List.mem_append_right _ (List.mem_append_right _ (List.mem_append_left _ h)))
  | 4, h => exact List.mem_append_right _ (List.mem_append_right _ (List.mem_append_right _ (List.mem_append_right _ (List.mem_append_left _ h))))
  | 5, h => exact List.mem_append_right _ (List.mem_append_right _ (List.mem_append_right _ (List.mem_append_right _ (List.mem_append_right _ (List.mem_append_left _ h)))))
  | 6, h => exact List.mem_append_right _ (List.mem_append_right _ (List.mem_append_right _ (List.mem_append_right _ (List.mem_append_right _ (List.mem_append_right _ (List.mem_append_left _ h))))))
  | 7, h => exact List.mem_append_right _ (List.mem_append_right _ (List.mem_append_right _ (List.mem_append_right _ (List.mem_append_right _ (List.mem_append_right _ (List.mem_append_right _ (List.mem_append_left _ h)))))))
  | n + 8, h => exact List.mem_append_right _ (List.mem_append_right _ (List.mem_append_right _ (List.mem_append_right _ (List.mem_append_right _ (List.mem_append_right _ (List.mem_append_right _ (List.mem_append_right _ h)))))))
def lh_ms (q : Nat × Nat) (w : Cond) : Bool := decide ((lh_seg q.1)[q.2]? = some w) && goodWord w
theorem lh_ms_T {q : Nat × Nat} {w : Cond} (h : lh_ms q w = true) : w ∈ lh_T := by
  simp only [lh_ms, Bool.and_eq_true, decide_eq_true_eq] at h
  exact List.mem_filter.mpr ⟨lh_seg_in _ (List.mem_of_getElem? h.1), h.2⟩
theorem lh_cd_T {w : Cond} (k j : Nat) (h : (lh_seg k)[j]? = some w) (hg : goodWord w = true) : w ∈ lh_T := List.mem_filter.mpr ⟨lh_seg_in k (List.mem_of_getElem? h), hg⟩
theorem lh_zip_all {α β : Type} {P : α → β → Bool} {Q : α → Prop} (hPQ : ∀ a b, P a b = true → Q a) : ∀ (l : List α) (ps : List β), l.length = ps.length → ((l.zip ps).all fun q => P q.1 q.2) = true → ∀ a ∈ l, Q a
  | [], _, _, _, a, ha => by cases ha
  | x :: l, [], hl, _, a, ha => by cases hl
  | x :: l, p :: ps, hl, hall, a, ha => by
    rw [List.zip_cons_cons, List.all_cons, Bool.and_eq_true] at hall
    rcases List.mem_cons.mp ha with h | h
    · rw [h]; exact hPQ x p hall.1
    · exact lh_zip_all hPQ l ps (Nat.succ.inj hl) hall.2 a h
theorem lh_okF_of {ct : lh_CT} (ps : List (Nat × Nat)) (hl : ct.2.1.length = ps.length) (h : ((ct.2.1.zip ps).all fun q => match lh_cls[q.1.2.1]? with
    | some r => decide (q.1.2.2 < r.2.2) && lh_ms q.2 (.fieldLink ct.1 q.1.1 (r.2.1 q.1.2.2).1 (r.2.1 q.1.2.2).2.1 (r.2.1 q.1.2.2).2.2.1)
    | none => false) = true) : lh_okF ct := by
  refine lh_zip_all (P := fun q p => match lh_cls[q.2.1]? with
    | some r => decide (q.2.2 < r.2.2) && lh_ms p (.fieldLink ct.1 q.1 (r.2.1 q.2.2).1 (r.2.1 q.2.2).2.1 (r.2.1 q.2.2).2.2.1)
    | none => false) (fun q p hq => ?_) ct.2.1 ps hl h
  cases hr : lh_cls[q.2.1]? with
  | none => simp only [hr] at hq; cases hq
  | some r =>
    simp only [hr, Bool.and_eq_true, decide_eq_true_eq] at hq
    exact ⟨r, rfl, hq.1, lh_ms_T hq.2⟩
theorem lh_okL_of {ct : lh_CT} (p1 p2 p3 : List (Nat × Nat)) (p4 : List ((Nat × Nat) × (Nat × Nat) × (Nat × Nat))) (l1 : ct.2.2.1.length = p1.length) (l2 : ct.2.2.2.1.length = p2.length) (l3 : ct.2.2.2.2.1.length = p3.length) (l4 : ct.2.2.2.2.2.length = p4.length)
    (h1 : ((ct.2.2.1.zip p1).all fun q => lh_ms q.2 (.methodLink ct.1 q.1.1 q.1.2)) = true) (h2 : ((ct.2.2.2.1.zip p2).all fun q => lh_ms q.2 (.constant ct.1 q.1.1 q.1.2)) = true) (h3 : ((ct.2.2.2.2.1.zip p3).all fun q => lh_ms q.2 (.constantLong ct.1 q.1.1 q.1.2)) = true)
    (h4 : ((ct.2.2.2.2.2.zip p4).all fun q => match lh_cls[q.1.2]? with
      | some r => lh_ms q.2.1 (.classLink ct.1 q.1.1 r.1) && lh_ms q.2.2.1 (.instantiable r.1 r.2.2) && lh_ms q.2.2.2 (.initialized r.1)
      | none => false) = true) : lh_okL ct := by
  refine ⟨lh_zip_all (P := fun q p => lh_ms p (.methodLink ct.1 q.1 q.2)) (fun q p hq => lh_ms_T hq) _ p1 l1 h1, lh_zip_all (P := fun q p => lh_ms p (.constant ct.1 q.1 q.2)) (fun q p hq => lh_ms_T hq) _ p2 l2 h2, lh_zip_all (P := fun q p => lh_ms p (.constantLong ct.1 q.1 q.2)) (fun q p hq => lh_ms_T hq) _ p3 l3 h3, ?_⟩
  refine lh_zip_all (P := fun q p => match lh_cls[q.2]? with
      | some r => lh_ms p.1 (.classLink ct.1 q.1 r.1) && lh_ms p.2.1 (.instantiable r.1 r.2.2) && lh_ms p.2.2 (.initialized r.1)
      | none => false) (fun q p hq => ?_) _ p4 l4 h4
  cases hr : lh_cls[q.2]? with
  | none => simp only [hr] at hq; cases hq
  | some r =>
    simp only [hr, Bool.and_eq_true] at hq
    exact ⟨r, rfl, lh_ms_T hq.1.1, lh_ms_T hq.1.2, lh_ms_T hq.2⟩
/-- a class's links are words of the tables; a method's instructions are its code's -/
def lh_okC (ct : lh_CT) : Prop := lh_okF ct ∧ lh_okL ct
def lh_okM (M : lh_M) : Prop := (plainName (lh_y M).cls = true ∧ (lh_y M).cls = (lh_ct M).1) ∧ lh_isok (lh_bs M) (lh_is M) = true ∧ True ∧ lh_okC (lh_ct M)
theorem lh_fetch {M : lh_M} (hM : lh_okM M) {j pc n j' x : Nat} {i : Instr} (hj : (lh_is M)[j]? = some (pc, i, n, j', x)) (hf : lh_fall i = true) : decode (lh_bs M) (lh_pc (lh_is M) j) = .ok (i, n) ∧ lh_pc (lh_is M) j' = lh_pc (lh_is M) j + n := by
  have h := List.all_eq_true.mp hM.2.1 _ (List.mem_of_getElem? hj)
  simp only [Bool.and_eq_true, decide_eq_true_eq, Bool.or_eq_true, Bool.not_eq_true'] at h
  have hp : lh_pc (lh_is M) j = pc := by unfold lh_pc; rw [hj]
  rw [hp]
  refine ⟨h.1.1, ?_⟩
  rcases h.1.2 with q | q
  · rw [hf] at q; cases q
  · exact q
theorem lh_fetchE {M : lh_M} (hM : lh_okM M) {j pc n j' x : Nat} {i : Instr} (hj : (lh_is M)[j]? = some (pc, i, n, j', x)) : decode (lh_bs M) (lh_pc (lh_is M) j) = .ok (i, n) := by
  have h := List.all_eq_true.mp hM.2.1 _ (List.mem_of_getElem? hj)
  simp only [Bool.and_eq_true, decide_eq_true_eq, Bool.or_eq_true, Bool.not_eq_true'] at h
  have hp : lh_pc (lh_is M) j = pc := by unfold lh_pc; rw [hj]
  rw [hp]
  exact h.1.1
theorem lh_fetchT {M : lh_M} (hM : lh_okM M) {j pc n j' x : Nat} {i : Instr} (hj : (lh_is M)[j]? = some (pc, i, n, j', x)) : lh_tgt (lh_is M) (lh_pc (lh_is M) j, i, n, j', x) = true := by
  have h := List.all_eq_true.mp hM.2.1 _ (List.mem_of_getElem? hj)
  simp only [Bool.and_eq_true] at h
  have hp : lh_pc (lh_is M) j = pc := by unfold lh_pc; rw [hj]
  rw [hp]
  exact h.2
def lh_tys (Γ : lh_Cx) : List (ClassId × FieldType) := [(lh_cA Γ 0, .int), (lh_cA Γ 1, .long), (lh_cA Γ 2, .char), (lh_cA Γ 3, .boolean), (lh_cA Γ 4, .object "LanternHall$Moment"), (lh_cA Γ 5, .object "LanternHall$Mark")]
/-- what is known of the tables and of what lay there before -/
def lh_KU (Γ : lh_Cx) (U : State) : Prop :=
  va_K (lh_D Γ) lh_cls (lh_tys Γ) U ∧ va_X (lh_sp Γ 0) (lh_L Γ) (lh_xs Γ) U (lh_H0 Γ) ∧ lh_sp Γ 0 < (lh_H0 Γ).size ∧ lh_X Γ U ∧ ∀ u v : State, u.WarmedH v.vm → lh_X Γ u → lh_X Γ v
theorem lh_KU.warm {Γ : lh_Cx} {s U : State} (hW : s.WarmedH U.vm) (h : lh_KU Γ s) : lh_KU Γ U :=
  ⟨va_K.moved hW.alike h.1, h.2.1.moved hW.alike, h.2.2.1, h.2.2.2.2 s U hW h.2.2.2.1, h.2.2.2.2⟩
/-- a frame's surroundings -/
def lh_C (Γ : lh_Cx) (M : lh_M) (p : Program) (s : State) (m : MethodId) (args : Array Value) (meth : Method) (c : Code) : Prop :=
  p.tables.exec = Jvm.exec ∧ c.code = lh_bs M ∧ meth.sig.returnType = lh_rt M ∧ c.maxLocals = lh_mx M ∧ s.vm.findClass (lh_ct M).1 = some m.cls ∧ (∀ w ∈ lh_T, w.before args s = true) ∧ meth.locks = false ∧ meth.name = (lh_y M).name ∧ lh_KU Γ s ∧ va_S (lh_A Γ) (lh_H0 Γ) s.heap []
def lh_lv (Γ : lh_Cx) (lv : List (Nat × Value)) : List (Nat × Value) := lv.map fun q => (q.1, lh_tr Γ q.2)
def lh_G (Γ : lh_Cx) (M : lh_M) (R : Room) (Z : List Frame → Array Value → State → State → Prop) (bc bs j : Nat) (lv : List (Nat × Value)) (st : List Value) (h : lh_Hp) : Prop :=
  lh_okM M → ∀ (p : Program) (e : Env) (s : State) (m : MethodId) (args : Array Value) (below : List Frame) (meth : Method) (c : Code) (ls : Array Slot) (H : Heap) (locs : List Loc) (cells slots : Nat),
    lh_C Γ M p s m args meth c → s.heap.size ≤ H.size → lh_Rel Γ h H locs → lv_has ls (lh_mx M) (lh_lv Γ lv) → cells + bc ≤ R.cells → slots + bs ≤ R.slots →
    W p (lh_l Γ) e R s m args below meth c H locs cells slots (Z below args s) (F0 m (lh_pc (lh_is M) j) ls (st.map (lh_tr Γ)))
def lh_R (d mc ms : Nat) : Room := { frames := d, cells := mc, slots := ms, locals := 64 * d }
def lh_Pc (Γ : lh_Cx) (args : List Value) (h : lh_Hp) : Array Value → State → Prop := fun v U => v = (args.map (lh_tr Γ)).toArray ∧ lh_KU Γ U ∧ lh_Rel Γ h U.heap []
def lh_Qc (Γ : lh_Cx) (Q : Option Value → lh_Hp → Prop) : Array Value → State → Outcome → State → Prop := fun _ st o t => ∃ (r : Option Value) (h' : lh_Hp), o = .returned (r.map (lh_tr Γ)) ∧ Q r h' ∧ lh_Rel Γ h' t.heap [] ∧ st.heap.size ≤ t.heap.size
def lh_Met (Γ : lh_Cx) (M : lh_M) (d mc ms : Nat) (args : List Value) (h : lh_Hp) (Q : Option Value → lh_Hp → Prop) : Prop :=
  Met (lh_l Γ) (lh_y M) (Cond.code (lh_y M) (lh_bs M) (lh_mx M) (lh_rt M) :: lh_T) (lh_R d mc ms) (lh_Pc Γ args h) (lh_Qc Γ Q) mc ms (lh_A Γ)
def lh_Z (Γ : lh_Cx) (Q : Option Value → lh_Hp → Prop) (mc ms : Nat) : List Frame → Array Value → State → State → Prop := fun below args s => MQ below (lh_Qc Γ Q) args s mc ms (lh_A Γ)
theorem lh_args (Γ : lh_Cx) : ∀ (vs : List Value) (i : Nat), lv_args i (vs.map (lh_tr Γ)) = lh_lv Γ (lv_args i vs)
  | [], i => rfl
  | v :: vs, i => by
    show (i, lh_tr Γ v) :: lv_args (if (lh_tr Γ v).category = 2 then i + 2 else i + 1) (vs.map (lh_tr Γ)) = _
    rw [lh_tr_cat, lh_args Γ vs]
    rfl
theorem lh_Rel.nil {Γ : lh_Cx} {h : lh_Hp} {H : Heap} {locs : List Loc} (hR : lh_Rel Γ h H locs) : lh_Rel Γ h H [] := ⟨⟨hR.1.1, hR.1.2.1, fun _ h9 => by cases h9⟩, hR.2⟩
/-- a method's contract out of its body -/
theorem lh_ofG {Γ : lh_Cx} {M : lh_M} {d mc ms : Nat} {args : List Value} {h : lh_Hp} {Q : Option Value → lh_Hp → Prop} (hM : lh_okM M) (lv : List (Nat × Value)) (hlv : lv_args 0 args = lv) (hmx : ((lg_sl args).length ≤ lh_mx M))
    (h0 : lh_pc (lh_is M) 0 = 0) (k : lh_G Γ M (lh_R d mc ms) (lh_Z Γ Q mc ms) mc ms 0 lv [] h) : lh_Met Γ M d mc ms args h Q := by
  refine Met.ofW (cc := lh_bs M) (maxL := lh_mx M) (ret := lh_rt M) hM.1.1 rfl ?_
  intro p e s m as below meth c s₁ B hml hv
  obtain ⟨rfl, hK, hR⟩ := hv
  have hts := atoms_spec (ws := Cond.code (lh_y M) (lh_bs M) (lh_mx M) (lh_rt M) :: lh_T) B.pre
  have hown : s.vm.findClass (lh_y M).cls = some m.cls := findClass_of_methodNamed B.named
  have hlen : (lg_sl (args.map (lh_tr Γ))).length = (lg_sl args).length := by
    clear k hlv hmx hR hts B
    induction args with
    | nil => rfl
    | cons v vs ih =>
      simp only [lg_sl, List.map_cons, List.flatMap_cons, List.length_append] at ih ⊢
      rw [ih, lh_tr_cat]
      split <;> rfl
  have hl := lv_entry (args.map (lh_tr Γ)) (n := lh_mx M) (by rw [hlen]; exact hmx)
  rw [lg_entry_eq]
  rw [lh_args, hlv] at hl
  have := k hM p e s m (args.map (lh_tr Γ)).toArray below meth c _ s.heap [] 0 0 ⟨B.exec, B.bytes, B.returns, hml, by rw [← hM.1.2]; exact hown, fun w hw => hts w (List.mem_cons_of_mem _ hw), B.notSynchronized, (name_of_methodNamed B.named B.method).1, hK, hR.1⟩ (Nat.le_refl _) hR hl (by show 0 + mc ≤ mc; omega) (by show 0 + ms ≤ ms; omega)
  rw [h0] at this
  exact this
