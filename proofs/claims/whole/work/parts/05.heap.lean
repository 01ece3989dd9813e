section LHHEAP
variable {Γ : lh_Cx} {M : lh_M} {R : Room} {Z : List Frame → Array Value → State → State → Prop} {bc bs j pc j' t : Nat} {lv : List (Nat × Value)} {st : List Value} {h : lh_Hp}
/-- a field's link: its class's row, its place, the words -/
theorem lh_fld {M : lh_M} (hM : lh_okM M) {i idx ci k : Nat} (hf : ((lh_ct M).2.1)[i]? = some (idx, ci, k)) :
    ∃ r, lh_cls[ci]? = some r ∧ k < r.2.2 ∧ Cond.fieldLink (lh_ct M).1 idx (r.2.1 k).1 (r.2.1 k).2.1 (r.2.1 k).2.2.1 ∈ lh_T := by
  exact hM.2.2.2.1 _ (List.mem_of_getElem? hf)
theorem lh_layT {ci : Nat} {r : vw_C} (hr : lh_cls[ci]? = some r) : ∀ w ∈ u_ws r.1 r.2.1 r.2.2, w ∈ lh_T := by
  intro w hw
  exact lh_mem_T (List.all_eq_true.mp (List.all_eq_true.mp lh_layb r (List.mem_of_getElem? hr)) w hw)
def lh_ty0 (r : vw_C) (k : Nat) : FieldType := (parseFieldDescriptor (r.2.1 k).2.2.1).getD .int
theorem lh_tyT {ci : Nat} {r : vw_C} (hr : lh_cls[ci]? = some r) : ∀ k, k < r.2.2 → parseFieldDescriptor (r.2.1 k).2.2.1 = some (lh_ty0 r k) := by
  intro k hk
  have h := List.all_eq_true.mp (List.all_eq_true.mp lh_tyb r (List.mem_of_getElem? hr)) k (List.mem_range.mpr hk)
  unfold lh_ty0
  cases hp : parseFieldDescriptor (r.2.1 k).2.2.1 with
  | none => rw [hp] at h; cases h
  | some ty => rfl
theorem lh_nmT {ci : Nat} {r : vw_C} (hr : lh_cls[ci]? = some r) : ∀ a, a < r.2.2 → ∀ b, b < r.2.2 → a ≠ b → (r.2.1 a).2.1 ≠ (r.2.1 b).2.1 := by
  intro a ha b hb hab
  have h := List.all_eq_true.mp (List.all_eq_true.mp (List.all_eq_true.mp lh_nmb r (List.mem_of_getElem? hr)) a (List.mem_range.mpr ha)) b (List.mem_range.mpr hb)
  simp only [Bool.or_eq_true, decide_eq_true_eq, Bool.not_eq_true', decide_eq_false_iff_not] at h
  rcases h with h | h
  · exact absurd h hab
  · exact h
theorem lh_dcT {ci : Nat} {r : vw_C} (hr : lh_cls[ci]? = some r) {k : Nat} (hk : k < r.2.2) : (r.2.1 k).1 = r.1 := by
  have h := List.all_eq_true.mp (List.all_eq_true.mp lh_dcb r (List.mem_of_getElem? hr)) k (List.mem_range.mpr hk)
  exact of_decide_eq_true h
theorem lh_cl10 {ci : Nat} {r : vw_C} (hr : lh_cls[ci]? = some r) : ci < 10 := by
  have h := (List.getElem?_eq_some_iff.mp hr).1
  exact h
theorem lh_clT {ci : Nat} {r : vw_C} (hr : lh_cls[ci]? = some r) : r.2.1 = lh_Tt ci ∧ r.2.2 = (lh_fd.getD ci []).length := by
  have h10 := lh_cl10 hr
  have h := List.all_eq_true.mp lh_nfb ci (List.mem_range.mpr h10)
  simp only [decide_eq_true_eq, hr, Option.map_some, Option.some.injEq] at h
  refine ⟨?_, h⟩
  match ci, hr with
  | 0, hr => cases hr; rfl
  | 1, hr => cases hr; rfl
  | 2, hr => cases hr; rfl
  | 3, hr => cases hr; rfl
  | 4, hr => cases hr; rfl
  | 5, hr => cases hr; rfl
  | 6, hr => cases hr; rfl
  | 7, hr => cases hr; rfl
  | 8, hr => cases hr; rfl
  | 9, hr => cases hr; rfl
  | n + 10, _ => omega
theorem lh_tgT {ci : Nat} {r : vw_C} (hr : lh_cls[ci]? = some r) {k : Nat} (hk : k < r.2.2) : lh_tgok (lh_tag ci k) (some (lh_ty0 r k)) = true := by
  obtain ⟨e1, e2⟩ := lh_clT hr
  have h := List.all_eq_true.mp (List.all_eq_true.mp lh_tgb ci (List.mem_range.mpr (lh_cl10 hr))) k (List.mem_range.mpr (by rw [← e2]; exact hk))
  rw [← e1, lh_tyT hr k hk] at h
  exact h
/-- a field is read -/
theorem lh_getV {o n i idx ci k : Nat} (hj : (lh_is M)[j]? = some (pc, .getfield idx, 3, j', i)) (hf : ((lh_ct M).2.1)[i]? = some (idx, ci, k)) (ho : h.2.2.2[o]? = some (ci + 6, n)) {v : Value} (hv : lh_tr Γ v = lh_fv Γ h (o + 4) k (lh_tag ci k))
    (kk : lh_G Γ M R Z bc bs j' lv (v :: st) h) : lh_G Γ M R Z bc bs j lv (.ref (o + 4) :: st) h := by
  intro hM p e s m args below meth c ls H locs cells slots C hz hR hl hc hs
  obtain ⟨hd, hn⟩ := lh_fetch hM hj rfl
  have hk := kk hM p e s m args below meth c ls H locs cells slots C hz hR hl hc hs
  rw [hn] at hk
  obtain ⟨r, hr, hkr, hw⟩ := lh_fld hM hf
  obtain ⟨cell, q1, q2, q3, q4⟩ := (hR.2.2 o _ ho).2 r hr
  obtain ⟨hx, hb, -, -, hown, hts, -, -, hK, -⟩ := C
  obtain ⟨hS, hfc, kC, hkC, hkind⟩ := hK.1.1 ci _ hr
  obtain ⟨cf, kf, fi, f, hi, hsl⟩ := hS k hkr
  refine W.getf hx hb hown (hts _ hw) hi (u_facts hfc hkC (u_lays hts (lh_layT hr) hkr) hi).1 q1 (by rw [q3]; exact fun h => by cases h) (v := lh_tr Γ v) ?_ rfl rfl hd hk
  rw [hsl, q4 k hkr, hv]
theorem lh_getI {o n i idx ci k : Nat} (hj : (lh_is M)[j]? = some (pc, .getfield idx, 3, j', i)) (hf : ((lh_ct M).2.1)[i]? = some (idx, ci, k)) (ho : h.2.2.2[o]? = some (ci + 6, n)) (ht : lh_tag ci k = 0)
    (kk : lh_G Γ M R Z bc bs j' lv (.int (h.1 (o + 4) k) :: st) h) : lh_G Γ M R Z bc bs j lv (.ref (o + 4) :: st) h := lh_getV hj hf ho (by rw [ht]; rfl) kk
theorem lh_getZ {o n i idx ci k : Nat} (hj : (lh_is M)[j]? = some (pc, .getfield idx, 3, j', i)) (hf : ((lh_ct M).2.1)[i]? = some (idx, ci, k)) (ho : h.2.2.2[o]? = some (ci + 6, n)) (ht : lh_tag ci k = 3)
    (kk : lh_G Γ M R Z bc bs j' lv (.int (h.1 (o + 4) k) :: st) h) : lh_G Γ M R Z bc bs j lv (.ref (o + 4) :: st) h := lh_getV hj hf ho (by rw [ht]; rfl) kk
theorem lh_getJ {o n i idx ci k : Nat} (hj : (lh_is M)[j]? = some (pc, .getfield idx, 3, j', i)) (hf : ((lh_ct M).2.1)[i]? = some (idx, ci, k)) (ho : h.2.2.2[o]? = some (ci + 6, n)) (ht : lh_tag ci k = 1)
    (kk : lh_G Γ M R Z bc bs j' lv (.long (h.2.1 (o + 4) k) :: st) h) : lh_G Γ M R Z bc bs j lv (.ref (o + 4) :: st) h := lh_getV hj hf ho (by rw [ht]; rfl) kk
theorem lh_getR {o n i idx ci k x : Nat} (hj : (lh_is M)[j]? = some (pc, .getfield idx, 3, j', i)) (hf : ((lh_ct M).2.1)[i]? = some (idx, ci, k)) (ho : h.2.2.2[o]? = some (ci + 6, n)) (ht : lh_tag ci k = 2) (hx : h.2.2.1 (o + 4) k = x + 4)
    (kk : lh_G Γ M R Z bc bs j' lv (.ref (x + 4) :: st) h) : lh_G Γ M R Z bc bs j lv (.ref (o + 4) :: st) h := lh_getV hj hf ho (by rw [ht]; show _ = lh_rv Γ _; rw [hx]; rfl) kk
/-- heaps with one place written -/
def lh_uI (h : lh_Hp) (o k : Nat) (x : Int32) : lh_Hp := (fun a i => if a = o then (if i = k then x else h.1 a i) else h.1 a i, h.2.1, h.2.2.1, h.2.2.2)
def lh_uL (h : lh_Hp) (o k : Nat) (x : Int64) : lh_Hp := (h.1, fun a i => if a = o then (if i = k then x else h.2.1 a i) else h.2.1 a i, h.2.2.1, h.2.2.2)
def lh_uR (h : lh_Hp) (o k : Nat) (x : Nat) : lh_Hp := (h.1, h.2.1, fun a i => if a = o then (if i = k then x else h.2.2.1 a i) else h.2.2.1 a i, h.2.2.2)
theorem lh_uI_ne {h : lh_Hp} {o k a : Nat} {x : Int32} (ha : a ≠ o) : (lh_uI h o k x).1 a = h.1 a := by funext i; simp only [lh_uI, if_neg ha]
theorem lh_uL_ne {h : lh_Hp} {o k a : Nat} {x : Int64} (ha : a ≠ o) : (lh_uL h o k x).2.1 a = h.2.1 a := by funext i; simp only [lh_uL, if_neg ha]
theorem lh_uR_ne {h : lh_Hp} {o k a : Nat} {x : Nat} (ha : a ≠ o) : (lh_uR h o k x).2.2.1 a = h.2.2.1 a := by funext i; simp only [lh_uR, if_neg ha]
/-- a field is written: the new heap agrees with the old one but for that place -/
theorem lh_putV {h' : lh_Hp} {o n i idx ci k : Nat} {v : Value} (hj : (lh_is M)[j]? = some (pc, .putfield idx, 3, j', i)) (hf : ((lh_ct M).2.1)[i]? = some (idx, ci, k)) (ho : h.2.2.2[o]? = some (ci + 6, n))
    (hfin : (lh_Tt ci k).2.2.2 = false ∨ ((lh_Tt ci k).2.2.2 = true ∧ (lh_y M).name = "<init>" ∧ (lh_cls[ci]?).map (fun r => r.1) = some (lh_ct M).1))
    (hnar : ∀ r : vw_C, lh_cls[ci]? = some r → narrow (lh_ty0 r k) (lh_tr Γ v) = lh_tr Γ v ∧ fits (lh_ty0 r k) (lh_tr Γ v) = true)
    (hs' : h'.2.2.2 = h.2.2.2) (e1 : ∀ a, a ≠ o + 4 → h'.1 a = h.1 a) (e2 : ∀ a, a ≠ o + 4 → h'.2.1 a = h.2.1 a) (e3 : ∀ a, a ≠ o + 4 → h'.2.2.1 a = h.2.2.1 a)
    (hv : ∀ q, lh_fv Γ h' (o + 4) q (lh_tag ci q) = if q = k then lh_tr Γ v else lh_fv Γ h (o + 4) q (lh_tag ci q))
    (kk : lh_G Γ M R Z bc bs j' lv st h') : lh_G Γ M R Z bc bs j lv (v :: .ref (o + 4) :: st) h := by
  intro hM p e s m args below meth c ls H locs cells slots C hz hR hl hc hs
  obtain ⟨hd, hn⟩ := lh_fetch hM hj rfl
  obtain ⟨r, hr, hkr, hw⟩ := lh_fld hM hf
  obtain ⟨cell, q1, q2, q3, q4⟩ := (hR.2.2 o _ ho).2 r hr
  have hkk := kk
  have C' := C
  obtain ⟨hx, hb, -, -, hown, hts, -, hnm, hK, -⟩ := C
  have hap := va_apart (own := (lh_ct M).1) hts (lh_layT hr) (lh_ty0 r) (lh_tyT hr) (lh_nmT hr) hK.1 hr
  obtain ⟨hS, hfc, kC, hkC, hkind⟩ := hK.1.1 ci _ hr
  obtain ⟨cf, kf, fi, f, hi, hsl⟩ := hS k hkr
  have hlay := hts _ (lh_layT hr _ (u_in_lay hkr))
  have hst := (u_facts hfc hkC (u_lays hts (lh_layT hr) hkr) hi).1
  have fin : ∀ H' : Heap, H'[(lh_H0 Γ).size + o]? = some (cell.setSlot f.slot (lh_tr Γ v)) → H'.size = H.size → (∀ q, q ≠ (lh_H0 Γ).size + o → H'[q]? = H[q]?) →
      W p (lh_l Γ) e R s m args below meth c H' (locs ++ [⟨(lh_H0 Γ).size + o, f.slot⟩]) cells slots (Z below args s) (F0 m (lh_pc (lh_is M) j') ls (st.map (lh_tr Γ))) := by
    intro H' g1 g2 g3
    refine hkk hM p e s m args below meth c ls H' _ cells slots C' (by rw [g2]; exact hz) (hR.set ho hs' e1 e2 e3 ?_ g2 g3) hl hc hs
    refine ⟨(Array.getElem?_eq_some_iff.mp g1).1, fun r2 hr2 => ?_⟩
    cases hr.symm.trans hr2
    refine ⟨_, g1, q2, q3, fun q hq => ?_⟩
    rw [hsl, t_set q4 hap hkr (lh_tr Γ v) q hq]
    exact congrArg some (hv q).symm
  rw [hn] at fin
  have hcl := lh_clT hr
  unfold u_lay at hlay
  rcases hfin with hfin | ⟨hfin, hin, hcn⟩
  · rw [if_neg (by rw [hcl.1, hfin]; decide)] at hlay
    have h6 := u_store hfc hkC hkind hlay hi (lh_tyT hr k hkr) (hnar r hr).1 (hnar r hr).2
    exact W.putK hx hb (f := f) ⟨hown, hts _ hw, ⟨_, _, _, hi⟩, hst⟩ (by rw [q2]; exact h6) q1 q3 (by rw [hsl]; exact k2_hasslot (q4 k hkr)) rfl rfl hd fin
  · rw [if_pos (by rw [hcl.1]; exact hfin)] at hlay
    have hcf : m.cls = cf := by
      obtain ⟨_, _, c', _, _, _, -, -, hf', -, -, -, hown2, -⟩ := Cond.laysFinal_spec hlay
      have e1 : c' = cf := by have := hi.symm.trans hf'; simp at this; exact this.1.symm
      rw [lh_dcT hr hkr] at hown2
      rw [hr] at hcn
      have hcn' : r.1 = (lh_ct M).1 := Option.some.inj hcn
      rw [hcn'] at hown2
      rw [← e1]; exact Option.some.inj (hown.symm.trans hown2)
    have h6 := u_fits hfc hkC hkind (Or.inr hlay) hi (lh_tyT hr k hkr) (hnar r hr).1 (hnar r hr).2
    exact W.putFinK hx hb hown (hts _ hw) hi hst hcf (by rw [hnm]; exact hin) (by rw [q2]; exact h6) q1 q3 (by rw [hsl]; exact k2_hasslot (q4 k hkr)) rfl rfl hd fin
theorem lh_ty_of {ci k : Nat} {r : vw_C} (hr : lh_cls[ci]? = some r) (hk : k < r.2.2) : (lh_tag ci k = 0 → lh_ty0 r k = .int) ∧ (lh_tag ci k = 1 → lh_ty0 r k = .long) ∧ (lh_tag ci k = 2 → lh_isR (lh_ty0 r k) = true) ∧ (lh_tag ci k = 3 → lh_ty0 r k = .boolean) := by
  have h := lh_tgT hr hk
  refine ⟨fun q => ?_, fun q => ?_, fun q => ?_, fun q => ?_⟩ <;> rw [q] at h <;> cases ht : lh_ty0 r k <;> simp_all [lh_tgok, lh_isR]
theorem lh_kr {M : lh_M} (hM : lh_okM M) {i idx ci k : Nat} (hf : ((lh_ct M).2.1)[i]? = some (idx, ci, k)) {r : vw_C} (hr : lh_cls[ci]? = some r) : k < r.2.2 := by
  obtain ⟨r', hr', h2, -⟩ := lh_fld hM hf
  cases hr.symm.trans hr'
  exact h2
theorem lh_putI {o n i idx ci k : Nat} {x : Int32} (hj : (lh_is M)[j]? = some (pc, .putfield idx, 3, j', i)) (hf : ((lh_ct M).2.1)[i]? = some (idx, ci, k)) (ho : h.2.2.2[o]? = some (ci + 6, n)) (hfin : (lh_Tt ci k).2.2.2 = false) (ht : lh_tag ci k = 0)
    (kk : lh_G Γ M R Z bc bs j' lv st (lh_uI h (o + 4) k x)) : lh_G Γ M R Z bc bs j lv (.int x :: .ref (o + 4) :: st) h := by
  intro hM
  refine lh_putV (h' := lh_uI h (o + 4) k x) (v := .int x) hj hf ho (Or.inl hfin) (fun r hr => ?_) rfl (fun a ha => lh_uI_ne ha) (fun _ _ => rfl) (fun _ _ => rfl) (fun q => ?_) kk hM
  · rw [(lh_ty_of hr (lh_kr hM hf hr)).1 ht]; exact ⟨rfl, rfl⟩
  · by_cases hq : q = k
    · subst hq; rw [if_pos rfl, ht]; simp [lh_fv, lh_uI, lh_tr]
    · rw [if_neg hq]; cases hg : lh_tag ci q with
      | zero => simp [lh_fv, lh_uI, hq]
      | succ g => match g with
        | 0 => rfl
        | 1 => rfl
        | g + 2 => simp [lh_fv, lh_uI, hq]
/-- a boolean field -/
theorem lh_putZ {o n i idx ci k : Nat} {x : Int32} (hj : (lh_is M)[j]? = some (pc, .putfield idx, 3, j', i)) (hf : ((lh_ct M).2.1)[i]? = some (idx, ci, k)) (ho : h.2.2.2[o]? = some (ci + 6, n)) (hfin : (lh_Tt ci k).2.2.2 = false) (ht : lh_tag ci k = 3) (hx : x = 0 ∨ x = 1)
    (kk : lh_G Γ M R Z bc bs j' lv st (lh_uI h (o + 4) k x)) : lh_G Γ M R Z bc bs j lv (.int x :: .ref (o + 4) :: st) h := by
  intro hM
  refine lh_putV (h' := lh_uI h (o + 4) k x) (v := .int x) hj hf ho (Or.inl hfin) (fun r hr => ?_) rfl (fun a ha => lh_uI_ne ha) (fun _ _ => rfl) (fun _ _ => rfl) (fun q => ?_) kk hM
  · rw [(lh_ty_of hr (lh_kr hM hf hr)).2.2.2 ht]; rcases hx with rfl | rfl
    · exact ⟨(by decide : narrow .boolean (.int 0) = .int 0), (by decide : fits .boolean (.int 0) = true)⟩
    · exact ⟨(by decide : narrow .boolean (.int 1) = .int 1), (by decide : fits .boolean (.int 1) = true)⟩
  · by_cases hq : q = k
    · subst hq; rw [if_pos rfl, ht]; simp [lh_fv, lh_uI, lh_tr]
    · rw [if_neg hq]; cases hg : lh_tag ci q with
      | zero => simp [lh_fv, lh_uI, hq]
      | succ g => match g with
        | 0 => rfl
        | 1 => rfl
        | g + 2 => simp [lh_fv, lh_uI, hq]
theorem lh_putJ {o n i idx ci k : Nat} {x : Int64} (hj : (lh_is M)[j]? = some (pc, .putfield idx, 3, j', i)) (hf : ((lh_ct M).2.1)[i]? = some (idx, ci, k)) (ho : h.2.2.2[o]? = some (ci + 6, n)) (hfin : (lh_Tt ci k).2.2.2 = false) (ht : lh_tag ci k = 1)
    (kk : lh_G Γ M R Z bc bs j' lv st (lh_uL h (o + 4) k x)) : lh_G Γ M R Z bc bs j lv (.long x :: .ref (o + 4) :: st) h := by
  intro hM
  refine lh_putV (h' := lh_uL h (o + 4) k x) (v := .long x) hj hf ho (Or.inl hfin) (fun r hr => ?_) rfl (fun _ _ => rfl) (fun a ha => lh_uL_ne ha) (fun _ _ => rfl) (fun q => ?_) kk hM
  · rw [(lh_ty_of hr (lh_kr hM hf hr)).2.1 ht]; exact ⟨rfl, rfl⟩
  · by_cases hq : q = k
    · subst hq; rw [if_pos rfl, ht]; simp [lh_fv, lh_uL, lh_tr]
    · rw [if_neg hq]; cases hg : lh_tag ci q with
      | zero => rfl
      | succ g => match g with
        | 0 => simp [lh_fv, lh_uL, hq]
        | 1 => rfl
        | g + 2 => rfl
theorem lh_putRV {o n i idx ci k x : Nat} (hj : (lh_is M)[j]? = some (pc, .putfield idx, 3, j', i)) (hf : ((lh_ct M).2.1)[i]? = some (idx, ci, k)) (ho : h.2.2.2[o]? = some (ci + 6, n))
    (hfin : (lh_Tt ci k).2.2.2 = false ∨ ((lh_Tt ci k).2.2.2 = true ∧ (lh_y M).name = "<init>" ∧ (lh_cls[ci]?).map (fun r => r.1) = some (lh_ct M).1)) (ht : lh_tag ci k = 2)
    (kk : lh_G Γ M R Z bc bs j' lv st (lh_uR h (o + 4) k (x + 4))) : lh_G Γ M R Z bc bs j lv (.ref (x + 4) :: .ref (o + 4) :: st) h := by
  intro hM
  refine lh_putV (h' := lh_uR h (o + 4) k (x + 4)) (v := .ref (x + 4)) hj hf ho hfin (fun r hr => ?_) rfl (fun _ _ => rfl) (fun _ _ => rfl) (fun a ha => lh_uR_ne ha) (fun q => ?_) kk hM
  · have h2 := (lh_ty_of hr (lh_kr hM hf hr)).2.2.1 ht
    cases hty : lh_ty0 r k <;> rw [hty] at h2 <;> first | (cases h2; done) | exact ⟨rfl, rfl⟩
  · by_cases hq : q = k
    · subst hq; rw [if_pos rfl, ht]; simp [lh_fv, lh_uR, lh_tr, lh_rv, lh_ad]
    · rw [if_neg hq]; cases hg : lh_tag ci q with
      | zero => rfl
      | succ g => match g with
        | 0 => rfl
        | 1 => simp [lh_fv, lh_uR, hq]
        | g + 2 => rfl
theorem lh_putR {o n i idx ci k x : Nat} (hj : (lh_is M)[j]? = some (pc, .putfield idx, 3, j', i)) (hf : ((lh_ct M).2.1)[i]? = some (idx, ci, k)) (ho : h.2.2.2[o]? = some (ci + 6, n)) (hfin : (lh_Tt ci k).2.2.2 = false) (ht : lh_tag ci k = 2)
    (kk : lh_G Γ M R Z bc bs j' lv st (lh_uR h (o + 4) k (x + 4))) : lh_G Γ M R Z bc bs j lv (.ref (x + 4) :: .ref (o + 4) :: st) h := lh_putRV hj hf ho (Or.inl hfin) ht kk
theorem lh_putF {o n i idx ci k x : Nat} (hj : (lh_is M)[j]? = some (pc, .putfield idx, 3, j', i)) (hf : ((lh_ct M).2.1)[i]? = some (idx, ci, k)) (ho : h.2.2.2[o]? = some (ci + 6, n)) (hfin : (lh_Tt ci k).2.2.2 = true) (hin : (lh_y M).name = "<init>") (hcn : (lh_cls[ci]?).map (fun r => r.1) = some (lh_ct M).1) (ht : lh_tag ci k = 2)
    (kk : lh_G Γ M R Z bc bs j' lv st (lh_uR h (o + 4) k (x + 4))) : lh_G Γ M R Z bc bs j lv (.ref (x + 4) :: .ref (o + 4) :: st) h := lh_putRV hj hf ho (Or.inr ⟨hfin, hin, hcn⟩) ht kk
end LHHEAP
