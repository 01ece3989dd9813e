section LHARR
variable {Γ : lh_Cx} {M : lh_M} {R : Room} {Z : List Frame → Array Value → State → State → Prop} {bc bs j pc j' t : Nat} {lv : List (Nat × Value)} {st : List Value} {h : lh_Hp}
theorem lh_inlt {i : Int32} {n : Nat} (hin : vp_in i n) : i.toNatClampNeg < n := Nat.not_le.mp fun q => hin (Or.inr q)
theorem lh_in_arr {i : Int32} {n : Nat} {cA : ClassId} {V : Nat → Value} (hin : vp_in i n) : ¬ (i < 0 ∨ (arrV cA n V).slots.size ≤ i.toNatClampNeg) := by rw [arrV_size]; exact hin
theorem lh_ialoadK {o n : Nat} {i : Int32} (hj : (lh_is M)[j]? = some (pc, .iaload, 1, j', t)) (ho : h.2.2.2[o]? = some (0, n)) (hin : vp_in i n)
    (k : lh_G Γ M R Z bc bs j' lv (.int (h.1 (o + 4) i.toNatClampNeg) :: st) h) : lh_G Γ M R Z bc bs j lv (.int i :: .ref (o + 4) :: st) h := by
  intro hM p e s m args below meth c ls H locs cells slots C hz hR hl hc hs
  obtain ⟨hd, hn⟩ := lh_fetch hM hj rfl
  have hk := k hM p e s m args below meth c ls H locs cells slots C hz hR hl hc hs
  rw [hn] at hk
  have hq := hR.2.2 o _ ho
  have hK := C.2.2.2.2.2.2.2.2.1
  exact W.iald C.1 C.2.1 hq ((hK.1.2 0 _ rfl).1 n _) (fun q => by cases q) (lh_in_arr hin) (arrV_read _ _ (lh_inlt hin)) rfl rfl hd hk
theorem lh_laloadK {o n : Nat} {i : Int32} (hj : (lh_is M)[j]? = some (pc, .laload, 1, j', t)) (ho : h.2.2.2[o]? = some (1, n)) (hin : vp_in i n)
    (k : lh_G Γ M R Z bc bs j' lv (.long (h.2.1 (o + 4) i.toNatClampNeg) :: st) h) : lh_G Γ M R Z bc bs j lv (.int i :: .ref (o + 4) :: st) h := by
  intro hM p e s m args below meth c ls H locs cells slots C hz hR hl hc hs
  obtain ⟨hd, hn⟩ := lh_fetch hM hj rfl
  have hk := k hM p e s m args below meth c ls H locs cells slots C hz hR hl hc hs
  rw [hn] at hk
  have hq := hR.2.2 o _ ho
  have hK := C.2.2.2.2.2.2.2.2.1
  exact W.lald C.1 C.2.1 hq ((hK.1.2 1 _ rfl).1 n _) (fun q => by cases q) (lh_in_arr hin) (arrV_read _ _ (lh_inlt hin)) rfl rfl hd hk
theorem lh_caloadK {o n : Nat} {i : Int32} (hj : (lh_is M)[j]? = some (pc, .caload, 1, j', t)) (ho : h.2.2.2[o]? = some (2, n)) (hin : vp_in i n)
    (k : lh_G Γ M R Z bc bs j' lv (.int (h.1 (o + 4) i.toNatClampNeg) :: st) h) : lh_G Γ M R Z bc bs j lv (.int i :: .ref (o + 4) :: st) h := by
  intro hM p e s m args below meth c ls H locs cells slots C hz hR hl hc hs
  obtain ⟨hd, hn⟩ := lh_fetch hM hj rfl
  have hk := k hM p e s m args below meth c ls H locs cells slots C hz hR hl hc hs
  rw [hn] at hk
  have hq := hR.2.2 o _ ho
  have hK := C.2.2.2.2.2.2.2.2.1
  exact W.cald C.1 C.2.1 hq ((hK.1.2 2 _ rfl).1 n _) (fun q => by cases q) (lh_in_arr hin) (arrV_read _ _ (lh_inlt hin)) rfl rfl hd hk
theorem lh_baloadK {o n : Nat} {i : Int32} (hj : (lh_is M)[j]? = some (pc, .baload, 1, j', t)) (ho : h.2.2.2[o]? = some (3, n)) (hin : vp_in i n)
    (k : lh_G Γ M R Z bc bs j' lv (.int (h.1 (o + 4) i.toNatClampNeg) :: st) h) : lh_G Γ M R Z bc bs j lv (.int i :: .ref (o + 4) :: st) h := by
  intro hM p e s m args below meth c ls H locs cells slots C hz hR hl hc hs
  obtain ⟨hd, hn⟩ := lh_fetch hM hj rfl
  have hk := k hM p e s m args below meth c ls H locs cells slots C hz hR hl hc hs
  rw [hn] at hk
  have hq := hR.2.2 o _ ho
  have hK := C.2.2.2.2.2.2.2.2.1
  exact W.zald C.1 C.2.1 hq ((hK.1.2 3 _ rfl).1 n _) (fun q => by cases q) (lh_in_arr hin) (arrV_read _ _ (lh_inlt hin)) rfl rfl hd hk
theorem lh_aaload4 {o n x : Nat} {i : Int32} (hj : (lh_is M)[j]? = some (pc, .aaload, 1, j', t)) (ho : h.2.2.2[o]? = some (4, n)) (hin : vp_in i n) (hx : h.2.2.1 (o + 4) i.toNatClampNeg = x + 4)
    (k : lh_G Γ M R Z bc bs j' lv (.ref (x + 4) :: st) h) : lh_G Γ M R Z bc bs j lv (.int i :: .ref (o + 4) :: st) h := by
  intro hM p e s m args below meth c ls H locs cells slots C hz hR hl hc hs
  obtain ⟨hd, hn⟩ := lh_fetch hM hj rfl
  have hk := k hM p e s m args below meth c ls H locs cells slots C hz hR hl hc hs
  rw [hn] at hk
  have hq := hR.2.2 o _ ho
  have hK := C.2.2.2.2.2.2.2.2.1
  exact W.aald C.1 C.2.1 hq ((hK.1.2 4 _ rfl).1 n _) rfl (fun q => by cases q) (lh_in_arr hin) (by rw [arrV_read _ _ (lh_inlt hin), hx]; rfl) rfl rfl hd hk
theorem lh_aaload5 {o n x : Nat} {i : Int32} (hj : (lh_is M)[j]? = some (pc, .aaload, 1, j', t)) (ho : h.2.2.2[o]? = some (5, n)) (hin : vp_in i n) (hx : h.2.2.1 (o + 4) i.toNatClampNeg = x + 4)
    (k : lh_G Γ M R Z bc bs j' lv (.ref (x + 4) :: st) h) : lh_G Γ M R Z bc bs j lv (.int i :: .ref (o + 4) :: st) h := by
  intro hM p e s m args below meth c ls H locs cells slots C hz hR hl hc hs
  obtain ⟨hd, hn⟩ := lh_fetch hM hj rfl
  have hk := k hM p e s m args below meth c ls H locs cells slots C hz hR hl hc hs
  rw [hn] at hk
  have hq := hR.2.2 o _ ho
  have hK := C.2.2.2.2.2.2.2.2.1
  exact W.aald C.1 C.2.1 hq ((hK.1.2 5 _ rfl).1 n _) rfl (fun q => by cases q) (lh_in_arr hin) (by rw [arrV_read _ _ (lh_inlt hin), hx]; rfl) rfl rfl hd hk
/-- stores -/
theorem lh_iastoreK {o n : Nat} {i x : Int32} (hj : (lh_is M)[j]? = some (pc, .iastore, 1, j', t)) (ho : h.2.2.2[o]? = some (0, n)) (hin : vp_in i n)
    (k : lh_G Γ M R Z bc bs j' lv st (lh_uI h (o + 4) i.toNatClampNeg x)) : lh_G Γ M R Z bc bs j lv (.int x :: .int i :: .ref (o + 4) :: st) h := by
  intro hM p e s m args below meth c ls H locs cells slots C hz hR hl hc hs
  obtain ⟨hd, hn⟩ := lh_fetch hM hj rfl
  have hq := hR.2.2 o _ ho
  have hK := C.2.2.2.2.2.2.2.2.1
  refine W.iast C.1 C.2.1 hq ((hK.1.2 0 _ rfl).1 n _) (fun q => by cases q) (lh_in_arr hin) rfl rfl hd fun H1 g1 g2 g3 => ?_
  have hk := k hM p e s m args below meth c ls H1 _ cells slots C (by rw [g2]; exact hz) (hR.set (h' := lh_uI h (o + 4) i.toNatClampNeg x) (i := i.toNatClampNeg) ho rfl (fun a ha => lh_uI_ne ha) (fun _ _ => rfl) (fun _ _ => rfl) (by
    show H1[(lh_H0 Γ).size + o]? = _
    rw [g1, arrV_store]
    congr 2
    funext q
    simp only [updV, lh_uI, if_pos]
    split <;> rfl) g2 g3) hl hc hs
  rw [hn] at hk
  exact hk
theorem lh_lastoreK {o n : Nat} {i : Int32} {x : Int64} (hj : (lh_is M)[j]? = some (pc, .lastore, 1, j', t)) (ho : h.2.2.2[o]? = some (1, n)) (hin : vp_in i n)
    (k : lh_G Γ M R Z bc bs j' lv st (lh_uL h (o + 4) i.toNatClampNeg x)) : lh_G Γ M R Z bc bs j lv (.long x :: .int i :: .ref (o + 4) :: st) h := by
  intro hM p e s m args below meth c ls H locs cells slots C hz hR hl hc hs
  obtain ⟨hd, hn⟩ := lh_fetch hM hj rfl
  have hq := hR.2.2 o _ ho
  have hK := C.2.2.2.2.2.2.2.2.1
  refine W.last C.1 C.2.1 hq ((hK.1.2 1 _ rfl).1 n _) (fun q => by cases q) (lh_in_arr hin) rfl rfl hd fun H1 g1 g2 g3 => ?_
  have hk := k hM p e s m args below meth c ls H1 _ cells slots C (by rw [g2]; exact hz) (hR.set (h' := lh_uL h (o + 4) i.toNatClampNeg x) (i := i.toNatClampNeg) ho rfl (fun _ _ => rfl) (fun a ha => lh_uL_ne ha) (fun _ _ => rfl) (by
    show H1[(lh_H0 Γ).size + o]? = _
    rw [g1, arrV_store]
    congr 2
    funext q
    simp only [updV, lh_uL, if_pos]
    split <;> rfl) g2 g3) hl hc hs
  rw [hn] at hk
  exact hk
theorem lh_castoreK {o n : Nat} {i x : Int32} (hj : (lh_is M)[j]? = some (pc, .castore, 1, j', t)) (ho : h.2.2.2[o]? = some (2, n)) (hin : vp_in i n) (hx : narrow .char (.int x) = .int x)
    (k : lh_G Γ M R Z bc bs j' lv st (lh_uI h (o + 4) i.toNatClampNeg x)) : lh_G Γ M R Z bc bs j lv (.int x :: .int i :: .ref (o + 4) :: st) h := by
  intro hM p e s m args below meth c ls H locs cells slots C hz hR hl hc hs
  obtain ⟨hd, hn⟩ := lh_fetch hM hj rfl
  have hq := hR.2.2 o _ ho
  have hK := C.2.2.2.2.2.2.2.2.1
  refine W.cast C.1 C.2.1 hq ((hK.1.2 2 _ rfl).1 n _) (fun q => by cases q) (lh_in_arr hin) rfl rfl hd fun H1 g1 g2 g3 => ?_
  rw [hx] at g1
  have hk := k hM p e s m args below meth c ls H1 _ cells slots C (by rw [g2]; exact hz) (hR.set (h' := lh_uI h (o + 4) i.toNatClampNeg x) (i := i.toNatClampNeg) ho rfl (fun a ha => lh_uI_ne ha) (fun _ _ => rfl) (fun _ _ => rfl) (by
    show H1[(lh_H0 Γ).size + o]? = _
    rw [g1, arrV_store]
    congr 2
    funext q
    simp only [updV, lh_uI, if_pos]
    split <;> rfl) g2 g3) hl hc hs
  rw [hn] at hk
  exact hk
theorem lh_bastoreK {o n : Nat} {i x : Int32} (hj : (lh_is M)[j]? = some (pc, .bastore, 1, j', t)) (ho : h.2.2.2[o]? = some (3, n)) (hin : vp_in i n) (hx : x = 0 ∨ x = 1)
    (k : lh_G Γ M R Z bc bs j' lv st (lh_uI h (o + 4) i.toNatClampNeg x)) : lh_G Γ M R Z bc bs j lv (.int x :: .int i :: .ref (o + 4) :: st) h := by
  intro hM p e s m args below meth c ls H locs cells slots C hz hR hl hc hs
  obtain ⟨hd, hn⟩ := lh_fetch hM hj rfl
  have hq := hR.2.2 o _ ho
  have hK := C.2.2.2.2.2.2.2.2.1
  refine W.zast C.1 C.2.1 hq ((hK.1.2 3 _ rfl).1 n _) (fun q => by cases q) (lh_in_arr hin) rfl rfl hd fun H1 g1 g2 g3 => ?_
  rw [show narrow .boolean (.int x) = .int x by rcases hx with rfl | rfl <;> decide] at g1
  have hk := k hM p e s m args below meth c ls H1 _ cells slots C (by rw [g2]; exact hz) (hR.set (h' := lh_uI h (o + 4) i.toNatClampNeg x) (i := i.toNatClampNeg) ho rfl (fun a ha => lh_uI_ne ha) (fun _ _ => rfl) (fun _ _ => rfl) (by
    show H1[(lh_H0 Γ).size + o]? = _
    rw [g1, arrV_store]
    congr 2
    funext q
    simp only [updV, lh_uI, if_pos]
    split <;> rfl) g2 g3) hl hc hs
  rw [hn] at hk
  exact hk
/-- an object of its class goes into an array of references -/
theorem lh_aastK {o n x i2 n2 ci : Nat} {i : Int32} {C : String} {u : Nat} (hj : (lh_is M)[j]? = some (pc, .aastore, 1, j', t)) (ho : h.2.2.2[o]? = some (u, n)) (hu : u = 4 ∨ u = 5) (ht : (lh_tys Γ)[u]? = some (lh_cA Γ u, .object C)) (hin : vp_in i n) (hx : h.2.2.2[x]? = some (ci + 6, n2)) (hcn : (lh_cls[ci]?).map (fun r => r.1) = some C)
    (k : lh_G Γ M R Z bc bs j' lv st (lh_uR h (o + 4) i.toNatClampNeg (x + 4))) : lh_G Γ M R Z bc bs j lv (.ref (x + 4) :: .int i :: .ref (o + 4) :: st) h := by
  intro hM p e s m args below meth c ls H locs cells slots CC hz hR hl hc hs
  obtain ⟨hd, hn⟩ := lh_fetch hM hj rfl
  have hq0 := hR.2.2 o _ ho
  have hq : H[(lh_H0 Γ).size + o]? = some (arrV (lh_cA Γ u) n (fun q => lh_rv Γ (h.2.2.1 (o + 4) q))) := by rcases hu with rfl | rfl <;> exact hq0
  obtain ⟨r, hr⟩ : ∃ r, lh_cls[ci]? = some r := by
    cases h9 : lh_cls[ci]? with
    | none => rw [h9] at hcn; cases hcn
    | some r => exact ⟨r, rfl⟩
  obtain ⟨cellV, g1, g2, g3, -⟩ := (hR.2.2 x _ hx).2 r hr
  rw [hr] at hcn
  have hcn' : r.1 = C := Option.some.inj hcn
  have hK := CC.2.2.2.2.2.2.2.2.1
  have hcls := (hK.1.1 ci r hr).2
  obtain ⟨kA, comp, k1, k2, k3, -⟩ := (hK.1.2 u _ ht).2
  have hcomp : comp = (lh_D Γ).1 ci := Option.some.inj (k3.symm.trans (by rw [← hcn']; exact hcls.1))
  subst hcomp
  have hcls' := hcls
  obtain ⟨kC, hkC, -⟩ := hcls.2
  refine W.aast CC.1 CC.2.1 hq (fun q h => by cases h) (fun h => by cases h) k1 k2 rfl hkC ⟨fun q => hin (Or.inl q), by rw [arrV_size]; exact lh_inlt hin⟩ g1 (fun q h => by rw [g3] at h; cases h) (by rw [g2]; exact hkC) (by rw [g2]; exact va_assign hcls') rfl rfl hd fun H1 e1 z oq => ?_
  have hk := k hM p e s m args below meth c ls H1 _ cells slots CC (by rw [z]; exact hz) (hR.set (h' := lh_uR h (o + 4) i.toNatClampNeg (x + 4)) (i := i.toNatClampNeg) ho rfl (fun _ _ => rfl) (fun _ _ => rfl) (fun a ha => lh_uR_ne ha) (by
    have e2 : H1[(lh_H0 Γ).size + o]? = some (arrV (lh_cA Γ u) n (fun q => lh_rv Γ ((lh_uR h (o + 4) i.toNatClampNeg (x + 4)).2.2.1 (o + 4) q))) := by
      rw [e1, arrV_store]
      congr 2
      funext q
      simp only [updV, lh_uR, if_pos]
      split <;> rfl
    rcases hu with rfl | rfl <;> exact e2) z oq) hl hc hs
  rw [hn] at hk
  exact hk
/-- the script -/
theorem lh_sz {s : State} {H : Heap} {locs : List Loc} (h1 : va_S (lh_A Γ) (lh_H0 Γ) s.heap []) (h2 : va_S (lh_A Γ) (lh_H0 Γ) H locs) (hz : s.heap.size ≤ H.size) : va_S (lh_A Γ) s.heap H locs :=
  ⟨hz, fun q _ h4 => by
    have hq : q < (lh_H0 Γ).size := Nat.not_le.mp h4
    rw [h2.2.1 q hq h4, h1.2.1 q hq h4], h2.2.2⟩
theorem lh_sload {i : Int32} (hj : (lh_is M)[j]? = some (pc, .iaload, 1, j', t)) (hin : vp_in i (lh_L Γ))
    (k : lh_G Γ M R Z bc bs j' lv (.int (lh_xs Γ i.toNatClampNeg) :: st) h) : lh_G Γ M R Z bc bs j lv (.int i :: .ref 0 :: st) h := by
  intro hM p e s m args below meth c ls H locs cells slots C hz hR hl hc hs
  obtain ⟨hd, hn⟩ := lh_fetch hM hj rfl
  have hk := k hM p e s m args below meth c ls H locs cells slots C hz hR hl hc hs
  rw [hn] at hk
  have hK := C.2.2.2.2.2.2.2.2.1
  exact va_sld C.1 C.2.1 hK.2.1 hK.2.2.1 (Nat.not_le.mpr hK.2.2.1) hR.1 hin hd hk
theorem lh_slen (hj : (lh_is M)[j]? = some (pc, .arraylength, 1, j', t))
    (k : lh_G Γ M R Z bc bs j' lv (.int (Int32.ofNat (lh_L Γ)) :: st) h) : lh_G Γ M R Z bc bs j lv (.ref 0 :: st) h := by
  intro hM p e s m args below meth c ls H locs cells slots C hz hR hl hc hs
  obtain ⟨hd, hn⟩ := lh_fetch hM hj rfl
  have hk := k hM p e s m args below meth c ls H locs cells slots C hz hR hl hc hs
  rw [hn] at hk
  have hK := C.2.2.2.2.2.2.2.2.1
  exact va_slen C.1 C.2.1 hK.2.1 hK.2.2.1 (Nat.not_le.mpr hK.2.2.1) hR.1 hd hk
theorem lh_alen {o u n : Nat} {v : Int32} (hj : (lh_is M)[j]? = some (pc, .arraylength, 1, j', t)) (ho : h.2.2.2[o]? = some (u, n)) (hu : u < 4) (hv : Int32.ofNat n = v)
    (k : lh_G Γ M R Z bc bs j' lv (.int v :: st) h) : lh_G Γ M R Z bc bs j lv (.ref (o + 4) :: st) h := by
  intro hM p e s m args below meth c ls H locs cells slots C hz hR hl hc hs
  obtain ⟨hd, hn⟩ := lh_fetch hM hj rfl
  have hk := k hM p e s m args below meth c ls H locs cells slots C hz hR hl hc hs
  rw [hn] at hk
  have hq := hR.2.2 o _ ho
  have hK := C.2.2.2.2.2.2.2.2.1
  match u, hu, hq with
  | 0, _, hq => exact W.alen C.1 C.2.1 hq ((hK.1.2 0 _ rfl).1 n _) (by rw [arrV_size]; exact hv) rfl rfl hd hk
  | 1, _, hq => exact W.alen C.1 C.2.1 hq ((hK.1.2 1 _ rfl).1 n _) (by rw [arrV_size]; exact hv) rfl rfl hd hk
  | 2, _, hq => exact W.alen C.1 C.2.1 hq ((hK.1.2 2 _ rfl).1 n _) (by rw [arrV_size]; exact hv) rfl rfl hd hk
  | 3, _, hq => exact W.alen C.1 C.2.1 hq ((hK.1.2 3 _ rfl).1 n _) (by rw [arrV_size]; exact hv) rfl rfl hd hk
end LHARR
