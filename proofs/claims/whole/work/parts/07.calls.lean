section LHCALL
variable {Γ : lh_Cx} {M : lh_M} {R : Room} {Z : List Frame → Array Value → State → State → Prop} {bc bs j pc j' t : Nat} {lv : List (Nat × Value)} {st : List Value} {h : lh_Hp}
/-- a new object, a new array: zeros -/
def lh_al (h : lh_Hp) (q : Nat × Nat) : lh_Hp := (fun a i => if a = h.2.2.2.length + 4 then 0 else h.1 a i, fun a i => if a = h.2.2.2.length + 4 then 0 else h.2.1 a i, fun a i => if a = h.2.2.2.length + 4 then 0 else h.2.2.1 a i, h.2.2.2 ++ [q])
theorem lh_Rel.push {H H1 : Heap} {locs : List Loc} {q : Nat × Nat} (hR : lh_Rel Γ h H locs) (hn : lh_at Γ (lh_al h q) h.2.2.2.length q H1) (hz : H1.size = H.size + 1) (ho : ∀ x, x < H.size → H1[x]? = H[x]?) : lh_Rel Γ (lh_al h q) H1 locs := by
  obtain ⟨⟨s1, s2, s3⟩, hsz, hat⟩ := hR
  refine ⟨⟨by omega, fun x h1 h2 => ?_, s3⟩, by rw [hz, hsz]; simp [lh_al]; omega, fun k2 q2 h2 => ?_⟩
  · rw [ho x (by omega)]
    exact s2 x h1 h2
  · by_cases hk : k2 < h.2.2.2.length
    · have h3 : h.2.2.2[k2]? = some q2 := by rw [← h2]; exact (List.getElem?_append_left hk).symm
      refine (hat k2 q2 h3).kept (ho _ (by omega)) ?_ ?_ ?_ <;> (funext i; simp only [lh_al]; rw [if_neg (by omega)])
    · have h3 : (h.2.2.2 ++ [q])[k2]? = some q2 := h2
      rw [List.getElem?_append_right (by omega)] at h3
      have hz : k2 - h.2.2.2.length < 1 := (List.getElem?_eq_some_iff.mp h3).1
      have e : k2 = h.2.2.2.length := by omega
      subst e
      rw [Nat.sub_self] at h3
      cases h3
      exact hn
theorem lh_new {i idx ci N : Nat} (hj : (lh_is M)[j]? = some (pc, .new idx, 3, j', i)) (hf : ((lh_ct M).2.2.2.2.2)[i]? = some (idx, ci)) (hN : (lh_cls[ci]?).map (fun r => r.2.2) = some N)
    (k : lh_G Γ M R Z bc bs j' lv (.ref (h.2.2.2.length + 4) :: st) (lh_al h (ci + 6, 0))) : lh_G Γ M R Z (bc + 1) (bs + N) j lv st h := by
  intro hM p e s m args below meth c ls H locs cells slots C hz hR hl hc hs
  obtain ⟨hd, hn⟩ := lh_fetch hM hj rfl
  obtain ⟨r, hr, hw1, hw2, hw3⟩ := hM.2.2.2.2.2.2.2 _ (List.mem_of_getElem? hf)
  · rw [hr] at hN
    have hN' : r.2.2 = N := Option.some.inj hN
    have C' := C
    obtain ⟨hx, hb, -, -, hown, hts, -, -, hK, -⟩ := C
    have hKn := hK.1.1 ci _ hr
    refine W.newcK hx hb hown (hts _ hw1) (hts _ hw2) (hts _ hw3) rfl hd (by omega) (by rw [hN']; omega) hKn.2.1 rfl fun H1 kC hkC e1 z1 o1 => ?_
    have hk := k hM p e s m args below meth c ls H1 locs (cells + 1) (slots + r.2.2) C' (by omega) (hR.push (q := (ci + 6, 0)) (by
      refine ⟨by have := hR.2.1; omega, fun r2 hr2 => ?_⟩
      cases hr.symm.trans hr2
      rw [← hR.2.1]
      refine (u_born (lh_ty0 r) hts (lh_layT hr) hKn hkC e1 (lh_tyT hr)).to (fun q hq => ?_)
      have hto := lh_ty_of hr hq
      have htg := lh_tgT hr hq
      cases hg : lh_tag ci q with
      | zero => rw [hto.1 hg]; simp [lh_fv, lh_al, defaultValue]
      | succ g => match g, hg with
        | 0, hg => rw [hto.2.1 hg]; simp [lh_fv, lh_al, defaultValue]
        | 1, hg =>
          have h3 := hto.2.2.1 hg
          have h4 : lh_fv Γ (lh_al h (ci + 6, 0)) (h.2.2.2.length + 4) q 2 = .null := by simp [lh_fv, lh_al, lh_rv]
          show _ = lh_fv Γ (lh_al h (ci + 6, 0)) (h.2.2.2.length + 4) q 2
          rw [h4]
          cases hty : lh_ty0 r q <;> rw [hty] at h3 <;> first | (cases h3; done) | rfl
        | 2, hg => rw [hto.2.2.2 hg]; simp [lh_fv, lh_al, defaultValue]
        | g + 3, hg => rw [hg] at htg; cases hty : lh_ty0 r q <;> rw [hty] at htg <;> cases htg) z1 o1) hl (by omega) (by omega)
    rw [hn] at hk
    have e5 : lh_tr Γ (.ref (h.2.2.2.length + 4)) = .ref H.size := by show Value.ref ((lh_H0 Γ).size + h.2.2.2.length) = _; rw [hR.2.1]
    rw [List.map_cons, e5] at hk
    exact hk
theorem lh_newaK {u N : Nat} {n : Int32} {at_ : ArrayType} (hj : (lh_is M)[j]? = some (pc, .newarray at_, 2, j', t)) (hu : (u = 0 ∧ at_ = .int) ∨ (u = 1 ∧ at_ = .long) ∨ (u = 2 ∧ at_ = .char) ∨ (u = 3 ∧ at_ = .boolean)) (hn0 : ¬ n < 0) (hN : n.toNatClampNeg = N) (hb8 : N ≤ 60000000)
    (k : lh_G Γ M R Z bc bs j' lv (.ref (h.2.2.2.length + 4) :: st) (lh_al h (u, N))) : lh_G Γ M R Z (bc + 1) (bs + N) j lv (.int n :: st) h := by
  intro hM p e s m args below meth c ls H locs cells slots C hz hR hl hc hs
  obtain ⟨hd, hn⟩ := lh_fetch hM hj rfl
  have C' := C
  obtain ⟨hx, hb, -, -, hown, hts, -, -, hK, -⟩ := C
  have hw : Cond.arrayClass (newarray.typeOf at_) ∈ lh_T := by
    rcases hu with ⟨-, rfl⟩ | ⟨-, rfl⟩ | ⟨-, rfl⟩ | ⟨-, rfl⟩ <;> exact lh_mem_T (by decide +kernel)
  refine va_newaK hx hb (hts _ hw) rfl hd rfl hn0 hN (by rcases hu with ⟨-, rfl⟩ | ⟨-, rfl⟩ | ⟨-, rfl⟩ | ⟨-, rfl⟩ <;> (simp only [newarray.typeOf, componentBytes]; omega)) (by omega) (by omega) rfl fun H1 cA e1 z1 o1 hAr hNm => ?_
  have hk := k hM p e s m args below meth c ls H1 locs (cells + 1) (slots + N) C' (by omega) (hR.push (q := (u, N)) (by
    rcases hu with ⟨rfl, rfl⟩ | ⟨rfl, rfl⟩ | ⟨rfl, rfl⟩ | ⟨rfl, rfl⟩
    · have h2 : s.vm.findClass ("[" ++ (FieldType.int).toString) = some (lh_cA Γ 0) := (hK.1.2 0 _ rfl).2
      have h3 : cA = lh_cA Γ 0 := Option.some.inj (hNm.symm.trans h2)
      show H1[(lh_H0 Γ).size + h.2.2.2.length]? = _
      rw [← hR.2.1, e1, h3]
      simp [lh_al, newarray.typeOf, defaultValue]
    · have h2 : s.vm.findClass ("[" ++ (FieldType.long).toString) = some (lh_cA Γ 1) := (hK.1.2 1 _ rfl).2
      have h3 : cA = lh_cA Γ 1 := Option.some.inj (hNm.symm.trans h2)
      show H1[(lh_H0 Γ).size + h.2.2.2.length]? = _
      rw [← hR.2.1, e1, h3]
      simp [lh_al, newarray.typeOf, defaultValue]
    · have h2 : s.vm.findClass ("[" ++ (FieldType.char).toString) = some (lh_cA Γ 2) := (hK.1.2 2 _ rfl).2
      have h3 : cA = lh_cA Γ 2 := Option.some.inj (hNm.symm.trans h2)
      show H1[(lh_H0 Γ).size + h.2.2.2.length]? = _
      rw [← hR.2.1, e1, h3]
      simp [lh_al, newarray.typeOf, defaultValue]
    · have h2 : s.vm.findClass ("[" ++ (FieldType.boolean).toString) = some (lh_cA Γ 3) := (hK.1.2 3 _ rfl).2
      have h3 : cA = lh_cA Γ 3 := Option.some.inj (hNm.symm.trans h2)
      show H1[(lh_H0 Γ).size + h.2.2.2.length]? = _
      rw [← hR.2.1, e1, h3]
      simp [lh_al, newarray.typeOf, defaultValue]) z1 o1) hl (by omega) (by omega)
  rw [hn] at hk
  have e5 : lh_tr Γ (.ref (h.2.2.2.length + 4)) = .ref H.size := by show Value.ref ((lh_H0 Γ).size + h.2.2.2.length) = _; rw [hR.2.1]
  rw [List.map_cons, e5] at hk
  exact hk
/-- an array of references -/
theorem lh_newq {u N idx : Nat} {n : Int32} {C : String} (hj : (lh_is M)[j]? = some (pc, .anewarray idx, 3, j', t)) (hu : u = 4 ∨ u = 5) (ht : (lh_tys Γ)[u]? = some (lh_cA Γ u, .object C)) (hcl : lh_mem (.classLink (lh_ct M).1 idx C) = true) (hX : ∀ U, lh_X Γ U → va_AO C U) (hn0 : ¬ n < 0) (hN : n.toNatClampNeg = N) (hb8 : N ≤ 60000000)
    (k : lh_G Γ M R Z bc bs j' lv (.ref (h.2.2.2.length + 4) :: st) (lh_al h (u, N))) : lh_G Γ M R Z (bc + 1) (bs + N) j lv (.int n :: st) h := by
  intro hM p e s m args below meth c ls H locs cells slots CC hz hR hl hc hs
  obtain ⟨hd, hn⟩ := lh_fetch hM hj rfl
  have C' := CC
  obtain ⟨hx, hb, -, -, hown, hts, -, -, hK, -⟩ := CC
  subst hN
  refine W.anew hx hb hown (hts _ (lh_mem_T hcl)) (va_AO.use (hX s hK.2.2.2.1)) rfl hd rfl hn0 (by omega) (by omega) (by omega) fun cA kA comp f1 f2 f3 f4 => ?_
  generalize hH1 : H.push ({ cls := cA, slots := Array.replicate n.toNatClampNeg .null, vm := .none } : Cell) = H1
  have z1 : H1.size = H.size + 1 := by rw [← hH1, Array.size_push]
  have e1 : H1[H.size]? = some (arrV cA n.toNatClampNeg (fun _ => .null)) := by rw [← hH1, Array.getElem?_push_size, ← arrV_new]
  have o1 : ∀ q : Nat, q < H.size → H1[q]? = H[q]? := fun q hq => by rw [← hH1, Array.getElem?_push, if_neg (Nat.ne_of_lt hq)]
  obtain ⟨kA2, comp2, -, -, -, k4⟩ := (hK.1.2 u _ ht).2
  have h3 : cA = lh_cA Γ u := Option.some.inj (f1.symm.trans k4)
  have hk := k hM p e s m args below meth c ls H1 locs (cells + 1) (slots + n.toNatClampNeg) C' (by omega) (hR.push (q := (u, n.toNatClampNeg)) (by
    have e2 : H1[(lh_H0 Γ).size + h.2.2.2.length]? = some (arrV (lh_cA Γ u) n.toNatClampNeg (fun q => lh_rv Γ ((lh_al h (u, n.toNatClampNeg)).2.2.1 (h.2.2.2.length + 4) q))) := by
      rw [← hR.2.1, e1, h3]
      simp [lh_al, lh_rv]
    rcases hu with rfl | rfl <;> exact e2) z1 o1) hl (by omega) (by omega)
  rw [hn] at hk
  have e5 : lh_tr Γ (.ref (h.2.2.2.length + 4)) = .ref H.size := by show Value.ref ((lh_H0 Γ).size + h.2.2.2.length) = _; rw [hR.2.1]
  rw [List.map_cons, e5] at hk
  exact hk
/-- calls -/
theorem lh_blind (args : List Value) : FrameBlind (lh_Pc Γ args h) := fun a U g mk q => ⟨q.1, q.2.1.warm (State.WarmedH.refl U), q.2.2⟩
theorem lh_goodIn (w : Cond) (hw : w ∈ lh_T) : GoodIn lh_T (w :: lh_T) := by
  intro v hv
  have h2 : v ∈ lh_T := by
    rcases List.mem_cons.mp hv with h | h
    · rw [h]; exact hw
    · exact h
  exact ⟨h2, good_of_word (lh_T_good h2)⟩
theorem lh_run {p : Program} {e : Env} {s : State} {m : MethodId} {args : Array Value} {below : List Frame} {meth : Method} {c : Code} {ls : Array Slot} {H : Heap} {locs : List Loc} {cells slots mc ms : Nat} {st0 : List Value} {a : Array Value} {Q : Option Value → lh_Hp → Prop} {Zs : State → Prop}
    (hR : lh_Rel Γ h H locs) (hr : va_Run p (lh_l Γ) e R s m args below meth c H locs cells slots mc ms (F0 m pc ls st0) (st.map (lh_tr Γ)) (lh_Qc Γ Q a) (lh_A Γ))
    (kk : ∀ (r : Option Value) (h' : lh_Hp) (H1 : Heap) (locs1 : List Loc), Q r h' → lh_Rel Γ h' H1 locs1 → H.size ≤ H1.size → W p (lh_l Γ) e R s m args below meth c H1 locs1 (cells + mc) (slots + ms) Zs (F0 m (pc + 3) ls ((r.toList ++ st).map (lh_tr Γ)))) :
    W p (lh_l Γ) e R s m args below meth c H locs cells slots Zs (F0 m pc ls st0) := by
  intro T hT X
  obtain ⟨v, st₀, t, T', L, h0, X', hL, e1, e2, ⟨r, h', hv, hQ, hR', hz⟩, stp⟩ := hr T hT X
  have hv' : v = r.map (lh_tr Γ) := by injection hv
  rw [h0] at hz
  obtain ⟨t2, a1, b1⟩ := kk r h' T'.heap (locs ++ L) hQ ⟨⟨by rw [e1]; exact hR'.1.1, by rw [e1]; exact hR'.1.2.1, fun l hl => by
      rcases List.mem_append.mp hl with h | h
      · exact hR.1.2.2 l h
      · exact hL l h⟩, by rw [e1]; exact hR'.2.1, by rw [e1]; exact hR'.2.2⟩ (by rw [e1]; exact hz) T' rfl X'
  refine ⟨t2, stp t2 ?_, b1⟩
  have e3 : (r.toList ++ st).map (lh_tr Γ) = v.toList ++ st.map (lh_tr Γ) := by rw [hv']; cases r <;> rfl
  rw [e3] at a1
  exact a1
def lh_plain (y : MethodName) : Prop := y.cls ≠ "java/lang/invoke/MethodHandle" ∧ y.cls ≠ "java/lang/invoke/VarHandle"
/-- a callee: its record holds, its words stand in the tables, so many parameters -/
def lh_okV (N : lh_M) (na : Nat) : Prop := (lh_okM N ∧ Cond.code (lh_y N) (lh_bs N) (lh_mx N) (lh_rt N) ∈ lh_T) ∧ lh_plain (lh_y N) ∧ (parseMethodDescriptor (lh_y N).desc).map (fun d => d.parameters.length) = some na ∧ lh_mx N ≤ 45 ∧ Cond.instanceMethod (lh_y N) ∈ lh_T ∧ Cond.selects (lh_y N).cls (lh_y N) (lh_y N) ∈ lh_T ∧ Cond.initialized (lh_y N).cls ∈ lh_T
def lh_okS (N : lh_M) (na : Nat) : Prop := (lh_okM N ∧ Cond.code (lh_y N) (lh_bs N) (lh_mx N) (lh_rt N) ∈ lh_T) ∧ lh_plain (lh_y N) ∧ (parseMethodDescriptor (lh_y N).desc).map (fun d => d.parameters.length) = some na ∧ lh_mx N ≤ 45 ∧ Cond.static (lh_y N) ∈ lh_T ∧ Cond.initialized (lh_y N).cls ∈ lh_T
def lh_okI (N : lh_M) (na : Nat) : Prop := (lh_okM N ∧ Cond.code (lh_y N) (lh_bs N) (lh_mx N) (lh_rt N) ∈ lh_T) ∧ lh_plain (lh_y N) ∧ (parseMethodDescriptor (lh_y N).desc).map (fun d => d.parameters.length) = some na ∧ lh_mx N ≤ 45 ∧ Cond.instanceMethod (lh_y N) ∈ lh_T ∧ Cond.initialized (lh_y N).cls ∈ lh_T ∧ (lh_y N).name = "<init>" ∧ lh_rt N = none
theorem lh_link {M : lh_M} (hM : lh_okM M) {i idx : Nat} {y : MethodName} (hf : ((lh_ct M).2.2.1)[i]? = some (idx, y)) : Cond.methodLink (lh_ct M).1 idx y ∈ lh_T := by
  exact hM.2.2.2.2.1 _ (List.mem_of_getElem? hf)
theorem lh_invV {N : lh_M} {d mc ms o n ci na idx i : Nat} {As sk : List Value} (hj : (lh_is M)[j]? = some (pc, .invokevirtual idx, 3, j', i)) (hl : ((lh_ct M).2.2.1)[i]? = some (idx, lh_y N)) (hN : lh_okV N na) (ho : h.2.2.2[o]? = some (ci + 6, n)) (hcn : (lh_cls[ci]?).map (fun r => r.1) = some (lh_y N).cls)
    (hna : As.length = na) (hsk : As.reverse ++ .ref (o + 4) :: st = sk) (hd : Nat.ble (d + 1) R.frames = true ∧ Nat.ble (64 * (d + 1)) R.locals = true) (hst : Nat.ble ((st.map fun v => v.category).sum) 8 = true)
    (hm : lh_Met Γ N d mc ms (.ref (o + 4) :: As) h (fun r h' => lh_G Γ M R Z bc bs j' lv (r.toList ++ st) h')) : lh_G Γ M R Z (bc + mc) (bs + ms) j lv sk h := by
  intro hM p e s m args below meth c ls H locs cells slots C hz hR hv hc hs
  obtain ⟨hdc, hn⟩ := lh_fetch hM hj rfl
  have C' := C
  obtain ⟨hx, hb, -, hml, hown, hts, -, -, hK, -⟩ := C
  obtain ⟨⟨hNM, hcd⟩, hpl, hpa, hmx, w1, w2, w3⟩ := hN
  have hd1 := Nat.le_of_ble_eq_true hd.1
  have hd2 := Nat.le_of_ble_eq_true hd.2
  have hst' := Nat.le_of_ble_eq_true hst
  have cb := callB_of (Ts := lh_T) (own := (lh_ct M).1) (index := idx) (y := lh_y N) (R := R) (rm := lh_R d mc ms) (mc := mc) (ms := ms) na hts (lh_goodIn _ hcd) rfl rfl rfl (hts _ w3) (hts _ (lh_link hM hl)) ⟨hpl.1, hpl.2, hpa⟩ ⟨hd1, by show 8 + (lh_mx N + 11) + 64 * d ≤ R.locals; omega⟩
  obtain ⟨r, hr⟩ : ∃ r, lh_cls[ci]? = some r := by
    cases h9 : lh_cls[ci]? with
    | none => rw [h9] at hcn; cases hcn
    | some r => exact ⟨r, rfl⟩
  obtain ⟨cell, q1, q2, q3, -⟩ := (hR.2.2 o _ ho).2 r hr
  rw [hr] at hcn
  have hcn' : r.1 = (lh_y N).cls := Option.some.inj hcn
  have hrun := va_runV (l := lh_l Γ) (e := e) (below := below) (meth := meth) (locs := locs) (cells := cells) (slots := slots) (cc := lh_bs M) (nL := lh_mx M) (As := As.map (lh_tr Γ)) (rest := st.map (lh_tr Γ)) (g := F0 m (lh_pc (lh_is M) j) ls (sk.map (lh_tr Γ))) ⟨hx, hb, hml, hown, hts⟩ hm ⟨cb, hts _ w1, hts _ w2⟩
    ⟨lh_blind _, ⟨cell, q1, by rw [q3]; rfl, by rw [← hcn', q2]; exact (hK.1.1 ci r hr).2.1⟩, fun U hU hW => ⟨rfl, hK.warm hW, by rw [hU]; exact hR.nil⟩⟩ rfl (by rw [List.length_map]; exact hna) hv.1 (by rw [← hsk]; simp [List.map_reverse]; rfl) (by rw [lh_tr_sum]; show 2 * 0 + _ ≤ 8; omega) hdc ⟨by omega, by omega⟩
  refine lh_run hR hrun (fun r h' H1 locs1 hQ hR1 hz1 => ?_)
  have hk := hQ hM p e s m args below meth c ls H1 locs1 (cells + mc) (slots + ms) C' (by omega) hR1 hv (by omega) (by omega)
  rw [hn] at hk
  exact hk
theorem lh_invS {N : lh_M} {d mc ms na idx i : Nat} {As sk : List Value} (hj : (lh_is M)[j]? = some (pc, .invokestatic idx, 3, j', i)) (hl : ((lh_ct M).2.2.1)[i]? = some (idx, lh_y N)) (hN : lh_okS N na)
    (hna : As.length = na) (hsk : As.reverse ++ st = sk) (hd : Nat.ble (d + 1) R.frames = true ∧ Nat.ble (64 * (d + 1)) R.locals = true) (hst : Nat.ble ((st.map fun v => v.category).sum) 8 = true)
    (hm : lh_Met Γ N d mc ms As h (fun r h' => lh_G Γ M R Z bc bs j' lv (r.toList ++ st) h')) : lh_G Γ M R Z (bc + mc) (bs + ms) j lv sk h := by
  intro hM p e s m args below meth c ls H locs cells slots C hz hR hv hc hs
  obtain ⟨hdc, hn⟩ := lh_fetch hM hj rfl
  have C' := C
  obtain ⟨hx, hb, -, hml, hown, hts, -, -, hK, -⟩ := C
  obtain ⟨⟨hNM, hcd⟩, hpl, hpa, hmx, w1, w3⟩ := hN
  have hd1 := Nat.le_of_ble_eq_true hd.1
  have hd2 := Nat.le_of_ble_eq_true hd.2
  have hst' := Nat.le_of_ble_eq_true hst
  have cb := callB_of (Ts := lh_T) (own := (lh_ct M).1) (index := idx) (y := lh_y N) (R := R) (rm := lh_R d mc ms) (mc := mc) (ms := ms) na hts (lh_goodIn _ hcd) rfl rfl rfl (hts _ w3) (hts _ (lh_link hM hl)) ⟨hpl.1, hpl.2, hpa⟩ ⟨hd1, by show 8 + (lh_mx N + 11) + 64 * d ≤ R.locals; omega⟩
  have hrun := va_runS (l := lh_l Γ) (e := e) (below := below) (meth := meth) (H := H) (locs := locs) (cells := cells) (slots := slots) (cc := lh_bs M) (nL := lh_mx M) (As := As.map (lh_tr Γ)) (rest := st.map (lh_tr Γ)) (g := F0 m (lh_pc (lh_is M) j) ls (sk.map (lh_tr Γ))) ⟨hx, hb, hml, hown, hts⟩ hm ⟨cb, hts _ w1⟩
    ⟨lh_blind _, fun U hU hW => ⟨rfl, hK.warm hW, by rw [hU]; exact hR.nil⟩⟩ rfl (by rw [List.length_map]; exact hna) hv.1 (by rw [← hsk]; simp [List.map_reverse]) (by rw [lh_tr_sum]; show 2 * 0 + _ ≤ 8; omega) hdc ⟨by omega, by omega⟩
  refine lh_run hR hrun (fun r h' H1 locs1 hQ hR1 hz1 => ?_)
  have hk := hQ hM p e s m args below meth c ls H1 locs1 (cells + mc) (slots + ms) C' (by omega) hR1 hv (by omega) (by omega)
  rw [hn] at hk
  exact hk
theorem lh_invI {N : lh_M} {d mc ms na o idx i : Nat} {As sk : List Value} (hj : (lh_is M)[j]? = some (pc, .invokespecial idx, 3, j', i)) (hl : ((lh_ct M).2.2.1)[i]? = some (idx, lh_y N)) (hN : lh_okI N na)
    (hna : As.length = na) (hsk : As.reverse ++ .ref o :: st = sk) (hd : Nat.ble (d + 1) R.frames = true ∧ Nat.ble (64 * (d + 1)) R.locals = true) (hst : Nat.ble ((st.map fun v => v.category).sum) 8 = true)
    (hm : lh_Met Γ N d mc ms (.ref o :: As) h (fun r h' => lh_G Γ M R Z bc bs j' lv (r.toList ++ st) h')) : lh_G Γ M R Z (bc + mc) (bs + ms) j lv sk h := by
  intro hM p e s m args below meth c ls H locs cells slots C hz hR hv hc hs
  obtain ⟨hdc, hn⟩ := lh_fetch hM hj rfl
  have C' := C
  obtain ⟨hx, hb, -, hml, hown, hts, -, -, hK, -⟩ := C
  obtain ⟨⟨hNM, hcd⟩, hpl, hpa, hmx, w1, w3, hin, hrt⟩ := hN
  have hd1 := Nat.le_of_ble_eq_true hd.1
  have hd2 := Nat.le_of_ble_eq_true hd.2
  have hst' := Nat.le_of_ble_eq_true hst
  have hcw := hcd
  unfold lh_Met at hm
  rw [hrt] at hm hcw
  have cb := callB_of (Ts := lh_T) (own := (lh_ct M).1) (index := idx) (y := lh_y N) (R := R) (rm := lh_R d mc ms) (mc := mc) (ms := ms) na hts (lh_goodIn _ hcw) rfl rfl rfl (hts _ w3) (hts _ (lh_link hM hl)) ⟨hpl.1, hpl.2, hpa⟩ ⟨hd1, by show 8 + (lh_mx N + 11) + 64 * d ≤ R.locals; omega⟩
  have hrun := va_runI (l := lh_l Γ) (e := e) (below := below) (meth := meth) (H := H) (locs := locs) (cells := cells) (slots := slots) (cc := lh_bs M) (nL := lh_mx M) (b := lh_ad Γ o) (As := As.map (lh_tr Γ)) (rest := st.map (lh_tr Γ)) (g := F0 m (lh_pc (lh_is M) j) ls (sk.map (lh_tr Γ))) ⟨hx, hb, hml, hown, hts⟩ hm ⟨cb, hin, hts _ w1⟩
    ⟨lh_blind _, fun U hU hW => ⟨rfl, hK.warm hW, by rw [hU]; exact hR.nil⟩⟩ rfl (by rw [List.length_map]; exact hna) hv.1 (by rw [← hsk]; simp [List.map_reverse]; rfl) (by rw [lh_tr_sum]; show 2 * 0 + _ ≤ 8; omega) hdc ⟨by omega, by omega⟩
  refine lh_run hR hrun (fun r h' H1 locs1 hQ hR1 hz1 => ?_)
  have hk := hQ hM p e s m args below meth c ls H1 locs1 (cells + mc) (slots + ms) C' (by omega) hR1 hv (by omega) (by omega)
  rw [hn] at hk
  exact hk
/-- nest mates: a private constructor, a private static method -/
theorem lh_invIN {N : lh_M} {d mc ms na o idx : Nat} {host : String} {As sk : List Value} (hj : (lh_is M)[j]? = some (pc, .invokespecial idx, 3, j', t)) (hX : ∀ U, lh_X Γ U → va_Nw (.methodLinkNest (lh_ct M).1 idx (lh_y N) host) U) (hN : lh_okI N na)
    (hna : As.length = na) (hsk : As.reverse ++ .ref o :: st = sk) (hd : Nat.ble (d + 1) R.frames = true ∧ Nat.ble (64 * (d + 1)) R.locals = true) (hst : Nat.ble ((st.map fun v => v.category).sum) 8 = true)
    (hm : lh_Met Γ N d mc ms (.ref o :: As) h (fun r h' => lh_G Γ M R Z bc bs j' lv (r.toList ++ st) h')) : lh_G Γ M R Z (bc + mc) (bs + ms) j lv sk h := by
  intro hM p e s m args below meth c ls H locs cells slots C hz hR hv hc hs
  obtain ⟨hdc, hn⟩ := lh_fetch hM hj rfl
  have C' := C
  obtain ⟨hx, hb, -, hml, hown, hts, -, -, hK, -⟩ := C
  obtain ⟨⟨hNM, hcd⟩, hpl, hpa, hmx, w1, w3, hin, hrt⟩ := hN
  have hd1 := Nat.le_of_ble_eq_true hd.1
  have hd2 := Nat.le_of_ble_eq_true hd.2
  have hst' := Nat.le_of_ble_eq_true hst
  have hcw := hcd
  unfold lh_Met at hm
  rw [hrt] at hm hcw
  have cb := va_cnB (Ts := lh_T) (R := R) (args := args) (rm := lh_R d mc ms) (mc := mc) (ms := ms) na hts (lh_goodIn _ hcw) rfl rfl rfl (hX s hK.2.2.2.1) (hts _ w3) ⟨hpl.1, hpl.2, hpa⟩ ⟨hd1, by show 8 + (lh_mx N + 11) + 64 * d ≤ R.locals; omega⟩
  have hrun := va_runIN (l := lh_l Γ) (e := e) (below := below) (meth := meth) (H := H) (locs := locs) (cells := cells) (slots := slots) (cc := lh_bs M) (nL := lh_mx M) (b := lh_ad Γ o) (As := As.map (lh_tr Γ)) (rest := st.map (lh_tr Γ)) (g := F0 m (lh_pc (lh_is M) j) ls (sk.map (lh_tr Γ))) ⟨hx, hb, hml, hown, hts⟩ hm ⟨cb, hin, hts _ w1⟩
    ⟨lh_blind _, fun U hU hW => ⟨rfl, hK.warm hW, by rw [hU]; exact hR.nil⟩⟩ rfl (by rw [List.length_map]; exact hna) hv.1 (by rw [← hsk]; simp [List.map_reverse]; rfl) (by rw [lh_tr_sum]; show 2 * 0 + _ ≤ 8; omega) hdc ⟨by omega, by omega⟩
  refine lh_run hR hrun (fun r h' H1 locs1 hQ hR1 hz1 => ?_)
  have hk := hQ hM p e s m args below meth c ls H1 locs1 (cells + mc) (slots + ms) C' (by omega) hR1 hv (by omega) (by omega)
  rw [hn] at hk
  exact hk
theorem lh_invSN {N : lh_M} {d mc ms na idx : Nat} {host : String} {As sk : List Value} (hj : (lh_is M)[j]? = some (pc, .invokestatic idx, 3, j', t)) (hX : ∀ U, lh_X Γ U → va_Nw (.methodLinkNest (lh_ct M).1 idx (lh_y N) host) U) (hN : lh_okS N na)
    (hna : As.length = na) (hsk : As.reverse ++ st = sk) (hd : Nat.ble (d + 1) R.frames = true ∧ Nat.ble (64 * (d + 1)) R.locals = true) (hst : Nat.ble ((st.map fun v => v.category).sum) 8 = true)
    (hm : lh_Met Γ N d mc ms As h (fun r h' => lh_G Γ M R Z bc bs j' lv (r.toList ++ st) h')) : lh_G Γ M R Z (bc + mc) (bs + ms) j lv sk h := by
  intro hM p e s m args below meth c ls H locs cells slots C hz hR hv hc hs
  obtain ⟨hdc, hn⟩ := lh_fetch hM hj rfl
  have C' := C
  obtain ⟨hx, hb, -, hml, hown, hts, -, -, hK, -⟩ := C
  obtain ⟨⟨hNM, hcd⟩, hpl, hpa, hmx, w1, w3⟩ := hN
  have hd1 := Nat.le_of_ble_eq_true hd.1
  have hd2 := Nat.le_of_ble_eq_true hd.2
  have hst' := Nat.le_of_ble_eq_true hst
  have cb := va_cnB (Ts := lh_T) (R := R) (args := args) (rm := lh_R d mc ms) (mc := mc) (ms := ms) na hts (lh_goodIn _ hcd) rfl rfl rfl (hX s hK.2.2.2.1) (hts _ w3) ⟨hpl.1, hpl.2, hpa⟩ ⟨hd1, by show 8 + (lh_mx N + 11) + 64 * d ≤ R.locals; omega⟩
  have hrun := va_runSN (l := lh_l Γ) (e := e) (below := below) (meth := meth) (H := H) (locs := locs) (cells := cells) (slots := slots) (cc := lh_bs M) (nL := lh_mx M) (As := As.map (lh_tr Γ)) (rest := st.map (lh_tr Γ)) (g := F0 m (lh_pc (lh_is M) j) ls (sk.map (lh_tr Γ))) ⟨hx, hb, hml, hown, hts⟩ hm ⟨cb, hts _ w1, trivial⟩
    ⟨lh_blind _, fun U hU hW => ⟨rfl, hK.warm hW, by rw [hU]; exact hR.nil⟩⟩ rfl (by rw [List.length_map]; exact hna) hv.1 (by rw [← hsk]; simp [List.map_reverse]) (by rw [lh_tr_sum]; show 2 * 0 + _ ≤ 8; omega) hdc ⟨by omega, by omega⟩
  refine lh_run hR hrun (fun r h' H1 locs1 hQ hR1 hz1 => ?_)
  have hk := hQ hM p e s m args below meth c ls H1 locs1 (cells + mc) (slots + ms) C' (by omega) hR1 hv (by omega) (by omega)
  rw [hn] at hk
  exact hk
/-- returns -/
theorem lh_iret {Q : Option Value → lh_Hp → Prop} {d mc ms : Nat} {x : Int32} {ty : FieldType} (hj : (lh_is M)[j]? = some (pc, .ireturn, 1, j', t)) (hrt : lh_rt M = some ty) (hna : narrow ty (.int x) = .int x) (hQ : Q (some (.int x)) h) : lh_G Γ M (lh_R d mc ms) (lh_Z Γ Q mc ms) bc bs j lv [.int x] h := by
  intro hM p e s m args below meth c ls H locs cells slots C hz hR hl hc hs
  have hd := lh_fetchE hM hj
  refine W.widen (k := mc) (n := ms) (by have : (lh_R d mc ms).cells = mc := rfl; omega) (by have : (lh_R d mc ms).slots = ms := rfl; omega) ?_
  exact W.zret C.1 C.2.1 (by rw [C.2.2.1]; exact hrt) hna (fun t ht hW => ⟨some (.int x), h, rfl, hQ, by rw [ht]; exact hR.nil, by rw [ht]; exact hz⟩) hR.1.2.2 hd C.2.2.2.2.2.2.1
theorem lh_lret {Q : Option Value → lh_Hp → Prop} {d mc ms : Nat} {x : Int64} (hj : (lh_is M)[j]? = some (pc, .lreturn, 1, j', t)) (hrt : lh_rt M = some .long) (hQ : Q (some (.long x)) h) : lh_G Γ M (lh_R d mc ms) (lh_Z Γ Q mc ms) bc bs j lv [.long x] h := by
  intro hM p e s m args below meth c ls H locs cells slots C hz hR hl hc hs
  have hd := lh_fetchE hM hj
  refine W.widen (k := mc) (n := ms) (by have : (lh_R d mc ms).cells = mc := rfl; omega) (by have : (lh_R d mc ms).slots = ms := rfl; omega) ?_
  exact W.lret C.1 C.2.1 (by rw [C.2.2.1]; exact hrt) (fun t ht hW => ⟨some (.long x), h, rfl, hQ, by rw [ht]; exact hR.nil, by rw [ht]; exact hz⟩) hR.1.2.2 hd C.2.2.2.2.2.2.1
theorem lh_vret {Q : Option Value → lh_Hp → Prop} {d mc ms : Nat} (hj : (lh_is M)[j]? = some (pc, .return_, 1, j', t)) (hrt : lh_rt M = none) (hQ : Q none h) : lh_G Γ M (lh_R d mc ms) (lh_Z Γ Q mc ms) bc bs j lv [] h := by
  intro hM p e s m args below meth c ls H locs cells slots C hz hR hl hc hs
  have hd := lh_fetchE hM hj
  refine W.widen (k := mc) (n := ms) (by have : (lh_R d mc ms).cells = mc := rfl; omega) (by have : (lh_R d mc ms).slots = ms := rfl; omega) ?_
  exact W.vret C.1 C.2.1 (by rw [C.2.2.1]; exact hrt) (fun t ht hW => ⟨none, h, rfl, hQ, by rw [ht]; exact hR.nil, by rw [ht]; exact hz⟩) hR.1.2.2 hd C.2.2.2.2.2.2.1
/-- constants -/
theorem lh_ldc {i idx : Nat} {v : Int32} (hj : (lh_is M)[j]? = some (pc, .ldc idx, 2, j', i)) (hf : ((lh_ct M).2.2.2.1)[i]? = some (idx, v)) (k : lh_G Γ M R Z bc bs j' lv (.int v :: st) h) : lh_G Γ M R Z bc bs j lv st h := by
  intro hM p e s m args below meth c ls H locs cells slots C hz hR hl hc hs
  obtain ⟨hd, hn⟩ := lh_fetch hM hj rfl
  have hk := k hM p e s m args below meth c ls H locs cells slots C hz hR hl hc hs
  rw [hn] at hk
  exact lv_ldc C.1 C.2.1 C.2.2.2.2.1 (C.2.2.2.2.2.1 _ (hM.2.2.2.2.2.1 _ (List.mem_of_getElem? hf))) hd hk
theorem lh_ldcw {i idx : Nat} {v : Int32} (hj : (lh_is M)[j]? = some (pc, .ldc_w idx, 3, j', i)) (hf : ((lh_ct M).2.2.2.1)[i]? = some (idx, v)) (k : lh_G Γ M R Z bc bs j' lv (.int v :: st) h) : lh_G Γ M R Z bc bs j lv st h := by
  intro hM p e s m args below meth c ls H locs cells slots C hz hR hl hc hs
  obtain ⟨hd, hn⟩ := lh_fetch hM hj rfl
  have hk := k hM p e s m args below meth c ls H locs cells slots C hz hR hl hc hs
  rw [hn] at hk
  exact lv_ldcw C.1 C.2.1 C.2.2.2.2.1 (C.2.2.2.2.2.1 _ (hM.2.2.2.2.2.1 _ (List.mem_of_getElem? hf))) hd hk
theorem lh_ldc2 {i idx : Nat} {v : Int64} (hj : (lh_is M)[j]? = some (pc, .ldc2_w idx, 3, j', i)) (hf : ((lh_ct M).2.2.2.2.1)[i]? = some (idx, v)) (k : lh_G Γ M R Z bc bs j' lv (.long v :: st) h) : lh_G Γ M R Z bc bs j lv st h := by
  intro hM p e s m args below meth c ls H locs cells slots C hz hR hl hc hs
  obtain ⟨hd, hn⟩ := lh_fetch hM hj rfl
  have hk := k hM p e s m args below meth c ls H locs cells slots C hz hR hl hc hs
  rw [hn] at hk
  exact lv_ldc2 C.1 C.2.1 C.2.2.2.2.1 (C.2.2.2.2.2.1 _ (hM.2.2.2.2.2.2.1 _ (List.mem_of_getElem? hf))) hd hk
/-- switches -/
theorem lh_tsIn {x : Int32} {dflt lo hi off : Int} {offs : Array Int} {n q tgt : Nat} (hj : (lh_is M)[j]? = some (pc, .tableswitch dflt lo hi offs, n, j', t)) (hx : x.toInt = lo + (q : Int)) (hh : lo + (q : Int) ≤ hi) (ho : offs[q]? = some off) (ht : (pc : Int) + off = (lh_pc (lh_is M) tgt : Int))
    (k : lh_G Γ M R Z bc bs tgt lv st h) : lh_G Γ M R Z bc bs j lv (.int x :: st) h := by
  intro hM p e s m args below meth c ls H locs cells slots C hz hR hl hc hs
  have hd := lh_fetchE hM hj
  have hp : lh_pc (lh_is M) j = pc := by unfold lh_pc; rw [hj]
  exact lv_tableIn C.1 C.2.1 hd (by omega) (by omega) (by rw [hx, show lo + (q : Int) - lo = (q : Int) by omega, Int.toNat_natCast]; exact ho) (by rw [hp]; exact ht) (k hM p e s m args below meth c ls H locs cells slots C hz hR hl hc hs)
theorem lh_tsOut {x : Int32} {dflt lo hi : Int} {offs : Array Int} {n tgt : Nat} (hj : (lh_is M)[j]? = some (pc, .tableswitch dflt lo hi offs, n, j', t)) (hx : x.toInt < lo ∨ hi < x.toInt) (ht : (pc : Int) + dflt = (lh_pc (lh_is M) tgt : Int))
    (k : lh_G Γ M R Z bc bs tgt lv st h) : lh_G Γ M R Z bc bs j lv (.int x :: st) h := by
  intro hM p e s m args below meth c ls H locs cells slots C hz hR hl hc hs
  have hd := lh_fetchE hM hj
  have hp : lh_pc (lh_is M) j = pc := by unfold lh_pc; rw [hj]
  exact lv_tableOut C.1 C.2.1 hd hx (by rw [hp]; exact ht) (k hM p e s m args below meth c ls H locs cells slots C hz hR hl hc hs)
theorem lh_lsw {x : Int32} {dflt off : Int} {ps : Array (Int × Int)} {n tgt : Nat} (hj : (lh_is M)[j]? = some (pc, .lookupswitch dflt ps, n, j', t)) (hp : (ps.toList.zip (ps.toList.drop 1)).all (fun (a, next) => a.1 < next.1) = true) (ho : Op.lookupswitch.offset ps.toList dflt x.toInt = off) (ht : (pc : Int) + off = (lh_pc (lh_is M) tgt : Int))
    (k : lh_G Γ M R Z bc bs tgt lv st h) : lh_G Γ M R Z bc bs j lv (.int x :: st) h := by
  intro hM p e s m args below meth c ls H locs cells slots C hz hR hl hc hs
  have hd := lh_fetchE hM hj
  have hp' : lh_pc (lh_is M) j = pc := by unfold lh_pc; rw [hj]
  exact lv_lookup C.1 C.2.1 hd hp ho (by rw [hp']; exact ht) (k hM p e s m args below meth c ls H locs cells slots C hz hR hl hc hs)
end LHCALL
