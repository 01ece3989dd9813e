section LHLAW
variable {Γ : lh_Cx} {M : lh_M} {R : Room} {Z : List Frame → Array Value → State → State → Prop} {bc bs j pc j' t : Nat} {lv : List (Nat × Value)} {st : List Value} {h : lh_Hp}
theorem lh_sw2 {M' : lh_M} {j2 : Nat} (hM' : lh_okM M') (e1 : lh_ct M = lh_ct M') (e2 : lh_y M = lh_y M') (e3 : lh_bs M = lh_bs M') (e4 : lh_mx M = lh_mx M') (e5 : lh_rt M = lh_rt M') (hp : lh_pc (lh_is M) j = lh_pc (lh_is M') j2) (k : lh_G Γ M' R Z bc bs j2 lv st h) : lh_G Γ M R Z bc bs j lv st h := by
  obtain ⟨c1, y1, b1, x1, r1, i1⟩ := M
  obtain ⟨c2, y2, b2, x2, r2, i2⟩ := M'
  cases e1; cases e2; cases e3; cases e4; cases e5
  intro hM p e s m args below meth c ls H locs cells slots C hz hR hl hc hs
  have := k hM' p e s m args below meth c ls H locs cells slots C hz hR hl hc hs
  rw [← hp] at this
  exact this
theorem lh_scr {q k : Nat} {c : Int32} (hj : (lh_is M)[j]? = some (pc, .iaload, 1, j', t)) (hc : c = nI k) (hq : q + k < lh_L Γ) (hL : lh_L Γ ≤ 3584) (kk : lh_G Γ M R Z bc bs j' lv (.int (lh_xs Γ (q + k)) :: st) h) : lh_G Γ M R Z bc bs j lv (.int (nI q + c) :: .ref 0 :: st) h := by
  have e : nI q + c = nI (q + k) := by rw [hc, nI_add]
  rw [e]
  refine lh_sload hj (vp_in_nI hq (by omega)) ?_
  rw [nI_clamp (by omega)]
  exact kk
theorem lh_scr0 {q : Nat} (hj : (lh_is M)[j]? = some (pc, .iaload, 1, j', t)) (hq : q < lh_L Γ) (hL : lh_L Γ ≤ 3584) (kk : lh_G Γ M R Z bc bs j' lv (.int (lh_xs Γ q) :: st) h) : lh_G Γ M R Z bc bs j lv (.int (nI q) :: .ref 0 :: st) h := by
  refine lh_sload hj (vp_in_nI hq (by omega)) ?_
  rw [nI_clamp (by omega)]
  exact kk
theorem lh_cmp0 (x : Int64) : lg_cmp x x = 0 := by unfold lg_cmp; simp
theorem lh_cVq {N : lh_M} {d mc ms o n ci na idx i : Nat} {As sk : List Value} (hj : (lh_is M)[j]? = some (pc, .invokevirtual idx, 3, j', i)) (hl : ((lh_ct M).2.2.1)[i]? = some (idx, lh_y N)) (hN : lh_okV N na) (ho : h.2.2.2[o]? = some (ci + 6, n)) (hcn : (lh_cls[ci]?).map (fun r => r.1) = some (lh_y N).cls)
    (hna : As.length = na) (hsk : As.reverse ++ .ref (o + 4) :: st = sk) (hd : Nat.ble (d + 1) R.frames = true ∧ Nat.ble (64 * (d + 1)) R.locals = true) (hst : Nat.ble ((st.map fun v => v.category).sum) 8 = true)
    (hm : lh_Met Γ N d mc ms (.ref (o + 4) :: As) h (lh_ki fun x h' => lh_G Γ M R Z bc bs j' lv (.int x :: st) h')) : lh_G Γ M R Z (bc + mc) (bs + ms) j lv sk h :=
  lh_invV hj hl hN ho hcn hna hsk hd hst (hm.mono (lh_kiG fun x h' hk => hk))
theorem lh_MeW.mono {N : lh_M} {hh : List (Nat × Nat × Nat × Nat)} {d mc ms : Nat} {as : List Value} {Q Q' : Option Value → lh_Hp → Prop} (hq : ∀ r h', Q r h' → Q' r h') (hm : lh_MeW Γ N hh d mc ms as h Q) : lh_MeW Γ N hh d mc ms as h Q' := by
  intro p e h1 h2 h3 s m args below h4 h5 h6 h7
  obtain ⟨n, o, a1, a2, a3, ⟨r, h', b1, b2, b3⟩, a5⟩ := hm p e h1 h2 h3 s m args below h4 h5 h6 h7
  exact ⟨n, o, a1, a2, a3, ⟨r, h', b1, hq r h' b2, b3⟩, a5⟩
theorem lh_cSW {N : lh_M} {hh : List (Nat × Nat × Nat × Nat)} {d mc ms na idx i : Nat} {As sk : List Value} (hj : (lh_is M)[j]? = some (pc, .invokestatic idx, 3, j', i)) (hl : ((lh_ct M).2.2.1)[i]? = some (idx, lh_y N)) (hN : (lh_okM N ∧ Cond.codeWith (lh_y N) (lh_bs N) (lh_mx N) (lh_rt N) hh ∈ lh_T) ∧ lh_plain (lh_y N) ∧ (parseMethodDescriptor (lh_y N).desc).map (fun d => d.parameters.length) = some na ∧ lh_mx N ≤ 45 ∧ Cond.static (lh_y N) ∈ lh_T ∧ Cond.initialized (lh_y N).cls ∈ lh_T)
    (hna : As.length = na) (hsk : As.reverse ++ st = sk) (hd : Nat.ble (d + 1) R.frames = true ∧ Nat.ble (64 * (d + 1)) R.locals = true) (hst : Nat.ble ((st.map fun v => v.category).sum) 8 = true)
    (hm : lh_MeW Γ N hh d mc ms As h (fun r h' => lh_G Γ M R Z bc bs j' lv (r.toList ++ st) h')) : lh_G Γ M R Z (bc + mc) (bs + ms) j lv sk h := by
  intro hM p e s m args below meth c ls H locs cells slots C hz hR hv hc hs
  obtain ⟨hdc, hn⟩ := lh_fetch hM hj rfl
  have C' := C
  obtain ⟨hx, hb, -, hml, hown, hts, -, -, hK, -⟩ := C
  obtain ⟨⟨hNM, hcd⟩, hpl, hpa, hmx, w1, w3⟩ := hN
  have hd1 := Nat.le_of_ble_eq_true hd.1
  have hd2 := Nat.le_of_ble_eq_true hd.2
  have hst' := Nat.le_of_ble_eq_true hst
  have hgood : GoodIn lh_T (Cond.codeWith (lh_y N) (lh_bs N) (lh_mx N) (lh_rt N) hh :: lh_T) := lh_goodIn _ hcd
  have cw : vx_CSW R s args (lh_ct M).1 idx (lh_y N) (lh_bs N) (lh_mx N) (lh_rt N) hh (Cond.codeWith (lh_y N) (lh_bs N) (lh_mx N) (lh_rt N) hh :: lh_T) (lh_R d mc ms) mc ms na :=
    ⟨⟨rfl, rfl, hd1, by show 8 + (lh_mx N + 11) + 64 * d ≤ R.locals; omega, pay_in hts hgood, List.mem_cons_self⟩, hts _ hcd, hts _ w3, hpl, fun sig h9 => by rw [h9] at hpa; exact (Option.some.inj hpa).symm, hts _ (lh_link hM hl), hts _ w1⟩
  have hrun := vx_runSW (l := lh_l Γ) (e := e) (below := below) (meth := meth) (H := H) (locs := locs) (cells := cells) (slots := slots) (cc := lh_bs M) (nL := lh_mx M) (As := As.map (lh_tr Γ)) (rest := st.map (lh_tr Γ)) (g := F0 m (lh_pc (lh_is M) j) ls (sk.map (lh_tr Γ))) ⟨hx, hb, hml, hown, hts⟩ hm cw
    ⟨lh_blind _, fun U hU hW => ⟨rfl, hK.warm hW, by rw [hU]; exact hR.nil⟩⟩ rfl (by rw [List.length_map]; exact hna) hv.1 (by rw [← hsk]; simp [List.map_reverse]) (by rw [lh_tr_sum]; show 2 * 0 + _ ≤ 8; omega) hdc ⟨by omega, by omega⟩
  refine lh_run hR hrun (fun r h' H1 locs1 hQ hR1 hz1 => ?_)
  have hk := hQ hM p e s m args below meth c ls H1 locs1 (cells + mc) (slots + ms) C' (by omega) hR1 hv (by omega) (by omega)
  rw [hn] at hk
  exact hk
theorem lh_ok.junk {F : lh_FF} {S : lh_SS} {a b a2 b2 : Nat} (h : lh_ok F S a b a2 b2) (hl : 82 ≤ S.length) (k : Nat) : lh_ok F (S ++ List.replicate k (16, 0)) a b a2 b2 :=
  h.ext (fun _ _ _ => rfl) (fun k hk => List.getElem?_append_left (by omega))
end LHLAW
theorem v_LL_rests : (lh_okM m_LL_rests ∧ Cond.codeWith (lh_y m_LL_rests) (lh_bs m_LL_rests) (lh_mx m_LL_rests) (lh_rt m_LL_rests) [(0, 14, 17, 13)] ∈ lh_T) ∧ lh_plain (lh_y m_LL_rests) ∧ (parseMethodDescriptor (lh_y m_LL_rests).desc).map (fun d => d.parameters.length) = some 6 ∧ lh_mx m_LL_rests ≤ 45 ∧ Cond.static (lh_y m_LL_rests) ∈ lh_T ∧ Cond.initialized (lh_y m_LL_rests).cls ∈ lh_T :=
  ⟨⟨k_LL_rests, lh_cd_T 5 94 rfl rfl⟩, ⟨by decide +kernel, by decide +kernel⟩, by decide +kernel, by decide, lh_ms_T (q := (5, 93)) (by decide +kernel), lh_ms_T (q := (1, 0)) (by decide +kernel)⟩
