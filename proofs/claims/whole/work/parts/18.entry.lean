/-! the law's entry and end -/
def lh_lwZ (Γ : lh_Cx) : List Frame → Array Value → State → State → Prop := fun below args s t => s.heap.size ≤ (lh_H0 Γ).size → lw_Z below args s t
theorem lh_lwret {p : Program} {l : Launch} {e : Env} {s : State} {m : MethodId} {args : Array Value} {below : List Frame} {meth : Method} {c : Code} (hx : p.tables.exec = Jvm.exec) (hb : c.code = code) (hr : meth.sig.returnType = ret) (hlocks : meth.locks = false) {pc : Nat} {H : Heap} {ls : Array Slot} (hdg : decode code pc = .ok (.ireturn, 1)) : W p l e room_1 s m args below meth c H [] 601024 7293034 (lw_Z below args s) (F0 m pc ls [.int 1]) := by
  intro T hT X
  obtain ⟨fs, hret, hrun, hended, hW, hframe⟩ := X.leave (v := some (.int 1)) (hlocks := hlocks) (fun h => by rw [hr] at h; cases h)
  have hmeth' : T.vm.method? m = some meth := X.method'
  refine ⟨T.setFrames fs, ?_, .returned (some (.int 1)), hrun, hended, rfl, ⟨_, rfl⟩, hW, hframe⟩
  jvm_step X.here [X.here.top, hx, hb, hdg, hmeth', hr, ret, narrow_b1]
  (try refine ⟨rfl, ?_⟩); (try refine ⟨rfl, ?_⟩)
  first | (intro acts; rw [hret _ acts rfl rfl rfl]) | rw [hret _ _ rfl rfl rfl]
  exact Steps.refl _
theorem lh_lwend {Γ : lh_Cx} (lv : List (Nat × Value)) (h : lh_Hp) : lh_G Γ m_LLm room_1 (lh_lwZ Γ) 0 0 28 lv [.int 1] h := by
  intro hM p e s m args below meth c ls H locs cells slots C hz hR hl hc hs T hT X
  by_cases h0 : s.heap.size ≤ (lh_H0 Γ).size
  · have hd := lh_fetchE hM (j := 28) rfl
    have hw : W p (lh_l Γ) e room_1 s m args below meth c H locs cells slots (lw_Z below args s) (F0 m (lh_pc (lh_is m_LLm) 28) ls [.int 1]) := by
      refine va_forget (fun q hq => Nat.le_trans h0 (hR.1.2.2 q hq)) ?_
      refine W.widen (k := 601024) (n := 7293034) (by have : room_1.cells = 601024 := rfl; omega) (by have : room_1.slots = 7293034 := rfl; omega) ?_
      exact lh_lwret C.1 C.2.1 C.2.2.1 C.2.2.2.2.2.2.1 hd
    obtain ⟨t, a, b⟩ := hw T hT X
    exact ⟨t, a, fun _ => b⟩
  · exact ⟨_, Steps.refl _, fun h9 => absurd h9 h0⟩
theorem lh_entry {Γ : lh_Cx} {Inv : Nat → Nat → Nat → Nat → Nat → lh_II → lh_LL → Prop} (hG : lh_GX Γ) (hY : lh_GY Γ) (hl : (lh_l Γ).stackTraces = false) (hP : lh_Pure Inv) (hSt : lh_Start Inv) (hL : lh_L Γ ≤ 3584) : lh_G Γ m_LLm room_1 (lh_lwZ Γ) 600000 7000000 0 [(0, .ref 0)] [] ((fun _ _ => 0), (fun _ _ => 0), (fun _ _ => 0), []) := by
  obtain ⟨r1, r2, e1, e2, hI⟩ := hSt
  refine lh_new4 (ci := 8) (N := 14) (n := 0) (S' := lh_SH.take 1) (bc := 599999) (bs := 6999986) rfl rfl rfl (by rfl) (by rfl) (fun _ => rfl) (fun _ => rfl) (fun _ => rfl) ?_
  refine lh_dup rfl rfl ?_
  refine lh_cIv (N := m_LH_init) (d := 20) (mc := 64) (ms := 3730) (bc := 599935) (bs := 6996256) (As := []) (st := [.ref (0 + 4)]) rfl rfl v_LH_init rfl rfl ⟨rfl, rfl⟩ rfl (tc_LH_init_0 hG (fun _ _ _ => rfl) (fun _ _ _ => rfl) (fun _ _ _ => rfl) e1 ?_)
  refine lh_astore_n (lv' := [(0, .ref 0), (1, .ref (0 + 4))]) rfl rfl rfl rfl ?_
  refine lh_cut (n := 65) rfl ?_
  refine lh_new4 (ci := 9) (N := 25) (n := 65) (S' := lh_SH.take 66) (bc := 599934) (bs := 6996231) rfl rfl rfl (by rfl) (by rfl) lh_cu_za.at lh_cu_za.at lh_cu_za.at ?_
  refine lh_dup rfl rfl ?_
  refine lh_cIv (N := m_LM_init) (d := 20) (mc := 15) (ms := 10681) (bc := 599919) (bs := 6985550) (As := []) (st := [.ref (65 + 4)]) rfl rfl v_LM_init rfl rfl ⟨rfl, rfl⟩ rfl (tc_LM_init_65 hG (lh_cu_za.mono (by decide)) (lh_cu_za.mono (by decide)) (lh_cu_za.mono (by decide)) e2 ?_)
  refine lh_astore_n (lv' := [(0, .ref 0), (1, .ref (0 + 4)), (2, .ref (65 + 4))]) rfl rfl rfl rfl ?_
  refine lh_iconst rfl lh_k_1 ?_
  refine lh_cut (n := 81) rfl ?_
  refine lh_newa4 (u := 1) (N := 1) (n := 81) (S' := lh_SH) (bc := 599918) (bs := 6985549) rfl (Or.inr (Or.inl ⟨rfl, rfl⟩)) (by decide) (by decide) (by decide) (by rfl) (by rfl) lh_cu_za.at lh_cu_za.at lh_cu_za.at ?_
  refine lh_astore_n (lv' := [(0, .ref 0), (1, .ref (0 + 4)), (2, .ref (65 + 4)), (3, .ref (81 + 4))]) rfl rfl rfl rfl ?_
  refine lh_iconst rfl lh_k_0 ?_
  refine lh_istore (lv' := [(0, .ref 0), (1, .ref (0 + 4)), (2, .ref (65 + 4)), (3, .ref (81 + 4)), (4, .int 0)]) rfl rfl rfl ?_
  exact lh_wid (bc := 2 * 3584) (bs := 15 * 3584) (by decide) (by decide) (lw_loop hG hY hl hP hL lh_lwend 3584 0 11 35 23 38 _ _ lh_F3 lh_SH (by omega) (by decide) lh_F3ok (by decide) hI)
theorem lh_whole {Inv : Nat → Nat → Nat → Nat → Nat → lh_II → lh_LL → Prop} (hP : lh_Pure Inv) (hSt : lh_Start Inv) {p : Program} {e : Env} {s : State} {m : MethodId} {below : List Frame} {meth : Method} {c : Code} (l : Launch) (hl : l.stackTraces = false) {b L : Nat} {xs : Nat → Int32} (hL : L ≤ 3584) (C0 : lw_At p s m meth c b L xs) (hnm : meth.name = x.name) : W p l e room_1 s m #[Value.ref b] below meth c s.heap [] 0 0 (lw_Z below #[Value.ref b] s) (entryFrame m ([Value.ref b] : List Value).toArray 7) := by
  obtain ⟨hx, hb, hr, hml, hown, hts, hX, hbl, hlocks, hgv⟩ := C0
  obtain ⟨D, hD⟩ := lh_kD hts
  obtain ⟨c0, g0⟩ := lh_aC (ty := .int) (fun C h => by cases h) (hts _ (lh_wd 1 216 rfl))
  obtain ⟨c1, g1⟩ := lh_aC (ty := .long) (fun C h => by cases h) (hts _ (lh_wd 1 128 rfl))
  obtain ⟨c2, g2⟩ := lh_aC (ty := .char) (fun C h => by cases h) (hts _ (lh_wd 1 127 rfl))
  obtain ⟨c3, g3⟩ := lh_aC (ty := .boolean) (fun C h => by cases h) (hts _ (lh_wd 6 67 rfl))
  obtain ⟨c4, g4⟩ := lh_aO (hts _ (lh_wd 1 191 rfl))
  obtain ⟨c5, g5⟩ := lh_aO (hts _ (lh_wd 1 193 rfl))
  obtain ⟨sp, hsp⟩ := lh_atoms hgv hts
  obtain ⟨Γ0, hΓ0⟩ : ∃ Γ0 : lh_Cx, Γ0 = (l, s.heap, L, xs, D, (fun u => match u with | 0 => c0 | 1 => c1 | 2 => c2 | 3 => c3 | 4 => c4 | _ => c5), (fun k => if k = 0 then b else sp k), fun _ => True) := ⟨_, rfl⟩
  have hΓ : ∀ Γ : lh_Cx, Γ = (l, s.heap, L, xs, D, (fun u => match u with | 0 => c0 | 1 => c1 | 2 => c2 | 3 => c3 | 4 => c4 | _ => c5), (fun k => if k = 0 then b else sp k), lh_Xd Γ0) → W p l e room_1 s m #[Value.ref b] below meth c s.heap [] 0 0 (lw_Z below #[Value.ref b] s) (entryFrame m ([Value.ref b] : List Value).toArray 7) := by
    intro Γ hΓ
    have hH : lh_H0 Γ = s.heap := by rw [hΓ]
    have hXs : lh_Xd Γ0 s := hsp Γ0 (by rw [hΓ0]) (fun k hk => by rw [hΓ0]; show (if k = 0 then b else sp k) = sp k; rw [if_neg (by omega)])
    have eX : lh_X Γ = lh_Xd Γ0 := by rw [hΓ]
    have hGX : lh_GX Γ := fun U hU => by
      rw [eX] at hU
      rw [hΓ0] at hU
      rw [hΓ]
      exact hU.1
    have hGY : lh_GY Γ := fun U hU => by
      rw [eX] at hU
      rw [hΓ0] at hU
      rw [hΓ]
      exact hU.2
    have hK : lh_KU Γ s := by
      refine ⟨⟨?_, ?_⟩, ?_, ?_, ?_, ?_⟩
      · rw [hΓ]; exact hD
      · rw [hΓ]
        intro k q hk
        match k, hk with
        | 0, hk => cases hk; exact g0
        | 1, hk => cases hk; exact g1
        | 2, hk => cases hk; exact g2
        | 3, hk => cases hk; exact g3
        | 4, hk => cases hk; exact g4
        | 5, hk => cases hk; exact g5
        | n + 6, hk => cases hk
      · rw [hΓ]; exact hX
      · rw [hΓ]; exact hbl
      · rw [eX]; exact hXs
      · rw [eX]; exact lh_Xwarm
    have hS : va_S (lh_A Γ) (lh_H0 Γ) s.heap [] := by rw [hH]; exact va_S.rf
    have hk := lh_entry (Γ := Γ) hGX hGY (by rw [hΓ]; exact hl) hP hSt (by rw [hΓ]; exact hL)
    have hlv := lv_entry ([.ref b]) (n := 7) (Nat.le_of_ble_eq_true rfl)
    rw [lg_entry_eq]
    have hw := hk k_LLm p e s m #[Value.ref b] below meth c _ s.heap [] 0 0 ⟨hx, hb, hr, hml, hown, fun w hw => hts w (lh_T_tbl hw), hlocks, hnm, hK, hS⟩ (Nat.le_refl _) ⟨hS, by rw [hH]; rfl, fun k q hk => by cases hk⟩ (by rw [show lh_lv Γ [(0, .ref 0)] = [(0, .ref b)] from by rw [hΓ]; rfl]; exact hlv) (by decide) (by decide)
    intro T hT X
    have el : lh_l Γ = l := by rw [hΓ]
    rw [el] at hw
    obtain ⟨t, a1, b1⟩ := hw T hT X
    exact ⟨t, a1, b1 (by rw [hH]; exact Nat.le_refl _)⟩
  exact hΓ _ rfl
