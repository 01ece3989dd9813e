/-! String.charAt on a text of the special cells, at a place within it -/
theorem tn_Pc_checkIndex {Γ : lh_Cx} {h : lh_Hp} {K : Int32 → lh_Hp → Prop} {x y : Int32} {v : Value} (hv : v = .null ∨ ∃ a, v = .ref a) (h0 : ¬ x < 0) (h1 : x < y) (hK : K x h) : lh_Met Γ m_Pc_checkIndex 0 0 0 [.int x, .int y, v] h (lh_ki K) := by
  refine lh_ofG k_Pc_checkIndex [(0, .int x), (1, .int y), (2, v)] rfl (by rcases hv with rfl | ⟨a, rfl⟩ <;> exact Nat.le_of_ble_eq_true rfl) rfl ?_
  refine lh_iload_n (q := 0) rfl rfl rfl ?_
  refine lh_if_lt rfl (fun c => absurd c h0) (fun _ => ?_)
  refine lh_iload_n (q := 0) rfl rfl rfl ?_
  refine lh_iload_n (q := 1) rfl rfl rfl ?_
  refine lh_icmp_lt rfl (fun _ => ?_) (fun c => absurd h1 c)
  refine lh_iload_n (q := 0) rfl rfl rfl ?_
  exact lh_iret rfl rfl rfl hK
theorem tn_St_checkIndex {Γ : lh_Cx} {h : lh_Hp} {K : lh_Hp → Prop} {x y : Int32} {g : Nat → Nat} (hg : lh_sp Γ 0 = g 0) (hG : lh_GX Γ) (h0 : ¬ x < 0) (h1 : x < y) (hK : K h) : lh_Met (lh_sw Γ g) m_St_checkIndex 1 0 0 [.int x, .int y] h (lh_kv K) := by
  have key : ∀ v : Value, lh_tr (lh_sw Γ (fun k => if k = 1 then lh_sp Γ 6 else lh_sp Γ k)) v = lh_fmt Γ → (v = .null ∨ ∃ a, v = .ref a) → lh_Met (lh_sw Γ (fun k => if k = 1 then lh_sp Γ 6 else lh_sp Γ k)) m_St_checkIndex 1 0 0 [.int x, .int y] h (lh_kv K) := by
    intro v hv hn
    refine lh_ofG k_St_checkIndex [(0, .int x), (1, .int y)] rfl (Nat.le_of_ble_eq_true rfl) rfl ?_
    refine lh_iload_n (q := 0) rfl rfl rfl ?_
    refine lh_iload_n (q := 1) rfl rfl rfl ?_
    refine lh_gfmt (v := v) hG hv rfl rfl ?_
    refine lh_cSi (N := m_Pc_checkIndex) (d := 0) (As := [.int x, .int y, v]) (st := []) rfl rfl v_Pc_checkIndex rfl rfl ⟨rfl, rfl⟩ rfl (tn_Pc_checkIndex hn h0 h1 ?_)
    refine lh_pop rfl rfl ?_
    exact lh_vret rfl rfl hK
  have key2 : lh_Met (lh_sw Γ (fun k => if k = 1 then lh_sp Γ 6 else lh_sp Γ k)) m_St_checkIndex 1 0 0 [.int x, .int y] h (lh_kv K) := by
    by_cases hz : lh_sp Γ 7 = 0
    · exact key .null (by unfold lh_fmt; rw [if_pos hz]; rfl) (Or.inl rfl)
    · exact key (.ref 1) (by unfold lh_fmt; rw [if_neg hz]; rfl) (Or.inr ⟨1, rfl⟩)
  exact lh_swOut (Γ := Γ) (f := fun k => if k = 1 then lh_sp Γ 6 else lh_sp Γ k) (g := g) hg rfl (fun r h' hr => by match r, hr with | none, _ => rfl) key2
theorem lh_swSelf (Γ : lh_Cx) : lh_sw Γ (lh_sp Γ) = Γ := rfl
def lh_chr (i : Nat) (x : Int32) : Int32 := ((((lh_byt.getD i []).getD x.toNatClampNeg 0) &&& 255).toUInt32 % 65536).toInt32
theorem tn_SL_charAt {Γ : lh_Cx} {h : lh_Hp} {K : Int32 → lh_Hp → Prop} {x : Int32} {i : Nat} (hG : lh_GX Γ) (hi : i < 2) (hx : lh_ix x (lh_strl.getD i 0) = true) (hK : K (lh_chr i x) h) : lh_Met (lh_gs Γ i) m_SL_charAt 2 0 0 [.ref 1, .int x] h (lh_ki K) := by
  have hl : lh_strl.getD i 0 < 1000 := by match i, hi with | 0, _ => decide | 1, _ => decide
  have hx' := hx
  simp only [lh_ix, Bool.and_eq_true, decide_eq_true_eq] at hx'
  have hnt : (nI (lh_strl.getD i 0)).toInt = ((lh_strl.getD i 0 : Nat) : Int) := nI_toInt (by omega)
  refine lh_ofG k_SL_charAt [(0, .ref 1), (1, .int x)] rfl (Nat.le_of_ble_eq_true rfl) rfl ?_
  refine lh_iload_n (q := 1) rfl rfl rfl ?_
  refine lh_aload_n (q := 0) rfl rfl rfl ?_
  refine lh_sln hG hi rfl ?_
  refine lh_cSv (N := m_St_checkIndex) (d := 1) (As := [.int x, .int (nI (lh_strl.getD i 0))]) (st := []) rfl rfl v_St_checkIndex rfl rfl ⟨rfl, rfl⟩ rfl (tn_St_checkIndex (g := fun k => if k = 1 then lh_sp Γ (4 + i) else lh_sp Γ k) rfl hG (by rw [Int32.lt_iff_toInt_lt, Int32.toInt_zero]; omega) (by rw [Int32.lt_iff_toInt_lt, hnt]; omega) ?_)
  refine lh_aload_n (q := 0) rfl rfl rfl ?_
  refine lh_iload_n (q := 1) rfl rfl rfl ?_
  refine lh_sbl hG hi rfl hx ?_
  refine lh_sipush rfl lh_s_255 ?_
  refine lh_iand rfl ?_
  refine lh_i2c rfl ?_
  exact lh_iret rfl rfl (pk_nc _) hK
