/-! the law's loop over what is owed of the calls -/
section LHL16
variable {Γ : lh_Cx} {M : lh_M} {R : Room} {Z : List Frame → Array Value → State → State → Prop} {bc bs j pc j' t : Nat} {lv : List (Nat × Value)} {st : List Value} {h : lh_Hp}
theorem lh_wid {bc' bs' : Nat} (h1 : bc ≤ bc') (h2 : bs ≤ bs') (k : lh_G Γ M R Z bc bs j lv st h) : lh_G Γ M R Z bc' bs' j lv st h := by
  intro hM p e s m args below meth c ls H locs cells slots C hz hR hl hc hs
  exact k hM p e s m args below meth c ls H locs cells slots C hz hR hl (by omega) (by omega)
theorem lh_tsX {M' : lh_M} {x : Int32} {dflt lo hi off : Int} {offs : Array Int} {n q j2 : Nat} (hM' : lh_okM M') (e1 : lh_ct M = lh_ct M') (e2 : lh_y M = lh_y M') (e3 : lh_bs M = lh_bs M') (e4 : lh_mx M = lh_mx M') (e5 : lh_rt M = lh_rt M') (hj : (lh_is M)[j]? = some (pc, .tableswitch dflt lo hi offs, n, j', t)) (hx : x.toInt = lo + (q : Int)) (hh : lo + (q : Int) ≤ hi) (ho : offs[q]? = some off) (ht : (pc : Int) + off = (lh_pc (lh_is M') j2 : Int))
    (k : lh_G Γ M' R Z bc bs j2 lv st h) : lh_G Γ M R Z bc bs j lv (.int x :: st) h := by
  obtain ⟨c1, y1, b1, x1, r1, i1⟩ := M
  obtain ⟨c2, y2, b2, x2, r2, i2⟩ := M'
  cases e1; cases e2; cases e3; cases e4; cases e5
  intro hM p e s m args below meth c ls H locs cells slots C hz hR hl hc hs
  have hd := lh_fetchE hM hj
  have hp : lh_pc i1 j = pc := by unfold lh_pc; rw [hj]
  exact lv_tableIn C.1 C.2.1 hd (by omega) (by omega) (by rw [hx, show lo + (q : Int) - lo = (q : Int) by omega, Int.toNat_natCast]; exact ho) (by show ((lh_pc i1 j : Nat) : Int) + off = _; rw [hp]; exact ht) (k hM' p e s m args below meth c ls H locs cells slots C hz hR hl hc hs)
end LHL16
theorem lh_if01 {c : Prop} [Decidable c] : (if c then (0 : Int32) else 1) = 0 ∨ (if c then (0 : Int32) else 1) = 1 := by split <;> simp
/-- what the rest of the loop is owed -/
def lh_next (Γ : lh_Cx) (Inv : Nat → Nat → Nat → Nat → Nat → lh_II → lh_LL → Prop) (t : Nat) (Z : List Frame → Array Value → State → State → Prop) (bc bs i : Nat) : Prop :=
  ∀ (a b a2 b2 : Nat) (I : lh_II) (L : lh_LL) (F : lh_FF) (S : lh_SS), lh_ok F S a b a2 b2 → 82 ≤ S.length → Inv t a b a2 b2 I L → lh_G Γ m_LLm room_1 Z bc bs 13 [(0, .ref 0), (1, .ref (0 + 4)), (2, .ref (65 + 4)), (3, .ref (81 + 4)), (4, .int (nI i))] [] (I, L, F, S)
def lh_P40 (Inv : Nat → Nat → Nat → Nat → Nat → lh_II → lh_LL → Prop) : Prop := ∀ (t a b a2 b2 : Nat) (I : lh_II) (L : lh_LL) (x1 x2 x3 x4 : Int32), Inv (t + 1) a b a2 b2 I L → ∃ (r1 : Option Int32) (r2 : Int32 × lh_II) (r3 : Int32), f_LH_rests a b x1 x2 x3 x4 = some r1 ∧ f_LM_rests x1 x2 x3 x4 I = some r2 ∧ f_LM_thrown r2.2 = some r3 ∧ (r1 = none → r3 = 1) ∧ (∀ x, r1 = some x → r3 = 0 ∧ x = r2.1) ∧ Inv t a b a2 b2 r2.2 L ∧ ∀ x, Inv t a b a2 b2 r2.2 (lh_v2 L (81 + 4) 0 x)
def lh_P0 (Inv : Nat → Nat → Nat → Nat → Nat → lh_II → lh_LL → Prop) : Prop := ∀ (t a b a2 b2 : Nat) (I : lh_II) (L : lh_LL) (y1 : Int64) (y2 : Int64) (y3 : Int64), Inv (t + 1) a b a2 b2 I L → ∃ (r1 : Int32 × lh_II) (r2 : Int32 × lh_II), f_LH_feed a b y1 y2 y3 I = some r1 ∧ f_LM_feed y1 y2 y3 r1.2 = some r2 ∧ r1.1 = r2.1 ∧ Inv t a b a2 b2 r2.2 L
def lh_P1 (Inv : Nat → Nat → Nat → Nat → Nat → lh_II → lh_LL → Prop) : Prop := ∀ (t a b a2 b2 n : Nat) (I : lh_II) (L : lh_LL), 82 ≤ n → Inv (t + 1) a b a2 b2 I L → ∃ (r1 : Int32 × lh_II × lh_LL) (r2 : Int32 × lh_II × lh_LL), f_LH_hall a b a2 n I L = some r1 ∧ f_LM_hall r1.2.1 r1.2.2 = some r2 ∧ r1.1 = r2.1 ∧ (r1.1 = 0 → Inv t a2 b a b2 r2.2.1 r2.2.2) ∧ (r1.1 ≠ 0 → Inv t a b a2 b2 r2.2.1 r2.2.2)
def lh_P2 (Inv : Nat → Nat → Nat → Nat → Nat → lh_II → lh_LL → Prop) : Prop := ∀ (t a b a2 b2 : Nat) (I : lh_II) (L : lh_LL), Inv (t + 1) a b a2 b2 I L → ∃ (r1 : Int32 × lh_II × lh_LL) (r2 : Int32 × lh_II × lh_LL), f_LH_night b2 I L = some r1 ∧ f_LM_night r1.2.1 r1.2.2 = some r2 ∧ r1.1 = r2.1 ∧ (r1.1 = 0 → Inv t a b2 a2 b r2.2.1 r2.2.2) ∧ (r1.1 ≠ 0 → Inv t a b a2 b2 r2.2.1 r2.2.2)
def lh_P3 (Inv : Nat → Nat → Nat → Nat → Nat → lh_II → lh_LL → Prop) : Prop := ∀ (t a b a2 b2 : Nat) (I : lh_II) (L : lh_LL) (x1 : Int32) (x2 : Int32), Inv (t + 1) a b a2 b2 I L → ∃ (r1 : Int32 × lh_II) (r2 : Int32 × lh_II), f_LH_visitor a b x1 x2 I = some r1 ∧ f_LM_visitor x1 x2 r1.2 = some r2 ∧ r1.1 = r2.1 ∧ Inv t a b a2 b2 r2.2 L
def lh_P4 (Inv : Nat → Nat → Nat → Nat → Nat → lh_II → lh_LL → Prop) : Prop := ∀ (t a b a2 b2 : Nat) (I : lh_II) (L : lh_LL) (x1 : Int32) (x2 : Int32), Inv (t + 1) a b a2 b2 I L → ∃ (r1 : Int32) (r2 : Int32 × lh_II), f_LH_at a b x1 x2 I = some r1 ∧ f_LM_at x1 x2 I = some r2 ∧ r1 = r2.1 ∧ Inv t a b a2 b2 r2.2 L
def lh_P5 (Inv : Nat → Nat → Nat → Nat → Nat → lh_II → lh_LL → Prop) : Prop := ∀ (t a b a2 b2 : Nat) (I : lh_II) (L : lh_LL) (x1 : Int32) (x2 : Int32), Inv (t + 1) a b a2 b2 I L → ∃ (r1 : Int32 × lh_II) (r2 : Int32 × lh_II), f_LH_vase a b x1 x2 I = some r1 ∧ f_LM_vase x1 x2 r1.2 = some r2 ∧ r1.1 = r2.1 ∧ Inv t a b a2 b2 r2.2 L
def lh_P6 (Inv : Nat → Nat → Nat → Nat → Nat → lh_II → lh_LL → Prop) : Prop := ∀ (t a b a2 b2 : Nat) (I : lh_II) (L : lh_LL), Inv (t + 1) a b a2 b2 I L → ∃ (r1 : Int32) (r2 : Int32 × lh_II), f_LH_light a b I = some r1 ∧ f_LM_light I = some r2 ∧ r1 = r2.1 ∧ Inv t a b a2 b2 r2.2 L
def lh_P7 (Inv : Nat → Nat → Nat → Nat → Nat → lh_II → lh_LL → Prop) : Prop := ∀ (t a b a2 b2 : Nat) (I : lh_II) (L : lh_LL) (x1 : Int32), Inv (t + 1) a b a2 b2 I L → ∃ (r1 : Int32 × lh_II) (r2 : Int32 × lh_II), f_LH_shown a b x1 I = some r1 ∧ f_LM_shown x1 r1.2 = some r2 ∧ r1.1 = r2.1 ∧ Inv t a b a2 b2 r2.2 L
def lh_P8 (Inv : Nat → Nat → Nat → Nat → Nat → lh_II → lh_LL → Prop) : Prop := ∀ (t a b a2 b2 : Nat) (I : lh_II) (L : lh_LL), Inv (t + 1) a b a2 b2 I L → ∃ (r1 : Int32 × lh_II) (r2 : Int32 × lh_II), f_LH_sees a b I = some r1 ∧ f_LM_sees r1.2 = some r2 ∧ r1.1 = r2.1 ∧ Inv t a b a2 b2 r2.2 L
def lh_P9 (Inv : Nat → Nat → Nat → Nat → Nat → lh_II → lh_LL → Prop) : Prop := ∀ (t a b a2 b2 : Nat) (I : lh_II) (L : lh_LL), Inv (t + 1) a b a2 b2 I L → ∃ (r1 : Int32 × lh_II) (r2 : Int32 × lh_II), f_LH_treasures a b I = some r1 ∧ f_LM_treasures r1.2 = some r2 ∧ r1.1 = r2.1 ∧ Inv t a b a2 b2 r2.2 L
def lh_P10 (Inv : Nat → Nat → Nat → Nat → Nat → lh_II → lh_LL → Prop) : Prop := ∀ (t a b a2 b2 : Nat) (I : lh_II) (L : lh_LL) (x1 : Int32), Inv (t + 1) a b a2 b2 I L → ∃ (r1 : Int32 × lh_II) (r2 : Int32 × lh_II), f_LH_step a b x1 I = some r1 ∧ f_LM_step x1 r1.2 = some r2 ∧ r1.1 = r2.1 ∧ Inv t a b a2 b2 r2.2 L
def lh_P11 (Inv : Nat → Nat → Nat → Nat → Nat → lh_II → lh_LL → Prop) : Prop := ∀ (t a b a2 b2 : Nat) (I : lh_II) (L : lh_LL) (x1 : Int32), Inv (t + 1) a b a2 b2 I L → ∃ (r1 : Int32 × lh_II) (r2 : Int32 × lh_II), f_LH_trim a b x1 I = some r1 ∧ f_LM_trim x1 r1.2 = some r2 ∧ r1.1 = r2.1 ∧ Inv t a b a2 b2 r2.2 L
def lh_P12 (Inv : Nat → Nat → Nat → Nat → Nat → lh_II → lh_LL → Prop) : Prop := ∀ (t a b a2 b2 : Nat) (I : lh_II) (L : lh_LL) (x1 : Int32), Inv (t + 1) a b a2 b2 I L → ∃ (r1 : Int32 × lh_II) (r2 : Int32 × lh_II), f_LH_fill a b x1 I = some r1 ∧ f_LM_fill x1 r1.2 = some r2 ∧ r1.1 = r2.1 ∧ Inv t a b a2 b2 r2.2 L
def lh_P13 (Inv : Nat → Nat → Nat → Nat → Nat → lh_II → lh_LL → Prop) : Prop := ∀ (t a b a2 b2 : Nat) (I : lh_II) (L : lh_LL), Inv (t + 1) a b a2 b2 I L → ∃ (r1 : Int32 × lh_II) (r2 : Int32 × lh_II), f_LH_undo a b I = some r1 ∧ f_LM_undo r1.2 = some r2 ∧ r1.1 = r2.1 ∧ Inv t a b a2 b2 r2.2 L
def lh_P14 (Inv : Nat → Nat → Nat → Nat → Nat → lh_II → lh_LL → Prop) : Prop := ∀ (t a b a2 b2 : Nat) (I : lh_II) (L : lh_LL) (x1 : Int32), Inv (t + 1) a b a2 b2 I L → ∃ (r1 : Int32 × lh_II) (r2 : Int32 × lh_II), f_LH_judged a b x1 I = some r1 ∧ f_LM_judged x1 r1.2 = some r2 ∧ r1.1 = r2.1 ∧ Inv t a b a2 b2 r2.2 L
def lh_P15 (Inv : Nat → Nat → Nat → Nat → Nat → lh_II → lh_LL → Prop) : Prop := ∀ (t a b a2 b2 : Nat) (I : lh_II) (L : lh_LL) (x1 : Int32), Inv (t + 1) a b a2 b2 I L → ∃ (r1 : Int32 × lh_II × lh_LL) (r2 : Int32 × lh_II × lh_LL), f_LH_shortest a b x1 I L = some r1 ∧ f_LM_shortest x1 r1.2.1 r1.2.2 = some r2 ∧ r1.1 = r2.1 ∧ Inv t a b a2 b2 r2.2.1 r2.2.2
def lh_P16 (Inv : Nat → Nat → Nat → Nat → Nat → lh_II → lh_LL → Prop) : Prop := ∀ (t a b a2 b2 : Nat) (I : lh_II) (L : lh_LL), Inv (t + 1) a b a2 b2 I L → ∃ (r1 : Int32) (r2 : Int32 × lh_II), f_LH_cover a b I = some r1 ∧ f_LM_cover I = some r2 ∧ r1 = r2.1 ∧ Inv t a b a2 b2 r2.2 L
def lh_P17 (Inv : Nat → Nat → Nat → Nat → Nat → lh_II → lh_LL → Prop) : Prop := ∀ (t a b a2 b2 : Nat) (I : lh_II) (L : lh_LL) (x1 : Int32) (x2 : Int32) (z : Int32) (hz : z = 0 ∨ z = 1), Inv (t + 1) a b a2 b2 I L → ∃ (r1 : Int32 × lh_II) (r2 : Int32 × lh_II), f_LH_say a b x1 x2 z I = some r1 ∧ f_LM_say x1 x2 z r1.2 = some r2 ∧ r1.1 = r2.1 ∧ Inv t a b a2 b2 r2.2 L
def lh_P18 (Inv : Nat → Nat → Nat → Nat → Nat → lh_II → lh_LL → Prop) : Prop := ∀ (t a b a2 b2 : Nat) (I : lh_II) (L : lh_LL), Inv (t + 1) a b a2 b2 I L → ∃ (r1 : Int32) (r2 : Int32 × lh_II), f_LH_days a b I = some r1 ∧ f_LM_days I = some r2 ∧ r1 = r2.1 ∧ Inv t a b a2 b2 r2.2 L
def lh_P19 (Inv : Nat → Nat → Nat → Nat → Nat → lh_II → lh_LL → Prop) : Prop := ∀ (t a b a2 b2 : Nat) (I : lh_II) (L : lh_LL), Inv (t + 1) a b a2 b2 I L → ∃ (r1 : Int32) (r2 : Int32 × lh_II), f_LH_ask a b I = some r1 ∧ f_LM_ask I = some r2 ∧ r1 = r2.1 ∧ Inv t a b a2 b2 r2.2 L
def lh_P20 (Inv : Nat → Nat → Nat → Nat → Nat → lh_II → lh_LL → Prop) : Prop := ∀ (t a b a2 b2 : Nat) (I : lh_II) (L : lh_LL), Inv (t + 1) a b a2 b2 I L → ∃ (r1 : Int32) (r2 : Int32 × lh_II), f_LH_meet a b I = some r1 ∧ f_LM_meet I = some r2 ∧ r1 = r2.1 ∧ Inv t a b a2 b2 r2.2 L
def lh_P21 (Inv : Nat → Nat → Nat → Nat → Nat → lh_II → lh_LL → Prop) : Prop := ∀ (t a b a2 b2 : Nat) (I : lh_II) (L : lh_LL), Inv (t + 1) a b a2 b2 I L → ∃ (r1 : Int32) (r2 : Int32 × lh_II), f_LH_never a b I = some r1 ∧ f_LM_never I = some r2 ∧ r1 = r2.1 ∧ Inv t a b a2 b2 r2.2 L
def lh_P22 (Inv : Nat → Nat → Nat → Nat → Nat → lh_II → lh_LL → Prop) : Prop := ∀ (t a b a2 b2 : Nat) (I : lh_II) (L : lh_LL) (x1 : Int32) (x2 : Int32) (x3 : Int32), Inv (t + 1) a b a2 b2 I L → ∃ (r1 : Int32) (r2 : Int32 × lh_II), f_LH_taken a b x1 x2 x3 I = some r1 ∧ f_LM_taken x1 x2 x3 I = some r2 ∧ r1 = r2.1 ∧ Inv t a b a2 b2 r2.2 L
def lh_P23 (Inv : Nat → Nat → Nat → Nat → Nat → lh_II → lh_LL → Prop) : Prop := ∀ (t a b a2 b2 : Nat) (I : lh_II) (L : lh_LL) (x1 : Int32) (x2 : Int32) (x3 : Int32), Inv (t + 1) a b a2 b2 I L → ∃ (r1 : Int32) (r2 : Int32 × lh_II), f_LH_chance a b x1 x2 x3 I = some r1 ∧ f_LM_chance x1 x2 x3 I = some r2 ∧ r1 = r2.1 ∧ Inv t a b a2 b2 r2.2 L
def lh_P24 (Inv : Nat → Nat → Nat → Nat → Nat → lh_II → lh_LL → Prop) : Prop := ∀ (t a b a2 b2 : Nat) (I : lh_II) (L : lh_LL) (x1 : Int32) (x2 : Int32), Inv (t + 1) a b a2 b2 I L → ∃ (r1 : Int32) (r2 : Int32 × lh_II), f_LH_pass a b x1 x2 I = some r1 ∧ f_LM_pass x1 x2 I = some r2 ∧ r1 = r2.1 ∧ Inv t a b a2 b2 r2.2 L
def lh_P25 (Inv : Nat → Nat → Nat → Nat → Nat → lh_II → lh_LL → Prop) : Prop := ∀ (t a b a2 b2 : Nat) (I : lh_II) (L : lh_LL), Inv (t + 1) a b a2 b2 I L → ∃ (r1 : Int32 × lh_II) (r2 : Int32 × lh_II), f_LH_best a b I = some r1 ∧ f_LM_best r1.2 = some r2 ∧ r1.1 = r2.1 ∧ Inv t a b a2 b2 r2.2 L
def lh_P26 (Inv : Nat → Nat → Nat → Nat → Nat → lh_II → lh_LL → Prop) : Prop := ∀ (t a b a2 b2 : Nat) (I : lh_II) (L : lh_LL) (x1 : Int32), Inv (t + 1) a b a2 b2 I L → ∃ (r1 : Int32) (r2 : Int32 × lh_II), f_LH_lonely a b x1 I = some r1 ∧ f_LM_lonely x1 I = some r2 ∧ r1 = r2.1 ∧ Inv t a b a2 b2 r2.2 L
def lh_P27 (Inv : Nat → Nat → Nat → Nat → Nat → lh_II → lh_LL → Prop) : Prop := ∀ (t a b a2 b2 : Nat) (I : lh_II) (L : lh_LL) (x1 : Int32), Inv (t + 1) a b a2 b2 I L → ∃ (r1 : Int32) (r2 : Int32 × lh_II), f_LH_crowd a b x1 I = some r1 ∧ f_LM_crowd x1 I = some r2 ∧ r1 = r2.1 ∧ Inv t a b a2 b2 r2.2 L
def lh_P28 (Inv : Nat → Nat → Nat → Nat → Nat → lh_II → lh_LL → Prop) : Prop := ∀ (t a b a2 b2 : Nat) (I : lh_II) (L : lh_LL) (x1 : Int32) (x2 : Int32), Inv (t + 1) a b a2 b2 I L → ∃ (r1 : Int32) (r2 : Int32 × lh_II), f_LH_alibi a b x1 x2 I = some r1 ∧ f_LM_alibi x1 x2 I = some r2 ∧ r1 = r2.1 ∧ Inv t a b a2 b2 r2.2 L
def lh_P29 (Inv : Nat → Nat → Nat → Nat → Nat → lh_II → lh_LL → Prop) : Prop := ∀ (t a b a2 b2 : Nat) (I : lh_II) (L : lh_LL) (x1 : Int32) (x2 : Int32), Inv (t + 1) a b a2 b2 I L → ∃ (r1 : Int32) (r2 : Int32 × lh_II), f_LH_follows a b x1 x2 I = some r1 ∧ f_LM_follows x1 x2 I = some r2 ∧ r1 = r2.1 ∧ Inv t a b a2 b2 r2.2 L
def lh_P30 (Inv : Nat → Nat → Nat → Nat → Nat → lh_II → lh_LL → Prop) : Prop := ∀ (t a b a2 b2 : Nat) (I : lh_II) (L : lh_LL), Inv (t + 1) a b a2 b2 I L → ∃ (r1 : Int32 × lh_II) (r2 : Int32 × lh_II), f_LH_blot a b I = some r1 ∧ f_LM_blot r1.2 = some r2 ∧ r1.1 = r2.1 ∧ Inv t a b a2 b2 r2.2 L
def lh_P31 (Inv : Nat → Nat → Nat → Nat → Nat → lh_II → lh_LL → Prop) : Prop := ∀ (t a b a2 b2 : Nat) (I : lh_II) (L : lh_LL) (x1 : Int32), Inv (t + 1) a b a2 b2 I L → ∃ (r1 : Int32) (r2 : Int32 × lh_II), f_LH_gap a b x1 I = some r1 ∧ f_LM_gap x1 I = some r2 ∧ r1 = r2.1 ∧ Inv t a b a2 b2 r2.2 L
def lh_P32 (Inv : Nat → Nat → Nat → Nat → Nat → lh_II → lh_LL → Prop) : Prop := ∀ (t a b a2 b2 : Nat) (I : lh_II) (L : lh_LL), Inv (t + 1) a b a2 b2 I L → ∃ (r1 : Int32) (r2 : Int32 × lh_II), f_LH_same a b I = some r1 ∧ f_LM_same I = some r2 ∧ r1 = r2.1 ∧ Inv t a b a2 b2 r2.2 L
def lh_P33 (Inv : Nat → Nat → Nat → Nat → Nat → lh_II → lh_LL → Prop) : Prop := ∀ (t a b a2 b2 : Nat) (I : lh_II) (L : lh_LL) (x1 : Int32), Inv (t + 1) a b a2 b2 I L → ∃ (r1 : Int32) (r2 : Int32 × lh_II), f_LH_wavers a b x1 I = some r1 ∧ f_LM_wavers x1 I = some r2 ∧ r1 = r2.1 ∧ Inv t a b a2 b2 r2.2 L
def lh_P34 (Inv : Nat → Nat → Nat → Nat → Nat → lh_II → lh_LL → Prop) : Prop := ∀ (t a b a2 b2 : Nat) (I : lh_II) (L : lh_LL) (x1 : Int32), Inv (t + 1) a b a2 b2 I L → ∃ (r1 : Int32 × lh_II) (r2 : Int32 × lh_II × lh_LL), f_LH_reach a b x1 I = some r1 ∧ f_LM_reach x1 r1.2 L = some r2 ∧ r1.1 = r2.1 ∧ Inv t a b a2 b2 r2.2.1 r2.2.2
def lh_P35 (Inv : Nat → Nat → Nat → Nat → Nat → lh_II → lh_LL → Prop) : Prop := ∀ (t a b a2 b2 : Nat) (I : lh_II) (L : lh_LL) (x1 : Int32) (x2 : Int32), Inv (t + 1) a b a2 b2 I L → ∃ (r1 : Int32) (r2 : Int32 × lh_II), f_LH_census a b x1 x2 I = some r1 ∧ f_LM_census x1 x2 I = some r2 ∧ r1 = r2.1 ∧ Inv t a b a2 b2 r2.2 L
def lh_P36 (Inv : Nat → Nat → Nat → Nat → Nat → lh_II → lh_LL → Prop) : Prop := ∀ (t a b a2 b2 : Nat) (I : lh_II) (L : lh_LL), Inv (t + 1) a b a2 b2 I L → ∃ (r1 : Int32 × lh_II) (r2 : Int32 × lh_II), f_LH_choose a b I = some r1 ∧ f_LM_choose r1.2 = some r2 ∧ r1.1 = r2.1 ∧ Inv t a b a2 b2 r2.2 L
def lh_P37 (Inv : Nat → Nat → Nat → Nat → Nat → lh_II → lh_LL → Prop) : Prop := ∀ (t a b a2 b2 : Nat) (I : lh_II) (L : lh_LL) (x1 : Int32), Inv (t + 1) a b a2 b2 I L → ∃ (r1 : Int32) (r2 : Int32 × lh_II), f_LH_fellow a b x1 I = some r1 ∧ f_LM_fellow x1 I = some r2 ∧ r1 = r2.1 ∧ Inv t a b a2 b2 r2.2 L
def lh_P38 (Inv : Nat → Nat → Nat → Nat → Nat → lh_II → lh_LL → Prop) : Prop := ∀ (t a b a2 b2 : Nat) (I : lh_II) (L : lh_LL) (x1 : Int32), Inv (t + 1) a b a2 b2 I L → ∃ (r1 : Int32) (r2 : Int32 × lh_II), f_LH_exposed a b x1 I = some r1 ∧ f_LM_exposed x1 I = some r2 ∧ r1 = r2.1 ∧ Inv t a b a2 b2 r2.2 L
def lh_P39 (Inv : Nat → Nat → Nat → Nat → Nat → lh_II → lh_LL → Prop) : Prop := ∀ (t a b a2 b2 : Nat) (I : lh_II) (L : lh_LL) (x1 : Int32), Inv (t + 1) a b a2 b2 I L → ∃ (r1 : Int32 × lh_II) (r2 : Int32 × lh_II), f_LH_would a b x1 I = some r1 ∧ f_LM_would x1 r1.2 = some r2 ∧ r1.1 = r2.1 ∧ Inv t a b a2 b2 r2.2 L
def lh_P41 (Inv : Nat → Nat → Nat → Nat → Nat → lh_II → lh_LL → Prop) : Prop := ∀ (t a b a2 b2 : Nat) (I : lh_II) (L : lh_LL) (x1 : Int32) (x2 : Int32) (x3 : Int32), Inv (t + 1) a b a2 b2 I L → ∃ (r1 : Int32 × lh_II) (r2 : Int32 × lh_II × lh_LL), f_LH_nights a b x1 x2 x3 I = some r1 ∧ f_LM_nights x1 x2 x3 r1.2 L = some r2 ∧ r1.1 = r2.1 ∧ Inv t a b a2 b2 r2.2.1 r2.2.2
def lh_P42 (Inv : Nat → Nat → Nat → Nat → Nat → lh_II → lh_LL → Prop) : Prop := ∀ (t a b a2 b2 : Nat) (I : lh_II) (L : lh_LL) (x1 : Int32) (z : Int32) (hz : z = 0 ∨ z = 1), Inv (t + 1) a b a2 b2 I L → ∃ (r1 : Int32 × lh_II) (r2 : Int32 × lh_II), f_LH_mark a b x1 z I = some r1 ∧ f_LM_mark x1 z r1.2 = some r2 ∧ r1.1 = r2.1 ∧ Inv t a b a2 b2 r2.2 L
def lh_P43 (Inv : Nat → Nat → Nat → Nat → Nat → lh_II → lh_LL → Prop) : Prop := ∀ (t a b a2 b2 : Nat) (I : lh_II) (L : lh_LL) (x1 : Int32), Inv (t + 1) a b a2 b2 I L → ∃ (r1 : Int32) (r2 : Int32 × lh_II), f_LH_count a b x1 I = some r1 ∧ f_LM_count x1 I = some r2 ∧ r1 = r2.1 ∧ Inv t a b a2 b2 r2.2 L
def lh_P44 (Inv : Nat → Nat → Nat → Nat → Nat → lh_II → lh_LL → Prop) : Prop := ∀ (t a b a2 b2 : Nat) (I : lh_II) (L : lh_LL), Inv (t + 1) a b a2 b2 I L → Inv t a b a2 b2 I L
def lh_Pure (Inv : Nat → Nat → Nat → Nat → Nat → lh_II → lh_LL → Prop) : Prop := lh_P0 Inv ∧ lh_P1 Inv ∧ lh_P2 Inv ∧ lh_P3 Inv ∧ lh_P4 Inv ∧ lh_P5 Inv ∧ lh_P6 Inv ∧ lh_P7 Inv ∧ lh_P8 Inv ∧ lh_P9 Inv ∧ lh_P10 Inv ∧ lh_P11 Inv ∧ lh_P12 Inv ∧ lh_P13 Inv ∧ lh_P14 Inv ∧ lh_P15 Inv ∧ lh_P16 Inv ∧ lh_P17 Inv ∧ lh_P18 Inv ∧ lh_P19 Inv ∧ lh_P20 Inv ∧ lh_P21 Inv ∧ lh_P22 Inv ∧ lh_P23 Inv ∧ lh_P24 Inv ∧ lh_P25 Inv ∧ lh_P26 Inv ∧ lh_P27 Inv ∧ lh_P28 Inv ∧ lh_P29 Inv ∧ lh_P30 Inv ∧ lh_P31 Inv ∧ lh_P32 Inv ∧ lh_P33 Inv ∧ lh_P34 Inv ∧ lh_P35 Inv ∧ lh_P36 Inv ∧ lh_P37 Inv ∧ lh_P38 Inv ∧ lh_P39 Inv ∧ lh_P40 Inv ∧ lh_P41 Inv ∧ lh_P42 Inv ∧ lh_P43 Inv ∧ lh_P44 Inv
theorem lw_s0 {Γ : lh_Cx} {Inv : Nat → Nat → Nat → Nat → Nat → lh_II → lh_LL → Prop} {Z : List Frame → Array Value → State → State → Prop} {I : lh_II} {L : lh_LL} {F : lh_FF} {S : lh_SS} {t a b a2 b2 bc bs i : Nat} (hG : lh_GX Γ) (hP : lh_P0 Inv) (hI : Inv (t + 1) a b a2 b2 I L) (hO : lh_ok F S a b a2 b2) (h82 : 82 ≤ S.length) (hL : lh_L Γ ≤ 3584) (hi : i + 6 < lh_L Γ) (kk : lh_next Γ Inv t Z bc bs i) : lh_G Γ m_LL0 room_1 Z (bc + 2) (bs + 15) 0 [(0, .ref 0), (1, .ref (0 + 4)), (2, .ref (65 + 4)), (3, .ref (81 + 4)), (4, .int (nI i))] [] (I, L, F, S) := by
  refine lh_wid (Nat.le_add_right bc 2) (Nat.le_add_right bs 15) ?_
  obtain ⟨r1, r2, e1, e2, he, hI'⟩ := hP t a b a2 b2 I L ((((lh_xs Γ (i + 1)).toInt64 <<< ((32 : Int32).toInt64 &&& 63)) ||| ((lh_xs Γ (i + 2)).toInt64 &&& 4294967295))) ((((lh_xs Γ (i + 3)).toInt64 <<< ((32 : Int32).toInt64 &&& 63)) ||| ((lh_xs Γ (i + 4)).toInt64 &&& 4294967295))) ((((lh_xs Γ (i + 5)).toInt64 <<< ((32 : Int32).toInt64 &&& 63)) ||| ((lh_xs Γ (i + 6)).toInt64 &&& 4294967295))) hI
  exact lw_c0 hG hO hL hi e1 e2 he (kk _ _ _ _ _ _ _ _ hO h82 hI')
theorem lw_s1 {Γ : lh_Cx} {Inv : Nat → Nat → Nat → Nat → Nat → lh_II → lh_LL → Prop} {Z : List Frame → Array Value → State → State → Prop} {I : lh_II} {L : lh_LL} {F : lh_FF} {S : lh_SS} {t a b a2 b2 bc bs i : Nat} (hG : lh_GX Γ) (hP : lh_P1 Inv) (hI : Inv (t + 1) a b a2 b2 I L) (hO : lh_ok F S a b a2 b2) (h82 : 82 ≤ S.length) (hL : lh_L Γ ≤ 3584) (hi : i + 6 < lh_L Γ) (kk : lh_next Γ Inv t Z bc bs i) : lh_G Γ m_LL1 room_1 Z (bc + 2) (bs + 15) 0 [(0, .ref 0), (1, .ref (0 + 4)), (2, .ref (65 + 4)), (3, .ref (81 + 4)), (4, .int (nI i))] [] (I, L, F, S) := by
  obtain ⟨r1, r2, e1, e2, he, h0, h1⟩ := hP t a b a2 b2 S.length I L h82 hI
  have hO2 := hO.hr rfl h82 a2
  have hl2 : 82 ≤ (S ++ [(7, 0)] ++ [(1, 10)]).length := by rw [List.length_append, List.length_append]; omega
  by_cases hc : r1.1 = 0
  · have hO' : lh_ok (lh_hallF F S.length a a2 r1.1) (S ++ [(7, 0)] ++ [(1, 10)]) a2 b a b2 := by unfold lh_hallF; rw [if_pos hc]; exact hO2.swH
    exact lw_c1 hG hO hL hi rfl h82 hO' e1 e2 he (kk _ _ _ _ _ _ _ _ hO' hl2 (h0 hc))
  · have hO' : lh_ok (lh_hallF F S.length a a2 r1.1) (S ++ [(7, 0)] ++ [(1, 10)]) a b a2 b2 := by unfold lh_hallF; rw [if_neg hc]; exact hO2
    exact lw_c1 hG hO hL hi rfl h82 hO' e1 e2 he (kk _ _ _ _ _ _ _ _ hO' hl2 (h1 hc))
theorem lw_s2 {Γ : lh_Cx} {Inv : Nat → Nat → Nat → Nat → Nat → lh_II → lh_LL → Prop} {Z : List Frame → Array Value → State → State → Prop} {I : lh_II} {L : lh_LL} {F : lh_FF} {S : lh_SS} {t a b a2 b2 bc bs i : Nat} (hG : lh_GX Γ) (hP : lh_P2 Inv) (hI : Inv (t + 1) a b a2 b2 I L) (hO : lh_ok F S a b a2 b2) (h82 : 82 ≤ S.length) (hL : lh_L Γ ≤ 3584) (hi : i + 6 < lh_L Γ) (kk : lh_next Γ Inv t Z bc bs i) : lh_G Γ m_LL2 room_1 Z (bc + 2) (bs + 15) 0 [(0, .ref 0), (1, .ref (0 + 4)), (2, .ref (65 + 4)), (3, .ref (81 + 4)), (4, .int (nI i))] [] (I, L, F, S) := by
  refine lh_wid (Nat.le_add_right bc 2) (Nat.le_add_right bs 15) ?_
  obtain ⟨r1, r2, e1, e2, he, h0, h1⟩ := hP t a b a2 b2 I L hI
  by_cases hc : r1.1 = 0
  · have hO' : lh_ok (lh_nightF F b b2 r1.1) S a b2 a2 b := by unfold lh_nightF; rw [if_pos hc]; exact hO.swN
    exact lw_c2 hG hO hL hi hO' e1 e2 he (kk _ _ _ _ _ _ _ _ hO' h82 (h0 hc))
  · have hO' : lh_ok (lh_nightF F b b2 r1.1) S a b a2 b2 := by unfold lh_nightF; rw [if_neg hc]; exact hO
    exact lw_c2 hG hO hL hi hO' e1 e2 he (kk _ _ _ _ _ _ _ _ hO' h82 (h1 hc))
theorem lw_s3 {Γ : lh_Cx} {Inv : Nat → Nat → Nat → Nat → Nat → lh_II → lh_LL → Prop} {Z : List Frame → Array Value → State → State → Prop} {I : lh_II} {L : lh_LL} {F : lh_FF} {S : lh_SS} {t a b a2 b2 bc bs i : Nat} (hG : lh_GX Γ) (hP : lh_P3 Inv) (hI : Inv (t + 1) a b a2 b2 I L) (hO : lh_ok F S a b a2 b2) (h82 : 82 ≤ S.length) (hL : lh_L Γ ≤ 3584) (hi : i + 6 < lh_L Γ) (kk : lh_next Γ Inv t Z bc bs i) : lh_G Γ m_LL3 room_1 Z (bc + 2) (bs + 15) 0 [(0, .ref 0), (1, .ref (0 + 4)), (2, .ref (65 + 4)), (3, .ref (81 + 4)), (4, .int (nI i))] [] (I, L, F, S) := by
  refine lh_wid (Nat.le_add_right bc 2) (Nat.le_add_right bs 15) ?_
  obtain ⟨r1, r2, e1, e2, he, hI'⟩ := hP t a b a2 b2 I L (lh_xs Γ (i + 1)) (lh_xs Γ (i + 2)) hI
  exact lw_c3 hG hO hL hi e1 e2 he (kk _ _ _ _ _ _ _ _ hO h82 hI')
theorem lw_s4 {Γ : lh_Cx} {Inv : Nat → Nat → Nat → Nat → Nat → lh_II → lh_LL → Prop} {Z : List Frame → Array Value → State → State → Prop} {I : lh_II} {L : lh_LL} {F : lh_FF} {S : lh_SS} {t a b a2 b2 bc bs i : Nat} (hG : lh_GX Γ) (hP : lh_P4 Inv) (hI : Inv (t + 1) a b a2 b2 I L) (hO : lh_ok F S a b a2 b2) (h82 : 82 ≤ S.length) (hL : lh_L Γ ≤ 3584) (hi : i + 6 < lh_L Γ) (kk : lh_next Γ Inv t Z bc bs i) : lh_G Γ m_LL4 room_1 Z (bc + 2) (bs + 15) 0 [(0, .ref 0), (1, .ref (0 + 4)), (2, .ref (65 + 4)), (3, .ref (81 + 4)), (4, .int (nI i))] [] (I, L, F, S) := by
  refine lh_wid (Nat.le_add_right bc 2) (Nat.le_add_right bs 15) ?_
  obtain ⟨r1, r2, e1, e2, he, hI'⟩ := hP t a b a2 b2 I L (lh_xs Γ (i + 1)) (lh_xs Γ (i + 2)) hI
  exact lw_c4 hG hO hL hi e1 e2 he (kk _ _ _ _ _ _ _ _ hO h82 hI')
theorem lw_s5 {Γ : lh_Cx} {Inv : Nat → Nat → Nat → Nat → Nat → lh_II → lh_LL → Prop} {Z : List Frame → Array Value → State → State → Prop} {I : lh_II} {L : lh_LL} {F : lh_FF} {S : lh_SS} {t a b a2 b2 bc bs i : Nat} (hG : lh_GX Γ) (hP : lh_P5 Inv) (hI : Inv (t + 1) a b a2 b2 I L) (hO : lh_ok F S a b a2 b2) (h82 : 82 ≤ S.length) (hL : lh_L Γ ≤ 3584) (hi : i + 6 < lh_L Γ) (kk : lh_next Γ Inv t Z bc bs i) : lh_G Γ m_LL5 room_1 Z (bc + 2) (bs + 15) 0 [(0, .ref 0), (1, .ref (0 + 4)), (2, .ref (65 + 4)), (3, .ref (81 + 4)), (4, .int (nI i))] [] (I, L, F, S) := by
  refine lh_wid (Nat.le_add_right bc 2) (Nat.le_add_right bs 15) ?_
  obtain ⟨r1, r2, e1, e2, he, hI'⟩ := hP t a b a2 b2 I L (lh_xs Γ (i + 1)) (lh_xs Γ (i + 2)) hI
  exact lw_c5 hG hO hL hi e1 e2 he (kk _ _ _ _ _ _ _ _ hO h82 hI')
theorem lw_s6 {Γ : lh_Cx} {Inv : Nat → Nat → Nat → Nat → Nat → lh_II → lh_LL → Prop} {Z : List Frame → Array Value → State → State → Prop} {I : lh_II} {L : lh_LL} {F : lh_FF} {S : lh_SS} {t a b a2 b2 bc bs i : Nat} (hG : lh_GX Γ) (hP : lh_P6 Inv) (hI : Inv (t + 1) a b a2 b2 I L) (hO : lh_ok F S a b a2 b2) (h82 : 82 ≤ S.length) (hL : lh_L Γ ≤ 3584) (hi : i + 6 < lh_L Γ) (kk : lh_next Γ Inv t Z bc bs i) : lh_G Γ m_LL6 room_1 Z (bc + 2) (bs + 15) 0 [(0, .ref 0), (1, .ref (0 + 4)), (2, .ref (65 + 4)), (3, .ref (81 + 4)), (4, .int (nI i))] [] (I, L, F, S) := by
  refine lh_wid (Nat.le_add_right bc 2) (Nat.le_add_right bs 15) ?_
  obtain ⟨r1, r2, e1, e2, he, hI'⟩ := hP t a b a2 b2 I L hI
  exact lw_c6 hG hO hL hi e1 e2 he (kk _ _ _ _ _ _ _ _ hO h82 hI')
theorem lw_s7 {Γ : lh_Cx} {Inv : Nat → Nat → Nat → Nat → Nat → lh_II → lh_LL → Prop} {Z : List Frame → Array Value → State → State → Prop} {I : lh_II} {L : lh_LL} {F : lh_FF} {S : lh_SS} {t a b a2 b2 bc bs i : Nat} (hG : lh_GX Γ) (hP : lh_P7 Inv) (hI : Inv (t + 1) a b a2 b2 I L) (hO : lh_ok F S a b a2 b2) (h82 : 82 ≤ S.length) (hL : lh_L Γ ≤ 3584) (hi : i + 6 < lh_L Γ) (kk : lh_next Γ Inv t Z bc bs i) : lh_G Γ m_LL7 room_1 Z (bc + 2) (bs + 15) 0 [(0, .ref 0), (1, .ref (0 + 4)), (2, .ref (65 + 4)), (3, .ref (81 + 4)), (4, .int (nI i))] [] (I, L, F, S) := by
  refine lh_wid (Nat.le_add_right bc 2) (Nat.le_add_right bs 15) ?_
  obtain ⟨r1, r2, e1, e2, he, hI'⟩ := hP t a b a2 b2 I L (lh_xs Γ (i + 1)) hI
  exact lw_c7 hG hO hL hi e1 e2 he (kk _ _ _ _ _ _ _ _ hO h82 hI')
theorem lw_s8 {Γ : lh_Cx} {Inv : Nat → Nat → Nat → Nat → Nat → lh_II → lh_LL → Prop} {Z : List Frame → Array Value → State → State → Prop} {I : lh_II} {L : lh_LL} {F : lh_FF} {S : lh_SS} {t a b a2 b2 bc bs i : Nat} (hG : lh_GX Γ) (hP : lh_P8 Inv) (hI : Inv (t + 1) a b a2 b2 I L) (hO : lh_ok F S a b a2 b2) (h82 : 82 ≤ S.length) (hL : lh_L Γ ≤ 3584) (hi : i + 6 < lh_L Γ) (kk : lh_next Γ Inv t Z bc bs i) : lh_G Γ m_LL8 room_1 Z (bc + 2) (bs + 15) 0 [(0, .ref 0), (1, .ref (0 + 4)), (2, .ref (65 + 4)), (3, .ref (81 + 4)), (4, .int (nI i))] [] (I, L, F, S) := by
  refine lh_wid (Nat.le_add_right bc 2) (Nat.le_add_right bs 15) ?_
  obtain ⟨r1, r2, e1, e2, he, hI'⟩ := hP t a b a2 b2 I L hI
  exact lw_c8 hG hO hL hi e1 e2 he (kk _ _ _ _ _ _ _ _ hO h82 hI')
theorem lw_s9 {Γ : lh_Cx} {Inv : Nat → Nat → Nat → Nat → Nat → lh_II → lh_LL → Prop} {Z : List Frame → Array Value → State → State → Prop} {I : lh_II} {L : lh_LL} {F : lh_FF} {S : lh_SS} {t a b a2 b2 bc bs i : Nat} (hG : lh_GX Γ) (hP : lh_P9 Inv) (hI : Inv (t + 1) a b a2 b2 I L) (hO : lh_ok F S a b a2 b2) (h82 : 82 ≤ S.length) (hL : lh_L Γ ≤ 3584) (hi : i + 6 < lh_L Γ) (kk : lh_next Γ Inv t Z bc bs i) : lh_G Γ m_LL9 room_1 Z (bc + 2) (bs + 15) 0 [(0, .ref 0), (1, .ref (0 + 4)), (2, .ref (65 + 4)), (3, .ref (81 + 4)), (4, .int (nI i))] [] (I, L, F, S) := by
  refine lh_wid (Nat.le_add_right bc 2) (Nat.le_add_right bs 15) ?_
  obtain ⟨r1, r2, e1, e2, he, hI'⟩ := hP t a b a2 b2 I L hI
  exact lw_c9 hG hO hL hi e1 e2 he (kk _ _ _ _ _ _ _ _ hO h82 hI')
theorem lw_s10 {Γ : lh_Cx} {Inv : Nat → Nat → Nat → Nat → Nat → lh_II → lh_LL → Prop} {Z : List Frame → Array Value → State → State → Prop} {I : lh_II} {L : lh_LL} {F : lh_FF} {S : lh_SS} {t a b a2 b2 bc bs i : Nat} (hG : lh_GX Γ) (hP : lh_P10 Inv) (hI : Inv (t + 1) a b a2 b2 I L) (hO : lh_ok F S a b a2 b2) (h82 : 82 ≤ S.length) (hL : lh_L Γ ≤ 3584) (hi : i + 6 < lh_L Γ) (kk : lh_next Γ Inv t Z bc bs i) : lh_G Γ m_LL10 room_1 Z (bc + 2) (bs + 15) 0 [(0, .ref 0), (1, .ref (0 + 4)), (2, .ref (65 + 4)), (3, .ref (81 + 4)), (4, .int (nI i))] [] (I, L, F, S) := by
  refine lh_wid (Nat.le_add_right bc 2) (Nat.le_add_right bs 15) ?_
  obtain ⟨r1, r2, e1, e2, he, hI'⟩ := hP t a b a2 b2 I L (lh_xs Γ (i + 1)) hI
  exact lw_c10 hG hO hL hi e1 e2 he (kk _ _ _ _ _ _ _ _ hO h82 hI')
theorem lw_s11 {Γ : lh_Cx} {Inv : Nat → Nat → Nat → Nat → Nat → lh_II → lh_LL → Prop} {Z : List Frame → Array Value → State → State → Prop} {I : lh_II} {L : lh_LL} {F : lh_FF} {S : lh_SS} {t a b a2 b2 bc bs i : Nat} (hG : lh_GX Γ) (hP : lh_P11 Inv) (hI : Inv (t + 1) a b a2 b2 I L) (hO : lh_ok F S a b a2 b2) (h82 : 82 ≤ S.length) (hL : lh_L Γ ≤ 3584) (hi : i + 6 < lh_L Γ) (kk : lh_next Γ Inv t Z bc bs i) : lh_G Γ m_LL11 room_1 Z (bc + 2) (bs + 15) 0 [(0, .ref 0), (1, .ref (0 + 4)), (2, .ref (65 + 4)), (3, .ref (81 + 4)), (4, .int (nI i))] [] (I, L, F, S) := by
  refine lh_wid (Nat.le_add_right bc 2) (Nat.le_add_right bs 15) ?_
  obtain ⟨r1, r2, e1, e2, he, hI'⟩ := hP t a b a2 b2 I L (lh_xs Γ (i + 1)) hI
  exact lw_c11 hG hO hL hi e1 e2 he (kk _ _ _ _ _ _ _ _ hO h82 hI')
theorem lw_s12 {Γ : lh_Cx} {Inv : Nat → Nat → Nat → Nat → Nat → lh_II → lh_LL → Prop} {Z : List Frame → Array Value → State → State → Prop} {I : lh_II} {L : lh_LL} {F : lh_FF} {S : lh_SS} {t a b a2 b2 bc bs i : Nat} (hG : lh_GX Γ) (hP : lh_P12 Inv) (hI : Inv (t + 1) a b a2 b2 I L) (hO : lh_ok F S a b a2 b2) (h82 : 82 ≤ S.length) (hL : lh_L Γ ≤ 3584) (hi : i + 6 < lh_L Γ) (kk : lh_next Γ Inv t Z bc bs i) : lh_G Γ m_LL12 room_1 Z (bc + 2) (bs + 15) 0 [(0, .ref 0), (1, .ref (0 + 4)), (2, .ref (65 + 4)), (3, .ref (81 + 4)), (4, .int (nI i))] [] (I, L, F, S) := by
  refine lh_wid (Nat.le_add_right bc 2) (Nat.le_add_right bs 15) ?_
  obtain ⟨r1, r2, e1, e2, he, hI'⟩ := hP t a b a2 b2 I L (lh_xs Γ (i + 1)) hI
  exact lw_c12 hG hO hL hi e1 e2 he (kk _ _ _ _ _ _ _ _ hO h82 hI')
theorem lw_s13 {Γ : lh_Cx} {Inv : Nat → Nat → Nat → Nat → Nat → lh_II → lh_LL → Prop} {Z : List Frame → Array Value → State → State → Prop} {I : lh_II} {L : lh_LL} {F : lh_FF} {S : lh_SS} {t a b a2 b2 bc bs i : Nat} (hG : lh_GX Γ) (hP : lh_P13 Inv) (hI : Inv (t + 1) a b a2 b2 I L) (hO : lh_ok F S a b a2 b2) (h82 : 82 ≤ S.length) (hL : lh_L Γ ≤ 3584) (hi : i + 6 < lh_L Γ) (kk : lh_next Γ Inv t Z bc bs i) : lh_G Γ m_LL13 room_1 Z (bc + 2) (bs + 15) 0 [(0, .ref 0), (1, .ref (0 + 4)), (2, .ref (65 + 4)), (3, .ref (81 + 4)), (4, .int (nI i))] [] (I, L, F, S) := by
  refine lh_wid (Nat.le_add_right bc 2) (Nat.le_add_right bs 15) ?_
  obtain ⟨r1, r2, e1, e2, he, hI'⟩ := hP t a b a2 b2 I L hI
  exact lw_c13 hG hO hL hi e1 e2 he (kk _ _ _ _ _ _ _ _ hO h82 hI')
theorem lw_s14 {Γ : lh_Cx} {Inv : Nat → Nat → Nat → Nat → Nat → lh_II → lh_LL → Prop} {Z : List Frame → Array Value → State → State → Prop} {I : lh_II} {L : lh_LL} {F : lh_FF} {S : lh_SS} {t a b a2 b2 bc bs i : Nat} (hG : lh_GX Γ) (hP : lh_P14 Inv) (hI : Inv (t + 1) a b a2 b2 I L) (hO : lh_ok F S a b a2 b2) (h82 : 82 ≤ S.length) (hL : lh_L Γ ≤ 3584) (hi : i + 6 < lh_L Γ) (kk : lh_next Γ Inv t Z bc bs i) : lh_G Γ m_LL14 room_1 Z (bc + 2) (bs + 15) 0 [(0, .ref 0), (1, .ref (0 + 4)), (2, .ref (65 + 4)), (3, .ref (81 + 4)), (4, .int (nI i))] [] (I, L, F, S) := by
  refine lh_wid (Nat.le_add_right bc 2) (Nat.le_add_right bs 15) ?_
  obtain ⟨r1, r2, e1, e2, he, hI'⟩ := hP t a b a2 b2 I L (lh_xs Γ (i + 1)) hI
  exact lw_c14 hG hO hL hi e1 e2 he (kk _ _ _ _ _ _ _ _ hO h82 hI')
theorem lw_s15 {Γ : lh_Cx} {Inv : Nat → Nat → Nat → Nat → Nat → lh_II → lh_LL → Prop} {Z : List Frame → Array Value → State → State → Prop} {I : lh_II} {L : lh_LL} {F : lh_FF} {S : lh_SS} {t a b a2 b2 bc bs i : Nat} (hG : lh_GX Γ) (hP : lh_P15 Inv) (hI : Inv (t + 1) a b a2 b2 I L) (hO : lh_ok F S a b a2 b2) (h82 : 82 ≤ S.length) (hL : lh_L Γ ≤ 3584) (hi : i + 6 < lh_L Γ) (kk : lh_next Γ Inv t Z bc bs i) : lh_G Γ m_LL15 room_1 Z (bc + 2) (bs + 15) 0 [(0, .ref 0), (1, .ref (0 + 4)), (2, .ref (65 + 4)), (3, .ref (81 + 4)), (4, .int (nI i))] [] (I, L, F, S) := by
  refine lh_wid (Nat.le_add_right bc 2) (Nat.le_add_right bs 15) ?_
  obtain ⟨r1, r2, e1, e2, he, hI'⟩ := hP t a b a2 b2 I L (lh_xs Γ (i + 1)) hI
  exact lw_c15 hG hO hL hi e1 e2 he (kk _ _ _ _ _ _ _ _ hO h82 hI')
theorem lw_s16 {Γ : lh_Cx} {Inv : Nat → Nat → Nat → Nat → Nat → lh_II → lh_LL → Prop} {Z : List Frame → Array Value → State → State → Prop} {I : lh_II} {L : lh_LL} {F : lh_FF} {S : lh_SS} {t a b a2 b2 bc bs i : Nat} (hG : lh_GX Γ) (hP : lh_P16 Inv) (hI : Inv (t + 1) a b a2 b2 I L) (hO : lh_ok F S a b a2 b2) (h82 : 82 ≤ S.length) (hL : lh_L Γ ≤ 3584) (hi : i + 6 < lh_L Γ) (kk : lh_next Γ Inv t Z bc bs i) : lh_G Γ m_LL16 room_1 Z (bc + 2) (bs + 15) 0 [(0, .ref 0), (1, .ref (0 + 4)), (2, .ref (65 + 4)), (3, .ref (81 + 4)), (4, .int (nI i))] [] (I, L, F, S) := by
  refine lh_wid (Nat.le_add_right bc 2) (Nat.le_add_right bs 15) ?_
  obtain ⟨r1, r2, e1, e2, he, hI'⟩ := hP t a b a2 b2 I L hI
  exact lw_c16 hG hO hL hi e1 e2 he (kk _ _ _ _ _ _ _ _ hO h82 hI')
theorem lw_s17 {Γ : lh_Cx} {Inv : Nat → Nat → Nat → Nat → Nat → lh_II → lh_LL → Prop} {Z : List Frame → Array Value → State → State → Prop} {I : lh_II} {L : lh_LL} {F : lh_FF} {S : lh_SS} {t a b a2 b2 bc bs i : Nat} (hG : lh_GX Γ) (hP : lh_P17 Inv) (hI : Inv (t + 1) a b a2 b2 I L) (hO : lh_ok F S a b a2 b2) (h82 : 82 ≤ S.length) (hL : lh_L Γ ≤ 3584) (hi : i + 6 < lh_L Γ) (kk : lh_next Γ Inv t Z bc bs i) : lh_G Γ m_LL17 room_1 Z (bc + 2) (bs + 15) 0 [(0, .ref 0), (1, .ref (0 + 4)), (2, .ref (65 + 4)), (3, .ref (81 + 4)), (4, .int (nI i))] [] (I, L, F, S) := by
  refine lh_wid (Nat.le_add_right bc 2) (Nat.le_add_right bs 15) ?_
  obtain ⟨r1, r2, e1, e2, he, hI'⟩ := hP t a b a2 b2 I L (lh_xs Γ (i + 1)) (lh_xs Γ (i + 2)) ((if lh_xs Γ (i + 3) = 0 then 0 else 1)) lh_if01 hI
  exact lw_c17 hG hO hL hi e1 e2 he (kk _ _ _ _ _ _ _ _ hO h82 hI')
theorem lw_s18 {Γ : lh_Cx} {Inv : Nat → Nat → Nat → Nat → Nat → lh_II → lh_LL → Prop} {Z : List Frame → Array Value → State → State → Prop} {I : lh_II} {L : lh_LL} {F : lh_FF} {S : lh_SS} {t a b a2 b2 bc bs i : Nat} (hG : lh_GX Γ) (hP : lh_P18 Inv) (hI : Inv (t + 1) a b a2 b2 I L) (hO : lh_ok F S a b a2 b2) (h82 : 82 ≤ S.length) (hL : lh_L Γ ≤ 3584) (hi : i + 6 < lh_L Γ) (kk : lh_next Γ Inv t Z bc bs i) : lh_G Γ m_LL18 room_1 Z (bc + 2) (bs + 15) 0 [(0, .ref 0), (1, .ref (0 + 4)), (2, .ref (65 + 4)), (3, .ref (81 + 4)), (4, .int (nI i))] [] (I, L, F, S) := by
  refine lh_wid (Nat.le_add_right bc 2) (Nat.le_add_right bs 15) ?_
  obtain ⟨r1, r2, e1, e2, he, hI'⟩ := hP t a b a2 b2 I L hI
  exact lw_c18 hG hO hL hi e1 e2 he (kk _ _ _ _ _ _ _ _ hO h82 hI')
theorem lw_s19 {Γ : lh_Cx} {Inv : Nat → Nat → Nat → Nat → Nat → lh_II → lh_LL → Prop} {Z : List Frame → Array Value → State → State → Prop} {I : lh_II} {L : lh_LL} {F : lh_FF} {S : lh_SS} {t a b a2 b2 bc bs i : Nat} (hG : lh_GX Γ) (hP : lh_P19 Inv) (hI : Inv (t + 1) a b a2 b2 I L) (hO : lh_ok F S a b a2 b2) (h82 : 82 ≤ S.length) (hL : lh_L Γ ≤ 3584) (hi : i + 6 < lh_L Γ) (kk : lh_next Γ Inv t Z bc bs i) : lh_G Γ m_LL19 room_1 Z (bc + 2) (bs + 15) 0 [(0, .ref 0), (1, .ref (0 + 4)), (2, .ref (65 + 4)), (3, .ref (81 + 4)), (4, .int (nI i))] [] (I, L, F, S) := by
  refine lh_wid (Nat.le_add_right bc 2) (Nat.le_add_right bs 15) ?_
  obtain ⟨r1, r2, e1, e2, he, hI'⟩ := hP t a b a2 b2 I L hI
  exact lw_c19 hG hO hL hi e1 e2 he (kk _ _ _ _ _ _ _ _ hO h82 hI')
theorem lw_s20 {Γ : lh_Cx} {Inv : Nat → Nat → Nat → Nat → Nat → lh_II → lh_LL → Prop} {Z : List Frame → Array Value → State → State → Prop} {I : lh_II} {L : lh_LL} {F : lh_FF} {S : lh_SS} {t a b a2 b2 bc bs i : Nat} (hG : lh_GX Γ) (hP : lh_P20 Inv) (hI : Inv (t + 1) a b a2 b2 I L) (hO : lh_ok F S a b a2 b2) (h82 : 82 ≤ S.length) (hL : lh_L Γ ≤ 3584) (hi : i + 6 < lh_L Γ) (kk : lh_next Γ Inv t Z bc bs i) : lh_G Γ m_LL20 room_1 Z (bc + 2) (bs + 15) 0 [(0, .ref 0), (1, .ref (0 + 4)), (2, .ref (65 + 4)), (3, .ref (81 + 4)), (4, .int (nI i))] [] (I, L, F, S) := by
  refine lh_wid (Nat.le_add_right bc 2) (Nat.le_add_right bs 15) ?_
  obtain ⟨r1, r2, e1, e2, he, hI'⟩ := hP t a b a2 b2 I L hI
  exact lw_c20 hG hO hL hi e1 e2 he (kk _ _ _ _ _ _ _ _ hO h82 hI')
theorem lw_s21 {Γ : lh_Cx} {Inv : Nat → Nat → Nat → Nat → Nat → lh_II → lh_LL → Prop} {Z : List Frame → Array Value → State → State → Prop} {I : lh_II} {L : lh_LL} {F : lh_FF} {S : lh_SS} {t a b a2 b2 bc bs i : Nat} (hG : lh_GX Γ) (hP : lh_P21 Inv) (hI : Inv (t + 1) a b a2 b2 I L) (hO : lh_ok F S a b a2 b2) (h82 : 82 ≤ S.length) (hL : lh_L Γ ≤ 3584) (hi : i + 6 < lh_L Γ) (kk : lh_next Γ Inv t Z bc bs i) : lh_G Γ m_LL21 room_1 Z (bc + 2) (bs + 15) 0 [(0, .ref 0), (1, .ref (0 + 4)), (2, .ref (65 + 4)), (3, .ref (81 + 4)), (4, .int (nI i))] [] (I, L, F, S) := by
  refine lh_wid (Nat.le_add_right bc 2) (Nat.le_add_right bs 15) ?_
  obtain ⟨r1, r2, e1, e2, he, hI'⟩ := hP t a b a2 b2 I L hI
  exact lw_c21 hG hO hL hi e1 e2 he (kk _ _ _ _ _ _ _ _ hO h82 hI')
theorem lw_s22 {Γ : lh_Cx} {Inv : Nat → Nat → Nat → Nat → Nat → lh_II → lh_LL → Prop} {Z : List Frame → Array Value → State → State → Prop} {I : lh_II} {L : lh_LL} {F : lh_FF} {S : lh_SS} {t a b a2 b2 bc bs i : Nat} (hG : lh_GX Γ) (hP : lh_P22 Inv) (hI : Inv (t + 1) a b a2 b2 I L) (hO : lh_ok F S a b a2 b2) (h82 : 82 ≤ S.length) (hL : lh_L Γ ≤ 3584) (hi : i + 6 < lh_L Γ) (kk : lh_next Γ Inv t Z bc bs i) : lh_G Γ m_LL22 room_1 Z (bc + 2) (bs + 15) 0 [(0, .ref 0), (1, .ref (0 + 4)), (2, .ref (65 + 4)), (3, .ref (81 + 4)), (4, .int (nI i))] [] (I, L, F, S) := by
  refine lh_wid (Nat.le_add_right bc 2) (Nat.le_add_right bs 15) ?_
  obtain ⟨r1, r2, e1, e2, he, hI'⟩ := hP t a b a2 b2 I L (lh_xs Γ (i + 1)) (lh_xs Γ (i + 2)) (lh_xs Γ (i + 3)) hI
  exact lw_c22 hG hO hL hi e1 e2 he (kk _ _ _ _ _ _ _ _ hO h82 hI')
theorem lw_s23 {Γ : lh_Cx} {Inv : Nat → Nat → Nat → Nat → Nat → lh_II → lh_LL → Prop} {Z : List Frame → Array Value → State → State → Prop} {I : lh_II} {L : lh_LL} {F : lh_FF} {S : lh_SS} {t a b a2 b2 bc bs i : Nat} (hG : lh_GX Γ) (hP : lh_P23 Inv) (hI : Inv (t + 1) a b a2 b2 I L) (hO : lh_ok F S a b a2 b2) (h82 : 82 ≤ S.length) (hL : lh_L Γ ≤ 3584) (hi : i + 6 < lh_L Γ) (kk : lh_next Γ Inv t Z bc bs i) : lh_G Γ m_LL23 room_1 Z (bc + 2) (bs + 15) 0 [(0, .ref 0), (1, .ref (0 + 4)), (2, .ref (65 + 4)), (3, .ref (81 + 4)), (4, .int (nI i))] [] (I, L, F, S) := by
  refine lh_wid (Nat.le_add_right bc 2) (Nat.le_add_right bs 15) ?_
  obtain ⟨r1, r2, e1, e2, he, hI'⟩ := hP t a b a2 b2 I L (lh_xs Γ (i + 1)) (lh_xs Γ (i + 2)) (lh_xs Γ (i + 3)) hI
  exact lw_c23 hG hO hL hi e1 e2 he (kk _ _ _ _ _ _ _ _ hO h82 hI')
theorem lw_s24 {Γ : lh_Cx} {Inv : Nat → Nat → Nat → Nat → Nat → lh_II → lh_LL → Prop} {Z : List Frame → Array Value → State → State → Prop} {I : lh_II} {L : lh_LL} {F : lh_FF} {S : lh_SS} {t a b a2 b2 bc bs i : Nat} (hG : lh_GX Γ) (hP : lh_P24 Inv) (hI : Inv (t + 1) a b a2 b2 I L) (hO : lh_ok F S a b a2 b2) (h82 : 82 ≤ S.length) (hL : lh_L Γ ≤ 3584) (hi : i + 6 < lh_L Γ) (kk : lh_next Γ Inv t Z bc bs i) : lh_G Γ m_LL24 room_1 Z (bc + 2) (bs + 15) 0 [(0, .ref 0), (1, .ref (0 + 4)), (2, .ref (65 + 4)), (3, .ref (81 + 4)), (4, .int (nI i))] [] (I, L, F, S) := by
  refine lh_wid (Nat.le_add_right bc 2) (Nat.le_add_right bs 15) ?_
  obtain ⟨r1, r2, e1, e2, he, hI'⟩ := hP t a b a2 b2 I L (lh_xs Γ (i + 1)) (lh_xs Γ (i + 2)) hI
  exact lw_c24 hG hO hL hi e1 e2 he (kk _ _ _ _ _ _ _ _ hO h82 hI')
theorem lw_s25 {Γ : lh_Cx} {Inv : Nat → Nat → Nat → Nat → Nat → lh_II → lh_LL → Prop} {Z : List Frame → Array Value → State → State → Prop} {I : lh_II} {L : lh_LL} {F : lh_FF} {S : lh_SS} {t a b a2 b2 bc bs i : Nat} (hG : lh_GX Γ) (hP : lh_P25 Inv) (hI : Inv (t + 1) a b a2 b2 I L) (hO : lh_ok F S a b a2 b2) (h82 : 82 ≤ S.length) (hL : lh_L Γ ≤ 3584) (hi : i + 6 < lh_L Γ) (kk : lh_next Γ Inv t Z bc bs i) : lh_G Γ m_LL25 room_1 Z (bc + 2) (bs + 15) 0 [(0, .ref 0), (1, .ref (0 + 4)), (2, .ref (65 + 4)), (3, .ref (81 + 4)), (4, .int (nI i))] [] (I, L, F, S) := by
  refine lh_wid (Nat.le_add_right bc 2) (Nat.le_add_right bs 15) ?_
  obtain ⟨r1, r2, e1, e2, he, hI'⟩ := hP t a b a2 b2 I L hI
  exact lw_c25 hG hO hL hi e1 e2 he (kk _ _ _ _ _ _ _ _ hO h82 hI')
theorem lw_s26 {Γ : lh_Cx} {Inv : Nat → Nat → Nat → Nat → Nat → lh_II → lh_LL → Prop} {Z : List Frame → Array Value → State → State → Prop} {I : lh_II} {L : lh_LL} {F : lh_FF} {S : lh_SS} {t a b a2 b2 bc bs i : Nat} (hG : lh_GX Γ) (hP : lh_P26 Inv) (hI : Inv (t + 1) a b a2 b2 I L) (hO : lh_ok F S a b a2 b2) (h82 : 82 ≤ S.length) (hL : lh_L Γ ≤ 3584) (hi : i + 6 < lh_L Γ) (kk : lh_next Γ Inv t Z bc bs i) : lh_G Γ m_LL26 room_1 Z (bc + 2) (bs + 15) 0 [(0, .ref 0), (1, .ref (0 + 4)), (2, .ref (65 + 4)), (3, .ref (81 + 4)), (4, .int (nI i))] [] (I, L, F, S) := by
  refine lh_wid (Nat.le_add_right bc 2) (Nat.le_add_right bs 15) ?_
  obtain ⟨r1, r2, e1, e2, he, hI'⟩ := hP t a b a2 b2 I L (lh_xs Γ (i + 1)) hI
  exact lw_c26 hG hO hL hi e1 e2 he (kk _ _ _ _ _ _ _ _ hO h82 hI')
theorem lw_s27 {Γ : lh_Cx} {Inv : Nat → Nat → Nat → Nat → Nat → lh_II → lh_LL → Prop} {Z : List Frame → Array Value → State → State → Prop} {I : lh_II} {L : lh_LL} {F : lh_FF} {S : lh_SS} {t a b a2 b2 bc bs i : Nat} (hG : lh_GX Γ) (hP : lh_P27 Inv) (hI : Inv (t + 1) a b a2 b2 I L) (hO : lh_ok F S a b a2 b2) (h82 : 82 ≤ S.length) (hL : lh_L Γ ≤ 3584) (hi : i + 6 < lh_L Γ) (kk : lh_next Γ Inv t Z bc bs i) : lh_G Γ m_LL27 room_1 Z (bc + 2) (bs + 15) 0 [(0, .ref 0), (1, .ref (0 + 4)), (2, .ref (65 + 4)), (3, .ref (81 + 4)), (4, .int (nI i))] [] (I, L, F, S) := by
  refine lh_wid (Nat.le_add_right bc 2) (Nat.le_add_right bs 15) ?_
  obtain ⟨r1, r2, e1, e2, he, hI'⟩ := hP t a b a2 b2 I L (lh_xs Γ (i + 1)) hI
  exact lw_c27 hG hO hL hi e1 e2 he (kk _ _ _ _ _ _ _ _ hO h82 hI')
theorem lw_s28 {Γ : lh_Cx} {Inv : Nat → Nat → Nat → Nat → Nat → lh_II → lh_LL → Prop} {Z : List Frame → Array Value → State → State → Prop} {I : lh_II} {L : lh_LL} {F : lh_FF} {S : lh_SS} {t a b a2 b2 bc bs i : Nat} (hG : lh_GX Γ) (hP : lh_P28 Inv) (hI : Inv (t + 1) a b a2 b2 I L) (hO : lh_ok F S a b a2 b2) (h82 : 82 ≤ S.length) (hL : lh_L Γ ≤ 3584) (hi : i + 6 < lh_L Γ) (kk : lh_next Γ Inv t Z bc bs i) : lh_G Γ m_LL28 room_1 Z (bc + 2) (bs + 15) 0 [(0, .ref 0), (1, .ref (0 + 4)), (2, .ref (65 + 4)), (3, .ref (81 + 4)), (4, .int (nI i))] [] (I, L, F, S) := by
  refine lh_wid (Nat.le_add_right bc 2) (Nat.le_add_right bs 15) ?_
  obtain ⟨r1, r2, e1, e2, he, hI'⟩ := hP t a b a2 b2 I L (lh_xs Γ (i + 1)) (lh_xs Γ (i + 2)) hI
  exact lw_c28 hG hO hL hi e1 e2 he (kk _ _ _ _ _ _ _ _ hO h82 hI')
theorem lw_s29 {Γ : lh_Cx} {Inv : Nat → Nat → Nat → Nat → Nat → lh_II → lh_LL → Prop} {Z : List Frame → Array Value → State → State → Prop} {I : lh_II} {L : lh_LL} {F : lh_FF} {S : lh_SS} {t a b a2 b2 bc bs i : Nat} (hG : lh_GX Γ) (hP : lh_P29 Inv) (hI : Inv (t + 1) a b a2 b2 I L) (hO : lh_ok F S a b a2 b2) (h82 : 82 ≤ S.length) (hL : lh_L Γ ≤ 3584) (hi : i + 6 < lh_L Γ) (kk : lh_next Γ Inv t Z bc bs i) : lh_G Γ m_LL29 room_1 Z (bc + 2) (bs + 15) 0 [(0, .ref 0), (1, .ref (0 + 4)), (2, .ref (65 + 4)), (3, .ref (81 + 4)), (4, .int (nI i))] [] (I, L, F, S) := by
  refine lh_wid (Nat.le_add_right bc 2) (Nat.le_add_right bs 15) ?_
  obtain ⟨r1, r2, e1, e2, he, hI'⟩ := hP t a b a2 b2 I L (lh_xs Γ (i + 1)) (lh_xs Γ (i + 2)) hI
  exact lw_c29 hG hO hL hi e1 e2 he (kk _ _ _ _ _ _ _ _ hO h82 hI')
theorem lw_s30 {Γ : lh_Cx} {Inv : Nat → Nat → Nat → Nat → Nat → lh_II → lh_LL → Prop} {Z : List Frame → Array Value → State → State → Prop} {I : lh_II} {L : lh_LL} {F : lh_FF} {S : lh_SS} {t a b a2 b2 bc bs i : Nat} (hG : lh_GX Γ) (hP : lh_P30 Inv) (hI : Inv (t + 1) a b a2 b2 I L) (hO : lh_ok F S a b a2 b2) (h82 : 82 ≤ S.length) (hL : lh_L Γ ≤ 3584) (hi : i + 6 < lh_L Γ) (kk : lh_next Γ Inv t Z bc bs i) : lh_G Γ m_LL30 room_1 Z (bc + 2) (bs + 15) 0 [(0, .ref 0), (1, .ref (0 + 4)), (2, .ref (65 + 4)), (3, .ref (81 + 4)), (4, .int (nI i))] [] (I, L, F, S) := by
  refine lh_wid (Nat.le_add_right bc 2) (Nat.le_add_right bs 15) ?_
  obtain ⟨r1, r2, e1, e2, he, hI'⟩ := hP t a b a2 b2 I L hI
  exact lw_c30 hG hO hL hi e1 e2 he (kk _ _ _ _ _ _ _ _ hO h82 hI')
theorem lw_s31 {Γ : lh_Cx} {Inv : Nat → Nat → Nat → Nat → Nat → lh_II → lh_LL → Prop} {Z : List Frame → Array Value → State → State → Prop} {I : lh_II} {L : lh_LL} {F : lh_FF} {S : lh_SS} {t a b a2 b2 bc bs i : Nat} (hG : lh_GX Γ) (hP : lh_P31 Inv) (hI : Inv (t + 1) a b a2 b2 I L) (hO : lh_ok F S a b a2 b2) (h82 : 82 ≤ S.length) (hL : lh_L Γ ≤ 3584) (hi : i + 6 < lh_L Γ) (kk : lh_next Γ Inv t Z bc bs i) : lh_G Γ m_LL31 room_1 Z (bc + 2) (bs + 15) 0 [(0, .ref 0), (1, .ref (0 + 4)), (2, .ref (65 + 4)), (3, .ref (81 + 4)), (4, .int (nI i))] [] (I, L, F, S) := by
  refine lh_wid (Nat.le_add_right bc 2) (Nat.le_add_right bs 15) ?_
  obtain ⟨r1, r2, e1, e2, he, hI'⟩ := hP t a b a2 b2 I L (lh_xs Γ (i + 1)) hI
  exact lw_c31 hG hO hL hi e1 e2 he (kk _ _ _ _ _ _ _ _ hO h82 hI')
theorem lw_s32 {Γ : lh_Cx} {Inv : Nat → Nat → Nat → Nat → Nat → lh_II → lh_LL → Prop} {Z : List Frame → Array Value → State → State → Prop} {I : lh_II} {L : lh_LL} {F : lh_FF} {S : lh_SS} {t a b a2 b2 bc bs i : Nat} (hG : lh_GX Γ) (hP : lh_P32 Inv) (hI : Inv (t + 1) a b a2 b2 I L) (hO : lh_ok F S a b a2 b2) (h82 : 82 ≤ S.length) (hL : lh_L Γ ≤ 3584) (hi : i + 6 < lh_L Γ) (kk : lh_next Γ Inv t Z bc bs i) : lh_G Γ m_LL32 room_1 Z (bc + 2) (bs + 15) 0 [(0, .ref 0), (1, .ref (0 + 4)), (2, .ref (65 + 4)), (3, .ref (81 + 4)), (4, .int (nI i))] [] (I, L, F, S) := by
  refine lh_wid (Nat.le_add_right bc 2) (Nat.le_add_right bs 15) ?_
  obtain ⟨r1, r2, e1, e2, he, hI'⟩ := hP t a b a2 b2 I L hI
  exact lw_c32 hG hO hL hi e1 e2 he (kk _ _ _ _ _ _ _ _ hO h82 hI')
theorem lw_s33 {Γ : lh_Cx} {Inv : Nat → Nat → Nat → Nat → Nat → lh_II → lh_LL → Prop} {Z : List Frame → Array Value → State → State → Prop} {I : lh_II} {L : lh_LL} {F : lh_FF} {S : lh_SS} {t a b a2 b2 bc bs i : Nat} (hG : lh_GX Γ) (hP : lh_P33 Inv) (hI : Inv (t + 1) a b a2 b2 I L) (hO : lh_ok F S a b a2 b2) (h82 : 82 ≤ S.length) (hL : lh_L Γ ≤ 3584) (hi : i + 6 < lh_L Γ) (kk : lh_next Γ Inv t Z bc bs i) : lh_G Γ m_LL33 room_1 Z (bc + 2) (bs + 15) 0 [(0, .ref 0), (1, .ref (0 + 4)), (2, .ref (65 + 4)), (3, .ref (81 + 4)), (4, .int (nI i))] [] (I, L, F, S) := by
  refine lh_wid (Nat.le_add_right bc 2) (Nat.le_add_right bs 15) ?_
  obtain ⟨r1, r2, e1, e2, he, hI'⟩ := hP t a b a2 b2 I L (lh_xs Γ (i + 1)) hI
  exact lw_c33 hG hO hL hi e1 e2 he (kk _ _ _ _ _ _ _ _ hO h82 hI')
theorem lw_s34 {Γ : lh_Cx} {Inv : Nat → Nat → Nat → Nat → Nat → lh_II → lh_LL → Prop} {Z : List Frame → Array Value → State → State → Prop} {I : lh_II} {L : lh_LL} {F : lh_FF} {S : lh_SS} {t a b a2 b2 bc bs i : Nat} (hG : lh_GX Γ) (hP : lh_P34 Inv) (hI : Inv (t + 1) a b a2 b2 I L) (hO : lh_ok F S a b a2 b2) (h82 : 82 ≤ S.length) (hL : lh_L Γ ≤ 3584) (hi : i + 6 < lh_L Γ) (kk : lh_next Γ Inv t Z bc bs i) : lh_G Γ m_LL34 room_1 Z (bc + 2) (bs + 15) 0 [(0, .ref 0), (1, .ref (0 + 4)), (2, .ref (65 + 4)), (3, .ref (81 + 4)), (4, .int (nI i))] [] (I, L, F, S) := by
  refine lh_wid (Nat.le_add_right bc 2) (Nat.le_add_right bs 15) ?_
  obtain ⟨r1, r2, e1, e2, he, hI'⟩ := hP t a b a2 b2 I L (lh_xs Γ (i + 1)) hI
  exact lw_c34 hG hO hL hi e1 e2 he (kk _ _ _ _ _ _ _ _ hO h82 hI')
theorem lw_s35 {Γ : lh_Cx} {Inv : Nat → Nat → Nat → Nat → Nat → lh_II → lh_LL → Prop} {Z : List Frame → Array Value → State → State → Prop} {I : lh_II} {L : lh_LL} {F : lh_FF} {S : lh_SS} {t a b a2 b2 bc bs i : Nat} (hG : lh_GX Γ) (hP : lh_P35 Inv) (hI : Inv (t + 1) a b a2 b2 I L) (hO : lh_ok F S a b a2 b2) (h82 : 82 ≤ S.length) (hL : lh_L Γ ≤ 3584) (hi : i + 6 < lh_L Γ) (kk : lh_next Γ Inv t Z bc bs i) : lh_G Γ m_LL35 room_1 Z (bc + 2) (bs + 15) 0 [(0, .ref 0), (1, .ref (0 + 4)), (2, .ref (65 + 4)), (3, .ref (81 + 4)), (4, .int (nI i))] [] (I, L, F, S) := by
  refine lh_wid (Nat.le_add_right bc 2) (Nat.le_add_right bs 15) ?_
  obtain ⟨r1, r2, e1, e2, he, hI'⟩ := hP t a b a2 b2 I L (lh_xs Γ (i + 1)) (lh_xs Γ (i + 2)) hI
  exact lw_c35 hG hO hL hi e1 e2 he (kk _ _ _ _ _ _ _ _ hO h82 hI')
theorem lw_s36 {Γ : lh_Cx} {Inv : Nat → Nat → Nat → Nat → Nat → lh_II → lh_LL → Prop} {Z : List Frame → Array Value → State → State → Prop} {I : lh_II} {L : lh_LL} {F : lh_FF} {S : lh_SS} {t a b a2 b2 bc bs i : Nat} (hG : lh_GX Γ) (hP : lh_P36 Inv) (hI : Inv (t + 1) a b a2 b2 I L) (hO : lh_ok F S a b a2 b2) (h82 : 82 ≤ S.length) (hL : lh_L Γ ≤ 3584) (hi : i + 6 < lh_L Γ) (kk : lh_next Γ Inv t Z bc bs i) : lh_G Γ m_LL36 room_1 Z (bc + 2) (bs + 15) 0 [(0, .ref 0), (1, .ref (0 + 4)), (2, .ref (65 + 4)), (3, .ref (81 + 4)), (4, .int (nI i))] [] (I, L, F, S) := by
  refine lh_wid (Nat.le_add_right bc 2) (Nat.le_add_right bs 15) ?_
  obtain ⟨r1, r2, e1, e2, he, hI'⟩ := hP t a b a2 b2 I L hI
  exact lw_c36 hG hO hL hi e1 e2 he (kk _ _ _ _ _ _ _ _ hO h82 hI')
theorem lw_s37 {Γ : lh_Cx} {Inv : Nat → Nat → Nat → Nat → Nat → lh_II → lh_LL → Prop} {Z : List Frame → Array Value → State → State → Prop} {I : lh_II} {L : lh_LL} {F : lh_FF} {S : lh_SS} {t a b a2 b2 bc bs i : Nat} (hG : lh_GX Γ) (hP : lh_P37 Inv) (hI : Inv (t + 1) a b a2 b2 I L) (hO : lh_ok F S a b a2 b2) (h82 : 82 ≤ S.length) (hL : lh_L Γ ≤ 3584) (hi : i + 6 < lh_L Γ) (kk : lh_next Γ Inv t Z bc bs i) : lh_G Γ m_LL37 room_1 Z (bc + 2) (bs + 15) 0 [(0, .ref 0), (1, .ref (0 + 4)), (2, .ref (65 + 4)), (3, .ref (81 + 4)), (4, .int (nI i))] [] (I, L, F, S) := by
  refine lh_wid (Nat.le_add_right bc 2) (Nat.le_add_right bs 15) ?_
  obtain ⟨r1, r2, e1, e2, he, hI'⟩ := hP t a b a2 b2 I L (lh_xs Γ (i + 1)) hI
  exact lw_c37 hG hO hL hi e1 e2 he (kk _ _ _ _ _ _ _ _ hO h82 hI')
theorem lw_s38 {Γ : lh_Cx} {Inv : Nat → Nat → Nat → Nat → Nat → lh_II → lh_LL → Prop} {Z : List Frame → Array Value → State → State → Prop} {I : lh_II} {L : lh_LL} {F : lh_FF} {S : lh_SS} {t a b a2 b2 bc bs i : Nat} (hG : lh_GX Γ) (hP : lh_P38 Inv) (hI : Inv (t + 1) a b a2 b2 I L) (hO : lh_ok F S a b a2 b2) (h82 : 82 ≤ S.length) (hL : lh_L Γ ≤ 3584) (hi : i + 6 < lh_L Γ) (kk : lh_next Γ Inv t Z bc bs i) : lh_G Γ m_LL38 room_1 Z (bc + 2) (bs + 15) 0 [(0, .ref 0), (1, .ref (0 + 4)), (2, .ref (65 + 4)), (3, .ref (81 + 4)), (4, .int (nI i))] [] (I, L, F, S) := by
  refine lh_wid (Nat.le_add_right bc 2) (Nat.le_add_right bs 15) ?_
  obtain ⟨r1, r2, e1, e2, he, hI'⟩ := hP t a b a2 b2 I L (lh_xs Γ (i + 1)) hI
  exact lw_c38 hG hO hL hi e1 e2 he (kk _ _ _ _ _ _ _ _ hO h82 hI')
theorem lw_s39 {Γ : lh_Cx} {Inv : Nat → Nat → Nat → Nat → Nat → lh_II → lh_LL → Prop} {Z : List Frame → Array Value → State → State → Prop} {I : lh_II} {L : lh_LL} {F : lh_FF} {S : lh_SS} {t a b a2 b2 bc bs i : Nat} (hG : lh_GX Γ) (hP : lh_P39 Inv) (hI : Inv (t + 1) a b a2 b2 I L) (hO : lh_ok F S a b a2 b2) (h82 : 82 ≤ S.length) (hL : lh_L Γ ≤ 3584) (hi : i + 6 < lh_L Γ) (kk : lh_next Γ Inv t Z bc bs i) : lh_G Γ m_LL39 room_1 Z (bc + 2) (bs + 15) 0 [(0, .ref 0), (1, .ref (0 + 4)), (2, .ref (65 + 4)), (3, .ref (81 + 4)), (4, .int (nI i))] [] (I, L, F, S) := by
  refine lh_wid (Nat.le_add_right bc 2) (Nat.le_add_right bs 15) ?_
  obtain ⟨r1, r2, e1, e2, he, hI'⟩ := hP t a b a2 b2 I L (lh_xs Γ (i + 1)) hI
  exact lw_c39 hG hO hL hi e1 e2 he (kk _ _ _ _ _ _ _ _ hO h82 hI')
theorem lw_s41 {Γ : lh_Cx} {Inv : Nat → Nat → Nat → Nat → Nat → lh_II → lh_LL → Prop} {Z : List Frame → Array Value → State → State → Prop} {I : lh_II} {L : lh_LL} {F : lh_FF} {S : lh_SS} {t a b a2 b2 bc bs i : Nat} (hG : lh_GX Γ) (hP : lh_P41 Inv) (hI : Inv (t + 1) a b a2 b2 I L) (hO : lh_ok F S a b a2 b2) (h82 : 82 ≤ S.length) (hL : lh_L Γ ≤ 3584) (hi : i + 6 < lh_L Γ) (kk : lh_next Γ Inv t Z bc bs i) : lh_G Γ m_LL41 room_1 Z (bc + 2) (bs + 15) 0 [(0, .ref 0), (1, .ref (0 + 4)), (2, .ref (65 + 4)), (3, .ref (81 + 4)), (4, .int (nI i))] [] (I, L, F, S) := by
  refine lh_wid (Nat.le_add_right bc 2) (Nat.le_add_right bs 15) ?_
  obtain ⟨r1, r2, e1, e2, he, hI'⟩ := hP t a b a2 b2 I L (lh_xs Γ (i + 1)) (lh_xs Γ (i + 2)) (lh_xs Γ (i + 3)) hI
  exact lw_c41 hG hO hL hi e1 e2 he (kk _ _ _ _ _ _ _ _ hO h82 hI')
theorem lw_s42 {Γ : lh_Cx} {Inv : Nat → Nat → Nat → Nat → Nat → lh_II → lh_LL → Prop} {Z : List Frame → Array Value → State → State → Prop} {I : lh_II} {L : lh_LL} {F : lh_FF} {S : lh_SS} {t a b a2 b2 bc bs i : Nat} (hG : lh_GX Γ) (hP : lh_P42 Inv) (hI : Inv (t + 1) a b a2 b2 I L) (hO : lh_ok F S a b a2 b2) (h82 : 82 ≤ S.length) (hL : lh_L Γ ≤ 3584) (hi : i + 6 < lh_L Γ) (kk : lh_next Γ Inv t Z bc bs i) : lh_G Γ m_LL42 room_1 Z (bc + 2) (bs + 15) 0 [(0, .ref 0), (1, .ref (0 + 4)), (2, .ref (65 + 4)), (3, .ref (81 + 4)), (4, .int (nI i))] [] (I, L, F, S) := by
  refine lh_wid (Nat.le_add_right bc 2) (Nat.le_add_right bs 15) ?_
  obtain ⟨r1, r2, e1, e2, he, hI'⟩ := hP t a b a2 b2 I L (lh_xs Γ (i + 1)) ((if lh_xs Γ (i + 2) = 0 then 0 else 1)) lh_if01 hI
  exact lw_c42 hG hO hL hi e1 e2 he (kk _ _ _ _ _ _ _ _ hO h82 hI')
theorem lw_s43 {Γ : lh_Cx} {Inv : Nat → Nat → Nat → Nat → Nat → lh_II → lh_LL → Prop} {Z : List Frame → Array Value → State → State → Prop} {I : lh_II} {L : lh_LL} {F : lh_FF} {S : lh_SS} {t a b a2 b2 bc bs i : Nat} (hG : lh_GX Γ) (hP : lh_P43 Inv) (hI : Inv (t + 1) a b a2 b2 I L) (hO : lh_ok F S a b a2 b2) (h82 : 82 ≤ S.length) (hL : lh_L Γ ≤ 3584) (hi : i + 6 < lh_L Γ) (kk : lh_next Γ Inv t Z bc bs i) : lh_G Γ m_LL43 room_1 Z (bc + 2) (bs + 15) 0 [(0, .ref 0), (1, .ref (0 + 4)), (2, .ref (65 + 4)), (3, .ref (81 + 4)), (4, .int (nI i))] [] (I, L, F, S) := by
  refine lh_wid (Nat.le_add_right bc 2) (Nat.le_add_right bs 15) ?_
  obtain ⟨r1, r2, e1, e2, he, hI'⟩ := hP t a b a2 b2 I L (lh_xs Γ (i + 1)) hI
  exact lw_c43 hG hO hL hi e1 e2 he (kk _ _ _ _ _ _ _ _ hO h82 hI')
theorem lw_s40 {Γ : lh_Cx} {Inv : Nat → Nat → Nat → Nat → Nat → lh_II → lh_LL → Prop} {Z : List Frame → Array Value → State → State → Prop} {I : lh_II} {L : lh_LL} {F : lh_FF} {S : lh_SS} {t a b a2 b2 bc bs i : Nat} (hG : lh_GX Γ) (hY : lh_GY Γ) (hl : (lh_l Γ).stackTraces = false) (hP : lh_P40 Inv) (hI : Inv (t + 1) a b a2 b2 I L) (hO : lh_ok F S a b a2 b2) (h82 : 82 ≤ S.length) (hL : lh_L Γ ≤ 3584) (hi : i + 6 < lh_L Γ) (kk : lh_next Γ Inv t Z bc bs i) : lh_G Γ m_LL40 room_1 Z (bc + 2) (bs + 15) 0 [(0, .ref 0), (1, .ref (0 + 4)), (2, .ref (65 + 4)), (3, .ref (81 + 4)), (4, .int (nI i))] [] (I, L, F, S) := by
  refine lh_wid (bc := bc + 1) (bs := bs + 6) (by omega) (by omega) ?_
  obtain ⟨r1, r2, r3, e1, e2, e3, hn, hs, hI1, hI2⟩ := hP t a b a2 b2 I L (lh_xs Γ (i + 1)) (lh_xs Γ (i + 2)) (lh_xs Γ (i + 3)) (lh_xs Γ (i + 4)) hI
  exact lw_c40 hG hY hl hO h82 hL hi e1 e2 e3 hn hs (fun _ k => kk _ _ _ _ _ _ _ _ (hO.junk h82 k) (by rw [List.length_append]; omega) hI1) (fun x _ => kk _ _ _ _ _ _ _ _ hO h82 (hI2 _))
theorem lw_sw {Γ : lh_Cx} {Inv : Nat → Nat → Nat → Nat → Nat → lh_II → lh_LL → Prop} {Z : List Frame → Array Value → State → State → Prop} {I : lh_II} {L : lh_LL} {F : lh_FF} {S : lh_SS} {t a b a2 b2 bc bs i : Nat} {v : Int32} (hG : lh_GX Γ) (hY : lh_GY Γ) (hl : (lh_l Γ).stackTraces = false) (hP : lh_Pure Inv) (hI : Inv (t + 1) a b a2 b2 I L) (hO : lh_ok F S a b a2 b2) (h82 : 82 ≤ S.length) (hL : lh_L Γ ≤ 3584) (hi : i + 6 < lh_L Γ) (kk : lh_next Γ Inv t Z bc bs i) : lh_G Γ m_LLm room_1 Z (bc + 2) (bs + 15) 26 [(0, .ref 0), (1, .ref (0 + 4)), (2, .ref (65 + 4)), (3, .ref (81 + 4)), (4, .int (nI i))] [.int v] (I, L, F, S) := by
  by_cases c0 : v = 0
  · refine lh_tsX (q := 0) (j2 := 0) (off := 192) k_LL0 rfl rfl rfl rfl rfl rfl (by rw [c0]; decide) (by decide) rfl rfl ?_
    exact lw_s0 hG hP.1 hI hO h82 hL hi kk
  by_cases c1 : v = 1
  · refine lh_tsX (q := 1) (j2 := 0) (off := 339) k_LL1 rfl rfl rfl rfl rfl rfl (by rw [c1]; decide) (by decide) rfl rfl ?_
    exact lw_s1 hG hP.2.1 hI hO h82 hL hi kk
  by_cases c2 : v = 2
  · refine lh_tsX (q := 2) (j2 := 0) (off := 352) k_LL2 rfl rfl rfl rfl rfl rfl (by rw [c2]; decide) (by decide) rfl rfl ?_
    exact lw_s2 hG hP.2.2.1 hI hO h82 hL hi kk
  by_cases c3 : v = 3
  · refine lh_tsX (q := 3) (j2 := 0) (off := 365) k_LL3 rfl rfl rfl rfl rfl rfl (by rw [c3]; decide) (by decide) rfl rfl ?_
    exact lw_s3 hG hP.2.2.2.1 hI hO h82 hL hi kk
  by_cases c4 : v = 4
  · refine lh_tsX (q := 4) (j2 := 0) (off := 402) k_LL4 rfl rfl rfl rfl rfl rfl (by rw [c4]; decide) (by decide) rfl rfl ?_
    exact lw_s4 hG hP.2.2.2.2.1 hI hO h82 hL hi kk
  by_cases c5 : v = 5
  · refine lh_tsX (q := 5) (j2 := 0) (off := 439) k_LL5 rfl rfl rfl rfl rfl rfl (by rw [c5]; decide) (by decide) rfl rfl ?_
    exact lw_s5 hG hP.2.2.2.2.2.1 hI hO h82 hL hi kk
  by_cases c6 : v = 6
  · refine lh_tsX (q := 6) (j2 := 0) (off := 476) k_LL6 rfl rfl rfl rfl rfl rfl (by rw [c6]; decide) (by decide) rfl rfl ?_
    exact lw_s6 hG hP.2.2.2.2.2.2.1 hI hO h82 hL hi kk
  by_cases c7 : v = 7
  · refine lh_tsX (q := 7) (j2 := 0) (off := 489) k_LL7 rfl rfl rfl rfl rfl rfl (by rw [c7]; decide) (by decide) rfl rfl ?_
    exact lw_s7 hG hP.2.2.2.2.2.2.2.1 hI hO h82 hL hi kk
  by_cases c8 : v = 8
  · refine lh_tsX (q := 8) (j2 := 0) (off := 514) k_LL8 rfl rfl rfl rfl rfl rfl (by rw [c8]; decide) (by decide) rfl rfl ?_
    exact lw_s8 hG hP.2.2.2.2.2.2.2.2.1 hI hO h82 hL hi kk
  by_cases c9 : v = 9
  · refine lh_tsX (q := 9) (j2 := 0) (off := 527) k_LL9 rfl rfl rfl rfl rfl rfl (by rw [c9]; decide) (by decide) rfl rfl ?_
    exact lw_s9 hG hP.2.2.2.2.2.2.2.2.2.1 hI hO h82 hL hi kk
  by_cases c10 : v = 10
  · refine lh_tsX (q := 10) (j2 := 0) (off := 540) k_LL10 rfl rfl rfl rfl rfl rfl (by rw [c10]; decide) (by decide) rfl rfl ?_
    exact lw_s10 hG hP.2.2.2.2.2.2.2.2.2.2.1 hI hO h82 hL hi kk
  by_cases c11 : v = 11
  · refine lh_tsX (q := 11) (j2 := 0) (off := 565) k_LL11 rfl rfl rfl rfl rfl rfl (by rw [c11]; decide) (by decide) rfl rfl ?_
    exact lw_s11 hG hP.2.2.2.2.2.2.2.2.2.2.2.1 hI hO h82 hL hi kk
  by_cases c12 : v = 12
  · refine lh_tsX (q := 12) (j2 := 0) (off := 590) k_LL12 rfl rfl rfl rfl rfl rfl (by rw [c12]; decide) (by decide) rfl rfl ?_
    exact lw_s12 hG hP.2.2.2.2.2.2.2.2.2.2.2.2.1 hI hO h82 hL hi kk
  by_cases c13 : v = 13
  · refine lh_tsX (q := 13) (j2 := 0) (off := 615) k_LL13 rfl rfl rfl rfl rfl rfl (by rw [c13]; decide) (by decide) rfl rfl ?_
    exact lw_s13 hG hP.2.2.2.2.2.2.2.2.2.2.2.2.2.1 hI hO h82 hL hi kk
  by_cases c14 : v = 14
  · refine lh_tsX (q := 14) (j2 := 0) (off := 628) k_LL14 rfl rfl rfl rfl rfl rfl (by rw [c14]; decide) (by decide) rfl rfl ?_
    exact lw_s14 hG hP.2.2.2.2.2.2.2.2.2.2.2.2.2.2.1 hI hO h82 hL hi kk
  by_cases c15 : v = 15
  · refine lh_tsX (q := 15) (j2 := 0) (off := 653) k_LL15 rfl rfl rfl rfl rfl rfl (by rw [c15]; decide) (by decide) rfl rfl ?_
    exact lw_s15 hG hP.2.2.2.2.2.2.2.2.2.2.2.2.2.2.2.1 hI hO h82 hL hi kk
  by_cases c16 : v = 16
  · refine lh_tsX (q := 16) (j2 := 0) (off := 678) k_LL16 rfl rfl rfl rfl rfl rfl (by rw [c16]; decide) (by decide) rfl rfl ?_
    exact lw_s16 hG hP.2.2.2.2.2.2.2.2.2.2.2.2.2.2.2.2.1 hI hO h82 hL hi kk
  by_cases c17 : v = 17
  · refine lh_tsX (q := 17) (j2 := 0) (off := 691) k_LL17 rfl rfl rfl rfl rfl rfl (by rw [c17]; decide) (by decide) rfl rfl ?_
    exact lw_s17 hG hP.2.2.2.2.2.2.2.2.2.2.2.2.2.2.2.2.2.1 hI hO h82 hL hi kk
  by_cases c18 : v = 18
  · refine lh_tsX (q := 18) (j2 := 0) (off := 756) k_LL18 rfl rfl rfl rfl rfl rfl (by rw [c18]; decide) (by decide) rfl rfl ?_
    exact lw_s18 hG hP.2.2.2.2.2.2.2.2.2.2.2.2.2.2.2.2.2.2.1 hI hO h82 hL hi kk
  by_cases c19 : v = 19
  · refine lh_tsX (q := 19) (j2 := 0) (off := 769) k_LL19 rfl rfl rfl rfl rfl rfl (by rw [c19]; decide) (by decide) rfl rfl ?_
    exact lw_s19 hG hP.2.2.2.2.2.2.2.2.2.2.2.2.2.2.2.2.2.2.2.1 hI hO h82 hL hi kk
  by_cases c20 : v = 20
  · refine lh_tsX (q := 20) (j2 := 0) (off := 782) k_LL20 rfl rfl rfl rfl rfl rfl (by rw [c20]; decide) (by decide) rfl rfl ?_
    exact lw_s20 hG hP.2.2.2.2.2.2.2.2.2.2.2.2.2.2.2.2.2.2.2.2.1 hI hO h82 hL hi kk
  by_cases c21 : v = 21
  · refine lh_tsX (q := 21) (j2 := 0) (off := 795) k_LL21 rfl rfl rfl rfl rfl rfl (by rw [c21]; decide) (by decide) rfl rfl ?_
    exact lw_s21 hG hP.2.2.2.2.2.2.2.2.2.2.2.2.2.2.2.2.2.2.2.2.2.1 hI hO h82 hL hi kk
  by_cases c22 : v = 22
  · refine lh_tsX (q := 22) (j2 := 0) (off := 808) k_LL22 rfl rfl rfl rfl rfl rfl (by rw [c22]; decide) (by decide) rfl rfl ?_
    exact lw_s22 hG hP.2.2.2.2.2.2.2.2.2.2.2.2.2.2.2.2.2.2.2.2.2.2.1 hI hO h82 hL hi kk
  by_cases c23 : v = 23
  · refine lh_tsX (q := 23) (j2 := 0) (off := 857) k_LL23 rfl rfl rfl rfl rfl rfl (by rw [c23]; decide) (by decide) rfl rfl ?_
    exact lw_s23 hG hP.2.2.2.2.2.2.2.2.2.2.2.2.2.2.2.2.2.2.2.2.2.2.2.1 hI hO h82 hL hi kk
  by_cases c24 : v = 24
  · refine lh_tsX (q := 24) (j2 := 0) (off := 906) k_LL24 rfl rfl rfl rfl rfl rfl (by rw [c24]; decide) (by decide) rfl rfl ?_
    exact lw_s24 hG hP.2.2.2.2.2.2.2.2.2.2.2.2.2.2.2.2.2.2.2.2.2.2.2.2.1 hI hO h82 hL hi kk
  by_cases c25 : v = 25
  · refine lh_tsX (q := 25) (j2 := 0) (off := 943) k_LL25 rfl rfl rfl rfl rfl rfl (by rw [c25]; decide) (by decide) rfl rfl ?_
    exact lw_s25 hG hP.2.2.2.2.2.2.2.2.2.2.2.2.2.2.2.2.2.2.2.2.2.2.2.2.2.1 hI hO h82 hL hi kk
  by_cases c26 : v = 26
  · refine lh_tsX (q := 26) (j2 := 0) (off := 956) k_LL26 rfl rfl rfl rfl rfl rfl (by rw [c26]; decide) (by decide) rfl rfl ?_
    exact lw_s26 hG hP.2.2.2.2.2.2.2.2.2.2.2.2.2.2.2.2.2.2.2.2.2.2.2.2.2.2.1 hI hO h82 hL hi kk
  by_cases c27 : v = 27
  · refine lh_tsX (q := 27) (j2 := 0) (off := 981) k_LL27 rfl rfl rfl rfl rfl rfl (by rw [c27]; decide) (by decide) rfl rfl ?_
    exact lw_s27 hG hP.2.2.2.2.2.2.2.2.2.2.2.2.2.2.2.2.2.2.2.2.2.2.2.2.2.2.2.1 hI hO h82 hL hi kk
  by_cases c28 : v = 28
  · refine lh_tsX (q := 28) (j2 := 0) (off := 1006) k_LL28 rfl rfl rfl rfl rfl rfl (by rw [c28]; decide) (by decide) rfl rfl ?_
    exact lw_s28 hG hP.2.2.2.2.2.2.2.2.2.2.2.2.2.2.2.2.2.2.2.2.2.2.2.2.2.2.2.2.1 hI hO h82 hL hi kk
  by_cases c29 : v = 29
  · refine lh_tsX (q := 29) (j2 := 0) (off := 1043) k_LL29 rfl rfl rfl rfl rfl rfl (by rw [c29]; decide) (by decide) rfl rfl ?_
    exact lw_s29 hG hP.2.2.2.2.2.2.2.2.2.2.2.2.2.2.2.2.2.2.2.2.2.2.2.2.2.2.2.2.2.1 hI hO h82 hL hi kk
  by_cases c30 : v = 30
  · refine lh_tsX (q := 30) (j2 := 0) (off := 1080) k_LL30 rfl rfl rfl rfl rfl rfl (by rw [c30]; decide) (by decide) rfl rfl ?_
    exact lw_s30 hG hP.2.2.2.2.2.2.2.2.2.2.2.2.2.2.2.2.2.2.2.2.2.2.2.2.2.2.2.2.2.2.1 hI hO h82 hL hi kk
  by_cases c31 : v = 31
  · refine lh_tsX (q := 31) (j2 := 0) (off := 1093) k_LL31 rfl rfl rfl rfl rfl rfl (by rw [c31]; decide) (by decide) rfl rfl ?_
    exact lw_s31 hG hP.2.2.2.2.2.2.2.2.2.2.2.2.2.2.2.2.2.2.2.2.2.2.2.2.2.2.2.2.2.2.2.1 hI hO h82 hL hi kk
  by_cases c32 : v = 32
  · refine lh_tsX (q := 32) (j2 := 0) (off := 1118) k_LL32 rfl rfl rfl rfl rfl rfl (by rw [c32]; decide) (by decide) rfl rfl ?_
    exact lw_s32 hG hP.2.2.2.2.2.2.2.2.2.2.2.2.2.2.2.2.2.2.2.2.2.2.2.2.2.2.2.2.2.2.2.2.1 hI hO h82 hL hi kk
  by_cases c33 : v = 33
  · refine lh_tsX (q := 33) (j2 := 0) (off := 1131) k_LL33 rfl rfl rfl rfl rfl rfl (by rw [c33]; decide) (by decide) rfl rfl ?_
    exact lw_s33 hG hP.2.2.2.2.2.2.2.2.2.2.2.2.2.2.2.2.2.2.2.2.2.2.2.2.2.2.2.2.2.2.2.2.2.1 hI hO h82 hL hi kk
  by_cases c34 : v = 34
  · refine lh_tsX (q := 34) (j2 := 0) (off := 1156) k_LL34 rfl rfl rfl rfl rfl rfl (by rw [c34]; decide) (by decide) rfl rfl ?_
    exact lw_s34 hG hP.2.2.2.2.2.2.2.2.2.2.2.2.2.2.2.2.2.2.2.2.2.2.2.2.2.2.2.2.2.2.2.2.2.2.1 hI hO h82 hL hi kk
  by_cases c35 : v = 35
  · refine lh_tsX (q := 35) (j2 := 0) (off := 1181) k_LL35 rfl rfl rfl rfl rfl rfl (by rw [c35]; decide) (by decide) rfl rfl ?_
    exact lw_s35 hG hP.2.2.2.2.2.2.2.2.2.2.2.2.2.2.2.2.2.2.2.2.2.2.2.2.2.2.2.2.2.2.2.2.2.2.2.1 hI hO h82 hL hi kk
  by_cases c36 : v = 36
  · refine lh_tsX (q := 36) (j2 := 0) (off := 1218) k_LL36 rfl rfl rfl rfl rfl rfl (by rw [c36]; decide) (by decide) rfl rfl ?_
    exact lw_s36 hG hP.2.2.2.2.2.2.2.2.2.2.2.2.2.2.2.2.2.2.2.2.2.2.2.2.2.2.2.2.2.2.2.2.2.2.2.2.1 hI hO h82 hL hi kk
  by_cases c37 : v = 37
  · refine lh_tsX (q := 37) (j2 := 0) (off := 1231) k_LL37 rfl rfl rfl rfl rfl rfl (by rw [c37]; decide) (by decide) rfl rfl ?_
    exact lw_s37 hG hP.2.2.2.2.2.2.2.2.2.2.2.2.2.2.2.2.2.2.2.2.2.2.2.2.2.2.2.2.2.2.2.2.2.2.2.2.2.1 hI hO h82 hL hi kk
  by_cases c38 : v = 38
  · refine lh_tsX (q := 38) (j2 := 0) (off := 1256) k_LL38 rfl rfl rfl rfl rfl rfl (by rw [c38]; decide) (by decide) rfl rfl ?_
    exact lw_s38 hG hP.2.2.2.2.2.2.2.2.2.2.2.2.2.2.2.2.2.2.2.2.2.2.2.2.2.2.2.2.2.2.2.2.2.2.2.2.2.2.1 hI hO h82 hL hi kk
  by_cases c39 : v = 39
  · refine lh_tsX (q := 39) (j2 := 0) (off := 1281) k_LL39 rfl rfl rfl rfl rfl rfl (by rw [c39]; decide) (by decide) rfl rfl ?_
    exact lw_s39 hG hP.2.2.2.2.2.2.2.2.2.2.2.2.2.2.2.2.2.2.2.2.2.2.2.2.2.2.2.2.2.2.2.2.2.2.2.2.2.2.2.1 hI hO h82 hL hi kk
  by_cases c40 : v = 40
  · refine lh_tsX (q := 40) (j2 := 0) (off := 1306) k_LL40 rfl rfl rfl rfl rfl rfl (by rw [c40]; decide) (by decide) rfl rfl ?_
    exact lw_s40 hG hY hl hP.2.2.2.2.2.2.2.2.2.2.2.2.2.2.2.2.2.2.2.2.2.2.2.2.2.2.2.2.2.2.2.2.2.2.2.2.2.2.2.2.1 hI hO h82 hL hi kk
  by_cases c41 : v = 41
  · refine lh_tsX (q := 41) (j2 := 0) (off := 1398) k_LL41 rfl rfl rfl rfl rfl rfl (by rw [c41]; decide) (by decide) rfl rfl ?_
    exact lw_s41 hG hP.2.2.2.2.2.2.2.2.2.2.2.2.2.2.2.2.2.2.2.2.2.2.2.2.2.2.2.2.2.2.2.2.2.2.2.2.2.2.2.2.2.1 hI hO h82 hL hi kk
  by_cases c42 : v = 42
  · refine lh_tsX (q := 42) (j2 := 0) (off := 1447) k_LL42 rfl rfl rfl rfl rfl rfl (by rw [c42]; decide) (by decide) rfl rfl ?_
    exact lw_s42 hG hP.2.2.2.2.2.2.2.2.2.2.2.2.2.2.2.2.2.2.2.2.2.2.2.2.2.2.2.2.2.2.2.2.2.2.2.2.2.2.2.2.2.2.1 hI hO h82 hL hi kk
  by_cases c43 : v = 43
  · refine lh_tsX (q := 43) (j2 := 0) (off := 1500) k_LL43 rfl rfl rfl rfl rfl rfl (by rw [c43]; decide) (by decide) rfl rfl ?_
    exact lw_s43 hG hP.2.2.2.2.2.2.2.2.2.2.2.2.2.2.2.2.2.2.2.2.2.2.2.2.2.2.2.2.2.2.2.2.2.2.2.2.2.2.2.2.2.2.2.1 hI hO h82 hL hi kk
  refine lh_tsOut (tgt := 13) rfl (by have q0 := lv_neT c0 (a := 0) (by decide); have q1 := lv_neT c1 (a := 1) (by decide); have q2 := lv_neT c2 (a := 2) (by decide); have q3 := lv_neT c3 (a := 3) (by decide); have q4 := lv_neT c4 (a := 4) (by decide); have q5 := lv_neT c5 (a := 5) (by decide); have q6 := lv_neT c6 (a := 6) (by decide); have q7 := lv_neT c7 (a := 7) (by decide); have q8 := lv_neT c8 (a := 8) (by decide); have q9 := lv_neT c9 (a := 9) (by decide); have q10 := lv_neT c10 (a := 10) (by decide); have q11 := lv_neT c11 (a := 11) (by decide); have q12 := lv_neT c12 (a := 12) (by decide); have q13 := lv_neT c13 (a := 13) (by decide); have q14 := lv_neT c14 (a := 14) (by decide); have q15 := lv_neT c15 (a := 15) (by decide); have q16 := lv_neT c16 (a := 16) (by decide); have q17 := lv_neT c17 (a := 17) (by decide); have q18 := lv_neT c18 (a := 18) (by decide); have q19 := lv_neT c19 (a := 19) (by decide); have q20 := lv_neT c20 (a := 20) (by decide); have q21 := lv_neT c21 (a := 21) (by decide); have q22 := lv_neT c22 (a := 22) (by decide); have q23 := lv_neT c23 (a := 23) (by decide); have q24 := lv_neT c24 (a := 24) (by decide); have q25 := lv_neT c25 (a := 25) (by decide); have q26 := lv_neT c26 (a := 26) (by decide); have q27 := lv_neT c27 (a := 27) (by decide); have q28 := lv_neT c28 (a := 28) (by decide); have q29 := lv_neT c29 (a := 29) (by decide); have q30 := lv_neT c30 (a := 30) (by decide); have q31 := lv_neT c31 (a := 31) (by decide); have q32 := lv_neT c32 (a := 32) (by decide); have q33 := lv_neT c33 (a := 33) (by decide); have q34 := lv_neT c34 (a := 34) (by decide); have q35 := lv_neT c35 (a := 35) (by decide); have q36 := lv_neT c36 (a := 36) (by decide); have q37 := lv_neT c37 (a := 37) (by decide); have q38 := lv_neT c38 (a := 38) (by decide); have q39 := lv_neT c39 (a := 39) (by decide); have q40 := lv_neT c40 (a := 40) (by decide); have q41 := lv_neT c41 (a := 41) (by decide); have q42 := lv_neT c42 (a := 42) (by decide); have q43 := lv_neT c43 (a := 43) (by decide); omega) rfl ?_
  exact lh_wid (Nat.le_add_right bc 2) (Nat.le_add_right bs 15) (kk _ _ _ _ _ _ _ _ hO h82 (hP.2.2.2.2.2.2.2.2.2.2.2.2.2.2.2.2.2.2.2.2.2.2.2.2.2.2.2.2.2.2.2.2.2.2.2.2.2.2.2.2.2.2.2.2 _ _ _ _ _ _ _ hI))
theorem lh_cmpL {L i : Nat} (hL : L ≤ 3584) (hi : i ≤ 4000) (c : ¬ (Int32.ofNat L - 7 < nI i)) : i + 7 ≤ L := by
  rw [Int32.lt_iff_toInt_lt, nI_toInt (by omega), Int32.toInt_sub, show Int32.ofNat L = nI L from rfl, nI_toInt (by omega), show (7 : Int32).toInt = 7 by decide, Int.bmod_eq_of_le (by omega) (by omega)] at c
  omega
theorem lw_loop {Γ : lh_Cx} {Inv : Nat → Nat → Nat → Nat → Nat → lh_II → lh_LL → Prop} {Z : List Frame → Array Value → State → State → Prop} (hG : lh_GX Γ) (hY : lh_GY Γ) (hl : (lh_l Γ).stackTraces = false) (hP : lh_Pure Inv) (hL : lh_L Γ ≤ 3584)
    (hend : ∀ (lv : List (Nat × Value)) (h : lh_Hp), lh_G Γ m_LLm room_1 Z 0 0 28 lv [.int 1] h) :
    ∀ (n i a b a2 b2 : Nat) (I : lh_II) (L : lh_LL) (F : lh_FF) (S : lh_SS), lh_L Γ ≤ i + n → i ≤ 4000 → lh_ok F S a b a2 b2 → 82 ≤ S.length → Inv n a b a2 b2 I L → lh_G Γ m_LLm room_1 Z (2 * n) (15 * n) 15 [(0, .ref 0), (1, .ref (0 + 4)), (2, .ref (65 + 4)), (3, .ref (81 + 4)), (4, .int (nI i))] [] (I, L, F, S) := by
  intro n
  induction n with
  | zero =>
    intro i a b a2 b2 I L F S hn hi hO h82 hI
    refine lh_iload (q := 4) rfl rfl ?_
    refine lh_aload_n (q := 0) rfl rfl rfl ?_
    refine lh_slen rfl ?_
    refine lh_bipush rfl lh_b_7 ?_
    refine lh_isub rfl ?_
    refine lh_icmp_gt rfl (fun c => ?_) (fun c => ?_)
    · refine lh_iconst rfl lh_k_1 ?_
      exact hend _ _
    · exfalso
      have := lh_cmpL hL hi c
      omega
  | succ n ih =>
    intro i a b a2 b2 I L F S hn hi hO h82 hI
    refine lh_iload (q := 4) rfl rfl ?_
    refine lh_aload_n (q := 0) rfl rfl rfl ?_
    refine lh_slen rfl ?_
    refine lh_bipush rfl lh_b_7 ?_
    refine lh_isub rfl ?_
    refine lh_icmp_gt rfl (fun c => ?_) (fun c => ?_)
    · refine lh_iconst rfl lh_k_1 ?_
      exact lh_wid (Nat.zero_le _) (Nat.zero_le _) (hend _ _)
    · have hlt := lh_cmpL hL hi c
      refine lh_aload_n (q := 0) rfl rfl rfl ?_
      refine lh_iload (q := 4) rfl rfl ?_
      refine lh_scr0 rfl (by omega) hL ?_
      refine lh_bipush rfl lh_b_63 ?_
      refine lh_iand rfl ?_
      refine lh_wid (bc := 2 * n + 2) (bs := 15 * n + 15) (by omega) (by omega) ?_
      refine lw_sw hG hY hl hP hI hO h82 hL (by omega) ?_
      intro a b a2 b2 I L F S hO h82 hI
      refine lh_iinc (q := 4) (v := nI (i + 7)) (lv' := [(0, .ref 0), (1, .ref (0 + 4)), (2, .ref (65 + 4)), (3, .ref (81 + 4)), (4, .int (nI (i + 7)))]) rfl rfl (by rw [show Int32.ofInt 7 = nI 7 by decide, nI_add]) rfl rfl ?_
      refine lh_goto rfl ?_
      exact ih (i + 7) a b a2 b2 I L F S (by omega) (by omega) hO h82 hI
