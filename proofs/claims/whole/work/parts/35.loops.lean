/-! ways to begin and to end; first of some; counts -/
theorem q_nk0 {a b a2 b2 : Nat} (ha : (a = 11 ∧ a2 = 23) ∨ (a = 23 ∧ a2 = 11)) (hb : (b = 35 ∧ b2 = 38) ∨ (b = 38 ∧ b2 = 35)) : ¬ q_kp a b (65 + 4) 0 := by
  unfold q_kp
  omega
theorem lh_inv.op {t a b a2 b2 : Nat} {I : lh_II} {L : lh_LL} (hi : lh_inv (t + 1) a b a2 b2 I L) : ∃ s, s_wf (t + 1) s ∧ s_cl a b I s ∧ s_md I s ∧ s_md (lh_u2 I (65 + 4) 0 0) s ∧ q_fr a b I (lh_u2 I (65 + 4) 0 0) := by
  obtain ⟨ha, hb, ⟨s, w, c, m⟩, -⟩ := hi
  have hf : q_fr a b I (lh_u2 I (65 + 4) 0 0) := q_fr.rf.u2 (q_nk0 ha hb)
  exact ⟨s, w, c, m, m.keep w hf, hf⟩
theorem lh_inv.en {t a b a2 b2 : Nat} {I I' : lh_II} {L : lh_LL} (hi : lh_inv (t + 1) a b a2 b2 I L) (hf : q_fr a b I I') : lh_inv t a b a2 b2 I' L := hi.keep hf (fun _ _ => ⟨rfl, rfl⟩)
def q_fst (p : Nat → Bool) : Nat → Nat → Option Nat
  | _, 0 => none
  | k, d + 1 => if p k = true then some k else q_fst p (k + 1) d
theorem q_forF {β : Type} {F : Nat → Nat → Option β} {N : Nat} {p : Nat → Bool} {fnd : Nat → β} {nf : β} (hs : ∀ m k, k < N → F (m + 1) k = if p k = true then some (fnd k) else F m (k + 1)) (he : ∀ m, F (m + 1) N = some nf) :
    ∀ (d m k : Nat), k + d = N → d < m → F m k = some (match q_fst p k d with | some j => fnd j | none => nf)
  | 0, 0, k, _, h => absurd h (by omega)
  | 0, m + 1, k, h, _ => by
    have e : k = N := by omega
    rw [e]; exact he m
  | d + 1, 0, k, _, h => absurd h (by omega)
  | d + 1, m + 1, k, h, hm => by
    rw [hs m k (by omega)]
    unfold q_fst
    by_cases hp : p k = true
    · rw [if_pos hp, if_pos hp]
    · rw [if_neg hp, if_neg hp]
      exact q_forF hs he d m (k + 1) (by omega) (by omega)
theorem q_fst_lt {p : Nat → Bool} : ∀ {d k j : Nat}, q_fst p k d = some j → k ≤ j ∧ j < k + d ∧ p j = true
  | 0, k, j, h => by cases h
  | d + 1, k, j, h => by
    unfold q_fst at h
    split at h
    · next hp => cases h; exact ⟨Nat.le_refl _, by omega, hp⟩
    · have := q_fst_lt h
      exact ⟨by omega, by omega, this.2.2⟩
theorem q_fst_cong {p q : Nat → Bool} : ∀ {d k : Nat}, (∀ i, k ≤ i → i < k + d → p i = q i) → q_fst p k d = q_fst q k d
  | 0, k, _ => rfl
  | d + 1, k, h => by
    unfold q_fst
    rw [h k (Nat.le_refl _) (by omega), q_fst_cong (fun i h1 h2 => h i (by omega) (by omega))]
theorem q_or0 (x : Int32) : x ||| 0 = x := by
  apply b_ext; intro i _; rw [b_or, b_0, Bool.or_false]
theorem q_add0 (x : Int32) : x + 0 = x := Int32.add_zero x
def q_pc (x : Nat) : Nat := fb_ct (fun i => x.testBit i) 30
theorem e_bits64 : ∀ i, i < 64 → ∀ j, j < 64 → f_Int_bitCount (nI (64 * i + j)) = some (nI (q_pc (64 * i + j))) := by decide +kernel
theorem e_bits {x : Nat} (hx : x < 4096) : f_Int_bitCount (nI x) = some (nI (q_pc x)) := by
  have := e_bits64 (x / 64) (by omega) (x % 64) (by omega)
  rw [show 64 * (x / 64) + x % 64 = x by omega] at this
  exact this
theorem m_bits {x : Nat} (hx : x < 2 ^ 31) : f_LM_bits (nI x) = some (nI (q_pc x)) := by
  rw [f_LM_bits]
  have := q_for (F := fun m k (y : Nat) => f_LM_bits_4 (nI x) m (nI y) (nI k)) (N := 30) (step := fun k y => y + (if x.testBit k then 1 else 0)) (fin := nI) (fun m k y hk => by
    show f_LM_bits_4 (nI x) (m + 1) (nI y) (nI k) = _
    rw [f_LM_bits_4]
    rw [if_neg (show ¬ (30 : Int32) ≤ nI k from nI_ge hk (by decide)), q_bit hx (by omega), nI_add, nI_1]) (fun m y => by
    show f_LM_bits_4 (nI x) (m + 1) (nI y) (nI 30) = _
    rw [f_LM_bits_4, if_pos (by decide)]) 30 lh_fuel 0 0 rfl (by decide)
  have h2 : f_LM_bits_4 (nI x) lh_fuel 0 0 = some (nI (q_it (fun k y => y + (if x.testBit k then 1 else 0)) 0 30 0)) := this
  rw [h2, q_bs]
  have h3 : ∀ n, q_it (fun k y => y + (if x.testBit k then 1 else 0)) 0 n 0 = fb_ct (fun i => x.testBit i) n := by
    intro n
    induction n with
    | zero => rfl
    | succ n ih => rw [q_it_succ, ih, fb_ct_succ, Nat.zero_add]
  rw [h3]
  rfl
/-- masks over visitors, hours .. built up -/
theorem q_mkIt {p : Nat → Bool} : ∀ (d : Nat), q_it (fun k x => if p k = true then x ||| 2 ^ k else x) 0 d 0 = q_mk p d
  | 0 => rfl
  | d + 1 => by
    rw [q_it_succ, q_mkIt d, Nat.zero_add]
    cases hp : p d with
    | true => rw [if_pos rfl]; exact q_mk_or hp
    | false => rw [if_neg (by decide), q_mk_no hp]
