theorem lh_all : ∃ Inv : Nat → Nat → Nat → Nat → Nat → lh_II → lh_LL → Prop, lh_Pure Inv ∧ lh_Start Inv := sorry
