/-! ===== the pure part, all of it ===== -/
theorem lk_all : ∃ I : Nat → nk_C → lk_R → Prop, lk_H I := sorry
