/-! laid by wip/p44/genz.py: the law from 84 on -/
def wJ_L_law_283 (k288 : nk_C → lk_R → Int32 → Int32 → Int32 → Int32 → Int32 → Int32 → Int32 → Prop) (σ : nk_C) (ρ : lk_R) (x1 : Int32) (x4 : Int32) (x5 : Int32) (x6 : Int32) (x7 : Int32) (t0 : Int32) : Prop := (k288 σ ρ x1 x4 x5 x6 x7 t0 1)
def wJ_L_law_323 (k328 : nk_C → lk_R → Int32 → Int32 → Int32 → Int32 → Int32 → Int64 → Int32 → Prop) (σ : nk_C) (ρ : lk_R) (x1 : Int32) (x4 : Int32) (x5 : Int32) (x6 : Int32) (x7 : Int32) (x10 : Int64) : Prop := (k328 σ ρ x1 x4 x5 x6 x7 x10 1)
def wL_L_law_384 (k434 : nk_C → lk_R → Int32 → Int32 → Int32 → Int32 → Int32 → Int64 → Int32 → Int32 → Int32 → Int32 → Prop) : Nat → nk_C → lk_R → Int32 → Int32 → Int32 → Int32 → Int32 → Int64 → Int32 → Int32 → Int32 → Int32 → Int32 → Prop
  | 0 => fun _ _ _ _ _ _ _ _ _ _ _ _ _ => False
  | n + 1 => fun σ ρ x1 x4 x5 x6 x7 x10 x12 x13 x14 x15 x16 => (((x15 ≤ x16) → (k434 σ ρ x1 x4 x5 x6 x7 x10 x12 x13 x14 x15)) ∧ ((¬ x15 ≤ x16) → (vp_in x15 5 ∧ vp_in x16 5 ∧ (((σ.2.1 (31 + x15.toNatClampNeg) x16.toNatClampNeg) = 0) → (wL_L_law_384 k434 n σ ρ x1 x4 x5 x6 x7 x10 x12 x13 x14 x15 (x16 + 1))) ∧ ((¬ (σ.2.1 (31 + x15.toNatClampNeg) x16.toNatClampNeg) = 0) → (w_X8_near σ.1 x14 x15 (fun r409 => ((r409 < 0) → (wL_L_law_384 k434 n σ ρ x1 x4 x5 x6 x7 x10 x12 x13 x14 x15 (x16 + 1))) ∧ ((¬ r409 < 0) → (w_X8_near σ.1 x14 x16 (fun r420 => ((r420 < 0) → (wL_L_law_384 k434 n σ ρ x1 x4 x5 x6 x7 x10 x12 x13 x14 x15 (x16 + 1))) ∧ ((¬ r420 < 0) → (False)))))))))))
def wL_L_law_372 (k440 : nk_C → lk_R → Int32 → Int32 → Int32 → Int32 → Int32 → Int64 → Int32 → Int32 → Int32 → Prop) : Nat → nk_C → lk_R → Int32 → Int32 → Int32 → Int32 → Int32 → Int64 → Int32 → Int32 → Int32 → Int32 → Prop
  | 0 => fun _ _ _ _ _ _ _ _ _ _ _ _ => False
  | n + 1 => fun σ ρ x1 x4 x5 x6 x7 x10 x12 x13 x14 x15 => ((((σ.2.2 9) ≤ x15) → (k440 σ ρ x1 x4 x5 x6 x7 x10 x12 x13 x14)) ∧ ((¬ (σ.2.2 9) ≤ x15) → (∃ n384, wL_L_law_384 (fun σ ρ x1 x4 x5 x6 x7 x10 x12 x13 x14 x15 => (wL_L_law_372 k440 n σ ρ x1 x4 x5 x6 x7 x10 x12 x13 x14 (x15 + 1))) n384 σ ρ x1 x4 x5 x6 x7 x10 x12 x13 x14 x15 0)))
def wJ_L_law_510 (k515 : nk_C → lk_R → Int32 → Int32 → Int32 → Int32 → Int32 → Int64 → Int32 → Int32 → Int32 → Int32 → Int32 → Int32 → Int32 → Int32 → Prop) (σ : nk_C) (ρ : lk_R) (x1 : Int32) (x4 : Int32) (x5 : Int32) (x6 : Int32) (x7 : Int32) (x10 : Int64) (x12 : Int32) (x13 : Int32) (x14 : Int32) (x15 : Int32) (x16 : Int32) (x17 : Int32) (x18 : Int32) : Prop := (k515 σ ρ x1 x4 x5 x6 x7 x10 x12 x13 x14 x15 x16 x17 x18 1)
def wJ_L_law_584 (k585 : nk_C → lk_R → Int32 → Int32 → Int32 → Int32 → Int32 → Int64 → Int32 → Int32 → Int32 → Int32 → Int32 → Int32 → Int32 → Int32 → Int32 → Prop) (σ : nk_C) (ρ : lk_R) (x1 : Int32) (x4 : Int32) (x5 : Int32) (x6 : Int32) (x7 : Int32) (x10 : Int64) (x12 : Int32) (x13 : Int32) (x14 : Int32) (x15 : Int32) (x16 : Int32) (x17 : Int32) (x18 : Int32) (t0 : Int32) : Prop := (k585 σ ρ x1 x4 x5 x6 x7 x10 x12 x13 x14 x15 x16 x17 x18 t0 0)
def wJ_L_law_646 (k649 : nk_C → lk_R → Int32 → Int32 → Int32 → Int32 → Int32 → Int64 → Int32 → Int32 → Int32 → Int32 → Int32 → Int32 → Int32 → Prop) (σ : nk_C) (ρ : lk_R) (x1 : Int32) (x4 : Int32) (x5 : Int32) (x6 : Int32) (x7 : Int32) (x10 : Int64) (x12 : Int32) (x13 : Int32) (x14 : Int32) (x15 : Int32) (x16 : Int32) (x17 : Int32) (x18 : Int32) (t0 : Int32) (t1 : Int32) : Prop := (((¬ t0 = t1) → (False)) ∧ ((t0 = t1) → (k649 σ ρ x1 x4 x5 x6 x7 x10 x12 x13 x14 x15 x16 x17 x18)))
def wJ_L_law_635 (k649 : nk_C → lk_R → Int32 → Int32 → Int32 → Int32 → Int32 → Int64 → Int32 → Int32 → Int32 → Int32 → Int32 → Int32 → Int32 → Prop) (σ : nk_C) (ρ : lk_R) (x1 : Int32) (x4 : Int32) (x5 : Int32) (x6 : Int32) (x7 : Int32) (x10 : Int64) (x12 : Int32) (x13 : Int32) (x14 : Int32) (x15 : Int32) (x16 : Int32) (x17 : Int32) (x18 : Int32) (t0 : Int32) : Prop := (((¬ x17 = 1) → (wJ_L_law_646 k649 σ ρ x1 x4 x5 x6 x7 x10 x12 x13 x14 x15 x16 x17 x18 t0 0)) ∧ ((x17 = 1) → (wJ_L_law_646 k649 σ ρ x1 x4 x5 x6 x7 x10 x12 x13 x14 x15 x16 x17 x18 t0 1)))
def wJ_L_law_602 (k649 : nk_C → lk_R → Int32 → Int32 → Int32 → Int32 → Int32 → Int64 → Int32 → Int32 → Int32 → Int32 → Int32 → Int32 → Int32 → Prop) (σ : nk_C) (ρ : lk_R) (x1 : Int32) (x4 : Int32) (x5 : Int32) (x6 : Int32) (x7 : Int32) (x10 : Int64) (x12 : Int32) (x13 : Int32) (x14 : Int32) (x15 : Int32) (x16 : Int32) (x17 : Int32) (x18 : Int32) : Prop := (w_X8_matches σ.1 x18 x14 x15 x16 (fun r611 s611 => ((r611 = 0) → (False)) ∧ ((¬ r611 = 0) → (vp_in x18 20 ∧ ∃ fe623 : Nat → Int32, ρ.1 x18.toNatClampNeg = some fe623 ∧ ((¬ (fe623 (Int32.toNatClampNeg 0)) = 1) → (wJ_L_law_635 k649 (s611, σ.2) ρ x1 x4 x5 x6 x7 x10 x12 x13 x14 x15 x16 x17 x18 0)) ∧ (((fe623 (Int32.toNatClampNeg 0)) = 1) → (wJ_L_law_635 k649 (s611, σ.2) ρ x1 x4 x5 x6 x7 x10 x12 x13 x14 x15 x16 x17 x18 1))))))
def wJ_L_law_649 (k465 : nk_C → lk_R → Int32 → Int32 → Int32 → Int32 → Int32 → Int64 → Int32 → Int32 → Int32 → Int32 → Int32 → Prop) (σ : nk_C) (ρ : lk_R) (x1 : Int32) (x4 : Int32) (x5 : Int32) (x6 : Int32) (x7 : Int32) (x10 : Int64) (x12 : Int32) (x13 : Int32) (x14 : Int32) (x15 : Int32) (x16 : Int32) (x17 : Int32) (x18 : Int32) : Prop := (((¬ x17 = 3) → (k465 σ ρ x1 x4 x5 x6 x7 x10 x12 x13 x14 x15 (x16 + 1))) ∧ ((x17 = 3) → (w_X8_isGood σ.1 x18 (fun r658 s658 => ((r658 = 0) → (False)) ∧ ((¬ r658 = 0) → (vp_in x18 20 ∧ ∃ fe670 : Nat → Int32, ρ.2 x18.toNatClampNeg = some fe670 ∧ ((¬ (fe670 (Int32.toNatClampNeg 1)) = x14) → (False)) ∧ (((fe670 (Int32.toNatClampNeg 1)) = x14) → (vp_in x18 20 ∧ ∃ fe687 : Nat → Int32, ρ.2 x18.toNatClampNeg = some fe687 ∧ w_X8_far (s658, σ.2).1 x16 (fe687 (Int32.toNatClampNeg 3)) (fun r690 => ((0 ≤ r690) → (k465 (s658, σ.2) ρ x1 x4 x5 x6 x7 x10 x12 x13 x14 x15 (x16 + 1))) ∧ ((¬ 0 ≤ r690) → (False)))))))))))
def wJ_L_law_585 (k465 : nk_C → lk_R → Int32 → Int32 → Int32 → Int32 → Int32 → Int64 → Int32 → Int32 → Int32 → Int32 → Int32 → Prop) (σ : nk_C) (ρ : lk_R) (x1 : Int32) (x4 : Int32) (x5 : Int32) (x6 : Int32) (x7 : Int32) (x10 : Int64) (x12 : Int32) (x13 : Int32) (x14 : Int32) (x15 : Int32) (x16 : Int32) (x17 : Int32) (x18 : Int32) (t0 : Int32) (t1 : Int32) : Prop := (((t0 = t1) → (((x17 = 1) → (wJ_L_law_602 (fun σ ρ x1 x4 x5 x6 x7 x10 x12 x13 x14 x15 x16 x17 x18 => (wJ_L_law_649 k465 σ ρ x1 x4 x5 x6 x7 x10 x12 x13 x14 x15 x16 x17 x18)) σ ρ x1 x4 x5 x6 x7 x10 x12 x13 x14 x15 x16 x17 x18)) ∧ ((¬ x17 = 1) → (((¬ x17 = 2) → (wJ_L_law_649 k465 σ ρ x1 x4 x5 x6 x7 x10 x12 x13 x14 x15 x16 x17 x18)) ∧ ((x17 = 2) → (wJ_L_law_602 (fun σ ρ x1 x4 x5 x6 x7 x10 x12 x13 x14 x15 x16 x17 x18 => (wJ_L_law_649 k465 σ ρ x1 x4 x5 x6 x7 x10 x12 x13 x14 x15 x16 x17 x18)) σ ρ x1 x4 x5 x6 x7 x10 x12 x13 x14 x15 x16 x17 x18)))))) ∧ ((¬ t0 = t1) → (False)))
def wJ_L_law_569 (k465 : nk_C → lk_R → Int32 → Int32 → Int32 → Int32 → Int32 → Int64 → Int32 → Int32 → Int32 → Int32 → Int32 → Prop) (σ : nk_C) (ρ : lk_R) (x1 : Int32) (x4 : Int32) (x5 : Int32) (x6 : Int32) (x7 : Int32) (x10 : Int64) (x12 : Int32) (x13 : Int32) (x14 : Int32) (x15 : Int32) (x16 : Int32) (x17 : Int32) (x18 : Int32) (t0 : Int32) : Prop := (((x17 ≤ 0) → (wJ_L_law_584 (fun σ ρ x1 x4 x5 x6 x7 x10 x12 x13 x14 x15 x16 x17 x18 t0 t1 => (wJ_L_law_585 k465 σ ρ x1 x4 x5 x6 x7 x10 x12 x13 x14 x15 x16 x17 x18 t0 t1)) σ ρ x1 x4 x5 x6 x7 x10 x12 x13 x14 x15 x16 x17 x18 t0)) ∧ ((¬ x17 ≤ 0) → (((4 ≤ x17) → (wJ_L_law_584 (fun σ ρ x1 x4 x5 x6 x7 x10 x12 x13 x14 x15 x16 x17 x18 t0 t1 => (wJ_L_law_585 k465 σ ρ x1 x4 x5 x6 x7 x10 x12 x13 x14 x15 x16 x17 x18 t0 t1)) σ ρ x1 x4 x5 x6 x7 x10 x12 x13 x14 x15 x16 x17 x18 t0)) ∧ ((¬ 4 ≤ x17) → (wJ_L_law_585 k465 σ ρ x1 x4 x5 x6 x7 x10 x12 x13 x14 x15 x16 x17 x18 t0 1)))))
def wJ_L_law_556 (k465 : nk_C → lk_R → Int32 → Int32 → Int32 → Int32 → Int32 → Int64 → Int32 → Int32 → Int32 → Int32 → Int32 → Prop) (σ : nk_C) (ρ : lk_R) (x1 : Int32) (x4 : Int32) (x5 : Int32) (x6 : Int32) (x7 : Int32) (x10 : Int64) (x12 : Int32) (x13 : Int32) (x14 : Int32) (x15 : Int32) (x16 : Int32) (x17 : Int32) (x18 : Int32) (t0 : Int32) (t1 : Int32) : Prop := (((¬ t0 = t1) → (False)) ∧ ((t0 = t1) → (((x18 < 0) → (wJ_L_law_569 k465 σ ρ x1 x4 x5 x6 x7 x10 x12 x13 x14 x15 x16 x17 x18 0)) ∧ ((¬ x18 < 0) → (wJ_L_law_569 k465 σ ρ x1 x4 x5 x6 x7 x10 x12 x13 x14 x15 x16 x17 x18 1)))))
def wJ_L_law_529 (k465 : nk_C → lk_R → Int32 → Int32 → Int32 → Int32 → Int32 → Int64 → Int32 → Int32 → Int32 → Int32 → Int32 → Prop) (σ : nk_C) (ρ : lk_R) (x1 : Int32) (x4 : Int32) (x5 : Int32) (x6 : Int32) (x7 : Int32) (x10 : Int64) (x13 : Int32) (x14 : Int32) (x15 : Int32) (x16 : Int32) (x17 : Int32) (x18 : Int32) (x19 : Int32) (t0 : Int32) (t1 : Int32) : Prop := (w_X8_who σ.1 x15 x16 (fun r539 s539 => ((¬ ((r539 >>> (x14 &&& 31)) &&& 1) = 1) → (wJ_L_law_556 k465 (s539, σ.2) ρ x1 x4 x5 x6 x7 x10 (t0 + t1) x13 x14 x15 x16 x17 x18 x19 0)) ∧ ((((r539 >>> (x14 &&& 31)) &&& 1) = 1) → (wJ_L_law_556 k465 (s539, σ.2) ρ x1 x4 x5 x6 x7 x10 (t0 + t1) x13 x14 x15 x16 x17 x18 x19 1))))
def wJ_L_law_515 (k465 : nk_C → lk_R → Int32 → Int32 → Int32 → Int32 → Int32 → Int64 → Int32 → Int32 → Int32 → Int32 → Int32 → Prop) (σ : nk_C) (ρ : lk_R) (x1 : Int32) (x4 : Int32) (x5 : Int32) (x6 : Int32) (x7 : Int32) (x10 : Int64) (x12 : Int32) (x13 : Int32) (x14 : Int32) (x15 : Int32) (x16 : Int32) (x17 : Int32) (x18 : Int32) (t0 : Int32) : Prop := (((t0 = 0) → (wJ_L_law_529 k465 σ ρ x1 x4 x5 x6 x7 x10 x13 x14 x15 x16 x17 x18 t0 x12 0)) ∧ ((¬ t0 = 0) → (wJ_L_law_529 k465 σ ρ x1 x4 x5 x6 x7 x10 x13 x14 x15 x16 x17 x18 t0 x12 1)))
def wL_L_law_465 (k704 : nk_C → lk_R → Int32 → Int32 → Int32 → Int32 → Int32 → Int64 → Int32 → Int32 → Int32 → Int32 → Prop) : Nat → nk_C → lk_R → Int32 → Int32 → Int32 → Int32 → Int32 → Int64 → Int32 → Int32 → Int32 → Int32 → Int32 → Prop
  | 0 => fun _ _ _ _ _ _ _ _ _ _ _ _ _ => False
  | n + 1 => fun σ ρ x1 x4 x5 x6 x7 x10 x12 x13 x14 x15 x16 => ((((σ.2.2 12) ≤ x16) → (k704 σ ρ x1 x4 x5 x6 x7 x10 x12 x13 x14 x15)) ∧ ((¬ (σ.2.2 12) ≤ x16) → (w_X8_decide σ.1 x14 x15 x16 (fun r481 s481 => w_X8_why (s481, σ.2).1 x14 x15 x16 (fun r493 s493 => ((r481 = 1) → (wJ_L_law_510 (fun σ ρ x1 x4 x5 x6 x7 x10 x12 x13 x14 x15 x16 x17 x18 t0 => (wJ_L_law_515 (fun σ ρ x1 x4 x5 x6 x7 x10 x12 x13 x14 x15 x16 => wL_L_law_465 k704 n σ ρ x1 x4 x5 x6 x7 x10 x12 x13 x14 x15 x16) σ ρ x1 x4 x5 x6 x7 x10 x12 x13 x14 x15 x16 x17 x18 t0)) (s493, (s481, σ.2).2) ρ x1 x4 x5 x6 x7 x10 x12 x13 x14 x15 x16 r481 r493)) ∧ ((¬ r481 = 1) → (((¬ r481 = 3) → (wJ_L_law_515 (fun σ ρ x1 x4 x5 x6 x7 x10 x12 x13 x14 x15 x16 => wL_L_law_465 k704 n σ ρ x1 x4 x5 x6 x7 x10 x12 x13 x14 x15 x16) (s493, (s481, σ.2).2) ρ x1 x4 x5 x6 x7 x10 x12 x13 x14 x15 x16 r481 r493 0)) ∧ ((r481 = 3) → (wJ_L_law_510 (fun σ ρ x1 x4 x5 x6 x7 x10 x12 x13 x14 x15 x16 x17 x18 t0 => (wJ_L_law_515 (fun σ ρ x1 x4 x5 x6 x7 x10 x12 x13 x14 x15 x16 => wL_L_law_465 k704 n σ ρ x1 x4 x5 x6 x7 x10 x12 x13 x14 x15 x16) σ ρ x1 x4 x5 x6 x7 x10 x12 x13 x14 x15 x16 x17 x18 t0)) (s493, (s481, σ.2).2) ρ x1 x4 x5 x6 x7 x10 x12 x13 x14 x15 x16 r481 r493)))))))))
def wL_L_law_443 (k710 : nk_C → lk_R → Int32 → Int32 → Int32 → Int32 → Int32 → Int64 → Int32 → Int32 → Int32 → Prop) : Nat → nk_C → lk_R → Int32 → Int32 → Int32 → Int32 → Int32 → Int64 → Int32 → Int32 → Int32 → Int32 → Prop
  | 0 => fun _ _ _ _ _ _ _ _ _ _ _ _ => False
  | n + 1 => fun σ ρ x1 x4 x5 x6 x7 x10 x12 x13 x14 x15 => (((5 ≤ x15) → (k710 σ ρ x1 x4 x5 x6 x7 x10 x12 x13 x14)) ∧ ((¬ 5 ≤ x15) → (w_X8_reach σ.1 x14 x15 (fun r456 s456 => ∃ n465, wL_L_law_465 (fun σ ρ x1 x4 x5 x6 x7 x10 x12 x13 x14 x15 => (wL_L_law_443 k710 n σ ρ x1 x4 x5 x6 x7 x10 x12 x13 x14 (x15 + 1))) n465 (s456, σ.2) ρ x1 x4 x5 x6 x7 x10 x12 (x13 + r456) x14 x15 0))))
def wL_L_law_360 (k716 : nk_C → lk_R → Int32 → Int32 → Int32 → Int32 → Int32 → Int64 → Int32 → Int32 → Prop) : Nat → nk_C → lk_R → Int32 → Int32 → Int32 → Int32 → Int32 → Int64 → Int32 → Int32 → Int32 → Prop
  | 0 => fun _ _ _ _ _ _ _ _ _ _ _ => False
  | n + 1 => fun σ ρ x1 x4 x5 x6 x7 x10 x12 x13 x14 => ((((σ.2.2 5) ≤ x14) → (k716 σ ρ x1 x4 x5 x6 x7 x10 x12 x13)) ∧ ((¬ (σ.2.2 5) ≤ x14) → (∃ n372, wL_L_law_372 (fun σ ρ x1 x4 x5 x6 x7 x10 x12 x13 x14 => (∃ n443, wL_L_law_443 (fun σ ρ x1 x4 x5 x6 x7 x10 x12 x13 x14 => (wL_L_law_360 k716 n σ ρ x1 x4 x5 x6 x7 x10 x12 x13 (x14 + 1))) n443 σ ρ x1 x4 x5 x6 x7 x10 x12 x13 x14 0)) n372 σ ρ x1 x4 x5 x6 x7 x10 x12 x13 x14 0)))
def wJ_L_law_346 (k716 : nk_C → lk_R → Int32 → Int32 → Int32 → Int32 → Int32 → Int64 → Int32 → Int32 → Prop) (σ : nk_C) (ρ : lk_R) (x1 : Int32) (x4 : Int32) (x5 : Int32) (x6 : Int32) (x7 : Int32) (x10 : Int64) (t0 : Int32) (t1 : Int32) : Prop := (((t0 = t1) → (∃ n360, wL_L_law_360 k716 n360 σ ρ x1 x4 x5 x6 x7 x10 0 0 0)) ∧ ((¬ t0 = t1) → (False)))
def wJ_L_law_328 (k716 : nk_C → lk_R → Int32 → Int32 → Int32 → Int32 → Int32 → Int64 → Int32 → Int32 → Prop) (σ : nk_C) (ρ : lk_R) (x1 : Int32) (x4 : Int32) (x5 : Int32) (x6 : Int32) (x7 : Int32) (x10 : Int64) (t0 : Int32) : Prop := (w_X8_rolesNeeded σ.1 x5 x6 x7 (fun r335 s335 => ((¬ r335 = 0) → (wJ_L_law_346 k716 (s335, σ.2) ρ x1 x4 x5 x6 x7 x10 t0 0)) ∧ ((r335 = 0) → (wJ_L_law_346 k716 (s335, σ.2) ρ x1 x4 x5 x6 x7 x10 t0 1))))
def wJ_L_law_288 (k716 : nk_C → lk_R → Int32 → Int32 → Int32 → Int32 → Int32 → Int64 → Int32 → Int32 → Prop) (σ : nk_C) (ρ : lk_R) (x1 : Int32) (x4 : Int32) (x5 : Int32) (x6 : Int32) (x7 : Int32) (t0 : Int32) (t1 : Int32) : Prop := (((t0 = t1) → (w_X8_decide σ.1 x5 x6 x7 (fun r300 s300 => w_X8_digest (s300, σ.2).1 (fun r306 s306 => ((r300 = 1) → (wJ_L_law_323 (fun σ ρ x1 x4 x5 x6 x7 x10 t0 => (wJ_L_law_328 k716 σ ρ x1 x4 x5 x6 x7 x10 t0)) (s306, (s300, σ.2).2) ρ x1 x4 x5 x6 x7 r306)) ∧ ((¬ r300 = 1) → (((¬ r300 = 3) → (wJ_L_law_328 k716 (s306, (s300, σ.2).2) ρ x1 x4 x5 x6 x7 r306 0)) ∧ ((r300 = 3) → (wJ_L_law_323 (fun σ ρ x1 x4 x5 x6 x7 x10 t0 => (wJ_L_law_328 k716 σ ρ x1 x4 x5 x6 x7 x10 t0)) (s306, (s300, σ.2).2) ρ x1 x4 x5 x6 x7 r306)))))))) ∧ ((¬ t0 = t1) → (False)))
def wJ_L_law_266 (k716 : nk_C → lk_R → Int32 → Int32 → Int32 → Int32 → Int32 → Int64 → Int32 → Int32 → Prop) (σ : nk_C) (ρ : lk_R) (x1 : Int32) (x4 : Int32) (x5 : Int32) (x6 : Int32) (x7 : Int32) (x8 : Int32) (x9 : Int32) (t0 : Int32) : Prop := (((¬ x9 = 0) → (wJ_L_law_283 (fun σ ρ x1 x4 x5 x6 x7 t0 t1 => (wJ_L_law_288 k716 σ ρ x1 x4 x5 x6 x7 t0 t1)) σ ρ x1 x4 x5 x6 x7 t0)) ∧ ((x9 = 0) → (((x8 = 1) → (wJ_L_law_283 (fun σ ρ x1 x4 x5 x6 x7 t0 t1 => (wJ_L_law_288 k716 σ ρ x1 x4 x5 x6 x7 t0 t1)) σ ρ x1 x4 x5 x6 x7 t0)) ∧ ((¬ x8 = 1) → (((¬ x8 = 3) → (wJ_L_law_288 k716 σ ρ x1 x4 x5 x6 x7 t0 0)) ∧ ((x8 = 3) → (wJ_L_law_283 (fun σ ρ x1 x4 x5 x6 x7 t0 t1 => (wJ_L_law_288 k716 σ ρ x1 x4 x5 x6 x7 t0 t1)) σ ρ x1 x4 x5 x6 x7 t0)))))))
def wJ_L_law_227 (k716 : nk_C → lk_R → Int32 → Int32 → Int32 → Int32 → Int32 → Int64 → Int32 → Int32 → Prop) (σ : nk_C) (ρ : lk_R) (x1 : Int32) (x4 : Int32) (x5 : Int32) (x6 : Int32) (x7 : Int32) (x8 : Int32) (t0 : Int32) : Prop := (w_X8_access σ.1 x5 x6 x7 (fun r236 s236 => ((¬ r236 = x8) → (False)) ∧ ((r236 = x8) → (w_X8_done (s236, σ.2).1 x5 x7 (fun r249 => ((¬ ((r249 >>> (x6 &&& 31)) &&& 1) = 1) → (wJ_L_law_266 k716 (s236, σ.2) ρ x1 x4 x5 x6 x7 x8 t0 0)) ∧ ((((r249 >>> (x6 &&& 31)) &&& 1) = 1) → (wJ_L_law_266 k716 (s236, σ.2) ρ x1 x4 x5 x6 x7 x8 t0 1)))))))
def wJ_L_law_156 (k716 : nk_C → lk_R → Int32 → Int32 → Int32 → Int32 → Int32 → Int64 → Int32 → Int32 → Prop) (σ : nk_C) (ρ : lk_R) (x1 : Int32) (x4 : Int32) (x5 : Int32) (x6 : Int32) (x7 : Int32) : Prop := (w_X8_goOn (nk_s σ 3 ((σ.2.2 3) + 40)).1 40 (fun r170 s170 => w_X9_draw (s170, (nk_s σ 3 ((σ.2.2 3) + 40)).2) 3 (fun r179 σ179 => w_X9_draw σ179 2 (fun r186 σ186 => w_X8_setWall σ186.1 x7 (r179 - 1) r186 (fun r189 s189 => w_X8_decide (s189, σ186.2).1 x5 x6 x7 (fun r200 s200 => w_X8_done (s200, (s189, σ186.2).2).1 x5 x7 (fun r210 => ((¬ ((r210 >>> (x6 &&& 31)) &&& 1) = 1) → (wJ_L_law_227 k716 (s200, (s189, σ186.2).2) ρ x1 x4 x5 x6 x7 r200 0)) ∧ ((((r210 >>> (x6 &&& 31)) &&& 1) = 1) → (wJ_L_law_227 k716 (s200, (s189, σ186.2).2) ρ x1 x4 x5 x6 x7 r200 1)))))))))
def wJ_L_law_84 (k716 : nk_C → lk_R → Int32 → Int32 → Int32 → Int32 → Int32 → Int64 → Int32 → Int32 → Prop) (σ : nk_C) (ρ : lk_R) (x1 : Int32) (x4 : Int32) : Prop := (w_X9_draw σ (σ.2.2 5) (fun r89 σ89 => w_X9_draw σ89 5 (fun r96 σ96 => w_X9_draw σ96 (σ96.2.2 12) (fun r106 σ106 => w_X9_draw σ106 3 (fun r113 σ113 => ((¬ r113 = 0) → (w_X9_draw σ113 2 (fun r131 σ131 => ((¬ r131 = 0) → (∀ g : Nat → Option Nat, w_X9_addGrant σ131 g (fun r σ1 g1 q f => ∃ i : Nat, g1 = va_up g i (some q) ∧ (fun r148 σ148 N148 => (((¬ r148 = 0) → (wJ_L_law_156 k716 σ148 (ρ.1, N148) x1 x4 r89 r96 r106)) ∧ ((r148 = 0) → (False)))) r σ1 (va_up ρ.2 i (some f))))) ∧ ((r131 = 0) → (∀ g : Nat → Option Nat, w_X9_addRule σ131 g (fun r σ1 g1 q f => ∃ i : Nat, g1 = va_up g i (some q) ∧ (fun r138 σ138 N138 => (((r138 = 0) → (False)) ∧ ((¬ r138 = 0) → (wJ_L_law_156 k716 σ138 (N138, ρ.2) x1 x4 r89 r96 r106)))) r σ1 (va_up ρ.1 i (some f)))))))) ∧ ((r113 = 0) → (w_X9_bind σ113 (fun r120 σ120 => ((r120 = 0) → (False)) ∧ ((¬ r120 = 0) → (wJ_L_law_156 k716 σ120 ρ x1 x4 r89 r96 r106))))))))))
set_option maxHeartbeats 4000000 in
set_option maxRecDepth 100000 in
theorem tJ_L_law_283 {p : Program} {l : Launch} {e : Env} {s : State} {m : MethodId} {args : Array Value} {below : List Frame} {meth : Method} {c : Code} {D : va_G} {cI cZ cG cL : ClassId} {ad am : Nat → Nat} {q1 q2 q3 b0 L : Nat} {xs : Nat → Int32} (C0 : gk_F p s m args meth c cL_law 20 (some .boolean) RL) (hK : gk_K D cI cZ cG cL s) (hZ : nk_Z q1 q2 q3 b0 L xs (lo_A s.heap.size) s s.heap) (hfl : l.stackTraces = false) (hAA : lk_D s.heap.size ad am) {rc rs kc ks : Nat} (hrc : rc + 3 ≤ kc) (hrs : rs + 18 ≤ ks) (hkc : kc ≤ 600074) (hks : ks ≤ 7301550) {Q : State → Prop} {k288 : nk_C → lk_R → Int32 → Int32 → Int32 → Int32 → Int32 → Int32 → Int32 → Prop} (hk288 : ∀ (σ : nk_C) (ρ : lk_R) (x1 : Int32) (x4 : Int32) (x5 : Int32) (x6 : Int32) (x7 : Int32) (t0 : Int32) (t1 : Int32), k288 σ ρ x1 x4 x5 x6 x7 t0 t1 → ∀ (H : Heap) (locs : List Loc), nk_W D cI cZ cL ad am b0 σ H → rk_W D cI cG ad am ρ H → va_S (lo_A s.heap.size) s.heap H locs → ∀ (ls : Array Slot), lv_has ls 20 [(0, .ref b0), (1, .int x1), (2, .ref (am 0)), (3, .ref (ad 0)), (4, .int x4), (5, .int x5), (6, .int x6), (7, .int x7)] → W p l e room_1 s m args below meth c H locs (rc + 3) (rs + 18) Q (F0 m 288 ls [.int t1, .int t0])) : ∀ (σ : nk_C) (ρ : lk_R) (x1 : Int32) (x4 : Int32) (x5 : Int32) (x6 : Int32) (x7 : Int32) (t0 : Int32), wJ_L_law_283 k288 σ ρ x1 x4 x5 x6 x7 t0 → ∀ (H : Heap) (locs : List Loc), nk_W D cI cZ cL ad am b0 σ H → rk_W D cI cG ad am ρ H → va_S (lo_A s.heap.size) s.heap H locs → ∀ (ls : Array Slot), lv_has ls 20 [(0, .ref b0), (1, .int x1), (2, .ref (am 0)), (3, .ref (ad 0)), (4, .int x4), (5, .int x5), (6, .int x6), (7, .int x7)] → W p l e room_1 s m args below meth c H locs (rc + 3) (rs + 18) Q (F0 m 283 ls [.int t0]) := by
  obtain ⟨hx, hb, hml, hown, hts, hr, hlocks⟩ := id C0
  intro σ ρ x1 x4 x5 x6 x7 t0 hw H locs hW hR hS  ls hl
  refine lv_iconst (v := 1) hx hb dL_law_283 (by decide) ?_
  refine lv_goto (tgt := 288) hx hb dL_law_284 (by decide) ?_
  exact hk288 σ ρ x1 x4 x5 x6 x7 t0 1 hw _ _ hW hR hS  _ hl
set_option maxHeartbeats 4000000 in
set_option maxRecDepth 100000 in
theorem tJ_L_law_323 {p : Program} {l : Launch} {e : Env} {s : State} {m : MethodId} {args : Array Value} {below : List Frame} {meth : Method} {c : Code} {D : va_G} {cI cZ cG cL : ClassId} {ad am : Nat → Nat} {q1 q2 q3 b0 L : Nat} {xs : Nat → Int32} (C0 : gk_F p s m args meth c cL_law 20 (some .boolean) RL) (hK : gk_K D cI cZ cG cL s) (hZ : nk_Z q1 q2 q3 b0 L xs (lo_A s.heap.size) s s.heap) (hfl : l.stackTraces = false) (hAA : lk_D s.heap.size ad am) {rc rs kc ks : Nat} (hrc : rc + 3 ≤ kc) (hrs : rs + 18 ≤ ks) (hkc : kc ≤ 600074) (hks : ks ≤ 7301550) {Q : State → Prop} {k328 : nk_C → lk_R → Int32 → Int32 → Int32 → Int32 → Int32 → Int64 → Int32 → Prop} (hk328 : ∀ (σ : nk_C) (ρ : lk_R) (x1 : Int32) (x4 : Int32) (x5 : Int32) (x6 : Int32) (x7 : Int32) (x10 : Int64) (t0 : Int32), k328 σ ρ x1 x4 x5 x6 x7 x10 t0 → ∀ (H : Heap) (locs : List Loc), nk_W D cI cZ cL ad am b0 σ H → rk_W D cI cG ad am ρ H → va_S (lo_A s.heap.size) s.heap H locs → ∀ (ls : Array Slot), lv_has ls 20 [(0, .ref b0), (1, .int x1), (2, .ref (am 0)), (3, .ref (ad 0)), (4, .int x4), (5, .int x5), (6, .int x6), (7, .int x7), (10, .long x10)] → W p l e room_1 s m args below meth c H locs (rc + 3) (rs + 18) Q (F0 m 328 ls [.int t0])) : ∀ (σ : nk_C) (ρ : lk_R) (x1 : Int32) (x4 : Int32) (x5 : Int32) (x6 : Int32) (x7 : Int32) (x10 : Int64), wJ_L_law_323 k328 σ ρ x1 x4 x5 x6 x7 x10 → ∀ (H : Heap) (locs : List Loc), nk_W D cI cZ cL ad am b0 σ H → rk_W D cI cG ad am ρ H → va_S (lo_A s.heap.size) s.heap H locs → ∀ (ls : Array Slot), lv_has ls 20 [(0, .ref b0), (1, .int x1), (2, .ref (am 0)), (3, .ref (ad 0)), (4, .int x4), (5, .int x5), (6, .int x6), (7, .int x7), (10, .long x10)] → W p l e room_1 s m args below meth c H locs (rc + 3) (rs + 18) Q (F0 m 323 ls []) := by
  obtain ⟨hx, hb, hml, hown, hts, hr, hlocks⟩ := id C0
  intro σ ρ x1 x4 x5 x6 x7 x10 hw H locs hW hR hS  ls hl
  refine lv_iconst (v := 1) hx hb dL_law_323 (by decide) ?_
  refine lv_goto (tgt := 328) hx hb dL_law_324 (by decide) ?_
  exact hk328 σ ρ x1 x4 x5 x6 x7 x10 1 hw _ _ hW hR hS  _ hl
set_option maxHeartbeats 4000000 in
set_option maxRecDepth 100000 in
theorem tL_L_law_384 {p : Program} {l : Launch} {e : Env} {s : State} {m : MethodId} {args : Array Value} {below : List Frame} {meth : Method} {c : Code} {D : va_G} {cI cZ cG cL : ClassId} {ad am : Nat → Nat} {q1 q2 q3 b0 L : Nat} {xs : Nat → Int32} (C0 : gk_F p s m args meth c cL_law 20 (some .boolean) RL) (hK : gk_K D cI cZ cG cL s) (hZ : nk_Z q1 q2 q3 b0 L xs (lo_A s.heap.size) s s.heap) (hfl : l.stackTraces = false) (hAA : lk_D s.heap.size ad am) {rc rs kc ks : Nat} (hrc : rc + 3 ≤ kc) (hrs : rs + 18 ≤ ks) (hkc : kc ≤ 600074) (hks : ks ≤ 7301550) {Q : State → Prop} {k434 : nk_C → lk_R → Int32 → Int32 → Int32 → Int32 → Int32 → Int64 → Int32 → Int32 → Int32 → Int32 → Prop} (hk434 : ∀ (σ : nk_C) (ρ : lk_R) (x1 : Int32) (x4 : Int32) (x5 : Int32) (x6 : Int32) (x7 : Int32) (x10 : Int64) (x12 : Int32) (x13 : Int32) (x14 : Int32) (x15 : Int32), k434 σ ρ x1 x4 x5 x6 x7 x10 x12 x13 x14 x15 → ∀ (H : Heap) (locs : List Loc), nk_W D cI cZ cL ad am b0 σ H → rk_W D cI cG ad am ρ H → va_S (lo_A s.heap.size) s.heap H locs → ∀ (ls : Array Slot), lv_has ls 20 [(0, .ref b0), (1, .int x1), (2, .ref (am 0)), (3, .ref (ad 0)), (4, .int x4), (5, .int x5), (6, .int x6), (7, .int x7), (10, .long x10), (12, .int x12), (13, .int x13), (14, .int x14), (15, .int x15)] → W p l e room_1 s m args below meth c H locs (rc + 3) (rs + 18) Q (F0 m 434 ls [])) : ∀ (n : Nat) (σ : nk_C) (ρ : lk_R) (x1 : Int32) (x4 : Int32) (x5 : Int32) (x6 : Int32) (x7 : Int32) (x10 : Int64) (x12 : Int32) (x13 : Int32) (x14 : Int32) (x15 : Int32) (x16 : Int32), wL_L_law_384 k434 n σ ρ x1 x4 x5 x6 x7 x10 x12 x13 x14 x15 x16 → ∀ (H : Heap) (locs : List Loc), nk_W D cI cZ cL ad am b0 σ H → rk_W D cI cG ad am ρ H → va_S (lo_A s.heap.size) s.heap H locs → ∀ (ls : Array Slot), lv_has ls 20 [(0, .ref b0), (1, .int x1), (2, .ref (am 0)), (3, .ref (ad 0)), (4, .int x4), (5, .int x5), (6, .int x6), (7, .int x7), (10, .long x10), (12, .int x12), (13, .int x13), (14, .int x14), (15, .int x15), (16, .int x16)] → W p l e room_1 s m args below meth c H locs (rc + 3) (rs + 18) Q (F0 m 384 ls []) := by
  obtain ⟨hx, hb, hml, hown, hts, hr, hlocks⟩ := id C0
  intro n
  induction n with
  | zero => exact fun _ _ _ _ _ _ _ _ _ _ _ _ _ hw => False.elim hw
  | succ n ih =>
    intro σ ρ x1 x4 x5 x6 x7 x10 x12 x13 x14 x15 x16 hw H locs hW hR hS  ls hl
    refine lv_iload hx hb dL_law_384 (lv_at hl 13 rfl) ?_
    refine lv_iload hx hb dL_law_386 (lv_at hl 12 rfl) ?_
    refine lv_icmp_ge (tgt := 434) hx hb dL_law_388 (by decide) (fun c388 => ?_) (fun c388 => ?_)
    · have hw := hw.1 c388
      exact hk434 σ ρ x1 x4 x5 x6 x7 x10 x12 x13 x14 x15 hw _ _ hW hR hS  _ (lv_sub hl [0, 1, 2, 3, 4, 5, 6, 7, 8, 9, 10, 11, 12] rfl)
    · have hw := hw.2 c388
      refine lv_aload_n hx hb dL_law_391 rfl (lv_at hl 2 rfl) ?_
      refine gk_get hx hb hts iwX9 hown hK.1 (nk_obj hW) rfl 11 (by decide) (hts _ fl_L_75) (fun _ h9 => h9) rfl dL_law_392 ?_
      refine lv_iload hx hb dL_law_395 (lv_at hl 12 rfl) ?_
      obtain ⟨hin, hw⟩ := hw
      refine nk_aalz hx hb hK (nk_o11 hW) hin (by decide) dL_law_397 (fun hz397 => ?_)
      refine lv_iload hx hb dL_law_398 (lv_at hl 13 rfl) ?_
      obtain ⟨hin, hw⟩ := hw
      refine gk_zald hx hb hK.1 1 (nk_zr hW hz397) rfl hin dL_law_400 ?_
      refine lv_if_eq (tgt := 428) hx hb dL_law_401 (by decide) (fun c401 => ?_) (fun c401 => ?_)
      · have hw := hw.1 c401
        refine lv_iinc (v := (x16 + 1)) (lv' := [(16, .int (x16 + 1)), (0, .ref b0), (1, .int x1), (2, .ref (am 0)), (3, .ref (ad 0)), (4, .int x4), (5, .int x5), (6, .int x6), (7, .int x7), (10, .long x10), (12, .int x12), (13, .int x13), (14, .int x14), (15, .int x15)]) hx hb dL_law_428 hl (k := 13) rfl rfl (by decide) rfl (fun ls hl => ?_)
        refine lv_goto (tgt := 384) hx hb dL_law_431 (by decide) ?_
        exact ih σ ρ x1 x4 x5 x6 x7 x10 x12 x13 x14 x15 (x16 + 1) hw _ _ hW hR hS  _ (lv_sub hl [1, 2, 3, 4, 5, 6, 7, 8, 9, 10, 11, 12, 13, 0] rfl)
      · have hw := hw.2 c401
        refine lv_aload_n hx hb dL_law_404 rfl (lv_at hl 3 rfl) ?_
        refine lv_iload hx hb dL_law_405 (lv_at hl 11 rfl) ?_
        refine lv_iload hx hb dL_law_407 (lv_at hl 12 rfl) ?_
        refine nk_gRi ⟨hx, hb, hml, hown, hts⟩ (c_X8_near l D cI cZ cG cL ad hw) (cwV 2 hts (gk_gV ml_L_79 im_X8_near se_X8_near in_X8 co_X8_near) rfl rfl rfl (by decide +kernel) ⟨Nat.le_of_ble_eq_true rfl, Nat.le_of_ble_eq_true rfl⟩) (gk_recv hK.1 (gk_o0 hW.1) rfl) hW hK hS (hAA.up hS.1) rfl hl.1 (rest := []) rfl (lv_room (Nat.le_of_ble_eq_true rfl)) dL_law_409 ⟨by show _ ≤ 600074; omega, by show _ ≤ 7301550; omega⟩ (fun r409 H locs hw hW _ hk hS => ?_)
        have hR := hR.gate hk
        refine lv_if_lt (tgt := 428) hx hb dL_law_412 (by decide) (fun c412 => ?_) (fun c412 => ?_)
        · have hw := hw.1 c412
          refine lv_iinc (v := (x16 + 1)) (lv' := [(16, .int (x16 + 1)), (0, .ref b0), (1, .int x1), (2, .ref (am 0)), (3, .ref (ad 0)), (4, .int x4), (5, .int x5), (6, .int x6), (7, .int x7), (10, .long x10), (12, .int x12), (13, .int x13), (14, .int x14), (15, .int x15)]) hx hb dL_law_428 hl (k := 13) rfl rfl (by decide) rfl (fun ls hl => ?_)
          refine lv_goto (tgt := 384) hx hb dL_law_431 (by decide) ?_
          exact ih σ ρ x1 x4 x5 x6 x7 x10 x12 x13 x14 x15 (x16 + 1) hw _ _ hW hR hS  _ (lv_sub hl [1, 2, 3, 4, 5, 6, 7, 8, 9, 10, 11, 12, 13, 0] rfl)
        · have hw := hw.2 c412
          refine lv_aload_n hx hb dL_law_415 rfl (lv_at hl 3 rfl) ?_
          refine lv_iload hx hb dL_law_416 (lv_at hl 11 rfl) ?_
          refine lv_iload hx hb dL_law_418 (lv_at hl 13 rfl) ?_
          refine nk_gRi ⟨hx, hb, hml, hown, hts⟩ (c_X8_near l D cI cZ cG cL ad hw) (cwV 2 hts (gk_gV ml_L_79 im_X8_near se_X8_near in_X8 co_X8_near) rfl rfl rfl (by decide +kernel) ⟨Nat.le_of_ble_eq_true rfl, Nat.le_of_ble_eq_true rfl⟩) (gk_recv hK.1 (gk_o0 hW.1) rfl) hW hK hS (hAA.up hS.1) rfl hl.1 (rest := []) rfl (lv_room (Nat.le_of_ble_eq_true rfl)) dL_law_420 ⟨by show _ ≤ 600074; omega, by show _ ≤ 7301550; omega⟩ (fun r420 H locs hw hW _ hk hS => ?_)
          have hR := hR.gate hk
          refine lv_if_lt (tgt := 428) hx hb dL_law_423 (by decide) (fun c423 => ?_) (fun c423 => ?_)
          · have hw := hw.1 c423
            refine lv_iinc (v := (x16 + 1)) (lv' := [(16, .int (x16 + 1)), (0, .ref b0), (1, .int x1), (2, .ref (am 0)), (3, .ref (ad 0)), (4, .int x4), (5, .int x5), (6, .int x6), (7, .int x7), (10, .long x10), (12, .int x12), (13, .int x13), (14, .int x14), (15, .int x15)]) hx hb dL_law_428 hl (k := 13) rfl rfl (by decide) rfl (fun ls hl => ?_)
            refine lv_goto (tgt := 384) hx hb dL_law_431 (by decide) ?_
            exact ih σ ρ x1 x4 x5 x6 x7 x10 x12 x13 x14 x15 (x16 + 1) hw _ _ hW hR hS  _ (lv_sub hl [1, 2, 3, 4, 5, 6, 7, 8, 9, 10, 11, 12, 13, 0] rfl)
          · have hw := hw.2 c423
            refine lv_iconst (v := 0) hx hb dL_law_426 (by decide) ?_
            exact False.elim hw
set_option maxHeartbeats 4000000 in
set_option maxRecDepth 100000 in
theorem tL_L_law_372 {p : Program} {l : Launch} {e : Env} {s : State} {m : MethodId} {args : Array Value} {below : List Frame} {meth : Method} {c : Code} {D : va_G} {cI cZ cG cL : ClassId} {ad am : Nat → Nat} {q1 q2 q3 b0 L : Nat} {xs : Nat → Int32} (C0 : gk_F p s m args meth c cL_law 20 (some .boolean) RL) (hK : gk_K D cI cZ cG cL s) (hZ : nk_Z q1 q2 q3 b0 L xs (lo_A s.heap.size) s s.heap) (hfl : l.stackTraces = false) (hAA : lk_D s.heap.size ad am) {rc rs kc ks : Nat} (hrc : rc + 3 ≤ kc) (hrs : rs + 18 ≤ ks) (hkc : kc ≤ 600074) (hks : ks ≤ 7301550) {Q : State → Prop} {k440 : nk_C → lk_R → Int32 → Int32 → Int32 → Int32 → Int32 → Int64 → Int32 → Int32 → Int32 → Prop} (hk440 : ∀ (σ : nk_C) (ρ : lk_R) (x1 : Int32) (x4 : Int32) (x5 : Int32) (x6 : Int32) (x7 : Int32) (x10 : Int64) (x12 : Int32) (x13 : Int32) (x14 : Int32), k440 σ ρ x1 x4 x5 x6 x7 x10 x12 x13 x14 → ∀ (H : Heap) (locs : List Loc), nk_W D cI cZ cL ad am b0 σ H → rk_W D cI cG ad am ρ H → va_S (lo_A s.heap.size) s.heap H locs → ∀ (ls : Array Slot), lv_has ls 20 [(0, .ref b0), (1, .int x1), (2, .ref (am 0)), (3, .ref (ad 0)), (4, .int x4), (5, .int x5), (6, .int x6), (7, .int x7), (10, .long x10), (12, .int x12), (13, .int x13), (14, .int x14)] → W p l e room_1 s m args below meth c H locs (rc + 3) (rs + 18) Q (F0 m 440 ls [])) : ∀ (n : Nat) (σ : nk_C) (ρ : lk_R) (x1 : Int32) (x4 : Int32) (x5 : Int32) (x6 : Int32) (x7 : Int32) (x10 : Int64) (x12 : Int32) (x13 : Int32) (x14 : Int32) (x15 : Int32), wL_L_law_372 k440 n σ ρ x1 x4 x5 x6 x7 x10 x12 x13 x14 x15 → ∀ (H : Heap) (locs : List Loc), nk_W D cI cZ cL ad am b0 σ H → rk_W D cI cG ad am ρ H → va_S (lo_A s.heap.size) s.heap H locs → ∀ (ls : Array Slot), lv_has ls 20 [(0, .ref b0), (1, .int x1), (2, .ref (am 0)), (3, .ref (ad 0)), (4, .int x4), (5, .int x5), (6, .int x6), (7, .int x7), (10, .long x10), (12, .int x12), (13, .int x13), (14, .int x14), (15, .int x15)] → W p l e room_1 s m args below meth c H locs (rc + 3) (rs + 18) Q (F0 m 372 ls []) := by
  obtain ⟨hx, hb, hml, hown, hts, hr, hlocks⟩ := id C0
  intro n
  induction n with
  | zero => exact fun _ _ _ _ _ _ _ _ _ _ _ _ hw => False.elim hw
  | succ n ih =>
    intro σ ρ x1 x4 x5 x6 x7 x10 x12 x13 x14 x15 hw H locs hW hR hS  ls hl
    refine lv_iload hx hb dL_law_372 (lv_at hl 12 rfl) ?_
    refine lv_aload_n hx hb dL_law_374 rfl (lv_at hl 2 rfl) ?_
    refine gk_get hx hb hts iwX9 hown hK.1 (nk_obj hW) rfl 9 (by decide) (hts _ fl_L_72) (fun _ h9 => h9) rfl dL_law_375 ?_
    refine lv_icmp_ge (tgt := 440) hx hb dL_law_378 (by decide) (fun c378 => ?_) (fun c378 => ?_)
    · have hw := hw.1 c378
      exact hk440 σ ρ x1 x4 x5 x6 x7 x10 x12 x13 x14 hw _ _ hW hR hS  _ (lv_sub hl [0, 1, 2, 3, 4, 5, 6, 7, 8, 9, 10, 11] rfl)
    · have hw := hw.2 c378
      refine lv_iconst (v := 0) hx hb dL_law_381 (by decide) ?_
      refine lv_istore (lv' := [(16, .int 0), (0, .ref b0), (1, .int x1), (2, .ref (am 0)), (3, .ref (ad 0)), (4, .int x4), (5, .int x5), (6, .int x6), (7, .int x7), (10, .long x10), (12, .int x12), (13, .int x13), (14, .int x14), (15, .int x15)]) hx hb dL_law_382 hl (by decide) rfl (fun ls hl => ?_)
      obtain ⟨n384, hw⟩ := hw
      refine tL_L_law_384 C0 hK hZ hfl hAA hrc hrs hkc hks (hk434 := ?_) n384 σ ρ x1 x4 x5 x6 x7 x10 x12 x13 x14 x15 0 hw _ _ hW hR hS  _ (lv_sub hl [1, 2, 3, 4, 5, 6, 7, 8, 9, 10, 11, 12, 13, 0] rfl)
      · intro σ ρ x1 x4 x5 x6 x7 x10 x12 x13 x14 x15 hw H locs hW hR hS  ls hl
        refine lv_iinc (v := (x15 + 1)) (lv' := [(15, .int (x15 + 1)), (0, .ref b0), (1, .int x1), (2, .ref (am 0)), (3, .ref (ad 0)), (4, .int x4), (5, .int x5), (6, .int x6), (7, .int x7), (10, .long x10), (12, .int x12), (13, .int x13), (14, .int x14)]) hx hb dL_law_434 hl (k := 12) rfl rfl (by decide) rfl (fun ls hl => ?_)
        refine lv_goto (tgt := 372) hx hb dL_law_437 (by decide) ?_
        exact ih σ ρ x1 x4 x5 x6 x7 x10 x12 x13 x14 (x15 + 1) hw _ _ hW hR hS  _ (lv_sub hl [1, 2, 3, 4, 5, 6, 7, 8, 9, 10, 11, 12, 0] rfl)
set_option maxHeartbeats 4000000 in
set_option maxRecDepth 100000 in
theorem tJ_L_law_510 {p : Program} {l : Launch} {e : Env} {s : State} {m : MethodId} {args : Array Value} {below : List Frame} {meth : Method} {c : Code} {D : va_G} {cI cZ cG cL : ClassId} {ad am : Nat → Nat} {q1 q2 q3 b0 L : Nat} {xs : Nat → Int32} (C0 : gk_F p s m args meth c cL_law 20 (some .boolean) RL) (hK : gk_K D cI cZ cG cL s) (hZ : nk_Z q1 q2 q3 b0 L xs (lo_A s.heap.size) s s.heap) (hfl : l.stackTraces = false) (hAA : lk_D s.heap.size ad am) {rc rs kc ks : Nat} (hrc : rc + 3 ≤ kc) (hrs : rs + 18 ≤ ks) (hkc : kc ≤ 600074) (hks : ks ≤ 7301550) {Q : State → Prop} {k515 : nk_C → lk_R → Int32 → Int32 → Int32 → Int32 → Int32 → Int64 → Int32 → Int32 → Int32 → Int32 → Int32 → Int32 → Int32 → Int32 → Prop} (hk515 : ∀ (σ : nk_C) (ρ : lk_R) (x1 : Int32) (x4 : Int32) (x5 : Int32) (x6 : Int32) (x7 : Int32) (x10 : Int64) (x12 : Int32) (x13 : Int32) (x14 : Int32) (x15 : Int32) (x16 : Int32) (x17 : Int32) (x18 : Int32) (t0 : Int32), k515 σ ρ x1 x4 x5 x6 x7 x10 x12 x13 x14 x15 x16 x17 x18 t0 → ∀ (H : Heap) (locs : List Loc), nk_W D cI cZ cL ad am b0 σ H → rk_W D cI cG ad am ρ H → va_S (lo_A s.heap.size) s.heap H locs → ∀ (ls : Array Slot), lv_has ls 20 [(0, .ref b0), (1, .int x1), (2, .ref (am 0)), (3, .ref (ad 0)), (4, .int x4), (5, .int x5), (6, .int x6), (7, .int x7), (10, .long x10), (12, .int x12), (13, .int x13), (14, .int x14), (15, .int x15), (16, .int x16), (17, .int x17), (18, .int x18)] → W p l e room_1 s m args below meth c H locs (rc + 3) (rs + 18) Q (F0 m 515 ls [.int t0])) : ∀ (σ : nk_C) (ρ : lk_R) (x1 : Int32) (x4 : Int32) (x5 : Int32) (x6 : Int32) (x7 : Int32) (x10 : Int64) (x12 : Int32) (x13 : Int32) (x14 : Int32) (x15 : Int32) (x16 : Int32) (x17 : Int32) (x18 : Int32), wJ_L_law_510 k515 σ ρ x1 x4 x5 x6 x7 x10 x12 x13 x14 x15 x16 x17 x18 → ∀ (H : Heap) (locs : List Loc), nk_W D cI cZ cL ad am b0 σ H → rk_W D cI cG ad am ρ H → va_S (lo_A s.heap.size) s.heap H locs → ∀ (ls : Array Slot), lv_has ls 20 [(0, .ref b0), (1, .int x1), (2, .ref (am 0)), (3, .ref (ad 0)), (4, .int x4), (5, .int x5), (6, .int x6), (7, .int x7), (10, .long x10), (12, .int x12), (13, .int x13), (14, .int x14), (15, .int x15), (16, .int x16), (17, .int x17), (18, .int x18)] → W p l e room_1 s m args below meth c H locs (rc + 3) (rs + 18) Q (F0 m 510 ls []) := by
  obtain ⟨hx, hb, hml, hown, hts, hr, hlocks⟩ := id C0
  intro σ ρ x1 x4 x5 x6 x7 x10 x12 x13 x14 x15 x16 x17 x18 hw H locs hW hR hS  ls hl
  refine lv_iconst (v := 1) hx hb dL_law_510 (by decide) ?_
  refine lv_goto (tgt := 515) hx hb dL_law_511 (by decide) ?_
  exact hk515 σ ρ x1 x4 x5 x6 x7 x10 x12 x13 x14 x15 x16 x17 x18 1 hw _ _ hW hR hS  _ hl
set_option maxHeartbeats 4000000 in
set_option maxRecDepth 100000 in
theorem tJ_L_law_584 {p : Program} {l : Launch} {e : Env} {s : State} {m : MethodId} {args : Array Value} {below : List Frame} {meth : Method} {c : Code} {D : va_G} {cI cZ cG cL : ClassId} {ad am : Nat → Nat} {q1 q2 q3 b0 L : Nat} {xs : Nat → Int32} (C0 : gk_F p s m args meth c cL_law 20 (some .boolean) RL) (hK : gk_K D cI cZ cG cL s) (hZ : nk_Z q1 q2 q3 b0 L xs (lo_A s.heap.size) s s.heap) (hfl : l.stackTraces = false) (hAA : lk_D s.heap.size ad am) {rc rs kc ks : Nat} (hrc : rc + 3 ≤ kc) (hrs : rs + 18 ≤ ks) (hkc : kc ≤ 600074) (hks : ks ≤ 7301550) {Q : State → Prop} {k585 : nk_C → lk_R → Int32 → Int32 → Int32 → Int32 → Int32 → Int64 → Int32 → Int32 → Int32 → Int32 → Int32 → Int32 → Int32 → Int32 → Int32 → Prop} (hk585 : ∀ (σ : nk_C) (ρ : lk_R) (x1 : Int32) (x4 : Int32) (x5 : Int32) (x6 : Int32) (x7 : Int32) (x10 : Int64) (x12 : Int32) (x13 : Int32) (x14 : Int32) (x15 : Int32) (x16 : Int32) (x17 : Int32) (x18 : Int32) (t0 : Int32) (t1 : Int32), k585 σ ρ x1 x4 x5 x6 x7 x10 x12 x13 x14 x15 x16 x17 x18 t0 t1 → ∀ (H : Heap) (locs : List Loc), nk_W D cI cZ cL ad am b0 σ H → rk_W D cI cG ad am ρ H → va_S (lo_A s.heap.size) s.heap H locs → ∀ (ls : Array Slot), lv_has ls 20 [(0, .ref b0), (1, .int x1), (2, .ref (am 0)), (3, .ref (ad 0)), (4, .int x4), (5, .int x5), (6, .int x6), (7, .int x7), (10, .long x10), (12, .int x12), (13, .int x13), (14, .int x14), (15, .int x15), (16, .int x16), (17, .int x17), (18, .int x18)] → W p l e room_1 s m args below meth c H locs (rc + 3) (rs + 18) Q (F0 m 585 ls [.int t1, .int t0])) : ∀ (σ : nk_C) (ρ : lk_R) (x1 : Int32) (x4 : Int32) (x5 : Int32) (x6 : Int32) (x7 : Int32) (x10 : Int64) (x12 : Int32) (x13 : Int32) (x14 : Int32) (x15 : Int32) (x16 : Int32) (x17 : Int32) (x18 : Int32) (t0 : Int32), wJ_L_law_584 k585 σ ρ x1 x4 x5 x6 x7 x10 x12 x13 x14 x15 x16 x17 x18 t0 → ∀ (H : Heap) (locs : List Loc), nk_W D cI cZ cL ad am b0 σ H → rk_W D cI cG ad am ρ H → va_S (lo_A s.heap.size) s.heap H locs → ∀ (ls : Array Slot), lv_has ls 20 [(0, .ref b0), (1, .int x1), (2, .ref (am 0)), (3, .ref (ad 0)), (4, .int x4), (5, .int x5), (6, .int x6), (7, .int x7), (10, .long x10), (12, .int x12), (13, .int x13), (14, .int x14), (15, .int x15), (16, .int x16), (17, .int x17), (18, .int x18)] → W p l e room_1 s m args below meth c H locs (rc + 3) (rs + 18) Q (F0 m 584 ls [.int t0]) := by
  obtain ⟨hx, hb, hml, hown, hts, hr, hlocks⟩ := id C0
  intro σ ρ x1 x4 x5 x6 x7 x10 x12 x13 x14 x15 x16 x17 x18 t0 hw H locs hW hR hS  ls hl
  refine lv_iconst (v := 0) hx hb dL_law_584 (by decide) ?_
  exact hk585 σ ρ x1 x4 x5 x6 x7 x10 x12 x13 x14 x15 x16 x17 x18 t0 0 hw _ _ hW hR hS  _ hl
set_option maxHeartbeats 4000000 in
set_option maxRecDepth 100000 in
theorem tJ_L_law_646 {p : Program} {l : Launch} {e : Env} {s : State} {m : MethodId} {args : Array Value} {below : List Frame} {meth : Method} {c : Code} {D : va_G} {cI cZ cG cL : ClassId} {ad am : Nat → Nat} {q1 q2 q3 b0 L : Nat} {xs : Nat → Int32} (C0 : gk_F p s m args meth c cL_law 20 (some .boolean) RL) (hK : gk_K D cI cZ cG cL s) (hZ : nk_Z q1 q2 q3 b0 L xs (lo_A s.heap.size) s s.heap) (hfl : l.stackTraces = false) (hAA : lk_D s.heap.size ad am) {rc rs kc ks : Nat} (hrc : rc + 3 ≤ kc) (hrs : rs + 18 ≤ ks) (hkc : kc ≤ 600074) (hks : ks ≤ 7301550) {Q : State → Prop} {k649 : nk_C → lk_R → Int32 → Int32 → Int32 → Int32 → Int32 → Int64 → Int32 → Int32 → Int32 → Int32 → Int32 → Int32 → Int32 → Prop} (hk649 : ∀ (σ : nk_C) (ρ : lk_R) (x1 : Int32) (x4 : Int32) (x5 : Int32) (x6 : Int32) (x7 : Int32) (x10 : Int64) (x12 : Int32) (x13 : Int32) (x14 : Int32) (x15 : Int32) (x16 : Int32) (x17 : Int32) (x18 : Int32), k649 σ ρ x1 x4 x5 x6 x7 x10 x12 x13 x14 x15 x16 x17 x18 → ∀ (H : Heap) (locs : List Loc), nk_W D cI cZ cL ad am b0 σ H → rk_W D cI cG ad am ρ H → va_S (lo_A s.heap.size) s.heap H locs → ∀ (ls : Array Slot), lv_has ls 20 [(0, .ref b0), (1, .int x1), (2, .ref (am 0)), (3, .ref (ad 0)), (4, .int x4), (5, .int x5), (6, .int x6), (7, .int x7), (10, .long x10), (12, .int x12), (13, .int x13), (14, .int x14), (15, .int x15), (16, .int x16), (17, .int x17), (18, .int x18)] → W p l e room_1 s m args below meth c H locs (rc + 3) (rs + 18) Q (F0 m 649 ls [])) : ∀ (σ : nk_C) (ρ : lk_R) (x1 : Int32) (x4 : Int32) (x5 : Int32) (x6 : Int32) (x7 : Int32) (x10 : Int64) (x12 : Int32) (x13 : Int32) (x14 : Int32) (x15 : Int32) (x16 : Int32) (x17 : Int32) (x18 : Int32) (t0 : Int32) (t1 : Int32), wJ_L_law_646 k649 σ ρ x1 x4 x5 x6 x7 x10 x12 x13 x14 x15 x16 x17 x18 t0 t1 → ∀ (H : Heap) (locs : List Loc), nk_W D cI cZ cL ad am b0 σ H → rk_W D cI cG ad am ρ H → va_S (lo_A s.heap.size) s.heap H locs → ∀ (ls : Array Slot), lv_has ls 20 [(0, .ref b0), (1, .int x1), (2, .ref (am 0)), (3, .ref (ad 0)), (4, .int x4), (5, .int x5), (6, .int x6), (7, .int x7), (10, .long x10), (12, .int x12), (13, .int x13), (14, .int x14), (15, .int x15), (16, .int x16), (17, .int x17), (18, .int x18)] → W p l e room_1 s m args below meth c H locs (rc + 3) (rs + 18) Q (F0 m 646 ls [.int t1, .int t0]) := by
  obtain ⟨hx, hb, hml, hown, hts, hr, hlocks⟩ := id C0
  intro σ ρ x1 x4 x5 x6 x7 x10 x12 x13 x14 x15 x16 x17 x18 t0 t1 hw H locs hW hR hS  ls hl
  refine lv_icmp_ne (tgt := 696) hx hb dL_law_646 (by decide) (fun c646 => ?_) (fun c646 => ?_)
  · have hw := hw.1 c646
    refine lv_iconst (v := 0) hx hb dL_law_696 (by decide) ?_
    exact False.elim hw
  · have hw := hw.2 c646
    exact hk649 σ ρ x1 x4 x5 x6 x7 x10 x12 x13 x14 x15 x16 x17 x18 hw _ _ hW hR hS  _ hl
set_option maxHeartbeats 4000000 in
set_option maxRecDepth 100000 in
theorem tJ_L_law_635 {p : Program} {l : Launch} {e : Env} {s : State} {m : MethodId} {args : Array Value} {below : List Frame} {meth : Method} {c : Code} {D : va_G} {cI cZ cG cL : ClassId} {ad am : Nat → Nat} {q1 q2 q3 b0 L : Nat} {xs : Nat → Int32} (C0 : gk_F p s m args meth c cL_law 20 (some .boolean) RL) (hK : gk_K D cI cZ cG cL s) (hZ : nk_Z q1 q2 q3 b0 L xs (lo_A s.heap.size) s s.heap) (hfl : l.stackTraces = false) (hAA : lk_D s.heap.size ad am) {rc rs kc ks : Nat} (hrc : rc + 3 ≤ kc) (hrs : rs + 18 ≤ ks) (hkc : kc ≤ 600074) (hks : ks ≤ 7301550) {Q : State → Prop} {k649 : nk_C → lk_R → Int32 → Int32 → Int32 → Int32 → Int32 → Int64 → Int32 → Int32 → Int32 → Int32 → Int32 → Int32 → Int32 → Prop} (hk649 : ∀ (σ : nk_C) (ρ : lk_R) (x1 : Int32) (x4 : Int32) (x5 : Int32) (x6 : Int32) (x7 : Int32) (x10 : Int64) (x12 : Int32) (x13 : Int32) (x14 : Int32) (x15 : Int32) (x16 : Int32) (x17 : Int32) (x18 : Int32), k649 σ ρ x1 x4 x5 x6 x7 x10 x12 x13 x14 x15 x16 x17 x18 → ∀ (H : Heap) (locs : List Loc), nk_W D cI cZ cL ad am b0 σ H → rk_W D cI cG ad am ρ H → va_S (lo_A s.heap.size) s.heap H locs → ∀ (ls : Array Slot), lv_has ls 20 [(0, .ref b0), (1, .int x1), (2, .ref (am 0)), (3, .ref (ad 0)), (4, .int x4), (5, .int x5), (6, .int x6), (7, .int x7), (10, .long x10), (12, .int x12), (13, .int x13), (14, .int x14), (15, .int x15), (16, .int x16), (17, .int x17), (18, .int x18)] → W p l e room_1 s m args below meth c H locs (rc + 3) (rs + 18) Q (F0 m 649 ls [])) : ∀ (σ : nk_C) (ρ : lk_R) (x1 : Int32) (x4 : Int32) (x5 : Int32) (x6 : Int32) (x7 : Int32) (x10 : Int64) (x12 : Int32) (x13 : Int32) (x14 : Int32) (x15 : Int32) (x16 : Int32) (x17 : Int32) (x18 : Int32) (t0 : Int32), wJ_L_law_635 k649 σ ρ x1 x4 x5 x6 x7 x10 x12 x13 x14 x15 x16 x17 x18 t0 → ∀ (H : Heap) (locs : List Loc), nk_W D cI cZ cL ad am b0 σ H → rk_W D cI cG ad am ρ H → va_S (lo_A s.heap.size) s.heap H locs → ∀ (ls : Array Slot), lv_has ls 20 [(0, .ref b0), (1, .int x1), (2, .ref (am 0)), (3, .ref (ad 0)), (4, .int x4), (5, .int x5), (6, .int x6), (7, .int x7), (10, .long x10), (12, .int x12), (13, .int x13), (14, .int x14), (15, .int x15), (16, .int x16), (17, .int x17), (18, .int x18)] → W p l e room_1 s m args below meth c H locs (rc + 3) (rs + 18) Q (F0 m 635 ls [.int t0]) := by
  obtain ⟨hx, hb, hml, hown, hts, hr, hlocks⟩ := id C0
  intro σ ρ x1 x4 x5 x6 x7 x10 x12 x13 x14 x15 x16 x17 x18 t0 hw H locs hW hR hS  ls hl
  refine lv_iload hx hb dL_law_635 (lv_at hl 14 rfl) ?_
  refine lv_iconst (v := 1) hx hb dL_law_637 (by decide) ?_
  refine lv_icmp_ne (tgt := 645) hx hb dL_law_638 (by decide) (fun c638 => ?_) (fun c638 => ?_)
  · have hw := hw.1 c638
    refine lv_iconst (v := 0) hx hb dL_law_645 (by decide) ?_
    refine tJ_L_law_646 C0 hK hZ hfl hAA hrc hrs hkc hks (hk649 := hk649) σ ρ x1 x4 x5 x6 x7 x10 x12 x13 x14 x15 x16 x17 x18 t0 0 hw _ _ hW hR hS  _ hl
  · have hw := hw.2 c638
    refine lv_iconst (v := 1) hx hb dL_law_641 (by decide) ?_
    refine lv_goto (tgt := 646) hx hb dL_law_642 (by decide) ?_
    refine tJ_L_law_646 C0 hK hZ hfl hAA hrc hrs hkc hks (hk649 := hk649) σ ρ x1 x4 x5 x6 x7 x10 x12 x13 x14 x15 x16 x17 x18 t0 1 hw _ _ hW hR hS  _ hl
set_option maxHeartbeats 4000000 in
set_option maxRecDepth 100000 in
theorem tJ_L_law_602 {p : Program} {l : Launch} {e : Env} {s : State} {m : MethodId} {args : Array Value} {below : List Frame} {meth : Method} {c : Code} {D : va_G} {cI cZ cG cL : ClassId} {ad am : Nat → Nat} {q1 q2 q3 b0 L : Nat} {xs : Nat → Int32} (C0 : gk_F p s m args meth c cL_law 20 (some .boolean) RL) (hK : gk_K D cI cZ cG cL s) (hZ : nk_Z q1 q2 q3 b0 L xs (lo_A s.heap.size) s s.heap) (hfl : l.stackTraces = false) (hAA : lk_D s.heap.size ad am) {rc rs kc ks : Nat} (hrc : rc + 3 ≤ kc) (hrs : rs + 18 ≤ ks) (hkc : kc ≤ 600074) (hks : ks ≤ 7301550) {Q : State → Prop} {k649 : nk_C → lk_R → Int32 → Int32 → Int32 → Int32 → Int32 → Int64 → Int32 → Int32 → Int32 → Int32 → Int32 → Int32 → Int32 → Prop} (hk649 : ∀ (σ : nk_C) (ρ : lk_R) (x1 : Int32) (x4 : Int32) (x5 : Int32) (x6 : Int32) (x7 : Int32) (x10 : Int64) (x12 : Int32) (x13 : Int32) (x14 : Int32) (x15 : Int32) (x16 : Int32) (x17 : Int32) (x18 : Int32), k649 σ ρ x1 x4 x5 x6 x7 x10 x12 x13 x14 x15 x16 x17 x18 → ∀ (H : Heap) (locs : List Loc), nk_W D cI cZ cL ad am b0 σ H → rk_W D cI cG ad am ρ H → va_S (lo_A s.heap.size) s.heap H locs → ∀ (ls : Array Slot), lv_has ls 20 [(0, .ref b0), (1, .int x1), (2, .ref (am 0)), (3, .ref (ad 0)), (4, .int x4), (5, .int x5), (6, .int x6), (7, .int x7), (10, .long x10), (12, .int x12), (13, .int x13), (14, .int x14), (15, .int x15), (16, .int x16), (17, .int x17), (18, .int x18)] → W p l e room_1 s m args below meth c H locs (rc + 3) (rs + 18) Q (F0 m 649 ls [])) : ∀ (σ : nk_C) (ρ : lk_R) (x1 : Int32) (x4 : Int32) (x5 : Int32) (x6 : Int32) (x7 : Int32) (x10 : Int64) (x12 : Int32) (x13 : Int32) (x14 : Int32) (x15 : Int32) (x16 : Int32) (x17 : Int32) (x18 : Int32), wJ_L_law_602 k649 σ ρ x1 x4 x5 x6 x7 x10 x12 x13 x14 x15 x16 x17 x18 → ∀ (H : Heap) (locs : List Loc), nk_W D cI cZ cL ad am b0 σ H → rk_W D cI cG ad am ρ H → va_S (lo_A s.heap.size) s.heap H locs → ∀ (ls : Array Slot), lv_has ls 20 [(0, .ref b0), (1, .int x1), (2, .ref (am 0)), (3, .ref (ad 0)), (4, .int x4), (5, .int x5), (6, .int x6), (7, .int x7), (10, .long x10), (12, .int x12), (13, .int x13), (14, .int x14), (15, .int x15), (16, .int x16), (17, .int x17), (18, .int x18)] → W p l e room_1 s m args below meth c H locs (rc + 3) (rs + 18) Q (F0 m 602 ls []) := by
  obtain ⟨hx, hb, hml, hown, hts, hr, hlocks⟩ := id C0
  intro σ ρ x1 x4 x5 x6 x7 x10 x12 x13 x14 x15 x16 x17 x18 hw H locs hW hR hS  ls hl
  refine lv_aload_n hx hb dL_law_602 rfl (lv_at hl 3 rfl) ?_
  refine lv_iload hx hb dL_law_603 (lv_at hl 15 rfl) ?_
  refine lv_iload hx hb dL_law_605 (lv_at hl 11 rfl) ?_
  refine lv_iload hx hb dL_law_607 (lv_at hl 12 rfl) ?_
  refine lv_iload hx hb dL_law_609 (lv_at hl 13 rfl) ?_
  refine nk_gVi ⟨hx, hb, hml, hown, hts⟩ (c_X8_matches l D cI cZ cG cL ad hw) (cwV 4 hts (gk_gV ml_L_91 im_X8_matches se_X8_matches in_X8 co_X8_matches) rfl rfl rfl (by decide +kernel) ⟨Nat.le_of_ble_eq_true rfl, Nat.le_of_ble_eq_true rfl⟩) (gk_recv hK.1 (gk_o0 hW.1) rfl) hW hK hS (hAA.up hS.1) rfl hl.1 (rest := []) rfl (lv_room (Nat.le_of_ble_eq_true rfl)) dL_law_611 ⟨by show _ ≤ 600074; omega, by show _ ≤ 7301550; omega⟩ (fun r611 s611 H locs hw hW _ hk hS => ?_)
  have hR := hR.gate hk
  refine lv_if_eq (tgt := 696) hx hb dL_law_614 (by decide) (fun c614 => ?_) (fun c614 => ?_)
  · have hw := hw.1 c614
    refine lv_iconst (v := 0) hx hb dL_law_696 (by decide) ?_
    exact False.elim hw
  · have hw := hw.2 c614
    refine lv_aload_n hx hb dL_law_617 rfl (lv_at hl 2 rfl) ?_
    refine gk_get hx hb hts iwX9 hown hK.1 (nk_obj hW) rfl 18 (by decide) (hts _ fl_L_95) (fun _ h9 => h9) rfl dL_law_618 ?_
    refine lv_iload hx hb dL_law_621 (lv_at hl 15 rfl) ?_
    obtain ⟨hin, fe623, hfe623, hw⟩ := hw
    refine rk_aald hx hb hK hR.1 hin hfe623 dL_law_623 (fun qe623 hde623 hxe623 hye623 => ?_)
    refine lv_iconst (v := 0) hx hb dL_law_624 (by decide) ?_
    refine gk_iald hx hb hK.1 0 hde623.1 rfl (pk_in 0 9 (by decide)) dL_law_625 ?_
    refine lv_iconst (v := 1) hx hb dL_law_626 (by decide) ?_
    refine lv_icmp_ne (tgt := 634) hx hb dL_law_627 (by decide) (fun c627 => ?_) (fun c627 => ?_)
    · have hw := hw.1 c627
      refine lv_iconst (v := 0) hx hb dL_law_634 (by decide) ?_
      refine tJ_L_law_635 C0 hK hZ hfl hAA hrc hrs hkc hks (hk649 := hk649) (s611, σ.2) ρ x1 x4 x5 x6 x7 x10 x12 x13 x14 x15 x16 x17 x18 0 hw _ _ hW hR hS  _ hl
    · have hw := hw.2 c627
      refine lv_iconst (v := 1) hx hb dL_law_630 (by decide) ?_
      refine lv_goto (tgt := 635) hx hb dL_law_631 (by decide) ?_
      refine tJ_L_law_635 C0 hK hZ hfl hAA hrc hrs hkc hks (hk649 := hk649) (s611, σ.2) ρ x1 x4 x5 x6 x7 x10 x12 x13 x14 x15 x16 x17 x18 1 hw _ _ hW hR hS  _ hl
set_option maxHeartbeats 4000000 in
set_option maxRecDepth 100000 in
theorem tJ_L_law_649 {p : Program} {l : Launch} {e : Env} {s : State} {m : MethodId} {args : Array Value} {below : List Frame} {meth : Method} {c : Code} {D : va_G} {cI cZ cG cL : ClassId} {ad am : Nat → Nat} {q1 q2 q3 b0 L : Nat} {xs : Nat → Int32} (C0 : gk_F p s m args meth c cL_law 20 (some .boolean) RL) (hK : gk_K D cI cZ cG cL s) (hZ : nk_Z q1 q2 q3 b0 L xs (lo_A s.heap.size) s s.heap) (hfl : l.stackTraces = false) (hAA : lk_D s.heap.size ad am) {rc rs kc ks : Nat} (hrc : rc + 3 ≤ kc) (hrs : rs + 18 ≤ ks) (hkc : kc ≤ 600074) (hks : ks ≤ 7301550) {Q : State → Prop} {k465 : nk_C → lk_R → Int32 → Int32 → Int32 → Int32 → Int32 → Int64 → Int32 → Int32 → Int32 → Int32 → Int32 → Prop} (hk465 : ∀ (σ : nk_C) (ρ : lk_R) (x1 : Int32) (x4 : Int32) (x5 : Int32) (x6 : Int32) (x7 : Int32) (x10 : Int64) (x12 : Int32) (x13 : Int32) (x14 : Int32) (x15 : Int32) (x16 : Int32), k465 σ ρ x1 x4 x5 x6 x7 x10 x12 x13 x14 x15 x16 → ∀ (H : Heap) (locs : List Loc), nk_W D cI cZ cL ad am b0 σ H → rk_W D cI cG ad am ρ H → va_S (lo_A s.heap.size) s.heap H locs → ∀ (ls : Array Slot), lv_has ls 20 [(0, .ref b0), (1, .int x1), (2, .ref (am 0)), (3, .ref (ad 0)), (4, .int x4), (5, .int x5), (6, .int x6), (7, .int x7), (10, .long x10), (12, .int x12), (13, .int x13), (14, .int x14), (15, .int x15), (16, .int x16)] → W p l e room_1 s m args below meth c H locs (rc + 3) (rs + 18) Q (F0 m 465 ls [])) : ∀ (σ : nk_C) (ρ : lk_R) (x1 : Int32) (x4 : Int32) (x5 : Int32) (x6 : Int32) (x7 : Int32) (x10 : Int64) (x12 : Int32) (x13 : Int32) (x14 : Int32) (x15 : Int32) (x16 : Int32) (x17 : Int32) (x18 : Int32), wJ_L_law_649 k465 σ ρ x1 x4 x5 x6 x7 x10 x12 x13 x14 x15 x16 x17 x18 → ∀ (H : Heap) (locs : List Loc), nk_W D cI cZ cL ad am b0 σ H → rk_W D cI cG ad am ρ H → va_S (lo_A s.heap.size) s.heap H locs → ∀ (ls : Array Slot), lv_has ls 20 [(0, .ref b0), (1, .int x1), (2, .ref (am 0)), (3, .ref (ad 0)), (4, .int x4), (5, .int x5), (6, .int x6), (7, .int x7), (10, .long x10), (12, .int x12), (13, .int x13), (14, .int x14), (15, .int x15), (16, .int x16), (17, .int x17), (18, .int x18)] → W p l e room_1 s m args below meth c H locs (rc + 3) (rs + 18) Q (F0 m 649 ls []) := by
  obtain ⟨hx, hb, hml, hown, hts, hr, hlocks⟩ := id C0
  intro σ ρ x1 x4 x5 x6 x7 x10 x12 x13 x14 x15 x16 x17 x18 hw H locs hW hR hS  ls hl
  refine lv_iload hx hb dL_law_649 (lv_at hl 14 rfl) ?_
  refine lv_iconst (v := 3) hx hb dL_law_651 (by decide) ?_
  refine lv_icmp_ne (tgt := 698) hx hb dL_law_652 (by decide) (fun c652 => ?_) (fun c652 => ?_)
  · have hw := hw.1 c652
    refine lv_iinc (v := (x16 + 1)) (lv' := [(16, .int (x16 + 1)), (0, .ref b0), (1, .int x1), (2, .ref (am 0)), (3, .ref (ad 0)), (4, .int x4), (5, .int x5), (6, .int x6), (7, .int x7), (10, .long x10), (12, .int x12), (13, .int x13), (14, .int x14), (15, .int x15), (17, .int x17), (18, .int x18)]) hx hb dL_law_698 hl (k := 13) rfl rfl (by decide) rfl (fun ls hl => ?_)
    refine lv_goto (tgt := 465) hx hb dL_law_701 (by decide) ?_
    exact hk465 σ ρ x1 x4 x5 x6 x7 x10 x12 x13 x14 x15 (x16 + 1) hw _ _ hW hR hS  _ (lv_sub hl [1, 2, 3, 4, 5, 6, 7, 8, 9, 10, 11, 12, 13, 0] rfl)
  · have hw := hw.2 c652
    refine lv_aload_n hx hb dL_law_655 rfl (lv_at hl 3 rfl) ?_
    refine lv_iload hx hb dL_law_656 (lv_at hl 15 rfl) ?_
    refine nk_gVi ⟨hx, hb, hml, hown, hts⟩ (c_X8_isGood l D cI cZ cG cL ad hw) (cwV 1 hts (gk_gV ml_L_99 im_X8_isGood se_X8_isGood in_X8 co_X8_isGood) rfl rfl rfl (by decide +kernel) ⟨Nat.le_of_ble_eq_true rfl, Nat.le_of_ble_eq_true rfl⟩) (gk_recv hK.1 (gk_o0 hW.1) rfl) hW hK hS (hAA.up hS.1) rfl hl.1 (rest := []) rfl (lv_room (Nat.le_of_ble_eq_true rfl)) dL_law_658 ⟨by show _ ≤ 600074; omega, by show _ ≤ 7301550; omega⟩ (fun r658 s658 H locs hw hW _ hk hS => ?_)
    have hR := hR.gate hk
    refine lv_if_eq (tgt := 696) hx hb dL_law_661 (by decide) (fun c661 => ?_) (fun c661 => ?_)
    · have hw := hw.1 c661
      refine lv_iconst (v := 0) hx hb dL_law_696 (by decide) ?_
      exact False.elim hw
    · have hw := hw.2 c661
      refine lv_aload_n hx hb dL_law_664 rfl (lv_at hl 2 rfl) ?_
      refine gk_get hx hb hts iwX9 hown hK.1 (nk_obj hW) rfl 20 (by decide) (hts _ fl_L_103) (fun _ h9 => h9) rfl dL_law_665 ?_
      refine lv_iload hx hb dL_law_668 (lv_at hl 15 rfl) ?_
      obtain ⟨hin, fe670, hfe670, hw⟩ := hw
      refine rk_aald hx hb hK hR.2 hin hfe670 dL_law_670 (fun qe670 hde670 hxe670 hye670 => ?_)
      refine lv_iconst (v := 1) hx hb dL_law_671 (by decide) ?_
      refine gk_iald hx hb hK.1 0 hde670.1 rfl (pk_in 1 6 (by decide)) dL_law_672 ?_
      refine lv_iload hx hb dL_law_673 (lv_at hl 11 rfl) ?_
      refine lv_icmp_ne (tgt := 696) hx hb dL_law_675 (by decide) (fun c675 => ?_) (fun c675 => ?_)
      · have hw := hw.1 c675
        refine lv_iconst (v := 0) hx hb dL_law_696 (by decide) ?_
        exact False.elim hw
      · have hw := hw.2 c675
        refine lv_aload_n hx hb dL_law_678 rfl (lv_at hl 3 rfl) ?_
        refine lv_iload hx hb dL_law_679 (lv_at hl 13 rfl) ?_
        refine lv_aload_n hx hb dL_law_681 rfl (lv_at hl 2 rfl) ?_
        refine gk_get hx hb hts iwX9 hown hK.1 (nk_obj hW) rfl 20 (by decide) (hts _ fl_L_103) (fun _ h9 => h9) rfl dL_law_682 ?_
        refine lv_iload hx hb dL_law_685 (lv_at hl 15 rfl) ?_
        obtain ⟨hin, fe687, hfe687, hw⟩ := hw
        refine rk_aald hx hb hK hR.2 hin hfe687 dL_law_687 (fun qe687 hde687 hxe687 hye687 => ?_)
        refine lv_iconst (v := 3) hx hb dL_law_688 (by decide) ?_
        refine gk_iald hx hb hK.1 0 hde687.1 rfl (pk_in 3 6 (by decide)) dL_law_689 ?_
        refine nk_gRi ⟨hx, hb, hml, hown, hts⟩ (c_X8_far l D cI cZ cG cL ad hw) (cwV 2 hts (gk_gV ml_L_106 im_X8_far se_X8_far in_X8 co_X8_far) rfl rfl rfl (by decide +kernel) ⟨Nat.le_of_ble_eq_true rfl, Nat.le_of_ble_eq_true rfl⟩) (gk_recv hK.1 (gk_o0 hW.1) rfl) hW hK hS (hAA.up hS.1) rfl hl.1 (rest := []) rfl (lv_room (Nat.le_of_ble_eq_true rfl)) dL_law_690 ⟨by show _ ≤ 600074; omega, by show _ ≤ 7301550; omega⟩ (fun r690 H locs hw hW _ hk hS => ?_)
        have hR := hR.gate hk
        refine lv_if_ge (tgt := 698) hx hb dL_law_693 (by decide) (fun c693 => ?_) (fun c693 => ?_)
        · have hw := hw.1 c693
          refine lv_iinc (v := (x16 + 1)) (lv' := [(16, .int (x16 + 1)), (0, .ref b0), (1, .int x1), (2, .ref (am 0)), (3, .ref (ad 0)), (4, .int x4), (5, .int x5), (6, .int x6), (7, .int x7), (10, .long x10), (12, .int x12), (13, .int x13), (14, .int x14), (15, .int x15), (17, .int x17), (18, .int x18)]) hx hb dL_law_698 hl (k := 13) rfl rfl (by decide) rfl (fun ls hl => ?_)
          refine lv_goto (tgt := 465) hx hb dL_law_701 (by decide) ?_
          exact hk465 (s658, σ.2) ρ x1 x4 x5 x6 x7 x10 x12 x13 x14 x15 (x16 + 1) hw _ _ hW hR hS  _ (lv_sub hl [1, 2, 3, 4, 5, 6, 7, 8, 9, 10, 11, 12, 13, 0] rfl)
        · have hw := hw.2 c693
          refine lv_iconst (v := 0) hx hb dL_law_696 (by decide) ?_
          exact False.elim hw
set_option maxHeartbeats 4000000 in
set_option maxRecDepth 100000 in
theorem tJ_L_law_585 {p : Program} {l : Launch} {e : Env} {s : State} {m : MethodId} {args : Array Value} {below : List Frame} {meth : Method} {c : Code} {D : va_G} {cI cZ cG cL : ClassId} {ad am : Nat → Nat} {q1 q2 q3 b0 L : Nat} {xs : Nat → Int32} (C0 : gk_F p s m args meth c cL_law 20 (some .boolean) RL) (hK : gk_K D cI cZ cG cL s) (hZ : nk_Z q1 q2 q3 b0 L xs (lo_A s.heap.size) s s.heap) (hfl : l.stackTraces = false) (hAA : lk_D s.heap.size ad am) {rc rs kc ks : Nat} (hrc : rc + 3 ≤ kc) (hrs : rs + 18 ≤ ks) (hkc : kc ≤ 600074) (hks : ks ≤ 7301550) {Q : State → Prop} {k465 : nk_C → lk_R → Int32 → Int32 → Int32 → Int32 → Int32 → Int64 → Int32 → Int32 → Int32 → Int32 → Int32 → Prop} (hk465 : ∀ (σ : nk_C) (ρ : lk_R) (x1 : Int32) (x4 : Int32) (x5 : Int32) (x6 : Int32) (x7 : Int32) (x10 : Int64) (x12 : Int32) (x13 : Int32) (x14 : Int32) (x15 : Int32) (x16 : Int32), k465 σ ρ x1 x4 x5 x6 x7 x10 x12 x13 x14 x15 x16 → ∀ (H : Heap) (locs : List Loc), nk_W D cI cZ cL ad am b0 σ H → rk_W D cI cG ad am ρ H → va_S (lo_A s.heap.size) s.heap H locs → ∀ (ls : Array Slot), lv_has ls 20 [(0, .ref b0), (1, .int x1), (2, .ref (am 0)), (3, .ref (ad 0)), (4, .int x4), (5, .int x5), (6, .int x6), (7, .int x7), (10, .long x10), (12, .int x12), (13, .int x13), (14, .int x14), (15, .int x15), (16, .int x16)] → W p l e room_1 s m args below meth c H locs (rc + 3) (rs + 18) Q (F0 m 465 ls [])) : ∀ (σ : nk_C) (ρ : lk_R) (x1 : Int32) (x4 : Int32) (x5 : Int32) (x6 : Int32) (x7 : Int32) (x10 : Int64) (x12 : Int32) (x13 : Int32) (x14 : Int32) (x15 : Int32) (x16 : Int32) (x17 : Int32) (x18 : Int32) (t0 : Int32) (t1 : Int32), wJ_L_law_585 k465 σ ρ x1 x4 x5 x6 x7 x10 x12 x13 x14 x15 x16 x17 x18 t0 t1 → ∀ (H : Heap) (locs : List Loc), nk_W D cI cZ cL ad am b0 σ H → rk_W D cI cG ad am ρ H → va_S (lo_A s.heap.size) s.heap H locs → ∀ (ls : Array Slot), lv_has ls 20 [(0, .ref b0), (1, .int x1), (2, .ref (am 0)), (3, .ref (ad 0)), (4, .int x4), (5, .int x5), (6, .int x6), (7, .int x7), (10, .long x10), (12, .int x12), (13, .int x13), (14, .int x14), (15, .int x15), (16, .int x16), (17, .int x17), (18, .int x18)] → W p l e room_1 s m args below meth c H locs (rc + 3) (rs + 18) Q (F0 m 585 ls [.int t1, .int t0]) := by
  obtain ⟨hx, hb, hml, hown, hts, hr, hlocks⟩ := id C0
  intro σ ρ x1 x4 x5 x6 x7 x10 x12 x13 x14 x15 x16 x17 x18 t0 t1 hw H locs hW hR hS  ls hl
  refine lv_icmp_eq (tgt := 590) hx hb dL_law_585 (by decide) (fun c585 => ?_) (fun c585 => ?_)
  · have hw := hw.1 c585
    refine lv_iload hx hb dL_law_590 (lv_at hl 14 rfl) ?_
    refine lv_iconst (v := 1) hx hb dL_law_592 (by decide) ?_
    refine lv_icmp_eq (tgt := 602) hx hb dL_law_593 (by decide) (fun c593 => ?_) (fun c593 => ?_)
    · have hw := hw.1 c593
      refine tJ_L_law_602 C0 hK hZ hfl hAA hrc hrs hkc hks (hk649 := ?_) σ ρ x1 x4 x5 x6 x7 x10 x12 x13 x14 x15 x16 x17 x18 hw _ _ hW hR hS  _ hl
      · intro σ ρ x1 x4 x5 x6 x7 x10 x12 x13 x14 x15 x16 x17 x18 hw H locs hW hR hS  ls hl
        refine tJ_L_law_649 C0 hK hZ hfl hAA hrc hrs hkc hks (hk465 := hk465) σ ρ x1 x4 x5 x6 x7 x10 x12 x13 x14 x15 x16 x17 x18 hw _ _ hW hR hS  _ hl
    · have hw := hw.2 c593
      refine lv_iload hx hb dL_law_596 (lv_at hl 14 rfl) ?_
      refine lv_iconst (v := 2) hx hb dL_law_598 (by decide) ?_
      refine lv_icmp_ne (tgt := 649) hx hb dL_law_599 (by decide) (fun c599 => ?_) (fun c599 => ?_)
      · have hw := hw.1 c599
        refine tJ_L_law_649 C0 hK hZ hfl hAA hrc hrs hkc hks (hk465 := hk465) σ ρ x1 x4 x5 x6 x7 x10 x12 x13 x14 x15 x16 x17 x18 hw _ _ hW hR hS  _ hl
      · have hw := hw.2 c599
        refine tJ_L_law_602 C0 hK hZ hfl hAA hrc hrs hkc hks (hk649 := ?_) σ ρ x1 x4 x5 x6 x7 x10 x12 x13 x14 x15 x16 x17 x18 hw _ _ hW hR hS  _ hl
        · intro σ ρ x1 x4 x5 x6 x7 x10 x12 x13 x14 x15 x16 x17 x18 hw H locs hW hR hS  ls hl
          refine tJ_L_law_649 C0 hK hZ hfl hAA hrc hrs hkc hks (hk465 := hk465) σ ρ x1 x4 x5 x6 x7 x10 x12 x13 x14 x15 x16 x17 x18 hw _ _ hW hR hS  _ hl
  · have hw := hw.2 c585
    refine lv_iconst (v := 0) hx hb dL_law_588 (by decide) ?_
    exact False.elim hw
set_option maxHeartbeats 4000000 in
set_option maxRecDepth 100000 in
theorem tJ_L_law_569 {p : Program} {l : Launch} {e : Env} {s : State} {m : MethodId} {args : Array Value} {below : List Frame} {meth : Method} {c : Code} {D : va_G} {cI cZ cG cL : ClassId} {ad am : Nat → Nat} {q1 q2 q3 b0 L : Nat} {xs : Nat → Int32} (C0 : gk_F p s m args meth c cL_law 20 (some .boolean) RL) (hK : gk_K D cI cZ cG cL s) (hZ : nk_Z q1 q2 q3 b0 L xs (lo_A s.heap.size) s s.heap) (hfl : l.stackTraces = false) (hAA : lk_D s.heap.size ad am) {rc rs kc ks : Nat} (hrc : rc + 3 ≤ kc) (hrs : rs + 18 ≤ ks) (hkc : kc ≤ 600074) (hks : ks ≤ 7301550) {Q : State → Prop} {k465 : nk_C → lk_R → Int32 → Int32 → Int32 → Int32 → Int32 → Int64 → Int32 → Int32 → Int32 → Int32 → Int32 → Prop} (hk465 : ∀ (σ : nk_C) (ρ : lk_R) (x1 : Int32) (x4 : Int32) (x5 : Int32) (x6 : Int32) (x7 : Int32) (x10 : Int64) (x12 : Int32) (x13 : Int32) (x14 : Int32) (x15 : Int32) (x16 : Int32), k465 σ ρ x1 x4 x5 x6 x7 x10 x12 x13 x14 x15 x16 → ∀ (H : Heap) (locs : List Loc), nk_W D cI cZ cL ad am b0 σ H → rk_W D cI cG ad am ρ H → va_S (lo_A s.heap.size) s.heap H locs → ∀ (ls : Array Slot), lv_has ls 20 [(0, .ref b0), (1, .int x1), (2, .ref (am 0)), (3, .ref (ad 0)), (4, .int x4), (5, .int x5), (6, .int x6), (7, .int x7), (10, .long x10), (12, .int x12), (13, .int x13), (14, .int x14), (15, .int x15), (16, .int x16)] → W p l e room_1 s m args below meth c H locs (rc + 3) (rs + 18) Q (F0 m 465 ls [])) : ∀ (σ : nk_C) (ρ : lk_R) (x1 : Int32) (x4 : Int32) (x5 : Int32) (x6 : Int32) (x7 : Int32) (x10 : Int64) (x12 : Int32) (x13 : Int32) (x14 : Int32) (x15 : Int32) (x16 : Int32) (x17 : Int32) (x18 : Int32) (t0 : Int32), wJ_L_law_569 k465 σ ρ x1 x4 x5 x6 x7 x10 x12 x13 x14 x15 x16 x17 x18 t0 → ∀ (H : Heap) (locs : List Loc), nk_W D cI cZ cL ad am b0 σ H → rk_W D cI cG ad am ρ H → va_S (lo_A s.heap.size) s.heap H locs → ∀ (ls : Array Slot), lv_has ls 20 [(0, .ref b0), (1, .int x1), (2, .ref (am 0)), (3, .ref (ad 0)), (4, .int x4), (5, .int x5), (6, .int x6), (7, .int x7), (10, .long x10), (12, .int x12), (13, .int x13), (14, .int x14), (15, .int x15), (16, .int x16), (17, .int x17), (18, .int x18)] → W p l e room_1 s m args below meth c H locs (rc + 3) (rs + 18) Q (F0 m 569 ls [.int t0]) := by
  obtain ⟨hx, hb, hml, hown, hts, hr, hlocks⟩ := id C0
  intro σ ρ x1 x4 x5 x6 x7 x10 x12 x13 x14 x15 x16 x17 x18 t0 hw H locs hW hR hS  ls hl
  refine lv_iload hx hb dL_law_569 (lv_at hl 14 rfl) ?_
  refine lv_if_le (tgt := 584) hx hb dL_law_571 (by decide) (fun c571 => ?_) (fun c571 => ?_)
  · have hw := hw.1 c571
    refine tJ_L_law_584 C0 hK hZ hfl hAA hrc hrs hkc hks (hk585 := ?_) σ ρ x1 x4 x5 x6 x7 x10 x12 x13 x14 x15 x16 x17 x18 t0 hw _ _ hW hR hS  _ hl
    · intro σ ρ x1 x4 x5 x6 x7 x10 x12 x13 x14 x15 x16 x17 x18 t0 t1 hw H locs hW hR hS  ls hl
      refine tJ_L_law_585 C0 hK hZ hfl hAA hrc hrs hkc hks (hk465 := hk465) σ ρ x1 x4 x5 x6 x7 x10 x12 x13 x14 x15 x16 x17 x18 t0 t1 hw _ _ hW hR hS  _ hl
  · have hw := hw.2 c571
    refine lv_iload hx hb dL_law_574 (lv_at hl 14 rfl) ?_
    refine lv_iconst (v := 4) hx hb dL_law_576 (by decide) ?_
    refine lv_icmp_ge (tgt := 584) hx hb dL_law_577 (by decide) (fun c577 => ?_) (fun c577 => ?_)
    · have hw := hw.1 c577
      refine tJ_L_law_584 C0 hK hZ hfl hAA hrc hrs hkc hks (hk585 := ?_) σ ρ x1 x4 x5 x6 x7 x10 x12 x13 x14 x15 x16 x17 x18 t0 hw _ _ hW hR hS  _ hl
      · intro σ ρ x1 x4 x5 x6 x7 x10 x12 x13 x14 x15 x16 x17 x18 t0 t1 hw H locs hW hR hS  ls hl
        refine tJ_L_law_585 C0 hK hZ hfl hAA hrc hrs hkc hks (hk465 := hk465) σ ρ x1 x4 x5 x6 x7 x10 x12 x13 x14 x15 x16 x17 x18 t0 t1 hw _ _ hW hR hS  _ hl
    · have hw := hw.2 c577
      refine lv_iconst (v := 1) hx hb dL_law_580 (by decide) ?_
      refine lv_goto (tgt := 585) hx hb dL_law_581 (by decide) ?_
      refine tJ_L_law_585 C0 hK hZ hfl hAA hrc hrs hkc hks (hk465 := hk465) σ ρ x1 x4 x5 x6 x7 x10 x12 x13 x14 x15 x16 x17 x18 t0 1 hw _ _ hW hR hS  _ hl
set_option maxHeartbeats 4000000 in
set_option maxRecDepth 100000 in
theorem tJ_L_law_556 {p : Program} {l : Launch} {e : Env} {s : State} {m : MethodId} {args : Array Value} {below : List Frame} {meth : Method} {c : Code} {D : va_G} {cI cZ cG cL : ClassId} {ad am : Nat → Nat} {q1 q2 q3 b0 L : Nat} {xs : Nat → Int32} (C0 : gk_F p s m args meth c cL_law 20 (some .boolean) RL) (hK : gk_K D cI cZ cG cL s) (hZ : nk_Z q1 q2 q3 b0 L xs (lo_A s.heap.size) s s.heap) (hfl : l.stackTraces = false) (hAA : lk_D s.heap.size ad am) {rc rs kc ks : Nat} (hrc : rc + 3 ≤ kc) (hrs : rs + 18 ≤ ks) (hkc : kc ≤ 600074) (hks : ks ≤ 7301550) {Q : State → Prop} {k465 : nk_C → lk_R → Int32 → Int32 → Int32 → Int32 → Int32 → Int64 → Int32 → Int32 → Int32 → Int32 → Int32 → Prop} (hk465 : ∀ (σ : nk_C) (ρ : lk_R) (x1 : Int32) (x4 : Int32) (x5 : Int32) (x6 : Int32) (x7 : Int32) (x10 : Int64) (x12 : Int32) (x13 : Int32) (x14 : Int32) (x15 : Int32) (x16 : Int32), k465 σ ρ x1 x4 x5 x6 x7 x10 x12 x13 x14 x15 x16 → ∀ (H : Heap) (locs : List Loc), nk_W D cI cZ cL ad am b0 σ H → rk_W D cI cG ad am ρ H → va_S (lo_A s.heap.size) s.heap H locs → ∀ (ls : Array Slot), lv_has ls 20 [(0, .ref b0), (1, .int x1), (2, .ref (am 0)), (3, .ref (ad 0)), (4, .int x4), (5, .int x5), (6, .int x6), (7, .int x7), (10, .long x10), (12, .int x12), (13, .int x13), (14, .int x14), (15, .int x15), (16, .int x16)] → W p l e room_1 s m args below meth c H locs (rc + 3) (rs + 18) Q (F0 m 465 ls [])) : ∀ (σ : nk_C) (ρ : lk_R) (x1 : Int32) (x4 : Int32) (x5 : Int32) (x6 : Int32) (x7 : Int32) (x10 : Int64) (x12 : Int32) (x13 : Int32) (x14 : Int32) (x15 : Int32) (x16 : Int32) (x17 : Int32) (x18 : Int32) (t0 : Int32) (t1 : Int32), wJ_L_law_556 k465 σ ρ x1 x4 x5 x6 x7 x10 x12 x13 x14 x15 x16 x17 x18 t0 t1 → ∀ (H : Heap) (locs : List Loc), nk_W D cI cZ cL ad am b0 σ H → rk_W D cI cG ad am ρ H → va_S (lo_A s.heap.size) s.heap H locs → ∀ (ls : Array Slot), lv_has ls 20 [(0, .ref b0), (1, .int x1), (2, .ref (am 0)), (3, .ref (ad 0)), (4, .int x4), (5, .int x5), (6, .int x6), (7, .int x7), (10, .long x10), (12, .int x12), (13, .int x13), (14, .int x14), (15, .int x15), (16, .int x16), (17, .int x17), (18, .int x18)] → W p l e room_1 s m args below meth c H locs (rc + 3) (rs + 18) Q (F0 m 556 ls [.int t1, .int t0]) := by
  obtain ⟨hx, hb, hml, hown, hts, hr, hlocks⟩ := id C0
  intro σ ρ x1 x4 x5 x6 x7 x10 x12 x13 x14 x15 x16 x17 x18 t0 t1 hw H locs hW hR hS  ls hl
  refine lv_icmp_ne (tgt := 588) hx hb dL_law_556 (by decide) (fun c556 => ?_) (fun c556 => ?_)
  · have hw := hw.1 c556
    refine lv_iconst (v := 0) hx hb dL_law_588 (by decide) ?_
    exact False.elim hw
  · have hw := hw.2 c556
    refine lv_iload hx hb dL_law_559 (lv_at hl 15 rfl) ?_
    refine lv_if_lt (tgt := 568) hx hb dL_law_561 (by decide) (fun c561 => ?_) (fun c561 => ?_)
    · have hw := hw.1 c561
      refine lv_iconst (v := 0) hx hb dL_law_568 (by decide) ?_
      refine tJ_L_law_569 C0 hK hZ hfl hAA hrc hrs hkc hks (hk465 := hk465) σ ρ x1 x4 x5 x6 x7 x10 x12 x13 x14 x15 x16 x17 x18 0 hw _ _ hW hR hS  _ hl
    · have hw := hw.2 c561
      refine lv_iconst (v := 1) hx hb dL_law_564 (by decide) ?_
      refine lv_goto (tgt := 569) hx hb dL_law_565 (by decide) ?_
      refine tJ_L_law_569 C0 hK hZ hfl hAA hrc hrs hkc hks (hk465 := hk465) σ ρ x1 x4 x5 x6 x7 x10 x12 x13 x14 x15 x16 x17 x18 1 hw _ _ hW hR hS  _ hl
set_option maxHeartbeats 4000000 in
set_option maxRecDepth 100000 in
theorem tJ_L_law_529 {p : Program} {l : Launch} {e : Env} {s : State} {m : MethodId} {args : Array Value} {below : List Frame} {meth : Method} {c : Code} {D : va_G} {cI cZ cG cL : ClassId} {ad am : Nat → Nat} {q1 q2 q3 b0 L : Nat} {xs : Nat → Int32} (C0 : gk_F p s m args meth c cL_law 20 (some .boolean) RL) (hK : gk_K D cI cZ cG cL s) (hZ : nk_Z q1 q2 q3 b0 L xs (lo_A s.heap.size) s s.heap) (hfl : l.stackTraces = false) (hAA : lk_D s.heap.size ad am) {rc rs kc ks : Nat} (hrc : rc + 3 ≤ kc) (hrs : rs + 18 ≤ ks) (hkc : kc ≤ 600074) (hks : ks ≤ 7301550) {Q : State → Prop} {k465 : nk_C → lk_R → Int32 → Int32 → Int32 → Int32 → Int32 → Int64 → Int32 → Int32 → Int32 → Int32 → Int32 → Prop} (hk465 : ∀ (σ : nk_C) (ρ : lk_R) (x1 : Int32) (x4 : Int32) (x5 : Int32) (x6 : Int32) (x7 : Int32) (x10 : Int64) (x12 : Int32) (x13 : Int32) (x14 : Int32) (x15 : Int32) (x16 : Int32), k465 σ ρ x1 x4 x5 x6 x7 x10 x12 x13 x14 x15 x16 → ∀ (H : Heap) (locs : List Loc), nk_W D cI cZ cL ad am b0 σ H → rk_W D cI cG ad am ρ H → va_S (lo_A s.heap.size) s.heap H locs → ∀ (ls : Array Slot), lv_has ls 20 [(0, .ref b0), (1, .int x1), (2, .ref (am 0)), (3, .ref (ad 0)), (4, .int x4), (5, .int x5), (6, .int x6), (7, .int x7), (10, .long x10), (12, .int x12), (13, .int x13), (14, .int x14), (15, .int x15), (16, .int x16)] → W p l e room_1 s m args below meth c H locs (rc + 3) (rs + 18) Q (F0 m 465 ls [])) : ∀ (σ : nk_C) (ρ : lk_R) (x1 : Int32) (x4 : Int32) (x5 : Int32) (x6 : Int32) (x7 : Int32) (x10 : Int64) (x13 : Int32) (x14 : Int32) (x15 : Int32) (x16 : Int32) (x17 : Int32) (x18 : Int32) (x19 : Int32) (t0 : Int32) (t1 : Int32), wJ_L_law_529 k465 σ ρ x1 x4 x5 x6 x7 x10 x13 x14 x15 x16 x17 x18 x19 t0 t1 → ∀ (H : Heap) (locs : List Loc), nk_W D cI cZ cL ad am b0 σ H → rk_W D cI cG ad am ρ H → va_S (lo_A s.heap.size) s.heap H locs → ∀ (ls : Array Slot), lv_has ls 20 [(0, .ref b0), (1, .int x1), (2, .ref (am 0)), (3, .ref (ad 0)), (4, .int x4), (5, .int x5), (6, .int x6), (7, .int x7), (10, .long x10), (13, .int x13), (14, .int x14), (15, .int x15), (16, .int x16), (17, .int x17), (18, .int x18), (19, .int x19)] → W p l e room_1 s m args below meth c H locs (rc + 3) (rs + 18) Q (F0 m 529 ls [.int t1, .int t0]) := by
  obtain ⟨hx, hb, hml, hown, hts, hr, hlocks⟩ := id C0
  intro σ ρ x1 x4 x5 x6 x7 x10 x13 x14 x15 x16 x17 x18 x19 t0 t1 hw H locs hW hR hS  ls hl
  refine lv_iadd hx hb dL_law_529 ?_
  refine lv_istore (lv' := [(12, .int (t0 + t1)), (0, .ref b0), (1, .int x1), (2, .ref (am 0)), (3, .ref (ad 0)), (4, .int x4), (5, .int x5), (6, .int x6), (7, .int x7), (10, .long x10), (13, .int x13), (14, .int x14), (15, .int x15), (16, .int x16), (17, .int x17), (18, .int x18), (19, .int x19)]) hx hb dL_law_530 hl (by decide) rfl (fun ls hl => ?_)
  refine lv_iload hx hb dL_law_532 (lv_at hl 16 rfl) ?_
  refine lv_aload_n hx hb dL_law_534 rfl (lv_at hl 4 rfl) ?_
  refine lv_iload hx hb dL_law_535 (lv_at hl 12 rfl) ?_
  refine lv_iload hx hb dL_law_537 (lv_at hl 13 rfl) ?_
  refine nk_gVi ⟨hx, hb, hml, hown, hts⟩ (c_X8_who l D cI cZ cG cL ad hw) (cwV 2 hts (gk_gV ml_L_88 im_X8_who se_X8_who in_X8 co_X8_who) rfl rfl rfl (by decide +kernel) ⟨Nat.le_of_ble_eq_true rfl, Nat.le_of_ble_eq_true rfl⟩) (gk_recv hK.1 (gk_o0 hW.1) rfl) hW hK hS (hAA.up hS.1) rfl hl.1 (rest := [.int x19]) rfl (lv_room (Nat.le_of_ble_eq_true rfl)) dL_law_539 ⟨by show _ ≤ 600074; omega, by show _ ≤ 7301550; omega⟩ (fun r539 s539 H locs hw hW _ hk hS => ?_)
  have hR := hR.gate hk
  refine lv_iload hx hb dL_law_542 (lv_at hl 11 rfl) ?_
  refine lv_ishr hx hb dL_law_544 ?_
  refine lv_iconst (v := 1) hx hb dL_law_545 (by decide) ?_
  refine lv_iand hx hb dL_law_546 ?_
  refine lv_iconst (v := 1) hx hb dL_law_547 (by decide) ?_
  refine lv_icmp_ne (tgt := 555) hx hb dL_law_548 (by decide) (fun c548 => ?_) (fun c548 => ?_)
  · have hw := hw.1 c548
    refine lv_iconst (v := 0) hx hb dL_law_555 (by decide) ?_
    refine tJ_L_law_556 C0 hK hZ hfl hAA hrc hrs hkc hks (hk465 := hk465) (s539, σ.2) ρ x1 x4 x5 x6 x7 x10 (t0 + t1) x13 x14 x15 x16 x17 x18 x19 0 hw _ _ hW hR hS  _ (lv_sub hl [1, 2, 3, 4, 5, 6, 7, 8, 9, 0, 10, 11, 12, 13, 14, 15] rfl)
  · have hw := hw.2 c548
    refine lv_iconst (v := 1) hx hb dL_law_551 (by decide) ?_
    refine lv_goto (tgt := 556) hx hb dL_law_552 (by decide) ?_
    refine tJ_L_law_556 C0 hK hZ hfl hAA hrc hrs hkc hks (hk465 := hk465) (s539, σ.2) ρ x1 x4 x5 x6 x7 x10 (t0 + t1) x13 x14 x15 x16 x17 x18 x19 1 hw _ _ hW hR hS  _ (lv_sub hl [1, 2, 3, 4, 5, 6, 7, 8, 9, 0, 10, 11, 12, 13, 14, 15] rfl)
set_option maxHeartbeats 4000000 in
set_option maxRecDepth 100000 in
theorem tJ_L_law_515 {p : Program} {l : Launch} {e : Env} {s : State} {m : MethodId} {args : Array Value} {below : List Frame} {meth : Method} {c : Code} {D : va_G} {cI cZ cG cL : ClassId} {ad am : Nat → Nat} {q1 q2 q3 b0 L : Nat} {xs : Nat → Int32} (C0 : gk_F p s m args meth c cL_law 20 (some .boolean) RL) (hK : gk_K D cI cZ cG cL s) (hZ : nk_Z q1 q2 q3 b0 L xs (lo_A s.heap.size) s s.heap) (hfl : l.stackTraces = false) (hAA : lk_D s.heap.size ad am) {rc rs kc ks : Nat} (hrc : rc + 3 ≤ kc) (hrs : rs + 18 ≤ ks) (hkc : kc ≤ 600074) (hks : ks ≤ 7301550) {Q : State → Prop} {k465 : nk_C → lk_R → Int32 → Int32 → Int32 → Int32 → Int32 → Int64 → Int32 → Int32 → Int32 → Int32 → Int32 → Prop} (hk465 : ∀ (σ : nk_C) (ρ : lk_R) (x1 : Int32) (x4 : Int32) (x5 : Int32) (x6 : Int32) (x7 : Int32) (x10 : Int64) (x12 : Int32) (x13 : Int32) (x14 : Int32) (x15 : Int32) (x16 : Int32), k465 σ ρ x1 x4 x5 x6 x7 x10 x12 x13 x14 x15 x16 → ∀ (H : Heap) (locs : List Loc), nk_W D cI cZ cL ad am b0 σ H → rk_W D cI cG ad am ρ H → va_S (lo_A s.heap.size) s.heap H locs → ∀ (ls : Array Slot), lv_has ls 20 [(0, .ref b0), (1, .int x1), (2, .ref (am 0)), (3, .ref (ad 0)), (4, .int x4), (5, .int x5), (6, .int x6), (7, .int x7), (10, .long x10), (12, .int x12), (13, .int x13), (14, .int x14), (15, .int x15), (16, .int x16)] → W p l e room_1 s m args below meth c H locs (rc + 3) (rs + 18) Q (F0 m 465 ls [])) : ∀ (σ : nk_C) (ρ : lk_R) (x1 : Int32) (x4 : Int32) (x5 : Int32) (x6 : Int32) (x7 : Int32) (x10 : Int64) (x12 : Int32) (x13 : Int32) (x14 : Int32) (x15 : Int32) (x16 : Int32) (x17 : Int32) (x18 : Int32) (t0 : Int32), wJ_L_law_515 k465 σ ρ x1 x4 x5 x6 x7 x10 x12 x13 x14 x15 x16 x17 x18 t0 → ∀ (H : Heap) (locs : List Loc), nk_W D cI cZ cL ad am b0 σ H → rk_W D cI cG ad am ρ H → va_S (lo_A s.heap.size) s.heap H locs → ∀ (ls : Array Slot), lv_has ls 20 [(0, .ref b0), (1, .int x1), (2, .ref (am 0)), (3, .ref (ad 0)), (4, .int x4), (5, .int x5), (6, .int x6), (7, .int x7), (10, .long x10), (12, .int x12), (13, .int x13), (14, .int x14), (15, .int x15), (16, .int x16), (17, .int x17), (18, .int x18)] → W p l e room_1 s m args below meth c H locs (rc + 3) (rs + 18) Q (F0 m 515 ls [.int t0]) := by
  obtain ⟨hx, hb, hml, hown, hts, hr, hlocks⟩ := id C0
  intro σ ρ x1 x4 x5 x6 x7 x10 x12 x13 x14 x15 x16 x17 x18 t0 hw H locs hW hR hS  ls hl
  refine lv_istore (lv' := [(19, .int t0), (0, .ref b0), (1, .int x1), (2, .ref (am 0)), (3, .ref (ad 0)), (4, .int x4), (5, .int x5), (6, .int x6), (7, .int x7), (10, .long x10), (12, .int x12), (13, .int x13), (14, .int x14), (15, .int x15), (16, .int x16), (17, .int x17), (18, .int x18)]) hx hb dL_law_515 hl (by decide) rfl (fun ls hl => ?_)
  refine lv_iload hx hb dL_law_517 (lv_at hl 10 rfl) ?_
  refine lv_iload hx hb dL_law_519 (lv_at hl 0 rfl) ?_
  refine lv_if_eq (tgt := 528) hx hb dL_law_521 (by decide) (fun c521 => ?_) (fun c521 => ?_)
  · have hw := hw.1 c521
    refine lv_iconst (v := 0) hx hb dL_law_528 (by decide) ?_
    refine tJ_L_law_529 C0 hK hZ hfl hAA hrc hrs hkc hks (hk465 := hk465) σ ρ x1 x4 x5 x6 x7 x10 x13 x14 x15 x16 x17 x18 t0 x12 0 hw _ _ hW hR hS  _ (lv_sub hl [1, 2, 3, 4, 5, 6, 7, 8, 9, 11, 12, 13, 14, 15, 16, 0] rfl)
  · have hw := hw.2 c521
    refine lv_iconst (v := 1) hx hb dL_law_524 (by decide) ?_
    refine lv_goto (tgt := 529) hx hb dL_law_525 (by decide) ?_
    refine tJ_L_law_529 C0 hK hZ hfl hAA hrc hrs hkc hks (hk465 := hk465) σ ρ x1 x4 x5 x6 x7 x10 x13 x14 x15 x16 x17 x18 t0 x12 1 hw _ _ hW hR hS  _ (lv_sub hl [1, 2, 3, 4, 5, 6, 7, 8, 9, 11, 12, 13, 14, 15, 16, 0] rfl)
set_option maxHeartbeats 4000000 in
set_option maxRecDepth 100000 in
theorem tL_L_law_465 {p : Program} {l : Launch} {e : Env} {s : State} {m : MethodId} {args : Array Value} {below : List Frame} {meth : Method} {c : Code} {D : va_G} {cI cZ cG cL : ClassId} {ad am : Nat → Nat} {q1 q2 q3 b0 L : Nat} {xs : Nat → Int32} (C0 : gk_F p s m args meth c cL_law 20 (some .boolean) RL) (hK : gk_K D cI cZ cG cL s) (hZ : nk_Z q1 q2 q3 b0 L xs (lo_A s.heap.size) s s.heap) (hfl : l.stackTraces = false) (hAA : lk_D s.heap.size ad am) {rc rs kc ks : Nat} (hrc : rc + 3 ≤ kc) (hrs : rs + 18 ≤ ks) (hkc : kc ≤ 600074) (hks : ks ≤ 7301550) {Q : State → Prop} {k704 : nk_C → lk_R → Int32 → Int32 → Int32 → Int32 → Int32 → Int64 → Int32 → Int32 → Int32 → Int32 → Prop} (hk704 : ∀ (σ : nk_C) (ρ : lk_R) (x1 : Int32) (x4 : Int32) (x5 : Int32) (x6 : Int32) (x7 : Int32) (x10 : Int64) (x12 : Int32) (x13 : Int32) (x14 : Int32) (x15 : Int32), k704 σ ρ x1 x4 x5 x6 x7 x10 x12 x13 x14 x15 → ∀ (H : Heap) (locs : List Loc), nk_W D cI cZ cL ad am b0 σ H → rk_W D cI cG ad am ρ H → va_S (lo_A s.heap.size) s.heap H locs → ∀ (ls : Array Slot), lv_has ls 20 [(0, .ref b0), (1, .int x1), (2, .ref (am 0)), (3, .ref (ad 0)), (4, .int x4), (5, .int x5), (6, .int x6), (7, .int x7), (10, .long x10), (12, .int x12), (13, .int x13), (14, .int x14), (15, .int x15)] → W p l e room_1 s m args below meth c H locs (rc + 3) (rs + 18) Q (F0 m 704 ls [])) : ∀ (n : Nat) (σ : nk_C) (ρ : lk_R) (x1 : Int32) (x4 : Int32) (x5 : Int32) (x6 : Int32) (x7 : Int32) (x10 : Int64) (x12 : Int32) (x13 : Int32) (x14 : Int32) (x15 : Int32) (x16 : Int32), wL_L_law_465 k704 n σ ρ x1 x4 x5 x6 x7 x10 x12 x13 x14 x15 x16 → ∀ (H : Heap) (locs : List Loc), nk_W D cI cZ cL ad am b0 σ H → rk_W D cI cG ad am ρ H → va_S (lo_A s.heap.size) s.heap H locs → ∀ (ls : Array Slot), lv_has ls 20 [(0, .ref b0), (1, .int x1), (2, .ref (am 0)), (3, .ref (ad 0)), (4, .int x4), (5, .int x5), (6, .int x6), (7, .int x7), (10, .long x10), (12, .int x12), (13, .int x13), (14, .int x14), (15, .int x15), (16, .int x16)] → W p l e room_1 s m args below meth c H locs (rc + 3) (rs + 18) Q (F0 m 465 ls []) := by
  obtain ⟨hx, hb, hml, hown, hts, hr, hlocks⟩ := id C0
  intro n
  induction n with
  | zero => exact fun _ _ _ _ _ _ _ _ _ _ _ _ _ hw => False.elim hw
  | succ n ih =>
    intro σ ρ x1 x4 x5 x6 x7 x10 x12 x13 x14 x15 x16 hw H locs hW hR hS  ls hl
    refine lv_iload hx hb dL_law_465 (lv_at hl 13 rfl) ?_
    refine lv_aload_n hx hb dL_law_467 rfl (lv_at hl 2 rfl) ?_
    refine gk_get hx hb hts iwX9 hown hK.1 (nk_obj hW) rfl 12 (by decide) (hts _ fl_L_39) (fun _ h9 => h9) rfl dL_law_468 ?_
    refine lv_icmp_ge (tgt := 704) hx hb dL_law_471 (by decide) (fun c471 => ?_) (fun c471 => ?_)
    · have hw := hw.1 c471
      exact hk704 σ ρ x1 x4 x5 x6 x7 x10 x12 x13 x14 x15 hw _ _ hW hR hS  _ (lv_sub hl [0, 1, 2, 3, 4, 5, 6, 7, 8, 9, 10, 11, 12] rfl)
    · have hw := hw.2 c471
      refine lv_aload_n hx hb dL_law_474 rfl (lv_at hl 3 rfl) ?_
      refine lv_iload hx hb dL_law_475 (lv_at hl 11 rfl) ?_
      refine lv_iload hx hb dL_law_477 (lv_at hl 12 rfl) ?_
      refine lv_iload hx hb dL_law_479 (lv_at hl 13 rfl) ?_
      refine nk_gVi ⟨hx, hb, hml, hown, hts⟩ (c_X8_decide l D cI cZ cG cL ad hw) (cwV 3 hts (gk_gV ml_L_54 im_X8_decide se_X8_decide in_X8 co_X8_decide) rfl rfl rfl (by decide +kernel) ⟨Nat.le_of_ble_eq_true rfl, Nat.le_of_ble_eq_true rfl⟩) (gk_recv hK.1 (gk_o0 hW.1) rfl) hW hK hS (hAA.up hS.1) rfl hl.1 (rest := []) rfl (lv_room (Nat.le_of_ble_eq_true rfl)) dL_law_481 ⟨by show _ ≤ 600074; omega, by show _ ≤ 7301550; omega⟩ (fun r481 s481 H locs hw hW _ hk hS => ?_)
      have hR := hR.gate hk
      refine lv_istore (lv' := [(17, .int r481), (0, .ref b0), (1, .int x1), (2, .ref (am 0)), (3, .ref (ad 0)), (4, .int x4), (5, .int x5), (6, .int x6), (7, .int x7), (10, .long x10), (12, .int x12), (13, .int x13), (14, .int x14), (15, .int x15), (16, .int x16)]) hx hb dL_law_484 hl (by decide) rfl (fun ls hl => ?_)
      refine lv_aload_n hx hb dL_law_486 rfl (lv_at hl 4 rfl) ?_
      refine lv_iload hx hb dL_law_487 (lv_at hl 12 rfl) ?_
      refine lv_iload hx hb dL_law_489 (lv_at hl 13 rfl) ?_
      refine lv_iload hx hb dL_law_491 (lv_at hl 14 rfl) ?_
      refine nk_gVi ⟨hx, hb, hml, hown, hts⟩ (c_X8_why l D cI cZ cG cL ad hw) (cwV 3 hts (gk_gV ml_L_85 im_X8_why se_X8_why in_X8 co_X8_why) rfl rfl rfl (by decide +kernel) ⟨Nat.le_of_ble_eq_true rfl, Nat.le_of_ble_eq_true rfl⟩) (gk_recv hK.1 (gk_o0 hW.1) rfl) hW hK hS (hAA.up hS.1) rfl hl.1 (rest := []) rfl (lv_room (Nat.le_of_ble_eq_true rfl)) dL_law_493 ⟨by show _ ≤ 600074; omega, by show _ ≤ 7301550; omega⟩ (fun r493 s493 H locs hw hW _ hk hS => ?_)
      have hR := hR.gate hk
      refine lv_istore (lv' := [(18, .int r493), (17, .int r481), (0, .ref b0), (1, .int x1), (2, .ref (am 0)), (3, .ref (ad 0)), (4, .int x4), (5, .int x5), (6, .int x6), (7, .int x7), (10, .long x10), (12, .int x12), (13, .int x13), (14, .int x14), (15, .int x15), (16, .int x16)]) hx hb dL_law_496 hl (by decide) rfl (fun ls hl => ?_)
      refine lv_iload hx hb dL_law_498 (lv_at hl 1 rfl) ?_
      refine lv_iconst (v := 1) hx hb dL_law_500 (by decide) ?_
      refine lv_icmp_eq (tgt := 510) hx hb dL_law_501 (by decide) (fun c501 => ?_) (fun c501 => ?_)
      · have hw := hw.1 c501
        refine tJ_L_law_510 C0 hK hZ hfl hAA hrc hrs hkc hks (hk515 := ?_) (s493, (s481, σ.2).2) ρ x1 x4 x5 x6 x7 x10 x12 x13 x14 x15 x16 r481 r493 hw _ _ hW hR hS  _ (lv_sub hl [2, 3, 4, 5, 6, 7, 8, 9, 10, 11, 12, 13, 14, 15, 1, 0] rfl)
        · intro σ ρ x1 x4 x5 x6 x7 x10 x12 x13 x14 x15 x16 x17 x18 t0 hw H locs hW hR hS  ls hl
          refine tJ_L_law_515 C0 hK hZ hfl hAA hrc hrs hkc hks (hk465 := ih) σ ρ x1 x4 x5 x6 x7 x10 x12 x13 x14 x15 x16 x17 x18 t0 hw _ _ hW hR hS  _ hl
      · have hw := hw.2 c501
        refine lv_iload hx hb dL_law_504 (lv_at hl 1 rfl) ?_
        refine lv_iconst (v := 3) hx hb dL_law_506 (by decide) ?_
        refine lv_icmp_ne (tgt := 514) hx hb dL_law_507 (by decide) (fun c507 => ?_) (fun c507 => ?_)
        · have hw := hw.1 c507
          refine lv_iconst (v := 0) hx hb dL_law_514 (by decide) ?_
          refine tJ_L_law_515 C0 hK hZ hfl hAA hrc hrs hkc hks (hk465 := ih) (s493, (s481, σ.2).2) ρ x1 x4 x5 x6 x7 x10 x12 x13 x14 x15 x16 r481 r493 0 hw _ _ hW hR hS  _ (lv_sub hl [2, 3, 4, 5, 6, 7, 8, 9, 10, 11, 12, 13, 14, 15, 1, 0] rfl)
        · have hw := hw.2 c507
          refine tJ_L_law_510 C0 hK hZ hfl hAA hrc hrs hkc hks (hk515 := ?_) (s493, (s481, σ.2).2) ρ x1 x4 x5 x6 x7 x10 x12 x13 x14 x15 x16 r481 r493 hw _ _ hW hR hS  _ (lv_sub hl [2, 3, 4, 5, 6, 7, 8, 9, 10, 11, 12, 13, 14, 15, 1, 0] rfl)
          · intro σ ρ x1 x4 x5 x6 x7 x10 x12 x13 x14 x15 x16 x17 x18 t0 hw H locs hW hR hS  ls hl
            refine tJ_L_law_515 C0 hK hZ hfl hAA hrc hrs hkc hks (hk465 := ih) σ ρ x1 x4 x5 x6 x7 x10 x12 x13 x14 x15 x16 x17 x18 t0 hw _ _ hW hR hS  _ hl
set_option maxHeartbeats 4000000 in
set_option maxRecDepth 100000 in
theorem tL_L_law_443 {p : Program} {l : Launch} {e : Env} {s : State} {m : MethodId} {args : Array Value} {below : List Frame} {meth : Method} {c : Code} {D : va_G} {cI cZ cG cL : ClassId} {ad am : Nat → Nat} {q1 q2 q3 b0 L : Nat} {xs : Nat → Int32} (C0 : gk_F p s m args meth c cL_law 20 (some .boolean) RL) (hK : gk_K D cI cZ cG cL s) (hZ : nk_Z q1 q2 q3 b0 L xs (lo_A s.heap.size) s s.heap) (hfl : l.stackTraces = false) (hAA : lk_D s.heap.size ad am) {rc rs kc ks : Nat} (hrc : rc + 3 ≤ kc) (hrs : rs + 18 ≤ ks) (hkc : kc ≤ 600074) (hks : ks ≤ 7301550) {Q : State → Prop} {k710 : nk_C → lk_R → Int32 → Int32 → Int32 → Int32 → Int32 → Int64 → Int32 → Int32 → Int32 → Prop} (hk710 : ∀ (σ : nk_C) (ρ : lk_R) (x1 : Int32) (x4 : Int32) (x5 : Int32) (x6 : Int32) (x7 : Int32) (x10 : Int64) (x12 : Int32) (x13 : Int32) (x14 : Int32), k710 σ ρ x1 x4 x5 x6 x7 x10 x12 x13 x14 → ∀ (H : Heap) (locs : List Loc), nk_W D cI cZ cL ad am b0 σ H → rk_W D cI cG ad am ρ H → va_S (lo_A s.heap.size) s.heap H locs → ∀ (ls : Array Slot), lv_has ls 20 [(0, .ref b0), (1, .int x1), (2, .ref (am 0)), (3, .ref (ad 0)), (4, .int x4), (5, .int x5), (6, .int x6), (7, .int x7), (10, .long x10), (12, .int x12), (13, .int x13), (14, .int x14)] → W p l e room_1 s m args below meth c H locs (rc + 3) (rs + 18) Q (F0 m 710 ls [])) : ∀ (n : Nat) (σ : nk_C) (ρ : lk_R) (x1 : Int32) (x4 : Int32) (x5 : Int32) (x6 : Int32) (x7 : Int32) (x10 : Int64) (x12 : Int32) (x13 : Int32) (x14 : Int32) (x15 : Int32), wL_L_law_443 k710 n σ ρ x1 x4 x5 x6 x7 x10 x12 x13 x14 x15 → ∀ (H : Heap) (locs : List Loc), nk_W D cI cZ cL ad am b0 σ H → rk_W D cI cG ad am ρ H → va_S (lo_A s.heap.size) s.heap H locs → ∀ (ls : Array Slot), lv_has ls 20 [(0, .ref b0), (1, .int x1), (2, .ref (am 0)), (3, .ref (ad 0)), (4, .int x4), (5, .int x5), (6, .int x6), (7, .int x7), (10, .long x10), (12, .int x12), (13, .int x13), (14, .int x14), (15, .int x15)] → W p l e room_1 s m args below meth c H locs (rc + 3) (rs + 18) Q (F0 m 443 ls []) := by
  obtain ⟨hx, hb, hml, hown, hts, hr, hlocks⟩ := id C0
  intro n
  induction n with
  | zero => exact fun _ _ _ _ _ _ _ _ _ _ _ _ hw => False.elim hw
  | succ n ih =>
    intro σ ρ x1 x4 x5 x6 x7 x10 x12 x13 x14 x15 hw H locs hW hR hS  ls hl
    refine lv_iload hx hb dL_law_443 (lv_at hl 12 rfl) ?_
    refine lv_iconst (v := 5) hx hb dL_law_445 (by decide) ?_
    refine lv_icmp_ge (tgt := 710) hx hb dL_law_446 (by decide) (fun c446 => ?_) (fun c446 => ?_)
    · have hw := hw.1 c446
      exact hk710 σ ρ x1 x4 x5 x6 x7 x10 x12 x13 x14 hw _ _ hW hR hS  _ (lv_sub hl [0, 1, 2, 3, 4, 5, 6, 7, 8, 9, 10, 11] rfl)
    · have hw := hw.2 c446
      refine lv_iload hx hb dL_law_449 (lv_at hl 10 rfl) ?_
      refine lv_aload_n hx hb dL_law_451 rfl (lv_at hl 3 rfl) ?_
      refine lv_iload hx hb dL_law_452 (lv_at hl 11 rfl) ?_
      refine lv_iload hx hb dL_law_454 (lv_at hl 12 rfl) ?_
      refine nk_gVi ⟨hx, hb, hml, hown, hts⟩ (c_X8_reach l D cI cZ cG cL ad hw) (cwV 2 hts (gk_gV ml_L_82 im_X8_reach se_X8_reach in_X8 co_X8_reach) rfl rfl rfl (by decide +kernel) ⟨Nat.le_of_ble_eq_true rfl, Nat.le_of_ble_eq_true rfl⟩) (gk_recv hK.1 (gk_o0 hW.1) rfl) hW hK hS (hAA.up hS.1) rfl hl.1 (rest := [.int x13]) rfl (lv_room (Nat.le_of_ble_eq_true rfl)) dL_law_456 ⟨by show _ ≤ 600074; omega, by show _ ≤ 7301550; omega⟩ (fun r456 s456 H locs hw hW _ hk hS => ?_)
      have hR := hR.gate hk
      refine lv_iadd hx hb dL_law_459 ?_
      refine lv_istore (lv' := [(13, .int (x13 + r456)), (0, .ref b0), (1, .int x1), (2, .ref (am 0)), (3, .ref (ad 0)), (4, .int x4), (5, .int x5), (6, .int x6), (7, .int x7), (10, .long x10), (12, .int x12), (14, .int x14), (15, .int x15)]) hx hb dL_law_460 hl (by decide) rfl (fun ls hl => ?_)
      refine lv_iconst (v := 0) hx hb dL_law_462 (by decide) ?_
      refine lv_istore (lv' := [(16, .int 0), (13, .int (x13 + r456)), (0, .ref b0), (1, .int x1), (2, .ref (am 0)), (3, .ref (ad 0)), (4, .int x4), (5, .int x5), (6, .int x6), (7, .int x7), (10, .long x10), (12, .int x12), (14, .int x14), (15, .int x15)]) hx hb dL_law_463 hl (by decide) rfl (fun ls hl => ?_)
      obtain ⟨n465, hw⟩ := hw
      refine tL_L_law_465 C0 hK hZ hfl hAA hrc hrs hkc hks (hk704 := ?_) n465 (s456, σ.2) ρ x1 x4 x5 x6 x7 x10 x12 (x13 + r456) x14 x15 0 hw _ _ hW hR hS  _ (lv_sub hl [2, 3, 4, 5, 6, 7, 8, 9, 10, 11, 1, 12, 13, 0] rfl)
      · intro σ ρ x1 x4 x5 x6 x7 x10 x12 x13 x14 x15 hw H locs hW hR hS  ls hl
        refine lv_iinc (v := (x15 + 1)) (lv' := [(15, .int (x15 + 1)), (0, .ref b0), (1, .int x1), (2, .ref (am 0)), (3, .ref (ad 0)), (4, .int x4), (5, .int x5), (6, .int x6), (7, .int x7), (10, .long x10), (12, .int x12), (13, .int x13), (14, .int x14)]) hx hb dL_law_704 hl (k := 12) rfl rfl (by decide) rfl (fun ls hl => ?_)
        refine lv_goto (tgt := 443) hx hb dL_law_707 (by decide) ?_
        exact ih σ ρ x1 x4 x5 x6 x7 x10 x12 x13 x14 (x15 + 1) hw _ _ hW hR hS  _ (lv_sub hl [1, 2, 3, 4, 5, 6, 7, 8, 9, 10, 11, 12, 0] rfl)
set_option maxHeartbeats 4000000 in
set_option maxRecDepth 100000 in
theorem tL_L_law_360 {p : Program} {l : Launch} {e : Env} {s : State} {m : MethodId} {args : Array Value} {below : List Frame} {meth : Method} {c : Code} {D : va_G} {cI cZ cG cL : ClassId} {ad am : Nat → Nat} {q1 q2 q3 b0 L : Nat} {xs : Nat → Int32} (C0 : gk_F p s m args meth c cL_law 20 (some .boolean) RL) (hK : gk_K D cI cZ cG cL s) (hZ : nk_Z q1 q2 q3 b0 L xs (lo_A s.heap.size) s s.heap) (hfl : l.stackTraces = false) (hAA : lk_D s.heap.size ad am) {rc rs kc ks : Nat} (hrc : rc + 3 ≤ kc) (hrs : rs + 18 ≤ ks) (hkc : kc ≤ 600074) (hks : ks ≤ 7301550) {Q : State → Prop} {k716 : nk_C → lk_R → Int32 → Int32 → Int32 → Int32 → Int32 → Int64 → Int32 → Int32 → Prop} (hk716 : ∀ (σ : nk_C) (ρ : lk_R) (x1 : Int32) (x4 : Int32) (x5 : Int32) (x6 : Int32) (x7 : Int32) (x10 : Int64) (x12 : Int32) (x13 : Int32), k716 σ ρ x1 x4 x5 x6 x7 x10 x12 x13 → ∀ (H : Heap) (locs : List Loc), nk_W D cI cZ cL ad am b0 σ H → rk_W D cI cG ad am ρ H → va_S (lo_A s.heap.size) s.heap H locs → ∀ (ls : Array Slot), lv_has ls 20 [(0, .ref b0), (1, .int x1), (2, .ref (am 0)), (3, .ref (ad 0)), (4, .int x4), (5, .int x5), (6, .int x6), (7, .int x7), (10, .long x10), (12, .int x12), (13, .int x13)] → W p l e room_1 s m args below meth c H locs kc ks Q (F0 m 716 ls [])) : ∀ (n : Nat) (σ : nk_C) (ρ : lk_R) (x1 : Int32) (x4 : Int32) (x5 : Int32) (x6 : Int32) (x7 : Int32) (x10 : Int64) (x12 : Int32) (x13 : Int32) (x14 : Int32), wL_L_law_360 k716 n σ ρ x1 x4 x5 x6 x7 x10 x12 x13 x14 → ∀ (H : Heap) (locs : List Loc), nk_W D cI cZ cL ad am b0 σ H → rk_W D cI cG ad am ρ H → va_S (lo_A s.heap.size) s.heap H locs → ∀ (ls : Array Slot), lv_has ls 20 [(0, .ref b0), (1, .int x1), (2, .ref (am 0)), (3, .ref (ad 0)), (4, .int x4), (5, .int x5), (6, .int x6), (7, .int x7), (10, .long x10), (12, .int x12), (13, .int x13), (14, .int x14)] → W p l e room_1 s m args below meth c H locs (rc + 3) (rs + 18) Q (F0 m 360 ls []) := by
  obtain ⟨hx, hb, hml, hown, hts, hr, hlocks⟩ := id C0
  intro n
  induction n with
  | zero => exact fun _ _ _ _ _ _ _ _ _ _ _ hw => False.elim hw
  | succ n ih =>
    intro σ ρ x1 x4 x5 x6 x7 x10 x12 x13 x14 hw H locs hW hR hS  ls hl
    refine lv_iload hx hb dL_law_360 (lv_at hl 11 rfl) ?_
    refine lv_aload_n hx hb dL_law_362 rfl (lv_at hl 2 rfl) ?_
    refine gk_get hx hb hts iwX9 hown hK.1 (nk_obj hW) rfl 5 (by decide) (hts _ fl_L_31) (fun _ h9 => h9) rfl dL_law_363 ?_
    refine lv_icmp_ge (tgt := 716) hx hb dL_law_366 (by decide) (fun c366 => ?_) (fun c366 => ?_)
    · have hw := hw.1 c366
      refine W.widen (k := kc) (n := ks) (by omega) (by omega) ?_
      exact hk716 σ ρ x1 x4 x5 x6 x7 x10 x12 x13 hw _ _ hW hR hS  _ (lv_sub hl [0, 1, 2, 3, 4, 5, 6, 7, 8, 9, 10] rfl)
    · have hw := hw.2 c366
      refine lv_iconst (v := 0) hx hb dL_law_369 (by decide) ?_
      refine lv_istore (lv' := [(15, .int 0), (0, .ref b0), (1, .int x1), (2, .ref (am 0)), (3, .ref (ad 0)), (4, .int x4), (5, .int x5), (6, .int x6), (7, .int x7), (10, .long x10), (12, .int x12), (13, .int x13), (14, .int x14)]) hx hb dL_law_370 hl (by decide) rfl (fun ls hl => ?_)
      obtain ⟨n372, hw⟩ := hw
      refine tL_L_law_372 C0 hK hZ hfl hAA hrc hrs hkc hks (hk440 := ?_) n372 σ ρ x1 x4 x5 x6 x7 x10 x12 x13 x14 0 hw _ _ hW hR hS  _ (lv_sub hl [1, 2, 3, 4, 5, 6, 7, 8, 9, 10, 11, 12, 0] rfl)
      · intro σ ρ x1 x4 x5 x6 x7 x10 x12 x13 x14 hw H locs hW hR hS  ls hl
        refine lv_iconst (v := 0) hx hb dL_law_440 (by decide) ?_
        refine lv_istore (lv' := [(15, .int 0), (0, .ref b0), (1, .int x1), (2, .ref (am 0)), (3, .ref (ad 0)), (4, .int x4), (5, .int x5), (6, .int x6), (7, .int x7), (10, .long x10), (12, .int x12), (13, .int x13), (14, .int x14)]) hx hb dL_law_441 hl (by decide) rfl (fun ls hl => ?_)
        obtain ⟨n443, hw⟩ := hw
        refine tL_L_law_443 C0 hK hZ hfl hAA hrc hrs hkc hks (hk710 := ?_) n443 σ ρ x1 x4 x5 x6 x7 x10 x12 x13 x14 0 hw _ _ hW hR hS  _ (lv_sub hl [1, 2, 3, 4, 5, 6, 7, 8, 9, 10, 11, 12, 0] rfl)
        · intro σ ρ x1 x4 x5 x6 x7 x10 x12 x13 x14 hw H locs hW hR hS  ls hl
          refine lv_iinc (v := (x14 + 1)) (lv' := [(14, .int (x14 + 1)), (0, .ref b0), (1, .int x1), (2, .ref (am 0)), (3, .ref (ad 0)), (4, .int x4), (5, .int x5), (6, .int x6), (7, .int x7), (10, .long x10), (12, .int x12), (13, .int x13)]) hx hb dL_law_710 hl (k := 11) rfl rfl (by decide) rfl (fun ls hl => ?_)
          refine lv_goto (tgt := 360) hx hb dL_law_713 (by decide) ?_
          exact ih σ ρ x1 x4 x5 x6 x7 x10 x12 x13 (x14 + 1) hw _ _ hW hR hS  _ (lv_sub hl [1, 2, 3, 4, 5, 6, 7, 8, 9, 10, 11, 0] rfl)
set_option maxHeartbeats 4000000 in
set_option maxRecDepth 100000 in
theorem tJ_L_law_346 {p : Program} {l : Launch} {e : Env} {s : State} {m : MethodId} {args : Array Value} {below : List Frame} {meth : Method} {c : Code} {D : va_G} {cI cZ cG cL : ClassId} {ad am : Nat → Nat} {q1 q2 q3 b0 L : Nat} {xs : Nat → Int32} (C0 : gk_F p s m args meth c cL_law 20 (some .boolean) RL) (hK : gk_K D cI cZ cG cL s) (hZ : nk_Z q1 q2 q3 b0 L xs (lo_A s.heap.size) s s.heap) (hfl : l.stackTraces = false) (hAA : lk_D s.heap.size ad am) {rc rs kc ks : Nat} (hrc : rc + 3 ≤ kc) (hrs : rs + 18 ≤ ks) (hkc : kc ≤ 600074) (hks : ks ≤ 7301550) {Q : State → Prop} {k716 : nk_C → lk_R → Int32 → Int32 → Int32 → Int32 → Int32 → Int64 → Int32 → Int32 → Prop} (hk716 : ∀ (σ : nk_C) (ρ : lk_R) (x1 : Int32) (x4 : Int32) (x5 : Int32) (x6 : Int32) (x7 : Int32) (x10 : Int64) (x12 : Int32) (x13 : Int32), k716 σ ρ x1 x4 x5 x6 x7 x10 x12 x13 → ∀ (H : Heap) (locs : List Loc), nk_W D cI cZ cL ad am b0 σ H → rk_W D cI cG ad am ρ H → va_S (lo_A s.heap.size) s.heap H locs → ∀ (ls : Array Slot), lv_has ls 20 [(0, .ref b0), (1, .int x1), (2, .ref (am 0)), (3, .ref (ad 0)), (4, .int x4), (5, .int x5), (6, .int x6), (7, .int x7), (10, .long x10), (12, .int x12), (13, .int x13)] → W p l e room_1 s m args below meth c H locs kc ks Q (F0 m 716 ls [])) : ∀ (σ : nk_C) (ρ : lk_R) (x1 : Int32) (x4 : Int32) (x5 : Int32) (x6 : Int32) (x7 : Int32) (x10 : Int64) (t0 : Int32) (t1 : Int32), wJ_L_law_346 k716 σ ρ x1 x4 x5 x6 x7 x10 t0 t1 → ∀ (H : Heap) (locs : List Loc), nk_W D cI cZ cL ad am b0 σ H → rk_W D cI cG ad am ρ H → va_S (lo_A s.heap.size) s.heap H locs → ∀ (ls : Array Slot), lv_has ls 20 [(0, .ref b0), (1, .int x1), (2, .ref (am 0)), (3, .ref (ad 0)), (4, .int x4), (5, .int x5), (6, .int x6), (7, .int x7), (10, .long x10)] → W p l e room_1 s m args below meth c H locs (rc + 3) (rs + 18) Q (F0 m 346 ls [.int t1, .int t0]) := by
  obtain ⟨hx, hb, hml, hown, hts, hr, hlocks⟩ := id C0
  intro σ ρ x1 x4 x5 x6 x7 x10 t0 t1 hw H locs hW hR hS  ls hl
  refine lv_icmp_eq (tgt := 351) hx hb dL_law_346 (by decide) (fun c346 => ?_) (fun c346 => ?_)
  · have hw := hw.1 c346
    refine lv_iconst (v := 0) hx hb dL_law_351 (by decide) ?_
    refine lv_istore (lv' := [(12, .int 0), (0, .ref b0), (1, .int x1), (2, .ref (am 0)), (3, .ref (ad 0)), (4, .int x4), (5, .int x5), (6, .int x6), (7, .int x7), (10, .long x10)]) hx hb dL_law_352 hl (by decide) rfl (fun ls hl => ?_)
    refine lv_iconst (v := 0) hx hb dL_law_354 (by decide) ?_
    refine lv_istore (lv' := [(13, .int 0), (12, .int 0), (0, .ref b0), (1, .int x1), (2, .ref (am 0)), (3, .ref (ad 0)), (4, .int x4), (5, .int x5), (6, .int x6), (7, .int x7), (10, .long x10)]) hx hb dL_law_355 hl (by decide) rfl (fun ls hl => ?_)
    refine lv_iconst (v := 0) hx hb dL_law_357 (by decide) ?_
    refine lv_istore (lv' := [(14, .int 0), (13, .int 0), (12, .int 0), (0, .ref b0), (1, .int x1), (2, .ref (am 0)), (3, .ref (ad 0)), (4, .int x4), (5, .int x5), (6, .int x6), (7, .int x7), (10, .long x10)]) hx hb dL_law_358 hl (by decide) rfl (fun ls hl => ?_)
    obtain ⟨n360, hw⟩ := hw
    refine tL_L_law_360 C0 hK hZ hfl hAA hrc hrs hkc hks (hk716 := hk716) n360 σ ρ x1 x4 x5 x6 x7 x10 0 0 0 hw _ _ hW hR hS  _ (lv_sub hl [3, 4, 5, 6, 7, 8, 9, 10, 11, 2, 1, 0] rfl)
  · have hw := hw.2 c346
    refine lv_iconst (v := 0) hx hb dL_law_349 (by decide) ?_
    exact False.elim hw
set_option maxHeartbeats 4000000 in
set_option maxRecDepth 100000 in
theorem tJ_L_law_328 {p : Program} {l : Launch} {e : Env} {s : State} {m : MethodId} {args : Array Value} {below : List Frame} {meth : Method} {c : Code} {D : va_G} {cI cZ cG cL : ClassId} {ad am : Nat → Nat} {q1 q2 q3 b0 L : Nat} {xs : Nat → Int32} (C0 : gk_F p s m args meth c cL_law 20 (some .boolean) RL) (hK : gk_K D cI cZ cG cL s) (hZ : nk_Z q1 q2 q3 b0 L xs (lo_A s.heap.size) s s.heap) (hfl : l.stackTraces = false) (hAA : lk_D s.heap.size ad am) {rc rs kc ks : Nat} (hrc : rc + 3 ≤ kc) (hrs : rs + 18 ≤ ks) (hkc : kc ≤ 600074) (hks : ks ≤ 7301550) {Q : State → Prop} {k716 : nk_C → lk_R → Int32 → Int32 → Int32 → Int32 → Int32 → Int64 → Int32 → Int32 → Prop} (hk716 : ∀ (σ : nk_C) (ρ : lk_R) (x1 : Int32) (x4 : Int32) (x5 : Int32) (x6 : Int32) (x7 : Int32) (x10 : Int64) (x12 : Int32) (x13 : Int32), k716 σ ρ x1 x4 x5 x6 x7 x10 x12 x13 → ∀ (H : Heap) (locs : List Loc), nk_W D cI cZ cL ad am b0 σ H → rk_W D cI cG ad am ρ H → va_S (lo_A s.heap.size) s.heap H locs → ∀ (ls : Array Slot), lv_has ls 20 [(0, .ref b0), (1, .int x1), (2, .ref (am 0)), (3, .ref (ad 0)), (4, .int x4), (5, .int x5), (6, .int x6), (7, .int x7), (10, .long x10), (12, .int x12), (13, .int x13)] → W p l e room_1 s m args below meth c H locs kc ks Q (F0 m 716 ls [])) : ∀ (σ : nk_C) (ρ : lk_R) (x1 : Int32) (x4 : Int32) (x5 : Int32) (x6 : Int32) (x7 : Int32) (x10 : Int64) (t0 : Int32), wJ_L_law_328 k716 σ ρ x1 x4 x5 x6 x7 x10 t0 → ∀ (H : Heap) (locs : List Loc), nk_W D cI cZ cL ad am b0 σ H → rk_W D cI cG ad am ρ H → va_S (lo_A s.heap.size) s.heap H locs → ∀ (ls : Array Slot), lv_has ls 20 [(0, .ref b0), (1, .int x1), (2, .ref (am 0)), (3, .ref (ad 0)), (4, .int x4), (5, .int x5), (6, .int x6), (7, .int x7), (10, .long x10)] → W p l e room_1 s m args below meth c H locs (rc + 3) (rs + 18) Q (F0 m 328 ls [.int t0]) := by
  obtain ⟨hx, hb, hml, hown, hts, hr, hlocks⟩ := id C0
  intro σ ρ x1 x4 x5 x6 x7 x10 t0 hw H locs hW hR hS  ls hl
  refine lv_aload_n hx hb dL_law_328 rfl (lv_at hl 3 rfl) ?_
  refine lv_iload hx hb dL_law_329 (lv_at hl 5 rfl) ?_
  refine lv_iload hx hb dL_law_331 (lv_at hl 6 rfl) ?_
  refine lv_iload hx hb dL_law_333 (lv_at hl 7 rfl) ?_
  refine nk_gVi ⟨hx, hb, hml, hown, hts⟩ (c_X8_rolesNeeded l D cI cZ cG cL ad hw) (cwV 3 hts (gk_gV ml_L_69 im_X8_rolesNeeded se_X8_rolesNeeded in_X8 co_X8_rolesNeeded) rfl rfl rfl (by decide +kernel) ⟨Nat.le_of_ble_eq_true rfl, Nat.le_of_ble_eq_true rfl⟩) (gk_recv hK.1 (gk_o0 hW.1) rfl) hW hK hS (hAA.up hS.1) rfl hl.1 (rest := [.int t0]) rfl (lv_room (Nat.le_of_ble_eq_true rfl)) dL_law_335 ⟨by show _ ≤ 600074; omega, by show _ ≤ 7301550; omega⟩ (fun r335 s335 H locs hw hW _ hk hS => ?_)
  have hR := hR.gate hk
  refine lv_if_ne (tgt := 345) hx hb dL_law_338 (by decide) (fun c338 => ?_) (fun c338 => ?_)
  · have hw := hw.1 c338
    refine lv_iconst (v := 0) hx hb dL_law_345 (by decide) ?_
    refine tJ_L_law_346 C0 hK hZ hfl hAA hrc hrs hkc hks (hk716 := hk716) (s335, σ.2) ρ x1 x4 x5 x6 x7 x10 t0 0 hw _ _ hW hR hS  _ hl
  · have hw := hw.2 c338
    refine lv_iconst (v := 1) hx hb dL_law_341 (by decide) ?_
    refine lv_goto (tgt := 346) hx hb dL_law_342 (by decide) ?_
    refine tJ_L_law_346 C0 hK hZ hfl hAA hrc hrs hkc hks (hk716 := hk716) (s335, σ.2) ρ x1 x4 x5 x6 x7 x10 t0 1 hw _ _ hW hR hS  _ hl
set_option maxHeartbeats 4000000 in
set_option maxRecDepth 100000 in
theorem tJ_L_law_288 {p : Program} {l : Launch} {e : Env} {s : State} {m : MethodId} {args : Array Value} {below : List Frame} {meth : Method} {c : Code} {D : va_G} {cI cZ cG cL : ClassId} {ad am : Nat → Nat} {q1 q2 q3 b0 L : Nat} {xs : Nat → Int32} (C0 : gk_F p s m args meth c cL_law 20 (some .boolean) RL) (hK : gk_K D cI cZ cG cL s) (hZ : nk_Z q1 q2 q3 b0 L xs (lo_A s.heap.size) s s.heap) (hfl : l.stackTraces = false) (hAA : lk_D s.heap.size ad am) {rc rs kc ks : Nat} (hrc : rc + 3 ≤ kc) (hrs : rs + 18 ≤ ks) (hkc : kc ≤ 600074) (hks : ks ≤ 7301550) {Q : State → Prop} {k716 : nk_C → lk_R → Int32 → Int32 → Int32 → Int32 → Int32 → Int64 → Int32 → Int32 → Prop} (hk716 : ∀ (σ : nk_C) (ρ : lk_R) (x1 : Int32) (x4 : Int32) (x5 : Int32) (x6 : Int32) (x7 : Int32) (x10 : Int64) (x12 : Int32) (x13 : Int32), k716 σ ρ x1 x4 x5 x6 x7 x10 x12 x13 → ∀ (H : Heap) (locs : List Loc), nk_W D cI cZ cL ad am b0 σ H → rk_W D cI cG ad am ρ H → va_S (lo_A s.heap.size) s.heap H locs → ∀ (ls : Array Slot), lv_has ls 20 [(0, .ref b0), (1, .int x1), (2, .ref (am 0)), (3, .ref (ad 0)), (4, .int x4), (5, .int x5), (6, .int x6), (7, .int x7), (10, .long x10), (12, .int x12), (13, .int x13)] → W p l e room_1 s m args below meth c H locs kc ks Q (F0 m 716 ls [])) : ∀ (σ : nk_C) (ρ : lk_R) (x1 : Int32) (x4 : Int32) (x5 : Int32) (x6 : Int32) (x7 : Int32) (t0 : Int32) (t1 : Int32), wJ_L_law_288 k716 σ ρ x1 x4 x5 x6 x7 t0 t1 → ∀ (H : Heap) (locs : List Loc), nk_W D cI cZ cL ad am b0 σ H → rk_W D cI cG ad am ρ H → va_S (lo_A s.heap.size) s.heap H locs → ∀ (ls : Array Slot), lv_has ls 20 [(0, .ref b0), (1, .int x1), (2, .ref (am 0)), (3, .ref (ad 0)), (4, .int x4), (5, .int x5), (6, .int x6), (7, .int x7)] → W p l e room_1 s m args below meth c H locs (rc + 3) (rs + 18) Q (F0 m 288 ls [.int t1, .int t0]) := by
  obtain ⟨hx, hb, hml, hown, hts, hr, hlocks⟩ := id C0
  intro σ ρ x1 x4 x5 x6 x7 t0 t1 hw H locs hW hR hS  ls hl
  refine lv_icmp_eq (tgt := 293) hx hb dL_law_288 (by decide) (fun c288 => ?_) (fun c288 => ?_)
  · have hw := hw.1 c288
    refine lv_aload_n hx hb dL_law_293 rfl (lv_at hl 3 rfl) ?_
    refine lv_iload hx hb dL_law_294 (lv_at hl 5 rfl) ?_
    refine lv_iload hx hb dL_law_296 (lv_at hl 6 rfl) ?_
    refine lv_iload hx hb dL_law_298 (lv_at hl 7 rfl) ?_
    refine nk_gVi ⟨hx, hb, hml, hown, hts⟩ (c_X8_decide l D cI cZ cG cL ad hw) (cwV 3 hts (gk_gV ml_L_54 im_X8_decide se_X8_decide in_X8 co_X8_decide) rfl rfl rfl (by decide +kernel) ⟨Nat.le_of_ble_eq_true rfl, Nat.le_of_ble_eq_true rfl⟩) (gk_recv hK.1 (gk_o0 hW.1) rfl) hW hK hS (hAA.up hS.1) rfl hl.1 (rest := []) rfl (lv_room (Nat.le_of_ble_eq_true rfl)) dL_law_300 ⟨by show _ ≤ 600074; omega, by show _ ≤ 7301550; omega⟩ (fun r300 s300 H locs hw hW _ hk hS => ?_)
    have hR := hR.gate hk
    refine lv_istore (lv' := [(8, .int r300), (0, .ref b0), (1, .int x1), (2, .ref (am 0)), (3, .ref (ad 0)), (4, .int x4), (5, .int x5), (6, .int x6), (7, .int x7)]) hx hb dL_law_303 hl (by decide) rfl (fun ls hl => ?_)
    refine lv_aload_n hx hb dL_law_305 rfl (lv_at hl 4 rfl) ?_
    refine nk_gVl ⟨hx, hb, hml, hown, hts⟩ (c_X8_digest l D cI cZ cG cL ad hw) (cwV 0 hts (gk_gV ml_L_65 im_X8_digest se_X8_digest in_X8 co_X8_digest) rfl rfl rfl (by decide +kernel) ⟨Nat.le_of_ble_eq_true rfl, Nat.le_of_ble_eq_true rfl⟩) (gk_recv hK.1 (gk_o0 hW.1) rfl) hW hK hS (hAA.up hS.1) rfl hl.1 (rest := []) rfl (lv_room (Nat.le_of_ble_eq_true rfl)) dL_law_306 ⟨by show _ ≤ 600074; omega, by show _ ≤ 7301550; omega⟩ (fun r306 s306 H locs hw hW _ hk hS => ?_)
    have hR := hR.gate hk
    refine lv_lstore (lv' := [(10, .long r306), (8, .int r300), (0, .ref b0), (1, .int x1), (2, .ref (am 0)), (3, .ref (ad 0)), (4, .int x4), (5, .int x5), (6, .int x6), (7, .int x7)]) hx hb dL_law_309 hl (by decide) rfl (fun ls hl => ?_)
    refine lv_iload hx hb dL_law_311 (lv_at hl 1 rfl) ?_
    refine lv_iconst (v := 1) hx hb dL_law_313 (by decide) ?_
    refine lv_icmp_eq (tgt := 323) hx hb dL_law_314 (by decide) (fun c314 => ?_) (fun c314 => ?_)
    · have hw := hw.1 c314
      refine tJ_L_law_323 C0 hK hZ hfl hAA hrc hrs hkc hks (hk328 := ?_) (s306, (s300, σ.2).2) ρ x1 x4 x5 x6 x7 r306 hw _ _ hW hR hS  _ (lv_sub hl [2, 3, 4, 5, 6, 7, 8, 9, 0] rfl)
      · intro σ ρ x1 x4 x5 x6 x7 x10 t0 hw H locs hW hR hS  ls hl
        refine tJ_L_law_328 C0 hK hZ hfl hAA hrc hrs hkc hks (hk716 := hk716) σ ρ x1 x4 x5 x6 x7 x10 t0 hw _ _ hW hR hS  _ hl
    · have hw := hw.2 c314
      refine lv_iload hx hb dL_law_317 (lv_at hl 1 rfl) ?_
      refine lv_iconst (v := 3) hx hb dL_law_319 (by decide) ?_
      refine lv_icmp_ne (tgt := 327) hx hb dL_law_320 (by decide) (fun c320 => ?_) (fun c320 => ?_)
      · have hw := hw.1 c320
        refine lv_iconst (v := 0) hx hb dL_law_327 (by decide) ?_
        refine tJ_L_law_328 C0 hK hZ hfl hAA hrc hrs hkc hks (hk716 := hk716) (s306, (s300, σ.2).2) ρ x1 x4 x5 x6 x7 r306 0 hw _ _ hW hR hS  _ (lv_sub hl [2, 3, 4, 5, 6, 7, 8, 9, 0] rfl)
      · have hw := hw.2 c320
        refine tJ_L_law_323 C0 hK hZ hfl hAA hrc hrs hkc hks (hk328 := ?_) (s306, (s300, σ.2).2) ρ x1 x4 x5 x6 x7 r306 hw _ _ hW hR hS  _ (lv_sub hl [2, 3, 4, 5, 6, 7, 8, 9, 0] rfl)
        · intro σ ρ x1 x4 x5 x6 x7 x10 t0 hw H locs hW hR hS  ls hl
          refine tJ_L_law_328 C0 hK hZ hfl hAA hrc hrs hkc hks (hk716 := hk716) σ ρ x1 x4 x5 x6 x7 x10 t0 hw _ _ hW hR hS  _ hl
  · have hw := hw.2 c288
    refine lv_iconst (v := 0) hx hb dL_law_291 (by decide) ?_
    exact False.elim hw
set_option maxHeartbeats 4000000 in
set_option maxRecDepth 100000 in
theorem tJ_L_law_266 {p : Program} {l : Launch} {e : Env} {s : State} {m : MethodId} {args : Array Value} {below : List Frame} {meth : Method} {c : Code} {D : va_G} {cI cZ cG cL : ClassId} {ad am : Nat → Nat} {q1 q2 q3 b0 L : Nat} {xs : Nat → Int32} (C0 : gk_F p s m args meth c cL_law 20 (some .boolean) RL) (hK : gk_K D cI cZ cG cL s) (hZ : nk_Z q1 q2 q3 b0 L xs (lo_A s.heap.size) s s.heap) (hfl : l.stackTraces = false) (hAA : lk_D s.heap.size ad am) {rc rs kc ks : Nat} (hrc : rc + 3 ≤ kc) (hrs : rs + 18 ≤ ks) (hkc : kc ≤ 600074) (hks : ks ≤ 7301550) {Q : State → Prop} {k716 : nk_C → lk_R → Int32 → Int32 → Int32 → Int32 → Int32 → Int64 → Int32 → Int32 → Prop} (hk716 : ∀ (σ : nk_C) (ρ : lk_R) (x1 : Int32) (x4 : Int32) (x5 : Int32) (x6 : Int32) (x7 : Int32) (x10 : Int64) (x12 : Int32) (x13 : Int32), k716 σ ρ x1 x4 x5 x6 x7 x10 x12 x13 → ∀ (H : Heap) (locs : List Loc), nk_W D cI cZ cL ad am b0 σ H → rk_W D cI cG ad am ρ H → va_S (lo_A s.heap.size) s.heap H locs → ∀ (ls : Array Slot), lv_has ls 20 [(0, .ref b0), (1, .int x1), (2, .ref (am 0)), (3, .ref (ad 0)), (4, .int x4), (5, .int x5), (6, .int x6), (7, .int x7), (10, .long x10), (12, .int x12), (13, .int x13)] → W p l e room_1 s m args below meth c H locs kc ks Q (F0 m 716 ls [])) : ∀ (σ : nk_C) (ρ : lk_R) (x1 : Int32) (x4 : Int32) (x5 : Int32) (x6 : Int32) (x7 : Int32) (x8 : Int32) (x9 : Int32) (t0 : Int32), wJ_L_law_266 k716 σ ρ x1 x4 x5 x6 x7 x8 x9 t0 → ∀ (H : Heap) (locs : List Loc), nk_W D cI cZ cL ad am b0 σ H → rk_W D cI cG ad am ρ H → va_S (lo_A s.heap.size) s.heap H locs → ∀ (ls : Array Slot), lv_has ls 20 [(0, .ref b0), (1, .int x1), (2, .ref (am 0)), (3, .ref (ad 0)), (4, .int x4), (5, .int x5), (6, .int x6), (7, .int x7), (8, .int x8), (9, .int x9)] → W p l e room_1 s m args below meth c H locs (rc + 3) (rs + 18) Q (F0 m 266 ls [.int t0]) := by
  obtain ⟨hx, hb, hml, hown, hts, hr, hlocks⟩ := id C0
  intro σ ρ x1 x4 x5 x6 x7 x8 x9 t0 hw H locs hW hR hS  ls hl
  refine lv_iload hx hb dL_law_266 (lv_at hl 9 rfl) ?_
  refine lv_if_ne (tgt := 283) hx hb dL_law_268 (by decide) (fun c268 => ?_) (fun c268 => ?_)
  · have hw := hw.1 c268
    refine tJ_L_law_283 C0 hK hZ hfl hAA hrc hrs hkc hks (hk288 := ?_) σ ρ x1 x4 x5 x6 x7 t0 hw _ _ hW hR hS  _ (lv_sub hl [0, 1, 2, 3, 4, 5, 6, 7] rfl)
    · intro σ ρ x1 x4 x5 x6 x7 t0 t1 hw H locs hW hR hS  ls hl
      refine tJ_L_law_288 C0 hK hZ hfl hAA hrc hrs hkc hks (hk716 := hk716) σ ρ x1 x4 x5 x6 x7 t0 t1 hw _ _ hW hR hS  _ hl
  · have hw := hw.2 c268
    refine lv_iload hx hb dL_law_271 (lv_at hl 8 rfl) ?_
    refine lv_iconst (v := 1) hx hb dL_law_273 (by decide) ?_
    refine lv_icmp_eq (tgt := 283) hx hb dL_law_274 (by decide) (fun c274 => ?_) (fun c274 => ?_)
    · have hw := hw.1 c274
      refine tJ_L_law_283 C0 hK hZ hfl hAA hrc hrs hkc hks (hk288 := ?_) σ ρ x1 x4 x5 x6 x7 t0 hw _ _ hW hR hS  _ (lv_sub hl [0, 1, 2, 3, 4, 5, 6, 7] rfl)
      · intro σ ρ x1 x4 x5 x6 x7 t0 t1 hw H locs hW hR hS  ls hl
        refine tJ_L_law_288 C0 hK hZ hfl hAA hrc hrs hkc hks (hk716 := hk716) σ ρ x1 x4 x5 x6 x7 t0 t1 hw _ _ hW hR hS  _ hl
    · have hw := hw.2 c274
      refine lv_iload hx hb dL_law_277 (lv_at hl 8 rfl) ?_
      refine lv_iconst (v := 3) hx hb dL_law_279 (by decide) ?_
      refine lv_icmp_ne (tgt := 287) hx hb dL_law_280 (by decide) (fun c280 => ?_) (fun c280 => ?_)
      · have hw := hw.1 c280
        refine lv_iconst (v := 0) hx hb dL_law_287 (by decide) ?_
        refine tJ_L_law_288 C0 hK hZ hfl hAA hrc hrs hkc hks (hk716 := hk716) σ ρ x1 x4 x5 x6 x7 t0 0 hw _ _ hW hR hS  _ (lv_sub hl [0, 1, 2, 3, 4, 5, 6, 7] rfl)
      · have hw := hw.2 c280
        refine tJ_L_law_283 C0 hK hZ hfl hAA hrc hrs hkc hks (hk288 := ?_) σ ρ x1 x4 x5 x6 x7 t0 hw _ _ hW hR hS  _ (lv_sub hl [0, 1, 2, 3, 4, 5, 6, 7] rfl)
        · intro σ ρ x1 x4 x5 x6 x7 t0 t1 hw H locs hW hR hS  ls hl
          refine tJ_L_law_288 C0 hK hZ hfl hAA hrc hrs hkc hks (hk716 := hk716) σ ρ x1 x4 x5 x6 x7 t0 t1 hw _ _ hW hR hS  _ hl
set_option maxHeartbeats 4000000 in
set_option maxRecDepth 100000 in
theorem tJ_L_law_227 {p : Program} {l : Launch} {e : Env} {s : State} {m : MethodId} {args : Array Value} {below : List Frame} {meth : Method} {c : Code} {D : va_G} {cI cZ cG cL : ClassId} {ad am : Nat → Nat} {q1 q2 q3 b0 L : Nat} {xs : Nat → Int32} (C0 : gk_F p s m args meth c cL_law 20 (some .boolean) RL) (hK : gk_K D cI cZ cG cL s) (hZ : nk_Z q1 q2 q3 b0 L xs (lo_A s.heap.size) s s.heap) (hfl : l.stackTraces = false) (hAA : lk_D s.heap.size ad am) {rc rs kc ks : Nat} (hrc : rc + 3 ≤ kc) (hrs : rs + 18 ≤ ks) (hkc : kc ≤ 600074) (hks : ks ≤ 7301550) {Q : State → Prop} {k716 : nk_C → lk_R → Int32 → Int32 → Int32 → Int32 → Int32 → Int64 → Int32 → Int32 → Prop} (hk716 : ∀ (σ : nk_C) (ρ : lk_R) (x1 : Int32) (x4 : Int32) (x5 : Int32) (x6 : Int32) (x7 : Int32) (x10 : Int64) (x12 : Int32) (x13 : Int32), k716 σ ρ x1 x4 x5 x6 x7 x10 x12 x13 → ∀ (H : Heap) (locs : List Loc), nk_W D cI cZ cL ad am b0 σ H → rk_W D cI cG ad am ρ H → va_S (lo_A s.heap.size) s.heap H locs → ∀ (ls : Array Slot), lv_has ls 20 [(0, .ref b0), (1, .int x1), (2, .ref (am 0)), (3, .ref (ad 0)), (4, .int x4), (5, .int x5), (6, .int x6), (7, .int x7), (10, .long x10), (12, .int x12), (13, .int x13)] → W p l e room_1 s m args below meth c H locs kc ks Q (F0 m 716 ls [])) : ∀ (σ : nk_C) (ρ : lk_R) (x1 : Int32) (x4 : Int32) (x5 : Int32) (x6 : Int32) (x7 : Int32) (x8 : Int32) (t0 : Int32), wJ_L_law_227 k716 σ ρ x1 x4 x5 x6 x7 x8 t0 → ∀ (H : Heap) (locs : List Loc), nk_W D cI cZ cL ad am b0 σ H → rk_W D cI cG ad am ρ H → va_S (lo_A s.heap.size) s.heap H locs → ∀ (ls : Array Slot), lv_has ls 20 [(0, .ref b0), (1, .int x1), (2, .ref (am 0)), (3, .ref (ad 0)), (4, .int x4), (5, .int x5), (6, .int x6), (7, .int x7), (8, .int x8)] → W p l e room_1 s m args below meth c H locs (rc + 3) (rs + 18) Q (F0 m 227 ls [.int t0]) := by
  obtain ⟨hx, hb, hml, hown, hts, hr, hlocks⟩ := id C0
  intro σ ρ x1 x4 x5 x6 x7 x8 t0 hw H locs hW hR hS  ls hl
  refine lv_istore (lv' := [(9, .int t0), (0, .ref b0), (1, .int x1), (2, .ref (am 0)), (3, .ref (ad 0)), (4, .int x4), (5, .int x5), (6, .int x6), (7, .int x7), (8, .int x8)]) hx hb dL_law_227 hl (by decide) rfl (fun ls hl => ?_)
  refine lv_aload_n hx hb dL_law_229 rfl (lv_at hl 4 rfl) ?_
  refine lv_iload hx hb dL_law_230 (lv_at hl 6 rfl) ?_
  refine lv_iload hx hb dL_law_232 (lv_at hl 7 rfl) ?_
  refine lv_iload hx hb dL_law_234 (lv_at hl 8 rfl) ?_
  refine nk_gVi ⟨hx, hb, hml, hown, hts⟩ (c_X8_access l D cI cZ cG cL ad hw) (cwV 3 hts (gk_gV ml_L_62 im_X8_access se_X8_access in_X8 co_X8_access) rfl rfl rfl (by decide +kernel) ⟨Nat.le_of_ble_eq_true rfl, Nat.le_of_ble_eq_true rfl⟩) (gk_recv hK.1 (gk_o0 hW.1) rfl) hW hK hS (hAA.up hS.1) rfl hl.1 (rest := []) rfl (lv_room (Nat.le_of_ble_eq_true rfl)) dL_law_236 ⟨by show _ ≤ 600074; omega, by show _ ≤ 7301550; omega⟩ (fun r236 s236 H locs hw hW _ hk hS => ?_)
  have hR := hR.gate hk
  refine lv_iload hx hb dL_law_239 (lv_at hl 9 rfl) ?_
  refine lv_icmp_ne (tgt := 291) hx hb dL_law_241 (by decide) (fun c241 => ?_) (fun c241 => ?_)
  · have hw := hw.1 c241
    refine lv_iconst (v := 0) hx hb dL_law_291 (by decide) ?_
    exact False.elim hw
  · have hw := hw.2 c241
    refine lv_aload_n hx hb dL_law_244 rfl (lv_at hl 4 rfl) ?_
    refine lv_iload hx hb dL_law_245 (lv_at hl 6 rfl) ?_
    refine lv_iload hx hb dL_law_247 (lv_at hl 8 rfl) ?_
    refine nk_gRi ⟨hx, hb, hml, hown, hts⟩ (c_X8_done l D cI cZ cG cL ad hw) (cwV 2 hts (gk_gV ml_L_58 im_X8_done se_X8_done in_X8 co_X8_done) rfl rfl rfl (by decide +kernel) ⟨Nat.le_of_ble_eq_true rfl, Nat.le_of_ble_eq_true rfl⟩) (gk_recv hK.1 (gk_o0 hW.1) rfl) hW hK hS (hAA.up hS.1) rfl hl.1 (rest := []) rfl (lv_room (Nat.le_of_ble_eq_true rfl)) dL_law_249 ⟨by show _ ≤ 600074; omega, by show _ ≤ 7301550; omega⟩ (fun r249 H locs hw hW _ hk hS => ?_)
    have hR := hR.gate hk
    refine lv_iload hx hb dL_law_252 (lv_at hl 7 rfl) ?_
    refine lv_ishr hx hb dL_law_254 ?_
    refine lv_iconst (v := 1) hx hb dL_law_255 (by decide) ?_
    refine lv_iand hx hb dL_law_256 ?_
    refine lv_iconst (v := 1) hx hb dL_law_257 (by decide) ?_
    refine lv_icmp_ne (tgt := 265) hx hb dL_law_258 (by decide) (fun c258 => ?_) (fun c258 => ?_)
    · have hw := hw.1 c258
      refine lv_iconst (v := 0) hx hb dL_law_265 (by decide) ?_
      refine tJ_L_law_266 C0 hK hZ hfl hAA hrc hrs hkc hks (hk716 := hk716) (s236, σ.2) ρ x1 x4 x5 x6 x7 x8 t0 0 hw _ _ hW hR hS  _ (lv_sub hl [1, 2, 3, 4, 5, 6, 7, 8, 9, 0] rfl)
    · have hw := hw.2 c258
      refine lv_iconst (v := 1) hx hb dL_law_261 (by decide) ?_
      refine lv_goto (tgt := 266) hx hb dL_law_262 (by decide) ?_
      refine tJ_L_law_266 C0 hK hZ hfl hAA hrc hrs hkc hks (hk716 := hk716) (s236, σ.2) ρ x1 x4 x5 x6 x7 x8 t0 1 hw _ _ hW hR hS  _ (lv_sub hl [1, 2, 3, 4, 5, 6, 7, 8, 9, 0] rfl)
set_option maxHeartbeats 4000000 in
set_option maxRecDepth 100000 in
theorem tJ_L_law_156 {p : Program} {l : Launch} {e : Env} {s : State} {m : MethodId} {args : Array Value} {below : List Frame} {meth : Method} {c : Code} {D : va_G} {cI cZ cG cL : ClassId} {ad am : Nat → Nat} {q1 q2 q3 b0 L : Nat} {xs : Nat → Int32} (C0 : gk_F p s m args meth c cL_law 20 (some .boolean) RL) (hK : gk_K D cI cZ cG cL s) (hZ : nk_Z q1 q2 q3 b0 L xs (lo_A s.heap.size) s s.heap) (hfl : l.stackTraces = false) (hAA : lk_D s.heap.size ad am) {rc rs kc ks : Nat} (hrc : rc + 3 ≤ kc) (hrs : rs + 18 ≤ ks) (hkc : kc ≤ 600074) (hks : ks ≤ 7301550) {Q : State → Prop} {k716 : nk_C → lk_R → Int32 → Int32 → Int32 → Int32 → Int32 → Int64 → Int32 → Int32 → Prop} (hk716 : ∀ (σ : nk_C) (ρ : lk_R) (x1 : Int32) (x4 : Int32) (x5 : Int32) (x6 : Int32) (x7 : Int32) (x10 : Int64) (x12 : Int32) (x13 : Int32), k716 σ ρ x1 x4 x5 x6 x7 x10 x12 x13 → ∀ (H : Heap) (locs : List Loc), nk_W D cI cZ cL ad am b0 σ H → rk_W D cI cG ad am ρ H → va_S (lo_A s.heap.size) s.heap H locs → ∀ (ls : Array Slot), lv_has ls 20 [(0, .ref b0), (1, .int x1), (2, .ref (am 0)), (3, .ref (ad 0)), (4, .int x4), (5, .int x5), (6, .int x6), (7, .int x7), (10, .long x10), (12, .int x12), (13, .int x13)] → W p l e room_1 s m args below meth c H locs kc ks Q (F0 m 716 ls [])) : ∀ (σ : nk_C) (ρ : lk_R) (x1 : Int32) (x4 : Int32) (x5 : Int32) (x6 : Int32) (x7 : Int32), wJ_L_law_156 k716 σ ρ x1 x4 x5 x6 x7 → ∀ (H : Heap) (locs : List Loc), nk_W D cI cZ cL ad am b0 σ H → rk_W D cI cG ad am ρ H → va_S (lo_A s.heap.size) s.heap H locs → ∀ (ls : Array Slot), lv_has ls 20 [(0, .ref b0), (1, .int x1), (2, .ref (am 0)), (3, .ref (ad 0)), (4, .int x4), (5, .int x5), (6, .int x6), (7, .int x7)] → W p l e room_1 s m args below meth c H locs (rc + 3) (rs + 18) Q (F0 m 156 ls []) := by
  obtain ⟨hx, hb, hml, hown, hts, hr, hlocks⟩ := id C0
  intro σ ρ x1 x4 x5 x6 x7 hw H locs hW hR hS  ls hl
  refine lv_aload_n hx hb dL_law_156 rfl (lv_at hl 2 rfl) ?_
  refine lv_dup hx hb dL_law_157 rfl ?_
  refine gk_get hx hb hts iwX9 hown hK.1 (nk_obj hW) rfl 3 (by decide) (hts _ fl_L_42) (fun _ h9 => h9) rfl dL_law_158 ?_
  refine lv_bipush (v := 40) hx hb dL_law_161 (by decide) ?_
  refine lv_iadd hx hb dL_law_163 ?_
  refine gk_putf (ty := .int) (v := .int ((σ.2.2 3) + 40)) hx hb hts iwX9 tyX9 tyX9_ok nmX9 hown hK.1 hS (hAA.2.1 _ (by decide)) (nk_obj hW) rfl 3 (by decide) (hts _ fl_L_42) (fun _ h9 => h9) rfl (by decide +kernel) rfl rfl (Nat.le_of_ble_eq_true rfl) dL_law_164 (fun H locs h1 _ oq hS => ?_)
  have hW := hW.setS (i := 3) (v := ((σ.2.2 3) + 40)) h1 oq
  have hR := hR.oqS (i := 0) (by decide) oq
  refine lv_aload_n hx hb dL_law_167 rfl (lv_at hl 3 rfl) ?_
  refine lv_bipush (v := 40) hx hb dL_law_168 (by decide) ?_
  refine nk_gVi ⟨hx, hb, hml, hown, hts⟩ (c_X8_goOn l D cI cZ cG cL ad hw) (cwV 1 hts (gk_gV ml_L_45 im_X8_goOn se_X8_goOn in_X8 co_X8_goOn) rfl rfl rfl (by decide +kernel) ⟨Nat.le_of_ble_eq_true rfl, Nat.le_of_ble_eq_true rfl⟩) (gk_recv hK.1 (gk_o0 hW.1) rfl) hW hK hS (hAA.up hS.1) rfl hl.1 (rest := []) rfl (lv_room (Nat.le_of_ble_eq_true rfl)) dL_law_170 ⟨by show _ ≤ 600074; omega, by show _ ≤ 7301550; omega⟩ (fun r170 s170 H locs hw hW _ hk hS => ?_)
  have hR := hR.gate hk
  refine lv_pop hx hb dL_law_173 rfl ?_
  refine lv_aload_n hx hb dL_law_174 rfl (lv_at hl 3 rfl) ?_
  refine lv_iload hx hb dL_law_175 (lv_at hl 7 rfl) ?_
  refine lv_aload_n hx hb dL_law_177 rfl (lv_at hl 2 rfl) ?_
  refine lv_iconst (v := 3) hx hb dL_law_178 (by decide) ?_
  refine nk_callVi ⟨hx, hb, hml, hown, hts⟩ (c_X9_draw l D cI cZ cG cL ad am q1 q2 q3 b0 L xs hw) (cwV 1 hts (gk_gV ml_L_35 im_X9_draw se_X9_draw in_X9 co_X9_draw) rfl rfl rfl (by decide +kernel) ⟨Nat.le_of_ble_eq_true rfl, Nat.le_of_ble_eq_true rfl⟩) (gk_recv hK.1 (nk_obj hW) rfl) hW hK hZ trivial hS (hAA.up hS.1) rfl hl.1 (rest := [.int x7, .ref (ad 0)]) rfl (lv_room (Nat.le_of_ble_eq_true rfl)) dL_law_179 ⟨by show _ ≤ 600074; omega, by show _ ≤ 7301550; omega⟩ (fun r179 σ179 H locs hw hW _ hk hS => ?_)
  have hR := hR.kept hk
  refine lv_iconst (v := 1) hx hb dL_law_182 (by decide) ?_
  refine lv_isub hx hb dL_law_183 ?_
  refine lv_aload_n hx hb dL_law_184 rfl (lv_at hl 2 rfl) ?_
  refine lv_iconst (v := 2) hx hb dL_law_185 (by decide) ?_
  refine nk_callVi ⟨hx, hb, hml, hown, hts⟩ (c_X9_draw l D cI cZ cG cL ad am q1 q2 q3 b0 L xs hw) (cwV 1 hts (gk_gV ml_L_35 im_X9_draw se_X9_draw in_X9 co_X9_draw) rfl rfl rfl (by decide +kernel) ⟨Nat.le_of_ble_eq_true rfl, Nat.le_of_ble_eq_true rfl⟩) (gk_recv hK.1 (nk_obj hW) rfl) hW hK hZ trivial hS (hAA.up hS.1) rfl hl.1 (rest := [.int (r179 - 1), .int x7, .ref (ad 0)]) rfl (lv_room (Nat.le_of_ble_eq_true rfl)) dL_law_186 ⟨by show _ ≤ 600074; omega, by show _ ≤ 7301550; omega⟩ (fun r186 σ186 H locs hw hW _ hk hS => ?_)
  have hR := hR.kept hk
  refine nk_gVi ⟨hx, hb, hml, hown, hts⟩ (c_X8_setWall l D cI cZ cG cL ad hw) (cwV 3 hts (gk_gV ml_L_50 im_X8_setWall se_X8_setWall in_X8 co_X8_setWall) rfl rfl rfl (by decide +kernel) ⟨Nat.le_of_ble_eq_true rfl, Nat.le_of_ble_eq_true rfl⟩) (gk_recv hK.1 (gk_o0 hW.1) rfl) hW hK hS (hAA.up hS.1) rfl hl.1 (rest := []) rfl (lv_room (Nat.le_of_ble_eq_true rfl)) dL_law_189 ⟨by show _ ≤ 600074; omega, by show _ ≤ 7301550; omega⟩ (fun r189 s189 H locs hw hW _ hk hS => ?_)
  have hR := hR.gate hk
  refine lv_pop hx hb dL_law_192 rfl ?_
  refine lv_aload_n hx hb dL_law_193 rfl (lv_at hl 3 rfl) ?_
  refine lv_iload hx hb dL_law_194 (lv_at hl 5 rfl) ?_
  refine lv_iload hx hb dL_law_196 (lv_at hl 6 rfl) ?_
  refine lv_iload hx hb dL_law_198 (lv_at hl 7 rfl) ?_
  refine nk_gVi ⟨hx, hb, hml, hown, hts⟩ (c_X8_decide l D cI cZ cG cL ad hw) (cwV 3 hts (gk_gV ml_L_54 im_X8_decide se_X8_decide in_X8 co_X8_decide) rfl rfl rfl (by decide +kernel) ⟨Nat.le_of_ble_eq_true rfl, Nat.le_of_ble_eq_true rfl⟩) (gk_recv hK.1 (gk_o0 hW.1) rfl) hW hK hS (hAA.up hS.1) rfl hl.1 (rest := []) rfl (lv_room (Nat.le_of_ble_eq_true rfl)) dL_law_200 ⟨by show _ ≤ 600074; omega, by show _ ≤ 7301550; omega⟩ (fun r200 s200 H locs hw hW _ hk hS => ?_)
  have hR := hR.gate hk
  refine lv_istore (lv' := [(8, .int r200), (0, .ref b0), (1, .int x1), (2, .ref (am 0)), (3, .ref (ad 0)), (4, .int x4), (5, .int x5), (6, .int x6), (7, .int x7)]) hx hb dL_law_203 hl (by decide) rfl (fun ls hl => ?_)
  refine lv_aload_n hx hb dL_law_205 rfl (lv_at hl 4 rfl) ?_
  refine lv_iload hx hb dL_law_206 (lv_at hl 6 rfl) ?_
  refine lv_iload hx hb dL_law_208 (lv_at hl 8 rfl) ?_
  refine nk_gRi ⟨hx, hb, hml, hown, hts⟩ (c_X8_done l D cI cZ cG cL ad hw) (cwV 2 hts (gk_gV ml_L_58 im_X8_done se_X8_done in_X8 co_X8_done) rfl rfl rfl (by decide +kernel) ⟨Nat.le_of_ble_eq_true rfl, Nat.le_of_ble_eq_true rfl⟩) (gk_recv hK.1 (gk_o0 hW.1) rfl) hW hK hS (hAA.up hS.1) rfl hl.1 (rest := []) rfl (lv_room (Nat.le_of_ble_eq_true rfl)) dL_law_210 ⟨by show _ ≤ 600074; omega, by show _ ≤ 7301550; omega⟩ (fun r210 H locs hw hW _ hk hS => ?_)
  have hR := hR.gate hk
  refine lv_iload hx hb dL_law_213 (lv_at hl 7 rfl) ?_
  refine lv_ishr hx hb dL_law_215 ?_
  refine lv_iconst (v := 1) hx hb dL_law_216 (by decide) ?_
  refine lv_iand hx hb dL_law_217 ?_
  refine lv_iconst (v := 1) hx hb dL_law_218 (by decide) ?_
  refine lv_icmp_ne (tgt := 226) hx hb dL_law_219 (by decide) (fun c219 => ?_) (fun c219 => ?_)
  · have hw := hw.1 c219
    refine lv_iconst (v := 0) hx hb dL_law_226 (by decide) ?_
    refine tJ_L_law_227 C0 hK hZ hfl hAA hrc hrs hkc hks (hk716 := hk716) (s200, (s189, σ186.2).2) ρ x1 x4 x5 x6 x7 r200 0 hw _ _ hW hR hS  _ (lv_sub hl [1, 2, 3, 4, 5, 6, 7, 8, 0] rfl)
  · have hw := hw.2 c219
    refine lv_iconst (v := 1) hx hb dL_law_222 (by decide) ?_
    refine lv_goto (tgt := 227) hx hb dL_law_223 (by decide) ?_
    refine tJ_L_law_227 C0 hK hZ hfl hAA hrc hrs hkc hks (hk716 := hk716) (s200, (s189, σ186.2).2) ρ x1 x4 x5 x6 x7 r200 1 hw _ _ hW hR hS  _ (lv_sub hl [1, 2, 3, 4, 5, 6, 7, 8, 0] rfl)
set_option maxHeartbeats 4000000 in
set_option maxRecDepth 100000 in
theorem tJ_L_law_84 {p : Program} {l : Launch} {e : Env} {s : State} {m : MethodId} {args : Array Value} {below : List Frame} {meth : Method} {c : Code} {D : va_G} {cI cZ cG cL : ClassId} {ad am : Nat → Nat} {q1 q2 q3 b0 L : Nat} {xs : Nat → Int32} (C0 : gk_F p s m args meth c cL_law 20 (some .boolean) RL) (hK : gk_K D cI cZ cG cL s) (hZ : nk_Z q1 q2 q3 b0 L xs (lo_A s.heap.size) s s.heap) (hfl : l.stackTraces = false) (hAA : lk_D s.heap.size ad am) {rc rs kc ks : Nat} (hrc : rc + 3 ≤ kc) (hrs : rs + 18 ≤ ks) (hkc : kc ≤ 600074) (hks : ks ≤ 7301550) {Q : State → Prop} {k716 : nk_C → lk_R → Int32 → Int32 → Int32 → Int32 → Int32 → Int64 → Int32 → Int32 → Prop} (hk716 : ∀ (σ : nk_C) (ρ : lk_R) (x1 : Int32) (x4 : Int32) (x5 : Int32) (x6 : Int32) (x7 : Int32) (x10 : Int64) (x12 : Int32) (x13 : Int32), k716 σ ρ x1 x4 x5 x6 x7 x10 x12 x13 → ∀ (H : Heap) (locs : List Loc), nk_W D cI cZ cL ad am b0 σ H → rk_W D cI cG ad am ρ H → va_S (lo_A s.heap.size) s.heap H locs → ∀ (ls : Array Slot), lv_has ls 20 [(0, .ref b0), (1, .int x1), (2, .ref (am 0)), (3, .ref (ad 0)), (4, .int x4), (5, .int x5), (6, .int x6), (7, .int x7), (10, .long x10), (12, .int x12), (13, .int x13)] → W p l e room_1 s m args below meth c H locs kc ks Q (F0 m 716 ls [])) : ∀ (σ : nk_C) (ρ : lk_R) (x1 : Int32) (x4 : Int32), wJ_L_law_84 k716 σ ρ x1 x4 → ∀ (H : Heap) (locs : List Loc), nk_W D cI cZ cL ad am b0 σ H → rk_W D cI cG ad am ρ H → va_S (lo_A s.heap.size) s.heap H locs → ∀ (ls : Array Slot), lv_has ls 20 [(0, .ref b0), (1, .int x1), (2, .ref (am 0)), (3, .ref (ad 0)), (4, .int x4)] → W p l e room_1 s m args below meth c H locs (rc + 0) (rs + 0) Q (F0 m 84 ls []) := by
  obtain ⟨hx, hb, hml, hown, hts, hr, hlocks⟩ := id C0
  intro σ ρ x1 x4 hw H locs hW hR hS  ls hl
  refine lv_aload_n hx hb dL_law_84 rfl (lv_at hl 2 rfl) ?_
  refine lv_aload_n hx hb dL_law_85 rfl (lv_at hl 2 rfl) ?_
  refine gk_get hx hb hts iwX9 hown hK.1 (nk_obj hW) rfl 5 (by decide) (hts _ fl_L_31) (fun _ h9 => h9) rfl dL_law_86 ?_
  refine nk_callVi ⟨hx, hb, hml, hown, hts⟩ (c_X9_draw l D cI cZ cG cL ad am q1 q2 q3 b0 L xs hw) (cwV 1 hts (gk_gV ml_L_35 im_X9_draw se_X9_draw in_X9 co_X9_draw) rfl rfl rfl (by decide +kernel) ⟨Nat.le_of_ble_eq_true rfl, Nat.le_of_ble_eq_true rfl⟩) (gk_recv hK.1 (nk_obj hW) rfl) hW hK hZ trivial hS (hAA.up hS.1) rfl hl.1 (rest := []) rfl (lv_room (Nat.le_of_ble_eq_true rfl)) dL_law_89 ⟨by show _ ≤ 600074; omega, by show _ ≤ 7301550; omega⟩ (fun r89 σ89 H locs hw hW _ hk hS => ?_)
  have hR := hR.kept hk
  refine lv_istore (lv' := [(5, .int r89), (0, .ref b0), (1, .int x1), (2, .ref (am 0)), (3, .ref (ad 0)), (4, .int x4)]) hx hb dL_law_92 hl (by decide) rfl (fun ls hl => ?_)
  refine lv_aload_n hx hb dL_law_94 rfl (lv_at hl 3 rfl) ?_
  refine lv_iconst (v := 5) hx hb dL_law_95 (by decide) ?_
  refine nk_callVi ⟨hx, hb, hml, hown, hts⟩ (c_X9_draw l D cI cZ cG cL ad am q1 q2 q3 b0 L xs hw) (cwV 1 hts (gk_gV ml_L_35 im_X9_draw se_X9_draw in_X9 co_X9_draw) rfl rfl rfl (by decide +kernel) ⟨Nat.le_of_ble_eq_true rfl, Nat.le_of_ble_eq_true rfl⟩) (gk_recv hK.1 (nk_obj hW) rfl) hW hK hZ trivial hS (hAA.up hS.1) rfl hl.1 (rest := []) rfl (lv_room (Nat.le_of_ble_eq_true rfl)) dL_law_96 ⟨by show _ ≤ 600074; omega, by show _ ≤ 7301550; omega⟩ (fun r96 σ96 H locs hw hW _ hk hS => ?_)
  have hR := hR.kept hk
  refine lv_istore (lv' := [(6, .int r96), (5, .int r89), (0, .ref b0), (1, .int x1), (2, .ref (am 0)), (3, .ref (ad 0)), (4, .int x4)]) hx hb dL_law_99 hl (by decide) rfl (fun ls hl => ?_)
  refine lv_aload_n hx hb dL_law_101 rfl (lv_at hl 4 rfl) ?_
  refine lv_aload_n hx hb dL_law_102 rfl (lv_at hl 4 rfl) ?_
  refine gk_get hx hb hts iwX9 hown hK.1 (nk_obj hW) rfl 12 (by decide) (hts _ fl_L_39) (fun _ h9 => h9) rfl dL_law_103 ?_
  refine nk_callVi ⟨hx, hb, hml, hown, hts⟩ (c_X9_draw l D cI cZ cG cL ad am q1 q2 q3 b0 L xs hw) (cwV 1 hts (gk_gV ml_L_35 im_X9_draw se_X9_draw in_X9 co_X9_draw) rfl rfl rfl (by decide +kernel) ⟨Nat.le_of_ble_eq_true rfl, Nat.le_of_ble_eq_true rfl⟩) (gk_recv hK.1 (nk_obj hW) rfl) hW hK hZ trivial hS (hAA.up hS.1) rfl hl.1 (rest := []) rfl (lv_room (Nat.le_of_ble_eq_true rfl)) dL_law_106 ⟨by show _ ≤ 600074; omega, by show _ ≤ 7301550; omega⟩ (fun r106 σ106 H locs hw hW _ hk hS => ?_)
  have hR := hR.kept hk
  refine lv_istore (lv' := [(7, .int r106), (6, .int r96), (5, .int r89), (0, .ref b0), (1, .int x1), (2, .ref (am 0)), (3, .ref (ad 0)), (4, .int x4)]) hx hb dL_law_109 hl (by decide) rfl (fun ls hl => ?_)
  refine lv_aload_n hx hb dL_law_111 rfl (lv_at hl 5 rfl) ?_
  refine lv_iconst (v := 3) hx hb dL_law_112 (by decide) ?_
  refine nk_callVi ⟨hx, hb, hml, hown, hts⟩ (c_X9_draw l D cI cZ cG cL ad am q1 q2 q3 b0 L xs hw) (cwV 1 hts (gk_gV ml_L_35 im_X9_draw se_X9_draw in_X9 co_X9_draw) rfl rfl rfl (by decide +kernel) ⟨Nat.le_of_ble_eq_true rfl, Nat.le_of_ble_eq_true rfl⟩) (gk_recv hK.1 (nk_obj hW) rfl) hW hK hZ trivial hS (hAA.up hS.1) rfl hl.1 (rest := []) rfl (lv_room (Nat.le_of_ble_eq_true rfl)) dL_law_113 ⟨by show _ ≤ 600074; omega, by show _ ≤ 7301550; omega⟩ (fun r113 σ113 H locs hw hW _ hk hS => ?_)
  have hR := hR.kept hk
  refine lv_if_ne (tgt := 129) hx hb dL_law_116 (by decide) (fun c116 => ?_) (fun c116 => ?_)
  · have hw := hw.1 c116
    refine lv_aload_n hx hb dL_law_129 rfl (lv_at hl 5 rfl) ?_
    refine lv_iconst (v := 2) hx hb dL_law_130 (by decide) ?_
    refine nk_callVi ⟨hx, hb, hml, hown, hts⟩ (c_X9_draw l D cI cZ cG cL ad am q1 q2 q3 b0 L xs hw) (cwV 1 hts (gk_gV ml_L_35 im_X9_draw se_X9_draw in_X9 co_X9_draw) rfl rfl rfl (by decide +kernel) ⟨Nat.le_of_ble_eq_true rfl, Nat.le_of_ble_eq_true rfl⟩) (gk_recv hK.1 (nk_obj hW) rfl) hW hK hZ trivial hS (hAA.up hS.1) rfl hl.1 (rest := []) rfl (lv_room (Nat.le_of_ble_eq_true rfl)) dL_law_131 ⟨by show _ ≤ 600074; omega, by show _ ≤ 7301550; omega⟩ (fun r131 σ131 H locs hw hW _ hk hS => ?_)
    have hR := hR.kept hk
    refine lv_if_ne (tgt := 147) hx hb dL_law_134 (by decide) (fun c134 => ?_) (fun c134 => ?_)
    · have hw := hw.1 c134
      refine lv_aload_n hx hb dL_law_147 rfl (lv_at hl 5 rfl) ?_
      refine nk_callO20 ⟨hx, hb, hml, hown, hts⟩ (K := (fun r148 σ148 N148 => (((¬ r148 = 0) → (wJ_L_law_156 k716 σ148 (ρ.1, N148) x1 x4 r89 r96 r106)) ∧ ((r148 = 0) → (False))))) (fun g => ⟨_, fun r u g1 q f h => h, c_X9_addGrant l D cI cZ cG cL ad am q1 q2 q3 b0 L xs (hw g)⟩) (cwV 0 hts (gk_gV ml_L_28 im_X9_addGrant se_X9_addGrant in_X9 co_X9_addGrant) rfl rfl rfl (by decide +kernel) ⟨Nat.le_of_ble_eq_true rfl, Nat.le_of_ble_eq_true rfl⟩) (gk_recv hK.1 (nk_obj hW) rfl) hW hR hAA hK hZ hS rfl hl.1 (rest := []) rfl (lv_room (Nat.le_of_ble_eq_true rfl)) dL_law_148 ⟨by show _ ≤ 600074; omega, by show _ ≤ 7301550; omega⟩ (fun r148 σ148 N148 H locs hw hW hR _ hS => ?_)
      refine lv_if_ne (tgt := 156) hx hb dL_law_151 (by decide) (fun c151 => ?_) (fun c151 => ?_)
      · have hw := hw.1 c151
        refine W.widen (k := rc + 3) (n := rs + 18) (by omega) (by omega) ?_
        refine tJ_L_law_156 C0 hK hZ hfl hAA hrc hrs hkc hks (hk716 := hk716) σ148 (ρ.1, N148) x1 x4 r89 r96 r106 hw _ _ hW hR hS  _ (lv_sub hl [3, 4, 5, 6, 7, 2, 1, 0] rfl)
      · have hw := hw.2 c151
        refine lv_iconst (v := 0) hx hb dL_law_154 (by decide) ?_
        exact False.elim hw
    · have hw := hw.2 c134
      refine lv_aload_n hx hb dL_law_137 rfl (lv_at hl 5 rfl) ?_
      refine nk_callO18 ⟨hx, hb, hml, hown, hts⟩ (K := (fun r138 σ138 N138 => (((r138 = 0) → (False)) ∧ ((¬ r138 = 0) → (wJ_L_law_156 k716 σ138 (N138, ρ.2) x1 x4 r89 r96 r106))))) (fun g => ⟨_, fun r u g1 q f h => h, c_X9_addRule l D cI cZ cG cL ad am q1 q2 q3 b0 L xs (hw g)⟩) (cwV 0 hts (gk_gV ml_L_25 im_X9_addRule se_X9_addRule in_X9 co_X9_addRule) rfl rfl rfl (by decide +kernel) ⟨Nat.le_of_ble_eq_true rfl, Nat.le_of_ble_eq_true rfl⟩) (gk_recv hK.1 (nk_obj hW) rfl) hW hR hAA hK hZ hS rfl hl.1 (rest := []) rfl (lv_room (Nat.le_of_ble_eq_true rfl)) dL_law_138 ⟨by show _ ≤ 600074; omega, by show _ ≤ 7301550; omega⟩ (fun r138 σ138 N138 H locs hw hW hR _ hS => ?_)
      refine lv_if_eq (tgt := 154) hx hb dL_law_141 (by decide) (fun c141 => ?_) (fun c141 => ?_)
      · have hw := hw.1 c141
        refine lv_iconst (v := 0) hx hb dL_law_154 (by decide) ?_
        exact False.elim hw
      · have hw := hw.2 c141
        refine lv_goto (tgt := 156) hx hb dL_law_144 (by decide) ?_
        refine W.widen (k := rc + 3) (n := rs + 18) (by omega) (by omega) ?_
        refine tJ_L_law_156 C0 hK hZ hfl hAA hrc hrs hkc hks (hk716 := hk716) σ138 (N138, ρ.2) x1 x4 r89 r96 r106 hw _ _ hW hR hS  _ (lv_sub hl [3, 4, 5, 6, 7, 2, 1, 0] rfl)
  · have hw := hw.2 c116
    refine lv_aload_n hx hb dL_law_119 rfl (lv_at hl 5 rfl) ?_
    refine nk_callX ⟨hx, hb, hml, hown, hts⟩ (c_X9_bind l hfl D cI cZ cG cL ad am q1 q2 q3 b0 L xs hw) (vx_cwVW 0 hts (gk_gV ml_L_22 im_X9_bind se_X9_bind in_X9 co_X9_bind) rfl rfl rfl (by decide +kernel) ⟨Nat.le_of_ble_eq_true rfl, Nat.le_of_ble_eq_true rfl⟩) (gk_recv hK.1 (nk_obj hW) rfl) hW hK hZ trivial hS (hAA.up hS.1) rfl hl.1 (rest := []) rfl (lv_room (Nat.le_of_ble_eq_true rfl)) dL_law_120 ⟨by show _ ≤ 600074; omega, by show _ ≤ 7301550; omega⟩ (fun r120 σ120 H locs hw hW _ hk hS => ?_)
    have hR := hR.kept hk
    refine lv_if_eq (tgt := 154) hx hb dL_law_123 (by decide) (fun c123 => ?_) (fun c123 => ?_)
    · have hw := hw.1 c123
      refine lv_iconst (v := 0) hx hb dL_law_154 (by decide) ?_
      exact False.elim hw
    · have hw := hw.2 c123
      refine lv_goto (tgt := 156) hx hb dL_law_126 (by decide) ?_
      refine tJ_L_law_156 C0 hK hZ hfl hAA hrc hrs hkc hks (hk716 := hk716) σ120 ρ x1 x4 r89 r96 r106 hw _ _ hW hR hS  _ (lv_sub hl [3, 4, 5, 6, 7, 2, 1, 0] rfl)
