/-! ===== what the law asks of the gate, all of it ===== -/
/-- behind j rounds: the law's Gate tells what the gate was told -/
def lI (j : Nat) (σ : nk_C) (ρ : lk_R) : Prop := ∃ nU nR nS : Nat, bN nU nR nS ∧ bK nU nR nS (2 * j) ρ σ ∧ lD (100 + 40 * j) σ
theorem lk_all : ∃ I : Nat → nk_C → lk_R → Prop, lk_H I := by
  refine ⟨lI, fun x1 d0 hd0 => ?_, fun j hj σ ρ x1 x4 ⟨nU, nR, nS, hN, h, hd'⟩ => ?_, fun j hj σ ρ x1 x4 ⟨nU, nR, nS, hN, h, hd'⟩ => ?_, fun σ ρ x1 ⟨nU, nR, nS, hN, h, hd'⟩ => ln_948 hN h x1⟩
  · unfold wJ_L_law_28
    exact ln_make hd0 (fun nU nR nS σ hN h hd' => pm_go1' ⟨rfl, nU, nR, nS, hN, h, hd'⟩)
  · unfold wJ_L_law_46
    refine ln_bind hN h hd' (by omega) (fun σ1 h1 d1 => pm_go1 ?_)
    intro g
    refine ln_addRule hN h1 (by omega) d1 (by omega) (fun σ2 n q f h2 d2 => ⟨n, rfl, pm_go1 ?_⟩)
    intro g2
    refine ln_addGrant hN h2 (by omega) d2 (by omega) (fun σ3 n2 q2 f2 h3 d3 => ⟨n2, rfl, pm_go1' ?_⟩)
    exact ⟨rfl, rfl, nU, nR, nS, hN, bK_up h3 (by omega), lD_up d3 (by omega)⟩
  · refine ln_84 (kk := fun σ ρ z1 z4 => z1 = x1 ∧ z4 = x4 ∧ lI (4 + j + 1) σ ρ) hN h (by omega) hd' (by omega) (fun σ1 ρ1 h1 d1 => ?_)
    exact ⟨rfl, rfl, nU, nR, nS, hN, bK_up h1 (by omega), lD_up d1 (by omega)⟩
