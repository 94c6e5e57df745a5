/-! ===== layer B: the relation between the gate's state and the reference's ===== -/
/-- users -/
def jU (σ μ : gk_C) : Prop := ∃ n : Nat, n ≤ 12 ∧ σ.2 0 = nI n ∧ μ.2 3 = nI n ∧ (∀ k, k < 12 → σ.1 0 k = μ.1 5 k ∧ σ.1 1 k = μ.1 6 k ∧ σ.1 2 k = μ.1 4 k) ∧ ∀ k, k < 288 → σ.1 3 k = μ.1 34 k
/-- the clock, the weighing, the counts -/
def jS (σ μ : gk_C) : Prop := σ.2 6 = μ.2 2 ∧ (0 ≤ (σ.2 6).toInt ∧ (σ.2 6).toInt ≤ 2) ∧ σ.2 7 = μ.2 1 ∧ 0 ≤ (σ.2 7).toInt ∧ (∀ k, k < 6 → σ.1 38 k = μ.1 33 k) ∧ μ.2 35 = (-1)
theorem lo_ge {n : Nat} (hn : n < 2 ^ 31) {a : Int32} (h : ¬ a < 0) (h2 : ¬ nI n ≤ a) : ∃ k, k < n ∧ a = nI k := by
  have e2 : (nI n).toInt = (n : Int) := Int32.toInt_ofNat_of_lt hn
  rw [Int32.lt_iff_toInt_lt] at h
  rw [Int32.le_iff_toInt_le, e2] at h2
  have h0 : (0 : Int32).toInt = 0 := by decide
  rw [h0] at h
  refine ⟨a.toInt.toNat, by omega, ?_⟩
  apply Int32.toInt_inj.mp
  have e3 : (nI a.toInt.toNat).toInt = (a.toInt.toNat : Int) := Int32.toInt_ofNat_of_lt (by omega)
  rw [e3]
  omega
theorem gk_at_in' (σ : gk_C) (r k : Nat) (h : k < gk_rl r) (hr : k < 2 ^ 31) : gk_at σ r (nI k) = σ.1 r k := by
  unfold gk_at
  rw [nI_clamp hr, if_neg]
  rintro (h1 | h1)
  · rw [Int32.lt_iff_toInt_lt] at h1
    have e3 : (nI k).toInt = (k : Int) := Int32.toInt_ofNat_of_lt hr
    have h0 : (0 : Int32).toInt = 0 := by decide
    omega
  · omega
theorem gk_put_in (σ : gk_C) (r k : Nat) (v : Int32) (h : k < gk_rl r) (hr : k < 2 ^ 31) : gk_put σ r (nI k) v = gk_r σ r (upd (σ.1 r) k v) := by
  unfold gk_put
  rw [nI_clamp hr, if_neg]
  rintro (h1 | h1)
  · rw [Int32.lt_iff_toInt_lt] at h1
    have e3 : (nI k).toInt = (k : Int) := Int32.toInt_ofNat_of_lt hr
    have h0 : (0 : Int32).toInt = 0 := by decide
    omega
  · omega
theorem mk_st_in (μ : gk_C) (r k : Nat) (v : Int32) (hr : k < 2 ^ 31) : mk_st μ r (nI k) v = gk_r μ r (upd (μ.1 r) k v) := by
  unfold mk_st
  rw [nI_clamp hr]


theorem q_counted {I : gk_C → gk_C → Prop} (hS : ∀ σ μ, I σ μ → jS σ μ) (hT : ∀ σ μ v, I σ μ → I σ (gk_s μ 0 v)) : ∀ (σ μ : gk_C) (o : Int64), I σ μ → ∀ (a0 : Int32), w_L_counted σ o a0 (fun k σ1 o1 => w_X9_counted μ a0 (fun r μ1 => μ1.2 0 = k ∧ (k = 0 → o1 = r.toInt64) ∧ I σ1 μ1)) := by
  intro σ μ o h a0
  obtain ⟨-, -, -, -, hc, -⟩ := hS σ μ h
  unfold w_L_counted w_X8_counted w_X8_isUpTo w_X8_checkArguments w_X9_counted w_X9_isIn w_X9_no
  refine ⟨fun h1 => ?_, fun h1 => ⟨fun h2 => ?_, fun h2 => ?_⟩⟩
  · refine ⟨fun h => absurd rfl h, fun _ => ⟨rfl, fun _ => ⟨fun _ => ⟨rfl, fun h => absurd h (by decide), hT _ _ _ (hT _ _ _ h)⟩, fun h => absurd rfl h⟩, fun h => absurd h1 h⟩⟩
  · refine ⟨fun h => absurd rfl h, fun _ => ⟨rfl, fun _ => ⟨fun _ => ⟨rfl, fun h => absurd h (by decide), hT _ _ _ (hT _ _ _ h)⟩, fun h => absurd rfl h⟩, fun _ => ⟨fun _ => ⟨fun _ => ⟨rfl, fun h => absurd h (by decide), hT _ _ _ (hT _ _ _ h)⟩, fun h => absurd rfl h⟩, fun h => absurd h2 h⟩⟩⟩
  · have h3 : ¬ nI 6 ≤ a0 := by
      intro h4
      apply h2
      rw [Int32.le_iff_toInt_le] at h4
      rw [Int32.lt_iff_toInt_lt]
      have e1 : (nI 6).toInt = 6 := by decide
      have e2 : (5 : Int32).toInt = 5 := by decide
      omega
    obtain ⟨k, hk, rfl⟩ := lo_ge (by decide) h1 h3
    refine ⟨fun _ => ⟨fun h => absurd h h1, fun _ => ⟨fun h => absurd h h2, fun _ => ⟨fun h => absurd h (by decide), fun _ => ⟨vp_in_nI hk (by decide), rfl, fun _ => ?_, hT _ _ _ h⟩⟩⟩⟩, fun h => absurd h (by decide)⟩
    rw [gk_at_in' σ 38 k (by show k < 6; exact hk) (by omega), nI_clamp (by omega)]
    exact congrArg Int32.toInt64 (hc k hk)

theorem q_users {I : gk_C → gk_C → Prop} (hU : ∀ σ μ, I σ μ → jU σ μ) (hT : ∀ σ μ v, I σ μ → I σ (gk_s μ 0 v)) : ∀ (σ μ : gk_C), I σ μ → w_X8_users σ (fun r => w_X9_users μ (fun r1 μ1 => r = r1 ∧ I σ μ1)) := by
  intro σ μ h
  obtain ⟨n, hn, h1, h2, -⟩ := hU σ μ h
  exact ⟨h1.trans h2.symm, hT _ _ _ h⟩
theorem q_clock {I : gk_C → gk_C → Prop} (hS : ∀ σ μ, I σ μ → jS σ μ) (hT : ∀ σ μ v, I σ μ → I σ (gk_s μ 0 v)) : ∀ (σ μ : gk_C), I σ μ → w_X8_clock σ (fun r => w_X9_clock μ (fun r1 μ1 => r = r1 ∧ I σ μ1)) := by
  intro σ μ h
  obtain ⟨-, -, h3, -⟩ := hS σ μ h
  exact ⟨h3, hT _ _ _ h⟩
theorem q_setWeighing {I : gk_C → gk_C → Prop} (hS : ∀ σ μ, I σ μ → jS σ μ) (hT : ∀ σ μ v, I σ μ → I σ (gk_s μ 0 v)) (hW : ∀ σ μ a, I σ μ → ¬ a < 0 → ¬ 3 < a → I (gk_s σ 6 a) (gk_s μ 2 a)) : ∀ (σ μ : gk_C) (o : Int64), I σ μ → ∀ (a0 : Int32), w_L_setWeighing σ o a0 (fun k σ1 o1 => w_X9_setWeighing μ a0 (fun r μ1 => μ1.2 0 = k ∧ (k = 0 → o1 = r.toInt64) ∧ I σ1 μ1)) := by
  intro σ μ o h a0
  obtain ⟨hw, -⟩ := hS σ μ h
  have e1 := hT _ _ 1 (hT _ _ 0 h)
  simp only [w_L_setWeighing, w_X8_setWeighing, w_X8_isUpTo, w_X8_checkArguments, w_X9_setWeighing, w_X9_isIn, w_X9_no]
  by_cases h1 : a0 < 0
  · simp [h1, e1]
    first | exact rfl | exact ⟨rfl, rfl⟩
  · by_cases h2 : 3 < a0
    · simp [h1, h2, e1]
      first | exact rfl | exact ⟨rfl, rfl⟩
    · have e2 := hW _ _ a0 (hT _ _ 0 h) h1 h2
      simp [h1, h2, e2, hw]
      first | exact rfl | exact ⟨rfl, rfl⟩
theorem q_goOn {I : gk_C → gk_C → Prop} (hS : ∀ σ μ, I σ μ → jS σ μ) (hT : ∀ σ μ v, I σ μ → I σ (gk_s μ 0 v)) (hC : ∀ σ μ a, I σ μ → I (gk_s σ 7 a) (gk_s μ 1 a)) : ∀ (σ μ : gk_C) (o : Int64), I σ μ → ∀ (a0 : Int32), w_L_goOn σ o a0 (fun k σ1 o1 => w_X9_goOn μ a0 (fun r μ1 => μ1.2 0 = k ∧ (k = 0 → o1 = r.toInt64) ∧ I σ1 μ1)) := by
  intro σ μ o h a0
  obtain ⟨-, -, hc, -⟩ := hS σ μ h
  have e1 := hT _ _ 1 (hT _ _ 0 h)
  simp only [w_L_goOn, w_X8_goOn, wJ_X8_goOn_16, wJ_X8_goOn_17, w_X4_hour, w_X8_checkArguments, w_X9_goOn, w_X9_isIn, w_X9_no, w_X9_hour]
  by_cases h1 : a0 < 1
  · simp [h1, e1]
    first | exact rfl | exact ⟨rfl, rfl⟩
  · by_cases h2 : 10000 < a0
    · simp [h1, h2, e1]
      first | exact rfl | exact ⟨rfl, rfl⟩
    · have e2 := hC _ _ (σ.2 7 + a0) (hT _ _ 0 h)
      simp [h1, h2]
      rw [hc] at e2 ⊢
      exact ⟨rfl, rfl, e2⟩
theorem q_roles {I : gk_C → gk_C → Prop} (hR : ∀ σ μ, I σ μ → σ.2 1 = μ.2 7) (hT : ∀ σ μ v, I σ μ → I σ (gk_s μ 0 v)) : ∀ (σ μ : gk_C), I σ μ → w_X8_roles σ (fun r => w_X9_roles μ (fun r1 μ1 => r = r1 ∧ I σ μ1)) := fun σ μ h => ⟨hR σ μ h, hT _ _ _ h⟩
theorem q_resources {I : gk_C → gk_C → Prop} (hR : ∀ σ μ, I σ μ → σ.2 3 = μ.2 11) (hT : ∀ σ μ v, I σ μ → I σ (gk_s μ 0 v)) : ∀ (σ μ : gk_C), I σ μ → w_X8_resources σ (fun r => w_X9_resources μ (fun r1 μ1 => r = r1 ∧ I σ μ1)) := fun σ μ h => ⟨hR σ μ h, hT _ _ _ h⟩
theorem q_rules {I : gk_C → gk_C → Prop} (hR : ∀ σ μ, I σ μ → σ.2 4 = μ.2 16) (hT : ∀ σ μ v, I σ μ → I σ (gk_s μ 0 v)) : ∀ (σ μ : gk_C), I σ μ → w_X8_rules σ (fun r => w_X9_rules μ (fun r1 μ1 => r = r1 ∧ I σ μ1)) := fun σ μ h => ⟨hR σ μ h, hT _ _ _ h⟩
theorem q_grants {I : gk_C → gk_C → Prop} (hR : ∀ σ μ, I σ μ → σ.2 5 = μ.2 26) (hT : ∀ σ μ v, I σ μ → I σ (gk_s μ 0 v)) : ∀ (σ μ : gk_C), I σ μ → w_X8_grants σ (fun r => w_X9_grants μ (fun r1 μ1 => r = r1 ∧ I σ μ1)) := fun σ μ h => ⟨hR σ μ h, hT _ _ _ h⟩
