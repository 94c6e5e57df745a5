/-! ===== layer B: the relation between the gate's state and the reference's ===== -/
/-- users -/
def jU (σ μ : gk_C) : Prop := ∃ n : Nat, n ≤ 12 ∧ σ.2 0 = nI n ∧ μ.2 3 = nI n ∧ (∀ k, k < 12 → σ.1 0 k = μ.1 5 k ∧ σ.1 1 k = μ.1 6 k ∧ σ.1 2 k = μ.1 4 k) ∧ ∀ k, k < 288 → σ.1 3 k = μ.1 34 k
/-- the clock, the weighing, the counts -/
def jS (σ μ : gk_C) : Prop := σ.2 6 = μ.2 2 ∧ (True ∧ True) ∧ σ.2 7 = μ.2 1 ∧ True ∧ (∀ k, k < 6 → σ.1 38 k = μ.1 33 k) ∧ μ.2 35 = (-1)
theorem lo_ge {n : Nat} (hn : n < 2 ^ 31) {a : Int32} (h : ¬ a < 0) (h2 : ¬ nI n ≤ a) : ∃ k, k < n ∧ a = nI k := by
  have e2 : (nI n).toInt = (n : Int) := Int32.toInt_ofNat_of_lt hn
  rw [Int32.lt_iff_toInt_lt] at h
  rw [Int32.le_iff_toInt_le, e2] at h2
  have h0 : (0 : Int32).toInt = 0 := by decide
  rw [h0] at h
  refine ⟨a.toInt.toNat, by omega, ?_⟩
  apply Int32.toInt_inj.mp
  have e3 : (nI a.toInt.toNat).toInt = (a.toInt.toNat : Int) := Int32.toInt_ofNat_of_lt (by omega)
  rw [e3]
  omega
theorem gk_at_in' (σ : gk_C) (r k : Nat) (h : k < gk_rl r) (hr : k < 2 ^ 31) : gk_at σ r (nI k) = σ.1 r k := by
  unfold gk_at
  rw [nI_clamp hr, if_neg]
  rintro (h1 | h1)
  · rw [Int32.lt_iff_toInt_lt] at h1
    have e3 : (nI k).toInt = (k : Int) := Int32.toInt_ofNat_of_lt hr
    have h0 : (0 : Int32).toInt = 0 := by decide
    omega
  · omega
theorem gk_put_in (σ : gk_C) (r k : Nat) (v : Int32) (h : k < gk_rl r) (hr : k < 2 ^ 31) : gk_put σ r (nI k) v = gk_r σ r (upd (σ.1 r) k v) := by
  unfold gk_put
  rw [nI_clamp hr, if_neg]
  rintro (h1 | h1)
  · rw [Int32.lt_iff_toInt_lt] at h1
    have e3 : (nI k).toInt = (k : Int) := Int32.toInt_ofNat_of_lt hr
    have h0 : (0 : Int32).toInt = 0 := by decide
    omega
  · omega
theorem mk_st_in (μ : gk_C) (r k : Nat) (v : Int32) (hr : k < 2 ^ 31) : mk_st μ r (nI k) v = gk_r μ r (upd (μ.1 r) k v) := by
  unfold mk_st
  rw [nI_clamp hr]


theorem q_counted {I : gk_C → gk_C → Prop} (hS : ∀ σ μ, I σ μ → jS σ μ) (hT : ∀ σ μ v, I σ μ → I σ (gk_s μ 0 v)) : ∀ (σ μ : gk_C) (o : Int64), I σ μ → ∀ (a0 : Int32), w_L_counted σ o a0 (fun k σ1 o1 => w_X9_counted μ a0 (fun r μ1 => μ1.2 0 = k ∧ (k = 0 → o1 = r.toInt64) ∧ I σ1 μ1)) := by
  intro σ μ o h a0
  obtain ⟨-, -, -, -, hc, -⟩ := hS σ μ h
  unfold w_L_counted w_X8_counted w_X8_isUpTo w_X8_checkArguments w_X9_counted w_X9_isIn w_X9_no
  refine ⟨fun h1 => ?_, fun h1 => ⟨fun h2 => ?_, fun h2 => ?_⟩⟩
  · refine ⟨fun h => absurd rfl h, fun _ => ⟨rfl, fun _ => ⟨fun _ => ⟨rfl, fun h => absurd h (by decide), hT _ _ _ (hT _ _ _ h)⟩, fun h => absurd rfl h⟩, fun h => absurd h1 h⟩⟩
  · refine ⟨fun h => absurd rfl h, fun _ => ⟨rfl, fun _ => ⟨fun _ => ⟨rfl, fun h => absurd h (by decide), hT _ _ _ (hT _ _ _ h)⟩, fun h => absurd rfl h⟩, fun _ => ⟨fun _ => ⟨fun _ => ⟨rfl, fun h => absurd h (by decide), hT _ _ _ (hT _ _ _ h)⟩, fun h => absurd rfl h⟩, fun h => absurd h2 h⟩⟩⟩
  · have h3 : ¬ nI 6 ≤ a0 := by
      intro h4
      apply h2
      rw [Int32.le_iff_toInt_le] at h4
      rw [Int32.lt_iff_toInt_lt]
      have e1 : (nI 6).toInt = 6 := by decide
      have e2 : (5 : Int32).toInt = 5 := by decide
      omega
    obtain ⟨k, hk, rfl⟩ := lo_ge (by decide) h1 h3
    refine ⟨fun _ => ⟨fun h => absurd h h1, fun _ => ⟨fun h => absurd h h2, fun _ => ⟨fun h => absurd h (by decide), fun _ => ⟨vp_in_nI hk (by decide), rfl, fun _ => ?_, hT _ _ _ h⟩⟩⟩⟩, fun h => absurd h (by decide)⟩
    rw [gk_at_in' σ 38 k (by show k < 6; exact hk) (by omega), nI_clamp (by omega)]
    exact congrArg Int32.toInt64 (hc k hk)

theorem q_users {I : gk_C → gk_C → Prop} (hU : ∀ σ μ, I σ μ → jU σ μ) (hT : ∀ σ μ v, I σ μ → I σ (gk_s μ 0 v)) : ∀ (σ μ : gk_C), I σ μ → w_X8_users σ (fun r => w_X9_users μ (fun r1 μ1 => r = r1 ∧ I σ μ1)) := by
  intro σ μ h
  obtain ⟨n, hn, h1, h2, -⟩ := hU σ μ h
  exact ⟨h1.trans h2.symm, hT _ _ _ h⟩
theorem q_clock {I : gk_C → gk_C → Prop} (hS : ∀ σ μ, I σ μ → jS σ μ) (hT : ∀ σ μ v, I σ μ → I σ (gk_s μ 0 v)) : ∀ (σ μ : gk_C), I σ μ → w_X8_clock σ (fun r => w_X9_clock μ (fun r1 μ1 => r = r1 ∧ I σ μ1)) := by
  intro σ μ h
  obtain ⟨-, -, h3, -⟩ := hS σ μ h
  exact ⟨h3, hT _ _ _ h⟩
theorem q_setWeighing {I : gk_C → gk_C → Prop} (hS : ∀ σ μ, I σ μ → jS σ μ) (hT : ∀ σ μ v, I σ μ → I σ (gk_s μ 0 v)) (hW : ∀ σ μ a, I σ μ → ¬ a < 0 → ¬ 3 < a → I (gk_s σ 6 a) (gk_s μ 2 a)) : ∀ (σ μ : gk_C) (o : Int64), I σ μ → ∀ (a0 : Int32), w_L_setWeighing σ o a0 (fun k σ1 o1 => w_X9_setWeighing μ a0 (fun r μ1 => μ1.2 0 = k ∧ (k = 0 → o1 = r.toInt64) ∧ I σ1 μ1)) := by
  intro σ μ o h a0
  obtain ⟨hw, -⟩ := hS σ μ h
  have e1 := hT _ _ 1 (hT _ _ 0 h)
  simp only [w_L_setWeighing, w_X8_setWeighing, w_X8_isUpTo, w_X8_checkArguments, w_X9_setWeighing, w_X9_isIn, w_X9_no]
  by_cases h1 : a0 < 0
  · simp [h1, e1]
    first | exact rfl | exact ⟨rfl, rfl⟩
  · by_cases h2 : 3 < a0
    · simp [h1, h2, e1]
      first | exact rfl | exact ⟨rfl, rfl⟩
    · have e2 := hW _ _ a0 (hT _ _ 0 h) h1 h2
      simp [h1, h2, e2, hw]
      first | exact rfl | exact ⟨rfl, rfl⟩
theorem q_goOn {I : gk_C → gk_C → Prop} (hS : ∀ σ μ, I σ μ → jS σ μ) (hT : ∀ σ μ v, I σ μ → I σ (gk_s μ 0 v)) (hC : ∀ σ μ a, I σ μ → I (gk_s σ 7 a) (gk_s μ 1 a)) : ∀ (σ μ : gk_C) (o : Int64), I σ μ → ∀ (a0 : Int32), w_L_goOn σ o a0 (fun k σ1 o1 => w_X9_goOn μ a0 (fun r μ1 => μ1.2 0 = k ∧ (k = 0 → o1 = r.toInt64) ∧ I σ1 μ1)) := by
  intro σ μ o h a0
  obtain ⟨-, -, hc, -⟩ := hS σ μ h
  have e1 := hT _ _ 1 (hT _ _ 0 h)
  simp only [w_L_goOn, w_X8_goOn, wJ_X8_goOn_16, wJ_X8_goOn_17, w_X4_hour, w_X8_checkArguments, w_X9_goOn, w_X9_isIn, w_X9_no, w_X9_hour]
  by_cases h1 : a0 < 1
  · simp [h1, e1]
    first | exact rfl | exact ⟨rfl, rfl⟩
  · by_cases h2 : 10000 < a0
    · simp [h1, h2, e1]
      first | exact rfl | exact ⟨rfl, rfl⟩
    · have e2 := hC _ _ (σ.2 7 + a0) (hT _ _ 0 h)
      simp [h1, h2]
      rw [hc] at e2 ⊢
      exact ⟨rfl, rfl, e2⟩
theorem q_roles {I : gk_C → gk_C → Prop} (hR : ∀ σ μ, I σ μ → σ.2 1 = μ.2 7) (hT : ∀ σ μ v, I σ μ → I σ (gk_s μ 0 v)) : ∀ (σ μ : gk_C), I σ μ → w_X8_roles σ (fun r => w_X9_roles μ (fun r1 μ1 => r = r1 ∧ I σ μ1)) := fun σ μ h => ⟨hR σ μ h, hT _ _ _ h⟩
theorem q_resources {I : gk_C → gk_C → Prop} (hR : ∀ σ μ, I σ μ → σ.2 3 = μ.2 11) (hT : ∀ σ μ v, I σ μ → I σ (gk_s μ 0 v)) : ∀ (σ μ : gk_C), I σ μ → w_X8_resources σ (fun r => w_X9_resources μ (fun r1 μ1 => r = r1 ∧ I σ μ1)) := fun σ μ h => ⟨hR σ μ h, hT _ _ _ h⟩
theorem q_rules {I : gk_C → gk_C → Prop} (hR : ∀ σ μ, I σ μ → σ.2 4 = μ.2 16) (hT : ∀ σ μ v, I σ μ → I σ (gk_s μ 0 v)) : ∀ (σ μ : gk_C), I σ μ → w_X8_rules σ (fun r => w_X9_rules μ (fun r1 μ1 => r = r1 ∧ I σ μ1)) := fun σ μ h => ⟨hR σ μ h, hT _ _ _ h⟩
theorem q_grants {I : gk_C → gk_C → Prop} (hR : ∀ σ μ, I σ μ → σ.2 5 = μ.2 26) (hT : ∀ σ μ v, I σ μ → I σ (gk_s μ 0 v)) : ∀ (σ μ : gk_C), I σ μ → w_X8_grants σ (fun r => w_X9_grants μ (fun r1 μ1 => r = r1 ∧ I σ μ1)) := fun σ μ h => ⟨hR σ μ h, hT _ _ _ h⟩
theorem nI_le12 {n : Nat} (h : n ≤ 12) : (12 : Int32) ≤ nI n ↔ n = 12 := by
  rw [Int32.le_iff_toInt_le, show (nI n).toInt = (n : Int) from Int32.toInt_ofNat_of_lt (by omega), show (12 : Int32).toInt = 12 by decide]
  omega
theorem nI_eq12 {n : Nat} (h : n ≤ 12) : nI n = 12 ↔ n = 12 := by
  constructor
  · intro e
    have e2 := congrArg Int32.toInt e
    rw [show (nI n).toInt = (n : Int) from Int32.toInt_ofNat_of_lt (by omega), show (12 : Int32).toInt = 12 by decide] at e2
    omega
  · rintro rfl; rfl
theorem q_addUser {I : gk_C → gk_C → Prop} (hU : ∀ σ μ, I σ μ → jU σ μ) (hT : ∀ σ μ v, I σ μ → I σ (gk_s μ 0 v))
    (hA : ∀ σ μ n a b, I σ μ → n < 12 → σ.2 0 = nI n → μ.2 3 = nI n → I (gk_s (gk_r (gk_r σ 0 (upd (σ.1 0) n a)) 1 (upd (σ.1 1) n b)) 0 (nI (n + 1))) (gk_s (gk_r (gk_r μ 5 (upd (μ.1 5) n a)) 6 (upd (μ.1 6) n b)) 3 (nI (n + 1)))) :
    ∀ (σ μ : gk_C) (o : Int64), I σ μ → ∀ (a0 a1 : Int32), w_L_addUser σ o a0 a1 (fun k σ1 o1 => w_X9_addUser μ a0 a1 (fun r μ1 => μ1.2 0 = k ∧ (k = 0 → o1 = r.toInt64) ∧ I σ1 μ1)) := by
  intro σ μ o h a0 a1
  obtain ⟨n, hn, hs, hm, -⟩ := hU σ μ h
  have e1 := hT _ _ 1 (hT _ _ 0 h)
  have e2 := hT _ _ 2 (hT _ _ 0 h)
  have hm0 : (gk_s μ 0 0).2 3 = nI n := hm
  simp only [w_L_addUser, w_X8_addUser, wJ_X8_addUser_22, wJ_X8_addUser_23, wJ_X8_addUser_46, w_X6_add, w_X8_isUpTo, w_X8_checkArguments, w_X8_checkState, w_X9_addUser, wJ_X9_addUser_25, w_X9_isIn, w_X9_no, hs, hm0]
  by_cases h1 : a0 < 0
  · simp [h1, e1]; first | exact rfl | exact Or.inl rfl | exact Or.inr rfl | exact ⟨rfl, rfl⟩
  by_cases h2 : 3 < a0
  · simp [h1, h2, e1]; first | exact rfl | exact Or.inl rfl | exact Or.inr rfl | exact ⟨rfl, rfl⟩
  by_cases h3 : a1 < 0
  · simp [h1, h2, h3, e1]; first | exact rfl | exact Or.inl rfl | exact Or.inr rfl | exact ⟨rfl, rfl⟩
  by_cases h4 : 255 < a1
  · simp [h1, h2, h3, h4, e1]; first | exact rfl | exact Or.inl rfl | exact Or.inr rfl | exact ⟨rfl, rfl⟩
  by_cases h5 : n = 12
  · simp [h1, h2, h3, h4, h5, nI_le12 hn, nI_eq12 hn, (nI_le12 (Nat.le_refl 12)).mpr rfl, (nI_eq12 (Nat.le_refl 12)).mpr rfl, e2]; first | exact rfl | exact Or.inl rfl | exact Or.inr rfl | exact ⟨rfl, rfl⟩
  · have hlt : n < 12 := by omega
    have e3 := hA _ _ n a0 a1 (hT _ _ 0 h) hlt hs hm0
    have hv := vp_in_nI hlt (by decide)
    have p1 : gk_put σ 0 (nI n) a0 = gk_r σ 0 (upd (σ.1 0) n a0) := gk_put_in σ 0 n a0 hlt (by omega)
    have p2 : gk_put (gk_r σ 0 (upd (σ.1 0) n a0)) 1 (nI n) a1 = gk_r (gk_r σ 0 (upd (σ.1 0) n a0)) 1 (upd (σ.1 1) n a1) := gk_put_in _ 1 n a1 hlt (by omega)
    have m1 : mk_st (gk_s μ 0 0) 5 (nI n) a0 = gk_r (gk_s μ 0 0) 5 (upd (μ.1 5) n a0) := mk_st_in _ 5 n a0 (by omega)
    have m2 : mk_st (gk_r (gk_s μ 0 0) 5 (upd (μ.1 5) n a0)) 6 (nI n) a1 = gk_r (gk_r (gk_s μ 0 0) 5 (upd (μ.1 5) n a0)) 6 (upd (μ.1 6) n a1) := mk_st_in _ 6 n a1 (by omega)
    have c1 : ¬ (12 : Int32) ≤ nI n := fun q => h5 ((nI_le12 hn).mp q)
    have c2 : ¬ nI n = 12 := fun q => h5 ((nI_eq12 hn).mp q)
    have g0 : (gk_r (gk_r σ 0 (upd (σ.1 0) n a0)) 1 (upd (σ.1 1) n a1)).2 0 = nI n := hs
    have g1 : (gk_r (gk_s μ 0 0) 5 (upd (μ.1 5) n a0)).2 3 = nI n := hm
    have g2 : (gk_r (gk_r (gk_s μ 0 0) 5 (upd (μ.1 5) n a0)) 6 (upd (μ.1 6) n a1)).2 3 = nI n := hm
    simp [h1, h2, h3, h4, c1, c2, p1, p2, m1, m2, g0, g1, g2, hv]
    rw [nI_1]
    exact ⟨rfl, e3⟩
theorem gk_z0 : gk_z 0 := by unfold gk_z; decide
theorem gk_z1 : gk_z 1 := by unfold gk_z; decide
theorem lo_isU {σ : gk_C} {i n : Nat} (hn : n ≤ 30) (hs : σ.2 i = nI n) (a : Int32) : (¬ a < 0 ∧ ¬ σ.2 i ≤ a) ↔ (¬ a < 0 ∧ ¬ nI n - 1 < a) := by
  rw [hs]
  have e1 : (nI n).toInt = (n : Int) := Int32.toInt_ofNat_of_lt (by omega)
  have e3 : (nI n - 1).toInt = (n : Int) - 1 := by
    rw [Int32.toInt_sub, e1, show (1 : Int32).toInt = 1 by decide]
    simp only [Int.bmod]
    omega
  rw [Int32.lt_iff_toInt_lt, Int32.le_iff_toInt_le, Int32.lt_iff_toInt_lt, e1, e3]
  omega
/-- a number of a kind, asked on both sides -/
theorem lo_there {n : Nat} (hn : n ≤ 30) (a : Int32) : (a < 0 ∧ True) ∨ (¬ a < 0 ∧ nI n ≤ a ∧ nI n - 1 < a) ∨ (¬ a < 0 ∧ ¬ nI n ≤ a ∧ ¬ nI n - 1 < a ∧ ∃ k, k < n ∧ a = nI k) := by
  by_cases h1 : a < 0
  · exact Or.inl ⟨h1, trivial⟩
  · have e1 : (nI n).toInt = (n : Int) := Int32.toInt_ofNat_of_lt (by omega)
    have e3 : (nI n - 1).toInt = (n : Int) - 1 := by
      rw [Int32.toInt_sub, e1, show (1 : Int32).toInt = 1 by decide]
      simp only [Int.bmod]
      omega
    by_cases h2 : nI n ≤ a
    · refine Or.inr (Or.inl ⟨h1, h2, ?_⟩)
      rw [Int32.le_iff_toInt_le, e1] at h2
      rw [Int32.lt_iff_toInt_lt, e3]
      omega
    · refine Or.inr (Or.inr ⟨h1, h2, ?_, lo_ge (by omega) h1 h2⟩)
      rw [Int32.le_iff_toInt_le, e1] at h2
      rw [Int32.lt_iff_toInt_lt, e3]
      omega
theorem q_setUser {I : gk_C → gk_C → Prop} (hU : ∀ σ μ, I σ μ → jU σ μ) (hT : ∀ σ μ v, I σ μ → I σ (gk_s μ 0 v))
    (hA : ∀ σ μ k a b, I σ μ → k < 12 → I (gk_r (gk_r σ 0 (upd (σ.1 0) k a)) 1 (upd (σ.1 1) k b)) (gk_r (gk_r μ 5 (upd (μ.1 5) k a)) 6 (upd (μ.1 6) k b))) :
    ∀ (σ μ : gk_C) (o : Int64), I σ μ → ∀ (a0 a1 a2 : Int32), w_L_setUser σ o a0 a1 a2 (fun k σ1 o1 => w_X9_setUser μ a0 a1 a2 (fun r μ1 => μ1.2 0 = k ∧ (k = 0 → o1 = r.toInt64) ∧ I σ1 μ1)) := by
  intro σ μ o h a0 a1 a2
  obtain ⟨n, hn, hs, hm, hr, -⟩ := hU σ μ h
  have e1 := hT _ _ 1 (hT _ _ 0 h)
  have e2 := hT _ _ 2 (hT _ _ 0 h)
  have hm0 : (gk_s μ 0 0).2 3 = nI n := hm
  simp only [w_L_setUser, w_X8_setUser, wJ_X8_setUser_30, wJ_X8_setUser_31, w_X8_isUser, w_X8_isUpTo, w_X8_checkArguments, w_X8_checkThere, w_X9_setUser, wJ_X9_setUser_39, w_X9_isUser, w_X9_isIn, w_X9_no, hs, hm0]
  rcases lo_there (n := n) (by omega) a0 with ⟨c1, -⟩ | ⟨c1, c2, c3⟩ | ⟨c1, c2, c3, k, hk, rfl⟩
  · simp [c1, e1, gk_z0, gk_z1]; first | exact rfl | exact Or.inl rfl | exact Or.inr rfl | exact ⟨rfl, rfl⟩
  · simp [c1, c2, c3, e1, gk_z0, gk_z1]; first | exact rfl | exact Or.inl rfl | exact Or.inr rfl | exact ⟨rfl, rfl⟩
  by_cases h1 : a1 < 0
  · simp [c1, c2, c3, h1, e2, gk_z0, gk_z1]; first | exact rfl | exact Or.inl rfl | exact Or.inr rfl | exact ⟨rfl, rfl⟩
  by_cases h2 : 3 < a1
  · simp [c1, c2, c3, h1, h2, e2, gk_z0, gk_z1]; first | exact rfl | exact Or.inl rfl | exact Or.inr rfl | exact ⟨rfl, rfl⟩
  by_cases h3 : a2 < 0
  · simp [c1, c2, c3, h1, h2, h3, e2, gk_z0, gk_z1]; first | exact rfl | exact Or.inl rfl | exact Or.inr rfl | exact ⟨rfl, rfl⟩
  by_cases h4 : 255 < a2
  · simp [c1, c2, c3, h1, h2, h3, h4, e2, gk_z0, gk_z1]; first | exact rfl | exact Or.inl rfl | exact Or.inr rfl | exact ⟨rfl, rfl⟩
  · have hk12 : k < 12 := by omega
    have e3 := hA _ _ k a1 a2 (hT _ _ 0 h) hk12
    have hv := vp_in_nI hk12 (by decide)
    have p0 : gk_at σ 1 (nI k) = σ.1 1 k := gk_at_in' σ 1 k hk12 (by omega)
    have p1 : gk_put σ 0 (nI k) a1 = gk_r σ 0 (upd (σ.1 0) k a1) := gk_put_in σ 0 k a1 hk12 (by omega)
    have p2 : gk_put (gk_r σ 0 (upd (σ.1 0) k a1)) 1 (nI k) a2 = gk_r (gk_r σ 0 (upd (σ.1 0) k a1)) 1 (upd (σ.1 1) k a2) := gk_put_in _ 1 k a2 hk12 (by omega)
    have m1 : mk_st (gk_s μ 0 0) 5 (nI k) a1 = gk_r (gk_s μ 0 0) 5 (upd (μ.1 5) k a1) := mk_st_in _ 5 k a1 (by omega)
    have m2 : mk_st (gk_r (gk_s μ 0 0) 5 (upd (μ.1 5) k a1)) 6 (nI k) a2 = gk_r (gk_r (gk_s μ 0 0) 5 (upd (μ.1 5) k a1)) 6 (upd (μ.1 6) k a2) := mk_st_in _ 6 k a2 (by omega)
    have g1 : (gk_s μ 0 0).1 6 k = σ.1 1 k := ((hr k hk12).2.1).symm
    have g2 : (nI k).toNatClampNeg = k := nI_clamp (by omega)
    simp [c1, c2, c3, h1, h2, h3, h4, p0, p1, p2, m1, m2, g1, g2, hv, gk_z0, gk_z1]
    exact ⟨rfl, e3⟩
/-- resources: the rows that stand by themselves -/
def jT (σ μ : gk_C) : Prop := ∃ n : Nat, 1 ≤ n ∧ n ≤ 24 ∧ σ.2 3 = nI n ∧ μ.2 11 = nI n ∧ ∀ k, k < 24 → σ.1 8 k = μ.1 13 k ∧ σ.1 9 k = μ.1 14 k ∧ σ.1 10 k = μ.1 15 k
theorem q_setLabel {I : gk_C → gk_C → Prop} (hU : ∀ σ μ, I σ μ → jT σ μ) (hT : ∀ σ μ v, I σ μ → I σ (gk_s μ 0 v))
    (hA : ∀ σ μ k a, I σ μ → k < 24 → ¬ a < 0 → ¬ 3 < a → I (gk_r σ 8 (upd (σ.1 8) k a)) (gk_r μ 13 (upd (μ.1 13) k a))) :
    ∀ (σ μ : gk_C) (o : Int64), I σ μ → ∀ (a0 a1 : Int32), w_L_setLabel σ o a0 a1 (fun k σ1 o1 => w_X9_setLabel μ a0 a1 (fun r μ1 => μ1.2 0 = k ∧ (k = 0 → o1 = r.toInt64) ∧ I σ1 μ1)) := by
  intro σ μ o h a0 a1
  obtain ⟨n, hn1, hn, hs, hm, hr⟩ := hU σ μ h
  have e1 := hT _ _ 1 (hT _ _ 0 h)
  have e2 := hT _ _ 2 (hT _ _ 0 h)
  have hm0 : (gk_s μ 0 0).2 11 = nI n := hm
  simp only [w_L_setLabel, w_X8_setLabel, w_X8_isResource, w_X8_isUpTo, w_X8_checkArguments, w_X8_checkThere, w_X9_setLabel, w_X9_isResource, w_X9_isIn, w_X9_no, hs, hm0]
  rcases lo_there (n := n) (by omega) a0 with ⟨c1, -⟩ | ⟨c1, c2, c3⟩ | ⟨c1, c2, c3, k, hk, rfl⟩
  · simp [c1, e1, gk_z0, gk_z1]; first | exact rfl | exact Or.inl rfl | exact Or.inr rfl | exact ⟨rfl, rfl⟩
  · simp [c1, c2, c3, e1, gk_z0, gk_z1]; first | exact rfl | exact Or.inl rfl | exact Or.inr rfl | exact ⟨rfl, rfl⟩
  by_cases h1 : a1 < 0
  · simp [c1, c2, c3, h1, e2, gk_z0, gk_z1]; first | exact rfl | exact Or.inl rfl | exact Or.inr rfl | exact ⟨rfl, rfl⟩
  by_cases h2 : 3 < a1
  · simp [c1, c2, c3, h1, h2, e2, gk_z0, gk_z1]; first | exact rfl | exact Or.inl rfl | exact Or.inr rfl | exact ⟨rfl, rfl⟩
  · have hk12 : k < 24 := by omega
    have e3 := hA _ _ k a1 (hT _ _ 0 h) hk12 h1 h2
    have hv := vp_in_nI hk12 (by decide)
    have p0 : gk_at σ 8 (nI k) = σ.1 8 k := gk_at_in' σ 8 k hk12 (by omega)
    have p1 : gk_put σ 8 (nI k) a1 = gk_r σ 8 (upd (σ.1 8) k a1) := gk_put_in σ 8 k a1 hk12 (by omega)
    have m1 : mk_st (gk_s μ 0 0) 13 (nI k) a1 = gk_r (gk_s μ 0 0) 13 (upd (μ.1 13) k a1) := mk_st_in _ 13 k a1 (by omega)
    have g1 : (gk_s μ 0 0).1 13 k = σ.1 8 k := ((hr k hk12).1).symm
    have g2 : (nI k).toNatClampNeg = k := nI_clamp (by omega)
    simp [c1, c2, c3, h1, h2, p0, p1, m1, g1, g2, hv, gk_z0, gk_z1]
    exact ⟨rfl, e3⟩
theorem q_setWall {I : gk_C → gk_C → Prop} (hU : ∀ σ μ, I σ μ → jT σ μ) (hT : ∀ σ μ v, I σ μ → I σ (gk_s μ 0 v))
    (hA : ∀ σ μ k a b, I σ μ → k < 24 → (a = (-1) ∨ (¬ a < 0 ∧ ¬ 3 < a ∧ ¬ b < 0 ∧ ¬ 3 < b)) → I (gk_r (gk_r σ 9 (upd (σ.1 9) k a)) 10 (upd (σ.1 10) k b)) (gk_r (gk_r μ 14 (upd (μ.1 14) k a)) 15 (upd (μ.1 15) k b))) :
    ∀ (σ μ : gk_C) (o : Int64), I σ μ → ∀ (a0 a1 a2 : Int32), w_L_setWall σ o a0 a1 a2 (fun k σ1 o1 => w_X9_setWall μ a0 a1 a2 (fun r μ1 => μ1.2 0 = k ∧ (k = 0 → (¬ r = 0 → o1 = 1) ∧ (r = 0 → o1 = 0)) ∧ I σ1 μ1)) := by
  intro σ μ o h a0 a1 a2
  obtain ⟨n, hn1, hn, hs, hm, hr⟩ := hU σ μ h
  have e1 := hT _ _ 1 (hT _ _ 0 h)
  have e2 := hT _ _ 2 (hT _ _ 0 h)
  have hm0 : (gk_s μ 0 0).2 11 = nI n := hm
  simp only [w_L_setWall, w_X8_setWall, wJ_X8_setWall_29, wJ_X8_setWall_33, wJ_X8_setWall_34, wJ_X8_setWall_60, w_X8_isResource, w_X8_isUpTo, w_X8_checkArguments, w_X8_checkThere, w_X9_setWall, wJ_X9_setWall_42, wJ_X9_setWall_48, wJ_X9_setWall_63, w_X9_isResource, w_X9_isIn, w_X9_isNot, hs, hm0]
  rcases lo_there (n := n) (by omega) a0 with ⟨c1, -⟩ | ⟨c1, c2, c3⟩ | ⟨c1, c2, c3, k, hk, rfl⟩
  · simp [c1, e1, gk_z0, gk_z1]; first | exact rfl | exact Or.inl rfl | exact Or.inr rfl | exact ⟨rfl, rfl⟩
  · simp [c1, c2, c3, e1, gk_z0, gk_z1]; first | exact rfl | exact Or.inl rfl | exact Or.inr rfl | exact ⟨rfl, rfl⟩
  have hk12 : k < 24 := by omega
  have hv := vp_in_nI hk12 (by decide)
  have p0 : gk_at σ 9 (nI k) = σ.1 9 k := gk_at_in' σ 9 k hk12 (by omega)
  have p1 : gk_put σ 9 (nI k) a1 = gk_r σ 9 (upd (σ.1 9) k a1) := gk_put_in σ 9 k a1 hk12 (by omega)
  have p2 : gk_put (gk_r σ 9 (upd (σ.1 9) k a1)) 10 (nI k) a2 = gk_r (gk_r σ 9 (upd (σ.1 9) k a1)) 10 (upd (σ.1 10) k a2) := gk_put_in _ 10 k a2 hk12 (by omega)
  have m1 : mk_st (gk_s μ 0 0) 14 (nI k) a1 = gk_r (gk_s μ 0 0) 14 (upd (μ.1 14) k a1) := mk_st_in _ 14 k a1 (by omega)
  have m2 : mk_st (gk_r (gk_s μ 0 0) 14 (upd (μ.1 14) k a1)) 15 (nI k) a2 = gk_r (gk_r (gk_s μ 0 0) 14 (upd (μ.1 14) k a1)) 15 (upd (μ.1 15) k a2) := mk_st_in _ 15 k a2 (by omega)
  have g1 : (gk_s μ 0 0).1 14 k = σ.1 9 k := ((hr k hk12).2.1).symm
  have g2 : (nI k).toNatClampNeg = k := nI_clamp (by omega)
  by_cases ha : a1 = -1
  · subst ha
    have e3 := hA _ _ k (-1) a2 (hT _ _ 0 h) hk12 (Or.inl rfl)
    have d1 : ¬ (3 : Int32) < -1 := by decide
    by_cases hw : σ.1 9 k = -1
    · simp [c1, c2, c3, p0, p1, p2, m1, m2, g1, g2, hv, hw, d1, gk_z0, gk_z1]
      exact ⟨rfl, e3⟩
    · simp [c1, c2, c3, p0, p1, p2, m1, m2, g1, g2, hv, hw, d1, gk_z0, gk_z1]
      exact ⟨rfl, e3⟩
  by_cases h1 : a1 < 0
  · have d2 : a1 < -1 := by
      rw [Int32.lt_iff_toInt_lt] at h1 ⊢
      have e0 : (0 : Int32).toInt = 0 := by decide
      have e9 : (-1 : Int32).toInt = -1 := by decide
      have : a1.toInt ≠ -1 := fun q => ha (Int32.toInt_inj.mp (q.trans e9.symm))
      omega
    simp [c1, c2, c3, ha, h1, d2, e2, gk_z0, gk_z1]; first | exact rfl | exact Or.inl rfl | exact Or.inr rfl | exact ⟨rfl, rfl⟩
  have d3 : ¬ a1 < -1 := by
    rw [Int32.lt_iff_toInt_lt] at h1 ⊢
    have e0 : (0 : Int32).toInt = 0 := by decide
    have e9 : (-1 : Int32).toInt = -1 := by decide
    omega
  by_cases h2 : 3 < a1
  · simp [c1, c2, c3, ha, h1, h2, d3, e2, gk_z0, gk_z1]; first | exact rfl | exact Or.inl rfl | exact Or.inr rfl | exact ⟨rfl, rfl⟩
  by_cases h3 : a2 < 0
  · simp [c1, c2, c3, ha, h1, h2, h3, d3, e2, gk_z0, gk_z1]; first | exact rfl | exact Or.inl rfl | exact Or.inr rfl | exact ⟨rfl, rfl⟩
  by_cases h4 : 3 < a2
  · simp [c1, c2, c3, ha, h1, h2, h3, h4, d3, e2, gk_z0, gk_z1]; first | exact rfl | exact Or.inl rfl | exact Or.inr rfl | exact ⟨rfl, rfl⟩
  have e3 := hA _ _ k a1 a2 (hT _ _ 0 h) hk12 (Or.inr ⟨h1, h2, h3, h4⟩)
  by_cases hw : σ.1 9 k = -1
  · simp [c1, c2, c3, ha, h1, h2, h3, h4, d3, p0, p1, p2, m1, m2, g1, g2, hv, hw, gk_z0, gk_z1]
    exact ⟨rfl, e3⟩
  · simp [c1, c2, c3, ha, h1, h2, h3, h4, d3, p0, p1, p2, m1, m2, g1, g2, hv, hw, gk_z0, gk_z1]
    exact ⟨rfl, e3⟩
/-- rules, as many as there are -/
def jL (σ μ : gk_C) : Prop := ∃ n : Nat, n ≤ 30 ∧ σ.2 4 = nI n ∧ μ.2 16 = nI n ∧ ∀ k, k < n → σ.1 11 k = μ.1 17 k ∧ σ.1 12 k = μ.1 19 k ∧ σ.1 13 k = μ.1 20 k ∧ σ.1 14 k = μ.1 21 k ∧ σ.1 15 k = μ.1 18 k ∧ σ.1 16 k = μ.1 22 k ∧ σ.1 17 k = μ.1 23 k ∧ σ.1 18 k = μ.1 24 k ∧ σ.1 19 k = μ.1 25 k
theorem lo_nar0 : vp_nar .boolean 0 = 0 := by decide
theorem lo_nar1 : vp_nar .boolean 1 = 1 := by decide
theorem q_setRule {I : gk_C → gk_C → Prop} (hU : ∀ σ μ, I σ μ → jL σ μ) (hT : ∀ σ μ v, I σ μ → I σ (gk_s μ 0 v))
    (hA : ∀ σ μ k a b n, I σ μ → σ.2 4 = nI n → n ≤ 30 → k < n → (a = 0 ∨ a = 1) → ¬ b < 0 → ¬ 9 < b → I (gk_r (gk_r σ 15 (upd (σ.1 15) k a)) 16 (upd (σ.1 16) k b)) (gk_r (gk_r μ 18 (upd (μ.1 18) k a)) 22 (upd (μ.1 22) k b))) :
    ∀ (σ μ : gk_C) (o : Int64), I σ μ → ∀ (a0 a1 a2 : Int32), (a1 = 0 ∨ a1 = 1) → w_L_setRule σ o a0 a1 a2 (fun k σ1 o1 => w_X9_setRule μ a0 a1 a2 (fun r μ1 => μ1.2 0 = k ∧ (k = 0 → o1 = r.toInt64) ∧ I σ1 μ1)) := by
  intro σ μ o h a0 a1 a2 hz
  obtain ⟨n, hn, hs, hm, hr⟩ := hU σ μ h
  have e1 := hT _ _ 1 (hT _ _ 0 h)
  have e2 := hT _ _ 2 (hT _ _ 0 h)
  have hm0 : (gk_s μ 0 0).2 16 = nI n := hm
  simp only [w_L_setRule, w_X8_setRule, wJ_X8_setRule_53, w_X8_isRule, w_X8_isUpTo, w_X8_checkArguments, w_X8_checkThere, w_X9_setRule, w_X9_isRule, w_X9_isIn, w_X9_no, hs, hm0]
  rcases lo_there (n := n) (by omega) a0 with ⟨c1, -⟩ | ⟨c1, c2, c3⟩ | ⟨c1, c2, c3, k, hk, rfl⟩
  · simp [c1, e1, gk_z0, gk_z1]; first | exact rfl | exact Or.inl rfl | exact Or.inr rfl | exact ⟨rfl, rfl⟩
  · simp [c1, c2, c3, e1, gk_z0, gk_z1]; first | exact rfl | exact Or.inl rfl | exact Or.inr rfl | exact ⟨rfl, rfl⟩
  by_cases h1 : a2 < 0
  · simp [c1, c2, c3, h1, e2, gk_z0, gk_z1]; first | exact rfl | exact Or.inl rfl | exact Or.inr rfl | exact ⟨rfl, rfl⟩
  by_cases h2 : 9 < a2
  · simp [c1, c2, c3, h1, h2, e2, gk_z0, gk_z1]; first | exact rfl | exact Or.inl rfl | exact Or.inr rfl | exact ⟨rfl, rfl⟩
  have hk12 : k < 30 := by omega
  have hv := vp_in_nI hk12 (by decide)
  have p0 : gk_at σ 16 (nI k) = σ.1 16 k := gk_at_in' σ 16 k hk12 (by omega)
  have g1 : (gk_s μ 0 0).1 22 k = σ.1 16 k := ((hr k hk).2.2.2.2.2.1).symm
  have g2 : (nI k).toNatClampNeg = k := nI_clamp (by omega)
  have e3 := fun a ha => hA _ _ k a a2 n (hT _ _ 0 h) hs hn hk ha h1 h2
  have p1 : ∀ a, gk_put σ 15 (nI k) a = gk_r σ 15 (upd (σ.1 15) k a) := fun a => gk_put_in σ 15 k a hk12 (by omega)
  have p2 : ∀ a, gk_put (gk_r σ 15 (upd (σ.1 15) k a)) 16 (nI k) a2 = gk_r (gk_r σ 15 (upd (σ.1 15) k a)) 16 (upd (σ.1 16) k a2) := fun a => gk_put_in _ 16 k a2 hk12 (by omega)
  have m1 : ∀ a, mk_st (gk_s μ 0 0) 18 (nI k) a = gk_r (gk_s μ 0 0) 18 (upd (μ.1 18) k a) := fun a => mk_st_in _ 18 k a (by omega)
  have m2 : ∀ a, mk_st (gk_r (gk_s μ 0 0) 18 (upd (μ.1 18) k a)) 22 (nI k) a2 = gk_r (gk_r (gk_s μ 0 0) 18 (upd (μ.1 18) k a)) 22 (upd (μ.1 22) k a2) := fun a => mk_st_in _ 22 k a2 (by omega)
  rcases hz with rfl | rfl
  · simp [c1, c2, c3, h1, h2, p0, p1, p2, m1, m2, g1, g2, hv, lo_nar0, lo_nar1, gk_z0, gk_z1]
    exact ⟨rfl, e3 0 (Or.inl rfl)⟩
  · simp [c1, c2, c3, h1, h2, p0, p1, p2, m1, m2, g1, g2, hv, lo_nar0, lo_nar1, gk_z0, gk_z1]
    exact ⟨rfl, e3 1 (Or.inr rfl)⟩
theorem q_setTerms {I : gk_C → gk_C → Prop} (hU : ∀ σ μ, I σ μ → jL σ μ) (hT : ∀ σ μ v, I σ μ → I σ (gk_s μ 0 v))
    (hA : ∀ σ μ k a b c n, I σ μ → σ.2 4 = nI n → n ≤ 30 → k < n → (¬ a < 0 ∧ ¬ 255 < a) → (¬ b < 0 ∧ ¬ 23 < b) → (¬ c < 0 ∧ ¬ 23 < c) → I (gk_r (gk_r (gk_r σ 17 (upd (σ.1 17) k a)) 18 (upd (σ.1 18) k b)) 19 (upd (σ.1 19) k c)) (gk_r (gk_r (gk_r μ 23 (upd (μ.1 23) k a)) 24 (upd (μ.1 24) k b)) 25 (upd (μ.1 25) k c))) :
    ∀ (σ μ : gk_C) (o : Int64), I σ μ → ∀ (a0 a1 a2 a3 : Int32), w_L_setTerms σ o a0 a1 a2 a3 (fun k σ1 o1 => w_X9_setTerms μ a0 a1 a2 a3 (fun r μ1 => μ1.2 0 = k ∧ (k = 0 → o1 = r.toInt64) ∧ I σ1 μ1)) := by
  intro σ μ o h a0 a1 a2 a3
  obtain ⟨n, hn, hs, hm, hr⟩ := hU σ μ h
  have e1 := hT _ _ 1 (hT _ _ 0 h)
  have e2 := hT _ _ 2 (hT _ _ 0 h)
  have hm0 : (gk_s μ 0 0).2 16 = nI n := hm
  simp only [w_L_setTerms, w_X8_setTerms, wJ_X8_setTerms_41, wJ_X8_setTerms_42, w_X8_isRule, w_X8_isUpTo, w_X8_checkArguments, w_X8_checkThere, w_X9_setTerms, wJ_X9_setTerms_51, w_X9_isRule, w_X9_isIn, w_X9_no, hs, hm0]
  rcases lo_there (n := n) (by omega) a0 with ⟨c1, -⟩ | ⟨c1, c2, c3⟩ | ⟨c1, c2, c3, k, hk, rfl⟩
  · simp [c1, e1, gk_z0, gk_z1]; first | exact rfl | exact Or.inl rfl | exact Or.inr rfl | exact ⟨rfl, rfl⟩
  · simp [c1, c2, c3, e1, gk_z0, gk_z1]; first | exact rfl | exact Or.inl rfl | exact Or.inr rfl | exact ⟨rfl, rfl⟩
  by_cases h1 : a1 < 0
  · simp [c1, c2, c3, h1, e2, gk_z0, gk_z1]; first | exact rfl | exact Or.inl rfl | exact Or.inr rfl | exact ⟨rfl, rfl⟩
  by_cases h2 : 255 < a1
  · simp [c1, c2, c3, h1, h2, e2, gk_z0, gk_z1]; first | exact rfl | exact Or.inl rfl | exact Or.inr rfl | exact ⟨rfl, rfl⟩
  by_cases h3 : a2 < 0
  · simp [c1, c2, c3, h1, h2, h3, e2, gk_z0, gk_z1]; first | exact rfl | exact Or.inl rfl | exact Or.inr rfl | exact ⟨rfl, rfl⟩
  by_cases h4 : 23 < a2
  · simp [c1, c2, c3, h1, h2, h3, h4, e2, gk_z0, gk_z1]; first | exact rfl | exact Or.inl rfl | exact Or.inr rfl | exact ⟨rfl, rfl⟩
  by_cases h5 : a3 < 0
  · simp [c1, c2, c3, h1, h2, h3, h4, h5, e2, gk_z0, gk_z1]; first | exact rfl | exact Or.inl rfl | exact Or.inr rfl | exact ⟨rfl, rfl⟩
  by_cases h6 : 23 < a3
  · simp [c1, c2, c3, h1, h2, h3, h4, h5, h6, e2, gk_z0, gk_z1]; first | exact rfl | exact Or.inl rfl | exact Or.inr rfl | exact ⟨rfl, rfl⟩
  have hk12 : k < 30 := by omega
  have hv := vp_in_nI hk12 (by decide)
  have p0 : gk_at σ 17 (nI k) = σ.1 17 k := gk_at_in' σ 17 k hk12 (by omega)
  have g1 : (gk_s μ 0 0).1 23 k = σ.1 17 k := ((hr k hk).2.2.2.2.2.2.1).symm
  have g2 : (nI k).toNatClampNeg = k := nI_clamp (by omega)
  have e3 := hA _ _ k a1 a2 a3 n (hT _ _ 0 h) hs hn hk ⟨h1, h2⟩ ⟨h3, h4⟩ ⟨h5, h6⟩
  have p1 : gk_put σ 17 (nI k) a1 = gk_r σ 17 (upd (σ.1 17) k a1) := gk_put_in σ 17 k a1 hk12 (by omega)
  have p2 : gk_put (gk_r σ 17 (upd (σ.1 17) k a1)) 18 (nI k) a2 = gk_r (gk_r σ 17 (upd (σ.1 17) k a1)) 18 (upd (σ.1 18) k a2) := gk_put_in _ 18 k a2 hk12 (by omega)
  have p3 : gk_put (gk_r (gk_r σ 17 (upd (σ.1 17) k a1)) 18 (upd (σ.1 18) k a2)) 19 (nI k) a3 = gk_r (gk_r (gk_r σ 17 (upd (σ.1 17) k a1)) 18 (upd (σ.1 18) k a2)) 19 (upd (σ.1 19) k a3) := gk_put_in _ 19 k a3 hk12 (by omega)
  have m1 : mk_st (gk_s μ 0 0) 23 (nI k) a1 = gk_r (gk_s μ 0 0) 23 (upd (μ.1 23) k a1) := mk_st_in _ 23 k a1 (by omega)
  have m2 : mk_st (gk_r (gk_s μ 0 0) 23 (upd (μ.1 23) k a1)) 24 (nI k) a2 = gk_r (gk_r (gk_s μ 0 0) 23 (upd (μ.1 23) k a1)) 24 (upd (μ.1 24) k a2) := mk_st_in _ 24 k a2 (by omega)
  have m3 : mk_st (gk_r (gk_r (gk_s μ 0 0) 23 (upd (μ.1 23) k a1)) 24 (upd (μ.1 24) k a2)) 25 (nI k) a3 = gk_r (gk_r (gk_r (gk_s μ 0 0) 23 (upd (μ.1 23) k a1)) 24 (upd (μ.1 24) k a2)) 25 (upd (μ.1 25) k a3) := mk_st_in _ 25 k a3 (by omega)
  simp [c1, c2, c3, h1, h2, h3, h4, h5, h6, p0, p1, p2, p3, m1, m2, m3, g1, g2, hv, gk_z0, gk_z1]
  exact ⟨rfl, e3⟩
theorem q_addRole {I : gk_C → gk_C → Prop} (hR : ∀ σ μ, I σ μ → ∃ n, n ≤ 12 ∧ σ.2 1 = nI n ∧ μ.2 7 = nI n) (hT : ∀ σ μ v, I σ μ → I σ (gk_s μ 0 v)) (hA : ∀ σ μ n, I σ μ → n < 12 → σ.2 1 = nI n → I (gk_s σ 1 (nI (n + 1))) (gk_s μ 7 (nI (n + 1)))) :
    ∀ (σ μ : gk_C) (o : Int64), I σ μ → w_L_addRole σ o (fun k σ1 o1 => w_X9_addRole μ (fun r μ1 => μ1.2 0 = k ∧ (k = 0 → o1 = r.toInt64) ∧ I σ1 μ1)) := by
  intro σ μ o h
  obtain ⟨n, hn, hs, hm⟩ := hR σ μ h
  have e1 := hT _ _ 1 (hT _ _ 0 h)
  have hm0 : (gk_s μ 0 0).2 7 = nI n := hm
  simp only [w_L_addRole, w_X8_addRole, wJ_X8_addRole_20, w_X1_add, w_X8_checkState, w_X9_addRole, w_X9_no, hs, hm0]
  by_cases h5 : n = 12
  · subst h5
    simp [(nI_le12 (Nat.le_refl 12)).mpr rfl, (nI_eq12 (Nat.le_refl 12)).mpr rfl, e1]; first | exact rfl | exact Or.inl rfl | exact Or.inr rfl | exact ⟨rfl, rfl⟩
  · have c1 : ¬ (12 : Int32) ≤ nI n := fun q => h5 ((nI_le12 hn).mp q)
    have c2 : ¬ nI n = 12 := fun q => h5 ((nI_eq12 hn).mp q)
    have e3 := hA _ _ n (hT _ _ 0 h) (by omega) hs
    simp [c1, c2]
    rw [nI_1]
    exact ⟨rfl, e3⟩
/-- grants, as many as there are; the clock -/
def jG (σ μ : gk_C) : Prop := ∃ n : Nat, n ≤ 30 ∧ σ.2 5 = nI n ∧ μ.2 26 = nI n ∧ ∀ k, k < n → σ.1 20 k = μ.1 27 k ∧ σ.1 21 k = μ.1 28 k ∧ σ.1 22 k = μ.1 29 k ∧ σ.1 23 k = μ.1 30 k ∧ σ.1 24 k = μ.1 31 k ∧ σ.1 25 k = μ.1 32 k
theorem q_revoke {I : gk_C → gk_C → Prop} (hU : ∀ σ μ, I σ μ → jG σ μ) (hS : ∀ σ μ, I σ μ → jS σ μ) (hT : ∀ σ μ v, I σ μ → I σ (gk_s μ 0 v))
    (hA : ∀ σ μ k n, I σ μ → σ.2 5 = nI n → n ≤ 30 → k < n → I (gk_r σ 25 (upd (σ.1 25) k (σ.2 7))) (gk_r μ 32 (upd (μ.1 32) k (σ.2 7)))) :
    ∀ (σ μ : gk_C) (o : Int64), I σ μ → ∀ (a0 : Int32), w_L_revoke σ o a0 (fun k σ1 o1 => w_X9_revoke μ a0 (fun r μ1 => μ1.2 0 = k ∧ (k = 0 → (¬ r = 0 → o1 = 1) ∧ (r = 0 → o1 = 0)) ∧ I σ1 μ1)) := by
  intro σ μ o h a0
  obtain ⟨n, hn, hs, hm, hr⟩ := hU σ μ h
  obtain ⟨-, -, hc, -⟩ := hS σ μ h
  have e0 := hT _ _ 0 h
  have e1 := hT _ _ 1 (hT _ _ 0 h)
  have hm0 : (gk_s μ 0 0).2 26 = nI n := hm
  have hc0 : (gk_s μ 0 0).2 1 = σ.2 7 := hc.symm
  simp only [w_L_revoke, w_X8_revoke, w_X8_isGrant, w_X4_isThere, w_X8_checkThere, w_X9_revoke, wJ_X9_revoke_37, w_X9_isGrant, w_X9_isIn, w_X9_isNot, hs, hm0, hc0]
  rcases lo_there (n := n) (by omega) a0 with ⟨c1, -⟩ | ⟨c1, c2, c3⟩ | ⟨c1, c2, c3, k, hk, rfl⟩
  · simp [c1, e1, gk_z0, gk_z1]; first | exact rfl | exact Or.inl rfl | exact Or.inr rfl | exact ⟨rfl, rfl⟩
  · simp [c1, c2, c3, e1, gk_z0, gk_z1]; first | exact rfl | exact Or.inl rfl | exact Or.inr rfl | exact ⟨rfl, rfl⟩
  have hk12 : k < 30 := by omega
  have hv := vp_in_nI hk12 (by decide)
  have p0 : gk_at σ 25 (nI k) = σ.1 25 k := gk_at_in' σ 25 k hk12 (by omega)
  have p1 : gk_put σ 25 (nI k) (σ.2 7) = gk_r σ 25 (upd (σ.1 25) k (σ.2 7)) := gk_put_in σ 25 k _ hk12 (by omega)
  have m1 : mk_st (gk_s μ 0 0) 32 (nI k) (σ.2 7) = gk_r (gk_s μ 0 0) 32 (upd (μ.1 32) k (σ.2 7)) := mk_st_in _ 32 k _ (by omega)
  have g1 : (gk_s μ 0 0).1 32 k = σ.1 25 k := ((hr k hk).2.2.2.2.2).symm
  have g2 : (nI k).toNatClampNeg = k := nI_clamp (by omega)
  have e3 := hA _ _ k n (hT _ _ 0 h) hs hn hk
  by_cases hw : σ.1 25 k ≤ σ.2 7
  · simp [c1, c2, c3, p0, p1, m1, g1, g2, hv, hw, e0, gk_z0, gk_z1]
    first | exact rfl | exact ⟨rfl, e0⟩
  · simp [c1, c2, c3, p0, p1, m1, g1, g2, hv, hw, gk_z0, gk_z1]
    exact ⟨rfl, e3⟩
theorem lo_m24 (a b : Nat) : nI a * 24 + nI b = nI (a * 24 + b) := by
  have e : nI a * 24 = nI (a * 24) := (Int32.ofNat_mul a 24).symm
  rw [e, nI_add]
theorem q_done {I : gk_C → gk_C → Prop} (hU : ∀ σ μ, I σ μ → jU σ μ) (hR : ∀ σ μ, I σ μ → jT σ μ) (hT : ∀ σ μ v, I σ μ → I σ (gk_s μ 0 v)) :
    ∀ (σ μ : gk_C) (o : Int64), I σ μ → ∀ (a0 a1 : Int32), w_L_done σ o a0 a1 (fun k σ1 o1 => w_X9_done μ a0 a1 (fun r μ1 => μ1.2 0 = k ∧ (k = 0 → o1 = r.toInt64) ∧ I σ1 μ1)) := by
  intro σ μ o h a0 a1
  obtain ⟨n, hn, hs, hm, -, hd⟩ := hU σ μ h
  obtain ⟨t, ht1, ht, hs2, hm2, -⟩ := hR σ μ h
  have e0 := hT _ _ 0 h
  have e1 := hT _ _ 1 (hT _ _ 0 h)
  have hm0 : (gk_s μ 0 0).2 3 = nI n := hm
  have hm20 : (gk_s μ 0 0).2 11 = nI t := hm2
  simp only [w_L_done, w_X8_done, wJ_X8_done_20, wJ_X8_done_21, w_X6_doneOn, w_X8_isUser, w_X8_isResource, w_X8_checkThere, w_X9_done, wJ_X9_done_35, w_X9_isUser, w_X9_isResource, w_X9_isIn, w_X9_no, hs, hm0, hs2, hm20]
  rcases lo_there (n := n) (by omega) a0 with ⟨c1, -⟩ | ⟨c1, c2, c3⟩ | ⟨c1, c2, c3, k, hk, rfl⟩
  · simp [c1, e1, gk_z0, gk_z1]; first | exact rfl | exact Or.inl rfl | exact Or.inr rfl | exact ⟨rfl, rfl⟩
  · simp [c1, c2, c3, e1, gk_z0, gk_z1]; first | exact rfl | exact Or.inl rfl | exact Or.inr rfl | exact ⟨rfl, rfl⟩
  rcases lo_there (n := t) (by omega) a1 with ⟨d1, -⟩ | ⟨d1, d2, d3⟩ | ⟨d1, d2, d3, j, hj, rfl⟩
  · simp [c1, c2, c3, d1, e1, gk_z0, gk_z1]; first | exact rfl | exact Or.inl rfl | exact Or.inr rfl | exact ⟨rfl, rfl⟩
  · simp [c1, c2, c3, d1, d2, d3, e1, gk_z0, gk_z1]; first | exact rfl | exact Or.inl rfl | exact Or.inr rfl | exact ⟨rfl, rfl⟩
  have hlt : k * 24 + j < 288 := by omega
  have hv := vp_in_nI hlt (by decide)
  have p0 : gk_at σ 3 (nI (k * 24 + j)) = σ.1 3 (k * 24 + j) := gk_at_in' σ 3 _ hlt (by omega)
  have g1 : (gk_s μ 0 0).1 34 (k * 24 + j) = σ.1 3 (k * 24 + j) := (hd _ hlt).symm
  have g2 : (nI (k * 24 + j)).toNatClampNeg = k * 24 + j := nI_clamp (by omega)
  simp [c1, c2, c3, d1, d2, d3, lo_m24, p0, g1, g2, hv, e0, gk_z0, gk_z1]
  first | exact rfl | exact ⟨rfl, e0⟩
