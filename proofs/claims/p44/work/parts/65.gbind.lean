/-! ===== the law's Gate tells the same: bind ===== -/
/-- the law's Gate has users, roles, resources, and who has, holds, is apart, as the gate was told -/
def gR (nU nR nT : Nat) (σ : nk_C) : Prop := gI σ.1 ∧ (σ.1.2 0 = nI nU ∧ σ.2.2 5 = nI nU) ∧ (σ.1.2 1 = nI nR ∧ σ.2.2 9 = nI nR) ∧ (σ.1.2 3 = nI nT ∧ σ.2.2 12 = nI nT) ∧ (∀ u, u < nU → tS5 (σ.1.1 2 u) nR (22 + u) σ) ∧ tH5 (σ.1.1 4) nR σ ∧ tA5 (σ.1.1 5) nR σ
def bN (nU nR nT : Nat) : Prop := (2 ≤ nU ∧ nU ≤ 4) ∧ (2 ≤ nR ∧ nR ≤ 5) ∧ (3 ≤ nT ∧ nT ≤ 6)
def lD (D : Nat) (σ : nk_C) : Prop := ∃ d, d ≤ D ∧ σ.2.2 2 = nI d
def lL (j : Nat) (σ : nk_C) (ρ : lk_R) : Prop := tL (told σ.1) ≤ j ∧ σ.2.2 17 = nI (tL (told σ.1)) ∧ ∀ k, k < tL (told σ.1) → ∃ f, ρ.1 k = some f ∧ f 0 = σ.1.1 11 k
def lG (j : Nat) (σ : nk_C) (ρ : lk_R) : Prop := tG (told σ.1) ≤ j ∧ σ.2.2 19 = nI (tG (told σ.1)) ∧ ∀ g, g < tG (told σ.1) → ∃ f, ρ.2 g = some f ∧ f 1 = σ.1.1 21 g ∧ f 3 = σ.1.1 23 g
def bK (nU nR nT j : Nat) (ρ : lk_R) (σ : nk_C) : Prop := gR nU nR nT σ ∧ lL j σ ρ ∧ lG j σ ρ
theorem lD_up {D E : Nat} {σ : nk_C} (h : lD D σ) (hE : D ≤ E) : lD E σ := by
  obtain ⟨d, h1, h2⟩ := h
  exact ⟨d, by omega, h2⟩
theorem ln_draw {K : nk_C → Prop} (hK : ∀ σ v, K σ → K (nk_s σ 2 v)) {σ : nk_C} {D : Nat} (h : K σ) (hd : lD D σ) (hD : D < 999000) {a : Int32} {N : Nat} (ha : a = nI N) (h0 : 0 < N) (hN : N ≤ 1000) {Q : Int32 → nk_C → Prop} (hQ : ∀ k, k < N → ∀ σ1, K σ1 → lD (D + 1) σ1 → Q (nI k) σ1) : w_X9_draw σ a Q := by
  obtain ⟨d, h1, h2⟩ := hd
  exact ⟨d, N, h2, by omega, ha, h0, hN, fun k hk => hQ k hk _ (hK σ _ h) ⟨d + 1, by omega, rfl⟩⟩
theorem bK_s {nU nR nT j : Nat} {ρ : lk_R} : ∀ (σ : nk_C) (v : Int32), bK nU nR nT j ρ σ → bK nU nR nT j ρ (nk_s σ 2 v) := fun _ _ h => h
theorem gR_n {nU nR nT : Nat} {σ : nk_C} (h : gR nU nR nT σ) (hN : bN nU nR nT) : tU (told σ.1) = nU ∧ tR (told σ.1) = nR ∧ tT (told σ.1) = nT := by
  obtain ⟨⟨_, _⟩, ⟨_, _⟩, ⟨_, _⟩⟩ := hN
  exact ⟨num_eq h.2.1.1 (by omega), num_eq h.2.2.1.1 (by omega), num_eq h.2.2.2.1.1 (by omega)⟩
theorem gR_hb {nU nR nT : Nat} {σ : nk_C} (h : gR nU nR nT σ) (hN : bN nU nR nT) : ∀ k, k < nR → bd nR (σ.1.1 4 k) := by
  obtain ⟨e1, e2, e3⟩ := gR_n h hN
  have := wf_bd h.1.1
  rw [e2] at this
  exact this
theorem gR_sb {nU nR nT : Nat} {σ : nk_C} (h : gR nU nR nT σ) (hN : bN nU nR nT) : ∀ u, u < nU → bd nR (σ.1.1 2 u) := by
  obtain ⟨e1, e2, e3⟩ := gR_n h hN
  have := h.1.1.2.1.1
  rw [e1, e2] at this
  exact this
theorem gR_sym {nU nR nT : Nat} {σ : nk_C} (h : gR nU nR nT σ) (hN : bN nU nR nT) : sym5 (σ.1.1 5) nR := by
  obtain ⟨e1, e2, e3⟩ := gR_n h hN
  obtain ⟨⟨_, _⟩, ⟨_, _⟩, ⟨_, _⟩⟩ := hN
  intro a b ha hb q
  obtain ⟨h1, h2, h3, h4⟩ := h.1.2.2.1.1 a b (by omega) hb q
  exact ⟨by omega, h3, h4⟩
theorem gR_sp {nU nR nT : Nat} {σ : nk_C} (h : gR nU nR nT σ) (hN : bN nU nR nT) (x : Int32) : rSplit ((told σ.1).1 5) (tR (told σ.1)) (hd (told σ.1) x) = rSplit (σ.1.1 5) nR (rH (σ.1.1 4) nR x 12) := by
  obtain ⟨e1, e2, e3⟩ := gR_n h hN
  show rSplit (σ.1.1 5) (tR (told σ.1)) (rH (σ.1.1 4) (tR (told σ.1)) x 12) = _
  rw [e2]
theorem aft_b {b : Int32} {r i : Nat} {x : Int32} (hr : r < 32) (hi : i < 32) (hx : x = 0 ∨ x = 1) : b2i (bt (aft b (nI r) x) i) = if i = r then x else b2i (bt b i) := by
  unfold aft
  rcases hx with rfl | rfl
  · rw [if_pos rfl, b_and, b_not _ hi, b_bit hr hi]
    by_cases e : i = r
    · rw [if_pos e, decide_eq_true e]; simp [b2i]
    · rw [if_neg e, decide_eq_false e]; simp
  · rw [if_neg (by decide), b_or, b_bit hr hi]
    by_cases e : i = r
    · rw [if_pos e, decide_eq_true e]; simp [b2i]
    · rw [if_neg e, decide_eq_false e]; simp
theorem row_aft {f : Nat → Int32} {b x : Int32} {r n : Nat} (hn : n ≤ 5) (hr : r < n) (hx : x = 0 ∨ x = 1) (h : ∀ i, i < n → f i = b2i (bt b i)) : ∀ i, i < n → upd f r x i = b2i (bt (aft b (nI r) x) i) := fun i hi => by
  rw [aft_b (by omega) (by omega) hx]
  by_cases e : i = r
  · rw [if_pos e, e, up_at]
  · rw [if_neg e, up_ne _ _ e]; exact h i hi
theorem row_back {f : Nat → Int32} {b x : Int32} {r n : Nat} (h : ∀ i, i < n → f i = b2i (bt b i)) : ∀ i, i < n → upd (upd f r x) r (b2i (bt b r)) i = b2i (bt b i) := fun i hi => by
  by_cases e : i = r
  · rw [e, up_at]
  · rw [up_ne _ _ e, up_ne _ _ e]; exact h i hi
theorem nk_st_nI (σ : nk_C) (k i : Nat) (x : Int32) (hi : i < 2 ^ 31) : nk_st σ k (nI i) x = nk_r σ k (upd (σ.2.1 k) i x) := by
  unfold nk_st
  rw [nI_clamp hi]
theorem nk_r_ne (σ : nk_C) {k q : Nat} (f : Nat → Int32) (h : q ≠ k) : (nk_r σ k f).2.1 q = σ.2.1 q := gr_ne σ.2 f h
theorem nk_r_at (σ : nk_C) (k : Nat) (f : Nat → Int32) : (nk_r σ k f).2.1 k = f := gr_at σ.2 k f
theorem nar_01 {x : Int32} (h : x = 0 ∨ x = 1) : vp_nar .boolean x = x := nar_b h
section BN
variable {nU nR nT j : Nat} {ρ : lk_R}
/-- a role given or taken -/
theorem ln_bindRole (hN : bN nU nR nT) {σ : nk_C} {D : Nat} (h : bK nU nR nT j ρ σ) (hd' : lD D σ) {u r : Nat} {t : Int32} (ht : t = 0 ∨ t = 1) (hu : u < nU) (hr : r < nR) {Q : Int32 → nk_C → Prop} (hQ : ∀ σ1, bK nU nR nT j ρ σ1 → lD D σ1 → Q 1 σ1) :
    ∀ σ81 : nk_C, σ81 = nk_st σ (22 + (nI u).toNatClampNeg) (nI r) (vp_nar .boolean t) → ((t = 0) → (wJ_X9_bind_104 (fun σ x1 x2 x4 x6 x8 t0 => (wJ_X9_bind_105 Q σ x1 x2 x4 x6 x8 t0)) σ81 (nI u) (nI r) t 0 0 (σ.2.1 (22 + (nI u).toNatClampNeg) (nI r).toNatClampNeg))) ∧ ((¬ t = 0) → (vp_in (nI u) 4 ∧ w_X9_hasApart σ81 (22 + (nI u).toNatClampNeg) (fun r94 => ((r94 = 0) → (wJ_X9_bind_104 (fun σ x1 x2 x4 x6 x8 t0 => (wJ_X9_bind_105 Q σ x1 x2 x4 x6 x8 t0)) σ81 (nI u) (nI r) t 0 0 (σ.2.1 (22 + (nI u).toNatClampNeg) (nI r).toNatClampNeg))) ∧ ((¬ r94 = 0) → (wJ_X9_bind_105 Q σ81 (nI u) (nI r) t 0 (σ.2.1 (22 + (nI u).toNatClampNeg) (nI r).toNatClampNeg) 1))))) := by
  obtain ⟨hG, hLL, hGG⟩ := h
  obtain ⟨e1, e2, e3⟩ := gR_n hG hN
  have hb := gR_hb hG hN
  have hsb := gR_sb hG hN
  have hsym := gR_sym hG hN
  have hsp := gR_sp hG hN (aft (σ.1.1 2 u) (nI r) t)
  obtain ⟨⟨n1, n2⟩, ⟨n3, n4⟩, ⟨n5, n6⟩⟩ := hN
  obtain ⟨hI, hsU, hsR, hsT, hS, hH, hA⟩ := hG
  rw [nI_clamp (show u < 2 ^ 31 by omega), nI_clamp (show r < 2 ^ 31 by omega), nk_st_nI _ _ _ _ (show r < 2 ^ 31 by omega), nar_01 ht]
  rintro _ rfl
  have hSu : tS5 (aft (σ.1.1 2 u) (nI r) t) nR (22 + u) (nk_r σ (22 + u) (upd (σ.2.1 (22 + u)) r t)) := fun i hi => by
    rw [nk_r_at]
    exact row_aft n4 hr ht (hS u hu) i hi
  have hH' : ∀ f, tH5 (σ.1.1 4) nR (nk_r σ (22 + u) f) := fun f a b ha hb2 => by
    rw [nk_r_ne _ _ (by omega)]; exact hH a b ha hb2
  have hA' : ∀ f, tA5 (σ.1.1 5) nR (nk_r σ (22 + u) f) := fun f a b ha hb2 => by
    rw [nk_r_ne _ _ (by omega)]; exact hA a b ha hb2
  have hx8 : σ.2.1 (22 + u) r = b2i (bt (σ.1.1 2 u) r) := hS u hu r hr
  -- done
  have done : (¬ t = 0 → rSplit (σ.1.1 5) nR (rH (σ.1.1 4) nR (aft (σ.1.1 2 u) (nI r) t) 12) = false) → wJ_X9_bind_104 (fun σ x1 x2 x4 x6 x8 t0 => (wJ_X9_bind_105 Q σ x1 x2 x4 x6 x8 t0)) (nk_r σ (22 + u) (upd (σ.2.1 (22 + u)) r t)) (nI u) (nI r) t 0 0 (σ.2.1 (22 + u) r) := fun hns => by
    unfold wJ_X9_bind_104 wJ_X9_bind_105
    refine pm_go0 ?_
    unfold wJ_X9_bind_122
    refine la_setRole (σ := σ.1) hI (by omega) (by omega) (fun c q => ?_) (fun q hI2 => ?_)
    · rw [hsp, hns c] at q; cases q
    · refine ⟨fun c => absurd hx8.symm c, fun _ => pm_go0' ?_⟩
      refine hQ _ ⟨⟨hI2, hsU, hsR, hsT, fun w hw => ?_, hH' _, hA' _⟩, hLL, hGG⟩ hd'
      by_cases e : w = u
      · subst e
        show tS5 (upd (σ.1.1 2) w (aft (σ.1.1 2 w) (nI r) t) w) nR (22 + w) _
        rw [up_at]
        exact hSu
      · show tS5 (upd (σ.1.1 2) u (aft (σ.1.1 2 u) (nI r) t) w) nR (22 + w) _
        rw [up_ne _ _ e]
        intro i hi
        show (nk_r σ (22 + u) (upd (σ.2.1 (22 + u)) r t)).2.1 (22 + w) i = _
        rw [nk_r_ne _ _ (by omega)]
        exact hS w hw i hi
  refine ⟨fun c => done (fun c2 => absurd c c2), fun c => ⟨vp_in' (by omega) (by decide), ?_⟩⟩
  refine ln_hasApart (σ := nk_r σ (22 + u) (upd (σ.2.1 (22 + u)) r t)) (h := σ.1.1 4) (s := aft (σ.1.1 2 u) (nI r) t) (ap := σ.1.1 5) hsR.2 n4 (hH' _) hb hSu (bd_aft (hsb u hu) hr (by omega)) (hA' _) hsym ?_
  refine b2i_go _ (fun q => done (fun _ => q)) (fun q => ?_)
  unfold wJ_X9_bind_105
  refine pm_go1 ⟨vp_in' (by omega) (by decide), vp_in' (by omega) (by decide), ?_⟩
  rw [nI_clamp (show u < 2 ^ 31 by omega), nk_st_nI _ _ _ _ (show r < 2 ^ 31 by omega), hx8, nar_01 (by cases bt (σ.1.1 2 u) r <;> simp [b2i])]
  rintro _ rfl
  unfold wJ_X9_bind_122
  refine la_setRole (σ := σ.1) hI (by omega) (by omega) (fun c2 q2 => Or.inr ⟨rfl, pm_go1 (pm_go0' ?_)⟩) (fun q2 _ => ?_)
  · refine hQ _ ⟨⟨hI, hsU, hsR, hsT, fun w hw => ?_, fun a b ha hb2 => ?_, fun a b ha hb2 => ?_⟩, hLL, hGG⟩ hd'
    · intro i hi
      show (nk_r (nk_r σ (22 + u) (upd (σ.2.1 (22 + u)) r t)) (22 + u) _).2.1 (22 + w) i = _
      by_cases e : w = u
      · subst e
        rw [nk_r_at, nk_r_at]
        exact row_back (hS w hw) i hi
      · rw [nk_r_ne _ _ (by omega), nk_r_ne _ _ (by omega)]
        exact hS w hw i hi
    · show (nk_r (nk_r σ (22 + u) (upd (σ.2.1 (22 + u)) r t)) (22 + u) _).2.1 (26 + a) b = _
      rw [nk_r_ne _ _ (by omega)]; exact hH' _ a b ha hb2
    · show (nk_r (nk_r σ (22 + u) (upd (σ.2.1 (22 + u)) r t)) (22 + u) _).2.1 (31 + a) b = _
      rw [nk_r_ne _ _ (by omega)]; exact hA' _ a b ha hb2
  · rw [hsp, q] at q2; cases q2
/-- a role lets another one hold it, or no more -/
theorem ln_bindHolds (hN : bN nU nR nT) {σ : nk_C} {D : Nat} (h : bK nU nR nT j ρ σ) (hd' : lD D σ) {r o : Nat} {t y : Int32} (ht : t = 0 ∨ t = 1) (hr : r < nR) (ho : o < nR) (hy : y = 0 ∨ y = 1)
    (hy1 : (¬ y = 0) ↔ (r = o ∨ (¬ t = 0 ∧ bt (rH (σ.1.1 4) nR (1 <<< (nI o &&& 31)) 12) r = true))) {Q : Int32 → nk_C → Prop} (hQ : ∀ σ1, bK nU nR nT j ρ σ1 → lD D σ1 → Q 1 σ1) : wJ_X9_bind_181 Q σ (nI r) (nI o) t 0 y := by
  obtain ⟨hG, hLL, hGG⟩ := h
  obtain ⟨e1, e2, e3⟩ := gR_n hG hN
  have hb := gR_hb hG hN
  have hsb := gR_sb hG hN
  have hsym := gR_sym hG hN
  obtain ⟨⟨n1, n2⟩, ⟨n3, n4⟩, ⟨n5, n6⟩⟩ := hN
  have hG0 := hG
  obtain ⟨hI, hsU, hsR, hsT, hS, hH, hA⟩ := hG
  have ehd : bt (hd (told σ.1) (1 <<< (nI o &&& 31))) r = bt (rH (σ.1.1 4) nR (1 <<< (nI o &&& 31)) 12) r := by
    show bt (rH (σ.1.1 4) (tR (told σ.1)) (1 <<< (nI o &&& 31)) 12) r = _
    rw [e2]
  have ewS : wSp σ.1 r (aft (σ.1.1 4 r) (nI o) t) = rAny (fun u => rSplit (σ.1.1 5) nR (rH (upd (σ.1.1 4) r (aft (σ.1.1 4 r) (nI o) t)) nR (σ.1.1 2 u) 12)) nU := by
    unfold wSp
    rw [e1, e2]
  unfold wJ_X9_bind_181
  refine ⟨vp_in' (by omega) (by decide), vp_in' (by omega) (by decide), fun c => ?_, fun c => ⟨vp_in' (by omega) (by decide), vp_in' (by omega) (by decide), ?_⟩⟩
  · -- refused by its arguments
    have c' := hy1.mp c
    have y1 : y = 1 := hy.resolve_left c
    unfold wJ_X9_bind_208
    refine ⟨fun _ => ?_, fun q => absurd q c⟩
    unfold wJ_X9_bind_229 wJ_X9_bind_230
    refine pm_go0 ?_
    unfold wJ_X9_bind_247
    refine la_setHolds (σ := σ.1) hI (by omega) (by omega) (fun _ => Or.inl ⟨rfl, ?_⟩) (fun q1 q2 q3 _ => ?_) (fun q1 q2 _ => ?_)
    · rw [y1]
      exact ⟨gk_z1, hQ _ ⟨hG0, hLL, hGG⟩ hd'⟩
    · exfalso
      rcases c' with c' | c'
      · exact q1 c'
      · rw [ehd, c'.2] at q3; cases q3
    · exfalso
      rcases c' with c' | c'
      · exact q1 c'
      · rcases q2 with q2 | q2
        · exact c'.1 q2
        · rw [ehd, c'.2] at q2; cases q2.1
  · have c' : ¬ (r = o ∨ (¬ t = 0 ∧ bt (rH (σ.1.1 4) nR (1 <<< (nI o &&& 31)) 12) r = true)) := fun q => hy1.mpr q c
    subst c
    rw [nI_clamp (show r < 2 ^ 31 by omega), nI_clamp (show o < 2 ^ 31 by omega), nk_st_nI _ _ _ _ (show o < 2 ^ 31 by omega), nar_01 ht]
    rintro _ rfl
    have hx8 : σ.2.1 (26 + r) o = b2i (bt (σ.1.1 4 r) o) := hH r o hr ho
    have hS' : ∀ f w, w < nU → tS5 (σ.1.1 2 w) nR (22 + w) (nk_r σ (26 + r) f) := fun f w hw i hi => by
      rw [nk_r_ne _ _ (by omega)]; exact hS w hw i hi
    have hA' : ∀ f, tA5 (σ.1.1 5) nR (nk_r σ (26 + r) f) := fun f a b ha hb2 => by
      rw [nk_r_ne _ _ (by omega)]; exact hA a b ha hb2
    have hH' : tH5 (upd (σ.1.1 4) r (aft (σ.1.1 4 r) (nI o) t)) nR (nk_r σ (26 + r) (upd (σ.2.1 (26 + r)) o t)) := fun a b ha hb2 => by
      by_cases e : a = r
      · subst e
        rw [nk_r_at, up_at]
        exact row_aft n4 ho ht (fun i hi => hH a i ha hi) b hb2
      · rw [nk_r_ne _ _ (by omega), up_ne _ _ e]
        exact hH a b ha hb2
    have hb' : ∀ k, k < nR → bd nR (upd (σ.1.1 4) r (aft (σ.1.1 4 r) (nI o) t) k) := fun k hk => by
      by_cases e : k = r
      · rw [e, up_at]; exact bd_aft (hb r hr) ho (by omega)
      · rw [up_ne _ _ e]; exact hb k hk
    have done : (¬ t = 0 → wSp σ.1 r (aft (σ.1.1 4 r) (nI o) t) = false) → wJ_X9_bind_229 (fun σ x2 x3 x4 x6 x8 t0 => (wJ_X9_bind_230 Q σ x2 x3 x4 x6 x8 t0)) (nk_r σ (26 + r) (upd (σ.2.1 (26 + r)) o t)) (nI r) (nI o) t 0 0 (σ.2.1 (26 + r) o) := fun hns => by
      unfold wJ_X9_bind_229 wJ_X9_bind_230
      refine pm_go0 ?_
      unfold wJ_X9_bind_247
      refine la_setHolds (σ := σ.1) hI (by omega) (by omega) (fun q => absurd ?_ c') (fun q1 q2 q3 q4 => ?_) (fun q1 q2 hI2 => ?_)
      · rw [ehd] at q; exact q
      · rw [hns q2] at q4; cases q4
      · refine ⟨fun q => absurd hx8.symm q, fun _ => pm_go0' (pm_go0' ?_)⟩
        exact hQ _ ⟨⟨hI2, hsU, hsR, hsT, hS' _, hH', hA' _⟩, hLL, hGG⟩ hd'
    unfold wJ_X9_bind_208
    refine pm_go0' ⟨fun c0 => done (fun q => absurd c0 q), fun c0 => ?_⟩
    refine ln_anyApart (σ := nk_r σ (26 + r) (upd (σ.2.1 (26 + r)) o t)) (h := upd (σ.1.1 4) r (aft (σ.1.1 4 r) (nI o) t)) (S := σ.1.1 2) (ap := σ.1.1 5) hsU.2 n2 hsR.2 n4 hH' hb' (fun w hw => ⟨hS' _ w hw, hsb w hw⟩) (hA' _) hsym ?_
    rw [← ewS]
    refine b2i_go _ (fun q => done (fun _ => q)) (fun q => ?_)
    unfold wJ_X9_bind_230
    refine pm_go1 ⟨vp_in' (by omega) (by decide), vp_in' (by omega) (by decide), ?_⟩
    rw [nI_clamp (show r < 2 ^ 31 by omega), nk_st_nI _ _ _ _ (show o < 2 ^ 31 by omega), hx8, nar_01 (by cases bt (σ.1.1 4 r) o <;> simp [b2i])]
    rintro _ rfl
    unfold wJ_X9_bind_247
    refine la_setHolds (σ := σ.1) hI (by omega) (by omega) (fun q => absurd ?_ c') (fun q1 q2 q3 q4 => Or.inr ⟨rfl, pm_go1 (pm_go0' ?_)⟩) (fun q1 q2 hI2 => ?_)
    · rw [ehd] at q; exact q
    · refine hQ _ ⟨⟨hI, hsU, hsR, hsT, fun w hw i hi => ?_, fun a b ha hb2 => ?_, fun a b ha hb2 => ?_⟩, hLL, hGG⟩ hd'
      · show (nk_r (nk_r σ (26 + r) (upd (σ.2.1 (26 + r)) o t)) (26 + r) _).2.1 (22 + w) i = _
        rw [nk_r_ne _ _ (by omega)]; exact hS' _ w hw i hi
      · show (nk_r (nk_r σ (26 + r) (upd (σ.2.1 (26 + r)) o t)) (26 + r) _).2.1 (26 + a) b = _
        by_cases e : a = r
        · subst e
          rw [nk_r_at, nk_r_at]
          exact row_back (fun i hi => hH a i ha hi) b hb2
        · rw [nk_r_ne _ _ (by omega), nk_r_ne _ _ (by omega)]
          exact hH a b ha hb2
      · show (nk_r (nk_r σ (26 + r) (upd (σ.2.1 (26 + r)) o t)) (26 + r) _).2.1 (31 + a) b = _
        rw [nk_r_ne _ _ (by omega)]; exact hA' _ a b ha hb2
    · exfalso
      rcases q2 with q2 | q2
      · exact c0 q2
      · rw [q2.2] at q; cases q
/-- how many pairs the law's Gate counts -/
theorem ln_count {σ : nk_C} (hn : σ.2.2 9 = nI nR) (hR : nR ≤ 5) {ap : Nat → Int32} (hA : tA5 ap nR σ) {k : nk_C → Int32 → Int32 → Int32 → Int32 → Int32 → Prop} {x2 x3 x6 x7 : Int32} (hk : k σ x2 x3 x6 x7 (nI (smN (fun a => cn (bt (ap a)) a) nR))) : ∃ n385, wL_X9_bind_385 k n385 σ x2 x3 x6 x7 0 0 := by
  have l := lpUp (A := Int32) (n := nR) (W := fun f a z => wL_X9_bind_385 k f σ x2 x3 x6 x7 z (nI a)) (J := fun a z => z = nI (smN (fun a => cn (bt (ap a)) a) a)) ?_ ?_ nR 0 0 (Nat.zero_add _) rfl
  · exact ⟨_, l⟩
  · intro f z hz
    unfold wL_X9_bind_385
    rw [hn]
    exact ⟨fun _ => by rw [hz]; exact hk, fun q => absurd (nI_le (Nat.le_refl _) (by omega)) q⟩
  · intro f a z ha hz next
    unfold wL_X9_bind_385
    rw [hn]
    refine ⟨fun q => absurd q (nI_ge ha (by omega)), fun _ => ?_⟩
    have l2 := lpUp (A := Int32) (n := a) (W := fun f2 b z => wL_X9_bind_397 (fun σ x2 x3 x6 x7 x8 x9 => (wL_X9_bind_385 k f σ x2 x3 x6 x7 x8 (x9 + 1))) f2 σ x2 x3 x6 x7 z (nI a) (nI b)) (J := fun b z => z = nI (smN (fun a => cn (bt (ap a)) a) a + cn (bt (ap a)) b)) ?_ ?_ a 0 z (Nat.zero_add _) (by rw [hz]; rfl)
    · exact ⟨_, l2⟩
    · intro f2 z hz
      unfold wL_X9_bind_397
      refine ⟨fun _ => ?_, fun q => absurd (nI_le (Nat.le_refl _) (by omega)) q⟩
      show wL_X9_bind_385 k f σ x2 x3 x6 x7 z (nI a + 1)
      rw [nI_1]
      exact next z (by rw [hz]; rfl)
    · intro f2 b z hb hz next2
      unfold wL_X9_bind_397 wJ_X9_bind_424
      rw [nI_1 b]
      refine ⟨fun q => absurd q (nI_ge hb (by omega)), fun _ => ⟨vp_in' (by omega) (by decide), vp_in' (by omega) (by decide), ?_⟩⟩
      rw [nI_clamp (show a < 2 ^ 31 by omega), nI_clamp (show b < 2 ^ 31 by omega), hA a b ha (by omega)]
      refine b2i_go _ (fun q => next2 _ ?_) (fun q => next2 _ ?_)
      · rw [cn_f q, hz]; exact Int32.add_zero _
      · rw [cn_t q, hz, nI_1]; rfl
end BN
