/-! ===== the law's Gate: make ===== -/
theorem nI_dec (c : Nat) : nI (c + 1) + (-1) = nI c := by
  rw [← nI_1 c, Int32.add_assoc, show (1 : Int32) + (-1) = 0 by decide, Int32.add_zero]
def mM (nU nR nT : Nat) (σ : nk_C) : Prop := gI σ.1 ∧ (σ.1.2 0 = nI nU ∧ σ.2.2 5 = nI nU) ∧ (σ.1.2 1 = nI nR ∧ σ.2.2 9 = nI nR) ∧ (σ.1.2 3 = nI nT ∧ σ.2.2 12 = nI nT) ∧ ((σ.1.2 4 = 0 ∧ σ.1.2 5 = 0) ∧ σ.2.2 17 = 0 ∧ σ.2.2 19 = 0) ∧ ((∀ k, σ.1.1 2 k = 0) ∧ (∀ k, σ.1.1 4 k = 0) ∧ ∀ k, σ.1.1 5 k = 0) ∧ (∀ k, (k = 0 ∨ nT ≤ k) → σ.1.1 8 k = 0) ∧ ∀ k i, 22 ≤ k → σ.2.1 k i = 0
theorem mM_s {nU nR nT : Nat} : ∀ (σ : nk_C) (v : Int32), mM nU nR nT σ → mM nU nR nT (nk_s σ 2 v) := fun _ _ h => h
theorem mM_r {nU nR nT : Nat} {σ : nk_C} {k : Nat} {f : Nat → Int32} (h : mM nU nR nT σ) (hk : k < 22) : mM nU nR nT (nk_r σ k f) := by
  obtain ⟨h1, h2, h3, h4, h5, h6, h7, h8⟩ := h
  refine ⟨h1, h2, h3, h4, h5, h6, h7, fun q i hq => ?_⟩
  rw [nk_r_ne _ _ (by omega)]
  exact h8 q i hq
theorem gI_begin : gI gk_0 := by
  have hU : tU (told gk_0) = 0 := rfl
  have hR : tR (told gk_0) = 0 := rfl
  have hP : tP (told gk_0) = 0 := rfl
  have hT : tT (told gk_0) = 1 := rfl
  have hL : tL (told gk_0) = 0 := rfl
  have hG : tG (told gk_0) = 0 := rfl
  have r9 : ∀ k, k < 24 → (told gk_0).1 9 k = -1 := fun k hk => by
    show gk_fill 24 (-1) (fun _ => 0) k = -1
    unfold gk_fill
    rw [if_pos hk]
  refine ⟨⟨⟨⟨0, by omega, by omega, rfl⟩, ⟨0, by omega, by omega, rfl⟩, ⟨0, by omega, by omega, rfl⟩, ⟨1, by omega, by omega, rfl⟩, ⟨0, by omega, by omega, rfl⟩, ⟨0, by omega, by omega, rfl⟩⟩, ⟨fun u hu => absurd hu (by omega), fun k hk => absurd hk (by omega)⟩, ⟨rfl, rfl, fun k h1 h2 => absurd h2 (by omega)⟩, fun k hk => Or.inl (r9 k (by omega)), fun k hk => absurd hk (by omega), fun g hg => absurd hg (by omega)⟩, ?_, ?_, rfl⟩
  · refine ⟨fun u _ _ => rfl, fun u hu => absurd hu (by omega), fun k _ i _ q => ?_, fun k hk => Or.inl (r9 k hk)⟩
    have q : bt 0 i = true := q
    rw [b_0] at q
    cases q
  · refine ⟨fun a b _ _ q => ?_, rfl⟩
    have q : bt 0 b = true := q
    rw [b_0] at q
    cases q
theorem mM_0 (d0 : Int32) : mM 0 0 1 (gk_0, tk_0 d0) := by
  refine ⟨gI_begin, ⟨rfl, rfl⟩, ⟨rfl, rfl⟩, ⟨rfl, rfl⟩, ⟨⟨rfl, rfl⟩, rfl, rfl⟩, ⟨fun _ => rfl, fun _ => rfl, fun _ => rfl⟩, fun _ _ => rfl, fun k i hk => ?_⟩
  show (if k = 13 then upd (fun _ => 0) 0 (-1) else fun _ => (0 : Int32)) i = 0
  rw [if_neg (by omega)]
theorem ln_users {nR nT : Nat} (Q : Int32 → nk_C → Prop) (K : nk_C → Prop) : ∀ (c nU D : Nat) (σ : nk_C), nU + c ≤ 4 → D + 3 * c < 900000 → mM nU nR nT σ → lD D σ → (∀ σ1, mM (nU + c) nR nT σ1 → lD (D + 3 * c) σ1 → K σ1) → wL_X9_make_8 Q K (c + 1) σ (nI c) := by
  intro c
  induction c with
  | zero =>
    intro nU D σ _ _ h hd' hK
    unfold wL_X9_make_8
    exact ⟨fun _ => hK σ h hd', fun q => absurd (by decide) q⟩
  | succ c ih =>
    intro nU D σ hU hD h hd' hK
    unfold wL_X9_make_8
    refine ⟨fun q => absurd q (nI_nle (by omega) (by omega)), fun _ => ?_⟩
    rw [h.2.1.2]
    have j37 : ∀ a, a ≤ 3 → ∀ σ1, mM nU nR nT σ1 → lD (D + 2) σ1 → wJ_X9_make_37 Q (fun σ x1 => wL_X9_make_8 Q K (c + 1) σ x1) σ1 (nI (c + 1)) (nI nU) (nI a) := fun a ha σ1 h1 d1 => by
      unfold wJ_X9_make_37
      refine ⟨vp_in' (by omega) (by decide), ?_⟩
      rw [nk_st_nI _ _ _ _ (show nU < 2 ^ 31 by omega)]
      rintro _ rfl
      refine ln_draw (N := 8) (K := fun σ => mM nU nR nT σ ∧ σ.2.1 7 nU = nI a) (fun _ _ h => h) ⟨mM_r h1 (by decide), by rw [nk_r_at, up_at]⟩ d1 (by omega) rfl (by omega) (by omega) (fun b hb σ2 h2 d2 => ?_)
      have e5 : (nk_r σ1 7 (upd (σ1.2.1 7) nU (nI a))).2.2 5 = nI nU := h1.2.1.2
      rw [e5]
      refine ⟨vp_in' (by omega) (by decide), ?_⟩
      rw [nk_st_nI _ _ _ _ (show nU < 2 ^ 31 by omega)]
      rintro _ rfl
      have f5 : (nk_r σ2 8 (upd (σ2.2.1 8) nU (nI b))).2.2 5 = nI nU := h2.1.2.1.2
      rw [f5, nI_clamp (show nU < 2 ^ 31 by omega), nk_r_at, up_at, nk_r_ne _ _ (by decide), h2.2]
      refine ⟨vp_in' (by omega) (by decide), vp_in' (by omega) (by decide), ?_⟩
      have hM := mM_r (k := 8) (f := upd (σ2.2.1 8) nU (nI b)) h2.1 (by decide)
      have d3 : lD (D + 2 + 1) (nk_r σ2 8 (upd (σ2.2.1 8) nU (nI b))) := d2
      generalize nk_r σ2 8 (upd (σ2.2.1 8) nU (nI b)) = σ3 at hM f5 d3 ⊢
      obtain ⟨m1, m2, m3, m4, m5, m6, m7, m8⟩ := hM
      unfold w_X8_addUser
      refine pm_up (n := 3) rfl ha (by decide) (pm_go1 ?_)
      refine pm_up (n := 255) rfl (by omega) (by decide) (pm_go1 ?_)
      unfold wJ_X8_addUser_23
      refine one_ok ?_
      rw [m2.1]
      refine ⟨fun q => absurd q (nI_ge (b := 12) (by omega) (by decide)), fun _ => one_ok ?_⟩
      unfold w_X6_add
      rw [m2.1, gk_put_in σ3.1 0 nU _ (show nU < gk_rl 0 by show nU < 12; omega) (by omega), gk_put_in _ 1 nU _ (show nU < gk_rl 1 by show nU < 12; omega) (by omega), gr_2, gr_2, m2.1, nI_1, gr_ne σ3.1 _ (show (1 : Nat) ≠ 0 by decide)]
      refine ⟨fun _ => ?_, fun q => absurd f5.symm q⟩
      show wL_X9_make_8 Q K (c + 1) (nk_s (_, σ3.2) 5 (σ3.2.2 5 + 1)) (nI (c + 1) + (-1))
      rw [f5, nI_1, nI_dec]
      refine ih (nU + 1) (D + 3) _ (by omega) (by omega) ⟨gI_addUser m1 (by omega) m2.1, ⟨rfl, rfl⟩, m3, m4, m5, m6, m7, m8⟩ ?_ (fun σ4 h4 d4 => hK σ4 (by rw [show nU + (c + 1) = nU + 1 + c by omega]; exact h4) (lD_up d4 (by omega)))
      exact lD_up (D := D + 2 + 1) (σ := σ3) d3 (by omega)
    refine ln_draw (N := 3) mM_s h hd' (by omega) rfl (by omega) (by omega) (fun k _ σ1 h1 d1 => ⟨fun _ => j37 1 (by omega) σ1 h1 (lD_up d1 (by omega)), fun _ => ?_⟩)
    exact ln_draw (N := 4) mM_s h1 d1 (by omega) rfl (by omega) (by omega) (fun a ha σ2 h2 d2 => j37 a (by omega) σ2 h2 d2)
theorem ln_roles {nU nT : Nat} (Q : Int32 → nk_C → Prop) (K : nk_C → Prop) : ∀ (c nR D : Nat) (σ : nk_C), nR + c ≤ 5 → mM nU nR nT σ → lD D σ → (∀ σ1, mM nU (nR + c) nT σ1 → lD D σ1 → K σ1) → wL_X9_make_108 Q K (c + 1) σ (nI c) := by
  intro c
  induction c with
  | zero =>
    intro nR D σ _ h hd' hK
    unfold wL_X9_make_108
    exact ⟨fun _ => hK σ h hd', fun q => absurd (by decide) q⟩
  | succ c ih =>
    intro nR D σ hR h hd' hK
    obtain ⟨m1, m2, m3, m4, m5, m6, m7, m8⟩ := h
    unfold wL_X9_make_108
    refine ⟨fun q => absurd q (nI_nle (by omega) (by omega)), fun _ => ?_⟩
    unfold w_X8_addRole
    rw [m3.1]
    refine ⟨fun q => absurd q (nI_ge (b := 12) (by omega) (by decide)), fun _ => one_ok ?_⟩
    unfold w_X1_add
    rw [m3.1, nI_1]
    refine ⟨fun _ => ?_, fun q => absurd m3.2.symm q⟩
    show wL_X9_make_108 Q K (c + 1) (nk_s (_, σ.2) 9 (σ.2.2 9 + 1)) (nI (c + 1) + (-1))
    rw [m3.2, nI_1, nI_dec]
    exact ih (nR + 1) D _ (by omega) ⟨gI_addRole m1 (by omega) m3.1, m2, ⟨rfl, rfl⟩, m4, m5, m6, m7, m8⟩ hd' (fun σ4 h4 d4 => hK σ4 (by rw [show nR + (c + 1) = nR + 1 + c by omega]; exact h4) d4)
theorem ln_ress {nU nR : Nat} (Q : Int32 → nk_C → Prop) (K : nk_C → Prop) : ∀ (c nT D : Nat) (σ : nk_C), 1 ≤ nT → nT + c ≤ 6 → D + 3 * c < 900000 → mM nU nR nT σ → lD D σ → (∀ σ1, mM nU nR (nT + c) σ1 → lD (D + 3 * c) σ1 → K σ1) → wL_X9_make_149 Q K (c + 1) σ (nI c) := by
  intro c
  induction c with
  | zero =>
    intro nT D σ _ _ _ h hd' hK
    unfold wL_X9_make_149
    exact ⟨fun _ => hK σ h hd', fun q => absurd (by decide) q⟩
  | succ c ih =>
    intro nT D σ h1T hT hD h hd' hK
    unfold wL_X9_make_149
    refine ⟨fun q => absurd q (nI_nle (by omega) (by omega)), fun _ => ?_⟩
    refine ln_draw (N := nT) mM_s h hd' (by omega) h.2.2.2.1.2 (by omega) (by omega) (fun p hp σ1 h1 d1 => ?_)
    rw [h.2.2.2.1.2]
    refine ⟨vp_in' (by omega) (by decide), ?_⟩
    rw [nk_st_nI _ _ _ _ (show nT < 2 ^ 31 by omega)]
    rintro _ rfl
    have hM := mM_r (k := 13) (f := upd (σ1.2.1 13) nT (nI p)) h1 (by decide)
    have r13 : (nk_r σ1 13 (upd (σ1.2.1 13) nT (nI p))).2.1 13 nT = nI p := by rw [nk_r_at, up_at]
    have d1' : lD (D + 1) (nk_r σ1 13 (upd (σ1.2.1 13) nT (nI p))) := d1
    generalize nk_r σ1 13 (upd (σ1.2.1 13) nT (nI p)) = σ2 at hM r13 d1' ⊢
    obtain ⟨m1, m2, m3, m4, m5, m6, m7, m8⟩ := hM
    have eT : tT (told σ2.1) = nT := num_eq m4.1 (by omega)
    rw [m4.2, nI_clamp (show nT < 2 ^ 31 by omega), r13]
    refine ⟨vp_in' (by omega) (by decide), ?_⟩
    have j231 : ∀ a, a ≤ 3 → ∀ σ3, (mM nU nR (nT + 1) σ3 ∧ σ3.1.1 8 nT = 0) → lD (D + 3) σ3 → wJ_X9_make_231 Q (fun σ x1 => wL_X9_make_149 Q K (c + 1) σ x1) σ3 (nI (c + 1)) (nI nT) (nI nT) (nI a) := fun a ha σ3 h3 d3 => by
      unfold wJ_X9_make_231
      refine ⟨vp_in' (by omega) (by decide), ?_⟩
      rw [nk_st_nI _ _ _ _ (show nT < 2 ^ 31 by omega)]
      rintro _ rfl
      refine ⟨vp_in' (by omega) (by decide), ?_⟩
      rw [nI_clamp (show nT < 2 ^ 31 by omega), nk_r_at, up_at]
      have hM4 := mM_r (k := 14) (f := upd (σ3.2.1 14) nT (nI a)) h3.1 (by decide)
      have z : (nk_r σ3 14 (upd (σ3.2.1 14) nT (nI a))).1.1 8 nT = 0 := h3.2
      have d4 : lD (D + 3) (nk_r σ3 14 (upd (σ3.2.1 14) nT (nI a))) := d3
      generalize nk_r σ3 14 (upd (σ3.2.1 14) nT (nI a)) = σ4 at hM4 z d4 ⊢
      obtain ⟨p1, p2, p3, p4, p5, p6, p7, p8⟩ := hM4
      have eT4 : tT (told σ4.1) = nT + 1 := num_eq p4.1 (by omega)
      refine la_setLabel (σ := σ4.1) p1 (by omega) ha (fun hI => ⟨fun _ => ?_, fun q => absurd z q⟩)
      show wL_X9_make_149 Q K (c + 1) (_, σ4.2) (nI (c + 1) + (-1))
      rw [nI_dec]
      refine ih (nT + 1) (D + 3) _ (by omega) (by omega) (by omega) ⟨hI, p2, p3, p4, p5, p6, fun k hk => ?_, p8⟩ d4 (fun σ5 h5 d5 => hK σ5 (by rw [show nT + (c + 1) = nT + 1 + c by omega]; exact h5) (lD_up d5 (by omega)))
      show upd (σ4.1.1 8) nT (nI a) k = 0
      rw [up_ne _ _ (by omega)]
      exact p7 k hk
    unfold w_X8_addResource
    refine lb_isRes (T := told σ2.1) rfl m1.1 ?_
    refine b2i_ok (vld_t (by omega) (by omega)) ?_
    rw [m4.1]
    refine ⟨fun q => absurd q (nI_ge (b := 24) (by omega) (by decide)), fun _ => one_ok ?_⟩
    unfold w_X5_add
    rw [m4.1, gk_at_in (show p < gk_rl 6 by show p < 24; omega), gk_put_in σ2.1 6 nT _ (show nT < gk_rl 6 by show nT < 24; omega) (by omega), gk_at_in (show p < gk_rl 7 by show p < 24; omega), gk_put_in _ 7 nT _ (show nT < gk_rl 7 by show nT < 24; omega) (by omega), gr_2, gr_2, m4.1, nI_1, gr_ne σ2.1 _ (show (7 : Nat) ≠ 6 by decide)]
    refine ⟨fun _ => ?_, fun q => absurd m4.2.symm q⟩
    have key : ∀ s3 : gk_C, s3 = (gk_s (gk_r (gk_r σ2.1 6 (upd (σ2.1.1 6) nT (σ2.1.1 6 p + 1))) 7 (upd (σ2.1.1 7) nT (σ2.1.1 7 p ||| (1 <<< (nI p &&& 31))))) 3 (nI (nT + 1))) → mM nU nR (nT + 1) (nk_s (s3, σ2.2) 12 (σ2.2.2 12 + 1)) ∧ (nk_s (s3, σ2.2) 12 (σ2.2.2 12 + 1)).1.1 8 nT = 0 := by
      rintro _ rfl
      refine ⟨⟨gI_addRes m1 (by omega) h1T m4.1 hp, m2, m3, ⟨rfl, by rw [m4.2, nI_1]; rfl⟩, m5, m6, fun k hk => m7 k (by omega), m8⟩, m7 nT (Or.inr (Nat.le_refl _))⟩
    have key := key _ rfl
    generalize (gk_s (gk_r (gk_r σ2.1 6 (upd (σ2.1.1 6) nT (σ2.1.1 6 p + 1))) 7 (upd (σ2.1.1 7) nT (σ2.1.1 7 p ||| (1 <<< (nI p &&& 31))))) 3 (nI (nT + 1))) = s3 at key ⊢
    have e12 : (nk_s (s3, σ2.2) 12 (σ2.2.2 12 + 1)).2.2 12 - 1 = nI nT := by
      rw [key.1.2.2.2.1.2]
      exact nI_pred nT
    show w_X9_draw (nk_s (s3, σ2.2) 12 (σ2.2.2 12 + 1)) 3 (fun r216 σ216 => ((¬ r216 = 0) → (wJ_X9_make_231 Q (fun σ x1 => wL_X9_make_149 Q K (c + 1) σ x1) σ216 (nI (c + 1)) ((nk_s (s3, σ2.2) 12 (σ2.2.2 12 + 1)).2.2 12 - 1) ((nk_s (s3, σ2.2) 12 (σ2.2.2 12 + 1)).2.2 12 - 1) 1)) ∧ ((r216 = 0) → (w_X9_draw σ216 4 (fun r224 σ224 => wJ_X9_make_231 Q (fun σ x1 => wL_X9_make_149 Q K (c + 1) σ x1) σ224 (nI (c + 1)) ((nk_s (s3, σ2.2) 12 (σ2.2.2 12 + 1)).2.2 12 - 1) ((nk_s (s3, σ2.2) 12 (σ2.2.2 12 + 1)).2.2 12 - 1) r224))))
    rw [e12]
    have d3 : lD (D + 1) (nk_s (s3, σ2.2) 12 (σ2.2.2 12 + 1)) := d1'
    refine ln_draw (N := 3) (K := fun σ => mM nU nR (nT + 1) σ ∧ σ.1.1 8 nT = 0) (fun _ _ h => h) key d3 (by omega) rfl (by omega) (by omega) (fun k _ σ4 h4 d4 => ⟨fun _ => j231 1 (by omega) σ4 h4 (lD_up d4 (by omega)), fun _ => ?_⟩)
    exact ln_draw (N := 4) (K := fun σ => mM nU nR (nT + 1) σ ∧ σ.1.1 8 nT = 0) (fun _ _ h => h) h4 d4 (by omega) rfl (by omega) (by omega) (fun a ha σ5 h5 d5 => j231 a (by omega) σ5 h5 (lD_up d5 (by omega)))
theorem mM_bK {nU nR nT : Nat} {σ : nk_C} {ρ : lk_R} (h : mM nU nR nT σ) : gR nU nR nT σ ∧ lL 0 σ ρ ∧ lG 0 σ ρ := by
  obtain ⟨m1, m2, m3, m4, ⟨⟨m5, m6⟩, m7, m8⟩, ⟨r2, r4, r5⟩, _, m9⟩ := h
  have eL : tL (told σ.1) = 0 := num_eq (x := σ.1.2 4) (n := 0) m5 (by omega)
  have eG : tG (told σ.1) = 0 := num_eq (x := σ.1.2 5) (n := 0) m6 (by omega)
  refine ⟨⟨m1, m2, m3, m4, fun u _ i _ => ?_, fun a b _ _ => ?_, fun a b _ _ => ?_⟩, ⟨by omega, by rw [eL, m7]; rfl, fun k hk => absurd hk (by omega)⟩, ⟨by omega, by rw [eG, m8]; rfl, fun k hk => absurd hk (by omega)⟩⟩
  · rw [r2, b_0, m9 _ _ (by omega)]; rfl
  · rw [r4, b_0, m9 _ _ (by omega)]; rfl
  · rw [r5, b_0, m9 _ _ (by omega)]; rfl
theorem ln_make {d0 : Int32} (hd0 : d0 = nI 7 ∨ d0 = nI 38) {ρ : lk_R} {Q : Int32 → nk_C → Prop} (hQ : ∀ nU nR nT σ, bN nU nR nT → bK nU nR nT 0 ρ σ → lD 100 σ → Q 1 σ) : w_X9_make (gk_0, tk_0 d0) Q := by
  have hd' : lD 38 (gk_0, tk_0 d0) := by
    rcases hd0 with e | e
    · exact ⟨7, by omega, e⟩
    · exact ⟨38, by omega, e⟩
  unfold w_X9_make
  refine ln_draw (N := 3) mM_s (mM_0 d0) hd' (by omega) rfl (by omega) (by omega) (fun k hk σ1 h1 d1 => ⟨2 + k + 1, ?_⟩)
  rw [show (2 : Int32) + nI k = nI (2 + k) from nI_add 2 k]
  refine ln_users Q _ (2 + k) 0 39 σ1 (by omega) (by omega) h1 d1 (fun σ2 h2 d2 => ?_)
  rw [Nat.zero_add] at h2
  refine ln_draw (N := 4) mM_s h2 d2 (by omega) rfl (by omega) (by omega) (fun k2 hk2 σ3 h3 d3 => ⟨2 + k2 + 1, ?_⟩)
  rw [show (2 : Int32) + nI k2 = nI (2 + k2) from nI_add 2 k2]
  refine ln_roles Q _ (2 + k2) 0 _ σ3 (by omega) h3 d3 (fun σ4 h4 d4 => ?_)
  rw [Nat.zero_add] at h4
  refine ln_draw (N := 4) mM_s h4 d4 (by omega) rfl (by omega) (by omega) (fun k3 hk3 σ5 h5 d5 => ⟨2 + k3 + 1, ?_⟩)
  rw [show (2 : Int32) + nI k3 = nI (2 + k3) from nI_add 2 k3]
  refine ln_ress Q _ (2 + k3) 1 _ σ5 (by omega) (by omega) (by omega) h5 d5 (fun σ6 h6 d6 => ?_)
  refine ⟨vp_in' (k := 0) (by omega) (by decide), ?_⟩
  rw [show nk_st σ6 14 0 1 = nk_r σ6 14 (upd (σ6.2.1 14) 0 1) from nk_st_nI σ6 14 0 1 (by omega)]
  rintro _ rfl
  have hM := mM_r (k := 14) (f := upd (σ6.2.1 14) 0 1) h6 (by decide)
  have d7 : lD _ (nk_r σ6 14 (upd (σ6.2.1 14) 0 1)) := d6
  generalize nk_r σ6 14 (upd (σ6.2.1 14) 0 1) = σ7 at hM d7 ⊢
  have hB := mM_bK (ρ := ρ) hM
  obtain ⟨m1, m2, m3, m4, m5, m6, m7, m8⟩ := hM
  have eT : tT (told σ7.1) = 1 + (2 + k3) := num_eq m4.1 (by omega)
  refine la_setLabel (σ := σ7.1) (r := 0) (v := 1) m1 (by omega) (by omega) (fun hI => ⟨fun q => absurd (m7 0 (Or.inl rfl)) q, fun _ => ?_⟩)
  refine ⟨fun q => absurd (m2.1.trans m2.2.symm) q, fun _ => ?_⟩
  refine ⟨fun q => absurd (m3.1.trans m3.2.symm) q, fun _ => ?_⟩
  refine ⟨fun q => absurd (m4.1.trans m4.2.symm) q, fun _ => ?_⟩
  refine hQ (2 + k) (2 + k2) (1 + (2 + k3)) _ ⟨⟨by omega, by omega⟩, ⟨by omega, by omega⟩, ⟨by omega, by omega⟩⟩ ⟨⟨hI, hB.1.2⟩, hB.2⟩ (lD_up d7 (by omega))
