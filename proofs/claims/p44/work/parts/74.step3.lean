/-! ===== a step of the law ===== -/
/-- what is asked behind a step's decisions -/
abbrev kS (kk : nk_C → lk_R → Int32 → Int32 → Prop) (x1 x4 : Int32) : nk_C → lk_R → Int32 → Int32 → Int32 → Int32 → Int32 → Int64 → Int32 → Int32 → Prop := fun σ ρ y1 y4 x5 x6 x7 x10 x12 x13 => y1 = x1 ∧ y4 = x4 ∧ x13 = x12 ∧ lk_O σ x10 x12 (fun s2 => wJ_L_law_759 kk (s2, σ.2) ρ x1 x4 x5 x6 x7)
section SW
variable {nU nR nS jj : Nat} {ρ : lk_R} {σ : nk_C}
theorem bK_rows {σ' : nk_C} (h : bK nU nR nS jj ρ σ) (hI : gI σ'.1) (hr : ∀ i, i < 26 → ¬ i = 3 → σ'.1.1 i = σ.1.1 i) (hs : ∀ i, i < 8 → σ'.1.2 i = σ.1.2 i) (e2 : σ'.2 = σ.2) : bK nU nR nS jj ρ σ' := by
  obtain ⟨⟨h1, h2, h3, h4, h5, h6, h7⟩, ⟨l1, l2, l3⟩, ⟨g1, g2, g3⟩⟩ := h
  have eL : tL (told σ'.1) = tL (told σ.1) := congrArg nt (show (told σ'.1).2 4 = (told σ.1).2 4 from hs 4 (by decide))
  have eG : tG (told σ'.1) = tG (told σ.1) := congrArg nt (show (told σ'.1).2 5 = (told σ.1).2 5 from hs 5 (by decide))
  refine ⟨⟨hI, ⟨(hs 0 (by decide)).trans h2.1, by rw [e2]; exact h2.2⟩, ⟨(hs 1 (by decide)).trans h3.1, by rw [e2]; exact h3.2⟩, ⟨(hs 3 (by decide)).trans h4.1, by rw [e2]; exact h4.2⟩, fun u hu i hi => ?_, fun a b ha hb => ?_, fun a b ha hb => ?_⟩, ⟨by rw [eL]; exact l1, by rw [eL, e2]; exact l2, fun k hk => ?_⟩, ⟨by rw [eG]; exact g1, by rw [eG, e2]; exact g2, fun g hg => ?_⟩⟩
  · rw [e2, hr 2 (by decide) (by decide)]; exact h5 u hu i hi
  · rw [e2, hr 4 (by decide) (by decide)]; exact h6 a b ha hb
  · rw [e2, hr 5 (by decide) (by decide)]; exact h7 a b ha hb
  · rw [eL] at hk
    rw [hr 11 (by decide) (by decide)]; exact l3 k hk
  · rw [eG] at hg
    rw [hr 21 (by decide) (by decide), hr 23 (by decide) (by decide)]; exact g3 g hg
theorem ln_288 (hN : bN nU nR nS) (h : bK nU nR nS jj ρ σ) (hj : jj ≤ 20) {D : Nat} (hd' : lD D σ) (hD : D < 900000) {u a r : Nat} (hu : u < nU) (ha : a < 5) (hr : r < nS) {kk : nk_C → lk_R → Int32 → Int32 → Prop} {x1 x4 : Int32} (hk' : ∀ σ1 ρ1, bK nU nR nS jj ρ1 σ1 → lD (D + 1) σ1 → kk σ1 ρ1 x1 x4) (t : Int32) : wJ_L_law_288 (kS kk x1 x4) σ ρ x1 x4 (nI u) (nI a) (nI r) t t := by
  have hN0 := hN
  obtain ⟨e1, e2, e3⟩ := gR_n h.1 hN
  obtain ⟨⟨n1, n2⟩, ⟨n3, n4⟩, ⟨n5, n6⟩⟩ := hN
  have hw := h.1.1.1
  obtain ⟨Dg, hDg⟩ := la_digest (T := told σ.1) (C := σ.1.1 38) hw
  have hpos : 0 < nU * 5 * nS := Nat.mul_pos (by omega) (by omega)
  have hO : ∀ σ2, sT σ σ2 → kS kk x1 x4 σ2 ρ x1 x4 (nI u) (nI a) (nI r) Dg (nI (cn (opN (told σ.1) ((told σ.1).2 6)) (nU * 5 * nS))) (nI (cn (opN (told σ.1) ((told σ.1).2 6)) (nU * 5 * nS))) := fun σ2 h2 => by
    refine ⟨rfl, rfl, rfl, ?_⟩
    unfold lk_O
    refine la_openness h2.1 hw (by rw [e1, e3]; exact hpos) (fun rr s1 h1 hal => ⟨fun v hv => ?_, ?_⟩)
    · rw [e1, e3] at hal
      rw [h2.2, h.1.2.1.2, h.1.2.2.2.1.2, show nI nU * 5 = nI (nU * 5) from pk_mul nU 5, pk_mul] at hv
      exact shr_eq (shr_all ⟨n1, n2⟩ ⟨n5, n6⟩ (cn_le _ _)) hal hv
    · refine hDg s1 _ h1 (fun s2 h3 => ⟨by simp [lg_cmp], ?_⟩)
      refine ln_759 hN0 (σ := (s2, σ2.2)) (bK_told h h3.1 h2.2) hj (D := D) ?_ hD hu ha hr hk'
      obtain ⟨d, q1, q2⟩ := hd'
      exact ⟨d, q1, by show σ2.2.2 2 = nI d; rw [h2.2]; exact q2⟩
  unfold wJ_L_law_288
  refine ⟨fun _ => ?_, fun q => absurd rfl q⟩
  refine la_decide (T := told σ.1) (C := σ.1.1 38) ⟨rfl, fun _ => rfl⟩ hw (by omega) ha (by omega) (fun s300 h300 => ?_)
  refine hDg s300 _ h300 (fun s306 h306 => ?_)
  have j328 : ∀ t, t = b2i (alw (dc (told σ.1) u a r)) → wJ_L_law_328 (kS kk x1 x4) (s306, σ.2) ρ x1 x4 (nI u) (nI a) (nI r) Dg t := by
    rintro t rfl
    unfold wJ_L_law_328
    refine la_rolesNeeded h306 hw (by omega) ha (by omega) (fun s335 h335 => ?_)
    have j346 : ∀ t, wJ_L_law_346 (kS kk x1 x4) (s335, σ.2) ρ x1 x4 (nI u) (nI a) (nI r) Dg t t := fun t => by
      unfold wJ_L_law_346
      exact ⟨fun _ => ln_360 hN0 h hj (σ1 := (s335, σ.2)) ⟨h335, rfl⟩ hO, fun q => absurd rfl q⟩
    rcases ndR_cs hw u a r with ⟨q, e⟩ | ⟨q, e | e | ⟨e, _⟩⟩ <;> rw [e, q]
    · exact ⟨fun c => absurd rfl c, fun _ => j346 1⟩
    · exact ⟨fun _ => j346 0, fun c => absurd c (by decide)⟩
    · exact ⟨fun _ => j346 0, fun c => absurd c (by decide)⟩
    · exact ⟨fun _ => j346 0, fun c => absurd c (by decide)⟩
  unfold wJ_L_law_323
  refine ⟨fun q => j328 1 (by rw [q]; rfl), fun q => ⟨fun q2 => j328 0 ?_, fun q2 => j328 1 (by rw [q2]; rfl)⟩⟩
  unfold alw
  rw [decide_eq_false q, decide_eq_false q2]; rfl
theorem ln_227 (hN : bN nU nR nS) (h : bK nU nR nS jj ρ σ) (hj : jj ≤ 20) {D : Nat} (hd' : lD D σ) (hD : D < 900000) {u a r : Nat} (hu : u < nU) (ha : a < 5) (hr : r < nS) {kk : nk_C → lk_R → Int32 → Int32 → Prop} {x1 x4 : Int32} (hk' : ∀ σ1 ρ1, bK nU nR nS jj ρ1 σ1 → lD (D + 1) σ1 → kk σ1 ρ1 x1 x4) {T0 : gk_C} (hT0 : told σ.1 = T0) : wJ_L_law_227 (kS kk x1 x4) σ ρ x1 x4 (nI u) (nI a) (nI r) (dc T0 u a r) (b2i (bt (T0.1 3 (u * 24 + r)) a)) := by
  subst hT0
  have hN0 := hN
  obtain ⟨e1, e2, e3⟩ := gR_n h.1 hN
  obtain ⟨⟨n1, n2⟩, ⟨n3, n4⟩, ⟨n5, n6⟩⟩ := hN
  unfold wJ_L_law_227
  refine la_access (σ := σ.1) h.1.1 (by omega) ha (by omega) (fun s236 hI hrw hsc hbit => ⟨fun q => absurd rfl q, fun _ => ?_⟩)
  have hb2 : bK nU nR nS jj ρ (s236, σ.2) := bK_rows h hI hrw hsc rfl
  obtain ⟨f1, f2, f3⟩ := gR_n hb2.1 hN0
  have f1 : tU (told s236) = nU := f1
  have f3 : tT (told s236) = nS := f3
  refine la_done (σ := s236) (T := told s236) (C := s236.1 38) ⟨rfl, fun _ => rfl⟩ hI.1 (by omega) (by omega) ?_
  have eb : bt ((told s236).1 3 (u * 24 + r)) a = (bt ((told σ.1).1 3 (u * 24 + r)) a || alw (dc (told σ.1) u a r)) := hbit
  rw [b_get _ (show a < 32 by omega), eb]
  have j288 : ∀ t, wJ_L_law_288 (kS kk x1 x4) (s236, σ.2) ρ x1 x4 (nI u) (nI a) (nI r) t t := fun t => ln_288 hN0 hb2 hj (D := D) hd' hD hu ha hr hk' t
  have j266 : ∀ t, t = b2i (bt ((told σ.1).1 3 (u * 24 + r)) a || alw (dc (told σ.1) u a r)) → wJ_L_law_266 (kS kk x1 x4) (s236, σ.2) ρ x1 x4 (nI u) (nI a) (nI r) (dc (told σ.1) u a r) (b2i (bt ((told σ.1).1 3 (u * 24 + r)) a)) t := by
    rintro t rfl
    unfold wJ_L_law_266 wJ_L_law_283
    cases q : bt ((told σ.1).1 3 (u * 24 + r)) a
    · rw [Bool.false_or]
      refine ⟨fun c => absurd rfl c, fun _ => ⟨fun q1 => by rw [q1]; exact j288 1, fun q1 => ⟨fun q2 => ?_, fun q2 => by rw [q2]; exact j288 1⟩⟩⟩
      have z : alw (dc (told σ.1) u a r) = false := by
        unfold alw
        rw [decide_eq_false q1, decide_eq_false q2]; rfl
      rw [z]
      exact j288 0
    · rw [Bool.true_or]
      exact ⟨fun _ => j288 1, fun c => absurd c (by decide)⟩
  cases q : (bt ((told σ.1).1 3 (u * 24 + r)) a || alw (dc (told σ.1) u a r))
  · exact ⟨fun _ => j266 0 (by rw [q]; rfl), fun c => absurd c (by decide)⟩
  · exact ⟨fun c => absurd rfl c, fun _ => j266 1 (by rw [q]; rfl)⟩
theorem ln_156 (hN : bN nU nR nS) (h : bK nU nR nS jj ρ σ) (hj : jj ≤ 20) {D : Nat} (hd' : lD D σ) (hD : D < 800000) {u a r : Nat} (hu : u < nU) (ha : a < 5) (hr : r < nS) {kk : nk_C → lk_R → Int32 → Int32 → Prop} {x1 x4 : Int32} (hk' : ∀ σ1 ρ1, bK nU nR nS jj ρ1 σ1 → lD (D + 3) σ1 → kk σ1 ρ1 x1 x4) : wJ_L_law_156 (kS kk x1 x4) σ ρ x1 x4 (nI u) (nI a) (nI r) := by
  unfold wJ_L_law_156
  have hI0 : gI (nk_s σ 3 (σ.2.2 3 + 40)).1 := h.1.1
  refine la_goOn hI0 (fun x hI => ?_)
  have hb1 : bK nU nR nS jj ρ (gk_s (nk_s σ 3 (σ.2.2 3 + 40)).1 7 ((nk_s σ 3 (σ.2.2 3 + 40)).1.2 7 + 40), (nk_s σ 3 (σ.2.2 3 + 40)).2) := ⟨⟨hI, h.1.2⟩, h.2⟩
  have d1 : lD D (gk_s (nk_s σ 3 (σ.2.2 3 + 40)).1 7 ((nk_s σ 3 (σ.2.2 3 + 40)).1.2 7 + 40), (nk_s σ 3 (σ.2.2 3 + 40)).2) := hd'
  refine ln_draw (N := 3) bK_s hb1 d1 (by omega) rfl (by omega) (by omega) (fun c hc σ2 h2 d2 => ?_)
  refine ln_draw (N := 2) bK_s h2 d2 (by omega) rfl (by omega) (by omega) (fun m hm σ3 h3 d3 => ?_)
  obtain ⟨e1, e2, e3⟩ := gR_n h3.1 hN
  refine la_setWall (σ := σ3.1) h3.1.1 (by omega) ?_ (fun y hI4 => ?_)
  · cases c with
    | zero => exact Or.inl (by decide)
    | succ c =>
      rw [show nI (c + 1) - 1 = nI c from nI_pred c]
      exact Or.inr ⟨⟨c, by omega, by omega, rfl⟩, ⟨m, by omega, by omega, rfl⟩⟩
  have hb4 : bK nU nR nS jj ρ (gk_r (gk_r σ3.1 9 (upd (σ3.1.1 9) r (nI c - 1))) 10 (upd (σ3.1.1 10) r (nI m)), σ3.2) := ⟨⟨hI4, h3.1.2⟩, h3.2⟩
  have d4 : lD (D + 2) (gk_r (gk_r σ3.1 9 (upd (σ3.1.1 9) r (nI c - 1))) 10 (upd (σ3.1.1 10) r (nI m)), σ3.2) := d3
  generalize (gk_r (gk_r σ3.1 9 (upd (σ3.1.1 9) r (nI c - 1))) 10 (upd (σ3.1.1 10) r (nI m))) = s4 at hb4 d4 ⊢
  obtain ⟨f1, f2, f3⟩ := gR_n hb4.1 hN
  have f1 : tU (told s4) = nU := f1
  have f3 : tT (told s4) = nS := f3
  have hw : wf (told s4) := hb4.1.1.1
  refine la_decide (σ := s4) (T := told s4) (C := s4.1 38) ⟨rfl, fun _ => rfl⟩ hw (by omega) ha (by omega) (fun s5 h5 => ?_)
  refine la_done h5 hw (by omega) (by omega) ?_
  rw [b_get _ (show a < 32 by omega)]
  have hb5 : bK nU nR nS jj ρ (s5, σ3.2) := bK_told hb4 h5.1 rfl
  have key := ln_227 (σ := (s5, σ3.2)) hN hb5 hj (D := D + 2) d4 (by omega) hu ha hr hk' (T0 := told s4) h5.1
  cases q : bt ((told s4).1 3 (u * 24 + r)) a
  · rw [q] at key
    exact ⟨fun _ => key, fun c => absurd c (by decide)⟩
  · rw [q] at key
    exact ⟨fun c => absurd rfl c, fun _ => key⟩
theorem ln_84 (hN : bN nU nR nS) (h : bK nU nR nS jj ρ σ) (hj : jj < 20) {D : Nat} (hd' : lD D σ) (hD : D < 700000) {kk : nk_C → lk_R → Int32 → Int32 → Prop} {x1 x4 : Int32} (hk' : ∀ σ1 ρ1, bK nU nR nS (jj + 1) ρ1 σ1 → lD (D + 21) σ1 → kk σ1 ρ1 x1 x4) : wJ_L_law_84 (kS kk x1 x4) σ ρ x1 x4 := by
  have hN0 := hN
  obtain ⟨⟨n1, n2⟩, ⟨n3, n4⟩, ⟨n5, n6⟩⟩ := hN
  unfold wJ_L_law_84
  refine ln_draw (N := nU) bK_s h hd' (by omega) h.1.2.1.2 (by omega) (by omega) (fun u hu σ1 h1 d1 => ?_)
  refine ln_draw (N := 5) bK_s h1 d1 (by omega) rfl (by omega) (by omega) (fun a ha σ2 h2 d2 => ?_)
  refine ln_draw (N := nS) bK_s h2 d2 (by omega) h2.1.2.2.2.1.2 (by omega) (by omega) (fun r hr σ3 h3 d3 => ?_)
  refine ln_draw (N := 3) bK_s h3 d3 (by omega) rfl (by omega) (by omega) (fun _ _ σ4 h4 d4 => ⟨fun _ => ?_, fun _ => ?_⟩)
  · refine ln_draw (N := 2) bK_s h4 d4 (by omega) rfl (by omega) (by omega) (fun _ _ σ5 h5 d5 => ⟨fun _ => ?_, fun _ => ?_⟩)
    · intro g
      refine ln_addGrant hN0 h5 hj d5 (by omega) (fun σ6 n q f h6 d6 => ⟨n, rfl, pm_go1' ?_⟩)
      exact ln_156 hN0 h6 (by omega) (D := D + 18) (lD_up d6 (by omega)) (by omega) hu ha hr hk'
    · intro g
      refine ln_addRule hN0 h5 hj d5 (by omega) (fun σ6 n q f h6 d6 => ⟨n, rfl, pm_go1 ?_⟩)
      exact ln_156 hN0 h6 (by omega) (D := D + 18) (lD_up d6 (by omega)) (by omega) hu ha hr hk'
  · refine ln_bind hN0 h4 d4 (by omega) (fun σ5 h5 d5 => pm_go1 ?_)
    exact ln_156 hN0 (bK_up h5 (show jj ≤ jj + 1 by omega)) (by omega) (D := D + 18) (lD_up d5 (by omega)) (by omega) hu ha hr hk'
theorem ln_948 (hN : bN nU nR nS) (h : bK nU nR nS jj ρ σ) (x1 : Int32) : wJ_L_law_948 (fun _ _ y => y = x1) σ ρ x1 := by
  obtain ⟨e1, e2, e3⟩ := gR_n h.1 hN
  obtain ⟨⟨n1, n2⟩, ⟨n3, n4⟩, ⟨n5, n6⟩⟩ := hN
  have hw := h.1.1.1
  have h6 : σ.1.2 6 = 0 := h.1.1.2.2.2
  have s5 := h.1.2.1.2
  have s12 := h.1.2.2.2.1.2
  have h120 : nU * 5 * nS ≤ 120 := Nat.mul_le_mul (show nU * 5 ≤ 20 by omega) n6
  have ecg : ∀ (v : Int32) (u a r : Nat), dc (cgT (told σ.1) ((told σ.1).1 2) v) u a r = dec no0 (told σ.1) v ((told σ.1).1 2) u a r := fun v u a r => by
    have e6 : (cgT (told σ.1) ((told σ.1).1 2) v).2 6 = v := gs_at (gk_r (told σ.1) 2 ((told σ.1).1 2)) 6 v
    have e7 : (cgT (told σ.1) ((told σ.1).1 2) v).1 2 = (told σ.1).1 2 := gr_at (told σ.1) 2 ((told σ.1).1 2)
    unfold dc
    rw [dec_cg, e6, e7]
  unfold wJ_L_law_948
  refine la_setWeighing (σ := σ.1) (v := 0) (by omega) ?_
  rw [h6]
  have t0 := told_way σ.1 (nI 0)
  refine ln_table (nU := nU) (nT := nS) (σ := (gk_s σ.1 6 (nI 0), σ.2)) hw ⟨n1, n2⟩ ⟨n5, n6⟩ e1 e3 s5 s12 (fun σ1 f0 t1 g1 hf0 => ?_)
  have t1' : told σ1.1 = cgT (told σ.1) ((told σ.1).1 2) (nI 0) := t1.trans t0
  refine la_setWeighing (σ := σ1.1) (v := 1) (by omega) ?_
  have t2 : told (gk_s σ1.1 6 (nI 1)) = cgT (told σ.1) ((told σ.1).1 2) (nI 1) := by
    rw [told_way, t1']
    refine Prod.ext ?_ ?_
    · funext r k
      show va_up (va_up (told σ.1).1 2 ((told σ.1).1 2)) 2 (va_up (told σ.1).1 2 ((told σ.1).1 2) 2) r k = va_up (told σ.1).1 2 ((told σ.1).1 2) r k
      by_cases e : r = 2
      · rw [e, va_up_self]
      · rw [va_up_ne _ _ e]
    · funext i
      show va_up (va_up (told σ.1).2 6 (nI 0)) 6 (nI 1) i = va_up (told σ.1).2 6 (nI 1) i
      by_cases e : i = 6
      · rw [e, va_up_self, va_up_self]
      · rw [va_up_ne _ _ e, va_up_ne _ _ e, va_up_ne _ _ e]
  have hw2 : wf (told (gk_s σ1.1 6 (nI 1))) := by
    rw [t2, ← told_way]
    exact hw
  refine ln_table (nU := nU) (nT := nS) (σ := (gk_s σ1.1 6 (nI 1), σ1.2)) hw2 ⟨n1, n2⟩ ⟨n5, n6⟩ (by show tU (told (gk_s σ1.1 6 (nI 1))) = nU; rw [t2]; exact e1) (by show tT (told (gk_s σ1.1 6 (nI 1))) = nS; rw [t2]; exact e3) (by show σ1.2.2 5 = _; rw [g1]; exact s5) (by show σ1.2.2 12 = _; rw [g1]; exact s12) (fun σ2 f1 t3 g3 hf1 => ?_)
  refine la_setWeighing (σ := σ2.1) (v := 0) (by omega) ?_
  have a0 : ∀ x, x < nU * 5 * nS → f0 x = dec no0 (told σ.1) 0 ((told σ.1).1 2) (x % nU) (x / nU % 5) (x / nU / 5) := fun x hx => by
    rw [hf0 x hx]
    show dc (told (gk_s σ.1 6 (nI 0))) _ _ _ = _
    rw [t0, ecg]
    rfl
  have a1 : ∀ x, x < nU * 5 * nS → f1 x = dec no0 (told σ.1) 1 ((told σ.1).1 2) (x % nU) (x / nU % 5) (x / nU / 5) := fun x hx => by
    rw [hf1 x hx]
    show dc (told (gk_s σ1.1 6 (nI 1))) _ _ _ = _
    rw [t2, ecg]
    rfl
  have l := lpUp (A := Unit) (n := nU * 5 * nS) (W := fun g x _ => wL_L_law_983 (fun _ _ y => y = x1) g (gk_s σ2.1 6 (nI 0), σ2.2) ρ x1 (nI x) f0 (nU * 5 * nS) f1 (nU * 5 * nS)) (J := fun _ _ => True) ?_ ?_ (nU * 5 * nS) 0 () (Nat.zero_add _) trivial
  · exact ⟨_, l⟩
  · intro g _ _
    unfold wL_L_law_983
    exact ⟨fun _ => rfl, fun q => absurd (nI_le (Nat.le_refl _) (by omega)) q⟩
  · intro g x _ hx _ next
    unfold wL_L_law_983
    refine ⟨fun q => absurd q (nI_ge hx (by omega)), fun _ => ?_⟩
    have hv := vp_in' hx (by omega)
    have cl : (nI x).toNatClampNeg = x := nI_clamp (by omega)
    have j1009 : wJ_L_law_1009 (fun σ ρ x1' x7 fc956 nc956 fc968 nc968 => wL_L_law_983 (fun _ _ y => y = x1) g σ ρ x1' x7 fc956 nc956 fc968 nc968) (gk_s σ2.1 6 (nI 0), σ2.2) ρ x1 (nI x) f0 (nU * 5 * nS) f1 (nU * 5 * nS) := by
      have fin : ∀ t, wJ_L_law_1037 (fun σ ρ x1' x7 fc956 nc956 fc968 nc968 => wL_L_law_983 (fun _ _ y => y = x1) g σ ρ x1' x7 fc956 nc956 fc968 nc968) (gk_s σ2.1 6 (nI 0), σ2.2) ρ x1 (nI x) t t f0 (nU * 5 * nS) f1 (nU * 5 * nS) := fun t => by
        unfold wJ_L_law_1037
        rw [nI_1]
        exact ⟨fun _ => next () trivial, fun q => absurd rfl q⟩
      unfold wJ_L_law_1009 wJ_L_law_1023
      rw [cl, a0 x hx, a1 x hx]
      rcases dec_bar (T := told σ.1) 0 ((told σ.1).1 2) (x % nU) (x / nU % 5) (x / nU / 5) with ⟨b0, c0'⟩ | ⟨b0, c0'⟩ <;> rcases dec_bar (T := told σ.1) 1 ((told σ.1).1 2) (x % nU) (x / nU % 5) (x / nU / 5) with ⟨b1, c1'⟩ | ⟨b1, c1'⟩
      · refine ⟨hv, fun q => absurd q ?_, fun _ => ⟨hv, fun q => absurd q ?_, fun _ => fin 1⟩⟩
        · rcases c0' with e | e <;> rw [e] <;> decide
        · rcases c1' with e | e <;> rw [e] <;> decide
      · rw [b0] at b1; cases b1
      · rw [b0] at b1; cases b1
      · refine ⟨hv, fun _ => ⟨hv, fun _ => fin 0, fun q => absurd ?_ q⟩, fun q => absurd ?_ q⟩
        · rcases c1' with e | e | e | e <;> rw [e] <;> decide
        · rcases c0' with e | e | e | e <;> rw [e] <;> decide
    refine ⟨hv, fun _ => j1009, fun q => ⟨hv, fun q2 => absurd ?_ q2, fun _ => j1009⟩⟩
    rw [cl, a0 x hx, dec_1] at q
    rw [cl, a1 x hx, dec_1]
    exact rul_w1 q
end SW
