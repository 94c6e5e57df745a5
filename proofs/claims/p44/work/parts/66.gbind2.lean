/-! ===== the law's Gate: two made apart; bind ===== -/
section BO
variable {nU nR nT j : Nat} {ρ : lk_R}
theorem tA5_apU {σ : nk_C} {ap : Nat → Int32} {r o : Nat} (hR : nR ≤ 5) (hr : r < nR) (ho : o < nR) (hro : ¬ r = o) (hA : tA5 ap nR σ) : tA5 (apU ap r o) nR (nk_r (nk_r σ (31 + r) (upd (σ.2.1 (31 + r)) o 1)) (31 + o) (upd ((nk_r σ (31 + r) (upd (σ.2.1 (31 + r)) o 1)).2.1 (31 + o)) r 1)) := fun a b ha hb => by
  rw [apU_b _ hro (by omega) (by omega) (by omega)]
  by_cases e1 : a = o
  · subst e1
    rw [nk_r_at, decide_eq_true (rfl : a = a), decide_eq_false (show ¬ a = r from fun q => hro q.symm)]
    by_cases e2 : b = r
    · rw [e2, up_at]; simp [b2i]
    · rw [up_ne _ _ e2, nk_r_ne _ _ (by omega), decide_eq_false e2, hA a b ha hb]; simp
  · rw [nk_r_ne _ _ (by omega), decide_eq_false e1]
    by_cases e2 : a = r
    · subst e2
      rw [nk_r_at, decide_eq_true (rfl : a = a)]
      by_cases e3 : b = o
      · rw [e3, up_at]; simp [b2i]
      · rw [up_ne _ _ e3, decide_eq_false e3, hA a b ha hb]; simp
    · rw [nk_r_ne _ _ (by omega), decide_eq_false e2, hA a b ha hb]; simp
theorem nk_row2 {σ : nk_C} {k q : Nat} {i i' : Nat} {x y : Int32} (hkq : ¬ k = q) : ∀ p, (nk_r (nk_r (nk_r (nk_r σ k (upd (σ.2.1 k) i x)) q (upd ((nk_r σ k (upd (σ.2.1 k) i x)).2.1 q) i' x)) k (upd ((nk_r (nk_r σ k (upd (σ.2.1 k) i x)) q (upd ((nk_r σ k (upd (σ.2.1 k) i x)).2.1 q) i' x)).2.1 k) i y)) q (upd ((nk_r (nk_r (nk_r σ k (upd (σ.2.1 k) i x)) q (upd ((nk_r σ k (upd (σ.2.1 k) i x)).2.1 q) i' x)) k (upd ((nk_r (nk_r σ k (upd (σ.2.1 k) i x)) q (upd ((nk_r σ k (upd (σ.2.1 k) i x)).2.1 q) i' x)).2.1 k) i y)).2.1 q) i' y)).2.1 p = if p = q then upd (σ.2.1 q) i' y else if p = k then upd (σ.2.1 k) i y else σ.2.1 p := fun p => by
  have uu : ∀ (f : Nat → Int32) (n : Nat) (a b : Int32), upd (upd f n a) n b = upd f n b := fun f n a b => by
    funext m
    by_cases e : m = n
    · rw [e, up_at, up_at]
    · rw [up_ne _ _ e, up_ne _ _ e, up_ne _ _ e]
  by_cases e1 : p = q
  · subst e1
    rw [if_pos rfl, nk_r_at, nk_r_ne _ _ (fun c => hkq c.symm), nk_r_at, nk_r_ne _ _ (fun c => hkq c.symm), uu]
  · rw [if_neg e1, nk_r_ne _ _ e1]
    by_cases e2 : p = k
    · subst e2
      rw [if_pos rfl, nk_r_at, nk_r_ne _ _ hkq, nk_r_at, uu]
    · rw [if_neg e2, nk_r_ne _ _ e2, nk_r_ne _ _ e1, nk_r_ne _ _ e2]
theorem ln_bindApart (hN : bN nU nR nT) {σ : nk_C} {D : Nat} (h : bK nU nR nT j ρ σ) (hd' : lD D σ) {r o : Nat} {y : Int32} (hr : r < nR) (ho : o < nR) (hy : (y = 1 ∧ r = o) ∨ (y = 0 ∧ ¬ r = o)) {Q : Int32 → nk_C → Prop} (hQ : ∀ σ1, bK nU nR nT j ρ σ1 → lD D σ1 → Q 1 σ1) : wJ_X9_bind_289 Q σ (nI r) (nI o) 0 y := by
  obtain ⟨hG, hLL, hGG⟩ := h
  obtain ⟨e1, e2, e3⟩ := gR_n hG hN
  have hb := gR_hb hG hN
  have hsb := gR_sb hG hN
  have hsym := gR_sym hG hN
  have hN0 := hN
  obtain ⟨⟨n1, n2⟩, ⟨n3, n4⟩, ⟨n5, n6⟩⟩ := hN
  have hG0 := hG
  obtain ⟨hI, hsU, hsR, hsT, hS, hH, hA⟩ := hG
  unfold wJ_X9_bind_289
  rcases hy with ⟨rfl, hro⟩ | ⟨rfl, hro⟩
  · refine pm_go1' ?_
    unfold wJ_X9_bind_307 wJ_X9_bind_312
    refine pm_go1' ?_
    unfold wJ_X9_bind_379
    refine ln_count hsR.2 n4 hA ?_
    refine la_setApart (σ := σ.1) hI (by omega) (by omega) (fun _ => Or.inl ⟨rfl, gk_z1, hQ _ ⟨hG0, hLL, hGG⟩ hd'⟩) (fun q => absurd hro q) (fun q => absurd hro q)
  · refine pm_go0' ⟨vp_in' (by omega) (by decide), vp_in' (by omega) (by decide), ?_⟩
    rw [nI_clamp (show r < 2 ^ 31 by omega), nI_clamp (show o < 2 ^ 31 by omega), hA r o hr ho]
    refine b2i_go _ (fun q => ?_) (fun q => ?_)
    rotate_left
    · unfold wJ_X9_bind_307 wJ_X9_bind_312
      refine pm_go1' ?_
      unfold wJ_X9_bind_379
      refine ln_count hsR.2 n4 hA ?_
      refine la_setApart (σ := σ.1) hI (by omega) (by omega) (fun q2 => absurd q2 hro) (fun _ _ => Or.inr ⟨rfl, pm_go1 (pm_go0' (hQ _ ⟨hG0, hLL, hGG⟩ hd'))⟩) (fun _ _ q2 _ _ => ?_)
      rw [q] at q2; cases q2
    · have q' : bt (σ.1.1 5 o) r = false := by
        cases c : bt (σ.1.1 5 o) r
        · rfl
        · have := (hsym o r ho (by omega) c).2.2
          rw [q] at this; cases this
      have hP : tP (told σ.1) = smN (fun a => cn (bt (σ.1.1 5 a)) a) nR := by
        have := hI.2.2.1.2
        rw [e2] at this
        exact this
      have hmore := pairs_more (ap := σ.1.1 5) (n := nR) (by omega) hr ho hro q q'
      have hle := pairs_le (apU (σ.1.1 5) r o) n4
      have hAp := tA5_apU n4 hr ho hro hA
      have hsym' : sym5 (apU (σ.1.1 5) r o) nR := fun a b ha hb2 q2 => by
        rw [apU_b _ hro (by omega) (by omega) hb2, Bool.or_eq_true, Bool.or_eq_true, Bool.and_eq_true, Bool.and_eq_true, decide_eq_true_eq, decide_eq_true_eq, decide_eq_true_eq, decide_eq_true_eq] at q2
        rw [apU_b _ hro (by omega) (by omega) (by omega)]
        rcases q2 with q2 | ⟨c1, c2⟩ | ⟨c1, c2⟩
        · obtain ⟨h1, h2, h3⟩ := hsym a b ha hb2 q2
          exact ⟨h1, h2, by rw [h3]; rfl⟩
        · refine ⟨by omega, by omega, ?_⟩
          rw [c1, c2]; simp
        · refine ⟨by omega, by omega, ?_⟩
          rw [c1, c2]; simp
      have eany : any2 σ.1 r o = rAny (fun u => rSplit (apU (σ.1.1 5) r o) nR (rH (σ.1.1 4) nR (σ.1.1 2 u) 12)) nU := by
        unfold any2
        rw [e1]
        refine rAny_congr (fun u hu => ?_)
        rw [rSplit_apU (by omega) hr ho hro]
        have h0 := hI.2.1.2.1 u (by omega)
        rw [e2] at h0
        rw [show rSplit (σ.1.1 5) nR (rH (σ.1.1 4) nR (σ.1.1 2 u) 12) = false from h0, Bool.false_or]
        show (bt (rH (σ.1.1 4) (tR (told σ.1)) (σ.1.1 2 u) 12) r && bt (rH (σ.1.1 4) (tR (told σ.1)) (σ.1.1 2 u) 12) o) = _
        rw [e2]
      unfold wJ_X9_bind_312
      refine pm_go0' ⟨vp_in' (by omega) (by decide), vp_in' (by omega) (by decide), ?_⟩
      rw [nI_clamp (show r < 2 ^ 31 by omega), nI_clamp (show o < 2 ^ 31 by omega), nk_st_nI _ _ _ _ (show o < 2 ^ 31 by omega), nar_01 (Or.inr rfl)]
      rintro _ rfl
      refine ⟨vp_in' (by omega) (by decide), vp_in' (by omega) (by decide), ?_⟩
      rw [nk_st_nI _ _ _ _ (show r < 2 ^ 31 by omega)]
      rintro _ rfl
      have hHp : ∀ f g, tH5 (σ.1.1 4) nR (nk_r (nk_r σ (31 + r) f) (31 + o) g) := fun f g a b ha hb2 => by
        rw [nk_r_ne _ _ (by omega), nk_r_ne _ _ (by omega)]; exact hH a b ha hb2
      have hSp : ∀ f g w, w < nU → tS5 (σ.1.1 2 w) nR (22 + w) (nk_r (nk_r σ (31 + r) f) (31 + o) g) := fun f g w hw i hi => by
        rw [nk_r_ne _ _ (by omega), nk_r_ne _ _ (by omega)]; exact hS w hw i hi
      refine ln_anyApart (σ := nk_r (nk_r σ (31 + r) (upd (σ.2.1 (31 + r)) o 1)) (31 + o) (upd ((nk_r σ (31 + r) (upd (σ.2.1 (31 + r)) o 1)).2.1 (31 + o)) r 1)) (h := σ.1.1 4) (S := σ.1.1 2) (ap := apU (σ.1.1 5) r o) hsU.2 n2 hsR.2 n4 (hHp _ _) hb (fun w hw => ⟨hSp _ _ w hw, hsb w hw⟩) hAp hsym' ?_
      rw [← eany]
      have row := fun y => nk_row2 (σ := σ) (k := 31 + r) (q := 31 + o) (i := o) (i' := r) (x := 1) (y := y) (by omega)
      refine ⟨vp_in' (by omega) (by decide), ?_⟩
      refine b2i_go' _ (fun q2 => ?_) (fun q2 => ?_)
      · -- nobody has both: it is done
        refine ⟨vp_in' (by omega) (by decide), ?_⟩
        rw [q2, nk_st_nI _ _ _ _ (show o < 2 ^ 31 by omega)]
        rintro _ rfl
        refine ⟨vp_in' (by omega) (by decide), pm_go0' ⟨vp_in' (by omega) (by decide), ?_⟩⟩
        rw [nk_st_nI _ _ _ _ (show r < 2 ^ 31 by omega)]
        rintro _ rfl
        have r1 := row 1
        generalize hσ' : (nk_r (nk_r (nk_r (nk_r σ (31 + r) (upd (σ.2.1 (31 + r)) o 1)) (31 + o) (upd ((nk_r σ (31 + r) (upd (σ.2.1 (31 + r)) o 1)).2.1 (31 + o)) r 1)) (31 + r) (upd ((nk_r (nk_r σ (31 + r) (upd (σ.2.1 (31 + r)) o 1)) (31 + o) (upd ((nk_r σ (31 + r) (upd (σ.2.1 (31 + r)) o 1)).2.1 (31 + o)) r 1)).2.1 (31 + r)) o 1)) (31 + o) (upd ((nk_r (nk_r (nk_r σ (31 + r) (upd (σ.2.1 (31 + r)) o 1)) (31 + o) (upd ((nk_r σ (31 + r) (upd (σ.2.1 (31 + r)) o 1)).2.1 (31 + o)) r 1)) (31 + r) (upd ((nk_r (nk_r σ (31 + r) (upd (σ.2.1 (31 + r)) o 1)) (31 + o) (upd ((nk_r σ (31 + r) (upd (σ.2.1 (31 + r)) o 1)).2.1 (31 + o)) r 1)).2.1 (31 + r)) o 1)).2.1 (31 + o)) r 1)) = σ' at r1
        have s1 : σ'.1 = σ.1 := by rw [← hσ']; rfl
        have s2 : σ'.2.2 = σ.2.2 := by rw [← hσ']; rfl
        have hA' : tA5 (apU (σ.1.1 5) r o) nR σ' := fun a b ha hb2 => by
          rw [r1, ← hAp a b ha hb2]
          by_cases c1 : 31 + a = 31 + o
          · rw [if_pos c1, c1, nk_r_at, nk_r_ne _ _ (by omega)]
          · rw [if_neg c1, nk_r_ne _ _ c1]
            by_cases c2 : 31 + a = 31 + r
            · rw [if_pos c2, c2, nk_r_at]
            · rw [if_neg c2, nk_r_ne _ _ c2]
        have hH' : tH5 (σ.1.1 4) nR σ' := fun a b ha hb2 => by
          rw [r1, if_neg (by omega), if_neg (by omega)]; exact hH a b ha hb2
        have hS' : ∀ w, w < nU → tS5 (σ.1.1 2 w) nR (22 + w) σ' := fun w hw i hi => by
          rw [r1, if_neg (by omega), if_neg (by omega)]; exact hS w hw i hi
        unfold wJ_X9_bind_379
        refine ln_count (by rw [s2]; exact hsR.2) n4 hA' ?_
        rw [s1]
        refine la_setApart (σ := σ.1) hI (by omega) (by omega) (fun q3 => absurd q3 hro) (fun _ q3 => ?_) (fun _ _ _ _ hI2 => ?_)
        · exfalso
          rw [q, q2, decide_eq_false (by omega)] at q3
          cases q3
        · rw [hmore, hP]
          refine ⟨fun c => absurd rfl c, fun _ => pm_go0' ?_⟩
          refine hQ _ ⟨⟨by rw [← hP]; exact hI2, ⟨hsU.1, by show σ'.2.2 5 = _; rw [s2]; exact hsU.2⟩, ⟨hsR.1, by show σ'.2.2 9 = _; rw [s2]; exact hsR.2⟩, ⟨hsT.1, by show σ'.2.2 12 = _; rw [s2]; exact hsT.2⟩, hS', hH', hA'⟩, ⟨hLL.1, by show σ'.2.2 17 = _; rw [s2]; exact hLL.2.1, hLL.2.2⟩, ⟨hGG.1, by show σ'.2.2 19 = _; rw [s2]; exact hGG.2.1, hGG.2.2⟩⟩ ?_
          obtain ⟨d, d1, d2⟩ := hd'
          exact ⟨d, d1, by show σ'.2.2 2 = _; rw [s2]; exact d2⟩
      · -- somebody has both: all as it was
        refine ⟨vp_in' (by omega) (by decide), ?_⟩
        rw [q2, nk_st_nI _ _ _ _ (show o < 2 ^ 31 by omega), lo_nar0]
        rintro _ rfl
        refine ⟨vp_in' (by omega) (by decide), pm_go1' ⟨vp_in' (by omega) (by decide), ?_⟩⟩
        rw [nk_st_nI _ _ _ _ (show r < 2 ^ 31 by omega)]
        rintro _ rfl
        have r1 := row 0
        generalize hσ' : (nk_r (nk_r (nk_r (nk_r σ (31 + r) (upd (σ.2.1 (31 + r)) o 1)) (31 + o) (upd ((nk_r σ (31 + r) (upd (σ.2.1 (31 + r)) o 1)).2.1 (31 + o)) r 1)) (31 + r) (upd ((nk_r (nk_r σ (31 + r) (upd (σ.2.1 (31 + r)) o 1)) (31 + o) (upd ((nk_r σ (31 + r) (upd (σ.2.1 (31 + r)) o 1)).2.1 (31 + o)) r 1)).2.1 (31 + r)) o 0)) (31 + o) (upd ((nk_r (nk_r (nk_r σ (31 + r) (upd (σ.2.1 (31 + r)) o 1)) (31 + o) (upd ((nk_r σ (31 + r) (upd (σ.2.1 (31 + r)) o 1)).2.1 (31 + o)) r 1)) (31 + r) (upd ((nk_r (nk_r σ (31 + r) (upd (σ.2.1 (31 + r)) o 1)) (31 + o) (upd ((nk_r σ (31 + r) (upd (σ.2.1 (31 + r)) o 1)).2.1 (31 + o)) r 1)).2.1 (31 + r)) o 0)).2.1 (31 + o)) r 0)) = σ' at r1
        have s1 : σ'.1 = σ.1 := by rw [← hσ']; rfl
        have s2 : σ'.2.2 = σ.2.2 := by rw [← hσ']; rfl
        have hA' : tA5 (σ.1.1 5) nR σ' := fun a b ha hb2 => by
          rw [r1]
          by_cases c1 : 31 + a = 31 + o
          · rw [if_pos c1]
            have : a = o := by omega
            subst this
            by_cases c3 : b = r
            · rw [c3, up_at, q']; rfl
            · rw [up_ne _ _ c3]; exact hA a b ha hb2
          · rw [if_neg c1]
            by_cases c2 : 31 + a = 31 + r
            · rw [if_pos c2]
              have : a = r := by omega
              subst this
              by_cases c3 : b = o
              · rw [c3, up_at, q]; rfl
              · rw [up_ne _ _ c3]; exact hA a b ha hb2
            · rw [if_neg c2]; exact hA a b ha hb2
        have hH' : tH5 (σ.1.1 4) nR σ' := fun a b ha hb2 => by
          rw [r1, if_neg (by omega), if_neg (by omega)]; exact hH a b ha hb2
        have hS' : ∀ w, w < nU → tS5 (σ.1.1 2 w) nR (22 + w) σ' := fun w hw i hi => by
          rw [r1, if_neg (by omega), if_neg (by omega)]; exact hS w hw i hi
        unfold wJ_X9_bind_379
        refine ln_count (by rw [s2]; exact hsR.2) n4 hA' ?_
        rw [s1]
        refine la_setApart (σ := σ.1) hI (by omega) (by omega) (fun q3 => absurd q3 hro) (fun _ _ => Or.inr ⟨rfl, pm_go1 (pm_go0' ?_)⟩) (fun _ _ _ q3 _ => ?_)
        · refine hQ _ ⟨⟨hI, ⟨hsU.1, by show σ'.2.2 5 = _; rw [s2]; exact hsU.2⟩, ⟨hsR.1, by show σ'.2.2 9 = _; rw [s2]; exact hsR.2⟩, ⟨hsT.1, by show σ'.2.2 12 = _; rw [s2]; exact hsT.2⟩, hS', hH', hA'⟩, ⟨hLL.1, by show σ'.2.2 17 = _; rw [s2]; exact hLL.2.1, hLL.2.2⟩, ⟨hGG.1, by show σ'.2.2 19 = _; rw [s2]; exact hGG.2.1, hGG.2.2⟩⟩ ?_
          obtain ⟨d, d1, d2⟩ := hd'
          exact ⟨d, d1, by show σ'.2.2 2 = _; rw [s2]; exact d2⟩
        · rw [q2] at q3; cases q3
theorem ln_bind (hN : bN nU nR nT) {σ : nk_C} {D : Nat} (h : bK nU nR nT j ρ σ) (hd' : lD D σ) (hD : D < 900000) {Q : Int32 → nk_C → Prop} (hQ : ∀ σ1, bK nU nR nT j ρ σ1 → lD (D + 5) σ1 → Q 1 σ1) : w_X9_bind σ Q := by
  have hN0 := hN
  obtain ⟨⟨n1, n2⟩, ⟨n3, n4⟩, ⟨n5, n6⟩⟩ := hN
  unfold w_X9_bind
  refine ln_draw bK_s h hd' (by omega) h.1.2.1.2 (by omega) (by omega) (fun u hu σ1 h1 d1 => ?_)
  refine ln_draw bK_s h1 d1 (by omega) h1.1.2.2.1.2 (by omega) (by omega) (fun r hr σ2 h2 d2 => ?_)
  refine ln_draw bK_s h2 d2 (by omega) h2.1.2.2.1.2 (by omega) (by omega) (fun o ho σ3 h3 d3 => ?_)
  refine ln_draw (N := 4) bK_s h3 d3 (by omega) rfl (by omega) (by omega) (fun k _ σ4 h4 d4 => ?_)
  have go : ∀ t : Int32, (t = 0 ∨ t = 1) → wJ_X9_bind_40 Q σ4 (nI u) (nI r) (nI o) t := fun t ht => by
    unfold wJ_X9_bind_40
    refine ln_draw (N := 6) bK_s h4 d4 (by omega) rfl (by omega) (by omega) (fun s _ σ5 h5 d5 => ?_)
    refine ⟨fun _ => ⟨fun _ => ?_, fun _ => ?_⟩, fun _ => ?_⟩
    · refine ⟨fun c => ?_, fun c => ?_⟩
      · exact ln_bindApart hN0 h5 d5 hr ho (Or.inr ⟨rfl, fun e => c (by rw [e])⟩) hQ
      · exact ln_bindApart hN0 h5 d5 hr ho (Or.inl ⟨rfl, (nI_eq (by omega) (by omega)).mp c⟩) hQ
    · refine ⟨fun c => ?_, fun c => ⟨fun c0 => ?_, fun c0 => ?_⟩⟩
      · have e := (nI_eq (a := r) (b := o) (by omega) (by omega)).mp c
        exact ln_bindHolds (y := 1) hN0 h5 d5 ht hr ho (Or.inr rfl) ⟨fun _ => Or.inl e, fun _ => by decide⟩ hQ
      · have e : ¬ r = o := fun e => c (by rw [e])
        refine ln_bindHolds (y := 0) hN0 h5 d5 ht hr ho (Or.inl rfl) ⟨fun q => absurd rfl q, fun q => ?_⟩ hQ
        rcases q with q | q
        · exact absurd q e
        · exact absurd c0 q.1
      · have e : ¬ r = o := fun e => c (by rw [e])
        refine ln_isHeld6 (h := σ5.1.1 4) h5.1.2.2.1.2 n4 h5.1.2.2.2.2.2.1 (gR_hb h5.1 hN0) hr ho ?_
        refine b2i_go _ (fun q => ?_) (fun q => ?_)
        · refine ln_bindHolds (y := 0) hN0 h5 d5 ht hr ho (Or.inl rfl) ⟨fun q => absurd rfl q, fun q2 => ?_⟩ hQ
          rcases q2 with q2 | q2
          · exact absurd q2 e
          · rw [q] at q2; cases q2.2
        · exact ln_bindHolds (y := 1) hN0 h5 d5 ht hr ho (Or.inr rfl) ⟨fun _ => Or.inr ⟨c0, q⟩, fun _ => by decide⟩ hQ
    · refine ⟨vp_in' (by omega) (by decide), vp_in' (by omega) (by decide), vp_in' (by omega) (by decide), vp_in' (by omega) (by decide), ?_⟩
      exact ln_bindRole hN0 h5 d5 ht hu hr hQ
  exact ⟨fun _ => go 0 (Or.inl rfl), fun _ => go 1 (Or.inr rfl)⟩
end BO
