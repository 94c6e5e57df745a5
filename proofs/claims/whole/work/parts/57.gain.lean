/-! ===== layer B: what would be gained ===== -/
theorem fl_off (T : gk_C) (u a r : Nat) : u * 5 * tT T + (a * tT T + r) = (u * 5 + a) * tT T + r := by
  rw [Nat.add_mul, Nat.add_assoc]
theorem lm_nearS {T μ : gk_C} (hM : jM T μ) (hw : wf T) {s : Int32} (hs : bd (tR T) s) {Q : (Nat → Int32) → Prop} (hQ : ∀ f, isN T s f → Q f) : w_X9_nears μ s Q := by
  have hR := wf_R hw
  unfold w_X9_nears
  exact lm_nears_ (T := T) (hM.1.2.1.trans hR.1) hR.2 hM.2.2.2.1 (fun k hk i hi => hw.2.1.2 k hk i hi) hs hQ
theorem bd_or {n : Nat} {x y : Int32} (hx : bd n x) (hy : bd n y) : bd n (x ||| y) := fun i hi hb => by
  rw [b_or, Bool.or_eq_true] at hb
  rcases hb with q | q
  · exact hx i hi q
  · exact hy i hi q
theorem bd_bit {n r : Nat} (hr : r < n) (h32 : n ≤ 32) : bd n (1 <<< (nI r &&& 31)) := fun i hi hb => by
  rw [b_bit (by omega) hi, decide_eq_true_eq] at hb
  omega
theorem q_wouldGain : ∀ (σ μ : gk_C) (o : Int64), jI σ μ → ∀ (a0 a1 : Int32), w_L_wouldGain σ o a0 a1 (fun k σ1 o1 => w_X9_wouldGain μ a0 a1 (fun r μ1 => μ1.2 0 = k ∧ (k = 0 → o1 = r.toInt64) ∧ jI σ1 μ1)) := by
  intro σ μ o h a0 a1
  have hw := h.1
  have hU := wf_U hw
  have hR := wf_R hw
  have hT := wf_T hw
  have h1440 := fl_1440 hw
  unfold w_L_wouldGain w_X8_wouldGain
  have no : (vld (tU (told σ)) a0 && vld (tR (told σ)) a1) = false → w_X9_wouldGain μ a0 a1 (fun r μ1 => μ1.2 0 = 1 ∧ ((1 : Int32) = 0 → o = r.toInt64) ∧ jI σ μ1) := fun q => by
    have no2 : wJ_X9_wouldGain_21 (fun r μ1 => μ1.2 0 = 1 ∧ ((1 : Int32) = 0 → o = r.toInt64) ∧ jI σ μ1) (gk_s μ 0 0) := q_no1 h
    unfold w_X9_wouldGain
    refine lm_isUser (T := told σ) (μ := gk_s μ 0 0) h.2.1 hw ?_
    refine b2i_go _ (fun _ => no2) (fun q1 => ?_)
    refine lm_isRole (T := told σ) (μ := gk_s μ 0 0) h.2.1 hw ?_
    refine b2i_go' _ (fun _ => no2) (fun q2 => ?_)
    rw [q1, q2] at q; cases q
  refine lb_isUser (T := told σ) rfl hw ?_
  refine b2i_go _ (fun q1 => ⟨fun q2 => absurd rfl q2, fun _ => ⟨rfl, no (by rw [q1]; rfl)⟩⟩) (fun q1 => ?_)
  refine lb_isRole (T := told σ) rfl hw ?_
  refine b2i_go _ (fun q2 => ⟨fun q2 => absurd rfl q2, fun _ => ⟨rfl, no (by rw [q2, Bool.and_false])⟩⟩) (fun q2 => ⟨fun _ => ?_, fun q => absurd q (by decide)⟩)
  obtain ⟨u, hu, rfl⟩ := vld_ex (by omega) q1
  obtain ⟨ro, hro, rfl⟩ := vld_ex (by omega) q2
  refine lb_now (v := 0) (by decide) h (fun σ1 H HG HS hI => ?_)
  refine lb_look (v := 1) (T := told σ) (lo := no0) H.1 (by decide) hw b0_lo (fun σ2 H2 HG2 HS2 => ?_)
  have e6 : σ1.2 6 = σ.2 6 := HS.2 6 (by omega)
  rw [e6] at H2 HG2
  rw [gk_at_in (show u < gk_rl 2 by show u < 12; omega), tr H2.1 (show 2 < 26 by decide)]
  refine vw_give H2 (by decide) hw hu (by omega) (fun σ3 H3 HS3 E3 => ?_)
  rw [if_neg (by omega)] at H3
  refine lb_weighGrants H3 (by decide) hw ?_
  generalize hS' : va_up ((told σ).1 2) u ((told σ).1 2 u ||| (1 <<< (nI ro &&& 31))) = S' at H3 ⊢
  have hI2 : jI σ2 μ := jI_sV hI (by decide) HS2
  have hI3 : jI σ3 μ := jI_sV hI2 (by decide) HS3
  have HS4 : sV 1 σ3 (gk_s σ3 (11 + 4 * 1) (gd no0 (told σ) (σ.2 6) S')) := sV_s σ3 _ (by omega) (by omega)
  have hI4 : jI (gk_s σ3 (11 + 4 * 1) (gd no0 (told σ) (σ.2 6) S')) μ := jI_sV hI3 (by decide) HS4
  have H4 : vw 1 no0 (told σ) (σ.2 6) S' (tU (told σ)) (gk_s σ3 (11 + 4 * 1) (gd no0 (told σ) (σ.2 6) S')) := vw_good H3 _
  have HSa := sV_tr (sV_tr HS2 HS3) HS4
  have Ha : vw 0 no0 (told σ) (σ.2 6) ((told σ).1 2) (tU (told σ)) (gk_s σ3 (11 + 4 * 1) (gd no0 (told σ) (σ.2 6) S')) := vw_other H (by omega) HSa
  have HGa : (gk_s σ3 (11 + 4 * 1) (gd no0 (told σ) (σ.2 6) S')).2 (11 + 4 * 0) = gd no0 (told σ) (σ.2 6) ((told σ).1 2) := (HSa.2 _ (by omega)).trans HG
  have HG4 : (gk_s σ3 (11 + 4 * 1) (gd no0 (told σ) (σ.2 6) S')).2 (11 + 4 * 1) = gd no0 (told σ) (σ.2 6) S' := gs_at _ _ _
  generalize gk_s σ3 (11 + 4 * 1) (gd no0 (told σ) (σ.2 6) S') = σ4 at hI4 H4 Ha HGa HG4 ⊢
  have hnT : σ4.2 3 = nI (tT (told σ)) := (ts H4.1 (by decide)).trans hT.1
  -- how many
  have hP : ∃ P : Nat → Bool, P = fun j => alw (fl (told σ) (dec no0 (told σ) (σ.2 6) S') (u * 5 * tT (told σ) + j)) && !alw (fl (told σ) (dec no0 (told σ) (σ.2 6) ((told σ).1 2)) (u * 5 * tT (told σ) + j)) := ⟨_, rfl⟩
  obtain ⟨P, hP⟩ := hP
  have fin : w_X9_wouldGain μ (nI u) (nI ro) (fun r μ1 => μ1.2 0 = 0 ∧ ((0 : Int32) = 0 → (nI (cn P (5 * tT (told σ)))).toInt64 = r.toInt64) ∧ jI σ4 μ1) := by
    unfold w_X9_wouldGain
    refine lm_isUser (T := told σ) (μ := gk_s μ 0 0) h.2.1 hw ?_
    rw [q1]
    refine ⟨fun q => absurd q (by decide), fun _ => ?_⟩
    refine lm_isRole (T := told σ) (μ := gk_s μ 0 0) h.2.1 hw ?_
    rw [q2]
    refine ⟨fun _ => ?_, fun q => absurd q (by decide)⟩
    refine lm_allNears (T := told σ) (μ := gk_s μ 0 0) h.2.1 hw (fun N hN => ?_)
    rw [wgh_eq h]
    refine lm_table (T := told σ) (μ := gk_s μ 0 0) h.2.1 hw (lo_m1 hw h.2.2.2.1) hN (fun f1 hf1 => ⟨vp_in' (by omega) (by decide), ?_⟩)
    rw [nI_clamp (show u < 2 ^ 31 by omega), show (gk_s μ 0 0).1 4 u = (told σ).1 2 u from (h.2.1.2.1 u (by omega)).2.2]
    refine lm_nearS (T := told σ) (μ := gk_s μ 0 0) h.2.1 hw (bd_or (fun i hi => hw.2.1.1 u hu i hi) (bd_bit hro (by omega))) (fun f hf => ⟨vp_in' (by omega) (by decide), ?_⟩)
    have hN' : isNN (told σ) S' (va_up N u (some f)) := fun w hw' => by
      by_cases e : w = u
      · subst e
        exact ⟨f, va_up_self _ _ _, by rw [← hS', va_up_self]; exact hf⟩
      · obtain ⟨g, g1, g2⟩ := hN w hw'
        exact ⟨g, by rw [va_up_ne _ _ e]; exact g1, by rw [← hS', va_up_ne _ _ e]; exact g2⟩
    refine lm_table (T := told σ) (μ := gk_s μ 0 0) h.2.1 hw (lo_m1 hw h.2.2.2.1) hN' (fun f2 hf2 => ?_)
    have hnM : (gk_s μ 0 0).2 11 = nI (tT (told σ)) := h.2.1.1.2.2.2.1.trans hT.1
    have hlast : (u + 1) * 5 * tT (told σ) ≤ tU (told σ) * 5 * tT (told σ) := Nat.mul_le_mul_right _ (by omega)
    have hlen : (u + 1) * 5 * tT (told σ) = u * 5 * tT (told σ) + 5 * tT (told σ) := by
      rw [Nat.succ_mul, Nat.add_mul]
    have l := lpUp (A := Int32) (n := 5 * tT (told σ)) (W := fun fu j z => wL_X9_wouldGain_84 (fun r μ1 => μ1.2 0 = 0 ∧ ((0 : Int32) = 0 → (nI (cn P (5 * tT (told σ)))).toInt64 = r.toInt64) ∧ jI σ4 μ1) fu (gk_s μ 0 0) (nI u) z (nI (u * 5 * tT (told σ) + j)) f1 (tU (told σ) * 5 * tT (told σ)) f2 (tU (told σ) * 5 * tT (told σ))) (J := fun j z => z = nI (cn P j)) ?_ ?_ (5 * tT (told σ)) 0 0 (Nat.zero_add _) rfl
    · rw [Nat.add_zero] at l
      rw [hnM, show nI u * 5 * nI (tT (told σ)) = nI (u * 5 * tT (told σ)) from by rw [show nI u * 5 = nI (u * 5) from pk_mul u 5, pk_mul]]
      exact ⟨_, l⟩
    · intro fu z hz
      unfold wL_X9_wouldGain_84
      rw [hnM, nI_1, show nI (u + 1) * 5 * nI (tT (told σ)) = nI ((u + 1) * 5 * tT (told σ)) from by rw [show nI (u + 1) * 5 = nI ((u + 1) * 5) from pk_mul (u + 1) 5, pk_mul], hlen]
      exact ⟨fun _ => ⟨rfl, fun _ => by rw [hz], hI4⟩, fun q => absurd (nI_le (Nat.le_refl _) (by omega)) q⟩
    · intro fu j z hj hz next
      unfold wL_X9_wouldGain_84
      rw [hnM, nI_1 u, show nI (u + 1) * 5 * nI (tT (told σ)) = nI ((u + 1) * 5 * tT (told σ)) from by rw [show nI (u + 1) * 5 = nI ((u + 1) * 5) from pk_mul (u + 1) 5, pk_mul], hlen, nI_clamp (show u * 5 * tT (told σ) + j < 2 ^ 31 by omega), hf1 _ (by omega), hf2 _ (by omega)]
      refine ⟨fun q => absurd q (nI_ge (by omega) (by omega)), fun _ => ⟨vp_in_nI (by omega) (by omega), ?_⟩⟩
      have no3 : P j = false → wJ_X9_wouldGain_127 (fun y x1 x7 t0 t1 fc38 nc38 fc66 nc66 => (wJ_X9_wouldGain_128 (fun y x1 x6 x7 fc38 nc38 fc66 nc66 => wL_X9_wouldGain_84 (fun r μ1 => μ1.2 0 = 0 ∧ ((0 : Int32) = 0 → (nI (cn P (5 * tT (told σ)))).toInt64 = r.toInt64) ∧ jI σ4 μ1) fu y x1 x6 x7 fc38 nc38 fc66 nc66) y x1 x7 t0 t1 fc38 nc38 fc66 nc66)) (gk_s μ 0 0) (nI u) (nI (u * 5 * tT (told σ) + j)) z f1 (tU (told σ) * 5 * tT (told σ)) f2 (tU (told σ) * 5 * tT (told σ)) := fun q => by
        have h2 := next z (by rw [hz, cn_f q])
        unfold wJ_X9_wouldGain_127
        show wL_X9_wouldGain_84 _ fu (gk_s μ 0 0) (nI u) (z + 0) (nI (u * 5 * tT (told σ) + j) + 1) f1 _ f2 _
        rw [Int32.add_zero, nI_1]
        exact h2
      refine lm_isAllowed ?_
      refine b2i_go _ (fun q => no3 (by rw [hP]; simp only [q]; rfl)) (fun q => ⟨vp_in_nI (by omega) (by omega), ?_⟩)
      refine lm_isAllowed ?_
      refine b2i_go' _ (fun q3 => ?_) (fun q3 => no3 (by rw [hP]; simp only [q3]; simp))
      have h2 := next (z + 1) (by rw [hz, cn_t (by rw [hP]; simp only [q, q3]; rfl), nI_1])
      unfold wJ_X9_wouldGain_128
      rw [nI_1 (u * 5 * tT (told σ) + j)]
      exact h2
  have l := lpUp (A := Int32) (n := 5) (W := fun fu a z => wL_X8_wouldGain_92 (fun E u_1 => (E = gk_E1 ∧ w_X9_wouldGain μ (nI u) (nI ro) (fun r μ1 => μ1.2 0 = 1 ∧ ((1 : Int32) = 0 → o = r.toInt64) ∧ jI u_1 μ1))) (fun r1 u_1 => w_X9_wouldGain μ (nI u) (nI ro) (fun r μ1 => μ1.2 0 = 0 ∧ ((0 : Int32) = 0 → r1.toInt64 = r.toInt64) ∧ jI u_1 μ1)) fu σ4 (nI u) z (nI a)) (J := fun a z => z = nI (cn P (a * tT (told σ)))) ?_ ?_ 5 0 0 (Nat.zero_add _) (by rw [Nat.zero_mul]; rfl)
  · exact ⟨_, l⟩
  · intro fu z hz
    unfold wL_X8_wouldGain_92
    exact ⟨fun _ => by rw [hz]; exact fin, fun q => absurd (by decide) q⟩
  · intro fu a z ha hz next
    unfold wL_X8_wouldGain_92
    refine ⟨fun q => absurd q (nI_ge (b := 5) ha (by decide)), fun _ => ?_⟩
    have l2 := lpUp (A := Int32) (n := tT (told σ)) (W := fun f2 r z => wL_X8_wouldGain_101 (fun E u_1 => (E = gk_E1 ∧ w_X9_wouldGain μ (nI u) (nI ro) (fun r μ1 => μ1.2 0 = 1 ∧ ((1 : Int32) = 0 → o = r.toInt64) ∧ jI u_1 μ1))) (fun σ x1 x3 x4 => (wL_X8_wouldGain_92 (fun E u_1 => (E = gk_E1 ∧ w_X9_wouldGain μ (nI u) (nI ro) (fun r μ1 => μ1.2 0 = 1 ∧ ((1 : Int32) = 0 → o = r.toInt64) ∧ jI u_1 μ1))) (fun r1 u_1 => w_X9_wouldGain μ (nI u) (nI ro) (fun r μ1 => μ1.2 0 = 0 ∧ ((0 : Int32) = 0 → r1.toInt64 = r.toInt64) ∧ jI u_1 μ1)) fu σ x1 x3 (x4 + 1))) f2 σ4 (nI u) z (nI a) (nI r)) (J := fun r z => z = nI (cn P (a * tT (told σ) + r))) ?_ ?_ (tT (told σ)) 0 z (Nat.zero_add _) hz
    · exact ⟨_, l2⟩
    · intro f2 z hz
      unfold wL_X8_wouldGain_101
      rw [hnT]
      refine ⟨fun _ => ?_, fun q => absurd (nI_le (Nat.le_refl _) (by omega)) q⟩
      show wL_X8_wouldGain_92 _ _ fu σ4 (nI u) z (nI a + 1)
      rw [nI_1]
      exact next z (by rw [hz, Nat.succ_mul])
    · intro f2 r z hr hz next2
      unfold wL_X8_wouldGain_101
      rw [hnT, nI_1 r]
      refine ⟨fun q => absurd q (nI_ge hr (by omega)), fun _ => ?_⟩
      have eP : P (a * tT (told σ) + r) = (alw (dec no0 (told σ) (σ.2 6) S' u a r) && !alw (dec no0 (told σ) (σ.2 6) ((told σ).1 2) u a r)) := by
        rw [hP]
        show (alw (fl (told σ) _ (u * 5 * tT (told σ) + (a * tT (told σ) + r))) && !alw (fl (told σ) _ (u * 5 * tT (told σ) + (a * tT (told σ) + r)))) = _
        rw [fl_off, fl_at _ ha hr, fl_at _ ha hr]
      refine lb_isAllowed H4 (by decide) hw (Nat.le_refl _) hu ha hr ?_
      rw [HG4]
      refine b2i_go _ (fun q => next2 z ?_) (fun q => ?_)
      · show z = nI (cn P (a * tT (told σ) + r + 1))
        rw [hz, cn_f (by rw [eP, show alw (dec no0 (told σ) (σ.2 6) S' u a r) = false from q]; rfl)]
      · refine lb_isAllowed Ha (by decide) hw (Nat.le_refl _) hu ha hr ?_
        rw [HGa]
        refine b2i_go' _ (fun q3 => next2 (z + 1) ?_) (fun q3 => next2 z ?_)
        · show z + 1 = nI (cn P (a * tT (told σ) + r + 1))
          rw [hz, cn_t (by rw [eP, show alw (dec no0 (told σ) (σ.2 6) S' u a r) = true from q, show alw (dec no0 (told σ) (σ.2 6) ((told σ).1 2) u a r) = false from q3]; rfl), nI_1]
        · show z = nI (cn P (a * tT (told σ) + r + 1))
          rw [hz, cn_f (by rw [eP, show alw (dec no0 (told σ) (σ.2 6) ((told σ).1 2) u a r) = true from q3]; simp)]
