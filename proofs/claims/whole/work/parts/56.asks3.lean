/-! ===== layer B: who, reach, what would be ===== -/
theorem q_who : ∀ (σ μ : gk_C) (o : Int64), jI σ μ → ∀ (a0 a1 : Int32), w_L_who σ o a0 a1 (fun k σ1 o1 => w_X9_who μ a0 a1 (fun r μ1 => μ1.2 0 = k ∧ (k = 0 → o1 = r.toInt64) ∧ jI σ1 μ1)) := by
  intro σ μ o h a0 a1
  have hw := h.1
  have hT := (wf_T hw).2.2
  have hU := wf_U hw
  unfold w_L_who w_X8_who
  have no : (vld 5 a0 && vld (tT (told σ)) a1) = false → w_X9_who μ a0 a1 (fun r μ1 => μ1.2 0 = 1 ∧ ((1 : Int32) = 0 → o = r.toInt64) ∧ jI σ μ1) := fun q => by
    have no2 : wJ_X9_who_20 (fun r μ1 => μ1.2 0 = 1 ∧ ((1 : Int32) = 0 → o = r.toInt64) ∧ jI σ μ1) (gk_s μ 0 0) := q_no1 h
    unfold w_X9_who
    refine lm_isAction ?_
    refine b2i_go _ (fun _ => no2) (fun q1 => ?_)
    refine lm_isRes (T := told σ) (μ := gk_s μ 0 0) h.2.1 hw ?_
    refine b2i_go' _ (fun _ => no2) (fun q2 => ?_)
    rw [q1, q2] at q; cases q
  refine lb_isAction ?_
  refine b2i_go _ (fun q1 => ⟨fun q2 => absurd rfl q2, fun _ => ⟨rfl, no (by rw [q1]; rfl)⟩⟩) (fun q1 => ?_)
  refine lb_isRes (T := told σ) rfl hw ?_
  refine b2i_go _ (fun q2 => ⟨fun q2 => absurd rfl q2, fun _ => ⟨rfl, no (by rw [q2, Bool.and_false])⟩⟩) (fun q2 => ⟨fun _ => ?_, fun q => absurd q (by decide)⟩)
  obtain ⟨a, ha, rfl⟩ := vld_ex (by omega) q1
  obtain ⟨r, hr, rfl⟩ := vld_ex (by omega) q2
  refine lb_now (v := 0) (by decide) h (fun σ1 H HG HS hI => ?_)
  have fin : w_X9_who μ (nI a) (nI r) (fun r_1 μ1 => μ1.2 0 = 0 ∧ ((0 : Int32) = 0 → (mb (fun u => alw (dec no0 (told σ) (σ.2 6) ((told σ).1 2) u a r)) (tU (told σ))).toInt64 = r_1.toInt64) ∧ jI σ1 μ1) := by
    unfold w_X9_who
    refine lm_isAction ?_
    rw [q1]
    refine ⟨fun q => absurd q (by decide), fun _ => ?_⟩
    refine lm_isRes (T := told σ) (μ := gk_s μ 0 0) h.2.1 hw ?_
    rw [q2]
    refine ⟨fun _ => ?_, fun q => absurd q (by decide)⟩
    refine lm_now h (Q := fun N r37 => ∃ n48, wL_X9_who_48 _ n48 (gk_s μ 0 0) (nI a) (nI r) r37 0 0 N) (fun N hN => ?_)
    have hn : (gk_s μ 0 0).2 3 = nI (tU (told σ)) := h.2.1.1.1.trans hU.1
    have l := lpUp (A := Int32) (n := tU (told σ)) (W := fun f u z => wL_X9_who_48 (fun r_1 μ1 => μ1.2 0 = 0 ∧ ((0 : Int32) = 0 → (mb (fun u => alw (dec no0 (told σ) (σ.2 6) ((told σ).1 2) u a r)) (tU (told σ))).toInt64 = r_1.toInt64) ∧ jI σ1 μ1) f (gk_s μ 0 0) (nI a) (nI r) (gd no0 (told σ) (σ.2 6) ((told σ).1 2)) z (nI u) N) (J := fun u z => z = mb (fun u => alw (dec no0 (told σ) (σ.2 6) ((told σ).1 2) u a r)) u) ?_ ?_ (tU (told σ)) 0 0 (Nat.zero_add _) rfl
    · exact ⟨_, l⟩
    · intro f z hz
      unfold wL_X9_who_48
      rw [hn]
      exact ⟨fun _ => ⟨rfl, fun _ => by rw [hz], hI⟩, fun q => absurd (nI_le (Nat.le_refl _) (by omega)) q⟩
    · intro f u z hu hz next
      unfold wL_X9_who_48
      rw [hn]
      refine ⟨fun q => absurd q (nI_ge hu (by omega)), fun _ => ?_⟩
      refine lm_decided (T := told σ) (μ := gk_s μ 0 0) h.2.1 hw (lo_m1 hw h.2.2.2.1) hN hu ha hr ?_
      rw [wgh_eq h]
      refine lm_isAllowed ?_
      refine b2i_go _ (fun q => ?_) (fun q => ?_)
      · unfold wJ_X9_who_88
        rw [nI_1 u, show z ||| 0 = z from b_ext (fun i _ => by rw [b_or, b_0, Bool.or_false])]
        exact next z (by rw [hz, mb_f (P := fun u => alw (dec no0 (told σ) (σ.2 6) ((told σ).1 2) u a r)) q])
      · unfold wJ_X9_who_88
        rw [nI_1 u]
        exact next _ (by rw [hz, mb_t (P := fun u => alw (dec no0 (told σ) (σ.2 6) ((told σ).1 2) u a r)) q])
  have hn : σ1.2 0 = nI (tU (told σ)) := (ts H.1 (by decide)).trans hU.1
  have l := lpUp (A := Int32) (n := tU (told σ)) (W := fun f u z => wL_X8_who_43 (fun E u => (E = gk_E1 ∧ w_X9_who μ (nI a) (nI r) (fun r μ1 => μ1.2 0 = 1 ∧ ((1 : Int32) = 0 → o = r.toInt64) ∧ jI u μ1))) (fun r1 u => w_X9_who μ (nI a) (nI r) (fun r μ1 => μ1.2 0 = 0 ∧ ((0 : Int32) = 0 → r1.toInt64 = r.toInt64) ∧ jI u μ1)) f σ1 (nI a) (nI r) z (nI u)) (J := fun u z => z = mb (fun u => alw (dec no0 (told σ) (σ.2 6) ((told σ).1 2) u a r)) u) ?_ ?_ (tU (told σ)) 0 0 (Nat.zero_add _) rfl
  · exact ⟨_, l⟩
  · intro f z hz
    unfold wL_X8_who_43
    rw [hn]
    exact ⟨fun _ => by rw [hz]; exact fin, fun q => absurd (nI_le (Nat.le_refl _) (by omega)) q⟩
  · intro f u z hu hz next
    unfold wL_X8_who_43
    rw [hn, nI_1 u]
    refine ⟨fun q => absurd q (nI_ge hu (by omega)), fun _ => ?_⟩
    refine lb_isAllowed H (by decide) hw (Nat.le_refl _) hu ha hr ?_
    rw [HG]
    refine b2i_go _ (fun q => next z ?_) (fun q => next _ ?_)
    · rw [hz, mb_f (P := fun u => alw (dec no0 (told σ) (σ.2 6) ((told σ).1 2) u a r)) q]
    · rw [hz, mb_t (P := fun u => alw (dec no0 (told σ) (σ.2 6) ((told σ).1 2) u a r)) q]
theorem q_reach : ∀ (σ μ : gk_C) (o : Int64), jI σ μ → ∀ (a0 a1 : Int32), w_L_reach σ o a0 a1 (fun k σ1 o1 => w_X9_reach μ a0 a1 (fun r μ1 => μ1.2 0 = k ∧ (k = 0 → o1 = r.toInt64) ∧ jI σ1 μ1)) := by
  intro σ μ o h a0 a1
  have hw := h.1
  have hT := wf_T hw
  have hU := wf_U hw
  unfold w_L_reach w_X8_reach
  have no : (vld (tU (told σ)) a0 && vld 5 a1) = false → w_X9_reach μ a0 a1 (fun r μ1 => μ1.2 0 = 1 ∧ ((1 : Int32) = 0 → o = r.toInt64) ∧ jI σ μ1) := fun q => by
    have no2 : wJ_X9_reach_20 (fun r μ1 => μ1.2 0 = 1 ∧ ((1 : Int32) = 0 → o = r.toInt64) ∧ jI σ μ1) (gk_s μ 0 0) := q_no1 h
    unfold w_X9_reach
    refine lm_isUser (T := told σ) (μ := gk_s μ 0 0) h.2.1 hw ?_
    refine b2i_go _ (fun _ => no2) (fun q1 => ?_)
    refine lm_isAction ?_
    refine b2i_go' _ (fun _ => no2) (fun q2 => ?_)
    rw [q1, q2] at q; cases q
  refine lb_isUser (T := told σ) rfl hw ?_
  refine b2i_go _ (fun q1 => ⟨fun q2 => absurd rfl q2, fun _ => ⟨rfl, no (by rw [q1]; rfl)⟩⟩) (fun q1 => ?_)
  refine lb_isAction ?_
  refine b2i_go _ (fun q2 => ⟨fun q2 => absurd rfl q2, fun _ => ⟨rfl, no (by rw [q2, Bool.and_false])⟩⟩) (fun q2 => ⟨fun _ => ?_, fun q => absurd q (by decide)⟩)
  obtain ⟨u, hu, rfl⟩ := vld_ex (by omega) q1
  obtain ⟨a, ha, rfl⟩ := vld_ex (by omega) q2
  refine lb_now (v := 0) (by decide) h (fun σ1 H HG HS hI => ?_)
  refine lb_allowedTo H (by decide) hw (Nat.le_refl _) hu ha ?_
  rw [HG]
  have e : cn (fun r => alw (dcd (told σ) (gd no0 (told σ) (σ.2 6) ((told σ).1 2)) (rul no0 (told σ) (σ.2 6) u ((told σ).1 2 u) a r) u a r)) (tT (told σ)) = cn (fun r => alw (dec no0 (told σ) (σ.2 6) ((told σ).1 2) u a r)) (tT (told σ)) := rfl
  rw [e]
  unfold w_X9_reach
  refine lm_isUser (T := told σ) (μ := gk_s μ 0 0) h.2.1 hw ?_
  rw [q1]
  refine ⟨fun q => absurd q (by decide), fun _ => ?_⟩
  refine lm_isAction ?_
  rw [q2]
  refine ⟨fun _ => ?_, fun q => absurd q (by decide)⟩
  refine lm_now h (Q := fun N r37 => ∃ n48, wL_X9_reach_48 _ n48 (gk_s μ 0 0) (nI u) (nI a) r37 0 0 N) (fun N hN => ?_)
  have hn : (gk_s μ 0 0).2 11 = nI (tT (told σ)) := h.2.1.1.2.2.2.1.trans hT.1
  have l := lpUp (A := Int32) (n := tT (told σ)) (W := fun f r z => wL_X9_reach_48 (fun r_1 μ1 => μ1.2 0 = 0 ∧ ((0 : Int32) = 0 → (nI (cn (fun r => alw (dec no0 (told σ) (σ.2 6) ((told σ).1 2) u a r)) (tT (told σ)))).toInt64 = r_1.toInt64) ∧ jI σ1 μ1) f (gk_s μ 0 0) (nI u) (nI a) (gd no0 (told σ) (σ.2 6) ((told σ).1 2)) z (nI r) N) (J := fun r z => z = nI (cn (fun r => alw (dec no0 (told σ) (σ.2 6) ((told σ).1 2) u a r)) r)) ?_ ?_ (tT (told σ)) 0 0 (Nat.zero_add _) rfl
  · exact ⟨_, l⟩
  · intro f z hz
    unfold wL_X9_reach_48
    rw [hn]
    exact ⟨fun _ => ⟨rfl, fun _ => by rw [hz], hI⟩, fun q => absurd (nI_le (Nat.le_refl _) (by omega)) q⟩
  · intro f r z hr hz next
    unfold wL_X9_reach_48
    rw [hn]
    refine ⟨fun q => absurd q (nI_ge hr (by omega)), fun _ => ?_⟩
    refine lm_decided (T := told σ) (μ := gk_s μ 0 0) h.2.1 hw (lo_m1 hw h.2.2.2.1) hN hu ha hr ?_
    rw [wgh_eq h]
    refine lm_isAllowed ?_
    refine b2i_go _ (fun q => ?_) (fun q => ?_)
    · unfold wJ_X9_reach_85
      rw [nI_1 r, Int32.add_zero]
      exact next z (by rw [hz, cn_f (P := fun r => alw (dec no0 (told σ) (σ.2 6) ((told σ).1 2) u a r)) q])
    · unfold wJ_X9_reach_85
      rw [nI_1 r]
      exact next _ (by rw [hz, nI_1, cn_t (P := fun r => alw (dec no0 (told σ) (σ.2 6) ((told σ).1 2) u a r)) q])
theorem cn_0 {P : Nat → Bool} {n : Nat} : decide (nI (cn P n) = 0) = true ∨ decide (nI (cn P n) = 0) = false := by
  cases decide (nI (cn P n) = 0) <;> simp
theorem q_wouldDiffer : ∀ (σ μ : gk_C) (o : Int64), jI σ μ → ∀ (a0 : Int32), w_L_wouldDiffer σ o a0 (fun k σ1 o1 => w_X9_wouldDiffer μ a0 (fun r μ1 => μ1.2 0 = k ∧ (k = 0 → o1 = r.toInt64) ∧ jI σ1 μ1)) := by
  intro σ μ o h a0
  have hw := h.1
  unfold w_L_wouldDiffer w_X8_wouldDiffer w_X8_isUpTo w_X8_checkArguments
  have no : (a0 < 0 ∨ 3 < a0) → w_X9_wouldDiffer μ a0 (fun r μ1 => μ1.2 0 = 1 ∧ ((1 : Int32) = 0 → o = r.toInt64) ∧ jI σ μ1) := fun q => by
    unfold w_X9_wouldDiffer w_X9_isIn
    refine ⟨fun _ => ⟨fun q2 => absurd rfl q2, fun _ => q_no1 h⟩, fun q1 => ⟨fun _ => ⟨fun q2 => absurd rfl q2, fun _ => q_no1 h⟩, fun q2 => ?_⟩⟩
    rcases q with q | q
    · exact absurd q q1
    · exact absurd q q2
  refine ⟨fun q => ⟨fun q2 => absurd rfl q2, fun _ => ⟨rfl, no (Or.inl q)⟩⟩, fun q1 => ⟨fun q => ⟨fun q2 => absurd rfl q2, fun _ => ⟨rfl, no (Or.inr q)⟩⟩, fun q2 => ⟨fun _ => ?_, fun q => absurd q (by decide)⟩⟩⟩
  refine lb_now (v := 0) (by decide) h (fun σ1 H HG HS hI => ?_)
  refine lb_look (v := 1) (T := told σ) (lo := no0) H.1 (by decide) hw b0_lo (fun σ2 H2 HG2 HS2 => ?_)
  have hI2 : jI σ2 μ := jI_sV hI (by decide) HS2
  have H1 : vw 0 no0 (told σ) (σ.2 6) ((told σ).1 2) (tU (told σ)) σ2 := vw_other H (by omega) HS2
  have HG1 : σ2.2 (11 + 4 * 0) = gd no0 (told σ) (σ.2 6) ((told σ).1 2) := (HS2.2 _ (by omega)).trans HG
  refine lb_diff H1 H2 hw HG1 HG2 ?_
  unfold w_X9_wouldDiffer w_X9_isIn
  refine ⟨fun q => absurd q q1, fun _ => ⟨fun q => absurd q q2, fun _ => ⟨fun _ => ?_, fun q => absurd q (by decide)⟩⟩⟩
  refine lm_allNears (T := told σ) (μ := gk_s μ 0 0) h.2.1 hw (fun N hN => ?_)
  rw [wgh_eq h]
  refine lm_table (T := told σ) (μ := gk_s μ 0 0) h.2.1 hw (lo_m1 hw h.2.2.2.1) hN (fun f1 hf1 => ?_)
  refine lm_table (T := told σ) (μ := gk_s μ 0 0) h.2.1 hw (lo_m1 hw h.2.2.2.1) hN (fun f2 hf2 => ?_)
  refine lm_diff (fl_1440 hw) ⟨rfl, fun _ => ?_, hI2⟩
  rw [cn_congr (R := fun j => !decide (f1 j = f2 j)) (fun j hj => by rw [hf1 j hj, hf2 j hj])]
theorem q_isIdle : ∀ (σ μ : gk_C) (o : Int64), jI σ μ → ∀ (a0 : Int32), w_L_isIdle σ o a0 (fun k σ1 o1 => w_X9_isIdle μ a0 (fun r μ1 => μ1.2 0 = k ∧ (k = 0 → (¬ r = 0 → o1 = 1) ∧ (r = 0 → o1 = 0)) ∧ jI σ1 μ1)) := by
  intro σ μ o h a0
  have hw := h.1
  have hL := (wf_L hw).2
  unfold w_L_isIdle w_X8_isIdle w_X8_checkThere
  refine lb_isRule (T := told σ) rfl hw ?_
  refine b2i_go' _ (fun q1 => ⟨rfl, ?_⟩) (fun q1 => ?_)
  · unfold w_X9_isIdle
    refine lm_isRule (T := told σ) (μ := gk_s μ 0 0) h.2.1 hw ?_
    rw [q1]
    exact ⟨fun q => absurd rfl q, fun _ => q_no1b h⟩
  · obtain ⟨kr, hkr, rfl⟩ := vld_ex (by omega) q1
    refine lb_now (v := 0) (by decide) h (fun σ1 H HG HS hI => ?_)
    have hlo : ∀ k, k < tL (told σ) → bt (1 <<< (nI kr &&& 31)) k = decide (k = kr) := fun k hk => b_bit (by omega) (by omega)
    refine lb_look (v := 1) (T := told σ) (lo := fun k => decide (k = kr)) H.1 (by decide) hw hlo (fun σ2 H2 HG2 HS2 => ?_)
    have hI2 : jI σ2 μ := jI_sV hI (by decide) HS2
    have H1 : vw 0 no0 (told σ) (σ.2 6) ((told σ).1 2) (tU (told σ)) σ2 := vw_other H (by omega) HS2
    have HG1 : σ2.2 (11 + 4 * 0) = gd no0 (told σ) (σ.2 6) ((told σ).1 2) := (HS2.2 _ (by omega)).trans HG
    refine lb_diff H1 H2 hw HG1 HG2 ?_
    have e6 : σ1.2 6 = σ.2 6 := HS.2 6 (by omega)
    rw [e6]
    have fin : ∀ b : Bool, b = decide (nI (cn (fun j => !decide (fl (told σ) (dec no0 (told σ) (σ.2 6) ((told σ).1 2)) j = fl (told σ) (dec (fun k => decide (k = kr)) (told σ) (σ.2 6) ((told σ).1 2)) j)) (tU (told σ) * 5 * tT (told σ))) = 0) → w_X9_isIdle μ (nI kr) (fun r μ1 => μ1.2 0 = 0 ∧ ((0 : Int32) = 0 → (¬ r = 0 → (if b = true then (1 : Int64) else 0) = 1) ∧ (r = 0 → (if b = true then (1 : Int64) else 0) = 0)) ∧ jI σ2 μ1) := fun b hb => by
      unfold w_X9_isIdle
      refine lm_isRule (T := told σ) (μ := gk_s μ 0 0) h.2.1 hw ?_
      rw [q1]
      refine ⟨fun _ => ?_, fun q => absurd q (by decide)⟩
      refine lm_allNears (T := told σ) (μ := gk_s μ 0 0) h.2.1 hw (fun N hN => ?_)
      rw [show (gk_s (gk_s μ 0 0) 35 (nI kr)).2 2 = σ.2 6 from wgh_eq h, wgh_eq h]
      refine lm_table (T := told σ) (μ := gk_s μ 0 0) h.2.1 hw (lo_m1 hw h.2.2.2.1) hN (fun f1 hf1 => ?_)
      have hlo2 : ∀ k, k < tL (told σ) → decide (nI k = (gk_s (gk_s μ 0 0) 35 (nI kr)).2 35) = (fun k => decide (k = kr)) k := fun k hk => by
        rw [gs_at, decide_eq_decide, nI_eq (by omega) (by omega)]
      refine lm_table (T := told σ) (μ := gk_s (gk_s μ 0 0) 35 (nI kr)) h.2.1 hw hlo2 hN (fun f2 hf2 => ?_)
      refine lm_diff (fl_1440 hw) ?_
      rw [cn_congr (R := fun j => !decide (fl (told σ) (dec no0 (told σ) (σ.2 6) ((told σ).1 2)) j = fl (told σ) (dec (fun k => decide (k = kr)) (told σ) (σ.2 6) ((told σ).1 2)) j)) (fun j hj => by rw [hf1 j hj, hf2 j hj])]
      have hI3 : jI σ2 (gk_s (gk_s (gk_s μ 0 0) 35 (nI kr)) 35 (-1)) := ⟨hI2.1, hI2.2.1, hI2.2.2.1, rfl, hI2.2.2.2.2⟩
      refine dec_go' (fun q => ?_) (fun q => ?_)
      · rw [hb, q]
        exact ⟨rfl, fun _ => ⟨fun _ => rfl, fun q => absurd q (by decide)⟩, hI3⟩
      · rw [hb, q]
        exact ⟨rfl, fun _ => ⟨fun q => absurd rfl q, fun _ => rfl⟩, hI3⟩
    refine dec_go' (fun q => ?_) (fun q => ?_)
    · exact ⟨fun _ => fin true q.symm, fun q => absurd q (by decide)⟩
    · exact ⟨fun q => absurd rfl q, fun _ => fin false q.symm⟩
