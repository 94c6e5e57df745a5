/-! ===== layer B: more questions ===== -/
theorem q_no1b {σ μ : gk_C} {o : Int64} (h : jI σ μ) : gk_z 0 ∧ (gk_s (gk_s μ 0 0) 0 1).2 0 = 1 ∧ ((1 : Int32) = 0 → (¬ (0 : Int32) = 0 → o = 1) ∧ ((0 : Int32) = 0 → o = 0)) ∧ jI σ (gk_s (gk_s μ 0 0) 0 1) := ⟨gk_z0, rfl, fun q => absurd q (by decide), h⟩
theorem wgh_eq {σ μ : gk_C} (h : jI σ μ) : (gk_s μ 0 0).2 2 = σ.2 6 := h.2.1.1.2.2.2.2.2.2.1
theorem q_why : ∀ (σ μ : gk_C) (o : Int64), jI σ μ → ∀ (a0 a1 a2 : Int32), w_L_why σ o a0 a1 a2 (fun k σ1 o1 => w_X9_why μ a0 a1 a2 (fun r μ1 => μ1.2 0 = k ∧ (k = 0 → o1 = r.toInt64) ∧ jI σ1 μ1)) := by
  intro σ μ o h a0 a1 a2
  have hw := h.1
  have hU := (wf_U hw).2
  unfold w_L_why w_X8_why
  refine lb_ask (T := told σ) rfl hw (fun hv => ⟨rfl, ?_⟩) (fun hv => ?_)
  · unfold w_X9_why
    refine lm_ask (T := told σ) (μ := gk_s μ 0 0) h.2.1 hw ?_
    rw [hv]
    exact ⟨fun q => absurd rfl q, fun _ => q_no1 h⟩
  · obtain ⟨u, a, r, hu, ha, hr, rfl, rfl, rfl⟩ := vA_ex hw hv
    refine lb_now (v := 0) (by decide) h (fun σ1 H HG HS hI => ?_)
    refine lb_reason H (by decide) hw (Nat.le_refl _) hu ha hr HG ?_
    unfold w_X9_why
    refine lm_ask (T := told σ) (μ := gk_s μ 0 0) h.2.1 hw ?_
    rw [hv]
    refine ⟨fun _ => ?_, fun q => absurd q (by decide)⟩
    refine lm_now h (Q := fun N r19 => w_X9_whyNow (gk_s μ 0 0) (nI u) (nI a) (nI r) N r19 _) (fun N hN => ?_)
    exact lm_whyNow (T := told σ) (μ := gk_s μ 0 0) h.2.1 hw (lo_m1 hw h.2.2.2.1) hN hu ha hr (wgh_eq h) ⟨rfl, fun _ => rfl, hI⟩
theorem q_isGood : ∀ (σ μ : gk_C) (o : Int64), jI σ μ → ∀ (a0 : Int32), w_L_isGood σ o a0 (fun k σ1 o1 => w_X9_isGood μ a0 (fun r μ1 => μ1.2 0 = k ∧ (k = 0 → (¬ r = 0 → o1 = 1) ∧ (r = 0 → o1 = 0)) ∧ jI σ1 μ1)) := by
  intro σ μ o h a0
  have hw := h.1
  have hG := (wf_G hw).2
  unfold w_L_isGood w_X8_isGood w_X8_checkThere
  refine lb_isGrant (T := told σ) rfl hw ?_
  refine b2i_go' _ (fun q1 => ⟨rfl, ?_⟩) (fun q1 => ?_)
  · unfold w_X9_isGood
    refine lm_isGrant (T := told σ) (μ := gk_s μ 0 0) h.2.1 hw ?_
    rw [q1]
    exact ⟨fun _ => q_no1b h, fun q => absurd rfl q⟩
  · obtain ⟨g, hg, rfl⟩ := vld_ex (by omega) q1
    refine lb_now (v := 0) (by decide) h (fun σ1 H HG HS hI => ?_)
    rw [lb_isIn _ (show g < 32 by omega), HG]
    refine ⟨b2i_z _, ?_⟩
    have fin : ∀ b : Bool, b = bt (gd no0 (told σ) (σ.2 6) ((told σ).1 2)) g → w_X9_isGood μ (nI g) (fun r μ1 => μ1.2 0 = 0 ∧ ((0 : Int32) = 0 → (¬ r = 0 → (if b = true then (1 : Int64) else 0) = 1) ∧ (r = 0 → (if b = true then (1 : Int64) else 0) = 0)) ∧ jI σ1 μ1) := fun b hb => by
      unfold w_X9_isGood
      refine lm_isGrant (T := told σ) (μ := gk_s μ 0 0) h.2.1 hw ?_
      rw [q1]
      refine ⟨fun q => absurd q (by decide), fun _ => ?_⟩
      refine lm_now h (Q := fun N r22 => ((((r22 >>> (nI g &&& 31)) &&& 1) = 0) → _) ∧ ((¬ ((r22 >>> (nI g &&& 31)) &&& 1) = 0) → _)) (fun N hN => ?_)
      rw [b_get _ (show g < 32 by omega), ← hb]
      cases b
      · exact ⟨fun _ => ⟨rfl, fun _ => ⟨fun q => absurd rfl q, fun _ => rfl⟩, hI⟩, fun q => absurd rfl q⟩
      · exact ⟨fun q => absurd q (by decide), fun _ => ⟨rfl, fun _ => ⟨fun _ => rfl, fun q => absurd q (by decide)⟩, hI⟩⟩
    refine b2i_go' _ (fun q => ?_) (fun q => ?_)
    · exact fin false q.symm
    · exact fin true q.symm
theorem q_matches : ∀ (σ μ : gk_C) (o : Int64), jI σ μ → ∀ (a0 a1 a2 a3 : Int32), w_L_matches σ o a0 a1 a2 a3 (fun k σ1 o1 => w_X9_matches μ a0 a1 a2 a3 (fun r μ1 => μ1.2 0 = k ∧ (k = 0 → (¬ r = 0 → o1 = 1) ∧ (r = 0 → o1 = 0)) ∧ jI σ1 μ1)) := by
  intro σ μ o h a0 a1 a2 a3
  have hw := h.1
  have hL := (wf_L hw).2
  have hU := (wf_U hw).2
  have hR := wf_R hw
  unfold w_L_matches w_X8_matches w_X8_checkThere
  have no : (vld (tL (told σ)) a0 && vA (told σ) a1 a2 a3) = false → w_X9_matches μ a0 a1 a2 a3 (fun r μ1 => μ1.2 0 = 1 ∧ ((1 : Int32) = 0 → (¬ r = 0 → o = 1) ∧ (r = 0 → o = 0)) ∧ jI σ μ1) := fun q => by
    have no2 : wJ_X9_matches_57 (fun r μ1 => μ1.2 0 = 1 ∧ ((1 : Int32) = 0 → (¬ r = 0 → o = 1) ∧ (r = 0 → o = 0)) ∧ jI σ μ1) (gk_s μ 0 0) := q_no1b h
    unfold w_X9_matches
    refine lm_isRule (T := told σ) (μ := gk_s μ 0 0) h.2.1 hw ?_
    refine b2i_go _ (fun _ => no2) (fun q1 => ?_)
    refine lm_ask (T := told σ) (μ := gk_s μ 0 0) h.2.1 hw ?_
    refine b2i_go _ (fun _ => no2) (fun q2 => ?_)
    rw [q1, q2] at q; cases q
  refine lb_isRule (T := told σ) rfl hw ?_
  refine b2i_go' _ (fun q1 => ⟨rfl, no (by rw [q1]; rfl)⟩) (fun q1 => ?_)
  refine lb_ask (T := told σ) rfl hw (fun hv => ⟨rfl, no (by rw [hv, Bool.and_false])⟩) (fun hv => ?_)
  obtain ⟨k, hk, rfl⟩ := vld_ex (by omega) q1
  obtain ⟨u, a, r, hu, ha, hr, rfl, rfl, rfl⟩ := vA_ex hw hv
  refine lb_now (v := 0) (by decide) h (fun σ1 H HG HS hI => ?_)
  refine lb_matching H (by decide) hw (Nat.le_refl _) hu ha hr ?_
  rw [lb_isIn _ (show k < 32 by omega), mb_b _ (by omega) (by omega), decide_eq_true hk, Bool.true_and]
  refine ⟨b2i_z _, ?_⟩
  have fin : ∀ b : Bool, b = mat no0 (told σ) u ((told σ).1 2 u) a r k → w_X9_matches μ (nI k) (nI u) (nI a) (nI r) (fun r μ1 => μ1.2 0 = 0 ∧ ((0 : Int32) = 0 → (¬ r = 0 → (if b = true then (1 : Int64) else 0) = 1) ∧ (r = 0 → (if b = true then (1 : Int64) else 0) = 0)) ∧ jI σ1 μ1) := fun b hb => by
    unfold w_X9_matches
    refine lm_isRule (T := told σ) (μ := gk_s μ 0 0) h.2.1 hw ?_
    rw [q1]
    refine ⟨fun q => absurd q (by decide), fun _ => ?_⟩
    refine lm_ask (T := told σ) (μ := gk_s μ 0 0) h.2.1 hw ?_
    rw [hv]
    refine ⟨fun q => absurd q (by decide), fun _ => ⟨vp_in' (by omega) (by decide), ?_⟩⟩
    rw [nI_clamp (show u < 2 ^ 31 by omega), show (gk_s μ 0 0).1 4 u = σ.1 2 u from (h.2.1.2.1 u (by omega)).2.2]
    unfold w_X9_nears
    refine lm_nears_ (T := told σ) (μ := gk_s μ 0 0) (h.2.1.1.2.1.trans hR.1) hR.2 h.2.1.2.2.2.1 (fun k hk i hi => hw.2.1.2 k hk i hi) (fun i hi => hw.2.1.1 u hu i hi) (fun f hf => ?_)
    refine lm_matching (T := told σ) (μ := gk_s μ 0 0) h.2.1 hw (lo_m1 hw h.2.2.2.1) hf hu ha hr ?_
    rw [b_get _ (show k < 32 by omega), mb_b _ (by omega) (by omega), decide_eq_true hk, Bool.true_and, ← hb]
    cases b
    · exact ⟨fun _ => ⟨rfl, fun _ => ⟨fun q => absurd rfl q, fun _ => rfl⟩, hI⟩, fun q => absurd rfl q⟩
    · exact ⟨fun q => absurd q (by decide), fun _ => ⟨rfl, fun _ => ⟨fun _ => rfl, fun q => absurd q (by decide)⟩, hI⟩⟩
  refine b2i_go' _ (fun q => ?_) (fun q => ?_)
  · exact fin false q.symm
  · exact fin true q.symm
theorem rul_rng (lo : Nat → Bool) (T : gk_C) (wgh : Int32) (u : Nat) (s : Int32) (a r : Nat) : ∃ n, n < 6 ∧ rul lo T wgh u s a r = nI n := by
  unfold rul
  by_cases h1 : lab T u a r = true
  · rw [if_pos h1]; exact ⟨4, by decide, rfl⟩
  · rw [if_neg h1]
    by_cases h2 : wal T u r = true
    · rw [if_pos h2]; exact ⟨5, by decide, rfl⟩
    · rw [if_neg h2]
      cases bs (mat lo T u s a r) (wt T wgh u s) (tL T) with
      | none => exact ⟨0, by decide, rfl⟩
      | some k =>
        unfold rulO
        by_cases h3 : T.1 11 k = 1
        · simp only [h3, if_true]; exact ⟨1, by decide, rfl⟩
        · simp only [h3, if_false]; exact ⟨2, by decide, rfl⟩
theorem dec_rng (lo : Nat → Bool) (T : gk_C) (wgh : Int32) (S : Nat → Int32) (u a r : Nat) : ∃ n, n < 6 ∧ dec lo T wgh S u a r = nI n := by
  unfold dec dcd
  by_cases h : rul lo T wgh u (S u) a r = 0 ∧ (gfr T (gd lo T wgh S) u a r).isSome = true
  · rw [if_pos h]; exact ⟨3, by decide, rfl⟩
  · rw [if_neg h]; exact rul_rng lo T wgh u (S u) a r
theorem jI_count (σ μ : gk_C) (d : Nat) (h : jI σ μ) (hd : d < 6) : jI (gk_r σ 38 (upd (σ.1 38) d (σ.1 38 d + 1))) (gk_r μ 33 (upd (μ.1 33) d (μ.1 33 d + 1))) := by
  obtain ⟨hw, hM, hx, h35, h33⟩ := h
  refine ⟨hw, hM, hx, h35, fun k hk => ?_⟩
  show upd (σ.1 38) d (σ.1 38 d + 1) k = upd (μ.1 33) d (μ.1 33 d + 1) k
  rw [h33 d hd]
  exact upE (n := 6) d _ h33 k hk
theorem jI_done (σ μ : gk_C) (i : Nat) (x : Int32) (h : jI σ μ) (hi : i < 288) : jI (gk_r σ 3 (upd (σ.1 3) i (σ.1 3 i ||| x))) (gk_r μ 34 (upd (μ.1 34) i (μ.1 34 i ||| x))) := by
  obtain ⟨hw, ⟨m1, m2, m3, mr⟩, hx, h35, h33⟩ := h
  refine ⟨hw, ⟨m1, m2, fun k hk => ?_, mr⟩, hx, h35, h33⟩
  show upd (μ.1 34) i (μ.1 34 i ||| x) k = upd (σ.1 3) i (σ.1 3 i ||| x) k
  rw [m3 i hi]
  exact upE (n := 288) i _ m3 k hk
theorem jI_acc (σ μ : gk_C) (d i : Nat) (x : Int32) (h : jI σ μ) (hd : d < 6) (hi : i < 288) : jI (gk_r (gk_r σ 3 (upd (σ.1 3) i (σ.1 3 i ||| x))) 38 (upd (σ.1 38) d (σ.1 38 d + 1))) (gk_r (gk_r μ 33 (upd (μ.1 33) d (μ.1 33 d + 1))) 34 (upd (μ.1 34) i (μ.1 34 i ||| x))) := by
  obtain ⟨hw, ⟨m1, m2, m3, mr⟩, hx, h35, h33⟩ := h
  refine ⟨hw, ⟨m1, m2, fun k hk => ?_, mr⟩, hx, h35, fun k hk => ?_⟩
  · show upd (μ.1 34) i (μ.1 34 i ||| x) k = upd (σ.1 3) i (σ.1 3 i ||| x) k
    rw [m3 i hi]
    exact upE (n := 288) i _ m3 k hk
  · show upd (σ.1 38) d (σ.1 38 d + 1) k = upd (μ.1 33) d (μ.1 33 d + 1) k
    rw [h33 d hd]
    exact upE (n := 6) d _ h33 k hk
theorem q_access : ∀ (σ μ : gk_C) (o : Int64), jI σ μ → ∀ (a0 a1 a2 : Int32), w_L_access σ o a0 a1 a2 (fun k σ1 o1 => w_X9_access μ a0 a1 a2 (fun r μ1 => μ1.2 0 = k ∧ (k = 0 → o1 = r.toInt64) ∧ jI σ1 μ1)) := by
  intro σ μ o h a0 a1 a2
  have hw := h.1
  have hU := (wf_U hw).2
  have hT := (wf_T hw).2.2
  unfold w_L_access w_X8_access
  refine lb_ask (T := told σ) rfl hw (fun hv => ⟨rfl, ?_⟩) (fun hv => ?_)
  · unfold w_X9_access
    refine lm_ask (T := told σ) (μ := gk_s μ 0 0) h.2.1 hw ?_
    rw [hv]
    exact ⟨fun q => absurd rfl q, fun _ => q_no1 h⟩
  · obtain ⟨u, a, r, hu, ha, hr, rfl, rfl, rfl⟩ := vA_ex hw hv
    refine lb_now (v := 0) (by decide) h (fun σ1 H HG HS hI => ?_)
    refine lb_decided H (by decide) hw (Nat.le_refl _) hu ha hr ?_
    rw [HG]
    obtain ⟨d, hd, hde⟩ := dec_rng no0 (told σ) (σ.2 6) ((told σ).1 2) u a r
    rw [show dcd (told σ) (gd no0 (told σ) (σ.2 6) ((told σ).1 2)) (rul no0 (told σ) (σ.2 6) u ((told σ).1 2 u) a r) u a r = nI d from hde]
    -- the reference, for any state of the gate that goes with it
    have main : ∀ σ2 : gk_C, (alw (nI d) = false → jI σ2 (gk_r (gk_s μ 0 0) 33 (upd ((gk_s μ 0 0).1 33) d ((gk_s μ 0 0).1 33 d + 1)))) → (alw (nI d) = true → jI σ2 (gk_r (gk_r (gk_s μ 0 0) 33 (upd ((gk_s μ 0 0).1 33) d ((gk_s μ 0 0).1 33 d + 1))) 34 (upd ((gk_r (gk_s μ 0 0) 33 (upd ((gk_s μ 0 0).1 33) d ((gk_s μ 0 0).1 33 d + 1))).1 34) (u * 24 + r) ((gk_r (gk_s μ 0 0) 33 (upd ((gk_s μ 0 0).1 33) d ((gk_s μ 0 0).1 33 d + 1))).1 34 (u * 24 + r) ||| (1 <<< (nI a &&& 31)))))) → w_X9_access μ (nI u) (nI a) (nI r) (fun r μ1 => μ1.2 0 = 0 ∧ ((0 : Int32) = 0 → (nI d).toInt64 = r.toInt64) ∧ jI σ2 μ1) := by
      intro σ2 h0 h1
      unfold w_X9_access
      refine lm_ask (T := told σ) (μ := gk_s μ 0 0) h.2.1 hw ?_
      rw [hv]
      refine ⟨fun _ => ?_, fun q => absurd q (by decide)⟩
      unfold w_X9_decideNow
      refine lm_now h (Q := fun N r19 => w_X9_decided (gk_s μ 0 0) (nI u) (nI a) (nI r) N r19 ((gk_s μ 0 0).2 2) _) (fun N hN => ?_)
      refine lm_decided (T := told σ) (μ := gk_s μ 0 0) h.2.1 hw (lo_m1 hw h.2.2.2.1) hN hu ha hr ?_
      rw [wgh_eq h, show dcd (told σ) (gd no0 (told σ) (σ.2 6) ((told σ).1 2)) (rul no0 (told σ) (σ.2 6) u ((told σ).1 2 u) a r) u a r = nI d from hde]
      refine ⟨vp_in' hd (by decide), vp_in' hd (by decide), ?_⟩
      rintro _ rfl
      rw [nI_clamp (show d < 2 ^ 31 by omega), mk_st_in _ 33 d _ (by omega)]
      unfold w_X9_isAllowed
      rw [show nI u * 24 + nI r = nI (u * 24 + r) from nI_ma u r 24, nI_clamp (show u * 24 + r < 2 ^ 31 by omega), mk_st_in _ 34 (u * 24 + r) _ (by omega)]
      refine dec_go (fun q1 => ⟨fun q2 => absurd q2 (by decide), fun _ => ⟨vp_in' (by omega) (by decide), vp_in' (by omega) (by decide), fun σ65 e => by subst e; exact ⟨rfl, fun _ => rfl, h1 (by unfold alw; rw [q1]; rfl)⟩⟩⟩) (fun q1 => ?_)
      refine dec_go' (fun q2 => ⟨fun q3 => absurd q3 (by decide), fun _ => ⟨vp_in' (by omega) (by decide), vp_in' (by omega) (by decide), fun σ65 e => by subst e; exact ⟨rfl, fun _ => rfl, h1 (by unfold alw; rw [q2]; simp)⟩⟩⟩) (fun q2 => ⟨fun _ => ⟨rfl, fun _ => rfl, h0 (by unfold alw; rw [q1, q2]; rfl)⟩, fun q => absurd rfl q⟩)
    have cnt : ∀ σ2 : gk_C, jI σ2 μ → gk_put σ2 38 (nI d) (gk_at σ2 38 (nI d) + 1) = gk_r σ2 38 (upd (σ2.1 38) d (σ2.1 38 d + 1)) := fun σ2 _ => by
      rw [gk_at_in (show d < gk_rl 38 from hd), gk_put_in σ2 38 d _ (show d < gk_rl 38 from hd) (by omega)]
    have not : alw (nI d) = false → wJ_X8_access_59 (fun E u_1 => (E = gk_E1 ∧ w_X9_access μ (nI u) (nI a) (nI r) (fun r μ1 => μ1.2 0 = 1 ∧ ((1 : Int32) = 0 → o = r.toInt64) ∧ jI u_1 μ1))) (fun r_1 u_1 => w_X9_access μ (nI u) (nI a) (nI r) (fun r μ1 => μ1.2 0 = 0 ∧ ((0 : Int32) = 0 → r_1.toInt64 = r.toInt64) ∧ jI u_1 μ1)) σ1 (nI d) := fun q => by
      unfold wJ_X8_access_59
      rw [cnt σ1 hI]
      exact main _ (fun _ => jI_count σ1 (gk_s μ 0 0) d hI hd) (fun q2 => by rw [q] at q2; cases q2)
    have yes : alw (nI d) = true → wJ_X8_access_46 (fun E u_1 => (E = gk_E1 ∧ w_X9_access μ (nI u) (nI a) (nI r) (fun r μ1 => μ1.2 0 = 1 ∧ ((1 : Int32) = 0 → o = r.toInt64) ∧ jI u_1 μ1))) (fun σ x4 => (wJ_X8_access_59 (fun E u_1 => (E = gk_E1 ∧ w_X9_access μ (nI u) (nI a) (nI r) (fun r μ1 => μ1.2 0 = 1 ∧ ((1 : Int32) = 0 → o = r.toInt64) ∧ jI u_1 μ1))) (fun r_1 u_1 => w_X9_access μ (nI u) (nI a) (nI r) (fun r μ1 => μ1.2 0 = 0 ∧ ((0 : Int32) = 0 → r_1.toInt64 = r.toInt64) ∧ jI u_1 μ1)) σ x4)) σ1 (nI u) (nI a) (nI r) (nI d) := fun q => by
      have hlt : u * 24 + r < gk_rl 3 := by show u * 24 + r < 288; omega
      have e3 : gk_put σ1 3 (nI u * 24 + nI r) (gk_at σ1 3 (nI u * 24 + nI r) ||| (1 <<< (nI a &&& 31))) = gk_r σ1 3 (upd (σ1.1 3) (u * 24 + r) (σ1.1 3 (u * 24 + r) ||| (1 <<< (nI a &&& 31)))) := by
        rw [show nI u * 24 + nI r = nI (u * 24 + r) from nI_ma u r 24, gk_at_in hlt, gk_put_in σ1 3 (u * 24 + r) _ hlt (by omega)]
      unfold wJ_X8_access_46 w_X6_note w_X6_doneOn wJ_X8_access_59
      show w_X9_access μ (nI u) (nI a) (nI r) (fun r_1 μ1 => μ1.2 0 = 0 ∧ ((0 : Int32) = 0 → (nI d).toInt64 = r_1.toInt64) ∧ jI (gk_put (gk_put σ1 3 (nI u * 24 + nI r) (gk_at σ1 3 (nI u * 24 + nI r) ||| (1 <<< (nI a &&& 31)))) 38 (nI d) (gk_at (gk_put σ1 3 (nI u * 24 + nI r) (gk_at σ1 3 (nI u * 24 + nI r) ||| (1 <<< (nI a &&& 31)))) 38 (nI d) + 1)) μ1)
      rw [e3]
      have e38 : (gk_r σ1 3 (upd (σ1.1 3) (u * 24 + r) (σ1.1 3 (u * 24 + r) ||| (1 <<< (nI a &&& 31))))).1 38 = σ1.1 38 := gr_ne _ _ (by decide)
      rw [gk_at_in (show d < gk_rl 38 from hd), gk_put_in _ 38 d _ (show d < gk_rl 38 from hd) (by omega), e38]
      refine main _ (fun q2 => by rw [q] at q2; cases q2) (fun _ => ?_)
      have e34 : (gk_r (gk_s μ 0 0) 33 (upd ((gk_s μ 0 0).1 33) d ((gk_s μ 0 0).1 33 d + 1))).1 34 = (gk_s μ 0 0).1 34 := gr_ne _ _ (by decide)
      rw [e34]
      exact jI_acc σ1 (gk_s μ 0 0) d (u * 24 + r) (1 <<< (nI a &&& 31)) hI hd hlt
    refine ⟨fun q => yes (by unfold alw; rw [decide_eq_true q]; rfl), fun q => ⟨fun q2 => not (by unfold alw; rw [decide_eq_false q, decide_eq_false q2]; rfl), fun q2 => yes (by unfold alw; rw [decide_eq_true q2]; simp)⟩⟩
