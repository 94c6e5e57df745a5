/-! ===== layer B: rules added and dropped ===== -/
theorem jI_addRul (σ μ : gk_C) (n r : Nat) (al w ac : Int32) (h : jI σ μ) (hn : n < 30) (hs : σ.2 4 = nI n) (hal : al = 0 ∨ al = 1) (hwho : (∃ u, u < tU (told σ) ∧ w = nI u) ∨ ∃ r, r < tR (told σ) ∧ w = nI (12 + r)) (hr : r < tT (told σ)) :
    jI (gk_s (gk_r (gk_r (gk_r (gk_r (gk_r (gk_r (gk_r (gk_r (gk_r σ 11 (upd (σ.1 11) n al)) 12 (upd (σ.1 12) n w)) 13 (upd (σ.1 13) n ac)) 14 (upd (σ.1 14) n (nI r))) 15 (upd (σ.1 15) n 0)) 16 (upd (σ.1 16) n 0)) 17 (upd (σ.1 17) n 0)) 18 (upd (σ.1 18) n 0)) 19 (upd (σ.1 19) n 23)) 4 (nI (n + 1)))
      (gk_s (gk_r (gk_r (gk_r (gk_r (gk_r (gk_r (gk_r (gk_r (gk_r μ 17 (upd (μ.1 17) n al)) 19 (upd (μ.1 19) n w)) 20 (upd (μ.1 20) n ac)) 21 (upd (μ.1 21) n (nI r))) 18 (upd (μ.1 18) n 0)) 22 (upd (μ.1 22) n 0)) 23 (upd (μ.1 23) n 0)) 24 (upd (μ.1 24) n 0)) 25 (upd (μ.1 25) n 23)) 16 (nI (n + 1))) := by
  obtain ⟨⟨⟨w1, w2, w3, w4, w5, w6⟩, ws, wt', ww, wr, wg⟩, ⟨⟨m1, m2, m3, m4, m5, m6, m7⟩, mu, md, mh, ml, mp, mr, mg⟩, hx, h35, h33⟩ := h
  have e0 : tL (told σ) = n := num_eq hs (by omega)
  have e1 : tL (told (gk_s (gk_r (gk_r (gk_r (gk_r (gk_r (gk_r (gk_r (gk_r (gk_r σ 11 (upd (σ.1 11) n al)) 12 (upd (σ.1 12) n w)) 13 (upd (σ.1 13) n ac)) 14 (upd (σ.1 14) n (nI r))) 15 (upd (σ.1 15) n 0)) 16 (upd (σ.1 16) n 0)) 17 (upd (σ.1 17) n 0)) 18 (upd (σ.1 18) n 0)) 19 (upd (σ.1 19) n 23)) 4 (nI (n + 1)))) = n + 1 := num_eq (x := nI (n + 1)) rfl (by omega)
  refine ⟨⟨⟨w1, w2, w3, w4, ⟨n + 1, by omega, by omega, rfl⟩, w6⟩, ws, wt', ww, fun k hk => ?_, wg⟩, ⟨⟨m1, m2, m3, m4, rfl, m6, m7⟩, mu, md, mh, ml, mp, fun k hk => ?_, mg⟩, hx, h35, h33⟩
  · rw [e1] at hk
    show (upd (σ.1 11) n al k = 0 ∨ upd (σ.1 11) n al k = 1) ∧ (upd (σ.1 15) n 0 k = 0 ∨ upd (σ.1 15) n 0 k = 1) ∧ ((∃ u, u < tU (told σ) ∧ upd (σ.1 12) n w k = nI u) ∨ ∃ r, r < tR (told σ) ∧ upd (σ.1 12) n w k = nI (12 + r)) ∧ (∃ r', r' < tT (told σ) ∧ upd (σ.1 14) n (nI r) k = nI r') ∧ jN (upd (σ.1 16) n 0 k) 0 9
    by_cases e : k = n
    · rw [e]
      simp only [up_at]
      exact ⟨hal, Or.inl trivial, hwho, ⟨r, hr, rfl⟩, ⟨0, by omega, by omega, rfl⟩⟩
    · simp only [up_ne _ _ e]
      exact wr k (by omega)
  · rw [e1] at hk
    show upd (μ.1 17) n al k = upd (σ.1 11) n al k ∧ upd (μ.1 19) n w k = upd (σ.1 12) n w k ∧ upd (μ.1 20) n ac k = upd (σ.1 13) n ac k ∧ upd (μ.1 21) n (nI r) k = upd (σ.1 14) n (nI r) k ∧ upd (μ.1 18) n 0 k = upd (σ.1 15) n 0 k ∧ upd (μ.1 22) n 0 k = upd (σ.1 16) n 0 k ∧ upd (μ.1 23) n 0 k = upd (σ.1 17) n 0 k ∧ upd (μ.1 24) n 0 k = upd (σ.1 18) n 0 k ∧ upd (μ.1 25) n 23 k = upd (σ.1 19) n 23 k
    by_cases e : k = n
    · rw [e]
      simp only [up_at]
      exact ⟨trivial, trivial, trivial, trivial, trivial, trivial, trivial, trivial, trivial⟩
    · simp only [up_ne _ _ e]
      exact mr k (by omega)
def vW (T : gk_C) (a1 a3 : Int32) : Bool := (if a1 < 12 then vld (tU T) a1 else vld (tR T) (a1 - 12)) && vld (tT T) a3
theorem vW_ex {T : gk_C} (hw : wf T) {a1 a3 : Int32} (h : vW T a1 a3 = true) : ((∃ u, u < tU T ∧ a1 = nI u) ∨ ∃ r, r < tR T ∧ a1 = nI (12 + r)) ∧ ∃ r, r < tT T ∧ a3 = nI r := by
  unfold vW at h
  rw [Bool.and_eq_true] at h
  have hU := (wf_U hw).2
  have hT := (wf_T hw).2.2
  have hR := (wf_R hw).2
  refine ⟨?_, vld_ex (by omega) h.2⟩
  by_cases c : a1 < 12
  · rw [if_pos c] at h
    exact Or.inl (vld_ex (by omega) h.1)
  · rw [if_neg c] at h
    obtain ⟨r, h1, h2⟩ := vld_ex (by omega) h.1
    refine Or.inr ⟨r, h1, ?_⟩
    have e : a1 = (a1 - 12) + 12 := (Int32.sub_add_cancel _ _).symm
    rw [e, h2, show nI r + 12 = nI (r + 12) from nI_add r 12, Nat.add_comm]
theorem lm_addRule {σ μ : gk_C} (h : jI σ μ) {a0 a1 a2 a3 : Int32} (h01 : a0 = 0 ∨ a0 = 1) {Q : Int32 → gk_C → Prop}
    (h1 : vW (told σ) a1 a3 = false → Q 0 (gk_s (gk_s μ 0 0) 0 1))
    (h2 : vW (told σ) a1 a3 = true → (a2 < 1 ∨ 31 < a2) → Q 0 (gk_s (gk_s μ 0 0) 0 2))
    (h3 : vW (told σ) a1 a3 = true → ¬ a2 < 1 → ¬ 31 < a2 →
      ((μ.2 16 = 30 → Q 0 (gk_s (gk_s μ 0 0) 0 3)) ∧ (¬ μ.2 16 = 30 → vp_in (μ.2 16) 30 ∧ Q (μ.2 16) (gk_s (gk_r (gk_r (gk_r (gk_r (gk_r (gk_r (gk_r (gk_r (gk_r (gk_s μ 0 0) 17 (upd (μ.1 17) (nt (μ.2 16)) a0)) 19 (upd (μ.1 19) (nt (μ.2 16)) a1)) 20 (upd (μ.1 20) (nt (μ.2 16)) a2)) 21 (upd (μ.1 21) (nt (μ.2 16)) a3)) 18 (upd (μ.1 18) (nt (μ.2 16)) 0)) 22 (upd (μ.1 22) (nt (μ.2 16)) 0)) 23 (upd (μ.1 23) (nt (μ.2 16)) 0)) 24 (upd (μ.1 24) (nt (μ.2 16)) 0)) 25 (upd (μ.1 25) (nt (μ.2 16)) 23)) 16 (μ.2 16 + 1))))) : w_X9_addRule μ a0 a1 a2 a3 Q := by
  have hw := h.1
  have n43 : vW (told σ) a1 a3 = false → wJ_X9_addRule_43 Q (gk_s μ 0 0) := h1
  have j27 : ∀ b : Bool, b = (if a1 < 12 then vld (tU (told σ)) a1 else vld (tR (told σ)) (a1 - 12)) → wJ_X9_addRule_27 Q (gk_s μ 0 0) a0 a1 a2 a3 (b2i b) := fun b hb => by
    unfold wJ_X9_addRule_27
    refine b2i_go _ (fun q => n43 (by unfold vW; rw [← hb, q]; rfl)) (fun q1 => ?_)
    refine lm_isRes (T := told σ) (μ := gk_s μ 0 0) h.2.1 hw ?_
    refine b2i_go' _ (fun q => n43 (by unfold vW; rw [q, Bool.and_false])) (fun q2 => ?_)
    have hv : vW (told σ) a1 a3 = true := by unfold vW; rw [← hb, q1, q2]; rfl
    unfold w_X9_isIn
    refine ⟨fun q => ⟨fun q3 => absurd rfl q3, fun _ => h2 hv (Or.inl q)⟩, fun c1 => ⟨fun q => ⟨fun q3 => absurd rfl q3, fun _ => h2 hv (Or.inr q)⟩, fun c2 => ⟨fun _ => ?_, fun q => absurd q (by decide)⟩⟩⟩
    obtain ⟨k1, k2⟩ := h3 hv c1 c2
    refine ⟨fun q => ?_, fun q => k1 q⟩
    obtain ⟨hvp, hq⟩ := k2 q
    rw [nar_b h01, lo_nar0]
    refine ⟨hvp, ?_⟩
    rintro _ rfl
    refine ⟨hvp, ?_⟩
    rintro _ rfl
    refine ⟨hvp, ?_⟩
    rintro _ rfl
    refine ⟨hvp, ?_⟩
    rintro _ rfl
    refine ⟨hvp, ?_⟩
    rintro _ rfl
    refine ⟨hvp, ?_⟩
    rintro _ rfl
    refine ⟨hvp, ?_⟩
    rintro _ rfl
    refine ⟨hvp, ?_⟩
    rintro _ rfl
    refine ⟨hvp, ?_⟩
    rintro _ rfl
    exact hq
  unfold w_X9_addRule
  refine ⟨fun c => ?_, fun c => ?_⟩
  · exact lm_isUser (T := told σ) (μ := gk_s μ 0 0) h.2.1 hw (j27 _ (by rw [if_pos c]))
  · exact lm_isRole (T := told σ) (μ := gk_s μ 0 0) h.2.1 hw (j27 _ (by rw [if_neg c]))
theorem q_addRule : ∀ (σ μ : gk_C) (o : Int64), jI σ μ → ∀ (a0 a1 a2 a3 : Int32), (a0 = 0 ∨ a0 = 1) → w_L_addRule σ o a0 a1 a2 a3 (fun k σ1 o1 => w_X9_addRule μ a0 a1 a2 a3 (fun r μ1 => μ1.2 0 = k ∧ (k = 0 → o1 = r.toInt64) ∧ jI σ1 μ1)) := by
  intro σ μ o h a0 a1 a2 a3 h01
  have hw := h.1
  have hL := wf_L hw
  have hs : σ.2 4 = nI (tL (told σ)) := hL.1
  have hm : μ.2 16 = nI (tL (told σ)) := h.2.1.1.2.2.2.2.1.trans hL.1
  unfold w_L_addRule w_X8_addRule
  have n1 : vW (told σ) a1 a3 = false → w_X9_addRule μ a0 a1 a2 a3 (fun r μ1 => μ1.2 0 = 1 ∧ ((1 : Int32) = 0 → o = r.toInt64) ∧ jI σ μ1) := fun q => lm_addRule h h01 (fun _ => ⟨rfl, fun q => absurd q (by decide), h⟩) (fun q2 => by rw [q] at q2; cases q2) (fun q2 => by rw [q] at q2; cases q2)
  have j42 : vW (told σ) a1 a3 = true → wJ_X8_addRule_42 (fun E u => (E = gk_E1 ∧ w_X9_addRule μ a0 a1 a2 a3 (fun r μ1 => μ1.2 0 = 1 ∧ ((1 : Int32) = 0 → o = r.toInt64) ∧ jI u μ1)) ∨ (E = gk_E2 ∧ w_X9_addRule μ a0 a1 a2 a3 (fun r μ1 => μ1.2 0 = 2 ∧ ((2 : Int32) = 0 → o = r.toInt64) ∧ jI u μ1)) ∨ (E = gk_E3 ∧ w_X9_addRule μ a0 a1 a2 a3 (fun r μ1 => μ1.2 0 = 3 ∧ ((3 : Int32) = 0 → o = r.toInt64) ∧ jI u μ1))) (fun r u => w_X9_addRule μ a0 a1 a2 a3 (fun r1 μ1 => μ1.2 0 = 0 ∧ ((0 : Int32) = 0 → r.toInt64 = r1.toInt64) ∧ jI u μ1)) σ a0 a1 a2 a3 1 := fun hv => by
    have n2 : (a2 < 1 ∨ 31 < a2) → w_X9_addRule μ a0 a1 a2 a3 (fun r μ1 => μ1.2 0 = 2 ∧ ((2 : Int32) = 0 → o = r.toInt64) ∧ jI σ μ1) := fun c => lm_addRule h h01 (fun q => by rw [hv] at q; cases q) (fun _ _ => ⟨rfl, fun q => absurd q (by decide), h⟩) (fun _ c1 c2 => by
      rcases c with c | c
      · exact absurd c c1
      · exact absurd c c2)
    unfold wJ_X8_addRule_42 w_X8_checkThere
    refine ⟨fun _ => ?_, fun q => absurd q (by decide)⟩
    refine ⟨fun c => ⟨fun q => absurd rfl q, fun _ => Or.inr (Or.inl ⟨rfl, n2 (Or.inl c)⟩)⟩, fun c1 => ⟨fun c => ⟨fun q => absurd rfl q, fun _ => Or.inr (Or.inl ⟨rfl, n2 (Or.inr c)⟩)⟩, fun c2 => ?_⟩⟩
    unfold wJ_X8_addRule_61 w_X8_checkArguments
    refine ⟨fun _ => ?_, fun q => absurd q (by decide)⟩
    rw [hs]
    refine ⟨fun c => ⟨fun q => absurd rfl q, fun _ => Or.inr (Or.inr ⟨rfl, lm_addRule h h01 (fun q => by rw [hv] at q; cases q) (fun _ c => ?_) (fun _ _ _ => ⟨fun _ => ⟨rfl, fun q => absurd q (by decide), h⟩, fun q => absurd ?_ q⟩)⟩)⟩, fun c => ⟨fun _ => ?_, fun q => absurd q (by decide)⟩⟩
    · exfalso
      rcases c with c | c
      · exact absurd c c1
      · exact absurd c c2
    · have := (nI_leI (a := 30) (by decide) (by omega)).mp c
      rw [hm, show tL (told σ) = 30 by omega]
      rfl
    · have hlt : tL (told σ) < 30 := by
        rcases Nat.lt_or_ge (tL (told σ)) 30 with q | q
        · exact q
        · exact absurd (nI_le (a := 30) q (by omega)) c
      obtain ⟨hwho, r, hr, rfl⟩ := vW_ex hw hv
      have key := jI_addRul σ (gk_s μ 0 0) (tL (told σ)) r a0 a1 a2 h hlt hs h01 hwho hr
      have g : ∀ k, 11 ≤ k → k ≤ 19 → tL (told σ) < gk_rl k := fun k h1 h2 => by
        have e : k = 11 ∨ k = 12 ∨ k = 13 ∨ k = 14 ∨ k = 15 ∨ k = 16 ∨ k = 17 ∨ k = 18 ∨ k = 19 := by omega
        rcases e with rfl | rfl | rfl | rfl | rfl | rfl | rfl | rfl | rfl <;> exact hlt
      have fin : w_X9_addRule μ a0 a1 a2 (nI r) (fun r1 μ1 => μ1.2 0 = 0 ∧ ((0 : Int32) = 0 → (nI (tL (told σ))).toInt64 = r1.toInt64) ∧ jI (gk_s (gk_r (gk_r (gk_r (gk_r (gk_r (gk_r (gk_r (gk_r (gk_r σ 11 (upd (σ.1 11) (tL (told σ)) a0)) 12 (upd (σ.1 12) (tL (told σ)) a1)) 13 (upd (σ.1 13) (tL (told σ)) a2)) 14 (upd (σ.1 14) (tL (told σ)) (nI r))) 15 (upd (σ.1 15) (tL (told σ)) 0)) 16 (upd (σ.1 16) (tL (told σ)) 0)) 17 (upd (σ.1 17) (tL (told σ)) 0)) 18 (upd (σ.1 18) (tL (told σ)) 0)) 19 (upd (σ.1 19) (tL (told σ)) 23)) 4 (nI (tL (told σ) + 1))) μ1) := by
        refine lm_addRule h h01 (fun q => by rw [hv] at q; cases q) (fun _ c => ?_) (fun _ _ _ => ⟨fun q => ?_, fun _ => ⟨?_, ?_⟩⟩)
        · exfalso
          rcases c with c | c
          · exact absurd c c1
          · exact absurd c c2
        · rw [hm] at q
          exact absurd ((nI_eq (b := 30) (by omega) (by decide)).mp q) (by omega)
        · rw [hm]; exact vp_in' hlt (by decide)
        · rw [hm, nI_1, show nt (nI (tL (told σ))) = tL (told σ) from nI_clamp (by omega)]
          exact ⟨rfl, fun _ => rfl, key⟩
      have j21 : wJ_X3_add_21 (fun r99 u => w_X9_addRule μ a0 a1 a2 (nI r) (fun r1 μ1 => μ1.2 0 = 0 ∧ ((0 : Int32) = 0 → r99.toInt64 = r1.toInt64) ∧ jI u μ1)) σ a1 a2 (nI r) (nI (tL (told σ))) (nI (tL (told σ))) a0 := by
        unfold wJ_X3_add_21
        rw [show gk_put σ 11 (nI (tL (told σ))) a0 = (gk_r σ 11 (upd (σ.1 11) (tL (told σ)) a0)) from gk_put_in σ 11 _ _ (g 11 (by decide) (by decide)) (by omega),
          show gk_put (gk_r σ 11 (upd (σ.1 11) (tL (told σ)) a0)) 12 (nI (tL (told σ))) a1 = (gk_r (gk_r σ 11 (upd (σ.1 11) (tL (told σ)) a0)) 12 (upd (σ.1 12) (tL (told σ)) a1)) from gk_put_in (gk_r σ 11 (upd (σ.1 11) (tL (told σ)) a0)) 12 _ _ (g 12 (by decide) (by decide)) (by omega),
          show gk_put (gk_r (gk_r σ 11 (upd (σ.1 11) (tL (told σ)) a0)) 12 (upd (σ.1 12) (tL (told σ)) a1)) 13 (nI (tL (told σ))) a2 = (gk_r (gk_r (gk_r σ 11 (upd (σ.1 11) (tL (told σ)) a0)) 12 (upd (σ.1 12) (tL (told σ)) a1)) 13 (upd (σ.1 13) (tL (told σ)) a2)) from gk_put_in (gk_r (gk_r σ 11 (upd (σ.1 11) (tL (told σ)) a0)) 12 (upd (σ.1 12) (tL (told σ)) a1)) 13 _ _ (g 13 (by decide) (by decide)) (by omega),
          show gk_put (gk_r (gk_r (gk_r σ 11 (upd (σ.1 11) (tL (told σ)) a0)) 12 (upd (σ.1 12) (tL (told σ)) a1)) 13 (upd (σ.1 13) (tL (told σ)) a2)) 14 (nI (tL (told σ))) (nI r) = (gk_r (gk_r (gk_r (gk_r σ 11 (upd (σ.1 11) (tL (told σ)) a0)) 12 (upd (σ.1 12) (tL (told σ)) a1)) 13 (upd (σ.1 13) (tL (told σ)) a2)) 14 (upd (σ.1 14) (tL (told σ)) (nI r))) from gk_put_in (gk_r (gk_r (gk_r σ 11 (upd (σ.1 11) (tL (told σ)) a0)) 12 (upd (σ.1 12) (tL (told σ)) a1)) 13 (upd (σ.1 13) (tL (told σ)) a2)) 14 _ _ (g 14 (by decide) (by decide)) (by omega),
          show gk_put (gk_r (gk_r (gk_r (gk_r σ 11 (upd (σ.1 11) (tL (told σ)) a0)) 12 (upd (σ.1 12) (tL (told σ)) a1)) 13 (upd (σ.1 13) (tL (told σ)) a2)) 14 (upd (σ.1 14) (tL (told σ)) (nI r))) 15 (nI (tL (told σ))) 0 = (gk_r (gk_r (gk_r (gk_r (gk_r σ 11 (upd (σ.1 11) (tL (told σ)) a0)) 12 (upd (σ.1 12) (tL (told σ)) a1)) 13 (upd (σ.1 13) (tL (told σ)) a2)) 14 (upd (σ.1 14) (tL (told σ)) (nI r))) 15 (upd (σ.1 15) (tL (told σ)) 0)) from gk_put_in (gk_r (gk_r (gk_r (gk_r σ 11 (upd (σ.1 11) (tL (told σ)) a0)) 12 (upd (σ.1 12) (tL (told σ)) a1)) 13 (upd (σ.1 13) (tL (told σ)) a2)) 14 (upd (σ.1 14) (tL (told σ)) (nI r))) 15 _ _ (g 15 (by decide) (by decide)) (by omega),
          show gk_put (gk_r (gk_r (gk_r (gk_r (gk_r σ 11 (upd (σ.1 11) (tL (told σ)) a0)) 12 (upd (σ.1 12) (tL (told σ)) a1)) 13 (upd (σ.1 13) (tL (told σ)) a2)) 14 (upd (σ.1 14) (tL (told σ)) (nI r))) 15 (upd (σ.1 15) (tL (told σ)) 0)) 16 (nI (tL (told σ))) 0 = (gk_r (gk_r (gk_r (gk_r (gk_r (gk_r σ 11 (upd (σ.1 11) (tL (told σ)) a0)) 12 (upd (σ.1 12) (tL (told σ)) a1)) 13 (upd (σ.1 13) (tL (told σ)) a2)) 14 (upd (σ.1 14) (tL (told σ)) (nI r))) 15 (upd (σ.1 15) (tL (told σ)) 0)) 16 (upd (σ.1 16) (tL (told σ)) 0)) from gk_put_in (gk_r (gk_r (gk_r (gk_r (gk_r σ 11 (upd (σ.1 11) (tL (told σ)) a0)) 12 (upd (σ.1 12) (tL (told σ)) a1)) 13 (upd (σ.1 13) (tL (told σ)) a2)) 14 (upd (σ.1 14) (tL (told σ)) (nI r))) 15 (upd (σ.1 15) (tL (told σ)) 0)) 16 _ _ (g 16 (by decide) (by decide)) (by omega),
          show gk_put (gk_r (gk_r (gk_r (gk_r (gk_r (gk_r σ 11 (upd (σ.1 11) (tL (told σ)) a0)) 12 (upd (σ.1 12) (tL (told σ)) a1)) 13 (upd (σ.1 13) (tL (told σ)) a2)) 14 (upd (σ.1 14) (tL (told σ)) (nI r))) 15 (upd (σ.1 15) (tL (told σ)) 0)) 16 (upd (σ.1 16) (tL (told σ)) 0)) 17 (nI (tL (told σ))) 0 = (gk_r (gk_r (gk_r (gk_r (gk_r (gk_r (gk_r σ 11 (upd (σ.1 11) (tL (told σ)) a0)) 12 (upd (σ.1 12) (tL (told σ)) a1)) 13 (upd (σ.1 13) (tL (told σ)) a2)) 14 (upd (σ.1 14) (tL (told σ)) (nI r))) 15 (upd (σ.1 15) (tL (told σ)) 0)) 16 (upd (σ.1 16) (tL (told σ)) 0)) 17 (upd (σ.1 17) (tL (told σ)) 0)) from gk_put_in (gk_r (gk_r (gk_r (gk_r (gk_r (gk_r σ 11 (upd (σ.1 11) (tL (told σ)) a0)) 12 (upd (σ.1 12) (tL (told σ)) a1)) 13 (upd (σ.1 13) (tL (told σ)) a2)) 14 (upd (σ.1 14) (tL (told σ)) (nI r))) 15 (upd (σ.1 15) (tL (told σ)) 0)) 16 (upd (σ.1 16) (tL (told σ)) 0)) 17 _ _ (g 17 (by decide) (by decide)) (by omega),
          show gk_put (gk_r (gk_r (gk_r (gk_r (gk_r (gk_r (gk_r σ 11 (upd (σ.1 11) (tL (told σ)) a0)) 12 (upd (σ.1 12) (tL (told σ)) a1)) 13 (upd (σ.1 13) (tL (told σ)) a2)) 14 (upd (σ.1 14) (tL (told σ)) (nI r))) 15 (upd (σ.1 15) (tL (told σ)) 0)) 16 (upd (σ.1 16) (tL (told σ)) 0)) 17 (upd (σ.1 17) (tL (told σ)) 0)) 18 (nI (tL (told σ))) 0 = (gk_r (gk_r (gk_r (gk_r (gk_r (gk_r (gk_r (gk_r σ 11 (upd (σ.1 11) (tL (told σ)) a0)) 12 (upd (σ.1 12) (tL (told σ)) a1)) 13 (upd (σ.1 13) (tL (told σ)) a2)) 14 (upd (σ.1 14) (tL (told σ)) (nI r))) 15 (upd (σ.1 15) (tL (told σ)) 0)) 16 (upd (σ.1 16) (tL (told σ)) 0)) 17 (upd (σ.1 17) (tL (told σ)) 0)) 18 (upd (σ.1 18) (tL (told σ)) 0)) from gk_put_in (gk_r (gk_r (gk_r (gk_r (gk_r (gk_r (gk_r σ 11 (upd (σ.1 11) (tL (told σ)) a0)) 12 (upd (σ.1 12) (tL (told σ)) a1)) 13 (upd (σ.1 13) (tL (told σ)) a2)) 14 (upd (σ.1 14) (tL (told σ)) (nI r))) 15 (upd (σ.1 15) (tL (told σ)) 0)) 16 (upd (σ.1 16) (tL (told σ)) 0)) 17 (upd (σ.1 17) (tL (told σ)) 0)) 18 _ _ (g 18 (by decide) (by decide)) (by omega),
          show gk_put (gk_r (gk_r (gk_r (gk_r (gk_r (gk_r (gk_r (gk_r σ 11 (upd (σ.1 11) (tL (told σ)) a0)) 12 (upd (σ.1 12) (tL (told σ)) a1)) 13 (upd (σ.1 13) (tL (told σ)) a2)) 14 (upd (σ.1 14) (tL (told σ)) (nI r))) 15 (upd (σ.1 15) (tL (told σ)) 0)) 16 (upd (σ.1 16) (tL (told σ)) 0)) 17 (upd (σ.1 17) (tL (told σ)) 0)) 18 (upd (σ.1 18) (tL (told σ)) 0)) 19 (nI (tL (told σ))) 23 = (gk_r (gk_r (gk_r (gk_r (gk_r (gk_r (gk_r (gk_r (gk_r σ 11 (upd (σ.1 11) (tL (told σ)) a0)) 12 (upd (σ.1 12) (tL (told σ)) a1)) 13 (upd (σ.1 13) (tL (told σ)) a2)) 14 (upd (σ.1 14) (tL (told σ)) (nI r))) 15 (upd (σ.1 15) (tL (told σ)) 0)) 16 (upd (σ.1 16) (tL (told σ)) 0)) 17 (upd (σ.1 17) (tL (told σ)) 0)) 18 (upd (σ.1 18) (tL (told σ)) 0)) 19 (upd (σ.1 19) (tL (told σ)) 23)) from gk_put_in (gk_r (gk_r (gk_r (gk_r (gk_r (gk_r (gk_r (gk_r σ 11 (upd (σ.1 11) (tL (told σ)) a0)) 12 (upd (σ.1 12) (tL (told σ)) a1)) 13 (upd (σ.1 13) (tL (told σ)) a2)) 14 (upd (σ.1 14) (tL (told σ)) (nI r))) 15 (upd (σ.1 15) (tL (told σ)) 0)) 16 (upd (σ.1 16) (tL (told σ)) 0)) 17 (upd (σ.1 17) (tL (told σ)) 0)) 18 (upd (σ.1 18) (tL (told σ)) 0)) 19 _ _ (g 19 (by decide) (by decide)) (by omega)]
        rw [gr_2, gr_2, gr_2, gr_2, gr_2, gr_2, gr_2, gr_2, gr_2]
        rw [hs, nI_1]
        exact fin
      unfold w_X3_add
      rw [hs]
      refine ⟨fun q => ?_, fun q => ?_⟩
      · rw [q] at j21
        rw [q]
        exact j21
      · have q2 := h01.resolve_left q
        rw [q2] at j21
        rw [q2]
        exact j21
  have rest : (vld (tT (told σ)) a3 = false → wJ_X8_addRule_41 (fun E u => (E = gk_E1 ∧ w_X9_addRule μ a0 a1 a2 a3 (fun r μ1 => μ1.2 0 = 1 ∧ ((1 : Int32) = 0 → o = r.toInt64) ∧ jI u μ1)) ∨ (E = gk_E2 ∧ w_X9_addRule μ a0 a1 a2 a3 (fun r μ1 => μ1.2 0 = 2 ∧ ((2 : Int32) = 0 → o = r.toInt64) ∧ jI u μ1)) ∨ (E = gk_E3 ∧ w_X9_addRule μ a0 a1 a2 a3 (fun r μ1 => μ1.2 0 = 3 ∧ ((3 : Int32) = 0 → o = r.toInt64) ∧ jI u μ1))) (fun y x1 x2 x3 x4 t0 => (wJ_X8_addRule_42 (fun E u => (E = gk_E1 ∧ w_X9_addRule μ a0 a1 a2 a3 (fun r μ1 => μ1.2 0 = 1 ∧ ((1 : Int32) = 0 → o = r.toInt64) ∧ jI u μ1)) ∨ (E = gk_E2 ∧ w_X9_addRule μ a0 a1 a2 a3 (fun r μ1 => μ1.2 0 = 2 ∧ ((2 : Int32) = 0 → o = r.toInt64) ∧ jI u μ1)) ∨ (E = gk_E3 ∧ w_X9_addRule μ a0 a1 a2 a3 (fun r μ1 => μ1.2 0 = 3 ∧ ((3 : Int32) = 0 → o = r.toInt64) ∧ jI u μ1))) (fun r u => w_X9_addRule μ a0 a1 a2 a3 (fun r1 μ1 => μ1.2 0 = 0 ∧ ((0 : Int32) = 0 → r.toInt64 = r1.toInt64) ∧ jI u μ1)) y x1 x2 x3 x4 t0)) σ a0 a1 a2 a3) := fun q => by
    exact ⟨fun q2 => absurd rfl q2, fun _ => Or.inl ⟨rfl, n1 (by unfold vW; rw [q, Bool.and_false])⟩⟩
  refine ⟨fun c => ?_, fun c => ?_⟩
  · have c' : ¬ a1 < 12 := Int32.not_lt.mpr c
    refine lb_isRole (T := told σ) rfl hw ?_
    refine b2i_go _ (fun q => ⟨fun q2 => absurd rfl q2, fun _ => Or.inl ⟨rfl, n1 (by unfold vW; rw [if_neg c', q]; rfl)⟩⟩) (fun q => ?_)
    unfold wJ_X8_addRule_28
    refine lb_isRes (T := told σ) rfl hw ?_
    exact b2i_go _ (fun q2 => rest q2) (fun q2 => j42 (by unfold vW; rw [if_neg c', q, q2]; rfl))
  · have c' : a1 < 12 := Int32.not_le.mp c
    refine lb_isUser (T := told σ) rfl hw ?_
    refine b2i_go _ (fun q => ⟨fun q2 => absurd rfl q2, fun _ => Or.inl ⟨rfl, n1 (by unfold vW; rw [if_pos c', q]; rfl)⟩⟩) (fun q => ?_)
    unfold wJ_X8_addRule_28
    refine lb_isRes (T := told σ) rfl hw ?_
    exact b2i_go _ (fun q2 => rest q2) (fun q2 => j42 (by unfold vW; rw [if_pos c', q, q2]; rfl))
/-- a row whose things from a on, as far as k, came one nearer -/
def sh (f : Nat → Int32) (a k : Nat) : Nat → Int32 := fun j => if a ≤ j ∧ j < k then f (j + 1) else f j
theorem sh_up (f : Nat → Int32) {a k : Nat} (h : a ≤ k) : upd (sh f a k) k (sh f a k (k + 1)) = sh f a (k + 1) := by
  funext j
  by_cases e : j = k
  · subst e
    rw [up_at]
    unfold sh
    rw [if_neg (by omega), if_pos (by omega)]
  · rw [up_ne _ _ e]
    unfold sh
    by_cases c : a ≤ j ∧ j < k
    · rw [if_pos c, if_pos (by omega)]
    · rw [if_neg c, if_neg (by omega)]
/-- the reference while it drops -/
def dr (μ : gk_C) (a k : Nat) : gk_C := (fun r => if 17 ≤ r ∧ r ≤ 25 then sh (μ.1 r) a k else μ.1 r, μ.2)
theorem dr_0 (μ : gk_C) (a : Nat) : dr μ a a = μ := by
  unfold dr
  congr 1
  funext r
  by_cases h : 17 ≤ r ∧ r ≤ 25
  · rw [if_pos h]
    funext j
    unfold sh
    rw [if_neg (by omega)]
  · rw [if_neg h]
theorem dp_step (μ : gk_C) {a k : Nat} (h : a ≤ k) : gk_r (gk_r (gk_r (gk_r (gk_r (gk_r (gk_r (gk_r (gk_r (dr μ a k) 17 (upd ((dr μ a k).1 17) k ((dr μ a k).1 17 (k + 1)))) 18 (upd ((dr μ a k).1 18) k ((dr μ a k).1 18 (k + 1)))) 19 (upd ((dr μ a k).1 19) k ((dr μ a k).1 19 (k + 1)))) 20 (upd ((dr μ a k).1 20) k ((dr μ a k).1 20 (k + 1)))) 21 (upd ((dr μ a k).1 21) k ((dr μ a k).1 21 (k + 1)))) 22 (upd ((dr μ a k).1 22) k ((dr μ a k).1 22 (k + 1)))) 23 (upd ((dr μ a k).1 23) k ((dr μ a k).1 23 (k + 1)))) 24 (upd ((dr μ a k).1 24) k ((dr μ a k).1 24 (k + 1)))) 25 (upd ((dr μ a k).1 25) k ((dr μ a k).1 25 (k + 1))) = dr μ a (k + 1) := by
  have e : ∀ r, 17 ≤ r → r ≤ 25 → upd ((dr μ a k).1 r) k ((dr μ a k).1 r (k + 1)) = (dr μ a (k + 1)).1 r := fun r h1 h2 => by
    show upd (if 17 ≤ r ∧ r ≤ 25 then sh (μ.1 r) a k else μ.1 r) k ((if 17 ≤ r ∧ r ≤ 25 then sh (μ.1 r) a k else μ.1 r) (k + 1)) = (if 17 ≤ r ∧ r ≤ 25 then sh (μ.1 r) a (k + 1) else μ.1 r)
    rw [if_pos ⟨h1, h2⟩, if_pos ⟨h1, h2⟩]
    exact sh_up _ h
  rw [e 17 (by decide) (by decide), e 18 (by decide) (by decide), e 19 (by decide) (by decide), e 20 (by decide) (by decide), e 21 (by decide) (by decide), e 22 (by decide) (by decide), e 23 (by decide) (by decide), e 24 (by decide) (by decide), e 25 (by decide) (by decide)]
  refine Prod.ext ?_ rfl
  funext r
  have c : r = 17 ∨ r = 18 ∨ r = 19 ∨ r = 20 ∨ r = 21 ∨ r = 22 ∨ r = 23 ∨ r = 24 ∨ r = 25 ∨ (r < 17 ∨ 25 < r) := by omega
  rcases c with rfl | rfl | rfl | rfl | rfl | rfl | rfl | rfl | rfl | c
  · rfl
  · rfl
  · rfl
  · rfl
  · rfl
  · rfl
  · rfl
  · rfl
  · rfl
  · rw [gr_ne _ _ (by omega), gr_ne _ _ (by omega), gr_ne _ _ (by omega), gr_ne _ _ (by omega), gr_ne _ _ (by omega), gr_ne _ _ (by omega), gr_ne _ _ (by omega), gr_ne _ _ (by omega), gr_ne _ _ (by omega)]
    show (if 17 ≤ r ∧ r ≤ 25 then sh (μ.1 r) a k else μ.1 r) = (if 17 ≤ r ∧ r ≤ 25 then sh (μ.1 r) a (k + 1) else μ.1 r)
    rw [if_neg (by omega), if_neg (by omega)]
theorem jI_drop (σ μ : gk_C) (n a : Nat) (h : jI σ μ) (ha : a < n) (hn : n ≤ 30) (hs : σ.2 4 = nI n) :
    jI (gk_s (gk_out (gk_out (gk_out (gk_out (gk_out (gk_out (gk_out (gk_out (gk_out σ 11 (nI a)) 12 (nI a)) 13 (nI a)) 14 (nI a)) 15 (nI a)) 16 (nI a)) 17 (nI a)) 18 (nI a)) 19 (nI a)) 4 (nI (n - 1)))
      (dr (gk_s μ 16 (nI (n - 1))) a (n - 1)) := by
  obtain ⟨⟨⟨w1, w2, w3, w4, w5, w6⟩, ws, wt', ww, wr, wg⟩, ⟨⟨m1, m2, m3, m4, m5, m6, m7⟩, mu, md, mh, ml, mp, mr, mg⟩, hx, h35, h33⟩ := h
  have e0 : tL (told σ) = n := num_eq hs (by omega)
  have e1 : tL (told (gk_s (gk_out (gk_out (gk_out (gk_out (gk_out (gk_out (gk_out (gk_out (gk_out σ 11 (nI a)) 12 (nI a)) 13 (nI a)) 14 (nI a)) 15 (nI a)) 16 (nI a)) 17 (nI a)) 18 (nI a)) 19 (nI a)) 4 (nI (n - 1)))) = n - 1 := num_eq (x := nI (n - 1)) rfl (by omega)
  have go : ∀ (f : Nat → Int32) (k : Nat), k < n - 1 → (if (nI a).toNatClampNeg ≤ k ∧ k + 1 < 30 then f (k + 1) else f k) = (if a ≤ k then f (k + 1) else f k) := fun f k hk => by
    rw [nI_clamp (by omega)]
    by_cases c : a ≤ k
    · rw [if_pos ⟨c, by omega⟩, if_pos c]
    · rw [if_neg (fun q => c q.1), if_neg c]
  have gm : ∀ (f : Nat → Int32) (k : Nat), k < n - 1 → sh f a (n - 1) k = (if a ≤ k then f (k + 1) else f k) := fun f k hk => by
    unfold sh
    by_cases c : a ≤ k
    · rw [if_pos ⟨c, hk⟩, if_pos c]
    · rw [if_neg (fun q => c q.1), if_neg c]
  refine ⟨⟨⟨w1, w2, w3, w4, ⟨n - 1, by omega, by omega, rfl⟩, w6⟩, ws, wt', ww, fun k hk => ?_, wg⟩, ⟨⟨m1, m2, m3, m4, rfl, m6, m7⟩, mu, md, mh, ml, mp, fun k hk => ?_, mg⟩, hx, h35, h33⟩
  · rw [e1] at hk
    show ((if (nI a).toNatClampNeg ≤ k ∧ k + 1 < 30 then σ.1 11 (k + 1) else σ.1 11 k) = 0 ∨ (if (nI a).toNatClampNeg ≤ k ∧ k + 1 < 30 then σ.1 11 (k + 1) else σ.1 11 k) = 1) ∧ ((if (nI a).toNatClampNeg ≤ k ∧ k + 1 < 30 then σ.1 15 (k + 1) else σ.1 15 k) = 0 ∨ (if (nI a).toNatClampNeg ≤ k ∧ k + 1 < 30 then σ.1 15 (k + 1) else σ.1 15 k) = 1) ∧ ((∃ u, u < tU (told σ) ∧ (if (nI a).toNatClampNeg ≤ k ∧ k + 1 < 30 then σ.1 12 (k + 1) else σ.1 12 k) = nI u) ∨ ∃ r, r < tR (told σ) ∧ (if (nI a).toNatClampNeg ≤ k ∧ k + 1 < 30 then σ.1 12 (k + 1) else σ.1 12 k) = nI (12 + r)) ∧ (∃ r', r' < tT (told σ) ∧ (if (nI a).toNatClampNeg ≤ k ∧ k + 1 < 30 then σ.1 14 (k + 1) else σ.1 14 k) = nI r') ∧ jN (if (nI a).toNatClampNeg ≤ k ∧ k + 1 < 30 then σ.1 16 (k + 1) else σ.1 16 k) 0 9
    rw [go _ _ hk, go _ _ hk, go _ _ hk, go _ _ hk, go _ _ hk]
    by_cases c : a ≤ k
    · simp only [c, if_true]
      exact wr (k + 1) (by omega)
    · simp only [c, if_false]
      exact wr k (by omega)
  · rw [e1] at hk
    show sh (μ.1 17) a (n - 1) k = (if (nI a).toNatClampNeg ≤ k ∧ k + 1 < 30 then σ.1 11 (k + 1) else σ.1 11 k) ∧ sh (μ.1 19) a (n - 1) k = (if (nI a).toNatClampNeg ≤ k ∧ k + 1 < 30 then σ.1 12 (k + 1) else σ.1 12 k) ∧ sh (μ.1 20) a (n - 1) k = (if (nI a).toNatClampNeg ≤ k ∧ k + 1 < 30 then σ.1 13 (k + 1) else σ.1 13 k) ∧ sh (μ.1 21) a (n - 1) k = (if (nI a).toNatClampNeg ≤ k ∧ k + 1 < 30 then σ.1 14 (k + 1) else σ.1 14 k) ∧ sh (μ.1 18) a (n - 1) k = (if (nI a).toNatClampNeg ≤ k ∧ k + 1 < 30 then σ.1 15 (k + 1) else σ.1 15 k) ∧ sh (μ.1 22) a (n - 1) k = (if (nI a).toNatClampNeg ≤ k ∧ k + 1 < 30 then σ.1 16 (k + 1) else σ.1 16 k) ∧ sh (μ.1 23) a (n - 1) k = (if (nI a).toNatClampNeg ≤ k ∧ k + 1 < 30 then σ.1 17 (k + 1) else σ.1 17 k) ∧ sh (μ.1 24) a (n - 1) k = (if (nI a).toNatClampNeg ≤ k ∧ k + 1 < 30 then σ.1 18 (k + 1) else σ.1 18 k) ∧ sh (μ.1 25) a (n - 1) k = (if (nI a).toNatClampNeg ≤ k ∧ k + 1 < 30 then σ.1 19 (k + 1) else σ.1 19 k)
    simp only [go _ _ hk, gm _ _ hk]
    by_cases c : a ≤ k
    · simp only [c, if_true]
      exact mr (k + 1) (by omega)
    · simp only [c, if_false]
      exact mr k (by omega)
theorem q_dropRule : ∀ (σ μ : gk_C) (o : Int64), jI σ μ → ∀ (a0 : Int32), w_L_dropRule σ o a0 (fun k σ1 o1 => w_X9_dropRule μ a0 (fun r μ1 => μ1.2 0 = k ∧ (k = 0 → o1 = r.toInt64) ∧ jI σ1 μ1)) := by
  intro σ μ o h a0
  have hw := h.1
  have hL := wf_L hw
  have hs : σ.2 4 = nI (tL (told σ)) := hL.1
  have hm : μ.2 16 = nI (tL (told σ)) := h.2.1.1.2.2.2.2.1.trans hL.1
  unfold w_L_dropRule w_X8_dropRule w_X8_checkThere
  refine lb_isRule (T := told σ) rfl hw ?_
  refine b2i_go' _ (fun q1 => ⟨rfl, ?_⟩) (fun q1 => ?_)
  · unfold w_X9_dropRule
    refine lm_isRule (T := told σ) (μ := gk_s μ 0 0) h.2.1 hw ?_
    rw [q1]
    exact ⟨fun q => absurd rfl q, fun _ => q_no1 h⟩
  · obtain ⟨a, ha, rfl⟩ := vld_ex (by omega) q1
    have e1 : nI (tL (told σ)) - 1 = nI (tL (told σ) - 1) := nI_sub' (a := tL (told σ)) (b := 1) (by omega)
    have key := jI_drop σ (gk_s μ 0 0) (tL (told σ)) a h ha hL.2 hs
    have eo : (gk_out (gk_out (gk_out (gk_out (gk_out (gk_out (gk_out (gk_out (gk_out σ 11 (nI a)) 12 (nI a)) 13 (nI a)) 14 (nI a)) 15 (nI a)) 16 (nI a)) 17 (nI a)) 18 (nI a)) 19 (nI a)).2 4 = σ.2 4 := rfl
    unfold w_X3_drop
    rw [eo, hs, e1, gs_at]
    unfold w_X9_dropRule
    refine lm_isRule (T := told σ) (μ := gk_s μ 0 0) h.2.1 hw ?_
    rw [q1, show (gk_s μ 0 0).2 16 = nI (tL (told σ)) from hm, e1]
    refine ⟨fun _ => ?_, fun q => absurd q (by decide)⟩
    have hbin : ∀ j, j < tL (told σ) → (μ.1 17 j = 0 ∨ μ.1 17 j = 1) ∧ (μ.1 18 j = 0 ∨ μ.1 18 j = 1) := fun j hj => by
      have e := h.2.1.2.2.2.2.2.2.1 j hj
      rw [e.1, e.2.2.2.2.1]
      exact ⟨(hw.2.2.2.2.1 j hj).1, (hw.2.2.2.2.1 j hj).2.1⟩
    have l := lpUp (A := Unit) (n := tL (told σ) - 1) (W := fun f k _ => a ≤ k → wL_X9_dropRule_31 (fun r μ1 => μ1.2 0 = 0 ∧ ((0 : Int32) = 0 → (nI (tL (told σ) - 1)).toInt64 = r.toInt64) ∧ jI (gk_s (gk_out (gk_out (gk_out (gk_out (gk_out (gk_out (gk_out (gk_out (gk_out σ 11 (nI a)) 12 (nI a)) 13 (nI a)) 14 (nI a)) 15 (nI a)) 16 (nI a)) 17 (nI a)) 18 (nI a)) 19 (nI a)) 4 (nI (tL (told σ) - 1))) μ1) f (dr (gk_s (gk_s μ 0 0) 16 (nI (tL (told σ) - 1))) a k) (nI k)) (J := fun _ _ => True) ?_ ?_ (tL (told σ) - 1 - a) a () (by omega) trivial (Nat.le_refl _)
    · rw [dr_0] at l
      exact ⟨_, l⟩
    · intro f _ _ _
      unfold wL_X9_dropRule_31
      rw [show (dr (gk_s (gk_s μ 0 0) 16 (nI (tL (told σ) - 1))) a (tL (told σ) - 1)).2 16 = nI (tL (told σ) - 1) from rfl]
      exact ⟨fun _ => ⟨rfl, fun _ => rfl, key⟩, fun q => absurd (nI_le (Nat.le_refl _) (by omega)) q⟩
    · intro f k _ hk _ next hak
      have h2 := next () trivial (by omega)
      rw [← dp_step _ hak] at h2
      unfold wL_X9_dropRule_31
      rw [show (dr (gk_s (gk_s μ 0 0) 16 (nI (tL (told σ) - 1))) a k).2 16 = nI (tL (told σ) - 1) from rfl, nI_1, nI_clamp (show k + 1 < 2 ^ 31 by omega)]
      have hv := vp_in' (show k + 1 < 30 by omega) (by decide)
      have hv2 := vp_in' (show k < 30 by omega) (by decide)
      have e17 : (dr (gk_s (gk_s μ 0 0) 16 (nI (tL (told σ) - 1))) a k).1 17 (k + 1) = μ.1 17 (k + 1) := by
        show sh (μ.1 17) a k (k + 1) = _
        unfold sh
        rw [if_neg (by omega)]
      have e18 : (dr (gk_s (gk_s μ 0 0) 16 (nI (tL (told σ) - 1))) a k).1 18 (k + 1) = μ.1 18 (k + 1) := by
        show sh (μ.1 18) a k (k + 1) = _
        unfold sh
        rw [if_neg (by omega)]
      have n17 : vp_nar .boolean ((dr (gk_s (gk_s μ 0 0) 16 (nI (tL (told σ) - 1))) a k).1 17 (k + 1)) = (dr (gk_s (gk_s μ 0 0) 16 (nI (tL (told σ) - 1))) a k).1 17 (k + 1) := by
        rw [e17]; exact nar_b (hbin (k + 1) (by omega)).1
      have n18 : vp_nar .boolean ((dr (gk_s (gk_s μ 0 0) 16 (nI (tL (told σ) - 1))) a k).1 18 (k + 1)) = (dr (gk_s (gk_s μ 0 0) 16 (nI (tL (told σ) - 1))) a k).1 18 (k + 1) := by
        rw [e18]; exact nar_b (hbin (k + 1) (by omega)).2
      generalize dr (gk_s (gk_s μ 0 0) 16 (nI (tL (told σ) - 1))) a k = τ at h2 n17 n18 ⊢
      refine ⟨fun q => absurd q (nI_ge hk (by omega)), fun _ => ⟨hv, hv2, ?_⟩⟩
      rintro _ rfl
      refine ⟨hv, hv2, ?_⟩
      rintro _ rfl
      refine ⟨hv, hv2, ?_⟩
      rintro _ rfl
      refine ⟨hv, hv2, ?_⟩
      rintro _ rfl
      refine ⟨hv, hv2, ?_⟩
      rintro _ rfl
      refine ⟨hv, hv2, ?_⟩
      rintro _ rfl
      refine ⟨hv, hv2, ?_⟩
      rintro _ rfl
      refine ⟨hv, hv2, ?_⟩
      rintro _ rfl
      refine ⟨hv, hv2, ?_⟩
      rintro _ rfl
      rw [n17]
      rw [mk_st_in τ 17 k _ (by omega)]
      rw [show (gk_r τ 17 (upd (τ.1 17) k (τ.1 17 (k + 1)))).1 18 = τ.1 18 from gr_ne _ _ (by decide), n18, mk_st_in _ 18 k _ (by omega), mk_st_in _ 19 k _ (by omega), mk_st_in _ 20 k _ (by omega), mk_st_in _ 21 k _ (by omega), mk_st_in _ 22 k _ (by omega), mk_st_in _ 23 k _ (by omega), mk_st_in _ 24 k _ (by omega), mk_st_in _ 25 k _ (by omega)]
      exact h2
