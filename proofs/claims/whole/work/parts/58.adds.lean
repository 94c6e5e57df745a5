/-! ===== layer B: what adds and drops ===== -/
theorem put' (σ : gk_C) (r n : Nat) (v : Int32) (h : n < gk_rl r) (h31 : n < 2 ^ 31) (f : Nat → Int32) (hf : σ.1 r = f) : gk_put σ r (nI n) v = gk_r σ r (upd f n v) := by
  rw [← hf]
  exact gk_put_in σ r n v h h31
theorem mst' (μ : gk_C) (r n : Nat) (v : Int32) (h31 : n < 2 ^ 31) (f : Nat → Int32) (hf : μ.1 r = f) : mk_st μ r (nI n) v = gk_r μ r (upd f n v) := by
  rw [← hf]
  exact mk_st_in μ r n v h31
theorem nar_b {x : Int32} (h : x = 0 ∨ x = 1) : vp_nar .boolean x = x := by
  rcases h with rfl | rfl <;> rfl
theorem jI_addRes (σ μ : gk_C) (n p : Nat) (h : jI σ μ) (hn : n < 24) (h1n : 1 ≤ n) (hs : σ.2 3 = nI n) (hp : p < n) : jI (gk_s (gk_r (gk_r σ 6 (upd (σ.1 6) n (σ.1 6 p + 1))) 7 (upd (σ.1 7) n (σ.1 7 p ||| (1 <<< (nI p &&& 31))))) 3 (nI (n + 1))) (gk_s (gk_r μ 12 (upd (μ.1 12) n (nI p))) 11 (nI (n + 1))) := by
  obtain ⟨⟨⟨w1, w2, w3, w4, w5⟩, ws, wt', ww, wr, wg⟩, ⟨⟨m1, m2, m3, m4, m5⟩, mu, md, mh, ml, mp, mr⟩, ⟨x1, x2, x3, x4⟩, h35, h33⟩ := h
  have e0 : tT (told σ) = n := num_eq hs (by omega)
  have e1 : tT (told (gk_s (gk_r (gk_r σ 6 (upd (σ.1 6) n (σ.1 6 p + 1))) 7 (upd (σ.1 7) n (σ.1 7 p ||| (1 <<< (nI p &&& 31))))) 3 (nI (n + 1)))) = n + 1 := num_eq (x := nI (n + 1)) rfl (by omega)
  refine ⟨⟨⟨w1, w2, w3, ⟨n + 1, by omega, by omega, rfl⟩, w5⟩, ws, ⟨?_, ?_, fun k hk0 hk => ?_⟩, fun k hk => x4 k (by omega), fun k hk => ?_, fun g hg => ?_⟩, ⟨⟨m1, m2, m3, rfl, m5⟩, mu, md, mh, ml, ⟨?_, fun k hk0 hk => ?_⟩, mr⟩, ⟨x1, x2, x3, x4⟩, h35, h33⟩
  · show upd (σ.1 7) n _ 0 = 0
    rw [up_ne _ _ (by omega)]; exact wt'.1
  · show upd (σ.1 6) n _ 0 = 0
    rw [up_ne _ _ (by omega)]; exact wt'.2.1
  · rw [e1] at hk
    show ∃ p', p' < k ∧ upd (σ.1 7) n (σ.1 7 p ||| (1 <<< (nI p &&& 31))) k = upd (σ.1 7) n (σ.1 7 p ||| (1 <<< (nI p &&& 31))) p' ||| (1 <<< (nI p' &&& 31)) ∧ upd (σ.1 6) n (σ.1 6 p + 1) k = upd (σ.1 6) n (σ.1 6 p + 1) p' + 1
    by_cases e : k = n
    · refine ⟨p, by omega, ?_, ?_⟩
      · rw [e, up_at, up_ne _ _ (by omega)]
      · rw [e, up_at, up_ne _ _ (by omega)]
    · obtain ⟨q, q1, q2, q3⟩ := wt'.2.2 k hk0 (by omega)
      refine ⟨q, q1, ?_, ?_⟩
      · rw [up_ne _ _ e, up_ne _ _ (by omega)]; exact q2
      · rw [up_ne _ _ e, up_ne _ _ (by omega)]; exact q3
  · obtain ⟨a1, a2, a3, ⟨r, hr, e⟩, a5⟩ := wr k hk
    exact ⟨a1, a2, a3, ⟨r, by omega, e⟩, a5⟩
  · obtain ⟨a1, a2, a3, ⟨r, hr, e⟩⟩ := wg g hg
    exact ⟨a1, a2, a3, ⟨r, by omega, e⟩⟩
  · show upd (μ.1 12) n (nI p) 0 = -1
    rw [up_ne _ _ (by omega)]; exact mp.1
  · rw [e1] at hk
    show ∃ p', p' < k ∧ upd (μ.1 12) n (nI p) k = nI p' ∧ upd (σ.1 7) n (σ.1 7 p ||| (1 <<< (nI p &&& 31))) k = upd (σ.1 7) n (σ.1 7 p ||| (1 <<< (nI p &&& 31))) p' ||| (1 <<< (nI p' &&& 31)) ∧ upd (σ.1 6) n (σ.1 6 p + 1) k = upd (σ.1 6) n (σ.1 6 p + 1) p' + 1
    by_cases e : k = n
    · refine ⟨p, by omega, ?_, ?_, ?_⟩
      · rw [e, up_at]
      · rw [e, up_at, up_ne _ _ (by omega)]
      · rw [e, up_at, up_ne _ _ (by omega)]
    · obtain ⟨q, q1, q0, q2, q3⟩ := mp.2 k hk0 (by omega)
      refine ⟨q, q1, ?_, ?_, ?_⟩
      · rw [up_ne _ _ e]; exact q0
      · rw [up_ne _ _ e, up_ne _ _ (by omega)]; exact q2
      · rw [up_ne _ _ e, up_ne _ _ (by omega)]; exact q3
theorem q_addResource : ∀ (σ μ : gk_C) (o : Int64), jI σ μ → ∀ (a0 : Int32), w_L_addResource σ o a0 (fun k σ1 o1 => w_X9_addResource μ a0 (fun r μ1 => μ1.2 0 = k ∧ (k = 0 → o1 = r.toInt64) ∧ jI σ1 μ1)) := by
  intro σ μ o h a0
  have hw := h.1
  have hT := wf_T hw
  have hs : σ.2 3 = nI (tT (told σ)) := hT.1
  have hm : (gk_s μ 0 0).2 11 = nI (tT (told σ)) := h.2.1.1.2.2.2.1.trans hT.1
  generalize hn : tT (told σ) = n at hs hm hT
  unfold w_L_addResource w_X8_addResource w_X8_checkThere
  refine lb_isRes (T := told σ) rfl hw ?_
  rw [hn]
  refine b2i_go' _ (fun q1 => Or.inl ⟨rfl, ?_⟩) (fun q1 => ?_)
  · unfold w_X9_addResource
    refine lm_isRes (T := told σ) (μ := gk_s μ 0 0) h.2.1 hw ?_
    rw [hn, q1]
    exact ⟨fun q => absurd rfl q, fun _ => q_no1 h⟩
  · obtain ⟨p, hp, rfl⟩ := vld_ex (by omega) q1
    rw [hs]
    refine ⟨fun q => ⟨fun q2 => absurd rfl q2, fun _ => Or.inr ⟨rfl, ?_⟩⟩, fun q => ⟨fun _ => ?_, fun q => absurd q (by decide)⟩⟩
    · have e24 : n = 24 := by
        have := (nI_leI (a := 24) (by decide) (by omega)).mp q
        omega
      unfold w_X9_addResource
      refine lm_isRes (T := told σ) (μ := gk_s μ 0 0) h.2.1 hw ?_
      rw [hn, q1, hm]
      exact ⟨fun _ => ⟨fun q2 => absurd (by rw [e24]; rfl) q2, fun _ => ⟨rfl, fun q => absurd q (by decide), h⟩⟩, fun q => absurd q (by decide)⟩
    · have hlt : n < 24 := by
        rcases Nat.lt_or_ge n 24 with c | c
        · exact c
        · exact absurd (nI_le (a := 24) c (by omega)) q
      have key := jI_addRes σ (gk_s μ 0 0) n p h hlt hT.2.1 hs hp
      unfold w_X5_add
      rw [hs, gk_at_in (show p < gk_rl 6 by show p < 24; omega), gk_put_in σ 6 n _ (show n < gk_rl 6 from hlt) (by omega), gk_at_in (show p < gk_rl 7 by show p < 24; omega), gk_put_in _ 7 n _ (show n < gk_rl 7 from hlt) (by omega), gr_2, gr_2, hs, nI_1, gr_ne σ _ (show (7 : Nat) ≠ 6 by decide)]
      unfold w_X9_addResource
      refine lm_isRes (T := told σ) (μ := gk_s μ 0 0) h.2.1 hw ?_
      rw [hn, q1, hm]
      refine ⟨fun _ => ⟨fun _ => ⟨vp_in' hlt (by decide), ?_⟩, fun q2 => absurd ((nI_eq (b := 24) (by omega) (by decide)).mp q2) (by omega)⟩, fun q => absurd q (by decide)⟩
      rintro _ rfl
      rw [mst' (gk_s μ 0 0) 12 n _ (by omega) (μ.1 12) rfl, gr_2, hm, nI_1]
      exact ⟨rfl, fun _ => rfl, key⟩
/-! grants -/
theorem jI_addGra (σ μ : gk_C) (n f t a r : Nat) (x4 x5 : Int32) (h : jI σ μ) (hn : n < 30) (hs : σ.2 5 = nI n) (hf : f < tU (told σ)) (ht : t < tU (told σ)) (ha : a < 5) (hr : r < tT (told σ)) :
    jI (gk_s (gk_r (gk_r (gk_r (gk_r (gk_r (gk_r σ 20 (upd (σ.1 20) n (nI f))) 21 (upd (σ.1 21) n (nI t))) 22 (upd (σ.1 22) n (nI a))) 23 (upd (σ.1 23) n (nI r))) 24 (upd (σ.1 24) n x4)) 25 (upd (σ.1 25) n x5)) 5 (nI (n + 1)))
      (gk_s (gk_r (gk_r (gk_r (gk_r (gk_r (gk_r μ 27 (upd (μ.1 27) n (nI f))) 28 (upd (μ.1 28) n (nI t))) 29 (upd (μ.1 29) n (nI a))) 30 (upd (μ.1 30) n (nI r))) 31 (upd (μ.1 31) n x4)) 32 (upd (μ.1 32) n x5)) 26 (nI (n + 1))) := by
  obtain ⟨⟨⟨w1, w2, w3, w4, w5, w6⟩, ws, wt', ww, wr, wg⟩, ⟨⟨m1, m2, m3, m4, m5, m6, m7⟩, mu, md, mh, ml, mp, mr, mg, mA⟩, hx, h35, h33⟩ := h
  have e0 : tG (told σ) = n := num_eq hs (by omega)
  have e1 : tG (told (gk_s (gk_r (gk_r (gk_r (gk_r (gk_r (gk_r σ 20 (upd (σ.1 20) n (nI f))) 21 (upd (σ.1 21) n (nI t))) 22 (upd (σ.1 22) n (nI a))) 23 (upd (σ.1 23) n (nI r))) 24 (upd (σ.1 24) n x4)) 25 (upd (σ.1 25) n x5)) 5 (nI (n + 1)))) = n + 1 := num_eq (x := nI (n + 1)) rfl (by omega)
  refine ⟨⟨⟨w1, w2, w3, w4, w5, ⟨n + 1, by omega, by omega, rfl⟩⟩, ws, wt', ww, wr, fun g hg => ?_⟩, ⟨⟨m1, m2, m3, m4, m5, rfl, m7⟩, mu, md, mh, ml, mp, mr, fun g hg => ?_, mA⟩, hx, h35, h33⟩
  · rw [e1] at hg
    show (∃ u, u < tU (told σ) ∧ upd (σ.1 20) n (nI f) g = nI u) ∧ (∃ u, u < tU (told σ) ∧ upd (σ.1 21) n (nI t) g = nI u) ∧ (∃ a', a' < 5 ∧ upd (σ.1 22) n (nI a) g = nI a') ∧ (∃ r', r' < tT (told σ) ∧ upd (σ.1 23) n (nI r) g = nI r')
    by_cases e : g = n
    · rw [e, up_at, up_at, up_at, up_at]
      exact ⟨⟨f, hf, rfl⟩, ⟨t, ht, rfl⟩, ⟨a, ha, rfl⟩, ⟨r, hr, rfl⟩⟩
    · rw [up_ne _ _ e, up_ne _ _ e, up_ne _ _ e, up_ne _ _ e]
      exact wg g (by omega)
  · rw [e1] at hg
    show upd (μ.1 27) n (nI f) g = upd (σ.1 20) n (nI f) g ∧ upd (μ.1 28) n (nI t) g = upd (σ.1 21) n (nI t) g ∧ upd (μ.1 29) n (nI a) g = upd (σ.1 22) n (nI a) g ∧ upd (μ.1 30) n (nI r) g = upd (σ.1 23) n (nI r) g ∧ upd (μ.1 31) n x4 g = upd (σ.1 24) n x4 g ∧ upd (μ.1 32) n x5 g = upd (σ.1 25) n x5 g
    by_cases e : g = n
    · rw [e]
      simp only [up_at]
      exact ⟨trivial, trivial, trivial, trivial, trivial, trivial⟩
    · simp only [up_ne _ _ e]
      exact mg g (by omega)
def vG (T : gk_C) (a0 a1 a2 a3 : Int32) : Bool := vld (tU T) a0 && (vld (tU T) a1 && (vld 5 a2 && vld (tT T) a3))
/-- the reference's grant, as far as it throws or adds -/
theorem lm_grant {σ μ : gk_C} (h : jI σ μ) {a0 a1 a2 a3 a4 a5 : Int32} {Q : Int32 → gk_C → Prop}
    (h1 : vG (told σ) a0 a1 a2 a3 = false → Q 0 (gk_s (gk_s μ 0 0) 0 1))
    (h2 : vG (told σ) a0 a1 a2 a3 = true → (a0 = a1 ∨ a4 < 0 ∨ 3 < a4 ∨ a5 < 1 ∨ 10000 < a5) → Q 0 (gk_s (gk_s μ 0 0) 0 2))
    (h3 : vG (told σ) a0 a1 a2 a3 = true → ¬ a0 = a1 → ¬ a4 < 0 → ¬ 3 < a4 → ¬ a5 < 1 → ¬ 10000 < a5 →
      ((μ.2 26 = 30 → Q 0 (gk_s (gk_s μ 0 0) 0 3)) ∧ (¬ μ.2 26 = 30 → vp_in (μ.2 26) 30 ∧ Q (μ.2 26) (gk_s (gk_r (gk_r (gk_r (gk_r (gk_r (gk_r (gk_s μ 0 0) 27 (upd (μ.1 27) (nt (μ.2 26)) a0)) 28 (upd (μ.1 28) (nt (μ.2 26)) a1)) 29 (upd (μ.1 29) (nt (μ.2 26)) a2)) 30 (upd (μ.1 30) (nt (μ.2 26)) a3)) 31 (upd (μ.1 31) (nt (μ.2 26)) a4)) 32 (upd (μ.1 32) (nt (μ.2 26)) (μ.2 1 + a5))) 26 (μ.2 26 + 1))))) : w_X9_grant μ a0 a1 a2 a3 a4 a5 Q := by
  have hw := h.1
  have n37 : vG (told σ) a0 a1 a2 a3 = false → wJ_X9_grant_37 Q (gk_s μ 0 0) := h1
  unfold w_X9_grant
  refine lm_isUser (T := told σ) (μ := gk_s μ 0 0) h.2.1 hw ?_
  refine b2i_go _ (fun q => n37 (by unfold vG; rw [q]; rfl)) (fun q1 => ?_)
  refine lm_isUser (T := told σ) (μ := gk_s μ 0 0) h.2.1 hw ?_
  refine b2i_go _ (fun q => n37 (by unfold vG; rw [q]; simp)) (fun q2 => ?_)
  refine lm_isAction ?_
  refine b2i_go _ (fun q => n37 (by unfold vG; rw [q]; simp)) (fun q3 => ?_)
  refine lm_isRes (T := told σ) (μ := gk_s μ 0 0) h.2.1 hw ?_
  refine b2i_go' _ (fun q => n37 (by unfold vG; rw [q]; simp)) (fun q4 => ?_)
  have hv : vG (told σ) a0 a1 a2 a3 = true := by unfold vG; rw [q1, q2, q3, q4]; rfl
  have n70 : (a0 = a1 ∨ a4 < 0 ∨ 3 < a4 ∨ a5 < 1 ∨ 10000 < a5) → wJ_X9_grant_70 Q (gk_s μ 0 0) := h2 hv
  refine ⟨fun q => n70 (Or.inl q), fun c1 => ?_⟩
  unfold w_X9_isIn
  refine ⟨fun q => ⟨fun _ => n70 (Or.inr (Or.inl q)), fun q2 => absurd rfl q2⟩, fun c2 => ⟨fun q => ⟨fun _ => n70 (Or.inr (Or.inr (Or.inl q))), fun q2 => absurd rfl q2⟩, fun c3 => ⟨fun q => absurd q (by decide), fun _ => ?_⟩⟩⟩
  refine ⟨fun q => ⟨fun q2 => absurd rfl q2, fun _ => n70 (Or.inr (Or.inr (Or.inr (Or.inl q))))⟩, fun c4 => ⟨fun q => ⟨fun q2 => absurd rfl q2, fun _ => n70 (Or.inr (Or.inr (Or.inr (Or.inr q))))⟩, fun c5 => ⟨fun _ => ?_, fun q => absurd q (by decide)⟩⟩⟩
  obtain ⟨k1, k2⟩ := h3 hv c1 c2 c3 c4 c5
  refine ⟨fun q => ?_, fun q => k1 q⟩
  obtain ⟨hvp, hq⟩ := k2 q
  refine ⟨hvp, ?_⟩
  rintro _ rfl
  refine ⟨hvp, ?_⟩
  rintro _ rfl
  refine ⟨hvp, ?_⟩
  rintro _ rfl
  refine ⟨hvp, ?_⟩
  rintro _ rfl
  refine ⟨hvp, ?_⟩
  rintro _ rfl
  refine ⟨hvp, ?_⟩
  rintro _ rfl
  exact hq
theorem q_grant : ∀ (σ μ : gk_C) (o : Int64), jI σ μ → ∀ (a0 a1 a2 a3 a4 a5 : Int32), w_L_grant σ o a0 a1 a2 a3 a4 a5 (fun k σ1 o1 => w_X9_grant μ a0 a1 a2 a3 a4 a5 (fun r μ1 => μ1.2 0 = k ∧ (k = 0 → o1 = r.toInt64) ∧ jI σ1 μ1)) := by
  intro σ μ o h a0 a1 a2 a3 a4 a5
  have hw := h.1
  have hG := wf_G hw
  have hU := (wf_U hw).2
  have hT := (wf_T hw).2.2
  have hs : σ.2 5 = nI (tG (told σ)) := hG.1
  have hm : μ.2 26 = nI (tG (told σ)) := h.2.1.1.2.2.2.2.2.1.trans hG.1
  have hc : μ.2 1 = σ.2 7 := h.2.1.1.2.2.2.2.2.2.2
  unfold w_L_grant w_X8_grant
  have n1 : vG (told σ) a0 a1 a2 a3 = false → wJ_X8_grant_36 (fun E u => (E = gk_E1 ∧ w_X9_grant μ a0 a1 a2 a3 a4 a5 (fun r μ1 => μ1.2 0 = 1 ∧ ((1 : Int32) = 0 → o = r.toInt64) ∧ jI u μ1)) ∨ (E = gk_E2 ∧ w_X9_grant μ a0 a1 a2 a3 a4 a5 (fun r μ1 => μ1.2 0 = 2 ∧ ((2 : Int32) = 0 → o = r.toInt64) ∧ jI u μ1)) ∨ (E = gk_E3 ∧ w_X9_grant μ a0 a1 a2 a3 a4 a5 (fun r μ1 => μ1.2 0 = 3 ∧ ((3 : Int32) = 0 → o = r.toInt64) ∧ jI u μ1))) (fun y x1 x2 x3 x4 x5 x6 t0 => (wJ_X8_grant_37 (fun E u => (E = gk_E1 ∧ w_X9_grant μ a0 a1 a2 a3 a4 a5 (fun r μ1 => μ1.2 0 = 1 ∧ ((1 : Int32) = 0 → o = r.toInt64) ∧ jI u μ1)) ∨ (E = gk_E2 ∧ w_X9_grant μ a0 a1 a2 a3 a4 a5 (fun r μ1 => μ1.2 0 = 2 ∧ ((2 : Int32) = 0 → o = r.toInt64) ∧ jI u μ1)) ∨ (E = gk_E3 ∧ w_X9_grant μ a0 a1 a2 a3 a4 a5 (fun r μ1 => μ1.2 0 = 3 ∧ ((3 : Int32) = 0 → o = r.toInt64) ∧ jI u μ1))) (fun r u => w_X9_grant μ a0 a1 a2 a3 a4 a5 (fun r1 μ1 => μ1.2 0 = 0 ∧ ((0 : Int32) = 0 → r.toInt64 = r1.toInt64) ∧ jI u μ1)) y x1 x2 x3 x4 x5 x6 t0)) σ a0 a1 a2 a3 a4 a5 := fun q => ⟨fun q2 => absurd rfl q2, fun _ => Or.inl ⟨rfl, lm_grant h (fun _ => ⟨rfl, fun q => absurd q (by decide), h⟩) (fun q2 => by rw [q] at q2; cases q2) (fun q2 => by rw [q] at q2; cases q2)⟩⟩
  refine lb_isUser (T := told σ) rfl hw ?_
  refine b2i_go _ (fun q => n1 (by unfold vG; rw [q]; rfl)) (fun q1 => ?_)
  refine lb_isUser (T := told σ) rfl hw ?_
  refine b2i_go _ (fun q => n1 (by unfold vG; rw [q]; simp)) (fun q2 => ?_)
  refine lb_isAction ?_
  refine b2i_go _ (fun q => n1 (by unfold vG; rw [q]; simp)) (fun q3 => ?_)
  refine lb_isRes (T := told σ) rfl hw ?_
  refine b2i_go _ (fun q => n1 (by unfold vG; rw [q]; simp)) (fun q4 => ?_)
  have hv : vG (told σ) a0 a1 a2 a3 = true := by unfold vG; rw [q1, q2, q3, q4]; rfl
  have n2 : (a0 = a1 ∨ a4 < 0 ∨ 3 < a4 ∨ a5 < 1 ∨ 10000 < a5) → w_X9_grant μ a0 a1 a2 a3 a4 a5 (fun r μ1 => μ1.2 0 = 2 ∧ ((2 : Int32) = 0 → o = r.toInt64) ∧ jI σ μ1) := fun c => lm_grant h (fun q => by rw [hv] at q; cases q) (fun _ _ => ⟨rfl, fun q => absurd q (by decide), h⟩) (fun _ c1 c2 c3 c4 c5 => by
    rcases c with c | c | c | c | c
    · exact absurd c c1
    · exact absurd c c2
    · exact absurd c c3
    · exact absurd c c4
    · exact absurd c c5)
  unfold wJ_X8_grant_37 w_X8_checkThere w_X8_isUpTo
  refine ⟨fun _ => ?_, fun q => absurd q (by decide)⟩
  refine ⟨fun c => ⟨fun q => absurd rfl q, fun _ => Or.inr (Or.inl ⟨rfl, n2 (Or.inl c)⟩)⟩, fun c1 => ?_⟩
  refine ⟨fun c => ⟨fun _ => ⟨fun q => absurd rfl q, fun _ => Or.inr (Or.inl ⟨rfl, n2 (Or.inr (Or.inl c))⟩)⟩, fun q => absurd rfl q⟩, fun c2 => ⟨fun c => ⟨fun _ => ⟨fun q => absurd rfl q, fun _ => Or.inr (Or.inl ⟨rfl, n2 (Or.inr (Or.inr (Or.inl c)))⟩)⟩, fun q => absurd rfl q⟩, fun c3 => ⟨fun q => absurd q (by decide), fun _ => ?_⟩⟩⟩
  refine ⟨fun c => ⟨fun q => absurd rfl q, fun _ => Or.inr (Or.inl ⟨rfl, n2 (Or.inr (Or.inr (Or.inr (Or.inl c))))⟩)⟩, fun c4 => ⟨fun c => ⟨fun q => absurd rfl q, fun _ => Or.inr (Or.inl ⟨rfl, n2 (Or.inr (Or.inr (Or.inr (Or.inr c))))⟩)⟩, fun c5 => ?_⟩⟩
  unfold wJ_X8_grant_73 w_X8_checkArguments
  refine ⟨fun _ => ?_, fun q => absurd q (by decide)⟩
  rw [hs]
  refine ⟨fun c => ⟨fun q => absurd rfl q, fun _ => Or.inr (Or.inr ⟨rfl, lm_grant h (fun q => by rw [hv] at q; cases q) (fun _ c => ?_) (fun _ _ _ _ _ _ => ⟨fun _ => ⟨rfl, fun q => absurd q (by decide), h⟩, fun q => absurd ?_ q⟩)⟩)⟩, fun c => ⟨fun _ => ?_, fun q => absurd q (by decide)⟩⟩
  · exfalso
    rcases c with c | c | c | c | c
    · exact absurd c c1
    · exact absurd c c2
    · exact absurd c c3
    · exact absurd c c4
    · exact absurd c c5
  · have := (nI_leI (a := 30) (by decide) (by omega)).mp c
    rw [hm, show tG (told σ) = 30 by omega]
    rfl
  · have hlt : tG (told σ) < 30 := by
      rcases Nat.lt_or_ge (tG (told σ)) 30 with q | q
      · exact q
      · exact absurd (nI_le (a := 30) q (by omega)) c
    obtain ⟨f, hf, rfl⟩ := vld_ex (by omega) q1
    obtain ⟨t, ht, rfl⟩ := vld_ex (by omega) q2
    obtain ⟨a, ha, rfl⟩ := vld_ex (by omega) q3
    obtain ⟨r, hr, rfl⟩ := vld_ex (by omega) q4
    have key := jI_addGra σ (gk_s μ 0 0) (tG (told σ)) f t a r a4 (σ.2 7 + a5) h hlt hs hf ht ha hr
    have g : ∀ k, 20 ≤ k → k ≤ 25 → tG (told σ) < gk_rl k := fun k h1 h2 => by
      have e : k = 20 ∨ k = 21 ∨ k = 22 ∨ k = 23 ∨ k = 24 ∨ k = 25 := by omega
      rcases e with rfl | rfl | rfl | rfl | rfl | rfl <;> exact hlt
    unfold w_X0_add
    rw [hs, gk_put_in σ 20 _ _ (g 20 (by decide) (by decide)) (by omega), gk_put_in _ 21 _ _ (g 21 (by decide) (by decide)) (by omega), gk_put_in _ 22 _ _ (g 22 (by decide) (by decide)) (by omega), gk_put_in _ 23 _ _ (g 23 (by decide) (by decide)) (by omega), gk_put_in _ 24 _ _ (g 24 (by decide) (by decide)) (by omega), gk_put_in _ 25 _ _ (g 25 (by decide) (by decide)) (by omega)]
    simp only [gr_2]
    rw [hs, nI_1]
    refine lm_grant h (fun q => by rw [hv] at q; cases q) (fun _ c => ?_) (fun _ _ _ _ _ _ => ⟨fun q => ?_, fun _ => ⟨?_, ?_⟩⟩)
    · exfalso
      rcases c with c | c | c | c | c
      · exact absurd c c1
      · exact absurd c c2
      · exact absurd c c3
      · exact absurd c c4
      · exact absurd c c5
    · rw [hm] at q
      exact absurd ((nI_eq (b := 30) (by omega) (by decide)).mp q) (by omega)
    · rw [hm]; exact vp_in' hlt (by decide)
    · rw [hm, hc, nI_1, show nt (nI (tG (told σ))) = tG (told σ) from nI_clamp (by omega)]
      exact ⟨rfl, fun _ => rfl, key⟩
