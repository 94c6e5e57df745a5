/-! ===== layer B: the questions ===== -/
/-- a number of one that is there -/
def vld (n : Nat) (a : Int32) : Bool := !decide (a < 0) && !decide (nI n ≤ a)
theorem vld_ex {n : Nat} (hn : n ≤ 1000) {a : Int32} (h : vld n a = true) : ∃ k, k < n ∧ a = nI k := by
  unfold vld at h
  simp only [Bool.and_eq_true, Bool.not_eq_true', decide_eq_false_iff_not] at h
  exact lo_ge (by omega) h.1 h.2
theorem lb_vld {c : Int32} {n : Nat} (hc : c = nI n) {a : Int32} {Q : Int32 → Prop} (hQ : Q (b2i (vld n a))) : (a < 0 → Q 0) ∧ (¬ a < 0 → (c ≤ a → Q 0) ∧ (¬ c ≤ a → Q 1)) := by
  subst hc
  unfold vld at hQ
  refine dec_go (fun h => ?_) (fun h => ?_)
  · rw [h] at hQ; exact hQ
  · rw [h] at hQ
    refine dec_go (fun h2 => ?_) (fun h2 => ?_) <;> · rw [h2] at hQ; exact hQ
theorem lm_vld {c : Int32} {n : Nat} (hn : n ≤ 30) (hc : c = nI n) {a : Int32} {Q : Int32 → Prop} (hQ : Q (b2i (vld n a))) : w_X9_isIn a 0 (c - 1) (fun r => gk_z r ∧ Q r) := by
  subst hc
  unfold w_X9_isIn
  have e3 : (nI n - 1).toInt = (n : Int) - 1 := by
    rw [Int32.toInt_sub, nI_toInt (by omega), show (1 : Int32).toInt = 1 by decide, bmS (by omega) (by omega)]
  unfold vld at hQ
  refine dec_go (fun h => ?_) (fun h => ?_)
  · rw [h] at hQ; exact ⟨gk_z0, hQ⟩
  · rw [h] at hQ
    have h0 : ¬ a < 0 := of_decide_eq_false h
    have e : (nI n - 1 < a) ↔ (nI n ≤ a) := by
      rw [Int32.lt_iff_toInt_lt, Int32.le_iff_toInt_le, e3, nI_toInt (by omega)]
      omega
    refine ⟨fun h2 => ?_, fun h2 => ?_⟩
    · rw [decide_eq_true (e.mp h2)] at hQ; exact ⟨gk_z0, hQ⟩
    · rw [decide_eq_false (fun q => h2 (e.mpr q))] at hQ; exact ⟨gk_z1, hQ⟩
section VG
variable {σ T : gk_C} {a : Int32} {Q : Int32 → Prop}
theorem lb_isUser (h : told σ = T) (hw : wf T) (hQ : Q (b2i (vld (tU T) a))) : w_X8_isUser σ a Q := by
  unfold w_X8_isUser
  exact lb_vld ((ts h (show 0 < 8 by decide)).trans (wf_U hw).1) hQ
theorem lb_isRole (h : told σ = T) (hw : wf T) (hQ : Q (b2i (vld (tR T) a))) : w_X8_isRole σ a Q := by
  unfold w_X8_isRole
  exact lb_vld ((ts h (show 1 < 8 by decide)).trans (wf_R hw).1) hQ
theorem lb_isRes (h : told σ = T) (hw : wf T) (hQ : Q (b2i (vld (tT T) a))) : w_X8_isResource σ a Q := by
  unfold w_X8_isResource
  exact lb_vld ((ts h (show 3 < 8 by decide)).trans (wf_T hw).1) hQ
theorem lb_isRule (h : told σ = T) (hw : wf T) (hQ : Q (b2i (vld (tL T) a))) : w_X8_isRule σ a Q := by
  unfold w_X8_isRule
  exact lb_vld ((ts h (show 4 < 8 by decide)).trans (wf_L hw).1) hQ
theorem lb_isGrant (h : told σ = T) (hw : wf T) (hQ : Q (b2i (vld (tG T) a))) : w_X8_isGrant σ a Q := by
  unfold w_X8_isGrant
  exact lb_vld ((ts h (show 5 < 8 by decide)).trans (wf_G hw).1) hQ
theorem lb_isAction (hQ : Q (b2i (vld 5 a))) : w_X8_isAction a Q := by
  unfold w_X8_isAction
  exact lb_vld (n := 5) rfl hQ
end VG
section VM
variable {μ T : gk_C} {a : Int32} {Q : Int32 → Prop}
theorem lm_isUser (hM : jM T μ) (hw : wf T) (hQ : Q (b2i (vld (tU T) a))) : w_X9_isUser μ a Q := by
  unfold w_X9_isUser
  have := (wf_U hw).2
  exact lm_vld (by omega) (hM.1.1.trans (wf_U hw).1) hQ
theorem lm_isRole (hM : jM T μ) (hw : wf T) (hQ : Q (b2i (vld (tR T) a))) : w_X9_isRole μ a Q := by
  unfold w_X9_isRole
  have := (wf_R hw).2
  exact lm_vld (by omega) (hM.1.2.1.trans (wf_R hw).1) hQ
theorem lm_isRes (hM : jM T μ) (hw : wf T) (hQ : Q (b2i (vld (tT T) a))) : w_X9_isResource μ a Q := by
  unfold w_X9_isResource
  have := (wf_T hw).2.2
  exact lm_vld (by omega) (hM.1.2.2.2.1.trans (wf_T hw).1) hQ
theorem lm_isRule (hM : jM T μ) (hw : wf T) (hQ : Q (b2i (vld (tL T) a))) : w_X9_isRule μ a Q := by
  unfold w_X9_isRule
  have := (wf_L hw).2
  exact lm_vld (by omega) (hM.1.2.2.2.2.1.trans (wf_L hw).1) hQ
theorem lm_isGrant (hM : jM T μ) (hw : wf T) (hQ : Q (b2i (vld (tG T) a))) : w_X9_isGrant μ a Q := by
  unfold w_X9_isGrant
  have := (wf_G hw).2
  exact lm_vld (by omega) (hM.1.2.2.2.2.2.1.trans (wf_G hw).1) hQ
theorem lm_isAction (hQ : Q (b2i (vld 5 a))) : w_X9_isAction a Q := by
  unfold w_X9_isAction
  have h := lm_vld (c := 5) (n := 5) (by decide) rfl hQ
  rw [show (5 : Int32) - 1 = 4 by decide] at h
  exact h
end VM
def vA (T : gk_C) (a0 a1 a2 : Int32) : Bool := vld (tU T) a0 && (vld 5 a1 && vld (tT T) a2)
theorem vA_ex {T : gk_C} (hw : wf T) {a0 a1 a2 : Int32} (h : vA T a0 a1 a2 = true) : ∃ u a r, u < tU T ∧ a < 5 ∧ r < tT T ∧ a0 = nI u ∧ a1 = nI a ∧ a2 = nI r := by
  unfold vA at h
  rw [Bool.and_eq_true, Bool.and_eq_true] at h
  have hU := (wf_U hw).2
  have hT := (wf_T hw).2.2
  obtain ⟨u, h1, h2⟩ := vld_ex (by omega) h.1
  obtain ⟨a, h3, h4⟩ := vld_ex (by omega) h.2.1
  obtain ⟨r, h5, h6⟩ := vld_ex (by omega) h.2.2
  exact ⟨u, a, r, h1, h3, h5, h2, h4, h6⟩
theorem lb_ask {σ T : gk_C} (h : told σ = T) (hw : wf T) {a0 a1 a2 : Int32} {E : String → gk_C → Prop} {Q : gk_C → Prop} (h0 : vA T a0 a1 a2 = false → E gk_E1 σ) (h1 : vA T a0 a1 a2 = true → Q σ) : w_X8_checkAsked σ a0 a1 a2 E Q := by
  have no : vA T a0 a1 a2 = false → wJ_X8_checkAsked_27 E (fun σ t0 => (wJ_X8_checkAsked_28 E Q σ t0)) σ := fun q => by
    unfold wJ_X8_checkAsked_27 wJ_X8_checkAsked_28 w_X8_checkThere
    exact ⟨fun q2 => absurd rfl q2, fun _ => h0 q⟩
  unfold w_X8_checkAsked
  refine lb_isUser h hw ?_
  refine b2i_go _ (fun q1 => no (by unfold vA; rw [q1]; rfl)) (fun q1 => ?_)
  refine lb_isAction ?_
  refine b2i_go _ (fun q2 => no (by unfold vA; rw [q2]; simp)) (fun q2 => ?_)
  refine lb_isRes h hw ?_
  refine b2i_go _ (fun q3 => no (by unfold vA; rw [q3]; simp)) (fun q3 => ?_)
  unfold wJ_X8_checkAsked_28 w_X8_checkThere
  exact ⟨fun _ => h1 (by unfold vA; rw [q1, q2, q3]; rfl), fun q => absurd q (by decide)⟩
theorem lm_ask {μ T : gk_C} (hM : jM T μ) (hw : wf T) {a0 a1 a2 : Int32} {Q : Int32 → Prop} (hQ : Q (b2i (vA T a0 a1 a2))) : w_X9_isQuestion μ a0 a1 a2 Q := by
  unfold w_X9_isQuestion
  unfold vA at hQ
  refine lm_isUser hM hw ?_
  refine b2i_go _ (fun q1 => ?_) (fun q1 => ?_)
  · rw [q1] at hQ; exact hQ
  · refine lm_isAction ?_
    refine b2i_go _ (fun q2 => ?_) (fun q2 => ?_)
    · rw [q1, q2] at hQ; exact hQ
    · refine lm_isRes hM hw ?_
      refine b2i_go _ (fun q3 => ?_) (fun q3 => ?_) <;> · rw [q1, q2, q3] at hQ; exact hQ
theorem lo_m1 {T μ : gk_C} (hw : wf T) (h : μ.2 35 = -1) : ∀ k, k < tL T → decide (nI k = μ.2 35) = no0 k := fun k hk => by
  rw [h]
  refine decide_eq_false (fun q => ?_)
  have hL := (wf_L hw).2
  exact nI_pos (show k < 2 ^ 31 by omega) (by rw [q]; decide)
theorem b0_lo {T : gk_C} : ∀ k, k < tL T → bt 0 k = no0 k := fun k _ => b_0 k
/-- a look at what is, from a state of the relation -/
theorem lb_now {v : Nat} (hv : v < 2) {σ μ : gk_C} (h : jI σ μ) {Q : gk_C → Prop} (hQ : ∀ σ1, vw v no0 (told σ) (σ.2 6) ((told σ).1 2) (tU (told σ)) σ1 → σ1.2 (11 + 4 * v) = gd no0 (told σ) (σ.2 6) ((told σ).1 2) → sV v σ σ1 → jI σ1 μ → Q σ1) : w_X7_look v σ (σ.2 6) 0 Q :=
  lb_look rfl hv h.1 b0_lo (fun σ1 h1 h2 h3 => hQ σ1 h1 h2 h3 (jI_sV h hv h3))
/-- the rows of nears and the good grants of the reference -/
theorem lm_now {σ μ : gk_C} (h : jI σ μ) {Q : (Nat → Option (Nat → Int32)) → Int32 → Prop} (hQ : ∀ N, isNN (told σ) ((told σ).1 2) N → Q N (gd no0 (told σ) (σ.2 6) ((told σ).1 2))) : w_X9_allNears (gk_s μ 0 0) (fun N => w_X9_good (gk_s μ 0 0) N ((gk_s μ 0 0).2 2) (Q N)) := by
  refine lm_allNears (T := told σ) (μ := gk_s μ 0 0) h.2.1 h.1 (fun N hN => ?_)
  rw [show (gk_s μ 0 0).2 2 = σ.2 6 from h.2.1.1.2.2.2.2.2.2.1]
  exact lm_good (μ := gk_s μ 0 0) h.2.1 h.1 (lo_m1 h.1 h.2.2.2.1) hN (hQ N hN)
theorem orN {o : Option Nat} (h : ∀ k, o = some k → k < 12) {Q : Int32 → Prop} (hQ : Q (rNearI (-1) o)) : w_X9_orNone (rNearI 99 o) Q := by
  unfold w_X9_orNone
  cases o with
  | none => exact ⟨fun q => absurd rfl q, fun _ => hQ⟩
  | some k =>
    have := h k rfl
    exact ⟨fun _ => hQ, fun q => absurd ((nI_eq (b := 99) (by omega) (by decide)).mp q) (by omega)⟩
theorem q_near : ∀ (σ μ : gk_C) (o : Int64), jI σ μ → ∀ (a0 a1 : Int32), w_L_near σ o a0 a1 (fun k σ1 o1 => w_X9_near μ a0 a1 (fun r μ1 => μ1.2 0 = k ∧ (k = 0 → o1 = r.toInt64) ∧ jI σ1 μ1)) := by
  intro σ μ o h a0 a1
  have hw := h.1
  have hU := (wf_U hw).2
  have hR := wf_R hw
  unfold w_L_near w_X8_near
  have no : (vld (tU (told σ)) a0 && vld (tR (told σ)) a1) = false → w_X9_near μ a0 a1 (fun r μ1 => μ1.2 0 = 1 ∧ ((1 : Int32) = 0 → o = r.toInt64) ∧ jI σ μ1) := fun q => by
    have no2 : wJ_X9_near_39 (fun r μ1 => μ1.2 0 = 1 ∧ ((1 : Int32) = 0 → o = r.toInt64) ∧ jI σ μ1) (gk_s μ 0 0) := ⟨rfl, fun q => absurd q (by decide), h⟩
    unfold w_X9_near
    refine lm_isUser (T := told σ) (μ := gk_s μ 0 0) h.2.1 hw ?_
    refine b2i_go _ (fun _ => no2) (fun q1 => ?_)
    refine lm_isRole (T := told σ) (μ := gk_s μ 0 0) h.2.1 hw ?_
    refine b2i_go _ (fun _ => no2) (fun q2 => ?_)
    rw [q1, q2] at q; cases q
  have no3 : (vld (tU (told σ)) a0 && vld (tR (told σ)) a1) = false → wJ_X8_near_20 (fun E u => (E = gk_E1 ∧ w_X9_near μ a0 a1 (fun r μ1 => μ1.2 0 = 1 ∧ ((1 : Int32) = 0 → o = r.toInt64) ∧ jI u μ1))) (fun σ x1 x2 t0 => (wJ_X8_near_21 (fun E u => (E = gk_E1 ∧ w_X9_near μ a0 a1 (fun r μ1 => μ1.2 0 = 1 ∧ ((1 : Int32) = 0 → o = r.toInt64) ∧ jI u μ1))) (fun r u => w_X9_near μ a0 a1 (fun r1 μ1 => μ1.2 0 = 0 ∧ ((0 : Int32) = 0 → r.toInt64 = r1.toInt64) ∧ jI u μ1)) σ x1 x2 t0)) σ a0 a1 := fun q => ⟨fun q2 => absurd rfl q2, fun _ => ⟨rfl, no q⟩⟩
  refine lb_isUser rfl hw ?_
  refine b2i_go _ (fun q1 => no3 (by rw [q1]; rfl)) (fun q1 => ?_)
  refine lb_isRole rfl hw ?_
  refine b2i_go _ (fun q2 => no3 (by rw [q2, Bool.and_false])) (fun q2 => ⟨fun _ => ?_, fun q => absurd q (by decide)⟩)
  obtain ⟨u, hu, rfl⟩ := vld_ex (by omega) q1
  obtain ⟨r, hr, rfl⟩ := vld_ex (by omega) q2
  rw [gk_at_in (show u < gk_rl 2 by show u < 12; omega)]
  refine lb_nearBy (σ := σ) (nR := tR (told σ)) (r := r) hR.1 hR.2 (by omega) ?_
  unfold w_X9_near
  refine lm_isUser (T := told σ) (μ := gk_s μ 0 0) h.2.1 hw ?_
  rw [q1]
  refine ⟨fun q => absurd q (by decide), fun _ => ?_⟩
  refine lm_isRole (T := told σ) (μ := gk_s μ 0 0) h.2.1 hw ?_
  rw [q2]
  refine ⟨fun q => absurd q (by decide), fun _ => ⟨vp_in' (by omega) (by decide), ?_⟩⟩
  rw [nI_clamp (show u < 2 ^ 31 by omega), nI_clamp (show r < 2 ^ 31 by omega), show (gk_s μ 0 0).1 4 u = σ.1 2 u from (h.2.1.2.1 u (by omega)).2.2]
  unfold w_X9_nears
  refine lm_nears_ (T := told σ) (μ := gk_s μ 0 0) (h.2.1.1.2.1.trans hR.1) hR.2 h.2.1.2.2.2.1 (fun k hk i hi => hw.2.1.2 k hk i hi) (fun i hi => hw.2.1.1 u hu i hi) (fun f hf => ⟨vp_in' (by omega) (by decide), ?_⟩)
  rw [hf r (by omega)]
  exact orN (fun k hk => rNear_lt hk) ⟨rfl, fun _ => rfl, h⟩
theorem q_far : ∀ (σ μ : gk_C) (o : Int64), jI σ μ → ∀ (a0 a1 : Int32), w_L_far σ o a0 a1 (fun k σ1 o1 => w_X9_far μ a0 a1 (fun r μ1 => μ1.2 0 = k ∧ (k = 0 → o1 = r.toInt64) ∧ jI σ1 μ1)) := by
  intro σ μ o h a0 a1
  have hw := h.1
  have hT := (wf_T hw).2.2
  unfold w_L_far w_X8_far
  have no : (vld (tT (told σ)) a0 && vld (tT (told σ)) a1) = false → w_X9_far μ a0 a1 (fun r μ1 => μ1.2 0 = 1 ∧ ((1 : Int32) = 0 → o = r.toInt64) ∧ jI σ μ1) := fun q => by
    have no2 : wJ_X9_far_30 (fun r μ1 => μ1.2 0 = 1 ∧ ((1 : Int32) = 0 → o = r.toInt64) ∧ jI σ μ1) (gk_s μ 0 0) := ⟨rfl, fun q => absurd q (by decide), h⟩
    unfold w_X9_far
    refine lm_isRes (T := told σ) (μ := gk_s μ 0 0) h.2.1 hw ?_
    refine b2i_go _ (fun _ => no2) (fun q1 => ?_)
    refine lm_isRes (T := told σ) (μ := gk_s μ 0 0) h.2.1 hw ?_
    refine b2i_go _ (fun _ => no2) (fun q2 => ?_)
    rw [q1, q2] at q; cases q
  have no3 : (vld (tT (told σ)) a0 && vld (tT (told σ)) a1) = false → wJ_X8_far_20 (fun E u => (E = gk_E1 ∧ w_X9_far μ a0 a1 (fun r μ1 => μ1.2 0 = 1 ∧ ((1 : Int32) = 0 → o = r.toInt64) ∧ jI u μ1))) (fun σ x1 x2 t0 => (wJ_X8_far_21 (fun E u => (E = gk_E1 ∧ w_X9_far μ a0 a1 (fun r μ1 => μ1.2 0 = 1 ∧ ((1 : Int32) = 0 → o = r.toInt64) ∧ jI u μ1))) (fun r u => w_X9_far μ a0 a1 (fun r1 μ1 => μ1.2 0 = 0 ∧ ((0 : Int32) = 0 → r.toInt64 = r1.toInt64) ∧ jI u μ1)) σ x1 x2 t0)) σ a0 a1 := fun q => ⟨fun q2 => absurd rfl q2, fun _ => ⟨rfl, no q⟩⟩
  refine lb_isRes rfl hw ?_
  refine b2i_go _ (fun q1 => no3 (by rw [q1]; rfl)) (fun q1 => ?_)
  refine lb_isRes rfl hw ?_
  refine b2i_go _ (fun q2 => no3 (by rw [q2, Bool.and_false])) (fun q2 => ⟨fun _ => ?_, fun q => absurd q (by decide)⟩)
  obtain ⟨u, hu, rfl⟩ := vld_ex (by omega) q1
  obtain ⟨r, hr, rfl⟩ := vld_ex (by omega) q2
  have fin : w_X9_far μ (nI u) (nI r) (fun r1 μ1 => μ1.2 0 = 0 ∧ ((0 : Int32) = 0 → (farI (told σ) u r).toInt64 = r1.toInt64) ∧ jI σ μ1) := by
    unfold w_X9_far
    refine lm_isRes (T := told σ) (μ := gk_s μ 0 0) h.2.1 hw ?_
    rw [q1]
    refine ⟨fun q => absurd q (by decide), fun _ => ?_⟩
    refine lm_isRes (T := told σ) (μ := gk_s μ 0 0) h.2.1 hw ?_
    rw [q2]
    refine ⟨fun q => absurd q (by decide), fun _ => ?_⟩
    exact lm_farNow (T := told σ) (μ := gk_s μ 0 0) h.2.1 hw hu hr ⟨rfl, fun _ => rfl, h⟩
  unfold farI at fin
  unfold w_X5_farUp
  refine lb_beneath (T := told σ) rfl (by omega) (by omega) ?_
  rw [gk_at_in (show u < gk_rl 6 by show u < 24; omega), gk_at_in (show r < gk_rl 6 by show r < 24; omega)]
  refine b2i_go _ (fun q => ?_) (fun q => ?_)
  · rw [if_neg (by rw [q]; decide)] at fin
    exact fin
  · rw [if_pos q] at fin
    exact fin
/-- the throwing end of a question -/
theorem q_no1 {σ μ : gk_C} {o : Int64} (h : jI σ μ) : (gk_s (gk_s μ 0 0) 0 1).2 0 = 1 ∧ ((1 : Int32) = 0 → o = (0 : Int32).toInt64) ∧ jI σ (gk_s (gk_s μ 0 0) 0 1) := ⟨rfl, fun q => absurd q (by decide), h⟩
theorem q_decide : ∀ (σ μ : gk_C) (o : Int64), jI σ μ → ∀ (a0 a1 a2 : Int32), w_L_decide σ o a0 a1 a2 (fun k σ1 o1 => w_X9_decide μ a0 a1 a2 (fun r μ1 => μ1.2 0 = k ∧ (k = 0 → o1 = r.toInt64) ∧ jI σ1 μ1)) := by
  intro σ μ o h a0 a1 a2
  have hw := h.1
  unfold w_L_decide w_X8_decide
  refine lb_ask (T := told σ) rfl hw (fun hv => ⟨rfl, ?_⟩) (fun hv => ?_)
  · unfold w_X9_decide
    refine lm_ask (T := told σ) (μ := gk_s μ 0 0) h.2.1 hw ?_
    rw [hv]
    exact ⟨fun _ => q_no1 h, fun q => absurd rfl q⟩
  · obtain ⟨u, a, r, hu, ha, hr, rfl, rfl, rfl⟩ := vA_ex hw hv
    refine lb_now (v := 0) (by decide) h (fun σ1 H HG HS hI => ?_)
    refine lb_decided H (by decide) hw (Nat.le_refl _) hu ha hr ?_
    unfold w_X9_decide
    refine lm_ask (T := told σ) (μ := gk_s μ 0 0) h.2.1 hw ?_
    rw [hv]
    refine ⟨fun q => absurd q (by decide), fun _ => ?_⟩
    unfold w_X9_decideNow
    refine lm_now h (Q := fun N r19 => w_X9_decided (gk_s μ 0 0) (nI u) (nI a) (nI r) N r19 ((gk_s μ 0 0).2 2) _) (fun N hN => ?_)
    refine lm_decided (T := told σ) (μ := gk_s μ 0 0) h.2.1 hw (lo_m1 hw h.2.2.2.1) hN hu ha hr ⟨rfl, fun _ => ?_, hI⟩
    rw [HG, show (gk_s μ 0 0).2 2 = σ.2 6 from h.2.1.1.2.2.2.2.2.2.1]
