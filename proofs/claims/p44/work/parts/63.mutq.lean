/-! ===== the gate's own methods, where nothing but their own rules refuses ===== -/
section MQ
variable {σ : gk_C}
theorem la_setLabel (h : gI σ) {r v : Nat} (hr : r < tT (told σ)) (hv : v ≤ 3) {Q : Int32 → gk_C → Prop} (hQ : gI (gk_r σ 8 (upd (σ.1 8) r (nI v))) → Q (σ.1 8 r) (gk_r σ 8 (upd (σ.1 8) r (nI v)))) : w_X8_setLabel σ (nI r) (nI v) Q := by
  have hT := (wf_T h.1).2.2
  unfold w_X8_setLabel
  refine lb_isRes (T := told σ) rfl h.1 ?_
  refine b2i_ok (vld_t hr (by omega)) ?_
  refine pm_up (n := 3) rfl hv (by decide) (one_ok ?_)
  rw [gk_at_in (show r < gk_rl 8 by show r < 24; omega), gk_put_in σ 8 r _ (show r < gk_rl 8 by show r < 24; omega) (by omega)]
  exact hQ (gI_setLabel h)
theorem la_setWall (h : gI σ) {r : Nat} {a b : Int32} (hr : r < tT (told σ)) (hab : a = (-1) ∨ (jN a 0 3 ∧ jN b 0 3)) {Q : Int32 → gk_C → Prop} (hQ : ∀ x, gI (gk_r (gk_r σ 9 (upd (σ.1 9) r a)) 10 (upd (σ.1 10) r b)) → Q x (gk_r (gk_r σ 9 (upd (σ.1 9) r a)) 10 (upd (σ.1 10) r b))) : w_X8_setWall σ (nI r) a b Q := by
  have hT := (wf_T h.1).2.2
  have fin : wJ_X8_setWall_34 Q σ (nI r) a b 1 := by
    unfold wJ_X8_setWall_34 wJ_X8_setWall_60
    refine one_ok ?_
    rw [gk_put_in σ 9 r _ (show r < gk_rl 9 by show r < 24; omega) (by omega), gk_put_in _ 10 r _ (show r < gk_rl 10 by show r < 24; omega) (by omega)]
    exact ⟨fun _ => ⟨gk_z0, hQ _ (gI_setWall h hab)⟩, fun _ => ⟨gk_z1, hQ _ (gI_setWall h hab)⟩⟩
  unfold w_X8_setWall
  refine lb_isRes (T := told σ) rfl h.1 ?_
  refine b2i_ok (vld_t hr (by omega)) ?_
  refine ⟨fun _ => fin, fun c => ?_⟩
  rcases hab with e | ⟨⟨i, _, hi, rfl⟩, ⟨j, _, hj, rfl⟩⟩
  · exact absurd e c
  · refine pm_up (n := 3) rfl hi (by decide) (pm_go1 ?_)
    refine pm_up (n := 3) rfl hj (by decide) (pm_go1 ?_)
    exact fin
theorem la_goOn (h : gI σ) {Q : Int32 → gk_C → Prop} (hQ : ∀ x, gI (gk_s σ 7 (σ.2 7 + 40)) → Q x (gk_s σ 7 (σ.2 7 + 40))) : w_X8_goOn σ 40 Q := by
  unfold w_X8_goOn
  refine ⟨fun q => absurd q (by decide), fun _ => ⟨fun q => absurd q (by decide), fun _ => ?_⟩⟩
  exact one_ok (hQ _ (gI_clock h))
theorem la_setRule (h : gI σ) {k b : Nat} {a : Int32} (hk : k < tL (told σ)) (ha : a = 0 ∨ a = 1) (hb : b ≤ 9) {Q : Int32 → gk_C → Prop} (hQ : gI (gk_r (gk_r σ 15 (upd (σ.1 15) k a)) 16 (upd (σ.1 16) k (nI b))) → Q (σ.1 16 k) (gk_r (gk_r σ 15 (upd (σ.1 15) k a)) 16 (upd (σ.1 16) k (nI b)))) : w_X8_setRule σ (nI k) a (nI b) Q := by
  have hL := (wf_L h.1).2
  have fin : ∀ t, t = a → wJ_X8_setRule_53 Q σ (nI k) (nI b) (gk_at σ 16 (nI k)) (nI k) t := by
    rintro t rfl
    unfold wJ_X8_setRule_53
    rw [gk_at_in (show k < gk_rl 16 by show k < 30; omega), gk_put_in σ 15 k _ (show k < gk_rl 15 by show k < 30; omega) (by omega), gk_put_in _ 16 k _ (show k < gk_rl 16 by show k < 30; omega) (by omega)]
    exact hQ (gI_setRule h ha ⟨b, by omega, hb, rfl⟩)
  unfold w_X8_setRule
  refine lb_isRule (T := told σ) rfl h.1 ?_
  refine b2i_ok (vld_t hk (by omega)) ?_
  refine pm_up (n := 9) rfl hb (by decide) (one_ok ?_)
  refine ⟨fun q => fin 0 q.symm, fun q => fin 1 ?_⟩
  rcases ha with e | e
  · exact absurd e q
  · exact e.symm
theorem la_setTerms (h : gI σ) {k a b c : Nat} (hk : k < tL (told σ)) (ha : a ≤ 255) (hb : b ≤ 23) (hc : c ≤ 23) {Q : Int32 → gk_C → Prop} (hQ : gI (gk_r (gk_r (gk_r σ 17 (upd (σ.1 17) k (nI a))) 18 (upd (σ.1 18) k (nI b))) 19 (upd (σ.1 19) k (nI c))) → Q (σ.1 17 k) (gk_r (gk_r (gk_r σ 17 (upd (σ.1 17) k (nI a))) 18 (upd (σ.1 18) k (nI b))) 19 (upd (σ.1 19) k (nI c)))) : w_X8_setTerms σ (nI k) (nI a) (nI b) (nI c) Q := by
  have hL := (wf_L h.1).2
  unfold w_X8_setTerms
  refine lb_isRule (T := told σ) rfl h.1 ?_
  refine b2i_ok (vld_t hk (by omega)) ?_
  refine pm_up (n := 255) rfl ha (by decide) (pm_go1 ?_)
  refine pm_up (n := 23) rfl hb (by decide) (pm_go1 ?_)
  refine pm_up (n := 23) rfl hc (by decide) (pm_go1 ?_)
  unfold wJ_X8_setTerms_42
  rw [gk_at_in (show k < gk_rl 17 by show k < 30; omega), gk_put_in σ 17 k _ (show k < gk_rl 17 by show k < 30; omega) (by omega), gk_put_in _ 18 k _ (show k < gk_rl 18 by show k < 30; omega) (by omega), gk_put_in _ 19 k _ (show k < gk_rl 19 by show k < 30; omega) (by omega)]
  exact one_ok (hQ (gI_setTerms h))
theorem la_grant (h : gI σ) {f t a r hn e : Nat} (hG : tG (told σ) < 30) (hf : f < tU (told σ)) (ht : t < tU (told σ)) (hft : ¬ f = t) (ha : a < 5) (hr : r < tT (told σ)) (hh : hn ≤ 3) (he : 1 ≤ e) (he2 : e ≤ 10000) {Q : Int32 → gk_C → Prop}
    (hQ : gI (gk_s (gk_r (gk_r (gk_r (gk_r (gk_r (gk_r σ 20 (upd (σ.1 20) (tG (told σ)) (nI f))) 21 (upd (σ.1 21) (tG (told σ)) (nI t))) 22 (upd (σ.1 22) (tG (told σ)) (nI a))) 23 (upd (σ.1 23) (tG (told σ)) (nI r))) 24 (upd (σ.1 24) (tG (told σ)) (nI hn))) 25 (upd (σ.1 25) (tG (told σ)) (σ.2 7 + nI e))) 5 (nI (tG (told σ) + 1))) → Q (nI (tG (told σ))) (gk_s (gk_r (gk_r (gk_r (gk_r (gk_r (gk_r σ 20 (upd (σ.1 20) (tG (told σ)) (nI f))) 21 (upd (σ.1 21) (tG (told σ)) (nI t))) 22 (upd (σ.1 22) (tG (told σ)) (nI a))) 23 (upd (σ.1 23) (tG (told σ)) (nI r))) 24 (upd (σ.1 24) (tG (told σ)) (nI hn))) 25 (upd (σ.1 25) (tG (told σ)) (σ.2 7 + nI e))) 5 (nI (tG (told σ) + 1)))) : w_X8_grant σ (nI f) (nI t) (nI a) (nI r) (nI hn) (nI e) Q := by
  have hs : σ.2 5 = nI (tG (told σ)) := (wf_G h.1).1
  have hU := (wf_U h.1).2
  have hT := (wf_T h.1).2.2
  have g : ∀ k, 20 ≤ k → k ≤ 25 → tG (told σ) < gk_rl k := fun k h1 h2 => by
    have e : k = 20 ∨ k = 21 ∨ k = 22 ∨ k = 23 ∨ k = 24 ∨ k = 25 := by omega
    rcases e with rfl | rfl | rfl | rfl | rfl | rfl <;> exact hG
  unfold w_X8_grant
  refine lb_isUser (T := told σ) rfl h.1 ?_
  refine b2i_yes (vld_t hf (by omega)) ?_
  refine lb_isUser (T := told σ) rfl h.1 ?_
  refine b2i_yes (vld_t ht (by omega)) ?_
  refine lb_isAction ?_
  refine b2i_yes (vld_t ha (by omega)) ?_
  refine lb_isRes (T := told σ) rfl h.1 ?_
  refine b2i_yes (vld_t hr (by omega)) ?_
  unfold wJ_X8_grant_37
  refine one_ok ⟨fun q => absurd ((nI_eq (by omega) (by omega)).mp q) hft, fun _ => ?_⟩
  refine pm_up (n := 3) rfl hh (by decide) (pm_go1 ?_)
  refine ⟨fun q => absurd q (nI_nlt (b := 1) he (by omega)), fun _ => ⟨fun q => absurd q (nI_nlt (a := 10000) he2 (by decide)), fun _ => ?_⟩⟩
  unfold wJ_X8_grant_73
  refine one_ok ?_
  rw [hs]
  refine ⟨fun q => absurd q (nI_ge (b := 30) hG (by decide)), fun _ => one_ok ?_⟩
  have key := hQ (gI_addGra (x4 := nI hn) (x5 := σ.2 7 + nI e) h hG hs hf ht ha hr)
  unfold w_X0_add
  rw [hs, gk_put_in σ 20 _ _ (g 20 (by decide) (by decide)) (by omega), gk_put_in _ 21 _ _ (g 21 (by decide) (by decide)) (by omega), gk_put_in _ 22 _ _ (g 22 (by decide) (by decide)) (by omega), gk_put_in _ 23 _ _ (g 23 (by decide) (by decide)) (by omega), gk_put_in _ 24 _ _ (g 24 (by decide) (by decide)) (by omega), gk_put_in _ 25 _ _ (g 25 (by decide) (by decide)) (by omega)]
  simp only [gr_2]
  rw [hs, nI_1]
  exact key
theorem la_addRule (h : gI σ) {al : Int32} {w ac r : Nat} (hL : tL (told σ) < 30) (hal : al = 0 ∨ al = 1) (hw : (w < tU (told σ)) ∨ (12 ≤ w ∧ w - 12 < tR (told σ))) (ha : 1 ≤ ac) (ha2 : ac ≤ 31) (hr : r < tT (told σ)) {Q : Int32 → gk_C → Prop}
    (hQ : gI (gk_s (gk_r (gk_r (gk_r (gk_r (gk_r (gk_r (gk_r (gk_r (gk_r σ 11 (upd (σ.1 11) (tL (told σ)) al)) 12 (upd (σ.1 12) (tL (told σ)) (nI w))) 13 (upd (σ.1 13) (tL (told σ)) (nI ac))) 14 (upd (σ.1 14) (tL (told σ)) (nI r))) 15 (upd (σ.1 15) (tL (told σ)) 0)) 16 (upd (σ.1 16) (tL (told σ)) 0)) 17 (upd (σ.1 17) (tL (told σ)) 0)) 18 (upd (σ.1 18) (tL (told σ)) 0)) 19 (upd (σ.1 19) (tL (told σ)) 23)) 4 (nI (tL (told σ) + 1))) → Q (nI (tL (told σ))) (gk_s (gk_r (gk_r (gk_r (gk_r (gk_r (gk_r (gk_r (gk_r (gk_r σ 11 (upd (σ.1 11) (tL (told σ)) al)) 12 (upd (σ.1 12) (tL (told σ)) (nI w))) 13 (upd (σ.1 13) (tL (told σ)) (nI ac))) 14 (upd (σ.1 14) (tL (told σ)) (nI r))) 15 (upd (σ.1 15) (tL (told σ)) 0)) 16 (upd (σ.1 16) (tL (told σ)) 0)) 17 (upd (σ.1 17) (tL (told σ)) 0)) 18 (upd (σ.1 18) (tL (told σ)) 0)) 19 (upd (σ.1 19) (tL (told σ)) 23)) 4 (nI (tL (told σ) + 1)))) : w_X8_addRule σ al (nI w) (nI ac) (nI r) Q := by
  have hs : σ.2 4 = nI (tL (told σ)) := (wf_L h.1).1
  have hU := (wf_U h.1).2
  have hR := (wf_R h.1).2
  have hT := (wf_T h.1).2.2
  have g : ∀ k, 11 ≤ k → k ≤ 19 → tL (told σ) < gk_rl k := fun k h1 h2 => by
    have e : k = 11 ∨ k = 12 ∨ k = 13 ∨ k = 14 ∨ k = 15 ∨ k = 16 ∨ k = 17 ∨ k = 18 ∨ k = 19 := by omega
    rcases e with rfl | rfl | rfl | rfl | rfl | rfl | rfl | rfl | rfl <;> exact hL
  have hwho : (∃ u, u < tU (told σ) ∧ nI w = nI u) ∨ ∃ r, r < tR (told σ) ∧ nI w = nI (12 + r) := by
    rcases hw with hw | ⟨h1, h2⟩
    · exact Or.inl ⟨w, hw, rfl⟩
    · exact Or.inr ⟨w - 12, h2, by rw [show 12 + (w - 12) = w by omega]⟩
  have key := hQ (gI_addRul (ac := nI ac) h hL hs hal hwho hr)
  have f21 : ∀ t, t = al → wJ_X3_add_21 (fun r99 σ99 => Q r99 σ99) σ (nI w) (nI ac) (nI r) (σ.2 4) (σ.2 4) t := by
    rintro t rfl
    unfold wJ_X3_add_21
    rw [hs, gk_put_in σ 11 _ _ (g 11 (by decide) (by decide)) (by omega), gk_put_in _ 12 _ _ (g 12 (by decide) (by decide)) (by omega), gk_put_in _ 13 _ _ (g 13 (by decide) (by decide)) (by omega), gk_put_in _ 14 _ _ (g 14 (by decide) (by decide)) (by omega), gk_put_in _ 15 _ _ (g 15 (by decide) (by decide)) (by omega), gk_put_in _ 16 _ _ (g 16 (by decide) (by decide)) (by omega), gk_put_in _ 17 _ _ (g 17 (by decide) (by decide)) (by omega), gk_put_in _ 18 _ _ (g 18 (by decide) (by decide)) (by omega), gk_put_in _ 19 _ _ (g 19 (by decide) (by decide)) (by omega)]
    simp only [gr_2]
    rw [hs, nI_1]
    exact key
  have f42 : wJ_X8_addRule_42 Q σ al (nI w) (nI ac) (nI r) 1 := by
    unfold wJ_X8_addRule_42
    refine one_ok ⟨fun q => absurd q (nI_nlt (b := 1) ha (by omega)), fun _ => ⟨fun q => absurd q (nI_nlt (a := 31) ha2 (by decide)), fun _ => ?_⟩⟩
    unfold wJ_X8_addRule_61
    refine one_ok ?_
    refine ⟨fun q => absurd q (by rw [hs]; exact nI_ge (b := 30) hL (by decide)), fun _ => one_ok ?_⟩
    unfold w_X3_add
    refine ⟨fun q => f21 0 q.symm, fun q => f21 1 ?_⟩
    rcases hal with e | e
    · exact absurd e q
    · exact e.symm
  have f28 : wJ_X8_addRule_28 (fun σ x1 x2 x3 x4 => (wJ_X8_addRule_41 (fun σ x1 x2 x3 x4 t0 => (wJ_X8_addRule_42 Q σ x1 x2 x3 x4 t0)) σ x1 x2 x3 x4)) (fun σ x1 x2 x3 x4 t0 => (wJ_X8_addRule_42 Q σ x1 x2 x3 x4 t0)) σ al (nI w) (nI ac) (nI r) := by
    unfold wJ_X8_addRule_28
    refine lb_isRes (T := told σ) rfl h.1 ?_
    exact b2i_yes (vld_t hr (by omega)) f42
  unfold w_X8_addRule
  refine ⟨fun c => ?_, fun c => ?_⟩
  · have hw2 : 12 ≤ w ∧ w - 12 < tR (told σ) := by
      rcases hw with e | e
      · exact absurd c (nI_ge (a := w) (b := 12) (by omega) (by decide))
      · exact e
    rw [show nI w - 12 = nI (w - 12) from nI_sub' (a := w) (b := 12) hw2.1]
    refine lb_isRole (T := told σ) rfl h.1 ?_
    exact b2i_yes (vld_t hw2.2 (by omega)) f28
  · have hw2 : w < tU (told σ) := by
      rcases hw with e | e
      · exact e
      · exact absurd (nI_le (a := 12) e.1 (by omega)) c
    refine lb_isUser (T := told σ) rfl h.1 ?_
    exact b2i_yes (vld_t hw2 (by omega)) f28
theorem la_dropRule (h : gI σ) {k : Nat} (hk : k < tL (told σ)) {Q : Int32 → gk_C → Prop} (hQ : gI (dpT σ (tL (told σ)) k) → Q (nI (tL (told σ) - 1)) (dpT σ (tL (told σ)) k)) : w_X8_dropRule σ (nI k) Q := by
  have hL := (wf_L h.1)
  have hs : σ.2 4 = nI (tL (told σ)) := hL.1
  have key := hQ (gI_drop h hk hL.2 hs)
  unfold w_X8_dropRule
  refine lb_isRule (T := told σ) rfl h.1 ?_
  refine b2i_ok (vld_t hk (by omega)) ?_
  unfold w_X3_drop
  rw [gs_at, show (gk_out (gk_out (gk_out (gk_out (gk_out (gk_out (gk_out (gk_out (gk_out σ 11 (nI k)) 12 (nI k)) 13 (nI k)) 14 (nI k)) 15 (nI k)) 16 (nI k)) 17 (nI k)) 18 (nI k)) 19 (nI k)).2 4 = σ.2 4 from rfl, hs, show nI (tL (told σ)) - 1 = nI (tL (told σ) - 1) from nI_sub' (a := tL (told σ)) (b := 1) (by omega)]
  exact key
theorem la_setWeighing {v : Nat} (hv : v ≤ 3) {Q : Int32 → gk_C → Prop} (hQ : Q (σ.2 6) (gk_s σ 6 (nI v))) : w_X8_setWeighing σ (nI v) Q := by
  unfold w_X8_setWeighing
  exact pm_up (n := 3) rfl hv (by decide) (one_ok hQ)
theorem la_setRole (h : gI σ) {u r : Nat} {a2 : Int32} (hu : u < tU (told σ)) (hr : r < tR (told σ)) {T : String → gk_C → Prop} {Q : Int32 → gk_C → Prop}
    (hT : ¬ a2 = 0 → rSplit ((told σ).1 5) (tR (told σ)) (hd (told σ) (aft (σ.1 2 u) (nI r) a2)) = true → T gk_E3 σ)
    (hQ : rSplit ((told σ).1 5) (tR (told σ)) (hd (told σ) (aft (σ.1 2 u) (nI r) a2)) = false → gI (gk_r σ 2 (upd (σ.1 2) u (aft (σ.1 2 u) (nI r) a2))) → Q (b2i (bt (σ.1 2 u) r)) (gk_r σ 2 (upd (σ.1 2) u (aft (σ.1 2 u) (nI r) a2)))) : w_X8_setRole σ (nI u) (nI r) a2 T Q := by
  have hw := h.1
  have hU := (wf_U hw).2
  have hR := (wf_R hw).2
  have hbd : bd (tR (told σ)) (σ.1 2 u) := fun i hi hb => hw.2.1.1 u hu i hi hb
  have less : a2 = 0 → rSplit ((told σ).1 5) (tR (told σ)) (hd (told σ) (aft (σ.1 2 u) (nI r) a2)) = false := fun c => by
    refine split_less (y := hd (told σ) (σ.1 2 u)) (fun i hi q => ?_) (by omega) (h.2.1.2.1 u hu)
    refine had_less hR (wf_bd hw) (wf_bd hw) hbd (bd_aft hbd hr (by omega)) (fun _ _ _ q => q) (fun i q => ?_) hi q
    unfold aft at q
    rw [if_pos c, b_and, Bool.and_eq_true] at q
    exact q.1
  have j61 : ∀ t, t = aft (σ.1 2 u) (nI r) a2 → wJ_X8_setRole_61 T Q σ (nI u) (nI r) (σ.1 2 u) t := fun t ht => by
    subst ht
    unfold wJ_X8_setRole_61 wJ_X8_setRole_93 w_X8_checkState
    refine lb_had (T := told σ) rfl hw ?_
    refine lb_split (T := told σ) rfl hw ?_
    refine b2i_go' _ (fun q => pm_go1' ?_) (fun q => pm_go0' ?_)
    · rw [lb_isIn _ (show r < 32 by omega), gk_put_in σ 2 u _ (show u < gk_rl 2 by show u < 12; omega) (by omega)]
      exact ⟨b2i_z _, hQ q (gI_setSet h hu (bd_aft hbd hr (by omega)) q)⟩
    · refine hT (fun c => ?_) q
      rw [less c] at q
      cases q
  unfold w_X8_setRole
  refine lb_isUser (T := told σ) rfl hw ?_
  refine b2i_yes (vld_t hu (by omega)) ?_
  refine lb_isRole (T := told σ) rfl hw ?_
  refine b2i_yes (vld_t hr (by omega)) ?_
  refine pm_go1' ?_
  rw [gk_at_in (show u < gk_rl 2 by show u < 12; omega)]
  exact ⟨fun c => j61 _ (by unfold aft; rw [if_pos c]), fun c => j61 _ (by unfold aft; rw [if_neg c])⟩
theorem la_setHolds (h : gI σ) {r x : Nat} {a2 : Int32} (hr : r < tR (told σ)) (hx : x < tR (told σ)) {T : String → gk_C → Prop} {Q : Int32 → gk_C → Prop}
    (h2 : (r = x ∨ (¬ a2 = 0 ∧ bt (hd (told σ) (1 <<< (nI x &&& 31))) r = true)) → T gk_E2 σ)
    (h3 : ¬ r = x → ¬ a2 = 0 → bt (hd (told σ) (1 <<< (nI x &&& 31))) r = false → wSp σ r (aft (σ.1 4 r) (nI x) a2) = true → T gk_E3 σ)
    (h4 : ¬ r = x → (a2 = 0 ∨ (bt (hd (told σ) (1 <<< (nI x &&& 31))) r = false ∧ wSp σ r (aft (σ.1 4 r) (nI x) a2) = false)) → gI (gk_r σ 4 (upd (σ.1 4) r (aft (σ.1 4 r) (nI x) a2))) → Q (b2i (bt (σ.1 4 r) x)) (gk_r σ 4 (upd (σ.1 4) r (aft (σ.1 4 r) (nI x) a2)))) : w_X8_setHolds σ (nI r) (nI x) a2 T Q := by
  have hw := h.1
  have hR := (wf_R hw).2
  have hbd : bd (tR (told σ)) (σ.1 4 r) := wf_bd hw r hr
  have hnv : bd (tR (told σ)) (aft (σ.1 4 r) (nI x) a2) := bd_aft hbd hx (by omega)
  have hat : gk_at σ 4 (nI r) = σ.1 4 r := gk_at_in (show r < gk_rl 4 by show r < 12; omega)
  have less : a2 = 0 → ∀ u, u < tU (told σ) → rSplit ((told σ).1 5) (tR (told σ)) (rH (upd (σ.1 4) r (aft (σ.1 4 r) (nI x) a2)) (tR (told σ)) (σ.1 2 u) 12) = false := fun c u hu => by
    have hb' : ∀ k, k < tR (told σ) → bd (tR (told σ)) (upd (σ.1 4) r (aft (σ.1 4 r) (nI x) a2) k) := fun k hk => by
      by_cases e : k = r
      · rw [e, up_at]; exact hnv
      · rw [up_ne _ _ e]; exact wf_bd hw k hk
    refine split_less (y := hd (told σ) (σ.1 2 u)) (fun i hi q => ?_) (by omega) (h.2.1.2.1 u hu)
    refine had_less hR (wf_bd hw) hb' (fun i hi q => hw.2.1.1 u hu i hi q) (fun i hi q => hw.2.1.1 u hu i hi q) (fun k i hk q => ?_) (fun _ q => q) hi q
    by_cases e : k = r
    · rw [e, up_at] at q
      unfold aft at q
      rw [if_pos c, b_and, Bool.and_eq_true] at q
      rw [e]; exact q.1
    · rw [up_ne _ _ e] at q; exact q
  have d : ¬ r = x → (a2 = 0 ∨ (bt (hd (told σ) (1 <<< (nI x &&& 31))) r = false ∧ wSp σ r (aft (σ.1 4 r) (nI x) a2) = false)) → Q (b2i (bt (σ.1 4 r) x)) (gk_r σ 4 (upd (σ.1 4) r (aft (σ.1 4 r) (nI x) a2))) := fun hne c => by
    refine h4 hne c (gI_setHolds h hnv ?_)
    rcases c with c | c
    · exact less c
    · exact fun u hu => rAny_f.mp c.2 u hu
  have j79 : ¬ r = x → (a2 = 0 ∨ (bt (hd (told σ) (1 <<< (nI x &&& 31))) r = false ∧ wSp σ r (aft (σ.1 4 r) (nI x) a2) = false)) → wJ_X8_setHolds_79 T Q σ (nI r) (nI x) a2 1 := fun hne c => by
    unfold wJ_X8_setHolds_79 w_X8_checkState wJ_X8_setHolds_130
    rw [hat, lb_isIn _ (show x < 32 by omega), lb_isIn _ (show x < 32 by omega), gk_put_in σ 4 r _ (show r < gk_rl 4 by show r < 12; omega) (by omega), gk_put_in σ 4 r _ (show r < gk_rl 4 by show r < 12; omega) (by omega)]
    have d := d hne c
    refine pm_go1' ?_
    refine ⟨fun c0 => ⟨b2i_z _, ?_⟩, fun c0 => ⟨b2i_z _, ?_⟩⟩
    · rw [show aft (σ.1 4 r) (nI x) a2 = σ.1 4 r &&& ((1 <<< (nI x &&& 31)) ^^^ (-1)) from if_pos c0] at d
      exact d
    · rw [show aft (σ.1 4 r) (nI x) a2 = σ.1 4 r ||| (1 <<< (nI x &&& 31)) from if_neg c0] at d
      exact d
  unfold w_X8_setHolds
  refine lb_isRole (T := told σ) rfl hw ?_
  refine b2i_yes (vld_t hr (by omega)) ?_
  refine lb_isRole (T := told σ) rfl hw ?_
  refine b2i_yes (vld_t hx (by omega)) ?_
  refine pm_go1' ⟨fun c => pm_go0' (h2 (Or.inl ((nI_eq (by omega) (by omega)).mp c))), fun c => ?_⟩
  have hne : ¬ r = x := fun e => c (by rw [e])
  refine ⟨fun c0 => pm_go1' ⟨fun _ => j79 hne (Or.inl c0), fun q => absurd c0 q⟩, fun c0 => ?_⟩
  refine lb_had (T := told σ) rfl hw ?_
  rw [lb_isIn _ (show r < 32 by omega)]
  refine b2i_go' _ (fun q => pm_go1' ⟨fun q2 => absurd q2 c0, fun _ => ?_⟩) (fun q => pm_go0' (h2 (Or.inr ⟨c0, q⟩)))
  have ea : σ.1 4 r ||| (1 <<< (nI x &&& 31)) = aft (σ.1 4 r) (nI x) a2 := by unfold aft; rw [if_neg c0]
  refine lb_splitSome hw h.2.1.2.1 hr hx ?_
  rw [ea]
  exact b2i_go' _ (fun q3 => j79 hne (Or.inr ⟨q, q3⟩)) (fun q3 => pm_go0' (h3 hne c0 q q3))
theorem la_setApart (h : gI σ) {r x : Nat} (hr : r < tR (told σ)) (hx : x < tR (told σ)) {T : String → gk_C → Prop} {Q : Int32 → gk_C → Prop}
    (h2 : r = x → T gk_E2 σ)
    (h3 : ¬ r = x → (decide (10 ≤ tP (told σ)) || (bt (σ.1 5 r) x || any2 σ r x)) = true → T gk_E3 σ)
    (h4 : ¬ r = x → tP (told σ) < 10 → bt (σ.1 5 r) x = false → any2 σ r x = false → gI (gk_s (gk_r σ 5 (apU (σ.1 5) r x)) 2 (nI (tP (told σ) + 1))) → Q (nI (tP (told σ) + 1)) (gk_s (gk_r σ 5 (apU (σ.1 5) r x)) 2 (nI (tP (told σ) + 1)))) : w_X8_setApart σ (nI r) (nI x) T Q := by
  have hw := h.1
  have hR := (wf_R hw).2
  have hP := wf_P hw
  have hs : σ.2 2 = nI (tP (told σ)) := hP.1
  unfold w_X8_setApart
  refine lb_isRole (T := told σ) rfl hw ?_
  refine b2i_yes (vld_t hr (by omega)) ?_
  refine lb_isRole (T := told σ) rfl hw ?_
  refine b2i_yes (vld_t hx (by omega)) ?_
  refine pm_go1' ⟨fun c => pm_go0' (h2 ((nI_eq (by omega) (by omega)).mp c)), fun c => pm_go1' ?_⟩
  have hrx : ¬ r = x := fun e => c (by rw [e])
  have bad : (decide (10 ≤ tP (told σ)) || (bt (σ.1 5 r) x || any2 σ r x)) = true → wJ_X8_setApart_86 T (fun σ x1 x2 t0 => (wJ_X8_setApart_87 T Q σ x1 x2 t0)) σ (nI r) (nI x) := fun q => pm_go0' (h3 hrx q)
  rw [gk_at_in (show r < gk_rl 5 by show r < 12; omega), lb_isIn _ (show x < 32 by omega)]
  refine b2i_go' _ (fun q => ?_) (fun q => bad (by rw [q]; simp))
  rw [hs]
  refine ⟨fun c10 => bad ?_, fun c10 => ?_⟩
  · have := (nI_leI (a := 10) (by decide) (by omega)).mp c10
    rw [decide_eq_true this]; rfl
  · have hlt : tP (told σ) < 10 := by
      rcases Nat.lt_or_ge (tP (told σ)) 10 with e | e
      · exact e
      · exact absurd (nI_le (a := 10) e (by omega)) c10
    refine lb_anyone hw (by omega) (by omega) ?_
    refine b2i_go' _ (fun q3 => pm_go1' ?_) (fun q3 => bad (by rw [q3]; simp))
    have key := h4 hrx hlt q q3 (gI_setApart h hr hx hrx hlt hs q q3)
    unfold w_X1_part
    rw [gk_at_in (show r < gk_rl 5 by show r < 12; omega), gk_put_in σ 5 r _ (show r < gk_rl 5 by show r < 12; omega) (by omega), gk_at_in (show x < gk_rl 5 by show x < 12; omega), gk_put_in _ 5 x _ (show x < gk_rl 5 by show x < 12; omega) (by omega), gr_at, up_ne _ _ (fun e => hrx e.symm), gr_2, gr_2, hs, nI_1, gs_at]
    have eS : gk_r (gk_r σ 5 (upd (σ.1 5) r (σ.1 5 r ||| (1 <<< (nI x &&& 31))))) 5 (upd (upd (σ.1 5) r (σ.1 5 r ||| (1 <<< (nI x &&& 31)))) x (σ.1 5 x ||| (1 <<< (nI r &&& 31)))) = gk_r σ 5 (apU (σ.1 5) r x) := by
      unfold gk_r va_up apU
      congr 1
      funext j
      by_cases e : j = 5 <;> simp [e]
    rw [eS]
    exact key
end MQ
