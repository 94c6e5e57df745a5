/-! ===== layer B: setRole, setHolds, setApart ===== -/
theorem lb_had {σ T : gk_C} (h : told σ = T) (hw : wf T) {s : Int32} {Q : Int32 → Prop} (hQ : Q (hd T s)) : w_X1_hadWith σ s Q := by
  have hR := wf_R hw
  refine lb_hadWith (nR := tR T) ((ts h (show 1 < 8 by decide)).trans hR.1) hR.2 ?_
  rw [tr h (show 4 < 26 by decide)]
  exact hQ
theorem lb_split {σ T : gk_C} (h : told σ = T) (hw : wf T) {x : Int32} {Q : Int32 → Prop} (hQ : Q (b2i (rSplit (T.1 5) (tR T) x))) : w_X1_isSplit σ x Q := by
  have hR := wf_R hw
  refine lb_isSplit (nR := tR T) ((ts h (show 1 < 8 by decide)).trans hR.1) hR.2 ?_
  rw [tr h (show 5 < 26 by decide)]
  exact hQ
theorem jI_setSet (σ μ : gk_C) (u : Nat) (v : Int32) (h : jI σ μ) (hu : u < tU (told σ)) (hv : bd (tR (told σ)) v) (hns : rSplit ((told σ).1 5) (tR (told σ)) (hd (told σ) v) = false) : jI (gk_r σ 2 (upd (σ.1 2) u v)) (gk_r μ 4 (upd (μ.1 4) u v)) := by
  obtain ⟨⟨w1, ws, w3⟩, ⟨m1, mu, mr⟩, ⟨x1, x2, x3⟩, h35, h33⟩ := h
  refine ⟨⟨w1, ⟨fun w hw i hi hb => ?_, ws.2⟩, w3⟩, ⟨m1, fun k hk => ⟨(mu k hk).1, (mu k hk).2.1, ?_⟩, mr⟩, ⟨fun w h1 h2 => ?_, fun w hw => ?_, x3⟩, h35, h33⟩
  · have hb : bt (upd (σ.1 2) u v w) i = true := hb
    by_cases e : w = u
    · rw [e, up_at] at hb; exact hv i hi hb
    · rw [up_ne _ _ e] at hb; exact ws.1 w hw i hi hb
  · exact upE (n := 12) u v (fun j hj => (mu j hj).2.2) k hk
  · show upd (σ.1 2) u v w = 0
    have h1 : tU (told σ) ≤ w := h1
    rw [up_ne _ _ (by omega)]; exact x1 w h1 h2
  · show rSplit (σ.1 5) (tR (told σ)) (rH (σ.1 4) (tR (told σ)) (upd (σ.1 2) u v w) 12) = false
    by_cases e : w = u
    · rw [e, up_at]; exact hns
    · rw [up_ne _ _ e]; exact x2 w hw
/-- the set after -/
def aft (b r : Int32) (x : Int32) : Int32 := if x = 0 then b &&& ((1 <<< (r &&& 31)) ^^^ (-1)) else b ||| (1 <<< (r &&& 31))
theorem bd_and {n : Nat} {x y : Int32} (hx : bd n x) : bd n (x &&& y) := fun i hi hb => by
  rw [b_and, Bool.and_eq_true] at hb
  exact hx i hi hb.1
theorem bd_aft {n r : Nat} {b x : Int32} (hb : bd n b) (hr : r < n) (h32 : n ≤ 32) : bd n (aft b (nI r) x) := by
  unfold aft
  by_cases c : x = 0
  · rw [if_pos c]; exact bd_and hb
  · rw [if_neg c]; exact bd_or hb (bd_bit hr h32)
def vUR (T : gk_C) (a0 a1 : Int32) : Bool := vld (tU T) a0 && vld (tR T) a1
theorem lm_setRole {σ μ : gk_C} (h : jI σ μ) {a0 a1 a2 : Int32} {Q : Int32 → gk_C → Prop}
    (h1 : vUR (told σ) a0 a1 = false → Q 0 (gk_s (gk_s μ 0 0) 0 1))
    (h2 : ∀ u r, u < tU (told σ) → r < tR (told σ) → a0 = nI u → a1 = nI r → ¬ a2 = 0 → rSplit ((told σ).1 5) (tR (told σ)) (hd (told σ) (aft (σ.1 2 u) a1 a2)) = true → Q 0 (gk_s (gk_s μ 0 0) 0 2))
    (h3 : ∀ u r, u < tU (told σ) → r < tR (told σ) → a0 = nI u → a1 = nI r → (a2 = 0 ∨ rSplit ((told σ).1 5) (tR (told σ)) (hd (told σ) (aft (σ.1 2 u) a1 a2)) = false) → Q (b2i (bt (σ.1 2 u) r)) (gk_r (gk_s μ 0 0) 4 (upd (μ.1 4) u (aft (σ.1 2 u) a1 a2)))) : w_X9_setRole μ a0 a1 a2 Q := by
  have hw := h.1
  have hU := (wf_U hw).2
  have hR := (wf_R hw).2
  have n1 : vUR (told σ) a0 a1 = false → wJ_X9_setRole_21 Q (gk_s μ 0 0) := fun q => ⟨gk_z0, h1 q⟩
  unfold w_X9_setRole
  refine lm_isUser (T := told σ) (μ := gk_s μ 0 0) h.2.1 hw ?_
  refine b2i_go _ (fun q => n1 (by unfold vUR; rw [q]; rfl)) (fun q1 => ?_)
  refine lm_isRole (T := told σ) (μ := gk_s μ 0 0) h.2.1 hw ?_
  refine b2i_go' _ (fun q => n1 (by unfold vUR; rw [q, Bool.and_false])) (fun q2 => ?_)
  obtain ⟨u, hu, rfl⟩ := vld_ex (by omega) q1
  obtain ⟨r, hr, rfl⟩ := vld_ex (by omega) q2
  have e4 : (gk_s μ 0 0).1 4 u = σ.1 2 u := (h.2.1.2.1 u (by omega)).2.2
  have hv := vp_in' (show u < 12 by omega) (by decide)
  have hbd : bd (tR (told σ)) (σ.1 2 u) := fun i hi hb => hw.2.1.1 u hu i hi hb
  rw [nI_clamp (show u < 2 ^ 31 by omega), b_get _ (show r < 32 by omega), e4]
  have j97 : ∀ b : Bool, b = bt (σ.1 2 u) r → (a2 = 0 ∨ rSplit ((told σ).1 5) (tR (told σ)) (hd (told σ) (aft (σ.1 2 u) (nI r) a2)) = false) → wJ_X9_setRole_97 Q (gk_s μ 0 0) (nI u) (b2i b) (aft (σ.1 2 u) (nI r) a2) := fun b hb c => by
    unfold wJ_X9_setRole_97
    refine ⟨hv, ?_⟩
    rintro _ rfl
    refine ⟨b2i_z _, ?_⟩
    rw [mk_st_in _ 4 u _ (by omega), hb]
    exact h3 u r hu hr rfl rfl c
  have j45 : ∀ b : Bool, b = bt (σ.1 2 u) r → wJ_X9_setRole_45 Q (gk_s μ 0 0) (nI u) (nI r) a2 (b2i b) := fun b hb => by
    have j76 : ∀ t, t = aft (σ.1 2 u) (nI r) a2 → wJ_X9_setRole_76 Q (gk_s μ 0 0) (nI u) a2 (b2i b) t := fun t ht => by
      subst ht
      unfold wJ_X9_setRole_76
      refine ⟨fun c => j97 b hb (Or.inl c), fun c => ?_⟩
      refine lm_hasApart (T := told σ) (μ := gk_s μ 0 0) h.2.1.1.2.1 h.2.1.1.2.2.1 h.2.1.2.2.2.1 h.2.1.2.2.2.2.2.2.2.2 hw (bd_aft hbd hr (by omega)) ?_
      exact b2i_go _ (fun q => j97 b hb (Or.inr q)) (fun q => ⟨gk_z0, h2 u r hu hr rfl rfl c q⟩)
    unfold wJ_X9_setRole_45
    rw [nI_clamp (show u < 2 ^ 31 by omega), e4]
    refine ⟨fun c => ⟨hv, j76 _ (by unfold aft; rw [if_pos c])⟩, fun c => ⟨hv, j76 _ (by unfold aft; rw [if_neg c])⟩⟩
  refine ⟨hv, ?_⟩
  exact b2i_go _ (fun q => j45 false q.symm) (fun q => j45 true q.symm)
theorem q_setRole : ∀ (σ μ : gk_C) (o : Int64), jI σ μ → ∀ (a0 a1 a2 : Int32), (a2 = 0 ∨ a2 = 1) → w_L_setRole σ o a0 a1 a2 (fun k σ1 o1 => w_X9_setRole μ a0 a1 a2 (fun r μ1 => μ1.2 0 = k ∧ (k = 0 → (¬ r = 0 → o1 = 1) ∧ (r = 0 → o1 = 0)) ∧ jI σ1 μ1)) := by
  intro σ μ o h a0 a1 a2 h01
  have hw := h.1
  have hU := (wf_U hw).2
  have hR := (wf_R hw).2
  unfold w_L_setRole w_X8_setRole
  have n1 : vUR (told σ) a0 a1 = false → w_X9_setRole μ a0 a1 a2 (fun r μ1 => μ1.2 0 = 1 ∧ ((1 : Int32) = 0 → (¬ r = 0 → o = 1) ∧ (r = 0 → o = 0)) ∧ jI σ μ1) := fun q => by
    refine lm_setRole h (fun _ => ⟨rfl, fun q => absurd q (by decide), h⟩) (fun u r hu hr e1 e2 => ?_) (fun u r hu hr e1 e2 => ?_) <;>
    · exfalso
      unfold vUR vld at q
      rw [e1, e2, decide_eq_false (nI_pos (by omega)), decide_eq_false (nI_ge hu (by omega)), decide_eq_false (nI_pos (by omega)), decide_eq_false (nI_ge hr (by omega))] at q
      cases q
  refine lb_isUser (T := told σ) rfl hw ?_
  refine b2i_go _ (fun q => ⟨fun q2 => absurd rfl q2, fun _ => Or.inl ⟨rfl, n1 (by unfold vUR; rw [q]; rfl)⟩⟩) (fun q1 => ?_)
  refine lb_isRole (T := told σ) rfl hw ?_
  refine b2i_go _ (fun q => ⟨fun q2 => absurd rfl q2, fun _ => Or.inl ⟨rfl, n1 (by unfold vUR; rw [q, Bool.and_false])⟩⟩) (fun q2 => ⟨fun _ => ?_, fun q => absurd q (by decide)⟩)
  have hv : vUR (told σ) a0 a1 = true := by unfold vUR; rw [q1, q2]; rfl
  obtain ⟨u, hu, rfl⟩ := vld_ex (by omega) q1
  obtain ⟨r, hr, rfl⟩ := vld_ex (by omega) q2
  have inj : ∀ {u' r' : Nat}, u' < tU (told σ) → r' < tR (told σ) → nI u = nI u' → nI r = nI r' → u' = u ∧ r' = r := fun h1 h2 e1 e2 => ⟨((nI_eq (by omega) (by omega)).mp e1).symm, ((nI_eq (by omega) (by omega)).mp e2).symm⟩
  have hbd : bd (tR (told σ)) (σ.1 2 u) := fun i hi hb => hw.2.1.1 u hu i hi hb
  rw [gk_at_in (show u < gk_rl 2 by show u < 12; omega)]
  -- taken away, nobody comes to have two
  have less : a2 = 0 → rSplit ((told σ).1 5) (tR (told σ)) (hd (told σ) (aft (σ.1 2 u) (nI r) a2)) = false := fun c => by
    refine split_less (y := hd (told σ) (σ.1 2 u)) (fun i hi q => ?_) (by omega) (h.2.2.1.2.1 u hu)
    refine had_less hR (wf_bd hw) (wf_bd hw) hbd (bd_aft hbd hr (by omega)) (fun _ _ _ q => q) (fun i q => ?_) hi q
    unfold aft at q
    rw [if_pos c, b_and, Bool.and_eq_true] at q
    exact q.1
  have j61 : ∀ t, t = aft (σ.1 2 u) (nI r) a2 → wJ_X8_setRole_61 (fun E u_1 => (E = gk_E1 ∧ w_X9_setRole μ (nI u) (nI r) a2 (fun r μ1 => μ1.2 0 = 1 ∧ ((1 : Int32) = 0 → (¬ r = 0 → o = 1) ∧ (r = 0 → o = 0)) ∧ jI u_1 μ1)) ∨ (E = gk_E3 ∧ w_X9_setRole μ (nI u) (nI r) a2 (fun r μ1 => μ1.2 0 = 2 ∧ ((2 : Int32) = 0 → (¬ r = 0 → o = 1) ∧ (r = 0 → o = 0)) ∧ jI u_1 μ1))) (fun r_1 u_1 => (¬ r_1 = 0 → w_X9_setRole μ (nI u) (nI r) a2 (fun r μ1 => μ1.2 0 = 0 ∧ ((0 : Int32) = 0 → (¬ r = 0 → (1 : Int64) = 1) ∧ (r = 0 → (1 : Int64) = 0)) ∧ jI u_1 μ1)) ∧ (r_1 = 0 → w_X9_setRole μ (nI u) (nI r) a2 (fun r μ1 => μ1.2 0 = 0 ∧ ((0 : Int32) = 0 → (¬ r = 0 → (0 : Int64) = 1) ∧ (r = 0 → (0 : Int64) = 0)) ∧ jI u_1 μ1))) σ (nI u) (nI r) (σ.1 2 u) t := fun t ht => by
    subst ht
    unfold wJ_X8_setRole_61 wJ_X8_setRole_93 w_X8_checkState
    refine lb_had (T := told σ) rfl hw ?_
    refine lb_split (T := told σ) rfl hw ?_
    refine b2i_go' _ (fun q => ⟨fun _ => ?_, fun q => absurd q (by decide)⟩) (fun q => ⟨fun q2 => absurd rfl q2, fun _ => Or.inr ⟨rfl, ?_⟩⟩)
    · rw [lb_isIn _ (show r < 32 by omega), gk_put_in σ 2 u _ (show u < gk_rl 2 by show u < 12; omega) (by omega)]
      refine ⟨b2i_z _, ?_⟩
      have key := jI_setSet σ (gk_s μ 0 0) u (aft (σ.1 2 u) (nI r) a2) h hu (bd_aft hbd hr (by omega)) q
      refine b2i_go' _ (fun q3 => ?_) (fun q3 => ?_)
      · refine lm_setRole h (fun q => by rw [hv] at q; cases q) (fun u' r' hu' hr' e1 e2 c q4 => ?_) (fun u' r' hu' hr' e1 e2 c => ?_)
        · obtain ⟨rfl, rfl⟩ := inj hu' hr' e1 e2
          rw [q] at q4; cases q4
        · obtain ⟨rfl, rfl⟩ := inj hu' hr' e1 e2
          rw [q3]
          exact ⟨rfl, fun _ => ⟨fun q => absurd rfl q, fun _ => rfl⟩, key⟩
      · refine lm_setRole h (fun q => by rw [hv] at q; cases q) (fun u' r' hu' hr' e1 e2 c q4 => ?_) (fun u' r' hu' hr' e1 e2 c => ?_)
        · obtain ⟨rfl, rfl⟩ := inj hu' hr' e1 e2
          rw [q] at q4; cases q4
        · obtain ⟨rfl, rfl⟩ := inj hu' hr' e1 e2
          rw [q3]
          exact ⟨rfl, fun _ => ⟨fun _ => rfl, fun q => absurd q (by decide)⟩, key⟩
    · refine lm_setRole h (fun q => by rw [hv] at q; cases q) (fun u' r' hu' hr' e1 e2 c q4 => ⟨rfl, fun q => absurd q (by decide), h⟩) (fun u' r' hu' hr' e1 e2 c => ?_)
      obtain ⟨rfl, rfl⟩ := inj hu' hr' e1 e2
      rcases c with c | c
      · rw [less c] at q; cases q
      · rw [q] at c; cases c
  exact ⟨fun c => j61 _ (by unfold aft; rw [if_pos c]), fun c => j61 _ (by unfold aft; rw [if_neg c])⟩
