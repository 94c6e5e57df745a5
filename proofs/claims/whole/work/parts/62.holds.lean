/-! ===== layer B: setHolds, setApart ===== -/
def vRR (T : gk_C) (a0 a1 : Int32) : Bool := vld (tR T) a0 && vld (tR T) a1
theorem vRR_ex {T : gk_C} (hw : wf T) {a0 a1 : Int32} (h : vRR T a0 a1 = true) : ∃ r x, r < tR T ∧ x < tR T ∧ a0 = nI r ∧ a1 = nI x := by
  unfold vRR at h
  rw [Bool.and_eq_true] at h
  have hR := (wf_R hw).2
  obtain ⟨r, h1, h2⟩ := vld_ex (by omega) h.1
  obtain ⟨x, h3, h4⟩ := vld_ex (by omega) h.2
  exact ⟨r, x, h1, h3, h2, h4⟩
/-- the told state with other holdings of one role -/
abbrev tH (σ : gk_C) (r : Nat) (nv : Int32) : gk_C := told (gk_r σ 4 (upd (σ.1 4) r nv))
theorem wf_tH {σ : gk_C} (hw : wf (told σ)) {r : Nat} {nv : Int32} (hb : bd (tR (told σ)) nv) : wf (tH σ r nv) := by
  obtain ⟨w1, ws, w3⟩ := hw
  refine ⟨w1, ⟨ws.1, fun k hk i hi q => ?_⟩, w3⟩
  have q : bt (upd (σ.1 4) r nv k) i = true := q
  by_cases e : k = r
  · rw [e, up_at] at q; exact hb i hi q
  · rw [up_ne _ _ e] at q; exact ws.2 k hk i hi q
theorem jI_setHolds (σ μ : gk_C) (r : Nat) (nv : Int32) (h : jI σ μ) (hb : bd (tR (told σ)) nv) (hns : ∀ u, u < tU (told σ) → rSplit ((told σ).1 5) (tR (told σ)) (rH (upd (σ.1 4) r nv) (tR (told σ)) (σ.1 2 u) 12) = false) : jI (gk_r σ 4 (upd (σ.1 4) r nv)) (gk_r μ 8 (upd (μ.1 8) r nv)) := by
  have hw := wf_tH (r := r) h.1 hb
  obtain ⟨hw0, ⟨m1, mu, md, mh, mr⟩, ⟨x1, x2, x3, x4⟩, h35, h33⟩ := h
  refine ⟨hw, ⟨m1, mu, md, upE (n := 12) r nv mh, mr⟩, ⟨x1, hns, fun k hk => ?_, x4⟩, h35, h33⟩
  show bd (tR (told σ)) (upd (σ.1 4) r nv k)
  by_cases e : k = r
  · rw [e, up_at]; exact hb
  · rw [up_ne _ _ e]; exact x3 k hk
/-- somebody would have two that are apart -/
def wSp (σ : gk_C) (r : Nat) (nv : Int32) : Bool := rAny (fun u => rSplit (σ.1 5) (tR (told σ)) (rH (upd (σ.1 4) r nv) (tR (told σ)) (σ.1 2 u) 12)) (tU (told σ))
theorem lm_setHolds {σ μ : gk_C} (h : jI σ μ) {a0 a1 a2 : Int32} {Q : Int32 → gk_C → Prop}
    (h1 : vRR (told σ) a0 a1 = false → Q 0 (gk_s (gk_s μ 0 0) 0 1))
    (h2 : ∀ r x, r < tR (told σ) → x < tR (told σ) → a0 = nI r → a1 = nI x → (r = x ∨ (¬ a2 = 0 ∧ bt (hd (told σ) (1 <<< (nI x &&& 31))) r = true)) → Q 0 (gk_s (gk_s μ 0 0) 0 2))
    (h3 : ∀ r x, r < tR (told σ) → x < tR (told σ) → a0 = nI r → a1 = nI x → ¬ r = x → ¬ a2 = 0 → bt (hd (told σ) (1 <<< (nI x &&& 31))) r = false → wSp σ r (aft (σ.1 4 r) a1 a2) = true → Q 0 (gk_s (gk_r (gk_r (gk_s μ 0 0) 8 (upd (μ.1 8) r (aft (σ.1 4 r) a1 a2))) 8 (upd (upd (μ.1 8) r (aft (σ.1 4 r) a1 a2)) r (μ.1 8 r))) 0 3))
    (h4 : ∀ r x, r < tR (told σ) → x < tR (told σ) → a0 = nI r → a1 = nI x → ¬ r = x → (a2 = 0 ∨ (bt (hd (told σ) (1 <<< (nI x &&& 31))) r = false ∧ wSp σ r (aft (σ.1 4 r) a1 a2) = false)) → Q (b2i (bt (σ.1 4 r) x)) (gk_r (gk_s μ 0 0) 8 (upd (μ.1 8) r (aft (σ.1 4 r) a1 a2)))) : w_X9_setHolds μ a0 a1 a2 Q := by
  have hw := h.1
  have hR := (wf_R hw).2
  have n1 : vRR (told σ) a0 a1 = false → wJ_X9_setHolds_21 Q (gk_s μ 0 0) := fun q => ⟨gk_z0, h1 q⟩
  unfold w_X9_setHolds
  refine lm_isRole (T := told σ) (μ := gk_s μ 0 0) h.2.1 hw ?_
  refine b2i_go _ (fun q => n1 (by unfold vRR; rw [q]; rfl)) (fun q1 => ?_)
  refine lm_isRole (T := told σ) (μ := gk_s μ 0 0) h.2.1 hw ?_
  refine b2i_go' _ (fun q => n1 (by unfold vRR; rw [q, Bool.and_false])) (fun q2 => ?_)
  obtain ⟨r, hr, rfl⟩ := vld_ex (by omega) q1
  obtain ⟨x, hx, rfl⟩ := vld_ex (by omega) q2
  have e8 : ∀ k, k < 12 → (gk_s μ 0 0).1 8 k = σ.1 4 k := h.2.1.2.2.2.1
  have hv := vp_in' (show r < 12 by omega) (by decide)
  have hbd : bd (tR (told σ)) (σ.1 4 r) := wf_bd hw r hr
  have hnv : bd (tR (told σ)) (aft (σ.1 4 r) (nI x) a2) := bd_aft hbd hx (by omega)
  have j56 : ¬ r = x → (a2 = 0 ∨ bt (hd (told σ) (1 <<< (nI x &&& 31))) r = false) → wJ_X9_setHolds_56 Q (gk_s μ 0 0) (nI r) (nI x) a2 := fun hne c => by
    have j110 : ∀ b : Bool, b = bt (σ.1 4 r) x → ∀ t, t = aft (σ.1 4 r) (nI x) a2 → wJ_X9_setHolds_110 Q (gk_s μ 0 0) (nI r) a2 (b2i b) (σ.1 4 r) (nI r) t := fun b hb t ht => by
      subst ht
      unfold wJ_X9_setHolds_110
      refine ⟨hv, ?_⟩
      rintro _ rfl
      rw [mk_st_in _ 8 r _ (by omega)]
      refine ⟨fun c0 => ⟨b2i_z _, ?_⟩, fun c0 => ?_⟩
      · rw [hb]; exact h4 r x hr hx rfl rfl hne (Or.inl c0)
      · have c1 := c.resolve_left c0
        refine lm_allRight (T := tH σ r (aft (σ.1 4 r) (nI x) a2)) (μ := gk_r (gk_s μ 0 0) 8 (upd ((gk_s μ 0 0).1 8) r (aft (σ.1 4 r) (nI x) a2))) h.2.1.1.1 h.2.1.1.2.1 h.2.1.1.2.2.1 (upE (n := 12) r _ e8) (fun u hu => (h.2.1.2.1 u hu).2.2) h.2.1.2.2.2.2.2.2.2.2 (wf_tH hw hnv) ?_
        refine b2i_go' _ (fun q => ⟨hv, ?_⟩) (fun q => ⟨b2i_z _, ?_⟩)
        · rintro _ rfl
          rw [mk_st_in _ 8 r _ (by omega)]
          refine ⟨gk_z0, ?_⟩
          have q' : (!wSp σ r (aft (σ.1 4 r) (nI x) a2)) = false := q
          have h3' := h3 r x hr hx rfl rfl hne c0 c1 (by simpa using q')
          rw [show μ.1 8 r = σ.1 4 r from e8 r (by omega)] at h3'
          exact h3'
        · rw [hb]
          have q' : (!wSp σ r (aft (σ.1 4 r) (nI x) a2)) = true := q
          exact h4 r x hr hx rfl rfl hne (Or.inr ⟨c1, by simpa using q'⟩)
    have j74 : ∀ b : Bool, b = bt (σ.1 4 r) x → wJ_X9_setHolds_74 Q (gk_s μ 0 0) (nI r) (nI x) a2 (b2i b) := fun b hb => by
      unfold wJ_X9_setHolds_74
      rw [nI_clamp (show r < 2 ^ 31 by omega), e8 r (by omega)]
      refine ⟨hv, fun c0 => j110 b hb _ (by unfold aft; rw [if_pos c0]), fun c0 => j110 b hb _ (by unfold aft; rw [if_neg c0])⟩
    unfold wJ_X9_setHolds_56
    rw [nI_clamp (show r < 2 ^ 31 by omega), e8 r (by omega), b_get _ (show x < 32 by omega)]
    exact ⟨hv, b2i_go _ (fun q => j74 false q.symm) (fun q => j74 true q.symm)⟩
  refine ⟨fun c => ⟨gk_z0, h2 r x hr hx rfl rfl (Or.inl ((nI_eq (by omega) (by omega)).mp c))⟩, fun c => ?_⟩
  have hne : ¬ r = x := fun e => c (by rw [e])
  refine ⟨fun c0 => j56 hne (Or.inl c0), fun c0 => ?_⟩
  refine lm_had (T := told σ) (μ := gk_s μ 0 0) h.2.1.1.2.1 h.2.1.2.2.2.1 hw (bd_bit hx (by omega)) ?_
  rw [b_get _ (show r < 32 by omega)]
  exact b2i_go _ (fun q => j56 hne (Or.inr q)) (fun q => ⟨gk_z0, h2 r x hr hx rfl rfl (Or.inr ⟨c0, q⟩)⟩)
theorem lb_splitSome {σ : gk_C} (hw : wf (told σ)) (hns : ∀ u, u < tU (told σ) → rSplit ((told σ).1 5) (tR (told σ)) (hd (told σ) ((told σ).1 2 u)) = false) {r x : Nat} (hr : r < tR (told σ)) (hx : x < tR (told σ)) {Q : Int32 → gk_C → Prop} (hQ : Q (b2i (wSp σ r (σ.1 4 r ||| (1 <<< (nI x &&& 31))))) σ) : w_X8_wouldSplitSomeone σ (nI r) (nI x) Q := by
  have hU := wf_U hw
  have hR := (wf_R hw).2
  have hn : σ.2 0 = nI (tU (told σ)) := hU.1
  have eq : ∀ u, u < tU (told σ) → rSplit (σ.1 5) (tR (told σ)) (rH (upd (σ.1 4) r (σ.1 4 r ||| (1 <<< (nI x &&& 31)))) (tR (told σ)) (σ.1 2 u) 12) = (bt (hd (told σ) (σ.1 2 u)) r && rSplit (σ.1 5) (tR (told σ)) (hd (told σ) (σ.1 2 u) ||| hd (told σ) (1 <<< (nI x &&& 31)))) := fun u hu => by
    rw [had_more (h := σ.1 4) (s := σ.1 2 u) hR (wf_bd hw) (fun i hi q => hw.2.1.1 u hu i hi q) hr hx]
    by_cases c : bt (rH (σ.1 4) (tR (told σ)) (σ.1 2 u) 12) r = true
    · rw [if_pos c, show bt (hd (told σ) (σ.1 2 u)) r = true from c, Bool.true_and]
      rfl
    · have c' : bt (rH (σ.1 4) (tR (told σ)) (σ.1 2 u) 12) r = false := by simpa using c
      rw [if_neg c, show bt (hd (told σ) (σ.1 2 u)) r = false from c', Bool.false_and]
      exact hns u hu
  unfold w_X8_wouldSplitSomeone
  refine lb_had (T := told σ) rfl hw ?_
  have l := lpUp (A := Unit) (n := tU (told σ)) (W := fun f u _ => wL_X8_wouldSplitSomeone_17 Q f σ (nI r) (hd (told σ) (1 <<< (nI x &&& 31))) (nI u)) (J := fun u _ => ∀ w, w < u → rSplit (σ.1 5) (tR (told σ)) (rH (upd (σ.1 4) r (σ.1 4 r ||| (1 <<< (nI x &&& 31)))) (tR (told σ)) (σ.1 2 w) 12) = false) ?_ ?_ (tU (told σ)) 0 () (Nat.zero_add _) (fun w hw => absurd hw (by omega))
  · exact ⟨_, l⟩
  · intro f _ hz
    unfold wL_X8_wouldSplitSomeone_17
    rw [hn]
    refine ⟨fun _ => ?_, fun q => absurd (nI_le (Nat.le_refl _) (by omega)) q⟩
    unfold wSp at hQ
    rw [rAny_f.mpr hz] at hQ
    exact hQ
  · intro f u _ hu hz next
    unfold wL_X8_wouldSplitSomeone_17
    rw [hn, nI_1 u, gk_at_in (show u < gk_rl 2 by show u < 12; omega)]
    refine ⟨fun q => absurd q (nI_ge hu (by omega)), fun _ => ?_⟩
    have stay : (bt (hd (told σ) (σ.1 2 u)) r && rSplit (σ.1 5) (tR (told σ)) (hd (told σ) (σ.1 2 u) ||| hd (told σ) (1 <<< (nI x &&& 31)))) = false → wL_X8_wouldSplitSomeone_17 Q f σ (nI r) (hd (told σ) (1 <<< (nI x &&& 31))) (nI (u + 1)) := fun q => next () (fun w hw => by
      by_cases e : w = u
      · rw [e, eq u hu]; exact q
      · exact hz w (by omega))
    refine lb_had (T := told σ) rfl hw ?_
    rw [lb_isIn _ (show r < 32 by omega)]
    refine b2i_go _ (fun q => stay (by rw [q]; rfl)) (fun q => ?_)
    refine lb_split (T := told σ) rfl hw ?_
    refine b2i_go _ (fun q2 => stay (by rw [show rSplit (σ.1 5) (tR (told σ)) (hd (told σ) (σ.1 2 u) ||| hd (told σ) (1 <<< (nI x &&& 31))) = false from q2, Bool.and_false])) (fun q2 => ?_)
    unfold wSp at hQ
    rw [rAny_t.mpr ⟨u, hu, by rw [eq u hu, q, show rSplit (σ.1 5) (tR (told σ)) (hd (told σ) (σ.1 2 u) ||| hd (told σ) (1 <<< (nI x &&& 31))) = true from q2]; rfl⟩] at hQ
    exact hQ
theorem q_setHolds : ∀ (σ μ : gk_C) (o : Int64), jI σ μ → ∀ (a0 a1 a2 : Int32), (a2 = 0 ∨ a2 = 1) → w_L_setHolds σ o a0 a1 a2 (fun k σ1 o1 => w_X9_setHolds μ a0 a1 a2 (fun r μ1 => μ1.2 0 = k ∧ (k = 0 → (¬ r = 0 → o1 = 1) ∧ (r = 0 → o1 = 0)) ∧ jI σ1 μ1)) := by
  intro σ μ o h a0 a1 a2 h01
  have hw := h.1
  have hR := (wf_R hw).2
  unfold w_L_setHolds w_X8_setHolds
  have n1 : vRR (told σ) a0 a1 = false → w_X9_setHolds μ a0 a1 a2 (fun r μ1 => μ1.2 0 = 1 ∧ ((1 : Int32) = 0 → (¬ r = 0 → o = 1) ∧ (r = 0 → o = 0)) ∧ jI σ μ1) := fun q => by
    refine lm_setHolds h (fun _ => ⟨rfl, fun q => absurd q (by decide), h⟩) (fun r x hr hx e1 e2 => ?_) (fun r x hr hx e1 e2 => ?_) (fun r x hr hx e1 e2 => ?_) <;>
    · exfalso
      unfold vRR vld at q
      rw [e1, e2, decide_eq_false (nI_pos (by omega)), decide_eq_false (nI_ge hr (by omega)), decide_eq_false (nI_pos (by omega)), decide_eq_false (nI_ge hx (by omega))] at q
      cases q
  refine lb_isRole (T := told σ) rfl hw ?_
  refine b2i_go _ (fun q => ⟨fun q2 => absurd rfl q2, fun _ => Or.inl ⟨rfl, n1 (by unfold vRR; rw [q]; rfl)⟩⟩) (fun q1 => ?_)
  refine lb_isRole (T := told σ) rfl hw ?_
  refine b2i_go _ (fun q => ⟨fun q2 => absurd rfl q2, fun _ => Or.inl ⟨rfl, n1 (by unfold vRR; rw [q, Bool.and_false])⟩⟩) (fun q2 => ⟨fun _ => ?_, fun q => absurd q (by decide)⟩)
  have hv : vRR (told σ) a0 a1 = true := by unfold vRR; rw [q1, q2]; rfl
  obtain ⟨r, hr, rfl⟩ := vld_ex (by omega) q1
  obtain ⟨x, hx, rfl⟩ := vld_ex (by omega) q2
  have inj : ∀ {r' x' : Nat}, r' < tR (told σ) → x' < tR (told σ) → nI r = nI r' → nI x = nI x' → r' = r ∧ x' = x := fun h1 h2 e1 e2 => ⟨((nI_eq (by omega) (by omega)).mp e1).symm, ((nI_eq (by omega) (by omega)).mp e2).symm⟩
  have hbd : bd (tR (told σ)) (σ.1 4 r) := wf_bd hw r hr
  have hnv : bd (tR (told σ)) (aft (σ.1 4 r) (nI x) a2) := bd_aft hbd hx (by omega)
  have hat : gk_at σ 4 (nI r) = σ.1 4 r := gk_at_in (show r < gk_rl 4 by show r < 12; omega)
  have less : a2 = 0 → ∀ u, u < tU (told σ) → rSplit ((told σ).1 5) (tR (told σ)) (rH (upd (σ.1 4) r (aft (σ.1 4 r) (nI x) a2)) (tR (told σ)) (σ.1 2 u) 12) = false := fun c u hu => by
    have hb' : ∀ k, k < tR (told σ) → bd (tR (told σ)) (upd (σ.1 4) r (aft (σ.1 4 r) (nI x) a2) k) := fun k hk => by
      by_cases e : k = r
      · rw [e, up_at]; exact hnv
      · rw [up_ne _ _ e]; exact wf_bd hw k hk
    refine split_less (y := hd (told σ) (σ.1 2 u)) (fun i hi q => ?_) (by omega) (h.2.2.1.2.1 u hu)
    refine had_less hR (wf_bd hw) hb' (fun i hi q => hw.2.1.1 u hu i hi q) (fun i hi q => hw.2.1.1 u hu i hi q) (fun k i hk q => ?_) (fun _ q => q) hi q
    by_cases e : k = r
    · rw [e, up_at] at q
      unfold aft at q
      rw [if_pos c, b_and, Bool.and_eq_true] at q
      rw [e]; exact q.1
    · rw [up_ne _ _ e] at q; exact q
  -- it is done
  have done : ¬ r = x → (a2 = 0 ∨ (bt (hd (told σ) (1 <<< (nI x &&& 31))) r = false ∧ wSp σ r (aft (σ.1 4 r) (nI x) a2) = false)) → ∀ b : Bool, b = bt (σ.1 4 r) x → w_X9_setHolds μ (nI r) (nI x) a2 (fun r_1 μ1 => μ1.2 0 = 0 ∧ ((0 : Int32) = 0 → (¬ r_1 = 0 → (if b = true then (1 : Int64) else 0) = 1) ∧ (r_1 = 0 → (if b = true then (1 : Int64) else 0) = 0)) ∧ jI (gk_r σ 4 (upd (σ.1 4) r (aft (σ.1 4 r) (nI x) a2))) μ1) := fun hne c b hb => by
    have hns : ∀ u, u < tU (told σ) → rSplit ((told σ).1 5) (tR (told σ)) (rH (upd (σ.1 4) r (aft (σ.1 4 r) (nI x) a2)) (tR (told σ)) (σ.1 2 u) 12) = false := by
      rcases c with c | c
      · exact less c
      · exact fun u hu => rAny_f.mp c.2 u hu
    have key := jI_setHolds σ (gk_s μ 0 0) r (aft (σ.1 4 r) (nI x) a2) h hnv hns
    refine lm_setHolds h (fun q => by rw [hv] at q; cases q) (fun r' x' hr' hx' e1 e2 c2 => ?_) (fun r' x' hr' hx' e1 e2 c1 c2 c3 c4 => ?_) (fun r' x' hr' hx' e1 e2 c1 c2 => ?_)
    · obtain ⟨rfl, rfl⟩ := inj hr' hx' e1 e2
      exfalso
      rcases c2 with c2 | ⟨c2, c3⟩
      · exact hne c2
      · rcases c with c | c
        · exact c2 c
        · rw [c.1] at c3; cases c3
    · obtain ⟨rfl, rfl⟩ := inj hr' hx' e1 e2
      exfalso
      rcases c with c | c
      · exact c2 c
      · rw [c.2] at c4; cases c4
    · obtain ⟨rfl, rfl⟩ := inj hr' hx' e1 e2
      rw [← hb]
      cases b
      · exact ⟨rfl, fun _ => ⟨fun q => absurd rfl q, fun _ => rfl⟩, key⟩
      · exact ⟨rfl, fun _ => ⟨fun _ => rfl, fun q => absurd q (by decide)⟩, key⟩
  have bad2 : (r = x ∨ (¬ a2 = 0 ∧ bt (hd (told σ) (1 <<< (nI x &&& 31))) r = true)) → w_X9_setHolds μ (nI r) (nI x) a2 (fun r_1 μ1 => μ1.2 0 = 2 ∧ ((2 : Int32) = 0 → (¬ r_1 = 0 → o = 1) ∧ (r_1 = 0 → o = 0)) ∧ jI σ μ1) := fun c => by
    refine lm_setHolds h (fun q => by rw [hv] at q; cases q) (fun r' x' hr' hx' e1 e2 c2 => ⟨rfl, fun q => absurd q (by decide), h⟩) (fun r' x' hr' hx' e1 e2 c1 c2 c3 c4 => ?_) (fun r' x' hr' hx' e1 e2 c1 c2 => ?_)
    · obtain ⟨rfl, rfl⟩ := inj hr' hx' e1 e2
      exfalso
      rcases c with c | c
      · exact c1 c
      · rw [c.2] at c3; cases c3
    · obtain ⟨rfl, rfl⟩ := inj hr' hx' e1 e2
      exfalso
      rcases c with c | c
      · exact c1 c
      · rcases c2 with c2 | c2
        · exact c.1 c2
        · rw [c.2] at c2; cases c2.1
  have bad3 : ¬ r = x → ¬ a2 = 0 → bt (hd (told σ) (1 <<< (nI x &&& 31))) r = false → wSp σ r (aft (σ.1 4 r) (nI x) a2) = true → w_X9_setHolds μ (nI r) (nI x) a2 (fun r_1 μ1 => μ1.2 0 = 3 ∧ ((3 : Int32) = 0 → (¬ r_1 = 0 → o = 1) ∧ (r_1 = 0 → o = 0)) ∧ jI σ μ1) := fun hne c0 cb cs => by
    refine lm_setHolds h (fun q => by rw [hv] at q; cases q) (fun r' x' hr' hx' e1 e2 c2 => ?_) (fun r' x' hr' hx' e1 e2 c1 c2 c3 c4 => ?_) (fun r' x' hr' hx' e1 e2 c1 c2 => ?_)
    · obtain ⟨rfl, rfl⟩ := inj hr' hx' e1 e2
      exfalso
      rcases c2 with c2 | ⟨c2, c3⟩
      · exact hne c2
      · rw [cb] at c3; cases c3
    · obtain ⟨rfl, rfl⟩ := inj hr' hx' e1 e2
      refine ⟨rfl, fun q => absurd q (by decide), ?_⟩
      obtain ⟨g1, ⟨m1, mu, md, mh, mr⟩, g3⟩ := h
      refine ⟨g1, ⟨m1, mu, md, fun k hk => ?_, mr⟩, g3⟩
      show upd (upd (μ.1 8) r' _) r' (μ.1 8 r') k = σ.1 4 k
      by_cases e : k = r'
      · rw [e, up_at]; exact mh r' (by omega)
      · rw [up_ne _ _ e, up_ne _ _ e]; exact mh k hk
    · obtain ⟨rfl, rfl⟩ := inj hr' hx' e1 e2
      exfalso
      rcases c2 with c2 | c2
      · exact c0 c2
      · rw [cs] at c2; cases c2.2
  have j79 : ¬ r = x → (a2 = 0 ∨ (bt (hd (told σ) (1 <<< (nI x &&& 31))) r = false ∧ wSp σ r (aft (σ.1 4 r) (nI x) a2) = false)) → wJ_X8_setHolds_79 (fun E u => (E = gk_E1 ∧ w_X9_setHolds μ (nI r) (nI x) a2 (fun r μ1 => μ1.2 0 = 1 ∧ ((1 : Int32) = 0 → (¬ r = 0 → o = 1) ∧ (r = 0 → o = 0)) ∧ jI u μ1)) ∨ (E = gk_E2 ∧ w_X9_setHolds μ (nI r) (nI x) a2 (fun r μ1 => μ1.2 0 = 2 ∧ ((2 : Int32) = 0 → (¬ r = 0 → o = 1) ∧ (r = 0 → o = 0)) ∧ jI u μ1)) ∨ (E = gk_E3 ∧ w_X9_setHolds μ (nI r) (nI x) a2 (fun r μ1 => μ1.2 0 = 3 ∧ ((3 : Int32) = 0 → (¬ r = 0 → o = 1) ∧ (r = 0 → o = 0)) ∧ jI u μ1))) (fun r_1 u => (¬ r_1 = 0 → w_X9_setHolds μ (nI r) (nI x) a2 (fun r μ1 => μ1.2 0 = 0 ∧ ((0 : Int32) = 0 → (¬ r = 0 → (1 : Int64) = 1) ∧ (r = 0 → (1 : Int64) = 0)) ∧ jI u μ1)) ∧ (r_1 = 0 → w_X9_setHolds μ (nI r) (nI x) a2 (fun r μ1 => μ1.2 0 = 0 ∧ ((0 : Int32) = 0 → (¬ r = 0 → (0 : Int64) = 1) ∧ (r = 0 → (0 : Int64) = 0)) ∧ jI u μ1))) σ (nI r) (nI x) a2 1 := fun hne c => by
    unfold wJ_X8_setHolds_79 w_X8_checkState wJ_X8_setHolds_130
    rw [hat, lb_isIn _ (show x < 32 by omega), lb_isIn _ (show x < 32 by omega), gk_put_in σ 4 r _ (show r < gk_rl 4 by show r < 12; omega) (by omega), gk_put_in σ 4 r _ (show r < gk_rl 4 by show r < 12; omega) (by omega)]
    have d := done hne c
    refine ⟨fun _ => ?_, fun q => absurd q (by decide)⟩
    refine ⟨fun c0 => ⟨b2i_z _, ?_⟩, fun c0 => ⟨b2i_z _, ?_⟩⟩
    · rw [show aft (σ.1 4 r) (nI x) a2 = σ.1 4 r &&& ((1 <<< (nI x &&& 31)) ^^^ (-1)) from if_pos c0] at d
      exact b2i_go' _ (fun q => d false q.symm) (fun q => d true q.symm)
    · rw [show aft (σ.1 4 r) (nI x) a2 = σ.1 4 r ||| (1 <<< (nI x &&& 31)) from if_neg c0] at d
      exact b2i_go' _ (fun q => d false q.symm) (fun q => d true q.symm)
  refine ⟨fun c => ?_, fun c => ?_⟩
  · exact ⟨fun q => absurd rfl q, fun _ => Or.inr (Or.inl ⟨rfl, bad2 (Or.inl ((nI_eq (by omega) (by omega)).mp c))⟩)⟩
  · have hne : ¬ r = x := fun e => c (by rw [e])
    refine ⟨fun c0 => ⟨fun _ => ⟨fun _ => j79 hne (Or.inl c0), fun q => absurd c0 q⟩, fun q => absurd q (by decide)⟩, fun c0 => ?_⟩
    refine lb_had (T := told σ) rfl hw ?_
    rw [lb_isIn _ (show r < 32 by omega)]
    refine b2i_go' _ (fun q => ⟨fun _ => ⟨fun q2 => absurd q2 c0, fun _ => ?_⟩, fun q => absurd q (by decide)⟩) (fun q => ⟨fun q => absurd rfl q, fun _ => Or.inr (Or.inl ⟨rfl, bad2 (Or.inr ⟨c0, q⟩)⟩)⟩)
    have ea : σ.1 4 r ||| (1 <<< (nI x &&& 31)) = aft (σ.1 4 r) (nI x) a2 := by unfold aft; rw [if_neg c0]
    refine lb_splitSome hw h.2.2.1.2.1 hr hx ?_
    rw [ea]
    refine b2i_go' _ (fun q3 => j79 hne (Or.inr ⟨q, q3⟩)) (fun q3 => ⟨fun q => absurd rfl q, fun _ => Or.inr (Or.inr ⟨rfl, bad3 hne c0 q q3⟩)⟩)
