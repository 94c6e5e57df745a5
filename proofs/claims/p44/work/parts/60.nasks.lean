/-! ===== what the gate answers, in the words of what is told, where the question is fair ===== -/
/-- the gate with T told, and the counts C -/
def nT (T : gk_C) (C : Nat → Int32) (σ : gk_C) : Prop := told σ = T ∧ ∀ k, σ.1 38 k = C k
theorem nT_sV {T : gk_C} {C : Nat → Int32} {v : Nat} {σ σ1 : gk_C} (h : nT T C σ) (hv : v < 2) (hS : sV v σ σ1) : nT T C σ1 := ⟨sV_told hS h.1, fun k => by rw [hS.1 38 (by omega)]; exact h.2 k⟩
theorem nT_6 {T : gk_C} {C : Nat → Int32} {σ : gk_C} (h : nT T C σ) : σ.2 6 = T.2 6 := ts h.1 (by decide)
theorem vld_t {n k : Nat} (hk : k < n) (hn : n ≤ 1000) : vld n (nI k) = true := by
  unfold vld
  rw [decide_eq_false (nI_pos (by omega)), decide_eq_false (nI_ge hk (by omega))]
  rfl
theorem b2i_ok {b : Bool} {B : Prop} (h : b = true) (hB : B) : (¬ b2i b = 0) ∧ B := ⟨by rw [h]; decide, hB⟩
theorem one_ok {B : Prop} (hB : B) : (¬ (1 : Int32) = 0) ∧ B := ⟨by decide, hB⟩
theorem b2i_yes {A B : Prop} {b : Bool} (h : b = true) (hB : B) : (b2i b = 0 → A) ∧ (¬ b2i b = 0 → B) := b2i_go b (fun q => by rw [h] at q; cases q) (fun _ => hB)
theorem b2i_yes' {A B : Prop} {b : Bool} (h : b = true) (hB : B) : (¬ b2i b = 0 → B) ∧ (b2i b = 0 → A) := ⟨(b2i_yes (A := A) h hB).2, (b2i_yes (A := A) h hB).1⟩
/-- what is decided, as things stand -/
abbrev dc (T : gk_C) (u a r : Nat) : Int32 := dec no0 T (T.2 6) (T.1 2) u a r
section NA
variable {σ T : gk_C} {C : Nat → Int32}
theorem la_ask (h : nT T C σ) (hw : wf T) {u a r : Nat} (hu : u < tU T) (ha : a < 5) (hr : r < tT T) {Q : Prop} (hQ : Q) : w_X8_checkAsked σ (nI u) (nI a) (nI r) Q := by
  have hU := (wf_U hw).2
  have hT := (wf_T hw).2.2
  unfold w_X8_checkAsked
  refine lb_isUser h.1 hw ?_
  refine b2i_yes (vld_t hu (by omega)) ?_
  refine lb_isAction ?_
  refine b2i_yes (vld_t ha (by omega)) ?_
  refine lb_isRes h.1 hw ?_
  exact b2i_yes (vld_t hr (by omega)) (one_ok hQ)
theorem la_look {v : Nat} (hv : v < 2) (h : nT T C σ) (hw : wf T) {Q : gk_C → Prop} (hQ : ∀ σ1, vw v no0 T (T.2 6) (T.1 2) (tU T) σ1 → σ1.2 (11 + 4 * v) = gd no0 T (T.2 6) (T.1 2) → nT T C σ1 → sV v σ σ1 → Q σ1) : w_X7_look v σ (σ.2 6) 0 Q := by
  rw [nT_6 h]
  exact lb_look h.1 hv hw b0_lo (fun σ1 h1 h2 h3 => hQ σ1 h1 h2 (nT_sV h hv h3) h3)
theorem la_decide (h : nT T C σ) (hw : wf T) {u a r : Nat} (hu : u < tU T) (ha : a < 5) (hr : r < tT T) {Q : Int32 → gk_C → Prop} (hQ : ∀ σ1, nT T C σ1 → Q (dc T u a r) σ1) : w_X8_decide σ (nI u) (nI a) (nI r) Q := by
  unfold w_X8_decide
  refine la_ask h hw hu ha hr ?_
  refine la_look (by decide) h hw (fun σ1 H HG hT _ => ?_)
  refine lb_decided H (by decide) hw (Nat.le_refl _) hu ha hr ?_
  rw [HG]
  exact hQ σ1 hT
theorem la_why (h : nT T C σ) (hw : wf T) {u a r : Nat} (hu : u < tU T) (ha : a < 5) (hr : r < tT T) {Q : Int32 → gk_C → Prop} (hQ : ∀ σ1, nT T C σ1 → Q (why no0 T (T.2 6) (T.1 2) u a r) σ1) : w_X8_why σ (nI u) (nI a) (nI r) Q := by
  unfold w_X8_why
  refine la_ask h hw hu ha hr ?_
  refine la_look (by decide) h hw (fun σ1 H HG hT _ => ?_)
  exact lb_reason H (by decide) hw (Nat.le_refl _) hu ha hr HG (hQ σ1 hT)
theorem la_isGood (h : nT T C σ) (hw : wf T) {g : Nat} (hg : g < tG T) {Q : Int32 → gk_C → Prop} (hQ : ∀ σ1, nT T C σ1 → Q (b2i (bt (gd no0 T (T.2 6) (T.1 2)) g)) σ1) : w_X8_isGood σ (nI g) Q := by
  have hG := (wf_G hw).2
  unfold w_X8_isGood
  refine lb_isGrant h.1 hw ?_
  refine b2i_ok (vld_t hg (by omega)) ?_
  refine la_look (by decide) h hw (fun σ1 H HG hT _ => ?_)
  rw [lb_isIn _ (show g < 32 by omega), HG]
  exact ⟨b2i_z _, hQ σ1 hT⟩
theorem la_matches (h : nT T C σ) (hw : wf T) {k u a r : Nat} (hk : k < tL T) (hu : u < tU T) (ha : a < 5) (hr : r < tT T) {Q : Int32 → gk_C → Prop} (hQ : ∀ σ1, nT T C σ1 → Q (b2i (mat no0 T u (T.1 2 u) a r k)) σ1) : w_X8_matches σ (nI k) (nI u) (nI a) (nI r) Q := by
  have hL := (wf_L hw).2
  unfold w_X8_matches
  refine lb_isRule h.1 hw ?_
  refine b2i_ok (vld_t hk (by omega)) ?_
  refine la_ask h hw hu ha hr ?_
  refine la_look (by decide) h hw (fun σ1 H HG hT _ => ?_)
  refine lb_matching H (by decide) hw (Nat.le_refl _) hu ha hr ?_
  rw [lb_isIn _ (show k < 32 by omega), mb_b _ (by omega) (by omega), decide_eq_true hk, Bool.true_and]
  exact ⟨b2i_z _, hQ σ1 hT⟩
theorem la_near (h : nT T C σ) (hw : wf T) {u r : Nat} (hu : u < tU T) (hr : r < tR T) {Q : Int32 → Prop} (hQ : Q (rNearI (-1) (rNear (T.1 4) (tR T) (T.1 2 u) r))) : w_X8_near σ (nI u) (nI r) Q := by
  have hU := (wf_U hw).2
  have hR := wf_R hw
  unfold w_X8_near
  refine lb_isUser h.1 hw ?_
  refine b2i_yes (vld_t hu (by omega)) ?_
  refine lb_isRole h.1 hw ?_
  refine b2i_yes (vld_t hr (by omega)) (one_ok ?_)
  rw [gk_at_in (show u < gk_rl 2 by show u < 12; omega)]
  refine lb_nearBy (σ := σ) (nR := tR T) (r := r) ((ts h.1 (by decide)).trans hR.1) hR.2 (by omega) ?_
  rw [tr h.1 (show 4 < 26 by decide), tr h.1 (show 2 < 26 by decide)]
  exact hQ
theorem la_far (h : nT T C σ) (hw : wf T) {u r : Nat} (hu : u < tT T) (hr : r < tT T) {Q : Int32 → Prop} (hQ : Q (farI T u r)) : w_X8_far σ (nI u) (nI r) Q := by
  have hT := (wf_T hw).2.2
  unfold w_X8_far
  refine lb_isRes h.1 hw ?_
  refine b2i_yes (vld_t hu (by omega)) ?_
  refine lb_isRes h.1 hw ?_
  refine b2i_yes (vld_t hr (by omega)) (one_ok ?_)
  exact lb_farUp h.1 (by omega) (by omega) hQ
theorem la_done (h : nT T C σ) (hw : wf T) {u r : Nat} (hu : u < tU T) (hr : r < tT T) {Q : Int32 → Prop} (hQ : Q (T.1 3 (u * 24 + r))) : w_X8_done σ (nI u) (nI r) Q := by
  have hU := (wf_U hw).2
  have hT := (wf_T hw).2.2
  unfold w_X8_done
  refine lb_isUser h.1 hw ?_
  refine b2i_yes (vld_t hu (by omega)) ?_
  refine lb_isRes h.1 hw ?_
  refine b2i_yes (vld_t hr (by omega)) (one_ok ?_)
  unfold w_X6_doneOn
  rw [show nI u * 24 + nI r = nI (u * 24 + r) from nI_ma u r 24, gk_at_in (show u * 24 + r < gk_rl 3 by show u * 24 + r < 288; omega), tr h.1 (show 3 < 26 by decide)]
  exact hQ
theorem la_who (h : nT T C σ) (hw : wf T) {a r : Nat} (ha : a < 5) (hr : r < tT T) {Q : Int32 → gk_C → Prop} (hQ : ∀ σ1, nT T C σ1 → Q (mb (fun u => alw (dc T u a r)) (tU T)) σ1) : w_X8_who σ (nI a) (nI r) Q := by
  have hU := wf_U hw
  have hT := (wf_T hw).2.2
  unfold w_X8_who
  refine lb_isAction ?_
  refine b2i_yes (vld_t ha (by omega)) ?_
  refine lb_isRes h.1 hw ?_
  refine b2i_yes (vld_t hr (by omega)) (one_ok ?_)
  refine la_look (by decide) h hw (fun σ1 H HG hT _ => ?_)
  have hn : σ1.2 0 = nI (tU T) := (ts H.1 (by decide)).trans hU.1
  have l := lpUp (A := Int32) (n := tU T) (W := fun f u z => wL_X8_who_43 Q f σ1 (nI a) (nI r) z (nI u)) (J := fun u z => z = mb (fun u => alw (dc T u a r)) u) ?_ ?_ (tU T) 0 0 (Nat.zero_add _) rfl
  · exact ⟨_, l⟩
  · intro f z hz
    unfold wL_X8_who_43
    rw [hn]
    exact ⟨fun _ => by rw [hz]; exact hQ σ1 hT, fun q => absurd (nI_le (Nat.le_refl _) (by omega)) q⟩
  · intro f u z hu hz next
    unfold wL_X8_who_43
    rw [hn, nI_1 u]
    refine ⟨fun q => absurd q (nI_ge hu (by omega)), fun _ => ?_⟩
    refine lb_isAllowed H (by decide) hw (Nat.le_refl _) hu ha hr ?_
    rw [HG]
    refine b2i_go _ (fun q => next z ?_) (fun q => next _ ?_)
    · rw [hz, mb_f (P := fun u => alw (dc T u a r)) q]
    · rw [hz, mb_t (P := fun u => alw (dc T u a r)) q]
theorem la_reach (h : nT T C σ) (hw : wf T) {u a : Nat} (hu : u < tU T) (ha : a < 5) {Q : Int32 → gk_C → Prop} (hQ : ∀ σ1, nT T C σ1 → Q (nI (cn (fun r => alw (dc T u a r)) (tT T))) σ1) : w_X8_reach σ (nI u) (nI a) Q := by
  have hU := wf_U hw
  unfold w_X8_reach
  refine lb_isUser h.1 hw ?_
  refine b2i_yes (vld_t hu (by omega)) ?_
  refine lb_isAction ?_
  refine b2i_yes (vld_t ha (by omega)) (one_ok ?_)
  refine la_look (by decide) h hw (fun σ1 H HG hT _ => ?_)
  refine lb_allowedTo H (by decide) hw (Nat.le_refl _) hu ha ?_
  rw [HG]
  exact hQ σ1 hT
theorem la_isIdle (h : nT T C σ) (hw : wf T) {kr : Nat} (hk : kr < tL T) {Q : Int32 → gk_C → Prop} (hQ : ∀ σ1, nT T C σ1 → Q (b2i (decide (nI (cn (fun j => !decide (fl T (dec no0 T (T.2 6) (T.1 2)) j = fl T (dec (fun k => decide (k = kr)) T (T.2 6) (T.1 2)) j)) (tU T * 5 * tT T)) = 0))) σ1) : w_X8_isIdle σ (nI kr) Q := by
  have hL := (wf_L hw).2
  unfold w_X8_isIdle
  refine lb_isRule h.1 hw ?_
  refine b2i_ok (vld_t hk (by omega)) ?_
  refine la_look (by decide) h hw (fun σ1 H HG hT HS => ?_)
  have hlo : ∀ k, k < tL T → bt (1 <<< (nI kr &&& 31)) k = decide (k = kr) := fun k hk => b_bit (by omega) (by omega)
  rw [nT_6 hT]
  refine lb_look (v := 1) (T := T) (lo := fun k => decide (k = kr)) H.1 (by decide) hw hlo (fun σ2 H2 HG2 HS2 => ?_)
  have H1 : vw 0 no0 T (T.2 6) (T.1 2) (tU T) σ2 := vw_other H (by omega) HS2
  have HG1 : σ2.2 (11 + 4 * 0) = gd no0 T (T.2 6) (T.1 2) := (HS2.2 _ (by omega)).trans HG
  refine lb_diff H1 H2 hw HG1 HG2 ?_
  have hQ := hQ σ2 (nT_sV hT (by decide) HS2)
  refine dec_go' (fun q => ?_) (fun q => ?_)
  · rw [q] at hQ; exact hQ
  · rw [q] at hQ; exact hQ
end NA
