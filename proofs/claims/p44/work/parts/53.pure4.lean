/-! ===== what the gate alone says ===== -/
section LK
variable {v : Nat} {lo : Nat → Bool} {T : gk_C} {wgh : Int32} {σ : gk_C}
/-- what lookWhere changes -/
def gW (v : Nat) (T : gk_C) (k : Nat) (σ σ1 : gk_C) : Prop :=
  (∀ r, r ≠ 26 + 6 * v → r ≠ 27 + 6 * v → σ1.1 r = σ.1 r) ∧ σ1.2 = σ.2 ∧
  (∀ a, a < 5 → σ1.1 (26 + 6 * v) a = if act T k a = true then σ.1 (26 + 6 * v) a ||| (1 <<< (nI k &&& 31)) else σ.1 (26 + 6 * v) a) ∧
  (∀ r, r < tT T → σ1.1 (27 + 6 * v) r = if whr T k r = true then σ.1 (27 + 6 * v) r ||| (1 <<< (nI k &&& 31)) else σ.1 (27 + 6 * v) r)
theorem lb_lookWhere (h : told σ = T) (hv : v < 2) (hw : wf T) {k : Nat} (hk : k < tL T) {Q : gk_C → Prop} (hQ : ∀ σ1, gW v T k σ σ1 → Q σ1) : w_X7_lookWhere v σ (nI k) Q := by
  have hL := (wf_L hw).2
  have hT := wf_T hw
  have hab := wf_ab hw hk
  have second : ∀ (dp : Bool), dp = decide (T.1 15 k = 1) → ∀ σ1 : gk_C, (∀ r, r ≠ 26 + 6 * v → σ1.1 r = σ.1 r) → σ1.2 = σ.2 → (∀ a, a < 5 → σ1.1 (26 + 6 * v) a = if act T k a = true then σ.1 (26 + 6 * v) a ||| (1 <<< (nI k &&& 31)) else σ.1 (26 + 6 * v) a) →
      ∃ n99, wL_X7_lookWhere_99 v Q n99 σ1 (1 <<< (nI k &&& 31)) (nI (ab T k)) (b2i dp) 0 := by
    intro dp hdp σ1 e1 e2 e3
    have l := lpUp (A := gk_C) (n := tT T) (W := fun f j z => wL_X7_lookWhere_99 v Q f z (1 <<< (nI k &&& 31)) (nI (ab T k)) (b2i dp) (nI j)) (J := fun j z => (∀ r, r ≠ 27 + 6 * v → z.1 r = σ1.1 r) ∧ z.2 = σ1.2 ∧ (∀ r, r < j → z.1 (27 + 6 * v) r = if whr T k r = true then σ.1 (27 + 6 * v) r ||| (1 <<< (nI k &&& 31)) else σ.1 (27 + 6 * v) r) ∧ (∀ r, j ≤ r → z.1 (27 + 6 * v) r = σ.1 (27 + 6 * v) r)) ?_ ?_ (tT T) 0 σ1 (Nat.zero_add _) ⟨fun _ _ => rfl, rfl, fun r hr => absurd hr (by omega), fun r _ => by rw [e1 _ (by omega)]⟩
    · exact ⟨_, l⟩
    · intro f z ⟨z1, z2, z3, z4⟩
      unfold wL_X7_lookWhere_99
      rw [show z.2 3 = nI (tT T) from by rw [z2, e2, ts h (show 3 < 8 by decide)]; exact hT.1]
      refine ⟨fun _ => hQ z ⟨fun r q1 q2 => (z1 r q2).trans (e1 r q1), z2.trans e2, fun a ha => ?_, z3⟩, fun q => absurd (nI_le (Nat.le_refl _) (by omega)) q⟩
      rw [z1 _ (by omega)]
      exact e3 a ha
    · intro f j z hj ⟨z1, z2, z3, z4⟩ next
      unfold wL_X7_lookWhere_99
      rw [show z.2 3 = nI (tT T) from by rw [z2, e2, ts h (show 3 < 8 by decide)]; exact hT.1, nI_1]
      refine ⟨fun q => absurd q (nI_ge hj (by omega)), fun _ => ?_⟩
      have stay : whr T k j = false → wL_X7_lookWhere_99 v Q f z (1 <<< (nI k &&& 31)) (nI (ab T k)) (b2i dp) (nI (j + 1)) := fun q => by
        refine next z ⟨z1, z2, fun r hr => ?_, fun r hr => z4 r (by omega)⟩
        by_cases e : r = j
        · subst e
          rw [z4 r (Nat.le_refl _), if_neg (by rw [q]; decide)]
        · exact z3 r (by omega)
      have take : whr T k j = true → wJ_X7_lookWhere_141 v (fun σ x2 x3 x4 x5 => wL_X7_lookWhere_99 v Q f σ x2 x3 x4 x5) z (1 <<< (nI k &&& 31)) (nI (ab T k)) (b2i dp) (nI j) := fun q => by
        unfold wJ_X7_lookWhere_141
        rw [gk_at_in (show j < gk_rl (27 + 6 * v) by rw [(gk_rv hv).2.1]; omega), gk_put_in z (27 + 6 * v) j _ (by rw [(gk_rv hv).2.1]; omega) (by omega), nI_1]
        refine next _ ⟨fun r hr => ?_, z2, fun r hr => ?_, fun r hr => ?_⟩
        · rw [gr_ne z _ hr]; exact z1 r hr
        · rw [gr_at]
          by_cases e : r = j
          · subst e
            rw [up_at, z4 r (Nat.le_refl _), if_pos q]
          · rw [up_ne _ _ e]; exact z3 r (by omega)
        · rw [gr_at, up_ne _ _ (by omega)]; exact z4 r (by omega)
      have ht : told z = T := by
        have hS : sV v σ z := ⟨fun r hr => (z1 r (by omega)).trans (e1 r (by omega)), fun i _ => congrFun (z2.trans e2) i⟩
        exact sV_told hS h
      refine ⟨fun q => take ?_, fun q => ?_⟩
      · have e : j = ab T k := (nI_eq (by omega) (by omega)).mp q
        unfold whr
        rw [decide_eq_true e, Bool.true_or]
      · have e : ¬ j = ab T k := fun e => q (by rw [e])
        refine b2i_go _ (fun q1 => stay ?_) (fun q1 => ?_)
        · unfold whr
          rw [decide_eq_false e, ← hdp, q1]; rfl
        · refine lb_beneath ht (by omega) (by omega) ?_
          refine b2i_go _ (fun q2 => stay ?_) (fun q2 => take ?_)
          · unfold whr
            rw [decide_eq_false e, q2]; simp
          · unfold whr
            rw [← hdp, q1, q2]; simp
  unfold w_X7_lookWhere
  have l := lpUp (A := gk_C) (n := 5) (W := fun f j z => wL_X7_lookWhere_6 v (fun σ x1 x2 => (((¬ (gk_at σ 15 x1) = 1) → (∃ n99, wL_X7_lookWhere_99 v Q n99 σ x2 (gk_at σ 14 x1) 0 0)) ∧ (((gk_at σ 15 x1) = 1) → (∃ n99, wL_X7_lookWhere_99 v Q n99 σ x2 (gk_at σ 14 x1) 1 0)))) f z (nI k) (1 <<< (nI k &&& 31)) (nI j)) (J := fun j z => (∀ r, r ≠ 26 + 6 * v → z.1 r = σ.1 r) ∧ z.2 = σ.2 ∧ (∀ a, a < j → z.1 (26 + 6 * v) a = if act T k a = true then σ.1 (26 + 6 * v) a ||| (1 <<< (nI k &&& 31)) else σ.1 (26 + 6 * v) a) ∧ (∀ a, j ≤ a → z.1 (26 + 6 * v) a = σ.1 (26 + 6 * v) a)) ?_ ?_ 5 0 σ (Nat.zero_add _) ⟨fun _ _ => rfl, rfl, fun r hr => absurd hr (by omega), fun r _ => rfl⟩
  · exact ⟨_, l⟩
  · intro f z ⟨z1, z2, z3, z4⟩
    unfold wL_X7_lookWhere_6
    refine ⟨fun _ => ?_, fun q => absurd (by decide) q⟩
    show (_ → _) ∧ (_ → _)
    rw [gk_at_in (show k < gk_rl 15 by show k < 30; omega), gk_at_in (show k < gk_rl 14 by show k < 30; omega), z1 15 (by omega), z1 14 (by omega), tr h (show 15 < 26 by decide), tr h (show 14 < 26 by decide), hab.1]
    exact ⟨fun q => second false (by rw [decide_eq_false q]) z z1 z2 z3, fun q => second true (by rw [decide_eq_true q]) z z1 z2 z3⟩
  · intro f j z hj ⟨z1, z2, z3, z4⟩ next
    unfold wL_X7_lookWhere_6
    refine ⟨fun q => absurd q (nI_ge (b := 5) hj (by decide)), fun _ => ?_⟩
    rw [gk_at_in (show k < gk_rl 13 by show k < 30; omega), z1 13 (by omega), tr h (show 13 < 26 by decide), lb_isIn _ (show j < 32 by omega), nI_1]
    refine b2i_go _ (fun q => next z ⟨z1, z2, fun r hr => ?_, fun r hr => z4 r (by omega)⟩) (fun q => ?_)
    · by_cases e : r = j
      · subst e
        rw [z4 r (Nat.le_refl _), if_neg (by unfold act; rw [q]; decide)]
      · exact z3 r (by omega)
    · rw [gk_at_in (show j < gk_rl (26 + 6 * v) by rw [(gk_rv hv).1]; omega), gk_put_in z (26 + 6 * v) j _ (by rw [(gk_rv hv).1]; omega) (by omega)]
      refine next _ ⟨fun r hr => ?_, z2, fun r hr => ?_, fun r hr => ?_⟩
      · rw [gr_ne z _ hr]; exact z1 r hr
      · rw [gr_at]
        by_cases e : r = j
        · subst e
          rw [up_at, z4 r (Nat.le_refl _), if_pos (show act T k r = true from q)]
        · rw [up_ne _ _ e]; exact z3 r (by omega)
      · rw [gr_at, up_ne _ _ (by omega)]; exact z4 r (by omega)
theorem lb_holdsIn (h : told σ = T) {k : Nat} (hk : k < 30) {Q : Int32 → Prop} (hQ : Q (b2i (ruN T k))) : w_X3_holdsIn σ (nI k) (hr T) Q := by
  unfold w_X3_holdsIn
  rw [gk_at_in (show k < gk_rl 19 from hk), gk_at_in (show k < gk_rl 18 from hk), tr h (show 18 < 26 by decide), tr h (show 19 < 26 by decide)]
  unfold ruN at hQ
  refine ⟨fun q => ?_, fun q => ?_⟩
  · rw [if_pos q] at hQ
    refine dec_go (fun q1 => ?_) (fun q1 => ?_)
    · rw [q1] at hQ; exact hQ
    · rw [q1, Bool.false_or] at hQ
      refine dec_go (fun q2 => ?_) (fun q2 => ?_) <;> · rw [q2] at hQ; exact hQ
  · rw [if_neg q] at hQ
    refine dec_go (fun q1 => ?_) (fun q1 => ?_)
    · rw [q1] at hQ; exact hQ
    · rw [q1] at hQ
      refine dec_go (fun q2 => ?_) (fun q2 => ?_) <;> · rw [q2] at hQ; exact hQ
/-- rules looked at, of the first k -/
def vR (v : Nat) (lo : Nat → Bool) (T : gk_C) (σ : gk_C) (k : Nat) (σ1 : gk_C) : Prop :=
  sV v σ σ1 ∧ σ1.2 (8 + 4 * v) = σ.2 (8 + 4 * v) ∧ σ1.2 (9 + 4 * v) = mb (fun k => !lo k && ruN T k) k ∧ σ1.2 (10 + 4 * v) = mb (fun k => decide (T.1 11 k = 1)) k ∧
  (∀ a, a < 5 → σ1.1 (26 + 6 * v) a = mb (fun k => act T k a) k) ∧
  (∀ r, r < tT T → σ1.1 (27 + 6 * v) r = mb (fun k => whr T k r) k)
theorem lb_lookAtRules (h : told σ = T) (hv : v < 2) (hw : wf T) {L : Int32} (hlo : ∀ k, k < tL T → bt L k = lo k) {Q : gk_C → Prop} (hQ : ∀ σ1, vR v lo T σ (tL T) σ1 → Q σ1) : w_X7_lookAtRules v σ L Q := by
  have hL := wf_L hw
  have hT := wf_T hw
  unfold w_X7_lookAtRules w_X4_hour
  have s0 : vR v lo T σ 0 (gk_s (gk_s (gk_clr (gk_clr σ (26 + 6 * v)) (27 + 6 * v)) (9 + 4 * v) 0) (10 + 4 * v) 0) := by
    refine ⟨sV_tr (sV_r σ _ (by omega) (by omega)) (sV_tr (sV_r _ _ (by omega) (by omega)) (sV_tr (sV_s _ _ (by omega) (by omega)) (sV_s _ _ (by omega) (by omega)))), ?_, ?_, ?_, fun a ha => ?_, fun r hr => ?_⟩
    · rw [gs_ne _ _ (by omega), gs_ne _ _ (by omega)]; rfl
    · rw [gs_ne _ _ (by omega), gs_at]; rfl
    · rw [gs_at]; rfl
    · rw [gs_1, gs_1]
      unfold gk_clr
      rw [gr_ne _ _ (by omega), gr_at, if_pos (by rw [(gk_rv hv).1]; exact ha)]
      rfl
    · rw [gs_1, gs_1]
      unfold gk_clr
      rw [gr_at, if_pos (by rw [(gk_rv hv).2.1]; omega)]
      rfl
  generalize gk_s (gk_s (gk_clr (gk_clr σ (26 + 6 * v)) (27 + 6 * v)) (9 + 4 * v) 0) (10 + 4 * v) 0 = σ0 at s0
  rw [ts (sV_told s0.1 h) (show 7 < 8 by decide)]
  have l := lpUp (A := gk_C) (n := tL T) (W := fun f k z => wL_X7_lookAtRules_34 v Q f z L (hr T) (nI k)) (J := fun k z => vR v lo T σ k z) ?_ ?_ (tL T) 0 σ0 (Nat.zero_add _) s0
  · exact ⟨_, l⟩
  · intro f z hz
    unfold wL_X7_lookAtRules_34
    rw [(ts (sV_told hz.1 h) (show 4 < 8 by decide)).trans hL.1]
    exact ⟨fun _ => hQ z hz, fun q => absurd (nI_le (Nat.le_refl _) (by omega)) q⟩
  · intro f k z hk hz next
    have hz0 := hz
    obtain ⟨z1, z2, z3, z4, z5, z6⟩ := hz
    unfold wL_X7_lookAtRules_34
    rw [(ts (sV_told z1 h) (show 4 < 8 by decide)).trans hL.1]
    refine ⟨fun q => absurd q (nI_ge hk (by omega)), fun _ => ?_⟩
    have last : ∀ z' : gk_C, sV v σ z' → z'.1 = z.1 → z'.2 (8 + 4 * v) = σ.2 (8 + 4 * v) → z'.2 (9 + 4 * v) = mb (fun k => !lo k && ruN T k) (k + 1) → z'.2 (10 + 4 * v) = mb (fun k => decide (T.1 11 k = 1)) (k + 1) → wJ_X7_lookAtRules_113 v (fun σ x1 x2 x3 => wL_X7_lookAtRules_34 v Q f σ x1 x2 x3) z' L (hr T) (nI k) := by
      intro z' y1 y2 y3 y4 y5
      unfold wJ_X7_lookAtRules_113
      refine lb_lookWhere (sV_told y1 h) hv hw hk (fun σ1 g => ?_)
      rw [nI_1]
      refine next σ1 ⟨sV_tr y1 ⟨fun r hr => g.1 r (by omega) (by omega), fun i _ => congrFun g.2.1 i⟩, by rw [g.2.1]; exact y3, by rw [g.2.1]; exact y4, by rw [g.2.1]; exact y5, fun a ha => ?_, fun r hr => ?_⟩
      · rw [g.2.2.1 a ha, y2, z5 a ha]; rfl
      · rw [g.2.2.2 r hr, y2, z6 r hr]; rfl
    have mid : ∀ z' : gk_C, sV v σ z' → z'.1 = z.1 → z'.2 (8 + 4 * v) = σ.2 (8 + 4 * v) → z'.2 (9 + 4 * v) = mb (fun k => !lo k && ruN T k) (k + 1) → z'.2 (10 + 4 * v) = mb (fun k => decide (T.1 11 k = 1)) k → wJ_X7_lookAtRules_83 v (fun σ x1 x2 x3 => wL_X7_lookAtRules_34 v Q f σ x1 x2 x3) z' L (hr T) (nI k) := by
      intro z' y1 y2 y3 y4 y5
      unfold wJ_X7_lookAtRules_83
      rw [gk_at_in (show k < gk_rl 11 by show k < 30; omega), tr (sV_told y1 h) (show 11 < 26 by decide)]
      refine ⟨fun q => last z' y1 y2 y3 y4 (by rw [y5, mb_f (decide_eq_false q)]), fun q => last _ (sV_tr y1 (sV_s _ _ (by omega) (by omega))) y2 ?_ ?_ ?_⟩
      · rw [gs_ne _ _ (by omega)]; exact y3
      · rw [gs_ne _ _ (by omega)]; exact y4
      · rw [gs_at, y5, mb_t (decide_eq_true q)]
    have go0 : (!lo k && ruN T k) = false → wJ_X7_lookAtRules_83 v (fun σ x1 x2 x3 => wL_X7_lookAtRules_34 v Q f σ x1 x2 x3) z L (hr T) (nI k) := fun q => mid z z1 rfl z2 (by rw [z3, mb_f q]) z4
    rw [lb_isIn _ (show k < 32 by omega), hlo k hk]
    refine b2i_go' _ (fun q1 => ?_) (fun q1 => go0 (by rw [q1]; rfl))
    refine lb_holdsIn (sV_told z1 h) (by omega) ?_
    refine b2i_go _ (fun q2 => go0 (by rw [q2]; simp)) (fun q2 => ?_)
    refine mid _ (sV_tr z1 (sV_s _ _ (by omega) (by omega))) rfl ?_ ?_ ?_
    · rw [gs_ne _ _ (by omega)]; exact z2
    · rw [gs_at, z3, mb_t (by rw [q1, q2]; rfl)]
    · rw [gs_ne _ _ (by omega)]; exact z4
/-- one bit of the houses -/
def hsB (T : gk_C) (u c h n : Nat) : Bool := rAny (fun k => decide (T.1 9 k = nI c) && !decide (T.1 3 (u * 24 + k) = 0) && decide (T.1 10 k = nI h)) n
theorem lb_lookAtWalls (h : told σ = T) (hv : v < 2) (hw : wf T) {Q : gk_C → Prop} (hQ : ∀ σ1, (∀ r, r ≠ 30 + 6 * v → σ1.1 r = σ.1 r) → σ1.2 = σ.2 → (∀ u, u < tU T → ∀ c, c < 4 → ∀ h, h < 32 → bt (σ1.1 (30 + 6 * v) (u * 4 + c)) h = hsB T u c h (tT T)) → Q σ1) : w_X7_lookAtWalls v σ Q := by
  have hU := wf_U hw
  have hT := wf_T hw
  unfold w_X7_lookAtWalls
  have tz : ∀ z : gk_C, (∀ r, r ≠ 30 + 6 * v → z.1 r = σ.1 r) → z.2 = σ.2 → told z = T := fun z z1 z2 => sV_told (v := v) ⟨fun r hr => z1 r (by omega), fun i _ => congrFun z2 i⟩ h
  have l := lpUp (A := gk_C) (n := tU T) (W := fun f u z => wL_X7_lookAtWalls_9 v Q f z (nI u)) (J := fun u z => (∀ r, r ≠ 30 + 6 * v → z.1 r = σ.1 r) ∧ z.2 = σ.2 ∧ (∀ w, w < u → ∀ c, c < 4 → ∀ h, h < 32 → bt (z.1 (30 + 6 * v) (w * 4 + c)) h = hsB T w c h (tT T)) ∧ ∀ w, u ≤ w → w < 12 → ∀ c, c < 4 → z.1 (30 + 6 * v) (w * 4 + c) = 0) ?_ ?_ (tU T) 0 (gk_clr σ (30 + 6 * v)) (Nat.zero_add _) ⟨fun r hr => gr_ne _ _ hr, rfl, fun w hw => absurd hw (by omega), fun w _ h1 c h2 => by unfold gk_clr; rw [gr_at, if_pos (by rw [(gk_rv hv).2.2.2.2.1]; omega)]⟩
  · exact ⟨_, l⟩
  · intro f z ⟨z1, z2, z3, z4⟩
    unfold wL_X7_lookAtWalls_9
    rw [(ts (tz z z1 z2) (show 0 < 8 by decide)).trans hU.1]
    exact ⟨fun _ => hQ z z1 z2 z3, fun q => absurd (nI_le (Nat.le_refl _) (by omega)) q⟩
  · intro f u z hu ⟨z1, z2, z3, z4⟩ next
    unfold wL_X7_lookAtWalls_9
    rw [(ts (tz z z1 z2) (show 0 < 8 by decide)).trans hU.1]
    refine ⟨fun q => absurd q (nI_ge hu (by omega)), fun _ => ?_⟩
    have l2 := lpUp (A := gk_C) (n := tT T) (W := fun f2 k y => wL_X7_lookAtWalls_25 v (fun σ x1 => (wL_X7_lookAtWalls_9 v Q f σ (x1 + 1))) f2 y (nI u) (nI k)) (J := fun k y => (∀ r, r ≠ 30 + 6 * v → y.1 r = σ.1 r) ∧ y.2 = σ.2 ∧ (∀ w, w ≠ u → ∀ c, c < 4 → y.1 (30 + 6 * v) (w * 4 + c) = z.1 (30 + 6 * v) (w * 4 + c)) ∧ ∀ c, c < 4 → ∀ h, h < 32 → bt (y.1 (30 + 6 * v) (u * 4 + c)) h = hsB T u c h k) ?_ ?_ (tT T) 0 z (Nat.zero_add _) ⟨z1, z2, fun _ _ _ _ => rfl, fun c hc i hi => by rw [z4 u (Nat.le_refl _) (by omega) c hc, b_0]; rfl⟩
    · exact ⟨_, l2⟩
    · intro f2 y ⟨y1, y2, y3, y4⟩
      unfold wL_X7_lookAtWalls_25
      rw [(ts (tz y y1 y2) (show 3 < 8 by decide)).trans hT.1]
      refine ⟨fun _ => ?_, fun q => absurd (nI_le (Nat.le_refl _) (by omega)) q⟩
      show wL_X7_lookAtWalls_9 v Q f y (nI u + 1)
      rw [nI_1]
      refine next y ⟨y1, y2, fun w hw c hc i hi => ?_, fun w hw h12 c hc => ?_⟩
      · by_cases e : w = u
        · subst e; exact y4 c hc i hi
        · rw [y3 w e c hc]; exact z3 w (by omega) c hc i hi
      · rw [y3 w (by omega) c hc]; exact z4 w (by omega) h12 c hc
    · intro f2 k y hk ⟨y1, y2, y3, y4⟩ next2
      have ty := tz y y1 y2
      unfold wL_X7_lookAtWalls_25 w_X6_doneOn
      rw [(ts ty (show 3 < 8 by decide)).trans hT.1]
      refine ⟨fun q => absurd q (nI_ge hk (by omega)), fun _ => ?_⟩
      rw [gk_at_in (show k < gk_rl 9 by show k < 24; omega), gk_at_in (show k < gk_rl 10 by show k < 24; omega), tr ty (show 9 < 26 by decide), tr ty (show 10 < 26 by decide), show nI u * 24 + nI k = nI (u * 24 + k) from nI_ma u k 24, gk_at_in (show u * 24 + k < gk_rl 3 by show u * 24 + k < 288; omega), tr ty (show 3 < 26 by decide), nI_1]
      have stay : (∀ c h, (decide (T.1 9 k = nI c) && !decide (T.1 3 (u * 24 + k) = 0) && decide (T.1 10 k = nI h)) = true → c < 4 → False) → wL_X7_lookAtWalls_25 v (fun σ x1 => (wL_X7_lookAtWalls_9 v Q f σ (x1 + 1))) f2 y (nI u) (nI (k + 1)) := fun q => by
        refine next2 y ⟨y1, y2, y3, fun c hc i hi => ?_⟩
        rw [y4 c hc i hi]
        unfold hsB
        rw [rAny]
        cases e : (decide (T.1 9 k = nI c) && !decide (T.1 3 (u * 24 + k) = 0) && decide (T.1 10 k = nI i))
        · rw [Bool.or_false]
        · exact absurd hc (fun hc => q c i e hc)
      refine ⟨fun q => stay (fun c h q1 hc => ?_), fun q => ⟨fun q2 => stay (fun c h q1 hc => ?_), fun q2 => ?_⟩⟩
      · simp only [Bool.and_eq_true, decide_eq_true_eq] at q1
        rw [q] at q1
        exact nI_pos (show c < 2 ^ 31 by omega) (by rw [← q1.1.1]; decide)
      · simp only [Bool.and_eq_true, decide_eq_true_eq, Bool.not_eq_true', decide_eq_false_iff_not] at q1
        exact q1.1.2 q2
      · obtain ⟨⟨c0, -, c2, hc0⟩, ⟨h0, -, h2, hh0⟩⟩ := (hw.2.2.2.1 k hk).resolve_left q
        rw [hc0, hh0, show nI u * 4 + nI c0 = nI (u * 4 + c0) from nI_ma u c0 4, gk_at_in (show u * 4 + c0 < gk_rl (30 + 6 * v) by rw [(gk_rv hv).2.2.2.2.1]; omega), gk_put_in y (30 + 6 * v) (u * 4 + c0) _ (by rw [(gk_rv hv).2.2.2.2.1]; omega) (by omega)]
        refine next2 _ ⟨fun r hr => (gr_ne y _ hr).trans (y1 r hr), y2, fun w hw c hc => ?_, fun c hc i hi => ?_⟩
        · rw [gr_at, up_ne _ _ (by omega)]; exact y3 w hw c hc
        · rw [gr_at]
          unfold hsB
          rw [rAny]
          by_cases e : c = c0
          · subst e
            rw [up_at, b_or, y4 c hc i hi, b_bit (by omega) hi, hc0, hh0, decide_eq_false q2]
            unfold hsB
            have e2 : decide (nI h0 = nI i) = decide (i = h0) := by
              rw [decide_eq_decide, nI_eq (by omega) (by omega)]
              exact eq_comm
            rw [e2]
            simp
          · rw [up_ne _ _ (by omega), y4 c hc i hi]
            unfold hsB
            have e2 : decide (T.1 9 k = nI c) = false := decide_eq_false (fun e3 => e (by
              rw [hc0] at e3
              exact ((nI_eq (by omega) (by omega)).mp e3).symm))
            rw [e2]
            simp
theorem lb_look (h : told σ = T) (hv : v < 2) (hw : wf T) {L : Int32} (hlo : ∀ k, k < tL T → bt L k = lo k) {Q : gk_C → Prop} (hQ : ∀ σ1, vw v lo T wgh (T.1 2) (tU T) σ1 → σ1.2 (11 + 4 * v) = gd lo T wgh (T.1 2) → sV v σ σ1 → Q σ1) : w_X7_look v σ wgh L Q := by
  have hU := wf_U hw
  unfold w_X7_look
  have s1 : sV v σ (gk_s σ (8 + 4 * v) wgh) := sV_s σ wgh (by omega) (by omega)
  refine lb_lookAtRules (lo := lo) (sV_told s1 h) hv hw hlo (fun σ1 h1 => ?_)
  have s2 := sV_tr s1 h1.1
  refine lb_lookAtWalls (sV_told s2 h) hv hw (fun σ2 w1 w2 w3 => ?_)
  have s3 : sV v σ σ2 := sV_tr s2 ⟨fun r hr => w1 r (by omega), fun i _ => congrFun w2 i⟩
  have H0 : vw v lo T wgh (T.1 2) 0 σ2 := by
    refine ⟨sV_told s3 h, ?_, ?_, ?_, fun a ha => ?_, fun r hr => ?_, w3, fun u hu => absurd hu (by omega), fun u hu => absurd hu (by omega)⟩
    · rw [w2, h1.2.1, gs_at]
    · rw [w2]; exact h1.2.2.1
    · rw [w2]; exact h1.2.2.2.1
    · rw [w1 _ (by omega)]; exact h1.2.2.2.2.1 a ha
    · rw [w1 _ (by omega)]; exact h1.2.2.2.2.2 r hr
  have l := lpUp (A := gk_C) (n := tU T) (W := fun f u z => wL_X7_look_16 v (fun σ => (w_X7_weighGrants v σ (fun σ56 => Q σ56))) f z (nI u)) (J := fun u z => vw v lo T wgh (T.1 2) u z ∧ sV v σ z) ?_ ?_ (tU T) 0 σ2 (Nat.zero_add _) ⟨H0, s3⟩
  · exact ⟨_, l⟩
  · intro f z ⟨z1, z2⟩
    unfold wL_X7_look_16
    rw [(ts z1.1 (show 0 < 8 by decide)).trans hU.1]
    refine ⟨fun _ => ?_, fun q => absurd (nI_le (Nat.le_refl _) (by omega)) q⟩
    refine lb_weighGrants z1 hv hw ?_
    exact hQ _ (vw_good z1 _) (gs_at _ _ _) (sV_tr z2 (sV_s _ _ (by omega) (by omega)))
  · intro f u z hu ⟨z1, z2⟩ next
    unfold wL_X7_look_16
    rw [(ts z1.1 (show 0 < 8 by decide)).trans hU.1]
    refine ⟨fun q => absurd q (nI_ge hu (by omega)), fun _ => ?_⟩
    rw [gk_at_in (show u < gk_rl 2 by show u < 12; omega), tr z1.1 (show 2 < 26 by decide)]
    refine vw_give z1 hv hw hu (Nat.le_refl _) (fun σ3 g1 g2 _ => ?_)
    rw [nI_1]
    refine next σ3 ⟨?_, sV_tr z2 g2⟩
    rw [if_pos rfl] at g1
    have e : va_up (T.1 2) u (T.1 2 u) = T.1 2 := by
      funext j
      by_cases q : j = u
      · subst q; exact va_up_self _ _ _
      · exact va_up_ne _ _ q
    rw [e] at g1
    exact g1
end LK

