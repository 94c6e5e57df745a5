/-! ===== layer B: contradictions ===== -/
/-- what matches, told by one number -/
def mF (T : gk_C) (j : Nat) : Nat → Bool := fl T (fun u a r => mat no0 T u (T.1 2 u) a r) j
/-- two rules match the same, among the first c -/
def opB (T : gk_C) (c k i : Nat) : Bool := rAny (fun j => mF T j k && mF T j i) c
def al (T : gk_C) (k : Nat) : Bool := decide (T.1 11 k = 1)
def smN (F : Nat → Nat) : Nat → Nat
  | 0 => 0
  | n + 1 => smN F n + F n
theorem smN_le {F : Nat → Nat} {c : Nat} (h : ∀ k, F k ≤ c) (n : Nat) : smN F n ≤ n * c := by
  induction n with
  | zero => exact Nat.zero_le _
  | succ n ih =>
    rw [smN, Nat.succ_mul]
    have := h n
    omega
/-- how many pairs -/
def ctr (T : gk_C) : Nat := smN (fun k => cn (fun i => al T k && (!al T i && opB T (tU T * 5 * tT T) k i)) (tL T)) (tL T)
theorem opB_s (T : gk_C) (c k i : Nat) : opB T (c + 1) k i = (opB T c k i || (mF T c k && mF T c i)) := rfl
theorem cn_ext {P : Nat → Bool} {n m : Nat} (hnm : n ≤ m) (h : ∀ i, n ≤ i → i < m → P i = false) : cn P m = cn P n := by
  induction m with
  | zero =>
    have : n = 0 := by omega
    rw [this]
  | succ m ih =>
    by_cases e : n = m + 1
    · rw [e]
    · rw [cn_f (h m (by omega) (by omega))]
      exact ih (by omega) (fun i h1 h2 => h i h1 (by omega))
section OP
variable {T σ : gk_C} {wgh : Int32}
theorem vw_op {v : Nat} {lo : Nat → Bool} {S : Nat → Int32} {m : Nat} {σ1 : gk_C} (H : vw v lo T wgh S m σ) (h1 : ∀ r, r ≠ 31 + 6 * v → σ1.1 r = σ.1 r) (h2 : σ1.2 = σ.2) : vw v lo T wgh S m σ1 := by
  obtain ⟨g0, g1, g2, g3, g4, g5, g6, g7, g8⟩ := H
  have hS : sV v σ σ1 := ⟨fun r hr => h1 r (by omega), fun i _ => congrFun h2 i⟩
  refine ⟨sV_told hS g0, by rw [h2]; exact g1, by rw [h2]; exact g2, by rw [h2]; exact g3, fun a ha => ?_, fun r hr => ?_, fun w hw' c hc i hi => ?_, fun w hw' => ?_, fun w hw' k hk hm => ?_⟩
  · rw [h1 _ (by omega)]; exact g4 a ha
  · rw [h1 _ (by omega)]; exact g5 r hr
  · rw [h1 _ (by omega)]; exact g6 w hw' c hc i hi
  · rw [h1 _ (by omega)]; exact g7 w hw'
  · rw [h1 _ (by omega)]; exact g8 w hw' k hk hm
theorem lb_oppose (H : vw 0 no0 T wgh (T.1 2) (tU T) σ) (hw : wf T) (P : Nat → Bool) {Q : gk_C → Prop} (hQ : ∀ σ1, (∀ r, r ≠ 31 → σ1.1 r = σ.1 r) → σ1.2 = σ.2 → (∀ k, k < tL T → ∀ i, i < 32 → bt (σ1.1 31 k) i = (bt (σ.1 31 k) i || (decide (i < tL T) && (al T k && (!al T i && (P k && P i)))))) → Q σ1) : w_X7_oppose 0 σ (mb P (tL T)) Q := by
  have hL := wf_L hw
  unfold w_X7_oppose
  rw [H.2.2.2.1]
  generalize hd' : mb P (tL T) &&& (mb (fun k => decide (T.1 11 k = 1)) (tL T) ^^^ (-1)) = den
  have hden : ∀ i, i < 32 → bt den i = (decide (i < tL T) && (!al T i && P i)) := fun i hi => by
    rw [← hd', b_and, b_not _ hi, mb_b _ (by omega) hi, mb_b _ (by omega) hi]
    show ((decide (i < tL T) && P i) && !(decide (i < tL T) && al T i)) = _
    cases decide (i < tL T) <;> cases P i <;> cases al T i <;> rfl
  have l := lpUp (A := gk_C) (n := tL T) (W := fun f k z => wL_X7_oppose_11 0 Q f z (mb P (tL T)) den (nI k)) (J := fun k z => (∀ r, r ≠ 31 → z.1 r = σ.1 r) ∧ z.2 = σ.2 ∧ (∀ j, j < k → ∀ i, i < 32 → bt (z.1 31 j) i = (bt (σ.1 31 j) i || (decide (i < tL T) && (al T j && (!al T i && (P j && P i)))))) ∧ ∀ j, k ≤ j → z.1 31 j = σ.1 31 j) ?_ ?_ (tL T) 0 σ (Nat.zero_add _) ⟨fun _ _ => rfl, rfl, fun j hj => absurd hj (by omega), fun _ _ => rfl⟩
  · exact ⟨_, l⟩
  · intro f z ⟨z1, z2, z3, z4⟩
    unfold wL_X7_oppose_11
    rw [show z.2 4 = nI (tL T) from by rw [z2, ts H.1 (show 4 < 8 by decide)]; exact hL.1]
    exact ⟨fun _ => hQ z z1 z2 z3, fun q => absurd (nI_le (Nat.le_refl _) (by omega)) q⟩
  · intro f k z hk ⟨z1, z2, z3, z4⟩ next
    have hS : sV 0 σ z := ⟨fun r hr => z1 r (by omega), fun i _ => congrFun z2 i⟩
    unfold wL_X7_oppose_11
    rw [show z.2 4 = nI (tL T) from by rw [z2, ts H.1 (show 4 < 8 by decide)]; exact hL.1, nI_1 k]
    refine ⟨fun q => absurd q (nI_ge hk (by omega)), fun _ => ⟨fun q => ?_, fun _ => ?_⟩⟩
    · have h0 : ∀ i, i < 32 → (decide (i < tL T) && (!al T i && P i)) = false := fun i hi => by rw [← hden i hi, q, b_0]
      refine hQ z z1 z2 (fun j hj i hi => ?_)
      rcases Nat.lt_or_ge j k with c | c
      · exact z3 j c i hi
      · rw [z4 j c]
        have h1 := h0 i hi
        cases h2 : decide (i < tL T)
        · simp
        · rw [h2, Bool.true_and] at h1
          cases h3 : al T i
          · rw [h3] at h1
            have h4 : P i = false := by simpa using h1
            rw [h4]; simp
          · simp
    · have e10 : z.2 (10 + 4 * 0) = mb (fun k => decide (T.1 11 k = 1)) (tL T) := by rw [z2]; exact H.2.2.2.1
      rw [e10, lb_isIn _ (show k < 32 by omega), b_and, mb_b _ (by omega) (by omega), mb_b _ (by omega) (by omega), decide_eq_true hk, Bool.true_and, Bool.true_and]
      refine b2i_go _ (fun q => next z ⟨z1, z2, fun j hj i hi => ?_, fun j hj => z4 j (by omega)⟩) (fun q => ?_)
      · by_cases e : j = k
        · rw [e, z4 k (Nat.le_refl _)]
          have q' : (P k && al T k) = false := q
          cases h1 : P k
          · simp
          · rw [h1, Bool.true_and] at q'
            rw [q']; simp
        · exact z3 j (by omega) i hi
      · have q' : (P k && al T k) = true := q
        rw [Bool.and_eq_true] at q'
        rw [gk_at_in (show k < gk_rl (31 + 6 * 0) by show k < 30; omega), gk_put_in z (31 + 6 * 0) k _ (by show k < 30; omega) (by omega)]
        refine next _ ⟨fun r hr => ?_, z2, fun j hj i hi => ?_, fun j hj => ?_⟩
        · rw [gr_ne z _ hr]; exact z1 r hr
        · rw [gr_at]
          by_cases e : j = k
          · rw [e, up_at, b_or, hden i hi, z4 k (Nat.le_refl _), q'.1, q'.2, Bool.true_and, Bool.true_and]
          · rw [up_ne _ _ e]; exact z3 j (by omega) i hi
        · rw [gr_at, up_ne _ _ (by omega)]; exact z4 j (by omega)
theorem lb_opposed (H : vw 0 no0 T wgh (T.1 2) (tU T) σ) (hw : wf T) {Q : Int32 → gk_C → Prop} (hQ : ∀ σ1, sV 0 σ σ1 → vw 0 no0 T wgh (T.1 2) (tU T) σ1 → Q (nI (ctr T)) σ1) : w_X7_opposedPairs 0 σ Q := by
  have hL := wf_L hw
  have hU := wf_U hw
  have hT := wf_T hw
  unfold w_X7_opposedPairs
  have tz : ∀ z : gk_C, (∀ r, r ≠ 31 → z.1 r = σ.1 r) → z.2 = σ.2 → vw 0 no0 T wgh (T.1 2) (tU T) z := fun z z1 z2 => vw_op H z1 z2
  have l := lpUp (A := gk_C) (n := tU T) (W := fun f u z => wL_X7_opposedPairs_9 0 (fun σ => (∃ n79, wL_X7_opposedPairs_79 0 Q n79 σ 0 0)) f z (nI u)) (J := fun u z => (∀ r, r ≠ 31 → z.1 r = σ.1 r) ∧ z.2 = σ.2 ∧ ∀ k, k < tL T → ∀ i, i < 32 → bt (z.1 31 k) i = (decide (i < tL T) && (al T k && (!al T i && opB T ((u * 5 + 0) * tT T) k i)))) ?_ ?_ (tU T) 0 (gk_clr σ (31 + 6 * 0)) (Nat.zero_add _) ⟨fun r hr => gr_ne _ _ hr, rfl, fun k hk i hi => ?_⟩
  · exact ⟨_, l⟩
  · intro f z ⟨z1, z2, z3⟩
    have Hz := tz z z1 z2
    unfold wL_X7_opposedPairs_9
    rw [(ts Hz.1 (show 0 < 8 by decide)).trans hU.1]
    refine ⟨fun _ => ?_, fun q => absurd (nI_le (Nat.le_refl _) (by omega)) q⟩
    show ∃ n79, wL_X7_opposedPairs_79 0 Q n79 z 0 0
    have hr : ∀ k, k < tL T → cn (bt (z.1 31 k)) 32 = cn (fun i => al T k && (!al T i && opB T (tU T * 5 * tT T) k i)) (tL T) := fun k hk => by
      have e : ∀ i, i < 32 → bt (z.1 31 k) i = (decide (i < tL T) && (al T k && (!al T i && opB T (tU T * 5 * tT T) k i))) := fun i hi => z3 k hk i hi
      rw [cn_ext (show tL T ≤ 32 by omega) (fun i h1 h2 => by rw [e i h2, decide_eq_false (by omega), Bool.false_and])]
      exact cn_congr (fun i hi => by rw [e i (by omega), decide_eq_true hi, Bool.true_and])
    have l2 := lpUp (A := Int32) (n := tL T) (W := fun f k s => wL_X7_opposedPairs_79 0 Q f z s (nI k)) (J := fun k s => s = nI (smN (fun k => cn (fun i => al T k && (!al T i && opB T (tU T * 5 * tT T) k i)) (tL T)) k)) ?_ ?_ (tL T) 0 0 (Nat.zero_add _) rfl
    · exact ⟨_, l2⟩
    · intro f s hs
      unfold wL_X7_opposedPairs_79
      rw [(ts Hz.1 (show 4 < 8 by decide)).trans hL.1]
      refine ⟨fun _ => ?_, fun q => absurd (nI_le (Nat.le_refl _) (by omega)) q⟩
      rw [hs]
      exact hQ z ⟨fun r hr => z1 r (by omega), fun i _ => congrFun z2 i⟩ Hz
    · intro f k s hk hs next
      unfold wL_X7_opposedPairs_79
      rw [(ts Hz.1 (show 4 < 8 by decide)).trans hL.1, gk_at_in (show k < gk_rl (31 + 6 * 0) by show k < 30; omega), nI_1 k]
      refine ⟨fun q => absurd q (nI_ge hk (by omega)), fun _ => ?_⟩
      refine lb_bits _ ?_
      refine next _ ?_
      rw [hs, show cn (bt (z.1 (31 + 6 * 0) k)) 32 = _ from hr k hk, nI_add, smN]
  · intro f u z hu ⟨z1, z2, z3⟩ next
    have Hz := tz z z1 z2
    unfold wL_X7_opposedPairs_9
    rw [(ts Hz.1 (show 0 < 8 by decide)).trans hU.1]
    refine ⟨fun q => absurd q (nI_ge hu (by omega)), fun _ => ?_⟩
    have l2 := lpUp (A := gk_C) (n := 5) (W := fun f2 a z => wL_X7_opposedPairs_25 0 (fun σ x1 => (wL_X7_opposedPairs_9 0 (fun σ => (∃ n79, wL_X7_opposedPairs_79 0 Q n79 σ 0 0)) f σ (x1 + 1))) f2 z (nI u) (nI a)) (J := fun a z => (∀ r, r ≠ 31 → z.1 r = σ.1 r) ∧ z.2 = σ.2 ∧ ∀ k, k < tL T → ∀ i, i < 32 → bt (z.1 31 k) i = (decide (i < tL T) && (al T k && (!al T i && opB T ((u * 5 + a) * tT T) k i)))) ?_ ?_ 5 0 z (Nat.zero_add _) ⟨z1, z2, z3⟩
    · exact ⟨_, l2⟩
    · intro f2 y ⟨y1, y2, y3⟩
      unfold wL_X7_opposedPairs_25
      refine ⟨fun _ => ?_, fun q => absurd (by decide) q⟩
      show wL_X7_opposedPairs_9 0 _ f y (nI u + 1)
      rw [nI_1]
      rw [fl_usr] at y3
      exact next y ⟨y1, y2, y3⟩
    · intro f2 a y ha ⟨y1, y2, y3⟩ next2
      unfold wL_X7_opposedPairs_25
      refine ⟨fun q => absurd q (nI_ge (b := 5) ha (by decide)), fun _ => ?_⟩
      have l3 := lpUp (A := gk_C) (n := tT T) (W := fun f3 r z => wL_X7_opposedPairs_32 0 (fun σ x1 x2 => (wL_X7_opposedPairs_25 0 (fun σ x1 => (wL_X7_opposedPairs_9 0 (fun σ => (∃ n79, wL_X7_opposedPairs_79 0 Q n79 σ 0 0)) f σ (x1 + 1))) f2 σ x1 (x2 + 1))) f3 z (nI u) (nI a) (nI r)) (J := fun r z => (∀ r, r ≠ 31 → z.1 r = σ.1 r) ∧ z.2 = σ.2 ∧ ∀ k, k < tL T → ∀ i, i < 32 → bt (z.1 31 k) i = (decide (i < tL T) && (al T k && (!al T i && opB T ((u * 5 + a) * tT T + r) k i)))) ?_ ?_ (tT T) 0 y (Nat.zero_add _) ⟨y1, y2, y3⟩
      · exact ⟨_, l3⟩
      · intro f3 y ⟨y1, y2, y3⟩
        unfold wL_X7_opposedPairs_32
        rw [(ts (tz y y1 y2).1 (show 3 < 8 by decide)).trans hT.1]
        refine ⟨fun _ => ?_, fun q => absurd (nI_le (Nat.le_refl _) (by omega)) q⟩
        show wL_X7_opposedPairs_25 0 _ f2 y (nI u) (nI a + 1)
        rw [nI_1]
        rw [fl_row] at y3
        exact next2 y ⟨y1, y2, y3⟩
      · intro f3 r y hr ⟨y1, y2, y3⟩ next3
        have Hy := tz y y1 y2
        unfold wL_X7_opposedPairs_32
        rw [(ts Hy.1 (show 3 < 8 by decide)).trans hT.1, nI_1 r]
        refine ⟨fun q => absurd q (nI_ge hr (by omega)), fun _ => ?_⟩
        refine lb_matching Hy (by decide) hw (Nat.le_refl _) hu ha hr ?_
        refine lb_oppose Hy hw _ (fun x x1 x2 x3 => ?_)
        refine next3 x ⟨fun r hr => (x1 r hr).trans (y1 r hr), x2.trans y2, fun k hk i hi => ?_⟩
        have em : mF T ((u * 5 + a) * tT T + r) = mat no0 T u (T.1 2 u) a r := fl_at _ ha hr
        rw [x3 k hk i hi, y3 k hk i hi]
        show _ = (decide (i < tL T) && (al T k && (!al T i && opB T ((u * 5 + a) * tT T + r + 1) k i)))
        rw [opB_s, em]
        cases decide (i < tL T) <;> cases al T k <;> cases al T i <;> simp
  · show bt ((gk_clr σ (31 + 6 * 0)).1 31 k) i = _
    unfold gk_clr
    rw [show (31 : Nat) + 6 * 0 = 31 from rfl, gr_at, if_pos (show k < gk_rl 31 by show k < 30; omega), b_0, Nat.zero_mul]
    show false = (decide (i < tL T) && (al T k && (!al T i && false)))
    simp
end OP
theorem lm_contra {T μ : gk_C} (hM : jM T μ) (hw : wf T) (h35 : μ.2 35 = -1) {Q : Int32 → Prop} (hQ : Q (nI (ctr T))) : w_X9_contradictionsNow μ Q := by
  have hL := wf_L hw
  have hU := wf_U hw
  have hT := wf_T hw
  have hnL : μ.2 16 = nI (tL T) := hM.1.2.2.2.2.1.trans hL.1
  have hnU : μ.2 3 = nI (tU T) := hM.1.1.trans hU.1
  have hnT : μ.2 11 = nI (tT T) := hM.1.2.2.2.1.trans hT.1
  unfold w_X9_contradictionsNow
  refine lm_allNears hM hw (fun N hN => ?_)
  have l := lpUp (A := Nat → Int32) (n := tU T) (W := fun f u fn => wL_X9_contradictionsNow_12 μ (fun fn2 => (∃ n115, wL_X9_contradictionsNow_115 μ Q n115 0 0 fn2)) f (nI u) fn N) (J := fun u fn => ∀ k, k < tL T → ∀ i, i < 32 → bt (fn k) i = (decide (i < tL T) && opB T ((u * 5 + 0) * tT T) k i)) ?_ ?_ (tU T) 0 (fun _ => 0) (Nat.zero_add _) (fun k hk i hi => by
    rw [b_0, Nat.zero_mul]
    show false = (decide (i < tL T) && false)
    simp)
  · exact ⟨_, l⟩
  · intro f fn hz
    unfold wL_X9_contradictionsNow_12
    rw [hnU]
    refine ⟨fun _ => ?_, fun q => absurd (nI_le (Nat.le_refl _) (by omega)) q⟩
    show ∃ n115, wL_X9_contradictionsNow_115 μ Q n115 0 0 fn
    have hz : ∀ k, k < tL T → ∀ i, i < 32 → bt (fn k) i = (decide (i < tL T) && opB T (tU T * 5 * tT T) k i) := hz
    have l2 := lpUp (A := Int32) (n := tL T) (W := fun f k s => wL_X9_contradictionsNow_115 μ Q f s (nI k) fn) (J := fun k s => s = nI (smN (fun k => cn (fun i => al T k && (!al T i && opB T (tU T * 5 * tT T) k i)) (tL T)) k)) ?_ ?_ (tL T) 0 0 (Nat.zero_add _) rfl
    · exact ⟨_, l2⟩
    · intro f s hs
      unfold wL_X9_contradictionsNow_115
      rw [hnL]
      refine ⟨fun _ => ?_, fun q => absurd (nI_le (Nat.le_refl _) (by omega)) q⟩
      rw [hs]; exact hQ
    · intro f k s hk hs next
      unfold wL_X9_contradictionsNow_115
      rw [hnL]
      refine ⟨fun q => absurd q (nI_ge hk (by omega)), fun _ => ?_⟩
      have l3 := lpUp (A := Int32) (n := tL T) (W := fun f2 i s => wL_X9_contradictionsNow_127 μ (fun x3 x4 fn2 => (wL_X9_contradictionsNow_115 μ Q f x3 (x4 + 1) fn2)) f2 s (nI k) (nI i) fn) (J := fun i s => s = nI (smN (fun k => cn (fun i => al T k && (!al T i && opB T (tU T * 5 * tT T) k i)) (tL T)) k + cn (fun i => al T k && (!al T i && opB T (tU T * 5 * tT T) k i)) i)) ?_ ?_ (tL T) 0 s (Nat.zero_add _) hs
      · exact ⟨_, l3⟩
      · intro f2 s hs
        unfold wL_X9_contradictionsNow_127
        rw [hnL]
        refine ⟨fun _ => ?_, fun q => absurd (nI_le (Nat.le_refl _) (by omega)) q⟩
        show wL_X9_contradictionsNow_115 μ Q f s (nI k + 1) fn
        rw [nI_1]
        exact next s (by rw [hs, smN])
      · intro f2 i s hi hs next2
        unfold wL_X9_contradictionsNow_127
        have hv := vp_in' (show k < 30 by omega) (by decide)
        have hv2 := vp_in' (show i < 30 by omega) (by decide)
        have al0 : ∀ j, j < tL T → (μ.1 17 j = b2i (al T j)) := fun j hj => by
          rw [(hM.2.2.2.2.2.2.1 j hj).1]
          exact al_b2i (hw.2.2.2.2.1 j hj).1
        rw [hnL, nI_clamp (show k < 2 ^ 31 by omega), nI_clamp (show i < 2 ^ 31 by omega), al0 k hk, al0 i hi, b_get _ (show i < 32 by omega), hz k hk i (by omega), decide_eq_true hi, Bool.true_and]
        refine ⟨fun q => absurd q (nI_ge hi (by omega)), fun _ => ⟨hv, ?_⟩⟩
        have no : (al T k && (!al T i && opB T (tU T * 5 * tT T) k i)) = false → wJ_X9_contradictionsNow_169 μ (fun x4 x5 t0 t1 fn2 => (wJ_X9_contradictionsNow_170 μ (fun x3 x4 x5 fn2 => wL_X9_contradictionsNow_127 μ (fun x3 x4 fn2 => (wL_X9_contradictionsNow_115 μ Q f x3 (x4 + 1) fn2)) f2 x3 x4 x5 fn2) x4 x5 t0 t1 fn2)) (nI k) (nI i) s fn := fun q => by
          have h2 := next2 s (by rw [hs, cn_f (P := fun i => al T k && (!al T i && opB T (tU T * 5 * tT T) k i)) q])
          unfold wJ_X9_contradictionsNow_169
          show wL_X9_contradictionsNow_127 μ _ f2 (s + 0) (nI k) (nI i + 1) fn
          rw [Int32.add_zero, nI_1]
          exact h2
        refine b2i_go _ (fun q => no (by rw [q]; rfl)) (fun q => ⟨hv2, ?_⟩)
        refine b2i_go' _ (fun q2 => ⟨hv, ?_⟩) (fun q2 => no (by rw [q2]; simp))
        unfold wJ_X9_contradictionsNow_170
        rw [nI_1 i]
        cases q3 : opB T (tU T * 5 * tT T) k i
        · have h2 := next2 s (by rw [hs, cn_f (P := fun i => al T k && (!al T i && opB T (tU T * 5 * tT T) k i)) (by simp only [q3]; simp)])
          show wL_X9_contradictionsNow_127 μ _ f2 (s + 0) (nI k) (nI (i + 1)) fn
          rw [Int32.add_zero]
          exact h2
        · have h2 := next2 (s + 1) (by rw [hs, cn_t (P := fun i => al T k && (!al T i && opB T (tU T * 5 * tT T) k i)) (by simp only [q, q2, q3]; rfl), nI_1, Nat.add_assoc])
          exact h2
  · intro f u fn hu hz next
    unfold wL_X9_contradictionsNow_12
    rw [hnU]
    refine ⟨fun q => absurd q (nI_ge hu (by omega)), fun _ => ?_⟩
    obtain ⟨fe, hfe, hisN⟩ := hN u hu
    have l2 := lpUp (A := Nat → Int32) (n := 5) (W := fun f2 a fn => wL_X9_contradictionsNow_23 μ (fun x3 fn2 Nc6 => (wL_X9_contradictionsNow_12 μ (fun fn2 => (∃ n115, wL_X9_contradictionsNow_115 μ Q n115 0 0 fn2)) f (x3 + 1) fn2 Nc6)) f2 (nI u) (nI a) fn N) (J := fun a fn => ∀ k, k < tL T → ∀ i, i < 32 → bt (fn k) i = (decide (i < tL T) && opB T ((u * 5 + a) * tT T) k i)) ?_ ?_ 5 0 fn (Nat.zero_add _) hz
    · exact ⟨_, l2⟩
    · intro f2 fn hz
      unfold wL_X9_contradictionsNow_23
      refine ⟨fun _ => ?_, fun q => absurd (by decide) q⟩
      show wL_X9_contradictionsNow_12 μ _ f (nI u + 1) fn N
      rw [nI_1]
      rw [fl_usr] at hz
      exact next fn hz
    · intro f2 a fn ha hz next2
      unfold wL_X9_contradictionsNow_23
      refine ⟨fun q => absurd q (nI_ge (b := 5) ha (by decide)), fun _ => ?_⟩
      have l3 := lpUp (A := Nat → Int32) (n := tT T) (W := fun f3 r fn => wL_X9_contradictionsNow_32 μ (fun x3 x4 fn2 Nc6 => (wL_X9_contradictionsNow_23 μ (fun x3 fn2 Nc6 => (wL_X9_contradictionsNow_12 μ (fun fn2 => (∃ n115, wL_X9_contradictionsNow_115 μ Q n115 0 0 fn2)) f (x3 + 1) fn2 Nc6)) f2 x3 (x4 + 1) fn2 Nc6)) f3 (nI u) (nI a) (nI r) fn N) (J := fun r fn => ∀ k, k < tL T → ∀ i, i < 32 → bt (fn k) i = (decide (i < tL T) && opB T ((u * 5 + a) * tT T + r) k i)) ?_ ?_ (tT T) 0 fn (Nat.zero_add _) hz
      · exact ⟨_, l3⟩
      · intro f3 fn hz
        unfold wL_X9_contradictionsNow_32
        rw [hnT]
        refine ⟨fun _ => ?_, fun q => absurd (nI_le (Nat.le_refl _) (by omega)) q⟩
        show wL_X9_contradictionsNow_23 μ _ f2 (nI u) (nI a + 1) fn N
        rw [nI_1]
        rw [fl_row] at hz
        exact next2 fn hz
      · intro f3 r fn hr hz next3
        unfold wL_X9_contradictionsNow_32
        rw [hnT, nI_clamp (show u < 2 ^ 31 by omega)]
        refine ⟨fun q => absurd q (nI_ge hr (by omega)), fun _ => ⟨vp_in' (by omega) (by decide), fe, hfe, ?_⟩⟩
        refine lm_matching hM hw (lo_m1 hw h35) hisN hu ha hr ?_
        have em : mF T ((u * 5 + a) * tT T + r) = mat no0 T u (T.1 2 u) a r := fl_at _ ha hr
        rw [← em]
        generalize hP : mF T ((u * 5 + a) * tT T + r) = P
        have l4 := lpUp (A := Nat → Int32) (n := tL T) (W := fun f4 j fn => wL_X9_contradictionsNow_58 μ (fun x3 x4 x5 fn2 Nc6 => (wL_X9_contradictionsNow_32 μ (fun x3 x4 fn2 Nc6 => (wL_X9_contradictionsNow_23 μ (fun x3 fn2 Nc6 => (wL_X9_contradictionsNow_12 μ (fun fn2 => (∃ n115, wL_X9_contradictionsNow_115 μ Q n115 0 0 fn2)) f (x3 + 1) fn2 Nc6)) f2 x3 (x4 + 1) fn2 Nc6)) f3 x3 x4 (x5 + 1) fn2 Nc6)) f4 (nI u) (nI a) (nI r) (mb P (tL T)) (nI j) fn N) (J := fun j y => (∀ k, k < j → ∀ i, i < 32 → bt (y k) i = (decide (i < tL T) && opB T ((u * 5 + a) * tT T + r + 1) k i)) ∧ ∀ k, j ≤ k → k < tL T → ∀ i, i < 32 → bt (y k) i = (decide (i < tL T) && opB T ((u * 5 + a) * tT T + r) k i)) ?_ ?_ (tL T) 0 fn (Nat.zero_add _) ⟨fun k hk => absurd hk (by omega), fun k _ hk => hz k hk⟩
        · exact ⟨_, l4⟩
        · intro f4 y ⟨y1, y2⟩
          unfold wL_X9_contradictionsNow_58
          rw [hnL]
          refine ⟨fun _ => ?_, fun q => absurd (nI_le (Nat.le_refl _) (by omega)) q⟩
          show wL_X9_contradictionsNow_32 μ _ f3 (nI u) (nI a) (nI r + 1) y N
          rw [nI_1]
          exact next3 y y1
        · intro f4 j y hj ⟨y1, y2⟩ next4
          unfold wL_X9_contradictionsNow_58
          rw [hnL, b_get _ (show j < 32 by omega), mb_b _ (by omega) (by omega), decide_eq_true hj, Bool.true_and, nI_clamp (show j < 2 ^ 31 by omega), nI_1 j]
          refine ⟨fun q => absurd q (nI_ge hj (by omega)), fun _ => ?_⟩
          refine b2i_go _ (fun q => next4 y ⟨fun k hk i hi => ?_, fun k h1 h2 => y2 k (by omega) h2⟩) (fun q => ⟨vp_in' (by omega) (by decide), vp_in' (by omega) (by decide), next4 _ ⟨fun k hk i hi => ?_, fun k h1 h2 i hi => ?_⟩⟩)
          · by_cases e : k = j
            · rw [e, y2 j (Nat.le_refl _) hj i hi, opB_s, hP, q, Bool.false_and, Bool.or_false]
            · exact y1 k (by omega) i hi
          · by_cases e : k = j
            · rw [e, up_at, b_or, y2 j (Nat.le_refl _) hj i hi, mb_b _ (by omega) hi, opB_s, hP, q, Bool.true_and]
              cases decide (i < tL T) <;> simp
            · rw [up_ne _ _ e]; exact y1 k (by omega) i hi
          · rw [up_ne _ _ (by omega)]; exact y2 k (by omega) h2 i hi
theorem q_contradictions : ∀ (σ μ : gk_C), jI σ μ → w_X8_contradictions σ (fun r σ1 => w_X9_contradictions μ (fun r1 μ1 => r = r1 ∧ jI σ1 μ1)) := by
  intro σ μ h
  have hw := h.1
  unfold w_X8_contradictions
  refine lb_now (v := 0) (by decide) h (fun σ1 H HG HS hI => ?_)
  refine lb_opposed H hw (fun σ2 S2 _ => ?_)
  unfold w_X9_contradictions
  exact lm_contra (T := told σ) h.2.1 hw h.2.2.2.1 ⟨rfl, jI_sV hI (by decide) S2⟩
