/-! ===== what the gate alone says ===== -/
theorem gs_at (σ : gk_C) (i : Nat) (x : Int32) : (gk_s σ i x).2 i = x := va_up_self _ _ _
theorem gs_ne (σ : gk_C) {i j : Nat} (x : Int32) (h : j ≠ i) : (gk_s σ i x).2 j = σ.2 j := va_up_ne _ _ h
theorem gs_1 (σ : gk_C) (i : Nat) (x : Int32) : (gk_s σ i x).1 = σ.1 := rfl
theorem gr_at (σ : gk_C) (r : Nat) (f : Nat → Int32) : (gk_r σ r f).1 r = f := va_up_self _ _ _
theorem gr_ne (σ : gk_C) {r q : Nat} (f : Nat → Int32) (h : q ≠ r) : (gk_r σ r f).1 q = σ.1 q := va_up_ne _ _ h
theorem gr_2 (σ : gk_C) (r : Nat) (f : Nat → Int32) : (gk_r σ r f).2 = σ.2 := rfl
theorem gs_s (σ : gk_C) (i : Nat) (x y : Int32) : gk_s (gk_s σ i x) i y = gk_s σ i y := by
  unfold gk_s va_up
  congr 1
  funext j
  by_cases h : j = i <;> simp [h]
theorem up_at (f : Nat → Int32) (k : Nat) (x : Int32) : upd f k x k = x := by simp [upd]
theorem up_ne (f : Nat → Int32) {k j : Nat} (x : Int32) (h : j ≠ k) : upd f k x j = f j := by simp [upd, h]
/-- all but one view is the same -/
def sV (v : Nat) (σ σ1 : gk_C) : Prop := (∀ r, (r < 26 + 6 * v ∨ 32 + 6 * v ≤ r) → σ1.1 r = σ.1 r) ∧ ∀ i, (i < 8 + 4 * v ∨ 12 + 4 * v ≤ i) → σ1.2 i = σ.2 i
theorem sV_rf (v : Nat) (σ : gk_C) : sV v σ σ := ⟨fun _ _ => rfl, fun _ _ => rfl⟩
theorem sV_tr {v : Nat} {a b c : gk_C} (h1 : sV v a b) (h2 : sV v b c) : sV v a c := ⟨fun r hr => (h2.1 r hr).trans (h1.1 r hr), fun i hi => (h2.2 i hi).trans (h1.2 i hi)⟩
theorem sV_told {v : Nat} {σ σ1 T : gk_C} (h : sV v σ σ1) (ht : told σ = T) : told σ1 = T := by
  rw [← ht]
  unfold told
  congr 1
  · funext r k
    by_cases hr : r < 26
    · rw [if_pos hr, if_pos hr, h.1 r (Or.inl (by omega))]
    · rw [if_neg hr, if_neg hr]
  · funext i
    by_cases hi : i < 8
    · rw [if_pos hi, if_pos hi, h.2 i (Or.inl (by omega))]
    · rw [if_neg hi, if_neg hi]
theorem sV_s {v : Nat} (σ : gk_C) {i : Nat} (x : Int32) (h1 : 8 + 4 * v ≤ i) (h2 : i < 12 + 4 * v) : sV v σ (gk_s σ i x) := ⟨fun _ _ => rfl, fun j hj => gs_ne σ x (by omega)⟩
theorem sV_r {v : Nat} (σ : gk_C) {r : Nat} (f : Nat → Int32) (h1 : 26 + 6 * v ≤ r) (h2 : r < 32 + 6 * v) : sV v σ (gk_r σ r f) := ⟨fun q hq => gr_ne σ f (by omega), fun _ _ => rfl⟩
theorem vw_other {v v' : Nat} {lo : Nat → Bool} {T : gk_C} {wgh : Int32} {S : Nat → Int32} {m : Nat} {σ σ1 : gk_C} (H : vw v' lo T wgh S m σ) (hd : v < v' ∨ v' < v) (h : sV v σ σ1) : vw v' lo T wgh S m σ1 := by
  obtain ⟨h0, h1, h2, h3, h4, h5, h6, h7, h8⟩ := H
  refine ⟨sV_told h h0, (h.2 _ (by omega)).trans h1, (h.2 _ (by omega)).trans h2, (h.2 _ (by omega)).trans h3, fun a ha => ?_, fun r hr => ?_, fun u hu c hc i hi => ?_, fun u hu => ?_, fun u hu k hk hm => ?_⟩
  · rw [h.1 _ (by omega)]; exact h4 a ha
  · rw [h.1 _ (by omega)]; exact h5 r hr
  · rw [h.1 _ (by omega)]; exact h6 u hu c hc i hi
  · rw [h.1 _ (by omega)]; exact h7 u hu
  · rw [h.1 _ (by omega)]; exact h8 u hu k hk hm
theorem vw_good {v : Nat} {lo : Nat → Bool} {T : gk_C} {wgh : Int32} {S : Nat → Int32} {m : Nat} {σ : gk_C} (H : vw v lo T wgh S m σ) (x : Int32) : vw v lo T wgh S m (gk_s σ (11 + 4 * v) x) := by
  obtain ⟨h0, h1, h2, h3, h4⟩ := H
  exact ⟨sV_told (v := v) (sV_s σ x (by omega) (by omega)) h0, (gs_ne σ x (by omega)).trans h1, (gs_ne σ x (by omega)).trans h2, (gs_ne σ x (by omega)).trans h3, h4⟩
theorem rNearI_oI (o : Option Nat) : rNearI (-1) o = oI (o.map (· + 1)) := by cases o <;> rfl
theorem nI_sub' {a b : Nat} (h : b ≤ a) : nI a - nI b = nI (a - b) := (Int32.ofNat_sub a b h).symm
/-- what is needed of a state to give a set to a user -/
def v0 (v : Nat) (lo : Nat → Bool) (T : gk_C) (wgh : Int32) (σ : gk_C) : Prop := told σ = T ∧ σ.2 (8 + 4 * v) = wgh ∧ σ.2 (9 + 4 * v) = mb (fun k => !lo k && ruN T k) (tL T) ∧ σ.2 (10 + 4 * v) = mb (fun k => decide (T.1 11 k = 1)) (tL T)
theorem vw_v0 {v : Nat} {lo : Nat → Bool} {T : gk_C} {wgh : Int32} {S : Nat → Int32} {m : Nat} {σ : gk_C} (H : vw v lo T wgh S m σ) : v0 v lo T wgh σ := ⟨H.1, H.2.1, H.2.2.1, H.2.2.2.1⟩
section GS
variable {v : Nat} {lo : Nat → Bool} {T : gk_C} {wgh : Int32} {σ : gk_C}
theorem lb_stepsTo (h : told σ = T) (hw : wf T) {u k : Nat} {s : Int32} (hu : u < 12) (hk : k < tL T) {Q : Int32 → Prop} (hQ : Q (oI (stO T u s k))) : w_X7_stepsTo v σ (nI k) (nI u) s Q := by
  have hL := (wf_L hw).2
  have hR := wf_R hw
  have hU := (wf_U hw).2
  unfold w_X7_stepsTo
  rw [gk_at_in (show k < gk_rl 12 by show k < 30; omega), tr h (show 12 < 26 by decide)]
  unfold stO at hQ
  rcases (hw.2.2.2.2.1 k hk).2.2.1 with ⟨w, w1, w2⟩ | ⟨r, r1, r2⟩
  · refine ⟨fun h1 => ⟨fun h2 => ?_, fun h2 => ?_⟩, fun h1 => absurd (by rw [w2]; exact nI_lt (b := 12) (by omega) (by decide)) h1⟩
    · rw [if_pos h1, if_neg h2] at hQ; exact hQ
    · rw [if_pos h1, if_pos h2] at hQ; exact hQ
  · have h0 : ¬ T.1 12 k < 12 := by rw [r2]; exact nI_nlt (b := 12) (by omega) (by omega)
    refine ⟨fun h1 => absurd h1 h0, fun _ => ?_⟩
    rw [if_neg h0, r2, show nt (nI (12 + r)) = 12 + r from nI_clamp (by omega), show 12 + r - 12 = r by omega] at hQ
    rw [r2, show nI (12 + r) - 12 = nI r from by rw [show (12 : Int32) = nI 12 from rfl, nI_sub' (by omega), show 12 + r - 12 = r by omega]]
    refine lb_nearBy (nR := tR T) ((ts h (by decide)).trans hR.1) hR.2 (by omega) ?_
    rw [rNearI_oI, tr h (show 4 < 26 by decide)]
    exact hQ
theorem lb_weightOf (h : v0 v lo T wgh σ) (hw : wf T) {k st : Nat} (hk : k < tL T) {Q : Int32 → Prop} (hQ : Q (wtI T wgh k st)) : w_X7_weightOf v σ (nI k) (nI st) Q := by
  have hL := (wf_L hw).2
  have hT := (wf_T hw).2.2
  have hab := wf_ab hw hk
  unfold w_X7_weightOf
  rw [gk_at_in (show k < gk_rl 14 by show k < 30; omega), gk_at_in (show k < gk_rl 16 by show k < 30; omega), tr h.1 (show 14 < 26 by decide), tr h.1 (show 16 < 26 by decide), hab.1, gk_at_in (show ab T k < gk_rl 6 by show ab T k < 24; omega), tr h.1 (show 6 < 26 by decide), h.2.1]
  have j99 : ∀ (x : Int32) (b : Bool), Q (x * 2 + (if b = true then 0 else 1)) → wJ_X7_weightOf_99 v σ Q x (b2i b) := fun x b hq => by
    unfold wJ_X7_weightOf_99
    refine b2i_go _ (fun h1 => ?_) (fun h1 => ?_) <;> · rw [h1] at hq; exact hq
  have j91 : ∀ (x : Int32) (b c : Bool), Q (x * 2 + (if b = c then 0 else 1)) → wJ_X7_weightOf_91 v σ Q x (b2i b) (b2i c) := fun x b c hq => by
    unfold wJ_X7_weightOf_91
    refine ⟨fun h1 => ?_, fun h1 => ?_⟩
    · refine j99 x false ?_
      rw [if_neg (fun q => h1 (by rw [q]))] at hq
      exact hq
    · refine j99 x true ?_
      rw [if_pos (by cases b <;> cases c <;> first | rfl | exact absurd h1 (by decide))] at hq
      exact hq
  have j70 : ∀ x : Int32, Q (x * 2 + (if decide (T.1 11 k = 1) = decide (wgh = 1) then 0 else 1)) → wJ_X7_weightOf_70 v σ Q (nI k) x := fun x hq => by
    unfold wJ_X7_weightOf_70
    rw [lb_isIn _ (show k < 32 by omega), h.2.2.2, mb_b _ (by omega) (by omega), decide_eq_true hk, Bool.true_and, h.2.1]
    refine dec_go' (fun h1 => ?_) (fun h1 => ?_)
    · refine j91 x _ true ?_
      rw [h1] at hq; exact hq
    · refine j91 x _ false ?_
      rw [h1] at hq; exact hq
  unfold wtI at hQ
  refine ⟨fun h2 => ⟨fun h3 => j70 _ ?_, fun h3 => j70 _ ?_⟩, fun h2 => j70 _ ?_⟩
  · rw [if_neg h2, if_neg h3] at hQ; exact hQ
  · rw [if_neg h2, if_pos h3] at hQ; exact hQ
  · rw [if_pos h2] at hQ; exact hQ
/-- what giving a set to a user changes -/
def gG (v : Nat) (lo : Nat → Bool) (T : gk_C) (wgh : Int32) (u : Nat) (s : Int32) (k : Nat) (σ σ1 : gk_C) : Prop :=
  (∀ r, r ≠ 28 + 6 * v → r ≠ 29 + 6 * v → σ1.1 r = σ.1 r) ∧ σ1.2 = σ.2 ∧ (∀ j, (j < u * 30 ∨ u * 30 + 30 ≤ j) → σ1.1 (29 + 6 * v) j = σ.1 (29 + 6 * v) j) ∧
  (∀ j, j < k → mU lo T u s j = true → σ1.1 (29 + 6 * v) (u * 30 + j) = wt T wgh u s j)
theorem lb_giveSet (h : v0 v lo T wgh σ) (hv : v < 2) (hw : wf T) {u : Nat} {s : Int32} (hu : u < tU T) {Q : gk_C → Prop} (hQ : ∀ σ1, gG v lo T wgh u s (tL T) σ σ1 → (∀ j, j ≠ u → σ1.1 (28 + 6 * v) j = σ.1 (28 + 6 * v) j) → σ1.1 (28 + 6 * v) u = mb (mU lo T u s) (tL T) → Q σ1) : w_X7_giveSet v σ (nI u) s Q := by
  have hL := wf_L hw
  have hU := wf_U hw
  unfold w_X7_giveSet
  rw [gk_at_in (show u < gk_rl 1 by show u < 12; omega), tr h.1 (show 1 < 26 by decide)]
  have l := lpUp (A := gk_C × Int32) (n := tL T) (W := fun f k z => wL_X7_giveSet_21 v (fun σ x1 x4 => (Q (gk_put σ (28 + 6 * v) x1 x4))) f z.1 (nI u) s (T.1 1 u) z.2 (nI k)) (J := fun k z => z.2 = mb (mU lo T u s) k ∧ gG v lo T wgh u s k σ z.1 ∧ z.1.1 (28 + 6 * v) = σ.1 (28 + 6 * v)) ?_ ?_ (tL T) 0 (σ, 0) (Nat.zero_add _) ⟨rfl, ⟨fun _ _ _ => rfl, rfl, fun _ _ => rfl, fun j hj => absurd hj (by omega)⟩, rfl⟩
  · exact ⟨_, l⟩
  · rintro f ⟨σ1, x⟩ ⟨z1, z2, z3⟩
    have z1 : x = mb (mU lo T u s) (tL T) := z1
    unfold wL_X7_giveSet_21
    have hn : σ1.2 4 = nI (tL T) := by rw [show σ1.2 = σ.2 from z2.2.1, ts h.1 (show 4 < 8 by decide)]; exact hL.1
    refine ⟨fun _ => ?_, fun q => absurd (by show σ1.2 4 ≤ _; rw [hn]; exact nI_le (Nat.le_refl _) (by omega)) q⟩
    show Q (gk_put σ1 (28 + 6 * v) (nI u) x)
    rw [gk_put_in σ1 (28 + 6 * v) u x (by rw [(gk_rv hv).2.2.1]; omega) (by omega)]
    refine hQ _ ⟨fun r h1 h2 => ?_, z2.2.1, fun j hj => ?_, fun j hj hm => ?_⟩ (fun j hj => ?_) ?_
    · rw [gr_ne σ1 _ h1]; exact z2.1 r h1 h2
    · rw [gr_ne σ1 _ (by omega)]; exact z2.2.2.1 j hj
    · rw [gr_ne σ1 _ (by omega)]; exact z2.2.2.2 j hj hm
    · rw [gr_at, up_ne _ _ hj, z3]
    · rw [gr_at, up_at, z1]
  · rintro f k ⟨σ1, x⟩ hk ⟨z1, z2, z3⟩ next
    have z1 : x = mb (mU lo T u s) k := z1
    have z2 : gG v lo T wgh u s k σ σ1 := z2
    have z3 : σ1.1 (28 + 6 * v) = σ.1 (28 + 6 * v) := z3
    have hS : sV v σ σ1 := ⟨fun r hr => z2.1 r (by omega) (by omega), fun i _ => congrFun z2.2.1 i⟩
    have h1 : v0 v lo T wgh σ1 := ⟨sV_told hS h.1, by rw [z2.2.1]; exact h.2.1, by rw [z2.2.1]; exact h.2.2.1, by rw [z2.2.1]; exact h.2.2.2⟩
    have hn : σ1.2 4 = nI (tL T) := (ts h1.1 (by decide)).trans hL.1
    have stay : mU lo T u s k = false → wL_X7_giveSet_21 v (fun σ x1 x4 => (Q (gk_put σ (28 + 6 * v) x1 x4))) f σ1 (nI u) s (T.1 1 u) x (nI k + 1) := fun hm => by
      rw [nI_1]
      refine next (σ1, x) ⟨?_, ⟨z2.1, z2.2.1, z2.2.2.1, fun j hj hj2 => ?_⟩, z3⟩
      · rw [mb_f hm]; exact z1
      · by_cases q : j = k
        · subst q; rw [hm] at hj2; cases hj2
        · exact z2.2.2.2 j (by omega) hj2
    have j94 : ((!lo k && ruN T k) && trt T u k) = true → ∀ o, o = stO T u s k → wJ_X7_giveSet_94 v (fun σ x1 x2 x3 x4 x5 => wL_X7_giveSet_21 v (fun σ x1 x4 => (Q (gk_put σ (28 + 6 * v) x1 x4))) f σ x1 x2 x3 x4 x5) σ1 (nI u) s (T.1 1 u) x (nI k) (oI o) := fun hp o ho => by
      unfold wJ_X7_giveSet_94
      cases o with
      | none =>
        refine ⟨fun _ => stay (by unfold mU; rw [← ho]; simp), fun q => absurd (by decide) q⟩
      | some st =>
        have hm : mU lo T u s k = true := by unfold mU; rw [← ho, hp]; rfl
        have hst : st < 2 ^ 31 := by
          unfold stO rN1 at ho
          by_cases c1 : T.1 12 k < 12
          · rw [if_pos c1] at ho
            by_cases c2 : T.1 12 k = nI u
            · rw [if_pos c2] at ho; cases ho; omega
            · rw [if_neg c2] at ho; cases ho
          · rw [if_neg c1] at ho
            cases hq : rNear (T.1 4) (tR T) s (nt (T.1 12 k) - 12) with
            | none => rw [hq] at ho; cases ho
            | some q =>
              rw [hq] at ho
              cases ho
              unfold rNear at hq
              have := List.mem_range.mp (List.mem_of_find?_eq_some hq)
              show q + 1 < 2 ^ 31
              omega
        refine ⟨fun q => absurd q (nI_pos hst), fun _ => ?_⟩
        refine lb_weightOf h1 hw hk ?_
        rw [show nI u * 30 + nI k = nI (u * 30 + k) from nI_ma u k 30, gk_put_in σ1 (29 + 6 * v) (u * 30 + k) _ (by rw [(gk_rv hv).2.2.2.1]; omega) (by omega), nI_1]
        refine next (_, _) ⟨?_, ⟨fun r q1 q2 => ?_, z2.2.1, fun j hj => ?_, fun j hj hj2 => ?_⟩, ?_⟩
        · rw [mb_t hm]
          show x ||| _ = _
          rw [z1]
        · show (gk_r σ1 _ _).1 r = _
          rw [gr_ne σ1 _ q2]; exact z2.1 r q1 q2
        · show (gk_r σ1 _ _).1 _ j = _
          rw [gr_at, up_ne _ _ (by omega)]; exact z2.2.2.1 j hj
        · show (gk_r σ1 _ _).1 _ _ = _
          rw [gr_at]
          by_cases q : j = k
          · subst q
            rw [up_at]
            unfold wt
            rw [← ho]
            rfl
          · rw [up_ne _ _ (by omega)]
            exact z2.2.2.2 j (by omega) hj2
        · show (gk_r σ1 _ _).1 _ = _
          rw [gr_ne σ1 _ (by omega)]
          exact z3
    have j75f : ((!lo k && ruN T k) && trt T u k) = false → wJ_X7_giveSet_75 v (fun σ x1 x2 x3 x4 x5 => wL_X7_giveSet_21 v (fun σ x1 x4 => (Q (gk_put σ (28 + 6 * v) x1 x4))) f σ x1 x2 x3 x4 x5) σ1 (nI u) s (T.1 1 u) x (nI k) 0 := fun hp => by
      unfold wJ_X7_giveSet_75
      refine ⟨fun _ => ?_, fun q => absurd rfl q⟩
      unfold wJ_X7_giveSet_94
      exact ⟨fun _ => stay (by unfold mU; rw [hp]; rfl), fun q => absurd (by decide) q⟩
    show wL_X7_giveSet_21 v _ (f + 1) σ1 (nI u) s (T.1 1 u) x (nI k)
    unfold wL_X7_giveSet_21
    rw [hn, gk_at_in (show k < gk_rl 17 by show k < 30; omega), tr h1.1 (show 17 < 26 by decide)]
    refine ⟨fun q => absurd q (nI_ge hk (by omega)), fun _ => ?_⟩
    rw [lb_isIn _ (show k < 32 by omega), h1.2.2.1, mb_b _ (by omega) (by omega), decide_eq_true hk, Bool.true_and]
    refine b2i_go _ (fun q1 => ?_) (fun q1 => ?_)
    · unfold wJ_X7_giveSet_74
      exact j75f (by rw [q1]; rfl)
    · refine ⟨fun q2 => ?_, fun q2 => ?_⟩
      · unfold wJ_X7_giveSet_74
        exact j75f (by unfold trt; rw [decide_eq_false q2, Bool.and_false])
      · unfold wJ_X7_giveSet_75
        refine ⟨fun q => absurd q (by decide), fun _ => ?_⟩
        refine lb_stepsTo h1.1 hw (by omega) hk ?_
        exact j94 (by rw [q1]; unfold trt; rw [decide_eq_true q2]; rfl) _ rfl
/-- a set is given to a user of the view, or to the next one -/
theorem vw_give {S : Nat → Int32} {m : Nat} (H : vw v lo T wgh S m σ) (hv : v < 2) (hw : wf T) {u : Nat} {s : Int32} (hu : u < tU T) (hum : u ≤ m) {Q : gk_C → Prop} (hQ : ∀ σ1, vw v lo T wgh (va_up S u s) (if u = m then m + 1 else m) σ1 → sV v σ σ1 → σ1.2 = σ.2 → Q σ1) : w_X7_giveSet v σ (nI u) s Q := by
  refine lb_giveSet (vw_v0 H) hv hw hu (fun σ1 h1 h2 h3 => ?_)
  have hL := (wf_L hw).2
  have hS : sV v σ σ1 := ⟨fun r hr => h1.1 r (by omega) (by omega), fun i _ => congrFun h1.2.1 i⟩
  obtain ⟨g0, g1, g2, g3, g4, g5, g6, g7, g8⟩ := H
  refine hQ σ1 ⟨sV_told hS g0, by rw [h1.2.1]; exact g1, by rw [h1.2.1]; exact g2, by rw [h1.2.1]; exact g3, fun a ha => ?_, fun r hr => ?_, fun w hw' c hc i hi => ?_, fun w hw' => ?_, fun w hw' k hk hm => ?_⟩ hS h1.2.1
  · rw [h1.1 _ (by omega) (by omega)]; exact g4 a ha
  · rw [h1.1 _ (by omega) (by omega)]; exact g5 r hr
  · rw [h1.1 _ (by omega) (by omega)]; exact g6 w hw' c hc i hi
  · by_cases q : w = u
    · subst q
      rw [h3, va_up_self]
    · rw [h2 w q, va_up_ne _ _ q]
      refine g7 w ?_
      by_cases q2 : u = m
      · rw [if_pos q2] at hw'; omega
      · rw [if_neg q2] at hw'; omega
  · by_cases q : w = u
    · subst q
      rw [va_up_self] at hm ⊢
      exact h1.2.2.2 k hk hm
    · rw [va_up_ne _ _ q] at hm ⊢
      rw [h1.2.2.1 _ (by omega)]
      refine g8 w ?_ k hk hm
      by_cases q2 : u = m
      · rw [if_pos q2] at hw'; omega
      · rw [if_neg q2] at hw'; omega
theorem lb_byRight {S : Nat → Int32} (H : vw v lo T wgh S (tU T) σ) (hv : v < 2) (hw : wf T) {g : Nat} (hg : g < tG T) {Q : Int32 → Prop} (hQ : Q (b2i (byR lo T wgh S g))) : w_X7_isByRight v σ (nI g) Q := by
  have hG := (wf_G hw).2
  obtain ⟨⟨f1, f2⟩, -, ⟨a1, a2⟩, ⟨o1, o2⟩⟩ := wf_gr hw hg
  unfold w_X7_isByRight
  rw [gk_at_in (show g < gk_rl 20 by show g < 30; omega), gk_at_in (show g < gk_rl 22 by show g < 30; omega), gk_at_in (show g < gk_rl 23 by show g < 30; omega), tr H.1 (show 20 < 26 by decide), tr H.1 (show 22 < 26 by decide), tr H.1 (show 23 < 26 by decide), f1, a1, o1]
  unfold byR at hQ
  refine lb_ruled H hv hw (Nat.le_refl _) f2 a2 o2 ?_
  refine dec_go' (fun h1 => ?_) (fun h1 => ?_)
  · rw [h1, Bool.true_and] at hQ
    refine lb_ruled (a := 4) H hv hw (Nat.le_refl _) f2 (by decide) o2 ?_
    refine dec_go' (fun h2 => ?_) (fun h2 => ?_) <;> · rw [h2] at hQ; exact hQ
  · rw [h1] at hQ; exact hQ
theorem lb_passedOn (h : told σ = T) (hw : wf T) {g : Nat} (hg : g < tG T) {Q : Int32 → Prop} (hQ : Q (b2i (lea T (σ.2 (11 + 4 * v)) g))) : w_X7_isPassedOn v σ (nI g) Q := by
  have hG := (wf_G hw).2
  have hT := (wf_T hw).2.2
  obtain ⟨⟨f1, f2⟩, -, ⟨a1, a2⟩, ⟨o1, o2⟩⟩ := wf_gr hw hg
  unfold w_X7_isPassedOn
  rw [gk_at_in (show g < gk_rl 20 by show g < 30; omega), gk_at_in (show g < gk_rl 22 by show g < 30; omega), gk_at_in (show g < gk_rl 23 by show g < 30; omega), tr h (show 20 < 26 by decide), tr h (show 22 < 26 by decide), tr h (show 23 < 26 by decide), f1, a1, o1]
  have l := lpUp (A := Unit) (n := g) (W := fun f k _ => wL_X7_isPassedOn_49 v σ Q f (nI g) (nI (gf T g)) (nI (ga T g)) (nI (go T g)) (nI k)) (J := fun k _ => ∀ j, j < k → (bt (σ.2 (11 + 4 * v)) j && giv T (gf T g) (ga T g) (go T g) j && !decide (T.1 24 j ≤ T.1 24 g)) = false) ?_ ?_ g 0 () (Nat.zero_add _) (fun j hj => absurd hj (by omega))
  · exact ⟨_, l⟩
  · intro f _ hz
    unfold wL_X7_isPassedOn_49
    refine ⟨fun _ => ?_, fun q => absurd (nI_le (Nat.le_refl _) (by omega)) q⟩
    unfold lea at hQ
    rw [rAny_f.mpr hz] at hQ; exact hQ
  · intro f k _ hk hz next
    unfold wL_X7_isPassedOn_49
    refine ⟨fun q => absurd q (nI_ge hk (by omega)), fun _ => ?_⟩
    have step : (bt (σ.2 (11 + 4 * v)) k && giv T (gf T g) (ga T g) (go T g) k && !decide (T.1 24 k ≤ T.1 24 g)) = false → wL_X7_isPassedOn_49 v σ Q f (nI g) (nI (gf T g)) (nI (ga T g)) (nI (go T g)) (nI k + 1) := fun q => by
      rw [nI_1]
      refine next () (fun j hj => ?_)
      by_cases e : j = k
      · rw [e]; exact q
      · exact hz j (by omega)
    rw [lb_isIn _ (show k < 32 by omega)]
    refine b2i_go _ (fun q1 => step (by rw [q1]; rfl)) (fun q1 => ?_)
    refine lb_isGiven h hw (by omega) (by omega) ?_
    refine b2i_go _ (fun q2 => step (by rw [q2]; simp)) (fun q2 => ?_)
    rw [gk_at_in (show k < gk_rl 24 by show k < 30; omega), gk_at_in (show g < gk_rl 24 by show g < 30; omega), tr h (show 24 < 26 by decide)]
    refine ⟨fun q3 => step (by rw [decide_eq_true q3]; simp), fun q3 => ?_⟩
    unfold lea at hQ
    rw [rAny_t.mpr ⟨k, hk, by rw [q1, q2, decide_eq_false q3]; rfl⟩] at hQ
    exact hQ
theorem gdB_t {B : Nat → Bool} {g : Nat} (h : (isT T g && (B g || lea T (gdB T B g) g)) = true) : gdB T B (g + 1) = gdB T B g ||| (1 <<< (nI g &&& 31)) := by rw [gdB, if_pos h]
theorem gdB_f {B : Nat → Bool} {g : Nat} (h : (isT T g && (B g || lea T (gdB T B g) g)) = false) : gdB T B (g + 1) = gdB T B g := by rw [gdB, if_neg (by rw [h]; decide)]
theorem gdB_congr {B R : Nat → Bool} {n : Nat} (h : ∀ g, g < n → isT T g = true → B g = R g) : gdB T B n = gdB T R n := by
  induction n with
  | zero => rfl
  | succ n ih =>
    rw [gdB, gdB, ih (fun g hg => h g (by omega))]
    cases q : isT T n
    · simp
    · rw [h n (by omega) q]
theorem lb_weighGrants {S : Nat → Int32} (H : vw v lo T wgh S (tU T) σ) (hv : v < 2) (hw : wf T) {Q : gk_C → Prop} (hQ : Q (gk_s σ (11 + 4 * v) (gd lo T wgh S))) : w_X7_weighGrants v σ Q := by
  have hG := wf_G hw
  unfold w_X7_weighGrants
  have l := lpUp (A := Unit) (n := tG T) (W := fun f k _ => wL_X7_weighGrants_7 v Q f (gk_s σ (11 + 4 * v) (gdB T (byR lo T wgh S) k)) (nI k)) (J := fun _ _ => True) ?_ ?_ (tG T) 0 () (Nat.zero_add _) trivial
  · exact ⟨_, l⟩
  · intro f _ _
    have h1 := (vw_good H (gdB T (byR lo T wgh S) (tG T))).1
    unfold wL_X7_weighGrants_7
    rw [(ts h1 (show 5 < 8 by decide)).trans hG.1]
    refine ⟨fun _ => hQ, fun q => absurd (nI_le (Nat.le_refl _) (by omega)) q⟩
  · intro f k _ hk _ next
    have H1 := vw_good H (gdB T (byR lo T wgh S) k)
    unfold wL_X7_weighGrants_7
    rw [(ts H1.1 (show 5 < 8 by decide)).trans hG.1, nI_1]
    refine ⟨fun q => absurd q (nI_ge hk (by omega)), fun _ => ?_⟩
    have stay : (isT T k && (byR lo T wgh S k || lea T (gdB T (byR lo T wgh S) k) k)) = false → wL_X7_weighGrants_7 v Q f (gk_s σ (11 + 4 * v) (gdB T (byR lo T wgh S) k)) (nI (k + 1)) := fun q => by
      have h2 := next () trivial
      rw [gdB_f q] at h2
      exact h2
    have take : (isT T k && (byR lo T wgh S k || lea T (gdB T (byR lo T wgh S) k) k)) = true → wJ_X7_weighGrants_48 v (fun σ x1 => wL_X7_weighGrants_7 v Q f σ x1) (gk_s σ (11 + 4 * v) (gdB T (byR lo T wgh S) k)) (nI k) := fun q => by
      have h2 := next () trivial
      rw [gdB_t q] at h2
      unfold wJ_X7_weighGrants_48
      rw [gs_s, gs_at, nI_1]
      exact h2
    refine lb_isThere H1.1 (by omega) ?_
    refine b2i_go _ (fun q1 => stay (by rw [q1]; rfl)) (fun q1 => ?_)
    refine lb_byRight H1 hv hw hk ?_
    refine b2i_go' _ (fun q2 => ?_) (fun q2 => take (by rw [q1, q2]; rfl))
    refine lb_passedOn (v := v) H1.1 hw hk ?_
    rw [gs_at]
    exact b2i_go _ (fun q3 => stay (by rw [q2, q3]; simp)) (fun q3 => take (by rw [q1, q3]; simp))
end GS

