/-! ===== layer B: roles, further: all that is had is had in twelve steps; the reference's nears ===== -/
theorem cn_mono {P R : Nat → Bool} {n : Nat} (h : ∀ i, i < n → P i = true → R i = true) : cn P n ≤ cn R n := by
  induction n with
  | zero => exact Nat.le_refl _
  | succ n ih =>
    have h1 := ih (fun i hi => h i (by omega))
    rw [cn, cn]
    by_cases hp : P n = true
    · rw [if_pos hp, if_pos (h n (by omega) hp)]; omega
    · rw [if_neg hp]
      by_cases hq : R n = true
      · rw [if_pos hq]; omega
      · rw [if_neg hq]; exact h1
theorem cn_lt {P R : Nat → Bool} {n : Nat} (h : ∀ i, i < n → P i = true → R i = true) {j : Nat} (hj : j < n) (h1 : P j = false) (h2 : R j = true) : cn P n < cn R n := by
  induction n with
  | zero => omega
  | succ n ih =>
    rw [cn, cn]
    by_cases e : j = n
    · subst e
      rw [if_neg (by rw [h1]; decide), if_pos h2]
      have := cn_mono (n := j) (fun i hi => h i (by omega))
      omega
    · have h3 := ih (fun i hi => h i (by omega)) (by omega)
      by_cases hp : P n = true
      · rw [if_pos hp, if_pos (h n (by omega) hp)]; omega
      · rw [if_neg hp]
        by_cases hq : R n = true
        · rw [if_pos hq]; omega
        · rw [if_neg hq]; exact h3
/-- a set has members before n alone -/
def bd (n : Nat) (s : Int32) : Prop := ∀ i, i < 32 → bt s i = true → i < n
section HD
variable {h : Nat → Int32} {nR : Nat} {s : Int32}
theorem bd_rHeld (hb : ∀ k, k < nR → bd nR (h k)) (x : Int32) : bd nR (rHeld h x nR) := by
  intro i hi hbt
  rw [rHeld_b, rAny_t] at hbt
  obtain ⟨j, h1, h2⟩ := hbt
  rw [Bool.and_eq_true] at h2
  exact hb j h1 i hi h2.2
theorem bd_rN (hb : ∀ k, k < nR → bd nR (h k)) (hs : bd nR s) (k : Nat) : bd nR (rN h nR s k) := by
  cases k with
  | zero => exact hs
  | succ k =>
    intro i hi hbt
    have h1 : bt (rHeld h (rNH h nR s k).1 nR &&& ((rNH h nR s k).2 ^^^ (-1))) i = true := hbt
    rw [b_and, Bool.and_eq_true] at h1
    exact bd_rHeld hb _ i hi h1.1
theorem rN12 (hR : nR ≤ 12) (hb : ∀ k, k < nR → bd nR (h k)) (hs : bd nR s) : rN h nR s 12 = 0 := by
  refine Decidable.byContradiction fun hne => ?_
  have hall : ∀ k, k ≤ 12 → ¬ rN h nR s k = 0 := fun k hk h0 => by
    have h1 := (rN_zero h0 (12 - k)).1
    rw [show k + (12 - k) = 12 by omega] at h1
    exact hne h1
  have hex : ∀ k, k ≤ 12 → ∃ i, i < nR ∧ bt (rN h nR s k) i = true := fun k hk => by
    refine Decidable.byContradiction fun hn => hall k hk ?_
    rw [b_eq0]
    intro i hi
    cases hbt : bt (rN h nR s k) i
    · rfl
    · exact absurd ⟨i, bd_rN hb hs k i hi hbt, hbt⟩ hn
  have grow : ∀ k, k ≤ 12 → k + 1 ≤ cn (fun i => bt (rH h nR s k) i) nR := by
    intro k
    induction k with
    | zero =>
      intro _
      obtain ⟨i, h1, h2⟩ := hex 0 (by omega)
      have := cn_lt (P := fun _ => false) (R := fun i => bt (rH h nR s 0) i) (n := nR) (fun _ _ q => by cases q) h1 rfl h2
      omega
    | succ k ih =>
      intro hk
      have h1 := ih (by omega)
      obtain ⟨i, h2, h3⟩ := hex (k + 1) hk
      have h5 := (rN_first (k + 1) (show i < 32 by omega)).mp h3
      have h4 : bt (rH h nR s k) i = false := by
        rw [rH_b, rAny_f]
        intro j hj
        cases hq : bt (rN h nR s j) i
        · rfl
        · have h6 := ((rN_first j (show i < 32 by omega)).mp hq).1
          rw [h5.2 j hj] at h6
          cases h6
      have h7 : ∀ i, i < nR → bt (rH h nR s k) i = true → bt (rH h nR s (k + 1)) i = true := fun i _ q => by
        show bt ((rNH h nR s k).2 ||| _) i = true
        rw [b_or, show bt (rNH h nR s k).2 i = true from q]
        rfl
      have h8 : bt (rH h nR s (k + 1)) i = true := by
        show bt ((rNH h nR s k).2 ||| (rHeld h (rNH h nR s k).1 nR &&& ((rNH h nR s k).2 ^^^ (-1)))) i = true
        rw [b_or, show bt (rHeld h (rNH h nR s k).1 nR &&& ((rNH h nR s k).2 ^^^ (-1))) i = true from h3]
        simp
      have := cn_lt (P := fun i => bt (rH h nR s k) i) (R := fun i => bt (rH h nR s (k + 1)) i) h7 h2 h4 h8
      omega
  have h1 := grow 12 (Nat.le_refl _)
  have h2 := cn_le (fun i => bt (rH h nR s 12) i) nR
  omega
/-- where a role comes first, told of the first k steps -/
def nrK (h : Nat → Int32) (nR : Nat) (s : Int32) (k r : Nat) : Option Nat := (List.range k).find? (fun j => bt (rN h nR s j) r)
theorem nrK_s {k r : Nat} (hr : r < 32) : nrK h nR s (k + 1) r = if bt (rN h nR s k) r = true then some k else nrK h nR s k r := by
  unfold nrK
  rw [List.range_succ, List.find?_append]
  by_cases q : bt (rN h nR s k) r = true
  · rw [if_pos q]
    have h1 := (rN_first k hr).mp q
    rw [List.find?_eq_none.mpr (fun j hj => by
      intro h2
      have h3 := ((rN_first j hr).mp h2).1
      rw [h1.2 j (List.mem_range.mp hj)] at h3
      cases h3)]
    simp [q]
  · rw [if_neg q]
    simp [q]
theorem nrK_end {k r d : Nat} (h0 : rN h nR s k = 0) : nrK h nR s (k + d) r = nrK h nR s k r := by
  induction d with
  | zero => rfl
  | succ d ih =>
    rw [← ih]
    unfold nrK
    rw [show k + (d + 1) = (k + d) + 1 by omega, List.range_succ, List.find?_append]
    have h1 : bt (rN h nR s (k + d)) r = false := by rw [(rN_zero h0 d).1, b_0]
    simp [h1]
end HD
/-- the row of nears of a set -/
def isN (T : gk_C) (s : Int32) (f : Nat → Int32) : Prop := ∀ r, r < 12 → f r = rNearI 99 (rNear (T.1 4) (tR T) s r)
theorem vp_in' {k n : Nat} (h : k < n) (hn : n ≤ 1000) : vp_in (nI k) n := vp_in_nI h (by omega)
theorem lm_nears_ {T μ : gk_C} (hn : μ.2 7 = nI (tR T)) (hR : tR T ≤ 12) (hr : ∀ k, k < 12 → μ.1 8 k = T.1 4 k) (hb : ∀ k, k < tR T → bd (tR T) (T.1 4 k)) {s : Int32} (hs : bd (tR T) s) {f0 : Nat → Int32} {Q : (Nat → Int32) → Prop} (hQ : ∀ f, isN T s f → Q f) : w_X9_nears_ μ s f0 Q := by
  have z12 := rN12 (s := s) hR hb hs
  unfold w_X9_nears_
  have l := lpUp (A := Nat → Int32) (n := 12) (W := fun fu k f => wL_X9_nears__8 μ (fun x3 x4 fP1 => (∃ n30, wL_X9_nears__30 μ Q n30 x3 x4 1 fP1)) fu 0 s (nI k) f) (J := fun k f => ∀ r, r < k → f r = 99) ?_ ?_ 12 0 f0 (Nat.zero_add _) (fun r hr => absurd hr (by omega))
  · exact ⟨_, l⟩
  · intro fu f hf
    unfold wL_X9_nears__8
    refine ⟨fun _ => ?_, fun q => absurd (by decide) q⟩
    show ∃ n30, wL_X9_nears__30 μ Q n30 0 s 1 f
    have l2 := lpUp (A := Int32 × (Nat → Int32)) (n := 12) (W := fun fu k z => wL_X9_nears__30 μ Q fu z.1 (rN (T.1 4) (tR T) s k) (nI (k + 1)) z.2) (J := fun k z => z.1 ||| rN (T.1 4) (tR T) s k = rH (T.1 4) (tR T) s k ∧ ∀ r, r < 12 → z.2 r = rNearI 99 (nrK (T.1 4) (tR T) s k r)) ?_ ?_ 12 0 (0, f) (Nat.zero_add _) ⟨?_, fun r hr => hf r hr⟩
    · exact ⟨_, l2⟩
    · intro fu ⟨met, g⟩ ⟨_, z2⟩
      show wL_X9_nears__30 μ Q (fu + 1) met (rN (T.1 4) (tR T) s 12) (nI 13) g
      unfold wL_X9_nears__30
      exact ⟨fun _ => hQ g (fun r hr => z2 r hr), fun q => absurd z12 q⟩
    · intro fu k ⟨met, g⟩ hk ⟨z1, z2⟩ next
      have z1 : met ||| rN (T.1 4) (tR T) s k = rH (T.1 4) (tR T) s k := z1
      have z2 : ∀ r, r < 12 → g r = rNearI 99 (nrK (T.1 4) (tR T) s k r) := z2
      show wL_X9_nears__30 μ Q (fu + 1) met (rN (T.1 4) (tR T) s k) (nI (k + 1)) g
      unfold wL_X9_nears__30
      refine ⟨fun q => hQ g (fun r hr => ?_), fun q => ?_⟩
      · rw [z2 r hr]
        have h1 := nrK_end (d := 12 - k) (r := r) q
        rw [show k + (12 - k) = 12 by omega] at h1
        rw [← h1]
        rfl
      · have l3 := lpUp (A := Int32 × (Nat → Int32)) (n := tR T) (W := fun f3 j y => wL_X9_nears__41 μ (fun x3 x4 x5 x6 fP1 => (wL_X9_nears__30 μ Q fu (x3 ||| x4) (x6 &&& ((x3 ||| x4) ^^^ (-1))) (x5 + 1) fP1)) f3 met (rN (T.1 4) (tR T) s k) (nI (k + 1)) y.1 (nI j) y.2) (J := fun j y => y.1 = rHeld (T.1 4) (rN (T.1 4) (tR T) s k) j ∧ ∀ r, r < 12 → y.2 r = if r < j ∧ bt (rN (T.1 4) (tR T) s k) r = true then nI (k + 1) else g r) ?_ ?_ (tR T) 0 (0, g) (Nat.zero_add _) ⟨rfl, fun r _ => by rw [if_neg (by omega)]⟩
        · exact ⟨_, l3⟩
        · intro f3 ⟨x6, g2⟩ ⟨y1, y2⟩
          have y1 : x6 = rHeld (T.1 4) (rN (T.1 4) (tR T) s k) (tR T) := y1
          show wL_X9_nears__41 μ _ (f3 + 1) met (rN (T.1 4) (tR T) s k) (nI (k + 1)) x6 (nI (tR T)) g2
          unfold wL_X9_nears__41
          rw [hn]
          refine ⟨fun _ => ?_, fun q => absurd (nI_le (Nat.le_refl _) (by omega)) q⟩
          show wL_X9_nears__30 μ Q fu (met ||| rN (T.1 4) (tR T) s k) (x6 &&& ((met ||| rN (T.1 4) (tR T) s k) ^^^ (-1))) (nI (k + 1) + 1) g2
          rw [z1, nI_1, y1]
          refine next (rH (T.1 4) (tR T) s k, g2) ⟨rfl, fun r hr => ?_⟩
          have h1 : g2 r = _ := y2 r hr
          show g2 r = _
          rw [h1, nrK_s (by omega)]
          by_cases q2 : bt (rN (T.1 4) (tR T) s k) r = true
          · rw [if_pos ⟨bd_rN hb hs k r (by omega) q2, q2⟩, if_pos q2]; rfl
          · rw [if_neg (fun q3 => q2 q3.2), if_neg q2]; exact z2 r hr
        · intro f3 j ⟨x6, g2⟩ hj ⟨y1, y2⟩ next3
          have y1 : x6 = rHeld (T.1 4) (rN (T.1 4) (tR T) s k) j := y1
          show wL_X9_nears__41 μ _ (f3 + 1) met (rN (T.1 4) (tR T) s k) (nI (k + 1)) x6 (nI j) g2
          unfold wL_X9_nears__41
          rw [hn, b_get _ (show j < 32 by omega), nI_1 j]
          refine ⟨fun q => absurd q (nI_ge hj (by omega)), fun _ => ?_⟩
          refine b2i_go' _ (fun q2 => next3 (x6, g2) ⟨?_, fun r hr => ?_⟩) (fun q2 => ⟨vp_in' (by omega) (by omega), vp_in' (by omega) (by omega), ?_⟩)
          · rw [rHeld, if_neg (by rw [q2]; decide)]; exact y1
          · have h1 : g2 r = _ := y2 r hr
            show g2 r = _
            rw [h1]
            by_cases e : r = j
            · subst e
              rw [if_neg (by omega), if_neg (by rw [q2]; simp)]
            · have e2 : (r < j + 1 ∧ bt (rN (T.1 4) (tR T) s k) r = true) ↔ (r < j ∧ bt (rN (T.1 4) (tR T) s k) r = true) := ⟨fun q => ⟨by omega, q.2⟩, fun q => ⟨by omega, q.2⟩⟩
              simp only [e2]
          · rw [nI_clamp (by omega)]
            refine next3 (x6 ||| μ.1 8 j, upd g2 j (nI (k + 1))) ⟨?_, fun r hr => ?_⟩
            · show x6 ||| μ.1 8 j = _
              rw [rHeld, if_pos q2, y1, ‹∀ k, k < 12 → μ.1 8 k = T.1 4 k› j (by omega)]
            · show upd g2 j (nI (k + 1)) r = _
              by_cases e : r = j
              · subst e
                rw [up_at, if_pos ⟨by omega, q2⟩]
              · rw [up_ne _ _ e, show g2 r = _ from y2 r hr]
                have e2 : (r < j + 1 ∧ bt (rN (T.1 4) (tR T) s k) r = true) ↔ (r < j ∧ bt (rN (T.1 4) (tR T) s k) r = true) := ⟨fun q => ⟨by omega, q.2⟩, fun q => ⟨by omega, q.2⟩⟩
                simp only [e2]
    · show (0 : Int32) ||| s = s
      apply b_ext
      intro i hi
      rw [b_or, b_0, Bool.false_or]
  · intro fu k f hk hf next
    unfold wL_X9_nears__8
    refine ⟨fun q => absurd q (nI_ge (b := 12) hk (by decide)), fun _ => ⟨vp_in' hk (by decide), ?_⟩⟩
    rw [nI_1, nI_clamp (by omega)]
    refine next _ (fun r hr => ?_)
    by_cases e : r = k
    · subst e; exact up_at _ _ _
    · rw [up_ne _ _ e]; exact hf r (by omega)
