/-! ===== layer B: two roles more are enough ===== -/
/-- the least size, told step by step -/
def mnO (C : Nat → Bool) (sz : Nat → Nat) : Nat → Option Nat
  | 0 => none
  | n + 1 => match mnO C sz n with
    | none => if C n = true then some (sz n) else none
    | some b => if C n = true ∧ sz n < b then some (sz n) else some b
theorem mnO_c {C : Nat → Bool} {sz : Nat → Nat} : ∀ {n : Nat}, (∀ b, mnO C sz n = some b → (∃ j, j < n ∧ C j = true ∧ sz j = b) ∧ ∀ j, j < n → C j = true → b ≤ sz j) ∧ (mnO C sz n = none → ∀ j, j < n → C j = false) := by
  intro n
  induction n with
  | zero => exact ⟨fun b h => (by cases h), fun _ j hj => absurd hj (by omega)⟩
  | succ n ih =>
    rw [mnO]
    cases h1 : mnO C sz n with
    | none =>
      have h2 := ih.2 h1
      by_cases hc : C n = true
      · simp only [hc, if_true]
        refine ⟨fun b h => ?_, fun h => (by cases h)⟩
        cases h
        refine ⟨⟨n, by omega, hc, rfl⟩, fun j hj hcj => ?_⟩
        by_cases e : j = n
        · rw [e]; exact Nat.le_refl _
        · rw [h2 j (by omega)] at hcj; cases hcj
      · simp only [hc]
        refine ⟨fun b h => (by simp at h), fun _ j hj => ?_⟩
        by_cases e : j = n
        · rw [e]; simpa using hc
        · exact h2 j (by omega)
    | some c =>
      obtain ⟨⟨i, i1, i2, i3⟩, c2⟩ := ih.1 c h1
      by_cases hc : C n = true ∧ sz n < c
      · simp only [hc, and_self, if_true]
        refine ⟨fun b h => ?_, fun h => (by simp at h)⟩
        have h : sz n = b := by simpa using h
        refine ⟨⟨n, by omega, hc.1, h⟩, fun j hj hcj => ?_⟩
        by_cases e : j = n
        · rw [e]; omega
        · have := c2 j (by omega) hcj
          omega
      · simp only [hc, if_false]
        refine ⟨fun b h => ?_, fun h => (by simp at h)⟩
        have h : c = b := by simpa using h
        subst h
        refine ⟨⟨i, by omega, i2, i3⟩, fun j hj hcj => ?_⟩
        by_cases e : j = n
        · rw [e] at hcj ⊢
          have : ¬ sz n < c := fun q => hc ⟨hcj, q⟩
          omega
        · exact c2 j (by omega) hcj
theorem mnO_eq {C D : Nat → Bool} {sz sd : Nat → Nat} {n m : Nat} (h1 : ∀ j, j < n → C j = true → ∃ i, i < m ∧ D i = true ∧ sd i ≤ sz j) (h2 : ∀ j, j < m → D j = true → ∃ i, i < n ∧ C i = true ∧ sz i ≤ sd j) : mnO C sz n = mnO D sd m := by
  cases c : mnO C sz n with
  | none =>
    cases d : mnO D sd m with
    | none => rfl
    | some b =>
      obtain ⟨⟨j, j1, j2, -⟩, -⟩ := mnO_c.1 b d
      obtain ⟨i, i1, i2, -⟩ := h2 j j1 j2
      have := mnO_c.2 c i i1
      rw [i2] at this; cases this
  | some a =>
    obtain ⟨⟨i, i1, i2, i3⟩, a2⟩ := mnO_c.1 a c
    obtain ⟨i', i1', i2', i3'⟩ := h1 i i1 i2
    cases d : mnO D sd m with
    | none =>
      have := mnO_c.2 d i' i1'
      rw [i2'] at this; cases this
    | some b =>
      obtain ⟨⟨j, j1, j2, j3⟩, b2⟩ := mnO_c.1 b d
      obtain ⟨k, k1, k2, k3⟩ := h2 j j1 j2
      have e1 := b2 i' i1' i2'
      have e2 := a2 k k1 k2
      congr 1
      omega
theorem mnO_skip {C : Nat → Bool} {sz : Nat → Nat} {n : Nat} (h : C n = false) : mnO C sz (n + 1) = mnO C sz n := by
  rw [mnO]
  cases mnO C sz n <;> simp [h]
theorem mnO_ge {C : Nat → Bool} {sz : Nat → Nat} {n b : Nat} (h : mnO C sz n = some b) (hb : b ≤ sz n) : mnO C sz (n + 1) = some b := by
  rw [mnO, h]
  simp [show ¬ sz n < b by omega]
theorem mnO_take {C : Nat → Bool} {sz : Nat → Nat} {n : Nat} (h : C n = true) (hb : ∀ b, mnO C sz n = some b → sz n < b) : mnO C sz (n + 1) = some (sz n) := by
  rw [mnO]
  cases c : mnO C sz n with
  | none => simp [h]
  | some b => simp [h, hb b c]
theorem mnO_skips {C : Nat → Bool} {sz : Nat → Nat} {n : Nat} : ∀ d, (∀ j, n ≤ j → j < n + d → C j = false) → mnO C sz (n + d) = mnO C sz n := by
  intro d
  induction d with
  | zero => exact fun _ => rfl
  | succ d ih =>
    intro h
    rw [← Nat.add_assoc, mnO_skip (h (n + d) (by omega) (by omega))]
    exact ih (fun j h1 h2 => h j h1 (by omega))
theorem leastB {P : Nat → Bool} {n : Nat} (h : P n = true) : ∃ k, k ≤ n ∧ P k = true ∧ ∀ j, j < k → P j = false := by
  induction n using Nat.strongRecOn with
  | ind n ih =>
    by_cases c : ∃ j, j < n ∧ P j = true
    · obtain ⟨j, j1, j2⟩ := c
      obtain ⟨k, k1, k2, k3⟩ := ih j j1 j2
      exact ⟨k, by omega, k2, k3⟩
    · refine ⟨n, Nat.le_refl _, h, fun j hj => ?_⟩
      cases e : P j
      · rfl
      · exact absurd ⟨j, hj, e⟩ c
section US
variable {h : Nat → Int32} {nR : Nat}
/-- a walk begins at one of the set -/
theorem rWk_union (s : Int32) : ∀ n q, q < 32 → (bt (rWk h nR s n) q = true ↔ ∃ p, p < 32 ∧ bt s p = true ∧ bt (rWk h nR (1 <<< (nI p &&& 31)) n) q = true) := by
  intro n
  induction n with
  | zero =>
    intro q hq
    constructor
    · intro e
      exact ⟨q, hq, e, by show bt (1 <<< (nI q &&& 31)) q = true; rw [b_bit hq hq]; simp⟩
    · rintro ⟨p, hp, e1, e2⟩
      have e2 : bt (1 <<< (nI p &&& 31)) q = true := e2
      rw [b_bit hp hq, decide_eq_true_eq] at e2
      rw [e2]; exact e1
  | succ n ih =>
    intro q hq
    rw [rWk_b, rAny_t]
    constructor
    · rintro ⟨j, h1, h2⟩
      rw [Bool.and_eq_true] at h2
      by_cases hj : j < 32
      · obtain ⟨p, p1, p2, p3⟩ := (ih j hj).mp h2.1
        exact ⟨p, p1, p2, rWk_step h1 p3 h2.2⟩
      · rw [b_big (by omega)] at h2
        exact absurd h2.1 (by decide)
    · rintro ⟨p, p1, p2, p3⟩
      rw [rWk_b, rAny_t] at p3
      obtain ⟨j, h1, h2⟩ := p3
      rw [Bool.and_eq_true] at h2
      by_cases hj : j < 32
      · exact ⟨j, h1, by rw [(ih j hj).mpr ⟨p, p1, p2, h2.1⟩, h2.2]; rfl⟩
      · rw [b_big (by omega)] at h2
        exact absurd h2.1 (by decide)
theorem rNear_walk {s : Int32} {q n : Nat} (hq : q < 32) (e : rNear h nR s q = some n) : n < 12 ∧ bt (rWk h nR s n) q = true ∧ ∀ j, j < n → bt (rWk h nR s j) q = false := by
  have h2 := rNear_lt e
  unfold rNear at e
  rw [List.find?_range_eq_some] at e
  have h3 := (rN_first n hq).mp e.1
  exact ⟨h2, h3.1, h3.2⟩
/-- with more roles no role is less near -/
theorem rNear_more {s t : Int32} {q n : Nat} (hq : q < 32) (hts : ∀ i, bt t i = true → bt s i = true) (e : rNear h nR t q = some n) : ∃ m, m ≤ n ∧ rNear h nR s q = some m := by
  obtain ⟨n1, n2, -⟩ := rNear_walk hq e
  obtain ⟨k, k1, k2, k3⟩ := leastB (P := fun j => bt (rWk h nR s j) q) (rWk_mono (h' := h) (fun _ _ _ y => y) hts n q n2)
  exact ⟨k, k1, rNear_some hq (by omega) k2 k3⟩
/-- the role with which the shortest walk begins is enough -/
theorem rNear_start {s : Int32} {q n : Nat} (hq : q < 32) (e : rNear h nR s q = some n) : ∃ p, p < 32 ∧ bt s p = true ∧ ∀ t : Int32, (∀ i, bt t i = true → bt s i = true) → bt t p = true → rNear h nR t q = some n := by
  obtain ⟨n1, n2, n3⟩ := rNear_walk hq e
  obtain ⟨p, p1, p2, p3⟩ := (rWk_union s n q hq).mp n2
  refine ⟨p, p1, p2, fun t hts hp => rNear_some hq n1 ((rWk_union t n q hq).mpr ⟨p, p1, hp, p3⟩) (fun j hj => ?_)⟩
  cases c : bt (rWk h nR t j) q
  · rfl
  · exact absurd (rWk_mono (h' := h) (fun _ _ _ y => y) hts j q c) (by rw [n3 j hj]; decide)
end US
section UT
variable {T : gk_C}
theorem stO_12 {w k n : Nat} {s : Int32} (e : stO T w s k = some n) : n ≤ 12 := by
  unfold stO at e
  by_cases c : T.1 12 k < 12
  · rw [if_pos c] at e
    by_cases c2 : T.1 12 k = nI w
    · rw [if_pos c2] at e; cases e; exact Nat.zero_le _
    · rw [if_neg c2] at e; cases e
  · rw [if_neg c] at e
    exact (rN1_lt e).1
/-- for whom a rule is, in two cases -/
theorem stO_c (hw : wf T) {k : Nat} (hk : k < tL T) : (∀ w s, stO T w s k = if T.1 12 k = nI w then some 0 else none) ∨ ∃ q, q < tR T ∧ ∀ w s, stO T w s k = rN1 T s q := by
  have hR := (wf_R hw).2
  have hU := (wf_U hw).2
  rcases (hw.2.2.2.2.1 k hk).2.2.1 with ⟨w', w1, w2⟩ | ⟨q, q1, q2⟩
  · have h12 : T.1 12 k < 12 := by rw [w2]; exact nI_lt (b := 12) (by omega) (by decide)
    exact Or.inl (fun w s => by unfold stO; rw [if_pos h12])
  · have h12 : ¬ T.1 12 k < 12 := by rw [q2]; exact nI_nlt (b := 12) (by omega) (by omega)
    exact Or.inr ⟨q, q1, fun w s => by unfold stO; rw [if_neg h12, q2, show nt (nI (12 + q)) = 12 + q from nI_clamp (by omega), show 12 + q - 12 = q by omega]⟩
theorem stO_more (hw : wf T) {w k n : Nat} {s t : Int32} (hts : ∀ i, bt t i = true → bt s i = true) (hk : k < tL T) (e : stO T w t k = some n) : ∃ m, m ≤ n ∧ stO T w s k = some m := by
  have hR := (wf_R hw).2
  rcases stO_c hw hk with c | ⟨q, q1, c⟩
  · rw [c] at e ⊢
    exact ⟨n, Nat.le_refl _, e⟩
  · rw [c] at e ⊢
    unfold rN1 at e ⊢
    cases c2 : rNear (T.1 4) (tR T) t q with
    | none => rw [c2] at e; cases e
    | some m =>
      rw [c2] at e
      obtain ⟨j, j1, j2⟩ := rNear_more (show q < 32 by omega) hts c2
      have e : m + 1 = n := by simpa using e
      exact ⟨j + 1, by omega, by rw [j2]; rfl⟩
theorem stO_start (hw : wf T) {w k n p0 : Nat} {s : Int32} (hp0 : p0 < 32) (h0 : bt s p0 = true) (hk : k < tL T) (e : stO T w s k = some n) : ∃ p, p < 32 ∧ bt s p = true ∧ ∀ t : Int32, (∀ i, bt t i = true → bt s i = true) → bt t p = true → stO T w t k = some n := by
  have hR := (wf_R hw).2
  rcases stO_c hw hk with c | ⟨q, q1, c⟩
  · rw [c] at e
    exact ⟨p0, hp0, h0, fun t _ _ => by rw [c]; exact e⟩
  · rw [c] at e
    unfold rN1 at e
    cases c2 : rNear (T.1 4) (tR T) s q with
    | none => rw [c2] at e; cases e
    | some m =>
      rw [c2] at e
      obtain ⟨p, p1, p2, p3⟩ := rNear_start (show q < 32 by omega) c2
      exact ⟨p, p1, p2, fun t hts hp => by rw [c]; unfold rN1; rw [p3 t hts hp]; exact e⟩
theorem wt_more (hw : wf T) {wgh : Int32} {u k st st' : Nat} {s t : Int32} (hk : k < tL T) (h1 : stO T u s k = some st) (h2 : stO T u t k = some st') (hle : st ≤ st') : wt T wgh u s k ≤ wt T wgh u t k := by
  have h12 := stO_12 h2
  obtain ⟨d, rk, g, d1, d2, d3, d4, d5, d6, d7, d8, d9⟩ := wt_num (wgh := wgh) hw hk h1 (by omega)
  obtain ⟨d', rk', g', d1', d2', d3', d4', d5', d6', d7', d8', d9'⟩ := wt_num (wgh := wgh) hw hk h2 h12
  have ed : d = d' := by rw [d1, d1']
  have er : rk = rk' := (nI_eq (by omega) (by omega)).mp (by rw [← d3, ← d3'])
  have eg : (g : Int) = (g' : Int) := by rw [← d6, ← d6']
  rw [i32le]
  by_cases c2 : wgh = 2
  · rw [d7 c2, d7' c2]; omega
  · by_cases c3 : wgh = 3
    · rw [d8 c2 c3, d8' c2 c3]; omega
    · rw [d9 c2 c3, d9' c2 c3]; omega
theorem mat_more (hw : wf T) {wgh : Int32} {u a z j : Nat} {s t : Int32} (hts : ∀ i, bt t i = true → bt s i = true) (hj : j < tL T) (q : mat no0 T u t a z j = true) : mat no0 T u s a z j = true ∧ wt T wgh u s j ≤ wt T wgh u t j := by
  rw [mat_fit, Bool.and_eq_true] at q
  rw [mat_fit]
  obtain ⟨q1, q2⟩ := q
  obtain ⟨n, hn⟩ := Option.isSome_iff_exists.mp q2
  obtain ⟨m, m1, m2⟩ := stO_more hw hts hj hn
  exact ⟨by rw [q1, m2]; rfl, wt_more hw hj m2 hn m1⟩
/-- with less roles, but for the best rule as near, it is the best still -/
theorem bs_less (hw : wf T) {wgh : Int32} {u a z k : Nat} {s t : Int32} (hts : ∀ i, bt t i = true → bt s i = true) (hk : bs (mat no0 T u s a z) (wt T wgh u s) (tL T) = some k) (hst : stO T u t k = stO T u s k) : bs (mat no0 T u t a z) (wt T wgh u t) (tL T) = some k := by
  obtain ⟨k1, k2, k3, k4⟩ := bs_isB.1 k hk
  have wk : wt T wgh u t k = wt T wgh u s k := by unfold wt; rw [hst]
  have mk : mat no0 T u t a z k = true := by rw [mat_fit, hst, ← mat_fit]; exact k2
  apply bs_eq
  refine ⟨k1, mk, fun j hj q => ?_, fun j hj q => ?_⟩
  · obtain ⟨q1, q2⟩ := mat_more (wgh := wgh) hw hts hj q
    rw [wk]; exact Int32.le_trans (k3 j hj q1) q2
  · obtain ⟨q1, q2⟩ := mat_more (wgh := wgh) hw hts (show j < tL T by omega) q
    rw [wk]
    exact fun q3 => k4 j hj q1 (Int32.le_trans q2 q3)
theorem rul_0 (hw : wf T) {wgh : Int32} {u a z : Nat} {s t : Int32} (hts : ∀ i, bt t i = true → bt s i = true) (h : rul no0 T wgh u s a z = 0) : rul no0 T wgh u t a z = 0 := by
  unfold rul at h ⊢
  by_cases c1 : lab T u a z = true
  · rw [if_pos c1] at h; exact absurd h (by decide)
  · rw [if_neg c1] at h ⊢
    by_cases c2 : wal T u z = true
    · rw [if_pos c2] at h; exact absurd h (by decide)
    · rw [if_neg c2] at h ⊢
      cases e : bs (mat no0 T u s a z) (wt T wgh u s) (tL T) with
      | none =>
        have e2 : bs (mat no0 T u t a z) (wt T wgh u t) (tL T) = none := by
          rw [bs_none] at e ⊢
          intro j hj
          cases q : mat no0 T u t a z j
          · rfl
          · have h1 := (mat_more (wgh := wgh) hw hts hj q).1
            rw [e j hj] at h1; cases h1
        rw [e2]; rfl
      | some k =>
        rw [e] at h
        have h : (if T.1 11 k = 1 then (1 : Int32) else 2) = 0 := h
        by_cases c3 : T.1 11 k = 1
        · rw [if_pos c3] at h; exact absurd h (by decide)
        · rw [if_neg c3] at h; exact absurd h (by decide)
/-- what rules allow one role allows -/
theorem rul_1 (hw : wf T) {wgh : Int32} {u a z p0 : Nat} {s : Int32} (hp0 : p0 < 32) (h0 : bt s p0 = true) (h : rul no0 T wgh u s a z = 1) : ∃ p, p < 32 ∧ bt s p = true ∧ ∀ t : Int32, (∀ i, bt t i = true → bt s i = true) → bt t p = true → rul no0 T wgh u t a z = 1 := by
  by_cases c1 : lab T u a z = true
  · unfold rul at h; rw [if_pos c1] at h; exact absurd h (by decide)
  · by_cases c2 : wal T u z = true
    · unfold rul at h; rw [if_neg c1, if_pos c2] at h; exact absurd h (by decide)
    · have e0 : ∀ t, rul no0 T wgh u t a z = rulO T (bs (mat no0 T u t a z) (wt T wgh u t) (tL T)) := fun t => by unfold rul; rw [if_neg c1, if_neg c2]
      rw [e0] at h
      cases e : bs (mat no0 T u s a z) (wt T wgh u s) (tL T) with
      | none => rw [e] at h; exact absurd (show (0 : Int32) = 1 from h) (by decide)
      | some k =>
        rw [e] at h
        obtain ⟨k1, k2⟩ := bs_lt e
        rw [mat_fit, Bool.and_eq_true] at k2
        obtain ⟨n, hn⟩ := Option.isSome_iff_exists.mp k2.2
        obtain ⟨p, p1, p2, p3⟩ := stO_start hw hp0 h0 k1 hn
        refine ⟨p, p1, p2, fun t hts hp => ?_⟩
        rw [e0, bs_less hw hts e (by rw [p3 t hts hp, hn])]
        exact h
theorem gd_low {B : Nat → Bool} : ∀ (m j : Nat), m ≤ j → j < 32 → bt (gdB T B m) j = false := by
  intro m
  induction m with
  | zero => exact fun j _ _ => b_0 j
  | succ m ihm =>
    intro j hj hj2
    rw [gdB]
    split
    · rw [b_or, ihm j (by omega) hj2, b_bit (by omega) hj2, decide_eq_false (by omega)]; rfl
    · exact ihm j (by omega) hj2
theorem gd_bit {B : Nat → Bool} : ∀ (n g : Nat), n ≤ 32 → g < n → bt (gdB T B n) g = (isT T g && (B g || lea T (gdB T B g) g)) := by
  intro n
  induction n with
  | zero => exact fun g _ hg => absurd hg (by omega)
  | succ n ih =>
    intro g hn hg
    rw [gdB]
    by_cases e : g = n
    · rw [e]
      cases c : (isT T n && (B n || lea T (gdB T B n) n))
      · rw [if_neg (by decide)]; exact gd_low n n (Nat.le_refl _) (by omega)
      · rw [if_pos rfl, b_or, b_bit (by omega) (by omega), decide_eq_true rfl, Bool.or_true]
    · have h1 := ih g (by omega) (by omega)
      cases c : (isT T n && (B n || lea T (gdB T B n) n))
      · rw [if_neg (by decide)]; exact h1
      · rw [if_pos rfl, b_or, b_bit (by omega) (by omega), decide_eq_false e, Bool.or_false]; exact h1
/-- a good one goes back to one that is good by itself -/
theorem gd_root (hw : wf T) {B : Nat → Bool} : ∀ g, g < tG T → bt (gdB T B (tG T)) g = true → ∃ g0, B g0 = true ∧ ∀ B' : Nat → Bool, B' g0 = true → bt (gdB T B' (tG T)) g = true := by
  have hG := (wf_G hw).2
  intro g
  induction g using Nat.strongRecOn with
  | ind g ih =>
    intro hg q
    rw [gd_bit (tG T) g (by omega) hg, Bool.and_eq_true, Bool.or_eq_true] at q
    obtain ⟨q1, q2 | q2⟩ := q
    · exact ⟨g, q2, fun B' hB => by rw [gd_bit (tG T) g (by omega) hg, q1, hB]; rfl⟩
    · unfold lea at q2
      rw [rAny_t] at q2
      obtain ⟨j, j1, j2⟩ := q2
      rw [Bool.and_eq_true, Bool.and_eq_true] at j2
      have j3 : bt (gdB T B (tG T)) j = true := by rw [gd_bit (tG T) j (by omega) (by omega), ← gd_bit g j (by omega) j1]; exact j2.1.1
      obtain ⟨g0, a4, a5⟩ := ih j j1 (by omega) j3
      refine ⟨g0, a4, fun B' hB => ?_⟩
      have h2 : lea T (gdB T B' g) g = true := by
        unfold lea
        rw [rAny_t]
        refine ⟨j, j1, ?_⟩
        rw [gd_bit g j (by omega) j1, ← gd_bit (tG T) j (by omega) (by omega), a5 B' hB, j2.1.2, j2.2]; rfl
      rw [gd_bit (tG T) g (by omega) hg, q1, h2, Bool.or_true]; rfl
theorem gfr_some {G : Int32} {u a r g : Nat} (hg : g < tG T) (h1 : bt G g = true) (h2 : giv T u a r g = true) : (gfr T G u a r).isSome = true := by
  unfold gfr
  cases e : fo (fun g => bt G g && giv T u a r g) (tG T) with
  | some k => rfl
  | none =>
    have h3 : (bt G g && giv T u a r g) = false := fo_none.mp e g hg
    rw [h1, h2] at h3; cases h3
theorem rul_n3 (T : gk_C) (wgh : Int32) (u : Nat) (s : Int32) (a r : Nat) : ¬ rul no0 T wgh u s a r = 3 := by
  unfold rul
  by_cases c1 : lab T u a r = true
  · rw [if_pos c1]; decide
  · rw [if_neg c1]
    by_cases c2 : wal T u r = true
    · rw [if_pos c2]; decide
    · rw [if_neg c2]
      cases bs (mat no0 T u s a r) (wt T wgh u s) (tL T) with
      | none => show ¬ (0 : Int32) = 3; decide
      | some k =>
        show ¬ (if T.1 11 k = 1 then (1 : Int32) else 2) = 3
        by_cases c3 : T.1 11 k = 1
        · rw [if_pos c3]; decide
        · rw [if_neg c3]; decide
theorem dec_alw {wgh : Int32} {S : Nat → Int32} {u a r : Nat} : alw (dec no0 T wgh S u a r) = true ↔ rul no0 T wgh u (S u) a r = 1 ∨ (rul no0 T wgh u (S u) a r = 0 ∧ (gfr T (gd no0 T wgh S) u a r).isSome = true) := by
  have h3 := rul_n3 T wgh u (S u) a r
  unfold dec dcd alw
  generalize rul no0 T wgh u (S u) a r = x at h3 ⊢
  constructor
  · intro q
    by_cases c : x = 0 ∧ (gfr T (gd no0 T wgh S) u a r).isSome = true
    · exact Or.inr c
    · rw [if_neg c, Bool.or_eq_true, decide_eq_true_eq, decide_eq_true_eq] at q
      exact Or.inl (q.resolve_right h3)
  · rintro (q | q)
    · rw [q, if_neg (fun c => absurd c.1 (by decide))]; rfl
    · rw [if_pos q]; rfl
/-- two roles more are enough -/
theorem dec_two (hw : wf T) {u a r : Nat} {b s : Int32} (hbs : ∀ i, bt b i = true → bt s i = true) {wgh : Int32} {S : Nat → Int32} (h0 : alw (dec no0 T wgh (va_up S u b) u a r) = false) (h1 : alw (dec no0 T wgh (va_up S u s) u a r) = true) : ∃ p q, p < 32 ∧ q < 32 ∧ bt s p = true ∧ bt s q = true ∧ ∀ t : Int32, (∀ i, bt t i = true → bt s i = true) → bt t p = true → bt t q = true → alw (dec no0 T wgh (va_up S u t) u a r) = true := by
  obtain ⟨p0, p01, p02⟩ : ∃ p0, p0 < 32 ∧ bt s p0 = true := by
    by_cases c : ∃ p0, p0 < 32 ∧ bt s p0 = true
    · exact c
    exfalso
    have e : b = s := b_ext (fun i hi => by
      cases c1 : bt s i
      · cases c2 : bt b i
        · rfl
        · rw [hbs i c2] at c1; cases c1
      · exact absurd ⟨i, hi, c1⟩ c)
    rw [e, h1] at h0; cases h0
  rw [dec_alw, va_up_self] at h1
  rcases h1 with h1 | ⟨h1, h2⟩
  · obtain ⟨p, p1, p2, p3⟩ := rul_1 hw p01 p02 h1
    exact ⟨p, p, p1, p1, p2, p2, fun t hts hp _ => by rw [dec_alw, va_up_self]; exact Or.inl (p3 t hts hp)⟩
  · obtain ⟨g, hg⟩ := Option.isSome_iff_exists.mp h2
    obtain ⟨g1, g2⟩ := fo_lt hg
    have g2 : (bt (gd no0 T wgh (va_up S u s)) g && giv T u a r g) = true := g2
    rw [Bool.and_eq_true] at g2
    obtain ⟨g0, a1, a2⟩ := gd_root hw g g1 g2.1
    have fin : ∀ t : Int32, (∀ i, bt t i = true → bt s i = true) → byR no0 T wgh (va_up S u t) g0 = true → alw (dec no0 T wgh (va_up S u t) u a r) = true := fun t hts hb => by
      rw [dec_alw, va_up_self]
      exact Or.inr ⟨rul_0 hw hts h1, gfr_some g1 (a2 _ hb) g2.2⟩
    by_cases c : gf T g0 = u
    · unfold byR at a1
      rw [c, va_up_self, Bool.and_eq_true, decide_eq_true_eq, decide_eq_true_eq] at a1
      obtain ⟨p, p1, p2, p3⟩ := rul_1 hw p01 p02 a1.1
      obtain ⟨q, q1, q2, q3⟩ := rul_1 hw p01 p02 a1.2
      refine ⟨p, q, p1, q1, p2, q2, fun t hts hp hq => fin t hts ?_⟩
      unfold byR
      rw [c, va_up_self, p3 t hts hp, q3 t hts hq]; rfl
    · exfalso
      have h3 := fin b hbs (by
        unfold byR at a1 ⊢
        rw [va_up_ne _ _ c] at a1 ⊢
        exact a1)
      rw [h0] at h3; cases h3
end UT
