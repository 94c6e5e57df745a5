/-! ===== what the gate alone says ===== -/
/-- the least size, told step by step -/
def mnO (C : Nat → Bool) (sz : Nat → Nat) : Nat → Option Nat
  | 0 => none
  | n + 1 => match mnO C sz n with
    | none => if C n = true then some (sz n) else none
    | some b => if C n = true ∧ sz n < b then some (sz n) else some b
theorem mnO_c {C : Nat → Bool} {sz : Nat → Nat} : ∀ {n : Nat}, (∀ b, mnO C sz n = some b → (∃ j, j < n ∧ C j = true ∧ sz j = b) ∧ ∀ j, j < n → C j = true → b ≤ sz j) ∧ (mnO C sz n = none → ∀ j, j < n → C j = false) := by
  intro n
  induction n with
  | zero => exact ⟨fun b h => (by cases h), fun _ j hj => absurd hj (by omega)⟩
  | succ n ih =>
    rw [mnO]
    cases h1 : mnO C sz n with
    | none =>
      have h2 := ih.2 h1
      by_cases hc : C n = true
      · simp only [hc, if_true]
        refine ⟨fun b h => ?_, fun h => (by cases h)⟩
        cases h
        refine ⟨⟨n, by omega, hc, rfl⟩, fun j hj hcj => ?_⟩
        by_cases e : j = n
        · rw [e]; exact Nat.le_refl _
        · rw [h2 j (by omega)] at hcj; cases hcj
      · simp only [hc]
        refine ⟨fun b h => (by simp at h), fun _ j hj => ?_⟩
        by_cases e : j = n
        · rw [e]; simpa using hc
        · exact h2 j (by omega)
    | some c =>
      obtain ⟨⟨i, i1, i2, i3⟩, c2⟩ := ih.1 c h1
      by_cases hc : C n = true ∧ sz n < c
      · simp only [hc, and_self, if_true]
        refine ⟨fun b h => ?_, fun h => (by simp at h)⟩
        have h : sz n = b := by simpa using h
        refine ⟨⟨n, by omega, hc.1, h⟩, fun j hj hcj => ?_⟩
        by_cases e : j = n
        · rw [e]; omega
        · have := c2 j (by omega) hcj
          omega
      · simp only [hc, if_false]
        refine ⟨fun b h => ?_, fun h => (by simp at h)⟩
        have h : c = b := by simpa using h
        subst h
        refine ⟨⟨i, by omega, i2, i3⟩, fun j hj hcj => ?_⟩
        by_cases e : j = n
        · rw [e] at hcj ⊢
          have : ¬ sz n < c := fun q => hc ⟨hcj, q⟩
          omega
        · exact c2 j (by omega) hcj
theorem mnO_eq {C D : Nat → Bool} {sz sd : Nat → Nat} {n m : Nat} (h1 : ∀ j, j < n → C j = true → ∃ i, i < m ∧ D i = true ∧ sd i ≤ sz j) (h2 : ∀ j, j < m → D j = true → ∃ i, i < n ∧ C i = true ∧ sz i ≤ sd j) : mnO C sz n = mnO D sd m := by
  cases c : mnO C sz n with
  | none =>
    cases d : mnO D sd m with
    | none => rfl
    | some b =>
      obtain ⟨⟨j, j1, j2, -⟩, -⟩ := mnO_c.1 b d
      obtain ⟨i, i1, i2, -⟩ := h2 j j1 j2
      have := mnO_c.2 c i i1
      rw [i2] at this; cases this
  | some a =>
    obtain ⟨⟨i, i1, i2, i3⟩, a2⟩ := mnO_c.1 a c
    obtain ⟨i', i1', i2', i3'⟩ := h1 i i1 i2
    cases d : mnO D sd m with
    | none =>
      have := mnO_c.2 d i' i1'
      rw [i2'] at this; cases this
    | some b =>
      obtain ⟨⟨j, j1, j2, j3⟩, b2⟩ := mnO_c.1 b d
      obtain ⟨k, k1, k2, k3⟩ := h2 j j1 j2
      have e1 := b2 i' i1' i2'
      have e2 := a2 k k1 k2
      congr 1
      omega
theorem mnO_skip {C : Nat → Bool} {sz : Nat → Nat} {n : Nat} (h : C n = false) : mnO C sz (n + 1) = mnO C sz n := by
  rw [mnO]
  cases mnO C sz n <;> simp [h]
theorem mnO_ge {C : Nat → Bool} {sz : Nat → Nat} {n b : Nat} (h : mnO C sz n = some b) (hb : b ≤ sz n) : mnO C sz (n + 1) = some b := by
  rw [mnO, h]
  simp [show ¬ sz n < b by omega]
theorem mnO_take {C : Nat → Bool} {sz : Nat → Nat} {n : Nat} (h : C n = true) (hb : ∀ b, mnO C sz n = some b → sz n < b) : mnO C sz (n + 1) = some (sz n) := by
  rw [mnO]
  cases c : mnO C sz n with
  | none => simp [h]
  | some b => simp [h, hb b c]
theorem mnO_skips {C : Nat → Bool} {sz : Nat → Nat} {n : Nat} : ∀ d, (∀ j, n ≤ j → j < n + d → C j = false) → mnO C sz (n + d) = mnO C sz n := by
  intro d
  induction d with
  | zero => exact fun _ => rfl
  | succ d ih =>
    intro h
    rw [← Nat.add_assoc, mnO_skip (h (n + d) (by omega) (by omega))]
    exact ih (fun j h1 h2 => h j h1 (by omega))
theorem leastB {P : Nat → Bool} {n : Nat} (h : P n = true) : ∃ k, k ≤ n ∧ P k = true ∧ ∀ j, j < k → P j = false := by
  induction n using Nat.strongRecOn with
  | ind n ih =>
    by_cases c : ∃ j, j < n ∧ P j = true
    · obtain ⟨j, j1, j2⟩ := c
      obtain ⟨k, k1, k2, k3⟩ := ih j j1 j2
      exact ⟨k, by omega, k2, k3⟩
    · refine ⟨n, Nat.le_refl _, h, fun j hj => ?_⟩
      cases e : P j
      · rfl
      · exact absurd ⟨j, hj, e⟩ c
section US
variable {h : Nat → Int32} {nR : Nat}
/-- a walk begins at one of the set -/
theorem rWk_union (s : Int32) : ∀ n q, q < 32 → (bt (rWk h nR s n) q = true ↔ ∃ p, p < 32 ∧ bt s p = true ∧ bt (rWk h nR (1 <<< (nI p &&& 31)) n) q = true) := by
  intro n
  induction n with
  | zero =>
    intro q hq
    constructor
    · intro e
      exact ⟨q, hq, e, by show bt (1 <<< (nI q &&& 31)) q = true; rw [b_bit hq hq]; simp⟩
    · rintro ⟨p, hp, e1, e2⟩
      have e2 : bt (1 <<< (nI p &&& 31)) q = true := e2
      rw [b_bit hp hq, decide_eq_true_eq] at e2
      rw [e2]; exact e1
  | succ n ih =>
    intro q hq
    rw [rWk_b, rAny_t]
    constructor
    · rintro ⟨j, h1, h2⟩
      rw [Bool.and_eq_true] at h2
      by_cases hj : j < 32
      · obtain ⟨p, p1, p2, p3⟩ := (ih j hj).mp h2.1
        exact ⟨p, p1, p2, rWk_step h1 p3 h2.2⟩
      · rw [b_big (by omega)] at h2
        exact absurd h2.1 (by decide)
    · rintro ⟨p, p1, p2, p3⟩
      rw [rWk_b, rAny_t] at p3
      obtain ⟨j, h1, h2⟩ := p3
      rw [Bool.and_eq_true] at h2
      by_cases hj : j < 32
      · exact ⟨j, h1, by rw [(ih j hj).mpr ⟨p, p1, p2, h2.1⟩, h2.2]; rfl⟩
      · rw [b_big (by omega)] at h2
        exact absurd h2.1 (by decide)
theorem rNear_walk {s : Int32} {q n : Nat} (hq : q < 32) (e : rNear h nR s q = some n) : n < 12 ∧ bt (rWk h nR s n) q = true ∧ ∀ j, j < n → bt (rWk h nR s j) q = false := by
  have h2 := rNear_lt e
  unfold rNear at e
  rw [List.find?_range_eq_some] at e
  have h3 := (rN_first n hq).mp e.1
  exact ⟨h2, h3.1, h3.2⟩
/-- with more roles no role is less near -/
theorem rNear_more {s t : Int32} {q n : Nat} (hq : q < 32) (hts : ∀ i, bt t i = true → bt s i = true) (e : rNear h nR t q = some n) : ∃ m, m ≤ n ∧ rNear h nR s q = some m := by
  obtain ⟨n1, n2, -⟩ := rNear_walk hq e
  obtain ⟨k, k1, k2, k3⟩ := leastB (P := fun j => bt (rWk h nR s j) q) (rWk_mono (h' := h) (fun _ _ _ y => y) hts n q n2)
  exact ⟨k, k1, rNear_some hq (by omega) k2 k3⟩
/-- the role with which the shortest walk begins is enough -/
theorem rNear_start {s : Int32} {q n : Nat} (hq : q < 32) (e : rNear h nR s q = some n) : ∃ p, p < 32 ∧ bt s p = true ∧ ∀ t : Int32, (∀ i, bt t i = true → bt s i = true) → bt t p = true → rNear h nR t q = some n := by
  obtain ⟨n1, n2, n3⟩ := rNear_walk hq e
  obtain ⟨p, p1, p2, p3⟩ := (rWk_union s n q hq).mp n2
  refine ⟨p, p1, p2, fun t hts hp => rNear_some hq n1 ((rWk_union t n q hq).mpr ⟨p, p1, hp, p3⟩) (fun j hj => ?_)⟩
  cases c : bt (rWk h nR t j) q
  · rfl
  · exact absurd (rWk_mono (h' := h) (fun _ _ _ y => y) hts j q c) (by rw [n3 j hj]; decide)
end US
section UT
variable {T : gk_C}
theorem stO_12 {w k n : Nat} {s : Int32} (e : stO T w s k = some n) : n ≤ 12 := by
  unfold stO at e
  by_cases c : T.1 12 k < 12
  · rw [if_pos c] at e
    by_cases c2 : T.1 12 k = nI w
    · rw [if_pos c2] at e; cases e; exact Nat.zero_le _
    · rw [if_neg c2] at e; cases e
  · rw [if_neg c] at e
    exact (rN1_lt e).1
/-- for whom a rule is, in two cases -/
theorem stO_c (hw : wf T) {k : Nat} (hk : k < tL T) : (∀ w s, stO T w s k = if T.1 12 k = nI w then some 0 else none) ∨ ∃ q, q < tR T ∧ ∀ w s, stO T w s k = rN1 T s q := by
  have hR := (wf_R hw).2
  have hU := (wf_U hw).2
  rcases (hw.2.2.2.2.1 k hk).2.2.1 with ⟨w', w1, w2⟩ | ⟨q, q1, q2⟩
  · have h12 : T.1 12 k < 12 := by rw [w2]; exact nI_lt (b := 12) (by omega) (by decide)
    exact Or.inl (fun w s => by unfold stO; rw [if_pos h12])
  · have h12 : ¬ T.1 12 k < 12 := by rw [q2]; exact nI_nlt (b := 12) (by omega) (by omega)
    exact Or.inr ⟨q, q1, fun w s => by unfold stO; rw [if_neg h12, q2, show nt (nI (12 + q)) = 12 + q from nI_clamp (by omega), show 12 + q - 12 = q by omega]⟩
theorem stO_more (hw : wf T) {w k n : Nat} {s t : Int32} (hts : ∀ i, bt t i = true → bt s i = true) (hk : k < tL T) (e : stO T w t k = some n) : ∃ m, m ≤ n ∧ stO T w s k = some m := by
  have hR := (wf_R hw).2
  rcases stO_c hw hk with c | ⟨q, q1, c⟩
  · rw [c] at e ⊢
    exact ⟨n, Nat.le_refl _, e⟩
  · rw [c] at e ⊢
    unfold rN1 at e ⊢
    cases c2 : rNear (T.1 4) (tR T) t q with
    | none => rw [c2] at e; cases e
    | some m =>
      rw [c2] at e
      obtain ⟨j, j1, j2⟩ := rNear_more (show q < 32 by omega) hts c2
      have e : m + 1 = n := by simpa using e
      exact ⟨j + 1, by omega, by rw [j2]; rfl⟩
theorem stO_start (hw : wf T) {w k n p0 : Nat} {s : Int32} (hp0 : p0 < 32) (h0 : bt s p0 = true) (hk : k < tL T) (e : stO T w s k = some n) : ∃ p, p < 32 ∧ bt s p = true ∧ ∀ t : Int32, (∀ i, bt t i = true → bt s i = true) → bt t p = true → stO T w t k = some n := by
  have hR := (wf_R hw).2
  rcases stO_c hw hk with c | ⟨q, q1, c⟩
  · rw [c] at e
    exact ⟨p0, hp0, h0, fun t _ _ => by rw [c]; exact e⟩
  · rw [c] at e
    unfold rN1 at e
    cases c2 : rNear (T.1 4) (tR T) s q with
    | none => rw [c2] at e; cases e
    | some m =>
      rw [c2] at e
      obtain ⟨p, p1, p2, p3⟩ := rNear_start (show q < 32 by omega) c2
      exact ⟨p, p1, p2, fun t hts hp => by rw [c]; unfold rN1; rw [p3 t hts hp]; exact e⟩
theorem wt_more (hw : wf T) {wgh : Int32} {u k st st' : Nat} {s t : Int32} (hk : k < tL T) (h1 : stO T u s k = some st) (h2 : stO T u t k = some st') (hle : st ≤ st') : wt T wgh u s k ≤ wt T wgh u t k := by
  have h12 := stO_12 h2
  obtain ⟨d, rk, g, d1, d2, d3, d4, d5, d6, d7, d8, d9⟩ := wt_num (wgh := wgh) hw hk h1 (by omega)
  obtain ⟨d', rk', g', d1', d2', d3', d4', d5', d6', d7', d8', d9'⟩ := wt_num (wgh := wgh) hw hk h2 h12
  have ed : d = d' := by rw [d1, d1']
  have er : rk = rk' := (nI_eq (by omega) (by omega)).mp (by rw [← d3, ← d3'])
  have eg : (g : Int) = (g' : Int) := by rw [← d6, ← d6']
  rw [i32le]
  by_cases c2 : wgh = 2
  · rw [d7 c2, d7' c2]; omega
  · by_cases c3 : wgh = 3
    · rw [d8 c2 c3, d8' c2 c3]; omega
    · rw [d9 c2 c3, d9' c2 c3]; omega
theorem mat_more (hw : wf T) {wgh : Int32} {u a z j : Nat} {s t : Int32} (hts : ∀ i, bt t i = true → bt s i = true) (hj : j < tL T) (q : mat no0 T u t a z j = true) : mat no0 T u s a z j = true ∧ wt T wgh u s j ≤ wt T wgh u t j := by
  rw [mat_fit, Bool.and_eq_true] at q
  rw [mat_fit]
  obtain ⟨q1, q2⟩ := q
  obtain ⟨n, hn⟩ := Option.isSome_iff_exists.mp q2
  obtain ⟨m, m1, m2⟩ := stO_more hw hts hj hn
  exact ⟨by rw [q1, m2]; rfl, wt_more hw hj m2 hn m1⟩
/-- with less roles, but for the best rule as near, it is the best still -/
theorem bs_less (hw : wf T) {wgh : Int32} {u a z k : Nat} {s t : Int32} (hts : ∀ i, bt t i = true → bt s i = true) (hk : bs (mat no0 T u s a z) (wt T wgh u s) (tL T) = some k) (hst : stO T u t k = stO T u s k) : bs (mat no0 T u t a z) (wt T wgh u t) (tL T) = some k := by
  obtain ⟨k1, k2, k3, k4⟩ := bs_isB.1 k hk
  have wk : wt T wgh u t k = wt T wgh u s k := by unfold wt; rw [hst]
  have mk : mat no0 T u t a z k = true := by rw [mat_fit, hst, ← mat_fit]; exact k2
  apply bs_eq
  refine ⟨k1, mk, fun j hj q => ?_, fun j hj q => ?_⟩
  · obtain ⟨q1, q2⟩ := mat_more (wgh := wgh) hw hts hj q
    rw [wk]; exact Int32.le_trans (k3 j hj q1) q2
  · obtain ⟨q1, q2⟩ := mat_more (wgh := wgh) hw hts (show j < tL T by omega) q
    rw [wk]
    exact fun q3 => k4 j hj q1 (Int32.le_trans q2 q3)
theorem rul_0 (hw : wf T) {wgh : Int32} {u a z : Nat} {s t : Int32} (hts : ∀ i, bt t i = true → bt s i = true) (h : rul no0 T wgh u s a z = 0) : rul no0 T wgh u t a z = 0 := by
  unfold rul at h ⊢
  by_cases c1 : lab T u a z = true
  · rw [if_pos c1] at h; exact absurd h (by decide)
  · rw [if_neg c1] at h ⊢
    by_cases c2 : wal T u z = true
    · rw [if_pos c2] at h; exact absurd h (by decide)
    · rw [if_neg c2] at h ⊢
      cases e : bs (mat no0 T u s a z) (wt T wgh u s) (tL T) with
      | none =>
        have e2 : bs (mat no0 T u t a z) (wt T wgh u t) (tL T) = none := by
          rw [bs_none] at e ⊢
          intro j hj
          cases q : mat no0 T u t a z j
          · rfl
          · have h1 := (mat_more (wgh := wgh) hw hts hj q).1
            rw [e j hj] at h1; cases h1
        rw [e2]; rfl
      | some k =>
        rw [e] at h
        have h : (if T.1 11 k = 1 then (1 : Int32) else 2) = 0 := h
        by_cases c3 : T.1 11 k = 1
        · rw [if_pos c3] at h; exact absurd h (by decide)
        · rw [if_neg c3] at h; exact absurd h (by decide)
/-- what rules allow one role allows -/
theorem rul_1 (hw : wf T) {wgh : Int32} {u a z p0 : Nat} {s : Int32} (hp0 : p0 < 32) (h0 : bt s p0 = true) (h : rul no0 T wgh u s a z = 1) : ∃ p, p < 32 ∧ bt s p = true ∧ ∀ t : Int32, (∀ i, bt t i = true → bt s i = true) → bt t p = true → rul no0 T wgh u t a z = 1 := by
  by_cases c1 : lab T u a z = true
  · unfold rul at h; rw [if_pos c1] at h; exact absurd h (by decide)
  · by_cases c2 : wal T u z = true
    · unfold rul at h; rw [if_neg c1, if_pos c2] at h; exact absurd h (by decide)
    · have e0 : ∀ t, rul no0 T wgh u t a z = rulO T (bs (mat no0 T u t a z) (wt T wgh u t) (tL T)) := fun t => by unfold rul; rw [if_neg c1, if_neg c2]
      rw [e0] at h
      cases e : bs (mat no0 T u s a z) (wt T wgh u s) (tL T) with
      | none => rw [e] at h; exact absurd (show (0 : Int32) = 1 from h) (by decide)
      | some k =>
        rw [e] at h
        obtain ⟨k1, k2⟩ := bs_lt e
        rw [mat_fit, Bool.and_eq_true] at k2
        obtain ⟨n, hn⟩ := Option.isSome_iff_exists.mp k2.2
        obtain ⟨p, p1, p2, p3⟩ := stO_start hw hp0 h0 k1 hn
        refine ⟨p, p1, p2, fun t hts hp => ?_⟩
        rw [e0, bs_less hw hts e (by rw [p3 t hts hp, hn])]
        exact h
theorem gd_low {B : Nat → Bool} : ∀ (m j : Nat), m ≤ j → j < 32 → bt (gdB T B m) j = false := by
  intro m
  induction m with
  | zero => exact fun j _ _ => b_0 j
  | succ m ihm =>
    intro j hj hj2
    rw [gdB]
    split
    · rw [b_or, ihm j (by omega) hj2, b_bit (by omega) hj2, decide_eq_false (by omega)]; rfl
    · exact ihm j (by omega) hj2
theorem gd_bit {B : Nat → Bool} : ∀ (n g : Nat), n ≤ 32 → g < n → bt (gdB T B n) g = (isT T g && (B g || lea T (gdB T B g) g)) := by
  intro n
  induction n with
  | zero => exact fun g _ hg => absurd hg (by omega)
  | succ n ih =>
    intro g hn hg
    rw [gdB]
    by_cases e : g = n
    · rw [e]
      cases c : (isT T n && (B n || lea T (gdB T B n) n))
      · rw [if_neg (by decide)]; exact gd_low n n (Nat.le_refl _) (by omega)
      · rw [if_pos rfl, b_or, b_bit (by omega) (by omega), decide_eq_true rfl, Bool.or_true]
    · have h1 := ih g (by omega) (by omega)
      cases c : (isT T n && (B n || lea T (gdB T B n) n))
      · rw [if_neg (by decide)]; exact h1
      · rw [if_pos rfl, b_or, b_bit (by omega) (by omega), decide_eq_false e, Bool.or_false]; exact h1
/-- a good one goes back to one that is good by itself -/
theorem gd_root (hw : wf T) {B : Nat → Bool} : ∀ g, g < tG T → bt (gdB T B (tG T)) g = true → ∃ g0, B g0 = true ∧ ∀ B' : Nat → Bool, B' g0 = true → bt (gdB T B' (tG T)) g = true := by
  have hG := (wf_G hw).2
  intro g
  induction g using Nat.strongRecOn with
  | ind g ih =>
    intro hg q
    rw [gd_bit (tG T) g (by omega) hg, Bool.and_eq_true, Bool.or_eq_true] at q
    obtain ⟨q1, q2 | q2⟩ := q
    · exact ⟨g, q2, fun B' hB => by rw [gd_bit (tG T) g (by omega) hg, q1, hB]; rfl⟩
    · unfold lea at q2
      rw [rAny_t] at q2
      obtain ⟨j, j1, j2⟩ := q2
      rw [Bool.and_eq_true, Bool.and_eq_true] at j2
      have j3 : bt (gdB T B (tG T)) j = true := by rw [gd_bit (tG T) j (by omega) (by omega), ← gd_bit g j (by omega) j1]; exact j2.1.1
      obtain ⟨g0, a4, a5⟩ := ih j j1 (by omega) j3
      refine ⟨g0, a4, fun B' hB => ?_⟩
      have h2 : lea T (gdB T B' g) g = true := by
        unfold lea
        rw [rAny_t]
        refine ⟨j, j1, ?_⟩
        rw [gd_bit g j (by omega) j1, ← gd_bit (tG T) j (by omega) (by omega), a5 B' hB, j2.1.2, j2.2]; rfl
      rw [gd_bit (tG T) g (by omega) hg, q1, h2, Bool.or_true]; rfl
theorem gfr_some {G : Int32} {u a r g : Nat} (hg : g < tG T) (h1 : bt G g = true) (h2 : giv T u a r g = true) : (gfr T G u a r).isSome = true := by
  unfold gfr
  cases e : fo (fun g => bt G g && giv T u a r g) (tG T) with
  | some k => rfl
  | none =>
    have h3 : (bt G g && giv T u a r g) = false := fo_none.mp e g hg
    rw [h1, h2] at h3; cases h3
theorem rul_n3 (T : gk_C) (wgh : Int32) (u : Nat) (s : Int32) (a r : Nat) : ¬ rul no0 T wgh u s a r = 3 := by
  unfold rul
  by_cases c1 : lab T u a r = true
  · rw [if_pos c1]; decide
  · rw [if_neg c1]
    by_cases c2 : wal T u r = true
    · rw [if_pos c2]; decide
    · rw [if_neg c2]
      cases bs (mat no0 T u s a r) (wt T wgh u s) (tL T) with
      | none => show ¬ (0 : Int32) = 3; decide
      | some k =>
        show ¬ (if T.1 11 k = 1 then (1 : Int32) else 2) = 3
        by_cases c3 : T.1 11 k = 1
        · rw [if_pos c3]; decide
        · rw [if_neg c3]; decide
theorem dec_alw {wgh : Int32} {S : Nat → Int32} {u a r : Nat} : alw (dec no0 T wgh S u a r) = true ↔ rul no0 T wgh u (S u) a r = 1 ∨ (rul no0 T wgh u (S u) a r = 0 ∧ (gfr T (gd no0 T wgh S) u a r).isSome = true) := by
  have h3 := rul_n3 T wgh u (S u) a r
  unfold dec dcd alw
  generalize rul no0 T wgh u (S u) a r = x at h3 ⊢
  constructor
  · intro q
    by_cases c : x = 0 ∧ (gfr T (gd no0 T wgh S) u a r).isSome = true
    · exact Or.inr c
    · rw [if_neg c, Bool.or_eq_true, decide_eq_true_eq, decide_eq_true_eq] at q
      exact Or.inl (q.resolve_right h3)
  · rintro (q | q)
    · rw [q, if_neg (fun c => absurd c.1 (by decide))]; rfl
    · rw [if_pos q]; rfl
/-- two roles more are enough -/
theorem dec_two (hw : wf T) {u a r : Nat} {b s : Int32} (hbs : ∀ i, bt b i = true → bt s i = true) {wgh : Int32} {S : Nat → Int32} (h0 : alw (dec no0 T wgh (va_up S u b) u a r) = false) (h1 : alw (dec no0 T wgh (va_up S u s) u a r) = true) : ∃ p q, p < 32 ∧ q < 32 ∧ bt s p = true ∧ bt s q = true ∧ ∀ t : Int32, (∀ i, bt t i = true → bt s i = true) → bt t p = true → bt t q = true → alw (dec no0 T wgh (va_up S u t) u a r) = true := by
  obtain ⟨p0, p01, p02⟩ : ∃ p0, p0 < 32 ∧ bt s p0 = true := by
    by_cases c : ∃ p0, p0 < 32 ∧ bt s p0 = true
    · exact c
    exfalso
    have e : b = s := b_ext (fun i hi => by
      cases c1 : bt s i
      · cases c2 : bt b i
        · rfl
        · rw [hbs i c2] at c1; cases c1
      · exact absurd ⟨i, hi, c1⟩ c)
    rw [e, h1] at h0; cases h0
  rw [dec_alw, va_up_self] at h1
  rcases h1 with h1 | ⟨h1, h2⟩
  · obtain ⟨p, p1, p2, p3⟩ := rul_1 hw p01 p02 h1
    exact ⟨p, p, p1, p1, p2, p2, fun t hts hp _ => by rw [dec_alw, va_up_self]; exact Or.inl (p3 t hts hp)⟩
  · obtain ⟨g, hg⟩ := Option.isSome_iff_exists.mp h2
    obtain ⟨g1, g2⟩ := fo_lt hg
    have g2 : (bt (gd no0 T wgh (va_up S u s)) g && giv T u a r g) = true := g2
    rw [Bool.and_eq_true] at g2
    obtain ⟨g0, a1, a2⟩ := gd_root hw g g1 g2.1
    have fin : ∀ t : Int32, (∀ i, bt t i = true → bt s i = true) → byR no0 T wgh (va_up S u t) g0 = true → alw (dec no0 T wgh (va_up S u t) u a r) = true := fun t hts hb => by
      rw [dec_alw, va_up_self]
      exact Or.inr ⟨rul_0 hw hts h1, gfr_some g1 (a2 _ hb) g2.2⟩
    by_cases c : gf T g0 = u
    · unfold byR at a1
      rw [c, va_up_self, Bool.and_eq_true, decide_eq_true_eq, decide_eq_true_eq] at a1
      obtain ⟨p, p1, p2, p3⟩ := rul_1 hw p01 p02 a1.1
      obtain ⟨q, q1, q2, q3⟩ := rul_1 hw p01 p02 a1.2
      refine ⟨p, q, p1, q1, p2, q2, fun t hts hp hq => fin t hts ?_⟩
      unfold byR
      rw [c, va_up_self, p3 t hts hp, q3 t hts hq]; rfl
    · exfalso
      have h3 := fin b hbs (by
        unfold byR at a1 ⊢
        rw [va_up_ne _ _ c] at a1 ⊢
        exact a1)
      rw [h0] at h3; cases h3
end UT
section NG
variable {σ T : gk_C}
/-- with a set of roles a user may, and could have it -/
def okM (T : gk_C) (wgh : Int32) (u a r : Nat) (s : Int32) : Bool := !rSplit (T.1 5) (tR T) (hd T s) && alw (dec no0 T wgh (va_up (T.1 2) u s) u a r)
theorem va_up2 (f : Nat → Int32) (k : Nat) (x y : Int32) : va_up (va_up f k x) k y = va_up f k y := by
  funext j
  by_cases e : j = k
  · rw [e, va_up_self, va_up_self]
  · rw [va_up_ne _ _ e, va_up_ne _ _ e, va_up_ne _ _ e]
theorem lb_wouldBe {S : Nat → Int32} {wgh : Int32} {u a r : Nat} (H : vw 1 no0 T wgh S (tU T) σ) (hS : ∀ s, va_up S u s = va_up (T.1 2) u s) (hw : wf T) (hu : u < tU T) (ha : a < 5) (hr : r < tT T) {s : Int32} {Q : Int32 → gk_C → Prop} (hQ : ∀ σ1 S1, vw 1 no0 T wgh S1 (tU T) σ1 → (∀ s, va_up S1 u s = va_up (T.1 2) u s) → sV 1 σ σ1 → Q (b2i (okM T wgh u a r s)) σ1) : w_X8_wouldBeAllowed σ (nI u) s (nI a) (nI r) Q := by
  have hU := wf_U hw
  have hG := wf_G hw
  have hT := wf_T hw
  unfold w_X8_wouldBeAllowed
  refine lb_had H.1 hw ?_
  refine lb_split H.1 hw ?_
  refine b2i_go _ (fun q1 => ?_) (fun q1 => ?_)
  · refine vw_give H (by decide) hw hu (by omega) (fun σ1 H1 HS E => ?_)
    rw [if_neg (by omega), hS] at H1
    refine lb_ruled H1 (by decide) hw (Nat.le_refl _) hu ha hr ?_
    have ok : okM T wgh u a r s = alw (dcd T (gd no0 T wgh (va_up (T.1 2) u s)) (rul no0 T wgh u (va_up (T.1 2) u s u) a r) u a r) := by
      unfold okM dec
      rw [q1]; rfl
    have h2 : ∀ s2, va_up (va_up (T.1 2) u s) u s2 = va_up (T.1 2) u s2 := fun s2 => va_up2 _ _ _ _
    have hn3 := rul_n3 T wgh u (va_up (T.1 2) u s u) a r
    generalize rul no0 T wgh u (va_up (T.1 2) u s u) a r = x at ok hn3 ⊢
    by_cases hx0 : x = 0
    · refine ⟨fun _ => ?_, fun q => absurd hx0 q⟩
      refine lb_weighGrants H1 (by decide) hw ?_
      have HS2 : sV 1 σ1 (gk_s σ1 (11 + 4 * 1) (gd no0 T wgh (va_up (T.1 2) u s))) := sV_s σ1 _ (by omega) (by omega)
      have H2 : vw 1 no0 T wgh (va_up (T.1 2) u s) (tU T) (gk_s σ1 (11 + 4 * 1) (gd no0 T wgh (va_up (T.1 2) u s))) := vw_good H1 _
      refine lb_grantFor H2.1 hw (by omega) ?_
      rw [gs_at]
      have h3 := hQ _ _ H2 h2 (sV_tr HS HS2)
      rw [ok, hx0] at h3
      unfold dcd at h3
      cases hg : gfr T (gd no0 T wgh (va_up (T.1 2) u s)) u a r with
      | none =>
        rw [hg, if_neg (fun q => absurd q.2 (by decide))] at h3
        exact ⟨fun _ => h3, fun q => absurd (by decide) q⟩
      | some k =>
        have := gfr_lt hg
        rw [hg, if_pos ⟨rfl, rfl⟩] at h3
        exact ⟨fun q => absurd q (nI_pos (show k < 2 ^ 31 by omega)), fun _ => h3⟩
    · have h3 := hQ _ _ H1 h2 HS
      rw [ok] at h3
      unfold dcd at h3
      rw [if_neg (fun q => hx0 q.1)] at h3
      refine ⟨fun q => absurd q hx0, fun _ => ⟨fun q => ?_, fun q => ?_⟩⟩
      · rw [show alw x = false by unfold alw; rw [decide_eq_false q, decide_eq_false hn3]; rfl] at h3
        exact h3
      · rw [q] at h3; exact h3
  · have h3 := hQ _ _ H hS (sV_rf 1 σ)
    rw [show okM T wgh u a r s = false by unfold okM; rw [q1]; rfl] at h3
    exact h3
end NG
theorem pw2 : ∀ n, n < 13 → (1 : Int32) <<< (nI n &&& 31) = nI (2 ^ n) := by decide +kernel
theorem pw2_le {n : Nat} (hn : n ≤ 12) : 1 ≤ 2 ^ n ∧ 2 ^ n ≤ 4096 := ⟨Nat.one_le_two_pow, Nat.pow_le_pow_right (n := 2) (by decide) hn⟩
theorem bt_nI {m j : Nat} (hj : j < 32) : bt (nI m) j = m.testBit j := by
  show (BitVec.ofNat 32 m).getLsbD j = m.testBit j
  rw [BitVec.getLsbD_ofNat, decide_eq_true hj, Bool.true_and]
theorem bd_nI {m n : Nat} (hm : m < 2 ^ n) : bd n (nI m) := fun i hi hb => by
  rcases Nat.lt_or_ge i n with c | c
  · exact c
  · exfalso
    have hlt : m < 2 ^ i := Nat.lt_of_lt_of_le hm (Nat.pow_le_pow_right (by decide) c)
    rw [bt_nI hi, Nat.testBit_lt_two_pow hlt] at hb
    cases hb
theorem cn_high {P : Nat → Bool} {n : Nat} (h : ∀ j, n ≤ j → P j = false) : ∀ d, cn P (n + d) = cn P n := by
  intro d
  induction d with
  | zero => rfl
  | succ d ih => rw [← Nat.add_assoc, cn_f (h _ (by omega)), ih]
/-- how many roles -/
def rSz (m : Nat) : Nat := cn (bt (nI m)) 12
theorem rSz_le (m : Nat) : rSz m ≤ 12 := cn_le _ _
theorem rSz_eq {m : Nat} (hm : m < 4096) : cn (bt (nI m)) 32 = rSz m := cn_high (n := 12) (fun j hj => by
  by_cases c : j < 32
  · cases h : bt (nI m) j
    · rfl
    · exact absurd (bd_nI (n := 12) hm j c h) (by omega)
  · exact b_big (by omega)) 20
theorem mn_le {C : Nat → Bool} {n b : Nat} (h : mnO C rSz n = some b) : b ≤ 12 := by
  obtain ⟨⟨j, -, -, h3⟩, -⟩ := mnO_c.1 b h
  rw [← h3]; exact rSz_le j
def Cm (T : gk_C) (wgh : Int32) (u a r : Nat) (b : Int32) (m : Nat) : Bool := decide (nI m &&& b = 0) && okM T wgh u a r (b ||| nI m)
/-- all of a set as a number -/
def nm (x : Int32) : Nat := x.toBitVec.toNat
theorem nm_bt (x : Int32) (j : Nat) : (nm x).testBit j = bt x j := rfl
theorem nm_nI (x : Int32) : nI (nm x) = x := b_ext (fun i hi => by rw [bt_nI hi, nm_bt])
theorem nm_lt {x : Int32} {n : Nat} (h : bd n x) : nm x < 2 ^ n := by
  refine Nat.lt_pow_two_of_testBit _ (fun i hi => ?_)
  rw [nm_bt]
  by_cases c : i < 32
  · cases e : bt x i
    · rfl
    · have := h i c e
      omega
  · exact b_big (by omega)
/-- two roles, told by one number -/
def tw (b : Int32) (i : Nat) : Int32 := (b ||| (1 <<< (nI (i / 16) &&& 31))) ||| (1 <<< (nI (i % 16) &&& 31))
def twX (b : Int32) (i : Nat) : Nat := nm (tw b i &&& (b ^^^ (-1)))
def twS (b : Int32) (i : Nat) : Nat := rSz (twX b i)
def Cg (T : gk_C) (wgh : Int32) (u a r : Nat) (b : Int32) (i : Nat) : Bool := decide (i % 16 ≤ i / 16) && (decide (0 < twS b i) && okM T wgh u a r (tw b i))
theorem tw_at (b : Int32) {p q : Nat} (hq : q < 16) : tw b (16 * p + q) = (b ||| (1 <<< (nI p &&& 31))) ||| (1 <<< (nI q &&& 31)) := by
  unfold tw
  rw [show (16 * p + q) / 16 = p by omega, show (16 * p + q) % 16 = q by omega]
theorem tw_b (b : Int32) {p q i : Nat} (hp : p < 32) (hq : q < 16) (hi : i < 32) : bt (tw b (16 * p + q)) i = (bt b i || decide (i = p) || decide (i = q)) := by
  rw [tw_at b hq, b_or, b_or, b_bit hp hi, b_bit (by omega) hi]
theorem mnT_le {C : Nat → Bool} {b : Int32} {n k : Nat} (h : mnO C (twS b) n = some k) : k ≤ 12 := by
  obtain ⟨⟨j, -, -, h3⟩, -⟩ := mnO_c.1 k h
  rw [← h3]; exact rSz_le _
/-- the best rule allows it -/
def awN (T : gk_C) (wgh : Int32) (u : Nat) (s : Int32) (a z : Nat) : Bool := decide (rulO T (bs (mat no0 T u s a z) (wt T wgh u s) (tL T)) = 1)
theorem rul_awN (T : gk_C) (wgh : Int32) (u : Nat) (s : Int32) (a z : Nat) : decide (rul no0 T wgh u s a z = 1) = (decide (barI T u a z = 0) && awN T wgh u s a z) := by
  unfold rul barI awN
  by_cases c1 : lab T u a z = true
  · rw [if_pos c1, if_pos c1]; rfl
  · rw [if_neg c1, if_neg c1]
    by_cases c2 : wal T u z = true
    · rw [if_pos c2, if_pos c2]; rfl
    · rw [if_neg c2, if_neg c2]; rfl
def ownG (T : gk_C) (u g : Nat) : Bool := isT T g && decide (gf T g = u) && decide (barI T u (ga T g) (go T g) = 0) && decide (barI T u 4 (go T g) = 0)
def othG (T : gk_C) (wgh : Int32) (u g : Nat) : Bool := isT T g && (!decide (gf T g = u) && byR no0 T wgh (T.1 2) g)
def rowG (T : gk_C) (u : Nat) (A : Nat → Nat) (n g : Nat) : Int32 := if (decide (g < n) && ownG T u g) = true then mb (fit no0 T u (A g) (go T g)) (tL T) else 0
section MN
variable {T μ : gk_C}
theorem bt_step {Z R : Nat → Bool} {g j : Nat} (z : Int32) (hg : g < 32) (hj : j < 32) (h : bt z j = (Z j || (decide (j < g) && R j))) : (R g = false → bt z j = (Z j || (decide (j < g + 1) && R j))) ∧ (R g = true → bt (z ||| (1 <<< (nI g &&& 31))) j = (Z j || (decide (j < g + 1) && R j))) := by
  by_cases e : j = g
  · subst e
    rw [decide_eq_false (Nat.lt_irrefl j), Bool.false_and, Bool.or_false] at h
    refine ⟨fun q => by rw [h, q, Bool.and_false, Bool.or_false], fun q => ?_⟩
    rw [b_or, b_bit hj hj, q, decide_eq_true rfl, decide_eq_true (Nat.lt_succ_self j)]
    simp
  · have e2 : decide (j < g + 1) = decide (j < g) := decide_eq_decide.mpr ⟨fun q => by omega, fun q => by omega⟩
    rw [e2]
    refine ⟨fun _ => h, fun _ => ?_⟩
    rw [b_or, b_bit hg hj, decide_eq_false e, Bool.or_false]
    exact h
end MN
section NF
variable {T : gk_C}
theorem cn_pos {P : Nat → Bool} {n j : Nat} (hj : j < n) (h : P j = true) : 0 < cn P n := by
  have h1 := cn_lt (P := fun _ => false) (R := P) (n := n) (fun _ _ q => by cases q) hj rfl h
  omega
theorem ok_two (hw : wf T) {u a r : Nat} (hu : u < tU T) {wgh : Int32} {s : Int32} (hs : bd (tR T) s) (hbs : ∀ i, bt (T.1 2 u) i = true → bt s i = true) (h0 : okM T wgh u a r (T.1 2 u) = false) (h1 : okM T wgh u a r s = true) : ∃ p q, q ≤ p ∧ p < tR T ∧ bt s p = true ∧ bt s q = true ∧ ∀ t : Int32, bd (tR T) t → (∀ i, bt t i = true → bt s i = true) → bt t p = true → bt t q = true → okM T wgh u a r t = true := by
  have hR := wf_R hw
  have hbb : bd (tR T) (T.1 2 u) := fun i hi q => hw.2.1.1 u hu i hi q
  unfold okM at h1
  rw [Bool.and_eq_true, Bool.not_eq_true'] at h1
  have hsp : ∀ t : Int32, bd (tR T) t → (∀ i, bt t i = true → bt s i = true) → rSplit (T.1 5) (tR T) (hd T t) = false := fun t ht hts =>
    split_less (fun i hi q => had_less hR.2 (wf_bd hw) (wf_bd hw) hs ht (fun _ _ _ q => q) hts hi q) (by omega) h1.1
  have h2 : alw (dec no0 T wgh (va_up (T.1 2) u (T.1 2 u)) u a r) = false := by
    unfold okM at h0
    rw [hsp _ hbb hbs] at h0
    exact h0
  obtain ⟨p, q, p1, q1, p2, q2, h3⟩ := dec_two hw hbs h2 h1.2
  have h4 : ∀ t : Int32, bd (tR T) t → (∀ i, bt t i = true → bt s i = true) → bt t p = true → bt t q = true → okM T wgh u a r t = true := fun t ht hts tp tq => by
    unfold okM
    rw [hsp t ht hts, h3 t hts tp tq]; rfl
  rcases Nat.le_total q p with c | c
  · exact ⟨p, q, c, hs p p1 p2, p2, q2, h4⟩
  · exact ⟨q, p, c, hs q q1 q2, q2, p2, fun t ht hts tq tp => h4 t ht hts tp tq⟩
theorem need_eq (hw : wf T) {u a r : Nat} (hu : u < tU T) {wgh : Int32} (hnot : okM T wgh u a r (T.1 2 u) = false) : mnO (Cg T wgh u a r (T.1 2 u)) (twS (T.1 2 u)) (16 * tR T) = mnO (Cm T wgh u a r (T.1 2 u)) rSz (2 ^ tR T) := by
  have hR := wf_R hw
  have hbb : bd (tR T) (T.1 2 u) := fun i hi q => hw.2.1.1 u hu i hi q
  refine mnO_eq (fun j hj hC => ?_) (fun m hm hD => ?_)
  · unfold Cg at hC
    rw [Bool.and_eq_true, Bool.and_eq_true, decide_eq_true_eq] at hC
    obtain ⟨h1, -, h3⟩ := hC
    have hbT : bd (tR T) (tw (T.1 2 u) j) := bd_or (bd_or hbb (bd_bit (by omega) (by omega))) (bd_bit (by omega) (by omega))
    have eX : nI (twX (T.1 2 u) j) = tw (T.1 2 u) j &&& (T.1 2 u ^^^ (-1)) := nm_nI _
    refine ⟨twX (T.1 2 u) j, nm_lt (bd_and hbT), ?_, Nat.le_refl _⟩
    unfold Cm
    rw [eX, show T.1 2 u ||| (tw (T.1 2 u) j &&& (T.1 2 u ^^^ (-1))) = tw (T.1 2 u) j from b_ext (fun i hi => by
      rw [b_or, b_and, b_not _ hi]
      unfold tw
      rw [b_or, b_or]
      cases bt (T.1 2 u) i <;> simp), h3, Bool.and_true, decide_eq_true_eq, b_eq0]
    intro i hi
    rw [b_and, b_and, b_not _ hi]
    cases bt (T.1 2 u) i <;> simp
  · unfold Cm at hD
    rw [Bool.and_eq_true, decide_eq_true_eq] at hD
    obtain ⟨h1, h2⟩ := hD
    have hs : bd (tR T) (T.1 2 u ||| nI m) := bd_or hbb (bd_nI hm)
    have hbs : ∀ i, bt (T.1 2 u) i = true → bt (T.1 2 u ||| nI m) i = true := fun i q => by rw [b_or, q]; rfl
    obtain ⟨p, q, hqp, hp, p2, q2, h4⟩ := ok_two hw hu hs hbs hnot h2
    have tb : ∀ i, i < 32 → bt (tw (T.1 2 u) (16 * p + q)) i = (bt (T.1 2 u) i || decide (i = p) || decide (i = q)) := fun i hi => tw_b _ (by omega) (by omega) hi
    have hts : ∀ i, bt (tw (T.1 2 u) (16 * p + q)) i = true → bt (T.1 2 u ||| nI m) i = true := fun i e => by
      by_cases c : i < 32
      · rw [tb i c, Bool.or_eq_true, Bool.or_eq_true, decide_eq_true_eq, decide_eq_true_eq] at e
        rcases e with (e | e) | e
        · exact hbs i e
        · rw [e]; exact p2
        · rw [e]; exact q2
      · rw [b_big (by omega)] at e; cases e
    have ht : bd (tR T) (tw (T.1 2 u) (16 * p + q)) := fun i hi e => hs i hi (hts i e)
    have hok : okM T wgh u a r (tw (T.1 2 u) (16 * p + q)) = true := h4 _ ht hts (by rw [tb p (by omega), decide_eq_true (show p = p from rfl)]; simp) (by rw [tb q (by omega), decide_eq_true (show q = q from rfl)]; simp)
    have eX : nI (twX (T.1 2 u) (16 * p + q)) = tw (T.1 2 u) (16 * p + q) &&& (T.1 2 u ^^^ (-1)) := nm_nI _
    have h0 : 0 < twS (T.1 2 u) (16 * p + q) := by
      unfold twS rSz
      rw [eX]
      by_cases c : ∃ j, j < 12 ∧ bt (tw (T.1 2 u) (16 * p + q) &&& (T.1 2 u ^^^ (-1))) j = true
      · obtain ⟨j, j1, j2⟩ := c
        exact cn_pos j1 j2
      · exfalso
        have e : tw (T.1 2 u) (16 * p + q) = T.1 2 u := b_ext (fun i hi => by
          cases c1 : bt (T.1 2 u) i
          · cases c2 : bt (tw (T.1 2 u) (16 * p + q)) i
            · rfl
            · have h5 := ht i hi c2
              exact absurd ⟨i, by omega, by rw [b_and, b_not _ hi, c1, c2]; rfl⟩ c
          · rw [tb i hi, c1]; rfl)
        rw [e, hnot] at hok; cases hok
    refine ⟨16 * p + q, by omega, ?_, ?_⟩
    · unfold Cg
      rw [hok, decide_eq_true h0, decide_eq_true (show (16 * p + q) % 16 ≤ (16 * p + q) / 16 by omega)]; rfl
    · unfold twS rSz
      rw [eX]
      refine cn_mono (fun i hi e => ?_)
      rw [b_and, b_not _ (by omega), Bool.and_eq_true] at e
      have h5 := hts i e.1
      rw [b_or, Bool.or_eq_true] at h5
      rcases h5 with h5 | h5
      · rw [h5] at e; exact absurd e.2 (by decide)
      · exact h5
theorem bar_dec {wgh : Int32} {S : Nat → Int32} {u a r : Nat} (h : ¬ barI T u a r = 0) : alw (dec no0 T wgh S u a r) = false := by
  have e : rul no0 T wgh u (S u) a r = barI T u a r := by
    unfold rul
    unfold barI at h ⊢
    by_cases c1 : lab T u a r = true
    · rw [if_pos c1, if_pos c1]
    · rw [if_neg c1] at h ⊢
      rw [if_neg c1]
      by_cases c2 : wal T u r = true
      · rw [if_pos c2, if_pos c2]
      · rw [if_neg c2] at h; exact absurd rfl h
  unfold dec dcd
  rw [e, if_neg (fun q => h q.1)]
  unfold barI
  by_cases c1 : lab T u a r = true
  · rw [if_pos c1]; decide
  · rw [if_neg c1]
    by_cases c2 : wal T u r = true
    · rw [if_pos c2]; decide
    · rw [if_neg c2]; decide
theorem mn_none {C : Nat → Bool} {sz : Nat → Nat} {n : Nat} (h : ∀ j, j < n → C j = false) : mnO C sz n = none := by
  cases c : mnO C sz n with
  | none => rfl
  | some b =>
    obtain ⟨⟨j, j1, j2, -⟩, -⟩ := mnO_c.1 b c
    rw [h j j1] at j2; cases j2
theorem mn_zero {C : Nat → Bool} {n : Nat} (h : C 0 = true) (hn : 1 ≤ n) : mnO C rSz n = some 0 := by
  have h0 : rSz 0 = 0 := by
    unfold rSz
    rw [cn_congr (P := bt (nI 0)) (R := fun _ => false) (fun k _ => b_0 k)]
    rfl
  cases c : mnO C rSz n with
  | none =>
    have := mnO_c.2 c 0 (by omega)
    rw [h] at this; cases this
  | some b =>
    have := (mnO_c.1 b c).2 0 (by omega) h
    rw [h0] at this
    rw [show b = 0 by omega]
end NF
theorem va_up_id (f : Nat → Int32) (k : Nat) : va_up f k (f k) = f := by
  funext j
  by_cases e : j = k
  · rw [e, va_up_self]
  · rw [va_up_ne _ _ e]

theorem lb_needLoop {σ T : gk_C} {S : Nat → Int32} {wgh : Int32} {u a r : Nat} (H : vw 1 no0 T wgh S (tU T) σ) (hS : ∀ s, va_up S u s = va_up (T.1 2) u s) (hw : wf T) (hu : u < tU T) (ha : a < 5) (hr : r < tT T) {b : Int32} (hb : bd (tR T) b) {Q : Int32 → gk_C → Prop} (hQ : ∀ σ1, sV 1 σ σ1 → Q (oI (mnO (Cg T wgh u a r b) (twS b) (16 * tR T))) σ1) : ∃ n59, wL_X8_rolesNeeded_59 Q n59 σ (nI u) (nI a) (nI r) b (-1) 0 := by
  have hR := wf_R hw
  have l := lpUp (A := gk_C × Int32) (n := tR T) (W := fun fu p y => wL_X8_rolesNeeded_59 Q fu y.1 (nI u) (nI a) (nI r) b y.2 (nI p)) (J := fun p y => ∃ S1, vw 1 no0 T wgh S1 (tU T) y.1 ∧ (∀ s, va_up S1 u s = va_up (T.1 2) u s) ∧ sV 1 σ y.1 ∧ y.2 = oI (mnO (Cg T wgh u a r b) (twS b) (16 * p))) ?_ ?_ (tR T) 0 (σ, -1) (Nat.zero_add _) ⟨S, H, hS, sV_rf 1 σ, rfl⟩
  · exact ⟨_, l⟩
  · rintro fu ⟨σ1, x5⟩ ⟨S1, H1, hS1, hV, e5⟩
    have e5 : x5 = oI (mnO (Cg T wgh u a r b) (twS b) (16 * tR T)) := e5
    show wL_X8_rolesNeeded_59 Q (fu + 1) σ1 (nI u) (nI a) (nI r) b x5 (nI (tR T))
    unfold wL_X8_rolesNeeded_59
    rw [(ts H1.1 (show 1 < 8 by decide)).trans hR.1]
    exact ⟨fun _ => by rw [e5]; exact hQ σ1 hV, fun q => absurd (nI_le (Nat.le_refl _) (by omega)) q⟩
  · rintro fu p ⟨σ1, x5⟩ hp ⟨S1, H1, hS1, hV, e5⟩ next
    have e5 : x5 = oI (mnO (Cg T wgh u a r b) (twS b) (16 * p)) := e5
    show wL_X8_rolesNeeded_59 Q (fu + 1) σ1 (nI u) (nI a) (nI r) b x5 (nI p)
    unfold wL_X8_rolesNeeded_59
    rw [(ts H1.1 (show 1 < 8 by decide)).trans hR.1]
    refine ⟨fun q => absurd q (nI_ge hp (by omega)), fun _ => ?_⟩
    have l2 := lpUp (A := gk_C × Int32) (n := p + 1) (W := fun f2 q y => wL_X8_rolesNeeded_77 (fun σ x1 x2 x3 x4 x5 x6 => wL_X8_rolesNeeded_59 Q fu σ x1 x2 x3 x4 x5 (x6 + 1)) f2 y.1 (nI u) (nI a) (nI r) b y.2 (nI p) (nI q)) (J := fun q y => ∃ S1, vw 1 no0 T wgh S1 (tU T) y.1 ∧ (∀ s, va_up S1 u s = va_up (T.1 2) u s) ∧ sV 1 σ y.1 ∧ y.2 = oI (mnO (Cg T wgh u a r b) (twS b) (16 * p + q))) ?_ ?_ (p + 1) 0 (σ1, x5) (Nat.zero_add _) ⟨S1, H1, hS1, hV, e5⟩
    · exact ⟨_, l2⟩
    · rintro f2 ⟨σ2, y5⟩ ⟨S2, H2, hS2, hV2, e6⟩
      have e6 : y5 = oI (mnO (Cg T wgh u a r b) (twS b) (16 * p + (p + 1))) := e6
      show wL_X8_rolesNeeded_77 (fun σ x1 x2 x3 x4 x5 x6 => wL_X8_rolesNeeded_59 Q fu σ x1 x2 x3 x4 x5 (x6 + 1)) (f2 + 1) σ2 (nI u) (nI a) (nI r) b y5 (nI p) (nI (p + 1))
      unfold wL_X8_rolesNeeded_77
      refine ⟨fun _ => ?_, fun q => absurd (nI_lt (show p < p + 1 by omega) (by omega)) q⟩
      show wL_X8_rolesNeeded_59 Q fu σ2 (nI u) (nI a) (nI r) b y5 (nI p + 1)
      rw [nI_1]
      refine next (σ2, y5) ⟨S2, H2, hS2, hV2, ?_⟩
      show y5 = oI (mnO (Cg T wgh u a r b) (twS b) (16 * (p + 1)))
      rw [e6, show 16 * (p + 1) = 16 * p + (p + 1) + (15 - p) by omega, mnO_skips (15 - p) (fun j h1 h2 => ?_)]
      unfold Cg
      rw [decide_eq_false (by omega), Bool.false_and]
    · rintro f2 q ⟨σ2, y5⟩ hq ⟨S2, H2, hS2, hV2, e6⟩ next2
      have e6 : y5 = oI (mnO (Cg T wgh u a r b) (twS b) (16 * p + q)) := e6
      show wL_X8_rolesNeeded_77 (fun σ x1 x2 x3 x4 x5 x6 => wL_X8_rolesNeeded_59 Q fu σ x1 x2 x3 x4 x5 (x6 + 1)) (f2 + 1) σ2 (nI u) (nI a) (nI r) b y5 (nI p) (nI q)
      have hle : decide ((16 * p + q) % 16 ≤ (16 * p + q) / 16) = true := decide_eq_true (by omega)
      have eT := tw_at b (p := p) (show q < 16 by omega)
      have hbT : bd (tR T) (tw b (16 * p + q) &&& (b ^^^ (-1))) := bd_and (by
        rw [eT]
        exact bd_or (bd_or hb (bd_bit hp (by omega))) (bd_bit (by omega) (by omega)))
      have h4096 : twX b (16 * p + q) < 4096 := Nat.lt_of_lt_of_le (nm_lt hbT) (pw2_le hR.2).2
      have eS : cn (bt (tw b (16 * p + q) &&& (b ^^^ (-1)))) 32 = twS b (16 * p + q) := by
        unfold twS
        rw [← rSz_eq h4096]
        unfold twX
        rw [nm_nI]
      have h12 : twS b (16 * p + q) ≤ 12 := rSz_le _
      have no : mnO (Cg T wgh u a r b) (twS b) (16 * p + q + 1) = mnO (Cg T wgh u a r b) (twS b) (16 * p + q) → wL_X8_rolesNeeded_77 (fun σ x1 x2 x3 x4 x5 x6 => wL_X8_rolesNeeded_59 Q fu σ x1 x2 x3 x4 x5 (x6 + 1)) f2 σ2 (nI u) (nI a) (nI r) b y5 (nI p) (nI q + 1) := fun e => by
        rw [nI_1]
        exact next2 (σ2, y5) ⟨S2, H2, hS2, hV2, by rw [← Nat.add_assoc, e]; exact e6⟩
      have yes : 0 < twS b (16 * p + q) → (∀ c, mnO (Cg T wgh u a r b) (twS b) (16 * p + q) = some c → twS b (16 * p + q) < c) → w_X8_wouldBeAllowed σ2 (nI u) (tw b (16 * p + q)) (nI a) (nI r) (fun r145 σ145 => ((r145 = 0) → (wL_X8_rolesNeeded_77 (fun σ x1 x2 x3 x4 x5 x6 => wL_X8_rolesNeeded_59 Q fu σ x1 x2 x3 x4 x5 (x6 + 1)) f2 σ145 (nI u) (nI a) (nI r) b y5 (nI p) (nI q + 1))) ∧ ((¬ r145 = 0) → (wL_X8_rolesNeeded_77 (fun σ x1 x2 x3 x4 x5 x6 => wL_X8_rolesNeeded_59 Q fu σ x1 x2 x3 x4 x5 (x6 + 1)) f2 σ145 (nI u) (nI a) (nI r) b (nI (twS b (16 * p + q))) (nI p) (nI q + 1)))) := fun h0 hc => by
        refine lb_wouldBe H2 hS2 hw hu ha hr (fun σ3 S3 H3 hS3 hV3 => ?_)
        rw [nI_1]
        refine b2i_go _ (fun ok => ?_) (fun ok => ?_)
        · have hC : Cg T wgh u a r b (16 * p + q) = false := by unfold Cg; rw [ok, Bool.and_false, Bool.and_false]
          exact next2 (σ3, y5) ⟨S3, H3, hS3, sV_tr hV2 hV3, by rw [← Nat.add_assoc, mnO_skip hC]; exact e6⟩
        · have hC : Cg T wgh u a r b (16 * p + q) = true := by unfold Cg; rw [ok, hle, decide_eq_true h0]; rfl
          exact next2 (σ3, nI (twS b (16 * p + q))) ⟨S3, H3, hS3, sV_tr hV2 hV3, by rw [← Nat.add_assoc, mnO_take hC hc]; rfl⟩
      unfold wL_X8_rolesNeeded_77 wJ_X8_rolesNeeded_131 wJ_X8_rolesNeeded_127 wJ_X8_rolesNeeded_132
      rw [← eT]
      refine ⟨fun e => absurd e (nI_nlt (show q ≤ p by omega) (by omega)), fun _ => ?_⟩
      refine lb_bits _ ?_
      rw [eS]
      have skip0 : (∀ hh : 0 < twS b (16 * p + q), False) → mnO (Cg T wgh u a r b) (twS b) (16 * p + q + 1) = mnO (Cg T wgh u a r b) (twS b) (16 * p + q) := fun e => mnO_skip (by unfold Cg; rw [decide_eq_false (fun hh => e hh), Bool.false_and, Bool.and_false])
      refine ⟨fun e => ⟨fun _ => no (skip0 (fun hh => by rw [← nI_0] at e; exact nI_ge hh (by omega) e)), fun e2 => absurd rfl e2⟩, fun e => ?_⟩
      have h0 : 0 < twS b (16 * p + q) := by
        rcases Nat.eq_zero_or_pos (twS b (16 * p + q)) with c | c
        · rw [c] at e; exact absurd (by decide) e
        · exact c
      cases hmn : mnO (Cg T wgh u a r b) (twS b) (16 * p + q) with
      | none =>
        rw [hmn] at e6
        refine ⟨fun _ => ⟨fun e2 => absurd e2 (by decide), fun _ => yes h0 (fun c e2 => by rw [hmn] at e2; cases e2)⟩, fun e2 => absurd (by rw [e6]; decide) e2⟩
      | some c =>
        have hc := mnT_le hmn
        rw [hmn] at e6
        have e6 : y5 = nI c := e6
        refine ⟨fun e2 => absurd e2 (by rw [e6]; exact nI_pos (by omega)), fun _ => ⟨fun e2 => ⟨fun _ => no ?_, fun e3 => absurd rfl e3⟩, fun e2 => ⟨fun e3 => absurd e3 (by decide), fun _ => yes h0 (fun d hd => ?_)⟩⟩⟩
        · rcases Nat.lt_or_ge (twS b (16 * p + q)) c with c2 | c2
          · rw [e6] at e2
            exact absurd e2 (nI_ge c2 (by omega))
          · rw [mnO_ge hmn c2, hmn]
        · rw [hmn] at hd
          have hd : c = d := by simpa using hd
          rcases Nat.lt_or_ge (twS b (16 * p + q)) c with c2 | c2
          · omega
          · rw [e6] at e2
            exact absurd (nI_le c2 (by omega)) e2
