/-! ===== what is decided: why, without a rule, weighed otherwise, by one role more ===== -/
section PU
variable {T : gk_C}
theorem rul_cs (lo : Nat → Bool) (T : gk_C) (w : Int32) (u : Nat) (s : Int32) (a r : Nat) : rul lo T w u s a r = 4 ∨ rul lo T w u s a r = 5 ∨ (bs (mat lo T u s a r) (wt T w u s) (tL T) = none ∧ rul lo T w u s a r = 0) ∨ ∃ k, bs (mat lo T u s a r) (wt T w u s) (tL T) = some k ∧ rul lo T w u s a r = if T.1 11 k = 1 then 1 else 2 := by
  unfold rul
  by_cases c1 : lab T u a r = true
  · rw [if_pos c1]; exact Or.inl rfl
  · rw [if_neg c1]
    by_cases c2 : wal T u r = true
    · rw [if_pos c2]; exact Or.inr (Or.inl rfl)
    · rw [if_neg c2]
      cases h : bs (mat lo T u s a r) (wt T w u s) (tL T) with
      | none => exact Or.inr (Or.inr (Or.inl ⟨rfl, rfl⟩))
      | some k => exact Or.inr (Or.inr (Or.inr ⟨k, rfl, rfl⟩))
/-- why it is decided so -/
theorem why_cs (w : Int32) (S : Nat → Int32) (u a r : Nat) :
    ((dec no0 T w S u a r = 4 ∨ dec no0 T w S u a r = 5 ∨ dec no0 T w S u a r = 0) ∧ why no0 T w S u a r = -1) ∨
    (∃ k, k < tL T ∧ mat no0 T u (S u) a r k = true ∧ why no0 T w S u a r = nI k ∧ ((dec no0 T w S u a r = 1 ∧ T.1 11 k = 1) ∨ (dec no0 T w S u a r = 2 ∧ ¬ T.1 11 k = 1))) ∨
    (∃ g, g < tG T ∧ bt (gd no0 T w S) g = true ∧ giv T u a r g = true ∧ why no0 T w S u a r = nI g ∧ dec no0 T w S u a r = 3) := by
  have h := rul_cs no0 T w u (S u) a r
  unfold dec dcd why
  rcases h with h | h | ⟨h1, h⟩ | ⟨k, h1, h⟩
  · rw [h, if_neg (fun c => absurd c.1 (by decide)), if_neg (by decide), if_neg (by decide)]
    exact Or.inl ⟨Or.inl rfl, rfl⟩
  · rw [h, if_neg (fun c => absurd c.1 (by decide)), if_neg (by decide), if_neg (by decide)]
    exact Or.inl ⟨Or.inr (Or.inl rfl), rfl⟩
  · rw [h, if_neg (show ¬ ((0 : Int32) = 1 ∨ (0 : Int32) = 2) by decide), if_pos rfl]
    cases hg : gfr T (gd no0 T w S) u a r with
    | none =>
      rw [if_neg (fun c => absurd c.2 (by decide))]
      exact Or.inl ⟨Or.inr (Or.inr rfl), rfl⟩
    | some g =>
      rw [if_pos ⟨rfl, rfl⟩]
      have hl := fo_lt hg
      have h2 := hl.2
      rw [Bool.and_eq_true] at h2
      exact Or.inr (Or.inr ⟨g, hl.1, h2.1, h2.2, rfl, rfl⟩)
  · obtain ⟨l1, l2⟩ := bs_lt h1
    refine Or.inr (Or.inl ⟨k, l1, l2, ?_⟩)
    rw [h1]
    by_cases c : T.1 11 k = 1
    · rw [h, if_pos c, if_pos (show (1 : Int32) = 1 ∨ (1 : Int32) = 2 from Or.inl rfl), if_neg (show ¬ ((1 : Int32) = 0 ∧ (gfr T (gd no0 T w S) u a r).isSome = true) from fun c => absurd c.1 (by decide))]
      exact ⟨rfl, Or.inl ⟨rfl, c⟩⟩
    · rw [h, if_neg c, if_pos (show (2 : Int32) = 1 ∨ (2 : Int32) = 2 from Or.inr rfl), if_neg (show ¬ ((2 : Int32) = 0 ∧ (gfr T (gd no0 T w S) u a r).isSome = true) from fun c => absurd c.1 (by decide))]
      exact ⟨rfl, Or.inr ⟨rfl, c⟩⟩
/-- who has what, and how it is weighed, told otherwise -/
abbrev cgT (T : gk_C) (f : Nat → Int32) (v : Int32) : gk_C := gk_s (gk_r T 2 f) 6 v
theorem gdB_cg (f : Nat → Int32) (v : Int32) (B : Nat → Bool) : ∀ n, gdB (cgT T f v) B n = gdB T B n
  | 0 => rfl
  | n + 1 => by
    rw [gdB, gdB, gdB_cg f v B n]
    rfl
theorem rul_cg (f : Nat → Int32) (v : Int32) (lo : Nat → Bool) (w : Int32) (u : Nat) (s : Int32) (a r : Nat) : rul lo (cgT T f v) w u s a r = rul lo T w u s a r := rfl
theorem dec_cg (f : Nat → Int32) (v : Int32) (lo : Nat → Bool) (w : Int32) (S : Nat → Int32) (u a r : Nat) : dec lo (cgT T f v) w S u a r = dec lo T w S u a r := by
  unfold dec dcd gd gfr
  have hB : byR lo (cgT T f v) w S = byR lo T w S := by
    funext g
    unfold byR
    rw [rul_cg, rul_cg]
    rfl
  rw [rul_cg, gdB_cg, hB]
  rfl
/-- a rule that isn't there is left out -/
theorem bh_lt {a k n : Nat} (ha : a < n) (hk : k < n - 1) : bh a k < n ∧ ¬ bh a k = a := by
  unfold bh
  split <;> omega
theorem bh_ex {a j n : Nat} (ha : a < n) (hj : j < n) (hne : ¬ j = a) : ∃ k, k < n - 1 ∧ bh a k = j := by
  rcases Nat.lt_or_ge j a with c | c
  · exact ⟨j, by omega, by unfold bh; rw [if_neg (by omega)]⟩
  · exact ⟨j - 1, by omega, by unfold bh; rw [if_pos (by omega)]; omega⟩
theorem bh_mono {a j k : Nat} (h : bh a j < bh a k) : j < k := by
  unfold bh at h
  split at h <;> split at h <;> omega
theorem bs_drop {P P' : Nat → Bool} {w w' : Nat → Int32} {n a : Nat} (ha : a < n) (h0 : P a = false) (hP : ∀ k, k < n - 1 → P' k = P (bh a k)) (hw : ∀ k, k < n - 1 → P' k = true → w' k = w (bh a k)) : (bs P' w' (n - 1)).map (bh a) = bs P w n := by
  cases h : bs P' w' (n - 1) with
  | none =>
    have h1 := bs_none.mp h
    refine (bs_none.mpr (fun j hj => ?_)).symm
    by_cases e : j = a
    · rw [e]; exact h0
    · obtain ⟨k, k1, k2⟩ := bh_ex ha hj e
      rw [← k2, ← hP k k1]
      exact h1 k k1
  | some b =>
    obtain ⟨b1, b2, b3, b4⟩ := bs_isB.1 b h
    refine (bs_eq ⟨(bh_lt ha b1).1, by rw [← hP b b1]; exact b2, fun j hj q => ?_, fun j hj q => ?_⟩).symm
    · by_cases e : j = a
      · rw [e, h0] at q; cases q
      · obtain ⟨k, k1, k2⟩ := bh_ex ha hj e
        rw [← k2, ← hP k k1] at q
        rw [← k2, ← hw k k1 q, ← hw b b1 b2]
        exact b3 k k1 q
    · have hjn : j < n := Nat.lt_trans hj (bh_lt ha b1).1
      by_cases e : j = a
      · rw [e, h0] at q; cases q
      · obtain ⟨k, k1, k2⟩ := bh_ex ha hjn e
        rw [← k2, ← hP k k1] at q
        rw [← k2, ← hw k k1 q, ← hw b b1 b2]
        rw [← k2] at hj
        exact b4 k (bh_mono hj) q
section DR
variable {T' : gk_C} {kr : Nat}
/-- what is told without rule kr -/
def dpR (T T' : gk_C) (kr : Nat) : Prop := kr < tL T ∧ (∀ i, i < 11 → T'.1 i = T.1 i) ∧ (∀ i, 20 ≤ i → i < 26 → T'.1 i = T.1 i) ∧ (∀ i, ¬ i = 4 → i < 8 → T'.2 i = T.2 i) ∧ tL T' = tL T - 1 ∧ ∀ i k, 11 ≤ i → i ≤ 19 → k < tL T - 1 → T'.1 i k = T.1 i (bh kr k)
theorem mat_dp (h : dpR T T' kr) {u : Nat} {s : Int32} {a r k : Nat} (hk : k < tL T - 1) : mat no0 T' u s a r k = mat (fun k => decide (k = kr)) T u s a r (bh kr k) := by
  obtain ⟨h1, h2, h3, h4, h5, h6⟩ := h
  have z : decide (bh kr k = kr) = false := decide_eq_false (bh_lt h1 hk).2
  simp only [no0, mat, mU, ruN, hr, trt, stO, rN1, act, whr, ab, bene, tR, nt, h6 12 k (by decide) (by decide) hk, h6 13 k (by decide) (by decide) hk, h6 14 k (by decide) (by decide) hk, h6 15 k (by decide) (by decide) hk, h6 17 k (by decide) (by decide) hk, h6 18 k (by decide) (by decide) hk, h6 19 k (by decide) (by decide) hk, h2 1 (by decide), h2 4 (by decide), h2 7 (by decide), h4 1 (by decide) (by decide), h4 7 (by decide) (by decide), z]
  rfl
theorem wt_dp (h : dpR T T' kr) {w : Int32} {u : Nat} {s : Int32} {k : Nat} (hk : k < tL T - 1) : wt T' w u s k = wt T w u s (bh kr k) := by
  obtain ⟨h1, h2, h3, h4, h5, h6⟩ := h
  simp only [wt, wtI, stO, rN1, ab, tR, nt, h6 11 k (by decide) (by decide) hk, h6 12 k (by decide) (by decide) hk, h6 14 k (by decide) (by decide) hk, h6 16 k (by decide) (by decide) hk, h2 4 (by decide), h2 6 (by decide), h4 1 (by decide) (by decide)]
theorem rul_dp (h : dpR T T' kr) (w : Int32) (u : Nat) (s : Int32) (a r : Nat) : rul no0 T' w u s a r = rul (fun k => decide (k = kr)) T w u s a r := by
  have hb : (bs (mat no0 T' u s a r) (wt T' w u s) (tL T')).map (bh kr) = bs (mat (fun k => decide (k = kr)) T u s a r) (wt T w u s) (tL T) := by
    rw [h.2.2.2.2.1]
    refine bs_drop h.1 ?_ (fun k hk => mat_dp h hk) (fun k hk _ => wt_dp h hk)
    unfold mat mU
    simp
  obtain ⟨h1, h2, h3, h4, h5, h6⟩ := h
  have el : lab T' u a r = lab T u a r := by
    simp only [lab, h2 0 (by decide), h2 8 (by decide)]
  have ew : wal T' u r = wal T u r := by
    simp only [wal, tT, nt, h2 3 (by decide), h2 9 (by decide), h2 10 (by decide), h4 3 (by decide) (by decide)]
  unfold rul
  rw [el, ew, ← hb]
  cases hq : bs (mat no0 T' u s a r) (wt T' w u s) (tL T') with
  | none => rfl
  | some b =>
    have hlt := (bs_lt hq).1
    rw [h5] at hlt
    show _ = if lab T u a r = true then 4 else if wal T u r = true then 5 else if T.1 11 (bh kr b) = 1 then 1 else 2
    rw [← h6 11 b (by decide) (by decide) hlt]
    rfl
theorem gdB_dp (h : dpR T T' kr) {B B' : Nat → Bool} : ∀ n, (∀ g, B' g = B g) → gdB T' B' n = gdB T B n
  | 0, _ => rfl
  | n + 1, hB => by
    obtain ⟨h1, h2, h3, h4, h5, h6⟩ := id h
    have e1 : isT T' n = isT T n := by simp only [isT, h3 25 (by decide) (by decide), h4 7 (by decide) (by decide)]
    have e2 : ∀ G, lea T' G n = lea T G n := fun G => by simp only [lea, giv, bene, gf, ga, go, nt, h2 7 (by decide), h3 20 (by decide) (by decide), h3 21 (by decide) (by decide), h3 22 (by decide) (by decide), h3 23 (by decide) (by decide), h3 24 (by decide) (by decide)]
    rw [gdB, gdB, gdB_dp h n hB, e1, e2, hB n]
theorem dec_dp (h : dpR T T' kr) (w : Int32) (S : Nat → Int32) (u a r : Nat) : dec no0 T' w S u a r = dec (fun k => decide (k = kr)) T w S u a r := by
  obtain ⟨h1, h2, h3, h4, h5, h6⟩ := id h
  have hB : ∀ g, byR no0 T' w S g = byR (fun k => decide (k = kr)) T w S g := fun g => by
    unfold byR
    rw [rul_dp h, rul_dp h]
    simp only [gf, ga, go, nt, h3 20 (by decide) (by decide), h3 22 (by decide) (by decide), h3 23 (by decide) (by decide)]
  have hG : gd no0 T' w S = gd (fun k => decide (k = kr)) T w S := by
    unfold gd
    rw [show tG T' = tG T from congrArg nt (h4 5 (by decide) (by decide))]
    exact gdB_dp h _ hB
  have hF : ∀ G, gfr T' G u a r = gfr T G u a r := fun G => by
    simp only [gfr, giv, bene, go, tG, nt, h2 7 (by decide), h3 21 (by decide) (by decide), h3 22 (by decide) (by decide), h3 23 (by decide) (by decide), h4 5 (by decide) (by decide)]
  unfold dec dcd
  rw [rul_dp h, hG, hF]
end DR
/-- bars don't depend on how it is weighed; those that allow first: no less is allowed by rules -/
theorem rul_w1 {u : Nat} {s : Int32} {a r : Nat} (h : rul no0 T 0 u s a r = 1) : rul no0 T 1 u s a r = 1 := by
  unfold rul at h ⊢
  by_cases c1 : lab T u a r = true
  · rw [if_pos c1] at h; exact absurd h (by decide)
  · rw [if_neg c1] at h ⊢
    by_cases c2 : wal T u r = true
    · rw [if_pos c2] at h; exact absurd h (by decide)
    · rw [if_neg c2] at h ⊢
      have w0 : ∀ k, wt T 0 u s k = if T.1 11 k = 1 then 1 else 0 := fun k => by
        unfold wt wtI
        rw [if_neg (by decide), if_neg (by decide)]
        by_cases c : T.1 11 k = 1
        · rw [decide_eq_true c, if_neg (by decide), if_pos c]; rfl
        · rw [decide_eq_false c, if_pos (by decide), if_neg c]; rfl
      cases hb : bs (mat no0 T u s a r) (wt T 0 u s) (tL T) with
      | none =>
        rw [hb] at h
        have h : (0 : Int32) = 1 := h
        exact absurd h (by decide)
      | some k =>
        rw [hb] at h
        have c : T.1 11 k = 1 := by
          refine Decidable.byContradiction fun c => ?_
          have h : (if T.1 11 k = 1 then (1 : Int32) else 2) = 1 := h
          rw [if_neg c] at h
          exact absurd h (by decide)
        obtain ⟨k1, k2, k3, k4⟩ := bs_isB.1 k hb
        have all : ∀ j, j < tL T → mat no0 T u s a r j = true → T.1 11 j = 1 := fun j hj q => by
          refine Decidable.byContradiction fun c2 => ?_
          have h5 := k3 j hj q
          rw [w0, w0, if_pos c, if_neg c2] at h5
          exact absurd h5 (by decide)
        cases hb1 : bs (mat no0 T u s a r) (wt T 1 u s) (tL T) with
        | none =>
          have := bs_none.mp hb1 k k1
          rw [k2] at this; cases this
        | some j =>
          obtain ⟨j1, j2⟩ := bs_lt hb1
          show (if T.1 11 j = 1 then (1 : Int32) else 2) = 1
          rw [if_pos (all j j1 j2)]
theorem dec_1 {w : Int32} {S : Nat → Int32} {u a r : Nat} : dec no0 T w S u a r = 1 ↔ rul no0 T w u (S u) a r = 1 := by
  unfold dec dcd
  by_cases c : rul no0 T w u (S u) a r = 0 ∧ (gfr T (gd no0 T w S) u a r).isSome = true
  · rw [if_pos c, c.1]; decide
  · rw [if_neg c]
/-- a bar, however it is weighed -/
def bar (T : gk_C) (u a r : Nat) : Bool := lab T u a r || wal T u r
theorem dec_bar (w : Int32) (S : Nat → Int32) (u a r : Nat) : (bar T u a r = true ∧ (dec no0 T w S u a r = 4 ∨ dec no0 T w S u a r = 5)) ∨ (bar T u a r = false ∧ (dec no0 T w S u a r = 0 ∨ dec no0 T w S u a r = 1 ∨ dec no0 T w S u a r = 2 ∨ dec no0 T w S u a r = 3)) := by
  unfold bar dec dcd
  by_cases c1 : lab T u a r = true
  · have e : rul no0 T w u (S u) a r = 4 := by unfold rul; rw [if_pos c1]
    rw [e, if_neg (fun c => absurd c.1 (by decide)), c1]
    exact Or.inl ⟨rfl, Or.inl rfl⟩
  · have c1' : lab T u a r = false := by simpa using c1
    rw [c1', Bool.false_or]
    by_cases c2 : wal T u r = true
    · have e : rul no0 T w u (S u) a r = 5 := by unfold rul; rw [if_neg c1, if_pos c2]
      rw [e, if_neg (fun c => absurd c.1 (by decide)), c2]
      exact Or.inl ⟨rfl, Or.inr rfl⟩
    · have c2' : wal T u r = false := by simpa using c2
      rw [c2']
      refine Or.inr ⟨rfl, ?_⟩
      have e : rul no0 T w u (S u) a r = rulO T (bs (mat no0 T u (S u) a r) (wt T w u (S u)) (tL T)) := by unfold rul; rw [if_neg c1, if_neg c2]
      rw [e]
      split
      · exact Or.inr (Or.inr (Or.inr rfl))
      · cases bs (mat no0 T u (S u) a r) (wt T w u (S u)) (tL T) with
        | none => exact Or.inl rfl
        | some k =>
          show (if T.1 11 k = 1 then (1 : Int32) else 2) = 0 ∨ (if T.1 11 k = 1 then (1 : Int32) else 2) = 1 ∨ (if T.1 11 k = 1 then (1 : Int32) else 2) = 2 ∨ (if T.1 11 k = 1 then (1 : Int32) else 2) = 3
          by_cases c : T.1 11 k = 1
          · rw [if_pos c]; exact Or.inr (Or.inl rfl)
          · rw [if_neg c]; exact Or.inr (Or.inr (Or.inl rfl))
/-- how many bits one or two roles more are -/
theorem cn_two (p q n : Nat) : cn (fun j => decide (j = p) || decide (j = q)) n ≤ 2 := by
  have h1 := cn_one (P := fun _ => false) (R := fun j => decide (j = p)) (j := p) rfl (decide_eq_true rfl) (n := n) (fun i _ hne => (decide_eq_false hne).symm)
  have h0 : cn (fun _ => false) n = 0 := cn_z (fun _ _ => rfl)
  by_cases e : q = p
  · subst e
    have : cn (fun j => decide (j = q) || decide (j = q)) n = cn (fun j => decide (j = q)) n := cn_congr (fun k _ => Bool.or_self _)
    rw [this, h1, h0]
    split <;> omega
  · have h2 := cn_one (P := fun j => decide (j = p)) (R := fun j => decide (j = p) || decide (j = q)) (j := q) (decide_eq_false e) (by rw [decide_eq_true (rfl : q = q), Bool.or_true]) (n := n) (fun i _ hne => by rw [decide_eq_false hne, Bool.or_false])
    rw [h2, h1, h0]
    split <;> split <;> omega
theorem twX_b {b : Int32} {i j : Nat} (hi : i / 16 < 32) (hj : j < 32) : bt (nI (twX b i)) j = ((decide (j = i / 16) || decide (j = i % 16)) && !bt b j) := by
  unfold twX
  rw [nm_nI, b_and, b_not _ hj]
  have e : i = 16 * (i / 16) + i % 16 := by omega
  have h := tw_b b (p := i / 16) (q := i % 16) (i := j) hi (by omega) hj
  rw [← e] at h
  rw [h]
  cases bt b j <;> cases decide (j = i / 16) <;> cases decide (j = i % 16) <;> rfl
theorem twS_2 {b : Int32} {i : Nat} (hi : i / 16 < 32) : twS b i ≤ 2 := by
  unfold twS rSz
  refine Nat.le_trans (cn_mono (R := fun j => decide (j = i / 16) || decide (j = i % 16)) (fun j hj q => ?_)) (cn_two (i / 16) (i % 16) 12)
  rw [twX_b hi (by omega), Bool.and_eq_true] at q
  exact q.1
theorem twS_1 {b : Int32} {i : Nat} (hi : i / 16 < 12) (hle : i % 16 ≤ i / 16) (h : twS b i = 1) : ∃ x, x ≤ i / 16 ∧ bt b x = false ∧ tw b i = b ||| (1 <<< (nI x &&& 31)) := by
  unfold twS rSz at h
  have e : i = 16 * (i / 16) + i % 16 := by omega
  generalize hp : i / 16 = p at *
  generalize hq : i % 16 = q at *
  have tb : ∀ j, j < 32 → bt (tw b i) j = (bt b j || decide (j = p) || decide (j = q)) := fun j hj => by
    rw [e]
    exact tw_b b (by omega) (by omega) hj
  have xb : ∀ j, j < 32 → bt (nI (twX b i)) j = ((decide (j = p) || decide (j = q)) && !bt b j) := fun j hj => by
    have := twX_b (b := b) (i := i) (j := j) (by omega) hj
    rw [hp, hq] at this
    exact this
  have fin : ∀ x, x < 32 → (∀ j, j < 32 → (bt b j || decide (j = p) || decide (j = q)) = (bt b j || decide (j = x))) → tw b i = b ||| (1 <<< (nI x &&& 31)) := fun x hx hh => b_ext (fun j hj => by rw [tb j hj, b_or, b_bit hx hj, hh j hj])
  cases bp : bt b p
  · cases bq : bt b q
    · by_cases epq : p = q
      · refine ⟨p, Nat.le_refl _, bp, fin p (by omega) (fun j hj => ?_)⟩
        rw [← epq, Bool.or_assoc, Bool.or_self]
      · exfalso
        have h1 := cn_pos (P := fun j => decide (j = p)) (n := 12) (j := p) (by omega) (decide_eq_true rfl)
        have h2 := cn_lt (P := fun j => decide (j = p)) (R := fun j => bt (nI (twX b i)) j) (n := 12) (fun j hj q2 => by
          rw [decide_eq_true_eq] at q2
          rw [q2, xb p (by omega), bp, decide_eq_true rfl]; rfl) (j := q) (by omega) (decide_eq_false (fun c => epq c.symm)) (by rw [xb q (by omega), bq, decide_eq_true (rfl : q = q)]; simp)
        have h : cn (fun j => bt (nI (twX b i)) j) 12 = 1 := h
        omega
    · refine ⟨p, Nat.le_refl _, bp, fin p (by omega) (fun j hj => ?_)⟩
      by_cases c : j = q
      · rw [c, bq]; simp
      · rw [decide_eq_false c, Bool.or_false]
  · cases bq : bt b q
    · refine ⟨q, hle, bq, fin q (by omega) (fun j hj => ?_)⟩
      by_cases c : j = p
      · rw [c, bp]; simp
      · rw [decide_eq_false c, Bool.or_false]
    · exfalso
      have : cn (bt (nI (twX b i))) 12 = 0 := cn_z (fun j hj => by
        rw [xb j (by omega)]
        by_cases c : j = p
        · rw [c, bp]; simp
        · by_cases c2 : j = q
          · rw [c2, bq]; simp
          · rw [decide_eq_false c, decide_eq_false c2]; rfl)
      omega
theorem ndR_cs (hw : wf T) (u a r : Nat) : (alw (dc T u a r) = true ∧ ndR T u a r = 0) ∨ (alw (dc T u a r) = false ∧ (ndR T u a r = -1 ∨ ndR T u a r = 2 ∨ (ndR T u a r = 1 ∧ ∃ x, x < tR T ∧ bt (T.1 2 u) x = false ∧ okM T (T.2 6) u a r (T.1 2 u ||| (1 <<< (nI x &&& 31))) = true))) := by
  have hR := (wf_R hw).2
  unfold ndR
  cases q : alw (dc T u a r)
  · refine Or.inr ⟨rfl, ?_⟩
    rw [if_neg (by decide)]
    cases hm : mnO (Cg T (T.2 6) u a r (T.1 2 u)) (twS (T.1 2 u)) (16 * tR T) with
    | none => exact Or.inl rfl
    | some k =>
      obtain ⟨j, j1, j2, j3⟩ := (mnO_c.1 k hm).1
      unfold Cg at j2
      rw [Bool.and_eq_true, Bool.and_eq_true, decide_eq_true_eq, decide_eq_true_eq] at j2
      have h2 := twS_2 (b := T.1 2 u) (i := j) (by omega)
      have : k = 1 ∨ k = 2 := by omega
      rcases this with e | e
      · rw [e] at j3 ⊢
        obtain ⟨x, x1, x2, x3⟩ := twS_1 (by omega) j2.1 j3
        exact Or.inr (Or.inr ⟨rfl, x, by omega, x2, by rw [← x3]; exact j2.2.2⟩)
      · rw [e]; exact Or.inr (Or.inl rfl)
  · rw [if_pos rfl]
    exact Or.inl ⟨rfl, rfl⟩
end PU
/-- a share that isn't NaN -/
def shr (c n : Nat) : Bool := decide (Op.cmpValue (FP.dcmp (FP.ddiv (FP.i2d (nI c)) (FP.i2d (nI n))) (FP.ddiv (FP.i2d (nI c)) (FP.i2d (nI n)))) .l = 0)
def shrs (n : Nat) : Nat → Bool
  | 0 => true
  | k + 1 => shr k n && shrs n k
theorem shrs_t {n : Nat} : ∀ {m : Nat}, shrs n m = true → ∀ c, c < m → shr c n = true
  | 0, _, c, hc => absurd hc (by omega)
  | m + 1, h, c, hc => by
    rw [shrs, Bool.and_eq_true] at h
    by_cases e : c = m
    · rw [e]; exact h.1
    · exact shrs_t h.2 c (by omega)
