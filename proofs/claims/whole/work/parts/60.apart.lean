/-! ===== layer B: what is had, along walks; those apart ===== -/
section HW
variable {h : Nat → Int32} {nR : Nat} {s : Int32}
theorem had_iff (hR : nR ≤ 12) (hb : ∀ k, k < nR → bd nR (h k)) (hs : bd nR s) {i : Nat} (hi : i < 32) : bt (rH h nR s 12) i = true ↔ ∃ k, bt (rWk h nR s k) i = true := by
  constructor
  · intro q
    rw [rH_b, rAny_t] at q
    obtain ⟨j, -, h2⟩ := q
    exact ⟨j, ((rN_first j hi).mp h2).1⟩
  · intro q
    obtain ⟨k, hk, hmin⟩ : ∃ k, bt (rWk h nR s k) i = true ∧ ∀ j, j < k → bt (rWk h nR s j) i = false := by
      obtain ⟨k, hk⟩ := q
      induction k using Nat.strongRecOn with
      | ind k ih =>
        by_cases c : ∃ j, j < k ∧ bt (rWk h nR s j) i = true
        · obtain ⟨j, h1, h2⟩ := c
          exact ih j h1 h2
        · refine ⟨k, hk, fun j hj => ?_⟩
          cases e : bt (rWk h nR s j) i
          · rfl
          · exact absurd ⟨j, hj, e⟩ c
    have h1 := (rN_first k hi).mpr ⟨hk, hmin⟩
    rw [rH_b, rAny_t]
    refine ⟨k, ?_, h1⟩
    rcases Nat.lt_or_ge k 13 with c | c
    · exact c
    · exfalso
      have h2 := (rN_zero (rN12 hR hb hs) (k - 12)).1
      rw [show 12 + (k - 12) = k by omega] at h2
      rw [h2, b_0] at h1
      cases h1
/-- walks in more holdings, from more roles -/
theorem rWk_mono {h' : Nat → Int32} {s' : Int32} (hh : ∀ k i, k < nR → bt (h k) i = true → bt (h' k) i = true) (hs : ∀ i, bt s i = true → bt s' i = true) : ∀ k i, bt (rWk h nR s k) i = true → bt (rWk h' nR s' k) i = true := by
  intro k
  induction k with
  | zero => exact hs
  | succ k ih =>
    intro i q
    rw [rWk_b, rAny_t] at q ⊢
    obtain ⟨j, h1, h2⟩ := q
    rw [Bool.and_eq_true] at h2
    exact ⟨j, h1, by rw [ih j h2.1, hh j i h1 h2.2]; rfl⟩
theorem rWk_bit {x a : Nat} (hx : x < 32) (ha : bt (rWk h nR s a) x = true) : ∀ k i, i < 32 → bt (rWk h nR (1 <<< (nI x &&& 31)) k) i = true → bt (rWk h nR s (a + k)) i = true := by
  intro k
  induction k with
  | zero =>
    intro i hi q
    have q : bt (1 <<< (nI x &&& 31)) i = true := q
    rw [b_bit hx hi, decide_eq_true_eq] at q
    rw [q]; exact ha
  | succ k ih =>
    intro i hi q
    rw [rWk_b, rAny_t] at q
    obtain ⟨j, h1, h2⟩ := q
    rw [Bool.and_eq_true] at h2
    by_cases hj : j < 32
    · rw [← Nat.add_assoc, rWk_b, rAny_t]
      exact ⟨j, h1, by rw [ih j hj h2.1, h2.2]; rfl⟩
    · rw [b_big (by omega)] at h2
      exact absurd h2.1 (by decide)
theorem rWk_step {j i a : Nat} (hj : j < nR) (ha : bt (rWk h nR s a) j = true) (hji : bt (h j) i = true) : bt (rWk h nR s (a + 1)) i = true := by
  rw [rWk_b, rAny_t]
  exact ⟨j, hj, by rw [ha, hji]; rfl⟩
/-- one more holding -/
theorem had_more (hR : nR ≤ 12) (hb : ∀ k, k < nR → bd nR (h k)) (hs : bd nR s) {r x : Nat} (hr : r < nR) (hx : x < nR) : rH (upd h r (h r ||| (1 <<< (nI x &&& 31)))) nR s 12 = if bt (rH h nR s 12) r = true then rH h nR s 12 ||| rH h nR (1 <<< (nI x &&& 31)) 12 else rH h nR s 12 := by
  have hbx : bd nR (1 <<< (nI x &&& 31)) := bd_bit hx (by omega)
  have hb' : ∀ k, k < nR → bd nR (upd h r (h r ||| (1 <<< (nI x &&& 31))) k) := fun k hk => by
    by_cases e : k = r
    · rw [e, up_at]; exact bd_or (hb r hr) hbx
    · rw [up_ne _ _ e]; exact hb k hk
  have hh : ∀ k i, k < nR → bt (h k) i = true → bt (upd h r (h r ||| (1 <<< (nI x &&& 31))) k) i = true := fun k i _ q => by
    by_cases e : k = r
    · rw [e] at q
      rw [e, up_at, b_or, q]; rfl
    · rw [up_ne _ _ e]; exact q
  apply b_ext
  intro i hi
  have key : bt (rH (upd h r (h r ||| (1 <<< (nI x &&& 31)))) nR s 12) i = true ↔ (bt (rH h nR s 12) i = true ∨ (bt (rH h nR s 12) r = true ∧ bt (rH h nR (1 <<< (nI x &&& 31)) 12) i = true)) := by
    rw [had_iff hR hb' hs hi, had_iff hR hb hs hi, had_iff hR hb hs (show r < 32 by omega), had_iff hR hb hbx hi]
    constructor
    · rintro ⟨k, q⟩
      have main : ∀ k i, i < 32 → bt (rWk (upd h r (h r ||| (1 <<< (nI x &&& 31)))) nR s k) i = true → ((∃ k, bt (rWk h nR s k) i = true) ∨ ((∃ k, bt (rWk h nR s k) r = true) ∧ ∃ k, bt (rWk h nR (1 <<< (nI x &&& 31)) k) i = true)) := by
        intro k
        induction k with
        | zero => exact fun i _ q => Or.inl ⟨0, q⟩
        | succ k ih =>
          intro i hi q
          rw [rWk_b, rAny_t] at q
          obtain ⟨j, h1, h2⟩ := q
          rw [Bool.and_eq_true] at h2
          have old : bt (h j) i = true → ((∃ k, bt (rWk h nR s k) i = true) ∨ ((∃ k, bt (rWk h nR s k) r = true) ∧ ∃ k, bt (rWk h nR (1 <<< (nI x &&& 31)) k) i = true)) := fun q2 => by
            rcases ih j (by omega) h2.1 with ⟨a, c⟩ | ⟨c, a, c2⟩
            · exact Or.inl ⟨a + 1, rWk_step h1 c q2⟩
            · exact Or.inr ⟨c, a + 1, rWk_step h1 c2 q2⟩
          by_cases e : j = r
          · subst e
            rw [up_at, b_or, Bool.or_eq_true] at h2
            rcases h2.2 with q2 | q2
            · exact old q2
            · rw [b_bit (by omega) hi, decide_eq_true_eq] at q2
              subst q2
              have here : ∃ k, bt (rWk h nR (1 <<< (nI i &&& 31)) k) i = true := ⟨0, by show bt (1 <<< (nI i &&& 31)) i = true; rw [b_bit hi hi]; simp⟩
              rcases ih j (by omega) h2.1 with ⟨a, c⟩ | ⟨c, -⟩
              · exact Or.inr ⟨⟨a, c⟩, here⟩
              · exact Or.inr ⟨c, here⟩
          · rw [up_ne _ _ e] at h2
            exact old h2.2
      exact main k i hi q
    · rintro (⟨k, q⟩ | ⟨⟨a, qa⟩, k, q⟩)
      · exact ⟨k, rWk_mono hh (fun _ q => q) k i q⟩
      · have h1 := rWk_mono hh (fun _ q => q) a r qa
        have h2 : bt (rWk (upd h r (h r ||| (1 <<< (nI x &&& 31)))) nR s (a + 1)) x = true := rWk_step hr h1 (by rw [up_at, b_or, b_bit (by omega) (by omega)]; simp)
        exact ⟨a + 1 + k, rWk_bit (by omega) h2 k i hi (rWk_mono hh (fun _ q => q) k i q)⟩
  by_cases c : bt (rH h nR s 12) r = true
  · rw [if_pos c, b_or, Bool.eq_iff_iff, key, Bool.or_eq_true]
    exact ⟨fun q => q.imp id And.right, fun q => q.imp id (fun q => ⟨c, q⟩)⟩
  · rw [if_neg c, Bool.eq_iff_iff, key]
    exact ⟨fun q => q.elim id (fun q => absurd q.1 c), Or.inl⟩
/-- fewer of all -/
theorem had_less (hR : nR ≤ 12) {h' : Nat → Int32} {s' : Int32} (hb : ∀ k, k < nR → bd nR (h k)) (hb' : ∀ k, k < nR → bd nR (h' k)) (hs : bd nR s) (hs' : bd nR s') (hh : ∀ k i, k < nR → bt (h' k) i = true → bt (h k) i = true) (hss : ∀ i, bt s' i = true → bt s i = true) {i : Nat} (hi : i < 32) (q : bt (rH h' nR s' 12) i = true) : bt (rH h nR s 12) i = true := by
  rw [had_iff hR hb' hs' hi] at q
  rw [had_iff hR hb hs hi]
  obtain ⟨k, q⟩ := q
  exact ⟨k, rWk_mono hh hss k i q⟩
theorem split_less {ap : Nat → Int32} {x y : Int32} (hxy : ∀ i, i < 32 → bt x i = true → bt y i = true) (hR : nR ≤ 32) (q : rSplit ap nR y = false) : rSplit ap nR x = false := by
  unfold rSplit at q ⊢
  rw [rAny_f] at q ⊢
  intro r hr
  have h1 := q r hr
  cases hx : bt x r
  · rfl
  · rw [hxy r (by omega) hx] at h1
    have h2 : ap r &&& y = 0 := by simpa using h1
    have h3 : ap r &&& x = 0 := by
      rw [b_eq0] at h2 ⊢
      intro i hi
      have h4 := h2 i hi
      rw [b_and] at h4 ⊢
      cases h5 : bt x i
      · rw [Bool.and_false]
      · rw [hxy i hi h5] at h4
        rw [Bool.and_true] at h4 ⊢
        exact h4
    simp [h3]
end HW
/-- all that a set of roles has -/
abbrev hd (T : gk_C) (s : Int32) : Int32 := rH (T.1 4) (tR T) s 12
theorem wf_bd {T : gk_C} (hw : wf T) : ∀ k, k < tR T → bd (tR T) (T.1 4 k) := fun k hk i hi q => hw.2.1.2 k hk i hi q
theorem bd_had {T : gk_C} (hw : wf T) {s : Int32} (hs : bd (tR T) s) : bd (tR T) (hd T s) := bd_rH (wf_bd hw) hs 12
theorem hd_near {T : gk_C} (hw : wf T) {s : Int32} (hs : bd (tR T) s) {i : Nat} (hi : i < tR T) : bt (hd T s) i = (rNear (T.1 4) (tR T) s i).isSome := by
  have hR := (wf_R hw).2
  have h12 := rN12 hR (wf_bd hw) hs
  unfold rNear
  cases q : (List.range 12).find? (fun k => bt (rN (T.1 4) (tR T) s k) i) with
  | none =>
    rw [List.find?_eq_none] at q
    show bt (rH (T.1 4) (tR T) s 12) i = false
    rw [rH_b, rAny_f]
    intro j hj
    by_cases e : j = 12
    · rw [e, h12, b_0]
    · have h1 := q j (List.mem_range.mpr (by omega))
      simpa using h1
  | some k =>
    have h1 := List.find?_some q
    have h2 := List.mem_range.mp (List.mem_of_find?_eq_some q)
    show bt (rH (T.1 4) (tR T) s 12) i = true
    rw [rH_b, rAny_t]
    exact ⟨k, by omega, h1⟩
section HM
variable {T μ : gk_C}
theorem lm_had (hn : μ.2 7 = T.2 1) (hr : ∀ k, k < 12 → μ.1 8 k = T.1 4 k) (hw : wf T) {s : Int32} (hs : bd (tR T) s) {Q : Int32 → Prop} (hQ : Q (hd T s)) : wv_X9_had μ s Q := by
  have hR := wf_R hw
  intro f g
  unfold w_X9_had
  refine lm_nears_ (T := T) (μ := mk_sc μ f g) (hn.trans hR.1) hR.2 hr (wf_bd hw) hs (fun f' hf => ?_)
  rw [sc_r36]
  have l := lpUp (A := Int32) (n := tR T) (W := fun fu r z => wL_X9_had_15 (fun r u => (∃ f' g', u = mk_sc μ f' g') ∧ Q r) fu (mk_sc μ f' g) z (nI r)) (J := fun r z => z = mb (fun i => (rNear (T.1 4) (tR T) s i).isSome) r) ?_ ?_ (tR T) 0 0 (Nat.zero_add _) rfl
  · exact ⟨_, l⟩
  · intro fu z hz
    unfold wL_X9_had_15
    rw [show (mk_sc μ f' g).2 7 = nI (tR T) from hn.trans hR.1]
    refine ⟨fun _ => ⟨⟨f', g, rfl⟩, ?_⟩, fun q => absurd (nI_le (Nat.le_refl _) (by omega)) q⟩
    rw [hz, show mb (fun i => (rNear (T.1 4) (tR T) s i).isSome) (tR T) = hd T s from (mb_ext (by omega) (fun i hi => by
      by_cases c : i < tR T
      · rw [decide_eq_true c, Bool.true_and]; exact hd_near hw hs c
      · rw [decide_eq_false c, Bool.false_and]
        cases q : bt (hd T s) i
        · rfl
        · exact absurd (bd_had hw hs i hi q) c)).symm]
    exact hQ
  · intro fu r z hr2 hz next
    unfold wL_X9_had_15
    rw [show (mk_sc μ f' g).2 7 = nI (tR T) from hn.trans hR.1, nI_clamp (show r < 2 ^ 31 by omega), sc_36, hf r (by omega)]
    refine ⟨fun q => absurd q (nI_ge hr2 (by omega)), fun _ => ⟨vp_in' (by omega) (by decide), ?_⟩⟩
    unfold wJ_X9_had_42
    rw [nI_1 r]
    cases q : rNear (T.1 4) (tR T) s r with
    | none =>
      refine ⟨fun _ => ?_, fun q2 => absurd (by decide) q2⟩
      rw [show z ||| 0 = z from b_ext (fun i _ => by rw [b_or, b_0, Bool.or_false])]
      exact next z (by rw [hz, mb_f (P := fun i => (rNear (T.1 4) (tR T) s i).isSome) (by simp only [q]; rfl)])
    | some k =>
      have := rNear_lt q
      refine ⟨fun q2 => absurd q2 (nI_ge (a := k + 1) (b := 99) (by omega) (by decide)), fun _ => ?_⟩
      exact next _ (by rw [hz, mb_t (P := fun i => (rNear (T.1 4) (tR T) s i).isSome) (by simp only [q]; rfl)])
theorem b_bit2 {i j k : Nat} (hi : i < 32) (hj : j < 32) (hk : k < 32) : bt (bit2 i j) k = (decide (k = i) || decide (k = j)) := by
  unfold bit2
  rw [b_or, b_bit hi hk, b_bit hj hk]
theorem bit2_in {i j : Nat} (hi : i < 32) (hj : j < 32) (x : Int32) : decide (x &&& bit2 i j = bit2 i j) = (bt x i && bt x j) := by
  rw [Bool.eq_iff_iff, decide_eq_true_eq, Bool.and_eq_true]
  constructor
  · intro q
    have h1 : bt (x &&& bit2 i j) i = bt (bit2 i j) i := by rw [q]
    have h2 : bt (x &&& bit2 i j) j = bt (bit2 i j) j := by rw [q]
    rw [b_and, b_bit2 hi hj hi] at h1
    rw [b_and, b_bit2 hi hj hj] at h2
    simp at h1 h2
    exact ⟨h1, h2⟩
  · rintro ⟨h1, h2⟩
    apply b_ext
    intro k hk
    rw [b_and, b_bit2 hi hj hk]
    by_cases e : k = i
    · subst e; simp [h1]
    · by_cases e2 : k = j
      · subst e2; simp [h2]
      · simp [e, e2]
theorem split_eq (hA : jA T μ) (hR : tR T ≤ 12) {x : Int32} (hx : bd (tR T) x) : rAny (fun k => decide (x &&& μ.1 10 k = μ.1 10 k)) (tP T) = rSplit (T.1 5) (tR T) x := by
  rw [Bool.eq_iff_iff]
  unfold rSplit
  rw [rAny_t, rAny_t]
  constructor
  · rintro ⟨k, hk, q⟩
    obtain ⟨i, j, hi, hj, -, e, h1, h2⟩ := hA.1 k hk
    rw [e, bit2_in (by omega) (by omega), Bool.and_eq_true] at q
    refine ⟨i, hi, ?_⟩
    rw [q.1, Bool.true_and, Bool.not_eq_true']
    refine decide_eq_false (fun q2 => ?_)
    have h3 := (b_eq0 _).mp q2 j (by omega)
    rw [b_and, h1, q.2] at h3
    cases h3
  · rintro ⟨r, hr, q⟩
    rw [Bool.and_eq_true, Bool.not_eq_true', decide_eq_false_iff_not] at q
    have h1 : ∃ j, j < 32 ∧ bt (T.1 5 r &&& x) j = true := by
      refine Classical.byContradiction fun hn => q.2 ?_
      rw [b_eq0]
      intro j hj
      cases c : bt (T.1 5 r &&& x) j
      · rfl
      · exact absurd ⟨j, hj, c⟩ hn
    obtain ⟨j, hj, h2⟩ := h1
    rw [b_and, Bool.and_eq_true] at h2
    obtain ⟨k, hk, e⟩ := hA.2 r (by omega) j hj h2.1
    refine ⟨k, hk, ?_⟩
    rw [e, bit2_in (by omega) hj, q.1, h2.2]
    rfl
theorem lm_hasApart (hn : μ.2 7 = T.2 1) (hp : μ.2 9 = T.2 2) (hr : ∀ k, k < 12 → μ.1 8 k = T.1 4 k) (hA : jA T μ) (hw : wf T) {s : Int32} (hs : bd (tR T) s) {Q : Int32 → Prop} (hQ : Q (b2i (rSplit (T.1 5) (tR T) (hd T s)))) : w_X9_hasApart μ s Q := by
  have hP := wf_P hw
  unfold w_X9_hasApart
  refine lm_had hn hr hw hs ?_
  rw [← split_eq hA (wf_R hw).2 (bd_had hw hs)] at hQ
  have l := lpUp (A := Unit) (n := tP T) (W := fun fu k _ => wL_X9_hasApart_8 μ Q fu (hd T s) (nI k)) (J := fun k _ => ∀ j, j < k → decide (hd T s &&& μ.1 10 j = μ.1 10 j) = false) ?_ ?_ (tP T) 0 () (Nat.zero_add _) (fun j hj => absurd hj (by omega))
  · exact ⟨_, l⟩
  · intro fu _ hz
    unfold wL_X9_hasApart_8
    rw [hp.trans hP.1]
    refine ⟨fun _ => ?_, fun q => absurd (nI_le (Nat.le_refl _) (by omega)) q⟩
    rw [rAny_f.mpr hz] at hQ
    exact hQ
  · intro fu k _ hk hz next
    unfold wL_X9_hasApart_8
    rw [hp.trans hP.1, nI_clamp (show k < 2 ^ 31 by omega), nI_1 k]
    refine ⟨fun q => absurd q (nI_ge hk (by omega)), fun _ => ⟨vp_in' (by omega) (by decide), vp_in' (by omega) (by decide), ?_⟩⟩
    refine ⟨fun q => next () (fun j hj => ?_), fun q => ?_⟩
    · by_cases e : j = k
      · rw [e]; exact decide_eq_false q
      · exact hz j (by omega)
    · rw [rAny_t.mpr ⟨k, hk, decide_eq_true q⟩] at hQ
      exact hQ
theorem lm_allRight (hu : μ.2 3 = T.2 0) (hn : μ.2 7 = T.2 1) (hp : μ.2 9 = T.2 2) (hr : ∀ k, k < 12 → μ.1 8 k = T.1 4 k) (hS : ∀ u, u < 12 → μ.1 4 u = T.1 2 u) (hA : jA T μ) (hw : wf T) {Q : Int32 → Prop} (hQ : Q (b2i (!rAny (fun u => rSplit (T.1 5) (tR T) (hd T (T.1 2 u))) (tU T)))) : w_X9_areAllRight μ Q := by
  have hU := wf_U hw
  unfold w_X9_areAllRight
  have l := lpUp (A := Unit) (n := tU T) (W := fun fu k _ => wL_X9_areAllRight_2 μ Q fu (nI k)) (J := fun k _ => ∀ u, u < k → rSplit (T.1 5) (tR T) (hd T (T.1 2 u)) = false) ?_ ?_ (tU T) 0 () (Nat.zero_add _) (fun j hj => absurd hj (by omega))
  · exact ⟨_, l⟩
  · intro fu _ hz
    unfold wL_X9_areAllRight_2
    rw [hu.trans hU.1]
    refine ⟨fun _ => ?_, fun q => absurd (nI_le (Nat.le_refl _) (by omega)) q⟩
    rw [rAny_f.mpr hz] at hQ
    exact hQ
  · intro fu k _ hk hz next
    unfold wL_X9_areAllRight_2
    rw [hu.trans hU.1, nI_clamp (show k < 2 ^ 31 by omega), nI_1 k, hS k (by omega)]
    refine ⟨fun q => absurd q (nI_ge hk (by omega)), fun _ => ⟨vp_in' (by omega) (by decide), ?_⟩⟩
    refine lm_hasApart hn hp hr hA hw (fun i hi => hw.2.1.1 k hk i hi) ?_
    refine b2i_go _ (fun q => next () (fun j hj => ?_)) (fun q => ?_)
    · by_cases e : j = k
      · rw [e]; exact q
      · exact hz j (by omega)
    · rw [rAny_t.mpr ⟨k, hk, q⟩] at hQ
      exact hQ
end HM
