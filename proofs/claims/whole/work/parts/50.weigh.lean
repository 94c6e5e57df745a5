/-! ===== layer B: the reference's weighing picks the same rule ===== -/
section WE
variable {T μ : gk_C}
def isBS (P : Nat → Bool) (w : Nat → Int32) (k n b : Nat) : Prop := k ≤ b ∧ b < n ∧ P b = true ∧ (∀ j, k ≤ j → j < n → P j = true → w b ≤ w j) ∧ ∀ j, k ≤ j → j < b → P j = true → ¬ w j ≤ w b
/-- the weight where those that allow, or those that deny, are first -/
def w01 (T : gk_C) (fl : Bool) (k : Nat) : Int32 := if decide (T.1 11 k = 1) = fl then 0 else 1
theorem w01_le (T : gk_C) (fl : Bool) (k j : Nat) : w01 T fl k ≤ w01 T fl j ↔ (decide (T.1 11 k = 1) = fl ∨ ¬ decide (T.1 11 j = 1) = fl) := by
  unfold w01
  by_cases h1 : decide (T.1 11 k = 1) = fl
  · rw [if_pos h1]
    by_cases h2 : decide (T.1 11 j = 1) = fl
    · rw [if_pos h2]; exact ⟨fun _ => Or.inl h1, fun _ => by decide⟩
    · rw [if_neg h2]; exact ⟨fun _ => Or.inl h1, fun _ => by decide⟩
  · rw [if_neg h1]
    by_cases h2 : decide (T.1 11 j = 1) = fl
    · rw [if_pos h2]; exact ⟨fun q => absurd q (by decide), fun q => by rcases q with q | q; exact absurd q h1; exact absurd h2 q⟩
    · rw [if_neg h2]; exact ⟨fun _ => Or.inr h2, fun _ => by decide⟩
theorem al_b2i {x : Int32} (h : x = 0 ∨ x = 1) : x = b2i (decide (x = 1)) := by
  rcases h with rfl | rfl <;> rfl
theorem b2i_inj (a b : Bool) : (b2i a = b2i b) = (a = b) := by cases a <;> cases b <;> simp [b2i]
theorem lm_firstOf (hM : jM T μ) (hw : wf T) {P : Nat → Bool} {x : Int32} (hx : ∀ k, k < tL T → bt x k = P k) (fl : Bool) {Q : Int32 → Prop} (hQ : Q (oI (bs P (w01 T fl) (tL T)))) : w_X9_firstOf μ x (b2i fl) Q := by
  have hL := wf_L hw
  have hn : μ.2 16 = nI (tL T) := hM.1.2.2.2.2.1.trans hL.1
  have hal : ∀ k, k < tL T → μ.1 17 k = b2i (decide (T.1 11 k = 1)) := fun k hk => by
    rw [(hM.2.2.2.2.2.2.1 k hk).1]
    exact al_b2i (hw.2.2.2.2.1 k hk).1
  have main : ∀ k, k ≤ tL T → ∀ y, ((y = -1 ∧ ∀ j, k ≤ j → j < tL T → P j = false) ∨ ∃ b, y = nI b ∧ isBS P (w01 T fl) k (tL T) b) → wL_X9_firstOf_10 μ Q (k + 1) x (b2i fl) y (nI k - 1) := by
    intro k
    induction k with
    | zero =>
      intro _ y hy
      unfold wL_X9_firstOf_10
      refine ⟨fun _ => ?_, fun q => absurd (by decide) q⟩
      rcases hy with ⟨rfl, h1⟩ | ⟨b, rfl, b1, b2, b3, b4, b5⟩
      · rw [bs_none.mpr (fun j hj => h1 j (by omega) hj)] at hQ
        exact hQ
      · rw [bs_eq ⟨b2, b3, fun j hj => b4 j (by omega) hj, fun j hj => b5 j (by omega) hj⟩] at hQ
        exact hQ
    | succ k ih =>
      intro hk y hy
      rw [nI_pred]
      unfold wL_X9_firstOf_10
      refine ⟨fun q => absurd q (nI_pos (by omega)), fun _ => ?_⟩
      rw [b_get _ (show k < 32 by omega), hx k (by omega), show nI k + (-1) = nI k - 1 from (Int32.sub_eq_add_neg _ _).symm]
      have hv := vp_in' (show k < 30 by omega) (by decide)
      have take : (∀ j, k + 1 ≤ j → j < tL T → P j = true → w01 T fl k ≤ w01 T fl j) → P k = true → wJ_X9_firstOf_50 μ (fun x1 x2 x3 x4 => wL_X9_firstOf_10 μ Q (k + 1) x1 x2 x3 x4) x (b2i fl) (nI k) := fun q hp => by
        unfold wJ_X9_firstOf_50
        rw [show nI k + (-1) = nI k - 1 from (Int32.sub_eq_add_neg _ _).symm]
        refine ih (by omega) _ (Or.inr ⟨k, rfl, Nat.le_refl _, by omega, hp, fun j h1 h2 h3 => ?_, fun j h1 h2 => absurd h2 (by omega)⟩)
        by_cases e : j = k
        · rw [e]; exact Int32.le_refl _
        · exact q j (by omega) h2 h3
      refine b2i_go _ (fun q1 => ih (by omega) y ?_) (fun q1 => ?_)
      · rcases hy with ⟨rfl, h1⟩ | ⟨b, rfl, b1, b2, b3, b4, b5⟩
        · exact Or.inl ⟨rfl, fun j h2 h3 => by
            by_cases e : j = k
            · rw [e]; exact q1
            · exact h1 j (by omega) h3⟩
        · exact Or.inr ⟨b, rfl, by omega, b2, b3, fun j h2 h3 h4 => by
            by_cases e : j = k
            · rw [e, q1] at h4; cases h4
            · exact b4 j (by omega) h3 h4, fun j h2 h3 h4 => by
            by_cases e : j = k
            · rw [e, q1] at h4; cases h4
            · exact b5 j (by omega) h3 h4⟩
      · refine ⟨fun q2 => ?_, fun q2 => ⟨hv, ?_⟩⟩
        · rcases hy with ⟨_, h1⟩ | ⟨b, rfl, b1, b2, b3, b4, b5⟩
          · exact take (fun j h2 h3 h4 => by rw [h1 j h2 h3] at h4; cases h4) q1
          · exact absurd (by rw [q2]; decide) (nI_pos (show b < 2 ^ 31 by omega))
        · rcases hy with ⟨h0, _⟩ | ⟨b, rfl, b1, b2, b3, b4, b5⟩
          · exact absurd h0 q2
          · rw [nI_clamp (by omega), nI_clamp (by omega), hal k (by omega), hal b b2, b2i_inj, b2i_inj]
            refine ⟨fun q3 => take (fun j h2 h3 h4 => (w01_le T fl k j).mpr (Or.inl q3)) q1, fun q3 => ⟨vp_in' (by omega) (by decide), fun q4 => ih (by omega) _ (Or.inr ⟨b, rfl, by omega, b2, b3, fun j h2 h3 h4 => ?_, fun j h2 h3 h4 => ?_⟩), fun q4 => take (fun j h2 h3 h4 => ?_) q1⟩⟩
            · exact (w01_le T fl b j).mpr (Or.inl q4)
            · by_cases e : j = k
              · rw [e, w01_le]
                rintro (q5 | q5)
                · exact q3 q5
                · exact q5 q4
              · exact b5 j (by omega) h3 h4
            · have h5 := (w01_le T fl b j).mp (b4 j h2 h3 h4)
              exact (w01_le T fl k j).mpr (Or.inr (h5.resolve_left q4))
  refine ⟨tL T + 1, ?_⟩
  rw [hn]
  exact main (tL T) (Nat.le_refl _) (-1) (Or.inl ⟨rfl, fun j h1 h2 => absurd h1 (by omega)⟩)
/-- those of the least number -/
def mnB (P : Nat → Bool) (nu : Nat → Int32) (n k : Nat) : Bool := P k && !rAny (fun j => P j && !decide (nu k ≤ nu j)) n
theorem mnB_t {P : Nat → Bool} {nu : Nat → Int32} {n k : Nat} : mnB P nu n k = true ↔ P k = true ∧ ∀ j, j < n → P j = true → nu k ≤ nu j := by
  unfold mnB
  rw [Bool.and_eq_true, Bool.not_eq_true', rAny_f]
  constructor
  · rintro ⟨h1, h2⟩
    refine ⟨h1, fun j hj hp => ?_⟩
    have h3 := h2 j hj
    rw [hp] at h3
    simpa using h3
  · rintro ⟨h1, h2⟩
    refine ⟨h1, fun j hj => ?_⟩
    cases hp : P j
    · rfl
    · simpa using h2 j hj hp
theorem lm_leastOf (hn : μ.2 16 = nI (tL T)) (hL : tL T ≤ 30) {P : Nat → Bool} {x : Int32} (hx : ∀ k, k < tL T → bt x k = P k) (h99 : ∀ k, k < tL T → P k = true → μ.1 37 k ≤ 99) {Q : Int32 → Prop} (hQ : Q (mb (mnB P (μ.1 37) (tL T)) (tL T))) : w_X9_leastOf μ x Q := by
  unfold w_X9_leastOf
  have l := lpUp (A := Int32) (n := tL T) (W := fun f k y => wL_X9_leastOf_5 μ (fun x1 x2 => (∃ n43, wL_X9_leastOf_43 μ Q n43 x1 x2 0 0)) f x y (nI k)) (J := fun k y => (∀ j, j < k → P j = true → y ≤ μ.1 37 j) ∧ (y = 99 ∨ ∃ j, j < k ∧ P j = true ∧ y = μ.1 37 j)) ?_ ?_ (tL T) 0 99 (Nat.zero_add _) ⟨fun j hj => absurd hj (by omega), Or.inl rfl⟩
  · exact ⟨_, l⟩
  · intro f y ⟨y1, y2⟩
    unfold wL_X9_leastOf_5
    rw [hn]
    refine ⟨fun _ => ?_, fun q => absurd (nI_le (Nat.le_refl _) (by omega)) q⟩
    show ∃ n43, wL_X9_leastOf_43 μ Q n43 x y 0 0
    have l2 := lpUp (A := Int32) (n := tL T) (W := fun f k z => wL_X9_leastOf_43 μ Q f x y z (nI k)) (J := fun k z => z = mb (mnB P (μ.1 37) (tL T)) k) ?_ ?_ (tL T) 0 0 (Nat.zero_add _) rfl
    · exact ⟨_, l2⟩
    · intro f z hz
      unfold wL_X9_leastOf_43
      rw [hn]
      exact ⟨fun _ => by rw [hz]; exact hQ, fun q => absurd (nI_le (Nat.le_refl _) (by omega)) q⟩
    · intro f k z hk hz next
      unfold wL_X9_leastOf_43
      rw [hn, b_get _ (show k < 32 by omega), hx k hk, nI_clamp (by omega)]
      refine ⟨fun q => absurd q (nI_ge hk (by omega)), fun _ => ?_⟩
      have no : mnB P (μ.1 37) (tL T) k = false → wJ_X9_leastOf_80 μ (fun x1 x2 x4 t0 t1 => (wJ_X9_leastOf_81 μ (fun x1 x2 x3 x4 => wL_X9_leastOf_43 μ Q f x1 x2 x3 x4) x1 x2 x4 t0 t1)) x y (nI k) z := fun q => by
        simp only [wJ_X9_leastOf_80, wJ_X9_leastOf_81]
        rw [nI_1, show z ||| 0 = z from b_ext (fun i _ => by rw [b_or, b_0, Bool.or_false])]
        exact next z (by rw [mb_f q]; exact hz)
      refine b2i_go _ (fun q1 => no (by unfold mnB; rw [q1]; rfl)) (fun q1 => ⟨vp_in' (by omega) (by decide), fun q2 => no ?_, fun q2 => ?_⟩)
      · cases hm : mnB P (μ.1 37) (tL T) k
        · rfl
        · exfalso
          have h1 := (mnB_t.mp hm).2
          apply q2
          rcases y2 with h2 | ⟨j, h2, h3, h4⟩
          · have h3 := y1 k hk q1
            have h4 := h99 k hk q1
            rw [h2] at h3 ⊢
            exact Int32.le_antisymm h4 h3
          · rw [h4]
            have h5 := y1 k hk q1
            rw [h4] at h5
            exact Int32.le_antisymm (h1 j h2 h3) h5
      · unfold wJ_X9_leastOf_81
        rw [nI_1]
        refine next _ ?_
        rw [mb_t (mnB_t.mpr ⟨q1, fun j hj hp => by rw [q2]; exact y1 j hj hp⟩), hz]
  · intro f k y hk ⟨y1, y2⟩ next
    unfold wL_X9_leastOf_5
    rw [hn, b_get _ (show k < 32 by omega), hx k hk, nI_clamp (by omega), nI_1]
    refine ⟨fun q => absurd q (nI_ge hk (by omega)), fun _ => ?_⟩
    refine b2i_go _ (fun q1 => next y ⟨fun j hj hp => ?_, ?_⟩) (fun q1 => ⟨vp_in' (by omega) (by decide), fun y31 hy => next y31 ?_⟩)
    · by_cases e : j = k
      · rw [e, q1] at hp; cases hp
      · exact y1 j (by omega) hp
    · rcases y2 with h | ⟨j, h1, h2⟩
      · exact Or.inl h
      · exact Or.inr ⟨j, by omega, h2⟩
    · by_cases c : μ.1 37 k < y
      · rw [if_pos c] at hy
        subst hy
        refine ⟨fun j hj hp => ?_, Or.inr ⟨k, by omega, q1, rfl⟩⟩
        by_cases e : j = k
        · rw [e]; exact Int32.le_refl _
        · exact Int32.le_of_lt (Int32.lt_of_lt_of_le c (y1 j (by omega) hp))
      · rw [if_neg c] at hy
        subst hy
        refine ⟨fun j hj hp => ?_, ?_⟩
        · by_cases e : j = k
          · rw [e]; exact Int32.not_lt.mp c
          · exact y1 j (by omega) hp
        · rcases y2 with h | ⟨j, h1, h2⟩
          · exact Or.inl h
          · exact Or.inr ⟨j, by omega, h2⟩
theorem bmS {x : Int} (h1 : -1000 ≤ x) (h2 : x ≤ 1000) : x.bmod (2 ^ 32) = x := Int.bmod_eq_of_le (by omega) (by omega)
/-- the parts of a weight, as numbers -/
theorem wt_num (hw : wf T) {wgh : Int32} {u k st : Nat} {s : Int32} (hk : k < tL T) (hst : stO T u s k = some st) (h12 : st ≤ 12) :
    ∃ (d rk g : Nat), d = dN T (ab T k) ∧ d ≤ 23 ∧ T.1 16 k = nI rk ∧ rk ≤ 9 ∧ g ≤ 1 ∧ (w01 T (decide (wgh = 1)) k).toInt = g ∧
    (wgh = 2 → (wt T wgh u s k).toInt = 2 * ((st : Int) - 16 * d) + g) ∧ (¬ wgh = 2 → wgh = 3 → (wt T wgh u s k).toInt = -2 * (rk : Int) + g) ∧ (¬ wgh = 2 → ¬ wgh = 3 → (wt T wgh u s k).toInt = (g : Int)) := by
  obtain ⟨h1, h2⟩ := wf_ab hw hk
  obtain ⟨h3, h4⟩ := wf_dN hw h2
  obtain ⟨rk, -, r1, r2⟩ := (hw.2.2.2.2.1 k hk).2.2.2.2
  have hg : ∃ g : Nat, g ≤ 1 ∧ (w01 T (decide (wgh = 1)) k) = nI g := by
    unfold w01
    by_cases q : decide (T.1 11 k = 1) = decide (wgh = 1)
    · rw [if_pos q]; exact ⟨0, by omega, rfl⟩
    · rw [if_neg q]; exact ⟨1, by omega, rfl⟩
  obtain ⟨g, g1, g2⟩ := hg
  have e : wt T wgh u s k = (if wgh = 2 then nI st - 16 * nI (dN T (ab T k)) else if wgh = 3 then -(nI rk) else 0) * 2 + nI g := by
    unfold wt wtI
    rw [hst, ← h3, ← r2, ← g2]
    rfl
  have t2 : (2 : Int32).toInt = 2 := by decide
  have t16 : (16 : Int32).toInt = 16 := by decide
  refine ⟨dN T (ab T k), rk, g, rfl, h4, r2, r1, g1, by rw [g2, nI_toInt (by omega)], fun q => ?_, fun q q2 => ?_, fun q q2 => ?_⟩
  · rw [e, if_pos q, Int32.toInt_add, Int32.toInt_mul, Int32.toInt_sub, Int32.toInt_mul, nI_toInt (by omega), nI_toInt (by omega), nI_toInt (by omega), t2, t16, bmS (x := 16 * (dN T (ab T k) : Int)) (by omega) (by omega), bmS (x := (st : Int) - 16 * (dN T (ab T k) : Int)) (by omega) (by omega), bmS (x := ((st : Int) - 16 * (dN T (ab T k) : Int)) * 2) (by omega) (by omega), bmS (by omega) (by omega)]
    omega
  · rw [e, if_neg q, if_pos q2, Int32.toInt_add, Int32.toInt_mul, Int32.toInt_neg, nI_toInt (by omega), nI_toInt (by omega), t2, bmS (x := -(rk : Int)) (by omega) (by omega), bmS (x := -(rk : Int) * 2) (by omega) (by omega), bmS (by omega) (by omega)]
    omega
  · rw [e, if_neg q, if_neg q2, Int32.zero_mul, Int32.zero_add, nI_toInt (by omega)]
/-- one narrowing after the other: the best of those of the least number is the best -/
theorem bs_mn {P : Nat → Bool} {nu w v : Nat → Int32} {n : Nat} (h1 : ∀ i j, i < n → j < n → P i = true → P j = true → w i ≤ w j → nu i ≤ nu j) (h2 : ∀ i j, i < n → j < n → P i = true → P j = true → nu i = nu j → (w i ≤ w j ↔ v i ≤ v j)) : bs (mnB P nu n) v n = bs P w n := by
  cases hb : bs P w n with
  | none =>
    rw [bs_none] at hb ⊢
    intro j hj
    unfold mnB
    rw [hb j hj]; rfl
  | some b =>
    obtain ⟨b1, b2, b3, b4⟩ := bs_isB.1 b hb
    have hmin : ∀ j, j < n → P j = true → nu b ≤ nu j := fun j hj hp => h1 b j b1 hj b2 hp (b3 j hj hp)
    have heq : ∀ j, j < n → mnB P nu n j = true → P j = true ∧ nu b = nu j := fun j hj hm => by
      obtain ⟨m1, m2⟩ := mnB_t.mp hm
      exact ⟨m1, Int32.le_antisymm (hmin j hj m1) (m2 b b1 b2)⟩
    apply bs_eq
    refine ⟨b1, mnB_t.mpr ⟨b2, hmin⟩, fun j hj hm => ?_, fun j hj hm => ?_⟩
    · obtain ⟨m1, m2⟩ := heq j hj hm
      exact (h2 b j b1 hj b2 m1 m2).mp (b3 j hj m1)
    · obtain ⟨m1, m2⟩ := heq j (by omega) hm
      exact fun q => b4 j hj m1 ((h2 j b (by omega) b1 m1 b2 m2.symm).mpr q)
theorem i32le {x y : Int32} : x ≤ y ↔ x.toInt ≤ y.toInt := Int32.le_iff_toInt_le
theorem lm_weigh (hM : jM T μ) (hw : wf T) {s : Int32} {f : Nat → Int32} (hN : isN T s f) {u r : Nat} (hu : u < tU T) (hr : r < tT T) {P : Nat → Bool} {x : Int32} (hx : ∀ k, k < tL T → bt x k = P k) (hx0 : x = 0 ↔ ∀ k, k < tL T → P k = false) (hP : ∀ k, k < tL T → P k = true → bene T r (ab T k) = true ∧ (stO T u s k).isSome = true) {wgh : Int32} {Q : Int32 → Prop} (hQ : Q (oI (bs P (wt T wgh u s) (tL T)))) : wv_X9_weigh μ x f (nI r) wgh Q := by
  have hL := wf_L hw
  have hT := (wf_T hw).2.2
  have hR := (wf_R hw).2
  have hU := (wf_U hw).2
  have hn : μ.2 16 = nI (tL T) := hM.1.2.2.2.2.1.trans hL.1
  have hst : ∀ k, k < tL T → P k = true → ∃ st, stO T u s k = some st ∧ st ≤ 12 := fun k hk hp => by
    have h1 := (hP k hk hp).2
    cases h2 : stO T u s k with
    | none => rw [h2] at h1; cases h1
    | some st =>
      refine ⟨st, rfl, ?_⟩
      unfold stO at h2
      by_cases c1 : T.1 12 k < 12
      · rw [if_pos c1] at h2
        by_cases c2 : T.1 12 k = nI u
        · rw [if_pos c2] at h2; cases h2; omega
        · rw [if_neg c2] at h2; cases h2
      · rw [if_neg c1] at h2
        exact (rN1_lt h2).1
  intro f0 g0
  unfold w_X9_weigh
  have j181 : ∀ (g : Nat → Int32) (P' : Nat → Bool) (y : Int32), (∀ k, k < tL T → bt y k = P' k) → bs P' (w01 T false) (tL T) = bs P (wt T wgh u s) (tL T) → wJ_X9_weigh_181 f (fun r u => (∃ f' g', u = mk_sc μ f' g') ∧ Q r) (mk_sc μ f0 g) y := fun g P' y hy hb => by
    unfold wJ_X9_weigh_181
    exact lm_firstOf (jM_sc hM f0 g) hw hy false ⟨⟨f0, g, rfl⟩, by rw [hb]; exact hQ⟩
  refine ⟨fun q0 => ⟨fun q1 => ⟨fun q2 => ?_, fun q2 => ?_⟩, fun q1 => ?_⟩, fun q0 => ⟨⟨f0, g0, rfl⟩, by rw [bs_none.mpr (hx0.mp q0)] at hQ; exact hQ⟩⟩
  · unfold wJ_X9_weigh_134
    refine ⟨fun q3 => j181 g0 P x hx (bs_isB_eq ?_), fun q3 => ?_⟩
    · intro i j hi hj hpi hpj
      obtain ⟨si, i1, i2⟩ := hst i hi hpi
      obtain ⟨sj, j1, j2⟩ := hst j hj hpj
      obtain ⟨di, ri, gi, -, -, -, -, -, e1, -, -, e2⟩ := wt_num (wgh := wgh) hw hi i1 i2
      obtain ⟨dj, rj, gj, -, -, -, -, -, e3, -, -, e4⟩ := wt_num (wgh := wgh) hw hj j1 j2
      rw [decide_eq_false q1] at e1 e3
      rw [i32le, i32le, e1, e3, e2 q2 q3, e4 q2 q3]
    · have l := lpUp (A := Nat → Int32) (n := tL T) (W := fun fu k g => wL_X9_weigh_143 f (fun σ x5 => (w_X9_leastOf σ x5 (fun r176 => wJ_X9_weigh_181 f (fun r u => (∃ f' g', u = mk_sc μ f' g') ∧ Q r) σ r176))) fu (mk_sc μ f0 g) x (nI k)) (J := fun k g => ∀ j, j < k → g j = -(T.1 16 j)) ?_ ?_ (tL T) 0 g0 (Nat.zero_add _) (fun j hj => absurd hj (by omega))
      · exact ⟨_, l⟩
      · intro fu g hg
        unfold wL_X9_weigh_143
        rw [show (mk_sc μ f0 g).2 16 = nI (tL T) from hn]
        refine ⟨fun _ => ?_, fun q => absurd (nI_le (Nat.le_refl _) (by omega)) q⟩
        refine lm_leastOf (μ := mk_sc μ f0 g) hn hL.2 hx (fun k hk hp => ?_) ?_
        · rw [sc_37, hg k hk]
          obtain ⟨rk, -, r1, r2⟩ := (hw.2.2.2.2.1 k hk).2.2.2.2
          rw [r2, i32le, Int32.toInt_neg, nI_toInt (by omega), bmS (by omega) (by omega), show (99 : Int32).toInt = 99 by decide]
          omega
        · rw [sc_37]
          refine j181 g (mnB P g (tL T)) _ (fun k hk => by rw [mb_b _ (by omega) (by omega)]; simp [hk]) ?_
          apply bs_mn
          · intro i j hi hj hpi hpj hle
            obtain ⟨si, i1, i2⟩ := hst i hi hpi
            obtain ⟨sj, j1, j2⟩ := hst j hj hpj
            obtain ⟨di, ri, gi, -, -, e5, e6, e9, e1, -, e2, -⟩ := wt_num (wgh := wgh) hw hi i1 i2
            obtain ⟨dj, rj, gj, -, -, e7, e8, e10, e3, -, e4, -⟩ := wt_num (wgh := wgh) hw hj j1 j2
            rw [i32le, e2 q2 q3, e4 q2 q3] at hle
            rw [hg i hi, hg j hj, e5, e7, i32le, Int32.toInt_neg, Int32.toInt_neg, nI_toInt (by omega), nI_toInt (by omega), bmS (by omega) (by omega), bmS (by omega) (by omega)]
            omega
          · intro i j hi hj hpi hpj heq
            obtain ⟨si, i1, i2⟩ := hst i hi hpi
            obtain ⟨sj, j1, j2⟩ := hst j hj hpj
            obtain ⟨di, ri, gi, -, -, e5, e6, e9, e1, -, e2, -⟩ := wt_num (wgh := wgh) hw hi i1 i2
            obtain ⟨dj, rj, gj, -, -, e7, e8, e10, e3, -, e4, -⟩ := wt_num (wgh := wgh) hw hj j1 j2
            rw [hg i hi, hg j hj, e5, e7] at heq
            have heq := congrArg Int32.toInt heq
            rw [Int32.toInt_neg, Int32.toInt_neg, nI_toInt (by omega), nI_toInt (by omega), bmS (by omega) (by omega), bmS (by omega) (by omega)] at heq
            rw [decide_eq_false q1] at e1 e3
            rw [i32le, i32le, e2 q2 q3, e4 q2 q3, e1, e3]
            omega
      · intro fu k g hk hg next
        unfold wL_X9_weigh_143
        rw [show (mk_sc μ f0 g).2 16 = nI (tL T) from hn, nI_1]
        refine ⟨fun q => absurd q (nI_ge hk (by omega)), fun _ => ⟨vp_in' (by omega) (by decide), vp_in' (by omega) (by decide), ?_⟩⟩
        rintro _ rfl
        rw [mk_st_in _ 37 k _ (by omega), nI_clamp (by omega), sc_r37, sc_37]
        refine next _ (fun j hj => ?_)
        by_cases e : j = k
        · rw [e, up_at]
          exact congrArg Neg.neg (hM.2.2.2.2.2.2.1 k hk).2.2.2.2.2.1
        · rw [up_ne _ _ e]; exact hg j (by omega)
  · have l := lpUp (A := Nat → Int32) (n := tL T) (W := fun fu k g => wL_X9_weigh_31 f (fun σ x4 x5 => (w_X9_leastOf σ x5 (fun r68 => ∃ n76, wL_X9_weigh_76 f (fun σ x4 x5 => (w_X9_leastOf σ x5 (fun r129 => wJ_X9_weigh_134 f (fun r u => (∃ f' g', u = mk_sc μ f' g') ∧ Q r) σ x4 r129))) n76 σ x4 r68 0))) fu (mk_sc μ f0 g) (nI r) wgh x (nI k)) (J := fun k g => ∀ j, j < k → g j = farI T r (ab T j)) ?_ ?_ (tL T) 0 g0 (Nat.zero_add _) (fun j hj => absurd hj (by omega))
    · exact ⟨_, l⟩
    · intro fu g hg
      unfold wL_X9_weigh_31
      rw [show (mk_sc μ f0 g).2 16 = nI (tL T) from hn]
      refine ⟨fun _ => ?_, fun q => absurd (nI_le (Nat.le_refl _) (by omega)) q⟩
      have hfar : ∀ k, k < tL T → P k = true → (g k).toInt = (dN T r : Int) - dN T (ab T k) := fun k hk hp => by
        obtain ⟨h1, h2⟩ := farI_t hw hr (wf_ab hw hk).2 (hP k hk hp).1
        have h3 := (wf_dN hw hr).2
        rw [hg k hk, h1, nI_toInt (by omega)]
        omega
      refine lm_leastOf (μ := mk_sc μ f0 g) hn hL.2 hx (fun k hk hp => ?_) ?_
      · rw [sc_37, i32le, hfar k hk hp, show (99 : Int32).toInt = 99 by decide]
        have := (wf_dN hw hr).2
        omega
      · rw [sc_37]
        have l2 := lpUp (A := Nat → Int32) (n := tL T) (W := fun fu k g2 => wL_X9_weigh_76 f (fun σ x4 x5 => (w_X9_leastOf σ x5 (fun r129 => wJ_X9_weigh_134 f (fun r u => (∃ f' g', u = mk_sc μ f' g') ∧ Q r) σ x4 r129))) fu (mk_sc μ f0 g2) wgh (mb (mnB P g (tL T)) (tL T)) (nI k)) (J := fun k g2 => ∀ j, j < k → ∀ st, stO T u s j = some st → g2 j = nI st) ?_ ?_ (tL T) 0 g (Nat.zero_add _) (fun j hj => absurd hj (by omega))
        · exact ⟨_, l2⟩
        · intro fu g2 hg2
          unfold wL_X9_weigh_76
          rw [show (mk_sc μ f0 g2).2 16 = nI (tL T) from hn]
          refine ⟨fun _ => ?_, fun q => absurd (nI_le (Nat.le_refl _) (by omega)) q⟩
          refine lm_leastOf (μ := mk_sc μ f0 g2) (P := mnB P g (tL T)) hn hL.2 (fun k hk => by rw [mb_b _ (by omega) (by omega)]; simp [hk]) (fun k hk hp => ?_) ?_
          · obtain ⟨st, i1, i2⟩ := hst k hk (mnB_t.mp hp).1
            rw [sc_37, hg2 k hk st i1]
            exact nI_le (b := 99) (by omega) (by decide)
          · rw [sc_37]
            unfold wJ_X9_weigh_134
            refine ⟨fun q3 => ?_, fun q3 => absurd (q2.symm.trans q3) (by decide)⟩
            refine j181 g2 (mnB (mnB P g (tL T)) g2 (tL T)) _ (fun k hk => by rw [mb_b _ (by omega) (by omega)]; simp [hk]) ?_
            rw [bs_mn (w := wt T wgh u s)]
            · apply bs_mn
              · intro i j hi hj hpi hpj hle
                obtain ⟨si, i1, i2⟩ := hst i hi hpi
                obtain ⟨sj, j1, j2⟩ := hst j hj hpj
                obtain ⟨di, ri, gi, e5, e6, -, -, e9, e1, e2, -, -⟩ := wt_num (wgh := wgh) hw hi i1 i2
                obtain ⟨dj, rj, gj, e7, e8, -, -, e10, e3, e4, -, -⟩ := wt_num (wgh := wgh) hw hj j1 j2
                rw [i32le, e2 q2, e4 q2] at hle
                rw [i32le, hfar i hi hpi, hfar j hj hpj]
                omega
              · intro i j hi hj hpi hpj heq
                exact Iff.rfl
            · intro i j hi hj hpi hpj hle
              have pi := (mnB_t.mp hpi).1
              have pj := (mnB_t.mp hpj).1
              have n1 := Int32.le_antisymm ((mnB_t.mp hpi).2 j hj pj) ((mnB_t.mp hpj).2 i hi pi)
              have n2 := congrArg Int32.toInt n1
              rw [hfar i hi pi, hfar j hj pj] at n2
              obtain ⟨si, i1, i2⟩ := hst i hi pi
              obtain ⟨sj, j1, j2⟩ := hst j hj pj
              obtain ⟨di, ri, gi, e5, e6, -, -, e9, e1, e2, -, -⟩ := wt_num (wgh := wgh) hw hi i1 i2
              obtain ⟨dj, rj, gj, e7, e8, -, -, e10, e3, e4, -, -⟩ := wt_num (wgh := wgh) hw hj j1 j2
              rw [i32le, e2 q2, e4 q2] at hle
              rw [hg2 i hi si i1, hg2 j hj sj j1, i32le, nI_toInt (by omega), nI_toInt (by omega)]
              omega
            · intro i j hi hj hpi hpj heq
              have pi := (mnB_t.mp hpi).1
              have pj := (mnB_t.mp hpj).1
              have n1 := Int32.le_antisymm ((mnB_t.mp hpi).2 j hj pj) ((mnB_t.mp hpj).2 i hi pi)
              have n2 := congrArg Int32.toInt n1
              rw [hfar i hi pi, hfar j hj pj] at n2
              obtain ⟨si, i1, i2⟩ := hst i hi pi
              obtain ⟨sj, j1, j2⟩ := hst j hj pj
              obtain ⟨di, ri, gi, e5, e6, -, -, e9, e1, e2, -, -⟩ := wt_num (wgh := wgh) hw hi i1 i2
              obtain ⟨dj, rj, gj, e7, e8, -, -, e10, e3, e4, -, -⟩ := wt_num (wgh := wgh) hw hj j1 j2
              rw [hg2 i hi si i1, hg2 j hj sj j1] at heq
              have n3 := congrArg Int32.toInt heq
              rw [nI_toInt (by omega), nI_toInt (by omega)] at n3
              rw [decide_eq_false q1] at e1 e3
              rw [i32le, i32le, e2 q2, e4 q2, e1, e3]
              omega
        · intro fu k g2 hk hg2 next
          have e := hM.2.2.2.2.2.2.1 k hk
          unfold wL_X9_weigh_76
          rw [show (mk_sc μ f0 g2).2 16 = nI (tL T) from hn, nI_clamp (show k < 2 ^ 31 by omega), show (mk_sc μ f0 g2).1 19 k = T.1 12 k from e.2.1]
          refine ⟨fun q => absurd q (nI_ge hk (by omega)), fun _ => ⟨vp_in' (by omega) (by decide), ?_⟩⟩
          have put : ∀ y : Int32, (∀ st, stO T u s k = some st → y = nI st) → wJ_X9_weigh_119 f (fun σ x4 x5 x6 => wL_X9_weigh_76 f (fun σ x4 x5 => (w_X9_leastOf σ x5 (fun r129 => wJ_X9_weigh_134 f (fun r u => (∃ f' g', u = mk_sc μ f' g') ∧ Q r) σ x4 r129))) fu σ x4 x5 x6) (mk_sc μ f0 g2) wgh (mb (mnB P g (tL T)) (tL T)) (nI k) (nI k) y := fun y hy => by
            unfold wJ_X9_weigh_119
            refine ⟨vp_in' (by omega) (by decide), ?_⟩
            rintro _ rfl
            rw [mk_st_in _ 37 k _ (by omega), sc_r37, sc_37, nI_1]
            refine next _ (fun j hj st hs => ?_)
            by_cases e : j = k
            · rw [e, up_at]; rw [e] at hs; exact hy st hs
            · rw [up_ne _ _ e]; exact hg2 j (by omega) st hs
          rcases (hw.2.2.2.2.1 k hk).2.2.1 with ⟨w, w1, w2⟩ | ⟨r', r1, r2⟩
          · have h12 : T.1 12 k < 12 := by rw [w2]; exact nI_lt (b := 12) (by omega) (by decide)
            refine ⟨fun q => absurd h12 (Int32.not_lt.mpr q), fun _ => put 0 (fun st hs => ?_)⟩
            unfold stO at hs
            rw [if_pos h12] at hs
            by_cases c : T.1 12 k = nI u
            · rw [if_pos c] at hs; cases hs; rfl
            · rw [if_neg c] at hs; cases hs
          · have h12 : ¬ T.1 12 k < 12 := by rw [r2]; exact nI_nlt (b := 12) (by omega) (by omega)
            refine ⟨fun _ => ⟨vp_in' (by omega) (by decide), ?_⟩, fun q => absurd (Int32.not_lt.mp h12) q⟩
            rw [r2, show nI (12 + r') - 12 = nI r' from by rw [show (12 : Int32) = nI 12 from rfl, nI_sub' (by omega), show 12 + r' - 12 = r' by omega], nI_clamp (by omega)]
            refine ⟨vp_in' (by omega) (by decide), put _ (fun st hs => ?_)⟩
            unfold stO at hs
            rw [if_neg h12, r2, show nt (nI (12 + r')) = 12 + r' from nI_clamp (by omega), show 12 + r' - 12 = r' by omega] at hs
            rcases isN_r hN (show r' < 12 by omega) with ⟨h1, h2⟩ | ⟨k', h1, h2, h3⟩
            · rw [h1] at hs; cases hs
            · rw [h1] at hs; cases hs; exact h2
    · intro fu k g hk hg next
      have e := hM.2.2.2.2.2.2.1 k hk
      unfold wL_X9_weigh_31
      rw [show (mk_sc μ f0 g).2 16 = nI (tL T) from hn, nI_1, nI_clamp (show k < 2 ^ 31 by omega), show (mk_sc μ f0 g).1 21 k = T.1 14 k from e.2.2.2.1, (wf_ab hw hk).1]
      refine ⟨fun q => absurd q (nI_ge hk (by omega)), fun _ => ⟨vp_in' (by omega) (by decide), ?_⟩⟩
      refine lm_farNow (jM_sc hM f0 g) hw hr (wf_ab hw hk).2 ⟨vp_in' (by omega) (by decide), ?_⟩
      rintro _ rfl
      rw [mk_st_in _ 37 k _ (by omega), sc_r37, sc_37]
      refine next _ (fun j hj => ?_)
      by_cases e : j = k
      · rw [e, up_at]
      · rw [up_ne _ _ e]; exact hg j (by omega)
  · refine lm_firstOf (jM_sc hM f0 g0) hw hx true ⟨⟨f0, g0, rfl⟩, ?_⟩
    rw [show bs P (w01 T true) (tL T) = bs P (wt T wgh u s) (tL T) from bs_isB_eq (fun i j hi hj hpi hpj => ?_)]
    · exact hQ
    · obtain ⟨si, i1, i2⟩ := hst i hi hpi
      obtain ⟨sj, j1, j2⟩ := hst j hj hpj
      obtain ⟨di, ri, gi, -, -, -, -, -, e1, -, -, e2⟩ := wt_num (wgh := wgh) hw hi i1 i2
      obtain ⟨dj, rj, gj, -, -, -, -, -, e3, -, -, e4⟩ := wt_num (wgh := wgh) hw hj j1 j2
      rw [decide_eq_true q1] at e1 e3
      have n2 : ¬ wgh = 2 := by rw [q1]; decide
      have n3 : ¬ wgh = 3 := by rw [q1]; decide
      rw [i32le, i32le, e1, e3, e2 n2 n3, e4 n2 n3]
end WE
