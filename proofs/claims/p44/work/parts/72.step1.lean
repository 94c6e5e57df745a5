/-! ===== the step's loops: nobody split; each decision told by its reason ===== -/
/-- told the same, counted the same, the law's Gate the same -/
def sT (σ σ1 : nk_C) : Prop := nT (told σ.1) (σ.1.1 38) σ1.1 ∧ σ1.2 = σ.2
theorem sT_rf (σ : nk_C) : sT σ σ := ⟨⟨rfl, fun _ => rfl⟩, rfl⟩
theorem near_none {h : Nat → Int32} {nR : Nat} {s : Int32} {r : Nat} {A B : Prop} (h0 : rNear h nR s r = none → A) (h1 : (rNear h nR s r).isSome = true → B) : (rNearI (-1) (rNear h nR s r) < 0 → A) ∧ (¬ rNearI (-1) (rNear h nR s r) < 0 → B) := by
  cases hk : rNear h nR s r with
  | none => exact ⟨fun _ => h0 hk, fun q => absurd (by decide) q⟩
  | some k =>
    have := rNear_lt hk
    refine ⟨fun q => absurd q (nI_pos (n := k + 1) (by omega)), fun _ => h1 (by rw [hk]; rfl)⟩
section ST
variable {nU nR nS jj : Nat} {ρ : lk_R} {σ : nk_C}
theorem ln_372 (hN : bN nU nR nS) (h : bK nU nR nS jj ρ σ) {σ1 : nk_C} (hs : sT σ σ1) {k : Nat} (hk : k < nU) {kont : nk_C → lk_R → Int32 → Int32 → Int32 → Int32 → Int32 → Int64 → Int32 → Int32 → Int32 → Prop} {x1 x4 x5 x6 x7 x12 x13 : Int32} {x10 : Int64} (hk' : kont σ1 ρ x1 x4 x5 x6 x7 x10 x12 x13 (nI k)) : ∃ n372, wL_L_law_372 kont n372 σ1 ρ x1 x4 x5 x6 x7 x10 x12 x13 (nI k) 0 := by
  obtain ⟨hG, -, -⟩ := h
  obtain ⟨e1, e2, e3⟩ := gR_n hG hN
  have hsb := gR_sb hG hN
  obtain ⟨⟨n1, n2⟩, ⟨n3, n4⟩, ⟨n5, n6⟩⟩ := hN
  obtain ⟨hI, hsU, hsR, hsT, hS, hH, hA⟩ := hG
  obtain ⟨hT, hs2⟩ := hs
  have s9 : σ1.2.2 9 = nI nR := by rw [hs2]; exact hsR.2
  have nosplit := hI.2.1.2.1 k (by omega)
  have hbd : bd (tR (told σ.1)) ((told σ.1).1 2 k) := fun i hi hb => hI.1.2.1.1 k (by omega) i hi hb
  have l := lpUp (A := Unit) (n := nR) (W := fun f a _ => wL_L_law_372 kont f σ1 ρ x1 x4 x5 x6 x7 x10 x12 x13 (nI k) (nI a)) (J := fun _ _ => True) ?_ ?_ nR 0 () (Nat.zero_add _) trivial
  · exact ⟨_, l⟩
  · intro f _ _
    unfold wL_L_law_372
    rw [s9]
    exact ⟨fun _ => hk', fun q => absurd (nI_le (Nat.le_refl _) (by omega)) q⟩
  · intro f a _ ha _ next
    unfold wL_L_law_372
    rw [s9]
    refine ⟨fun q => absurd q (nI_ge ha (by omega)), fun _ => ?_⟩
    have l2 := lpUp (A := Unit) (n := a) (W := fun f2 b _ => wL_L_law_384 (fun σ ρ x1 x4 x5 x6 x7 x10 x12 x13 x14 x15 => (wL_L_law_372 kont f σ ρ x1 x4 x5 x6 x7 x10 x12 x13 x14 (x15 + 1))) f2 σ1 ρ x1 x4 x5 x6 x7 x10 x12 x13 (nI k) (nI a) (nI b)) (J := fun _ _ => True) ?_ ?_ a 0 () (Nat.zero_add _) trivial
    · exact ⟨_, l2⟩
    · intro f2 _ _
      unfold wL_L_law_384
      refine ⟨fun _ => ?_, fun q => absurd (nI_le (Nat.le_refl _) (by omega)) q⟩
      show wL_L_law_372 kont f σ1 ρ x1 x4 x5 x6 x7 x10 x12 x13 (nI k) (nI a + 1)
      rw [nI_1]
      exact next () trivial
    · intro f2 b _ hb _ next2
      unfold wL_L_law_384
      rw [nI_1 b]
      refine ⟨fun q => absurd q (nI_ge hb (by omega)), fun _ => ⟨vp_in' (by omega) (by decide), vp_in' (by omega) (by decide), ?_⟩⟩
      rw [nI_clamp (show a < 2 ^ 31 by omega), nI_clamp (show b < 2 ^ 31 by omega), hs2, hA a b ha (by omega)]
      refine b2i_go _ (fun q => next2 () trivial) (fun q => ?_)
      refine la_near hT hI.1 (by omega) (by omega) ?_
      refine near_none (fun _ => next2 () trivial) (fun qa => ?_)
      refine la_near hT hI.1 (by omega) (by omega) ?_
      refine near_none (fun _ => next2 () trivial) (fun qb => ?_)
      rw [← hd_near hI.1 hbd (by omega)] at qa qb
      have : rSplit ((told σ.1).1 5) (tR (told σ.1)) (hd (told σ.1) ((told σ.1).1 2 k)) = true := rSplit_t.mpr ⟨a, by omega, qa, b, by omega, q, qb⟩
      rw [show rSplit ((told σ.1).1 5) (tR (told σ.1)) (hd (told σ.1) ((told σ.1).1 2 k)) = false from nosplit] at this
      cases this
theorem ln_556 (hN : bN nU nR nS) (h : bK nU nR nS jj ρ σ) (hj : jj ≤ 20) {σ1 : nk_C} (hs : sT σ σ1) {k i r : Nat} (hk : k < nU) (hi : i < 5) (hr : r < nS) {kont : nk_C → lk_R → Int32 → Int32 → Int32 → Int32 → Int32 → Int64 → Int32 → Int32 → Int32 → Int32 → Int32 → Prop} {x1 x4 x5 x6 x7 x12 x13 : Int32} {x10 : Int64} (hnext : ∀ σ2, sT σ σ2 → kont σ2 ρ x1 x4 x5 x6 x7 x10 x12 x13 (nI k) (nI i) (nI r + 1)) (t : Int32) : wJ_L_law_556 kont σ1 ρ x1 x4 x5 x6 x7 x10 x12 x13 (nI k) (nI i) (nI r) (dc (told σ.1) k i r) (why no0 (told σ.1) ((told σ.1).2 6) ((told σ.1).1 2) k i r) t t := by
  obtain ⟨hG, hLL, hGG⟩ := h
  obtain ⟨e1, e2, e3⟩ := gR_n hG hN
  obtain ⟨⟨n1, n2⟩, ⟨n3, n4⟩, ⟨n5, n6⟩⟩ := hN
  obtain ⟨hI, hsU, hsR, hsT, hS, hH, hA⟩ := hG
  have hw := hI.1
  have hl := hLL.1
  have hg := hGG.1
  have j602 : ∀ (d : Int32) (kk : Nat), kk < tL (told σ.1) → mat no0 (told σ.1) k ((told σ.1).1 2 k) i r kk = true → ((d = 1 ∧ (told σ.1).1 11 kk = 1) ∨ (d = 2 ∧ ¬ (told σ.1).1 11 kk = 1)) → wJ_L_law_602 (fun σ ρ x1 x4 x5 x6 x7 x10 x12 x13 x14 x15 x16 x17 x18 => (wJ_L_law_649 kont σ ρ x1 x4 x5 x6 x7 x10 x12 x13 x14 x15 x16 x17 x18)) σ1 ρ x1 x4 x5 x6 x7 x10 x12 x13 (nI k) (nI i) (nI r) d (nI kk) := fun d kk h1 h2 h3 => by
    unfold wJ_L_law_602
    refine la_matches hs.1 hw h1 (by omega) hi (by omega) (fun s611 h611 => ?_)
    rw [h2, b2i_t]
    refine pm_go1 ⟨vp_in' (by omega) (by decide), ?_⟩
    obtain ⟨fe, f1, f2⟩ := hLL.2.2 kk h1
    have f2 : fe 0 = (told σ.1).1 11 kk := f2
    rw [nI_clamp (by omega), c0]
    refine ⟨fe, f1, ?_⟩
    rw [f2]
    have fin : ∀ t0 t1, t0 = t1 → ¬ d = 3 → wJ_L_law_646 (fun σ ρ x1 x4 x5 x6 x7 x10 x12 x13 x14 x15 x16 x17 x18 => (wJ_L_law_649 kont σ ρ x1 x4 x5 x6 x7 x10 x12 x13 x14 x15 x16 x17 x18)) (s611, σ1.2) ρ x1 x4 x5 x6 x7 x10 x12 x13 (nI k) (nI i) (nI r) d (nI kk) t0 t1 := fun t0 t1 e d3 => by
      unfold wJ_L_law_646 wJ_L_law_649
      exact ⟨fun q => absurd e q, fun _ => ⟨fun _ => hnext (s611, σ1.2) ⟨h611, hs.2⟩, fun q => absurd q d3⟩⟩
    unfold wJ_L_law_635
    rcases h3 with ⟨d1, c1⟩ | ⟨d2, c1⟩
    · refine ⟨fun q => absurd c1 q, fun _ => ⟨fun q => absurd d1 q, fun _ => fin 1 1 rfl (by rw [d1]; decide)⟩⟩
    · refine ⟨fun _ => ⟨fun _ => fin 0 0 rfl (by rw [d2]; decide), fun q => absurd q (by rw [d2]; decide)⟩, fun q => absurd q c1⟩
  unfold wJ_L_law_556
  refine ⟨fun q => absurd rfl q, fun _ => ?_⟩
  rcases why_cs (T := told σ.1) ((told σ.1).2 6) ((told σ.1).1 2) k i r with ⟨hd', hy⟩ | ⟨kk, k1, k2, hy, hd'⟩ | ⟨g, g1, g2, g3, hy, hd'⟩
  · -- no reason
    rw [hy]
    refine ⟨fun _ => ?_, fun q => absurd (by decide) q⟩
    have hd' : dc (told σ.1) k i r = 4 ∨ dc (told σ.1) k i r = 5 ∨ dc (told σ.1) k i r = 0 := hd'
    have j585 : ∀ d : Int32, ¬ d = 1 → ¬ d = 2 → ¬ d = 3 → wJ_L_law_585 kont σ1 ρ x1 x4 x5 x6 x7 x10 x12 x13 (nI k) (nI i) (nI r) d (-1) 0 0 := fun d d1 d2 d3 => by
      unfold wJ_L_law_585 wJ_L_law_649
      refine ⟨fun _ => ⟨fun q => absurd q d1, fun _ => ⟨fun _ => ⟨fun _ => hnext σ1 hs, fun q => absurd q d3⟩, fun q => absurd q d2⟩⟩, fun q => absurd rfl q⟩
    unfold wJ_L_law_569 wJ_L_law_584
    rcases hd' with hd' | hd' | hd' <;> rw [hd']
    · exact ⟨fun q => absurd q (by decide), fun _ => ⟨fun _ => j585 4 (by decide) (by decide) (by decide), fun q => absurd (by decide) q⟩⟩
    · exact ⟨fun q => absurd q (by decide), fun _ => ⟨fun _ => j585 5 (by decide) (by decide) (by decide), fun q => absurd (by decide) q⟩⟩
    · exact ⟨fun _ => j585 0 (by decide) (by decide) (by decide), fun q => absurd (by decide) q⟩
  · -- a rule
    rw [hy]
    refine ⟨fun q => absurd q (nI_pos (by omega)), fun _ => ?_⟩
    have hd' : (dc (told σ.1) k i r = 1 ∧ (told σ.1).1 11 kk = 1) ∨ (dc (told σ.1) k i r = 2 ∧ ¬ (told σ.1).1 11 kk = 1) := hd'
    unfold wJ_L_law_569
    rcases hd' with ⟨hd', ha⟩ | ⟨hd', ha⟩ <;> rw [hd']
    · refine ⟨fun q => absurd q (by decide), fun _ => ⟨fun q => absurd q (by decide), fun _ => ?_⟩⟩
      unfold wJ_L_law_585
      exact ⟨fun _ => ⟨fun _ => j602 1 kk k1 k2 (Or.inl ⟨rfl, ha⟩), fun q => absurd rfl q⟩, fun q => absurd rfl q⟩
    · refine ⟨fun q => absurd q (by decide), fun _ => ⟨fun q => absurd q (by decide), fun _ => ?_⟩⟩
      unfold wJ_L_law_585
      exact ⟨fun _ => ⟨fun q => absurd q (by decide), fun _ => ⟨fun q => absurd rfl q, fun _ => j602 2 kk k1 k2 (Or.inr ⟨rfl, ha⟩)⟩⟩, fun q => absurd rfl q⟩
  · -- a grant
    rw [hy]
    refine ⟨fun q => absurd q (nI_pos (by omega)), fun _ => ?_⟩
    have hd' : dc (told σ.1) k i r = 3 := hd'
    rw [hd']
    unfold wJ_L_law_569
    refine ⟨fun q => absurd q (by decide), fun _ => ⟨fun q => absurd q (by decide), fun _ => ?_⟩⟩
    unfold wJ_L_law_585 wJ_L_law_649
    refine ⟨fun _ => ⟨fun q => absurd q (by decide), fun _ => ⟨fun _ => ⟨fun q => absurd rfl q, fun _ => ?_⟩, fun q => absurd q (by decide)⟩⟩, fun q => absurd rfl q⟩
    refine la_isGood hs.1 hw g1 (fun s658 h658 => ?_)
    rw [g2, b2i_t]
    refine pm_go1 ⟨vp_in' (by omega) (by decide), ?_⟩
    obtain ⟨fe, f1, f2, f3⟩ := hGG.2.2 g g1
    unfold giv at g3
    rw [Bool.and_eq_true, Bool.and_eq_true, decide_eq_true_eq, decide_eq_true_eq] at g3
    obtain ⟨⟨q1, q2⟩, q3⟩ := g3
    have hgo := wf_gr hw g1
    rw [nI_clamp (by omega), c1, c3]
    refine ⟨fe, f1, fun q => absurd (f2.trans q1) q, fun _ => ⟨vp_in' (by omega) (by decide), fe, f1, ?_⟩⟩
    rw [f3, show σ.1.1 23 g = nI (go (told σ.1) g) from hgo.2.2.2.1]
    refine la_far h658 hw (by omega) hgo.2.2.2.2 ?_
    rw [(farI_t hw (by omega) hgo.2.2.2.2 q3).1]
    have := wf_dN hw (k := r) (by omega)
    exact ⟨fun _ => hnext (s658, σ1.2) ⟨h658, hs.2⟩, fun q => absurd (nI_pos' (by omega)) q⟩
theorem ln_465 (hN : bN nU nR nS) (h : bK nU nR nS jj ρ σ) (hj : jj ≤ 20) {σ1 : nk_C} (hs : sT σ σ1) {k i : Nat} (hk : k < nU) (hi : i < 5) {kont : nk_C → lk_R → Int32 → Int32 → Int32 → Int32 → Int32 → Int64 → Int32 → Int32 → Int32 → Int32 → Prop} {x1 x4 x5 x6 x7 x13 : Int32} {x10 : Int64} {c : Nat} (hc : c = (k * 5 + i) * tT (told σ.1)) (hk' : ∀ σ2, sT σ σ2 → kont σ2 ρ x1 x4 x5 x6 x7 x10 (nI (cn (opN (told σ.1) ((told σ.1).2 6)) (c + nS))) x13 (nI k) (nI i)) : ∃ n465, wL_L_law_465 kont n465 σ1 ρ x1 x4 x5 x6 x7 x10 (nI (cn (opN (told σ.1) ((told σ.1).2 6)) c)) x13 (nI k) (nI i) 0 := by
  have h0 := h
  have hN0 := hN
  obtain ⟨hG, -, -⟩ := h
  obtain ⟨e1, e2, e3⟩ := gR_n hG hN
  obtain ⟨⟨n1, n2⟩, ⟨n3, n4⟩, ⟨n5, n6⟩⟩ := hN
  obtain ⟨hI, hsU, hsR, hsT, hS, hH, hA⟩ := hG
  have hw := hI.1
  have l := lpUp (A := nk_C) (n := nS) (W := fun f r z => wL_L_law_465 kont f z ρ x1 x4 x5 x6 x7 x10 (nI (cn (opN (told σ.1) ((told σ.1).2 6)) (c + r))) x13 (nI k) (nI i) (nI r)) (J := fun _ z => sT σ z) ?_ ?_ nS 0 σ1 (Nat.zero_add _) hs
  · exact ⟨_, l⟩
  · intro f z hz
    unfold wL_L_law_465
    rw [show z.2.2 12 = nI nS by rw [hz.2]; exact hsT.2]
    exact ⟨fun _ => hk' z hz, fun q => absurd (nI_le (Nat.le_refl _) (by omega)) q⟩
  · intro f r z hr hz next
    unfold wL_L_law_465
    rw [show z.2.2 12 = nI nS by rw [hz.2]; exact hsT.2]
    refine ⟨fun q => absurd q (nI_ge hr (by omega)), fun _ => ?_⟩
    refine la_decide hz.1 hw (by omega) hi (by omega) (fun s481 h481 => ?_)
    refine la_why h481 hw (by omega) hi (by omega) (fun s493 h493 => ?_)
    have eop : opN (told σ.1) ((told σ.1).2 6) (c + r) = alw (dc (told σ.1) k i r) := by
      unfold opN
      rw [hc, fl_at _ hi (by omega)]
    have j515 : ∀ t, t = b2i (alw (dc (told σ.1) k i r)) → wJ_L_law_515 (fun σ ρ x1 x4 x5 x6 x7 x10 x12 x13 x14 x15 x16 => wL_L_law_465 kont f σ ρ x1 x4 x5 x6 x7 x10 x12 x13 x14 x15 x16) (s493, z.2) ρ x1 x4 x5 x6 x7 x10 (nI (cn (opN (told σ.1) ((told σ.1).2 6)) (c + r))) x13 (nI k) (nI i) (nI r) (dc (told σ.1) k i r) (why no0 (told σ.1) ((told σ.1).2 6) ((told σ.1).1 2) k i r) t := by
      rintro t rfl
      have j529 : ∀ t1, nI (cn (opN (told σ.1) ((told σ.1).2 6)) (c + r)) + t1 = nI (cn (opN (told σ.1) ((told σ.1).2 6)) (c + (r + 1))) → wJ_L_law_529 (fun σ ρ x1 x4 x5 x6 x7 x10 x12 x13 x14 x15 x16 => wL_L_law_465 kont f σ ρ x1 x4 x5 x6 x7 x10 x12 x13 x14 x15 x16) (s493, z.2) ρ x1 x4 x5 x6 x7 x10 x13 (nI k) (nI i) (nI r) (dc (told σ.1) k i r) (why no0 (told σ.1) ((told σ.1).2 6) ((told σ.1).1 2) k i r) (b2i (alw (dc (told σ.1) k i r))) (nI (cn (opN (told σ.1) ((told σ.1).2 6)) (c + r))) t1 := fun t1 e => by
        unfold wJ_L_law_529
        refine la_who h493 hw hi (by omega) (fun s539 h539 => ?_)
        rw [b_get _ (show k < 32 by omega), mb_b _ (by omega) (by omega), decide_eq_true (show k < tU (told σ.1) by omega), Bool.true_and, e]
        have n2' : ∀ σ2, sT σ σ2 → wL_L_law_465 kont f σ2 ρ x1 x4 x5 x6 x7 x10 (nI (cn (opN (told σ.1) ((told σ.1).2 6)) (c + (r + 1)))) x13 (nI k) (nI i) (nI r + 1) := fun σ2 h2 => by
          rw [nI_1]
          exact next σ2 h2
        have hs539 : sT σ (s539, z.2) := ⟨h539, hz.2⟩
        cases q : alw (dc (told σ.1) k i r)
        · exact ⟨fun _ => ln_556 hN0 h0 hj hs539 hk hi hr n2' 0, fun q => absurd q (by decide)⟩
        · exact ⟨fun q => absurd rfl q, fun _ => ln_556 hN0 h0 hj hs539 hk hi hr n2' 1⟩
      unfold wJ_L_law_515
      refine b2i_go _ (fun q => j529 0 ?_) (fun q => j529 1 ?_)
      · rw [show c + (r + 1) = c + r + 1 from rfl, cn_f (eop.trans q)]; exact Int32.add_zero _
      · rw [show c + (r + 1) = c + r + 1 from rfl, cn_t (eop.trans q), nI_1]
    unfold wJ_L_law_510
    refine ⟨fun q => j515 1 (by rw [q]; rfl), fun q => ⟨fun q2 => j515 0 ?_, fun q2 => j515 1 (by rw [q2]; rfl)⟩⟩
    have q : ¬ dc (told σ.1) k i r = 1 := q
    have q2 : ¬ dc (told σ.1) k i r = 3 := q2
    unfold alw
    rw [decide_eq_false q, decide_eq_false q2]; rfl
theorem ln_443 (hN : bN nU nR nS) (h : bK nU nR nS jj ρ σ) (hj : jj ≤ 20) {σ1 : nk_C} (hs : sT σ σ1) {k : Nat} (hk : k < nU) {kont : nk_C → lk_R → Int32 → Int32 → Int32 → Int32 → Int32 → Int64 → Int32 → Int32 → Int32 → Prop} {x1 x4 x5 x6 x7 : Int32} {x10 : Int64} (hk' : ∀ σ2, sT σ σ2 → kont σ2 ρ x1 x4 x5 x6 x7 x10 (nI (cn (opN (told σ.1) ((told σ.1).2 6)) (((k + 1) * 5 + 0) * tT (told σ.1)))) (nI (cn (opN (told σ.1) ((told σ.1).2 6)) (((k + 1) * 5 + 0) * tT (told σ.1)))) (nI k)) : ∃ n443, wL_L_law_443 kont n443 σ1 ρ x1 x4 x5 x6 x7 x10 (nI (cn (opN (told σ.1) ((told σ.1).2 6)) ((k * 5 + 0) * tT (told σ.1)))) (nI (cn (opN (told σ.1) ((told σ.1).2 6)) ((k * 5 + 0) * tT (told σ.1)))) (nI k) 0 := by
  have h0 := h
  have hN0 := hN
  obtain ⟨hG, -, -⟩ := h
  obtain ⟨e1, e2, e3⟩ := gR_n hG hN
  obtain ⟨⟨n1, n2⟩, ⟨n3, n4⟩, ⟨n5, n6⟩⟩ := hN
  obtain ⟨hI, hsU, hsR, hsT, hS, hH, hA⟩ := hG
  have hw := hI.1
  have l := lpUp (A := nk_C) (n := 5) (W := fun f i z => wL_L_law_443 kont f z ρ x1 x4 x5 x6 x7 x10 (nI (cn (opN (told σ.1) ((told σ.1).2 6)) ((k * 5 + i) * tT (told σ.1)))) (nI (cn (opN (told σ.1) ((told σ.1).2 6)) ((k * 5 + i) * tT (told σ.1)))) (nI k) (nI i)) (J := fun _ z => sT σ z) ?_ ?_ 5 0 σ1 (Nat.zero_add _) hs
  · exact ⟨_, l⟩
  · intro f z hz
    unfold wL_L_law_443
    refine ⟨fun _ => ?_, fun q => absurd (by decide) q⟩
    rw [fl_usr]
    exact hk' z hz
  · intro f i z hi hz next
    unfold wL_L_law_443
    refine ⟨fun q => absurd q (nI_ge (b := 5) hi (by decide)), fun _ => ?_⟩
    refine la_reach hz.1 hw (by omega) hi (fun s456 h456 => ?_)
    have ex : nI (cn (opN (told σ.1) ((told σ.1).2 6)) ((k * 5 + i) * tT (told σ.1))) + nI (cn (fun r => alw (dc (told σ.1) k i r)) (tT (told σ.1))) = nI (cn (opN (told σ.1) ((told σ.1).2 6)) ((k * 5 + (i + 1)) * tT (told σ.1))) := by
      rw [nI_add, ← fl_row, cn_split]
      congr 2
      refine cn_congr (fun r hr => ?_)
      show _ = alw (fl (told σ.1) (dec no0 (told σ.1) ((told σ.1).2 6) ((told σ.1).1 2)) ((k * 5 + i) * tT (told σ.1) + r))
      rw [fl_at _ hi hr]
    rw [ex]
    refine ln_465 hN0 h0 hj (σ1 := (s456, z.2)) ⟨h456, hz.2⟩ hk hi rfl (fun σ2 h2 => ?_)
    show wL_L_law_443 kont f σ2 ρ x1 x4 x5 x6 x7 x10 (nI (cn (opN (told σ.1) ((told σ.1).2 6)) ((k * 5 + i) * tT (told σ.1) + nS))) _ (nI k) (nI i + 1)
    rw [nI_1, show (k * 5 + i) * tT (told σ.1) + nS = (k * 5 + (i + 1)) * tT (told σ.1) by rw [← fl_row, e3]]
    exact next σ2 h2
theorem ln_360 (hN : bN nU nR nS) (h : bK nU nR nS jj ρ σ) (hj : jj ≤ 20) {σ1 : nk_C} (hs : sT σ σ1) {kont : nk_C → lk_R → Int32 → Int32 → Int32 → Int32 → Int32 → Int64 → Int32 → Int32 → Prop} {x1 x4 x5 x6 x7 : Int32} {x10 : Int64} (hk' : ∀ σ2, sT σ σ2 → kont σ2 ρ x1 x4 x5 x6 x7 x10 (nI (cn (opN (told σ.1) ((told σ.1).2 6)) (nU * 5 * nS))) (nI (cn (opN (told σ.1) ((told σ.1).2 6)) (nU * 5 * nS)))) : ∃ n360, wL_L_law_360 kont n360 σ1 ρ x1 x4 x5 x6 x7 x10 0 0 0 := by
  have h0 := h
  have hN0 := hN
  obtain ⟨hG, -, -⟩ := h
  obtain ⟨e1, e2, e3⟩ := gR_n hG hN
  obtain ⟨⟨n1, n2⟩, ⟨n3, n4⟩, ⟨n5, n6⟩⟩ := hN
  obtain ⟨hI, hsU, hsR, hsT, hS, hH, hA⟩ := hG
  have l := lpUp (A := nk_C) (n := nU) (W := fun f k z => wL_L_law_360 kont f z ρ x1 x4 x5 x6 x7 x10 (nI (cn (opN (told σ.1) ((told σ.1).2 6)) ((k * 5 + 0) * tT (told σ.1)))) (nI (cn (opN (told σ.1) ((told σ.1).2 6)) ((k * 5 + 0) * tT (told σ.1)))) (nI k)) (J := fun _ z => sT σ z) ?_ ?_ nU 0 σ1 (Nat.zero_add _) hs
  · rw [show (0 * 5 + 0) * tT (told σ.1) = 0 from Nat.zero_mul _] at l
    exact ⟨_, l⟩
  · intro f z hz
    unfold wL_L_law_360
    rw [show z.2.2 5 = nI nU by rw [hz.2]; exact hsU.2]
    refine ⟨fun _ => ?_, fun q => absurd (nI_le (Nat.le_refl _) (by omega)) q⟩
    rw [Nat.add_zero, e3]
    exact hk' z hz
  · intro f k z hk hz next
    unfold wL_L_law_360
    rw [show z.2.2 5 = nI nU by rw [hz.2]; exact hsU.2]
    refine ⟨fun q => absurd q (nI_ge hk (by omega)), fun _ => ?_⟩
    refine ln_372 hN0 h0 hz hk ?_
    refine ln_443 hN0 h0 hj hz hk (fun σ2 h2 => ?_)
    rw [nI_1]
    exact next σ2 h2
end ST
