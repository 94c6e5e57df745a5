/-! ===== layer B: the relation, and what keeps it ===== -/
/-- what else holds of what is told: nobody has two that are apart, what isn't there is empty -/
def jX (T : gk_C) : Prop :=
  (∀ u, tU T ≤ u → u < 12 → T.1 2 u = 0) ∧
  (∀ u, u < tU T → rSplit (T.1 5) (tR T) (rH (T.1 4) (tR T) (T.1 2 u) 12) = false) ∧
  (∀ k, k < 12 → bd (tR T) (T.1 4 k)) ∧
  (∀ k, k < 24 → T.1 9 k = -1 ∨ (jN (T.1 9 k) 0 3 ∧ jN (T.1 10 k) 0 3))
def jI (σ μ : gk_C) : Prop := wf (told σ) ∧ jM (told σ) μ ∧ jX (told σ) ∧ μ.2 35 = -1 ∧ ∀ k, k < 6 → σ.1 38 k = μ.1 33 k
theorem jI_0 (σ μ : gk_C) (v : Int32) (h : jI σ μ) : jI σ (gk_s μ 0 v) := h
theorem jI_sV {v : Nat} {σ σ1 μ : gk_C} (h : jI σ μ) (hv : v < 2) (hS : sV v σ σ1) : jI σ1 μ := by
  obtain ⟨h1, h2, h3, h4, h5⟩ := h
  have e : told σ1 = told σ := sV_told hS rfl
  refine ⟨by rw [e]; exact h1, by rw [e]; exact h2, by rw [e]; exact h3, h4, fun k hk => ?_⟩
  rw [hS.1 38 (by omega)]
  exact h5 k hk
theorem jI_U (σ μ : gk_C) (h : jI σ μ) : jU σ μ := by
  obtain ⟨h1, h2⟩ := wf_U h.1
  exact ⟨tU (told σ), h2, h1, h.2.1.1.1.trans h1, fun k hk => ⟨(h.2.1.2.1 k hk).1.symm, (h.2.1.2.1 k hk).2.1.symm, (h.2.1.2.1 k hk).2.2.symm⟩, fun k hk => (h.2.1.2.2.1 k hk).symm⟩
theorem jI_S (σ μ : gk_C) (h : jI σ μ) : jS σ μ := ⟨h.2.1.1.2.2.2.2.2.2.1.symm, ⟨trivial, trivial⟩, h.2.1.1.2.2.2.2.2.2.2.symm, trivial, h.2.2.2.2, h.2.2.2.1⟩
theorem jI_T (σ μ : gk_C) (h : jI σ μ) : jT σ μ := by
  obtain ⟨h1, h2, h3⟩ := wf_T h.1
  exact ⟨tT (told σ), h2, h3, h1, h.2.1.1.2.2.2.1.trans h1, fun k hk => ⟨(h.2.1.2.2.2.2.1 k hk).1.symm, (h.2.1.2.2.2.2.1 k hk).2.1.symm, (h.2.1.2.2.2.2.1 k hk).2.2.symm⟩⟩
theorem jI_L (σ μ : gk_C) (h : jI σ μ) : jL σ μ := by
  obtain ⟨h1, h2⟩ := wf_L h.1
  refine ⟨tL (told σ), h2, h1, h.2.1.1.2.2.2.2.1.trans h1, fun k hk => ?_⟩
  obtain ⟨a1, a2, a3, a4, a5, a6, a7, a8, a9⟩ := h.2.1.2.2.2.2.2.2.1 k hk
  exact ⟨a1.symm, a2.symm, a3.symm, a4.symm, a5.symm, a6.symm, a7.symm, a8.symm, a9.symm⟩
theorem jI_G (σ μ : gk_C) (h : jI σ μ) : jG σ μ := by
  obtain ⟨h1, h2⟩ := wf_G h.1
  refine ⟨tG (told σ), h2, h1, h.2.1.1.2.2.2.2.2.1.trans h1, fun k hk => ?_⟩
  obtain ⟨a1, a2, a3, a4, a5, a6⟩ := h.2.1.2.2.2.2.2.2.2.1 k hk
  exact ⟨a1.symm, a2.symm, a3.symm, a4.symm, a5.symm, a6.symm⟩
theorem jI_R (σ μ : gk_C) (h : jI σ μ) : ∃ n, n ≤ 12 ∧ σ.2 1 = nI n ∧ μ.2 7 = nI n := by
  obtain ⟨h1, h2⟩ := wf_R h.1
  exact ⟨tR (told σ), h2, h1, h.2.1.1.2.1.trans h1⟩
theorem rH_0 (h : Nat → Int32) (nR : Nat) : rH h nR 0 12 = 0 := by
  have h1 := (rN_zero (h := h) (nR := nR) (s := 0) (k := 0) rfl 12).2
  rw [Nat.zero_add] at h1
  rw [h1]
  rfl
theorem rSplit_0 (ap : Nat → Int32) (nR : Nat) : rSplit ap nR 0 = false := rAny_f.mpr (fun r _ => by rw [b_0, Bool.false_and])
theorem num_eq {x : Int32} {n : Nat} (h : x = nI n) (hn : n ≤ 1000) : nt x = n := by
  rw [h]
  exact nI_clamp (by omega)
theorem upE {f g : Nat → Int32} {n : Nat} (k : Nat) (a : Int32) (h : ∀ j, j < n → f j = g j) : ∀ j, j < n → upd f k a j = upd g k a j := fun j hj => by
  by_cases e : j = k
  · rw [e, up_at, up_at]
  · rw [up_ne _ _ e, up_ne _ _ e]; exact h j hj
theorem jI_addUser (σ μ : gk_C) (n : Nat) (a b : Int32) (h : jI σ μ) (hn : n < 12) (hs : σ.2 0 = nI n) (hm : μ.2 3 = nI n) : jI (gk_s (gk_r (gk_r σ 0 (upd (σ.1 0) n a)) 1 (upd (σ.1 1) n b)) 0 (nI (n + 1))) (gk_s (gk_r (gk_r μ 5 (upd (μ.1 5) n a)) 6 (upd (μ.1 6) n b)) 3 (nI (n + 1))) := by
  obtain ⟨⟨⟨w1, w2⟩, ws, wt', ww, wr, wg⟩, ⟨⟨m1, m2⟩, mu, mr⟩, ⟨x1, x2, x3⟩, h35, h33⟩ := h
  have e0 : tU (told σ) = n := num_eq hs (by omega)
  have e1 : tU (told (gk_s (gk_r (gk_r σ 0 (upd (σ.1 0) n a)) 1 (upd (σ.1 1) n b)) 0 (nI (n + 1)))) = n + 1 := num_eq (x := nI (n + 1)) rfl (by omega)
  have z : σ.1 2 n = 0 := x1 n (by omega) hn
  refine ⟨⟨⟨⟨n + 1, by omega, by omega, rfl⟩, w2⟩, ⟨fun u hu i hi hb => ?_, ws.2⟩, wt', ww, fun k hk => ?_, fun g hg => ?_⟩, ⟨⟨rfl, m2⟩, fun k hk => ⟨?_, ?_, (mu k hk).2.2⟩, mr⟩, ⟨fun u hu h12 => x1 u (by omega) h12, fun u hu => ?_, x3⟩, h35, h33⟩
  · by_cases e : u = n
    · subst e
      have hb : bt (σ.1 2 u) i = true := hb
      rw [z, b_0] at hb
      cases hb
    · exact ws.1 u (by omega) i hi hb
  · obtain ⟨a1, a2, a3, a4⟩ := wr k hk
    exact ⟨a1, a2, a3.imp (fun ⟨u, hu, e⟩ => ⟨u, by omega, e⟩) id, a4⟩
  · obtain ⟨⟨u, hu, e⟩, ⟨u2, hu2, e2⟩, a4⟩ := wg g hg
    exact ⟨⟨u, by omega, e⟩, ⟨u2, by omega, e2⟩, a4⟩
  · exact upE (n := 12) n a (fun j hj => (mu j hj).1) k hk
  · exact upE (n := 12) n b (fun j hj => (mu j hj).2.1) k hk
  · by_cases e : u = n
    · subst e
      show rSplit (σ.1 5) _ (rH (σ.1 4) _ (σ.1 2 u) 12) = false
      rw [z, rH_0, rSplit_0]
    · exact x2 u (by omega)
theorem jI_setUser (σ μ : gk_C) (k : Nat) (a b : Int32) (h : jI σ μ) (hk : k < 12) : jI (gk_r (gk_r σ 0 (upd (σ.1 0) k a)) 1 (upd (σ.1 1) k b)) (gk_r (gk_r μ 5 (upd (μ.1 5) k a)) 6 (upd (μ.1 6) k b)) := by
  obtain ⟨hw, ⟨m1, mu, mr⟩, hx, h35, h33⟩ := h
  refine ⟨hw, ⟨m1, fun j hj => ⟨?_, ?_, (mu j hj).2.2⟩, mr⟩, hx, h35, h33⟩
  · exact upE (n := 12) k a (fun j hj => (mu j hj).1) j hj
  · exact upE (n := 12) k b (fun j hj => (mu j hj).2.1) j hj
theorem jI_setLabel (σ μ : gk_C) (k : Nat) (a : Int32) (h : jI σ μ) (hk : k < 24) : jI (gk_r σ 8 (upd (σ.1 8) k a)) (gk_r μ 13 (upd (μ.1 13) k a)) := by
  obtain ⟨hw, ⟨m1, m2, m3, m4, m5, mr⟩, hx, h35, h33⟩ := h
  exact ⟨hw, ⟨m1, m2, m3, m4, fun j hj => ⟨upE (n := 24) k a (fun j hj => (m5 j hj).1) j hj, (m5 j hj).2⟩, mr⟩, hx, h35, h33⟩
theorem jI_setWall (σ μ : gk_C) (k : Nat) (a b : Int32) (h : jI σ μ) (hk : k < 24) (hab : a = (-1) ∨ (¬ a < 0 ∧ ¬ 3 < a ∧ ¬ b < 0 ∧ ¬ 3 < b)) : jI (gk_r (gk_r σ 9 (upd (σ.1 9) k a)) 10 (upd (σ.1 10) k b)) (gk_r (gk_r μ 14 (upd (μ.1 14) k a)) 15 (upd (μ.1 15) k b)) := by
  obtain ⟨⟨w1, w2, w3, w4, w5⟩, ⟨m1, m2, m3, m4, m5, mr⟩, ⟨x1, x2, x3, x4⟩, h35, h33⟩ := h
  have rng : ∀ c : Int32, ¬ c < 0 → ¬ 3 < c → jN c 0 3 := fun c h1 h2 => by
    obtain ⟨j, j1, j2⟩ := lo_ge (n := 4) (by decide) h1 (fun q => by
      rw [Int32.le_iff_toInt_le, show (nI 4).toInt = 4 by decide] at q
      rw [Int32.lt_iff_toInt_lt, show (3 : Int32).toInt = 3 by decide] at h2
      omega)
    exact ⟨j, by omega, by omega, j2⟩
  have wall : ∀ j, (σ.1 9 j = -1 ∨ (jN (σ.1 9 j) 0 3 ∧ jN (σ.1 10 j) 0 3)) → (upd (σ.1 9) k a j = -1 ∨ (jN (upd (σ.1 9) k a j) 0 3 ∧ jN (upd (σ.1 10) k b j) 0 3)) := fun j hj => by
    by_cases e : j = k
    · subst e
      rw [up_at, up_at]
      exact hab.imp id (fun q => ⟨rng a q.1 q.2.1, rng b q.2.2.1 q.2.2.2⟩)
    · rw [up_ne _ _ e, up_ne _ _ e]
      exact hj
  exact ⟨⟨w1, w2, w3, fun j hj => wall j (w4 j hj), w5⟩, ⟨m1, m2, m3, m4, fun j hj => ⟨(m5 j hj).1, upE (n := 24) k a (fun j hj => (m5 j hj).2.1) j hj, upE (n := 24) k b (fun j hj => (m5 j hj).2.2) j hj⟩, mr⟩, ⟨x1, x2, x3, fun j hj => wall j (x4 j hj)⟩, h35, h33⟩
theorem jI_setWeighing (σ μ : gk_C) (a : Int32) (h : jI σ μ) : jI (gk_s σ 6 a) (gk_s μ 2 a) := by
  obtain ⟨hw, ⟨⟨m1, m2, m3, m4, m5, m6, m7, m8⟩, mr⟩, hx, h35, h33⟩ := h
  exact ⟨hw, ⟨⟨m1, m2, m3, m4, m5, m6, rfl, m8⟩, mr⟩, hx, h35, h33⟩
theorem jI_goOn (σ μ : gk_C) (a : Int32) (h : jI σ μ) : jI (gk_s σ 7 a) (gk_s μ 1 a) := by
  obtain ⟨hw, ⟨⟨m1, m2, m3, m4, m5, m6, m7, m8⟩, mr⟩, hx, h35, h33⟩ := h
  exact ⟨hw, ⟨⟨m1, m2, m3, m4, m5, m6, m7, rfl⟩, mr⟩, hx, h35, h33⟩
/-- a role more changes nothing for those who don't have it -/
theorem rNH_more {h : Nat → Int32} {nR : Nat} {s : Int32} (hR : nR < 32) (hb : ∀ k, k < nR → bd nR (h k)) (hs : bd nR s) (k : Nat) : rNH h (nR + 1) s k = rNH h nR s k := by
  induction k with
  | zero => rfl
  | succ k ih =>
    have e : rHeld h (rNH h nR s k).1 (nR + 1) = rHeld h (rNH h nR s k).1 nR := by
      rw [rHeld, if_neg]
      intro q
      exact absurd (bd_rN hb hs k nR hR q) (by omega)
    rw [rNH, rNH, ih, e]
theorem bd_rH {h : Nat → Int32} {nR : Nat} {s : Int32} (hb : ∀ k, k < nR → bd nR (h k)) (hs : bd nR s) (k : Nat) : bd nR (rH h nR s k) := by
  intro i hi hbt
  rw [rH_b, rAny_t] at hbt
  obtain ⟨j, -, h2⟩ := hbt
  exact bd_rN hb hs j i hi h2
theorem bd_le {n m : Nat} {s : Int32} (h : bd n s) (hnm : n ≤ m) : bd m s := fun i hi hb => by have := h i hi hb; omega
theorem jI_addRole (σ μ : gk_C) (n : Nat) (h : jI σ μ) (hn : n < 12) (hs : σ.2 1 = nI n) : jI (gk_s σ 1 (nI (n + 1))) (gk_s μ 7 (nI (n + 1))) := by
  obtain ⟨⟨⟨w1, w2, w3⟩, ws, wt', ww, wr, wg⟩, ⟨⟨m1, m2, m3⟩, mu, m5, m6, m7, m8, m9, m10, mA⟩, ⟨x1, x2, x3, x4⟩, h35, h33⟩ := h
  have e0 : tR (told σ) = n := num_eq hs (by omega)
  have e1 : tR (told (gk_s σ 1 (nI (n + 1)))) = n + 1 := num_eq (x := nI (n + 1)) rfl (by omega)
  rw [e0] at x3
  refine ⟨⟨⟨w1, ⟨n + 1, by omega, by omega, rfl⟩, w3⟩, ⟨fun u hu i hi hb => ?_, fun k hk i hi hb => ?_⟩, wt', ww, fun k hk => ?_, wg⟩, ⟨⟨m1, rfl, m3⟩, mu, m5, m6, m7, m8, m9, m10, ⟨fun k hk => ?_, mA.2⟩⟩, ⟨x1, fun u hu => ?_, fun k hk => ?_, x4⟩, h35, h33⟩
  · rw [e1]
    have := ws.1 u hu i hi hb
    omega
  · rw [e1] at hk ⊢
    have := x3 k (by omega) i hi hb
    omega
  · obtain ⟨a1, a2, a3, a4⟩ := wr k hk
    exact ⟨a1, a2, a3.imp id (fun ⟨r, hr, e⟩ => ⟨r, by omega, e⟩), a4⟩
  · obtain ⟨i, j, hi, hj, hr⟩ := mA.1 k hk
    exact ⟨i, j, by omega, by omega, hr⟩
  · rw [e1]
    have hu : u < tU (told σ) := hu
    have h1 := x2 u hu
    rw [e0] at h1
    have hsu : bd n (σ.1 2 u) := fun i hi hb => by have := ws.1 u hu i hi hb; omega
    show rSplit (σ.1 5) (n + 1) (rNH (σ.1 4) (n + 1) (σ.1 2 u) 12).2 = false
    rw [rNH_more (h := σ.1 4) (by omega) (fun k hk => x3 k (by omega)) hsu]
    have h1 : rSplit (σ.1 5) n (rNH (σ.1 4) n (σ.1 2 u) 12).2 = false := h1
    unfold rSplit at h1 ⊢
    rw [rAny, h1, Bool.false_or]
    have h2 : bt (rNH (σ.1 4) n (σ.1 2 u) 12).2 n = false := by
      cases q : bt (rNH (σ.1 4) n (σ.1 2 u) 12).2 n
      · rfl
      · exact absurd (bd_rH (fun k hk => x3 k (by omega)) hsu 12 n (by omega) q) (by omega)
    rw [h2]; rfl
  · rw [e1]
    exact bd_le (x3 k hk) (by omega)
theorem jI_setRule (σ μ : gk_C) (k : Nat) (a b : Int32) (n : Nat) (h : jI σ μ) (hs : σ.2 4 = nI n) (hn : n ≤ 30) (hk : k < n) (ha : a = 0 ∨ a = 1) (hb1 : ¬ b < 0) (hb2 : ¬ 9 < b) : jI (gk_r (gk_r σ 15 (upd (σ.1 15) k a)) 16 (upd (σ.1 16) k b)) (gk_r (gk_r μ 18 (upd (μ.1 18) k a)) 22 (upd (μ.1 22) k b)) := by
  obtain ⟨⟨w1, w2, w3, w4, wr, wg⟩, ⟨m1, m2, m3, m4, m5, m6, m7, mr⟩, hx, h35, h33⟩ := h
  have rng : jN b 0 9 := by
    obtain ⟨j, j1, j2⟩ := lo_ge (n := 10) (by decide) hb1 (fun q => by
      rw [Int32.le_iff_toInt_le, show (nI 10).toInt = 10 by decide] at q
      rw [Int32.lt_iff_toInt_lt, show (9 : Int32).toInt = 9 by decide] at hb2
      omega)
    exact ⟨j, by omega, by omega, j2⟩
  refine ⟨⟨w1, w2, w3, w4, fun j hj => ?_, wg⟩, ⟨m1, m2, m3, m4, m5, m6, fun j hj => ?_, mr⟩, hx, h35, h33⟩
  · obtain ⟨a1, a2, a3, a4, a5⟩ := wr j hj
    refine ⟨a1, ?_, a3, a4, ?_⟩
    · show upd (σ.1 15) k a j = 0 ∨ upd (σ.1 15) k a j = 1
      by_cases e : j = k
      · rw [e, up_at]; exact ha
      · rw [up_ne _ _ e]; exact a2
    · show jN (upd (σ.1 16) k b j) 0 9
      by_cases e : j = k
      · rw [e, up_at]; exact rng
      · rw [up_ne _ _ e]; exact a5
  · obtain ⟨a1, a2, a3, a4, a5, a6, a7⟩ := m7 j hj
    exact ⟨a1, a2, a3, a4, upE (n := tL (told σ)) k a (fun j hj => (m7 j hj).2.2.2.2.1) j hj, upE (n := tL (told σ)) k b (fun j hj => (m7 j hj).2.2.2.2.2.1) j hj, a7⟩
theorem jI_setTerms (σ μ : gk_C) (k : Nat) (a b c : Int32) (h : jI σ μ) : jI (gk_r (gk_r (gk_r σ 17 (upd (σ.1 17) k a)) 18 (upd (σ.1 18) k b)) 19 (upd (σ.1 19) k c)) (gk_r (gk_r (gk_r μ 23 (upd (μ.1 23) k a)) 24 (upd (μ.1 24) k b)) 25 (upd (μ.1 25) k c)) := by
  obtain ⟨hw, ⟨m1, m2, m3, m4, m5, m6, m7, mr⟩, hx, h35, h33⟩ := h
  refine ⟨hw, ⟨m1, m2, m3, m4, m5, m6, fun j hj => ?_, mr⟩, hx, h35, h33⟩
  obtain ⟨a1, a2, a3, a4, a5, a6, a7⟩ := m7 j hj
  exact ⟨a1, a2, a3, a4, a5, a6, upE (n := tL (told σ)) k a (fun j hj => (m7 j hj).2.2.2.2.2.2.1) j hj, upE (n := tL (told σ)) k b (fun j hj => (m7 j hj).2.2.2.2.2.2.2.1) j hj, upE (n := tL (told σ)) k c (fun j hj => (m7 j hj).2.2.2.2.2.2.2.2) j hj⟩
theorem jI_revoke (σ μ : gk_C) (k : Nat) (a : Int32) (h : jI σ μ) : jI (gk_r σ 25 (upd (σ.1 25) k a)) (gk_r μ 32 (upd (μ.1 32) k a)) := by
  obtain ⟨hw, ⟨m1, m2, m3, m4, m5, m6, m7, m8, mr⟩, hx, h35, h33⟩ := h
  refine ⟨hw, ⟨m1, m2, m3, m4, m5, m6, m7, fun j hj => ?_, mr⟩, hx, h35, h33⟩
  obtain ⟨a1, a2, a3, a4, a5, a6⟩ := m8 j hj
  exact ⟨a1, a2, a3, a4, a5, upE (n := tG (told σ)) k a (fun j hj => (m8 j hj).2.2.2.2.2) j hj⟩
