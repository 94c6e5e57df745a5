/-! ===== what the gate's own methods make of what is told ===== -/
/-- pairs apart: told both ways, counted -/
def nP (T : gk_C) : Prop := (∀ a b, a < 12 → b < 32 → bt (T.1 5 a) b = true → a < tR T ∧ b < tR T ∧ ¬ a = b ∧ bt (T.1 5 b) a = true) ∧ tP T = smN (fun a => cn (bt (T.1 5 a)) a) (tR T)
def gI (σ : gk_C) : Prop := wf (told σ) ∧ jX (told σ) ∧ nP (told σ) ∧ σ.2 6 = 0
theorem pm_go1 {A B : Prop} (h : B) : ((1 : Int32) = 0 → A) ∧ (¬ (1 : Int32) = 0 → B) := ⟨fun q => absurd q (by decide), fun _ => h⟩
theorem pm_go1' {A B : Prop} (h : B) : (¬ (1 : Int32) = 0 → B) ∧ ((1 : Int32) = 0 → A) := ⟨fun _ => h, fun q => absurd q (by decide)⟩
theorem pm_go0 {A B : Prop} (h : A) : ((0 : Int32) = 0 → A) ∧ (¬ (0 : Int32) = 0 → B) := ⟨fun _ => h, fun q => absurd rfl q⟩
theorem pm_go0' {A B : Prop} (h : A) : (¬ (0 : Int32) = 0 → B) ∧ ((0 : Int32) = 0 → A) := ⟨fun q => absurd rfl q, fun _ => h⟩
theorem pm_up {v n : Nat} {c : Int32} (hc : c = nI n) (h : v ≤ n) (hn : n < 2 ^ 31) {Q : Int32 → Prop} (hQ : Q 1) : w_X8_isUpTo (nI v) c Q := by
  subst hc
  exact ⟨fun q => absurd q (nI_pos (by omega)), fun _ => ⟨fun q => absurd q (nI_nlt h hn), fun _ => hQ⟩⟩
theorem cn_z {P : Nat → Bool} : ∀ {n : Nat}, (∀ i, i < n → P i = false) → cn P n = 0
  | 0, _ => rfl
  | n + 1, h => by rw [cn_f (h n (by omega)), cn_z (fun i hi => h i (by omega))]
theorem gI_addUser {σ : gk_C} {n : Nat} {a b : Int32} (h : gI σ) (hn : n < 12) (hs : σ.2 0 = nI n) : gI (gk_s (gk_r (gk_r σ 0 (upd (σ.1 0) n a)) 1 (upd (σ.1 1) n b)) 0 (nI (n + 1))) := by
  obtain ⟨⟨⟨w1, w2⟩, ws, wt', ww, wr, wg⟩, ⟨x1, x2, x3⟩, hp, h6⟩ := h
  have e0 : tU (told σ) = n := num_eq hs (by omega)
  have e1 : tU (told (gk_s (gk_r (gk_r σ 0 (upd (σ.1 0) n a)) 1 (upd (σ.1 1) n b)) 0 (nI (n + 1)))) = n + 1 := num_eq (x := nI (n + 1)) rfl (by omega)
  have z : σ.1 2 n = 0 := x1 n (by omega) hn
  refine ⟨⟨⟨⟨n + 1, by omega, by omega, rfl⟩, w2⟩, ⟨fun u hu i hi hb => ?_, ws.2⟩, wt', ww, fun k hk => ?_, fun g hg => ?_⟩, ⟨fun u hu h12 => x1 u (by omega) h12, fun u hu => ?_, x3⟩, hp, h6⟩
  · by_cases e : u = n
    · subst e
      have hb : bt (σ.1 2 u) i = true := hb
      rw [z, b_0] at hb
      cases hb
    · exact ws.1 u (by omega) i hi hb
  · obtain ⟨a1, a2, a3, a4⟩ := wr k hk
    exact ⟨a1, a2, a3.imp (fun ⟨u, hu, e⟩ => ⟨u, by omega, e⟩) id, a4⟩
  · obtain ⟨⟨u, hu, e⟩, ⟨u2, hu2, e2⟩, a4⟩ := wg g hg
    exact ⟨⟨u, by omega, e⟩, ⟨u2, by omega, e2⟩, a4⟩
  · by_cases e : u = n
    · subst e
      show rSplit (σ.1 5) _ (rH (σ.1 4) _ (σ.1 2 u) 12) = false
      rw [z, rH_0, rSplit_0]
    · exact x2 u (by omega)
theorem gI_setLabel {σ : gk_C} {k : Nat} {a : Int32} (h : gI σ) : gI (gk_r σ 8 (upd (σ.1 8) k a)) := h
theorem gI_setWall {σ : gk_C} {k : Nat} {a b : Int32} (h : gI σ) (hab : a = (-1) ∨ (jN a 0 3 ∧ jN b 0 3)) : gI (gk_r (gk_r σ 9 (upd (σ.1 9) k a)) 10 (upd (σ.1 10) k b)) := by
  obtain ⟨⟨w1, w2, w3, w4, w5⟩, ⟨x1, x2, x3, x4⟩, hp, h6⟩ := h
  have wall : ∀ j, (σ.1 9 j = -1 ∨ (jN (σ.1 9 j) 0 3 ∧ jN (σ.1 10 j) 0 3)) → (upd (σ.1 9) k a j = -1 ∨ (jN (upd (σ.1 9) k a j) 0 3 ∧ jN (upd (σ.1 10) k b j) 0 3)) := fun j hj => by
    by_cases e : j = k
    · subst e
      rw [up_at, up_at]
      exact hab
    · rw [up_ne _ _ e, up_ne _ _ e]
      exact hj
  exact ⟨⟨w1, w2, w3, fun j hj => wall j (w4 j hj), w5⟩, ⟨x1, x2, x3, fun j hj => wall j (x4 j hj)⟩, hp, h6⟩
theorem gI_clock {σ : gk_C} {a : Int32} (h : gI σ) : gI (gk_s σ 7 a) := h
theorem gI_addRole {σ : gk_C} {n : Nat} (h : gI σ) (hn : n < 12) (hs : σ.2 1 = nI n) : gI (gk_s σ 1 (nI (n + 1))) := by
  obtain ⟨⟨⟨w1, w2, w3⟩, ws, wt', ww, wr, wg⟩, ⟨x1, x2, x3, x4⟩, ⟨hp, hq⟩, h6⟩ := h
  have e0 : tR (told σ) = n := num_eq hs (by omega)
  have e1 : tR (told (gk_s σ 1 (nI (n + 1)))) = n + 1 := num_eq (x := nI (n + 1)) rfl (by omega)
  rw [e0] at x3
  refine ⟨⟨⟨w1, ⟨n + 1, by omega, by omega, rfl⟩, w3⟩, ⟨fun u hu i hi hb => ?_, fun k hk i hi hb => ?_⟩, wt', ww, fun k hk => ?_, wg⟩, ⟨x1, fun u hu => ?_, fun k hk => ?_, x4⟩, ⟨fun a b ha hb q => ?_, ?_⟩, h6⟩
  · rw [e1]
    have := ws.1 u hu i hi hb
    omega
  · rw [e1] at hk ⊢
    have := x3 k (by omega) i hi hb
    omega
  · obtain ⟨a1, a2, a3, a4⟩ := wr k hk
    exact ⟨a1, a2, a3.imp id (fun ⟨r, hr, e⟩ => ⟨r, by omega, e⟩), a4⟩
  · rw [e1]
    have hu : u < tU (told σ) := hu
    have h1 := x2 u hu
    rw [e0] at h1
    have hsu : bd n (σ.1 2 u) := fun i hi hb => by have := ws.1 u hu i hi hb; omega
    show rSplit (σ.1 5) (n + 1) (rNH (σ.1 4) (n + 1) (σ.1 2 u) 12).2 = false
    rw [rNH_more (h := σ.1 4) (by omega) (fun k hk => x3 k (by omega)) hsu]
    have h1 : rSplit (σ.1 5) n (rNH (σ.1 4) n (σ.1 2 u) 12).2 = false := h1
    unfold rSplit at h1 ⊢
    rw [rAny, h1, Bool.false_or]
    have h2 : bt (rNH (σ.1 4) n (σ.1 2 u) 12).2 n = false := by
      cases q : bt (rNH (σ.1 4) n (σ.1 2 u) 12).2 n
      · rfl
      · exact absurd (bd_rH (fun k hk => x3 k (by omega)) hsu 12 n (by omega) q) (by omega)
    rw [h2]; rfl
  · rw [e1]
    exact bd_le (x3 k hk) (by omega)
  · obtain ⟨h1, h2, h3, h4⟩ := hp a b ha hb q
    exact ⟨by omega, by omega, h3, h4⟩
  · rw [e1]
    show tP (told σ) = smN (fun a => cn (bt (σ.1 5 a)) a) (n + 1)
    rw [smN, hq, e0]
    have z : cn (bt (σ.1 5 n)) n = 0 := cn_z (fun i hi => by
      cases q : bt (σ.1 5 n) i
      · rfl
      · have := (hp n i (by omega) (by omega) q).1
        omega)
    show smN (fun a => cn (bt (σ.1 5 a)) a) n = _
    omega
theorem gI_setRule {σ : gk_C} {k : Nat} {a b : Int32} (h : gI σ) (ha : a = 0 ∨ a = 1) (hb : jN b 0 9) : gI (gk_r (gk_r σ 15 (upd (σ.1 15) k a)) 16 (upd (σ.1 16) k b)) := by
  obtain ⟨⟨w1, w2, w3, w4, wr, wg⟩, hx, hp, h6⟩ := h
  refine ⟨⟨w1, w2, w3, w4, fun j hj => ?_, wg⟩, hx, hp, h6⟩
  obtain ⟨a1, a2, a3, a4, a5⟩ := wr j hj
  refine ⟨a1, ?_, a3, a4, ?_⟩
  · show upd (σ.1 15) k a j = 0 ∨ upd (σ.1 15) k a j = 1
    by_cases e : j = k
    · rw [e, up_at]; exact ha
    · rw [up_ne _ _ e]; exact a2
  · show jN (upd (σ.1 16) k b j) 0 9
    by_cases e : j = k
    · rw [e, up_at]; exact hb
    · rw [up_ne _ _ e]; exact a5
theorem gI_setTerms {σ : gk_C} {k : Nat} {a b c : Int32} (h : gI σ) : gI (gk_r (gk_r (gk_r σ 17 (upd (σ.1 17) k a)) 18 (upd (σ.1 18) k b)) 19 (upd (σ.1 19) k c)) := h
theorem gI_done {σ : gk_C} {i : Nat} {x : Int32} (h : gI σ) : gI (gk_r σ 3 (upd (σ.1 3) i x)) := h
theorem gI_count {σ : gk_C} {f : Nat → Int32} (h : gI σ) : gI (gk_r σ 38 f) := h
theorem gI_sV {v : Nat} {σ σ1 : gk_C} (h : gI σ) (hv : v < 2) (hS : sV v σ σ1) : gI σ1 := by
  have e : told σ1 = told σ := sV_told hS rfl
  obtain ⟨h1, h2, h3, h4⟩ := h
  exact ⟨e ▸ h1, e ▸ h2, e ▸ h3, (hS.2 6 (by omega)).trans h4⟩
theorem gI_told {σ σ1 : gk_C} (h : gI σ) (e : told σ1 = told σ) : gI σ1 := by
  obtain ⟨h1, h2, h3, h4⟩ := h
  exact ⟨e ▸ h1, e ▸ h2, e ▸ h3, ((ts e (show 6 < 8 by decide)).trans (ts (σ := σ) rfl (show 6 < 8 by decide)).symm).trans h4⟩
theorem gI_addRes {σ : gk_C} {n p : Nat} (h : gI σ) (hn : n < 24) (h1n : 1 ≤ n) (hs : σ.2 3 = nI n) (hp : p < n) : gI (gk_s (gk_r (gk_r σ 6 (upd (σ.1 6) n (σ.1 6 p + 1))) 7 (upd (σ.1 7) n (σ.1 7 p ||| (1 <<< (nI p &&& 31))))) 3 (nI (n + 1))) := by
  obtain ⟨⟨⟨w1, w2, w3, w4, w5⟩, ws, wt', ww, wr, wg⟩, ⟨x1, x2, x3, x4⟩, hq, h6⟩ := h
  have e0 : tT (told σ) = n := num_eq hs (by omega)
  have e1 : tT (told (gk_s (gk_r (gk_r σ 6 (upd (σ.1 6) n (σ.1 6 p + 1))) 7 (upd (σ.1 7) n (σ.1 7 p ||| (1 <<< (nI p &&& 31))))) 3 (nI (n + 1)))) = n + 1 := num_eq (x := nI (n + 1)) rfl (by omega)
  refine ⟨⟨⟨w1, w2, w3, ⟨n + 1, by omega, by omega, rfl⟩, w5⟩, ws, ⟨?_, ?_, fun k hk0 hk => ?_⟩, fun k hk => x4 k (by omega), fun k hk => ?_, fun g hg => ?_⟩, ⟨x1, x2, x3, x4⟩, hq, h6⟩
  · show upd (σ.1 7) n _ 0 = 0
    rw [up_ne _ _ (by omega)]; exact wt'.1
  · show upd (σ.1 6) n _ 0 = 0
    rw [up_ne _ _ (by omega)]; exact wt'.2.1
  · rw [e1] at hk
    show ∃ p', p' < k ∧ upd (σ.1 7) n (σ.1 7 p ||| (1 <<< (nI p &&& 31))) k = upd (σ.1 7) n (σ.1 7 p ||| (1 <<< (nI p &&& 31))) p' ||| (1 <<< (nI p' &&& 31)) ∧ upd (σ.1 6) n (σ.1 6 p + 1) k = upd (σ.1 6) n (σ.1 6 p + 1) p' + 1
    by_cases e : k = n
    · refine ⟨p, by omega, ?_, ?_⟩
      · rw [e, up_at, up_ne _ _ (by omega)]
      · rw [e, up_at, up_ne _ _ (by omega)]
    · obtain ⟨q, q1, q2, q3⟩ := wt'.2.2 k hk0 (by omega)
      refine ⟨q, q1, ?_, ?_⟩
      · rw [up_ne _ _ e, up_ne _ _ (by omega)]; exact q2
      · rw [up_ne _ _ e, up_ne _ _ (by omega)]; exact q3
  · obtain ⟨a1, a2, a3, ⟨r, hr, e⟩, a5⟩ := wr k hk
    exact ⟨a1, a2, a3, ⟨r, by omega, e⟩, a5⟩
  · obtain ⟨a1, a2, a3, ⟨r, hr, e⟩⟩ := wg g hg
    exact ⟨a1, a2, a3, ⟨r, by omega, e⟩⟩
theorem gI_addGra {σ : gk_C} {n f t a r : Nat} {x4 x5 : Int32} (h : gI σ) (hn : n < 30) (hs : σ.2 5 = nI n) (hf : f < tU (told σ)) (ht : t < tU (told σ)) (ha : a < 5) (hr : r < tT (told σ)) :
    gI (gk_s (gk_r (gk_r (gk_r (gk_r (gk_r (gk_r σ 20 (upd (σ.1 20) n (nI f))) 21 (upd (σ.1 21) n (nI t))) 22 (upd (σ.1 22) n (nI a))) 23 (upd (σ.1 23) n (nI r))) 24 (upd (σ.1 24) n x4)) 25 (upd (σ.1 25) n x5)) 5 (nI (n + 1))) := by
  obtain ⟨⟨⟨w1, w2, w3, w4, w5, w6⟩, ws, wt', ww, wr, wg⟩, hx, hp, h6⟩ := h
  have e0 : tG (told σ) = n := num_eq hs (by omega)
  have e1 : tG (told (gk_s (gk_r (gk_r (gk_r (gk_r (gk_r (gk_r σ 20 (upd (σ.1 20) n (nI f))) 21 (upd (σ.1 21) n (nI t))) 22 (upd (σ.1 22) n (nI a))) 23 (upd (σ.1 23) n (nI r))) 24 (upd (σ.1 24) n x4)) 25 (upd (σ.1 25) n x5)) 5 (nI (n + 1)))) = n + 1 := num_eq (x := nI (n + 1)) rfl (by omega)
  refine ⟨⟨⟨w1, w2, w3, w4, w5, ⟨n + 1, by omega, by omega, rfl⟩⟩, ws, wt', ww, wr, fun g hg => ?_⟩, hx, hp, h6⟩
  rw [e1] at hg
  show (∃ u, u < tU (told σ) ∧ upd (σ.1 20) n (nI f) g = nI u) ∧ (∃ u, u < tU (told σ) ∧ upd (σ.1 21) n (nI t) g = nI u) ∧ (∃ a', a' < 5 ∧ upd (σ.1 22) n (nI a) g = nI a') ∧ (∃ r', r' < tT (told σ) ∧ upd (σ.1 23) n (nI r) g = nI r')
  by_cases e : g = n
  · rw [e, up_at, up_at, up_at, up_at]
    exact ⟨⟨f, hf, rfl⟩, ⟨t, ht, rfl⟩, ⟨a, ha, rfl⟩, ⟨r, hr, rfl⟩⟩
  · rw [up_ne _ _ e, up_ne _ _ e, up_ne _ _ e, up_ne _ _ e]
    exact wg g (by omega)
theorem gI_addRul {σ : gk_C} {n r : Nat} {al w ac : Int32} (h : gI σ) (hn : n < 30) (hs : σ.2 4 = nI n) (hal : al = 0 ∨ al = 1) (hwho : (∃ u, u < tU (told σ) ∧ w = nI u) ∨ ∃ r, r < tR (told σ) ∧ w = nI (12 + r)) (hr : r < tT (told σ)) :
    gI (gk_s (gk_r (gk_r (gk_r (gk_r (gk_r (gk_r (gk_r (gk_r (gk_r σ 11 (upd (σ.1 11) n al)) 12 (upd (σ.1 12) n w)) 13 (upd (σ.1 13) n ac)) 14 (upd (σ.1 14) n (nI r))) 15 (upd (σ.1 15) n 0)) 16 (upd (σ.1 16) n 0)) 17 (upd (σ.1 17) n 0)) 18 (upd (σ.1 18) n 0)) 19 (upd (σ.1 19) n 23)) 4 (nI (n + 1))) := by
  obtain ⟨⟨⟨w1, w2, w3, w4, w5, w6⟩, ws, wt', ww, wr, wg⟩, hx, hp, h6⟩ := h
  have e0 : tL (told σ) = n := num_eq hs (by omega)
  have e1 : tL (told (gk_s (gk_r (gk_r (gk_r (gk_r (gk_r (gk_r (gk_r (gk_r (gk_r σ 11 (upd (σ.1 11) n al)) 12 (upd (σ.1 12) n w)) 13 (upd (σ.1 13) n ac)) 14 (upd (σ.1 14) n (nI r))) 15 (upd (σ.1 15) n 0)) 16 (upd (σ.1 16) n 0)) 17 (upd (σ.1 17) n 0)) 18 (upd (σ.1 18) n 0)) 19 (upd (σ.1 19) n 23)) 4 (nI (n + 1)))) = n + 1 := num_eq (x := nI (n + 1)) rfl (by omega)
  refine ⟨⟨⟨w1, w2, w3, w4, ⟨n + 1, by omega, by omega, rfl⟩, w6⟩, ws, wt', ww, fun k hk => ?_, wg⟩, hx, hp, h6⟩
  rw [e1] at hk
  show (upd (σ.1 11) n al k = 0 ∨ upd (σ.1 11) n al k = 1) ∧ (upd (σ.1 15) n 0 k = 0 ∨ upd (σ.1 15) n 0 k = 1) ∧ ((∃ u, u < tU (told σ) ∧ upd (σ.1 12) n w k = nI u) ∨ ∃ r, r < tR (told σ) ∧ upd (σ.1 12) n w k = nI (12 + r)) ∧ (∃ r', r' < tT (told σ) ∧ upd (σ.1 14) n (nI r) k = nI r') ∧ jN (upd (σ.1 16) n 0 k) 0 9
  by_cases e : k = n
  · rw [e]
    simp only [up_at]
    exact ⟨hal, Or.inl trivial, hwho, ⟨r, hr, rfl⟩, ⟨0, by omega, by omega, rfl⟩⟩
  · simp only [up_ne _ _ e]
    exact wr k (by omega)
/-- what is there after a rule is dropped -/
def dpT (σ : gk_C) (n a : Nat) : gk_C := gk_s (gk_out (gk_out (gk_out (gk_out (gk_out (gk_out (gk_out (gk_out (gk_out σ 11 (nI a)) 12 (nI a)) 13 (nI a)) 14 (nI a)) 15 (nI a)) 16 (nI a)) 17 (nI a)) 18 (nI a)) 19 (nI a)) 4 (nI (n - 1))
/-- the row behind, from a on -/
def bh (a k : Nat) : Nat := if a ≤ k then k + 1 else k
theorem dpT_row {σ : gk_C} {n a : Nat} (hn : n ≤ 30) (ha : a < n) {i k : Nat} (hi : 11 ≤ i) (hi2 : i ≤ 19) (hk : k < n - 1) : (dpT σ n a).1 i k = σ.1 i (bh a k) := by
  have go : ∀ (f : Nat → Int32), (if (nI a).toNatClampNeg ≤ k ∧ k + 1 < 30 then f (k + 1) else f k) = f (bh a k) := fun f => by
    unfold bh
    rw [nI_clamp (by omega)]
    by_cases c : a ≤ k
    · rw [if_pos ⟨c, by omega⟩, if_pos c]
    · rw [if_neg (fun q => c q.1), if_neg c]
  have e : i = 11 ∨ i = 12 ∨ i = 13 ∨ i = 14 ∨ i = 15 ∨ i = 16 ∨ i = 17 ∨ i = 18 ∨ i = 19 := by omega
  rcases e with rfl | rfl | rfl | rfl | rfl | rfl | rfl | rfl | rfl <;> exact go _
theorem gI_drop {σ : gk_C} {n a : Nat} (h : gI σ) (ha : a < n) (hn : n ≤ 30) (hs : σ.2 4 = nI n) : gI (dpT σ n a) := by
  have row := fun i k (hi : 11 ≤ i) (hi2 : i ≤ 19) (hk : k < n - 1) => dpT_row (σ := σ) hn ha hi hi2 hk
  obtain ⟨⟨⟨w1, w2, w3, w4, w5, w6⟩, ws, wt', ww, wr, wg⟩, hx, hp, h6⟩ := h
  have e0 : tL (told σ) = n := num_eq hs (by omega)
  have e1 : tL (told (dpT σ n a)) = n - 1 := num_eq (x := nI (n - 1)) rfl (by omega)
  refine ⟨⟨⟨w1, w2, w3, w4, ⟨n - 1, by omega, by omega, rfl⟩, w6⟩, ws, wt', ww, fun k hk => ?_, wg⟩, hx, hp, h6⟩
  rw [e1] at hk
  show ((dpT σ n a).1 11 k = 0 ∨ (dpT σ n a).1 11 k = 1) ∧ ((dpT σ n a).1 15 k = 0 ∨ (dpT σ n a).1 15 k = 1) ∧ ((∃ u, u < tU (told σ) ∧ (dpT σ n a).1 12 k = nI u) ∨ ∃ r, r < tR (told σ) ∧ (dpT σ n a).1 12 k = nI (12 + r)) ∧ (∃ r', r' < tT (told σ) ∧ (dpT σ n a).1 14 k = nI r') ∧ jN ((dpT σ n a).1 16 k) 0 9
  rw [row 11 k (by decide) (by decide) hk, row 12 k (by decide) (by decide) hk, row 14 k (by decide) (by decide) hk, row 15 k (by decide) (by decide) hk, row 16 k (by decide) (by decide) hk]
  exact wr (bh a k) (by unfold bh; split <;> omega)
theorem gI_setSet {σ : gk_C} {u : Nat} {v : Int32} (h : gI σ) (hu : u < tU (told σ)) (hv : bd (tR (told σ)) v) (hns : rSplit ((told σ).1 5) (tR (told σ)) (hd (told σ) v) = false) : gI (gk_r σ 2 (upd (σ.1 2) u v)) := by
  obtain ⟨⟨w1, ws, w3⟩, ⟨x1, x2, x3⟩, hp, h6⟩ := h
  refine ⟨⟨w1, ⟨fun w hw i hi hb => ?_, ws.2⟩, w3⟩, ⟨fun w h1 h2 => ?_, fun w hw => ?_, x3⟩, hp, h6⟩
  · have hb : bt (upd (σ.1 2) u v w) i = true := hb
    by_cases e : w = u
    · rw [e, up_at] at hb; exact hv i hi hb
    · rw [up_ne _ _ e] at hb; exact ws.1 w hw i hi hb
  · show upd (σ.1 2) u v w = 0
    have h1 : tU (told σ) ≤ w := h1
    rw [up_ne _ _ (by omega)]; exact x1 w h1 h2
  · show rSplit (σ.1 5) (tR (told σ)) (rH (σ.1 4) (tR (told σ)) (upd (σ.1 2) u v w) 12) = false
    by_cases e : w = u
    · rw [e, up_at]; exact hns
    · rw [up_ne _ _ e]; exact x2 w hw
theorem gI_setHolds {σ : gk_C} {r : Nat} {nv : Int32} (h : gI σ) (hb : bd (tR (told σ)) nv) (hns : ∀ u, u < tU (told σ) → rSplit ((told σ).1 5) (tR (told σ)) (rH (upd (σ.1 4) r nv) (tR (told σ)) (σ.1 2 u) 12) = false) : gI (gk_r σ 4 (upd (σ.1 4) r nv)) := by
  have hw := wf_tH (r := r) h.1 hb
  obtain ⟨hw0, ⟨x1, x2, x3, x4⟩, hp, h6⟩ := h
  refine ⟨hw, ⟨x1, hns, fun k hk => ?_, x4⟩, hp, h6⟩
  show bd (tR (told σ)) (upd (σ.1 4) r nv k)
  by_cases e : k = r
  · rw [e, up_at]; exact hb
  · rw [up_ne _ _ e]; exact x3 k hk
theorem rSplit_t {ap : Nat → Int32} {n : Nat} {y : Int32} : rSplit ap n y = true ↔ ∃ a, a < n ∧ bt y a = true ∧ ∃ i, i < 32 ∧ bt (ap a) i = true ∧ bt y i = true := by
  unfold rSplit
  rw [rAny_t]
  refine ⟨fun ⟨a, h1, h2⟩ => ?_, fun ⟨a, h1, h2, i, h3, h4, h5⟩ => ⟨a, h1, ?_⟩⟩
  · rw [Bool.and_eq_true] at h2
    refine ⟨a, h1, h2.1, ?_⟩
    have h3 : ¬ ap a &&& y = 0 := by simpa using h2.2
    refine Decidable.byContradiction fun hn => h3 ?_
    rw [b_eq0]
    intro i hi
    rw [b_and]
    cases q1 : bt (ap a) i
    · rfl
    · cases q2 : bt y i
      · rfl
      · exact absurd ⟨i, hi, q1, q2⟩ hn
  · rw [h2, Bool.true_and]
    have h6 : ¬ ap a &&& y = 0 := fun e => by
      have := (b_eq0 _).mp e i h3
      rw [b_and, h4, h5] at this
      cases this
    simpa using h6
theorem rSplit_apU {ap : Nat → Int32} {n r x : Nat} {y : Int32} (hn : n ≤ 12) (hr : r < n) (hx : x < n) (hrx : ¬ r = x) : rSplit (apU ap r x) n y = (rSplit ap n y || (bt y r && bt y x)) := by
  rw [Bool.eq_iff_iff, Bool.or_eq_true, Bool.and_eq_true, rSplit_t, rSplit_t]
  constructor
  · rintro ⟨a, h1, h2, i, h3, h4, h5⟩
    rw [apU_b _ hrx (by omega) (by omega) h3, Bool.or_eq_true, Bool.or_eq_true, Bool.and_eq_true, Bool.and_eq_true, decide_eq_true_eq, decide_eq_true_eq, decide_eq_true_eq, decide_eq_true_eq] at h4
    rcases h4 with h4 | ⟨e1, e2⟩ | ⟨e1, e2⟩
    · exact Or.inl ⟨a, h1, h2, i, h3, h4, h5⟩
    · rw [e1] at h2; rw [e2] at h5; exact Or.inr ⟨h2, h5⟩
    · rw [e1] at h2; rw [e2] at h5; exact Or.inr ⟨h5, h2⟩
  · rintro (⟨a, h1, h2, i, h3, h4, h5⟩ | ⟨h1, h2⟩)
    · exact ⟨a, h1, h2, i, h3, by rw [apU_b _ hrx (by omega) (by omega) h3, h4]; rfl, h5⟩
    · exact ⟨r, hr, h1, x, by omega, by rw [apU_b _ hrx (by omega) (by omega) (by omega)]; simp, h2⟩
theorem cn_one {P R : Nat → Bool} {j : Nat} (h1 : P j = false) (h2 : R j = true) : ∀ {n : Nat}, (∀ i, i < n → ¬ i = j → P i = R i) → cn R n = cn P n + if j < n then 1 else 0
  | 0, _ => rfl
  | n + 1, h => by
    have ih := cn_one h1 h2 (n := n) (fun i hi => h i (by omega))
    rw [cn, cn]
    by_cases e : n = j
    · subst e
      rw [if_pos h2, if_neg (by rw [h1]; decide), ih, if_neg (by omega), if_pos (by omega)]
    · rw [← h n (by omega) e, ih]
      by_cases c : j < n
      · rw [if_pos c, if_pos (show j < n + 1 by omega)]
        split <;> omega
      · rw [if_neg c, if_neg (show ¬ j < n + 1 by omega)]
        split <;> omega
theorem smN_one {F G : Nat → Nat} {j : Nat} (h1 : G j = F j + 1) : ∀ {n : Nat}, (∀ i, i < n → ¬ i = j → F i = G i) → smN G n = smN F n + if j < n then 1 else 0
  | 0, _ => rfl
  | n + 1, h => by
    have ih := smN_one h1 (n := n) (fun i hi => h i (by omega))
    rw [smN, smN]
    by_cases e : n = j
    · subst e
      rw [ih, if_neg (by omega), if_pos (by omega), h1]
      omega
    · rw [← h n (by omega) e, ih]
      by_cases c : j < n
      · rw [if_pos c, if_pos (show j < n + 1 by omega)]; omega
      · rw [if_neg c, if_neg (show ¬ j < n + 1 by omega)]
        omega
/-- one pair more -/
theorem pairs_more {ap : Nat → Int32} {n r x : Nat} (hn : n ≤ 12) (hr : r < n) (hx : x < n) (hrx : ¬ r = x) (h0 : bt (ap r) x = false) (h1 : bt (ap x) r = false) : smN (fun a => cn (bt (apU ap r x a)) a) n = smN (fun a => cn (bt (ap a)) a) n + 1 := by
  have key : ∀ lo hi : Nat, lo < hi → ((lo = r ∧ hi = x) ∨ (lo = x ∧ hi = r)) → smN (fun a => cn (bt (apU ap r x a)) a) n = smN (fun a => cn (bt (ap a)) a) n + 1 := fun lo hi hlt hc => by
    have e := smN_one (F := fun a => cn (bt (ap a)) a) (G := fun a => cn (bt (apU ap r x a)) a) (j := hi) ?_ (n := n) ?_
    · rw [e, if_pos (by omega)]
    · have e2 := cn_one (P := bt (ap hi)) (R := bt (apU ap r x hi)) (j := lo) (by rcases hc with ⟨e1, e2⟩ | ⟨e1, e2⟩ <;> rw [e1, e2] <;> assumption) (by rw [apU_b _ hrx (by omega) (by omega) (by omega)]; rcases hc with ⟨e1, e2⟩ | ⟨e1, e2⟩ <;> rw [e1, e2] <;> simp) (n := hi) (fun i hi2 hne => by
        rw [apU_b _ hrx (by omega) (by omega) (by omega)]
        have d1 : (decide (hi = r) && decide (i = x)) = false := by
          rw [Bool.and_eq_false_iff, decide_eq_false_iff_not, decide_eq_false_iff_not]
          omega
        have d2 : (decide (hi = x) && decide (i = r)) = false := by
          rw [Bool.and_eq_false_iff, decide_eq_false_iff_not, decide_eq_false_iff_not]
          omega
        rw [d1, d2, Bool.or_false, Bool.or_false])
      show cn (bt (apU ap r x hi)) hi = cn (bt (ap hi)) hi + 1
      rw [e2, if_pos hlt]
    · intro i hi2 hne
      refine cn_congr (fun k hk => ?_)
      rw [apU_b _ hrx (by omega) (by omega) (by omega)]
      have d1 : (decide (i = r) && decide (k = x)) = false := by
        rw [Bool.and_eq_false_iff, decide_eq_false_iff_not, decide_eq_false_iff_not]
        omega
      have d2 : (decide (i = x) && decide (k = r)) = false := by
        rw [Bool.and_eq_false_iff, decide_eq_false_iff_not, decide_eq_false_iff_not]
        omega
      rw [d1, d2, Bool.or_false, Bool.or_false]
  rcases Nat.lt_or_ge r x with c | c
  · exact key r x c (Or.inl ⟨rfl, rfl⟩)
  · exact key x r (by omega) (Or.inr ⟨rfl, rfl⟩)
theorem smN_mono {F G : Nat → Nat} : ∀ {n : Nat}, (∀ i, i < n → F i ≤ G i) → smN F n ≤ smN G n
  | 0, _ => Nat.le_refl _
  | n + 1, h => by
    have := smN_mono (n := n) (fun i hi => h i (by omega))
    have := h n (by omega)
    rw [smN, smN]
    omega
theorem pairs_le (ap : Nat → Int32) {n : Nat} (hn : n ≤ 5) : smN (fun a => cn (bt (ap a)) a) n ≤ 10 := by
  have h1 : smN (fun a => cn (bt (ap a)) a) n ≤ smN (fun a => a) n := smN_mono (fun i _ => cn_le _ _)
  have h2 : ∀ m, m ≤ 5 → smN (fun a => a) m ≤ 10 := by decide
  have := h2 n hn
  omega
theorem gI_setApart {σ : gk_C} {r x p : Nat} (h : gI σ) (hr : r < tR (told σ)) (hx : x < tR (told σ)) (hrx : ¬ r = x) (hp : p < 10) (hs : σ.2 2 = nI p) (hf : bt (σ.1 5 r) x = false) (hno : any2 σ r x = false) :
    gI (gk_s (gk_r σ 5 (apU (σ.1 5) r x)) 2 (nI (p + 1))) := by
  have hR := (wf_R h.1).2
  obtain ⟨⟨⟨w1, w2, w3, w4⟩, ws, wt', ww, wr, wg⟩, ⟨x1, x2, x3⟩, ⟨hq, hc⟩, h6⟩ := h
  have e0 : tP (told σ) = p := num_eq hs (by omega)
  have e1 : tP (told (gk_s (gk_r σ 5 (apU (σ.1 5) r x)) 2 (nI (p + 1)))) = p + 1 := num_eq (x := nI (p + 1)) rfl (by omega)
  have hf2 : bt (σ.1 5 x) r = false := by
    cases q : bt (σ.1 5 x) r
    · rfl
    · have := (hq x r (by omega) (by omega) q).2.2.2
      rw [show bt ((told σ).1 5 r) x = bt (σ.1 5 r) x from rfl, hf] at this
      cases this
  refine ⟨⟨⟨w1, w2, ⟨p + 1, by omega, by omega, rfl⟩, w4⟩, ws, wt', ww, wr, wg⟩, ⟨x1, fun u hu => ?_, x3⟩, ⟨fun a b ha hb q => ?_, ?_⟩, h6⟩
  · have hu : u < tU (told σ) := hu
    have h1 := x2 u hu
    show rSplit (apU (σ.1 5) r x) (tR (told σ)) (hd (told σ) (σ.1 2 u)) = false
    rw [rSplit_apU hR hr hx hrx, show rSplit (σ.1 5) (tR (told σ)) (hd (told σ) (σ.1 2 u)) = false from h1, Bool.false_or]
    exact rAny_f.mp hno u hu
  · have q : bt (apU (σ.1 5) r x a) b = true := q
    show a < tR (told σ) ∧ b < tR (told σ) ∧ ¬ a = b ∧ bt (apU (σ.1 5) r x b) a = true
    rw [apU_b _ hrx (by omega) (by omega) hb, Bool.or_eq_true, Bool.or_eq_true, Bool.and_eq_true, Bool.and_eq_true, decide_eq_true_eq, decide_eq_true_eq, decide_eq_true_eq, decide_eq_true_eq] at q
    rw [apU_b _ hrx (by omega) (by omega) (by omega)]
    rcases q with q | ⟨q1, q2⟩ | ⟨q1, q2⟩
    · obtain ⟨h1, h2, h3, h4⟩ := hq a b ha hb q
      exact ⟨h1, h2, h3, by rw [show bt (σ.1 5 b) a = true from h4]; rfl⟩
    · refine ⟨by omega, by omega, by omega, ?_⟩
      rw [q1, q2]; simp
    · refine ⟨by omega, by omega, by omega, ?_⟩
      rw [q1, q2]; simp
  · rw [e1]
    show p + 1 = smN (fun a => cn (bt (apU (σ.1 5) r x a)) a) (tR (told σ))
    rw [pairs_more hR hr hx hrx hf hf2, ← e0, hc]
    rfl
