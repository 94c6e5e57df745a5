/-! ===== layer B: which roles can be of use ===== -/
/-- the least size, told step by step -/
def mnO (C : Nat → Bool) (sz : Nat → Nat) : Nat → Option Nat
  | 0 => none
  | n + 1 => match mnO C sz n with
    | none => if C n = true then some (sz n) else none
    | some b => if C n = true ∧ sz n < b then some (sz n) else some b
theorem mnO_c {C : Nat → Bool} {sz : Nat → Nat} : ∀ {n : Nat}, (∀ b, mnO C sz n = some b → (∃ j, j < n ∧ C j = true ∧ sz j = b) ∧ ∀ j, j < n → C j = true → b ≤ sz j) ∧ (mnO C sz n = none → ∀ j, j < n → C j = false) := by
  intro n
  induction n with
  | zero => exact ⟨fun b h => (by cases h), fun _ j hj => absurd hj (by omega)⟩
  | succ n ih =>
    rw [mnO]
    cases h1 : mnO C sz n with
    | none =>
      have h2 := ih.2 h1
      by_cases hc : C n = true
      · simp only [hc, if_true]
        refine ⟨fun b h => ?_, fun h => (by cases h)⟩
        cases h
        refine ⟨⟨n, by omega, hc, rfl⟩, fun j hj hcj => ?_⟩
        by_cases e : j = n
        · rw [e]; exact Nat.le_refl _
        · rw [h2 j (by omega)] at hcj; cases hcj
      · simp only [hc]
        refine ⟨fun b h => (by simp at h), fun _ j hj => ?_⟩
        by_cases e : j = n
        · rw [e]; simpa using hc
        · exact h2 j (by omega)
    | some c =>
      obtain ⟨⟨i, i1, i2, i3⟩, c2⟩ := ih.1 c h1
      by_cases hc : C n = true ∧ sz n < c
      · simp only [hc, and_self, if_true]
        refine ⟨fun b h => ?_, fun h => (by simp at h)⟩
        have h : sz n = b := by simpa using h
        refine ⟨⟨n, by omega, hc.1, h⟩, fun j hj hcj => ?_⟩
        by_cases e : j = n
        · rw [e]; omega
        · have := c2 j (by omega) hcj
          omega
      · simp only [hc, if_false]
        refine ⟨fun b h => ?_, fun h => (by simp at h)⟩
        have h : c = b := by simpa using h
        subst h
        refine ⟨⟨i, by omega, i2, i3⟩, fun j hj hcj => ?_⟩
        by_cases e : j = n
        · rw [e] at hcj ⊢
          have : ¬ sz n < c := fun q => hc ⟨hcj, q⟩
          omega
        · exact c2 j (by omega) hcj
theorem mnO_eq {C D : Nat → Bool} {sz : Nat → Nat} {n : Nat} (h1 : ∀ j, j < n → C j = true → D j = true) (h2 : ∀ j, j < n → D j = true → ∃ i, i < n ∧ C i = true ∧ sz i ≤ sz j) : mnO C sz n = mnO D sz n := by
  cases c : mnO C sz n with
  | none =>
    cases d : mnO D sz n with
    | none => rfl
    | some b =>
      obtain ⟨⟨j, j1, j2, -⟩, -⟩ := mnO_c.1 b d
      obtain ⟨i, i1, i2, -⟩ := h2 j j1 j2
      have := mnO_c.2 c i i1
      rw [i2] at this; cases this
  | some a =>
    obtain ⟨⟨i, i1, i2, i3⟩, a2⟩ := mnO_c.1 a c
    cases d : mnO D sz n with
    | none =>
      have := mnO_c.2 d i i1
      rw [h1 i i1 i2] at this; cases this
    | some b =>
      obtain ⟨⟨j, j1, j2, j3⟩, b2⟩ := mnO_c.1 b d
      obtain ⟨k, k1, k2, k3⟩ := h2 j j1 j2
      have e1 := b2 i i1 (h1 i i1 i2)
      have e2 := a2 k k1 k2
      congr 1
      omega
theorem mnO_skip {C : Nat → Bool} {sz : Nat → Nat} {n : Nat} (h : C n = false) : mnO C sz (n + 1) = mnO C sz n := by
  rw [mnO]
  cases mnO C sz n <;> simp [h]
theorem mnO_ge {C : Nat → Bool} {sz : Nat → Nat} {n b : Nat} (h : mnO C sz n = some b) (hb : b ≤ sz n) : mnO C sz (n + 1) = some b := by
  rw [mnO, h]
  simp [show ¬ sz n < b by omega]
theorem mnO_take {C : Nat → Bool} {sz : Nat → Nat} {n : Nat} (h : C n = true) (hb : ∀ b, mnO C sz n = some b → sz n < b) : mnO C sz (n + 1) = some (sz n) := by
  rw [mnO]
  cases c : mnO C sz n with
  | none => simp [h]
  | some b => simp [h, hb b c]
section US
variable {h : Nat → Int32} {nR : Nat}
/-- a walk begins at one of the set -/
theorem rWk_union (s : Int32) : ∀ n q, q < 32 → (bt (rWk h nR s n) q = true ↔ ∃ p, p < 32 ∧ bt s p = true ∧ bt (rWk h nR (1 <<< (nI p &&& 31)) n) q = true) := by
  intro n
  induction n with
  | zero =>
    intro q hq
    constructor
    · intro e
      exact ⟨q, hq, e, by show bt (1 <<< (nI q &&& 31)) q = true; rw [b_bit hq hq]; simp⟩
    · rintro ⟨p, hp, e1, e2⟩
      have e2 : bt (1 <<< (nI p &&& 31)) q = true := e2
      rw [b_bit hp hq, decide_eq_true_eq] at e2
      rw [e2]; exact e1
  | succ n ih =>
    intro q hq
    rw [rWk_b, rAny_t]
    constructor
    · rintro ⟨j, h1, h2⟩
      rw [Bool.and_eq_true] at h2
      by_cases hj : j < 32
      · obtain ⟨p, p1, p2, p3⟩ := (ih j hj).mp h2.1
        exact ⟨p, p1, p2, rWk_step h1 p3 h2.2⟩
      · rw [b_big (by omega)] at h2
        exact absurd h2.1 (by decide)
    · rintro ⟨p, p1, p2, p3⟩
      rw [rWk_b, rAny_t] at p3
      obtain ⟨j, h1, h2⟩ := p3
      rw [Bool.and_eq_true] at h2
      by_cases hj : j < 32
      · exact ⟨j, h1, by rw [(ih j hj).mpr ⟨p, p1, p2, h2.1⟩, h2.2]; rfl⟩
      · rw [b_big (by omega)] at h2
        exact absurd h2.1 (by decide)
theorem rNear_congr {s t : Int32} {q : Nat} (hq : q < 32) (e : ∀ n, bt (rWk h nR s n) q = bt (rWk h nR t n) q) : rNear h nR s q = rNear h nR t q := by
  by_cases c : ∃ n, n < 12 ∧ bt (rWk h nR s n) q = true
  · obtain ⟨n, n1, n2⟩ := c
    obtain ⟨k, k1, k2, k3⟩ : ∃ k, k < 12 ∧ bt (rWk h nR s k) q = true ∧ ∀ j, j < k → bt (rWk h nR s j) q = false := by
      induction n using Nat.strongRecOn with
      | ind n ih =>
        by_cases c : ∃ j, j < n ∧ bt (rWk h nR s j) q = true
        · obtain ⟨j, j1, j2⟩ := c
          exact ih j j1 (by omega) j2
        · refine ⟨n, n1, n2, fun j hj => ?_⟩
          cases e2 : bt (rWk h nR s j) q
          · rfl
          · exact absurd ⟨j, hj, e2⟩ c
    rw [rNear_some hq k1 k2 k3, rNear_some hq k1 (by rw [← e]; exact k2) (fun j hj => by rw [← e]; exact k3 j hj)]
  · have h0 : ∀ j, j < 12 → bt (rWk h nR s j) q = false := fun j hj => by
      cases e2 : bt (rWk h nR s j) q
      · rfl
      · exact absurd ⟨j, hj, e2⟩ c
    rw [rNear_none hq h0, rNear_none hq (fun j hj => by rw [← e]; exact h0 j hj)]
/-- roles that don't lead to a role don't bring it near -/
theorem rNear_useless (hR : nR ≤ 12) (hb : ∀ k, k < nR → bd nR (h k)) {s t : Int32} {q : Nat} (hq : q < 32) (hts : ∀ p, p < 32 → bt t p = true → bt s p = true) (hs : bd nR s) (hno : ∀ p, p < nR → bt s p = true → bt t p = false → bt (rH h nR (1 <<< (nI p &&& 31)) 12) q = false) : rNear h nR s q = rNear h nR t q := by
  refine rNear_congr hq (fun n => ?_)
  rw [Bool.eq_iff_iff, rWk_union s n q hq, rWk_union t n q hq]
  constructor
  · rintro ⟨p, p1, p2, p3⟩
    cases c : bt t p
    · have hpR : p < nR := hs p p1 p2
      have := hno p hpR p2 c
      rw [(had_iff hR hb (bd_bit hpR (by omega)) hq).mpr ⟨n, p3⟩] at this
      cases this
    · exact ⟨p, p1, c, p3⟩
  · rintro ⟨p, p1, p2, p3⟩
    exact ⟨p, p1, hts p p1 p2, p3⟩
end US
/-- rules that matter for one thing of a user -/
def rlv (T : gk_C) (u a r n k : Nat) : Bool := (act T k a && whr T k r) || rAny (fun g => (decide (T.1 20 g = nI u) && decide (T.1 22 g = nI a) && isT T g) && ((act T k a || act T k 4) && whr T k (go T g))) n
def rlU (T : gk_C) (u a r k : Nat) : Bool := rlv T u a r (tG T) k && ruN T k
/-- a role leads to that for which a rule is -/
def ldR (T : gk_C) (p k : Nat) : Bool := bt (hd T (1 <<< (nI p &&& 31)) <<< (nI 12 &&& 31)) (nt (T.1 12 k))
def usF (T : gk_C) (u a r : Nat) : Int32 := mb (fun p => rAny (fun k => rlU T u a r k && ldR T p k) (tL T)) (tR T)
section UT
variable {T : gk_C}
/-- what is so near for a rule that matters is so near with the useful roles alone -/
theorem stO_use (hw : wf T) {u a r : Nat} {s t : Int32} (hs : bd (tR T) s) (hts : ∀ p, p < 32 → bt t p = true → bt s p = true) (hst : ∀ p, p < tR T → bt s p = true → bt t p = false → bt (usF T u a r) p = false) {w k : Nat} (hk : k < tL T) (hm : rlU T u a r k = true) : stO T w s k = stO T w t k := by
  have hR := (wf_R hw).2
  have hL := (wf_L hw).2
  have hU := (wf_U hw).2
  unfold stO
  rcases (hw.2.2.2.2.1 k hk).2.2.1 with ⟨w', w1, w2⟩ | ⟨q, q1, q2⟩
  · have h12 : T.1 12 k < 12 := by rw [w2]; exact nI_lt (b := 12) (by omega) (by decide)
    rw [if_pos h12, if_pos h12]
  · have h12 : ¬ T.1 12 k < 12 := by rw [q2]; exact nI_nlt (b := 12) (by omega) (by omega)
    rw [if_neg h12, if_neg h12, q2, show nt (nI (12 + q)) = 12 + q from nI_clamp (by omega), show 12 + q - 12 = q by omega]
    unfold rN1
    rw [rNear_useless hR (wf_bd hw) (show q < 32 by omega) hts hs (fun p hp h1 h2 => ?_)]
    have h3 := hst p hp h1 h2
    unfold usF at h3
    rw [mb_b _ (by omega) (by omega), decide_eq_true hp, Bool.true_and, rAny_f] at h3
    have h4 := h3 k hk
    rw [hm, Bool.true_and] at h4
    unfold ldR at h4
    rw [q2, show nt (nI (12 + q)) = 12 + q from nI_clamp (by omega), b_shl 12 (by decide) _ (by omega), decide_eq_true (show 12 ≤ 12 + q by omega), Bool.true_and, show 12 + q - 12 = q by omega] at h4
    exact h4
theorem rul_use (hw : wf T) {u a r : Nat} {s t : Int32} (hs : bd (tR T) s) (hts : ∀ p, p < 32 → bt t p = true → bt s p = true) (hst : ∀ p, p < tR T → bt s p = true → bt t p = false → bt (usF T u a r) p = false) {wgh : Int32} {b z : Nat} (hrel : ∀ k, act T k b = true → whr T k z = true → rlv T u a r (tG T) k = true) : rul no0 T wgh u s b z = rul no0 T wgh u t b z := by
  have key : ∀ k, k < tL T → ruN T k = true → act T k b = true → whr T k z = true → stO T u s k = stO T u t k := fun k hk h1 h2 h3 => stO_use hw hs hts hst hk (by unfold rlU; rw [hrel k h2 h3, h1]; rfl)
  have hm : ∀ k, k < tL T → mat no0 T u s b z k = mat no0 T u t b z k := fun k hk => by
    unfold mat mU
    cases h1 : ruN T k
    · simp
    · cases h2 : act T k b
      · simp
      · cases h3 : whr T k z
        · simp
        · rw [key k hk h1 h2 h3]
  unfold rul
  rw [bs_congr (v := wt T wgh u t) hm (fun k hk q => by
    unfold mat mU at q
    simp only [Bool.and_eq_true] at q
    unfold wt
    rw [key k hk q.1.1.1.1.2 q.1.2 q.2])]
/-- with the useful roles alone the same is decided -/
theorem dec_use (hw : wf T) {u a r : Nat} {s t : Int32} (hs : bd (tR T) s) (hts : ∀ p, p < 32 → bt t p = true → bt s p = true) (hst : ∀ p, p < tR T → bt s p = true → bt t p = false → bt (usF T u a r) p = false) {wgh : Int32} {S : Nat → Int32} (ha : a < 5) : dec no0 T wgh (va_up S u s) u a r = dec no0 T wgh (va_up S u t) u a r := by
  have hG := (wf_G hw).2
  have e1 : rul no0 T wgh u s a r = rul no0 T wgh u t a r := rul_use hw hs hts hst (fun k h1 h2 => by unfold rlv; rw [h1, h2]; rfl)
  have hby : ∀ g, g < tG T → isT T g = true → T.1 22 g = nI a → byR no0 T wgh (va_up S u s) g = byR no0 T wgh (va_up S u t) g := fun g hg hi hact => by
    obtain ⟨⟨f1, f2⟩, -, ⟨a1, a2⟩, ⟨o1, o2⟩⟩ := wf_gr hw hg
    have ea : ga T g = a := by
      rw [hact] at a1
      exact ((nI_eq (by omega) (by omega)).mp a1).symm
    unfold byR
    by_cases c : gf T g = u
    · rw [c, va_up_self, va_up_self, ea]
      have hown : T.1 20 g = nI u := by rw [f1, c]
      rw [rul_use hw hs hts hst (b := a) (z := go T g) (fun k h1 h2 => ?_), rul_use hw hs hts hst (b := 4) (z := go T g) (fun k h1 h2 => ?_)]
      · unfold rlv
        rw [rAny_t.mpr ⟨g, hg, by simp [hown, hact, hi, h1, h2]⟩, Bool.or_true]
      · unfold rlv
        rw [rAny_t.mpr ⟨g, hg, by simp [hown, hact, hi, h1, h2]⟩, Bool.or_true]
    · rw [va_up_ne _ _ c, va_up_ne _ _ c]
  have hgood : ∀ n, n ≤ tG T → ∀ g, g < n → T.1 22 g = nI a → bt (gdB T (byR no0 T wgh (va_up S u s)) n) g = bt (gdB T (byR no0 T wgh (va_up S u t)) n) g := by
    intro n
    induction n with
    | zero => exact fun _ g hg => absurd hg (by omega)
    | succ n ih =>
      intro hn g hg hact
      have ihn := ih (by omega)
      have top : ∀ B : Nat → Bool, bt (gdB T B (n + 1)) g = (bt (gdB T B n) g || (decide (g = n) && (isT T n && (B n || lea T (gdB T B n) n)))) := fun B => by
        rw [gdB]
        cases c : (isT T n && (B n || lea T (gdB T B n) n))
        · simp
        · rw [if_pos rfl, b_or, b_bit (by omega) (by omega), Bool.and_true]
      have low : ∀ (B : Nat → Bool) (m j : Nat), m ≤ j → j < 32 → bt (gdB T B m) j = false := fun B m => by
        induction m with
        | zero => intro j _ _; exact b_0 j
        | succ m ihm =>
          intro j hj hj2
          rw [gdB]
          split
          · rw [b_or, ihm j (by omega) hj2, b_bit (by omega) hj2, decide_eq_false (by omega)]; rfl
          · exact ihm j (by omega) hj2
      rw [top, top]
      by_cases e : g = n
      · subst e
        rw [low _ g g (Nat.le_refl _) (by omega), low _ g g (Nat.le_refl _) (by omega)]
        cases hi : isT T g
        · simp
        · rw [hby g (by omega) hi hact]
          have el : lea T (gdB T (byR no0 T wgh (va_up S u s)) g) g = lea T (gdB T (byR no0 T wgh (va_up S u t)) g) g := by
            unfold lea
            refine rAny_congr (fun j hj => ?_)
            cases hgv : giv T (gf T g) (ga T g) (go T g) j
            · simp
            · have hact2 : T.1 22 j = nI a := by
                unfold giv at hgv
                simp only [Bool.and_eq_true, decide_eq_true_eq] at hgv
                rw [hgv.1.2, ← (wf_gr hw (show g < tG T by omega)).2.2.1.1, hact]
              rw [ihn j hj hact2]
          rw [el]
      · rw [ihn g (by omega) hact, decide_eq_false e]
        simp
  have e2 : gfr T (gd no0 T wgh (va_up S u s)) u a r = gfr T (gd no0 T wgh (va_up S u t)) u a r := by
    unfold gfr
    refine fo_congr (fun g hg => ?_)
    cases hgv : giv T u a r g
    · simp
    · have hact : T.1 22 g = nI a := by
        unfold giv at hgv
        simp only [Bool.and_eq_true, decide_eq_true_eq] at hgv
        exact hgv.1.2
      unfold gd
      rw [hgood (tG T) (Nat.le_refl _) g hg hact]
  unfold dec dcd
  rw [va_up_self, va_up_self, e1, e2]
end UT
