/-! ===== layer B, the base: loops, bits gathered, the first ones, the best one ===== -/
/-- a loop that counts up -/
theorem lpUp {A : Type} {n : Nat} {W : Nat → Nat → A → Prop} {J : Nat → A → Prop}
    (he : ∀ m x, J n x → W (m + 1) n x)
    (hs : ∀ m k x, k < n → J k x → (∀ y, J (k + 1) y → W m (k + 1) y) → W (m + 1) k x) :
    ∀ d k x, k + d = n → J k x → W (d + 1) k x := by
  intro d
  induction d with
  | zero =>
    intro k x hk h
    have hk : k = n := hk
    subst hk
    exact he 0 x h
  | succ d ih =>
    intro k x hk h
    exact hs (d + 1) k x (by omega) h (fun y hy => ih (k + 1) y (by omega) hy)
def mb (P : Nat → Bool) : Nat → Int32
  | 0 => 0
  | n + 1 => if P n = true then mb P n ||| (1 <<< (nI n &&& 31)) else mb P n
theorem mb_b (P : Nat → Bool) : ∀ {n : Nat}, n ≤ 32 → ∀ {i : Nat}, i < 32 → bt (mb P n) i = (decide (i < n) && P i) := by
  intro n
  induction n with
  | zero => intro _ i _; simp [mb, b_0]
  | succ n ih =>
    intro hn i hi
    rw [mb]
    by_cases h1 : i = n
    · subst h1
      cases hp : P i
      · rw [if_neg (by simp), ih (by omega) hi]; simp
      · rw [if_pos rfl, b_or, ih (by omega) hi, b_bit (by omega) hi]; simp
    · have h2 : decide (i < n + 1) = decide (i < n) := by rw [decide_eq_decide]; omega
      rw [h2]
      by_cases hp : P n = true
      · rw [if_pos hp, b_or, ih (by omega) hi, b_bit (by omega) hi]; simp [h1]
      · rw [if_neg hp, ih (by omega) hi]
theorem mb_congr {P R : Nat → Bool} {n : Nat} (h : ∀ k, k < n → P k = R k) : mb P n = mb R n := by
  induction n with
  | zero => rfl
  | succ n ih => rw [mb, mb, ih (fun k hk => h k (by omega)), h n (by omega)]
theorem mb_t {P : Nat → Bool} {n : Nat} (h : P n = true) : mb P (n + 1) = mb P n ||| (1 <<< (nI n &&& 31)) := by rw [mb, if_pos h]
theorem mb_f {P : Nat → Bool} {n : Nat} (h : P n = false) : mb P (n + 1) = mb P n := by rw [mb, if_neg (by rw [h]; decide)]
theorem mb_ext {x : Int32} {P : Nat → Bool} {n : Nat} (hn : n ≤ 32) (h : ∀ i, i < 32 → bt x i = (decide (i < n) && P i)) : x = mb P n := b_ext (fun i hi => by rw [h i hi, mb_b P hn hi])
/-- one bit, asked in the reference's way -/
theorem b_g0 (s : Int32) {j : Nat} (hj : j < 32) : ((s >>> (nI j &&& 31)) &&& 1 = 0) = (bt s j = false) := by rw [b_get s hj, b2i_0]
theorem b_g1 (s : Int32) {j : Nat} (hj : j < 32) : (¬ (s >>> (nI j &&& 31)) &&& 1 = 0) = (bt s j = true) := by rw [b_get s hj, b2i_n0]
/-- the first one -/
def fo (P : Nat → Bool) : Nat → Option Nat
  | 0 => none
  | n + 1 => match fo P n with
    | some j => some j
    | none => if P n = true then some n else none
def oI : Option Nat → Int32
  | none => -1
  | some k => nI k
theorem fo_f {P : Nat → Bool} {n : Nat} (h : fo P n = none) (hp : P n = false) : fo P (n + 1) = none := by simp [fo, h, hp]
theorem fo_stop {P : Nat → Bool} {k : Nat} (h : fo P k = none) (hp : P k = true) : ∀ d, fo P (k + 1 + d) = some k := by
  intro d
  induction d with
  | zero => simp [fo, h, hp]
  | succ d ih => rw [← Nat.add_assoc, fo, ih]
theorem fo_stop' {P : Nat → Bool} {k n : Nat} (h : fo P k = none) (hp : P k = true) (hk : k < n) : fo P n = some k := by
  have h1 := fo_stop h hp (n - (k + 1))
  rwa [show k + 1 + (n - (k + 1)) = n by omega] at h1
theorem fo_congr {P R : Nat → Bool} {n : Nat} (h : ∀ k, k < n → P k = R k) : fo P n = fo R n := by
  induction n with
  | zero => rfl
  | succ n ih => rw [fo, fo, ih (fun k hk => h k (by omega)), h n (by omega)]
theorem fo_lt {P : Nat → Bool} : ∀ {n k : Nat}, fo P n = some k → k < n ∧ P k = true := by
  intro n
  induction n with
  | zero => intro k h; cases h
  | succ n ih =>
    intro k h
    rw [fo] at h
    cases h1 : fo P n with
    | some j =>
      rw [h1] at h
      cases h
      exact ⟨by have := (ih h1).1; omega, (ih h1).2⟩
    | none =>
      rw [h1] at h
      by_cases hp : P n = true
      · simp only [hp, if_true] at h
        cases h
        exact ⟨by omega, hp⟩
      · simp only [hp] at h
        cases h
theorem fo_none {P : Nat → Bool} {n : Nat} : fo P n = none ↔ ∀ k, k < n → P k = false := by
  induction n with
  | zero => exact ⟨fun _ k hk => absurd hk (by omega), fun _ => rfl⟩
  | succ n ih =>
    constructor
    · intro h k hk
      rw [fo] at h
      cases h1 : fo P n with
      | some j => rw [h1] at h; cases h
      | none =>
        rw [h1] at h
        by_cases hkn : k = n
        · subst hkn
          cases hp : P k
          · rfl
          · simp [hp] at h
        · exact ih.mp h1 k (by omega)
    · intro h
      exact fo_f (ih.mpr (fun k hk => h k (by omega))) (h n (by omega))
theorem oI_neg {o : Option Nat} (h : ∀ k, o = some k → k < 2 ^ 31) : oI o < 0 ↔ o = none := by
  cases o with
  | none => exact ⟨fun _ => rfl, fun _ => by decide⟩
  | some k => exact ⟨fun h1 => absurd h1 (nI_pos (h k rfl)), fun h1 => by cases h1⟩
theorem oI_m1 {o : Option Nat} (h : ∀ k, o = some k → k < 2 ^ 31) : oI o = (-1) ↔ o = none := by
  cases o with
  | none => exact ⟨fun _ => rfl, fun _ => rfl⟩
  | some k => exact ⟨fun h1 => by
      have h2 : nI k = (-1) := h1
      have h3 := nI_pos (h k rfl)
      rw [h2] at h3
      exact absurd (by decide) h3, fun h1 => by cases h1⟩
/-- the best one: of the least weight, of these the first -/
def bs (P : Nat → Bool) (w : Nat → Int32) : Nat → Option Nat
  | 0 => none
  | n + 1 => match bs P w n with
    | none => if P n = true then some n else none
    | some b => if P n = true ∧ ¬ w b ≤ w n then some n else some b
def isB (P : Nat → Bool) (w : Nat → Int32) (n b : Nat) : Prop := b < n ∧ P b = true ∧ (∀ j, j < n → P j = true → w b ≤ w j) ∧ ∀ j, j < b → P j = true → ¬ w j ≤ w b
theorem bs_isB {P : Nat → Bool} {w : Nat → Int32} : ∀ {n : Nat}, (∀ b, bs P w n = some b → isB P w n b) ∧ (bs P w n = none → ∀ j, j < n → P j = false) := by
  intro n
  induction n with
  | zero => exact ⟨fun b h => (by cases h), fun _ j hj => absurd hj (by omega)⟩
  | succ n ih =>
    rw [bs]
    cases h1 : bs P w n with
    | none =>
      have h2 := ih.2 h1
      by_cases hp : P n = true
      · simp only [hp, if_true]
        refine ⟨fun b h => ?_, fun h => by cases h⟩
        cases h
        refine ⟨by omega, hp, fun j hj hpj => ?_, fun j hj hpj => ?_⟩
        · by_cases hjn : j = n
          · subst hjn; exact Int32.le_refl _
          · rw [h2 j (by omega)] at hpj; cases hpj
        · rw [h2 j hj] at hpj; cases hpj
      · simp only [hp]
        refine ⟨fun b h => by simp at h, fun _ j hj => ?_⟩
        by_cases hjn : j = n
        · subst hjn; simpa using hp
        · exact h2 j (by omega)
    | some c =>
      obtain ⟨c1, c2, c3, c4⟩ := ih.1 c h1
      by_cases hp : P n = true ∧ ¬ w c ≤ w n
      · simp only [hp, if_true]
        refine ⟨fun b h => ?_, fun h => by simp at h⟩
        have h : n = b := by simpa using h
        subst h
        have hlt : w n < w c := Int32.not_le.mp hp.2
        refine ⟨by omega, hp.1, fun j hj hpj => ?_, fun j hj hpj => ?_⟩
        · by_cases hjn : j = n
          · subst hjn; exact Int32.le_refl _
          · exact Int32.le_of_lt (Int32.lt_of_lt_of_le hlt (c3 j (by omega) hpj))
        · exact Int32.not_le.mpr (Int32.lt_of_lt_of_le hlt (c3 j hj hpj))
      · simp only [hp, if_false]
        refine ⟨fun b h => ?_, fun h => by simp at h⟩
        have h : c = b := by simpa using h
        subst h
        refine ⟨by omega, c2, fun j hj hpj => ?_, c4⟩
        by_cases hjn : j = n
        · subst hjn
          exact Decidable.byContradiction fun hn => hp ⟨hpj, hn⟩
        · exact c3 j (by omega) hpj
theorem bs_eq {P : Nat → Bool} {w : Nat → Int32} {n b : Nat} (h : isB P w n b) : bs P w n = some b := by
  cases h1 : bs P w n with
  | none =>
    have h2 := bs_isB.2 h1 b h.1
    rw [h.2.1] at h2
    cases h2
  | some c =>
    obtain ⟨c1, c2, c3, c4⟩ := bs_isB.1 c h1
    obtain ⟨b1, b2, b3, b4⟩ := h
    congr 1
    rcases Nat.lt_trichotomy c b with q | q | q
    · exact absurd (c3 b b1 b2) (b4 c q c2)
    · exact q
    · exact absurd (b3 c c1 c2) (c4 b q b2)
theorem bs_none {P : Nat → Bool} {w : Nat → Int32} {n : Nat} : bs P w n = none ↔ ∀ j, j < n → P j = false := by
  constructor
  · exact bs_isB.2
  · intro h
    cases h1 : bs P w n with
    | none => rfl
    | some b =>
      have h2 := bs_isB.1 b h1
      exact absurd ((h b h2.1).symm.trans h2.2.1) (by decide)
theorem bs_congr {P R : Nat → Bool} {w v : Nat → Int32} {n : Nat} (h : ∀ k, k < n → P k = R k) (h2 : ∀ k, k < n → P k = true → w k = v k) : bs P w n = bs R v n := by
  cases h1 : bs R v n with
  | none =>
    rw [bs_none] at h1 ⊢
    exact fun j hj => (h j hj).trans (h1 j hj)
  | some b =>
    obtain ⟨b1, b2, b3, b4⟩ := bs_isB.1 b h1
    have hb : P b = true := (h b b1).trans b2
    apply bs_eq
    refine ⟨b1, hb, fun j hj hp => ?_, fun j hj hp => ?_⟩
    · rw [h2 b b1 hb, h2 j hj hp]
      exact b3 j hj ((h j hj).symm.trans hp)
    · rw [h2 b b1 hb, h2 j (by omega) hp]
      exact b4 j hj ((h j (by omega)).symm.trans hp)
theorem bs_lt {P : Nat → Bool} {w : Nat → Int32} {n b : Nat} (h : bs P w n = some b) : b < n ∧ P b = true := ⟨(bs_isB.1 b h).1, (bs_isB.1 b h).2.1⟩
/-- how many -/
def cn (P : Nat → Bool) : Nat → Nat
  | 0 => 0
  | n + 1 => if P n = true then cn P n + 1 else cn P n
theorem cn_t {P : Nat → Bool} {n : Nat} (h : P n = true) : cn P (n + 1) = cn P n + 1 := by rw [cn, if_pos h]
theorem cn_f {P : Nat → Bool} {n : Nat} (h : P n = false) : cn P (n + 1) = cn P n := by rw [cn, if_neg (by rw [h]; decide)]
theorem cn_congr {P R : Nat → Bool} {n : Nat} (h : ∀ k, k < n → P k = R k) : cn P n = cn R n := by
  induction n with
  | zero => rfl
  | succ n ih => rw [cn, cn, ih (fun k hk => h k (by omega)), h n (by omega)]
theorem cn_le (P : Nat → Bool) (n : Nat) : cn P n ≤ n := by
  induction n with
  | zero => exact Nat.le_refl _
  | succ n ih =>
    rw [cn]
    by_cases h : P n = true
    · rw [if_pos h]; omega
    · rw [if_neg h]; omega
/-- two orders of the same kind have the same best one -/
theorem bs_isB_eq {P : Nat → Bool} {w v : Nat → Int32} {n : Nat} (h : ∀ i j, i < n → j < n → P i = true → P j = true → (w i ≤ w j ↔ v i ≤ v j)) : bs P w n = bs P v n := by
  cases hb : bs P v n with
  | none =>
    rw [bs_none] at hb ⊢
    exact hb
  | some b =>
    obtain ⟨b1, b2, b3, b4⟩ := bs_isB.1 b hb
    apply bs_eq
    exact ⟨b1, b2, fun j hj hp => (h b j b1 hj b2 hp).mpr (b3 j hj hp), fun j hj hp q => b4 j hj hp ((h j b (by omega) b1 hp b2).mp q)⟩
