/-! ===== what the gate alone says ===== -/
/-- users -/
def jU (σ μ : gk_C) : Prop := ∃ n : Nat, n ≤ 12 ∧ σ.2 0 = nI n ∧ μ.2 3 = nI n ∧ (∀ k, k < 12 → σ.1 0 k = μ.1 5 k ∧ σ.1 1 k = μ.1 6 k ∧ σ.1 2 k = μ.1 4 k) ∧ ∀ k, k < 288 → σ.1 3 k = μ.1 34 k
/-- the clock, the weighing, the counts -/
def jS (σ μ : gk_C) : Prop := σ.2 6 = μ.2 2 ∧ (True ∧ True) ∧ σ.2 7 = μ.2 1 ∧ True ∧ (∀ k, k < 6 → σ.1 38 k = μ.1 33 k) ∧ μ.2 35 = (-1)
theorem lo_ge {n : Nat} (hn : n < 2 ^ 31) {a : Int32} (h : ¬ a < 0) (h2 : ¬ nI n ≤ a) : ∃ k, k < n ∧ a = nI k := by
  have e2 : (nI n).toInt = (n : Int) := Int32.toInt_ofNat_of_lt hn
  rw [Int32.lt_iff_toInt_lt] at h
  rw [Int32.le_iff_toInt_le, e2] at h2
  have h0 : (0 : Int32).toInt = 0 := by decide
  rw [h0] at h
  refine ⟨a.toInt.toNat, by omega, ?_⟩
  apply Int32.toInt_inj.mp
  have e3 : (nI a.toInt.toNat).toInt = (a.toInt.toNat : Int) := Int32.toInt_ofNat_of_lt (by omega)
  rw [e3]
  omega
theorem gk_at_in' (σ : gk_C) (r k : Nat) (h : k < gk_rl r) (hr : k < 2 ^ 31) : gk_at σ r (nI k) = σ.1 r k := by
  unfold gk_at
  rw [nI_clamp hr, if_neg]
  rintro (h1 | h1)
  · rw [Int32.lt_iff_toInt_lt] at h1
    have e3 : (nI k).toInt = (k : Int) := Int32.toInt_ofNat_of_lt hr
    have h0 : (0 : Int32).toInt = 0 := by decide
    omega
  · omega
theorem gk_put_in (σ : gk_C) (r k : Nat) (v : Int32) (h : k < gk_rl r) (hr : k < 2 ^ 31) : gk_put σ r (nI k) v = gk_r σ r (upd (σ.1 r) k v) := by
  unfold gk_put
  rw [nI_clamp hr, if_neg]
  rintro (h1 | h1)
  · rw [Int32.lt_iff_toInt_lt] at h1
    have e3 : (nI k).toInt = (k : Int) := Int32.toInt_ofNat_of_lt hr
    have h0 : (0 : Int32).toInt = 0 := by decide
    omega
  · omega
theorem nI_le12 {n : Nat} (h : n ≤ 12) : (12 : Int32) ≤ nI n ↔ n = 12 := by
  rw [Int32.le_iff_toInt_le, show (nI n).toInt = (n : Int) from Int32.toInt_ofNat_of_lt (by omega), show (12 : Int32).toInt = 12 by decide]
  omega
theorem nI_eq12 {n : Nat} (h : n ≤ 12) : nI n = 12 ↔ n = 12 := by
  constructor
  · intro e
    have e2 := congrArg Int32.toInt e
    rw [show (nI n).toInt = (n : Int) from Int32.toInt_ofNat_of_lt (by omega), show (12 : Int32).toInt = 12 by decide] at e2
    omega
  · rintro rfl; rfl
theorem gk_z0 : gk_z 0 := by unfold gk_z; decide
theorem gk_z1 : gk_z 1 := by unfold gk_z; decide
theorem lo_isU {σ : gk_C} {i n : Nat} (hn : n ≤ 30) (hs : σ.2 i = nI n) (a : Int32) : (¬ a < 0 ∧ ¬ σ.2 i ≤ a) ↔ (¬ a < 0 ∧ ¬ nI n - 1 < a) := by
  rw [hs]
  have e1 : (nI n).toInt = (n : Int) := Int32.toInt_ofNat_of_lt (by omega)
  have e3 : (nI n - 1).toInt = (n : Int) - 1 := by
    rw [Int32.toInt_sub, e1, show (1 : Int32).toInt = 1 by decide]
    simp only [Int.bmod]
    omega
  rw [Int32.lt_iff_toInt_lt, Int32.le_iff_toInt_le, Int32.lt_iff_toInt_lt, e1, e3]
  omega
/-- a number of a kind, asked on both sides -/
theorem lo_there {n : Nat} (hn : n ≤ 30) (a : Int32) : (a < 0 ∧ True) ∨ (¬ a < 0 ∧ nI n ≤ a ∧ nI n - 1 < a) ∨ (¬ a < 0 ∧ ¬ nI n ≤ a ∧ ¬ nI n - 1 < a ∧ ∃ k, k < n ∧ a = nI k) := by
  by_cases h1 : a < 0
  · exact Or.inl ⟨h1, trivial⟩
  · have e1 : (nI n).toInt = (n : Int) := Int32.toInt_ofNat_of_lt (by omega)
    have e3 : (nI n - 1).toInt = (n : Int) - 1 := by
      rw [Int32.toInt_sub, e1, show (1 : Int32).toInt = 1 by decide]
      simp only [Int.bmod]
      omega
    by_cases h2 : nI n ≤ a
    · refine Or.inr (Or.inl ⟨h1, h2, ?_⟩)
      rw [Int32.le_iff_toInt_le, e1] at h2
      rw [Int32.lt_iff_toInt_lt, e3]
      omega
    · refine Or.inr (Or.inr ⟨h1, h2, ?_, lo_ge (by omega) h1 h2⟩)
      rw [Int32.le_iff_toInt_le, e1] at h2
      rw [Int32.lt_iff_toInt_lt, e3]
      omega
/-- resources: the rows that stand by themselves -/
def jT (σ μ : gk_C) : Prop := ∃ n : Nat, 1 ≤ n ∧ n ≤ 24 ∧ σ.2 3 = nI n ∧ μ.2 11 = nI n ∧ ∀ k, k < 24 → σ.1 8 k = μ.1 13 k ∧ σ.1 9 k = μ.1 14 k ∧ σ.1 10 k = μ.1 15 k
/-- rules, as many as there are -/
def jL (σ μ : gk_C) : Prop := ∃ n : Nat, n ≤ 30 ∧ σ.2 4 = nI n ∧ μ.2 16 = nI n ∧ ∀ k, k < n → σ.1 11 k = μ.1 17 k ∧ σ.1 12 k = μ.1 19 k ∧ σ.1 13 k = μ.1 20 k ∧ σ.1 14 k = μ.1 21 k ∧ σ.1 15 k = μ.1 18 k ∧ σ.1 16 k = μ.1 22 k ∧ σ.1 17 k = μ.1 23 k ∧ σ.1 18 k = μ.1 24 k ∧ σ.1 19 k = μ.1 25 k
theorem lo_nar0 : vp_nar .boolean 0 = 0 := by decide
theorem lo_nar1 : vp_nar .boolean 1 = 1 := by decide
/-- grants, as many as there are; the clock -/
def jG (σ μ : gk_C) : Prop := ∃ n : Nat, n ≤ 30 ∧ σ.2 5 = nI n ∧ μ.2 26 = nI n ∧ ∀ k, k < n → σ.1 20 k = μ.1 27 k ∧ σ.1 21 k = μ.1 28 k ∧ σ.1 22 k = μ.1 29 k ∧ σ.1 23 k = μ.1 30 k ∧ σ.1 24 k = μ.1 31 k ∧ σ.1 25 k = μ.1 32 k
theorem lo_m24 (a b : Nat) : nI a * 24 + nI b = nI (a * 24 + b) := by
  have e : nI a * 24 = nI (a * 24) := (Int32.ofNat_mul a 24).symm
  rw [e, nI_add]
def bt (x : Int32) (i : Nat) : Bool := x.toBitVec.getLsbD i
theorem b_ext {x y : Int32} (h : ∀ i, i < 32 → bt x i = bt y i) : x = y := Int32.toBitVec_inj.mp (BitVec.eq_of_getLsbD_eq (fun i hi => h i hi))
theorem b_or (x y : Int32) (i : Nat) : bt (x ||| y) i = (bt x i || bt y i) := by unfold bt; rw [Int32.toBitVec_or, BitVec.getLsbD_or]
theorem b_and (x y : Int32) (i : Nat) : bt (x &&& y) i = (bt x i && bt y i) := by unfold bt; rw [Int32.toBitVec_and, BitVec.getLsbD_and]
theorem b_xor (x y : Int32) (i : Nat) : bt (x ^^^ y) i = (bt x i ^^ bt y i) := by unfold bt; rw [Int32.toBitVec_xor, BitVec.getLsbD_xor]
theorem b_big {x : Int32} {i : Nat} (h : 32 ≤ i) : bt x i = false := BitVec.getLsbD_of_ge _ _ h
theorem b_m1 : ∀ i, i < 32 → bt (-1) i = true := by decide +kernel
theorem b_0 (i : Nat) : bt 0 i = false := BitVec.getLsbD_zero
theorem s_l : ∀ n, n < 32 → ((nI n &&& 31).toBitVec.smod 32).toNat = n := by decide +kernel
theorem s_u : ∀ n, n < 32 → (((nI n).toUInt32 &&& Int32.toUInt32 31).toBitVec % 32).toNat = n := by decide +kernel
theorem b_shl (n : Nat) (hn : n < 32) (x : Int32) {i : Nat} (hi : i < 32) : bt (x <<< (nI n &&& 31)) i = (decide (n ≤ i) && bt x (i - n)) := by
  unfold bt
  rw [Int32.toBitVec_shiftLeft]
  show (x.toBitVec <<< ((nI n &&& 31).toBitVec.smod 32).toNat).getLsbD i = _
  rw [s_l n hn, BitVec.getLsbD_shiftLeft]
  rcases Nat.lt_or_ge i n with h | h
  · simp [h, Nat.not_le.mpr h]
  · simp [hi, h, Nat.not_lt.mpr h]
theorem b_ushr (n : Nat) (hn : n < 32) (x : Int32) (i : Nat) : bt ((x.toUInt32 >>> ((nI n).toUInt32 &&& Int32.toUInt32 31)).toInt32) i = bt x (n + i) := by
  show (x.toUInt32 >>> ((nI n).toUInt32 &&& Int32.toUInt32 31)).toBitVec.getLsbD i = x.toUInt32.toBitVec.getLsbD (n + i)
  rw [UInt32.toBitVec_shiftRight]
  show (x.toUInt32.toBitVec >>> (((nI n).toUInt32 &&& Int32.toUInt32 31).toBitVec % 32).toNat).getLsbD i = _
  rw [s_u n hn, BitVec.getLsbD_ushiftRight]
theorem b_sshr (n : Nat) (hn : n < 32) (x : Int32) {i : Nat} (hi : i < 32) : bt (x >>> (nI n &&& 31)) i = if n + i < 32 then bt x (n + i) else bt x 31 := by
  unfold bt
  rw [Int32.toBitVec_shiftRight]
  show (x.toBitVec.sshiftRight ((nI n &&& 31).toBitVec.smod 32).toNat).getLsbD i = _
  rw [s_l n hn, BitVec.getLsbD_sshiftRight, BitVec.msb_eq_getLsbD_last]
  simp [hi]
def b2i (b : Bool) : Int32 := if b then 1 else 0
theorem b2i_t : b2i true = 1 := rfl
theorem b2i_f : b2i false = 0 := rfl
theorem b2i_0 (b : Bool) : (b2i b = 0) = (b = false) := by cases b <;> simp [b2i]
theorem b2i_1 (b : Bool) : (b2i b = 1) = (b = true) := by cases b <;> simp [b2i]
theorem b2i_n0 (b : Bool) : (¬ b2i b = 0) = (b = true) := by cases b <;> simp [b2i]
theorem b2i_z (b : Bool) : gk_z (b2i b) := by cases b <;> rfl
theorem b_1 (i : Nat) (hi : i < 32) : bt 1 i = decide (i = 0) := by
  have h : ∀ i, i < 32 → bt 1 i = decide (i = 0) := by decide +kernel
  exact h i hi
theorem b_bit {j i : Nat} (hj : j < 32) (hi : i < 32) : bt (1 <<< (nI j &&& 31)) i = decide (i = j) := by
  rw [b_shl j hj 1 hi]
  by_cases h : j ≤ i
  · rw [b_1 (i - j) (by omega)]
    by_cases h2 : i = j
    · subst h2; simp
    · simp [h, h2, show ¬ i - j = 0 by omega]
  · simp [h, show ¬ i = j by omega]
theorem b_not (x : Int32) {i : Nat} (hi : i < 32) : bt (x ^^^ (-1)) i = !bt x i := by rw [b_xor, b_m1 i hi]; simp
theorem b_and1 (x : Int32) : x &&& 1 = b2i (bt x 0) := by
  apply b_ext
  intro i hi
  rw [b_and, b_1 i hi]
  cases h : bt x 0
  · rw [b2i_f, b_0]
    by_cases h0 : i = 0
    · subst h0; simp [h]
    · simp [h0]
  · rw [b2i_t, b_1 i hi]
    by_cases h0 : i = 0
    · subst h0; simp [h]
    · simp [h0]
/-- one bit, as the classes ask for it -/
theorem b_get (s : Int32) {j : Nat} (hj : j < 32) : (s >>> (nI j &&& 31)) &&& 1 = b2i (bt s j) := by
  rw [b_and1, b_sshr j hj s (by decide)]
  simp [hj]
theorem b_eq0 (x : Int32) : x = 0 ↔ ∀ i, i < 32 → bt x i = false := by
  constructor
  · rintro rfl i _
    exact b_0 i
  · intro h
    exact b_ext (fun i hi => by rw [h i hi, b_0])
theorem lb_isIn (s : Int32) {j : Nat} (hj : j < 32) (Q : Int32 → Prop) : w_X8_isIn s (nI j) Q = Q (b2i (bt s j)) := by
  unfold w_X8_isIn
  rw [b_get s hj]
  cases bt s j <;> simp [b2i]
theorem lb_isUpTo (x : Int32) (n : Int32) (Q : Int32 → Prop) : w_X8_isUpTo x n Q = Q (b2i (decide (0 ≤ x ∧ x ≤ n))) := by
  unfold w_X8_isUpTo
  by_cases h : x < 0
  · have h1 : ¬ 0 ≤ x := Int32.not_le.mpr h
    simp [h, h1, b2i]
  · have h1 : 0 ≤ x := Int32.not_lt.mp h
    by_cases h2 : n < x
    · have h3 : ¬ x ≤ n := Int32.not_le.mpr h2
      simp [h, h1, h2, h3, b2i]
    · have h3 : x ≤ n := Int32.not_lt.mp h2
      simp [h, h1, h2, h3, b2i]
theorem gk_at_in {σ : gk_C} {r j : Nat} (hj : j < gk_rl r) : gk_at σ r (nI j) = σ.1 r j := by
  have h : j < 2 ^ 31 := Nat.lt_trans hj gk_len
  unfold gk_at
  rw [nI_clamp h, if_neg]
  rintro (h1 | h1)
  · exact nI_pos h h1
  · omega
/-- the union of what the roles of the set hold, of the first n roles -/
def rHeld (h : Nat → Int32) (s : Int32) : Nat → Int32
  | 0 => 0
  | n + 1 => if bt s n then rHeld h s n ||| h n else rHeld h s n
theorem rHeld_bt (h : Nat → Int32) (s : Int32) (n i : Nat) : bt (rHeld h s n) i = (List.range n).any (fun j => bt s j && bt (h j) i) := by
  induction n with
  | zero => simp [rHeld, b_0]
  | succ n ih =>
    rw [List.range_succ, List.any_append, rHeld]
    cases hb : bt s n
    · simp [ih, hb]
    · simp [ih, hb, b_or]
/-- along n holdings -/
def rWk (h : Nat → Int32) (nR : Nat) (s : Int32) : Nat → Int32
  | 0 => s
  | n + 1 => rHeld h (rWk h nR s n) nR
theorem lb_heldBy_loop {σ : gk_C} {nR : Nat} (hn : σ.2 1 = nI nR) (hR : nR ≤ 12) {s : Int32} {Q : Int32 → Prop} (hQ : Q (rHeld (σ.1 4) s nR)) : ∀ (d j : Nat), j + d = nR → ∀ acc, acc = rHeld (σ.1 4) s j → wL_X1_heldBy_4 σ Q (d + 1) s acc (nI j) := by
  intro d
  induction d with
  | zero =>
    intro j hj acc ha
    have hj : j = nR := hj
    subst hj
    unfold wL_X1_heldBy_4
    refine ⟨fun _ => by rw [ha]; exact hQ, fun h => absurd (by rw [hn]; exact nI_le (Nat.le_refl _) (by omega)) h⟩
  | succ d ih =>
    intro j hj acc ha
    unfold wL_X1_heldBy_4
    refine ⟨fun h => absurd (by rw [hn] at h; exact h) (nI_ge (show j < nR by omega) (by omega)), fun _ => ?_⟩
    rw [lb_isIn s (show j < 32 by omega)]
    refine ⟨fun h => ?_, fun h => ?_⟩
    · rw [b2i_0] at h
      rw [nI_1]
      exact ih (j + 1) (by omega) acc (by rw [ha, rHeld, h]; simp)
    · rw [b2i_n0] at h
      rw [nI_1, gk_at_in (show j < gk_rl 4 by show j < 12; omega)]
      exact ih (j + 1) (by omega) _ (by rw [ha, rHeld, h]; simp)
theorem lb_heldBy {σ : gk_C} {nR : Nat} (hn : σ.2 1 = nI nR) (hR : nR ≤ 12) {s : Int32} {Q : Int32 → Prop} (hQ : Q (rHeld (σ.1 4) s nR)) : w_X1_heldBy σ s Q :=
  ⟨nR + 1, by
    have h := lb_heldBy_loop hn hR hQ nR 0 (by omega) 0 rfl
    rwa [nI_0] at h⟩
def rAny (P : Nat → Bool) : Nat → Bool
  | 0 => false
  | n + 1 => rAny P n || P n
theorem rAny_t {P : Nat → Bool} {n : Nat} : rAny P n = true ↔ ∃ j, j < n ∧ P j = true := by
  induction n with
  | zero => simp [rAny]
  | succ n ih =>
    rw [rAny, Bool.or_eq_true, ih]
    constructor
    · rintro (⟨j, h1, h2⟩ | h)
      · exact ⟨j, by omega, h2⟩
      · exact ⟨n, by omega, h⟩
    · rintro ⟨j, h1, h2⟩
      by_cases h : j = n
      · subst h; exact Or.inr h2
      · exact Or.inl ⟨j, by omega, h2⟩
theorem rAny_f {P : Nat → Bool} {n : Nat} : rAny P n = false ↔ ∀ j, j < n → P j = false := by
  constructor
  · intro h j hj
    cases hp : P j
    · rfl
    · rw [rAny_t.mpr ⟨j, hj, hp⟩] at h
      cases h
  · intro h
    cases hp : rAny P n
    · rfl
    · obtain ⟨j, h1, h2⟩ := rAny_t.mp hp
      rw [h j h1] at h2
      cases h2
theorem rAny_congr {P P' : Nat → Bool} {n : Nat} (h : ∀ j, j < n → P j = P' j) : rAny P n = rAny P' n := by
  induction n with
  | zero => rfl
  | succ n ih => rw [rAny, rAny, ih (fun j hj => h j (by omega)), h n (by omega)]
theorem rHeld_b (h : Nat → Int32) (s : Int32) (n i : Nat) : bt (rHeld h s n) i = rAny (fun j => bt s j && bt (h j) i) n := by
  induction n with
  | zero => simp [rHeld, rAny, b_0]
  | succ n ih =>
    rw [rHeld, rAny]
    cases hb : bt s n
    · simp [ih]
    · simp [ih, b_or]
theorem rHeld_congr {h h' : Nat → Int32} {s : Int32} {n : Nat} (e : ∀ j, j < n → h j = h' j) : rHeld h s n = rHeld h' s n := by
  induction n with
  | zero => rfl
  | succ n ih => rw [rHeld, rHeld, ih (fun j hj => e j (by omega)), e n (by omega)]
/-- newest and had, step by step -/
def rNH (h : Nat → Int32) (nR : Nat) (s : Int32) : Nat → Int32 × Int32
  | 0 => (s, s)
  | k + 1 => (rHeld h (rNH h nR s k).1 nR &&& ((rNH h nR s k).2 ^^^ (-1)), (rNH h nR s k).2 ||| (rHeld h (rNH h nR s k).1 nR &&& ((rNH h nR s k).2 ^^^ (-1))))
abbrev rN (h : Nat → Int32) (nR : Nat) (s : Int32) (k : Nat) : Int32 := (rNH h nR s k).1
abbrev rH (h : Nat → Int32) (nR : Nat) (s : Int32) (k : Nat) : Int32 := (rNH h nR s k).2
theorem rNH_congr {h h' : Nat → Int32} {nR : Nat} {s : Int32} (e : ∀ j, j < nR → h j = h' j) (k : Nat) : rNH h nR s k = rNH h' nR s k := by
  induction k with
  | zero => rfl
  | succ k ih => rw [rNH, rNH, ih, rHeld_congr e]
theorem rH_b {h : Nat → Int32} {nR : Nat} {s : Int32} {i : Nat} (k : Nat) : bt (rH h nR s k) i = rAny (fun j => bt (rN h nR s j) i) (k + 1) := by
  induction k with
  | zero =>
    show bt s i = (false || bt s i)
    rw [Bool.false_or]
  | succ k ih =>
    rw [rAny, ← ih]
    show bt ((rNH h nR s k).2 ||| _) i = _
    rw [b_or]
    rfl
theorem rN_b {h : Nat → Int32} {nR : Nat} {s : Int32} {i : Nat} (hi : i < 32) (k : Nat) : bt (rN h nR s (k + 1)) i = (rAny (fun j => bt (rN h nR s k) j && bt (h j) i) nR && !rAny (fun j => bt (rN h nR s j) i) (k + 1)) := by
  show bt (rHeld h (rNH h nR s k).1 nR &&& ((rNH h nR s k).2 ^^^ (-1))) i = _
  rw [b_and, b_not _ hi, rHeld_b, rH_b]
theorem rWk_b {h : Nat → Int32} {nR : Nat} {s : Int32} {i : Nat} (k : Nat) : bt (rWk h nR s (k + 1)) i = rAny (fun j => bt (rWk h nR s k) j && bt (h j) i) nR := rHeld_b _ _ _ _
/-- the newest at k: those that come at k first -/
theorem rN_first {h : Nat → Int32} {nR : Nat} {s : Int32} : ∀ (k : Nat) {i : Nat}, i < 32 → (bt (rN h nR s k) i = true ↔ bt (rWk h nR s k) i = true ∧ ∀ j, j < k → bt (rWk h nR s j) i = false) := by
  intro k
  induction k using Nat.strongRecOn with
  | ind k ih =>
    intro i hi
    cases k with
    | zero => exact ⟨fun h => ⟨h, fun j hj => absurd hj (by omega)⟩, fun h => h.1⟩
    | succ k =>
      rw [rN_b hi, Bool.and_eq_true, rAny_t, Bool.not_eq_true', rAny_f, rWk_b, rAny_t]
      have hearly : (∀ j, j < k + 1 → bt (rN h nR s j) i = false) ↔ ∀ j, j < k + 1 → bt (rWk h nR s j) i = false := by
        constructor
        · intro h1 j
          induction j using Nat.strongRecOn with
          | ind j ihj =>
            intro hj
            cases hb : bt (rWk h nR s j) i
            · rfl
            · have h2 := (ih j hj hi).mpr ⟨hb, fun t ht => ihj t ht (by omega)⟩
              rw [h1 j hj] at h2
              cases h2
        · intro h1 j hj
          cases hb : bt (rN h nR s j) i
          · rfl
          · have h2 := ((ih j hj hi).mp hb).1
            rw [h1 j hj] at h2
            cases h2
      rw [hearly]
      constructor
      · rintro ⟨⟨j, h1, h2⟩, h3⟩
        rw [Bool.and_eq_true] at h2
        by_cases hj : j < 32
        · exact ⟨⟨j, h1, by rw [Bool.and_eq_true]; exact ⟨((ih k (by omega) hj).mp h2.1).1, h2.2⟩⟩, h3⟩
        · rw [b_big (by omega)] at h2
          exact absurd h2.1 (by decide)
      · rintro ⟨⟨j, h1, h2⟩, h3⟩
        rw [Bool.and_eq_true] at h2
        by_cases hj : j < 32
        · refine ⟨⟨j, h1, ?_⟩, h3⟩
          rw [Bool.and_eq_true]
          refine ⟨(ih k (by omega) hj).mpr ⟨h2.1, fun t ht => ?_⟩, h2.2⟩
          cases hb : bt (rWk h nR s t) j
          · rfl
          · have h4 : bt (rWk h nR s (t + 1)) i = true := by
              rw [rWk_b, rAny_t]
              exact ⟨j, h1, by rw [hb, h2.2]; rfl⟩
            rw [h3 (t + 1) (by omega)] at h4
            cases h4
        · rw [b_big (by omega)] at h2
          exact absurd h2.1 (by decide)
/-- where the newest is empty it stays so -/
theorem rN_zero {h : Nat → Int32} {nR : Nat} {s : Int32} {k : Nat} (h0 : rN h nR s k = 0) : ∀ d, rN h nR s (k + d) = 0 ∧ rH h nR s (k + d) = rH h nR s k := by
  intro d
  induction d with
  | zero => exact ⟨h0, rfl⟩
  | succ d ih =>
    have e1 : rHeld h (rNH h nR s (k + d)).1 nR = 0 := by
      rw [show (rNH h nR s (k + d)).1 = 0 from ih.1, b_eq0]
      intro i hi
      rw [rHeld_b, rAny_f]
      intro j _
      simp [b_0]
    have e2 : rHeld h (rNH h nR s (k + d)).1 nR &&& ((rNH h nR s (k + d)).2 ^^^ (-1)) = 0 := by
      rw [e1, b_eq0]
      intro i hi
      simp [b_and, b_0]
    constructor
    · show rHeld h (rNH h nR s (k + d)).1 nR &&& ((rNH h nR s (k + d)).2 ^^^ (-1)) = 0
      exact e2
    · show (rNH h nR s (k + d)).2 ||| (rHeld h (rNH h nR s (k + d)).1 nR &&& ((rNH h nR s (k + d)).2 ^^^ (-1))) = _
      rw [e2]
      apply b_ext
      intro i hi
      rw [b_or, b_0, Bool.or_false]
      exact congrArg (fun z => bt z i) ih.2
theorem lb_hadWith {σ : gk_C} {nR : Nat} (hn : σ.2 1 = nI nR) (hR : nR ≤ 12) {s : Int32} {Q : Int32 → Prop} (hQ : Q (rH (σ.1 4) nR s 12)) : w_X1_hadWith σ s Q := by
  have loop : ∀ (d k : Nat), k + d = 12 → wL_X1_hadWith_7 σ Q (d + 1) (rH (σ.1 4) nR s k) (rN (σ.1 4) nR s k) (nI k) := by
    intro d
    induction d with
    | zero =>
      intro k hk
      have hk : k = 12 := hk
      subst hk
      unfold wL_X1_hadWith_7
      exact ⟨fun _ => hQ, fun h => absurd (by decide) h⟩
    | succ d ih =>
      intro k hk
      unfold wL_X1_hadWith_7
      refine ⟨fun h => absurd h (nI_ge (show k < 12 by omega) (by decide)), fun _ => ⟨fun h => ?_, fun _ => ?_⟩⟩
      · have h1 := (rN_zero h (12 - k)).2
        rw [show k + (12 - k) = 12 by omega] at h1
        rw [← h1]
        exact hQ
      · refine lb_heldBy hn hR ?_
        rw [nI_1]
        exact ih (k + 1) (by omega)
  exact ⟨13, by
    have h := loop 12 0 (by omega)
    rwa [nI_0] at h⟩
/-- by how many steps a role comes first -/
def rNear (h : Nat → Int32) (nR : Nat) (s : Int32) (r : Nat) : Option Nat := (List.range 12).find? (fun k => bt (rN h nR s k) r)
def rNearI (z : Int32) : Option Nat → Int32
  | none => z
  | some k => nI (k + 1)
theorem rNear_some {h : Nat → Int32} {nR : Nat} {s : Int32} {r k : Nat} (hr : r < 32) (hk : k < 12) (h1 : bt (rWk h nR s k) r = true) (h2 : ∀ j, j < k → bt (rWk h nR s j) r = false) : rNear h nR s r = some k := by
  unfold rNear
  rw [List.find?_range_eq_some]
  refine ⟨(rN_first k hr).mpr ⟨h1, h2⟩, List.mem_range.mpr hk, fun j hj => ?_⟩
  cases hb : bt (rN h nR s j) r
  · rfl
  · have h3 := ((rN_first j hr).mp hb).1
    rw [h2 j hj] at h3
    cases h3
theorem rNear_none {h : Nat → Int32} {nR : Nat} {s : Int32} {r : Nat} (hr : r < 32) (h2 : ∀ j, j < 12 → bt (rWk h nR s j) r = false) : rNear h nR s r = none := by
  unfold rNear
  rw [List.find?_eq_none]
  intro k hk
  cases hb : bt (rN h nR s k) r
  · decide
  · have h3 := ((rN_first k hr).mp hb).1
    rw [h2 k (List.mem_range.mp hk)] at h3
    cases h3
theorem rWk_zero {h : Nat → Int32} {nR : Nat} {s : Int32} {k : Nat} (h0 : rWk h nR s k = 0) : ∀ d, rWk h nR s (k + d) = 0 := by
  intro d
  induction d with
  | zero => exact h0
  | succ d ih =>
    rw [b_eq0]
    intro i hi
    rw [show k + (d + 1) = (k + d) + 1 by omega, rWk_b, rAny_f]
    intro j _
    rw [ih, b_0, Bool.false_and]
theorem lb_nearBy {σ : gk_C} {nR : Nat} (hn : σ.2 1 = nI nR) (hR : nR ≤ 12) {s : Int32} {r : Nat} (hr : r < 32) {Q : Int32 → Prop} (hQ : Q (rNearI (-1) (rNear (σ.1 4) nR s r))) : w_X1_nearBy σ s (nI r) Q := by
  have loop : ∀ (d k : Nat), k + d = 12 → (∀ j, j < k → bt (rWk (σ.1 4) nR s j) r = false) → wL_X1_nearBy_5 σ Q (d + 1) (nI r) (rWk (σ.1 4) nR s k) (nI (k + 1)) := by
    intro d
    induction d with
    | zero =>
      intro k hk hj
      have hk : k = 12 := hk
      subst hk
      unfold wL_X1_nearBy_5
      refine ⟨fun _ => ?_, fun h => absurd (by decide) h⟩
      rw [rNear_none hr hj] at hQ
      exact hQ
    | succ d ih =>
      intro k hk hj
      unfold wL_X1_nearBy_5
      refine ⟨fun h => absurd h (nI_nlt (show k + 1 ≤ 12 by omega) (by decide)), fun _ => ⟨fun h => ?_, fun _ => ?_⟩⟩
      · have h1 : ∀ j, j < 12 → bt (rWk (σ.1 4) nR s j) r = false := fun j hj2 => by
          rcases Nat.lt_or_ge j k with q | q
          · exact hj j q
          · have h3 := rWk_zero h (j - k)
            rw [show k + (j - k) = j by omega] at h3
            rw [h3, b_0]
        rw [rNear_none hr h1] at hQ
        exact hQ
      · rw [lb_isIn _ hr]
        refine ⟨fun h => ?_, fun h => ?_⟩
        · rw [b2i_0] at h
          refine lb_heldBy hn hR ?_
          rw [nI_1]
          exact ih (k + 1) (by omega) (fun j hj2 => by
            rcases Nat.lt_or_ge j k with q | q
            · exact hj j q
            · rw [show j = k by omega]; exact h)
        · rw [b2i_n0] at h
          rw [rNear_some hr (by omega) h hj] at hQ
          exact hQ
  exact ⟨13, loop 12 0 (by omega) (fun j hj => absurd hj (by omega))⟩
def rSplit (ap : Nat → Int32) (nR : Nat) (had : Int32) : Bool := rAny (fun r => bt had r && !decide (ap r &&& had = 0)) nR
theorem lb_isSplit {σ : gk_C} {nR : Nat} (hn : σ.2 1 = nI nR) (hR : nR ≤ 12) {s : Int32} {Q : Int32 → Prop} (hQ : Q (b2i (rSplit (σ.1 5) nR s))) : w_X1_isSplit σ s Q := by
  have loop : ∀ (d j : Nat), j + d = nR → (∀ i, i < j → (bt s i && !decide (σ.1 5 i &&& s = 0)) = false) → wL_X1_isSplit_2 σ Q (d + 1) s (nI j) := by
    intro d
    induction d with
    | zero =>
      intro j hj hi
      have hj : j = nR := hj
      subst hj
      unfold wL_X1_isSplit_2
      refine ⟨fun _ => ?_, fun h => absurd (by rw [hn]; exact nI_le (Nat.le_refl _) (by omega)) h⟩
      rw [show rSplit (σ.1 5) j s = false from rAny_f.mpr hi] at hQ
      exact hQ
    | succ d ih =>
      intro j hj hi
      unfold wL_X1_isSplit_2
      refine ⟨fun h => absurd (by rw [hn] at h; exact h) (nI_ge (show j < nR by omega) (by omega)), fun _ => ?_⟩
      rw [lb_isIn s (show j < 32 by omega), gk_at_in (show j < gk_rl 5 by show j < 12; omega), nI_1]
      have step : (bt s j && !decide (σ.1 5 j &&& s = 0)) = false → wL_X1_isSplit_2 σ Q (d + 1) s (nI (j + 1)) := fun h => ih (j + 1) (by omega) (fun i h2 => by
        rcases Nat.lt_or_ge i j with q | q
        · exact hi i q
        · rw [show i = j by omega]; exact h)
      refine ⟨fun h => ?_, fun h => ⟨fun h2 => ?_, fun h2 => ?_⟩⟩
      · rw [b2i_0] at h
        exact step (by rw [h]; rfl)
      · exact step (by simp [h2])
      · rw [b2i_n0] at h
        rw [show rSplit (σ.1 5) nR s = true from rAny_t.mpr ⟨j, by omega, by simp [h, h2]⟩] at hQ
        exact hQ
  exact ⟨nR + 1, by
    have h := loop nR 0 (by omega) (fun i hi => absurd hi (by omega))
    rwa [nI_0] at h⟩
/-- a loop that counts up -/
theorem lpUp {A : Type} {n : Nat} {W : Nat → Nat → A → Prop} {J : Nat → A → Prop}
    (he : ∀ m x, J n x → W (m + 1) n x)
    (hs : ∀ m k x, k < n → J k x → (∀ y, J (k + 1) y → W m (k + 1) y) → W (m + 1) k x) :
    ∀ d k x, k + d = n → J k x → W (d + 1) k x := by
  intro d
  induction d with
  | zero =>
    intro k x hk h
    have hk : k = n := hk
    subst hk
    exact he 0 x h
  | succ d ih =>
    intro k x hk h
    exact hs (d + 1) k x (by omega) h (fun y hy => ih (k + 1) y (by omega) hy)
def mb (P : Nat → Bool) : Nat → Int32
  | 0 => 0
  | n + 1 => if P n = true then mb P n ||| (1 <<< (nI n &&& 31)) else mb P n
theorem mb_b (P : Nat → Bool) : ∀ {n : Nat}, n ≤ 32 → ∀ {i : Nat}, i < 32 → bt (mb P n) i = (decide (i < n) && P i) := by
  intro n
  induction n with
  | zero => intro _ i _; simp [mb, b_0]
  | succ n ih =>
    intro hn i hi
    rw [mb]
    by_cases h1 : i = n
    · subst h1
      cases hp : P i
      · rw [if_neg (by simp), ih (by omega) hi]; simp
      · rw [if_pos rfl, b_or, ih (by omega) hi, b_bit (by omega) hi]; simp
    · have h2 : decide (i < n + 1) = decide (i < n) := by rw [decide_eq_decide]; omega
      rw [h2]
      by_cases hp : P n = true
      · rw [if_pos hp, b_or, ih (by omega) hi, b_bit (by omega) hi]; simp [h1]
      · rw [if_neg hp, ih (by omega) hi]
theorem mb_congr {P R : Nat → Bool} {n : Nat} (h : ∀ k, k < n → P k = R k) : mb P n = mb R n := by
  induction n with
  | zero => rfl
  | succ n ih => rw [mb, mb, ih (fun k hk => h k (by omega)), h n (by omega)]
theorem mb_t {P : Nat → Bool} {n : Nat} (h : P n = true) : mb P (n + 1) = mb P n ||| (1 <<< (nI n &&& 31)) := by rw [mb, if_pos h]
theorem mb_f {P : Nat → Bool} {n : Nat} (h : P n = false) : mb P (n + 1) = mb P n := by rw [mb, if_neg (by rw [h]; decide)]
theorem mb_ext {x : Int32} {P : Nat → Bool} {n : Nat} (hn : n ≤ 32) (h : ∀ i, i < 32 → bt x i = (decide (i < n) && P i)) : x = mb P n := b_ext (fun i hi => by rw [h i hi, mb_b P hn hi])
/-- one bit, asked in the reference's way -/
theorem b_g0 (s : Int32) {j : Nat} (hj : j < 32) : ((s >>> (nI j &&& 31)) &&& 1 = 0) = (bt s j = false) := by rw [b_get s hj, b2i_0]
theorem b_g1 (s : Int32) {j : Nat} (hj : j < 32) : (¬ (s >>> (nI j &&& 31)) &&& 1 = 0) = (bt s j = true) := by rw [b_get s hj, b2i_n0]
/-- the first one -/
def fo (P : Nat → Bool) : Nat → Option Nat
  | 0 => none
  | n + 1 => match fo P n with
    | some j => some j
    | none => if P n = true then some n else none
def oI : Option Nat → Int32
  | none => -1
  | some k => nI k
theorem fo_f {P : Nat → Bool} {n : Nat} (h : fo P n = none) (hp : P n = false) : fo P (n + 1) = none := by simp [fo, h, hp]
theorem fo_stop {P : Nat → Bool} {k : Nat} (h : fo P k = none) (hp : P k = true) : ∀ d, fo P (k + 1 + d) = some k := by
  intro d
  induction d with
  | zero => simp [fo, h, hp]
  | succ d ih => rw [← Nat.add_assoc, fo, ih]
theorem fo_stop' {P : Nat → Bool} {k n : Nat} (h : fo P k = none) (hp : P k = true) (hk : k < n) : fo P n = some k := by
  have h1 := fo_stop h hp (n - (k + 1))
  rwa [show k + 1 + (n - (k + 1)) = n by omega] at h1
theorem fo_congr {P R : Nat → Bool} {n : Nat} (h : ∀ k, k < n → P k = R k) : fo P n = fo R n := by
  induction n with
  | zero => rfl
  | succ n ih => rw [fo, fo, ih (fun k hk => h k (by omega)), h n (by omega)]
theorem fo_lt {P : Nat → Bool} : ∀ {n k : Nat}, fo P n = some k → k < n ∧ P k = true := by
  intro n
  induction n with
  | zero => intro k h; cases h
  | succ n ih =>
    intro k h
    rw [fo] at h
    cases h1 : fo P n with
    | some j =>
      rw [h1] at h
      cases h
      exact ⟨by have := (ih h1).1; omega, (ih h1).2⟩
    | none =>
      rw [h1] at h
      by_cases hp : P n = true
      · simp only [hp, if_true] at h
        cases h
        exact ⟨by omega, hp⟩
      · simp only [hp] at h
        cases h
theorem fo_none {P : Nat → Bool} {n : Nat} : fo P n = none ↔ ∀ k, k < n → P k = false := by
  induction n with
  | zero => exact ⟨fun _ k hk => absurd hk (by omega), fun _ => rfl⟩
  | succ n ih =>
    constructor
    · intro h k hk
      rw [fo] at h
      cases h1 : fo P n with
      | some j => rw [h1] at h; cases h
      | none =>
        rw [h1] at h
        by_cases hkn : k = n
        · subst hkn
          cases hp : P k
          · rfl
          · simp [hp] at h
        · exact ih.mp h1 k (by omega)
    · intro h
      exact fo_f (ih.mpr (fun k hk => h k (by omega))) (h n (by omega))
theorem oI_neg {o : Option Nat} (h : ∀ k, o = some k → k < 2 ^ 31) : oI o < 0 ↔ o = none := by
  cases o with
  | none => exact ⟨fun _ => rfl, fun _ => by decide⟩
  | some k => exact ⟨fun h1 => absurd h1 (nI_pos (h k rfl)), fun h1 => by cases h1⟩
theorem oI_m1 {o : Option Nat} (h : ∀ k, o = some k → k < 2 ^ 31) : oI o = (-1) ↔ o = none := by
  cases o with
  | none => exact ⟨fun _ => rfl, fun _ => rfl⟩
  | some k => exact ⟨fun h1 => by
      have h2 : nI k = (-1) := h1
      have h3 := nI_pos (h k rfl)
      rw [h2] at h3
      exact absurd (by decide) h3, fun h1 => by cases h1⟩
/-- the best one: of the least weight, of these the first -/
def bs (P : Nat → Bool) (w : Nat → Int32) : Nat → Option Nat
  | 0 => none
  | n + 1 => match bs P w n with
    | none => if P n = true then some n else none
    | some b => if P n = true ∧ ¬ w b ≤ w n then some n else some b
def isB (P : Nat → Bool) (w : Nat → Int32) (n b : Nat) : Prop := b < n ∧ P b = true ∧ (∀ j, j < n → P j = true → w b ≤ w j) ∧ ∀ j, j < b → P j = true → ¬ w j ≤ w b
theorem bs_isB {P : Nat → Bool} {w : Nat → Int32} : ∀ {n : Nat}, (∀ b, bs P w n = some b → isB P w n b) ∧ (bs P w n = none → ∀ j, j < n → P j = false) := by
  intro n
  induction n with
  | zero => exact ⟨fun b h => (by cases h), fun _ j hj => absurd hj (by omega)⟩
  | succ n ih =>
    rw [bs]
    cases h1 : bs P w n with
    | none =>
      have h2 := ih.2 h1
      by_cases hp : P n = true
      · simp only [hp, if_true]
        refine ⟨fun b h => ?_, fun h => by cases h⟩
        cases h
        refine ⟨by omega, hp, fun j hj hpj => ?_, fun j hj hpj => ?_⟩
        · by_cases hjn : j = n
          · subst hjn; exact Int32.le_refl _
          · rw [h2 j (by omega)] at hpj; cases hpj
        · rw [h2 j hj] at hpj; cases hpj
      · simp only [hp]
        refine ⟨fun b h => by simp at h, fun _ j hj => ?_⟩
        by_cases hjn : j = n
        · subst hjn; simpa using hp
        · exact h2 j (by omega)
    | some c =>
      obtain ⟨c1, c2, c3, c4⟩ := ih.1 c h1
      by_cases hp : P n = true ∧ ¬ w c ≤ w n
      · simp only [hp, if_true]
        refine ⟨fun b h => ?_, fun h => by simp at h⟩
        have h : n = b := by simpa using h
        subst h
        have hlt : w n < w c := Int32.not_le.mp hp.2
        refine ⟨by omega, hp.1, fun j hj hpj => ?_, fun j hj hpj => ?_⟩
        · by_cases hjn : j = n
          · subst hjn; exact Int32.le_refl _
          · exact Int32.le_of_lt (Int32.lt_of_lt_of_le hlt (c3 j (by omega) hpj))
        · exact Int32.not_le.mpr (Int32.lt_of_lt_of_le hlt (c3 j hj hpj))
      · simp only [hp, if_false]
        refine ⟨fun b h => ?_, fun h => by simp at h⟩
        have h : c = b := by simpa using h
        subst h
        refine ⟨by omega, c2, fun j hj hpj => ?_, c4⟩
        by_cases hjn : j = n
        · subst hjn
          exact Decidable.byContradiction fun hn => hp ⟨hpj, hn⟩
        · exact c3 j (by omega) hpj
theorem bs_eq {P : Nat → Bool} {w : Nat → Int32} {n b : Nat} (h : isB P w n b) : bs P w n = some b := by
  cases h1 : bs P w n with
  | none =>
    have h2 := bs_isB.2 h1 b h.1
    rw [h.2.1] at h2
    cases h2
  | some c =>
    obtain ⟨c1, c2, c3, c4⟩ := bs_isB.1 c h1
    obtain ⟨b1, b2, b3, b4⟩ := h
    congr 1
    rcases Nat.lt_trichotomy c b with q | q | q
    · exact absurd (c3 b b1 b2) (b4 c q c2)
    · exact q
    · exact absurd (b3 c c1 c2) (c4 b q b2)
theorem bs_none {P : Nat → Bool} {w : Nat → Int32} {n : Nat} : bs P w n = none ↔ ∀ j, j < n → P j = false := by
  constructor
  · exact bs_isB.2
  · intro h
    cases h1 : bs P w n with
    | none => rfl
    | some b =>
      have h2 := bs_isB.1 b h1
      exact absurd ((h b h2.1).symm.trans h2.2.1) (by decide)
theorem bs_congr {P R : Nat → Bool} {w v : Nat → Int32} {n : Nat} (h : ∀ k, k < n → P k = R k) (h2 : ∀ k, k < n → P k = true → w k = v k) : bs P w n = bs R v n := by
  cases h1 : bs R v n with
  | none =>
    rw [bs_none] at h1 ⊢
    exact fun j hj => (h j hj).trans (h1 j hj)
  | some b =>
    obtain ⟨b1, b2, b3, b4⟩ := bs_isB.1 b h1
    have hb : P b = true := (h b b1).trans b2
    apply bs_eq
    refine ⟨b1, hb, fun j hj hp => ?_, fun j hj hp => ?_⟩
    · rw [h2 b b1 hb, h2 j hj hp]
      exact b3 j hj ((h j hj).symm.trans hp)
    · rw [h2 b b1 hb, h2 j (by omega) hp]
      exact b4 j hj ((h j (by omega)).symm.trans hp)
theorem bs_lt {P : Nat → Bool} {w : Nat → Int32} {n b : Nat} (h : bs P w n = some b) : b < n ∧ P b = true := ⟨(bs_isB.1 b h).1, (bs_isB.1 b h).2.1⟩
/-- how many -/
def cn (P : Nat → Bool) : Nat → Nat
  | 0 => 0
  | n + 1 => if P n = true then cn P n + 1 else cn P n
theorem cn_t {P : Nat → Bool} {n : Nat} (h : P n = true) : cn P (n + 1) = cn P n + 1 := by rw [cn, if_pos h]
theorem cn_f {P : Nat → Bool} {n : Nat} (h : P n = false) : cn P (n + 1) = cn P n := by rw [cn, if_neg (by rw [h]; decide)]
theorem cn_congr {P R : Nat → Bool} {n : Nat} (h : ∀ k, k < n → P k = R k) : cn P n = cn R n := by
  induction n with
  | zero => rfl
  | succ n ih => rw [cn, cn, ih (fun k hk => h k (by omega)), h n (by omega)]
theorem cn_le (P : Nat → Bool) (n : Nat) : cn P n ≤ n := by
  induction n with
  | zero => exact Nat.le_refl _
  | succ n ih =>
    rw [cn]
    by_cases h : P n = true
    · rw [if_pos h]; omega
    · rw [if_neg h]; omega
/-- two orders of the same kind have the same best one -/
theorem bs_isB_eq {P : Nat → Bool} {w v : Nat → Int32} {n : Nat} (h : ∀ i j, i < n → j < n → P i = true → P j = true → (w i ≤ w j ↔ v i ≤ v j)) : bs P w n = bs P v n := by
  cases hb : bs P v n with
  | none =>
    rw [bs_none] at hb ⊢
    exact hb
  | some b =>
    obtain ⟨b1, b2, b3, b4⟩ := bs_isB.1 b hb
    apply bs_eq
    exact ⟨b1, b2, fun j hj hp => (h b j b1 hj b2 hp).mpr (b3 j hj hp), fun j hj hp q => b4 j hj hp ((h j b (by omega) b1 hp b2).mp q)⟩
abbrev nt (x : Int32) : Nat := x.toNatClampNeg
def told (σ : gk_C) : gk_C := (fun r k => if r < 26 then σ.1 r k else 0, fun i => if i < 8 then σ.2 i else 0)
theorem tr {σ T : gk_C} (h : told σ = T) {r : Nat} (hr : r < 26) : σ.1 r = T.1 r := by
  rw [← h]
  funext k
  show σ.1 r k = if r < 26 then σ.1 r k else 0
  rw [if_pos hr]
theorem ts {σ T : gk_C} (h : told σ = T) {i : Nat} (hi : i < 8) : σ.2 i = T.2 i := by
  rw [← h]
  show σ.2 i = if i < 8 then σ.2 i else 0
  rw [if_pos hi]
abbrev tU (T : gk_C) : Nat := nt (T.2 0)
abbrev tR (T : gk_C) : Nat := nt (T.2 1)
abbrev tP (T : gk_C) : Nat := nt (T.2 2)
abbrev tT (T : gk_C) : Nat := nt (T.2 3)
abbrev tL (T : gk_C) : Nat := nt (T.2 4)
abbrev tG (T : gk_C) : Nat := nt (T.2 5)
def hr (T : gk_C) : Int32 := T.2 7 / 60 - T.2 7 / 60 / 24 * 24
def ruN (T : gk_C) (k : Nat) : Bool := if T.1 19 k < T.1 18 k then (decide (T.1 18 k ≤ hr T) || !decide (T.1 19 k < hr T)) else (!decide (hr T < T.1 18 k) && !decide (T.1 19 k < hr T))
def bene (T : gk_C) (r a : Nat) : Bool := decide (r = a) || bt (T.1 7 r) a
def ab (T : gk_C) (k : Nat) : Nat := nt (T.1 14 k)
def whr (T : gk_C) (k r : Nat) : Bool := decide (r = ab T k) || (decide (T.1 15 k = 1) && bene T r (ab T k))
def act (T : gk_C) (k a : Nat) : Bool := bt (T.1 13 k) a
def trt (T : gk_C) (u k : Nat) : Bool := decide (T.1 17 k &&& (T.1 1 u ^^^ (-1)) = 0)
def rN1 (T : gk_C) (s : Int32) (r : Nat) : Option Nat := (rNear (T.1 4) (tR T) s r).map (· + 1)
def stO (T : gk_C) (u : Nat) (s : Int32) (k : Nat) : Option Nat := if T.1 12 k < 12 then (if T.1 12 k = nI u then some 0 else none) else rN1 T s (nt (T.1 12 k) - 12)
/-- a rule is for a user with a set of roles, now -/
def mU (lo : Nat → Bool) (T : gk_C) (u : Nat) (s : Int32) (k : Nat) : Bool := (!lo k && ruN T k && trt T u k) && (stO T u s k).isSome
def mat (lo : Nat → Bool) (T : gk_C) (u : Nat) (s : Int32) (a r k : Nat) : Bool := mU lo T u s k && act T k a && whr T k r
def wtI (T : gk_C) (wgh : Int32) (k st : Nat) : Int32 := (if wgh = 2 then nI st - 16 * T.1 6 (ab T k) else if wgh = 3 then -(T.1 16 k) else 0) * 2 + (if decide (T.1 11 k = 1) = decide (wgh = 1) then 0 else 1)
def wt (T : gk_C) (wgh : Int32) (u : Nat) (s : Int32) (k : Nat) : Int32 := wtI T wgh k ((stO T u s k).getD 0)
def lab (T : gk_C) (u a r : Nat) : Bool := if a = 0 then !decide (T.1 8 r ≤ T.1 0 u) else if a = 4 then false else !decide (T.1 0 u ≤ T.1 8 r)
def wal (T : gk_C) (u r : Nat) : Bool := !decide (T.1 9 r = -1) && rAny (fun k => !decide (T.1 3 (u * 24 + k) = 0) && decide (T.1 9 k = T.1 9 r) && !decide (T.1 10 k = T.1 10 r)) (tT T)
/-- what the best rule tells -/
def rulO (T : gk_C) : Option Nat → Int32
  | none => 0
  | some k => if T.1 11 k = 1 then 1 else 2
def rul (lo : Nat → Bool) (T : gk_C) (wgh : Int32) (u : Nat) (s : Int32) (a r : Nat) : Int32 := if lab T u a r = true then 4 else if wal T u r = true then 5 else rulO T (bs (mat lo T u s a r) (wt T wgh u s) (tL T))
abbrev gf (T : gk_C) (g : Nat) : Nat := nt (T.1 20 g)
abbrev gt (T : gk_C) (g : Nat) : Nat := nt (T.1 21 g)
abbrev ga (T : gk_C) (g : Nat) : Nat := nt (T.1 22 g)
abbrev go (T : gk_C) (g : Nat) : Nat := nt (T.1 23 g)
def isT (T : gk_C) (g : Nat) : Bool := !decide (T.1 25 g ≤ T.2 7)
def byR (lo : Nat → Bool) (T : gk_C) (wgh : Int32) (S : Nat → Int32) (g : Nat) : Bool := decide (rul lo T wgh (gf T g) (S (gf T g)) (ga T g) (go T g) = 1) && decide (rul lo T wgh (gf T g) (S (gf T g)) 4 (go T g) = 1)
def giv (T : gk_C) (u a r g : Nat) : Bool := decide (T.1 21 g = nI u) && decide (T.1 22 g = nI a) && bene T r (go T g)
def lea (T : gk_C) (G : Int32) (g : Nat) : Bool := rAny (fun h => bt G h && giv T (gf T g) (ga T g) (go T g) h && !decide (T.1 24 h ≤ T.1 24 g)) g
/-- the good ones, of those that are good by themselves -/
def gdB (T : gk_C) (B : Nat → Bool) : Nat → Int32
  | 0 => 0
  | g + 1 => if (isT T g && (B g || lea T (gdB T B g) g)) = true then gdB T B g ||| (1 <<< (nI g &&& 31)) else gdB T B g
def gd (lo : Nat → Bool) (T : gk_C) (wgh : Int32) (S : Nat → Int32) : Int32 := gdB T (byR lo T wgh S) (tG T)
def gfr (T : gk_C) (G : Int32) (u a r : Nat) : Option Nat := fo (fun g => bt G g && giv T u a r g) (tG T)
def dcd (T : gk_C) (G x : Int32) (u a r : Nat) : Int32 := if x = 0 ∧ (gfr T G u a r).isSome = true then 3 else x
/-- what is decided -/
def dec (lo : Nat → Bool) (T : gk_C) (wgh : Int32) (S : Nat → Int32) (u a r : Nat) : Int32 := dcd T (gd lo T wgh S) (rul lo T wgh u (S u) a r) u a r
def alw (x : Int32) : Bool := decide (x = 1) || decide (x = 3)
def why (lo : Nat → Bool) (T : gk_C) (wgh : Int32) (S : Nat → Int32) (u a r : Nat) : Int32 :=
  if rul lo T wgh u (S u) a r = 1 ∨ rul lo T wgh u (S u) a r = 2 then oI (bs (mat lo T u (S u) a r) (wt T wgh u (S u)) (tL T))
  else if rul lo T wgh u (S u) a r = 0 then oI (gfr T (gd lo T wgh S) u a r) else -1
abbrev no0 : Nat → Bool := fun _ => false
def jN (x : Int32) (lo hi : Nat) : Prop := ∃ n, lo ≤ n ∧ n ≤ hi ∧ x = nI n
theorem jN_nt {x : Int32} {lo hi : Nat} (h : jN x lo hi) (hh : hi < 2 ^ 31) : x = nI (nt x) ∧ lo ≤ nt x ∧ nt x ≤ hi := by
  obtain ⟨n, h1, h2, rfl⟩ := h
  unfold nt
  rw [nI_clamp (by omega)]
  exact ⟨rfl, h1, h2⟩
def wNum (T : gk_C) : Prop := jN (T.2 0) 0 12 ∧ jN (T.2 1) 0 12 ∧ jN (T.2 2) 0 10 ∧ jN (T.2 3) 1 24 ∧ jN (T.2 4) 0 30 ∧ jN (T.2 5) 0 30
def wSet (T : gk_C) : Prop := (∀ u, u < tU T → ∀ i, i < 32 → bt (T.1 2 u) i = true → i < tR T) ∧ ∀ k, k < tR T → ∀ i, i < 32 → bt (T.1 4 k) i = true → i < tR T
def wTree (T : gk_C) : Prop := T.1 7 0 = 0 ∧ T.1 6 0 = 0 ∧ ∀ k, 0 < k → k < tT T → ∃ p, p < k ∧ T.1 7 k = T.1 7 p ||| (1 <<< (nI p &&& 31)) ∧ T.1 6 k = T.1 6 p + 1
def wWall (T : gk_C) : Prop := ∀ k, k < tT T → T.1 9 k = -1 ∨ (jN (T.1 9 k) 0 3 ∧ jN (T.1 10 k) 0 3)
def wRul (T : gk_C) : Prop := ∀ k, k < tL T → (T.1 11 k = 0 ∨ T.1 11 k = 1) ∧ (T.1 15 k = 0 ∨ T.1 15 k = 1) ∧ ((∃ u, u < tU T ∧ T.1 12 k = nI u) ∨ ∃ r, r < tR T ∧ T.1 12 k = nI (12 + r)) ∧ (∃ r, r < tT T ∧ T.1 14 k = nI r) ∧ jN (T.1 16 k) 0 9
def wGra (T : gk_C) : Prop := ∀ g, g < tG T → (∃ u, u < tU T ∧ T.1 20 g = nI u) ∧ (∃ u, u < tU T ∧ T.1 21 g = nI u) ∧ (∃ a, a < 5 ∧ T.1 22 g = nI a) ∧ (∃ r, r < tT T ∧ T.1 23 g = nI r)
def wf (T : gk_C) : Prop := wNum T ∧ wSet T ∧ wTree T ∧ wWall T ∧ wRul T ∧ wGra T
theorem wf_U {T : gk_C} (h : wf T) : T.2 0 = nI (tU T) ∧ tU T ≤ 12 := by
  obtain ⟨h1, h2⟩ := jN_nt h.1.1 (by omega)
  exact ⟨h1, h2.2⟩
theorem wf_R {T : gk_C} (h : wf T) : T.2 1 = nI (tR T) ∧ tR T ≤ 12 := by
  obtain ⟨h1, h2⟩ := jN_nt h.1.2.1 (by omega)
  exact ⟨h1, h2.2⟩
theorem wf_P {T : gk_C} (h : wf T) : T.2 2 = nI (tP T) ∧ tP T ≤ 10 := by
  obtain ⟨h1, h2⟩ := jN_nt h.1.2.2.1 (by omega)
  exact ⟨h1, h2.2⟩
theorem wf_T {T : gk_C} (h : wf T) : T.2 3 = nI (tT T) ∧ 1 ≤ tT T ∧ tT T ≤ 24 := by
  obtain ⟨h1, h2⟩ := jN_nt h.1.2.2.2.1 (by omega)
  exact ⟨h1, h2⟩
theorem wf_L {T : gk_C} (h : wf T) : T.2 4 = nI (tL T) ∧ tL T ≤ 30 := by
  obtain ⟨h1, h2⟩ := jN_nt h.1.2.2.2.2.1 (by omega)
  exact ⟨h1, h2.2⟩
theorem wf_G {T : gk_C} (h : wf T) : T.2 5 = nI (tG T) ∧ tG T ≤ 30 := by
  obtain ⟨h1, h2⟩ := jN_nt h.1.2.2.2.2.2 (by omega)
  exact ⟨h1, h2.2⟩
theorem wf_ab {T : gk_C} (h : wf T) {k : Nat} (hk : k < tL T) : T.1 14 k = nI (ab T k) ∧ ab T k < tT T := by
  obtain ⟨r, h1, h2⟩ := (h.2.2.2.2.1 k hk).2.2.2.1
  have h3 := (wf_T h).2.2
  unfold ab nt
  rw [h2, nI_clamp (by omega)]
  exact ⟨rfl, h1⟩
theorem wf_gr {T : gk_C} (h : wf T) {g : Nat} (hg : g < tG T) : (T.1 20 g = nI (gf T g) ∧ gf T g < tU T) ∧ (T.1 21 g = nI (gt T g) ∧ gt T g < tU T) ∧ (T.1 22 g = nI (ga T g) ∧ ga T g < 5) ∧ (T.1 23 g = nI (go T g) ∧ go T g < tT T) := by
  obtain ⟨⟨a, a1, a2⟩, ⟨b, b1, b2⟩, ⟨c, c1, c2⟩, ⟨d, d1, d2⟩⟩ := h.2.2.2.2.2 g hg
  have h3 := (wf_T h).2.2
  have h4 := (wf_U h).2
  unfold gf gt ga go nt
  rw [a2, b2, c2, d2, nI_clamp (by omega), nI_clamp (by omega), nI_clamp (by omega), nI_clamp (by omega)]
  exact ⟨⟨rfl, a1⟩, ⟨rfl, b1⟩, ⟨rfl, c1⟩, ⟨rfl, d1⟩⟩
/-- the depth of a resource -/
theorem wf_dep {T : gk_C} (h : wf T) : ∀ k, k < tT T → ∃ d, d ≤ k ∧ T.1 6 k = nI d := by
  intro k
  induction k using Nat.strongRecOn with
  | ind k ih =>
    intro hk
    by_cases h0 : k = 0
    · subst h0
      exact ⟨0, Nat.le_refl _, by rw [h.2.2.1.2.1, nI_0]⟩
    · obtain ⟨p, p1, p2, p3⟩ := h.2.2.1.2.2 k (by omega) hk
      obtain ⟨d, d1, d2⟩ := ih p p1 (by omega)
      exact ⟨d + 1, by omega, by rw [p3, d2, nI_1]⟩

