/-! ===== layer B: bits of an int (pasted from kit/laws/BITS, the first family), then rows of our own ===== -/
def bt (x : Int32) (i : Nat) : Bool := x.toBitVec.getLsbD i
theorem b_ext {x y : Int32} (h : ∀ i, i < 32 → bt x i = bt y i) : x = y := Int32.toBitVec_inj.mp (BitVec.eq_of_getLsbD_eq (fun i hi => h i hi))
theorem b_or (x y : Int32) (i : Nat) : bt (x ||| y) i = (bt x i || bt y i) := by unfold bt; rw [Int32.toBitVec_or, BitVec.getLsbD_or]
theorem b_and (x y : Int32) (i : Nat) : bt (x &&& y) i = (bt x i && bt y i) := by unfold bt; rw [Int32.toBitVec_and, BitVec.getLsbD_and]
theorem b_xor (x y : Int32) (i : Nat) : bt (x ^^^ y) i = (bt x i ^^ bt y i) := by unfold bt; rw [Int32.toBitVec_xor, BitVec.getLsbD_xor]
theorem b_big {x : Int32} {i : Nat} (h : 32 ≤ i) : bt x i = false := BitVec.getLsbD_of_ge _ _ h
theorem b_m1 : ∀ i, i < 32 → bt (-1) i = true := by decide +kernel
theorem b_0 (i : Nat) : bt 0 i = false := BitVec.getLsbD_zero
theorem s_l : ∀ n, n < 32 → ((nI n &&& 31).toBitVec.smod 32).toNat = n := by decide +kernel
theorem s_u : ∀ n, n < 32 → (((nI n).toUInt32 &&& Int32.toUInt32 31).toBitVec % 32).toNat = n := by decide +kernel
theorem b_shl (n : Nat) (hn : n < 32) (x : Int32) {i : Nat} (hi : i < 32) : bt (x <<< (nI n &&& 31)) i = (decide (n ≤ i) && bt x (i - n)) := by
  unfold bt
  rw [Int32.toBitVec_shiftLeft]
  show (x.toBitVec <<< ((nI n &&& 31).toBitVec.smod 32).toNat).getLsbD i = _
  rw [s_l n hn, BitVec.getLsbD_shiftLeft]
  rcases Nat.lt_or_ge i n with h | h
  · simp [h, Nat.not_le.mpr h]
  · simp [hi, h, Nat.not_lt.mpr h]
theorem b_ushr (n : Nat) (hn : n < 32) (x : Int32) (i : Nat) : bt ((x.toUInt32 >>> ((nI n).toUInt32 &&& Int32.toUInt32 31)).toInt32) i = bt x (n + i) := by
  show (x.toUInt32 >>> ((nI n).toUInt32 &&& Int32.toUInt32 31)).toBitVec.getLsbD i = x.toUInt32.toBitVec.getLsbD (n + i)
  rw [UInt32.toBitVec_shiftRight]
  show (x.toUInt32.toBitVec >>> (((nI n).toUInt32 &&& Int32.toUInt32 31).toBitVec % 32).toNat).getLsbD i = _
  rw [s_u n hn, BitVec.getLsbD_ushiftRight]
theorem b_sshr (n : Nat) (hn : n < 32) (x : Int32) {i : Nat} (hi : i < 32) : bt (x >>> (nI n &&& 31)) i = if n + i < 32 then bt x (n + i) else bt x 31 := by
  unfold bt
  rw [Int32.toBitVec_shiftRight]
  show (x.toBitVec.sshiftRight ((nI n &&& 31).toBitVec.smod 32).toNat).getLsbD i = _
  rw [s_l n hn, BitVec.getLsbD_sshiftRight, BitVec.msb_eq_getLsbD_last]
  simp [hi]
def b2i (b : Bool) : Int32 := if b then 1 else 0
theorem b2i_t : b2i true = 1 := rfl
theorem b2i_f : b2i false = 0 := rfl
theorem b2i_0 (b : Bool) : (b2i b = 0) = (b = false) := by cases b <;> simp [b2i]
theorem b2i_1 (b : Bool) : (b2i b = 1) = (b = true) := by cases b <;> simp [b2i]
theorem b2i_n0 (b : Bool) : (¬ b2i b = 0) = (b = true) := by cases b <;> simp [b2i]
theorem b2i_z (b : Bool) : gk_z (b2i b) := by cases b <;> rfl
theorem b_1 (i : Nat) (hi : i < 32) : bt 1 i = decide (i = 0) := by
  have h : ∀ i, i < 32 → bt 1 i = decide (i = 0) := by decide +kernel
  exact h i hi
theorem b_bit {j i : Nat} (hj : j < 32) (hi : i < 32) : bt (1 <<< (nI j &&& 31)) i = decide (i = j) := by
  rw [b_shl j hj 1 hi]
  by_cases h : j ≤ i
  · rw [b_1 (i - j) (by omega)]
    by_cases h2 : i = j
    · subst h2; simp
    · simp [h, h2, show ¬ i - j = 0 by omega]
  · simp [h, show ¬ i = j by omega]
theorem b_not (x : Int32) {i : Nat} (hi : i < 32) : bt (x ^^^ (-1)) i = !bt x i := by rw [b_xor, b_m1 i hi]; simp
theorem b_and1 (x : Int32) : x &&& 1 = b2i (bt x 0) := by
  apply b_ext
  intro i hi
  rw [b_and, b_1 i hi]
  cases h : bt x 0
  · rw [b2i_f, b_0]
    by_cases h0 : i = 0
    · subst h0; simp [h]
    · simp [h0]
  · rw [b2i_t, b_1 i hi]
    by_cases h0 : i = 0
    · subst h0; simp [h]
    · simp [h0]
/-- one bit, as the classes ask for it -/
theorem b_get (s : Int32) {j : Nat} (hj : j < 32) : (s >>> (nI j &&& 31)) &&& 1 = b2i (bt s j) := by
  rw [b_and1, b_sshr j hj s (by decide)]
  simp [hj]
theorem b_eq0 (x : Int32) : x = 0 ↔ ∀ i, i < 32 → bt x i = false := by
  constructor
  · rintro rfl i _
    exact b_0 i
  · intro h
    exact b_ext (fun i hi => by rw [h i hi, b_0])
theorem lb_isIn (s : Int32) {j : Nat} (hj : j < 32) (Q : Int32 → Prop) : w_X8_isIn s (nI j) Q = Q (b2i (bt s j)) := by
  unfold w_X8_isIn
  rw [b_get s hj]
  cases bt s j <;> simp [b2i]
theorem lb_isUpTo (x : Int32) (n : Int32) (Q : Int32 → Prop) : w_X8_isUpTo x n Q = Q (b2i (decide (0 ≤ x ∧ x ≤ n))) := by
  unfold w_X8_isUpTo
  by_cases h : x < 0
  · have h1 : ¬ 0 ≤ x := Int32.not_le.mpr h
    simp [h, h1, b2i]
  · have h1 : 0 ≤ x := Int32.not_lt.mp h
    by_cases h2 : n < x
    · have h3 : ¬ x ≤ n := Int32.not_le.mpr h2
      simp [h, h1, h2, h3, b2i]
    · have h3 : x ≤ n := Int32.not_lt.mp h2
      simp [h, h1, h2, h3, b2i]
theorem gk_at_in {σ : gk_C} {r j : Nat} (hj : j < gk_rl r) : gk_at σ r (nI j) = σ.1 r j := by
  have h : j < 2 ^ 31 := Nat.lt_trans hj gk_len
  unfold gk_at
  rw [nI_clamp h, if_neg]
  rintro (h1 | h1)
  · exact nI_pos h h1
  · omega
/-! ===== roles ===== -/
/-- the union of what the roles of the set hold, of the first n roles -/
def rHeld (h : Nat → Int32) (s : Int32) : Nat → Int32
  | 0 => 0
  | n + 1 => if bt s n then rHeld h s n ||| h n else rHeld h s n
theorem rHeld_bt (h : Nat → Int32) (s : Int32) (n i : Nat) : bt (rHeld h s n) i = (List.range n).any (fun j => bt s j && bt (h j) i) := by
  induction n with
  | zero => simp [rHeld, b_0]
  | succ n ih =>
    rw [List.range_succ, List.any_append, rHeld]
    cases hb : bt s n
    · simp [ih, hb]
    · simp [ih, hb, b_or]
/-- along n holdings -/
def rWk (h : Nat → Int32) (nR : Nat) (s : Int32) : Nat → Int32
  | 0 => s
  | n + 1 => rHeld h (rWk h nR s n) nR
theorem lb_heldBy_loop {σ : gk_C} {nR : Nat} (hn : σ.2 1 = nI nR) (hR : nR ≤ 12) {s : Int32} {Q : Int32 → Prop} (hQ : Q (rHeld (σ.1 4) s nR)) : ∀ (d j : Nat), j + d = nR → ∀ acc, acc = rHeld (σ.1 4) s j → wL_X1_heldBy_4 σ Q (d + 1) s acc (nI j) := by
  intro d
  induction d with
  | zero =>
    intro j hj acc ha
    have hj : j = nR := hj
    subst hj
    unfold wL_X1_heldBy_4
    refine ⟨fun _ => by rw [ha]; exact hQ, fun h => absurd (by rw [hn]; exact nI_le (Nat.le_refl _) (by omega)) h⟩
  | succ d ih =>
    intro j hj acc ha
    unfold wL_X1_heldBy_4
    refine ⟨fun h => absurd (by rw [hn] at h; exact h) (nI_ge (show j < nR by omega) (by omega)), fun _ => ?_⟩
    rw [lb_isIn s (show j < 32 by omega)]
    refine ⟨fun h => ?_, fun h => ?_⟩
    · rw [b2i_0] at h
      rw [nI_1]
      exact ih (j + 1) (by omega) acc (by rw [ha, rHeld, h]; simp)
    · rw [b2i_n0] at h
      rw [nI_1, gk_at_in (show j < gk_rl 4 by show j < 12; omega)]
      exact ih (j + 1) (by omega) _ (by rw [ha, rHeld, h]; simp)
theorem lb_heldBy {σ : gk_C} {nR : Nat} (hn : σ.2 1 = nI nR) (hR : nR ≤ 12) {s : Int32} {Q : Int32 → Prop} (hQ : Q (rHeld (σ.1 4) s nR)) : w_X1_heldBy σ s Q :=
  ⟨nR + 1, by
    have h := lb_heldBy_loop hn hR hQ nR 0 (by omega) 0 rfl
    rwa [nI_0] at h⟩
def rAny (P : Nat → Bool) : Nat → Bool
  | 0 => false
  | n + 1 => rAny P n || P n
theorem rAny_t {P : Nat → Bool} {n : Nat} : rAny P n = true ↔ ∃ j, j < n ∧ P j = true := by
  induction n with
  | zero => simp [rAny]
  | succ n ih =>
    rw [rAny, Bool.or_eq_true, ih]
    constructor
    · rintro (⟨j, h1, h2⟩ | h)
      · exact ⟨j, by omega, h2⟩
      · exact ⟨n, by omega, h⟩
    · rintro ⟨j, h1, h2⟩
      by_cases h : j = n
      · subst h; exact Or.inr h2
      · exact Or.inl ⟨j, by omega, h2⟩
theorem rAny_f {P : Nat → Bool} {n : Nat} : rAny P n = false ↔ ∀ j, j < n → P j = false := by
  constructor
  · intro h j hj
    cases hp : P j
    · rfl
    · rw [rAny_t.mpr ⟨j, hj, hp⟩] at h
      cases h
  · intro h
    cases hp : rAny P n
    · rfl
    · obtain ⟨j, h1, h2⟩ := rAny_t.mp hp
      rw [h j h1] at h2
      cases h2
theorem rAny_congr {P P' : Nat → Bool} {n : Nat} (h : ∀ j, j < n → P j = P' j) : rAny P n = rAny P' n := by
  induction n with
  | zero => rfl
  | succ n ih => rw [rAny, rAny, ih (fun j hj => h j (by omega)), h n (by omega)]
theorem rHeld_b (h : Nat → Int32) (s : Int32) (n i : Nat) : bt (rHeld h s n) i = rAny (fun j => bt s j && bt (h j) i) n := by
  induction n with
  | zero => simp [rHeld, rAny, b_0]
  | succ n ih =>
    rw [rHeld, rAny]
    cases hb : bt s n
    · simp [ih]
    · simp [ih, b_or]
theorem rHeld_congr {h h' : Nat → Int32} {s : Int32} {n : Nat} (e : ∀ j, j < n → h j = h' j) : rHeld h s n = rHeld h' s n := by
  induction n with
  | zero => rfl
  | succ n ih => rw [rHeld, rHeld, ih (fun j hj => e j (by omega)), e n (by omega)]
/-- newest and had, step by step -/
def rNH (h : Nat → Int32) (nR : Nat) (s : Int32) : Nat → Int32 × Int32
  | 0 => (s, s)
  | k + 1 => (rHeld h (rNH h nR s k).1 nR &&& ((rNH h nR s k).2 ^^^ (-1)), (rNH h nR s k).2 ||| (rHeld h (rNH h nR s k).1 nR &&& ((rNH h nR s k).2 ^^^ (-1))))
abbrev rN (h : Nat → Int32) (nR : Nat) (s : Int32) (k : Nat) : Int32 := (rNH h nR s k).1
abbrev rH (h : Nat → Int32) (nR : Nat) (s : Int32) (k : Nat) : Int32 := (rNH h nR s k).2
theorem rNH_congr {h h' : Nat → Int32} {nR : Nat} {s : Int32} (e : ∀ j, j < nR → h j = h' j) (k : Nat) : rNH h nR s k = rNH h' nR s k := by
  induction k with
  | zero => rfl
  | succ k ih => rw [rNH, rNH, ih, rHeld_congr e]
theorem rH_b {h : Nat → Int32} {nR : Nat} {s : Int32} {i : Nat} (k : Nat) : bt (rH h nR s k) i = rAny (fun j => bt (rN h nR s j) i) (k + 1) := by
  induction k with
  | zero =>
    show bt s i = (false || bt s i)
    rw [Bool.false_or]
  | succ k ih =>
    rw [rAny, ← ih]
    show bt ((rNH h nR s k).2 ||| _) i = _
    rw [b_or]
    rfl
theorem rN_b {h : Nat → Int32} {nR : Nat} {s : Int32} {i : Nat} (hi : i < 32) (k : Nat) : bt (rN h nR s (k + 1)) i = (rAny (fun j => bt (rN h nR s k) j && bt (h j) i) nR && !rAny (fun j => bt (rN h nR s j) i) (k + 1)) := by
  show bt (rHeld h (rNH h nR s k).1 nR &&& ((rNH h nR s k).2 ^^^ (-1))) i = _
  rw [b_and, b_not _ hi, rHeld_b, rH_b]
theorem rWk_b {h : Nat → Int32} {nR : Nat} {s : Int32} {i : Nat} (k : Nat) : bt (rWk h nR s (k + 1)) i = rAny (fun j => bt (rWk h nR s k) j && bt (h j) i) nR := rHeld_b _ _ _ _
/-- the newest at k: those that come at k first -/
theorem rN_first {h : Nat → Int32} {nR : Nat} {s : Int32} : ∀ (k : Nat) {i : Nat}, i < 32 → (bt (rN h nR s k) i = true ↔ bt (rWk h nR s k) i = true ∧ ∀ j, j < k → bt (rWk h nR s j) i = false) := by
  intro k
  induction k using Nat.strongRecOn with
  | ind k ih =>
    intro i hi
    cases k with
    | zero => exact ⟨fun h => ⟨h, fun j hj => absurd hj (by omega)⟩, fun h => h.1⟩
    | succ k =>
      rw [rN_b hi, Bool.and_eq_true, rAny_t, Bool.not_eq_true', rAny_f, rWk_b, rAny_t]
      have hearly : (∀ j, j < k + 1 → bt (rN h nR s j) i = false) ↔ ∀ j, j < k + 1 → bt (rWk h nR s j) i = false := by
        constructor
        · intro h1 j
          induction j using Nat.strongRecOn with
          | ind j ihj =>
            intro hj
            cases hb : bt (rWk h nR s j) i
            · rfl
            · have h2 := (ih j hj hi).mpr ⟨hb, fun t ht => ihj t ht (by omega)⟩
              rw [h1 j hj] at h2
              cases h2
        · intro h1 j hj
          cases hb : bt (rN h nR s j) i
          · rfl
          · have h2 := ((ih j hj hi).mp hb).1
            rw [h1 j hj] at h2
            cases h2
      rw [hearly]
      constructor
      · rintro ⟨⟨j, h1, h2⟩, h3⟩
        rw [Bool.and_eq_true] at h2
        by_cases hj : j < 32
        · exact ⟨⟨j, h1, by rw [Bool.and_eq_true]; exact ⟨((ih k (by omega) hj).mp h2.1).1, h2.2⟩⟩, h3⟩
        · rw [b_big (by omega)] at h2
          exact absurd h2.1 (by decide)
      · rintro ⟨⟨j, h1, h2⟩, h3⟩
        rw [Bool.and_eq_true] at h2
        by_cases hj : j < 32
        · refine ⟨⟨j, h1, ?_⟩, h3⟩
          rw [Bool.and_eq_true]
          refine ⟨(ih k (by omega) hj).mpr ⟨h2.1, fun t ht => ?_⟩, h2.2⟩
          cases hb : bt (rWk h nR s t) j
          · rfl
          · have h4 : bt (rWk h nR s (t + 1)) i = true := by
              rw [rWk_b, rAny_t]
              exact ⟨j, h1, by rw [hb, h2.2]; rfl⟩
            rw [h3 (t + 1) (by omega)] at h4
            cases h4
        · rw [b_big (by omega)] at h2
          exact absurd h2.1 (by decide)
/-- where the newest is empty it stays so -/
theorem rN_zero {h : Nat → Int32} {nR : Nat} {s : Int32} {k : Nat} (h0 : rN h nR s k = 0) : ∀ d, rN h nR s (k + d) = 0 ∧ rH h nR s (k + d) = rH h nR s k := by
  intro d
  induction d with
  | zero => exact ⟨h0, rfl⟩
  | succ d ih =>
    have e1 : rHeld h (rNH h nR s (k + d)).1 nR = 0 := by
      rw [show (rNH h nR s (k + d)).1 = 0 from ih.1, b_eq0]
      intro i hi
      rw [rHeld_b, rAny_f]
      intro j _
      simp [b_0]
    have e2 : rHeld h (rNH h nR s (k + d)).1 nR &&& ((rNH h nR s (k + d)).2 ^^^ (-1)) = 0 := by
      rw [e1, b_eq0]
      intro i hi
      simp [b_and, b_0]
    constructor
    · show rHeld h (rNH h nR s (k + d)).1 nR &&& ((rNH h nR s (k + d)).2 ^^^ (-1)) = 0
      exact e2
    · show (rNH h nR s (k + d)).2 ||| (rHeld h (rNH h nR s (k + d)).1 nR &&& ((rNH h nR s (k + d)).2 ^^^ (-1))) = _
      rw [e2]
      apply b_ext
      intro i hi
      rw [b_or, b_0, Bool.or_false]
      exact congrArg (fun z => bt z i) ih.2
theorem lb_hadWith {σ : gk_C} {nR : Nat} (hn : σ.2 1 = nI nR) (hR : nR ≤ 12) {s : Int32} {Q : Int32 → Prop} (hQ : Q (rH (σ.1 4) nR s 12)) : w_X1_hadWith σ s Q := by
  have loop : ∀ (d k : Nat), k + d = 12 → wL_X1_hadWith_7 σ Q (d + 1) (rH (σ.1 4) nR s k) (rN (σ.1 4) nR s k) (nI k) := by
    intro d
    induction d with
    | zero =>
      intro k hk
      have hk : k = 12 := hk
      subst hk
      unfold wL_X1_hadWith_7
      exact ⟨fun _ => hQ, fun h => absurd (by decide) h⟩
    | succ d ih =>
      intro k hk
      unfold wL_X1_hadWith_7
      refine ⟨fun h => absurd h (nI_ge (show k < 12 by omega) (by decide)), fun _ => ⟨fun h => ?_, fun _ => ?_⟩⟩
      · have h1 := (rN_zero h (12 - k)).2
        rw [show k + (12 - k) = 12 by omega] at h1
        rw [← h1]
        exact hQ
      · refine lb_heldBy hn hR ?_
        rw [nI_1]
        exact ih (k + 1) (by omega)
  exact ⟨13, by
    have h := loop 12 0 (by omega)
    rwa [nI_0] at h⟩
/-- by how many steps a role comes first -/
def rNear (h : Nat → Int32) (nR : Nat) (s : Int32) (r : Nat) : Option Nat := (List.range 12).find? (fun k => bt (rN h nR s k) r)
def rNearI (z : Int32) : Option Nat → Int32
  | none => z
  | some k => nI (k + 1)
theorem rNear_some {h : Nat → Int32} {nR : Nat} {s : Int32} {r k : Nat} (hr : r < 32) (hk : k < 12) (h1 : bt (rWk h nR s k) r = true) (h2 : ∀ j, j < k → bt (rWk h nR s j) r = false) : rNear h nR s r = some k := by
  unfold rNear
  rw [List.find?_range_eq_some]
  refine ⟨(rN_first k hr).mpr ⟨h1, h2⟩, List.mem_range.mpr hk, fun j hj => ?_⟩
  cases hb : bt (rN h nR s j) r
  · rfl
  · have h3 := ((rN_first j hr).mp hb).1
    rw [h2 j hj] at h3
    cases h3
theorem rNear_none {h : Nat → Int32} {nR : Nat} {s : Int32} {r : Nat} (hr : r < 32) (h2 : ∀ j, j < 12 → bt (rWk h nR s j) r = false) : rNear h nR s r = none := by
  unfold rNear
  rw [List.find?_eq_none]
  intro k hk
  cases hb : bt (rN h nR s k) r
  · decide
  · have h3 := ((rN_first k hr).mp hb).1
    rw [h2 k (List.mem_range.mp hk)] at h3
    cases h3
theorem rWk_zero {h : Nat → Int32} {nR : Nat} {s : Int32} {k : Nat} (h0 : rWk h nR s k = 0) : ∀ d, rWk h nR s (k + d) = 0 := by
  intro d
  induction d with
  | zero => exact h0
  | succ d ih =>
    rw [b_eq0]
    intro i hi
    rw [show k + (d + 1) = (k + d) + 1 by omega, rWk_b, rAny_f]
    intro j _
    rw [ih, b_0, Bool.false_and]
theorem lb_nearBy {σ : gk_C} {nR : Nat} (hn : σ.2 1 = nI nR) (hR : nR ≤ 12) {s : Int32} {r : Nat} (hr : r < 32) {Q : Int32 → Prop} (hQ : Q (rNearI (-1) (rNear (σ.1 4) nR s r))) : w_X1_nearBy σ s (nI r) Q := by
  have loop : ∀ (d k : Nat), k + d = 12 → (∀ j, j < k → bt (rWk (σ.1 4) nR s j) r = false) → wL_X1_nearBy_5 σ Q (d + 1) (nI r) (rWk (σ.1 4) nR s k) (nI (k + 1)) := by
    intro d
    induction d with
    | zero =>
      intro k hk hj
      have hk : k = 12 := hk
      subst hk
      unfold wL_X1_nearBy_5
      refine ⟨fun _ => ?_, fun h => absurd (by decide) h⟩
      rw [rNear_none hr hj] at hQ
      exact hQ
    | succ d ih =>
      intro k hk hj
      unfold wL_X1_nearBy_5
      refine ⟨fun h => absurd h (nI_nlt (show k + 1 ≤ 12 by omega) (by decide)), fun _ => ⟨fun h => ?_, fun _ => ?_⟩⟩
      · have h1 : ∀ j, j < 12 → bt (rWk (σ.1 4) nR s j) r = false := fun j hj2 => by
          rcases Nat.lt_or_ge j k with q | q
          · exact hj j q
          · have h3 := rWk_zero h (j - k)
            rw [show k + (j - k) = j by omega] at h3
            rw [h3, b_0]
        rw [rNear_none hr h1] at hQ
        exact hQ
      · rw [lb_isIn _ hr]
        refine ⟨fun h => ?_, fun h => ?_⟩
        · rw [b2i_0] at h
          refine lb_heldBy hn hR ?_
          rw [nI_1]
          exact ih (k + 1) (by omega) (fun j hj2 => by
            rcases Nat.lt_or_ge j k with q | q
            · exact hj j q
            · rw [show j = k by omega]; exact h)
        · rw [b2i_n0] at h
          rw [rNear_some hr (by omega) h hj] at hQ
          exact hQ
  exact ⟨13, loop 12 0 (by omega) (fun j hj => absurd hj (by omega))⟩
def rSplit (ap : Nat → Int32) (nR : Nat) (had : Int32) : Bool := rAny (fun r => bt had r && !decide (ap r &&& had = 0)) nR
theorem lb_isSplit {σ : gk_C} {nR : Nat} (hn : σ.2 1 = nI nR) (hR : nR ≤ 12) {s : Int32} {Q : Int32 → Prop} (hQ : Q (b2i (rSplit (σ.1 5) nR s))) : w_X1_isSplit σ s Q := by
  have loop : ∀ (d j : Nat), j + d = nR → (∀ i, i < j → (bt s i && !decide (σ.1 5 i &&& s = 0)) = false) → wL_X1_isSplit_2 σ Q (d + 1) s (nI j) := by
    intro d
    induction d with
    | zero =>
      intro j hj hi
      have hj : j = nR := hj
      subst hj
      unfold wL_X1_isSplit_2
      refine ⟨fun _ => ?_, fun h => absurd (by rw [hn]; exact nI_le (Nat.le_refl _) (by omega)) h⟩
      rw [show rSplit (σ.1 5) j s = false from rAny_f.mpr hi] at hQ
      exact hQ
    | succ d ih =>
      intro j hj hi
      unfold wL_X1_isSplit_2
      refine ⟨fun h => absurd (by rw [hn] at h; exact h) (nI_ge (show j < nR by omega) (by omega)), fun _ => ?_⟩
      rw [lb_isIn s (show j < 32 by omega), gk_at_in (show j < gk_rl 5 by show j < 12; omega), nI_1]
      have step : (bt s j && !decide (σ.1 5 j &&& s = 0)) = false → wL_X1_isSplit_2 σ Q (d + 1) s (nI (j + 1)) := fun h => ih (j + 1) (by omega) (fun i h2 => by
        rcases Nat.lt_or_ge i j with q | q
        · exact hi i q
        · rw [show i = j by omega]; exact h)
      refine ⟨fun h => ?_, fun h => ⟨fun h2 => ?_, fun h2 => ?_⟩⟩
      · rw [b2i_0] at h
        exact step (by rw [h]; rfl)
      · exact step (by simp [h2])
      · rw [b2i_n0] at h
        rw [show rSplit (σ.1 5) nR s = true from rAny_t.mpr ⟨j, by omega, by simp [h, h2]⟩] at hQ
        exact hQ
  exact ⟨nR + 1, by
    have h := loop nR 0 (by omega) (fun i hi => absurd hi (by omega))
    rwa [nI_0] at h⟩
