/-! ===== what the gate alone says ===== -/
theorem cn_mono {P R : Nat → Bool} {n : Nat} (h : ∀ i, i < n → P i = true → R i = true) : cn P n ≤ cn R n := by
  induction n with
  | zero => exact Nat.le_refl _
  | succ n ih =>
    have h1 := ih (fun i hi => h i (by omega))
    rw [cn, cn]
    by_cases hp : P n = true
    · rw [if_pos hp, if_pos (h n (by omega) hp)]; omega
    · rw [if_neg hp]
      by_cases hq : R n = true
      · rw [if_pos hq]; omega
      · rw [if_neg hq]; exact h1
theorem cn_lt {P R : Nat → Bool} {n : Nat} (h : ∀ i, i < n → P i = true → R i = true) {j : Nat} (hj : j < n) (h1 : P j = false) (h2 : R j = true) : cn P n < cn R n := by
  induction n with
  | zero => omega
  | succ n ih =>
    rw [cn, cn]
    by_cases e : j = n
    · subst e
      rw [if_neg (by rw [h1]; decide), if_pos h2]
      have := cn_mono (n := j) (fun i hi => h i (by omega))
      omega
    · have h3 := ih (fun i hi => h i (by omega)) (by omega)
      by_cases hp : P n = true
      · rw [if_pos hp, if_pos (h n (by omega) hp)]; omega
      · rw [if_neg hp]
        by_cases hq : R n = true
        · rw [if_pos hq]; omega
        · rw [if_neg hq]; exact h3
/-- a set has members before n alone -/
def bd (n : Nat) (s : Int32) : Prop := ∀ i, i < 32 → bt s i = true → i < n
section HD
variable {h : Nat → Int32} {nR : Nat} {s : Int32}
theorem bd_rHeld (hb : ∀ k, k < nR → bd nR (h k)) (x : Int32) : bd nR (rHeld h x nR) := by
  intro i hi hbt
  rw [rHeld_b, rAny_t] at hbt
  obtain ⟨j, h1, h2⟩ := hbt
  rw [Bool.and_eq_true] at h2
  exact hb j h1 i hi h2.2
theorem bd_rN (hb : ∀ k, k < nR → bd nR (h k)) (hs : bd nR s) (k : Nat) : bd nR (rN h nR s k) := by
  cases k with
  | zero => exact hs
  | succ k =>
    intro i hi hbt
    have h1 : bt (rHeld h (rNH h nR s k).1 nR &&& ((rNH h nR s k).2 ^^^ (-1))) i = true := hbt
    rw [b_and, Bool.and_eq_true] at h1
    exact bd_rHeld hb _ i hi h1.1
theorem rN12 (hR : nR ≤ 12) (hb : ∀ k, k < nR → bd nR (h k)) (hs : bd nR s) : rN h nR s 12 = 0 := by
  refine Decidable.byContradiction fun hne => ?_
  have hall : ∀ k, k ≤ 12 → ¬ rN h nR s k = 0 := fun k hk h0 => by
    have h1 := (rN_zero h0 (12 - k)).1
    rw [show k + (12 - k) = 12 by omega] at h1
    exact hne h1
  have hex : ∀ k, k ≤ 12 → ∃ i, i < nR ∧ bt (rN h nR s k) i = true := fun k hk => by
    refine Decidable.byContradiction fun hn => hall k hk ?_
    rw [b_eq0]
    intro i hi
    cases hbt : bt (rN h nR s k) i
    · rfl
    · exact absurd ⟨i, bd_rN hb hs k i hi hbt, hbt⟩ hn
  have grow : ∀ k, k ≤ 12 → k + 1 ≤ cn (fun i => bt (rH h nR s k) i) nR := by
    intro k
    induction k with
    | zero =>
      intro _
      obtain ⟨i, h1, h2⟩ := hex 0 (by omega)
      have := cn_lt (P := fun _ => false) (R := fun i => bt (rH h nR s 0) i) (n := nR) (fun _ _ q => by cases q) h1 rfl h2
      omega
    | succ k ih =>
      intro hk
      have h1 := ih (by omega)
      obtain ⟨i, h2, h3⟩ := hex (k + 1) hk
      have h5 := (rN_first (k + 1) (show i < 32 by omega)).mp h3
      have h4 : bt (rH h nR s k) i = false := by
        rw [rH_b, rAny_f]
        intro j hj
        cases hq : bt (rN h nR s j) i
        · rfl
        · have h6 := ((rN_first j (show i < 32 by omega)).mp hq).1
          rw [h5.2 j hj] at h6
          cases h6
      have h7 : ∀ i, i < nR → bt (rH h nR s k) i = true → bt (rH h nR s (k + 1)) i = true := fun i _ q => by
        show bt ((rNH h nR s k).2 ||| _) i = true
        rw [b_or, show bt (rNH h nR s k).2 i = true from q]
        rfl
      have h8 : bt (rH h nR s (k + 1)) i = true := by
        show bt ((rNH h nR s k).2 ||| (rHeld h (rNH h nR s k).1 nR &&& ((rNH h nR s k).2 ^^^ (-1)))) i = true
        rw [b_or, show bt (rHeld h (rNH h nR s k).1 nR &&& ((rNH h nR s k).2 ^^^ (-1))) i = true from h3]
        simp
      have := cn_lt (P := fun i => bt (rH h nR s k) i) (R := fun i => bt (rH h nR s (k + 1)) i) h7 h2 h4 h8
      omega
  have h1 := grow 12 (Nat.le_refl _)
  have h2 := cn_le (fun i => bt (rH h nR s 12) i) nR
  omega
/-- where a role comes first, told of the first k steps -/
def nrK (h : Nat → Int32) (nR : Nat) (s : Int32) (k r : Nat) : Option Nat := (List.range k).find? (fun j => bt (rN h nR s j) r)
theorem nrK_s {k r : Nat} (hr : r < 32) : nrK h nR s (k + 1) r = if bt (rN h nR s k) r = true then some k else nrK h nR s k r := by
  unfold nrK
  rw [List.range_succ, List.find?_append]
  by_cases q : bt (rN h nR s k) r = true
  · rw [if_pos q]
    have h1 := (rN_first k hr).mp q
    rw [List.find?_eq_none.mpr (fun j hj => by
      intro h2
      have h3 := ((rN_first j hr).mp h2).1
      rw [h1.2 j (List.mem_range.mp hj)] at h3
      cases h3)]
    simp [q]
  · rw [if_neg q]
    simp [q]
theorem nrK_end {k r d : Nat} (h0 : rN h nR s k = 0) : nrK h nR s (k + d) r = nrK h nR s k r := by
  induction d with
  | zero => rfl
  | succ d ih =>
    rw [← ih]
    unfold nrK
    rw [show k + (d + 1) = (k + d) + 1 by omega, List.range_succ, List.find?_append]
    have h1 : bt (rN h nR s (k + d)) r = false := by rw [(rN_zero h0 d).1, b_0]
    simp [h1]
end HD
/-- the row of nears of a set -/
def isN (T : gk_C) (s : Int32) (f : Nat → Int32) : Prop := ∀ r, r < 12 → f r = rNearI 99 (rNear (T.1 4) (tR T) s r)
theorem vp_in' {k n : Nat} (h : k < n) (hn : n ≤ 1000) : vp_in (nI k) n := vp_in_nI h (by omega)
def bit2 (i j : Nat) : Int32 := (1 <<< (nI i &&& 31)) ||| (1 <<< (nI j &&& 31))
/-- depths -/
abbrev dN (T : gk_C) (k : Nat) : Nat := nt (T.1 6 k)
theorem wf_dN {T : gk_C} (h : wf T) {k : Nat} (hk : k < tT T) : T.1 6 k = nI (dN T k) ∧ dN T k ≤ 23 := by
  obtain ⟨d, h1, h2⟩ := wf_dep h k hk
  have h3 := (wf_T h).2.2
  unfold dN nt
  rw [h2, nI_clamp (by omega)]
  exact ⟨rfl, by omega⟩
theorem bene_0 {T : gk_C} (h : wf T) (a : Nat) : bene T 0 a = decide (0 = a) := by
  unfold bene
  rw [h.2.2.1.1, b_0, Bool.or_false]
theorem bene_up {T : gk_C} {r p a : Nat} (hra : ¬ r = a) (hp : p < 32) (ha : a < 32) (h : T.1 7 r = T.1 7 p ||| (1 <<< (nI p &&& 31))) : bene T r a = bene T p a := by
  unfold bene
  rw [decide_eq_false hra, Bool.false_or, h, b_or, b_bit hp ha, Bool.or_comm]
  congr 1
  rw [decide_eq_decide]
  exact eq_comm
theorem dN_le {T : gk_C} (h : wf T) {a : Nat} (ha : a < tT T) : ∀ r, r < tT T → bene T r a = true → dN T a ≤ dN T r := by
  intro r
  induction r using Nat.strongRecOn with
  | ind r ih =>
    intro hr hb
    have hT := (wf_T h).2.2
    by_cases e : r = a
    · rw [e]; exact Nat.le_refl _
    · by_cases h0 : r = 0
      · subst h0
        rw [bene_0 h, decide_eq_false e] at hb
        cases hb
      · obtain ⟨p, p1, p2, p3⟩ := h.2.2.1.2.2 r (by omega) hr
        rw [bene_up e (by omega) (by omega) p2] at hb
        have h1 := ih p p1 (by omega) hb
        have h2 := wf_dN h hr
        have h3 := wf_dN h (show p < tT T by omega)
        rw [p3, h3.1, nI_1] at h2
        have h4 := (nI_eq (by omega) (by omega)).mp h2.1
        omega
def farI (T : gk_C) (r a : Nat) : Int32 := if bene T r a = true then T.1 6 r - T.1 6 a else -1
theorem farI_t {T : gk_C} (h : wf T) {r a : Nat} (hr : r < tT T) (ha : a < tT T) (hb : bene T r a = true) : farI T r a = nI (dN T r - dN T a) ∧ dN T a ≤ dN T r := by
  have h1 := dN_le h ha r hr hb
  unfold farI
  rw [if_pos hb, (wf_dN h hr).1, (wf_dN h ha).1, nI_sub' h1]
  exact ⟨rfl, h1⟩
theorem farI_m1 {T : gk_C} (h : wf T) {r a : Nat} (hr : r < tT T) (ha : a < tT T) : decide (farI T r a = -1) = !bene T r a := by
  cases hb : bene T r a
  · unfold farI
    rw [if_neg (by rw [hb]; decide)]
    decide
  · obtain ⟨h1, h2⟩ := farI_t h hr ha hb
    have h3 := (wf_dN h hr).2
    rw [h1]
    refine decide_eq_false (fun q => ?_)
    exact nI_pos (show dN T r - dN T a < 2 ^ 31 by omega) (by rw [q]; decide)
section MD
variable {T μ : gk_C}
/-- a rule fits, whoever it is for -/
def fit (lo : Nat → Bool) (T : gk_C) (u a r k : Nat) : Bool := !lo k && ruN T k && trt T u k && act T k a && whr T k r
theorem mat_fit (lo : Nat → Bool) (T : gk_C) (u : Nat) (s : Int32) (a r k : Nat) : mat lo T u s a r k = (fit lo T u a r k && (stO T u s k).isSome) := by
  unfold mat fit mU
  cases !lo k <;> cases ruN T k <;> cases trt T u k <;> cases (stO T u s k).isSome <;> cases act T k a <;> cases whr T k r <;> rfl
theorem trt_eq (x y : Int32) : decide (y &&& (x ^^^ (-1)) = 0) = decide (x &&& y = y) := by
  rw [decide_eq_decide]
  constructor
  · intro h
    rw [b_eq0] at h
    apply b_ext
    intro i hi
    have h1 := h i hi
    rw [b_and, b_not _ hi] at h1
    rw [b_and]
    cases hx : bt x i <;> cases hy : bt y i <;> simp [hx, hy] at h1 ⊢
  · intro h
    rw [b_eq0]
    intro i hi
    rw [b_and, b_not _ hi]
    have h1 : bt (x &&& y) i = bt y i := by rw [h]
    rw [b_and] at h1
    cases hx : bt x i <;> cases hy : bt y i <;> simp [hx, hy] at h1 ⊢
theorem rNear_lt {h : Nat → Int32} {nR : Nat} {s : Int32} {r k : Nat} (hq : rNear h nR s r = some k) : k < 12 := by
  unfold rNear at hq
  exact List.mem_range.mp (List.mem_of_find?_eq_some hq)
theorem rN1_lt {s : Int32} {r k : Nat} (hq : rN1 T s r = some k) : k ≤ 12 ∧ 1 ≤ k := by
  unfold rN1 at hq
  cases h : rNear (T.1 4) (tR T) s r with
  | none => rw [h] at hq; cases hq
  | some j =>
    rw [h] at hq
    cases hq
    have := rNear_lt h
    exact ⟨by show j + 1 ≤ 12; omega, by show 1 ≤ j + 1; omega⟩
theorem isN_r {s : Int32} {f : Nat → Int32} (hN : isN T s f) {r : Nat} (hr : r < 12) : (rN1 T s r = none ∧ f r = 99) ∨ ∃ k, rN1 T s r = some k ∧ f r = nI k ∧ k ≤ 12 := by
  have h1 := hN r hr
  unfold rN1
  cases h : rNear (T.1 4) (tR T) s r with
  | none =>
    rw [h] at h1
    exact Or.inl ⟨rfl, h1⟩
  | some j =>
    rw [h] at h1
    have := rNear_lt h
    exact Or.inr ⟨j + 1, rfl, h1, by omega⟩
theorem isN_99 {s : Int32} {f : Nat → Int32} (hN : isN T s f) {r : Nat} (hr : r < 12) : decide (99 ≤ f r) = !(rN1 T s r).isSome := by
  rcases isN_r hN hr with ⟨h1, h2⟩ | ⟨k, h1, h2, h3⟩
  · rw [h1, h2]; decide
  · rw [h1, h2]
    exact decide_eq_false (nI_ge (b := 99) (by omega) (by decide))
end MD
section WE
variable {T μ : gk_C}
/-- the weight where those that allow, or those that deny, are first -/
def w01 (T : gk_C) (fl : Bool) (k : Nat) : Int32 := if decide (T.1 11 k = 1) = fl then 0 else 1
theorem w01_le (T : gk_C) (fl : Bool) (k j : Nat) : w01 T fl k ≤ w01 T fl j ↔ (decide (T.1 11 k = 1) = fl ∨ ¬ decide (T.1 11 j = 1) = fl) := by
  unfold w01
  by_cases h1 : decide (T.1 11 k = 1) = fl
  · rw [if_pos h1]
    by_cases h2 : decide (T.1 11 j = 1) = fl
    · rw [if_pos h2]; exact ⟨fun _ => Or.inl h1, fun _ => by decide⟩
    · rw [if_neg h2]; exact ⟨fun _ => Or.inl h1, fun _ => by decide⟩
  · rw [if_neg h1]
    by_cases h2 : decide (T.1 11 j = 1) = fl
    · rw [if_pos h2]; exact ⟨fun q => absurd q (by decide), fun q => by rcases q with q | q; exact absurd q h1; exact absurd h2 q⟩
    · rw [if_neg h2]; exact ⟨fun _ => Or.inr h2, fun _ => by decide⟩
theorem al_b2i {x : Int32} (h : x = 0 ∨ x = 1) : x = b2i (decide (x = 1)) := by
  rcases h with rfl | rfl <;> rfl
theorem b2i_inj (a b : Bool) : (b2i a = b2i b) = (a = b) := by cases a <;> cases b <;> simp [b2i]
/-- those of the least number -/
def mnB (P : Nat → Bool) (nu : Nat → Int32) (n k : Nat) : Bool := P k && !rAny (fun j => P j && !decide (nu k ≤ nu j)) n
theorem mnB_t {P : Nat → Bool} {nu : Nat → Int32} {n k : Nat} : mnB P nu n k = true ↔ P k = true ∧ ∀ j, j < n → P j = true → nu k ≤ nu j := by
  unfold mnB
  rw [Bool.and_eq_true, Bool.not_eq_true', rAny_f]
  constructor
  · rintro ⟨h1, h2⟩
    refine ⟨h1, fun j hj hp => ?_⟩
    have h3 := h2 j hj
    rw [hp] at h3
    simpa using h3
  · rintro ⟨h1, h2⟩
    refine ⟨h1, fun j hj => ?_⟩
    cases hp : P j
    · rfl
    · simpa using h2 j hj hp
theorem bmS {x : Int} (h1 : -1000 ≤ x) (h2 : x ≤ 1000) : x.bmod (2 ^ 32) = x := Int.bmod_eq_of_le (by omega) (by omega)
/-- the parts of a weight, as numbers -/
theorem wt_num (hw : wf T) {wgh : Int32} {u k st : Nat} {s : Int32} (hk : k < tL T) (hst : stO T u s k = some st) (h12 : st ≤ 12) :
    ∃ (d rk g : Nat), d = dN T (ab T k) ∧ d ≤ 23 ∧ T.1 16 k = nI rk ∧ rk ≤ 9 ∧ g ≤ 1 ∧ (w01 T (decide (wgh = 1)) k).toInt = g ∧
    (wgh = 2 → (wt T wgh u s k).toInt = 2 * ((st : Int) - 16 * d) + g) ∧ (¬ wgh = 2 → wgh = 3 → (wt T wgh u s k).toInt = -2 * (rk : Int) + g) ∧ (¬ wgh = 2 → ¬ wgh = 3 → (wt T wgh u s k).toInt = (g : Int)) := by
  obtain ⟨h1, h2⟩ := wf_ab hw hk
  obtain ⟨h3, h4⟩ := wf_dN hw h2
  obtain ⟨rk, -, r1, r2⟩ := (hw.2.2.2.2.1 k hk).2.2.2.2
  have hg : ∃ g : Nat, g ≤ 1 ∧ (w01 T (decide (wgh = 1)) k) = nI g := by
    unfold w01
    by_cases q : decide (T.1 11 k = 1) = decide (wgh = 1)
    · rw [if_pos q]; exact ⟨0, by omega, rfl⟩
    · rw [if_neg q]; exact ⟨1, by omega, rfl⟩
  obtain ⟨g, g1, g2⟩ := hg
  have e : wt T wgh u s k = (if wgh = 2 then nI st - 16 * nI (dN T (ab T k)) else if wgh = 3 then -(nI rk) else 0) * 2 + nI g := by
    unfold wt wtI
    rw [hst, ← h3, ← r2, ← g2]
    rfl
  have t2 : (2 : Int32).toInt = 2 := by decide
  have t16 : (16 : Int32).toInt = 16 := by decide
  refine ⟨dN T (ab T k), rk, g, rfl, h4, r2, r1, g1, by rw [g2, nI_toInt (by omega)], fun q => ?_, fun q q2 => ?_, fun q q2 => ?_⟩
  · rw [e, if_pos q, Int32.toInt_add, Int32.toInt_mul, Int32.toInt_sub, Int32.toInt_mul, nI_toInt (by omega), nI_toInt (by omega), nI_toInt (by omega), t2, t16, bmS (x := 16 * (dN T (ab T k) : Int)) (by omega) (by omega), bmS (x := (st : Int) - 16 * (dN T (ab T k) : Int)) (by omega) (by omega), bmS (x := ((st : Int) - 16 * (dN T (ab T k) : Int)) * 2) (by omega) (by omega), bmS (by omega) (by omega)]
    omega
  · rw [e, if_neg q, if_pos q2, Int32.toInt_add, Int32.toInt_mul, Int32.toInt_neg, nI_toInt (by omega), nI_toInt (by omega), t2, bmS (x := -(rk : Int)) (by omega) (by omega), bmS (x := -(rk : Int) * 2) (by omega) (by omega), bmS (by omega) (by omega)]
    omega
  · rw [e, if_neg q, if_neg q2, Int32.zero_mul, Int32.zero_add, nI_toInt (by omega)]
/-- one narrowing after the other: the best of those of the least number is the best -/
theorem bs_mn {P : Nat → Bool} {nu w v : Nat → Int32} {n : Nat} (h1 : ∀ i j, i < n → j < n → P i = true → P j = true → w i ≤ w j → nu i ≤ nu j) (h2 : ∀ i j, i < n → j < n → P i = true → P j = true → nu i = nu j → (w i ≤ w j ↔ v i ≤ v j)) : bs (mnB P nu n) v n = bs P w n := by
  cases hb : bs P w n with
  | none =>
    rw [bs_none] at hb ⊢
    intro j hj
    unfold mnB
    rw [hb j hj]; rfl
  | some b =>
    obtain ⟨b1, b2, b3, b4⟩ := bs_isB.1 b hb
    have hmin : ∀ j, j < n → P j = true → nu b ≤ nu j := fun j hj hp => h1 b j b1 hj b2 hp (b3 j hj hp)
    have heq : ∀ j, j < n → mnB P nu n j = true → P j = true ∧ nu b = nu j := fun j hj hm => by
      obtain ⟨m1, m2⟩ := mnB_t.mp hm
      exact ⟨m1, Int32.le_antisymm (hmin j hj m1) (m2 b b1 b2)⟩
    apply bs_eq
    refine ⟨b1, mnB_t.mpr ⟨b2, hmin⟩, fun j hj hm => ?_, fun j hj hm => ?_⟩
    · obtain ⟨m1, m2⟩ := heq j hj hm
      exact (h2 b j b1 hj b2 m1 m2).mp (b3 j hj m1)
    · obtain ⟨m1, m2⟩ := heq j (by omega) hm
      exact fun q => b4 j hj m1 ((h2 j b (by omega) b1 m1 b2 m2.symm).mpr q)
theorem i32le {x y : Int32} : x ≤ y ↔ x.toInt ≤ y.toInt := Int32.le_iff_toInt_le
end WE
def barI (T : gk_C) (u a r : Nat) : Int32 := if lab T u a r = true then 4 else if wal T u r = true then 5 else 0
section M2
variable {T μ : gk_C}
theorem mat_ok {lo : Nat → Bool} {u : Nat} {s : Int32} {a r k : Nat} (h : mat lo T u s a r k = true) : bene T r (ab T k) = true ∧ (stO T u s k).isSome = true := by
  unfold mat mU whr at h
  simp only [Bool.and_eq_true, Bool.or_eq_true, decide_eq_true_eq] at h
  refine ⟨?_, h.1.1.2⟩
  rcases h.2 with q | q
  · unfold bene
    rw [decide_eq_true q]; rfl
  · exact q.2
theorem mb_0 {P : Nat → Bool} {n : Nat} (hn : n ≤ 32) : mb P n = 0 ↔ ∀ k, k < n → P k = false := by
  rw [b_eq0]
  constructor
  · intro h k hk
    have h1 := h k (by omega)
    rw [mb_b _ hn (by omega), decide_eq_true hk, Bool.true_and] at h1
    exact h1
  · intro h i hi
    rw [mb_b _ hn hi]
    by_cases q : i < n
    · rw [h i q, Bool.and_false]
    · rw [decide_eq_false q]; rfl
theorem bs_lt30 (hw : wf T) {P : Nat → Bool} {w : Nat → Int32} {b : Nat} (h : bs P w (tL T) = some b) : b < 30 ∧ b < tL T := by
  have := (bs_lt h).1
  have := (wf_L hw).2
  omega
end M2
/-- a thing of users, actions and resources, told by one number -/
def fl {α : Type} (T : gk_C) (F : Nat → Nat → Nat → α) (j : Nat) : α := F (j / tT T / 5) (j / tT T % 5) (j % tT T)
theorem fl_at {α : Type} {T : gk_C} (F : Nat → Nat → Nat → α) {u a r : Nat} (ha : a < 5) (hr : r < tT T) : fl T F ((u * 5 + a) * tT T + r) = F u a r := by
  have h1 : ((u * 5 + a) * tT T + r) / tT T = u * 5 + a := by
    rw [Nat.mul_comm, Nat.mul_add_div (by omega), Nat.div_eq_of_lt hr, Nat.add_zero]
  have h2 : ((u * 5 + a) * tT T + r) % tT T = r := by
    rw [Nat.mul_comm, Nat.mul_add_mod, Nat.mod_eq_of_lt hr]
  unfold fl
  rw [h1, h2, show (u * 5 + a) / 5 = u by omega, show (u * 5 + a) % 5 = a by omega]
theorem fl_row (T : gk_C) (u a : Nat) : (u * 5 + a) * tT T + tT T = (u * 5 + (a + 1)) * tT T := by rw [← Nat.add_assoc, Nat.succ_mul]
theorem fl_usr (T : gk_C) (u : Nat) : (u * 5 + 5) * tT T = ((u + 1) * 5 + 0) * tT T := by congr 1; omega
theorem fl_le {T : gk_C} (hw : wf T) {u a r : Nat} (hu : u < tU T) (ha : a < 5) (hr : r < tT T) : (u * 5 + a) * tT T + r < tU T * 5 * tT T := by
  have h1 : (u * 5 + a + 1) * tT T ≤ tU T * 5 * tT T := Nat.mul_le_mul_right _ (by omega)
  rw [Nat.succ_mul] at h1
  omega
theorem fl_1440 {T : gk_C} (hw : wf T) : tU T * 5 * tT T ≤ 1440 := by
  have hU := (wf_U hw).2
  have hT := (wf_T hw).2.2
  exact Nat.mul_le_mul (show tU T * 5 ≤ 60 by omega) hT
theorem fl_all {T : gk_C} {P : Nat → Prop} (h : ∀ u a r, u < tU T → a < 5 → r < tT T → P ((u * 5 + a) * tT T + r)) : ∀ j, j < tU T * 5 * tT T → P j := by
  intro j hj
  have ht : 0 < tT T := by
    rcases Nat.eq_zero_or_pos (tT T) with q | q
    · rw [q, Nat.mul_zero] at hj; omega
    · exact q
  have h1 : j / tT T < tU T * 5 := (Nat.div_lt_iff_lt_mul ht).mpr hj
  have h2 := h (j / tT T / 5) (j / tT T % 5) (j % tT T) (by omega) (by omega) (Nat.mod_lt _ ht)
  rw [show j / tT T / 5 * 5 + j / tT T % 5 = j / tT T by omega, Nat.mul_comm, Nat.div_add_mod] at h2
  exact h2
section TB
variable {T μ : gk_C}
end TB
section TG
variable {T σ : gk_C} {lo lo' : Nat → Bool} {wgh wgh' : Int32} {S S' : Nat → Int32}
theorem lb_diff (H : vw 0 lo T wgh S (tU T) σ) (H' : vw 1 lo' T wgh' S' (tU T) σ) (hw : wf T) (hG : σ.2 (11 + 4 * 0) = gd lo T wgh S) (hG' : σ.2 (11 + 4 * 1) = gd lo' T wgh' S') {Q : Int32 → Prop} (hQ : Q (nI (cn (fun j => !decide (fl T (dec lo T wgh S) j = fl T (dec lo' T wgh' S') j)) (tU T * 5 * tT T)))) : w_X7_differences σ Q := by
  have hU := wf_U hw
  have hT := wf_T hw
  have hnU : σ.2 0 = nI (tU T) := (ts H.1 (by decide)).trans hU.1
  have hnT : σ.2 3 = nI (tT T) := (ts H.1 (by decide)).trans hT.1
  unfold w_X7_differences
  have l := lpUp (A := Int32) (n := tU T) (W := fun f u z => wL_X7_differences_4 σ Q f z (nI u)) (J := fun u z => z = nI (cn (fun j => !decide (fl T (dec lo T wgh S) j = fl T (dec lo' T wgh' S') j)) ((u * 5 + 0) * tT T))) ?_ ?_ (tU T) 0 0 (Nat.zero_add _) (by rw [Nat.zero_mul]; rfl)
  · exact ⟨_, l⟩
  · intro f z hz
    unfold wL_X7_differences_4
    rw [hnU]
    exact ⟨fun _ => by rw [hz]; exact hQ, fun q => absurd (nI_le (Nat.le_refl _) (by omega)) q⟩
  · intro f u z hu hz next
    unfold wL_X7_differences_4
    rw [hnU]
    refine ⟨fun q => absurd q (nI_ge hu (by omega)), fun _ => ?_⟩
    have l2 := lpUp (A := Int32) (n := 5) (W := fun f2 a z => wL_X7_differences_21 σ (fun x2 x3 => (wL_X7_differences_4 σ Q f x2 (x3 + 1))) f2 z (nI u) (nI a)) (J := fun a z => z = nI (cn (fun j => !decide (fl T (dec lo T wgh S) j = fl T (dec lo' T wgh' S') j)) ((u * 5 + a) * tT T))) ?_ ?_ 5 0 z (Nat.zero_add _) hz
    · exact ⟨_, l2⟩
    · intro f2 z hz
      unfold wL_X7_differences_21
      refine ⟨fun _ => ?_, fun q => absurd (by decide) q⟩
      show wL_X7_differences_4 σ Q f z (nI u + 1)
      rw [nI_1]
      exact next z (by rw [hz, fl_usr])
    · intro f2 a z ha hz next2
      unfold wL_X7_differences_21
      refine ⟨fun q => absurd q (nI_ge (b := 5) ha (by decide)), fun _ => ?_⟩
      have l3 := lpUp (A := Int32) (n := tT T) (W := fun f3 r z => wL_X7_differences_30 σ (fun x2 x3 x4 => (wL_X7_differences_21 σ (fun x2 x3 => (wL_X7_differences_4 σ Q f x2 (x3 + 1))) f2 x2 x3 (x4 + 1))) f3 z (nI u) (nI a) (nI r)) (J := fun r z => z = nI (cn (fun j => !decide (fl T (dec lo T wgh S) j = fl T (dec lo' T wgh' S') j)) ((u * 5 + a) * tT T + r))) ?_ ?_ (tT T) 0 z (Nat.zero_add _) hz
      · exact ⟨_, l3⟩
      · intro f3 z hz
        unfold wL_X7_differences_30
        rw [hnT]
        refine ⟨fun _ => ?_, fun q => absurd (nI_le (Nat.le_refl _) (by omega)) q⟩
        show wL_X7_differences_21 σ _ f2 z (nI u) (nI a + 1)
        rw [nI_1]
        exact next2 z (by rw [hz, fl_row])
      · intro f3 r z hr hz next3
        unfold wL_X7_differences_30
        rw [hnT, nI_1 r]
        refine ⟨fun q => absurd q (nI_ge hr (by omega)), fun _ => ?_⟩
        refine lb_decided H (by decide) hw (Nat.le_refl _) hu ha hr ?_
        refine lb_decided H' (by decide) hw (Nat.le_refl _) hu ha hr ?_
        rw [hG, hG']
        have e1 : fl T (dec lo T wgh S) ((u * 5 + a) * tT T + r) = dec lo T wgh S u a r := fl_at _ ha hr
        have e2 : fl T (dec lo' T wgh' S') ((u * 5 + a) * tT T + r) = dec lo' T wgh' S' u a r := fl_at _ ha hr
        refine ⟨fun q => next3 z ?_, fun q => next3 (z + 1) ?_⟩
        · have q : dec lo T wgh S u a r = dec lo' T wgh' S' u a r := q
          show z = nI (cn _ ((u * 5 + a) * tT T + r + 1))
          rw [cn_f (P := fun j => !decide (fl T (dec lo T wgh S) j = fl T (dec lo' T wgh' S') j)) (by simp only [e1, e2, q]; simp)]
          exact hz
        · have q : ¬ dec lo T wgh S u a r = dec lo' T wgh' S' u a r := q
          show z + 1 = nI (cn _ ((u * 5 + a) * tT T + r + 1))
          rw [cn_t (P := fun j => !decide (fl T (dec lo T wgh S) j = fl T (dec lo' T wgh' S') j)) (by simp only [e1, e2]; simp [q]), hz, nI_1]
end TG
section WN
variable {T μ : gk_C}
end WN
/-- what else holds of what is told: nobody has two that are apart, what isn't there is empty -/
def jX (T : gk_C) : Prop :=
  (∀ u, tU T ≤ u → u < 12 → T.1 2 u = 0) ∧
  (∀ u, u < tU T → rSplit (T.1 5) (tR T) (rH (T.1 4) (tR T) (T.1 2 u) 12) = false) ∧
  (∀ k, k < 12 → bd (tR T) (T.1 4 k)) ∧
  (∀ k, k < 24 → T.1 9 k = -1 ∨ (jN (T.1 9 k) 0 3 ∧ jN (T.1 10 k) 0 3))
theorem rH_0 (h : Nat → Int32) (nR : Nat) : rH h nR 0 12 = 0 := by
  have h1 := (rN_zero (h := h) (nR := nR) (s := 0) (k := 0) rfl 12).2
  rw [Nat.zero_add] at h1
  rw [h1]
  rfl
theorem rSplit_0 (ap : Nat → Int32) (nR : Nat) : rSplit ap nR 0 = false := rAny_f.mpr (fun r _ => by rw [b_0, Bool.false_and])
theorem num_eq {x : Int32} {n : Nat} (h : x = nI n) (hn : n ≤ 1000) : nt x = n := by
  rw [h]
  exact nI_clamp (by omega)
theorem upE {f g : Nat → Int32} {n : Nat} (k : Nat) (a : Int32) (h : ∀ j, j < n → f j = g j) : ∀ j, j < n → upd f k a j = upd g k a j := fun j hj => by
  by_cases e : j = k
  · rw [e, up_at, up_at]
  · rw [up_ne _ _ e, up_ne _ _ e]; exact h j hj
/-- a role more changes nothing for those who don't have it -/
theorem rNH_more {h : Nat → Int32} {nR : Nat} {s : Int32} (hR : nR < 32) (hb : ∀ k, k < nR → bd nR (h k)) (hs : bd nR s) (k : Nat) : rNH h (nR + 1) s k = rNH h nR s k := by
  induction k with
  | zero => rfl
  | succ k ih =>
    have e : rHeld h (rNH h nR s k).1 (nR + 1) = rHeld h (rNH h nR s k).1 nR := by
      rw [rHeld, if_neg]
      intro q
      exact absurd (bd_rN hb hs k nR hR q) (by omega)
    rw [rNH, rNH, ih, e]
theorem bd_rH {h : Nat → Int32} {nR : Nat} {s : Int32} (hb : ∀ k, k < nR → bd nR (h k)) (hs : bd nR s) (k : Nat) : bd nR (rH h nR s k) := by
  intro i hi hbt
  rw [rH_b, rAny_t] at hbt
  obtain ⟨j, -, h2⟩ := hbt
  exact bd_rN hb hs j i hi h2
theorem bd_le {n m : Nat} {s : Int32} (h : bd n s) (hnm : n ≤ m) : bd m s := fun i hi hb => by have := h i hi hb; omega
/-- a number of one that is there -/
def vld (n : Nat) (a : Int32) : Bool := !decide (a < 0) && !decide (nI n ≤ a)
theorem vld_ex {n : Nat} (hn : n ≤ 1000) {a : Int32} (h : vld n a = true) : ∃ k, k < n ∧ a = nI k := by
  unfold vld at h
  simp only [Bool.and_eq_true, Bool.not_eq_true', decide_eq_false_iff_not] at h
  exact lo_ge (by omega) h.1 h.2
theorem lb_vld {c : Int32} {n : Nat} (hc : c = nI n) {a : Int32} {Q : Int32 → Prop} (hQ : Q (b2i (vld n a))) : (a < 0 → Q 0) ∧ (¬ a < 0 → (c ≤ a → Q 0) ∧ (¬ c ≤ a → Q 1)) := by
  subst hc
  unfold vld at hQ
  refine dec_go (fun h => ?_) (fun h => ?_)
  · rw [h] at hQ; exact hQ
  · rw [h] at hQ
    refine dec_go (fun h2 => ?_) (fun h2 => ?_) <;> · rw [h2] at hQ; exact hQ
section VG
variable {σ T : gk_C} {a : Int32} {Q : Int32 → Prop}
theorem lb_isUser (h : told σ = T) (hw : wf T) (hQ : Q (b2i (vld (tU T) a))) : w_X8_isUser σ a Q := by
  unfold w_X8_isUser
  exact lb_vld ((ts h (show 0 < 8 by decide)).trans (wf_U hw).1) hQ
theorem lb_isRole (h : told σ = T) (hw : wf T) (hQ : Q (b2i (vld (tR T) a))) : w_X8_isRole σ a Q := by
  unfold w_X8_isRole
  exact lb_vld ((ts h (show 1 < 8 by decide)).trans (wf_R hw).1) hQ
theorem lb_isRes (h : told σ = T) (hw : wf T) (hQ : Q (b2i (vld (tT T) a))) : w_X8_isResource σ a Q := by
  unfold w_X8_isResource
  exact lb_vld ((ts h (show 3 < 8 by decide)).trans (wf_T hw).1) hQ
theorem lb_isRule (h : told σ = T) (hw : wf T) (hQ : Q (b2i (vld (tL T) a))) : w_X8_isRule σ a Q := by
  unfold w_X8_isRule
  exact lb_vld ((ts h (show 4 < 8 by decide)).trans (wf_L hw).1) hQ
theorem lb_isGrant (h : told σ = T) (hw : wf T) (hQ : Q (b2i (vld (tG T) a))) : w_X8_isGrant σ a Q := by
  unfold w_X8_isGrant
  exact lb_vld ((ts h (show 5 < 8 by decide)).trans (wf_G hw).1) hQ
theorem lb_isAction (hQ : Q (b2i (vld 5 a))) : w_X8_isAction a Q := by
  unfold w_X8_isAction
  exact lb_vld (n := 5) rfl hQ
end VG
section VM
variable {μ T : gk_C} {a : Int32} {Q : Int32 → Prop}
end VM
def vA (T : gk_C) (a0 a1 a2 : Int32) : Bool := vld (tU T) a0 && (vld 5 a1 && vld (tT T) a2)
theorem vA_ex {T : gk_C} (hw : wf T) {a0 a1 a2 : Int32} (h : vA T a0 a1 a2 = true) : ∃ u a r, u < tU T ∧ a < 5 ∧ r < tT T ∧ a0 = nI u ∧ a1 = nI a ∧ a2 = nI r := by
  unfold vA at h
  rw [Bool.and_eq_true, Bool.and_eq_true] at h
  have hU := (wf_U hw).2
  have hT := (wf_T hw).2.2
  obtain ⟨u, h1, h2⟩ := vld_ex (by omega) h.1
  obtain ⟨a, h3, h4⟩ := vld_ex (by omega) h.2.1
  obtain ⟨r, h5, h6⟩ := vld_ex (by omega) h.2.2
  exact ⟨u, a, r, h1, h3, h5, h2, h4, h6⟩
theorem lo_m1 {T μ : gk_C} (hw : wf T) (h : μ.2 35 = -1) : ∀ k, k < tL T → decide (nI k = μ.2 35) = no0 k := fun k hk => by
  rw [h]
  refine decide_eq_false (fun q => ?_)
  have hL := (wf_L hw).2
  exact nI_pos (show k < 2 ^ 31 by omega) (by rw [q]; decide)
theorem b0_lo {T : gk_C} : ∀ k, k < tL T → bt 0 k = no0 k := fun k _ => b_0 k
theorem rul_rng (lo : Nat → Bool) (T : gk_C) (wgh : Int32) (u : Nat) (s : Int32) (a r : Nat) : ∃ n, n < 6 ∧ rul lo T wgh u s a r = nI n := by
  unfold rul
  by_cases h1 : lab T u a r = true
  · rw [if_pos h1]; exact ⟨4, by decide, rfl⟩
  · rw [if_neg h1]
    by_cases h2 : wal T u r = true
    · rw [if_pos h2]; exact ⟨5, by decide, rfl⟩
    · rw [if_neg h2]
      cases bs (mat lo T u s a r) (wt T wgh u s) (tL T) with
      | none => exact ⟨0, by decide, rfl⟩
      | some k =>
        unfold rulO
        by_cases h3 : T.1 11 k = 1
        · simp only [h3, if_true]; exact ⟨1, by decide, rfl⟩
        · simp only [h3, if_false]; exact ⟨2, by decide, rfl⟩
theorem dec_rng (lo : Nat → Bool) (T : gk_C) (wgh : Int32) (S : Nat → Int32) (u a r : Nat) : ∃ n, n < 6 ∧ dec lo T wgh S u a r = nI n := by
  unfold dec dcd
  by_cases h : rul lo T wgh u (S u) a r = 0 ∧ (gfr T (gd lo T wgh S) u a r).isSome = true
  · rw [if_pos h]; exact ⟨3, by decide, rfl⟩
  · rw [if_neg h]; exact rul_rng lo T wgh u (S u) a r
theorem cn_0 {P : Nat → Bool} {n : Nat} : decide (nI (cn P n) = 0) = true ∨ decide (nI (cn P n) = 0) = false := by
  cases decide (nI (cn P n) = 0) <;> simp
theorem fl_off (T : gk_C) (u a r : Nat) : u * 5 * tT T + (a * tT T + r) = (u * 5 + a) * tT T + r := by
  rw [Nat.add_mul, Nat.add_assoc]
theorem bd_or {n : Nat} {x y : Int32} (hx : bd n x) (hy : bd n y) : bd n (x ||| y) := fun i hi hb => by
  rw [b_or, Bool.or_eq_true] at hb
  rcases hb with q | q
  · exact hx i hi q
  · exact hy i hi q
theorem bd_bit {n r : Nat} (hr : r < n) (h32 : n ≤ 32) : bd n (1 <<< (nI r &&& 31)) := fun i hi hb => by
  rw [b_bit (by omega) hi, decide_eq_true_eq] at hb
  omega
theorem put' (σ : gk_C) (r n : Nat) (v : Int32) (h : n < gk_rl r) (h31 : n < 2 ^ 31) (f : Nat → Int32) (hf : σ.1 r = f) : gk_put σ r (nI n) v = gk_r σ r (upd f n v) := by
  rw [← hf]
  exact gk_put_in σ r n v h h31
theorem nar_b {x : Int32} (h : x = 0 ∨ x = 1) : vp_nar .boolean x = x := by
  rcases h with rfl | rfl <;> rfl
def vG (T : gk_C) (a0 a1 a2 a3 : Int32) : Bool := vld (tU T) a0 && (vld (tU T) a1 && (vld 5 a2 && vld (tT T) a3))
def vW (T : gk_C) (a1 a3 : Int32) : Bool := (if a1 < 12 then vld (tU T) a1 else vld (tR T) (a1 - 12)) && vld (tT T) a3
theorem vW_ex {T : gk_C} (hw : wf T) {a1 a3 : Int32} (h : vW T a1 a3 = true) : ((∃ u, u < tU T ∧ a1 = nI u) ∨ ∃ r, r < tR T ∧ a1 = nI (12 + r)) ∧ ∃ r, r < tT T ∧ a3 = nI r := by
  unfold vW at h
  rw [Bool.and_eq_true] at h
  have hU := (wf_U hw).2
  have hT := (wf_T hw).2.2
  have hR := (wf_R hw).2
  refine ⟨?_, vld_ex (by omega) h.2⟩
  by_cases c : a1 < 12
  · rw [if_pos c] at h
    exact Or.inl (vld_ex (by omega) h.1)
  · rw [if_neg c] at h
    obtain ⟨r, h1, h2⟩ := vld_ex (by omega) h.1
    refine Or.inr ⟨r, h1, ?_⟩
    have e : a1 = (a1 - 12) + 12 := (Int32.sub_add_cancel _ _).symm
    rw [e, h2, show nI r + 12 = nI (r + 12) from nI_add r 12, Nat.add_comm]
/-- a row whose things from a on, as far as k, came one nearer -/
def sh (f : Nat → Int32) (a k : Nat) : Nat → Int32 := fun j => if a ≤ j ∧ j < k then f (j + 1) else f j
theorem sh_up (f : Nat → Int32) {a k : Nat} (h : a ≤ k) : upd (sh f a k) k (sh f a k (k + 1)) = sh f a (k + 1) := by
  funext j
  by_cases e : j = k
  · subst e
    rw [up_at]
    unfold sh
    rw [if_neg (by omega), if_pos (by omega)]
  · rw [up_ne _ _ e]
    unfold sh
    by_cases c : a ≤ j ∧ j < k
    · rw [if_pos c, if_pos (by omega)]
    · rw [if_neg c, if_neg (by omega)]
/-- the reference while it drops -/
def dr (μ : gk_C) (a k : Nat) : gk_C := (fun r => if 17 ≤ r ∧ r ≤ 25 then sh (μ.1 r) a k else μ.1 r, μ.2)
theorem dr_0 (μ : gk_C) (a : Nat) : dr μ a a = μ := by
  unfold dr
  congr 1
  funext r
  by_cases h : 17 ≤ r ∧ r ≤ 25
  · rw [if_pos h]
    funext j
    unfold sh
    rw [if_neg (by omega)]
  · rw [if_neg h]
theorem dp_step (μ : gk_C) {a k : Nat} (h : a ≤ k) : gk_r (gk_r (gk_r (gk_r (gk_r (gk_r (gk_r (gk_r (gk_r (dr μ a k) 17 (upd ((dr μ a k).1 17) k ((dr μ a k).1 17 (k + 1)))) 18 (upd ((dr μ a k).1 18) k ((dr μ a k).1 18 (k + 1)))) 19 (upd ((dr μ a k).1 19) k ((dr μ a k).1 19 (k + 1)))) 20 (upd ((dr μ a k).1 20) k ((dr μ a k).1 20 (k + 1)))) 21 (upd ((dr μ a k).1 21) k ((dr μ a k).1 21 (k + 1)))) 22 (upd ((dr μ a k).1 22) k ((dr μ a k).1 22 (k + 1)))) 23 (upd ((dr μ a k).1 23) k ((dr μ a k).1 23 (k + 1)))) 24 (upd ((dr μ a k).1 24) k ((dr μ a k).1 24 (k + 1)))) 25 (upd ((dr μ a k).1 25) k ((dr μ a k).1 25 (k + 1))) = dr μ a (k + 1) := by
  have e : ∀ r, 17 ≤ r → r ≤ 25 → upd ((dr μ a k).1 r) k ((dr μ a k).1 r (k + 1)) = (dr μ a (k + 1)).1 r := fun r h1 h2 => by
    show upd (if 17 ≤ r ∧ r ≤ 25 then sh (μ.1 r) a k else μ.1 r) k ((if 17 ≤ r ∧ r ≤ 25 then sh (μ.1 r) a k else μ.1 r) (k + 1)) = (if 17 ≤ r ∧ r ≤ 25 then sh (μ.1 r) a (k + 1) else μ.1 r)
    rw [if_pos ⟨h1, h2⟩, if_pos ⟨h1, h2⟩]
    exact sh_up _ h
  rw [e 17 (by decide) (by decide), e 18 (by decide) (by decide), e 19 (by decide) (by decide), e 20 (by decide) (by decide), e 21 (by decide) (by decide), e 22 (by decide) (by decide), e 23 (by decide) (by decide), e 24 (by decide) (by decide), e 25 (by decide) (by decide)]
  refine Prod.ext ?_ rfl
  funext r
  have c : r = 17 ∨ r = 18 ∨ r = 19 ∨ r = 20 ∨ r = 21 ∨ r = 22 ∨ r = 23 ∨ r = 24 ∨ r = 25 ∨ (r < 17 ∨ 25 < r) := by omega
  rcases c with rfl | rfl | rfl | rfl | rfl | rfl | rfl | rfl | rfl | c
  · rfl
  · rfl
  · rfl
  · rfl
  · rfl
  · rfl
  · rfl
  · rfl
  · rfl
  · rw [gr_ne _ _ (by omega), gr_ne _ _ (by omega), gr_ne _ _ (by omega), gr_ne _ _ (by omega), gr_ne _ _ (by omega), gr_ne _ _ (by omega), gr_ne _ _ (by omega), gr_ne _ _ (by omega), gr_ne _ _ (by omega)]
    show (if 17 ≤ r ∧ r ≤ 25 then sh (μ.1 r) a k else μ.1 r) = (if 17 ≤ r ∧ r ≤ 25 then sh (μ.1 r) a (k + 1) else μ.1 r)
    rw [if_neg (by omega), if_neg (by omega)]

