/-! ===== layer B: what is told, and what follows from it, as plain functions ===== -/
abbrev nt (x : Int32) : Nat := x.toNatClampNeg
def told (σ : gk_C) : gk_C := (fun r k => if r < 26 then σ.1 r k else 0, fun i => if i < 8 then σ.2 i else 0)
theorem tr {σ T : gk_C} (h : told σ = T) {r : Nat} (hr : r < 26) : σ.1 r = T.1 r := by
  rw [← h]
  funext k
  show σ.1 r k = if r < 26 then σ.1 r k else 0
  rw [if_pos hr]
theorem ts {σ T : gk_C} (h : told σ = T) {i : Nat} (hi : i < 8) : σ.2 i = T.2 i := by
  rw [← h]
  show σ.2 i = if i < 8 then σ.2 i else 0
  rw [if_pos hi]
abbrev tU (T : gk_C) : Nat := nt (T.2 0)
abbrev tR (T : gk_C) : Nat := nt (T.2 1)
abbrev tP (T : gk_C) : Nat := nt (T.2 2)
abbrev tT (T : gk_C) : Nat := nt (T.2 3)
abbrev tL (T : gk_C) : Nat := nt (T.2 4)
abbrev tG (T : gk_C) : Nat := nt (T.2 5)
def hr (T : gk_C) : Int32 := T.2 7 / 60 - T.2 7 / 60 / 24 * 24
def ruN (T : gk_C) (k : Nat) : Bool := if T.1 19 k < T.1 18 k then (decide (T.1 18 k ≤ hr T) || !decide (T.1 19 k < hr T)) else (!decide (hr T < T.1 18 k) && !decide (T.1 19 k < hr T))
def bene (T : gk_C) (r a : Nat) : Bool := decide (r = a) || bt (T.1 7 r) a
def ab (T : gk_C) (k : Nat) : Nat := nt (T.1 14 k)
def whr (T : gk_C) (k r : Nat) : Bool := decide (r = ab T k) || (decide (T.1 15 k = 1) && bene T r (ab T k))
def act (T : gk_C) (k a : Nat) : Bool := bt (T.1 13 k) a
def trt (T : gk_C) (u k : Nat) : Bool := decide (T.1 17 k &&& (T.1 1 u ^^^ (-1)) = 0)
def rN1 (T : gk_C) (s : Int32) (r : Nat) : Option Nat := (rNear (T.1 4) (tR T) s r).map (· + 1)
def stO (T : gk_C) (u : Nat) (s : Int32) (k : Nat) : Option Nat := if T.1 12 k < 12 then (if T.1 12 k = nI u then some 0 else none) else rN1 T s (nt (T.1 12 k) - 12)
/-- a rule is for a user with a set of roles, now -/
def mU (lo : Nat → Bool) (T : gk_C) (u : Nat) (s : Int32) (k : Nat) : Bool := (!lo k && ruN T k && trt T u k) && (stO T u s k).isSome
def mat (lo : Nat → Bool) (T : gk_C) (u : Nat) (s : Int32) (a r k : Nat) : Bool := mU lo T u s k && act T k a && whr T k r
def wtI (T : gk_C) (wgh : Int32) (k st : Nat) : Int32 := (if wgh = 2 then nI st - 16 * T.1 6 (ab T k) else if wgh = 3 then -(T.1 16 k) else 0) * 2 + (if decide (T.1 11 k = 1) = decide (wgh = 1) then 0 else 1)
def wt (T : gk_C) (wgh : Int32) (u : Nat) (s : Int32) (k : Nat) : Int32 := wtI T wgh k ((stO T u s k).getD 0)
def lab (T : gk_C) (u a r : Nat) : Bool := if a = 0 then !decide (T.1 8 r ≤ T.1 0 u) else if a = 4 then false else !decide (T.1 0 u ≤ T.1 8 r)
def wal (T : gk_C) (u r : Nat) : Bool := !decide (T.1 9 r = -1) && rAny (fun k => !decide (T.1 3 (u * 24 + k) = 0) && decide (T.1 9 k = T.1 9 r) && !decide (T.1 10 k = T.1 10 r)) (tT T)
/-- what the best rule tells -/
def rulO (T : gk_C) : Option Nat → Int32
  | none => 0
  | some k => if T.1 11 k = 1 then 1 else 2
def rul (lo : Nat → Bool) (T : gk_C) (wgh : Int32) (u : Nat) (s : Int32) (a r : Nat) : Int32 := if lab T u a r = true then 4 else if wal T u r = true then 5 else rulO T (bs (mat lo T u s a r) (wt T wgh u s) (tL T))
abbrev gf (T : gk_C) (g : Nat) : Nat := nt (T.1 20 g)
abbrev gt (T : gk_C) (g : Nat) : Nat := nt (T.1 21 g)
abbrev ga (T : gk_C) (g : Nat) : Nat := nt (T.1 22 g)
abbrev go (T : gk_C) (g : Nat) : Nat := nt (T.1 23 g)
def isT (T : gk_C) (g : Nat) : Bool := !decide (T.1 25 g ≤ T.2 7)
def byR (lo : Nat → Bool) (T : gk_C) (wgh : Int32) (S : Nat → Int32) (g : Nat) : Bool := decide (rul lo T wgh (gf T g) (S (gf T g)) (ga T g) (go T g) = 1) && decide (rul lo T wgh (gf T g) (S (gf T g)) 4 (go T g) = 1)
def giv (T : gk_C) (u a r g : Nat) : Bool := decide (T.1 21 g = nI u) && decide (T.1 22 g = nI a) && bene T r (go T g)
def lea (T : gk_C) (G : Int32) (g : Nat) : Bool := rAny (fun h => bt G h && giv T (gf T g) (ga T g) (go T g) h && !decide (T.1 24 h ≤ T.1 24 g)) g
/-- the good ones, of those that are good by themselves -/
def gdB (T : gk_C) (B : Nat → Bool) : Nat → Int32
  | 0 => 0
  | g + 1 => if (isT T g && (B g || lea T (gdB T B g) g)) = true then gdB T B g ||| (1 <<< (nI g &&& 31)) else gdB T B g
def gd (lo : Nat → Bool) (T : gk_C) (wgh : Int32) (S : Nat → Int32) : Int32 := gdB T (byR lo T wgh S) (tG T)
def gfr (T : gk_C) (G : Int32) (u a r : Nat) : Option Nat := fo (fun g => bt G g && giv T u a r g) (tG T)
def dcd (T : gk_C) (G x : Int32) (u a r : Nat) : Int32 := if x = 0 ∧ (gfr T G u a r).isSome = true then 3 else x
/-- what is decided -/
def dec (lo : Nat → Bool) (T : gk_C) (wgh : Int32) (S : Nat → Int32) (u a r : Nat) : Int32 := dcd T (gd lo T wgh S) (rul lo T wgh u (S u) a r) u a r
def alw (x : Int32) : Bool := decide (x = 1) || decide (x = 3)
def why (lo : Nat → Bool) (T : gk_C) (wgh : Int32) (S : Nat → Int32) (u a r : Nat) : Int32 :=
  if rul lo T wgh u (S u) a r = 1 ∨ rul lo T wgh u (S u) a r = 2 then oI (bs (mat lo T u (S u) a r) (wt T wgh u (S u)) (tL T))
  else if rul lo T wgh u (S u) a r = 0 then oI (gfr T (gd lo T wgh S) u a r) else -1
abbrev no0 : Nat → Bool := fun _ => false
/-! what holds of all that is told -/
def jN (x : Int32) (lo hi : Nat) : Prop := ∃ n, lo ≤ n ∧ n ≤ hi ∧ x = nI n
theorem jN_nt {x : Int32} {lo hi : Nat} (h : jN x lo hi) (hh : hi < 2 ^ 31) : x = nI (nt x) ∧ lo ≤ nt x ∧ nt x ≤ hi := by
  obtain ⟨n, h1, h2, rfl⟩ := h
  unfold nt
  rw [nI_clamp (by omega)]
  exact ⟨rfl, h1, h2⟩
def wNum (T : gk_C) : Prop := jN (T.2 0) 0 12 ∧ jN (T.2 1) 0 12 ∧ jN (T.2 2) 0 10 ∧ jN (T.2 3) 1 24 ∧ jN (T.2 4) 0 30 ∧ jN (T.2 5) 0 30
def wSet (T : gk_C) : Prop := (∀ u, u < tU T → ∀ i, i < 32 → bt (T.1 2 u) i = true → i < tR T) ∧ ∀ k, k < tR T → ∀ i, i < 32 → bt (T.1 4 k) i = true → i < tR T
def wTree (T : gk_C) : Prop := T.1 7 0 = 0 ∧ T.1 6 0 = 0 ∧ ∀ k, 0 < k → k < tT T → ∃ p, p < k ∧ T.1 7 k = T.1 7 p ||| (1 <<< (nI p &&& 31)) ∧ T.1 6 k = T.1 6 p + 1
def wWall (T : gk_C) : Prop := ∀ k, k < tT T → T.1 9 k = -1 ∨ (jN (T.1 9 k) 0 3 ∧ jN (T.1 10 k) 0 3)
def wRul (T : gk_C) : Prop := ∀ k, k < tL T → (T.1 11 k = 0 ∨ T.1 11 k = 1) ∧ (T.1 15 k = 0 ∨ T.1 15 k = 1) ∧ ((∃ u, u < tU T ∧ T.1 12 k = nI u) ∨ ∃ r, r < tR T ∧ T.1 12 k = nI (12 + r)) ∧ (∃ r, r < tT T ∧ T.1 14 k = nI r) ∧ jN (T.1 16 k) 0 9
def wGra (T : gk_C) : Prop := ∀ g, g < tG T → (∃ u, u < tU T ∧ T.1 20 g = nI u) ∧ (∃ u, u < tU T ∧ T.1 21 g = nI u) ∧ (∃ a, a < 5 ∧ T.1 22 g = nI a) ∧ (∃ r, r < tT T ∧ T.1 23 g = nI r)
def wf (T : gk_C) : Prop := wNum T ∧ wSet T ∧ wTree T ∧ wWall T ∧ wRul T ∧ wGra T
theorem wf_U {T : gk_C} (h : wf T) : T.2 0 = nI (tU T) ∧ tU T ≤ 12 := by
  obtain ⟨h1, h2⟩ := jN_nt h.1.1 (by omega)
  exact ⟨h1, h2.2⟩
theorem wf_R {T : gk_C} (h : wf T) : T.2 1 = nI (tR T) ∧ tR T ≤ 12 := by
  obtain ⟨h1, h2⟩ := jN_nt h.1.2.1 (by omega)
  exact ⟨h1, h2.2⟩
theorem wf_P {T : gk_C} (h : wf T) : T.2 2 = nI (tP T) ∧ tP T ≤ 10 := by
  obtain ⟨h1, h2⟩ := jN_nt h.1.2.2.1 (by omega)
  exact ⟨h1, h2.2⟩
theorem wf_T {T : gk_C} (h : wf T) : T.2 3 = nI (tT T) ∧ 1 ≤ tT T ∧ tT T ≤ 24 := by
  obtain ⟨h1, h2⟩ := jN_nt h.1.2.2.2.1 (by omega)
  exact ⟨h1, h2⟩
theorem wf_L {T : gk_C} (h : wf T) : T.2 4 = nI (tL T) ∧ tL T ≤ 30 := by
  obtain ⟨h1, h2⟩ := jN_nt h.1.2.2.2.2.1 (by omega)
  exact ⟨h1, h2.2⟩
theorem wf_G {T : gk_C} (h : wf T) : T.2 5 = nI (tG T) ∧ tG T ≤ 30 := by
  obtain ⟨h1, h2⟩ := jN_nt h.1.2.2.2.2.2 (by omega)
  exact ⟨h1, h2.2⟩
theorem wf_ab {T : gk_C} (h : wf T) {k : Nat} (hk : k < tL T) : T.1 14 k = nI (ab T k) ∧ ab T k < tT T := by
  obtain ⟨r, h1, h2⟩ := (h.2.2.2.2.1 k hk).2.2.2.1
  have h3 := (wf_T h).2.2
  unfold ab nt
  rw [h2, nI_clamp (by omega)]
  exact ⟨rfl, h1⟩
theorem wf_gr {T : gk_C} (h : wf T) {g : Nat} (hg : g < tG T) : (T.1 20 g = nI (gf T g) ∧ gf T g < tU T) ∧ (T.1 21 g = nI (gt T g) ∧ gt T g < tU T) ∧ (T.1 22 g = nI (ga T g) ∧ ga T g < 5) ∧ (T.1 23 g = nI (go T g) ∧ go T g < tT T) := by
  obtain ⟨⟨a, a1, a2⟩, ⟨b, b1, b2⟩, ⟨c, c1, c2⟩, ⟨d, d1, d2⟩⟩ := h.2.2.2.2.2 g hg
  have h3 := (wf_T h).2.2
  have h4 := (wf_U h).2
  unfold gf gt ga go nt
  rw [a2, b2, c2, d2, nI_clamp (by omega), nI_clamp (by omega), nI_clamp (by omega), nI_clamp (by omega)]
  exact ⟨⟨rfl, a1⟩, ⟨rfl, b1⟩, ⟨rfl, c1⟩, ⟨rfl, d1⟩⟩
/-- the depth of a resource -/
theorem wf_dep {T : gk_C} (h : wf T) : ∀ k, k < tT T → ∃ d, d ≤ k ∧ T.1 6 k = nI d := by
  intro k
  induction k using Nat.strongRecOn with
  | ind k ih =>
    intro hk
    by_cases h0 : k = 0
    · subst h0
      exact ⟨0, Nat.le_refl _, by rw [h.2.2.1.2.1, nI_0]⟩
    · obtain ⟨p, p1, p2, p3⟩ := h.2.2.1.2.2 k (by omega) hk
      obtain ⟨d, d1, d2⟩ := ih p p1 (by omega)
      exact ⟨d + 1, by omega, by rw [p3, d2, nI_1]⟩
