/-! ===== layer B: what the reference works out, over what is told ===== -/
def bit2 (i j : Nat) : Int32 := (1 <<< (nI i &&& 31)) ||| (1 <<< (nI j &&& 31))
/-- the pairs that are apart, as both sides hold them -/
def jA (T μ : gk_C) : Prop := (∀ k, k < tP T → ∃ i j, i < tR T ∧ j < tR T ∧ i ≠ j ∧ μ.1 10 k = bit2 i j ∧ bt (T.1 5 i) j = true ∧ bt (T.1 5 j) i = true) ∧ ∀ i, i < 12 → ∀ j, j < 32 → bt (T.1 5 i) j = true → ∃ k, k < tP T ∧ μ.1 10 k = bit2 i j
/-- the reference holds what is told -/
def jM (T μ : gk_C) : Prop :=
  (μ.2 3 = T.2 0 ∧ μ.2 7 = T.2 1 ∧ μ.2 9 = T.2 2 ∧ μ.2 11 = T.2 3 ∧ μ.2 16 = T.2 4 ∧ μ.2 26 = T.2 5 ∧ μ.2 2 = T.2 6 ∧ μ.2 1 = T.2 7) ∧
  (∀ k, k < 12 → μ.1 5 k = T.1 0 k ∧ μ.1 6 k = T.1 1 k ∧ μ.1 4 k = T.1 2 k) ∧
  (∀ k, k < 288 → μ.1 34 k = T.1 3 k) ∧
  (∀ k, k < 12 → μ.1 8 k = T.1 4 k) ∧
  (∀ k, k < 24 → μ.1 13 k = T.1 8 k ∧ μ.1 14 k = T.1 9 k ∧ μ.1 15 k = T.1 10 k) ∧
  (μ.1 12 0 = -1 ∧ ∀ k, 0 < k → k < tT T → ∃ p, p < k ∧ μ.1 12 k = nI p ∧ T.1 7 k = T.1 7 p ||| (1 <<< (nI p &&& 31)) ∧ T.1 6 k = T.1 6 p + 1) ∧
  (∀ k, k < tL T → μ.1 17 k = T.1 11 k ∧ μ.1 19 k = T.1 12 k ∧ μ.1 20 k = T.1 13 k ∧ μ.1 21 k = T.1 14 k ∧ μ.1 18 k = T.1 15 k ∧ μ.1 22 k = T.1 16 k ∧ μ.1 23 k = T.1 17 k ∧ μ.1 24 k = T.1 18 k ∧ μ.1 25 k = T.1 19 k) ∧
  (∀ k, k < tG T → μ.1 27 k = T.1 20 k ∧ μ.1 28 k = T.1 21 k ∧ μ.1 29 k = T.1 22 k ∧ μ.1 30 k = T.1 23 k ∧ μ.1 31 k = T.1 24 k ∧ μ.1 32 k = T.1 25 k) ∧
  jA T μ
theorem jM_sc {T μ : gk_C} (h : jM T μ) (f g : Nat → Int32) : jM T (mk_sc μ f g) := h
theorem sc_r37 (μ : gk_C) (f g g' : Nat → Int32) : gk_r (mk_sc μ f g) 37 g' = mk_sc μ f g' := by
  unfold gk_r mk_sc va_up
  congr 1
  funext j
  by_cases h : j = 37 <;> simp [h]
theorem sc_37 (μ : gk_C) (f g : Nat → Int32) : (mk_sc μ f g).1 37 = g := by
  show va_up (va_up μ.1 36 f) 37 g 37 = g
  exact va_up_self _ _ _
theorem sc_r36 (μ : gk_C) (f g f' : Nat → Int32) : gk_r (mk_sc μ f g) 36 f' = mk_sc μ f' g := by
  unfold gk_r mk_sc va_up
  congr 1
  funext j
  by_cases h : j = 36
  · subst h; simp
  · simp [h]
theorem sc_36 (μ : gk_C) (f g : Nat → Int32) : (mk_sc μ f g).1 36 = f := by
  show va_up (va_up μ.1 36 f) 37 g 36 = f
  rw [va_up_ne _ _ (by decide), va_up_self]
/-- depths -/
abbrev dN (T : gk_C) (k : Nat) : Nat := nt (T.1 6 k)
theorem wf_dN {T : gk_C} (h : wf T) {k : Nat} (hk : k < tT T) : T.1 6 k = nI (dN T k) ∧ dN T k ≤ 23 := by
  obtain ⟨d, h1, h2⟩ := wf_dep h k hk
  have h3 := (wf_T h).2.2
  unfold dN nt
  rw [h2, nI_clamp (by omega)]
  exact ⟨rfl, by omega⟩
theorem bene_0 {T : gk_C} (h : wf T) (a : Nat) : bene T 0 a = decide (0 = a) := by
  unfold bene
  rw [h.2.2.1.1, b_0, Bool.or_false]
theorem bene_up {T : gk_C} {r p a : Nat} (hra : ¬ r = a) (hp : p < 32) (ha : a < 32) (h : T.1 7 r = T.1 7 p ||| (1 <<< (nI p &&& 31))) : bene T r a = bene T p a := by
  unfold bene
  rw [decide_eq_false hra, Bool.false_or, h, b_or, b_bit hp ha, Bool.or_comm]
  congr 1
  rw [decide_eq_decide]
  exact eq_comm
theorem dN_le {T : gk_C} (h : wf T) {a : Nat} (ha : a < tT T) : ∀ r, r < tT T → bene T r a = true → dN T a ≤ dN T r := by
  intro r
  induction r using Nat.strongRecOn with
  | ind r ih =>
    intro hr hb
    have hT := (wf_T h).2.2
    by_cases e : r = a
    · rw [e]; exact Nat.le_refl _
    · by_cases h0 : r = 0
      · subst h0
        rw [bene_0 h, decide_eq_false e] at hb
        cases hb
      · obtain ⟨p, p1, p2, p3⟩ := h.2.2.1.2.2 r (by omega) hr
        rw [bene_up e (by omega) (by omega) p2] at hb
        have h1 := ih p p1 (by omega) hb
        have h2 := wf_dN h hr
        have h3 := wf_dN h (show p < tT T by omega)
        rw [p3, h3.1, nI_1] at h2
        have h4 := (nI_eq (by omega) (by omega)).mp h2.1
        omega
def farI (T : gk_C) (r a : Nat) : Int32 := if bene T r a = true then T.1 6 r - T.1 6 a else -1
theorem farI_t {T : gk_C} (h : wf T) {r a : Nat} (hr : r < tT T) (ha : a < tT T) (hb : bene T r a = true) : farI T r a = nI (dN T r - dN T a) ∧ dN T a ≤ dN T r := by
  have h1 := dN_le h ha r hr hb
  unfold farI
  rw [if_pos hb, (wf_dN h hr).1, (wf_dN h ha).1, nI_sub' h1]
  exact ⟨rfl, h1⟩
theorem farI_m1 {T : gk_C} (h : wf T) {r a : Nat} (hr : r < tT T) (ha : a < tT T) : decide (farI T r a = -1) = !bene T r a := by
  cases hb : bene T r a
  · unfold farI
    rw [if_neg (by rw [hb]; decide)]
    decide
  · obtain ⟨h1, h2⟩ := farI_t h hr ha hb
    have h3 := (wf_dN h hr).2
    rw [h1]
    refine decide_eq_false (fun q => ?_)
    exact nI_pos (show dN T r - dN T a < 2 ^ 31 by omega) (by rw [q]; decide)
section MD
variable {T μ : gk_C}
theorem lm_farNow (hM : jM T μ) (hw : wf T) {r a : Nat} (hr : r < tT T) (ha : a < tT T) {Q : Int32 → Prop} (hQ : Q (farI T r a)) : w_X9_farNow μ (nI r) (nI a) Q := by
  have hT := (wf_T hw).2.2
  have main : ∀ r, r < tT T → ∀ (st : Int32), Q (if bene T r a = true then st + (T.1 6 r - T.1 6 a) else -1) → wL_X9_farNow_5 μ Q (r + 2) (nI a) st (nI r) := by
    intro r
    induction r using Nat.strongRecOn with
    | ind r ih =>
      intro hr st hq
      unfold wL_X9_farNow_5
      refine ⟨fun q => absurd (by rw [q]; decide) (nI_pos (show r < 2 ^ 31 by omega)), fun _ => ⟨fun q => ?_, fun q => ?_⟩⟩
      · have e : ¬ r = a := fun e => q (by rw [e])
        refine ⟨vp_in' (by omega) (by omega), ?_⟩
        rw [nI_clamp (by omega)]
        by_cases h0 : r = 0
        · subst h0
          rw [hM.2.2.2.2.2.1.1]
          unfold wL_X9_farNow_5
          refine ⟨fun _ => ?_, fun q => absurd rfl q⟩
          rw [bene_0 hw, decide_eq_false e, if_neg (by decide)] at hq
          exact hq
        · obtain ⟨p, p1, p2, p3, p4⟩ := hM.2.2.2.2.2.1.2 r (by omega) hr
          rw [p2]
          have h1 := ih p p1 (by omega) (st + 1) (by
            rw [← bene_up e (by omega) (by omega) p3]
            rw [p4] at hq
            have e3 : st + 1 + (T.1 6 p - T.1 6 a) = st + (T.1 6 p + 1 - T.1 6 a) := by
              rw [Int32.sub_eq_add_neg, Int32.sub_eq_add_neg]
              ac_rfl
            rw [e3]
            exact hq)
          have mono : ∀ (n d : Nat) (x y : Int32), wL_X9_farNow_5 μ Q n (nI a) x y → wL_X9_farNow_5 μ Q (n + d) (nI a) x y := by
            intro n
            induction n with
            | zero => intro _ _ _ q; exact False.elim q
            | succ n ihn =>
              intro d x y q
              rw [show n + 1 + d = (n + d) + 1 by omega]
              unfold wL_X9_farNow_5 at q ⊢
              exact ⟨q.1, fun q1 => ⟨fun q2 => ⟨((q.2 q1).1 q2).1, ihn d _ _ ((q.2 q1).1 q2).2⟩, (q.2 q1).2⟩⟩
          have h2 := mono (p + 2) (r - p - 1) _ _ h1
          rw [show p + 2 + (r - p - 1) = r + 1 by omega] at h2
          exact h2
      · have e : r = a := (nI_eq (by omega) (by omega)).mp q
        subst e
        have hb : bene T r r = true := by unfold bene; simp
        rw [if_pos hb, Int32.sub_self, Int32.add_zero] at hq
        exact hq
  refine ⟨r + 2, main r hr 0 ?_⟩
  unfold farI at hQ
  rw [Int32.zero_add]
  exact hQ
theorem lm_isNow (hM : jM T μ) {k : Nat} (hk : k < tL T) (hL : tL T ≤ 30) {Q : Int32 → Prop} (hQ : Q (b2i (ruN T k))) : w_X9_isNow μ (nI k) Q := by
  have hv := vp_in' (show k < 30 by omega) (by decide)
  have e := hM.2.2.2.2.2.2.1 k hk
  unfold w_X9_isNow w_X9_hour w_X9_isIn
  rw [nI_clamp (by omega), e.2.2.2.2.2.2.2.1, e.2.2.2.2.2.2.2.2, hM.1.2.2.2.2.2.2.2, show T.2 7 / 60 - T.2 7 / 60 / 24 * 24 = hr T from rfl]
  unfold ruN at hQ
  refine ⟨hv, hv, fun q => ⟨hv, ?_⟩, fun q => ⟨hv, hv, ?_⟩⟩
  · rw [if_pos q] at hQ
    refine dec_go (fun q1 => ?_) (fun q1 => ⟨hv, ?_⟩)
    · rw [q1] at hQ; exact hQ
    · rw [q1, Bool.false_or] at hQ
      refine dec_go (fun q2 => ?_) (fun q2 => ?_) <;> · rw [q2] at hQ; exact hQ
  · rw [if_neg q] at hQ
    refine dec_go (fun q1 => ?_) (fun q1 => ?_)
    · rw [q1] at hQ; exact ⟨gk_z0, hQ⟩
    · rw [q1] at hQ
      refine dec_go (fun q2 => ?_) (fun q2 => ?_)
      · rw [q2] at hQ; exact ⟨gk_z0, hQ⟩
      · rw [q2] at hQ; exact ⟨gk_z1, hQ⟩
/-- a rule fits, whoever it is for -/
def fit (lo : Nat → Bool) (T : gk_C) (u a r k : Nat) : Bool := !lo k && ruN T k && trt T u k && act T k a && whr T k r
theorem mat_fit (lo : Nat → Bool) (T : gk_C) (u : Nat) (s : Int32) (a r k : Nat) : mat lo T u s a r k = (fit lo T u a r k && (stO T u s k).isSome) := by
  unfold mat fit mU
  cases !lo k <;> cases ruN T k <;> cases trt T u k <;> cases (stO T u s k).isSome <;> cases act T k a <;> cases whr T k r <;> rfl
theorem trt_eq (x y : Int32) : decide (y &&& (x ^^^ (-1)) = 0) = decide (x &&& y = y) := by
  rw [decide_eq_decide]
  constructor
  · intro h
    rw [b_eq0] at h
    apply b_ext
    intro i hi
    have h1 := h i hi
    rw [b_and, b_not _ hi] at h1
    rw [b_and]
    cases hx : bt x i <;> cases hy : bt y i <;> simp [hx, hy] at h1 ⊢
  · intro h
    rw [b_eq0]
    intro i hi
    rw [b_and, b_not _ hi]
    have h1 : bt (x &&& y) i = bt y i := by rw [h]
    rw [b_and] at h1
    cases hx : bt x i <;> cases hy : bt y i <;> simp [hx, hy] at h1 ⊢
theorem lm_fitting {lo : Nat → Bool} (hM : jM T μ) (hw : wf T) (hlo : ∀ k, k < tL T → decide (nI k = μ.2 35) = lo k) {u a r : Nat} (hu : u < tU T) (ha : a < 5) (hr : r < tT T) {Q : Int32 → Prop} (hQ : Q (mb (fit lo T u a r) (tL T))) : w_X9_fitting μ (nI u) (nI a) (nI r) Q := by
  have hL := wf_L hw
  have hT := (wf_T hw).2.2
  have hU := (wf_U hw).2
  have hn : μ.2 16 = nI (tL T) := hM.1.2.2.2.2.1.trans hL.1
  unfold w_X9_fitting
  have l := lpUp (A := Int32) (n := tL T) (W := fun f k z => wL_X9_fitting_6 μ Q f (nI u) (nI a) (nI r) z (nI k)) (J := fun k z => z = mb (fit lo T u a r) k) ?_ ?_ (tL T) 0 0 (Nat.zero_add _) rfl
  · exact ⟨_, l⟩
  · intro f z hz
    unfold wL_X9_fitting_6
    rw [hn]
    refine ⟨fun _ => by rw [hz]; exact hQ, fun q => absurd (nI_le (Nat.le_refl _) (by omega)) q⟩
  · intro f k z hk hz next
    have e := hM.2.2.2.2.2.2.1 k hk
    have hv := vp_in' (show k < 30 by omega) (by decide)
    have hab := wf_ab hw hk
    have no : fit lo T u a r k = false → wJ_X9_fitting_129 μ (fun x1 x2 x3 x5 t0 t1 => (wJ_X9_fitting_130 μ (fun x1 x2 x3 x4 x5 => wL_X9_fitting_6 μ Q f x1 x2 x3 x4 x5) x1 x2 x3 x5 t0 t1)) (nI u) (nI a) (nI r) (nI k) z := fun q => by
      simp only [wJ_X9_fitting_129, wJ_X9_fitting_130]
      rw [nI_1, show z ||| 0 = z from b_ext (fun i _ => by rw [b_or, b_0, Bool.or_false])]
      exact next z (by rw [mb_f q]; exact hz)
    have j57 : ∀ b : Bool, b = whr T k r → wJ_X9_fitting_57 μ (fun x1 x2 x3 x4 x5 => wL_X9_fitting_6 μ Q f x1 x2 x3 x4 x5) (nI u) (nI a) (nI r) z (nI k) (b2i b) := fun b hb => by
      unfold wJ_X9_fitting_57
      rw [nI_clamp (show k < 2 ^ 31 by omega), nI_clamp (show u < 2 ^ 31 by omega), e.2.2.1, e.2.2.2.2.2.2.1, (hM.2.1 u (by omega)).2.1, b_get _ (show a < 32 by omega)]
      have hf : fit lo T u a r k = (!decide (nI k = μ.2 35) && ruN T k && decide (T.1 1 u &&& T.1 17 k = T.1 17 k) && bt (T.1 13 k) a && b) := by
        unfold fit trt act
        rw [trt_eq, hlo k hk, hb]
      refine dec_go (fun q1 => no ?_) (fun q1 => ?_)
      · rw [hf, q1]; rfl
      · refine b2i_go _ (fun q2 => no (by rw [hf, q2, Bool.and_false])) (fun q2 => ⟨hv, ?_⟩)
        refine b2i_go _ (fun q3 => no (by rw [hf, q3]; simp)) (fun q3 => ⟨vp_in' (by omega) (by decide), hv, hv, ?_⟩)
        refine dec_go' (fun q4 => ?_) (fun q4 => no (by rw [hf, q4]; simp))
        refine lm_isNow hM hk hL.2 ?_
        refine b2i_go _ (fun q5 => no (by rw [hf, q5]; simp)) (fun q5 => ?_)
        unfold wJ_X9_fitting_130
        rw [nI_1]
        exact next _ (by rw [mb_t (by rw [hf, q1, q2, q3, q4, q5]; rfl), hz])
    unfold wL_X9_fitting_6
    rw [hn, nI_clamp (by omega), e.2.2.2.1, e.2.2.2.2.1, hab.1]
    refine ⟨fun q => absurd q (nI_ge hk (by omega)), fun _ => ⟨hv, ?_⟩⟩
    refine ⟨fun q => ?_, fun q => ⟨hv, ?_⟩⟩
    · unfold wJ_X9_fitting_52
      refine j57 true ?_
      have e2 : r = ab T k := ((nI_eq (by omega) (by omega)).mp q).symm
      unfold whr
      rw [decide_eq_true e2]; rfl
    · have e2 : ¬ r = ab T k := fun e2 => q (by rw [e2])
      have hd := (hw.2.2.2.2.1 k hk).2.1
      refine ⟨fun q2 => ?_, fun q2 => ⟨hv, ?_⟩⟩
      · unfold wJ_X9_fitting_56
        refine j57 false ?_
        unfold whr
        rw [decide_eq_false e2, q2]; rfl
      · have q3 : T.1 15 k = 1 := hd.resolve_left q2
        refine lm_farNow hM hw hr hab.2 ?_
        have e4 : whr T k r = bene T r (ab T k) := by
          unfold whr
          rw [decide_eq_false e2, q3]; rfl
        refine dec_go (fun q4 => ?_) (fun q4 => ?_)
        · unfold wJ_X9_fitting_56
          refine j57 false ?_
          rw [farI_m1 hw hr hab.2] at q4
          rw [e4]
          simpa using q4
        · unfold wJ_X9_fitting_52
          refine j57 true ?_
          rw [farI_m1 hw hr hab.2] at q4
          rw [e4]
          simpa using q4
theorem rNear_lt {h : Nat → Int32} {nR : Nat} {s : Int32} {r k : Nat} (hq : rNear h nR s r = some k) : k < 12 := by
  unfold rNear at hq
  exact List.mem_range.mp (List.mem_of_find?_eq_some hq)
theorem rN1_lt {s : Int32} {r k : Nat} (hq : rN1 T s r = some k) : k ≤ 12 ∧ 1 ≤ k := by
  unfold rN1 at hq
  cases h : rNear (T.1 4) (tR T) s r with
  | none => rw [h] at hq; cases hq
  | some j =>
    rw [h] at hq
    cases hq
    have := rNear_lt h
    exact ⟨by show j + 1 ≤ 12; omega, by show 1 ≤ j + 1; omega⟩
theorem isN_r {s : Int32} {f : Nat → Int32} (hN : isN T s f) {r : Nat} (hr : r < 12) : (rN1 T s r = none ∧ f r = 99) ∨ ∃ k, rN1 T s r = some k ∧ f r = nI k ∧ k ≤ 12 := by
  have h1 := hN r hr
  unfold rN1
  cases h : rNear (T.1 4) (tR T) s r with
  | none =>
    rw [h] at h1
    exact Or.inl ⟨rfl, h1⟩
  | some j =>
    rw [h] at h1
    have := rNear_lt h
    exact Or.inr ⟨j + 1, rfl, h1, by omega⟩
theorem isN_99 {s : Int32} {f : Nat → Int32} (hN : isN T s f) {r : Nat} (hr : r < 12) : decide (99 ≤ f r) = !(rN1 T s r).isSome := by
  rcases isN_r hN hr with ⟨h1, h2⟩ | ⟨k, h1, h2, h3⟩
  · rw [h1, h2]; decide
  · rw [h1, h2]
    exact decide_eq_false (nI_ge (b := 99) (by omega) (by decide))
theorem lm_isFor (hM : jM T μ) (hw : wf T) {s : Int32} {f : Nat → Int32} (hN : isN T s f) {u k : Nat} (hk : k < tL T) {Q : Int32 → Prop} (hQ : Q (b2i (stO T u s k).isSome)) : w_X9_isFor μ (nI k) (nI u) f Q := by
  have hL := (wf_L hw).2
  have hR := (wf_R hw).2
  have hU := (wf_U hw).2
  have e := hM.2.2.2.2.2.2.1 k hk
  have hv := vp_in' (show k < 30 by omega) (by decide)
  unfold w_X9_isFor
  rw [nI_clamp (by omega), e.2.1]
  unfold stO at hQ
  refine ⟨hv, fun q => ⟨hv, fun q2 => ?_, fun q2 => ?_⟩, fun q => ⟨hv, ?_⟩⟩
  · rw [if_pos q, if_neg q2] at hQ; exact hQ
  · rw [if_pos q, if_pos q2] at hQ; exact hQ
  · rw [if_neg q] at hQ
    rcases (hw.2.2.2.2.1 k hk).2.2.1 with ⟨w, w1, w2⟩ | ⟨r, r1, r2⟩
    · exact absurd (by rw [w2]; exact nI_lt (b := 12) (by omega) (by decide)) q
    · rw [r2, show nt (nI (12 + r)) = 12 + r from nI_clamp (by omega), show 12 + r - 12 = r by omega] at hQ
      rw [r2, show nI (12 + r) - 12 = nI r from by rw [show (12 : Int32) = nI 12 from rfl, nI_sub' (by omega), show 12 + r - 12 = r by omega], nI_clamp (by omega)]
      refine ⟨vp_in' (by omega) (by decide), ?_⟩
      refine dec_go (fun q2 => ?_) (fun q2 => ?_)
      · rw [isN_99 hN (by omega)] at q2
        rw [show (rN1 T s r).isSome = false from by simpa using q2] at hQ
        exact hQ
      · rw [isN_99 hN (by omega)] at q2
        rw [show (rN1 T s r).isSome = true from by simpa using q2] at hQ
        exact hQ
theorem lm_own (hM : jM T μ) (hw : wf T) {s : Int32} {f : Nat → Int32} (hN : isN T s f) {u : Nat} {P : Nat → Bool} {x : Int32} (hx : ∀ k, k < tL T → bt x k = P k) {Q : Int32 → Prop} (hQ : Q (mb (fun k => P k && (stO T u s k).isSome) (tL T))) : w_X9_own μ x (nI u) f Q := by
  have hL := wf_L hw
  have hn : μ.2 16 = nI (tL T) := hM.1.2.2.2.2.1.trans hL.1
  unfold w_X9_own
  have l := lpUp (A := Int32) (n := tL T) (W := fun fu k z => wL_X9_own_6 μ f Q fu x (nI u) z (nI k)) (J := fun k z => z = mb (fun k => P k && (stO T u s k).isSome) k) ?_ ?_ (tL T) 0 0 (Nat.zero_add _) rfl
  · exact ⟨_, l⟩
  · intro fu z hz
    unfold wL_X9_own_6
    rw [hn]
    exact ⟨fun _ => by rw [hz]; exact hQ, fun q => absurd (nI_le (Nat.le_refl _) (by omega)) q⟩
  · intro fu k z hk hz next
    unfold wL_X9_own_6
    rw [hn, b_get _ (show k < 32 by omega), hx k hk]
    refine ⟨fun q => absurd q (nI_ge hk (by omega)), fun _ => ?_⟩
    have no : (P k && (stO T u s k).isSome) = false → wJ_X9_own_44 μ f (fun x1 x2 x5 t0 t1 => (wJ_X9_own_45 μ f (fun x1 x2 x4 x5 => wL_X9_own_6 μ f Q fu x1 x2 x4 x5) x1 x2 x5 t0 t1)) x (nI u) (nI k) z := fun q => by
      simp only [wJ_X9_own_44, wJ_X9_own_45]
      rw [nI_1, show z ||| 0 = z from b_ext (fun i _ => by rw [b_or, b_0, Bool.or_false])]
      exact next z (by rw [mb_f (P := fun k => P k && (stO T u s k).isSome) q]; exact hz)
    refine b2i_go _ (fun q1 => no (by rw [q1]; rfl)) (fun q1 => ?_)
    refine lm_isFor hM hw hN hk ?_
    refine b2i_go _ (fun q2 => no (by rw [q2, Bool.and_false])) (fun q2 => ?_)
    unfold wJ_X9_own_45
    rw [nI_1]
    exact next _ (by rw [mb_t (P := fun k => P k && (stO T u s k).isSome) (by rw [q1, q2]; rfl), hz])
theorem lm_matching {lo : Nat → Bool} (hM : jM T μ) (hw : wf T) (hlo : ∀ k, k < tL T → decide (nI k = μ.2 35) = lo k) {s : Int32} {f : Nat → Int32} (hN : isN T s f) {u a r : Nat} (hu : u < tU T) (ha : a < 5) (hr : r < tT T) {Q : Int32 → Prop} (hQ : Q (mb (mat lo T u s a r) (tL T))) : w_X9_matching μ (nI u) f (nI a) (nI r) Q := by
  have hL := (wf_L hw).2
  unfold w_X9_matching
  refine lm_fitting hM hw hlo hu ha hr ?_
  refine lm_own hM hw hN (P := fit lo T u a r) (fun k hk => by rw [mb_b _ (by omega) (by omega)]; simp [hk]) ?_
  rw [mb_congr (R := mat lo T u s a r) (fun k _ => (mat_fit lo T u s a r k).symm)]
  exact hQ
end MD
