/-! ===== what the gate alone says ===== -/
theorem nI_ma (u k m : Nat) : nI u * nI m + nI k = nI (u * m + k) := by rw [pk_mul, nI_add]
theorem gk_rv {v : Nat} (hv : v < 2) : gk_rl (26 + 6 * v) = 5 ∧ gk_rl (27 + 6 * v) = 24 ∧ gk_rl (28 + 6 * v) = 12 ∧ gk_rl (29 + 6 * v) = 360 ∧ gk_rl (30 + 6 * v) = 48 ∧ gk_rl (31 + 6 * v) = 30 := by
  have h : v = 0 ∨ v = 1 := by omega
  rcases h with rfl | rfl
  · exact ⟨rfl, rfl, rfl, rfl, rfl, rfl⟩
  · exact ⟨rfl, rfl, rfl, rfl, rfl, rfl⟩
/-- a choice of the two numbers of a truth -/
theorem b2i_go {A B : Prop} (b : Bool) (h0 : b = false → A) (h1 : b = true → B) : (b2i b = 0 → A) ∧ (¬ b2i b = 0 → B) := by
  cases b
  · exact ⟨fun _ => h0 rfl, fun h => absurd rfl h⟩
  · exact ⟨fun h => absurd h (by decide), fun _ => h1 rfl⟩
theorem b2i_go' {A B : Prop} (b : Bool) (h0 : b = false → A) (h1 : b = true → B) : (¬ b2i b = 0 → B) ∧ (b2i b = 0 → A) := ⟨(b2i_go b h0 h1).2, (b2i_go b h0 h1).1⟩
theorem dec_go {c A B : Prop} [Decidable c] (h1 : decide c = true → A) (h0 : decide c = false → B) : (c → A) ∧ (¬ c → B) := ⟨fun h => h1 (decide_eq_true h), fun h => h0 (decide_eq_false h)⟩
theorem dec_go' {c A B : Prop} [Decidable c] (h1 : decide c = true → A) (h0 : decide c = false → B) : (¬ c → B) ∧ (c → A) := ⟨fun h => h0 (decide_eq_false h), fun h => h1 (decide_eq_true h)⟩
theorem lb_beneath {σ T : gk_C} (h : told σ = T) {r a : Nat} (hr : r < 24) (ha : a < 24) {Q : Int32 → Prop} (hQ : Q (b2i (bene T r a))) : w_X5_isBeneath σ (nI r) (nI a) Q := by
  unfold w_X5_isBeneath
  rw [gk_at_in (show r < gk_rl 7 from hr), lb_isIn _ (show a < 32 by omega), tr h (show 7 < 26 by decide)]
  unfold bene at hQ
  refine ⟨fun h1 => ?_, fun h1 => ?_⟩
  · have h2 : r = a := (nI_eq (by omega) (by omega)).mp h1
    rw [decide_eq_true h2] at hQ
    exact hQ
  · have h2 : ¬ r = a := fun h3 => h1 (by rw [h3])
    rw [decide_eq_false h2, Bool.false_or] at hQ
    refine b2i_go _ (fun h3 => ?_) (fun h3 => ?_) <;> · rw [h3] at hQ; exact hQ
theorem lb_isThere {σ T : gk_C} (h : told σ = T) {g : Nat} (hg : g < 30) {Q : Int32 → Prop} (hQ : Q (b2i (isT T g))) : w_X4_isThere σ (nI g) Q := by
  unfold w_X4_isThere
  rw [gk_at_in (show g < gk_rl 25 from hg), tr h (show 25 < 26 by decide), ts h (show 7 < 8 by decide)]
  unfold isT at hQ
  refine dec_go (fun h3 => ?_) (fun h3 => ?_) <;> · rw [h3] at hQ; exact hQ
theorem lb_isGiven {σ T : gk_C} (h : told σ = T) (hw : wf T) {g u a r : Nat} (hg : g < tG T) (hr : r < 24) {Q : Int32 → Prop} (hQ : Q (b2i (giv T u a r g))) : w_X4_isGiven σ (nI g) (nI u) (nI a) (nI r) Q := by
  have hG := (wf_G hw).2
  have hT := (wf_T hw).2.2
  have h4 := (wf_gr hw hg).2.2.2
  unfold w_X4_isGiven
  rw [gk_at_in (show g < gk_rl 21 by show g < 30; omega), gk_at_in (show g < gk_rl 22 by show g < 30; omega), gk_at_in (show g < gk_rl 23 by show g < 30; omega), tr h (show 21 < 26 by decide), tr h (show 22 < 26 by decide), tr h (show 23 < 26 by decide), h4.1]
  unfold giv at hQ
  refine dec_go' (fun h1 => ?_) (fun h1 => ?_)
  · refine dec_go' (fun h2 => ?_) (fun h2 => ?_)
    · refine lb_beneath h hr (by omega) ?_
      rw [h1, h2] at hQ
      refine b2i_go _ (fun h3 => ?_) (fun h3 => ?_) <;> · rw [h3] at hQ; exact hQ
    · rw [h1, h2] at hQ; exact hQ
  · rw [h1] at hQ; exact hQ
theorem lb_label {σ T : gk_C} (v : Nat) (h : told σ = T) {u a r : Nat} (hu : u < 12) (ha : a < 5) (hr : r < 24) {Q : Int32 → Prop} (hQ : Q (b2i (lab T u a r))) : w_X7_isAgainstLabel v σ (nI u) (nI a) (nI r) Q := by
  unfold w_X7_isAgainstLabel
  rw [gk_at_in (show u < gk_rl 0 from hu), gk_at_in (show r < gk_rl 8 from hr), tr h (show 0 < 26 by decide), tr h (show 8 < 26 by decide)]
  unfold lab at hQ
  refine ⟨fun h1 => ⟨fun h2 => ?_, fun h2 => ?_⟩, fun h1 => ?_⟩
  · have e : a = 4 := (nI_eq (b := 4) (by omega) (by omega)).mp h2
    subst e
    exact hQ
  · have e0 : ¬ a = 0 := fun e => h1 (by rw [e]; rfl)
    have e4 : ¬ a = 4 := fun e => h2 (by rw [e]; rfl)
    rw [if_neg e0, if_neg e4] at hQ
    refine dec_go (fun h3 => ?_) (fun h3 => ?_) <;> · rw [h3] at hQ; exact hQ
  · have e : a = 0 := (nI_eq (b := 0) (by omega) (by omega)).mp h1
    rw [if_pos e] at hQ
    refine dec_go (fun h3 => ?_) (fun h3 => ?_) <;> · rw [h3] at hQ; exact hQ
/-- a view: v its number, lo the rules that are left out, the sets of the users before m -/
def vw (v : Nat) (lo : Nat → Bool) (T : gk_C) (wgh : Int32) (S : Nat → Int32) (m : Nat) (σ : gk_C) : Prop :=
  told σ = T ∧ σ.2 (8 + 4 * v) = wgh ∧ σ.2 (9 + 4 * v) = mb (fun k => !lo k && ruN T k) (tL T) ∧ σ.2 (10 + 4 * v) = mb (fun k => decide (T.1 11 k = 1)) (tL T) ∧
  (∀ a, a < 5 → σ.1 (26 + 6 * v) a = mb (fun k => act T k a) (tL T)) ∧
  (∀ r, r < tT T → σ.1 (27 + 6 * v) r = mb (fun k => whr T k r) (tL T)) ∧
  (∀ u, u < tU T → ∀ c, c < 4 → ∀ h, h < 32 → bt (σ.1 (30 + 6 * v) (u * 4 + c)) h = rAny (fun k => decide (T.1 9 k = nI c) && !decide (T.1 3 (u * 24 + k) = 0) && decide (T.1 10 k = nI h)) (tT T)) ∧
  (∀ u, u < m → σ.1 (28 + 6 * v) u = mb (mU lo T u (S u)) (tL T)) ∧
  (∀ u, u < m → ∀ k, k < tL T → mU lo T u (S u) k = true → σ.1 (29 + 6 * v) (u * 30 + k) = wt T wgh u (S u) k)
section VW
variable {v : Nat} {lo : Nat → Bool} {T : gk_C} {wgh : Int32} {S : Nat → Int32} {m : Nat} {σ : gk_C}
theorem lb_walled (H : vw v lo T wgh S m σ) (hv : v < 2) (hw : wf T) {u r : Nat} (hu : u < tU T) (hr : r < tT T) {Q : Int32 → Prop} (hQ : Q (b2i (wal T u r))) : w_X7_isWalledOff v σ (nI u) (nI r) Q := by
  have hT := (wf_T hw).2.2
  have hU := (wf_U hw).2
  have h := H.1
  unfold w_X7_isWalledOff
  rw [gk_at_in (show r < gk_rl 9 by show r < 24; omega), gk_at_in (show r < gk_rl 10 by show r < 24; omega), tr h (show 9 < 26 by decide), tr h (show 10 < 26 by decide)]
  unfold wal at hQ
  refine dec_go' (fun h1 => ?_) (fun h1 => ?_)
  · rw [h1] at hQ; exact hQ
  · rw [h1] at hQ
    obtain ⟨⟨c, -, c2, hc⟩, ⟨k0, -, k2, hk⟩⟩ := (hw.2.2.2.1 r hr).resolve_left (of_decide_eq_false h1)
    rw [hc, hk, show nI u * 4 + nI c = nI (u * 4 + c) from nI_ma u c 4, gk_at_in (show u * 4 + c < gk_rl (30 + 6 * v) by rw [(gk_rv hv).2.2.2.2.1]; omega)]
    have e : (σ.1 (30 + 6 * v) (u * 4 + c) &&& ((1 <<< (nI k0 &&& 31)) ^^^ (-1)) = 0) ↔ rAny (fun k => !decide (T.1 3 (u * 24 + k) = 0) && decide (T.1 9 k = T.1 9 r) && !decide (T.1 10 k = T.1 10 r)) (tT T) = false := by
      rw [b_eq0, rAny_f]
      constructor
      · intro h2 k hk2
        cases hp : (!decide (T.1 3 (u * 24 + k) = 0) && decide (T.1 9 k = T.1 9 r) && !decide (T.1 10 k = T.1 10 r))
        · rfl
        · exfalso
          simp only [Bool.and_eq_true, Bool.not_eq_true', decide_eq_true_eq, decide_eq_false_iff_not] at hp
          obtain ⟨⟨p1, p2⟩, p3⟩ := hp
          have p4 : ¬ T.1 9 k = -1 := by rw [p2]; exact of_decide_eq_false h1
          obtain ⟨-, ⟨h', -, h2', hh⟩⟩ := (hw.2.2.2.1 k hk2).resolve_left p4
          have h3 := h2 h' (by omega)
          rw [b_and, b_not _ (by omega), b_bit (by omega) (by omega), H.2.2.2.2.2.2.1 u hu c (by omega) h' (by omega)] at h3
          have h4 : rAny (fun k => decide (T.1 9 k = nI c) && !decide (T.1 3 (u * 24 + k) = 0) && decide (T.1 10 k = nI h')) (tT T) = true := rAny_t.mpr ⟨k, hk2, by simp [p2, hc, p1, hh]⟩
          have h5 : ¬ h' = k0 := fun q => p3 (by rw [hh, hk, q])
          rw [h4] at h3
          simp [h5] at h3
      · intro h2 i hi
        cases hb : bt (σ.1 (30 + 6 * v) (u * 4 + c) &&& ((1 <<< (nI k0 &&& 31)) ^^^ (-1))) i
        · rfl
        · exfalso
          rw [b_and, b_not _ hi, b_bit (by omega) hi, H.2.2.2.2.2.2.1 u hu c (by omega) i hi, Bool.and_eq_true, rAny_t] at hb
          obtain ⟨⟨k, hk2, p⟩, p5⟩ := hb
          simp only [Bool.and_eq_true, Bool.not_eq_true', decide_eq_true_eq, decide_eq_false_iff_not] at p p5
          obtain ⟨⟨p1, p2⟩, p3⟩ := p
          have h3 := h2 k hk2
          have h5 : ¬ T.1 10 k = T.1 10 r := by
            rw [p3, hk]
            exact fun q => p5 ((nI_eq (by omega) (by omega)).mp q)
          simp [p2, p1, hc, h5] at h3
    refine ⟨fun h2 => ?_, fun h2 => ?_⟩
    · rw [e.mp h2] at hQ; exact hQ
    · rw [show rAny _ _ = true from (by
        cases q : rAny (fun k => !decide (T.1 3 (u * 24 + k) = 0) && decide (T.1 9 k = T.1 9 r) && !decide (T.1 10 k = T.1 10 r)) (tT T)
        · exact absurd (e.mpr q) h2
        · rfl)] at hQ
      exact hQ
theorem lb_matching (H : vw v lo T wgh S m σ) (hv : v < 2) (hw : wf T) {u a r : Nat} (hm : m ≤ tU T) (hu : u < m) (ha : a < 5) (hr : r < tT T) {Q : Int32 → Prop} (hQ : Q (mb (mat lo T u (S u) a r) (tL T))) : w_X7_matching v σ (nI u) (nI a) (nI r) Q := by
  have hT := (wf_T hw).2.2
  have hU := (wf_U hw).2
  have hL := (wf_L hw).2
  unfold w_X7_matching
  rw [gk_at_in (show u < gk_rl (28 + 6 * v) by rw [(gk_rv hv).2.2.1]; omega), gk_at_in (show a < gk_rl (26 + 6 * v) by rw [(gk_rv hv).1]; omega), gk_at_in (show r < gk_rl (27 + 6 * v) by rw [(gk_rv hv).2.1]; omega), H.2.2.2.2.2.2.2.1 u hu, H.2.2.2.2.1 a ha, H.2.2.2.2.2.1 r hr]
  rw [show mb (mU lo T u (S u)) (tL T) &&& mb (fun k => act T k a) (tL T) &&& mb (fun k => whr T k r) (tL T) = mb (mat lo T u (S u) a r) (tL T) from mb_ext (by omega) (fun i hi => by
    rw [b_and, b_and, mb_b _ (by omega) hi, mb_b _ (by omega) hi, mb_b _ (by omega) hi]
    unfold mat
    by_cases h : i < tL T <;> simp [h])]
  exact hQ
theorem lb_deciding (H : vw v lo T wgh S m σ) (hv : v < 2) (hw : wf T) {u : Nat} (hm : m ≤ tU T) (hu : u < m) (P : Nat → Bool) {x : Int32} (hx : ∀ k, k < tL T → bt x k = P k) (hP : ∀ k, k < tL T → P k = true → mU lo T u (S u) k = true) {Q : Int32 → Prop} (hQ : Q (oI (bs P (wt T wgh u (S u)) (tL T)))) : w_X7_deciding v σ (nI u) x Q := by
  have hL := (wf_L hw).2
  have hU := (wf_U hw).2
  have hn : σ.2 4 = nI (tL T) := (ts H.1 (by decide)).trans (wf_L hw).1
  have l := lpUp (A := Int32 × Int32) (n := tL T) (W := fun f k z => wL_X7_deciding_8 v σ Q f (nI u) x z.1 z.2 (nI k)) (J := fun k z => z.1 = oI (bs P (wt T wgh u (S u)) k) ∧ ∀ b, bs P (wt T wgh u (S u)) k = some b → z.2 = wt T wgh u (S u) b) ?_ ?_ (tL T) 0 (-1, 0) (Nat.zero_add _) ⟨rfl, fun b h => by cases h⟩
  · exact ⟨_, l⟩
  · intro f z hz
    unfold wL_X7_deciding_8
    rw [hn]
    refine ⟨fun _ => ?_, fun h => absurd (nI_le (Nat.le_refl _) (by omega)) h⟩
    rw [hz.1]; exact hQ
  · intro f k z hk hz next
    unfold wL_X7_deciding_8
    rw [hn]
    refine ⟨fun h => absurd h (nI_ge hk (by omega)), fun _ => ⟨fun h => ?_, fun _ => ?_⟩⟩
    · have h1 : ∀ j, j < tL T → P j = false := fun j hj => by rw [← hx j hj, h, b_0]
      have h2 : bs P (wt T wgh u (S u)) k = none := bs_none.mpr (fun j hj => h1 j (by omega))
      rw [hz.1, h2]
      rw [bs_none.mpr h1] at hQ
      exact hQ
    · rw [lb_isIn x (show k < 32 by omega), hx k hk, nI_1, show nI u * 30 + nI k = nI (u * 30 + k) from nI_ma u k 30, gk_at_in (show u * 30 + k < gk_rl (29 + 6 * v) by rw [(gk_rv hv).2.2.2.1]; omega)]
      refine b2i_go _ (fun hp => ?_) (fun hp => ?_)
      · refine next (z.1, z.2) ?_
        have e : bs P (wt T wgh u (S u)) (k + 1) = bs P (wt T wgh u (S u)) k := by
          rw [bs]
          cases h1 : bs P (wt T wgh u (S u)) k <;> simp [hp]
        rw [e]
        exact hz
      · rw [H.2.2.2.2.2.2.2.2 u hu k hk (hP k hk hp)]
        have take : bs P (wt T wgh u (S u)) (k + 1) = some k → wJ_X7_deciding_63 v σ (fun x1 x2 x3 x4 x5 => wL_X7_deciding_8 v σ Q f x1 x2 x3 x4 x5) (nI u) x (nI k) (wt T wgh u (S u) k) := fun e => by
          unfold wJ_X7_deciding_63
          rw [nI_1]
          refine next (nI k, wt T wgh u (S u) k) ?_
          rw [e]
          exact ⟨rfl, fun b hb => by cases hb; rfl⟩
        have hlt : ∀ b, bs P (wt T wgh u (S u)) k = some b → b < 2 ^ 31 := fun b hb => by have := (bs_lt hb).1; omega
        refine ⟨fun h => ?_, fun h => ?_⟩
        · rw [hz.1] at h
          exact take (by rw [bs, (oI_neg hlt).mp h]; simp [hp])
        · rw [hz.1] at h
          cases hb : bs P (wt T wgh u (S u)) k with
          | none => exact absurd ((oI_neg hlt).mpr hb) h
          | some b =>
            rw [hz.2 b hb]
            refine ⟨fun h2 => next (z.1, wt T wgh u (S u) b) ?_, fun h2 => take (by simp [bs, hb, hp, h2])⟩
            have e : bs P (wt T wgh u (S u)) (k + 1) = some b := by simp [bs, hb, h2]
            rw [e]
            rw [hb] at hz
            exact ⟨hz.1, fun b' hb' => by cases hb'; rfl⟩
theorem lb_ruled (H : vw v lo T wgh S m σ) (hv : v < 2) (hw : wf T) {u a r : Nat} (hm : m ≤ tU T) (hu : u < m) (ha : a < 5) (hr : r < tT T) {Q : Int32 → Prop} (hQ : Q (rul lo T wgh u (S u) a r)) : w_X7_ruled v σ (nI u) (nI a) (nI r) Q := by
  have hT := (wf_T hw).2.2
  have hU := (wf_U hw).2
  have hL := (wf_L hw).2
  unfold w_X7_ruled
  refine lb_label v H.1 (by omega) ha (by omega) ?_
  unfold rul at hQ
  refine b2i_go _ (fun h1 => ?_) (fun h1 => ?_)
  · rw [if_neg (by rw [h1]; decide)] at hQ
    refine lb_walled H hv hw (by omega) hr ?_
    refine b2i_go _ (fun h2 => ?_) (fun h2 => ?_)
    · rw [if_neg (by rw [h2]; decide)] at hQ
      refine lb_matching H hv hw hm hu ha hr ?_
      refine lb_deciding H hv hw hm hu (mat lo T u (S u) a r) (fun k hk => by rw [mb_b _ (by omega) (by omega)]; simp [hk]) (fun k _ hp => ?_) ?_
      · unfold mat at hp
        simp only [Bool.and_eq_true] at hp
        exact hp.1.1
      · cases hb : bs (mat lo T u (S u) a r) (wt T wgh u (S u)) (tL T) with
        | none =>
          rw [hb] at hQ
          exact ⟨fun h => absurd h (by decide), fun _ => hQ⟩
        | some k =>
          have hk := (bs_lt hb).1
          rw [hb] at hQ
          refine ⟨fun _ => ?_, fun h => absurd (nI_pos' (by omega)) h⟩
          show w_X8_isIn _ (nI k) _
          rw [lb_isIn _ (show k < 32 by omega), H.2.2.2.1, mb_b _ (by omega) (by omega), decide_eq_true hk, Bool.true_and]
          unfold rulO at hQ
          refine b2i_go _ (fun h3 => ?_) (fun h3 => ?_)
          · have h3 := of_decide_eq_false h3
            simp only [h3, if_false] at hQ
            exact hQ
          · have h3 := of_decide_eq_true h3
            simp only [h3, if_true] at hQ
            exact hQ
    · rw [if_pos h2] at hQ
      exact hQ
  · rw [if_pos h1] at hQ
    exact hQ
theorem lb_grantFor (h : told σ = T) (hw : wf T) {u a r : Nat} (hr : r < 24) {Q : Int32 → Prop} (hQ : Q (oI (gfr T (σ.2 (11 + 4 * v)) u a r))) : w_X7_grantFor v σ (nI u) (nI a) (nI r) Q := by
  have hG := (wf_G hw).2
  have hn : σ.2 5 = nI (tG T) := (ts h (by decide)).trans (wf_G hw).1
  have l := lpUp (A := Unit) (n := tG T) (W := fun f k _ => wL_X7_grantFor_3 v σ Q f (nI u) (nI a) (nI r) (nI k)) (J := fun k _ => fo (fun g => bt (σ.2 (11 + 4 * v)) g && giv T u a r g) k = none) ?_ ?_ (tG T) 0 () (Nat.zero_add _) rfl
  · exact ⟨_, l⟩
  · intro f _ hz
    unfold wL_X7_grantFor_3
    rw [hn]
    refine ⟨fun _ => ?_, fun h => absurd (nI_le (Nat.le_refl _) (by omega)) h⟩
    unfold gfr at hQ
    rw [hz] at hQ; exact hQ
  · intro f k _ hk hz next
    unfold wL_X7_grantFor_3
    rw [hn]
    refine ⟨fun h => absurd h (nI_ge hk (by omega)), fun _ => ?_⟩
    rw [lb_isIn _ (show k < 32 by omega), nI_1]
    refine b2i_go _ (fun h1 => next () (fo_f hz (by rw [h1]; rfl))) (fun h1 => ?_)
    refine lb_isGiven h hw hk hr ?_
    refine b2i_go _ (fun h2 => next () (fo_f hz (by rw [h2, Bool.and_false]))) (fun h2 => ?_)
    unfold gfr at hQ
    rw [fo_stop' hz (by rw [h1, h2]; rfl) hk] at hQ
    exact hQ
theorem gfr_lt {G : Int32} {u a r k : Nat} (h : gfr T G u a r = some k) : k < tG T := (fo_lt h).1
theorem lb_decided (H : vw v lo T wgh S m σ) (hv : v < 2) (hw : wf T) {u a r : Nat} (hm : m ≤ tU T) (hu : u < m) (ha : a < 5) (hr : r < tT T) {Q : Int32 → Prop} (hQ : Q (dcd T (σ.2 (11 + 4 * v)) (rul lo T wgh u (S u) a r) u a r)) : w_X7_decided v σ (nI u) (nI a) (nI r) Q := by
  have hT := (wf_T hw).2.2
  have hG := (wf_G hw).2
  unfold w_X7_decided
  refine lb_ruled H hv hw hm hu ha hr ?_
  unfold dcd at hQ
  refine ⟨fun h1 => ?_, fun h1 => ?_⟩
  · rw [if_neg (fun q => h1 q.1)] at hQ
    exact hQ
  · refine lb_grantFor H.1 hw (by omega) ?_
    have hlt : ∀ k, gfr T (σ.2 (11 + 4 * v)) u a r = some k → k < 2 ^ 31 := fun k hk => by have := gfr_lt hk; omega
    refine ⟨fun h2 => ?_, fun h2 => ?_⟩
    · rw [(oI_neg hlt).mp h2, if_neg (by simp)] at hQ
      exact hQ
    · rw [if_pos ⟨h1, by
        cases q : gfr T (σ.2 (11 + 4 * v)) u a r with
        | none => exact absurd ((oI_neg hlt).mpr q) h2
        | some k => rfl⟩] at hQ
      exact hQ
theorem lb_isAllowed (H : vw v lo T wgh S m σ) (hv : v < 2) (hw : wf T) {u a r : Nat} (hm : m ≤ tU T) (hu : u < m) (ha : a < 5) (hr : r < tT T) {Q : Int32 → Prop} (hQ : Q (b2i (alw (dcd T (σ.2 (11 + 4 * v)) (rul lo T wgh u (S u) a r) u a r)))) : w_X7_isAllowed v σ (nI u) (nI a) (nI r) Q := by
  unfold w_X7_isAllowed
  refine lb_decided H hv hw hm hu ha hr ?_
  unfold alw at hQ
  refine dec_go (fun h1 => ?_) (fun h1 => ?_)
  · rw [h1] at hQ; exact hQ
  · refine dec_go' (fun h2 => ?_) (fun h2 => ?_) <;> · rw [h1, h2] at hQ; exact hQ
theorem lb_reason (H : vw v lo T wgh S m σ) (hv : v < 2) (hw : wf T) {u a r : Nat} (hm : m ≤ tU T) (hu : u < m) (ha : a < 5) (hr : r < tT T) (hG : σ.2 (11 + 4 * v) = gd lo T wgh S) {Q : Int32 → Prop} (hQ : Q (why lo T wgh S u a r)) : w_X7_reason v σ (nI u) (nI a) (nI r) Q := by
  have hT := (wf_T hw).2.2
  have hL := (wf_L hw).2
  have mk : Q (oI (bs (mat lo T u (S u) a r) (wt T wgh u (S u)) (tL T))) → wJ_X7_reason_21 v σ Q (nI u) (nI a) (nI r) := fun hq => by
    unfold wJ_X7_reason_21
    refine lb_matching H hv hw hm hu ha hr ?_
    refine lb_deciding H hv hw hm hu (mat lo T u (S u) a r) (fun k hk => by rw [mb_b _ (by omega) (by omega)]; simp [hk]) (fun k _ hp => ?_) hq
    unfold mat at hp
    simp only [Bool.and_eq_true] at hp
    exact hp.1.1
  unfold w_X7_reason
  refine lb_ruled H hv hw hm hu ha hr ?_
  unfold why at hQ
  refine ⟨fun h1 => ?_, fun h1 => ⟨fun h2 => ⟨fun h3 => ?_, fun h3 => ?_⟩, fun h2 => ?_⟩⟩
  · rw [if_pos (Or.inl h1)] at hQ
    exact mk hQ
  · rw [if_neg (by rintro (q | q); exact h1 q; exact h2 q), if_neg h3] at hQ
    exact hQ
  · rw [if_neg (by rintro (q | q); exact h1 q; exact h2 q), if_pos h3, ← hG] at hQ
    exact lb_grantFor H.1 hw (by omega) hQ
  · rw [if_pos (Or.inr h2)] at hQ
    exact mk hQ
theorem lb_allowedTo (H : vw v lo T wgh S m σ) (hv : v < 2) (hw : wf T) {u a : Nat} (hm : m ≤ tU T) (hu : u < m) (ha : a < 5) {Q : Int32 → Prop} (hQ : Q (nI (cn (fun r => alw (dcd T (σ.2 (11 + 4 * v)) (rul lo T wgh u (S u) a r) u a r)) (tT T)))) : w_X7_allowedTo v σ (nI u) (nI a) Q := by
  have hT := (wf_T hw).2.2
  have hn : σ.2 3 = nI (tT T) := (ts H.1 (by decide)).trans (wf_T hw).1
  have l := lpUp (A := Int32) (n := tT T) (W := fun f k z => wL_X7_allowedTo_5 v σ Q f (nI u) (nI a) z (nI k)) (J := fun k z => z = nI (cn (fun r => alw (dcd T (σ.2 (11 + 4 * v)) (rul lo T wgh u (S u) a r) u a r)) k)) ?_ ?_ (tT T) 0 0 (Nat.zero_add _) rfl
  · exact ⟨_, l⟩
  · intro f z hz
    unfold wL_X7_allowedTo_5
    rw [hn]
    refine ⟨fun _ => ?_, fun h => absurd (nI_le (Nat.le_refl _) (by omega)) h⟩
    rw [hz]; exact hQ
  · intro f k z hk hz next
    unfold wL_X7_allowedTo_5
    rw [hn]
    refine ⟨fun h => absurd h (nI_ge hk (by omega)), fun _ => ?_⟩
    refine lb_isAllowed H hv hw hm hu ha hk ?_
    rw [nI_1]
    refine b2i_go _ (fun h1 => next z ?_) (fun h1 => next (z + 1) ?_)
    · rw [hz, cn_f (P := fun r => alw (dcd T (σ.2 (11 + 4 * v)) (rul lo T wgh u (S u) a r) u a r)) h1]
    · rw [hz, cn_t (P := fun r => alw (dcd T (σ.2 (11 + 4 * v)) (rul lo T wgh u (S u) a r) u a r)) h1, nI_1]
end VW

