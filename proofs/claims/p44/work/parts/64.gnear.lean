/-! ===== the law's Gate: how near, whether held, whether apart ===== -/
section GN
variable {h : Nat → Int32} {nR : Nat} {s : Int32}
theorem rN_end {m : Nat} (hm : nR ≤ m) (hR : m ≤ 12) (hb : ∀ k, k < nR → bd nR (h k)) (hs : bd nR s) : rN h nR s m = 0 := by
  refine Decidable.byContradiction fun hne => ?_
  have hall : ∀ k, k ≤ m → ¬ rN h nR s k = 0 := fun k hk h0 => by
    have h1 := (rN_zero h0 (m - k)).1
    rw [show k + (m - k) = m by omega] at h1
    exact hne h1
  have hex : ∀ k, k ≤ m → ∃ i, i < nR ∧ bt (rN h nR s k) i = true := fun k hk => by
    refine Decidable.byContradiction fun hn => hall k hk ?_
    rw [b_eq0]
    intro i hi
    cases hbt : bt (rN h nR s k) i
    · rfl
    · exact absurd ⟨i, bd_rN hb hs k i hi hbt, hbt⟩ hn
  have grow : ∀ k, k ≤ m → k + 1 ≤ cn (fun i => bt (rH h nR s k) i) nR := by
    intro k
    induction k with
    | zero =>
      intro _
      obtain ⟨i, h1, h2⟩ := hex 0 (by omega)
      have := cn_lt (P := fun _ => false) (R := fun i => bt (rH h nR s 0) i) (n := nR) (fun _ _ q => by cases q) h1 rfl h2
      omega
    | succ k ih =>
      intro hk
      have h1 := ih (by omega)
      obtain ⟨i, h2, h3⟩ := hex (k + 1) hk
      have h5 := (rN_first (k + 1) (show i < 32 by omega)).mp h3
      have h4 : bt (rH h nR s k) i = false := by
        rw [rH_b, rAny_f]
        intro j hj
        cases hq : bt (rN h nR s j) i
        · rfl
        · have h6 := ((rN_first j (show i < 32 by omega)).mp hq).1
          rw [h5.2 j hj] at h6
          cases h6
      have h7 : ∀ i, i < nR → bt (rH h nR s k) i = true → bt (rH h nR s (k + 1)) i = true := fun i _ q => by
        show bt ((rNH h nR s k).2 ||| _) i = true
        rw [b_or, show bt (rNH h nR s k).2 i = true from q]
        rfl
      have h8 : bt (rH h nR s (k + 1)) i = true := by
        show bt ((rNH h nR s k).2 ||| (rHeld h (rNH h nR s k).1 nR &&& ((rNH h nR s k).2 ^^^ (-1)))) i = true
        rw [b_or, show bt (rHeld h (rNH h nR s k).1 nR &&& ((rNH h nR s k).2 ^^^ (-1))) i = true from h3]
        simp
      have := cn_lt (P := fun i => bt (rH h nR s k) i) (R := fun i => bt (rH h nR s (k + 1)) i) h7 h2 h4 h8
      omega
  have h1 := grow m (Nat.le_refl _)
  have h2 := cn_le (fun i => bt (rH h nR s m) i) nR
  omega
/-- who is had at all is had within six -/
theorem had_six (hR : nR ≤ 5) (hb : ∀ k, k < nR → bd nR (h k)) (hs : bd nR s) {i : Nat} (hi : i < 32) : bt (rH h nR s 12) i = true ↔ ∃ k, k < 6 ∧ bt (rWk h nR s k) i = true := by
  refine ⟨fun q => ?_, fun ⟨k, _, q⟩ => (had_iff (by omega) hb hs hi).mpr ⟨k, q⟩⟩
  rw [rH_b, rAny_t] at q
  obtain ⟨j, -, h1⟩ := q
  rcases Nat.lt_or_ge j 6 with c | c
  · exact ⟨j, c, ((rN_first j hi).mp h1).1⟩
  · have e := (rN_zero (rN_end (m := 6) (by omega) (by omega) hb hs) (j - 6)).1
    rw [show 6 + (j - 6) = j by omega] at e
    rw [e, b_0] at h1
    cases h1
theorem rWk_shift (h : Nat → Int32) (nR : Nat) (s : Int32) : ∀ k, rWk h nR s (k + 1) = rWk h nR (rHeld h s nR) k
  | 0 => rfl
  | k + 1 => by
    show rHeld h (rWk h nR s (k + 1)) nR = rHeld h (rWk h nR (rHeld h s nR) k) nR
    rw [rWk_shift h nR s k]
/-- on from a role, by one it holds -/
theorem wk_bit (hR : nR ≤ 12) (hb : ∀ k, k < nR → bd nR (h k)) {p k r : Nat} (hp : p < nR) (hr : r < 32) : bt (rWk h nR (1 <<< (nI p &&& 31)) (k + 1)) r = true ↔ ∃ q, q < nR ∧ bt (h p) q = true ∧ bt (rWk h nR (1 <<< (nI q &&& 31)) k) r = true := by
  have key : ∀ q, q < 32 → (bt (rHeld h (1 <<< (nI p &&& 31)) nR) q = true ↔ bt (h p) q = true) := fun q hq => by
    rw [rHeld_b, rAny_t]
    refine ⟨fun ⟨j, h1, h2⟩ => ?_, fun h1 => ⟨p, hp, ?_⟩⟩
    · rw [Bool.and_eq_true, b_bit (by omega) (by omega), decide_eq_true_eq] at h2
      rw [← h2.1]; exact h2.2
    · rw [b_bit (by omega) (by omega), h1, decide_eq_true rfl]; rfl
  rw [rWk_shift, rWk_union _ _ _ hr]
  refine ⟨fun ⟨q, h1, h2, h3⟩ => ?_, fun ⟨q, h1, h2, h3⟩ => ⟨q, by omega, (key q (by omega)).mpr h2, h3⟩⟩
  have h4 := (key q h1).mp h2
  exact ⟨q, hb p hp q h1 h4, h4, h3⟩
end GN
/-- the law's rows of holdings -/
def tH5 (h : Nat → Int32) (nR : Nat) (σ : nk_C) : Prop := ∀ a b, a < nR → b < nR → σ.2.1 (26 + a) b = b2i (bt (h a) b)
def tS5 (s : Int32) (nR z0 : Nat) (σ : nk_C) : Prop := ∀ i, i < nR → σ.2.1 z0 i = b2i (bt s i)
def tA5 (ap : Nat → Int32) (nR : Nat) (σ : nk_C) : Prop := ∀ a b, a < nR → b < nR → σ.2.1 (31 + a) b = b2i (bt (ap a) b)
def sym5 (ap : Nat → Int32) (nR : Nat) : Prop := ∀ a b, a < nR → b < 32 → bt (ap a) b = true → b < nR ∧ ¬ a = b ∧ bt (ap b) a = true
section GM
variable {h : Nat → Int32} {nR : Nat} {s : Int32} {σ : nk_C}
theorem ln_near (hn : σ.2.2 9 = nI nR) (hR : nR ≤ 5) (hH : tH5 h nR σ) {z0 : Nat} (hs : tS5 s nR z0 σ) : ∀ d, 1 ≤ d → d ≤ 6 → ∀ r, r < nR → ∀ Q : Int32 → Prop, (∀ v, ((v ≤ d ∧ ∃ k, k < d ∧ bt (rWk h nR s k) r = true) ∨ (v = 99 ∧ ∀ k, k < d → bt (rWk h nR s k) r = false)) → Q (nI v)) → wd_X9_near d σ z0 (nI r) (nI d) Q := by
  intro d
  induction d with
  | zero => intro h1; omega
  | succ d ih =>
    intro _ hd6 r hr Q hQ
    have go : ∀ b0, ((1 ≤ b0 ∧ b0 ≤ d + 1) ∧ ∃ k, k < d + 1 ∧ bt (rWk h nR s k) r = true) ∨ (b0 = 99 ∧ bt s r = false) → ∃ n17, wL_X9_near_17 (wd_X9_near d) σ z0 (fun x4 => (wJ_X9_near_68 (wd_X9_near d) σ z0 Q x4)) n17 (nI r) (nI (d + 1)) (nI b0) 0 := fun b0 hb0 => by
      have fin : ∀ b, (((1 ≤ b ∧ b ≤ d + 1) ∧ ∃ k, k < d + 1 ∧ bt (rWk h nR s k) r = true) ∨ (b = 99 ∧ ∀ k, k < d + 1 → bt (rWk h nR s k) r = false)) → wJ_X9_near_68 (wd_X9_near d) σ z0 Q (nI b) := fun b hb => by
        unfold wJ_X9_near_68
        rw [if_neg (show ¬ (99 : Int32) < nI b from nI_nlt (b := b) (a := 99) (by omega) (by decide))]
        exact hQ b (hb.imp (fun q => ⟨q.1.2, q.2⟩) id)
      have l := lpUp (A := Nat) (n := nR) (W := fun f r' b => wL_X9_near_17 (wd_X9_near d) σ z0 (fun x4 => (wJ_X9_near_68 (wd_X9_near d) σ z0 Q x4)) f (nI r) (nI (d + 1)) (nI b) (nI r')) (J := fun r' b => ((1 ≤ b ∧ b ≤ d + 1) ∧ ∃ k, k < d + 1 ∧ bt (rWk h nR s k) r = true) ∨ (b = 99 ∧ bt s r = false ∧ ∀ j, j < r' → bt (h j) r = true → ∀ k, k < d → bt (rWk h nR s k) j = false)) ?_ ?_ nR 0 b0 (Nat.zero_add _) (hb0.imp id (fun q => ⟨q.1, q.2, fun j hj => absurd hj (by omega)⟩))
      · exact ⟨_, l⟩
      · intro f b hb
        unfold wL_X9_near_17
        rw [hn]
        refine ⟨fun _ => fin b (hb.imp id (fun ⟨q1, q2, q3⟩ => ⟨q1, fun k hk => ?_⟩)), fun q => absurd (nI_le (Nat.le_refl _) (by omega)) q⟩
        cases k with
        | zero => exact q2
        | succ k =>
          rw [rWk_b, rAny_f]
          intro j hj
          cases q : bt (h j) r
          · rw [Bool.and_false]
          · rw [q3 j hj q k (by omega)]; rfl
      · intro f r' b hr' hb next
        unfold wL_X9_near_17
        rw [hn, nI_1]
        refine ⟨fun q => absurd q (nI_ge hr' (by omega)), fun _ => ⟨fun c => ?_, fun c => ⟨vp_in' (by omega) (by decide), vp_in' (by omega) (by decide), ?_⟩⟩⟩
        · have hd : d = 0 := by
            have := (nI_leI (a := d + 1) (b := 1) (by omega) (by decide)).mp c
            omega
          refine fin b (hb.imp id (fun ⟨q1, q2, q3⟩ => ⟨q1, fun k hk => ?_⟩))
          have : k = 0 := by omega
          subst this
          exact q2
        · have hd : 1 ≤ d := by
            rcases Nat.lt_or_ge d 1 with q | q
            · exact absurd (nI_le (a := d + 1) (b := 1) (by omega) (by decide)) c
            · exact q
          rw [nI_clamp (show r' < 2 ^ 31 by omega), nI_clamp (show r < 2 ^ 31 by omega), hH r' r hr' hr]
          refine b2i_go _ (fun q => next b ?_) (fun q => ?_)
          · refine hb.imp id (fun q0 => ⟨q0.1, q0.2.1, fun j hj hjr k hk => ?_⟩)
            by_cases e : j = r'
            · rw [e, q] at hjr; cases hjr
            · exact q0.2.2 j (by omega) hjr k hk
          · rw [show nI (d + 1) - 1 = nI d from nI_pred d]
            refine ih hd (by omega) r' hr' _ (fun v hv => ?_)
            have hb99 : 1 ≤ b ∧ b ≤ 99 := by
              rcases hb with q0 | q0
              · have q1 := q0.1
                clear q0
                omega
              · have q1 := q0.1
                clear q0
                omega
            rw [show (1 : Int32) + nI v = nI (1 + v) from nI_add 1 v]
            rcases hv with ⟨h1, k, h2, h3⟩ | ⟨h1, h2⟩
            · have hw : ∃ k, k < d + 1 ∧ bt (rWk h nR s k) r = true := ⟨k + 1, by omega, rWk_step hr' h3 q⟩
              by_cases c2 : 1 + v < b
              · rw [if_pos (nI_lt c2 (by clear hb; omega))]
                exact next (1 + v) (Or.inl ⟨⟨by clear hb; omega, by clear hb; omega⟩, hw⟩)
              · rw [if_neg (nI_nlt (by clear hb; omega) (by clear hb; omega))]
                exact next b (Or.inl ⟨⟨by clear hb; omega, by clear hb; omega⟩, hw⟩)
            · rw [if_neg (nI_nlt (by clear hb; omega) (by clear hb; omega))]
              refine next b (hb.imp id (fun q0 => ⟨q0.1, q0.2.1, fun j hj hjr k hk => ?_⟩))
              by_cases e : j = r'
              · rw [e]; exact h2 k hk
              · exact q0.2.2 j (by omega) hjr k hk
    show w_X9_near (wd_X9_near d) σ z0 (nI r) (nI (d + 1)) Q
    unfold w_X9_near
    refine ⟨vp_in' (by omega) (by decide), ?_⟩
    rw [nI_clamp (show r < 2 ^ 31 by omega), hs r hr]
    exact b2i_go _ (fun q => go 99 (Or.inr ⟨rfl, q⟩)) (fun q => go 1 (Or.inl ⟨⟨by omega, by omega⟩, 0, by omega, q⟩))
theorem ln_near6 (hn : σ.2.2 9 = nI nR) (hR : nR ≤ 5) (hH : tH5 h nR σ) (hb : ∀ k, k < nR → bd nR (h k)) {z0 : Nat} (hs : tS5 s nR z0 σ) (hsb : bd nR s) {r : Nat} (hr : r < nR) {A B : Prop} (h0 : bt (rH h nR s 12) r = false → A) (h1 : bt (rH h nR s 12) r = true → B) : wd_X9_near 6 σ z0 (nI r) 6 (fun v => (99 ≤ v → A) ∧ (¬ 99 ≤ v → B)) := by
  refine ln_near hn hR hH hs 6 (by decide) (by decide) r hr _ (fun v hv => ?_)
  have e := had_six hR hb hsb (show r < 32 by omega)
  rcases hv with ⟨q1, q2⟩ | ⟨q1, q2⟩
  · exact ⟨fun c => absurd c (nI_ge (b := 99) (by omega) (by decide)), fun _ => h1 (e.mpr q2)⟩
  · refine ⟨fun _ => h0 ?_, fun c => absurd (by rw [q1]; decide) c⟩
    cases q : bt (rH h nR s 12) r
    · rfl
    · obtain ⟨k, k1, k2⟩ := e.mp q
      rw [q2 k k1] at k2
      cases k2
theorem ln_isHeld (hn : σ.2.2 9 = nI nR) (hR : nR ≤ 5) (hH : tH5 h nR σ) (hb : ∀ k, k < nR → bd nR (h k)) {r : Nat} (hr : r < nR) : ∀ m, m ≤ 6 → ∀ p, p < nR → ∀ Q : Int32 → Prop, (∀ b : Bool, (b = true ↔ ∃ k, k ≤ m ∧ bt (rWk h nR (1 <<< (nI p &&& 31)) k) r = true) → Q (b2i b)) → wd_X9_isHeld (m + 1) σ (nI p) (nI r) (nI m) Q := by
  intro m
  induction m with
  | zero =>
    intro _ p hp Q hQ
    show w_X9_isHeld (wd_X9_isHeld 0) σ (nI p) (nI r) (nI 0) Q
    unfold w_X9_isHeld
    have e0 : bt (rWk h nR (1 <<< (nI p &&& 31)) 0) r = decide (r = p) := b_bit (by omega) (by omega)
    refine ⟨fun c => ?_, fun c => hQ true ⟨fun _ => ⟨0, by omega, ?_⟩, fun _ => rfl⟩⟩
    · have c' : ¬ p = r := fun e => c (by rw [e])
      have q0 : Q 0 := hQ false ⟨fun q => (by cases q), fun ⟨k, h1, h2⟩ => by
        have : k = 0 := by omega
        subst this
        rw [e0, decide_eq_true_eq] at h2
        exact absurd h2.symm c'⟩
      refine ⟨1, ?_⟩
      unfold wL_X9_isHeld_10
      exact ⟨fun _ => q0, fun _ => ⟨fun _ => q0, fun q => absurd (by decide) q⟩⟩
    · rw [e0, decide_eq_true_eq]
      exact ((nI_eq (by omega) (by omega)).mp c).symm
  | succ m ih =>
    intro hm p hp Q hQ
    show w_X9_isHeld (wd_X9_isHeld (m + 1)) σ (nI p) (nI r) (nI (m + 1)) Q
    unfold w_X9_isHeld
    have e0 : bt (rWk h nR (1 <<< (nI p &&& 31)) 0) r = decide (r = p) := b_bit (by omega) (by omega)
    refine ⟨fun c => ?_, fun c => hQ true ⟨fun _ => ⟨0, by omega, ?_⟩, fun _ => rfl⟩⟩
    · have c' : ¬ p = r := fun e => c (by rw [e])
      have l := lpUp (A := Unit) (n := nR) (W := fun f j _ => wL_X9_isHeld_10 (wd_X9_isHeld (m + 1)) σ Q f (nI p) (nI r) (nI (m + 1)) (nI j)) (J := fun j _ => ∀ i, i < j → bt (h p) i = true → ∀ k, k ≤ m → bt (rWk h nR (1 <<< (nI i &&& 31)) k) r = false) ?_ ?_ nR 0 () (Nat.zero_add _) (fun i hi => absurd hi (by omega))
      · exact ⟨_, l⟩
      · intro f _ hJ
        unfold wL_X9_isHeld_10
        rw [hn]
        refine ⟨fun _ => hQ false ⟨fun q => (by cases q), fun ⟨k, h1, h2⟩ => ?_⟩, fun q => absurd (nI_le (Nat.le_refl _) (by omega)) q⟩
        exfalso
        cases k with
        | zero =>
          rw [e0, decide_eq_true_eq] at h2
          exact c' h2.symm
        | succ k =>
          obtain ⟨q, q1, q2, q3⟩ := (wk_bit (by omega) hb hp (by omega)).mp h2
          rw [hJ q q1 q2 k (by omega)] at q3
          cases q3
      · intro f j _ hj hJ next
        unfold wL_X9_isHeld_10
        rw [hn, nI_1]
        refine ⟨fun q => absurd q (nI_ge hj (by omega)), fun _ => ⟨fun q => absurd q (nI_ge (a := 0) (b := m + 1) (by omega) (by omega)), fun _ => ⟨vp_in' (by omega) (by decide), vp_in' (by omega) (by decide), ?_⟩⟩⟩
        rw [nI_clamp (show p < 2 ^ 31 by omega), nI_clamp (show j < 2 ^ 31 by omega), hH p j hp hj]
        refine b2i_go _ (fun q => next () (fun i hi hb2 k hk => ?_)) (fun q => ?_)
        · by_cases e : i = j
          · rw [e, q] at hb2; cases hb2
          · exact hJ i (by omega) hb2 k hk
        · rw [show nI (m + 1) - 1 = nI m from nI_pred m]
          refine ih (by omega) j hj _ (fun b hb2 => ?_)
          refine b2i_go _ (fun q2 => next () (fun i hi hb3 k hk => ?_)) (fun q2 => hQ true ⟨fun _ => ?_, fun _ => rfl⟩)
          · by_cases e : i = j
            · rw [e]
              cases q3 : bt (rWk h nR (1 <<< (nI j &&& 31)) k) r
              · rfl
              · rw [hb2.mpr ⟨k, hk, q3⟩] at q2; cases q2
            · exact hJ i (by omega) hb3 k hk
          · obtain ⟨k, k1, k2⟩ := hb2.mp q2
            exact ⟨k + 1, by omega, (wk_bit (by omega) hb hp (by omega)).mpr ⟨j, hj, q, k2⟩⟩
    · rw [e0, decide_eq_true_eq]
      exact ((nI_eq (by omega) (by omega)).mp c).symm
theorem ln_isHeld6 (hn : σ.2.2 9 = nI nR) (hR : nR ≤ 5) (hH : tH5 h nR σ) (hb : ∀ k, k < nR → bd nR (h k)) {r p : Nat} (hr : r < nR) (hp : p < nR) {Q : Int32 → Prop} (hQ : Q (b2i (bt (rH h nR (1 <<< (nI p &&& 31)) 12) r))) : wd_X9_isHeld 7 σ (nI p) (nI r) 6 Q := by
  refine ln_isHeld hn hR hH hb hr 6 (Nat.le_refl _) p hp Q (fun b hb2 => ?_)
  have hsb : bd nR (1 <<< (nI p &&& 31)) := bd_bit hp (by omega)
  have e : b = bt (rH h nR (1 <<< (nI p &&& 31)) 12) r := by
    rw [Bool.eq_iff_iff, hb2, had_iff (by omega) hb hsb (by omega)]
    refine ⟨fun ⟨k, _, q⟩ => ⟨k, q⟩, fun q => ?_⟩
    obtain ⟨k, k1, k2⟩ := (had_six hR hb hsb (by omega)).mp ((had_iff (by omega) hb hsb (show r < 32 by omega)).mpr q)
    exact ⟨k, by omega, k2⟩
  rw [e]
  exact hQ
theorem ln_hasApart (hn : σ.2.2 9 = nI nR) (hR : nR ≤ 5) (hH : tH5 h nR σ) (hb : ∀ k, k < nR → bd nR (h k)) {z0 : Nat} (hs : tS5 s nR z0 σ) (hsb : bd nR s) {ap : Nat → Int32} (hA : tA5 ap nR σ) (hap : sym5 ap nR) {Q : Int32 → Prop} (hQ : Q (b2i (rSplit ap nR (rH h nR s 12)))) : w_X9_hasApart σ z0 Q := by
  have yes : ∀ a b, a < nR → b < nR → bt (ap a) b = true → bt (rH h nR s 12) a = true → bt (rH h nR s 12) b = true → Q 1 := fun a b ha hb2 q1 q2 q3 => by
    rw [rSplit_t.mpr ⟨a, ha, q2, b, by omega, q1, q3⟩] at hQ
    exact hQ
  unfold w_X9_hasApart
  have l := lpUp (A := Unit) (n := nR) (W := fun f a _ => wL_X9_hasApart_2 σ z0 Q f (nI a)) (J := fun a _ => ∀ i, i < a → ∀ j, j < i → ¬ (bt (ap i) j = true ∧ bt (rH h nR s 12) i = true ∧ bt (rH h nR s 12) j = true)) ?_ ?_ nR 0 () (Nat.zero_add _) (fun i hi => absurd hi (by omega))
  · exact ⟨_, l⟩
  · intro f _ hJ
    unfold wL_X9_hasApart_2
    rw [hn]
    refine ⟨fun _ => ?_, fun q => absurd (nI_le (Nat.le_refl _) (by omega)) q⟩
    have e : rSplit ap nR (rH h nR s 12) = false := by
      cases q : rSplit ap nR (rH h nR s 12)
      · rfl
      · exfalso
        obtain ⟨a, ha, q2, i, hi, q3, q4⟩ := rSplit_t.mp q
        obtain ⟨c1, c2, c3⟩ := hap a i ha hi q3
        rcases Nat.lt_or_ge i a with c | c
        · exact hJ a ha i c ⟨q3, q2, q4⟩
        · exact hJ i c1 a (by omega) ⟨c3, q4, q2⟩
    rw [e] at hQ
    exact hQ
  · intro f a _ ha hJ next
    unfold wL_X9_hasApart_2
    rw [hn]
    refine ⟨fun q => absurd q (nI_ge ha (by omega)), fun _ => ?_⟩
    have l2 := lpUp (A := Unit) (n := a) (W := fun f2 b _ => wL_X9_hasApart_12 σ z0 Q (fun x2 => (wL_X9_hasApart_2 σ z0 Q f (x2 + 1))) f2 (nI a) (nI b)) (J := fun b _ => ∀ j, j < b → ¬ (bt (ap a) j = true ∧ bt (rH h nR s 12) a = true ∧ bt (rH h nR s 12) j = true)) ?_ ?_ a 0 () (Nat.zero_add _) (fun i hi => absurd hi (by omega))
    · exact ⟨_, l2⟩
    · intro f2 _ hJ2
      unfold wL_X9_hasApart_12
      refine ⟨fun _ => ?_, fun q => absurd (nI_le (Nat.le_refl _) (by omega)) q⟩
      show wL_X9_hasApart_2 σ z0 Q f (nI a + 1)
      rw [nI_1]
      refine next () (fun i hi j hj => ?_)
      by_cases e : i = a
      · subst e; exact hJ2 j hj
      · exact hJ i (by omega) j hj
    · intro f2 b _ hb2 hJ2 next2
      unfold wL_X9_hasApart_12
      rw [nI_1 b]
      refine ⟨fun q => absurd q (nI_ge hb2 (by omega)), fun _ => ⟨vp_in' (by omega) (by decide), vp_in' (by omega) (by decide), ?_⟩⟩
      have stay : ¬ (bt (ap a) b = true ∧ bt (rH h nR s 12) a = true ∧ bt (rH h nR s 12) b = true) → wL_X9_hasApart_12 σ z0 Q (fun x2 => (wL_X9_hasApart_2 σ z0 Q f (x2 + 1))) f2 (nI a) (nI (b + 1)) := fun q => next2 () (fun j hj => by
        by_cases e : j = b
        · rw [e]; exact q
        · exact hJ2 j (by omega))
      rw [nI_clamp (show a < 2 ^ 31 by omega), nI_clamp (show b < 2 ^ 31 by omega), hA a b ha (by omega)]
      refine b2i_go _ (fun q => stay (fun ⟨c, _⟩ => by rw [q] at c; cases c)) (fun q => ?_)
      refine ln_near6 hn hR hH hb hs hsb ha (fun q2 => stay (fun ⟨_, c, _⟩ => by rw [q2] at c; cases c)) (fun q2 => ?_)
      exact ln_near6 hn hR hH hb hs hsb (show b < nR by omega) (fun q3 => stay (fun ⟨_, _, c⟩ => by rw [q3] at c; cases c)) (fun q3 => yes a b ha (by omega) q q2 q3)
theorem ln_anyApart {nU : Nat} (hu : σ.2.2 5 = nI nU) (hU : nU ≤ 4) (hn : σ.2.2 9 = nI nR) (hR : nR ≤ 5) (hH : tH5 h nR σ) (hb : ∀ k, k < nR → bd nR (h k)) {S : Nat → Int32} (hs : ∀ u, u < nU → tS5 (S u) nR (22 + u) σ ∧ bd nR (S u)) {ap : Nat → Int32} (hA : tA5 ap nR σ) (hap : sym5 ap nR) {Q : Int32 → Prop} (hQ : Q (b2i (rAny (fun u => rSplit ap nR (rH h nR (S u) 12)) nU))) : w_X9_anyApart σ Q := by
  unfold w_X9_anyApart
  have l := lpUp (A := Unit) (n := nU) (W := fun f u _ => wL_X9_anyApart_2 σ Q f (nI u)) (J := fun u _ => ∀ w, w < u → rSplit ap nR (rH h nR (S w) 12) = false) ?_ ?_ nU 0 () (Nat.zero_add _) (fun i hi => absurd hi (by omega))
  · exact ⟨_, l⟩
  · intro f _ hJ
    unfold wL_X9_anyApart_2
    rw [hu]
    refine ⟨fun _ => ?_, fun q => absurd (nI_le (Nat.le_refl _) (by omega)) q⟩
    rw [rAny_f.mpr hJ] at hQ
    exact hQ
  · intro f u _ huu hJ next
    unfold wL_X9_anyApart_2
    rw [hu, nI_1]
    refine ⟨fun q => absurd q (nI_ge huu (by omega)), fun _ => ⟨vp_in' (by omega) (by decide), ?_⟩⟩
    rw [nI_clamp (show u < 2 ^ 31 by omega)]
    refine ln_hasApart hn hR hH hb (hs u huu).1 (hs u huu).2 hA hap ?_
    refine b2i_go _ (fun q => next () (fun w hw => ?_)) (fun q => ?_)
    · by_cases e : w = u
      · rw [e]; exact q
      · exact hJ w (by omega)
    · rw [rAny_t.mpr ⟨u, huu, q⟩] at hQ
      exact hQ
end GM
