/-! ===== layer B: the roles that would be needed, the reference's lemmas ===== -/
/-- the best rule allows it -/
def awN (T : gk_C) (wgh : Int32) (u : Nat) (s : Int32) (a z : Nat) : Bool := decide (rulO T (bs (mat no0 T u s a z) (wt T wgh u s) (tL T)) = 1)
theorem rul_awN (T : gk_C) (wgh : Int32) (u : Nat) (s : Int32) (a z : Nat) : decide (rul no0 T wgh u s a z = 1) = (decide (barI T u a z = 0) && awN T wgh u s a z) := by
  unfold rul barI awN
  by_cases c1 : lab T u a z = true
  · rw [if_pos c1, if_pos c1]; rfl
  · rw [if_neg c1, if_neg c1]
    by_cases c2 : wal T u z = true
    · rw [if_pos c2, if_pos c2]; rfl
    · rw [if_neg c2, if_neg c2]; rfl
def ownG (T : gk_C) (u g : Nat) : Bool := isT T g && decide (gf T g = u) && decide (barI T u (ga T g) (go T g) = 0) && decide (barI T u 4 (go T g) = 0)
def othG (T : gk_C) (wgh : Int32) (u g : Nat) : Bool := isT T g && (!decide (gf T g = u) && byR no0 T wgh (T.1 2) g)
def rowG (T : gk_C) (u : Nat) (A : Nat → Nat) (n g : Nat) : Int32 := if (decide (g < n) && ownG T u g) = true then mb (fit no0 T u (A g) (go T g)) (tL T) else 0
section MN
variable {T μ : gk_C}
theorem lm_allowing (hM : jM T μ) (hw : wf T) {s : Int32} {f : Nat → Int32} (hN : isN T s f) {u a z : Nat} (hu : u < tU T) (hz : z < tT T) {x : Int32} (hx : ∀ k, k < tL T → bt x k = fit no0 T u a z k) {Q : Int32 → Prop} (hQ : Q (b2i (awN T (μ.2 2) u s a z))) : w_X9_isAllowing μ x (nI u) f (nI z) Q := by
  have hL := wf_L hw
  unfold w_X9_isAllowing
  refine lm_own hM hw hN hx ?_
  rw [show mb (fun k => fit no0 T u a z k && (stO T u s k).isSome) (tL T) = mb (mat no0 T u s a z) (tL T) from mb_congr (fun k _ => (mat_fit no0 T u s a z k).symm)]
  refine lm_weigh hM hw hN hu hz (P := mat no0 T u s a z) (fun k hk => by rw [mb_b _ (by omega) (by omega), decide_eq_true hk, Bool.true_and]) (mb_0 (by omega)) (fun k _ h => mat_ok h) ?_
  unfold awN at hQ
  cases hb : bs (mat no0 T u s a z) (wt T (μ.2 2) u s) (tL T) with
  | none =>
    rw [hb] at hQ
    exact ⟨fun _ => hQ, fun q => absurd rfl q⟩
  | some b =>
    obtain ⟨b1, b2⟩ := bs_lt30 hw hb
    rw [hb] at hQ
    refine ⟨fun q => absurd (by rw [show nI b = -1 from q]; decide) (nI_pos (show b < 2 ^ 31 by omega)), fun _ => ⟨vp_in' b1 (by decide), ?_⟩⟩
    show (μ.1 17 (nI b).toNatClampNeg = 0 → _) ∧ (¬ μ.1 17 (nI b).toNatClampNeg = 0 → _)
    rw [nI_clamp (by omega), (hM.2.2.2.2.2.2.1 b b2).1]
    have hQ : Q (b2i (decide ((if T.1 11 b = 1 then (1 : Int32) else 2) = 1))) := hQ
    refine ⟨fun q => ?_, fun q => ?_⟩
    · rw [q, if_neg (by decide)] at hQ
      exact hQ
    · rw [((hw.2.2.2.2.1 b b2).1).resolve_left q, if_pos rfl] at hQ
      exact hQ
theorem lm_many (x : Int32) {Q : Int32 → Prop} (hQ : Q (nI (cn (bt x) 12))) : w_X9_many x Q := by
  unfold w_X9_many
  have l := lpUp (A := Int32) (n := 12) (W := fun fu j z => wL_X9_many_4 Q fu x z (nI j)) (J := fun j z => z = nI (cn (bt x) j)) ?_ ?_ 12 0 0 (Nat.zero_add _) rfl
  · exact ⟨_, l⟩
  · intro fu z hz
    unfold wL_X9_many_4
    exact ⟨fun _ => by rw [hz]; exact hQ, fun q => absurd (by decide) q⟩
  · intro fu j z hj hz next
    unfold wL_X9_many_4
    rw [b_get _ (show j < 32 by omega), nI_1 j]
    refine ⟨fun q => absurd q (nI_ge (b := 12) hj (by decide)), fun _ => ?_⟩
    refine next _ ?_
    cases c : bt x j
    · rw [cn_f c, hz]
      exact Int32.add_zero _
    · rw [cn_t c, hz]
      exact nI_1 _
theorem bt_step {Z R : Nat → Bool} {g j : Nat} (z : Int32) (hg : g < 32) (hj : j < 32) (h : bt z j = (Z j || (decide (j < g) && R j))) : (R g = false → bt z j = (Z j || (decide (j < g + 1) && R j))) ∧ (R g = true → bt (z ||| (1 <<< (nI g &&& 31))) j = (Z j || (decide (j < g + 1) && R j))) := by
  by_cases e : j = g
  · subst e
    rw [decide_eq_false (Nat.lt_irrefl j), Bool.false_and, Bool.or_false] at h
    refine ⟨fun q => by rw [h, q, Bool.and_false, Bool.or_false], fun q => ?_⟩
    rw [b_or, b_bit hj hj, q, decide_eq_true rfl, decide_eq_true (Nat.lt_succ_self j)]
    simp
  · have e2 : decide (j < g + 1) = decide (j < g) := decide_eq_decide.mpr ⟨fun q => by omega, fun q => by omega⟩
    rw [e2]
    refine ⟨fun _ => h, fun _ => ?_⟩
    rw [b_or, b_bit hg hj, decide_eq_false e, Bool.or_false]
    exact h
theorem lm_isGranted (hM : jM T μ) (hw : wf T) {s : Int32} {f : Nat → Int32} (hN : isN T s f) {u a r : Nat} (hu : u < tU T) (hr : r < tT T) {x : Int32} {fA fB : Nat → Int32} (hx : ∀ g, g < tG T → bt x g = othG T (μ.2 2) u g) (hA : ∀ g, g < tG T → fA g = rowG T u (ga T) (tG T) g) (hB : ∀ g, g < tG T → fB g = rowG T u (fun _ => 4) (tG T) g) {Q : Int32 → Prop} (hQ : Q (b2i (gfr T (gd no0 T (μ.2 2) (va_up (T.1 2) u s)) u a r).isSome)) : w_X9_isGranted μ (nI u) (nI a) (nI r) x fA fB f Q := by
  have hG := wf_G hw
  have hU := wf_U hw
  have hL := wf_L hw
  have hn : μ.2 26 = nI (tG T) := hM.1.2.2.2.2.2.1.trans hG.1
  obtain ⟨R, hR⟩ : ∃ R : Nat → Bool, R = fun g => ownG T u g && (awN T (μ.2 2) u s (ga T g) (go T g) && awN T (μ.2 2) u s 4 (go T g)) := ⟨_, rfl⟩
  unfold w_X9_isGranted
  have l := lpUp (A := Int32) (n := tG T) (W := fun fu g z => wL_X9_isGranted_7 μ fA fB f (fun x1 x2 x3 x8 => (w_X9_leaning μ x8 (fun r95 => w_X9_granting μ r95 x1 x2 x3 (fun r101 => ((r101 = (-1)) → (Q 0)) ∧ ((¬ r101 = (-1)) → (Q 1)))))) fu (nI u) (nI a) (nI r) z (nI g)) (J := fun g z => ∀ j, j < tG T → bt z j = (othG T (μ.2 2) u j || (decide (j < g) && R j))) ?_ ?_ (tG T) 0 x (Nat.zero_add _) (fun j hj => by rw [hx j hj]; simp)
  · exact ⟨_, l⟩
  · intro fu z hz
    unfold wL_X9_isGranted_7
    rw [hn]
    refine ⟨fun _ => ?_, fun q => absurd (nI_le (Nat.le_refl _) (by omega)) q⟩
    refine lm_leaning hM hw (B := fun g => othG T (μ.2 2) u g || R g) (fun g hg => by rw [hz g hg, decide_eq_true hg, Bool.true_and]) ?_
    rw [gdB_congr (R := byR no0 T (μ.2 2) (va_up (T.1 2) u s)) (fun g hg hi => ?_)]
    · refine lm_granting hM hw hr ?_
      have e : gdB T (byR no0 T (μ.2 2) (va_up (T.1 2) u s)) (tG T) = gd no0 T (μ.2 2) (va_up (T.1 2) u s) := rfl
      rw [e]
      cases hf : gfr T (gd no0 T (μ.2 2) (va_up (T.1 2) u s)) u a r with
      | none =>
        rw [hf] at hQ
        exact ⟨fun _ => hQ, fun q => absurd rfl q⟩
      | some k =>
        have := gfr_lt hf
        rw [hf] at hQ
        exact ⟨fun q => absurd (by rw [show nI k = -1 from q]; decide) (nI_pos (show k < 2 ^ 31 by omega)), fun _ => hQ⟩
    · show (othG T (μ.2 2) u g || R g) = byR no0 T (μ.2 2) (va_up (T.1 2) u s) g
      rw [hR]
      unfold othG ownG byR
      by_cases e : gf T g = u
      · simp only [e, va_up_self, hi, rul_awN, decide_true, Bool.not_true, Bool.false_and, Bool.and_false, Bool.false_or, Bool.true_and]
        cases decide (barI T u (ga T g) (go T g) = 0) <;> cases decide (barI T u 4 (go T g) = 0) <;> simp
      · simp only [e, va_up_ne _ _ e, hi, decide_false, Bool.not_false, Bool.false_and, Bool.and_false, Bool.or_false, Bool.true_and]
  · intro fu g z hg hz next
    have hv := vp_in' (show g < 30 by omega) (by decide)
    obtain ⟨-, -, -, ⟨o1, o2⟩⟩ := wf_gr hw hg
    obtain ⟨-, -, -, m4, -, -⟩ := hM.2.2.2.2.2.2.2.1 g hg
    have no : R g = false → wL_X9_isGranted_7 μ fA fB f (fun x1 x2 x3 x8 => (w_X9_leaning μ x8 (fun r95 => w_X9_granting μ r95 x1 x2 x3 (fun r101 => ((r101 = (-1)) → (Q 0)) ∧ ((¬ r101 = (-1)) → (Q 1)))))) fu (nI u) (nI a) (nI r) z (nI g + 1) := fun q => by
      rw [nI_1]
      exact next z (fun j hj => (bt_step z (by omega) (by omega) (hz j hj)).1 q)
    have aw0 : ∀ A : Nat → Nat, rowG T u A (tG T) g = 0 → ownG T u g = true → awN T (μ.2 2) u s (A g) (go T g) = false := fun A q1 q2 => by
      unfold rowG at q1
      rw [decide_eq_true hg, Bool.true_and, if_pos q2, mb_0 (by omega)] at q1
      unfold awN
      rw [bs_none.mpr (fun k hk => by rw [mat_fit, q1 k hk]; rfl)]
      rfl
    have row1 : ∀ A : Nat → Nat, ¬ rowG T u A (tG T) g = 0 → ownG T u g = true ∧ ∀ k, k < tL T → bt (rowG T u A (tG T) g) k = fit no0 T u (A g) (go T g) k := fun A q1 => by
      unfold rowG at q1 ⊢
      by_cases c : (decide (g < tG T) && ownG T u g) = true
      · rw [if_pos c]
        rw [Bool.and_eq_true] at c
        exact ⟨c.2, fun k hk => by rw [mb_b _ (by omega) (by omega), decide_eq_true hk, Bool.true_and]⟩
      · rw [if_neg c] at q1
        exact absurd rfl q1
    unfold wL_X9_isGranted_7
    rw [hn, nI_clamp (show g < 2 ^ 31 by omega), hA g hg, hB g hg, m4, o1]
    refine ⟨fun q => absurd q (nI_ge hg (by omega)), fun _ => ⟨hv, fun q1 => no ?_, fun q1 => ⟨hv, fun q2 => no ?_, fun q2 => ⟨hv, hv, ?_⟩⟩⟩⟩
    · rw [hR]
      show (ownG T u g && _) = false
      cases c : ownG T u g
      · rfl
      · rw [aw0 (ga T) q1 c]; rfl
    · rw [hR]
      show (ownG T u g && _) = false
      cases c : ownG T u g
      · rfl
      · rw [aw0 (fun _ => 4) q2 c, Bool.and_false]; rfl
    · obtain ⟨w1, w2⟩ := row1 (ga T) q1
      obtain ⟨-, w3⟩ := row1 (fun _ => 4) q2
      refine lm_allowing hM hw hN hu o2 w2 ?_
      refine b2i_go _ (fun q3 => no (by rw [hR]; show (ownG T u g && _) = false; rw [q3, Bool.false_and, Bool.and_false])) (fun q3 => ⟨hv, hv, ?_⟩)
      refine lm_allowing hM hw hN hu o2 w3 ?_
      refine b2i_go _ (fun q4 => no (by rw [hR]; show (ownG T u g && _) = false; rw [q4, Bool.and_false, Bool.and_false])) (fun q4 => ?_)
      rw [nI_1]
      exact next _ (fun j hj => (bt_step z (by omega) (by omega) (hz j hj)).2 (by rw [hR]; show (ownG T u g && _) = true; rw [q3, q4, w1]; rfl))
end MN
