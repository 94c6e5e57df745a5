/-! ===== layer B: the roles that would be needed, the gate's side ===== -/
section NG
variable {σ T : gk_C}
theorem lb_leadingTo {v : Nat} (h : told σ = T) (hw : wf T) {P : Nat → Bool} {x : Int32} (hx : ∀ k, k < tL T → bt x k = P k) {Q : Int32 → Prop} (hQ : Q (mb (fun p => rAny (fun k => P k && ldR T p k) (tL T)) (tR T))) : w_X7_leadingTo v σ x Q := by
  have hR := wf_R hw
  have hL := wf_L hw
  have hU := wf_U hw
  have nR : σ.2 1 = nI (tR T) := (ts h (by decide)).trans hR.1
  have nL : σ.2 4 = nI (tL T) := (ts h (by decide)).trans hL.1
  unfold w_X7_leadingTo
  have l := lpUp (A := Int32) (n := tR T) (W := fun fu p z => wL_X7_leadingTo_4 v σ Q fu x z (nI p)) (J := fun p z => z = mb (fun p => rAny (fun k => P k && ldR T p k) (tL T)) p) ?_ ?_ (tR T) 0 0 (Nat.zero_add _) rfl
  · exact ⟨_, l⟩
  · intro fu z hz
    unfold wL_X7_leadingTo_4
    rw [nR]
    exact ⟨fun _ => by rw [hz]; exact hQ, fun q => absurd (nI_le (Nat.le_refl _) (by omega)) q⟩
  · intro fu p z hp hz next
    unfold wL_X7_leadingTo_4
    rw [nR]
    refine ⟨fun q => absurd q (nI_ge hp (by omega)), fun _ => ?_⟩
    refine lb_had h hw ?_
    have l2 := lpUp (A := Int32) (n := tL T) (W := fun f2 k y => wL_X7_leadingTo_36 v σ (fun x1 x2 x3 => (wL_X7_leadingTo_4 v σ Q fu x1 x2 (x3 + 1))) f2 x y (nI p) (hd T (1 <<< (nI p &&& 31))) (nI k)) (J := fun k y => (rAny (fun k => P k && ldR T p k) k = true → y = z ||| (1 <<< (nI p &&& 31))) ∧ (rAny (fun k => P k && ldR T p k) k = false → y = z)) ?_ ?_ (tL T) 0 z (Nat.zero_add _) ⟨fun q => absurd q (by rw [rAny]; decide), fun _ => rfl⟩
    · exact ⟨_, l2⟩
    · intro f2 y hy
      unfold wL_X7_leadingTo_36
      rw [nL]
      refine ⟨fun _ => ?_, fun q => absurd (nI_le (Nat.le_refl _) (by omega)) q⟩
      show wL_X7_leadingTo_4 v σ Q fu x y (nI p + 1)
      rw [nI_1 p]
      refine next y ?_
      cases c : rAny (fun k => P k && ldR T p k) (tL T)
      · rw [hy.2 c, hz, mb_f (P := fun p => rAny (fun k => P k && ldR T p k) (tL T)) c]
      · rw [hy.1 c, hz, mb_t (P := fun p => rAny (fun k => P k && ldR T p k) (tL T)) c]
    · intro f2 k y hk hy next2
      obtain ⟨j, hj, e12⟩ : ∃ j, j < 32 ∧ T.1 12 k = nI j := by
        rcases (hw.2.2.2.2.1 k hk).2.2.1 with ⟨w, w1, w2⟩ | ⟨q, q1, q2⟩
        · exact ⟨w, by omega, w2⟩
        · exact ⟨12 + q, by omega, q2⟩
      have eld : ldR T p k = bt (hd T (1 <<< (nI p &&& 31)) <<< (12 &&& 31)) j := by
        unfold ldR
        rw [e12, show nt (nI j) = j from nI_clamp (by omega)]
        rfl
      unfold wL_X7_leadingTo_36
      rw [nL, nI_1 k, gk_at_in (show k < gk_rl 12 by show k < 30; omega), tr h (show 12 < 26 by decide), e12, lb_isIn _ (show k < 32 by omega), lb_isIn _ hj, hx k hk, ← eld]
      refine ⟨fun q => absurd q (nI_ge hk (by omega)), fun _ => ?_⟩
      have no : (P k && ldR T p k) = false → wL_X7_leadingTo_36 v σ (fun x1 x2 x3 => (wL_X7_leadingTo_4 v σ Q fu x1 x2 (x3 + 1))) f2 x y (nI p) (hd T (1 <<< (nI p &&& 31))) (nI (k + 1)) := fun q => next2 y ⟨fun c => by rw [rAny, q, Bool.or_false] at c; exact hy.1 c, fun c => by rw [rAny, q, Bool.or_false] at c; exact hy.2 c⟩
      refine b2i_go _ (fun q1 => no (by rw [q1]; rfl)) (fun q1 => ?_)
      refine b2i_go _ (fun q2 => no (by rw [q2, Bool.and_false])) (fun q2 => ?_)
      refine next2 _ ⟨fun _ => ?_, fun c => by rw [rAny, q1, q2] at c; simp at c⟩
      cases c : rAny (fun k => P k && ldR T p k) k
      · rw [hy.2 c]
      · rw [hy.1 c]
        apply b_ext
        intro i _
        rw [b_or, b_or, Bool.or_assoc, Bool.or_self]
/-- the useful ones, as the gate finds them -/
theorem lb_useful {S : Nat → Int32} {m : Nat} {wgh : Int32} (H : vw 1 no0 T wgh S m σ) (hw : wf T) {u a r : Nat} (hu : u < tU T) (ha : a < 5) (hr : r < tT T) {Q : Int32 → Prop} (hQ : Q (if (lab T u a r || wal T u r) = true then 0 else usF T u a r)) : w_X7_usefulRoles 1 σ (nI u) (nI a) (nI r) Q := by
  have hL := wf_L hw
  have hG := wf_G hw
  have hU := wf_U hw
  have hT := wf_T hw
  have nG : σ.2 5 = nI (tG T) := (ts H.1 (by decide)).trans hG.1
  unfold w_X7_usefulRoles
  refine lb_label 1 H.1 (by omega) ha (by omega) ?_
  refine b2i_go' _ (fun q1 => ?_) (fun q1 => ?_)
  · refine lb_walled H (by decide) hw hu hr ?_
    refine b2i_go _ (fun q2 => ?_) (fun q2 => ?_)
    · rw [q1, q2, if_neg (by decide)] at hQ
      rw [gk_at_in (show a < gk_rl (26 + 6 * 1) from ha), gk_at_in (show r < gk_rl (27 + 6 * 1) by show r < 24; omega), H.2.2.2.2.1 a ha, H.2.2.2.2.2.1 r hr]
      have l := lpUp (A := Int32) (n := tG T) (W := fun fu g z => wL_X7_usefulRoles_43 1 σ (fun x4 => (w_X7_leadingTo 1 σ (x4 &&& (σ.2 (9 + 4 * 1))) (fun r179 => Q r179))) fu (nI u) (nI a) z (nI g)) (J := fun g z => ∀ k, k < tL T → bt z k = rlv T u a r g k) ?_ ?_ (tG T) 0 (mb (fun k => act T k a) (tL T) &&& mb (fun k => whr T k r) (tL T)) (Nat.zero_add _) (fun k hk => by
        rw [b_and, mb_b _ (by omega) (by omega), mb_b _ (by omega) (by omega), decide_eq_true hk, Bool.true_and, Bool.true_and]
        unfold rlv
        rw [rAny, Bool.or_false])
      · exact ⟨_, l⟩
      · intro fu z hz
        unfold wL_X7_usefulRoles_43
        rw [nG]
        refine ⟨fun _ => ?_, fun q => absurd (nI_le (Nat.le_refl _) (by omega)) q⟩
        refine lb_leadingTo H.1 hw (P := rlU T u a r) (fun k hk => ?_) hQ
        rw [b_and, hz k hk, H.2.2.1, mb_b _ (by omega) (by omega), decide_eq_true hk]
        rfl
      · intro fu g z hg hz next
        have j0 : (decide (T.1 20 g = nI u) && decide (T.1 22 g = nI a) && isT T g) = false → wL_X7_usefulRoles_43 1 σ (fun x4 => (w_X7_leadingTo 1 σ (x4 &&& (σ.2 (9 + 4 * 1))) (fun r179 => Q r179))) fu (nI u) (nI a) z (nI g + 1) := fun q => by
          rw [nI_1]
          refine next z (fun k hk => ?_)
          rw [hz k hk]
          unfold rlv
          rw [rAny, q, Bool.false_and, Bool.or_false]
        have o1 := (wf_gr hw hg).2.2.2
        unfold wL_X7_usefulRoles_43 wJ_X7_usefulRoles_100 wJ_X7_usefulRoles_101
        rw [nG, gk_at_in (show g < gk_rl 20 by show g < 30; omega), gk_at_in (show g < gk_rl 22 by show g < 30; omega), tr H.1 (show 20 < 26 by decide), tr H.1 (show 22 < 26 by decide)]
        refine ⟨fun q => absurd q (nI_ge hg (by omega)), fun _ => ?_⟩
        refine dec_go' (fun c1 => ?_) (fun c1 => ⟨fun _ => j0 (by rw [c1]; rfl), fun q => absurd rfl q⟩)
        refine dec_go' (fun c2 => ⟨fun q => absurd q (by decide), fun _ => ?_⟩) (fun c2 => ⟨fun _ => j0 (by rw [c2, Bool.and_false]; rfl), fun q => absurd rfl q⟩)
        refine lb_isThere H.1 (by omega) ?_
        refine b2i_go _ (fun c3 => j0 (by rw [c3, Bool.and_false])) (fun c3 => ?_)
        rintro y rfl
        rw [nI_1]
        refine next _ (fun k hk => ?_)
        rw [gk_at_in (show a < gk_rl (26 + 6 * 1) from ha), show gk_at σ (26 + 6 * 1) 4 = σ.1 (26 + 6 * 1) 4 from gk_at_in (j := 4) (by decide), gk_at_in (show g < gk_rl 23 by show g < 30; omega), tr H.1 (show 23 < 26 by decide), o1.1, gk_at_in (show go T g < gk_rl (27 + 6 * 1) by show go T g < 24; omega), H.2.2.2.2.1 a ha, H.2.2.2.2.1 4 (by decide), H.2.2.2.2.2.1 _ o1.2]
        rw [b_or, b_and, b_or, mb_b _ (by omega) (by omega), mb_b _ (by omega) (by omega), mb_b _ (by omega) (by omega), decide_eq_true hk, Bool.true_and, Bool.true_and, Bool.true_and, hz k hk]
        unfold rlv
        rw [rAny, c1, c2, c3, Bool.or_assoc]
        rfl
    · rw [q2, Bool.or_true, if_pos rfl] at hQ; exact hQ
  · rw [q1, Bool.true_or, if_pos rfl] at hQ; exact hQ
theorem rul_n3 (T : gk_C) (wgh : Int32) (u : Nat) (s : Int32) (a r : Nat) : ¬ rul no0 T wgh u s a r = 3 := by
  unfold rul
  by_cases c1 : lab T u a r = true
  · rw [if_pos c1]; decide
  · rw [if_neg c1]
    by_cases c2 : wal T u r = true
    · rw [if_pos c2]; decide
    · rw [if_neg c2]
      cases bs (mat no0 T u s a r) (wt T wgh u s) (tL T) with
      | none => show ¬ (0 : Int32) = 3; decide
      | some k =>
        show ¬ (if T.1 11 k = 1 then (1 : Int32) else 2) = 3
        by_cases c3 : T.1 11 k = 1
        · rw [if_pos c3]; decide
        · rw [if_neg c3]; decide
/-- with a set of roles a user may, and could have it -/
def okM (T : gk_C) (wgh : Int32) (u a r : Nat) (s : Int32) : Bool := !rSplit (T.1 5) (tR T) (hd T s) && alw (dec no0 T wgh (va_up (T.1 2) u s) u a r)
theorem va_up2 (f : Nat → Int32) (k : Nat) (x y : Int32) : va_up (va_up f k x) k y = va_up f k y := by
  funext j
  by_cases e : j = k
  · rw [e, va_up_self, va_up_self]
  · rw [va_up_ne _ _ e, va_up_ne _ _ e, va_up_ne _ _ e]
theorem lb_wouldBe {S : Nat → Int32} {wgh : Int32} {u a r : Nat} (H : vw 1 no0 T wgh S (tU T) σ) (hS : ∀ s, va_up S u s = va_up (T.1 2) u s) (hw : wf T) (hu : u < tU T) (ha : a < 5) (hr : r < tT T) {s : Int32} {Q : Int32 → gk_C → Prop} (hQ : ∀ σ1 S1, vw 1 no0 T wgh S1 (tU T) σ1 → (∀ s, va_up S1 u s = va_up (T.1 2) u s) → sV 1 σ σ1 → Q (b2i (okM T wgh u a r s)) σ1) : w_X8_wouldBeAllowed σ (nI u) s (nI a) (nI r) Q := by
  have hU := wf_U hw
  have hG := wf_G hw
  have hT := wf_T hw
  unfold w_X8_wouldBeAllowed
  refine lb_had H.1 hw ?_
  refine lb_split H.1 hw ?_
  refine b2i_go _ (fun q1 => ?_) (fun q1 => ?_)
  · refine vw_give H (by decide) hw hu (by omega) (fun σ1 H1 HS E => ?_)
    rw [if_neg (by omega), hS] at H1
    refine lb_ruled H1 (by decide) hw (Nat.le_refl _) hu ha hr ?_
    have ok : okM T wgh u a r s = alw (dcd T (gd no0 T wgh (va_up (T.1 2) u s)) (rul no0 T wgh u (va_up (T.1 2) u s u) a r) u a r) := by
      unfold okM dec
      rw [q1]; rfl
    have h2 : ∀ s2, va_up (va_up (T.1 2) u s) u s2 = va_up (T.1 2) u s2 := fun s2 => va_up2 _ _ _ _
    have hn3 := rul_n3 T wgh u (va_up (T.1 2) u s u) a r
    generalize rul no0 T wgh u (va_up (T.1 2) u s u) a r = x at ok hn3 ⊢
    by_cases hx0 : x = 0
    · refine ⟨fun _ => ?_, fun q => absurd hx0 q⟩
      refine lb_weighGrants H1 (by decide) hw ?_
      have HS2 : sV 1 σ1 (gk_s σ1 (11 + 4 * 1) (gd no0 T wgh (va_up (T.1 2) u s))) := sV_s σ1 _ (by omega) (by omega)
      have H2 : vw 1 no0 T wgh (va_up (T.1 2) u s) (tU T) (gk_s σ1 (11 + 4 * 1) (gd no0 T wgh (va_up (T.1 2) u s))) := vw_good H1 _
      refine lb_grantFor H2.1 hw (by omega) ?_
      rw [gs_at]
      have h3 := hQ _ _ H2 h2 (sV_tr HS HS2)
      rw [ok, hx0] at h3
      unfold dcd at h3
      cases hg : gfr T (gd no0 T wgh (va_up (T.1 2) u s)) u a r with
      | none =>
        rw [hg, if_neg (fun q => absurd q.2 (by decide))] at h3
        exact ⟨fun _ => h3, fun q => absurd (by decide) q⟩
      | some k =>
        have := gfr_lt hg
        rw [hg, if_pos ⟨rfl, rfl⟩] at h3
        exact ⟨fun q => absurd q (nI_pos (show k < 2 ^ 31 by omega)), fun _ => h3⟩
    · have h3 := hQ _ _ H1 h2 HS
      rw [ok] at h3
      unfold dcd at h3
      rw [if_neg (fun q => hx0 q.1)] at h3
      refine ⟨fun q => absurd q hx0, fun _ => ⟨fun q => ?_, fun q => ?_⟩⟩
      · rw [show alw x = false by unfold alw; rw [decide_eq_false q, decide_eq_false hn3]; rfl] at h3
        exact h3
      · rw [q] at h3; exact h3
  · have h3 := hQ _ _ H hS (sV_rf 1 σ)
    rw [show okM T wgh u a r s = false by unfold okM; rw [q1]; rfl] at h3
    exact h3
end NG
