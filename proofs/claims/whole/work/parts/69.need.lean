/-! ===== layer B: the roles that would be needed, the gate's side ===== -/
section NG
variable {σ T : gk_C}
/-- with a set of roles a user may, and could have it -/
def okM (T : gk_C) (wgh : Int32) (u a r : Nat) (s : Int32) : Bool := !rSplit (T.1 5) (tR T) (hd T s) && alw (dec no0 T wgh (va_up (T.1 2) u s) u a r)
theorem va_up2 (f : Nat → Int32) (k : Nat) (x y : Int32) : va_up (va_up f k x) k y = va_up f k y := by
  funext j
  by_cases e : j = k
  · rw [e, va_up_self, va_up_self]
  · rw [va_up_ne _ _ e, va_up_ne _ _ e, va_up_ne _ _ e]
theorem lb_wouldBe {S : Nat → Int32} {wgh : Int32} {u a r : Nat} (H : vw 1 no0 T wgh S (tU T) σ) (hS : ∀ s, va_up S u s = va_up (T.1 2) u s) (hw : wf T) (hu : u < tU T) (ha : a < 5) (hr : r < tT T) {s : Int32} {Q : Int32 → gk_C → Prop} (hQ : ∀ σ1 S1, vw 1 no0 T wgh S1 (tU T) σ1 → (∀ s, va_up S1 u s = va_up (T.1 2) u s) → sV 1 σ σ1 → Q (b2i (okM T wgh u a r s)) σ1) : w_X8_wouldBeAllowed σ (nI u) s (nI a) (nI r) Q := by
  have hU := wf_U hw
  have hG := wf_G hw
  have hT := wf_T hw
  unfold w_X8_wouldBeAllowed
  refine lb_had H.1 hw ?_
  refine lb_split H.1 hw ?_
  refine b2i_go _ (fun q1 => ?_) (fun q1 => ?_)
  · refine vw_give H (by decide) hw hu (by omega) (fun σ1 H1 HS E => ?_)
    rw [if_neg (by omega), hS] at H1
    refine lb_ruled H1 (by decide) hw (Nat.le_refl _) hu ha hr ?_
    have ok : okM T wgh u a r s = alw (dcd T (gd no0 T wgh (va_up (T.1 2) u s)) (rul no0 T wgh u (va_up (T.1 2) u s u) a r) u a r) := by
      unfold okM dec
      rw [q1]; rfl
    have h2 : ∀ s2, va_up (va_up (T.1 2) u s) u s2 = va_up (T.1 2) u s2 := fun s2 => va_up2 _ _ _ _
    have hn3 := rul_n3 T wgh u (va_up (T.1 2) u s u) a r
    generalize rul no0 T wgh u (va_up (T.1 2) u s u) a r = x at ok hn3 ⊢
    by_cases hx0 : x = 0
    · refine ⟨fun _ => ?_, fun q => absurd hx0 q⟩
      refine lb_weighGrants H1 (by decide) hw ?_
      have HS2 : sV 1 σ1 (gk_s σ1 (11 + 4 * 1) (gd no0 T wgh (va_up (T.1 2) u s))) := sV_s σ1 _ (by omega) (by omega)
      have H2 : vw 1 no0 T wgh (va_up (T.1 2) u s) (tU T) (gk_s σ1 (11 + 4 * 1) (gd no0 T wgh (va_up (T.1 2) u s))) := vw_good H1 _
      refine lb_grantFor H2.1 hw (by omega) ?_
      rw [gs_at]
      have h3 := hQ _ _ H2 h2 (sV_tr HS HS2)
      rw [ok, hx0] at h3
      unfold dcd at h3
      cases hg : gfr T (gd no0 T wgh (va_up (T.1 2) u s)) u a r with
      | none =>
        rw [hg, if_neg (fun q => absurd q.2 (by decide))] at h3
        exact ⟨fun _ => h3, fun q => absurd (by decide) q⟩
      | some k =>
        have := gfr_lt hg
        rw [hg, if_pos ⟨rfl, rfl⟩] at h3
        exact ⟨fun q => absurd q (nI_pos (show k < 2 ^ 31 by omega)), fun _ => h3⟩
    · have h3 := hQ _ _ H1 h2 HS
      rw [ok] at h3
      unfold dcd at h3
      rw [if_neg (fun q => hx0 q.1)] at h3
      refine ⟨fun q => absurd q hx0, fun _ => ⟨fun q => ?_, fun q => ?_⟩⟩
      · rw [show alw x = false by unfold alw; rw [decide_eq_false q, decide_eq_false hn3]; rfl] at h3
        exact h3
      · rw [q] at h3; exact h3
  · have h3 := hQ _ _ H hS (sV_rf 1 σ)
    rw [show okM T wgh u a r s = false by unfold okM; rw [q1]; rfl] at h3
    exact h3
end NG
