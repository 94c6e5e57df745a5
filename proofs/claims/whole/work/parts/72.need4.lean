/-! ===== layer B: the roles that would be needed, the reference's loops ===== -/
theorem row_no {T : gk_C} {u g : Nat} (A : Nat → Nat) (h : ownG T u g = false) (j : Nat) : rowG T u A (g + 1) j = rowG T u A g j := by
  unfold rowG
  by_cases e : j = g
  · rw [e, h, Bool.and_false, Bool.and_false]
  · rw [show decide (j < g + 1) = decide (j < g) from decide_eq_decide.mpr ⟨fun q => by omega, fun q => by omega⟩]
theorem row_yes {T : gk_C} {u g : Nat} (A : Nat → Nat) (h : ownG T u g = true) {f : Nat → Int32} (hf : ∀ j, f j = rowG T u A g j) (j : Nat) : upd f g (mb (fit no0 T u (A g) (go T g)) (tL T)) j = rowG T u A (g + 1) j := by
  unfold rowG
  by_cases e : j = g
  · rw [e, up_at, h, decide_eq_true (Nat.lt_succ_self g), Bool.and_self, if_pos rfl]
  · rw [up_ne _ _ e, hf j, show decide (j < g + 1) = decide (j < g) from decide_eq_decide.mpr ⟨fun q => by omega, fun q => by omega⟩]
    rfl
section MN2
variable {T μ : gk_C}
theorem lm_needRows (hM : jM T μ) (hw : wf T) (h35 : μ.2 35 = -1) {N : Nat → Option (Nat → Int32)} (hN : isNN T (T.1 2) N) {u : Nat} (hu : u < tU T) {x2 x3 : Int32} {K : gk_C → Int32 → Int32 → Int32 → Int32 → (Nat → Int32) → (Nat → Int32) → Prop} (hK : ∀ x fA fB, (∀ g, g < tG T → bt x g = othG T (μ.2 2) u g) → (∀ g, g < tG T → fA g = rowG T u (ga T) (tG T) g) → (∀ g, g < tG T → fB g = rowG T u (fun _ => 4) (tG T) g) → K μ (nI u) x2 x3 x fA fB) : ∃ n57, wL_X9_rolesNeeded_57 K n57 μ (nI u) x2 x3 0 0 N (fun _ => 0) (fun _ => 0) := by
  have hG := wf_G hw
  have hU := wf_U hw
  have hT := wf_T hw
  have hn : μ.2 26 = nI (tG T) := hM.1.2.2.2.2.2.1.trans hG.1
  have hcl : μ.2 1 = T.2 7 := hM.1.2.2.2.2.2.2.2
  have hlo := lo_m1 hw h35
  have l := lpUp (A := Int32 × (Nat → Int32) × (Nat → Int32)) (n := tG T) (W := fun fu g y => wL_X9_rolesNeeded_57 K fu μ (nI u) x2 x3 y.1 (nI g) N y.2.1 y.2.2) (J := fun g y => (∀ j, j < tG T → bt y.1 j = (false || (decide (j < g) && othG T (μ.2 2) u j))) ∧ (∀ j, y.2.1 j = rowG T u (ga T) g j) ∧ ∀ j, y.2.2 j = rowG T u (fun _ => 4) g j) ?_ ?_ (tG T) 0 (0, fun _ => 0, fun _ => 0) (Nat.zero_add _) ⟨fun j _ => by rw [b_0]; simp, fun j => by unfold rowG; simp, fun j => by unfold rowG; simp⟩
  · exact ⟨_, l⟩
  · rintro fu ⟨z, fA, fB⟩ ⟨hz, hA, hB⟩
    show wL_X9_rolesNeeded_57 K (fu + 1) μ (nI u) x2 x3 z (nI (tG T)) N fA fB
    unfold wL_X9_rolesNeeded_57
    rw [hn]
    exact ⟨fun _ => hK z fA fB (fun g hg => by rw [show bt z g = _ from hz g hg, decide_eq_true hg, Bool.true_and, Bool.false_or]) (fun g _ => hA g) (fun g _ => hB g), fun q => absurd (nI_le (Nat.le_refl _) (by omega)) q⟩
  · rintro fu g ⟨z, fA, fB⟩ hg ⟨hz, hA, hB⟩ next
    have hz : ∀ j, j < tG T → bt z j = (false || (decide (j < g) && othG T (μ.2 2) u j)) := hz
    have hA : ∀ j, fA j = rowG T u (ga T) g j := hA
    have hB : ∀ j, fB j = rowG T u (fun _ => 4) g j := hB
    show wL_X9_rolesNeeded_57 K (fu + 1) μ (nI u) x2 x3 z (nI g) N fA fB
    have hv := vp_in' (show g < 30 by omega) (by decide)
    obtain ⟨⟨f1, f2⟩, -, ⟨a1, a2⟩, ⟨o1, o2⟩⟩ := wf_gr hw hg
    obtain ⟨m1, m2, m3, m4, m5, m6⟩ := hM.2.2.2.2.2.2.2.1 g hg
    obtain ⟨fe, hfe, hisN⟩ := hN (gf T g) f2
    have eIs : isT T g = decide (T.2 7 < T.1 25 g) := by
      unfold isT
      rw [← decide_not]
      exact decide_eq_decide.mpr Int32.not_le
    have same : othG T (μ.2 2) u g = false → ownG T u g = false → wL_X9_rolesNeeded_57 K fu μ (nI u) x2 x3 z (nI g + 1) N fA fB := fun q1 q2 => by
      rw [nI_1]
      exact next (z, fA, fB) ⟨fun j hj => (bt_step (Z := fun _ => false) (R := othG T (μ.2 2) u) z (by omega) (by omega) (hz j hj)).1 q1, fun j => by rw [row_no _ q2]; exact hA j, fun j => by rw [row_no _ q2]; exact hB j⟩
    unfold wL_X9_rolesNeeded_57 wJ_X9_rolesNeeded_127
    rw [hn, nI_clamp (show g < 2 ^ 31 by omega), m6, m1, hcl, m3, m4, f1, a1, o1, nI_clamp (show gf T g < 2 ^ 31 by omega)]
    refine ⟨fun q => absurd q (nI_ge hg (by omega)), fun _ => ⟨hv, ?_⟩⟩
    refine dec_go (fun c1 => ⟨hv, ?_⟩) (fun c1 => same (by unfold othG; rw [eIs, c1]; rfl) (by unfold ownG; rw [eIs, c1]; rfl))
    refine ⟨fun q => ?_, fun q => ?_⟩
    · have e : gf T g = u := (nI_eq (by omega) (by omega)).mp q
      have oth0 : othG T (μ.2 2) u g = false := by unfold othG; rw [decide_eq_true e]; simp
      refine ⟨hv, hv, lm_barred hM hw hu a2 o2 ?_⟩
      refine dec_go' (fun c2 => ⟨hv, ?_⟩) (fun c2 => same oth0 (by unfold ownG; rw [c2]; simp))
      refine lm_barred (a := 4) hM hw hu (by decide) o2 ?_
      refine dec_go' (fun c3 => ⟨hv, hv, ?_⟩) (fun c3 => same oth0 (by unfold ownG; rw [c3]; simp))
      have own1 : ownG T u g = true := by unfold ownG; rw [eIs, c1, decide_eq_true e, c2, c3]; rfl
      refine lm_fitting hM hw hlo hu a2 o2 ⟨hv, hv, ?_⟩
      refine lm_fitting (a := 4) hM hw hlo hu (by decide) o2 ⟨hv, ?_⟩
      rw [nI_1]
      exact next (z, _, _) ⟨fun j hj => (bt_step (Z := fun _ => false) (R := othG T (μ.2 2) u) z (by omega) (by omega) (hz j hj)).1 oth0, row_yes (ga T) own1 hA, row_yes (fun _ => 4) own1 hB⟩
    · have e : ¬ gf T g = u := fun q2 => q (by rw [q2])
      have own0 : ownG T u g = false := by unfold ownG; rw [decide_eq_false e]; simp
      refine ⟨hv, vp_in' (by omega) (by decide), fe, hfe, ?_⟩
      refine lm_isByRules hM hw hlo hg hisN ?_
      have oth1 : othG T (μ.2 2) u g = byR no0 T (μ.2 2) (T.1 2) g := by unfold othG; rw [eIs, c1, decide_eq_false e]; rfl
      refine b2i_go _ (fun c2 => ?_) (fun c2 => ?_)
      · rw [show z ||| 0 = z from b_ext (fun i _ => by rw [b_or, b_0, Bool.or_false])]
        exact same (by rw [oth1, c2]) own0
      · rw [nI_1]
        exact next (_, fA, fB) ⟨fun j hj => (bt_step (Z := fun _ => false) (R := othG T (μ.2 2) u) z (by omega) (by omega) (hz j hj)).2 (by rw [oth1, c2]), fun j => by rw [row_no _ own0]; exact hA j, fun j => by rw [row_no _ own0]; exact hB j⟩
theorem bar_0 {u a r : Nat} (h : barI T u a r = 0) : lab T u a r = false ∧ wal T u r = false := by
  unfold barI at h
  by_cases c1 : lab T u a r = true
  · rw [if_pos c1] at h; exact absurd h (by decide)
  · rw [if_neg c1] at h
    by_cases c2 : wal T u r = true
    · rw [if_pos c2] at h; exact absurd h (by decide)
    · exact ⟨by simpa using c1, by simpa using c2⟩
theorem bar_rul {wgh : Int32} {u a r : Nat} {s : Int32} (h : barI T u a r = 0) : rul no0 T wgh u s a r = rulO T (bs (mat no0 T u s a r) (wt T wgh u s) (tL T)) := by
  obtain ⟨h1, h2⟩ := bar_0 h
  unfold rul
  rw [h1, h2, if_neg (by decide), if_neg (by decide)]
theorem lm_needLoop (hM : jM T μ) (hw : wf T) {u a r : Nat} (hu : u < tU T) (hr : r < tT T) (hbar : barI T u a r = 0) {x x8 : Int32} {fA fB : Nat → Int32} (hx : ∀ g, g < tG T → bt x g = othG T (μ.2 2) u g) (hA : ∀ g, g < tG T → fA g = rowG T u (ga T) (tG T) g) (hB : ∀ g, g < tG T → fB g = rowG T u (fun _ => 4) (tG T) g) (hx8 : ∀ k, k < tL T → bt x8 k = fit no0 T u a r k) {Q : Int32 → gk_C → Prop} (hQ : Q (oI (mnO (Cm T (μ.2 2) u a r (T.1 2 u)) rSz (2 ^ tR T))) μ) : ∃ n240, wL_X9_rolesNeeded_240 Q n240 μ (nI u) (nI a) (nI r) x x8 (-1) 0 fA fB (fun _ => 0) := by
  have hR := wf_R hw
  have hU := wf_U hw
  have hL := wf_L hw
  obtain ⟨hp1, hp2⟩ := pw2_le hR.2
  have hn : μ.2 7 = nI (tR T) := hM.1.2.1.trans hR.1
  have eb : μ.1 4 u = T.1 2 u := (hM.2.1 u (by omega)).2.2
  have hvu := vp_in' (show u < 12 by omega) (by decide)
  have l := lpUp (A := Int32 × (Nat → Int32)) (n := 2 ^ tR T) (W := fun fu m y => wL_X9_rolesNeeded_240 Q fu μ (nI u) (nI a) (nI r) x x8 y.1 (nI m) fA fB y.2) (J := fun m y => y.1 = oI (mnO (Cm T (μ.2 2) u a r (T.1 2 u)) rSz m)) ?_ ?_ (2 ^ tR T) 0 (-1, fun _ => 0) (Nat.zero_add _) rfl
  · exact ⟨_, l⟩
  · rintro fu ⟨be, f0⟩ hbe
    have hbe : be = oI (mnO (Cm T (μ.2 2) u a r (T.1 2 u)) rSz (2 ^ tR T)) := hbe
    show wL_X9_rolesNeeded_240 Q (fu + 1) μ (nI u) (nI a) (nI r) x x8 be (nI (2 ^ tR T)) fA fB f0
    unfold wL_X9_rolesNeeded_240
    rw [hn, pw2 _ (by omega)]
    exact ⟨fun _ => by rw [hbe]; exact hQ, fun q => absurd (nI_le (Nat.le_refl _) (by omega)) q⟩
  · rintro fu m ⟨be, f0⟩ hm hbe next
    have hbe : be = oI (mnO (Cm T (μ.2 2) u a r (T.1 2 u)) rSz m) := hbe
    show wL_X9_rolesNeeded_240 Q (fu + 1) μ (nI u) (nI a) (nI r) x x8 be (nI m) fA fB f0
    have no : mnO (Cm T (μ.2 2) u a r (T.1 2 u)) rSz (m + 1) = mnO (Cm T (μ.2 2) u a r (T.1 2 u)) rSz m → ∀ f, wL_X9_rolesNeeded_240 Q fu μ (nI u) (nI a) (nI r) x x8 be (nI m + 1) fA fB f := fun q f => by
      rw [nI_1]
      refine next (be, f) ?_
      show be = oI (mnO (Cm T (μ.2 2) u a r (T.1 2 u)) rSz (m + 1))
      rw [q]; exact hbe
    have hbd : bd (tR T) (T.1 2 u ||| nI m) := bd_or (fun i hi q => hw.2.1.1 u hu i hi q) (bd_nI hm)
    have j279 : decide (nI m &&& T.1 2 u = 0) = true → (∀ c, mnO (Cm T (μ.2 2) u a r (T.1 2 u)) rSz m = some c → rSz m < c) → wJ_X9_rolesNeeded_279 (fun σ x1 x2 x3 x5 x8 x9 x11 fn44 fn50 fn233 => wL_X9_rolesNeeded_240 Q fu σ x1 x2 x3 x5 x8 x9 x11 fn44 fn50 fn233) μ (nI u) (nI a) (nI r) x x8 be (nI m) fA fB f0 := fun q0 hb => by
      have yes : okM T (μ.2 2) u a r (T.1 2 u ||| nI m) = true → ∀ f, w_X9_many (nI m) (fun r375 => wL_X9_rolesNeeded_240 Q fu μ (nI u) (nI a) (nI r) x x8 r375 (nI m + 1) fA fB f) := fun q f => by
        refine lm_many _ ?_
        rw [nI_1]
        refine next (nI (rSz m), f) ?_
        have hC : Cm T (μ.2 2) u a r (T.1 2 u) m = true := by unfold Cm; rw [q0, q]; rfl
        show nI (rSz m) = oI (mnO (Cm T (μ.2 2) u a r (T.1 2 u)) rSz (m + 1))
        rw [mnO_take hC hb]
        rfl
      have no2 : okM T (μ.2 2) u a r (T.1 2 u ||| nI m) = false → ∀ f, wL_X9_rolesNeeded_240 Q fu μ (nI u) (nI a) (nI r) x x8 be (nI m + 1) fA fB f := fun q => no (mnO_skip (by unfold Cm; rw [q, Bool.and_false]))
      unfold wJ_X9_rolesNeeded_279 wJ_X9_rolesNeeded_373
      rw [nI_clamp (show u < 2 ^ 31 by omega), eb]
      refine ⟨hvu, lm_hasApart (T := T) hM.1.2.1 hM.1.2.2.1 hM.2.2.2.1 hM.2.2.2.2.2.2.2.2 hw hbd ?_⟩
      refine b2i_go _ (fun q1 => ⟨hvu, ?_⟩) (fun q1 => no2 (by unfold okM; rw [q1]; rfl) _)
      refine lm_nears_ (T := T) hn hR.2 hM.2.2.2.1 (wf_bd hw) hbd (fun f hf => ?_)
      have ok : okM T (μ.2 2) u a r (T.1 2 u ||| nI m) = alw (dcd T (gd no0 T (μ.2 2) (va_up (T.1 2) u (T.1 2 u ||| nI m))) (rulO T (bs (mat no0 T u (T.1 2 u ||| nI m) a r) (wt T (μ.2 2) u (T.1 2 u ||| nI m)) (tL T))) u a r) := by
        unfold okM dec
        rw [q1, va_up_self, bar_rul hbar]; rfl
      refine lm_own hM hw hf hx8 ?_
      rw [show mb (fun k => fit no0 T u a r k && (stO T u (T.1 2 u ||| nI m) k).isSome) (tL T) = mb (mat no0 T u (T.1 2 u ||| nI m) a r) (tL T) from mb_congr (fun k _ => (mat_fit no0 T u (T.1 2 u ||| nI m) a r k).symm)]
      refine lm_weigh hM hw hf hu hr (P := mat no0 T u (T.1 2 u ||| nI m) a r) (fun k hk => by rw [mb_b _ (by omega) (by omega), decide_eq_true hk, Bool.true_and]) (mb_0 (by omega)) (fun k _ h => mat_ok h) ?_
      cases hbs : bs (mat no0 T u (T.1 2 u ||| nI m) a r) (wt T (μ.2 2) u (T.1 2 u ||| nI m)) (tL T) with
      | none =>
        rw [hbs] at ok
        refine ⟨fun _ => ?_, fun q => absurd rfl q⟩
        refine lm_isGranted hM hw hf hu hr hx hA hB ?_
        unfold dcd rulO at ok
        refine b2i_go _ (fun q2 => no2 ?_ _) (fun q2 => yes ?_ _)
        · rw [ok, q2, if_neg (fun q => absurd q.2 (by decide))]; rfl
        · rw [ok, q2, if_pos ⟨rfl, rfl⟩]; rfl
      | some k =>
        obtain ⟨b1, b2⟩ := bs_lt30 hw hbs
        rw [hbs] at ok
        refine ⟨fun q => absurd (by rw [show nI k = -1 from q]; decide) (nI_pos (show k < 2 ^ 31 by omega)), fun _ => ⟨vp_in' b1 (by decide), ?_⟩⟩
        show (μ.1 17 (nI k).toNatClampNeg = 0 → _) ∧ (¬ μ.1 17 (nI k).toNatClampNeg = 0 → _)
        rw [nI_clamp (by omega), (hM.2.2.2.2.2.2.1 k b2).1]
        unfold dcd rulO at ok
        refine ⟨fun q => no2 ?_ _, fun q => yes ?_ _⟩
        · rw [ok]
          simp only [q]
          rw [if_neg (fun q => absurd q.1 (by decide))]
          decide
        · rw [ok]
          simp only [((hw.2.2.2.2.1 k b2).1).resolve_left q]
          rw [if_neg (fun q => absurd q.1 (by decide))]
          decide
    unfold wL_X9_rolesNeeded_240
    rw [hn, pw2 _ (by omega), nI_clamp (show u < 2 ^ 31 by omega), eb]
    refine ⟨fun q => absurd q (nI_ge hm (by omega)), fun _ => ⟨hvu, ?_⟩⟩
    refine dec_go' (fun c1 => ?_) (fun c1 => no (mnO_skip (by unfold Cm; rw [c1]; rfl)) _)
    have h12 := rSz_le m
    cases hmn : mnO (Cm T (μ.2 2) u a r (T.1 2 u)) rSz m with
    | none =>
      rw [hmn] at hbe
      exact ⟨fun _ => j279 c1 (fun c q => by rw [hmn] at q; cases q), fun q => absurd hbe q⟩
    | some c =>
      have hc := mn_le hmn
      rw [hmn] at hbe
      have hbe : be = nI c := hbe
      refine ⟨fun q => absurd (by rw [← hbe, q]; decide) (nI_pos (show c < 2 ^ 31 by omega)), fun _ => ?_⟩
      refine lm_many _ ?_
      show (be ≤ nI (rSz m) → _) ∧ (¬ be ≤ nI (rSz m) → _)
      refine ⟨fun q => no ?_ _, fun q => j279 c1 (fun d hd => ?_)⟩
      · rcases Nat.lt_or_ge (rSz m) c with c2 | c2
        · rw [hbe] at q
          exact absurd q (nI_ge c2 (by omega))
        · rw [mnO_ge hmn c2, hmn]
      · rw [hmn] at hd
        have hd : c = d := by simpa using hd
        rcases Nat.lt_or_ge (rSz m) c with c2 | c2
        · omega
        · rw [hbe] at q
          exact absurd (nI_le c2 (by omega)) q
end MN2
