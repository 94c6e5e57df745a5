/-! ===== a rule without which all is alike can be dropped; roles that would do, do ===== -/
section SU
variable {nU nR nS jj : Nat} {ρ : lk_R} {σ : nk_C}
theorem ln_801 (hN : bN nU nR nS) (h : bK nU nR nS jj ρ σ) (hj : jj ≤ 20) {D : Nat} (hd' : lD D σ) (hD : D < 900000) {kont : nk_C → lk_R → Int32 → Int32 → Prop} {x1 x4 : Int32} (hk' : ∀ σ1 ρ1, bK nU nR nS jj ρ1 σ1 → lD (D + 1) σ1 → kont σ1 ρ1 x1 x4) : wJ_L_law_801 kont σ ρ x1 x4 := by
  have hN0 := hN
  have hl := h.2.1.1
  unfold wJ_L_law_801
  refine ⟨fun c2 => ?_, fun _ => hk' σ ρ h (lD_up hd' (by omega))⟩
  rw [h.2.1.2.1] at c2
  have hl2 : 2 ≤ tL (told σ.1) := (nI_leI (a := 2) (by decide) (by omega)).mp c2
  refine ln_draw (K := fun σ1 => bK nU nR nS jj ρ σ1 ∧ told σ1.1 = told σ.1) (fun _ _ h => h) ⟨h, rfl⟩ hd' (by omega) h.2.1.2.1 (by omega) (by omega) (fun kr hkr σ1 ⟨h1, t1⟩ d1 => ?_)
  obtain ⟨e1, e2, e3⟩ := gR_n h1.1 hN
  obtain ⟨⟨n1, n2⟩, ⟨n3, n4⟩, ⟨n5, n6⟩⟩ := hN
  rw [← t1] at hkr hl hl2
  have hw := h1.1.1.1
  have h120 : nU * 5 * nS ≤ 120 := Nat.mul_le_mul (show nU * 5 ≤ 20 by omega) n6
  refine la_isIdle (T := told σ1.1) (C := σ1.1.1 38) ⟨rfl, fun _ => rfl⟩ hw hkr (fun s825 h825 => ?_)
  have hb2 : bK nU nR nS jj ρ (s825, σ1.2) := bK_told h1 h825.1 rfl
  obtain ⟨f1', f2', f3'⟩ := gR_n hb2.1 hN0
  refine ln_table (nU := nU) (nT := nS) (σ := (s825, σ1.2)) hb2.1.1.1 ⟨n1, n2⟩ ⟨n5, n6⟩ f1' f3' hb2.1.2.1.2 hb2.1.2.2.2.1.2 (fun σ3 f t3 g3 hf => ?_)
  have t3 : told σ3.1 = told σ1.1 := t3.trans h825.1
  have hf : ∀ x, x < nU * 5 * nS → f x = dc (told σ1.1) (x % nU) (x / nU % 5) (x / nU / 5) := fun x hx => by
    rw [hf x hx]
    show dc (told s825) _ _ _ = _
    rw [h825.1]
  have hb3 : bK nU nR nS jj ρ σ3 := bK_told h1 t3 g3
  have d3 : lD (D + 1) σ3 := by
    obtain ⟨d, q1, q2⟩ := d1
    exact ⟨d, q1, by rw [g3]; exact q2⟩
  refine b2i_go' _ (fun _ => hk' σ3 ρ hb3 d3) (fun idle => ?_)
  rw [decide_eq_true_eq] at idle
  -- nothing differs
  have same : ∀ u a r, u < nU → a < 5 → r < nS → dc (told σ1.1) u a r = dec (fun k => decide (k = kr)) (told σ1.1) ((told σ1.1).2 6) ((told σ1.1).1 2) u a r := fun u a r hu ha hr => by
    have hlt := fl_le hw (show u < tU (told σ1.1) by omega) ha (show r < tT (told σ1.1) by omega)
    have h1440 := fl_1440 hw
    refine Decidable.byContradiction fun hne => ?_
    have hpos := cn_pos (P := fun j => !decide (fl (told σ1.1) (dec no0 (told σ1.1) ((told σ1.1).2 6) ((told σ1.1).1 2)) j = fl (told σ1.1) (dec (fun k => decide (k = kr)) (told σ1.1) ((told σ1.1).2 6) ((told σ1.1).1 2)) j)) hlt (by
      show (!decide (_ = _)) = true
      rw [fl_at _ ha (by omega), fl_at _ ha (by omega), decide_eq_false hne]; rfl)
    have hle := cn_le (fun j => !decide (fl (told σ1.1) (dec no0 (told σ1.1) ((told σ1.1).2 6) ((told σ1.1).1 2)) j = fl (told σ1.1) (dec (fun k => decide (k = kr)) (told σ1.1) ((told σ1.1).2 6) ((told σ1.1).1 2)) j)) (tU (told σ1.1) * 5 * tT (told σ1.1))
    exact nI_ne0 hpos (by omega) idle
  have eL3 : tL (told σ3.1) = tL (told σ1.1) := by rw [t3]
  have e17 : σ3.2.2 17 - 1 = nI (tL (told σ1.1) - 1) := by
    rw [hb3.2.1.2.1, eL3]
    exact nI_sub' (b := 1) (by omega)
  have s9 : nk_s σ3 17 (σ3.2.2 17 - 1) = nk_s σ3 17 (nI (tL (told σ1.1) - 1)) := by rw [e17]
  rw [s9]
  have rl := hb3.2.1.2.2
  rw [eL3] at rl
  have hdpR : dpR (told σ3.1) (told (dpT σ3.1 (tL (told σ3.1)) kr)) kr := by
    refine ⟨by omega, fun i hi => ?_, fun i hi hi2 => ?_, fun i h4 hi => ?_, num_eq (x := nI (tL (told σ3.1) - 1)) rfl (by omega), fun i k hi hi2 hk => ?_⟩
    · have : i = 0 ∨ i = 1 ∨ i = 2 ∨ i = 3 ∨ i = 4 ∨ i = 5 ∨ i = 6 ∨ i = 7 ∨ i = 8 ∨ i = 9 ∨ i = 10 := by omega
      rcases this with rfl | rfl | rfl | rfl | rfl | rfl | rfl | rfl | rfl | rfl | rfl <;> rfl
    · have : i = 20 ∨ i = 21 ∨ i = 22 ∨ i = 23 ∨ i = 24 ∨ i = 25 := by omega
      rcases this with rfl | rfl | rfl | rfl | rfl | rfl <;> rfl
    · have : i = 0 ∨ i = 1 ∨ i = 2 ∨ i = 3 ∨ i = 5 ∨ i = 6 ∨ i = 7 := by omega
      rcases this with rfl | rfl | rfl | rfl | rfl | rfl | rfl <;> rfl
    · have h1 := dpT_row (σ := σ3.1) (n := tL (told σ3.1)) (a := kr) (by omega) (by omega) hi hi2 hk
      rw [← tr (σ := dpT σ3.1 (tL (told σ3.1)) kr) rfl (show i < 26 by omega), h1, tr (σ := σ3.1) rfl (show i < 26 by omega)]
  have l := lpUp (A := lk_R) (n := tL (told σ1.1) - 1) (W := fun g m z => wL_L_law_858 (fun σ ρ x1 x4 x15 fc831 nc831 => (w_X8_dropRule σ.1 x15 (fun r892 s892 => ((r892 = ((s892, σ.2).2.2 17)) → (w_L_table (s892, σ.2) (fun nc905 fc905 σ905 => ∃ n913, wL_L_law_913 kont n913 σ905 ρ x1 x4 0 fc831 nc831 fc905 nc905))) ∧ ((¬ r892 = ((s892, σ.2).2.2 17)) → (False))))) g (nk_s σ3 17 (nI (tL (told σ1.1) - 1))) z x1 x4 (nI kr) (nI m) f (nU * 5 * nS)) (J := fun m z => kr ≤ m ∧ (∀ i, i < m → z.1 i = ρ.1 (bh kr i)) ∧ (∀ i, m ≤ i → z.1 i = ρ.1 i) ∧ z.2 = ρ.2) ?_ ?_ (tL (told σ1.1) - 1 - kr) kr ρ (by omega) ⟨Nat.le_refl _, fun i hi => by unfold bh; rw [if_neg (by omega)], fun _ _ => rfl, rfl⟩
  · exact ⟨_, l⟩
  · intro g z ⟨z1, z2, z3, z4⟩
    unfold wL_L_law_858
    have e : (nk_s σ3 17 (nI (tL (told σ1.1) - 1))).2.2 17 = nI (tL (told σ1.1) - 1) := gs_at σ3.2 17 _
    rw [e]
    refine ⟨fun _ => ?_, fun q => absurd (nI_le (Nat.le_refl _) (by omega)) q⟩
    have hdp := hdpR
    refine la_dropRule (σ := σ3.1) hb3.1.1 (by rw [t3]; exact hkr) (fun hI => ?_)
    generalize dpT σ3.1 (tL (told σ3.1)) kr = s892 at hI hdp ⊢
    have hb4 : bK nU nR nS jj z (s892, (nk_s σ3 17 (nI (tL (told σ1.1) - 1))).2) := by
      obtain ⟨⟨a1, a2, a3, a4, a5, a6, a7⟩, ⟨b1, b2, b3⟩, ⟨c1', c2', c3'⟩⟩ := hb3
      obtain ⟨p1, p2, p3, p4, p5, p6⟩ := hdp
      have row : ∀ i, (i < 11 ∨ 20 ≤ i) → i < 26 → s892.1 i = σ3.1.1 i := fun i hi hi2 => by
        rw [tr (σ := s892) rfl hi2, tr (σ := σ3.1) rfl hi2]
        rcases hi with hi | hi
        · exact p2 i hi
        · exact p3 i hi hi2
      have sc : ∀ i, ¬ i = 4 → i < 8 → s892.2 i = σ3.1.2 i := fun i h4 hi => by
        rw [ts (σ := s892) rfl hi, ts (σ := σ3.1) rfl hi]
        exact p4 i h4 hi
      have eG : tG (told s892) = tG (told σ3.1) := congrArg nt (p4 5 (by decide) (by decide))
      refine ⟨⟨hI, ⟨(sc 0 (by decide) (by decide)).trans a2.1, a2.2⟩, ⟨(sc 1 (by decide) (by decide)).trans a3.1, a3.2⟩, ⟨(sc 3 (by decide) (by decide)).trans a4.1, a4.2⟩, fun u hu i hi => ?_, fun a b ha hb => ?_, fun a b ha hb => ?_⟩, ⟨?_, ?_, fun k hk => ?_⟩, ⟨?_, ?_, fun g hg => ?_⟩⟩
      · show σ3.2.1 (22 + u) i = b2i (bt (s892.1 2 u) i)
        rw [row 2 (by decide) (by decide)]; exact a5 u hu i hi
      · show σ3.2.1 (26 + a) b = b2i (bt (s892.1 4 a) b)
        rw [row 4 (by decide) (by decide)]; exact a6 a b ha hb
      · show σ3.2.1 (31 + a) b = b2i (bt (s892.1 5 a) b)
        rw [row 5 (by decide) (by decide)]; exact a7 a b ha hb
      · show tL (told s892) ≤ jj
        omega
      · show (nk_s σ3 17 (nI (tL (told σ1.1) - 1))).2.2 17 = nI (tL (told s892))
        rw [e, p5, eL3]
      · have hk : k < tL (told s892) := hk
        obtain ⟨f', q1, q2⟩ := rl (bh kr k) (bh_lt hkr (by omega)).1
        refine ⟨f', by rw [z2 k (by omega)]; exact q1, ?_⟩
        show f' 0 = s892.1 11 k
        rw [q2, tr (σ := s892) rfl (show 11 < 26 by decide), p6 11 k (by decide) (by decide) (by omega)]
        rfl
      · show tG (told s892) ≤ jj
        rw [eG]; exact c1'
      · show σ3.2.2 19 = nI (tG (told s892))
        rw [eG]; exact c2'
      · have hg : g < tG (told s892) := hg
        rw [eG] at hg
        rw [z4, show ((s892, (nk_s σ3 17 (nI (tL (told σ1.1) - 1))).2) : nk_C).1.1 21 = σ3.1.1 21 from row 21 (by decide) (by decide), show ((s892, (nk_s σ3 17 (nI (tL (told σ1.1) - 1))).2) : nk_C).1.1 23 = σ3.1.1 23 from row 23 (by decide) (by decide)]
        exact c3' g hg
    refine ⟨fun _ => ?_, fun q => absurd (by rw [t3]; exact e.symm) q⟩
    obtain ⟨g1', g2', g3'⟩ := gR_n hb4.1 hN0
    refine ln_table (nU := nU) (nT := nS) (σ := (s892, (nk_s σ3 17 (nI (tL (told σ1.1) - 1))).2)) hI.1 ⟨n1, n2⟩ ⟨n5, n6⟩ g1' g3' hb4.1.2.1.2 hb4.1.2.2.2.1.2 (fun σ5 f5 t5 g5 hf5 => ?_)
    have hb5 : bK nU nR nS jj z σ5 := bK_told hb4 t5 g5
    have d5 : lD (D + 1) σ5 := by
      obtain ⟨d, q1, q2⟩ := d3
      exact ⟨d, q1, by rw [g5]; exact q2⟩
    have l2 := lpUp (A := Unit) (n := nU * 5 * nS) (W := fun g x _ => wL_L_law_913 kont g σ5 z x1 x4 (nI x) f (nU * 5 * nS) f5 (nU * 5 * nS)) (J := fun _ _ => True) ?_ ?_ (nU * 5 * nS) 0 () (Nat.zero_add _) trivial
    · exact ⟨_, l2⟩
    · intro g _ _
      unfold wL_L_law_913
      exact ⟨fun _ => hk' σ5 z hb5 d5, fun q => absurd (nI_le (Nat.le_refl _) (by omega)) q⟩
    · intro g x _ hx _ next2
      unfold wL_L_law_913
      refine ⟨fun q => absurd q (nI_ge hx (by omega)), fun _ => ⟨vp_in' hx (by omega), vp_in' hx (by omega), ?_⟩⟩
      rw [nI_clamp (by omega), nI_1]
      refine ⟨fun _ => next2 () trivial, fun q => absurd ?_ q⟩
      have hxt : x / nU < 5 * nS := Nat.div_lt_of_lt_mul (by rw [← Nat.mul_assoc]; exact hx)
      rw [hf x hx, hf5 x hx, same _ _ _ (Nat.mod_lt _ (by omega)) (Nat.mod_lt _ (by omega)) (by omega)]
      show _ = dec no0 (told s892) ((told s892).2 6) ((told s892).1 2) _ _ _
      rw [dec_dp hdp, hdp.2.2.2.1 6 (by decide) (by decide), hdp.2.1 2 (by decide), t3]
  · intro g m z hm ⟨z1, z2, z3, z4⟩ next
    unfold wL_L_law_858
    rw [show (nk_s σ3 17 (nI (tL (told σ1.1) - 1))).2.2 17 = nI (tL (told σ1.1) - 1) from gs_at σ3.2 17 _]
    refine ⟨fun q => absurd q (nI_ge hm (by omega)), fun _ => ?_⟩
    rw [nI_1, nI_clamp (show m + 1 < 2 ^ 31 by omega), nI_clamp (show m < 2 ^ 31 by omega)]
    obtain ⟨f', q1, q2⟩ := rl (m + 1) (by omega)
    refine ⟨vp_in' (by omega) (by decide), f', by rw [z3 (m + 1) (by omega)]; exact q1, vp_in' (by omega) (by decide), ?_⟩
    rintro _ rfl
    refine next _ ⟨by omega, fun i hi => ?_, fun i hi => ?_, z4⟩
    · show va_up z.1 m (some f') i = _
      by_cases e : i = m
      · rw [e, va_up_self]
        unfold bh
        rw [if_pos z1, q1]
      · rw [va_up_ne _ _ e]; exact z2 i (by omega)
    · show va_up z.1 m (some f') i = _
      rw [va_up_ne _ _ (by omega)]; exact z3 i (by omega)
theorem ln_759 (hN : bN nU nR nS) (h : bK nU nR nS jj ρ σ) (hj : jj ≤ 20) {D : Nat} (hd' : lD D σ) (hD : D < 900000) {u a r : Nat} (hu : u < nU) (ha : a < 5) (hr : r < nS) {kont : nk_C → lk_R → Int32 → Int32 → Prop} {x1 x4 : Int32} (hk' : ∀ σ1 ρ1, bK nU nR nS jj ρ1 σ1 → lD (D + 1) σ1 → kont σ1 ρ1 x1 x4) : wJ_L_law_759 kont σ ρ x1 x4 (nI u) (nI a) (nI r) := by
  have hN0 := hN
  obtain ⟨e1, e2, e3⟩ := gR_n h.1 hN
  obtain ⟨⟨n1, n2⟩, ⟨n3, n4⟩, ⟨n5, n6⟩⟩ := hN
  have hw := h.1.1.1
  have go : ∀ σ2 : nk_C, told σ2.1 = told σ.1 → σ2.2 = σ.2 → wJ_L_law_801 kont σ2 ρ x1 x4 := fun σ2 t2 g2 => by
    refine ln_801 hN0 (bK_told h t2 g2) hj (D := D) ?_ hD hk'
    obtain ⟨d, q1, q2⟩ := hd'
    exact ⟨d, q1, by rw [g2]; exact q2⟩
  unfold wJ_L_law_759
  refine la_rolesNeeded (T := told σ.1) (C := σ.1.1 38) ⟨rfl, fun _ => rfl⟩ hw (by omega) ha (by omega) (fun s766 h766 => ?_)
  show (σ.2.2 9 < _ → False) ∧ (¬ σ.2.2 9 < _ → _)
  rw [h.1.2.2.1.2]
  have hb2 : bK nU nR nS jj ρ (s766, σ.2) := bK_told h h766.1 rfl
  rcases ndR_cs hw u a r with ⟨_, e⟩ | ⟨_, e | e | ⟨e, hx⟩⟩ <;> rw [e]
  · exact ⟨fun q => absurd q (nI_nlt (b := 0) (by omega) (by omega)), fun _ => ⟨fun _ => go (s766, σ.2) h766.1 rfl, fun q => absurd q (by decide)⟩⟩
  · refine ⟨fun q => absurd q ?_, fun _ => ⟨fun _ => go (s766, σ.2) h766.1 rfl, fun q => absurd q (by decide)⟩⟩
    rw [Int32.lt_iff_toInt_lt, nI_toInt (by omega), show (-1 : Int32).toInt = -1 by decide]
    omega
  · exact ⟨fun q => absurd q (nI_nlt (a := nR) (b := 2) (by omega) (by omega)), fun _ => ⟨fun _ => go (s766, σ.2) h766.1 rfl, fun q => absurd q (by decide)⟩⟩
  · refine ⟨fun q => absurd q (nI_nlt (a := nR) (b := 1) (by omega) (by omega)), fun _ => ⟨fun q => absurd rfl q, fun _ => ?_⟩⟩
    have t766 : told s766 = told σ.1 := h766.1
    refine ln_byOne hN0 hb2 hu ha hr ?_ (fun σ3 t3 g3 => pm_go1' (go σ3 (t3.trans t766) g3))
    show ∃ x, x < nR ∧ bt ((told s766).1 2 u) x = false ∧ okM (told s766) ((told s766).2 6) u a r ((told s766).1 2 u ||| (1 <<< (nI x &&& 31))) = true
    rw [t766, ← e2]
    exact hx
end SU
