/-! ===== layer B: rolesNeeded ===== -/
section NF
variable {T : gk_C}
theorem cn_pos {P : Nat → Bool} {n j : Nat} (hj : j < n) (h : P j = true) : 0 < cn P n := by
  have h1 := cn_lt (P := fun _ => false) (R := P) (n := n) (fun _ _ q => by cases q) hj rfl h
  omega
theorem ok_two (hw : wf T) {u a r : Nat} (hu : u < tU T) {wgh : Int32} {s : Int32} (hs : bd (tR T) s) (hbs : ∀ i, bt (T.1 2 u) i = true → bt s i = true) (h0 : okM T wgh u a r (T.1 2 u) = false) (h1 : okM T wgh u a r s = true) : ∃ p q, q ≤ p ∧ p < tR T ∧ bt s p = true ∧ bt s q = true ∧ ∀ t : Int32, bd (tR T) t → (∀ i, bt t i = true → bt s i = true) → bt t p = true → bt t q = true → okM T wgh u a r t = true := by
  have hR := wf_R hw
  have hbb : bd (tR T) (T.1 2 u) := fun i hi q => hw.2.1.1 u hu i hi q
  unfold okM at h1
  rw [Bool.and_eq_true, Bool.not_eq_true'] at h1
  have hsp : ∀ t : Int32, bd (tR T) t → (∀ i, bt t i = true → bt s i = true) → rSplit (T.1 5) (tR T) (hd T t) = false := fun t ht hts =>
    split_less (fun i hi q => had_less hR.2 (wf_bd hw) (wf_bd hw) hs ht (fun _ _ _ q => q) hts hi q) (by omega) h1.1
  have h2 : alw (dec no0 T wgh (va_up (T.1 2) u (T.1 2 u)) u a r) = false := by
    unfold okM at h0
    rw [hsp _ hbb hbs] at h0
    exact h0
  obtain ⟨p, q, p1, q1, p2, q2, h3⟩ := dec_two hw hbs h2 h1.2
  have h4 : ∀ t : Int32, bd (tR T) t → (∀ i, bt t i = true → bt s i = true) → bt t p = true → bt t q = true → okM T wgh u a r t = true := fun t ht hts tp tq => by
    unfold okM
    rw [hsp t ht hts, h3 t hts tp tq]; rfl
  rcases Nat.le_total q p with c | c
  · exact ⟨p, q, c, hs p p1 p2, p2, q2, h4⟩
  · exact ⟨q, p, c, hs q q1 q2, q2, p2, fun t ht hts tq tp => h4 t ht hts tp tq⟩
theorem need_eq (hw : wf T) {u a r : Nat} (hu : u < tU T) {wgh : Int32} (hnot : okM T wgh u a r (T.1 2 u) = false) : mnO (Cg T wgh u a r (T.1 2 u)) (twS (T.1 2 u)) (16 * tR T) = mnO (Cm T wgh u a r (T.1 2 u)) rSz (2 ^ tR T) := by
  have hR := wf_R hw
  have hbb : bd (tR T) (T.1 2 u) := fun i hi q => hw.2.1.1 u hu i hi q
  refine mnO_eq (fun j hj hC => ?_) (fun m hm hD => ?_)
  · unfold Cg at hC
    rw [Bool.and_eq_true, Bool.and_eq_true, decide_eq_true_eq] at hC
    obtain ⟨h1, -, h3⟩ := hC
    have hbT : bd (tR T) (tw (T.1 2 u) j) := bd_or (bd_or hbb (bd_bit (by omega) (by omega))) (bd_bit (by omega) (by omega))
    have eX : nI (twX (T.1 2 u) j) = tw (T.1 2 u) j &&& (T.1 2 u ^^^ (-1)) := nm_nI _
    refine ⟨twX (T.1 2 u) j, nm_lt (bd_and hbT), ?_, Nat.le_refl _⟩
    unfold Cm
    rw [eX, show T.1 2 u ||| (tw (T.1 2 u) j &&& (T.1 2 u ^^^ (-1))) = tw (T.1 2 u) j from b_ext (fun i hi => by
      rw [b_or, b_and, b_not _ hi]
      unfold tw
      rw [b_or, b_or]
      cases bt (T.1 2 u) i <;> simp), h3, Bool.and_true, decide_eq_true_eq, b_eq0]
    intro i hi
    rw [b_and, b_and, b_not _ hi]
    cases bt (T.1 2 u) i <;> simp
  · unfold Cm at hD
    rw [Bool.and_eq_true, decide_eq_true_eq] at hD
    obtain ⟨h1, h2⟩ := hD
    have hs : bd (tR T) (T.1 2 u ||| nI m) := bd_or hbb (bd_nI hm)
    have hbs : ∀ i, bt (T.1 2 u) i = true → bt (T.1 2 u ||| nI m) i = true := fun i q => by rw [b_or, q]; rfl
    obtain ⟨p, q, hqp, hp, p2, q2, h4⟩ := ok_two hw hu hs hbs hnot h2
    have tb : ∀ i, i < 32 → bt (tw (T.1 2 u) (16 * p + q)) i = (bt (T.1 2 u) i || decide (i = p) || decide (i = q)) := fun i hi => tw_b _ (by omega) (by omega) hi
    have hts : ∀ i, bt (tw (T.1 2 u) (16 * p + q)) i = true → bt (T.1 2 u ||| nI m) i = true := fun i e => by
      by_cases c : i < 32
      · rw [tb i c, Bool.or_eq_true, Bool.or_eq_true, decide_eq_true_eq, decide_eq_true_eq] at e
        rcases e with (e | e) | e
        · exact hbs i e
        · rw [e]; exact p2
        · rw [e]; exact q2
      · rw [b_big (by omega)] at e; cases e
    have ht : bd (tR T) (tw (T.1 2 u) (16 * p + q)) := fun i hi e => hs i hi (hts i e)
    have hok : okM T wgh u a r (tw (T.1 2 u) (16 * p + q)) = true := h4 _ ht hts (by rw [tb p (by omega), decide_eq_true (show p = p from rfl)]; simp) (by rw [tb q (by omega), decide_eq_true (show q = q from rfl)]; simp)
    have eX : nI (twX (T.1 2 u) (16 * p + q)) = tw (T.1 2 u) (16 * p + q) &&& (T.1 2 u ^^^ (-1)) := nm_nI _
    have h0 : 0 < twS (T.1 2 u) (16 * p + q) := by
      unfold twS rSz
      rw [eX]
      by_cases c : ∃ j, j < 12 ∧ bt (tw (T.1 2 u) (16 * p + q) &&& (T.1 2 u ^^^ (-1))) j = true
      · obtain ⟨j, j1, j2⟩ := c
        exact cn_pos j1 j2
      · exfalso
        have e : tw (T.1 2 u) (16 * p + q) = T.1 2 u := b_ext (fun i hi => by
          cases c1 : bt (T.1 2 u) i
          · cases c2 : bt (tw (T.1 2 u) (16 * p + q)) i
            · rfl
            · have h5 := ht i hi c2
              exact absurd ⟨i, by omega, by rw [b_and, b_not _ hi, c1, c2]; rfl⟩ c
          · rw [tb i hi, c1]; rfl)
        rw [e, hnot] at hok; cases hok
    refine ⟨16 * p + q, by omega, ?_, ?_⟩
    · unfold Cg
      rw [hok, decide_eq_true h0, decide_eq_true (show (16 * p + q) % 16 ≤ (16 * p + q) / 16 by omega)]; rfl
    · unfold twS rSz
      rw [eX]
      refine cn_mono (fun i hi e => ?_)
      rw [b_and, b_not _ (by omega), Bool.and_eq_true] at e
      have h5 := hts i e.1
      rw [b_or, Bool.or_eq_true] at h5
      rcases h5 with h5 | h5
      · rw [h5] at e; exact absurd e.2 (by decide)
      · exact h5
theorem bar_dec {wgh : Int32} {S : Nat → Int32} {u a r : Nat} (h : ¬ barI T u a r = 0) : alw (dec no0 T wgh S u a r) = false := by
  have e : rul no0 T wgh u (S u) a r = barI T u a r := by
    unfold rul
    unfold barI at h ⊢
    by_cases c1 : lab T u a r = true
    · rw [if_pos c1, if_pos c1]
    · rw [if_neg c1] at h ⊢
      rw [if_neg c1]
      by_cases c2 : wal T u r = true
      · rw [if_pos c2, if_pos c2]
      · rw [if_neg c2] at h; exact absurd rfl h
  unfold dec dcd
  rw [e, if_neg (fun q => h q.1)]
  unfold barI
  by_cases c1 : lab T u a r = true
  · rw [if_pos c1]; decide
  · rw [if_neg c1]
    by_cases c2 : wal T u r = true
    · rw [if_pos c2]; decide
    · rw [if_neg c2]; decide
theorem mn_none {C : Nat → Bool} {sz : Nat → Nat} {n : Nat} (h : ∀ j, j < n → C j = false) : mnO C sz n = none := by
  cases c : mnO C sz n with
  | none => rfl
  | some b =>
    obtain ⟨⟨j, j1, j2, -⟩, -⟩ := mnO_c.1 b c
    rw [h j j1] at j2; cases j2
theorem mn_zero {C : Nat → Bool} {n : Nat} (h : C 0 = true) (hn : 1 ≤ n) : mnO C rSz n = some 0 := by
  have h0 : rSz 0 = 0 := by
    unfold rSz
    rw [cn_congr (P := bt (nI 0)) (R := fun _ => false) (fun k _ => b_0 k)]
    rfl
  cases c : mnO C rSz n with
  | none =>
    have := mnO_c.2 c 0 (by omega)
    rw [h] at this; cases this
  | some b =>
    have := (mnO_c.1 b c).2 0 (by omega) h
    rw [h0] at this
    rw [show b = 0 by omega]
end NF
theorem va_up_id (f : Nat → Int32) (k : Nat) : va_up f k (f k) = f := by
  funext j
  by_cases e : j = k
  · rw [e, va_up_self]
  · rw [va_up_ne _ _ e]
theorem q_rolesNeeded : ∀ (σ μ : gk_C) (o : Int64), jI σ μ → ∀ (a0 a1 a2 : Int32), w_L_rolesNeeded σ o a0 a1 a2 (fun k σ1 o1 => w_X9_rolesNeeded μ a0 a1 a2 (fun r μ1 => μ1.2 0 = k ∧ (k = 0 → o1 = r.toInt64) ∧ jI σ1 μ1)) := by
  intro σ μ o h a0 a1 a2
  have hw := h.1
  have hU := wf_U hw
  have hR := wf_R hw
  have hL := wf_L hw
  obtain ⟨hp1, hp2⟩ := pw2_le hR.2
  unfold w_L_rolesNeeded w_X8_rolesNeeded
  refine lb_ask (T := told σ) rfl hw (fun hv => ⟨rfl, ?_⟩) (fun hv => ?_)
  · unfold w_X9_rolesNeeded
    refine lm_ask (T := told σ) (μ := gk_s μ 0 0) h.2.1 hw ?_
    rw [hv]
    exact ⟨fun q => absurd rfl q, fun _ => q_no1 h⟩
  · obtain ⟨u, a, r, hu, ha, hr, rfl, rfl, rfl⟩ := vA_ex hw hv
    refine lb_now (v := 1) (by decide) h (fun σ1 H HG HS hI => ?_)
    have hns : rSplit ((told σ).1 5) (tR (told σ)) (hd (told σ) ((told σ).1 2 u)) = false := h.2.2.1.2.1 u hu
    have eok : okM (told σ) (σ.2 6) u a r ((told σ).1 2 u) = alw (dec no0 (told σ) (σ.2 6) ((told σ).1 2) u a r) := by
      unfold okM
      rw [hns, va_up_id]; rfl
    obtain ⟨V, hV⟩ : ∃ V : Int32, V = if barI (told σ) u a r = 0 then oI (mnO (Cm (told σ) (σ.2 6) u a r ((told σ).1 2 u)) rSz (2 ^ tR (told σ))) else -1 := ⟨_, rfl⟩
    have fin : ∀ σ2, jI σ2 μ → w_X9_rolesNeeded μ (nI u) (nI a) (nI r) (fun r μ1 => μ1.2 0 = 0 ∧ ((0 : Int32) = 0 → V.toInt64 = r.toInt64) ∧ jI σ2 μ1) := fun σ2 hI2 => by
      unfold w_X9_rolesNeeded
      refine lm_ask (T := told σ) (μ := gk_s μ 0 0) h.2.1 hw ?_
      rw [hv]
      refine ⟨fun _ => ?_, fun q => absurd q (by decide)⟩
      refine lm_barred (T := told σ) (μ := gk_s μ 0 0) h.2.1 hw hu ha hr ?_
      refine ⟨fun q => ?_, fun q => ?_⟩
      · rw [if_pos q] at hV
        refine lm_allNears (T := told σ) (μ := gk_s μ 0 0) h.2.1 hw (fun N hN => ?_)
        refine lm_needRows (T := told σ) (μ := gk_s μ 0 0) h.2.1 hw h.2.2.2.1 hN hu (fun x fA fB hx hA hB => ?_)
        refine lm_fitting (T := told σ) (μ := gk_s μ 0 0) (lo := no0) h.2.1 hw (lo_m1 hw h.2.2.2.1) hu ha hr ?_
        refine lm_needLoop (T := told σ) (μ := gk_s μ 0 0) h.2.1 hw hu hr q hx hA hB (fun k hk => by rw [mb_b _ (by omega) (by omega), decide_eq_true hk, Bool.true_and]) ?_
        rw [wgh_eq h, ← hV]
        exact ⟨rfl, fun _ => rfl, hI2⟩
      · rw [if_neg q] at hV
        rw [hV]
        exact ⟨rfl, fun _ => rfl, hI2⟩
    refine lb_isAllowed H (by decide) hw (Nat.le_refl _) hu ha hr ?_
    rw [HG]
    refine b2i_go _ (fun q => ?_) (fun q => ?_)
    · have q : alw (dec no0 (told σ) (σ.2 6) ((told σ).1 2) u a r) = false := q
      rw [gk_at_in (show u < gk_rl 2 by show u < 12; omega), tr H.1 (show 2 < 26 by decide)]
      refine lb_needLoop H (fun _ => rfl) hw hu ha hr (fun i hi q => hw.2.1.1 u hu i hi q) (fun σ2 hV2 => ?_)
      have e : oI (mnO (Cg (told σ) (σ.2 6) u a r ((told σ).1 2 u)) (twS ((told σ).1 2 u)) (16 * tR (told σ))) = V := by
        by_cases c : barI (told σ) u a r = 0
        · rw [if_pos c] at hV
          rw [hV, need_eq hw hu (eok.trans q)]
        · rw [if_neg c] at hV
          rw [hV, mn_none (fun j _ => ?_)]
          · rfl
          · unfold Cg okM
            rw [bar_dec c, Bool.and_false, Bool.and_false, Bool.and_false]
      rw [e]
      exact fin σ2 (jI_sV hI (by decide) hV2)
    · have q : alw (dec no0 (told σ) (σ.2 6) ((told σ).1 2) u a r) = true := q
      have c : barI (told σ) u a r = 0 := Decidable.byContradiction fun c => by
        rw [bar_dec c] at q; cases q
      rw [if_pos c] at hV
      have hC : Cm (told σ) (σ.2 6) u a r ((told σ).1 2 u) 0 = true := by
        unfold Cm
        rw [show (told σ).1 2 u ||| nI 0 = (told σ).1 2 u from b_ext (fun i _ => by rw [b_or, show nI 0 = 0 from rfl, b_0, Bool.or_false]), eok, q, Bool.and_true, decide_eq_true_eq, b_eq0]
        intro i _
        rw [b_and, show nI 0 = 0 from rfl, b_0]; rfl
      rw [mn_zero hC hp1] at hV
      have h0 := fin σ1 hI
      rw [hV] at h0
      exact h0
