/-! ===== layer B: rolesNeeded ===== -/
section NF
variable {T : gk_C}
theorem need_eq (hw : wf T) {u a r : Nat} (hu : u < tU T) (ha : a < 5) {wgh : Int32} (hnot : okM T wgh u a r (T.1 2 u) = false) : mnO (Cg T wgh u a r (T.1 2 u) (usF T u a r &&& (T.1 2 u ^^^ (-1)))) rSz (2 ^ tR T) = mnO (Cm T wgh u a r (T.1 2 u)) rSz (2 ^ tR T) := by
  have hR := wf_R hw
  have hbb : bd (tR T) (T.1 2 u) := fun i hi q => hw.2.1.1 u hu i hi q
  refine mnO_eq (fun m hm hC => ?_) (fun m hm hD => ?_)
  · unfold Cg at hC
    rw [Bool.and_eq_true, Bool.and_eq_true, decide_eq_true_eq, decide_eq_true_eq] at hC
    obtain ⟨⟨-, h2⟩, h3⟩ := hC
    unfold Cm
    rw [h3, Bool.and_true, decide_eq_true_eq, b_eq0]
    intro i hi
    have h4 := (b_eq0 _).mp h2 i hi
    rw [b_and, b_not _ hi, b_and, b_not _ hi] at h4
    rw [b_and]
    cases c1 : bt (T.1 2 u) i
    · rw [Bool.and_false]
    · rw [c1] at h4
      simpa using h4
  · unfold Cm at hD
    rw [Bool.and_eq_true, decide_eq_true_eq] at hD
    obtain ⟨h1, h2⟩ := hD
    obtain ⟨X, hX⟩ : ∃ X, X = usF T u a r &&& (T.1 2 u ^^^ (-1)) := ⟨_, rfl⟩
    rw [← hX]
    have hXb : ∀ i, i < 32 → bt X i = (bt (usF T u a r) i && !bt (T.1 2 u) i) := fun i hi => by rw [hX, b_and, b_not _ hi]
    have hm' : ∀ i, i < 32 → bt (nI (m &&& X.toBitVec.toNat)) i = (bt (nI m) i && bt X i) := fun i hi => by
      rw [bt_nI hi, bt_nI hi, Nat.testBit_and]
      rfl
    have hle : m &&& X.toBitVec.toNat ≤ m := Nat.and_le_left
    have hs : bd (tR T) (T.1 2 u ||| nI m) := bd_or hbb (bd_nI hm)
    have ht : bd (tR T) (T.1 2 u ||| nI (m &&& X.toBitVec.toNat)) := bd_or hbb (bd_nI (by omega))
    have hts : ∀ p, p < 32 → bt (T.1 2 u ||| nI (m &&& X.toBitVec.toNat)) p = true → bt (T.1 2 u ||| nI m) p = true := fun p hp q => by
      rw [b_or, hm' p hp] at q
      rw [b_or]
      cases c1 : bt (T.1 2 u) p
      · rw [c1, Bool.false_or, Bool.and_eq_true] at q
        rw [q.1]; rfl
      · rfl
    have hst : ∀ p, p < tR T → bt (T.1 2 u ||| nI m) p = true → bt (T.1 2 u ||| nI (m &&& X.toBitVec.toNat)) p = false → bt (usF T u a r) p = false := fun p hp q1 q2 => by
      rw [b_or, hm' p (by omega), hXb p (by omega)] at q2
      rw [b_or] at q1
      cases c1 : bt (T.1 2 u) p
      · rw [c1, Bool.false_or] at q1
        rw [c1, q1] at q2
        simpa using q2
      · rw [c1] at q2
        simp at q2
    have hok : okM T wgh u a r (T.1 2 u ||| nI (m &&& X.toBitVec.toNat)) = true := by
      unfold okM at h2 ⊢
      rw [Bool.and_eq_true, Bool.not_eq_true'] at h2
      rw [← dec_use hw hs hts hst ha, h2.2, Bool.and_true, Bool.not_eq_true']
      refine split_less (fun i hi q => ?_) (by omega) h2.1
      exact had_less hR.2 (wf_bd hw) (wf_bd hw) hs ht (fun _ _ _ q => q) (fun i q => by
        by_cases c : i < 32
        · exact hts i c q
        · rw [b_big (by omega)] at q; cases q) hi q
    refine ⟨m &&& X.toBitVec.toNat, by omega, ?_, ?_⟩
    · unfold Cg
      rw [hok, Bool.and_true, Bool.and_eq_true, decide_eq_true_eq, decide_eq_true_eq]
      refine ⟨?_, ?_⟩
      · rcases Nat.eq_zero_or_pos (m &&& X.toBitVec.toNat) with c | c
        · rw [c, show T.1 2 u ||| nI 0 = T.1 2 u from b_ext (fun i _ => by rw [b_or, show nI 0 = 0 from rfl, b_0, Bool.or_false]), hnot] at hok
          cases hok
        · exact c
      · rw [b_eq0]
        intro i hi
        rw [b_and, hm' i hi, b_not _ hi]
        cases bt X i <;> simp
    · unfold rSz
      refine cn_mono (fun i hi q => ?_)
      rw [hm' i (by omega), Bool.and_eq_true] at q
      exact q.1
theorem bar_dec {wgh : Int32} {S : Nat → Int32} {u a r : Nat} (h : ¬ barI T u a r = 0) : alw (dec no0 T wgh S u a r) = false := by
  have e : rul no0 T wgh u (S u) a r = barI T u a r := by
    unfold rul
    unfold barI at h ⊢
    by_cases c1 : lab T u a r = true
    · rw [if_pos c1, if_pos c1]
    · rw [if_neg c1] at h ⊢
      rw [if_neg c1]
      by_cases c2 : wal T u r = true
      · rw [if_pos c2, if_pos c2]
      · rw [if_neg c2] at h; exact absurd rfl h
  unfold dec dcd
  rw [e, if_neg (fun q => h q.1)]
  unfold barI
  by_cases c1 : lab T u a r = true
  · rw [if_pos c1]; decide
  · rw [if_neg c1]
    by_cases c2 : wal T u r = true
    · rw [if_pos c2]; decide
    · rw [if_neg c2]; decide
theorem mn_none {C : Nat → Bool} {sz : Nat → Nat} {n : Nat} (h : ∀ j, j < n → C j = false) : mnO C sz n = none := by
  cases c : mnO C sz n with
  | none => rfl
  | some b =>
    obtain ⟨⟨j, j1, j2, -⟩, -⟩ := mnO_c.1 b c
    rw [h j j1] at j2; cases j2
theorem mn_zero {C : Nat → Bool} {n : Nat} (h : C 0 = true) (hn : 1 ≤ n) : mnO C rSz n = some 0 := by
  have h0 : rSz 0 = 0 := by
    unfold rSz
    rw [cn_congr (P := bt (nI 0)) (R := fun _ => false) (fun k _ => b_0 k)]
    rfl
  cases c : mnO C rSz n with
  | none =>
    have := mnO_c.2 c 0 (by omega)
    rw [h] at this; cases this
  | some b =>
    have := (mnO_c.1 b c).2 0 (by omega) h
    rw [h0] at this
    rw [show b = 0 by omega]
end NF
theorem va_up_id (f : Nat → Int32) (k : Nat) : va_up f k (f k) = f := by
  funext j
  by_cases e : j = k
  · rw [e, va_up_self]
  · rw [va_up_ne _ _ e]
theorem q_rolesNeeded : ∀ (σ μ : gk_C) (o : Int64), jI σ μ → ∀ (a0 a1 a2 : Int32), w_L_rolesNeeded σ o a0 a1 a2 (fun k σ1 o1 => w_X9_rolesNeeded μ a0 a1 a2 (fun r μ1 => μ1.2 0 = k ∧ (k = 0 → o1 = r.toInt64) ∧ jI σ1 μ1)) := by
  intro σ μ o h a0 a1 a2
  have hw := h.1
  have hU := wf_U hw
  have hR := wf_R hw
  have hL := wf_L hw
  obtain ⟨hp1, hp2⟩ := pw2_le hR.2
  unfold w_L_rolesNeeded w_X8_rolesNeeded
  refine lb_ask (T := told σ) rfl hw (fun hv => ⟨rfl, ?_⟩) (fun hv => ?_)
  · unfold w_X9_rolesNeeded
    refine lm_ask (T := told σ) (μ := gk_s μ 0 0) h.2.1 hw ?_
    rw [hv]
    exact ⟨fun q => absurd rfl q, fun _ => q_no1 h⟩
  · obtain ⟨u, a, r, hu, ha, hr, rfl, rfl, rfl⟩ := vA_ex hw hv
    refine lb_now (v := 1) (by decide) h (fun σ1 H HG HS hI => ?_)
    have hns : rSplit ((told σ).1 5) (tR (told σ)) (hd (told σ) ((told σ).1 2 u)) = false := h.2.2.1.2.1 u hu
    have eok : okM (told σ) (σ.2 6) u a r ((told σ).1 2 u) = alw (dec no0 (told σ) (σ.2 6) ((told σ).1 2) u a r) := by
      unfold okM
      rw [hns, va_up_id]; rfl
    obtain ⟨V, hV⟩ : ∃ V : Int32, V = if barI (told σ) u a r = 0 then oI (mnO (Cm (told σ) (σ.2 6) u a r ((told σ).1 2 u)) rSz (2 ^ tR (told σ))) else -1 := ⟨_, rfl⟩
    have fin : ∀ σ2, jI σ2 μ → w_X9_rolesNeeded μ (nI u) (nI a) (nI r) (fun r μ1 => μ1.2 0 = 0 ∧ ((0 : Int32) = 0 → V.toInt64 = r.toInt64) ∧ jI σ2 μ1) := fun σ2 hI2 => by
      unfold w_X9_rolesNeeded
      refine lm_ask (T := told σ) (μ := gk_s μ 0 0) h.2.1 hw ?_
      rw [hv]
      refine ⟨fun _ => ?_, fun q => absurd q (by decide)⟩
      refine lm_barred (T := told σ) (μ := gk_s μ 0 0) h.2.1 hw hu ha hr ?_
      refine ⟨fun q => ?_, fun q => ?_⟩
      · rw [if_pos q] at hV
        refine lm_allNears (T := told σ) (μ := gk_s μ 0 0) h.2.1 hw (fun N hN => ?_)
        refine lm_needRows (T := told σ) (μ := gk_s μ 0 0) h.2.1 hw h.2.2.2.1 hN hu (fun x fA fB hx hA hB => ?_)
        refine lm_fitting (T := told σ) (μ := gk_s μ 0 0) (lo := no0) h.2.1 hw (lo_m1 hw h.2.2.2.1) hu ha hr ?_
        refine lm_needLoop (T := told σ) (μ := gk_s μ 0 0) h.2.1 hw hu hr q hx hA hB (fun k hk => by rw [mb_b _ (by omega) (by omega), decide_eq_true hk, Bool.true_and]) ?_
        rw [wgh_eq h, ← hV]
        exact ⟨rfl, fun _ => rfl, hI2⟩
      · rw [if_neg q] at hV
        rw [hV]
        exact ⟨rfl, fun _ => rfl, hI2⟩
    refine lb_isAllowed H (by decide) hw (Nat.le_refl _) hu ha hr ?_
    rw [HG]
    refine b2i_go _ (fun q => ?_) (fun q => ?_)
    · have q : alw (dec no0 (told σ) (σ.2 6) ((told σ).1 2) u a r) = false := q
      refine lb_useful H hw hu ha hr ?_
      rw [gk_at_in (show u < gk_rl 2 by show u < 12; omega), tr H.1 (show 2 < 26 by decide)]
      refine lb_needLoop H (fun _ => rfl) hw hu ha hr (fun σ2 hV2 => ?_)
      have e : oI (mnO (Cg (told σ) (σ.2 6) u a r ((told σ).1 2 u) ((if (lab (told σ) u a r || wal (told σ) u r) = true then 0 else usF (told σ) u a r) &&& ((told σ).1 2 u ^^^ (-1)))) rSz (2 ^ tR (told σ))) = V := by
        by_cases c : barI (told σ) u a r = 0
        · rw [if_pos c] at hV
          obtain ⟨c1, c2⟩ := bar_0 c
          rw [hV, c1, c2, if_neg (by decide), need_eq hw hu ha (eok.trans q)]
        · rw [if_neg c] at hV
          have c3 : (lab (told σ) u a r || wal (told σ) u r) = true := by
            cases c4 : (lab (told σ) u a r || wal (told σ) u r)
            · rw [Bool.or_eq_false_iff] at c4
              refine absurd ?_ c
              unfold barI
              rw [c4.1, c4.2]; rfl
            · rfl
          rw [hV, c3, if_pos rfl, mn_none (fun m hm => ?_)]
          · rfl
          · unfold Cg
            by_cases c4 : 1 ≤ m
            · rw [decide_eq_true c4, Bool.true_and]
              refine Bool.and_eq_false_imp.mpr (fun c5 => ?_)
              exfalso
              rw [decide_eq_true_eq, b_eq0] at c5
              have c6 : nI m = 0 := (b_eq0 _).mpr (fun i hi => by
                have c7 := c5 i hi
                rw [b_and, b_not _ hi, b_and, b_0, Bool.false_and, Bool.not_false, Bool.and_true] at c7
                exact c7)
              have c8 := (nI_eq (b := 0) (show m < 2 ^ 31 by omega) (by decide)).mp c6
              omega
            · rw [decide_eq_false c4]; rfl
      rw [e]
      exact fin σ2 (jI_sV hI (by decide) hV2)
    · have q : alw (dec no0 (told σ) (σ.2 6) ((told σ).1 2) u a r) = true := q
      have c : barI (told σ) u a r = 0 := Decidable.byContradiction fun c => by
        rw [bar_dec c] at q; cases q
      rw [if_pos c] at hV
      have hC : Cm (told σ) (σ.2 6) u a r ((told σ).1 2 u) 0 = true := by
        unfold Cm
        rw [show (told σ).1 2 u ||| nI 0 = (told σ).1 2 u from b_ext (fun i _ => by rw [b_or, show nI 0 = 0 from rfl, b_0, Bool.or_false]), eok, q, Bool.and_true, decide_eq_true_eq, b_eq0]
        intro i _
        rw [b_and, show nI 0 = 0 from rfl, b_0]; rfl
      rw [mn_zero hC hp1] at hV
      have h0 := fin σ1 hI
      rw [hV] at h0
      exact h0
