/-! ===== layer B: openness ===== -/
theorem nan_dec {r : UInt64} (h : isNaN64 r = true) : FP.Core.decode FP.Core.b64 r.toNat = FP.Core.Datum.nan := by
  rw [isNaN64_iff] at h
  have h2 : r.toNat &&& (2 ^ 63 - 1) = r.toNat % 2 ^ 63 := Nat.and_two_pow_sub_one_eq_mod _ 63
  rw [show (0x7fffffffffffffff : Nat) = 2 ^ 63 - 1 by decide, h2] at h
  have e1 : FP.Core.Fmt.tails FP.Core.b64 = 4503599627370496 := by decide
  have e2 : FP.Core.Fmt.exps FP.Core.b64 = 2048 := by decide
  unfold FP.Core.decode FP.Core.fieldE FP.Core.fieldT
  rw [e1, e2]
  generalize r.toNat = n at h ⊢
  rw [if_pos (show n / 4503599627370496 % 2048 = 2048 - 1 by omega), if_neg (show ¬ n % 4503599627370496 = 0 by omega)]
theorem nan_cmp {r s : UInt64} (h : isNaN64 r = true) : ¬ Op.cmpValue (FP.dcmp r s) .l = 0 := by
  have e : FP.dcmp r s = none := by
    show FP.Core.order (FP.Core.decode FP.Core.b64 r.toNat) (FP.Core.decode FP.Core.b64 s.toNat) = none
    rw [nan_dec h]
    rfl
  rw [e]
  decide
theorem alike_or {x y : UInt64} (h : alike64 x y = true) : x = y ∨ (isNaN64 x = true ∧ isNaN64 y = true) := by
  unfold alike64 at h
  rw [Bool.or_eq_true, decide_eq_true_eq, Bool.and_eq_true] at h
  exact h
theorem same_or (r : UInt64) : Op.cmpValue (FP.dcmp r r) .l = 0 ∨ (¬ Op.cmpValue (FP.dcmp r r) .l = 0 ∧ ¬ Op.cmpValue (FP.dcmp r r) .l = 0) := by
  by_cases c : Op.cmpValue (FP.dcmp r r) .l = 0
  · exact Or.inl c
  · exact Or.inr ⟨c, c⟩
theorem alike_end {r r1 v : UInt64} (h : alike64 r v = true) (h1 : alike64 r1 v = true) : Op.cmpValue (FP.dcmp r r1) .l = 0 ∨ (¬ Op.cmpValue (FP.dcmp r r) .l = 0 ∧ ¬ Op.cmpValue (FP.dcmp r1 r1) .l = 0) := by
  rcases alike_or h with e | ⟨n1, n2⟩
  · rcases alike_or h1 with e1 | ⟨m1, m2⟩
    · rw [e, e1]; exact same_or v
    · rw [e]; exact Or.inr ⟨nan_cmp m2, nan_cmp m1⟩
  · rcases alike_or h1 with e1 | ⟨m1, -⟩
    · rw [e1]; exact Or.inr ⟨nan_cmp n1, nan_cmp n2⟩
    · exact Or.inr ⟨nan_cmp n1, nan_cmp m1⟩
theorem cn_split (P : Nat → Bool) (n m : Nat) : cn P (n + m) = cn P n + cn (fun r => P (n + r)) m := by
  induction m with
  | zero => rfl
  | succ m ih =>
    rw [← Nat.add_assoc, cn, cn, ih]
    by_cases c : P (n + m) = true
    · rw [if_pos c, if_pos c, Nat.add_assoc]
    · rw [if_neg c, if_neg c]
def opN (T : gk_C) (wgh : Int32) (j : Nat) : Bool := alw (fl T (dec no0 T wgh (T.1 2)) j)
theorem q_openness : ∀ (σ μ : gk_C), jI σ μ → w_X8_openness σ (fun r σ1 => w_X9_openness μ (fun r1 μ1 => (Op.cmpValue (FP.dcmp r r1) .l = 0 ∨ (¬ Op.cmpValue (FP.dcmp r r) .l = 0 ∧ ¬ Op.cmpValue (FP.dcmp r1 r1) .l = 0)) ∧ jI σ1 μ1)) := by
  intro σ μ h
  have hw := h.1
  have hU := wf_U hw
  have hT := wf_T hw
  have h1440 := fl_1440 hw
  have hn : σ.2 0 * 5 * σ.2 3 = nI (tU (told σ) * 5 * tT (told σ)) := by
    rw [show σ.2 0 = nI (tU (told σ)) from hU.1, show σ.2 3 = nI (tT (told σ)) from hT.1, show nI (tU (told σ)) * 5 = nI (tU (told σ) * 5) from pk_mul (tU (told σ)) 5, pk_mul]
  -- the reference, whatever the gate has answered
  have model : ∀ (r : UInt64) (σ1 : gk_C), jI σ1 μ → (¬ tU (told σ) * 5 * tT (told σ) = 0 → alike64 r (FP.ddiv (FP.i2d (nI (cn (opN (told σ) (σ.2 6)) (tU (told σ) * 5 * tT (told σ))))) (FP.i2d (nI (tU (told σ) * 5 * tT (told σ))))) = true) → (tU (told σ) * 5 * tT (told σ) = 0 → r = FP.dconst0) → w_X9_openness μ (fun r1 μ1 => (Op.cmpValue (FP.dcmp r r1) .l = 0 ∨ (¬ Op.cmpValue (FP.dcmp r r) .l = 0 ∧ ¬ Op.cmpValue (FP.dcmp r1 r1) .l = 0)) ∧ jI σ1 μ1) := by
    intro r σ1 hI h1 h2
    unfold w_X9_openness
    refine lm_allNears (T := told σ) (μ := gk_s μ 0 0) h.2.1 hw (fun N hN => ?_)
    rw [wgh_eq h]
    refine lm_table (T := told σ) (μ := gk_s μ 0 0) h.2.1 hw (lo_m1 hw h.2.2.2.1) hN (fun f1 hf1 => ?_)
    generalize hne : tU (told σ) * 5 * tT (told σ) = n at h1440 h1 h2 hf1 ⊢
    have l := lpUp (A := Int32) (n := n) (W := fun f j z => wL_X9_openness_29 (fun σ x2 fc14 nc14 => (((¬ (nI nc14) = 0) → (∀ r78 : UInt64, alike64 r78 (FP.ddiv (FP.i2d x2) (FP.i2d (nI nc14))) = true → (Op.cmpValue (FP.dcmp r r78) .l = 0 ∨ (¬ Op.cmpValue (FP.dcmp r r) .l = 0 ∧ ¬ Op.cmpValue (FP.dcmp r78 r78) .l = 0)) ∧ jI σ1 σ)) ∧ (((nI nc14) = 0) → ((Op.cmpValue (FP.dcmp r FP.dconst0) .l = 0 ∨ (¬ Op.cmpValue (FP.dcmp r r) .l = 0 ∧ ¬ Op.cmpValue (FP.dcmp FP.dconst0 FP.dconst0) .l = 0)) ∧ jI σ1 σ)))) f (gk_s μ 0 0) z (nI n) (nI j) f1 n) (J := fun j z => z = nI (cn (opN (told σ) (σ.2 6)) j)) ?_ ?_ n 0 0 (Nat.zero_add _) rfl
    · exact ⟨_, l⟩
    · intro f z hz
      unfold wL_X9_openness_29
      refine ⟨fun _ => ⟨fun q r78 ha => ⟨?_, hI⟩, fun q => ⟨?_, hI⟩⟩, fun q => absurd (nI_le (Nat.le_refl _) (by omega)) q⟩
      · rw [hz] at ha
        exact alike_end (h1 (fun e => q (by rw [e]; rfl))) ha
      · rw [h2 ((nI_eq (b := 0) (by omega) (by decide)).mp q)]
        exact same_or _
    · intro f j z hj hz next
      unfold wL_X9_openness_29
      rw [nI_clamp (show j < 2 ^ 31 by omega), hf1 j hj]
      refine ⟨fun q => absurd q (nI_ge hj (by omega)), fun _ => ⟨vp_in_nI hj (by omega), ?_⟩⟩
      refine lm_isAllowed ?_
      unfold wJ_X9_openness_56
      refine b2i_go _ (fun q => ?_) (fun q => ?_)
      · rw [nI_1 j, Int32.add_zero]
        exact next z (by rw [hz, cn_f (P := opN (told σ) (σ.2 6)) q])
      · rw [nI_1 j]
        exact next _ (by rw [hz, cn_t (P := opN (told σ) (σ.2 6)) q, nI_1])
  unfold w_X8_openness
  rw [hn]
  refine ⟨fun q => ?_, fun q => ?_⟩
  · have hpos : 0 < tU (told σ) * 5 * tT (told σ) := by
      rcases Nat.eq_zero_or_pos (tU (told σ) * 5 * tT (told σ)) with e | e
      · rw [e] at q; exact absurd q (by decide)
      · exact e
    refine lb_now (v := 0) (by decide) h (fun σ1 H HG HS hI => ?_)
    have l := lpUp (A := Int32) (n := tU (told σ)) (W := fun f u z => wL_X8_openness_49 (fun σ x1 x2 => (∀ r101 : UInt64, alike64 r101 (FP.ddiv (FP.i2d x2) (FP.i2d x1)) = true → w_X9_openness μ (fun r1 μ1 => (Op.cmpValue (FP.dcmp r101 r1) .l = 0 ∨ (¬ Op.cmpValue (FP.dcmp r101 r101) .l = 0 ∧ ¬ Op.cmpValue (FP.dcmp r1 r1) .l = 0)) ∧ jI σ μ1))) f σ1 (nI (tU (told σ) * 5 * tT (told σ))) z (nI u)) (J := fun u z => z = nI (cn (opN (told σ) (σ.2 6)) ((u * 5 + 0) * tT (told σ)))) ?_ ?_ (tU (told σ)) 0 0 (Nat.zero_add _) (by rw [Nat.zero_mul]; rfl)
    · exact ⟨_, l⟩
    · intro f z hz
      unfold wL_X8_openness_49
      rw [(ts H.1 (show 0 < 8 by decide)).trans hU.1]
      refine ⟨fun _ => fun r101 ha => ?_, fun q => absurd (nI_le (Nat.le_refl _) (by omega)) q⟩
      rw [hz] at ha
      exact model r101 σ1 hI (fun _ => ha) (fun e => by omega)
    · intro f u z hu hz next
      unfold wL_X8_openness_49
      rw [(ts H.1 (show 0 < 8 by decide)).trans hU.1]
      refine ⟨fun q => absurd q (nI_ge hu (by omega)), fun _ => ?_⟩
      have l2 := lpUp (A := Int32) (n := 5) (W := fun f2 a z => wL_X8_openness_66 (fun y x1 x2 x3 => (wL_X8_openness_49 (fun σ x1 x2 => (∀ r101 : UInt64, alike64 r101 (FP.ddiv (FP.i2d x2) (FP.i2d x1)) = true → w_X9_openness μ (fun r1 μ1 => (Op.cmpValue (FP.dcmp r101 r1) .l = 0 ∨ (¬ Op.cmpValue (FP.dcmp r101 r101) .l = 0 ∧ ¬ Op.cmpValue (FP.dcmp r1 r1) .l = 0)) ∧ jI σ μ1))) f y x1 x2 (x3 + 1))) f2 σ1 (nI (tU (told σ) * 5 * tT (told σ))) z (nI u) (nI a)) (J := fun a z => z = nI (cn (opN (told σ) (σ.2 6)) ((u * 5 + a) * tT (told σ)))) ?_ ?_ 5 0 z (Nat.zero_add _) hz
      · exact ⟨_, l2⟩
      · intro f2 z hz
        unfold wL_X8_openness_66
        refine ⟨fun _ => ?_, fun q => absurd (by decide) q⟩
        show wL_X8_openness_49 _ f σ1 _ z (nI u + 1)
        rw [nI_1]
        exact next z (by rw [hz, fl_usr])
      · intro f2 a z ha hz next2
        unfold wL_X8_openness_66
        rw [nI_1 a]
        refine ⟨fun q => absurd q (nI_ge (b := 5) ha (by decide)), fun _ => ?_⟩
        refine lb_allowedTo H (by decide) hw (Nat.le_refl _) hu ha ?_
        rw [HG]
        refine next2 _ ?_
        show z + _ = nI (cn (opN (told σ) (σ.2 6)) ((u * 5 + (a + 1)) * tT (told σ)))
        rw [hz, nI_add, ← fl_row, cn_split]
        congr 2
        refine cn_congr (fun r hr => ?_)
        show _ = alw (fl (told σ) (dec no0 (told σ) (σ.2 6) ((told σ).1 2)) ((u * 5 + a) * tT (told σ) + r))
        rw [fl_at _ ha hr]
        rfl
  · refine model FP.dconst0 σ h (fun e => ?_) (fun _ => rfl)
    exact absurd (nI_lt (a := 0) (by omega) (by omega)) q
