/-! ===== digest, openness, rolesNeeded ===== -/
section NB
variable {T : gk_C} {C : Nat → Int32}
theorem la_digest (hw : wf T) : ∃ D : Int64, ∀ (σ : gk_C) (Q : Int64 → gk_C → Prop), nT T C σ → (∀ σ1, nT T C σ1 → Q D σ1) → w_X8_digest σ Q := by
  refine ⟨?_, fun σ Q h hQ => ?_⟩
  rotate_left
  · unfold w_X8_digest
    refine la_look (by decide) h hw (fun σ1 H HG hT HS => ?_)
    unfold w_X8_withNumbers
    rw [ts H.1 (show 0 < 8 by decide), ts H.1 (show 1 < 8 by decide), ts H.1 (show 3 < 8 by decide), ts H.1 (show 4 < 8 by decide), ts H.1 (show 5 < 8 by decide), ts H.1 (show 7 < 8 by decide)]
    refine lb_withNear H.1 hw ?_
    refine lb_dg31 H.1 hw ?_
    refine lb_dg73 H.1 hw HG ?_
    refine lb_decs H hw HG ?_
    refine lb_whys H hw HG ?_
    refine lb_dg134 ?_
    rw [show (fun i => (σ1.1 38 i).toInt64) = fun i => (C i).toInt64 from funext (fun i => by rw [hT.2 i])]
    refine lb_withDone H.1 hw ?_
    refine lb_opposed H hw (fun σ2 S2 _ => ?_)
    exact hQ σ2 (nT_sV hT (by decide) S2)
theorem la_openness {σ : gk_C} (h : nT T C σ) (hw : wf T) (hpos : 0 < tU T * 5 * tT T) {Q : UInt64 → gk_C → Prop} (hQ : ∀ r σ1, nT T C σ1 → alike64 r (FP.ddiv (FP.i2d (nI (cn (opN T (T.2 6)) (tU T * 5 * tT T)))) (FP.i2d (nI (tU T * 5 * tT T)))) = true → Q r σ1) : w_X8_openness σ Q := by
  have hU := wf_U hw
  have hT := wf_T hw
  have h1440 := fl_1440 hw
  have hn : σ.2 0 * 5 * σ.2 3 = nI (tU T * 5 * tT T) := by
    rw [(ts h.1 (show 0 < 8 by decide)).trans hU.1, (ts h.1 (show 3 < 8 by decide)).trans hT.1, show nI (tU T) * 5 = nI (tU T * 5) from pk_mul (tU T) 5, pk_mul]
  unfold w_X8_openness
  rw [hn]
  refine ⟨fun q => ?_, fun q => absurd (nI_lt (a := 0) hpos (by omega)) q⟩
  refine la_look (by decide) h hw (fun σ1 H HG hT1 HS => ?_)
  have l := lpUp (A := Int32) (n := tU T) (W := fun f u z => wL_X8_openness_49 (fun σ x1 x2 => (∀ r101 : UInt64, alike64 r101 (FP.ddiv (FP.i2d x2) (FP.i2d x1)) = true → Q r101 σ)) f σ1 (nI (tU T * 5 * tT T)) z (nI u)) (J := fun u z => z = nI (cn (opN T (T.2 6)) ((u * 5 + 0) * tT T))) ?_ ?_ (tU T) 0 0 (Nat.zero_add _) (by rw [show (0 * 5 + 0) * tT T = 0 from Nat.zero_mul _]; rfl)
  · exact ⟨_, l⟩
  · intro f z hz
    unfold wL_X8_openness_49
    rw [(ts H.1 (show 0 < 8 by decide)).trans hU.1]
    refine ⟨fun _ => fun r101 ha => ?_, fun q => absurd (nI_le (Nat.le_refl _) (by omega)) q⟩
    rw [hz] at ha
    exact hQ r101 σ1 hT1 ha
  · intro f u z hu hz next
    unfold wL_X8_openness_49
    rw [(ts H.1 (show 0 < 8 by decide)).trans hU.1]
    refine ⟨fun q => absurd q (nI_ge hu (by omega)), fun _ => ?_⟩
    have l2 := lpUp (A := Int32) (n := 5) (W := fun f2 a z => wL_X8_openness_66 (fun y x1 x2 x3 => (wL_X8_openness_49 (fun σ x1 x2 => (∀ r101 : UInt64, alike64 r101 (FP.ddiv (FP.i2d x2) (FP.i2d x1)) = true → Q r101 σ)) f y x1 x2 (x3 + 1))) f2 σ1 (nI (tU T * 5 * tT T)) z (nI u) (nI a)) (J := fun a z => z = nI (cn (opN T (T.2 6)) ((u * 5 + a) * tT T))) ?_ ?_ 5 0 z (Nat.zero_add _) hz
    · exact ⟨_, l2⟩
    · intro f2 z hz
      unfold wL_X8_openness_66
      refine ⟨fun _ => ?_, fun q => absurd (by decide) q⟩
      show wL_X8_openness_49 _ f σ1 _ z (nI u + 1)
      rw [nI_1]
      exact next z (by rw [hz, fl_usr])
    · intro f2 a z ha hz next2
      unfold wL_X8_openness_66
      rw [nI_1 a]
      refine ⟨fun q => absurd q (nI_ge (b := 5) ha (by decide)), fun _ => ?_⟩
      refine lb_allowedTo H (by decide) hw (Nat.le_refl _) hu ha ?_
      rw [HG]
      refine next2 _ ?_
      show z + _ = nI (cn (opN T (T.2 6)) ((u * 5 + (a + 1)) * tT T))
      rw [hz, nI_add, ← fl_row, cn_split]
      congr 2
      refine cn_congr (fun r hr => ?_)
      show _ = alw (fl T (dec no0 T (T.2 6) (T.1 2)) ((u * 5 + a) * tT T + r))
      rw [fl_at _ ha hr]
      rfl
/-- how many roles more a user needs, as the gate counts them -/
def ndR (T : gk_C) (u a r : Nat) : Int32 := if alw (dc T u a r) = true then 0 else oI (mnO (Cg T (T.2 6) u a r (T.1 2 u)) (twS (T.1 2 u)) (16 * tR T))
theorem la_rolesNeeded {σ : gk_C} (h : nT T C σ) (hw : wf T) {u a r : Nat} (hu : u < tU T) (ha : a < 5) (hr : r < tT T) {Q : Int32 → gk_C → Prop} (hQ : ∀ σ1, nT T C σ1 → Q (ndR T u a r) σ1) : w_X8_rolesNeeded σ (nI u) (nI a) (nI r) Q := by
  have hU := (wf_U hw).2
  unfold ndR at hQ
  unfold w_X8_rolesNeeded
  refine la_ask h hw hu ha hr ?_
  refine la_look (by decide) h hw (fun σ1 H HG hT HS => ?_)
  refine lb_isAllowed H (by decide) hw (Nat.le_refl _) hu ha hr ?_
  rw [HG]
  refine b2i_go _ (fun q => ?_) (fun q => ?_)
  · have q : alw (dc T u a r) = false := q
    rw [if_neg (by rw [q]; decide)] at hQ
    rw [gk_at_in (show u < gk_rl 2 by show u < 12; omega), tr H.1 (show 2 < 26 by decide)]
    exact lb_needLoop H (fun s => rfl) hw hu ha hr (fun i hi hb => hw.2.1.1 u hu i hi hb) (fun σ2 S2 => hQ σ2 (nT_sV hT (by decide) S2))
  · have q : alw (dc T u a r) = true := q
    rw [if_pos q] at hQ
    exact hQ σ1 hT
end NB
