/-! ===== layer B: the checksum ===== -/
def dg (F : Nat → Int64) : Nat → Int64 → Int64
  | 0, s => s
  | n + 1, s => dg F n s * 31 + F n
def dg2 (F : Nat → Nat → Int64) (m : Nat) : Nat → Int64 → Int64
  | 0, s => s
  | n + 1, s => dg (F n) m (dg2 F m n s)
theorem dg_congr {F G : Nat → Int64} {n : Nat} {s : Int64} (h : ∀ k, k < n → F k = G k) : dg F n s = dg G n s := by
  induction n with
  | zero => rfl
  | succ n ih => rw [dg, dg, ih (fun k hk => h k (by omega)), h n (by omega)]
def nrV (T : gk_C) (u r : Nat) : Int64 := (rNearI (-1) (rNear (T.1 4) (tR T) (T.1 2 u) r)).toInt64
def dnV (T : gk_C) (u r : Nat) : Int64 := (T.1 3 (u * 24 + r)).toInt64
def dcV (T : gk_C) (wgh : Int32) (j : Nat) : Int64 := (fl T (dec no0 T wgh (T.1 2)) j).toInt64
def whV (T : gk_C) (wgh : Int32) (j : Nat) : Int64 := (fl T (why no0 T wgh (T.1 2)) j).toInt64
def gdV (T : gk_C) (wgh : Int32) (g : Nat) : Int64 := (b2i (bt (gd no0 T wgh (T.1 2)) g)).toInt64
section DG
variable {T σ : gk_C} {wgh : Int32}
theorem lb_withNear (h : told σ = T) (hw : wf T) {s : Int64} {Q : Int64 → Prop} (hQ : Q (dg2 (nrV T) (tR T) (tU T) s)) : w_X8_withNear σ s Q := by
  have hU := wf_U hw
  have hR := wf_R hw
  unfold w_X8_withNear
  have l := lpUp (A := Int64) (n := tU T) (W := fun f u z => wL_X8_withNear_5 σ Q f z (nI u)) (J := fun u z => z = dg2 (nrV T) (tR T) u s) ?_ ?_ (tU T) 0 s (Nat.zero_add _) rfl
  · exact ⟨_, l⟩
  · intro f z hz
    unfold wL_X8_withNear_5
    rw [(ts h (show 0 < 8 by decide)).trans hU.1]
    exact ⟨fun _ => by rw [hz]; exact hQ, fun q => absurd (nI_le (Nat.le_refl _) (by omega)) q⟩
  · intro f u z hu hz next
    unfold wL_X8_withNear_5
    rw [(ts h (show 0 < 8 by decide)).trans hU.1]
    refine ⟨fun q => absurd q (nI_ge hu (by omega)), fun _ => ?_⟩
    have l2 := lpUp (A := Int64) (n := tR T) (W := fun f2 r z => wL_X8_withNear_23 σ (fun x3 x5 => (wL_X8_withNear_5 σ Q f x3 (x5 + 1))) f2 z (nI u) (nI r)) (J := fun r z => z = dg (nrV T u) r (dg2 (nrV T) (tR T) u s)) ?_ ?_ (tR T) 0 z (Nat.zero_add _) hz
    · exact ⟨_, l2⟩
    · intro f2 z hz
      unfold wL_X8_withNear_23
      rw [(ts h (show 1 < 8 by decide)).trans hR.1]
      refine ⟨fun _ => ?_, fun q => absurd (nI_le (Nat.le_refl _) (by omega)) q⟩
      show wL_X8_withNear_5 σ Q f z (nI u + 1)
      rw [nI_1]
      exact next z hz
    · intro f2 r z hr hz next2
      unfold wL_X8_withNear_23
      rw [(ts h (show 1 < 8 by decide)).trans hR.1, nI_1 r, gk_at_in (show u < gk_rl 2 by show u < 12; omega), tr h (show 2 < 26 by decide)]
      refine ⟨fun q => absurd q (nI_ge hr (by omega)), fun _ => ?_⟩
      refine lb_nearBy (σ := σ) (nR := tR T) (r := r) ((ts h (by decide)).trans hR.1) hR.2 (by omega) ?_
      rw [tr h (show 4 < 26 by decide)]
      exact next2 _ (by rw [hz]; rfl)
theorem lb_farUp (h : told σ = T) {r a : Nat} (hr : r < 24) (ha : a < 24) {Q : Int32 → Prop} (hQ : Q (farI T r a)) : w_X5_farUp σ (nI r) (nI a) Q := by
  unfold w_X5_farUp
  refine lb_beneath h hr ha ?_
  rw [gk_at_in (show r < gk_rl 6 from hr), gk_at_in (show a < gk_rl 6 from ha), tr h (show 6 < 26 by decide)]
  unfold farI at hQ
  refine b2i_go _ (fun q => ?_) (fun q => ?_)
  · rw [if_neg (by rw [q]; decide)] at hQ; exact hQ
  · rw [if_pos q] at hQ; exact hQ
theorem lb_dg31 (h : told σ = T) (hw : wf T) {s : Int64} {k : gk_C → Int64 → Prop} (hQ : k σ (dg (fun r => (farI T r 0).toInt64) (tT T) s)) : ∃ n31, wL_X8_digest_31 k n31 σ s 0 := by
  have hT := wf_T hw
  have l := lpUp (A := Int64) (n := tT T) (W := fun f r z => wL_X8_digest_31 k f σ z (nI r)) (J := fun r z => z = dg (fun r => (farI T r 0).toInt64) r s) ?_ ?_ (tT T) 0 s (Nat.zero_add _) rfl
  · exact ⟨_, l⟩
  · intro f z hz
    unfold wL_X8_digest_31
    rw [(ts h (show 3 < 8 by decide)).trans hT.1]
    exact ⟨fun _ => by rw [hz]; exact hQ, fun q => absurd (nI_le (Nat.le_refl _) (by omega)) q⟩
  · intro f r z hr hz next
    unfold wL_X8_digest_31
    rw [(ts h (show 3 < 8 by decide)).trans hT.1, nI_1 r]
    refine ⟨fun q => absurd q (nI_ge hr (by omega)), fun _ => ?_⟩
    exact lb_farUp (a := 0) h (by omega) (by decide) (next _ (by rw [hz]; rfl))
theorem lb_dg73 (h : told σ = T) (hw : wf T) (hG : σ.2 (11 + 4 * 0) = gd no0 T wgh (T.1 2)) {s : Int64} {k : gk_C → Int64 → Prop} (hQ : k σ (dg (gdV T wgh) (tG T) s)) : ∃ n73, wL_X8_digest_73 k n73 σ s 0 := by
  have hGr := wf_G hw
  have l := lpUp (A := Int64) (n := tG T) (W := fun f r z => wL_X8_digest_73 k f σ z (nI r)) (J := fun r z => z = dg (gdV T wgh) r s) ?_ ?_ (tG T) 0 s (Nat.zero_add _) rfl
  · exact ⟨_, l⟩
  · intro f z hz
    unfold wL_X8_digest_73
    rw [(ts h (show 5 < 8 by decide)).trans hGr.1]
    exact ⟨fun _ => by rw [hz]; exact hQ, fun q => absurd (nI_le (Nat.le_refl _) (by omega)) q⟩
  · intro f r z hr hz next
    unfold wL_X8_digest_73
    rw [(ts h (show 5 < 8 by decide)).trans hGr.1, hG, lb_isIn _ (show r < 32 by omega)]
    refine ⟨fun q => absurd q (nI_ge hr (by omega)), fun _ => ?_⟩
    have go2 : ∀ b : Bool, b = bt (gd no0 T wgh (T.1 2)) r → wJ_X8_digest_111 (fun σ x1 x3 => wL_X8_digest_73 k f σ x1 x3) σ (nI r) (z * 31) (b2i b) := fun b hb => by
      unfold wJ_X8_digest_111
      rw [nI_1 r]
      exact next _ (by rw [hz, hb]; rfl)
    exact b2i_go _ (fun q => go2 false q.symm) (fun q => go2 true q.symm)
theorem lb_decs (H : vw 0 no0 T wgh (T.1 2) (tU T) σ) (hw : wf T) (hG : σ.2 (11 + 4 * 0) = gd no0 T wgh (T.1 2)) {s : Int64} {Q : Int64 → gk_C → Prop} (hQ : Q (dg (dcV T wgh) (tU T * 5 * tT T) s) σ) : w_X8_withDecisions σ s Q := by
  have hU := wf_U hw
  have hT := wf_T hw
  unfold w_X8_withDecisions
  have l := lpUp (A := Int64) (n := tU T) (W := fun f u z => wL_X8_withDecisions_5 Q f σ z (nI u)) (J := fun u z => z = dg (dcV T wgh) ((u * 5 + 0) * tT T) s) ?_ ?_ (tU T) 0 s (Nat.zero_add _) (by rw [Nat.zero_mul]; rfl)
  · exact ⟨_, l⟩
  · intro f z hz
    unfold wL_X8_withDecisions_5
    rw [(ts H.1 (show 0 < 8 by decide)).trans hU.1]
    exact ⟨fun _ => by rw [hz]; exact hQ, fun q => absurd (nI_le (Nat.le_refl _) (by omega)) q⟩
  · intro f u z hu hz next
    unfold wL_X8_withDecisions_5
    rw [(ts H.1 (show 0 < 8 by decide)).trans hU.1]
    refine ⟨fun q => absurd q (nI_ge hu (by omega)), fun _ => ?_⟩
    have l2 := lpUp (A := Int64) (n := 5) (W := fun f2 a z => wL_X8_withDecisions_23 (fun σ x3 x5 => (wL_X8_withDecisions_5 Q f σ x3 (x5 + 1))) f2 σ z (nI u) (nI a)) (J := fun a z => z = dg (dcV T wgh) ((u * 5 + a) * tT T) s) ?_ ?_ 5 0 z (Nat.zero_add _) hz
    · exact ⟨_, l2⟩
    · intro f2 z hz
      unfold wL_X8_withDecisions_23
      refine ⟨fun _ => ?_, fun q => absurd (by decide) q⟩
      show wL_X8_withDecisions_5 Q f σ z (nI u + 1)
      rw [nI_1]
      exact next z (by rw [hz, fl_usr])
    · intro f2 a z ha hz next2
      unfold wL_X8_withDecisions_23
      refine ⟨fun q => absurd q (nI_ge (b := 5) ha (by decide)), fun _ => ?_⟩
      have l3 := lpUp (A := Int64) (n := tT T) (W := fun f3 r z => wL_X8_withDecisions_32 (fun σ x3 x5 x6 => (wL_X8_withDecisions_23 (fun σ x3 x5 => (wL_X8_withDecisions_5 Q f σ x3 (x5 + 1))) f2 σ x3 x5 (x6 + 1))) f3 σ z (nI u) (nI a) (nI r)) (J := fun r z => z = dg (dcV T wgh) ((u * 5 + a) * tT T + r) s) ?_ ?_ (tT T) 0 z (Nat.zero_add _) hz
      · exact ⟨_, l3⟩
      · intro f3 z hz
        unfold wL_X8_withDecisions_32
        rw [(ts H.1 (show 3 < 8 by decide)).trans hT.1]
        refine ⟨fun _ => ?_, fun q => absurd (nI_le (Nat.le_refl _) (by omega)) q⟩
        show wL_X8_withDecisions_23 _ f2 σ z (nI u) (nI a + 1)
        rw [nI_1]
        exact next2 z (by rw [hz, fl_row])
      · intro f3 r z hr hz next3
        unfold wL_X8_withDecisions_32
        rw [(ts H.1 (show 3 < 8 by decide)).trans hT.1, nI_1 r]
        refine ⟨fun q => absurd q (nI_ge hr (by omega)), fun _ => ?_⟩
        refine lb_decided H (by decide) hw (Nat.le_refl _) hu ha hr ?_
        rw [hG]
        refine next3 _ ?_
        show _ = dg (dcV T wgh) ((u * 5 + a) * tT T + r) s * 31 + dcV T wgh ((u * 5 + a) * tT T + r)
        unfold dcV
        rw [hz, fl_at _ ha hr]
        rfl
theorem lb_whys (H : vw 0 no0 T wgh (T.1 2) (tU T) σ) (hw : wf T) (hG : σ.2 (11 + 4 * 0) = gd no0 T wgh (T.1 2)) {s : Int64} {Q : Int64 → gk_C → Prop} (hQ : Q (dg (whV T wgh) (tU T * 5 * tT T) s) σ) : w_X8_withReasons σ s Q := by
  have hU := wf_U hw
  have hT := wf_T hw
  unfold w_X8_withReasons
  have l := lpUp (A := Int64) (n := tU T) (W := fun f u z => wL_X8_withReasons_5 Q f σ z (nI u)) (J := fun u z => z = dg (whV T wgh) ((u * 5 + 0) * tT T) s) ?_ ?_ (tU T) 0 s (Nat.zero_add _) (by rw [Nat.zero_mul]; rfl)
  · exact ⟨_, l⟩
  · intro f z hz
    unfold wL_X8_withReasons_5
    rw [(ts H.1 (show 0 < 8 by decide)).trans hU.1]
    exact ⟨fun _ => by rw [hz]; exact hQ, fun q => absurd (nI_le (Nat.le_refl _) (by omega)) q⟩
  · intro f u z hu hz next
    unfold wL_X8_withReasons_5
    rw [(ts H.1 (show 0 < 8 by decide)).trans hU.1]
    refine ⟨fun q => absurd q (nI_ge hu (by omega)), fun _ => ?_⟩
    have l2 := lpUp (A := Int64) (n := 5) (W := fun f2 a z => wL_X8_withReasons_23 (fun σ x3 x5 => (wL_X8_withReasons_5 Q f σ x3 (x5 + 1))) f2 σ z (nI u) (nI a)) (J := fun a z => z = dg (whV T wgh) ((u * 5 + a) * tT T) s) ?_ ?_ 5 0 z (Nat.zero_add _) hz
    · exact ⟨_, l2⟩
    · intro f2 z hz
      unfold wL_X8_withReasons_23
      refine ⟨fun _ => ?_, fun q => absurd (by decide) q⟩
      show wL_X8_withReasons_5 Q f σ z (nI u + 1)
      rw [nI_1]
      exact next z (by rw [hz, fl_usr])
    · intro f2 a z ha hz next2
      unfold wL_X8_withReasons_23
      refine ⟨fun q => absurd q (nI_ge (b := 5) ha (by decide)), fun _ => ?_⟩
      have l3 := lpUp (A := Int64) (n := tT T) (W := fun f3 r z => wL_X8_withReasons_32 (fun σ x3 x5 x6 => (wL_X8_withReasons_23 (fun σ x3 x5 => (wL_X8_withReasons_5 Q f σ x3 (x5 + 1))) f2 σ x3 x5 (x6 + 1))) f3 σ z (nI u) (nI a) (nI r)) (J := fun r z => z = dg (whV T wgh) ((u * 5 + a) * tT T + r) s) ?_ ?_ (tT T) 0 z (Nat.zero_add _) hz
      · exact ⟨_, l3⟩
      · intro f3 z hz
        unfold wL_X8_withReasons_32
        rw [(ts H.1 (show 3 < 8 by decide)).trans hT.1]
        refine ⟨fun _ => ?_, fun q => absurd (nI_le (Nat.le_refl _) (by omega)) q⟩
        show wL_X8_withReasons_23 _ f2 σ z (nI u) (nI a + 1)
        rw [nI_1]
        exact next2 z (by rw [hz, fl_row])
      · intro f3 r z hr hz next3
        unfold wL_X8_withReasons_32
        rw [(ts H.1 (show 3 < 8 by decide)).trans hT.1, nI_1 r]
        refine ⟨fun q => absurd q (nI_ge hr (by omega)), fun _ => ?_⟩
        refine lb_reason H (by decide) hw (Nat.le_refl _) hu ha hr hG ?_
        refine next3 _ ?_
        show _ = dg (whV T wgh) ((u * 5 + a) * tT T + r) s * 31 + whV T wgh ((u * 5 + a) * tT T + r)
        unfold whV
        rw [hz, fl_at _ ha hr]
        rfl
theorem lb_dg134 {s : Int64} {k : gk_C → Int64 → Prop} (hQ : k σ (dg (fun i => (σ.1 38 i).toInt64) 6 s)) : ∃ n134, wL_X8_digest_134 k n134 σ s 0 := by
  have l := lpUp (A := Int64) (n := 6) (W := fun f r z => wL_X8_digest_134 k f σ z (nI r)) (J := fun r z => z = dg (fun i => (σ.1 38 i).toInt64) r s) ?_ ?_ 6 0 s (Nat.zero_add _) rfl
  · exact ⟨_, l⟩
  · intro f z hz
    unfold wL_X8_digest_134
    exact ⟨fun _ => by rw [hz]; exact hQ, fun q => absurd (by decide) q⟩
  · intro f r z hr hz next
    unfold wL_X8_digest_134
    rw [nI_1 r, gk_at_in (show r < gk_rl 38 from hr)]
    exact ⟨fun q => absurd q (nI_ge (b := 6) hr (by decide)), fun _ => next _ (by rw [hz]; rfl)⟩
theorem lb_withDone (h : told σ = T) (hw : wf T) {s : Int64} {Q : Int64 → Prop} (hQ : Q (dg2 (dnV T) (tT T) (tU T) s)) : w_X8_withDone σ s Q := by
  have hU := wf_U hw
  have hT := wf_T hw
  unfold w_X8_withDone
  have l := lpUp (A := Int64) (n := tU T) (W := fun f u z => wL_X8_withDone_5 σ Q f z (nI u)) (J := fun u z => z = dg2 (dnV T) (tT T) u s) ?_ ?_ (tU T) 0 s (Nat.zero_add _) rfl
  · exact ⟨_, l⟩
  · intro f z hz
    unfold wL_X8_withDone_5
    rw [(ts h (show 0 < 8 by decide)).trans hU.1]
    exact ⟨fun _ => by rw [hz]; exact hQ, fun q => absurd (nI_le (Nat.le_refl _) (by omega)) q⟩
  · intro f u z hu hz next
    unfold wL_X8_withDone_5
    rw [(ts h (show 0 < 8 by decide)).trans hU.1]
    refine ⟨fun q => absurd q (nI_ge hu (by omega)), fun _ => ?_⟩
    have l2 := lpUp (A := Int64) (n := tT T) (W := fun f2 r z => wL_X8_withDone_23 σ (fun x3 x5 => (wL_X8_withDone_5 σ Q f x3 (x5 + 1))) f2 z (nI u) (nI r)) (J := fun r z => z = dg (dnV T u) r (dg2 (dnV T) (tT T) u s)) ?_ ?_ (tT T) 0 z (Nat.zero_add _) hz
    · exact ⟨_, l2⟩
    · intro f2 z hz
      unfold wL_X8_withDone_23
      rw [(ts h (show 3 < 8 by decide)).trans hT.1]
      refine ⟨fun _ => ?_, fun q => absurd (nI_le (Nat.le_refl _) (by omega)) q⟩
      show wL_X8_withDone_5 σ Q f z (nI u + 1)
      rw [nI_1]
      exact next z hz
    · intro f2 r z hr hz next2
      unfold wL_X8_withDone_23 w_X6_doneOn
      rw [(ts h (show 3 < 8 by decide)).trans hT.1, nI_1 r, show nI u * 24 + nI r = nI (u * 24 + r) from nI_ma u r 24, gk_at_in (show u * 24 + r < gk_rl 3 by show u * 24 + r < 288; omega), tr h (show 3 < 26 by decide)]
      exact ⟨fun q => absurd q (nI_ge hr (by omega)), fun _ => next2 _ (by rw [hz]; rfl)⟩
end DG
section DM
variable {T μ : gk_C} {wgh : Int32} {N : Nat → Option (Nat → Int32)}
theorem lm_dg86 (hM : jM T μ) (hw : wf T) (hN : isNN T (T.1 2) N) {s : Int64} {G : Int32} {k : gk_C → Int64 → Int32 → (Nat → Option (Nat → Int32)) → Prop} (hQ : k μ (dg2 (nrV T) (tR T) (tU T) s) G N) : ∃ n86, wL_X9_digest_86 k n86 μ s G 0 N := by
  have hU := wf_U hw
  have hR := wf_R hw
  have hnU : μ.2 3 = nI (tU T) := hM.1.1.trans hU.1
  have hnR : μ.2 7 = nI (tR T) := hM.1.2.1.trans hR.1
  have l := lpUp (A := Int64) (n := tU T) (W := fun f u z => wL_X9_digest_86 k f μ z G (nI u) N) (J := fun u z => z = dg2 (nrV T) (tR T) u s) ?_ ?_ (tU T) 0 s (Nat.zero_add _) rfl
  · exact ⟨_, l⟩
  · intro f z hz
    unfold wL_X9_digest_86
    rw [hnU]
    exact ⟨fun _ => by rw [hz]; exact hQ, fun q => absurd (nI_le (Nat.le_refl _) (by omega)) q⟩
  · intro f u z hu hz next
    unfold wL_X9_digest_86
    rw [hnU]
    refine ⟨fun q => absurd q (nI_ge hu (by omega)), fun _ => ?_⟩
    obtain ⟨fe, hfe, hisN⟩ := hN u hu
    have l2 := lpUp (A := Int64) (n := tR T) (W := fun f2 r z => wL_X9_digest_98 (fun σ x1 x4 x5 Nc68 => (wL_X9_digest_86 k f σ x1 x4 (x5 + 1) Nc68)) f2 μ z G (nI u) (nI r) N) (J := fun r z => z = dg (nrV T u) r (dg2 (nrV T) (tR T) u s)) ?_ ?_ (tR T) 0 z (Nat.zero_add _) hz
    · exact ⟨_, l2⟩
    · intro f2 z hz
      unfold wL_X9_digest_98
      rw [hnR]
      refine ⟨fun _ => ?_, fun q => absurd (nI_le (Nat.le_refl _) (by omega)) q⟩
      show wL_X9_digest_86 k f μ z G (nI u + 1) N
      rw [nI_1]
      exact next z hz
    · intro f2 r z hr hz next2
      unfold wL_X9_digest_98
      rw [hnR, nI_1 r, nI_clamp (show u < 2 ^ 31 by omega), nI_clamp (show r < 2 ^ 31 by omega)]
      refine ⟨fun q => absurd q (nI_ge hr (by omega)), fun _ => ⟨vp_in' (by omega) (by decide), fe, hfe, vp_in' (by omega) (by decide), ?_⟩⟩
      rw [hisN r (by omega)]
      exact orN (fun k hk => rNear_lt hk) (next2 _ (by rw [hz]; rfl))
theorem lm_dg140 (hM : jM T μ) (hw : wf T) {s : Int64} {G : Int32} {k : gk_C → Int64 → Int32 → (Nat → Option (Nat → Int32)) → Prop} (hQ : k μ (dg (fun r => (farI T r 0).toInt64) (tT T) s) G N) : ∃ n140, wL_X9_digest_140 k n140 μ s G 0 N := by
  have hT := wf_T hw
  have hnT : μ.2 11 = nI (tT T) := hM.1.2.2.2.1.trans hT.1
  have l := lpUp (A := Int64) (n := tT T) (W := fun f r z => wL_X9_digest_140 k f μ z G (nI r) N) (J := fun r z => z = dg (fun r => (farI T r 0).toInt64) r s) ?_ ?_ (tT T) 0 s (Nat.zero_add _) rfl
  · exact ⟨_, l⟩
  · intro f z hz
    unfold wL_X9_digest_140
    rw [hnT]
    exact ⟨fun _ => by rw [hz]; exact hQ, fun q => absurd (nI_le (Nat.le_refl _) (by omega)) q⟩
  · intro f r z hr hz next
    unfold wL_X9_digest_140
    rw [hnT, nI_1 r]
    refine ⟨fun q => absurd q (nI_ge hr (by omega)), fun _ => ?_⟩
    exact lm_farNow (a := 0) hM hw hr (by omega) (next _ (by rw [hz]; rfl))
theorem lm_dg173 (hM : jM T μ) (hw : wf T) {s : Int64} {k : gk_C → Int64 → Int32 → (Nat → Option (Nat → Int32)) → Prop} (hQ : k μ (dg (gdV T wgh) (tG T) s) (gd no0 T wgh (T.1 2)) N) : ∃ n173, wL_X9_digest_173 k n173 μ s (gd no0 T wgh (T.1 2)) 0 N := by
  have hG := wf_G hw
  have hn : μ.2 26 = nI (tG T) := hM.1.2.2.2.2.2.1.trans hG.1
  have l := lpUp (A := Int64) (n := tG T) (W := fun f r z => wL_X9_digest_173 k f μ z (gd no0 T wgh (T.1 2)) (nI r) N) (J := fun r z => z = dg (gdV T wgh) r s) ?_ ?_ (tG T) 0 s (Nat.zero_add _) rfl
  · exact ⟨_, l⟩
  · intro f z hz
    unfold wL_X9_digest_173
    rw [hn]
    exact ⟨fun _ => by rw [hz]; exact hQ, fun q => absurd (nI_le (Nat.le_refl _) (by omega)) q⟩
  · intro f r z hr hz next
    unfold wL_X9_digest_173
    rw [hn, b_get _ (show r < 32 by omega), nI_1 r]
    exact ⟨fun q => absurd q (nI_ge hr (by omega)), fun _ => next _ (by rw [hz]; rfl)⟩
theorem lm_dg226 {n : Nat} (hn : n ≤ 1440) {F : Nat → Int64} {f1 : Nat → Int32} (hf : ∀ j, j < n → (f1 j).toInt64 = F j) {s : Int64} {G : Int32} {k : gk_C → Int64 → Int32 → (Nat → Option (Nat → Int32)) → Prop} (hQ : k μ (dg F n s) G N) : ∃ n226, wL_X9_digest_226 k n226 μ s G (nI n) 0 N f1 n := by
  have l := lpUp (A := Int64) (n := n) (W := fun f j z => wL_X9_digest_226 k f μ z G (nI n) (nI j) N f1 n) (J := fun j z => z = dg F j s) ?_ ?_ n 0 s (Nat.zero_add _) rfl
  · exact ⟨_, l⟩
  · intro f z hz
    unfold wL_X9_digest_226
    exact ⟨fun _ => by rw [hz]; exact hQ, fun q => absurd (nI_le (Nat.le_refl _) (by omega)) q⟩
  · intro f j z hj hz next
    unfold wL_X9_digest_226
    rw [nI_clamp (show j < 2 ^ 31 by omega), nI_1 j, hf j hj]
    exact ⟨fun q => absurd q (nI_ge hj (by omega)), fun _ => ⟨vp_in_nI hj (by omega), next _ (by rw [hz]; rfl)⟩⟩
theorem lm_dg259 (hM : jM T μ) (hw : wf T) (h35 : μ.2 35 = -1) (hwg : μ.2 2 = wgh) (hN : isNN T (T.1 2) N) {s : Int64} {k : gk_C → Int64 → Prop} (hQ : k μ (dg (whV T wgh) (tU T * 5 * tT T) s)) : ∃ n259, wL_X9_digest_259 k n259 μ s (gd no0 T wgh (T.1 2)) 0 N := by
  have hU := wf_U hw
  have hT := wf_T hw
  have hnU : μ.2 3 = nI (tU T) := hM.1.1.trans hU.1
  have hnT : μ.2 11 = nI (tT T) := hM.1.2.2.2.1.trans hT.1
  have l := lpUp (A := Int64) (n := tU T) (W := fun f u z => wL_X9_digest_259 k f μ z (gd no0 T wgh (T.1 2)) (nI u) N) (J := fun u z => z = dg (whV T wgh) ((u * 5 + 0) * tT T) s) ?_ ?_ (tU T) 0 s (Nat.zero_add _) (by rw [Nat.zero_mul]; rfl)
  · exact ⟨_, l⟩
  · intro f z hz
    unfold wL_X9_digest_259
    rw [hnU]
    exact ⟨fun _ => by rw [hz]; exact hQ, fun q => absurd (nI_le (Nat.le_refl _) (by omega)) q⟩
  · intro f u z hu hz next
    unfold wL_X9_digest_259
    rw [hnU]
    refine ⟨fun q => absurd q (nI_ge hu (by omega)), fun _ => ?_⟩
    have l2 := lpUp (A := Int64) (n := 5) (W := fun f2 a z => wL_X9_digest_271 (fun σ x1 x4 x6 Nc68 => (wL_X9_digest_259 k f σ x1 x4 (x6 + 1) Nc68)) f2 μ z (gd no0 T wgh (T.1 2)) (nI u) (nI a) N) (J := fun a z => z = dg (whV T wgh) ((u * 5 + a) * tT T) s) ?_ ?_ 5 0 z (Nat.zero_add _) hz
    · exact ⟨_, l2⟩
    · intro f2 z hz
      unfold wL_X9_digest_271
      refine ⟨fun _ => ?_, fun q => absurd (by decide) q⟩
      show wL_X9_digest_259 k f μ z _ (nI u + 1) N
      rw [nI_1]
      exact next z (by rw [hz, fl_usr])
    · intro f2 a z ha hz next2
      unfold wL_X9_digest_271
      refine ⟨fun q => absurd q (nI_ge (b := 5) ha (by decide)), fun _ => ?_⟩
      have l3 := lpUp (A := Int64) (n := tT T) (W := fun f3 r z => wL_X9_digest_280 (fun σ x1 x4 x6 x7 Nc68 => (wL_X9_digest_271 (fun σ x1 x4 x6 Nc68 => (wL_X9_digest_259 k f σ x1 x4 (x6 + 1) Nc68)) f2 σ x1 x4 x6 (x7 + 1) Nc68)) f3 μ z (gd no0 T wgh (T.1 2)) (nI u) (nI a) (nI r) N) (J := fun r z => z = dg (whV T wgh) ((u * 5 + a) * tT T + r) s) ?_ ?_ (tT T) 0 z (Nat.zero_add _) hz
      · exact ⟨_, l3⟩
      · intro f3 z hz
        unfold wL_X9_digest_280
        rw [hnT]
        refine ⟨fun _ => ?_, fun q => absurd (nI_le (Nat.le_refl _) (by omega)) q⟩
        show wL_X9_digest_271 _ f2 μ z _ (nI u) (nI a + 1) N
        rw [nI_1]
        exact next2 z (by rw [hz, fl_row])
      · intro f3 r z hr hz next3
        unfold wL_X9_digest_280
        rw [hnT, nI_1 r]
        refine ⟨fun q => absurd q (nI_ge hr (by omega)), fun _ => ?_⟩
        refine lm_whyNow hM hw (lo_m1 hw h35) hN hu ha hr hwg ?_
        refine next3 _ ?_
        show _ = dg (whV T wgh) ((u * 5 + a) * tT T + r) s * 31 + whV T wgh ((u * 5 + a) * tT T + r)
        unfold whV
        rw [hz, fl_at _ ha hr]
        rfl
theorem lm_dg342 {F : Nat → Int64} (hf : ∀ i, i < 6 → (μ.1 33 i).toInt64 = F i) {s : Int64} {k : gk_C → Int64 → Prop} (hQ : k μ (dg F 6 s)) : ∃ n342, wL_X9_digest_342 k n342 μ s 6 0 := by
  have l := lpUp (A := Int64) (n := 6) (W := fun f r z => wL_X9_digest_342 k f μ z 6 (nI r)) (J := fun r z => z = dg F r s) ?_ ?_ 6 0 s (Nat.zero_add _) rfl
  · exact ⟨_, l⟩
  · intro f z hz
    unfold wL_X9_digest_342
    exact ⟨fun _ => by rw [hz]; exact hQ, fun q => absurd (by decide) q⟩
  · intro f r z hr hz next
    unfold wL_X9_digest_342
    rw [nI_1 r, nI_clamp (show r < 2 ^ 31 by omega), hf r hr]
    exact ⟨fun q => absurd q (nI_ge (b := 6) hr (by decide)), fun _ => ⟨vp_in' hr (by decide), next _ (by rw [hz]; rfl)⟩⟩
theorem lm_dg375 (hM : jM T μ) (hw : wf T) {s : Int64} {k : gk_C → Int64 → Prop} (hQ : k μ (dg2 (dnV T) (tT T) (tU T) s)) : ∃ n375, wL_X9_digest_375 k n375 μ s 0 := by
  have hU := wf_U hw
  have hT := wf_T hw
  have hnU : μ.2 3 = nI (tU T) := hM.1.1.trans hU.1
  have hnT : μ.2 11 = nI (tT T) := hM.1.2.2.2.1.trans hT.1
  have l := lpUp (A := Int64) (n := tU T) (W := fun f u z => wL_X9_digest_375 k f μ z (nI u)) (J := fun u z => z = dg2 (dnV T) (tT T) u s) ?_ ?_ (tU T) 0 s (Nat.zero_add _) rfl
  · exact ⟨_, l⟩
  · intro f z hz
    unfold wL_X9_digest_375
    rw [hnU]
    exact ⟨fun _ => by rw [hz]; exact hQ, fun q => absurd (nI_le (Nat.le_refl _) (by omega)) q⟩
  · intro f u z hu hz next
    unfold wL_X9_digest_375
    rw [hnU]
    refine ⟨fun q => absurd q (nI_ge hu (by omega)), fun _ => ?_⟩
    have l2 := lpUp (A := Int64) (n := tT T) (W := fun f2 r z => wL_X9_digest_387 (fun σ x1 x6 => (wL_X9_digest_375 k f σ x1 (x6 + 1))) f2 μ z (nI u) (nI r)) (J := fun r z => z = dg (dnV T u) r (dg2 (dnV T) (tT T) u s)) ?_ ?_ (tT T) 0 z (Nat.zero_add _) hz
    · exact ⟨_, l2⟩
    · intro f2 z hz
      unfold wL_X9_digest_387
      rw [hnT]
      refine ⟨fun _ => ?_, fun q => absurd (nI_le (Nat.le_refl _) (by omega)) q⟩
      show wL_X9_digest_375 k f μ z (nI u + 1)
      rw [nI_1]
      exact next z hz
    · intro f2 r z hr hz next2
      unfold wL_X9_digest_387
      rw [hnT, nI_1 r, show nI u * 24 + nI r = nI (u * 24 + r) from nI_ma u r 24, nI_clamp (show u * 24 + r < 2 ^ 31 by omega), hM.2.2.1 _ (by omega)]
      exact ⟨fun q => absurd q (nI_ge hr (by omega)), fun _ => ⟨vp_in' (by omega) (by decide), next2 _ (by rw [hz]; rfl)⟩⟩
end DM
theorem q_digest : ∀ (σ μ : gk_C), jI σ μ → w_X8_digest σ (fun r σ1 => w_X9_digest μ (fun r1 μ1 => r = r1 ∧ jI σ1 μ1)) := by
  intro σ μ h
  have hw := h.1
  unfold w_X8_digest
  refine lb_now (v := 0) (by decide) h (fun σ1 H HG HS hI => ?_)
  unfold w_X8_withNumbers
  refine lb_withNear H.1 hw ?_
  refine lb_dg31 H.1 hw ?_
  refine lb_dg73 H.1 hw HG ?_
  refine lb_decs H hw HG ?_
  refine lb_whys H hw HG ?_
  refine lb_dg134 ?_
  refine lb_withDone H.1 hw ?_
  refine lb_opposed H hw (fun σ2 S2 _ => ?_)
  have hI2 : jI σ2 μ := jI_sV hI (by decide) S2
  unfold w_X9_digest
  refine lm_now h (Q := fun N r78 => ∃ n86, wL_X9_digest_86 _ n86 (gk_s μ 0 0) _ r78 0 N) (fun N hN => ?_)
  have hM : jM (told σ) (gk_s μ 0 0) := h.2.1
  refine lm_dg86 hM hw hN ?_
  refine lm_dg140 hM hw ?_
  refine lm_dg173 hM hw ?_
  rw [wgh_eq h]
  refine lm_table hM hw (lo_m1 hw h.2.2.2.1) hN (fun f1 hf1 => ?_)
  refine lm_dg226 (F := dcV (told σ) (σ.2 6)) (fl_1440 hw) (fun j hj => by rw [hf1 j hj]; rfl) ?_
  refine lm_dg259 hM hw h.2.2.2.1 (wgh_eq h) hN ?_
  refine lm_dg342 (F := fun i => (σ1.1 38 i).toInt64) (fun i hi => by rw [hI.2.2.2.2 i hi]; rfl) ?_
  refine lm_dg375 hM hw ?_
  refine lm_contra hM hw h.2.2.2.1 ⟨?_, hI2⟩
  have e0 : σ1.2 0 = (gk_s μ 0 0).2 3 := (ts H.1 (show 0 < 8 by decide)).trans h.2.1.1.1.symm
  have e1 : σ1.2 1 = (gk_s μ 0 0).2 7 := (ts H.1 (show 1 < 8 by decide)).trans h.2.1.1.2.1.symm
  have e3 : σ1.2 3 = (gk_s μ 0 0).2 11 := (ts H.1 (show 3 < 8 by decide)).trans h.2.1.1.2.2.2.1.symm
  have e4 : σ1.2 4 = (gk_s μ 0 0).2 16 := (ts H.1 (show 4 < 8 by decide)).trans h.2.1.1.2.2.2.2.1.symm
  have e5 : σ1.2 5 = (gk_s μ 0 0).2 26 := (ts H.1 (show 5 < 8 by decide)).trans h.2.1.1.2.2.2.2.2.1.symm
  have e7 : σ1.2 7 = (gk_s μ 0 0).2 1 := (ts H.1 (show 7 < 8 by decide)).trans h.2.1.1.2.2.2.2.2.2.2.symm
  rw [e0, e1, e3, e4, e5, e7, show (2579 : Int64) * 31 = 79949 by decide]
