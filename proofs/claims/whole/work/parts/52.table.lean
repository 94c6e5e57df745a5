/-! ===== layer B: all decisions, as a table; differences ===== -/
/-- a thing of users, actions and resources, told by one number -/
def fl {α : Type} (T : gk_C) (F : Nat → Nat → Nat → α) (j : Nat) : α := F (j / tT T / 5) (j / tT T % 5) (j % tT T)
theorem fl_at {α : Type} {T : gk_C} (F : Nat → Nat → Nat → α) {u a r : Nat} (ha : a < 5) (hr : r < tT T) : fl T F ((u * 5 + a) * tT T + r) = F u a r := by
  have h1 : ((u * 5 + a) * tT T + r) / tT T = u * 5 + a := by
    rw [Nat.mul_comm, Nat.mul_add_div (by omega), Nat.div_eq_of_lt hr, Nat.add_zero]
  have h2 : ((u * 5 + a) * tT T + r) % tT T = r := by
    rw [Nat.mul_comm, Nat.mul_add_mod, Nat.mod_eq_of_lt hr]
  unfold fl
  rw [h1, h2, show (u * 5 + a) / 5 = u by omega, show (u * 5 + a) % 5 = a by omega]
theorem fl_row (T : gk_C) (u a : Nat) : (u * 5 + a) * tT T + tT T = (u * 5 + (a + 1)) * tT T := by rw [← Nat.add_assoc, Nat.succ_mul]
theorem fl_usr (T : gk_C) (u : Nat) : (u * 5 + 5) * tT T = ((u + 1) * 5 + 0) * tT T := by congr 1; omega
theorem fl_le {T : gk_C} (hw : wf T) {u a r : Nat} (hu : u < tU T) (ha : a < 5) (hr : r < tT T) : (u * 5 + a) * tT T + r < tU T * 5 * tT T := by
  have h1 : (u * 5 + a + 1) * tT T ≤ tU T * 5 * tT T := Nat.mul_le_mul_right _ (by omega)
  rw [Nat.succ_mul] at h1
  omega
theorem fl_1440 {T : gk_C} (hw : wf T) : tU T * 5 * tT T ≤ 1440 := by
  have hU := (wf_U hw).2
  have hT := (wf_T hw).2.2
  exact Nat.mul_le_mul (show tU T * 5 ≤ 60 by omega) hT
theorem fl_all {T : gk_C} {P : Nat → Prop} (h : ∀ u a r, u < tU T → a < 5 → r < tT T → P ((u * 5 + a) * tT T + r)) : ∀ j, j < tU T * 5 * tT T → P j := by
  intro j hj
  have ht : 0 < tT T := by
    rcases Nat.eq_zero_or_pos (tT T) with q | q
    · rw [q, Nat.mul_zero] at hj; omega
    · exact q
  have h1 : j / tT T < tU T * 5 := (Nat.div_lt_iff_lt_mul ht).mpr hj
  have h2 := h (j / tT T / 5) (j / tT T % 5) (j % tT T) (by omega) (by omega) (Nat.mod_lt _ ht)
  rw [show j / tT T / 5 * 5 + j / tT T % 5 = j / tT T by omega, Nat.mul_comm, Nat.div_add_mod] at h2
  exact h2
section TB
variable {T μ : gk_C}
theorem lm_table {lo : Nat → Bool} (hM : jM T μ) (hw : wf T) (hlo : ∀ k, k < tL T → decide (nI k = μ.2 35) = lo k) {S : Nat → Int32} {N : Nat → Option (Nat → Int32)} (hN : isNN T S N) {wgh : Int32} {Q : Nat → (Nat → Int32) → Prop} (hQ : ∀ f, (∀ j, j < tU T * 5 * tT T → f j = fl T (dec lo T wgh S) j) → Q (tU T * 5 * tT T) f) : w_X9_table μ N wgh Q := by
  have hU := wf_U hw
  have hT := wf_T hw
  have hnU : μ.2 3 = nI (tU T) := hM.1.1.trans hU.1
  have hnT : μ.2 11 = nI (tT T) := hM.1.2.2.2.1.trans hT.1
  have h1440 := fl_1440 hw
  have hn : μ.2 3 * 5 * μ.2 11 = nI (tU T * 5 * tT T) := by
    rw [hnU, hnT, show nI (tU T) * 5 = nI (tU T * 5) from pk_mul (tU T) 5, pk_mul]
  unfold w_X9_table
  rw [hn, nI_clamp (by omega)]
  refine ⟨⟨nI_pos (by omega), h1440⟩, lm_good hM hw hlo hN ?_⟩
  have l := lpUp (A := Nat → Int32) (n := tU T) (W := fun f u fn => wL_X9_table_28 μ N Q f wgh (gd lo T wgh S) (nI ((u * 5 + 0) * tT T)) (nI u) fn (tU T * 5 * tT T)) (J := fun u fn => ∀ j, j < (u * 5 + 0) * tT T → fn j = fl T (dec lo T wgh S) j) ?_ ?_ (tU T) 0 (fun _ => 0) (Nat.zero_add _) (fun j hj => by rw [Nat.zero_mul] at hj; omega)
  · rw [Nat.zero_mul] at l
    exact ⟨_, l⟩
  · intro f fn hz
    unfold wL_X9_table_28
    rw [hnU]
    refine ⟨fun _ => hQ fn hz, fun q => absurd (nI_le (Nat.le_refl _) (by omega)) q⟩
  · intro f u fn hu hz next
    unfold wL_X9_table_28
    rw [hnU]
    refine ⟨fun q => absurd q (nI_ge hu (by omega)), fun _ => ?_⟩
    have l2 := lpUp (A := Nat → Int32) (n := 5) (W := fun f2 a fn => wL_X9_table_40 μ N (fun x2 x4 x5 x6 fn11 nn11 => (wL_X9_table_28 μ N Q f x2 x4 x5 (x6 + 1) fn11 nn11)) f2 wgh (gd lo T wgh S) (nI ((u * 5 + a) * tT T)) (nI u) (nI a) fn (tU T * 5 * tT T)) (J := fun a fn => ∀ j, j < (u * 5 + a) * tT T → fn j = fl T (dec lo T wgh S) j) ?_ ?_ 5 0 fn (Nat.zero_add _) hz
    · exact ⟨_, l2⟩
    · intro f2 fn hz
      unfold wL_X9_table_40
      refine ⟨fun _ => ?_, fun q => absurd (by decide) q⟩
      show wL_X9_table_28 μ N Q f wgh (gd lo T wgh S) (nI ((u * 5 + 5) * tT T)) (nI u + 1) fn _
      rw [nI_1, fl_usr]
      rw [fl_usr] at hz
      exact next fn hz
    · intro f2 a fn ha hz next2
      unfold wL_X9_table_40
      refine ⟨fun q => absurd q (nI_ge (b := 5) ha (by decide)), fun _ => ?_⟩
      have l3 := lpUp (A := Nat → Int32) (n := tT T) (W := fun f3 r fn => wL_X9_table_49 μ N (fun x2 x4 x5 x6 x7 fn11 nn11 => (wL_X9_table_40 μ N (fun x2 x4 x5 x6 fn11 nn11 => (wL_X9_table_28 μ N Q f x2 x4 x5 (x6 + 1) fn11 nn11)) f2 x2 x4 x5 x6 (x7 + 1) fn11 nn11)) f3 wgh (gd lo T wgh S) (nI ((u * 5 + a) * tT T + r)) (nI u) (nI a) (nI r) fn (tU T * 5 * tT T)) (J := fun r fn => ∀ j, j < (u * 5 + a) * tT T + r → fn j = fl T (dec lo T wgh S) j) ?_ ?_ (tT T) 0 fn (Nat.zero_add _) hz
      · exact ⟨_, l3⟩
      · intro f3 fn hz
        unfold wL_X9_table_49
        rw [hnT]
        refine ⟨fun _ => ?_, fun q => absurd (nI_le (Nat.le_refl _) (by omega)) q⟩
        show wL_X9_table_40 μ N _ f2 wgh (gd lo T wgh S) (nI ((u * 5 + a) * tT T + tT T)) (nI u) (nI a + 1) fn _
        rw [nI_1, fl_row]
        rw [fl_row] at hz
        exact next2 fn hz
      · intro f3 r fn hr hz next3
        have hlt := fl_le hw hu ha hr
        unfold wL_X9_table_49
        rw [hnT, nI_1 r, nI_1 ((u * 5 + a) * tT T + r), nI_clamp (by omega)]
        refine ⟨fun q => absurd q (nI_ge hr (by omega)), fun _ => ?_⟩
        refine lm_decided hM hw hlo hN hu ha hr ⟨vp_in_nI hlt (by omega), ?_⟩
        refine next3 _ (fun j hj => ?_)
        by_cases e : j = (u * 5 + a) * tT T + r
        · rw [e, up_at, fl_at _ ha hr]
          rfl
        · rw [up_ne _ _ e]; exact hz j (by omega)
theorem lm_diff {n : Nat} (hn : n ≤ 1440) {f1 f2 : Nat → Int32} {Q : Int32 → Prop} (hQ : Q (nI (cn (fun j => !decide (f1 j = f2 j)) n))) : w_X9_differences n n f1 f2 Q := by
  unfold w_X9_differences
  have l := lpUp (A := Int32) (n := n) (W := fun f j z => wL_X9_differences_4 n n f1 f2 Q f z (nI j)) (J := fun j z => z = nI (cn (fun j => !decide (f1 j = f2 j)) j)) ?_ ?_ n 0 0 (Nat.zero_add _) rfl
  · exact ⟨_, l⟩
  · intro f z hz
    unfold wL_X9_differences_4
    exact ⟨fun _ => by rw [hz]; exact hQ, fun q => absurd (nI_le (Nat.le_refl _) (by omega)) q⟩
  · intro f j z hj hz next
    unfold wL_X9_differences_4
    rw [nI_clamp (by omega), nI_1]
    refine ⟨fun q => absurd q (nI_ge hj (by omega)), fun _ => ⟨vp_in_nI hj (by omega), vp_in_nI hj (by omega), next _ ?_⟩⟩
    by_cases q : f1 j = f2 j
    · rw [if_pos q, hz, cn_f (P := fun j => !decide (f1 j = f2 j)) (by simp [q]), Int32.add_zero]
    · rw [if_neg q, hz, cn_t (P := fun j => !decide (f1 j = f2 j)) (by simp [q]), nI_1]
end TB
section TG
variable {T σ : gk_C} {lo lo' : Nat → Bool} {wgh wgh' : Int32} {S S' : Nat → Int32}
theorem lb_diff (H : vw 0 lo T wgh S (tU T) σ) (H' : vw 1 lo' T wgh' S' (tU T) σ) (hw : wf T) (hG : σ.2 (11 + 4 * 0) = gd lo T wgh S) (hG' : σ.2 (11 + 4 * 1) = gd lo' T wgh' S') {Q : Int32 → Prop} (hQ : Q (nI (cn (fun j => !decide (fl T (dec lo T wgh S) j = fl T (dec lo' T wgh' S') j)) (tU T * 5 * tT T)))) : w_X7_differences σ Q := by
  have hU := wf_U hw
  have hT := wf_T hw
  have hnU : σ.2 0 = nI (tU T) := (ts H.1 (by decide)).trans hU.1
  have hnT : σ.2 3 = nI (tT T) := (ts H.1 (by decide)).trans hT.1
  unfold w_X7_differences
  have l := lpUp (A := Int32) (n := tU T) (W := fun f u z => wL_X7_differences_4 σ Q f z (nI u)) (J := fun u z => z = nI (cn (fun j => !decide (fl T (dec lo T wgh S) j = fl T (dec lo' T wgh' S') j)) ((u * 5 + 0) * tT T))) ?_ ?_ (tU T) 0 0 (Nat.zero_add _) (by rw [Nat.zero_mul]; rfl)
  · exact ⟨_, l⟩
  · intro f z hz
    unfold wL_X7_differences_4
    rw [hnU]
    exact ⟨fun _ => by rw [hz]; exact hQ, fun q => absurd (nI_le (Nat.le_refl _) (by omega)) q⟩
  · intro f u z hu hz next
    unfold wL_X7_differences_4
    rw [hnU]
    refine ⟨fun q => absurd q (nI_ge hu (by omega)), fun _ => ?_⟩
    have l2 := lpUp (A := Int32) (n := 5) (W := fun f2 a z => wL_X7_differences_21 σ (fun x2 x3 => (wL_X7_differences_4 σ Q f x2 (x3 + 1))) f2 z (nI u) (nI a)) (J := fun a z => z = nI (cn (fun j => !decide (fl T (dec lo T wgh S) j = fl T (dec lo' T wgh' S') j)) ((u * 5 + a) * tT T))) ?_ ?_ 5 0 z (Nat.zero_add _) hz
    · exact ⟨_, l2⟩
    · intro f2 z hz
      unfold wL_X7_differences_21
      refine ⟨fun _ => ?_, fun q => absurd (by decide) q⟩
      show wL_X7_differences_4 σ Q f z (nI u + 1)
      rw [nI_1]
      exact next z (by rw [hz, fl_usr])
    · intro f2 a z ha hz next2
      unfold wL_X7_differences_21
      refine ⟨fun q => absurd q (nI_ge (b := 5) ha (by decide)), fun _ => ?_⟩
      have l3 := lpUp (A := Int32) (n := tT T) (W := fun f3 r z => wL_X7_differences_30 σ (fun x2 x3 x4 => (wL_X7_differences_21 σ (fun x2 x3 => (wL_X7_differences_4 σ Q f x2 (x3 + 1))) f2 x2 x3 (x4 + 1))) f3 z (nI u) (nI a) (nI r)) (J := fun r z => z = nI (cn (fun j => !decide (fl T (dec lo T wgh S) j = fl T (dec lo' T wgh' S') j)) ((u * 5 + a) * tT T + r))) ?_ ?_ (tT T) 0 z (Nat.zero_add _) hz
      · exact ⟨_, l3⟩
      · intro f3 z hz
        unfold wL_X7_differences_30
        rw [hnT]
        refine ⟨fun _ => ?_, fun q => absurd (nI_le (Nat.le_refl _) (by omega)) q⟩
        show wL_X7_differences_21 σ _ f2 z (nI u) (nI a + 1)
        rw [nI_1]
        exact next2 z (by rw [hz, fl_row])
      · intro f3 r z hr hz next3
        unfold wL_X7_differences_30
        rw [hnT, nI_1 r]
        refine ⟨fun q => absurd q (nI_ge hr (by omega)), fun _ => ?_⟩
        refine lb_decided H (by decide) hw (Nat.le_refl _) hu ha hr ?_
        refine lb_decided H' (by decide) hw (Nat.le_refl _) hu ha hr ?_
        rw [hG, hG']
        have e1 : fl T (dec lo T wgh S) ((u * 5 + a) * tT T + r) = dec lo T wgh S u a r := fl_at _ ha hr
        have e2 : fl T (dec lo' T wgh' S') ((u * 5 + a) * tT T + r) = dec lo' T wgh' S' u a r := fl_at _ ha hr
        refine ⟨fun q => next3 z ?_, fun q => next3 (z + 1) ?_⟩
        · have q : dec lo T wgh S u a r = dec lo' T wgh' S' u a r := q
          show z = nI (cn _ ((u * 5 + a) * tT T + r + 1))
          rw [cn_f (P := fun j => !decide (fl T (dec lo T wgh S) j = fl T (dec lo' T wgh' S') j)) (by simp only [e1, e2, q]; simp)]
          exact hz
        · have q : ¬ dec lo T wgh S u a r = dec lo' T wgh' S' u a r := q
          show z + 1 = nI (cn _ ((u * 5 + a) * tT T + r + 1))
          rw [cn_t (P := fun j => !decide (fl T (dec lo T wgh S) j = fl T (dec lo' T wgh' S') j)) (by simp only [e1, e2]; simp [q]), hz, nI_1]
end TG
section WN
variable {T μ : gk_C}
theorem lm_whyNow {lo : Nat → Bool} (hM : jM T μ) (hw : wf T) (hlo : ∀ k, k < tL T → decide (nI k = μ.2 35) = lo k) {S : Nat → Int32} {N : Nat → Option (Nat → Int32)} (hN : isNN T S N) {u a r : Nat} (hu : u < tU T) (ha : a < 5) (hr : r < tT T) {wgh : Int32} (hwg : μ.2 2 = wgh) {Q : Int32 → Prop} (hQ : Q (why lo T wgh S u a r)) : w_X9_whyNow μ (nI u) (nI a) (nI r) N (gd lo T wgh S) Q := by
  have hU := (wf_U hw).2
  have hG := (wf_G hw).2
  obtain ⟨fe, hfe, hisN⟩ := hN u hu
  unfold w_X9_whyNow
  rw [hwg]
  refine lm_decided hM hw hlo hN hu ha hr ?_
  unfold why at hQ
  have d12 : (rul lo T wgh u (S u) a r = 1 ∨ rul lo T wgh u (S u) a r = 2) → wJ_X9_whyNow_45 μ N Q (nI u) (nI a) (nI r) := fun q => by
    rw [if_pos q] at hQ
    unfold wJ_X9_whyNow_45
    rw [nI_clamp (show u < 2 ^ 31 by omega), hwg]
    exact ⟨vp_in' (by omega) (by decide), fe, hfe, lm_deciding hM hw hlo hisN hu ha hr hQ⟩
  unfold dcd
  by_cases c : rul lo T wgh u (S u) a r = 0 ∧ (gfr T (gd lo T wgh S) u a r).isSome = true
  · rw [if_pos c]
    refine ⟨fun q => absurd rfl q, fun _ => ?_⟩
    refine lm_granting hM hw hr ?_
    rw [if_neg (by rw [c.1]; decide), if_pos c.1] at hQ
    exact hQ
  · rw [if_neg c]
    have n3 : ¬ rul lo T wgh u (S u) a r = 3 := by
      unfold rul
      by_cases h1 : lab T u a r = true
      · rw [if_pos h1]; decide
      · rw [if_neg h1]
        by_cases h2 : wal T u r = true
        · rw [if_pos h2]; decide
        · rw [if_neg h2]
          cases bs (mat lo T u (S u) a r) (wt T wgh u (S u)) (tL T) with
          | none => exact (by decide : ¬ (0 : Int32) = 3)
          | some k =>
            unfold rulO
            by_cases h3 : T.1 11 k = 1
            · simp only [h3, if_true]; decide
            · simp only [h3, if_false]; decide
    refine ⟨fun _ => ⟨fun q1 => d12 (Or.inl q1), fun q1 => ⟨fun q2 => ?_, fun q2 => d12 (Or.inr q2)⟩⟩, fun q => absurd q n3⟩
    rw [if_neg (by rintro (q | q); exact q1 q; exact q2 q)] at hQ
    by_cases c0 : rul lo T wgh u (S u) a r = 0
    · rw [if_pos c0] at hQ
      cases hg : gfr T (gd lo T wgh S) u a r with
      | none => rw [hg] at hQ; exact hQ
      | some k => exact absurd ⟨c0, by rw [hg]; rfl⟩ c
    · rw [if_neg c0] at hQ
      exact hQ
end WN
theorem lm_isAllowed {d : Int32} {Q : Int32 → Prop} (hQ : Q (b2i (alw d))) : w_X9_isAllowed d Q := by
  unfold w_X9_isAllowed
  unfold alw at hQ
  refine dec_go (fun h1 => ?_) (fun h1 => ?_)
  · rw [h1] at hQ; exact hQ
  · refine dec_go' (fun h2 => ?_) (fun h2 => ?_) <;> · rw [h1, h2] at hQ; exact hQ
