/-! ===== layer B: setApart ===== -/
/-- the rows of those apart, with one pair more -/
def apU (f : Nat → Int32) (r x : Nat) : Nat → Int32 := upd (upd f r (f r ||| (1 <<< (nI x &&& 31)))) x (f x ||| (1 <<< (nI r &&& 31)))
theorem apU_b (f : Nat → Int32) {r x k j : Nat} (hrx : ¬ r = x) (hr : r < 32) (hx : x < 32) (hj : j < 32) : bt (apU f r x k) j = (bt (f k) j || ((decide (k = r) && decide (j = x)) || (decide (k = x) && decide (j = r)))) := by
  unfold apU
  by_cases e : k = x
  · rw [e, up_at, b_or, b_bit hr hj, decide_eq_false (show ¬ x = r from fun q => hrx q.symm)]
    simp
  · rw [up_ne _ _ e]
    by_cases e2 : k = r
    · rw [e2, up_at, b_or, b_bit hx hj, decide_eq_false hrx]
      simp
    · rw [up_ne _ _ e2, decide_eq_false e, decide_eq_false e2]
      simp
theorem bit2_c (i j : Nat) : bit2 i j = bit2 j i := by
  unfold bit2
  exact Int32.or_comm _ _
theorem jI_setApart (σ μ : gk_C) (r x p : Nat) (h : jI σ μ) (hr : r < tR (told σ)) (hx : x < tR (told σ)) (hrx : ¬ r = x) (hp : p < 10) (hs : σ.2 2 = nI p) (hno : ∀ u, u < tU (told σ) → (bt (hd (told σ) (σ.1 2 u)) r && bt (hd (told σ) (σ.1 2 u)) x) = false) :
    jI (gk_s (gk_r σ 5 (apU (σ.1 5) r x)) 2 (nI (p + 1))) (gk_r (gk_s μ 9 (nI (p + 1))) 10 (upd (μ.1 10) p (bit2 r x))) := by
  have hR := (wf_R h.1).2
  obtain ⟨⟨⟨w1, w2, w3, w4⟩, ws, wt', ww, wr, wg⟩, ⟨⟨m1, m2, m3, m4⟩, mu, md, mh, ml, mp, mr, mg, mA⟩, ⟨x1, x2, x3⟩, h35, h33⟩ := h
  have e0 : tP (told σ) = p := num_eq hs (by omega)
  have e1 : tP (told (gk_s (gk_r σ 5 (apU (σ.1 5) r x)) 2 (nI (p + 1)))) = p + 1 := num_eq (x := nI (p + 1)) rfl (by omega)
  refine ⟨⟨⟨w1, w2, ⟨p + 1, by omega, by omega, rfl⟩, w4⟩, ws, wt', ww, wr, wg⟩, ⟨⟨m1, m2, rfl, m4⟩, mu, md, mh, ml, mp, mr, mg, ⟨fun k hk => ?_, fun i hi j hj q => ?_⟩⟩, ⟨x1, fun u hu => ?_, x3⟩, h35, h33⟩
  · rw [e1] at hk
    show ∃ i j, i < tR (told σ) ∧ j < tR (told σ) ∧ i ≠ j ∧ upd (μ.1 10) p (bit2 r x) k = bit2 i j ∧ bt (apU (σ.1 5) r x i) j = true ∧ bt (apU (σ.1 5) r x j) i = true
    by_cases e : k = p
    · refine ⟨r, x, hr, hx, hrx, by rw [e, up_at], ?_, ?_⟩
      · rw [apU_b _ hrx (by omega) (by omega) (by omega)]; simp
      · rw [apU_b _ hrx (by omega) (by omega) (by omega)]; simp
    · obtain ⟨i, j, h1, h2, h3, h4, h5, h6⟩ := mA.1 k (by omega)
      refine ⟨i, j, h1, h2, h3, by rw [up_ne _ _ e]; exact h4, ?_, ?_⟩
      · rw [apU_b _ hrx (by omega) (by omega) (by omega), show bt (σ.1 5 i) j = true from h5]; rfl
      · rw [apU_b _ hrx (by omega) (by omega) (by omega), show bt (σ.1 5 j) i = true from h6]; rfl
  · have q : bt (apU (σ.1 5) r x i) j = true := q
    rw [apU_b _ hrx (by omega) (by omega) hj, Bool.or_eq_true, Bool.or_eq_true] at q
    rw [e1]
    show ∃ k, k < p + 1 ∧ upd (μ.1 10) p (bit2 r x) k = bit2 i j
    rcases q with q | q | q
    · obtain ⟨k, h1, h2⟩ := mA.2 i hi j hj q
      exact ⟨k, by omega, by rw [up_ne _ _ (by omega)]; exact h2⟩
    · rw [Bool.and_eq_true, decide_eq_true_eq, decide_eq_true_eq] at q
      exact ⟨p, by omega, by rw [up_at, q.1, q.2]⟩
    · rw [Bool.and_eq_true, decide_eq_true_eq, decide_eq_true_eq] at q
      exact ⟨p, by omega, by rw [up_at, q.1, q.2, bit2_c]⟩
  · have hu : u < tU (told σ) := hu
    have h1 := x2 u hu
    have h2 := hno u hu
    show rSplit (apU (σ.1 5) r x) (tR (told σ)) (hd (told σ) (σ.1 2 u)) = false
    have h1 : rSplit (σ.1 5) (tR (told σ)) (hd (told σ) (σ.1 2 u)) = false := h1
    generalize hd (told σ) (σ.1 2 u) = y at h1 h2 ⊢
    unfold rSplit at h1 ⊢
    rw [rAny_f] at h1 ⊢
    intro k hk
    have h3 := h1 k hk
    cases hy : bt y k
    · rfl
    · rw [hy, Bool.true_and] at h3
      have h4 : σ.1 5 k &&& y = 0 := by simpa using h3
      have h5 : apU (σ.1 5) r x k &&& y = 0 := by
        rw [b_eq0] at h4 ⊢
        intro j hj
        have h6 := h4 j hj
        rw [b_and] at h6 ⊢
        rw [apU_b _ hrx (by omega) (by omega) hj]
        cases hyj : bt y j
        · rw [Bool.and_false]
        · rw [hyj, Bool.and_true] at h6
          rw [Bool.and_true, h6, Bool.false_or]
          cases c1 : (decide (k = r) && decide (j = x))
          · cases c2 : (decide (k = x) && decide (j = r))
            · rfl
            · rw [Bool.and_eq_true, decide_eq_true_eq, decide_eq_true_eq] at c2
              rw [c2.1] at hy
              rw [c2.2] at hyj
              rw [hy, hyj] at h2
              cases h2
          · rw [Bool.and_eq_true, decide_eq_true_eq, decide_eq_true_eq] at c1
            rw [c1.1] at hy
            rw [c1.2] at hyj
            rw [hy, hyj] at h2
            cases h2
      rw [h5]; rfl
theorem pair_eq {T μ : gk_C} (hA : jA T μ) (hR : tR T ≤ 12) {r x : Nat} (hr : r < tR T) (hx : x < tR T) (hrx : ¬ r = x) : rAny (fun k => decide (μ.1 10 k = bit2 r x)) (tP T) = bt (T.1 5 r) x := by
  rw [Bool.eq_iff_iff, rAny_t]
  constructor
  · rintro ⟨k, hk, q⟩
    have q := of_decide_eq_true q
    obtain ⟨i, j, hi, hj, hij, e, h1, h2⟩ := hA.1 k hk
    rw [e] at q
    have bi : bt (bit2 i j) i = bt (bit2 r x) i := by rw [q]
    have bj : bt (bit2 i j) j = bt (bit2 r x) j := by rw [q]
    rw [b_bit2 (by omega) (by omega) (by omega), b_bit2 (by omega) (by omega) (by omega)] at bi bj
    simp at bi bj
    rcases bi with rfl | rfl
    · rcases bj with rfl | rfl
      · exact absurd rfl hij
      · exact h1
    · rcases bj with rfl | rfl
      · exact h2
      · exact absurd rfl hij
  · intro q
    obtain ⟨k, hk, e⟩ := hA.2 r (by omega) x (by omega) q
    exact ⟨k, hk, decide_eq_true e⟩
theorem b2i_or (a b : Bool) : b2i a ||| b2i b = b2i (a || b) := by cases a <;> cases b <;> rfl
/-- somebody has both -/
def any2 (σ : gk_C) (r x : Nat) : Bool := rAny (fun u => bt (hd (told σ) (σ.1 2 u)) r && bt (hd (told σ) (σ.1 2 u)) x) (tU (told σ))
theorem lm_setApart {σ μ : gk_C} (h : jI σ μ) {a0 a1 : Int32} {Q : Int32 → gk_C → Prop}
    (h1 : vRR (told σ) a0 a1 = false → Q 0 (gk_s (gk_s μ 0 0) 0 1))
    (h2 : ∀ r x, r < tR (told σ) → x < tR (told σ) → a0 = nI r → a1 = nI x → r = x → Q 0 (gk_s (gk_s μ 0 0) 0 2))
    (h3 : ∀ r x, r < tR (told σ) → x < tR (told σ) → a0 = nI r → a1 = nI x → ¬ r = x → (decide (tP (told σ) = 10) || (bt (σ.1 5 r) x || any2 σ r x)) = true → Q 0 (gk_s (gk_s μ 0 0) 0 3))
    (h4 : ∀ r x, r < tR (told σ) → x < tR (told σ) → a0 = nI r → a1 = nI x → ¬ r = x → (decide (tP (told σ) = 10) || (bt (σ.1 5 r) x || any2 σ r x)) = false → Q (nI (tP (told σ) + 1)) (gk_r (gk_s (gk_s μ 0 0) 9 (nI (tP (told σ) + 1))) 10 (upd (μ.1 10) (tP (told σ)) (bit2 r x)))) : w_X9_setApart μ a0 a1 Q := by
  have hw := h.1
  have hR := (wf_R hw).2
  have hU := wf_U hw
  have hP := wf_P hw
  have hm : (gk_s μ 0 0).2 9 = nI (tP (told σ)) := h.2.1.1.2.2.1.trans hP.1
  have hmU : (gk_s μ 0 0).2 3 = nI (tU (told σ)) := h.2.1.1.1.trans hU.1
  have n1 : vRR (told σ) a0 a1 = false → wJ_X9_setApart_21 Q (gk_s μ 0 0) := h1
  unfold w_X9_setApart
  refine lm_isRole (T := told σ) (μ := gk_s μ 0 0) h.2.1 hw ?_
  refine b2i_go _ (fun q => n1 (by unfold vRR; rw [q]; rfl)) (fun q1 => ?_)
  refine lm_isRole (T := told σ) (μ := gk_s μ 0 0) h.2.1 hw ?_
  refine b2i_go' _ (fun q => n1 (by unfold vRR; rw [q, Bool.and_false])) (fun q2 => ?_)
  obtain ⟨r, hr, rfl⟩ := vld_ex (by omega) q1
  obtain ⟨x, hx, rfl⟩ := vld_ex (by omega) q2
  refine ⟨fun c => ?_, fun c => h2 r x hr hx rfl rfl ((nI_eq (by omega) (by omega)).mp c)⟩
  have hrx : ¬ r = x := fun e => c (by rw [e])
  have loops : ∀ b0 : Bool, b0 = decide (tP (told σ) = 10) → ∃ n65, wL_X9_setApart_65 (fun σ x3 x4 => (∃ n104, wL_X9_setApart_104 (fun σ x3 x4 => (((x4 = 0) → (vp_in (σ.2 9) 10 ∧ ∀ σ173 : gk_C, σ173 = mk_st (gk_s σ 9 ((σ.2 9) + 1)) 10 (σ.2 9) x3 → Q (σ173.2 9) σ173)) ∧ ((¬ x4 = 0) → (w_X9_no σ 3 (fun r153 σ153 => Q r153 σ153))))) n104 σ x3 x4 0)) n65 (gk_s μ 0 0) ((1 <<< (nI r &&& 31)) ||| (1 <<< (nI x &&& 31))) (b2i b0) 0 := fun b0 hb0 => by
    have l := lpUp (A := Bool) (n := tP (told σ)) (W := fun f k b => wL_X9_setApart_65 (fun σ x3 x4 => (∃ n104, wL_X9_setApart_104 (fun σ x3 x4 => (((x4 = 0) → (vp_in (σ.2 9) 10 ∧ ∀ σ173 : gk_C, σ173 = mk_st (gk_s σ 9 ((σ.2 9) + 1)) 10 (σ.2 9) x3 → Q (σ173.2 9) σ173)) ∧ ((¬ x4 = 0) → (w_X9_no σ 3 (fun r153 σ153 => Q r153 σ153))))) n104 σ x3 x4 0)) f (gk_s μ 0 0) (bit2 r x) (b2i b) (nI k)) (J := fun k b => b = (b0 || rAny (fun k => decide (μ.1 10 k = bit2 r x)) k)) ?_ ?_ (tP (told σ)) 0 b0 (Nat.zero_add _) (by show b0 = (b0 || false); rw [Bool.or_false])
    · exact ⟨_, l⟩
    · intro f b hb
      rw [pair_eq h.2.1.2.2.2.2.2.2.2.2 hR hr hx hrx] at hb
      unfold wL_X9_setApart_65
      rw [hm]
      refine ⟨fun _ => ?_, fun q => absurd (nI_le (Nat.le_refl _) (by omega)) q⟩
      have l2 := lpUp (A := Bool) (n := tU (told σ)) (W := fun f u d => wL_X9_setApart_104 (fun σ x3 x4 => (((x4 = 0) → (vp_in (σ.2 9) 10 ∧ ∀ σ173 : gk_C, σ173 = mk_st (gk_s σ 9 ((σ.2 9) + 1)) 10 (σ.2 9) x3 → Q (σ173.2 9) σ173)) ∧ ((¬ x4 = 0) → (w_X9_no σ 3 (fun r153 σ153 => Q r153 σ153))))) f (gk_s μ 0 0) (bit2 r x) (b2i d) (nI u)) (J := fun u d => d = (b || rAny (fun u => bt (hd (told σ) (σ.1 2 u)) r && bt (hd (told σ) (σ.1 2 u)) x) u)) ?_ ?_ (tU (told σ)) 0 b (Nat.zero_add _) (by show b = (b || false); rw [Bool.or_false])
      · exact ⟨_, l2⟩
      · intro f d hd'
        unfold wL_X9_setApart_104
        rw [hmU]
        refine ⟨fun _ => ?_, fun q => absurd (nI_le (Nat.le_refl _) (by omega)) q⟩
        have hall : d = (decide (tP (told σ) = 10) || (bt (σ.1 5 r) x || any2 σ r x)) := by
          rw [hd', hb, hb0, Bool.or_assoc]; rfl
        show (b2i d = 0 → vp_in ((gk_s μ 0 0).2 9) 10 ∧ ∀ σ173 : gk_C, σ173 = mk_st (gk_s (gk_s μ 0 0) 9 (((gk_s μ 0 0).2 9) + 1)) 10 ((gk_s μ 0 0).2 9) (bit2 r x) → Q (σ173.2 9) σ173) ∧ (¬ b2i d = 0 → w_X9_no (gk_s μ 0 0) 3 (fun r153 σ153 => Q r153 σ153))
        rw [hm, nI_1]
        refine b2i_go _ (fun q => ?_) (fun q => h3 r x hr hx rfl rfl hrx (by rw [← hall]; exact q))
        have hf : (decide (tP (told σ) = 10) || (bt (σ.1 5 r) x || any2 σ r x)) = false := by rw [← hall]; exact q
        have hlt : tP (told σ) < 10 := by
          have : ¬ tP (told σ) = 10 := fun e => by rw [decide_eq_true e] at hf; cases hf
          omega
        refine ⟨vp_in' hlt (by decide), ?_⟩
        rintro _ rfl
        rw [mk_st_in _ 10 (tP (told σ)) _ (by omega), gr_2, gs_at]
        exact h4 r x hr hx rfl rfl hrx hf
      · intro f u d hu hd' next
        have e4 : (gk_s μ 0 0).1 4 u = σ.1 2 u := (h.2.1.2.1 u (by omega)).2.2
        unfold wL_X9_setApart_104
        rw [hmU, nI_clamp (show u < 2 ^ 31 by omega), e4]
        refine ⟨fun q => absurd q (nI_ge hu (by omega)), fun _ => ⟨vp_in' (by omega) (by decide), ?_⟩⟩
        refine lm_had (T := told σ) (μ := gk_s μ 0 0) h.2.1.1.2.1 h.2.1.2.2.2.1 hw (fun i hi q => hw.2.1.1 u hu i hi q) ?_
        have eq := bit2_in (i := r) (j := x) (by omega) (by omega) (hd (told σ) (σ.1 2 u))
        have go2 : ∀ c : Bool, c = (bt (hd (told σ) (σ.1 2 u)) r && bt (hd (told σ) (σ.1 2 u)) x) → wJ_X9_setApart_137 (fun σ x3 x4 x5 => wL_X9_setApart_104 (fun σ x3 x4 => (((x4 = 0) → (vp_in (σ.2 9) 10 ∧ ∀ σ173 : gk_C, σ173 = mk_st (gk_s σ 9 ((σ.2 9) + 1)) 10 (σ.2 9) x3 → Q (σ173.2 9) σ173)) ∧ ((¬ x4 = 0) → (w_X9_no σ 3 (fun r153 σ153 => Q r153 σ153))))) f σ x3 x4 x5) (gk_s μ 0 0) (bit2 r x) (nI u) (b2i d) (b2i c) := fun c hc => by
          unfold wJ_X9_setApart_137
          rw [b2i_or, nI_1 u]
          refine next (d || c) ?_
          rw [hd', rAny, ← hc, Bool.or_assoc]
        refine dec_go' (fun q => go2 true (by rw [← eq]; exact q.symm)) (fun q => go2 false (by rw [← eq]; exact q.symm))
    · intro f k b hk hb next
      unfold wL_X9_setApart_65
      rw [hm, nI_clamp (show k < 2 ^ 31 by omega)]
      refine ⟨fun q => absurd q (nI_ge hk (by omega)), fun _ => ⟨vp_in' (by omega) (by decide), ?_⟩⟩
      have go2 : ∀ c : Bool, c = decide (μ.1 10 k = bit2 r x) → wJ_X9_setApart_92 (fun σ x3 x4 x5 => wL_X9_setApart_65 (fun σ x3 x4 => (∃ n104, wL_X9_setApart_104 (fun σ x3 x4 => (((x4 = 0) → (vp_in (σ.2 9) 10 ∧ ∀ σ173 : gk_C, σ173 = mk_st (gk_s σ 9 ((σ.2 9) + 1)) 10 (σ.2 9) x3 → Q (σ173.2 9) σ173)) ∧ ((¬ x4 = 0) → (w_X9_no σ 3 (fun r153 σ153 => Q r153 σ153))))) n104 σ x3 x4 0)) f σ x3 x4 x5) (gk_s μ 0 0) (bit2 r x) (nI k) (b2i b) (b2i c) := fun c hc => by
        unfold wJ_X9_setApart_92
        rw [b2i_or, nI_1 k]
        refine next (b || c) ?_
        rw [hb, rAny, ← hc, Bool.or_assoc]
      refine dec_go' (fun q => go2 true q.symm) (fun q => go2 false q.symm)
  rw [hm]
  refine ⟨fun c10 => loops false (decide_eq_false (fun e => c10 (by rw [e]; rfl))).symm, fun c10 => loops true (decide_eq_true ((nI_eq (b := 10) (by omega) (by decide)).mp c10)).symm⟩
theorem lb_anyone {σ : gk_C} (hw : wf (told σ)) {r x : Nat} (hr : r < 32) (hx : x < 32) {Q : Int32 → Prop} (hQ : Q (b2i (any2 σ r x))) : w_X8_isAnyoneWith σ (nI r) (nI x) Q := by
  have hU := wf_U hw
  have hn : σ.2 0 = nI (tU (told σ)) := hU.1
  unfold w_X8_isAnyoneWith
  have l := lpUp (A := Unit) (n := tU (told σ)) (W := fun f u _ => wL_X8_isAnyoneWith_2 σ Q f (nI r) (nI x) (nI u)) (J := fun u _ => ∀ w, w < u → (bt (hd (told σ) (σ.1 2 w)) r && bt (hd (told σ) (σ.1 2 w)) x) = false) ?_ ?_ (tU (told σ)) 0 () (Nat.zero_add _) (fun w hw => absurd hw (by omega))
  · exact ⟨_, l⟩
  · intro f _ hz
    unfold wL_X8_isAnyoneWith_2
    rw [hn]
    refine ⟨fun _ => ?_, fun q => absurd (nI_le (Nat.le_refl _) (by omega)) q⟩
    unfold any2 at hQ
    rw [rAny_f.mpr hz] at hQ
    exact hQ
  · intro f u _ hu hz next
    unfold wL_X8_isAnyoneWith_2
    rw [hn, nI_1 u, gk_at_in (show u < gk_rl 2 by show u < 12; omega)]
    refine ⟨fun q => absurd q (nI_ge hu (by omega)), fun _ => ?_⟩
    have stay : (bt (hd (told σ) (σ.1 2 u)) r && bt (hd (told σ) (σ.1 2 u)) x) = false → wL_X8_isAnyoneWith_2 σ Q f (nI r) (nI x) (nI (u + 1)) := fun q => next () (fun w hw => by
      by_cases e : w = u
      · rw [e]; exact q
      · exact hz w (by omega))
    refine lb_had (T := told σ) rfl hw ?_
    rw [lb_isIn _ hr, lb_isIn _ hx]
    refine b2i_go _ (fun q => stay (by rw [q]; rfl)) (fun q => ?_)
    refine b2i_go _ (fun q2 => stay (by rw [q2, Bool.and_false])) (fun q2 => ?_)
    unfold any2 at hQ
    rw [rAny_t.mpr ⟨u, hu, by rw [q, q2]; rfl⟩] at hQ
    exact hQ
theorem q_setApart : ∀ (σ μ : gk_C) (o : Int64), jI σ μ → ∀ (a0 a1 : Int32), w_L_setApart σ o a0 a1 (fun k σ1 o1 => w_X9_setApart μ a0 a1 (fun r μ1 => μ1.2 0 = k ∧ (k = 0 → o1 = r.toInt64) ∧ jI σ1 μ1)) := by
  intro σ μ o h a0 a1
  have hw := h.1
  have hR := (wf_R hw).2
  have hP := wf_P hw
  have hs : σ.2 2 = nI (tP (told σ)) := hP.1
  unfold w_L_setApart w_X8_setApart
  have n1 : vRR (told σ) a0 a1 = false → w_X9_setApart μ a0 a1 (fun r μ1 => μ1.2 0 = 1 ∧ ((1 : Int32) = 0 → o = r.toInt64) ∧ jI σ μ1) := fun q => by
    refine lm_setApart h (fun _ => ⟨rfl, fun q => absurd q (by decide), h⟩) (fun r x hr hx e1 e2 => ?_) (fun r x hr hx e1 e2 => ?_) (fun r x hr hx e1 e2 => ?_) <;>
    · exfalso
      unfold vRR vld at q
      rw [e1, e2, decide_eq_false (nI_pos (by omega)), decide_eq_false (nI_ge hr (by omega)), decide_eq_false (nI_pos (by omega)), decide_eq_false (nI_ge hx (by omega))] at q
      cases q
  refine lb_isRole (T := told σ) rfl hw ?_
  refine b2i_go _ (fun q => ⟨fun q2 => absurd rfl q2, fun _ => Or.inl ⟨rfl, n1 (by unfold vRR; rw [q]; rfl)⟩⟩) (fun q1 => ?_)
  refine lb_isRole (T := told σ) rfl hw ?_
  refine b2i_go _ (fun q => ⟨fun q2 => absurd rfl q2, fun _ => Or.inl ⟨rfl, n1 (by unfold vRR; rw [q, Bool.and_false])⟩⟩) (fun q2 => ⟨fun _ => ?_, fun q => absurd q (by decide)⟩)
  have hv : vRR (told σ) a0 a1 = true := by unfold vRR; rw [q1, q2]; rfl
  obtain ⟨r, hr, rfl⟩ := vld_ex (by omega) q1
  obtain ⟨x, hx, rfl⟩ := vld_ex (by omega) q2
  have inj : ∀ {r' x' : Nat}, r' < tR (told σ) → x' < tR (told σ) → nI r = nI r' → nI x = nI x' → r' = r ∧ x' = x := fun h1 h2 e1 e2 => ⟨((nI_eq (by omega) (by omega)).mp e1).symm, ((nI_eq (by omega) (by omega)).mp e2).symm⟩
  refine ⟨fun c => ⟨fun q => absurd rfl q, fun _ => Or.inr (Or.inl ⟨rfl, ?_⟩)⟩, fun c => ⟨fun _ => ?_, fun q => absurd q (by decide)⟩⟩
  · have hrx : r = x := (nI_eq (by omega) (by omega)).mp c
    refine lm_setApart h (fun q => by rw [hv] at q; cases q) (fun r' x' hr' hx' e1 e2 _ => ⟨rfl, fun q => absurd q (by decide), h⟩) (fun r' x' hr' hx' e1 e2 c1 _ => ?_) (fun r' x' hr' hx' e1 e2 c1 _ => ?_) <;>
    · obtain ⟨rfl, rfl⟩ := inj hr' hx' e1 e2
      exact absurd hrx c1
  · have hrx : ¬ r = x := fun e => c (by rw [e])
    have bad : (decide (tP (told σ) = 10) || (bt (σ.1 5 r) x || any2 σ r x)) = true → wJ_X8_setApart_86 (fun E u => (E = gk_E1 ∧ w_X9_setApart μ (nI r) (nI x) (fun r μ1 => μ1.2 0 = 1 ∧ ((1 : Int32) = 0 → o = r.toInt64) ∧ jI u μ1)) ∨ (E = gk_E2 ∧ w_X9_setApart μ (nI r) (nI x) (fun r μ1 => μ1.2 0 = 2 ∧ ((2 : Int32) = 0 → o = r.toInt64) ∧ jI u μ1)) ∨ (E = gk_E3 ∧ w_X9_setApart μ (nI r) (nI x) (fun r μ1 => μ1.2 0 = 3 ∧ ((3 : Int32) = 0 → o = r.toInt64) ∧ jI u μ1))) (fun y x1 x2 t0 => (wJ_X8_setApart_87 (fun E u => (E = gk_E1 ∧ w_X9_setApart μ (nI r) (nI x) (fun r μ1 => μ1.2 0 = 1 ∧ ((1 : Int32) = 0 → o = r.toInt64) ∧ jI u μ1)) ∨ (E = gk_E2 ∧ w_X9_setApart μ (nI r) (nI x) (fun r μ1 => μ1.2 0 = 2 ∧ ((2 : Int32) = 0 → o = r.toInt64) ∧ jI u μ1)) ∨ (E = gk_E3 ∧ w_X9_setApart μ (nI r) (nI x) (fun r μ1 => μ1.2 0 = 3 ∧ ((3 : Int32) = 0 → o = r.toInt64) ∧ jI u μ1))) (fun r1 u => w_X9_setApart μ (nI r) (nI x) (fun r μ1 => μ1.2 0 = 0 ∧ ((0 : Int32) = 0 → r1.toInt64 = r.toInt64) ∧ jI u μ1)) y x1 x2 t0)) σ (nI r) (nI x) := fun q => ⟨fun q2 => absurd rfl q2, fun _ => Or.inr (Or.inr ⟨rfl, lm_setApart h (fun q => by rw [hv] at q; cases q) (fun r' x' hr' hx' e1 e2 c1 => by
        obtain ⟨rfl, rfl⟩ := inj hr' hx' e1 e2
        exact absurd c1 hrx) (fun r' x' hr' hx' e1 e2 c1 _ => ⟨rfl, fun q => absurd q (by decide), h⟩) (fun r' x' hr' hx' e1 e2 c1 c2 => by
        obtain ⟨rfl, rfl⟩ := inj hr' hx' e1 e2
        rw [q] at c2; cases c2)⟩)⟩
    rw [gk_at_in (show r < gk_rl 5 by show r < 12; omega), lb_isIn _ (show x < 32 by omega)]
    refine b2i_go' _ (fun q => ?_) (fun q => bad (by rw [q]; simp))
    rw [hs]
    refine ⟨fun c10 => bad ?_, fun c10 => ?_⟩
    · have := (nI_leI (a := 10) (by decide) (by omega)).mp c10
      rw [decide_eq_true (show tP (told σ) = 10 by omega)]; rfl
    · have hlt : tP (told σ) < 10 := by
        rcases Nat.lt_or_ge (tP (told σ)) 10 with e | e
        · exact e
        · exact absurd (nI_le (a := 10) e (by omega)) c10
      refine lb_anyone hw (by omega) (by omega) ?_
      refine b2i_go' _ (fun q3 => ⟨fun _ => ?_, fun q => absurd q (by decide)⟩) (fun q3 => bad (by rw [q3]; simp))
      have hf : (decide (tP (told σ) = 10) || (bt (σ.1 5 r) x || any2 σ r x)) = false := by rw [q, q3, decide_eq_false (by omega)]; rfl
      have key := jI_setApart σ (gk_s μ 0 0) r x (tP (told σ)) h hr hx hrx hlt hs (fun u hu => rAny_f.mp q3 u hu)
      unfold w_X1_part
      rw [gk_at_in (show r < gk_rl 5 by show r < 12; omega), gk_put_in σ 5 r _ (show r < gk_rl 5 by show r < 12; omega) (by omega), gk_at_in (show x < gk_rl 5 by show x < 12; omega), gk_put_in _ 5 x _ (show x < gk_rl 5 by show x < 12; omega) (by omega), gr_at, up_ne _ _ (fun e => hrx e.symm), gr_2, gr_2, hs, nI_1, gs_at]
      have eS : gk_r (gk_r σ 5 (upd (σ.1 5) r (σ.1 5 r ||| (1 <<< (nI x &&& 31))))) 5 (upd (upd (σ.1 5) r (σ.1 5 r ||| (1 <<< (nI x &&& 31)))) x (σ.1 5 x ||| (1 <<< (nI r &&& 31)))) = gk_r σ 5 (apU (σ.1 5) r x) := by
        unfold gk_r va_up apU
        congr 1
        funext j
        by_cases e : j = 5 <;> simp [e]
      rw [eS]
      exact lm_setApart h (fun q => by rw [hv] at q; cases q) (fun r' x' hr' hx' e1 e2 c1 => by
        obtain ⟨rfl, rfl⟩ := inj hr' hx' e1 e2
        exact absurd c1 hrx) (fun r' x' hr' hx' e1 e2 c1 c2 => by
        obtain ⟨rfl, rfl⟩ := inj hr' hx' e1 e2
        rw [hf] at c2; cases c2) (fun r' x' hr' hx' e1 e2 c1 c2 => by
        obtain ⟨rfl, rfl⟩ := inj hr' hx' e1 e2
        exact ⟨rfl, fun _ => rfl, key⟩)
