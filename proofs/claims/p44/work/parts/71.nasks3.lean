/-! ===== access, the table, by one role more ===== -/
theorem told_mk {σ σ' : gk_C} (h1 : ∀ r, r < 26 → σ.1 r = σ'.1 r) (h2 : ∀ i, i < 8 → σ.2 i = σ'.2 i) : told σ = told σ' := by
  unfold told
  refine Prod.ext ?_ ?_
  · funext r k
    show (if r < 26 then σ.1 r k else 0) = if r < 26 then σ'.1 r k else 0
    by_cases c : r < 26
    · rw [if_pos c, if_pos c, h1 r c]
    · rw [if_neg c, if_neg c]
  · funext i
    show (if i < 8 then σ.2 i else 0) = if i < 8 then σ'.2 i else 0
    by_cases c : i < 8
    · rw [if_pos c, if_pos c, h2 i c]
    · rw [if_neg c, if_neg c]
theorem told_r {σ σ' : gk_C} (h : told σ = told σ') {r : Nat} (hr : r < 26) : σ.1 r = σ'.1 r := (tr h hr).trans (tr (σ := σ') rfl hr).symm
theorem told_s {σ σ' : gk_C} (h : told σ = told σ') {i : Nat} (hi : i < 8) : σ.2 i = σ'.2 i := (ts h hi).trans (ts (σ := σ') rfl hi).symm
theorem told_set (σ : gk_C) (f : Nat → Int32) : told (gk_r σ 2 f) = cgT (told σ) f ((told σ).2 6) := by
  refine Prod.ext ?_ ?_
  · funext r k
    show (if r < 26 then va_up σ.1 2 f r k else 0) = va_up (told σ).1 2 f r k
    by_cases e : r = 2
    · rw [e, va_up_self, va_up_self, if_pos (by decide)]
    · rw [va_up_ne _ _ e, va_up_ne _ _ e]; rfl
  · funext i
    show (told σ).2 i = va_up (told σ).2 6 ((told σ).2 6) i
    by_cases e : i = 6
    · rw [e, va_up_self]
    · rw [va_up_ne _ _ e]
theorem told_way (σ : gk_C) (v : Int32) : told (gk_s σ 6 v) = cgT (told σ) ((told σ).1 2) v := by
  refine Prod.ext ?_ ?_
  · funext r k
    show (told σ).1 r k = va_up (told σ).1 2 ((told σ).1 2) r k
    by_cases e : r = 2
    · rw [e, va_up_self]
    · rw [va_up_ne _ _ e]
  · funext i
    show (if i < 8 then va_up σ.2 6 v i else 0) = va_up (told σ).2 6 v i
    by_cases e : i = 6
    · rw [e, va_up_self, va_up_self, if_pos (by decide)]
    · rw [va_up_ne _ _ e, va_up_ne _ _ e]; rfl
theorem upd_va (f : Nat → Int32) (k : Nat) (x : Int32) : upd f k x = va_up f k x := by
  funext j
  by_cases e : j = k
  · rw [e, up_at, va_up_self]
  · rw [up_ne _ _ e, va_up_ne _ _ e]
section BT
variable {nU nR nT j : Nat} {ρ : lk_R}
theorem bK_told {σ σ' : nk_C} (h : bK nU nR nT j ρ σ) (e : told σ'.1 = told σ.1) (e2 : σ'.2 = σ.2) : bK nU nR nT j ρ σ' := by
  obtain ⟨⟨h1, h2, h3, h4, h5, h6, h7⟩, ⟨l1, l2, l3⟩, ⟨g1, g2, g3⟩⟩ := h
  refine ⟨⟨gI_told h1 e, ⟨(told_s e (by decide)).trans h2.1, by rw [e2]; exact h2.2⟩, ⟨(told_s e (by decide)).trans h3.1, by rw [e2]; exact h3.2⟩, ⟨(told_s e (by decide)).trans h4.1, by rw [e2]; exact h4.2⟩, fun u hu i hi => ?_, fun a b ha hb => ?_, fun a b ha hb => ?_⟩, ⟨by rw [e]; exact l1, by rw [e, e2]; exact l2, fun k hk => ?_⟩, ⟨by rw [e]; exact g1, by rw [e, e2]; exact g2, fun g hg => ?_⟩⟩
  · rw [e2, told_r e (by decide)]; exact h5 u hu i hi
  · rw [e2, told_r e (by decide)]; exact h6 a b ha hb
  · rw [e2, told_r e (by decide)]; exact h7 a b ha hb
  · rw [e] at hk
    rw [told_r e (by decide)]; exact l3 k hk
  · rw [e] at hg
    rw [told_r e (show 21 < 26 by decide), told_r e (show 23 < 26 by decide)]; exact g3 g hg
theorem bK_up {k : Nat} {σ : nk_C} (h : bK nU nR nT j ρ σ) (hjk : j ≤ k) : bK nU nR nT k ρ σ := ⟨h.1, ⟨Nat.le_trans h.2.1.1 hjk, h.2.1.2⟩, ⟨Nat.le_trans h.2.2.1 hjk, h.2.2.2⟩⟩
theorem la_access {σ : gk_C} (h : gI σ) {u a r : Nat} (hu : u < tU (told σ)) (ha : a < 5) (hr : r < tT (told σ)) {Q : Int32 → gk_C → Prop} (hQ : ∀ σ1, gI σ1 → (∀ i, i < 26 → ¬ i = 3 → σ1.1 i = σ.1 i) → (∀ i, i < 8 → σ1.2 i = σ.2 i) → bt (σ1.1 3 (u * 24 + r)) a = (bt (σ.1 3 (u * 24 + r)) a || alw (dc (told σ) u a r)) → Q (dc (told σ) u a r) σ1) : w_X8_access σ (nI u) (nI a) (nI r) Q := by
  have hw := h.1
  have hU := (wf_U hw).2
  have hT := (wf_T hw).2.2
  have hn : nT (told σ) (σ.1 38) σ := ⟨rfl, fun _ => rfl⟩
  unfold w_X8_access
  refine la_ask hn hw hu ha hr ?_
  refine la_look (by decide) hn hw (fun σ1 H HG hT1 HS => ?_)
  refine lb_decided H (by decide) hw (Nat.le_refl _) hu ha hr ?_
  rw [HG]
  show _
  have ed : dcd (told σ) (gd no0 (told σ) ((told σ).2 6) ((told σ).1 2)) (rul no0 (told σ) ((told σ).2 6) u ((told σ).1 2 u) a r) u a r = dc (told σ) u a r := rfl
  rw [ed]
  have h1 : gI σ1 := gI_told h hT1.1
  have r1 : ∀ i, i < 26 → σ1.1 i = σ.1 i := fun i hi => told_r hT1.1 hi
  have s1 : ∀ i, i < 8 → σ1.2 i = σ.2 i := fun i hi => told_s hT1.1 hi
  obtain ⟨n, n1, n2⟩ := dec_rng no0 (told σ) ((told σ).2 6) ((told σ).1 2) u a r
  have n2 : dc (told σ) u a r = nI n := n2
  have j59 : ∀ σ2, gI σ2 → (∀ i, i < 26 → ¬ i = 3 → σ2.1 i = σ.1 i) → (∀ i, i < 8 → σ2.2 i = σ.2 i) → bt (σ2.1 3 (u * 24 + r)) a = (bt (σ.1 3 (u * 24 + r)) a || alw (dc (told σ) u a r)) → wJ_X8_access_59 Q σ2 (dc (told σ) u a r) := fun σ2 q1 q2 q3 q4 => by
    unfold wJ_X8_access_59
    rw [n2, gk_put_in σ2 38 n _ (show n < gk_rl 38 from n1) (by omega), ← n2]
    exact hQ _ (gI_count q1) (fun i hi h3 => (gr_ne σ2 _ (show i ≠ 38 by omega)).trans (q2 i hi h3)) q3 q4
  have j46 : alw (dc (told σ) u a r) = true → wJ_X8_access_46 (fun σ x4 => (wJ_X8_access_59 Q σ x4)) σ1 (nI u) (nI a) (nI r) (dc (told σ) u a r) := fun q => by
    unfold wJ_X8_access_46 w_X6_note w_X6_doneOn
    rw [show nI u * 24 + nI r = nI (u * 24 + r) from nI_ma u r 24, gk_at_in (show u * 24 + r < gk_rl 3 by show u * 24 + r < 288; omega)]
    show wJ_X8_access_59 Q (gk_put σ1 3 (nI (u * 24 + r)) (σ1.1 3 (u * 24 + r) ||| (1 <<< (nI a &&& 31)))) (dc (told σ) u a r)
    rw [gk_put_in σ1 3 _ _ (show u * 24 + r < gk_rl 3 by show u * 24 + r < 288; omega) (by omega)]
    refine j59 _ (gI_done h1) (fun i hi h3 => ?_) s1 ?_
    · rw [gr_ne _ _ h3]; exact r1 i hi
    · rw [gr_at, up_at, b_or, b_bit (by omega) (by omega), r1 3 (by decide), q, decide_eq_true rfl]
  have jn : alw (dc (told σ) u a r) = false → wJ_X8_access_59 Q σ1 (dc (told σ) u a r) := fun q => j59 σ1 h1 (fun i hi _ => r1 i hi) s1 (by rw [r1 3 (by decide), q, Bool.or_false])
  refine ⟨fun q => j46 (by rw [q]; rfl), fun q => ⟨fun q2 => jn ?_, fun q2 => j46 (by rw [q2]; rfl)⟩⟩
  unfold alw
  rw [decide_eq_false q, decide_eq_false q2]; rfl
theorem ln_table {σ : nk_C} (hw : wf (told σ.1)) (hU : 2 ≤ nU ∧ nU ≤ 4) (hT : 3 ≤ nT ∧ nT ≤ 6) (e1 : tU (told σ.1) = nU) (e3 : tT (told σ.1) = nT) (s5 : σ.2.2 5 = nI nU) (s12 : σ.2.2 12 = nI nT) {Q : Nat → (Nat → Int32) → nk_C → Prop} (hQ : ∀ σ1 f, told σ1.1 = told σ.1 → σ1.2 = σ.2 → (∀ x, x < nU * 5 * nT → f x = dc (told σ.1) (x % nU) (x / nU % 5) (x / nU / 5)) → Q (nU * 5 * nT) f σ1) : w_L_table σ Q := by
  have h120 : nU * 5 * nT ≤ 120 := Nat.mul_le_mul (show nU * 5 ≤ 20 by omega) hT.2
  have em : (((σ.2.2 5) * 5) * (σ.2.2 12)) = nI (nU * 5 * nT) := by
    rw [s5, s12, show nI nU * 5 = nI (nU * 5) from pk_mul nU 5, pk_mul]
  unfold w_L_table
  rw [em, nI_clamp (by omega)]
  refine ⟨⟨nI_pos (by omega), h120⟩, ?_⟩
  have l := lpUp (A := nk_C × (Nat → Int32)) (n := nU * 5 * nT) (W := fun f x z => wL_L_table_16 Q f z.1 (nI x) z.2 (nU * 5 * nT)) (J := fun x z => told z.1.1 = told σ.1 ∧ z.1.2 = σ.2 ∧ ∀ y, y < x → z.2 y = dc (told σ.1) (y % nU) (y / nU % 5) (y / nU / 5)) ?_ ?_ (nU * 5 * nT) 0 (σ, fun _ => 0) (Nat.zero_add _) ⟨rfl, rfl, fun y hy => absurd hy (by omega)⟩
  · exact ⟨_, l⟩
  · intro f z ⟨z1, z2, z3⟩
    unfold wL_L_table_16
    exact ⟨fun _ => hQ z.1 z.2 z1 z2 z3, fun q => absurd (nI_le (Nat.le_refl _) (by omega)) q⟩
  · intro f x z hx ⟨z1, z2, z3⟩ next
    unfold wL_L_table_16
    refine ⟨fun q => absurd q (nI_ge hx (by omega)), fun _ => ?_⟩
    have s5' : z.1.2.2 5 = nI nU := by rw [z2]; exact s5
    rw [s5', nI_mod (by omega) (by omega) (by omega), nI_div (by omega) (by omega) (by omega)]
    have hxd : x / nU ≤ x := Nat.div_le_self _ _
    have hxt : x / nU < 5 * nT := Nat.div_lt_of_lt_mul (by rw [← Nat.mul_assoc]; exact hx)
    rw [show nI (x / nU) - nI (x / nU) / 5 * 5 = nI (x / nU % 5) from nI_mod (b := 5) (by omega) (by omega) (by omega), show nI (x / nU) / 5 = nI (x / nU / 5) from nI_div (b := 5) (by omega) (by omega) (by omega)]
    refine ⟨nI_ne0 (by omega) (by omega), nI_ne0 (by omega) (by omega), nI_ne0 (by omega) (by omega), ?_⟩
    refine la_decide (T := told σ.1) (C := z.1.1.1 38) ⟨z1, fun _ => rfl⟩ hw (by rw [e1]; exact Nat.mod_lt _ (by omega)) (Nat.mod_lt _ (by omega)) (by rw [e3]; omega) (fun s50 h50 => ?_)
    refine ⟨vp_in' hx (by omega), ?_⟩
    rw [nI_clamp (by omega), nI_1]
    refine next ((s50, z.1.2), _) ⟨h50.1, z2, fun y hy => ?_⟩
    show upd z.2 x _ y = _
    by_cases e : y = x
    · rw [e, up_at]
    · rw [up_ne _ _ e]; exact z3 y (by omega)
theorem ln_byOne (hN : bN nU nR nT) {σ : nk_C} (h : bK nU nR nT j ρ σ) {u a r : Nat} (hu : u < nU) (ha : a < 5) (hr : r < nT) (hx : ∃ x, x < nR ∧ bt ((told σ.1).1 2 u) x = false ∧ okM (told σ.1) ((told σ.1).2 6) u a r ((told σ.1).1 2 u ||| (1 <<< (nI x &&& 31))) = true) {Q : Int32 → nk_C → Prop} (hQ : ∀ σ1, told σ1.1 = told σ.1 → σ1.2 = σ.2 → Q 1 σ1) : w_L_isByOne σ (nI u) (nI a) (nI r) Q := by
  obtain ⟨hG, -, -⟩ := h
  obtain ⟨e1, e2, e3⟩ := gR_n hG hN
  obtain ⟨⟨n1, n2⟩, ⟨n3, n4⟩, ⟨n5, n6⟩⟩ := hN
  obtain ⟨hI, hsU, hsR, hsT, hS, hH, hA⟩ := hG
  unfold w_L_isByOne
  have l := lpUp (A := nk_C × Bool) (n := nR) (W := fun f i z => wL_L_isByOne_6 Q f z.1 (nI u) (nI a) (nI r) (b2i z.2) (nI i)) (J := fun i z => told z.1.1 = told σ.1 ∧ z.1.2 = σ.2 ∧ ∀ x, x < i → bt ((told σ.1).1 2 u) x = false → okM (told σ.1) ((told σ.1).2 6) u a r ((told σ.1).1 2 u ||| (1 <<< (nI x &&& 31))) = true → z.2 = true) ?_ ?_ nR 0 (σ, false) (Nat.zero_add _) ⟨rfl, rfl, fun y hy => absurd hy (by omega)⟩
  · exact ⟨_, by omega, l⟩
  · intro f z ⟨z1, z2, z3⟩
    unfold wL_L_isByOne_6
    rw [show z.1.2.2 9 = nI nR by rw [z2]; exact hsR.2]
    refine ⟨fun _ => ⟨b2i_z _, ?_⟩, fun q => absurd (nI_le (Nat.le_refl _) (by omega)) q⟩
    obtain ⟨x, x1, x2, x3⟩ := hx
    rw [z3 x x1 x2 x3]
    exact hQ z.1 z1 z2
  · intro f i z hi ⟨z1, z2, z3⟩ next
    obtain ⟨⟨s, s2⟩, fl⟩ := z
    have z1 : told s = told σ.1 := z1
    have z2 : s2 = σ.2 := z2
    subst z2
    show wL_L_isByOne_6 Q (f + 1) (s, σ.2) (nI u) (nI a) (nI r) (b2i fl) (nI i)
    unfold wL_L_isByOne_6
    rw [nI_1]
    have hIs : gI s := gI_told hI z1
    have eU : tU (told s) = nU := by rw [z1]; exact e1
    have eR : tR (told s) = nR := by rw [z1]; exact e2
    have eT : tT (told s) = nT := by rw [z1]; exact e3
    have hs2 : s.1 2 u = (told σ.1).1 2 u := by rw [← z1]; rfl
    refine ⟨fun q => absurd (by rw [← hsR.2]; exact q) (nI_ge hi (by omega)), fun _ => ⟨vp_in' (by omega) (by decide), vp_in' (by omega) (by decide), ?_⟩⟩
    show (σ.2.1 (22 + (nI u).toNatClampNeg) (nI i).toNatClampNeg = 0 → _) ∧ _
    rw [nI_clamp (show u < 2 ^ 31 by omega), nI_clamp (show i < 2 ^ 31 by omega), hS u hu i hi]
    refine b2i_go _ (fun q => ?_) (fun q => ?_)
    · have q : bt ((told σ.1).1 2 u) i = false := q
      have esp : rSplit ((told s).1 5) (tR (told s)) (hd (told s) (aft (s.1 2 u) (nI i) 1)) = rSplit ((told σ.1).1 5) (tR (told σ.1)) (hd (told σ.1) ((told σ.1).1 2 u ||| (1 <<< (nI i &&& 31)))) := by
        rw [z1, hs2]
        unfold aft
        rw [if_neg (by decide)]
      refine la_setRole (σ := s) hIs (by omega) (by omega) (fun _ q2 => ⟨rfl, ?_⟩) (fun q2 hI2 => ?_)
      · refine la_near (σ := s) (T := told σ.1) (C := s.1 38) ⟨z1, fun _ => rfl⟩ hI.1 (by omega) (by omega) ?_
        have hne : ¬ rNearI (-1) (rNear ((told σ.1).1 4) (tR (told σ.1)) ((told σ.1).1 2 u) i) = 1 := by
          cases hk : rNear ((told σ.1).1 4) (tR (told σ.1)) ((told σ.1).1 2 u) i with
          | none => decide
          | some k =>
            intro c
            have hk12 := rNear_lt hk
            have : k + 1 = 1 := (nI_eq (b := 1) (by omega) (by decide)).mp c
            have k0 : k = 0 := by omega
            have := (rNear_walk (by omega) hk).2.1
            rw [k0] at this
            have this : bt ((told σ.1).1 2 u) i = true := this
            rw [q] at this; cases this
        refine ⟨fun _ => next ((s, σ.2), fl) ⟨z1, rfl, fun x hx2 b1 b2 => ?_⟩, fun c => absurd c hne⟩
        by_cases e : x = i
        · exfalso
          rw [e] at b2
          unfold okM at b2
          rw [← esp, q2] at b2
          cases b2
        · exact z3 x (by omega) b1 b2
      · generalize hs38 : gk_r s 2 (upd (s.1 2) u (aft (s.1 2 u) (nI i) 1)) = s38 at hI2 ⊢
        have t38 : told s38 = cgT (told σ.1) (va_up ((told σ.1).1 2) u ((told σ.1).1 2 u ||| (1 <<< (nI i &&& 31)))) ((told σ.1).2 6) := by
          rw [← hs38, told_set, z1, upd_va, hs2, show s.1 2 = (told σ.1).1 2 by rw [← z1]; rfl]
          unfold aft
          rw [if_neg (by decide)]
        have ed : dc (told s38) u a r = dec no0 (told σ.1) ((told σ.1).2 6) (va_up ((told σ.1).1 2) u ((told σ.1).1 2 u ||| (1 <<< (nI i &&& 31)))) u a r := by
          unfold dc
          rw [t38, dec_cg]
          rfl
        refine la_decide (σ := s38) (T := told s38) (C := s38.1 38) ⟨rfl, fun _ => rfl⟩ hI2.1 (by rw [t38]; show u < tU (told σ.1); omega) ha (by rw [t38]; show r < tT (told σ.1); omega) (fun s49 h49 => ?_)
        have hI49 : gI s49 := gI_told hI2 h49.1
        have r49 : ∀ i, i < 26 → s49.1 i = s38.1 i := fun i hi => told_r h49.1 hi
        have back : aft (s49.1 2 u) (nI i) 0 = s.1 2 u := by
          rw [r49 2 (by decide), ← hs38, gr_at, up_at, hs2]
          unfold aft
          rw [if_pos rfl, if_neg (by decide)]
          refine b_ext (fun j hj => ?_)
          rw [b_and, b_or, b_not _ hj, b_bit (by omega) hj]
          by_cases e : j = i
          · rw [e, q, decide_eq_true rfl]; rfl
          · rw [decide_eq_false e]; simp
        have tb : told (gk_r s49 2 (upd (s49.1 2) u (aft (s49.1 2 u) (nI i) 0))) = told σ.1 := by
          rw [back, ← z1]
          refine told_mk (fun k hk => ?_) (fun k hk => ?_)
          · by_cases e : k = 2
            · subst e
              rw [gr_at, r49 2 (by decide), ← hs38, gr_at]
              funext m
              by_cases e : m = u
              · rw [e, up_at]
              · rw [up_ne _ _ e, up_ne _ _ e]
            · rw [gr_ne _ _ e, r49 k hk, ← hs38, gr_ne _ _ e]
          · rw [gr_2, told_s h49.1 hk, ← hs38]; rfl
        have hok : okM (told σ.1) ((told σ.1).2 6) u a r ((told σ.1).1 2 u ||| (1 <<< (nI i &&& 31))) = alw (dc (told s38) u a r) := by
          unfold okM
          rw [← esp, q2, ed]; rfl
        have go : ∀ (x : Bool), (alw (dc (told s38) u a r) = true → x = true) → w_X8_setRole s49 (nI u) (nI i) 0 (fun E s84 => (E = gk_E3 ∧ (w_X8_near s84 (nI u) (nI i) (fun r100 => ((¬ r100 = 1) → (wL_L_isByOne_6 Q f (s84, σ.2) (nI u) (nI a) (nI r) (b2i fl ||| b2i x) (nI (i + 1)))) ∧ ((r100 = 1) → (Q 0 (s84, σ.2))))))) (fun r84 s84 => (wL_L_isByOne_6 Q f (s84, σ.2) (nI u) (nI a) (nI r) (b2i fl ||| b2i x) (nI (i + 1)))) := fun x hx1 => by
          refine la_setRole (σ := s49) hI49 (by rw [h49.1, t38]; show u < tU (told σ.1); omega) (by rw [h49.1, t38]; show i < tR (told σ.1); omega) (fun c _ => absurd rfl c) (fun _ _ => ?_)
          rw [b2i_or]
          refine next ((_, σ.2), fl || x) ⟨tb, rfl, fun y hy b1 b2 => ?_⟩
          by_cases e : y = i
          · rw [e, hok] at b2
            show (fl || x) = true
            rw [hx1 b2, Bool.or_true]
          · show (fl || x) = true
            rw [show fl = true from z3 y (by omega) b1 b2]; rfl
        refine ⟨fun _ => go true (fun _ => rfl), fun c1 => ⟨fun c3 => go false (fun q3 => ?_), fun _ => go true (fun _ => rfl)⟩⟩
        unfold alw at q3
        rw [decide_eq_false c1, decide_eq_false c3] at q3
        cases q3
    · refine next ((s, σ.2), fl) ⟨z1, rfl, fun x hx2 b1 b2 => ?_⟩
      by_cases e : x = i
      · have q : bt ((told σ.1).1 2 u) i = true := q
        rw [e, q] at b1; cases b1
      · exact z3 x (by omega) b1 b2
end BT
