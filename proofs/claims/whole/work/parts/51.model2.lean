/-! ===== layer B: labels, walls, grants and decisions of the reference ===== -/
def barI (T : gk_C) (u a r : Nat) : Int32 := if lab T u a r = true then 4 else if wal T u r = true then 5 else 0
section M2
variable {T μ : gk_C}
theorem lm_isWalled (hM : jM T μ) (hw : wf T) {u r : Nat} (hu : u < tU T) (hr : r < tT T) {Q : Int32 → Prop} (hQ : Q (b2i (wal T u r))) : w_X9_isWalled μ (nI u) (nI r) Q := by
  have hT := wf_T hw
  have hU := (wf_U hw).2
  have hn : μ.2 11 = nI (tT T) := hM.1.2.2.2.1.trans hT.1
  unfold w_X9_isWalled
  unfold wal at hQ
  have l := lpUp (A := Unit) (n := tT T) (W := fun f k _ => wL_X9_isWalled_2 μ Q f (nI u) (nI r) (nI k)) (J := fun k _ => (!decide (T.1 9 r = -1) && rAny (fun k => !decide (T.1 3 (u * 24 + k) = 0) && decide (T.1 9 k = T.1 9 r) && !decide (T.1 10 k = T.1 10 r)) k) = false) ?_ ?_ (tT T) 0 () (Nat.zero_add _) (by simp [rAny])
  · exact ⟨_, l⟩
  · intro f _ hz
    unfold wL_X9_isWalled_2
    rw [hn]
    refine ⟨fun _ => by rw [hz] at hQ; exact hQ, fun q => absurd (nI_le (Nat.le_refl _) (by omega)) q⟩
  · intro f k _ hk hz next
    unfold wL_X9_isWalled_2
    rw [hn, show nI u * 24 + nI k = nI (u * 24 + k) from nI_ma u k 24, nI_clamp (show u * 24 + k < 2 ^ 31 by omega), nI_clamp (show k < 2 ^ 31 by omega), nI_clamp (show r < 2 ^ 31 by omega), hM.2.2.1 _ (by omega), (hM.2.2.2.2.1 k (by omega)).2.1, (hM.2.2.2.2.1 k (by omega)).2.2, (hM.2.2.2.2.1 r (by omega)).2.1, (hM.2.2.2.2.1 r (by omega)).2.2, nI_1]
    refine ⟨fun q => absurd q (nI_ge hk (by omega)), fun _ => ⟨vp_in' (by omega) (by decide), ?_⟩⟩
    have hv := vp_in' (show k < 24 by omega) (by decide)
    have hv2 := vp_in' (show r < 24 by omega) (by decide)
    have stay : (!decide (T.1 9 r = -1) && (!decide (T.1 3 (u * 24 + k) = 0) && decide (T.1 9 k = T.1 9 r) && !decide (T.1 10 k = T.1 10 r))) = false → wL_X9_isWalled_2 μ Q f (nI u) (nI r) (nI (k + 1)) := fun q => next () (by
      rw [rAny]
      cases h1 : decide (T.1 9 r = -1)
      · rw [h1] at q hz
        simp only [Bool.not_false, Bool.true_and] at q hz ⊢
        rw [hz, Bool.false_or]
        exact q
      · rfl)
    refine dec_go (fun q1 => stay (by rw [q1]; simp)) (fun q1 => ⟨hv2, ?_⟩)
    refine dec_go (fun q2 => stay (by rw [q2]; rfl)) (fun q2 => ⟨hv, hv2, ?_⟩)
    refine dec_go' (fun q3 => ⟨hv, hv2, ?_⟩) (fun q3 => stay (by rw [q3]; simp))
    refine dec_go (fun q4 => stay (by rw [q4]; simp)) (fun q4 => ?_)
    rw [q2, rAny_t.mpr ⟨k, hk, by rw [q1, q3, q4]; rfl⟩] at hQ
    exact hQ
theorem lm_barred (hM : jM T μ) (hw : wf T) {u a r : Nat} (hu : u < tU T) (ha : a < 5) (hr : r < tT T) {Q : Int32 → Prop} (hQ : Q (barI T u a r)) : w_X9_barred μ (nI u) (nI a) (nI r) Q := by
  have hT := (wf_T hw).2.2
  have hU := (wf_U hw).2
  have hv := vp_in' (show u < 12 by omega) (by decide)
  have hv2 := vp_in' (show r < 24 by omega) (by decide)
  have j45 : lab T u a r = false → wJ_X9_barred_45 μ Q (nI u) (nI r) := fun q => by
    unfold wJ_X9_barred_45
    refine lm_isWalled hM hw hu hr ?_
    unfold barI at hQ
    rw [if_neg (by rw [q]; decide)] at hQ
    refine b2i_go _ (fun q1 => ?_) (fun q1 => ?_)
    · rw [if_neg (by rw [q1]; decide)] at hQ; exact hQ
    · rw [if_pos q1] at hQ; exact hQ
  have h4 : lab T u a r = true → Q 4 := fun q => by
    unfold barI at hQ
    rw [if_pos q] at hQ; exact hQ
  unfold w_X9_barred wJ_X9_barred_19 w_X9_isIn
  rw [nI_clamp (show r < 2 ^ 31 by omega), nI_clamp (show u < 2 ^ 31 by omega), (hM.2.1 u (by omega)).1, (hM.2.2.2.2.1 r (by omega)).1]
  have s : a = 0 ∨ (1 ≤ a ∧ a ≤ 3) ∨ a = 4 := by omega
  rcases s with rfl | s | rfl
  · refine ⟨fun q => absurd rfl q, fun _ => ⟨hv2, hv, fun q => h4 ?_, fun q => ⟨fun _ => ⟨fun _ => j45 ?_, fun q2 => absurd rfl q2⟩, fun q2 => absurd (by decide) q2⟩⟩⟩
    · unfold lab
      rw [if_pos rfl, decide_eq_false (Int32.not_le.mpr q)]; rfl
    · unfold lab
      rw [if_pos rfl, decide_eq_true (Int32.not_lt.mp q)]; rfl
  · refine ⟨fun _ => ⟨fun q => absurd q (nI_nlt (b := 1) s.1 (by omega)), fun _ => ⟨fun q => absurd q (nI_nlt (a := 3) s.2 (by decide)), fun _ => ⟨fun q => absurd q (by decide), fun _ => ⟨hv2, hv, fun q => j45 ?_, fun q => h4 ?_⟩⟩⟩⟩, fun q => absurd ((nI_eq (b := 0) (by omega) (by decide)).mp q) (by omega)⟩
    · unfold lab
      rw [if_neg (by omega), if_neg (by omega), decide_eq_true q]; rfl
    · unfold lab
      rw [if_neg (by omega), if_neg (by omega), decide_eq_false q]; rfl
  · refine ⟨fun _ => ⟨fun q => absurd q (by decide), fun _ => ⟨fun _ => ⟨fun _ => j45 rfl, fun q2 => absurd rfl q2⟩, fun q => absurd (by decide) q⟩⟩, fun q => absurd q (by decide)⟩
theorem mat_ok {lo : Nat → Bool} {u : Nat} {s : Int32} {a r k : Nat} (h : mat lo T u s a r k = true) : bene T r (ab T k) = true ∧ (stO T u s k).isSome = true := by
  unfold mat mU whr at h
  simp only [Bool.and_eq_true, Bool.or_eq_true, decide_eq_true_eq] at h
  refine ⟨?_, h.1.1.2⟩
  rcases h.2 with q | q
  · unfold bene
    rw [decide_eq_true q]; rfl
  · exact q.2
theorem mb_0 {P : Nat → Bool} {n : Nat} (hn : n ≤ 32) : mb P n = 0 ↔ ∀ k, k < n → P k = false := by
  rw [b_eq0]
  constructor
  · intro h k hk
    have h1 := h k (by omega)
    rw [mb_b _ hn (by omega), decide_eq_true hk, Bool.true_and] at h1
    exact h1
  · intro h i hi
    rw [mb_b _ hn hi]
    by_cases q : i < n
    · rw [h i q, Bool.and_false]
    · rw [decide_eq_false q]; rfl
theorem lm_deciding {lo : Nat → Bool} (hM : jM T μ) (hw : wf T) (hlo : ∀ k, k < tL T → decide (nI k = μ.2 35) = lo k) {s : Int32} {f : Nat → Int32} (hN : isN T s f) {u a r : Nat} (hu : u < tU T) (ha : a < 5) (hr : r < tT T) {wgh : Int32} {Q : Int32 → Prop} (hQ : Q (oI (bs (mat lo T u s a r) (wt T wgh u s) (tL T)))) : w_X9_deciding μ (nI u) f (nI a) (nI r) wgh Q := by
  have hL := (wf_L hw).2
  unfold w_X9_deciding
  refine lm_matching hM hw hlo hN hu ha hr ?_
  exact lm_weigh hM hw hN hu hr (P := mat lo T u s a r) (fun k hk => by rw [mb_b _ (by omega) (by omega)]; simp [hk]) (mb_0 (by omega)) (fun k _ hp => mat_ok hp) hQ
theorem bs_lt30 (hw : wf T) {P : Nat → Bool} {w : Nat → Int32} {b : Nat} (h : bs P w (tL T) = some b) : b < 30 ∧ b < tL T := by
  have := (bs_lt h).1
  have := (wf_L hw).2
  omega
theorem lm_byRules {lo : Nat → Bool} (hM : jM T μ) (hw : wf T) (hlo : ∀ k, k < tL T → decide (nI k = μ.2 35) = lo k) {s : Int32} {f : Nat → Int32} (hN : isN T s f) {u a r : Nat} (hu : u < tU T) (ha : a < 5) (hr : r < tT T) {wgh : Int32} {Q : Int32 → Prop} (hQ : Q (rul lo T wgh u s a r)) : w_X9_byRules μ (nI u) f (nI a) (nI r) wgh Q := by
  have hL := (wf_L hw).2
  unfold w_X9_byRules
  refine lm_barred hM hw hu ha hr ?_
  unfold rul at hQ
  unfold barI
  by_cases q1 : lab T u a r = true
  · rw [if_pos q1] at hQ ⊢
    exact ⟨fun q => absurd q (by decide), fun _ => hQ⟩
  · rw [if_neg q1] at hQ ⊢
    by_cases q2 : wal T u r = true
    · rw [if_pos q2] at hQ ⊢
      exact ⟨fun q => absurd q (by decide), fun _ => hQ⟩
    · rw [if_neg q2] at hQ ⊢
      refine ⟨fun _ => ?_, fun q => absurd rfl q⟩
      refine lm_deciding hM hw hlo hN hu ha hr ?_
      cases hb : bs (mat lo T u s a r) (wt T wgh u s) (tL T) with
      | none =>
        rw [hb] at hQ
        exact ⟨fun q => absurd rfl q, fun _ => hQ⟩
      | some b =>
        obtain ⟨b1, b2⟩ := bs_lt30 hw hb
        rw [hb] at hQ
        refine ⟨fun _ => ⟨vp_in' b1 (by decide), ?_⟩, fun q => ?_⟩
        · show (μ.1 17 (nI b).toNatClampNeg = 0 → _) ∧ (¬ μ.1 17 (nI b).toNatClampNeg = 0 → _)
          rw [nI_clamp (by omega), (hM.2.2.2.2.2.2.1 b b2).1]
          unfold rulO at hQ
          refine ⟨fun q => ?_, fun q => ?_⟩
          · simp only [q] at hQ
            exact hQ
          · have q3 := ((hw.2.2.2.2.1 b b2).1).resolve_left q
            simp only [q3] at hQ
            exact hQ
        · exact absurd (by rw [show nI b = -1 from q]; decide) (nI_pos (show b < 2 ^ 31 by omega))
theorem lm_isByRules {lo : Nat → Bool} (hM : jM T μ) (hw : wf T) (hlo : ∀ k, k < tL T → decide (nI k = μ.2 35) = lo k) {S : Nat → Int32} {f : Nat → Int32} {g : Nat} (hg : g < tG T) (hN : isN T (S (gf T g)) f) {wgh : Int32} {Q : Int32 → Prop} (hQ : Q (b2i (byR lo T wgh S g))) : w_X9_isByRules μ (nI g) f wgh Q := by
  have hG := (wf_G hw).2
  obtain ⟨⟨f1, f2⟩, -, ⟨a1, a2⟩, ⟨o1, o2⟩⟩ := wf_gr hw hg
  obtain ⟨m1, -, m3, m4, -⟩ := hM.2.2.2.2.2.2.2.1 g hg
  have hv := vp_in' (show g < 30 by omega) (by decide)
  unfold w_X9_isByRules
  rw [nI_clamp (by omega), m1, m3, m4, f1, a1, o1]
  unfold byR at hQ
  refine ⟨hv, hv, hv, lm_byRules hM hw hlo hN f2 a2 o2 ?_⟩
  refine dec_go' (fun h1 => ⟨hv, hv, ?_⟩) (fun h1 => ?_)
  · rw [h1, Bool.true_and] at hQ
    refine lm_byRules (a := 4) hM hw hlo hN f2 (by decide) o2 ?_
    refine dec_go' (fun h2 => ?_) (fun h2 => ?_) <;> · rw [h2] at hQ; exact hQ
  · rw [h1] at hQ; exact hQ
theorem lm_leaning (hM : jM T μ) (hw : wf T) {B : Nat → Bool} {x : Int32} (hx : ∀ g, g < tG T → bt x g = B g) {Q : Int32 → Prop} (hQ : Q (gdB T B (tG T))) : w_X9_leaning μ x Q := by
  have hG := wf_G hw
  have hn : μ.2 26 = nI (tG T) := hM.1.2.2.2.2.2.1.trans hG.1
  have hcl : μ.2 1 = T.2 7 := hM.1.2.2.2.2.2.2.2
  unfold w_X9_leaning
  have l := lpUp (A := Unit) (n := tG T) (W := fun f g _ => wL_X9_leaning_4 μ Q f x (gdB T B g) (nI g)) (J := fun _ _ => True) ?_ ?_ (tG T) 0 () (Nat.zero_add _) trivial
  · exact ⟨_, l⟩
  · intro f _ _
    unfold wL_X9_leaning_4
    rw [hn]
    exact ⟨fun _ => hQ, fun q => absurd (nI_le (Nat.le_refl _) (by omega)) q⟩
  · intro f g _ hg _ next
    have hv := vp_in' (show g < 30 by omega) (by decide)
    obtain ⟨⟨f1, f2⟩, -, ⟨a1, a2⟩, ⟨o1, o2⟩⟩ := wf_gr hw hg
    obtain ⟨m1, m2, m3, m4, m5, m6⟩ := hM.2.2.2.2.2.2.2.1 g hg
    have fin : ∀ b : Bool, b = (B g || lea T (gdB T B g) g) → wJ_X9_leaning_132 μ (fun x1 x2 x3 => wL_X9_leaning_4 μ Q f x1 x2 x3) x (gdB T B g) (nI g) (b2i b) := fun b hb => by
      simp only [wJ_X9_leaning_132, wJ_X9_leaning_157, wJ_X9_leaning_158]
      rw [nI_clamp (by omega), m6, hcl, nI_1, show gdB T B g ||| 0 = gdB T B g from b_ext (fun i _ => by rw [b_or, b_0, Bool.or_false])]
      have h2 := next () trivial
      have stay : (isT T g && (B g || lea T (gdB T B g) g)) = false → wL_X9_leaning_4 μ Q f x (gdB T B g) (nI (g + 1)) := fun q => by
        rw [gdB_f q] at h2; exact h2
      refine b2i_go _ (fun q1 => stay (by rw [← hb, q1, Bool.and_false])) (fun q1 => ⟨hv, ?_⟩)
      refine dec_go (fun q2 => stay (by unfold isT; rw [q2]; rfl)) (fun q2 => ?_)
      rw [gdB_t (by unfold isT; rw [← hb, q1, q2]; rfl)] at h2
      exact h2
    have inner : ∀ b0 : Bool, b0 = B g → ∃ n30, wL_X9_leaning_30 μ (fun x1 x2 x3 x4 => (wJ_X9_leaning_132 μ (fun x1 x2 x3 => wL_X9_leaning_4 μ Q f x1 x2 x3) x1 x2 x3 x4)) n30 x (gdB T B g) (nI g) (b2i b0) 0 := fun b0 hb0 => by
      have l2 := lpUp (A := Bool) (n := g) (W := fun f2 h b => wL_X9_leaning_30 μ (fun x1 x2 x3 x4 => (wJ_X9_leaning_132 μ (fun x1 x2 x3 => wL_X9_leaning_4 μ Q f x1 x2 x3) x1 x2 x3 x4)) f2 x (gdB T B g) (nI g) (b2i b) (nI h)) (J := fun h b => (b = true ∧ (B g || lea T (gdB T B g) g) = true) ∨ (b = false ∧ B g = false ∧ ∀ j, j < h → (bt (gdB T B g) j && giv T (gf T g) (ga T g) (go T g) j && !decide (T.1 24 j ≤ T.1 24 g)) = false)) ?_ ?_ g 0 b0 (Nat.zero_add _) (by
        cases b0
        · exact Or.inr ⟨rfl, hb0.symm, fun j hj => absurd hj (by omega)⟩
        · exact Or.inl ⟨rfl, by rw [← hb0]; rfl⟩)
      · exact ⟨_, l2⟩
      · intro f2 b hb
        unfold wL_X9_leaning_30
        refine ⟨fun _ => fin b ?_, fun q => absurd (nI_le (Nat.le_refl _) (by omega)) q⟩
        rcases hb with ⟨rfl, h1⟩ | ⟨rfl, h1, h2⟩
        · exact h1.symm
        · unfold lea
          rw [h1, rAny_f.mpr h2]; rfl
      · intro f2 h b hh hb next2
        unfold wL_X9_leaning_30
        refine ⟨fun q => absurd q (nI_ge hh (by omega)), fun _ => ⟨fun q => ?_, fun q => ?_⟩⟩
        · rw [b2i_n0] at q
          rcases hb with ⟨rfl, h1⟩ | ⟨h1, -⟩
          · exact fin true h1.symm
          · rw [h1] at q; cases q
        · rw [b2i_0] at q
          obtain ⟨-, hB, hall⟩ := hb.resolve_left (fun h1 => by rw [h1.1] at q; cases q)
          subst q
          have hv2 := vp_in' (show h < 30 by omega) (by decide)
          obtain ⟨n1, n2, n3, n4, n5, n6⟩ := hM.2.2.2.2.2.2.2.1 h (by omega)
          have o3 := (wf_gr hw (show h < tG T by omega)).2.2.2
          have no : (bt (gdB T B g) h && giv T (gf T g) (ga T g) (go T g) h && !decide (T.1 24 h ≤ T.1 24 g)) = false → wJ_X9_leaning_123 μ (fun x1 x2 x3 x4 x5 => wL_X9_leaning_30 μ (fun x1 x2 x3 x4 => (wJ_X9_leaning_132 μ (fun x1 x2 x3 => wL_X9_leaning_4 μ Q f x1 x2 x3) x1 x2 x3 x4)) f2 x1 x2 x3 x4 x5) x (gdB T B g) (nI g) (nI h) := fun q => by
            unfold wJ_X9_leaning_123
            rw [nI_1]
            refine next2 false (Or.inr ⟨rfl, hB, fun j hj => ?_⟩)
            by_cases e : j = h
            · rw [e]; exact q
            · exact hall j (by omega)
          rw [b_get _ (show h < 32 by omega), nI_clamp (show h < 2 ^ 31 by omega), nI_clamp (show g < 2 ^ 31 by omega), n2, m1, n3, m3, n5, m5, n4, m4, o1, o3.1, nI_1, f1, a1]
          refine b2i_go _ (fun q1 => no (by rw [q1]; rfl)) (fun q1 => ⟨hv2, hv, ?_⟩)
          refine dec_go' (fun q2 => ⟨hv2, hv, ?_⟩) (fun q2 => no (by unfold giv; rw [q2]; simp))
          refine dec_go' (fun q3 => ⟨hv2, hv, ?_⟩) (fun q3 => no (by unfold giv; rw [q3]; simp))
          refine dec_go (fun q4 => no (by rw [q4]; simp)) (fun q4 => ⟨hv, hv2, ?_⟩)
          refine lm_farNow hM hw o2 o3.2 ?_
          refine dec_go (fun q5 => no ?_) (fun q5 => ?_)
          · rw [farI_m1 hw o2 o3.2] at q5
            have q6 : bene T (go T g) (go T h) = false := by simpa using q5
            unfold giv; rw [q6]; simp
          · rw [farI_m1 hw o2 o3.2] at q5
            have q6 : bene T (go T g) (go T h) = true := by simpa using q5
            refine next2 true (Or.inl ⟨rfl, ?_⟩)
            rw [hB, Bool.false_or]
            exact rAny_t.mpr ⟨h, hh, by unfold giv; rw [q1, q2, q3, q4, q6]; rfl⟩
    unfold wL_X9_leaning_4
    rw [hn, b_get _ (show g < 32 by omega), hx g hg]
    refine ⟨fun q => absurd q (nI_ge hg (by omega)), fun _ => ?_⟩
    exact b2i_go _ (fun q => inner false q.symm) (fun q => inner true q.symm)
/-- the rows of nears of all users -/
def isNN (T : gk_C) (S : Nat → Int32) (N : Nat → Option (Nat → Int32)) : Prop := ∀ u, u < tU T → ∃ f, N u = some f ∧ isN T (S u) f
theorem lm_good {lo : Nat → Bool} (hM : jM T μ) (hw : wf T) (hlo : ∀ k, k < tL T → decide (nI k = μ.2 35) = lo k) {S : Nat → Int32} {N : Nat → Option (Nat → Int32)} (hN : isNN T S N) {wgh : Int32} {Q : Int32 → Prop} (hQ : Q (gd lo T wgh S)) : w_X9_good μ N wgh Q := by
  have hG := wf_G hw
  have hU := (wf_U hw).2
  have hn : μ.2 26 = nI (tG T) := hM.1.2.2.2.2.2.1.trans hG.1
  have hcl : μ.2 1 = T.2 7 := hM.1.2.2.2.2.2.2.2
  unfold w_X9_good
  have l := lpUp (A := Int32) (n := tG T) (W := fun f g z => wL_X9_good_5 μ N (fun x3 => (w_X9_leaning μ x3 (fun r66 => Q r66))) f wgh z (nI g)) (J := fun g z => z = mb (fun g => isT T g && byR lo T wgh S g) g) ?_ ?_ (tG T) 0 0 (Nat.zero_add _) rfl
  · exact ⟨_, l⟩
  · intro f z hz
    unfold wL_X9_good_5
    rw [hn]
    refine ⟨fun _ => ?_, fun q => absurd (nI_le (Nat.le_refl _) (by omega)) q⟩
    refine lm_leaning hM hw (B := fun g => isT T g && byR lo T wgh S g) (fun g hg => by rw [hz, mb_b _ (by omega) (by omega)]; simp [hg]) ?_
    unfold gd at hQ
    rw [gdB_congr (R := byR lo T wgh S) (fun g _ q => by rw [q, Bool.true_and])]
    exact hQ
  · intro f g z hg hz next
    have hv := vp_in' (show g < 30 by omega) (by decide)
    obtain ⟨⟨f1, f2⟩, -, -, -⟩ := wf_gr hw hg
    obtain ⟨m1, m2, m3, m4, m5, m6⟩ := hM.2.2.2.2.2.2.2.1 g hg
    obtain ⟨fe, hfe, hisN⟩ := hN (gf T g) f2
    unfold wL_X9_good_5
    rw [hn, nI_clamp (show g < 2 ^ 31 by omega), m6, m1, hcl, f1, nI_clamp (show gf T g < 2 ^ 31 by omega)]
    refine ⟨fun q => absurd q (nI_ge hg (by omega)), fun _ => ⟨hv, ?_⟩⟩
    have no : (isT T g && byR lo T wgh S g) = false → wJ_X9_good_55 μ N (fun x2 x4 t0 t1 => (wJ_X9_good_56 μ N (fun x2 x3 x4 => wL_X9_good_5 μ N (fun x3 => (w_X9_leaning μ x3 (fun r66 => Q r66))) f x2 x3 x4) x2 x4 t0 t1)) wgh (nI g) z := fun q => by
      simp only [wJ_X9_good_55, wJ_X9_good_56]
      rw [nI_1, show z ||| 0 = z from b_ext (fun i _ => by rw [b_or, b_0, Bool.or_false])]
      exact next z (by rw [mb_f (P := fun g => isT T g && byR lo T wgh S g) q]; exact hz)
    refine dec_go (fun q1 => no (by unfold isT; rw [q1]; rfl)) (fun q1 => ⟨hv, vp_in' (by omega) (by decide), fe, hfe, ?_⟩)
    refine lm_isByRules hM hw hlo hg hisN ?_
    refine b2i_go _ (fun q2 => no (by rw [q2, Bool.and_false])) (fun q2 => ?_)
    unfold wJ_X9_good_56
    rw [nI_1]
    exact next _ (by rw [mb_t (P := fun g => isT T g && byR lo T wgh S g) (by unfold isT; rw [q1, q2]; rfl), hz])
theorem lm_granting (hM : jM T μ) (hw : wf T) {u a r : Nat} (hr : r < tT T) {G : Int32} {Q : Int32 → Prop} (hQ : Q (oI (gfr T G u a r))) : w_X9_granting μ G (nI u) (nI a) (nI r) Q := by
  have hG := wf_G hw
  have hT := (wf_T hw).2.2
  have hn : μ.2 26 = nI (tG T) := hM.1.2.2.2.2.2.1.trans hG.1
  unfold w_X9_granting
  unfold gfr at hQ
  have l := lpUp (A := Unit) (n := tG T) (W := fun f g _ => wL_X9_granting_3 μ Q f G (nI u) (nI a) (nI r) (nI g)) (J := fun g _ => fo (fun g => bt G g && giv T u a r g) g = none) ?_ ?_ (tG T) 0 () (Nat.zero_add _) rfl
  · exact ⟨_, l⟩
  · intro f _ hz
    unfold wL_X9_granting_3
    rw [hn]
    exact ⟨fun _ => by rw [hz] at hQ; exact hQ, fun q => absurd (nI_le (Nat.le_refl _) (by omega)) q⟩
  · intro f g _ hg hz next
    have hv := vp_in' (show g < 30 by omega) (by decide)
    have o1 := (wf_gr hw hg).2.2.2
    obtain ⟨m1, m2, m3, m4, m5, m6⟩ := hM.2.2.2.2.2.2.2.1 g hg
    unfold wL_X9_granting_3
    rw [hn, b_get _ (show g < 32 by omega), nI_clamp (show g < 2 ^ 31 by omega), m2, m3, m4, o1.1, nI_1]
    refine ⟨fun q => absurd q (nI_ge hg (by omega)), fun _ => ?_⟩
    have no : (bt G g && giv T u a r g) = false → wL_X9_granting_3 μ Q f G (nI u) (nI a) (nI r) (nI (g + 1)) := fun q => next () (fo_f hz q)
    refine b2i_go _ (fun q1 => no (by rw [q1]; rfl)) (fun q1 => ⟨hv, ?_⟩)
    refine dec_go' (fun q2 => ⟨hv, ?_⟩) (fun q2 => no (by unfold giv; rw [q2]; simp))
    refine dec_go' (fun q3 => ⟨hv, ?_⟩) (fun q3 => no (by unfold giv; rw [q3]; simp))
    refine lm_farNow hM hw hr o1.2 ?_
    refine dec_go (fun q5 => no ?_) (fun q5 => ?_)
    · rw [farI_m1 hw hr o1.2] at q5
      have q6 : bene T r (go T g) = false := by simpa using q5
      unfold giv; rw [q6]; simp
    · rw [farI_m1 hw hr o1.2] at q5
      have q6 : bene T r (go T g) = true := by simpa using q5
      rw [fo_stop' hz (by unfold giv; rw [q1, q2, q3, q6]; rfl) hg] at hQ
      exact hQ
theorem lm_decided {lo : Nat → Bool} (hM : jM T μ) (hw : wf T) (hlo : ∀ k, k < tL T → decide (nI k = μ.2 35) = lo k) {S : Nat → Int32} {N : Nat → Option (Nat → Int32)} (hN : isNN T S N) {u a r : Nat} (hu : u < tU T) (ha : a < 5) (hr : r < tT T) {wgh G : Int32} {Q : Int32 → Prop} (hQ : Q (dcd T G (rul lo T wgh u (S u) a r) u a r)) : w_X9_decided μ (nI u) (nI a) (nI r) N G wgh Q := by
  have hU := (wf_U hw).2
  have hG := (wf_G hw).2
  obtain ⟨fe, hfe, hisN⟩ := hN u hu
  unfold w_X9_decided
  rw [nI_clamp (show u < 2 ^ 31 by omega)]
  refine ⟨vp_in' (by omega) (by decide), fe, hfe, lm_byRules hM hw hlo hisN hu ha hr ?_⟩
  unfold dcd at hQ
  refine ⟨fun h1 => ?_, fun h1 => ?_⟩
  · rw [if_neg (fun q => h1 q.1)] at hQ
    exact hQ
  · refine lm_granting hM hw hr ?_
    have hlt : ∀ k, gfr T G u a r = some k → k < 2 ^ 31 := fun k hk => by have := gfr_lt hk; omega
    refine ⟨fun h2 => ?_, fun h2 => ?_⟩
    · rw [(oI_m1 hlt).mp h2, if_neg (by simp)] at hQ
      exact hQ
    · rw [if_pos ⟨h1, by
        cases q : gfr T G u a r with
        | none => exact absurd ((oI_m1 hlt).mpr q) h2
        | some k => rfl⟩] at hQ
      exact hQ
theorem lm_allNears (hM : jM T μ) (hw : wf T) {Q : (Nat → Option (Nat → Int32)) → Prop} (hQ : ∀ N, isNN T (T.1 2) N → Q N) : w_X9_allNears μ Q := by
  have hU := wf_U hw
  have hR := wf_R hw
  have hn : μ.2 3 = nI (tU T) := hM.1.1.trans hU.1
  unfold w_X9_allNears
  have l := lpUp (A := Nat → Option (Nat → Int32)) (n := tU T) (W := fun f u N => wL_X9_allNears_8 μ Q f (nI u) N) (J := fun u N => ∀ w, w < u → ∃ f, N w = some f ∧ isN T (T.1 2 w) f) ?_ ?_ (tU T) 0 (fun _ => none) (Nat.zero_add _) (fun w hw => absurd hw (by omega))
  · exact ⟨_, l⟩
  · intro f N hz
    unfold wL_X9_allNears_8
    rw [hn]
    exact ⟨fun _ => hQ N hz, fun q => absurd (nI_le (Nat.le_refl _) (by omega)) q⟩
  · intro f u N hu hz next
    unfold wL_X9_allNears_8
    rw [hn, nI_clamp (show u < 2 ^ 31 by omega), (hM.2.1 u (by omega)).2.2, nI_1]
    refine ⟨fun q => absurd q (nI_ge hu (by omega)), fun _ => ⟨vp_in' (by omega) (by decide), ?_⟩⟩
    unfold w_X9_nears
    refine lm_nears_ (T := T) (hM.1.2.1.trans hR.1) hR.2 hM.2.2.2.1 (fun k hk i hi => hw.2.1.2 k hk i hi) (fun i hi => hw.2.1.1 u hu i hi) (fun f1 hf1 => next _ (fun w hw1 => ?_))
    by_cases e : w = u
    · rw [e]
      exact ⟨f1, va_up_self _ _ _, hf1⟩
    · rw [va_up_ne _ _ e]
      exact hz w (by omega)
end M2
