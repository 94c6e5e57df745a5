/-! ===== the law's Gate: addRule, addGrant ===== -/
theorem nI_div {a b : Nat} (ha : a < 1000) (h0 : 0 < b) (hb : b < 1000) : nI a / nI b = nI (a / b) := by
  have hq : a / b ≤ a := Nat.div_le_self a b
  refine Int32.toInt_inj.mp ?_
  rw [Int32.toInt_div, nI_toInt (by omega), nI_toInt (by omega), nI_toInt (by omega), ← Int.ofNat_tdiv]
  generalize a / b = q at hq ⊢
  exact bmS (by omega) (by omega)
theorem nI_mod {a b : Nat} (ha : a < 1000) (h0 : 0 < b) (hb : b < 1000) : nI a - nI a / nI b * nI b = nI (a % b) := by
  rw [nI_div ha h0 hb, pk_mul, nI_sub' (Nat.div_mul_le_self a b)]
  congr 1
  have := Nat.div_add_mod a b
  rw [Nat.mul_comm] at this
  omega
section AN
variable {nU nR nT j : Nat} {ρ : lk_R}
/-- a rule more is there, told by its int 0 -/
def k1 (nU nR nT j : Nat) (ρ : lk_R) (n : Nat) (al : Int32) (σ : nk_C) : Prop := gR nU nR nT σ ∧ tL (told σ.1) = n + 1 ∧ σ.2.2 17 = nI (n + 1) ∧ (∀ k, k < n → ∃ f, ρ.1 k = some f ∧ f 0 = σ.1.1 11 k) ∧ σ.1.1 11 n = al ∧ lG j σ ρ
theorem k1_bK {n : Nat} {al : Int32} {σ : nk_C} {f : Nat → Int32} (h : k1 nU nR nT j ρ n al σ) (hn : n ≤ j) (hf : f 0 = al) : bK nU nR nT (j + 1) (va_up ρ.1 n (some f), ρ.2) σ := by
  obtain ⟨h1, h2, h3, h4, h5, h6⟩ := h
  refine ⟨h1, ⟨by omega, by rw [h2]; exact h3, fun k hk => ?_⟩, ⟨by have := h6.1; omega, h6.2⟩⟩
  show ∃ f', va_up ρ.1 n (some f) k = some f' ∧ f' 0 = σ.1.1 11 k
  by_cases e : k = n
  · subst e
    exact ⟨f, va_up_self _ _ _, hf.trans h5.symm⟩
  · obtain ⟨g, g1, g2⟩ := h4 k (by omega)
    exact ⟨g, by rw [va_up_ne _ _ e]; exact g1, g2⟩
theorem c0 : Int32.toNatClampNeg 0 = 0 := by decide
theorem c1 : Int32.toNatClampNeg 1 = 1 := by decide
theorem c2 : Int32.toNatClampNeg 2 = 2 := by decide
theorem c3 : Int32.toNatClampNeg 3 = 3 := by decide
theorem c4 : Int32.toNatClampNeg 4 = 4 := by decide
theorem c5 : Int32.toNatClampNeg 5 = 5 := by decide
theorem c6 : Int32.toNatClampNeg 6 = 6 := by decide
theorem c7 : Int32.toNatClampNeg 7 = 7 := by decide
theorem c8 : Int32.toNatClampNeg 8 = 8 := by decide
theorem ln_rule241 {n D : Nat} {al : Int32} (hn : n ≤ j) (hj : j < 20) (hD : D < 900000) {fR : Nat → Option Nat} {qn : Nat} {f : Nat → Int32} {v : Nat} (hv : v ≤ 255) {Q : Int32 → nk_C → (Nat → Option Nat) → Nat → (Nat → Int32) → Prop} (hf0 : f 0 = al) {σ : nk_C} (h : k1 nU nR nT j ρ n al σ ∧ σ.1.1 17 n = 0) (hd' : lD D σ) (hQ : ∀ σ1 g, bK nU nR nT (j + 1) (va_up ρ.1 n (some g), ρ.2) σ1 → lD (D + 2) σ1 → Q 1 σ1 fR qn g) : wJ_X9_addRule_241 Q σ 6 (nI v) fR f qn := by
  unfold wJ_X9_addRule_241
  refine ⟨vp_in' (k := 6) (by omega) (by decide), ?_⟩
  rintro g241 hg241
  refine ln_draw (N := 24) (K := fun σ => k1 nU nR nT j ρ n al σ ∧ σ.1.1 17 n = 0) (fun _ _ h => h) h hd' (by omega) rfl (by omega) (by omega) (fun a ha σ1 h1 d1 => ?_)
  rintro g251 hg251
  refine ln_draw (N := 24) (K := fun σ => k1 nU nR nT j ρ n al σ ∧ σ.1.1 17 n = 0) (fun _ _ h => h) h1 d1 (by omega) rfl (by omega) (by omega) (fun b hb σ2 h2 d2 => ?_)
  rintro g261 hg261
  have v6 : g261 (Int32.toNatClampNeg 6) = nI v := by rw [hg261, hg251, hg241, c6, c7, c8, up_ne _ _ (by decide), up_ne _ _ (by decide), up_at]
  have v7 : g261 (Int32.toNatClampNeg 7) = nI a := by rw [hg261, hg251, c7, c8, up_ne _ _ (by decide), up_at]
  have v8 : g261 (Int32.toNatClampNeg 8) = nI b := by rw [hg261, c8, up_at]
  have v0 : g261 0 = al := by rw [hg261, hg251, hg241, c6, c7, c8, up_ne _ _ (by decide), up_ne _ _ (by decide), up_ne _ _ (by decide), hf0]
  rw [v6, v7, v8, h2.1.2.2.1, show nI (n + 1) - 1 = nI n from nI_pred n]
  refine la_setTerms (σ := σ2.1) h2.1.1.1 (by have := h2.1.2.1; omega) hv (by omega) (by omega) (fun hI => ⟨fun q => absurd h2.2 q, fun _ => ?_⟩)
  refine hQ _ _ (k1_bK ⟨⟨hI, h2.1.1.2⟩, h2.1.2⟩ hn v0) d2
theorem ln_rule199 {n D rk : Nat} {al t2 : Int32} (ht2 : t2 = 0 ∨ t2 = 1) (hn : n ≤ j) (hj : j < 20) (hD : D < 850000) {fR : Nat → Option Nat} {qn : Nat} {f : Nat → Int32} {Q : Int32 → nk_C → (Nat → Option Nat) → Nat → (Nat → Int32) → Prop} (hf0 : f 0 = al) (hf5 : f 5 = nI rk) (hrk : rk ≤ 9) {σ : nk_C} (h : k1 nU nR nT j ρ n al σ ∧ σ.1.1 17 n = 0) (h16 : σ.1.1 16 n = 0) (hd' : lD D σ) (hQ : ∀ σ1 g, bK nU nR nT (j + 1) (va_up ρ.1 n (some g), ρ.2) σ1 → lD (D + 5) σ1 → Q 1 σ1 fR qn g) : wJ_X9_addRule_199 Q σ (nI n) t2 fR f qn := by
  unfold wJ_X9_addRule_199
  rw [c5, hf5]
  refine la_setRule (σ := σ.1) h.1.1.1 (by have := h.1.2.1; omega) ht2 hrk (fun hI => ⟨fun _ => ?_, fun q => absurd h16 q⟩)
  have h' : k1 nU nR nT j ρ n al (gk_r (gk_r σ.1 15 (upd (σ.1.1 15) n t2)) 16 (upd (σ.1.1 16) n (nI rk)), σ.2) ∧ (gk_r (gk_r σ.1 15 (upd (σ.1.1 15) n t2)) 16 (upd (σ.1.1 16) n (nI rk)), σ.2).1.1 17 n = 0 := ⟨⟨⟨hI, h.1.1.2⟩, h.1.2⟩, h.2⟩
  refine ln_draw (N := 3) (K := fun σ => k1 nU nR nT j ρ n al σ ∧ σ.1.1 17 n = 0) (fun _ _ h => h) h' (D := D) hd' (by omega) rfl (by omega) (by omega) (fun a ha σ1 h1 d1 => ⟨fun _ => ?_, fun _ => ?_⟩)
  · refine ln_draw (N := 3) (K := fun σ => k1 nU nR nT j ρ n al σ ∧ σ.1.1 17 n = 0) (fun _ _ h => h) h1 d1 (by omega) rfl (by omega) (by omega) (fun b hb σ2 h2 d2 => ⟨fun _ => ?_, fun _ => ?_⟩)
    · exact ln_rule241 (v := 0) (D := D + 2) hn hj (by omega) (by omega) hf0 h2 d2 (fun σ3 g b3 d3 => hQ σ3 g b3 (lD_up d3 (by omega)))
    · refine ln_draw (N := 8) (K := fun σ => k1 nU nR nT j ρ n al σ ∧ σ.1.1 17 n = 0) (fun _ _ h => h) h2 d2 (by omega) rfl (by omega) (by omega) (fun c hc σ3 h3 d3 => ?_)
      exact ln_rule241 (v := c) (D := D + 3) hn hj (by omega) (by omega) hf0 h3 d3 (fun σ3 g b3 d3 => hQ σ3 g b3 (lD_up d3 (by omega)))
  · exact hQ _ _ (k1_bK h1.1 hn hf0) (lD_up d1 (by omega))
theorem ln_rule107 (hN : bN nU nR nT) {D w ac r rk : Nat} {al : Int32} (hj : j < 20) (hD : D < 850000) {fR : Nat → Option Nat} {qn : Nat} {f : Nat → Int32} {Q : Int32 → nk_C → (Nat → Option Nat) → Nat → (Nat → Int32) → Prop} (hal : al = 0 ∨ al = 1) (hw : w < nU ∨ (12 ≤ w ∧ w - 12 < nR)) (ha1 : 1 ≤ ac) (ha2 : ac ≤ 31) (hr : r < nT) (hrk : rk ≤ 9) (f0 : f 0 = al) (f1 : f 1 = nI w) (f2 : f 2 = nI ac) (f3 : f 3 = nI r) {σ : nk_C} (h : bK nU nR nT j ρ σ) (hd' : lD D σ) (hQ : ∀ σ1 g, bK nU nR nT (j + 1) (va_up ρ.1 (tL (told σ.1)) (some g), ρ.2) σ1 → lD (D + 5) σ1 → Q 1 σ1 (va_up fR (tL (told σ.1)) (some qn)) qn g) : wJ_X9_addRule_107 Q σ 5 (nI rk) fR f qn := by
  obtain ⟨hG, hLL, hGG⟩ := h
  obtain ⟨e1, e2, e3⟩ := gR_n hG hN
  have hn := hLL.1
  unfold wJ_X9_addRule_107
  refine ⟨vp_in' (k := 5) (by omega) (by decide), ?_⟩
  rintro g107 hg107 g112 hg112 g117 hg117 g123 hg123
  rw [hLL.2.1]
  refine ⟨vp_in' (by omega) (by decide), ?_⟩
  rw [nI_clamp (show tL (told σ.1) < 2 ^ 31 by omega)]
  rintro _ rfl
  have w0 : ∀ i, i < 5 → g123 i = f i := fun i hi => by rw [hg123, hg117, hg112, hg107, c5, c6, c7, c8, up_ne _ _ (by omega), up_ne _ _ (by omega), up_ne _ _ (by omega), up_ne _ _ (by omega)]
  have w5 : g123 5 = nI rk := by rw [hg123, hg117, hg112, hg107, c5, c6, c7, c8, up_ne _ _ (by omega), up_ne _ _ (by omega), up_ne _ _ (by omega), up_at]
  have j151 : ∀ t, t = al → wJ_X9_addRule_151 Q σ t (va_up fR (tL (told σ.1)) (some qn)) g123 qn := by
    rintro t rfl
    unfold wJ_X9_addRule_151
    rw [c1, c2, c3, c4, w0 1 (by decide), w0 2 (by decide), w0 3 (by decide), f1, f2, f3]
    refine la_addRule (σ := σ.1) hG.1 (by omega) hal (by omega) ha1 ha2 (by omega) (fun hI => ⟨fun q => absurd hLL.2.1.symm q, fun _ => ?_⟩)
    have key : ∀ s : gk_C, s = (gk_s (gk_r (gk_r (gk_r (gk_r (gk_r (gk_r (gk_r (gk_r (gk_r σ.1 11 (upd (σ.1.1 11) (tL (told σ.1)) t)) 12 (upd (σ.1.1 12) (tL (told σ.1)) (nI w))) 13 (upd (σ.1.1 13) (tL (told σ.1)) (nI ac))) 14 (upd (σ.1.1 14) (tL (told σ.1)) (nI r))) 15 (upd (σ.1.1 15) (tL (told σ.1)) 0)) 16 (upd (σ.1.1 16) (tL (told σ.1)) 0)) 17 (upd (σ.1.1 17) (tL (told σ.1)) 0)) 18 (upd (σ.1.1 18) (tL (told σ.1)) 0)) 19 (upd (σ.1.1 19) (tL (told σ.1)) 23)) 4 (nI (tL (told σ.1) + 1))) → (k1 nU nR nT j ρ (tL (told σ.1)) t (nk_s (s, σ.2) 17 (σ.2.2 17 + 1)) ∧ (nk_s (s, σ.2) 17 (σ.2.2 17 + 1)).1.1 17 (tL (told σ.1)) = 0) ∧ (nk_s (s, σ.2) 17 (σ.2.2 17 + 1)).1.1 16 (tL (told σ.1)) = 0 := by
      rintro _ rfl
      refine ⟨⟨⟨⟨hI, hG.2⟩, num_eq (x := nI (tL (told σ.1) + 1)) rfl (by omega), ?_, fun k hk => ?_, ?_, hGG⟩, ?_⟩, ?_⟩
      · show va_up σ.2.2 17 (σ.2.2 17 + 1) 17 = _
        rw [va_up_self, hLL.2.1, nI_1]
      · obtain ⟨f', q1, q2⟩ := hLL.2.2 k hk
        refine ⟨f', q1, ?_⟩
        show f' 0 = upd (σ.1.1 11) (tL (told σ.1)) t k
        rw [up_ne _ _ (by omega)]
        exact q2
      · show upd (σ.1.1 11) (tL (told σ.1)) t (tL (told σ.1)) = t
        rw [up_at]
      · show upd (σ.1.1 17) (tL (told σ.1)) 0 (tL (told σ.1)) = 0
        rw [up_at]
      · show upd (σ.1.1 16) (tL (told σ.1)) 0 (tL (told σ.1)) = 0
        rw [up_at]
    have key := key _ rfl
    generalize (gk_s (gk_r (gk_r (gk_r (gk_r (gk_r (gk_r (gk_r (gk_r (gk_r σ.1 11 (upd (σ.1.1 11) (tL (told σ.1)) t)) 12 (upd (σ.1.1 12) (tL (told σ.1)) (nI w))) 13 (upd (σ.1.1 13) (tL (told σ.1)) (nI ac))) 14 (upd (σ.1.1 14) (tL (told σ.1)) (nI r))) 15 (upd (σ.1.1 15) (tL (told σ.1)) 0)) 16 (upd (σ.1.1 16) (tL (told σ.1)) 0)) 17 (upd (σ.1.1 17) (tL (told σ.1)) 0)) 18 (upd (σ.1.1 18) (tL (told σ.1)) 0)) 19 (upd (σ.1.1 19) (tL (told σ.1)) 23)) 4 (nI (tL (told σ.1) + 1))) = s at key ⊢
    have e17 : (nk_s (s, σ.2) 17 (σ.2.2 17 + 1)).2.2 17 - 1 = nI (tL (told σ.1)) := by
      rw [key.1.1.2.2.1]
      exact nI_pred _
    have d' : lD D (nk_s (s, σ.2) 17 (σ.2.2 17 + 1)) := hd'
    have go : ∀ t2 : Int32, (t2 = 0 ∨ t2 = 1) → wJ_X9_addRule_199 Q (nk_s (s, σ.2) 17 (σ.2.2 17 + 1)) ((nk_s (s, σ.2) 17 (σ.2.2 17 + 1)).2.2 17 - 1) t2 (va_up fR (tL (told σ.1)) (some qn)) g123 qn := fun t2 ht2 => by
      rw [e17]
      exact ln_rule199 (D := D) ht2 hn hj hD (by rw [w0 0 (by decide)]; exact f0) w5 hrk key.1 key.2 d' hQ
    exact ⟨fun _ => go 0 (Or.inl rfl), fun _ => go 1 (Or.inr rfl)⟩
  rw [c0, w0 0 (by decide), f0]
  refine ⟨fun q => j151 0 ?_, fun q => j151 1 q.symm⟩
  rcases hal with e | e
  · exact e.symm
  · exact absurd e q
theorem ln_addRule (hN : bN nU nR nT) {σ : nk_C} {D : Nat} (h : bK nU nR nT j ρ σ) (hj : j < 20) (hd' : lD D σ) (hD : D < 800000) {fR : Nat → Option Nat} {Q : Int32 → nk_C → (Nat → Option Nat) → Nat → (Nat → Int32) → Prop} (hQ : ∀ σ1 n q g, bK nU nR nT (j + 1) (va_up ρ.1 n (some g), ρ.2) σ1 → lD (D + 13) σ1 → Q 1 σ1 (va_up fR n (some q)) q g) : w_X9_addRule σ fR Q := by
  unfold w_X9_addRule
  intro qn
  have j52 : ∀ (al : Int32) (w : Nat) (f : Nat → Int32) (σ2 : nk_C), (al = 0 ∨ al = 1) → (w < nU ∨ (12 ≤ w ∧ w - 12 < nR)) → f 0 = al → bK nU nR nT j ρ σ2 → lD (D + 3) σ2 → wJ_X9_addRule_52 Q σ2 1 (nI w) fR f qn := fun al w f σ2 hal hw f0 h2 d2 => by
    have hN0 := hN
    obtain ⟨⟨n1, n2⟩, ⟨n3, n4⟩, ⟨n5, n6⟩⟩ := hN
    unfold wJ_X9_addRule_52
    refine ⟨vp_in' (k := 1) (by omega) (by decide), ?_⟩
    rintro g52 hg52
    refine ln_draw (N := 31) bK_s h2 d2 (by omega) rfl (by omega) (by omega) (fun a ha σ3 h3 d3 => ?_)
    rintro g63 hg63
    refine ln_draw (N := nT) bK_s h3 d3 (by omega) h3.1.2.2.2.1.2 (by omega) (by omega) (fun r hr σ4 h4 d4 => ?_)
    rintro g74 hg74
    refine ln_draw (N := 2) bK_s h4 d4 (by omega) rfl (by omega) (by omega) (fun dp hdp σ5 h5 d5 => ?_)
    rintro g82 hg82
    have e0 : g82 0 = al := by rw [hg82, hg74, hg63, hg52, c1, c2, c3, c4, up_ne _ _ (by omega), up_ne _ _ (by omega), up_ne _ _ (by omega), up_ne _ _ (by omega), f0]
    have e1 : g82 1 = nI w := by rw [hg82, hg74, hg63, hg52, c1, c2, c3, c4, up_ne _ _ (by omega), up_ne _ _ (by omega), up_ne _ _ (by omega), up_at]
    have e2 : g82 2 = nI (1 + a) := by rw [hg82, hg74, hg63, c2, c3, c4, up_ne _ _ (by omega), up_ne _ _ (by omega), up_at]; exact nI_add 1 a
    have e3 : g82 3 = nI r := by rw [hg82, hg74, c3, c4, up_ne _ _ (by omega), up_at]
    refine ln_draw (N := 4) bK_s h5 d5 (by omega) rfl (by omega) (by omega) (fun x _ σ6 h6 d6 => ⟨fun _ => ?_, fun _ => ?_⟩)
    · refine ln_draw (N := 2) bK_s h6 d6 (by omega) rfl (by omega) (by omega) (fun rk hrk σ7 h7 d7 => ?_)
      exact ln_rule107 (D := D + 8) hN0 hj (by omega) hal hw (by omega) (by omega) hr (by omega) e0 e1 e2 e3 h7 (lD_up d7 (by omega)) (fun σ8 g b8 d8 => hQ σ8 _ _ g b8 (lD_up d8 (by omega)))
    · refine ln_draw (N := 10) bK_s h6 d6 (by omega) rfl (by omega) (by omega) (fun rk hrk σ7 h7 d7 => ?_)
      exact ln_rule107 (D := D + 8) hN0 hj (by omega) hal hw (by omega) (by omega) hr (by omega) e0 e1 e2 e3 h7 (lD_up d7 (by omega)) (fun σ8 g b8 d8 => hQ σ8 _ _ g b8 (lD_up d8 (by omega)))
  have j19 : ∀ (al : Int32) (σ1 : nk_C), (al = 0 ∨ al = 1) → bK nU nR nT j ρ σ1 → lD (D + 1) σ1 → wJ_X9_addRule_19 Q σ1 0 al fR (fun _ => 0) qn := fun al σ1 hal h1 d1 => by
    obtain ⟨⟨n1, n2⟩, ⟨n3, n4⟩, ⟨n5, n6⟩⟩ := hN
    unfold wJ_X9_addRule_19
    refine ⟨vp_in' (k := 0) (by omega) (by decide), ?_⟩
    rintro g19 hg19
    have e0 : g19 0 = al := by rw [hg19, c0, up_at]
    refine ln_draw (N := 2) bK_s h1 d1 (by omega) rfl (by omega) (by omega) (fun x _ σ2 h2 d2 => ⟨fun _ => ?_, fun _ => ?_⟩)
    · refine ln_draw (N := nR) bK_s h2 d2 (by omega) h2.1.2.2.1.2 (by omega) (by omega) (fun r hr σ3 h3 d3 => ?_)
      rw [show (12 : Int32) + nI r = nI (12 + r) from nI_add 12 r]
      exact j52 al (12 + r) g19 σ3 hal (Or.inr ⟨by omega, by omega⟩) e0 h3 d3
    · refine ln_draw (N := nU) bK_s h2 d2 (by omega) h2.1.2.1.2 (by omega) (by omega) (fun u hu σ3 h3 d3 => ?_)
      exact j52 al u g19 σ3 hal (Or.inl hu) e0 h3 d3
  refine ln_draw (N := 3) bK_s h hd' (by omega) rfl (by omega) (by omega) (fun x _ σ1 h1 d1 => ⟨fun _ => j19 1 σ1 (Or.inr rfl) h1 d1, fun _ => j19 0 σ1 (Or.inl rfl) h1 d1⟩)
theorem ln_addGrant (hN : bN nU nR nT) {σ : nk_C} {D : Nat} (h : bK nU nR nT j ρ σ) (hj : j < 20) (hd' : lD D σ) (hD : D < 800000) {fR : Nat → Option Nat} {Q : Int32 → nk_C → (Nat → Option Nat) → Nat → (Nat → Int32) → Prop} (hQ : ∀ σ1 n q g, bK nU nR nT (j + 1) (ρ.1, va_up ρ.2 n (some g)) σ1 → lD (D + 6) σ1 → Q 1 σ1 (va_up fR n (some q)) q g) : w_X9_addGrant σ fR Q := by
  have hN0 := hN
  obtain ⟨⟨n1, n2⟩, ⟨n3, n4⟩, ⟨n5, n6⟩⟩ := hN
  unfold w_X9_addGrant
  refine ln_draw (N := nU) bK_s h hd' (by omega) h.1.2.1.2 (by omega) (by omega) (fun f hf σ1 h1 d1 => ?_)
  intro qn
  rintro g16 hg16
  refine ln_draw (N := nU - 1) bK_s h1 d1 (by omega) (by rw [h1.1.2.1.2]; exact nI_sub' (b := 1) (by omega)) (by omega) (by omega) (fun k hk σ2 h2 d2 => ?_)
  rw [h2.1.2.1.2]
  refine ⟨nI_ne0 (by omega) (by omega), ?_⟩
  rw [nI_1, nI_add, nI_mod (by omega) (by omega) (by omega)]
  rintro g38 hg38
  refine ln_draw (N := 5) bK_s h2 d2 (by omega) rfl (by omega) (by omega) (fun a ha σ3 h3 d3 => ?_)
  rintro g46 hg46
  refine ln_draw (N := nT) bK_s h3 d3 (by omega) h3.1.2.2.2.1.2 (by omega) (by omega) (fun r hr σ4 h4 d4 => ?_)
  rintro g57 hg57
  refine ln_draw (N := 4) bK_s h4 d4 (by omega) rfl (by omega) (by omega) (fun hh hhh σ5 h5 d5 => ?_)
  rintro g65 hg65
  refine ln_draw (N := 900) (K := fun σ => bK nU nR nT j ρ σ ∧ σ.2.2 3 = σ5.2.2 3) (fun _ _ h => h) ⟨h5, rfl⟩ d5 (by omega) rfl (by omega) (by omega) (fun e he σ6 h6 d6 => ?_)
  rintro g82 hg82
  obtain ⟨⟨hG, hLL, hGG⟩, hck⟩ := h6
  obtain ⟨e1, e2, e3⟩ := gR_n hG hN0
  have hn := hGG.1
  rw [hGG.2.1]
  refine ⟨vp_in' (by omega) (by decide), ?_⟩
  rw [nI_clamp (show tG (told σ6.1) < 2 ^ 31 by omega)]
  rintro _ rfl
  have t0 : g82 0 = nI f := by rw [hg82, hg65, hg57, hg46, hg38, hg16, c0, c1, c2, c3, c4, c5, up_ne _ _ (by omega), up_ne _ _ (by omega), up_ne _ _ (by omega), up_ne _ _ (by omega), up_ne _ _ (by omega), up_at]
  have t1 : g82 1 = nI ((f + 1 + k) % nU) := by rw [hg82, hg65, hg57, hg46, hg38, c1, c2, c3, c4, c5, up_ne _ _ (by omega), up_ne _ _ (by omega), up_ne _ _ (by omega), up_ne _ _ (by omega), up_at]
  have t2 : g82 2 = nI a := by rw [hg82, hg65, hg57, hg46, c2, c3, c4, c5, up_ne _ _ (by omega), up_ne _ _ (by omega), up_ne _ _ (by omega), up_at]
  have t3 : g82 3 = nI r := by rw [hg82, hg65, hg57, c3, c4, c5, up_ne _ _ (by omega), up_ne _ _ (by omega), up_at]
  have t4 : g82 4 = nI hh := by rw [hg82, hg65, c4, c5, up_ne _ _ (by omega), up_at]
  have t5 : g82 5 - σ6.2.2 3 = nI (1 + e) := by
    rw [hg82, c5, up_at, hck, Int32.add_assoc, show (1 : Int32) + nI e = nI (1 + e) from nI_add 1 e, Int32.add_comm, Int32.add_sub_cancel]
  have tm : (f + 1 + k) % nU < nU ∧ ¬ f = (f + 1 + k) % nU := by
    have : nU = 2 ∨ nU = 3 ∨ nU = 4 := by omega
    rcases this with e | e | e <;> subst e <;> omega
  rw [c0, c1, c2, c3, c4, c5, t0, t1, t2, t3, t4, t5]
  refine la_grant (σ := σ6.1) hG.1 (by omega) (by omega) (by omega) tm.2 ha (by omega) (by omega) (by omega) (by omega) (fun hI => ⟨fun q => absurd hGG.2.1.symm q, fun _ => ?_⟩)
  refine hQ _ _ _ _ ⟨⟨hI, hG.2⟩, ⟨by have := hLL.1; show tL (told σ6.1) ≤ j + 1; omega, hLL.2⟩, ?_⟩ d6
  have eG : tG (told (gk_s (gk_r (gk_r (gk_r (gk_r (gk_r (gk_r σ6.1 20 (upd (σ6.1.1 20) (tG (told σ6.1)) (nI f))) 21 (upd (σ6.1.1 21) (tG (told σ6.1)) (nI ((f + 1 + k) % nU)))) 22 (upd (σ6.1.1 22) (tG (told σ6.1)) (nI a))) 23 (upd (σ6.1.1 23) (tG (told σ6.1)) (nI r))) 24 (upd (σ6.1.1 24) (tG (told σ6.1)) (nI hh))) 25 (upd (σ6.1.1 25) (tG (told σ6.1)) (σ6.1.2 7 + nI (1 + e)))) 5 (nI (tG (told σ6.1) + 1)))) = tG (told σ6.1) + 1 := num_eq (x := nI (tG (told σ6.1) + 1)) rfl (by omega)
  refine ⟨by show tG (told (gk_s _ 5 (nI (tG (told σ6.1) + 1)))) ≤ j + 1; rw [eG]; omega, ?_, fun g hg => ?_⟩
  · show va_up σ6.2.2 19 (σ6.2.2 19 + 1) 19 = nI (tG (told (gk_s _ 5 (nI (tG (told σ6.1) + 1)))))
    rw [eG, va_up_self, hGG.2.1, nI_1]
  · have hg' : g < tG (told σ6.1) + 1 := by rw [← eG]; exact hg
    show ∃ f', va_up ρ.2 (tG (told σ6.1)) (some g82) g = some f' ∧ f' 1 = upd (σ6.1.1 21) (tG (told σ6.1)) (nI ((f + 1 + k) % nU)) g ∧ f' 3 = upd (σ6.1.1 23) (tG (told σ6.1)) (nI r) g
    by_cases e : g = tG (told σ6.1)
    · rw [e]
      exact ⟨g82, va_up_self _ _ _, by rw [up_at]; exact t1, by rw [up_at]; exact t3⟩
    · obtain ⟨f', q1, q2, q3⟩ := hGG.2.2 g (by omega)
      exact ⟨f', by rw [va_up_ne _ _ e]; exact q1, by rw [up_ne _ _ e]; exact q2, by rw [up_ne _ _ e]; exact q3⟩
end AN
