/-! ===== layer B: the roles that would be needed, the sets gone through ===== -/
theorem pw2 : ∀ n, n < 13 → (1 : Int32) <<< (nI n &&& 31) = nI (2 ^ n) := by decide +kernel
theorem pw2_le {n : Nat} (hn : n ≤ 12) : 1 ≤ 2 ^ n ∧ 2 ^ n ≤ 4096 := ⟨Nat.one_le_two_pow, Nat.pow_le_pow_right (n := 2) (by decide) hn⟩
theorem bt_nI {m j : Nat} (hj : j < 32) : bt (nI m) j = m.testBit j := by
  show (BitVec.ofNat 32 m).getLsbD j = m.testBit j
  rw [BitVec.getLsbD_ofNat, decide_eq_true hj, Bool.true_and]
theorem bd_nI {m n : Nat} (hm : m < 2 ^ n) : bd n (nI m) := fun i hi hb => by
  rcases Nat.lt_or_ge i n with c | c
  · exact c
  · exfalso
    have hlt : m < 2 ^ i := Nat.lt_of_lt_of_le hm (Nat.pow_le_pow_right (by decide) c)
    rw [bt_nI hi, Nat.testBit_lt_two_pow hlt] at hb
    cases hb
theorem cn_high {P : Nat → Bool} {n : Nat} (h : ∀ j, n ≤ j → P j = false) : ∀ d, cn P (n + d) = cn P n := by
  intro d
  induction d with
  | zero => rfl
  | succ d ih => rw [← Nat.add_assoc, cn_f (h _ (by omega)), ih]
/-- how many roles -/
def rSz (m : Nat) : Nat := cn (bt (nI m)) 12
theorem rSz_le (m : Nat) : rSz m ≤ 12 := cn_le _ _
theorem rSz_eq {m : Nat} (hm : m < 4096) : cn (bt (nI m)) 32 = rSz m := cn_high (n := 12) (fun j hj => by
  by_cases c : j < 32
  · cases h : bt (nI m) j
    · rfl
    · exact absurd (bd_nI (n := 12) hm j c h) (by omega)
  · exact b_big (by omega)) 20
theorem mn_le {C : Nat → Bool} {n b : Nat} (h : mnO C rSz n = some b) : b ≤ 12 := by
  obtain ⟨⟨j, -, -, h3⟩, -⟩ := mnO_c.1 b h
  rw [← h3]; exact rSz_le j
def Cg (T : gk_C) (wgh : Int32) (u a r : Nat) (b X : Int32) (m : Nat) : Bool := decide (1 ≤ m) && decide (nI m &&& (X ^^^ (-1)) = 0) && okM T wgh u a r (b ||| nI m)
def Cm (T : gk_C) (wgh : Int32) (u a r : Nat) (b : Int32) (m : Nat) : Bool := decide (nI m &&& b = 0) && okM T wgh u a r (b ||| nI m)
theorem lb_needLoop {σ T : gk_C} {S : Nat → Int32} {wgh : Int32} {u a r : Nat} (H : vw 1 no0 T wgh S (tU T) σ) (hS : ∀ s, va_up S u s = va_up (T.1 2) u s) (hw : wf T) (hu : u < tU T) (ha : a < 5) (hr : r < tT T) {b X : Int32} {E : String → gk_C → Prop} {Q : Int32 → gk_C → Prop} (hQ : ∀ σ1, sV 1 σ σ1 → Q (oI (mnO (Cg T wgh u a r b X) rSz (2 ^ tR T))) σ1) : ∃ n76, wL_X8_rolesNeeded_76 E Q n76 σ (nI u) (nI a) (nI r) b X (-1) 1 := by
  have hR := wf_R hw
  obtain ⟨hp1, hp2⟩ := pw2_le hR.2
  have l := lpUp (A := gk_C × Int32) (n := 2 ^ tR T) (W := fun fu m y => wL_X8_rolesNeeded_76 E Q fu y.1 (nI u) (nI a) (nI r) b X y.2 (nI m)) (J := fun m y => 1 ≤ m ∧ ∃ S1, vw 1 no0 T wgh S1 (tU T) y.1 ∧ (∀ s, va_up S1 u s = va_up (T.1 2) u s) ∧ sV 1 σ y.1 ∧ y.2 = oI (mnO (Cg T wgh u a r b X) rSz m)) ?_ ?_ (2 ^ tR T - 1) 1 (σ, -1) (by omega) ⟨Nat.le_refl _, S, H, hS, sV_rf 1 σ, rfl⟩
  · exact ⟨_, l⟩
  · rintro fu ⟨σ1, x6⟩ ⟨-, S1, H1, hS1, hV, e6⟩
    have e6 : x6 = oI (mnO (Cg T wgh u a r b X) rSz (2 ^ tR T)) := e6
    show wL_X8_rolesNeeded_76 E Q (fu + 1) σ1 (nI u) (nI a) (nI r) b X x6 (nI (2 ^ tR T))
    unfold wL_X8_rolesNeeded_76
    rw [(ts H1.1 (show 1 < 8 by decide)).trans hR.1, pw2 _ (by omega)]
    exact ⟨fun _ => by rw [e6]; exact hQ σ1 hV, fun q => absurd (nI_le (Nat.le_refl _) (by omega)) q⟩
  · rintro fu m ⟨σ1, x6⟩ hm ⟨hm1, S1, H1, hS1, hV, e6⟩ next
    have e6 : x6 = oI (mnO (Cg T wgh u a r b X) rSz m) := e6
    show wL_X8_rolesNeeded_76 E Q (fu + 1) σ1 (nI u) (nI a) (nI r) b X x6 (nI m)
    have no : mnO (Cg T wgh u a r b X) rSz (m + 1) = mnO (Cg T wgh u a r b X) rSz m → wL_X8_rolesNeeded_76 E Q fu σ1 (nI u) (nI a) (nI r) b X x6 (nI m + 1) := fun q => by
      rw [nI_1]
      exact next (σ1, x6) ⟨by omega, S1, H1, hS1, hV, by rw [q]; exact e6⟩
    have yes : decide (nI m &&& (X ^^^ (-1)) = 0) = true → (∀ c, mnO (Cg T wgh u a r b X) rSz m = some c → rSz m < c) → w_X8_wouldBeAllowed σ1 (nI u) (b ||| nI m) (nI a) (nI r) (fun r143 σ143 => ((r143 = 0) → (wL_X8_rolesNeeded_76 E Q fu σ143 (nI u) (nI a) (nI r) b X x6 (nI m + 1))) ∧ ((¬ r143 = 0) → (wL_X8_rolesNeeded_76 E Q fu σ143 (nI u) (nI a) (nI r) b X (nI (rSz m)) (nI m + 1)))) := fun q hb => by
      refine lb_wouldBe H1 hS1 hw hu ha hr (fun σ2 S2 H2 hS2 hV2 => ?_)
      rw [nI_1]
      refine b2i_go _ (fun ok => ?_) (fun ok => ?_)
      · have hC : Cg T wgh u a r b X m = false := by unfold Cg; rw [ok, Bool.and_false]
        exact next (σ2, x6) ⟨by omega, S2, H2, hS2, sV_tr hV hV2, by rw [mnO_skip hC]; exact e6⟩
      · have hC : Cg T wgh u a r b X m = true := by unfold Cg; rw [ok, q, decide_eq_true hm1]; rfl
        exact next (σ2, nI (rSz m)) ⟨by omega, S2, H2, hS2, sV_tr hV hV2, by rw [mnO_take hC hb]; rfl⟩
    unfold wL_X8_rolesNeeded_76 wJ_X8_rolesNeeded_126 wJ_X8_rolesNeeded_122 wJ_X8_rolesNeeded_127
    rw [(ts H1.1 (show 1 < 8 by decide)).trans hR.1, pw2 _ (by omega)]
    refine ⟨fun q => absurd q (nI_ge hm (by omega)), fun _ => ?_⟩
    refine lb_bits _ ?_
    rw [rSz_eq (by omega)]
    refine dec_go' (fun c1 => ?_) (fun c1 => ⟨fun _ => no (mnO_skip (by unfold Cg; rw [c1, Bool.and_false]; rfl)), fun q => absurd rfl q⟩)
    have h12 := rSz_le m
    cases hmn : mnO (Cg T wgh u a r b X) rSz m with
    | none =>
      rw [hmn] at e6
      refine ⟨fun _ => ⟨fun q => absurd q (by decide), fun _ => yes c1 (fun c q => by rw [hmn] at q; cases q)⟩, fun q => absurd (by rw [e6]; decide) q⟩
    | some c =>
      have hc := mn_le hmn
      rw [hmn] at e6
      have e6 : x6 = nI c := e6
      refine ⟨fun q => absurd q (by rw [e6]; exact nI_pos (by omega)), fun _ => ⟨fun q => ⟨fun _ => no ?_, fun q2 => absurd rfl q2⟩, fun q => ⟨fun q => absurd q (by decide), fun _ => yes c1 (fun d hd => ?_)⟩⟩⟩
      · rcases Nat.lt_or_ge (rSz m) c with c2 | c2
        · rw [e6] at q
          exact absurd q (nI_ge c2 (by omega))
        · rw [mnO_ge hmn c2, hmn]
      · rw [hmn] at hd
        have hd : c = d := by simpa using hd
        rcases Nat.lt_or_ge (rSz m) c with c2 | c2
        · omega
        · rw [e6] at q
          exact absurd (nI_le c2 (by omega)) q
