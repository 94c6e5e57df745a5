/-! ===== layer B: the roles that would be needed, the sets gone through ===== -/
theorem pw2 : ∀ n, n < 13 → (1 : Int32) <<< (nI n &&& 31) = nI (2 ^ n) := by decide +kernel
theorem pw2_le {n : Nat} (hn : n ≤ 12) : 1 ≤ 2 ^ n ∧ 2 ^ n ≤ 4096 := ⟨Nat.one_le_two_pow, Nat.pow_le_pow_right (n := 2) (by decide) hn⟩
theorem bt_nI {m j : Nat} (hj : j < 32) : bt (nI m) j = m.testBit j := by
  show (BitVec.ofNat 32 m).getLsbD j = m.testBit j
  rw [BitVec.getLsbD_ofNat, decide_eq_true hj, Bool.true_and]
theorem bd_nI {m n : Nat} (hm : m < 2 ^ n) : bd n (nI m) := fun i hi hb => by
  rcases Nat.lt_or_ge i n with c | c
  · exact c
  · exfalso
    have hlt : m < 2 ^ i := Nat.lt_of_lt_of_le hm (Nat.pow_le_pow_right (by decide) c)
    rw [bt_nI hi, Nat.testBit_lt_two_pow hlt] at hb
    cases hb
theorem cn_high {P : Nat → Bool} {n : Nat} (h : ∀ j, n ≤ j → P j = false) : ∀ d, cn P (n + d) = cn P n := by
  intro d
  induction d with
  | zero => rfl
  | succ d ih => rw [← Nat.add_assoc, cn_f (h _ (by omega)), ih]
/-- how many roles -/
def rSz (m : Nat) : Nat := cn (bt (nI m)) 12
theorem rSz_le (m : Nat) : rSz m ≤ 12 := cn_le _ _
theorem rSz_eq {m : Nat} (hm : m < 4096) : cn (bt (nI m)) 32 = rSz m := cn_high (n := 12) (fun j hj => by
  by_cases c : j < 32
  · cases h : bt (nI m) j
    · rfl
    · exact absurd (bd_nI (n := 12) hm j c h) (by omega)
  · exact b_big (by omega)) 20
theorem mn_le {C : Nat → Bool} {n b : Nat} (h : mnO C rSz n = some b) : b ≤ 12 := by
  obtain ⟨⟨j, -, -, h3⟩, -⟩ := mnO_c.1 b h
  rw [← h3]; exact rSz_le j
def Cm (T : gk_C) (wgh : Int32) (u a r : Nat) (b : Int32) (m : Nat) : Bool := decide (nI m &&& b = 0) && okM T wgh u a r (b ||| nI m)
/-- all of a set as a number -/
def nm (x : Int32) : Nat := x.toBitVec.toNat
theorem nm_bt (x : Int32) (j : Nat) : (nm x).testBit j = bt x j := rfl
theorem nm_nI (x : Int32) : nI (nm x) = x := b_ext (fun i hi => by rw [bt_nI hi, nm_bt])
theorem nm_lt {x : Int32} {n : Nat} (h : bd n x) : nm x < 2 ^ n := by
  refine Nat.lt_pow_two_of_testBit _ (fun i hi => ?_)
  rw [nm_bt]
  by_cases c : i < 32
  · cases e : bt x i
    · rfl
    · have := h i c e
      omega
  · exact b_big (by omega)
/-- two roles, told by one number -/
def tw (b : Int32) (i : Nat) : Int32 := (b ||| (1 <<< (nI (i / 16) &&& 31))) ||| (1 <<< (nI (i % 16) &&& 31))
def twX (b : Int32) (i : Nat) : Nat := nm (tw b i &&& (b ^^^ (-1)))
def twS (b : Int32) (i : Nat) : Nat := rSz (twX b i)
def Cg (T : gk_C) (wgh : Int32) (u a r : Nat) (b : Int32) (i : Nat) : Bool := decide (i % 16 ≤ i / 16) && (decide (0 < twS b i) && okM T wgh u a r (tw b i))
theorem tw_at (b : Int32) {p q : Nat} (hq : q < 16) : tw b (16 * p + q) = (b ||| (1 <<< (nI p &&& 31))) ||| (1 <<< (nI q &&& 31)) := by
  unfold tw
  rw [show (16 * p + q) / 16 = p by omega, show (16 * p + q) % 16 = q by omega]
theorem tw_b (b : Int32) {p q i : Nat} (hp : p < 32) (hq : q < 16) (hi : i < 32) : bt (tw b (16 * p + q)) i = (bt b i || decide (i = p) || decide (i = q)) := by
  rw [tw_at b hq, b_or, b_or, b_bit hp hi, b_bit (by omega) hi]
theorem mnT_le {C : Nat → Bool} {b : Int32} {n k : Nat} (h : mnO C (twS b) n = some k) : k ≤ 12 := by
  obtain ⟨⟨j, -, -, h3⟩, -⟩ := mnO_c.1 k h
  rw [← h3]; exact rSz_le _
theorem lb_needLoop {σ T : gk_C} {S : Nat → Int32} {wgh : Int32} {u a r : Nat} (H : vw 1 no0 T wgh S (tU T) σ) (hS : ∀ s, va_up S u s = va_up (T.1 2) u s) (hw : wf T) (hu : u < tU T) (ha : a < 5) (hr : r < tT T) {b : Int32} (hb : bd (tR T) b) {E : String → gk_C → Prop} {Q : Int32 → gk_C → Prop} (hQ : ∀ σ1, sV 1 σ σ1 → Q (oI (mnO (Cg T wgh u a r b) (twS b) (16 * tR T))) σ1) : ∃ n59, wL_X8_rolesNeeded_59 E Q n59 σ (nI u) (nI a) (nI r) b (-1) 0 := by
  have hR := wf_R hw
  have l := lpUp (A := gk_C × Int32) (n := tR T) (W := fun fu p y => wL_X8_rolesNeeded_59 E Q fu y.1 (nI u) (nI a) (nI r) b y.2 (nI p)) (J := fun p y => ∃ S1, vw 1 no0 T wgh S1 (tU T) y.1 ∧ (∀ s, va_up S1 u s = va_up (T.1 2) u s) ∧ sV 1 σ y.1 ∧ y.2 = oI (mnO (Cg T wgh u a r b) (twS b) (16 * p))) ?_ ?_ (tR T) 0 (σ, -1) (Nat.zero_add _) ⟨S, H, hS, sV_rf 1 σ, rfl⟩
  · exact ⟨_, l⟩
  · rintro fu ⟨σ1, x5⟩ ⟨S1, H1, hS1, hV, e5⟩
    have e5 : x5 = oI (mnO (Cg T wgh u a r b) (twS b) (16 * tR T)) := e5
    show wL_X8_rolesNeeded_59 E Q (fu + 1) σ1 (nI u) (nI a) (nI r) b x5 (nI (tR T))
    unfold wL_X8_rolesNeeded_59
    rw [(ts H1.1 (show 1 < 8 by decide)).trans hR.1]
    exact ⟨fun _ => by rw [e5]; exact hQ σ1 hV, fun q => absurd (nI_le (Nat.le_refl _) (by omega)) q⟩
  · rintro fu p ⟨σ1, x5⟩ hp ⟨S1, H1, hS1, hV, e5⟩ next
    have e5 : x5 = oI (mnO (Cg T wgh u a r b) (twS b) (16 * p)) := e5
    show wL_X8_rolesNeeded_59 E Q (fu + 1) σ1 (nI u) (nI a) (nI r) b x5 (nI p)
    unfold wL_X8_rolesNeeded_59
    rw [(ts H1.1 (show 1 < 8 by decide)).trans hR.1]
    refine ⟨fun q => absurd q (nI_ge hp (by omega)), fun _ => ?_⟩
    have l2 := lpUp (A := gk_C × Int32) (n := p + 1) (W := fun f2 q y => wL_X8_rolesNeeded_77 E (fun σ x1 x2 x3 x4 x5 x6 => wL_X8_rolesNeeded_59 E Q fu σ x1 x2 x3 x4 x5 (x6 + 1)) f2 y.1 (nI u) (nI a) (nI r) b y.2 (nI p) (nI q)) (J := fun q y => ∃ S1, vw 1 no0 T wgh S1 (tU T) y.1 ∧ (∀ s, va_up S1 u s = va_up (T.1 2) u s) ∧ sV 1 σ y.1 ∧ y.2 = oI (mnO (Cg T wgh u a r b) (twS b) (16 * p + q))) ?_ ?_ (p + 1) 0 (σ1, x5) (Nat.zero_add _) ⟨S1, H1, hS1, hV, e5⟩
    · exact ⟨_, l2⟩
    · rintro f2 ⟨σ2, y5⟩ ⟨S2, H2, hS2, hV2, e6⟩
      have e6 : y5 = oI (mnO (Cg T wgh u a r b) (twS b) (16 * p + (p + 1))) := e6
      show wL_X8_rolesNeeded_77 E (fun σ x1 x2 x3 x4 x5 x6 => wL_X8_rolesNeeded_59 E Q fu σ x1 x2 x3 x4 x5 (x6 + 1)) (f2 + 1) σ2 (nI u) (nI a) (nI r) b y5 (nI p) (nI (p + 1))
      unfold wL_X8_rolesNeeded_77
      refine ⟨fun _ => ?_, fun q => absurd (nI_lt (show p < p + 1 by omega) (by omega)) q⟩
      show wL_X8_rolesNeeded_59 E Q fu σ2 (nI u) (nI a) (nI r) b y5 (nI p + 1)
      rw [nI_1]
      refine next (σ2, y5) ⟨S2, H2, hS2, hV2, ?_⟩
      show y5 = oI (mnO (Cg T wgh u a r b) (twS b) (16 * (p + 1)))
      rw [e6, show 16 * (p + 1) = 16 * p + (p + 1) + (15 - p) by omega, mnO_skips (15 - p) (fun j h1 h2 => ?_)]
      unfold Cg
      rw [decide_eq_false (by omega), Bool.false_and]
    · rintro f2 q ⟨σ2, y5⟩ hq ⟨S2, H2, hS2, hV2, e6⟩ next2
      have e6 : y5 = oI (mnO (Cg T wgh u a r b) (twS b) (16 * p + q)) := e6
      show wL_X8_rolesNeeded_77 E (fun σ x1 x2 x3 x4 x5 x6 => wL_X8_rolesNeeded_59 E Q fu σ x1 x2 x3 x4 x5 (x6 + 1)) (f2 + 1) σ2 (nI u) (nI a) (nI r) b y5 (nI p) (nI q)
      have hle : decide ((16 * p + q) % 16 ≤ (16 * p + q) / 16) = true := decide_eq_true (by omega)
      have eT := tw_at b (p := p) (show q < 16 by omega)
      have hbT : bd (tR T) (tw b (16 * p + q) &&& (b ^^^ (-1))) := bd_and (by
        rw [eT]
        exact bd_or (bd_or hb (bd_bit hp (by omega))) (bd_bit (by omega) (by omega)))
      have h4096 : twX b (16 * p + q) < 4096 := Nat.lt_of_lt_of_le (nm_lt hbT) (pw2_le hR.2).2
      have eS : cn (bt (tw b (16 * p + q) &&& (b ^^^ (-1)))) 32 = twS b (16 * p + q) := by
        unfold twS
        rw [← rSz_eq h4096]
        unfold twX
        rw [nm_nI]
      have h12 : twS b (16 * p + q) ≤ 12 := rSz_le _
      have no : mnO (Cg T wgh u a r b) (twS b) (16 * p + q + 1) = mnO (Cg T wgh u a r b) (twS b) (16 * p + q) → wL_X8_rolesNeeded_77 E (fun σ x1 x2 x3 x4 x5 x6 => wL_X8_rolesNeeded_59 E Q fu σ x1 x2 x3 x4 x5 (x6 + 1)) f2 σ2 (nI u) (nI a) (nI r) b y5 (nI p) (nI q + 1) := fun e => by
        rw [nI_1]
        exact next2 (σ2, y5) ⟨S2, H2, hS2, hV2, by rw [← Nat.add_assoc, e]; exact e6⟩
      have yes : 0 < twS b (16 * p + q) → (∀ c, mnO (Cg T wgh u a r b) (twS b) (16 * p + q) = some c → twS b (16 * p + q) < c) → w_X8_wouldBeAllowed σ2 (nI u) (tw b (16 * p + q)) (nI a) (nI r) (fun r145 σ145 => ((r145 = 0) → (wL_X8_rolesNeeded_77 E (fun σ x1 x2 x3 x4 x5 x6 => wL_X8_rolesNeeded_59 E Q fu σ x1 x2 x3 x4 x5 (x6 + 1)) f2 σ145 (nI u) (nI a) (nI r) b y5 (nI p) (nI q + 1))) ∧ ((¬ r145 = 0) → (wL_X8_rolesNeeded_77 E (fun σ x1 x2 x3 x4 x5 x6 => wL_X8_rolesNeeded_59 E Q fu σ x1 x2 x3 x4 x5 (x6 + 1)) f2 σ145 (nI u) (nI a) (nI r) b (nI (twS b (16 * p + q))) (nI p) (nI q + 1)))) := fun h0 hc => by
        refine lb_wouldBe H2 hS2 hw hu ha hr (fun σ3 S3 H3 hS3 hV3 => ?_)
        rw [nI_1]
        refine b2i_go _ (fun ok => ?_) (fun ok => ?_)
        · have hC : Cg T wgh u a r b (16 * p + q) = false := by unfold Cg; rw [ok, Bool.and_false, Bool.and_false]
          exact next2 (σ3, y5) ⟨S3, H3, hS3, sV_tr hV2 hV3, by rw [← Nat.add_assoc, mnO_skip hC]; exact e6⟩
        · have hC : Cg T wgh u a r b (16 * p + q) = true := by unfold Cg; rw [ok, hle, decide_eq_true h0]; rfl
          exact next2 (σ3, nI (twS b (16 * p + q))) ⟨S3, H3, hS3, sV_tr hV2 hV3, by rw [← Nat.add_assoc, mnO_take hC hc]; rfl⟩
      unfold wL_X8_rolesNeeded_77 wJ_X8_rolesNeeded_131 wJ_X8_rolesNeeded_127 wJ_X8_rolesNeeded_132
      rw [← eT]
      refine ⟨fun e => absurd e (nI_nlt (show q ≤ p by omega) (by omega)), fun _ => ?_⟩
      refine lb_bits _ ?_
      rw [eS]
      have skip0 : (∀ hh : 0 < twS b (16 * p + q), False) → mnO (Cg T wgh u a r b) (twS b) (16 * p + q + 1) = mnO (Cg T wgh u a r b) (twS b) (16 * p + q) := fun e => mnO_skip (by unfold Cg; rw [decide_eq_false (fun hh => e hh), Bool.false_and, Bool.and_false])
      refine ⟨fun e => ⟨fun _ => no (skip0 (fun hh => by rw [← nI_0] at e; exact nI_ge hh (by omega) e)), fun e2 => absurd rfl e2⟩, fun e => ?_⟩
      have h0 : 0 < twS b (16 * p + q) := by
        rcases Nat.eq_zero_or_pos (twS b (16 * p + q)) with c | c
        · rw [c] at e; exact absurd (by decide) e
        · exact c
      cases hmn : mnO (Cg T wgh u a r b) (twS b) (16 * p + q) with
      | none =>
        rw [hmn] at e6
        refine ⟨fun _ => ⟨fun e2 => absurd e2 (by decide), fun _ => yes h0 (fun c e2 => by rw [hmn] at e2; cases e2)⟩, fun e2 => absurd (by rw [e6]; decide) e2⟩
      | some c =>
        have hc := mnT_le hmn
        rw [hmn] at e6
        have e6 : y5 = nI c := e6
        refine ⟨fun e2 => absurd e2 (by rw [e6]; exact nI_pos (by omega)), fun _ => ⟨fun e2 => ⟨fun _ => no ?_, fun e3 => absurd rfl e3⟩, fun e2 => ⟨fun e3 => absurd e3 (by decide), fun _ => yes h0 (fun d hd => ?_)⟩⟩⟩
        · rcases Nat.lt_or_ge (twS b (16 * p + q)) c with c2 | c2
          · rw [e6] at e2
            exact absurd e2 (nI_ge c2 (by omega))
          · rw [mnO_ge hmn c2, hmn]
        · rw [hmn] at hd
          have hd : c = d := by simpa using hd
          rcases Nat.lt_or_ge (twS b (16 * p + q)) c with c2 | c2
          · omega
          · rw [e6] at e2
            exact absurd (nI_le c2 (by omega)) e2
