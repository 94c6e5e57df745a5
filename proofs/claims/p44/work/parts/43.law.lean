/-! ===== the law: draws, its loops ===== -/
theorem gk_K.drawn {D : va_G} {cI cZ cG cL : ClassId} {s : State} (h : gk_K D cI cZ cG cL s) (d : Drawn) : gk_K D cI cZ cG cL (s.setDrawn d) := gk_K.warm (U := s.setDrawn d) (State.WarmedH.refl s) h
theorem nk_Z.drawn {q1 q2 q3 b L : Nat} {xs : Nat → Int32} {A : Nat → Prop} {s : State} {H : Heap} (h : nk_Z q1 q2 q3 b L xs A s H) (d : Drawn) : nk_Z q1 q2 q3 b L xs A (s.setDrawn d) H := nk_Z.warm (U := s.setDrawn d) (State.WarmedH.refl s) h
def lk_C (p : Program) (s : State) (m : MethodId) (meth : Method) (c : Code) (l : Launch) (D : va_G) (cI cZ cG cL : ClassId) (q1 q2 q3 b0 L : Nat) (xs : Nat → Int32) : Prop := gk_F p s m #[Value.ref b0] meth c cL_law 20 (some .boolean) RL ∧ gk_K D cI cZ cG cL s ∧ nk_Z q1 q2 q3 b0 L xs (lo_A s.heap.size) s s.heap ∧ l.stackTraces = false
theorem lk_C.drawn {p : Program} {l : Launch} {s : State} {m : MethodId} {meth : Method} {c : Code} {D : va_G} {cI cZ cG cL : ClassId} {q1 q2 q3 b0 L : Nat} {xs : Nat → Int32} (C0 : lk_C p s m meth c l D cI cZ cG cL q1 q2 q3 b0 L xs) (d : Drawn) : lk_C p (s.setDrawn d) m meth c l D cI cZ cG cL q1 q2 q3 b0 L xs := ⟨gk_F.drawn C0.1 d, C0.2.1.drawn d, C0.2.2.1.drawn d, C0.2.2.2⟩
/-- what the law says of openness and digest, in one -/
def lk_O (σ : nk_C) (x10 : Int64) (x12 : Int32) (K : gk_C → Prop) : Prop := w_X8_openness σ.1 (fun r s1 => (∀ v : UInt64, alike64 v (FP.ddiv (FP.i2d x12) (FP.i2d (((σ.2.2 5) * 5) * (σ.2.2 12)))) = true → Op.cmpValue (FP.dcmp r v) .l = 0) ∧ w_X8_digest s1 (fun r2 s2 => lg_cmp r2 x10 = 0 ∧ K s2))
set_option maxHeartbeats 4000000 in
set_option maxRecDepth 100000 in
theorem lk_716 {p : Program} {l : Launch} {e : Env} {s : State} {m : MethodId} {below : List Frame} {meth : Method} {c : Code} {D : va_G} {cI cZ cG cL : ClassId} {q1 q2 q3 b0 L : Nat} {xs : Nat → Int32} {ad am : Nat → Nat} (C0 : lk_C p s m meth c l D cI cZ cG cL q1 q2 q3 b0 L xs) (hAA : lk_D s.heap.size ad am) {cs : List Choice} (hnb : nanBits ∈ cs) {rc rs : Nat} (hrc : rc ≤ 600074) (hrs : rs ≤ 7301550) {Q : State → Prop} {K : gk_C → Prop} {σ : nk_C} {ρ : lk_R} {x1 x4 x5 x6 x7 x12 x13 : Int32} {x10 : Int64} (e13 : x13 = x12) (hw : lk_O σ x10 x12 K)
    (hk : ∀ (s2 : gk_C) (d1 : Drawn) (H : Heap) (locs : List Loc), s.drawn.sameBut d1 cs → K s2 → nk_W D cI cZ cL ad am b0 (s2, σ.2) H → rk_W D cI cG ad am ρ H → va_S (lo_A s.heap.size) s.heap H locs → ∀ (ls : Array Slot), lv_has ls 20 [(0, .ref b0), (1, .int x1), (2, .ref (am 0)), (3, .ref (ad 0)), (4, .int x4), (5, .int x5), (6, .int x6), (7, .int x7)] → W p l e room_1 (s.setDrawn d1) m #[Value.ref b0] below meth c H locs rc rs Q (F0 m 759 ls []))
    {H : Heap} {locs : List Loc} {d0 : Drawn} {ls : Array Slot} (hd0 : s.drawn.sameBut d0 cs) (hW : nk_W D cI cZ cL ad am b0 σ H) (hR : rk_W D cI cG ad am ρ H) (hS : va_S (lo_A s.heap.size) s.heap H locs) (hl : lv_has ls 20 [(0, .ref b0), (1, .int x1), (2, .ref (am 0)), (3, .ref (ad 0)), (4, .int x4), (5, .int x5), (6, .int x6), (7, .int x7), (10, .long x10), (12, .int x12), (13, .int x13)]) : W p l e room_1 (s.setDrawn d0) m #[Value.ref b0] below meth c H locs rc rs Q (F0 m 716 ls []) := by
  obtain ⟨⟨hx, hb, hml, hown, hts0, hr, hlocks⟩, hK0, hZ0, hfl⟩ := C0
  subst e13
  unfold lk_O at hw
  have hts := dr_words hts0 d0
  have hK := hK0.drawn d0
  refine lv_iload hx hb dL_law_716 (lv_at hl 10 rfl) ?_
  refine lv_iload hx hb dL_law_718 (lv_at hl 9 rfl) ?_
  refine lv_icmp_ne (tgt := 757) hx hb dL_law_720 (by decide) (fun c1 => absurd rfl c1) (fun _ => ?_)
  refine lv_aload_n hx hb dL_law_723 rfl (lv_at hl 3 rfl) ?_
  refine va_calldD hd0 (va_runV_D (As := []) (rest := []) ⟨hx, hb, hml, hown, hts⟩ (c_X8_openness l D cI cZ cG cL ad hnb hw) (cwV 0 hts (gk_gV ml_L_109 im_X8_openness se_X8_openness in_X8 co_X8_openness) rfl rfl rfl (by decide +kernel) ⟨Nat.le_of_ble_eq_true rfl, Nat.le_of_ble_eq_true rfl⟩) ⟨gk_blind, gk_recv hK.1 (gk_o0 hW.1) rfl, fun U hU hW' => ⟨rfl, by rw [hU], by rw [hU]; exact hW.1, hK.warm hW'⟩⟩ rfl rfl hl.1 rfl (lv_room (Nat.le_of_ble_eq_true rfl)) dL_law_724 ⟨by show _ ≤ 600074; omega, by show _ ≤ 7301550; omega⟩) hS (fun q _ h => hAA.up hS.1 q (nk_A.of q h)) (fun q h => hAA.up hS.1 q (nk_A.of q h)) (fun r u t H locs ht _ hw hB _ hk1 hS d1 hd1 => ?_)
  subst ht
  have hR := hR.gate hk1
  have hW := hW.gate hB hk1
  obtain ⟨hal, hw⟩ := hw
  have hts := dr_words hts0 d1
  have hK := hK0.drawn d1
  refine lv_iload hx hb dL_law_727 (lv_at hl 9 rfl) ?_
  refine lv_i2d hx hb dL_law_729 ?_
  refine lv_aload_n hx hb dL_law_730 rfl (lv_at hl 2 rfl) ?_
  refine gk_get hx hb hts iwX9 hown hK.1 (nk_obj hW) rfl 5 (by decide) (hts _ fl_L_31) (fun _ h9 => h9) rfl dL_law_731 ?_
  refine lv_iconst (v := 5) hx hb dL_law_734 (by decide) ?_
  refine lv_imul hx hb dL_law_735 ?_
  refine lv_aload_n hx hb dL_law_736 rfl (lv_at hl 2 rfl) ?_
  refine gk_get hx hb hts iwX9 hown hK.1 (nk_obj hW) rfl 12 (by decide) (hts _ fl_L_39) (fun _ h9 => h9) rfl dL_law_737 ?_
  refine lv_imul hx hb dL_law_740 ?_
  refine lv_i2d hx hb dL_law_741 ?_
  refine lv_ddiv_any hd1 hnb hx hb dL_law_742 (fun v d2 hv hd2 => ?_)
  have hts := dr_words hts0 d2
  have hK := hK0.drawn d2
  refine lv_dcmp hx hb dL_law_743 ?_
  refine lv_if_ne (tgt := 757) hx hb dL_law_744 (by decide) (fun c1 => absurd (hal v hv) c1) (fun _ => ?_)
  refine lv_aload_n hx hb dL_law_747 rfl (lv_at hl 3 rfl) ?_
  refine nk_gVl (s := s.setDrawn d2) ⟨hx, hb, hml, hown, hts⟩ (c_X8_digest l D cI cZ cG cL ad hw) (cwV 0 hts (gk_gV ml_L_65 im_X8_digest se_X8_digest in_X8 co_X8_digest) rfl rfl rfl (by decide +kernel) ⟨Nat.le_of_ble_eq_true rfl, Nat.le_of_ble_eq_true rfl⟩) (gk_recv hK.1 (gk_o0 hW.1) rfl) hW hK hS (hAA.up hS.1) rfl hl.1 (rest := []) rfl (lv_room (Nat.le_of_ble_eq_true rfl)) dL_law_748 ⟨by show _ ≤ 600074; omega, by show _ ≤ 7301550; omega⟩ (fun r2 s2 H locs hw hW _ hk1 hS => ?_)
  have hR := hR.gate hk1
  refine lv_lload hx hb dL_law_751 (lv_at hl 8 rfl) ?_
  refine W.lcmp hx hb dL_law_753 ?_
  refine lv_if_eq (tgt := 759) hx hb dL_law_754 (by decide) (fun _ => ?_) (fun c1 => absurd hw.1 c1)
  exact hk s2 d2 H locs hd2 hw.2 hW hR hS _ (lv_sub hl [0, 1, 2, 3, 4, 5, 6, 7] rfl)
/-- what is owed of the pure predicates: I j holds behind j rounds -/
def lk_H (I : Nat → nk_C → lk_R → Prop) : Prop :=
  (∀ x1 d0 : Int32, (d0 = nI 7 ∨ d0 = nI 38) → wJ_L_law_28 (fun σ ρ y => y = x1 ∧ I 0 σ ρ) (gk_0, tk_0 d0) (fun _ => none, fun _ => none) x1) ∧
  (∀ j, j < 4 → ∀ (σ : nk_C) (ρ : lk_R) (x1 x4 : Int32), I j σ ρ → wJ_L_law_46 (fun σ ρ y z => y = x1 ∧ z = x4 ∧ I (j + 1) σ ρ) σ ρ x1 x4) ∧
  (∀ j, j < 5 → ∀ (σ : nk_C) (ρ : lk_R) (x1 x4 : Int32), I (4 + j) σ ρ → wJ_L_law_84 (fun σ ρ y1 y4 x5 x6 x7 x10 x12 x13 => y1 = x1 ∧ y4 = x4 ∧ x13 = x12 ∧ lk_O σ x10 x12 (fun s2 => wJ_L_law_759 (fun σ ρ z1 z4 => z1 = x1 ∧ z4 = x4 ∧ I (4 + j + 1) σ ρ) (s2, σ.2) ρ x1 x4 x5 x6 x7)) σ ρ x1 x4) ∧
  ∀ (σ : nk_C) (ρ : lk_R) (x1 : Int32), I 9 σ ρ → wJ_L_law_948 (fun _ _ y => y = x1) σ ρ x1
set_option maxHeartbeats 4000000 in
set_option maxRecDepth 100000 in
theorem lk_40 {p : Program} {l : Launch} {e : Env} {s : State} {m : MethodId} {below : List Frame} {meth : Method} {c : Code} {D : va_G} {cI cZ cG cL : ClassId} {q1 q2 q3 b0 L : Nat} {xs : Nat → Int32} {ad am : Nat → Nat} (C0 : lk_C p s m meth c l D cI cZ cG cL q1 q2 q3 b0 L xs) (hAA : lk_D s.heap.size ad am) {I : Nat → nk_C → lk_R → Prop} (hH : lk_H I) {rc rs : Nat} (hrc : rc + 20 ≤ 600074) (hrs : rs + 132 ≤ 7301550) {Q : State → Prop} {x1 : Int32} {d0 : Drawn}
    (hk : ∀ (σ : nk_C) (ρ : lk_R) (H : Heap) (locs : List Loc), I 4 σ ρ → nk_W D cI cZ cL ad am b0 σ H → rk_W D cI cG ad am ρ H → va_S (lo_A s.heap.size) s.heap H locs → ∀ (ls : Array Slot), lv_has ls 20 [(0, .ref b0), (1, .int x1), (2, .ref (am 0)), (3, .ref (ad 0))] → W p l e room_1 (s.setDrawn d0) m #[Value.ref b0] below meth c H locs (rc + 20) (rs + 132) Q (F0 m 75 ls [])) :
    ∀ (d j : Nat), j + d = 4 → ∀ (σ : nk_C) (ρ : lk_R) (H : Heap) (locs : List Loc), I j σ ρ → nk_W D cI cZ cL ad am b0 σ H → rk_W D cI cG ad am ρ H → va_S (lo_A s.heap.size) s.heap H locs → ∀ (ls : Array Slot), lv_has ls 20 [(0, .ref b0), (1, .int x1), (2, .ref (am 0)), (3, .ref (ad 0)), (4, .int (nI j))] → W p l e room_1 (s.setDrawn d0) m #[Value.ref b0] below meth c H locs (rc + 5 * j) (rs + 33 * j) Q (F0 m 40 ls []) := by
  obtain ⟨hC, hK0, hZ0, hfl⟩ := C0.drawn d0
  obtain ⟨hx, hb, hml, hown, hts, hr, hlocks⟩ := id hC
  intro d
  induction d with
  | zero =>
    intro j hj σ ρ H locs hI hW hR hS ls hl
    have hj : j = 4 := hj
    subst hj
    refine lv_iload hx hb dL_law_40 (lv_at hl 4 rfl) ?_
    refine lv_iconst (v := 4) hx hb dL_law_42 (by decide) ?_
    refine lv_icmp_ge (tgt := 75) hx hb dL_law_43 (by decide) (fun _ => ?_) (fun c7 => absurd (by decide) c7)
    exact hk σ ρ H locs hI hW hR hS _ (lv_sub hl [0, 1, 2, 3] rfl)
  | succ d ih =>
    intro j hj σ ρ H locs hI hW hR hS ls hl
    have hj4 : j < 4 := by omega
    refine lv_iload hx hb dL_law_40 (lv_at hl 4 rfl) ?_
    refine lv_iconst (v := 4) hx hb dL_law_42 (by decide) ?_
    refine lv_icmp_ge (tgt := 75) hx hb dL_law_43 (by decide) (fun c7 => absurd c7 (nI_ge (a := j) (b := 4) hj4 (by decide))) (fun _ => ?_)
    refine tJ_L_law_46 (rc := rc + 5 * j) (rs := rs + 33 * j) (kc := rc + 5 * (j + 1)) (ks := rs + 33 * (j + 1)) hC hK0 hZ0 hfl hAA (by omega) (by omega) (by omega) (by omega) (hk69 := ?_) σ ρ x1 (nI j) (hH.2.1 j hj4 σ ρ x1 (nI j) hI) H locs hW hR hS ls hl
    rintro σ ρ y z ⟨rfl, rfl, hI⟩ H locs hW hR hS ls hl
    refine lv_iinc (v := nI (j + 1)) (lv' := [(4, .int (nI (j + 1))), (0, .ref b0), (1, .int y), (2, .ref (am 0)), (3, .ref (ad 0))]) hx hb dL_law_69 hl (k := 4) rfl (nI_1 j) (by decide) rfl (fun ls hl => ?_)
    refine lv_goto (tgt := 40) hx hb dL_law_72 (by decide) ?_
    exact ih (j + 1) (by omega) σ ρ H locs hI hW hR hS _ (lv_sub hl [1, 2, 3, 4, 0] rfl)
set_option maxHeartbeats 4000000 in
set_option maxRecDepth 100000 in
theorem lk_78 {p : Program} {l : Launch} {e : Env} {s : State} {m : MethodId} {below : List Frame} {meth : Method} {c : Code} {D : va_G} {cI cZ cG cL : ClassId} {q1 q2 q3 b0 L : Nat} {xs : Nat → Int32} {ad am : Nat → Nat} (C0 : lk_C p s m meth c l D cI cZ cG cL q1 q2 q3 b0 L xs) (hAA : lk_D s.heap.size ad am) {cs : List Choice} (hnb : nanBits ∈ cs) {I : Nat → nk_C → lk_R → Prop} (hH : lk_H I) {rc rs : Nat} (hrc : rc + 200 ≤ 600074) (hrs : rs + 2500 ≤ 7301550) {Q : State → Prop} {x1 : Int32}
    (hk : ∀ (σ : nk_C) (ρ : lk_R) (H : Heap) (locs : List Loc) (d0 : Drawn), s.drawn.sameBut d0 cs → I 9 σ ρ → nk_W D cI cZ cL ad am b0 σ H → rk_W D cI cG ad am ρ H → va_S (lo_A s.heap.size) s.heap H locs → ∀ (ls : Array Slot), lv_has ls 20 [(0, .ref b0), (1, .int x1), (2, .ref (am 0)), (3, .ref (ad 0))] → W p l e room_1 (s.setDrawn d0) m #[Value.ref b0] below meth c H locs (rc + 200) (rs + 2500) Q (F0 m 948 ls [])) :
    ∀ (d j : Nat), j + d = 5 → ∀ (σ : nk_C) (ρ : lk_R) (H : Heap) (locs : List Loc) (d0 : Drawn), s.drawn.sameBut d0 cs → I (4 + j) σ ρ → nk_W D cI cZ cL ad am b0 σ H → rk_W D cI cG ad am ρ H → va_S (lo_A s.heap.size) s.heap H locs → ∀ (ls : Array Slot), lv_has ls 20 [(0, .ref b0), (1, .int x1), (2, .ref (am 0)), (3, .ref (ad 0)), (4, .int (nI j))] → W p l e room_1 (s.setDrawn d0) m #[Value.ref b0] below meth c H locs (rc + 40 * j) (rs + 500 * j) Q (F0 m 78 ls []) := by
  intro d
  induction d with
  | zero =>
    intro j hj σ ρ H locs d0 hd0 hI hW hR hS ls hl
    obtain ⟨hC, hK0, hZ0, hfl⟩ := C0.drawn d0
    obtain ⟨hx, hb, hml, hown, hts, hr, hlocks⟩ := id hC
    have hj : j = 5 := hj
    subst hj
    refine lv_iload hx hb dL_law_78 (lv_at hl 4 rfl) ?_
    refine lv_iconst (v := 5) hx hb dL_law_80 (by decide) ?_
    refine lv_icmp_ge (tgt := 948) hx hb dL_law_81 (by decide) (fun _ => ?_) (fun c7 => absurd (by decide) c7)
    exact hk σ ρ H locs d0 hd0 hI hW hR hS _ (lv_sub hl [0, 1, 2, 3] rfl)
  | succ d ih =>
    intro j hj σ ρ H locs d0 hd0 hI hW hR hS ls hl
    obtain ⟨hC, hK0, hZ0, hfl⟩ := C0.drawn d0
    obtain ⟨hx, hb, hml, hown, hts, hr, hlocks⟩ := id hC
    have hj5 : j < 5 := by omega
    refine lv_iload hx hb dL_law_78 (lv_at hl 4 rfl) ?_
    refine lv_iconst (v := 5) hx hb dL_law_80 (by decide) ?_
    refine lv_icmp_ge (tgt := 948) hx hb dL_law_81 (by decide) (fun c7 => absurd c7 (nI_ge (a := j) (b := 5) hj5 (by decide))) (fun _ => ?_)
    refine tJ_L_law_84 (rc := rc + 40 * j) (rs := rs + 500 * j) (kc := rc + 40 * j + 5) (ks := rs + 500 * j + 50) hC hK0 hZ0 hfl hAA (by omega) (by omega) (by omega) (by omega) (hk716 := ?_) σ ρ x1 (nI j) (hH.2.2.1 j hj5 σ ρ x1 (nI j) hI) H locs hW hR hS ls hl
    rintro σ ρ y1 y4 x5 x6 x7 x10 x12 x13 ⟨rfl, rfl, e13, hO⟩ H locs hW hR hS ls hl
    refine lk_716 C0 hAA hnb (by omega) (by omega) e13 hO (fun s2 d1 H locs hd1 hw hW hR hS ls hl => ?_) hd0 hW hR hS hl
    obtain ⟨hC, hK0, hZ0, hfl⟩ := C0.drawn d1
    obtain ⟨hx, hb, hml, hown, hts, hr, hlocks⟩ := id hC
    refine W.eq (g2 := F0 m 759 ls []) rfl ?_
    refine tJ_L_law_759 (rc := rc + 40 * j + 5) (rs := rs + 500 * j + 50) (kc := rc + 40 * (j + 1)) (ks := rs + 500 * (j + 1)) hC hK0 hZ0 hfl hAA (by omega) (by omega) (by omega) (by omega) (hk942 := ?_) (s2, σ.2) ρ y1 (nI j) x5 x6 x7 hw H locs hW hR hS ls hl
    rintro σ ρ z1 z4 ⟨rfl, rfl, hI⟩ H locs hW hR hS ls hl
    refine lv_iinc (v := nI (j + 1)) (lv' := [(4, .int (nI (j + 1))), (0, .ref b0), (1, .int z1), (2, .ref (am 0)), (3, .ref (ad 0))]) hx hb dL_law_942 hl (k := 4) rfl (nI_1 j) (by decide) rfl (fun ls hl => ?_)
    refine lv_goto (tgt := 78) hx hb dL_law_945 (by decide) ?_
    exact ih (j + 1) (by omega) σ ρ H locs d1 hd1 hI hW hR hS _ (lv_sub hl [1, 2, 3, 4, 0] rfl)
theorem lk_d0 (G : Nat) {sz : Nat} (h : sz ≤ G) : lk_D sz (gk_ad (G + 1)) (tk_am G (G + 1)) := by
  refine ⟨fun k hk => ?_, fun k hk => ?_, ?_, ?_, ?_⟩
  · have := gk_adB (G + 1) hk
    omega
  · by_cases h0 : k = 0
    · subst h0
      exact h
    · have := tk_amB (a := G) (q := G + 1) hk h0
      omega
  · show sz ≤ G + 1 + 110
    omega
  · show sz ≤ G + 1 + 111
    omega
  · show G + 1 + 110 ≠ G + 1 + 111
    omega
set_option maxHeartbeats 4000000 in
set_option maxRecDepth 100000 in
theorem lk_2 {p : Program} {l : Launch} {e : Env} {s : State} {m : MethodId} {below : List Frame} {meth : Method} {c : Code} {D : va_G} {cI cZ cG cL : ClassId} {q1 q2 q3 b0 L : Nat} {xs : Nat → Int32} (C0 : lk_C p s m meth c l D cI cZ cG cL q1 q2 q3 b0 L xs) {cs : List Choice} (hnb : nanBits ∈ cs) {I : Nat → nk_C → lk_R → Prop} (hH : lk_H I) {Q : State → Prop}
    (hE : ∀ (H : Heap) (ls : Array Slot) (locs : List Loc) (d1 : Drawn), s.drawn.sameBut d1 cs → va_S (lo_A s.heap.size) s.heap H locs → W p l e room_1 (s.setDrawn d1) m #[Value.ref b0] below meth c H locs 800 12000 Q (F0 m 1055 ls [.int 1])) :
    ∀ (d t : Nat), t + d = 2 → ∀ (H : Heap) (locs : List Loc) (d0 : Drawn), s.drawn.sameBut d0 cs → va_S (lo_A s.heap.size) s.heap H locs → ∀ (ls : Array Slot), lv_has ls 20 [(0, .ref b0), (1, .int (nI t))] → W p l e room_1 (s.setDrawn d0) m #[Value.ref b0] below meth c H locs (400 * t) (6000 * t) Q (F0 m 2 ls []) := by
  intro d
  induction d with
  | zero =>
    intro t ht H locs d0 hd0 hS ls hl
    obtain ⟨hC, hK0, hZ0, hfl⟩ := C0.drawn d0
    obtain ⟨hx, hb, hml, hown, hts, hr, hlocks⟩ := id hC
    have ht : t = 2 := ht
    subst ht
    refine lv_iload_n hx hb dL_law_2 rfl (lv_at hl 1 rfl) ?_
    refine lv_iconst (v := 2) hx hb dL_law_3 (by decide) ?_
    refine lv_icmp_ge (tgt := 1054) hx hb dL_law_4 (by decide) (fun _ => ?_) (fun c7 => absurd (by decide) c7)
    refine lv_iconst (v := 1) hx hb dL_law_1054 (by decide) ?_
    exact hE H ls locs d0 hd0 hS
  | succ d ih =>
    intro t ht H locs d0 hd0 hS ls hl
    obtain ⟨hC, hK0, hZ0, hfl⟩ := C0.drawn d0
    obtain ⟨hx, hb, hml, hown, hts, hr, hlocks⟩ := id hC
    have ht2 : t < 2 := by omega
    refine lv_iload_n hx hb dL_law_2 rfl (lv_at hl 1 rfl) ?_
    refine lv_iconst (v := 2) hx hb dL_law_3 (by decide) ?_
    refine lv_icmp_ge (tgt := 1054) hx hb dL_law_4 (by decide) (fun c7 => absurd c7 (nI_ge (a := t) (b := 2) ht2 (by decide))) (fun _ => ?_)
    have hS00 : s.heap.size ≤ H.size := hS.1
    refine gk_new (s := s.setDrawn d0) (fs := [.null, .null, .int 0, .int 0, .int 0, .int 0, .null, .null, .null, .int 0, .null, .null, .int 0, .null, .null, .null, .null, .int 0, .null, .int 0, .null, .null]) hx hb hts iwX9 tyX9 tyX9_ok hown (hts _ cl_L_9) (hts _ it_X9) (hts _ in_X9) hK0.1 hS (ci := 9) rfl df_X9 ⟨by show _ ≤ 600074; omega, by show _ ≤ 7301550; omega⟩ dL_law_7 (fun G H hn q1 z1 hk1 hS => ?_)
    have hG0 : s.heap.size ≤ G := by omega
    refine lv_dup hx hb dL_law_10 rfl ?_
    refine lv_aload_n hx hb dL_law_11 rfl (lv_at hl 0 rfl) ?_
    refine lv_bipush (v := 31) hx hb dL_law_12 (by decide) ?_
    refine lv_iload_n hx hb dL_law_14 rfl (lv_at hl 1 rfl) ?_
    refine lv_imul hx hb dL_law_15 ?_
    refine lv_bipush (v := 7) hx hb dL_law_16 (by decide) ?_
    refine lv_iadd hx hb dL_law_18 ?_
    refine gk_ctor (s := s.setDrawn d0) ⟨hx, hb, hml, hown, hts⟩ (c_X9_init l D cI cZ cG cL (b0 := b0) (d0 := 31 * nI t + 7)) (cwI 2 hts (gk_gI co_X9_init) rfl rfl rfl (hts _ in_X9) (hts _ ml_L_11) (hts _ im_X9_init) rfl (by decide +kernel) ⟨Nat.le_of_ble_eq_true rfl, Nat.le_of_ble_eq_true rfl⟩) hn hK0 hS hG0 (fun q h => h) rfl hl.1 (As := [.ref b0, .int (31 * nI t + 7)]) (rest := [.ref G]) rfl (lv_room (Nat.le_of_ble_eq_true rfl)) dL_law_19 ⟨by show _ ≤ 600074; omega, by show _ ≤ 7301550; omega⟩ (fun H locs z2 hP hk1 hS => ?_)
    rw [show Array.size _ = G + 1 by omega] at hP
    obtain ⟨hW, hO1, hO2⟩ := hP
    have hAA := lk_d0 G hG0
    have hR : rk_W D cI cG (gk_ad (G + 1)) (tk_am G (G + 1)) (fun _ => none, fun _ => none) H := ⟨⟨_, hO1, fun j f hj => by cases hj⟩, ⟨_, hO2, fun j f hj => by cases hj⟩⟩
    generalize gk_ad (G + 1) = ad at *
    generalize ham : tk_am G (G + 1) = am at *
    have e0 : G = am 0 := by rw [← ham]; rfl
    rw [e0]
    refine lv_astore_n (lv' := [(2, .ref (am 0)), (0, .ref b0), (1, .int (nI t))]) hx hb dL_law_22 rfl hl (by decide) rfl (fun ls hl => ?_)
    refine lv_aload_n hx hb dL_law_23 rfl (lv_at hl 0 rfl) ?_
    refine gk_get hx hb hts iwX9 hown hK0.1 (nk_obj hW) rfl 0 (by decide) (hts _ fl_L_14) (fun _ h9 => h9) rfl dL_law_24 ?_
    refine lv_astore_n (lv' := [(3, .ref (ad 0)), (2, .ref (am 0)), (0, .ref b0), (1, .int (nI t))]) hx hb dL_law_27 rfl hl (by decide) rfl (fun ls hl => ?_)
    have hd7 : (31 * nI t + 7 : Int32) = nI 7 ∨ (31 * nI t + 7 : Int32) = nI 38 := by
      rcases (show t = 0 ∨ t = 1 by omega) with rfl | rfl
      · exact Or.inl (by decide)
      · exact Or.inr (by decide)
    refine W.widen (k := 400 * t + 118 + 0) (n := 6000 * t + 2192 + 0) (by omega) (by omega) ?_
    refine tJ_L_law_28 (rc := 400 * t + 118) (rs := 6000 * t + 2192) (kc := 400 * t + 118) (ks := 6000 * t + 2192) hC hK0 hZ0 hfl hAA (by omega) (by omega) (by omega) (by omega) (hk37 := ?_) _ _ (nI t) (hH.1 (nI t) _ hd7) H locs hW hR hS _ (lv_sub hl [2, 3, 1, 0] rfl)
    rintro σ ρ y ⟨rfl, hI⟩ H locs hW hR hS ls hl
    refine lv_iconst (v := 0) hx hb dL_law_37 (by decide) ?_
    refine lv_istore (lv' := [(4, .int (nI 0)), (0, .ref b0), (1, .int (nI t)), (2, .ref (am 0)), (3, .ref (ad 0))]) hx hb dL_law_38 hl (by decide) rfl (fun ls hl => ?_)
    refine lk_40 C0 hAA hH (rc := 400 * t + 118) (rs := 6000 * t + 2192) (by omega) (by omega) (x1 := nI t) (fun σ ρ H locs hI hW hR hS ls hl => ?_) 4 0 rfl σ ρ H locs hI hW hR hS _ (lv_sub hl [1, 2, 3, 4, 0] rfl)
    refine lv_iconst (v := 0) hx hb dL_law_75 (by decide) ?_
    refine lv_istore (lv' := [(4, .int (nI 0)), (0, .ref b0), (1, .int (nI t)), (2, .ref (am 0)), (3, .ref (ad 0))]) hx hb dL_law_76 hl (by decide) rfl (fun ls hl => ?_)
    refine lk_78 C0 hAA hnb hH (rc := 400 * t + 118 + 20) (rs := 6000 * t + 2192 + 132) (by omega) (by omega) (x1 := nI t) (fun σ ρ H locs d1 hd1 hI hW hR hS ls hl => ?_) 5 0 rfl σ ρ H locs d0 hd0 hI hW hR hS _ (lv_sub hl [1, 2, 3, 4, 0] rfl)
    obtain ⟨hC, hK0, hZ0, hfl⟩ := C0.drawn d1
    obtain ⟨hx, hb, hml, hown, hts, hr, hlocks⟩ := id hC
    refine tJ_L_law_948 (rc := 400 * t + 118 + 20 + 200) (rs := 6000 * t + 2192 + 132 + 2500) (kc := 400 * (t + 1)) (ks := 6000 * (t + 1)) hC hK0 hZ0 hfl hAA (by omega) (by omega) (by omega) (by omega) (hk1048 := ?_) σ ρ (nI t) (hH.2.2.2 σ ρ (nI t) hI) H locs hW hR hS _ hl
    rintro σ ρ y rfl H locs hW hR hS ls hl
    refine lv_iinc (v := nI (t + 1)) (lv' := [(1, .int (nI (t + 1))), (0, .ref b0)]) hx hb dL_law_1048 hl (k := 1) rfl (nI_1 t) (by decide) rfl (fun ls hl => ?_)
    refine lv_goto (tgt := 2) hx hb dL_law_1051 (by decide) ?_
    exact ih (t + 1) (by omega) H locs d1 hd1 hS _ (lv_sub hl [1, 0] rfl)
