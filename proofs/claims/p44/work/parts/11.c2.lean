/-! laid by wip/p44/class1.py: wp predicates and walks -/
def w_X7_matching (v : Nat) (σ : gk_C) (a0 : Int32) (a1 : Int32) (a2 : Int32) (Q : Int32 → Prop) : Prop := (Q (((gk_at σ (28 + 6 * v) a0) &&& (gk_at σ (26 + 6 * v) a1)) &&& (gk_at σ (27 + 6 * v) a2)))
abbrev rmX7_matching : Room := { frames := 1, cells := 0, slots := 0, locals := 21 }
set_option maxHeartbeats 4000000 in
set_option maxRecDepth 100000 in
theorem c_X7_matching (l : Launch) (D : va_G) (cI cZ cG cL : ClassId) (ad : Nat → Nat) {v : Nat} (hv : v < 2) {σ : gk_C} {a0 : Int32} {a1 : Int32} {a2 : Int32} {Q : Int32 → Prop} {sz : Nat} (hw : w_X7_matching v σ a0 a1 a2 Q) : Met l yX7_matching wsX7_matching rmX7_matching (gk_Pc D cI cZ cG cL ad [.ref (ad (7 + v)), .int a0, .int a1, .int a2] sz σ) (va_Qi (fun r u => u = σ ∧ Q r) (gk_B D cI ad) (gk_A ad sz)) 0 0 (gk_A ad sz) := by
  refine Met.ofW (cc := cX7_matching) (maxL := 4) (ret := (some .int)) (by decide) rfl ?_
  intro p e s m args below meth c s₁ B hml0 hv0
  obtain ⟨rfl, hsz, hW, hK⟩ := hv0
  subst hsz
  have C0 : gk_F p s m ([.ref (ad (7 + v)), .int a0, .int a1, .int a2] : List Value).toArray meth c cX7_matching 4 (some .int) RX7 := ⟨B.exec, B.bytes, hml0, findClass_of_methodNamed B.named, fun w hw => atoms_spec (ws := wsX7_matching) B.pre w (List.mem_cons_of_mem _ hw), B.returns, B.notSynchronized⟩
  obtain ⟨hx, hb, hml, hown, hts, hr, hlocks⟩ := id C0
  have hS : va_S (gk_A ad s.heap.size) s.heap s.heap [] := va_S.rf
  have hl := lv_entry ([.ref (ad (7 + v)), .int a0, .int a1, .int a2]) (n := 4) (Nat.le_of_ble_eq_true rfl)
  rw [lg_entry_eq]
  generalize (lg_sl ([.ref (ad (7 + v)), .int a0, .int a1, .int a2]) ++ List.replicate (4 - (lg_sl ([.ref (ad (7 + v)), .int a0, .int a1, .int a2])).length) Slot.unset).toArray = ls at hl ⊢
  have hl : lv_has ls 4 [(0, .ref (ad (7 + v))), (1, .int a0), (2, .int a1), (3, .int a2)] := hl
  show W p l e rmX7_matching s m _ below meth c s.heap [] 0 0 _ _
  refine lv_aload_n hx hb dX7_matching_0 rfl (lv_at hl 0 rfl) ?_
  refine gk_get hx hb hts iwX7 hown hK.1 (gk_ov hW (v := v) hv) rfl 3 (by decide) (hts _ fl_X7_23) (fun _ h9 => h9) rfl dX7_matching_1 ?_
  refine lv_iload_n hx hb dX7_matching_4 rfl (lv_at hl 1 rfl) ?_
  refine gk_callRi ⟨hx, hb, hml, hown, hts⟩ (c_X2_at l D cI cZ cG cL ad (σ := σ) (r := (28 + 6 * v)) (i := a0) (by omega)) (cwV 1 hts (gk_gV ml_X7_64 im_X2_at se_X2_at in_X2 co_X2_at) rfl rfl rfl (by decide +kernel) ⟨Nat.le_of_ble_eq_true rfl, Nat.le_of_ble_eq_true rfl⟩) (gk_recv hK.1 (gk_or hW (r := (28 + 6 * v)) (by omega)) rfl) hW hK hS rfl hl.1 (rest := []) rfl (lv_room (Nat.le_of_ble_eq_true rfl)) dX7_matching_5 ⟨Nat.zero_le _, Nat.zero_le _⟩ (fun r5 H locs hq hW _ hS => ?_)
  obtain rfl := hq
  refine lv_aload_n hx hb dX7_matching_8 rfl (lv_at hl 0 rfl) ?_
  refine gk_get hx hb hts iwX7 hown hK.1 (gk_ov hW (v := v) hv) rfl 1 (by decide) (hts _ fl_X7_14) (fun _ h9 => h9) rfl dX7_matching_9 ?_
  refine lv_iload_n hx hb dX7_matching_12 rfl (lv_at hl 2 rfl) ?_
  refine gk_callRi ⟨hx, hb, hml, hown, hts⟩ (c_X2_at l D cI cZ cG cL ad (σ := σ) (r := (26 + 6 * v)) (i := a1) (by omega)) (cwV 1 hts (gk_gV ml_X7_64 im_X2_at se_X2_at in_X2 co_X2_at) rfl rfl rfl (by decide +kernel) ⟨Nat.le_of_ble_eq_true rfl, Nat.le_of_ble_eq_true rfl⟩) (gk_recv hK.1 (gk_or hW (r := (26 + 6 * v)) (by omega)) rfl) hW hK hS rfl hl.1 (rest := [.int (gk_at σ (28 + 6 * v) a0)]) rfl (lv_room (Nat.le_of_ble_eq_true rfl)) dX7_matching_13 ⟨Nat.zero_le _, Nat.zero_le _⟩ (fun r13 H locs hq hW _ hS => ?_)
  obtain rfl := hq
  refine lv_iand hx hb dX7_matching_16 ?_
  refine lv_aload_n hx hb dX7_matching_17 rfl (lv_at hl 0 rfl) ?_
  refine gk_get hx hb hts iwX7 hown hK.1 (gk_ov hW (v := v) hv) rfl 2 (by decide) (hts _ fl_X7_20) (fun _ h9 => h9) rfl dX7_matching_18 ?_
  refine lv_iload_n hx hb dX7_matching_21 rfl (lv_at hl 3 rfl) ?_
  refine gk_callRi ⟨hx, hb, hml, hown, hts⟩ (c_X2_at l D cI cZ cG cL ad (σ := σ) (r := (27 + 6 * v)) (i := a2) (by omega)) (cwV 1 hts (gk_gV ml_X7_64 im_X2_at se_X2_at in_X2 co_X2_at) rfl rfl rfl (by decide +kernel) ⟨Nat.le_of_ble_eq_true rfl, Nat.le_of_ble_eq_true rfl⟩) (gk_recv hK.1 (gk_or hW (r := (27 + 6 * v)) (by omega)) rfl) hW hK hS rfl hl.1 (rest := [.int ((gk_at σ (28 + 6 * v) a0) &&& (gk_at σ (26 + 6 * v) a1))]) rfl (lv_room (Nat.le_of_ble_eq_true rfl)) dX7_matching_22 ⟨Nat.zero_le _, Nat.zero_le _⟩ (fun r22 H locs hq hW _ hS => ?_)
  obtain rfl := hq
  refine lv_iand hx hb dX7_matching_25 ?_
  exact gk_reti C0 ⟨rfl, hw⟩ hW hS dX7_matching_26
def w_X7_isAgainstLabel (v : Nat) (σ : gk_C) (a0 : Int32) (a1 : Int32) (a2 : Int32) (Q : Int32 → Prop) : Prop := (((¬ a1 = 0) → (((a1 = 4) → (Q 0)) ∧ ((¬ a1 = 4) → ((((gk_at σ 0 a0) ≤ (gk_at σ 8 a2)) → (Q 0)) ∧ ((¬ (gk_at σ 0 a0) ≤ (gk_at σ 8 a2)) → (Q 1)))))) ∧ ((a1 = 0) → ((((gk_at σ 8 a2) ≤ (gk_at σ 0 a0)) → (Q 0)) ∧ ((¬ (gk_at σ 8 a2) ≤ (gk_at σ 0 a0)) → (Q 1)))))
abbrev rmX7_isAgainstLabel : Room := { frames := 1, cells := 0, slots := 0, locals := 21 }
set_option maxHeartbeats 4000000 in
set_option maxRecDepth 100000 in
theorem c_X7_isAgainstLabel (l : Launch) (D : va_G) (cI cZ cG cL : ClassId) (ad : Nat → Nat) {v : Nat} (hv : v < 2) {σ : gk_C} {a0 : Int32} {a1 : Int32} {a2 : Int32} {Q : Int32 → Prop} {sz : Nat} (hw : w_X7_isAgainstLabel v σ a0 a1 a2 Q) : Met l yX7_isAgainstLabel wsX7_isAgainstLabel rmX7_isAgainstLabel (gk_Pc D cI cZ cG cL ad [.ref (ad (7 + v)), .int a0, .int a1, .int a2] sz σ) (va_Qi (fun r u => u = σ ∧ Q r) (gk_B D cI ad) (gk_A ad sz)) 0 0 (gk_A ad sz) := by
  refine Met.ofW (cc := cX7_isAgainstLabel) (maxL := 6) (ret := (some .boolean)) (by decide) rfl ?_
  intro p e s m args below meth c s₁ B hml0 hv0
  obtain ⟨rfl, hsz, hW, hK⟩ := hv0
  subst hsz
  have C0 : gk_F p s m ([.ref (ad (7 + v)), .int a0, .int a1, .int a2] : List Value).toArray meth c cX7_isAgainstLabel 6 (some .boolean) RX7 := ⟨B.exec, B.bytes, hml0, findClass_of_methodNamed B.named, fun w hw => atoms_spec (ws := wsX7_isAgainstLabel) B.pre w (List.mem_cons_of_mem _ hw), B.returns, B.notSynchronized⟩
  obtain ⟨hx, hb, hml, hown, hts, hr, hlocks⟩ := id C0
  have hS : va_S (gk_A ad s.heap.size) s.heap s.heap [] := va_S.rf
  have hl := lv_entry ([.ref (ad (7 + v)), .int a0, .int a1, .int a2]) (n := 6) (Nat.le_of_ble_eq_true rfl)
  rw [lg_entry_eq]
  generalize (lg_sl ([.ref (ad (7 + v)), .int a0, .int a1, .int a2]) ++ List.replicate (6 - (lg_sl ([.ref (ad (7 + v)), .int a0, .int a1, .int a2])).length) Slot.unset).toArray = ls at hl ⊢
  have hl : lv_has ls 6 [(0, .ref (ad (7 + v))), (1, .int a0), (2, .int a1), (3, .int a2)] := hl
  show W p l e rmX7_isAgainstLabel s m _ below meth c s.heap [] 0 0 _ _
  refine lv_aload_n hx hb dX7_isAgainstLabel_0 rfl (lv_at hl 0 rfl) ?_
  refine gk_get hx hb hts iwX7 hown hK.1 (gk_ov hW (v := v) hv) rfl 0 (by decide) (hts _ fl_X7_35) (fun _ h9 => h9) rfl dX7_isAgainstLabel_1 ?_
  refine gk_getN hx hb hts iwX4 hown hK.1 (gk_o1 hW) rfl 2 (by decide) (gk_nw hK nf_X7_119) (fun _ h9 => h9) rfl dX7_isAgainstLabel_4 ?_
  refine gk_getN hx hb hts iwX5 hown hK.1 (gk_o4 hW) rfl 3 (by decide) (gk_nw hK nf_X7_218) (fun _ h9 => h9) rfl dX7_isAgainstLabel_7 ?_
  refine lv_iload_n hx hb dX7_isAgainstLabel_10 rfl (lv_at hl 3 rfl) ?_
  refine gk_callRi ⟨hx, hb, hml, hown, hts⟩ (c_X2_at l D cI cZ cG cL ad (σ := σ) (r := 8) (i := a2) (by decide)) (cwV 1 hts (gk_gV ml_X7_64 im_X2_at se_X2_at in_X2 co_X2_at) rfl rfl rfl (by decide +kernel) ⟨Nat.le_of_ble_eq_true rfl, Nat.le_of_ble_eq_true rfl⟩) (gk_recv hK.1 (gk_or hW (r := 8) (by decide)) rfl) hW hK hS rfl hl.1 (rest := []) rfl (lv_room (Nat.le_of_ble_eq_true rfl)) dX7_isAgainstLabel_11 ⟨Nat.zero_le _, Nat.zero_le _⟩ (fun r11 H locs hq hW _ hS => ?_)
  obtain rfl := hq
  refine lv_istore (lv' := [(4, .int (gk_at σ 8 a2)), (0, .ref (ad (7 + v))), (1, .int a0), (2, .int a1), (3, .int a2)]) hx hb dX7_isAgainstLabel_14 hl (by decide) rfl (fun ls hl => ?_)
  refine lv_aload_n hx hb dX7_isAgainstLabel_16 rfl (lv_at hl 1 rfl) ?_
  refine gk_get hx hb hts iwX7 hown hK.1 (gk_ov hW (v := v) hv) rfl 0 (by decide) (hts _ fl_X7_35) (fun _ h9 => h9) rfl dX7_isAgainstLabel_17 ?_
  refine gk_getN hx hb hts iwX4 hown hK.1 (gk_o1 hW) rfl 0 (by decide) (gk_nw hK nf_X7_50) (fun _ h9 => h9) rfl dX7_isAgainstLabel_20 ?_
  refine gk_getN hx hb hts iwX6 hown hK.1 (gk_o2 hW) rfl 1 (by decide) (gk_nw hK nf_X7_221) (fun _ h9 => h9) rfl dX7_isAgainstLabel_23 ?_
  refine lv_iload_n hx hb dX7_isAgainstLabel_26 rfl (lv_at hl 2 rfl) ?_
  refine gk_callRi ⟨hx, hb, hml, hown, hts⟩ (c_X2_at l D cI cZ cG cL ad (σ := σ) (r := 0) (i := a0) (by decide)) (cwV 1 hts (gk_gV ml_X7_64 im_X2_at se_X2_at in_X2 co_X2_at) rfl rfl rfl (by decide +kernel) ⟨Nat.le_of_ble_eq_true rfl, Nat.le_of_ble_eq_true rfl⟩) (gk_recv hK.1 (gk_or hW (r := 0) (by decide)) rfl) hW hK hS rfl hl.1 (rest := []) rfl (lv_room (Nat.le_of_ble_eq_true rfl)) dX7_isAgainstLabel_27 ⟨Nat.zero_le _, Nat.zero_le _⟩ (fun r27 H locs hq hW _ hS => ?_)
  obtain rfl := hq
  refine lv_istore (lv' := [(5, .int (gk_at σ 0 a0)), (4, .int (gk_at σ 8 a2)), (0, .ref (ad (7 + v))), (1, .int a0), (2, .int a1), (3, .int a2)]) hx hb dX7_isAgainstLabel_30 hl (by decide) rfl (fun ls hl => ?_)
  refine lv_iload_n hx hb dX7_isAgainstLabel_32 rfl (lv_at hl 4 rfl) ?_
  refine lv_if_ne (tgt := 49) hx hb dX7_isAgainstLabel_33 (by decide) (fun c33 => ?_) (fun c33 => ?_)
  · have hw := hw.1 c33
    refine lv_iload_n hx hb dX7_isAgainstLabel_49 rfl (lv_at hl 4 rfl) ?_
    refine lv_iconst (v := 4) hx hb dX7_isAgainstLabel_50 (by decide) ?_
    refine lv_icmp_eq (tgt := 65) hx hb dX7_isAgainstLabel_51 (by decide) (fun c51 => ?_) (fun c51 => ?_)
    · have hw := hw.1 c51
      refine lv_iconst (v := 0) hx hb dX7_isAgainstLabel_65 (by decide) ?_
      exact gk_retz C0 (by decide) ⟨rfl, hw⟩ hW hS dX7_isAgainstLabel_66
    · have hw := hw.2 c51
      refine lv_iload hx hb dX7_isAgainstLabel_54 (lv_at hl 1 rfl) ?_
      refine lv_iload hx hb dX7_isAgainstLabel_56 (lv_at hl 0 rfl) ?_
      refine lv_icmp_ge (tgt := 65) hx hb dX7_isAgainstLabel_58 (by decide) (fun c58 => ?_) (fun c58 => ?_)
      · have hw := hw.1 c58
        refine lv_iconst (v := 0) hx hb dX7_isAgainstLabel_65 (by decide) ?_
        exact gk_retz C0 (by decide) ⟨rfl, hw⟩ hW hS dX7_isAgainstLabel_66
      · have hw := hw.2 c58
        refine lv_iconst (v := 1) hx hb dX7_isAgainstLabel_61 (by decide) ?_
        refine lv_goto (tgt := 66) hx hb dX7_isAgainstLabel_62 (by decide) ?_
        exact gk_retz C0 (by decide) ⟨rfl, hw⟩ hW hS dX7_isAgainstLabel_66
  · have hw := hw.2 c33
    refine lv_iload hx hb dX7_isAgainstLabel_36 (lv_at hl 1 rfl) ?_
    refine lv_iload hx hb dX7_isAgainstLabel_38 (lv_at hl 0 rfl) ?_
    refine lv_icmp_le (tgt := 47) hx hb dX7_isAgainstLabel_40 (by decide) (fun c40 => ?_) (fun c40 => ?_)
    · have hw := hw.1 c40
      refine lv_iconst (v := 0) hx hb dX7_isAgainstLabel_47 (by decide) ?_
      exact gk_retz C0 (by decide) ⟨rfl, hw⟩ hW hS dX7_isAgainstLabel_48
    · have hw := hw.2 c40
      refine lv_iconst (v := 1) hx hb dX7_isAgainstLabel_43 (by decide) ?_
      refine lv_goto (tgt := 48) hx hb dX7_isAgainstLabel_44 (by decide) ?_
      exact gk_retz C0 (by decide) ⟨rfl, hw⟩ hW hS dX7_isAgainstLabel_48
def w_X7_isWalledOff (v : Nat) (σ : gk_C) (a0 : Int32) (a1 : Int32) (Q : Int32 → Prop) : Prop := (((¬ (gk_at σ 9 a1) = (-1)) → (((((gk_at σ (30 + 6 * v) ((a0 * 4) + (gk_at σ 9 a1))) &&& ((1 <<< ((gk_at σ 10 a1) &&& 31)) ^^^ (-1))) = 0) → (Q 0)) ∧ ((¬ ((gk_at σ (30 + 6 * v) ((a0 * 4) + (gk_at σ 9 a1))) &&& ((1 <<< ((gk_at σ 10 a1) &&& 31)) ^^^ (-1))) = 0) → (Q 1)))) ∧ (((gk_at σ 9 a1) = (-1)) → (Q 0)))
abbrev rmX7_isWalledOff : Room := { frames := 1, cells := 0, slots := 0, locals := 21 }
set_option maxHeartbeats 4000000 in
set_option maxRecDepth 100000 in
theorem c_X7_isWalledOff (l : Launch) (D : va_G) (cI cZ cG cL : ClassId) (ad : Nat → Nat) {v : Nat} (hv : v < 2) {σ : gk_C} {a0 : Int32} {a1 : Int32} {Q : Int32 → Prop} {sz : Nat} (hw : w_X7_isWalledOff v σ a0 a1 Q) : Met l yX7_isWalledOff wsX7_isWalledOff rmX7_isWalledOff (gk_Pc D cI cZ cG cL ad [.ref (ad (7 + v)), .int a0, .int a1] sz σ) (va_Qi (fun r u => u = σ ∧ Q r) (gk_B D cI ad) (gk_A ad sz)) 0 0 (gk_A ad sz) := by
  refine Met.ofW (cc := cX7_isWalledOff) (maxL := 5) (ret := (some .boolean)) (by decide) rfl ?_
  intro p e s m args below meth c s₁ B hml0 hv0
  obtain ⟨rfl, hsz, hW, hK⟩ := hv0
  subst hsz
  have C0 : gk_F p s m ([.ref (ad (7 + v)), .int a0, .int a1] : List Value).toArray meth c cX7_isWalledOff 5 (some .boolean) RX7 := ⟨B.exec, B.bytes, hml0, findClass_of_methodNamed B.named, fun w hw => atoms_spec (ws := wsX7_isWalledOff) B.pre w (List.mem_cons_of_mem _ hw), B.returns, B.notSynchronized⟩
  obtain ⟨hx, hb, hml, hown, hts, hr, hlocks⟩ := id C0
  have hS : va_S (gk_A ad s.heap.size) s.heap s.heap [] := va_S.rf
  have hl := lv_entry ([.ref (ad (7 + v)), .int a0, .int a1]) (n := 5) (Nat.le_of_ble_eq_true rfl)
  rw [lg_entry_eq]
  generalize (lg_sl ([.ref (ad (7 + v)), .int a0, .int a1]) ++ List.replicate (5 - (lg_sl ([.ref (ad (7 + v)), .int a0, .int a1])).length) Slot.unset).toArray = ls at hl ⊢
  have hl : lv_has ls 5 [(0, .ref (ad (7 + v))), (1, .int a0), (2, .int a1)] := hl
  show W p l e rmX7_isWalledOff s m _ below meth c s.heap [] 0 0 _ _
  refine lv_aload_n hx hb dX7_isWalledOff_0 rfl (lv_at hl 0 rfl) ?_
  refine gk_get hx hb hts iwX7 hown hK.1 (gk_ov hW (v := v) hv) rfl 0 (by decide) (hts _ fl_X7_35) (fun _ h9 => h9) rfl dX7_isWalledOff_1 ?_
  refine gk_getN hx hb hts iwX4 hown hK.1 (gk_o1 hW) rfl 2 (by decide) (gk_nw hK nf_X7_119) (fun _ h9 => h9) rfl dX7_isWalledOff_4 ?_
  refine gk_getN hx hb hts iwX5 hown hK.1 (gk_o4 hW) rfl 4 (by decide) (gk_nw hK nf_X7_129) (fun _ h9 => h9) rfl dX7_isWalledOff_7 ?_
  refine lv_iload_n hx hb dX7_isWalledOff_10 rfl (lv_at hl 2 rfl) ?_
  refine gk_callRi ⟨hx, hb, hml, hown, hts⟩ (c_X2_at l D cI cZ cG cL ad (σ := σ) (r := 9) (i := a1) (by decide)) (cwV 1 hts (gk_gV ml_X7_64 im_X2_at se_X2_at in_X2 co_X2_at) rfl rfl rfl (by decide +kernel) ⟨Nat.le_of_ble_eq_true rfl, Nat.le_of_ble_eq_true rfl⟩) (gk_recv hK.1 (gk_or hW (r := 9) (by decide)) rfl) hW hK hS rfl hl.1 (rest := []) rfl (lv_room (Nat.le_of_ble_eq_true rfl)) dX7_isWalledOff_11 ⟨Nat.zero_le _, Nat.zero_le _⟩ (fun r11 H locs hq hW _ hS => ?_)
  obtain rfl := hq
  refine lv_istore_n (lv' := [(3, .int (gk_at σ 9 a1)), (0, .ref (ad (7 + v))), (1, .int a0), (2, .int a1)]) hx hb dX7_isWalledOff_14 rfl hl (by decide) rfl (fun ls hl => ?_)
  refine lv_iload_n hx hb dX7_isWalledOff_15 rfl (lv_at hl 0 rfl) ?_
  refine lv_iconst (v := (-1)) hx hb dX7_isWalledOff_16 (by decide) ?_
  refine lv_icmp_ne (tgt := 22) hx hb dX7_isWalledOff_17 (by decide) (fun c17 => ?_) (fun c17 => ?_)
  · have hw := hw.1 c17
    refine lv_aload_n hx hb dX7_isWalledOff_22 rfl (lv_at hl 1 rfl) ?_
    refine gk_get hx hb hts iwX7 hown hK.1 (gk_ov hW (v := v) hv) rfl 5 (by decide) (hts _ fl_X7_29) (fun _ h9 => h9) rfl dX7_isWalledOff_23 ?_
    refine lv_iload_n hx hb dX7_isWalledOff_26 rfl (lv_at hl 2 rfl) ?_
    refine lv_iconst (v := 4) hx hb dX7_isWalledOff_27 (by decide) ?_
    refine lv_imul hx hb dX7_isWalledOff_28 ?_
    refine lv_iload_n hx hb dX7_isWalledOff_29 rfl (lv_at hl 0 rfl) ?_
    refine lv_iadd hx hb dX7_isWalledOff_30 ?_
    refine gk_callRi ⟨hx, hb, hml, hown, hts⟩ (c_X2_at l D cI cZ cG cL ad (σ := σ) (r := (30 + 6 * v)) (i := ((a0 * 4) + (gk_at σ 9 a1))) (by omega)) (cwV 1 hts (gk_gV ml_X7_64 im_X2_at se_X2_at in_X2 co_X2_at) rfl rfl rfl (by decide +kernel) ⟨Nat.le_of_ble_eq_true rfl, Nat.le_of_ble_eq_true rfl⟩) (gk_recv hK.1 (gk_or hW (r := (30 + 6 * v)) (by omega)) rfl) hW hK hS rfl hl.1 (rest := []) rfl (lv_room (Nat.le_of_ble_eq_true rfl)) dX7_isWalledOff_31 ⟨Nat.zero_le _, Nat.zero_le _⟩ (fun r31 H locs hq hW _ hS => ?_)
    obtain rfl := hq
    refine lv_istore (lv' := [(4, .int (gk_at σ (30 + 6 * v) ((a0 * 4) + (gk_at σ 9 a1)))), (3, .int (gk_at σ 9 a1)), (0, .ref (ad (7 + v))), (1, .int a0), (2, .int a1)]) hx hb dX7_isWalledOff_34 hl (by decide) rfl (fun ls hl => ?_)
    refine lv_iload hx hb dX7_isWalledOff_36 (lv_at hl 0 rfl) ?_
    refine lv_iconst (v := 1) hx hb dX7_isWalledOff_38 (by decide) ?_
    refine lv_aload_n hx hb dX7_isWalledOff_39 rfl (lv_at hl 2 rfl) ?_
    refine gk_get hx hb hts iwX7 hown hK.1 (gk_ov hW (v := v) hv) rfl 0 (by decide) (hts _ fl_X7_35) (fun _ h9 => h9) rfl dX7_isWalledOff_40 ?_
    refine gk_getN hx hb hts iwX4 hown hK.1 (gk_o1 hW) rfl 2 (by decide) (gk_nw hK nf_X7_119) (fun _ h9 => h9) rfl dX7_isWalledOff_43 ?_
    refine gk_getN hx hb hts iwX5 hown hK.1 (gk_o4 hW) rfl 5 (by decide) (gk_nw hK nf_X7_136) (fun _ h9 => h9) rfl dX7_isWalledOff_46 ?_
    refine lv_iload_n hx hb dX7_isWalledOff_49 rfl (lv_at hl 4 rfl) ?_
    refine gk_callRi ⟨hx, hb, hml, hown, hts⟩ (c_X2_at l D cI cZ cG cL ad (σ := σ) (r := 10) (i := a1) (by decide)) (cwV 1 hts (gk_gV ml_X7_64 im_X2_at se_X2_at in_X2 co_X2_at) rfl rfl rfl (by decide +kernel) ⟨Nat.le_of_ble_eq_true rfl, Nat.le_of_ble_eq_true rfl⟩) (gk_recv hK.1 (gk_or hW (r := 10) (by decide)) rfl) hW hK hS rfl hl.1 (rest := [.int 1, .int (gk_at σ (30 + 6 * v) ((a0 * 4) + (gk_at σ 9 a1)))]) rfl (lv_room (Nat.le_of_ble_eq_true rfl)) dX7_isWalledOff_50 ⟨Nat.zero_le _, Nat.zero_le _⟩ (fun r50 H locs hq hW _ hS => ?_)
    obtain rfl := hq
    refine lv_ishl hx hb dX7_isWalledOff_53 ?_
    refine lv_iconst (v := (-1)) hx hb dX7_isWalledOff_54 (by decide) ?_
    refine lv_ixor hx hb dX7_isWalledOff_55 ?_
    refine lv_iand hx hb dX7_isWalledOff_56 ?_
    refine lv_if_eq (tgt := 64) hx hb dX7_isWalledOff_57 (by decide) (fun c57 => ?_) (fun c57 => ?_)
    · have hw := hw.1 c57
      refine lv_iconst (v := 0) hx hb dX7_isWalledOff_64 (by decide) ?_
      exact gk_retz C0 (by decide) ⟨rfl, hw⟩ hW hS dX7_isWalledOff_65
    · have hw := hw.2 c57
      refine lv_iconst (v := 1) hx hb dX7_isWalledOff_60 (by decide) ?_
      refine lv_goto (tgt := 65) hx hb dX7_isWalledOff_61 (by decide) ?_
      exact gk_retz C0 (by decide) ⟨rfl, hw⟩ hW hS dX7_isWalledOff_65
  · have hw := hw.2 c17
    refine lv_iconst (v := 0) hx hb dX7_isWalledOff_20 (by decide) ?_
    exact gk_retz C0 (by decide) ⟨rfl, hw⟩ hW hS dX7_isWalledOff_21
def wJ_X7_deciding_63 (v : Nat) (σ : gk_C) (k8 : Int32 → Int32 → Int32 → Int32 → Int32 → Prop) (x1 : Int32) (x2 : Int32) (x5 : Int32) (x6 : Int32) : Prop := (k8 x1 x2 x5 x6 (x5 + 1))
def wL_X7_deciding_8 (v : Nat) (σ : gk_C) (Q : Int32 → Prop) : Nat → Int32 → Int32 → Int32 → Int32 → Int32 → Prop
  | 0 => fun _ _ _ _ _ => False
  | n + 1 => fun x1 x2 x3 x4 x5 => ((((σ.2 4) ≤ x5) → (Q x3)) ∧ ((¬ (σ.2 4) ≤ x5) → (((x2 = 0) → (Q x3)) ∧ ((¬ x2 = 0) → (w_X8_isIn x2 x5 (fun r30 => ((r30 = 0) → (wL_X7_deciding_8 v σ Q n x1 x2 x3 x4 (x5 + 1))) ∧ ((¬ r30 = 0) → (((x3 < 0) → (wJ_X7_deciding_63 v σ (fun x1 x2 x3 x4 x5 => wL_X7_deciding_8 v σ Q n x1 x2 x3 x4 x5) x1 x2 x5 (gk_at σ (29 + 6 * v) ((x1 * 30) + x5)))) ∧ ((¬ x3 < 0) → (((x4 ≤ (gk_at σ (29 + 6 * v) ((x1 * 30) + x5))) → (wL_X7_deciding_8 v σ Q n x1 x2 x3 x4 (x5 + 1))) ∧ ((¬ x4 ≤ (gk_at σ (29 + 6 * v) ((x1 * 30) + x5))) → (wJ_X7_deciding_63 v σ (fun x1 x2 x3 x4 x5 => wL_X7_deciding_8 v σ Q n x1 x2 x3 x4 x5) x1 x2 x5 (gk_at σ (29 + 6 * v) ((x1 * 30) + x5))))))))))))))
def w_X7_deciding (v : Nat) (σ : gk_C) (a0 : Int32) (a1 : Int32) (Q : Int32 → Prop) : Prop := (∃ n8, wL_X7_deciding_8 v σ Q n8 a0 a1 (-1) 0 0)
abbrev rmX7_deciding : Room := { frames := 1, cells := 0, slots := 0, locals := 21 }
set_option maxHeartbeats 4000000 in
set_option maxRecDepth 100000 in
theorem tJ_X7_deciding_63 {p : Program} {l : Launch} {e : Env} {s : State} {m : MethodId} {args : Array Value} {below : List Frame} {meth : Method} {c : Code} {D : va_G} {cI cZ cG cL : ClassId} {ad : Nat → Nat} (C0 : gk_F p s m args meth c cX7_deciding 7 (some .int) RX7) (hK : gk_K D cI cZ cG cL s) {v : Nat} (hv : v < 2) {σ : gk_C} {Q : Int32 → Prop} {k8 : Int32 → Int32 → Int32 → Int32 → Int32 → Prop} (hk8 : ∀ (x1 : Int32) (x2 : Int32) (x3 : Int32) (x4 : Int32) (x5 : Int32), k8 x1 x2 x3 x4 x5 → ∀ (H : Heap) (locs : List Loc), gk_W D cI ad σ H → va_S (gk_A ad s.heap.size) s.heap H locs → ∀ (ls : Array Slot), lv_has ls 7 [(0, .ref (ad (7 + v))), (1, .int x1), (2, .int x2), (3, .int x3), (4, .int x4), (5, .int x5)] → W p l e rmX7_deciding s m args below meth c H locs 0 0 (MQ below (va_Qi (fun r u => u = σ ∧ Q r) (gk_B D cI ad) (gk_A ad s.heap.size)) args s 0 0 (gk_A ad s.heap.size)) (F0 m 8 ls [])) : ∀ (x1 : Int32) (x2 : Int32) (x5 : Int32) (x6 : Int32), wJ_X7_deciding_63 v σ k8 x1 x2 x5 x6 → ∀ (H : Heap) (locs : List Loc), gk_W D cI ad σ H → va_S (gk_A ad s.heap.size) s.heap H locs → ∀ (ls : Array Slot), lv_has ls 7 [(0, .ref (ad (7 + v))), (1, .int x1), (2, .int x2), (5, .int x5), (6, .int x6)] → W p l e rmX7_deciding s m args below meth c H locs 0 0 (MQ below (va_Qi (fun r u => u = σ ∧ Q r) (gk_B D cI ad) (gk_A ad s.heap.size)) args s 0 0 (gk_A ad s.heap.size)) (F0 m 63 ls []) := by
  obtain ⟨hx, hb, hml, hown, hts, hr, hlocks⟩ := id C0
  intro x1 x2 x5 x6 hw H locs hW hS ls hl
  refine lv_iload hx hb dX7_deciding_63 (lv_at hl 3 rfl) ?_
  refine lv_istore_n (lv' := [(3, .int x5), (0, .ref (ad (7 + v))), (1, .int x1), (2, .int x2), (5, .int x5), (6, .int x6)]) hx hb dX7_deciding_65 rfl hl (by decide) rfl (fun ls hl => ?_)
  refine lv_iload hx hb dX7_deciding_66 (lv_at hl 5 rfl) ?_
  refine lv_istore (lv' := [(4, .int x6), (3, .int x5), (0, .ref (ad (7 + v))), (1, .int x1), (2, .int x2), (5, .int x5), (6, .int x6)]) hx hb dX7_deciding_68 hl (by decide) rfl (fun ls hl => ?_)
  refine lv_iinc (v := (x5 + 1)) (lv' := [(5, .int (x5 + 1)), (4, .int x6), (3, .int x5), (0, .ref (ad (7 + v))), (1, .int x1), (2, .int x2), (6, .int x6)]) hx hb dX7_deciding_70 hl (k := 5) rfl rfl (by decide) rfl (fun ls hl => ?_)
  refine lv_goto (tgt := 8) hx hb dX7_deciding_73 (by decide) ?_
  exact hk8 x1 x2 x5 x6 (x5 + 1) hw _ _ hW hS _ (lv_sub hl [3, 4, 5, 2, 1, 0] rfl)
set_option maxHeartbeats 4000000 in
set_option maxRecDepth 100000 in
theorem tL_X7_deciding_8 {p : Program} {l : Launch} {e : Env} {s : State} {m : MethodId} {args : Array Value} {below : List Frame} {meth : Method} {c : Code} {D : va_G} {cI cZ cG cL : ClassId} {ad : Nat → Nat} (C0 : gk_F p s m args meth c cX7_deciding 7 (some .int) RX7) (hK : gk_K D cI cZ cG cL s) {v : Nat} (hv : v < 2) {σ : gk_C} {Q : Int32 → Prop} : ∀ (n : Nat) (x1 : Int32) (x2 : Int32) (x3 : Int32) (x4 : Int32) (x5 : Int32), wL_X7_deciding_8 v σ Q n x1 x2 x3 x4 x5 → ∀ (H : Heap) (locs : List Loc), gk_W D cI ad σ H → va_S (gk_A ad s.heap.size) s.heap H locs → ∀ (ls : Array Slot), lv_has ls 7 [(0, .ref (ad (7 + v))), (1, .int x1), (2, .int x2), (3, .int x3), (4, .int x4), (5, .int x5)] → W p l e rmX7_deciding s m args below meth c H locs 0 0 (MQ below (va_Qi (fun r u => u = σ ∧ Q r) (gk_B D cI ad) (gk_A ad s.heap.size)) args s 0 0 (gk_A ad s.heap.size)) (F0 m 8 ls []) := by
  obtain ⟨hx, hb, hml, hown, hts, hr, hlocks⟩ := id C0
  intro n
  induction n with
  | zero => exact fun _ _ _ _ _ hw => False.elim hw
  | succ n ih =>
    intro x1 x2 x3 x4 x5 hw H locs hW hS ls hl
    refine lv_iload hx hb dX7_deciding_8 (lv_at hl 5 rfl) ?_
    refine lv_aload_n hx hb dX7_deciding_10 rfl (lv_at hl 0 rfl) ?_
    refine gk_get hx hb hts iwX7 hown hK.1 (gk_ov hW (v := v) hv) rfl 0 (by decide) (hts _ fl_X7_35) (fun _ h9 => h9) rfl dX7_deciding_11 ?_
    refine gk_getN hx hb hts iwX4 hown hK.1 (gk_o1 hW) rfl 3 (by decide) (gk_nw hK nf_X7_87) (fun _ h9 => h9) rfl dX7_deciding_14 ?_
    refine gk_getN hx hb hts iwX3 hown hK.1 (gk_o5 hW) rfl 0 (by decide) (gk_nw hK nf_X7_91) (fun _ h9 => h9) rfl dX7_deciding_17 ?_
    refine lv_icmp_ge (tgt := 76) hx hb dX7_deciding_20 (by decide) (fun c20 => ?_) (fun c20 => ?_)
    · have hw := hw.1 c20
      refine lv_iload_n hx hb dX7_deciding_76 rfl (lv_at hl 3 rfl) ?_
      exact gk_reti C0 ⟨rfl, hw⟩ hW hS dX7_deciding_77
    · have hw := hw.2 c20
      refine lv_iload_n hx hb dX7_deciding_23 rfl (lv_at hl 2 rfl) ?_
      refine lv_if_eq (tgt := 76) hx hb dX7_deciding_24 (by decide) (fun c24 => ?_) (fun c24 => ?_)
      · have hw := hw.1 c24
        refine lv_iload_n hx hb dX7_deciding_76 rfl (lv_at hl 3 rfl) ?_
        exact gk_reti C0 ⟨rfl, hw⟩ hW hS dX7_deciding_77
      · have hw := hw.2 c24
        refine lv_iload_n hx hb dX7_deciding_27 rfl (lv_at hl 2 rfl) ?_
        refine lv_iload hx hb dX7_deciding_28 (lv_at hl 5 rfl) ?_
        refine gk_callSNi ⟨hx, hb, hml, hown, hts⟩ (c_X8_isIn l hw) ⟨va_cnB 2 hts (gk_gI co_X8_isIn) rfl rfl rfl (gk_nw hK nm_X7_94) (hts _ in_X8) (by decide +kernel) ⟨Nat.le_of_ble_eq_true rfl, Nat.le_of_ble_eq_true rfl⟩, hts _ st_X8_isIn, trivial⟩ hS rfl hl.1 (rest := []) rfl (lv_room (Nat.le_of_ble_eq_true rfl)) dX7_deciding_30 ⟨Nat.zero_le _, Nat.zero_le _⟩ (fun r30 H locs hw _ hk hS => ?_)
        have hW := hW.kept (fun k hk9 => hk _ (hW.lt hk9))
        refine lv_if_eq (tgt := 70) hx hb dX7_deciding_33 (by decide) (fun c33 => ?_) (fun c33 => ?_)
        · have hw := hw.1 c33
          refine lv_iinc (v := (x5 + 1)) (lv' := [(5, .int (x5 + 1)), (0, .ref (ad (7 + v))), (1, .int x1), (2, .int x2), (3, .int x3), (4, .int x4)]) hx hb dX7_deciding_70 hl (k := 5) rfl rfl (by decide) rfl (fun ls hl => ?_)
          refine lv_goto (tgt := 8) hx hb dX7_deciding_73 (by decide) ?_
          exact ih x1 x2 x3 x4 (x5 + 1) hw _ _ hW hS _ (lv_sub hl [1, 2, 3, 4, 5, 0] rfl)
        · have hw := hw.2 c33
          refine lv_aload_n hx hb dX7_deciding_36 rfl (lv_at hl 0 rfl) ?_
          refine gk_get hx hb hts iwX7 hown hK.1 (gk_ov hW (v := v) hv) rfl 4 (by decide) (hts _ fl_X7_26) (fun _ h9 => h9) rfl dX7_deciding_37 ?_
          refine lv_iload_n hx hb dX7_deciding_40 rfl (lv_at hl 1 rfl) ?_
          refine lv_bipush (v := 30) hx hb dX7_deciding_41 (by decide) ?_
          refine lv_imul hx hb dX7_deciding_43 ?_
          refine lv_iload hx hb dX7_deciding_44 (lv_at hl 5 rfl) ?_
          refine lv_iadd hx hb dX7_deciding_46 ?_
          refine gk_callRi ⟨hx, hb, hml, hown, hts⟩ (c_X2_at l D cI cZ cG cL ad (σ := σ) (r := (29 + 6 * v)) (i := ((x1 * 30) + x5)) (by omega)) (cwV 1 hts (gk_gV ml_X7_64 im_X2_at se_X2_at in_X2 co_X2_at) rfl rfl rfl (by decide +kernel) ⟨Nat.le_of_ble_eq_true rfl, Nat.le_of_ble_eq_true rfl⟩) (gk_recv hK.1 (gk_or hW (r := (29 + 6 * v)) (by omega)) rfl) hW hK hS rfl hl.1 (rest := []) rfl (lv_room (Nat.le_of_ble_eq_true rfl)) dX7_deciding_47 ⟨Nat.zero_le _, Nat.zero_le _⟩ (fun r47 H locs hq hW _ hS => ?_)
          obtain rfl := hq
          refine lv_istore (lv' := [(6, .int (gk_at σ (29 + 6 * v) ((x1 * 30) + x5))), (0, .ref (ad (7 + v))), (1, .int x1), (2, .int x2), (3, .int x3), (4, .int x4), (5, .int x5)]) hx hb dX7_deciding_50 hl (by decide) rfl (fun ls hl => ?_)
          refine lv_iload_n hx hb dX7_deciding_52 rfl (lv_at hl 4 rfl) ?_
          refine lv_if_lt (tgt := 63) hx hb dX7_deciding_53 (by decide) (fun c53 => ?_) (fun c53 => ?_)
          · have hw := hw.1 c53
            refine tJ_X7_deciding_63 C0 hK hv (hk8 := ih) x1 x2 x5 (gk_at σ (29 + 6 * v) ((x1 * 30) + x5)) hw _ _ hW hS _ (lv_sub hl [1, 2, 3, 6, 0] rfl)
          · have hw := hw.2 c53
            refine lv_iload hx hb dX7_deciding_56 (lv_at hl 0 rfl) ?_
            refine lv_iload hx hb dX7_deciding_58 (lv_at hl 5 rfl) ?_
            refine lv_icmp_ge (tgt := 70) hx hb dX7_deciding_60 (by decide) (fun c60 => ?_) (fun c60 => ?_)
            · have hw := hw.1 c60
              refine lv_iinc (v := (x5 + 1)) (lv' := [(5, .int (x5 + 1)), (6, .int (gk_at σ (29 + 6 * v) ((x1 * 30) + x5))), (0, .ref (ad (7 + v))), (1, .int x1), (2, .int x2), (3, .int x3), (4, .int x4)]) hx hb dX7_deciding_70 hl (k := 6) rfl rfl (by decide) rfl (fun ls hl => ?_)
              refine lv_goto (tgt := 8) hx hb dX7_deciding_73 (by decide) ?_
              exact ih x1 x2 x3 x4 (x5 + 1) hw _ _ hW hS _ (lv_sub hl [2, 3, 4, 5, 6, 0] rfl)
            · have hw := hw.2 c60
              refine tJ_X7_deciding_63 C0 hK hv (hk8 := ih) x1 x2 x5 (gk_at σ (29 + 6 * v) ((x1 * 30) + x5)) hw _ _ hW hS _ (lv_sub hl [1, 2, 3, 6, 0] rfl)
set_option maxHeartbeats 4000000 in
set_option maxRecDepth 100000 in
theorem c_X7_deciding (l : Launch) (D : va_G) (cI cZ cG cL : ClassId) (ad : Nat → Nat) {v : Nat} (hv : v < 2) {σ : gk_C} {a0 : Int32} {a1 : Int32} {Q : Int32 → Prop} {sz : Nat} (hw : w_X7_deciding v σ a0 a1 Q) : Met l yX7_deciding wsX7_deciding rmX7_deciding (gk_Pc D cI cZ cG cL ad [.ref (ad (7 + v)), .int a0, .int a1] sz σ) (va_Qi (fun r u => u = σ ∧ Q r) (gk_B D cI ad) (gk_A ad sz)) 0 0 (gk_A ad sz) := by
  refine Met.ofW (cc := cX7_deciding) (maxL := 7) (ret := (some .int)) (by decide) rfl ?_
  intro p e s m args below meth c s₁ B hml0 hv0
  obtain ⟨rfl, hsz, hW, hK⟩ := hv0
  subst hsz
  have C0 : gk_F p s m ([.ref (ad (7 + v)), .int a0, .int a1] : List Value).toArray meth c cX7_deciding 7 (some .int) RX7 := ⟨B.exec, B.bytes, hml0, findClass_of_methodNamed B.named, fun w hw => atoms_spec (ws := wsX7_deciding) B.pre w (List.mem_cons_of_mem _ hw), B.returns, B.notSynchronized⟩
  obtain ⟨hx, hb, hml, hown, hts, hr, hlocks⟩ := id C0
  have hS : va_S (gk_A ad s.heap.size) s.heap s.heap [] := va_S.rf
  have hl := lv_entry ([.ref (ad (7 + v)), .int a0, .int a1]) (n := 7) (Nat.le_of_ble_eq_true rfl)
  rw [lg_entry_eq]
  generalize (lg_sl ([.ref (ad (7 + v)), .int a0, .int a1]) ++ List.replicate (7 - (lg_sl ([.ref (ad (7 + v)), .int a0, .int a1])).length) Slot.unset).toArray = ls at hl ⊢
  have hl : lv_has ls 7 [(0, .ref (ad (7 + v))), (1, .int a0), (2, .int a1)] := hl
  show W p l e rmX7_deciding s m _ below meth c s.heap [] 0 0 _ _
  refine lv_iconst (v := (-1)) hx hb dX7_deciding_0 (by decide) ?_
  refine lv_istore_n (lv' := [(3, .int (-1)), (0, .ref (ad (7 + v))), (1, .int a0), (2, .int a1)]) hx hb dX7_deciding_1 rfl hl (by decide) rfl (fun ls hl => ?_)
  refine lv_iconst (v := 0) hx hb dX7_deciding_2 (by decide) ?_
  refine lv_istore (lv' := [(4, .int 0), (3, .int (-1)), (0, .ref (ad (7 + v))), (1, .int a0), (2, .int a1)]) hx hb dX7_deciding_3 hl (by decide) rfl (fun ls hl => ?_)
  refine lv_iconst (v := 0) hx hb dX7_deciding_5 (by decide) ?_
  refine lv_istore (lv' := [(5, .int 0), (4, .int 0), (3, .int (-1)), (0, .ref (ad (7 + v))), (1, .int a0), (2, .int a1)]) hx hb dX7_deciding_6 hl (by decide) rfl (fun ls hl => ?_)
  obtain ⟨n8, hw⟩ := hw
  refine tL_X7_deciding_8 C0 hK hv  n8 a0 a1 (-1) 0 0 hw _ _ hW hS _ (lv_sub hl [3, 4, 5, 2, 1, 0] rfl)
def w_X7_ruled (v : Nat) (σ : gk_C) (a0 : Int32) (a1 : Int32) (a2 : Int32) (Q : Int32 → Prop) : Prop := (w_X7_isAgainstLabel v σ a0 a1 a2 (fun r4 => ((r4 = 0) → (w_X7_isWalledOff v σ a0 a2 (fun r15 => ((r15 = 0) → (w_X7_matching v σ a0 a1 a2 (fun r29 => w_X7_deciding v σ a0 r29 (fun r32 => ((0 ≤ r32) → (w_X8_isIn (σ.2 (10 + 4 * v)) r32 (fun r50 => ((r50 = 0) → (Q 2)) ∧ ((¬ r50 = 0) → (Q 1))))) ∧ ((¬ 0 ≤ r32) → (Q 0)))))) ∧ ((¬ r15 = 0) → (Q 5))))) ∧ ((¬ r4 = 0) → (Q 4))))
abbrev rmX7_ruled : Room := { frames := 2, cells := 0, slots := 0, locals := 47 }
set_option maxHeartbeats 4000000 in
set_option maxRecDepth 100000 in
theorem c_X7_ruled (l : Launch) (D : va_G) (cI cZ cG cL : ClassId) (ad : Nat → Nat) {v : Nat} (hv : v < 2) {σ : gk_C} {a0 : Int32} {a1 : Int32} {a2 : Int32} {Q : Int32 → Prop} {sz : Nat} (hw : w_X7_ruled v σ a0 a1 a2 Q) : Met l yX7_ruled wsX7_ruled rmX7_ruled (gk_Pc D cI cZ cG cL ad [.ref (ad (7 + v)), .int a0, .int a1, .int a2] sz σ) (va_Qi (fun r u => u = σ ∧ Q r) (gk_B D cI ad) (gk_A ad sz)) 0 0 (gk_A ad sz) := by
  refine Met.ofW (cc := cX7_ruled) (maxL := 5) (ret := (some .int)) (by decide) rfl ?_
  intro p e s m args below meth c s₁ B hml0 hv0
  obtain ⟨rfl, hsz, hW, hK⟩ := hv0
  subst hsz
  have C0 : gk_F p s m ([.ref (ad (7 + v)), .int a0, .int a1, .int a2] : List Value).toArray meth c cX7_ruled 5 (some .int) RX7 := ⟨B.exec, B.bytes, hml0, findClass_of_methodNamed B.named, fun w hw => atoms_spec (ws := wsX7_ruled) B.pre w (List.mem_cons_of_mem _ hw), B.returns, B.notSynchronized⟩
  obtain ⟨hx, hb, hml, hown, hts, hr, hlocks⟩ := id C0
  have hS : va_S (gk_A ad s.heap.size) s.heap s.heap [] := va_S.rf
  have hl := lv_entry ([.ref (ad (7 + v)), .int a0, .int a1, .int a2]) (n := 5) (Nat.le_of_ble_eq_true rfl)
  rw [lg_entry_eq]
  generalize (lg_sl ([.ref (ad (7 + v)), .int a0, .int a1, .int a2]) ++ List.replicate (5 - (lg_sl ([.ref (ad (7 + v)), .int a0, .int a1, .int a2])).length) Slot.unset).toArray = ls at hl ⊢
  have hl : lv_has ls 5 [(0, .ref (ad (7 + v))), (1, .int a0), (2, .int a1), (3, .int a2)] := hl
  show W p l e rmX7_ruled s m _ below meth c s.heap [] 0 0 _ _
  refine lv_aload_n hx hb dX7_ruled_0 rfl (lv_at hl 0 rfl) ?_
  refine lv_iload_n hx hb dX7_ruled_1 rfl (lv_at hl 1 rfl) ?_
  refine lv_iload_n hx hb dX7_ruled_2 rfl (lv_at hl 2 rfl) ?_
  refine lv_iload_n hx hb dX7_ruled_3 rfl (lv_at hl 3 rfl) ?_
  refine gk_callRi ⟨hx, hb, hml, hown, hts⟩ (c_X7_isAgainstLabel l D cI cZ cG cL ad hv hw) (cwV 3 hts (gk_gV ml_X7_205 im_X7_isAgainstLabel se_X7_isAgainstLabel in_X7 co_X7_isAgainstLabel) rfl rfl rfl (by decide +kernel) ⟨Nat.le_of_ble_eq_true rfl, Nat.le_of_ble_eq_true rfl⟩) (gk_recv hK.1 (gk_ov hW (v := v) hv) rfl) hW hK hS rfl hl.1 (rest := []) rfl (lv_room (Nat.le_of_ble_eq_true rfl)) dX7_ruled_4 ⟨Nat.zero_le _, Nat.zero_le _⟩ (fun r4 H locs hw hW _ hS => ?_)
  refine lv_if_eq (tgt := 12) hx hb dX7_ruled_7 (by decide) (fun c7 => ?_) (fun c7 => ?_)
  · have hw := hw.1 c7
    refine lv_aload_n hx hb dX7_ruled_12 rfl (lv_at hl 0 rfl) ?_
    refine lv_iload_n hx hb dX7_ruled_13 rfl (lv_at hl 1 rfl) ?_
    refine lv_iload_n hx hb dX7_ruled_14 rfl (lv_at hl 3 rfl) ?_
    refine gk_callRi ⟨hx, hb, hml, hown, hts⟩ (c_X7_isWalledOff l D cI cZ cG cL ad hv hw) (cwV 2 hts (gk_gV ml_X7_209 im_X7_isWalledOff se_X7_isWalledOff in_X7 co_X7_isWalledOff) rfl rfl rfl (by decide +kernel) ⟨Nat.le_of_ble_eq_true rfl, Nat.le_of_ble_eq_true rfl⟩) (gk_recv hK.1 (gk_ov hW (v := v) hv) rfl) hW hK hS rfl hl.1 (rest := []) rfl (lv_room (Nat.le_of_ble_eq_true rfl)) dX7_ruled_15 ⟨Nat.zero_le _, Nat.zero_le _⟩ (fun r15 H locs hw hW _ hS => ?_)
    refine lv_if_eq (tgt := 23) hx hb dX7_ruled_18 (by decide) (fun c18 => ?_) (fun c18 => ?_)
    · have hw := hw.1 c18
      refine lv_aload_n hx hb dX7_ruled_23 rfl (lv_at hl 0 rfl) ?_
      refine lv_iload_n hx hb dX7_ruled_24 rfl (lv_at hl 1 rfl) ?_
      refine lv_aload_n hx hb dX7_ruled_25 rfl (lv_at hl 0 rfl) ?_
      refine lv_iload_n hx hb dX7_ruled_26 rfl (lv_at hl 1 rfl) ?_
      refine lv_iload_n hx hb dX7_ruled_27 rfl (lv_at hl 2 rfl) ?_
      refine lv_iload_n hx hb dX7_ruled_28 rfl (lv_at hl 3 rfl) ?_
      refine gk_callRi ⟨hx, hb, hml, hown, hts⟩ (c_X7_matching l D cI cZ cG cL ad hv hw) (cwV 3 hts (gk_gV ml_X7_212 im_X7_matching se_X7_matching in_X7 co_X7_matching) rfl rfl rfl (by decide +kernel) ⟨Nat.le_of_ble_eq_true rfl, Nat.le_of_ble_eq_true rfl⟩) (gk_recv hK.1 (gk_ov hW (v := v) hv) rfl) hW hK hS rfl hl.1 (rest := [.int a0, .ref (ad (7 + v))]) rfl (lv_room (Nat.le_of_ble_eq_true rfl)) dX7_ruled_29 ⟨Nat.zero_le _, Nat.zero_le _⟩ (fun r29 H locs hw hW _ hS => ?_)
      refine gk_callRi ⟨hx, hb, hml, hown, hts⟩ (c_X7_deciding l D cI cZ cG cL ad hv hw) (cwV 2 hts (gk_gV ml_X7_215 im_X7_deciding se_X7_deciding in_X7 co_X7_deciding) rfl rfl rfl (by decide +kernel) ⟨Nat.le_of_ble_eq_true rfl, Nat.le_of_ble_eq_true rfl⟩) (gk_recv hK.1 (gk_ov hW (v := v) hv) rfl) hW hK hS rfl hl.1 (rest := []) rfl (lv_room (Nat.le_of_ble_eq_true rfl)) dX7_ruled_32 ⟨Nat.zero_le _, Nat.zero_le _⟩ (fun r32 H locs hw hW _ hS => ?_)
      refine lv_istore (lv' := [(4, .int r32), (0, .ref (ad (7 + v))), (1, .int a0), (2, .int a1), (3, .int a2)]) hx hb dX7_ruled_35 hl (by decide) rfl (fun ls hl => ?_)
      refine lv_iload hx hb dX7_ruled_37 (lv_at hl 0 rfl) ?_
      refine lv_if_ge (tgt := 44) hx hb dX7_ruled_39 (by decide) (fun c39 => ?_) (fun c39 => ?_)
      · have hw := hw.1 c39
        refine lv_aload_n hx hb dX7_ruled_44 rfl (lv_at hl 1 rfl) ?_
        refine gk_get hx hb hts iwX7 hown hK.1 (gk_ov hW (v := v) hv) rfl 9 (by decide) (hts _ fl_X7_80) (fun _ h9 => h9) rfl dX7_ruled_45 ?_
        refine lv_iload hx hb dX7_ruled_48 (lv_at hl 0 rfl) ?_
        refine gk_callSNi ⟨hx, hb, hml, hown, hts⟩ (c_X8_isIn l hw) ⟨va_cnB 2 hts (gk_gI co_X8_isIn) rfl rfl rfl (gk_nw hK nm_X7_94) (hts _ in_X8) (by decide +kernel) ⟨Nat.le_of_ble_eq_true rfl, Nat.le_of_ble_eq_true rfl⟩, hts _ st_X8_isIn, trivial⟩ hS rfl hl.1 (rest := []) rfl (lv_room (Nat.le_of_ble_eq_true rfl)) dX7_ruled_50 ⟨Nat.zero_le _, Nat.zero_le _⟩ (fun r50 H locs hw _ hk hS => ?_)
        have hW := hW.kept (fun k hk9 => hk _ (hW.lt hk9))
        refine lv_if_eq (tgt := 60) hx hb dX7_ruled_53 (by decide) (fun c53 => ?_) (fun c53 => ?_)
        · have hw := hw.1 c53
          refine lv_iconst (v := 2) hx hb dX7_ruled_60 (by decide) ?_
          exact gk_reti C0 ⟨rfl, hw⟩ hW hS dX7_ruled_61
        · have hw := hw.2 c53
          refine lv_iconst (v := 1) hx hb dX7_ruled_56 (by decide) ?_
          refine lv_goto (tgt := 61) hx hb dX7_ruled_57 (by decide) ?_
          exact gk_reti C0 ⟨rfl, hw⟩ hW hS dX7_ruled_61
      · have hw := hw.2 c39
        refine lv_iconst (v := 0) hx hb dX7_ruled_42 (by decide) ?_
        exact gk_reti C0 ⟨rfl, hw⟩ hW hS dX7_ruled_43
    · have hw := hw.2 c18
      refine lv_iconst (v := 5) hx hb dX7_ruled_21 (by decide) ?_
      exact gk_reti C0 ⟨rfl, hw⟩ hW hS dX7_ruled_22
  · have hw := hw.2 c7
    refine lv_iconst (v := 4) hx hb dX7_ruled_10 (by decide) ?_
    exact gk_reti C0 ⟨rfl, hw⟩ hW hS dX7_ruled_11
def w_X7_stepsTo (v : Nat) (σ : gk_C) (a0 : Int32) (a1 : Int32) (a2 : Int32) (Q : Int32 → Prop) : Prop := ((((gk_at σ 12 a0) < 12) → (((¬ (gk_at σ 12 a0) = a1) → (Q (-1))) ∧ (((gk_at σ 12 a0) = a1) → (Q 0)))) ∧ ((¬ (gk_at σ 12 a0) < 12) → (w_X1_nearBy σ a2 ((gk_at σ 12 a0) - 12) (fun r36 => Q r36))))
abbrev rmX7_stepsTo : Room := { frames := 3, cells := 0, slots := 0, locals := 68 }
set_option maxHeartbeats 4000000 in
set_option maxRecDepth 100000 in
theorem c_X7_stepsTo (l : Launch) (D : va_G) (cI cZ cG cL : ClassId) (ad : Nat → Nat) {v : Nat} (hv : v < 2) {σ : gk_C} {a0 : Int32} {a1 : Int32} {a2 : Int32} {Q : Int32 → Prop} {sz : Nat} (hw : w_X7_stepsTo v σ a0 a1 a2 Q) : Met l yX7_stepsTo wsX7_stepsTo rmX7_stepsTo (gk_Pc D cI cZ cG cL ad [.ref (ad (7 + v)), .int a0, .int a1, .int a2] sz σ) (va_Qi (fun r u => u = σ ∧ Q r) (gk_B D cI ad) (gk_A ad sz)) 0 0 (gk_A ad sz) := by
  refine Met.ofW (cc := cX7_stepsTo) (maxL := 5) (ret := (some .int)) (by decide) rfl ?_
  intro p e s m args below meth c s₁ B hml0 hv0
  obtain ⟨rfl, hsz, hW, hK⟩ := hv0
  subst hsz
  have C0 : gk_F p s m ([.ref (ad (7 + v)), .int a0, .int a1, .int a2] : List Value).toArray meth c cX7_stepsTo 5 (some .int) RX7 := ⟨B.exec, B.bytes, hml0, findClass_of_methodNamed B.named, fun w hw => atoms_spec (ws := wsX7_stepsTo) B.pre w (List.mem_cons_of_mem _ hw), B.returns, B.notSynchronized⟩
  obtain ⟨hx, hb, hml, hown, hts, hr, hlocks⟩ := id C0
  have hS : va_S (gk_A ad s.heap.size) s.heap s.heap [] := va_S.rf
  have hl := lv_entry ([.ref (ad (7 + v)), .int a0, .int a1, .int a2]) (n := 5) (Nat.le_of_ble_eq_true rfl)
  rw [lg_entry_eq]
  generalize (lg_sl ([.ref (ad (7 + v)), .int a0, .int a1, .int a2]) ++ List.replicate (5 - (lg_sl ([.ref (ad (7 + v)), .int a0, .int a1, .int a2])).length) Slot.unset).toArray = ls at hl ⊢
  have hl : lv_has ls 5 [(0, .ref (ad (7 + v))), (1, .int a0), (2, .int a1), (3, .int a2)] := hl
  show W p l e rmX7_stepsTo s m _ below meth c s.heap [] 0 0 _ _
  refine lv_aload_n hx hb dX7_stepsTo_0 rfl (lv_at hl 0 rfl) ?_
  refine gk_get hx hb hts iwX7 hown hK.1 (gk_ov hW (v := v) hv) rfl 0 (by decide) (hts _ fl_X7_35) (fun _ h9 => h9) rfl dX7_stepsTo_1 ?_
  refine gk_getN hx hb hts iwX4 hown hK.1 (gk_o1 hW) rfl 3 (by decide) (gk_nw hK nf_X7_87) (fun _ h9 => h9) rfl dX7_stepsTo_4 ?_
  refine gk_getN hx hb hts iwX3 hown hK.1 (gk_o5 hW) rfl 2 (by decide) (gk_nw hK nf_X7_150) (fun _ h9 => h9) rfl dX7_stepsTo_7 ?_
  refine lv_iload_n hx hb dX7_stepsTo_10 rfl (lv_at hl 1 rfl) ?_
  refine gk_callRi ⟨hx, hb, hml, hown, hts⟩ (c_X2_at l D cI cZ cG cL ad (σ := σ) (r := 12) (i := a0) (by decide)) (cwV 1 hts (gk_gV ml_X7_64 im_X2_at se_X2_at in_X2 co_X2_at) rfl rfl rfl (by decide +kernel) ⟨Nat.le_of_ble_eq_true rfl, Nat.le_of_ble_eq_true rfl⟩) (gk_recv hK.1 (gk_or hW (r := 12) (by decide)) rfl) hW hK hS rfl hl.1 (rest := []) rfl (lv_room (Nat.le_of_ble_eq_true rfl)) dX7_stepsTo_11 ⟨Nat.zero_le _, Nat.zero_le _⟩ (fun r11 H locs hq hW _ hS => ?_)
  obtain rfl := hq
  refine lv_istore (lv' := [(4, .int (gk_at σ 12 a0)), (0, .ref (ad (7 + v))), (1, .int a0), (2, .int a1), (3, .int a2)]) hx hb dX7_stepsTo_14 hl (by decide) rfl (fun ls hl => ?_)
  refine lv_iload hx hb dX7_stepsTo_16 (lv_at hl 0 rfl) ?_
  refine lv_bipush (v := 12) hx hb dX7_stepsTo_18 (by decide) ?_
  refine lv_icmp_lt (tgt := 40) hx hb dX7_stepsTo_20 (by decide) (fun c20 => ?_) (fun c20 => ?_)
  · have hw := hw.1 c20
    refine lv_iload hx hb dX7_stepsTo_40 (lv_at hl 0 rfl) ?_
    refine lv_iload_n hx hb dX7_stepsTo_42 rfl (lv_at hl 3 rfl) ?_
    refine lv_icmp_ne (tgt := 50) hx hb dX7_stepsTo_43 (by decide) (fun c43 => ?_) (fun c43 => ?_)
    · have hw := hw.1 c43
      refine lv_iconst (v := (-1)) hx hb dX7_stepsTo_50 (by decide) ?_
      exact gk_reti C0 ⟨rfl, hw⟩ hW hS dX7_stepsTo_51
    · have hw := hw.2 c43
      refine lv_iconst (v := 0) hx hb dX7_stepsTo_46 (by decide) ?_
      refine lv_goto (tgt := 51) hx hb dX7_stepsTo_47 (by decide) ?_
      exact gk_reti C0 ⟨rfl, hw⟩ hW hS dX7_stepsTo_51
  · have hw := hw.2 c20
    refine lv_aload_n hx hb dX7_stepsTo_23 rfl (lv_at hl 1 rfl) ?_
    refine gk_get hx hb hts iwX7 hown hK.1 (gk_ov hW (v := v) hv) rfl 0 (by decide) (hts _ fl_X7_35) (fun _ h9 => h9) rfl dX7_stepsTo_24 ?_
    refine gk_getN hx hb hts iwX4 hown hK.1 (gk_o1 hW) rfl 1 (by decide) (gk_nw hK nf_X7_153) (fun _ h9 => h9) rfl dX7_stepsTo_27 ?_
    refine lv_iload_n hx hb dX7_stepsTo_30 rfl (lv_at hl 4 rfl) ?_
    refine lv_iload hx hb dX7_stepsTo_31 (lv_at hl 0 rfl) ?_
    refine lv_bipush (v := 12) hx hb dX7_stepsTo_33 (by decide) ?_
    refine lv_isub hx hb dX7_stepsTo_35 ?_
    refine gk_callRi ⟨hx, hb, hml, hown, hts⟩ (c_X1_nearBy l D cI cZ cG cL ad hw) (cwV 2 hts (gk_gV ml_X7_157 im_X1_nearBy se_X1_nearBy in_X1 co_X1_nearBy) rfl rfl rfl (by decide +kernel) ⟨Nat.le_of_ble_eq_true rfl, Nat.le_of_ble_eq_true rfl⟩) (gk_recv hK.1 (gk_o3 hW) rfl) hW hK hS rfl hl.1 (rest := []) rfl (lv_room (Nat.le_of_ble_eq_true rfl)) dX7_stepsTo_36 ⟨Nat.zero_le _, Nat.zero_le _⟩ (fun r36 H locs hw hW _ hS => ?_)
    exact gk_reti C0 ⟨rfl, hw⟩ hW hS dX7_stepsTo_39
def wJ_X7_weightOf_99 (v : Nat) (σ : gk_C) (Q : Int32 → Prop) (x3 : Int32) (t0 : Int32) : Prop := (((t0 = 0) → (Q ((x3 * 2) + 1))) ∧ ((¬ t0 = 0) → (Q ((x3 * 2) + 0))))
def wJ_X7_weightOf_91 (v : Nat) (σ : gk_C) (Q : Int32 → Prop) (x3 : Int32) (t0 : Int32) (t1 : Int32) : Prop := (((¬ t0 = t1) → (wJ_X7_weightOf_99 v σ Q x3 0)) ∧ ((t0 = t1) → (wJ_X7_weightOf_99 v σ Q x3 1)))
def wJ_X7_weightOf_70 (v : Nat) (σ : gk_C) (Q : Int32 → Prop) (x1 : Int32) (x3 : Int32) : Prop := (w_X8_isIn (σ.2 (10 + 4 * v)) x1 (fun r75 => ((¬ (σ.2 (8 + 4 * v)) = 1) → (wJ_X7_weightOf_91 v σ Q x3 r75 0)) ∧ (((σ.2 (8 + 4 * v)) = 1) → (wJ_X7_weightOf_91 v σ Q x3 r75 1))))
def w_X7_weightOf (v : Nat) (σ : gk_C) (a0 : Int32) (a1 : Int32) (Q : Int32 → Prop) : Prop := (((¬ (σ.2 (8 + 4 * v)) = 2) → (((¬ (σ.2 (8 + 4 * v)) = 3) → (wJ_X7_weightOf_70 v σ Q a0 0)) ∧ (((σ.2 (8 + 4 * v)) = 3) → (wJ_X7_weightOf_70 v σ Q a0 (-(gk_at σ 16 a0)))))) ∧ (((σ.2 (8 + 4 * v)) = 2) → (wJ_X7_weightOf_70 v σ Q a0 (a1 - (16 * (gk_at σ 6 (gk_at σ 14 a0)))))))
abbrev rmX7_weightOf : Room := { frames := 1, cells := 0, slots := 0, locals := 21 }
set_option maxHeartbeats 4000000 in
set_option maxRecDepth 100000 in
theorem tJ_X7_weightOf_99 {p : Program} {l : Launch} {e : Env} {s : State} {m : MethodId} {args : Array Value} {below : List Frame} {meth : Method} {c : Code} {D : va_G} {cI cZ cG cL : ClassId} {ad : Nat → Nat} (C0 : gk_F p s m args meth c cX7_weightOf 5 (some .int) RX7) (hK : gk_K D cI cZ cG cL s) {v : Nat} (hv : v < 2) {σ : gk_C} {Q : Int32 → Prop} : ∀ (x3 : Int32) (t0 : Int32), wJ_X7_weightOf_99 v σ Q x3 t0 → ∀ (H : Heap) (locs : List Loc), gk_W D cI ad σ H → va_S (gk_A ad s.heap.size) s.heap H locs → ∀ (ls : Array Slot), lv_has ls 5 [(3, .int x3)] → W p l e rmX7_weightOf s m args below meth c H locs 0 0 (MQ below (va_Qi (fun r u => u = σ ∧ Q r) (gk_B D cI ad) (gk_A ad s.heap.size)) args s 0 0 (gk_A ad s.heap.size)) (F0 m 99 ls [.int t0]) := by
  obtain ⟨hx, hb, hml, hown, hts, hr, hlocks⟩ := id C0
  intro x3 t0 hw H locs hW hS ls hl
  refine lv_istore (lv' := [(4, .int t0), (3, .int x3)]) hx hb dX7_weightOf_99 hl (by decide) rfl (fun ls hl => ?_)
  refine lv_iload_n hx hb dX7_weightOf_101 rfl (lv_at hl 1 rfl) ?_
  refine lv_iconst (v := 2) hx hb dX7_weightOf_102 (by decide) ?_
  refine lv_imul hx hb dX7_weightOf_103 ?_
  refine lv_iload hx hb dX7_weightOf_104 (lv_at hl 0 rfl) ?_
  refine lv_if_eq (tgt := 113) hx hb dX7_weightOf_106 (by decide) (fun c106 => ?_) (fun c106 => ?_)
  · have hw := hw.1 c106
    refine lv_iconst (v := 1) hx hb dX7_weightOf_113 (by decide) ?_
    refine lv_iadd hx hb dX7_weightOf_114 ?_
    exact gk_reti C0 ⟨rfl, hw⟩ hW hS dX7_weightOf_115
  · have hw := hw.2 c106
    refine lv_iconst (v := 0) hx hb dX7_weightOf_109 (by decide) ?_
    refine lv_goto (tgt := 114) hx hb dX7_weightOf_110 (by decide) ?_
    refine lv_iadd hx hb dX7_weightOf_114 ?_
    exact gk_reti C0 ⟨rfl, hw⟩ hW hS dX7_weightOf_115
set_option maxHeartbeats 4000000 in
set_option maxRecDepth 100000 in
theorem tJ_X7_weightOf_91 {p : Program} {l : Launch} {e : Env} {s : State} {m : MethodId} {args : Array Value} {below : List Frame} {meth : Method} {c : Code} {D : va_G} {cI cZ cG cL : ClassId} {ad : Nat → Nat} (C0 : gk_F p s m args meth c cX7_weightOf 5 (some .int) RX7) (hK : gk_K D cI cZ cG cL s) {v : Nat} (hv : v < 2) {σ : gk_C} {Q : Int32 → Prop} : ∀ (x3 : Int32) (t0 : Int32) (t1 : Int32), wJ_X7_weightOf_91 v σ Q x3 t0 t1 → ∀ (H : Heap) (locs : List Loc), gk_W D cI ad σ H → va_S (gk_A ad s.heap.size) s.heap H locs → ∀ (ls : Array Slot), lv_has ls 5 [(3, .int x3)] → W p l e rmX7_weightOf s m args below meth c H locs 0 0 (MQ below (va_Qi (fun r u => u = σ ∧ Q r) (gk_B D cI ad) (gk_A ad s.heap.size)) args s 0 0 (gk_A ad s.heap.size)) (F0 m 91 ls [.int t1, .int t0]) := by
  obtain ⟨hx, hb, hml, hown, hts, hr, hlocks⟩ := id C0
  intro x3 t0 t1 hw H locs hW hS ls hl
  refine lv_icmp_ne (tgt := 98) hx hb dX7_weightOf_91 (by decide) (fun c91 => ?_) (fun c91 => ?_)
  · have hw := hw.1 c91
    refine lv_iconst (v := 0) hx hb dX7_weightOf_98 (by decide) ?_
    refine tJ_X7_weightOf_99 C0 hK hv  x3 0 hw _ _ hW hS _ hl
  · have hw := hw.2 c91
    refine lv_iconst (v := 1) hx hb dX7_weightOf_94 (by decide) ?_
    refine lv_goto (tgt := 99) hx hb dX7_weightOf_95 (by decide) ?_
    refine tJ_X7_weightOf_99 C0 hK hv  x3 1 hw _ _ hW hS _ hl
set_option maxHeartbeats 4000000 in
set_option maxRecDepth 100000 in
theorem tJ_X7_weightOf_70 {p : Program} {l : Launch} {e : Env} {s : State} {m : MethodId} {args : Array Value} {below : List Frame} {meth : Method} {c : Code} {D : va_G} {cI cZ cG cL : ClassId} {ad : Nat → Nat} (C0 : gk_F p s m args meth c cX7_weightOf 5 (some .int) RX7) (hK : gk_K D cI cZ cG cL s) {v : Nat} (hv : v < 2) {σ : gk_C} {Q : Int32 → Prop} : ∀ (x1 : Int32) (x3 : Int32), wJ_X7_weightOf_70 v σ Q x1 x3 → ∀ (H : Heap) (locs : List Loc), gk_W D cI ad σ H → va_S (gk_A ad s.heap.size) s.heap H locs → ∀ (ls : Array Slot), lv_has ls 5 [(0, .ref (ad (7 + v))), (1, .int x1), (3, .int x3)] → W p l e rmX7_weightOf s m args below meth c H locs 0 0 (MQ below (va_Qi (fun r u => u = σ ∧ Q r) (gk_B D cI ad) (gk_A ad s.heap.size)) args s 0 0 (gk_A ad s.heap.size)) (F0 m 70 ls []) := by
  obtain ⟨hx, hb, hml, hown, hts, hr, hlocks⟩ := id C0
  intro x1 x3 hw H locs hW hS ls hl
  refine lv_aload_n hx hb dX7_weightOf_70 rfl (lv_at hl 0 rfl) ?_
  refine gk_get hx hb hts iwX7 hown hK.1 (gk_ov hW (v := v) hv) rfl 9 (by decide) (hts _ fl_X7_80) (fun _ h9 => h9) rfl dX7_weightOf_71 ?_
  refine lv_iload_n hx hb dX7_weightOf_74 rfl (lv_at hl 1 rfl) ?_
  refine gk_callSNi ⟨hx, hb, hml, hown, hts⟩ (c_X8_isIn l hw) ⟨va_cnB 2 hts (gk_gI co_X8_isIn) rfl rfl rfl (gk_nw hK nm_X7_94) (hts _ in_X8) (by decide +kernel) ⟨Nat.le_of_ble_eq_true rfl, Nat.le_of_ble_eq_true rfl⟩, hts _ st_X8_isIn, trivial⟩ hS rfl hl.1 (rest := []) rfl (lv_room (Nat.le_of_ble_eq_true rfl)) dX7_weightOf_75 ⟨Nat.zero_le _, Nat.zero_le _⟩ (fun r75 H locs hw _ hk hS => ?_)
  have hW := hW.kept (fun k hk9 => hk _ (hW.lt hk9))
  refine lv_aload_n hx hb dX7_weightOf_78 rfl (lv_at hl 0 rfl) ?_
  refine gk_get hx hb hts iwX7 hown hK.1 (gk_ov hW (v := v) hv) rfl 7 (by decide) (hts _ fl_X7_39) (fun _ h9 => h9) rfl dX7_weightOf_79 ?_
  refine lv_iconst (v := 1) hx hb dX7_weightOf_82 (by decide) ?_
  refine lv_icmp_ne (tgt := 90) hx hb dX7_weightOf_83 (by decide) (fun c83 => ?_) (fun c83 => ?_)
  · have hw := hw.1 c83
    refine lv_iconst (v := 0) hx hb dX7_weightOf_90 (by decide) ?_
    refine tJ_X7_weightOf_91 C0 hK hv  x3 r75 0 hw _ _ hW hS _ (lv_sub hl [2] rfl)
  · have hw := hw.2 c83
    refine lv_iconst (v := 1) hx hb dX7_weightOf_86 (by decide) ?_
    refine lv_goto (tgt := 91) hx hb dX7_weightOf_87 (by decide) ?_
    refine tJ_X7_weightOf_91 C0 hK hv  x3 r75 1 hw _ _ hW hS _ (lv_sub hl [2] rfl)
set_option maxHeartbeats 4000000 in
set_option maxRecDepth 100000 in
theorem c_X7_weightOf (l : Launch) (D : va_G) (cI cZ cG cL : ClassId) (ad : Nat → Nat) {v : Nat} (hv : v < 2) {σ : gk_C} {a0 : Int32} {a1 : Int32} {Q : Int32 → Prop} {sz : Nat} (hw : w_X7_weightOf v σ a0 a1 Q) : Met l yX7_weightOf wsX7_weightOf rmX7_weightOf (gk_Pc D cI cZ cG cL ad [.ref (ad (7 + v)), .int a0, .int a1] sz σ) (va_Qi (fun r u => u = σ ∧ Q r) (gk_B D cI ad) (gk_A ad sz)) 0 0 (gk_A ad sz) := by
  refine Met.ofW (cc := cX7_weightOf) (maxL := 5) (ret := (some .int)) (by decide) rfl ?_
  intro p e s m args below meth c s₁ B hml0 hv0
  obtain ⟨rfl, hsz, hW, hK⟩ := hv0
  subst hsz
  have C0 : gk_F p s m ([.ref (ad (7 + v)), .int a0, .int a1] : List Value).toArray meth c cX7_weightOf 5 (some .int) RX7 := ⟨B.exec, B.bytes, hml0, findClass_of_methodNamed B.named, fun w hw => atoms_spec (ws := wsX7_weightOf) B.pre w (List.mem_cons_of_mem _ hw), B.returns, B.notSynchronized⟩
  obtain ⟨hx, hb, hml, hown, hts, hr, hlocks⟩ := id C0
  have hS : va_S (gk_A ad s.heap.size) s.heap s.heap [] := va_S.rf
  have hl := lv_entry ([.ref (ad (7 + v)), .int a0, .int a1]) (n := 5) (Nat.le_of_ble_eq_true rfl)
  rw [lg_entry_eq]
  generalize (lg_sl ([.ref (ad (7 + v)), .int a0, .int a1]) ++ List.replicate (5 - (lg_sl ([.ref (ad (7 + v)), .int a0, .int a1])).length) Slot.unset).toArray = ls at hl ⊢
  have hl : lv_has ls 5 [(0, .ref (ad (7 + v))), (1, .int a0), (2, .int a1)] := hl
  show W p l e rmX7_weightOf s m _ below meth c s.heap [] 0 0 _ _
  refine lv_iconst (v := 0) hx hb dX7_weightOf_0 (by decide) ?_
  refine lv_istore_n (lv' := [(3, .int 0), (0, .ref (ad (7 + v))), (1, .int a0), (2, .int a1)]) hx hb dX7_weightOf_1 rfl hl (by decide) rfl (fun ls hl => ?_)
  refine lv_aload_n hx hb dX7_weightOf_2 rfl (lv_at hl 1 rfl) ?_
  refine gk_get hx hb hts iwX7 hown hK.1 (gk_ov hW (v := v) hv) rfl 7 (by decide) (hts _ fl_X7_39) (fun _ h9 => h9) rfl dX7_weightOf_3 ?_
  refine lv_iconst (v := 2) hx hb dX7_weightOf_6 (by decide) ?_
  refine lv_icmp_ne (tgt := 46) hx hb dX7_weightOf_7 (by decide) (fun c7 => ?_) (fun c7 => ?_)
  · have hw := hw.1 c7
    refine lv_aload_n hx hb dX7_weightOf_46 rfl (lv_at hl 1 rfl) ?_
    refine gk_get hx hb hts iwX7 hown hK.1 (gk_ov hW (v := v) hv) rfl 7 (by decide) (hts _ fl_X7_39) (fun _ h9 => h9) rfl dX7_weightOf_47 ?_
    refine lv_iconst (v := 3) hx hb dX7_weightOf_50 (by decide) ?_
    refine lv_icmp_ne (tgt := 70) hx hb dX7_weightOf_51 (by decide) (fun c51 => ?_) (fun c51 => ?_)
    · have hw := hw.1 c51
      refine tJ_X7_weightOf_70 C0 hK hv  a0 0 hw _ _ hW hS _ (lv_sub hl [1, 2, 0] rfl)
    · have hw := hw.2 c51
      refine lv_aload_n hx hb dX7_weightOf_54 rfl (lv_at hl 1 rfl) ?_
      refine gk_get hx hb hts iwX7 hown hK.1 (gk_ov hW (v := v) hv) rfl 0 (by decide) (hts _ fl_X7_35) (fun _ h9 => h9) rfl dX7_weightOf_55 ?_
      refine gk_getN hx hb hts iwX4 hown hK.1 (gk_o1 hW) rfl 3 (by decide) (gk_nw hK nf_X7_87) (fun _ h9 => h9) rfl dX7_weightOf_58 ?_
      refine gk_getN hx hb hts iwX3 hown hK.1 (gk_o5 hW) rfl 6 (by decide) (gk_nw hK nf_X7_165) (fun _ h9 => h9) rfl dX7_weightOf_61 ?_
      refine lv_iload_n hx hb dX7_weightOf_64 rfl (lv_at hl 2 rfl) ?_
      refine gk_callRi ⟨hx, hb, hml, hown, hts⟩ (c_X2_at l D cI cZ cG cL ad (σ := σ) (r := 16) (i := a0) (by decide)) (cwV 1 hts (gk_gV ml_X7_64 im_X2_at se_X2_at in_X2 co_X2_at) rfl rfl rfl (by decide +kernel) ⟨Nat.le_of_ble_eq_true rfl, Nat.le_of_ble_eq_true rfl⟩) (gk_recv hK.1 (gk_or hW (r := 16) (by decide)) rfl) hW hK hS rfl hl.1 (rest := []) rfl (lv_room (Nat.le_of_ble_eq_true rfl)) dX7_weightOf_65 ⟨Nat.zero_le _, Nat.zero_le _⟩ (fun r65 H locs hq hW _ hS => ?_)
      obtain rfl := hq
      refine lv_ineg hx hb dX7_weightOf_68 ?_
      refine lv_istore_n (lv' := [(3, .int (-(gk_at σ 16 a0))), (0, .ref (ad (7 + v))), (1, .int a0), (2, .int a1)]) hx hb dX7_weightOf_69 rfl hl (by decide) rfl (fun ls hl => ?_)
      refine tJ_X7_weightOf_70 C0 hK hv  a0 (-(gk_at σ 16 a0)) hw _ _ hW hS _ (lv_sub hl [1, 2, 0] rfl)
  · have hw := hw.2 c7
    refine lv_iload_n hx hb dX7_weightOf_10 rfl (lv_at hl 3 rfl) ?_
    refine lv_bipush (v := 16) hx hb dX7_weightOf_11 (by decide) ?_
    refine lv_aload_n hx hb dX7_weightOf_13 rfl (lv_at hl 1 rfl) ?_
    refine gk_get hx hb hts iwX7 hown hK.1 (gk_ov hW (v := v) hv) rfl 0 (by decide) (hts _ fl_X7_35) (fun _ h9 => h9) rfl dX7_weightOf_14 ?_
    refine gk_getN hx hb hts iwX4 hown hK.1 (gk_o1 hW) rfl 2 (by decide) (gk_nw hK nf_X7_119) (fun _ h9 => h9) rfl dX7_weightOf_17 ?_
    refine gk_getN hx hb hts iwX5 hown hK.1 (gk_o4 hW) rfl 1 (by decide) (gk_nw hK nf_X7_162) (fun _ h9 => h9) rfl dX7_weightOf_20 ?_
    refine lv_aload_n hx hb dX7_weightOf_23 rfl (lv_at hl 1 rfl) ?_
    refine gk_get hx hb hts iwX7 hown hK.1 (gk_ov hW (v := v) hv) rfl 0 (by decide) (hts _ fl_X7_35) (fun _ h9 => h9) rfl dX7_weightOf_24 ?_
    refine gk_getN hx hb hts iwX4 hown hK.1 (gk_o1 hW) rfl 3 (by decide) (gk_nw hK nf_X7_87) (fun _ h9 => h9) rfl dX7_weightOf_27 ?_
    refine gk_getN hx hb hts iwX3 hown hK.1 (gk_o5 hW) rfl 4 (by decide) (gk_nw hK nf_X7_113) (fun _ h9 => h9) rfl dX7_weightOf_30 ?_
    refine lv_iload_n hx hb dX7_weightOf_33 rfl (lv_at hl 2 rfl) ?_
    refine gk_callRi ⟨hx, hb, hml, hown, hts⟩ (c_X2_at l D cI cZ cG cL ad (σ := σ) (r := 14) (i := a0) (by decide)) (cwV 1 hts (gk_gV ml_X7_64 im_X2_at se_X2_at in_X2 co_X2_at) rfl rfl rfl (by decide +kernel) ⟨Nat.le_of_ble_eq_true rfl, Nat.le_of_ble_eq_true rfl⟩) (gk_recv hK.1 (gk_or hW (r := 14) (by decide)) rfl) hW hK hS rfl hl.1 (rest := [.ref (ad (9 + 6)), .int 16, .int a1]) rfl (lv_room (Nat.le_of_ble_eq_true rfl)) dX7_weightOf_34 ⟨Nat.zero_le _, Nat.zero_le _⟩ (fun r34 H locs hq hW _ hS => ?_)
    obtain rfl := hq
    refine gk_callRi ⟨hx, hb, hml, hown, hts⟩ (c_X2_at l D cI cZ cG cL ad (σ := σ) (r := 6) (i := (gk_at σ 14 a0)) (by decide)) (cwV 1 hts (gk_gV ml_X7_64 im_X2_at se_X2_at in_X2 co_X2_at) rfl rfl rfl (by decide +kernel) ⟨Nat.le_of_ble_eq_true rfl, Nat.le_of_ble_eq_true rfl⟩) (gk_recv hK.1 (gk_or hW (r := 6) (by decide)) rfl) hW hK hS rfl hl.1 (rest := [.int 16, .int a1]) rfl (lv_room (Nat.le_of_ble_eq_true rfl)) dX7_weightOf_37 ⟨Nat.zero_le _, Nat.zero_le _⟩ (fun r37 H locs hq hW _ hS => ?_)
    obtain rfl := hq
    refine lv_imul hx hb dX7_weightOf_40 ?_
    refine lv_isub hx hb dX7_weightOf_41 ?_
    refine lv_istore_n (lv' := [(3, .int (a1 - (16 * (gk_at σ 6 (gk_at σ 14 a0))))), (0, .ref (ad (7 + v))), (1, .int a0), (2, .int a1)]) hx hb dX7_weightOf_42 rfl hl (by decide) rfl (fun ls hl => ?_)
    refine lv_goto (tgt := 70) hx hb dX7_weightOf_43 (by decide) ?_
    refine tJ_X7_weightOf_70 C0 hK hv  a0 (a1 - (16 * (gk_at σ 6 (gk_at σ 14 a0)))) hw _ _ hW hS _ (lv_sub hl [1, 2, 0] rfl)
def wJ_X7_giveSet_74 (v : Nat) (k75 : gk_C → Int32 → Int32 → Int32 → Int32 → Int32 → Int32 → Prop) (σ : gk_C) (x1 : Int32) (x2 : Int32) (x3 : Int32) (x4 : Int32) (x5 : Int32) : Prop := (k75 σ x1 x2 x3 x4 x5 0)
def wJ_X7_giveSet_94 (v : Nat) (k21 : gk_C → Int32 → Int32 → Int32 → Int32 → Int32 → Prop) (σ : gk_C) (x1 : Int32) (x2 : Int32) (x3 : Int32) (x4 : Int32) (x5 : Int32) (t0 : Int32) : Prop := (((t0 < 0) → (k21 σ x1 x2 x3 x4 (x5 + 1))) ∧ ((¬ t0 < 0) → (w_X7_weightOf v σ x5 t0 (fun r126 => k21 (gk_put σ (29 + 6 * v) ((x1 * 30) + x5) r126) x1 x2 x3 (x4 ||| (1 <<< (x5 &&& 31))) (x5 + 1)))))
def wJ_X7_giveSet_75 (v : Nat) (k21 : gk_C → Int32 → Int32 → Int32 → Int32 → Int32 → Prop) (σ : gk_C) (x1 : Int32) (x2 : Int32) (x3 : Int32) (x4 : Int32) (x5 : Int32) (t0 : Int32) : Prop := (((t0 = 0) → (wJ_X7_giveSet_94 v k21 σ x1 x2 x3 x4 x5 (-1))) ∧ ((¬ t0 = 0) → (w_X7_stepsTo v σ x5 x1 x2 (fun r87 => wJ_X7_giveSet_94 v k21 σ x1 x2 x3 x4 x5 r87))))
def wL_X7_giveSet_21 (v : Nat) (k138 : gk_C → Int32 → Int32 → Prop) : Nat → gk_C → Int32 → Int32 → Int32 → Int32 → Int32 → Prop
  | 0 => fun _ _ _ _ _ _ => False
  | n + 1 => fun σ x1 x2 x3 x4 x5 => ((((σ.2 4) ≤ x5) → (k138 σ x1 x4)) ∧ ((¬ (σ.2 4) ≤ x5) → (w_X8_isIn (σ.2 (9 + 4 * v)) x5 (fun r42 => ((r42 = 0) → (wJ_X7_giveSet_74 v (fun σ x1 x2 x3 x4 x5 t0 => (wJ_X7_giveSet_75 v (fun σ x1 x2 x3 x4 x5 => wL_X7_giveSet_21 v k138 n σ x1 x2 x3 x4 x5) σ x1 x2 x3 x4 x5 t0)) σ x1 x2 x3 x4 x5)) ∧ ((¬ r42 = 0) → (((¬ ((gk_at σ 17 x5) &&& (x3 ^^^ (-1))) = 0) → (wJ_X7_giveSet_74 v (fun σ x1 x2 x3 x4 x5 t0 => (wJ_X7_giveSet_75 v (fun σ x1 x2 x3 x4 x5 => wL_X7_giveSet_21 v k138 n σ x1 x2 x3 x4 x5) σ x1 x2 x3 x4 x5 t0)) σ x1 x2 x3 x4 x5)) ∧ ((((gk_at σ 17 x5) &&& (x3 ^^^ (-1))) = 0) → (wJ_X7_giveSet_75 v (fun σ x1 x2 x3 x4 x5 => wL_X7_giveSet_21 v k138 n σ x1 x2 x3 x4 x5) σ x1 x2 x3 x4 x5 1))))))))
def w_X7_giveSet (v : Nat) (σ : gk_C) (a0 : Int32) (a1 : Int32) (Q : gk_C → Prop) : Prop := (∃ n21, wL_X7_giveSet_21 v (fun σ x1 x4 => (Q (gk_put σ (28 + 6 * v) x1 x4))) n21 σ a0 a1 (gk_at σ 1 a0) 0 0)
abbrev rmX7_giveSet : Room := { frames := 4, cells := 0, slots := 0, locals := 92 }
set_option maxHeartbeats 4000000 in
set_option maxRecDepth 100000 in
theorem tJ_X7_giveSet_74 {p : Program} {l : Launch} {e : Env} {s : State} {m : MethodId} {args : Array Value} {below : List Frame} {meth : Method} {c : Code} {D : va_G} {cI cZ cG cL : ClassId} {ad : Nat → Nat} (C0 : gk_F p s m args meth c cX7_giveSet 8 none RX7) (hK : gk_K D cI cZ cG cL s) {v : Nat} (hv : v < 2) {Q : gk_C → Prop} {k75 : gk_C → Int32 → Int32 → Int32 → Int32 → Int32 → Int32 → Prop} (hk75 : ∀ (σ : gk_C) (x1 : Int32) (x2 : Int32) (x3 : Int32) (x4 : Int32) (x5 : Int32) (t0 : Int32), k75 σ x1 x2 x3 x4 x5 t0 → ∀ (H : Heap) (locs : List Loc), gk_W D cI ad σ H → va_S (gk_A ad s.heap.size) s.heap H locs → ∀ (ls : Array Slot), lv_has ls 8 [(0, .ref (ad (7 + v))), (1, .int x1), (2, .int x2), (3, .int x3), (4, .int x4), (5, .int x5)] → W p l e rmX7_giveSet s m args below meth c H locs 0 0 (MQ below (va_Qv (fun u => Q u) (gk_B D cI ad) (gk_A ad s.heap.size)) args s 0 0 (gk_A ad s.heap.size)) (F0 m 75 ls [.int t0])) : ∀ (σ : gk_C) (x1 : Int32) (x2 : Int32) (x3 : Int32) (x4 : Int32) (x5 : Int32), wJ_X7_giveSet_74 v k75 σ x1 x2 x3 x4 x5 → ∀ (H : Heap) (locs : List Loc), gk_W D cI ad σ H → va_S (gk_A ad s.heap.size) s.heap H locs → ∀ (ls : Array Slot), lv_has ls 8 [(0, .ref (ad (7 + v))), (1, .int x1), (2, .int x2), (3, .int x3), (4, .int x4), (5, .int x5)] → W p l e rmX7_giveSet s m args below meth c H locs 0 0 (MQ below (va_Qv (fun u => Q u) (gk_B D cI ad) (gk_A ad s.heap.size)) args s 0 0 (gk_A ad s.heap.size)) (F0 m 74 ls []) := by
  obtain ⟨hx, hb, hml, hown, hts, hr, hlocks⟩ := id C0
  intro σ x1 x2 x3 x4 x5 hw H locs hW hS ls hl
  refine lv_iconst (v := 0) hx hb dX7_giveSet_74 (by decide) ?_
  exact hk75 σ x1 x2 x3 x4 x5 0 hw _ _ hW hS _ hl
set_option maxHeartbeats 4000000 in
set_option maxRecDepth 100000 in
theorem tJ_X7_giveSet_94 {p : Program} {l : Launch} {e : Env} {s : State} {m : MethodId} {args : Array Value} {below : List Frame} {meth : Method} {c : Code} {D : va_G} {cI cZ cG cL : ClassId} {ad : Nat → Nat} (C0 : gk_F p s m args meth c cX7_giveSet 8 none RX7) (hK : gk_K D cI cZ cG cL s) {v : Nat} (hv : v < 2) {Q : gk_C → Prop} {k21 : gk_C → Int32 → Int32 → Int32 → Int32 → Int32 → Prop} (hk21 : ∀ (σ : gk_C) (x1 : Int32) (x2 : Int32) (x3 : Int32) (x4 : Int32) (x5 : Int32), k21 σ x1 x2 x3 x4 x5 → ∀ (H : Heap) (locs : List Loc), gk_W D cI ad σ H → va_S (gk_A ad s.heap.size) s.heap H locs → ∀ (ls : Array Slot), lv_has ls 8 [(0, .ref (ad (7 + v))), (1, .int x1), (2, .int x2), (3, .int x3), (4, .int x4), (5, .int x5)] → W p l e rmX7_giveSet s m args below meth c H locs 0 0 (MQ below (va_Qv (fun u => Q u) (gk_B D cI ad) (gk_A ad s.heap.size)) args s 0 0 (gk_A ad s.heap.size)) (F0 m 21 ls [])) : ∀ (σ : gk_C) (x1 : Int32) (x2 : Int32) (x3 : Int32) (x4 : Int32) (x5 : Int32) (t0 : Int32), wJ_X7_giveSet_94 v k21 σ x1 x2 x3 x4 x5 t0 → ∀ (H : Heap) (locs : List Loc), gk_W D cI ad σ H → va_S (gk_A ad s.heap.size) s.heap H locs → ∀ (ls : Array Slot), lv_has ls 8 [(0, .ref (ad (7 + v))), (1, .int x1), (2, .int x2), (3, .int x3), (4, .int x4), (5, .int x5)] → W p l e rmX7_giveSet s m args below meth c H locs 0 0 (MQ below (va_Qv (fun u => Q u) (gk_B D cI ad) (gk_A ad s.heap.size)) args s 0 0 (gk_A ad s.heap.size)) (F0 m 94 ls [.int t0]) := by
  obtain ⟨hx, hb, hml, hown, hts, hr, hlocks⟩ := id C0
  intro σ x1 x2 x3 x4 x5 t0 hw H locs hW hS ls hl
  refine lv_istore (lv' := [(7, .int t0), (0, .ref (ad (7 + v))), (1, .int x1), (2, .int x2), (3, .int x3), (4, .int x4), (5, .int x5)]) hx hb dX7_giveSet_94 hl (by decide) rfl (fun ls hl => ?_)
  refine lv_iload hx hb dX7_giveSet_96 (lv_at hl 0 rfl) ?_
  refine lv_if_lt (tgt := 132) hx hb dX7_giveSet_98 (by decide) (fun c98 => ?_) (fun c98 => ?_)
  · have hw := hw.1 c98
    refine lv_iinc (v := (x5 + 1)) (lv' := [(5, .int (x5 + 1)), (7, .int t0), (0, .ref (ad (7 + v))), (1, .int x1), (2, .int x2), (3, .int x3), (4, .int x4)]) hx hb dX7_giveSet_132 hl (k := 6) rfl rfl (by decide) rfl (fun ls hl => ?_)
    refine lv_goto (tgt := 21) hx hb dX7_giveSet_135 (by decide) ?_
    exact hk21 σ x1 x2 x3 x4 (x5 + 1) hw _ _ hW hS _ (lv_sub hl [2, 3, 4, 5, 6, 0] rfl)
  · have hw := hw.2 c98
    refine lv_iload hx hb dX7_giveSet_101 (lv_at hl 5 rfl) ?_
    refine lv_iconst (v := 1) hx hb dX7_giveSet_103 (by decide) ?_
    refine lv_iload hx hb dX7_giveSet_104 (lv_at hl 6 rfl) ?_
    refine lv_ishl hx hb dX7_giveSet_106 ?_
    refine lv_ior hx hb dX7_giveSet_107 ?_
    refine lv_istore (lv' := [(4, .int (x4 ||| (1 <<< (x5 &&& 31)))), (7, .int t0), (0, .ref (ad (7 + v))), (1, .int x1), (2, .int x2), (3, .int x3), (5, .int x5)]) hx hb dX7_giveSet_108 hl (by decide) rfl (fun ls hl => ?_)
    refine lv_aload_n hx hb dX7_giveSet_110 rfl (lv_at hl 2 rfl) ?_
    refine gk_get hx hb hts iwX7 hown hK.1 (gk_ov hW (v := v) hv) rfl 4 (by decide) (hts _ fl_X7_26) (fun _ h9 => h9) rfl dX7_giveSet_111 ?_
    refine lv_iload_n hx hb dX7_giveSet_114 rfl (lv_at hl 3 rfl) ?_
    refine lv_bipush (v := 30) hx hb dX7_giveSet_115 (by decide) ?_
    refine lv_imul hx hb dX7_giveSet_117 ?_
    refine lv_iload hx hb dX7_giveSet_118 (lv_at hl 6 rfl) ?_
    refine lv_iadd hx hb dX7_giveSet_120 ?_
    refine lv_aload_n hx hb dX7_giveSet_121 rfl (lv_at hl 2 rfl) ?_
    refine lv_iload hx hb dX7_giveSet_122 (lv_at hl 6 rfl) ?_
    refine lv_iload hx hb dX7_giveSet_124 (lv_at hl 1 rfl) ?_
    refine gk_callRi ⟨hx, hb, hml, hown, hts⟩ (c_X7_weightOf l D cI cZ cG cL ad hv hw) (cwV 2 hts (gk_gV ml_X7_147 im_X7_weightOf se_X7_weightOf in_X7 co_X7_weightOf) rfl rfl rfl (by decide +kernel) ⟨Nat.le_of_ble_eq_true rfl, Nat.le_of_ble_eq_true rfl⟩) (gk_recv hK.1 (gk_ov hW (v := v) hv) rfl) hW hK hS rfl hl.1 (rest := [.int ((x1 * 30) + x5), .ref (ad (9 + (29 + 6 * v)))]) rfl (lv_room (Nat.le_of_ble_eq_true rfl)) dX7_giveSet_126 ⟨Nat.zero_le _, Nat.zero_le _⟩ (fun r126 H locs hw hW _ hS => ?_)
    refine gk_callVv ⟨hx, hb, hml, hown, hts⟩ (c_X2_put l D cI cZ cG cL ad (σ := σ) (r := (29 + 6 * v)) (i := ((x1 * 30) + x5)) (x := r126) (by omega)) (cwV 2 hts (gk_gV ml_X7_110 im_X2_put se_X2_put in_X2 co_X2_put) rfl rfl rfl (by decide +kernel) ⟨Nat.le_of_ble_eq_true rfl, Nat.le_of_ble_eq_true rfl⟩) (gk_recv hK.1 (gk_or hW (r := (29 + 6 * v)) (by omega)) rfl) hW hK hS rfl hl.1 (rest := []) rfl (lv_room (Nat.le_of_ble_eq_true rfl)) dX7_giveSet_129 ⟨Nat.zero_le _, Nat.zero_le _⟩ (fun u H locs hq hW _ hS => ?_)
    rw [hq] at hW
    refine lv_iinc (v := (x5 + 1)) (lv' := [(5, .int (x5 + 1)), (4, .int (x4 ||| (1 <<< (x5 &&& 31)))), (7, .int t0), (0, .ref (ad (7 + v))), (1, .int x1), (2, .int x2), (3, .int x3)]) hx hb dX7_giveSet_132 hl (k := 6) rfl rfl (by decide) rfl (fun ls hl => ?_)
    refine lv_goto (tgt := 21) hx hb dX7_giveSet_135 (by decide) ?_
    exact hk21 (gk_put σ (29 + 6 * v) ((x1 * 30) + x5) r126) x1 x2 x3 (x4 ||| (1 <<< (x5 &&& 31))) (x5 + 1) hw _ _ hW hS _ (lv_sub hl [3, 4, 5, 6, 1, 0] rfl)
set_option maxHeartbeats 4000000 in
set_option maxRecDepth 100000 in
theorem tJ_X7_giveSet_75 {p : Program} {l : Launch} {e : Env} {s : State} {m : MethodId} {args : Array Value} {below : List Frame} {meth : Method} {c : Code} {D : va_G} {cI cZ cG cL : ClassId} {ad : Nat → Nat} (C0 : gk_F p s m args meth c cX7_giveSet 8 none RX7) (hK : gk_K D cI cZ cG cL s) {v : Nat} (hv : v < 2) {Q : gk_C → Prop} {k21 : gk_C → Int32 → Int32 → Int32 → Int32 → Int32 → Prop} (hk21 : ∀ (σ : gk_C) (x1 : Int32) (x2 : Int32) (x3 : Int32) (x4 : Int32) (x5 : Int32), k21 σ x1 x2 x3 x4 x5 → ∀ (H : Heap) (locs : List Loc), gk_W D cI ad σ H → va_S (gk_A ad s.heap.size) s.heap H locs → ∀ (ls : Array Slot), lv_has ls 8 [(0, .ref (ad (7 + v))), (1, .int x1), (2, .int x2), (3, .int x3), (4, .int x4), (5, .int x5)] → W p l e rmX7_giveSet s m args below meth c H locs 0 0 (MQ below (va_Qv (fun u => Q u) (gk_B D cI ad) (gk_A ad s.heap.size)) args s 0 0 (gk_A ad s.heap.size)) (F0 m 21 ls [])) : ∀ (σ : gk_C) (x1 : Int32) (x2 : Int32) (x3 : Int32) (x4 : Int32) (x5 : Int32) (t0 : Int32), wJ_X7_giveSet_75 v k21 σ x1 x2 x3 x4 x5 t0 → ∀ (H : Heap) (locs : List Loc), gk_W D cI ad σ H → va_S (gk_A ad s.heap.size) s.heap H locs → ∀ (ls : Array Slot), lv_has ls 8 [(0, .ref (ad (7 + v))), (1, .int x1), (2, .int x2), (3, .int x3), (4, .int x4), (5, .int x5)] → W p l e rmX7_giveSet s m args below meth c H locs 0 0 (MQ below (va_Qv (fun u => Q u) (gk_B D cI ad) (gk_A ad s.heap.size)) args s 0 0 (gk_A ad s.heap.size)) (F0 m 75 ls [.int t0]) := by
  obtain ⟨hx, hb, hml, hown, hts, hr, hlocks⟩ := id C0
  intro σ x1 x2 x3 x4 x5 t0 hw H locs hW hS ls hl
  refine lv_istore (lv' := [(6, .int t0), (0, .ref (ad (7 + v))), (1, .int x1), (2, .int x2), (3, .int x3), (4, .int x4), (5, .int x5)]) hx hb dX7_giveSet_75 hl (by decide) rfl (fun ls hl => ?_)
  refine lv_iload hx hb dX7_giveSet_77 (lv_at hl 0 rfl) ?_
  refine lv_if_eq (tgt := 93) hx hb dX7_giveSet_79 (by decide) (fun c79 => ?_) (fun c79 => ?_)
  · have hw := hw.1 c79
    refine lv_iconst (v := (-1)) hx hb dX7_giveSet_93 (by decide) ?_
    refine tJ_X7_giveSet_94 C0 hK hv (hk21 := hk21) σ x1 x2 x3 x4 x5 (-1) hw _ _ hW hS _ (lv_sub hl [1, 2, 3, 4, 5, 6] rfl)
  · have hw := hw.2 c79
    refine lv_aload_n hx hb dX7_giveSet_82 rfl (lv_at hl 1 rfl) ?_
    refine lv_iload hx hb dX7_giveSet_83 (lv_at hl 6 rfl) ?_
    refine lv_iload_n hx hb dX7_giveSet_85 rfl (lv_at hl 2 rfl) ?_
    refine lv_iload_n hx hb dX7_giveSet_86 rfl (lv_at hl 3 rfl) ?_
    refine gk_callRi ⟨hx, hb, hml, hown, hts⟩ (c_X7_stepsTo l D cI cZ cG cL ad hv hw) (cwV 3 hts (gk_gV ml_X7_143 im_X7_stepsTo se_X7_stepsTo in_X7 co_X7_stepsTo) rfl rfl rfl (by decide +kernel) ⟨Nat.le_of_ble_eq_true rfl, Nat.le_of_ble_eq_true rfl⟩) (gk_recv hK.1 (gk_ov hW (v := v) hv) rfl) hW hK hS rfl hl.1 (rest := []) rfl (lv_room (Nat.le_of_ble_eq_true rfl)) dX7_giveSet_87 ⟨Nat.zero_le _, Nat.zero_le _⟩ (fun r87 H locs hw hW _ hS => ?_)
    refine lv_goto (tgt := 94) hx hb dX7_giveSet_90 (by decide) ?_
    refine tJ_X7_giveSet_94 C0 hK hv (hk21 := hk21) σ x1 x2 x3 x4 x5 r87 hw _ _ hW hS _ (lv_sub hl [1, 2, 3, 4, 5, 6] rfl)
set_option maxHeartbeats 4000000 in
set_option maxRecDepth 100000 in
theorem tL_X7_giveSet_21 {p : Program} {l : Launch} {e : Env} {s : State} {m : MethodId} {args : Array Value} {below : List Frame} {meth : Method} {c : Code} {D : va_G} {cI cZ cG cL : ClassId} {ad : Nat → Nat} (C0 : gk_F p s m args meth c cX7_giveSet 8 none RX7) (hK : gk_K D cI cZ cG cL s) {v : Nat} (hv : v < 2) {Q : gk_C → Prop} {k138 : gk_C → Int32 → Int32 → Prop} (hk138 : ∀ (σ : gk_C) (x1 : Int32) (x4 : Int32), k138 σ x1 x4 → ∀ (H : Heap) (locs : List Loc), gk_W D cI ad σ H → va_S (gk_A ad s.heap.size) s.heap H locs → ∀ (ls : Array Slot), lv_has ls 8 [(0, .ref (ad (7 + v))), (1, .int x1), (4, .int x4)] → W p l e rmX7_giveSet s m args below meth c H locs 0 0 (MQ below (va_Qv (fun u => Q u) (gk_B D cI ad) (gk_A ad s.heap.size)) args s 0 0 (gk_A ad s.heap.size)) (F0 m 138 ls [])) : ∀ (n : Nat) (σ : gk_C) (x1 : Int32) (x2 : Int32) (x3 : Int32) (x4 : Int32) (x5 : Int32), wL_X7_giveSet_21 v k138 n σ x1 x2 x3 x4 x5 → ∀ (H : Heap) (locs : List Loc), gk_W D cI ad σ H → va_S (gk_A ad s.heap.size) s.heap H locs → ∀ (ls : Array Slot), lv_has ls 8 [(0, .ref (ad (7 + v))), (1, .int x1), (2, .int x2), (3, .int x3), (4, .int x4), (5, .int x5)] → W p l e rmX7_giveSet s m args below meth c H locs 0 0 (MQ below (va_Qv (fun u => Q u) (gk_B D cI ad) (gk_A ad s.heap.size)) args s 0 0 (gk_A ad s.heap.size)) (F0 m 21 ls []) := by
  obtain ⟨hx, hb, hml, hown, hts, hr, hlocks⟩ := id C0
  intro n
  induction n with
  | zero => exact fun _ _ _ _ _ _ hw => False.elim hw
  | succ n ih =>
    intro σ x1 x2 x3 x4 x5 hw H locs hW hS ls hl
    refine lv_iload hx hb dX7_giveSet_21 (lv_at hl 5 rfl) ?_
    refine lv_aload_n hx hb dX7_giveSet_23 rfl (lv_at hl 0 rfl) ?_
    refine gk_get hx hb hts iwX7 hown hK.1 (gk_ov hW (v := v) hv) rfl 0 (by decide) (hts _ fl_X7_35) (fun _ h9 => h9) rfl dX7_giveSet_24 ?_
    refine gk_getN hx hb hts iwX4 hown hK.1 (gk_o1 hW) rfl 3 (by decide) (gk_nw hK nf_X7_87) (fun _ h9 => h9) rfl dX7_giveSet_27 ?_
    refine gk_getN hx hb hts iwX3 hown hK.1 (gk_o5 hW) rfl 0 (by decide) (gk_nw hK nf_X7_91) (fun _ h9 => h9) rfl dX7_giveSet_30 ?_
    refine lv_icmp_ge (tgt := 138) hx hb dX7_giveSet_33 (by decide) (fun c33 => ?_) (fun c33 => ?_)
    · have hw := hw.1 c33
      exact hk138 σ x1 x4 hw _ _ hW hS _ (lv_sub hl [0, 1, 4] rfl)
    · have hw := hw.2 c33
      refine lv_aload_n hx hb dX7_giveSet_36 rfl (lv_at hl 0 rfl) ?_
      refine gk_get hx hb hts iwX7 hown hK.1 (gk_ov hW (v := v) hv) rfl 8 (by decide) (hts _ fl_X7_77) (fun _ h9 => h9) rfl dX7_giveSet_37 ?_
      refine lv_iload hx hb dX7_giveSet_40 (lv_at hl 5 rfl) ?_
      refine gk_callSNi ⟨hx, hb, hml, hown, hts⟩ (c_X8_isIn l hw) ⟨va_cnB 2 hts (gk_gI co_X8_isIn) rfl rfl rfl (gk_nw hK nm_X7_94) (hts _ in_X8) (by decide +kernel) ⟨Nat.le_of_ble_eq_true rfl, Nat.le_of_ble_eq_true rfl⟩, hts _ st_X8_isIn, trivial⟩ hS rfl hl.1 (rest := []) rfl (lv_room (Nat.le_of_ble_eq_true rfl)) dX7_giveSet_42 ⟨Nat.zero_le _, Nat.zero_le _⟩ (fun r42 H locs hw _ hk hS => ?_)
      have hW := hW.kept (fun k hk9 => hk _ (hW.lt hk9))
      refine lv_if_eq (tgt := 74) hx hb dX7_giveSet_45 (by decide) (fun c45 => ?_) (fun c45 => ?_)
      · have hw := hw.1 c45
        refine tJ_X7_giveSet_74 C0 hK hv (hk75 := ?_) σ x1 x2 x3 x4 x5 hw _ _ hW hS _ hl
        · intro σ x1 x2 x3 x4 x5 t0 hw H locs hW hS ls hl
          refine tJ_X7_giveSet_75 C0 hK hv (hk21 := ih) σ x1 x2 x3 x4 x5 t0 hw _ _ hW hS _ hl
      · have hw := hw.2 c45
        refine lv_aload_n hx hb dX7_giveSet_48 rfl (lv_at hl 0 rfl) ?_
        refine gk_get hx hb hts iwX7 hown hK.1 (gk_ov hW (v := v) hv) rfl 0 (by decide) (hts _ fl_X7_35) (fun _ h9 => h9) rfl dX7_giveSet_49 ?_
        refine gk_getN hx hb hts iwX4 hown hK.1 (gk_o1 hW) rfl 3 (by decide) (gk_nw hK nf_X7_87) (fun _ h9 => h9) rfl dX7_giveSet_52 ?_
        refine gk_getN hx hb hts iwX3 hown hK.1 (gk_o5 hW) rfl 7 (by decide) (gk_nw hK nf_X7_142) (fun _ h9 => h9) rfl dX7_giveSet_55 ?_
        refine lv_iload hx hb dX7_giveSet_58 (lv_at hl 5 rfl) ?_
        refine gk_callRi ⟨hx, hb, hml, hown, hts⟩ (c_X2_at l D cI cZ cG cL ad (σ := σ) (r := 17) (i := x5) (by decide)) (cwV 1 hts (gk_gV ml_X7_64 im_X2_at se_X2_at in_X2 co_X2_at) rfl rfl rfl (by decide +kernel) ⟨Nat.le_of_ble_eq_true rfl, Nat.le_of_ble_eq_true rfl⟩) (gk_recv hK.1 (gk_or hW (r := 17) (by decide)) rfl) hW hK hS rfl hl.1 (rest := []) rfl (lv_room (Nat.le_of_ble_eq_true rfl)) dX7_giveSet_60 ⟨Nat.zero_le _, Nat.zero_le _⟩ (fun r60 H locs hq hW _ hS => ?_)
        obtain rfl := hq
        refine lv_iload_n hx hb dX7_giveSet_63 rfl (lv_at hl 3 rfl) ?_
        refine lv_iconst (v := (-1)) hx hb dX7_giveSet_64 (by decide) ?_
        refine lv_ixor hx hb dX7_giveSet_65 ?_
        refine lv_iand hx hb dX7_giveSet_66 ?_
        refine lv_if_ne (tgt := 74) hx hb dX7_giveSet_67 (by decide) (fun c67 => ?_) (fun c67 => ?_)
        · have hw := hw.1 c67
          refine tJ_X7_giveSet_74 C0 hK hv (hk75 := ?_) σ x1 x2 x3 x4 x5 hw _ _ hW hS _ hl
          · intro σ x1 x2 x3 x4 x5 t0 hw H locs hW hS ls hl
            refine tJ_X7_giveSet_75 C0 hK hv (hk21 := ih) σ x1 x2 x3 x4 x5 t0 hw _ _ hW hS _ hl
        · have hw := hw.2 c67
          refine lv_iconst (v := 1) hx hb dX7_giveSet_70 (by decide) ?_
          refine lv_goto (tgt := 75) hx hb dX7_giveSet_71 (by decide) ?_
          refine tJ_X7_giveSet_75 C0 hK hv (hk21 := ih) σ x1 x2 x3 x4 x5 1 hw _ _ hW hS _ hl
set_option maxHeartbeats 4000000 in
set_option maxRecDepth 100000 in
theorem c_X7_giveSet (l : Launch) (D : va_G) (cI cZ cG cL : ClassId) (ad : Nat → Nat) {v : Nat} (hv : v < 2) {σ : gk_C} {a0 : Int32} {a1 : Int32} {Q : gk_C → Prop} {sz : Nat} (hw : w_X7_giveSet v σ a0 a1 Q) : Met l yX7_giveSet wsX7_giveSet rmX7_giveSet (gk_Pc D cI cZ cG cL ad [.ref (ad (7 + v)), .int a0, .int a1] sz σ) (va_Qv (fun u => Q u) (gk_B D cI ad) (gk_A ad sz)) 0 0 (gk_A ad sz) := by
  refine Met.ofW (cc := cX7_giveSet) (maxL := 8) (ret := none) (by decide) rfl ?_
  intro p e s m args below meth c s₁ B hml0 hv0
  obtain ⟨rfl, hsz, hW, hK⟩ := hv0
  subst hsz
  have C0 : gk_F p s m ([.ref (ad (7 + v)), .int a0, .int a1] : List Value).toArray meth c cX7_giveSet 8 none RX7 := ⟨B.exec, B.bytes, hml0, findClass_of_methodNamed B.named, fun w hw => atoms_spec (ws := wsX7_giveSet) B.pre w (List.mem_cons_of_mem _ hw), B.returns, B.notSynchronized⟩
  obtain ⟨hx, hb, hml, hown, hts, hr, hlocks⟩ := id C0
  have hS : va_S (gk_A ad s.heap.size) s.heap s.heap [] := va_S.rf
  have hl := lv_entry ([.ref (ad (7 + v)), .int a0, .int a1]) (n := 8) (Nat.le_of_ble_eq_true rfl)
  rw [lg_entry_eq]
  generalize (lg_sl ([.ref (ad (7 + v)), .int a0, .int a1]) ++ List.replicate (8 - (lg_sl ([.ref (ad (7 + v)), .int a0, .int a1])).length) Slot.unset).toArray = ls at hl ⊢
  have hl : lv_has ls 8 [(0, .ref (ad (7 + v))), (1, .int a0), (2, .int a1)] := hl
  show W p l e rmX7_giveSet s m _ below meth c s.heap [] 0 0 _ _
  refine lv_aload_n hx hb dX7_giveSet_0 rfl (lv_at hl 0 rfl) ?_
  refine gk_get hx hb hts iwX7 hown hK.1 (gk_ov hW (v := v) hv) rfl 0 (by decide) (hts _ fl_X7_35) (fun _ h9 => h9) rfl dX7_giveSet_1 ?_
  refine gk_getN hx hb hts iwX4 hown hK.1 (gk_o1 hW) rfl 0 (by decide) (gk_nw hK nf_X7_50) (fun _ h9 => h9) rfl dX7_giveSet_4 ?_
  refine gk_getN hx hb hts iwX6 hown hK.1 (gk_o2 hW) rfl 2 (by decide) (gk_nw hK nf_X7_139) (fun _ h9 => h9) rfl dX7_giveSet_7 ?_
  refine lv_iload_n hx hb dX7_giveSet_10 rfl (lv_at hl 1 rfl) ?_
  refine gk_callRi ⟨hx, hb, hml, hown, hts⟩ (c_X2_at l D cI cZ cG cL ad (σ := σ) (r := 1) (i := a0) (by decide)) (cwV 1 hts (gk_gV ml_X7_64 im_X2_at se_X2_at in_X2 co_X2_at) rfl rfl rfl (by decide +kernel) ⟨Nat.le_of_ble_eq_true rfl, Nat.le_of_ble_eq_true rfl⟩) (gk_recv hK.1 (gk_or hW (r := 1) (by decide)) rfl) hW hK hS rfl hl.1 (rest := []) rfl (lv_room (Nat.le_of_ble_eq_true rfl)) dX7_giveSet_11 ⟨Nat.zero_le _, Nat.zero_le _⟩ (fun r11 H locs hq hW _ hS => ?_)
  obtain rfl := hq
  refine lv_istore_n (lv' := [(3, .int (gk_at σ 1 a0)), (0, .ref (ad (7 + v))), (1, .int a0), (2, .int a1)]) hx hb dX7_giveSet_14 rfl hl (by decide) rfl (fun ls hl => ?_)
  refine lv_iconst (v := 0) hx hb dX7_giveSet_15 (by decide) ?_
  refine lv_istore (lv' := [(4, .int 0), (3, .int (gk_at σ 1 a0)), (0, .ref (ad (7 + v))), (1, .int a0), (2, .int a1)]) hx hb dX7_giveSet_16 hl (by decide) rfl (fun ls hl => ?_)
  refine lv_iconst (v := 0) hx hb dX7_giveSet_18 (by decide) ?_
  refine lv_istore (lv' := [(5, .int 0), (4, .int 0), (3, .int (gk_at σ 1 a0)), (0, .ref (ad (7 + v))), (1, .int a0), (2, .int a1)]) hx hb dX7_giveSet_19 hl (by decide) rfl (fun ls hl => ?_)
  obtain ⟨n21, hw⟩ := hw
  refine tL_X7_giveSet_21 C0 hK hv (hk138 := ?_) n21 σ a0 a1 (gk_at σ 1 a0) 0 0 hw _ _ hW hS _ (lv_sub hl [3, 4, 5, 2, 1, 0] rfl)
  · intro σ x1 x4 hw H locs hW hS ls hl
    refine lv_aload_n hx hb dX7_giveSet_138 rfl (lv_at hl 0 rfl) ?_
    refine gk_get hx hb hts iwX7 hown hK.1 (gk_ov hW (v := v) hv) rfl 3 (by decide) (hts _ fl_X7_23) (fun _ h9 => h9) rfl dX7_giveSet_139 ?_
    refine lv_iload_n hx hb dX7_giveSet_142 rfl (lv_at hl 1 rfl) ?_
    refine lv_iload hx hb dX7_giveSet_143 (lv_at hl 2 rfl) ?_
    refine gk_callVv ⟨hx, hb, hml, hown, hts⟩ (c_X2_put l D cI cZ cG cL ad (σ := σ) (r := (28 + 6 * v)) (i := x1) (x := x4) (by omega)) (cwV 2 hts (gk_gV ml_X7_110 im_X2_put se_X2_put in_X2 co_X2_put) rfl rfl rfl (by decide +kernel) ⟨Nat.le_of_ble_eq_true rfl, Nat.le_of_ble_eq_true rfl⟩) (gk_recv hK.1 (gk_or hW (r := (28 + 6 * v)) (by omega)) rfl) hW hK hS rfl hl.1 (rest := []) rfl (lv_room (Nat.le_of_ble_eq_true rfl)) dX7_giveSet_145 ⟨Nat.zero_le _, Nat.zero_le _⟩ (fun u H locs hq hW _ hS => ?_)
    rw [hq] at hW
    exact gk_retv C0 hw hW hS dX7_giveSet_148
def w_X7_isByRight (v : Nat) (σ : gk_C) (a0 : Int32) (Q : Int32 → Prop) : Prop := (w_X7_ruled v σ (gk_at σ 20 a0) (gk_at σ 22 a0) (gk_at σ 23 a0) (fun r47 => ((¬ r47 = 1) → (Q 0)) ∧ ((r47 = 1) → (w_X7_ruled v σ (gk_at σ 20 a0) 4 (gk_at σ 23 a0) (fun r58 => ((¬ r58 = 1) → (Q 0)) ∧ ((r58 = 1) → (Q 1)))))))
abbrev rmX7_isByRight : Room := { frames := 3, cells := 0, slots := 0, locals := 71 }
set_option maxHeartbeats 4000000 in
set_option maxRecDepth 100000 in
theorem c_X7_isByRight (l : Launch) (D : va_G) (cI cZ cG cL : ClassId) (ad : Nat → Nat) {v : Nat} (hv : v < 2) {σ : gk_C} {a0 : Int32} {Q : Int32 → Prop} {sz : Nat} (hw : w_X7_isByRight v σ a0 Q) : Met l yX7_isByRight wsX7_isByRight rmX7_isByRight (gk_Pc D cI cZ cG cL ad [.ref (ad (7 + v)), .int a0] sz σ) (va_Qi (fun r u => u = σ ∧ Q r) (gk_B D cI ad) (gk_A ad sz)) 0 0 (gk_A ad sz) := by
  refine Met.ofW (cc := cX7_isByRight) (maxL := 4) (ret := (some .boolean)) (by decide) rfl ?_
  intro p e s m args below meth c s₁ B hml0 hv0
  obtain ⟨rfl, hsz, hW, hK⟩ := hv0
  subst hsz
  have C0 : gk_F p s m ([.ref (ad (7 + v)), .int a0] : List Value).toArray meth c cX7_isByRight 4 (some .boolean) RX7 := ⟨B.exec, B.bytes, hml0, findClass_of_methodNamed B.named, fun w hw => atoms_spec (ws := wsX7_isByRight) B.pre w (List.mem_cons_of_mem _ hw), B.returns, B.notSynchronized⟩
  obtain ⟨hx, hb, hml, hown, hts, hr, hlocks⟩ := id C0
  have hS : va_S (gk_A ad s.heap.size) s.heap s.heap [] := va_S.rf
  have hl := lv_entry ([.ref (ad (7 + v)), .int a0]) (n := 4) (Nat.le_of_ble_eq_true rfl)
  rw [lg_entry_eq]
  generalize (lg_sl ([.ref (ad (7 + v)), .int a0]) ++ List.replicate (4 - (lg_sl ([.ref (ad (7 + v)), .int a0])).length) Slot.unset).toArray = ls at hl ⊢
  have hl : lv_has ls 4 [(0, .ref (ad (7 + v))), (1, .int a0)] := hl
  show W p l e rmX7_isByRight s m _ below meth c s.heap [] 0 0 _ _
  refine lv_aload_n hx hb dX7_isByRight_0 rfl (lv_at hl 0 rfl) ?_
  refine gk_get hx hb hts iwX7 hown hK.1 (gk_ov hW (v := v) hv) rfl 0 (by decide) (hts _ fl_X7_35) (fun _ h9 => h9) rfl dX7_isByRight_1 ?_
  refine gk_getN hx hb hts iwX4 hown hK.1 (gk_o1 hW) rfl 4 (by decide) (gk_nw hK nf_X7_171) (fun _ h9 => h9) rfl dX7_isByRight_4 ?_
  refine gk_getN hx hb hts iwX0 hown hK.1 (gk_o6 hW) rfl 1 (by decide) (gk_nw hK nf_X7_188) (fun _ h9 => h9) rfl dX7_isByRight_7 ?_
  refine lv_iload_n hx hb dX7_isByRight_10 rfl (lv_at hl 1 rfl) ?_
  refine gk_callRi ⟨hx, hb, hml, hown, hts⟩ (c_X2_at l D cI cZ cG cL ad (σ := σ) (r := 20) (i := a0) (by decide)) (cwV 1 hts (gk_gV ml_X7_64 im_X2_at se_X2_at in_X2 co_X2_at) rfl rfl rfl (by decide +kernel) ⟨Nat.le_of_ble_eq_true rfl, Nat.le_of_ble_eq_true rfl⟩) (gk_recv hK.1 (gk_or hW (r := 20) (by decide)) rfl) hW hK hS rfl hl.1 (rest := []) rfl (lv_room (Nat.le_of_ble_eq_true rfl)) dX7_isByRight_11 ⟨Nat.zero_le _, Nat.zero_le _⟩ (fun r11 H locs hq hW _ hS => ?_)
  obtain rfl := hq
  refine lv_istore_n (lv' := [(2, .int (gk_at σ 20 a0)), (0, .ref (ad (7 + v))), (1, .int a0)]) hx hb dX7_isByRight_14 rfl hl (by decide) rfl (fun ls hl => ?_)
  refine lv_aload_n hx hb dX7_isByRight_15 rfl (lv_at hl 1 rfl) ?_
  refine gk_get hx hb hts iwX7 hown hK.1 (gk_ov hW (v := v) hv) rfl 0 (by decide) (hts _ fl_X7_35) (fun _ h9 => h9) rfl dX7_isByRight_16 ?_
  refine gk_getN hx hb hts iwX4 hown hK.1 (gk_o1 hW) rfl 4 (by decide) (gk_nw hK nf_X7_171) (fun _ h9 => h9) rfl dX7_isByRight_19 ?_
  refine gk_getN hx hb hts iwX0 hown hK.1 (gk_o6 hW) rfl 4 (by decide) (gk_nw hK nf_X7_191) (fun _ h9 => h9) rfl dX7_isByRight_22 ?_
  refine lv_iload_n hx hb dX7_isByRight_25 rfl (lv_at hl 2 rfl) ?_
  refine gk_callRi ⟨hx, hb, hml, hown, hts⟩ (c_X2_at l D cI cZ cG cL ad (σ := σ) (r := 23) (i := a0) (by decide)) (cwV 1 hts (gk_gV ml_X7_64 im_X2_at se_X2_at in_X2 co_X2_at) rfl rfl rfl (by decide +kernel) ⟨Nat.le_of_ble_eq_true rfl, Nat.le_of_ble_eq_true rfl⟩) (gk_recv hK.1 (gk_or hW (r := 23) (by decide)) rfl) hW hK hS rfl hl.1 (rest := []) rfl (lv_room (Nat.le_of_ble_eq_true rfl)) dX7_isByRight_26 ⟨Nat.zero_le _, Nat.zero_le _⟩ (fun r26 H locs hq hW _ hS => ?_)
  obtain rfl := hq
  refine lv_istore_n (lv' := [(3, .int (gk_at σ 23 a0)), (2, .int (gk_at σ 20 a0)), (0, .ref (ad (7 + v))), (1, .int a0)]) hx hb dX7_isByRight_29 rfl hl (by decide) rfl (fun ls hl => ?_)
  refine lv_aload_n hx hb dX7_isByRight_30 rfl (lv_at hl 2 rfl) ?_
  refine lv_iload_n hx hb dX7_isByRight_31 rfl (lv_at hl 1 rfl) ?_
  refine lv_aload_n hx hb dX7_isByRight_32 rfl (lv_at hl 2 rfl) ?_
  refine gk_get hx hb hts iwX7 hown hK.1 (gk_ov hW (v := v) hv) rfl 0 (by decide) (hts _ fl_X7_35) (fun _ h9 => h9) rfl dX7_isByRight_33 ?_
  refine gk_getN hx hb hts iwX4 hown hK.1 (gk_o1 hW) rfl 4 (by decide) (gk_nw hK nf_X7_171) (fun _ h9 => h9) rfl dX7_isByRight_36 ?_
  refine gk_getN hx hb hts iwX0 hown hK.1 (gk_o6 hW) rfl 3 (by decide) (gk_nw hK nf_X7_192) (fun _ h9 => h9) rfl dX7_isByRight_39 ?_
  refine lv_iload_n hx hb dX7_isByRight_42 rfl (lv_at hl 3 rfl) ?_
  refine gk_callRi ⟨hx, hb, hml, hown, hts⟩ (c_X2_at l D cI cZ cG cL ad (σ := σ) (r := 22) (i := a0) (by decide)) (cwV 1 hts (gk_gV ml_X7_64 im_X2_at se_X2_at in_X2 co_X2_at) rfl rfl rfl (by decide +kernel) ⟨Nat.le_of_ble_eq_true rfl, Nat.le_of_ble_eq_true rfl⟩) (gk_recv hK.1 (gk_or hW (r := 22) (by decide)) rfl) hW hK hS rfl hl.1 (rest := [.int (gk_at σ 20 a0), .ref (ad (7 + v))]) rfl (lv_room (Nat.le_of_ble_eq_true rfl)) dX7_isByRight_43 ⟨Nat.zero_le _, Nat.zero_le _⟩ (fun r43 H locs hq hW _ hS => ?_)
  obtain rfl := hq
  refine lv_iload_n hx hb dX7_isByRight_46 rfl (lv_at hl 0 rfl) ?_
  refine gk_callRi ⟨hx, hb, hml, hown, hts⟩ (c_X7_ruled l D cI cZ cG cL ad hv hw) (cwV 3 hts (gk_gV ml_X7_195 im_X7_ruled se_X7_ruled in_X7 co_X7_ruled) rfl rfl rfl (by decide +kernel) ⟨Nat.le_of_ble_eq_true rfl, Nat.le_of_ble_eq_true rfl⟩) (gk_recv hK.1 (gk_ov hW (v := v) hv) rfl) hW hK hS rfl hl.1 (rest := []) rfl (lv_room (Nat.le_of_ble_eq_true rfl)) dX7_isByRight_47 ⟨Nat.zero_le _, Nat.zero_le _⟩ (fun r47 H locs hw hW _ hS => ?_)
  refine lv_iconst (v := 1) hx hb dX7_isByRight_50 (by decide) ?_
  refine lv_icmp_ne (tgt := 69) hx hb dX7_isByRight_51 (by decide) (fun c51 => ?_) (fun c51 => ?_)
  · have hw := hw.1 c51
    refine lv_iconst (v := 0) hx hb dX7_isByRight_69 (by decide) ?_
    exact gk_retz C0 (by decide) ⟨rfl, hw⟩ hW hS dX7_isByRight_70
  · have hw := hw.2 c51
    refine lv_aload_n hx hb dX7_isByRight_54 rfl (lv_at hl 2 rfl) ?_
    refine lv_iload_n hx hb dX7_isByRight_55 rfl (lv_at hl 1 rfl) ?_
    refine lv_iconst (v := 4) hx hb dX7_isByRight_56 (by decide) ?_
    refine lv_iload_n hx hb dX7_isByRight_57 rfl (lv_at hl 0 rfl) ?_
    refine gk_callRi ⟨hx, hb, hml, hown, hts⟩ (c_X7_ruled l D cI cZ cG cL ad hv hw) (cwV 3 hts (gk_gV ml_X7_195 im_X7_ruled se_X7_ruled in_X7 co_X7_ruled) rfl rfl rfl (by decide +kernel) ⟨Nat.le_of_ble_eq_true rfl, Nat.le_of_ble_eq_true rfl⟩) (gk_recv hK.1 (gk_ov hW (v := v) hv) rfl) hW hK hS rfl hl.1 (rest := []) rfl (lv_room (Nat.le_of_ble_eq_true rfl)) dX7_isByRight_58 ⟨Nat.zero_le _, Nat.zero_le _⟩ (fun r58 H locs hw hW _ hS => ?_)
    refine lv_iconst (v := 1) hx hb dX7_isByRight_61 (by decide) ?_
    refine lv_icmp_ne (tgt := 69) hx hb dX7_isByRight_62 (by decide) (fun c62 => ?_) (fun c62 => ?_)
    · have hw := hw.1 c62
      refine lv_iconst (v := 0) hx hb dX7_isByRight_69 (by decide) ?_
      exact gk_retz C0 (by decide) ⟨rfl, hw⟩ hW hS dX7_isByRight_70
    · have hw := hw.2 c62
      refine lv_iconst (v := 1) hx hb dX7_isByRight_65 (by decide) ?_
      refine lv_goto (tgt := 70) hx hb dX7_isByRight_66 (by decide) ?_
      exact gk_retz C0 (by decide) ⟨rfl, hw⟩ hW hS dX7_isByRight_70
def wL_X7_isPassedOn_49 (v : Nat) (σ : gk_C) (Q : Int32 → Prop) : Nat → Int32 → Int32 → Int32 → Int32 → Int32 → Prop
  | 0 => fun _ _ _ _ _ => False
  | n + 1 => fun x1 x2 x3 x4 x5 => (((x1 ≤ x5) → (Q 0)) ∧ ((¬ x1 ≤ x5) → (w_X8_isIn (σ.2 (11 + 4 * v)) x5 (fun r61 => ((r61 = 0) → (wL_X7_isPassedOn_49 v σ Q n x1 x2 x3 x4 (x5 + 1))) ∧ ((¬ r61 = 0) → (w_X4_isGiven σ x5 x2 x3 x4 (fun r77 => ((r77 = 0) → (wL_X7_isPassedOn_49 v σ Q n x1 x2 x3 x4 (x5 + 1))) ∧ ((¬ r77 = 0) → ((((gk_at σ 24 x5) ≤ (gk_at σ 24 x1)) → (wL_X7_isPassedOn_49 v σ Q n x1 x2 x3 x4 (x5 + 1))) ∧ ((¬ (gk_at σ 24 x5) ≤ (gk_at σ 24 x1)) → (Q 1)))))))))))
def w_X7_isPassedOn (v : Nat) (σ : gk_C) (a0 : Int32) (Q : Int32 → Prop) : Prop := (∃ n49, wL_X7_isPassedOn_49 v σ Q n49 a0 (gk_at σ 20 a0) (gk_at σ 22 a0) (gk_at σ 23 a0) 0)
abbrev rmX7_isPassedOn : Room := { frames := 3, cells := 0, slots := 0, locals := 67 }
set_option maxHeartbeats 4000000 in
set_option maxRecDepth 100000 in
theorem tL_X7_isPassedOn_49 {p : Program} {l : Launch} {e : Env} {s : State} {m : MethodId} {args : Array Value} {below : List Frame} {meth : Method} {c : Code} {D : va_G} {cI cZ cG cL : ClassId} {ad : Nat → Nat} (C0 : gk_F p s m args meth c cX7_isPassedOn 6 (some .boolean) RX7) (hK : gk_K D cI cZ cG cL s) {v : Nat} (hv : v < 2) {σ : gk_C} {Q : Int32 → Prop} : ∀ (n : Nat) (x1 : Int32) (x2 : Int32) (x3 : Int32) (x4 : Int32) (x5 : Int32), wL_X7_isPassedOn_49 v σ Q n x1 x2 x3 x4 x5 → ∀ (H : Heap) (locs : List Loc), gk_W D cI ad σ H → va_S (gk_A ad s.heap.size) s.heap H locs → ∀ (ls : Array Slot), lv_has ls 6 [(0, .ref (ad (7 + v))), (1, .int x1), (2, .int x2), (3, .int x3), (4, .int x4), (5, .int x5)] → W p l e rmX7_isPassedOn s m args below meth c H locs 0 0 (MQ below (va_Qi (fun r u => u = σ ∧ Q r) (gk_B D cI ad) (gk_A ad s.heap.size)) args s 0 0 (gk_A ad s.heap.size)) (F0 m 49 ls []) := by
  obtain ⟨hx, hb, hml, hown, hts, hr, hlocks⟩ := id C0
  intro n
  induction n with
  | zero => exact fun _ _ _ _ _ hw => False.elim hw
  | succ n ih =>
    intro x1 x2 x3 x4 x5 hw H locs hW hS ls hl
    refine lv_iload hx hb dX7_isPassedOn_49 (lv_at hl 5 rfl) ?_
    refine lv_iload_n hx hb dX7_isPassedOn_51 rfl (lv_at hl 1 rfl) ?_
    refine lv_icmp_ge (tgt := 123) hx hb dX7_isPassedOn_52 (by decide) (fun c52 => ?_) (fun c52 => ?_)
    · have hw := hw.1 c52
      refine lv_iconst (v := 0) hx hb dX7_isPassedOn_123 (by decide) ?_
      exact gk_retz C0 (by decide) ⟨rfl, hw⟩ hW hS dX7_isPassedOn_124
    · have hw := hw.2 c52
      refine lv_aload_n hx hb dX7_isPassedOn_55 rfl (lv_at hl 0 rfl) ?_
      refine gk_get hx hb hts iwX7 hown hK.1 (gk_ov hW (v := v) hv) rfl 10 (by decide) (hts _ fl_X7_168) (fun _ h9 => h9) rfl dX7_isPassedOn_56 ?_
      refine lv_iload hx hb dX7_isPassedOn_59 (lv_at hl 5 rfl) ?_
      refine gk_callSNi ⟨hx, hb, hml, hown, hts⟩ (c_X8_isIn l hw) ⟨va_cnB 2 hts (gk_gI co_X8_isIn) rfl rfl rfl (gk_nw hK nm_X7_94) (hts _ in_X8) (by decide +kernel) ⟨Nat.le_of_ble_eq_true rfl, Nat.le_of_ble_eq_true rfl⟩, hts _ st_X8_isIn, trivial⟩ hS rfl hl.1 (rest := []) rfl (lv_room (Nat.le_of_ble_eq_true rfl)) dX7_isPassedOn_61 ⟨Nat.zero_le _, Nat.zero_le _⟩ (fun r61 H locs hw _ hk hS => ?_)
      have hW := hW.kept (fun k hk9 => hk _ (hW.lt hk9))
      refine lv_if_eq (tgt := 117) hx hb dX7_isPassedOn_64 (by decide) (fun c64 => ?_) (fun c64 => ?_)
      · have hw := hw.1 c64
        refine lv_iinc (v := (x5 + 1)) (lv' := [(5, .int (x5 + 1)), (0, .ref (ad (7 + v))), (1, .int x1), (2, .int x2), (3, .int x3), (4, .int x4)]) hx hb dX7_isPassedOn_117 hl (k := 5) rfl rfl (by decide) rfl (fun ls hl => ?_)
        refine lv_goto (tgt := 49) hx hb dX7_isPassedOn_120 (by decide) ?_
        exact ih x1 x2 x3 x4 (x5 + 1) hw _ _ hW hS _ (lv_sub hl [1, 2, 3, 4, 5, 0] rfl)
      · have hw := hw.2 c64
        refine lv_aload_n hx hb dX7_isPassedOn_67 rfl (lv_at hl 0 rfl) ?_
        refine gk_get hx hb hts iwX7 hown hK.1 (gk_ov hW (v := v) hv) rfl 0 (by decide) (hts _ fl_X7_35) (fun _ h9 => h9) rfl dX7_isPassedOn_68 ?_
        refine lv_iload hx hb dX7_isPassedOn_71 (lv_at hl 5 rfl) ?_
        refine lv_iload_n hx hb dX7_isPassedOn_73 rfl (lv_at hl 2 rfl) ?_
        refine lv_iload_n hx hb dX7_isPassedOn_74 rfl (lv_at hl 3 rfl) ?_
        refine lv_iload hx hb dX7_isPassedOn_75 (lv_at hl 4 rfl) ?_
        refine gk_callRi ⟨hx, hb, hml, hown, hts⟩ (c_X4_isGiven l D cI cZ cG cL ad hw) (cwV 4 hts (gk_gV ml_X7_198 im_X4_isGiven se_X4_isGiven in_X4 co_X4_isGiven) rfl rfl rfl (by decide +kernel) ⟨Nat.le_of_ble_eq_true rfl, Nat.le_of_ble_eq_true rfl⟩) (gk_recv hK.1 (gk_o1 hW) rfl) hW hK hS rfl hl.1 (rest := []) rfl (lv_room (Nat.le_of_ble_eq_true rfl)) dX7_isPassedOn_77 ⟨Nat.zero_le _, Nat.zero_le _⟩ (fun r77 H locs hw hW _ hS => ?_)
        refine lv_if_eq (tgt := 117) hx hb dX7_isPassedOn_80 (by decide) (fun c80 => ?_) (fun c80 => ?_)
        · have hw := hw.1 c80
          refine lv_iinc (v := (x5 + 1)) (lv' := [(5, .int (x5 + 1)), (0, .ref (ad (7 + v))), (1, .int x1), (2, .int x2), (3, .int x3), (4, .int x4)]) hx hb dX7_isPassedOn_117 hl (k := 5) rfl rfl (by decide) rfl (fun ls hl => ?_)
          refine lv_goto (tgt := 49) hx hb dX7_isPassedOn_120 (by decide) ?_
          exact ih x1 x2 x3 x4 (x5 + 1) hw _ _ hW hS _ (lv_sub hl [1, 2, 3, 4, 5, 0] rfl)
        · have hw := hw.2 c80
          refine lv_aload_n hx hb dX7_isPassedOn_83 rfl (lv_at hl 0 rfl) ?_
          refine gk_get hx hb hts iwX7 hown hK.1 (gk_ov hW (v := v) hv) rfl 0 (by decide) (hts _ fl_X7_35) (fun _ h9 => h9) rfl dX7_isPassedOn_84 ?_
          refine gk_getN hx hb hts iwX4 hown hK.1 (gk_o1 hW) rfl 4 (by decide) (gk_nw hK nf_X7_171) (fun _ h9 => h9) rfl dX7_isPassedOn_87 ?_
          refine gk_getN hx hb hts iwX0 hown hK.1 (gk_o6 hW) rfl 5 (by decide) (gk_nw hK nf_X7_202) (fun _ h9 => h9) rfl dX7_isPassedOn_90 ?_
          refine lv_iload hx hb dX7_isPassedOn_93 (lv_at hl 5 rfl) ?_
          refine gk_callRi ⟨hx, hb, hml, hown, hts⟩ (c_X2_at l D cI cZ cG cL ad (σ := σ) (r := 24) (i := x5) (by decide)) (cwV 1 hts (gk_gV ml_X7_64 im_X2_at se_X2_at in_X2 co_X2_at) rfl rfl rfl (by decide +kernel) ⟨Nat.le_of_ble_eq_true rfl, Nat.le_of_ble_eq_true rfl⟩) (gk_recv hK.1 (gk_or hW (r := 24) (by decide)) rfl) hW hK hS rfl hl.1 (rest := []) rfl (lv_room (Nat.le_of_ble_eq_true rfl)) dX7_isPassedOn_95 ⟨Nat.zero_le _, Nat.zero_le _⟩ (fun r95 H locs hq hW _ hS => ?_)
          obtain rfl := hq
          refine lv_aload_n hx hb dX7_isPassedOn_98 rfl (lv_at hl 0 rfl) ?_
          refine gk_get hx hb hts iwX7 hown hK.1 (gk_ov hW (v := v) hv) rfl 0 (by decide) (hts _ fl_X7_35) (fun _ h9 => h9) rfl dX7_isPassedOn_99 ?_
          refine gk_getN hx hb hts iwX4 hown hK.1 (gk_o1 hW) rfl 4 (by decide) (gk_nw hK nf_X7_171) (fun _ h9 => h9) rfl dX7_isPassedOn_102 ?_
          refine gk_getN hx hb hts iwX0 hown hK.1 (gk_o6 hW) rfl 5 (by decide) (gk_nw hK nf_X7_202) (fun _ h9 => h9) rfl dX7_isPassedOn_105 ?_
          refine lv_iload_n hx hb dX7_isPassedOn_108 rfl (lv_at hl 1 rfl) ?_
          refine gk_callRi ⟨hx, hb, hml, hown, hts⟩ (c_X2_at l D cI cZ cG cL ad (σ := σ) (r := 24) (i := x1) (by decide)) (cwV 1 hts (gk_gV ml_X7_64 im_X2_at se_X2_at in_X2 co_X2_at) rfl rfl rfl (by decide +kernel) ⟨Nat.le_of_ble_eq_true rfl, Nat.le_of_ble_eq_true rfl⟩) (gk_recv hK.1 (gk_or hW (r := 24) (by decide)) rfl) hW hK hS rfl hl.1 (rest := [.int (gk_at σ 24 x5)]) rfl (lv_room (Nat.le_of_ble_eq_true rfl)) dX7_isPassedOn_109 ⟨Nat.zero_le _, Nat.zero_le _⟩ (fun r109 H locs hq hW _ hS => ?_)
          obtain rfl := hq
          refine lv_icmp_le (tgt := 117) hx hb dX7_isPassedOn_112 (by decide) (fun c112 => ?_) (fun c112 => ?_)
          · have hw := hw.1 c112
            refine lv_iinc (v := (x5 + 1)) (lv' := [(5, .int (x5 + 1)), (0, .ref (ad (7 + v))), (1, .int x1), (2, .int x2), (3, .int x3), (4, .int x4)]) hx hb dX7_isPassedOn_117 hl (k := 5) rfl rfl (by decide) rfl (fun ls hl => ?_)
            refine lv_goto (tgt := 49) hx hb dX7_isPassedOn_120 (by decide) ?_
            exact ih x1 x2 x3 x4 (x5 + 1) hw _ _ hW hS _ (lv_sub hl [1, 2, 3, 4, 5, 0] rfl)
          · have hw := hw.2 c112
            refine lv_iconst (v := 1) hx hb dX7_isPassedOn_115 (by decide) ?_
            exact gk_retz C0 (by decide) ⟨rfl, hw⟩ hW hS dX7_isPassedOn_116
set_option maxHeartbeats 4000000 in
set_option maxRecDepth 100000 in
theorem c_X7_isPassedOn (l : Launch) (D : va_G) (cI cZ cG cL : ClassId) (ad : Nat → Nat) {v : Nat} (hv : v < 2) {σ : gk_C} {a0 : Int32} {Q : Int32 → Prop} {sz : Nat} (hw : w_X7_isPassedOn v σ a0 Q) : Met l yX7_isPassedOn wsX7_isPassedOn rmX7_isPassedOn (gk_Pc D cI cZ cG cL ad [.ref (ad (7 + v)), .int a0] sz σ) (va_Qi (fun r u => u = σ ∧ Q r) (gk_B D cI ad) (gk_A ad sz)) 0 0 (gk_A ad sz) := by
  refine Met.ofW (cc := cX7_isPassedOn) (maxL := 6) (ret := (some .boolean)) (by decide) rfl ?_
  intro p e s m args below meth c s₁ B hml0 hv0
  obtain ⟨rfl, hsz, hW, hK⟩ := hv0
  subst hsz
  have C0 : gk_F p s m ([.ref (ad (7 + v)), .int a0] : List Value).toArray meth c cX7_isPassedOn 6 (some .boolean) RX7 := ⟨B.exec, B.bytes, hml0, findClass_of_methodNamed B.named, fun w hw => atoms_spec (ws := wsX7_isPassedOn) B.pre w (List.mem_cons_of_mem _ hw), B.returns, B.notSynchronized⟩
  obtain ⟨hx, hb, hml, hown, hts, hr, hlocks⟩ := id C0
  have hS : va_S (gk_A ad s.heap.size) s.heap s.heap [] := va_S.rf
  have hl := lv_entry ([.ref (ad (7 + v)), .int a0]) (n := 6) (Nat.le_of_ble_eq_true rfl)
  rw [lg_entry_eq]
  generalize (lg_sl ([.ref (ad (7 + v)), .int a0]) ++ List.replicate (6 - (lg_sl ([.ref (ad (7 + v)), .int a0])).length) Slot.unset).toArray = ls at hl ⊢
  have hl : lv_has ls 6 [(0, .ref (ad (7 + v))), (1, .int a0)] := hl
  show W p l e rmX7_isPassedOn s m _ below meth c s.heap [] 0 0 _ _
  refine lv_aload_n hx hb dX7_isPassedOn_0 rfl (lv_at hl 0 rfl) ?_
  refine gk_get hx hb hts iwX7 hown hK.1 (gk_ov hW (v := v) hv) rfl 0 (by decide) (hts _ fl_X7_35) (fun _ h9 => h9) rfl dX7_isPassedOn_1 ?_
  refine gk_getN hx hb hts iwX4 hown hK.1 (gk_o1 hW) rfl 4 (by decide) (gk_nw hK nf_X7_171) (fun _ h9 => h9) rfl dX7_isPassedOn_4 ?_
  refine gk_getN hx hb hts iwX0 hown hK.1 (gk_o6 hW) rfl 1 (by decide) (gk_nw hK nf_X7_188) (fun _ h9 => h9) rfl dX7_isPassedOn_7 ?_
  refine lv_iload_n hx hb dX7_isPassedOn_10 rfl (lv_at hl 1 rfl) ?_
  refine gk_callRi ⟨hx, hb, hml, hown, hts⟩ (c_X2_at l D cI cZ cG cL ad (σ := σ) (r := 20) (i := a0) (by decide)) (cwV 1 hts (gk_gV ml_X7_64 im_X2_at se_X2_at in_X2 co_X2_at) rfl rfl rfl (by decide +kernel) ⟨Nat.le_of_ble_eq_true rfl, Nat.le_of_ble_eq_true rfl⟩) (gk_recv hK.1 (gk_or hW (r := 20) (by decide)) rfl) hW hK hS rfl hl.1 (rest := []) rfl (lv_room (Nat.le_of_ble_eq_true rfl)) dX7_isPassedOn_11 ⟨Nat.zero_le _, Nat.zero_le _⟩ (fun r11 H locs hq hW _ hS => ?_)
  obtain rfl := hq
  refine lv_istore_n (lv' := [(2, .int (gk_at σ 20 a0)), (0, .ref (ad (7 + v))), (1, .int a0)]) hx hb dX7_isPassedOn_14 rfl hl (by decide) rfl (fun ls hl => ?_)
  refine lv_aload_n hx hb dX7_isPassedOn_15 rfl (lv_at hl 1 rfl) ?_
  refine gk_get hx hb hts iwX7 hown hK.1 (gk_ov hW (v := v) hv) rfl 0 (by decide) (hts _ fl_X7_35) (fun _ h9 => h9) rfl dX7_isPassedOn_16 ?_
  refine gk_getN hx hb hts iwX4 hown hK.1 (gk_o1 hW) rfl 4 (by decide) (gk_nw hK nf_X7_171) (fun _ h9 => h9) rfl dX7_isPassedOn_19 ?_
  refine gk_getN hx hb hts iwX0 hown hK.1 (gk_o6 hW) rfl 3 (by decide) (gk_nw hK nf_X7_192) (fun _ h9 => h9) rfl dX7_isPassedOn_22 ?_
  refine lv_iload_n hx hb dX7_isPassedOn_25 rfl (lv_at hl 2 rfl) ?_
  refine gk_callRi ⟨hx, hb, hml, hown, hts⟩ (c_X2_at l D cI cZ cG cL ad (σ := σ) (r := 22) (i := a0) (by decide)) (cwV 1 hts (gk_gV ml_X7_64 im_X2_at se_X2_at in_X2 co_X2_at) rfl rfl rfl (by decide +kernel) ⟨Nat.le_of_ble_eq_true rfl, Nat.le_of_ble_eq_true rfl⟩) (gk_recv hK.1 (gk_or hW (r := 22) (by decide)) rfl) hW hK hS rfl hl.1 (rest := []) rfl (lv_room (Nat.le_of_ble_eq_true rfl)) dX7_isPassedOn_26 ⟨Nat.zero_le _, Nat.zero_le _⟩ (fun r26 H locs hq hW _ hS => ?_)
  obtain rfl := hq
  refine lv_istore_n (lv' := [(3, .int (gk_at σ 22 a0)), (2, .int (gk_at σ 20 a0)), (0, .ref (ad (7 + v))), (1, .int a0)]) hx hb dX7_isPassedOn_29 rfl hl (by decide) rfl (fun ls hl => ?_)
  refine lv_aload_n hx hb dX7_isPassedOn_30 rfl (lv_at hl 2 rfl) ?_
  refine gk_get hx hb hts iwX7 hown hK.1 (gk_ov hW (v := v) hv) rfl 0 (by decide) (hts _ fl_X7_35) (fun _ h9 => h9) rfl dX7_isPassedOn_31 ?_
  refine gk_getN hx hb hts iwX4 hown hK.1 (gk_o1 hW) rfl 4 (by decide) (gk_nw hK nf_X7_171) (fun _ h9 => h9) rfl dX7_isPassedOn_34 ?_
  refine gk_getN hx hb hts iwX0 hown hK.1 (gk_o6 hW) rfl 4 (by decide) (gk_nw hK nf_X7_191) (fun _ h9 => h9) rfl dX7_isPassedOn_37 ?_
  refine lv_iload_n hx hb dX7_isPassedOn_40 rfl (lv_at hl 3 rfl) ?_
  refine gk_callRi ⟨hx, hb, hml, hown, hts⟩ (c_X2_at l D cI cZ cG cL ad (σ := σ) (r := 23) (i := a0) (by decide)) (cwV 1 hts (gk_gV ml_X7_64 im_X2_at se_X2_at in_X2 co_X2_at) rfl rfl rfl (by decide +kernel) ⟨Nat.le_of_ble_eq_true rfl, Nat.le_of_ble_eq_true rfl⟩) (gk_recv hK.1 (gk_or hW (r := 23) (by decide)) rfl) hW hK hS rfl hl.1 (rest := []) rfl (lv_room (Nat.le_of_ble_eq_true rfl)) dX7_isPassedOn_41 ⟨Nat.zero_le _, Nat.zero_le _⟩ (fun r41 H locs hq hW _ hS => ?_)
  obtain rfl := hq
  refine lv_istore (lv' := [(4, .int (gk_at σ 23 a0)), (3, .int (gk_at σ 22 a0)), (2, .int (gk_at σ 20 a0)), (0, .ref (ad (7 + v))), (1, .int a0)]) hx hb dX7_isPassedOn_44 hl (by decide) rfl (fun ls hl => ?_)
  refine lv_iconst (v := 0) hx hb dX7_isPassedOn_46 (by decide) ?_
  refine lv_istore (lv' := [(5, .int 0), (4, .int (gk_at σ 23 a0)), (3, .int (gk_at σ 22 a0)), (2, .int (gk_at σ 20 a0)), (0, .ref (ad (7 + v))), (1, .int a0)]) hx hb dX7_isPassedOn_47 hl (by decide) rfl (fun ls hl => ?_)
  obtain ⟨n49, hw⟩ := hw
  refine tL_X7_isPassedOn_49 C0 hK hv  n49 a0 (gk_at σ 20 a0) (gk_at σ 22 a0) (gk_at σ 23 a0) 0 hw _ _ hW hS _ (lv_sub hl [4, 5, 3, 2, 1, 0] rfl)
def wJ_X7_weighGrants_48 (v : Nat) (k7 : gk_C → Int32 → Prop) (σ : gk_C) (x1 : Int32) : Prop := (k7 (gk_s σ (11 + 4 * v) ((σ.2 (11 + 4 * v)) ||| (1 <<< (x1 &&& 31)))) (x1 + 1))
def wL_X7_weighGrants_7 (v : Nat) (Q : gk_C → Prop) : Nat → gk_C → Int32 → Prop
  | 0 => fun _ _ => False
  | n + 1 => fun σ x1 => ((((σ.2 5) ≤ x1) → (Q σ)) ∧ ((¬ (σ.2 5) ≤ x1) → (w_X4_isThere σ x1 (fun r26 => ((r26 = 0) → (wL_X7_weighGrants_7 v Q n σ (x1 + 1))) ∧ ((¬ r26 = 0) → (w_X7_isByRight v σ x1 (fun r34 => ((¬ r34 = 0) → (wJ_X7_weighGrants_48 v (fun σ x1 => wL_X7_weighGrants_7 v Q n σ x1) σ x1)) ∧ ((r34 = 0) → (w_X7_isPassedOn v σ x1 (fun r42 => ((r42 = 0) → (wL_X7_weighGrants_7 v Q n σ (x1 + 1))) ∧ ((¬ r42 = 0) → (wJ_X7_weighGrants_48 v (fun σ x1 => wL_X7_weighGrants_7 v Q n σ x1) σ x1))))))))))))
def w_X7_weighGrants (v : Nat) (σ : gk_C)  (Q : gk_C → Prop) : Prop := (∃ n7, wL_X7_weighGrants_7 v Q n7 (gk_s σ (11 + 4 * v) 0) 0)
abbrev rmX7_weighGrants : Room := { frames := 4, cells := 0, slots := 0, locals := 94 }
set_option maxHeartbeats 4000000 in
set_option maxRecDepth 100000 in
theorem tJ_X7_weighGrants_48 {p : Program} {l : Launch} {e : Env} {s : State} {m : MethodId} {args : Array Value} {below : List Frame} {meth : Method} {c : Code} {D : va_G} {cI cZ cG cL : ClassId} {ad : Nat → Nat} (C0 : gk_F p s m args meth c cX7_weighGrants 2 none RX7) (hK : gk_K D cI cZ cG cL s) {v : Nat} (hv : v < 2) {Q : gk_C → Prop} {k7 : gk_C → Int32 → Prop} (hk7 : ∀ (σ : gk_C) (x1 : Int32), k7 σ x1 → ∀ (H : Heap) (locs : List Loc), gk_W D cI ad σ H → va_S (gk_A ad s.heap.size) s.heap H locs → ∀ (ls : Array Slot), lv_has ls 2 [(0, .ref (ad (7 + v))), (1, .int x1)] → W p l e rmX7_weighGrants s m args below meth c H locs 0 0 (MQ below (va_Qv (fun u => Q u) (gk_B D cI ad) (gk_A ad s.heap.size)) args s 0 0 (gk_A ad s.heap.size)) (F0 m 7 ls [])) : ∀ (σ : gk_C) (x1 : Int32), wJ_X7_weighGrants_48 v k7 σ x1 → ∀ (H : Heap) (locs : List Loc), gk_W D cI ad σ H → va_S (gk_A ad s.heap.size) s.heap H locs → ∀ (ls : Array Slot), lv_has ls 2 [(0, .ref (ad (7 + v))), (1, .int x1)] → W p l e rmX7_weighGrants s m args below meth c H locs 0 0 (MQ below (va_Qv (fun u => Q u) (gk_B D cI ad) (gk_A ad s.heap.size)) args s 0 0 (gk_A ad s.heap.size)) (F0 m 48 ls []) := by
  obtain ⟨hx, hb, hml, hown, hts, hr, hlocks⟩ := id C0
  intro σ x1 hw H locs hW hS ls hl
  refine lv_aload_n hx hb dX7_weighGrants_48 rfl (lv_at hl 0 rfl) ?_
  refine lv_dup hx hb dX7_weighGrants_49 rfl ?_
  refine gk_get hx hb hts iwX7 hown hK.1 (gk_ov hW (v := v) hv) rfl 10 (by decide) (hts _ fl_X7_168) (fun _ h9 => h9) rfl dX7_weighGrants_50 ?_
  refine lv_iconst (v := 1) hx hb dX7_weighGrants_53 (by decide) ?_
  refine lv_iload_n hx hb dX7_weighGrants_54 rfl (lv_at hl 1 rfl) ?_
  refine lv_ishl hx hb dX7_weighGrants_55 ?_
  refine lv_ior hx hb dX7_weighGrants_56 ?_
  refine gk_putf (ty := .int) (v := .int ((σ.2 (11 + 4 * v)) ||| (1 <<< (x1 &&& 31)))) hx hb hts iwX7 tyX7 tyX7_ok nmX7 hown hK.1 hS (gk_A.in (by omega)) (gk_ov hW (v := v) hv) rfl 10 (by decide) (hts _ fl_X7_168) (fun _ h9 => h9) rfl (by decide +kernel) rfl rfl (Nat.le_of_ble_eq_true rfl) dX7_weighGrants_57 (fun H locs h1 _ oq hS => ?_)
  have hW := gk_pvgood hW (v := v) hv h1 oq
  refine lv_iinc (v := (x1 + 1)) (lv' := [(1, .int (x1 + 1)), (0, .ref (ad (7 + v)))]) hx hb dX7_weighGrants_60 hl (k := 1) rfl rfl (by decide) rfl (fun ls hl => ?_)
  refine lv_goto (tgt := 7) hx hb dX7_weighGrants_63 (by decide) ?_
  exact hk7 (gk_s σ (11 + 4 * v) ((σ.2 (11 + 4 * v)) ||| (1 <<< (x1 &&& 31)))) (x1 + 1) hw _ _ hW hS _ (lv_sub hl [1, 0] rfl)
set_option maxHeartbeats 4000000 in
set_option maxRecDepth 100000 in
theorem tL_X7_weighGrants_7 {p : Program} {l : Launch} {e : Env} {s : State} {m : MethodId} {args : Array Value} {below : List Frame} {meth : Method} {c : Code} {D : va_G} {cI cZ cG cL : ClassId} {ad : Nat → Nat} (C0 : gk_F p s m args meth c cX7_weighGrants 2 none RX7) (hK : gk_K D cI cZ cG cL s) {v : Nat} (hv : v < 2) {Q : gk_C → Prop} : ∀ (n : Nat) (σ : gk_C) (x1 : Int32), wL_X7_weighGrants_7 v Q n σ x1 → ∀ (H : Heap) (locs : List Loc), gk_W D cI ad σ H → va_S (gk_A ad s.heap.size) s.heap H locs → ∀ (ls : Array Slot), lv_has ls 2 [(0, .ref (ad (7 + v))), (1, .int x1)] → W p l e rmX7_weighGrants s m args below meth c H locs 0 0 (MQ below (va_Qv (fun u => Q u) (gk_B D cI ad) (gk_A ad s.heap.size)) args s 0 0 (gk_A ad s.heap.size)) (F0 m 7 ls []) := by
  obtain ⟨hx, hb, hml, hown, hts, hr, hlocks⟩ := id C0
  intro n
  induction n with
  | zero => exact fun _ _ hw => False.elim hw
  | succ n ih =>
    intro σ x1 hw H locs hW hS ls hl
    refine lv_iload_n hx hb dX7_weighGrants_7 rfl (lv_at hl 1 rfl) ?_
    refine lv_aload_n hx hb dX7_weighGrants_8 rfl (lv_at hl 0 rfl) ?_
    refine gk_get hx hb hts iwX7 hown hK.1 (gk_ov hW (v := v) hv) rfl 0 (by decide) (hts _ fl_X7_35) (fun _ h9 => h9) rfl dX7_weighGrants_9 ?_
    refine gk_getN hx hb hts iwX4 hown hK.1 (gk_o1 hW) rfl 4 (by decide) (gk_nw hK nf_X7_171) (fun _ h9 => h9) rfl dX7_weighGrants_12 ?_
    refine gk_getN hx hb hts iwX0 hown hK.1 (gk_o6 hW) rfl 0 (by decide) (gk_nw hK nf_X7_175) (fun _ h9 => h9) rfl dX7_weighGrants_15 ?_
    refine lv_icmp_ge (tgt := 66) hx hb dX7_weighGrants_18 (by decide) (fun c18 => ?_) (fun c18 => ?_)
    · have hw := hw.1 c18
      exact gk_retv C0 hw hW hS dX7_weighGrants_66
    · have hw := hw.2 c18
      refine lv_aload_n hx hb dX7_weighGrants_21 rfl (lv_at hl 0 rfl) ?_
      refine gk_get hx hb hts iwX7 hown hK.1 (gk_ov hW (v := v) hv) rfl 0 (by decide) (hts _ fl_X7_35) (fun _ h9 => h9) rfl dX7_weighGrants_22 ?_
      refine lv_iload_n hx hb dX7_weighGrants_25 rfl (lv_at hl 1 rfl) ?_
      refine gk_callRi ⟨hx, hb, hml, hown, hts⟩ (c_X4_isThere l D cI cZ cG cL ad hw) (cwV 1 hts (gk_gV ml_X7_178 im_X4_isThere se_X4_isThere in_X4 co_X4_isThere) rfl rfl rfl (by decide +kernel) ⟨Nat.le_of_ble_eq_true rfl, Nat.le_of_ble_eq_true rfl⟩) (gk_recv hK.1 (gk_o1 hW) rfl) hW hK hS rfl hl.1 (rest := []) rfl (lv_room (Nat.le_of_ble_eq_true rfl)) dX7_weighGrants_26 ⟨Nat.zero_le _, Nat.zero_le _⟩ (fun r26 H locs hw hW _ hS => ?_)
      refine lv_if_eq (tgt := 60) hx hb dX7_weighGrants_29 (by decide) (fun c29 => ?_) (fun c29 => ?_)
      · have hw := hw.1 c29
        refine lv_iinc (v := (x1 + 1)) (lv' := [(1, .int (x1 + 1)), (0, .ref (ad (7 + v)))]) hx hb dX7_weighGrants_60 hl (k := 1) rfl rfl (by decide) rfl (fun ls hl => ?_)
        refine lv_goto (tgt := 7) hx hb dX7_weighGrants_63 (by decide) ?_
        exact ih σ (x1 + 1) hw _ _ hW hS _ (lv_sub hl [1, 0] rfl)
      · have hw := hw.2 c29
        refine lv_aload_n hx hb dX7_weighGrants_32 rfl (lv_at hl 0 rfl) ?_
        refine lv_iload_n hx hb dX7_weighGrants_33 rfl (lv_at hl 1 rfl) ?_
        refine gk_callRi ⟨hx, hb, hml, hown, hts⟩ (c_X7_isByRight l D cI cZ cG cL ad hv hw) (cwV 1 hts (gk_gV ml_X7_182 im_X7_isByRight se_X7_isByRight in_X7 co_X7_isByRight) rfl rfl rfl (by decide +kernel) ⟨Nat.le_of_ble_eq_true rfl, Nat.le_of_ble_eq_true rfl⟩) (gk_recv hK.1 (gk_ov hW (v := v) hv) rfl) hW hK hS rfl hl.1 (rest := []) rfl (lv_room (Nat.le_of_ble_eq_true rfl)) dX7_weighGrants_34 ⟨Nat.zero_le _, Nat.zero_le _⟩ (fun r34 H locs hw hW _ hS => ?_)
        refine lv_if_ne (tgt := 48) hx hb dX7_weighGrants_37 (by decide) (fun c37 => ?_) (fun c37 => ?_)
        · have hw := hw.1 c37
          refine tJ_X7_weighGrants_48 C0 hK hv (hk7 := ih) σ x1 hw _ _ hW hS _ hl
        · have hw := hw.2 c37
          refine lv_aload_n hx hb dX7_weighGrants_40 rfl (lv_at hl 0 rfl) ?_
          refine lv_iload_n hx hb dX7_weighGrants_41 rfl (lv_at hl 1 rfl) ?_
          refine gk_callRi ⟨hx, hb, hml, hown, hts⟩ (c_X7_isPassedOn l D cI cZ cG cL ad hv hw) (cwV 1 hts (gk_gV ml_X7_185 im_X7_isPassedOn se_X7_isPassedOn in_X7 co_X7_isPassedOn) rfl rfl rfl (by decide +kernel) ⟨Nat.le_of_ble_eq_true rfl, Nat.le_of_ble_eq_true rfl⟩) (gk_recv hK.1 (gk_ov hW (v := v) hv) rfl) hW hK hS rfl hl.1 (rest := []) rfl (lv_room (Nat.le_of_ble_eq_true rfl)) dX7_weighGrants_42 ⟨Nat.zero_le _, Nat.zero_le _⟩ (fun r42 H locs hw hW _ hS => ?_)
          refine lv_if_eq (tgt := 60) hx hb dX7_weighGrants_45 (by decide) (fun c45 => ?_) (fun c45 => ?_)
          · have hw := hw.1 c45
            refine lv_iinc (v := (x1 + 1)) (lv' := [(1, .int (x1 + 1)), (0, .ref (ad (7 + v)))]) hx hb dX7_weighGrants_60 hl (k := 1) rfl rfl (by decide) rfl (fun ls hl => ?_)
            refine lv_goto (tgt := 7) hx hb dX7_weighGrants_63 (by decide) ?_
            exact ih σ (x1 + 1) hw _ _ hW hS _ (lv_sub hl [1, 0] rfl)
          · have hw := hw.2 c45
            refine tJ_X7_weighGrants_48 C0 hK hv (hk7 := ih) σ x1 hw _ _ hW hS _ hl
set_option maxHeartbeats 4000000 in
set_option maxRecDepth 100000 in
theorem c_X7_weighGrants (l : Launch) (D : va_G) (cI cZ cG cL : ClassId) (ad : Nat → Nat) {v : Nat} (hv : v < 2) {σ : gk_C} {Q : gk_C → Prop} {sz : Nat} (hw : w_X7_weighGrants v σ  Q) : Met l yX7_weighGrants wsX7_weighGrants rmX7_weighGrants (gk_Pc D cI cZ cG cL ad [.ref (ad (7 + v))] sz σ) (va_Qv (fun u => Q u) (gk_B D cI ad) (gk_A ad sz)) 0 0 (gk_A ad sz) := by
  refine Met.ofW (cc := cX7_weighGrants) (maxL := 2) (ret := none) (by decide) rfl ?_
  intro p e s m args below meth c s₁ B hml0 hv0
  obtain ⟨rfl, hsz, hW, hK⟩ := hv0
  subst hsz
  have C0 : gk_F p s m ([.ref (ad (7 + v))] : List Value).toArray meth c cX7_weighGrants 2 none RX7 := ⟨B.exec, B.bytes, hml0, findClass_of_methodNamed B.named, fun w hw => atoms_spec (ws := wsX7_weighGrants) B.pre w (List.mem_cons_of_mem _ hw), B.returns, B.notSynchronized⟩
  obtain ⟨hx, hb, hml, hown, hts, hr, hlocks⟩ := id C0
  have hS : va_S (gk_A ad s.heap.size) s.heap s.heap [] := va_S.rf
  have hl := lv_entry ([.ref (ad (7 + v))]) (n := 2) (Nat.le_of_ble_eq_true rfl)
  rw [lg_entry_eq]
  generalize (lg_sl ([.ref (ad (7 + v))]) ++ List.replicate (2 - (lg_sl ([.ref (ad (7 + v))])).length) Slot.unset).toArray = ls at hl ⊢
  have hl : lv_has ls 2 [(0, .ref (ad (7 + v)))] := hl
  show W p l e rmX7_weighGrants s m _ below meth c s.heap [] 0 0 _ _
  refine lv_aload_n hx hb dX7_weighGrants_0 rfl (lv_at hl 0 rfl) ?_
  refine lv_iconst (v := 0) hx hb dX7_weighGrants_1 (by decide) ?_
  refine gk_putf (ty := .int) (v := .int 0) hx hb hts iwX7 tyX7 tyX7_ok nmX7 hown hK.1 hS (gk_A.in (by omega)) (gk_ov hW (v := v) hv) rfl 10 (by decide) (hts _ fl_X7_168) (fun _ h9 => h9) rfl (by decide +kernel) rfl rfl (Nat.le_of_ble_eq_true rfl) dX7_weighGrants_2 (fun H locs h1 _ oq hS => ?_)
  have hW := gk_pvgood hW (v := v) hv h1 oq
  refine lv_iconst (v := 0) hx hb dX7_weighGrants_5 (by decide) ?_
  refine lv_istore_n (lv' := [(1, .int 0), (0, .ref (ad (7 + v)))]) hx hb dX7_weighGrants_6 rfl hl (by decide) rfl (fun ls hl => ?_)
  obtain ⟨n7, hw⟩ := hw
  refine tL_X7_weighGrants_7 C0 hK hv  n7 (gk_s σ (11 + 4 * v) 0) 0 hw _ _ hW hS _ (lv_sub hl [1, 0] rfl)
def wL_X7_lookWhere_6 (v : Nat) (k56 : gk_C → Int32 → Int32 → Prop) : Nat → gk_C → Int32 → Int32 → Int32 → Prop
  | 0 => fun _ _ _ _ => False
  | n + 1 => fun σ x1 x2 x3 => (((5 ≤ x3) → (k56 σ x1 x2)) ∧ ((¬ 5 ≤ x3) → (w_X8_isIn (gk_at σ 13 x1) x3 (fun r26 => ((r26 = 0) → (wL_X7_lookWhere_6 v k56 n σ x1 x2 (x3 + 1))) ∧ ((¬ r26 = 0) → (wL_X7_lookWhere_6 v k56 n (gk_put σ (26 + 6 * v) x3 ((gk_at σ (26 + 6 * v) x3) ||| x2)) x1 x2 (x3 + 1)))))))
def wJ_X7_lookWhere_141 (v : Nat) (k99 : gk_C → Int32 → Int32 → Int32 → Int32 → Prop) (σ : gk_C) (x2 : Int32) (x3 : Int32) (x4 : Int32) (x5 : Int32) : Prop := (k99 (gk_put σ (27 + 6 * v) x5 ((gk_at σ (27 + 6 * v) x5) ||| x2)) x2 x3 x4 (x5 + 1))
def wL_X7_lookWhere_99 (v : Nat) (Q : gk_C → Prop) : Nat → gk_C → Int32 → Int32 → Int32 → Int32 → Prop
  | 0 => fun _ _ _ _ _ => False
  | n + 1 => fun σ x2 x3 x4 x5 => ((((σ.2 3) ≤ x5) → (Q σ)) ∧ ((¬ (σ.2 3) ≤ x5) → (((x5 = x3) → (wJ_X7_lookWhere_141 v (fun σ x2 x3 x4 x5 => wL_X7_lookWhere_99 v Q n σ x2 x3 x4 x5) σ x2 x3 x4 x5)) ∧ ((¬ x5 = x3) → (((x4 = 0) → (wL_X7_lookWhere_99 v Q n σ x2 x3 x4 (x5 + 1))) ∧ ((¬ x4 = 0) → (w_X5_isBeneath σ x5 x3 (fun r135 => ((r135 = 0) → (wL_X7_lookWhere_99 v Q n σ x2 x3 x4 (x5 + 1))) ∧ ((¬ r135 = 0) → (wJ_X7_lookWhere_141 v (fun σ x2 x3 x4 x5 => wL_X7_lookWhere_99 v Q n σ x2 x3 x4 x5) σ x2 x3 x4 x5))))))))))
def w_X7_lookWhere (v : Nat) (σ : gk_C) (a0 : Int32) (Q : gk_C → Prop) : Prop := (∃ n6, wL_X7_lookWhere_6 v (fun σ x1 x2 => (((¬ (gk_at σ 15 x1) = 1) → (∃ n99, wL_X7_lookWhere_99 v Q n99 σ x2 (gk_at σ 14 x1) 0 0)) ∧ (((gk_at σ 15 x1) = 1) → (∃ n99, wL_X7_lookWhere_99 v Q n99 σ x2 (gk_at σ 14 x1) 1 0)))) n6 σ a0 (1 <<< (a0 &&& 31)) 0)
abbrev rmX7_lookWhere : Room := { frames := 2, cells := 0, slots := 0, locals := 43 }
set_option maxHeartbeats 4000000 in
set_option maxRecDepth 100000 in
theorem tL_X7_lookWhere_6 {p : Program} {l : Launch} {e : Env} {s : State} {m : MethodId} {args : Array Value} {below : List Frame} {meth : Method} {c : Code} {D : va_G} {cI cZ cG cL : ClassId} {ad : Nat → Nat} (C0 : gk_F p s m args meth c cX7_lookWhere 6 none RX7) (hK : gk_K D cI cZ cG cL s) {v : Nat} (hv : v < 2) {Q : gk_C → Prop} {k56 : gk_C → Int32 → Int32 → Prop} (hk56 : ∀ (σ : gk_C) (x1 : Int32) (x2 : Int32), k56 σ x1 x2 → ∀ (H : Heap) (locs : List Loc), gk_W D cI ad σ H → va_S (gk_A ad s.heap.size) s.heap H locs → ∀ (ls : Array Slot), lv_has ls 6 [(0, .ref (ad (7 + v))), (1, .int x1), (2, .int x2)] → W p l e rmX7_lookWhere s m args below meth c H locs 0 0 (MQ below (va_Qv (fun u => Q u) (gk_B D cI ad) (gk_A ad s.heap.size)) args s 0 0 (gk_A ad s.heap.size)) (F0 m 56 ls [])) : ∀ (n : Nat) (σ : gk_C) (x1 : Int32) (x2 : Int32) (x3 : Int32), wL_X7_lookWhere_6 v k56 n σ x1 x2 x3 → ∀ (H : Heap) (locs : List Loc), gk_W D cI ad σ H → va_S (gk_A ad s.heap.size) s.heap H locs → ∀ (ls : Array Slot), lv_has ls 6 [(0, .ref (ad (7 + v))), (1, .int x1), (2, .int x2), (3, .int x3)] → W p l e rmX7_lookWhere s m args below meth c H locs 0 0 (MQ below (va_Qv (fun u => Q u) (gk_B D cI ad) (gk_A ad s.heap.size)) args s 0 0 (gk_A ad s.heap.size)) (F0 m 6 ls []) := by
  obtain ⟨hx, hb, hml, hown, hts, hr, hlocks⟩ := id C0
  intro n
  induction n with
  | zero => exact fun _ _ _ _ hw => False.elim hw
  | succ n ih =>
    intro σ x1 x2 x3 hw H locs hW hS ls hl
    refine lv_iload_n hx hb dX7_lookWhere_6 rfl (lv_at hl 3 rfl) ?_
    refine lv_iconst (v := 5) hx hb dX7_lookWhere_7 (by decide) ?_
    refine lv_icmp_ge (tgt := 56) hx hb dX7_lookWhere_8 (by decide) (fun c8 => ?_) (fun c8 => ?_)
    · have hw := hw.1 c8
      exact hk56 σ x1 x2 hw _ _ hW hS _ (lv_sub hl [0, 1, 2] rfl)
    · have hw := hw.2 c8
      refine lv_aload_n hx hb dX7_lookWhere_11 rfl (lv_at hl 0 rfl) ?_
      refine gk_get hx hb hts iwX7 hown hK.1 (gk_ov hW (v := v) hv) rfl 0 (by decide) (hts _ fl_X7_35) (fun _ h9 => h9) rfl dX7_lookWhere_12 ?_
      refine gk_getN hx hb hts iwX4 hown hK.1 (gk_o1 hW) rfl 3 (by decide) (gk_nw hK nf_X7_87) (fun _ h9 => h9) rfl dX7_lookWhere_15 ?_
      refine gk_getN hx hb hts iwX3 hown hK.1 (gk_o5 hW) rfl 3 (by decide) (gk_nw hK nf_X7_107) (fun _ h9 => h9) rfl dX7_lookWhere_18 ?_
      refine lv_iload_n hx hb dX7_lookWhere_21 rfl (lv_at hl 1 rfl) ?_
      refine gk_callRi ⟨hx, hb, hml, hown, hts⟩ (c_X2_at l D cI cZ cG cL ad (σ := σ) (r := 13) (i := x1) (by decide)) (cwV 1 hts (gk_gV ml_X7_64 im_X2_at se_X2_at in_X2 co_X2_at) rfl rfl rfl (by decide +kernel) ⟨Nat.le_of_ble_eq_true rfl, Nat.le_of_ble_eq_true rfl⟩) (gk_recv hK.1 (gk_or hW (r := 13) (by decide)) rfl) hW hK hS rfl hl.1 (rest := []) rfl (lv_room (Nat.le_of_ble_eq_true rfl)) dX7_lookWhere_22 ⟨Nat.zero_le _, Nat.zero_le _⟩ (fun r22 H locs hq hW _ hS => ?_)
      obtain rfl := hq
      refine lv_iload_n hx hb dX7_lookWhere_25 rfl (lv_at hl 3 rfl) ?_
      refine gk_callSNi ⟨hx, hb, hml, hown, hts⟩ (c_X8_isIn l hw) ⟨va_cnB 2 hts (gk_gI co_X8_isIn) rfl rfl rfl (gk_nw hK nm_X7_94) (hts _ in_X8) (by decide +kernel) ⟨Nat.le_of_ble_eq_true rfl, Nat.le_of_ble_eq_true rfl⟩, hts _ st_X8_isIn, trivial⟩ hS rfl hl.1 (rest := []) rfl (lv_room (Nat.le_of_ble_eq_true rfl)) dX7_lookWhere_26 ⟨Nat.zero_le _, Nat.zero_le _⟩ (fun r26 H locs hw _ hk hS => ?_)
      have hW := hW.kept (fun k hk9 => hk _ (hW.lt hk9))
      refine lv_if_eq (tgt := 50) hx hb dX7_lookWhere_29 (by decide) (fun c29 => ?_) (fun c29 => ?_)
      · have hw := hw.1 c29
        refine lv_iinc (v := (x3 + 1)) (lv' := [(3, .int (x3 + 1)), (0, .ref (ad (7 + v))), (1, .int x1), (2, .int x2)]) hx hb dX7_lookWhere_50 hl (k := 3) rfl rfl (by decide) rfl (fun ls hl => ?_)
        refine lv_goto (tgt := 6) hx hb dX7_lookWhere_53 (by decide) ?_
        exact ih σ x1 x2 (x3 + 1) hw _ _ hW hS _ (lv_sub hl [1, 2, 3, 0] rfl)
      · have hw := hw.2 c29
        refine lv_aload_n hx hb dX7_lookWhere_32 rfl (lv_at hl 0 rfl) ?_
        refine gk_get hx hb hts iwX7 hown hK.1 (gk_ov hW (v := v) hv) rfl 1 (by decide) (hts _ fl_X7_14) (fun _ h9 => h9) rfl dX7_lookWhere_33 ?_
        refine lv_iload_n hx hb dX7_lookWhere_36 rfl (lv_at hl 3 rfl) ?_
        refine lv_aload_n hx hb dX7_lookWhere_37 rfl (lv_at hl 0 rfl) ?_
        refine gk_get hx hb hts iwX7 hown hK.1 (gk_ov hW (v := v) hv) rfl 1 (by decide) (hts _ fl_X7_14) (fun _ h9 => h9) rfl dX7_lookWhere_38 ?_
        refine lv_iload_n hx hb dX7_lookWhere_41 rfl (lv_at hl 3 rfl) ?_
        refine gk_callRi ⟨hx, hb, hml, hown, hts⟩ (c_X2_at l D cI cZ cG cL ad (σ := σ) (r := (26 + 6 * v)) (i := x3) (by omega)) (cwV 1 hts (gk_gV ml_X7_64 im_X2_at se_X2_at in_X2 co_X2_at) rfl rfl rfl (by decide +kernel) ⟨Nat.le_of_ble_eq_true rfl, Nat.le_of_ble_eq_true rfl⟩) (gk_recv hK.1 (gk_or hW (r := (26 + 6 * v)) (by omega)) rfl) hW hK hS rfl hl.1 (rest := [.int x3, .ref (ad (9 + (26 + 6 * v)))]) rfl (lv_room (Nat.le_of_ble_eq_true rfl)) dX7_lookWhere_42 ⟨Nat.zero_le _, Nat.zero_le _⟩ (fun r42 H locs hq hW _ hS => ?_)
        obtain rfl := hq
        refine lv_iload_n hx hb dX7_lookWhere_45 rfl (lv_at hl 2 rfl) ?_
        refine lv_ior hx hb dX7_lookWhere_46 ?_
        refine gk_callVv ⟨hx, hb, hml, hown, hts⟩ (c_X2_put l D cI cZ cG cL ad (σ := σ) (r := (26 + 6 * v)) (i := x3) (x := ((gk_at σ (26 + 6 * v) x3) ||| x2)) (by omega)) (cwV 2 hts (gk_gV ml_X7_110 im_X2_put se_X2_put in_X2 co_X2_put) rfl rfl rfl (by decide +kernel) ⟨Nat.le_of_ble_eq_true rfl, Nat.le_of_ble_eq_true rfl⟩) (gk_recv hK.1 (gk_or hW (r := (26 + 6 * v)) (by omega)) rfl) hW hK hS rfl hl.1 (rest := []) rfl (lv_room (Nat.le_of_ble_eq_true rfl)) dX7_lookWhere_47 ⟨Nat.zero_le _, Nat.zero_le _⟩ (fun u H locs hq hW _ hS => ?_)
        rw [hq] at hW
        refine lv_iinc (v := (x3 + 1)) (lv' := [(3, .int (x3 + 1)), (0, .ref (ad (7 + v))), (1, .int x1), (2, .int x2)]) hx hb dX7_lookWhere_50 hl (k := 3) rfl rfl (by decide) rfl (fun ls hl => ?_)
        refine lv_goto (tgt := 6) hx hb dX7_lookWhere_53 (by decide) ?_
        exact ih (gk_put σ (26 + 6 * v) x3 ((gk_at σ (26 + 6 * v) x3) ||| x2)) x1 x2 (x3 + 1) hw _ _ hW hS _ (lv_sub hl [1, 2, 3, 0] rfl)
set_option maxHeartbeats 4000000 in
set_option maxRecDepth 100000 in
theorem tJ_X7_lookWhere_141 {p : Program} {l : Launch} {e : Env} {s : State} {m : MethodId} {args : Array Value} {below : List Frame} {meth : Method} {c : Code} {D : va_G} {cI cZ cG cL : ClassId} {ad : Nat → Nat} (C0 : gk_F p s m args meth c cX7_lookWhere 6 none RX7) (hK : gk_K D cI cZ cG cL s) {v : Nat} (hv : v < 2) {Q : gk_C → Prop} {k99 : gk_C → Int32 → Int32 → Int32 → Int32 → Prop} (hk99 : ∀ (σ : gk_C) (x2 : Int32) (x3 : Int32) (x4 : Int32) (x5 : Int32), k99 σ x2 x3 x4 x5 → ∀ (H : Heap) (locs : List Loc), gk_W D cI ad σ H → va_S (gk_A ad s.heap.size) s.heap H locs → ∀ (ls : Array Slot), lv_has ls 6 [(0, .ref (ad (7 + v))), (2, .int x2), (3, .int x3), (4, .int x4), (5, .int x5)] → W p l e rmX7_lookWhere s m args below meth c H locs 0 0 (MQ below (va_Qv (fun u => Q u) (gk_B D cI ad) (gk_A ad s.heap.size)) args s 0 0 (gk_A ad s.heap.size)) (F0 m 99 ls [])) : ∀ (σ : gk_C) (x2 : Int32) (x3 : Int32) (x4 : Int32) (x5 : Int32), wJ_X7_lookWhere_141 v k99 σ x2 x3 x4 x5 → ∀ (H : Heap) (locs : List Loc), gk_W D cI ad σ H → va_S (gk_A ad s.heap.size) s.heap H locs → ∀ (ls : Array Slot), lv_has ls 6 [(0, .ref (ad (7 + v))), (2, .int x2), (3, .int x3), (4, .int x4), (5, .int x5)] → W p l e rmX7_lookWhere s m args below meth c H locs 0 0 (MQ below (va_Qv (fun u => Q u) (gk_B D cI ad) (gk_A ad s.heap.size)) args s 0 0 (gk_A ad s.heap.size)) (F0 m 141 ls []) := by
  obtain ⟨hx, hb, hml, hown, hts, hr, hlocks⟩ := id C0
  intro σ x2 x3 x4 x5 hw H locs hW hS ls hl
  refine lv_aload_n hx hb dX7_lookWhere_141 rfl (lv_at hl 0 rfl) ?_
  refine gk_get hx hb hts iwX7 hown hK.1 (gk_ov hW (v := v) hv) rfl 2 (by decide) (hts _ fl_X7_20) (fun _ h9 => h9) rfl dX7_lookWhere_142 ?_
  refine lv_iload hx hb dX7_lookWhere_145 (lv_at hl 4 rfl) ?_
  refine lv_aload_n hx hb dX7_lookWhere_147 rfl (lv_at hl 0 rfl) ?_
  refine gk_get hx hb hts iwX7 hown hK.1 (gk_ov hW (v := v) hv) rfl 2 (by decide) (hts _ fl_X7_20) (fun _ h9 => h9) rfl dX7_lookWhere_148 ?_
  refine lv_iload hx hb dX7_lookWhere_151 (lv_at hl 4 rfl) ?_
  refine gk_callRi ⟨hx, hb, hml, hown, hts⟩ (c_X2_at l D cI cZ cG cL ad (σ := σ) (r := (27 + 6 * v)) (i := x5) (by omega)) (cwV 1 hts (gk_gV ml_X7_64 im_X2_at se_X2_at in_X2 co_X2_at) rfl rfl rfl (by decide +kernel) ⟨Nat.le_of_ble_eq_true rfl, Nat.le_of_ble_eq_true rfl⟩) (gk_recv hK.1 (gk_or hW (r := (27 + 6 * v)) (by omega)) rfl) hW hK hS rfl hl.1 (rest := [.int x5, .ref (ad (9 + (27 + 6 * v)))]) rfl (lv_room (Nat.le_of_ble_eq_true rfl)) dX7_lookWhere_153 ⟨Nat.zero_le _, Nat.zero_le _⟩ (fun r153 H locs hq hW _ hS => ?_)
  obtain rfl := hq
  refine lv_iload_n hx hb dX7_lookWhere_156 rfl (lv_at hl 1 rfl) ?_
  refine lv_ior hx hb dX7_lookWhere_157 ?_
  refine gk_callVv ⟨hx, hb, hml, hown, hts⟩ (c_X2_put l D cI cZ cG cL ad (σ := σ) (r := (27 + 6 * v)) (i := x5) (x := ((gk_at σ (27 + 6 * v) x5) ||| x2)) (by omega)) (cwV 2 hts (gk_gV ml_X7_110 im_X2_put se_X2_put in_X2 co_X2_put) rfl rfl rfl (by decide +kernel) ⟨Nat.le_of_ble_eq_true rfl, Nat.le_of_ble_eq_true rfl⟩) (gk_recv hK.1 (gk_or hW (r := (27 + 6 * v)) (by omega)) rfl) hW hK hS rfl hl.1 (rest := []) rfl (lv_room (Nat.le_of_ble_eq_true rfl)) dX7_lookWhere_158 ⟨Nat.zero_le _, Nat.zero_le _⟩ (fun u H locs hq hW _ hS => ?_)
  rw [hq] at hW
  refine lv_iinc (v := (x5 + 1)) (lv' := [(5, .int (x5 + 1)), (0, .ref (ad (7 + v))), (2, .int x2), (3, .int x3), (4, .int x4)]) hx hb dX7_lookWhere_161 hl (k := 4) rfl rfl (by decide) rfl (fun ls hl => ?_)
  refine lv_goto (tgt := 99) hx hb dX7_lookWhere_164 (by decide) ?_
  exact hk99 (gk_put σ (27 + 6 * v) x5 ((gk_at σ (27 + 6 * v) x5) ||| x2)) x2 x3 x4 (x5 + 1) hw _ _ hW hS _ (lv_sub hl [1, 2, 3, 4, 0] rfl)
set_option maxHeartbeats 4000000 in
set_option maxRecDepth 100000 in
theorem tL_X7_lookWhere_99 {p : Program} {l : Launch} {e : Env} {s : State} {m : MethodId} {args : Array Value} {below : List Frame} {meth : Method} {c : Code} {D : va_G} {cI cZ cG cL : ClassId} {ad : Nat → Nat} (C0 : gk_F p s m args meth c cX7_lookWhere 6 none RX7) (hK : gk_K D cI cZ cG cL s) {v : Nat} (hv : v < 2) {Q : gk_C → Prop} : ∀ (n : Nat) (σ : gk_C) (x2 : Int32) (x3 : Int32) (x4 : Int32) (x5 : Int32), wL_X7_lookWhere_99 v Q n σ x2 x3 x4 x5 → ∀ (H : Heap) (locs : List Loc), gk_W D cI ad σ H → va_S (gk_A ad s.heap.size) s.heap H locs → ∀ (ls : Array Slot), lv_has ls 6 [(0, .ref (ad (7 + v))), (2, .int x2), (3, .int x3), (4, .int x4), (5, .int x5)] → W p l e rmX7_lookWhere s m args below meth c H locs 0 0 (MQ below (va_Qv (fun u => Q u) (gk_B D cI ad) (gk_A ad s.heap.size)) args s 0 0 (gk_A ad s.heap.size)) (F0 m 99 ls []) := by
  obtain ⟨hx, hb, hml, hown, hts, hr, hlocks⟩ := id C0
  intro n
  induction n with
  | zero => exact fun _ _ _ _ _ hw => False.elim hw
  | succ n ih =>
    intro σ x2 x3 x4 x5 hw H locs hW hS ls hl
    refine lv_iload hx hb dX7_lookWhere_99 (lv_at hl 4 rfl) ?_
    refine lv_aload_n hx hb dX7_lookWhere_101 rfl (lv_at hl 0 rfl) ?_
    refine gk_get hx hb hts iwX7 hown hK.1 (gk_ov hW (v := v) hv) rfl 0 (by decide) (hts _ fl_X7_35) (fun _ h9 => h9) rfl dX7_lookWhere_102 ?_
    refine gk_getN hx hb hts iwX4 hown hK.1 (gk_o1 hW) rfl 2 (by decide) (gk_nw hK nf_X7_119) (fun _ h9 => h9) rfl dX7_lookWhere_105 ?_
    refine gk_getN hx hb hts iwX5 hown hK.1 (gk_o4 hW) rfl 0 (by decide) (gk_nw hK nf_X7_123) (fun _ h9 => h9) rfl dX7_lookWhere_108 ?_
    refine lv_icmp_ge (tgt := 167) hx hb dX7_lookWhere_111 (by decide) (fun c111 => ?_) (fun c111 => ?_)
    · have hw := hw.1 c111
      exact gk_retv C0 hw hW hS dX7_lookWhere_167
    · have hw := hw.2 c111
      refine lv_iload hx hb dX7_lookWhere_114 (lv_at hl 4 rfl) ?_
      refine lv_iload_n hx hb dX7_lookWhere_116 rfl (lv_at hl 2 rfl) ?_
      refine lv_icmp_eq (tgt := 141) hx hb dX7_lookWhere_117 (by decide) (fun c117 => ?_) (fun c117 => ?_)
      · have hw := hw.1 c117
        refine tJ_X7_lookWhere_141 C0 hK hv (hk99 := ih) σ x2 x3 x4 x5 hw _ _ hW hS _ hl
      · have hw := hw.2 c117
        refine lv_iload hx hb dX7_lookWhere_120 (lv_at hl 3 rfl) ?_
        refine lv_if_eq (tgt := 161) hx hb dX7_lookWhere_122 (by decide) (fun c122 => ?_) (fun c122 => ?_)
        · have hw := hw.1 c122
          refine lv_iinc (v := (x5 + 1)) (lv' := [(5, .int (x5 + 1)), (0, .ref (ad (7 + v))), (2, .int x2), (3, .int x3), (4, .int x4)]) hx hb dX7_lookWhere_161 hl (k := 4) rfl rfl (by decide) rfl (fun ls hl => ?_)
          refine lv_goto (tgt := 99) hx hb dX7_lookWhere_164 (by decide) ?_
          exact ih σ x2 x3 x4 (x5 + 1) hw _ _ hW hS _ (lv_sub hl [1, 2, 3, 4, 0] rfl)
        · have hw := hw.2 c122
          refine lv_aload_n hx hb dX7_lookWhere_125 rfl (lv_at hl 0 rfl) ?_
          refine gk_get hx hb hts iwX7 hown hK.1 (gk_ov hW (v := v) hv) rfl 0 (by decide) (hts _ fl_X7_35) (fun _ h9 => h9) rfl dX7_lookWhere_126 ?_
          refine gk_getN hx hb hts iwX4 hown hK.1 (gk_o1 hW) rfl 2 (by decide) (gk_nw hK nf_X7_119) (fun _ h9 => h9) rfl dX7_lookWhere_129 ?_
          refine lv_iload hx hb dX7_lookWhere_132 (lv_at hl 4 rfl) ?_
          refine lv_iload_n hx hb dX7_lookWhere_134 rfl (lv_at hl 2 rfl) ?_
          refine gk_callRi ⟨hx, hb, hml, hown, hts⟩ (c_X5_isBeneath l D cI cZ cG cL ad hw) (cwV 2 hts (gk_gV ml_X7_126 im_X5_isBeneath se_X5_isBeneath in_X5 co_X5_isBeneath) rfl rfl rfl (by decide +kernel) ⟨Nat.le_of_ble_eq_true rfl, Nat.le_of_ble_eq_true rfl⟩) (gk_recv hK.1 (gk_o4 hW) rfl) hW hK hS rfl hl.1 (rest := []) rfl (lv_room (Nat.le_of_ble_eq_true rfl)) dX7_lookWhere_135 ⟨Nat.zero_le _, Nat.zero_le _⟩ (fun r135 H locs hw hW _ hS => ?_)
          refine lv_if_eq (tgt := 161) hx hb dX7_lookWhere_138 (by decide) (fun c138 => ?_) (fun c138 => ?_)
          · have hw := hw.1 c138
            refine lv_iinc (v := (x5 + 1)) (lv' := [(5, .int (x5 + 1)), (0, .ref (ad (7 + v))), (2, .int x2), (3, .int x3), (4, .int x4)]) hx hb dX7_lookWhere_161 hl (k := 4) rfl rfl (by decide) rfl (fun ls hl => ?_)
            refine lv_goto (tgt := 99) hx hb dX7_lookWhere_164 (by decide) ?_
            exact ih σ x2 x3 x4 (x5 + 1) hw _ _ hW hS _ (lv_sub hl [1, 2, 3, 4, 0] rfl)
          · have hw := hw.2 c138
            refine tJ_X7_lookWhere_141 C0 hK hv (hk99 := ih) σ x2 x3 x4 x5 hw _ _ hW hS _ hl
set_option maxHeartbeats 4000000 in
set_option maxRecDepth 100000 in
theorem c_X7_lookWhere (l : Launch) (D : va_G) (cI cZ cG cL : ClassId) (ad : Nat → Nat) {v : Nat} (hv : v < 2) {σ : gk_C} {a0 : Int32} {Q : gk_C → Prop} {sz : Nat} (hw : w_X7_lookWhere v σ a0 Q) : Met l yX7_lookWhere wsX7_lookWhere rmX7_lookWhere (gk_Pc D cI cZ cG cL ad [.ref (ad (7 + v)), .int a0] sz σ) (va_Qv (fun u => Q u) (gk_B D cI ad) (gk_A ad sz)) 0 0 (gk_A ad sz) := by
  refine Met.ofW (cc := cX7_lookWhere) (maxL := 6) (ret := none) (by decide) rfl ?_
  intro p e s m args below meth c s₁ B hml0 hv0
  obtain ⟨rfl, hsz, hW, hK⟩ := hv0
  subst hsz
  have C0 : gk_F p s m ([.ref (ad (7 + v)), .int a0] : List Value).toArray meth c cX7_lookWhere 6 none RX7 := ⟨B.exec, B.bytes, hml0, findClass_of_methodNamed B.named, fun w hw => atoms_spec (ws := wsX7_lookWhere) B.pre w (List.mem_cons_of_mem _ hw), B.returns, B.notSynchronized⟩
  obtain ⟨hx, hb, hml, hown, hts, hr, hlocks⟩ := id C0
  have hS : va_S (gk_A ad s.heap.size) s.heap s.heap [] := va_S.rf
  have hl := lv_entry ([.ref (ad (7 + v)), .int a0]) (n := 6) (Nat.le_of_ble_eq_true rfl)
  rw [lg_entry_eq]
  generalize (lg_sl ([.ref (ad (7 + v)), .int a0]) ++ List.replicate (6 - (lg_sl ([.ref (ad (7 + v)), .int a0])).length) Slot.unset).toArray = ls at hl ⊢
  have hl : lv_has ls 6 [(0, .ref (ad (7 + v))), (1, .int a0)] := hl
  show W p l e rmX7_lookWhere s m _ below meth c s.heap [] 0 0 _ _
  refine lv_iconst (v := 1) hx hb dX7_lookWhere_0 (by decide) ?_
  refine lv_iload_n hx hb dX7_lookWhere_1 rfl (lv_at hl 1 rfl) ?_
  refine lv_ishl hx hb dX7_lookWhere_2 ?_
  refine lv_istore_n (lv' := [(2, .int (1 <<< (a0 &&& 31))), (0, .ref (ad (7 + v))), (1, .int a0)]) hx hb dX7_lookWhere_3 rfl hl (by decide) rfl (fun ls hl => ?_)
  refine lv_iconst (v := 0) hx hb dX7_lookWhere_4 (by decide) ?_
  refine lv_istore_n (lv' := [(3, .int 0), (2, .int (1 <<< (a0 &&& 31))), (0, .ref (ad (7 + v))), (1, .int a0)]) hx hb dX7_lookWhere_5 rfl hl (by decide) rfl (fun ls hl => ?_)
  obtain ⟨n6, hw⟩ := hw
  refine tL_X7_lookWhere_6 C0 hK hv (hk56 := ?_) n6 σ a0 (1 <<< (a0 &&& 31)) 0 hw _ _ hW hS _ (lv_sub hl [2, 3, 1, 0] rfl)
  · intro σ x1 x2 hw H locs hW hS ls hl
    refine lv_aload_n hx hb dX7_lookWhere_56 rfl (lv_at hl 0 rfl) ?_
    refine gk_get hx hb hts iwX7 hown hK.1 (gk_ov hW (v := v) hv) rfl 0 (by decide) (hts _ fl_X7_35) (fun _ h9 => h9) rfl dX7_lookWhere_57 ?_
    refine gk_getN hx hb hts iwX4 hown hK.1 (gk_o1 hW) rfl 3 (by decide) (gk_nw hK nf_X7_87) (fun _ h9 => h9) rfl dX7_lookWhere_60 ?_
    refine gk_getN hx hb hts iwX3 hown hK.1 (gk_o5 hW) rfl 4 (by decide) (gk_nw hK nf_X7_113) (fun _ h9 => h9) rfl dX7_lookWhere_63 ?_
    refine lv_iload_n hx hb dX7_lookWhere_66 rfl (lv_at hl 1 rfl) ?_
    refine gk_callRi ⟨hx, hb, hml, hown, hts⟩ (c_X2_at l D cI cZ cG cL ad (σ := σ) (r := 14) (i := x1) (by decide)) (cwV 1 hts (gk_gV ml_X7_64 im_X2_at se_X2_at in_X2 co_X2_at) rfl rfl rfl (by decide +kernel) ⟨Nat.le_of_ble_eq_true rfl, Nat.le_of_ble_eq_true rfl⟩) (gk_recv hK.1 (gk_or hW (r := 14) (by decide)) rfl) hW hK hS rfl hl.1 (rest := []) rfl (lv_room (Nat.le_of_ble_eq_true rfl)) dX7_lookWhere_67 ⟨Nat.zero_le _, Nat.zero_le _⟩ (fun r67 H locs hq hW _ hS => ?_)
    obtain rfl := hq
    refine lv_istore_n (lv' := [(3, .int (gk_at σ 14 x1)), (0, .ref (ad (7 + v))), (1, .int x1), (2, .int x2)]) hx hb dX7_lookWhere_70 rfl hl (by decide) rfl (fun ls hl => ?_)
    refine lv_aload_n hx hb dX7_lookWhere_71 rfl (lv_at hl 1 rfl) ?_
    refine gk_get hx hb hts iwX7 hown hK.1 (gk_ov hW (v := v) hv) rfl 0 (by decide) (hts _ fl_X7_35) (fun _ h9 => h9) rfl dX7_lookWhere_72 ?_
    refine gk_getN hx hb hts iwX4 hown hK.1 (gk_o1 hW) rfl 3 (by decide) (gk_nw hK nf_X7_87) (fun _ h9 => h9) rfl dX7_lookWhere_75 ?_
    refine gk_getN hx hb hts iwX3 hown hK.1 (gk_o5 hW) rfl 5 (by decide) (gk_nw hK nf_X7_116) (fun _ h9 => h9) rfl dX7_lookWhere_78 ?_
    refine lv_iload_n hx hb dX7_lookWhere_81 rfl (lv_at hl 2 rfl) ?_
    refine gk_callRi ⟨hx, hb, hml, hown, hts⟩ (c_X2_at l D cI cZ cG cL ad (σ := σ) (r := 15) (i := x1) (by decide)) (cwV 1 hts (gk_gV ml_X7_64 im_X2_at se_X2_at in_X2 co_X2_at) rfl rfl rfl (by decide +kernel) ⟨Nat.le_of_ble_eq_true rfl, Nat.le_of_ble_eq_true rfl⟩) (gk_recv hK.1 (gk_or hW (r := 15) (by decide)) rfl) hW hK hS rfl hl.1 (rest := []) rfl (lv_room (Nat.le_of_ble_eq_true rfl)) dX7_lookWhere_82 ⟨Nat.zero_le _, Nat.zero_le _⟩ (fun r82 H locs hq hW _ hS => ?_)
    obtain rfl := hq
    refine lv_iconst (v := 1) hx hb dX7_lookWhere_85 (by decide) ?_
    refine lv_icmp_ne (tgt := 93) hx hb dX7_lookWhere_86 (by decide) (fun c86 => ?_) (fun c86 => ?_)
    · have hw := hw.1 c86
      refine lv_iconst (v := 0) hx hb dX7_lookWhere_93 (by decide) ?_
      refine lv_istore (lv' := [(4, .int 0), (3, .int (gk_at σ 14 x1)), (0, .ref (ad (7 + v))), (1, .int x1), (2, .int x2)]) hx hb dX7_lookWhere_94 hl (by decide) rfl (fun ls hl => ?_)
      refine lv_iconst (v := 0) hx hb dX7_lookWhere_96 (by decide) ?_
      refine lv_istore (lv' := [(5, .int 0), (4, .int 0), (3, .int (gk_at σ 14 x1)), (0, .ref (ad (7 + v))), (1, .int x1), (2, .int x2)]) hx hb dX7_lookWhere_97 hl (by decide) rfl (fun ls hl => ?_)
      obtain ⟨n99, hw⟩ := hw
      refine tL_X7_lookWhere_99 C0 hK hv  n99 σ x2 (gk_at σ 14 x1) 0 0 hw _ _ hW hS _ (lv_sub hl [3, 5, 2, 1, 0] rfl)
    · have hw := hw.2 c86
      refine lv_iconst (v := 1) hx hb dX7_lookWhere_89 (by decide) ?_
      refine lv_goto (tgt := 94) hx hb dX7_lookWhere_90 (by decide) ?_
      refine lv_istore (lv' := [(4, .int 1), (3, .int (gk_at σ 14 x1)), (0, .ref (ad (7 + v))), (1, .int x1), (2, .int x2)]) hx hb dX7_lookWhere_94 hl (by decide) rfl (fun ls hl => ?_)
      refine lv_iconst (v := 0) hx hb dX7_lookWhere_96 (by decide) ?_
      refine lv_istore (lv' := [(5, .int 0), (4, .int 1), (3, .int (gk_at σ 14 x1)), (0, .ref (ad (7 + v))), (1, .int x1), (2, .int x2)]) hx hb dX7_lookWhere_97 hl (by decide) rfl (fun ls hl => ?_)
      obtain ⟨n99, hw⟩ := hw
      refine tL_X7_lookWhere_99 C0 hK hv  n99 σ x2 (gk_at σ 14 x1) 1 0 hw _ _ hW hS _ (lv_sub hl [3, 5, 2, 1, 0] rfl)
def wJ_X7_lookAtRules_113 (v : Nat) (k34 : gk_C → Int32 → Int32 → Int32 → Prop) (σ : gk_C) (x1 : Int32) (x2 : Int32) (x3 : Int32) : Prop := (w_X7_lookWhere v σ x3 (fun σ115 => k34 σ115 x1 x2 (x3 + 1)))
def wJ_X7_lookAtRules_83 (v : Nat) (k34 : gk_C → Int32 → Int32 → Int32 → Prop) (σ : gk_C) (x1 : Int32) (x2 : Int32) (x3 : Int32) : Prop := (((¬ (gk_at σ 11 x3) = 1) → (wJ_X7_lookAtRules_113 v k34 σ x1 x2 x3)) ∧ (((gk_at σ 11 x3) = 1) → (wJ_X7_lookAtRules_113 v k34 (gk_s σ (10 + 4 * v) ((σ.2 (10 + 4 * v)) ||| (1 <<< (x3 &&& 31)))) x1 x2 x3)))
def wL_X7_lookAtRules_34 (v : Nat) (Q : gk_C → Prop) : Nat → gk_C → Int32 → Int32 → Int32 → Prop
  | 0 => fun _ _ _ _ => False
  | n + 1 => fun σ x1 x2 x3 => ((((σ.2 4) ≤ x3) → (Q σ)) ∧ ((¬ (σ.2 4) ≤ x3) → (w_X8_isIn x1 x3 (fun r50 => ((¬ r50 = 0) → (wJ_X7_lookAtRules_83 v (fun σ x1 x2 x3 => wL_X7_lookAtRules_34 v Q n σ x1 x2 x3) σ x1 x2 x3)) ∧ ((r50 = 0) → (w_X3_holdsIn σ x3 x2 (fun r65 => ((r65 = 0) → (wJ_X7_lookAtRules_83 v (fun σ x1 x2 x3 => wL_X7_lookAtRules_34 v Q n σ x1 x2 x3) σ x1 x2 x3)) ∧ ((¬ r65 = 0) → (wJ_X7_lookAtRules_83 v (fun σ x1 x2 x3 => wL_X7_lookAtRules_34 v Q n σ x1 x2 x3) (gk_s σ (9 + 4 * v) ((σ.2 (9 + 4 * v)) ||| (1 <<< (x3 &&& 31)))) x1 x2 x3)))))))))
def w_X7_lookAtRules (v : Nat) (σ : gk_C) (a0 : Int32) (Q : gk_C → Prop) : Prop := (w_X4_hour (gk_s (gk_s (gk_clr (gk_clr σ (26 + 6 * v)) (27 + 6 * v)) (9 + 4 * v) 0) (10 + 4 * v) 0) (fun r28 => ∃ n34, wL_X7_lookAtRules_34 v Q n34 (gk_s (gk_s (gk_clr (gk_clr σ (26 + 6 * v)) (27 + 6 * v)) (9 + 4 * v) 0) (10 + 4 * v) 0) a0 r28 0))
abbrev rmX7_lookAtRules : Room := { frames := 3, cells := 0, slots := 0, locals := 68 }
set_option maxHeartbeats 4000000 in
set_option maxRecDepth 100000 in
theorem tJ_X7_lookAtRules_113 {p : Program} {l : Launch} {e : Env} {s : State} {m : MethodId} {args : Array Value} {below : List Frame} {meth : Method} {c : Code} {D : va_G} {cI cZ cG cL : ClassId} {ad : Nat → Nat} (C0 : gk_F p s m args meth c cX7_lookAtRules 4 none RX7) (hK : gk_K D cI cZ cG cL s) {v : Nat} (hv : v < 2) {Q : gk_C → Prop} {k34 : gk_C → Int32 → Int32 → Int32 → Prop} (hk34 : ∀ (σ : gk_C) (x1 : Int32) (x2 : Int32) (x3 : Int32), k34 σ x1 x2 x3 → ∀ (H : Heap) (locs : List Loc), gk_W D cI ad σ H → va_S (gk_A ad s.heap.size) s.heap H locs → ∀ (ls : Array Slot), lv_has ls 4 [(0, .ref (ad (7 + v))), (1, .int x1), (2, .int x2), (3, .int x3)] → W p l e rmX7_lookAtRules s m args below meth c H locs 0 0 (MQ below (va_Qv (fun u => Q u) (gk_B D cI ad) (gk_A ad s.heap.size)) args s 0 0 (gk_A ad s.heap.size)) (F0 m 34 ls [])) : ∀ (σ : gk_C) (x1 : Int32) (x2 : Int32) (x3 : Int32), wJ_X7_lookAtRules_113 v k34 σ x1 x2 x3 → ∀ (H : Heap) (locs : List Loc), gk_W D cI ad σ H → va_S (gk_A ad s.heap.size) s.heap H locs → ∀ (ls : Array Slot), lv_has ls 4 [(0, .ref (ad (7 + v))), (1, .int x1), (2, .int x2), (3, .int x3)] → W p l e rmX7_lookAtRules s m args below meth c H locs 0 0 (MQ below (va_Qv (fun u => Q u) (gk_B D cI ad) (gk_A ad s.heap.size)) args s 0 0 (gk_A ad s.heap.size)) (F0 m 113 ls []) := by
  obtain ⟨hx, hb, hml, hown, hts, hr, hlocks⟩ := id C0
  intro σ x1 x2 x3 hw H locs hW hS ls hl
  refine lv_aload_n hx hb dX7_lookAtRules_113 rfl (lv_at hl 0 rfl) ?_
  refine lv_iload_n hx hb dX7_lookAtRules_114 rfl (lv_at hl 3 rfl) ?_
  refine gk_callVv ⟨hx, hb, hml, hown, hts⟩ (c_X7_lookWhere l D cI cZ cG cL ad hv hw) (cwV 1 hts (gk_gV ml_X7_104 im_X7_lookWhere se_X7_lookWhere in_X7 co_X7_lookWhere) rfl rfl rfl (by decide +kernel) ⟨Nat.le_of_ble_eq_true rfl, Nat.le_of_ble_eq_true rfl⟩) (gk_recv hK.1 (gk_ov hW (v := v) hv) rfl) hW hK hS rfl hl.1 (rest := []) rfl (lv_room (Nat.le_of_ble_eq_true rfl)) dX7_lookAtRules_115 ⟨Nat.zero_le _, Nat.zero_le _⟩ (fun σ115 H locs hw hW _ hS => ?_)
  refine lv_iinc (v := (x3 + 1)) (lv' := [(3, .int (x3 + 1)), (0, .ref (ad (7 + v))), (1, .int x1), (2, .int x2)]) hx hb dX7_lookAtRules_118 hl (k := 3) rfl rfl (by decide) rfl (fun ls hl => ?_)
  refine lv_goto (tgt := 34) hx hb dX7_lookAtRules_121 (by decide) ?_
  exact hk34 σ115 x1 x2 (x3 + 1) hw _ _ hW hS _ (lv_sub hl [1, 2, 3, 0] rfl)
set_option maxHeartbeats 4000000 in
set_option maxRecDepth 100000 in
theorem tJ_X7_lookAtRules_83 {p : Program} {l : Launch} {e : Env} {s : State} {m : MethodId} {args : Array Value} {below : List Frame} {meth : Method} {c : Code} {D : va_G} {cI cZ cG cL : ClassId} {ad : Nat → Nat} (C0 : gk_F p s m args meth c cX7_lookAtRules 4 none RX7) (hK : gk_K D cI cZ cG cL s) {v : Nat} (hv : v < 2) {Q : gk_C → Prop} {k34 : gk_C → Int32 → Int32 → Int32 → Prop} (hk34 : ∀ (σ : gk_C) (x1 : Int32) (x2 : Int32) (x3 : Int32), k34 σ x1 x2 x3 → ∀ (H : Heap) (locs : List Loc), gk_W D cI ad σ H → va_S (gk_A ad s.heap.size) s.heap H locs → ∀ (ls : Array Slot), lv_has ls 4 [(0, .ref (ad (7 + v))), (1, .int x1), (2, .int x2), (3, .int x3)] → W p l e rmX7_lookAtRules s m args below meth c H locs 0 0 (MQ below (va_Qv (fun u => Q u) (gk_B D cI ad) (gk_A ad s.heap.size)) args s 0 0 (gk_A ad s.heap.size)) (F0 m 34 ls [])) : ∀ (σ : gk_C) (x1 : Int32) (x2 : Int32) (x3 : Int32), wJ_X7_lookAtRules_83 v k34 σ x1 x2 x3 → ∀ (H : Heap) (locs : List Loc), gk_W D cI ad σ H → va_S (gk_A ad s.heap.size) s.heap H locs → ∀ (ls : Array Slot), lv_has ls 4 [(0, .ref (ad (7 + v))), (1, .int x1), (2, .int x2), (3, .int x3)] → W p l e rmX7_lookAtRules s m args below meth c H locs 0 0 (MQ below (va_Qv (fun u => Q u) (gk_B D cI ad) (gk_A ad s.heap.size)) args s 0 0 (gk_A ad s.heap.size)) (F0 m 83 ls []) := by
  obtain ⟨hx, hb, hml, hown, hts, hr, hlocks⟩ := id C0
  intro σ x1 x2 x3 hw H locs hW hS ls hl
  refine lv_aload_n hx hb dX7_lookAtRules_83 rfl (lv_at hl 0 rfl) ?_
  refine gk_get hx hb hts iwX7 hown hK.1 (gk_ov hW (v := v) hv) rfl 0 (by decide) (hts _ fl_X7_35) (fun _ h9 => h9) rfl dX7_lookAtRules_84 ?_
  refine gk_getN hx hb hts iwX4 hown hK.1 (gk_o1 hW) rfl 3 (by decide) (gk_nw hK nf_X7_87) (fun _ h9 => h9) rfl dX7_lookAtRules_87 ?_
  refine gk_getN hx hb hts iwX3 hown hK.1 (gk_o5 hW) rfl 1 (by decide) (gk_nw hK nf_X7_101) (fun _ h9 => h9) rfl dX7_lookAtRules_90 ?_
  refine lv_iload_n hx hb dX7_lookAtRules_93 rfl (lv_at hl 3 rfl) ?_
  refine gk_callRi ⟨hx, hb, hml, hown, hts⟩ (c_X2_at l D cI cZ cG cL ad (σ := σ) (r := 11) (i := x3) (by decide)) (cwV 1 hts (gk_gV ml_X7_64 im_X2_at se_X2_at in_X2 co_X2_at) rfl rfl rfl (by decide +kernel) ⟨Nat.le_of_ble_eq_true rfl, Nat.le_of_ble_eq_true rfl⟩) (gk_recv hK.1 (gk_or hW (r := 11) (by decide)) rfl) hW hK hS rfl hl.1 (rest := []) rfl (lv_room (Nat.le_of_ble_eq_true rfl)) dX7_lookAtRules_94 ⟨Nat.zero_le _, Nat.zero_le _⟩ (fun r94 H locs hq hW _ hS => ?_)
  obtain rfl := hq
  refine lv_iconst (v := 1) hx hb dX7_lookAtRules_97 (by decide) ?_
  refine lv_icmp_ne (tgt := 113) hx hb dX7_lookAtRules_98 (by decide) (fun c98 => ?_) (fun c98 => ?_)
  · have hw := hw.1 c98
    refine tJ_X7_lookAtRules_113 C0 hK hv (hk34 := hk34) σ x1 x2 x3 hw _ _ hW hS _ hl
  · have hw := hw.2 c98
    refine lv_aload_n hx hb dX7_lookAtRules_101 rfl (lv_at hl 0 rfl) ?_
    refine lv_dup hx hb dX7_lookAtRules_102 rfl ?_
    refine gk_get hx hb hts iwX7 hown hK.1 (gk_ov hW (v := v) hv) rfl 9 (by decide) (hts _ fl_X7_80) (fun _ h9 => h9) rfl dX7_lookAtRules_103 ?_
    refine lv_iconst (v := 1) hx hb dX7_lookAtRules_106 (by decide) ?_
    refine lv_iload_n hx hb dX7_lookAtRules_107 rfl (lv_at hl 3 rfl) ?_
    refine lv_ishl hx hb dX7_lookAtRules_108 ?_
    refine lv_ior hx hb dX7_lookAtRules_109 ?_
    refine gk_putf (ty := .int) (v := .int ((σ.2 (10 + 4 * v)) ||| (1 <<< (x3 &&& 31)))) hx hb hts iwX7 tyX7 tyX7_ok nmX7 hown hK.1 hS (gk_A.in (by omega)) (gk_ov hW (v := v) hv) rfl 9 (by decide) (hts _ fl_X7_80) (fun _ h9 => h9) rfl (by decide +kernel) rfl rfl (Nat.le_of_ble_eq_true rfl) dX7_lookAtRules_110 (fun H locs h1 _ oq hS => ?_)
    have hW := gk_pvallowing hW (v := v) hv h1 oq
    refine tJ_X7_lookAtRules_113 C0 hK hv (hk34 := hk34) (gk_s σ (10 + 4 * v) ((σ.2 (10 + 4 * v)) ||| (1 <<< (x3 &&& 31)))) x1 x2 x3 hw _ _ hW hS _ hl
set_option maxHeartbeats 4000000 in
set_option maxRecDepth 100000 in
theorem tL_X7_lookAtRules_34 {p : Program} {l : Launch} {e : Env} {s : State} {m : MethodId} {args : Array Value} {below : List Frame} {meth : Method} {c : Code} {D : va_G} {cI cZ cG cL : ClassId} {ad : Nat → Nat} (C0 : gk_F p s m args meth c cX7_lookAtRules 4 none RX7) (hK : gk_K D cI cZ cG cL s) {v : Nat} (hv : v < 2) {Q : gk_C → Prop} : ∀ (n : Nat) (σ : gk_C) (x1 : Int32) (x2 : Int32) (x3 : Int32), wL_X7_lookAtRules_34 v Q n σ x1 x2 x3 → ∀ (H : Heap) (locs : List Loc), gk_W D cI ad σ H → va_S (gk_A ad s.heap.size) s.heap H locs → ∀ (ls : Array Slot), lv_has ls 4 [(0, .ref (ad (7 + v))), (1, .int x1), (2, .int x2), (3, .int x3)] → W p l e rmX7_lookAtRules s m args below meth c H locs 0 0 (MQ below (va_Qv (fun u => Q u) (gk_B D cI ad) (gk_A ad s.heap.size)) args s 0 0 (gk_A ad s.heap.size)) (F0 m 34 ls []) := by
  obtain ⟨hx, hb, hml, hown, hts, hr, hlocks⟩ := id C0
  intro n
  induction n with
  | zero => exact fun _ _ _ _ hw => False.elim hw
  | succ n ih =>
    intro σ x1 x2 x3 hw H locs hW hS ls hl
    refine lv_iload_n hx hb dX7_lookAtRules_34 rfl (lv_at hl 3 rfl) ?_
    refine lv_aload_n hx hb dX7_lookAtRules_35 rfl (lv_at hl 0 rfl) ?_
    refine gk_get hx hb hts iwX7 hown hK.1 (gk_ov hW (v := v) hv) rfl 0 (by decide) (hts _ fl_X7_35) (fun _ h9 => h9) rfl dX7_lookAtRules_36 ?_
    refine gk_getN hx hb hts iwX4 hown hK.1 (gk_o1 hW) rfl 3 (by decide) (gk_nw hK nf_X7_87) (fun _ h9 => h9) rfl dX7_lookAtRules_39 ?_
    refine gk_getN hx hb hts iwX3 hown hK.1 (gk_o5 hW) rfl 0 (by decide) (gk_nw hK nf_X7_91) (fun _ h9 => h9) rfl dX7_lookAtRules_42 ?_
    refine lv_icmp_ge (tgt := 124) hx hb dX7_lookAtRules_45 (by decide) (fun c45 => ?_) (fun c45 => ?_)
    · have hw := hw.1 c45
      exact gk_retv C0 hw hW hS dX7_lookAtRules_124
    · have hw := hw.2 c45
      refine lv_iload_n hx hb dX7_lookAtRules_48 rfl (lv_at hl 1 rfl) ?_
      refine lv_iload_n hx hb dX7_lookAtRules_49 rfl (lv_at hl 3 rfl) ?_
      refine gk_callSNi ⟨hx, hb, hml, hown, hts⟩ (c_X8_isIn l hw) ⟨va_cnB 2 hts (gk_gI co_X8_isIn) rfl rfl rfl (gk_nw hK nm_X7_94) (hts _ in_X8) (by decide +kernel) ⟨Nat.le_of_ble_eq_true rfl, Nat.le_of_ble_eq_true rfl⟩, hts _ st_X8_isIn, trivial⟩ hS rfl hl.1 (rest := []) rfl (lv_room (Nat.le_of_ble_eq_true rfl)) dX7_lookAtRules_50 ⟨Nat.zero_le _, Nat.zero_le _⟩ (fun r50 H locs hw _ hk hS => ?_)
      have hW := hW.kept (fun k hk9 => hk _ (hW.lt hk9))
      refine lv_if_ne (tgt := 83) hx hb dX7_lookAtRules_53 (by decide) (fun c53 => ?_) (fun c53 => ?_)
      · have hw := hw.1 c53
        refine tJ_X7_lookAtRules_83 C0 hK hv (hk34 := ih) σ x1 x2 x3 hw _ _ hW hS _ hl
      · have hw := hw.2 c53
        refine lv_aload_n hx hb dX7_lookAtRules_56 rfl (lv_at hl 0 rfl) ?_
        refine gk_get hx hb hts iwX7 hown hK.1 (gk_ov hW (v := v) hv) rfl 0 (by decide) (hts _ fl_X7_35) (fun _ h9 => h9) rfl dX7_lookAtRules_57 ?_
        refine gk_getN hx hb hts iwX4 hown hK.1 (gk_o1 hW) rfl 3 (by decide) (gk_nw hK nf_X7_87) (fun _ h9 => h9) rfl dX7_lookAtRules_60 ?_
        refine lv_iload_n hx hb dX7_lookAtRules_63 rfl (lv_at hl 3 rfl) ?_
        refine lv_iload_n hx hb dX7_lookAtRules_64 rfl (lv_at hl 2 rfl) ?_
        refine gk_callRi ⟨hx, hb, hml, hown, hts⟩ (c_X3_holdsIn l D cI cZ cG cL ad hw) (cwV 2 hts (gk_gV ml_X7_98 im_X3_holdsIn se_X3_holdsIn in_X3 co_X3_holdsIn) rfl rfl rfl (by decide +kernel) ⟨Nat.le_of_ble_eq_true rfl, Nat.le_of_ble_eq_true rfl⟩) (gk_recv hK.1 (gk_o5 hW) rfl) hW hK hS rfl hl.1 (rest := []) rfl (lv_room (Nat.le_of_ble_eq_true rfl)) dX7_lookAtRules_65 ⟨Nat.zero_le _, Nat.zero_le _⟩ (fun r65 H locs hw hW _ hS => ?_)
        refine lv_if_eq (tgt := 83) hx hb dX7_lookAtRules_68 (by decide) (fun c68 => ?_) (fun c68 => ?_)
        · have hw := hw.1 c68
          refine tJ_X7_lookAtRules_83 C0 hK hv (hk34 := ih) σ x1 x2 x3 hw _ _ hW hS _ hl
        · have hw := hw.2 c68
          refine lv_aload_n hx hb dX7_lookAtRules_71 rfl (lv_at hl 0 rfl) ?_
          refine lv_dup hx hb dX7_lookAtRules_72 rfl ?_
          refine gk_get hx hb hts iwX7 hown hK.1 (gk_ov hW (v := v) hv) rfl 8 (by decide) (hts _ fl_X7_77) (fun _ h9 => h9) rfl dX7_lookAtRules_73 ?_
          refine lv_iconst (v := 1) hx hb dX7_lookAtRules_76 (by decide) ?_
          refine lv_iload_n hx hb dX7_lookAtRules_77 rfl (lv_at hl 3 rfl) ?_
          refine lv_ishl hx hb dX7_lookAtRules_78 ?_
          refine lv_ior hx hb dX7_lookAtRules_79 ?_
          refine gk_putf (ty := .int) (v := .int ((σ.2 (9 + 4 * v)) ||| (1 <<< (x3 &&& 31)))) hx hb hts iwX7 tyX7 tyX7_ok nmX7 hown hK.1 hS (gk_A.in (by omega)) (gk_ov hW (v := v) hv) rfl 8 (by decide) (hts _ fl_X7_77) (fun _ h9 => h9) rfl (by decide +kernel) rfl rfl (Nat.le_of_ble_eq_true rfl) dX7_lookAtRules_80 (fun H locs h1 _ oq hS => ?_)
          have hW := gk_pvlive hW (v := v) hv h1 oq
          refine tJ_X7_lookAtRules_83 C0 hK hv (hk34 := ih) (gk_s σ (9 + 4 * v) ((σ.2 (9 + 4 * v)) ||| (1 <<< (x3 &&& 31)))) x1 x2 x3 hw _ _ hW hS _ hl
set_option maxHeartbeats 4000000 in
set_option maxRecDepth 100000 in
theorem c_X7_lookAtRules (l : Launch) (D : va_G) (cI cZ cG cL : ClassId) (ad : Nat → Nat) {v : Nat} (hv : v < 2) {σ : gk_C} {a0 : Int32} {Q : gk_C → Prop} {sz : Nat} (hw : w_X7_lookAtRules v σ a0 Q) : Met l yX7_lookAtRules wsX7_lookAtRules rmX7_lookAtRules (gk_Pc D cI cZ cG cL ad [.ref (ad (7 + v)), .int a0] sz σ) (va_Qv (fun u => Q u) (gk_B D cI ad) (gk_A ad sz)) 0 0 (gk_A ad sz) := by
  refine Met.ofW (cc := cX7_lookAtRules) (maxL := 4) (ret := none) (by decide) rfl ?_
  intro p e s m args below meth c s₁ B hml0 hv0
  obtain ⟨rfl, hsz, hW, hK⟩ := hv0
  subst hsz
  have C0 : gk_F p s m ([.ref (ad (7 + v)), .int a0] : List Value).toArray meth c cX7_lookAtRules 4 none RX7 := ⟨B.exec, B.bytes, hml0, findClass_of_methodNamed B.named, fun w hw => atoms_spec (ws := wsX7_lookAtRules) B.pre w (List.mem_cons_of_mem _ hw), B.returns, B.notSynchronized⟩
  obtain ⟨hx, hb, hml, hown, hts, hr, hlocks⟩ := id C0
  have hS : va_S (gk_A ad s.heap.size) s.heap s.heap [] := va_S.rf
  have hl := lv_entry ([.ref (ad (7 + v)), .int a0]) (n := 4) (Nat.le_of_ble_eq_true rfl)
  rw [lg_entry_eq]
  generalize (lg_sl ([.ref (ad (7 + v)), .int a0]) ++ List.replicate (4 - (lg_sl ([.ref (ad (7 + v)), .int a0])).length) Slot.unset).toArray = ls at hl ⊢
  have hl : lv_has ls 4 [(0, .ref (ad (7 + v))), (1, .int a0)] := hl
  show W p l e rmX7_lookAtRules s m _ below meth c s.heap [] 0 0 _ _
  refine lv_aload_n hx hb dX7_lookAtRules_0 rfl (lv_at hl 0 rfl) ?_
  refine gk_get hx hb hts iwX7 hown hK.1 (gk_ov hW (v := v) hv) rfl 1 (by decide) (hts _ fl_X7_14) (fun _ h9 => h9) rfl dX7_lookAtRules_1 ?_
  refine gk_callVv ⟨hx, hb, hml, hown, hts⟩ (c_X2_clear l D cI cZ cG cL ad (σ := σ) (r := (26 + 6 * v)) (by omega)) (cwV 0 hts (gk_gV ml_X7_74 im_X2_clear se_X2_clear in_X2 co_X2_clear) rfl rfl rfl (by decide +kernel) ⟨Nat.le_of_ble_eq_true rfl, Nat.le_of_ble_eq_true rfl⟩) (gk_recv hK.1 (gk_or hW (r := (26 + 6 * v)) (by omega)) rfl) hW hK hS rfl hl.1 (rest := []) rfl (lv_room (Nat.le_of_ble_eq_true rfl)) dX7_lookAtRules_4 ⟨Nat.zero_le _, Nat.zero_le _⟩ (fun u H locs hq hW _ hS => ?_)
  rw [hq] at hW
  refine lv_aload_n hx hb dX7_lookAtRules_7 rfl (lv_at hl 0 rfl) ?_
  refine gk_get hx hb hts iwX7 hown hK.1 (gk_ov hW (v := v) hv) rfl 2 (by decide) (hts _ fl_X7_20) (fun _ h9 => h9) rfl dX7_lookAtRules_8 ?_
  refine gk_callVv ⟨hx, hb, hml, hown, hts⟩ (c_X2_clear l D cI cZ cG cL ad (σ := (gk_clr σ (26 + 6 * v))) (r := (27 + 6 * v)) (by omega)) (cwV 0 hts (gk_gV ml_X7_74 im_X2_clear se_X2_clear in_X2 co_X2_clear) rfl rfl rfl (by decide +kernel) ⟨Nat.le_of_ble_eq_true rfl, Nat.le_of_ble_eq_true rfl⟩) (gk_recv hK.1 (gk_or hW (r := (27 + 6 * v)) (by omega)) rfl) hW hK hS rfl hl.1 (rest := []) rfl (lv_room (Nat.le_of_ble_eq_true rfl)) dX7_lookAtRules_11 ⟨Nat.zero_le _, Nat.zero_le _⟩ (fun u H locs hq hW _ hS => ?_)
  rw [hq] at hW
  refine lv_aload_n hx hb dX7_lookAtRules_14 rfl (lv_at hl 0 rfl) ?_
  refine lv_iconst (v := 0) hx hb dX7_lookAtRules_15 (by decide) ?_
  refine gk_putf (ty := .int) (v := .int 0) hx hb hts iwX7 tyX7 tyX7_ok nmX7 hown hK.1 hS (gk_A.in (by omega)) (gk_ov hW (v := v) hv) rfl 8 (by decide) (hts _ fl_X7_77) (fun _ h9 => h9) rfl (by decide +kernel) rfl rfl (Nat.le_of_ble_eq_true rfl) dX7_lookAtRules_16 (fun H locs h1 _ oq hS => ?_)
  have hW := gk_pvlive hW (v := v) hv h1 oq
  refine lv_aload_n hx hb dX7_lookAtRules_19 rfl (lv_at hl 0 rfl) ?_
  refine lv_iconst (v := 0) hx hb dX7_lookAtRules_20 (by decide) ?_
  refine gk_putf (ty := .int) (v := .int 0) hx hb hts iwX7 tyX7 tyX7_ok nmX7 hown hK.1 hS (gk_A.in (by omega)) (gk_ov hW (v := v) hv) rfl 9 (by decide) (hts _ fl_X7_80) (fun _ h9 => h9) rfl (by decide +kernel) rfl rfl (Nat.le_of_ble_eq_true rfl) dX7_lookAtRules_21 (fun H locs h1 _ oq hS => ?_)
  have hW := gk_pvallowing hW (v := v) hv h1 oq
  refine lv_aload_n hx hb dX7_lookAtRules_24 rfl (lv_at hl 0 rfl) ?_
  refine gk_get hx hb hts iwX7 hown hK.1 (gk_ov hW (v := v) hv) rfl 0 (by decide) (hts _ fl_X7_35) (fun _ h9 => h9) rfl dX7_lookAtRules_25 ?_
  refine gk_callRi ⟨hx, hb, hml, hown, hts⟩ (c_X4_hour l D cI cZ cG cL ad hw) (cwV 0 hts (gk_gV ml_X7_83 im_X4_hour se_X4_hour in_X4 co_X4_hour) rfl rfl rfl (by decide +kernel) ⟨Nat.le_of_ble_eq_true rfl, Nat.le_of_ble_eq_true rfl⟩) (gk_recv hK.1 (gk_o1 hW) rfl) hW hK hS rfl hl.1 (rest := []) rfl (lv_room (Nat.le_of_ble_eq_true rfl)) dX7_lookAtRules_28 ⟨Nat.zero_le _, Nat.zero_le _⟩ (fun r28 H locs hw hW _ hS => ?_)
  refine lv_istore_n (lv' := [(2, .int r28), (0, .ref (ad (7 + v))), (1, .int a0)]) hx hb dX7_lookAtRules_31 rfl hl (by decide) rfl (fun ls hl => ?_)
  refine lv_iconst (v := 0) hx hb dX7_lookAtRules_32 (by decide) ?_
  refine lv_istore_n (lv' := [(3, .int 0), (2, .int r28), (0, .ref (ad (7 + v))), (1, .int a0)]) hx hb dX7_lookAtRules_33 rfl hl (by decide) rfl (fun ls hl => ?_)
  obtain ⟨n34, hw⟩ := hw
  refine tL_X7_lookAtRules_34 C0 hK hv  n34 (gk_s (gk_s (gk_clr (gk_clr σ (26 + 6 * v)) (27 + 6 * v)) (9 + 4 * v) 0) (10 + 4 * v) 0) a0 r28 0 hw _ _ hW hS _ (lv_sub hl [2, 3, 1, 0] rfl)
def wL_X7_lookAtWalls_25 (v : Nat) (k122 : gk_C → Int32 → Prop) : Nat → gk_C → Int32 → Int32 → Prop
  | 0 => fun _ _ _ => False
  | n + 1 => fun σ x1 x2 => ((((σ.2 3) ≤ x2) → (k122 σ x1)) ∧ ((¬ (σ.2 3) ≤ x2) → ((((gk_at σ 9 x2) = (-1)) → (wL_X7_lookAtWalls_25 v k122 n σ x1 (x2 + 1))) ∧ ((¬ (gk_at σ 9 x2) = (-1)) → (w_X6_doneOn σ x1 x2 (fun r68 => ((r68 = 0) → (wL_X7_lookAtWalls_25 v k122 n σ x1 (x2 + 1))) ∧ ((¬ r68 = 0) → (wL_X7_lookAtWalls_25 v k122 n (gk_put σ (30 + 6 * v) ((x1 * 4) + (gk_at σ 9 x2)) ((gk_at σ (30 + 6 * v) ((x1 * 4) + (gk_at σ 9 x2))) ||| (1 <<< ((gk_at σ 10 x2) &&& 31)))) x1 (x2 + 1)))))))))
def wL_X7_lookAtWalls_9 (v : Nat) (Q : gk_C → Prop) : Nat → gk_C → Int32 → Prop
  | 0 => fun _ _ => False
  | n + 1 => fun σ x1 => ((((σ.2 0) ≤ x1) → (Q σ)) ∧ ((¬ (σ.2 0) ≤ x1) → (∃ n25, wL_X7_lookAtWalls_25 v (fun σ x1 => (wL_X7_lookAtWalls_9 v Q n σ (x1 + 1))) n25 σ x1 0)))
def w_X7_lookAtWalls (v : Nat) (σ : gk_C)  (Q : gk_C → Prop) : Prop := (∃ n9, wL_X7_lookAtWalls_9 v Q n9 (gk_clr σ (30 + 6 * v)) 0)
abbrev rmX7_lookAtWalls : Room := { frames := 2, cells := 0, slots := 0, locals := 43 }
set_option maxHeartbeats 4000000 in
set_option maxRecDepth 100000 in
theorem tL_X7_lookAtWalls_25 {p : Program} {l : Launch} {e : Env} {s : State} {m : MethodId} {args : Array Value} {below : List Frame} {meth : Method} {c : Code} {D : va_G} {cI cZ cG cL : ClassId} {ad : Nat → Nat} (C0 : gk_F p s m args meth c cX7_lookAtWalls 5 none RX7) (hK : gk_K D cI cZ cG cL s) {v : Nat} (hv : v < 2) {Q : gk_C → Prop} {k122 : gk_C → Int32 → Prop} (hk122 : ∀ (σ : gk_C) (x1 : Int32), k122 σ x1 → ∀ (H : Heap) (locs : List Loc), gk_W D cI ad σ H → va_S (gk_A ad s.heap.size) s.heap H locs → ∀ (ls : Array Slot), lv_has ls 5 [(0, .ref (ad (7 + v))), (1, .int x1)] → W p l e rmX7_lookAtWalls s m args below meth c H locs 0 0 (MQ below (va_Qv (fun u => Q u) (gk_B D cI ad) (gk_A ad s.heap.size)) args s 0 0 (gk_A ad s.heap.size)) (F0 m 122 ls [])) : ∀ (n : Nat) (σ : gk_C) (x1 : Int32) (x2 : Int32), wL_X7_lookAtWalls_25 v k122 n σ x1 x2 → ∀ (H : Heap) (locs : List Loc), gk_W D cI ad σ H → va_S (gk_A ad s.heap.size) s.heap H locs → ∀ (ls : Array Slot), lv_has ls 5 [(0, .ref (ad (7 + v))), (1, .int x1), (2, .int x2)] → W p l e rmX7_lookAtWalls s m args below meth c H locs 0 0 (MQ below (va_Qv (fun u => Q u) (gk_B D cI ad) (gk_A ad s.heap.size)) args s 0 0 (gk_A ad s.heap.size)) (F0 m 25 ls []) := by
  obtain ⟨hx, hb, hml, hown, hts, hr, hlocks⟩ := id C0
  intro n
  induction n with
  | zero => exact fun _ _ _ hw => False.elim hw
  | succ n ih =>
    intro σ x1 x2 hw H locs hW hS ls hl
    refine lv_iload_n hx hb dX7_lookAtWalls_25 rfl (lv_at hl 2 rfl) ?_
    refine lv_aload_n hx hb dX7_lookAtWalls_26 rfl (lv_at hl 0 rfl) ?_
    refine gk_get hx hb hts iwX7 hown hK.1 (gk_ov hW (v := v) hv) rfl 0 (by decide) (hts _ fl_X7_35) (fun _ h9 => h9) rfl dX7_lookAtWalls_27 ?_
    refine gk_getN hx hb hts iwX4 hown hK.1 (gk_o1 hW) rfl 2 (by decide) (gk_nw hK nf_X7_119) (fun _ h9 => h9) rfl dX7_lookAtWalls_30 ?_
    refine gk_getN hx hb hts iwX5 hown hK.1 (gk_o4 hW) rfl 0 (by decide) (gk_nw hK nf_X7_123) (fun _ h9 => h9) rfl dX7_lookAtWalls_33 ?_
    refine lv_icmp_ge (tgt := 122) hx hb dX7_lookAtWalls_36 (by decide) (fun c36 => ?_) (fun c36 => ?_)
    · have hw := hw.1 c36
      exact hk122 σ x1 hw _ _ hW hS _ (lv_sub hl [0, 1] rfl)
    · have hw := hw.2 c36
      refine lv_aload_n hx hb dX7_lookAtWalls_39 rfl (lv_at hl 0 rfl) ?_
      refine gk_get hx hb hts iwX7 hown hK.1 (gk_ov hW (v := v) hv) rfl 0 (by decide) (hts _ fl_X7_35) (fun _ h9 => h9) rfl dX7_lookAtWalls_40 ?_
      refine gk_getN hx hb hts iwX4 hown hK.1 (gk_o1 hW) rfl 2 (by decide) (gk_nw hK nf_X7_119) (fun _ h9 => h9) rfl dX7_lookAtWalls_43 ?_
      refine gk_getN hx hb hts iwX5 hown hK.1 (gk_o4 hW) rfl 4 (by decide) (gk_nw hK nf_X7_129) (fun _ h9 => h9) rfl dX7_lookAtWalls_46 ?_
      refine lv_iload_n hx hb dX7_lookAtWalls_49 rfl (lv_at hl 2 rfl) ?_
      refine gk_callRi ⟨hx, hb, hml, hown, hts⟩ (c_X2_at l D cI cZ cG cL ad (σ := σ) (r := 9) (i := x2) (by decide)) (cwV 1 hts (gk_gV ml_X7_64 im_X2_at se_X2_at in_X2 co_X2_at) rfl rfl rfl (by decide +kernel) ⟨Nat.le_of_ble_eq_true rfl, Nat.le_of_ble_eq_true rfl⟩) (gk_recv hK.1 (gk_or hW (r := 9) (by decide)) rfl) hW hK hS rfl hl.1 (rest := []) rfl (lv_room (Nat.le_of_ble_eq_true rfl)) dX7_lookAtWalls_50 ⟨Nat.zero_le _, Nat.zero_le _⟩ (fun r50 H locs hq hW _ hS => ?_)
      obtain rfl := hq
      refine lv_istore_n (lv' := [(3, .int (gk_at σ 9 x2)), (0, .ref (ad (7 + v))), (1, .int x1), (2, .int x2)]) hx hb dX7_lookAtWalls_53 rfl hl (by decide) rfl (fun ls hl => ?_)
      refine lv_iload_n hx hb dX7_lookAtWalls_54 rfl (lv_at hl 0 rfl) ?_
      refine lv_iconst (v := (-1)) hx hb dX7_lookAtWalls_55 (by decide) ?_
      refine lv_icmp_eq (tgt := 116) hx hb dX7_lookAtWalls_56 (by decide) (fun c56 => ?_) (fun c56 => ?_)
      · have hw := hw.1 c56
        refine lv_iinc (v := (x2 + 1)) (lv' := [(2, .int (x2 + 1)), (3, .int (gk_at σ 9 x2)), (0, .ref (ad (7 + v))), (1, .int x1)]) hx hb dX7_lookAtWalls_116 hl (k := 3) rfl rfl (by decide) rfl (fun ls hl => ?_)
        refine lv_goto (tgt := 25) hx hb dX7_lookAtWalls_119 (by decide) ?_
        exact ih σ x1 (x2 + 1) hw _ _ hW hS _ (lv_sub hl [2, 3, 0] rfl)
      · have hw := hw.2 c56
        refine lv_aload_n hx hb dX7_lookAtWalls_59 rfl (lv_at hl 1 rfl) ?_
        refine gk_get hx hb hts iwX7 hown hK.1 (gk_ov hW (v := v) hv) rfl 0 (by decide) (hts _ fl_X7_35) (fun _ h9 => h9) rfl dX7_lookAtWalls_60 ?_
        refine gk_getN hx hb hts iwX4 hown hK.1 (gk_o1 hW) rfl 0 (by decide) (gk_nw hK nf_X7_50) (fun _ h9 => h9) rfl dX7_lookAtWalls_63 ?_
        refine lv_iload_n hx hb dX7_lookAtWalls_66 rfl (lv_at hl 2 rfl) ?_
        refine lv_iload_n hx hb dX7_lookAtWalls_67 rfl (lv_at hl 3 rfl) ?_
        refine gk_callRi ⟨hx, hb, hml, hown, hts⟩ (c_X6_doneOn l D cI cZ cG cL ad hw) (cwV 2 hts (gk_gV ml_X7_132 im_X6_doneOn se_X6_doneOn in_X6 co_X6_doneOn) rfl rfl rfl (by decide +kernel) ⟨Nat.le_of_ble_eq_true rfl, Nat.le_of_ble_eq_true rfl⟩) (gk_recv hK.1 (gk_o2 hW) rfl) hW hK hS rfl hl.1 (rest := []) rfl (lv_room (Nat.le_of_ble_eq_true rfl)) dX7_lookAtWalls_68 ⟨Nat.zero_le _, Nat.zero_le _⟩ (fun r68 H locs hw hW _ hS => ?_)
        refine lv_if_eq (tgt := 116) hx hb dX7_lookAtWalls_71 (by decide) (fun c71 => ?_) (fun c71 => ?_)
        · have hw := hw.1 c71
          refine lv_iinc (v := (x2 + 1)) (lv' := [(2, .int (x2 + 1)), (3, .int (gk_at σ 9 x2)), (0, .ref (ad (7 + v))), (1, .int x1)]) hx hb dX7_lookAtWalls_116 hl (k := 3) rfl rfl (by decide) rfl (fun ls hl => ?_)
          refine lv_goto (tgt := 25) hx hb dX7_lookAtWalls_119 (by decide) ?_
          exact ih σ x1 (x2 + 1) hw _ _ hW hS _ (lv_sub hl [2, 3, 0] rfl)
        · have hw := hw.2 c71
          refine lv_iload_n hx hb dX7_lookAtWalls_74 rfl (lv_at hl 2 rfl) ?_
          refine lv_iconst (v := 4) hx hb dX7_lookAtWalls_75 (by decide) ?_
          refine lv_imul hx hb dX7_lookAtWalls_76 ?_
          refine lv_iload_n hx hb dX7_lookAtWalls_77 rfl (lv_at hl 0 rfl) ?_
          refine lv_iadd hx hb dX7_lookAtWalls_78 ?_
          refine lv_istore (lv' := [(4, .int ((x1 * 4) + (gk_at σ 9 x2))), (3, .int (gk_at σ 9 x2)), (0, .ref (ad (7 + v))), (1, .int x1), (2, .int x2)]) hx hb dX7_lookAtWalls_79 hl (by decide) rfl (fun ls hl => ?_)
          refine lv_aload_n hx hb dX7_lookAtWalls_81 rfl (lv_at hl 2 rfl) ?_
          refine gk_get hx hb hts iwX7 hown hK.1 (gk_ov hW (v := v) hv) rfl 5 (by decide) (hts _ fl_X7_29) (fun _ h9 => h9) rfl dX7_lookAtWalls_82 ?_
          refine lv_iload hx hb dX7_lookAtWalls_85 (lv_at hl 0 rfl) ?_
          refine lv_aload_n hx hb dX7_lookAtWalls_87 rfl (lv_at hl 2 rfl) ?_
          refine gk_get hx hb hts iwX7 hown hK.1 (gk_ov hW (v := v) hv) rfl 5 (by decide) (hts _ fl_X7_29) (fun _ h9 => h9) rfl dX7_lookAtWalls_88 ?_
          refine lv_iload hx hb dX7_lookAtWalls_91 (lv_at hl 0 rfl) ?_
          refine gk_callRi ⟨hx, hb, hml, hown, hts⟩ (c_X2_at l D cI cZ cG cL ad (σ := σ) (r := (30 + 6 * v)) (i := ((x1 * 4) + (gk_at σ 9 x2))) (by omega)) (cwV 1 hts (gk_gV ml_X7_64 im_X2_at se_X2_at in_X2 co_X2_at) rfl rfl rfl (by decide +kernel) ⟨Nat.le_of_ble_eq_true rfl, Nat.le_of_ble_eq_true rfl⟩) (gk_recv hK.1 (gk_or hW (r := (30 + 6 * v)) (by omega)) rfl) hW hK hS rfl hl.1 (rest := [.int ((x1 * 4) + (gk_at σ 9 x2)), .ref (ad (9 + (30 + 6 * v)))]) rfl (lv_room (Nat.le_of_ble_eq_true rfl)) dX7_lookAtWalls_93 ⟨Nat.zero_le _, Nat.zero_le _⟩ (fun r93 H locs hq hW _ hS => ?_)
          obtain rfl := hq
          refine lv_iconst (v := 1) hx hb dX7_lookAtWalls_96 (by decide) ?_
          refine lv_aload_n hx hb dX7_lookAtWalls_97 rfl (lv_at hl 2 rfl) ?_
          refine gk_get hx hb hts iwX7 hown hK.1 (gk_ov hW (v := v) hv) rfl 0 (by decide) (hts _ fl_X7_35) (fun _ h9 => h9) rfl dX7_lookAtWalls_98 ?_
          refine gk_getN hx hb hts iwX4 hown hK.1 (gk_o1 hW) rfl 2 (by decide) (gk_nw hK nf_X7_119) (fun _ h9 => h9) rfl dX7_lookAtWalls_101 ?_
          refine gk_getN hx hb hts iwX5 hown hK.1 (gk_o4 hW) rfl 5 (by decide) (gk_nw hK nf_X7_136) (fun _ h9 => h9) rfl dX7_lookAtWalls_104 ?_
          refine lv_iload_n hx hb dX7_lookAtWalls_107 rfl (lv_at hl 4 rfl) ?_
          refine gk_callRi ⟨hx, hb, hml, hown, hts⟩ (c_X2_at l D cI cZ cG cL ad (σ := σ) (r := 10) (i := x2) (by decide)) (cwV 1 hts (gk_gV ml_X7_64 im_X2_at se_X2_at in_X2 co_X2_at) rfl rfl rfl (by decide +kernel) ⟨Nat.le_of_ble_eq_true rfl, Nat.le_of_ble_eq_true rfl⟩) (gk_recv hK.1 (gk_or hW (r := 10) (by decide)) rfl) hW hK hS rfl hl.1 (rest := [.int 1, .int (gk_at σ (30 + 6 * v) ((x1 * 4) + (gk_at σ 9 x2))), .int ((x1 * 4) + (gk_at σ 9 x2)), .ref (ad (9 + (30 + 6 * v)))]) rfl (lv_room (Nat.le_of_ble_eq_true rfl)) dX7_lookAtWalls_108 ⟨Nat.zero_le _, Nat.zero_le _⟩ (fun r108 H locs hq hW _ hS => ?_)
          obtain rfl := hq
          refine lv_ishl hx hb dX7_lookAtWalls_111 ?_
          refine lv_ior hx hb dX7_lookAtWalls_112 ?_
          refine gk_callVv ⟨hx, hb, hml, hown, hts⟩ (c_X2_put l D cI cZ cG cL ad (σ := σ) (r := (30 + 6 * v)) (i := ((x1 * 4) + (gk_at σ 9 x2))) (x := ((gk_at σ (30 + 6 * v) ((x1 * 4) + (gk_at σ 9 x2))) ||| (1 <<< ((gk_at σ 10 x2) &&& 31)))) (by omega)) (cwV 2 hts (gk_gV ml_X7_110 im_X2_put se_X2_put in_X2 co_X2_put) rfl rfl rfl (by decide +kernel) ⟨Nat.le_of_ble_eq_true rfl, Nat.le_of_ble_eq_true rfl⟩) (gk_recv hK.1 (gk_or hW (r := (30 + 6 * v)) (by omega)) rfl) hW hK hS rfl hl.1 (rest := []) rfl (lv_room (Nat.le_of_ble_eq_true rfl)) dX7_lookAtWalls_113 ⟨Nat.zero_le _, Nat.zero_le _⟩ (fun u H locs hq hW _ hS => ?_)
          rw [hq] at hW
          refine lv_iinc (v := (x2 + 1)) (lv' := [(2, .int (x2 + 1)), (4, .int ((x1 * 4) + (gk_at σ 9 x2))), (3, .int (gk_at σ 9 x2)), (0, .ref (ad (7 + v))), (1, .int x1)]) hx hb dX7_lookAtWalls_116 hl (k := 4) rfl rfl (by decide) rfl (fun ls hl => ?_)
          refine lv_goto (tgt := 25) hx hb dX7_lookAtWalls_119 (by decide) ?_
          exact ih (gk_put σ (30 + 6 * v) ((x1 * 4) + (gk_at σ 9 x2)) ((gk_at σ (30 + 6 * v) ((x1 * 4) + (gk_at σ 9 x2))) ||| (1 <<< ((gk_at σ 10 x2) &&& 31)))) x1 (x2 + 1) hw _ _ hW hS _ (lv_sub hl [3, 4, 0] rfl)
set_option maxHeartbeats 4000000 in
set_option maxRecDepth 100000 in
theorem tL_X7_lookAtWalls_9 {p : Program} {l : Launch} {e : Env} {s : State} {m : MethodId} {args : Array Value} {below : List Frame} {meth : Method} {c : Code} {D : va_G} {cI cZ cG cL : ClassId} {ad : Nat → Nat} (C0 : gk_F p s m args meth c cX7_lookAtWalls 5 none RX7) (hK : gk_K D cI cZ cG cL s) {v : Nat} (hv : v < 2) {Q : gk_C → Prop} : ∀ (n : Nat) (σ : gk_C) (x1 : Int32), wL_X7_lookAtWalls_9 v Q n σ x1 → ∀ (H : Heap) (locs : List Loc), gk_W D cI ad σ H → va_S (gk_A ad s.heap.size) s.heap H locs → ∀ (ls : Array Slot), lv_has ls 5 [(0, .ref (ad (7 + v))), (1, .int x1)] → W p l e rmX7_lookAtWalls s m args below meth c H locs 0 0 (MQ below (va_Qv (fun u => Q u) (gk_B D cI ad) (gk_A ad s.heap.size)) args s 0 0 (gk_A ad s.heap.size)) (F0 m 9 ls []) := by
  obtain ⟨hx, hb, hml, hown, hts, hr, hlocks⟩ := id C0
  intro n
  induction n with
  | zero => exact fun _ _ hw => False.elim hw
  | succ n ih =>
    intro σ x1 hw H locs hW hS ls hl
    refine lv_iload_n hx hb dX7_lookAtWalls_9 rfl (lv_at hl 1 rfl) ?_
    refine lv_aload_n hx hb dX7_lookAtWalls_10 rfl (lv_at hl 0 rfl) ?_
    refine gk_get hx hb hts iwX7 hown hK.1 (gk_ov hW (v := v) hv) rfl 0 (by decide) (hts _ fl_X7_35) (fun _ h9 => h9) rfl dX7_lookAtWalls_11 ?_
    refine gk_getN hx hb hts iwX4 hown hK.1 (gk_o1 hW) rfl 0 (by decide) (gk_nw hK nf_X7_50) (fun _ h9 => h9) rfl dX7_lookAtWalls_14 ?_
    refine gk_getN hx hb hts iwX6 hown hK.1 (gk_o2 hW) rfl 0 (by decide) (gk_nw hK nf_X7_56) (fun _ h9 => h9) rfl dX7_lookAtWalls_17 ?_
    refine lv_icmp_ge (tgt := 128) hx hb dX7_lookAtWalls_20 (by decide) (fun c20 => ?_) (fun c20 => ?_)
    · have hw := hw.1 c20
      exact gk_retv C0 hw hW hS dX7_lookAtWalls_128
    · have hw := hw.2 c20
      refine lv_iconst (v := 0) hx hb dX7_lookAtWalls_23 (by decide) ?_
      refine lv_istore_n (lv' := [(2, .int 0), (0, .ref (ad (7 + v))), (1, .int x1)]) hx hb dX7_lookAtWalls_24 rfl hl (by decide) rfl (fun ls hl => ?_)
      obtain ⟨n25, hw⟩ := hw
      refine tL_X7_lookAtWalls_25 C0 hK hv (hk122 := ?_) n25 σ x1 0 hw _ _ hW hS _ (lv_sub hl [1, 2, 0] rfl)
      · intro σ x1 hw H locs hW hS ls hl
        refine lv_iinc (v := (x1 + 1)) (lv' := [(1, .int (x1 + 1)), (0, .ref (ad (7 + v)))]) hx hb dX7_lookAtWalls_122 hl (k := 1) rfl rfl (by decide) rfl (fun ls hl => ?_)
        refine lv_goto (tgt := 9) hx hb dX7_lookAtWalls_125 (by decide) ?_
        exact ih σ (x1 + 1) hw _ _ hW hS _ (lv_sub hl [1, 0] rfl)
set_option maxHeartbeats 4000000 in
set_option maxRecDepth 100000 in
theorem c_X7_lookAtWalls (l : Launch) (D : va_G) (cI cZ cG cL : ClassId) (ad : Nat → Nat) {v : Nat} (hv : v < 2) {σ : gk_C} {Q : gk_C → Prop} {sz : Nat} (hw : w_X7_lookAtWalls v σ  Q) : Met l yX7_lookAtWalls wsX7_lookAtWalls rmX7_lookAtWalls (gk_Pc D cI cZ cG cL ad [.ref (ad (7 + v))] sz σ) (va_Qv (fun u => Q u) (gk_B D cI ad) (gk_A ad sz)) 0 0 (gk_A ad sz) := by
  refine Met.ofW (cc := cX7_lookAtWalls) (maxL := 5) (ret := none) (by decide) rfl ?_
  intro p e s m args below meth c s₁ B hml0 hv0
  obtain ⟨rfl, hsz, hW, hK⟩ := hv0
  subst hsz
  have C0 : gk_F p s m ([.ref (ad (7 + v))] : List Value).toArray meth c cX7_lookAtWalls 5 none RX7 := ⟨B.exec, B.bytes, hml0, findClass_of_methodNamed B.named, fun w hw => atoms_spec (ws := wsX7_lookAtWalls) B.pre w (List.mem_cons_of_mem _ hw), B.returns, B.notSynchronized⟩
  obtain ⟨hx, hb, hml, hown, hts, hr, hlocks⟩ := id C0
  have hS : va_S (gk_A ad s.heap.size) s.heap s.heap [] := va_S.rf
  have hl := lv_entry ([.ref (ad (7 + v))]) (n := 5) (Nat.le_of_ble_eq_true rfl)
  rw [lg_entry_eq]
  generalize (lg_sl ([.ref (ad (7 + v))]) ++ List.replicate (5 - (lg_sl ([.ref (ad (7 + v))])).length) Slot.unset).toArray = ls at hl ⊢
  have hl : lv_has ls 5 [(0, .ref (ad (7 + v)))] := hl
  show W p l e rmX7_lookAtWalls s m _ below meth c s.heap [] 0 0 _ _
  refine lv_aload_n hx hb dX7_lookAtWalls_0 rfl (lv_at hl 0 rfl) ?_
  refine gk_get hx hb hts iwX7 hown hK.1 (gk_ov hW (v := v) hv) rfl 5 (by decide) (hts _ fl_X7_29) (fun _ h9 => h9) rfl dX7_lookAtWalls_1 ?_
  refine gk_callVv ⟨hx, hb, hml, hown, hts⟩ (c_X2_clear l D cI cZ cG cL ad (σ := σ) (r := (30 + 6 * v)) (by omega)) (cwV 0 hts (gk_gV ml_X7_74 im_X2_clear se_X2_clear in_X2 co_X2_clear) rfl rfl rfl (by decide +kernel) ⟨Nat.le_of_ble_eq_true rfl, Nat.le_of_ble_eq_true rfl⟩) (gk_recv hK.1 (gk_or hW (r := (30 + 6 * v)) (by omega)) rfl) hW hK hS rfl hl.1 (rest := []) rfl (lv_room (Nat.le_of_ble_eq_true rfl)) dX7_lookAtWalls_4 ⟨Nat.zero_le _, Nat.zero_le _⟩ (fun u H locs hq hW _ hS => ?_)
  rw [hq] at hW
  refine lv_iconst (v := 0) hx hb dX7_lookAtWalls_7 (by decide) ?_
  refine lv_istore_n (lv' := [(1, .int 0), (0, .ref (ad (7 + v)))]) hx hb dX7_lookAtWalls_8 rfl hl (by decide) rfl (fun ls hl => ?_)
  obtain ⟨n9, hw⟩ := hw
  refine tL_X7_lookAtWalls_9 C0 hK hv  n9 (gk_clr σ (30 + 6 * v)) 0 hw _ _ hW hS _ (lv_sub hl [1, 0] rfl)
def wL_X7_look_16 (v : Nat) (k55 : gk_C → Prop) : Nat → gk_C → Int32 → Prop
  | 0 => fun _ _ => False
  | n + 1 => fun σ x3 => ((((σ.2 0) ≤ x3) → (k55 σ)) ∧ ((¬ (σ.2 0) ≤ x3) → (w_X7_giveSet v σ x3 (gk_at σ 2 x3) (fun σ46 => wL_X7_look_16 v k55 n σ46 (x3 + 1)))))
def w_X7_look (v : Nat) (σ : gk_C) (a0 : Int32) (a1 : Int32) (Q : gk_C → Prop) : Prop := (w_X7_lookAtRules v (gk_s σ (8 + 4 * v) a0) a1 (fun σ7 => w_X7_lookAtWalls v σ7 (fun σ11 => ∃ n16, wL_X7_look_16 v (fun σ => (w_X7_weighGrants v σ (fun σ56 => Q σ56))) n16 σ11 0)))
abbrev rmX7_look : Room := { frames := 5, cells := 0, slots := 0, locals := 119 }
set_option maxHeartbeats 4000000 in
set_option maxRecDepth 100000 in
theorem tL_X7_look_16 {p : Program} {l : Launch} {e : Env} {s : State} {m : MethodId} {args : Array Value} {below : List Frame} {meth : Method} {c : Code} {D : va_G} {cI cZ cG cL : ClassId} {ad : Nat → Nat} (C0 : gk_F p s m args meth c cX7_look 4 none RX7) (hK : gk_K D cI cZ cG cL s) {v : Nat} (hv : v < 2) {Q : gk_C → Prop} {k55 : gk_C → Prop} (hk55 : ∀ (σ : gk_C), k55 σ → ∀ (H : Heap) (locs : List Loc), gk_W D cI ad σ H → va_S (gk_A ad s.heap.size) s.heap H locs → ∀ (ls : Array Slot), lv_has ls 4 [(0, .ref (ad (7 + v)))] → W p l e rmX7_look s m args below meth c H locs 0 0 (MQ below (va_Qv (fun u => Q u) (gk_B D cI ad) (gk_A ad s.heap.size)) args s 0 0 (gk_A ad s.heap.size)) (F0 m 55 ls [])) : ∀ (n : Nat) (σ : gk_C) (x3 : Int32), wL_X7_look_16 v k55 n σ x3 → ∀ (H : Heap) (locs : List Loc), gk_W D cI ad σ H → va_S (gk_A ad s.heap.size) s.heap H locs → ∀ (ls : Array Slot), lv_has ls 4 [(0, .ref (ad (7 + v))), (3, .int x3)] → W p l e rmX7_look s m args below meth c H locs 0 0 (MQ below (va_Qv (fun u => Q u) (gk_B D cI ad) (gk_A ad s.heap.size)) args s 0 0 (gk_A ad s.heap.size)) (F0 m 16 ls []) := by
  obtain ⟨hx, hb, hml, hown, hts, hr, hlocks⟩ := id C0
  intro n
  induction n with
  | zero => exact fun _ _ hw => False.elim hw
  | succ n ih =>
    intro σ x3 hw H locs hW hS ls hl
    refine lv_iload_n hx hb dX7_look_16 rfl (lv_at hl 1 rfl) ?_
    refine lv_aload_n hx hb dX7_look_17 rfl (lv_at hl 0 rfl) ?_
    refine gk_get hx hb hts iwX7 hown hK.1 (gk_ov hW (v := v) hv) rfl 0 (by decide) (hts _ fl_X7_35) (fun _ h9 => h9) rfl dX7_look_18 ?_
    refine gk_getN hx hb hts iwX4 hown hK.1 (gk_o1 hW) rfl 0 (by decide) (gk_nw hK nf_X7_50) (fun _ h9 => h9) rfl dX7_look_21 ?_
    refine gk_getN hx hb hts iwX6 hown hK.1 (gk_o2 hW) rfl 0 (by decide) (gk_nw hK nf_X7_56) (fun _ h9 => h9) rfl dX7_look_24 ?_
    refine lv_icmp_ge (tgt := 55) hx hb dX7_look_27 (by decide) (fun c27 => ?_) (fun c27 => ?_)
    · have hw := hw.1 c27
      exact hk55 σ hw _ _ hW hS _ (lv_sub hl [0] rfl)
    · have hw := hw.2 c27
      refine lv_aload_n hx hb dX7_look_30 rfl (lv_at hl 0 rfl) ?_
      refine lv_iload_n hx hb dX7_look_31 rfl (lv_at hl 1 rfl) ?_
      refine lv_aload_n hx hb dX7_look_32 rfl (lv_at hl 0 rfl) ?_
      refine gk_get hx hb hts iwX7 hown hK.1 (gk_ov hW (v := v) hv) rfl 0 (by decide) (hts _ fl_X7_35) (fun _ h9 => h9) rfl dX7_look_33 ?_
      refine gk_getN hx hb hts iwX4 hown hK.1 (gk_o1 hW) rfl 0 (by decide) (gk_nw hK nf_X7_50) (fun _ h9 => h9) rfl dX7_look_36 ?_
      refine gk_getN hx hb hts iwX6 hown hK.1 (gk_o2 hW) rfl 3 (by decide) (gk_nw hK nf_X7_61) (fun _ h9 => h9) rfl dX7_look_39 ?_
      refine lv_iload_n hx hb dX7_look_42 rfl (lv_at hl 1 rfl) ?_
      refine gk_callRi ⟨hx, hb, hml, hown, hts⟩ (c_X2_at l D cI cZ cG cL ad (σ := σ) (r := 2) (i := x3) (by decide)) (cwV 1 hts (gk_gV ml_X7_64 im_X2_at se_X2_at in_X2 co_X2_at) rfl rfl rfl (by decide +kernel) ⟨Nat.le_of_ble_eq_true rfl, Nat.le_of_ble_eq_true rfl⟩) (gk_recv hK.1 (gk_or hW (r := 2) (by decide)) rfl) hW hK hS rfl hl.1 (rest := [.int x3, .ref (ad (7 + v))]) rfl (lv_room (Nat.le_of_ble_eq_true rfl)) dX7_look_43 ⟨Nat.zero_le _, Nat.zero_le _⟩ (fun r43 H locs hq hW _ hS => ?_)
      obtain rfl := hq
      refine gk_callVv ⟨hx, hb, hml, hown, hts⟩ (c_X7_giveSet l D cI cZ cG cL ad hv hw) (cwV 2 hts (gk_gV ml_X7_68 im_X7_giveSet se_X7_giveSet in_X7 co_X7_giveSet) rfl rfl rfl (by decide +kernel) ⟨Nat.le_of_ble_eq_true rfl, Nat.le_of_ble_eq_true rfl⟩) (gk_recv hK.1 (gk_ov hW (v := v) hv) rfl) hW hK hS rfl hl.1 (rest := []) rfl (lv_room (Nat.le_of_ble_eq_true rfl)) dX7_look_46 ⟨Nat.zero_le _, Nat.zero_le _⟩ (fun σ46 H locs hw hW _ hS => ?_)
      refine lv_iinc (v := (x3 + 1)) (lv' := [(3, .int (x3 + 1)), (0, .ref (ad (7 + v)))]) hx hb dX7_look_49 hl (k := 1) rfl rfl (by decide) rfl (fun ls hl => ?_)
      refine lv_goto (tgt := 16) hx hb dX7_look_52 (by decide) ?_
      exact ih σ46 (x3 + 1) hw _ _ hW hS _ (lv_sub hl [1, 0] rfl)
set_option maxHeartbeats 4000000 in
set_option maxRecDepth 100000 in
theorem c_X7_look (l : Launch) (D : va_G) (cI cZ cG cL : ClassId) (ad : Nat → Nat) {v : Nat} (hv : v < 2) {σ : gk_C} {a0 : Int32} {a1 : Int32} {Q : gk_C → Prop} {sz : Nat} (hw : w_X7_look v σ a0 a1 Q) : Met l yX7_look wsX7_look rmX7_look (gk_Pc D cI cZ cG cL ad [.ref (ad (7 + v)), .int a0, .int a1] sz σ) (va_Qv (fun u => Q u) (gk_B D cI ad) (gk_A ad sz)) 0 0 (gk_A ad sz) := by
  refine Met.ofW (cc := cX7_look) (maxL := 4) (ret := none) (by decide) rfl ?_
  intro p e s m args below meth c s₁ B hml0 hv0
  obtain ⟨rfl, hsz, hW, hK⟩ := hv0
  subst hsz
  have C0 : gk_F p s m ([.ref (ad (7 + v)), .int a0, .int a1] : List Value).toArray meth c cX7_look 4 none RX7 := ⟨B.exec, B.bytes, hml0, findClass_of_methodNamed B.named, fun w hw => atoms_spec (ws := wsX7_look) B.pre w (List.mem_cons_of_mem _ hw), B.returns, B.notSynchronized⟩
  obtain ⟨hx, hb, hml, hown, hts, hr, hlocks⟩ := id C0
  have hS : va_S (gk_A ad s.heap.size) s.heap s.heap [] := va_S.rf
  have hl := lv_entry ([.ref (ad (7 + v)), .int a0, .int a1]) (n := 4) (Nat.le_of_ble_eq_true rfl)
  rw [lg_entry_eq]
  generalize (lg_sl ([.ref (ad (7 + v)), .int a0, .int a1]) ++ List.replicate (4 - (lg_sl ([.ref (ad (7 + v)), .int a0, .int a1])).length) Slot.unset).toArray = ls at hl ⊢
  have hl : lv_has ls 4 [(0, .ref (ad (7 + v))), (1, .int a0), (2, .int a1)] := hl
  show W p l e rmX7_look s m _ below meth c s.heap [] 0 0 _ _
  refine lv_aload_n hx hb dX7_look_0 rfl (lv_at hl 0 rfl) ?_
  refine lv_iload_n hx hb dX7_look_1 rfl (lv_at hl 1 rfl) ?_
  refine gk_putf (ty := .int) (v := .int a0) hx hb hts iwX7 tyX7 tyX7_ok nmX7 hown hK.1 hS (gk_A.in (by omega)) (gk_ov hW (v := v) hv) rfl 7 (by decide) (hts _ fl_X7_39) (fun _ h9 => h9) rfl (by decide +kernel) rfl rfl (Nat.le_of_ble_eq_true rfl) dX7_look_2 (fun H locs h1 _ oq hS => ?_)
  have hW := gk_pvweighing hW (v := v) hv h1 oq
  refine lv_aload_n hx hb dX7_look_5 rfl (lv_at hl 0 rfl) ?_
  refine lv_iload_n hx hb dX7_look_6 rfl (lv_at hl 2 rfl) ?_
  refine gk_callVv ⟨hx, hb, hml, hown, hts⟩ (c_X7_lookAtRules l D cI cZ cG cL ad hv hw) (cwV 1 hts (gk_gV ml_X7_43 im_X7_lookAtRules se_X7_lookAtRules in_X7 co_X7_lookAtRules) rfl rfl rfl (by decide +kernel) ⟨Nat.le_of_ble_eq_true rfl, Nat.le_of_ble_eq_true rfl⟩) (gk_recv hK.1 (gk_ov hW (v := v) hv) rfl) hW hK hS rfl hl.1 (rest := []) rfl (lv_room (Nat.le_of_ble_eq_true rfl)) dX7_look_7 ⟨Nat.zero_le _, Nat.zero_le _⟩ (fun σ7 H locs hw hW _ hS => ?_)
  refine lv_aload_n hx hb dX7_look_10 rfl (lv_at hl 0 rfl) ?_
  refine gk_callVv ⟨hx, hb, hml, hown, hts⟩ (c_X7_lookAtWalls l D cI cZ cG cL ad hv hw) (cwV 0 hts (gk_gV ml_X7_47 im_X7_lookAtWalls se_X7_lookAtWalls in_X7 co_X7_lookAtWalls) rfl rfl rfl (by decide +kernel) ⟨Nat.le_of_ble_eq_true rfl, Nat.le_of_ble_eq_true rfl⟩) (gk_recv hK.1 (gk_ov hW (v := v) hv) rfl) hW hK hS rfl hl.1 (rest := []) rfl (lv_room (Nat.le_of_ble_eq_true rfl)) dX7_look_11 ⟨Nat.zero_le _, Nat.zero_le _⟩ (fun σ11 H locs hw hW _ hS => ?_)
  refine lv_iconst (v := 0) hx hb dX7_look_14 (by decide) ?_
  refine lv_istore_n (lv' := [(3, .int 0), (0, .ref (ad (7 + v))), (1, .int a0), (2, .int a1)]) hx hb dX7_look_15 rfl hl (by decide) rfl (fun ls hl => ?_)
  obtain ⟨n16, hw⟩ := hw
  refine tL_X7_look_16 C0 hK hv (hk55 := ?_) n16 σ11 0 hw _ _ hW hS _ (lv_sub hl [1, 0] rfl)
  · intro σ hw H locs hW hS ls hl
    refine lv_aload_n hx hb dX7_look_55 rfl (lv_at hl 0 rfl) ?_
    refine gk_callVv ⟨hx, hb, hml, hown, hts⟩ (c_X7_weighGrants l D cI cZ cG cL ad hv hw) (cwV 0 hts (gk_gV ml_X7_71 im_X7_weighGrants se_X7_weighGrants in_X7 co_X7_weighGrants) rfl rfl rfl (by decide +kernel) ⟨Nat.le_of_ble_eq_true rfl, Nat.le_of_ble_eq_true rfl⟩) (gk_recv hK.1 (gk_ov hW (v := v) hv) rfl) hW hK hS rfl hl.1 (rest := []) rfl (lv_room (Nat.le_of_ble_eq_true rfl)) dX7_look_56 ⟨Nat.zero_le _, Nat.zero_le _⟩ (fun σ56 H locs hw hW _ hS => ?_)
    exact gk_retv C0 hw hW hS dX7_look_59
def wL_X7_grantFor_3 (v : Nat) (σ : gk_C) (Q : Int32 → Prop) : Nat → Int32 → Int32 → Int32 → Int32 → Prop
  | 0 => fun _ _ _ _ => False
  | n + 1 => fun x1 x2 x3 x4 => ((((σ.2 5) ≤ x4) → (Q (-1))) ∧ ((¬ (σ.2 5) ≤ x4) → (w_X8_isIn (σ.2 (11 + 4 * v)) x4 (fun r24 => ((r24 = 0) → (wL_X7_grantFor_3 v σ Q n x1 x2 x3 (x4 + 1))) ∧ ((¬ r24 = 0) → (w_X4_isGiven σ x4 x1 x2 x3 (fun r39 => ((r39 = 0) → (wL_X7_grantFor_3 v σ Q n x1 x2 x3 (x4 + 1))) ∧ ((¬ r39 = 0) → (Q x4)))))))))
def w_X7_grantFor (v : Nat) (σ : gk_C) (a0 : Int32) (a1 : Int32) (a2 : Int32) (Q : Int32 → Prop) : Prop := (∃ n3, wL_X7_grantFor_3 v σ Q n3 a0 a1 a2 0)
abbrev rmX7_grantFor : Room := { frames := 3, cells := 0, slots := 0, locals := 67 }
set_option maxHeartbeats 4000000 in
set_option maxRecDepth 100000 in
theorem tL_X7_grantFor_3 {p : Program} {l : Launch} {e : Env} {s : State} {m : MethodId} {args : Array Value} {below : List Frame} {meth : Method} {c : Code} {D : va_G} {cI cZ cG cL : ClassId} {ad : Nat → Nat} (C0 : gk_F p s m args meth c cX7_grantFor 5 (some .int) RX7) (hK : gk_K D cI cZ cG cL s) {v : Nat} (hv : v < 2) {σ : gk_C} {Q : Int32 → Prop} : ∀ (n : Nat) (x1 : Int32) (x2 : Int32) (x3 : Int32) (x4 : Int32), wL_X7_grantFor_3 v σ Q n x1 x2 x3 x4 → ∀ (H : Heap) (locs : List Loc), gk_W D cI ad σ H → va_S (gk_A ad s.heap.size) s.heap H locs → ∀ (ls : Array Slot), lv_has ls 5 [(0, .ref (ad (7 + v))), (1, .int x1), (2, .int x2), (3, .int x3), (4, .int x4)] → W p l e rmX7_grantFor s m args below meth c H locs 0 0 (MQ below (va_Qi (fun r u => u = σ ∧ Q r) (gk_B D cI ad) (gk_A ad s.heap.size)) args s 0 0 (gk_A ad s.heap.size)) (F0 m 3 ls []) := by
  obtain ⟨hx, hb, hml, hown, hts, hr, hlocks⟩ := id C0
  intro n
  induction n with
  | zero => exact fun _ _ _ _ hw => False.elim hw
  | succ n ih =>
    intro x1 x2 x3 x4 hw H locs hW hS ls hl
    refine lv_iload hx hb dX7_grantFor_3 (lv_at hl 4 rfl) ?_
    refine lv_aload_n hx hb dX7_grantFor_5 rfl (lv_at hl 0 rfl) ?_
    refine gk_get hx hb hts iwX7 hown hK.1 (gk_ov hW (v := v) hv) rfl 0 (by decide) (hts _ fl_X7_35) (fun _ h9 => h9) rfl dX7_grantFor_6 ?_
    refine gk_getN hx hb hts iwX4 hown hK.1 (gk_o1 hW) rfl 4 (by decide) (gk_nw hK nf_X7_171) (fun _ h9 => h9) rfl dX7_grantFor_9 ?_
    refine gk_getN hx hb hts iwX0 hown hK.1 (gk_o6 hW) rfl 0 (by decide) (gk_nw hK nf_X7_175) (fun _ h9 => h9) rfl dX7_grantFor_12 ?_
    refine lv_icmp_ge (tgt := 54) hx hb dX7_grantFor_15 (by decide) (fun c15 => ?_) (fun c15 => ?_)
    · have hw := hw.1 c15
      refine lv_iconst (v := (-1)) hx hb dX7_grantFor_54 (by decide) ?_
      exact gk_reti C0 ⟨rfl, hw⟩ hW hS dX7_grantFor_55
    · have hw := hw.2 c15
      refine lv_aload_n hx hb dX7_grantFor_18 rfl (lv_at hl 0 rfl) ?_
      refine gk_get hx hb hts iwX7 hown hK.1 (gk_ov hW (v := v) hv) rfl 10 (by decide) (hts _ fl_X7_168) (fun _ h9 => h9) rfl dX7_grantFor_19 ?_
      refine lv_iload hx hb dX7_grantFor_22 (lv_at hl 4 rfl) ?_
      refine gk_callSNi ⟨hx, hb, hml, hown, hts⟩ (c_X8_isIn l hw) ⟨va_cnB 2 hts (gk_gI co_X8_isIn) rfl rfl rfl (gk_nw hK nm_X7_94) (hts _ in_X8) (by decide +kernel) ⟨Nat.le_of_ble_eq_true rfl, Nat.le_of_ble_eq_true rfl⟩, hts _ st_X8_isIn, trivial⟩ hS rfl hl.1 (rest := []) rfl (lv_room (Nat.le_of_ble_eq_true rfl)) dX7_grantFor_24 ⟨Nat.zero_le _, Nat.zero_le _⟩ (fun r24 H locs hw _ hk hS => ?_)
      have hW := hW.kept (fun k hk9 => hk _ (hW.lt hk9))
      refine lv_if_eq (tgt := 48) hx hb dX7_grantFor_27 (by decide) (fun c27 => ?_) (fun c27 => ?_)
      · have hw := hw.1 c27
        refine lv_iinc (v := (x4 + 1)) (lv' := [(4, .int (x4 + 1)), (0, .ref (ad (7 + v))), (1, .int x1), (2, .int x2), (3, .int x3)]) hx hb dX7_grantFor_48 hl (k := 4) rfl rfl (by decide) rfl (fun ls hl => ?_)
        refine lv_goto (tgt := 3) hx hb dX7_grantFor_51 (by decide) ?_
        exact ih x1 x2 x3 (x4 + 1) hw _ _ hW hS _ (lv_sub hl [1, 2, 3, 4, 0] rfl)
      · have hw := hw.2 c27
        refine lv_aload_n hx hb dX7_grantFor_30 rfl (lv_at hl 0 rfl) ?_
        refine gk_get hx hb hts iwX7 hown hK.1 (gk_ov hW (v := v) hv) rfl 0 (by decide) (hts _ fl_X7_35) (fun _ h9 => h9) rfl dX7_grantFor_31 ?_
        refine lv_iload hx hb dX7_grantFor_34 (lv_at hl 4 rfl) ?_
        refine lv_iload_n hx hb dX7_grantFor_36 rfl (lv_at hl 1 rfl) ?_
        refine lv_iload_n hx hb dX7_grantFor_37 rfl (lv_at hl 2 rfl) ?_
        refine lv_iload_n hx hb dX7_grantFor_38 rfl (lv_at hl 3 rfl) ?_
        refine gk_callRi ⟨hx, hb, hml, hown, hts⟩ (c_X4_isGiven l D cI cZ cG cL ad hw) (cwV 4 hts (gk_gV ml_X7_198 im_X4_isGiven se_X4_isGiven in_X4 co_X4_isGiven) rfl rfl rfl (by decide +kernel) ⟨Nat.le_of_ble_eq_true rfl, Nat.le_of_ble_eq_true rfl⟩) (gk_recv hK.1 (gk_o1 hW) rfl) hW hK hS rfl hl.1 (rest := []) rfl (lv_room (Nat.le_of_ble_eq_true rfl)) dX7_grantFor_39 ⟨Nat.zero_le _, Nat.zero_le _⟩ (fun r39 H locs hw hW _ hS => ?_)
        refine lv_if_eq (tgt := 48) hx hb dX7_grantFor_42 (by decide) (fun c42 => ?_) (fun c42 => ?_)
        · have hw := hw.1 c42
          refine lv_iinc (v := (x4 + 1)) (lv' := [(4, .int (x4 + 1)), (0, .ref (ad (7 + v))), (1, .int x1), (2, .int x2), (3, .int x3)]) hx hb dX7_grantFor_48 hl (k := 4) rfl rfl (by decide) rfl (fun ls hl => ?_)
          refine lv_goto (tgt := 3) hx hb dX7_grantFor_51 (by decide) ?_
          exact ih x1 x2 x3 (x4 + 1) hw _ _ hW hS _ (lv_sub hl [1, 2, 3, 4, 0] rfl)
        · have hw := hw.2 c42
          refine lv_iload hx hb dX7_grantFor_45 (lv_at hl 4 rfl) ?_
          exact gk_reti C0 ⟨rfl, hw⟩ hW hS dX7_grantFor_47
set_option maxHeartbeats 4000000 in
set_option maxRecDepth 100000 in
theorem c_X7_grantFor (l : Launch) (D : va_G) (cI cZ cG cL : ClassId) (ad : Nat → Nat) {v : Nat} (hv : v < 2) {σ : gk_C} {a0 : Int32} {a1 : Int32} {a2 : Int32} {Q : Int32 → Prop} {sz : Nat} (hw : w_X7_grantFor v σ a0 a1 a2 Q) : Met l yX7_grantFor wsX7_grantFor rmX7_grantFor (gk_Pc D cI cZ cG cL ad [.ref (ad (7 + v)), .int a0, .int a1, .int a2] sz σ) (va_Qi (fun r u => u = σ ∧ Q r) (gk_B D cI ad) (gk_A ad sz)) 0 0 (gk_A ad sz) := by
  refine Met.ofW (cc := cX7_grantFor) (maxL := 5) (ret := (some .int)) (by decide) rfl ?_
  intro p e s m args below meth c s₁ B hml0 hv0
  obtain ⟨rfl, hsz, hW, hK⟩ := hv0
  subst hsz
  have C0 : gk_F p s m ([.ref (ad (7 + v)), .int a0, .int a1, .int a2] : List Value).toArray meth c cX7_grantFor 5 (some .int) RX7 := ⟨B.exec, B.bytes, hml0, findClass_of_methodNamed B.named, fun w hw => atoms_spec (ws := wsX7_grantFor) B.pre w (List.mem_cons_of_mem _ hw), B.returns, B.notSynchronized⟩
  obtain ⟨hx, hb, hml, hown, hts, hr, hlocks⟩ := id C0
  have hS : va_S (gk_A ad s.heap.size) s.heap s.heap [] := va_S.rf
  have hl := lv_entry ([.ref (ad (7 + v)), .int a0, .int a1, .int a2]) (n := 5) (Nat.le_of_ble_eq_true rfl)
  rw [lg_entry_eq]
  generalize (lg_sl ([.ref (ad (7 + v)), .int a0, .int a1, .int a2]) ++ List.replicate (5 - (lg_sl ([.ref (ad (7 + v)), .int a0, .int a1, .int a2])).length) Slot.unset).toArray = ls at hl ⊢
  have hl : lv_has ls 5 [(0, .ref (ad (7 + v))), (1, .int a0), (2, .int a1), (3, .int a2)] := hl
  show W p l e rmX7_grantFor s m _ below meth c s.heap [] 0 0 _ _
  refine lv_iconst (v := 0) hx hb dX7_grantFor_0 (by decide) ?_
  refine lv_istore (lv' := [(4, .int 0), (0, .ref (ad (7 + v))), (1, .int a0), (2, .int a1), (3, .int a2)]) hx hb dX7_grantFor_1 hl (by decide) rfl (fun ls hl => ?_)
  obtain ⟨n3, hw⟩ := hw
  refine tL_X7_grantFor_3 C0 hK hv  n3 a0 a1 a2 0 hw _ _ hW hS _ (lv_sub hl [1, 2, 3, 4, 0] rfl)
def w_X7_decided (v : Nat) (σ : gk_C) (a0 : Int32) (a1 : Int32) (a2 : Int32) (Q : Int32 → Prop) : Prop := (w_X7_ruled v σ a0 a1 a2 (fun r4 => ((¬ r4 = 0) → (Q r4)) ∧ ((r4 = 0) → (w_X7_grantFor v σ a0 a1 a2 (fun r18 => ((r18 < 0) → (Q r4)) ∧ ((¬ r18 < 0) → (Q 3)))))))
abbrev rmX7_decided : Room := { frames := 4, cells := 0, slots := 0, locals := 91 }
set_option maxHeartbeats 4000000 in
set_option maxRecDepth 100000 in
theorem c_X7_decided (l : Launch) (D : va_G) (cI cZ cG cL : ClassId) (ad : Nat → Nat) {v : Nat} (hv : v < 2) {σ : gk_C} {a0 : Int32} {a1 : Int32} {a2 : Int32} {Q : Int32 → Prop} {sz : Nat} (hw : w_X7_decided v σ a0 a1 a2 Q) : Met l yX7_decided wsX7_decided rmX7_decided (gk_Pc D cI cZ cG cL ad [.ref (ad (7 + v)), .int a0, .int a1, .int a2] sz σ) (va_Qi (fun r u => u = σ ∧ Q r) (gk_B D cI ad) (gk_A ad sz)) 0 0 (gk_A ad sz) := by
  refine Met.ofW (cc := cX7_decided) (maxL := 5) (ret := (some .int)) (by decide) rfl ?_
  intro p e s m args below meth c s₁ B hml0 hv0
  obtain ⟨rfl, hsz, hW, hK⟩ := hv0
  subst hsz
  have C0 : gk_F p s m ([.ref (ad (7 + v)), .int a0, .int a1, .int a2] : List Value).toArray meth c cX7_decided 5 (some .int) RX7 := ⟨B.exec, B.bytes, hml0, findClass_of_methodNamed B.named, fun w hw => atoms_spec (ws := wsX7_decided) B.pre w (List.mem_cons_of_mem _ hw), B.returns, B.notSynchronized⟩
  obtain ⟨hx, hb, hml, hown, hts, hr, hlocks⟩ := id C0
  have hS : va_S (gk_A ad s.heap.size) s.heap s.heap [] := va_S.rf
  have hl := lv_entry ([.ref (ad (7 + v)), .int a0, .int a1, .int a2]) (n := 5) (Nat.le_of_ble_eq_true rfl)
  rw [lg_entry_eq]
  generalize (lg_sl ([.ref (ad (7 + v)), .int a0, .int a1, .int a2]) ++ List.replicate (5 - (lg_sl ([.ref (ad (7 + v)), .int a0, .int a1, .int a2])).length) Slot.unset).toArray = ls at hl ⊢
  have hl : lv_has ls 5 [(0, .ref (ad (7 + v))), (1, .int a0), (2, .int a1), (3, .int a2)] := hl
  show W p l e rmX7_decided s m _ below meth c s.heap [] 0 0 _ _
  refine lv_aload_n hx hb dX7_decided_0 rfl (lv_at hl 0 rfl) ?_
  refine lv_iload_n hx hb dX7_decided_1 rfl (lv_at hl 1 rfl) ?_
  refine lv_iload_n hx hb dX7_decided_2 rfl (lv_at hl 2 rfl) ?_
  refine lv_iload_n hx hb dX7_decided_3 rfl (lv_at hl 3 rfl) ?_
  refine gk_callRi ⟨hx, hb, hml, hown, hts⟩ (c_X7_ruled l D cI cZ cG cL ad hv hw) (cwV 3 hts (gk_gV ml_X7_195 im_X7_ruled se_X7_ruled in_X7 co_X7_ruled) rfl rfl rfl (by decide +kernel) ⟨Nat.le_of_ble_eq_true rfl, Nat.le_of_ble_eq_true rfl⟩) (gk_recv hK.1 (gk_ov hW (v := v) hv) rfl) hW hK hS rfl hl.1 (rest := []) rfl (lv_room (Nat.le_of_ble_eq_true rfl)) dX7_decided_4 ⟨Nat.zero_le _, Nat.zero_le _⟩ (fun r4 H locs hw hW _ hS => ?_)
  refine lv_istore (lv' := [(4, .int r4), (0, .ref (ad (7 + v))), (1, .int a0), (2, .int a1), (3, .int a2)]) hx hb dX7_decided_7 hl (by decide) rfl (fun ls hl => ?_)
  refine lv_iload hx hb dX7_decided_9 (lv_at hl 0 rfl) ?_
  refine lv_if_ne (tgt := 28) hx hb dX7_decided_11 (by decide) (fun c11 => ?_) (fun c11 => ?_)
  · have hw := hw.1 c11
    refine lv_iload hx hb dX7_decided_28 (lv_at hl 0 rfl) ?_
    exact gk_reti C0 ⟨rfl, hw⟩ hW hS dX7_decided_30
  · have hw := hw.2 c11
    refine lv_aload_n hx hb dX7_decided_14 rfl (lv_at hl 1 rfl) ?_
    refine lv_iload_n hx hb dX7_decided_15 rfl (lv_at hl 2 rfl) ?_
    refine lv_iload_n hx hb dX7_decided_16 rfl (lv_at hl 3 rfl) ?_
    refine lv_iload_n hx hb dX7_decided_17 rfl (lv_at hl 4 rfl) ?_
    refine gk_callRi ⟨hx, hb, hml, hown, hts⟩ (c_X7_grantFor l D cI cZ cG cL ad hv hw) (cwV 3 hts (gk_gV ml_X7_224 im_X7_grantFor se_X7_grantFor in_X7 co_X7_grantFor) rfl rfl rfl (by decide +kernel) ⟨Nat.le_of_ble_eq_true rfl, Nat.le_of_ble_eq_true rfl⟩) (gk_recv hK.1 (gk_ov hW (v := v) hv) rfl) hW hK hS rfl hl.1 (rest := []) rfl (lv_room (Nat.le_of_ble_eq_true rfl)) dX7_decided_18 ⟨Nat.zero_le _, Nat.zero_le _⟩ (fun r18 H locs hw hW _ hS => ?_)
    refine lv_if_lt (tgt := 28) hx hb dX7_decided_21 (by decide) (fun c21 => ?_) (fun c21 => ?_)
    · have hw := hw.1 c21
      refine lv_iload hx hb dX7_decided_28 (lv_at hl 0 rfl) ?_
      exact gk_reti C0 ⟨rfl, hw⟩ hW hS dX7_decided_30
    · have hw := hw.2 c21
      refine lv_iconst (v := 3) hx hb dX7_decided_24 (by decide) ?_
      refine lv_goto (tgt := 30) hx hb dX7_decided_25 (by decide) ?_
      exact gk_reti C0 ⟨rfl, hw⟩ hW hS dX7_decided_30
def w_X7_isAllowed (v : Nat) (σ : gk_C) (a0 : Int32) (a1 : Int32) (a2 : Int32) (Q : Int32 → Prop) : Prop := (w_X7_decided v σ a0 a1 a2 (fun r4 => ((r4 = 1) → (Q 1)) ∧ ((¬ r4 = 1) → (((¬ r4 = 3) → (Q 0)) ∧ ((r4 = 3) → (Q 1))))))
abbrev rmX7_isAllowed : Room := { frames := 5, cells := 0, slots := 0, locals := 115 }
set_option maxHeartbeats 4000000 in
set_option maxRecDepth 100000 in
theorem c_X7_isAllowed (l : Launch) (D : va_G) (cI cZ cG cL : ClassId) (ad : Nat → Nat) {v : Nat} (hv : v < 2) {σ : gk_C} {a0 : Int32} {a1 : Int32} {a2 : Int32} {Q : Int32 → Prop} {sz : Nat} (hw : w_X7_isAllowed v σ a0 a1 a2 Q) : Met l yX7_isAllowed wsX7_isAllowed rmX7_isAllowed (gk_Pc D cI cZ cG cL ad [.ref (ad (7 + v)), .int a0, .int a1, .int a2] sz σ) (va_Qi (fun r u => u = σ ∧ Q r) (gk_B D cI ad) (gk_A ad sz)) 0 0 (gk_A ad sz) := by
  refine Met.ofW (cc := cX7_isAllowed) (maxL := 5) (ret := (some .boolean)) (by decide) rfl ?_
  intro p e s m args below meth c s₁ B hml0 hv0
  obtain ⟨rfl, hsz, hW, hK⟩ := hv0
  subst hsz
  have C0 : gk_F p s m ([.ref (ad (7 + v)), .int a0, .int a1, .int a2] : List Value).toArray meth c cX7_isAllowed 5 (some .boolean) RX7 := ⟨B.exec, B.bytes, hml0, findClass_of_methodNamed B.named, fun w hw => atoms_spec (ws := wsX7_isAllowed) B.pre w (List.mem_cons_of_mem _ hw), B.returns, B.notSynchronized⟩
  obtain ⟨hx, hb, hml, hown, hts, hr, hlocks⟩ := id C0
  have hS : va_S (gk_A ad s.heap.size) s.heap s.heap [] := va_S.rf
  have hl := lv_entry ([.ref (ad (7 + v)), .int a0, .int a1, .int a2]) (n := 5) (Nat.le_of_ble_eq_true rfl)
  rw [lg_entry_eq]
  generalize (lg_sl ([.ref (ad (7 + v)), .int a0, .int a1, .int a2]) ++ List.replicate (5 - (lg_sl ([.ref (ad (7 + v)), .int a0, .int a1, .int a2])).length) Slot.unset).toArray = ls at hl ⊢
  have hl : lv_has ls 5 [(0, .ref (ad (7 + v))), (1, .int a0), (2, .int a1), (3, .int a2)] := hl
  show W p l e rmX7_isAllowed s m _ below meth c s.heap [] 0 0 _ _
  refine lv_aload_n hx hb dX7_isAllowed_0 rfl (lv_at hl 0 rfl) ?_
  refine lv_iload_n hx hb dX7_isAllowed_1 rfl (lv_at hl 1 rfl) ?_
  refine lv_iload_n hx hb dX7_isAllowed_2 rfl (lv_at hl 2 rfl) ?_
  refine lv_iload_n hx hb dX7_isAllowed_3 rfl (lv_at hl 3 rfl) ?_
  refine gk_callRi ⟨hx, hb, hml, hown, hts⟩ (c_X7_decided l D cI cZ cG cL ad hv hw) (cwV 3 hts (gk_gV ml_X7_227 im_X7_decided se_X7_decided in_X7 co_X7_decided) rfl rfl rfl (by decide +kernel) ⟨Nat.le_of_ble_eq_true rfl, Nat.le_of_ble_eq_true rfl⟩) (gk_recv hK.1 (gk_ov hW (v := v) hv) rfl) hW hK hS rfl hl.1 (rest := []) rfl (lv_room (Nat.le_of_ble_eq_true rfl)) dX7_isAllowed_4 ⟨Nat.zero_le _, Nat.zero_le _⟩ (fun r4 H locs hw hW _ hS => ?_)
  refine lv_istore (lv' := [(4, .int r4), (0, .ref (ad (7 + v))), (1, .int a0), (2, .int a1), (3, .int a2)]) hx hb dX7_isAllowed_7 hl (by decide) rfl (fun ls hl => ?_)
  refine lv_iload hx hb dX7_isAllowed_9 (lv_at hl 0 rfl) ?_
  refine lv_iconst (v := 1) hx hb dX7_isAllowed_11 (by decide) ?_
  refine lv_icmp_eq (tgt := 21) hx hb dX7_isAllowed_12 (by decide) (fun c12 => ?_) (fun c12 => ?_)
  · have hw := hw.1 c12
    refine lv_iconst (v := 1) hx hb dX7_isAllowed_21 (by decide) ?_
    refine lv_goto (tgt := 26) hx hb dX7_isAllowed_22 (by decide) ?_
    exact gk_retz C0 (by decide) ⟨rfl, hw⟩ hW hS dX7_isAllowed_26
  · have hw := hw.2 c12
    refine lv_iload hx hb dX7_isAllowed_15 (lv_at hl 0 rfl) ?_
    refine lv_iconst (v := 3) hx hb dX7_isAllowed_17 (by decide) ?_
    refine lv_icmp_ne (tgt := 25) hx hb dX7_isAllowed_18 (by decide) (fun c18 => ?_) (fun c18 => ?_)
    · have hw := hw.1 c18
      refine lv_iconst (v := 0) hx hb dX7_isAllowed_25 (by decide) ?_
      exact gk_retz C0 (by decide) ⟨rfl, hw⟩ hW hS dX7_isAllowed_26
    · have hw := hw.2 c18
      refine lv_iconst (v := 1) hx hb dX7_isAllowed_21 (by decide) ?_
      refine lv_goto (tgt := 26) hx hb dX7_isAllowed_22 (by decide) ?_
      exact gk_retz C0 (by decide) ⟨rfl, hw⟩ hW hS dX7_isAllowed_26
def wJ_X7_reason_21 (v : Nat) (σ : gk_C) (Q : Int32 → Prop) (x1 : Int32) (x2 : Int32) (x3 : Int32) : Prop := (w_X7_matching v σ x1 x2 x3 (fun r27 => w_X7_deciding v σ x1 r27 (fun r30 => Q r30)))
def w_X7_reason (v : Nat) (σ : gk_C) (a0 : Int32) (a1 : Int32) (a2 : Int32) (Q : Int32 → Prop) : Prop := (w_X7_ruled v σ a0 a1 a2 (fun r4 => ((r4 = 1) → (wJ_X7_reason_21 v σ Q a0 a1 a2)) ∧ ((¬ r4 = 1) → (((¬ r4 = 2) → (((¬ r4 = 0) → (Q (-1))) ∧ ((r4 = 0) → (w_X7_grantFor v σ a0 a1 a2 (fun r43 => Q r43))))) ∧ ((r4 = 2) → (wJ_X7_reason_21 v σ Q a0 a1 a2))))))
abbrev rmX7_reason : Room := { frames := 4, cells := 0, slots := 0, locals := 91 }
set_option maxHeartbeats 4000000 in
set_option maxRecDepth 100000 in
theorem tJ_X7_reason_21 {p : Program} {l : Launch} {e : Env} {s : State} {m : MethodId} {args : Array Value} {below : List Frame} {meth : Method} {c : Code} {D : va_G} {cI cZ cG cL : ClassId} {ad : Nat → Nat} (C0 : gk_F p s m args meth c cX7_reason 5 (some .int) RX7) (hK : gk_K D cI cZ cG cL s) {v : Nat} (hv : v < 2) {σ : gk_C} {Q : Int32 → Prop} : ∀ (x1 : Int32) (x2 : Int32) (x3 : Int32), wJ_X7_reason_21 v σ Q x1 x2 x3 → ∀ (H : Heap) (locs : List Loc), gk_W D cI ad σ H → va_S (gk_A ad s.heap.size) s.heap H locs → ∀ (ls : Array Slot), lv_has ls 5 [(0, .ref (ad (7 + v))), (1, .int x1), (2, .int x2), (3, .int x3)] → W p l e rmX7_reason s m args below meth c H locs 0 0 (MQ below (va_Qi (fun r u => u = σ ∧ Q r) (gk_B D cI ad) (gk_A ad s.heap.size)) args s 0 0 (gk_A ad s.heap.size)) (F0 m 21 ls []) := by
  obtain ⟨hx, hb, hml, hown, hts, hr, hlocks⟩ := id C0
  intro x1 x2 x3 hw H locs hW hS ls hl
  refine lv_aload_n hx hb dX7_reason_21 rfl (lv_at hl 0 rfl) ?_
  refine lv_iload_n hx hb dX7_reason_22 rfl (lv_at hl 1 rfl) ?_
  refine lv_aload_n hx hb dX7_reason_23 rfl (lv_at hl 0 rfl) ?_
  refine lv_iload_n hx hb dX7_reason_24 rfl (lv_at hl 1 rfl) ?_
  refine lv_iload_n hx hb dX7_reason_25 rfl (lv_at hl 2 rfl) ?_
  refine lv_iload_n hx hb dX7_reason_26 rfl (lv_at hl 3 rfl) ?_
  refine gk_callRi ⟨hx, hb, hml, hown, hts⟩ (c_X7_matching l D cI cZ cG cL ad hv hw) (cwV 3 hts (gk_gV ml_X7_212 im_X7_matching se_X7_matching in_X7 co_X7_matching) rfl rfl rfl (by decide +kernel) ⟨Nat.le_of_ble_eq_true rfl, Nat.le_of_ble_eq_true rfl⟩) (gk_recv hK.1 (gk_ov hW (v := v) hv) rfl) hW hK hS rfl hl.1 (rest := [.int x1, .ref (ad (7 + v))]) rfl (lv_room (Nat.le_of_ble_eq_true rfl)) dX7_reason_27 ⟨Nat.zero_le _, Nat.zero_le _⟩ (fun r27 H locs hw hW _ hS => ?_)
  refine gk_callRi ⟨hx, hb, hml, hown, hts⟩ (c_X7_deciding l D cI cZ cG cL ad hv hw) (cwV 2 hts (gk_gV ml_X7_215 im_X7_deciding se_X7_deciding in_X7 co_X7_deciding) rfl rfl rfl (by decide +kernel) ⟨Nat.le_of_ble_eq_true rfl, Nat.le_of_ble_eq_true rfl⟩) (gk_recv hK.1 (gk_ov hW (v := v) hv) rfl) hW hK hS rfl hl.1 (rest := []) rfl (lv_room (Nat.le_of_ble_eq_true rfl)) dX7_reason_30 ⟨Nat.zero_le _, Nat.zero_le _⟩ (fun r30 H locs hw hW _ hS => ?_)
  exact gk_reti C0 ⟨rfl, hw⟩ hW hS dX7_reason_33
set_option maxHeartbeats 4000000 in
set_option maxRecDepth 100000 in
theorem c_X7_reason (l : Launch) (D : va_G) (cI cZ cG cL : ClassId) (ad : Nat → Nat) {v : Nat} (hv : v < 2) {σ : gk_C} {a0 : Int32} {a1 : Int32} {a2 : Int32} {Q : Int32 → Prop} {sz : Nat} (hw : w_X7_reason v σ a0 a1 a2 Q) : Met l yX7_reason wsX7_reason rmX7_reason (gk_Pc D cI cZ cG cL ad [.ref (ad (7 + v)), .int a0, .int a1, .int a2] sz σ) (va_Qi (fun r u => u = σ ∧ Q r) (gk_B D cI ad) (gk_A ad sz)) 0 0 (gk_A ad sz) := by
  refine Met.ofW (cc := cX7_reason) (maxL := 5) (ret := (some .int)) (by decide) rfl ?_
  intro p e s m args below meth c s₁ B hml0 hv0
  obtain ⟨rfl, hsz, hW, hK⟩ := hv0
  subst hsz
  have C0 : gk_F p s m ([.ref (ad (7 + v)), .int a0, .int a1, .int a2] : List Value).toArray meth c cX7_reason 5 (some .int) RX7 := ⟨B.exec, B.bytes, hml0, findClass_of_methodNamed B.named, fun w hw => atoms_spec (ws := wsX7_reason) B.pre w (List.mem_cons_of_mem _ hw), B.returns, B.notSynchronized⟩
  obtain ⟨hx, hb, hml, hown, hts, hr, hlocks⟩ := id C0
  have hS : va_S (gk_A ad s.heap.size) s.heap s.heap [] := va_S.rf
  have hl := lv_entry ([.ref (ad (7 + v)), .int a0, .int a1, .int a2]) (n := 5) (Nat.le_of_ble_eq_true rfl)
  rw [lg_entry_eq]
  generalize (lg_sl ([.ref (ad (7 + v)), .int a0, .int a1, .int a2]) ++ List.replicate (5 - (lg_sl ([.ref (ad (7 + v)), .int a0, .int a1, .int a2])).length) Slot.unset).toArray = ls at hl ⊢
  have hl : lv_has ls 5 [(0, .ref (ad (7 + v))), (1, .int a0), (2, .int a1), (3, .int a2)] := hl
  show W p l e rmX7_reason s m _ below meth c s.heap [] 0 0 _ _
  refine lv_aload_n hx hb dX7_reason_0 rfl (lv_at hl 0 rfl) ?_
  refine lv_iload_n hx hb dX7_reason_1 rfl (lv_at hl 1 rfl) ?_
  refine lv_iload_n hx hb dX7_reason_2 rfl (lv_at hl 2 rfl) ?_
  refine lv_iload_n hx hb dX7_reason_3 rfl (lv_at hl 3 rfl) ?_
  refine gk_callRi ⟨hx, hb, hml, hown, hts⟩ (c_X7_ruled l D cI cZ cG cL ad hv hw) (cwV 3 hts (gk_gV ml_X7_195 im_X7_ruled se_X7_ruled in_X7 co_X7_ruled) rfl rfl rfl (by decide +kernel) ⟨Nat.le_of_ble_eq_true rfl, Nat.le_of_ble_eq_true rfl⟩) (gk_recv hK.1 (gk_ov hW (v := v) hv) rfl) hW hK hS rfl hl.1 (rest := []) rfl (lv_room (Nat.le_of_ble_eq_true rfl)) dX7_reason_4 ⟨Nat.zero_le _, Nat.zero_le _⟩ (fun r4 H locs hw hW _ hS => ?_)
  refine lv_istore (lv' := [(4, .int r4), (0, .ref (ad (7 + v))), (1, .int a0), (2, .int a1), (3, .int a2)]) hx hb dX7_reason_7 hl (by decide) rfl (fun ls hl => ?_)
  refine lv_iload hx hb dX7_reason_9 (lv_at hl 0 rfl) ?_
  refine lv_iconst (v := 1) hx hb dX7_reason_11 (by decide) ?_
  refine lv_icmp_eq (tgt := 21) hx hb dX7_reason_12 (by decide) (fun c12 => ?_) (fun c12 => ?_)
  · have hw := hw.1 c12
    refine tJ_X7_reason_21 C0 hK hv  a0 a1 a2 hw _ _ hW hS _ (lv_sub hl [1, 2, 3, 4] rfl)
  · have hw := hw.2 c12
    refine lv_iload hx hb dX7_reason_15 (lv_at hl 0 rfl) ?_
    refine lv_iconst (v := 2) hx hb dX7_reason_17 (by decide) ?_
    refine lv_icmp_ne (tgt := 34) hx hb dX7_reason_18 (by decide) (fun c18 => ?_) (fun c18 => ?_)
    · have hw := hw.1 c18
      refine lv_iload hx hb dX7_reason_34 (lv_at hl 0 rfl) ?_
      refine lv_if_ne (tgt := 49) hx hb dX7_reason_36 (by decide) (fun c36 => ?_) (fun c36 => ?_)
      · have hw := hw.1 c36
        refine lv_iconst (v := (-1)) hx hb dX7_reason_49 (by decide) ?_
        exact gk_reti C0 ⟨rfl, hw⟩ hW hS dX7_reason_50
      · have hw := hw.2 c36
        refine lv_aload_n hx hb dX7_reason_39 rfl (lv_at hl 1 rfl) ?_
        refine lv_iload_n hx hb dX7_reason_40 rfl (lv_at hl 2 rfl) ?_
        refine lv_iload_n hx hb dX7_reason_41 rfl (lv_at hl 3 rfl) ?_
        refine lv_iload_n hx hb dX7_reason_42 rfl (lv_at hl 4 rfl) ?_
        refine gk_callRi ⟨hx, hb, hml, hown, hts⟩ (c_X7_grantFor l D cI cZ cG cL ad hv hw) (cwV 3 hts (gk_gV ml_X7_224 im_X7_grantFor se_X7_grantFor in_X7 co_X7_grantFor) rfl rfl rfl (by decide +kernel) ⟨Nat.le_of_ble_eq_true rfl, Nat.le_of_ble_eq_true rfl⟩) (gk_recv hK.1 (gk_ov hW (v := v) hv) rfl) hW hK hS rfl hl.1 (rest := []) rfl (lv_room (Nat.le_of_ble_eq_true rfl)) dX7_reason_43 ⟨Nat.zero_le _, Nat.zero_le _⟩ (fun r43 H locs hw hW _ hS => ?_)
        refine lv_goto (tgt := 50) hx hb dX7_reason_46 (by decide) ?_
        exact gk_reti C0 ⟨rfl, hw⟩ hW hS dX7_reason_50
    · have hw := hw.2 c18
      refine tJ_X7_reason_21 C0 hK hv  a0 a1 a2 hw _ _ hW hS _ (lv_sub hl [1, 2, 3, 4] rfl)
def wL_X7_allowedTo_5 (v : Nat) (σ : gk_C) (Q : Int32 → Prop) : Nat → Int32 → Int32 → Int32 → Int32 → Prop
  | 0 => fun _ _ _ _ => False
  | n + 1 => fun x1 x2 x3 x4 => ((((σ.2 3) ≤ x4) → (Q x3)) ∧ ((¬ (σ.2 3) ≤ x4) → (w_X7_isAllowed v σ x1 x2 x4 (fun r25 => ((r25 = 0) → (wL_X7_allowedTo_5 v σ Q n x1 x2 x3 (x4 + 1))) ∧ ((¬ r25 = 0) → (wL_X7_allowedTo_5 v σ Q n x1 x2 (x3 + 1) (x4 + 1)))))))
def w_X7_allowedTo (v : Nat) (σ : gk_C) (a0 : Int32) (a1 : Int32) (Q : Int32 → Prop) : Prop := (∃ n5, wL_X7_allowedTo_5 v σ Q n5 a0 a1 0 0)
abbrev rmX7_allowedTo : Room := { frames := 6, cells := 0, slots := 0, locals := 139 }
set_option maxHeartbeats 4000000 in
set_option maxRecDepth 100000 in
theorem tL_X7_allowedTo_5 {p : Program} {l : Launch} {e : Env} {s : State} {m : MethodId} {args : Array Value} {below : List Frame} {meth : Method} {c : Code} {D : va_G} {cI cZ cG cL : ClassId} {ad : Nat → Nat} (C0 : gk_F p s m args meth c cX7_allowedTo 5 (some .int) RX7) (hK : gk_K D cI cZ cG cL s) {v : Nat} (hv : v < 2) {σ : gk_C} {Q : Int32 → Prop} : ∀ (n : Nat) (x1 : Int32) (x2 : Int32) (x3 : Int32) (x4 : Int32), wL_X7_allowedTo_5 v σ Q n x1 x2 x3 x4 → ∀ (H : Heap) (locs : List Loc), gk_W D cI ad σ H → va_S (gk_A ad s.heap.size) s.heap H locs → ∀ (ls : Array Slot), lv_has ls 5 [(0, .ref (ad (7 + v))), (1, .int x1), (2, .int x2), (3, .int x3), (4, .int x4)] → W p l e rmX7_allowedTo s m args below meth c H locs 0 0 (MQ below (va_Qi (fun r u => u = σ ∧ Q r) (gk_B D cI ad) (gk_A ad s.heap.size)) args s 0 0 (gk_A ad s.heap.size)) (F0 m 5 ls []) := by
  obtain ⟨hx, hb, hml, hown, hts, hr, hlocks⟩ := id C0
  intro n
  induction n with
  | zero => exact fun _ _ _ _ hw => False.elim hw
  | succ n ih =>
    intro x1 x2 x3 x4 hw H locs hW hS ls hl
    refine lv_iload hx hb dX7_allowedTo_5 (lv_at hl 4 rfl) ?_
    refine lv_aload_n hx hb dX7_allowedTo_7 rfl (lv_at hl 0 rfl) ?_
    refine gk_get hx hb hts iwX7 hown hK.1 (gk_ov hW (v := v) hv) rfl 0 (by decide) (hts _ fl_X7_35) (fun _ h9 => h9) rfl dX7_allowedTo_8 ?_
    refine gk_getN hx hb hts iwX4 hown hK.1 (gk_o1 hW) rfl 2 (by decide) (gk_nw hK nf_X7_119) (fun _ h9 => h9) rfl dX7_allowedTo_11 ?_
    refine gk_getN hx hb hts iwX5 hown hK.1 (gk_o4 hW) rfl 0 (by decide) (gk_nw hK nf_X7_123) (fun _ h9 => h9) rfl dX7_allowedTo_14 ?_
    refine lv_icmp_ge (tgt := 40) hx hb dX7_allowedTo_17 (by decide) (fun c17 => ?_) (fun c17 => ?_)
    · have hw := hw.1 c17
      refine lv_iload_n hx hb dX7_allowedTo_40 rfl (lv_at hl 3 rfl) ?_
      exact gk_reti C0 ⟨rfl, hw⟩ hW hS dX7_allowedTo_41
    · have hw := hw.2 c17
      refine lv_aload_n hx hb dX7_allowedTo_20 rfl (lv_at hl 0 rfl) ?_
      refine lv_iload_n hx hb dX7_allowedTo_21 rfl (lv_at hl 1 rfl) ?_
      refine lv_iload_n hx hb dX7_allowedTo_22 rfl (lv_at hl 2 rfl) ?_
      refine lv_iload hx hb dX7_allowedTo_23 (lv_at hl 4 rfl) ?_
      refine gk_callRi ⟨hx, hb, hml, hown, hts⟩ (c_X7_isAllowed l D cI cZ cG cL ad hv hw) (cwV 3 hts (gk_gV ml_X7_230 im_X7_isAllowed se_X7_isAllowed in_X7 co_X7_isAllowed) rfl rfl rfl (by decide +kernel) ⟨Nat.le_of_ble_eq_true rfl, Nat.le_of_ble_eq_true rfl⟩) (gk_recv hK.1 (gk_ov hW (v := v) hv) rfl) hW hK hS rfl hl.1 (rest := []) rfl (lv_room (Nat.le_of_ble_eq_true rfl)) dX7_allowedTo_25 ⟨Nat.zero_le _, Nat.zero_le _⟩ (fun r25 H locs hw hW _ hS => ?_)
      refine lv_if_eq (tgt := 34) hx hb dX7_allowedTo_28 (by decide) (fun c28 => ?_) (fun c28 => ?_)
      · have hw := hw.1 c28
        refine lv_iinc (v := (x4 + 1)) (lv' := [(4, .int (x4 + 1)), (0, .ref (ad (7 + v))), (1, .int x1), (2, .int x2), (3, .int x3)]) hx hb dX7_allowedTo_34 hl (k := 4) rfl rfl (by decide) rfl (fun ls hl => ?_)
        refine lv_goto (tgt := 5) hx hb dX7_allowedTo_37 (by decide) ?_
        exact ih x1 x2 x3 (x4 + 1) hw _ _ hW hS _ (lv_sub hl [1, 2, 3, 4, 0] rfl)
      · have hw := hw.2 c28
        refine lv_iinc (v := (x3 + 1)) (lv' := [(3, .int (x3 + 1)), (0, .ref (ad (7 + v))), (1, .int x1), (2, .int x2), (4, .int x4)]) hx hb dX7_allowedTo_31 hl (k := 3) rfl rfl (by decide) rfl (fun ls hl => ?_)
        refine lv_iinc (v := (x4 + 1)) (lv' := [(4, .int (x4 + 1)), (3, .int (x3 + 1)), (0, .ref (ad (7 + v))), (1, .int x1), (2, .int x2)]) hx hb dX7_allowedTo_34 hl (k := 4) rfl rfl (by decide) rfl (fun ls hl => ?_)
        refine lv_goto (tgt := 5) hx hb dX7_allowedTo_37 (by decide) ?_
        exact ih x1 x2 (x3 + 1) (x4 + 1) hw _ _ hW hS _ (lv_sub hl [2, 3, 4, 1, 0] rfl)
set_option maxHeartbeats 4000000 in
set_option maxRecDepth 100000 in
theorem c_X7_allowedTo (l : Launch) (D : va_G) (cI cZ cG cL : ClassId) (ad : Nat → Nat) {v : Nat} (hv : v < 2) {σ : gk_C} {a0 : Int32} {a1 : Int32} {Q : Int32 → Prop} {sz : Nat} (hw : w_X7_allowedTo v σ a0 a1 Q) : Met l yX7_allowedTo wsX7_allowedTo rmX7_allowedTo (gk_Pc D cI cZ cG cL ad [.ref (ad (7 + v)), .int a0, .int a1] sz σ) (va_Qi (fun r u => u = σ ∧ Q r) (gk_B D cI ad) (gk_A ad sz)) 0 0 (gk_A ad sz) := by
  refine Met.ofW (cc := cX7_allowedTo) (maxL := 5) (ret := (some .int)) (by decide) rfl ?_
  intro p e s m args below meth c s₁ B hml0 hv0
  obtain ⟨rfl, hsz, hW, hK⟩ := hv0
  subst hsz
  have C0 : gk_F p s m ([.ref (ad (7 + v)), .int a0, .int a1] : List Value).toArray meth c cX7_allowedTo 5 (some .int) RX7 := ⟨B.exec, B.bytes, hml0, findClass_of_methodNamed B.named, fun w hw => atoms_spec (ws := wsX7_allowedTo) B.pre w (List.mem_cons_of_mem _ hw), B.returns, B.notSynchronized⟩
  obtain ⟨hx, hb, hml, hown, hts, hr, hlocks⟩ := id C0
  have hS : va_S (gk_A ad s.heap.size) s.heap s.heap [] := va_S.rf
  have hl := lv_entry ([.ref (ad (7 + v)), .int a0, .int a1]) (n := 5) (Nat.le_of_ble_eq_true rfl)
  rw [lg_entry_eq]
  generalize (lg_sl ([.ref (ad (7 + v)), .int a0, .int a1]) ++ List.replicate (5 - (lg_sl ([.ref (ad (7 + v)), .int a0, .int a1])).length) Slot.unset).toArray = ls at hl ⊢
  have hl : lv_has ls 5 [(0, .ref (ad (7 + v))), (1, .int a0), (2, .int a1)] := hl
  show W p l e rmX7_allowedTo s m _ below meth c s.heap [] 0 0 _ _
  refine lv_iconst (v := 0) hx hb dX7_allowedTo_0 (by decide) ?_
  refine lv_istore_n (lv' := [(3, .int 0), (0, .ref (ad (7 + v))), (1, .int a0), (2, .int a1)]) hx hb dX7_allowedTo_1 rfl hl (by decide) rfl (fun ls hl => ?_)
  refine lv_iconst (v := 0) hx hb dX7_allowedTo_2 (by decide) ?_
  refine lv_istore (lv' := [(4, .int 0), (3, .int 0), (0, .ref (ad (7 + v))), (1, .int a0), (2, .int a1)]) hx hb dX7_allowedTo_3 hl (by decide) rfl (fun ls hl => ?_)
  obtain ⟨n5, hw⟩ := hw
  refine tL_X7_allowedTo_5 C0 hK hv  n5 a0 a1 0 0 hw _ _ hW hS _ (lv_sub hl [2, 3, 4, 1, 0] rfl)
def wL_X7_differences_30 (σ : gk_C) (k75 : Int32 → Int32 → Int32 → Prop) : Nat → Int32 → Int32 → Int32 → Int32 → Prop
  | 0 => fun _ _ _ _ => False
  | n + 1 => fun x2 x3 x4 x5 => ((((σ.2 3) ≤ x5) → (k75 x2 x3 x4)) ∧ ((¬ (σ.2 3) ≤ x5) → (w_X7_decided 0 σ x3 x4 x5 (fun r51 => w_X7_decided 1 σ x3 x4 x5 (fun r60 => ((r51 = r60) → (wL_X7_differences_30 σ k75 n x2 x3 x4 (x5 + 1))) ∧ ((¬ r51 = r60) → (wL_X7_differences_30 σ k75 n (x2 + 1) x3 x4 (x5 + 1))))))))
def wL_X7_differences_21 (σ : gk_C) (k81 : Int32 → Int32 → Prop) : Nat → Int32 → Int32 → Int32 → Prop
  | 0 => fun _ _ _ => False
  | n + 1 => fun x2 x3 x4 => (((5 ≤ x4) → (k81 x2 x3)) ∧ ((¬ 5 ≤ x4) → (∃ n30, wL_X7_differences_30 σ (fun x2 x3 x4 => (wL_X7_differences_21 σ k81 n x2 x3 (x4 + 1))) n30 x2 x3 x4 0)))
def wL_X7_differences_4 (σ : gk_C) (Q : Int32 → Prop) : Nat → Int32 → Int32 → Prop
  | 0 => fun _ _ => False
  | n + 1 => fun x2 x3 => ((((σ.2 0) ≤ x3) → (Q x2)) ∧ ((¬ (σ.2 0) ≤ x3) → (∃ n21, wL_X7_differences_21 σ (fun x2 x3 => (wL_X7_differences_4 σ Q n x2 (x3 + 1))) n21 x2 x3 0)))
def w_X7_differences (σ : gk_C)  (Q : Int32 → Prop) : Prop := (∃ n4, wL_X7_differences_4 σ Q n4 0 0)
abbrev rmX7_differences : Room := { frames := 5, cells := 0, slots := 0, locals := 115 }
set_option maxHeartbeats 4000000 in
set_option maxRecDepth 100000 in
theorem tL_X7_differences_30 {p : Program} {l : Launch} {e : Env} {s : State} {m : MethodId} {args : Array Value} {below : List Frame} {meth : Method} {c : Code} {D : va_G} {cI cZ cG cL : ClassId} {ad : Nat → Nat} (C0 : gk_F p s m args meth c cX7_differences 6 (some .int) RX7) (hK : gk_K D cI cZ cG cL s) {σ : gk_C} {Q : Int32 → Prop} {k75 : Int32 → Int32 → Int32 → Prop} (hk75 : ∀ (x2 : Int32) (x3 : Int32) (x4 : Int32), k75 x2 x3 x4 → ∀ (H : Heap) (locs : List Loc), gk_W D cI ad σ H → va_S (gk_A ad s.heap.size) s.heap H locs → ∀ (ls : Array Slot), lv_has ls 6 [(0, .ref (ad (7 + 0))), (1, .ref (ad (7 + 1))), (2, .int x2), (3, .int x3), (4, .int x4)] → W p l e rmX7_differences s m args below meth c H locs 0 0 (MQ below (va_Qi (fun r u => u = σ ∧ Q r) (gk_B D cI ad) (gk_A ad s.heap.size)) args s 0 0 (gk_A ad s.heap.size)) (F0 m 75 ls [])) : ∀ (n : Nat) (x2 : Int32) (x3 : Int32) (x4 : Int32) (x5 : Int32), wL_X7_differences_30 σ k75 n x2 x3 x4 x5 → ∀ (H : Heap) (locs : List Loc), gk_W D cI ad σ H → va_S (gk_A ad s.heap.size) s.heap H locs → ∀ (ls : Array Slot), lv_has ls 6 [(0, .ref (ad (7 + 0))), (1, .ref (ad (7 + 1))), (2, .int x2), (3, .int x3), (4, .int x4), (5, .int x5)] → W p l e rmX7_differences s m args below meth c H locs 0 0 (MQ below (va_Qi (fun r u => u = σ ∧ Q r) (gk_B D cI ad) (gk_A ad s.heap.size)) args s 0 0 (gk_A ad s.heap.size)) (F0 m 30 ls []) := by
  obtain ⟨hx, hb, hml, hown, hts, hr, hlocks⟩ := id C0
  intro n
  induction n with
  | zero => exact fun _ _ _ _ hw => False.elim hw
  | succ n ih =>
    intro x2 x3 x4 x5 hw H locs hW hS ls hl
    refine lv_iload hx hb dX7_differences_30 (lv_at hl 5 rfl) ?_
    refine lv_aload_n hx hb dX7_differences_32 rfl (lv_at hl 0 rfl) ?_
    refine gk_get hx hb hts iwX7 hown hK.1 (gk_ov hW (v := 0) (by decide)) rfl 0 (by decide) (hts _ fl_X7_35) (fun _ h9 => h9) rfl dX7_differences_33 ?_
    refine gk_getN hx hb hts iwX4 hown hK.1 (gk_o1 hW) rfl 2 (by decide) (gk_nw hK nf_X7_119) (fun _ h9 => h9) rfl dX7_differences_36 ?_
    refine gk_getN hx hb hts iwX5 hown hK.1 (gk_o4 hW) rfl 0 (by decide) (gk_nw hK nf_X7_123) (fun _ h9 => h9) rfl dX7_differences_39 ?_
    refine lv_icmp_ge (tgt := 75) hx hb dX7_differences_42 (by decide) (fun c42 => ?_) (fun c42 => ?_)
    · have hw := hw.1 c42
      exact hk75 x2 x3 x4 hw _ _ hW hS _ (lv_sub hl [0, 1, 2, 3, 4] rfl)
    · have hw := hw.2 c42
      refine lv_aload_n hx hb dX7_differences_45 rfl (lv_at hl 0 rfl) ?_
      refine lv_iload_n hx hb dX7_differences_46 rfl (lv_at hl 3 rfl) ?_
      refine lv_iload hx hb dX7_differences_47 (lv_at hl 4 rfl) ?_
      refine lv_iload hx hb dX7_differences_49 (lv_at hl 5 rfl) ?_
      refine gk_callRi ⟨hx, hb, hml, hown, hts⟩ (c_X7_decided l D cI cZ cG cL ad (by decide) hw) (cwV 3 hts (gk_gV ml_X7_227 im_X7_decided se_X7_decided in_X7 co_X7_decided) rfl rfl rfl (by decide +kernel) ⟨Nat.le_of_ble_eq_true rfl, Nat.le_of_ble_eq_true rfl⟩) (gk_recv hK.1 (gk_ov hW (v := 0) (by decide)) rfl) hW hK hS rfl hl.1 (rest := []) rfl (lv_room (Nat.le_of_ble_eq_true rfl)) dX7_differences_51 ⟨Nat.zero_le _, Nat.zero_le _⟩ (fun r51 H locs hw hW _ hS => ?_)
      refine lv_aload_n hx hb dX7_differences_54 rfl (lv_at hl 1 rfl) ?_
      refine lv_iload_n hx hb dX7_differences_55 rfl (lv_at hl 3 rfl) ?_
      refine lv_iload hx hb dX7_differences_56 (lv_at hl 4 rfl) ?_
      refine lv_iload hx hb dX7_differences_58 (lv_at hl 5 rfl) ?_
      refine gk_callRi ⟨hx, hb, hml, hown, hts⟩ (c_X7_decided l D cI cZ cG cL ad (by decide) hw) (cwV 3 hts (gk_gV ml_X7_227 im_X7_decided se_X7_decided in_X7 co_X7_decided) rfl rfl rfl (by decide +kernel) ⟨Nat.le_of_ble_eq_true rfl, Nat.le_of_ble_eq_true rfl⟩) (gk_recv hK.1 (gk_ov hW (v := 1) (by decide)) rfl) hW hK hS rfl hl.1 (rest := [.int r51]) rfl (lv_room (Nat.le_of_ble_eq_true rfl)) dX7_differences_60 ⟨Nat.zero_le _, Nat.zero_le _⟩ (fun r60 H locs hw hW _ hS => ?_)
      refine lv_icmp_eq (tgt := 69) hx hb dX7_differences_63 (by decide) (fun c63 => ?_) (fun c63 => ?_)
      · have hw := hw.1 c63
        refine lv_iinc (v := (x5 + 1)) (lv' := [(5, .int (x5 + 1)), (0, .ref (ad (7 + 0))), (1, .ref (ad (7 + 1))), (2, .int x2), (3, .int x3), (4, .int x4)]) hx hb dX7_differences_69 hl (k := 5) rfl rfl (by decide) rfl (fun ls hl => ?_)
        refine lv_goto (tgt := 30) hx hb dX7_differences_72 (by decide) ?_
        exact ih x2 x3 x4 (x5 + 1) hw _ _ hW hS _ (lv_sub hl [1, 2, 3, 4, 5, 0] rfl)
      · have hw := hw.2 c63
        refine lv_iinc (v := (x2 + 1)) (lv' := [(2, .int (x2 + 1)), (0, .ref (ad (7 + 0))), (1, .ref (ad (7 + 1))), (3, .int x3), (4, .int x4), (5, .int x5)]) hx hb dX7_differences_66 hl (k := 2) rfl rfl (by decide) rfl (fun ls hl => ?_)
        refine lv_iinc (v := (x5 + 1)) (lv' := [(5, .int (x5 + 1)), (2, .int (x2 + 1)), (0, .ref (ad (7 + 0))), (1, .ref (ad (7 + 1))), (3, .int x3), (4, .int x4)]) hx hb dX7_differences_69 hl (k := 5) rfl rfl (by decide) rfl (fun ls hl => ?_)
        refine lv_goto (tgt := 30) hx hb dX7_differences_72 (by decide) ?_
        exact ih (x2 + 1) x3 x4 (x5 + 1) hw _ _ hW hS _ (lv_sub hl [2, 3, 1, 4, 5, 0] rfl)
set_option maxHeartbeats 4000000 in
set_option maxRecDepth 100000 in
theorem tL_X7_differences_21 {p : Program} {l : Launch} {e : Env} {s : State} {m : MethodId} {args : Array Value} {below : List Frame} {meth : Method} {c : Code} {D : va_G} {cI cZ cG cL : ClassId} {ad : Nat → Nat} (C0 : gk_F p s m args meth c cX7_differences 6 (some .int) RX7) (hK : gk_K D cI cZ cG cL s) {σ : gk_C} {Q : Int32 → Prop} {k81 : Int32 → Int32 → Prop} (hk81 : ∀ (x2 : Int32) (x3 : Int32), k81 x2 x3 → ∀ (H : Heap) (locs : List Loc), gk_W D cI ad σ H → va_S (gk_A ad s.heap.size) s.heap H locs → ∀ (ls : Array Slot), lv_has ls 6 [(0, .ref (ad (7 + 0))), (1, .ref (ad (7 + 1))), (2, .int x2), (3, .int x3)] → W p l e rmX7_differences s m args below meth c H locs 0 0 (MQ below (va_Qi (fun r u => u = σ ∧ Q r) (gk_B D cI ad) (gk_A ad s.heap.size)) args s 0 0 (gk_A ad s.heap.size)) (F0 m 81 ls [])) : ∀ (n : Nat) (x2 : Int32) (x3 : Int32) (x4 : Int32), wL_X7_differences_21 σ k81 n x2 x3 x4 → ∀ (H : Heap) (locs : List Loc), gk_W D cI ad σ H → va_S (gk_A ad s.heap.size) s.heap H locs → ∀ (ls : Array Slot), lv_has ls 6 [(0, .ref (ad (7 + 0))), (1, .ref (ad (7 + 1))), (2, .int x2), (3, .int x3), (4, .int x4)] → W p l e rmX7_differences s m args below meth c H locs 0 0 (MQ below (va_Qi (fun r u => u = σ ∧ Q r) (gk_B D cI ad) (gk_A ad s.heap.size)) args s 0 0 (gk_A ad s.heap.size)) (F0 m 21 ls []) := by
  obtain ⟨hx, hb, hml, hown, hts, hr, hlocks⟩ := id C0
  intro n
  induction n with
  | zero => exact fun _ _ _ hw => False.elim hw
  | succ n ih =>
    intro x2 x3 x4 hw H locs hW hS ls hl
    refine lv_iload hx hb dX7_differences_21 (lv_at hl 4 rfl) ?_
    refine lv_iconst (v := 5) hx hb dX7_differences_23 (by decide) ?_
    refine lv_icmp_ge (tgt := 81) hx hb dX7_differences_24 (by decide) (fun c24 => ?_) (fun c24 => ?_)
    · have hw := hw.1 c24
      exact hk81 x2 x3 hw _ _ hW hS _ (lv_sub hl [0, 1, 2, 3] rfl)
    · have hw := hw.2 c24
      refine lv_iconst (v := 0) hx hb dX7_differences_27 (by decide) ?_
      refine lv_istore (lv' := [(5, .int 0), (0, .ref (ad (7 + 0))), (1, .ref (ad (7 + 1))), (2, .int x2), (3, .int x3), (4, .int x4)]) hx hb dX7_differences_28 hl (by decide) rfl (fun ls hl => ?_)
      obtain ⟨n30, hw⟩ := hw
      refine tL_X7_differences_30 C0 hK (hk75 := ?_) n30 x2 x3 x4 0 hw _ _ hW hS _ (lv_sub hl [1, 2, 3, 4, 5, 0] rfl)
      · intro x2 x3 x4 hw H locs hW hS ls hl
        refine lv_iinc (v := (x4 + 1)) (lv' := [(4, .int (x4 + 1)), (0, .ref (ad (7 + 0))), (1, .ref (ad (7 + 1))), (2, .int x2), (3, .int x3)]) hx hb dX7_differences_75 hl (k := 4) rfl rfl (by decide) rfl (fun ls hl => ?_)
        refine lv_goto (tgt := 21) hx hb dX7_differences_78 (by decide) ?_
        exact ih x2 x3 (x4 + 1) hw _ _ hW hS _ (lv_sub hl [1, 2, 3, 4, 0] rfl)
set_option maxHeartbeats 4000000 in
set_option maxRecDepth 100000 in
theorem tL_X7_differences_4 {p : Program} {l : Launch} {e : Env} {s : State} {m : MethodId} {args : Array Value} {below : List Frame} {meth : Method} {c : Code} {D : va_G} {cI cZ cG cL : ClassId} {ad : Nat → Nat} (C0 : gk_F p s m args meth c cX7_differences 6 (some .int) RX7) (hK : gk_K D cI cZ cG cL s) {σ : gk_C} {Q : Int32 → Prop} : ∀ (n : Nat) (x2 : Int32) (x3 : Int32), wL_X7_differences_4 σ Q n x2 x3 → ∀ (H : Heap) (locs : List Loc), gk_W D cI ad σ H → va_S (gk_A ad s.heap.size) s.heap H locs → ∀ (ls : Array Slot), lv_has ls 6 [(0, .ref (ad (7 + 0))), (1, .ref (ad (7 + 1))), (2, .int x2), (3, .int x3)] → W p l e rmX7_differences s m args below meth c H locs 0 0 (MQ below (va_Qi (fun r u => u = σ ∧ Q r) (gk_B D cI ad) (gk_A ad s.heap.size)) args s 0 0 (gk_A ad s.heap.size)) (F0 m 4 ls []) := by
  obtain ⟨hx, hb, hml, hown, hts, hr, hlocks⟩ := id C0
  intro n
  induction n with
  | zero => exact fun _ _ hw => False.elim hw
  | succ n ih =>
    intro x2 x3 hw H locs hW hS ls hl
    refine lv_iload_n hx hb dX7_differences_4 rfl (lv_at hl 3 rfl) ?_
    refine lv_aload_n hx hb dX7_differences_5 rfl (lv_at hl 0 rfl) ?_
    refine gk_get hx hb hts iwX7 hown hK.1 (gk_ov hW (v := 0) (by decide)) rfl 0 (by decide) (hts _ fl_X7_35) (fun _ h9 => h9) rfl dX7_differences_6 ?_
    refine gk_getN hx hb hts iwX4 hown hK.1 (gk_o1 hW) rfl 0 (by decide) (gk_nw hK nf_X7_50) (fun _ h9 => h9) rfl dX7_differences_9 ?_
    refine gk_getN hx hb hts iwX6 hown hK.1 (gk_o2 hW) rfl 0 (by decide) (gk_nw hK nf_X7_56) (fun _ h9 => h9) rfl dX7_differences_12 ?_
    refine lv_icmp_ge (tgt := 87) hx hb dX7_differences_15 (by decide) (fun c15 => ?_) (fun c15 => ?_)
    · have hw := hw.1 c15
      refine lv_iload_n hx hb dX7_differences_87 rfl (lv_at hl 2 rfl) ?_
      exact gk_reti C0 ⟨rfl, hw⟩ hW hS dX7_differences_88
    · have hw := hw.2 c15
      refine lv_iconst (v := 0) hx hb dX7_differences_18 (by decide) ?_
      refine lv_istore (lv' := [(4, .int 0), (0, .ref (ad (7 + 0))), (1, .ref (ad (7 + 1))), (2, .int x2), (3, .int x3)]) hx hb dX7_differences_19 hl (by decide) rfl (fun ls hl => ?_)
      obtain ⟨n21, hw⟩ := hw
      refine tL_X7_differences_21 C0 hK (hk81 := ?_) n21 x2 x3 0 hw _ _ hW hS _ (lv_sub hl [1, 2, 3, 4, 0] rfl)
      · intro x2 x3 hw H locs hW hS ls hl
        refine lv_iinc (v := (x3 + 1)) (lv' := [(3, .int (x3 + 1)), (0, .ref (ad (7 + 0))), (1, .ref (ad (7 + 1))), (2, .int x2)]) hx hb dX7_differences_81 hl (k := 3) rfl rfl (by decide) rfl (fun ls hl => ?_)
        refine lv_goto (tgt := 4) hx hb dX7_differences_84 (by decide) ?_
        exact ih x2 (x3 + 1) hw _ _ hW hS _ (lv_sub hl [1, 2, 3, 0] rfl)
set_option maxHeartbeats 4000000 in
set_option maxRecDepth 100000 in
theorem c_X7_differences (l : Launch) (D : va_G) (cI cZ cG cL : ClassId) (ad : Nat → Nat) {σ : gk_C} {Q : Int32 → Prop} {sz : Nat} (hw : w_X7_differences σ  Q) : Met l yX7_differences wsX7_differences rmX7_differences (gk_Pc D cI cZ cG cL ad [.ref (ad (7 + 0)), .ref (ad (7 + 1))] sz σ) (va_Qi (fun r u => u = σ ∧ Q r) (gk_B D cI ad) (gk_A ad sz)) 0 0 (gk_A ad sz) := by
  refine Met.ofW (cc := cX7_differences) (maxL := 6) (ret := (some .int)) (by decide) rfl ?_
  intro p e s m args below meth c s₁ B hml0 hv0
  obtain ⟨rfl, hsz, hW, hK⟩ := hv0
  subst hsz
  have C0 : gk_F p s m ([.ref (ad (7 + 0)), .ref (ad (7 + 1))] : List Value).toArray meth c cX7_differences 6 (some .int) RX7 := ⟨B.exec, B.bytes, hml0, findClass_of_methodNamed B.named, fun w hw => atoms_spec (ws := wsX7_differences) B.pre w (List.mem_cons_of_mem _ hw), B.returns, B.notSynchronized⟩
  obtain ⟨hx, hb, hml, hown, hts, hr, hlocks⟩ := id C0
  have hS : va_S (gk_A ad s.heap.size) s.heap s.heap [] := va_S.rf
  have hl := lv_entry ([.ref (ad (7 + 0)), .ref (ad (7 + 1))]) (n := 6) (Nat.le_of_ble_eq_true rfl)
  rw [lg_entry_eq]
  generalize (lg_sl ([.ref (ad (7 + 0)), .ref (ad (7 + 1))]) ++ List.replicate (6 - (lg_sl ([.ref (ad (7 + 0)), .ref (ad (7 + 1))])).length) Slot.unset).toArray = ls at hl ⊢
  have hl : lv_has ls 6 [(0, .ref (ad (7 + 0))), (1, .ref (ad (7 + 1)))] := hl
  show W p l e rmX7_differences s m _ below meth c s.heap [] 0 0 _ _
  refine lv_iconst (v := 0) hx hb dX7_differences_0 (by decide) ?_
  refine lv_istore_n (lv' := [(2, .int 0), (0, .ref (ad (7 + 0))), (1, .ref (ad (7 + 1)))]) hx hb dX7_differences_1 rfl hl (by decide) rfl (fun ls hl => ?_)
  refine lv_iconst (v := 0) hx hb dX7_differences_2 (by decide) ?_
  refine lv_istore_n (lv' := [(3, .int 0), (2, .int 0), (0, .ref (ad (7 + 0))), (1, .ref (ad (7 + 1)))]) hx hb dX7_differences_3 rfl hl (by decide) rfl (fun ls hl => ?_)
  obtain ⟨n4, hw⟩ := hw
  refine tL_X7_differences_4 C0 hK  n4 0 0 hw _ _ hW hS _ (lv_sub hl [2, 3, 1, 0] rfl)
def wL_X7_oppose_11 (v : Nat) (Q : gk_C → Prop) : Nat → gk_C → Int32 → Int32 → Int32 → Prop
  | 0 => fun _ _ _ _ => False
  | n + 1 => fun σ x1 x2 x3 => ((((σ.2 4) ≤ x3) → (Q σ)) ∧ ((¬ (σ.2 4) ≤ x3) → (((x2 = 0) → (Q σ)) ∧ ((¬ x2 = 0) → (w_X8_isIn (x1 &&& (σ.2 (10 + 4 * v))) x3 (fun r36 => ((r36 = 0) → (wL_X7_oppose_11 v Q n σ x1 x2 (x3 + 1))) ∧ ((¬ r36 = 0) → (wL_X7_oppose_11 v Q n (gk_put σ (31 + 6 * v) x3 ((gk_at σ (31 + 6 * v) x3) ||| x2)) x1 x2 (x3 + 1)))))))))
def w_X7_oppose (v : Nat) (σ : gk_C) (a0 : Int32) (Q : gk_C → Prop) : Prop := (∃ n11, wL_X7_oppose_11 v Q n11 σ a0 (a0 &&& ((σ.2 (10 + 4 * v)) ^^^ (-1))) 0)
abbrev rmX7_oppose : Room := { frames := 1, cells := 0, slots := 0, locals := 22 }
set_option maxHeartbeats 4000000 in
set_option maxRecDepth 100000 in
theorem tL_X7_oppose_11 {p : Program} {l : Launch} {e : Env} {s : State} {m : MethodId} {args : Array Value} {below : List Frame} {meth : Method} {c : Code} {D : va_G} {cI cZ cG cL : ClassId} {ad : Nat → Nat} (C0 : gk_F p s m args meth c cX7_oppose 4 none RX7) (hK : gk_K D cI cZ cG cL s) {v : Nat} (hv : v < 2) {Q : gk_C → Prop} : ∀ (n : Nat) (σ : gk_C) (x1 : Int32) (x2 : Int32) (x3 : Int32), wL_X7_oppose_11 v Q n σ x1 x2 x3 → ∀ (H : Heap) (locs : List Loc), gk_W D cI ad σ H → va_S (gk_A ad s.heap.size) s.heap H locs → ∀ (ls : Array Slot), lv_has ls 4 [(0, .ref (ad (7 + v))), (1, .int x1), (2, .int x2), (3, .int x3)] → W p l e rmX7_oppose s m args below meth c H locs 0 0 (MQ below (va_Qv (fun u => Q u) (gk_B D cI ad) (gk_A ad s.heap.size)) args s 0 0 (gk_A ad s.heap.size)) (F0 m 11 ls []) := by
  obtain ⟨hx, hb, hml, hown, hts, hr, hlocks⟩ := id C0
  intro n
  induction n with
  | zero => exact fun _ _ _ _ hw => False.elim hw
  | succ n ih =>
    intro σ x1 x2 x3 hw H locs hW hS ls hl
    refine lv_iload_n hx hb dX7_oppose_11 rfl (lv_at hl 3 rfl) ?_
    refine lv_aload_n hx hb dX7_oppose_12 rfl (lv_at hl 0 rfl) ?_
    refine gk_get hx hb hts iwX7 hown hK.1 (gk_ov hW (v := v) hv) rfl 0 (by decide) (hts _ fl_X7_35) (fun _ h9 => h9) rfl dX7_oppose_13 ?_
    refine gk_getN hx hb hts iwX4 hown hK.1 (gk_o1 hW) rfl 3 (by decide) (gk_nw hK nf_X7_87) (fun _ h9 => h9) rfl dX7_oppose_16 ?_
    refine gk_getN hx hb hts iwX3 hown hK.1 (gk_o5 hW) rfl 0 (by decide) (gk_nw hK nf_X7_91) (fun _ h9 => h9) rfl dX7_oppose_19 ?_
    refine lv_icmp_ge (tgt := 66) hx hb dX7_oppose_22 (by decide) (fun c22 => ?_) (fun c22 => ?_)
    · have hw := hw.1 c22
      exact gk_retv C0 hw hW hS dX7_oppose_66
    · have hw := hw.2 c22
      refine lv_iload_n hx hb dX7_oppose_25 rfl (lv_at hl 2 rfl) ?_
      refine lv_if_eq (tgt := 66) hx hb dX7_oppose_26 (by decide) (fun c26 => ?_) (fun c26 => ?_)
      · have hw := hw.1 c26
        exact gk_retv C0 hw hW hS dX7_oppose_66
      · have hw := hw.2 c26
        refine lv_iload_n hx hb dX7_oppose_29 rfl (lv_at hl 1 rfl) ?_
        refine lv_aload_n hx hb dX7_oppose_30 rfl (lv_at hl 0 rfl) ?_
        refine gk_get hx hb hts iwX7 hown hK.1 (gk_ov hW (v := v) hv) rfl 9 (by decide) (hts _ fl_X7_80) (fun _ h9 => h9) rfl dX7_oppose_31 ?_
        refine lv_iand hx hb dX7_oppose_34 ?_
        refine lv_iload_n hx hb dX7_oppose_35 rfl (lv_at hl 3 rfl) ?_
        refine gk_callSNi ⟨hx, hb, hml, hown, hts⟩ (c_X8_isIn l hw) ⟨va_cnB 2 hts (gk_gI co_X8_isIn) rfl rfl rfl (gk_nw hK nm_X7_94) (hts _ in_X8) (by decide +kernel) ⟨Nat.le_of_ble_eq_true rfl, Nat.le_of_ble_eq_true rfl⟩, hts _ st_X8_isIn, trivial⟩ hS rfl hl.1 (rest := []) rfl (lv_room (Nat.le_of_ble_eq_true rfl)) dX7_oppose_36 ⟨Nat.zero_le _, Nat.zero_le _⟩ (fun r36 H locs hw _ hk hS => ?_)
        have hW := hW.kept (fun k hk9 => hk _ (hW.lt hk9))
        refine lv_if_eq (tgt := 60) hx hb dX7_oppose_39 (by decide) (fun c39 => ?_) (fun c39 => ?_)
        · have hw := hw.1 c39
          refine lv_iinc (v := (x3 + 1)) (lv' := [(3, .int (x3 + 1)), (0, .ref (ad (7 + v))), (1, .int x1), (2, .int x2)]) hx hb dX7_oppose_60 hl (k := 3) rfl rfl (by decide) rfl (fun ls hl => ?_)
          refine lv_goto (tgt := 11) hx hb dX7_oppose_63 (by decide) ?_
          exact ih σ x1 x2 (x3 + 1) hw _ _ hW hS _ (lv_sub hl [1, 2, 3, 0] rfl)
        · have hw := hw.2 c39
          refine lv_aload_n hx hb dX7_oppose_42 rfl (lv_at hl 0 rfl) ?_
          refine gk_get hx hb hts iwX7 hown hK.1 (gk_ov hW (v := v) hv) rfl 6 (by decide) (hts _ fl_X7_32) (fun _ h9 => h9) rfl dX7_oppose_43 ?_
          refine lv_iload_n hx hb dX7_oppose_46 rfl (lv_at hl 3 rfl) ?_
          refine lv_aload_n hx hb dX7_oppose_47 rfl (lv_at hl 0 rfl) ?_
          refine gk_get hx hb hts iwX7 hown hK.1 (gk_ov hW (v := v) hv) rfl 6 (by decide) (hts _ fl_X7_32) (fun _ h9 => h9) rfl dX7_oppose_48 ?_
          refine lv_iload_n hx hb dX7_oppose_51 rfl (lv_at hl 3 rfl) ?_
          refine gk_callRi ⟨hx, hb, hml, hown, hts⟩ (c_X2_at l D cI cZ cG cL ad (σ := σ) (r := (31 + 6 * v)) (i := x3) (by omega)) (cwV 1 hts (gk_gV ml_X7_64 im_X2_at se_X2_at in_X2 co_X2_at) rfl rfl rfl (by decide +kernel) ⟨Nat.le_of_ble_eq_true rfl, Nat.le_of_ble_eq_true rfl⟩) (gk_recv hK.1 (gk_or hW (r := (31 + 6 * v)) (by omega)) rfl) hW hK hS rfl hl.1 (rest := [.int x3, .ref (ad (9 + (31 + 6 * v)))]) rfl (lv_room (Nat.le_of_ble_eq_true rfl)) dX7_oppose_52 ⟨Nat.zero_le _, Nat.zero_le _⟩ (fun r52 H locs hq hW _ hS => ?_)
          obtain rfl := hq
          refine lv_iload_n hx hb dX7_oppose_55 rfl (lv_at hl 2 rfl) ?_
          refine lv_ior hx hb dX7_oppose_56 ?_
          refine gk_callVv ⟨hx, hb, hml, hown, hts⟩ (c_X2_put l D cI cZ cG cL ad (σ := σ) (r := (31 + 6 * v)) (i := x3) (x := ((gk_at σ (31 + 6 * v) x3) ||| x2)) (by omega)) (cwV 2 hts (gk_gV ml_X7_110 im_X2_put se_X2_put in_X2 co_X2_put) rfl rfl rfl (by decide +kernel) ⟨Nat.le_of_ble_eq_true rfl, Nat.le_of_ble_eq_true rfl⟩) (gk_recv hK.1 (gk_or hW (r := (31 + 6 * v)) (by omega)) rfl) hW hK hS rfl hl.1 (rest := []) rfl (lv_room (Nat.le_of_ble_eq_true rfl)) dX7_oppose_57 ⟨Nat.zero_le _, Nat.zero_le _⟩ (fun u H locs hq hW _ hS => ?_)
          rw [hq] at hW
          refine lv_iinc (v := (x3 + 1)) (lv' := [(3, .int (x3 + 1)), (0, .ref (ad (7 + v))), (1, .int x1), (2, .int x2)]) hx hb dX7_oppose_60 hl (k := 3) rfl rfl (by decide) rfl (fun ls hl => ?_)
          refine lv_goto (tgt := 11) hx hb dX7_oppose_63 (by decide) ?_
          exact ih (gk_put σ (31 + 6 * v) x3 ((gk_at σ (31 + 6 * v) x3) ||| x2)) x1 x2 (x3 + 1) hw _ _ hW hS _ (lv_sub hl [1, 2, 3, 0] rfl)
set_option maxHeartbeats 4000000 in
set_option maxRecDepth 100000 in
theorem c_X7_oppose (l : Launch) (D : va_G) (cI cZ cG cL : ClassId) (ad : Nat → Nat) {v : Nat} (hv : v < 2) {σ : gk_C} {a0 : Int32} {Q : gk_C → Prop} {sz : Nat} (hw : w_X7_oppose v σ a0 Q) : Met l yX7_oppose wsX7_oppose rmX7_oppose (gk_Pc D cI cZ cG cL ad [.ref (ad (7 + v)), .int a0] sz σ) (va_Qv (fun u => Q u) (gk_B D cI ad) (gk_A ad sz)) 0 0 (gk_A ad sz) := by
  refine Met.ofW (cc := cX7_oppose) (maxL := 4) (ret := none) (by decide) rfl ?_
  intro p e s m args below meth c s₁ B hml0 hv0
  obtain ⟨rfl, hsz, hW, hK⟩ := hv0
  subst hsz
  have C0 : gk_F p s m ([.ref (ad (7 + v)), .int a0] : List Value).toArray meth c cX7_oppose 4 none RX7 := ⟨B.exec, B.bytes, hml0, findClass_of_methodNamed B.named, fun w hw => atoms_spec (ws := wsX7_oppose) B.pre w (List.mem_cons_of_mem _ hw), B.returns, B.notSynchronized⟩
  obtain ⟨hx, hb, hml, hown, hts, hr, hlocks⟩ := id C0
  have hS : va_S (gk_A ad s.heap.size) s.heap s.heap [] := va_S.rf
  have hl := lv_entry ([.ref (ad (7 + v)), .int a0]) (n := 4) (Nat.le_of_ble_eq_true rfl)
  rw [lg_entry_eq]
  generalize (lg_sl ([.ref (ad (7 + v)), .int a0]) ++ List.replicate (4 - (lg_sl ([.ref (ad (7 + v)), .int a0])).length) Slot.unset).toArray = ls at hl ⊢
  have hl : lv_has ls 4 [(0, .ref (ad (7 + v))), (1, .int a0)] := hl
  show W p l e rmX7_oppose s m _ below meth c s.heap [] 0 0 _ _
  refine lv_iload_n hx hb dX7_oppose_0 rfl (lv_at hl 1 rfl) ?_
  refine lv_aload_n hx hb dX7_oppose_1 rfl (lv_at hl 0 rfl) ?_
  refine gk_get hx hb hts iwX7 hown hK.1 (gk_ov hW (v := v) hv) rfl 9 (by decide) (hts _ fl_X7_80) (fun _ h9 => h9) rfl dX7_oppose_2 ?_
  refine lv_iconst (v := (-1)) hx hb dX7_oppose_5 (by decide) ?_
  refine lv_ixor hx hb dX7_oppose_6 ?_
  refine lv_iand hx hb dX7_oppose_7 ?_
  refine lv_istore_n (lv' := [(2, .int (a0 &&& ((σ.2 (10 + 4 * v)) ^^^ (-1)))), (0, .ref (ad (7 + v))), (1, .int a0)]) hx hb dX7_oppose_8 rfl hl (by decide) rfl (fun ls hl => ?_)
  refine lv_iconst (v := 0) hx hb dX7_oppose_9 (by decide) ?_
  refine lv_istore_n (lv' := [(3, .int 0), (2, .int (a0 &&& ((σ.2 (10 + 4 * v)) ^^^ (-1)))), (0, .ref (ad (7 + v))), (1, .int a0)]) hx hb dX7_oppose_10 rfl hl (by decide) rfl (fun ls hl => ?_)
  obtain ⟨n11, hw⟩ := hw
  refine tL_X7_oppose_11 C0 hK hv  n11 σ a0 (a0 &&& ((σ.2 (10 + 4 * v)) ^^^ (-1))) 0 hw _ _ hW hS _ (lv_sub hl [2, 3, 1, 0] rfl)
def wL_X7_opposedPairs_32 (v : Nat) (k63 : gk_C → Int32 → Int32 → Prop) : Nat → gk_C → Int32 → Int32 → Int32 → Prop
  | 0 => fun _ _ _ _ => False
  | n + 1 => fun σ x1 x2 x3 => ((((σ.2 3) ≤ x3) → (k63 σ x1 x2)) ∧ ((¬ (σ.2 3) ≤ x3) → (w_X7_matching v σ x1 x2 x3 (fun r51 => w_X7_oppose v σ r51 (fun σ54 => wL_X7_opposedPairs_32 v k63 n σ54 x1 x2 (x3 + 1))))))
def wL_X7_opposedPairs_25 (v : Nat) (k69 : gk_C → Int32 → Prop) : Nat → gk_C → Int32 → Int32 → Prop
  | 0 => fun _ _ _ => False
  | n + 1 => fun σ x1 x2 => (((5 ≤ x2) → (k69 σ x1)) ∧ ((¬ 5 ≤ x2) → (∃ n32, wL_X7_opposedPairs_32 v (fun σ x1 x2 => (wL_X7_opposedPairs_25 v k69 n σ x1 (x2 + 1))) n32 σ x1 x2 0)))
def wL_X7_opposedPairs_9 (v : Nat) (k75 : gk_C → Prop) : Nat → gk_C → Int32 → Prop
  | 0 => fun _ _ => False
  | n + 1 => fun σ x1 => ((((σ.2 0) ≤ x1) → (k75 σ)) ∧ ((¬ (σ.2 0) ≤ x1) → (∃ n25, wL_X7_opposedPairs_25 v (fun σ x1 => (wL_X7_opposedPairs_9 v k75 n σ (x1 + 1))) n25 σ x1 0)))
def wL_X7_opposedPairs_79 (v : Nat) (Q : Int32 → gk_C → Prop) : Nat → gk_C → Int32 → Int32 → Prop
  | 0 => fun _ _ _ => False
  | n + 1 => fun σ x1 x2 => ((((σ.2 4) ≤ x2) → (Q x1 σ)) ∧ ((¬ (σ.2 4) ≤ x2) → (w_J6_bitCount_0f7a4 (gk_at σ (31 + 6 * v) x2) (fun r102 => wL_X7_opposedPairs_79 v Q n σ (x1 + r102) (x2 + 1)))))
def w_X7_opposedPairs (v : Nat) (σ : gk_C)  (Q : Int32 → gk_C → Prop) : Prop := (∃ n9, wL_X7_opposedPairs_9 v (fun σ => (∃ n79, wL_X7_opposedPairs_79 v Q n79 σ 0 0)) n9 (gk_clr σ (31 + 6 * v)) 0)
abbrev rmX7_opposedPairs : Room := { frames := 2, cells := 0, slots := 0, locals := 45 }
set_option maxHeartbeats 4000000 in
set_option maxRecDepth 100000 in
theorem tL_X7_opposedPairs_32 {p : Program} {l : Launch} {e : Env} {s : State} {m : MethodId} {args : Array Value} {below : List Frame} {meth : Method} {c : Code} {D : va_G} {cI cZ cG cL : ClassId} {ad : Nat → Nat} (C0 : gk_F p s m args meth c cX7_opposedPairs 4 (some .int) RX7) (hK : gk_K D cI cZ cG cL s) {v : Nat} (hv : v < 2) {Q : Int32 → gk_C → Prop} {k63 : gk_C → Int32 → Int32 → Prop} (hk63 : ∀ (σ : gk_C) (x1 : Int32) (x2 : Int32), k63 σ x1 x2 → ∀ (H : Heap) (locs : List Loc), gk_W D cI ad σ H → va_S (gk_A ad s.heap.size) s.heap H locs → ∀ (ls : Array Slot), lv_has ls 4 [(0, .ref (ad (7 + v))), (1, .int x1), (2, .int x2)] → W p l e rmX7_opposedPairs s m args below meth c H locs 0 0 (MQ below (va_Qi (fun r u => Q r u) (gk_B D cI ad) (gk_A ad s.heap.size)) args s 0 0 (gk_A ad s.heap.size)) (F0 m 63 ls [])) : ∀ (n : Nat) (σ : gk_C) (x1 : Int32) (x2 : Int32) (x3 : Int32), wL_X7_opposedPairs_32 v k63 n σ x1 x2 x3 → ∀ (H : Heap) (locs : List Loc), gk_W D cI ad σ H → va_S (gk_A ad s.heap.size) s.heap H locs → ∀ (ls : Array Slot), lv_has ls 4 [(0, .ref (ad (7 + v))), (1, .int x1), (2, .int x2), (3, .int x3)] → W p l e rmX7_opposedPairs s m args below meth c H locs 0 0 (MQ below (va_Qi (fun r u => Q r u) (gk_B D cI ad) (gk_A ad s.heap.size)) args s 0 0 (gk_A ad s.heap.size)) (F0 m 32 ls []) := by
  obtain ⟨hx, hb, hml, hown, hts, hr, hlocks⟩ := id C0
  intro n
  induction n with
  | zero => exact fun _ _ _ _ hw => False.elim hw
  | succ n ih =>
    intro σ x1 x2 x3 hw H locs hW hS ls hl
    refine lv_iload_n hx hb dX7_opposedPairs_32 rfl (lv_at hl 3 rfl) ?_
    refine lv_aload_n hx hb dX7_opposedPairs_33 rfl (lv_at hl 0 rfl) ?_
    refine gk_get hx hb hts iwX7 hown hK.1 (gk_ov hW (v := v) hv) rfl 0 (by decide) (hts _ fl_X7_35) (fun _ h9 => h9) rfl dX7_opposedPairs_34 ?_
    refine gk_getN hx hb hts iwX4 hown hK.1 (gk_o1 hW) rfl 2 (by decide) (gk_nw hK nf_X7_119) (fun _ h9 => h9) rfl dX7_opposedPairs_37 ?_
    refine gk_getN hx hb hts iwX5 hown hK.1 (gk_o4 hW) rfl 0 (by decide) (gk_nw hK nf_X7_123) (fun _ h9 => h9) rfl dX7_opposedPairs_40 ?_
    refine lv_icmp_ge (tgt := 63) hx hb dX7_opposedPairs_43 (by decide) (fun c43 => ?_) (fun c43 => ?_)
    · have hw := hw.1 c43
      exact hk63 σ x1 x2 hw _ _ hW hS _ (lv_sub hl [0, 1, 2] rfl)
    · have hw := hw.2 c43
      refine lv_aload_n hx hb dX7_opposedPairs_46 rfl (lv_at hl 0 rfl) ?_
      refine lv_aload_n hx hb dX7_opposedPairs_47 rfl (lv_at hl 0 rfl) ?_
      refine lv_iload_n hx hb dX7_opposedPairs_48 rfl (lv_at hl 1 rfl) ?_
      refine lv_iload_n hx hb dX7_opposedPairs_49 rfl (lv_at hl 2 rfl) ?_
      refine lv_iload_n hx hb dX7_opposedPairs_50 rfl (lv_at hl 3 rfl) ?_
      refine gk_callRi ⟨hx, hb, hml, hown, hts⟩ (c_X7_matching l D cI cZ cG cL ad hv hw) (cwV 3 hts (gk_gV ml_X7_212 im_X7_matching se_X7_matching in_X7 co_X7_matching) rfl rfl rfl (by decide +kernel) ⟨Nat.le_of_ble_eq_true rfl, Nat.le_of_ble_eq_true rfl⟩) (gk_recv hK.1 (gk_ov hW (v := v) hv) rfl) hW hK hS rfl hl.1 (rest := [.ref (ad (7 + v))]) rfl (lv_room (Nat.le_of_ble_eq_true rfl)) dX7_opposedPairs_51 ⟨Nat.zero_le _, Nat.zero_le _⟩ (fun r51 H locs hw hW _ hS => ?_)
      refine gk_callVv ⟨hx, hb, hml, hown, hts⟩ (c_X7_oppose l D cI cZ cG cL ad hv hw) (cwV 1 hts (gk_gV ml_X7_233 im_X7_oppose se_X7_oppose in_X7 co_X7_oppose) rfl rfl rfl (by decide +kernel) ⟨Nat.le_of_ble_eq_true rfl, Nat.le_of_ble_eq_true rfl⟩) (gk_recv hK.1 (gk_ov hW (v := v) hv) rfl) hW hK hS rfl hl.1 (rest := []) rfl (lv_room (Nat.le_of_ble_eq_true rfl)) dX7_opposedPairs_54 ⟨Nat.zero_le _, Nat.zero_le _⟩ (fun σ54 H locs hw hW _ hS => ?_)
      refine lv_iinc (v := (x3 + 1)) (lv' := [(3, .int (x3 + 1)), (0, .ref (ad (7 + v))), (1, .int x1), (2, .int x2)]) hx hb dX7_opposedPairs_57 hl (k := 3) rfl rfl (by decide) rfl (fun ls hl => ?_)
      refine lv_goto (tgt := 32) hx hb dX7_opposedPairs_60 (by decide) ?_
      exact ih σ54 x1 x2 (x3 + 1) hw _ _ hW hS _ (lv_sub hl [1, 2, 3, 0] rfl)
set_option maxHeartbeats 4000000 in
set_option maxRecDepth 100000 in
theorem tL_X7_opposedPairs_25 {p : Program} {l : Launch} {e : Env} {s : State} {m : MethodId} {args : Array Value} {below : List Frame} {meth : Method} {c : Code} {D : va_G} {cI cZ cG cL : ClassId} {ad : Nat → Nat} (C0 : gk_F p s m args meth c cX7_opposedPairs 4 (some .int) RX7) (hK : gk_K D cI cZ cG cL s) {v : Nat} (hv : v < 2) {Q : Int32 → gk_C → Prop} {k69 : gk_C → Int32 → Prop} (hk69 : ∀ (σ : gk_C) (x1 : Int32), k69 σ x1 → ∀ (H : Heap) (locs : List Loc), gk_W D cI ad σ H → va_S (gk_A ad s.heap.size) s.heap H locs → ∀ (ls : Array Slot), lv_has ls 4 [(0, .ref (ad (7 + v))), (1, .int x1)] → W p l e rmX7_opposedPairs s m args below meth c H locs 0 0 (MQ below (va_Qi (fun r u => Q r u) (gk_B D cI ad) (gk_A ad s.heap.size)) args s 0 0 (gk_A ad s.heap.size)) (F0 m 69 ls [])) : ∀ (n : Nat) (σ : gk_C) (x1 : Int32) (x2 : Int32), wL_X7_opposedPairs_25 v k69 n σ x1 x2 → ∀ (H : Heap) (locs : List Loc), gk_W D cI ad σ H → va_S (gk_A ad s.heap.size) s.heap H locs → ∀ (ls : Array Slot), lv_has ls 4 [(0, .ref (ad (7 + v))), (1, .int x1), (2, .int x2)] → W p l e rmX7_opposedPairs s m args below meth c H locs 0 0 (MQ below (va_Qi (fun r u => Q r u) (gk_B D cI ad) (gk_A ad s.heap.size)) args s 0 0 (gk_A ad s.heap.size)) (F0 m 25 ls []) := by
  obtain ⟨hx, hb, hml, hown, hts, hr, hlocks⟩ := id C0
  intro n
  induction n with
  | zero => exact fun _ _ _ hw => False.elim hw
  | succ n ih =>
    intro σ x1 x2 hw H locs hW hS ls hl
    refine lv_iload_n hx hb dX7_opposedPairs_25 rfl (lv_at hl 2 rfl) ?_
    refine lv_iconst (v := 5) hx hb dX7_opposedPairs_26 (by decide) ?_
    refine lv_icmp_ge (tgt := 69) hx hb dX7_opposedPairs_27 (by decide) (fun c27 => ?_) (fun c27 => ?_)
    · have hw := hw.1 c27
      exact hk69 σ x1 hw _ _ hW hS _ (lv_sub hl [0, 1] rfl)
    · have hw := hw.2 c27
      refine lv_iconst (v := 0) hx hb dX7_opposedPairs_30 (by decide) ?_
      refine lv_istore_n (lv' := [(3, .int 0), (0, .ref (ad (7 + v))), (1, .int x1), (2, .int x2)]) hx hb dX7_opposedPairs_31 rfl hl (by decide) rfl (fun ls hl => ?_)
      obtain ⟨n32, hw⟩ := hw
      refine tL_X7_opposedPairs_32 C0 hK hv (hk63 := ?_) n32 σ x1 x2 0 hw _ _ hW hS _ (lv_sub hl [1, 2, 3, 0] rfl)
      · intro σ x1 x2 hw H locs hW hS ls hl
        refine lv_iinc (v := (x2 + 1)) (lv' := [(2, .int (x2 + 1)), (0, .ref (ad (7 + v))), (1, .int x1)]) hx hb dX7_opposedPairs_63 hl (k := 2) rfl rfl (by decide) rfl (fun ls hl => ?_)
        refine lv_goto (tgt := 25) hx hb dX7_opposedPairs_66 (by decide) ?_
        exact ih σ x1 (x2 + 1) hw _ _ hW hS _ (lv_sub hl [1, 2, 0] rfl)
set_option maxHeartbeats 4000000 in
set_option maxRecDepth 100000 in
theorem tL_X7_opposedPairs_9 {p : Program} {l : Launch} {e : Env} {s : State} {m : MethodId} {args : Array Value} {below : List Frame} {meth : Method} {c : Code} {D : va_G} {cI cZ cG cL : ClassId} {ad : Nat → Nat} (C0 : gk_F p s m args meth c cX7_opposedPairs 4 (some .int) RX7) (hK : gk_K D cI cZ cG cL s) {v : Nat} (hv : v < 2) {Q : Int32 → gk_C → Prop} {k75 : gk_C → Prop} (hk75 : ∀ (σ : gk_C), k75 σ → ∀ (H : Heap) (locs : List Loc), gk_W D cI ad σ H → va_S (gk_A ad s.heap.size) s.heap H locs → ∀ (ls : Array Slot), lv_has ls 4 [(0, .ref (ad (7 + v)))] → W p l e rmX7_opposedPairs s m args below meth c H locs 0 0 (MQ below (va_Qi (fun r u => Q r u) (gk_B D cI ad) (gk_A ad s.heap.size)) args s 0 0 (gk_A ad s.heap.size)) (F0 m 75 ls [])) : ∀ (n : Nat) (σ : gk_C) (x1 : Int32), wL_X7_opposedPairs_9 v k75 n σ x1 → ∀ (H : Heap) (locs : List Loc), gk_W D cI ad σ H → va_S (gk_A ad s.heap.size) s.heap H locs → ∀ (ls : Array Slot), lv_has ls 4 [(0, .ref (ad (7 + v))), (1, .int x1)] → W p l e rmX7_opposedPairs s m args below meth c H locs 0 0 (MQ below (va_Qi (fun r u => Q r u) (gk_B D cI ad) (gk_A ad s.heap.size)) args s 0 0 (gk_A ad s.heap.size)) (F0 m 9 ls []) := by
  obtain ⟨hx, hb, hml, hown, hts, hr, hlocks⟩ := id C0
  intro n
  induction n with
  | zero => exact fun _ _ hw => False.elim hw
  | succ n ih =>
    intro σ x1 hw H locs hW hS ls hl
    refine lv_iload_n hx hb dX7_opposedPairs_9 rfl (lv_at hl 1 rfl) ?_
    refine lv_aload_n hx hb dX7_opposedPairs_10 rfl (lv_at hl 0 rfl) ?_
    refine gk_get hx hb hts iwX7 hown hK.1 (gk_ov hW (v := v) hv) rfl 0 (by decide) (hts _ fl_X7_35) (fun _ h9 => h9) rfl dX7_opposedPairs_11 ?_
    refine gk_getN hx hb hts iwX4 hown hK.1 (gk_o1 hW) rfl 0 (by decide) (gk_nw hK nf_X7_50) (fun _ h9 => h9) rfl dX7_opposedPairs_14 ?_
    refine gk_getN hx hb hts iwX6 hown hK.1 (gk_o2 hW) rfl 0 (by decide) (gk_nw hK nf_X7_56) (fun _ h9 => h9) rfl dX7_opposedPairs_17 ?_
    refine lv_icmp_ge (tgt := 75) hx hb dX7_opposedPairs_20 (by decide) (fun c20 => ?_) (fun c20 => ?_)
    · have hw := hw.1 c20
      exact hk75 σ hw _ _ hW hS _ (lv_sub hl [0] rfl)
    · have hw := hw.2 c20
      refine lv_iconst (v := 0) hx hb dX7_opposedPairs_23 (by decide) ?_
      refine lv_istore_n (lv' := [(2, .int 0), (0, .ref (ad (7 + v))), (1, .int x1)]) hx hb dX7_opposedPairs_24 rfl hl (by decide) rfl (fun ls hl => ?_)
      obtain ⟨n25, hw⟩ := hw
      refine tL_X7_opposedPairs_25 C0 hK hv (hk69 := ?_) n25 σ x1 0 hw _ _ hW hS _ (lv_sub hl [1, 2, 0] rfl)
      · intro σ x1 hw H locs hW hS ls hl
        refine lv_iinc (v := (x1 + 1)) (lv' := [(1, .int (x1 + 1)), (0, .ref (ad (7 + v)))]) hx hb dX7_opposedPairs_69 hl (k := 1) rfl rfl (by decide) rfl (fun ls hl => ?_)
        refine lv_goto (tgt := 9) hx hb dX7_opposedPairs_72 (by decide) ?_
        exact ih σ (x1 + 1) hw _ _ hW hS _ (lv_sub hl [1, 0] rfl)
set_option maxHeartbeats 4000000 in
set_option maxRecDepth 100000 in
theorem tL_X7_opposedPairs_79 {p : Program} {l : Launch} {e : Env} {s : State} {m : MethodId} {args : Array Value} {below : List Frame} {meth : Method} {c : Code} {D : va_G} {cI cZ cG cL : ClassId} {ad : Nat → Nat} (C0 : gk_F p s m args meth c cX7_opposedPairs 4 (some .int) RX7) (hK : gk_K D cI cZ cG cL s) {v : Nat} (hv : v < 2) {Q : Int32 → gk_C → Prop} : ∀ (n : Nat) (σ : gk_C) (x1 : Int32) (x2 : Int32), wL_X7_opposedPairs_79 v Q n σ x1 x2 → ∀ (H : Heap) (locs : List Loc), gk_W D cI ad σ H → va_S (gk_A ad s.heap.size) s.heap H locs → ∀ (ls : Array Slot), lv_has ls 4 [(0, .ref (ad (7 + v))), (1, .int x1), (2, .int x2)] → W p l e rmX7_opposedPairs s m args below meth c H locs 0 0 (MQ below (va_Qi (fun r u => Q r u) (gk_B D cI ad) (gk_A ad s.heap.size)) args s 0 0 (gk_A ad s.heap.size)) (F0 m 79 ls []) := by
  obtain ⟨hx, hb, hml, hown, hts, hr, hlocks⟩ := id C0
  intro n
  induction n with
  | zero => exact fun _ _ _ hw => False.elim hw
  | succ n ih =>
    intro σ x1 x2 hw H locs hW hS ls hl
    refine lv_iload_n hx hb dX7_opposedPairs_79 rfl (lv_at hl 2 rfl) ?_
    refine lv_aload_n hx hb dX7_opposedPairs_80 rfl (lv_at hl 0 rfl) ?_
    refine gk_get hx hb hts iwX7 hown hK.1 (gk_ov hW (v := v) hv) rfl 0 (by decide) (hts _ fl_X7_35) (fun _ h9 => h9) rfl dX7_opposedPairs_81 ?_
    refine gk_getN hx hb hts iwX4 hown hK.1 (gk_o1 hW) rfl 3 (by decide) (gk_nw hK nf_X7_87) (fun _ h9 => h9) rfl dX7_opposedPairs_84 ?_
    refine gk_getN hx hb hts iwX3 hown hK.1 (gk_o5 hW) rfl 0 (by decide) (gk_nw hK nf_X7_91) (fun _ h9 => h9) rfl dX7_opposedPairs_87 ?_
    refine lv_icmp_ge (tgt := 113) hx hb dX7_opposedPairs_90 (by decide) (fun c90 => ?_) (fun c90 => ?_)
    · have hw := hw.1 c90
      refine lv_iload_n hx hb dX7_opposedPairs_113 rfl (lv_at hl 1 rfl) ?_
      exact gk_reti C0 hw hW hS dX7_opposedPairs_114
    · have hw := hw.2 c90
      refine lv_iload_n hx hb dX7_opposedPairs_93 rfl (lv_at hl 1 rfl) ?_
      refine lv_aload_n hx hb dX7_opposedPairs_94 rfl (lv_at hl 0 rfl) ?_
      refine gk_get hx hb hts iwX7 hown hK.1 (gk_ov hW (v := v) hv) rfl 6 (by decide) (hts _ fl_X7_32) (fun _ h9 => h9) rfl dX7_opposedPairs_95 ?_
      refine lv_iload_n hx hb dX7_opposedPairs_98 rfl (lv_at hl 2 rfl) ?_
      refine gk_callRi ⟨hx, hb, hml, hown, hts⟩ (c_X2_at l D cI cZ cG cL ad (σ := σ) (r := (31 + 6 * v)) (i := x2) (by omega)) (cwV 1 hts (gk_gV ml_X7_64 im_X2_at se_X2_at in_X2 co_X2_at) rfl rfl rfl (by decide +kernel) ⟨Nat.le_of_ble_eq_true rfl, Nat.le_of_ble_eq_true rfl⟩) (gk_recv hK.1 (gk_or hW (r := (31 + 6 * v)) (by omega)) rfl) hW hK hS rfl hl.1 (rest := [.int x1]) rfl (lv_room (Nat.le_of_ble_eq_true rfl)) dX7_opposedPairs_99 ⟨Nat.zero_le _, Nat.zero_le _⟩ (fun r99 H locs hq hW _ hS => ?_)
      obtain rfl := hq
      refine gk_callSi ⟨hx, hb, hml, hown, hts⟩ (c_J6_bitCount_0f7a4 l hw) (va_cwS 1 hts (gk_gS ml_X7_236 st_J6_bitCount_0f7a4 in_J6 co_J6_bitCount_0f7a4) rfl rfl rfl (by decide +kernel) ⟨Nat.le_of_ble_eq_true rfl, Nat.le_of_ble_eq_true rfl⟩) hS rfl hl.1 (rest := [.int x1]) rfl (lv_room (Nat.le_of_ble_eq_true rfl)) dX7_opposedPairs_102 ⟨Nat.zero_le _, Nat.zero_le _⟩ (fun r102 H locs hw _ hk hS => ?_)
      have hW := hW.kept (fun k hk9 => hk _ (hW.lt hk9))
      refine lv_iadd hx hb dX7_opposedPairs_105 ?_
      refine lv_istore_n (lv' := [(1, .int (x1 + r102)), (0, .ref (ad (7 + v))), (2, .int x2)]) hx hb dX7_opposedPairs_106 rfl hl (by decide) rfl (fun ls hl => ?_)
      refine lv_iinc (v := (x2 + 1)) (lv' := [(2, .int (x2 + 1)), (1, .int (x1 + r102)), (0, .ref (ad (7 + v)))]) hx hb dX7_opposedPairs_107 hl (k := 2) rfl rfl (by decide) rfl (fun ls hl => ?_)
      refine lv_goto (tgt := 79) hx hb dX7_opposedPairs_110 (by decide) ?_
      exact ih σ (x1 + r102) (x2 + 1) hw _ _ hW hS _ (lv_sub hl [2, 1, 0] rfl)
set_option maxHeartbeats 4000000 in
set_option maxRecDepth 100000 in
theorem c_X7_opposedPairs (l : Launch) (D : va_G) (cI cZ cG cL : ClassId) (ad : Nat → Nat) {v : Nat} (hv : v < 2) {σ : gk_C} {Q : Int32 → gk_C → Prop} {sz : Nat} (hw : w_X7_opposedPairs v σ  Q) : Met l yX7_opposedPairs wsX7_opposedPairs rmX7_opposedPairs (gk_Pc D cI cZ cG cL ad [.ref (ad (7 + v))] sz σ) (va_Qi (fun r u => Q r u) (gk_B D cI ad) (gk_A ad sz)) 0 0 (gk_A ad sz) := by
  refine Met.ofW (cc := cX7_opposedPairs) (maxL := 4) (ret := (some .int)) (by decide) rfl ?_
  intro p e s m args below meth c s₁ B hml0 hv0
  obtain ⟨rfl, hsz, hW, hK⟩ := hv0
  subst hsz
  have C0 : gk_F p s m ([.ref (ad (7 + v))] : List Value).toArray meth c cX7_opposedPairs 4 (some .int) RX7 := ⟨B.exec, B.bytes, hml0, findClass_of_methodNamed B.named, fun w hw => atoms_spec (ws := wsX7_opposedPairs) B.pre w (List.mem_cons_of_mem _ hw), B.returns, B.notSynchronized⟩
  obtain ⟨hx, hb, hml, hown, hts, hr, hlocks⟩ := id C0
  have hS : va_S (gk_A ad s.heap.size) s.heap s.heap [] := va_S.rf
  have hl := lv_entry ([.ref (ad (7 + v))]) (n := 4) (Nat.le_of_ble_eq_true rfl)
  rw [lg_entry_eq]
  generalize (lg_sl ([.ref (ad (7 + v))]) ++ List.replicate (4 - (lg_sl ([.ref (ad (7 + v))])).length) Slot.unset).toArray = ls at hl ⊢
  have hl : lv_has ls 4 [(0, .ref (ad (7 + v)))] := hl
  show W p l e rmX7_opposedPairs s m _ below meth c s.heap [] 0 0 _ _
  refine lv_aload_n hx hb dX7_opposedPairs_0 rfl (lv_at hl 0 rfl) ?_
  refine gk_get hx hb hts iwX7 hown hK.1 (gk_ov hW (v := v) hv) rfl 6 (by decide) (hts _ fl_X7_32) (fun _ h9 => h9) rfl dX7_opposedPairs_1 ?_
  refine gk_callVv ⟨hx, hb, hml, hown, hts⟩ (c_X2_clear l D cI cZ cG cL ad (σ := σ) (r := (31 + 6 * v)) (by omega)) (cwV 0 hts (gk_gV ml_X7_74 im_X2_clear se_X2_clear in_X2 co_X2_clear) rfl rfl rfl (by decide +kernel) ⟨Nat.le_of_ble_eq_true rfl, Nat.le_of_ble_eq_true rfl⟩) (gk_recv hK.1 (gk_or hW (r := (31 + 6 * v)) (by omega)) rfl) hW hK hS rfl hl.1 (rest := []) rfl (lv_room (Nat.le_of_ble_eq_true rfl)) dX7_opposedPairs_4 ⟨Nat.zero_le _, Nat.zero_le _⟩ (fun u H locs hq hW _ hS => ?_)
  rw [hq] at hW
  refine lv_iconst (v := 0) hx hb dX7_opposedPairs_7 (by decide) ?_
  refine lv_istore_n (lv' := [(1, .int 0), (0, .ref (ad (7 + v)))]) hx hb dX7_opposedPairs_8 rfl hl (by decide) rfl (fun ls hl => ?_)
  obtain ⟨n9, hw⟩ := hw
  refine tL_X7_opposedPairs_9 C0 hK hv (hk75 := ?_) n9 (gk_clr σ (31 + 6 * v)) 0 hw _ _ hW hS _ (lv_sub hl [1, 0] rfl)
  · intro σ hw H locs hW hS ls hl
    refine lv_iconst (v := 0) hx hb dX7_opposedPairs_75 (by decide) ?_
    refine lv_istore_n (lv' := [(1, .int 0), (0, .ref (ad (7 + v)))]) hx hb dX7_opposedPairs_76 rfl hl (by decide) rfl (fun ls hl => ?_)
    refine lv_iconst (v := 0) hx hb dX7_opposedPairs_77 (by decide) ?_
    refine lv_istore_n (lv' := [(2, .int 0), (1, .int 0), (0, .ref (ad (7 + v)))]) hx hb dX7_opposedPairs_78 rfl hl (by decide) rfl (fun ls hl => ?_)
    obtain ⟨n79, hw⟩ := hw
    refine tL_X7_opposedPairs_79 C0 hK hv  n79 σ 0 0 hw _ _ hW hS _ (lv_sub hl [2, 1, 0] rfl)
