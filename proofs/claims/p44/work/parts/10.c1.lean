/-! laid by wip/p44/class1.py: wp predicates and walks -/
def w_J6_bitCount_0f7a4 (a0 : Int32) (Q : Int32 → Prop) : Prop := (∀ y9 : Int32, y9 = (a0 - (((a0.toUInt32 >>> (Int32.toUInt32 1 &&& Int32.toUInt32 31)).toInt32) &&& 1431655765)) → ∀ y23 : Int32, y23 = ((y9 &&& 858993459) + (((y9.toUInt32 >>> (Int32.toUInt32 2 &&& Int32.toUInt32 31)).toInt32) &&& 858993459)) → ∀ y33 : Int32, y33 = ((y23 + ((y23.toUInt32 >>> (Int32.toUInt32 4 &&& Int32.toUInt32 31)).toInt32)) &&& 252645135) → ∀ y40 : Int32, y40 = (y33 + ((y33.toUInt32 >>> (Int32.toUInt32 8 &&& Int32.toUInt32 31)).toInt32)) → ∀ y47 : Int32, y47 = (y40 + ((y40.toUInt32 >>> (Int32.toUInt32 16 &&& Int32.toUInt32 31)).toInt32)) → Q (y47 &&& 63))
abbrev rmJ6_bitCount_0f7a4 : Room := { frames := 0, cells := 0, slots := 0, locals := 0 }
set_option maxHeartbeats 4000000 in
set_option maxRecDepth 100000 in
theorem c_J6_bitCount_0f7a4 (l : Launch) {a0 : Int32} {Q : Int32 → Prop} (hw : w_J6_bitCount_0f7a4 a0 Q) : Met l yJ6_bitCount_0f7a4 wsJ6_bitCount_0f7a4 rmJ6_bitCount_0f7a4 (gk_Pn [.int a0]) (va_Qi (fun r _ => Q r) gk_Bn gk_An) 0 0 gk_An := by
  refine Met.ofW (cc := cJ6_bitCount_0f7a4) (maxL := 1) (ret := (some .int)) (by decide) rfl ?_
  intro p e s m args below meth c s₁ B hml0 hv0
  obtain ⟨rfl, _⟩ := hv0
  have C0 : gk_F p s m ([.int a0] : List Value).toArray meth c cJ6_bitCount_0f7a4 1 (some .int) RJ6 := ⟨B.exec, B.bytes, hml0, findClass_of_methodNamed B.named, fun w hw => atoms_spec (ws := wsJ6_bitCount_0f7a4) B.pre w (List.mem_cons_of_mem _ hw), B.returns, B.notSynchronized⟩
  obtain ⟨hx, hb, hml, hown, hts, hr, hlocks⟩ := id C0
  have hS : va_S gk_An s.heap s.heap [] := va_S.rf
  have hl := lv_entry ([.int a0]) (n := 1) (Nat.le_of_ble_eq_true rfl)
  rw [lg_entry_eq]
  generalize (lg_sl ([.int a0]) ++ List.replicate (1 - (lg_sl ([.int a0])).length) Slot.unset).toArray = ls at hl ⊢
  have hl : lv_has ls 1 [(0, .int a0)] := hl
  show W p l e rmJ6_bitCount_0f7a4 s m _ below meth c s.heap [] 0 0 _ _
  refine lv_iload_n hx hb dJ6_bitCount_0f7a4_0 rfl (lv_at hl 0 rfl) ?_
  refine lv_iload_n hx hb dJ6_bitCount_0f7a4_1 rfl (lv_at hl 0 rfl) ?_
  refine lv_iconst (v := 1) hx hb dJ6_bitCount_0f7a4_2 (by decide) ?_
  refine lv_iushr (v := (a0.toUInt32 >>> (Int32.toUInt32 1 &&& Int32.toUInt32 31)).toInt32) hx hb dJ6_bitCount_0f7a4_3 rfl ?_
  refine lv_ldcw (v := 1431655765) hx hb hown (hts _ k_J6_265) dJ6_bitCount_0f7a4_4 ?_
  refine lv_iand hx hb dJ6_bitCount_0f7a4_7 ?_
  refine lv_isub hx hb dJ6_bitCount_0f7a4_8 ?_
  refine lv_topi (fun y9 e9 => ?_)
  have hw := hw y9 e9
  refine lv_istore_n (lv' := [(0, .int y9)]) hx hb dJ6_bitCount_0f7a4_9 rfl hl (by decide) rfl (fun ls hl => ?_)
  refine lv_iload_n hx hb dJ6_bitCount_0f7a4_10 rfl (lv_at hl 0 rfl) ?_
  refine lv_ldcw (v := 858993459) hx hb hown (hts _ k_J6_266) dJ6_bitCount_0f7a4_11 ?_
  refine lv_iand hx hb dJ6_bitCount_0f7a4_14 ?_
  refine lv_iload_n hx hb dJ6_bitCount_0f7a4_15 rfl (lv_at hl 0 rfl) ?_
  refine lv_iconst (v := 2) hx hb dJ6_bitCount_0f7a4_16 (by decide) ?_
  refine lv_iushr (v := (y9.toUInt32 >>> (Int32.toUInt32 2 &&& Int32.toUInt32 31)).toInt32) hx hb dJ6_bitCount_0f7a4_17 rfl ?_
  refine lv_ldcw (v := 858993459) hx hb hown (hts _ k_J6_266) dJ6_bitCount_0f7a4_18 ?_
  refine lv_iand hx hb dJ6_bitCount_0f7a4_21 ?_
  refine lv_iadd hx hb dJ6_bitCount_0f7a4_22 ?_
  refine lv_topi (fun y23 e23 => ?_)
  have hw := hw y23 e23
  refine lv_istore_n (lv' := [(0, .int y23)]) hx hb dJ6_bitCount_0f7a4_23 rfl hl (by decide) rfl (fun ls hl => ?_)
  refine lv_iload_n hx hb dJ6_bitCount_0f7a4_24 rfl (lv_at hl 0 rfl) ?_
  refine lv_iload_n hx hb dJ6_bitCount_0f7a4_25 rfl (lv_at hl 0 rfl) ?_
  refine lv_iconst (v := 4) hx hb dJ6_bitCount_0f7a4_26 (by decide) ?_
  refine lv_iushr (v := (y23.toUInt32 >>> (Int32.toUInt32 4 &&& Int32.toUInt32 31)).toInt32) hx hb dJ6_bitCount_0f7a4_27 rfl ?_
  refine lv_iadd hx hb dJ6_bitCount_0f7a4_28 ?_
  refine lv_ldcw (v := 252645135) hx hb hown (hts _ k_J6_267) dJ6_bitCount_0f7a4_29 ?_
  refine lv_iand hx hb dJ6_bitCount_0f7a4_32 ?_
  refine lv_topi (fun y33 e33 => ?_)
  have hw := hw y33 e33
  refine lv_istore_n (lv' := [(0, .int y33)]) hx hb dJ6_bitCount_0f7a4_33 rfl hl (by decide) rfl (fun ls hl => ?_)
  refine lv_iload_n hx hb dJ6_bitCount_0f7a4_34 rfl (lv_at hl 0 rfl) ?_
  refine lv_iload_n hx hb dJ6_bitCount_0f7a4_35 rfl (lv_at hl 0 rfl) ?_
  refine lv_bipush (v := 8) hx hb dJ6_bitCount_0f7a4_36 (by decide) ?_
  refine lv_iushr (v := (y33.toUInt32 >>> (Int32.toUInt32 8 &&& Int32.toUInt32 31)).toInt32) hx hb dJ6_bitCount_0f7a4_38 rfl ?_
  refine lv_iadd hx hb dJ6_bitCount_0f7a4_39 ?_
  refine lv_topi (fun y40 e40 => ?_)
  have hw := hw y40 e40
  refine lv_istore_n (lv' := [(0, .int y40)]) hx hb dJ6_bitCount_0f7a4_40 rfl hl (by decide) rfl (fun ls hl => ?_)
  refine lv_iload_n hx hb dJ6_bitCount_0f7a4_41 rfl (lv_at hl 0 rfl) ?_
  refine lv_iload_n hx hb dJ6_bitCount_0f7a4_42 rfl (lv_at hl 0 rfl) ?_
  refine lv_bipush (v := 16) hx hb dJ6_bitCount_0f7a4_43 (by decide) ?_
  refine lv_iushr (v := (y40.toUInt32 >>> (Int32.toUInt32 16 &&& Int32.toUInt32 31)).toInt32) hx hb dJ6_bitCount_0f7a4_45 rfl ?_
  refine lv_iadd hx hb dJ6_bitCount_0f7a4_46 ?_
  refine lv_topi (fun y47 e47 => ?_)
  have hw := hw y47 e47
  refine lv_istore_n (lv' := [(0, .int y47)]) hx hb dJ6_bitCount_0f7a4_47 rfl hl (by decide) rfl (fun ls hl => ?_)
  refine lv_iload_n hx hb dJ6_bitCount_0f7a4_48 rfl (lv_at hl 0 rfl) ?_
  refine lv_bipush (v := 63) hx hb dJ6_bitCount_0f7a4_49 (by decide) ?_
  refine lv_iand hx hb dJ6_bitCount_0f7a4_51 ?_
  exact gk_retn C0 hw hS (fun _ h => h) dJ6_bitCount_0f7a4_52
def w_X8_isIn (a0 : Int32) (a1 : Int32) (Q : Int32 → Prop) : Prop := (((¬ ((a0 >>> (a1 &&& 31)) &&& 1) = 1) → (Q 0)) ∧ ((((a0 >>> (a1 &&& 31)) &&& 1) = 1) → (Q 1)))
abbrev rmX8_isIn : Room := { frames := 0, cells := 0, slots := 0, locals := 0 }
set_option maxHeartbeats 4000000 in
set_option maxRecDepth 100000 in
theorem c_X8_isIn (l : Launch) {a0 : Int32} {a1 : Int32} {Q : Int32 → Prop} (hw : w_X8_isIn a0 a1 Q) : Met l yX8_isIn wsX8_isIn rmX8_isIn (gk_Pn [.int a0, .int a1]) (va_Qi (fun r _ => Q r) gk_Bn gk_An) 0 0 gk_An := by
  refine Met.ofW (cc := cX8_isIn) (maxL := 2) (ret := (some .boolean)) (by decide) rfl ?_
  intro p e s m args below meth c s₁ B hml0 hv0
  obtain ⟨rfl, _⟩ := hv0
  have C0 : gk_F p s m ([.int a0, .int a1] : List Value).toArray meth c cX8_isIn 2 (some .boolean) RX8 := ⟨B.exec, B.bytes, hml0, findClass_of_methodNamed B.named, fun w hw => atoms_spec (ws := wsX8_isIn) B.pre w (List.mem_cons_of_mem _ hw), B.returns, B.notSynchronized⟩
  obtain ⟨hx, hb, hml, hown, hts, hr, hlocks⟩ := id C0
  have hS : va_S gk_An s.heap s.heap [] := va_S.rf
  have hl := lv_entry ([.int a0, .int a1]) (n := 2) (Nat.le_of_ble_eq_true rfl)
  rw [lg_entry_eq]
  generalize (lg_sl ([.int a0, .int a1]) ++ List.replicate (2 - (lg_sl ([.int a0, .int a1])).length) Slot.unset).toArray = ls at hl ⊢
  have hl : lv_has ls 2 [(0, .int a0), (1, .int a1)] := hl
  show W p l e rmX8_isIn s m _ below meth c s.heap [] 0 0 _ _
  refine lv_iload_n hx hb dX8_isIn_0 rfl (lv_at hl 0 rfl) ?_
  refine lv_iload_n hx hb dX8_isIn_1 rfl (lv_at hl 1 rfl) ?_
  refine lv_ishr hx hb dX8_isIn_2 ?_
  refine lv_iconst (v := 1) hx hb dX8_isIn_3 (by decide) ?_
  refine lv_iand hx hb dX8_isIn_4 ?_
  refine lv_iconst (v := 1) hx hb dX8_isIn_5 (by decide) ?_
  refine lv_icmp_ne (tgt := 13) hx hb dX8_isIn_6 (by decide) (fun c6 => ?_) (fun c6 => ?_)
  · have hw := hw.1 c6
    refine lv_iconst (v := 0) hx hb dX8_isIn_13 (by decide) ?_
    exact gk_retnz C0 (by decide) hw hS (fun _ h => h) dX8_isIn_14
  · have hw := hw.2 c6
    refine lv_iconst (v := 1) hx hb dX8_isIn_9 (by decide) ?_
    refine lv_goto (tgt := 14) hx hb dX8_isIn_10 (by decide) ?_
    exact gk_retnz C0 (by decide) hw hS (fun _ h => h) dX8_isIn_14
def w_X8_isUpTo (a0 : Int32) (a1 : Int32) (Q : Int32 → Prop) : Prop := (((a0 < 0) → (Q 0)) ∧ ((¬ a0 < 0) → (((a1 < a0) → (Q 0)) ∧ ((¬ a1 < a0) → (Q 1)))))
abbrev rmX8_isUpTo : Room := { frames := 0, cells := 0, slots := 0, locals := 0 }
set_option maxHeartbeats 4000000 in
set_option maxRecDepth 100000 in
theorem c_X8_isUpTo (l : Launch) {a0 : Int32} {a1 : Int32} {Q : Int32 → Prop} (hw : w_X8_isUpTo a0 a1 Q) : Met l yX8_isUpTo wsX8_isUpTo rmX8_isUpTo (gk_Pn [.int a0, .int a1]) (va_Qi (fun r _ => Q r) gk_Bn gk_An) 0 0 gk_An := by
  refine Met.ofW (cc := cX8_isUpTo) (maxL := 2) (ret := (some .boolean)) (by decide) rfl ?_
  intro p e s m args below meth c s₁ B hml0 hv0
  obtain ⟨rfl, _⟩ := hv0
  have C0 : gk_F p s m ([.int a0, .int a1] : List Value).toArray meth c cX8_isUpTo 2 (some .boolean) RX8 := ⟨B.exec, B.bytes, hml0, findClass_of_methodNamed B.named, fun w hw => atoms_spec (ws := wsX8_isUpTo) B.pre w (List.mem_cons_of_mem _ hw), B.returns, B.notSynchronized⟩
  obtain ⟨hx, hb, hml, hown, hts, hr, hlocks⟩ := id C0
  have hS : va_S gk_An s.heap s.heap [] := va_S.rf
  have hl := lv_entry ([.int a0, .int a1]) (n := 2) (Nat.le_of_ble_eq_true rfl)
  rw [lg_entry_eq]
  generalize (lg_sl ([.int a0, .int a1]) ++ List.replicate (2 - (lg_sl ([.int a0, .int a1])).length) Slot.unset).toArray = ls at hl ⊢
  have hl : lv_has ls 2 [(0, .int a0), (1, .int a1)] := hl
  show W p l e rmX8_isUpTo s m _ below meth c s.heap [] 0 0 _ _
  refine lv_iload_n hx hb dX8_isUpTo_0 rfl (lv_at hl 0 rfl) ?_
  refine lv_if_lt (tgt := 13) hx hb dX8_isUpTo_1 (by decide) (fun c1 => ?_) (fun c1 => ?_)
  · have hw := hw.1 c1
    refine lv_iconst (v := 0) hx hb dX8_isUpTo_13 (by decide) ?_
    exact gk_retnz C0 (by decide) hw hS (fun _ h => h) dX8_isUpTo_14
  · have hw := hw.2 c1
    refine lv_iload_n hx hb dX8_isUpTo_4 rfl (lv_at hl 0 rfl) ?_
    refine lv_iload_n hx hb dX8_isUpTo_5 rfl (lv_at hl 1 rfl) ?_
    refine lv_icmp_gt (tgt := 13) hx hb dX8_isUpTo_6 (by decide) (fun c6 => ?_) (fun c6 => ?_)
    · have hw := hw.1 c6
      refine lv_iconst (v := 0) hx hb dX8_isUpTo_13 (by decide) ?_
      exact gk_retnz C0 (by decide) hw hS (fun _ h => h) dX8_isUpTo_14
    · have hw := hw.2 c6
      refine lv_iconst (v := 1) hx hb dX8_isUpTo_9 (by decide) ?_
      refine lv_goto (tgt := 14) hx hb dX8_isUpTo_10 (by decide) ?_
      exact gk_retnz C0 (by decide) hw hS (fun _ h => h) dX8_isUpTo_14
def w_X8_isAction (a0 : Int32) (Q : Int32 → Prop) : Prop := (((a0 < 0) → (Q 0)) ∧ ((¬ a0 < 0) → (((5 ≤ a0) → (Q 0)) ∧ ((¬ 5 ≤ a0) → (Q 1)))))
abbrev rmX8_isAction : Room := { frames := 0, cells := 0, slots := 0, locals := 0 }
set_option maxHeartbeats 4000000 in
set_option maxRecDepth 100000 in
theorem c_X8_isAction (l : Launch) {a0 : Int32} {Q : Int32 → Prop} (hw : w_X8_isAction a0 Q) : Met l yX8_isAction wsX8_isAction rmX8_isAction (gk_Pn [.int a0]) (va_Qi (fun r _ => Q r) gk_Bn gk_An) 0 0 gk_An := by
  refine Met.ofW (cc := cX8_isAction) (maxL := 1) (ret := (some .boolean)) (by decide) rfl ?_
  intro p e s m args below meth c s₁ B hml0 hv0
  obtain ⟨rfl, _⟩ := hv0
  have C0 : gk_F p s m ([.int a0] : List Value).toArray meth c cX8_isAction 1 (some .boolean) RX8 := ⟨B.exec, B.bytes, hml0, findClass_of_methodNamed B.named, fun w hw => atoms_spec (ws := wsX8_isAction) B.pre w (List.mem_cons_of_mem _ hw), B.returns, B.notSynchronized⟩
  obtain ⟨hx, hb, hml, hown, hts, hr, hlocks⟩ := id C0
  have hS : va_S gk_An s.heap s.heap [] := va_S.rf
  have hl := lv_entry ([.int a0]) (n := 1) (Nat.le_of_ble_eq_true rfl)
  rw [lg_entry_eq]
  generalize (lg_sl ([.int a0]) ++ List.replicate (1 - (lg_sl ([.int a0])).length) Slot.unset).toArray = ls at hl ⊢
  have hl : lv_has ls 1 [(0, .int a0)] := hl
  show W p l e rmX8_isAction s m _ below meth c s.heap [] 0 0 _ _
  refine lv_iload_n hx hb dX8_isAction_0 rfl (lv_at hl 0 rfl) ?_
  refine lv_if_lt (tgt := 13) hx hb dX8_isAction_1 (by decide) (fun c1 => ?_) (fun c1 => ?_)
  · have hw := hw.1 c1
    refine lv_iconst (v := 0) hx hb dX8_isAction_13 (by decide) ?_
    exact gk_retnz C0 (by decide) hw hS (fun _ h => h) dX8_isAction_14
  · have hw := hw.2 c1
    refine lv_iload_n hx hb dX8_isAction_4 rfl (lv_at hl 0 rfl) ?_
    refine lv_iconst (v := 5) hx hb dX8_isAction_5 (by decide) ?_
    refine lv_icmp_ge (tgt := 13) hx hb dX8_isAction_6 (by decide) (fun c6 => ?_) (fun c6 => ?_)
    · have hw := hw.1 c6
      refine lv_iconst (v := 0) hx hb dX8_isAction_13 (by decide) ?_
      exact gk_retnz C0 (by decide) hw hS (fun _ h => h) dX8_isAction_14
    · have hw := hw.2 c6
      refine lv_iconst (v := 1) hx hb dX8_isAction_9 (by decide) ?_
      refine lv_goto (tgt := 14) hx hb dX8_isAction_10 (by decide) ?_
      exact gk_retnz C0 (by decide) hw hS (fun _ h => h) dX8_isAction_14
def w_X4_hour (σ : gk_C)  (Q : Int32 → Prop) : Prop := (Q (((σ.2 7) / 60) - ((σ.2 7) / 60) / 24 * 24))
abbrev rmX4_hour : Room := { frames := 0, cells := 0, slots := 0, locals := 0 }
set_option maxHeartbeats 4000000 in
set_option maxRecDepth 100000 in
theorem c_X4_hour (l : Launch) (D : va_G) (cI cZ cG cL : ClassId) (ad : Nat → Nat) {σ : gk_C} {Q : Int32 → Prop} {sz : Nat} (hw : w_X4_hour σ  Q) : Met l yX4_hour wsX4_hour rmX4_hour (gk_Pc D cI cZ cG cL ad [.ref (ad 1)] sz σ) (va_Qi (fun r u => u = σ ∧ Q r) (gk_B D cI ad) (gk_A ad sz)) 0 0 (gk_A ad sz) := by
  refine Met.ofW (cc := cX4_hour) (maxL := 1) (ret := (some .int)) (by decide) rfl ?_
  intro p e s m args below meth c s₁ B hml0 hv0
  obtain ⟨rfl, hsz, hW, hK⟩ := hv0
  subst hsz
  have C0 : gk_F p s m ([.ref (ad 1)] : List Value).toArray meth c cX4_hour 1 (some .int) RX4 := ⟨B.exec, B.bytes, hml0, findClass_of_methodNamed B.named, fun w hw => atoms_spec (ws := wsX4_hour) B.pre w (List.mem_cons_of_mem _ hw), B.returns, B.notSynchronized⟩
  obtain ⟨hx, hb, hml, hown, hts, hr, hlocks⟩ := id C0
  have hS : va_S (gk_A ad s.heap.size) s.heap s.heap [] := va_S.rf
  have hl := lv_entry ([.ref (ad 1)]) (n := 1) (Nat.le_of_ble_eq_true rfl)
  rw [lg_entry_eq]
  generalize (lg_sl ([.ref (ad 1)]) ++ List.replicate (1 - (lg_sl ([.ref (ad 1)])).length) Slot.unset).toArray = ls at hl ⊢
  have hl : lv_has ls 1 [(0, .ref (ad 1))] := hl
  show W p l e rmX4_hour s m _ below meth c s.heap [] 0 0 _ _
  refine lv_aload_n hx hb dX4_hour_0 rfl (lv_at hl 0 rfl) ?_
  refine gk_get hx hb hts iwX4 hown hK.1 (gk_o1 hW) rfl 6 (by decide) (hts _ fl_X4_44) (fun _ h9 => h9) rfl dX4_hour_1 ?_
  refine lv_bipush (v := 60) hx hb dX4_hour_4 (by decide) ?_
  refine lv_idiv hx hb dX4_hour_6 (by decide) ?_
  refine lv_bipush (v := 24) hx hb dX4_hour_7 (by decide) ?_
  refine lv_irem hx hb dX4_hour_9 (by decide) ?_
  exact gk_reti C0 ⟨rfl, hw⟩ hW hS dX4_hour_10
def w_X4_isThere (σ : gk_C) (a0 : Int32) (Q : Int32 → Prop) : Prop := ((((gk_at σ 25 a0) ≤ (σ.2 7)) → (Q 0)) ∧ ((¬ (gk_at σ 25 a0) ≤ (σ.2 7)) → (Q 1)))
abbrev rmX4_isThere : Room := { frames := 1, cells := 0, slots := 0, locals := 21 }
set_option maxHeartbeats 4000000 in
set_option maxRecDepth 100000 in
theorem c_X4_isThere (l : Launch) (D : va_G) (cI cZ cG cL : ClassId) (ad : Nat → Nat) {σ : gk_C} {a0 : Int32} {Q : Int32 → Prop} {sz : Nat} (hw : w_X4_isThere σ a0 Q) : Met l yX4_isThere wsX4_isThere rmX4_isThere (gk_Pc D cI cZ cG cL ad [.ref (ad 1), .int a0] sz σ) (va_Qi (fun r u => u = σ ∧ Q r) (gk_B D cI ad) (gk_A ad sz)) 0 0 (gk_A ad sz) := by
  refine Met.ofW (cc := cX4_isThere) (maxL := 2) (ret := (some .boolean)) (by decide) rfl ?_
  intro p e s m args below meth c s₁ B hml0 hv0
  obtain ⟨rfl, hsz, hW, hK⟩ := hv0
  subst hsz
  have C0 : gk_F p s m ([.ref (ad 1), .int a0] : List Value).toArray meth c cX4_isThere 2 (some .boolean) RX4 := ⟨B.exec, B.bytes, hml0, findClass_of_methodNamed B.named, fun w hw => atoms_spec (ws := wsX4_isThere) B.pre w (List.mem_cons_of_mem _ hw), B.returns, B.notSynchronized⟩
  obtain ⟨hx, hb, hml, hown, hts, hr, hlocks⟩ := id C0
  have hS : va_S (gk_A ad s.heap.size) s.heap s.heap [] := va_S.rf
  have hl := lv_entry ([.ref (ad 1), .int a0]) (n := 2) (Nat.le_of_ble_eq_true rfl)
  rw [lg_entry_eq]
  generalize (lg_sl ([.ref (ad 1), .int a0]) ++ List.replicate (2 - (lg_sl ([.ref (ad 1), .int a0])).length) Slot.unset).toArray = ls at hl ⊢
  have hl : lv_has ls 2 [(0, .ref (ad 1)), (1, .int a0)] := hl
  show W p l e rmX4_isThere s m _ below meth c s.heap [] 0 0 _ _
  refine lv_aload_n hx hb dX4_isThere_0 rfl (lv_at hl 0 rfl) ?_
  refine gk_get hx hb hts iwX4 hown hK.1 (gk_o1 hW) rfl 6 (by decide) (hts _ fl_X4_44) (fun _ h9 => h9) rfl dX4_isThere_1 ?_
  refine lv_aload_n hx hb dX4_isThere_4 rfl (lv_at hl 0 rfl) ?_
  refine gk_get hx hb hts iwX4 hown hK.1 (gk_o1 hW) rfl 4 (by decide) (hts _ fl_X4_40) (fun _ h9 => h9) rfl dX4_isThere_5 ?_
  refine gk_getN hx hb hts iwX0 hown hK.1 (gk_o6 hW) rfl 6 (by decide) (gk_nw hK nf_X4_48) (fun _ h9 => h9) rfl dX4_isThere_8 ?_
  refine lv_iload_n hx hb dX4_isThere_11 rfl (lv_at hl 1 rfl) ?_
  refine gk_callRi ⟨hx, hb, hml, hown, hts⟩ (c_X2_at l D cI cZ cG cL ad (σ := σ) (r := 25) (i := a0) (by decide)) (cwV 1 hts (gk_gV ml_X4_52 im_X2_at se_X2_at in_X2 co_X2_at) rfl rfl rfl (by decide +kernel) ⟨Nat.le_of_ble_eq_true rfl, Nat.le_of_ble_eq_true rfl⟩) (gk_recv hK.1 (gk_or hW (r := 25) (by decide)) rfl) hW hK hS rfl hl.1 (rest := [.int (σ.2 7)]) rfl (lv_room (Nat.le_of_ble_eq_true rfl)) dX4_isThere_12 ⟨Nat.zero_le _, Nat.zero_le _⟩ (fun r12 H locs hq hW _ hS => ?_)
  obtain rfl := hq
  refine lv_icmp_ge (tgt := 22) hx hb dX4_isThere_15 (by decide) (fun c15 => ?_) (fun c15 => ?_)
  · have hw := hw.1 c15
    refine lv_iconst (v := 0) hx hb dX4_isThere_22 (by decide) ?_
    exact gk_retz C0 (by decide) ⟨rfl, hw⟩ hW hS dX4_isThere_23
  · have hw := hw.2 c15
    refine lv_iconst (v := 1) hx hb dX4_isThere_18 (by decide) ?_
    refine lv_goto (tgt := 23) hx hb dX4_isThere_19 (by decide) ?_
    exact gk_retz C0 (by decide) ⟨rfl, hw⟩ hW hS dX4_isThere_23
def w_X5_isBeneath (σ : gk_C) (a0 : Int32) (a1 : Int32) (Q : Int32 → Prop) : Prop := (((a0 = a1) → (Q 1)) ∧ ((¬ a0 = a1) → (w_X8_isIn (gk_at σ 7 a0) a1 (fun r14 => ((r14 = 0) → (Q 0)) ∧ ((¬ r14 = 0) → (Q 1))))))
abbrev rmX5_isBeneath : Room := { frames := 1, cells := 0, slots := 0, locals := 21 }
set_option maxHeartbeats 4000000 in
set_option maxRecDepth 100000 in
theorem c_X5_isBeneath (l : Launch) (D : va_G) (cI cZ cG cL : ClassId) (ad : Nat → Nat) {σ : gk_C} {a0 : Int32} {a1 : Int32} {Q : Int32 → Prop} {sz : Nat} (hw : w_X5_isBeneath σ a0 a1 Q) : Met l yX5_isBeneath wsX5_isBeneath rmX5_isBeneath (gk_Pc D cI cZ cG cL ad [.ref (ad 4), .int a0, .int a1] sz σ) (va_Qi (fun r u => u = σ ∧ Q r) (gk_B D cI ad) (gk_A ad sz)) 0 0 (gk_A ad sz) := by
  refine Met.ofW (cc := cX5_isBeneath) (maxL := 3) (ret := (some .boolean)) (by decide) rfl ?_
  intro p e s m args below meth c s₁ B hml0 hv0
  obtain ⟨rfl, hsz, hW, hK⟩ := hv0
  subst hsz
  have C0 : gk_F p s m ([.ref (ad 4), .int a0, .int a1] : List Value).toArray meth c cX5_isBeneath 3 (some .boolean) RX5 := ⟨B.exec, B.bytes, hml0, findClass_of_methodNamed B.named, fun w hw => atoms_spec (ws := wsX5_isBeneath) B.pre w (List.mem_cons_of_mem _ hw), B.returns, B.notSynchronized⟩
  obtain ⟨hx, hb, hml, hown, hts, hr, hlocks⟩ := id C0
  have hS : va_S (gk_A ad s.heap.size) s.heap s.heap [] := va_S.rf
  have hl := lv_entry ([.ref (ad 4), .int a0, .int a1]) (n := 3) (Nat.le_of_ble_eq_true rfl)
  rw [lg_entry_eq]
  generalize (lg_sl ([.ref (ad 4), .int a0, .int a1]) ++ List.replicate (3 - (lg_sl ([.ref (ad 4), .int a0, .int a1])).length) Slot.unset).toArray = ls at hl ⊢
  have hl : lv_has ls 3 [(0, .ref (ad 4)), (1, .int a0), (2, .int a1)] := hl
  show W p l e rmX5_isBeneath s m _ below meth c s.heap [] 0 0 _ _
  refine lv_iload_n hx hb dX5_isBeneath_0 rfl (lv_at hl 1 rfl) ?_
  refine lv_iload_n hx hb dX5_isBeneath_1 rfl (lv_at hl 2 rfl) ?_
  refine lv_icmp_eq (tgt := 20) hx hb dX5_isBeneath_2 (by decide) (fun c2 => ?_) (fun c2 => ?_)
  · have hw := hw.1 c2
    refine lv_iconst (v := 1) hx hb dX5_isBeneath_20 (by decide) ?_
    refine lv_goto (tgt := 25) hx hb dX5_isBeneath_21 (by decide) ?_
    exact gk_retz C0 (by decide) ⟨rfl, hw⟩ hW hS dX5_isBeneath_25
  · have hw := hw.2 c2
    refine lv_aload_n hx hb dX5_isBeneath_5 rfl (lv_at hl 0 rfl) ?_
    refine gk_get hx hb hts iwX5 hown hK.1 (gk_o4 hW) rfl 2 (by decide) (hts _ fl_X5_24) (fun _ h9 => h9) rfl dX5_isBeneath_6 ?_
    refine lv_iload_n hx hb dX5_isBeneath_9 rfl (lv_at hl 1 rfl) ?_
    refine gk_callRi ⟨hx, hb, hml, hown, hts⟩ (c_X2_at l D cI cZ cG cL ad (σ := σ) (r := 7) (i := a0) (by decide)) (cwV 1 hts (gk_gV ml_X5_36 im_X2_at se_X2_at in_X2 co_X2_at) rfl rfl rfl (by decide +kernel) ⟨Nat.le_of_ble_eq_true rfl, Nat.le_of_ble_eq_true rfl⟩) (gk_recv hK.1 (gk_or hW (r := 7) (by decide)) rfl) hW hK hS rfl hl.1 (rest := []) rfl (lv_room (Nat.le_of_ble_eq_true rfl)) dX5_isBeneath_10 ⟨Nat.zero_le _, Nat.zero_le _⟩ (fun r10 H locs hq hW _ hS => ?_)
    obtain rfl := hq
    refine lv_iload_n hx hb dX5_isBeneath_13 rfl (lv_at hl 2 rfl) ?_
    refine gk_callSNi ⟨hx, hb, hml, hown, hts⟩ (c_X8_isIn l hw) ⟨va_cnB 2 hts (gk_gI co_X8_isIn) rfl rfl rfl (gk_nw hK nm_X5_43) (hts _ in_X8) (by decide +kernel) ⟨Nat.le_of_ble_eq_true rfl, Nat.le_of_ble_eq_true rfl⟩, hts _ st_X8_isIn, trivial⟩ hS rfl hl.1 (rest := []) rfl (lv_room (Nat.le_of_ble_eq_true rfl)) dX5_isBeneath_14 ⟨Nat.zero_le _, Nat.zero_le _⟩ (fun r14 H locs hw _ hk hS => ?_)
    have hW := hW.kept (fun k hk9 => hk _ (hW.lt hk9))
    refine lv_if_eq (tgt := 24) hx hb dX5_isBeneath_17 (by decide) (fun c17 => ?_) (fun c17 => ?_)
    · have hw := hw.1 c17
      refine lv_iconst (v := 0) hx hb dX5_isBeneath_24 (by decide) ?_
      exact gk_retz C0 (by decide) ⟨rfl, hw⟩ hW hS dX5_isBeneath_25
    · have hw := hw.2 c17
      refine lv_iconst (v := 1) hx hb dX5_isBeneath_20 (by decide) ?_
      refine lv_goto (tgt := 25) hx hb dX5_isBeneath_21 (by decide) ?_
      exact gk_retz C0 (by decide) ⟨rfl, hw⟩ hW hS dX5_isBeneath_25
def w_X5_farUp (σ : gk_C) (a0 : Int32) (a1 : Int32) (Q : Int32 → Prop) : Prop := (w_X5_isBeneath σ a0 a1 (fun r3 => ((r3 = 0) → (Q (-1))) ∧ ((¬ r3 = 0) → (Q ((gk_at σ 6 a0) - (gk_at σ 6 a1))))))
abbrev rmX5_farUp : Room := { frames := 2, cells := 0, slots := 0, locals := 43 }
set_option maxHeartbeats 4000000 in
set_option maxRecDepth 100000 in
theorem c_X5_farUp (l : Launch) (D : va_G) (cI cZ cG cL : ClassId) (ad : Nat → Nat) {σ : gk_C} {a0 : Int32} {a1 : Int32} {Q : Int32 → Prop} {sz : Nat} (hw : w_X5_farUp σ a0 a1 Q) : Met l yX5_farUp wsX5_farUp rmX5_farUp (gk_Pc D cI cZ cG cL ad [.ref (ad 4), .int a0, .int a1] sz σ) (va_Qi (fun r u => u = σ ∧ Q r) (gk_B D cI ad) (gk_A ad sz)) 0 0 (gk_A ad sz) := by
  refine Met.ofW (cc := cX5_farUp) (maxL := 3) (ret := (some .int)) (by decide) rfl ?_
  intro p e s m args below meth c s₁ B hml0 hv0
  obtain ⟨rfl, hsz, hW, hK⟩ := hv0
  subst hsz
  have C0 : gk_F p s m ([.ref (ad 4), .int a0, .int a1] : List Value).toArray meth c cX5_farUp 3 (some .int) RX5 := ⟨B.exec, B.bytes, hml0, findClass_of_methodNamed B.named, fun w hw => atoms_spec (ws := wsX5_farUp) B.pre w (List.mem_cons_of_mem _ hw), B.returns, B.notSynchronized⟩
  obtain ⟨hx, hb, hml, hown, hts, hr, hlocks⟩ := id C0
  have hS : va_S (gk_A ad s.heap.size) s.heap s.heap [] := va_S.rf
  have hl := lv_entry ([.ref (ad 4), .int a0, .int a1]) (n := 3) (Nat.le_of_ble_eq_true rfl)
  rw [lg_entry_eq]
  generalize (lg_sl ([.ref (ad 4), .int a0, .int a1]) ++ List.replicate (3 - (lg_sl ([.ref (ad 4), .int a0, .int a1])).length) Slot.unset).toArray = ls at hl ⊢
  have hl : lv_has ls 3 [(0, .ref (ad 4)), (1, .int a0), (2, .int a1)] := hl
  show W p l e rmX5_farUp s m _ below meth c s.heap [] 0 0 _ _
  refine lv_aload_n hx hb dX5_farUp_0 rfl (lv_at hl 0 rfl) ?_
  refine lv_iload_n hx hb dX5_farUp_1 rfl (lv_at hl 1 rfl) ?_
  refine lv_iload_n hx hb dX5_farUp_2 rfl (lv_at hl 2 rfl) ?_
  refine gk_callRi ⟨hx, hb, hml, hown, hts⟩ (c_X5_isBeneath l D cI cZ cG cL ad hw) (cwV 2 hts (gk_gV ml_X5_47 im_X5_isBeneath se_X5_isBeneath in_X5 co_X5_isBeneath) rfl rfl rfl (by decide +kernel) ⟨Nat.le_of_ble_eq_true rfl, Nat.le_of_ble_eq_true rfl⟩) (gk_recv hK.1 (gk_o4 hW) rfl) hW hK hS rfl hl.1 (rest := []) rfl (lv_room (Nat.le_of_ble_eq_true rfl)) dX5_farUp_3 ⟨Nat.zero_le _, Nat.zero_le _⟩ (fun r3 H locs hw hW _ hS => ?_)
  refine lv_if_eq (tgt := 29) hx hb dX5_farUp_6 (by decide) (fun c6 => ?_) (fun c6 => ?_)
  · have hw := hw.1 c6
    refine lv_iconst (v := (-1)) hx hb dX5_farUp_29 (by decide) ?_
    exact gk_reti C0 ⟨rfl, hw⟩ hW hS dX5_farUp_30
  · have hw := hw.2 c6
    refine lv_aload_n hx hb dX5_farUp_9 rfl (lv_at hl 0 rfl) ?_
    refine gk_get hx hb hts iwX5 hown hK.1 (gk_o4 hW) rfl 1 (by decide) (hts _ fl_X5_20) (fun _ h9 => h9) rfl dX5_farUp_10 ?_
    refine lv_iload_n hx hb dX5_farUp_13 rfl (lv_at hl 1 rfl) ?_
    refine gk_callRi ⟨hx, hb, hml, hown, hts⟩ (c_X2_at l D cI cZ cG cL ad (σ := σ) (r := 6) (i := a0) (by decide)) (cwV 1 hts (gk_gV ml_X5_36 im_X2_at se_X2_at in_X2 co_X2_at) rfl rfl rfl (by decide +kernel) ⟨Nat.le_of_ble_eq_true rfl, Nat.le_of_ble_eq_true rfl⟩) (gk_recv hK.1 (gk_or hW (r := 6) (by decide)) rfl) hW hK hS rfl hl.1 (rest := []) rfl (lv_room (Nat.le_of_ble_eq_true rfl)) dX5_farUp_14 ⟨Nat.zero_le _, Nat.zero_le _⟩ (fun r14 H locs hq hW _ hS => ?_)
    obtain rfl := hq
    refine lv_aload_n hx hb dX5_farUp_17 rfl (lv_at hl 0 rfl) ?_
    refine gk_get hx hb hts iwX5 hown hK.1 (gk_o4 hW) rfl 1 (by decide) (hts _ fl_X5_20) (fun _ h9 => h9) rfl dX5_farUp_18 ?_
    refine lv_iload_n hx hb dX5_farUp_21 rfl (lv_at hl 2 rfl) ?_
    refine gk_callRi ⟨hx, hb, hml, hown, hts⟩ (c_X2_at l D cI cZ cG cL ad (σ := σ) (r := 6) (i := a1) (by decide)) (cwV 1 hts (gk_gV ml_X5_36 im_X2_at se_X2_at in_X2 co_X2_at) rfl rfl rfl (by decide +kernel) ⟨Nat.le_of_ble_eq_true rfl, Nat.le_of_ble_eq_true rfl⟩) (gk_recv hK.1 (gk_or hW (r := 6) (by decide)) rfl) hW hK hS rfl hl.1 (rest := [.int (gk_at σ 6 a0)]) rfl (lv_room (Nat.le_of_ble_eq_true rfl)) dX5_farUp_22 ⟨Nat.zero_le _, Nat.zero_le _⟩ (fun r22 H locs hq hW _ hS => ?_)
    obtain rfl := hq
    refine lv_isub hx hb dX5_farUp_25 ?_
    refine lv_goto (tgt := 30) hx hb dX5_farUp_26 (by decide) ?_
    exact gk_reti C0 ⟨rfl, hw⟩ hW hS dX5_farUp_30
def w_X5_add (σ : gk_C) (a0 : Int32) (Q : Int32 → gk_C → Prop) : Prop := (Q (σ.2 3) (gk_s (gk_put (gk_put σ 6 (σ.2 3) ((gk_at σ 6 a0) + 1)) 7 (σ.2 3) ((gk_at (gk_put σ 6 (σ.2 3) ((gk_at σ 6 a0) + 1)) 7 a0) ||| (1 <<< (a0 &&& 31)))) 3 (((gk_put (gk_put σ 6 (σ.2 3) ((gk_at σ 6 a0) + 1)) 7 (σ.2 3) ((gk_at (gk_put σ 6 (σ.2 3) ((gk_at σ 6 a0) + 1)) 7 a0) ||| (1 <<< (a0 &&& 31)))).2 3) + 1)))
abbrev rmX5_add : Room := { frames := 1, cells := 0, slots := 0, locals := 22 }
set_option maxHeartbeats 4000000 in
set_option maxRecDepth 100000 in
theorem c_X5_add (l : Launch) (D : va_G) (cI cZ cG cL : ClassId) (ad : Nat → Nat) {σ : gk_C} {a0 : Int32} {Q : Int32 → gk_C → Prop} {sz : Nat} (hw : w_X5_add σ a0 Q) : Met l yX5_add wsX5_add rmX5_add (gk_Pc D cI cZ cG cL ad [.ref (ad 4), .int a0] sz σ) (va_Qi (fun r u => Q r u) (gk_B D cI ad) (gk_A ad sz)) 0 0 (gk_A ad sz) := by
  refine Met.ofW (cc := cX5_add) (maxL := 3) (ret := (some .int)) (by decide) rfl ?_
  intro p e s m args below meth c s₁ B hml0 hv0
  obtain ⟨rfl, hsz, hW, hK⟩ := hv0
  subst hsz
  have C0 : gk_F p s m ([.ref (ad 4), .int a0] : List Value).toArray meth c cX5_add 3 (some .int) RX5 := ⟨B.exec, B.bytes, hml0, findClass_of_methodNamed B.named, fun w hw => atoms_spec (ws := wsX5_add) B.pre w (List.mem_cons_of_mem _ hw), B.returns, B.notSynchronized⟩
  obtain ⟨hx, hb, hml, hown, hts, hr, hlocks⟩ := id C0
  have hS : va_S (gk_A ad s.heap.size) s.heap s.heap [] := va_S.rf
  have hl := lv_entry ([.ref (ad 4), .int a0]) (n := 3) (Nat.le_of_ble_eq_true rfl)
  rw [lg_entry_eq]
  generalize (lg_sl ([.ref (ad 4), .int a0]) ++ List.replicate (3 - (lg_sl ([.ref (ad 4), .int a0])).length) Slot.unset).toArray = ls at hl ⊢
  have hl : lv_has ls 3 [(0, .ref (ad 4)), (1, .int a0)] := hl
  show W p l e rmX5_add s m _ below meth c s.heap [] 0 0 _ _
  refine lv_aload_n hx hb dX5_add_0 rfl (lv_at hl 0 rfl) ?_
  refine gk_get hx hb hts iwX5 hown hK.1 (gk_o4 hW) rfl 0 (by decide) (hts _ fl_X5_9) (fun _ h9 => h9) rfl dX5_add_1 ?_
  refine lv_istore_n (lv' := [(2, .int (σ.2 3)), (0, .ref (ad 4)), (1, .int a0)]) hx hb dX5_add_4 rfl hl (by decide) rfl (fun ls hl => ?_)
  refine lv_aload_n hx hb dX5_add_5 rfl (lv_at hl 1 rfl) ?_
  refine gk_get hx hb hts iwX5 hown hK.1 (gk_o4 hW) rfl 1 (by decide) (hts _ fl_X5_20) (fun _ h9 => h9) rfl dX5_add_6 ?_
  refine lv_iload_n hx hb dX5_add_9 rfl (lv_at hl 0 rfl) ?_
  refine lv_aload_n hx hb dX5_add_10 rfl (lv_at hl 1 rfl) ?_
  refine gk_get hx hb hts iwX5 hown hK.1 (gk_o4 hW) rfl 1 (by decide) (hts _ fl_X5_20) (fun _ h9 => h9) rfl dX5_add_11 ?_
  refine lv_iload_n hx hb dX5_add_14 rfl (lv_at hl 2 rfl) ?_
  refine gk_callRi ⟨hx, hb, hml, hown, hts⟩ (c_X2_at l D cI cZ cG cL ad (σ := σ) (r := 6) (i := a0) (by decide)) (cwV 1 hts (gk_gV ml_X5_36 im_X2_at se_X2_at in_X2 co_X2_at) rfl rfl rfl (by decide +kernel) ⟨Nat.le_of_ble_eq_true rfl, Nat.le_of_ble_eq_true rfl⟩) (gk_recv hK.1 (gk_or hW (r := 6) (by decide)) rfl) hW hK hS rfl hl.1 (rest := [.int (σ.2 3), .ref (ad (9 + 6))]) rfl (lv_room (Nat.le_of_ble_eq_true rfl)) dX5_add_15 ⟨Nat.zero_le _, Nat.zero_le _⟩ (fun r15 H locs hq hW _ hS => ?_)
  obtain rfl := hq
  refine lv_iconst (v := 1) hx hb dX5_add_18 (by decide) ?_
  refine lv_iadd hx hb dX5_add_19 ?_
  refine gk_callVv ⟨hx, hb, hml, hown, hts⟩ (c_X2_put l D cI cZ cG cL ad (σ := σ) (r := 6) (i := (σ.2 3)) (x := ((gk_at σ 6 a0) + 1)) (by decide)) (cwV 2 hts (gk_gV ml_X5_40 im_X2_put se_X2_put in_X2 co_X2_put) rfl rfl rfl (by decide +kernel) ⟨Nat.le_of_ble_eq_true rfl, Nat.le_of_ble_eq_true rfl⟩) (gk_recv hK.1 (gk_or hW (r := 6) (by decide)) rfl) hW hK hS rfl hl.1 (rest := []) rfl (lv_room (Nat.le_of_ble_eq_true rfl)) dX5_add_20 ⟨Nat.zero_le _, Nat.zero_le _⟩ (fun u H locs hq hW _ hS => ?_)
  rw [hq] at hW
  refine lv_aload_n hx hb dX5_add_23 rfl (lv_at hl 1 rfl) ?_
  refine gk_get hx hb hts iwX5 hown hK.1 (gk_o4 hW) rfl 2 (by decide) (hts _ fl_X5_24) (fun _ h9 => h9) rfl dX5_add_24 ?_
  refine lv_iload_n hx hb dX5_add_27 rfl (lv_at hl 0 rfl) ?_
  refine lv_aload_n hx hb dX5_add_28 rfl (lv_at hl 1 rfl) ?_
  refine gk_get hx hb hts iwX5 hown hK.1 (gk_o4 hW) rfl 2 (by decide) (hts _ fl_X5_24) (fun _ h9 => h9) rfl dX5_add_29 ?_
  refine lv_iload_n hx hb dX5_add_32 rfl (lv_at hl 2 rfl) ?_
  refine gk_callRi ⟨hx, hb, hml, hown, hts⟩ (c_X2_at l D cI cZ cG cL ad (σ := (gk_put σ 6 (σ.2 3) ((gk_at σ 6 a0) + 1))) (r := 7) (i := a0) (by decide)) (cwV 1 hts (gk_gV ml_X5_36 im_X2_at se_X2_at in_X2 co_X2_at) rfl rfl rfl (by decide +kernel) ⟨Nat.le_of_ble_eq_true rfl, Nat.le_of_ble_eq_true rfl⟩) (gk_recv hK.1 (gk_or hW (r := 7) (by decide)) rfl) hW hK hS rfl hl.1 (rest := [.int (σ.2 3), .ref (ad (9 + 7))]) rfl (lv_room (Nat.le_of_ble_eq_true rfl)) dX5_add_33 ⟨Nat.zero_le _, Nat.zero_le _⟩ (fun r33 H locs hq hW _ hS => ?_)
  obtain rfl := hq
  refine lv_iconst (v := 1) hx hb dX5_add_36 (by decide) ?_
  refine lv_iload_n hx hb dX5_add_37 rfl (lv_at hl 2 rfl) ?_
  refine lv_ishl hx hb dX5_add_38 ?_
  refine lv_ior hx hb dX5_add_39 ?_
  refine gk_callVv ⟨hx, hb, hml, hown, hts⟩ (c_X2_put l D cI cZ cG cL ad (σ := (gk_put σ 6 (σ.2 3) ((gk_at σ 6 a0) + 1))) (r := 7) (i := (σ.2 3)) (x := ((gk_at (gk_put σ 6 (σ.2 3) ((gk_at σ 6 a0) + 1)) 7 a0) ||| (1 <<< (a0 &&& 31)))) (by decide)) (cwV 2 hts (gk_gV ml_X5_40 im_X2_put se_X2_put in_X2 co_X2_put) rfl rfl rfl (by decide +kernel) ⟨Nat.le_of_ble_eq_true rfl, Nat.le_of_ble_eq_true rfl⟩) (gk_recv hK.1 (gk_or hW (r := 7) (by decide)) rfl) hW hK hS rfl hl.1 (rest := []) rfl (lv_room (Nat.le_of_ble_eq_true rfl)) dX5_add_40 ⟨Nat.zero_le _, Nat.zero_le _⟩ (fun u H locs hq hW _ hS => ?_)
  rw [hq] at hW
  refine lv_aload_n hx hb dX5_add_43 rfl (lv_at hl 1 rfl) ?_
  refine lv_dup hx hb dX5_add_44 rfl ?_
  refine gk_get hx hb hts iwX5 hown hK.1 (gk_o4 hW) rfl 0 (by decide) (hts _ fl_X5_9) (fun _ h9 => h9) rfl dX5_add_45 ?_
  refine lv_iconst (v := 1) hx hb dX5_add_48 (by decide) ?_
  refine lv_iadd hx hb dX5_add_49 ?_
  refine gk_putf (ty := .int) (v := .int (((gk_put (gk_put σ 6 (σ.2 3) ((gk_at σ 6 a0) + 1)) 7 (σ.2 3) ((gk_at (gk_put σ 6 (σ.2 3) ((gk_at σ 6 a0) + 1)) 7 a0) ||| (1 <<< (a0 &&& 31)))).2 3) + 1)) hx hb hts iwX5 tyX5 tyX5_ok nmX5 hown hK.1 hS (gk_A.in (by decide)) (gk_o4 hW) rfl 0 (by decide) (hts _ fl_X5_9) (fun _ h9 => h9) rfl (by decide +kernel) rfl rfl (Nat.le_of_ble_eq_true rfl) dX5_add_50 (fun H locs h1 _ oq hS => ?_)
  have hW := gk_p3 hW h1 oq
  refine lv_iload_n hx hb dX5_add_53 rfl (lv_at hl 0 rfl) ?_
  exact gk_reti C0 hw hW hS dX5_add_54
def w_X6_add (σ : gk_C) (a0 : Int32) (a1 : Int32) (Q : Int32 → gk_C → Prop) : Prop := (Q (σ.2 0) (gk_s (gk_put (gk_put σ 0 (σ.2 0) a0) 1 (σ.2 0) a1) 0 (((gk_put (gk_put σ 0 (σ.2 0) a0) 1 (σ.2 0) a1).2 0) + 1)))
abbrev rmX6_add : Room := { frames := 1, cells := 0, slots := 0, locals := 22 }
set_option maxHeartbeats 4000000 in
set_option maxRecDepth 100000 in
theorem c_X6_add (l : Launch) (D : va_G) (cI cZ cG cL : ClassId) (ad : Nat → Nat) {σ : gk_C} {a0 : Int32} {a1 : Int32} {Q : Int32 → gk_C → Prop} {sz : Nat} (hw : w_X6_add σ a0 a1 Q) : Met l yX6_add wsX6_add rmX6_add (gk_Pc D cI cZ cG cL ad [.ref (ad 2), .int a0, .int a1] sz σ) (va_Qi (fun r u => Q r u) (gk_B D cI ad) (gk_A ad sz)) 0 0 (gk_A ad sz) := by
  refine Met.ofW (cc := cX6_add) (maxL := 4) (ret := (some .int)) (by decide) rfl ?_
  intro p e s m args below meth c s₁ B hml0 hv0
  obtain ⟨rfl, hsz, hW, hK⟩ := hv0
  subst hsz
  have C0 : gk_F p s m ([.ref (ad 2), .int a0, .int a1] : List Value).toArray meth c cX6_add 4 (some .int) RX6 := ⟨B.exec, B.bytes, hml0, findClass_of_methodNamed B.named, fun w hw => atoms_spec (ws := wsX6_add) B.pre w (List.mem_cons_of_mem _ hw), B.returns, B.notSynchronized⟩
  obtain ⟨hx, hb, hml, hown, hts, hr, hlocks⟩ := id C0
  have hS : va_S (gk_A ad s.heap.size) s.heap s.heap [] := va_S.rf
  have hl := lv_entry ([.ref (ad 2), .int a0, .int a1]) (n := 4) (Nat.le_of_ble_eq_true rfl)
  rw [lg_entry_eq]
  generalize (lg_sl ([.ref (ad 2), .int a0, .int a1]) ++ List.replicate (4 - (lg_sl ([.ref (ad 2), .int a0, .int a1])).length) Slot.unset).toArray = ls at hl ⊢
  have hl : lv_has ls 4 [(0, .ref (ad 2)), (1, .int a0), (2, .int a1)] := hl
  show W p l e rmX6_add s m _ below meth c s.heap [] 0 0 _ _
  refine lv_aload_n hx hb dX6_add_0 rfl (lv_at hl 0 rfl) ?_
  refine gk_get hx hb hts iwX6 hown hK.1 (gk_o2 hW) rfl 0 (by decide) (hts _ fl_X6_29) (fun _ h9 => h9) rfl dX6_add_1 ?_
  refine lv_istore_n (lv' := [(3, .int (σ.2 0)), (0, .ref (ad 2)), (1, .int a0), (2, .int a1)]) hx hb dX6_add_4 rfl hl (by decide) rfl (fun ls hl => ?_)
  refine lv_aload_n hx hb dX6_add_5 rfl (lv_at hl 1 rfl) ?_
  refine gk_get hx hb hts iwX6 hown hK.1 (gk_o2 hW) rfl 1 (by decide) (hts _ fl_X6_14) (fun _ h9 => h9) rfl dX6_add_6 ?_
  refine lv_iload_n hx hb dX6_add_9 rfl (lv_at hl 0 rfl) ?_
  refine lv_iload_n hx hb dX6_add_10 rfl (lv_at hl 2 rfl) ?_
  refine gk_callVv ⟨hx, hb, hml, hown, hts⟩ (c_X2_put l D cI cZ cG cL ad (σ := σ) (r := 0) (i := (σ.2 0)) (x := a0) (by decide)) (cwV 2 hts (gk_gV ml_X6_33 im_X2_put se_X2_put in_X2 co_X2_put) rfl rfl rfl (by decide +kernel) ⟨Nat.le_of_ble_eq_true rfl, Nat.le_of_ble_eq_true rfl⟩) (gk_recv hK.1 (gk_or hW (r := 0) (by decide)) rfl) hW hK hS rfl hl.1 (rest := []) rfl (lv_room (Nat.le_of_ble_eq_true rfl)) dX6_add_11 ⟨Nat.zero_le _, Nat.zero_le _⟩ (fun u H locs hq hW _ hS => ?_)
  rw [hq] at hW
  refine lv_aload_n hx hb dX6_add_14 rfl (lv_at hl 1 rfl) ?_
  refine gk_get hx hb hts iwX6 hown hK.1 (gk_o2 hW) rfl 2 (by decide) (hts _ fl_X6_20) (fun _ h9 => h9) rfl dX6_add_15 ?_
  refine lv_iload_n hx hb dX6_add_18 rfl (lv_at hl 0 rfl) ?_
  refine lv_iload_n hx hb dX6_add_19 rfl (lv_at hl 3 rfl) ?_
  refine gk_callVv ⟨hx, hb, hml, hown, hts⟩ (c_X2_put l D cI cZ cG cL ad (σ := (gk_put σ 0 (σ.2 0) a0)) (r := 1) (i := (σ.2 0)) (x := a1) (by decide)) (cwV 2 hts (gk_gV ml_X6_33 im_X2_put se_X2_put in_X2 co_X2_put) rfl rfl rfl (by decide +kernel) ⟨Nat.le_of_ble_eq_true rfl, Nat.le_of_ble_eq_true rfl⟩) (gk_recv hK.1 (gk_or hW (r := 1) (by decide)) rfl) hW hK hS rfl hl.1 (rest := []) rfl (lv_room (Nat.le_of_ble_eq_true rfl)) dX6_add_20 ⟨Nat.zero_le _, Nat.zero_le _⟩ (fun u H locs hq hW _ hS => ?_)
  rw [hq] at hW
  refine lv_aload_n hx hb dX6_add_23 rfl (lv_at hl 1 rfl) ?_
  refine lv_dup hx hb dX6_add_24 rfl ?_
  refine gk_get hx hb hts iwX6 hown hK.1 (gk_o2 hW) rfl 0 (by decide) (hts _ fl_X6_29) (fun _ h9 => h9) rfl dX6_add_25 ?_
  refine lv_iconst (v := 1) hx hb dX6_add_28 (by decide) ?_
  refine lv_iadd hx hb dX6_add_29 ?_
  refine gk_putf (ty := .int) (v := .int (((gk_put (gk_put σ 0 (σ.2 0) a0) 1 (σ.2 0) a1).2 0) + 1)) hx hb hts iwX6 tyX6 tyX6_ok nmX6 hown hK.1 hS (gk_A.in (by decide)) (gk_o2 hW) rfl 0 (by decide) (hts _ fl_X6_29) (fun _ h9 => h9) rfl (by decide +kernel) rfl rfl (Nat.le_of_ble_eq_true rfl) dX6_add_30 (fun H locs h1 _ oq hS => ?_)
  have hW := gk_p0 hW h1 oq
  refine lv_iload_n hx hb dX6_add_33 rfl (lv_at hl 0 rfl) ?_
  exact gk_reti C0 hw hW hS dX6_add_34
def w_X6_doneOn (σ : gk_C) (a0 : Int32) (a1 : Int32) (Q : Int32 → Prop) : Prop := (Q (gk_at σ 3 ((a0 * 24) + a1)))
abbrev rmX6_doneOn : Room := { frames := 1, cells := 0, slots := 0, locals := 21 }
set_option maxHeartbeats 4000000 in
set_option maxRecDepth 100000 in
theorem c_X6_doneOn (l : Launch) (D : va_G) (cI cZ cG cL : ClassId) (ad : Nat → Nat) {σ : gk_C} {a0 : Int32} {a1 : Int32} {Q : Int32 → Prop} {sz : Nat} (hw : w_X6_doneOn σ a0 a1 Q) : Met l yX6_doneOn wsX6_doneOn rmX6_doneOn (gk_Pc D cI cZ cG cL ad [.ref (ad 2), .int a0, .int a1] sz σ) (va_Qi (fun r u => u = σ ∧ Q r) (gk_B D cI ad) (gk_A ad sz)) 0 0 (gk_A ad sz) := by
  refine Met.ofW (cc := cX6_doneOn) (maxL := 3) (ret := (some .int)) (by decide) rfl ?_
  intro p e s m args below meth c s₁ B hml0 hv0
  obtain ⟨rfl, hsz, hW, hK⟩ := hv0
  subst hsz
  have C0 : gk_F p s m ([.ref (ad 2), .int a0, .int a1] : List Value).toArray meth c cX6_doneOn 3 (some .int) RX6 := ⟨B.exec, B.bytes, hml0, findClass_of_methodNamed B.named, fun w hw => atoms_spec (ws := wsX6_doneOn) B.pre w (List.mem_cons_of_mem _ hw), B.returns, B.notSynchronized⟩
  obtain ⟨hx, hb, hml, hown, hts, hr, hlocks⟩ := id C0
  have hS : va_S (gk_A ad s.heap.size) s.heap s.heap [] := va_S.rf
  have hl := lv_entry ([.ref (ad 2), .int a0, .int a1]) (n := 3) (Nat.le_of_ble_eq_true rfl)
  rw [lg_entry_eq]
  generalize (lg_sl ([.ref (ad 2), .int a0, .int a1]) ++ List.replicate (3 - (lg_sl ([.ref (ad 2), .int a0, .int a1])).length) Slot.unset).toArray = ls at hl ⊢
  have hl : lv_has ls 3 [(0, .ref (ad 2)), (1, .int a0), (2, .int a1)] := hl
  show W p l e rmX6_doneOn s m _ below meth c s.heap [] 0 0 _ _
  refine lv_aload_n hx hb dX6_doneOn_0 rfl (lv_at hl 0 rfl) ?_
  refine gk_get hx hb hts iwX6 hown hK.1 (gk_o2 hW) rfl 4 (by decide) (hts _ fl_X6_26) (fun _ h9 => h9) rfl dX6_doneOn_1 ?_
  refine lv_iload_n hx hb dX6_doneOn_4 rfl (lv_at hl 1 rfl) ?_
  refine lv_bipush (v := 24) hx hb dX6_doneOn_5 (by decide) ?_
  refine lv_imul hx hb dX6_doneOn_7 ?_
  refine lv_iload_n hx hb dX6_doneOn_8 rfl (lv_at hl 2 rfl) ?_
  refine lv_iadd hx hb dX6_doneOn_9 ?_
  refine gk_callRi ⟨hx, hb, hml, hown, hts⟩ (c_X2_at l D cI cZ cG cL ad (σ := σ) (r := 3) (i := ((a0 * 24) + a1)) (by decide)) (cwV 1 hts (gk_gV ml_X6_36 im_X2_at se_X2_at in_X2 co_X2_at) rfl rfl rfl (by decide +kernel) ⟨Nat.le_of_ble_eq_true rfl, Nat.le_of_ble_eq_true rfl⟩) (gk_recv hK.1 (gk_or hW (r := 3) (by decide)) rfl) hW hK hS rfl hl.1 (rest := []) rfl (lv_room (Nat.le_of_ble_eq_true rfl)) dX6_doneOn_10 ⟨Nat.zero_le _, Nat.zero_le _⟩ (fun r10 H locs hq hW _ hS => ?_)
  obtain rfl := hq
  exact gk_reti C0 ⟨rfl, hw⟩ hW hS dX6_doneOn_13
def w_X6_note (σ : gk_C) (a0 : Int32) (a1 : Int32) (a2 : Int32) (Q : gk_C → Prop) : Prop := (w_X6_doneOn σ a0 a2 (fun r13 => Q (gk_put σ 3 ((a0 * 24) + a2) (r13 ||| (1 <<< (a1 &&& 31))))))
abbrev rmX6_note : Room := { frames := 2, cells := 0, slots := 0, locals := 43 }
set_option maxHeartbeats 4000000 in
set_option maxRecDepth 100000 in
theorem c_X6_note (l : Launch) (D : va_G) (cI cZ cG cL : ClassId) (ad : Nat → Nat) {σ : gk_C} {a0 : Int32} {a1 : Int32} {a2 : Int32} {Q : gk_C → Prop} {sz : Nat} (hw : w_X6_note σ a0 a1 a2 Q) : Met l yX6_note wsX6_note rmX6_note (gk_Pc D cI cZ cG cL ad [.ref (ad 2), .int a0, .int a1, .int a2] sz σ) (va_Qv (fun u => Q u) (gk_B D cI ad) (gk_A ad sz)) 0 0 (gk_A ad sz) := by
  refine Met.ofW (cc := cX6_note) (maxL := 4) (ret := none) (by decide) rfl ?_
  intro p e s m args below meth c s₁ B hml0 hv0
  obtain ⟨rfl, hsz, hW, hK⟩ := hv0
  subst hsz
  have C0 : gk_F p s m ([.ref (ad 2), .int a0, .int a1, .int a2] : List Value).toArray meth c cX6_note 4 none RX6 := ⟨B.exec, B.bytes, hml0, findClass_of_methodNamed B.named, fun w hw => atoms_spec (ws := wsX6_note) B.pre w (List.mem_cons_of_mem _ hw), B.returns, B.notSynchronized⟩
  obtain ⟨hx, hb, hml, hown, hts, hr, hlocks⟩ := id C0
  have hS : va_S (gk_A ad s.heap.size) s.heap s.heap [] := va_S.rf
  have hl := lv_entry ([.ref (ad 2), .int a0, .int a1, .int a2]) (n := 4) (Nat.le_of_ble_eq_true rfl)
  rw [lg_entry_eq]
  generalize (lg_sl ([.ref (ad 2), .int a0, .int a1, .int a2]) ++ List.replicate (4 - (lg_sl ([.ref (ad 2), .int a0, .int a1, .int a2])).length) Slot.unset).toArray = ls at hl ⊢
  have hl : lv_has ls 4 [(0, .ref (ad 2)), (1, .int a0), (2, .int a1), (3, .int a2)] := hl
  show W p l e rmX6_note s m _ below meth c s.heap [] 0 0 _ _
  refine lv_aload_n hx hb dX6_note_0 rfl (lv_at hl 0 rfl) ?_
  refine gk_get hx hb hts iwX6 hown hK.1 (gk_o2 hW) rfl 4 (by decide) (hts _ fl_X6_26) (fun _ h9 => h9) rfl dX6_note_1 ?_
  refine lv_iload_n hx hb dX6_note_4 rfl (lv_at hl 1 rfl) ?_
  refine lv_bipush (v := 24) hx hb dX6_note_5 (by decide) ?_
  refine lv_imul hx hb dX6_note_7 ?_
  refine lv_iload_n hx hb dX6_note_8 rfl (lv_at hl 3 rfl) ?_
  refine lv_iadd hx hb dX6_note_9 ?_
  refine lv_aload_n hx hb dX6_note_10 rfl (lv_at hl 0 rfl) ?_
  refine lv_iload_n hx hb dX6_note_11 rfl (lv_at hl 1 rfl) ?_
  refine lv_iload_n hx hb dX6_note_12 rfl (lv_at hl 3 rfl) ?_
  refine gk_callRi ⟨hx, hb, hml, hown, hts⟩ (c_X6_doneOn l D cI cZ cG cL ad hw) (cwV 2 hts (gk_gV ml_X6_40 im_X6_doneOn se_X6_doneOn in_X6 co_X6_doneOn) rfl rfl rfl (by decide +kernel) ⟨Nat.le_of_ble_eq_true rfl, Nat.le_of_ble_eq_true rfl⟩) (gk_recv hK.1 (gk_o2 hW) rfl) hW hK hS rfl hl.1 (rest := [.int ((a0 * 24) + a2), .ref (ad (9 + 3))]) rfl (lv_room (Nat.le_of_ble_eq_true rfl)) dX6_note_13 ⟨Nat.zero_le _, Nat.zero_le _⟩ (fun r13 H locs hw hW _ hS => ?_)
  refine lv_iconst (v := 1) hx hb dX6_note_16 (by decide) ?_
  refine lv_iload_n hx hb dX6_note_17 rfl (lv_at hl 2 rfl) ?_
  refine lv_ishl hx hb dX6_note_18 ?_
  refine lv_ior hx hb dX6_note_19 ?_
  refine gk_callVv ⟨hx, hb, hml, hown, hts⟩ (c_X2_put l D cI cZ cG cL ad (σ := σ) (r := 3) (i := ((a0 * 24) + a2)) (x := (r13 ||| (1 <<< (a1 &&& 31)))) (by decide)) (cwV 2 hts (gk_gV ml_X6_33 im_X2_put se_X2_put in_X2 co_X2_put) rfl rfl rfl (by decide +kernel) ⟨Nat.le_of_ble_eq_true rfl, Nat.le_of_ble_eq_true rfl⟩) (gk_recv hK.1 (gk_or hW (r := 3) (by decide)) rfl) hW hK hS rfl hl.1 (rest := []) rfl (lv_room (Nat.le_of_ble_eq_true rfl)) dX6_note_20 ⟨Nat.zero_le _, Nat.zero_le _⟩ (fun u H locs hq hW _ hS => ?_)
  rw [hq] at hW
  exact gk_retv C0 hw hW hS dX6_note_23
def w_X1_add (σ : gk_C)  (Q : Int32 → gk_C → Prop) : Prop := (Q (σ.2 1) (gk_s σ 1 ((σ.2 1) + 1)))
abbrev rmX1_add : Room := { frames := 0, cells := 0, slots := 0, locals := 0 }
set_option maxHeartbeats 4000000 in
set_option maxRecDepth 100000 in
theorem c_X1_add (l : Launch) (D : va_G) (cI cZ cG cL : ClassId) (ad : Nat → Nat) {σ : gk_C} {Q : Int32 → gk_C → Prop} {sz : Nat} (hw : w_X1_add σ  Q) : Met l yX1_add wsX1_add rmX1_add (gk_Pc D cI cZ cG cL ad [.ref (ad 3)] sz σ) (va_Qi (fun r u => Q r u) (gk_B D cI ad) (gk_A ad sz)) 0 0 (gk_A ad sz) := by
  refine Met.ofW (cc := cX1_add) (maxL := 2) (ret := (some .int)) (by decide) rfl ?_
  intro p e s m args below meth c s₁ B hml0 hv0
  obtain ⟨rfl, hsz, hW, hK⟩ := hv0
  subst hsz
  have C0 : gk_F p s m ([.ref (ad 3)] : List Value).toArray meth c cX1_add 2 (some .int) RX1 := ⟨B.exec, B.bytes, hml0, findClass_of_methodNamed B.named, fun w hw => atoms_spec (ws := wsX1_add) B.pre w (List.mem_cons_of_mem _ hw), B.returns, B.notSynchronized⟩
  obtain ⟨hx, hb, hml, hown, hts, hr, hlocks⟩ := id C0
  have hS : va_S (gk_A ad s.heap.size) s.heap s.heap [] := va_S.rf
  have hl := lv_entry ([.ref (ad 3)]) (n := 2) (Nat.le_of_ble_eq_true rfl)
  rw [lg_entry_eq]
  generalize (lg_sl ([.ref (ad 3)]) ++ List.replicate (2 - (lg_sl ([.ref (ad 3)])).length) Slot.unset).toArray = ls at hl ⊢
  have hl : lv_has ls 2 [(0, .ref (ad 3))] := hl
  show W p l e rmX1_add s m _ below meth c s.heap [] 0 0 _ _
  refine lv_aload_n hx hb dX1_add_0 rfl (lv_at hl 0 rfl) ?_
  refine gk_get hx hb hts iwX1 hown hK.1 (gk_o3 hW) rfl 0 (by decide) (hts _ fl_X1_23) (fun _ h9 => h9) rfl dX1_add_1 ?_
  refine lv_istore_n (lv' := [(1, .int (σ.2 1)), (0, .ref (ad 3))]) hx hb dX1_add_4 rfl hl (by decide) rfl (fun ls hl => ?_)
  refine lv_aload_n hx hb dX1_add_5 rfl (lv_at hl 1 rfl) ?_
  refine lv_dup hx hb dX1_add_6 rfl ?_
  refine gk_get hx hb hts iwX1 hown hK.1 (gk_o3 hW) rfl 0 (by decide) (hts _ fl_X1_23) (fun _ h9 => h9) rfl dX1_add_7 ?_
  refine lv_iconst (v := 1) hx hb dX1_add_10 (by decide) ?_
  refine lv_iadd hx hb dX1_add_11 ?_
  refine gk_putf (ty := .int) (v := .int ((σ.2 1) + 1)) hx hb hts iwX1 tyX1 tyX1_ok nmX1 hown hK.1 hS (gk_A.in (by decide)) (gk_o3 hW) rfl 0 (by decide) (hts _ fl_X1_23) (fun _ h9 => h9) rfl (by decide +kernel) rfl rfl (Nat.le_of_ble_eq_true rfl) dX1_add_12 (fun H locs h1 _ oq hS => ?_)
  have hW := gk_p1 hW h1 oq
  refine lv_iload_n hx hb dX1_add_15 rfl (lv_at hl 0 rfl) ?_
  exact gk_reti C0 hw hW hS dX1_add_16
def w_X1_part (σ : gk_C) (a0 : Int32) (a1 : Int32) (Q : Int32 → gk_C → Prop) : Prop := (Q ((gk_s (gk_put (gk_put σ 5 a0 ((gk_at σ 5 a0) ||| (1 <<< (a1 &&& 31)))) 5 a1 ((gk_at (gk_put σ 5 a0 ((gk_at σ 5 a0) ||| (1 <<< (a1 &&& 31)))) 5 a1) ||| (1 <<< (a0 &&& 31)))) 2 (((gk_put (gk_put σ 5 a0 ((gk_at σ 5 a0) ||| (1 <<< (a1 &&& 31)))) 5 a1 ((gk_at (gk_put σ 5 a0 ((gk_at σ 5 a0) ||| (1 <<< (a1 &&& 31)))) 5 a1) ||| (1 <<< (a0 &&& 31)))).2 2) + 1)).2 2) (gk_s (gk_put (gk_put σ 5 a0 ((gk_at σ 5 a0) ||| (1 <<< (a1 &&& 31)))) 5 a1 ((gk_at (gk_put σ 5 a0 ((gk_at σ 5 a0) ||| (1 <<< (a1 &&& 31)))) 5 a1) ||| (1 <<< (a0 &&& 31)))) 2 (((gk_put (gk_put σ 5 a0 ((gk_at σ 5 a0) ||| (1 <<< (a1 &&& 31)))) 5 a1 ((gk_at (gk_put σ 5 a0 ((gk_at σ 5 a0) ||| (1 <<< (a1 &&& 31)))) 5 a1) ||| (1 <<< (a0 &&& 31)))).2 2) + 1)))
abbrev rmX1_part : Room := { frames := 1, cells := 0, slots := 0, locals := 22 }
set_option maxHeartbeats 4000000 in
set_option maxRecDepth 100000 in
theorem c_X1_part (l : Launch) (D : va_G) (cI cZ cG cL : ClassId) (ad : Nat → Nat) {σ : gk_C} {a0 : Int32} {a1 : Int32} {Q : Int32 → gk_C → Prop} {sz : Nat} (hw : w_X1_part σ a0 a1 Q) : Met l yX1_part wsX1_part rmX1_part (gk_Pc D cI cZ cG cL ad [.ref (ad 3), .int a0, .int a1] sz σ) (va_Qi (fun r u => Q r u) (gk_B D cI ad) (gk_A ad sz)) 0 0 (gk_A ad sz) := by
  refine Met.ofW (cc := cX1_part) (maxL := 3) (ret := (some .int)) (by decide) rfl ?_
  intro p e s m args below meth c s₁ B hml0 hv0
  obtain ⟨rfl, hsz, hW, hK⟩ := hv0
  subst hsz
  have C0 : gk_F p s m ([.ref (ad 3), .int a0, .int a1] : List Value).toArray meth c cX1_part 3 (some .int) RX1 := ⟨B.exec, B.bytes, hml0, findClass_of_methodNamed B.named, fun w hw => atoms_spec (ws := wsX1_part) B.pre w (List.mem_cons_of_mem _ hw), B.returns, B.notSynchronized⟩
  obtain ⟨hx, hb, hml, hown, hts, hr, hlocks⟩ := id C0
  have hS : va_S (gk_A ad s.heap.size) s.heap s.heap [] := va_S.rf
  have hl := lv_entry ([.ref (ad 3), .int a0, .int a1]) (n := 3) (Nat.le_of_ble_eq_true rfl)
  rw [lg_entry_eq]
  generalize (lg_sl ([.ref (ad 3), .int a0, .int a1]) ++ List.replicate (3 - (lg_sl ([.ref (ad 3), .int a0, .int a1])).length) Slot.unset).toArray = ls at hl ⊢
  have hl : lv_has ls 3 [(0, .ref (ad 3)), (1, .int a0), (2, .int a1)] := hl
  show W p l e rmX1_part s m _ below meth c s.heap [] 0 0 _ _
  refine lv_aload_n hx hb dX1_part_0 rfl (lv_at hl 0 rfl) ?_
  refine gk_get hx hb hts iwX1 hown hK.1 (gk_o3 hW) rfl 3 (by decide) (hts _ fl_X1_20) (fun _ h9 => h9) rfl dX1_part_1 ?_
  refine lv_iload_n hx hb dX1_part_4 rfl (lv_at hl 1 rfl) ?_
  refine lv_aload_n hx hb dX1_part_5 rfl (lv_at hl 0 rfl) ?_
  refine gk_get hx hb hts iwX1 hown hK.1 (gk_o3 hW) rfl 3 (by decide) (hts _ fl_X1_20) (fun _ h9 => h9) rfl dX1_part_6 ?_
  refine lv_iload_n hx hb dX1_part_9 rfl (lv_at hl 1 rfl) ?_
  refine gk_callRi ⟨hx, hb, hml, hown, hts⟩ (c_X2_at l D cI cZ cG cL ad (σ := σ) (r := 5) (i := a0) (by decide)) (cwV 1 hts (gk_gV ml_X1_27 im_X2_at se_X2_at in_X2 co_X2_at) rfl rfl rfl (by decide +kernel) ⟨Nat.le_of_ble_eq_true rfl, Nat.le_of_ble_eq_true rfl⟩) (gk_recv hK.1 (gk_or hW (r := 5) (by decide)) rfl) hW hK hS rfl hl.1 (rest := [.int a0, .ref (ad (9 + 5))]) rfl (lv_room (Nat.le_of_ble_eq_true rfl)) dX1_part_10 ⟨Nat.zero_le _, Nat.zero_le _⟩ (fun r10 H locs hq hW _ hS => ?_)
  obtain rfl := hq
  refine lv_iconst (v := 1) hx hb dX1_part_13 (by decide) ?_
  refine lv_iload_n hx hb dX1_part_14 rfl (lv_at hl 2 rfl) ?_
  refine lv_ishl hx hb dX1_part_15 ?_
  refine lv_ior hx hb dX1_part_16 ?_
  refine gk_callVv ⟨hx, hb, hml, hown, hts⟩ (c_X2_put l D cI cZ cG cL ad (σ := σ) (r := 5) (i := a0) (x := ((gk_at σ 5 a0) ||| (1 <<< (a1 &&& 31)))) (by decide)) (cwV 2 hts (gk_gV ml_X1_31 im_X2_put se_X2_put in_X2 co_X2_put) rfl rfl rfl (by decide +kernel) ⟨Nat.le_of_ble_eq_true rfl, Nat.le_of_ble_eq_true rfl⟩) (gk_recv hK.1 (gk_or hW (r := 5) (by decide)) rfl) hW hK hS rfl hl.1 (rest := []) rfl (lv_room (Nat.le_of_ble_eq_true rfl)) dX1_part_17 ⟨Nat.zero_le _, Nat.zero_le _⟩ (fun u H locs hq hW _ hS => ?_)
  rw [hq] at hW
  refine lv_aload_n hx hb dX1_part_20 rfl (lv_at hl 0 rfl) ?_
  refine gk_get hx hb hts iwX1 hown hK.1 (gk_o3 hW) rfl 3 (by decide) (hts _ fl_X1_20) (fun _ h9 => h9) rfl dX1_part_21 ?_
  refine lv_iload_n hx hb dX1_part_24 rfl (lv_at hl 2 rfl) ?_
  refine lv_aload_n hx hb dX1_part_25 rfl (lv_at hl 0 rfl) ?_
  refine gk_get hx hb hts iwX1 hown hK.1 (gk_o3 hW) rfl 3 (by decide) (hts _ fl_X1_20) (fun _ h9 => h9) rfl dX1_part_26 ?_
  refine lv_iload_n hx hb dX1_part_29 rfl (lv_at hl 2 rfl) ?_
  refine gk_callRi ⟨hx, hb, hml, hown, hts⟩ (c_X2_at l D cI cZ cG cL ad (σ := (gk_put σ 5 a0 ((gk_at σ 5 a0) ||| (1 <<< (a1 &&& 31))))) (r := 5) (i := a1) (by decide)) (cwV 1 hts (gk_gV ml_X1_27 im_X2_at se_X2_at in_X2 co_X2_at) rfl rfl rfl (by decide +kernel) ⟨Nat.le_of_ble_eq_true rfl, Nat.le_of_ble_eq_true rfl⟩) (gk_recv hK.1 (gk_or hW (r := 5) (by decide)) rfl) hW hK hS rfl hl.1 (rest := [.int a1, .ref (ad (9 + 5))]) rfl (lv_room (Nat.le_of_ble_eq_true rfl)) dX1_part_30 ⟨Nat.zero_le _, Nat.zero_le _⟩ (fun r30 H locs hq hW _ hS => ?_)
  obtain rfl := hq
  refine lv_iconst (v := 1) hx hb dX1_part_33 (by decide) ?_
  refine lv_iload_n hx hb dX1_part_34 rfl (lv_at hl 1 rfl) ?_
  refine lv_ishl hx hb dX1_part_35 ?_
  refine lv_ior hx hb dX1_part_36 ?_
  refine gk_callVv ⟨hx, hb, hml, hown, hts⟩ (c_X2_put l D cI cZ cG cL ad (σ := (gk_put σ 5 a0 ((gk_at σ 5 a0) ||| (1 <<< (a1 &&& 31))))) (r := 5) (i := a1) (x := ((gk_at (gk_put σ 5 a0 ((gk_at σ 5 a0) ||| (1 <<< (a1 &&& 31)))) 5 a1) ||| (1 <<< (a0 &&& 31)))) (by decide)) (cwV 2 hts (gk_gV ml_X1_31 im_X2_put se_X2_put in_X2 co_X2_put) rfl rfl rfl (by decide +kernel) ⟨Nat.le_of_ble_eq_true rfl, Nat.le_of_ble_eq_true rfl⟩) (gk_recv hK.1 (gk_or hW (r := 5) (by decide)) rfl) hW hK hS rfl hl.1 (rest := []) rfl (lv_room (Nat.le_of_ble_eq_true rfl)) dX1_part_37 ⟨Nat.zero_le _, Nat.zero_le _⟩ (fun u H locs hq hW _ hS => ?_)
  rw [hq] at hW
  refine lv_aload_n hx hb dX1_part_40 rfl (lv_at hl 0 rfl) ?_
  refine lv_dup hx hb dX1_part_41 rfl ?_
  refine gk_get hx hb hts iwX1 hown hK.1 (gk_o3 hW) rfl 1 (by decide) (hts _ fl_X1_34) (fun _ h9 => h9) rfl dX1_part_42 ?_
  refine lv_iconst (v := 1) hx hb dX1_part_45 (by decide) ?_
  refine lv_iadd hx hb dX1_part_46 ?_
  refine gk_putf (ty := .int) (v := .int (((gk_put (gk_put σ 5 a0 ((gk_at σ 5 a0) ||| (1 <<< (a1 &&& 31)))) 5 a1 ((gk_at (gk_put σ 5 a0 ((gk_at σ 5 a0) ||| (1 <<< (a1 &&& 31)))) 5 a1) ||| (1 <<< (a0 &&& 31)))).2 2) + 1)) hx hb hts iwX1 tyX1 tyX1_ok nmX1 hown hK.1 hS (gk_A.in (by decide)) (gk_o3 hW) rfl 1 (by decide) (hts _ fl_X1_34) (fun _ h9 => h9) rfl (by decide +kernel) rfl rfl (Nat.le_of_ble_eq_true rfl) dX1_part_47 (fun H locs h1 _ oq hS => ?_)
  have hW := gk_p2 hW h1 oq
  refine lv_aload_n hx hb dX1_part_50 rfl (lv_at hl 0 rfl) ?_
  refine gk_get hx hb hts iwX1 hown hK.1 (gk_o3 hW) rfl 1 (by decide) (hts _ fl_X1_34) (fun _ h9 => h9) rfl dX1_part_51 ?_
  exact gk_reti C0 hw hW hS dX1_part_54
def wL_X1_heldBy_4 (σ : gk_C) (Q : Int32 → Prop) : Nat → Int32 → Int32 → Int32 → Prop
  | 0 => fun _ _ _ => False
  | n + 1 => fun x1 x2 x3 => ((((σ.2 1) ≤ x3) → (Q x2)) ∧ ((¬ (σ.2 1) ≤ x3) → (w_X8_isIn x1 x3 (fun r14 => ((r14 = 0) → (wL_X1_heldBy_4 σ Q n x1 x2 (x3 + 1))) ∧ ((¬ r14 = 0) → (wL_X1_heldBy_4 σ Q n x1 (x2 ||| (gk_at σ 4 x3)) (x3 + 1)))))))
def w_X1_heldBy (σ : gk_C) (a0 : Int32) (Q : Int32 → Prop) : Prop := (∃ n4, wL_X1_heldBy_4 σ Q n4 a0 0 0)
abbrev rmX1_heldBy : Room := { frames := 1, cells := 0, slots := 0, locals := 21 }
set_option maxHeartbeats 4000000 in
set_option maxRecDepth 100000 in
theorem tL_X1_heldBy_4 {p : Program} {l : Launch} {e : Env} {s : State} {m : MethodId} {args : Array Value} {below : List Frame} {meth : Method} {c : Code} {D : va_G} {cI cZ cG cL : ClassId} {ad : Nat → Nat} (C0 : gk_F p s m args meth c cX1_heldBy 4 (some .int) RX1) (hK : gk_K D cI cZ cG cL s) {σ : gk_C} {Q : Int32 → Prop} : ∀ (n : Nat) (x1 : Int32) (x2 : Int32) (x3 : Int32), wL_X1_heldBy_4 σ Q n x1 x2 x3 → ∀ (H : Heap) (locs : List Loc), gk_W D cI ad σ H → va_S (gk_A ad s.heap.size) s.heap H locs → ∀ (ls : Array Slot), lv_has ls 4 [(0, .ref (ad 3)), (1, .int x1), (2, .int x2), (3, .int x3)] → W p l e rmX1_heldBy s m args below meth c H locs 0 0 (MQ below (va_Qi (fun r u => u = σ ∧ Q r) (gk_B D cI ad) (gk_A ad s.heap.size)) args s 0 0 (gk_A ad s.heap.size)) (F0 m 4 ls []) := by
  obtain ⟨hx, hb, hml, hown, hts, hr, hlocks⟩ := id C0
  intro n
  induction n with
  | zero => exact fun _ _ _ hw => False.elim hw
  | succ n ih =>
    intro x1 x2 x3 hw H locs hW hS ls hl
    refine lv_iload_n hx hb dX1_heldBy_4 rfl (lv_at hl 3 rfl) ?_
    refine lv_aload_n hx hb dX1_heldBy_5 rfl (lv_at hl 0 rfl) ?_
    refine gk_get hx hb hts iwX1 hown hK.1 (gk_o3 hW) rfl 0 (by decide) (hts _ fl_X1_23) (fun _ h9 => h9) rfl dX1_heldBy_6 ?_
    refine lv_icmp_ge (tgt := 37) hx hb dX1_heldBy_9 (by decide) (fun c9 => ?_) (fun c9 => ?_)
    · have hw := hw.1 c9
      refine lv_iload_n hx hb dX1_heldBy_37 rfl (lv_at hl 2 rfl) ?_
      exact gk_reti C0 ⟨rfl, hw⟩ hW hS dX1_heldBy_38
    · have hw := hw.2 c9
      refine lv_iload_n hx hb dX1_heldBy_12 rfl (lv_at hl 1 rfl) ?_
      refine lv_iload_n hx hb dX1_heldBy_13 rfl (lv_at hl 3 rfl) ?_
      refine gk_callSNi ⟨hx, hb, hml, hown, hts⟩ (c_X8_isIn l hw) ⟨va_cnB 2 hts (gk_gI co_X8_isIn) rfl rfl rfl (gk_nw hK nm_X1_37) (hts _ in_X8) (by decide +kernel) ⟨Nat.le_of_ble_eq_true rfl, Nat.le_of_ble_eq_true rfl⟩, hts _ st_X8_isIn, trivial⟩ hS rfl hl.1 (rest := []) rfl (lv_room (Nat.le_of_ble_eq_true rfl)) dX1_heldBy_14 ⟨Nat.zero_le _, Nat.zero_le _⟩ (fun r14 H locs hw _ hk hS => ?_)
      have hW := hW.kept (fun k hk9 => hk _ (hW.lt hk9))
      refine lv_if_eq (tgt := 31) hx hb dX1_heldBy_17 (by decide) (fun c17 => ?_) (fun c17 => ?_)
      · have hw := hw.1 c17
        refine lv_iinc (v := (x3 + 1)) (lv' := [(3, .int (x3 + 1)), (0, .ref (ad 3)), (1, .int x1), (2, .int x2)]) hx hb dX1_heldBy_31 hl (k := 3) rfl rfl (by decide) rfl (fun ls hl => ?_)
        refine lv_goto (tgt := 4) hx hb dX1_heldBy_34 (by decide) ?_
        exact ih x1 x2 (x3 + 1) hw _ _ hW hS _ (lv_sub hl [1, 2, 3, 0] rfl)
      · have hw := hw.2 c17
        refine lv_iload_n hx hb dX1_heldBy_20 rfl (lv_at hl 2 rfl) ?_
        refine lv_aload_n hx hb dX1_heldBy_21 rfl (lv_at hl 0 rfl) ?_
        refine gk_get hx hb hts iwX1 hown hK.1 (gk_o3 hW) rfl 2 (by decide) (hts _ fl_X1_14) (fun _ h9 => h9) rfl dX1_heldBy_22 ?_
        refine lv_iload_n hx hb dX1_heldBy_25 rfl (lv_at hl 3 rfl) ?_
        refine gk_callRi ⟨hx, hb, hml, hown, hts⟩ (c_X2_at l D cI cZ cG cL ad (σ := σ) (r := 4) (i := x3) (by decide)) (cwV 1 hts (gk_gV ml_X1_27 im_X2_at se_X2_at in_X2 co_X2_at) rfl rfl rfl (by decide +kernel) ⟨Nat.le_of_ble_eq_true rfl, Nat.le_of_ble_eq_true rfl⟩) (gk_recv hK.1 (gk_or hW (r := 4) (by decide)) rfl) hW hK hS rfl hl.1 (rest := [.int x2]) rfl (lv_room (Nat.le_of_ble_eq_true rfl)) dX1_heldBy_26 ⟨Nat.zero_le _, Nat.zero_le _⟩ (fun r26 H locs hq hW _ hS => ?_)
        obtain rfl := hq
        refine lv_ior hx hb dX1_heldBy_29 ?_
        refine lv_istore_n (lv' := [(2, .int (x2 ||| (gk_at σ 4 x3))), (0, .ref (ad 3)), (1, .int x1), (3, .int x3)]) hx hb dX1_heldBy_30 rfl hl (by decide) rfl (fun ls hl => ?_)
        refine lv_iinc (v := (x3 + 1)) (lv' := [(3, .int (x3 + 1)), (2, .int (x2 ||| (gk_at σ 4 x3))), (0, .ref (ad 3)), (1, .int x1)]) hx hb dX1_heldBy_31 hl (k := 3) rfl rfl (by decide) rfl (fun ls hl => ?_)
        refine lv_goto (tgt := 4) hx hb dX1_heldBy_34 (by decide) ?_
        exact ih x1 (x2 ||| (gk_at σ 4 x3)) (x3 + 1) hw _ _ hW hS _ (lv_sub hl [2, 3, 1, 0] rfl)
set_option maxHeartbeats 4000000 in
set_option maxRecDepth 100000 in
theorem c_X1_heldBy (l : Launch) (D : va_G) (cI cZ cG cL : ClassId) (ad : Nat → Nat) {σ : gk_C} {a0 : Int32} {Q : Int32 → Prop} {sz : Nat} (hw : w_X1_heldBy σ a0 Q) : Met l yX1_heldBy wsX1_heldBy rmX1_heldBy (gk_Pc D cI cZ cG cL ad [.ref (ad 3), .int a0] sz σ) (va_Qi (fun r u => u = σ ∧ Q r) (gk_B D cI ad) (gk_A ad sz)) 0 0 (gk_A ad sz) := by
  refine Met.ofW (cc := cX1_heldBy) (maxL := 4) (ret := (some .int)) (by decide) rfl ?_
  intro p e s m args below meth c s₁ B hml0 hv0
  obtain ⟨rfl, hsz, hW, hK⟩ := hv0
  subst hsz
  have C0 : gk_F p s m ([.ref (ad 3), .int a0] : List Value).toArray meth c cX1_heldBy 4 (some .int) RX1 := ⟨B.exec, B.bytes, hml0, findClass_of_methodNamed B.named, fun w hw => atoms_spec (ws := wsX1_heldBy) B.pre w (List.mem_cons_of_mem _ hw), B.returns, B.notSynchronized⟩
  obtain ⟨hx, hb, hml, hown, hts, hr, hlocks⟩ := id C0
  have hS : va_S (gk_A ad s.heap.size) s.heap s.heap [] := va_S.rf
  have hl := lv_entry ([.ref (ad 3), .int a0]) (n := 4) (Nat.le_of_ble_eq_true rfl)
  rw [lg_entry_eq]
  generalize (lg_sl ([.ref (ad 3), .int a0]) ++ List.replicate (4 - (lg_sl ([.ref (ad 3), .int a0])).length) Slot.unset).toArray = ls at hl ⊢
  have hl : lv_has ls 4 [(0, .ref (ad 3)), (1, .int a0)] := hl
  show W p l e rmX1_heldBy s m _ below meth c s.heap [] 0 0 _ _
  refine lv_iconst (v := 0) hx hb dX1_heldBy_0 (by decide) ?_
  refine lv_istore_n (lv' := [(2, .int 0), (0, .ref (ad 3)), (1, .int a0)]) hx hb dX1_heldBy_1 rfl hl (by decide) rfl (fun ls hl => ?_)
  refine lv_iconst (v := 0) hx hb dX1_heldBy_2 (by decide) ?_
  refine lv_istore_n (lv' := [(3, .int 0), (2, .int 0), (0, .ref (ad 3)), (1, .int a0)]) hx hb dX1_heldBy_3 rfl hl (by decide) rfl (fun ls hl => ?_)
  obtain ⟨n4, hw⟩ := hw
  refine tL_X1_heldBy_4 C0 hK  n4 a0 0 0 hw _ _ hW hS _ (lv_sub hl [2, 3, 1, 0] rfl)
def wL_X1_hadWith_7 (σ : gk_C) (Q : Int32 → Prop) : Nat → Int32 → Int32 → Int32 → Prop
  | 0 => fun _ _ _ => False
  | n + 1 => fun x2 x3 x4 => (((12 ≤ x4) → (Q x2)) ∧ ((¬ 12 ≤ x4) → (((x3 = 0) → (Q x2)) ∧ ((¬ x3 = 0) → (w_X1_heldBy σ x3 (fun r20 => wL_X1_hadWith_7 σ Q n (x2 ||| (r20 &&& (x2 ^^^ (-1)))) (r20 &&& (x2 ^^^ (-1))) (x4 + 1)))))))
def w_X1_hadWith (σ : gk_C) (a0 : Int32) (Q : Int32 → Prop) : Prop := (∃ n7, wL_X1_hadWith_7 σ Q n7 a0 a0 0)
abbrev rmX1_hadWith : Room := { frames := 2, cells := 0, slots := 0, locals := 44 }
set_option maxHeartbeats 4000000 in
set_option maxRecDepth 100000 in
theorem tL_X1_hadWith_7 {p : Program} {l : Launch} {e : Env} {s : State} {m : MethodId} {args : Array Value} {below : List Frame} {meth : Method} {c : Code} {D : va_G} {cI cZ cG cL : ClassId} {ad : Nat → Nat} (C0 : gk_F p s m args meth c cX1_hadWith 5 (some .int) RX1) (hK : gk_K D cI cZ cG cL s) {σ : gk_C} {Q : Int32 → Prop} : ∀ (n : Nat) (x2 : Int32) (x3 : Int32) (x4 : Int32), wL_X1_hadWith_7 σ Q n x2 x3 x4 → ∀ (H : Heap) (locs : List Loc), gk_W D cI ad σ H → va_S (gk_A ad s.heap.size) s.heap H locs → ∀ (ls : Array Slot), lv_has ls 5 [(0, .ref (ad 3)), (2, .int x2), (3, .int x3), (4, .int x4)] → W p l e rmX1_hadWith s m args below meth c H locs 0 0 (MQ below (va_Qi (fun r u => u = σ ∧ Q r) (gk_B D cI ad) (gk_A ad s.heap.size)) args s 0 0 (gk_A ad s.heap.size)) (F0 m 7 ls []) := by
  obtain ⟨hx, hb, hml, hown, hts, hr, hlocks⟩ := id C0
  intro n
  induction n with
  | zero => exact fun _ _ _ hw => False.elim hw
  | succ n ih =>
    intro x2 x3 x4 hw H locs hW hS ls hl
    refine lv_iload hx hb dX1_hadWith_7 (lv_at hl 3 rfl) ?_
    refine lv_bipush (v := 12) hx hb dX1_hadWith_9 (by decide) ?_
    refine lv_icmp_ge (tgt := 38) hx hb dX1_hadWith_11 (by decide) (fun c11 => ?_) (fun c11 => ?_)
    · have hw := hw.1 c11
      refine lv_iload_n hx hb dX1_hadWith_38 rfl (lv_at hl 1 rfl) ?_
      exact gk_reti C0 ⟨rfl, hw⟩ hW hS dX1_hadWith_39
    · have hw := hw.2 c11
      refine lv_iload_n hx hb dX1_hadWith_14 rfl (lv_at hl 2 rfl) ?_
      refine lv_if_eq (tgt := 38) hx hb dX1_hadWith_15 (by decide) (fun c15 => ?_) (fun c15 => ?_)
      · have hw := hw.1 c15
        refine lv_iload_n hx hb dX1_hadWith_38 rfl (lv_at hl 1 rfl) ?_
        exact gk_reti C0 ⟨rfl, hw⟩ hW hS dX1_hadWith_39
      · have hw := hw.2 c15
        refine lv_aload_n hx hb dX1_hadWith_18 rfl (lv_at hl 0 rfl) ?_
        refine lv_iload_n hx hb dX1_hadWith_19 rfl (lv_at hl 2 rfl) ?_
        refine gk_callRi ⟨hx, hb, hml, hown, hts⟩ (c_X1_heldBy l D cI cZ cG cL ad hw) (cwV 1 hts (gk_gV ml_X1_41 im_X1_heldBy se_X1_heldBy in_X1 co_X1_heldBy) rfl rfl rfl (by decide +kernel) ⟨Nat.le_of_ble_eq_true rfl, Nat.le_of_ble_eq_true rfl⟩) (gk_recv hK.1 (gk_o3 hW) rfl) hW hK hS rfl hl.1 (rest := []) rfl (lv_room (Nat.le_of_ble_eq_true rfl)) dX1_hadWith_20 ⟨Nat.zero_le _, Nat.zero_le _⟩ (fun r20 H locs hw hW _ hS => ?_)
        refine lv_iload_n hx hb dX1_hadWith_23 rfl (lv_at hl 1 rfl) ?_
        refine lv_iconst (v := (-1)) hx hb dX1_hadWith_24 (by decide) ?_
        refine lv_ixor hx hb dX1_hadWith_25 ?_
        refine lv_iand hx hb dX1_hadWith_26 ?_
        refine lv_istore_n (lv' := [(3, .int (r20 &&& (x2 ^^^ (-1)))), (0, .ref (ad 3)), (2, .int x2), (4, .int x4)]) hx hb dX1_hadWith_27 rfl hl (by decide) rfl (fun ls hl => ?_)
        refine lv_iload_n hx hb dX1_hadWith_28 rfl (lv_at hl 2 rfl) ?_
        refine lv_iload_n hx hb dX1_hadWith_29 rfl (lv_at hl 0 rfl) ?_
        refine lv_ior hx hb dX1_hadWith_30 ?_
        refine lv_istore_n (lv' := [(2, .int (x2 ||| (r20 &&& (x2 ^^^ (-1))))), (3, .int (r20 &&& (x2 ^^^ (-1)))), (0, .ref (ad 3)), (4, .int x4)]) hx hb dX1_hadWith_31 rfl hl (by decide) rfl (fun ls hl => ?_)
        refine lv_iinc (v := (x4 + 1)) (lv' := [(4, .int (x4 + 1)), (2, .int (x2 ||| (r20 &&& (x2 ^^^ (-1))))), (3, .int (r20 &&& (x2 ^^^ (-1)))), (0, .ref (ad 3))]) hx hb dX1_hadWith_32 hl (k := 3) rfl rfl (by decide) rfl (fun ls hl => ?_)
        refine lv_goto (tgt := 7) hx hb dX1_hadWith_35 (by decide) ?_
        exact ih (x2 ||| (r20 &&& (x2 ^^^ (-1)))) (r20 &&& (x2 ^^^ (-1))) (x4 + 1) hw _ _ hW hS _ (lv_sub hl [3, 1, 2, 0] rfl)
set_option maxHeartbeats 4000000 in
set_option maxRecDepth 100000 in
theorem c_X1_hadWith (l : Launch) (D : va_G) (cI cZ cG cL : ClassId) (ad : Nat → Nat) {σ : gk_C} {a0 : Int32} {Q : Int32 → Prop} {sz : Nat} (hw : w_X1_hadWith σ a0 Q) : Met l yX1_hadWith wsX1_hadWith rmX1_hadWith (gk_Pc D cI cZ cG cL ad [.ref (ad 3), .int a0] sz σ) (va_Qi (fun r u => u = σ ∧ Q r) (gk_B D cI ad) (gk_A ad sz)) 0 0 (gk_A ad sz) := by
  refine Met.ofW (cc := cX1_hadWith) (maxL := 5) (ret := (some .int)) (by decide) rfl ?_
  intro p e s m args below meth c s₁ B hml0 hv0
  obtain ⟨rfl, hsz, hW, hK⟩ := hv0
  subst hsz
  have C0 : gk_F p s m ([.ref (ad 3), .int a0] : List Value).toArray meth c cX1_hadWith 5 (some .int) RX1 := ⟨B.exec, B.bytes, hml0, findClass_of_methodNamed B.named, fun w hw => atoms_spec (ws := wsX1_hadWith) B.pre w (List.mem_cons_of_mem _ hw), B.returns, B.notSynchronized⟩
  obtain ⟨hx, hb, hml, hown, hts, hr, hlocks⟩ := id C0
  have hS : va_S (gk_A ad s.heap.size) s.heap s.heap [] := va_S.rf
  have hl := lv_entry ([.ref (ad 3), .int a0]) (n := 5) (Nat.le_of_ble_eq_true rfl)
  rw [lg_entry_eq]
  generalize (lg_sl ([.ref (ad 3), .int a0]) ++ List.replicate (5 - (lg_sl ([.ref (ad 3), .int a0])).length) Slot.unset).toArray = ls at hl ⊢
  have hl : lv_has ls 5 [(0, .ref (ad 3)), (1, .int a0)] := hl
  show W p l e rmX1_hadWith s m _ below meth c s.heap [] 0 0 _ _
  refine lv_iload_n hx hb dX1_hadWith_0 rfl (lv_at hl 1 rfl) ?_
  refine lv_istore_n (lv' := [(2, .int a0), (0, .ref (ad 3)), (1, .int a0)]) hx hb dX1_hadWith_1 rfl hl (by decide) rfl (fun ls hl => ?_)
  refine lv_iload_n hx hb dX1_hadWith_2 rfl (lv_at hl 2 rfl) ?_
  refine lv_istore_n (lv' := [(3, .int a0), (2, .int a0), (0, .ref (ad 3)), (1, .int a0)]) hx hb dX1_hadWith_3 rfl hl (by decide) rfl (fun ls hl => ?_)
  refine lv_iconst (v := 0) hx hb dX1_hadWith_4 (by decide) ?_
  refine lv_istore (lv' := [(4, .int 0), (3, .int a0), (2, .int a0), (0, .ref (ad 3)), (1, .int a0)]) hx hb dX1_hadWith_5 hl (by decide) rfl (fun ls hl => ?_)
  obtain ⟨n7, hw⟩ := hw
  refine tL_X1_hadWith_7 C0 hK  n7 a0 a0 0 hw _ _ hW hS _ (lv_sub hl [3, 2, 1, 0] rfl)
def wL_X1_nearBy_5 (σ : gk_C) (Q : Int32 → Prop) : Nat → Int32 → Int32 → Int32 → Prop
  | 0 => fun _ _ _ => False
  | n + 1 => fun x2 x3 x4 => (((12 < x4) → (Q (-1))) ∧ ((¬ 12 < x4) → (((x3 = 0) → (Q (-1))) ∧ ((¬ x3 = 0) → (w_X8_isIn x3 x2 (fun r18 => ((r18 = 0) → (w_X1_heldBy σ x3 (fun r29 => wL_X1_nearBy_5 σ Q n x2 r29 (x4 + 1)))) ∧ ((¬ r18 = 0) → (Q x4))))))))
def w_X1_nearBy (σ : gk_C) (a0 : Int32) (a1 : Int32) (Q : Int32 → Prop) : Prop := (∃ n5, wL_X1_nearBy_5 σ Q n5 a1 a0 1)
abbrev rmX1_nearBy : Room := { frames := 2, cells := 0, slots := 0, locals := 44 }
set_option maxHeartbeats 4000000 in
set_option maxRecDepth 100000 in
theorem tL_X1_nearBy_5 {p : Program} {l : Launch} {e : Env} {s : State} {m : MethodId} {args : Array Value} {below : List Frame} {meth : Method} {c : Code} {D : va_G} {cI cZ cG cL : ClassId} {ad : Nat → Nat} (C0 : gk_F p s m args meth c cX1_nearBy 5 (some .int) RX1) (hK : gk_K D cI cZ cG cL s) {σ : gk_C} {Q : Int32 → Prop} : ∀ (n : Nat) (x2 : Int32) (x3 : Int32) (x4 : Int32), wL_X1_nearBy_5 σ Q n x2 x3 x4 → ∀ (H : Heap) (locs : List Loc), gk_W D cI ad σ H → va_S (gk_A ad s.heap.size) s.heap H locs → ∀ (ls : Array Slot), lv_has ls 5 [(0, .ref (ad 3)), (2, .int x2), (3, .int x3), (4, .int x4)] → W p l e rmX1_nearBy s m args below meth c H locs 0 0 (MQ below (va_Qi (fun r u => u = σ ∧ Q r) (gk_B D cI ad) (gk_A ad s.heap.size)) args s 0 0 (gk_A ad s.heap.size)) (F0 m 5 ls []) := by
  obtain ⟨hx, hb, hml, hown, hts, hr, hlocks⟩ := id C0
  intro n
  induction n with
  | zero => exact fun _ _ _ hw => False.elim hw
  | succ n ih =>
    intro x2 x3 x4 hw H locs hW hS ls hl
    refine lv_iload hx hb dX1_nearBy_5 (lv_at hl 3 rfl) ?_
    refine lv_bipush (v := 12) hx hb dX1_nearBy_7 (by decide) ?_
    refine lv_icmp_gt (tgt := 39) hx hb dX1_nearBy_9 (by decide) (fun c9 => ?_) (fun c9 => ?_)
    · have hw := hw.1 c9
      refine lv_iconst (v := (-1)) hx hb dX1_nearBy_39 (by decide) ?_
      exact gk_reti C0 ⟨rfl, hw⟩ hW hS dX1_nearBy_40
    · have hw := hw.2 c9
      refine lv_iload_n hx hb dX1_nearBy_12 rfl (lv_at hl 2 rfl) ?_
      refine lv_if_eq (tgt := 39) hx hb dX1_nearBy_13 (by decide) (fun c13 => ?_) (fun c13 => ?_)
      · have hw := hw.1 c13
        refine lv_iconst (v := (-1)) hx hb dX1_nearBy_39 (by decide) ?_
        exact gk_reti C0 ⟨rfl, hw⟩ hW hS dX1_nearBy_40
      · have hw := hw.2 c13
        refine lv_iload_n hx hb dX1_nearBy_16 rfl (lv_at hl 2 rfl) ?_
        refine lv_iload_n hx hb dX1_nearBy_17 rfl (lv_at hl 1 rfl) ?_
        refine gk_callSNi ⟨hx, hb, hml, hown, hts⟩ (c_X8_isIn l hw) ⟨va_cnB 2 hts (gk_gI co_X8_isIn) rfl rfl rfl (gk_nw hK nm_X1_37) (hts _ in_X8) (by decide +kernel) ⟨Nat.le_of_ble_eq_true rfl, Nat.le_of_ble_eq_true rfl⟩, hts _ st_X8_isIn, trivial⟩ hS rfl hl.1 (rest := []) rfl (lv_room (Nat.le_of_ble_eq_true rfl)) dX1_nearBy_18 ⟨Nat.zero_le _, Nat.zero_le _⟩ (fun r18 H locs hw _ hk hS => ?_)
        have hW := hW.kept (fun k hk9 => hk _ (hW.lt hk9))
        refine lv_if_eq (tgt := 27) hx hb dX1_nearBy_21 (by decide) (fun c21 => ?_) (fun c21 => ?_)
        · have hw := hw.1 c21
          refine lv_aload_n hx hb dX1_nearBy_27 rfl (lv_at hl 0 rfl) ?_
          refine lv_iload_n hx hb dX1_nearBy_28 rfl (lv_at hl 2 rfl) ?_
          refine gk_callRi ⟨hx, hb, hml, hown, hts⟩ (c_X1_heldBy l D cI cZ cG cL ad hw) (cwV 1 hts (gk_gV ml_X1_41 im_X1_heldBy se_X1_heldBy in_X1 co_X1_heldBy) rfl rfl rfl (by decide +kernel) ⟨Nat.le_of_ble_eq_true rfl, Nat.le_of_ble_eq_true rfl⟩) (gk_recv hK.1 (gk_o3 hW) rfl) hW hK hS rfl hl.1 (rest := []) rfl (lv_room (Nat.le_of_ble_eq_true rfl)) dX1_nearBy_29 ⟨Nat.zero_le _, Nat.zero_le _⟩ (fun r29 H locs hw hW _ hS => ?_)
          refine lv_istore_n (lv' := [(3, .int r29), (0, .ref (ad 3)), (2, .int x2), (4, .int x4)]) hx hb dX1_nearBy_32 rfl hl (by decide) rfl (fun ls hl => ?_)
          refine lv_iinc (v := (x4 + 1)) (lv' := [(4, .int (x4 + 1)), (3, .int r29), (0, .ref (ad 3)), (2, .int x2)]) hx hb dX1_nearBy_33 hl (k := 3) rfl rfl (by decide) rfl (fun ls hl => ?_)
          refine lv_goto (tgt := 5) hx hb dX1_nearBy_36 (by decide) ?_
          exact ih x2 r29 (x4 + 1) hw _ _ hW hS _ (lv_sub hl [2, 3, 1, 0] rfl)
        · have hw := hw.2 c21
          refine lv_iload hx hb dX1_nearBy_24 (lv_at hl 3 rfl) ?_
          exact gk_reti C0 ⟨rfl, hw⟩ hW hS dX1_nearBy_26
set_option maxHeartbeats 4000000 in
set_option maxRecDepth 100000 in
theorem c_X1_nearBy (l : Launch) (D : va_G) (cI cZ cG cL : ClassId) (ad : Nat → Nat) {σ : gk_C} {a0 : Int32} {a1 : Int32} {Q : Int32 → Prop} {sz : Nat} (hw : w_X1_nearBy σ a0 a1 Q) : Met l yX1_nearBy wsX1_nearBy rmX1_nearBy (gk_Pc D cI cZ cG cL ad [.ref (ad 3), .int a0, .int a1] sz σ) (va_Qi (fun r u => u = σ ∧ Q r) (gk_B D cI ad) (gk_A ad sz)) 0 0 (gk_A ad sz) := by
  refine Met.ofW (cc := cX1_nearBy) (maxL := 5) (ret := (some .int)) (by decide) rfl ?_
  intro p e s m args below meth c s₁ B hml0 hv0
  obtain ⟨rfl, hsz, hW, hK⟩ := hv0
  subst hsz
  have C0 : gk_F p s m ([.ref (ad 3), .int a0, .int a1] : List Value).toArray meth c cX1_nearBy 5 (some .int) RX1 := ⟨B.exec, B.bytes, hml0, findClass_of_methodNamed B.named, fun w hw => atoms_spec (ws := wsX1_nearBy) B.pre w (List.mem_cons_of_mem _ hw), B.returns, B.notSynchronized⟩
  obtain ⟨hx, hb, hml, hown, hts, hr, hlocks⟩ := id C0
  have hS : va_S (gk_A ad s.heap.size) s.heap s.heap [] := va_S.rf
  have hl := lv_entry ([.ref (ad 3), .int a0, .int a1]) (n := 5) (Nat.le_of_ble_eq_true rfl)
  rw [lg_entry_eq]
  generalize (lg_sl ([.ref (ad 3), .int a0, .int a1]) ++ List.replicate (5 - (lg_sl ([.ref (ad 3), .int a0, .int a1])).length) Slot.unset).toArray = ls at hl ⊢
  have hl : lv_has ls 5 [(0, .ref (ad 3)), (1, .int a0), (2, .int a1)] := hl
  show W p l e rmX1_nearBy s m _ below meth c s.heap [] 0 0 _ _
  refine lv_iload_n hx hb dX1_nearBy_0 rfl (lv_at hl 1 rfl) ?_
  refine lv_istore_n (lv' := [(3, .int a0), (0, .ref (ad 3)), (1, .int a0), (2, .int a1)]) hx hb dX1_nearBy_1 rfl hl (by decide) rfl (fun ls hl => ?_)
  refine lv_iconst (v := 1) hx hb dX1_nearBy_2 (by decide) ?_
  refine lv_istore (lv' := [(4, .int 1), (3, .int a0), (0, .ref (ad 3)), (1, .int a0), (2, .int a1)]) hx hb dX1_nearBy_3 hl (by decide) rfl (fun ls hl => ?_)
  obtain ⟨n5, hw⟩ := hw
  refine tL_X1_nearBy_5 C0 hK  n5 a1 a0 1 hw _ _ hW hS _ (lv_sub hl [2, 4, 1, 0] rfl)
def wL_X1_isSplit_2 (σ : gk_C) (Q : Int32 → Prop) : Nat → Int32 → Int32 → Prop
  | 0 => fun _ _ => False
  | n + 1 => fun x1 x2 => ((((σ.2 1) ≤ x2) → (Q 0)) ∧ ((¬ (σ.2 1) ≤ x2) → (w_X8_isIn x1 x2 (fun r12 => ((r12 = 0) → (wL_X1_isSplit_2 σ Q n x1 (x2 + 1))) ∧ ((¬ r12 = 0) → (((((gk_at σ 5 x2) &&& x1) = 0) → (wL_X1_isSplit_2 σ Q n x1 (x2 + 1))) ∧ ((¬ ((gk_at σ 5 x2) &&& x1) = 0) → (Q 1))))))))
def w_X1_isSplit (σ : gk_C) (a0 : Int32) (Q : Int32 → Prop) : Prop := (∃ n2, wL_X1_isSplit_2 σ Q n2 a0 0)
abbrev rmX1_isSplit : Room := { frames := 1, cells := 0, slots := 0, locals := 21 }
set_option maxHeartbeats 4000000 in
set_option maxRecDepth 100000 in
theorem tL_X1_isSplit_2 {p : Program} {l : Launch} {e : Env} {s : State} {m : MethodId} {args : Array Value} {below : List Frame} {meth : Method} {c : Code} {D : va_G} {cI cZ cG cL : ClassId} {ad : Nat → Nat} (C0 : gk_F p s m args meth c cX1_isSplit 3 (some .boolean) RX1) (hK : gk_K D cI cZ cG cL s) {σ : gk_C} {Q : Int32 → Prop} : ∀ (n : Nat) (x1 : Int32) (x2 : Int32), wL_X1_isSplit_2 σ Q n x1 x2 → ∀ (H : Heap) (locs : List Loc), gk_W D cI ad σ H → va_S (gk_A ad s.heap.size) s.heap H locs → ∀ (ls : Array Slot), lv_has ls 3 [(0, .ref (ad 3)), (1, .int x1), (2, .int x2)] → W p l e rmX1_isSplit s m args below meth c H locs 0 0 (MQ below (va_Qi (fun r u => u = σ ∧ Q r) (gk_B D cI ad) (gk_A ad s.heap.size)) args s 0 0 (gk_A ad s.heap.size)) (F0 m 2 ls []) := by
  obtain ⟨hx, hb, hml, hown, hts, hr, hlocks⟩ := id C0
  intro n
  induction n with
  | zero => exact fun _ _ hw => False.elim hw
  | succ n ih =>
    intro x1 x2 hw H locs hW hS ls hl
    refine lv_iload_n hx hb dX1_isSplit_2 rfl (lv_at hl 2 rfl) ?_
    refine lv_aload_n hx hb dX1_isSplit_3 rfl (lv_at hl 0 rfl) ?_
    refine gk_get hx hb hts iwX1 hown hK.1 (gk_o3 hW) rfl 0 (by decide) (hts _ fl_X1_23) (fun _ h9 => h9) rfl dX1_isSplit_4 ?_
    refine lv_icmp_ge (tgt := 39) hx hb dX1_isSplit_7 (by decide) (fun c7 => ?_) (fun c7 => ?_)
    · have hw := hw.1 c7
      refine lv_iconst (v := 0) hx hb dX1_isSplit_39 (by decide) ?_
      exact gk_retz C0 (by decide) ⟨rfl, hw⟩ hW hS dX1_isSplit_40
    · have hw := hw.2 c7
      refine lv_iload_n hx hb dX1_isSplit_10 rfl (lv_at hl 1 rfl) ?_
      refine lv_iload_n hx hb dX1_isSplit_11 rfl (lv_at hl 2 rfl) ?_
      refine gk_callSNi ⟨hx, hb, hml, hown, hts⟩ (c_X8_isIn l hw) ⟨va_cnB 2 hts (gk_gI co_X8_isIn) rfl rfl rfl (gk_nw hK nm_X1_37) (hts _ in_X8) (by decide +kernel) ⟨Nat.le_of_ble_eq_true rfl, Nat.le_of_ble_eq_true rfl⟩, hts _ st_X8_isIn, trivial⟩ hS rfl hl.1 (rest := []) rfl (lv_room (Nat.le_of_ble_eq_true rfl)) dX1_isSplit_12 ⟨Nat.zero_le _, Nat.zero_le _⟩ (fun r12 H locs hw _ hk hS => ?_)
      have hW := hW.kept (fun k hk9 => hk _ (hW.lt hk9))
      refine lv_if_eq (tgt := 33) hx hb dX1_isSplit_15 (by decide) (fun c15 => ?_) (fun c15 => ?_)
      · have hw := hw.1 c15
        refine lv_iinc (v := (x2 + 1)) (lv' := [(2, .int (x2 + 1)), (0, .ref (ad 3)), (1, .int x1)]) hx hb dX1_isSplit_33 hl (k := 2) rfl rfl (by decide) rfl (fun ls hl => ?_)
        refine lv_goto (tgt := 2) hx hb dX1_isSplit_36 (by decide) ?_
        exact ih x1 (x2 + 1) hw _ _ hW hS _ (lv_sub hl [1, 2, 0] rfl)
      · have hw := hw.2 c15
        refine lv_aload_n hx hb dX1_isSplit_18 rfl (lv_at hl 0 rfl) ?_
        refine gk_get hx hb hts iwX1 hown hK.1 (gk_o3 hW) rfl 3 (by decide) (hts _ fl_X1_20) (fun _ h9 => h9) rfl dX1_isSplit_19 ?_
        refine lv_iload_n hx hb dX1_isSplit_22 rfl (lv_at hl 2 rfl) ?_
        refine gk_callRi ⟨hx, hb, hml, hown, hts⟩ (c_X2_at l D cI cZ cG cL ad (σ := σ) (r := 5) (i := x2) (by decide)) (cwV 1 hts (gk_gV ml_X1_27 im_X2_at se_X2_at in_X2 co_X2_at) rfl rfl rfl (by decide +kernel) ⟨Nat.le_of_ble_eq_true rfl, Nat.le_of_ble_eq_true rfl⟩) (gk_recv hK.1 (gk_or hW (r := 5) (by decide)) rfl) hW hK hS rfl hl.1 (rest := []) rfl (lv_room (Nat.le_of_ble_eq_true rfl)) dX1_isSplit_23 ⟨Nat.zero_le _, Nat.zero_le _⟩ (fun r23 H locs hq hW _ hS => ?_)
        obtain rfl := hq
        refine lv_iload_n hx hb dX1_isSplit_26 rfl (lv_at hl 1 rfl) ?_
        refine lv_iand hx hb dX1_isSplit_27 ?_
        refine lv_if_eq (tgt := 33) hx hb dX1_isSplit_28 (by decide) (fun c28 => ?_) (fun c28 => ?_)
        · have hw := hw.1 c28
          refine lv_iinc (v := (x2 + 1)) (lv' := [(2, .int (x2 + 1)), (0, .ref (ad 3)), (1, .int x1)]) hx hb dX1_isSplit_33 hl (k := 2) rfl rfl (by decide) rfl (fun ls hl => ?_)
          refine lv_goto (tgt := 2) hx hb dX1_isSplit_36 (by decide) ?_
          exact ih x1 (x2 + 1) hw _ _ hW hS _ (lv_sub hl [1, 2, 0] rfl)
        · have hw := hw.2 c28
          refine lv_iconst (v := 1) hx hb dX1_isSplit_31 (by decide) ?_
          exact gk_retz C0 (by decide) ⟨rfl, hw⟩ hW hS dX1_isSplit_32
set_option maxHeartbeats 4000000 in
set_option maxRecDepth 100000 in
theorem c_X1_isSplit (l : Launch) (D : va_G) (cI cZ cG cL : ClassId) (ad : Nat → Nat) {σ : gk_C} {a0 : Int32} {Q : Int32 → Prop} {sz : Nat} (hw : w_X1_isSplit σ a0 Q) : Met l yX1_isSplit wsX1_isSplit rmX1_isSplit (gk_Pc D cI cZ cG cL ad [.ref (ad 3), .int a0] sz σ) (va_Qi (fun r u => u = σ ∧ Q r) (gk_B D cI ad) (gk_A ad sz)) 0 0 (gk_A ad sz) := by
  refine Met.ofW (cc := cX1_isSplit) (maxL := 3) (ret := (some .boolean)) (by decide) rfl ?_
  intro p e s m args below meth c s₁ B hml0 hv0
  obtain ⟨rfl, hsz, hW, hK⟩ := hv0
  subst hsz
  have C0 : gk_F p s m ([.ref (ad 3), .int a0] : List Value).toArray meth c cX1_isSplit 3 (some .boolean) RX1 := ⟨B.exec, B.bytes, hml0, findClass_of_methodNamed B.named, fun w hw => atoms_spec (ws := wsX1_isSplit) B.pre w (List.mem_cons_of_mem _ hw), B.returns, B.notSynchronized⟩
  obtain ⟨hx, hb, hml, hown, hts, hr, hlocks⟩ := id C0
  have hS : va_S (gk_A ad s.heap.size) s.heap s.heap [] := va_S.rf
  have hl := lv_entry ([.ref (ad 3), .int a0]) (n := 3) (Nat.le_of_ble_eq_true rfl)
  rw [lg_entry_eq]
  generalize (lg_sl ([.ref (ad 3), .int a0]) ++ List.replicate (3 - (lg_sl ([.ref (ad 3), .int a0])).length) Slot.unset).toArray = ls at hl ⊢
  have hl : lv_has ls 3 [(0, .ref (ad 3)), (1, .int a0)] := hl
  show W p l e rmX1_isSplit s m _ below meth c s.heap [] 0 0 _ _
  refine lv_iconst (v := 0) hx hb dX1_isSplit_0 (by decide) ?_
  refine lv_istore_n (lv' := [(2, .int 0), (0, .ref (ad 3)), (1, .int a0)]) hx hb dX1_isSplit_1 rfl hl (by decide) rfl (fun ls hl => ?_)
  obtain ⟨n2, hw⟩ := hw
  refine tL_X1_isSplit_2 C0 hK  n2 a0 0 hw _ _ hW hS _ (lv_sub hl [1, 2, 0] rfl)
def wJ_X3_add_21 (Q : Int32 → gk_C → Prop) (σ : gk_C) (x2 : Int32) (x3 : Int32) (x4 : Int32) (x5 : Int32) (t1 : Int32) (t2 : Int32) : Prop := (Q x5 (gk_s (gk_put (gk_put (gk_put (gk_put (gk_put (gk_put (gk_put (gk_put (gk_put σ 11 t1 t2) 12 x5 x2) 13 x5 x3) 14 x5 x4) 15 x5 0) 16 x5 0) 17 x5 0) 18 x5 0) 19 x5 23) 4 (((gk_put (gk_put (gk_put (gk_put (gk_put (gk_put (gk_put (gk_put (gk_put σ 11 t1 t2) 12 x5 x2) 13 x5 x3) 14 x5 x4) 15 x5 0) 16 x5 0) 17 x5 0) 18 x5 0) 19 x5 23).2 4) + 1)))
def w_X3_add (σ : gk_C) (a0 : Int32) (a1 : Int32) (a2 : Int32) (a3 : Int32) (Q : Int32 → gk_C → Prop) : Prop := (((a0 = 0) → (wJ_X3_add_21 Q σ a1 a2 a3 (σ.2 4) (σ.2 4) 0)) ∧ ((¬ a0 = 0) → (wJ_X3_add_21 Q σ a1 a2 a3 (σ.2 4) (σ.2 4) 1)))
abbrev rmX3_add : Room := { frames := 1, cells := 0, slots := 0, locals := 22 }
set_option maxHeartbeats 4000000 in
set_option maxRecDepth 100000 in
theorem tJ_X3_add_21 {p : Program} {l : Launch} {e : Env} {s : State} {m : MethodId} {args : Array Value} {below : List Frame} {meth : Method} {c : Code} {D : va_G} {cI cZ cG cL : ClassId} {ad : Nat → Nat} (C0 : gk_F p s m args meth c cX3_add 6 (some .int) RX3) (hK : gk_K D cI cZ cG cL s) {Q : Int32 → gk_C → Prop} : ∀ (σ : gk_C) (x2 : Int32) (x3 : Int32) (x4 : Int32) (x5 : Int32) (t1 : Int32) (t2 : Int32), wJ_X3_add_21 Q σ x2 x3 x4 x5 t1 t2 → ∀ (H : Heap) (locs : List Loc), gk_W D cI ad σ H → va_S (gk_A ad s.heap.size) s.heap H locs → ∀ (ls : Array Slot), lv_has ls 6 [(0, .ref (ad 5)), (2, .int x2), (3, .int x3), (4, .int x4), (5, .int x5)] → W p l e rmX3_add s m args below meth c H locs 0 0 (MQ below (va_Qi (fun r u => Q r u) (gk_B D cI ad) (gk_A ad s.heap.size)) args s 0 0 (gk_A ad s.heap.size)) (F0 m 21 ls [.int t2, .int t1, .ref (ad (9 + 11))]) := by
  obtain ⟨hx, hb, hml, hown, hts, hr, hlocks⟩ := id C0
  intro σ x2 x3 x4 x5 t1 t2 hw H locs hW hS ls hl
  refine gk_callVv ⟨hx, hb, hml, hown, hts⟩ (c_X2_put l D cI cZ cG cL ad (σ := σ) (r := 11) (i := t1) (x := t2) (by decide)) (cwV 2 hts (gk_gV ml_X3_48 im_X2_put se_X2_put in_X2 co_X2_put) rfl rfl rfl (by decide +kernel) ⟨Nat.le_of_ble_eq_true rfl, Nat.le_of_ble_eq_true rfl⟩) (gk_recv hK.1 (gk_or hW (r := 11) (by decide)) rfl) hW hK hS rfl hl.1 (rest := []) rfl (lv_room (Nat.le_of_ble_eq_true rfl)) dX3_add_21 ⟨Nat.zero_le _, Nat.zero_le _⟩ (fun u H locs hq hW _ hS => ?_)
  rw [hq] at hW
  refine lv_aload_n hx hb dX3_add_24 rfl (lv_at hl 0 rfl) ?_
  refine gk_get hx hb hts iwX3 hown hK.1 (gk_o5 hW) rfl 2 (by decide) (hts _ fl_X3_20) (fun _ h9 => h9) rfl dX3_add_25 ?_
  refine lv_iload hx hb dX3_add_28 (lv_at hl 4 rfl) ?_
  refine lv_iload_n hx hb dX3_add_30 rfl (lv_at hl 1 rfl) ?_
  refine gk_callVv ⟨hx, hb, hml, hown, hts⟩ (c_X2_put l D cI cZ cG cL ad (σ := (gk_put σ 11 t1 t2)) (r := 12) (i := x5) (x := x2) (by decide)) (cwV 2 hts (gk_gV ml_X3_48 im_X2_put se_X2_put in_X2 co_X2_put) rfl rfl rfl (by decide +kernel) ⟨Nat.le_of_ble_eq_true rfl, Nat.le_of_ble_eq_true rfl⟩) (gk_recv hK.1 (gk_or hW (r := 12) (by decide)) rfl) hW hK hS rfl hl.1 (rest := []) rfl (lv_room (Nat.le_of_ble_eq_true rfl)) dX3_add_31 ⟨Nat.zero_le _, Nat.zero_le _⟩ (fun u H locs hq hW _ hS => ?_)
  rw [hq] at hW
  refine lv_aload_n hx hb dX3_add_34 rfl (lv_at hl 0 rfl) ?_
  refine gk_get hx hb hts iwX3 hown hK.1 (gk_o5 hW) rfl 3 (by decide) (hts _ fl_X3_23) (fun _ h9 => h9) rfl dX3_add_35 ?_
  refine lv_iload hx hb dX3_add_38 (lv_at hl 4 rfl) ?_
  refine lv_iload_n hx hb dX3_add_40 rfl (lv_at hl 2 rfl) ?_
  refine gk_callVv ⟨hx, hb, hml, hown, hts⟩ (c_X2_put l D cI cZ cG cL ad (σ := (gk_put (gk_put σ 11 t1 t2) 12 x5 x2)) (r := 13) (i := x5) (x := x3) (by decide)) (cwV 2 hts (gk_gV ml_X3_48 im_X2_put se_X2_put in_X2 co_X2_put) rfl rfl rfl (by decide +kernel) ⟨Nat.le_of_ble_eq_true rfl, Nat.le_of_ble_eq_true rfl⟩) (gk_recv hK.1 (gk_or hW (r := 13) (by decide)) rfl) hW hK hS rfl hl.1 (rest := []) rfl (lv_room (Nat.le_of_ble_eq_true rfl)) dX3_add_41 ⟨Nat.zero_le _, Nat.zero_le _⟩ (fun u H locs hq hW _ hS => ?_)
  rw [hq] at hW
  refine lv_aload_n hx hb dX3_add_44 rfl (lv_at hl 0 rfl) ?_
  refine gk_get hx hb hts iwX3 hown hK.1 (gk_o5 hW) rfl 4 (by decide) (hts _ fl_X3_26) (fun _ h9 => h9) rfl dX3_add_45 ?_
  refine lv_iload hx hb dX3_add_48 (lv_at hl 4 rfl) ?_
  refine lv_iload hx hb dX3_add_50 (lv_at hl 3 rfl) ?_
  refine gk_callVv ⟨hx, hb, hml, hown, hts⟩ (c_X2_put l D cI cZ cG cL ad (σ := (gk_put (gk_put (gk_put σ 11 t1 t2) 12 x5 x2) 13 x5 x3)) (r := 14) (i := x5) (x := x4) (by decide)) (cwV 2 hts (gk_gV ml_X3_48 im_X2_put se_X2_put in_X2 co_X2_put) rfl rfl rfl (by decide +kernel) ⟨Nat.le_of_ble_eq_true rfl, Nat.le_of_ble_eq_true rfl⟩) (gk_recv hK.1 (gk_or hW (r := 14) (by decide)) rfl) hW hK hS rfl hl.1 (rest := []) rfl (lv_room (Nat.le_of_ble_eq_true rfl)) dX3_add_52 ⟨Nat.zero_le _, Nat.zero_le _⟩ (fun u H locs hq hW _ hS => ?_)
  rw [hq] at hW
  refine lv_aload_n hx hb dX3_add_55 rfl (lv_at hl 0 rfl) ?_
  refine gk_get hx hb hts iwX3 hown hK.1 (gk_o5 hW) rfl 5 (by decide) (hts _ fl_X3_29) (fun _ h9 => h9) rfl dX3_add_56 ?_
  refine lv_iload hx hb dX3_add_59 (lv_at hl 4 rfl) ?_
  refine lv_iconst (v := 0) hx hb dX3_add_61 (by decide) ?_
  refine gk_callVv ⟨hx, hb, hml, hown, hts⟩ (c_X2_put l D cI cZ cG cL ad (σ := (gk_put (gk_put (gk_put (gk_put σ 11 t1 t2) 12 x5 x2) 13 x5 x3) 14 x5 x4)) (r := 15) (i := x5) (x := 0) (by decide)) (cwV 2 hts (gk_gV ml_X3_48 im_X2_put se_X2_put in_X2 co_X2_put) rfl rfl rfl (by decide +kernel) ⟨Nat.le_of_ble_eq_true rfl, Nat.le_of_ble_eq_true rfl⟩) (gk_recv hK.1 (gk_or hW (r := 15) (by decide)) rfl) hW hK hS rfl hl.1 (rest := []) rfl (lv_room (Nat.le_of_ble_eq_true rfl)) dX3_add_62 ⟨Nat.zero_le _, Nat.zero_le _⟩ (fun u H locs hq hW _ hS => ?_)
  rw [hq] at hW
  refine lv_aload_n hx hb dX3_add_65 rfl (lv_at hl 0 rfl) ?_
  refine gk_get hx hb hts iwX3 hown hK.1 (gk_o5 hW) rfl 6 (by decide) (hts _ fl_X3_32) (fun _ h9 => h9) rfl dX3_add_66 ?_
  refine lv_iload hx hb dX3_add_69 (lv_at hl 4 rfl) ?_
  refine lv_iconst (v := 0) hx hb dX3_add_71 (by decide) ?_
  refine gk_callVv ⟨hx, hb, hml, hown, hts⟩ (c_X2_put l D cI cZ cG cL ad (σ := (gk_put (gk_put (gk_put (gk_put (gk_put σ 11 t1 t2) 12 x5 x2) 13 x5 x3) 14 x5 x4) 15 x5 0)) (r := 16) (i := x5) (x := 0) (by decide)) (cwV 2 hts (gk_gV ml_X3_48 im_X2_put se_X2_put in_X2 co_X2_put) rfl rfl rfl (by decide +kernel) ⟨Nat.le_of_ble_eq_true rfl, Nat.le_of_ble_eq_true rfl⟩) (gk_recv hK.1 (gk_or hW (r := 16) (by decide)) rfl) hW hK hS rfl hl.1 (rest := []) rfl (lv_room (Nat.le_of_ble_eq_true rfl)) dX3_add_72 ⟨Nat.zero_le _, Nat.zero_le _⟩ (fun u H locs hq hW _ hS => ?_)
  rw [hq] at hW
  refine lv_aload_n hx hb dX3_add_75 rfl (lv_at hl 0 rfl) ?_
  refine gk_get hx hb hts iwX3 hown hK.1 (gk_o5 hW) rfl 7 (by decide) (hts _ fl_X3_35) (fun _ h9 => h9) rfl dX3_add_76 ?_
  refine lv_iload hx hb dX3_add_79 (lv_at hl 4 rfl) ?_
  refine lv_iconst (v := 0) hx hb dX3_add_81 (by decide) ?_
  refine gk_callVv ⟨hx, hb, hml, hown, hts⟩ (c_X2_put l D cI cZ cG cL ad (σ := (gk_put (gk_put (gk_put (gk_put (gk_put (gk_put σ 11 t1 t2) 12 x5 x2) 13 x5 x3) 14 x5 x4) 15 x5 0) 16 x5 0)) (r := 17) (i := x5) (x := 0) (by decide)) (cwV 2 hts (gk_gV ml_X3_48 im_X2_put se_X2_put in_X2 co_X2_put) rfl rfl rfl (by decide +kernel) ⟨Nat.le_of_ble_eq_true rfl, Nat.le_of_ble_eq_true rfl⟩) (gk_recv hK.1 (gk_or hW (r := 17) (by decide)) rfl) hW hK hS rfl hl.1 (rest := []) rfl (lv_room (Nat.le_of_ble_eq_true rfl)) dX3_add_82 ⟨Nat.zero_le _, Nat.zero_le _⟩ (fun u H locs hq hW _ hS => ?_)
  rw [hq] at hW
  refine lv_aload_n hx hb dX3_add_85 rfl (lv_at hl 0 rfl) ?_
  refine gk_get hx hb hts iwX3 hown hK.1 (gk_o5 hW) rfl 8 (by decide) (hts _ fl_X3_38) (fun _ h9 => h9) rfl dX3_add_86 ?_
  refine lv_iload hx hb dX3_add_89 (lv_at hl 4 rfl) ?_
  refine lv_iconst (v := 0) hx hb dX3_add_91 (by decide) ?_
  refine gk_callVv ⟨hx, hb, hml, hown, hts⟩ (c_X2_put l D cI cZ cG cL ad (σ := (gk_put (gk_put (gk_put (gk_put (gk_put (gk_put (gk_put σ 11 t1 t2) 12 x5 x2) 13 x5 x3) 14 x5 x4) 15 x5 0) 16 x5 0) 17 x5 0)) (r := 18) (i := x5) (x := 0) (by decide)) (cwV 2 hts (gk_gV ml_X3_48 im_X2_put se_X2_put in_X2 co_X2_put) rfl rfl rfl (by decide +kernel) ⟨Nat.le_of_ble_eq_true rfl, Nat.le_of_ble_eq_true rfl⟩) (gk_recv hK.1 (gk_or hW (r := 18) (by decide)) rfl) hW hK hS rfl hl.1 (rest := []) rfl (lv_room (Nat.le_of_ble_eq_true rfl)) dX3_add_92 ⟨Nat.zero_le _, Nat.zero_le _⟩ (fun u H locs hq hW _ hS => ?_)
  rw [hq] at hW
  refine lv_aload_n hx hb dX3_add_95 rfl (lv_at hl 0 rfl) ?_
  refine gk_get hx hb hts iwX3 hown hK.1 (gk_o5 hW) rfl 9 (by decide) (hts _ fl_X3_41) (fun _ h9 => h9) rfl dX3_add_96 ?_
  refine lv_iload hx hb dX3_add_99 (lv_at hl 4 rfl) ?_
  refine lv_bipush (v := 23) hx hb dX3_add_101 (by decide) ?_
  refine gk_callVv ⟨hx, hb, hml, hown, hts⟩ (c_X2_put l D cI cZ cG cL ad (σ := (gk_put (gk_put (gk_put (gk_put (gk_put (gk_put (gk_put (gk_put σ 11 t1 t2) 12 x5 x2) 13 x5 x3) 14 x5 x4) 15 x5 0) 16 x5 0) 17 x5 0) 18 x5 0)) (r := 19) (i := x5) (x := 23) (by decide)) (cwV 2 hts (gk_gV ml_X3_48 im_X2_put se_X2_put in_X2 co_X2_put) rfl rfl rfl (by decide +kernel) ⟨Nat.le_of_ble_eq_true rfl, Nat.le_of_ble_eq_true rfl⟩) (gk_recv hK.1 (gk_or hW (r := 19) (by decide)) rfl) hW hK hS rfl hl.1 (rest := []) rfl (lv_room (Nat.le_of_ble_eq_true rfl)) dX3_add_103 ⟨Nat.zero_le _, Nat.zero_le _⟩ (fun u H locs hq hW _ hS => ?_)
  rw [hq] at hW
  refine lv_aload_n hx hb dX3_add_106 rfl (lv_at hl 0 rfl) ?_
  refine lv_dup hx hb dX3_add_107 rfl ?_
  refine gk_get hx hb hts iwX3 hown hK.1 (gk_o5 hW) rfl 0 (by decide) (hts _ fl_X3_44) (fun _ h9 => h9) rfl dX3_add_108 ?_
  refine lv_iconst (v := 1) hx hb dX3_add_111 (by decide) ?_
  refine lv_iadd hx hb dX3_add_112 ?_
  refine gk_putf (ty := .int) (v := .int (((gk_put (gk_put (gk_put (gk_put (gk_put (gk_put (gk_put (gk_put (gk_put σ 11 t1 t2) 12 x5 x2) 13 x5 x3) 14 x5 x4) 15 x5 0) 16 x5 0) 17 x5 0) 18 x5 0) 19 x5 23).2 4) + 1)) hx hb hts iwX3 tyX3 tyX3_ok nmX3 hown hK.1 hS (gk_A.in (by decide)) (gk_o5 hW) rfl 0 (by decide) (hts _ fl_X3_44) (fun _ h9 => h9) rfl (by decide +kernel) rfl rfl (Nat.le_of_ble_eq_true rfl) dX3_add_113 (fun H locs h1 _ oq hS => ?_)
  have hW := gk_p4 hW h1 oq
  refine lv_iload hx hb dX3_add_116 (lv_at hl 4 rfl) ?_
  exact gk_reti C0 hw hW hS dX3_add_118
set_option maxHeartbeats 4000000 in
set_option maxRecDepth 100000 in
theorem c_X3_add (l : Launch) (D : va_G) (cI cZ cG cL : ClassId) (ad : Nat → Nat) {σ : gk_C} {a0 : Int32} {a1 : Int32} {a2 : Int32} {a3 : Int32} {Q : Int32 → gk_C → Prop} {sz : Nat} (hw : w_X3_add σ a0 a1 a2 a3 Q) : Met l yX3_add wsX3_add rmX3_add (gk_Pc D cI cZ cG cL ad [.ref (ad 5), .int a0, .int a1, .int a2, .int a3] sz σ) (va_Qi (fun r u => Q r u) (gk_B D cI ad) (gk_A ad sz)) 0 0 (gk_A ad sz) := by
  refine Met.ofW (cc := cX3_add) (maxL := 6) (ret := (some .int)) (by decide) rfl ?_
  intro p e s m args below meth c s₁ B hml0 hv0
  obtain ⟨rfl, hsz, hW, hK⟩ := hv0
  subst hsz
  have C0 : gk_F p s m ([.ref (ad 5), .int a0, .int a1, .int a2, .int a3] : List Value).toArray meth c cX3_add 6 (some .int) RX3 := ⟨B.exec, B.bytes, hml0, findClass_of_methodNamed B.named, fun w hw => atoms_spec (ws := wsX3_add) B.pre w (List.mem_cons_of_mem _ hw), B.returns, B.notSynchronized⟩
  obtain ⟨hx, hb, hml, hown, hts, hr, hlocks⟩ := id C0
  have hS : va_S (gk_A ad s.heap.size) s.heap s.heap [] := va_S.rf
  have hl := lv_entry ([.ref (ad 5), .int a0, .int a1, .int a2, .int a3]) (n := 6) (Nat.le_of_ble_eq_true rfl)
  rw [lg_entry_eq]
  generalize (lg_sl ([.ref (ad 5), .int a0, .int a1, .int a2, .int a3]) ++ List.replicate (6 - (lg_sl ([.ref (ad 5), .int a0, .int a1, .int a2, .int a3])).length) Slot.unset).toArray = ls at hl ⊢
  have hl : lv_has ls 6 [(0, .ref (ad 5)), (1, .int a0), (2, .int a1), (3, .int a2), (4, .int a3)] := hl
  show W p l e rmX3_add s m _ below meth c s.heap [] 0 0 _ _
  refine lv_aload_n hx hb dX3_add_0 rfl (lv_at hl 0 rfl) ?_
  refine gk_get hx hb hts iwX3 hown hK.1 (gk_o5 hW) rfl 0 (by decide) (hts _ fl_X3_44) (fun _ h9 => h9) rfl dX3_add_1 ?_
  refine lv_istore (lv' := [(5, .int (σ.2 4)), (0, .ref (ad 5)), (1, .int a0), (2, .int a1), (3, .int a2), (4, .int a3)]) hx hb dX3_add_4 hl (by decide) rfl (fun ls hl => ?_)
  refine lv_aload_n hx hb dX3_add_6 rfl (lv_at hl 1 rfl) ?_
  refine gk_get hx hb hts iwX3 hown hK.1 (gk_o5 hW) rfl 1 (by decide) (hts _ fl_X3_14) (fun _ h9 => h9) rfl dX3_add_7 ?_
  refine lv_iload hx hb dX3_add_10 (lv_at hl 0 rfl) ?_
  refine lv_iload_n hx hb dX3_add_12 rfl (lv_at hl 2 rfl) ?_
  refine lv_if_eq (tgt := 20) hx hb dX3_add_13 (by decide) (fun c13 => ?_) (fun c13 => ?_)
  · have hw := hw.1 c13
    refine lv_iconst (v := 0) hx hb dX3_add_20 (by decide) ?_
    refine tJ_X3_add_21 C0 hK  σ a1 a2 a3 (σ.2 4) (σ.2 4) 0 hw _ _ hW hS _ (lv_sub hl [1, 3, 4, 5, 0] rfl)
  · have hw := hw.2 c13
    refine lv_iconst (v := 1) hx hb dX3_add_16 (by decide) ?_
    refine lv_goto (tgt := 21) hx hb dX3_add_17 (by decide) ?_
    refine tJ_X3_add_21 C0 hK  σ a1 a2 a3 (σ.2 4) (σ.2 4) 1 hw _ _ hW hS _ (lv_sub hl [1, 3, 4, 5, 0] rfl)
def w_X3_drop (σ : gk_C) (a0 : Int32) (Q : Int32 → gk_C → Prop) : Prop := (Q ((gk_s (gk_out (gk_out (gk_out (gk_out (gk_out (gk_out (gk_out (gk_out (gk_out σ 11 a0) 12 a0) 13 a0) 14 a0) 15 a0) 16 a0) 17 a0) 18 a0) 19 a0) 4 (((gk_out (gk_out (gk_out (gk_out (gk_out (gk_out (gk_out (gk_out (gk_out σ 11 a0) 12 a0) 13 a0) 14 a0) 15 a0) 16 a0) 17 a0) 18 a0) 19 a0).2 4) - 1)).2 4) (gk_s (gk_out (gk_out (gk_out (gk_out (gk_out (gk_out (gk_out (gk_out (gk_out σ 11 a0) 12 a0) 13 a0) 14 a0) 15 a0) 16 a0) 17 a0) 18 a0) 19 a0) 4 (((gk_out (gk_out (gk_out (gk_out (gk_out (gk_out (gk_out (gk_out (gk_out σ 11 a0) 12 a0) 13 a0) 14 a0) 15 a0) 16 a0) 17 a0) 18 a0) 19 a0).2 4) - 1)))
abbrev rmX3_drop : Room := { frames := 2, cells := 0, slots := 0, locals := 43 }
set_option maxHeartbeats 4000000 in
set_option maxRecDepth 100000 in
theorem c_X3_drop (l : Launch) (D : va_G) (cI cZ cG cL : ClassId) (ad : Nat → Nat) {σ : gk_C} {a0 : Int32} {Q : Int32 → gk_C → Prop} {sz : Nat} (hw : w_X3_drop σ a0 Q) : Met l yX3_drop wsX3_drop rmX3_drop (gk_Pc D cI cZ cG cL ad [.ref (ad 5), .int a0] sz σ) (va_Qi (fun r u => Q r u) (gk_B D cI ad) (gk_A ad sz)) 0 0 (gk_A ad sz) := by
  refine Met.ofW (cc := cX3_drop) (maxL := 2) (ret := (some .int)) (by decide) rfl ?_
  intro p e s m args below meth c s₁ B hml0 hv0
  obtain ⟨rfl, hsz, hW, hK⟩ := hv0
  subst hsz
  have C0 : gk_F p s m ([.ref (ad 5), .int a0] : List Value).toArray meth c cX3_drop 2 (some .int) RX3 := ⟨B.exec, B.bytes, hml0, findClass_of_methodNamed B.named, fun w hw => atoms_spec (ws := wsX3_drop) B.pre w (List.mem_cons_of_mem _ hw), B.returns, B.notSynchronized⟩
  obtain ⟨hx, hb, hml, hown, hts, hr, hlocks⟩ := id C0
  have hS : va_S (gk_A ad s.heap.size) s.heap s.heap [] := va_S.rf
  have hl := lv_entry ([.ref (ad 5), .int a0]) (n := 2) (Nat.le_of_ble_eq_true rfl)
  rw [lg_entry_eq]
  generalize (lg_sl ([.ref (ad 5), .int a0]) ++ List.replicate (2 - (lg_sl ([.ref (ad 5), .int a0])).length) Slot.unset).toArray = ls at hl ⊢
  have hl : lv_has ls 2 [(0, .ref (ad 5)), (1, .int a0)] := hl
  show W p l e rmX3_drop s m _ below meth c s.heap [] 0 0 _ _
  refine lv_aload_n hx hb dX3_drop_0 rfl (lv_at hl 0 rfl) ?_
  refine gk_get hx hb hts iwX3 hown hK.1 (gk_o5 hW) rfl 1 (by decide) (hts _ fl_X3_14) (fun _ h9 => h9) rfl dX3_drop_1 ?_
  refine lv_iload_n hx hb dX3_drop_4 rfl (lv_at hl 1 rfl) ?_
  refine gk_callVv ⟨hx, hb, hml, hown, hts⟩ (c_X2_takeOut l D cI cZ cG cL ad (σ := σ) (r := 11) (i := a0) (by decide)) (cwV 1 hts (gk_gV ml_X3_51 im_X2_takeOut se_X2_takeOut in_X2 co_X2_takeOut) rfl rfl rfl (by decide +kernel) ⟨Nat.le_of_ble_eq_true rfl, Nat.le_of_ble_eq_true rfl⟩) (gk_recv hK.1 (gk_or hW (r := 11) (by decide)) rfl) hW hK hS rfl hl.1 (rest := []) rfl (lv_room (Nat.le_of_ble_eq_true rfl)) dX3_drop_5 ⟨Nat.zero_le _, Nat.zero_le _⟩ (fun u H locs hq hW _ hS => ?_)
  rw [hq] at hW
  refine lv_aload_n hx hb dX3_drop_8 rfl (lv_at hl 0 rfl) ?_
  refine gk_get hx hb hts iwX3 hown hK.1 (gk_o5 hW) rfl 2 (by decide) (hts _ fl_X3_20) (fun _ h9 => h9) rfl dX3_drop_9 ?_
  refine lv_iload_n hx hb dX3_drop_12 rfl (lv_at hl 1 rfl) ?_
  refine gk_callVv ⟨hx, hb, hml, hown, hts⟩ (c_X2_takeOut l D cI cZ cG cL ad (σ := (gk_out σ 11 a0)) (r := 12) (i := a0) (by decide)) (cwV 1 hts (gk_gV ml_X3_51 im_X2_takeOut se_X2_takeOut in_X2 co_X2_takeOut) rfl rfl rfl (by decide +kernel) ⟨Nat.le_of_ble_eq_true rfl, Nat.le_of_ble_eq_true rfl⟩) (gk_recv hK.1 (gk_or hW (r := 12) (by decide)) rfl) hW hK hS rfl hl.1 (rest := []) rfl (lv_room (Nat.le_of_ble_eq_true rfl)) dX3_drop_13 ⟨Nat.zero_le _, Nat.zero_le _⟩ (fun u H locs hq hW _ hS => ?_)
  rw [hq] at hW
  refine lv_aload_n hx hb dX3_drop_16 rfl (lv_at hl 0 rfl) ?_
  refine gk_get hx hb hts iwX3 hown hK.1 (gk_o5 hW) rfl 3 (by decide) (hts _ fl_X3_23) (fun _ h9 => h9) rfl dX3_drop_17 ?_
  refine lv_iload_n hx hb dX3_drop_20 rfl (lv_at hl 1 rfl) ?_
  refine gk_callVv ⟨hx, hb, hml, hown, hts⟩ (c_X2_takeOut l D cI cZ cG cL ad (σ := (gk_out (gk_out σ 11 a0) 12 a0)) (r := 13) (i := a0) (by decide)) (cwV 1 hts (gk_gV ml_X3_51 im_X2_takeOut se_X2_takeOut in_X2 co_X2_takeOut) rfl rfl rfl (by decide +kernel) ⟨Nat.le_of_ble_eq_true rfl, Nat.le_of_ble_eq_true rfl⟩) (gk_recv hK.1 (gk_or hW (r := 13) (by decide)) rfl) hW hK hS rfl hl.1 (rest := []) rfl (lv_room (Nat.le_of_ble_eq_true rfl)) dX3_drop_21 ⟨Nat.zero_le _, Nat.zero_le _⟩ (fun u H locs hq hW _ hS => ?_)
  rw [hq] at hW
  refine lv_aload_n hx hb dX3_drop_24 rfl (lv_at hl 0 rfl) ?_
  refine gk_get hx hb hts iwX3 hown hK.1 (gk_o5 hW) rfl 4 (by decide) (hts _ fl_X3_26) (fun _ h9 => h9) rfl dX3_drop_25 ?_
  refine lv_iload_n hx hb dX3_drop_28 rfl (lv_at hl 1 rfl) ?_
  refine gk_callVv ⟨hx, hb, hml, hown, hts⟩ (c_X2_takeOut l D cI cZ cG cL ad (σ := (gk_out (gk_out (gk_out σ 11 a0) 12 a0) 13 a0)) (r := 14) (i := a0) (by decide)) (cwV 1 hts (gk_gV ml_X3_51 im_X2_takeOut se_X2_takeOut in_X2 co_X2_takeOut) rfl rfl rfl (by decide +kernel) ⟨Nat.le_of_ble_eq_true rfl, Nat.le_of_ble_eq_true rfl⟩) (gk_recv hK.1 (gk_or hW (r := 14) (by decide)) rfl) hW hK hS rfl hl.1 (rest := []) rfl (lv_room (Nat.le_of_ble_eq_true rfl)) dX3_drop_29 ⟨Nat.zero_le _, Nat.zero_le _⟩ (fun u H locs hq hW _ hS => ?_)
  rw [hq] at hW
  refine lv_aload_n hx hb dX3_drop_32 rfl (lv_at hl 0 rfl) ?_
  refine gk_get hx hb hts iwX3 hown hK.1 (gk_o5 hW) rfl 5 (by decide) (hts _ fl_X3_29) (fun _ h9 => h9) rfl dX3_drop_33 ?_
  refine lv_iload_n hx hb dX3_drop_36 rfl (lv_at hl 1 rfl) ?_
  refine gk_callVv ⟨hx, hb, hml, hown, hts⟩ (c_X2_takeOut l D cI cZ cG cL ad (σ := (gk_out (gk_out (gk_out (gk_out σ 11 a0) 12 a0) 13 a0) 14 a0)) (r := 15) (i := a0) (by decide)) (cwV 1 hts (gk_gV ml_X3_51 im_X2_takeOut se_X2_takeOut in_X2 co_X2_takeOut) rfl rfl rfl (by decide +kernel) ⟨Nat.le_of_ble_eq_true rfl, Nat.le_of_ble_eq_true rfl⟩) (gk_recv hK.1 (gk_or hW (r := 15) (by decide)) rfl) hW hK hS rfl hl.1 (rest := []) rfl (lv_room (Nat.le_of_ble_eq_true rfl)) dX3_drop_37 ⟨Nat.zero_le _, Nat.zero_le _⟩ (fun u H locs hq hW _ hS => ?_)
  rw [hq] at hW
  refine lv_aload_n hx hb dX3_drop_40 rfl (lv_at hl 0 rfl) ?_
  refine gk_get hx hb hts iwX3 hown hK.1 (gk_o5 hW) rfl 6 (by decide) (hts _ fl_X3_32) (fun _ h9 => h9) rfl dX3_drop_41 ?_
  refine lv_iload_n hx hb dX3_drop_44 rfl (lv_at hl 1 rfl) ?_
  refine gk_callVv ⟨hx, hb, hml, hown, hts⟩ (c_X2_takeOut l D cI cZ cG cL ad (σ := (gk_out (gk_out (gk_out (gk_out (gk_out σ 11 a0) 12 a0) 13 a0) 14 a0) 15 a0)) (r := 16) (i := a0) (by decide)) (cwV 1 hts (gk_gV ml_X3_51 im_X2_takeOut se_X2_takeOut in_X2 co_X2_takeOut) rfl rfl rfl (by decide +kernel) ⟨Nat.le_of_ble_eq_true rfl, Nat.le_of_ble_eq_true rfl⟩) (gk_recv hK.1 (gk_or hW (r := 16) (by decide)) rfl) hW hK hS rfl hl.1 (rest := []) rfl (lv_room (Nat.le_of_ble_eq_true rfl)) dX3_drop_45 ⟨Nat.zero_le _, Nat.zero_le _⟩ (fun u H locs hq hW _ hS => ?_)
  rw [hq] at hW
  refine lv_aload_n hx hb dX3_drop_48 rfl (lv_at hl 0 rfl) ?_
  refine gk_get hx hb hts iwX3 hown hK.1 (gk_o5 hW) rfl 7 (by decide) (hts _ fl_X3_35) (fun _ h9 => h9) rfl dX3_drop_49 ?_
  refine lv_iload_n hx hb dX3_drop_52 rfl (lv_at hl 1 rfl) ?_
  refine gk_callVv ⟨hx, hb, hml, hown, hts⟩ (c_X2_takeOut l D cI cZ cG cL ad (σ := (gk_out (gk_out (gk_out (gk_out (gk_out (gk_out σ 11 a0) 12 a0) 13 a0) 14 a0) 15 a0) 16 a0)) (r := 17) (i := a0) (by decide)) (cwV 1 hts (gk_gV ml_X3_51 im_X2_takeOut se_X2_takeOut in_X2 co_X2_takeOut) rfl rfl rfl (by decide +kernel) ⟨Nat.le_of_ble_eq_true rfl, Nat.le_of_ble_eq_true rfl⟩) (gk_recv hK.1 (gk_or hW (r := 17) (by decide)) rfl) hW hK hS rfl hl.1 (rest := []) rfl (lv_room (Nat.le_of_ble_eq_true rfl)) dX3_drop_53 ⟨Nat.zero_le _, Nat.zero_le _⟩ (fun u H locs hq hW _ hS => ?_)
  rw [hq] at hW
  refine lv_aload_n hx hb dX3_drop_56 rfl (lv_at hl 0 rfl) ?_
  refine gk_get hx hb hts iwX3 hown hK.1 (gk_o5 hW) rfl 8 (by decide) (hts _ fl_X3_38) (fun _ h9 => h9) rfl dX3_drop_57 ?_
  refine lv_iload_n hx hb dX3_drop_60 rfl (lv_at hl 1 rfl) ?_
  refine gk_callVv ⟨hx, hb, hml, hown, hts⟩ (c_X2_takeOut l D cI cZ cG cL ad (σ := (gk_out (gk_out (gk_out (gk_out (gk_out (gk_out (gk_out σ 11 a0) 12 a0) 13 a0) 14 a0) 15 a0) 16 a0) 17 a0)) (r := 18) (i := a0) (by decide)) (cwV 1 hts (gk_gV ml_X3_51 im_X2_takeOut se_X2_takeOut in_X2 co_X2_takeOut) rfl rfl rfl (by decide +kernel) ⟨Nat.le_of_ble_eq_true rfl, Nat.le_of_ble_eq_true rfl⟩) (gk_recv hK.1 (gk_or hW (r := 18) (by decide)) rfl) hW hK hS rfl hl.1 (rest := []) rfl (lv_room (Nat.le_of_ble_eq_true rfl)) dX3_drop_61 ⟨Nat.zero_le _, Nat.zero_le _⟩ (fun u H locs hq hW _ hS => ?_)
  rw [hq] at hW
  refine lv_aload_n hx hb dX3_drop_64 rfl (lv_at hl 0 rfl) ?_
  refine gk_get hx hb hts iwX3 hown hK.1 (gk_o5 hW) rfl 9 (by decide) (hts _ fl_X3_41) (fun _ h9 => h9) rfl dX3_drop_65 ?_
  refine lv_iload_n hx hb dX3_drop_68 rfl (lv_at hl 1 rfl) ?_
  refine gk_callVv ⟨hx, hb, hml, hown, hts⟩ (c_X2_takeOut l D cI cZ cG cL ad (σ := (gk_out (gk_out (gk_out (gk_out (gk_out (gk_out (gk_out (gk_out σ 11 a0) 12 a0) 13 a0) 14 a0) 15 a0) 16 a0) 17 a0) 18 a0)) (r := 19) (i := a0) (by decide)) (cwV 1 hts (gk_gV ml_X3_51 im_X2_takeOut se_X2_takeOut in_X2 co_X2_takeOut) rfl rfl rfl (by decide +kernel) ⟨Nat.le_of_ble_eq_true rfl, Nat.le_of_ble_eq_true rfl⟩) (gk_recv hK.1 (gk_or hW (r := 19) (by decide)) rfl) hW hK hS rfl hl.1 (rest := []) rfl (lv_room (Nat.le_of_ble_eq_true rfl)) dX3_drop_69 ⟨Nat.zero_le _, Nat.zero_le _⟩ (fun u H locs hq hW _ hS => ?_)
  rw [hq] at hW
  refine lv_aload_n hx hb dX3_drop_72 rfl (lv_at hl 0 rfl) ?_
  refine lv_dup hx hb dX3_drop_73 rfl ?_
  refine gk_get hx hb hts iwX3 hown hK.1 (gk_o5 hW) rfl 0 (by decide) (hts _ fl_X3_44) (fun _ h9 => h9) rfl dX3_drop_74 ?_
  refine lv_iconst (v := 1) hx hb dX3_drop_77 (by decide) ?_
  refine lv_isub hx hb dX3_drop_78 ?_
  refine gk_putf (ty := .int) (v := .int (((gk_out (gk_out (gk_out (gk_out (gk_out (gk_out (gk_out (gk_out (gk_out σ 11 a0) 12 a0) 13 a0) 14 a0) 15 a0) 16 a0) 17 a0) 18 a0) 19 a0).2 4) - 1)) hx hb hts iwX3 tyX3 tyX3_ok nmX3 hown hK.1 hS (gk_A.in (by decide)) (gk_o5 hW) rfl 0 (by decide) (hts _ fl_X3_44) (fun _ h9 => h9) rfl (by decide +kernel) rfl rfl (Nat.le_of_ble_eq_true rfl) dX3_drop_79 (fun H locs h1 _ oq hS => ?_)
  have hW := gk_p4 hW h1 oq
  refine lv_aload_n hx hb dX3_drop_82 rfl (lv_at hl 0 rfl) ?_
  refine gk_get hx hb hts iwX3 hown hK.1 (gk_o5 hW) rfl 0 (by decide) (hts _ fl_X3_44) (fun _ h9 => h9) rfl dX3_drop_83 ?_
  exact gk_reti C0 hw hW hS dX3_drop_86
def w_X3_holdsIn (σ : gk_C) (a0 : Int32) (a1 : Int32) (Q : Int32 → Prop) : Prop := ((((gk_at σ 19 a0) < (gk_at σ 18 a0)) → ((((gk_at σ 18 a0) ≤ a1) → (Q 1)) ∧ ((¬ (gk_at σ 18 a0) ≤ a1) → ((((gk_at σ 19 a0) < a1) → (Q 0)) ∧ ((¬ (gk_at σ 19 a0) < a1) → (Q 1)))))) ∧ ((¬ (gk_at σ 19 a0) < (gk_at σ 18 a0)) → (((a1 < (gk_at σ 18 a0)) → (Q 0)) ∧ ((¬ a1 < (gk_at σ 18 a0)) → ((((gk_at σ 19 a0) < a1) → (Q 0)) ∧ ((¬ (gk_at σ 19 a0) < a1) → (Q 1)))))))
abbrev rmX3_holdsIn : Room := { frames := 1, cells := 0, slots := 0, locals := 21 }
set_option maxHeartbeats 4000000 in
set_option maxRecDepth 100000 in
theorem c_X3_holdsIn (l : Launch) (D : va_G) (cI cZ cG cL : ClassId) (ad : Nat → Nat) {σ : gk_C} {a0 : Int32} {a1 : Int32} {Q : Int32 → Prop} {sz : Nat} (hw : w_X3_holdsIn σ a0 a1 Q) : Met l yX3_holdsIn wsX3_holdsIn rmX3_holdsIn (gk_Pc D cI cZ cG cL ad [.ref (ad 5), .int a0, .int a1] sz σ) (va_Qi (fun r u => u = σ ∧ Q r) (gk_B D cI ad) (gk_A ad sz)) 0 0 (gk_A ad sz) := by
  refine Met.ofW (cc := cX3_holdsIn) (maxL := 5) (ret := (some .boolean)) (by decide) rfl ?_
  intro p e s m args below meth c s₁ B hml0 hv0
  obtain ⟨rfl, hsz, hW, hK⟩ := hv0
  subst hsz
  have C0 : gk_F p s m ([.ref (ad 5), .int a0, .int a1] : List Value).toArray meth c cX3_holdsIn 5 (some .boolean) RX3 := ⟨B.exec, B.bytes, hml0, findClass_of_methodNamed B.named, fun w hw => atoms_spec (ws := wsX3_holdsIn) B.pre w (List.mem_cons_of_mem _ hw), B.returns, B.notSynchronized⟩
  obtain ⟨hx, hb, hml, hown, hts, hr, hlocks⟩ := id C0
  have hS : va_S (gk_A ad s.heap.size) s.heap s.heap [] := va_S.rf
  have hl := lv_entry ([.ref (ad 5), .int a0, .int a1]) (n := 5) (Nat.le_of_ble_eq_true rfl)
  rw [lg_entry_eq]
  generalize (lg_sl ([.ref (ad 5), .int a0, .int a1]) ++ List.replicate (5 - (lg_sl ([.ref (ad 5), .int a0, .int a1])).length) Slot.unset).toArray = ls at hl ⊢
  have hl : lv_has ls 5 [(0, .ref (ad 5)), (1, .int a0), (2, .int a1)] := hl
  show W p l e rmX3_holdsIn s m _ below meth c s.heap [] 0 0 _ _
  refine lv_aload_n hx hb dX3_holdsIn_0 rfl (lv_at hl 0 rfl) ?_
  refine gk_get hx hb hts iwX3 hown hK.1 (gk_o5 hW) rfl 8 (by decide) (hts _ fl_X3_38) (fun _ h9 => h9) rfl dX3_holdsIn_1 ?_
  refine lv_iload_n hx hb dX3_holdsIn_4 rfl (lv_at hl 1 rfl) ?_
  refine gk_callRi ⟨hx, hb, hml, hown, hts⟩ (c_X2_at l D cI cZ cG cL ad (σ := σ) (r := 18) (i := a0) (by decide)) (cwV 1 hts (gk_gV ml_X3_55 im_X2_at se_X2_at in_X2 co_X2_at) rfl rfl rfl (by decide +kernel) ⟨Nat.le_of_ble_eq_true rfl, Nat.le_of_ble_eq_true rfl⟩) (gk_recv hK.1 (gk_or hW (r := 18) (by decide)) rfl) hW hK hS rfl hl.1 (rest := []) rfl (lv_room (Nat.le_of_ble_eq_true rfl)) dX3_holdsIn_5 ⟨Nat.zero_le _, Nat.zero_le _⟩ (fun r5 H locs hq hW _ hS => ?_)
  obtain rfl := hq
  refine lv_istore_n (lv' := [(3, .int (gk_at σ 18 a0)), (0, .ref (ad 5)), (1, .int a0), (2, .int a1)]) hx hb dX3_holdsIn_8 rfl hl (by decide) rfl (fun ls hl => ?_)
  refine lv_aload_n hx hb dX3_holdsIn_9 rfl (lv_at hl 1 rfl) ?_
  refine gk_get hx hb hts iwX3 hown hK.1 (gk_o5 hW) rfl 9 (by decide) (hts _ fl_X3_41) (fun _ h9 => h9) rfl dX3_holdsIn_10 ?_
  refine lv_iload_n hx hb dX3_holdsIn_13 rfl (lv_at hl 2 rfl) ?_
  refine gk_callRi ⟨hx, hb, hml, hown, hts⟩ (c_X2_at l D cI cZ cG cL ad (σ := σ) (r := 19) (i := a0) (by decide)) (cwV 1 hts (gk_gV ml_X3_55 im_X2_at se_X2_at in_X2 co_X2_at) rfl rfl rfl (by decide +kernel) ⟨Nat.le_of_ble_eq_true rfl, Nat.le_of_ble_eq_true rfl⟩) (gk_recv hK.1 (gk_or hW (r := 19) (by decide)) rfl) hW hK hS rfl hl.1 (rest := []) rfl (lv_room (Nat.le_of_ble_eq_true rfl)) dX3_holdsIn_14 ⟨Nat.zero_le _, Nat.zero_le _⟩ (fun r14 H locs hq hW _ hS => ?_)
  obtain rfl := hq
  refine lv_istore (lv' := [(4, .int (gk_at σ 19 a0)), (3, .int (gk_at σ 18 a0)), (0, .ref (ad 5)), (1, .int a0), (2, .int a1)]) hx hb dX3_holdsIn_17 hl (by decide) rfl (fun ls hl => ?_)
  refine lv_iload_n hx hb dX3_holdsIn_19 rfl (lv_at hl 1 rfl) ?_
  refine lv_iload hx hb dX3_holdsIn_20 (lv_at hl 0 rfl) ?_
  refine lv_icmp_gt (tgt := 44) hx hb dX3_holdsIn_22 (by decide) (fun c22 => ?_) (fun c22 => ?_)
  · have hw := hw.1 c22
    refine lv_iload_n hx hb dX3_holdsIn_44 rfl (lv_at hl 1 rfl) ?_
    refine lv_iload_n hx hb dX3_holdsIn_45 rfl (lv_at hl 4 rfl) ?_
    refine lv_icmp_le (tgt := 55) hx hb dX3_holdsIn_46 (by decide) (fun c46 => ?_) (fun c46 => ?_)
    · have hw := hw.1 c46
      refine lv_iconst (v := 1) hx hb dX3_holdsIn_55 (by decide) ?_
      refine lv_goto (tgt := 60) hx hb dX3_holdsIn_56 (by decide) ?_
      exact gk_retz C0 (by decide) ⟨rfl, hw⟩ hW hS dX3_holdsIn_60
    · have hw := hw.2 c46
      refine lv_iload_n hx hb dX3_holdsIn_49 rfl (lv_at hl 4 rfl) ?_
      refine lv_iload hx hb dX3_holdsIn_50 (lv_at hl 0 rfl) ?_
      refine lv_icmp_gt (tgt := 59) hx hb dX3_holdsIn_52 (by decide) (fun c52 => ?_) (fun c52 => ?_)
      · have hw := hw.1 c52
        refine lv_iconst (v := 0) hx hb dX3_holdsIn_59 (by decide) ?_
        exact gk_retz C0 (by decide) ⟨rfl, hw⟩ hW hS dX3_holdsIn_60
      · have hw := hw.2 c52
        refine lv_iconst (v := 1) hx hb dX3_holdsIn_55 (by decide) ?_
        refine lv_goto (tgt := 60) hx hb dX3_holdsIn_56 (by decide) ?_
        exact gk_retz C0 (by decide) ⟨rfl, hw⟩ hW hS dX3_holdsIn_60
  · have hw := hw.2 c22
    refine lv_iload_n hx hb dX3_holdsIn_25 rfl (lv_at hl 1 rfl) ?_
    refine lv_iload_n hx hb dX3_holdsIn_26 rfl (lv_at hl 4 rfl) ?_
    refine lv_icmp_gt (tgt := 40) hx hb dX3_holdsIn_27 (by decide) (fun c27 => ?_) (fun c27 => ?_)
    · have hw := hw.1 c27
      refine lv_iconst (v := 0) hx hb dX3_holdsIn_40 (by decide) ?_
      refine lv_goto (tgt := 60) hx hb dX3_holdsIn_41 (by decide) ?_
      exact gk_retz C0 (by decide) ⟨rfl, hw⟩ hW hS dX3_holdsIn_60
    · have hw := hw.2 c27
      refine lv_iload_n hx hb dX3_holdsIn_30 rfl (lv_at hl 4 rfl) ?_
      refine lv_iload hx hb dX3_holdsIn_31 (lv_at hl 0 rfl) ?_
      refine lv_icmp_gt (tgt := 40) hx hb dX3_holdsIn_33 (by decide) (fun c33 => ?_) (fun c33 => ?_)
      · have hw := hw.1 c33
        refine lv_iconst (v := 0) hx hb dX3_holdsIn_40 (by decide) ?_
        refine lv_goto (tgt := 60) hx hb dX3_holdsIn_41 (by decide) ?_
        exact gk_retz C0 (by decide) ⟨rfl, hw⟩ hW hS dX3_holdsIn_60
      · have hw := hw.2 c33
        refine lv_iconst (v := 1) hx hb dX3_holdsIn_36 (by decide) ?_
        refine lv_goto (tgt := 60) hx hb dX3_holdsIn_37 (by decide) ?_
        exact gk_retz C0 (by decide) ⟨rfl, hw⟩ hW hS dX3_holdsIn_60
def w_X0_add (σ : gk_C) (a0 : Int32) (a1 : Int32) (a2 : Int32) (a3 : Int32) (a4 : Int32) (a5 : Int32) (Q : Int32 → gk_C → Prop) : Prop := (Q (σ.2 5) (gk_s (gk_put (gk_put (gk_put (gk_put (gk_put (gk_put σ 20 (σ.2 5) a0) 21 (σ.2 5) a1) 22 (σ.2 5) a2) 23 (σ.2 5) a3) 24 (σ.2 5) a4) 25 (σ.2 5) a5) 5 (((gk_put (gk_put (gk_put (gk_put (gk_put (gk_put σ 20 (σ.2 5) a0) 21 (σ.2 5) a1) 22 (σ.2 5) a2) 23 (σ.2 5) a3) 24 (σ.2 5) a4) 25 (σ.2 5) a5).2 5) + 1)))
abbrev rmX0_add : Room := { frames := 1, cells := 0, slots := 0, locals := 22 }
set_option maxHeartbeats 4000000 in
set_option maxRecDepth 100000 in
theorem c_X0_add (l : Launch) (D : va_G) (cI cZ cG cL : ClassId) (ad : Nat → Nat) {σ : gk_C} {a0 : Int32} {a1 : Int32} {a2 : Int32} {a3 : Int32} {a4 : Int32} {a5 : Int32} {Q : Int32 → gk_C → Prop} {sz : Nat} (hw : w_X0_add σ a0 a1 a2 a3 a4 a5 Q) : Met l yX0_add wsX0_add rmX0_add (gk_Pc D cI cZ cG cL ad [.ref (ad 6), .int a0, .int a1, .int a2, .int a3, .int a4, .int a5] sz σ) (va_Qi (fun r u => Q r u) (gk_B D cI ad) (gk_A ad sz)) 0 0 (gk_A ad sz) := by
  refine Met.ofW (cc := cX0_add) (maxL := 8) (ret := (some .int)) (by decide) rfl ?_
  intro p e s m args below meth c s₁ B hml0 hv0
  obtain ⟨rfl, hsz, hW, hK⟩ := hv0
  subst hsz
  have C0 : gk_F p s m ([.ref (ad 6), .int a0, .int a1, .int a2, .int a3, .int a4, .int a5] : List Value).toArray meth c cX0_add 8 (some .int) RX0 := ⟨B.exec, B.bytes, hml0, findClass_of_methodNamed B.named, fun w hw => atoms_spec (ws := wsX0_add) B.pre w (List.mem_cons_of_mem _ hw), B.returns, B.notSynchronized⟩
  obtain ⟨hx, hb, hml, hown, hts, hr, hlocks⟩ := id C0
  have hS : va_S (gk_A ad s.heap.size) s.heap s.heap [] := va_S.rf
  have hl := lv_entry ([.ref (ad 6), .int a0, .int a1, .int a2, .int a3, .int a4, .int a5]) (n := 8) (Nat.le_of_ble_eq_true rfl)
  rw [lg_entry_eq]
  generalize (lg_sl ([.ref (ad 6), .int a0, .int a1, .int a2, .int a3, .int a4, .int a5]) ++ List.replicate (8 - (lg_sl ([.ref (ad 6), .int a0, .int a1, .int a2, .int a3, .int a4, .int a5])).length) Slot.unset).toArray = ls at hl ⊢
  have hl : lv_has ls 8 [(0, .ref (ad 6)), (1, .int a0), (2, .int a1), (3, .int a2), (4, .int a3), (5, .int a4), (6, .int a5)] := hl
  show W p l e rmX0_add s m _ below meth c s.heap [] 0 0 _ _
  refine lv_aload_n hx hb dX0_add_0 rfl (lv_at hl 0 rfl) ?_
  refine gk_get hx hb hts iwX0 hown hK.1 (gk_o6 hW) rfl 0 (by decide) (hts _ fl_X0_35) (fun _ h9 => h9) rfl dX0_add_1 ?_
  refine lv_istore (lv' := [(7, .int (σ.2 5)), (0, .ref (ad 6)), (1, .int a0), (2, .int a1), (3, .int a2), (4, .int a3), (5, .int a4), (6, .int a5)]) hx hb dX0_add_4 hl (by decide) rfl (fun ls hl => ?_)
  refine lv_aload_n hx hb dX0_add_6 rfl (lv_at hl 1 rfl) ?_
  refine gk_get hx hb hts iwX0 hown hK.1 (gk_o6 hW) rfl 1 (by decide) (hts _ fl_X0_14) (fun _ h9 => h9) rfl dX0_add_7 ?_
  refine lv_iload hx hb dX0_add_10 (lv_at hl 0 rfl) ?_
  refine lv_iload_n hx hb dX0_add_12 rfl (lv_at hl 2 rfl) ?_
  refine gk_callVv ⟨hx, hb, hml, hown, hts⟩ (c_X2_put l D cI cZ cG cL ad (σ := σ) (r := 20) (i := (σ.2 5)) (x := a0) (by decide)) (cwV 2 hts (gk_gV ml_X0_39 im_X2_put se_X2_put in_X2 co_X2_put) rfl rfl rfl (by decide +kernel) ⟨Nat.le_of_ble_eq_true rfl, Nat.le_of_ble_eq_true rfl⟩) (gk_recv hK.1 (gk_or hW (r := 20) (by decide)) rfl) hW hK hS rfl hl.1 (rest := []) rfl (lv_room (Nat.le_of_ble_eq_true rfl)) dX0_add_13 ⟨Nat.zero_le _, Nat.zero_le _⟩ (fun u H locs hq hW _ hS => ?_)
  rw [hq] at hW
  refine lv_aload_n hx hb dX0_add_16 rfl (lv_at hl 1 rfl) ?_
  refine gk_get hx hb hts iwX0 hown hK.1 (gk_o6 hW) rfl 2 (by decide) (hts _ fl_X0_20) (fun _ h9 => h9) rfl dX0_add_17 ?_
  refine lv_iload hx hb dX0_add_20 (lv_at hl 0 rfl) ?_
  refine lv_iload_n hx hb dX0_add_22 rfl (lv_at hl 3 rfl) ?_
  refine gk_callVv ⟨hx, hb, hml, hown, hts⟩ (c_X2_put l D cI cZ cG cL ad (σ := (gk_put σ 20 (σ.2 5) a0)) (r := 21) (i := (σ.2 5)) (x := a1) (by decide)) (cwV 2 hts (gk_gV ml_X0_39 im_X2_put se_X2_put in_X2 co_X2_put) rfl rfl rfl (by decide +kernel) ⟨Nat.le_of_ble_eq_true rfl, Nat.le_of_ble_eq_true rfl⟩) (gk_recv hK.1 (gk_or hW (r := 21) (by decide)) rfl) hW hK hS rfl hl.1 (rest := []) rfl (lv_room (Nat.le_of_ble_eq_true rfl)) dX0_add_23 ⟨Nat.zero_le _, Nat.zero_le _⟩ (fun u H locs hq hW _ hS => ?_)
  rw [hq] at hW
  refine lv_aload_n hx hb dX0_add_26 rfl (lv_at hl 1 rfl) ?_
  refine gk_get hx hb hts iwX0 hown hK.1 (gk_o6 hW) rfl 3 (by decide) (hts _ fl_X0_23) (fun _ h9 => h9) rfl dX0_add_27 ?_
  refine lv_iload hx hb dX0_add_30 (lv_at hl 0 rfl) ?_
  refine lv_iload_n hx hb dX0_add_32 rfl (lv_at hl 4 rfl) ?_
  refine gk_callVv ⟨hx, hb, hml, hown, hts⟩ (c_X2_put l D cI cZ cG cL ad (σ := (gk_put (gk_put σ 20 (σ.2 5) a0) 21 (σ.2 5) a1)) (r := 22) (i := (σ.2 5)) (x := a2) (by decide)) (cwV 2 hts (gk_gV ml_X0_39 im_X2_put se_X2_put in_X2 co_X2_put) rfl rfl rfl (by decide +kernel) ⟨Nat.le_of_ble_eq_true rfl, Nat.le_of_ble_eq_true rfl⟩) (gk_recv hK.1 (gk_or hW (r := 22) (by decide)) rfl) hW hK hS rfl hl.1 (rest := []) rfl (lv_room (Nat.le_of_ble_eq_true rfl)) dX0_add_33 ⟨Nat.zero_le _, Nat.zero_le _⟩ (fun u H locs hq hW _ hS => ?_)
  rw [hq] at hW
  refine lv_aload_n hx hb dX0_add_36 rfl (lv_at hl 1 rfl) ?_
  refine gk_get hx hb hts iwX0 hown hK.1 (gk_o6 hW) rfl 4 (by decide) (hts _ fl_X0_26) (fun _ h9 => h9) rfl dX0_add_37 ?_
  refine lv_iload hx hb dX0_add_40 (lv_at hl 0 rfl) ?_
  refine lv_iload hx hb dX0_add_42 (lv_at hl 5 rfl) ?_
  refine gk_callVv ⟨hx, hb, hml, hown, hts⟩ (c_X2_put l D cI cZ cG cL ad (σ := (gk_put (gk_put (gk_put σ 20 (σ.2 5) a0) 21 (σ.2 5) a1) 22 (σ.2 5) a2)) (r := 23) (i := (σ.2 5)) (x := a3) (by decide)) (cwV 2 hts (gk_gV ml_X0_39 im_X2_put se_X2_put in_X2 co_X2_put) rfl rfl rfl (by decide +kernel) ⟨Nat.le_of_ble_eq_true rfl, Nat.le_of_ble_eq_true rfl⟩) (gk_recv hK.1 (gk_or hW (r := 23) (by decide)) rfl) hW hK hS rfl hl.1 (rest := []) rfl (lv_room (Nat.le_of_ble_eq_true rfl)) dX0_add_44 ⟨Nat.zero_le _, Nat.zero_le _⟩ (fun u H locs hq hW _ hS => ?_)
  rw [hq] at hW
  refine lv_aload_n hx hb dX0_add_47 rfl (lv_at hl 1 rfl) ?_
  refine gk_get hx hb hts iwX0 hown hK.1 (gk_o6 hW) rfl 5 (by decide) (hts _ fl_X0_29) (fun _ h9 => h9) rfl dX0_add_48 ?_
  refine lv_iload hx hb dX0_add_51 (lv_at hl 0 rfl) ?_
  refine lv_iload hx hb dX0_add_53 (lv_at hl 6 rfl) ?_
  refine gk_callVv ⟨hx, hb, hml, hown, hts⟩ (c_X2_put l D cI cZ cG cL ad (σ := (gk_put (gk_put (gk_put (gk_put σ 20 (σ.2 5) a0) 21 (σ.2 5) a1) 22 (σ.2 5) a2) 23 (σ.2 5) a3)) (r := 24) (i := (σ.2 5)) (x := a4) (by decide)) (cwV 2 hts (gk_gV ml_X0_39 im_X2_put se_X2_put in_X2 co_X2_put) rfl rfl rfl (by decide +kernel) ⟨Nat.le_of_ble_eq_true rfl, Nat.le_of_ble_eq_true rfl⟩) (gk_recv hK.1 (gk_or hW (r := 24) (by decide)) rfl) hW hK hS rfl hl.1 (rest := []) rfl (lv_room (Nat.le_of_ble_eq_true rfl)) dX0_add_55 ⟨Nat.zero_le _, Nat.zero_le _⟩ (fun u H locs hq hW _ hS => ?_)
  rw [hq] at hW
  refine lv_aload_n hx hb dX0_add_58 rfl (lv_at hl 1 rfl) ?_
  refine gk_get hx hb hts iwX0 hown hK.1 (gk_o6 hW) rfl 6 (by decide) (hts _ fl_X0_32) (fun _ h9 => h9) rfl dX0_add_59 ?_
  refine lv_iload hx hb dX0_add_62 (lv_at hl 0 rfl) ?_
  refine lv_iload hx hb dX0_add_64 (lv_at hl 7 rfl) ?_
  refine gk_callVv ⟨hx, hb, hml, hown, hts⟩ (c_X2_put l D cI cZ cG cL ad (σ := (gk_put (gk_put (gk_put (gk_put (gk_put σ 20 (σ.2 5) a0) 21 (σ.2 5) a1) 22 (σ.2 5) a2) 23 (σ.2 5) a3) 24 (σ.2 5) a4)) (r := 25) (i := (σ.2 5)) (x := a5) (by decide)) (cwV 2 hts (gk_gV ml_X0_39 im_X2_put se_X2_put in_X2 co_X2_put) rfl rfl rfl (by decide +kernel) ⟨Nat.le_of_ble_eq_true rfl, Nat.le_of_ble_eq_true rfl⟩) (gk_recv hK.1 (gk_or hW (r := 25) (by decide)) rfl) hW hK hS rfl hl.1 (rest := []) rfl (lv_room (Nat.le_of_ble_eq_true rfl)) dX0_add_66 ⟨Nat.zero_le _, Nat.zero_le _⟩ (fun u H locs hq hW _ hS => ?_)
  rw [hq] at hW
  refine lv_aload_n hx hb dX0_add_69 rfl (lv_at hl 1 rfl) ?_
  refine lv_dup hx hb dX0_add_70 rfl ?_
  refine gk_get hx hb hts iwX0 hown hK.1 (gk_o6 hW) rfl 0 (by decide) (hts _ fl_X0_35) (fun _ h9 => h9) rfl dX0_add_71 ?_
  refine lv_iconst (v := 1) hx hb dX0_add_74 (by decide) ?_
  refine lv_iadd hx hb dX0_add_75 ?_
  refine gk_putf (ty := .int) (v := .int (((gk_put (gk_put (gk_put (gk_put (gk_put (gk_put σ 20 (σ.2 5) a0) 21 (σ.2 5) a1) 22 (σ.2 5) a2) 23 (σ.2 5) a3) 24 (σ.2 5) a4) 25 (σ.2 5) a5).2 5) + 1)) hx hb hts iwX0 tyX0 tyX0_ok nmX0 hown hK.1 hS (gk_A.in (by decide)) (gk_o6 hW) rfl 0 (by decide) (hts _ fl_X0_35) (fun _ h9 => h9) rfl (by decide +kernel) rfl rfl (Nat.le_of_ble_eq_true rfl) dX0_add_76 (fun H locs h1 _ oq hS => ?_)
  have hW := gk_p5 hW h1 oq
  refine lv_iload hx hb dX0_add_79 (lv_at hl 0 rfl) ?_
  exact gk_reti C0 hw hW hS dX0_add_81
def w_X4_isGiven (σ : gk_C) (a0 : Int32) (a1 : Int32) (a2 : Int32) (a3 : Int32) (Q : Int32 → Prop) : Prop := (((¬ (gk_at σ 21 a0) = a1) → (Q 0)) ∧ (((gk_at σ 21 a0) = a1) → (((¬ (gk_at σ 22 a0) = a2) → (Q 0)) ∧ (((gk_at σ 22 a0) = a2) → (w_X5_isBeneath σ a3 (gk_at σ 23 a0) (fun r47 => ((r47 = 0) → (Q 0)) ∧ ((¬ r47 = 0) → (Q 1))))))))
abbrev rmX4_isGiven : Room := { frames := 2, cells := 0, slots := 0, locals := 43 }
set_option maxHeartbeats 4000000 in
set_option maxRecDepth 100000 in
theorem c_X4_isGiven (l : Launch) (D : va_G) (cI cZ cG cL : ClassId) (ad : Nat → Nat) {σ : gk_C} {a0 : Int32} {a1 : Int32} {a2 : Int32} {a3 : Int32} {Q : Int32 → Prop} {sz : Nat} (hw : w_X4_isGiven σ a0 a1 a2 a3 Q) : Met l yX4_isGiven wsX4_isGiven rmX4_isGiven (gk_Pc D cI cZ cG cL ad [.ref (ad 1), .int a0, .int a1, .int a2, .int a3] sz σ) (va_Qi (fun r u => u = σ ∧ Q r) (gk_B D cI ad) (gk_A ad sz)) 0 0 (gk_A ad sz) := by
  refine Met.ofW (cc := cX4_isGiven) (maxL := 5) (ret := (some .boolean)) (by decide) rfl ?_
  intro p e s m args below meth c s₁ B hml0 hv0
  obtain ⟨rfl, hsz, hW, hK⟩ := hv0
  subst hsz
  have C0 : gk_F p s m ([.ref (ad 1), .int a0, .int a1, .int a2, .int a3] : List Value).toArray meth c cX4_isGiven 5 (some .boolean) RX4 := ⟨B.exec, B.bytes, hml0, findClass_of_methodNamed B.named, fun w hw => atoms_spec (ws := wsX4_isGiven) B.pre w (List.mem_cons_of_mem _ hw), B.returns, B.notSynchronized⟩
  obtain ⟨hx, hb, hml, hown, hts, hr, hlocks⟩ := id C0
  have hS : va_S (gk_A ad s.heap.size) s.heap s.heap [] := va_S.rf
  have hl := lv_entry ([.ref (ad 1), .int a0, .int a1, .int a2, .int a3]) (n := 5) (Nat.le_of_ble_eq_true rfl)
  rw [lg_entry_eq]
  generalize (lg_sl ([.ref (ad 1), .int a0, .int a1, .int a2, .int a3]) ++ List.replicate (5 - (lg_sl ([.ref (ad 1), .int a0, .int a1, .int a2, .int a3])).length) Slot.unset).toArray = ls at hl ⊢
  have hl : lv_has ls 5 [(0, .ref (ad 1)), (1, .int a0), (2, .int a1), (3, .int a2), (4, .int a3)] := hl
  show W p l e rmX4_isGiven s m _ below meth c s.heap [] 0 0 _ _
  refine lv_aload_n hx hb dX4_isGiven_0 rfl (lv_at hl 0 rfl) ?_
  refine gk_get hx hb hts iwX4 hown hK.1 (gk_o1 hW) rfl 4 (by decide) (hts _ fl_X4_40) (fun _ h9 => h9) rfl dX4_isGiven_1 ?_
  refine gk_getN hx hb hts iwX0 hown hK.1 (gk_o6 hW) rfl 2 (by decide) (gk_nw hK nf_X4_58) (fun _ h9 => h9) rfl dX4_isGiven_4 ?_
  refine lv_iload_n hx hb dX4_isGiven_7 rfl (lv_at hl 1 rfl) ?_
  refine gk_callRi ⟨hx, hb, hml, hown, hts⟩ (c_X2_at l D cI cZ cG cL ad (σ := σ) (r := 21) (i := a0) (by decide)) (cwV 1 hts (gk_gV ml_X4_52 im_X2_at se_X2_at in_X2 co_X2_at) rfl rfl rfl (by decide +kernel) ⟨Nat.le_of_ble_eq_true rfl, Nat.le_of_ble_eq_true rfl⟩) (gk_recv hK.1 (gk_or hW (r := 21) (by decide)) rfl) hW hK hS rfl hl.1 (rest := []) rfl (lv_room (Nat.le_of_ble_eq_true rfl)) dX4_isGiven_8 ⟨Nat.zero_le _, Nat.zero_le _⟩ (fun r8 H locs hq hW _ hS => ?_)
  obtain rfl := hq
  refine lv_iload_n hx hb dX4_isGiven_11 rfl (lv_at hl 2 rfl) ?_
  refine lv_icmp_ne (tgt := 57) hx hb dX4_isGiven_12 (by decide) (fun c12 => ?_) (fun c12 => ?_)
  · have hw := hw.1 c12
    refine lv_iconst (v := 0) hx hb dX4_isGiven_57 (by decide) ?_
    exact gk_retz C0 (by decide) ⟨rfl, hw⟩ hW hS dX4_isGiven_58
  · have hw := hw.2 c12
    refine lv_aload_n hx hb dX4_isGiven_15 rfl (lv_at hl 0 rfl) ?_
    refine gk_get hx hb hts iwX4 hown hK.1 (gk_o1 hW) rfl 4 (by decide) (hts _ fl_X4_40) (fun _ h9 => h9) rfl dX4_isGiven_16 ?_
    refine gk_getN hx hb hts iwX0 hown hK.1 (gk_o6 hW) rfl 3 (by decide) (gk_nw hK nf_X4_61) (fun _ h9 => h9) rfl dX4_isGiven_19 ?_
    refine lv_iload_n hx hb dX4_isGiven_22 rfl (lv_at hl 1 rfl) ?_
    refine gk_callRi ⟨hx, hb, hml, hown, hts⟩ (c_X2_at l D cI cZ cG cL ad (σ := σ) (r := 22) (i := a0) (by decide)) (cwV 1 hts (gk_gV ml_X4_52 im_X2_at se_X2_at in_X2 co_X2_at) rfl rfl rfl (by decide +kernel) ⟨Nat.le_of_ble_eq_true rfl, Nat.le_of_ble_eq_true rfl⟩) (gk_recv hK.1 (gk_or hW (r := 22) (by decide)) rfl) hW hK hS rfl hl.1 (rest := []) rfl (lv_room (Nat.le_of_ble_eq_true rfl)) dX4_isGiven_23 ⟨Nat.zero_le _, Nat.zero_le _⟩ (fun r23 H locs hq hW _ hS => ?_)
    obtain rfl := hq
    refine lv_iload_n hx hb dX4_isGiven_26 rfl (lv_at hl 3 rfl) ?_
    refine lv_icmp_ne (tgt := 57) hx hb dX4_isGiven_27 (by decide) (fun c27 => ?_) (fun c27 => ?_)
    · have hw := hw.1 c27
      refine lv_iconst (v := 0) hx hb dX4_isGiven_57 (by decide) ?_
      exact gk_retz C0 (by decide) ⟨rfl, hw⟩ hW hS dX4_isGiven_58
    · have hw := hw.2 c27
      refine lv_aload_n hx hb dX4_isGiven_30 rfl (lv_at hl 0 rfl) ?_
      refine gk_get hx hb hts iwX4 hown hK.1 (gk_o1 hW) rfl 2 (by decide) (hts _ fl_X4_26) (fun _ h9 => h9) rfl dX4_isGiven_31 ?_
      refine lv_iload hx hb dX4_isGiven_34 (lv_at hl 4 rfl) ?_
      refine lv_aload_n hx hb dX4_isGiven_36 rfl (lv_at hl 0 rfl) ?_
      refine gk_get hx hb hts iwX4 hown hK.1 (gk_o1 hW) rfl 4 (by decide) (hts _ fl_X4_40) (fun _ h9 => h9) rfl dX4_isGiven_37 ?_
      refine gk_getN hx hb hts iwX0 hown hK.1 (gk_o6 hW) rfl 4 (by decide) (gk_nw hK nf_X4_64) (fun _ h9 => h9) rfl dX4_isGiven_40 ?_
      refine lv_iload_n hx hb dX4_isGiven_43 rfl (lv_at hl 1 rfl) ?_
      refine gk_callRi ⟨hx, hb, hml, hown, hts⟩ (c_X2_at l D cI cZ cG cL ad (σ := σ) (r := 23) (i := a0) (by decide)) (cwV 1 hts (gk_gV ml_X4_52 im_X2_at se_X2_at in_X2 co_X2_at) rfl rfl rfl (by decide +kernel) ⟨Nat.le_of_ble_eq_true rfl, Nat.le_of_ble_eq_true rfl⟩) (gk_recv hK.1 (gk_or hW (r := 23) (by decide)) rfl) hW hK hS rfl hl.1 (rest := [.int a3, .ref (ad 4)]) rfl (lv_room (Nat.le_of_ble_eq_true rfl)) dX4_isGiven_44 ⟨Nat.zero_le _, Nat.zero_le _⟩ (fun r44 H locs hq hW _ hS => ?_)
      obtain rfl := hq
      refine gk_callRi ⟨hx, hb, hml, hown, hts⟩ (c_X5_isBeneath l D cI cZ cG cL ad hw) (cwV 2 hts (gk_gV ml_X4_67 im_X5_isBeneath se_X5_isBeneath in_X5 co_X5_isBeneath) rfl rfl rfl (by decide +kernel) ⟨Nat.le_of_ble_eq_true rfl, Nat.le_of_ble_eq_true rfl⟩) (gk_recv hK.1 (gk_o4 hW) rfl) hW hK hS rfl hl.1 (rest := []) rfl (lv_room (Nat.le_of_ble_eq_true rfl)) dX4_isGiven_47 ⟨Nat.zero_le _, Nat.zero_le _⟩ (fun r47 H locs hw hW _ hS => ?_)
      refine lv_if_eq (tgt := 57) hx hb dX4_isGiven_50 (by decide) (fun c50 => ?_) (fun c50 => ?_)
      · have hw := hw.1 c50
        refine lv_iconst (v := 0) hx hb dX4_isGiven_57 (by decide) ?_
        exact gk_retz C0 (by decide) ⟨rfl, hw⟩ hW hS dX4_isGiven_58
      · have hw := hw.2 c50
        refine lv_iconst (v := 1) hx hb dX4_isGiven_53 (by decide) ?_
        refine lv_goto (tgt := 58) hx hb dX4_isGiven_54 (by decide) ?_
        exact gk_retz C0 (by decide) ⟨rfl, hw⟩ hW hS dX4_isGiven_58
