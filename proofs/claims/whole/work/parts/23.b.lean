/-! laid by wip/whole/model1.py: wp predicates and walks -/
def w_X9_isGood (σ : gk_C) (a0 : Int32) (Q : Int32 → gk_C → Prop) : Prop := (w_X9_isGrant (gk_s σ 0 0) a0 (fun r7 => ((r7 = 0) → (w_X9_isNot (gk_s σ 0 0) 1 (fun r42 σ42 => gk_z r42 ∧ Q r42 σ42))) ∧ ((¬ r7 = 0) → (w_X9_allNears (gk_s σ 0 0) (fun Nc15 => w_X9_good (gk_s σ 0 0) Nc15 ((gk_s σ 0 0).2 2) (fun r22 => ((((r22 >>> (a0 &&& 31)) &&& 1) = 0) → (Q 0 (gk_s σ 0 0))) ∧ ((¬ ((r22 >>> (a0 &&& 31)) &&& 1) = 0) → (Q 1 (gk_s σ 0 0)))))))))
abbrev rmX9_isGood : Room := { frames := 8, cells := 13, slots := 156, locals := 193 }
set_option maxHeartbeats 4000000 in
set_option maxRecDepth 100000 in
theorem c_X9_isGood (l : Launch) (D : va_G) (cI cZ cG cL : ClassId) (am : Nat → Nat) {σ : gk_C} {a0 : Int32} {Q : Int32 → gk_C → Prop} {sz : Nat} (hw : w_X9_isGood σ a0 Q) : Met l yX9_isGood wsX9_isGood rmX9_isGood (mk_Pc (mk_V D cI cZ am) D cI cZ cG cL [.ref (am 38), .int a0] sz σ (fun _ => True)) (va_Qi (fun r u => Q r u) (mk_B (mk_V D cI cZ am)) (mk_A am sz)) 13 156 (mk_A am sz) := by
  refine Met.ofW (cc := cX9_isGood) (maxL := 2) (ret := (some .boolean)) (by decide) rfl ?_
  intro p e s m args below meth c s₁ B hml0 hv0
  obtain ⟨rfl, hsz, hW, hK, hX⟩ := hv0
  subst hsz
  have C0 : gk_F p s m ([.ref (am 38), .int a0] : List Value).toArray meth c cX9_isGood 2 (some .boolean) RX9 := ⟨B.exec, B.bytes, hml0, findClass_of_methodNamed B.named, fun w hw => atoms_spec (ws := wsX9_isGood) B.pre w (List.mem_cons_of_mem _ hw), B.returns, B.notSynchronized⟩
  obtain ⟨hx, hb, hml, hown, hts, hr, hlocks⟩ := id C0
  have hS : va_S (mk_A am s.heap.size) s.heap s.heap [] := va_S.rf
  have hl := lv_entry ([.ref (am 38), .int a0]) (n := 2) (Nat.le_of_ble_eq_true rfl)
  rw [lg_entry_eq]
  generalize (lg_sl ([.ref (am 38), .int a0]) ++ List.replicate (2 - (lg_sl ([.ref (am 38), .int a0])).length) Slot.unset).toArray = ls at hl ⊢
  have hl : lv_has ls 2 [(0, .ref (am 38)), (1, .int a0)] := hl
  show W p l e rmX9_isGood s m _ below meth c s.heap [] 0 0 _ _
  refine lv_aload_n hx hb dX9_isGood_0 rfl (lv_at hl 0 rfl) ?_
  refine lv_iconst (v := 0) hx hb dX9_isGood_1 (by decide) ?_
  refine gk_putf (ty := .int) (v := .int 0) hx hb hts iwX9 tyX9 tyX9_ok nmX9 hown hK.1 hS (mk_A.in List.mem_cons_self) (mk_obj hW) rfl 0 (by decide) (hts _ fl_X9_102) (fun _ h9 => h9) rfl (by decide +kernel) rfl rfl (Nat.le_of_ble_eq_true rfl) dX9_isGood_2 (fun H locs h1 _ oq hS => ?_)
  have hW := hW.setS (i := 0) (v := 0) h1 oq
  refine lv_aload_n hx hb dX9_isGood_5 rfl (lv_at hl 0 rfl) ?_
  refine lv_iload_n hx hb dX9_isGood_6 rfl (lv_at hl 1 rfl) ?_
  refine mk_callRi ⟨hx, hb, hml, hown, hts⟩ (c_X9_isGrant l D cI cZ cG cL am hw) (cwV 1 hts (gk_gV ml_X9_259 im_X9_isGrant se_X9_isGrant in_X9 co_X9_isGrant) rfl rfl rfl (by decide +kernel) ⟨Nat.le_of_ble_eq_true rfl, Nat.le_of_ble_eq_true rfl⟩) (gk_recv hK.1 (mk_obj hW) rfl) hW hK trivial hS rfl hl.1 (rest := []) rfl (lv_room (Nat.le_of_ble_eq_true rfl)) dX9_isGood_7 ⟨Nat.le_of_ble_eq_true rfl, Nat.le_of_ble_eq_true rfl⟩ (fun r7 H locs hw hW _ hk hS => ?_)
  refine lv_if_eq (tgt := 40) hx hb dX9_isGood_10 (by decide) (fun c10 => ?_) (fun c10 => ?_)
  · have hw := hw.1 c10
    refine lv_aload_n hx hb dX9_isGood_40 rfl (lv_at hl 0 rfl) ?_
    refine lv_iconst (v := 1) hx hb dX9_isGood_41 (by decide) ?_
    refine mk_callVi ⟨hx, hb, hml, hown, hts⟩ (c_X9_isNot l D cI cZ cG cL am hw) (cwV 1 hts (gk_gV ml_X9_145 im_X9_isNot se_X9_isNot in_X9 co_X9_isNot) rfl rfl rfl (by decide +kernel) ⟨Nat.le_of_ble_eq_true rfl, Nat.le_of_ble_eq_true rfl⟩) (gk_recv hK.1 (mk_obj hW) rfl) hW hK trivial hS rfl hl.1 (rest := []) rfl (lv_room (Nat.le_of_ble_eq_true rfl)) dX9_isGood_42 ⟨Nat.le_of_ble_eq_true rfl, Nat.le_of_ble_eq_true rfl⟩ (fun r42 σ42 H locs hw hW _ hk hS => ?_)
    refine W.widen (k := 13) (n := 156) (Nat.le_of_ble_eq_true rfl) (Nat.le_of_ble_eq_true rfl) ?_
    obtain ⟨hz, hw⟩ := hw
    exact mk_retz C0 hz hw hW hS dX9_isGood_45
  · have hw := hw.2 c10
    refine lv_aload_n hx hb dX9_isGood_13 rfl (lv_at hl 0 rfl) ?_
    refine lv_aload_n hx hb dX9_isGood_14 rfl (lv_at hl 0 rfl) ?_
    refine mk_callVb ⟨hx, hb, hml, hown, hts⟩ (c_X9_allNears l D cI cZ cG cL am hw) (cwV 0 hts (gk_gV ml_X9_247 im_X9_allNears se_X9_allNears in_X9 co_X9_allNears) rfl rfl rfl (by decide +kernel) ⟨Nat.le_of_ble_eq_true rfl, Nat.le_of_ble_eq_true rfl⟩) (gk_recv hK.1 (mk_obj hW) rfl) hW hK trivial hS rfl hl.1 (rest := [.ref (am 38)]) rfl (lv_room (Nat.le_of_ble_eq_true rfl)) dX9_isGood_15 ⟨Nat.le_of_ble_eq_true rfl, Nat.le_of_ble_eq_true rfl⟩ (fun Nc15 qc15 H locs hw hW hdc15 hb0 hgc15 _ hk hS => ?_)
    refine lv_aload_n hx hb dX9_isGood_18 rfl (lv_at hl 0 rfl) ?_
    refine gk_get hx hb hts iwX9 hown hK.1 (mk_obj hW) rfl 2 (by decide) (hts _ fl_X9_171) (fun _ h9 => h9) rfl dX9_isGood_19 ?_
    refine mk_callRi ⟨hx, hb, hml, hown, hts⟩ (c_X9_good l D cI cZ cG cL am hw) (cwV 2 hts (gk_gV ml_X9_251 im_X9_good se_X9_good in_X9 co_X9_good) rfl rfl rfl (by decide +kernel) ⟨Nat.le_of_ble_eq_true rfl, Nat.le_of_ble_eq_true rfl⟩) (gk_recv hK.1 (mk_obj hW) rfl) hW hK ⟨hdc15, trivial⟩ hS rfl hl.1 (rest := []) rfl (lv_room (Nat.le_of_ble_eq_true rfl)) dX9_isGood_22 ⟨Nat.le_of_ble_eq_true rfl, Nat.le_of_ble_eq_true rfl⟩ (fun r22 H locs hw hW _ hk hS => ?_)
    refine lv_iload_n hx hb dX9_isGood_25 rfl (lv_at hl 1 rfl) ?_
    refine lv_ishr hx hb dX9_isGood_26 ?_
    refine lv_iconst (v := 1) hx hb dX9_isGood_27 (by decide) ?_
    refine lv_iand hx hb dX9_isGood_28 ?_
    refine lv_if_eq (tgt := 36) hx hb dX9_isGood_29 (by decide) (fun c29 => ?_) (fun c29 => ?_)
    · have hw := hw.1 c29
      refine lv_iconst (v := 0) hx hb dX9_isGood_36 (by decide) ?_
      refine lv_goto (tgt := 45) hx hb dX9_isGood_37 (by decide) ?_
      refine W.widen (k := 13) (n := 156) (Nat.le_of_ble_eq_true rfl) (Nat.le_of_ble_eq_true rfl) ?_
      exact mk_retz C0 (by decide) hw hW hS dX9_isGood_45
    · have hw := hw.2 c29
      refine lv_iconst (v := 1) hx hb dX9_isGood_32 (by decide) ?_
      refine lv_goto (tgt := 45) hx hb dX9_isGood_33 (by decide) ?_
      refine W.widen (k := 13) (n := 156) (Nat.le_of_ble_eq_true rfl) (Nat.le_of_ble_eq_true rfl) ?_
      exact mk_retz C0 (by decide) hw hW hS dX9_isGood_45
def w_X9_decide (σ : gk_C) (a0 : Int32) (a1 : Int32) (a2 : Int32) (Q : Int32 → gk_C → Prop) : Prop := (w_X9_isQuestion (gk_s σ 0 0) a0 a1 a2 (fun r9 => ((r9 = 0) → (w_X9_no (gk_s σ 0 0) 1 (fun r27 σ27 => Q r27 σ27))) ∧ ((¬ r9 = 0) → (w_X9_decideNow (gk_s σ 0 0) a0 a1 a2 (fun r19 => Q r19 (gk_s σ 0 0))))))
abbrev rmX9_decide : Room := { frames := 9, cells := 13, slots := 156, locals := 217 }
set_option maxHeartbeats 4000000 in
set_option maxRecDepth 100000 in
theorem c_X9_decide (l : Launch) (D : va_G) (cI cZ cG cL : ClassId) (am : Nat → Nat) {σ : gk_C} {a0 : Int32} {a1 : Int32} {a2 : Int32} {Q : Int32 → gk_C → Prop} {sz : Nat} (hw : w_X9_decide σ a0 a1 a2 Q) : Met l yX9_decide wsX9_decide rmX9_decide (mk_Pc (mk_V D cI cZ am) D cI cZ cG cL [.ref (am 38), .int a0, .int a1, .int a2] sz σ (fun _ => True)) (va_Qi (fun r u => Q r u) (mk_B (mk_V D cI cZ am)) (mk_A am sz)) 13 156 (mk_A am sz) := by
  refine Met.ofW (cc := cX9_decide) (maxL := 4) (ret := (some .int)) (by decide) rfl ?_
  intro p e s m args below meth c s₁ B hml0 hv0
  obtain ⟨rfl, hsz, hW, hK, hX⟩ := hv0
  subst hsz
  have C0 : gk_F p s m ([.ref (am 38), .int a0, .int a1, .int a2] : List Value).toArray meth c cX9_decide 4 (some .int) RX9 := ⟨B.exec, B.bytes, hml0, findClass_of_methodNamed B.named, fun w hw => atoms_spec (ws := wsX9_decide) B.pre w (List.mem_cons_of_mem _ hw), B.returns, B.notSynchronized⟩
  obtain ⟨hx, hb, hml, hown, hts, hr, hlocks⟩ := id C0
  have hS : va_S (mk_A am s.heap.size) s.heap s.heap [] := va_S.rf
  have hl := lv_entry ([.ref (am 38), .int a0, .int a1, .int a2]) (n := 4) (Nat.le_of_ble_eq_true rfl)
  rw [lg_entry_eq]
  generalize (lg_sl ([.ref (am 38), .int a0, .int a1, .int a2]) ++ List.replicate (4 - (lg_sl ([.ref (am 38), .int a0, .int a1, .int a2])).length) Slot.unset).toArray = ls at hl ⊢
  have hl : lv_has ls 4 [(0, .ref (am 38)), (1, .int a0), (2, .int a1), (3, .int a2)] := hl
  show W p l e rmX9_decide s m _ below meth c s.heap [] 0 0 _ _
  refine lv_aload_n hx hb dX9_decide_0 rfl (lv_at hl 0 rfl) ?_
  refine lv_iconst (v := 0) hx hb dX9_decide_1 (by decide) ?_
  refine gk_putf (ty := .int) (v := .int 0) hx hb hts iwX9 tyX9 tyX9_ok nmX9 hown hK.1 hS (mk_A.in List.mem_cons_self) (mk_obj hW) rfl 0 (by decide) (hts _ fl_X9_102) (fun _ h9 => h9) rfl (by decide +kernel) rfl rfl (Nat.le_of_ble_eq_true rfl) dX9_decide_2 (fun H locs h1 _ oq hS => ?_)
  have hW := hW.setS (i := 0) (v := 0) h1 oq
  refine lv_aload_n hx hb dX9_decide_5 rfl (lv_at hl 0 rfl) ?_
  refine lv_iload_n hx hb dX9_decide_6 rfl (lv_at hl 1 rfl) ?_
  refine lv_iload_n hx hb dX9_decide_7 rfl (lv_at hl 2 rfl) ?_
  refine lv_iload_n hx hb dX9_decide_8 rfl (lv_at hl 3 rfl) ?_
  refine mk_callRi ⟨hx, hb, hml, hown, hts⟩ (c_X9_isQuestion l D cI cZ cG cL am hw) (cwV 3 hts (gk_gV ml_X9_196 im_X9_isQuestion se_X9_isQuestion in_X9 co_X9_isQuestion) rfl rfl rfl (by decide +kernel) ⟨Nat.le_of_ble_eq_true rfl, Nat.le_of_ble_eq_true rfl⟩) (gk_recv hK.1 (mk_obj hW) rfl) hW hK trivial hS rfl hl.1 (rest := []) rfl (lv_room (Nat.le_of_ble_eq_true rfl)) dX9_decide_9 ⟨Nat.le_of_ble_eq_true rfl, Nat.le_of_ble_eq_true rfl⟩ (fun r9 H locs hw hW _ hk hS => ?_)
  refine lv_if_eq (tgt := 25) hx hb dX9_decide_12 (by decide) (fun c12 => ?_) (fun c12 => ?_)
  · have hw := hw.1 c12
    refine lv_aload_n hx hb dX9_decide_25 rfl (lv_at hl 0 rfl) ?_
    refine lv_iconst (v := 1) hx hb dX9_decide_26 (by decide) ?_
    refine mk_callVi ⟨hx, hb, hml, hown, hts⟩ (c_X9_no l D cI cZ cG cL am hw) (cwV 1 hts (gk_gV ml_X9_139 im_X9_no se_X9_no in_X9 co_X9_no) rfl rfl rfl (by decide +kernel) ⟨Nat.le_of_ble_eq_true rfl, Nat.le_of_ble_eq_true rfl⟩) (gk_recv hK.1 (mk_obj hW) rfl) hW hK trivial hS rfl hl.1 (rest := []) rfl (lv_room (Nat.le_of_ble_eq_true rfl)) dX9_decide_27 ⟨Nat.le_of_ble_eq_true rfl, Nat.le_of_ble_eq_true rfl⟩ (fun r27 σ27 H locs hw hW _ hk hS => ?_)
    refine W.widen (k := 13) (n := 156) (Nat.le_of_ble_eq_true rfl) (Nat.le_of_ble_eq_true rfl) ?_
    exact mk_reti C0 hw hW hS dX9_decide_30
  · have hw := hw.2 c12
    refine lv_aload_n hx hb dX9_decide_15 rfl (lv_at hl 0 rfl) ?_
    refine lv_iload_n hx hb dX9_decide_16 rfl (lv_at hl 1 rfl) ?_
    refine lv_iload_n hx hb dX9_decide_17 rfl (lv_at hl 2 rfl) ?_
    refine lv_iload_n hx hb dX9_decide_18 rfl (lv_at hl 3 rfl) ?_
    refine mk_callRi ⟨hx, hb, hml, hown, hts⟩ (c_X9_decideNow l D cI cZ cG cL am hw) (cwV 3 hts (gk_gV ml_X9_262 im_X9_decideNow se_X9_decideNow in_X9 co_X9_decideNow) rfl rfl rfl (by decide +kernel) ⟨Nat.le_of_ble_eq_true rfl, Nat.le_of_ble_eq_true rfl⟩) (gk_recv hK.1 (mk_obj hW) rfl) hW hK trivial hS rfl hl.1 (rest := []) rfl (lv_room (Nat.le_of_ble_eq_true rfl)) dX9_decide_19 ⟨Nat.le_of_ble_eq_true rfl, Nat.le_of_ble_eq_true rfl⟩ (fun r19 H locs hw hW _ hk hS => ?_)
    refine lv_goto (tgt := 30) hx hb dX9_decide_22 (by decide) ?_
    refine W.widen (k := 13) (n := 156) (Nat.le_of_ble_eq_true rfl) (Nat.le_of_ble_eq_true rfl) ?_
    exact mk_reti C0 hw hW hS dX9_decide_30
def wJ_X9_whyNow_45 (σ : gk_C) (NP3 : Nat → Option (Nat → Int32)) (Q : Int32 → Prop) (x1 : Int32) (x2 : Int32) (x3 : Int32) : Prop := (vp_in x1 12 ∧ ∃ fe50, NP3 x1.toNatClampNeg = some fe50 ∧ w_X9_deciding σ x1 fe50 x2 x3 (σ.2 2) (fun r57 => Q r57))
def w_X9_whyNow (σ : gk_C) (a0 : Int32) (a1 : Int32) (a2 : Int32) (NP3 : Nat → Option (Nat → Int32)) (a4 : Int32) (Q : Int32 → Prop) : Prop := (w_X9_decided σ a0 a1 a2 NP3 a4 (σ.2 2) (fun r12 => ((¬ r12 = 3) → (((r12 = 1) → (wJ_X9_whyNow_45 σ NP3 Q a0 a1 a2)) ∧ ((¬ r12 = 1) → (((¬ r12 = 2) → (Q (-1))) ∧ ((r12 = 2) → (wJ_X9_whyNow_45 σ NP3 Q a0 a1 a2)))))) ∧ ((r12 = 3) → (w_X9_granting σ a4 a0 a1 a2 (fun r29 => Q r29)))))
abbrev rmX9_whyNow : Room := { frames := 7, cells := 0, slots := 0, locals := 173 }
set_option maxHeartbeats 4000000 in
set_option maxRecDepth 100000 in
theorem tJ_X9_whyNow_45 {p : Program} {l : Launch} {e : Env} {s : State} {m : MethodId} {args : Array Value} {below : List Frame} {meth : Method} {c : Code} {D : va_G} {cI cZ cG cL : ClassId} {am : Nat → Nat} (C0 : gk_F p s m args meth c cX9_whyNow 7 (some .int) RX9) (hK : gk_K D cI cZ cG cL s) {σ : gk_C} {NP3 : Nat → Option (Nat → Int32)} {qP3 BP3 : Nat} (hxP3 : mk_N D cI cG am qP3 BP3 NP3 s.heap) {Q : Int32 → Prop} : ∀ (x1 : Int32) (x2 : Int32) (x3 : Int32), wJ_X9_whyNow_45 σ NP3 Q x1 x2 x3 → ∀ (H : Heap) (locs : List Loc), mk_V D cI cZ am σ H → va_S (mk_A am s.heap.size) s.heap H locs → ∀ (ls : Array Slot), lv_has ls 7 [(0, .ref (am 38)), (1, .int x1), (2, .int x2), (3, .int x3), (4, .ref qP3)] → W p l e rmX9_whyNow s m args below meth c H locs 0 0 (MQ below (va_Qi (fun r u => u = σ ∧ Q r) (mk_B (mk_V D cI cZ am)) (mk_A am s.heap.size)) args s 0 0 (mk_A am s.heap.size)) (F0 m 45 ls []) := by
  obtain ⟨hx, hb, hml, hown, hts, hr, hlocks⟩ := id C0
  intro x1 x2 x3 hw H locs hW hS  ls hl
  refine lv_aload_n hx hb dX9_whyNow_45 rfl (lv_at hl 0 rfl) ?_
  refine lv_iload_n hx hb dX9_whyNow_46 rfl (lv_at hl 1 rfl) ?_
  refine lv_aload hx hb dX9_whyNow_47 (lv_at hl 4 rfl) ?_
  refine lv_iload_n hx hb dX9_whyNow_49 rfl (lv_at hl 1 rfl) ?_
  obtain ⟨hin, fe50, hfe50, hw⟩ := hw
  refine mk_aald hx hb hK.1 2 (hxP3.S hS) rfl hin hfe50 dX9_whyNow_50 (fun qe50 hde50 _ _ => ?_)
  refine lv_iload_n hx hb dX9_whyNow_51 rfl (lv_at hl 2 rfl) ?_
  refine lv_iload_n hx hb dX9_whyNow_52 rfl (lv_at hl 3 rfl) ?_
  refine lv_aload_n hx hb dX9_whyNow_53 rfl (lv_at hl 0 rfl) ?_
  refine gk_get hx hb hts iwX9 hown hK.1 (mk_obj hW) rfl 2 (by decide) (hts _ fl_X9_171) (fun _ h9 => h9) rfl dX9_whyNow_54 ?_
  refine mk_callRi ⟨hx, hb, hml, hown, hts⟩ (c_X9_deciding l D cI cZ cG cL am hw) (cwV 5 hts (gk_gV ml_X9_225 im_X9_deciding se_X9_deciding in_X9 co_X9_deciding) rfl rfl rfl (by decide +kernel) ⟨Nat.le_of_ble_eq_true rfl, Nat.le_of_ble_eq_true rfl⟩) (gk_recv hK.1 (mk_obj hW) rfl) hW hK ⟨hde50, trivial⟩ hS rfl hl.1 (rest := []) rfl (lv_room (Nat.le_of_ble_eq_true rfl)) dX9_whyNow_57 ⟨Nat.le_of_ble_eq_true rfl, Nat.le_of_ble_eq_true rfl⟩ (fun r57 H locs hw hW _ hk hS => ?_)
  refine lv_goto (tgt := 64) hx hb dX9_whyNow_60 (by decide) ?_
  refine W.widen (k := 0) (n := 0) (Nat.le_of_ble_eq_true rfl) (Nat.le_of_ble_eq_true rfl) ?_
  exact mk_reti C0 ⟨rfl, hw⟩ hW hS dX9_whyNow_64
set_option maxHeartbeats 4000000 in
set_option maxRecDepth 100000 in
theorem c_X9_whyNow (l : Launch) (D : va_G) (cI cZ cG cL : ClassId) (am : Nat → Nat) {σ : gk_C} {a0 : Int32} {a1 : Int32} {a2 : Int32} {NP3 : Nat → Option (Nat → Int32)} {a4 : Int32} {qP3 BP3 : Nat} {Q : Int32 → Prop} {sz : Nat} (hw : w_X9_whyNow σ a0 a1 a2 NP3 a4 Q) : Met l yX9_whyNow wsX9_whyNow rmX9_whyNow (mk_Pc (mk_V D cI cZ am) D cI cZ cG cL [.ref (am 38), .int a0, .int a1, .int a2, .ref qP3, .int a4] sz σ (fun H => mk_N D cI cG am qP3 BP3 NP3 H ∧ True)) (va_Qi (fun r u => u = σ ∧ Q r) (mk_B (mk_V D cI cZ am)) (mk_A am sz)) 0 0 (mk_A am sz) := by
  refine Met.ofW (cc := cX9_whyNow) (maxL := 7) (ret := (some .int)) (by decide) rfl ?_
  intro p e s m args below meth c s₁ B hml0 hv0
  obtain ⟨rfl, hsz, hW, hK, hX⟩ := hv0
  subst hsz
  obtain ⟨hxP3, _⟩ := hX
  have C0 : gk_F p s m ([.ref (am 38), .int a0, .int a1, .int a2, .ref qP3, .int a4] : List Value).toArray meth c cX9_whyNow 7 (some .int) RX9 := ⟨B.exec, B.bytes, hml0, findClass_of_methodNamed B.named, fun w hw => atoms_spec (ws := wsX9_whyNow) B.pre w (List.mem_cons_of_mem _ hw), B.returns, B.notSynchronized⟩
  obtain ⟨hx, hb, hml, hown, hts, hr, hlocks⟩ := id C0
  have hS : va_S (mk_A am s.heap.size) s.heap s.heap [] := va_S.rf
  have hl := lv_entry ([.ref (am 38), .int a0, .int a1, .int a2, .ref qP3, .int a4]) (n := 7) (Nat.le_of_ble_eq_true rfl)
  rw [lg_entry_eq]
  generalize (lg_sl ([.ref (am 38), .int a0, .int a1, .int a2, .ref qP3, .int a4]) ++ List.replicate (7 - (lg_sl ([.ref (am 38), .int a0, .int a1, .int a2, .ref qP3, .int a4])).length) Slot.unset).toArray = ls at hl ⊢
  have hl : lv_has ls 7 [(0, .ref (am 38)), (1, .int a0), (2, .int a1), (3, .int a2), (4, .ref qP3), (5, .int a4)] := hl
  show W p l e rmX9_whyNow s m _ below meth c s.heap [] 0 0 _ _
  refine lv_aload_n hx hb dX9_whyNow_0 rfl (lv_at hl 0 rfl) ?_
  refine lv_iload_n hx hb dX9_whyNow_1 rfl (lv_at hl 1 rfl) ?_
  refine lv_iload_n hx hb dX9_whyNow_2 rfl (lv_at hl 2 rfl) ?_
  refine lv_iload_n hx hb dX9_whyNow_3 rfl (lv_at hl 3 rfl) ?_
  refine lv_aload hx hb dX9_whyNow_4 (lv_at hl 4 rfl) ?_
  refine lv_iload hx hb dX9_whyNow_6 (lv_at hl 5 rfl) ?_
  refine lv_aload_n hx hb dX9_whyNow_8 rfl (lv_at hl 0 rfl) ?_
  refine gk_get hx hb hts iwX9 hown hK.1 (mk_obj hW) rfl 2 (by decide) (hts _ fl_X9_171) (fun _ h9 => h9) rfl dX9_whyNow_9 ?_
  refine mk_callRi ⟨hx, hb, hml, hown, hts⟩ (c_X9_decided l D cI cZ cG cL am hw) (cwV 6 hts (gk_gV ml_X9_255 im_X9_decided se_X9_decided in_X9 co_X9_decided) rfl rfl rfl (by decide +kernel) ⟨Nat.le_of_ble_eq_true rfl, Nat.le_of_ble_eq_true rfl⟩) (gk_recv hK.1 (mk_obj hW) rfl) hW hK ⟨(hxP3.S hS), trivial⟩ hS rfl hl.1 (rest := []) rfl (lv_room (Nat.le_of_ble_eq_true rfl)) dX9_whyNow_12 ⟨Nat.le_of_ble_eq_true rfl, Nat.le_of_ble_eq_true rfl⟩ (fun r12 H locs hw hW _ hk hS => ?_)
  refine lv_istore (lv' := [(6, .int r12), (0, .ref (am 38)), (1, .int a0), (2, .int a1), (3, .int a2), (4, .ref qP3), (5, .int a4)]) hx hb dX9_whyNow_15 hl (by decide) rfl (fun ls hl => ?_)
  refine lv_iload hx hb dX9_whyNow_17 (lv_at hl 0 rfl) ?_
  refine lv_iconst (v := 3) hx hb dX9_whyNow_19 (by decide) ?_
  refine lv_icmp_ne (tgt := 33) hx hb dX9_whyNow_20 (by decide) (fun c20 => ?_) (fun c20 => ?_)
  · have hw := hw.1 c20
    refine lv_iload hx hb dX9_whyNow_33 (lv_at hl 0 rfl) ?_
    refine lv_iconst (v := 1) hx hb dX9_whyNow_35 (by decide) ?_
    refine lv_icmp_eq (tgt := 45) hx hb dX9_whyNow_36 (by decide) (fun c36 => ?_) (fun c36 => ?_)
    · have hw := hw.1 c36
      refine tJ_X9_whyNow_45 C0 hK hxP3  a0 a1 a2 hw _ _ hW hS  _ (lv_sub hl [1, 2, 3, 4, 5] rfl)
    · have hw := hw.2 c36
      refine lv_iload hx hb dX9_whyNow_39 (lv_at hl 0 rfl) ?_
      refine lv_iconst (v := 2) hx hb dX9_whyNow_41 (by decide) ?_
      refine lv_icmp_ne (tgt := 63) hx hb dX9_whyNow_42 (by decide) (fun c42 => ?_) (fun c42 => ?_)
      · have hw := hw.1 c42
        refine lv_iconst (v := (-1)) hx hb dX9_whyNow_63 (by decide) ?_
        refine W.widen (k := 0) (n := 0) (Nat.le_of_ble_eq_true rfl) (Nat.le_of_ble_eq_true rfl) ?_
        exact mk_reti C0 ⟨rfl, hw⟩ hW hS dX9_whyNow_64
      · have hw := hw.2 c42
        refine tJ_X9_whyNow_45 C0 hK hxP3  a0 a1 a2 hw _ _ hW hS  _ (lv_sub hl [1, 2, 3, 4, 5] rfl)
  · have hw := hw.2 c20
    refine lv_aload_n hx hb dX9_whyNow_23 rfl (lv_at hl 1 rfl) ?_
    refine lv_iload hx hb dX9_whyNow_24 (lv_at hl 6 rfl) ?_
    refine lv_iload_n hx hb dX9_whyNow_26 rfl (lv_at hl 2 rfl) ?_
    refine lv_iload_n hx hb dX9_whyNow_27 rfl (lv_at hl 3 rfl) ?_
    refine lv_iload_n hx hb dX9_whyNow_28 rfl (lv_at hl 4 rfl) ?_
    refine mk_callRi ⟨hx, hb, hml, hown, hts⟩ (c_X9_granting l D cI cZ cG cL am hw) (cwV 4 hts (gk_gV ml_X9_243 im_X9_granting se_X9_granting in_X9 co_X9_granting) rfl rfl rfl (by decide +kernel) ⟨Nat.le_of_ble_eq_true rfl, Nat.le_of_ble_eq_true rfl⟩) (gk_recv hK.1 (mk_obj hW) rfl) hW hK trivial hS rfl hl.1 (rest := []) rfl (lv_room (Nat.le_of_ble_eq_true rfl)) dX9_whyNow_29 ⟨Nat.le_of_ble_eq_true rfl, Nat.le_of_ble_eq_true rfl⟩ (fun r29 H locs hw hW _ hk hS => ?_)
    refine W.widen (k := 0) (n := 0) (Nat.le_of_ble_eq_true rfl) (Nat.le_of_ble_eq_true rfl) ?_
    exact mk_reti C0 ⟨rfl, hw⟩ hW hS dX9_whyNow_32
def w_X9_why (σ : gk_C) (a0 : Int32) (a1 : Int32) (a2 : Int32) (Q : Int32 → gk_C → Prop) : Prop := (w_X9_isQuestion (gk_s σ 0 0) a0 a1 a2 (fun r9 => ((¬ r9 = 0) → (w_X9_allNears (gk_s σ 0 0) (fun Nc22 => w_X9_good (gk_s σ 0 0) Nc22 ((gk_s σ 0 0).2 2) (fun r40 => w_X9_whyNow (gk_s σ 0 0) a0 a1 a2 Nc22 r40 (fun r43 => Q r43 (gk_s σ 0 0)))))) ∧ ((r9 = 0) → (w_X9_no (gk_s σ 0 0) 1 (fun r17 σ17 => Q r17 σ17)))))
abbrev rmX9_why : Room := { frames := 8, cells := 13, slots := 156, locals := 199 }
set_option maxHeartbeats 4000000 in
set_option maxRecDepth 100000 in
theorem c_X9_why (l : Launch) (D : va_G) (cI cZ cG cL : ClassId) (am : Nat → Nat) {σ : gk_C} {a0 : Int32} {a1 : Int32} {a2 : Int32} {Q : Int32 → gk_C → Prop} {sz : Nat} (hw : w_X9_why σ a0 a1 a2 Q) : Met l yX9_why wsX9_why rmX9_why (mk_Pc (mk_V D cI cZ am) D cI cZ cG cL [.ref (am 38), .int a0, .int a1, .int a2] sz σ (fun _ => True)) (va_Qi (fun r u => Q r u) (mk_B (mk_V D cI cZ am)) (mk_A am sz)) 13 156 (mk_A am sz) := by
  refine Met.ofW (cc := cX9_why) (maxL := 5) (ret := (some .int)) (by decide) rfl ?_
  intro p e s m args below meth c s₁ B hml0 hv0
  obtain ⟨rfl, hsz, hW, hK, hX⟩ := hv0
  subst hsz
  have C0 : gk_F p s m ([.ref (am 38), .int a0, .int a1, .int a2] : List Value).toArray meth c cX9_why 5 (some .int) RX9 := ⟨B.exec, B.bytes, hml0, findClass_of_methodNamed B.named, fun w hw => atoms_spec (ws := wsX9_why) B.pre w (List.mem_cons_of_mem _ hw), B.returns, B.notSynchronized⟩
  obtain ⟨hx, hb, hml, hown, hts, hr, hlocks⟩ := id C0
  have hS : va_S (mk_A am s.heap.size) s.heap s.heap [] := va_S.rf
  have hl := lv_entry ([.ref (am 38), .int a0, .int a1, .int a2]) (n := 5) (Nat.le_of_ble_eq_true rfl)
  rw [lg_entry_eq]
  generalize (lg_sl ([.ref (am 38), .int a0, .int a1, .int a2]) ++ List.replicate (5 - (lg_sl ([.ref (am 38), .int a0, .int a1, .int a2])).length) Slot.unset).toArray = ls at hl ⊢
  have hl : lv_has ls 5 [(0, .ref (am 38)), (1, .int a0), (2, .int a1), (3, .int a2)] := hl
  show W p l e rmX9_why s m _ below meth c s.heap [] 0 0 _ _
  refine lv_aload_n hx hb dX9_why_0 rfl (lv_at hl 0 rfl) ?_
  refine lv_iconst (v := 0) hx hb dX9_why_1 (by decide) ?_
  refine gk_putf (ty := .int) (v := .int 0) hx hb hts iwX9 tyX9 tyX9_ok nmX9 hown hK.1 hS (mk_A.in List.mem_cons_self) (mk_obj hW) rfl 0 (by decide) (hts _ fl_X9_102) (fun _ h9 => h9) rfl (by decide +kernel) rfl rfl (Nat.le_of_ble_eq_true rfl) dX9_why_2 (fun H locs h1 _ oq hS => ?_)
  have hW := hW.setS (i := 0) (v := 0) h1 oq
  refine lv_aload_n hx hb dX9_why_5 rfl (lv_at hl 0 rfl) ?_
  refine lv_iload_n hx hb dX9_why_6 rfl (lv_at hl 1 rfl) ?_
  refine lv_iload_n hx hb dX9_why_7 rfl (lv_at hl 2 rfl) ?_
  refine lv_iload_n hx hb dX9_why_8 rfl (lv_at hl 3 rfl) ?_
  refine mk_callRi ⟨hx, hb, hml, hown, hts⟩ (c_X9_isQuestion l D cI cZ cG cL am hw) (cwV 3 hts (gk_gV ml_X9_196 im_X9_isQuestion se_X9_isQuestion in_X9 co_X9_isQuestion) rfl rfl rfl (by decide +kernel) ⟨Nat.le_of_ble_eq_true rfl, Nat.le_of_ble_eq_true rfl⟩) (gk_recv hK.1 (mk_obj hW) rfl) hW hK trivial hS rfl hl.1 (rest := []) rfl (lv_room (Nat.le_of_ble_eq_true rfl)) dX9_why_9 ⟨Nat.le_of_ble_eq_true rfl, Nat.le_of_ble_eq_true rfl⟩ (fun r9 H locs hw hW _ hk hS => ?_)
  refine lv_if_ne (tgt := 21) hx hb dX9_why_12 (by decide) (fun c12 => ?_) (fun c12 => ?_)
  · have hw := hw.1 c12
    refine lv_aload_n hx hb dX9_why_21 rfl (lv_at hl 0 rfl) ?_
    refine mk_callVb ⟨hx, hb, hml, hown, hts⟩ (c_X9_allNears l D cI cZ cG cL am hw) (cwV 0 hts (gk_gV ml_X9_247 im_X9_allNears se_X9_allNears in_X9 co_X9_allNears) rfl rfl rfl (by decide +kernel) ⟨Nat.le_of_ble_eq_true rfl, Nat.le_of_ble_eq_true rfl⟩) (gk_recv hK.1 (mk_obj hW) rfl) hW hK trivial hS rfl hl.1 (rest := []) rfl (lv_room (Nat.le_of_ble_eq_true rfl)) dX9_why_22 ⟨Nat.le_of_ble_eq_true rfl, Nat.le_of_ble_eq_true rfl⟩ (fun Nc22 qc22 H locs hw hW hdc22 hb0 hgc22 _ hk hS => ?_)
    refine lv_astore (lv' := [(4, .ref qc22), (0, .ref (am 38)), (1, .int a0), (2, .int a1), (3, .int a2)]) hx hb dX9_why_25 hl (by decide) rfl (fun ls hl => ?_)
    refine lv_aload_n hx hb dX9_why_27 rfl (lv_at hl 1 rfl) ?_
    refine lv_iload_n hx hb dX9_why_28 rfl (lv_at hl 2 rfl) ?_
    refine lv_iload_n hx hb dX9_why_29 rfl (lv_at hl 3 rfl) ?_
    refine lv_iload_n hx hb dX9_why_30 rfl (lv_at hl 4 rfl) ?_
    refine lv_aload hx hb dX9_why_31 (lv_at hl 0 rfl) ?_
    refine lv_aload_n hx hb dX9_why_33 rfl (lv_at hl 1 rfl) ?_
    refine lv_aload hx hb dX9_why_34 (lv_at hl 0 rfl) ?_
    refine lv_aload_n hx hb dX9_why_36 rfl (lv_at hl 1 rfl) ?_
    refine gk_get hx hb hts iwX9 hown hK.1 (mk_obj hW) rfl 2 (by decide) (hts _ fl_X9_171) (fun _ h9 => h9) rfl dX9_why_37 ?_
    refine mk_callRi ⟨hx, hb, hml, hown, hts⟩ (c_X9_good l D cI cZ cG cL am hw) (cwV 2 hts (gk_gV ml_X9_251 im_X9_good se_X9_good in_X9 co_X9_good) rfl rfl rfl (by decide +kernel) ⟨Nat.le_of_ble_eq_true rfl, Nat.le_of_ble_eq_true rfl⟩) (gk_recv hK.1 (mk_obj hW) rfl) hW hK ⟨hdc22, trivial⟩ hS rfl hl.1 (rest := [.ref qc22, .int a2, .int a1, .int a0, .ref (am 38)]) rfl (lv_room (Nat.le_of_ble_eq_true rfl)) dX9_why_40 ⟨Nat.le_of_ble_eq_true rfl, Nat.le_of_ble_eq_true rfl⟩ (fun r40 H locs hw hW _ hk hS => ?_)
    have hdc22 := hdc22.kept hk
    refine mk_callRi ⟨hx, hb, hml, hown, hts⟩ (c_X9_whyNow l D cI cZ cG cL am hw) (cwV 5 hts (gk_gV ml_X9_265 im_X9_whyNow se_X9_whyNow in_X9 co_X9_whyNow) rfl rfl rfl (by decide +kernel) ⟨Nat.le_of_ble_eq_true rfl, Nat.le_of_ble_eq_true rfl⟩) (gk_recv hK.1 (mk_obj hW) rfl) hW hK ⟨hdc22, trivial⟩ hS rfl hl.1 (rest := []) rfl (lv_room (Nat.le_of_ble_eq_true rfl)) dX9_why_43 ⟨Nat.le_of_ble_eq_true rfl, Nat.le_of_ble_eq_true rfl⟩ (fun r43 H locs hw hW _ hk hS => ?_)
    have hdc22 := hdc22.kept hk
    refine W.widen (k := 13) (n := 156) (Nat.le_of_ble_eq_true rfl) (Nat.le_of_ble_eq_true rfl) ?_
    exact mk_reti C0 hw hW hS dX9_why_46
  · have hw := hw.2 c12
    refine lv_aload_n hx hb dX9_why_15 rfl (lv_at hl 0 rfl) ?_
    refine lv_iconst (v := 1) hx hb dX9_why_16 (by decide) ?_
    refine mk_callVi ⟨hx, hb, hml, hown, hts⟩ (c_X9_no l D cI cZ cG cL am hw) (cwV 1 hts (gk_gV ml_X9_139 im_X9_no se_X9_no in_X9 co_X9_no) rfl rfl rfl (by decide +kernel) ⟨Nat.le_of_ble_eq_true rfl, Nat.le_of_ble_eq_true rfl⟩) (gk_recv hK.1 (mk_obj hW) rfl) hW hK trivial hS rfl hl.1 (rest := []) rfl (lv_room (Nat.le_of_ble_eq_true rfl)) dX9_why_17 ⟨Nat.le_of_ble_eq_true rfl, Nat.le_of_ble_eq_true rfl⟩ (fun r17 σ17 H locs hw hW _ hk hS => ?_)
    refine W.widen (k := 13) (n := 156) (Nat.le_of_ble_eq_true rfl) (Nat.le_of_ble_eq_true rfl) ?_
    exact mk_reti C0 hw hW hS dX9_why_20
def w_X9_access (σ : gk_C) (a0 : Int32) (a1 : Int32) (a2 : Int32) (Q : Int32 → gk_C → Prop) : Prop := (w_X9_isQuestion (gk_s σ 0 0) a0 a1 a2 (fun r9 => ((¬ r9 = 0) → (w_X9_decideNow (gk_s σ 0 0) a0 a1 a2 (fun r25 => vp_in r25 6 ∧ vp_in r25 6 ∧ ∀ σ40 : gk_C, σ40 = mk_st (gk_s σ 0 0) 33 r25 (((gk_s σ 0 0).1 33 r25.toNatClampNeg) + 1) → w_X9_isAllowed r25 (fun r43 => ((r43 = 0) → (Q r25 σ40)) ∧ ((¬ r43 = 0) → (vp_in ((a0 * 24) + a2) 288 ∧ vp_in ((a0 * 24) + a2) 288 ∧ ∀ σ65 : gk_C, σ65 = mk_st σ40 34 ((a0 * 24) + a2) ((σ40.1 34 ((a0 * 24) + a2).toNatClampNeg) ||| (1 <<< (a1 &&& 31))) → Q r25 σ65)))))) ∧ ((r9 = 0) → (w_X9_no (gk_s σ 0 0) 1 (fun r17 σ17 => Q r17 σ17)))))
abbrev rmX9_access : Room := { frames := 9, cells := 13, slots := 156, locals := 217 }
set_option maxHeartbeats 4000000 in
set_option maxRecDepth 100000 in
theorem c_X9_access (l : Launch) (D : va_G) (cI cZ cG cL : ClassId) (am : Nat → Nat) {σ : gk_C} {a0 : Int32} {a1 : Int32} {a2 : Int32} {Q : Int32 → gk_C → Prop} {sz : Nat} (hw : w_X9_access σ a0 a1 a2 Q) : Met l yX9_access wsX9_access rmX9_access (mk_Pc (mk_V D cI cZ am) D cI cZ cG cL [.ref (am 38), .int a0, .int a1, .int a2] sz σ (fun _ => True)) (va_Qi (fun r u => Q r u) (mk_B (mk_V D cI cZ am)) (mk_A am sz)) 13 156 (mk_A am sz) := by
  refine Met.ofW (cc := cX9_access) (maxL := 5) (ret := (some .int)) (by decide) rfl ?_
  intro p e s m args below meth c s₁ B hml0 hv0
  obtain ⟨rfl, hsz, hW, hK, hX⟩ := hv0
  subst hsz
  have C0 : gk_F p s m ([.ref (am 38), .int a0, .int a1, .int a2] : List Value).toArray meth c cX9_access 5 (some .int) RX9 := ⟨B.exec, B.bytes, hml0, findClass_of_methodNamed B.named, fun w hw => atoms_spec (ws := wsX9_access) B.pre w (List.mem_cons_of_mem _ hw), B.returns, B.notSynchronized⟩
  obtain ⟨hx, hb, hml, hown, hts, hr, hlocks⟩ := id C0
  have hS : va_S (mk_A am s.heap.size) s.heap s.heap [] := va_S.rf
  have hl := lv_entry ([.ref (am 38), .int a0, .int a1, .int a2]) (n := 5) (Nat.le_of_ble_eq_true rfl)
  rw [lg_entry_eq]
  generalize (lg_sl ([.ref (am 38), .int a0, .int a1, .int a2]) ++ List.replicate (5 - (lg_sl ([.ref (am 38), .int a0, .int a1, .int a2])).length) Slot.unset).toArray = ls at hl ⊢
  have hl : lv_has ls 5 [(0, .ref (am 38)), (1, .int a0), (2, .int a1), (3, .int a2)] := hl
  show W p l e rmX9_access s m _ below meth c s.heap [] 0 0 _ _
  refine lv_aload_n hx hb dX9_access_0 rfl (lv_at hl 0 rfl) ?_
  refine lv_iconst (v := 0) hx hb dX9_access_1 (by decide) ?_
  refine gk_putf (ty := .int) (v := .int 0) hx hb hts iwX9 tyX9 tyX9_ok nmX9 hown hK.1 hS (mk_A.in List.mem_cons_self) (mk_obj hW) rfl 0 (by decide) (hts _ fl_X9_102) (fun _ h9 => h9) rfl (by decide +kernel) rfl rfl (Nat.le_of_ble_eq_true rfl) dX9_access_2 (fun H locs h1 _ oq hS => ?_)
  have hW := hW.setS (i := 0) (v := 0) h1 oq
  refine lv_aload_n hx hb dX9_access_5 rfl (lv_at hl 0 rfl) ?_
  refine lv_iload_n hx hb dX9_access_6 rfl (lv_at hl 1 rfl) ?_
  refine lv_iload_n hx hb dX9_access_7 rfl (lv_at hl 2 rfl) ?_
  refine lv_iload_n hx hb dX9_access_8 rfl (lv_at hl 3 rfl) ?_
  refine mk_callRi ⟨hx, hb, hml, hown, hts⟩ (c_X9_isQuestion l D cI cZ cG cL am hw) (cwV 3 hts (gk_gV ml_X9_196 im_X9_isQuestion se_X9_isQuestion in_X9 co_X9_isQuestion) rfl rfl rfl (by decide +kernel) ⟨Nat.le_of_ble_eq_true rfl, Nat.le_of_ble_eq_true rfl⟩) (gk_recv hK.1 (mk_obj hW) rfl) hW hK trivial hS rfl hl.1 (rest := []) rfl (lv_room (Nat.le_of_ble_eq_true rfl)) dX9_access_9 ⟨Nat.le_of_ble_eq_true rfl, Nat.le_of_ble_eq_true rfl⟩ (fun r9 H locs hw hW _ hk hS => ?_)
  refine lv_if_ne (tgt := 21) hx hb dX9_access_12 (by decide) (fun c12 => ?_) (fun c12 => ?_)
  · have hw := hw.1 c12
    refine lv_aload_n hx hb dX9_access_21 rfl (lv_at hl 0 rfl) ?_
    refine lv_iload_n hx hb dX9_access_22 rfl (lv_at hl 1 rfl) ?_
    refine lv_iload_n hx hb dX9_access_23 rfl (lv_at hl 2 rfl) ?_
    refine lv_iload_n hx hb dX9_access_24 rfl (lv_at hl 3 rfl) ?_
    refine mk_callRi ⟨hx, hb, hml, hown, hts⟩ (c_X9_decideNow l D cI cZ cG cL am hw) (cwV 3 hts (gk_gV ml_X9_262 im_X9_decideNow se_X9_decideNow in_X9 co_X9_decideNow) rfl rfl rfl (by decide +kernel) ⟨Nat.le_of_ble_eq_true rfl, Nat.le_of_ble_eq_true rfl⟩) (gk_recv hK.1 (mk_obj hW) rfl) hW hK trivial hS rfl hl.1 (rest := []) rfl (lv_room (Nat.le_of_ble_eq_true rfl)) dX9_access_25 ⟨Nat.le_of_ble_eq_true rfl, Nat.le_of_ble_eq_true rfl⟩ (fun r25 H locs hw hW _ hk hS => ?_)
    refine lv_istore (lv' := [(4, .int r25), (0, .ref (am 38)), (1, .int a0), (2, .int a1), (3, .int a2)]) hx hb dX9_access_28 hl (by decide) rfl (fun ls hl => ?_)
    refine lv_aload_n hx hb dX9_access_30 rfl (lv_at hl 1 rfl) ?_
    refine gk_get hx hb hts iwX9 hown hK.1 (mk_obj hW) rfl 33 (by decide) (hts _ fl_X9_87) (fun _ h9 => h9) rfl dX9_access_31 ?_
    refine lv_iload hx hb dX9_access_34 (lv_at hl 0 rfl) ?_
    refine lv_dup2_11 hx hb dX9_access_36 rfl rfl ?_
    obtain ⟨hin, hw⟩ := hw
    refine gk_iald hx hb hK.1 0 (mk_arr hW (k := 33) (by decide) (by decide) (by decide)) rfl hin dX9_access_37 ?_
    refine lv_iconst (v := 1) hx hb dX9_access_38 (by decide) ?_
    refine lv_iadd hx hb dX9_access_39 ?_
    obtain ⟨hin, hw⟩ := hw
    refine gk_iast hx hb hK.1 hS (mk_A.in (k := 33) (by decide)) 0 (mk_arr hW (k := 33) (by decide) (by decide) (by decide)) rfl hin dX9_access_40 (fun H locs h1 _ oq hS => ?_)
    have hW := hW.setR (k := 33) (by decide) (by decide) (by decide) h1 oq
    obtain ⟨σ40, eσ40⟩ : ∃ z, z = mk_st (gk_s σ 0 0) 33 r25 (((gk_s σ 0 0).1 33 r25.toNatClampNeg) + 1) := ⟨_, rfl⟩
    have hW := mk_stW (Wd := mk_V D cI cZ am) eσ40 hW
    have hw := hw σ40 eσ40
    refine lv_iload hx hb dX9_access_41 (lv_at hl 0 rfl) ?_
    refine gk_callSi ⟨hx, hb, hml, hown, hts⟩ (c_X9_isAllowed l hw) (va_cwS 1 hts (gk_gS ml_X9_269 st_X9_isAllowed in_X9 co_X9_isAllowed) rfl rfl rfl (by decide +kernel) ⟨Nat.le_of_ble_eq_true rfl, Nat.le_of_ble_eq_true rfl⟩) hS rfl hl.1 (rest := []) rfl (lv_room (Nat.le_of_ble_eq_true rfl)) dX9_access_43 ⟨Nat.le_of_ble_eq_true rfl, Nat.le_of_ble_eq_true rfl⟩ (fun r43 H locs hw _ hk hS => ?_)
    have hW := hW.keptAll hk
    refine lv_if_eq (tgt := 66) hx hb dX9_access_46 (by decide) (fun c46 => ?_) (fun c46 => ?_)
    · have hw := hw.1 c46
      refine lv_iload hx hb dX9_access_66 (lv_at hl 0 rfl) ?_
      refine W.widen (k := 13) (n := 156) (Nat.le_of_ble_eq_true rfl) (Nat.le_of_ble_eq_true rfl) ?_
      exact mk_reti C0 hw hW hS dX9_access_68
    · have hw := hw.2 c46
      refine lv_aload_n hx hb dX9_access_49 rfl (lv_at hl 1 rfl) ?_
      refine gk_get hx hb hts iwX9 hown hK.1 (mk_obj hW) rfl 34 (by decide) (hts _ fl_X9_90) (fun _ h9 => h9) rfl dX9_access_50 ?_
      refine lv_iload_n hx hb dX9_access_53 rfl (lv_at hl 2 rfl) ?_
      refine lv_bipush (v := 24) hx hb dX9_access_54 (by decide) ?_
      refine lv_imul hx hb dX9_access_56 ?_
      refine lv_iload_n hx hb dX9_access_57 rfl (lv_at hl 4 rfl) ?_
      refine lv_iadd hx hb dX9_access_58 ?_
      refine lv_dup2_11 hx hb dX9_access_59 rfl rfl ?_
      obtain ⟨hin, hw⟩ := hw
      refine gk_iald hx hb hK.1 0 (mk_arr hW (k := 34) (by decide) (by decide) (by decide)) rfl hin dX9_access_60 ?_
      refine lv_iconst (v := 1) hx hb dX9_access_61 (by decide) ?_
      refine lv_iload_n hx hb dX9_access_62 rfl (lv_at hl 3 rfl) ?_
      refine lv_ishl hx hb dX9_access_63 ?_
      refine lv_ior hx hb dX9_access_64 ?_
      obtain ⟨hin, hw⟩ := hw
      refine gk_iast hx hb hK.1 hS (mk_A.in (k := 34) (by decide)) 0 (mk_arr hW (k := 34) (by decide) (by decide) (by decide)) rfl hin dX9_access_65 (fun H locs h1 _ oq hS => ?_)
      have hW := hW.setR (k := 34) (by decide) (by decide) (by decide) h1 oq
      obtain ⟨σ65, eσ65⟩ : ∃ z, z = mk_st σ40 34 ((a0 * 24) + a2) ((σ40.1 34 ((a0 * 24) + a2).toNatClampNeg) ||| (1 <<< (a1 &&& 31))) := ⟨_, rfl⟩
      have hW := mk_stW (Wd := mk_V D cI cZ am) eσ65 hW
      have hw := hw σ65 eσ65
      refine lv_iload hx hb dX9_access_66 (lv_at hl 0 rfl) ?_
      refine W.widen (k := 13) (n := 156) (Nat.le_of_ble_eq_true rfl) (Nat.le_of_ble_eq_true rfl) ?_
      exact mk_reti C0 hw hW hS dX9_access_68
  · have hw := hw.2 c12
    refine lv_aload_n hx hb dX9_access_15 rfl (lv_at hl 0 rfl) ?_
    refine lv_iconst (v := 1) hx hb dX9_access_16 (by decide) ?_
    refine mk_callVi ⟨hx, hb, hml, hown, hts⟩ (c_X9_no l D cI cZ cG cL am hw) (cwV 1 hts (gk_gV ml_X9_139 im_X9_no se_X9_no in_X9 co_X9_no) rfl rfl rfl (by decide +kernel) ⟨Nat.le_of_ble_eq_true rfl, Nat.le_of_ble_eq_true rfl⟩) (gk_recv hK.1 (mk_obj hW) rfl) hW hK trivial hS rfl hl.1 (rest := []) rfl (lv_room (Nat.le_of_ble_eq_true rfl)) dX9_access_17 ⟨Nat.le_of_ble_eq_true rfl, Nat.le_of_ble_eq_true rfl⟩ (fun r17 σ17 H locs hw hW _ hk hS => ?_)
    refine W.widen (k := 13) (n := 156) (Nat.le_of_ble_eq_true rfl) (Nat.le_of_ble_eq_true rfl) ?_
    exact mk_reti C0 hw hW hS dX9_access_20
def wJ_X9_who_20 (Q : Int32 → gk_C → Prop) (σ : gk_C) : Prop := (w_X9_no σ 1 (fun r22 σ22 => Q r22 σ22))
def wJ_X9_who_88 (k48 : gk_C → Int32 → Int32 → Int32 → Int32 → Int32 → (Nat → Option (Nat → Int32)) → Prop) (σ : gk_C) (x1 : Int32) (x2 : Int32) (x4 : Int32) (x6 : Int32) (t0 : Int32) (t1 : Int32) (Nc27 : Nat → Option (Nat → Int32)) : Prop := (k48 σ x1 x2 x4 (t0 ||| t1) (x6 + 1) Nc27)
def wL_X9_who_48 (Q : Int32 → gk_C → Prop) : Nat → gk_C → Int32 → Int32 → Int32 → Int32 → Int32 → (Nat → Option (Nat → Int32)) → Prop
  | 0 => fun _ _ _ _ _ _ _ => False
  | n + 1 => fun σ x1 x2 x4 x5 x6 Nc27 => ((((σ.2 3) ≤ x6) → (Q x5 σ)) ∧ ((¬ (σ.2 3) ≤ x6) → (w_X9_decided σ x6 x1 x2 Nc27 x4 (σ.2 2) (fun r71 => w_X9_isAllowed r71 (fun r74 => ((r74 = 0) → (wJ_X9_who_88 (fun σ x1 x2 x4 x5 x6 Nc27 => wL_X9_who_48 Q n σ x1 x2 x4 x5 x6 Nc27) σ x1 x2 x4 x6 x5 0 Nc27)) ∧ ((¬ r74 = 0) → (wJ_X9_who_88 (fun σ x1 x2 x4 x5 x6 Nc27 => wL_X9_who_48 Q n σ x1 x2 x4 x5 x6 Nc27) σ x1 x2 x4 x6 x5 (1 <<< (x6 &&& 31)) Nc27)))))))
def w_X9_who (σ : gk_C) (a0 : Int32) (a1 : Int32) (Q : Int32 → gk_C → Prop) : Prop := (w_X9_isAction a0 (fun r6 => ((r6 = 0) → (wJ_X9_who_20 Q (gk_s σ 0 0))) ∧ ((¬ r6 = 0) → (w_X9_isResource (gk_s σ 0 0) a1 (fun r14 => ((¬ r14 = 0) → (w_X9_allNears (gk_s σ 0 0) (fun Nc27 => w_X9_good (gk_s σ 0 0) Nc27 ((gk_s σ 0 0).2 2) (fun r37 => ∃ n48, wL_X9_who_48 Q n48 (gk_s σ 0 0) a0 a1 r37 0 0 Nc27)))) ∧ ((r14 = 0) → (wJ_X9_who_20 Q (gk_s σ 0 0))))))))
abbrev rmX9_who : Room := { frames := 8, cells := 13, slots := 156, locals := 193 }
set_option maxHeartbeats 4000000 in
set_option maxRecDepth 100000 in
theorem tJ_X9_who_20 {p : Program} {l : Launch} {e : Env} {s : State} {m : MethodId} {args : Array Value} {below : List Frame} {meth : Method} {c : Code} {D : va_G} {cI cZ cG cL : ClassId} {am : Nat → Nat} (C0 : gk_F p s m args meth c cX9_who 7 (some .int) RX9) (hK : gk_K D cI cZ cG cL s) {Q : Int32 → gk_C → Prop} : ∀ (σ : gk_C), wJ_X9_who_20 Q σ → ∀ (H : Heap) (locs : List Loc), mk_V D cI cZ am σ H → va_S (mk_A am s.heap.size) s.heap H locs → ∀ (ls : Array Slot), lv_has ls 7 [(0, .ref (am 38))] → W p l e rmX9_who s m args below meth c H locs 0 0 (MQ below (va_Qi (fun r u => Q r u) (mk_B (mk_V D cI cZ am)) (mk_A am s.heap.size)) args s 13 156 (mk_A am s.heap.size)) (F0 m 20 ls []) := by
  obtain ⟨hx, hb, hml, hown, hts, hr, hlocks⟩ := id C0
  intro σ hw H locs hW hS  ls hl
  refine lv_aload_n hx hb dX9_who_20 rfl (lv_at hl 0 rfl) ?_
  refine lv_iconst (v := 1) hx hb dX9_who_21 (by decide) ?_
  refine mk_callVi ⟨hx, hb, hml, hown, hts⟩ (c_X9_no l D cI cZ cG cL am hw) (cwV 1 hts (gk_gV ml_X9_139 im_X9_no se_X9_no in_X9 co_X9_no) rfl rfl rfl (by decide +kernel) ⟨Nat.le_of_ble_eq_true rfl, Nat.le_of_ble_eq_true rfl⟩) (gk_recv hK.1 (mk_obj hW) rfl) hW hK trivial hS rfl hl.1 (rest := []) rfl (lv_room (Nat.le_of_ble_eq_true rfl)) dX9_who_22 ⟨Nat.le_of_ble_eq_true rfl, Nat.le_of_ble_eq_true rfl⟩ (fun r22 σ22 H locs hw hW _ hk hS => ?_)
  refine W.widen (k := 13) (n := 156) (Nat.le_of_ble_eq_true rfl) (Nat.le_of_ble_eq_true rfl) ?_
  exact mk_reti C0 hw hW hS dX9_who_25
set_option maxHeartbeats 4000000 in
set_option maxRecDepth 100000 in
theorem tJ_X9_who_88 {p : Program} {l : Launch} {e : Env} {s : State} {m : MethodId} {args : Array Value} {below : List Frame} {meth : Method} {c : Code} {D : va_G} {cI cZ cG cL : ClassId} {am : Nat → Nat} (C0 : gk_F p s m args meth c cX9_who 7 (some .int) RX9) (hK : gk_K D cI cZ cG cL s) {Q : Int32 → gk_C → Prop} {k48 : gk_C → Int32 → Int32 → Int32 → Int32 → Int32 → (Nat → Option (Nat → Int32)) → Prop} (hk48 : ∀ (σ : gk_C) (x1 : Int32) (x2 : Int32) (x4 : Int32) (x5 : Int32) (x6 : Int32) (Nc27 : Nat → Option (Nat → Int32)), k48 σ x1 x2 x4 x5 x6 Nc27 → ∀ (H : Heap) (locs : List Loc), mk_V D cI cZ am σ H → va_S (mk_A am s.heap.size) s.heap H locs → ∀ (qc27 Bc27 : Nat), s.heap.size ≤ qc27 → mk_N D cI cG am qc27 Bc27 Nc27 H → ∀ (ls : Array Slot), lv_has ls 7 [(0, .ref (am 38)), (1, .int x1), (2, .int x2), (3, .ref qc27), (4, .int x4), (5, .int x5), (6, .int x6)] → W p l e rmX9_who s m args below meth c H locs 13 156 (MQ below (va_Qi (fun r u => Q r u) (mk_B (mk_V D cI cZ am)) (mk_A am s.heap.size)) args s 13 156 (mk_A am s.heap.size)) (F0 m 48 ls [])) : ∀ (σ : gk_C) (x1 : Int32) (x2 : Int32) (x4 : Int32) (x6 : Int32) (t0 : Int32) (t1 : Int32) (Nc27 : Nat → Option (Nat → Int32)), wJ_X9_who_88 k48 σ x1 x2 x4 x6 t0 t1 Nc27 → ∀ (H : Heap) (locs : List Loc), mk_V D cI cZ am σ H → va_S (mk_A am s.heap.size) s.heap H locs → ∀ (qc27 Bc27 : Nat), s.heap.size ≤ qc27 → mk_N D cI cG am qc27 Bc27 Nc27 H → ∀ (ls : Array Slot), lv_has ls 7 [(0, .ref (am 38)), (1, .int x1), (2, .int x2), (3, .ref qc27), (4, .int x4), (6, .int x6)] → W p l e rmX9_who s m args below meth c H locs 13 156 (MQ below (va_Qi (fun r u => Q r u) (mk_B (mk_V D cI cZ am)) (mk_A am s.heap.size)) args s 13 156 (mk_A am s.heap.size)) (F0 m 88 ls [.int t1, .int t0]) := by
  obtain ⟨hx, hb, hml, hown, hts, hr, hlocks⟩ := id C0
  intro σ x1 x2 x4 x6 t0 t1 Nc27 hw H locs hW hS qc27 Bc27 hgc27 hdc27 ls hl
  refine lv_ior hx hb dX9_who_88 ?_
  refine lv_istore (lv' := [(5, .int (t0 ||| t1)), (0, .ref (am 38)), (1, .int x1), (2, .int x2), (3, .ref qc27), (4, .int x4), (6, .int x6)]) hx hb dX9_who_89 hl (by decide) rfl (fun ls hl => ?_)
  refine lv_iinc (v := (x6 + 1)) (lv' := [(6, .int (x6 + 1)), (5, .int (t0 ||| t1)), (0, .ref (am 38)), (1, .int x1), (2, .int x2), (3, .ref qc27), (4, .int x4)]) hx hb dX9_who_91 hl (k := 6) rfl rfl (by decide) rfl (fun ls hl => ?_)
  refine lv_goto (tgt := 48) hx hb dX9_who_94 (by decide) ?_
  exact hk48 σ x1 x2 x4 (t0 ||| t1) (x6 + 1) Nc27 hw _ _ hW hS _ _ hgc27 hdc27 _ (lv_sub hl [2, 3, 4, 5, 6, 1, 0] rfl)
set_option maxHeartbeats 4000000 in
set_option maxRecDepth 100000 in
theorem tL_X9_who_48 {p : Program} {l : Launch} {e : Env} {s : State} {m : MethodId} {args : Array Value} {below : List Frame} {meth : Method} {c : Code} {D : va_G} {cI cZ cG cL : ClassId} {am : Nat → Nat} (C0 : gk_F p s m args meth c cX9_who 7 (some .int) RX9) (hK : gk_K D cI cZ cG cL s) {Q : Int32 → gk_C → Prop} : ∀ (n : Nat) (σ : gk_C) (x1 : Int32) (x2 : Int32) (x4 : Int32) (x5 : Int32) (x6 : Int32) (Nc27 : Nat → Option (Nat → Int32)), wL_X9_who_48 Q n σ x1 x2 x4 x5 x6 Nc27 → ∀ (H : Heap) (locs : List Loc), mk_V D cI cZ am σ H → va_S (mk_A am s.heap.size) s.heap H locs → ∀ (qc27 Bc27 : Nat), s.heap.size ≤ qc27 → mk_N D cI cG am qc27 Bc27 Nc27 H → ∀ (ls : Array Slot), lv_has ls 7 [(0, .ref (am 38)), (1, .int x1), (2, .int x2), (3, .ref qc27), (4, .int x4), (5, .int x5), (6, .int x6)] → W p l e rmX9_who s m args below meth c H locs 13 156 (MQ below (va_Qi (fun r u => Q r u) (mk_B (mk_V D cI cZ am)) (mk_A am s.heap.size)) args s 13 156 (mk_A am s.heap.size)) (F0 m 48 ls []) := by
  obtain ⟨hx, hb, hml, hown, hts, hr, hlocks⟩ := id C0
  intro n
  induction n with
  | zero => exact fun _ _ _ _ _ _ _ hw => False.elim hw
  | succ n ih =>
    intro σ x1 x2 x4 x5 x6 Nc27 hw H locs hW hS qc27 Bc27 hgc27 hdc27 ls hl
    refine lv_iload hx hb dX9_who_48 (lv_at hl 6 rfl) ?_
    refine lv_aload_n hx hb dX9_who_50 rfl (lv_at hl 0 rfl) ?_
    refine gk_get hx hb hts iwX9 hown hK.1 (mk_obj hW) rfl 3 (by decide) (hts _ fl_X9_105) (fun _ h9 => h9) rfl dX9_who_51 ?_
    refine lv_icmp_ge (tgt := 97) hx hb dX9_who_54 (by decide) (fun c54 => ?_) (fun c54 => ?_)
    · have hw := hw.1 c54
      refine lv_iload hx hb dX9_who_97 (lv_at hl 5 rfl) ?_
      refine W.widen (k := 13) (n := 156) (Nat.le_of_ble_eq_true rfl) (Nat.le_of_ble_eq_true rfl) ?_
      exact mk_reti C0 hw hW hS dX9_who_99
    · have hw := hw.2 c54
      refine lv_iload hx hb dX9_who_57 (lv_at hl 5 rfl) ?_
      refine lv_aload_n hx hb dX9_who_59 rfl (lv_at hl 0 rfl) ?_
      refine lv_iload hx hb dX9_who_60 (lv_at hl 6 rfl) ?_
      refine lv_iload_n hx hb dX9_who_62 rfl (lv_at hl 1 rfl) ?_
      refine lv_iload_n hx hb dX9_who_63 rfl (lv_at hl 2 rfl) ?_
      refine lv_aload_n hx hb dX9_who_64 rfl (lv_at hl 3 rfl) ?_
      refine lv_iload hx hb dX9_who_65 (lv_at hl 4 rfl) ?_
      refine lv_aload_n hx hb dX9_who_67 rfl (lv_at hl 0 rfl) ?_
      refine gk_get hx hb hts iwX9 hown hK.1 (mk_obj hW) rfl 2 (by decide) (hts _ fl_X9_171) (fun _ h9 => h9) rfl dX9_who_68 ?_
      refine mk_callRi ⟨hx, hb, hml, hown, hts⟩ (c_X9_decided l D cI cZ cG cL am hw) (cwV 6 hts (gk_gV ml_X9_255 im_X9_decided se_X9_decided in_X9 co_X9_decided) rfl rfl rfl (by decide +kernel) ⟨Nat.le_of_ble_eq_true rfl, Nat.le_of_ble_eq_true rfl⟩) (gk_recv hK.1 (mk_obj hW) rfl) hW hK ⟨hdc27, trivial⟩ hS rfl hl.1 (rest := [.int x5]) rfl (lv_room (Nat.le_of_ble_eq_true rfl)) dX9_who_71 ⟨Nat.le_of_ble_eq_true rfl, Nat.le_of_ble_eq_true rfl⟩ (fun r71 H locs hw hW _ hk hS => ?_)
      have hdc27 := hdc27.kept hk
      refine gk_callSi ⟨hx, hb, hml, hown, hts⟩ (c_X9_isAllowed l hw) (va_cwS 1 hts (gk_gS ml_X9_269 st_X9_isAllowed in_X9 co_X9_isAllowed) rfl rfl rfl (by decide +kernel) ⟨Nat.le_of_ble_eq_true rfl, Nat.le_of_ble_eq_true rfl⟩) hS rfl hl.1 (rest := [.int x5]) rfl (lv_room (Nat.le_of_ble_eq_true rfl)) dX9_who_74 ⟨Nat.le_of_ble_eq_true rfl, Nat.le_of_ble_eq_true rfl⟩ (fun r74 H locs hw _ hk hS => ?_)
      have hW := hW.keptAll hk
      have hdc27 := hdc27.keptAll hk
      refine lv_if_eq (tgt := 87) hx hb dX9_who_77 (by decide) (fun c77 => ?_) (fun c77 => ?_)
      · have hw := hw.1 c77
        refine lv_iconst (v := 0) hx hb dX9_who_87 (by decide) ?_
        refine tJ_X9_who_88 C0 hK (hk48 := ih) σ x1 x2 x4 x6 x5 0 Nc27 hw _ _ hW hS _ _ hgc27 hdc27 _ (lv_sub hl [0, 1, 2, 3, 4, 6] rfl)
      · have hw := hw.2 c77
        refine lv_iconst (v := 1) hx hb dX9_who_80 (by decide) ?_
        refine lv_iload hx hb dX9_who_81 (lv_at hl 6 rfl) ?_
        refine lv_ishl hx hb dX9_who_83 ?_
        refine lv_goto (tgt := 88) hx hb dX9_who_84 (by decide) ?_
        refine tJ_X9_who_88 C0 hK (hk48 := ih) σ x1 x2 x4 x6 x5 (1 <<< (x6 &&& 31)) Nc27 hw _ _ hW hS _ _ hgc27 hdc27 _ (lv_sub hl [0, 1, 2, 3, 4, 6] rfl)
set_option maxHeartbeats 4000000 in
set_option maxRecDepth 100000 in
theorem c_X9_who (l : Launch) (D : va_G) (cI cZ cG cL : ClassId) (am : Nat → Nat) {σ : gk_C} {a0 : Int32} {a1 : Int32} {Q : Int32 → gk_C → Prop} {sz : Nat} (hw : w_X9_who σ a0 a1 Q) : Met l yX9_who wsX9_who rmX9_who (mk_Pc (mk_V D cI cZ am) D cI cZ cG cL [.ref (am 38), .int a0, .int a1] sz σ (fun _ => True)) (va_Qi (fun r u => Q r u) (mk_B (mk_V D cI cZ am)) (mk_A am sz)) 13 156 (mk_A am sz) := by
  refine Met.ofW (cc := cX9_who) (maxL := 7) (ret := (some .int)) (by decide) rfl ?_
  intro p e s m args below meth c s₁ B hml0 hv0
  obtain ⟨rfl, hsz, hW, hK, hX⟩ := hv0
  subst hsz
  have C0 : gk_F p s m ([.ref (am 38), .int a0, .int a1] : List Value).toArray meth c cX9_who 7 (some .int) RX9 := ⟨B.exec, B.bytes, hml0, findClass_of_methodNamed B.named, fun w hw => atoms_spec (ws := wsX9_who) B.pre w (List.mem_cons_of_mem _ hw), B.returns, B.notSynchronized⟩
  obtain ⟨hx, hb, hml, hown, hts, hr, hlocks⟩ := id C0
  have hS : va_S (mk_A am s.heap.size) s.heap s.heap [] := va_S.rf
  have hl := lv_entry ([.ref (am 38), .int a0, .int a1]) (n := 7) (Nat.le_of_ble_eq_true rfl)
  rw [lg_entry_eq]
  generalize (lg_sl ([.ref (am 38), .int a0, .int a1]) ++ List.replicate (7 - (lg_sl ([.ref (am 38), .int a0, .int a1])).length) Slot.unset).toArray = ls at hl ⊢
  have hl : lv_has ls 7 [(0, .ref (am 38)), (1, .int a0), (2, .int a1)] := hl
  show W p l e rmX9_who s m _ below meth c s.heap [] 0 0 _ _
  refine lv_aload_n hx hb dX9_who_0 rfl (lv_at hl 0 rfl) ?_
  refine lv_iconst (v := 0) hx hb dX9_who_1 (by decide) ?_
  refine gk_putf (ty := .int) (v := .int 0) hx hb hts iwX9 tyX9 tyX9_ok nmX9 hown hK.1 hS (mk_A.in List.mem_cons_self) (mk_obj hW) rfl 0 (by decide) (hts _ fl_X9_102) (fun _ h9 => h9) rfl (by decide +kernel) rfl rfl (Nat.le_of_ble_eq_true rfl) dX9_who_2 (fun H locs h1 _ oq hS => ?_)
  have hW := hW.setS (i := 0) (v := 0) h1 oq
  refine lv_iload_n hx hb dX9_who_5 rfl (lv_at hl 1 rfl) ?_
  refine gk_callSi ⟨hx, hb, hml, hown, hts⟩ (c_X9_isAction l hw) (va_cwS 1 hts (gk_gS ml_X9_119 st_X9_isAction in_X9 co_X9_isAction) rfl rfl rfl (by decide +kernel) ⟨Nat.le_of_ble_eq_true rfl, Nat.le_of_ble_eq_true rfl⟩) hS rfl hl.1 (rest := []) rfl (lv_room (Nat.le_of_ble_eq_true rfl)) dX9_who_6 ⟨Nat.le_of_ble_eq_true rfl, Nat.le_of_ble_eq_true rfl⟩ (fun r6 H locs hw _ hk hS => ?_)
  have hW := hW.keptAll hk
  refine lv_if_eq (tgt := 20) hx hb dX9_who_9 (by decide) (fun c9 => ?_) (fun c9 => ?_)
  · have hw := hw.1 c9
    refine tJ_X9_who_20 C0 hK  (gk_s σ 0 0) hw _ _ hW hS  _ (lv_sub hl [0] rfl)
  · have hw := hw.2 c9
    refine lv_aload_n hx hb dX9_who_12 rfl (lv_at hl 0 rfl) ?_
    refine lv_iload_n hx hb dX9_who_13 rfl (lv_at hl 2 rfl) ?_
    refine mk_callRi ⟨hx, hb, hml, hown, hts⟩ (c_X9_isResource l D cI cZ cG cL am hw) (cwV 1 hts (gk_gV ml_X9_122 im_X9_isResource se_X9_isResource in_X9 co_X9_isResource) rfl rfl rfl (by decide +kernel) ⟨Nat.le_of_ble_eq_true rfl, Nat.le_of_ble_eq_true rfl⟩) (gk_recv hK.1 (mk_obj hW) rfl) hW hK trivial hS rfl hl.1 (rest := []) rfl (lv_room (Nat.le_of_ble_eq_true rfl)) dX9_who_14 ⟨Nat.le_of_ble_eq_true rfl, Nat.le_of_ble_eq_true rfl⟩ (fun r14 H locs hw hW _ hk hS => ?_)
    refine lv_if_ne (tgt := 26) hx hb dX9_who_17 (by decide) (fun c17 => ?_) (fun c17 => ?_)
    · have hw := hw.1 c17
      refine lv_aload_n hx hb dX9_who_26 rfl (lv_at hl 0 rfl) ?_
      refine mk_callVb ⟨hx, hb, hml, hown, hts⟩ (c_X9_allNears l D cI cZ cG cL am hw) (cwV 0 hts (gk_gV ml_X9_247 im_X9_allNears se_X9_allNears in_X9 co_X9_allNears) rfl rfl rfl (by decide +kernel) ⟨Nat.le_of_ble_eq_true rfl, Nat.le_of_ble_eq_true rfl⟩) (gk_recv hK.1 (mk_obj hW) rfl) hW hK trivial hS rfl hl.1 (rest := []) rfl (lv_room (Nat.le_of_ble_eq_true rfl)) dX9_who_27 ⟨Nat.le_of_ble_eq_true rfl, Nat.le_of_ble_eq_true rfl⟩ (fun Nc27 qc27 H locs hw hW hdc27 hb0 hgc27 _ hk hS => ?_)
      refine lv_astore_n (lv' := [(3, .ref qc27), (0, .ref (am 38)), (1, .int a0), (2, .int a1)]) hx hb dX9_who_30 rfl hl (by decide) rfl (fun ls hl => ?_)
      refine lv_aload_n hx hb dX9_who_31 rfl (lv_at hl 1 rfl) ?_
      refine lv_aload_n hx hb dX9_who_32 rfl (lv_at hl 0 rfl) ?_
      refine lv_aload_n hx hb dX9_who_33 rfl (lv_at hl 1 rfl) ?_
      refine gk_get hx hb hts iwX9 hown hK.1 (mk_obj hW) rfl 2 (by decide) (hts _ fl_X9_171) (fun _ h9 => h9) rfl dX9_who_34 ?_
      refine mk_callRi ⟨hx, hb, hml, hown, hts⟩ (c_X9_good l D cI cZ cG cL am hw) (cwV 2 hts (gk_gV ml_X9_251 im_X9_good se_X9_good in_X9 co_X9_good) rfl rfl rfl (by decide +kernel) ⟨Nat.le_of_ble_eq_true rfl, Nat.le_of_ble_eq_true rfl⟩) (gk_recv hK.1 (mk_obj hW) rfl) hW hK ⟨hdc27, trivial⟩ hS rfl hl.1 (rest := []) rfl (lv_room (Nat.le_of_ble_eq_true rfl)) dX9_who_37 ⟨Nat.le_of_ble_eq_true rfl, Nat.le_of_ble_eq_true rfl⟩ (fun r37 H locs hw hW _ hk hS => ?_)
      have hdc27 := hdc27.kept hk
      refine lv_istore (lv' := [(4, .int r37), (3, .ref qc27), (0, .ref (am 38)), (1, .int a0), (2, .int a1)]) hx hb dX9_who_40 hl (by decide) rfl (fun ls hl => ?_)
      refine lv_iconst (v := 0) hx hb dX9_who_42 (by decide) ?_
      refine lv_istore (lv' := [(5, .int 0), (4, .int r37), (3, .ref qc27), (0, .ref (am 38)), (1, .int a0), (2, .int a1)]) hx hb dX9_who_43 hl (by decide) rfl (fun ls hl => ?_)
      refine lv_iconst (v := 0) hx hb dX9_who_45 (by decide) ?_
      refine lv_istore (lv' := [(6, .int 0), (5, .int 0), (4, .int r37), (3, .ref qc27), (0, .ref (am 38)), (1, .int a0), (2, .int a1)]) hx hb dX9_who_46 hl (by decide) rfl (fun ls hl => ?_)
      obtain ⟨n48, hw⟩ := hw
      refine tL_X9_who_48 C0 hK  n48 (gk_s σ 0 0) a0 a1 r37 0 0 Nc27 hw _ _ hW hS _ _ hgc27 hdc27 _ (lv_sub hl [4, 5, 6, 3, 2, 1, 0] rfl)
    · have hw := hw.2 c17
      refine tJ_X9_who_20 C0 hK  (gk_s σ 0 0) hw _ _ hW hS  _ (lv_sub hl [0] rfl)
def wJ_X9_reach_20 (Q : Int32 → gk_C → Prop) (σ : gk_C) : Prop := (w_X9_no σ 1 (fun r22 σ22 => Q r22 σ22))
def wJ_X9_reach_85 (k48 : gk_C → Int32 → Int32 → Int32 → Int32 → Int32 → (Nat → Option (Nat → Int32)) → Prop) (σ : gk_C) (x1 : Int32) (x2 : Int32) (x4 : Int32) (x6 : Int32) (t0 : Int32) (t1 : Int32) (Nc27 : Nat → Option (Nat → Int32)) : Prop := (k48 σ x1 x2 x4 (t0 + t1) (x6 + 1) Nc27)
def wL_X9_reach_48 (Q : Int32 → gk_C → Prop) : Nat → gk_C → Int32 → Int32 → Int32 → Int32 → Int32 → (Nat → Option (Nat → Int32)) → Prop
  | 0 => fun _ _ _ _ _ _ _ => False
  | n + 1 => fun σ x1 x2 x4 x5 x6 Nc27 => ((((σ.2 11) ≤ x6) → (Q x5 σ)) ∧ ((¬ (σ.2 11) ≤ x6) → (w_X9_decided σ x1 x2 x6 Nc27 x4 (σ.2 2) (fun r71 => w_X9_isAllowed r71 (fun r74 => ((r74 = 0) → (wJ_X9_reach_85 (fun σ x1 x2 x4 x5 x6 Nc27 => wL_X9_reach_48 Q n σ x1 x2 x4 x5 x6 Nc27) σ x1 x2 x4 x6 x5 0 Nc27)) ∧ ((¬ r74 = 0) → (wJ_X9_reach_85 (fun σ x1 x2 x4 x5 x6 Nc27 => wL_X9_reach_48 Q n σ x1 x2 x4 x5 x6 Nc27) σ x1 x2 x4 x6 x5 1 Nc27)))))))
def w_X9_reach (σ : gk_C) (a0 : Int32) (a1 : Int32) (Q : Int32 → gk_C → Prop) : Prop := (w_X9_isUser (gk_s σ 0 0) a0 (fun r7 => ((r7 = 0) → (wJ_X9_reach_20 Q (gk_s σ 0 0))) ∧ ((¬ r7 = 0) → (w_X9_isAction a1 (fun r14 => ((¬ r14 = 0) → (w_X9_allNears (gk_s σ 0 0) (fun Nc27 => w_X9_good (gk_s σ 0 0) Nc27 ((gk_s σ 0 0).2 2) (fun r37 => ∃ n48, wL_X9_reach_48 Q n48 (gk_s σ 0 0) a0 a1 r37 0 0 Nc27)))) ∧ ((r14 = 0) → (wJ_X9_reach_20 Q (gk_s σ 0 0))))))))
abbrev rmX9_reach : Room := { frames := 8, cells := 13, slots := 156, locals := 193 }
set_option maxHeartbeats 4000000 in
set_option maxRecDepth 100000 in
theorem tJ_X9_reach_20 {p : Program} {l : Launch} {e : Env} {s : State} {m : MethodId} {args : Array Value} {below : List Frame} {meth : Method} {c : Code} {D : va_G} {cI cZ cG cL : ClassId} {am : Nat → Nat} (C0 : gk_F p s m args meth c cX9_reach 7 (some .int) RX9) (hK : gk_K D cI cZ cG cL s) {Q : Int32 → gk_C → Prop} : ∀ (σ : gk_C), wJ_X9_reach_20 Q σ → ∀ (H : Heap) (locs : List Loc), mk_V D cI cZ am σ H → va_S (mk_A am s.heap.size) s.heap H locs → ∀ (ls : Array Slot), lv_has ls 7 [(0, .ref (am 38))] → W p l e rmX9_reach s m args below meth c H locs 0 0 (MQ below (va_Qi (fun r u => Q r u) (mk_B (mk_V D cI cZ am)) (mk_A am s.heap.size)) args s 13 156 (mk_A am s.heap.size)) (F0 m 20 ls []) := by
  obtain ⟨hx, hb, hml, hown, hts, hr, hlocks⟩ := id C0
  intro σ hw H locs hW hS  ls hl
  refine lv_aload_n hx hb dX9_reach_20 rfl (lv_at hl 0 rfl) ?_
  refine lv_iconst (v := 1) hx hb dX9_reach_21 (by decide) ?_
  refine mk_callVi ⟨hx, hb, hml, hown, hts⟩ (c_X9_no l D cI cZ cG cL am hw) (cwV 1 hts (gk_gV ml_X9_139 im_X9_no se_X9_no in_X9 co_X9_no) rfl rfl rfl (by decide +kernel) ⟨Nat.le_of_ble_eq_true rfl, Nat.le_of_ble_eq_true rfl⟩) (gk_recv hK.1 (mk_obj hW) rfl) hW hK trivial hS rfl hl.1 (rest := []) rfl (lv_room (Nat.le_of_ble_eq_true rfl)) dX9_reach_22 ⟨Nat.le_of_ble_eq_true rfl, Nat.le_of_ble_eq_true rfl⟩ (fun r22 σ22 H locs hw hW _ hk hS => ?_)
  refine W.widen (k := 13) (n := 156) (Nat.le_of_ble_eq_true rfl) (Nat.le_of_ble_eq_true rfl) ?_
  exact mk_reti C0 hw hW hS dX9_reach_25
set_option maxHeartbeats 4000000 in
set_option maxRecDepth 100000 in
theorem tJ_X9_reach_85 {p : Program} {l : Launch} {e : Env} {s : State} {m : MethodId} {args : Array Value} {below : List Frame} {meth : Method} {c : Code} {D : va_G} {cI cZ cG cL : ClassId} {am : Nat → Nat} (C0 : gk_F p s m args meth c cX9_reach 7 (some .int) RX9) (hK : gk_K D cI cZ cG cL s) {Q : Int32 → gk_C → Prop} {k48 : gk_C → Int32 → Int32 → Int32 → Int32 → Int32 → (Nat → Option (Nat → Int32)) → Prop} (hk48 : ∀ (σ : gk_C) (x1 : Int32) (x2 : Int32) (x4 : Int32) (x5 : Int32) (x6 : Int32) (Nc27 : Nat → Option (Nat → Int32)), k48 σ x1 x2 x4 x5 x6 Nc27 → ∀ (H : Heap) (locs : List Loc), mk_V D cI cZ am σ H → va_S (mk_A am s.heap.size) s.heap H locs → ∀ (qc27 Bc27 : Nat), s.heap.size ≤ qc27 → mk_N D cI cG am qc27 Bc27 Nc27 H → ∀ (ls : Array Slot), lv_has ls 7 [(0, .ref (am 38)), (1, .int x1), (2, .int x2), (3, .ref qc27), (4, .int x4), (5, .int x5), (6, .int x6)] → W p l e rmX9_reach s m args below meth c H locs 13 156 (MQ below (va_Qi (fun r u => Q r u) (mk_B (mk_V D cI cZ am)) (mk_A am s.heap.size)) args s 13 156 (mk_A am s.heap.size)) (F0 m 48 ls [])) : ∀ (σ : gk_C) (x1 : Int32) (x2 : Int32) (x4 : Int32) (x6 : Int32) (t0 : Int32) (t1 : Int32) (Nc27 : Nat → Option (Nat → Int32)), wJ_X9_reach_85 k48 σ x1 x2 x4 x6 t0 t1 Nc27 → ∀ (H : Heap) (locs : List Loc), mk_V D cI cZ am σ H → va_S (mk_A am s.heap.size) s.heap H locs → ∀ (qc27 Bc27 : Nat), s.heap.size ≤ qc27 → mk_N D cI cG am qc27 Bc27 Nc27 H → ∀ (ls : Array Slot), lv_has ls 7 [(0, .ref (am 38)), (1, .int x1), (2, .int x2), (3, .ref qc27), (4, .int x4), (6, .int x6)] → W p l e rmX9_reach s m args below meth c H locs 13 156 (MQ below (va_Qi (fun r u => Q r u) (mk_B (mk_V D cI cZ am)) (mk_A am s.heap.size)) args s 13 156 (mk_A am s.heap.size)) (F0 m 85 ls [.int t1, .int t0]) := by
  obtain ⟨hx, hb, hml, hown, hts, hr, hlocks⟩ := id C0
  intro σ x1 x2 x4 x6 t0 t1 Nc27 hw H locs hW hS qc27 Bc27 hgc27 hdc27 ls hl
  refine lv_iadd hx hb dX9_reach_85 ?_
  refine lv_istore (lv' := [(5, .int (t0 + t1)), (0, .ref (am 38)), (1, .int x1), (2, .int x2), (3, .ref qc27), (4, .int x4), (6, .int x6)]) hx hb dX9_reach_86 hl (by decide) rfl (fun ls hl => ?_)
  refine lv_iinc (v := (x6 + 1)) (lv' := [(6, .int (x6 + 1)), (5, .int (t0 + t1)), (0, .ref (am 38)), (1, .int x1), (2, .int x2), (3, .ref qc27), (4, .int x4)]) hx hb dX9_reach_88 hl (k := 6) rfl rfl (by decide) rfl (fun ls hl => ?_)
  refine lv_goto (tgt := 48) hx hb dX9_reach_91 (by decide) ?_
  exact hk48 σ x1 x2 x4 (t0 + t1) (x6 + 1) Nc27 hw _ _ hW hS _ _ hgc27 hdc27 _ (lv_sub hl [2, 3, 4, 5, 6, 1, 0] rfl)
set_option maxHeartbeats 4000000 in
set_option maxRecDepth 100000 in
theorem tL_X9_reach_48 {p : Program} {l : Launch} {e : Env} {s : State} {m : MethodId} {args : Array Value} {below : List Frame} {meth : Method} {c : Code} {D : va_G} {cI cZ cG cL : ClassId} {am : Nat → Nat} (C0 : gk_F p s m args meth c cX9_reach 7 (some .int) RX9) (hK : gk_K D cI cZ cG cL s) {Q : Int32 → gk_C → Prop} : ∀ (n : Nat) (σ : gk_C) (x1 : Int32) (x2 : Int32) (x4 : Int32) (x5 : Int32) (x6 : Int32) (Nc27 : Nat → Option (Nat → Int32)), wL_X9_reach_48 Q n σ x1 x2 x4 x5 x6 Nc27 → ∀ (H : Heap) (locs : List Loc), mk_V D cI cZ am σ H → va_S (mk_A am s.heap.size) s.heap H locs → ∀ (qc27 Bc27 : Nat), s.heap.size ≤ qc27 → mk_N D cI cG am qc27 Bc27 Nc27 H → ∀ (ls : Array Slot), lv_has ls 7 [(0, .ref (am 38)), (1, .int x1), (2, .int x2), (3, .ref qc27), (4, .int x4), (5, .int x5), (6, .int x6)] → W p l e rmX9_reach s m args below meth c H locs 13 156 (MQ below (va_Qi (fun r u => Q r u) (mk_B (mk_V D cI cZ am)) (mk_A am s.heap.size)) args s 13 156 (mk_A am s.heap.size)) (F0 m 48 ls []) := by
  obtain ⟨hx, hb, hml, hown, hts, hr, hlocks⟩ := id C0
  intro n
  induction n with
  | zero => exact fun _ _ _ _ _ _ _ hw => False.elim hw
  | succ n ih =>
    intro σ x1 x2 x4 x5 x6 Nc27 hw H locs hW hS qc27 Bc27 hgc27 hdc27 ls hl
    refine lv_iload hx hb dX9_reach_48 (lv_at hl 6 rfl) ?_
    refine lv_aload_n hx hb dX9_reach_50 rfl (lv_at hl 0 rfl) ?_
    refine gk_get hx hb hts iwX9 hown hK.1 (mk_obj hW) rfl 11 (by decide) (hts _ fl_X9_25) (fun _ h9 => h9) rfl dX9_reach_51 ?_
    refine lv_icmp_ge (tgt := 94) hx hb dX9_reach_54 (by decide) (fun c54 => ?_) (fun c54 => ?_)
    · have hw := hw.1 c54
      refine lv_iload hx hb dX9_reach_94 (lv_at hl 5 rfl) ?_
      refine W.widen (k := 13) (n := 156) (Nat.le_of_ble_eq_true rfl) (Nat.le_of_ble_eq_true rfl) ?_
      exact mk_reti C0 hw hW hS dX9_reach_96
    · have hw := hw.2 c54
      refine lv_iload hx hb dX9_reach_57 (lv_at hl 5 rfl) ?_
      refine lv_aload_n hx hb dX9_reach_59 rfl (lv_at hl 0 rfl) ?_
      refine lv_iload_n hx hb dX9_reach_60 rfl (lv_at hl 1 rfl) ?_
      refine lv_iload_n hx hb dX9_reach_61 rfl (lv_at hl 2 rfl) ?_
      refine lv_iload hx hb dX9_reach_62 (lv_at hl 6 rfl) ?_
      refine lv_aload_n hx hb dX9_reach_64 rfl (lv_at hl 3 rfl) ?_
      refine lv_iload hx hb dX9_reach_65 (lv_at hl 4 rfl) ?_
      refine lv_aload_n hx hb dX9_reach_67 rfl (lv_at hl 0 rfl) ?_
      refine gk_get hx hb hts iwX9 hown hK.1 (mk_obj hW) rfl 2 (by decide) (hts _ fl_X9_171) (fun _ h9 => h9) rfl dX9_reach_68 ?_
      refine mk_callRi ⟨hx, hb, hml, hown, hts⟩ (c_X9_decided l D cI cZ cG cL am hw) (cwV 6 hts (gk_gV ml_X9_255 im_X9_decided se_X9_decided in_X9 co_X9_decided) rfl rfl rfl (by decide +kernel) ⟨Nat.le_of_ble_eq_true rfl, Nat.le_of_ble_eq_true rfl⟩) (gk_recv hK.1 (mk_obj hW) rfl) hW hK ⟨hdc27, trivial⟩ hS rfl hl.1 (rest := [.int x5]) rfl (lv_room (Nat.le_of_ble_eq_true rfl)) dX9_reach_71 ⟨Nat.le_of_ble_eq_true rfl, Nat.le_of_ble_eq_true rfl⟩ (fun r71 H locs hw hW _ hk hS => ?_)
      have hdc27 := hdc27.kept hk
      refine gk_callSi ⟨hx, hb, hml, hown, hts⟩ (c_X9_isAllowed l hw) (va_cwS 1 hts (gk_gS ml_X9_269 st_X9_isAllowed in_X9 co_X9_isAllowed) rfl rfl rfl (by decide +kernel) ⟨Nat.le_of_ble_eq_true rfl, Nat.le_of_ble_eq_true rfl⟩) hS rfl hl.1 (rest := [.int x5]) rfl (lv_room (Nat.le_of_ble_eq_true rfl)) dX9_reach_74 ⟨Nat.le_of_ble_eq_true rfl, Nat.le_of_ble_eq_true rfl⟩ (fun r74 H locs hw _ hk hS => ?_)
      have hW := hW.keptAll hk
      have hdc27 := hdc27.keptAll hk
      refine lv_if_eq (tgt := 84) hx hb dX9_reach_77 (by decide) (fun c77 => ?_) (fun c77 => ?_)
      · have hw := hw.1 c77
        refine lv_iconst (v := 0) hx hb dX9_reach_84 (by decide) ?_
        refine tJ_X9_reach_85 C0 hK (hk48 := ih) σ x1 x2 x4 x6 x5 0 Nc27 hw _ _ hW hS _ _ hgc27 hdc27 _ (lv_sub hl [0, 1, 2, 3, 4, 6] rfl)
      · have hw := hw.2 c77
        refine lv_iconst (v := 1) hx hb dX9_reach_80 (by decide) ?_
        refine lv_goto (tgt := 85) hx hb dX9_reach_81 (by decide) ?_
        refine tJ_X9_reach_85 C0 hK (hk48 := ih) σ x1 x2 x4 x6 x5 1 Nc27 hw _ _ hW hS _ _ hgc27 hdc27 _ (lv_sub hl [0, 1, 2, 3, 4, 6] rfl)
set_option maxHeartbeats 4000000 in
set_option maxRecDepth 100000 in
theorem c_X9_reach (l : Launch) (D : va_G) (cI cZ cG cL : ClassId) (am : Nat → Nat) {σ : gk_C} {a0 : Int32} {a1 : Int32} {Q : Int32 → gk_C → Prop} {sz : Nat} (hw : w_X9_reach σ a0 a1 Q) : Met l yX9_reach wsX9_reach rmX9_reach (mk_Pc (mk_V D cI cZ am) D cI cZ cG cL [.ref (am 38), .int a0, .int a1] sz σ (fun _ => True)) (va_Qi (fun r u => Q r u) (mk_B (mk_V D cI cZ am)) (mk_A am sz)) 13 156 (mk_A am sz) := by
  refine Met.ofW (cc := cX9_reach) (maxL := 7) (ret := (some .int)) (by decide) rfl ?_
  intro p e s m args below meth c s₁ B hml0 hv0
  obtain ⟨rfl, hsz, hW, hK, hX⟩ := hv0
  subst hsz
  have C0 : gk_F p s m ([.ref (am 38), .int a0, .int a1] : List Value).toArray meth c cX9_reach 7 (some .int) RX9 := ⟨B.exec, B.bytes, hml0, findClass_of_methodNamed B.named, fun w hw => atoms_spec (ws := wsX9_reach) B.pre w (List.mem_cons_of_mem _ hw), B.returns, B.notSynchronized⟩
  obtain ⟨hx, hb, hml, hown, hts, hr, hlocks⟩ := id C0
  have hS : va_S (mk_A am s.heap.size) s.heap s.heap [] := va_S.rf
  have hl := lv_entry ([.ref (am 38), .int a0, .int a1]) (n := 7) (Nat.le_of_ble_eq_true rfl)
  rw [lg_entry_eq]
  generalize (lg_sl ([.ref (am 38), .int a0, .int a1]) ++ List.replicate (7 - (lg_sl ([.ref (am 38), .int a0, .int a1])).length) Slot.unset).toArray = ls at hl ⊢
  have hl : lv_has ls 7 [(0, .ref (am 38)), (1, .int a0), (2, .int a1)] := hl
  show W p l e rmX9_reach s m _ below meth c s.heap [] 0 0 _ _
  refine lv_aload_n hx hb dX9_reach_0 rfl (lv_at hl 0 rfl) ?_
  refine lv_iconst (v := 0) hx hb dX9_reach_1 (by decide) ?_
  refine gk_putf (ty := .int) (v := .int 0) hx hb hts iwX9 tyX9 tyX9_ok nmX9 hown hK.1 hS (mk_A.in List.mem_cons_self) (mk_obj hW) rfl 0 (by decide) (hts _ fl_X9_102) (fun _ h9 => h9) rfl (by decide +kernel) rfl rfl (Nat.le_of_ble_eq_true rfl) dX9_reach_2 (fun H locs h1 _ oq hS => ?_)
  have hW := hW.setS (i := 0) (v := 0) h1 oq
  refine lv_aload_n hx hb dX9_reach_5 rfl (lv_at hl 0 rfl) ?_
  refine lv_iload_n hx hb dX9_reach_6 rfl (lv_at hl 1 rfl) ?_
  refine mk_callRi ⟨hx, hb, hml, hown, hts⟩ (c_X9_isUser l D cI cZ cG cL am hw) (cwV 1 hts (gk_gV ml_X9_115 im_X9_isUser se_X9_isUser in_X9 co_X9_isUser) rfl rfl rfl (by decide +kernel) ⟨Nat.le_of_ble_eq_true rfl, Nat.le_of_ble_eq_true rfl⟩) (gk_recv hK.1 (mk_obj hW) rfl) hW hK trivial hS rfl hl.1 (rest := []) rfl (lv_room (Nat.le_of_ble_eq_true rfl)) dX9_reach_7 ⟨Nat.le_of_ble_eq_true rfl, Nat.le_of_ble_eq_true rfl⟩ (fun r7 H locs hw hW _ hk hS => ?_)
  refine lv_if_eq (tgt := 20) hx hb dX9_reach_10 (by decide) (fun c10 => ?_) (fun c10 => ?_)
  · have hw := hw.1 c10
    refine tJ_X9_reach_20 C0 hK  (gk_s σ 0 0) hw _ _ hW hS  _ (lv_sub hl [0] rfl)
  · have hw := hw.2 c10
    refine lv_iload_n hx hb dX9_reach_13 rfl (lv_at hl 2 rfl) ?_
    refine gk_callSi ⟨hx, hb, hml, hown, hts⟩ (c_X9_isAction l hw) (va_cwS 1 hts (gk_gS ml_X9_119 st_X9_isAction in_X9 co_X9_isAction) rfl rfl rfl (by decide +kernel) ⟨Nat.le_of_ble_eq_true rfl, Nat.le_of_ble_eq_true rfl⟩) hS rfl hl.1 (rest := []) rfl (lv_room (Nat.le_of_ble_eq_true rfl)) dX9_reach_14 ⟨Nat.le_of_ble_eq_true rfl, Nat.le_of_ble_eq_true rfl⟩ (fun r14 H locs hw _ hk hS => ?_)
    have hW := hW.keptAll hk
    refine lv_if_ne (tgt := 26) hx hb dX9_reach_17 (by decide) (fun c17 => ?_) (fun c17 => ?_)
    · have hw := hw.1 c17
      refine lv_aload_n hx hb dX9_reach_26 rfl (lv_at hl 0 rfl) ?_
      refine mk_callVb ⟨hx, hb, hml, hown, hts⟩ (c_X9_allNears l D cI cZ cG cL am hw) (cwV 0 hts (gk_gV ml_X9_247 im_X9_allNears se_X9_allNears in_X9 co_X9_allNears) rfl rfl rfl (by decide +kernel) ⟨Nat.le_of_ble_eq_true rfl, Nat.le_of_ble_eq_true rfl⟩) (gk_recv hK.1 (mk_obj hW) rfl) hW hK trivial hS rfl hl.1 (rest := []) rfl (lv_room (Nat.le_of_ble_eq_true rfl)) dX9_reach_27 ⟨Nat.le_of_ble_eq_true rfl, Nat.le_of_ble_eq_true rfl⟩ (fun Nc27 qc27 H locs hw hW hdc27 hb0 hgc27 _ hk hS => ?_)
      refine lv_astore_n (lv' := [(3, .ref qc27), (0, .ref (am 38)), (1, .int a0), (2, .int a1)]) hx hb dX9_reach_30 rfl hl (by decide) rfl (fun ls hl => ?_)
      refine lv_aload_n hx hb dX9_reach_31 rfl (lv_at hl 1 rfl) ?_
      refine lv_aload_n hx hb dX9_reach_32 rfl (lv_at hl 0 rfl) ?_
      refine lv_aload_n hx hb dX9_reach_33 rfl (lv_at hl 1 rfl) ?_
      refine gk_get hx hb hts iwX9 hown hK.1 (mk_obj hW) rfl 2 (by decide) (hts _ fl_X9_171) (fun _ h9 => h9) rfl dX9_reach_34 ?_
      refine mk_callRi ⟨hx, hb, hml, hown, hts⟩ (c_X9_good l D cI cZ cG cL am hw) (cwV 2 hts (gk_gV ml_X9_251 im_X9_good se_X9_good in_X9 co_X9_good) rfl rfl rfl (by decide +kernel) ⟨Nat.le_of_ble_eq_true rfl, Nat.le_of_ble_eq_true rfl⟩) (gk_recv hK.1 (mk_obj hW) rfl) hW hK ⟨hdc27, trivial⟩ hS rfl hl.1 (rest := []) rfl (lv_room (Nat.le_of_ble_eq_true rfl)) dX9_reach_37 ⟨Nat.le_of_ble_eq_true rfl, Nat.le_of_ble_eq_true rfl⟩ (fun r37 H locs hw hW _ hk hS => ?_)
      have hdc27 := hdc27.kept hk
      refine lv_istore (lv' := [(4, .int r37), (3, .ref qc27), (0, .ref (am 38)), (1, .int a0), (2, .int a1)]) hx hb dX9_reach_40 hl (by decide) rfl (fun ls hl => ?_)
      refine lv_iconst (v := 0) hx hb dX9_reach_42 (by decide) ?_
      refine lv_istore (lv' := [(5, .int 0), (4, .int r37), (3, .ref qc27), (0, .ref (am 38)), (1, .int a0), (2, .int a1)]) hx hb dX9_reach_43 hl (by decide) rfl (fun ls hl => ?_)
      refine lv_iconst (v := 0) hx hb dX9_reach_45 (by decide) ?_
      refine lv_istore (lv' := [(6, .int 0), (5, .int 0), (4, .int r37), (3, .ref qc27), (0, .ref (am 38)), (1, .int a0), (2, .int a1)]) hx hb dX9_reach_46 hl (by decide) rfl (fun ls hl => ?_)
      obtain ⟨n48, hw⟩ := hw
      refine tL_X9_reach_48 C0 hK  n48 (gk_s σ 0 0) a0 a1 r37 0 0 Nc27 hw _ _ hW hS _ _ hgc27 hdc27 _ (lv_sub hl [4, 5, 6, 3, 2, 1, 0] rfl)
    · have hw := hw.2 c17
      refine tJ_X9_reach_20 C0 hK  (gk_s σ 0 0) hw _ _ hW hS  _ (lv_sub hl [0] rfl)
def w_X9_isAllowing (σ : gk_C) (a0 : Int32) (a1 : Int32) (fP2 : Nat → Int32) (a3 : Int32) (Q : Int32 → Prop) : Prop := (w_X9_own σ a0 a1 fP2 (fun r5 => wv_X9_weigh σ r5 fP2 a3 (σ.2 2) (fun r15 => ((r15 = (-1)) → (Q 0)) ∧ ((¬ r15 = (-1)) → (vp_in r15 30 ∧ (((σ.1 17 r15.toNatClampNeg) = 0) → (Q 0)) ∧ ((¬ (σ.1 17 r15.toNatClampNeg) = 0) → (Q 1)))))))
abbrev rmX9_isAllowing : Room := { frames := 3, cells := 0, slots := 0, locals := 71 }
set_option maxHeartbeats 4000000 in
set_option maxRecDepth 100000 in
theorem c_X9_isAllowing (l : Launch) (D : va_G) (cI cZ cG cL : ClassId) (am : Nat → Nat) {σ : gk_C} {a0 : Int32} {a1 : Int32} {fP2 : Nat → Int32} {a3 : Int32} {qP2 : Nat} {Q : Int32 → Prop} {sz : Nat} (hw : w_X9_isAllowing σ a0 a1 fP2 a3 Q) : Met l yX9_isAllowing wsX9_isAllowing rmX9_isAllowing (mk_Pc (mk_V D cI cZ am) D cI cZ cG cL [.ref (am 38), .int a0, .int a1, .ref qP2, .int a3] sz σ (fun H => mk_D D cI am qP2 12 fP2 H ∧ True)) (va_Qi (fun r u => u = σ ∧ Q r) (mk_B (mk_V D cI cZ am)) (mk_A am sz)) 0 0 (mk_A am sz) := by
  refine Met.ofW (cc := cX9_isAllowing) (maxL := 6) (ret := (some .boolean)) (by decide) rfl ?_
  intro p e s m args below meth c s₁ B hml0 hv0
  obtain ⟨rfl, hsz, hW, hK, hX⟩ := hv0
  subst hsz
  obtain ⟨hxP2, _⟩ := hX
  have C0 : gk_F p s m ([.ref (am 38), .int a0, .int a1, .ref qP2, .int a3] : List Value).toArray meth c cX9_isAllowing 6 (some .boolean) RX9 := ⟨B.exec, B.bytes, hml0, findClass_of_methodNamed B.named, fun w hw => atoms_spec (ws := wsX9_isAllowing) B.pre w (List.mem_cons_of_mem _ hw), B.returns, B.notSynchronized⟩
  obtain ⟨hx, hb, hml, hown, hts, hr, hlocks⟩ := id C0
  have hS : va_S (mk_A am s.heap.size) s.heap s.heap [] := va_S.rf
  have hl := lv_entry ([.ref (am 38), .int a0, .int a1, .ref qP2, .int a3]) (n := 6) (Nat.le_of_ble_eq_true rfl)
  rw [lg_entry_eq]
  generalize (lg_sl ([.ref (am 38), .int a0, .int a1, .ref qP2, .int a3]) ++ List.replicate (6 - (lg_sl ([.ref (am 38), .int a0, .int a1, .ref qP2, .int a3])).length) Slot.unset).toArray = ls at hl ⊢
  have hl : lv_has ls 6 [(0, .ref (am 38)), (1, .int a0), (2, .int a1), (3, .ref qP2), (4, .int a3)] := hl
  show W p l e rmX9_isAllowing s m _ below meth c s.heap [] 0 0 _ _
  refine lv_aload_n hx hb dX9_isAllowing_0 rfl (lv_at hl 0 rfl) ?_
  refine lv_aload_n hx hb dX9_isAllowing_1 rfl (lv_at hl 0 rfl) ?_
  refine lv_iload_n hx hb dX9_isAllowing_2 rfl (lv_at hl 1 rfl) ?_
  refine lv_iload_n hx hb dX9_isAllowing_3 rfl (lv_at hl 2 rfl) ?_
  refine lv_aload_n hx hb dX9_isAllowing_4 rfl (lv_at hl 3 rfl) ?_
  refine mk_callRi ⟨hx, hb, hml, hown, hts⟩ (c_X9_own l D cI cZ cG cL am hw) (cwV 3 hts (gk_gV ml_X9_192 im_X9_own se_X9_own in_X9 co_X9_own) rfl rfl rfl (by decide +kernel) ⟨Nat.le_of_ble_eq_true rfl, Nat.le_of_ble_eq_true rfl⟩) (gk_recv hK.1 (mk_obj hW) rfl) hW hK ⟨(hxP2.S hS), trivial⟩ hS rfl hl.1 (rest := [.ref (am 38)]) rfl (lv_room (Nat.le_of_ble_eq_true rfl)) dX9_isAllowing_5 ⟨Nat.le_of_ble_eq_true rfl, Nat.le_of_ble_eq_true rfl⟩ (fun r5 H locs hw hW _ hk hS => ?_)
  refine lv_aload_n hx hb dX9_isAllowing_8 rfl (lv_at hl 3 rfl) ?_
  refine lv_iload hx hb dX9_isAllowing_9 (lv_at hl 4 rfl) ?_
  refine lv_aload_n hx hb dX9_isAllowing_11 rfl (lv_at hl 0 rfl) ?_
  refine gk_get hx hb hts iwX9 hown hK.1 (mk_obj hW) rfl 2 (by decide) (hts _ fl_X9_171) (fun _ h9 => h9) rfl dX9_isAllowing_12 ?_
  refine mk_callRi ⟨hx, hb, hml, hown, hts⟩ (c_X9_weighV l D cI cZ cG cL am hw) (cwV 4 hts (gk_gV ml_X9_215 im_X9_weigh se_X9_weigh in_X9 co_X9_weigh) rfl rfl rfl (by decide +kernel) ⟨Nat.le_of_ble_eq_true rfl, Nat.le_of_ble_eq_true rfl⟩) (gk_recv hK.1 (mk_obj hW) rfl) hW hK ⟨(hxP2.S hS), trivial⟩ hS rfl hl.1 (rest := []) rfl (lv_room (Nat.le_of_ble_eq_true rfl)) dX9_isAllowing_15 ⟨Nat.le_of_ble_eq_true rfl, Nat.le_of_ble_eq_true rfl⟩ (fun r15 H locs hw hW _ hk hS => ?_)
  refine lv_istore (lv' := [(5, .int r15), (0, .ref (am 38)), (1, .int a0), (2, .int a1), (3, .ref qP2), (4, .int a3)]) hx hb dX9_isAllowing_18 hl (by decide) rfl (fun ls hl => ?_)
  refine lv_iload hx hb dX9_isAllowing_20 (lv_at hl 0 rfl) ?_
  refine lv_iconst (v := (-1)) hx hb dX9_isAllowing_22 (by decide) ?_
  refine lv_icmp_eq (tgt := 40) hx hb dX9_isAllowing_23 (by decide) (fun c23 => ?_) (fun c23 => ?_)
  · have hw := hw.1 c23
    refine lv_iconst (v := 0) hx hb dX9_isAllowing_40 (by decide) ?_
    refine W.widen (k := 0) (n := 0) (Nat.le_of_ble_eq_true rfl) (Nat.le_of_ble_eq_true rfl) ?_
    exact mk_retz C0 (by decide) ⟨rfl, hw⟩ hW hS dX9_isAllowing_41
  · have hw := hw.2 c23
    refine lv_aload_n hx hb dX9_isAllowing_26 rfl (lv_at hl 1 rfl) ?_
    refine gk_get hx hb hts iwX9 hown hK.1 (mk_obj hW) rfl 17 (by decide) (hts _ fl_X9_41) (fun _ h9 => h9) rfl dX9_isAllowing_27 ?_
    refine lv_iload hx hb dX9_isAllowing_30 (lv_at hl 0 rfl) ?_
    obtain ⟨hin, hw⟩ := hw
    refine gk_zald hx hb hK.1 1 (mk_arr hW (k := 17) (by decide) (by decide) (by decide)) rfl hin dX9_isAllowing_32 ?_
    refine lv_if_eq (tgt := 40) hx hb dX9_isAllowing_33 (by decide) (fun c33 => ?_) (fun c33 => ?_)
    · have hw := hw.1 c33
      refine lv_iconst (v := 0) hx hb dX9_isAllowing_40 (by decide) ?_
      refine W.widen (k := 0) (n := 0) (Nat.le_of_ble_eq_true rfl) (Nat.le_of_ble_eq_true rfl) ?_
      exact mk_retz C0 (by decide) ⟨rfl, hw⟩ hW hS dX9_isAllowing_41
    · have hw := hw.2 c33
      refine lv_iconst (v := 1) hx hb dX9_isAllowing_36 (by decide) ?_
      refine lv_goto (tgt := 41) hx hb dX9_isAllowing_37 (by decide) ?_
      refine W.widen (k := 0) (n := 0) (Nat.le_of_ble_eq_true rfl) (Nat.le_of_ble_eq_true rfl) ?_
      exact mk_retz C0 (by decide) ⟨rfl, hw⟩ hW hS dX9_isAllowing_41
def wL_X9_isGranted_7 (σ : gk_C) (fP4 : Nat → Int32) (fP5 : Nat → Int32) (fP6 : Nat → Int32) (k91 : Int32 → Int32 → Int32 → Int32 → Prop) : Nat → Int32 → Int32 → Int32 → Int32 → Int32 → Prop
  | 0 => fun _ _ _ _ _ => False
  | n + 1 => fun x1 x2 x3 x8 x9 => ((((σ.2 26) ≤ x9) → (k91 x1 x2 x3 x8)) ∧ ((¬ (σ.2 26) ≤ x9) → (vp_in x9 30 ∧ (((fP4 x9.toNatClampNeg) = 0) → (wL_X9_isGranted_7 σ fP4 fP5 fP6 k91 n x1 x2 x3 x8 (x9 + 1))) ∧ ((¬ (fP4 x9.toNatClampNeg) = 0) → (vp_in x9 30 ∧ (((fP5 x9.toNatClampNeg) = 0) → (wL_X9_isGranted_7 σ fP4 fP5 fP6 k91 n x1 x2 x3 x8 (x9 + 1))) ∧ ((¬ (fP5 x9.toNatClampNeg) = 0) → (vp_in x9 30 ∧ vp_in x9 30 ∧ w_X9_isAllowing σ (fP4 x9.toNatClampNeg) x1 fP6 (σ.1 30 x9.toNatClampNeg) (fun r48 => ((r48 = 0) → (wL_X9_isGranted_7 σ fP4 fP5 fP6 k91 n x1 x2 x3 x8 (x9 + 1))) ∧ ((¬ r48 = 0) → (vp_in x9 30 ∧ vp_in x9 30 ∧ w_X9_isAllowing σ (fP5 x9.toNatClampNeg) x1 fP6 (σ.1 30 x9.toNatClampNeg) (fun r70 => ((r70 = 0) → (wL_X9_isGranted_7 σ fP4 fP5 fP6 k91 n x1 x2 x3 x8 (x9 + 1))) ∧ ((¬ r70 = 0) → (wL_X9_isGranted_7 σ fP4 fP5 fP6 k91 n x1 x2 x3 (x8 ||| (1 <<< (x9 &&& 31))) (x9 + 1))))))))))))))
def w_X9_isGranted (σ : gk_C) (a0 : Int32) (a1 : Int32) (a2 : Int32) (a3 : Int32) (fP4 : Nat → Int32) (fP5 : Nat → Int32) (fP6 : Nat → Int32) (Q : Int32 → Prop) : Prop := (∃ n7, wL_X9_isGranted_7 σ fP4 fP5 fP6 (fun x1 x2 x3 x8 => (w_X9_leaning σ x8 (fun r95 => w_X9_granting σ r95 x1 x2 x3 (fun r101 => ((r101 = (-1)) → (Q 0)) ∧ ((¬ r101 = (-1)) → (Q 1)))))) n7 a0 a1 a2 a3 0)
abbrev rmX9_isGranted : Room := { frames := 4, cells := 0, slots := 0, locals := 96 }
set_option maxHeartbeats 4000000 in
set_option maxRecDepth 100000 in
theorem tL_X9_isGranted_7 {p : Program} {l : Launch} {e : Env} {s : State} {m : MethodId} {args : Array Value} {below : List Frame} {meth : Method} {c : Code} {D : va_G} {cI cZ cG cL : ClassId} {am : Nat → Nat} (C0 : gk_F p s m args meth c cX9_isGranted 10 (some .boolean) RX9) (hK : gk_K D cI cZ cG cL s) {σ : gk_C} {fP4 : Nat → Int32} {qP4 : Nat} (hxP4 : mk_D D cI am qP4 30 fP4 s.heap) {fP5 : Nat → Int32} {qP5 : Nat} (hxP5 : mk_D D cI am qP5 30 fP5 s.heap) {fP6 : Nat → Int32} {qP6 : Nat} (hxP6 : mk_D D cI am qP6 12 fP6 s.heap) {Q : Int32 → Prop} {k91 : Int32 → Int32 → Int32 → Int32 → Prop} (hk91 : ∀ (x1 : Int32) (x2 : Int32) (x3 : Int32) (x8 : Int32), k91 x1 x2 x3 x8 → ∀ (H : Heap) (locs : List Loc), mk_V D cI cZ am σ H → va_S (mk_A am s.heap.size) s.heap H locs → ∀ (ls : Array Slot), lv_has ls 10 [(0, .ref (am 38)), (1, .int x1), (2, .int x2), (3, .int x3), (8, .int x8)] → W p l e rmX9_isGranted s m args below meth c H locs 0 0 (MQ below (va_Qi (fun r u => u = σ ∧ Q r) (mk_B (mk_V D cI cZ am)) (mk_A am s.heap.size)) args s 0 0 (mk_A am s.heap.size)) (F0 m 91 ls [])) : ∀ (n : Nat) (x1 : Int32) (x2 : Int32) (x3 : Int32) (x8 : Int32) (x9 : Int32), wL_X9_isGranted_7 σ fP4 fP5 fP6 k91 n x1 x2 x3 x8 x9 → ∀ (H : Heap) (locs : List Loc), mk_V D cI cZ am σ H → va_S (mk_A am s.heap.size) s.heap H locs → ∀ (ls : Array Slot), lv_has ls 10 [(0, .ref (am 38)), (1, .int x1), (2, .int x2), (3, .int x3), (5, .ref qP4), (6, .ref qP5), (7, .ref qP6), (8, .int x8), (9, .int x9)] → W p l e rmX9_isGranted s m args below meth c H locs 0 0 (MQ below (va_Qi (fun r u => u = σ ∧ Q r) (mk_B (mk_V D cI cZ am)) (mk_A am s.heap.size)) args s 0 0 (mk_A am s.heap.size)) (F0 m 7 ls []) := by
  obtain ⟨hx, hb, hml, hown, hts, hr, hlocks⟩ := id C0
  intro n
  induction n with
  | zero => exact fun _ _ _ _ _ hw => False.elim hw
  | succ n ih =>
    intro x1 x2 x3 x8 x9 hw H locs hW hS  ls hl
    refine lv_iload hx hb dX9_isGranted_7 (lv_at hl 8 rfl) ?_
    refine lv_aload_n hx hb dX9_isGranted_9 rfl (lv_at hl 0 rfl) ?_
    refine gk_get hx hb hts iwX9 hown hK.1 (mk_obj hW) rfl 26 (by decide) (hts _ fl_X9_233) (fun _ h9 => h9) rfl dX9_isGranted_10 ?_
    refine lv_icmp_ge (tgt := 91) hx hb dX9_isGranted_13 (by decide) (fun c13 => ?_) (fun c13 => ?_)
    · have hw := hw.1 c13
      exact hk91 x1 x2 x3 x8 hw _ _ hW hS  _ (lv_sub hl [0, 1, 2, 3, 7] rfl)
    · have hw := hw.2 c13
      refine lv_aload hx hb dX9_isGranted_16 (lv_at hl 4 rfl) ?_
      refine lv_iload hx hb dX9_isGranted_18 (lv_at hl 8 rfl) ?_
      obtain ⟨hin, hw⟩ := hw
      refine gk_iald hx hb hK.1 0 (hxP4.S hS).1 rfl hin dX9_isGranted_20 ?_
      refine lv_if_eq (tgt := 85) hx hb dX9_isGranted_21 (by decide) (fun c21 => ?_) (fun c21 => ?_)
      · have hw := hw.1 c21
        refine lv_iinc (v := (x9 + 1)) (lv' := [(9, .int (x9 + 1)), (0, .ref (am 38)), (1, .int x1), (2, .int x2), (3, .int x3), (5, .ref qP4), (6, .ref qP5), (7, .ref qP6), (8, .int x8)]) hx hb dX9_isGranted_85 hl (k := 8) rfl rfl (by decide) rfl (fun ls hl => ?_)
        refine lv_goto (tgt := 7) hx hb dX9_isGranted_88 (by decide) ?_
        exact ih x1 x2 x3 x8 (x9 + 1) hw _ _ hW hS  _ (lv_sub hl [1, 2, 3, 4, 5, 6, 7, 8, 0] rfl)
      · have hw := hw.2 c21
        refine lv_aload hx hb dX9_isGranted_24 (lv_at hl 5 rfl) ?_
        refine lv_iload hx hb dX9_isGranted_26 (lv_at hl 8 rfl) ?_
        obtain ⟨hin, hw⟩ := hw
        refine gk_iald hx hb hK.1 0 (hxP5.S hS).1 rfl hin dX9_isGranted_28 ?_
        refine lv_if_eq (tgt := 85) hx hb dX9_isGranted_29 (by decide) (fun c29 => ?_) (fun c29 => ?_)
        · have hw := hw.1 c29
          refine lv_iinc (v := (x9 + 1)) (lv' := [(9, .int (x9 + 1)), (0, .ref (am 38)), (1, .int x1), (2, .int x2), (3, .int x3), (5, .ref qP4), (6, .ref qP5), (7, .ref qP6), (8, .int x8)]) hx hb dX9_isGranted_85 hl (k := 8) rfl rfl (by decide) rfl (fun ls hl => ?_)
          refine lv_goto (tgt := 7) hx hb dX9_isGranted_88 (by decide) ?_
          exact ih x1 x2 x3 x8 (x9 + 1) hw _ _ hW hS  _ (lv_sub hl [1, 2, 3, 4, 5, 6, 7, 8, 0] rfl)
        · have hw := hw.2 c29
          refine lv_aload_n hx hb dX9_isGranted_32 rfl (lv_at hl 0 rfl) ?_
          refine lv_aload hx hb dX9_isGranted_33 (lv_at hl 4 rfl) ?_
          refine lv_iload hx hb dX9_isGranted_35 (lv_at hl 8 rfl) ?_
          obtain ⟨hin, hw⟩ := hw
          refine gk_iald hx hb hK.1 0 (hxP4.S hS).1 rfl hin dX9_isGranted_37 ?_
          refine lv_iload_n hx hb dX9_isGranted_38 rfl (lv_at hl 1 rfl) ?_
          refine lv_aload hx hb dX9_isGranted_39 (lv_at hl 6 rfl) ?_
          refine lv_aload_n hx hb dX9_isGranted_41 rfl (lv_at hl 0 rfl) ?_
          refine gk_get hx hb hts iwX9 hown hK.1 (mk_obj hW) rfl 30 (by decide) (hts _ fl_X9_78) (fun _ h9 => h9) rfl dX9_isGranted_42 ?_
          refine lv_iload hx hb dX9_isGranted_45 (lv_at hl 8 rfl) ?_
          obtain ⟨hin, hw⟩ := hw
          refine gk_iald hx hb hK.1 0 (mk_arr hW (k := 30) (by decide) (by decide) (by decide)) rfl hin dX9_isGranted_47 ?_
          refine mk_callRi ⟨hx, hb, hml, hown, hts⟩ (c_X9_isAllowing l D cI cZ cG cL am hw) (cwV 4 hts (gk_gV ml_X9_279 im_X9_isAllowing se_X9_isAllowing in_X9 co_X9_isAllowing) rfl rfl rfl (by decide +kernel) ⟨Nat.le_of_ble_eq_true rfl, Nat.le_of_ble_eq_true rfl⟩) (gk_recv hK.1 (mk_obj hW) rfl) hW hK ⟨(hxP6.S hS), trivial⟩ hS rfl hl.1 (rest := []) rfl (lv_room (Nat.le_of_ble_eq_true rfl)) dX9_isGranted_48 ⟨Nat.le_of_ble_eq_true rfl, Nat.le_of_ble_eq_true rfl⟩ (fun r48 H locs hw hW _ hk hS => ?_)
          refine lv_if_eq (tgt := 85) hx hb dX9_isGranted_51 (by decide) (fun c51 => ?_) (fun c51 => ?_)
          · have hw := hw.1 c51
            refine lv_iinc (v := (x9 + 1)) (lv' := [(9, .int (x9 + 1)), (0, .ref (am 38)), (1, .int x1), (2, .int x2), (3, .int x3), (5, .ref qP4), (6, .ref qP5), (7, .ref qP6), (8, .int x8)]) hx hb dX9_isGranted_85 hl (k := 8) rfl rfl (by decide) rfl (fun ls hl => ?_)
            refine lv_goto (tgt := 7) hx hb dX9_isGranted_88 (by decide) ?_
            exact ih x1 x2 x3 x8 (x9 + 1) hw _ _ hW hS  _ (lv_sub hl [1, 2, 3, 4, 5, 6, 7, 8, 0] rfl)
          · have hw := hw.2 c51
            refine lv_aload_n hx hb dX9_isGranted_54 rfl (lv_at hl 0 rfl) ?_
            refine lv_aload hx hb dX9_isGranted_55 (lv_at hl 5 rfl) ?_
            refine lv_iload hx hb dX9_isGranted_57 (lv_at hl 8 rfl) ?_
            obtain ⟨hin, hw⟩ := hw
            refine gk_iald hx hb hK.1 0 (hxP5.S hS).1 rfl hin dX9_isGranted_59 ?_
            refine lv_iload_n hx hb dX9_isGranted_60 rfl (lv_at hl 1 rfl) ?_
            refine lv_aload hx hb dX9_isGranted_61 (lv_at hl 6 rfl) ?_
            refine lv_aload_n hx hb dX9_isGranted_63 rfl (lv_at hl 0 rfl) ?_
            refine gk_get hx hb hts iwX9 hown hK.1 (mk_obj hW) rfl 30 (by decide) (hts _ fl_X9_78) (fun _ h9 => h9) rfl dX9_isGranted_64 ?_
            refine lv_iload hx hb dX9_isGranted_67 (lv_at hl 8 rfl) ?_
            obtain ⟨hin, hw⟩ := hw
            refine gk_iald hx hb hK.1 0 (mk_arr hW (k := 30) (by decide) (by decide) (by decide)) rfl hin dX9_isGranted_69 ?_
            refine mk_callRi ⟨hx, hb, hml, hown, hts⟩ (c_X9_isAllowing l D cI cZ cG cL am hw) (cwV 4 hts (gk_gV ml_X9_279 im_X9_isAllowing se_X9_isAllowing in_X9 co_X9_isAllowing) rfl rfl rfl (by decide +kernel) ⟨Nat.le_of_ble_eq_true rfl, Nat.le_of_ble_eq_true rfl⟩) (gk_recv hK.1 (mk_obj hW) rfl) hW hK ⟨(hxP6.S hS), trivial⟩ hS rfl hl.1 (rest := []) rfl (lv_room (Nat.le_of_ble_eq_true rfl)) dX9_isGranted_70 ⟨Nat.le_of_ble_eq_true rfl, Nat.le_of_ble_eq_true rfl⟩ (fun r70 H locs hw hW _ hk hS => ?_)
            refine lv_if_eq (tgt := 85) hx hb dX9_isGranted_73 (by decide) (fun c73 => ?_) (fun c73 => ?_)
            · have hw := hw.1 c73
              refine lv_iinc (v := (x9 + 1)) (lv' := [(9, .int (x9 + 1)), (0, .ref (am 38)), (1, .int x1), (2, .int x2), (3, .int x3), (5, .ref qP4), (6, .ref qP5), (7, .ref qP6), (8, .int x8)]) hx hb dX9_isGranted_85 hl (k := 8) rfl rfl (by decide) rfl (fun ls hl => ?_)
              refine lv_goto (tgt := 7) hx hb dX9_isGranted_88 (by decide) ?_
              exact ih x1 x2 x3 x8 (x9 + 1) hw _ _ hW hS  _ (lv_sub hl [1, 2, 3, 4, 5, 6, 7, 8, 0] rfl)
            · have hw := hw.2 c73
              refine lv_iload hx hb dX9_isGranted_76 (lv_at hl 7 rfl) ?_
              refine lv_iconst (v := 1) hx hb dX9_isGranted_78 (by decide) ?_
              refine lv_iload hx hb dX9_isGranted_79 (lv_at hl 8 rfl) ?_
              refine lv_ishl hx hb dX9_isGranted_81 ?_
              refine lv_ior hx hb dX9_isGranted_82 ?_
              refine lv_istore (lv' := [(8, .int (x8 ||| (1 <<< (x9 &&& 31)))), (0, .ref (am 38)), (1, .int x1), (2, .int x2), (3, .int x3), (5, .ref qP4), (6, .ref qP5), (7, .ref qP6), (9, .int x9)]) hx hb dX9_isGranted_83 hl (by decide) rfl (fun ls hl => ?_)
              refine lv_iinc (v := (x9 + 1)) (lv' := [(9, .int (x9 + 1)), (8, .int (x8 ||| (1 <<< (x9 &&& 31)))), (0, .ref (am 38)), (1, .int x1), (2, .int x2), (3, .int x3), (5, .ref qP4), (6, .ref qP5), (7, .ref qP6)]) hx hb dX9_isGranted_85 hl (k := 8) rfl rfl (by decide) rfl (fun ls hl => ?_)
              refine lv_goto (tgt := 7) hx hb dX9_isGranted_88 (by decide) ?_
              exact ih x1 x2 x3 (x8 ||| (1 <<< (x9 &&& 31))) (x9 + 1) hw _ _ hW hS  _ (lv_sub hl [2, 3, 4, 5, 6, 7, 8, 1, 0] rfl)
set_option maxHeartbeats 4000000 in
set_option maxRecDepth 100000 in
theorem c_X9_isGranted (l : Launch) (D : va_G) (cI cZ cG cL : ClassId) (am : Nat → Nat) {σ : gk_C} {a0 : Int32} {a1 : Int32} {a2 : Int32} {a3 : Int32} {fP4 : Nat → Int32} {fP5 : Nat → Int32} {fP6 : Nat → Int32} {qP4 : Nat} {qP5 : Nat} {qP6 : Nat} {Q : Int32 → Prop} {sz : Nat} (hw : w_X9_isGranted σ a0 a1 a2 a3 fP4 fP5 fP6 Q) : Met l yX9_isGranted wsX9_isGranted rmX9_isGranted (mk_Pc (mk_V D cI cZ am) D cI cZ cG cL [.ref (am 38), .int a0, .int a1, .int a2, .int a3, .ref qP4, .ref qP5, .ref qP6] sz σ (fun H => mk_D D cI am qP4 30 fP4 H ∧ mk_D D cI am qP5 30 fP5 H ∧ mk_D D cI am qP6 12 fP6 H ∧ True)) (va_Qi (fun r u => u = σ ∧ Q r) (mk_B (mk_V D cI cZ am)) (mk_A am sz)) 0 0 (mk_A am sz) := by
  refine Met.ofW (cc := cX9_isGranted) (maxL := 10) (ret := (some .boolean)) (by decide) rfl ?_
  intro p e s m args below meth c s₁ B hml0 hv0
  obtain ⟨rfl, hsz, hW, hK, hX⟩ := hv0
  subst hsz
  obtain ⟨hxP4, hxP5, hxP6, _⟩ := hX
  have C0 : gk_F p s m ([.ref (am 38), .int a0, .int a1, .int a2, .int a3, .ref qP4, .ref qP5, .ref qP6] : List Value).toArray meth c cX9_isGranted 10 (some .boolean) RX9 := ⟨B.exec, B.bytes, hml0, findClass_of_methodNamed B.named, fun w hw => atoms_spec (ws := wsX9_isGranted) B.pre w (List.mem_cons_of_mem _ hw), B.returns, B.notSynchronized⟩
  obtain ⟨hx, hb, hml, hown, hts, hr, hlocks⟩ := id C0
  have hS : va_S (mk_A am s.heap.size) s.heap s.heap [] := va_S.rf
  have hl := lv_entry ([.ref (am 38), .int a0, .int a1, .int a2, .int a3, .ref qP4, .ref qP5, .ref qP6]) (n := 10) (Nat.le_of_ble_eq_true rfl)
  rw [lg_entry_eq]
  generalize (lg_sl ([.ref (am 38), .int a0, .int a1, .int a2, .int a3, .ref qP4, .ref qP5, .ref qP6]) ++ List.replicate (10 - (lg_sl ([.ref (am 38), .int a0, .int a1, .int a2, .int a3, .ref qP4, .ref qP5, .ref qP6])).length) Slot.unset).toArray = ls at hl ⊢
  have hl : lv_has ls 10 [(0, .ref (am 38)), (1, .int a0), (2, .int a1), (3, .int a2), (4, .int a3), (5, .ref qP4), (6, .ref qP5), (7, .ref qP6)] := hl
  show W p l e rmX9_isGranted s m _ below meth c s.heap [] 0 0 _ _
  refine lv_iload hx hb dX9_isGranted_0 (lv_at hl 4 rfl) ?_
  refine lv_istore (lv' := [(8, .int a3), (0, .ref (am 38)), (1, .int a0), (2, .int a1), (3, .int a2), (4, .int a3), (5, .ref qP4), (6, .ref qP5), (7, .ref qP6)]) hx hb dX9_isGranted_2 hl (by decide) rfl (fun ls hl => ?_)
  refine lv_iconst (v := 0) hx hb dX9_isGranted_4 (by decide) ?_
  refine lv_istore (lv' := [(9, .int 0), (8, .int a3), (0, .ref (am 38)), (1, .int a0), (2, .int a1), (3, .int a2), (4, .int a3), (5, .ref qP4), (6, .ref qP5), (7, .ref qP6)]) hx hb dX9_isGranted_5 hl (by decide) rfl (fun ls hl => ?_)
  obtain ⟨n7, hw⟩ := hw
  refine tL_X9_isGranted_7 C0 hK hxP4 hxP5 hxP6 (hk91 := ?_) n7 a0 a1 a2 a3 0 hw _ _ hW hS  _ (lv_sub hl [2, 3, 4, 5, 7, 8, 9, 1, 0] rfl)
  · intro x1 x2 x3 x8 hw H locs hW hS  ls hl
    refine lv_aload_n hx hb dX9_isGranted_91 rfl (lv_at hl 0 rfl) ?_
    refine lv_aload_n hx hb dX9_isGranted_92 rfl (lv_at hl 0 rfl) ?_
    refine lv_iload hx hb dX9_isGranted_93 (lv_at hl 4 rfl) ?_
    refine mk_callRi ⟨hx, hb, hml, hown, hts⟩ (c_X9_leaning l D cI cZ cG cL am hw) (cwV 1 hts (gk_gV ml_X9_240 im_X9_leaning se_X9_leaning in_X9 co_X9_leaning) rfl rfl rfl (by decide +kernel) ⟨Nat.le_of_ble_eq_true rfl, Nat.le_of_ble_eq_true rfl⟩) (gk_recv hK.1 (mk_obj hW) rfl) hW hK trivial hS rfl hl.1 (rest := [.ref (am 38)]) rfl (lv_room (Nat.le_of_ble_eq_true rfl)) dX9_isGranted_95 ⟨Nat.le_of_ble_eq_true rfl, Nat.le_of_ble_eq_true rfl⟩ (fun r95 H locs hw hW _ hk hS => ?_)
    refine lv_iload_n hx hb dX9_isGranted_98 rfl (lv_at hl 1 rfl) ?_
    refine lv_iload_n hx hb dX9_isGranted_99 rfl (lv_at hl 2 rfl) ?_
    refine lv_iload_n hx hb dX9_isGranted_100 rfl (lv_at hl 3 rfl) ?_
    refine mk_callRi ⟨hx, hb, hml, hown, hts⟩ (c_X9_granting l D cI cZ cG cL am hw) (cwV 4 hts (gk_gV ml_X9_243 im_X9_granting se_X9_granting in_X9 co_X9_granting) rfl rfl rfl (by decide +kernel) ⟨Nat.le_of_ble_eq_true rfl, Nat.le_of_ble_eq_true rfl⟩) (gk_recv hK.1 (mk_obj hW) rfl) hW hK trivial hS rfl hl.1 (rest := []) rfl (lv_room (Nat.le_of_ble_eq_true rfl)) dX9_isGranted_101 ⟨Nat.le_of_ble_eq_true rfl, Nat.le_of_ble_eq_true rfl⟩ (fun r101 H locs hw hW _ hk hS => ?_)
    refine lv_iconst (v := (-1)) hx hb dX9_isGranted_104 (by decide) ?_
    refine lv_icmp_eq (tgt := 112) hx hb dX9_isGranted_105 (by decide) (fun c105 => ?_) (fun c105 => ?_)
    · have hw := hw.1 c105
      refine lv_iconst (v := 0) hx hb dX9_isGranted_112 (by decide) ?_
      refine W.widen (k := 0) (n := 0) (Nat.le_of_ble_eq_true rfl) (Nat.le_of_ble_eq_true rfl) ?_
      exact mk_retz C0 (by decide) ⟨rfl, hw⟩ hW hS dX9_isGranted_113
    · have hw := hw.2 c105
      refine lv_iconst (v := 1) hx hb dX9_isGranted_108 (by decide) ?_
      refine lv_goto (tgt := 113) hx hb dX9_isGranted_109 (by decide) ?_
      refine W.widen (k := 0) (n := 0) (Nat.le_of_ble_eq_true rfl) (Nat.le_of_ble_eq_true rfl) ?_
      exact mk_retz C0 (by decide) ⟨rfl, hw⟩ hW hS dX9_isGranted_113
def wJ_X9_rolesNeeded_127 (k57 : gk_C → Int32 → Int32 → Int32 → Int32 → Int32 → (Nat → Option (Nat → Int32)) → (Nat → Int32) → (Nat → Int32) → Prop) (σ : gk_C) (x1 : Int32) (x2 : Int32) (x3 : Int32) (x8 : Int32) (t0 : Int32) (t1 : Int32) (Nc34 : Nat → Option (Nat → Int32)) (fn44 : Nat → Int32) (fn50 : Nat → Int32) : Prop := (k57 σ x1 x2 x3 (t0 ||| t1) (x8 + 1) Nc34 fn44 fn50)
def wL_X9_rolesNeeded_57 (k219 : gk_C → Int32 → Int32 → Int32 → Int32 → (Nat → Int32) → (Nat → Int32) → Prop) : Nat → gk_C → Int32 → Int32 → Int32 → Int32 → Int32 → (Nat → Option (Nat → Int32)) → (Nat → Int32) → (Nat → Int32) → Prop
  | 0 => fun _ _ _ _ _ _ _ _ _ => False
  | n + 1 => fun σ x1 x2 x3 x5 x8 Nc34 fn44 fn50 => ((((σ.2 26) ≤ x8) → (k219 σ x1 x2 x3 x5 fn44 fn50)) ∧ ((¬ (σ.2 26) ≤ x8) → (vp_in x8 30 ∧ (((σ.2 1) < (σ.1 32 x8.toNatClampNeg)) → (vp_in x8 30 ∧ (((σ.1 27 x8.toNatClampNeg) = x1) → (vp_in x8 30 ∧ vp_in x8 30 ∧ w_X9_barred σ x1 (σ.1 29 x8.toNatClampNeg) (σ.1 30 x8.toNatClampNeg) (fun r149 => ((¬ r149 = 0) → (wL_X9_rolesNeeded_57 k219 n σ x1 x2 x3 x5 (x8 + 1) Nc34 fn44 fn50)) ∧ ((r149 = 0) → (vp_in x8 30 ∧ w_X9_barred σ x1 4 (σ.1 30 x8.toNatClampNeg) (fun r165 => ((¬ r165 = 0) → (wL_X9_rolesNeeded_57 k219 n σ x1 x2 x3 x5 (x8 + 1) Nc34 fn44 fn50)) ∧ ((r165 = 0) → (vp_in x8 30 ∧ vp_in x8 30 ∧ w_X9_fitting σ x1 (σ.1 29 x8.toNatClampNeg) (σ.1 30 x8.toNatClampNeg) (fun r191 => vp_in x8 30 ∧ vp_in x8 30 ∧ w_X9_fitting σ x1 4 (σ.1 30 x8.toNatClampNeg) (fun r209 => vp_in x8 30 ∧ wL_X9_rolesNeeded_57 k219 n σ x1 x2 x3 x5 (x8 + 1) Nc34 (upd fn44 x8.toNatClampNeg r191) (upd fn50 x8.toNatClampNeg r209))))))))))) ∧ ((¬ (σ.1 27 x8.toNatClampNeg) = x1) → (vp_in x8 30 ∧ vp_in (σ.1 27 x8.toNatClampNeg) 12 ∧ ∃ fe108, Nc34 (σ.1 27 x8.toNatClampNeg).toNatClampNeg = some fe108 ∧ w_X9_isByRules σ x8 fe108 (σ.2 2) (fun r113 => ((r113 = 0) → (wJ_X9_rolesNeeded_127 (fun σ x1 x2 x3 x5 x8 Nc34 fn44 fn50 => wL_X9_rolesNeeded_57 k219 n σ x1 x2 x3 x5 x8 Nc34 fn44 fn50) σ x1 x2 x3 x8 x5 0 Nc34 fn44 fn50)) ∧ ((¬ r113 = 0) → (wJ_X9_rolesNeeded_127 (fun σ x1 x2 x3 x5 x8 Nc34 fn44 fn50 => wL_X9_rolesNeeded_57 k219 n σ x1 x2 x3 x5 x8 Nc34 fn44 fn50) σ x1 x2 x3 x8 x5 (1 <<< (x8 &&& 31)) Nc34 fn44 fn50))))))) ∧ ((¬ (σ.2 1) < (σ.1 32 x8.toNatClampNeg)) → (wL_X9_rolesNeeded_57 k219 n σ x1 x2 x3 x5 (x8 + 1) Nc34 fn44 fn50)))))
def wJ_X9_rolesNeeded_373 (k240 : gk_C → Int32 → Int32 → Int32 → Int32 → Int32 → Int32 → Int32 → (Nat → Int32) → (Nat → Int32) → (Nat → Int32) → Prop) (σ : gk_C) (x1 : Int32) (x2 : Int32) (x3 : Int32) (x5 : Int32) (x8 : Int32) (x11 : Int32) (fn44 : Nat → Int32) (fn50 : Nat → Int32) (fn233 : Nat → Int32) : Prop := (w_X9_many x11 (fun r375 => k240 σ x1 x2 x3 x5 x8 r375 (x11 + 1) fn44 fn50 fn233))
def wJ_X9_rolesNeeded_279 (k240 : gk_C → Int32 → Int32 → Int32 → Int32 → Int32 → Int32 → Int32 → (Nat → Int32) → (Nat → Int32) → (Nat → Int32) → Prop) (σ : gk_C) (x1 : Int32) (x2 : Int32) (x3 : Int32) (x5 : Int32) (x8 : Int32) (x9 : Int32) (x11 : Int32) (fn44 : Nat → Int32) (fn50 : Nat → Int32) (fn233 : Nat → Int32) : Prop := (vp_in x1 12 ∧ w_X9_hasApart σ ((σ.1 4 x1.toNatClampNeg) ||| x11) (fun r289 => ((r289 = 0) → (vp_in x1 12 ∧ w_X9_nears_ σ ((σ.1 4 x1.toNatClampNeg) ||| x11) fn233 (fun fr310 => w_X9_own σ x8 x1 fr310 (fun r321 => wv_X9_weigh σ r321 fr310 x3 (σ.2 2) (fun r331 => ((r331 = (-1)) → (w_X9_isGranted σ x1 x2 x3 x5 fn44 fn50 fr310 (fun r367 => ((r367 = 0) → (k240 σ x1 x2 x3 x5 x8 x9 (x11 + 1) fn44 fn50 fr310)) ∧ ((¬ r367 = 0) → (wJ_X9_rolesNeeded_373 k240 σ x1 x2 x3 x5 x8 x11 fn44 fn50 fr310))))) ∧ ((¬ r331 = (-1)) → (vp_in r331 30 ∧ (((σ.1 17 r331.toNatClampNeg) = 0) → (k240 σ x1 x2 x3 x5 x8 x9 (x11 + 1) fn44 fn50 fr310)) ∧ ((¬ (σ.1 17 r331.toNatClampNeg) = 0) → (wJ_X9_rolesNeeded_373 k240 σ x1 x2 x3 x5 x8 x11 fn44 fn50 fr310))))))))) ∧ ((¬ r289 = 0) → (k240 σ x1 x2 x3 x5 x8 x9 (x11 + 1) fn44 fn50 fn233))))
def wL_X9_rolesNeeded_240 (Q : Int32 → gk_C → Prop) : Nat → gk_C → Int32 → Int32 → Int32 → Int32 → Int32 → Int32 → Int32 → (Nat → Int32) → (Nat → Int32) → (Nat → Int32) → Prop
  | 0 => fun _ _ _ _ _ _ _ _ _ _ _ => False
  | n + 1 => fun σ x1 x2 x3 x5 x8 x9 x11 fn44 fn50 fn233 => ((((1 <<< ((σ.2 7) &&& 31)) ≤ x11) → (Q x9 σ)) ∧ ((¬ (1 <<< ((σ.2 7) &&& 31)) ≤ x11) → (vp_in x1 12 ∧ ((¬ (x11 &&& (σ.1 4 x1.toNatClampNeg)) = 0) → (wL_X9_rolesNeeded_240 Q n σ x1 x2 x3 x5 x8 x9 (x11 + 1) fn44 fn50 fn233)) ∧ (((x11 &&& (σ.1 4 x1.toNatClampNeg)) = 0) → (((x9 = (-1)) → (wJ_X9_rolesNeeded_279 (fun σ x1 x2 x3 x5 x8 x9 x11 fn44 fn50 fn233 => wL_X9_rolesNeeded_240 Q n σ x1 x2 x3 x5 x8 x9 x11 fn44 fn50 fn233) σ x1 x2 x3 x5 x8 x9 x11 fn44 fn50 fn233)) ∧ ((¬ x9 = (-1)) → (w_X9_many x11 (fun r271 => ((x9 ≤ r271) → (wL_X9_rolesNeeded_240 Q n σ x1 x2 x3 x5 x8 x9 (x11 + 1) fn44 fn50 fn233)) ∧ ((¬ x9 ≤ r271) → (wJ_X9_rolesNeeded_279 (fun σ x1 x2 x3 x5 x8 x9 x11 fn44 fn50 fn233 => wL_X9_rolesNeeded_240 Q n σ x1 x2 x3 x5 x8 x9 x11 fn44 fn50 fn233) σ x1 x2 x3 x5 x8 x9 x11 fn44 fn50 fn233))))))))))
def w_X9_rolesNeeded (σ : gk_C) (a0 : Int32) (a1 : Int32) (a2 : Int32) (Q : Int32 → gk_C → Prop) : Prop := (w_X9_isQuestion (gk_s σ 0 0) a0 a1 a2 (fun r9 => ((¬ r9 = 0) → (w_X9_barred (gk_s σ 0 0) a0 a1 a2 (fun r25 => ((r25 = 0) → (w_X9_allNears (gk_s σ 0 0) (fun Nc34 => ∃ n57, wL_X9_rolesNeeded_57 (fun σ x1 x2 x3 x5 fn44 fn50 => (w_X9_fitting σ x1 x2 x3 (fun r223 => ∃ n240, wL_X9_rolesNeeded_240 Q n240 σ x1 x2 x3 x5 r223 (-1) 0 fn44 fn50 (fun _ => 0)))) n57 (gk_s σ 0 0) a0 a1 a2 0 0 Nc34 (fun _ => 0) (fun _ => 0)))) ∧ ((¬ r25 = 0) → (Q (-1) (gk_s σ 0 0)))))) ∧ ((r9 = 0) → (w_X9_no (gk_s σ 0 0) 1 (fun r17 σ17 => Q r17 σ17)))))
abbrev rmX9_rolesNeeded : Room := { frames := 7, cells := 16, slots := 228, locals := 169 }
set_option maxHeartbeats 4000000 in
set_option maxRecDepth 100000 in
theorem tJ_X9_rolesNeeded_127 {p : Program} {l : Launch} {e : Env} {s : State} {m : MethodId} {args : Array Value} {below : List Frame} {meth : Method} {c : Code} {D : va_G} {cI cZ cG cL : ClassId} {am : Nat → Nat} (C0 : gk_F p s m args meth c cX9_rolesNeeded 13 (some .int) RX9) (hK : gk_K D cI cZ cG cL s) {Q : Int32 → gk_C → Prop} {k57 : gk_C → Int32 → Int32 → Int32 → Int32 → Int32 → (Nat → Option (Nat → Int32)) → (Nat → Int32) → (Nat → Int32) → Prop} (hk57 : ∀ (σ : gk_C) (x1 : Int32) (x2 : Int32) (x3 : Int32) (x5 : Int32) (x8 : Int32) (Nc34 : Nat → Option (Nat → Int32)) (fn44 : Nat → Int32) (fn50 : Nat → Int32), k57 σ x1 x2 x3 x5 x8 Nc34 fn44 fn50 → ∀ (H : Heap) (locs : List Loc), mk_V D cI cZ am σ H → va_S (mk_A am s.heap.size) s.heap H locs → ∀ (qc34 : Nat), s.heap.size ≤ qc34 → ∀ (qn44 : Nat), s.heap.size ≤ qn44 → qc34 < qn44 → ∀ (qn50 : Nat), s.heap.size ≤ qn50 → qc34 < qn50 → qn44 < qn50 → mk_N D cI cG am qc34 qn44 Nc34 H → mk_D D cI am qn44 30 fn44 H → mk_D D cI am qn50 30 fn50 H → ∀ (ls : Array Slot), lv_has ls 13 [(0, .ref (am 38)), (1, .int x1), (2, .int x2), (3, .int x3), (4, .ref qc34), (5, .int x5), (6, .ref qn44), (7, .ref qn50), (8, .int x8)] → W p l e rmX9_rolesNeeded s m args below meth c H locs 15 216 (MQ below (va_Qi (fun r u => Q r u) (mk_B (mk_V D cI cZ am)) (mk_A am s.heap.size)) args s 16 228 (mk_A am s.heap.size)) (F0 m 57 ls [])) : ∀ (σ : gk_C) (x1 : Int32) (x2 : Int32) (x3 : Int32) (x8 : Int32) (t0 : Int32) (t1 : Int32) (Nc34 : Nat → Option (Nat → Int32)) (fn44 : Nat → Int32) (fn50 : Nat → Int32), wJ_X9_rolesNeeded_127 k57 σ x1 x2 x3 x8 t0 t1 Nc34 fn44 fn50 → ∀ (H : Heap) (locs : List Loc), mk_V D cI cZ am σ H → va_S (mk_A am s.heap.size) s.heap H locs → ∀ (qc34 : Nat), s.heap.size ≤ qc34 → ∀ (qn44 : Nat), s.heap.size ≤ qn44 → qc34 < qn44 → ∀ (qn50 : Nat), s.heap.size ≤ qn50 → qc34 < qn50 → qn44 < qn50 → mk_N D cI cG am qc34 qn44 Nc34 H → mk_D D cI am qn44 30 fn44 H → mk_D D cI am qn50 30 fn50 H → ∀ (ls : Array Slot), lv_has ls 13 [(0, .ref (am 38)), (1, .int x1), (2, .int x2), (3, .int x3), (4, .ref qc34), (6, .ref qn44), (7, .ref qn50), (8, .int x8)] → W p l e rmX9_rolesNeeded s m args below meth c H locs 15 216 (MQ below (va_Qi (fun r u => Q r u) (mk_B (mk_V D cI cZ am)) (mk_A am s.heap.size)) args s 16 228 (mk_A am s.heap.size)) (F0 m 127 ls [.int t1, .int t0]) := by
  obtain ⟨hx, hb, hml, hown, hts, hr, hlocks⟩ := id C0
  intro σ x1 x2 x3 x8 t0 t1 Nc34 fn44 fn50 hw H locs hW hS qc34 hgc34 qn44 hgn44 hlc34_n44 qn50 hgn50 hlc34_n50 hln44_n50 hdc34 hdn44 hdn50 ls hl
  refine lv_ior hx hb dX9_rolesNeeded_127 ?_
  refine lv_istore (lv' := [(5, .int (t0 ||| t1)), (0, .ref (am 38)), (1, .int x1), (2, .int x2), (3, .int x3), (4, .ref qc34), (6, .ref qn44), (7, .ref qn50), (8, .int x8)]) hx hb dX9_rolesNeeded_128 hl (by decide) rfl (fun ls hl => ?_)
  refine lv_goto (tgt := 213) hx hb dX9_rolesNeeded_130 (by decide) ?_
  refine lv_iinc (v := (x8 + 1)) (lv' := [(8, .int (x8 + 1)), (5, .int (t0 ||| t1)), (0, .ref (am 38)), (1, .int x1), (2, .int x2), (3, .int x3), (4, .ref qc34), (6, .ref qn44), (7, .ref qn50)]) hx hb dX9_rolesNeeded_213 hl (k := 8) rfl rfl (by decide) rfl (fun ls hl => ?_)
  refine lv_goto (tgt := 57) hx hb dX9_rolesNeeded_216 (by decide) ?_
  exact hk57 σ x1 x2 x3 (t0 ||| t1) (x8 + 1) Nc34 fn44 fn50 hw _ _ hW hS _ hgc34 _ hgn44 (by omega) _ hgn50 (by omega) (by omega) hdc34 hdn44 hdn50 _ (lv_sub hl [2, 3, 4, 5, 6, 1, 7, 8, 0] rfl)
set_option maxHeartbeats 4000000 in
set_option maxRecDepth 100000 in
theorem tL_X9_rolesNeeded_57 {p : Program} {l : Launch} {e : Env} {s : State} {m : MethodId} {args : Array Value} {below : List Frame} {meth : Method} {c : Code} {D : va_G} {cI cZ cG cL : ClassId} {am : Nat → Nat} (C0 : gk_F p s m args meth c cX9_rolesNeeded 13 (some .int) RX9) (hK : gk_K D cI cZ cG cL s) {Q : Int32 → gk_C → Prop} {k219 : gk_C → Int32 → Int32 → Int32 → Int32 → (Nat → Int32) → (Nat → Int32) → Prop} (hk219 : ∀ (σ : gk_C) (x1 : Int32) (x2 : Int32) (x3 : Int32) (x5 : Int32) (fn44 : Nat → Int32) (fn50 : Nat → Int32), k219 σ x1 x2 x3 x5 fn44 fn50 → ∀ (H : Heap) (locs : List Loc), mk_V D cI cZ am σ H → va_S (mk_A am s.heap.size) s.heap H locs → ∀ (qn44 : Nat), s.heap.size ≤ qn44 → ∀ (qn50 : Nat), s.heap.size ≤ qn50 → qn44 < qn50 → mk_D D cI am qn44 30 fn44 H → mk_D D cI am qn50 30 fn50 H → ∀ (ls : Array Slot), lv_has ls 13 [(0, .ref (am 38)), (1, .int x1), (2, .int x2), (3, .int x3), (5, .int x5), (6, .ref qn44), (7, .ref qn50)] → W p l e rmX9_rolesNeeded s m args below meth c H locs 15 216 (MQ below (va_Qi (fun r u => Q r u) (mk_B (mk_V D cI cZ am)) (mk_A am s.heap.size)) args s 16 228 (mk_A am s.heap.size)) (F0 m 219 ls [])) : ∀ (n : Nat) (σ : gk_C) (x1 : Int32) (x2 : Int32) (x3 : Int32) (x5 : Int32) (x8 : Int32) (Nc34 : Nat → Option (Nat → Int32)) (fn44 : Nat → Int32) (fn50 : Nat → Int32), wL_X9_rolesNeeded_57 k219 n σ x1 x2 x3 x5 x8 Nc34 fn44 fn50 → ∀ (H : Heap) (locs : List Loc), mk_V D cI cZ am σ H → va_S (mk_A am s.heap.size) s.heap H locs → ∀ (qc34 : Nat), s.heap.size ≤ qc34 → ∀ (qn44 : Nat), s.heap.size ≤ qn44 → qc34 < qn44 → ∀ (qn50 : Nat), s.heap.size ≤ qn50 → qc34 < qn50 → qn44 < qn50 → mk_N D cI cG am qc34 qn44 Nc34 H → mk_D D cI am qn44 30 fn44 H → mk_D D cI am qn50 30 fn50 H → ∀ (ls : Array Slot), lv_has ls 13 [(0, .ref (am 38)), (1, .int x1), (2, .int x2), (3, .int x3), (4, .ref qc34), (5, .int x5), (6, .ref qn44), (7, .ref qn50), (8, .int x8)] → W p l e rmX9_rolesNeeded s m args below meth c H locs 15 216 (MQ below (va_Qi (fun r u => Q r u) (mk_B (mk_V D cI cZ am)) (mk_A am s.heap.size)) args s 16 228 (mk_A am s.heap.size)) (F0 m 57 ls []) := by
  obtain ⟨hx, hb, hml, hown, hts, hr, hlocks⟩ := id C0
  intro n
  induction n with
  | zero => exact fun _ _ _ _ _ _ _ _ _ hw => False.elim hw
  | succ n ih =>
    intro σ x1 x2 x3 x5 x8 Nc34 fn44 fn50 hw H locs hW hS qc34 hgc34 qn44 hgn44 hlc34_n44 qn50 hgn50 hlc34_n50 hln44_n50 hdc34 hdn44 hdn50 ls hl
    refine lv_iload hx hb dX9_rolesNeeded_57 (lv_at hl 8 rfl) ?_
    refine lv_aload_n hx hb dX9_rolesNeeded_59 rfl (lv_at hl 0 rfl) ?_
    refine gk_get hx hb hts iwX9 hown hK.1 (mk_obj hW) rfl 26 (by decide) (hts _ fl_X9_233) (fun _ h9 => h9) rfl dX9_rolesNeeded_60 ?_
    refine lv_icmp_ge (tgt := 219) hx hb dX9_rolesNeeded_63 (by decide) (fun c63 => ?_) (fun c63 => ?_)
    · have hw := hw.1 c63
      exact hk219 σ x1 x2 x3 x5 fn44 fn50 hw _ _ hW hS _ hgn44 _ hgn50 (by omega) hdn44 hdn50 _ (lv_sub hl [0, 1, 2, 3, 5, 6, 7] rfl)
    · have hw := hw.2 c63
      refine lv_aload_n hx hb dX9_rolesNeeded_66 rfl (lv_at hl 0 rfl) ?_
      refine gk_get hx hb hts iwX9 hown hK.1 (mk_obj hW) rfl 32 (by decide) (hts _ fl_X9_84) (fun _ h9 => h9) rfl dX9_rolesNeeded_67 ?_
      refine lv_iload hx hb dX9_rolesNeeded_70 (lv_at hl 8 rfl) ?_
      obtain ⟨hin, hw⟩ := hw
      refine gk_iald hx hb hK.1 0 (mk_arr hW (k := 32) (by decide) (by decide) (by decide)) rfl hin dX9_rolesNeeded_72 ?_
      refine lv_aload_n hx hb dX9_rolesNeeded_73 rfl (lv_at hl 0 rfl) ?_
      refine gk_get hx hb hts iwX9 hown hK.1 (mk_obj hW) rfl 1 (by decide) (hts _ fl_X9_174) (fun _ h9 => h9) rfl dX9_rolesNeeded_74 ?_
      refine lv_icmp_gt (tgt := 83) hx hb dX9_rolesNeeded_77 (by decide) (fun c77 => ?_) (fun c77 => ?_)
      · have hw := hw.1 c77
        refine lv_aload_n hx hb dX9_rolesNeeded_83 rfl (lv_at hl 0 rfl) ?_
        refine gk_get hx hb hts iwX9 hown hK.1 (mk_obj hW) rfl 27 (by decide) (hts _ fl_X9_69) (fun _ h9 => h9) rfl dX9_rolesNeeded_84 ?_
        refine lv_iload hx hb dX9_rolesNeeded_87 (lv_at hl 8 rfl) ?_
        obtain ⟨hin, hw⟩ := hw
        refine gk_iald hx hb hK.1 0 (mk_arr hW (k := 27) (by decide) (by decide) (by decide)) rfl hin dX9_rolesNeeded_89 ?_
        refine lv_iload_n hx hb dX9_rolesNeeded_90 rfl (lv_at hl 1 rfl) ?_
        refine lv_icmp_eq (tgt := 133) hx hb dX9_rolesNeeded_91 (by decide) (fun c91 => ?_) (fun c91 => ?_)
        · have hw := hw.1 c91
          refine lv_aload_n hx hb dX9_rolesNeeded_133 rfl (lv_at hl 0 rfl) ?_
          refine lv_iload_n hx hb dX9_rolesNeeded_134 rfl (lv_at hl 1 rfl) ?_
          refine lv_aload_n hx hb dX9_rolesNeeded_135 rfl (lv_at hl 0 rfl) ?_
          refine gk_get hx hb hts iwX9 hown hK.1 (mk_obj hW) rfl 29 (by decide) (hts _ fl_X9_75) (fun _ h9 => h9) rfl dX9_rolesNeeded_136 ?_
          refine lv_iload hx hb dX9_rolesNeeded_139 (lv_at hl 8 rfl) ?_
          obtain ⟨hin, hw⟩ := hw
          refine gk_iald hx hb hK.1 0 (mk_arr hW (k := 29) (by decide) (by decide) (by decide)) rfl hin dX9_rolesNeeded_141 ?_
          refine lv_aload_n hx hb dX9_rolesNeeded_142 rfl (lv_at hl 0 rfl) ?_
          refine gk_get hx hb hts iwX9 hown hK.1 (mk_obj hW) rfl 30 (by decide) (hts _ fl_X9_78) (fun _ h9 => h9) rfl dX9_rolesNeeded_143 ?_
          refine lv_iload hx hb dX9_rolesNeeded_146 (lv_at hl 8 rfl) ?_
          obtain ⟨hin, hw⟩ := hw
          refine gk_iald hx hb hK.1 0 (mk_arr hW (k := 30) (by decide) (by decide) (by decide)) rfl hin dX9_rolesNeeded_148 ?_
          refine mk_callRi ⟨hx, hb, hml, hown, hts⟩ (c_X9_barred l D cI cZ cG cL am hw) (cwV 3 hts (gk_gV ml_X9_222 im_X9_barred se_X9_barred in_X9 co_X9_barred) rfl rfl rfl (by decide +kernel) ⟨Nat.le_of_ble_eq_true rfl, Nat.le_of_ble_eq_true rfl⟩) (gk_recv hK.1 (mk_obj hW) rfl) hW hK trivial hS rfl hl.1 (rest := []) rfl (lv_room (Nat.le_of_ble_eq_true rfl)) dX9_rolesNeeded_149 ⟨Nat.le_of_ble_eq_true rfl, Nat.le_of_ble_eq_true rfl⟩ (fun r149 H locs hw hW _ hk hS => ?_)
          have hdc34 := hdc34.kept hk
          have hdn44 := hdn44.kept hk
          have hdn50 := hdn50.kept hk
          refine lv_if_ne (tgt := 213) hx hb dX9_rolesNeeded_152 (by decide) (fun c152 => ?_) (fun c152 => ?_)
          · have hw := hw.1 c152
            refine lv_iinc (v := (x8 + 1)) (lv' := [(8, .int (x8 + 1)), (0, .ref (am 38)), (1, .int x1), (2, .int x2), (3, .int x3), (4, .ref qc34), (5, .int x5), (6, .ref qn44), (7, .ref qn50)]) hx hb dX9_rolesNeeded_213 hl (k := 8) rfl rfl (by decide) rfl (fun ls hl => ?_)
            refine lv_goto (tgt := 57) hx hb dX9_rolesNeeded_216 (by decide) ?_
            exact ih σ x1 x2 x3 x5 (x8 + 1) Nc34 fn44 fn50 hw _ _ hW hS _ hgc34 _ hgn44 (by omega) _ hgn50 (by omega) (by omega) hdc34 hdn44 hdn50 _ (lv_sub hl [1, 2, 3, 4, 5, 6, 7, 8, 0] rfl)
          · have hw := hw.2 c152
            refine lv_aload_n hx hb dX9_rolesNeeded_155 rfl (lv_at hl 0 rfl) ?_
            refine lv_iload_n hx hb dX9_rolesNeeded_156 rfl (lv_at hl 1 rfl) ?_
            refine lv_iconst (v := 4) hx hb dX9_rolesNeeded_157 (by decide) ?_
            refine lv_aload_n hx hb dX9_rolesNeeded_158 rfl (lv_at hl 0 rfl) ?_
            refine gk_get hx hb hts iwX9 hown hK.1 (mk_obj hW) rfl 30 (by decide) (hts _ fl_X9_78) (fun _ h9 => h9) rfl dX9_rolesNeeded_159 ?_
            refine lv_iload hx hb dX9_rolesNeeded_162 (lv_at hl 8 rfl) ?_
            obtain ⟨hin, hw⟩ := hw
            refine gk_iald hx hb hK.1 0 (mk_arr hW (k := 30) (by decide) (by decide) (by decide)) rfl hin dX9_rolesNeeded_164 ?_
            refine mk_callRi ⟨hx, hb, hml, hown, hts⟩ (c_X9_barred l D cI cZ cG cL am hw) (cwV 3 hts (gk_gV ml_X9_222 im_X9_barred se_X9_barred in_X9 co_X9_barred) rfl rfl rfl (by decide +kernel) ⟨Nat.le_of_ble_eq_true rfl, Nat.le_of_ble_eq_true rfl⟩) (gk_recv hK.1 (mk_obj hW) rfl) hW hK trivial hS rfl hl.1 (rest := []) rfl (lv_room (Nat.le_of_ble_eq_true rfl)) dX9_rolesNeeded_165 ⟨Nat.le_of_ble_eq_true rfl, Nat.le_of_ble_eq_true rfl⟩ (fun r165 H locs hw hW _ hk hS => ?_)
            have hdc34 := hdc34.kept hk
            have hdn44 := hdn44.kept hk
            have hdn50 := hdn50.kept hk
            refine lv_if_ne (tgt := 213) hx hb dX9_rolesNeeded_168 (by decide) (fun c168 => ?_) (fun c168 => ?_)
            · have hw := hw.1 c168
              refine lv_iinc (v := (x8 + 1)) (lv' := [(8, .int (x8 + 1)), (0, .ref (am 38)), (1, .int x1), (2, .int x2), (3, .int x3), (4, .ref qc34), (5, .int x5), (6, .ref qn44), (7, .ref qn50)]) hx hb dX9_rolesNeeded_213 hl (k := 8) rfl rfl (by decide) rfl (fun ls hl => ?_)
              refine lv_goto (tgt := 57) hx hb dX9_rolesNeeded_216 (by decide) ?_
              exact ih σ x1 x2 x3 x5 (x8 + 1) Nc34 fn44 fn50 hw _ _ hW hS _ hgc34 _ hgn44 (by omega) _ hgn50 (by omega) (by omega) hdc34 hdn44 hdn50 _ (lv_sub hl [1, 2, 3, 4, 5, 6, 7, 8, 0] rfl)
            · have hw := hw.2 c168
              refine lv_aload hx hb dX9_rolesNeeded_171 (lv_at hl 6 rfl) ?_
              refine lv_iload hx hb dX9_rolesNeeded_173 (lv_at hl 8 rfl) ?_
              refine lv_aload_n hx hb dX9_rolesNeeded_175 rfl (lv_at hl 0 rfl) ?_
              refine lv_iload_n hx hb dX9_rolesNeeded_176 rfl (lv_at hl 1 rfl) ?_
              refine lv_aload_n hx hb dX9_rolesNeeded_177 rfl (lv_at hl 0 rfl) ?_
              refine gk_get hx hb hts iwX9 hown hK.1 (mk_obj hW) rfl 29 (by decide) (hts _ fl_X9_75) (fun _ h9 => h9) rfl dX9_rolesNeeded_178 ?_
              refine lv_iload hx hb dX9_rolesNeeded_181 (lv_at hl 8 rfl) ?_
              obtain ⟨hin, hw⟩ := hw
              refine gk_iald hx hb hK.1 0 (mk_arr hW (k := 29) (by decide) (by decide) (by decide)) rfl hin dX9_rolesNeeded_183 ?_
              refine lv_aload_n hx hb dX9_rolesNeeded_184 rfl (lv_at hl 0 rfl) ?_
              refine gk_get hx hb hts iwX9 hown hK.1 (mk_obj hW) rfl 30 (by decide) (hts _ fl_X9_78) (fun _ h9 => h9) rfl dX9_rolesNeeded_185 ?_
              refine lv_iload hx hb dX9_rolesNeeded_188 (lv_at hl 8 rfl) ?_
              obtain ⟨hin, hw⟩ := hw
              refine gk_iald hx hb hK.1 0 (mk_arr hW (k := 30) (by decide) (by decide) (by decide)) rfl hin dX9_rolesNeeded_190 ?_
              refine mk_callRi ⟨hx, hb, hml, hown, hts⟩ (c_X9_fitting l D cI cZ cG cL am hw) (cwV 3 hts (gk_gV ml_X9_188 im_X9_fitting se_X9_fitting in_X9 co_X9_fitting) rfl rfl rfl (by decide +kernel) ⟨Nat.le_of_ble_eq_true rfl, Nat.le_of_ble_eq_true rfl⟩) (gk_recv hK.1 (mk_obj hW) rfl) hW hK trivial hS rfl hl.1 (rest := [.int x8, .ref qn44]) rfl (lv_room (Nat.le_of_ble_eq_true rfl)) dX9_rolesNeeded_191 ⟨Nat.le_of_ble_eq_true rfl, Nat.le_of_ble_eq_true rfl⟩ (fun r191 H locs hw hW _ hk hS => ?_)
              have hdc34 := hdc34.kept hk
              have hdn44 := hdn44.kept hk
              have hdn50 := hdn50.kept hk
              obtain ⟨hin, hw⟩ := hw
              refine gk_iast hx hb hK.1 hS (Or.inr hgn44) 0 hdn44.1 rfl hin dX9_rolesNeeded_194 (fun H locs h1 _ oq hS => ?_)
              have hW := hW.keptN hdn44.2 oq
              have hdc34 := hdc34.oqB (a := qn44) (by omega) oq
              have hdn50 := hdn50.oq oq (show qn50 ≠ qn44 by omega)
              have hdn44 : mk_D D cI am qn44 30 (upd fn44 x8.toNatClampNeg r191) H := ⟨h1, hdn44.2⟩
              refine lv_aload hx hb dX9_rolesNeeded_195 (lv_at hl 7 rfl) ?_
              refine lv_iload hx hb dX9_rolesNeeded_197 (lv_at hl 8 rfl) ?_
              refine lv_aload_n hx hb dX9_rolesNeeded_199 rfl (lv_at hl 0 rfl) ?_
              refine lv_iload_n hx hb dX9_rolesNeeded_200 rfl (lv_at hl 1 rfl) ?_
              refine lv_iconst (v := 4) hx hb dX9_rolesNeeded_201 (by decide) ?_
              refine lv_aload_n hx hb dX9_rolesNeeded_202 rfl (lv_at hl 0 rfl) ?_
              refine gk_get hx hb hts iwX9 hown hK.1 (mk_obj hW) rfl 30 (by decide) (hts _ fl_X9_78) (fun _ h9 => h9) rfl dX9_rolesNeeded_203 ?_
              refine lv_iload hx hb dX9_rolesNeeded_206 (lv_at hl 8 rfl) ?_
              obtain ⟨hin, hw⟩ := hw
              refine gk_iald hx hb hK.1 0 (mk_arr hW (k := 30) (by decide) (by decide) (by decide)) rfl hin dX9_rolesNeeded_208 ?_
              refine mk_callRi ⟨hx, hb, hml, hown, hts⟩ (c_X9_fitting l D cI cZ cG cL am hw) (cwV 3 hts (gk_gV ml_X9_188 im_X9_fitting se_X9_fitting in_X9 co_X9_fitting) rfl rfl rfl (by decide +kernel) ⟨Nat.le_of_ble_eq_true rfl, Nat.le_of_ble_eq_true rfl⟩) (gk_recv hK.1 (mk_obj hW) rfl) hW hK trivial hS rfl hl.1 (rest := [.int x8, .ref qn50]) rfl (lv_room (Nat.le_of_ble_eq_true rfl)) dX9_rolesNeeded_209 ⟨Nat.le_of_ble_eq_true rfl, Nat.le_of_ble_eq_true rfl⟩ (fun r209 H locs hw hW _ hk hS => ?_)
              have hdc34 := hdc34.kept hk
              have hdn44 := hdn44.kept hk
              have hdn50 := hdn50.kept hk
              obtain ⟨hin, hw⟩ := hw
              refine gk_iast hx hb hK.1 hS (Or.inr hgn50) 0 hdn50.1 rfl hin dX9_rolesNeeded_212 (fun H locs h1 _ oq hS => ?_)
              have hW := hW.keptN hdn50.2 oq
              have hdc34 := hdc34.oqB (a := qn50) (by omega) oq
              have hdn44 := hdn44.oq oq (show qn44 ≠ qn50 by omega)
              have hdn50 : mk_D D cI am qn50 30 (upd fn50 x8.toNatClampNeg r209) H := ⟨h1, hdn50.2⟩
              refine lv_iinc (v := (x8 + 1)) (lv' := [(8, .int (x8 + 1)), (0, .ref (am 38)), (1, .int x1), (2, .int x2), (3, .int x3), (4, .ref qc34), (5, .int x5), (6, .ref qn44), (7, .ref qn50)]) hx hb dX9_rolesNeeded_213 hl (k := 8) rfl rfl (by decide) rfl (fun ls hl => ?_)
              refine lv_goto (tgt := 57) hx hb dX9_rolesNeeded_216 (by decide) ?_
              exact ih σ x1 x2 x3 x5 (x8 + 1) Nc34 (upd fn44 x8.toNatClampNeg r191) (upd fn50 x8.toNatClampNeg r209) hw _ _ hW hS _ hgc34 _ hgn44 (by omega) _ hgn50 (by omega) (by omega) hdc34 hdn44 hdn50 _ (lv_sub hl [1, 2, 3, 4, 5, 6, 7, 8, 0] rfl)
        · have hw := hw.2 c91
          refine lv_iload hx hb dX9_rolesNeeded_94 (lv_at hl 5 rfl) ?_
          refine lv_aload_n hx hb dX9_rolesNeeded_96 rfl (lv_at hl 0 rfl) ?_
          refine lv_iload hx hb dX9_rolesNeeded_97 (lv_at hl 8 rfl) ?_
          refine lv_aload hx hb dX9_rolesNeeded_99 (lv_at hl 4 rfl) ?_
          refine lv_aload_n hx hb dX9_rolesNeeded_101 rfl (lv_at hl 0 rfl) ?_
          refine gk_get hx hb hts iwX9 hown hK.1 (mk_obj hW) rfl 27 (by decide) (hts _ fl_X9_69) (fun _ h9 => h9) rfl dX9_rolesNeeded_102 ?_
          refine lv_iload hx hb dX9_rolesNeeded_105 (lv_at hl 8 rfl) ?_
          obtain ⟨hin, hw⟩ := hw
          refine gk_iald hx hb hK.1 0 (mk_arr hW (k := 27) (by decide) (by decide) (by decide)) rfl hin dX9_rolesNeeded_107 ?_
          obtain ⟨hin, fe108, hfe108, hw⟩ := hw
          refine mk_aald hx hb hK.1 2 hdc34 rfl hin hfe108 dX9_rolesNeeded_108 (fun qe108 hde108 _ _ => ?_)
          refine lv_aload_n hx hb dX9_rolesNeeded_109 rfl (lv_at hl 0 rfl) ?_
          refine gk_get hx hb hts iwX9 hown hK.1 (mk_obj hW) rfl 2 (by decide) (hts _ fl_X9_171) (fun _ h9 => h9) rfl dX9_rolesNeeded_110 ?_
          refine mk_callRi ⟨hx, hb, hml, hown, hts⟩ (c_X9_isByRules l D cI cZ cG cL am hw) (cwV 3 hts (gk_gV ml_X9_236 im_X9_isByRules se_X9_isByRules in_X9 co_X9_isByRules) rfl rfl rfl (by decide +kernel) ⟨Nat.le_of_ble_eq_true rfl, Nat.le_of_ble_eq_true rfl⟩) (gk_recv hK.1 (mk_obj hW) rfl) hW hK ⟨hde108, trivial⟩ hS rfl hl.1 (rest := [.int x5]) rfl (lv_room (Nat.le_of_ble_eq_true rfl)) dX9_rolesNeeded_113 ⟨Nat.le_of_ble_eq_true rfl, Nat.le_of_ble_eq_true rfl⟩ (fun r113 H locs hw hW _ hk hS => ?_)
          have hdc34 := hdc34.kept hk
          have hdn44 := hdn44.kept hk
          have hdn50 := hdn50.kept hk
          refine lv_if_eq (tgt := 126) hx hb dX9_rolesNeeded_116 (by decide) (fun c116 => ?_) (fun c116 => ?_)
          · have hw := hw.1 c116
            refine lv_iconst (v := 0) hx hb dX9_rolesNeeded_126 (by decide) ?_
            refine tJ_X9_rolesNeeded_127 C0 hK (hk57 := ih) σ x1 x2 x3 x8 x5 0 Nc34 fn44 fn50 hw _ _ hW hS _ hgc34 _ hgn44 (by omega) _ hgn50 (by omega) (by omega) hdc34 hdn44 hdn50 _ (lv_sub hl [0, 1, 2, 3, 4, 6, 7, 8] rfl)
          · have hw := hw.2 c116
            refine lv_iconst (v := 1) hx hb dX9_rolesNeeded_119 (by decide) ?_
            refine lv_iload hx hb dX9_rolesNeeded_120 (lv_at hl 8 rfl) ?_
            refine lv_ishl hx hb dX9_rolesNeeded_122 ?_
            refine lv_goto (tgt := 127) hx hb dX9_rolesNeeded_123 (by decide) ?_
            refine tJ_X9_rolesNeeded_127 C0 hK (hk57 := ih) σ x1 x2 x3 x8 x5 (1 <<< (x8 &&& 31)) Nc34 fn44 fn50 hw _ _ hW hS _ hgc34 _ hgn44 (by omega) _ hgn50 (by omega) (by omega) hdc34 hdn44 hdn50 _ (lv_sub hl [0, 1, 2, 3, 4, 6, 7, 8] rfl)
      · have hw := hw.2 c77
        refine lv_goto (tgt := 213) hx hb dX9_rolesNeeded_80 (by decide) ?_
        refine lv_iinc (v := (x8 + 1)) (lv' := [(8, .int (x8 + 1)), (0, .ref (am 38)), (1, .int x1), (2, .int x2), (3, .int x3), (4, .ref qc34), (5, .int x5), (6, .ref qn44), (7, .ref qn50)]) hx hb dX9_rolesNeeded_213 hl (k := 8) rfl rfl (by decide) rfl (fun ls hl => ?_)
        refine lv_goto (tgt := 57) hx hb dX9_rolesNeeded_216 (by decide) ?_
        exact ih σ x1 x2 x3 x5 (x8 + 1) Nc34 fn44 fn50 hw _ _ hW hS _ hgc34 _ hgn44 (by omega) _ hgn50 (by omega) (by omega) hdc34 hdn44 hdn50 _ (lv_sub hl [1, 2, 3, 4, 5, 6, 7, 8, 0] rfl)
set_option maxHeartbeats 4000000 in
set_option maxRecDepth 100000 in
theorem tJ_X9_rolesNeeded_373 {p : Program} {l : Launch} {e : Env} {s : State} {m : MethodId} {args : Array Value} {below : List Frame} {meth : Method} {c : Code} {D : va_G} {cI cZ cG cL : ClassId} {am : Nat → Nat} (C0 : gk_F p s m args meth c cX9_rolesNeeded 13 (some .int) RX9) (hK : gk_K D cI cZ cG cL s) {Q : Int32 → gk_C → Prop} {k240 : gk_C → Int32 → Int32 → Int32 → Int32 → Int32 → Int32 → Int32 → (Nat → Int32) → (Nat → Int32) → (Nat → Int32) → Prop} (hk240 : ∀ (σ : gk_C) (x1 : Int32) (x2 : Int32) (x3 : Int32) (x5 : Int32) (x8 : Int32) (x9 : Int32) (x11 : Int32) (fn44 : Nat → Int32) (fn50 : Nat → Int32) (fn233 : Nat → Int32), k240 σ x1 x2 x3 x5 x8 x9 x11 fn44 fn50 fn233 → ∀ (H : Heap) (locs : List Loc), mk_V D cI cZ am σ H → va_S (mk_A am s.heap.size) s.heap H locs → ∀ (qn44 : Nat), s.heap.size ≤ qn44 → ∀ (qn50 : Nat), s.heap.size ≤ qn50 → qn44 < qn50 → ∀ (qn233 : Nat), s.heap.size ≤ qn233 → qn44 < qn233 → qn50 < qn233 → mk_D D cI am qn44 30 fn44 H → mk_D D cI am qn50 30 fn50 H → mk_D D cI am qn233 12 fn233 H → ∀ (ls : Array Slot), lv_has ls 13 [(0, .ref (am 38)), (1, .int x1), (2, .int x2), (3, .int x3), (5, .int x5), (6, .ref qn44), (7, .ref qn50), (8, .int x8), (9, .int x9), (10, .ref qn233), (11, .int x11)] → W p l e rmX9_rolesNeeded s m args below meth c H locs 16 228 (MQ below (va_Qi (fun r u => Q r u) (mk_B (mk_V D cI cZ am)) (mk_A am s.heap.size)) args s 16 228 (mk_A am s.heap.size)) (F0 m 240 ls [])) : ∀ (σ : gk_C) (x1 : Int32) (x2 : Int32) (x3 : Int32) (x5 : Int32) (x8 : Int32) (x11 : Int32) (fn44 : Nat → Int32) (fn50 : Nat → Int32) (fn233 : Nat → Int32), wJ_X9_rolesNeeded_373 k240 σ x1 x2 x3 x5 x8 x11 fn44 fn50 fn233 → ∀ (H : Heap) (locs : List Loc), mk_V D cI cZ am σ H → va_S (mk_A am s.heap.size) s.heap H locs → ∀ (qn44 : Nat), s.heap.size ≤ qn44 → ∀ (qn50 : Nat), s.heap.size ≤ qn50 → qn44 < qn50 → ∀ (qn233 : Nat), s.heap.size ≤ qn233 → qn44 < qn233 → qn50 < qn233 → mk_D D cI am qn44 30 fn44 H → mk_D D cI am qn50 30 fn50 H → mk_D D cI am qn233 12 fn233 H → ∀ (ls : Array Slot), lv_has ls 13 [(0, .ref (am 38)), (1, .int x1), (2, .int x2), (3, .int x3), (5, .int x5), (6, .ref qn44), (7, .ref qn50), (8, .int x8), (10, .ref qn233), (11, .int x11)] → W p l e rmX9_rolesNeeded s m args below meth c H locs 16 228 (MQ below (va_Qi (fun r u => Q r u) (mk_B (mk_V D cI cZ am)) (mk_A am s.heap.size)) args s 16 228 (mk_A am s.heap.size)) (F0 m 373 ls []) := by
  obtain ⟨hx, hb, hml, hown, hts, hr, hlocks⟩ := id C0
  intro σ x1 x2 x3 x5 x8 x11 fn44 fn50 fn233 hw H locs hW hS qn44 hgn44 qn50 hgn50 hln44_n50 qn233 hgn233 hln44_n233 hln50_n233 hdn44 hdn50 hdn233 ls hl
  refine lv_iload hx hb dX9_rolesNeeded_373 (lv_at hl 9 rfl) ?_
  refine gk_callSi ⟨hx, hb, hml, hown, hts⟩ (c_X9_many l hw) (va_cwS 1 hts (gk_gS ml_X9_272 st_X9_many in_X9 co_X9_many) rfl rfl rfl (by decide +kernel) ⟨Nat.le_of_ble_eq_true rfl, Nat.le_of_ble_eq_true rfl⟩) hS rfl hl.1 (rest := []) rfl (lv_room (Nat.le_of_ble_eq_true rfl)) dX9_rolesNeeded_375 ⟨Nat.le_of_ble_eq_true rfl, Nat.le_of_ble_eq_true rfl⟩ (fun r375 H locs hw _ hk hS => ?_)
  have hW := hW.keptAll hk
  have hdn44 := hdn44.keptAll hk
  have hdn50 := hdn50.keptAll hk
  have hdn233 := hdn233.keptAll hk
  refine lv_istore (lv' := [(9, .int r375), (0, .ref (am 38)), (1, .int x1), (2, .int x2), (3, .int x3), (5, .int x5), (6, .ref qn44), (7, .ref qn50), (8, .int x8), (10, .ref qn233), (11, .int x11)]) hx hb dX9_rolesNeeded_378 hl (by decide) rfl (fun ls hl => ?_)
  refine lv_iinc (v := (x11 + 1)) (lv' := [(11, .int (x11 + 1)), (9, .int r375), (0, .ref (am 38)), (1, .int x1), (2, .int x2), (3, .int x3), (5, .int x5), (6, .ref qn44), (7, .ref qn50), (8, .int x8), (10, .ref qn233)]) hx hb dX9_rolesNeeded_380 hl (k := 10) rfl rfl (by decide) rfl (fun ls hl => ?_)
  refine lv_goto (tgt := 240) hx hb dX9_rolesNeeded_383 (by decide) ?_
  exact hk240 σ x1 x2 x3 x5 x8 r375 (x11 + 1) fn44 fn50 fn233 hw _ _ hW hS _ hgn44 _ hgn50 (by omega) _ hgn233 (by omega) (by omega) hdn44 hdn50 hdn233 _ (lv_sub hl [2, 3, 4, 5, 6, 7, 8, 9, 1, 10, 0] rfl)
set_option maxHeartbeats 4000000 in
set_option maxRecDepth 100000 in
theorem tJ_X9_rolesNeeded_279 {p : Program} {l : Launch} {e : Env} {s : State} {m : MethodId} {args : Array Value} {below : List Frame} {meth : Method} {c : Code} {D : va_G} {cI cZ cG cL : ClassId} {am : Nat → Nat} (C0 : gk_F p s m args meth c cX9_rolesNeeded 13 (some .int) RX9) (hK : gk_K D cI cZ cG cL s) {Q : Int32 → gk_C → Prop} {k240 : gk_C → Int32 → Int32 → Int32 → Int32 → Int32 → Int32 → Int32 → (Nat → Int32) → (Nat → Int32) → (Nat → Int32) → Prop} (hk240 : ∀ (σ : gk_C) (x1 : Int32) (x2 : Int32) (x3 : Int32) (x5 : Int32) (x8 : Int32) (x9 : Int32) (x11 : Int32) (fn44 : Nat → Int32) (fn50 : Nat → Int32) (fn233 : Nat → Int32), k240 σ x1 x2 x3 x5 x8 x9 x11 fn44 fn50 fn233 → ∀ (H : Heap) (locs : List Loc), mk_V D cI cZ am σ H → va_S (mk_A am s.heap.size) s.heap H locs → ∀ (qn44 : Nat), s.heap.size ≤ qn44 → ∀ (qn50 : Nat), s.heap.size ≤ qn50 → qn44 < qn50 → ∀ (qn233 : Nat), s.heap.size ≤ qn233 → qn44 < qn233 → qn50 < qn233 → mk_D D cI am qn44 30 fn44 H → mk_D D cI am qn50 30 fn50 H → mk_D D cI am qn233 12 fn233 H → ∀ (ls : Array Slot), lv_has ls 13 [(0, .ref (am 38)), (1, .int x1), (2, .int x2), (3, .int x3), (5, .int x5), (6, .ref qn44), (7, .ref qn50), (8, .int x8), (9, .int x9), (10, .ref qn233), (11, .int x11)] → W p l e rmX9_rolesNeeded s m args below meth c H locs 16 228 (MQ below (va_Qi (fun r u => Q r u) (mk_B (mk_V D cI cZ am)) (mk_A am s.heap.size)) args s 16 228 (mk_A am s.heap.size)) (F0 m 240 ls [])) : ∀ (σ : gk_C) (x1 : Int32) (x2 : Int32) (x3 : Int32) (x5 : Int32) (x8 : Int32) (x9 : Int32) (x11 : Int32) (fn44 : Nat → Int32) (fn50 : Nat → Int32) (fn233 : Nat → Int32), wJ_X9_rolesNeeded_279 k240 σ x1 x2 x3 x5 x8 x9 x11 fn44 fn50 fn233 → ∀ (H : Heap) (locs : List Loc), mk_V D cI cZ am σ H → va_S (mk_A am s.heap.size) s.heap H locs → ∀ (qn44 : Nat), s.heap.size ≤ qn44 → ∀ (qn50 : Nat), s.heap.size ≤ qn50 → qn44 < qn50 → ∀ (qn233 : Nat), s.heap.size ≤ qn233 → qn44 < qn233 → qn50 < qn233 → mk_D D cI am qn44 30 fn44 H → mk_D D cI am qn50 30 fn50 H → mk_D D cI am qn233 12 fn233 H → ∀ (ls : Array Slot), lv_has ls 13 [(0, .ref (am 38)), (1, .int x1), (2, .int x2), (3, .int x3), (5, .int x5), (6, .ref qn44), (7, .ref qn50), (8, .int x8), (9, .int x9), (10, .ref qn233), (11, .int x11)] → W p l e rmX9_rolesNeeded s m args below meth c H locs 16 228 (MQ below (va_Qi (fun r u => Q r u) (mk_B (mk_V D cI cZ am)) (mk_A am s.heap.size)) args s 16 228 (mk_A am s.heap.size)) (F0 m 279 ls []) := by
  obtain ⟨hx, hb, hml, hown, hts, hr, hlocks⟩ := id C0
  intro σ x1 x2 x3 x5 x8 x9 x11 fn44 fn50 fn233 hw H locs hW hS qn44 hgn44 qn50 hgn50 hln44_n50 qn233 hgn233 hln44_n233 hln50_n233 hdn44 hdn50 hdn233 ls hl
  refine lv_aload_n hx hb dX9_rolesNeeded_279 rfl (lv_at hl 0 rfl) ?_
  refine lv_aload_n hx hb dX9_rolesNeeded_280 rfl (lv_at hl 0 rfl) ?_
  refine gk_get hx hb hts iwX9 hown hK.1 (mk_obj hW) rfl 4 (by decide) (hts _ fl_X9_9) (fun _ h9 => h9) rfl dX9_rolesNeeded_281 ?_
  refine lv_iload_n hx hb dX9_rolesNeeded_284 rfl (lv_at hl 1 rfl) ?_
  obtain ⟨hin, hw⟩ := hw
  refine gk_iald hx hb hK.1 0 (mk_arr hW (k := 4) (by decide) (by decide) (by decide)) rfl hin dX9_rolesNeeded_285 ?_
  refine lv_iload hx hb dX9_rolesNeeded_286 (lv_at hl 10 rfl) ?_
  refine lv_ior hx hb dX9_rolesNeeded_288 ?_
  refine mk_callRi ⟨hx, hb, hml, hown, hts⟩ (c_X9_hasApart l D cI cZ cG cL am hw) (cwV 1 hts (gk_gV ml_X9_136 im_X9_hasApart se_X9_hasApart in_X9 co_X9_hasApart) rfl rfl rfl (by decide +kernel) ⟨Nat.le_of_ble_eq_true rfl, Nat.le_of_ble_eq_true rfl⟩) (gk_recv hK.1 (mk_obj hW) rfl) hW hK trivial hS rfl hl.1 (rest := []) rfl (lv_room (Nat.le_of_ble_eq_true rfl)) dX9_rolesNeeded_289 ⟨Nat.le_of_ble_eq_true rfl, Nat.le_of_ble_eq_true rfl⟩ (fun r289 H locs hw hW _ hk hS => ?_)
  have hdn44 := hdn44.kept hk
  have hdn50 := hdn50.kept hk
  have hdn233 := hdn233.kept hk
  refine lv_if_eq (tgt := 298) hx hb dX9_rolesNeeded_292 (by decide) (fun c292 => ?_) (fun c292 => ?_)
  · have hw := hw.1 c292
    refine lv_aload_n hx hb dX9_rolesNeeded_298 rfl (lv_at hl 0 rfl) ?_
    refine lv_aload_n hx hb dX9_rolesNeeded_299 rfl (lv_at hl 0 rfl) ?_
    refine gk_get hx hb hts iwX9 hown hK.1 (mk_obj hW) rfl 4 (by decide) (hts _ fl_X9_9) (fun _ h9 => h9) rfl dX9_rolesNeeded_300 ?_
    refine lv_iload_n hx hb dX9_rolesNeeded_303 rfl (lv_at hl 1 rfl) ?_
    obtain ⟨hin, hw⟩ := hw
    refine gk_iald hx hb hK.1 0 (mk_arr hW (k := 4) (by decide) (by decide) (by decide)) rfl hin dX9_rolesNeeded_304 ?_
    refine lv_iload hx hb dX9_rolesNeeded_305 (lv_at hl 10 rfl) ?_
    refine lv_ior hx hb dX9_rolesNeeded_307 ?_
    refine lv_aload hx hb dX9_rolesNeeded_308 (lv_at hl 9 rfl) ?_
    refine mk_callN ⟨hx, hb, hml, hown, hts⟩ (c_X9_nears_ l D cI cZ cG cL am ⟨hdn233.2 38 (by decide), hdn233.2 8 (by decide)⟩ hw) (cwV 2 hts (gk_gV ml_X9_125 im_X9_nears_ se_X9_nears_ in_X9 co_X9_nears_) rfl rfl rfl (by decide +kernel) ⟨Nat.le_of_ble_eq_true rfl, Nat.le_of_ble_eq_true rfl⟩) hW.NW hdn233.1 hK hS (Or.inr hgn233) hl.1 (rest := []) (lv_room (Nat.le_of_ble_eq_true rfl)) dX9_rolesNeeded_310 ⟨Nat.le_of_ble_eq_true rfl, Nat.le_of_ble_eq_true rfl⟩ (fun fr310 H locs hw h1 hk _ hS => ?_)
    have hW := hW.keptK hdn233.2 hk
    have hdn44 := hdn44.okk hk (by omega)
    have hdn50 := hdn50.okk hk (by omega)
    have hdn233 : mk_D D cI am qn233 12 fr310 H := ⟨h1, hdn233.2⟩
    refine lv_pop hx hb dX9_rolesNeeded_313 rfl ?_
    refine lv_aload_n hx hb dX9_rolesNeeded_314 rfl (lv_at hl 0 rfl) ?_
    refine lv_aload_n hx hb dX9_rolesNeeded_315 rfl (lv_at hl 0 rfl) ?_
    refine lv_iload hx hb dX9_rolesNeeded_316 (lv_at hl 7 rfl) ?_
    refine lv_iload_n hx hb dX9_rolesNeeded_318 rfl (lv_at hl 1 rfl) ?_
    refine lv_aload hx hb dX9_rolesNeeded_319 (lv_at hl 9 rfl) ?_
    refine mk_callRi ⟨hx, hb, hml, hown, hts⟩ (c_X9_own l D cI cZ cG cL am hw) (cwV 3 hts (gk_gV ml_X9_192 im_X9_own se_X9_own in_X9 co_X9_own) rfl rfl rfl (by decide +kernel) ⟨Nat.le_of_ble_eq_true rfl, Nat.le_of_ble_eq_true rfl⟩) (gk_recv hK.1 (mk_obj hW) rfl) hW hK ⟨hdn233, trivial⟩ hS rfl hl.1 (rest := [.ref (am 38)]) rfl (lv_room (Nat.le_of_ble_eq_true rfl)) dX9_rolesNeeded_321 ⟨Nat.le_of_ble_eq_true rfl, Nat.le_of_ble_eq_true rfl⟩ (fun r321 H locs hw hW _ hk hS => ?_)
    have hdn44 := hdn44.kept hk
    have hdn50 := hdn50.kept hk
    have hdn233 := hdn233.kept hk
    refine lv_aload hx hb dX9_rolesNeeded_324 (lv_at hl 9 rfl) ?_
    refine lv_iload_n hx hb dX9_rolesNeeded_326 rfl (lv_at hl 3 rfl) ?_
    refine lv_aload_n hx hb dX9_rolesNeeded_327 rfl (lv_at hl 0 rfl) ?_
    refine gk_get hx hb hts iwX9 hown hK.1 (mk_obj hW) rfl 2 (by decide) (hts _ fl_X9_171) (fun _ h9 => h9) rfl dX9_rolesNeeded_328 ?_
    refine mk_callRi ⟨hx, hb, hml, hown, hts⟩ (c_X9_weighV l D cI cZ cG cL am hw) (cwV 4 hts (gk_gV ml_X9_215 im_X9_weigh se_X9_weigh in_X9 co_X9_weigh) rfl rfl rfl (by decide +kernel) ⟨Nat.le_of_ble_eq_true rfl, Nat.le_of_ble_eq_true rfl⟩) (gk_recv hK.1 (mk_obj hW) rfl) hW hK ⟨hdn233, trivial⟩ hS rfl hl.1 (rest := []) rfl (lv_room (Nat.le_of_ble_eq_true rfl)) dX9_rolesNeeded_331 ⟨Nat.le_of_ble_eq_true rfl, Nat.le_of_ble_eq_true rfl⟩ (fun r331 H locs hw hW _ hk hS => ?_)
    have hdn44 := hdn44.kept hk
    have hdn50 := hdn50.kept hk
    have hdn233 := hdn233.kept hk
    refine lv_istore (lv' := [(12, .int r331), (0, .ref (am 38)), (1, .int x1), (2, .int x2), (3, .int x3), (5, .int x5), (6, .ref qn44), (7, .ref qn50), (8, .int x8), (9, .int x9), (10, .ref qn233), (11, .int x11)]) hx hb dX9_rolesNeeded_334 hl (by decide) rfl (fun ls hl => ?_)
    refine lv_iload hx hb dX9_rolesNeeded_336 (lv_at hl 0 rfl) ?_
    refine lv_iconst (v := (-1)) hx hb dX9_rolesNeeded_338 (by decide) ?_
    refine lv_icmp_eq (tgt := 355) hx hb dX9_rolesNeeded_339 (by decide) (fun c339 => ?_) (fun c339 => ?_)
    · have hw := hw.1 c339
      refine lv_aload_n hx hb dX9_rolesNeeded_355 rfl (lv_at hl 1 rfl) ?_
      refine lv_iload_n hx hb dX9_rolesNeeded_356 rfl (lv_at hl 2 rfl) ?_
      refine lv_iload_n hx hb dX9_rolesNeeded_357 rfl (lv_at hl 3 rfl) ?_
      refine lv_iload_n hx hb dX9_rolesNeeded_358 rfl (lv_at hl 4 rfl) ?_
      refine lv_iload hx hb dX9_rolesNeeded_359 (lv_at hl 5 rfl) ?_
      refine lv_aload hx hb dX9_rolesNeeded_361 (lv_at hl 6 rfl) ?_
      refine lv_aload hx hb dX9_rolesNeeded_363 (lv_at hl 7 rfl) ?_
      refine lv_aload hx hb dX9_rolesNeeded_365 (lv_at hl 10 rfl) ?_
      refine mk_callRi ⟨hx, hb, hml, hown, hts⟩ (c_X9_isGranted l D cI cZ cG cL am hw) (cwV 7 hts (gk_gV ml_X9_275 im_X9_isGranted se_X9_isGranted in_X9 co_X9_isGranted) rfl rfl rfl (by decide +kernel) ⟨Nat.le_of_ble_eq_true rfl, Nat.le_of_ble_eq_true rfl⟩) (gk_recv hK.1 (mk_obj hW) rfl) hW hK ⟨hdn44, hdn50, hdn233, trivial⟩ hS rfl hl.1 (rest := []) rfl (lv_room (Nat.le_of_ble_eq_true rfl)) dX9_rolesNeeded_367 ⟨Nat.le_of_ble_eq_true rfl, Nat.le_of_ble_eq_true rfl⟩ (fun r367 H locs hw hW _ hk hS => ?_)
      have hdn44 := hdn44.kept hk
      have hdn50 := hdn50.kept hk
      have hdn233 := hdn233.kept hk
      refine lv_if_eq (tgt := 380) hx hb dX9_rolesNeeded_370 (by decide) (fun c370 => ?_) (fun c370 => ?_)
      · have hw := hw.1 c370
        refine lv_iinc (v := (x11 + 1)) (lv' := [(11, .int (x11 + 1)), (12, .int r331), (0, .ref (am 38)), (1, .int x1), (2, .int x2), (3, .int x3), (5, .int x5), (6, .ref qn44), (7, .ref qn50), (8, .int x8), (9, .int x9), (10, .ref qn233)]) hx hb dX9_rolesNeeded_380 hl (k := 11) rfl rfl (by decide) rfl (fun ls hl => ?_)
        refine lv_goto (tgt := 240) hx hb dX9_rolesNeeded_383 (by decide) ?_
        exact hk240 σ x1 x2 x3 x5 x8 x9 (x11 + 1) fn44 fn50 fr310 hw _ _ hW hS _ hgn44 _ hgn50 (by omega) _ hgn233 (by omega) (by omega) hdn44 hdn50 hdn233 _ (lv_sub hl [2, 3, 4, 5, 6, 7, 8, 9, 10, 11, 0] rfl)
      · have hw := hw.2 c370
        refine tJ_X9_rolesNeeded_373 C0 hK (hk240 := hk240) σ x1 x2 x3 x5 x8 x11 fn44 fn50 fr310 hw _ _ hW hS _ hgn44 _ hgn50 (by omega) _ hgn233 (by omega) (by omega) hdn44 hdn50 hdn233 _ (lv_sub hl [1, 2, 3, 4, 5, 6, 7, 8, 10, 11] rfl)
    · have hw := hw.2 c339
      refine lv_aload_n hx hb dX9_rolesNeeded_342 rfl (lv_at hl 1 rfl) ?_
      refine gk_get hx hb hts iwX9 hown hK.1 (mk_obj hW) rfl 17 (by decide) (hts _ fl_X9_41) (fun _ h9 => h9) rfl dX9_rolesNeeded_343 ?_
      refine lv_iload hx hb dX9_rolesNeeded_346 (lv_at hl 0 rfl) ?_
      obtain ⟨hin, hw⟩ := hw
      refine gk_zald hx hb hK.1 1 (mk_arr hW (k := 17) (by decide) (by decide) (by decide)) rfl hin dX9_rolesNeeded_348 ?_
      refine lv_if_eq (tgt := 380) hx hb dX9_rolesNeeded_349 (by decide) (fun c349 => ?_) (fun c349 => ?_)
      · have hw := hw.1 c349
        refine lv_iinc (v := (x11 + 1)) (lv' := [(11, .int (x11 + 1)), (12, .int r331), (0, .ref (am 38)), (1, .int x1), (2, .int x2), (3, .int x3), (5, .int x5), (6, .ref qn44), (7, .ref qn50), (8, .int x8), (9, .int x9), (10, .ref qn233)]) hx hb dX9_rolesNeeded_380 hl (k := 11) rfl rfl (by decide) rfl (fun ls hl => ?_)
        refine lv_goto (tgt := 240) hx hb dX9_rolesNeeded_383 (by decide) ?_
        exact hk240 σ x1 x2 x3 x5 x8 x9 (x11 + 1) fn44 fn50 fr310 hw _ _ hW hS _ hgn44 _ hgn50 (by omega) _ hgn233 (by omega) (by omega) hdn44 hdn50 hdn233 _ (lv_sub hl [2, 3, 4, 5, 6, 7, 8, 9, 10, 11, 0] rfl)
      · have hw := hw.2 c349
        refine lv_goto (tgt := 373) hx hb dX9_rolesNeeded_352 (by decide) ?_
        refine tJ_X9_rolesNeeded_373 C0 hK (hk240 := hk240) σ x1 x2 x3 x5 x8 x11 fn44 fn50 fr310 hw _ _ hW hS _ hgn44 _ hgn50 (by omega) _ hgn233 (by omega) (by omega) hdn44 hdn50 hdn233 _ (lv_sub hl [1, 2, 3, 4, 5, 6, 7, 8, 10, 11] rfl)
  · have hw := hw.2 c292
    refine lv_goto (tgt := 380) hx hb dX9_rolesNeeded_295 (by decide) ?_
    refine lv_iinc (v := (x11 + 1)) (lv' := [(11, .int (x11 + 1)), (0, .ref (am 38)), (1, .int x1), (2, .int x2), (3, .int x3), (5, .int x5), (6, .ref qn44), (7, .ref qn50), (8, .int x8), (9, .int x9), (10, .ref qn233)]) hx hb dX9_rolesNeeded_380 hl (k := 10) rfl rfl (by decide) rfl (fun ls hl => ?_)
    refine lv_goto (tgt := 240) hx hb dX9_rolesNeeded_383 (by decide) ?_
    exact hk240 σ x1 x2 x3 x5 x8 x9 (x11 + 1) fn44 fn50 fn233 hw _ _ hW hS _ hgn44 _ hgn50 (by omega) _ hgn233 (by omega) (by omega) hdn44 hdn50 hdn233 _ (lv_sub hl [1, 2, 3, 4, 5, 6, 7, 8, 9, 10, 0] rfl)
set_option maxHeartbeats 4000000 in
set_option maxRecDepth 100000 in
theorem tL_X9_rolesNeeded_240 {p : Program} {l : Launch} {e : Env} {s : State} {m : MethodId} {args : Array Value} {below : List Frame} {meth : Method} {c : Code} {D : va_G} {cI cZ cG cL : ClassId} {am : Nat → Nat} (C0 : gk_F p s m args meth c cX9_rolesNeeded 13 (some .int) RX9) (hK : gk_K D cI cZ cG cL s) {Q : Int32 → gk_C → Prop} : ∀ (n : Nat) (σ : gk_C) (x1 : Int32) (x2 : Int32) (x3 : Int32) (x5 : Int32) (x8 : Int32) (x9 : Int32) (x11 : Int32) (fn44 : Nat → Int32) (fn50 : Nat → Int32) (fn233 : Nat → Int32), wL_X9_rolesNeeded_240 Q n σ x1 x2 x3 x5 x8 x9 x11 fn44 fn50 fn233 → ∀ (H : Heap) (locs : List Loc), mk_V D cI cZ am σ H → va_S (mk_A am s.heap.size) s.heap H locs → ∀ (qn44 : Nat), s.heap.size ≤ qn44 → ∀ (qn50 : Nat), s.heap.size ≤ qn50 → qn44 < qn50 → ∀ (qn233 : Nat), s.heap.size ≤ qn233 → qn44 < qn233 → qn50 < qn233 → mk_D D cI am qn44 30 fn44 H → mk_D D cI am qn50 30 fn50 H → mk_D D cI am qn233 12 fn233 H → ∀ (ls : Array Slot), lv_has ls 13 [(0, .ref (am 38)), (1, .int x1), (2, .int x2), (3, .int x3), (5, .int x5), (6, .ref qn44), (7, .ref qn50), (8, .int x8), (9, .int x9), (10, .ref qn233), (11, .int x11)] → W p l e rmX9_rolesNeeded s m args below meth c H locs 16 228 (MQ below (va_Qi (fun r u => Q r u) (mk_B (mk_V D cI cZ am)) (mk_A am s.heap.size)) args s 16 228 (mk_A am s.heap.size)) (F0 m 240 ls []) := by
  obtain ⟨hx, hb, hml, hown, hts, hr, hlocks⟩ := id C0
  intro n
  induction n with
  | zero => exact fun _ _ _ _ _ _ _ _ _ _ _ hw => False.elim hw
  | succ n ih =>
    intro σ x1 x2 x3 x5 x8 x9 x11 fn44 fn50 fn233 hw H locs hW hS qn44 hgn44 qn50 hgn50 hln44_n50 qn233 hgn233 hln44_n233 hln50_n233 hdn44 hdn50 hdn233 ls hl
    refine lv_iload hx hb dX9_rolesNeeded_240 (lv_at hl 10 rfl) ?_
    refine lv_iconst (v := 1) hx hb dX9_rolesNeeded_242 (by decide) ?_
    refine lv_aload_n hx hb dX9_rolesNeeded_243 rfl (lv_at hl 0 rfl) ?_
    refine gk_get hx hb hts iwX9 hown hK.1 (mk_obj hW) rfl 7 (by decide) (hts _ fl_X9_112) (fun _ h9 => h9) rfl dX9_rolesNeeded_244 ?_
    refine lv_ishl hx hb dX9_rolesNeeded_247 ?_
    refine lv_icmp_ge (tgt := 386) hx hb dX9_rolesNeeded_248 (by decide) (fun c248 => ?_) (fun c248 => ?_)
    · have hw := hw.1 c248
      refine lv_iload hx hb dX9_rolesNeeded_386 (lv_at hl 8 rfl) ?_
      refine W.widen (k := 16) (n := 228) (Nat.le_of_ble_eq_true rfl) (Nat.le_of_ble_eq_true rfl) ?_
      exact mk_reti C0 hw hW hS dX9_rolesNeeded_388
    · have hw := hw.2 c248
      refine lv_iload hx hb dX9_rolesNeeded_251 (lv_at hl 10 rfl) ?_
      refine lv_aload_n hx hb dX9_rolesNeeded_253 rfl (lv_at hl 0 rfl) ?_
      refine gk_get hx hb hts iwX9 hown hK.1 (mk_obj hW) rfl 4 (by decide) (hts _ fl_X9_9) (fun _ h9 => h9) rfl dX9_rolesNeeded_254 ?_
      refine lv_iload_n hx hb dX9_rolesNeeded_257 rfl (lv_at hl 1 rfl) ?_
      obtain ⟨hin, hw⟩ := hw
      refine gk_iald hx hb hK.1 0 (mk_arr hW (k := 4) (by decide) (by decide) (by decide)) rfl hin dX9_rolesNeeded_258 ?_
      refine lv_iand hx hb dX9_rolesNeeded_259 ?_
      refine lv_if_ne (tgt := 380) hx hb dX9_rolesNeeded_260 (by decide) (fun c260 => ?_) (fun c260 => ?_)
      · have hw := hw.1 c260
        refine lv_iinc (v := (x11 + 1)) (lv' := [(11, .int (x11 + 1)), (0, .ref (am 38)), (1, .int x1), (2, .int x2), (3, .int x3), (5, .int x5), (6, .ref qn44), (7, .ref qn50), (8, .int x8), (9, .int x9), (10, .ref qn233)]) hx hb dX9_rolesNeeded_380 hl (k := 10) rfl rfl (by decide) rfl (fun ls hl => ?_)
        refine lv_goto (tgt := 240) hx hb dX9_rolesNeeded_383 (by decide) ?_
        exact ih σ x1 x2 x3 x5 x8 x9 (x11 + 1) fn44 fn50 fn233 hw _ _ hW hS _ hgn44 _ hgn50 (by omega) _ hgn233 (by omega) (by omega) hdn44 hdn50 hdn233 _ (lv_sub hl [1, 2, 3, 4, 5, 6, 7, 8, 9, 10, 0] rfl)
      · have hw := hw.2 c260
        refine lv_iload hx hb dX9_rolesNeeded_263 (lv_at hl 8 rfl) ?_
        refine lv_iconst (v := (-1)) hx hb dX9_rolesNeeded_265 (by decide) ?_
        refine lv_icmp_eq (tgt := 279) hx hb dX9_rolesNeeded_266 (by decide) (fun c266 => ?_) (fun c266 => ?_)
        · have hw := hw.1 c266
          refine tJ_X9_rolesNeeded_279 C0 hK (hk240 := ih) σ x1 x2 x3 x5 x8 x9 x11 fn44 fn50 fn233 hw _ _ hW hS _ hgn44 _ hgn50 (by omega) _ hgn233 (by omega) (by omega) hdn44 hdn50 hdn233 _ hl
        · have hw := hw.2 c266
          refine lv_iload hx hb dX9_rolesNeeded_269 (lv_at hl 10 rfl) ?_
          refine gk_callSi ⟨hx, hb, hml, hown, hts⟩ (c_X9_many l hw) (va_cwS 1 hts (gk_gS ml_X9_272 st_X9_many in_X9 co_X9_many) rfl rfl rfl (by decide +kernel) ⟨Nat.le_of_ble_eq_true rfl, Nat.le_of_ble_eq_true rfl⟩) hS rfl hl.1 (rest := []) rfl (lv_room (Nat.le_of_ble_eq_true rfl)) dX9_rolesNeeded_271 ⟨Nat.le_of_ble_eq_true rfl, Nat.le_of_ble_eq_true rfl⟩ (fun r271 H locs hw _ hk hS => ?_)
          have hW := hW.keptAll hk
          have hdn44 := hdn44.keptAll hk
          have hdn50 := hdn50.keptAll hk
          have hdn233 := hdn233.keptAll hk
          refine lv_iload hx hb dX9_rolesNeeded_274 (lv_at hl 8 rfl) ?_
          refine lv_icmp_ge (tgt := 380) hx hb dX9_rolesNeeded_276 (by decide) (fun c276 => ?_) (fun c276 => ?_)
          · have hw := hw.1 c276
            refine lv_iinc (v := (x11 + 1)) (lv' := [(11, .int (x11 + 1)), (0, .ref (am 38)), (1, .int x1), (2, .int x2), (3, .int x3), (5, .int x5), (6, .ref qn44), (7, .ref qn50), (8, .int x8), (9, .int x9), (10, .ref qn233)]) hx hb dX9_rolesNeeded_380 hl (k := 10) rfl rfl (by decide) rfl (fun ls hl => ?_)
            refine lv_goto (tgt := 240) hx hb dX9_rolesNeeded_383 (by decide) ?_
            exact ih σ x1 x2 x3 x5 x8 x9 (x11 + 1) fn44 fn50 fn233 hw _ _ hW hS _ hgn44 _ hgn50 (by omega) _ hgn233 (by omega) (by omega) hdn44 hdn50 hdn233 _ (lv_sub hl [1, 2, 3, 4, 5, 6, 7, 8, 9, 10, 0] rfl)
          · have hw := hw.2 c276
            refine tJ_X9_rolesNeeded_279 C0 hK (hk240 := ih) σ x1 x2 x3 x5 x8 x9 x11 fn44 fn50 fn233 hw _ _ hW hS _ hgn44 _ hgn50 (by omega) _ hgn233 (by omega) (by omega) hdn44 hdn50 hdn233 _ hl
set_option maxHeartbeats 4000000 in
set_option maxRecDepth 100000 in
theorem c_X9_rolesNeeded (l : Launch) (D : va_G) (cI cZ cG cL : ClassId) (am : Nat → Nat) {σ : gk_C} {a0 : Int32} {a1 : Int32} {a2 : Int32} {Q : Int32 → gk_C → Prop} {sz : Nat} (hw : w_X9_rolesNeeded σ a0 a1 a2 Q) : Met l yX9_rolesNeeded wsX9_rolesNeeded rmX9_rolesNeeded (mk_Pc (mk_V D cI cZ am) D cI cZ cG cL [.ref (am 38), .int a0, .int a1, .int a2] sz σ (fun _ => True)) (va_Qi (fun r u => Q r u) (mk_B (mk_V D cI cZ am)) (mk_A am sz)) 16 228 (mk_A am sz) := by
  refine Met.ofW (cc := cX9_rolesNeeded) (maxL := 13) (ret := (some .int)) (by decide) rfl ?_
  intro p e s m args below meth c s₁ B hml0 hv0
  obtain ⟨rfl, hsz, hW, hK, hX⟩ := hv0
  subst hsz
  have C0 : gk_F p s m ([.ref (am 38), .int a0, .int a1, .int a2] : List Value).toArray meth c cX9_rolesNeeded 13 (some .int) RX9 := ⟨B.exec, B.bytes, hml0, findClass_of_methodNamed B.named, fun w hw => atoms_spec (ws := wsX9_rolesNeeded) B.pre w (List.mem_cons_of_mem _ hw), B.returns, B.notSynchronized⟩
  obtain ⟨hx, hb, hml, hown, hts, hr, hlocks⟩ := id C0
  have hS : va_S (mk_A am s.heap.size) s.heap s.heap [] := va_S.rf
  have hl := lv_entry ([.ref (am 38), .int a0, .int a1, .int a2]) (n := 13) (Nat.le_of_ble_eq_true rfl)
  rw [lg_entry_eq]
  generalize (lg_sl ([.ref (am 38), .int a0, .int a1, .int a2]) ++ List.replicate (13 - (lg_sl ([.ref (am 38), .int a0, .int a1, .int a2])).length) Slot.unset).toArray = ls at hl ⊢
  have hl : lv_has ls 13 [(0, .ref (am 38)), (1, .int a0), (2, .int a1), (3, .int a2)] := hl
  show W p l e rmX9_rolesNeeded s m _ below meth c s.heap [] 0 0 _ _
  refine lv_aload_n hx hb dX9_rolesNeeded_0 rfl (lv_at hl 0 rfl) ?_
  refine lv_iconst (v := 0) hx hb dX9_rolesNeeded_1 (by decide) ?_
  refine gk_putf (ty := .int) (v := .int 0) hx hb hts iwX9 tyX9 tyX9_ok nmX9 hown hK.1 hS (mk_A.in List.mem_cons_self) (mk_obj hW) rfl 0 (by decide) (hts _ fl_X9_102) (fun _ h9 => h9) rfl (by decide +kernel) rfl rfl (Nat.le_of_ble_eq_true rfl) dX9_rolesNeeded_2 (fun H locs h1 _ oq hS => ?_)
  have hW := hW.setS (i := 0) (v := 0) h1 oq
  refine lv_aload_n hx hb dX9_rolesNeeded_5 rfl (lv_at hl 0 rfl) ?_
  refine lv_iload_n hx hb dX9_rolesNeeded_6 rfl (lv_at hl 1 rfl) ?_
  refine lv_iload_n hx hb dX9_rolesNeeded_7 rfl (lv_at hl 2 rfl) ?_
  refine lv_iload_n hx hb dX9_rolesNeeded_8 rfl (lv_at hl 3 rfl) ?_
  refine mk_callRi ⟨hx, hb, hml, hown, hts⟩ (c_X9_isQuestion l D cI cZ cG cL am hw) (cwV 3 hts (gk_gV ml_X9_196 im_X9_isQuestion se_X9_isQuestion in_X9 co_X9_isQuestion) rfl rfl rfl (by decide +kernel) ⟨Nat.le_of_ble_eq_true rfl, Nat.le_of_ble_eq_true rfl⟩) (gk_recv hK.1 (mk_obj hW) rfl) hW hK trivial hS rfl hl.1 (rest := []) rfl (lv_room (Nat.le_of_ble_eq_true rfl)) dX9_rolesNeeded_9 ⟨Nat.le_of_ble_eq_true rfl, Nat.le_of_ble_eq_true rfl⟩ (fun r9 H locs hw hW _ hk hS => ?_)
  refine lv_if_ne (tgt := 21) hx hb dX9_rolesNeeded_12 (by decide) (fun c12 => ?_) (fun c12 => ?_)
  · have hw := hw.1 c12
    refine lv_aload_n hx hb dX9_rolesNeeded_21 rfl (lv_at hl 0 rfl) ?_
    refine lv_iload_n hx hb dX9_rolesNeeded_22 rfl (lv_at hl 1 rfl) ?_
    refine lv_iload_n hx hb dX9_rolesNeeded_23 rfl (lv_at hl 2 rfl) ?_
    refine lv_iload_n hx hb dX9_rolesNeeded_24 rfl (lv_at hl 3 rfl) ?_
    refine mk_callRi ⟨hx, hb, hml, hown, hts⟩ (c_X9_barred l D cI cZ cG cL am hw) (cwV 3 hts (gk_gV ml_X9_222 im_X9_barred se_X9_barred in_X9 co_X9_barred) rfl rfl rfl (by decide +kernel) ⟨Nat.le_of_ble_eq_true rfl, Nat.le_of_ble_eq_true rfl⟩) (gk_recv hK.1 (mk_obj hW) rfl) hW hK trivial hS rfl hl.1 (rest := []) rfl (lv_room (Nat.le_of_ble_eq_true rfl)) dX9_rolesNeeded_25 ⟨Nat.le_of_ble_eq_true rfl, Nat.le_of_ble_eq_true rfl⟩ (fun r25 H locs hw hW _ hk hS => ?_)
    refine lv_if_eq (tgt := 33) hx hb dX9_rolesNeeded_28 (by decide) (fun c28 => ?_) (fun c28 => ?_)
    · have hw := hw.1 c28
      refine lv_aload_n hx hb dX9_rolesNeeded_33 rfl (lv_at hl 0 rfl) ?_
      refine mk_callVb ⟨hx, hb, hml, hown, hts⟩ (c_X9_allNears l D cI cZ cG cL am hw) (cwV 0 hts (gk_gV ml_X9_247 im_X9_allNears se_X9_allNears in_X9 co_X9_allNears) rfl rfl rfl (by decide +kernel) ⟨Nat.le_of_ble_eq_true rfl, Nat.le_of_ble_eq_true rfl⟩) (gk_recv hK.1 (mk_obj hW) rfl) hW hK trivial hS rfl hl.1 (rest := []) rfl (lv_room (Nat.le_of_ble_eq_true rfl)) dX9_rolesNeeded_34 ⟨Nat.le_of_ble_eq_true rfl, Nat.le_of_ble_eq_true rfl⟩ (fun Nc34 qc34 H locs hw hW hdc34 hb0 hgc34 _ hk hS => ?_)
      refine lv_astore (lv' := [(4, .ref qc34), (0, .ref (am 38)), (1, .int a0), (2, .int a1), (3, .int a2)]) hx hb dX9_rolesNeeded_37 hl (by decide) rfl (fun ls hl => ?_)
      refine lv_iconst (v := 0) hx hb dX9_rolesNeeded_39 (by decide) ?_
      refine lv_istore (lv' := [(5, .int 0), (4, .ref qc34), (0, .ref (am 38)), (1, .int a0), (2, .int a1), (3, .int a2)]) hx hb dX9_rolesNeeded_40 hl (by decide) rfl (fun ls hl => ?_)
      refine lv_bipush (v := 30) hx hb dX9_rolesNeeded_42 (by decide) ?_
      refine mk_newi (N' := 30) hx hb (hts _ ac_int) hK (fun k hk => hW.lt hk) hS (by decide) rfl (by decide) ⟨Nat.le_of_ble_eq_true rfl, Nat.le_of_ble_eq_true rfl⟩ dX9_rolesNeeded_44 (fun qn44 H hdn44 hqn44 hgn44 hk hS => ?_)
      have hW := hW.keptAll hk
      have hdc34 := hdc34.reB hqn44
      have hlc34_n44 := hdc34.2.1
      have hdc34 := hdc34.keptAll hk
      refine lv_astore (lv' := [(6, .ref qn44), (5, .int 0), (4, .ref qc34), (0, .ref (am 38)), (1, .int a0), (2, .int a1), (3, .int a2)]) hx hb dX9_rolesNeeded_46 hl (by decide) rfl (fun ls hl => ?_)
      refine lv_bipush (v := 30) hx hb dX9_rolesNeeded_48 (by decide) ?_
      refine mk_newi (N' := 30) hx hb (hts _ ac_int) hK (fun k hk => hW.lt hk) hS (by decide) rfl (by decide) ⟨Nat.le_of_ble_eq_true rfl, Nat.le_of_ble_eq_true rfl⟩ dX9_rolesNeeded_50 (fun qn50 H hdn50 hqn50 hgn50 hk hS => ?_)
      have hW := hW.keptAll hk
      have hlc34_n50 : qc34 < qn50 := by rw [hqn50]; exact hdc34.lt
      have hln44_n50 : qn44 < qn50 := by rw [hqn50]; exact hdn44.1.lt
      have hdc34 := hdc34.keptAll hk
      have hdn44 := hdn44.keptAll hk
      refine lv_astore (lv' := [(7, .ref qn50), (6, .ref qn44), (5, .int 0), (4, .ref qc34), (0, .ref (am 38)), (1, .int a0), (2, .int a1), (3, .int a2)]) hx hb dX9_rolesNeeded_52 hl (by decide) rfl (fun ls hl => ?_)
      refine lv_iconst (v := 0) hx hb dX9_rolesNeeded_54 (by decide) ?_
      refine lv_istore (lv' := [(8, .int 0), (7, .ref qn50), (6, .ref qn44), (5, .int 0), (4, .ref qc34), (0, .ref (am 38)), (1, .int a0), (2, .int a1), (3, .int a2)]) hx hb dX9_rolesNeeded_55 hl (by decide) rfl (fun ls hl => ?_)
      obtain ⟨n57, hw⟩ := hw
      refine tL_X9_rolesNeeded_57 C0 hK (hk219 := ?_) n57 (gk_s σ 0 0) a0 a1 a2 0 0 Nc34 (fun _ => 0) (fun _ => 0) hw _ _ hW hS _ hgc34 _ hgn44 (by omega) _ hgn50 (by omega) (by omega) hdc34 hdn44 hdn50 _ (lv_sub hl [5, 6, 7, 8, 4, 3, 2, 1, 0] rfl)
      · intro σ x1 x2 x3 x5 fn44 fn50 hw H locs hW hS qn44 hgn44 qn50 hgn50 hln44_n50 hdn44 hdn50 ls hl
        refine lv_aload_n hx hb dX9_rolesNeeded_219 rfl (lv_at hl 0 rfl) ?_
        refine lv_iload_n hx hb dX9_rolesNeeded_220 rfl (lv_at hl 1 rfl) ?_
        refine lv_iload_n hx hb dX9_rolesNeeded_221 rfl (lv_at hl 2 rfl) ?_
        refine lv_iload_n hx hb dX9_rolesNeeded_222 rfl (lv_at hl 3 rfl) ?_
        refine mk_callRi ⟨hx, hb, hml, hown, hts⟩ (c_X9_fitting l D cI cZ cG cL am hw) (cwV 3 hts (gk_gV ml_X9_188 im_X9_fitting se_X9_fitting in_X9 co_X9_fitting) rfl rfl rfl (by decide +kernel) ⟨Nat.le_of_ble_eq_true rfl, Nat.le_of_ble_eq_true rfl⟩) (gk_recv hK.1 (mk_obj hW) rfl) hW hK trivial hS rfl hl.1 (rest := []) rfl (lv_room (Nat.le_of_ble_eq_true rfl)) dX9_rolesNeeded_223 ⟨Nat.le_of_ble_eq_true rfl, Nat.le_of_ble_eq_true rfl⟩ (fun r223 H locs hw hW _ hk hS => ?_)
        have hdn44 := hdn44.kept hk
        have hdn50 := hdn50.kept hk
        refine lv_istore (lv' := [(8, .int r223), (0, .ref (am 38)), (1, .int x1), (2, .int x2), (3, .int x3), (5, .int x5), (6, .ref qn44), (7, .ref qn50)]) hx hb dX9_rolesNeeded_226 hl (by decide) rfl (fun ls hl => ?_)
        refine lv_iconst (v := (-1)) hx hb dX9_rolesNeeded_228 (by decide) ?_
        refine lv_istore (lv' := [(9, .int (-1)), (8, .int r223), (0, .ref (am 38)), (1, .int x1), (2, .int x2), (3, .int x3), (5, .int x5), (6, .ref qn44), (7, .ref qn50)]) hx hb dX9_rolesNeeded_229 hl (by decide) rfl (fun ls hl => ?_)
        refine lv_bipush (v := 12) hx hb dX9_rolesNeeded_231 (by decide) ?_
        refine mk_newi (N' := 12) hx hb (hts _ ac_int) hK (fun k hk => hW.lt hk) hS (by decide) rfl (by decide) ⟨Nat.le_of_ble_eq_true rfl, Nat.le_of_ble_eq_true rfl⟩ dX9_rolesNeeded_233 (fun qn233 H hdn233 hqn233 hgn233 hk hS => ?_)
        have hW := hW.keptAll hk
        have hln44_n233 : qn44 < qn233 := by rw [hqn233]; exact hdn44.1.lt
        have hln50_n233 : qn50 < qn233 := by rw [hqn233]; exact hdn50.1.lt
        have hdn44 := hdn44.keptAll hk
        have hdn50 := hdn50.keptAll hk
        refine lv_astore (lv' := [(10, .ref qn233), (9, .int (-1)), (8, .int r223), (0, .ref (am 38)), (1, .int x1), (2, .int x2), (3, .int x3), (5, .int x5), (6, .ref qn44), (7, .ref qn50)]) hx hb dX9_rolesNeeded_235 hl (by decide) rfl (fun ls hl => ?_)
        refine lv_iconst (v := 0) hx hb dX9_rolesNeeded_237 (by decide) ?_
        refine lv_istore (lv' := [(11, .int 0), (10, .ref qn233), (9, .int (-1)), (8, .int r223), (0, .ref (am 38)), (1, .int x1), (2, .int x2), (3, .int x3), (5, .int x5), (6, .ref qn44), (7, .ref qn50)]) hx hb dX9_rolesNeeded_238 hl (by decide) rfl (fun ls hl => ?_)
        obtain ⟨n240, hw⟩ := hw
        refine tL_X9_rolesNeeded_240 C0 hK  n240 σ x1 x2 x3 x5 r223 (-1) 0 fn44 fn50 (fun _ => 0) hw _ _ hW hS _ hgn44 _ hgn50 (by omega) _ hgn233 (by omega) (by omega) hdn44 hdn50 hdn233 _ (lv_sub hl [4, 5, 6, 7, 8, 9, 10, 3, 2, 1, 0] rfl)
    · have hw := hw.2 c28
      refine lv_iconst (v := (-1)) hx hb dX9_rolesNeeded_31 (by decide) ?_
      refine W.widen (k := 16) (n := 228) (Nat.le_of_ble_eq_true rfl) (Nat.le_of_ble_eq_true rfl) ?_
      exact mk_reti C0 hw hW hS dX9_rolesNeeded_32
  · have hw := hw.2 c12
    refine lv_aload_n hx hb dX9_rolesNeeded_15 rfl (lv_at hl 0 rfl) ?_
    refine lv_iconst (v := 1) hx hb dX9_rolesNeeded_16 (by decide) ?_
    refine mk_callVi ⟨hx, hb, hml, hown, hts⟩ (c_X9_no l D cI cZ cG cL am hw) (cwV 1 hts (gk_gV ml_X9_139 im_X9_no se_X9_no in_X9 co_X9_no) rfl rfl rfl (by decide +kernel) ⟨Nat.le_of_ble_eq_true rfl, Nat.le_of_ble_eq_true rfl⟩) (gk_recv hK.1 (mk_obj hW) rfl) hW hK trivial hS rfl hl.1 (rest := []) rfl (lv_room (Nat.le_of_ble_eq_true rfl)) dX9_rolesNeeded_17 ⟨Nat.le_of_ble_eq_true rfl, Nat.le_of_ble_eq_true rfl⟩ (fun r17 σ17 H locs hw hW _ hk hS => ?_)
    refine W.widen (k := 16) (n := 228) (Nat.le_of_ble_eq_true rfl) (Nat.le_of_ble_eq_true rfl) ?_
    exact mk_reti C0 hw hW hS dX9_rolesNeeded_20
def wL_X9_contradictionsNow_58 (σ : gk_C) (k92 : Int32 → Int32 → Int32 → (Nat → Int32) → (Nat → Option (Nat → Int32)) → Prop) : Nat → Int32 → Int32 → Int32 → Int32 → Int32 → (Nat → Int32) → (Nat → Option (Nat → Int32)) → Prop
  | 0 => fun _ _ _ _ _ _ _ => False
  | n + 1 => fun x3 x4 x5 x6 x7 fn2 Nc6 => ((((σ.2 16) ≤ x7) → (k92 x3 x4 x5 fn2 Nc6)) ∧ ((¬ (σ.2 16) ≤ x7) → (((((x6 >>> (x7 &&& 31)) &&& 1) = 0) → (wL_X9_contradictionsNow_58 σ k92 n x3 x4 x5 x6 (x7 + 1) fn2 Nc6)) ∧ ((¬ ((x6 >>> (x7 &&& 31)) &&& 1) = 0) → (vp_in x7 30 ∧ vp_in x7 30 ∧ wL_X9_contradictionsNow_58 σ k92 n x3 x4 x5 x6 (x7 + 1) (upd fn2 x7.toNatClampNeg ((fn2 x7.toNatClampNeg) ||| x6)) Nc6)))))
def wL_X9_contradictionsNow_32 (σ : gk_C) (k98 : Int32 → Int32 → (Nat → Int32) → (Nat → Option (Nat → Int32)) → Prop) : Nat → Int32 → Int32 → Int32 → (Nat → Int32) → (Nat → Option (Nat → Int32)) → Prop
  | 0 => fun _ _ _ _ _ => False
  | n + 1 => fun x3 x4 x5 fn2 Nc6 => ((((σ.2 11) ≤ x5) → (k98 x3 x4 fn2 Nc6)) ∧ ((¬ (σ.2 11) ≤ x5) → (vp_in x3 12 ∧ ∃ fe45, Nc6 x3.toNatClampNeg = some fe45 ∧ w_X9_matching σ x3 fe45 x4 x5 (fun r50 => ∃ n58, wL_X9_contradictionsNow_58 σ (fun x3 x4 x5 fn2 Nc6 => (wL_X9_contradictionsNow_32 σ k98 n x3 x4 (x5 + 1) fn2 Nc6)) n58 x3 x4 x5 r50 0 fn2 Nc6))))
def wL_X9_contradictionsNow_23 (σ : gk_C) (k104 : Int32 → (Nat → Int32) → (Nat → Option (Nat → Int32)) → Prop) : Nat → Int32 → Int32 → (Nat → Int32) → (Nat → Option (Nat → Int32)) → Prop
  | 0 => fun _ _ _ _ => False
  | n + 1 => fun x3 x4 fn2 Nc6 => (((5 ≤ x4) → (k104 x3 fn2 Nc6)) ∧ ((¬ 5 ≤ x4) → (∃ n32, wL_X9_contradictionsNow_32 σ (fun x3 x4 fn2 Nc6 => (wL_X9_contradictionsNow_23 σ k104 n x3 (x4 + 1) fn2 Nc6)) n32 x3 x4 0 fn2 Nc6)))
def wL_X9_contradictionsNow_12 (σ : gk_C) (k110 : (Nat → Int32) → Prop) : Nat → Int32 → (Nat → Int32) → (Nat → Option (Nat → Int32)) → Prop
  | 0 => fun _ _ _ => False
  | n + 1 => fun x3 fn2 Nc6 => ((((σ.2 3) ≤ x3) → (k110 fn2)) ∧ ((¬ (σ.2 3) ≤ x3) → (∃ n23, wL_X9_contradictionsNow_23 σ (fun x3 fn2 Nc6 => (wL_X9_contradictionsNow_12 σ k110 n (x3 + 1) fn2 Nc6)) n23 x3 0 fn2 Nc6)))
def wJ_X9_contradictionsNow_169 (σ : gk_C) (k170 : Int32 → Int32 → Int32 → Int32 → (Nat → Int32) → Prop) (x4 : Int32) (x5 : Int32) (t0 : Int32) (fn2 : Nat → Int32) : Prop := (k170 x4 x5 t0 0 fn2)
def wJ_X9_contradictionsNow_170 (σ : gk_C) (k127 : Int32 → Int32 → Int32 → (Nat → Int32) → Prop) (x4 : Int32) (x5 : Int32) (t0 : Int32) (t1 : Int32) (fn2 : Nat → Int32) : Prop := (k127 (t0 + t1) x4 (x5 + 1) fn2)
def wL_X9_contradictionsNow_127 (σ : gk_C) (k178 : Int32 → Int32 → (Nat → Int32) → Prop) : Nat → Int32 → Int32 → Int32 → (Nat → Int32) → Prop
  | 0 => fun _ _ _ _ => False
  | n + 1 => fun x3 x4 x5 fn2 => ((((σ.2 16) ≤ x5) → (k178 x3 x4 fn2)) ∧ ((¬ (σ.2 16) ≤ x5) → (vp_in x4 30 ∧ (((σ.1 17 x4.toNatClampNeg) = 0) → (wJ_X9_contradictionsNow_169 σ (fun x4 x5 t0 t1 fn2 => (wJ_X9_contradictionsNow_170 σ (fun x3 x4 x5 fn2 => wL_X9_contradictionsNow_127 σ k178 n x3 x4 x5 fn2) x4 x5 t0 t1 fn2)) x4 x5 x3 fn2)) ∧ ((¬ (σ.1 17 x4.toNatClampNeg) = 0) → (vp_in x5 30 ∧ ((¬ (σ.1 17 x5.toNatClampNeg) = 0) → (wJ_X9_contradictionsNow_169 σ (fun x4 x5 t0 t1 fn2 => (wJ_X9_contradictionsNow_170 σ (fun x3 x4 x5 fn2 => wL_X9_contradictionsNow_127 σ k178 n x3 x4 x5 fn2) x4 x5 t0 t1 fn2)) x4 x5 x3 fn2)) ∧ (((σ.1 17 x5.toNatClampNeg) = 0) → (vp_in x4 30 ∧ wJ_X9_contradictionsNow_170 σ (fun x3 x4 x5 fn2 => wL_X9_contradictionsNow_127 σ k178 n x3 x4 x5 fn2) x4 x5 x3 (((fn2 x4.toNatClampNeg) >>> (x5 &&& 31)) &&& 1) fn2)))))))
def wL_X9_contradictionsNow_115 (σ : gk_C) (Q : Int32 → Prop) : Nat → Int32 → Int32 → (Nat → Int32) → Prop
  | 0 => fun _ _ _ => False
  | n + 1 => fun x3 x4 fn2 => ((((σ.2 16) ≤ x4) → (Q x3)) ∧ ((¬ (σ.2 16) ≤ x4) → (∃ n127, wL_X9_contradictionsNow_127 σ (fun x3 x4 fn2 => (wL_X9_contradictionsNow_115 σ Q n x3 (x4 + 1) fn2)) n127 x3 x4 0 fn2)))
def w_X9_contradictionsNow (σ : gk_C)  (Q : Int32 → Prop) : Prop := (w_X9_allNears σ (fun Nc6 => ∃ n12, wL_X9_contradictionsNow_12 σ (fun fn2 => (∃ n115, wL_X9_contradictionsNow_115 σ Q n115 0 0 fn2)) n12 0 (fun _ => 0) Nc6))
abbrev rmX9_contradictionsNow : Room := { frames := 4, cells := 14, slots := 186, locals := 94 }
set_option maxHeartbeats 4000000 in
set_option maxRecDepth 100000 in
theorem tL_X9_contradictionsNow_58 {p : Program} {l : Launch} {e : Env} {s : State} {m : MethodId} {args : Array Value} {below : List Frame} {meth : Method} {c : Code} {D : va_G} {cI cZ cG cL : ClassId} {am : Nat → Nat} (C0 : gk_F p s m args meth c cX9_contradictionsNow 8 (some .int) RX9) (hK : gk_K D cI cZ cG cL s) {σ : gk_C} {Q : Int32 → Prop} {k92 : Int32 → Int32 → Int32 → (Nat → Int32) → (Nat → Option (Nat → Int32)) → Prop} (hk92 : ∀ (x3 : Int32) (x4 : Int32) (x5 : Int32) (fn2 : Nat → Int32) (Nc6 : Nat → Option (Nat → Int32)), k92 x3 x4 x5 fn2 Nc6 → ∀ (H : Heap) (locs : List Loc), mk_V D cI cZ am σ H → va_S (mk_A am s.heap.size) s.heap H locs → ∀ (qn2 : Nat), s.heap.size ≤ qn2 → ∀ (qc6 Bc6 : Nat), s.heap.size ≤ qc6 → qn2 < qc6 → mk_D D cI am qn2 30 fn2 H → mk_N D cI cG am qc6 Bc6 Nc6 H → ∀ (ls : Array Slot), lv_has ls 8 [(0, .ref (am 38)), (1, .ref qn2), (2, .ref qc6), (3, .int x3), (4, .int x4), (5, .int x5)] → W p l e rmX9_contradictionsNow s m args below meth c H locs 14 186 (MQ below (va_Qi (fun r u => u = σ ∧ Q r) (mk_B (mk_V D cI cZ am)) (mk_A am s.heap.size)) args s 14 186 (mk_A am s.heap.size)) (F0 m 92 ls [])) : ∀ (n : Nat) (x3 : Int32) (x4 : Int32) (x5 : Int32) (x6 : Int32) (x7 : Int32) (fn2 : Nat → Int32) (Nc6 : Nat → Option (Nat → Int32)), wL_X9_contradictionsNow_58 σ k92 n x3 x4 x5 x6 x7 fn2 Nc6 → ∀ (H : Heap) (locs : List Loc), mk_V D cI cZ am σ H → va_S (mk_A am s.heap.size) s.heap H locs → ∀ (qn2 : Nat), s.heap.size ≤ qn2 → ∀ (qc6 Bc6 : Nat), s.heap.size ≤ qc6 → qn2 < qc6 → mk_D D cI am qn2 30 fn2 H → mk_N D cI cG am qc6 Bc6 Nc6 H → ∀ (ls : Array Slot), lv_has ls 8 [(0, .ref (am 38)), (1, .ref qn2), (2, .ref qc6), (3, .int x3), (4, .int x4), (5, .int x5), (6, .int x6), (7, .int x7)] → W p l e rmX9_contradictionsNow s m args below meth c H locs 14 186 (MQ below (va_Qi (fun r u => u = σ ∧ Q r) (mk_B (mk_V D cI cZ am)) (mk_A am s.heap.size)) args s 14 186 (mk_A am s.heap.size)) (F0 m 58 ls []) := by
  obtain ⟨hx, hb, hml, hown, hts, hr, hlocks⟩ := id C0
  intro n
  induction n with
  | zero => exact fun _ _ _ _ _ _ _ hw => False.elim hw
  | succ n ih =>
    intro x3 x4 x5 x6 x7 fn2 Nc6 hw H locs hW hS qn2 hgn2 qc6 Bc6 hgc6 hln2_c6 hdn2 hdc6 ls hl
    refine lv_iload hx hb dX9_contradictionsNow_58 (lv_at hl 7 rfl) ?_
    refine lv_aload_n hx hb dX9_contradictionsNow_60 rfl (lv_at hl 0 rfl) ?_
    refine gk_get hx hb hts iwX9 hown hK.1 (mk_obj hW) rfl 16 (by decide) (hts _ fl_X9_165) (fun _ h9 => h9) rfl dX9_contradictionsNow_61 ?_
    refine lv_icmp_ge (tgt := 92) hx hb dX9_contradictionsNow_64 (by decide) (fun c64 => ?_) (fun c64 => ?_)
    · have hw := hw.1 c64
      exact hk92 x3 x4 x5 fn2 Nc6 hw _ _ hW hS _ hgn2 _ _ hgc6 (by omega) hdn2 hdc6 _ (lv_sub hl [0, 1, 2, 3, 4, 5] rfl)
    · have hw := hw.2 c64
      refine lv_iload hx hb dX9_contradictionsNow_67 (lv_at hl 6 rfl) ?_
      refine lv_iload hx hb dX9_contradictionsNow_69 (lv_at hl 7 rfl) ?_
      refine lv_ishr hx hb dX9_contradictionsNow_71 ?_
      refine lv_iconst (v := 1) hx hb dX9_contradictionsNow_72 (by decide) ?_
      refine lv_iand hx hb dX9_contradictionsNow_73 ?_
      refine lv_if_eq (tgt := 86) hx hb dX9_contradictionsNow_74 (by decide) (fun c74 => ?_) (fun c74 => ?_)
      · have hw := hw.1 c74
        refine lv_iinc (v := (x7 + 1)) (lv' := [(7, .int (x7 + 1)), (0, .ref (am 38)), (1, .ref qn2), (2, .ref qc6), (3, .int x3), (4, .int x4), (5, .int x5), (6, .int x6)]) hx hb dX9_contradictionsNow_86 hl (k := 7) rfl rfl (by decide) rfl (fun ls hl => ?_)
        refine lv_goto (tgt := 58) hx hb dX9_contradictionsNow_89 (by decide) ?_
        exact ih x3 x4 x5 x6 (x7 + 1) fn2 Nc6 hw _ _ hW hS _ hgn2 _ _ hgc6 (by omega) hdn2 hdc6 _ (lv_sub hl [1, 2, 3, 4, 5, 6, 7, 0] rfl)
      · have hw := hw.2 c74
        refine lv_aload_n hx hb dX9_contradictionsNow_77 rfl (lv_at hl 1 rfl) ?_
        refine lv_iload hx hb dX9_contradictionsNow_78 (lv_at hl 7 rfl) ?_
        refine lv_dup2_11 hx hb dX9_contradictionsNow_80 rfl rfl ?_
        obtain ⟨hin, hw⟩ := hw
        refine gk_iald hx hb hK.1 0 hdn2.1 rfl hin dX9_contradictionsNow_81 ?_
        refine lv_iload hx hb dX9_contradictionsNow_82 (lv_at hl 6 rfl) ?_
        refine lv_ior hx hb dX9_contradictionsNow_84 ?_
        obtain ⟨hin, hw⟩ := hw
        refine gk_iast hx hb hK.1 hS (Or.inr hgn2) 0 hdn2.1 rfl hin dX9_contradictionsNow_85 (fun H locs h1 _ oq hS => ?_)
        have hW := hW.keptN hdn2.2 oq
        have hdc6 := hdc6.oqB (a := qn2) (by omega) oq
        have hdn2 : mk_D D cI am qn2 30 (upd fn2 x7.toNatClampNeg ((fn2 x7.toNatClampNeg) ||| x6)) H := ⟨h1, hdn2.2⟩
        refine lv_iinc (v := (x7 + 1)) (lv' := [(7, .int (x7 + 1)), (0, .ref (am 38)), (1, .ref qn2), (2, .ref qc6), (3, .int x3), (4, .int x4), (5, .int x5), (6, .int x6)]) hx hb dX9_contradictionsNow_86 hl (k := 7) rfl rfl (by decide) rfl (fun ls hl => ?_)
        refine lv_goto (tgt := 58) hx hb dX9_contradictionsNow_89 (by decide) ?_
        exact ih x3 x4 x5 x6 (x7 + 1) (upd fn2 x7.toNatClampNeg ((fn2 x7.toNatClampNeg) ||| x6)) Nc6 hw _ _ hW hS _ hgn2 _ _ hgc6 (by omega) hdn2 hdc6 _ (lv_sub hl [1, 2, 3, 4, 5, 6, 7, 0] rfl)
set_option maxHeartbeats 4000000 in
set_option maxRecDepth 100000 in
theorem tL_X9_contradictionsNow_32 {p : Program} {l : Launch} {e : Env} {s : State} {m : MethodId} {args : Array Value} {below : List Frame} {meth : Method} {c : Code} {D : va_G} {cI cZ cG cL : ClassId} {am : Nat → Nat} (C0 : gk_F p s m args meth c cX9_contradictionsNow 8 (some .int) RX9) (hK : gk_K D cI cZ cG cL s) {σ : gk_C} {Q : Int32 → Prop} {k98 : Int32 → Int32 → (Nat → Int32) → (Nat → Option (Nat → Int32)) → Prop} (hk98 : ∀ (x3 : Int32) (x4 : Int32) (fn2 : Nat → Int32) (Nc6 : Nat → Option (Nat → Int32)), k98 x3 x4 fn2 Nc6 → ∀ (H : Heap) (locs : List Loc), mk_V D cI cZ am σ H → va_S (mk_A am s.heap.size) s.heap H locs → ∀ (qn2 : Nat), s.heap.size ≤ qn2 → ∀ (qc6 Bc6 : Nat), s.heap.size ≤ qc6 → qn2 < qc6 → mk_D D cI am qn2 30 fn2 H → mk_N D cI cG am qc6 Bc6 Nc6 H → ∀ (ls : Array Slot), lv_has ls 8 [(0, .ref (am 38)), (1, .ref qn2), (2, .ref qc6), (3, .int x3), (4, .int x4)] → W p l e rmX9_contradictionsNow s m args below meth c H locs 14 186 (MQ below (va_Qi (fun r u => u = σ ∧ Q r) (mk_B (mk_V D cI cZ am)) (mk_A am s.heap.size)) args s 14 186 (mk_A am s.heap.size)) (F0 m 98 ls [])) : ∀ (n : Nat) (x3 : Int32) (x4 : Int32) (x5 : Int32) (fn2 : Nat → Int32) (Nc6 : Nat → Option (Nat → Int32)), wL_X9_contradictionsNow_32 σ k98 n x3 x4 x5 fn2 Nc6 → ∀ (H : Heap) (locs : List Loc), mk_V D cI cZ am σ H → va_S (mk_A am s.heap.size) s.heap H locs → ∀ (qn2 : Nat), s.heap.size ≤ qn2 → ∀ (qc6 Bc6 : Nat), s.heap.size ≤ qc6 → qn2 < qc6 → mk_D D cI am qn2 30 fn2 H → mk_N D cI cG am qc6 Bc6 Nc6 H → ∀ (ls : Array Slot), lv_has ls 8 [(0, .ref (am 38)), (1, .ref qn2), (2, .ref qc6), (3, .int x3), (4, .int x4), (5, .int x5)] → W p l e rmX9_contradictionsNow s m args below meth c H locs 14 186 (MQ below (va_Qi (fun r u => u = σ ∧ Q r) (mk_B (mk_V D cI cZ am)) (mk_A am s.heap.size)) args s 14 186 (mk_A am s.heap.size)) (F0 m 32 ls []) := by
  obtain ⟨hx, hb, hml, hown, hts, hr, hlocks⟩ := id C0
  intro n
  induction n with
  | zero => exact fun _ _ _ _ _ hw => False.elim hw
  | succ n ih =>
    intro x3 x4 x5 fn2 Nc6 hw H locs hW hS qn2 hgn2 qc6 Bc6 hgc6 hln2_c6 hdn2 hdc6 ls hl
    refine lv_iload hx hb dX9_contradictionsNow_32 (lv_at hl 5 rfl) ?_
    refine lv_aload_n hx hb dX9_contradictionsNow_34 rfl (lv_at hl 0 rfl) ?_
    refine gk_get hx hb hts iwX9 hown hK.1 (mk_obj hW) rfl 11 (by decide) (hts _ fl_X9_25) (fun _ h9 => h9) rfl dX9_contradictionsNow_35 ?_
    refine lv_icmp_ge (tgt := 98) hx hb dX9_contradictionsNow_38 (by decide) (fun c38 => ?_) (fun c38 => ?_)
    · have hw := hw.1 c38
      exact hk98 x3 x4 fn2 Nc6 hw _ _ hW hS _ hgn2 _ _ hgc6 (by omega) hdn2 hdc6 _ (lv_sub hl [0, 1, 2, 3, 4] rfl)
    · have hw := hw.2 c38
      refine lv_aload_n hx hb dX9_contradictionsNow_41 rfl (lv_at hl 0 rfl) ?_
      refine lv_iload_n hx hb dX9_contradictionsNow_42 rfl (lv_at hl 3 rfl) ?_
      refine lv_aload_n hx hb dX9_contradictionsNow_43 rfl (lv_at hl 2 rfl) ?_
      refine lv_iload_n hx hb dX9_contradictionsNow_44 rfl (lv_at hl 3 rfl) ?_
      obtain ⟨hin, fe45, hfe45, hw⟩ := hw
      refine mk_aald hx hb hK.1 2 hdc6 rfl hin hfe45 dX9_contradictionsNow_45 (fun qe45 hde45 _ _ => ?_)
      refine lv_iload hx hb dX9_contradictionsNow_46 (lv_at hl 4 rfl) ?_
      refine lv_iload hx hb dX9_contradictionsNow_48 (lv_at hl 5 rfl) ?_
      refine mk_callRi ⟨hx, hb, hml, hown, hts⟩ (c_X9_matching l D cI cZ cG cL am hw) (cwV 4 hts (gk_gV ml_X9_199 im_X9_matching se_X9_matching in_X9 co_X9_matching) rfl rfl rfl (by decide +kernel) ⟨Nat.le_of_ble_eq_true rfl, Nat.le_of_ble_eq_true rfl⟩) (gk_recv hK.1 (mk_obj hW) rfl) hW hK ⟨hde45, trivial⟩ hS rfl hl.1 (rest := []) rfl (lv_room (Nat.le_of_ble_eq_true rfl)) dX9_contradictionsNow_50 ⟨Nat.le_of_ble_eq_true rfl, Nat.le_of_ble_eq_true rfl⟩ (fun r50 H locs hw hW _ hk hS => ?_)
      have hdn2 := hdn2.kept hk
      have hdc6 := hdc6.kept hk
      refine lv_istore (lv' := [(6, .int r50), (0, .ref (am 38)), (1, .ref qn2), (2, .ref qc6), (3, .int x3), (4, .int x4), (5, .int x5)]) hx hb dX9_contradictionsNow_53 hl (by decide) rfl (fun ls hl => ?_)
      refine lv_iconst (v := 0) hx hb dX9_contradictionsNow_55 (by decide) ?_
      refine lv_istore (lv' := [(7, .int 0), (6, .int r50), (0, .ref (am 38)), (1, .ref qn2), (2, .ref qc6), (3, .int x3), (4, .int x4), (5, .int x5)]) hx hb dX9_contradictionsNow_56 hl (by decide) rfl (fun ls hl => ?_)
      obtain ⟨n58, hw⟩ := hw
      refine tL_X9_contradictionsNow_58 C0 hK (hk92 := ?_) n58 x3 x4 x5 r50 0 fn2 Nc6 hw _ _ hW hS _ hgn2 _ _ hgc6 (by omega) hdn2 hdc6 _ (lv_sub hl [2, 3, 4, 5, 6, 7, 1, 0] rfl)
      · intro x3 x4 x5 fn2 Nc6 hw H locs hW hS qn2 hgn2 qc6 Bc6 hgc6 hln2_c6 hdn2 hdc6 ls hl
        refine lv_iinc (v := (x5 + 1)) (lv' := [(5, .int (x5 + 1)), (0, .ref (am 38)), (1, .ref qn2), (2, .ref qc6), (3, .int x3), (4, .int x4)]) hx hb dX9_contradictionsNow_92 hl (k := 5) rfl rfl (by decide) rfl (fun ls hl => ?_)
        refine lv_goto (tgt := 32) hx hb dX9_contradictionsNow_95 (by decide) ?_
        exact ih x3 x4 (x5 + 1) fn2 Nc6 hw _ _ hW hS _ hgn2 _ _ hgc6 (by omega) hdn2 hdc6 _ (lv_sub hl [1, 2, 3, 4, 5, 0] rfl)
set_option maxHeartbeats 4000000 in
set_option maxRecDepth 100000 in
theorem tL_X9_contradictionsNow_23 {p : Program} {l : Launch} {e : Env} {s : State} {m : MethodId} {args : Array Value} {below : List Frame} {meth : Method} {c : Code} {D : va_G} {cI cZ cG cL : ClassId} {am : Nat → Nat} (C0 : gk_F p s m args meth c cX9_contradictionsNow 8 (some .int) RX9) (hK : gk_K D cI cZ cG cL s) {σ : gk_C} {Q : Int32 → Prop} {k104 : Int32 → (Nat → Int32) → (Nat → Option (Nat → Int32)) → Prop} (hk104 : ∀ (x3 : Int32) (fn2 : Nat → Int32) (Nc6 : Nat → Option (Nat → Int32)), k104 x3 fn2 Nc6 → ∀ (H : Heap) (locs : List Loc), mk_V D cI cZ am σ H → va_S (mk_A am s.heap.size) s.heap H locs → ∀ (qn2 : Nat), s.heap.size ≤ qn2 → ∀ (qc6 Bc6 : Nat), s.heap.size ≤ qc6 → qn2 < qc6 → mk_D D cI am qn2 30 fn2 H → mk_N D cI cG am qc6 Bc6 Nc6 H → ∀ (ls : Array Slot), lv_has ls 8 [(0, .ref (am 38)), (1, .ref qn2), (2, .ref qc6), (3, .int x3)] → W p l e rmX9_contradictionsNow s m args below meth c H locs 14 186 (MQ below (va_Qi (fun r u => u = σ ∧ Q r) (mk_B (mk_V D cI cZ am)) (mk_A am s.heap.size)) args s 14 186 (mk_A am s.heap.size)) (F0 m 104 ls [])) : ∀ (n : Nat) (x3 : Int32) (x4 : Int32) (fn2 : Nat → Int32) (Nc6 : Nat → Option (Nat → Int32)), wL_X9_contradictionsNow_23 σ k104 n x3 x4 fn2 Nc6 → ∀ (H : Heap) (locs : List Loc), mk_V D cI cZ am σ H → va_S (mk_A am s.heap.size) s.heap H locs → ∀ (qn2 : Nat), s.heap.size ≤ qn2 → ∀ (qc6 Bc6 : Nat), s.heap.size ≤ qc6 → qn2 < qc6 → mk_D D cI am qn2 30 fn2 H → mk_N D cI cG am qc6 Bc6 Nc6 H → ∀ (ls : Array Slot), lv_has ls 8 [(0, .ref (am 38)), (1, .ref qn2), (2, .ref qc6), (3, .int x3), (4, .int x4)] → W p l e rmX9_contradictionsNow s m args below meth c H locs 14 186 (MQ below (va_Qi (fun r u => u = σ ∧ Q r) (mk_B (mk_V D cI cZ am)) (mk_A am s.heap.size)) args s 14 186 (mk_A am s.heap.size)) (F0 m 23 ls []) := by
  obtain ⟨hx, hb, hml, hown, hts, hr, hlocks⟩ := id C0
  intro n
  induction n with
  | zero => exact fun _ _ _ _ hw => False.elim hw
  | succ n ih =>
    intro x3 x4 fn2 Nc6 hw H locs hW hS qn2 hgn2 qc6 Bc6 hgc6 hln2_c6 hdn2 hdc6 ls hl
    refine lv_iload hx hb dX9_contradictionsNow_23 (lv_at hl 4 rfl) ?_
    refine lv_iconst (v := 5) hx hb dX9_contradictionsNow_25 (by decide) ?_
    refine lv_icmp_ge (tgt := 104) hx hb dX9_contradictionsNow_26 (by decide) (fun c26 => ?_) (fun c26 => ?_)
    · have hw := hw.1 c26
      exact hk104 x3 fn2 Nc6 hw _ _ hW hS _ hgn2 _ _ hgc6 (by omega) hdn2 hdc6 _ (lv_sub hl [0, 1, 2, 3] rfl)
    · have hw := hw.2 c26
      refine lv_iconst (v := 0) hx hb dX9_contradictionsNow_29 (by decide) ?_
      refine lv_istore (lv' := [(5, .int 0), (0, .ref (am 38)), (1, .ref qn2), (2, .ref qc6), (3, .int x3), (4, .int x4)]) hx hb dX9_contradictionsNow_30 hl (by decide) rfl (fun ls hl => ?_)
      obtain ⟨n32, hw⟩ := hw
      refine tL_X9_contradictionsNow_32 C0 hK (hk98 := ?_) n32 x3 x4 0 fn2 Nc6 hw _ _ hW hS _ hgn2 _ _ hgc6 (by omega) hdn2 hdc6 _ (lv_sub hl [1, 2, 3, 4, 5, 0] rfl)
      · intro x3 x4 fn2 Nc6 hw H locs hW hS qn2 hgn2 qc6 Bc6 hgc6 hln2_c6 hdn2 hdc6 ls hl
        refine lv_iinc (v := (x4 + 1)) (lv' := [(4, .int (x4 + 1)), (0, .ref (am 38)), (1, .ref qn2), (2, .ref qc6), (3, .int x3)]) hx hb dX9_contradictionsNow_98 hl (k := 4) rfl rfl (by decide) rfl (fun ls hl => ?_)
        refine lv_goto (tgt := 23) hx hb dX9_contradictionsNow_101 (by decide) ?_
        exact ih x3 (x4 + 1) fn2 Nc6 hw _ _ hW hS _ hgn2 _ _ hgc6 (by omega) hdn2 hdc6 _ (lv_sub hl [1, 2, 3, 4, 0] rfl)
set_option maxHeartbeats 4000000 in
set_option maxRecDepth 100000 in
theorem tL_X9_contradictionsNow_12 {p : Program} {l : Launch} {e : Env} {s : State} {m : MethodId} {args : Array Value} {below : List Frame} {meth : Method} {c : Code} {D : va_G} {cI cZ cG cL : ClassId} {am : Nat → Nat} (C0 : gk_F p s m args meth c cX9_contradictionsNow 8 (some .int) RX9) (hK : gk_K D cI cZ cG cL s) {σ : gk_C} {Q : Int32 → Prop} {k110 : (Nat → Int32) → Prop} (hk110 : ∀ (fn2 : Nat → Int32), k110 fn2 → ∀ (H : Heap) (locs : List Loc), mk_V D cI cZ am σ H → va_S (mk_A am s.heap.size) s.heap H locs → ∀ (qn2 : Nat), s.heap.size ≤ qn2 → mk_D D cI am qn2 30 fn2 H → ∀ (ls : Array Slot), lv_has ls 8 [(0, .ref (am 38)), (1, .ref qn2)] → W p l e rmX9_contradictionsNow s m args below meth c H locs 14 186 (MQ below (va_Qi (fun r u => u = σ ∧ Q r) (mk_B (mk_V D cI cZ am)) (mk_A am s.heap.size)) args s 14 186 (mk_A am s.heap.size)) (F0 m 110 ls [])) : ∀ (n : Nat) (x3 : Int32) (fn2 : Nat → Int32) (Nc6 : Nat → Option (Nat → Int32)), wL_X9_contradictionsNow_12 σ k110 n x3 fn2 Nc6 → ∀ (H : Heap) (locs : List Loc), mk_V D cI cZ am σ H → va_S (mk_A am s.heap.size) s.heap H locs → ∀ (qn2 : Nat), s.heap.size ≤ qn2 → ∀ (qc6 Bc6 : Nat), s.heap.size ≤ qc6 → qn2 < qc6 → mk_D D cI am qn2 30 fn2 H → mk_N D cI cG am qc6 Bc6 Nc6 H → ∀ (ls : Array Slot), lv_has ls 8 [(0, .ref (am 38)), (1, .ref qn2), (2, .ref qc6), (3, .int x3)] → W p l e rmX9_contradictionsNow s m args below meth c H locs 14 186 (MQ below (va_Qi (fun r u => u = σ ∧ Q r) (mk_B (mk_V D cI cZ am)) (mk_A am s.heap.size)) args s 14 186 (mk_A am s.heap.size)) (F0 m 12 ls []) := by
  obtain ⟨hx, hb, hml, hown, hts, hr, hlocks⟩ := id C0
  intro n
  induction n with
  | zero => exact fun _ _ _ hw => False.elim hw
  | succ n ih =>
    intro x3 fn2 Nc6 hw H locs hW hS qn2 hgn2 qc6 Bc6 hgc6 hln2_c6 hdn2 hdc6 ls hl
    refine lv_iload_n hx hb dX9_contradictionsNow_12 rfl (lv_at hl 3 rfl) ?_
    refine lv_aload_n hx hb dX9_contradictionsNow_13 rfl (lv_at hl 0 rfl) ?_
    refine gk_get hx hb hts iwX9 hown hK.1 (mk_obj hW) rfl 3 (by decide) (hts _ fl_X9_105) (fun _ h9 => h9) rfl dX9_contradictionsNow_14 ?_
    refine lv_icmp_ge (tgt := 110) hx hb dX9_contradictionsNow_17 (by decide) (fun c17 => ?_) (fun c17 => ?_)
    · have hw := hw.1 c17
      exact hk110 fn2 hw _ _ hW hS _ hgn2 hdn2 _ (lv_sub hl [0, 1] rfl)
    · have hw := hw.2 c17
      refine lv_iconst (v := 0) hx hb dX9_contradictionsNow_20 (by decide) ?_
      refine lv_istore (lv' := [(4, .int 0), (0, .ref (am 38)), (1, .ref qn2), (2, .ref qc6), (3, .int x3)]) hx hb dX9_contradictionsNow_21 hl (by decide) rfl (fun ls hl => ?_)
      obtain ⟨n23, hw⟩ := hw
      refine tL_X9_contradictionsNow_23 C0 hK (hk104 := ?_) n23 x3 0 fn2 Nc6 hw _ _ hW hS _ hgn2 _ _ hgc6 (by omega) hdn2 hdc6 _ (lv_sub hl [1, 2, 3, 4, 0] rfl)
      · intro x3 fn2 Nc6 hw H locs hW hS qn2 hgn2 qc6 Bc6 hgc6 hln2_c6 hdn2 hdc6 ls hl
        refine lv_iinc (v := (x3 + 1)) (lv' := [(3, .int (x3 + 1)), (0, .ref (am 38)), (1, .ref qn2), (2, .ref qc6)]) hx hb dX9_contradictionsNow_104 hl (k := 3) rfl rfl (by decide) rfl (fun ls hl => ?_)
        refine lv_goto (tgt := 12) hx hb dX9_contradictionsNow_107 (by decide) ?_
        exact ih (x3 + 1) fn2 Nc6 hw _ _ hW hS _ hgn2 _ _ hgc6 (by omega) hdn2 hdc6 _ (lv_sub hl [1, 2, 3, 0] rfl)
set_option maxHeartbeats 4000000 in
set_option maxRecDepth 100000 in
theorem tJ_X9_contradictionsNow_169 {p : Program} {l : Launch} {e : Env} {s : State} {m : MethodId} {args : Array Value} {below : List Frame} {meth : Method} {c : Code} {D : va_G} {cI cZ cG cL : ClassId} {am : Nat → Nat} (C0 : gk_F p s m args meth c cX9_contradictionsNow 8 (some .int) RX9) (hK : gk_K D cI cZ cG cL s) {σ : gk_C} {Q : Int32 → Prop} {k170 : Int32 → Int32 → Int32 → Int32 → (Nat → Int32) → Prop} (hk170 : ∀ (x4 : Int32) (x5 : Int32) (t0 : Int32) (t1 : Int32) (fn2 : Nat → Int32), k170 x4 x5 t0 t1 fn2 → ∀ (H : Heap) (locs : List Loc), mk_V D cI cZ am σ H → va_S (mk_A am s.heap.size) s.heap H locs → ∀ (qn2 : Nat), s.heap.size ≤ qn2 → mk_D D cI am qn2 30 fn2 H → ∀ (ls : Array Slot), lv_has ls 8 [(0, .ref (am 38)), (1, .ref qn2), (4, .int x4), (5, .int x5)] → W p l e rmX9_contradictionsNow s m args below meth c H locs 14 186 (MQ below (va_Qi (fun r u => u = σ ∧ Q r) (mk_B (mk_V D cI cZ am)) (mk_A am s.heap.size)) args s 14 186 (mk_A am s.heap.size)) (F0 m 170 ls [.int t1, .int t0])) : ∀ (x4 : Int32) (x5 : Int32) (t0 : Int32) (fn2 : Nat → Int32), wJ_X9_contradictionsNow_169 σ k170 x4 x5 t0 fn2 → ∀ (H : Heap) (locs : List Loc), mk_V D cI cZ am σ H → va_S (mk_A am s.heap.size) s.heap H locs → ∀ (qn2 : Nat), s.heap.size ≤ qn2 → mk_D D cI am qn2 30 fn2 H → ∀ (ls : Array Slot), lv_has ls 8 [(0, .ref (am 38)), (1, .ref qn2), (4, .int x4), (5, .int x5)] → W p l e rmX9_contradictionsNow s m args below meth c H locs 14 186 (MQ below (va_Qi (fun r u => u = σ ∧ Q r) (mk_B (mk_V D cI cZ am)) (mk_A am s.heap.size)) args s 14 186 (mk_A am s.heap.size)) (F0 m 169 ls [.int t0]) := by
  obtain ⟨hx, hb, hml, hown, hts, hr, hlocks⟩ := id C0
  intro x4 x5 t0 fn2 hw H locs hW hS qn2 hgn2 hdn2 ls hl
  refine lv_iconst (v := 0) hx hb dX9_contradictionsNow_169 (by decide) ?_
  exact hk170 x4 x5 t0 0 fn2 hw _ _ hW hS _ hgn2 hdn2 _ hl
set_option maxHeartbeats 4000000 in
set_option maxRecDepth 100000 in
theorem tJ_X9_contradictionsNow_170 {p : Program} {l : Launch} {e : Env} {s : State} {m : MethodId} {args : Array Value} {below : List Frame} {meth : Method} {c : Code} {D : va_G} {cI cZ cG cL : ClassId} {am : Nat → Nat} (C0 : gk_F p s m args meth c cX9_contradictionsNow 8 (some .int) RX9) (hK : gk_K D cI cZ cG cL s) {σ : gk_C} {Q : Int32 → Prop} {k127 : Int32 → Int32 → Int32 → (Nat → Int32) → Prop} (hk127 : ∀ (x3 : Int32) (x4 : Int32) (x5 : Int32) (fn2 : Nat → Int32), k127 x3 x4 x5 fn2 → ∀ (H : Heap) (locs : List Loc), mk_V D cI cZ am σ H → va_S (mk_A am s.heap.size) s.heap H locs → ∀ (qn2 : Nat), s.heap.size ≤ qn2 → mk_D D cI am qn2 30 fn2 H → ∀ (ls : Array Slot), lv_has ls 8 [(0, .ref (am 38)), (1, .ref qn2), (3, .int x3), (4, .int x4), (5, .int x5)] → W p l e rmX9_contradictionsNow s m args below meth c H locs 14 186 (MQ below (va_Qi (fun r u => u = σ ∧ Q r) (mk_B (mk_V D cI cZ am)) (mk_A am s.heap.size)) args s 14 186 (mk_A am s.heap.size)) (F0 m 127 ls [])) : ∀ (x4 : Int32) (x5 : Int32) (t0 : Int32) (t1 : Int32) (fn2 : Nat → Int32), wJ_X9_contradictionsNow_170 σ k127 x4 x5 t0 t1 fn2 → ∀ (H : Heap) (locs : List Loc), mk_V D cI cZ am σ H → va_S (mk_A am s.heap.size) s.heap H locs → ∀ (qn2 : Nat), s.heap.size ≤ qn2 → mk_D D cI am qn2 30 fn2 H → ∀ (ls : Array Slot), lv_has ls 8 [(0, .ref (am 38)), (1, .ref qn2), (4, .int x4), (5, .int x5)] → W p l e rmX9_contradictionsNow s m args below meth c H locs 14 186 (MQ below (va_Qi (fun r u => u = σ ∧ Q r) (mk_B (mk_V D cI cZ am)) (mk_A am s.heap.size)) args s 14 186 (mk_A am s.heap.size)) (F0 m 170 ls [.int t1, .int t0]) := by
  obtain ⟨hx, hb, hml, hown, hts, hr, hlocks⟩ := id C0
  intro x4 x5 t0 t1 fn2 hw H locs hW hS qn2 hgn2 hdn2 ls hl
  refine lv_iadd hx hb dX9_contradictionsNow_170 ?_
  refine lv_istore_n (lv' := [(3, .int (t0 + t1)), (0, .ref (am 38)), (1, .ref qn2), (4, .int x4), (5, .int x5)]) hx hb dX9_contradictionsNow_171 rfl hl (by decide) rfl (fun ls hl => ?_)
  refine lv_iinc (v := (x5 + 1)) (lv' := [(5, .int (x5 + 1)), (3, .int (t0 + t1)), (0, .ref (am 38)), (1, .ref qn2), (4, .int x4)]) hx hb dX9_contradictionsNow_172 hl (k := 4) rfl rfl (by decide) rfl (fun ls hl => ?_)
  refine lv_goto (tgt := 127) hx hb dX9_contradictionsNow_175 (by decide) ?_
  exact hk127 (t0 + t1) x4 (x5 + 1) fn2 hw _ _ hW hS _ hgn2 hdn2 _ (lv_sub hl [2, 3, 1, 4, 0] rfl)
set_option maxHeartbeats 4000000 in
set_option maxRecDepth 100000 in
theorem tL_X9_contradictionsNow_127 {p : Program} {l : Launch} {e : Env} {s : State} {m : MethodId} {args : Array Value} {below : List Frame} {meth : Method} {c : Code} {D : va_G} {cI cZ cG cL : ClassId} {am : Nat → Nat} (C0 : gk_F p s m args meth c cX9_contradictionsNow 8 (some .int) RX9) (hK : gk_K D cI cZ cG cL s) {σ : gk_C} {Q : Int32 → Prop} {k178 : Int32 → Int32 → (Nat → Int32) → Prop} (hk178 : ∀ (x3 : Int32) (x4 : Int32) (fn2 : Nat → Int32), k178 x3 x4 fn2 → ∀ (H : Heap) (locs : List Loc), mk_V D cI cZ am σ H → va_S (mk_A am s.heap.size) s.heap H locs → ∀ (qn2 : Nat), s.heap.size ≤ qn2 → mk_D D cI am qn2 30 fn2 H → ∀ (ls : Array Slot), lv_has ls 8 [(0, .ref (am 38)), (1, .ref qn2), (3, .int x3), (4, .int x4)] → W p l e rmX9_contradictionsNow s m args below meth c H locs 14 186 (MQ below (va_Qi (fun r u => u = σ ∧ Q r) (mk_B (mk_V D cI cZ am)) (mk_A am s.heap.size)) args s 14 186 (mk_A am s.heap.size)) (F0 m 178 ls [])) : ∀ (n : Nat) (x3 : Int32) (x4 : Int32) (x5 : Int32) (fn2 : Nat → Int32), wL_X9_contradictionsNow_127 σ k178 n x3 x4 x5 fn2 → ∀ (H : Heap) (locs : List Loc), mk_V D cI cZ am σ H → va_S (mk_A am s.heap.size) s.heap H locs → ∀ (qn2 : Nat), s.heap.size ≤ qn2 → mk_D D cI am qn2 30 fn2 H → ∀ (ls : Array Slot), lv_has ls 8 [(0, .ref (am 38)), (1, .ref qn2), (3, .int x3), (4, .int x4), (5, .int x5)] → W p l e rmX9_contradictionsNow s m args below meth c H locs 14 186 (MQ below (va_Qi (fun r u => u = σ ∧ Q r) (mk_B (mk_V D cI cZ am)) (mk_A am s.heap.size)) args s 14 186 (mk_A am s.heap.size)) (F0 m 127 ls []) := by
  obtain ⟨hx, hb, hml, hown, hts, hr, hlocks⟩ := id C0
  intro n
  induction n with
  | zero => exact fun _ _ _ _ hw => False.elim hw
  | succ n ih =>
    intro x3 x4 x5 fn2 hw H locs hW hS qn2 hgn2 hdn2 ls hl
    refine lv_iload hx hb dX9_contradictionsNow_127 (lv_at hl 4 rfl) ?_
    refine lv_aload_n hx hb dX9_contradictionsNow_129 rfl (lv_at hl 0 rfl) ?_
    refine gk_get hx hb hts iwX9 hown hK.1 (mk_obj hW) rfl 16 (by decide) (hts _ fl_X9_165) (fun _ h9 => h9) rfl dX9_contradictionsNow_130 ?_
    refine lv_icmp_ge (tgt := 178) hx hb dX9_contradictionsNow_133 (by decide) (fun c133 => ?_) (fun c133 => ?_)
    · have hw := hw.1 c133
      exact hk178 x3 x4 fn2 hw _ _ hW hS _ hgn2 hdn2 _ (lv_sub hl [0, 1, 2, 3] rfl)
    · have hw := hw.2 c133
      refine lv_iload_n hx hb dX9_contradictionsNow_136 rfl (lv_at hl 2 rfl) ?_
      refine lv_aload_n hx hb dX9_contradictionsNow_137 rfl (lv_at hl 0 rfl) ?_
      refine gk_get hx hb hts iwX9 hown hK.1 (mk_obj hW) rfl 17 (by decide) (hts _ fl_X9_41) (fun _ h9 => h9) rfl dX9_contradictionsNow_138 ?_
      refine lv_iload hx hb dX9_contradictionsNow_141 (lv_at hl 3 rfl) ?_
      obtain ⟨hin, hw⟩ := hw
      refine gk_zald hx hb hK.1 1 (mk_arr hW (k := 17) (by decide) (by decide) (by decide)) rfl hin dX9_contradictionsNow_143 ?_
      refine lv_if_eq (tgt := 169) hx hb dX9_contradictionsNow_144 (by decide) (fun c144 => ?_) (fun c144 => ?_)
      · have hw := hw.1 c144
        refine tJ_X9_contradictionsNow_169 C0 hK (hk170 := ?_) x4 x5 x3 fn2 hw _ _ hW hS _ hgn2 hdn2 _ (lv_sub hl [0, 1, 3, 4] rfl)
        · intro x4 x5 t0 t1 fn2 hw H locs hW hS qn2 hgn2 hdn2 ls hl
          refine tJ_X9_contradictionsNow_170 C0 hK (hk127 := ih) x4 x5 t0 t1 fn2 hw _ _ hW hS _ hgn2 hdn2 _ hl
      · have hw := hw.2 c144
        refine lv_aload_n hx hb dX9_contradictionsNow_147 rfl (lv_at hl 0 rfl) ?_
        refine gk_get hx hb hts iwX9 hown hK.1 (mk_obj hW) rfl 17 (by decide) (hts _ fl_X9_41) (fun _ h9 => h9) rfl dX9_contradictionsNow_148 ?_
        refine lv_iload hx hb dX9_contradictionsNow_151 (lv_at hl 4 rfl) ?_
        obtain ⟨hin, hw⟩ := hw
        refine gk_zald hx hb hK.1 1 (mk_arr hW (k := 17) (by decide) (by decide) (by decide)) rfl hin dX9_contradictionsNow_153 ?_
        refine lv_if_ne (tgt := 169) hx hb dX9_contradictionsNow_154 (by decide) (fun c154 => ?_) (fun c154 => ?_)
        · have hw := hw.1 c154
          refine tJ_X9_contradictionsNow_169 C0 hK (hk170 := ?_) x4 x5 x3 fn2 hw _ _ hW hS _ hgn2 hdn2 _ (lv_sub hl [0, 1, 3, 4] rfl)
          · intro x4 x5 t0 t1 fn2 hw H locs hW hS qn2 hgn2 hdn2 ls hl
            refine tJ_X9_contradictionsNow_170 C0 hK (hk127 := ih) x4 x5 t0 t1 fn2 hw _ _ hW hS _ hgn2 hdn2 _ hl
        · have hw := hw.2 c154
          refine lv_aload_n hx hb dX9_contradictionsNow_157 rfl (lv_at hl 1 rfl) ?_
          refine lv_iload hx hb dX9_contradictionsNow_158 (lv_at hl 3 rfl) ?_
          obtain ⟨hin, hw⟩ := hw
          refine gk_iald hx hb hK.1 0 hdn2.1 rfl hin dX9_contradictionsNow_160 ?_
          refine lv_iload hx hb dX9_contradictionsNow_161 (lv_at hl 4 rfl) ?_
          refine lv_ishr hx hb dX9_contradictionsNow_163 ?_
          refine lv_iconst (v := 1) hx hb dX9_contradictionsNow_164 (by decide) ?_
          refine lv_iand hx hb dX9_contradictionsNow_165 ?_
          refine lv_goto (tgt := 170) hx hb dX9_contradictionsNow_166 (by decide) ?_
          refine tJ_X9_contradictionsNow_170 C0 hK (hk127 := ih) x4 x5 x3 (((fn2 x4.toNatClampNeg) >>> (x5 &&& 31)) &&& 1) fn2 hw _ _ hW hS _ hgn2 hdn2 _ (lv_sub hl [0, 1, 3, 4] rfl)
set_option maxHeartbeats 4000000 in
set_option maxRecDepth 100000 in
theorem tL_X9_contradictionsNow_115 {p : Program} {l : Launch} {e : Env} {s : State} {m : MethodId} {args : Array Value} {below : List Frame} {meth : Method} {c : Code} {D : va_G} {cI cZ cG cL : ClassId} {am : Nat → Nat} (C0 : gk_F p s m args meth c cX9_contradictionsNow 8 (some .int) RX9) (hK : gk_K D cI cZ cG cL s) {σ : gk_C} {Q : Int32 → Prop} : ∀ (n : Nat) (x3 : Int32) (x4 : Int32) (fn2 : Nat → Int32), wL_X9_contradictionsNow_115 σ Q n x3 x4 fn2 → ∀ (H : Heap) (locs : List Loc), mk_V D cI cZ am σ H → va_S (mk_A am s.heap.size) s.heap H locs → ∀ (qn2 : Nat), s.heap.size ≤ qn2 → mk_D D cI am qn2 30 fn2 H → ∀ (ls : Array Slot), lv_has ls 8 [(0, .ref (am 38)), (1, .ref qn2), (3, .int x3), (4, .int x4)] → W p l e rmX9_contradictionsNow s m args below meth c H locs 14 186 (MQ below (va_Qi (fun r u => u = σ ∧ Q r) (mk_B (mk_V D cI cZ am)) (mk_A am s.heap.size)) args s 14 186 (mk_A am s.heap.size)) (F0 m 115 ls []) := by
  obtain ⟨hx, hb, hml, hown, hts, hr, hlocks⟩ := id C0
  intro n
  induction n with
  | zero => exact fun _ _ _ hw => False.elim hw
  | succ n ih =>
    intro x3 x4 fn2 hw H locs hW hS qn2 hgn2 hdn2 ls hl
    refine lv_iload hx hb dX9_contradictionsNow_115 (lv_at hl 3 rfl) ?_
    refine lv_aload_n hx hb dX9_contradictionsNow_117 rfl (lv_at hl 0 rfl) ?_
    refine gk_get hx hb hts iwX9 hown hK.1 (mk_obj hW) rfl 16 (by decide) (hts _ fl_X9_165) (fun _ h9 => h9) rfl dX9_contradictionsNow_118 ?_
    refine lv_icmp_ge (tgt := 184) hx hb dX9_contradictionsNow_121 (by decide) (fun c121 => ?_) (fun c121 => ?_)
    · have hw := hw.1 c121
      refine lv_iload_n hx hb dX9_contradictionsNow_184 rfl (lv_at hl 2 rfl) ?_
      refine W.widen (k := 14) (n := 186) (Nat.le_of_ble_eq_true rfl) (Nat.le_of_ble_eq_true rfl) ?_
      exact mk_reti C0 ⟨rfl, hw⟩ hW hS dX9_contradictionsNow_185
    · have hw := hw.2 c121
      refine lv_iconst (v := 0) hx hb dX9_contradictionsNow_124 (by decide) ?_
      refine lv_istore (lv' := [(5, .int 0), (0, .ref (am 38)), (1, .ref qn2), (3, .int x3), (4, .int x4)]) hx hb dX9_contradictionsNow_125 hl (by decide) rfl (fun ls hl => ?_)
      obtain ⟨n127, hw⟩ := hw
      refine tL_X9_contradictionsNow_127 C0 hK (hk178 := ?_) n127 x3 x4 0 fn2 hw _ _ hW hS _ hgn2 hdn2 _ (lv_sub hl [1, 2, 3, 4, 0] rfl)
      · intro x3 x4 fn2 hw H locs hW hS qn2 hgn2 hdn2 ls hl
        refine lv_iinc (v := (x4 + 1)) (lv' := [(4, .int (x4 + 1)), (0, .ref (am 38)), (1, .ref qn2), (3, .int x3)]) hx hb dX9_contradictionsNow_178 hl (k := 3) rfl rfl (by decide) rfl (fun ls hl => ?_)
        refine lv_goto (tgt := 115) hx hb dX9_contradictionsNow_181 (by decide) ?_
        exact ih x3 (x4 + 1) fn2 hw _ _ hW hS _ hgn2 hdn2 _ (lv_sub hl [1, 2, 3, 0] rfl)
set_option maxHeartbeats 4000000 in
set_option maxRecDepth 100000 in
theorem c_X9_contradictionsNow (l : Launch) (D : va_G) (cI cZ cG cL : ClassId) (am : Nat → Nat) {σ : gk_C} {Q : Int32 → Prop} {sz : Nat} (hw : w_X9_contradictionsNow σ  Q) : Met l yX9_contradictionsNow wsX9_contradictionsNow rmX9_contradictionsNow (mk_Pc (mk_V D cI cZ am) D cI cZ cG cL [.ref (am 38)] sz σ (fun _ => True)) (va_Qi (fun r u => u = σ ∧ Q r) (mk_B (mk_V D cI cZ am)) (mk_A am sz)) 14 186 (mk_A am sz) := by
  refine Met.ofW (cc := cX9_contradictionsNow) (maxL := 8) (ret := (some .int)) (by decide) rfl ?_
  intro p e s m args below meth c s₁ B hml0 hv0
  obtain ⟨rfl, hsz, hW, hK, hX⟩ := hv0
  subst hsz
  have C0 : gk_F p s m ([.ref (am 38)] : List Value).toArray meth c cX9_contradictionsNow 8 (some .int) RX9 := ⟨B.exec, B.bytes, hml0, findClass_of_methodNamed B.named, fun w hw => atoms_spec (ws := wsX9_contradictionsNow) B.pre w (List.mem_cons_of_mem _ hw), B.returns, B.notSynchronized⟩
  obtain ⟨hx, hb, hml, hown, hts, hr, hlocks⟩ := id C0
  have hS : va_S (mk_A am s.heap.size) s.heap s.heap [] := va_S.rf
  have hl := lv_entry ([.ref (am 38)]) (n := 8) (Nat.le_of_ble_eq_true rfl)
  rw [lg_entry_eq]
  generalize (lg_sl ([.ref (am 38)]) ++ List.replicate (8 - (lg_sl ([.ref (am 38)])).length) Slot.unset).toArray = ls at hl ⊢
  have hl : lv_has ls 8 [(0, .ref (am 38))] := hl
  show W p l e rmX9_contradictionsNow s m _ below meth c s.heap [] 0 0 _ _
  refine lv_bipush (v := 30) hx hb dX9_contradictionsNow_0 (by decide) ?_
  refine mk_newi (N' := 30) hx hb (hts _ ac_int) hK (fun k hk => hW.lt hk) hS (by decide) rfl (by decide) ⟨Nat.le_of_ble_eq_true rfl, Nat.le_of_ble_eq_true rfl⟩ dX9_contradictionsNow_2 (fun qn2 H hdn2 hqn2 hgn2 hk hS => ?_)
  have hW := hW.keptAll hk
  refine lv_astore_n (lv' := [(1, .ref qn2), (0, .ref (am 38))]) hx hb dX9_contradictionsNow_4 rfl hl (by decide) rfl (fun ls hl => ?_)
  refine lv_aload_n hx hb dX9_contradictionsNow_5 rfl (lv_at hl 1 rfl) ?_
  refine mk_callVb ⟨hx, hb, hml, hown, hts⟩ (c_X9_allNears l D cI cZ cG cL am hw) (cwV 0 hts (gk_gV ml_X9_247 im_X9_allNears se_X9_allNears in_X9 co_X9_allNears) rfl rfl rfl (by decide +kernel) ⟨Nat.le_of_ble_eq_true rfl, Nat.le_of_ble_eq_true rfl⟩) (gk_recv hK.1 (mk_obj hW) rfl) hW hK trivial hS rfl hl.1 (rest := []) rfl (lv_room (Nat.le_of_ble_eq_true rfl)) dX9_contradictionsNow_6 ⟨Nat.le_of_ble_eq_true rfl, Nat.le_of_ble_eq_true rfl⟩ (fun Nc6 qc6 H locs hw hW hdc6 hb0 hgc6 _ hk hS => ?_)
  have hln2_c6 : qn2 < qc6 := Nat.lt_of_lt_of_le hdn2.1.lt hb0
  have hdn2 := hdn2.kept hk
  refine lv_astore_n (lv' := [(2, .ref qc6), (1, .ref qn2), (0, .ref (am 38))]) hx hb dX9_contradictionsNow_9 rfl hl (by decide) rfl (fun ls hl => ?_)
  refine lv_iconst (v := 0) hx hb dX9_contradictionsNow_10 (by decide) ?_
  refine lv_istore_n (lv' := [(3, .int 0), (2, .ref qc6), (1, .ref qn2), (0, .ref (am 38))]) hx hb dX9_contradictionsNow_11 rfl hl (by decide) rfl (fun ls hl => ?_)
  obtain ⟨n12, hw⟩ := hw
  refine tL_X9_contradictionsNow_12 C0 hK (hk110 := ?_) n12 0 (fun _ => 0) Nc6 hw _ _ hW hS _ hgn2 _ _ hgc6 (by omega) hdn2 hdc6 _ (lv_sub hl [3, 2, 1, 0] rfl)
  · intro fn2 hw H locs hW hS qn2 hgn2 hdn2 ls hl
    refine lv_iconst (v := 0) hx hb dX9_contradictionsNow_110 (by decide) ?_
    refine lv_istore_n (lv' := [(3, .int 0), (0, .ref (am 38)), (1, .ref qn2)]) hx hb dX9_contradictionsNow_111 rfl hl (by decide) rfl (fun ls hl => ?_)
    refine lv_iconst (v := 0) hx hb dX9_contradictionsNow_112 (by decide) ?_
    refine lv_istore (lv' := [(4, .int 0), (3, .int 0), (0, .ref (am 38)), (1, .ref qn2)]) hx hb dX9_contradictionsNow_113 hl (by decide) rfl (fun ls hl => ?_)
    obtain ⟨n115, hw⟩ := hw
    refine tL_X9_contradictionsNow_115 C0 hK  n115 0 0 fn2 hw _ _ hW hS _ hgn2 hdn2 _ (lv_sub hl [2, 3, 1, 0] rfl)
def w_X9_contradictions (σ : gk_C)  (Q : Int32 → gk_C → Prop) : Prop := (w_X9_contradictionsNow σ (fun r2 => w_X9_ok σ r2 (fun r5 σ5 => Q r5 σ5)))
abbrev rmX9_contradictions : Room := { frames := 5, cells := 14, slots := 186, locals := 121 }
set_option maxHeartbeats 4000000 in
set_option maxRecDepth 100000 in
theorem c_X9_contradictions (l : Launch) (D : va_G) (cI cZ cG cL : ClassId) (am : Nat → Nat) {σ : gk_C} {Q : Int32 → gk_C → Prop} {sz : Nat} (hw : w_X9_contradictions σ  Q) : Met l yX9_contradictions wsX9_contradictions rmX9_contradictions (mk_Pc (mk_V D cI cZ am) D cI cZ cG cL [.ref (am 38)] sz σ (fun _ => True)) (va_Qi (fun r u => Q r u) (mk_B (mk_V D cI cZ am)) (mk_A am sz)) 14 186 (mk_A am sz) := by
  refine Met.ofW (cc := cX9_contradictions) (maxL := 1) (ret := (some .int)) (by decide) rfl ?_
  intro p e s m args below meth c s₁ B hml0 hv0
  obtain ⟨rfl, hsz, hW, hK, hX⟩ := hv0
  subst hsz
  have C0 : gk_F p s m ([.ref (am 38)] : List Value).toArray meth c cX9_contradictions 1 (some .int) RX9 := ⟨B.exec, B.bytes, hml0, findClass_of_methodNamed B.named, fun w hw => atoms_spec (ws := wsX9_contradictions) B.pre w (List.mem_cons_of_mem _ hw), B.returns, B.notSynchronized⟩
  obtain ⟨hx, hb, hml, hown, hts, hr, hlocks⟩ := id C0
  have hS : va_S (mk_A am s.heap.size) s.heap s.heap [] := va_S.rf
  have hl := lv_entry ([.ref (am 38)]) (n := 1) (Nat.le_of_ble_eq_true rfl)
  rw [lg_entry_eq]
  generalize (lg_sl ([.ref (am 38)]) ++ List.replicate (1 - (lg_sl ([.ref (am 38)])).length) Slot.unset).toArray = ls at hl ⊢
  have hl : lv_has ls 1 [(0, .ref (am 38))] := hl
  show W p l e rmX9_contradictions s m _ below meth c s.heap [] 0 0 _ _
  refine lv_aload_n hx hb dX9_contradictions_0 rfl (lv_at hl 0 rfl) ?_
  refine lv_aload_n hx hb dX9_contradictions_1 rfl (lv_at hl 0 rfl) ?_
  refine mk_callRi ⟨hx, hb, hml, hown, hts⟩ (c_X9_contradictionsNow l D cI cZ cG cL am hw) (cwV 0 hts (gk_gV ml_X9_283 im_X9_contradictionsNow se_X9_contradictionsNow in_X9 co_X9_contradictionsNow) rfl rfl rfl (by decide +kernel) ⟨Nat.le_of_ble_eq_true rfl, Nat.le_of_ble_eq_true rfl⟩) (gk_recv hK.1 (mk_obj hW) rfl) hW hK trivial hS rfl hl.1 (rest := [.ref (am 38)]) rfl (lv_room (Nat.le_of_ble_eq_true rfl)) dX9_contradictions_2 ⟨Nat.le_of_ble_eq_true rfl, Nat.le_of_ble_eq_true rfl⟩ (fun r2 H locs hw hW _ hk hS => ?_)
  refine mk_callVi ⟨hx, hb, hml, hown, hts⟩ (c_X9_ok l D cI cZ cG cL am hw) (cwV 1 hts (gk_gV ml_X9_152 im_X9_ok se_X9_ok in_X9 co_X9_ok) rfl rfl rfl (by decide +kernel) ⟨Nat.le_of_ble_eq_true rfl, Nat.le_of_ble_eq_true rfl⟩) (gk_recv hK.1 (mk_obj hW) rfl) hW hK trivial hS rfl hl.1 (rest := []) rfl (lv_room (Nat.le_of_ble_eq_true rfl)) dX9_contradictions_5 ⟨Nat.le_of_ble_eq_true rfl, Nat.le_of_ble_eq_true rfl⟩ (fun r5 σ5 H locs hw hW _ hk hS => ?_)
  refine W.widen (k := 14) (n := 186) (Nat.le_of_ble_eq_true rfl) (Nat.le_of_ble_eq_true rfl) ?_
  exact mk_reti C0 hw hW hS dX9_contradictions_8
def w_X9_isIdle (σ : gk_C) (a0 : Int32) (Q : Int32 → gk_C → Prop) : Prop := (w_X9_isRule (gk_s σ 0 0) a0 (fun r7 => ((¬ r7 = 0) → (w_X9_allNears (gk_s σ 0 0) (fun Nc20 => w_X9_table (gk_s σ 0 0) Nc20 ((gk_s σ 0 0).2 2) (fun nc30 fc30 => w_X9_table (gk_s (gk_s σ 0 0) 35 a0) Nc20 ((gk_s (gk_s σ 0 0) 35 a0).2 2) (fun nc46 fc46 => w_X9_differences nc30 nc46 fc30 fc46 (fun r49 => ((¬ r49 = 0) → (Q 0 (gk_s (gk_s (gk_s σ 0 0) 35 a0) 35 (-1)))) ∧ ((r49 = 0) → (Q 1 (gk_s (gk_s (gk_s σ 0 0) 35 a0) 35 (-1)))))))))) ∧ ((r7 = 0) → (w_X9_isNot (gk_s σ 0 0) 1 (fun r15 σ15 => gk_z r15 ∧ Q r15 σ15)))))
abbrev rmX9_isIdle : Room := { frames := 9, cells := 15, slots := 3036, locals := 221 }
set_option maxHeartbeats 4000000 in
set_option maxRecDepth 100000 in
theorem c_X9_isIdle (l : Launch) (D : va_G) (cI cZ cG cL : ClassId) (am : Nat → Nat) {σ : gk_C} {a0 : Int32} {Q : Int32 → gk_C → Prop} {sz : Nat} (hw : w_X9_isIdle σ a0 Q) : Met l yX9_isIdle wsX9_isIdle rmX9_isIdle (mk_Pc (mk_V D cI cZ am) D cI cZ cG cL [.ref (am 38), .int a0] sz σ (fun _ => True)) (va_Qi (fun r u => Q r u) (mk_B (mk_V D cI cZ am)) (mk_A am sz)) 15 3036 (mk_A am sz) := by
  refine Met.ofW (cc := cX9_isIdle) (maxL := 5) (ret := (some .boolean)) (by decide) rfl ?_
  intro p e s m args below meth c s₁ B hml0 hv0
  obtain ⟨rfl, hsz, hW, hK, hX⟩ := hv0
  subst hsz
  have C0 : gk_F p s m ([.ref (am 38), .int a0] : List Value).toArray meth c cX9_isIdle 5 (some .boolean) RX9 := ⟨B.exec, B.bytes, hml0, findClass_of_methodNamed B.named, fun w hw => atoms_spec (ws := wsX9_isIdle) B.pre w (List.mem_cons_of_mem _ hw), B.returns, B.notSynchronized⟩
  obtain ⟨hx, hb, hml, hown, hts, hr, hlocks⟩ := id C0
  have hS : va_S (mk_A am s.heap.size) s.heap s.heap [] := va_S.rf
  have hl := lv_entry ([.ref (am 38), .int a0]) (n := 5) (Nat.le_of_ble_eq_true rfl)
  rw [lg_entry_eq]
  generalize (lg_sl ([.ref (am 38), .int a0]) ++ List.replicate (5 - (lg_sl ([.ref (am 38), .int a0])).length) Slot.unset).toArray = ls at hl ⊢
  have hl : lv_has ls 5 [(0, .ref (am 38)), (1, .int a0)] := hl
  show W p l e rmX9_isIdle s m _ below meth c s.heap [] 0 0 _ _
  refine lv_aload_n hx hb dX9_isIdle_0 rfl (lv_at hl 0 rfl) ?_
  refine lv_iconst (v := 0) hx hb dX9_isIdle_1 (by decide) ?_
  refine gk_putf (ty := .int) (v := .int 0) hx hb hts iwX9 tyX9 tyX9_ok nmX9 hown hK.1 hS (mk_A.in List.mem_cons_self) (mk_obj hW) rfl 0 (by decide) (hts _ fl_X9_102) (fun _ h9 => h9) rfl (by decide +kernel) rfl rfl (Nat.le_of_ble_eq_true rfl) dX9_isIdle_2 (fun H locs h1 _ oq hS => ?_)
  have hW := hW.setS (i := 0) (v := 0) h1 oq
  refine lv_aload_n hx hb dX9_isIdle_5 rfl (lv_at hl 0 rfl) ?_
  refine lv_iload_n hx hb dX9_isIdle_6 rfl (lv_at hl 1 rfl) ?_
  refine mk_callRi ⟨hx, hb, hml, hown, hts⟩ (c_X9_isRule l D cI cZ cG cL am hw) (cwV 1 hts (gk_gV ml_X9_168 im_X9_isRule se_X9_isRule in_X9 co_X9_isRule) rfl rfl rfl (by decide +kernel) ⟨Nat.le_of_ble_eq_true rfl, Nat.le_of_ble_eq_true rfl⟩) (gk_recv hK.1 (mk_obj hW) rfl) hW hK trivial hS rfl hl.1 (rest := []) rfl (lv_room (Nat.le_of_ble_eq_true rfl)) dX9_isIdle_7 ⟨Nat.le_of_ble_eq_true rfl, Nat.le_of_ble_eq_true rfl⟩ (fun r7 H locs hw hW _ hk hS => ?_)
  refine lv_if_ne (tgt := 19) hx hb dX9_isIdle_10 (by decide) (fun c10 => ?_) (fun c10 => ?_)
  · have hw := hw.1 c10
    refine lv_aload_n hx hb dX9_isIdle_19 rfl (lv_at hl 0 rfl) ?_
    refine mk_callVb ⟨hx, hb, hml, hown, hts⟩ (c_X9_allNears l D cI cZ cG cL am hw) (cwV 0 hts (gk_gV ml_X9_247 im_X9_allNears se_X9_allNears in_X9 co_X9_allNears) rfl rfl rfl (by decide +kernel) ⟨Nat.le_of_ble_eq_true rfl, Nat.le_of_ble_eq_true rfl⟩) (gk_recv hK.1 (mk_obj hW) rfl) hW hK trivial hS rfl hl.1 (rest := []) rfl (lv_room (Nat.le_of_ble_eq_true rfl)) dX9_isIdle_20 ⟨Nat.le_of_ble_eq_true rfl, Nat.le_of_ble_eq_true rfl⟩ (fun Nc20 qc20 H locs hw hW hdc20 hb0 hgc20 _ hk hS => ?_)
    refine lv_astore_n (lv' := [(2, .ref qc20), (0, .ref (am 38)), (1, .int a0)]) hx hb dX9_isIdle_23 rfl hl (by decide) rfl (fun ls hl => ?_)
    refine lv_aload_n hx hb dX9_isIdle_24 rfl (lv_at hl 1 rfl) ?_
    refine lv_aload_n hx hb dX9_isIdle_25 rfl (lv_at hl 0 rfl) ?_
    refine lv_aload_n hx hb dX9_isIdle_26 rfl (lv_at hl 1 rfl) ?_
    refine gk_get hx hb hts iwX9 hown hK.1 (mk_obj hW) rfl 2 (by decide) (hts _ fl_X9_171) (fun _ h9 => h9) rfl dX9_isIdle_27 ?_
    refine mk_callVt ⟨hx, hb, hml, hown, hts⟩ (c_X9_table l D cI cZ cG cL am hw) (cwV 2 hts (gk_gV ml_X9_286 im_X9_table se_X9_table in_X9 co_X9_table) rfl rfl rfl (by decide +kernel) ⟨Nat.le_of_ble_eq_true rfl, Nat.le_of_ble_eq_true rfl⟩) (gk_recv hK.1 (mk_obj hW) rfl) hW hK ⟨hdc20, trivial⟩ hS rfl hl.1 (rest := []) rfl (lv_room (Nat.le_of_ble_eq_true rfl)) dX9_isIdle_30 ⟨Nat.le_of_ble_eq_true rfl, Nat.le_of_ble_eq_true rfl⟩ (fun nc30 fc30 qc30 H locs hw hW hdc30 hb0 hgc30 _ hk hS => ?_)
    have hlc20_c30 : qc20 < qc30 := Nat.lt_of_lt_of_le hdc20.lt hb0
    have hdc20 := hdc20.kept hk
    refine lv_astore_n (lv' := [(3, .ref qc30), (2, .ref qc20), (0, .ref (am 38)), (1, .int a0)]) hx hb dX9_isIdle_33 rfl hl (by decide) rfl (fun ls hl => ?_)
    refine lv_aload_n hx hb dX9_isIdle_34 rfl (lv_at hl 2 rfl) ?_
    refine lv_iload_n hx hb dX9_isIdle_35 rfl (lv_at hl 3 rfl) ?_
    refine gk_putf (ty := .int) (v := .int a0) hx hb hts iwX9 tyX9 tyX9_ok nmX9 hown hK.1 hS (mk_A.in List.mem_cons_self) (mk_obj hW) rfl 35 (by decide) (hts _ fl_X9_93) (fun _ h9 => h9) rfl (by decide +kernel) rfl rfl (Nat.le_of_ble_eq_true rfl) dX9_isIdle_36 (fun H locs h1 _ oq hS => ?_)
    have hW := hW.setS (i := 35) (v := a0) h1 oq
    have hdc20 := hdc20.oqS (k := 38) (by decide) oq
    have hdc30 := hdc30.oqS (k := 38) (by decide) oq
    refine lv_aload_n hx hb dX9_isIdle_39 rfl (lv_at hl 0 rfl) ?_
    refine lv_aload_n hx hb dX9_isIdle_40 rfl (lv_at hl 2 rfl) ?_
    refine lv_aload_n hx hb dX9_isIdle_41 rfl (lv_at hl 1 rfl) ?_
    refine lv_aload_n hx hb dX9_isIdle_42 rfl (lv_at hl 2 rfl) ?_
    refine gk_get hx hb hts iwX9 hown hK.1 (mk_obj hW) rfl 2 (by decide) (hts _ fl_X9_171) (fun _ h9 => h9) rfl dX9_isIdle_43 ?_
    refine mk_callVt ⟨hx, hb, hml, hown, hts⟩ (c_X9_table l D cI cZ cG cL am hw) (cwV 2 hts (gk_gV ml_X9_286 im_X9_table se_X9_table in_X9 co_X9_table) rfl rfl rfl (by decide +kernel) ⟨Nat.le_of_ble_eq_true rfl, Nat.le_of_ble_eq_true rfl⟩) (gk_recv hK.1 (mk_obj hW) rfl) hW hK ⟨hdc20, trivial⟩ hS rfl hl.1 (rest := [.ref qc30]) rfl (lv_room (Nat.le_of_ble_eq_true rfl)) dX9_isIdle_46 ⟨Nat.le_of_ble_eq_true rfl, Nat.le_of_ble_eq_true rfl⟩ (fun nc46 fc46 qc46 H locs hw hW hdc46 hb0 hgc46 _ hk hS => ?_)
    have hlc20_c46 : qc20 < qc46 := Nat.lt_of_lt_of_le hdc20.lt hb0
    have hlc30_c46 : qc30 < qc46 := Nat.lt_of_lt_of_le hdc30.1.lt hb0
    have hdc20 := hdc20.kept hk
    have hdc30 := hdc30.kept hk
    refine mk_callA2 ⟨hx, hb, hml, hown, hts⟩ (c_X9_differences l D hw) (va_cwS 2 hts (gk_gS ml_X9_290 st_X9_differences in_X9 co_X9_differences) rfl rfl rfl (by decide +kernel) ⟨Nat.le_of_ble_eq_true rfl, Nat.le_of_ble_eq_true rfl⟩) hdc30.1 hdc46.1 hK hS hl.1 (rest := []) (lv_room (Nat.le_of_ble_eq_true rfl)) dX9_isIdle_49 ⟨Nat.le_of_ble_eq_true rfl, Nat.le_of_ble_eq_true rfl⟩ (fun r49 H locs hw _ hk hS => ?_)
    have hW := hW.keptAll hk
    have hdc20 := hdc20.keptAll hk
    have hdc30 := hdc30.keptAll hk
    refine lv_istore (lv' := [(4, .int r49), (3, .ref qc30), (2, .ref qc20), (0, .ref (am 38)), (1, .int a0)]) hx hb dX9_isIdle_52 hl (by decide) rfl (fun ls hl => ?_)
    refine lv_aload_n hx hb dX9_isIdle_54 rfl (lv_at hl 3 rfl) ?_
    refine lv_iconst (v := (-1)) hx hb dX9_isIdle_55 (by decide) ?_
    refine gk_putf (ty := .int) (v := .int (-1)) hx hb hts iwX9 tyX9 tyX9_ok nmX9 hown hK.1 hS (mk_A.in List.mem_cons_self) (mk_obj hW) rfl 35 (by decide) (hts _ fl_X9_93) (fun _ h9 => h9) rfl (by decide +kernel) rfl rfl (Nat.le_of_ble_eq_true rfl) dX9_isIdle_56 (fun H locs h1 _ oq hS => ?_)
    have hW := hW.setS (i := 35) (v := (-1)) h1 oq
    have hdc20 := hdc20.oqS (k := 38) (by decide) oq
    have hdc30 := hdc30.oqS (k := 38) (by decide) oq
    refine lv_iload hx hb dX9_isIdle_59 (lv_at hl 0 rfl) ?_
    refine lv_if_ne (tgt := 68) hx hb dX9_isIdle_61 (by decide) (fun c61 => ?_) (fun c61 => ?_)
    · have hw := hw.1 c61
      refine lv_iconst (v := 0) hx hb dX9_isIdle_68 (by decide) ?_
      refine W.widen (k := 15) (n := 3036) (Nat.le_of_ble_eq_true rfl) (Nat.le_of_ble_eq_true rfl) ?_
      exact mk_retz C0 (by decide) hw hW hS dX9_isIdle_69
    · have hw := hw.2 c61
      refine lv_iconst (v := 1) hx hb dX9_isIdle_64 (by decide) ?_
      refine lv_goto (tgt := 69) hx hb dX9_isIdle_65 (by decide) ?_
      refine W.widen (k := 15) (n := 3036) (Nat.le_of_ble_eq_true rfl) (Nat.le_of_ble_eq_true rfl) ?_
      exact mk_retz C0 (by decide) hw hW hS dX9_isIdle_69
  · have hw := hw.2 c10
    refine lv_aload_n hx hb dX9_isIdle_13 rfl (lv_at hl 0 rfl) ?_
    refine lv_iconst (v := 1) hx hb dX9_isIdle_14 (by decide) ?_
    refine mk_callVi ⟨hx, hb, hml, hown, hts⟩ (c_X9_isNot l D cI cZ cG cL am hw) (cwV 1 hts (gk_gV ml_X9_145 im_X9_isNot se_X9_isNot in_X9 co_X9_isNot) rfl rfl rfl (by decide +kernel) ⟨Nat.le_of_ble_eq_true rfl, Nat.le_of_ble_eq_true rfl⟩) (gk_recv hK.1 (mk_obj hW) rfl) hW hK trivial hS rfl hl.1 (rest := []) rfl (lv_room (Nat.le_of_ble_eq_true rfl)) dX9_isIdle_15 ⟨Nat.le_of_ble_eq_true rfl, Nat.le_of_ble_eq_true rfl⟩ (fun r15 σ15 H locs hw hW _ hk hS => ?_)
    refine W.widen (k := 15) (n := 3036) (Nat.le_of_ble_eq_true rfl) (Nat.le_of_ble_eq_true rfl) ?_
    obtain ⟨hz, hw⟩ := hw
    exact mk_retz C0 hz hw hW hS dX9_isIdle_18
def w_X9_wouldDiffer (σ : gk_C) (a0 : Int32) (Q : Int32 → gk_C → Prop) : Prop := (w_X9_isIn a0 0 3 (fun r8 => ((¬ r8 = 0) → (w_X9_allNears (gk_s σ 0 0) (fun Nc21 => w_X9_table (gk_s σ 0 0) Nc21 ((gk_s σ 0 0).2 2) (fun nc31 fc31 => w_X9_table (gk_s σ 0 0) Nc21 a0 (fun nc37 fc37 => w_X9_differences nc31 nc37 fc31 fc37 (fun r40 => Q r40 (gk_s σ 0 0))))))) ∧ ((r8 = 0) → (w_X9_no (gk_s σ 0 0) 1 (fun r16 σ16 => Q r16 σ16)))))
abbrev rmX9_wouldDiffer : Room := { frames := 9, cells := 15, slots := 3036, locals := 221 }
set_option maxHeartbeats 4000000 in
set_option maxRecDepth 100000 in
theorem c_X9_wouldDiffer (l : Launch) (D : va_G) (cI cZ cG cL : ClassId) (am : Nat → Nat) {σ : gk_C} {a0 : Int32} {Q : Int32 → gk_C → Prop} {sz : Nat} (hw : w_X9_wouldDiffer σ a0 Q) : Met l yX9_wouldDiffer wsX9_wouldDiffer rmX9_wouldDiffer (mk_Pc (mk_V D cI cZ am) D cI cZ cG cL [.ref (am 38), .int a0] sz σ (fun _ => True)) (va_Qi (fun r u => Q r u) (mk_B (mk_V D cI cZ am)) (mk_A am sz)) 15 3036 (mk_A am sz) := by
  refine Met.ofW (cc := cX9_wouldDiffer) (maxL := 3) (ret := (some .int)) (by decide) rfl ?_
  intro p e s m args below meth c s₁ B hml0 hv0
  obtain ⟨rfl, hsz, hW, hK, hX⟩ := hv0
  subst hsz
  have C0 : gk_F p s m ([.ref (am 38), .int a0] : List Value).toArray meth c cX9_wouldDiffer 3 (some .int) RX9 := ⟨B.exec, B.bytes, hml0, findClass_of_methodNamed B.named, fun w hw => atoms_spec (ws := wsX9_wouldDiffer) B.pre w (List.mem_cons_of_mem _ hw), B.returns, B.notSynchronized⟩
  obtain ⟨hx, hb, hml, hown, hts, hr, hlocks⟩ := id C0
  have hS : va_S (mk_A am s.heap.size) s.heap s.heap [] := va_S.rf
  have hl := lv_entry ([.ref (am 38), .int a0]) (n := 3) (Nat.le_of_ble_eq_true rfl)
  rw [lg_entry_eq]
  generalize (lg_sl ([.ref (am 38), .int a0]) ++ List.replicate (3 - (lg_sl ([.ref (am 38), .int a0])).length) Slot.unset).toArray = ls at hl ⊢
  have hl : lv_has ls 3 [(0, .ref (am 38)), (1, .int a0)] := hl
  show W p l e rmX9_wouldDiffer s m _ below meth c s.heap [] 0 0 _ _
  refine lv_aload_n hx hb dX9_wouldDiffer_0 rfl (lv_at hl 0 rfl) ?_
  refine lv_iconst (v := 0) hx hb dX9_wouldDiffer_1 (by decide) ?_
  refine gk_putf (ty := .int) (v := .int 0) hx hb hts iwX9 tyX9 tyX9_ok nmX9 hown hK.1 hS (mk_A.in List.mem_cons_self) (mk_obj hW) rfl 0 (by decide) (hts _ fl_X9_102) (fun _ h9 => h9) rfl (by decide +kernel) rfl rfl (Nat.le_of_ble_eq_true rfl) dX9_wouldDiffer_2 (fun H locs h1 _ oq hS => ?_)
  have hW := hW.setS (i := 0) (v := 0) h1 oq
  refine lv_iload_n hx hb dX9_wouldDiffer_5 rfl (lv_at hl 1 rfl) ?_
  refine lv_iconst (v := 0) hx hb dX9_wouldDiffer_6 (by decide) ?_
  refine lv_iconst (v := 3) hx hb dX9_wouldDiffer_7 (by decide) ?_
  refine gk_callSi ⟨hx, hb, hml, hown, hts⟩ (c_X9_isIn l hw) (va_cwS 3 hts (gk_gS ml_X9_108 st_X9_isIn in_X9 co_X9_isIn) rfl rfl rfl (by decide +kernel) ⟨Nat.le_of_ble_eq_true rfl, Nat.le_of_ble_eq_true rfl⟩) hS rfl hl.1 (rest := []) rfl (lv_room (Nat.le_of_ble_eq_true rfl)) dX9_wouldDiffer_8 ⟨Nat.le_of_ble_eq_true rfl, Nat.le_of_ble_eq_true rfl⟩ (fun r8 H locs hw _ hk hS => ?_)
  have hW := hW.keptAll hk
  refine lv_if_ne (tgt := 20) hx hb dX9_wouldDiffer_11 (by decide) (fun c11 => ?_) (fun c11 => ?_)
  · have hw := hw.1 c11
    refine lv_aload_n hx hb dX9_wouldDiffer_20 rfl (lv_at hl 0 rfl) ?_
    refine mk_callVb ⟨hx, hb, hml, hown, hts⟩ (c_X9_allNears l D cI cZ cG cL am hw) (cwV 0 hts (gk_gV ml_X9_247 im_X9_allNears se_X9_allNears in_X9 co_X9_allNears) rfl rfl rfl (by decide +kernel) ⟨Nat.le_of_ble_eq_true rfl, Nat.le_of_ble_eq_true rfl⟩) (gk_recv hK.1 (mk_obj hW) rfl) hW hK trivial hS rfl hl.1 (rest := []) rfl (lv_room (Nat.le_of_ble_eq_true rfl)) dX9_wouldDiffer_21 ⟨Nat.le_of_ble_eq_true rfl, Nat.le_of_ble_eq_true rfl⟩ (fun Nc21 qc21 H locs hw hW hdc21 hb0 hgc21 _ hk hS => ?_)
    refine lv_astore_n (lv' := [(2, .ref qc21), (0, .ref (am 38)), (1, .int a0)]) hx hb dX9_wouldDiffer_24 rfl hl (by decide) rfl (fun ls hl => ?_)
    refine lv_aload_n hx hb dX9_wouldDiffer_25 rfl (lv_at hl 1 rfl) ?_
    refine lv_aload_n hx hb dX9_wouldDiffer_26 rfl (lv_at hl 0 rfl) ?_
    refine lv_aload_n hx hb dX9_wouldDiffer_27 rfl (lv_at hl 1 rfl) ?_
    refine gk_get hx hb hts iwX9 hown hK.1 (mk_obj hW) rfl 2 (by decide) (hts _ fl_X9_171) (fun _ h9 => h9) rfl dX9_wouldDiffer_28 ?_
    refine mk_callVt ⟨hx, hb, hml, hown, hts⟩ (c_X9_table l D cI cZ cG cL am hw) (cwV 2 hts (gk_gV ml_X9_286 im_X9_table se_X9_table in_X9 co_X9_table) rfl rfl rfl (by decide +kernel) ⟨Nat.le_of_ble_eq_true rfl, Nat.le_of_ble_eq_true rfl⟩) (gk_recv hK.1 (mk_obj hW) rfl) hW hK ⟨hdc21, trivial⟩ hS rfl hl.1 (rest := []) rfl (lv_room (Nat.le_of_ble_eq_true rfl)) dX9_wouldDiffer_31 ⟨Nat.le_of_ble_eq_true rfl, Nat.le_of_ble_eq_true rfl⟩ (fun nc31 fc31 qc31 H locs hw hW hdc31 hb0 hgc31 _ hk hS => ?_)
    have hlc21_c31 : qc21 < qc31 := Nat.lt_of_lt_of_le hdc21.lt hb0
    have hdc21 := hdc21.kept hk
    refine lv_aload_n hx hb dX9_wouldDiffer_34 rfl (lv_at hl 1 rfl) ?_
    refine lv_aload_n hx hb dX9_wouldDiffer_35 rfl (lv_at hl 0 rfl) ?_
    refine lv_iload_n hx hb dX9_wouldDiffer_36 rfl (lv_at hl 2 rfl) ?_
    refine mk_callVt ⟨hx, hb, hml, hown, hts⟩ (c_X9_table l D cI cZ cG cL am hw) (cwV 2 hts (gk_gV ml_X9_286 im_X9_table se_X9_table in_X9 co_X9_table) rfl rfl rfl (by decide +kernel) ⟨Nat.le_of_ble_eq_true rfl, Nat.le_of_ble_eq_true rfl⟩) (gk_recv hK.1 (mk_obj hW) rfl) hW hK ⟨hdc21, trivial⟩ hS rfl hl.1 (rest := [.ref qc31]) rfl (lv_room (Nat.le_of_ble_eq_true rfl)) dX9_wouldDiffer_37 ⟨Nat.le_of_ble_eq_true rfl, Nat.le_of_ble_eq_true rfl⟩ (fun nc37 fc37 qc37 H locs hw hW hdc37 hb0 hgc37 _ hk hS => ?_)
    have hlc21_c37 : qc21 < qc37 := Nat.lt_of_lt_of_le hdc21.lt hb0
    have hlc31_c37 : qc31 < qc37 := Nat.lt_of_lt_of_le hdc31.1.lt hb0
    have hdc21 := hdc21.kept hk
    have hdc31 := hdc31.kept hk
    refine mk_callA2 ⟨hx, hb, hml, hown, hts⟩ (c_X9_differences l D hw) (va_cwS 2 hts (gk_gS ml_X9_290 st_X9_differences in_X9 co_X9_differences) rfl rfl rfl (by decide +kernel) ⟨Nat.le_of_ble_eq_true rfl, Nat.le_of_ble_eq_true rfl⟩) hdc31.1 hdc37.1 hK hS hl.1 (rest := []) (lv_room (Nat.le_of_ble_eq_true rfl)) dX9_wouldDiffer_40 ⟨Nat.le_of_ble_eq_true rfl, Nat.le_of_ble_eq_true rfl⟩ (fun r40 H locs hw _ hk hS => ?_)
    have hW := hW.keptAll hk
    have hdc21 := hdc21.keptAll hk
    refine W.widen (k := 15) (n := 3036) (Nat.le_of_ble_eq_true rfl) (Nat.le_of_ble_eq_true rfl) ?_
    exact mk_reti C0 hw hW hS dX9_wouldDiffer_43
  · have hw := hw.2 c11
    refine lv_aload_n hx hb dX9_wouldDiffer_14 rfl (lv_at hl 0 rfl) ?_
    refine lv_iconst (v := 1) hx hb dX9_wouldDiffer_15 (by decide) ?_
    refine mk_callVi ⟨hx, hb, hml, hown, hts⟩ (c_X9_no l D cI cZ cG cL am hw) (cwV 1 hts (gk_gV ml_X9_139 im_X9_no se_X9_no in_X9 co_X9_no) rfl rfl rfl (by decide +kernel) ⟨Nat.le_of_ble_eq_true rfl, Nat.le_of_ble_eq_true rfl⟩) (gk_recv hK.1 (mk_obj hW) rfl) hW hK trivial hS rfl hl.1 (rest := []) rfl (lv_room (Nat.le_of_ble_eq_true rfl)) dX9_wouldDiffer_16 ⟨Nat.le_of_ble_eq_true rfl, Nat.le_of_ble_eq_true rfl⟩ (fun r16 σ16 H locs hw hW _ hk hS => ?_)
    refine W.widen (k := 15) (n := 3036) (Nat.le_of_ble_eq_true rfl) (Nat.le_of_ble_eq_true rfl) ?_
    exact mk_reti C0 hw hW hS dX9_wouldDiffer_19
def wJ_X9_wouldGain_21 (Q : Int32 → gk_C → Prop) (σ : gk_C) : Prop := (w_X9_no σ 1 (fun r23 σ23 => Q r23 σ23))
def wJ_X9_wouldGain_127 (k128 : gk_C → Int32 → Int32 → Int32 → Int32 → (Nat → Int32) → Nat → (Nat → Int32) → Nat → Prop) (σ : gk_C) (x1 : Int32) (x7 : Int32) (t0 : Int32) (fc38 : Nat → Int32) (nc38 : Nat) (fc66 : Nat → Int32) (nc66 : Nat) : Prop := (k128 σ x1 x7 t0 0 fc38 nc38 fc66 nc66)
def wJ_X9_wouldGain_128 (k84 : gk_C → Int32 → Int32 → Int32 → (Nat → Int32) → Nat → (Nat → Int32) → Nat → Prop) (σ : gk_C) (x1 : Int32) (x7 : Int32) (t0 : Int32) (t1 : Int32) (fc38 : Nat → Int32) (nc38 : Nat) (fc66 : Nat → Int32) (nc66 : Nat) : Prop := (k84 σ x1 (t0 + t1) (x7 + 1) fc38 nc38 fc66 nc66)
def wL_X9_wouldGain_84 (Q : Int32 → gk_C → Prop) : Nat → gk_C → Int32 → Int32 → Int32 → (Nat → Int32) → Nat → (Nat → Int32) → Nat → Prop
  | 0 => fun _ _ _ _ _ _ _ _ => False
  | n + 1 => fun σ x1 x6 x7 fc38 nc38 fc66 nc66 => ((((((x1 + 1) * 5) * (σ.2 11)) ≤ x7) → (Q x6 σ)) ∧ ((¬ (((x1 + 1) * 5) * (σ.2 11)) ≤ x7) → (vp_in x7 nc66 ∧ w_X9_isAllowed (fc66 x7.toNatClampNeg) (fun r106 => ((r106 = 0) → (wJ_X9_wouldGain_127 (fun σ x1 x7 t0 t1 fc38 nc38 fc66 nc66 => (wJ_X9_wouldGain_128 (fun σ x1 x6 x7 fc38 nc38 fc66 nc66 => wL_X9_wouldGain_84 Q n σ x1 x6 x7 fc38 nc38 fc66 nc66) σ x1 x7 t0 t1 fc38 nc38 fc66 nc66)) σ x1 x7 x6 fc38 nc38 fc66 nc66)) ∧ ((¬ r106 = 0) → (vp_in x7 nc38 ∧ w_X9_isAllowed (fc38 x7.toNatClampNeg) (fun r117 => ((¬ r117 = 0) → (wJ_X9_wouldGain_127 (fun σ x1 x7 t0 t1 fc38 nc38 fc66 nc66 => (wJ_X9_wouldGain_128 (fun σ x1 x6 x7 fc38 nc38 fc66 nc66 => wL_X9_wouldGain_84 Q n σ x1 x6 x7 fc38 nc38 fc66 nc66) σ x1 x7 t0 t1 fc38 nc38 fc66 nc66)) σ x1 x7 x6 fc38 nc38 fc66 nc66)) ∧ ((r117 = 0) → (wJ_X9_wouldGain_128 (fun σ x1 x6 x7 fc38 nc38 fc66 nc66 => wL_X9_wouldGain_84 Q n σ x1 x6 x7 fc38 nc38 fc66 nc66) σ x1 x7 x6 1 fc38 nc38 fc66 nc66)))))))))
def w_X9_wouldGain (σ : gk_C) (a0 : Int32) (a1 : Int32) (Q : Int32 → gk_C → Prop) : Prop := (w_X9_isUser (gk_s σ 0 0) a0 (fun r7 => ((r7 = 0) → (wJ_X9_wouldGain_21 Q (gk_s σ 0 0))) ∧ ((¬ r7 = 0) → (w_X9_isRole (gk_s σ 0 0) a1 (fun r15 => ((¬ r15 = 0) → (w_X9_allNears (gk_s σ 0 0) (fun Nc28 => w_X9_table (gk_s σ 0 0) Nc28 ((gk_s σ 0 0).2 2) (fun nc38 fc38 => vp_in a0 12 ∧ w_X9_nears (gk_s σ 0 0) (((gk_s σ 0 0).1 4 a0.toNatClampNeg) ||| (1 <<< (a1 &&& 31))) (fun fc56 => vp_in a0 12 ∧ w_X9_table (gk_s σ 0 0) (va_up Nc28 a0.toNatClampNeg (some fc56)) ((gk_s σ 0 0).2 2) (fun nc66 fc66 => ∃ n84, wL_X9_wouldGain_84 Q n84 (gk_s σ 0 0) a0 0 ((a0 * 5) * ((gk_s σ 0 0).2 11)) fc38 nc38 fc66 nc66)))))) ∧ ((r15 = 0) → (wJ_X9_wouldGain_21 Q (gk_s σ 0 0))))))))
abbrev rmX9_wouldGain : Room := { frames := 9, cells := 16, slots := 3048, locals := 221 }
set_option maxHeartbeats 4000000 in
set_option maxRecDepth 100000 in
theorem tJ_X9_wouldGain_21 {p : Program} {l : Launch} {e : Env} {s : State} {m : MethodId} {args : Array Value} {below : List Frame} {meth : Method} {c : Code} {D : va_G} {cI cZ cG cL : ClassId} {am : Nat → Nat} (C0 : gk_F p s m args meth c cX9_wouldGain 8 (some .int) RX9) (hK : gk_K D cI cZ cG cL s) {Q : Int32 → gk_C → Prop} : ∀ (σ : gk_C), wJ_X9_wouldGain_21 Q σ → ∀ (H : Heap) (locs : List Loc), mk_V D cI cZ am σ H → va_S (mk_A am s.heap.size) s.heap H locs → ∀ (ls : Array Slot), lv_has ls 8 [(0, .ref (am 38))] → W p l e rmX9_wouldGain s m args below meth c H locs 0 0 (MQ below (va_Qi (fun r u => Q r u) (mk_B (mk_V D cI cZ am)) (mk_A am s.heap.size)) args s 16 3048 (mk_A am s.heap.size)) (F0 m 21 ls []) := by
  obtain ⟨hx, hb, hml, hown, hts, hr, hlocks⟩ := id C0
  intro σ hw H locs hW hS  ls hl
  refine lv_aload_n hx hb dX9_wouldGain_21 rfl (lv_at hl 0 rfl) ?_
  refine lv_iconst (v := 1) hx hb dX9_wouldGain_22 (by decide) ?_
  refine mk_callVi ⟨hx, hb, hml, hown, hts⟩ (c_X9_no l D cI cZ cG cL am hw) (cwV 1 hts (gk_gV ml_X9_139 im_X9_no se_X9_no in_X9 co_X9_no) rfl rfl rfl (by decide +kernel) ⟨Nat.le_of_ble_eq_true rfl, Nat.le_of_ble_eq_true rfl⟩) (gk_recv hK.1 (mk_obj hW) rfl) hW hK trivial hS rfl hl.1 (rest := []) rfl (lv_room (Nat.le_of_ble_eq_true rfl)) dX9_wouldGain_23 ⟨Nat.le_of_ble_eq_true rfl, Nat.le_of_ble_eq_true rfl⟩ (fun r23 σ23 H locs hw hW _ hk hS => ?_)
  refine W.widen (k := 16) (n := 3048) (Nat.le_of_ble_eq_true rfl) (Nat.le_of_ble_eq_true rfl) ?_
  exact mk_reti C0 hw hW hS dX9_wouldGain_26
set_option maxHeartbeats 4000000 in
set_option maxRecDepth 100000 in
theorem tJ_X9_wouldGain_127 {p : Program} {l : Launch} {e : Env} {s : State} {m : MethodId} {args : Array Value} {below : List Frame} {meth : Method} {c : Code} {D : va_G} {cI cZ cG cL : ClassId} {am : Nat → Nat} (C0 : gk_F p s m args meth c cX9_wouldGain 8 (some .int) RX9) (hK : gk_K D cI cZ cG cL s) {Q : Int32 → gk_C → Prop} {k128 : gk_C → Int32 → Int32 → Int32 → Int32 → (Nat → Int32) → Nat → (Nat → Int32) → Nat → Prop} (hk128 : ∀ (σ : gk_C) (x1 : Int32) (x7 : Int32) (t0 : Int32) (t1 : Int32) (fc38 : Nat → Int32) (nc38 : Nat) (fc66 : Nat → Int32) (nc66 : Nat), k128 σ x1 x7 t0 t1 fc38 nc38 fc66 nc66 → ∀ (H : Heap) (locs : List Loc), mk_V D cI cZ am σ H → va_S (mk_A am s.heap.size) s.heap H locs → ∀ (qc38 : Nat), s.heap.size ≤ qc38 → ∀ (qc66 : Nat), s.heap.size ≤ qc66 → qc38 < qc66 → mk_D D cI am qc38 nc38 fc38 H → mk_D D cI am qc66 nc66 fc66 H → ∀ (ls : Array Slot), lv_has ls 8 [(0, .ref (am 38)), (1, .int x1), (4, .ref qc38), (5, .ref qc66), (7, .int x7)] → W p l e rmX9_wouldGain s m args below meth c H locs 16 3048 (MQ below (va_Qi (fun r u => Q r u) (mk_B (mk_V D cI cZ am)) (mk_A am s.heap.size)) args s 16 3048 (mk_A am s.heap.size)) (F0 m 128 ls [.int t1, .int t0])) : ∀ (σ : gk_C) (x1 : Int32) (x7 : Int32) (t0 : Int32) (fc38 : Nat → Int32) (nc38 : Nat) (fc66 : Nat → Int32) (nc66 : Nat), wJ_X9_wouldGain_127 k128 σ x1 x7 t0 fc38 nc38 fc66 nc66 → ∀ (H : Heap) (locs : List Loc), mk_V D cI cZ am σ H → va_S (mk_A am s.heap.size) s.heap H locs → ∀ (qc38 : Nat), s.heap.size ≤ qc38 → ∀ (qc66 : Nat), s.heap.size ≤ qc66 → qc38 < qc66 → mk_D D cI am qc38 nc38 fc38 H → mk_D D cI am qc66 nc66 fc66 H → ∀ (ls : Array Slot), lv_has ls 8 [(0, .ref (am 38)), (1, .int x1), (4, .ref qc38), (5, .ref qc66), (7, .int x7)] → W p l e rmX9_wouldGain s m args below meth c H locs 16 3048 (MQ below (va_Qi (fun r u => Q r u) (mk_B (mk_V D cI cZ am)) (mk_A am s.heap.size)) args s 16 3048 (mk_A am s.heap.size)) (F0 m 127 ls [.int t0]) := by
  obtain ⟨hx, hb, hml, hown, hts, hr, hlocks⟩ := id C0
  intro σ x1 x7 t0 fc38 nc38 fc66 nc66 hw H locs hW hS qc38 hgc38 qc66 hgc66 hlc38_c66 hdc38 hdc66 ls hl
  refine lv_iconst (v := 0) hx hb dX9_wouldGain_127 (by decide) ?_
  exact hk128 σ x1 x7 t0 0 fc38 nc38 fc66 nc66 hw _ _ hW hS _ hgc38 _ hgc66 (by omega) hdc38 hdc66 _ hl
set_option maxHeartbeats 4000000 in
set_option maxRecDepth 100000 in
theorem tJ_X9_wouldGain_128 {p : Program} {l : Launch} {e : Env} {s : State} {m : MethodId} {args : Array Value} {below : List Frame} {meth : Method} {c : Code} {D : va_G} {cI cZ cG cL : ClassId} {am : Nat → Nat} (C0 : gk_F p s m args meth c cX9_wouldGain 8 (some .int) RX9) (hK : gk_K D cI cZ cG cL s) {Q : Int32 → gk_C → Prop} {k84 : gk_C → Int32 → Int32 → Int32 → (Nat → Int32) → Nat → (Nat → Int32) → Nat → Prop} (hk84 : ∀ (σ : gk_C) (x1 : Int32) (x6 : Int32) (x7 : Int32) (fc38 : Nat → Int32) (nc38 : Nat) (fc66 : Nat → Int32) (nc66 : Nat), k84 σ x1 x6 x7 fc38 nc38 fc66 nc66 → ∀ (H : Heap) (locs : List Loc), mk_V D cI cZ am σ H → va_S (mk_A am s.heap.size) s.heap H locs → ∀ (qc38 : Nat), s.heap.size ≤ qc38 → ∀ (qc66 : Nat), s.heap.size ≤ qc66 → qc38 < qc66 → mk_D D cI am qc38 nc38 fc38 H → mk_D D cI am qc66 nc66 fc66 H → ∀ (ls : Array Slot), lv_has ls 8 [(0, .ref (am 38)), (1, .int x1), (4, .ref qc38), (5, .ref qc66), (6, .int x6), (7, .int x7)] → W p l e rmX9_wouldGain s m args below meth c H locs 16 3048 (MQ below (va_Qi (fun r u => Q r u) (mk_B (mk_V D cI cZ am)) (mk_A am s.heap.size)) args s 16 3048 (mk_A am s.heap.size)) (F0 m 84 ls [])) : ∀ (σ : gk_C) (x1 : Int32) (x7 : Int32) (t0 : Int32) (t1 : Int32) (fc38 : Nat → Int32) (nc38 : Nat) (fc66 : Nat → Int32) (nc66 : Nat), wJ_X9_wouldGain_128 k84 σ x1 x7 t0 t1 fc38 nc38 fc66 nc66 → ∀ (H : Heap) (locs : List Loc), mk_V D cI cZ am σ H → va_S (mk_A am s.heap.size) s.heap H locs → ∀ (qc38 : Nat), s.heap.size ≤ qc38 → ∀ (qc66 : Nat), s.heap.size ≤ qc66 → qc38 < qc66 → mk_D D cI am qc38 nc38 fc38 H → mk_D D cI am qc66 nc66 fc66 H → ∀ (ls : Array Slot), lv_has ls 8 [(0, .ref (am 38)), (1, .int x1), (4, .ref qc38), (5, .ref qc66), (7, .int x7)] → W p l e rmX9_wouldGain s m args below meth c H locs 16 3048 (MQ below (va_Qi (fun r u => Q r u) (mk_B (mk_V D cI cZ am)) (mk_A am s.heap.size)) args s 16 3048 (mk_A am s.heap.size)) (F0 m 128 ls [.int t1, .int t0]) := by
  obtain ⟨hx, hb, hml, hown, hts, hr, hlocks⟩ := id C0
  intro σ x1 x7 t0 t1 fc38 nc38 fc66 nc66 hw H locs hW hS qc38 hgc38 qc66 hgc66 hlc38_c66 hdc38 hdc66 ls hl
  refine lv_iadd hx hb dX9_wouldGain_128 ?_
  refine lv_istore (lv' := [(6, .int (t0 + t1)), (0, .ref (am 38)), (1, .int x1), (4, .ref qc38), (5, .ref qc66), (7, .int x7)]) hx hb dX9_wouldGain_129 hl (by decide) rfl (fun ls hl => ?_)
  refine lv_iinc (v := (x7 + 1)) (lv' := [(7, .int (x7 + 1)), (6, .int (t0 + t1)), (0, .ref (am 38)), (1, .int x1), (4, .ref qc38), (5, .ref qc66)]) hx hb dX9_wouldGain_131 hl (k := 5) rfl rfl (by decide) rfl (fun ls hl => ?_)
  refine lv_goto (tgt := 84) hx hb dX9_wouldGain_134 (by decide) ?_
  exact hk84 σ x1 (t0 + t1) (x7 + 1) fc38 nc38 fc66 nc66 hw _ _ hW hS _ hgc38 _ hgc66 (by omega) hdc38 hdc66 _ (lv_sub hl [2, 3, 4, 5, 1, 0] rfl)
set_option maxHeartbeats 4000000 in
set_option maxRecDepth 100000 in
theorem tL_X9_wouldGain_84 {p : Program} {l : Launch} {e : Env} {s : State} {m : MethodId} {args : Array Value} {below : List Frame} {meth : Method} {c : Code} {D : va_G} {cI cZ cG cL : ClassId} {am : Nat → Nat} (C0 : gk_F p s m args meth c cX9_wouldGain 8 (some .int) RX9) (hK : gk_K D cI cZ cG cL s) {Q : Int32 → gk_C → Prop} : ∀ (n : Nat) (σ : gk_C) (x1 : Int32) (x6 : Int32) (x7 : Int32) (fc38 : Nat → Int32) (nc38 : Nat) (fc66 : Nat → Int32) (nc66 : Nat), wL_X9_wouldGain_84 Q n σ x1 x6 x7 fc38 nc38 fc66 nc66 → ∀ (H : Heap) (locs : List Loc), mk_V D cI cZ am σ H → va_S (mk_A am s.heap.size) s.heap H locs → ∀ (qc38 : Nat), s.heap.size ≤ qc38 → ∀ (qc66 : Nat), s.heap.size ≤ qc66 → qc38 < qc66 → mk_D D cI am qc38 nc38 fc38 H → mk_D D cI am qc66 nc66 fc66 H → ∀ (ls : Array Slot), lv_has ls 8 [(0, .ref (am 38)), (1, .int x1), (4, .ref qc38), (5, .ref qc66), (6, .int x6), (7, .int x7)] → W p l e rmX9_wouldGain s m args below meth c H locs 16 3048 (MQ below (va_Qi (fun r u => Q r u) (mk_B (mk_V D cI cZ am)) (mk_A am s.heap.size)) args s 16 3048 (mk_A am s.heap.size)) (F0 m 84 ls []) := by
  obtain ⟨hx, hb, hml, hown, hts, hr, hlocks⟩ := id C0
  intro n
  induction n with
  | zero => exact fun _ _ _ _ _ _ _ _ hw => False.elim hw
  | succ n ih =>
    intro σ x1 x6 x7 fc38 nc38 fc66 nc66 hw H locs hW hS qc38 hgc38 qc66 hgc66 hlc38_c66 hdc38 hdc66 ls hl
    refine lv_iload hx hb dX9_wouldGain_84 (lv_at hl 5 rfl) ?_
    refine lv_iload_n hx hb dX9_wouldGain_86 rfl (lv_at hl 1 rfl) ?_
    refine lv_iconst (v := 1) hx hb dX9_wouldGain_87 (by decide) ?_
    refine lv_iadd hx hb dX9_wouldGain_88 ?_
    refine lv_iconst (v := 5) hx hb dX9_wouldGain_89 (by decide) ?_
    refine lv_imul hx hb dX9_wouldGain_90 ?_
    refine lv_aload_n hx hb dX9_wouldGain_91 rfl (lv_at hl 0 rfl) ?_
    refine gk_get hx hb hts iwX9 hown hK.1 (mk_obj hW) rfl 11 (by decide) (hts _ fl_X9_25) (fun _ h9 => h9) rfl dX9_wouldGain_92 ?_
    refine lv_imul hx hb dX9_wouldGain_95 ?_
    refine lv_icmp_ge (tgt := 137) hx hb dX9_wouldGain_96 (by decide) (fun c96 => ?_) (fun c96 => ?_)
    · have hw := hw.1 c96
      refine lv_iload hx hb dX9_wouldGain_137 (lv_at hl 4 rfl) ?_
      refine W.widen (k := 16) (n := 3048) (Nat.le_of_ble_eq_true rfl) (Nat.le_of_ble_eq_true rfl) ?_
      exact mk_reti C0 hw hW hS dX9_wouldGain_139
    · have hw := hw.2 c96
      refine lv_iload hx hb dX9_wouldGain_99 (lv_at hl 4 rfl) ?_
      refine lv_aload hx hb dX9_wouldGain_101 (lv_at hl 3 rfl) ?_
      refine lv_iload hx hb dX9_wouldGain_103 (lv_at hl 5 rfl) ?_
      obtain ⟨hin, hw⟩ := hw
      refine gk_iald hx hb hK.1 0 hdc66.1 rfl hin dX9_wouldGain_105 ?_
      refine gk_callSi ⟨hx, hb, hml, hown, hts⟩ (c_X9_isAllowed l hw) (va_cwS 1 hts (gk_gS ml_X9_269 st_X9_isAllowed in_X9 co_X9_isAllowed) rfl rfl rfl (by decide +kernel) ⟨Nat.le_of_ble_eq_true rfl, Nat.le_of_ble_eq_true rfl⟩) hS rfl hl.1 (rest := [.int x6]) rfl (lv_room (Nat.le_of_ble_eq_true rfl)) dX9_wouldGain_106 ⟨Nat.le_of_ble_eq_true rfl, Nat.le_of_ble_eq_true rfl⟩ (fun r106 H locs hw _ hk hS => ?_)
      have hW := hW.keptAll hk
      have hdc38 := hdc38.keptAll hk
      have hdc66 := hdc66.keptAll hk
      refine lv_if_eq (tgt := 127) hx hb dX9_wouldGain_109 (by decide) (fun c109 => ?_) (fun c109 => ?_)
      · have hw := hw.1 c109
        refine tJ_X9_wouldGain_127 C0 hK (hk128 := ?_) σ x1 x7 x6 fc38 nc38 fc66 nc66 hw _ _ hW hS _ hgc38 _ hgc66 (by omega) hdc38 hdc66 _ (lv_sub hl [0, 1, 2, 3, 5] rfl)
        · intro σ x1 x7 t0 t1 fc38 nc38 fc66 nc66 hw H locs hW hS qc38 hgc38 qc66 hgc66 hlc38_c66 hdc38 hdc66 ls hl
          refine tJ_X9_wouldGain_128 C0 hK (hk84 := ih) σ x1 x7 t0 t1 fc38 nc38 fc66 nc66 hw _ _ hW hS _ hgc38 _ hgc66 (by omega) hdc38 hdc66 _ hl
      · have hw := hw.2 c109
        refine lv_aload hx hb dX9_wouldGain_112 (lv_at hl 2 rfl) ?_
        refine lv_iload hx hb dX9_wouldGain_114 (lv_at hl 5 rfl) ?_
        obtain ⟨hin, hw⟩ := hw
        refine gk_iald hx hb hK.1 0 hdc38.1 rfl hin dX9_wouldGain_116 ?_
        refine gk_callSi ⟨hx, hb, hml, hown, hts⟩ (c_X9_isAllowed l hw) (va_cwS 1 hts (gk_gS ml_X9_269 st_X9_isAllowed in_X9 co_X9_isAllowed) rfl rfl rfl (by decide +kernel) ⟨Nat.le_of_ble_eq_true rfl, Nat.le_of_ble_eq_true rfl⟩) hS rfl hl.1 (rest := [.int x6]) rfl (lv_room (Nat.le_of_ble_eq_true rfl)) dX9_wouldGain_117 ⟨Nat.le_of_ble_eq_true rfl, Nat.le_of_ble_eq_true rfl⟩ (fun r117 H locs hw _ hk hS => ?_)
        have hW := hW.keptAll hk
        have hdc38 := hdc38.keptAll hk
        have hdc66 := hdc66.keptAll hk
        refine lv_if_ne (tgt := 127) hx hb dX9_wouldGain_120 (by decide) (fun c120 => ?_) (fun c120 => ?_)
        · have hw := hw.1 c120
          refine tJ_X9_wouldGain_127 C0 hK (hk128 := ?_) σ x1 x7 x6 fc38 nc38 fc66 nc66 hw _ _ hW hS _ hgc38 _ hgc66 (by omega) hdc38 hdc66 _ (lv_sub hl [0, 1, 2, 3, 5] rfl)
          · intro σ x1 x7 t0 t1 fc38 nc38 fc66 nc66 hw H locs hW hS qc38 hgc38 qc66 hgc66 hlc38_c66 hdc38 hdc66 ls hl
            refine tJ_X9_wouldGain_128 C0 hK (hk84 := ih) σ x1 x7 t0 t1 fc38 nc38 fc66 nc66 hw _ _ hW hS _ hgc38 _ hgc66 (by omega) hdc38 hdc66 _ hl
        · have hw := hw.2 c120
          refine lv_iconst (v := 1) hx hb dX9_wouldGain_123 (by decide) ?_
          refine lv_goto (tgt := 128) hx hb dX9_wouldGain_124 (by decide) ?_
          refine tJ_X9_wouldGain_128 C0 hK (hk84 := ih) σ x1 x7 x6 1 fc38 nc38 fc66 nc66 hw _ _ hW hS _ hgc38 _ hgc66 (by omega) hdc38 hdc66 _ (lv_sub hl [0, 1, 2, 3, 5] rfl)
set_option maxHeartbeats 4000000 in
set_option maxRecDepth 100000 in
theorem c_X9_wouldGain (l : Launch) (D : va_G) (cI cZ cG cL : ClassId) (am : Nat → Nat) {σ : gk_C} {a0 : Int32} {a1 : Int32} {Q : Int32 → gk_C → Prop} {sz : Nat} (hw : w_X9_wouldGain σ a0 a1 Q) : Met l yX9_wouldGain wsX9_wouldGain rmX9_wouldGain (mk_Pc (mk_V D cI cZ am) D cI cZ cG cL [.ref (am 38), .int a0, .int a1] sz σ (fun _ => True)) (va_Qi (fun r u => Q r u) (mk_B (mk_V D cI cZ am)) (mk_A am sz)) 16 3048 (mk_A am sz) := by
  refine Met.ofW (cc := cX9_wouldGain) (maxL := 8) (ret := (some .int)) (by decide) rfl ?_
  intro p e s m args below meth c s₁ B hml0 hv0
  obtain ⟨rfl, hsz, hW, hK, hX⟩ := hv0
  subst hsz
  have C0 : gk_F p s m ([.ref (am 38), .int a0, .int a1] : List Value).toArray meth c cX9_wouldGain 8 (some .int) RX9 := ⟨B.exec, B.bytes, hml0, findClass_of_methodNamed B.named, fun w hw => atoms_spec (ws := wsX9_wouldGain) B.pre w (List.mem_cons_of_mem _ hw), B.returns, B.notSynchronized⟩
  obtain ⟨hx, hb, hml, hown, hts, hr, hlocks⟩ := id C0
  have hS : va_S (mk_A am s.heap.size) s.heap s.heap [] := va_S.rf
  have hl := lv_entry ([.ref (am 38), .int a0, .int a1]) (n := 8) (Nat.le_of_ble_eq_true rfl)
  rw [lg_entry_eq]
  generalize (lg_sl ([.ref (am 38), .int a0, .int a1]) ++ List.replicate (8 - (lg_sl ([.ref (am 38), .int a0, .int a1])).length) Slot.unset).toArray = ls at hl ⊢
  have hl : lv_has ls 8 [(0, .ref (am 38)), (1, .int a0), (2, .int a1)] := hl
  show W p l e rmX9_wouldGain s m _ below meth c s.heap [] 0 0 _ _
  refine lv_aload_n hx hb dX9_wouldGain_0 rfl (lv_at hl 0 rfl) ?_
  refine lv_iconst (v := 0) hx hb dX9_wouldGain_1 (by decide) ?_
  refine gk_putf (ty := .int) (v := .int 0) hx hb hts iwX9 tyX9 tyX9_ok nmX9 hown hK.1 hS (mk_A.in List.mem_cons_self) (mk_obj hW) rfl 0 (by decide) (hts _ fl_X9_102) (fun _ h9 => h9) rfl (by decide +kernel) rfl rfl (Nat.le_of_ble_eq_true rfl) dX9_wouldGain_2 (fun H locs h1 _ oq hS => ?_)
  have hW := hW.setS (i := 0) (v := 0) h1 oq
  refine lv_aload_n hx hb dX9_wouldGain_5 rfl (lv_at hl 0 rfl) ?_
  refine lv_iload_n hx hb dX9_wouldGain_6 rfl (lv_at hl 1 rfl) ?_
  refine mk_callRi ⟨hx, hb, hml, hown, hts⟩ (c_X9_isUser l D cI cZ cG cL am hw) (cwV 1 hts (gk_gV ml_X9_115 im_X9_isUser se_X9_isUser in_X9 co_X9_isUser) rfl rfl rfl (by decide +kernel) ⟨Nat.le_of_ble_eq_true rfl, Nat.le_of_ble_eq_true rfl⟩) (gk_recv hK.1 (mk_obj hW) rfl) hW hK trivial hS rfl hl.1 (rest := []) rfl (lv_room (Nat.le_of_ble_eq_true rfl)) dX9_wouldGain_7 ⟨Nat.le_of_ble_eq_true rfl, Nat.le_of_ble_eq_true rfl⟩ (fun r7 H locs hw hW _ hk hS => ?_)
  refine lv_if_eq (tgt := 21) hx hb dX9_wouldGain_10 (by decide) (fun c10 => ?_) (fun c10 => ?_)
  · have hw := hw.1 c10
    refine tJ_X9_wouldGain_21 C0 hK  (gk_s σ 0 0) hw _ _ hW hS  _ (lv_sub hl [0] rfl)
  · have hw := hw.2 c10
    refine lv_aload_n hx hb dX9_wouldGain_13 rfl (lv_at hl 0 rfl) ?_
    refine lv_iload_n hx hb dX9_wouldGain_14 rfl (lv_at hl 2 rfl) ?_
    refine mk_callRi ⟨hx, hb, hml, hown, hts⟩ (c_X9_isRole l D cI cZ cG cL am hw) (cwV 1 hts (gk_gV ml_X9_142 im_X9_isRole se_X9_isRole in_X9 co_X9_isRole) rfl rfl rfl (by decide +kernel) ⟨Nat.le_of_ble_eq_true rfl, Nat.le_of_ble_eq_true rfl⟩) (gk_recv hK.1 (mk_obj hW) rfl) hW hK trivial hS rfl hl.1 (rest := []) rfl (lv_room (Nat.le_of_ble_eq_true rfl)) dX9_wouldGain_15 ⟨Nat.le_of_ble_eq_true rfl, Nat.le_of_ble_eq_true rfl⟩ (fun r15 H locs hw hW _ hk hS => ?_)
    refine lv_if_ne (tgt := 27) hx hb dX9_wouldGain_18 (by decide) (fun c18 => ?_) (fun c18 => ?_)
    · have hw := hw.1 c18
      refine lv_aload_n hx hb dX9_wouldGain_27 rfl (lv_at hl 0 rfl) ?_
      refine mk_callVb ⟨hx, hb, hml, hown, hts⟩ (c_X9_allNears l D cI cZ cG cL am hw) (cwV 0 hts (gk_gV ml_X9_247 im_X9_allNears se_X9_allNears in_X9 co_X9_allNears) rfl rfl rfl (by decide +kernel) ⟨Nat.le_of_ble_eq_true rfl, Nat.le_of_ble_eq_true rfl⟩) (gk_recv hK.1 (mk_obj hW) rfl) hW hK trivial hS rfl hl.1 (rest := []) rfl (lv_room (Nat.le_of_ble_eq_true rfl)) dX9_wouldGain_28 ⟨Nat.le_of_ble_eq_true rfl, Nat.le_of_ble_eq_true rfl⟩ (fun Nc28 qc28 H locs hw hW hdc28 hb0 hgc28 _ hk hS => ?_)
      refine lv_astore_n (lv' := [(3, .ref qc28), (0, .ref (am 38)), (1, .int a0), (2, .int a1)]) hx hb dX9_wouldGain_31 rfl hl (by decide) rfl (fun ls hl => ?_)
      refine lv_aload_n hx hb dX9_wouldGain_32 rfl (lv_at hl 1 rfl) ?_
      refine lv_aload_n hx hb dX9_wouldGain_33 rfl (lv_at hl 0 rfl) ?_
      refine lv_aload_n hx hb dX9_wouldGain_34 rfl (lv_at hl 1 rfl) ?_
      refine gk_get hx hb hts iwX9 hown hK.1 (mk_obj hW) rfl 2 (by decide) (hts _ fl_X9_171) (fun _ h9 => h9) rfl dX9_wouldGain_35 ?_
      refine mk_callVt ⟨hx, hb, hml, hown, hts⟩ (c_X9_table l D cI cZ cG cL am hw) (cwV 2 hts (gk_gV ml_X9_286 im_X9_table se_X9_table in_X9 co_X9_table) rfl rfl rfl (by decide +kernel) ⟨Nat.le_of_ble_eq_true rfl, Nat.le_of_ble_eq_true rfl⟩) (gk_recv hK.1 (mk_obj hW) rfl) hW hK ⟨hdc28, trivial⟩ hS rfl hl.1 (rest := []) rfl (lv_room (Nat.le_of_ble_eq_true rfl)) dX9_wouldGain_38 ⟨Nat.le_of_ble_eq_true rfl, Nat.le_of_ble_eq_true rfl⟩ (fun nc38 fc38 qc38 H locs hw hW hdc38 hb0 hgc38 _ hk hS => ?_)
      have hlc28_c38 : qc28 < qc38 := Nat.lt_of_lt_of_le hdc28.lt hb0
      have hdc28 := hdc28.kept hk
      refine lv_astore (lv' := [(4, .ref qc38), (3, .ref qc28), (0, .ref (am 38)), (1, .int a0), (2, .int a1)]) hx hb dX9_wouldGain_41 hl (by decide) rfl (fun ls hl => ?_)
      refine lv_aload_n hx hb dX9_wouldGain_43 rfl (lv_at hl 1 rfl) ?_
      refine lv_iload_n hx hb dX9_wouldGain_44 rfl (lv_at hl 3 rfl) ?_
      refine lv_aload_n hx hb dX9_wouldGain_45 rfl (lv_at hl 2 rfl) ?_
      refine lv_aload_n hx hb dX9_wouldGain_46 rfl (lv_at hl 2 rfl) ?_
      refine gk_get hx hb hts iwX9 hown hK.1 (mk_obj hW) rfl 4 (by decide) (hts _ fl_X9_9) (fun _ h9 => h9) rfl dX9_wouldGain_47 ?_
      refine lv_iload_n hx hb dX9_wouldGain_50 rfl (lv_at hl 3 rfl) ?_
      obtain ⟨hin, hw⟩ := hw
      refine gk_iald hx hb hK.1 0 (mk_arr hW (k := 4) (by decide) (by decide) (by decide)) rfl hin dX9_wouldGain_51 ?_
      refine lv_iconst (v := 1) hx hb dX9_wouldGain_52 (by decide) ?_
      refine lv_iload_n hx hb dX9_wouldGain_53 rfl (lv_at hl 4 rfl) ?_
      refine lv_ishl hx hb dX9_wouldGain_54 ?_
      refine lv_ior hx hb dX9_wouldGain_55 ?_
      refine mk_callVa ⟨hx, hb, hml, hown, hts⟩ (c_X9_nears l D cI cZ cG cL am hw) (cwV 1 hts (gk_gV ml_X9_155 im_X9_nears se_X9_nears in_X9 co_X9_nears) rfl rfl rfl (by decide +kernel) ⟨Nat.le_of_ble_eq_true rfl, Nat.le_of_ble_eq_true rfl⟩) (gk_recv hK.1 (mk_obj hW) rfl) hW hK trivial hS rfl hl.1 (rest := [.int a0, .ref qc28]) rfl (lv_room (Nat.le_of_ble_eq_true rfl)) dX9_wouldGain_56 ⟨Nat.le_of_ble_eq_true rfl, Nat.le_of_ble_eq_true rfl⟩ (fun fc56 qc56 H locs hw hW hdc56 hb0 hgc56 _ hk hS => ?_)
      have hlc28_c56 : qc28 < qc56 := Nat.lt_of_lt_of_le hdc28.lt hb0
      have hlc38_c56 : qc38 < qc56 := Nat.lt_of_lt_of_le hdc38.1.lt hb0
      have hdc28 := hdc28.kept hk
      have hdc38 := hdc38.kept hk
      obtain ⟨hin, hw⟩ := hw
      have hn0 := hdc28.1
      refine mk_astN hx hb hK hS (Or.inr hgc28) hdc28 hdc56 (show qc28 < qc56 by omega) hin dX9_wouldGain_59 (fun H locs hdc28 oq hS => ?_)
      have hW := hW.keptN hn0 oq
      have hdc38 := hdc38.oq oq (show qc38 ≠ qc28 by omega)
      refine lv_aload_n hx hb dX9_wouldGain_60 rfl (lv_at hl 2 rfl) ?_
      refine lv_aload_n hx hb dX9_wouldGain_61 rfl (lv_at hl 1 rfl) ?_
      refine lv_aload_n hx hb dX9_wouldGain_62 rfl (lv_at hl 2 rfl) ?_
      refine gk_get hx hb hts iwX9 hown hK.1 (mk_obj hW) rfl 2 (by decide) (hts _ fl_X9_171) (fun _ h9 => h9) rfl dX9_wouldGain_63 ?_
      refine mk_callVt ⟨hx, hb, hml, hown, hts⟩ (c_X9_table l D cI cZ cG cL am hw) (cwV 2 hts (gk_gV ml_X9_286 im_X9_table se_X9_table in_X9 co_X9_table) rfl rfl rfl (by decide +kernel) ⟨Nat.le_of_ble_eq_true rfl, Nat.le_of_ble_eq_true rfl⟩) (gk_recv hK.1 (mk_obj hW) rfl) hW hK ⟨hdc28, trivial⟩ hS rfl hl.1 (rest := []) rfl (lv_room (Nat.le_of_ble_eq_true rfl)) dX9_wouldGain_66 ⟨Nat.le_of_ble_eq_true rfl, Nat.le_of_ble_eq_true rfl⟩ (fun nc66 fc66 qc66 H locs hw hW hdc66 hb0 hgc66 _ hk hS => ?_)
      have hlc28_c66 : qc28 < qc66 := Nat.lt_of_lt_of_le hdc28.lt hb0
      have hlc38_c66 : qc38 < qc66 := Nat.lt_of_lt_of_le hdc38.1.lt hb0
      have hdc28 := hdc28.kept hk
      have hdc38 := hdc38.kept hk
      refine lv_astore (lv' := [(5, .ref qc66), (4, .ref qc38), (3, .ref qc28), (0, .ref (am 38)), (1, .int a0), (2, .int a1)]) hx hb dX9_wouldGain_69 hl (by decide) rfl (fun ls hl => ?_)
      refine lv_iconst (v := 0) hx hb dX9_wouldGain_71 (by decide) ?_
      refine lv_istore (lv' := [(6, .int 0), (5, .ref qc66), (4, .ref qc38), (3, .ref qc28), (0, .ref (am 38)), (1, .int a0), (2, .int a1)]) hx hb dX9_wouldGain_72 hl (by decide) rfl (fun ls hl => ?_)
      refine lv_iload_n hx hb dX9_wouldGain_74 rfl (lv_at hl 5 rfl) ?_
      refine lv_iconst (v := 5) hx hb dX9_wouldGain_75 (by decide) ?_
      refine lv_imul hx hb dX9_wouldGain_76 ?_
      refine lv_aload_n hx hb dX9_wouldGain_77 rfl (lv_at hl 4 rfl) ?_
      refine gk_get hx hb hts iwX9 hown hK.1 (mk_obj hW) rfl 11 (by decide) (hts _ fl_X9_25) (fun _ h9 => h9) rfl dX9_wouldGain_78 ?_
      refine lv_imul hx hb dX9_wouldGain_81 ?_
      refine lv_istore (lv' := [(7, .int ((a0 * 5) * ((gk_s σ 0 0).2 11))), (6, .int 0), (5, .ref qc66), (4, .ref qc38), (3, .ref qc28), (0, .ref (am 38)), (1, .int a0), (2, .int a1)]) hx hb dX9_wouldGain_82 hl (by decide) rfl (fun ls hl => ?_)
      obtain ⟨n84, hw⟩ := hw
      refine tL_X9_wouldGain_84 C0 hK  n84 (gk_s σ 0 0) a0 0 ((a0 * 5) * ((gk_s σ 0 0).2 11)) fc38 nc38 fc66 nc66 hw _ _ hW hS _ hgc38 _ hgc66 (by omega) hdc38 hdc66 _ (lv_sub hl [5, 6, 3, 2, 1, 0] rfl)
    · have hw := hw.2 c18
      refine tJ_X9_wouldGain_21 C0 hK  (gk_s σ 0 0) hw _ _ hW hS  _ (lv_sub hl [0] rfl)
def wL_X9_digest_98 (k131 : gk_C → Int64 → Int32 → Int32 → (Nat → Option (Nat → Int32)) → Prop) : Nat → gk_C → Int64 → Int32 → Int32 → Int32 → (Nat → Option (Nat → Int32)) → Prop
  | 0 => fun _ _ _ _ _ _ => False
  | n + 1 => fun σ x1 x4 x5 x6 Nc68 => ((((σ.2 7) ≤ x6) → (k131 σ x1 x4 x5 Nc68)) ∧ ((¬ (σ.2 7) ≤ x6) → (vp_in x5 12 ∧ ∃ fe115, Nc68 x5.toNatClampNeg = some fe115 ∧ vp_in x6 12 ∧ w_X9_orNone (fe115 x6.toNatClampNeg) (fun r119 => wL_X9_digest_98 k131 n σ ((x1 * 31) + ((r119).toInt64)) x4 x5 (x6 + 1) Nc68))))
def wL_X9_digest_86 (k137 : gk_C → Int64 → Int32 → (Nat → Option (Nat → Int32)) → Prop) : Nat → gk_C → Int64 → Int32 → Int32 → (Nat → Option (Nat → Int32)) → Prop
  | 0 => fun _ _ _ _ _ => False
  | n + 1 => fun σ x1 x4 x5 Nc68 => ((((σ.2 3) ≤ x5) → (k137 σ x1 x4 Nc68)) ∧ ((¬ (σ.2 3) ≤ x5) → (∃ n98, wL_X9_digest_98 (fun σ x1 x4 x5 Nc68 => (wL_X9_digest_86 k137 n σ x1 x4 (x5 + 1) Nc68)) n98 σ x1 x4 x5 0 Nc68)))
def wL_X9_digest_140 (k170 : gk_C → Int64 → Int32 → (Nat → Option (Nat → Int32)) → Prop) : Nat → gk_C → Int64 → Int32 → Int32 → (Nat → Option (Nat → Int32)) → Prop
  | 0 => fun _ _ _ _ _ => False
  | n + 1 => fun σ x1 x4 x5 Nc68 => ((((σ.2 11) ≤ x5) → (k170 σ x1 x4 Nc68)) ∧ ((¬ (σ.2 11) ≤ x5) → (w_X9_farNow σ x5 0 (fun r158 => wL_X9_digest_140 k170 n σ ((x1 * 31) + ((r158).toInt64)) x4 (x5 + 1) Nc68))))
def wL_X9_digest_173 (k203 : gk_C → Int64 → Int32 → (Nat → Option (Nat → Int32)) → Prop) : Nat → gk_C → Int64 → Int32 → Int32 → (Nat → Option (Nat → Int32)) → Prop
  | 0 => fun _ _ _ _ _ => False
  | n + 1 => fun σ x1 x4 x5 Nc68 => ((((σ.2 26) ≤ x5) → (k203 σ x1 x4 Nc68)) ∧ ((¬ (σ.2 26) ≤ x5) → (wL_X9_digest_173 k203 n σ ((x1 * 31) + ((((x4 >>> (x5 &&& 31)) &&& 1)).toInt64)) x4 (x5 + 1) Nc68)))
def wL_X9_digest_226 (k256 : gk_C → Int64 → Int32 → (Nat → Option (Nat → Int32)) → Prop) : Nat → gk_C → Int64 → Int32 → Int32 → Int32 → (Nat → Option (Nat → Int32)) → (Nat → Int32) → Nat → Prop
  | 0 => fun _ _ _ _ _ _ _ _ => False
  | n + 1 => fun σ x1 x4 x7 x8 Nc68 fc209 nc209 => (((x7 ≤ x8) → (k256 σ x1 x4 Nc68)) ∧ ((¬ x7 ≤ x8) → (vp_in x8 nc209 ∧ wL_X9_digest_226 k256 n σ ((x1 * 31) + (((fc209 x8.toNatClampNeg)).toInt64)) x4 x7 (x8 + 1) Nc68 fc209 nc209)))
def wL_X9_digest_280 (k316 : gk_C → Int64 → Int32 → Int32 → Int32 → (Nat → Option (Nat → Int32)) → Prop) : Nat → gk_C → Int64 → Int32 → Int32 → Int32 → Int32 → (Nat → Option (Nat → Int32)) → Prop
  | 0 => fun _ _ _ _ _ _ _ => False
  | n + 1 => fun σ x1 x4 x6 x7 x8 Nc68 => ((((σ.2 11) ≤ x8) → (k316 σ x1 x4 x6 x7 Nc68)) ∧ ((¬ (σ.2 11) ≤ x8) → (w_X9_whyNow σ x6 x7 x8 Nc68 x4 (fun r304 => wL_X9_digest_280 k316 n σ ((x1 * 31) + ((r304).toInt64)) x4 x6 x7 (x8 + 1) Nc68))))
def wL_X9_digest_271 (k322 : gk_C → Int64 → Int32 → Int32 → (Nat → Option (Nat → Int32)) → Prop) : Nat → gk_C → Int64 → Int32 → Int32 → Int32 → (Nat → Option (Nat → Int32)) → Prop
  | 0 => fun _ _ _ _ _ _ => False
  | n + 1 => fun σ x1 x4 x6 x7 Nc68 => (((5 ≤ x7) → (k322 σ x1 x4 x6 Nc68)) ∧ ((¬ 5 ≤ x7) → (∃ n280, wL_X9_digest_280 (fun σ x1 x4 x6 x7 Nc68 => (wL_X9_digest_271 k322 n σ x1 x4 x6 (x7 + 1) Nc68)) n280 σ x1 x4 x6 x7 0 Nc68)))
def wL_X9_digest_259 (k328 : gk_C → Int64 → Prop) : Nat → gk_C → Int64 → Int32 → Int32 → (Nat → Option (Nat → Int32)) → Prop
  | 0 => fun _ _ _ _ _ => False
  | n + 1 => fun σ x1 x4 x6 Nc68 => ((((σ.2 3) ≤ x6) → (k328 σ x1)) ∧ ((¬ (σ.2 3) ≤ x6) → (∃ n271, wL_X9_digest_271 (fun σ x1 x4 x6 Nc68 => (wL_X9_digest_259 k328 n σ x1 x4 (x6 + 1) Nc68)) n271 σ x1 x4 x6 0 Nc68)))
def wL_X9_digest_342 (k372 : gk_C → Int64 → Prop) : Nat → gk_C → Int64 → Int32 → Int32 → Prop
  | 0 => fun _ _ _ _ => False
  | n + 1 => fun σ x1 x7 x8 => (((x7 ≤ x8) → (k372 σ x1)) ∧ ((¬ x7 ≤ x8) → (vp_in x8 6 ∧ wL_X9_digest_342 k372 n σ ((x1 * 31) + (((σ.1 33 x8.toNatClampNeg)).toInt64)) x7 (x8 + 1))))
def wL_X9_digest_387 (k423 : gk_C → Int64 → Int32 → Prop) : Nat → gk_C → Int64 → Int32 → Int32 → Prop
  | 0 => fun _ _ _ _ => False
  | n + 1 => fun σ x1 x6 x7 => ((((σ.2 11) ≤ x7) → (k423 σ x1 x6)) ∧ ((¬ (σ.2 11) ≤ x7) → (vp_in ((x6 * 24) + x7) 288 ∧ wL_X9_digest_387 k423 n σ ((x1 * 31) + (((σ.1 34 ((x6 * 24) + x7).toNatClampNeg)).toInt64)) x6 (x7 + 1))))
def wL_X9_digest_375 (k429 : gk_C → Int64 → Prop) : Nat → gk_C → Int64 → Int32 → Prop
  | 0 => fun _ _ _ => False
  | n + 1 => fun σ x1 x6 => ((((σ.2 3) ≤ x6) → (k429 σ x1)) ∧ ((¬ (σ.2 3) ≤ x6) → (∃ n387, wL_X9_digest_387 (fun σ x1 x6 => (wL_X9_digest_375 k429 n σ x1 (x6 + 1))) n387 σ x1 x6 0)))
def w_X9_digest (σ : gk_C)  (Q : Int64 → gk_C → Prop) : Prop := (w_X9_allNears (gk_s σ 0 0) (fun Nc68 => w_X9_good (gk_s σ 0 0) Nc68 ((gk_s σ 0 0).2 2) (fun r78 => ∃ n86, wL_X9_digest_86 (fun σ x1 x4 Nc68 => (∃ n140, wL_X9_digest_140 (fun σ x1 x4 Nc68 => (∃ n173, wL_X9_digest_173 (fun σ x1 x4 Nc68 => (w_X9_table σ Nc68 (σ.2 2) (fun nc209 fc209 => ∃ n226, wL_X9_digest_226 (fun σ x1 x4 Nc68 => (∃ n259, wL_X9_digest_259 (fun σ x1 => (∃ n342, wL_X9_digest_342 (fun σ x1 => (∃ n375, wL_X9_digest_375 (fun σ x1 => (w_X9_contradictionsNow σ (fun r435 => Q ((x1 * 31) + ((r435).toInt64)) σ))) n375 σ x1 0)) n342 σ x1 6 0)) n259 σ x1 x4 0 Nc68)) n226 σ x1 x4 (nI nc209) 0 Nc68 fc209 nc209))) n173 σ x1 x4 0 Nc68)) n140 σ x1 x4 0 Nc68)) n86 (gk_s σ 0 0) (((((((((((79949 + ((((gk_s σ 0 0).2 3)).toInt64)) * 31) + ((((gk_s σ 0 0).2 7)).toInt64)) * 31) + ((((gk_s σ 0 0).2 11)).toInt64)) * 31) + ((((gk_s σ 0 0).2 16)).toInt64)) * 31) + ((((gk_s σ 0 0).2 26)).toInt64)) * 31) + ((((gk_s σ 0 0).2 1)).toInt64)) r78 0 Nc68)))
abbrev rmX9_digest : Room := { frames := 9, cells := 28, slots := 1782, locals := 221 }
set_option maxHeartbeats 4000000 in
set_option maxRecDepth 100000 in
theorem tL_X9_digest_98 {p : Program} {l : Launch} {e : Env} {s : State} {m : MethodId} {args : Array Value} {below : List Frame} {meth : Method} {c : Code} {D : va_G} {cI cZ cG cL : ClassId} {am : Nat → Nat} (C0 : gk_F p s m args meth c cX9_digest 10 (some .long) RX9) (hK : gk_K D cI cZ cG cL s) {Q : Int64 → gk_C → Prop} {k131 : gk_C → Int64 → Int32 → Int32 → (Nat → Option (Nat → Int32)) → Prop} (hk131 : ∀ (σ : gk_C) (x1 : Int64) (x4 : Int32) (x5 : Int32) (Nc68 : Nat → Option (Nat → Int32)), k131 σ x1 x4 x5 Nc68 → ∀ (H : Heap) (locs : List Loc), mk_V D cI cZ am σ H → va_S (mk_A am s.heap.size) s.heap H locs → ∀ (qc68 Bc68 : Nat), s.heap.size ≤ qc68 → mk_N D cI cG am qc68 Bc68 Nc68 H → ∀ (ls : Array Slot), lv_has ls 10 [(0, .ref (am 38)), (1, .long x1), (3, .ref qc68), (4, .int x4), (5, .int x5)] → W p l e rmX9_digest s m args below meth c H locs 13 156 (MQ below (va_Ql (fun r u => Q r u) (mk_B (mk_V D cI cZ am)) (mk_A am s.heap.size)) args s 28 1782 (mk_A am s.heap.size)) (F0 m 131 ls [])) : ∀ (n : Nat) (σ : gk_C) (x1 : Int64) (x4 : Int32) (x5 : Int32) (x6 : Int32) (Nc68 : Nat → Option (Nat → Int32)), wL_X9_digest_98 k131 n σ x1 x4 x5 x6 Nc68 → ∀ (H : Heap) (locs : List Loc), mk_V D cI cZ am σ H → va_S (mk_A am s.heap.size) s.heap H locs → ∀ (qc68 Bc68 : Nat), s.heap.size ≤ qc68 → mk_N D cI cG am qc68 Bc68 Nc68 H → ∀ (ls : Array Slot), lv_has ls 10 [(0, .ref (am 38)), (1, .long x1), (3, .ref qc68), (4, .int x4), (5, .int x5), (6, .int x6)] → W p l e rmX9_digest s m args below meth c H locs 13 156 (MQ below (va_Ql (fun r u => Q r u) (mk_B (mk_V D cI cZ am)) (mk_A am s.heap.size)) args s 28 1782 (mk_A am s.heap.size)) (F0 m 98 ls []) := by
  obtain ⟨hx, hb, hml, hown, hts, hr, hlocks⟩ := id C0
  intro n
  induction n with
  | zero => exact fun _ _ _ _ _ _ hw => False.elim hw
  | succ n ih =>
    intro σ x1 x4 x5 x6 Nc68 hw H locs hW hS qc68 Bc68 hgc68 hdc68 ls hl
    refine lv_iload hx hb dX9_digest_98 (lv_at hl 5 rfl) ?_
    refine lv_aload_n hx hb dX9_digest_100 rfl (lv_at hl 0 rfl) ?_
    refine gk_get hx hb hts iwX9 hown hK.1 (mk_obj hW) rfl 7 (by decide) (hts _ fl_X9_112) (fun _ h9 => h9) rfl dX9_digest_101 ?_
    refine lv_icmp_ge (tgt := 131) hx hb dX9_digest_104 (by decide) (fun c104 => ?_) (fun c104 => ?_)
    · have hw := hw.1 c104
      exact hk131 σ x1 x4 x5 Nc68 hw _ _ hW hS _ _ hgc68 hdc68 _ (lv_sub hl [0, 1, 2, 3, 4] rfl)
    · have hw := hw.2 c104
      refine lv_lload_n hx hb dX9_digest_107 rfl (lv_at hl 1 rfl) ?_
      refine lv_ldc2 (v := 31) hx hb hown (hts _ k_X9_296) dX9_digest_108 ?_
      refine lv_lmul hx hb dX9_digest_111 ?_
      refine lv_aload_n hx hb dX9_digest_112 rfl (lv_at hl 2 rfl) ?_
      refine lv_iload hx hb dX9_digest_113 (lv_at hl 4 rfl) ?_
      obtain ⟨hin, fe115, hfe115, hw⟩ := hw
      refine mk_aald hx hb hK.1 2 hdc68 rfl hin hfe115 dX9_digest_115 (fun qe115 hde115 _ _ => ?_)
      refine lv_iload hx hb dX9_digest_116 (lv_at hl 5 rfl) ?_
      obtain ⟨hin, hw⟩ := hw
      refine gk_iald hx hb hK.1 0 hde115.1 rfl hin dX9_digest_118 ?_
      refine gk_callSi ⟨hx, hb, hml, hown, hts⟩ (c_X9_orNone l hw) (va_cwS 1 hts (gk_gS ml_X9_158 st_X9_orNone in_X9 co_X9_orNone) rfl rfl rfl (by decide +kernel) ⟨Nat.le_of_ble_eq_true rfl, Nat.le_of_ble_eq_true rfl⟩) hS rfl hl.1 (rest := [.long (x1 * 31)]) rfl (lv_room (Nat.le_of_ble_eq_true rfl)) dX9_digest_119 ⟨Nat.le_of_ble_eq_true rfl, Nat.le_of_ble_eq_true rfl⟩ (fun r119 H locs hw _ hk hS => ?_)
      have hW := hW.keptAll hk
      have hdc68 := hdc68.keptAll hk
      refine lv_i2l (v := (r119).toInt64) hx hb dX9_digest_122 rfl ?_
      refine lv_ladd hx hb dX9_digest_123 ?_
      refine lv_lstore_n (lv' := [(1, .long ((x1 * 31) + ((r119).toInt64))), (0, .ref (am 38)), (3, .ref qc68), (4, .int x4), (5, .int x5), (6, .int x6)]) hx hb dX9_digest_124 rfl hl (by decide) rfl (fun ls hl => ?_)
      refine lv_iinc (v := (x6 + 1)) (lv' := [(6, .int (x6 + 1)), (1, .long ((x1 * 31) + ((r119).toInt64))), (0, .ref (am 38)), (3, .ref qc68), (4, .int x4), (5, .int x5)]) hx hb dX9_digest_125 hl (k := 5) rfl rfl (by decide) rfl (fun ls hl => ?_)
      refine lv_goto (tgt := 98) hx hb dX9_digest_128 (by decide) ?_
      exact ih σ ((x1 * 31) + ((r119).toInt64)) x4 x5 (x6 + 1) Nc68 hw _ _ hW hS _ _ hgc68 hdc68 _ (lv_sub hl [2, 1, 3, 4, 5, 0] rfl)
set_option maxHeartbeats 4000000 in
set_option maxRecDepth 100000 in
theorem tL_X9_digest_86 {p : Program} {l : Launch} {e : Env} {s : State} {m : MethodId} {args : Array Value} {below : List Frame} {meth : Method} {c : Code} {D : va_G} {cI cZ cG cL : ClassId} {am : Nat → Nat} (C0 : gk_F p s m args meth c cX9_digest 10 (some .long) RX9) (hK : gk_K D cI cZ cG cL s) {Q : Int64 → gk_C → Prop} {k137 : gk_C → Int64 → Int32 → (Nat → Option (Nat → Int32)) → Prop} (hk137 : ∀ (σ : gk_C) (x1 : Int64) (x4 : Int32) (Nc68 : Nat → Option (Nat → Int32)), k137 σ x1 x4 Nc68 → ∀ (H : Heap) (locs : List Loc), mk_V D cI cZ am σ H → va_S (mk_A am s.heap.size) s.heap H locs → ∀ (qc68 Bc68 : Nat), s.heap.size ≤ qc68 → mk_N D cI cG am qc68 Bc68 Nc68 H → ∀ (ls : Array Slot), lv_has ls 10 [(0, .ref (am 38)), (1, .long x1), (3, .ref qc68), (4, .int x4)] → W p l e rmX9_digest s m args below meth c H locs 13 156 (MQ below (va_Ql (fun r u => Q r u) (mk_B (mk_V D cI cZ am)) (mk_A am s.heap.size)) args s 28 1782 (mk_A am s.heap.size)) (F0 m 137 ls [])) : ∀ (n : Nat) (σ : gk_C) (x1 : Int64) (x4 : Int32) (x5 : Int32) (Nc68 : Nat → Option (Nat → Int32)), wL_X9_digest_86 k137 n σ x1 x4 x5 Nc68 → ∀ (H : Heap) (locs : List Loc), mk_V D cI cZ am σ H → va_S (mk_A am s.heap.size) s.heap H locs → ∀ (qc68 Bc68 : Nat), s.heap.size ≤ qc68 → mk_N D cI cG am qc68 Bc68 Nc68 H → ∀ (ls : Array Slot), lv_has ls 10 [(0, .ref (am 38)), (1, .long x1), (3, .ref qc68), (4, .int x4), (5, .int x5)] → W p l e rmX9_digest s m args below meth c H locs 13 156 (MQ below (va_Ql (fun r u => Q r u) (mk_B (mk_V D cI cZ am)) (mk_A am s.heap.size)) args s 28 1782 (mk_A am s.heap.size)) (F0 m 86 ls []) := by
  obtain ⟨hx, hb, hml, hown, hts, hr, hlocks⟩ := id C0
  intro n
  induction n with
  | zero => exact fun _ _ _ _ _ hw => False.elim hw
  | succ n ih =>
    intro σ x1 x4 x5 Nc68 hw H locs hW hS qc68 Bc68 hgc68 hdc68 ls hl
    refine lv_iload hx hb dX9_digest_86 (lv_at hl 4 rfl) ?_
    refine lv_aload_n hx hb dX9_digest_88 rfl (lv_at hl 0 rfl) ?_
    refine gk_get hx hb hts iwX9 hown hK.1 (mk_obj hW) rfl 3 (by decide) (hts _ fl_X9_105) (fun _ h9 => h9) rfl dX9_digest_89 ?_
    refine lv_icmp_ge (tgt := 137) hx hb dX9_digest_92 (by decide) (fun c92 => ?_) (fun c92 => ?_)
    · have hw := hw.1 c92
      exact hk137 σ x1 x4 Nc68 hw _ _ hW hS _ _ hgc68 hdc68 _ (lv_sub hl [0, 1, 2, 3] rfl)
    · have hw := hw.2 c92
      refine lv_iconst (v := 0) hx hb dX9_digest_95 (by decide) ?_
      refine lv_istore (lv' := [(6, .int 0), (0, .ref (am 38)), (1, .long x1), (3, .ref qc68), (4, .int x4), (5, .int x5)]) hx hb dX9_digest_96 hl (by decide) rfl (fun ls hl => ?_)
      obtain ⟨n98, hw⟩ := hw
      refine tL_X9_digest_98 C0 hK (hk131 := ?_) n98 σ x1 x4 x5 0 Nc68 hw _ _ hW hS _ _ hgc68 hdc68 _ (lv_sub hl [1, 2, 3, 4, 5, 0] rfl)
      · intro σ x1 x4 x5 Nc68 hw H locs hW hS qc68 Bc68 hgc68 hdc68 ls hl
        refine lv_iinc (v := (x5 + 1)) (lv' := [(5, .int (x5 + 1)), (0, .ref (am 38)), (1, .long x1), (3, .ref qc68), (4, .int x4)]) hx hb dX9_digest_131 hl (k := 4) rfl rfl (by decide) rfl (fun ls hl => ?_)
        refine lv_goto (tgt := 86) hx hb dX9_digest_134 (by decide) ?_
        exact ih σ x1 x4 (x5 + 1) Nc68 hw _ _ hW hS _ _ hgc68 hdc68 _ (lv_sub hl [1, 2, 3, 4, 0] rfl)
set_option maxHeartbeats 4000000 in
set_option maxRecDepth 100000 in
theorem tL_X9_digest_140 {p : Program} {l : Launch} {e : Env} {s : State} {m : MethodId} {args : Array Value} {below : List Frame} {meth : Method} {c : Code} {D : va_G} {cI cZ cG cL : ClassId} {am : Nat → Nat} (C0 : gk_F p s m args meth c cX9_digest 10 (some .long) RX9) (hK : gk_K D cI cZ cG cL s) {Q : Int64 → gk_C → Prop} {k170 : gk_C → Int64 → Int32 → (Nat → Option (Nat → Int32)) → Prop} (hk170 : ∀ (σ : gk_C) (x1 : Int64) (x4 : Int32) (Nc68 : Nat → Option (Nat → Int32)), k170 σ x1 x4 Nc68 → ∀ (H : Heap) (locs : List Loc), mk_V D cI cZ am σ H → va_S (mk_A am s.heap.size) s.heap H locs → ∀ (qc68 Bc68 : Nat), s.heap.size ≤ qc68 → mk_N D cI cG am qc68 Bc68 Nc68 H → ∀ (ls : Array Slot), lv_has ls 10 [(0, .ref (am 38)), (1, .long x1), (3, .ref qc68), (4, .int x4)] → W p l e rmX9_digest s m args below meth c H locs 13 156 (MQ below (va_Ql (fun r u => Q r u) (mk_B (mk_V D cI cZ am)) (mk_A am s.heap.size)) args s 28 1782 (mk_A am s.heap.size)) (F0 m 170 ls [])) : ∀ (n : Nat) (σ : gk_C) (x1 : Int64) (x4 : Int32) (x5 : Int32) (Nc68 : Nat → Option (Nat → Int32)), wL_X9_digest_140 k170 n σ x1 x4 x5 Nc68 → ∀ (H : Heap) (locs : List Loc), mk_V D cI cZ am σ H → va_S (mk_A am s.heap.size) s.heap H locs → ∀ (qc68 Bc68 : Nat), s.heap.size ≤ qc68 → mk_N D cI cG am qc68 Bc68 Nc68 H → ∀ (ls : Array Slot), lv_has ls 10 [(0, .ref (am 38)), (1, .long x1), (3, .ref qc68), (4, .int x4), (5, .int x5)] → W p l e rmX9_digest s m args below meth c H locs 13 156 (MQ below (va_Ql (fun r u => Q r u) (mk_B (mk_V D cI cZ am)) (mk_A am s.heap.size)) args s 28 1782 (mk_A am s.heap.size)) (F0 m 140 ls []) := by
  obtain ⟨hx, hb, hml, hown, hts, hr, hlocks⟩ := id C0
  intro n
  induction n with
  | zero => exact fun _ _ _ _ _ hw => False.elim hw
  | succ n ih =>
    intro σ x1 x4 x5 Nc68 hw H locs hW hS qc68 Bc68 hgc68 hdc68 ls hl
    refine lv_iload hx hb dX9_digest_140 (lv_at hl 4 rfl) ?_
    refine lv_aload_n hx hb dX9_digest_142 rfl (lv_at hl 0 rfl) ?_
    refine gk_get hx hb hts iwX9 hown hK.1 (mk_obj hW) rfl 11 (by decide) (hts _ fl_X9_25) (fun _ h9 => h9) rfl dX9_digest_143 ?_
    refine lv_icmp_ge (tgt := 170) hx hb dX9_digest_146 (by decide) (fun c146 => ?_) (fun c146 => ?_)
    · have hw := hw.1 c146
      exact hk170 σ x1 x4 Nc68 hw _ _ hW hS _ _ hgc68 hdc68 _ (lv_sub hl [0, 1, 2, 3] rfl)
    · have hw := hw.2 c146
      refine lv_lload_n hx hb dX9_digest_149 rfl (lv_at hl 1 rfl) ?_
      refine lv_ldc2 (v := 31) hx hb hown (hts _ k_X9_296) dX9_digest_150 ?_
      refine lv_lmul hx hb dX9_digest_153 ?_
      refine lv_aload_n hx hb dX9_digest_154 rfl (lv_at hl 0 rfl) ?_
      refine lv_iload hx hb dX9_digest_155 (lv_at hl 4 rfl) ?_
      refine lv_iconst (v := 0) hx hb dX9_digest_157 (by decide) ?_
      refine mk_callRi ⟨hx, hb, hml, hown, hts⟩ (c_X9_farNow l D cI cZ cG cL am hw) (cwV 2 hts (gk_gV ml_X9_161 im_X9_farNow se_X9_farNow in_X9 co_X9_farNow) rfl rfl rfl (by decide +kernel) ⟨Nat.le_of_ble_eq_true rfl, Nat.le_of_ble_eq_true rfl⟩) (gk_recv hK.1 (mk_obj hW) rfl) hW hK trivial hS rfl hl.1 (rest := [.long (x1 * 31)]) rfl (lv_room (Nat.le_of_ble_eq_true rfl)) dX9_digest_158 ⟨Nat.le_of_ble_eq_true rfl, Nat.le_of_ble_eq_true rfl⟩ (fun r158 H locs hw hW _ hk hS => ?_)
      have hdc68 := hdc68.kept hk
      refine lv_i2l (v := (r158).toInt64) hx hb dX9_digest_161 rfl ?_
      refine lv_ladd hx hb dX9_digest_162 ?_
      refine lv_lstore_n (lv' := [(1, .long ((x1 * 31) + ((r158).toInt64))), (0, .ref (am 38)), (3, .ref qc68), (4, .int x4), (5, .int x5)]) hx hb dX9_digest_163 rfl hl (by decide) rfl (fun ls hl => ?_)
      refine lv_iinc (v := (x5 + 1)) (lv' := [(5, .int (x5 + 1)), (1, .long ((x1 * 31) + ((r158).toInt64))), (0, .ref (am 38)), (3, .ref qc68), (4, .int x4)]) hx hb dX9_digest_164 hl (k := 4) rfl rfl (by decide) rfl (fun ls hl => ?_)
      refine lv_goto (tgt := 140) hx hb dX9_digest_167 (by decide) ?_
      exact ih σ ((x1 * 31) + ((r158).toInt64)) x4 (x5 + 1) Nc68 hw _ _ hW hS _ _ hgc68 hdc68 _ (lv_sub hl [2, 1, 3, 4, 0] rfl)
set_option maxHeartbeats 4000000 in
set_option maxRecDepth 100000 in
theorem tL_X9_digest_173 {p : Program} {l : Launch} {e : Env} {s : State} {m : MethodId} {args : Array Value} {below : List Frame} {meth : Method} {c : Code} {D : va_G} {cI cZ cG cL : ClassId} {am : Nat → Nat} (C0 : gk_F p s m args meth c cX9_digest 10 (some .long) RX9) (hK : gk_K D cI cZ cG cL s) {Q : Int64 → gk_C → Prop} {k203 : gk_C → Int64 → Int32 → (Nat → Option (Nat → Int32)) → Prop} (hk203 : ∀ (σ : gk_C) (x1 : Int64) (x4 : Int32) (Nc68 : Nat → Option (Nat → Int32)), k203 σ x1 x4 Nc68 → ∀ (H : Heap) (locs : List Loc), mk_V D cI cZ am σ H → va_S (mk_A am s.heap.size) s.heap H locs → ∀ (qc68 Bc68 : Nat), s.heap.size ≤ qc68 → mk_N D cI cG am qc68 Bc68 Nc68 H → ∀ (ls : Array Slot), lv_has ls 10 [(0, .ref (am 38)), (1, .long x1), (3, .ref qc68), (4, .int x4)] → W p l e rmX9_digest s m args below meth c H locs 13 156 (MQ below (va_Ql (fun r u => Q r u) (mk_B (mk_V D cI cZ am)) (mk_A am s.heap.size)) args s 28 1782 (mk_A am s.heap.size)) (F0 m 203 ls [])) : ∀ (n : Nat) (σ : gk_C) (x1 : Int64) (x4 : Int32) (x5 : Int32) (Nc68 : Nat → Option (Nat → Int32)), wL_X9_digest_173 k203 n σ x1 x4 x5 Nc68 → ∀ (H : Heap) (locs : List Loc), mk_V D cI cZ am σ H → va_S (mk_A am s.heap.size) s.heap H locs → ∀ (qc68 Bc68 : Nat), s.heap.size ≤ qc68 → mk_N D cI cG am qc68 Bc68 Nc68 H → ∀ (ls : Array Slot), lv_has ls 10 [(0, .ref (am 38)), (1, .long x1), (3, .ref qc68), (4, .int x4), (5, .int x5)] → W p l e rmX9_digest s m args below meth c H locs 13 156 (MQ below (va_Ql (fun r u => Q r u) (mk_B (mk_V D cI cZ am)) (mk_A am s.heap.size)) args s 28 1782 (mk_A am s.heap.size)) (F0 m 173 ls []) := by
  obtain ⟨hx, hb, hml, hown, hts, hr, hlocks⟩ := id C0
  intro n
  induction n with
  | zero => exact fun _ _ _ _ _ hw => False.elim hw
  | succ n ih =>
    intro σ x1 x4 x5 Nc68 hw H locs hW hS qc68 Bc68 hgc68 hdc68 ls hl
    refine lv_iload hx hb dX9_digest_173 (lv_at hl 4 rfl) ?_
    refine lv_aload_n hx hb dX9_digest_175 rfl (lv_at hl 0 rfl) ?_
    refine gk_get hx hb hts iwX9 hown hK.1 (mk_obj hW) rfl 26 (by decide) (hts _ fl_X9_233) (fun _ h9 => h9) rfl dX9_digest_176 ?_
    refine lv_icmp_ge (tgt := 203) hx hb dX9_digest_179 (by decide) (fun c179 => ?_) (fun c179 => ?_)
    · have hw := hw.1 c179
      exact hk203 σ x1 x4 Nc68 hw _ _ hW hS _ _ hgc68 hdc68 _ (lv_sub hl [0, 1, 2, 3] rfl)
    · have hw := hw.2 c179
      refine lv_lload_n hx hb dX9_digest_182 rfl (lv_at hl 1 rfl) ?_
      refine lv_ldc2 (v := 31) hx hb hown (hts _ k_X9_296) dX9_digest_183 ?_
      refine lv_lmul hx hb dX9_digest_186 ?_
      refine lv_iload hx hb dX9_digest_187 (lv_at hl 3 rfl) ?_
      refine lv_iload hx hb dX9_digest_189 (lv_at hl 4 rfl) ?_
      refine lv_ishr hx hb dX9_digest_191 ?_
      refine lv_iconst (v := 1) hx hb dX9_digest_192 (by decide) ?_
      refine lv_iand hx hb dX9_digest_193 ?_
      refine lv_i2l (v := (((x4 >>> (x5 &&& 31)) &&& 1)).toInt64) hx hb dX9_digest_194 rfl ?_
      refine lv_ladd hx hb dX9_digest_195 ?_
      refine lv_lstore_n (lv' := [(1, .long ((x1 * 31) + ((((x4 >>> (x5 &&& 31)) &&& 1)).toInt64))), (0, .ref (am 38)), (3, .ref qc68), (4, .int x4), (5, .int x5)]) hx hb dX9_digest_196 rfl hl (by decide) rfl (fun ls hl => ?_)
      refine lv_iinc (v := (x5 + 1)) (lv' := [(5, .int (x5 + 1)), (1, .long ((x1 * 31) + ((((x4 >>> (x5 &&& 31)) &&& 1)).toInt64))), (0, .ref (am 38)), (3, .ref qc68), (4, .int x4)]) hx hb dX9_digest_197 hl (k := 4) rfl rfl (by decide) rfl (fun ls hl => ?_)
      refine lv_goto (tgt := 173) hx hb dX9_digest_200 (by decide) ?_
      exact ih σ ((x1 * 31) + ((((x4 >>> (x5 &&& 31)) &&& 1)).toInt64)) x4 (x5 + 1) Nc68 hw _ _ hW hS _ _ hgc68 hdc68 _ (lv_sub hl [2, 1, 3, 4, 0] rfl)
set_option maxHeartbeats 4000000 in
set_option maxRecDepth 100000 in
theorem tL_X9_digest_226 {p : Program} {l : Launch} {e : Env} {s : State} {m : MethodId} {args : Array Value} {below : List Frame} {meth : Method} {c : Code} {D : va_G} {cI cZ cG cL : ClassId} {am : Nat → Nat} (C0 : gk_F p s m args meth c cX9_digest 10 (some .long) RX9) (hK : gk_K D cI cZ cG cL s) {Q : Int64 → gk_C → Prop} {k256 : gk_C → Int64 → Int32 → (Nat → Option (Nat → Int32)) → Prop} (hk256 : ∀ (σ : gk_C) (x1 : Int64) (x4 : Int32) (Nc68 : Nat → Option (Nat → Int32)), k256 σ x1 x4 Nc68 → ∀ (H : Heap) (locs : List Loc), mk_V D cI cZ am σ H → va_S (mk_A am s.heap.size) s.heap H locs → ∀ (qc68 Bc68 : Nat), s.heap.size ≤ qc68 → mk_N D cI cG am qc68 Bc68 Nc68 H → ∀ (ls : Array Slot), lv_has ls 10 [(0, .ref (am 38)), (1, .long x1), (3, .ref qc68), (4, .int x4)] → W p l e rmX9_digest s m args below meth c H locs 14 1596 (MQ below (va_Ql (fun r u => Q r u) (mk_B (mk_V D cI cZ am)) (mk_A am s.heap.size)) args s 28 1782 (mk_A am s.heap.size)) (F0 m 256 ls [])) : ∀ (n : Nat) (σ : gk_C) (x1 : Int64) (x4 : Int32) (x7 : Int32) (x8 : Int32) (Nc68 : Nat → Option (Nat → Int32)) (fc209 : Nat → Int32) (nc209 : Nat), wL_X9_digest_226 k256 n σ x1 x4 x7 x8 Nc68 fc209 nc209 → ∀ (H : Heap) (locs : List Loc), mk_V D cI cZ am σ H → va_S (mk_A am s.heap.size) s.heap H locs → ∀ (qc68 Bc68 : Nat), s.heap.size ≤ qc68 → ∀ (qc209 : Nat), s.heap.size ≤ qc209 → qc68 < qc209 → mk_N D cI cG am qc68 Bc68 Nc68 H → mk_D D cI am qc209 nc209 fc209 H → ∀ (ls : Array Slot), lv_has ls 10 [(0, .ref (am 38)), (1, .long x1), (3, .ref qc68), (4, .int x4), (6, .ref qc209), (7, .int x7), (8, .int x8)] → W p l e rmX9_digest s m args below meth c H locs 14 1596 (MQ below (va_Ql (fun r u => Q r u) (mk_B (mk_V D cI cZ am)) (mk_A am s.heap.size)) args s 28 1782 (mk_A am s.heap.size)) (F0 m 226 ls []) := by
  obtain ⟨hx, hb, hml, hown, hts, hr, hlocks⟩ := id C0
  intro n
  induction n with
  | zero => exact fun _ _ _ _ _ _ _ _ hw => False.elim hw
  | succ n ih =>
    intro σ x1 x4 x7 x8 Nc68 fc209 nc209 hw H locs hW hS qc68 Bc68 hgc68 qc209 hgc209 hlc68_c209 hdc68 hdc209 ls hl
    refine lv_iload hx hb dX9_digest_226 (lv_at hl 6 rfl) ?_
    refine lv_iload hx hb dX9_digest_228 (lv_at hl 5 rfl) ?_
    refine lv_icmp_ge (tgt := 256) hx hb dX9_digest_230 (by decide) (fun c230 => ?_) (fun c230 => ?_)
    · have hw := hw.1 c230
      exact hk256 σ x1 x4 Nc68 hw _ _ hW hS _ _ hgc68 hdc68 _ (lv_sub hl [0, 1, 2, 3] rfl)
    · have hw := hw.2 c230
      refine lv_aload hx hb dX9_digest_233 (lv_at hl 4 rfl) ?_
      refine lv_iload hx hb dX9_digest_235 (lv_at hl 6 rfl) ?_
      obtain ⟨hin, hw⟩ := hw
      refine gk_iald hx hb hK.1 0 hdc209.1 rfl hin dX9_digest_237 ?_
      refine lv_istore (lv' := [(9, .int (fc209 x8.toNatClampNeg)), (0, .ref (am 38)), (1, .long x1), (3, .ref qc68), (4, .int x4), (6, .ref qc209), (7, .int x7), (8, .int x8)]) hx hb dX9_digest_238 hl (by decide) rfl (fun ls hl => ?_)
      refine lv_lload_n hx hb dX9_digest_240 rfl (lv_at hl 2 rfl) ?_
      refine lv_ldc2 (v := 31) hx hb hown (hts _ k_X9_296) dX9_digest_241 ?_
      refine lv_lmul hx hb dX9_digest_244 ?_
      refine lv_iload hx hb dX9_digest_245 (lv_at hl 0 rfl) ?_
      refine lv_i2l (v := ((fc209 x8.toNatClampNeg)).toInt64) hx hb dX9_digest_247 rfl ?_
      refine lv_ladd hx hb dX9_digest_248 ?_
      refine lv_lstore_n (lv' := [(1, .long ((x1 * 31) + (((fc209 x8.toNatClampNeg)).toInt64))), (9, .int (fc209 x8.toNatClampNeg)), (0, .ref (am 38)), (3, .ref qc68), (4, .int x4), (6, .ref qc209), (7, .int x7), (8, .int x8)]) hx hb dX9_digest_249 rfl hl (by decide) rfl (fun ls hl => ?_)
      refine lv_iinc (v := (x8 + 1)) (lv' := [(8, .int (x8 + 1)), (1, .long ((x1 * 31) + (((fc209 x8.toNatClampNeg)).toInt64))), (9, .int (fc209 x8.toNatClampNeg)), (0, .ref (am 38)), (3, .ref qc68), (4, .int x4), (6, .ref qc209), (7, .int x7)]) hx hb dX9_digest_250 hl (k := 7) rfl rfl (by decide) rfl (fun ls hl => ?_)
      refine lv_goto (tgt := 226) hx hb dX9_digest_253 (by decide) ?_
      exact ih σ ((x1 * 31) + (((fc209 x8.toNatClampNeg)).toInt64)) x4 x7 (x8 + 1) Nc68 fc209 nc209 hw _ _ hW hS _ _ hgc68 _ hgc209 (by omega) hdc68 hdc209 _ (lv_sub hl [3, 1, 4, 5, 6, 7, 0] rfl)
set_option maxHeartbeats 4000000 in
set_option maxRecDepth 100000 in
theorem tL_X9_digest_280 {p : Program} {l : Launch} {e : Env} {s : State} {m : MethodId} {args : Array Value} {below : List Frame} {meth : Method} {c : Code} {D : va_G} {cI cZ cG cL : ClassId} {am : Nat → Nat} (C0 : gk_F p s m args meth c cX9_digest 10 (some .long) RX9) (hK : gk_K D cI cZ cG cL s) {Q : Int64 → gk_C → Prop} {k316 : gk_C → Int64 → Int32 → Int32 → Int32 → (Nat → Option (Nat → Int32)) → Prop} (hk316 : ∀ (σ : gk_C) (x1 : Int64) (x4 : Int32) (x6 : Int32) (x7 : Int32) (Nc68 : Nat → Option (Nat → Int32)), k316 σ x1 x4 x6 x7 Nc68 → ∀ (H : Heap) (locs : List Loc), mk_V D cI cZ am σ H → va_S (mk_A am s.heap.size) s.heap H locs → ∀ (qc68 Bc68 : Nat), s.heap.size ≤ qc68 → mk_N D cI cG am qc68 Bc68 Nc68 H → ∀ (ls : Array Slot), lv_has ls 10 [(0, .ref (am 38)), (1, .long x1), (3, .ref qc68), (4, .int x4), (6, .int x6), (7, .int x7)] → W p l e rmX9_digest s m args below meth c H locs 14 1596 (MQ below (va_Ql (fun r u => Q r u) (mk_B (mk_V D cI cZ am)) (mk_A am s.heap.size)) args s 28 1782 (mk_A am s.heap.size)) (F0 m 316 ls [])) : ∀ (n : Nat) (σ : gk_C) (x1 : Int64) (x4 : Int32) (x6 : Int32) (x7 : Int32) (x8 : Int32) (Nc68 : Nat → Option (Nat → Int32)), wL_X9_digest_280 k316 n σ x1 x4 x6 x7 x8 Nc68 → ∀ (H : Heap) (locs : List Loc), mk_V D cI cZ am σ H → va_S (mk_A am s.heap.size) s.heap H locs → ∀ (qc68 Bc68 : Nat), s.heap.size ≤ qc68 → mk_N D cI cG am qc68 Bc68 Nc68 H → ∀ (ls : Array Slot), lv_has ls 10 [(0, .ref (am 38)), (1, .long x1), (3, .ref qc68), (4, .int x4), (6, .int x6), (7, .int x7), (8, .int x8)] → W p l e rmX9_digest s m args below meth c H locs 14 1596 (MQ below (va_Ql (fun r u => Q r u) (mk_B (mk_V D cI cZ am)) (mk_A am s.heap.size)) args s 28 1782 (mk_A am s.heap.size)) (F0 m 280 ls []) := by
  obtain ⟨hx, hb, hml, hown, hts, hr, hlocks⟩ := id C0
  intro n
  induction n with
  | zero => exact fun _ _ _ _ _ _ _ hw => False.elim hw
  | succ n ih =>
    intro σ x1 x4 x6 x7 x8 Nc68 hw H locs hW hS qc68 Bc68 hgc68 hdc68 ls hl
    refine lv_iload hx hb dX9_digest_280 (lv_at hl 6 rfl) ?_
    refine lv_aload_n hx hb dX9_digest_282 rfl (lv_at hl 0 rfl) ?_
    refine gk_get hx hb hts iwX9 hown hK.1 (mk_obj hW) rfl 11 (by decide) (hts _ fl_X9_25) (fun _ h9 => h9) rfl dX9_digest_283 ?_
    refine lv_icmp_ge (tgt := 316) hx hb dX9_digest_286 (by decide) (fun c286 => ?_) (fun c286 => ?_)
    · have hw := hw.1 c286
      exact hk316 σ x1 x4 x6 x7 Nc68 hw _ _ hW hS _ _ hgc68 hdc68 _ (lv_sub hl [0, 1, 2, 3, 4, 5] rfl)
    · have hw := hw.2 c286
      refine lv_lload_n hx hb dX9_digest_289 rfl (lv_at hl 1 rfl) ?_
      refine lv_ldc2 (v := 31) hx hb hown (hts _ k_X9_296) dX9_digest_290 ?_
      refine lv_lmul hx hb dX9_digest_293 ?_
      refine lv_aload_n hx hb dX9_digest_294 rfl (lv_at hl 0 rfl) ?_
      refine lv_iload hx hb dX9_digest_295 (lv_at hl 4 rfl) ?_
      refine lv_iload hx hb dX9_digest_297 (lv_at hl 5 rfl) ?_
      refine lv_iload hx hb dX9_digest_299 (lv_at hl 6 rfl) ?_
      refine lv_aload_n hx hb dX9_digest_301 rfl (lv_at hl 2 rfl) ?_
      refine lv_iload hx hb dX9_digest_302 (lv_at hl 3 rfl) ?_
      refine mk_callRi ⟨hx, hb, hml, hown, hts⟩ (c_X9_whyNow l D cI cZ cG cL am hw) (cwV 5 hts (gk_gV ml_X9_265 im_X9_whyNow se_X9_whyNow in_X9 co_X9_whyNow) rfl rfl rfl (by decide +kernel) ⟨Nat.le_of_ble_eq_true rfl, Nat.le_of_ble_eq_true rfl⟩) (gk_recv hK.1 (mk_obj hW) rfl) hW hK ⟨hdc68, trivial⟩ hS rfl hl.1 (rest := [.long (x1 * 31)]) rfl (lv_room (Nat.le_of_ble_eq_true rfl)) dX9_digest_304 ⟨Nat.le_of_ble_eq_true rfl, Nat.le_of_ble_eq_true rfl⟩ (fun r304 H locs hw hW _ hk hS => ?_)
      have hdc68 := hdc68.kept hk
      refine lv_i2l (v := (r304).toInt64) hx hb dX9_digest_307 rfl ?_
      refine lv_ladd hx hb dX9_digest_308 ?_
      refine lv_lstore_n (lv' := [(1, .long ((x1 * 31) + ((r304).toInt64))), (0, .ref (am 38)), (3, .ref qc68), (4, .int x4), (6, .int x6), (7, .int x7), (8, .int x8)]) hx hb dX9_digest_309 rfl hl (by decide) rfl (fun ls hl => ?_)
      refine lv_iinc (v := (x8 + 1)) (lv' := [(8, .int (x8 + 1)), (1, .long ((x1 * 31) + ((r304).toInt64))), (0, .ref (am 38)), (3, .ref qc68), (4, .int x4), (6, .int x6), (7, .int x7)]) hx hb dX9_digest_310 hl (k := 6) rfl rfl (by decide) rfl (fun ls hl => ?_)
      refine lv_goto (tgt := 280) hx hb dX9_digest_313 (by decide) ?_
      exact ih σ ((x1 * 31) + ((r304).toInt64)) x4 x6 x7 (x8 + 1) Nc68 hw _ _ hW hS _ _ hgc68 hdc68 _ (lv_sub hl [2, 1, 3, 4, 5, 6, 0] rfl)
set_option maxHeartbeats 4000000 in
set_option maxRecDepth 100000 in
theorem tL_X9_digest_271 {p : Program} {l : Launch} {e : Env} {s : State} {m : MethodId} {args : Array Value} {below : List Frame} {meth : Method} {c : Code} {D : va_G} {cI cZ cG cL : ClassId} {am : Nat → Nat} (C0 : gk_F p s m args meth c cX9_digest 10 (some .long) RX9) (hK : gk_K D cI cZ cG cL s) {Q : Int64 → gk_C → Prop} {k322 : gk_C → Int64 → Int32 → Int32 → (Nat → Option (Nat → Int32)) → Prop} (hk322 : ∀ (σ : gk_C) (x1 : Int64) (x4 : Int32) (x6 : Int32) (Nc68 : Nat → Option (Nat → Int32)), k322 σ x1 x4 x6 Nc68 → ∀ (H : Heap) (locs : List Loc), mk_V D cI cZ am σ H → va_S (mk_A am s.heap.size) s.heap H locs → ∀ (qc68 Bc68 : Nat), s.heap.size ≤ qc68 → mk_N D cI cG am qc68 Bc68 Nc68 H → ∀ (ls : Array Slot), lv_has ls 10 [(0, .ref (am 38)), (1, .long x1), (3, .ref qc68), (4, .int x4), (6, .int x6)] → W p l e rmX9_digest s m args below meth c H locs 14 1596 (MQ below (va_Ql (fun r u => Q r u) (mk_B (mk_V D cI cZ am)) (mk_A am s.heap.size)) args s 28 1782 (mk_A am s.heap.size)) (F0 m 322 ls [])) : ∀ (n : Nat) (σ : gk_C) (x1 : Int64) (x4 : Int32) (x6 : Int32) (x7 : Int32) (Nc68 : Nat → Option (Nat → Int32)), wL_X9_digest_271 k322 n σ x1 x4 x6 x7 Nc68 → ∀ (H : Heap) (locs : List Loc), mk_V D cI cZ am σ H → va_S (mk_A am s.heap.size) s.heap H locs → ∀ (qc68 Bc68 : Nat), s.heap.size ≤ qc68 → mk_N D cI cG am qc68 Bc68 Nc68 H → ∀ (ls : Array Slot), lv_has ls 10 [(0, .ref (am 38)), (1, .long x1), (3, .ref qc68), (4, .int x4), (6, .int x6), (7, .int x7)] → W p l e rmX9_digest s m args below meth c H locs 14 1596 (MQ below (va_Ql (fun r u => Q r u) (mk_B (mk_V D cI cZ am)) (mk_A am s.heap.size)) args s 28 1782 (mk_A am s.heap.size)) (F0 m 271 ls []) := by
  obtain ⟨hx, hb, hml, hown, hts, hr, hlocks⟩ := id C0
  intro n
  induction n with
  | zero => exact fun _ _ _ _ _ _ hw => False.elim hw
  | succ n ih =>
    intro σ x1 x4 x6 x7 Nc68 hw H locs hW hS qc68 Bc68 hgc68 hdc68 ls hl
    refine lv_iload hx hb dX9_digest_271 (lv_at hl 5 rfl) ?_
    refine lv_iconst (v := 5) hx hb dX9_digest_273 (by decide) ?_
    refine lv_icmp_ge (tgt := 322) hx hb dX9_digest_274 (by decide) (fun c274 => ?_) (fun c274 => ?_)
    · have hw := hw.1 c274
      exact hk322 σ x1 x4 x6 Nc68 hw _ _ hW hS _ _ hgc68 hdc68 _ (lv_sub hl [0, 1, 2, 3, 4] rfl)
    · have hw := hw.2 c274
      refine lv_iconst (v := 0) hx hb dX9_digest_277 (by decide) ?_
      refine lv_istore (lv' := [(8, .int 0), (0, .ref (am 38)), (1, .long x1), (3, .ref qc68), (4, .int x4), (6, .int x6), (7, .int x7)]) hx hb dX9_digest_278 hl (by decide) rfl (fun ls hl => ?_)
      obtain ⟨n280, hw⟩ := hw
      refine tL_X9_digest_280 C0 hK (hk316 := ?_) n280 σ x1 x4 x6 x7 0 Nc68 hw _ _ hW hS _ _ hgc68 hdc68 _ (lv_sub hl [1, 2, 3, 4, 5, 6, 0] rfl)
      · intro σ x1 x4 x6 x7 Nc68 hw H locs hW hS qc68 Bc68 hgc68 hdc68 ls hl
        refine lv_iinc (v := (x7 + 1)) (lv' := [(7, .int (x7 + 1)), (0, .ref (am 38)), (1, .long x1), (3, .ref qc68), (4, .int x4), (6, .int x6)]) hx hb dX9_digest_316 hl (k := 5) rfl rfl (by decide) rfl (fun ls hl => ?_)
        refine lv_goto (tgt := 271) hx hb dX9_digest_319 (by decide) ?_
        exact ih σ x1 x4 x6 (x7 + 1) Nc68 hw _ _ hW hS _ _ hgc68 hdc68 _ (lv_sub hl [1, 2, 3, 4, 5, 0] rfl)
set_option maxHeartbeats 4000000 in
set_option maxRecDepth 100000 in
theorem tL_X9_digest_259 {p : Program} {l : Launch} {e : Env} {s : State} {m : MethodId} {args : Array Value} {below : List Frame} {meth : Method} {c : Code} {D : va_G} {cI cZ cG cL : ClassId} {am : Nat → Nat} (C0 : gk_F p s m args meth c cX9_digest 10 (some .long) RX9) (hK : gk_K D cI cZ cG cL s) {Q : Int64 → gk_C → Prop} {k328 : gk_C → Int64 → Prop} (hk328 : ∀ (σ : gk_C) (x1 : Int64), k328 σ x1 → ∀ (H : Heap) (locs : List Loc), mk_V D cI cZ am σ H → va_S (mk_A am s.heap.size) s.heap H locs → ∀ (ls : Array Slot), lv_has ls 10 [(0, .ref (am 38)), (1, .long x1)] → W p l e rmX9_digest s m args below meth c H locs 14 1596 (MQ below (va_Ql (fun r u => Q r u) (mk_B (mk_V D cI cZ am)) (mk_A am s.heap.size)) args s 28 1782 (mk_A am s.heap.size)) (F0 m 328 ls [])) : ∀ (n : Nat) (σ : gk_C) (x1 : Int64) (x4 : Int32) (x6 : Int32) (Nc68 : Nat → Option (Nat → Int32)), wL_X9_digest_259 k328 n σ x1 x4 x6 Nc68 → ∀ (H : Heap) (locs : List Loc), mk_V D cI cZ am σ H → va_S (mk_A am s.heap.size) s.heap H locs → ∀ (qc68 Bc68 : Nat), s.heap.size ≤ qc68 → mk_N D cI cG am qc68 Bc68 Nc68 H → ∀ (ls : Array Slot), lv_has ls 10 [(0, .ref (am 38)), (1, .long x1), (3, .ref qc68), (4, .int x4), (6, .int x6)] → W p l e rmX9_digest s m args below meth c H locs 14 1596 (MQ below (va_Ql (fun r u => Q r u) (mk_B (mk_V D cI cZ am)) (mk_A am s.heap.size)) args s 28 1782 (mk_A am s.heap.size)) (F0 m 259 ls []) := by
  obtain ⟨hx, hb, hml, hown, hts, hr, hlocks⟩ := id C0
  intro n
  induction n with
  | zero => exact fun _ _ _ _ _ hw => False.elim hw
  | succ n ih =>
    intro σ x1 x4 x6 Nc68 hw H locs hW hS qc68 Bc68 hgc68 hdc68 ls hl
    refine lv_iload hx hb dX9_digest_259 (lv_at hl 4 rfl) ?_
    refine lv_aload_n hx hb dX9_digest_261 rfl (lv_at hl 0 rfl) ?_
    refine gk_get hx hb hts iwX9 hown hK.1 (mk_obj hW) rfl 3 (by decide) (hts _ fl_X9_105) (fun _ h9 => h9) rfl dX9_digest_262 ?_
    refine lv_icmp_ge (tgt := 328) hx hb dX9_digest_265 (by decide) (fun c265 => ?_) (fun c265 => ?_)
    · have hw := hw.1 c265
      exact hk328 σ x1 hw _ _ hW hS  _ (lv_sub hl [0, 1] rfl)
    · have hw := hw.2 c265
      refine lv_iconst (v := 0) hx hb dX9_digest_268 (by decide) ?_
      refine lv_istore (lv' := [(7, .int 0), (0, .ref (am 38)), (1, .long x1), (3, .ref qc68), (4, .int x4), (6, .int x6)]) hx hb dX9_digest_269 hl (by decide) rfl (fun ls hl => ?_)
      obtain ⟨n271, hw⟩ := hw
      refine tL_X9_digest_271 C0 hK (hk322 := ?_) n271 σ x1 x4 x6 0 Nc68 hw _ _ hW hS _ _ hgc68 hdc68 _ (lv_sub hl [1, 2, 3, 4, 5, 0] rfl)
      · intro σ x1 x4 x6 Nc68 hw H locs hW hS qc68 Bc68 hgc68 hdc68 ls hl
        refine lv_iinc (v := (x6 + 1)) (lv' := [(6, .int (x6 + 1)), (0, .ref (am 38)), (1, .long x1), (3, .ref qc68), (4, .int x4)]) hx hb dX9_digest_322 hl (k := 4) rfl rfl (by decide) rfl (fun ls hl => ?_)
        refine lv_goto (tgt := 259) hx hb dX9_digest_325 (by decide) ?_
        exact ih σ x1 x4 (x6 + 1) Nc68 hw _ _ hW hS _ _ hgc68 hdc68 _ (lv_sub hl [1, 2, 3, 4, 0] rfl)
set_option maxHeartbeats 4000000 in
set_option maxRecDepth 100000 in
theorem tL_X9_digest_342 {p : Program} {l : Launch} {e : Env} {s : State} {m : MethodId} {args : Array Value} {below : List Frame} {meth : Method} {c : Code} {D : va_G} {cI cZ cG cL : ClassId} {am : Nat → Nat} (C0 : gk_F p s m args meth c cX9_digest 10 (some .long) RX9) (hK : gk_K D cI cZ cG cL s) {Q : Int64 → gk_C → Prop} {k372 : gk_C → Int64 → Prop} (hk372 : ∀ (σ : gk_C) (x1 : Int64), k372 σ x1 → ∀ (H : Heap) (locs : List Loc), mk_V D cI cZ am σ H → va_S (mk_A am s.heap.size) s.heap H locs → ∀ (ls : Array Slot), lv_has ls 10 [(0, .ref (am 38)), (1, .long x1)] → W p l e rmX9_digest s m args below meth c H locs 14 1596 (MQ below (va_Ql (fun r u => Q r u) (mk_B (mk_V D cI cZ am)) (mk_A am s.heap.size)) args s 28 1782 (mk_A am s.heap.size)) (F0 m 372 ls [])) : ∀ (n : Nat) (σ : gk_C) (x1 : Int64) (x7 : Int32) (x8 : Int32), wL_X9_digest_342 k372 n σ x1 x7 x8 → ∀ (H : Heap) (locs : List Loc), mk_V D cI cZ am σ H → va_S (mk_A am s.heap.size) s.heap H locs → ∀ (ls : Array Slot), lv_has ls 10 [(0, .ref (am 38)), (1, .long x1), (6, .ref (am 33)), (7, .int x7), (8, .int x8)] → W p l e rmX9_digest s m args below meth c H locs 14 1596 (MQ below (va_Ql (fun r u => Q r u) (mk_B (mk_V D cI cZ am)) (mk_A am s.heap.size)) args s 28 1782 (mk_A am s.heap.size)) (F0 m 342 ls []) := by
  obtain ⟨hx, hb, hml, hown, hts, hr, hlocks⟩ := id C0
  intro n
  induction n with
  | zero => exact fun _ _ _ _ hw => False.elim hw
  | succ n ih =>
    intro σ x1 x7 x8 hw H locs hW hS  ls hl
    refine lv_iload hx hb dX9_digest_342 (lv_at hl 4 rfl) ?_
    refine lv_iload hx hb dX9_digest_344 (lv_at hl 3 rfl) ?_
    refine lv_icmp_ge (tgt := 372) hx hb dX9_digest_346 (by decide) (fun c346 => ?_) (fun c346 => ?_)
    · have hw := hw.1 c346
      exact hk372 σ x1 hw _ _ hW hS  _ (lv_sub hl [0, 1] rfl)
    · have hw := hw.2 c346
      refine lv_aload hx hb dX9_digest_349 (lv_at hl 2 rfl) ?_
      refine lv_iload hx hb dX9_digest_351 (lv_at hl 4 rfl) ?_
      obtain ⟨hin, hw⟩ := hw
      refine gk_iald hx hb hK.1 0 (mk_arr hW (k := 33) (by decide) (by decide) (by decide)) rfl hin dX9_digest_353 ?_
      refine lv_istore (lv' := [(9, .int (σ.1 33 x8.toNatClampNeg)), (0, .ref (am 38)), (1, .long x1), (6, .ref (am 33)), (7, .int x7), (8, .int x8)]) hx hb dX9_digest_354 hl (by decide) rfl (fun ls hl => ?_)
      refine lv_lload_n hx hb dX9_digest_356 rfl (lv_at hl 2 rfl) ?_
      refine lv_ldc2 (v := 31) hx hb hown (hts _ k_X9_296) dX9_digest_357 ?_
      refine lv_lmul hx hb dX9_digest_360 ?_
      refine lv_iload hx hb dX9_digest_361 (lv_at hl 0 rfl) ?_
      refine lv_i2l (v := ((σ.1 33 x8.toNatClampNeg)).toInt64) hx hb dX9_digest_363 rfl ?_
      refine lv_ladd hx hb dX9_digest_364 ?_
      refine lv_lstore_n (lv' := [(1, .long ((x1 * 31) + (((σ.1 33 x8.toNatClampNeg)).toInt64))), (9, .int (σ.1 33 x8.toNatClampNeg)), (0, .ref (am 38)), (6, .ref (am 33)), (7, .int x7), (8, .int x8)]) hx hb dX9_digest_365 rfl hl (by decide) rfl (fun ls hl => ?_)
      refine lv_iinc (v := (x8 + 1)) (lv' := [(8, .int (x8 + 1)), (1, .long ((x1 * 31) + (((σ.1 33 x8.toNatClampNeg)).toInt64))), (9, .int (σ.1 33 x8.toNatClampNeg)), (0, .ref (am 38)), (6, .ref (am 33)), (7, .int x7)]) hx hb dX9_digest_366 hl (k := 5) rfl rfl (by decide) rfl (fun ls hl => ?_)
      refine lv_goto (tgt := 342) hx hb dX9_digest_369 (by decide) ?_
      exact ih σ ((x1 * 31) + (((σ.1 33 x8.toNatClampNeg)).toInt64)) x7 (x8 + 1) hw _ _ hW hS  _ (lv_sub hl [3, 1, 4, 5, 0] rfl)
set_option maxHeartbeats 4000000 in
set_option maxRecDepth 100000 in
theorem tL_X9_digest_387 {p : Program} {l : Launch} {e : Env} {s : State} {m : MethodId} {args : Array Value} {below : List Frame} {meth : Method} {c : Code} {D : va_G} {cI cZ cG cL : ClassId} {am : Nat → Nat} (C0 : gk_F p s m args meth c cX9_digest 10 (some .long) RX9) (hK : gk_K D cI cZ cG cL s) {Q : Int64 → gk_C → Prop} {k423 : gk_C → Int64 → Int32 → Prop} (hk423 : ∀ (σ : gk_C) (x1 : Int64) (x6 : Int32), k423 σ x1 x6 → ∀ (H : Heap) (locs : List Loc), mk_V D cI cZ am σ H → va_S (mk_A am s.heap.size) s.heap H locs → ∀ (ls : Array Slot), lv_has ls 10 [(0, .ref (am 38)), (1, .long x1), (6, .int x6)] → W p l e rmX9_digest s m args below meth c H locs 14 1596 (MQ below (va_Ql (fun r u => Q r u) (mk_B (mk_V D cI cZ am)) (mk_A am s.heap.size)) args s 28 1782 (mk_A am s.heap.size)) (F0 m 423 ls [])) : ∀ (n : Nat) (σ : gk_C) (x1 : Int64) (x6 : Int32) (x7 : Int32), wL_X9_digest_387 k423 n σ x1 x6 x7 → ∀ (H : Heap) (locs : List Loc), mk_V D cI cZ am σ H → va_S (mk_A am s.heap.size) s.heap H locs → ∀ (ls : Array Slot), lv_has ls 10 [(0, .ref (am 38)), (1, .long x1), (6, .int x6), (7, .int x7)] → W p l e rmX9_digest s m args below meth c H locs 14 1596 (MQ below (va_Ql (fun r u => Q r u) (mk_B (mk_V D cI cZ am)) (mk_A am s.heap.size)) args s 28 1782 (mk_A am s.heap.size)) (F0 m 387 ls []) := by
  obtain ⟨hx, hb, hml, hown, hts, hr, hlocks⟩ := id C0
  intro n
  induction n with
  | zero => exact fun _ _ _ _ hw => False.elim hw
  | succ n ih =>
    intro σ x1 x6 x7 hw H locs hW hS  ls hl
    refine lv_iload hx hb dX9_digest_387 (lv_at hl 3 rfl) ?_
    refine lv_aload_n hx hb dX9_digest_389 rfl (lv_at hl 0 rfl) ?_
    refine gk_get hx hb hts iwX9 hown hK.1 (mk_obj hW) rfl 11 (by decide) (hts _ fl_X9_25) (fun _ h9 => h9) rfl dX9_digest_390 ?_
    refine lv_icmp_ge (tgt := 423) hx hb dX9_digest_393 (by decide) (fun c393 => ?_) (fun c393 => ?_)
    · have hw := hw.1 c393
      exact hk423 σ x1 x6 hw _ _ hW hS  _ (lv_sub hl [0, 1, 2] rfl)
    · have hw := hw.2 c393
      refine lv_lload_n hx hb dX9_digest_396 rfl (lv_at hl 1 rfl) ?_
      refine lv_ldc2 (v := 31) hx hb hown (hts _ k_X9_296) dX9_digest_397 ?_
      refine lv_lmul hx hb dX9_digest_400 ?_
      refine lv_aload_n hx hb dX9_digest_401 rfl (lv_at hl 0 rfl) ?_
      refine gk_get hx hb hts iwX9 hown hK.1 (mk_obj hW) rfl 34 (by decide) (hts _ fl_X9_90) (fun _ h9 => h9) rfl dX9_digest_402 ?_
      refine lv_iload hx hb dX9_digest_405 (lv_at hl 2 rfl) ?_
      refine lv_bipush (v := 24) hx hb dX9_digest_407 (by decide) ?_
      refine lv_imul hx hb dX9_digest_409 ?_
      refine lv_iload hx hb dX9_digest_410 (lv_at hl 3 rfl) ?_
      refine lv_iadd hx hb dX9_digest_412 ?_
      obtain ⟨hin, hw⟩ := hw
      refine gk_iald hx hb hK.1 0 (mk_arr hW (k := 34) (by decide) (by decide) (by decide)) rfl hin dX9_digest_413 ?_
      refine lv_i2l (v := ((σ.1 34 ((x6 * 24) + x7).toNatClampNeg)).toInt64) hx hb dX9_digest_414 rfl ?_
      refine lv_ladd hx hb dX9_digest_415 ?_
      refine lv_lstore_n (lv' := [(1, .long ((x1 * 31) + (((σ.1 34 ((x6 * 24) + x7).toNatClampNeg)).toInt64))), (0, .ref (am 38)), (6, .int x6), (7, .int x7)]) hx hb dX9_digest_416 rfl hl (by decide) rfl (fun ls hl => ?_)
      refine lv_iinc (v := (x7 + 1)) (lv' := [(7, .int (x7 + 1)), (1, .long ((x1 * 31) + (((σ.1 34 ((x6 * 24) + x7).toNatClampNeg)).toInt64))), (0, .ref (am 38)), (6, .int x6)]) hx hb dX9_digest_417 hl (k := 3) rfl rfl (by decide) rfl (fun ls hl => ?_)
      refine lv_goto (tgt := 387) hx hb dX9_digest_420 (by decide) ?_
      exact ih σ ((x1 * 31) + (((σ.1 34 ((x6 * 24) + x7).toNatClampNeg)).toInt64)) x6 (x7 + 1) hw _ _ hW hS  _ (lv_sub hl [2, 1, 3, 0] rfl)
set_option maxHeartbeats 4000000 in
set_option maxRecDepth 100000 in
theorem tL_X9_digest_375 {p : Program} {l : Launch} {e : Env} {s : State} {m : MethodId} {args : Array Value} {below : List Frame} {meth : Method} {c : Code} {D : va_G} {cI cZ cG cL : ClassId} {am : Nat → Nat} (C0 : gk_F p s m args meth c cX9_digest 10 (some .long) RX9) (hK : gk_K D cI cZ cG cL s) {Q : Int64 → gk_C → Prop} {k429 : gk_C → Int64 → Prop} (hk429 : ∀ (σ : gk_C) (x1 : Int64), k429 σ x1 → ∀ (H : Heap) (locs : List Loc), mk_V D cI cZ am σ H → va_S (mk_A am s.heap.size) s.heap H locs → ∀ (ls : Array Slot), lv_has ls 10 [(0, .ref (am 38)), (1, .long x1)] → W p l e rmX9_digest s m args below meth c H locs 14 1596 (MQ below (va_Ql (fun r u => Q r u) (mk_B (mk_V D cI cZ am)) (mk_A am s.heap.size)) args s 28 1782 (mk_A am s.heap.size)) (F0 m 429 ls [])) : ∀ (n : Nat) (σ : gk_C) (x1 : Int64) (x6 : Int32), wL_X9_digest_375 k429 n σ x1 x6 → ∀ (H : Heap) (locs : List Loc), mk_V D cI cZ am σ H → va_S (mk_A am s.heap.size) s.heap H locs → ∀ (ls : Array Slot), lv_has ls 10 [(0, .ref (am 38)), (1, .long x1), (6, .int x6)] → W p l e rmX9_digest s m args below meth c H locs 14 1596 (MQ below (va_Ql (fun r u => Q r u) (mk_B (mk_V D cI cZ am)) (mk_A am s.heap.size)) args s 28 1782 (mk_A am s.heap.size)) (F0 m 375 ls []) := by
  obtain ⟨hx, hb, hml, hown, hts, hr, hlocks⟩ := id C0
  intro n
  induction n with
  | zero => exact fun _ _ _ hw => False.elim hw
  | succ n ih =>
    intro σ x1 x6 hw H locs hW hS  ls hl
    refine lv_iload hx hb dX9_digest_375 (lv_at hl 2 rfl) ?_
    refine lv_aload_n hx hb dX9_digest_377 rfl (lv_at hl 0 rfl) ?_
    refine gk_get hx hb hts iwX9 hown hK.1 (mk_obj hW) rfl 3 (by decide) (hts _ fl_X9_105) (fun _ h9 => h9) rfl dX9_digest_378 ?_
    refine lv_icmp_ge (tgt := 429) hx hb dX9_digest_381 (by decide) (fun c381 => ?_) (fun c381 => ?_)
    · have hw := hw.1 c381
      exact hk429 σ x1 hw _ _ hW hS  _ (lv_sub hl [0, 1] rfl)
    · have hw := hw.2 c381
      refine lv_iconst (v := 0) hx hb dX9_digest_384 (by decide) ?_
      refine lv_istore (lv' := [(7, .int 0), (0, .ref (am 38)), (1, .long x1), (6, .int x6)]) hx hb dX9_digest_385 hl (by decide) rfl (fun ls hl => ?_)
      obtain ⟨n387, hw⟩ := hw
      refine tL_X9_digest_387 C0 hK (hk423 := ?_) n387 σ x1 x6 0 hw _ _ hW hS  _ (lv_sub hl [1, 2, 3, 0] rfl)
      · intro σ x1 x6 hw H locs hW hS  ls hl
        refine lv_iinc (v := (x6 + 1)) (lv' := [(6, .int (x6 + 1)), (0, .ref (am 38)), (1, .long x1)]) hx hb dX9_digest_423 hl (k := 2) rfl rfl (by decide) rfl (fun ls hl => ?_)
        refine lv_goto (tgt := 375) hx hb dX9_digest_426 (by decide) ?_
        exact ih σ x1 (x6 + 1) hw _ _ hW hS  _ (lv_sub hl [1, 2, 0] rfl)
set_option maxHeartbeats 4000000 in
set_option maxRecDepth 100000 in
theorem c_X9_digest (l : Launch) (D : va_G) (cI cZ cG cL : ClassId) (am : Nat → Nat) {σ : gk_C} {Q : Int64 → gk_C → Prop} {sz : Nat} (hw : w_X9_digest σ  Q) : Met l yX9_digest wsX9_digest rmX9_digest (mk_Pc (mk_V D cI cZ am) D cI cZ cG cL [.ref (am 38)] sz σ (fun _ => True)) (va_Ql (fun r u => Q r u) (mk_B (mk_V D cI cZ am)) (mk_A am sz)) 28 1782 (mk_A am sz) := by
  refine Met.ofW (cc := cX9_digest) (maxL := 10) (ret := (some .long)) (by decide) rfl ?_
  intro p e s m args below meth c s₁ B hml0 hv0
  obtain ⟨rfl, hsz, hW, hK, hX⟩ := hv0
  subst hsz
  have C0 : gk_F p s m ([.ref (am 38)] : List Value).toArray meth c cX9_digest 10 (some .long) RX9 := ⟨B.exec, B.bytes, hml0, findClass_of_methodNamed B.named, fun w hw => atoms_spec (ws := wsX9_digest) B.pre w (List.mem_cons_of_mem _ hw), B.returns, B.notSynchronized⟩
  obtain ⟨hx, hb, hml, hown, hts, hr, hlocks⟩ := id C0
  have hS : va_S (mk_A am s.heap.size) s.heap s.heap [] := va_S.rf
  have hl := lv_entry ([.ref (am 38)]) (n := 10) (Nat.le_of_ble_eq_true rfl)
  rw [lg_entry_eq]
  generalize (lg_sl ([.ref (am 38)]) ++ List.replicate (10 - (lg_sl ([.ref (am 38)])).length) Slot.unset).toArray = ls at hl ⊢
  have hl : lv_has ls 10 [(0, .ref (am 38))] := hl
  show W p l e rmX9_digest s m _ below meth c s.heap [] 0 0 _ _
  refine lv_aload_n hx hb dX9_digest_0 rfl (lv_at hl 0 rfl) ?_
  refine lv_iconst (v := 0) hx hb dX9_digest_1 (by decide) ?_
  refine gk_putf (ty := .int) (v := .int 0) hx hb hts iwX9 tyX9 tyX9_ok nmX9 hown hK.1 hS (mk_A.in List.mem_cons_self) (mk_obj hW) rfl 0 (by decide) (hts _ fl_X9_102) (fun _ h9 => h9) rfl (by decide +kernel) rfl rfl (Nat.le_of_ble_eq_true rfl) dX9_digest_2 (fun H locs h1 _ oq hS => ?_)
  have hW := hW.setS (i := 0) (v := 0) h1 oq
  refine lv_ldc2 (v := 79949) hx hb hown (hts _ k_X9_294) dX9_digest_5 ?_
  refine lv_aload_n hx hb dX9_digest_8 rfl (lv_at hl 0 rfl) ?_
  refine gk_get hx hb hts iwX9 hown hK.1 (mk_obj hW) rfl 3 (by decide) (hts _ fl_X9_105) (fun _ h9 => h9) rfl dX9_digest_9 ?_
  refine lv_i2l (v := (((gk_s σ 0 0).2 3)).toInt64) hx hb dX9_digest_12 rfl ?_
  refine lv_ladd hx hb dX9_digest_13 ?_
  refine lv_ldc2 (v := 31) hx hb hown (hts _ k_X9_296) dX9_digest_14 ?_
  refine lv_lmul hx hb dX9_digest_17 ?_
  refine lv_aload_n hx hb dX9_digest_18 rfl (lv_at hl 0 rfl) ?_
  refine gk_get hx hb hts iwX9 hown hK.1 (mk_obj hW) rfl 7 (by decide) (hts _ fl_X9_112) (fun _ h9 => h9) rfl dX9_digest_19 ?_
  refine lv_i2l (v := (((gk_s σ 0 0).2 7)).toInt64) hx hb dX9_digest_22 rfl ?_
  refine lv_ladd hx hb dX9_digest_23 ?_
  refine lv_ldc2 (v := 31) hx hb hown (hts _ k_X9_296) dX9_digest_24 ?_
  refine lv_lmul hx hb dX9_digest_27 ?_
  refine lv_aload_n hx hb dX9_digest_28 rfl (lv_at hl 0 rfl) ?_
  refine gk_get hx hb hts iwX9 hown hK.1 (mk_obj hW) rfl 11 (by decide) (hts _ fl_X9_25) (fun _ h9 => h9) rfl dX9_digest_29 ?_
  refine lv_i2l (v := (((gk_s σ 0 0).2 11)).toInt64) hx hb dX9_digest_32 rfl ?_
  refine lv_ladd hx hb dX9_digest_33 ?_
  refine lv_ldc2 (v := 31) hx hb hown (hts _ k_X9_296) dX9_digest_34 ?_
  refine lv_lmul hx hb dX9_digest_37 ?_
  refine lv_aload_n hx hb dX9_digest_38 rfl (lv_at hl 0 rfl) ?_
  refine gk_get hx hb hts iwX9 hown hK.1 (mk_obj hW) rfl 16 (by decide) (hts _ fl_X9_165) (fun _ h9 => h9) rfl dX9_digest_39 ?_
  refine lv_i2l (v := (((gk_s σ 0 0).2 16)).toInt64) hx hb dX9_digest_42 rfl ?_
  refine lv_ladd hx hb dX9_digest_43 ?_
  refine lv_ldc2 (v := 31) hx hb hown (hts _ k_X9_296) dX9_digest_44 ?_
  refine lv_lmul hx hb dX9_digest_47 ?_
  refine lv_aload_n hx hb dX9_digest_48 rfl (lv_at hl 0 rfl) ?_
  refine gk_get hx hb hts iwX9 hown hK.1 (mk_obj hW) rfl 26 (by decide) (hts _ fl_X9_233) (fun _ h9 => h9) rfl dX9_digest_49 ?_
  refine lv_i2l (v := (((gk_s σ 0 0).2 26)).toInt64) hx hb dX9_digest_52 rfl ?_
  refine lv_ladd hx hb dX9_digest_53 ?_
  refine lv_lstore_n (lv' := [(1, .long (((((((((79949 + ((((gk_s σ 0 0).2 3)).toInt64)) * 31) + ((((gk_s σ 0 0).2 7)).toInt64)) * 31) + ((((gk_s σ 0 0).2 11)).toInt64)) * 31) + ((((gk_s σ 0 0).2 16)).toInt64)) * 31) + ((((gk_s σ 0 0).2 26)).toInt64))), (0, .ref (am 38))]) hx hb dX9_digest_54 rfl hl (by decide) rfl (fun ls hl => ?_)
  refine lv_lload_n hx hb dX9_digest_55 rfl (lv_at hl 0 rfl) ?_
  refine lv_ldc2 (v := 31) hx hb hown (hts _ k_X9_296) dX9_digest_56 ?_
  refine lv_lmul hx hb dX9_digest_59 ?_
  refine lv_aload_n hx hb dX9_digest_60 rfl (lv_at hl 1 rfl) ?_
  refine gk_get hx hb hts iwX9 hown hK.1 (mk_obj hW) rfl 1 (by decide) (hts _ fl_X9_174) (fun _ h9 => h9) rfl dX9_digest_61 ?_
  refine lv_i2l (v := (((gk_s σ 0 0).2 1)).toInt64) hx hb dX9_digest_64 rfl ?_
  refine lv_ladd hx hb dX9_digest_65 ?_
  refine lv_lstore_n (lv' := [(1, .long (((((((((((79949 + ((((gk_s σ 0 0).2 3)).toInt64)) * 31) + ((((gk_s σ 0 0).2 7)).toInt64)) * 31) + ((((gk_s σ 0 0).2 11)).toInt64)) * 31) + ((((gk_s σ 0 0).2 16)).toInt64)) * 31) + ((((gk_s σ 0 0).2 26)).toInt64)) * 31) + ((((gk_s σ 0 0).2 1)).toInt64))), (0, .ref (am 38))]) hx hb dX9_digest_66 rfl hl (by decide) rfl (fun ls hl => ?_)
  refine lv_aload_n hx hb dX9_digest_67 rfl (lv_at hl 1 rfl) ?_
  refine mk_callVb ⟨hx, hb, hml, hown, hts⟩ (c_X9_allNears l D cI cZ cG cL am hw) (cwV 0 hts (gk_gV ml_X9_247 im_X9_allNears se_X9_allNears in_X9 co_X9_allNears) rfl rfl rfl (by decide +kernel) ⟨Nat.le_of_ble_eq_true rfl, Nat.le_of_ble_eq_true rfl⟩) (gk_recv hK.1 (mk_obj hW) rfl) hW hK trivial hS rfl hl.1 (rest := []) rfl (lv_room (Nat.le_of_ble_eq_true rfl)) dX9_digest_68 ⟨Nat.le_of_ble_eq_true rfl, Nat.le_of_ble_eq_true rfl⟩ (fun Nc68 qc68 H locs hw hW hdc68 hb0 hgc68 _ hk hS => ?_)
  refine lv_astore_n (lv' := [(3, .ref qc68), (1, .long (((((((((((79949 + ((((gk_s σ 0 0).2 3)).toInt64)) * 31) + ((((gk_s σ 0 0).2 7)).toInt64)) * 31) + ((((gk_s σ 0 0).2 11)).toInt64)) * 31) + ((((gk_s σ 0 0).2 16)).toInt64)) * 31) + ((((gk_s σ 0 0).2 26)).toInt64)) * 31) + ((((gk_s σ 0 0).2 1)).toInt64))), (0, .ref (am 38))]) hx hb dX9_digest_71 rfl hl (by decide) rfl (fun ls hl => ?_)
  refine lv_aload_n hx hb dX9_digest_72 rfl (lv_at hl 2 rfl) ?_
  refine lv_aload_n hx hb dX9_digest_73 rfl (lv_at hl 0 rfl) ?_
  refine lv_aload_n hx hb dX9_digest_74 rfl (lv_at hl 2 rfl) ?_
  refine gk_get hx hb hts iwX9 hown hK.1 (mk_obj hW) rfl 2 (by decide) (hts _ fl_X9_171) (fun _ h9 => h9) rfl dX9_digest_75 ?_
  refine mk_callRi ⟨hx, hb, hml, hown, hts⟩ (c_X9_good l D cI cZ cG cL am hw) (cwV 2 hts (gk_gV ml_X9_251 im_X9_good se_X9_good in_X9 co_X9_good) rfl rfl rfl (by decide +kernel) ⟨Nat.le_of_ble_eq_true rfl, Nat.le_of_ble_eq_true rfl⟩) (gk_recv hK.1 (mk_obj hW) rfl) hW hK ⟨hdc68, trivial⟩ hS rfl hl.1 (rest := []) rfl (lv_room (Nat.le_of_ble_eq_true rfl)) dX9_digest_78 ⟨Nat.le_of_ble_eq_true rfl, Nat.le_of_ble_eq_true rfl⟩ (fun r78 H locs hw hW _ hk hS => ?_)
  have hdc68 := hdc68.kept hk
  refine lv_istore (lv' := [(4, .int r78), (3, .ref qc68), (1, .long (((((((((((79949 + ((((gk_s σ 0 0).2 3)).toInt64)) * 31) + ((((gk_s σ 0 0).2 7)).toInt64)) * 31) + ((((gk_s σ 0 0).2 11)).toInt64)) * 31) + ((((gk_s σ 0 0).2 16)).toInt64)) * 31) + ((((gk_s σ 0 0).2 26)).toInt64)) * 31) + ((((gk_s σ 0 0).2 1)).toInt64))), (0, .ref (am 38))]) hx hb dX9_digest_81 hl (by decide) rfl (fun ls hl => ?_)
  refine lv_iconst (v := 0) hx hb dX9_digest_83 (by decide) ?_
  refine lv_istore (lv' := [(5, .int 0), (4, .int r78), (3, .ref qc68), (1, .long (((((((((((79949 + ((((gk_s σ 0 0).2 3)).toInt64)) * 31) + ((((gk_s σ 0 0).2 7)).toInt64)) * 31) + ((((gk_s σ 0 0).2 11)).toInt64)) * 31) + ((((gk_s σ 0 0).2 16)).toInt64)) * 31) + ((((gk_s σ 0 0).2 26)).toInt64)) * 31) + ((((gk_s σ 0 0).2 1)).toInt64))), (0, .ref (am 38))]) hx hb dX9_digest_84 hl (by decide) rfl (fun ls hl => ?_)
  obtain ⟨n86, hw⟩ := hw
  refine tL_X9_digest_86 C0 hK (hk137 := ?_) n86 (gk_s σ 0 0) (((((((((((79949 + ((((gk_s σ 0 0).2 3)).toInt64)) * 31) + ((((gk_s σ 0 0).2 7)).toInt64)) * 31) + ((((gk_s σ 0 0).2 11)).toInt64)) * 31) + ((((gk_s σ 0 0).2 16)).toInt64)) * 31) + ((((gk_s σ 0 0).2 26)).toInt64)) * 31) + ((((gk_s σ 0 0).2 1)).toInt64)) r78 0 Nc68 hw _ _ hW hS _ _ hgc68 hdc68 _ (lv_sub hl [4, 3, 2, 1, 0] rfl)
  · intro σ x1 x4 Nc68 hw H locs hW hS qc68 Bc68 hgc68 hdc68 ls hl
    refine lv_iconst (v := 0) hx hb dX9_digest_137 (by decide) ?_
    refine lv_istore (lv' := [(5, .int 0), (0, .ref (am 38)), (1, .long x1), (3, .ref qc68), (4, .int x4)]) hx hb dX9_digest_138 hl (by decide) rfl (fun ls hl => ?_)
    obtain ⟨n140, hw⟩ := hw
    refine tL_X9_digest_140 C0 hK (hk170 := ?_) n140 σ x1 x4 0 Nc68 hw _ _ hW hS _ _ hgc68 hdc68 _ (lv_sub hl [1, 2, 3, 4, 0] rfl)
    · intro σ x1 x4 Nc68 hw H locs hW hS qc68 Bc68 hgc68 hdc68 ls hl
      refine lv_iconst (v := 0) hx hb dX9_digest_170 (by decide) ?_
      refine lv_istore (lv' := [(5, .int 0), (0, .ref (am 38)), (1, .long x1), (3, .ref qc68), (4, .int x4)]) hx hb dX9_digest_171 hl (by decide) rfl (fun ls hl => ?_)
      obtain ⟨n173, hw⟩ := hw
      refine tL_X9_digest_173 C0 hK (hk203 := ?_) n173 σ x1 x4 0 Nc68 hw _ _ hW hS _ _ hgc68 hdc68 _ (lv_sub hl [1, 2, 3, 4, 0] rfl)
      · intro σ x1 x4 Nc68 hw H locs hW hS qc68 Bc68 hgc68 hdc68 ls hl
        refine lv_aload_n hx hb dX9_digest_203 rfl (lv_at hl 0 rfl) ?_
        refine lv_aload_n hx hb dX9_digest_204 rfl (lv_at hl 2 rfl) ?_
        refine lv_aload_n hx hb dX9_digest_205 rfl (lv_at hl 0 rfl) ?_
        refine gk_get hx hb hts iwX9 hown hK.1 (mk_obj hW) rfl 2 (by decide) (hts _ fl_X9_171) (fun _ h9 => h9) rfl dX9_digest_206 ?_
        refine mk_callVt ⟨hx, hb, hml, hown, hts⟩ (c_X9_table l D cI cZ cG cL am hw) (cwV 2 hts (gk_gV ml_X9_286 im_X9_table se_X9_table in_X9 co_X9_table) rfl rfl rfl (by decide +kernel) ⟨Nat.le_of_ble_eq_true rfl, Nat.le_of_ble_eq_true rfl⟩) (gk_recv hK.1 (mk_obj hW) rfl) hW hK ⟨hdc68, trivial⟩ hS rfl hl.1 (rest := []) rfl (lv_room (Nat.le_of_ble_eq_true rfl)) dX9_digest_209 ⟨Nat.le_of_ble_eq_true rfl, Nat.le_of_ble_eq_true rfl⟩ (fun nc209 fc209 qc209 H locs hw hW hdc209 hb0 hgc209 _ hk hS => ?_)
        have hlc68_c209 : qc68 < qc209 := Nat.lt_of_lt_of_le hdc68.lt hb0
        have hdc68 := hdc68.kept hk
        refine lv_astore (lv' := [(5, .ref qc209), (0, .ref (am 38)), (1, .long x1), (3, .ref qc68), (4, .int x4)]) hx hb dX9_digest_212 hl (by decide) rfl (fun ls hl => ?_)
        refine lv_aload hx hb dX9_digest_214 (lv_at hl 0 rfl) ?_
        refine lv_astore (lv' := [(6, .ref qc209), (5, .ref qc209), (0, .ref (am 38)), (1, .long x1), (3, .ref qc68), (4, .int x4)]) hx hb dX9_digest_216 hl (by decide) rfl (fun ls hl => ?_)
        refine lv_aload hx hb dX9_digest_218 (lv_at hl 0 rfl) ?_
        refine gk_alen hx hb hK.1 0 hdc209.1 rfl (v := (nI nc209)) rfl dX9_digest_220 ?_
        refine lv_istore (lv' := [(7, .int (nI nc209)), (6, .ref qc209), (5, .ref qc209), (0, .ref (am 38)), (1, .long x1), (3, .ref qc68), (4, .int x4)]) hx hb dX9_digest_221 hl (by decide) rfl (fun ls hl => ?_)
        refine lv_iconst (v := 0) hx hb dX9_digest_223 (by decide) ?_
        refine lv_istore (lv' := [(8, .int 0), (7, .int (nI nc209)), (6, .ref qc209), (5, .ref qc209), (0, .ref (am 38)), (1, .long x1), (3, .ref qc68), (4, .int x4)]) hx hb dX9_digest_224 hl (by decide) rfl (fun ls hl => ?_)
        obtain ⟨n226, hw⟩ := hw
        refine tL_X9_digest_226 C0 hK (hk256 := ?_) n226 σ x1 x4 (nI nc209) 0 Nc68 fc209 nc209 hw _ _ hW hS _ _ hgc68 _ hgc209 (by omega) hdc68 hdc209 _ (lv_sub hl [4, 5, 6, 7, 2, 1, 0] rfl)
        · intro σ x1 x4 Nc68 hw H locs hW hS qc68 Bc68 hgc68 hdc68 ls hl
          refine lv_iconst (v := 0) hx hb dX9_digest_256 (by decide) ?_
          refine lv_istore (lv' := [(6, .int 0), (0, .ref (am 38)), (1, .long x1), (3, .ref qc68), (4, .int x4)]) hx hb dX9_digest_257 hl (by decide) rfl (fun ls hl => ?_)
          obtain ⟨n259, hw⟩ := hw
          refine tL_X9_digest_259 C0 hK (hk328 := ?_) n259 σ x1 x4 0 Nc68 hw _ _ hW hS _ _ hgc68 hdc68 _ (lv_sub hl [1, 2, 3, 4, 0] rfl)
          · intro σ x1 hw H locs hW hS  ls hl
            refine lv_aload_n hx hb dX9_digest_328 rfl (lv_at hl 0 rfl) ?_
            refine gk_get hx hb hts iwX9 hown hK.1 (mk_obj hW) rfl 33 (by decide) (hts _ fl_X9_87) (fun _ h9 => h9) rfl dX9_digest_329 ?_
            refine lv_astore (lv' := [(6, .ref (am 33)), (0, .ref (am 38)), (1, .long x1)]) hx hb dX9_digest_332 hl (by decide) rfl (fun ls hl => ?_)
            refine lv_aload hx hb dX9_digest_334 (lv_at hl 0 rfl) ?_
            refine gk_alen hx hb hK.1 0 (mk_arr hW (k := 33) (by decide) (by decide) (by decide)) rfl (v := 6) rfl dX9_digest_336 ?_
            refine lv_istore (lv' := [(7, .int 6), (6, .ref (am 33)), (0, .ref (am 38)), (1, .long x1)]) hx hb dX9_digest_337 hl (by decide) rfl (fun ls hl => ?_)
            refine lv_iconst (v := 0) hx hb dX9_digest_339 (by decide) ?_
            refine lv_istore (lv' := [(8, .int 0), (7, .int 6), (6, .ref (am 33)), (0, .ref (am 38)), (1, .long x1)]) hx hb dX9_digest_340 hl (by decide) rfl (fun ls hl => ?_)
            obtain ⟨n342, hw⟩ := hw
            refine tL_X9_digest_342 C0 hK (hk372 := ?_) n342 σ x1 6 0 hw _ _ hW hS  _ (lv_sub hl [3, 4, 2, 1, 0] rfl)
            · intro σ x1 hw H locs hW hS  ls hl
              refine lv_iconst (v := 0) hx hb dX9_digest_372 (by decide) ?_
              refine lv_istore (lv' := [(6, .int 0), (0, .ref (am 38)), (1, .long x1)]) hx hb dX9_digest_373 hl (by decide) rfl (fun ls hl => ?_)
              obtain ⟨n375, hw⟩ := hw
              refine tL_X9_digest_375 C0 hK (hk429 := ?_) n375 σ x1 0 hw _ _ hW hS  _ (lv_sub hl [1, 2, 0] rfl)
              · intro σ x1 hw H locs hW hS  ls hl
                refine lv_lload_n hx hb dX9_digest_429 rfl (lv_at hl 1 rfl) ?_
                refine lv_ldc2 (v := 31) hx hb hown (hts _ k_X9_296) dX9_digest_430 ?_
                refine lv_lmul hx hb dX9_digest_433 ?_
                refine lv_aload_n hx hb dX9_digest_434 rfl (lv_at hl 0 rfl) ?_
                refine mk_callRi ⟨hx, hb, hml, hown, hts⟩ (c_X9_contradictionsNow l D cI cZ cG cL am hw) (cwV 0 hts (gk_gV ml_X9_283 im_X9_contradictionsNow se_X9_contradictionsNow in_X9 co_X9_contradictionsNow) rfl rfl rfl (by decide +kernel) ⟨Nat.le_of_ble_eq_true rfl, Nat.le_of_ble_eq_true rfl⟩) (gk_recv hK.1 (mk_obj hW) rfl) hW hK trivial hS rfl hl.1 (rest := [.long (x1 * 31)]) rfl (lv_room (Nat.le_of_ble_eq_true rfl)) dX9_digest_435 ⟨Nat.le_of_ble_eq_true rfl, Nat.le_of_ble_eq_true rfl⟩ (fun r435 H locs hw hW _ hk hS => ?_)
                refine lv_i2l (v := (r435).toInt64) hx hb dX9_digest_438 rfl ?_
                refine lv_ladd hx hb dX9_digest_439 ?_
                refine W.widen (k := 28) (n := 1782) (Nat.le_of_ble_eq_true rfl) (Nat.le_of_ble_eq_true rfl) ?_
                exact mk_retl C0 hw hW hS dX9_digest_440
