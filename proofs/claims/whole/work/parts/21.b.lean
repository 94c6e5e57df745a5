/-! laid by wip/whole/model1.py: wp predicates and walks -/
def wJ_X9_far_30 (Q : Int32 → gk_C → Prop) (σ : gk_C) : Prop := (w_X9_no σ 1 (fun r32 σ32 => Q r32 σ32))
def w_X9_far (σ : gk_C) (a0 : Int32) (a1 : Int32) (Q : Int32 → gk_C → Prop) : Prop := (w_X9_isResource (gk_s σ 0 0) a0 (fun r7 => ((r7 = 0) → (wJ_X9_far_30 Q (gk_s σ 0 0))) ∧ ((¬ r7 = 0) → (w_X9_isResource (gk_s σ 0 0) a1 (fun r15 => ((r15 = 0) → (wJ_X9_far_30 Q (gk_s σ 0 0))) ∧ ((¬ r15 = 0) → (w_X9_farNow (gk_s σ 0 0) a0 a1 (fun r24 => Q r24 (gk_s σ 0 0)))))))))
abbrev rmX9_far : Room := { frames := 2, cells := 0, slots := 0, locals := 43 }
set_option maxHeartbeats 4000000 in
set_option maxRecDepth 100000 in
theorem tJ_X9_far_30 {p : Program} {l : Launch} {e : Env} {s : State} {m : MethodId} {args : Array Value} {below : List Frame} {meth : Method} {c : Code} {D : va_G} {cI cZ cG cL : ClassId} {am : Nat → Nat} (C0 : gk_F p s m args meth c cX9_far 3 (some .int) RX9) (hK : gk_K D cI cZ cG cL s) {Q : Int32 → gk_C → Prop} : ∀ (σ : gk_C), wJ_X9_far_30 Q σ → ∀ (H : Heap) (locs : List Loc), mk_V D cI cZ am σ H → va_S (mk_A am s.heap.size) s.heap H locs → ∀ (ls : Array Slot), lv_has ls 3 [(0, .ref (am 38))] → W p l e rmX9_far s m args below meth c H locs 0 0 (MQ below (va_Qi (fun r u => Q r u) (mk_B (mk_V D cI cZ am)) (mk_A am s.heap.size)) args s 0 0 (mk_A am s.heap.size)) (F0 m 30 ls []) := by
  obtain ⟨hx, hb, hml, hown, hts, hr, hlocks⟩ := id C0
  intro σ hw H locs hW hS  ls hl
  refine lv_aload_n hx hb dX9_far_30 rfl (lv_at hl 0 rfl) ?_
  refine lv_iconst (v := 1) hx hb dX9_far_31 (by decide) ?_
  refine mk_callVi ⟨hx, hb, hml, hown, hts⟩ (c_X9_no l D cI cZ cG cL am hw) (cwV 1 hts (gk_gV ml_X9_139 im_X9_no se_X9_no in_X9 co_X9_no) rfl rfl rfl (by decide +kernel) ⟨Nat.le_of_ble_eq_true rfl, Nat.le_of_ble_eq_true rfl⟩) (gk_recv hK.1 (mk_obj hW) rfl) hW hK trivial hS rfl hl.1 (rest := []) rfl (lv_room (Nat.le_of_ble_eq_true rfl)) dX9_far_32 ⟨Nat.le_of_ble_eq_true rfl, Nat.le_of_ble_eq_true rfl⟩ (fun r32 σ32 H locs hw hW _ hk hS => ?_)
  refine W.widen (k := 0) (n := 0) (Nat.le_of_ble_eq_true rfl) (Nat.le_of_ble_eq_true rfl) ?_
  exact mk_reti C0 hw hW hS dX9_far_35
set_option maxHeartbeats 4000000 in
set_option maxRecDepth 100000 in
theorem c_X9_far (l : Launch) (D : va_G) (cI cZ cG cL : ClassId) (am : Nat → Nat) {σ : gk_C} {a0 : Int32} {a1 : Int32} {Q : Int32 → gk_C → Prop} {sz : Nat} (hw : w_X9_far σ a0 a1 Q) : Met l yX9_far wsX9_far rmX9_far (mk_Pc (mk_V D cI cZ am) D cI cZ cG cL [.ref (am 38), .int a0, .int a1] sz σ (fun _ => True)) (va_Qi (fun r u => Q r u) (mk_B (mk_V D cI cZ am)) (mk_A am sz)) 0 0 (mk_A am sz) := by
  refine Met.ofW (cc := cX9_far) (maxL := 3) (ret := (some .int)) (by decide) rfl ?_
  intro p e s m args below meth c s₁ B hml0 hv0
  obtain ⟨rfl, hsz, hW, hK, hX⟩ := hv0
  subst hsz
  have C0 : gk_F p s m ([.ref (am 38), .int a0, .int a1] : List Value).toArray meth c cX9_far 3 (some .int) RX9 := ⟨B.exec, B.bytes, hml0, findClass_of_methodNamed B.named, fun w hw => atoms_spec (ws := wsX9_far) B.pre w (List.mem_cons_of_mem _ hw), B.returns, B.notSynchronized⟩
  obtain ⟨hx, hb, hml, hown, hts, hr, hlocks⟩ := id C0
  have hS : va_S (mk_A am s.heap.size) s.heap s.heap [] := va_S.rf
  have hl := lv_entry ([.ref (am 38), .int a0, .int a1]) (n := 3) (Nat.le_of_ble_eq_true rfl)
  rw [lg_entry_eq]
  generalize (lg_sl ([.ref (am 38), .int a0, .int a1]) ++ List.replicate (3 - (lg_sl ([.ref (am 38), .int a0, .int a1])).length) Slot.unset).toArray = ls at hl ⊢
  have hl : lv_has ls 3 [(0, .ref (am 38)), (1, .int a0), (2, .int a1)] := hl
  show W p l e rmX9_far s m _ below meth c s.heap [] 0 0 _ _
  refine lv_aload_n hx hb dX9_far_0 rfl (lv_at hl 0 rfl) ?_
  refine lv_iconst (v := 0) hx hb dX9_far_1 (by decide) ?_
  refine gk_putf (ty := .int) (v := .int 0) hx hb hts iwX9 tyX9 tyX9_ok nmX9 hown hK.1 hS (mk_A.in List.mem_cons_self) (mk_obj hW) rfl 0 (by decide) (hts _ fl_X9_102) (fun _ h9 => h9) rfl (by decide +kernel) rfl rfl (Nat.le_of_ble_eq_true rfl) dX9_far_2 (fun H locs h1 _ oq hS => ?_)
  have hW := hW.setS (i := 0) (v := 0) h1 oq
  refine lv_aload_n hx hb dX9_far_5 rfl (lv_at hl 0 rfl) ?_
  refine lv_iload_n hx hb dX9_far_6 rfl (lv_at hl 1 rfl) ?_
  refine mk_callRi ⟨hx, hb, hml, hown, hts⟩ (c_X9_isResource l D cI cZ cG cL am hw) (cwV 1 hts (gk_gV ml_X9_122 im_X9_isResource se_X9_isResource in_X9 co_X9_isResource) rfl rfl rfl (by decide +kernel) ⟨Nat.le_of_ble_eq_true rfl, Nat.le_of_ble_eq_true rfl⟩) (gk_recv hK.1 (mk_obj hW) rfl) hW hK trivial hS rfl hl.1 (rest := []) rfl (lv_room (Nat.le_of_ble_eq_true rfl)) dX9_far_7 ⟨Nat.le_of_ble_eq_true rfl, Nat.le_of_ble_eq_true rfl⟩ (fun r7 H locs hw hW _ hk hS => ?_)
  refine lv_if_eq (tgt := 30) hx hb dX9_far_10 (by decide) (fun c10 => ?_) (fun c10 => ?_)
  · have hw := hw.1 c10
    refine tJ_X9_far_30 C0 hK  (gk_s σ 0 0) hw _ _ hW hS  _ (lv_sub hl [0] rfl)
  · have hw := hw.2 c10
    refine lv_aload_n hx hb dX9_far_13 rfl (lv_at hl 0 rfl) ?_
    refine lv_iload_n hx hb dX9_far_14 rfl (lv_at hl 2 rfl) ?_
    refine mk_callRi ⟨hx, hb, hml, hown, hts⟩ (c_X9_isResource l D cI cZ cG cL am hw) (cwV 1 hts (gk_gV ml_X9_122 im_X9_isResource se_X9_isResource in_X9 co_X9_isResource) rfl rfl rfl (by decide +kernel) ⟨Nat.le_of_ble_eq_true rfl, Nat.le_of_ble_eq_true rfl⟩) (gk_recv hK.1 (mk_obj hW) rfl) hW hK trivial hS rfl hl.1 (rest := []) rfl (lv_room (Nat.le_of_ble_eq_true rfl)) dX9_far_15 ⟨Nat.le_of_ble_eq_true rfl, Nat.le_of_ble_eq_true rfl⟩ (fun r15 H locs hw hW _ hk hS => ?_)
    refine lv_if_eq (tgt := 30) hx hb dX9_far_18 (by decide) (fun c18 => ?_) (fun c18 => ?_)
    · have hw := hw.1 c18
      refine tJ_X9_far_30 C0 hK  (gk_s σ 0 0) hw _ _ hW hS  _ (lv_sub hl [0] rfl)
    · have hw := hw.2 c18
      refine lv_aload_n hx hb dX9_far_21 rfl (lv_at hl 0 rfl) ?_
      refine lv_iload_n hx hb dX9_far_22 rfl (lv_at hl 1 rfl) ?_
      refine lv_iload_n hx hb dX9_far_23 rfl (lv_at hl 2 rfl) ?_
      refine mk_callRi ⟨hx, hb, hml, hown, hts⟩ (c_X9_farNow l D cI cZ cG cL am hw) (cwV 2 hts (gk_gV ml_X9_161 im_X9_farNow se_X9_farNow in_X9 co_X9_farNow) rfl rfl rfl (by decide +kernel) ⟨Nat.le_of_ble_eq_true rfl, Nat.le_of_ble_eq_true rfl⟩) (gk_recv hK.1 (mk_obj hW) rfl) hW hK trivial hS rfl hl.1 (rest := []) rfl (lv_room (Nat.le_of_ble_eq_true rfl)) dX9_far_24 ⟨Nat.le_of_ble_eq_true rfl, Nat.le_of_ble_eq_true rfl⟩ (fun r24 H locs hw hW _ hk hS => ?_)
      refine lv_goto (tgt := 35) hx hb dX9_far_27 (by decide) ?_
      refine W.widen (k := 0) (n := 0) (Nat.le_of_ble_eq_true rfl) (Nat.le_of_ble_eq_true rfl) ?_
      exact mk_reti C0 hw hW hS dX9_far_35
def wJ_X9_addRule_43 (Q : Int32 → gk_C → Prop) (σ : gk_C) : Prop := (w_X9_no σ 1 (fun r45 σ45 => Q r45 σ45))
def wJ_X9_addRule_27 (Q : Int32 → gk_C → Prop) (σ : gk_C) (x1 : Int32) (x2 : Int32) (x3 : Int32) (x4 : Int32) (t0 : Int32) : Prop := (((t0 = 0) → (wJ_X9_addRule_43 Q σ)) ∧ ((¬ t0 = 0) → (w_X9_isResource σ x4 (fun r37 => ((¬ r37 = 0) → (w_X9_isIn x3 1 31 (fun r53 => ((¬ r53 = 0) → (((¬ (σ.2 16) = 30) → (vp_in (σ.2 16) 30 ∧ ∀ σ89 : gk_C, σ89 = mk_st σ 17 (σ.2 16) (vp_nar .boolean x1) → vp_in (σ89.2 16) 30 ∧ ∀ σ99 : gk_C, σ99 = mk_st σ89 19 (σ89.2 16) x2 → vp_in (σ99.2 16) 30 ∧ ∀ σ109 : gk_C, σ109 = mk_st σ99 20 (σ99.2 16) x3 → vp_in (σ109.2 16) 30 ∧ ∀ σ120 : gk_C, σ120 = mk_st σ109 21 (σ109.2 16) x4 → vp_in (σ120.2 16) 30 ∧ ∀ σ130 : gk_C, σ130 = mk_st σ120 18 (σ120.2 16) (vp_nar .boolean 0) → vp_in (σ130.2 16) 30 ∧ ∀ σ140 : gk_C, σ140 = mk_st σ130 22 (σ130.2 16) 0 → vp_in (σ140.2 16) 30 ∧ ∀ σ150 : gk_C, σ150 = mk_st σ140 23 (σ140.2 16) 0 → vp_in (σ150.2 16) 30 ∧ ∀ σ160 : gk_C, σ160 = mk_st σ150 24 (σ150.2 16) 0 → vp_in (σ160.2 16) 30 ∧ ∀ σ171 : gk_C, σ171 = mk_st σ160 25 (σ160.2 16) 23 → Q (σ171.2 16) (gk_s σ171 16 ((σ171.2 16) + 1)))) ∧ (((σ.2 16) = 30) → (w_X9_no σ 3 (fun r76 σ76 => Q r76 σ76))))) ∧ ((r53 = 0) → (w_X9_no σ 2 (fun r61 σ61 => Q r61 σ61)))))) ∧ ((r37 = 0) → (wJ_X9_addRule_43 Q σ))))))
def w_X9_addRule (σ : gk_C) (a0 : Int32) (a1 : Int32) (a2 : Int32) (a3 : Int32) (Q : Int32 → gk_C → Prop) : Prop := (((a1 < 12) → (w_X9_isUser (gk_s σ 0 0) a1 (fun r24 => wJ_X9_addRule_27 Q (gk_s σ 0 0) a0 a1 a2 a3 r24))) ∧ ((¬ a1 < 12) → (w_X9_isRole (gk_s σ 0 0) (a1 - 12) (fun r16 => wJ_X9_addRule_27 Q (gk_s σ 0 0) a0 a1 a2 a3 r16))))
abbrev rmX9_addRule : Room := { frames := 2, cells := 0, slots := 0, locals := 43 }
set_option maxHeartbeats 4000000 in
set_option maxRecDepth 100000 in
theorem tJ_X9_addRule_43 {p : Program} {l : Launch} {e : Env} {s : State} {m : MethodId} {args : Array Value} {below : List Frame} {meth : Method} {c : Code} {D : va_G} {cI cZ cG cL : ClassId} {am : Nat → Nat} (C0 : gk_F p s m args meth c cX9_addRule 6 (some .int) RX9) (hK : gk_K D cI cZ cG cL s) {Q : Int32 → gk_C → Prop} : ∀ (σ : gk_C), wJ_X9_addRule_43 Q σ → ∀ (H : Heap) (locs : List Loc), mk_V D cI cZ am σ H → va_S (mk_A am s.heap.size) s.heap H locs → ∀ (ls : Array Slot), lv_has ls 6 [(0, .ref (am 38))] → W p l e rmX9_addRule s m args below meth c H locs 0 0 (MQ below (va_Qi (fun r u => Q r u) (mk_B (mk_V D cI cZ am)) (mk_A am s.heap.size)) args s 0 0 (mk_A am s.heap.size)) (F0 m 43 ls []) := by
  obtain ⟨hx, hb, hml, hown, hts, hr, hlocks⟩ := id C0
  intro σ hw H locs hW hS  ls hl
  refine lv_aload_n hx hb dX9_addRule_43 rfl (lv_at hl 0 rfl) ?_
  refine lv_iconst (v := 1) hx hb dX9_addRule_44 (by decide) ?_
  refine mk_callVi ⟨hx, hb, hml, hown, hts⟩ (c_X9_no l D cI cZ cG cL am hw) (cwV 1 hts (gk_gV ml_X9_139 im_X9_no se_X9_no in_X9 co_X9_no) rfl rfl rfl (by decide +kernel) ⟨Nat.le_of_ble_eq_true rfl, Nat.le_of_ble_eq_true rfl⟩) (gk_recv hK.1 (mk_obj hW) rfl) hW hK trivial hS rfl hl.1 (rest := []) rfl (lv_room (Nat.le_of_ble_eq_true rfl)) dX9_addRule_45 ⟨Nat.le_of_ble_eq_true rfl, Nat.le_of_ble_eq_true rfl⟩ (fun r45 σ45 H locs hw hW _ hk hS => ?_)
  refine W.widen (k := 0) (n := 0) (Nat.le_of_ble_eq_true rfl) (Nat.le_of_ble_eq_true rfl) ?_
  exact mk_reti C0 hw hW hS dX9_addRule_48
set_option maxHeartbeats 4000000 in
set_option maxRecDepth 100000 in
theorem tJ_X9_addRule_27 {p : Program} {l : Launch} {e : Env} {s : State} {m : MethodId} {args : Array Value} {below : List Frame} {meth : Method} {c : Code} {D : va_G} {cI cZ cG cL : ClassId} {am : Nat → Nat} (C0 : gk_F p s m args meth c cX9_addRule 6 (some .int) RX9) (hK : gk_K D cI cZ cG cL s) {Q : Int32 → gk_C → Prop} : ∀ (σ : gk_C) (x1 : Int32) (x2 : Int32) (x3 : Int32) (x4 : Int32) (t0 : Int32), wJ_X9_addRule_27 Q σ x1 x2 x3 x4 t0 → ∀ (H : Heap) (locs : List Loc), mk_V D cI cZ am σ H → va_S (mk_A am s.heap.size) s.heap H locs → ∀ (ls : Array Slot), lv_has ls 6 [(0, .ref (am 38)), (1, .int x1), (2, .int x2), (3, .int x3), (4, .int x4)] → W p l e rmX9_addRule s m args below meth c H locs 0 0 (MQ below (va_Qi (fun r u => Q r u) (mk_B (mk_V D cI cZ am)) (mk_A am s.heap.size)) args s 0 0 (mk_A am s.heap.size)) (F0 m 27 ls [.int t0]) := by
  obtain ⟨hx, hb, hml, hown, hts, hr, hlocks⟩ := id C0
  intro σ x1 x2 x3 x4 t0 hw H locs hW hS  ls hl
  refine lv_istore (lv' := [(5, .int t0), (0, .ref (am 38)), (1, .int x1), (2, .int x2), (3, .int x3), (4, .int x4)]) hx hb dX9_addRule_27 hl (by decide) rfl (fun ls hl => ?_)
  refine lv_iload hx hb dX9_addRule_29 (lv_at hl 0 rfl) ?_
  refine lv_if_eq (tgt := 43) hx hb dX9_addRule_31 (by decide) (fun c31 => ?_) (fun c31 => ?_)
  · have hw := hw.1 c31
    refine tJ_X9_addRule_43 C0 hK  σ hw _ _ hW hS  _ (lv_sub hl [1] rfl)
  · have hw := hw.2 c31
    refine lv_aload_n hx hb dX9_addRule_34 rfl (lv_at hl 1 rfl) ?_
    refine lv_iload hx hb dX9_addRule_35 (lv_at hl 5 rfl) ?_
    refine mk_callRi ⟨hx, hb, hml, hown, hts⟩ (c_X9_isResource l D cI cZ cG cL am hw) (cwV 1 hts (gk_gV ml_X9_122 im_X9_isResource se_X9_isResource in_X9 co_X9_isResource) rfl rfl rfl (by decide +kernel) ⟨Nat.le_of_ble_eq_true rfl, Nat.le_of_ble_eq_true rfl⟩) (gk_recv hK.1 (mk_obj hW) rfl) hW hK trivial hS rfl hl.1 (rest := []) rfl (lv_room (Nat.le_of_ble_eq_true rfl)) dX9_addRule_37 ⟨Nat.le_of_ble_eq_true rfl, Nat.le_of_ble_eq_true rfl⟩ (fun r37 H locs hw hW _ hk hS => ?_)
    refine lv_if_ne (tgt := 49) hx hb dX9_addRule_40 (by decide) (fun c40 => ?_) (fun c40 => ?_)
    · have hw := hw.1 c40
      refine lv_iload_n hx hb dX9_addRule_49 rfl (lv_at hl 4 rfl) ?_
      refine lv_iconst (v := 1) hx hb dX9_addRule_50 (by decide) ?_
      refine lv_bipush (v := 31) hx hb dX9_addRule_51 (by decide) ?_
      refine gk_callSi ⟨hx, hb, hml, hown, hts⟩ (c_X9_isIn l hw) (va_cwS 3 hts (gk_gS ml_X9_108 st_X9_isIn in_X9 co_X9_isIn) rfl rfl rfl (by decide +kernel) ⟨Nat.le_of_ble_eq_true rfl, Nat.le_of_ble_eq_true rfl⟩) hS rfl hl.1 (rest := []) rfl (lv_room (Nat.le_of_ble_eq_true rfl)) dX9_addRule_53 ⟨Nat.le_of_ble_eq_true rfl, Nat.le_of_ble_eq_true rfl⟩ (fun r53 H locs hw _ hk hS => ?_)
      have hW := hW.keptAll hk
      refine lv_if_ne (tgt := 65) hx hb dX9_addRule_56 (by decide) (fun c56 => ?_) (fun c56 => ?_)
      · have hw := hw.1 c56
        refine lv_aload_n hx hb dX9_addRule_65 rfl (lv_at hl 1 rfl) ?_
        refine gk_get hx hb hts iwX9 hown hK.1 (mk_obj hW) rfl 16 (by decide) (hts _ fl_X9_165) (fun _ h9 => h9) rfl dX9_addRule_66 ?_
        refine lv_bipush (v := 30) hx hb dX9_addRule_69 (by decide) ?_
        refine lv_icmp_ne (tgt := 80) hx hb dX9_addRule_71 (by decide) (fun c71 => ?_) (fun c71 => ?_)
        · have hw := hw.1 c71
          refine lv_aload_n hx hb dX9_addRule_80 rfl (lv_at hl 1 rfl) ?_
          refine gk_get hx hb hts iwX9 hown hK.1 (mk_obj hW) rfl 17 (by decide) (hts _ fl_X9_41) (fun _ h9 => h9) rfl dX9_addRule_81 ?_
          refine lv_aload_n hx hb dX9_addRule_84 rfl (lv_at hl 1 rfl) ?_
          refine gk_get hx hb hts iwX9 hown hK.1 (mk_obj hW) rfl 16 (by decide) (hts _ fl_X9_165) (fun _ h9 => h9) rfl dX9_addRule_85 ?_
          refine lv_iload_n hx hb dX9_addRule_88 rfl (lv_at hl 2 rfl) ?_
          obtain ⟨hin, hw⟩ := hw
          refine gk_zast hx hb hK.1 hS (mk_A.in (k := 17) (by decide)) 1 (mk_arr hW (k := 17) (by decide) (by decide) (by decide)) rfl hin dX9_addRule_89 (fun H locs h1 _ oq hS => ?_)
          have hW := hW.setR (k := 17) (by decide) (by decide) (by decide) h1 oq
          obtain ⟨σ89, eσ89⟩ : ∃ z, z = mk_st σ 17 (σ.2 16) (vp_nar .boolean x1) := ⟨_, rfl⟩
          have hW := mk_stW (Wd := mk_V D cI cZ am) eσ89 hW
          have hw := hw σ89 eσ89
          refine lv_aload_n hx hb dX9_addRule_90 rfl (lv_at hl 1 rfl) ?_
          refine gk_get hx hb hts iwX9 hown hK.1 (mk_obj hW) rfl 19 (by decide) (hts _ fl_X9_48) (fun _ h9 => h9) rfl dX9_addRule_91 ?_
          refine lv_aload_n hx hb dX9_addRule_94 rfl (lv_at hl 1 rfl) ?_
          refine gk_get hx hb hts iwX9 hown hK.1 (mk_obj hW) rfl 16 (by decide) (hts _ fl_X9_165) (fun _ h9 => h9) rfl dX9_addRule_95 ?_
          refine lv_iload_n hx hb dX9_addRule_98 rfl (lv_at hl 3 rfl) ?_
          obtain ⟨hin, hw⟩ := hw
          refine gk_iast hx hb hK.1 hS (mk_A.in (k := 19) (by decide)) 0 (mk_arr hW (k := 19) (by decide) (by decide) (by decide)) rfl hin dX9_addRule_99 (fun H locs h1 _ oq hS => ?_)
          have hW := hW.setR (k := 19) (by decide) (by decide) (by decide) h1 oq
          obtain ⟨σ99, eσ99⟩ : ∃ z, z = mk_st σ89 19 (σ89.2 16) x2 := ⟨_, rfl⟩
          have hW := mk_stW (Wd := mk_V D cI cZ am) eσ99 hW
          have hw := hw σ99 eσ99
          refine lv_aload_n hx hb dX9_addRule_100 rfl (lv_at hl 1 rfl) ?_
          refine gk_get hx hb hts iwX9 hown hK.1 (mk_obj hW) rfl 20 (by decide) (hts _ fl_X9_51) (fun _ h9 => h9) rfl dX9_addRule_101 ?_
          refine lv_aload_n hx hb dX9_addRule_104 rfl (lv_at hl 1 rfl) ?_
          refine gk_get hx hb hts iwX9 hown hK.1 (mk_obj hW) rfl 16 (by decide) (hts _ fl_X9_165) (fun _ h9 => h9) rfl dX9_addRule_105 ?_
          refine lv_iload_n hx hb dX9_addRule_108 rfl (lv_at hl 4 rfl) ?_
          obtain ⟨hin, hw⟩ := hw
          refine gk_iast hx hb hK.1 hS (mk_A.in (k := 20) (by decide)) 0 (mk_arr hW (k := 20) (by decide) (by decide) (by decide)) rfl hin dX9_addRule_109 (fun H locs h1 _ oq hS => ?_)
          have hW := hW.setR (k := 20) (by decide) (by decide) (by decide) h1 oq
          obtain ⟨σ109, eσ109⟩ : ∃ z, z = mk_st σ99 20 (σ99.2 16) x3 := ⟨_, rfl⟩
          have hW := mk_stW (Wd := mk_V D cI cZ am) eσ109 hW
          have hw := hw σ109 eσ109
          refine lv_aload_n hx hb dX9_addRule_110 rfl (lv_at hl 1 rfl) ?_
          refine gk_get hx hb hts iwX9 hown hK.1 (mk_obj hW) rfl 21 (by decide) (hts _ fl_X9_54) (fun _ h9 => h9) rfl dX9_addRule_111 ?_
          refine lv_aload_n hx hb dX9_addRule_114 rfl (lv_at hl 1 rfl) ?_
          refine gk_get hx hb hts iwX9 hown hK.1 (mk_obj hW) rfl 16 (by decide) (hts _ fl_X9_165) (fun _ h9 => h9) rfl dX9_addRule_115 ?_
          refine lv_iload hx hb dX9_addRule_118 (lv_at hl 5 rfl) ?_
          obtain ⟨hin, hw⟩ := hw
          refine gk_iast hx hb hK.1 hS (mk_A.in (k := 21) (by decide)) 0 (mk_arr hW (k := 21) (by decide) (by decide) (by decide)) rfl hin dX9_addRule_120 (fun H locs h1 _ oq hS => ?_)
          have hW := hW.setR (k := 21) (by decide) (by decide) (by decide) h1 oq
          obtain ⟨σ120, eσ120⟩ : ∃ z, z = mk_st σ109 21 (σ109.2 16) x4 := ⟨_, rfl⟩
          have hW := mk_stW (Wd := mk_V D cI cZ am) eσ120 hW
          have hw := hw σ120 eσ120
          refine lv_aload_n hx hb dX9_addRule_121 rfl (lv_at hl 1 rfl) ?_
          refine gk_get hx hb hts iwX9 hown hK.1 (mk_obj hW) rfl 18 (by decide) (hts _ fl_X9_45) (fun _ h9 => h9) rfl dX9_addRule_122 ?_
          refine lv_aload_n hx hb dX9_addRule_125 rfl (lv_at hl 1 rfl) ?_
          refine gk_get hx hb hts iwX9 hown hK.1 (mk_obj hW) rfl 16 (by decide) (hts _ fl_X9_165) (fun _ h9 => h9) rfl dX9_addRule_126 ?_
          refine lv_iconst (v := 0) hx hb dX9_addRule_129 (by decide) ?_
          obtain ⟨hin, hw⟩ := hw
          refine gk_zast hx hb hK.1 hS (mk_A.in (k := 18) (by decide)) 1 (mk_arr hW (k := 18) (by decide) (by decide) (by decide)) rfl hin dX9_addRule_130 (fun H locs h1 _ oq hS => ?_)
          have hW := hW.setR (k := 18) (by decide) (by decide) (by decide) h1 oq
          obtain ⟨σ130, eσ130⟩ : ∃ z, z = mk_st σ120 18 (σ120.2 16) (vp_nar .boolean 0) := ⟨_, rfl⟩
          have hW := mk_stW (Wd := mk_V D cI cZ am) eσ130 hW
          have hw := hw σ130 eσ130
          refine lv_aload_n hx hb dX9_addRule_131 rfl (lv_at hl 1 rfl) ?_
          refine gk_get hx hb hts iwX9 hown hK.1 (mk_obj hW) rfl 22 (by decide) (hts _ fl_X9_57) (fun _ h9 => h9) rfl dX9_addRule_132 ?_
          refine lv_aload_n hx hb dX9_addRule_135 rfl (lv_at hl 1 rfl) ?_
          refine gk_get hx hb hts iwX9 hown hK.1 (mk_obj hW) rfl 16 (by decide) (hts _ fl_X9_165) (fun _ h9 => h9) rfl dX9_addRule_136 ?_
          refine lv_iconst (v := 0) hx hb dX9_addRule_139 (by decide) ?_
          obtain ⟨hin, hw⟩ := hw
          refine gk_iast hx hb hK.1 hS (mk_A.in (k := 22) (by decide)) 0 (mk_arr hW (k := 22) (by decide) (by decide) (by decide)) rfl hin dX9_addRule_140 (fun H locs h1 _ oq hS => ?_)
          have hW := hW.setR (k := 22) (by decide) (by decide) (by decide) h1 oq
          obtain ⟨σ140, eσ140⟩ : ∃ z, z = mk_st σ130 22 (σ130.2 16) 0 := ⟨_, rfl⟩
          have hW := mk_stW (Wd := mk_V D cI cZ am) eσ140 hW
          have hw := hw σ140 eσ140
          refine lv_aload_n hx hb dX9_addRule_141 rfl (lv_at hl 1 rfl) ?_
          refine gk_get hx hb hts iwX9 hown hK.1 (mk_obj hW) rfl 23 (by decide) (hts _ fl_X9_60) (fun _ h9 => h9) rfl dX9_addRule_142 ?_
          refine lv_aload_n hx hb dX9_addRule_145 rfl (lv_at hl 1 rfl) ?_
          refine gk_get hx hb hts iwX9 hown hK.1 (mk_obj hW) rfl 16 (by decide) (hts _ fl_X9_165) (fun _ h9 => h9) rfl dX9_addRule_146 ?_
          refine lv_iconst (v := 0) hx hb dX9_addRule_149 (by decide) ?_
          obtain ⟨hin, hw⟩ := hw
          refine gk_iast hx hb hK.1 hS (mk_A.in (k := 23) (by decide)) 0 (mk_arr hW (k := 23) (by decide) (by decide) (by decide)) rfl hin dX9_addRule_150 (fun H locs h1 _ oq hS => ?_)
          have hW := hW.setR (k := 23) (by decide) (by decide) (by decide) h1 oq
          obtain ⟨σ150, eσ150⟩ : ∃ z, z = mk_st σ140 23 (σ140.2 16) 0 := ⟨_, rfl⟩
          have hW := mk_stW (Wd := mk_V D cI cZ am) eσ150 hW
          have hw := hw σ150 eσ150
          refine lv_aload_n hx hb dX9_addRule_151 rfl (lv_at hl 1 rfl) ?_
          refine gk_get hx hb hts iwX9 hown hK.1 (mk_obj hW) rfl 24 (by decide) (hts _ fl_X9_63) (fun _ h9 => h9) rfl dX9_addRule_152 ?_
          refine lv_aload_n hx hb dX9_addRule_155 rfl (lv_at hl 1 rfl) ?_
          refine gk_get hx hb hts iwX9 hown hK.1 (mk_obj hW) rfl 16 (by decide) (hts _ fl_X9_165) (fun _ h9 => h9) rfl dX9_addRule_156 ?_
          refine lv_iconst (v := 0) hx hb dX9_addRule_159 (by decide) ?_
          obtain ⟨hin, hw⟩ := hw
          refine gk_iast hx hb hK.1 hS (mk_A.in (k := 24) (by decide)) 0 (mk_arr hW (k := 24) (by decide) (by decide) (by decide)) rfl hin dX9_addRule_160 (fun H locs h1 _ oq hS => ?_)
          have hW := hW.setR (k := 24) (by decide) (by decide) (by decide) h1 oq
          obtain ⟨σ160, eσ160⟩ : ∃ z, z = mk_st σ150 24 (σ150.2 16) 0 := ⟨_, rfl⟩
          have hW := mk_stW (Wd := mk_V D cI cZ am) eσ160 hW
          have hw := hw σ160 eσ160
          refine lv_aload_n hx hb dX9_addRule_161 rfl (lv_at hl 1 rfl) ?_
          refine gk_get hx hb hts iwX9 hown hK.1 (mk_obj hW) rfl 25 (by decide) (hts _ fl_X9_66) (fun _ h9 => h9) rfl dX9_addRule_162 ?_
          refine lv_aload_n hx hb dX9_addRule_165 rfl (lv_at hl 1 rfl) ?_
          refine gk_get hx hb hts iwX9 hown hK.1 (mk_obj hW) rfl 16 (by decide) (hts _ fl_X9_165) (fun _ h9 => h9) rfl dX9_addRule_166 ?_
          refine lv_bipush (v := 23) hx hb dX9_addRule_169 (by decide) ?_
          obtain ⟨hin, hw⟩ := hw
          refine gk_iast hx hb hK.1 hS (mk_A.in (k := 25) (by decide)) 0 (mk_arr hW (k := 25) (by decide) (by decide) (by decide)) rfl hin dX9_addRule_171 (fun H locs h1 _ oq hS => ?_)
          have hW := hW.setR (k := 25) (by decide) (by decide) (by decide) h1 oq
          obtain ⟨σ171, eσ171⟩ : ∃ z, z = mk_st σ160 25 (σ160.2 16) 23 := ⟨_, rfl⟩
          have hW := mk_stW (Wd := mk_V D cI cZ am) eσ171 hW
          have hw := hw σ171 eσ171
          refine lv_aload_n hx hb dX9_addRule_172 rfl (lv_at hl 1 rfl) ?_
          refine lv_dup hx hb dX9_addRule_173 rfl ?_
          refine gk_get hx hb hts iwX9 hown hK.1 (mk_obj hW) rfl 16 (by decide) (hts _ fl_X9_165) (fun _ h9 => h9) rfl dX9_addRule_174 ?_
          refine lv_dup_x1 hx hb dX9_addRule_177 rfl rfl ?_
          refine lv_iconst (v := 1) hx hb dX9_addRule_178 (by decide) ?_
          refine lv_iadd hx hb dX9_addRule_179 ?_
          refine gk_putf (ty := .int) (v := .int ((σ171.2 16) + 1)) hx hb hts iwX9 tyX9 tyX9_ok nmX9 hown hK.1 hS (mk_A.in List.mem_cons_self) (mk_obj hW) rfl 16 (by decide) (hts _ fl_X9_165) (fun _ h9 => h9) rfl (by decide +kernel) rfl rfl (Nat.le_of_ble_eq_true rfl) dX9_addRule_180 (fun H locs h1 _ oq hS => ?_)
          have hW := hW.setS (i := 16) (v := ((σ171.2 16) + 1)) h1 oq
          refine W.widen (k := 0) (n := 0) (Nat.le_of_ble_eq_true rfl) (Nat.le_of_ble_eq_true rfl) ?_
          exact mk_reti C0 hw hW hS dX9_addRule_183
        · have hw := hw.2 c71
          refine lv_aload_n hx hb dX9_addRule_74 rfl (lv_at hl 1 rfl) ?_
          refine lv_iconst (v := 3) hx hb dX9_addRule_75 (by decide) ?_
          refine mk_callVi ⟨hx, hb, hml, hown, hts⟩ (c_X9_no l D cI cZ cG cL am hw) (cwV 1 hts (gk_gV ml_X9_139 im_X9_no se_X9_no in_X9 co_X9_no) rfl rfl rfl (by decide +kernel) ⟨Nat.le_of_ble_eq_true rfl, Nat.le_of_ble_eq_true rfl⟩) (gk_recv hK.1 (mk_obj hW) rfl) hW hK trivial hS rfl hl.1 (rest := []) rfl (lv_room (Nat.le_of_ble_eq_true rfl)) dX9_addRule_76 ⟨Nat.le_of_ble_eq_true rfl, Nat.le_of_ble_eq_true rfl⟩ (fun r76 σ76 H locs hw hW _ hk hS => ?_)
          refine W.widen (k := 0) (n := 0) (Nat.le_of_ble_eq_true rfl) (Nat.le_of_ble_eq_true rfl) ?_
          exact mk_reti C0 hw hW hS dX9_addRule_79
      · have hw := hw.2 c56
        refine lv_aload_n hx hb dX9_addRule_59 rfl (lv_at hl 1 rfl) ?_
        refine lv_iconst (v := 2) hx hb dX9_addRule_60 (by decide) ?_
        refine mk_callVi ⟨hx, hb, hml, hown, hts⟩ (c_X9_no l D cI cZ cG cL am hw) (cwV 1 hts (gk_gV ml_X9_139 im_X9_no se_X9_no in_X9 co_X9_no) rfl rfl rfl (by decide +kernel) ⟨Nat.le_of_ble_eq_true rfl, Nat.le_of_ble_eq_true rfl⟩) (gk_recv hK.1 (mk_obj hW) rfl) hW hK trivial hS rfl hl.1 (rest := []) rfl (lv_room (Nat.le_of_ble_eq_true rfl)) dX9_addRule_61 ⟨Nat.le_of_ble_eq_true rfl, Nat.le_of_ble_eq_true rfl⟩ (fun r61 σ61 H locs hw hW _ hk hS => ?_)
        refine W.widen (k := 0) (n := 0) (Nat.le_of_ble_eq_true rfl) (Nat.le_of_ble_eq_true rfl) ?_
        exact mk_reti C0 hw hW hS dX9_addRule_64
    · have hw := hw.2 c40
      refine tJ_X9_addRule_43 C0 hK  σ hw _ _ hW hS  _ (lv_sub hl [1] rfl)
set_option maxHeartbeats 4000000 in
set_option maxRecDepth 100000 in
theorem c_X9_addRule (l : Launch) (D : va_G) (cI cZ cG cL : ClassId) (am : Nat → Nat) {σ : gk_C} {a0 : Int32} {a1 : Int32} {a2 : Int32} {a3 : Int32} {Q : Int32 → gk_C → Prop} {sz : Nat} (hw : w_X9_addRule σ a0 a1 a2 a3 Q) : Met l yX9_addRule wsX9_addRule rmX9_addRule (mk_Pc (mk_V D cI cZ am) D cI cZ cG cL [.ref (am 38), .int a0, .int a1, .int a2, .int a3] sz σ (fun _ => True)) (va_Qi (fun r u => Q r u) (mk_B (mk_V D cI cZ am)) (mk_A am sz)) 0 0 (mk_A am sz) := by
  refine Met.ofW (cc := cX9_addRule) (maxL := 6) (ret := (some .int)) (by decide) rfl ?_
  intro p e s m args below meth c s₁ B hml0 hv0
  obtain ⟨rfl, hsz, hW, hK, hX⟩ := hv0
  subst hsz
  have C0 : gk_F p s m ([.ref (am 38), .int a0, .int a1, .int a2, .int a3] : List Value).toArray meth c cX9_addRule 6 (some .int) RX9 := ⟨B.exec, B.bytes, hml0, findClass_of_methodNamed B.named, fun w hw => atoms_spec (ws := wsX9_addRule) B.pre w (List.mem_cons_of_mem _ hw), B.returns, B.notSynchronized⟩
  obtain ⟨hx, hb, hml, hown, hts, hr, hlocks⟩ := id C0
  have hS : va_S (mk_A am s.heap.size) s.heap s.heap [] := va_S.rf
  have hl := lv_entry ([.ref (am 38), .int a0, .int a1, .int a2, .int a3]) (n := 6) (Nat.le_of_ble_eq_true rfl)
  rw [lg_entry_eq]
  generalize (lg_sl ([.ref (am 38), .int a0, .int a1, .int a2, .int a3]) ++ List.replicate (6 - (lg_sl ([.ref (am 38), .int a0, .int a1, .int a2, .int a3])).length) Slot.unset).toArray = ls at hl ⊢
  have hl : lv_has ls 6 [(0, .ref (am 38)), (1, .int a0), (2, .int a1), (3, .int a2), (4, .int a3)] := hl
  show W p l e rmX9_addRule s m _ below meth c s.heap [] 0 0 _ _
  refine lv_aload_n hx hb dX9_addRule_0 rfl (lv_at hl 0 rfl) ?_
  refine lv_iconst (v := 0) hx hb dX9_addRule_1 (by decide) ?_
  refine gk_putf (ty := .int) (v := .int 0) hx hb hts iwX9 tyX9 tyX9_ok nmX9 hown hK.1 hS (mk_A.in List.mem_cons_self) (mk_obj hW) rfl 0 (by decide) (hts _ fl_X9_102) (fun _ h9 => h9) rfl (by decide +kernel) rfl rfl (Nat.le_of_ble_eq_true rfl) dX9_addRule_2 (fun H locs h1 _ oq hS => ?_)
  have hW := hW.setS (i := 0) (v := 0) h1 oq
  refine lv_iload_n hx hb dX9_addRule_5 rfl (lv_at hl 2 rfl) ?_
  refine lv_bipush (v := 12) hx hb dX9_addRule_6 (by decide) ?_
  refine lv_icmp_lt (tgt := 22) hx hb dX9_addRule_8 (by decide) (fun c8 => ?_) (fun c8 => ?_)
  · have hw := hw.1 c8
    refine lv_aload_n hx hb dX9_addRule_22 rfl (lv_at hl 0 rfl) ?_
    refine lv_iload_n hx hb dX9_addRule_23 rfl (lv_at hl 2 rfl) ?_
    refine mk_callRi ⟨hx, hb, hml, hown, hts⟩ (c_X9_isUser l D cI cZ cG cL am hw) (cwV 1 hts (gk_gV ml_X9_115 im_X9_isUser se_X9_isUser in_X9 co_X9_isUser) rfl rfl rfl (by decide +kernel) ⟨Nat.le_of_ble_eq_true rfl, Nat.le_of_ble_eq_true rfl⟩) (gk_recv hK.1 (mk_obj hW) rfl) hW hK trivial hS rfl hl.1 (rest := []) rfl (lv_room (Nat.le_of_ble_eq_true rfl)) dX9_addRule_24 ⟨Nat.le_of_ble_eq_true rfl, Nat.le_of_ble_eq_true rfl⟩ (fun r24 H locs hw hW _ hk hS => ?_)
    refine tJ_X9_addRule_27 C0 hK  (gk_s σ 0 0) a0 a1 a2 a3 r24 hw _ _ hW hS  _ hl
  · have hw := hw.2 c8
    refine lv_aload_n hx hb dX9_addRule_11 rfl (lv_at hl 0 rfl) ?_
    refine lv_iload_n hx hb dX9_addRule_12 rfl (lv_at hl 2 rfl) ?_
    refine lv_bipush (v := 12) hx hb dX9_addRule_13 (by decide) ?_
    refine lv_isub hx hb dX9_addRule_15 ?_
    refine mk_callRi ⟨hx, hb, hml, hown, hts⟩ (c_X9_isRole l D cI cZ cG cL am hw) (cwV 1 hts (gk_gV ml_X9_142 im_X9_isRole se_X9_isRole in_X9 co_X9_isRole) rfl rfl rfl (by decide +kernel) ⟨Nat.le_of_ble_eq_true rfl, Nat.le_of_ble_eq_true rfl⟩) (gk_recv hK.1 (mk_obj hW) rfl) hW hK trivial hS rfl hl.1 (rest := []) rfl (lv_room (Nat.le_of_ble_eq_true rfl)) dX9_addRule_16 ⟨Nat.le_of_ble_eq_true rfl, Nat.le_of_ble_eq_true rfl⟩ (fun r16 H locs hw hW _ hk hS => ?_)
    refine lv_goto (tgt := 27) hx hb dX9_addRule_19 (by decide) ?_
    refine tJ_X9_addRule_27 C0 hK  (gk_s σ 0 0) a0 a1 a2 a3 r16 hw _ _ hW hS  _ hl
def w_X9_setRule (σ : gk_C) (a0 : Int32) (a1 : Int32) (a2 : Int32) (Q : Int32 → gk_C → Prop) : Prop := (w_X9_isRule (gk_s σ 0 0) a0 (fun r7 => ((¬ r7 = 0) → (w_X9_isIn a2 0 9 (fun r23 => ((¬ r23 = 0) → (vp_in a0 30 ∧ vp_in a0 30 ∧ ∀ σ49 : gk_C, σ49 = mk_st (gk_s σ 0 0) 18 a0 (vp_nar .boolean a1) → vp_in a0 30 ∧ ∀ σ56 : gk_C, σ56 = mk_st σ49 22 a0 a2 → Q ((gk_s σ 0 0).1 22 a0.toNatClampNeg) σ56)) ∧ ((r23 = 0) → (w_X9_no (gk_s σ 0 0) 2 (fun r31 σ31 => Q r31 σ31)))))) ∧ ((r7 = 0) → (w_X9_no (gk_s σ 0 0) 1 (fun r15 σ15 => Q r15 σ15)))))
abbrev rmX9_setRule : Room := { frames := 2, cells := 0, slots := 0, locals := 43 }
set_option maxHeartbeats 4000000 in
set_option maxRecDepth 100000 in
theorem c_X9_setRule (l : Launch) (D : va_G) (cI cZ cG cL : ClassId) (am : Nat → Nat) {σ : gk_C} {a0 : Int32} {a1 : Int32} {a2 : Int32} {Q : Int32 → gk_C → Prop} {sz : Nat} (hw : w_X9_setRule σ a0 a1 a2 Q) : Met l yX9_setRule wsX9_setRule rmX9_setRule (mk_Pc (mk_V D cI cZ am) D cI cZ cG cL [.ref (am 38), .int a0, .int a1, .int a2] sz σ (fun _ => True)) (va_Qi (fun r u => Q r u) (mk_B (mk_V D cI cZ am)) (mk_A am sz)) 0 0 (mk_A am sz) := by
  refine Met.ofW (cc := cX9_setRule) (maxL := 5) (ret := (some .int)) (by decide) rfl ?_
  intro p e s m args below meth c s₁ B hml0 hv0
  obtain ⟨rfl, hsz, hW, hK, hX⟩ := hv0
  subst hsz
  have C0 : gk_F p s m ([.ref (am 38), .int a0, .int a1, .int a2] : List Value).toArray meth c cX9_setRule 5 (some .int) RX9 := ⟨B.exec, B.bytes, hml0, findClass_of_methodNamed B.named, fun w hw => atoms_spec (ws := wsX9_setRule) B.pre w (List.mem_cons_of_mem _ hw), B.returns, B.notSynchronized⟩
  obtain ⟨hx, hb, hml, hown, hts, hr, hlocks⟩ := id C0
  have hS : va_S (mk_A am s.heap.size) s.heap s.heap [] := va_S.rf
  have hl := lv_entry ([.ref (am 38), .int a0, .int a1, .int a2]) (n := 5) (Nat.le_of_ble_eq_true rfl)
  rw [lg_entry_eq]
  generalize (lg_sl ([.ref (am 38), .int a0, .int a1, .int a2]) ++ List.replicate (5 - (lg_sl ([.ref (am 38), .int a0, .int a1, .int a2])).length) Slot.unset).toArray = ls at hl ⊢
  have hl : lv_has ls 5 [(0, .ref (am 38)), (1, .int a0), (2, .int a1), (3, .int a2)] := hl
  show W p l e rmX9_setRule s m _ below meth c s.heap [] 0 0 _ _
  refine lv_aload_n hx hb dX9_setRule_0 rfl (lv_at hl 0 rfl) ?_
  refine lv_iconst (v := 0) hx hb dX9_setRule_1 (by decide) ?_
  refine gk_putf (ty := .int) (v := .int 0) hx hb hts iwX9 tyX9 tyX9_ok nmX9 hown hK.1 hS (mk_A.in List.mem_cons_self) (mk_obj hW) rfl 0 (by decide) (hts _ fl_X9_102) (fun _ h9 => h9) rfl (by decide +kernel) rfl rfl (Nat.le_of_ble_eq_true rfl) dX9_setRule_2 (fun H locs h1 _ oq hS => ?_)
  have hW := hW.setS (i := 0) (v := 0) h1 oq
  refine lv_aload_n hx hb dX9_setRule_5 rfl (lv_at hl 0 rfl) ?_
  refine lv_iload_n hx hb dX9_setRule_6 rfl (lv_at hl 1 rfl) ?_
  refine mk_callRi ⟨hx, hb, hml, hown, hts⟩ (c_X9_isRule l D cI cZ cG cL am hw) (cwV 1 hts (gk_gV ml_X9_168 im_X9_isRule se_X9_isRule in_X9 co_X9_isRule) rfl rfl rfl (by decide +kernel) ⟨Nat.le_of_ble_eq_true rfl, Nat.le_of_ble_eq_true rfl⟩) (gk_recv hK.1 (mk_obj hW) rfl) hW hK trivial hS rfl hl.1 (rest := []) rfl (lv_room (Nat.le_of_ble_eq_true rfl)) dX9_setRule_7 ⟨Nat.le_of_ble_eq_true rfl, Nat.le_of_ble_eq_true rfl⟩ (fun r7 H locs hw hW _ hk hS => ?_)
  refine lv_if_ne (tgt := 19) hx hb dX9_setRule_10 (by decide) (fun c10 => ?_) (fun c10 => ?_)
  · have hw := hw.1 c10
    refine lv_iload_n hx hb dX9_setRule_19 rfl (lv_at hl 3 rfl) ?_
    refine lv_iconst (v := 0) hx hb dX9_setRule_20 (by decide) ?_
    refine lv_bipush (v := 9) hx hb dX9_setRule_21 (by decide) ?_
    refine gk_callSi ⟨hx, hb, hml, hown, hts⟩ (c_X9_isIn l hw) (va_cwS 3 hts (gk_gS ml_X9_108 st_X9_isIn in_X9 co_X9_isIn) rfl rfl rfl (by decide +kernel) ⟨Nat.le_of_ble_eq_true rfl, Nat.le_of_ble_eq_true rfl⟩) hS rfl hl.1 (rest := []) rfl (lv_room (Nat.le_of_ble_eq_true rfl)) dX9_setRule_23 ⟨Nat.le_of_ble_eq_true rfl, Nat.le_of_ble_eq_true rfl⟩ (fun r23 H locs hw _ hk hS => ?_)
    have hW := hW.keptAll hk
    refine lv_if_ne (tgt := 35) hx hb dX9_setRule_26 (by decide) (fun c26 => ?_) (fun c26 => ?_)
    · have hw := hw.1 c26
      refine lv_aload_n hx hb dX9_setRule_35 rfl (lv_at hl 0 rfl) ?_
      refine gk_get hx hb hts iwX9 hown hK.1 (mk_obj hW) rfl 22 (by decide) (hts _ fl_X9_57) (fun _ h9 => h9) rfl dX9_setRule_36 ?_
      refine lv_iload_n hx hb dX9_setRule_39 rfl (lv_at hl 1 rfl) ?_
      obtain ⟨hin, hw⟩ := hw
      refine gk_iald hx hb hK.1 0 (mk_arr hW (k := 22) (by decide) (by decide) (by decide)) rfl hin dX9_setRule_40 ?_
      refine lv_istore (lv' := [(4, .int ((gk_s σ 0 0).1 22 a0.toNatClampNeg)), (0, .ref (am 38)), (1, .int a0), (2, .int a1), (3, .int a2)]) hx hb dX9_setRule_41 hl (by decide) rfl (fun ls hl => ?_)
      refine lv_aload_n hx hb dX9_setRule_43 rfl (lv_at hl 1 rfl) ?_
      refine gk_get hx hb hts iwX9 hown hK.1 (mk_obj hW) rfl 18 (by decide) (hts _ fl_X9_45) (fun _ h9 => h9) rfl dX9_setRule_44 ?_
      refine lv_iload_n hx hb dX9_setRule_47 rfl (lv_at hl 2 rfl) ?_
      refine lv_iload_n hx hb dX9_setRule_48 rfl (lv_at hl 3 rfl) ?_
      obtain ⟨hin, hw⟩ := hw
      refine gk_zast hx hb hK.1 hS (mk_A.in (k := 18) (by decide)) 1 (mk_arr hW (k := 18) (by decide) (by decide) (by decide)) rfl hin dX9_setRule_49 (fun H locs h1 _ oq hS => ?_)
      have hW := hW.setR (k := 18) (by decide) (by decide) (by decide) h1 oq
      obtain ⟨σ49, eσ49⟩ : ∃ z, z = mk_st (gk_s σ 0 0) 18 a0 (vp_nar .boolean a1) := ⟨_, rfl⟩
      have hW := mk_stW (Wd := mk_V D cI cZ am) eσ49 hW
      have hw := hw σ49 eσ49
      refine lv_aload_n hx hb dX9_setRule_50 rfl (lv_at hl 1 rfl) ?_
      refine gk_get hx hb hts iwX9 hown hK.1 (mk_obj hW) rfl 22 (by decide) (hts _ fl_X9_57) (fun _ h9 => h9) rfl dX9_setRule_51 ?_
      refine lv_iload_n hx hb dX9_setRule_54 rfl (lv_at hl 2 rfl) ?_
      refine lv_iload_n hx hb dX9_setRule_55 rfl (lv_at hl 4 rfl) ?_
      obtain ⟨hin, hw⟩ := hw
      refine gk_iast hx hb hK.1 hS (mk_A.in (k := 22) (by decide)) 0 (mk_arr hW (k := 22) (by decide) (by decide) (by decide)) rfl hin dX9_setRule_56 (fun H locs h1 _ oq hS => ?_)
      have hW := hW.setR (k := 22) (by decide) (by decide) (by decide) h1 oq
      obtain ⟨σ56, eσ56⟩ : ∃ z, z = mk_st σ49 22 a0 a2 := ⟨_, rfl⟩
      have hW := mk_stW (Wd := mk_V D cI cZ am) eσ56 hW
      have hw := hw σ56 eσ56
      refine lv_iload hx hb dX9_setRule_57 (lv_at hl 0 rfl) ?_
      refine W.widen (k := 0) (n := 0) (Nat.le_of_ble_eq_true rfl) (Nat.le_of_ble_eq_true rfl) ?_
      exact mk_reti C0 hw hW hS dX9_setRule_59
    · have hw := hw.2 c26
      refine lv_aload_n hx hb dX9_setRule_29 rfl (lv_at hl 0 rfl) ?_
      refine lv_iconst (v := 2) hx hb dX9_setRule_30 (by decide) ?_
      refine mk_callVi ⟨hx, hb, hml, hown, hts⟩ (c_X9_no l D cI cZ cG cL am hw) (cwV 1 hts (gk_gV ml_X9_139 im_X9_no se_X9_no in_X9 co_X9_no) rfl rfl rfl (by decide +kernel) ⟨Nat.le_of_ble_eq_true rfl, Nat.le_of_ble_eq_true rfl⟩) (gk_recv hK.1 (mk_obj hW) rfl) hW hK trivial hS rfl hl.1 (rest := []) rfl (lv_room (Nat.le_of_ble_eq_true rfl)) dX9_setRule_31 ⟨Nat.le_of_ble_eq_true rfl, Nat.le_of_ble_eq_true rfl⟩ (fun r31 σ31 H locs hw hW _ hk hS => ?_)
      refine W.widen (k := 0) (n := 0) (Nat.le_of_ble_eq_true rfl) (Nat.le_of_ble_eq_true rfl) ?_
      exact mk_reti C0 hw hW hS dX9_setRule_34
  · have hw := hw.2 c10
    refine lv_aload_n hx hb dX9_setRule_13 rfl (lv_at hl 0 rfl) ?_
    refine lv_iconst (v := 1) hx hb dX9_setRule_14 (by decide) ?_
    refine mk_callVi ⟨hx, hb, hml, hown, hts⟩ (c_X9_no l D cI cZ cG cL am hw) (cwV 1 hts (gk_gV ml_X9_139 im_X9_no se_X9_no in_X9 co_X9_no) rfl rfl rfl (by decide +kernel) ⟨Nat.le_of_ble_eq_true rfl, Nat.le_of_ble_eq_true rfl⟩) (gk_recv hK.1 (mk_obj hW) rfl) hW hK trivial hS rfl hl.1 (rest := []) rfl (lv_room (Nat.le_of_ble_eq_true rfl)) dX9_setRule_15 ⟨Nat.le_of_ble_eq_true rfl, Nat.le_of_ble_eq_true rfl⟩ (fun r15 σ15 H locs hw hW _ hk hS => ?_)
    refine W.widen (k := 0) (n := 0) (Nat.le_of_ble_eq_true rfl) (Nat.le_of_ble_eq_true rfl) ?_
    exact mk_reti C0 hw hW hS dX9_setRule_18
def wJ_X9_setTerms_51 (Q : Int32 → gk_C → Prop) (σ : gk_C) : Prop := (w_X9_no σ 2 (fun r53 σ53 => Q r53 σ53))
def w_X9_setTerms (σ : gk_C) (a0 : Int32) (a1 : Int32) (a2 : Int32) (a3 : Int32) (Q : Int32 → gk_C → Prop) : Prop := (w_X9_isRule (gk_s σ 0 0) a0 (fun r7 => ((¬ r7 = 0) → (w_X9_isIn a1 0 255 (fun r24 => ((r24 = 0) → (wJ_X9_setTerms_51 Q (gk_s σ 0 0))) ∧ ((¬ r24 = 0) → (w_X9_isIn a2 0 23 (fun r34 => ((r34 = 0) → (wJ_X9_setTerms_51 Q (gk_s σ 0 0))) ∧ ((¬ r34 = 0) → (w_X9_isIn a3 0 23 (fun r45 => ((¬ r45 = 0) → (vp_in a0 30 ∧ vp_in a0 30 ∧ ∀ σ71 : gk_C, σ71 = mk_st (gk_s σ 0 0) 23 a0 a1 → vp_in a0 30 ∧ ∀ σ78 : gk_C, σ78 = mk_st σ71 24 a0 a2 → vp_in a0 30 ∧ ∀ σ86 : gk_C, σ86 = mk_st σ78 25 a0 a3 → Q ((gk_s σ 0 0).1 23 a0.toNatClampNeg) σ86)) ∧ ((r45 = 0) → (wJ_X9_setTerms_51 Q (gk_s σ 0 0)))))))))))) ∧ ((r7 = 0) → (w_X9_no (gk_s σ 0 0) 1 (fun r15 σ15 => Q r15 σ15)))))
abbrev rmX9_setTerms : Room := { frames := 2, cells := 0, slots := 0, locals := 43 }
set_option maxHeartbeats 4000000 in
set_option maxRecDepth 100000 in
theorem tJ_X9_setTerms_51 {p : Program} {l : Launch} {e : Env} {s : State} {m : MethodId} {args : Array Value} {below : List Frame} {meth : Method} {c : Code} {D : va_G} {cI cZ cG cL : ClassId} {am : Nat → Nat} (C0 : gk_F p s m args meth c cX9_setTerms 6 (some .int) RX9) (hK : gk_K D cI cZ cG cL s) {Q : Int32 → gk_C → Prop} : ∀ (σ : gk_C), wJ_X9_setTerms_51 Q σ → ∀ (H : Heap) (locs : List Loc), mk_V D cI cZ am σ H → va_S (mk_A am s.heap.size) s.heap H locs → ∀ (ls : Array Slot), lv_has ls 6 [(0, .ref (am 38))] → W p l e rmX9_setTerms s m args below meth c H locs 0 0 (MQ below (va_Qi (fun r u => Q r u) (mk_B (mk_V D cI cZ am)) (mk_A am s.heap.size)) args s 0 0 (mk_A am s.heap.size)) (F0 m 51 ls []) := by
  obtain ⟨hx, hb, hml, hown, hts, hr, hlocks⟩ := id C0
  intro σ hw H locs hW hS  ls hl
  refine lv_aload_n hx hb dX9_setTerms_51 rfl (lv_at hl 0 rfl) ?_
  refine lv_iconst (v := 2) hx hb dX9_setTerms_52 (by decide) ?_
  refine mk_callVi ⟨hx, hb, hml, hown, hts⟩ (c_X9_no l D cI cZ cG cL am hw) (cwV 1 hts (gk_gV ml_X9_139 im_X9_no se_X9_no in_X9 co_X9_no) rfl rfl rfl (by decide +kernel) ⟨Nat.le_of_ble_eq_true rfl, Nat.le_of_ble_eq_true rfl⟩) (gk_recv hK.1 (mk_obj hW) rfl) hW hK trivial hS rfl hl.1 (rest := []) rfl (lv_room (Nat.le_of_ble_eq_true rfl)) dX9_setTerms_53 ⟨Nat.le_of_ble_eq_true rfl, Nat.le_of_ble_eq_true rfl⟩ (fun r53 σ53 H locs hw hW _ hk hS => ?_)
  refine W.widen (k := 0) (n := 0) (Nat.le_of_ble_eq_true rfl) (Nat.le_of_ble_eq_true rfl) ?_
  exact mk_reti C0 hw hW hS dX9_setTerms_56
set_option maxHeartbeats 4000000 in
set_option maxRecDepth 100000 in
theorem c_X9_setTerms (l : Launch) (D : va_G) (cI cZ cG cL : ClassId) (am : Nat → Nat) {σ : gk_C} {a0 : Int32} {a1 : Int32} {a2 : Int32} {a3 : Int32} {Q : Int32 → gk_C → Prop} {sz : Nat} (hw : w_X9_setTerms σ a0 a1 a2 a3 Q) : Met l yX9_setTerms wsX9_setTerms rmX9_setTerms (mk_Pc (mk_V D cI cZ am) D cI cZ cG cL [.ref (am 38), .int a0, .int a1, .int a2, .int a3] sz σ (fun _ => True)) (va_Qi (fun r u => Q r u) (mk_B (mk_V D cI cZ am)) (mk_A am sz)) 0 0 (mk_A am sz) := by
  refine Met.ofW (cc := cX9_setTerms) (maxL := 6) (ret := (some .int)) (by decide) rfl ?_
  intro p e s m args below meth c s₁ B hml0 hv0
  obtain ⟨rfl, hsz, hW, hK, hX⟩ := hv0
  subst hsz
  have C0 : gk_F p s m ([.ref (am 38), .int a0, .int a1, .int a2, .int a3] : List Value).toArray meth c cX9_setTerms 6 (some .int) RX9 := ⟨B.exec, B.bytes, hml0, findClass_of_methodNamed B.named, fun w hw => atoms_spec (ws := wsX9_setTerms) B.pre w (List.mem_cons_of_mem _ hw), B.returns, B.notSynchronized⟩
  obtain ⟨hx, hb, hml, hown, hts, hr, hlocks⟩ := id C0
  have hS : va_S (mk_A am s.heap.size) s.heap s.heap [] := va_S.rf
  have hl := lv_entry ([.ref (am 38), .int a0, .int a1, .int a2, .int a3]) (n := 6) (Nat.le_of_ble_eq_true rfl)
  rw [lg_entry_eq]
  generalize (lg_sl ([.ref (am 38), .int a0, .int a1, .int a2, .int a3]) ++ List.replicate (6 - (lg_sl ([.ref (am 38), .int a0, .int a1, .int a2, .int a3])).length) Slot.unset).toArray = ls at hl ⊢
  have hl : lv_has ls 6 [(0, .ref (am 38)), (1, .int a0), (2, .int a1), (3, .int a2), (4, .int a3)] := hl
  show W p l e rmX9_setTerms s m _ below meth c s.heap [] 0 0 _ _
  refine lv_aload_n hx hb dX9_setTerms_0 rfl (lv_at hl 0 rfl) ?_
  refine lv_iconst (v := 0) hx hb dX9_setTerms_1 (by decide) ?_
  refine gk_putf (ty := .int) (v := .int 0) hx hb hts iwX9 tyX9 tyX9_ok nmX9 hown hK.1 hS (mk_A.in List.mem_cons_self) (mk_obj hW) rfl 0 (by decide) (hts _ fl_X9_102) (fun _ h9 => h9) rfl (by decide +kernel) rfl rfl (Nat.le_of_ble_eq_true rfl) dX9_setTerms_2 (fun H locs h1 _ oq hS => ?_)
  have hW := hW.setS (i := 0) (v := 0) h1 oq
  refine lv_aload_n hx hb dX9_setTerms_5 rfl (lv_at hl 0 rfl) ?_
  refine lv_iload_n hx hb dX9_setTerms_6 rfl (lv_at hl 1 rfl) ?_
  refine mk_callRi ⟨hx, hb, hml, hown, hts⟩ (c_X9_isRule l D cI cZ cG cL am hw) (cwV 1 hts (gk_gV ml_X9_168 im_X9_isRule se_X9_isRule in_X9 co_X9_isRule) rfl rfl rfl (by decide +kernel) ⟨Nat.le_of_ble_eq_true rfl, Nat.le_of_ble_eq_true rfl⟩) (gk_recv hK.1 (mk_obj hW) rfl) hW hK trivial hS rfl hl.1 (rest := []) rfl (lv_room (Nat.le_of_ble_eq_true rfl)) dX9_setTerms_7 ⟨Nat.le_of_ble_eq_true rfl, Nat.le_of_ble_eq_true rfl⟩ (fun r7 H locs hw hW _ hk hS => ?_)
  refine lv_if_ne (tgt := 19) hx hb dX9_setTerms_10 (by decide) (fun c10 => ?_) (fun c10 => ?_)
  · have hw := hw.1 c10
    refine lv_iload_n hx hb dX9_setTerms_19 rfl (lv_at hl 2 rfl) ?_
    refine lv_iconst (v := 0) hx hb dX9_setTerms_20 (by decide) ?_
    refine lv_sipush (v := 255) hx hb dX9_setTerms_21 (by decide) ?_
    refine gk_callSi ⟨hx, hb, hml, hown, hts⟩ (c_X9_isIn l hw) (va_cwS 3 hts (gk_gS ml_X9_108 st_X9_isIn in_X9 co_X9_isIn) rfl rfl rfl (by decide +kernel) ⟨Nat.le_of_ble_eq_true rfl, Nat.le_of_ble_eq_true rfl⟩) hS rfl hl.1 (rest := []) rfl (lv_room (Nat.le_of_ble_eq_true rfl)) dX9_setTerms_24 ⟨Nat.le_of_ble_eq_true rfl, Nat.le_of_ble_eq_true rfl⟩ (fun r24 H locs hw _ hk hS => ?_)
    have hW := hW.keptAll hk
    refine lv_if_eq (tgt := 51) hx hb dX9_setTerms_27 (by decide) (fun c27 => ?_) (fun c27 => ?_)
    · have hw := hw.1 c27
      refine tJ_X9_setTerms_51 C0 hK  (gk_s σ 0 0) hw _ _ hW hS  _ (lv_sub hl [0] rfl)
    · have hw := hw.2 c27
      refine lv_iload_n hx hb dX9_setTerms_30 rfl (lv_at hl 3 rfl) ?_
      refine lv_iconst (v := 0) hx hb dX9_setTerms_31 (by decide) ?_
      refine lv_bipush (v := 23) hx hb dX9_setTerms_32 (by decide) ?_
      refine gk_callSi ⟨hx, hb, hml, hown, hts⟩ (c_X9_isIn l hw) (va_cwS 3 hts (gk_gS ml_X9_108 st_X9_isIn in_X9 co_X9_isIn) rfl rfl rfl (by decide +kernel) ⟨Nat.le_of_ble_eq_true rfl, Nat.le_of_ble_eq_true rfl⟩) hS rfl hl.1 (rest := []) rfl (lv_room (Nat.le_of_ble_eq_true rfl)) dX9_setTerms_34 ⟨Nat.le_of_ble_eq_true rfl, Nat.le_of_ble_eq_true rfl⟩ (fun r34 H locs hw _ hk hS => ?_)
      have hW := hW.keptAll hk
      refine lv_if_eq (tgt := 51) hx hb dX9_setTerms_37 (by decide) (fun c37 => ?_) (fun c37 => ?_)
      · have hw := hw.1 c37
        refine tJ_X9_setTerms_51 C0 hK  (gk_s σ 0 0) hw _ _ hW hS  _ (lv_sub hl [0] rfl)
      · have hw := hw.2 c37
        refine lv_iload hx hb dX9_setTerms_40 (lv_at hl 4 rfl) ?_
        refine lv_iconst (v := 0) hx hb dX9_setTerms_42 (by decide) ?_
        refine lv_bipush (v := 23) hx hb dX9_setTerms_43 (by decide) ?_
        refine gk_callSi ⟨hx, hb, hml, hown, hts⟩ (c_X9_isIn l hw) (va_cwS 3 hts (gk_gS ml_X9_108 st_X9_isIn in_X9 co_X9_isIn) rfl rfl rfl (by decide +kernel) ⟨Nat.le_of_ble_eq_true rfl, Nat.le_of_ble_eq_true rfl⟩) hS rfl hl.1 (rest := []) rfl (lv_room (Nat.le_of_ble_eq_true rfl)) dX9_setTerms_45 ⟨Nat.le_of_ble_eq_true rfl, Nat.le_of_ble_eq_true rfl⟩ (fun r45 H locs hw _ hk hS => ?_)
        have hW := hW.keptAll hk
        refine lv_if_ne (tgt := 57) hx hb dX9_setTerms_48 (by decide) (fun c48 => ?_) (fun c48 => ?_)
        · have hw := hw.1 c48
          refine lv_aload_n hx hb dX9_setTerms_57 rfl (lv_at hl 0 rfl) ?_
          refine gk_get hx hb hts iwX9 hown hK.1 (mk_obj hW) rfl 23 (by decide) (hts _ fl_X9_60) (fun _ h9 => h9) rfl dX9_setTerms_58 ?_
          refine lv_iload_n hx hb dX9_setTerms_61 rfl (lv_at hl 1 rfl) ?_
          obtain ⟨hin, hw⟩ := hw
          refine gk_iald hx hb hK.1 0 (mk_arr hW (k := 23) (by decide) (by decide) (by decide)) rfl hin dX9_setTerms_62 ?_
          refine lv_istore (lv' := [(5, .int ((gk_s σ 0 0).1 23 a0.toNatClampNeg)), (0, .ref (am 38)), (1, .int a0), (2, .int a1), (3, .int a2), (4, .int a3)]) hx hb dX9_setTerms_63 hl (by decide) rfl (fun ls hl => ?_)
          refine lv_aload_n hx hb dX9_setTerms_65 rfl (lv_at hl 1 rfl) ?_
          refine gk_get hx hb hts iwX9 hown hK.1 (mk_obj hW) rfl 23 (by decide) (hts _ fl_X9_60) (fun _ h9 => h9) rfl dX9_setTerms_66 ?_
          refine lv_iload_n hx hb dX9_setTerms_69 rfl (lv_at hl 2 rfl) ?_
          refine lv_iload_n hx hb dX9_setTerms_70 rfl (lv_at hl 3 rfl) ?_
          obtain ⟨hin, hw⟩ := hw
          refine gk_iast hx hb hK.1 hS (mk_A.in (k := 23) (by decide)) 0 (mk_arr hW (k := 23) (by decide) (by decide) (by decide)) rfl hin dX9_setTerms_71 (fun H locs h1 _ oq hS => ?_)
          have hW := hW.setR (k := 23) (by decide) (by decide) (by decide) h1 oq
          obtain ⟨σ71, eσ71⟩ : ∃ z, z = mk_st (gk_s σ 0 0) 23 a0 a1 := ⟨_, rfl⟩
          have hW := mk_stW (Wd := mk_V D cI cZ am) eσ71 hW
          have hw := hw σ71 eσ71
          refine lv_aload_n hx hb dX9_setTerms_72 rfl (lv_at hl 1 rfl) ?_
          refine gk_get hx hb hts iwX9 hown hK.1 (mk_obj hW) rfl 24 (by decide) (hts _ fl_X9_63) (fun _ h9 => h9) rfl dX9_setTerms_73 ?_
          refine lv_iload_n hx hb dX9_setTerms_76 rfl (lv_at hl 2 rfl) ?_
          refine lv_iload_n hx hb dX9_setTerms_77 rfl (lv_at hl 4 rfl) ?_
          obtain ⟨hin, hw⟩ := hw
          refine gk_iast hx hb hK.1 hS (mk_A.in (k := 24) (by decide)) 0 (mk_arr hW (k := 24) (by decide) (by decide) (by decide)) rfl hin dX9_setTerms_78 (fun H locs h1 _ oq hS => ?_)
          have hW := hW.setR (k := 24) (by decide) (by decide) (by decide) h1 oq
          obtain ⟨σ78, eσ78⟩ : ∃ z, z = mk_st σ71 24 a0 a2 := ⟨_, rfl⟩
          have hW := mk_stW (Wd := mk_V D cI cZ am) eσ78 hW
          have hw := hw σ78 eσ78
          refine lv_aload_n hx hb dX9_setTerms_79 rfl (lv_at hl 1 rfl) ?_
          refine gk_get hx hb hts iwX9 hown hK.1 (mk_obj hW) rfl 25 (by decide) (hts _ fl_X9_66) (fun _ h9 => h9) rfl dX9_setTerms_80 ?_
          refine lv_iload_n hx hb dX9_setTerms_83 rfl (lv_at hl 2 rfl) ?_
          refine lv_iload hx hb dX9_setTerms_84 (lv_at hl 5 rfl) ?_
          obtain ⟨hin, hw⟩ := hw
          refine gk_iast hx hb hK.1 hS (mk_A.in (k := 25) (by decide)) 0 (mk_arr hW (k := 25) (by decide) (by decide) (by decide)) rfl hin dX9_setTerms_86 (fun H locs h1 _ oq hS => ?_)
          have hW := hW.setR (k := 25) (by decide) (by decide) (by decide) h1 oq
          obtain ⟨σ86, eσ86⟩ : ∃ z, z = mk_st σ78 25 a0 a3 := ⟨_, rfl⟩
          have hW := mk_stW (Wd := mk_V D cI cZ am) eσ86 hW
          have hw := hw σ86 eσ86
          refine lv_iload hx hb dX9_setTerms_87 (lv_at hl 0 rfl) ?_
          refine W.widen (k := 0) (n := 0) (Nat.le_of_ble_eq_true rfl) (Nat.le_of_ble_eq_true rfl) ?_
          exact mk_reti C0 hw hW hS dX9_setTerms_89
        · have hw := hw.2 c48
          refine tJ_X9_setTerms_51 C0 hK  (gk_s σ 0 0) hw _ _ hW hS  _ (lv_sub hl [0] rfl)
  · have hw := hw.2 c10
    refine lv_aload_n hx hb dX9_setTerms_13 rfl (lv_at hl 0 rfl) ?_
    refine lv_iconst (v := 1) hx hb dX9_setTerms_14 (by decide) ?_
    refine mk_callVi ⟨hx, hb, hml, hown, hts⟩ (c_X9_no l D cI cZ cG cL am hw) (cwV 1 hts (gk_gV ml_X9_139 im_X9_no se_X9_no in_X9 co_X9_no) rfl rfl rfl (by decide +kernel) ⟨Nat.le_of_ble_eq_true rfl, Nat.le_of_ble_eq_true rfl⟩) (gk_recv hK.1 (mk_obj hW) rfl) hW hK trivial hS rfl hl.1 (rest := []) rfl (lv_room (Nat.le_of_ble_eq_true rfl)) dX9_setTerms_15 ⟨Nat.le_of_ble_eq_true rfl, Nat.le_of_ble_eq_true rfl⟩ (fun r15 σ15 H locs hw hW _ hk hS => ?_)
    refine W.widen (k := 0) (n := 0) (Nat.le_of_ble_eq_true rfl) (Nat.le_of_ble_eq_true rfl) ?_
    exact mk_reti C0 hw hW hS dX9_setTerms_18
def wL_X9_dropRule_31 (Q : Int32 → gk_C → Prop) : Nat → gk_C → Int32 → Prop
  | 0 => fun _ _ => False
  | n + 1 => fun σ x2 => ((((σ.2 16) ≤ x2) → (Q (σ.2 16) σ)) ∧ ((¬ (σ.2 16) ≤ x2) → (vp_in (x2 + 1) 30 ∧ vp_in x2 30 ∧ ∀ σ52 : gk_C, σ52 = mk_st σ 17 x2 (vp_nar .boolean (σ.1 17 (x2 + 1).toNatClampNeg)) → vp_in (x2 + 1) 30 ∧ vp_in x2 30 ∧ ∀ σ66 : gk_C, σ66 = mk_st σ52 18 x2 (vp_nar .boolean (σ52.1 18 (x2 + 1).toNatClampNeg)) → vp_in (x2 + 1) 30 ∧ vp_in x2 30 ∧ ∀ σ80 : gk_C, σ80 = mk_st σ66 19 x2 (σ66.1 19 (x2 + 1).toNatClampNeg) → vp_in (x2 + 1) 30 ∧ vp_in x2 30 ∧ ∀ σ94 : gk_C, σ94 = mk_st σ80 20 x2 (σ80.1 20 (x2 + 1).toNatClampNeg) → vp_in (x2 + 1) 30 ∧ vp_in x2 30 ∧ ∀ σ108 : gk_C, σ108 = mk_st σ94 21 x2 (σ94.1 21 (x2 + 1).toNatClampNeg) → vp_in (x2 + 1) 30 ∧ vp_in x2 30 ∧ ∀ σ122 : gk_C, σ122 = mk_st σ108 22 x2 (σ108.1 22 (x2 + 1).toNatClampNeg) → vp_in (x2 + 1) 30 ∧ vp_in x2 30 ∧ ∀ σ136 : gk_C, σ136 = mk_st σ122 23 x2 (σ122.1 23 (x2 + 1).toNatClampNeg) → vp_in (x2 + 1) 30 ∧ vp_in x2 30 ∧ ∀ σ150 : gk_C, σ150 = mk_st σ136 24 x2 (σ136.1 24 (x2 + 1).toNatClampNeg) → vp_in (x2 + 1) 30 ∧ vp_in x2 30 ∧ ∀ σ164 : gk_C, σ164 = mk_st σ150 25 x2 (σ150.1 25 (x2 + 1).toNatClampNeg) → wL_X9_dropRule_31 Q n σ164 (x2 + 1))))
def w_X9_dropRule (σ : gk_C) (a0 : Int32) (Q : Int32 → gk_C → Prop) : Prop := (w_X9_isRule (gk_s σ 0 0) a0 (fun r7 => ((¬ r7 = 0) → (∃ n31, wL_X9_dropRule_31 Q n31 (gk_s (gk_s σ 0 0) 16 (((gk_s σ 0 0).2 16) - 1)) a0)) ∧ ((r7 = 0) → (w_X9_no (gk_s σ 0 0) 1 (fun r15 σ15 => Q r15 σ15)))))
abbrev rmX9_dropRule : Room := { frames := 2, cells := 0, slots := 0, locals := 43 }
set_option maxHeartbeats 4000000 in
set_option maxRecDepth 100000 in
theorem tL_X9_dropRule_31 {p : Program} {l : Launch} {e : Env} {s : State} {m : MethodId} {args : Array Value} {below : List Frame} {meth : Method} {c : Code} {D : va_G} {cI cZ cG cL : ClassId} {am : Nat → Nat} (C0 : gk_F p s m args meth c cX9_dropRule 3 (some .int) RX9) (hK : gk_K D cI cZ cG cL s) {Q : Int32 → gk_C → Prop} : ∀ (n : Nat) (σ : gk_C) (x2 : Int32), wL_X9_dropRule_31 Q n σ x2 → ∀ (H : Heap) (locs : List Loc), mk_V D cI cZ am σ H → va_S (mk_A am s.heap.size) s.heap H locs → ∀ (ls : Array Slot), lv_has ls 3 [(0, .ref (am 38)), (2, .int x2)] → W p l e rmX9_dropRule s m args below meth c H locs 0 0 (MQ below (va_Qi (fun r u => Q r u) (mk_B (mk_V D cI cZ am)) (mk_A am s.heap.size)) args s 0 0 (mk_A am s.heap.size)) (F0 m 31 ls []) := by
  obtain ⟨hx, hb, hml, hown, hts, hr, hlocks⟩ := id C0
  intro n
  induction n with
  | zero => exact fun _ _ hw => False.elim hw
  | succ n ih =>
    intro σ x2 hw H locs hW hS  ls hl
    refine lv_iload_n hx hb dX9_dropRule_31 rfl (lv_at hl 1 rfl) ?_
    refine lv_aload_n hx hb dX9_dropRule_32 rfl (lv_at hl 0 rfl) ?_
    refine gk_get hx hb hts iwX9 hown hK.1 (mk_obj hW) rfl 16 (by decide) (hts _ fl_X9_165) (fun _ h9 => h9) rfl dX9_dropRule_33 ?_
    refine lv_icmp_ge (tgt := 171) hx hb dX9_dropRule_36 (by decide) (fun c36 => ?_) (fun c36 => ?_)
    · have hw := hw.1 c36
      refine lv_aload_n hx hb dX9_dropRule_171 rfl (lv_at hl 0 rfl) ?_
      refine gk_get hx hb hts iwX9 hown hK.1 (mk_obj hW) rfl 16 (by decide) (hts _ fl_X9_165) (fun _ h9 => h9) rfl dX9_dropRule_172 ?_
      refine W.widen (k := 0) (n := 0) (Nat.le_of_ble_eq_true rfl) (Nat.le_of_ble_eq_true rfl) ?_
      exact mk_reti C0 hw hW hS dX9_dropRule_175
    · have hw := hw.2 c36
      refine lv_aload_n hx hb dX9_dropRule_39 rfl (lv_at hl 0 rfl) ?_
      refine gk_get hx hb hts iwX9 hown hK.1 (mk_obj hW) rfl 17 (by decide) (hts _ fl_X9_41) (fun _ h9 => h9) rfl dX9_dropRule_40 ?_
      refine lv_iload_n hx hb dX9_dropRule_43 rfl (lv_at hl 1 rfl) ?_
      refine lv_aload_n hx hb dX9_dropRule_44 rfl (lv_at hl 0 rfl) ?_
      refine gk_get hx hb hts iwX9 hown hK.1 (mk_obj hW) rfl 17 (by decide) (hts _ fl_X9_41) (fun _ h9 => h9) rfl dX9_dropRule_45 ?_
      refine lv_iload_n hx hb dX9_dropRule_48 rfl (lv_at hl 1 rfl) ?_
      refine lv_iconst (v := 1) hx hb dX9_dropRule_49 (by decide) ?_
      refine lv_iadd hx hb dX9_dropRule_50 ?_
      obtain ⟨hin, hw⟩ := hw
      refine gk_zald hx hb hK.1 1 (mk_arr hW (k := 17) (by decide) (by decide) (by decide)) rfl hin dX9_dropRule_51 ?_
      obtain ⟨hin, hw⟩ := hw
      refine gk_zast hx hb hK.1 hS (mk_A.in (k := 17) (by decide)) 1 (mk_arr hW (k := 17) (by decide) (by decide) (by decide)) rfl hin dX9_dropRule_52 (fun H locs h1 _ oq hS => ?_)
      have hW := hW.setR (k := 17) (by decide) (by decide) (by decide) h1 oq
      obtain ⟨σ52, eσ52⟩ : ∃ z, z = mk_st σ 17 x2 (vp_nar .boolean (σ.1 17 (x2 + 1).toNatClampNeg)) := ⟨_, rfl⟩
      have hW := mk_stW (Wd := mk_V D cI cZ am) eσ52 hW
      have hw := hw σ52 eσ52
      refine lv_aload_n hx hb dX9_dropRule_53 rfl (lv_at hl 0 rfl) ?_
      refine gk_get hx hb hts iwX9 hown hK.1 (mk_obj hW) rfl 18 (by decide) (hts _ fl_X9_45) (fun _ h9 => h9) rfl dX9_dropRule_54 ?_
      refine lv_iload_n hx hb dX9_dropRule_57 rfl (lv_at hl 1 rfl) ?_
      refine lv_aload_n hx hb dX9_dropRule_58 rfl (lv_at hl 0 rfl) ?_
      refine gk_get hx hb hts iwX9 hown hK.1 (mk_obj hW) rfl 18 (by decide) (hts _ fl_X9_45) (fun _ h9 => h9) rfl dX9_dropRule_59 ?_
      refine lv_iload_n hx hb dX9_dropRule_62 rfl (lv_at hl 1 rfl) ?_
      refine lv_iconst (v := 1) hx hb dX9_dropRule_63 (by decide) ?_
      refine lv_iadd hx hb dX9_dropRule_64 ?_
      obtain ⟨hin, hw⟩ := hw
      refine gk_zald hx hb hK.1 1 (mk_arr hW (k := 18) (by decide) (by decide) (by decide)) rfl hin dX9_dropRule_65 ?_
      obtain ⟨hin, hw⟩ := hw
      refine gk_zast hx hb hK.1 hS (mk_A.in (k := 18) (by decide)) 1 (mk_arr hW (k := 18) (by decide) (by decide) (by decide)) rfl hin dX9_dropRule_66 (fun H locs h1 _ oq hS => ?_)
      have hW := hW.setR (k := 18) (by decide) (by decide) (by decide) h1 oq
      obtain ⟨σ66, eσ66⟩ : ∃ z, z = mk_st σ52 18 x2 (vp_nar .boolean (σ52.1 18 (x2 + 1).toNatClampNeg)) := ⟨_, rfl⟩
      have hW := mk_stW (Wd := mk_V D cI cZ am) eσ66 hW
      have hw := hw σ66 eσ66
      refine lv_aload_n hx hb dX9_dropRule_67 rfl (lv_at hl 0 rfl) ?_
      refine gk_get hx hb hts iwX9 hown hK.1 (mk_obj hW) rfl 19 (by decide) (hts _ fl_X9_48) (fun _ h9 => h9) rfl dX9_dropRule_68 ?_
      refine lv_iload_n hx hb dX9_dropRule_71 rfl (lv_at hl 1 rfl) ?_
      refine lv_aload_n hx hb dX9_dropRule_72 rfl (lv_at hl 0 rfl) ?_
      refine gk_get hx hb hts iwX9 hown hK.1 (mk_obj hW) rfl 19 (by decide) (hts _ fl_X9_48) (fun _ h9 => h9) rfl dX9_dropRule_73 ?_
      refine lv_iload_n hx hb dX9_dropRule_76 rfl (lv_at hl 1 rfl) ?_
      refine lv_iconst (v := 1) hx hb dX9_dropRule_77 (by decide) ?_
      refine lv_iadd hx hb dX9_dropRule_78 ?_
      obtain ⟨hin, hw⟩ := hw
      refine gk_iald hx hb hK.1 0 (mk_arr hW (k := 19) (by decide) (by decide) (by decide)) rfl hin dX9_dropRule_79 ?_
      obtain ⟨hin, hw⟩ := hw
      refine gk_iast hx hb hK.1 hS (mk_A.in (k := 19) (by decide)) 0 (mk_arr hW (k := 19) (by decide) (by decide) (by decide)) rfl hin dX9_dropRule_80 (fun H locs h1 _ oq hS => ?_)
      have hW := hW.setR (k := 19) (by decide) (by decide) (by decide) h1 oq
      obtain ⟨σ80, eσ80⟩ : ∃ z, z = mk_st σ66 19 x2 (σ66.1 19 (x2 + 1).toNatClampNeg) := ⟨_, rfl⟩
      have hW := mk_stW (Wd := mk_V D cI cZ am) eσ80 hW
      have hw := hw σ80 eσ80
      refine lv_aload_n hx hb dX9_dropRule_81 rfl (lv_at hl 0 rfl) ?_
      refine gk_get hx hb hts iwX9 hown hK.1 (mk_obj hW) rfl 20 (by decide) (hts _ fl_X9_51) (fun _ h9 => h9) rfl dX9_dropRule_82 ?_
      refine lv_iload_n hx hb dX9_dropRule_85 rfl (lv_at hl 1 rfl) ?_
      refine lv_aload_n hx hb dX9_dropRule_86 rfl (lv_at hl 0 rfl) ?_
      refine gk_get hx hb hts iwX9 hown hK.1 (mk_obj hW) rfl 20 (by decide) (hts _ fl_X9_51) (fun _ h9 => h9) rfl dX9_dropRule_87 ?_
      refine lv_iload_n hx hb dX9_dropRule_90 rfl (lv_at hl 1 rfl) ?_
      refine lv_iconst (v := 1) hx hb dX9_dropRule_91 (by decide) ?_
      refine lv_iadd hx hb dX9_dropRule_92 ?_
      obtain ⟨hin, hw⟩ := hw
      refine gk_iald hx hb hK.1 0 (mk_arr hW (k := 20) (by decide) (by decide) (by decide)) rfl hin dX9_dropRule_93 ?_
      obtain ⟨hin, hw⟩ := hw
      refine gk_iast hx hb hK.1 hS (mk_A.in (k := 20) (by decide)) 0 (mk_arr hW (k := 20) (by decide) (by decide) (by decide)) rfl hin dX9_dropRule_94 (fun H locs h1 _ oq hS => ?_)
      have hW := hW.setR (k := 20) (by decide) (by decide) (by decide) h1 oq
      obtain ⟨σ94, eσ94⟩ : ∃ z, z = mk_st σ80 20 x2 (σ80.1 20 (x2 + 1).toNatClampNeg) := ⟨_, rfl⟩
      have hW := mk_stW (Wd := mk_V D cI cZ am) eσ94 hW
      have hw := hw σ94 eσ94
      refine lv_aload_n hx hb dX9_dropRule_95 rfl (lv_at hl 0 rfl) ?_
      refine gk_get hx hb hts iwX9 hown hK.1 (mk_obj hW) rfl 21 (by decide) (hts _ fl_X9_54) (fun _ h9 => h9) rfl dX9_dropRule_96 ?_
      refine lv_iload_n hx hb dX9_dropRule_99 rfl (lv_at hl 1 rfl) ?_
      refine lv_aload_n hx hb dX9_dropRule_100 rfl (lv_at hl 0 rfl) ?_
      refine gk_get hx hb hts iwX9 hown hK.1 (mk_obj hW) rfl 21 (by decide) (hts _ fl_X9_54) (fun _ h9 => h9) rfl dX9_dropRule_101 ?_
      refine lv_iload_n hx hb dX9_dropRule_104 rfl (lv_at hl 1 rfl) ?_
      refine lv_iconst (v := 1) hx hb dX9_dropRule_105 (by decide) ?_
      refine lv_iadd hx hb dX9_dropRule_106 ?_
      obtain ⟨hin, hw⟩ := hw
      refine gk_iald hx hb hK.1 0 (mk_arr hW (k := 21) (by decide) (by decide) (by decide)) rfl hin dX9_dropRule_107 ?_
      obtain ⟨hin, hw⟩ := hw
      refine gk_iast hx hb hK.1 hS (mk_A.in (k := 21) (by decide)) 0 (mk_arr hW (k := 21) (by decide) (by decide) (by decide)) rfl hin dX9_dropRule_108 (fun H locs h1 _ oq hS => ?_)
      have hW := hW.setR (k := 21) (by decide) (by decide) (by decide) h1 oq
      obtain ⟨σ108, eσ108⟩ : ∃ z, z = mk_st σ94 21 x2 (σ94.1 21 (x2 + 1).toNatClampNeg) := ⟨_, rfl⟩
      have hW := mk_stW (Wd := mk_V D cI cZ am) eσ108 hW
      have hw := hw σ108 eσ108
      refine lv_aload_n hx hb dX9_dropRule_109 rfl (lv_at hl 0 rfl) ?_
      refine gk_get hx hb hts iwX9 hown hK.1 (mk_obj hW) rfl 22 (by decide) (hts _ fl_X9_57) (fun _ h9 => h9) rfl dX9_dropRule_110 ?_
      refine lv_iload_n hx hb dX9_dropRule_113 rfl (lv_at hl 1 rfl) ?_
      refine lv_aload_n hx hb dX9_dropRule_114 rfl (lv_at hl 0 rfl) ?_
      refine gk_get hx hb hts iwX9 hown hK.1 (mk_obj hW) rfl 22 (by decide) (hts _ fl_X9_57) (fun _ h9 => h9) rfl dX9_dropRule_115 ?_
      refine lv_iload_n hx hb dX9_dropRule_118 rfl (lv_at hl 1 rfl) ?_
      refine lv_iconst (v := 1) hx hb dX9_dropRule_119 (by decide) ?_
      refine lv_iadd hx hb dX9_dropRule_120 ?_
      obtain ⟨hin, hw⟩ := hw
      refine gk_iald hx hb hK.1 0 (mk_arr hW (k := 22) (by decide) (by decide) (by decide)) rfl hin dX9_dropRule_121 ?_
      obtain ⟨hin, hw⟩ := hw
      refine gk_iast hx hb hK.1 hS (mk_A.in (k := 22) (by decide)) 0 (mk_arr hW (k := 22) (by decide) (by decide) (by decide)) rfl hin dX9_dropRule_122 (fun H locs h1 _ oq hS => ?_)
      have hW := hW.setR (k := 22) (by decide) (by decide) (by decide) h1 oq
      obtain ⟨σ122, eσ122⟩ : ∃ z, z = mk_st σ108 22 x2 (σ108.1 22 (x2 + 1).toNatClampNeg) := ⟨_, rfl⟩
      have hW := mk_stW (Wd := mk_V D cI cZ am) eσ122 hW
      have hw := hw σ122 eσ122
      refine lv_aload_n hx hb dX9_dropRule_123 rfl (lv_at hl 0 rfl) ?_
      refine gk_get hx hb hts iwX9 hown hK.1 (mk_obj hW) rfl 23 (by decide) (hts _ fl_X9_60) (fun _ h9 => h9) rfl dX9_dropRule_124 ?_
      refine lv_iload_n hx hb dX9_dropRule_127 rfl (lv_at hl 1 rfl) ?_
      refine lv_aload_n hx hb dX9_dropRule_128 rfl (lv_at hl 0 rfl) ?_
      refine gk_get hx hb hts iwX9 hown hK.1 (mk_obj hW) rfl 23 (by decide) (hts _ fl_X9_60) (fun _ h9 => h9) rfl dX9_dropRule_129 ?_
      refine lv_iload_n hx hb dX9_dropRule_132 rfl (lv_at hl 1 rfl) ?_
      refine lv_iconst (v := 1) hx hb dX9_dropRule_133 (by decide) ?_
      refine lv_iadd hx hb dX9_dropRule_134 ?_
      obtain ⟨hin, hw⟩ := hw
      refine gk_iald hx hb hK.1 0 (mk_arr hW (k := 23) (by decide) (by decide) (by decide)) rfl hin dX9_dropRule_135 ?_
      obtain ⟨hin, hw⟩ := hw
      refine gk_iast hx hb hK.1 hS (mk_A.in (k := 23) (by decide)) 0 (mk_arr hW (k := 23) (by decide) (by decide) (by decide)) rfl hin dX9_dropRule_136 (fun H locs h1 _ oq hS => ?_)
      have hW := hW.setR (k := 23) (by decide) (by decide) (by decide) h1 oq
      obtain ⟨σ136, eσ136⟩ : ∃ z, z = mk_st σ122 23 x2 (σ122.1 23 (x2 + 1).toNatClampNeg) := ⟨_, rfl⟩
      have hW := mk_stW (Wd := mk_V D cI cZ am) eσ136 hW
      have hw := hw σ136 eσ136
      refine lv_aload_n hx hb dX9_dropRule_137 rfl (lv_at hl 0 rfl) ?_
      refine gk_get hx hb hts iwX9 hown hK.1 (mk_obj hW) rfl 24 (by decide) (hts _ fl_X9_63) (fun _ h9 => h9) rfl dX9_dropRule_138 ?_
      refine lv_iload_n hx hb dX9_dropRule_141 rfl (lv_at hl 1 rfl) ?_
      refine lv_aload_n hx hb dX9_dropRule_142 rfl (lv_at hl 0 rfl) ?_
      refine gk_get hx hb hts iwX9 hown hK.1 (mk_obj hW) rfl 24 (by decide) (hts _ fl_X9_63) (fun _ h9 => h9) rfl dX9_dropRule_143 ?_
      refine lv_iload_n hx hb dX9_dropRule_146 rfl (lv_at hl 1 rfl) ?_
      refine lv_iconst (v := 1) hx hb dX9_dropRule_147 (by decide) ?_
      refine lv_iadd hx hb dX9_dropRule_148 ?_
      obtain ⟨hin, hw⟩ := hw
      refine gk_iald hx hb hK.1 0 (mk_arr hW (k := 24) (by decide) (by decide) (by decide)) rfl hin dX9_dropRule_149 ?_
      obtain ⟨hin, hw⟩ := hw
      refine gk_iast hx hb hK.1 hS (mk_A.in (k := 24) (by decide)) 0 (mk_arr hW (k := 24) (by decide) (by decide) (by decide)) rfl hin dX9_dropRule_150 (fun H locs h1 _ oq hS => ?_)
      have hW := hW.setR (k := 24) (by decide) (by decide) (by decide) h1 oq
      obtain ⟨σ150, eσ150⟩ : ∃ z, z = mk_st σ136 24 x2 (σ136.1 24 (x2 + 1).toNatClampNeg) := ⟨_, rfl⟩
      have hW := mk_stW (Wd := mk_V D cI cZ am) eσ150 hW
      have hw := hw σ150 eσ150
      refine lv_aload_n hx hb dX9_dropRule_151 rfl (lv_at hl 0 rfl) ?_
      refine gk_get hx hb hts iwX9 hown hK.1 (mk_obj hW) rfl 25 (by decide) (hts _ fl_X9_66) (fun _ h9 => h9) rfl dX9_dropRule_152 ?_
      refine lv_iload_n hx hb dX9_dropRule_155 rfl (lv_at hl 1 rfl) ?_
      refine lv_aload_n hx hb dX9_dropRule_156 rfl (lv_at hl 0 rfl) ?_
      refine gk_get hx hb hts iwX9 hown hK.1 (mk_obj hW) rfl 25 (by decide) (hts _ fl_X9_66) (fun _ h9 => h9) rfl dX9_dropRule_157 ?_
      refine lv_iload_n hx hb dX9_dropRule_160 rfl (lv_at hl 1 rfl) ?_
      refine lv_iconst (v := 1) hx hb dX9_dropRule_161 (by decide) ?_
      refine lv_iadd hx hb dX9_dropRule_162 ?_
      obtain ⟨hin, hw⟩ := hw
      refine gk_iald hx hb hK.1 0 (mk_arr hW (k := 25) (by decide) (by decide) (by decide)) rfl hin dX9_dropRule_163 ?_
      obtain ⟨hin, hw⟩ := hw
      refine gk_iast hx hb hK.1 hS (mk_A.in (k := 25) (by decide)) 0 (mk_arr hW (k := 25) (by decide) (by decide) (by decide)) rfl hin dX9_dropRule_164 (fun H locs h1 _ oq hS => ?_)
      have hW := hW.setR (k := 25) (by decide) (by decide) (by decide) h1 oq
      obtain ⟨σ164, eσ164⟩ : ∃ z, z = mk_st σ150 25 x2 (σ150.1 25 (x2 + 1).toNatClampNeg) := ⟨_, rfl⟩
      have hW := mk_stW (Wd := mk_V D cI cZ am) eσ164 hW
      have hw := hw σ164 eσ164
      refine lv_iinc (v := (x2 + 1)) (lv' := [(2, .int (x2 + 1)), (0, .ref (am 38))]) hx hb dX9_dropRule_165 hl (k := 1) rfl rfl (by decide) rfl (fun ls hl => ?_)
      refine lv_goto (tgt := 31) hx hb dX9_dropRule_168 (by decide) ?_
      exact ih σ164 (x2 + 1) hw _ _ hW hS  _ (lv_sub hl [1, 0] rfl)
set_option maxHeartbeats 4000000 in
set_option maxRecDepth 100000 in
theorem c_X9_dropRule (l : Launch) (D : va_G) (cI cZ cG cL : ClassId) (am : Nat → Nat) {σ : gk_C} {a0 : Int32} {Q : Int32 → gk_C → Prop} {sz : Nat} (hw : w_X9_dropRule σ a0 Q) : Met l yX9_dropRule wsX9_dropRule rmX9_dropRule (mk_Pc (mk_V D cI cZ am) D cI cZ cG cL [.ref (am 38), .int a0] sz σ (fun _ => True)) (va_Qi (fun r u => Q r u) (mk_B (mk_V D cI cZ am)) (mk_A am sz)) 0 0 (mk_A am sz) := by
  refine Met.ofW (cc := cX9_dropRule) (maxL := 3) (ret := (some .int)) (by decide) rfl ?_
  intro p e s m args below meth c s₁ B hml0 hv0
  obtain ⟨rfl, hsz, hW, hK, hX⟩ := hv0
  subst hsz
  have C0 : gk_F p s m ([.ref (am 38), .int a0] : List Value).toArray meth c cX9_dropRule 3 (some .int) RX9 := ⟨B.exec, B.bytes, hml0, findClass_of_methodNamed B.named, fun w hw => atoms_spec (ws := wsX9_dropRule) B.pre w (List.mem_cons_of_mem _ hw), B.returns, B.notSynchronized⟩
  obtain ⟨hx, hb, hml, hown, hts, hr, hlocks⟩ := id C0
  have hS : va_S (mk_A am s.heap.size) s.heap s.heap [] := va_S.rf
  have hl := lv_entry ([.ref (am 38), .int a0]) (n := 3) (Nat.le_of_ble_eq_true rfl)
  rw [lg_entry_eq]
  generalize (lg_sl ([.ref (am 38), .int a0]) ++ List.replicate (3 - (lg_sl ([.ref (am 38), .int a0])).length) Slot.unset).toArray = ls at hl ⊢
  have hl : lv_has ls 3 [(0, .ref (am 38)), (1, .int a0)] := hl
  show W p l e rmX9_dropRule s m _ below meth c s.heap [] 0 0 _ _
  refine lv_aload_n hx hb dX9_dropRule_0 rfl (lv_at hl 0 rfl) ?_
  refine lv_iconst (v := 0) hx hb dX9_dropRule_1 (by decide) ?_
  refine gk_putf (ty := .int) (v := .int 0) hx hb hts iwX9 tyX9 tyX9_ok nmX9 hown hK.1 hS (mk_A.in List.mem_cons_self) (mk_obj hW) rfl 0 (by decide) (hts _ fl_X9_102) (fun _ h9 => h9) rfl (by decide +kernel) rfl rfl (Nat.le_of_ble_eq_true rfl) dX9_dropRule_2 (fun H locs h1 _ oq hS => ?_)
  have hW := hW.setS (i := 0) (v := 0) h1 oq
  refine lv_aload_n hx hb dX9_dropRule_5 rfl (lv_at hl 0 rfl) ?_
  refine lv_iload_n hx hb dX9_dropRule_6 rfl (lv_at hl 1 rfl) ?_
  refine mk_callRi ⟨hx, hb, hml, hown, hts⟩ (c_X9_isRule l D cI cZ cG cL am hw) (cwV 1 hts (gk_gV ml_X9_168 im_X9_isRule se_X9_isRule in_X9 co_X9_isRule) rfl rfl rfl (by decide +kernel) ⟨Nat.le_of_ble_eq_true rfl, Nat.le_of_ble_eq_true rfl⟩) (gk_recv hK.1 (mk_obj hW) rfl) hW hK trivial hS rfl hl.1 (rest := []) rfl (lv_room (Nat.le_of_ble_eq_true rfl)) dX9_dropRule_7 ⟨Nat.le_of_ble_eq_true rfl, Nat.le_of_ble_eq_true rfl⟩ (fun r7 H locs hw hW _ hk hS => ?_)
  refine lv_if_ne (tgt := 19) hx hb dX9_dropRule_10 (by decide) (fun c10 => ?_) (fun c10 => ?_)
  · have hw := hw.1 c10
    refine lv_aload_n hx hb dX9_dropRule_19 rfl (lv_at hl 0 rfl) ?_
    refine lv_dup hx hb dX9_dropRule_20 rfl ?_
    refine gk_get hx hb hts iwX9 hown hK.1 (mk_obj hW) rfl 16 (by decide) (hts _ fl_X9_165) (fun _ h9 => h9) rfl dX9_dropRule_21 ?_
    refine lv_iconst (v := 1) hx hb dX9_dropRule_24 (by decide) ?_
    refine lv_isub hx hb dX9_dropRule_25 ?_
    refine gk_putf (ty := .int) (v := .int (((gk_s σ 0 0).2 16) - 1)) hx hb hts iwX9 tyX9 tyX9_ok nmX9 hown hK.1 hS (mk_A.in List.mem_cons_self) (mk_obj hW) rfl 16 (by decide) (hts _ fl_X9_165) (fun _ h9 => h9) rfl (by decide +kernel) rfl rfl (Nat.le_of_ble_eq_true rfl) dX9_dropRule_26 (fun H locs h1 _ oq hS => ?_)
    have hW := hW.setS (i := 16) (v := (((gk_s σ 0 0).2 16) - 1)) h1 oq
    refine lv_iload_n hx hb dX9_dropRule_29 rfl (lv_at hl 1 rfl) ?_
    refine lv_istore_n (lv' := [(2, .int a0), (0, .ref (am 38)), (1, .int a0)]) hx hb dX9_dropRule_30 rfl hl (by decide) rfl (fun ls hl => ?_)
    obtain ⟨n31, hw⟩ := hw
    refine tL_X9_dropRule_31 C0 hK  n31 (gk_s (gk_s σ 0 0) 16 (((gk_s σ 0 0).2 16) - 1)) a0 hw _ _ hW hS  _ (lv_sub hl [1, 0] rfl)
  · have hw := hw.2 c10
    refine lv_aload_n hx hb dX9_dropRule_13 rfl (lv_at hl 0 rfl) ?_
    refine lv_iconst (v := 1) hx hb dX9_dropRule_14 (by decide) ?_
    refine mk_callVi ⟨hx, hb, hml, hown, hts⟩ (c_X9_no l D cI cZ cG cL am hw) (cwV 1 hts (gk_gV ml_X9_139 im_X9_no se_X9_no in_X9 co_X9_no) rfl rfl rfl (by decide +kernel) ⟨Nat.le_of_ble_eq_true rfl, Nat.le_of_ble_eq_true rfl⟩) (gk_recv hK.1 (mk_obj hW) rfl) hW hK trivial hS rfl hl.1 (rest := []) rfl (lv_room (Nat.le_of_ble_eq_true rfl)) dX9_dropRule_15 ⟨Nat.le_of_ble_eq_true rfl, Nat.le_of_ble_eq_true rfl⟩ (fun r15 σ15 H locs hw hW _ hk hS => ?_)
    refine W.widen (k := 0) (n := 0) (Nat.le_of_ble_eq_true rfl) (Nat.le_of_ble_eq_true rfl) ?_
    exact mk_reti C0 hw hW hS dX9_dropRule_18
def w_X9_rules (σ : gk_C)  (Q : Int32 → gk_C → Prop) : Prop := (w_X9_ok σ (σ.2 16) (fun r5 σ5 => Q r5 σ5))
abbrev rmX9_rules : Room := { frames := 1, cells := 0, slots := 0, locals := 21 }
set_option maxHeartbeats 4000000 in
set_option maxRecDepth 100000 in
theorem c_X9_rules (l : Launch) (D : va_G) (cI cZ cG cL : ClassId) (am : Nat → Nat) {σ : gk_C} {Q : Int32 → gk_C → Prop} {sz : Nat} (hw : w_X9_rules σ  Q) : Met l yX9_rules wsX9_rules rmX9_rules (mk_Pc (mk_V D cI cZ am) D cI cZ cG cL [.ref (am 38)] sz σ (fun _ => True)) (va_Qi (fun r u => Q r u) (mk_B (mk_V D cI cZ am)) (mk_A am sz)) 0 0 (mk_A am sz) := by
  refine Met.ofW (cc := cX9_rules) (maxL := 1) (ret := (some .int)) (by decide) rfl ?_
  intro p e s m args below meth c s₁ B hml0 hv0
  obtain ⟨rfl, hsz, hW, hK, hX⟩ := hv0
  subst hsz
  have C0 : gk_F p s m ([.ref (am 38)] : List Value).toArray meth c cX9_rules 1 (some .int) RX9 := ⟨B.exec, B.bytes, hml0, findClass_of_methodNamed B.named, fun w hw => atoms_spec (ws := wsX9_rules) B.pre w (List.mem_cons_of_mem _ hw), B.returns, B.notSynchronized⟩
  obtain ⟨hx, hb, hml, hown, hts, hr, hlocks⟩ := id C0
  have hS : va_S (mk_A am s.heap.size) s.heap s.heap [] := va_S.rf
  have hl := lv_entry ([.ref (am 38)]) (n := 1) (Nat.le_of_ble_eq_true rfl)
  rw [lg_entry_eq]
  generalize (lg_sl ([.ref (am 38)]) ++ List.replicate (1 - (lg_sl ([.ref (am 38)])).length) Slot.unset).toArray = ls at hl ⊢
  have hl : lv_has ls 1 [(0, .ref (am 38))] := hl
  show W p l e rmX9_rules s m _ below meth c s.heap [] 0 0 _ _
  refine lv_aload_n hx hb dX9_rules_0 rfl (lv_at hl 0 rfl) ?_
  refine lv_aload_n hx hb dX9_rules_1 rfl (lv_at hl 0 rfl) ?_
  refine gk_get hx hb hts iwX9 hown hK.1 (mk_obj hW) rfl 16 (by decide) (hts _ fl_X9_165) (fun _ h9 => h9) rfl dX9_rules_2 ?_
  refine mk_callVi ⟨hx, hb, hml, hown, hts⟩ (c_X9_ok l D cI cZ cG cL am hw) (cwV 1 hts (gk_gV ml_X9_152 im_X9_ok se_X9_ok in_X9 co_X9_ok) rfl rfl rfl (by decide +kernel) ⟨Nat.le_of_ble_eq_true rfl, Nat.le_of_ble_eq_true rfl⟩) (gk_recv hK.1 (mk_obj hW) rfl) hW hK trivial hS rfl hl.1 (rest := []) rfl (lv_room (Nat.le_of_ble_eq_true rfl)) dX9_rules_5 ⟨Nat.le_of_ble_eq_true rfl, Nat.le_of_ble_eq_true rfl⟩ (fun r5 σ5 H locs hw hW _ hk hS => ?_)
  refine W.widen (k := 0) (n := 0) (Nat.le_of_ble_eq_true rfl) (Nat.le_of_ble_eq_true rfl) ?_
  exact mk_reti C0 hw hW hS dX9_rules_8
def w_X9_setWeighing (σ : gk_C) (a0 : Int32) (Q : Int32 → gk_C → Prop) : Prop := (w_X9_isIn a0 0 3 (fun r8 => ((¬ r8 = 0) → (Q ((gk_s σ 0 0).2 2) (gk_s (gk_s σ 0 0) 2 a0))) ∧ ((r8 = 0) → (w_X9_no (gk_s σ 0 0) 1 (fun r16 σ16 => Q r16 σ16)))))
abbrev rmX9_setWeighing : Room := { frames := 1, cells := 0, slots := 0, locals := 22 }
set_option maxHeartbeats 4000000 in
set_option maxRecDepth 100000 in
theorem c_X9_setWeighing (l : Launch) (D : va_G) (cI cZ cG cL : ClassId) (am : Nat → Nat) {σ : gk_C} {a0 : Int32} {Q : Int32 → gk_C → Prop} {sz : Nat} (hw : w_X9_setWeighing σ a0 Q) : Met l yX9_setWeighing wsX9_setWeighing rmX9_setWeighing (mk_Pc (mk_V D cI cZ am) D cI cZ cG cL [.ref (am 38), .int a0] sz σ (fun _ => True)) (va_Qi (fun r u => Q r u) (mk_B (mk_V D cI cZ am)) (mk_A am sz)) 0 0 (mk_A am sz) := by
  refine Met.ofW (cc := cX9_setWeighing) (maxL := 3) (ret := (some .int)) (by decide) rfl ?_
  intro p e s m args below meth c s₁ B hml0 hv0
  obtain ⟨rfl, hsz, hW, hK, hX⟩ := hv0
  subst hsz
  have C0 : gk_F p s m ([.ref (am 38), .int a0] : List Value).toArray meth c cX9_setWeighing 3 (some .int) RX9 := ⟨B.exec, B.bytes, hml0, findClass_of_methodNamed B.named, fun w hw => atoms_spec (ws := wsX9_setWeighing) B.pre w (List.mem_cons_of_mem _ hw), B.returns, B.notSynchronized⟩
  obtain ⟨hx, hb, hml, hown, hts, hr, hlocks⟩ := id C0
  have hS : va_S (mk_A am s.heap.size) s.heap s.heap [] := va_S.rf
  have hl := lv_entry ([.ref (am 38), .int a0]) (n := 3) (Nat.le_of_ble_eq_true rfl)
  rw [lg_entry_eq]
  generalize (lg_sl ([.ref (am 38), .int a0]) ++ List.replicate (3 - (lg_sl ([.ref (am 38), .int a0])).length) Slot.unset).toArray = ls at hl ⊢
  have hl : lv_has ls 3 [(0, .ref (am 38)), (1, .int a0)] := hl
  show W p l e rmX9_setWeighing s m _ below meth c s.heap [] 0 0 _ _
  refine lv_aload_n hx hb dX9_setWeighing_0 rfl (lv_at hl 0 rfl) ?_
  refine lv_iconst (v := 0) hx hb dX9_setWeighing_1 (by decide) ?_
  refine gk_putf (ty := .int) (v := .int 0) hx hb hts iwX9 tyX9 tyX9_ok nmX9 hown hK.1 hS (mk_A.in List.mem_cons_self) (mk_obj hW) rfl 0 (by decide) (hts _ fl_X9_102) (fun _ h9 => h9) rfl (by decide +kernel) rfl rfl (Nat.le_of_ble_eq_true rfl) dX9_setWeighing_2 (fun H locs h1 _ oq hS => ?_)
  have hW := hW.setS (i := 0) (v := 0) h1 oq
  refine lv_iload_n hx hb dX9_setWeighing_5 rfl (lv_at hl 1 rfl) ?_
  refine lv_iconst (v := 0) hx hb dX9_setWeighing_6 (by decide) ?_
  refine lv_iconst (v := 3) hx hb dX9_setWeighing_7 (by decide) ?_
  refine gk_callSi ⟨hx, hb, hml, hown, hts⟩ (c_X9_isIn l hw) (va_cwS 3 hts (gk_gS ml_X9_108 st_X9_isIn in_X9 co_X9_isIn) rfl rfl rfl (by decide +kernel) ⟨Nat.le_of_ble_eq_true rfl, Nat.le_of_ble_eq_true rfl⟩) hS rfl hl.1 (rest := []) rfl (lv_room (Nat.le_of_ble_eq_true rfl)) dX9_setWeighing_8 ⟨Nat.le_of_ble_eq_true rfl, Nat.le_of_ble_eq_true rfl⟩ (fun r8 H locs hw _ hk hS => ?_)
  have hW := hW.keptAll hk
  refine lv_if_ne (tgt := 20) hx hb dX9_setWeighing_11 (by decide) (fun c11 => ?_) (fun c11 => ?_)
  · have hw := hw.1 c11
    refine lv_aload_n hx hb dX9_setWeighing_20 rfl (lv_at hl 0 rfl) ?_
    refine gk_get hx hb hts iwX9 hown hK.1 (mk_obj hW) rfl 2 (by decide) (hts _ fl_X9_171) (fun _ h9 => h9) rfl dX9_setWeighing_21 ?_
    refine lv_istore_n (lv' := [(2, .int ((gk_s σ 0 0).2 2)), (0, .ref (am 38)), (1, .int a0)]) hx hb dX9_setWeighing_24 rfl hl (by decide) rfl (fun ls hl => ?_)
    refine lv_aload_n hx hb dX9_setWeighing_25 rfl (lv_at hl 1 rfl) ?_
    refine lv_iload_n hx hb dX9_setWeighing_26 rfl (lv_at hl 2 rfl) ?_
    refine gk_putf (ty := .int) (v := .int a0) hx hb hts iwX9 tyX9 tyX9_ok nmX9 hown hK.1 hS (mk_A.in List.mem_cons_self) (mk_obj hW) rfl 2 (by decide) (hts _ fl_X9_171) (fun _ h9 => h9) rfl (by decide +kernel) rfl rfl (Nat.le_of_ble_eq_true rfl) dX9_setWeighing_27 (fun H locs h1 _ oq hS => ?_)
    have hW := hW.setS (i := 2) (v := a0) h1 oq
    refine lv_iload_n hx hb dX9_setWeighing_30 rfl (lv_at hl 0 rfl) ?_
    refine W.widen (k := 0) (n := 0) (Nat.le_of_ble_eq_true rfl) (Nat.le_of_ble_eq_true rfl) ?_
    exact mk_reti C0 hw hW hS dX9_setWeighing_31
  · have hw := hw.2 c11
    refine lv_aload_n hx hb dX9_setWeighing_14 rfl (lv_at hl 0 rfl) ?_
    refine lv_iconst (v := 1) hx hb dX9_setWeighing_15 (by decide) ?_
    refine mk_callVi ⟨hx, hb, hml, hown, hts⟩ (c_X9_no l D cI cZ cG cL am hw) (cwV 1 hts (gk_gV ml_X9_139 im_X9_no se_X9_no in_X9 co_X9_no) rfl rfl rfl (by decide +kernel) ⟨Nat.le_of_ble_eq_true rfl, Nat.le_of_ble_eq_true rfl⟩) (gk_recv hK.1 (mk_obj hW) rfl) hW hK trivial hS rfl hl.1 (rest := []) rfl (lv_room (Nat.le_of_ble_eq_true rfl)) dX9_setWeighing_16 ⟨Nat.le_of_ble_eq_true rfl, Nat.le_of_ble_eq_true rfl⟩ (fun r16 σ16 H locs hw hW _ hk hS => ?_)
    refine W.widen (k := 0) (n := 0) (Nat.le_of_ble_eq_true rfl) (Nat.le_of_ble_eq_true rfl) ?_
    exact mk_reti C0 hw hW hS dX9_setWeighing_19
def w_X9_hour (σ : gk_C)  (Q : Int32 → Prop) : Prop := (Q (((σ.2 1) / 60) - ((σ.2 1) / 60) / 24 * 24))
abbrev rmX9_hour : Room := { frames := 0, cells := 0, slots := 0, locals := 0 }
set_option maxHeartbeats 4000000 in
set_option maxRecDepth 100000 in
theorem c_X9_hour (l : Launch) (D : va_G) (cI cZ cG cL : ClassId) (am : Nat → Nat) {σ : gk_C} {Q : Int32 → Prop} {sz : Nat} (hw : w_X9_hour σ  Q) : Met l yX9_hour wsX9_hour rmX9_hour (mk_Pc (mk_V D cI cZ am) D cI cZ cG cL [.ref (am 38)] sz σ (fun _ => True)) (va_Qi (fun r u => u = σ ∧ Q r) (mk_B (mk_V D cI cZ am)) (mk_A am sz)) 0 0 (mk_A am sz) := by
  refine Met.ofW (cc := cX9_hour) (maxL := 1) (ret := (some .int)) (by decide) rfl ?_
  intro p e s m args below meth c s₁ B hml0 hv0
  obtain ⟨rfl, hsz, hW, hK, hX⟩ := hv0
  subst hsz
  have C0 : gk_F p s m ([.ref (am 38)] : List Value).toArray meth c cX9_hour 1 (some .int) RX9 := ⟨B.exec, B.bytes, hml0, findClass_of_methodNamed B.named, fun w hw => atoms_spec (ws := wsX9_hour) B.pre w (List.mem_cons_of_mem _ hw), B.returns, B.notSynchronized⟩
  obtain ⟨hx, hb, hml, hown, hts, hr, hlocks⟩ := id C0
  have hS : va_S (mk_A am s.heap.size) s.heap s.heap [] := va_S.rf
  have hl := lv_entry ([.ref (am 38)]) (n := 1) (Nat.le_of_ble_eq_true rfl)
  rw [lg_entry_eq]
  generalize (lg_sl ([.ref (am 38)]) ++ List.replicate (1 - (lg_sl ([.ref (am 38)])).length) Slot.unset).toArray = ls at hl ⊢
  have hl : lv_has ls 1 [(0, .ref (am 38))] := hl
  show W p l e rmX9_hour s m _ below meth c s.heap [] 0 0 _ _
  refine lv_aload_n hx hb dX9_hour_0 rfl (lv_at hl 0 rfl) ?_
  refine gk_get hx hb hts iwX9 hown hK.1 (mk_obj hW) rfl 1 (by decide) (hts _ fl_X9_174) (fun _ h9 => h9) rfl dX9_hour_1 ?_
  refine lv_bipush (v := 60) hx hb dX9_hour_4 (by decide) ?_
  refine lv_idiv hx hb dX9_hour_6 (by decide) ?_
  refine lv_bipush (v := 24) hx hb dX9_hour_7 (by decide) ?_
  refine lv_irem hx hb dX9_hour_9 (by decide) ?_
  refine W.widen (k := 0) (n := 0) (Nat.le_of_ble_eq_true rfl) (Nat.le_of_ble_eq_true rfl) ?_
  exact mk_reti C0 ⟨rfl, hw⟩ hW hS dX9_hour_10
def w_X9_isNow (σ : gk_C) (a0 : Int32) (Q : Int32 → Prop) : Prop := (w_X9_hour σ (fun r1 => vp_in a0 30 ∧ vp_in a0 30 ∧ (((σ.1 25 a0.toNatClampNeg) < (σ.1 24 a0.toNatClampNeg)) → (vp_in a0 30 ∧ (((σ.1 24 a0.toNatClampNeg) ≤ r1) → (Q 1)) ∧ ((¬ (σ.1 24 a0.toNatClampNeg) ≤ r1) → (vp_in a0 30 ∧ (((σ.1 25 a0.toNatClampNeg) < r1) → (Q 0)) ∧ ((¬ (σ.1 25 a0.toNatClampNeg) < r1) → (Q 1)))))) ∧ ((¬ (σ.1 25 a0.toNatClampNeg) < (σ.1 24 a0.toNatClampNeg)) → (vp_in a0 30 ∧ vp_in a0 30 ∧ w_X9_isIn r1 (σ.1 24 a0.toNatClampNeg) (σ.1 25 a0.toNatClampNeg) (fun r33 => gk_z r33 ∧ Q r33)))))
abbrev rmX9_isNow : Room := { frames := 1, cells := 0, slots := 0, locals := 22 }
set_option maxHeartbeats 4000000 in
set_option maxRecDepth 100000 in
theorem c_X9_isNow (l : Launch) (D : va_G) (cI cZ cG cL : ClassId) (am : Nat → Nat) {σ : gk_C} {a0 : Int32} {Q : Int32 → Prop} {sz : Nat} (hw : w_X9_isNow σ a0 Q) : Met l yX9_isNow wsX9_isNow rmX9_isNow (mk_Pc (mk_V D cI cZ am) D cI cZ cG cL [.ref (am 38), .int a0] sz σ (fun _ => True)) (va_Qi (fun r u => u = σ ∧ Q r) (mk_B (mk_V D cI cZ am)) (mk_A am sz)) 0 0 (mk_A am sz) := by
  refine Met.ofW (cc := cX9_isNow) (maxL := 3) (ret := (some .boolean)) (by decide) rfl ?_
  intro p e s m args below meth c s₁ B hml0 hv0
  obtain ⟨rfl, hsz, hW, hK, hX⟩ := hv0
  subst hsz
  have C0 : gk_F p s m ([.ref (am 38), .int a0] : List Value).toArray meth c cX9_isNow 3 (some .boolean) RX9 := ⟨B.exec, B.bytes, hml0, findClass_of_methodNamed B.named, fun w hw => atoms_spec (ws := wsX9_isNow) B.pre w (List.mem_cons_of_mem _ hw), B.returns, B.notSynchronized⟩
  obtain ⟨hx, hb, hml, hown, hts, hr, hlocks⟩ := id C0
  have hS : va_S (mk_A am s.heap.size) s.heap s.heap [] := va_S.rf
  have hl := lv_entry ([.ref (am 38), .int a0]) (n := 3) (Nat.le_of_ble_eq_true rfl)
  rw [lg_entry_eq]
  generalize (lg_sl ([.ref (am 38), .int a0]) ++ List.replicate (3 - (lg_sl ([.ref (am 38), .int a0])).length) Slot.unset).toArray = ls at hl ⊢
  have hl : lv_has ls 3 [(0, .ref (am 38)), (1, .int a0)] := hl
  show W p l e rmX9_isNow s m _ below meth c s.heap [] 0 0 _ _
  refine lv_aload_n hx hb dX9_isNow_0 rfl (lv_at hl 0 rfl) ?_
  refine mk_callRi ⟨hx, hb, hml, hown, hts⟩ (c_X9_hour l D cI cZ cG cL am hw) (cwV 0 hts (gk_gV ml_X9_177 im_X9_hour se_X9_hour in_X9 co_X9_hour) rfl rfl rfl (by decide +kernel) ⟨Nat.le_of_ble_eq_true rfl, Nat.le_of_ble_eq_true rfl⟩) (gk_recv hK.1 (mk_obj hW) rfl) hW hK trivial hS rfl hl.1 (rest := []) rfl (lv_room (Nat.le_of_ble_eq_true rfl)) dX9_isNow_1 ⟨Nat.le_of_ble_eq_true rfl, Nat.le_of_ble_eq_true rfl⟩ (fun r1 H locs hw hW _ hk hS => ?_)
  refine lv_istore_n (lv' := [(2, .int r1), (0, .ref (am 38)), (1, .int a0)]) hx hb dX9_isNow_4 rfl hl (by decide) rfl (fun ls hl => ?_)
  refine lv_aload_n hx hb dX9_isNow_5 rfl (lv_at hl 1 rfl) ?_
  refine gk_get hx hb hts iwX9 hown hK.1 (mk_obj hW) rfl 24 (by decide) (hts _ fl_X9_63) (fun _ h9 => h9) rfl dX9_isNow_6 ?_
  refine lv_iload_n hx hb dX9_isNow_9 rfl (lv_at hl 2 rfl) ?_
  obtain ⟨hin, hw⟩ := hw
  refine gk_iald hx hb hK.1 0 (mk_arr hW (k := 24) (by decide) (by decide) (by decide)) rfl hin dX9_isNow_10 ?_
  refine lv_aload_n hx hb dX9_isNow_11 rfl (lv_at hl 1 rfl) ?_
  refine gk_get hx hb hts iwX9 hown hK.1 (mk_obj hW) rfl 25 (by decide) (hts _ fl_X9_66) (fun _ h9 => h9) rfl dX9_isNow_12 ?_
  refine lv_iload_n hx hb dX9_isNow_15 rfl (lv_at hl 2 rfl) ?_
  obtain ⟨hin, hw⟩ := hw
  refine gk_iald hx hb hK.1 0 (mk_arr hW (k := 25) (by decide) (by decide) (by decide)) rfl hin dX9_isNow_16 ?_
  refine lv_icmp_gt (tgt := 39) hx hb dX9_isNow_17 (by decide) (fun c17 => ?_) (fun c17 => ?_)
  · have hw := hw.1 c17
    refine lv_iload_n hx hb dX9_isNow_39 rfl (lv_at hl 0 rfl) ?_
    refine lv_aload_n hx hb dX9_isNow_40 rfl (lv_at hl 1 rfl) ?_
    refine gk_get hx hb hts iwX9 hown hK.1 (mk_obj hW) rfl 24 (by decide) (hts _ fl_X9_63) (fun _ h9 => h9) rfl dX9_isNow_41 ?_
    refine lv_iload_n hx hb dX9_isNow_44 rfl (lv_at hl 2 rfl) ?_
    obtain ⟨hin, hw⟩ := hw
    refine gk_iald hx hb hK.1 0 (mk_arr hW (k := 24) (by decide) (by decide) (by decide)) rfl hin dX9_isNow_45 ?_
    refine lv_icmp_ge (tgt := 59) hx hb dX9_isNow_46 (by decide) (fun c46 => ?_) (fun c46 => ?_)
    · have hw := hw.1 c46
      refine lv_iconst (v := 1) hx hb dX9_isNow_59 (by decide) ?_
      refine lv_goto (tgt := 64) hx hb dX9_isNow_60 (by decide) ?_
      refine W.widen (k := 0) (n := 0) (Nat.le_of_ble_eq_true rfl) (Nat.le_of_ble_eq_true rfl) ?_
      exact mk_retz C0 (by decide) ⟨rfl, hw⟩ hW hS dX9_isNow_64
    · have hw := hw.2 c46
      refine lv_iload_n hx hb dX9_isNow_49 rfl (lv_at hl 0 rfl) ?_
      refine lv_aload_n hx hb dX9_isNow_50 rfl (lv_at hl 1 rfl) ?_
      refine gk_get hx hb hts iwX9 hown hK.1 (mk_obj hW) rfl 25 (by decide) (hts _ fl_X9_66) (fun _ h9 => h9) rfl dX9_isNow_51 ?_
      refine lv_iload_n hx hb dX9_isNow_54 rfl (lv_at hl 2 rfl) ?_
      obtain ⟨hin, hw⟩ := hw
      refine gk_iald hx hb hK.1 0 (mk_arr hW (k := 25) (by decide) (by decide) (by decide)) rfl hin dX9_isNow_55 ?_
      refine lv_icmp_gt (tgt := 63) hx hb dX9_isNow_56 (by decide) (fun c56 => ?_) (fun c56 => ?_)
      · have hw := hw.1 c56
        refine lv_iconst (v := 0) hx hb dX9_isNow_63 (by decide) ?_
        refine W.widen (k := 0) (n := 0) (Nat.le_of_ble_eq_true rfl) (Nat.le_of_ble_eq_true rfl) ?_
        exact mk_retz C0 (by decide) ⟨rfl, hw⟩ hW hS dX9_isNow_64
      · have hw := hw.2 c56
        refine lv_iconst (v := 1) hx hb dX9_isNow_59 (by decide) ?_
        refine lv_goto (tgt := 64) hx hb dX9_isNow_60 (by decide) ?_
        refine W.widen (k := 0) (n := 0) (Nat.le_of_ble_eq_true rfl) (Nat.le_of_ble_eq_true rfl) ?_
        exact mk_retz C0 (by decide) ⟨rfl, hw⟩ hW hS dX9_isNow_64
  · have hw := hw.2 c17
    refine lv_iload_n hx hb dX9_isNow_20 rfl (lv_at hl 0 rfl) ?_
    refine lv_aload_n hx hb dX9_isNow_21 rfl (lv_at hl 1 rfl) ?_
    refine gk_get hx hb hts iwX9 hown hK.1 (mk_obj hW) rfl 24 (by decide) (hts _ fl_X9_63) (fun _ h9 => h9) rfl dX9_isNow_22 ?_
    refine lv_iload_n hx hb dX9_isNow_25 rfl (lv_at hl 2 rfl) ?_
    obtain ⟨hin, hw⟩ := hw
    refine gk_iald hx hb hK.1 0 (mk_arr hW (k := 24) (by decide) (by decide) (by decide)) rfl hin dX9_isNow_26 ?_
    refine lv_aload_n hx hb dX9_isNow_27 rfl (lv_at hl 1 rfl) ?_
    refine gk_get hx hb hts iwX9 hown hK.1 (mk_obj hW) rfl 25 (by decide) (hts _ fl_X9_66) (fun _ h9 => h9) rfl dX9_isNow_28 ?_
    refine lv_iload_n hx hb dX9_isNow_31 rfl (lv_at hl 2 rfl) ?_
    obtain ⟨hin, hw⟩ := hw
    refine gk_iald hx hb hK.1 0 (mk_arr hW (k := 25) (by decide) (by decide) (by decide)) rfl hin dX9_isNow_32 ?_
    refine gk_callSi ⟨hx, hb, hml, hown, hts⟩ (c_X9_isIn l hw) (va_cwS 3 hts (gk_gS ml_X9_108 st_X9_isIn in_X9 co_X9_isIn) rfl rfl rfl (by decide +kernel) ⟨Nat.le_of_ble_eq_true rfl, Nat.le_of_ble_eq_true rfl⟩) hS rfl hl.1 (rest := []) rfl (lv_room (Nat.le_of_ble_eq_true rfl)) dX9_isNow_33 ⟨Nat.le_of_ble_eq_true rfl, Nat.le_of_ble_eq_true rfl⟩ (fun r33 H locs hw _ hk hS => ?_)
    have hW := hW.keptAll hk
    refine lv_goto (tgt := 64) hx hb dX9_isNow_36 (by decide) ?_
    refine W.widen (k := 0) (n := 0) (Nat.le_of_ble_eq_true rfl) (Nat.le_of_ble_eq_true rfl) ?_
    obtain ⟨hz, hw⟩ := hw
    exact mk_retz C0 hz ⟨rfl, hw⟩ hW hS dX9_isNow_64
def wJ_X9_fitting_52 (σ : gk_C) (k57 : Int32 → Int32 → Int32 → Int32 → Int32 → Int32 → Prop) (x1 : Int32) (x2 : Int32) (x3 : Int32) (x4 : Int32) (x5 : Int32) : Prop := (k57 x1 x2 x3 x4 x5 1)
def wJ_X9_fitting_129 (σ : gk_C) (k130 : Int32 → Int32 → Int32 → Int32 → Int32 → Int32 → Prop) (x1 : Int32) (x2 : Int32) (x3 : Int32) (x5 : Int32) (t0 : Int32) : Prop := (k130 x1 x2 x3 x5 t0 0)
def wJ_X9_fitting_130 (σ : gk_C) (k6 : Int32 → Int32 → Int32 → Int32 → Int32 → Prop) (x1 : Int32) (x2 : Int32) (x3 : Int32) (x5 : Int32) (t0 : Int32) (t1 : Int32) : Prop := (k6 x1 x2 x3 (t0 ||| t1) (x5 + 1))
def wJ_X9_fitting_57 (σ : gk_C) (k6 : Int32 → Int32 → Int32 → Int32 → Int32 → Prop) (x1 : Int32) (x2 : Int32) (x3 : Int32) (x4 : Int32) (x5 : Int32) (t0 : Int32) : Prop := (((x5 = (σ.2 35)) → (wJ_X9_fitting_129 σ (fun x1 x2 x3 x5 t0 t1 => (wJ_X9_fitting_130 σ k6 x1 x2 x3 x5 t0 t1)) x1 x2 x3 x5 x4)) ∧ ((¬ x5 = (σ.2 35)) → (((t0 = 0) → (wJ_X9_fitting_129 σ (fun x1 x2 x3 x5 t0 t1 => (wJ_X9_fitting_130 σ k6 x1 x2 x3 x5 t0 t1)) x1 x2 x3 x5 x4)) ∧ ((¬ t0 = 0) → (vp_in x5 30 ∧ (((((σ.1 20 x5.toNatClampNeg) >>> (x2 &&& 31)) &&& 1) = 0) → (wJ_X9_fitting_129 σ (fun x1 x2 x3 x5 t0 t1 => (wJ_X9_fitting_130 σ k6 x1 x2 x3 x5 t0 t1)) x1 x2 x3 x5 x4)) ∧ ((¬ (((σ.1 20 x5.toNatClampNeg) >>> (x2 &&& 31)) &&& 1) = 0) → (vp_in x1 12 ∧ vp_in x5 30 ∧ vp_in x5 30 ∧ ((¬ ((σ.1 6 x1.toNatClampNeg) &&& (σ.1 23 x5.toNatClampNeg)) = (σ.1 23 x5.toNatClampNeg)) → (wJ_X9_fitting_129 σ (fun x1 x2 x3 x5 t0 t1 => (wJ_X9_fitting_130 σ k6 x1 x2 x3 x5 t0 t1)) x1 x2 x3 x5 x4)) ∧ ((((σ.1 6 x1.toNatClampNeg) &&& (σ.1 23 x5.toNatClampNeg)) = (σ.1 23 x5.toNatClampNeg)) → (w_X9_isNow σ x5 (fun r116 => ((r116 = 0) → (wJ_X9_fitting_129 σ (fun x1 x2 x3 x5 t0 t1 => (wJ_X9_fitting_130 σ k6 x1 x2 x3 x5 t0 t1)) x1 x2 x3 x5 x4)) ∧ ((¬ r116 = 0) → (wJ_X9_fitting_130 σ k6 x1 x2 x3 x5 x4 (1 <<< (x5 &&& 31))))))))))))))
def wJ_X9_fitting_56 (σ : gk_C) (k57 : Int32 → Int32 → Int32 → Int32 → Int32 → Int32 → Prop) (x1 : Int32) (x2 : Int32) (x3 : Int32) (x4 : Int32) (x5 : Int32) : Prop := (k57 x1 x2 x3 x4 x5 0)
def wL_X9_fitting_6 (σ : gk_C) (Q : Int32 → Prop) : Nat → Int32 → Int32 → Int32 → Int32 → Int32 → Prop
  | 0 => fun _ _ _ _ _ => False
  | n + 1 => fun x1 x2 x3 x4 x5 => ((((σ.2 16) ≤ x5) → (Q x4)) ∧ ((¬ (σ.2 16) ≤ x5) → (vp_in x5 30 ∧ (((σ.1 21 x5.toNatClampNeg) = x3) → (wJ_X9_fitting_52 σ (fun x1 x2 x3 x4 x5 t0 => (wJ_X9_fitting_57 σ (fun x1 x2 x3 x4 x5 => wL_X9_fitting_6 σ Q n x1 x2 x3 x4 x5) x1 x2 x3 x4 x5 t0)) x1 x2 x3 x4 x5)) ∧ ((¬ (σ.1 21 x5.toNatClampNeg) = x3) → (vp_in x5 30 ∧ (((σ.1 18 x5.toNatClampNeg) = 0) → (wJ_X9_fitting_56 σ (fun x1 x2 x3 x4 x5 t0 => (wJ_X9_fitting_57 σ (fun x1 x2 x3 x4 x5 => wL_X9_fitting_6 σ Q n x1 x2 x3 x4 x5) x1 x2 x3 x4 x5 t0)) x1 x2 x3 x4 x5)) ∧ ((¬ (σ.1 18 x5.toNatClampNeg) = 0) → (vp_in x5 30 ∧ w_X9_farNow σ x3 (σ.1 21 x5.toNatClampNeg) (fun r45 => ((r45 = (-1)) → (wJ_X9_fitting_56 σ (fun x1 x2 x3 x4 x5 t0 => (wJ_X9_fitting_57 σ (fun x1 x2 x3 x4 x5 => wL_X9_fitting_6 σ Q n x1 x2 x3 x4 x5) x1 x2 x3 x4 x5 t0)) x1 x2 x3 x4 x5)) ∧ ((¬ r45 = (-1)) → (wJ_X9_fitting_52 σ (fun x1 x2 x3 x4 x5 t0 => (wJ_X9_fitting_57 σ (fun x1 x2 x3 x4 x5 => wL_X9_fitting_6 σ Q n x1 x2 x3 x4 x5) x1 x2 x3 x4 x5 t0)) x1 x2 x3 x4 x5))))))))))
def w_X9_fitting (σ : gk_C) (a0 : Int32) (a1 : Int32) (a2 : Int32) (Q : Int32 → Prop) : Prop := (∃ n6, wL_X9_fitting_6 σ Q n6 a0 a1 a2 0 0)
abbrev rmX9_fitting : Room := { frames := 2, cells := 0, slots := 0, locals := 44 }
set_option maxHeartbeats 4000000 in
set_option maxRecDepth 100000 in
theorem tJ_X9_fitting_52 {p : Program} {l : Launch} {e : Env} {s : State} {m : MethodId} {args : Array Value} {below : List Frame} {meth : Method} {c : Code} {D : va_G} {cI cZ cG cL : ClassId} {am : Nat → Nat} (C0 : gk_F p s m args meth c cX9_fitting 7 (some .int) RX9) (hK : gk_K D cI cZ cG cL s) {σ : gk_C} {Q : Int32 → Prop} {k57 : Int32 → Int32 → Int32 → Int32 → Int32 → Int32 → Prop} (hk57 : ∀ (x1 : Int32) (x2 : Int32) (x3 : Int32) (x4 : Int32) (x5 : Int32) (t0 : Int32), k57 x1 x2 x3 x4 x5 t0 → ∀ (H : Heap) (locs : List Loc), mk_V D cI cZ am σ H → va_S (mk_A am s.heap.size) s.heap H locs → ∀ (ls : Array Slot), lv_has ls 7 [(0, .ref (am 38)), (1, .int x1), (2, .int x2), (3, .int x3), (4, .int x4), (5, .int x5)] → W p l e rmX9_fitting s m args below meth c H locs 0 0 (MQ below (va_Qi (fun r u => u = σ ∧ Q r) (mk_B (mk_V D cI cZ am)) (mk_A am s.heap.size)) args s 0 0 (mk_A am s.heap.size)) (F0 m 57 ls [.int t0])) : ∀ (x1 : Int32) (x2 : Int32) (x3 : Int32) (x4 : Int32) (x5 : Int32), wJ_X9_fitting_52 σ k57 x1 x2 x3 x4 x5 → ∀ (H : Heap) (locs : List Loc), mk_V D cI cZ am σ H → va_S (mk_A am s.heap.size) s.heap H locs → ∀ (ls : Array Slot), lv_has ls 7 [(0, .ref (am 38)), (1, .int x1), (2, .int x2), (3, .int x3), (4, .int x4), (5, .int x5)] → W p l e rmX9_fitting s m args below meth c H locs 0 0 (MQ below (va_Qi (fun r u => u = σ ∧ Q r) (mk_B (mk_V D cI cZ am)) (mk_A am s.heap.size)) args s 0 0 (mk_A am s.heap.size)) (F0 m 52 ls []) := by
  obtain ⟨hx, hb, hml, hown, hts, hr, hlocks⟩ := id C0
  intro x1 x2 x3 x4 x5 hw H locs hW hS  ls hl
  refine lv_iconst (v := 1) hx hb dX9_fitting_52 (by decide) ?_
  refine lv_goto (tgt := 57) hx hb dX9_fitting_53 (by decide) ?_
  exact hk57 x1 x2 x3 x4 x5 1 hw _ _ hW hS  _ hl
set_option maxHeartbeats 4000000 in
set_option maxRecDepth 100000 in
theorem tJ_X9_fitting_129 {p : Program} {l : Launch} {e : Env} {s : State} {m : MethodId} {args : Array Value} {below : List Frame} {meth : Method} {c : Code} {D : va_G} {cI cZ cG cL : ClassId} {am : Nat → Nat} (C0 : gk_F p s m args meth c cX9_fitting 7 (some .int) RX9) (hK : gk_K D cI cZ cG cL s) {σ : gk_C} {Q : Int32 → Prop} {k130 : Int32 → Int32 → Int32 → Int32 → Int32 → Int32 → Prop} (hk130 : ∀ (x1 : Int32) (x2 : Int32) (x3 : Int32) (x5 : Int32) (t0 : Int32) (t1 : Int32), k130 x1 x2 x3 x5 t0 t1 → ∀ (H : Heap) (locs : List Loc), mk_V D cI cZ am σ H → va_S (mk_A am s.heap.size) s.heap H locs → ∀ (ls : Array Slot), lv_has ls 7 [(0, .ref (am 38)), (1, .int x1), (2, .int x2), (3, .int x3), (5, .int x5)] → W p l e rmX9_fitting s m args below meth c H locs 0 0 (MQ below (va_Qi (fun r u => u = σ ∧ Q r) (mk_B (mk_V D cI cZ am)) (mk_A am s.heap.size)) args s 0 0 (mk_A am s.heap.size)) (F0 m 130 ls [.int t1, .int t0])) : ∀ (x1 : Int32) (x2 : Int32) (x3 : Int32) (x5 : Int32) (t0 : Int32), wJ_X9_fitting_129 σ k130 x1 x2 x3 x5 t0 → ∀ (H : Heap) (locs : List Loc), mk_V D cI cZ am σ H → va_S (mk_A am s.heap.size) s.heap H locs → ∀ (ls : Array Slot), lv_has ls 7 [(0, .ref (am 38)), (1, .int x1), (2, .int x2), (3, .int x3), (5, .int x5)] → W p l e rmX9_fitting s m args below meth c H locs 0 0 (MQ below (va_Qi (fun r u => u = σ ∧ Q r) (mk_B (mk_V D cI cZ am)) (mk_A am s.heap.size)) args s 0 0 (mk_A am s.heap.size)) (F0 m 129 ls [.int t0]) := by
  obtain ⟨hx, hb, hml, hown, hts, hr, hlocks⟩ := id C0
  intro x1 x2 x3 x5 t0 hw H locs hW hS  ls hl
  refine lv_iconst (v := 0) hx hb dX9_fitting_129 (by decide) ?_
  exact hk130 x1 x2 x3 x5 t0 0 hw _ _ hW hS  _ hl
set_option maxHeartbeats 4000000 in
set_option maxRecDepth 100000 in
theorem tJ_X9_fitting_130 {p : Program} {l : Launch} {e : Env} {s : State} {m : MethodId} {args : Array Value} {below : List Frame} {meth : Method} {c : Code} {D : va_G} {cI cZ cG cL : ClassId} {am : Nat → Nat} (C0 : gk_F p s m args meth c cX9_fitting 7 (some .int) RX9) (hK : gk_K D cI cZ cG cL s) {σ : gk_C} {Q : Int32 → Prop} {k6 : Int32 → Int32 → Int32 → Int32 → Int32 → Prop} (hk6 : ∀ (x1 : Int32) (x2 : Int32) (x3 : Int32) (x4 : Int32) (x5 : Int32), k6 x1 x2 x3 x4 x5 → ∀ (H : Heap) (locs : List Loc), mk_V D cI cZ am σ H → va_S (mk_A am s.heap.size) s.heap H locs → ∀ (ls : Array Slot), lv_has ls 7 [(0, .ref (am 38)), (1, .int x1), (2, .int x2), (3, .int x3), (4, .int x4), (5, .int x5)] → W p l e rmX9_fitting s m args below meth c H locs 0 0 (MQ below (va_Qi (fun r u => u = σ ∧ Q r) (mk_B (mk_V D cI cZ am)) (mk_A am s.heap.size)) args s 0 0 (mk_A am s.heap.size)) (F0 m 6 ls [])) : ∀ (x1 : Int32) (x2 : Int32) (x3 : Int32) (x5 : Int32) (t0 : Int32) (t1 : Int32), wJ_X9_fitting_130 σ k6 x1 x2 x3 x5 t0 t1 → ∀ (H : Heap) (locs : List Loc), mk_V D cI cZ am σ H → va_S (mk_A am s.heap.size) s.heap H locs → ∀ (ls : Array Slot), lv_has ls 7 [(0, .ref (am 38)), (1, .int x1), (2, .int x2), (3, .int x3), (5, .int x5)] → W p l e rmX9_fitting s m args below meth c H locs 0 0 (MQ below (va_Qi (fun r u => u = σ ∧ Q r) (mk_B (mk_V D cI cZ am)) (mk_A am s.heap.size)) args s 0 0 (mk_A am s.heap.size)) (F0 m 130 ls [.int t1, .int t0]) := by
  obtain ⟨hx, hb, hml, hown, hts, hr, hlocks⟩ := id C0
  intro x1 x2 x3 x5 t0 t1 hw H locs hW hS  ls hl
  refine lv_ior hx hb dX9_fitting_130 ?_
  refine lv_istore (lv' := [(4, .int (t0 ||| t1)), (0, .ref (am 38)), (1, .int x1), (2, .int x2), (3, .int x3), (5, .int x5)]) hx hb dX9_fitting_131 hl (by decide) rfl (fun ls hl => ?_)
  refine lv_iinc (v := (x5 + 1)) (lv' := [(5, .int (x5 + 1)), (4, .int (t0 ||| t1)), (0, .ref (am 38)), (1, .int x1), (2, .int x2), (3, .int x3)]) hx hb dX9_fitting_133 hl (k := 5) rfl rfl (by decide) rfl (fun ls hl => ?_)
  refine lv_goto (tgt := 6) hx hb dX9_fitting_136 (by decide) ?_
  exact hk6 x1 x2 x3 (t0 ||| t1) (x5 + 1) hw _ _ hW hS  _ (lv_sub hl [2, 3, 4, 5, 1, 0] rfl)
set_option maxHeartbeats 4000000 in
set_option maxRecDepth 100000 in
theorem tJ_X9_fitting_57 {p : Program} {l : Launch} {e : Env} {s : State} {m : MethodId} {args : Array Value} {below : List Frame} {meth : Method} {c : Code} {D : va_G} {cI cZ cG cL : ClassId} {am : Nat → Nat} (C0 : gk_F p s m args meth c cX9_fitting 7 (some .int) RX9) (hK : gk_K D cI cZ cG cL s) {σ : gk_C} {Q : Int32 → Prop} {k6 : Int32 → Int32 → Int32 → Int32 → Int32 → Prop} (hk6 : ∀ (x1 : Int32) (x2 : Int32) (x3 : Int32) (x4 : Int32) (x5 : Int32), k6 x1 x2 x3 x4 x5 → ∀ (H : Heap) (locs : List Loc), mk_V D cI cZ am σ H → va_S (mk_A am s.heap.size) s.heap H locs → ∀ (ls : Array Slot), lv_has ls 7 [(0, .ref (am 38)), (1, .int x1), (2, .int x2), (3, .int x3), (4, .int x4), (5, .int x5)] → W p l e rmX9_fitting s m args below meth c H locs 0 0 (MQ below (va_Qi (fun r u => u = σ ∧ Q r) (mk_B (mk_V D cI cZ am)) (mk_A am s.heap.size)) args s 0 0 (mk_A am s.heap.size)) (F0 m 6 ls [])) : ∀ (x1 : Int32) (x2 : Int32) (x3 : Int32) (x4 : Int32) (x5 : Int32) (t0 : Int32), wJ_X9_fitting_57 σ k6 x1 x2 x3 x4 x5 t0 → ∀ (H : Heap) (locs : List Loc), mk_V D cI cZ am σ H → va_S (mk_A am s.heap.size) s.heap H locs → ∀ (ls : Array Slot), lv_has ls 7 [(0, .ref (am 38)), (1, .int x1), (2, .int x2), (3, .int x3), (4, .int x4), (5, .int x5)] → W p l e rmX9_fitting s m args below meth c H locs 0 0 (MQ below (va_Qi (fun r u => u = σ ∧ Q r) (mk_B (mk_V D cI cZ am)) (mk_A am s.heap.size)) args s 0 0 (mk_A am s.heap.size)) (F0 m 57 ls [.int t0]) := by
  obtain ⟨hx, hb, hml, hown, hts, hr, hlocks⟩ := id C0
  intro x1 x2 x3 x4 x5 t0 hw H locs hW hS  ls hl
  refine lv_istore (lv' := [(6, .int t0), (0, .ref (am 38)), (1, .int x1), (2, .int x2), (3, .int x3), (4, .int x4), (5, .int x5)]) hx hb dX9_fitting_57 hl (by decide) rfl (fun ls hl => ?_)
  refine lv_iload hx hb dX9_fitting_59 (lv_at hl 5 rfl) ?_
  refine lv_iload hx hb dX9_fitting_61 (lv_at hl 6 rfl) ?_
  refine lv_aload_n hx hb dX9_fitting_63 rfl (lv_at hl 1 rfl) ?_
  refine gk_get hx hb hts iwX9 hown hK.1 (mk_obj hW) rfl 35 (by decide) (hts _ fl_X9_93) (fun _ h9 => h9) rfl dX9_fitting_64 ?_
  refine lv_icmp_eq (tgt := 129) hx hb dX9_fitting_67 (by decide) (fun c67 => ?_) (fun c67 => ?_)
  · have hw := hw.1 c67
    refine tJ_X9_fitting_129 C0 hK (hk130 := ?_) x1 x2 x3 x5 x4 hw _ _ hW hS  _ (lv_sub hl [1, 2, 3, 4, 6] rfl)
    · intro x1 x2 x3 x5 t0 t1 hw H locs hW hS  ls hl
      refine tJ_X9_fitting_130 C0 hK (hk6 := hk6) x1 x2 x3 x5 t0 t1 hw _ _ hW hS  _ hl
  · have hw := hw.2 c67
    refine lv_iload hx hb dX9_fitting_70 (lv_at hl 0 rfl) ?_
    refine lv_if_eq (tgt := 129) hx hb dX9_fitting_72 (by decide) (fun c72 => ?_) (fun c72 => ?_)
    · have hw := hw.1 c72
      refine tJ_X9_fitting_129 C0 hK (hk130 := ?_) x1 x2 x3 x5 x4 hw _ _ hW hS  _ (lv_sub hl [1, 2, 3, 4, 6] rfl)
      · intro x1 x2 x3 x5 t0 t1 hw H locs hW hS  ls hl
        refine tJ_X9_fitting_130 C0 hK (hk6 := hk6) x1 x2 x3 x5 t0 t1 hw _ _ hW hS  _ hl
    · have hw := hw.2 c72
      refine lv_aload_n hx hb dX9_fitting_75 rfl (lv_at hl 1 rfl) ?_
      refine gk_get hx hb hts iwX9 hown hK.1 (mk_obj hW) rfl 20 (by decide) (hts _ fl_X9_51) (fun _ h9 => h9) rfl dX9_fitting_76 ?_
      refine lv_iload hx hb dX9_fitting_79 (lv_at hl 6 rfl) ?_
      obtain ⟨hin, hw⟩ := hw
      refine gk_iald hx hb hK.1 0 (mk_arr hW (k := 20) (by decide) (by decide) (by decide)) rfl hin dX9_fitting_81 ?_
      refine lv_iload_n hx hb dX9_fitting_82 rfl (lv_at hl 3 rfl) ?_
      refine lv_ishr hx hb dX9_fitting_83 ?_
      refine lv_iconst (v := 1) hx hb dX9_fitting_84 (by decide) ?_
      refine lv_iand hx hb dX9_fitting_85 ?_
      refine lv_if_eq (tgt := 129) hx hb dX9_fitting_86 (by decide) (fun c86 => ?_) (fun c86 => ?_)
      · have hw := hw.1 c86
        refine tJ_X9_fitting_129 C0 hK (hk130 := ?_) x1 x2 x3 x5 x4 hw _ _ hW hS  _ (lv_sub hl [1, 2, 3, 4, 6] rfl)
        · intro x1 x2 x3 x5 t0 t1 hw H locs hW hS  ls hl
          refine tJ_X9_fitting_130 C0 hK (hk6 := hk6) x1 x2 x3 x5 t0 t1 hw _ _ hW hS  _ hl
      · have hw := hw.2 c86
        refine lv_aload_n hx hb dX9_fitting_89 rfl (lv_at hl 1 rfl) ?_
        refine gk_get hx hb hts iwX9 hown hK.1 (mk_obj hW) rfl 6 (by decide) (hts _ fl_X9_16) (fun _ h9 => h9) rfl dX9_fitting_90 ?_
        refine lv_iload_n hx hb dX9_fitting_93 rfl (lv_at hl 2 rfl) ?_
        obtain ⟨hin, hw⟩ := hw
        refine gk_iald hx hb hK.1 0 (mk_arr hW (k := 6) (by decide) (by decide) (by decide)) rfl hin dX9_fitting_94 ?_
        refine lv_aload_n hx hb dX9_fitting_95 rfl (lv_at hl 1 rfl) ?_
        refine gk_get hx hb hts iwX9 hown hK.1 (mk_obj hW) rfl 23 (by decide) (hts _ fl_X9_60) (fun _ h9 => h9) rfl dX9_fitting_96 ?_
        refine lv_iload hx hb dX9_fitting_99 (lv_at hl 6 rfl) ?_
        obtain ⟨hin, hw⟩ := hw
        refine gk_iald hx hb hK.1 0 (mk_arr hW (k := 23) (by decide) (by decide) (by decide)) rfl hin dX9_fitting_101 ?_
        refine lv_iand hx hb dX9_fitting_102 ?_
        refine lv_aload_n hx hb dX9_fitting_103 rfl (lv_at hl 1 rfl) ?_
        refine gk_get hx hb hts iwX9 hown hK.1 (mk_obj hW) rfl 23 (by decide) (hts _ fl_X9_60) (fun _ h9 => h9) rfl dX9_fitting_104 ?_
        refine lv_iload hx hb dX9_fitting_107 (lv_at hl 6 rfl) ?_
        obtain ⟨hin, hw⟩ := hw
        refine gk_iald hx hb hK.1 0 (mk_arr hW (k := 23) (by decide) (by decide) (by decide)) rfl hin dX9_fitting_109 ?_
        refine lv_icmp_ne (tgt := 129) hx hb dX9_fitting_110 (by decide) (fun c110 => ?_) (fun c110 => ?_)
        · have hw := hw.1 c110
          refine tJ_X9_fitting_129 C0 hK (hk130 := ?_) x1 x2 x3 x5 x4 hw _ _ hW hS  _ (lv_sub hl [1, 2, 3, 4, 6] rfl)
          · intro x1 x2 x3 x5 t0 t1 hw H locs hW hS  ls hl
            refine tJ_X9_fitting_130 C0 hK (hk6 := hk6) x1 x2 x3 x5 t0 t1 hw _ _ hW hS  _ hl
        · have hw := hw.2 c110
          refine lv_aload_n hx hb dX9_fitting_113 rfl (lv_at hl 1 rfl) ?_
          refine lv_iload hx hb dX9_fitting_114 (lv_at hl 6 rfl) ?_
          refine mk_callRi ⟨hx, hb, hml, hown, hts⟩ (c_X9_isNow l D cI cZ cG cL am hw) (cwV 1 hts (gk_gV ml_X9_181 im_X9_isNow se_X9_isNow in_X9 co_X9_isNow) rfl rfl rfl (by decide +kernel) ⟨Nat.le_of_ble_eq_true rfl, Nat.le_of_ble_eq_true rfl⟩) (gk_recv hK.1 (mk_obj hW) rfl) hW hK trivial hS rfl hl.1 (rest := [.int x4]) rfl (lv_room (Nat.le_of_ble_eq_true rfl)) dX9_fitting_116 ⟨Nat.le_of_ble_eq_true rfl, Nat.le_of_ble_eq_true rfl⟩ (fun r116 H locs hw hW _ hk hS => ?_)
          refine lv_if_eq (tgt := 129) hx hb dX9_fitting_119 (by decide) (fun c119 => ?_) (fun c119 => ?_)
          · have hw := hw.1 c119
            refine tJ_X9_fitting_129 C0 hK (hk130 := ?_) x1 x2 x3 x5 x4 hw _ _ hW hS  _ (lv_sub hl [1, 2, 3, 4, 6] rfl)
            · intro x1 x2 x3 x5 t0 t1 hw H locs hW hS  ls hl
              refine tJ_X9_fitting_130 C0 hK (hk6 := hk6) x1 x2 x3 x5 t0 t1 hw _ _ hW hS  _ hl
          · have hw := hw.2 c119
            refine lv_iconst (v := 1) hx hb dX9_fitting_122 (by decide) ?_
            refine lv_iload hx hb dX9_fitting_123 (lv_at hl 6 rfl) ?_
            refine lv_ishl hx hb dX9_fitting_125 ?_
            refine lv_goto (tgt := 130) hx hb dX9_fitting_126 (by decide) ?_
            refine tJ_X9_fitting_130 C0 hK (hk6 := hk6) x1 x2 x3 x5 x4 (1 <<< (x5 &&& 31)) hw _ _ hW hS  _ (lv_sub hl [1, 2, 3, 4, 6] rfl)
set_option maxHeartbeats 4000000 in
set_option maxRecDepth 100000 in
theorem tJ_X9_fitting_56 {p : Program} {l : Launch} {e : Env} {s : State} {m : MethodId} {args : Array Value} {below : List Frame} {meth : Method} {c : Code} {D : va_G} {cI cZ cG cL : ClassId} {am : Nat → Nat} (C0 : gk_F p s m args meth c cX9_fitting 7 (some .int) RX9) (hK : gk_K D cI cZ cG cL s) {σ : gk_C} {Q : Int32 → Prop} {k57 : Int32 → Int32 → Int32 → Int32 → Int32 → Int32 → Prop} (hk57 : ∀ (x1 : Int32) (x2 : Int32) (x3 : Int32) (x4 : Int32) (x5 : Int32) (t0 : Int32), k57 x1 x2 x3 x4 x5 t0 → ∀ (H : Heap) (locs : List Loc), mk_V D cI cZ am σ H → va_S (mk_A am s.heap.size) s.heap H locs → ∀ (ls : Array Slot), lv_has ls 7 [(0, .ref (am 38)), (1, .int x1), (2, .int x2), (3, .int x3), (4, .int x4), (5, .int x5)] → W p l e rmX9_fitting s m args below meth c H locs 0 0 (MQ below (va_Qi (fun r u => u = σ ∧ Q r) (mk_B (mk_V D cI cZ am)) (mk_A am s.heap.size)) args s 0 0 (mk_A am s.heap.size)) (F0 m 57 ls [.int t0])) : ∀ (x1 : Int32) (x2 : Int32) (x3 : Int32) (x4 : Int32) (x5 : Int32), wJ_X9_fitting_56 σ k57 x1 x2 x3 x4 x5 → ∀ (H : Heap) (locs : List Loc), mk_V D cI cZ am σ H → va_S (mk_A am s.heap.size) s.heap H locs → ∀ (ls : Array Slot), lv_has ls 7 [(0, .ref (am 38)), (1, .int x1), (2, .int x2), (3, .int x3), (4, .int x4), (5, .int x5)] → W p l e rmX9_fitting s m args below meth c H locs 0 0 (MQ below (va_Qi (fun r u => u = σ ∧ Q r) (mk_B (mk_V D cI cZ am)) (mk_A am s.heap.size)) args s 0 0 (mk_A am s.heap.size)) (F0 m 56 ls []) := by
  obtain ⟨hx, hb, hml, hown, hts, hr, hlocks⟩ := id C0
  intro x1 x2 x3 x4 x5 hw H locs hW hS  ls hl
  refine lv_iconst (v := 0) hx hb dX9_fitting_56 (by decide) ?_
  exact hk57 x1 x2 x3 x4 x5 0 hw _ _ hW hS  _ hl
set_option maxHeartbeats 4000000 in
set_option maxRecDepth 100000 in
theorem tL_X9_fitting_6 {p : Program} {l : Launch} {e : Env} {s : State} {m : MethodId} {args : Array Value} {below : List Frame} {meth : Method} {c : Code} {D : va_G} {cI cZ cG cL : ClassId} {am : Nat → Nat} (C0 : gk_F p s m args meth c cX9_fitting 7 (some .int) RX9) (hK : gk_K D cI cZ cG cL s) {σ : gk_C} {Q : Int32 → Prop} : ∀ (n : Nat) (x1 : Int32) (x2 : Int32) (x3 : Int32) (x4 : Int32) (x5 : Int32), wL_X9_fitting_6 σ Q n x1 x2 x3 x4 x5 → ∀ (H : Heap) (locs : List Loc), mk_V D cI cZ am σ H → va_S (mk_A am s.heap.size) s.heap H locs → ∀ (ls : Array Slot), lv_has ls 7 [(0, .ref (am 38)), (1, .int x1), (2, .int x2), (3, .int x3), (4, .int x4), (5, .int x5)] → W p l e rmX9_fitting s m args below meth c H locs 0 0 (MQ below (va_Qi (fun r u => u = σ ∧ Q r) (mk_B (mk_V D cI cZ am)) (mk_A am s.heap.size)) args s 0 0 (mk_A am s.heap.size)) (F0 m 6 ls []) := by
  obtain ⟨hx, hb, hml, hown, hts, hr, hlocks⟩ := id C0
  intro n
  induction n with
  | zero => exact fun _ _ _ _ _ hw => False.elim hw
  | succ n ih =>
    intro x1 x2 x3 x4 x5 hw H locs hW hS  ls hl
    refine lv_iload hx hb dX9_fitting_6 (lv_at hl 5 rfl) ?_
    refine lv_aload_n hx hb dX9_fitting_8 rfl (lv_at hl 0 rfl) ?_
    refine gk_get hx hb hts iwX9 hown hK.1 (mk_obj hW) rfl 16 (by decide) (hts _ fl_X9_165) (fun _ h9 => h9) rfl dX9_fitting_9 ?_
    refine lv_icmp_ge (tgt := 139) hx hb dX9_fitting_12 (by decide) (fun c12 => ?_) (fun c12 => ?_)
    · have hw := hw.1 c12
      refine lv_iload hx hb dX9_fitting_139 (lv_at hl 4 rfl) ?_
      refine W.widen (k := 0) (n := 0) (Nat.le_of_ble_eq_true rfl) (Nat.le_of_ble_eq_true rfl) ?_
      exact mk_reti C0 ⟨rfl, hw⟩ hW hS dX9_fitting_141
    · have hw := hw.2 c12
      refine lv_aload_n hx hb dX9_fitting_15 rfl (lv_at hl 0 rfl) ?_
      refine gk_get hx hb hts iwX9 hown hK.1 (mk_obj hW) rfl 21 (by decide) (hts _ fl_X9_54) (fun _ h9 => h9) rfl dX9_fitting_16 ?_
      refine lv_iload hx hb dX9_fitting_19 (lv_at hl 5 rfl) ?_
      obtain ⟨hin, hw⟩ := hw
      refine gk_iald hx hb hK.1 0 (mk_arr hW (k := 21) (by decide) (by decide) (by decide)) rfl hin dX9_fitting_21 ?_
      refine lv_iload_n hx hb dX9_fitting_22 rfl (lv_at hl 3 rfl) ?_
      refine lv_icmp_eq (tgt := 52) hx hb dX9_fitting_23 (by decide) (fun c23 => ?_) (fun c23 => ?_)
      · have hw := hw.1 c23
        refine tJ_X9_fitting_52 C0 hK (hk57 := ?_) x1 x2 x3 x4 x5 hw _ _ hW hS  _ hl
        · intro x1 x2 x3 x4 x5 t0 hw H locs hW hS  ls hl
          refine tJ_X9_fitting_57 C0 hK (hk6 := ih) x1 x2 x3 x4 x5 t0 hw _ _ hW hS  _ hl
      · have hw := hw.2 c23
        refine lv_aload_n hx hb dX9_fitting_26 rfl (lv_at hl 0 rfl) ?_
        refine gk_get hx hb hts iwX9 hown hK.1 (mk_obj hW) rfl 18 (by decide) (hts _ fl_X9_45) (fun _ h9 => h9) rfl dX9_fitting_27 ?_
        refine lv_iload hx hb dX9_fitting_30 (lv_at hl 5 rfl) ?_
        obtain ⟨hin, hw⟩ := hw
        refine gk_zald hx hb hK.1 1 (mk_arr hW (k := 18) (by decide) (by decide) (by decide)) rfl hin dX9_fitting_32 ?_
        refine lv_if_eq (tgt := 56) hx hb dX9_fitting_33 (by decide) (fun c33 => ?_) (fun c33 => ?_)
        · have hw := hw.1 c33
          refine tJ_X9_fitting_56 C0 hK (hk57 := ?_) x1 x2 x3 x4 x5 hw _ _ hW hS  _ hl
          · intro x1 x2 x3 x4 x5 t0 hw H locs hW hS  ls hl
            refine tJ_X9_fitting_57 C0 hK (hk6 := ih) x1 x2 x3 x4 x5 t0 hw _ _ hW hS  _ hl
        · have hw := hw.2 c33
          refine lv_aload_n hx hb dX9_fitting_36 rfl (lv_at hl 0 rfl) ?_
          refine lv_iload_n hx hb dX9_fitting_37 rfl (lv_at hl 3 rfl) ?_
          refine lv_aload_n hx hb dX9_fitting_38 rfl (lv_at hl 0 rfl) ?_
          refine gk_get hx hb hts iwX9 hown hK.1 (mk_obj hW) rfl 21 (by decide) (hts _ fl_X9_54) (fun _ h9 => h9) rfl dX9_fitting_39 ?_
          refine lv_iload hx hb dX9_fitting_42 (lv_at hl 5 rfl) ?_
          obtain ⟨hin, hw⟩ := hw
          refine gk_iald hx hb hK.1 0 (mk_arr hW (k := 21) (by decide) (by decide) (by decide)) rfl hin dX9_fitting_44 ?_
          refine mk_callRi ⟨hx, hb, hml, hown, hts⟩ (c_X9_farNow l D cI cZ cG cL am hw) (cwV 2 hts (gk_gV ml_X9_161 im_X9_farNow se_X9_farNow in_X9 co_X9_farNow) rfl rfl rfl (by decide +kernel) ⟨Nat.le_of_ble_eq_true rfl, Nat.le_of_ble_eq_true rfl⟩) (gk_recv hK.1 (mk_obj hW) rfl) hW hK trivial hS rfl hl.1 (rest := []) rfl (lv_room (Nat.le_of_ble_eq_true rfl)) dX9_fitting_45 ⟨Nat.le_of_ble_eq_true rfl, Nat.le_of_ble_eq_true rfl⟩ (fun r45 H locs hw hW _ hk hS => ?_)
          refine lv_iconst (v := (-1)) hx hb dX9_fitting_48 (by decide) ?_
          refine lv_icmp_eq (tgt := 56) hx hb dX9_fitting_49 (by decide) (fun c49 => ?_) (fun c49 => ?_)
          · have hw := hw.1 c49
            refine tJ_X9_fitting_56 C0 hK (hk57 := ?_) x1 x2 x3 x4 x5 hw _ _ hW hS  _ hl
            · intro x1 x2 x3 x4 x5 t0 hw H locs hW hS  ls hl
              refine tJ_X9_fitting_57 C0 hK (hk6 := ih) x1 x2 x3 x4 x5 t0 hw _ _ hW hS  _ hl
          · have hw := hw.2 c49
            refine tJ_X9_fitting_52 C0 hK (hk57 := ?_) x1 x2 x3 x4 x5 hw _ _ hW hS  _ hl
            · intro x1 x2 x3 x4 x5 t0 hw H locs hW hS  ls hl
              refine tJ_X9_fitting_57 C0 hK (hk6 := ih) x1 x2 x3 x4 x5 t0 hw _ _ hW hS  _ hl
set_option maxHeartbeats 4000000 in
set_option maxRecDepth 100000 in
theorem c_X9_fitting (l : Launch) (D : va_G) (cI cZ cG cL : ClassId) (am : Nat → Nat) {σ : gk_C} {a0 : Int32} {a1 : Int32} {a2 : Int32} {Q : Int32 → Prop} {sz : Nat} (hw : w_X9_fitting σ a0 a1 a2 Q) : Met l yX9_fitting wsX9_fitting rmX9_fitting (mk_Pc (mk_V D cI cZ am) D cI cZ cG cL [.ref (am 38), .int a0, .int a1, .int a2] sz σ (fun _ => True)) (va_Qi (fun r u => u = σ ∧ Q r) (mk_B (mk_V D cI cZ am)) (mk_A am sz)) 0 0 (mk_A am sz) := by
  refine Met.ofW (cc := cX9_fitting) (maxL := 7) (ret := (some .int)) (by decide) rfl ?_
  intro p e s m args below meth c s₁ B hml0 hv0
  obtain ⟨rfl, hsz, hW, hK, hX⟩ := hv0
  subst hsz
  have C0 : gk_F p s m ([.ref (am 38), .int a0, .int a1, .int a2] : List Value).toArray meth c cX9_fitting 7 (some .int) RX9 := ⟨B.exec, B.bytes, hml0, findClass_of_methodNamed B.named, fun w hw => atoms_spec (ws := wsX9_fitting) B.pre w (List.mem_cons_of_mem _ hw), B.returns, B.notSynchronized⟩
  obtain ⟨hx, hb, hml, hown, hts, hr, hlocks⟩ := id C0
  have hS : va_S (mk_A am s.heap.size) s.heap s.heap [] := va_S.rf
  have hl := lv_entry ([.ref (am 38), .int a0, .int a1, .int a2]) (n := 7) (Nat.le_of_ble_eq_true rfl)
  rw [lg_entry_eq]
  generalize (lg_sl ([.ref (am 38), .int a0, .int a1, .int a2]) ++ List.replicate (7 - (lg_sl ([.ref (am 38), .int a0, .int a1, .int a2])).length) Slot.unset).toArray = ls at hl ⊢
  have hl : lv_has ls 7 [(0, .ref (am 38)), (1, .int a0), (2, .int a1), (3, .int a2)] := hl
  show W p l e rmX9_fitting s m _ below meth c s.heap [] 0 0 _ _
  refine lv_iconst (v := 0) hx hb dX9_fitting_0 (by decide) ?_
  refine lv_istore (lv' := [(4, .int 0), (0, .ref (am 38)), (1, .int a0), (2, .int a1), (3, .int a2)]) hx hb dX9_fitting_1 hl (by decide) rfl (fun ls hl => ?_)
  refine lv_iconst (v := 0) hx hb dX9_fitting_3 (by decide) ?_
  refine lv_istore (lv' := [(5, .int 0), (4, .int 0), (0, .ref (am 38)), (1, .int a0), (2, .int a1), (3, .int a2)]) hx hb dX9_fitting_4 hl (by decide) rfl (fun ls hl => ?_)
  obtain ⟨n6, hw⟩ := hw
  refine tL_X9_fitting_6 C0 hK  n6 a0 a1 a2 0 0 hw _ _ hW hS  _ (lv_sub hl [2, 3, 4, 5, 1, 0] rfl)
def w_X9_goOn (σ : gk_C) (a0 : Int32) (Q : Int32 → gk_C → Prop) : Prop := (w_X9_isIn a0 1 10000 (fun r10 => ((¬ r10 = 0) → (w_X9_hour (gk_s (gk_s σ 0 0) 1 (((gk_s σ 0 0).2 1) + a0)) (fun r33 => Q r33 (gk_s (gk_s σ 0 0) 1 (((gk_s σ 0 0).2 1) + a0))))) ∧ ((r10 = 0) → (w_X9_no (gk_s σ 0 0) 1 (fun r18 σ18 => Q r18 σ18)))))
abbrev rmX9_goOn : Room := { frames := 1, cells := 0, slots := 0, locals := 22 }
set_option maxHeartbeats 4000000 in
set_option maxRecDepth 100000 in
theorem c_X9_goOn (l : Launch) (D : va_G) (cI cZ cG cL : ClassId) (am : Nat → Nat) {σ : gk_C} {a0 : Int32} {Q : Int32 → gk_C → Prop} {sz : Nat} (hw : w_X9_goOn σ a0 Q) : Met l yX9_goOn wsX9_goOn rmX9_goOn (mk_Pc (mk_V D cI cZ am) D cI cZ cG cL [.ref (am 38), .int a0] sz σ (fun _ => True)) (va_Qi (fun r u => Q r u) (mk_B (mk_V D cI cZ am)) (mk_A am sz)) 0 0 (mk_A am sz) := by
  refine Met.ofW (cc := cX9_goOn) (maxL := 2) (ret := (some .int)) (by decide) rfl ?_
  intro p e s m args below meth c s₁ B hml0 hv0
  obtain ⟨rfl, hsz, hW, hK, hX⟩ := hv0
  subst hsz
  have C0 : gk_F p s m ([.ref (am 38), .int a0] : List Value).toArray meth c cX9_goOn 2 (some .int) RX9 := ⟨B.exec, B.bytes, hml0, findClass_of_methodNamed B.named, fun w hw => atoms_spec (ws := wsX9_goOn) B.pre w (List.mem_cons_of_mem _ hw), B.returns, B.notSynchronized⟩
  obtain ⟨hx, hb, hml, hown, hts, hr, hlocks⟩ := id C0
  have hS : va_S (mk_A am s.heap.size) s.heap s.heap [] := va_S.rf
  have hl := lv_entry ([.ref (am 38), .int a0]) (n := 2) (Nat.le_of_ble_eq_true rfl)
  rw [lg_entry_eq]
  generalize (lg_sl ([.ref (am 38), .int a0]) ++ List.replicate (2 - (lg_sl ([.ref (am 38), .int a0])).length) Slot.unset).toArray = ls at hl ⊢
  have hl : lv_has ls 2 [(0, .ref (am 38)), (1, .int a0)] := hl
  show W p l e rmX9_goOn s m _ below meth c s.heap [] 0 0 _ _
  refine lv_aload_n hx hb dX9_goOn_0 rfl (lv_at hl 0 rfl) ?_
  refine lv_iconst (v := 0) hx hb dX9_goOn_1 (by decide) ?_
  refine gk_putf (ty := .int) (v := .int 0) hx hb hts iwX9 tyX9 tyX9_ok nmX9 hown hK.1 hS (mk_A.in List.mem_cons_self) (mk_obj hW) rfl 0 (by decide) (hts _ fl_X9_102) (fun _ h9 => h9) rfl (by decide +kernel) rfl rfl (Nat.le_of_ble_eq_true rfl) dX9_goOn_2 (fun H locs h1 _ oq hS => ?_)
  have hW := hW.setS (i := 0) (v := 0) h1 oq
  refine lv_iload_n hx hb dX9_goOn_5 rfl (lv_at hl 1 rfl) ?_
  refine lv_iconst (v := 1) hx hb dX9_goOn_6 (by decide) ?_
  refine lv_sipush (v := 10000) hx hb dX9_goOn_7 (by decide) ?_
  refine gk_callSi ⟨hx, hb, hml, hown, hts⟩ (c_X9_isIn l hw) (va_cwS 3 hts (gk_gS ml_X9_108 st_X9_isIn in_X9 co_X9_isIn) rfl rfl rfl (by decide +kernel) ⟨Nat.le_of_ble_eq_true rfl, Nat.le_of_ble_eq_true rfl⟩) hS rfl hl.1 (rest := []) rfl (lv_room (Nat.le_of_ble_eq_true rfl)) dX9_goOn_10 ⟨Nat.le_of_ble_eq_true rfl, Nat.le_of_ble_eq_true rfl⟩ (fun r10 H locs hw _ hk hS => ?_)
  have hW := hW.keptAll hk
  refine lv_if_ne (tgt := 22) hx hb dX9_goOn_13 (by decide) (fun c13 => ?_) (fun c13 => ?_)
  · have hw := hw.1 c13
    refine lv_aload_n hx hb dX9_goOn_22 rfl (lv_at hl 0 rfl) ?_
    refine lv_dup hx hb dX9_goOn_23 rfl ?_
    refine gk_get hx hb hts iwX9 hown hK.1 (mk_obj hW) rfl 1 (by decide) (hts _ fl_X9_174) (fun _ h9 => h9) rfl dX9_goOn_24 ?_
    refine lv_iload_n hx hb dX9_goOn_27 rfl (lv_at hl 1 rfl) ?_
    refine lv_iadd hx hb dX9_goOn_28 ?_
    refine gk_putf (ty := .int) (v := .int (((gk_s σ 0 0).2 1) + a0)) hx hb hts iwX9 tyX9 tyX9_ok nmX9 hown hK.1 hS (mk_A.in List.mem_cons_self) (mk_obj hW) rfl 1 (by decide) (hts _ fl_X9_174) (fun _ h9 => h9) rfl (by decide +kernel) rfl rfl (Nat.le_of_ble_eq_true rfl) dX9_goOn_29 (fun H locs h1 _ oq hS => ?_)
    have hW := hW.setS (i := 1) (v := (((gk_s σ 0 0).2 1) + a0)) h1 oq
    refine lv_aload_n hx hb dX9_goOn_32 rfl (lv_at hl 0 rfl) ?_
    refine mk_callRi ⟨hx, hb, hml, hown, hts⟩ (c_X9_hour l D cI cZ cG cL am hw) (cwV 0 hts (gk_gV ml_X9_177 im_X9_hour se_X9_hour in_X9 co_X9_hour) rfl rfl rfl (by decide +kernel) ⟨Nat.le_of_ble_eq_true rfl, Nat.le_of_ble_eq_true rfl⟩) (gk_recv hK.1 (mk_obj hW) rfl) hW hK trivial hS rfl hl.1 (rest := []) rfl (lv_room (Nat.le_of_ble_eq_true rfl)) dX9_goOn_33 ⟨Nat.le_of_ble_eq_true rfl, Nat.le_of_ble_eq_true rfl⟩ (fun r33 H locs hw hW _ hk hS => ?_)
    refine W.widen (k := 0) (n := 0) (Nat.le_of_ble_eq_true rfl) (Nat.le_of_ble_eq_true rfl) ?_
    exact mk_reti C0 hw hW hS dX9_goOn_36
  · have hw := hw.2 c13
    refine lv_aload_n hx hb dX9_goOn_16 rfl (lv_at hl 0 rfl) ?_
    refine lv_iconst (v := 1) hx hb dX9_goOn_17 (by decide) ?_
    refine mk_callVi ⟨hx, hb, hml, hown, hts⟩ (c_X9_no l D cI cZ cG cL am hw) (cwV 1 hts (gk_gV ml_X9_139 im_X9_no se_X9_no in_X9 co_X9_no) rfl rfl rfl (by decide +kernel) ⟨Nat.le_of_ble_eq_true rfl, Nat.le_of_ble_eq_true rfl⟩) (gk_recv hK.1 (mk_obj hW) rfl) hW hK trivial hS rfl hl.1 (rest := []) rfl (lv_room (Nat.le_of_ble_eq_true rfl)) dX9_goOn_18 ⟨Nat.le_of_ble_eq_true rfl, Nat.le_of_ble_eq_true rfl⟩ (fun r18 σ18 H locs hw hW _ hk hS => ?_)
    refine W.widen (k := 0) (n := 0) (Nat.le_of_ble_eq_true rfl) (Nat.le_of_ble_eq_true rfl) ?_
    exact mk_reti C0 hw hW hS dX9_goOn_21
def w_X9_clock (σ : gk_C)  (Q : Int32 → gk_C → Prop) : Prop := (w_X9_ok σ (σ.2 1) (fun r5 σ5 => Q r5 σ5))
abbrev rmX9_clock : Room := { frames := 1, cells := 0, slots := 0, locals := 21 }
set_option maxHeartbeats 4000000 in
set_option maxRecDepth 100000 in
theorem c_X9_clock (l : Launch) (D : va_G) (cI cZ cG cL : ClassId) (am : Nat → Nat) {σ : gk_C} {Q : Int32 → gk_C → Prop} {sz : Nat} (hw : w_X9_clock σ  Q) : Met l yX9_clock wsX9_clock rmX9_clock (mk_Pc (mk_V D cI cZ am) D cI cZ cG cL [.ref (am 38)] sz σ (fun _ => True)) (va_Qi (fun r u => Q r u) (mk_B (mk_V D cI cZ am)) (mk_A am sz)) 0 0 (mk_A am sz) := by
  refine Met.ofW (cc := cX9_clock) (maxL := 1) (ret := (some .int)) (by decide) rfl ?_
  intro p e s m args below meth c s₁ B hml0 hv0
  obtain ⟨rfl, hsz, hW, hK, hX⟩ := hv0
  subst hsz
  have C0 : gk_F p s m ([.ref (am 38)] : List Value).toArray meth c cX9_clock 1 (some .int) RX9 := ⟨B.exec, B.bytes, hml0, findClass_of_methodNamed B.named, fun w hw => atoms_spec (ws := wsX9_clock) B.pre w (List.mem_cons_of_mem _ hw), B.returns, B.notSynchronized⟩
  obtain ⟨hx, hb, hml, hown, hts, hr, hlocks⟩ := id C0
  have hS : va_S (mk_A am s.heap.size) s.heap s.heap [] := va_S.rf
  have hl := lv_entry ([.ref (am 38)]) (n := 1) (Nat.le_of_ble_eq_true rfl)
  rw [lg_entry_eq]
  generalize (lg_sl ([.ref (am 38)]) ++ List.replicate (1 - (lg_sl ([.ref (am 38)])).length) Slot.unset).toArray = ls at hl ⊢
  have hl : lv_has ls 1 [(0, .ref (am 38))] := hl
  show W p l e rmX9_clock s m _ below meth c s.heap [] 0 0 _ _
  refine lv_aload_n hx hb dX9_clock_0 rfl (lv_at hl 0 rfl) ?_
  refine lv_aload_n hx hb dX9_clock_1 rfl (lv_at hl 0 rfl) ?_
  refine gk_get hx hb hts iwX9 hown hK.1 (mk_obj hW) rfl 1 (by decide) (hts _ fl_X9_174) (fun _ h9 => h9) rfl dX9_clock_2 ?_
  refine mk_callVi ⟨hx, hb, hml, hown, hts⟩ (c_X9_ok l D cI cZ cG cL am hw) (cwV 1 hts (gk_gV ml_X9_152 im_X9_ok se_X9_ok in_X9 co_X9_ok) rfl rfl rfl (by decide +kernel) ⟨Nat.le_of_ble_eq_true rfl, Nat.le_of_ble_eq_true rfl⟩) (gk_recv hK.1 (mk_obj hW) rfl) hW hK trivial hS rfl hl.1 (rest := []) rfl (lv_room (Nat.le_of_ble_eq_true rfl)) dX9_clock_5 ⟨Nat.le_of_ble_eq_true rfl, Nat.le_of_ble_eq_true rfl⟩ (fun r5 σ5 H locs hw hW _ hk hS => ?_)
  refine W.widen (k := 0) (n := 0) (Nat.le_of_ble_eq_true rfl) (Nat.le_of_ble_eq_true rfl) ?_
  exact mk_reti C0 hw hW hS dX9_clock_8
def wJ_X9_firstOf_50 (σ : gk_C) (k10 : Int32 → Int32 → Int32 → Int32 → Prop) (x1 : Int32) (x2 : Int32) (x4 : Int32) : Prop := (k10 x1 x2 x4 (x4 + (-1)))
def wL_X9_firstOf_10 (σ : gk_C) (Q : Int32 → Prop) : Nat → Int32 → Int32 → Int32 → Int32 → Prop
  | 0 => fun _ _ _ _ => False
  | n + 1 => fun x1 x2 x3 x4 => (((x4 < 0) → (Q x3)) ∧ ((¬ x4 < 0) → (((((x1 >>> (x4 &&& 31)) &&& 1) = 0) → (wL_X9_firstOf_10 σ Q n x1 x2 x3 (x4 + (-1)))) ∧ ((¬ ((x1 >>> (x4 &&& 31)) &&& 1) = 0) → (((x3 = (-1)) → (wJ_X9_firstOf_50 σ (fun x1 x2 x3 x4 => wL_X9_firstOf_10 σ Q n x1 x2 x3 x4) x1 x2 x4)) ∧ ((¬ x3 = (-1)) → (vp_in x4 30 ∧ (((σ.1 17 x4.toNatClampNeg) = x2) → (wJ_X9_firstOf_50 σ (fun x1 x2 x3 x4 => wL_X9_firstOf_10 σ Q n x1 x2 x3 x4) x1 x2 x4)) ∧ ((¬ (σ.1 17 x4.toNatClampNeg) = x2) → (vp_in x3 30 ∧ (((σ.1 17 x3.toNatClampNeg) = x2) → (wL_X9_firstOf_10 σ Q n x1 x2 x3 (x4 + (-1)))) ∧ ((¬ (σ.1 17 x3.toNatClampNeg) = x2) → (wJ_X9_firstOf_50 σ (fun x1 x2 x3 x4 => wL_X9_firstOf_10 σ Q n x1 x2 x3 x4) x1 x2 x4)))))))))))
def w_X9_firstOf (σ : gk_C) (a0 : Int32) (a1 : Int32) (Q : Int32 → Prop) : Prop := (∃ n10, wL_X9_firstOf_10 σ Q n10 a0 a1 (-1) ((σ.2 16) - 1))
abbrev rmX9_firstOf : Room := { frames := 0, cells := 0, slots := 0, locals := 0 }
set_option maxHeartbeats 4000000 in
set_option maxRecDepth 100000 in
theorem tJ_X9_firstOf_50 {p : Program} {l : Launch} {e : Env} {s : State} {m : MethodId} {args : Array Value} {below : List Frame} {meth : Method} {c : Code} {D : va_G} {cI cZ cG cL : ClassId} {am : Nat → Nat} (C0 : gk_F p s m args meth c cX9_firstOf 5 (some .int) RX9) (hK : gk_K D cI cZ cG cL s) {σ : gk_C} {Q : Int32 → Prop} {k10 : Int32 → Int32 → Int32 → Int32 → Prop} (hk10 : ∀ (x1 : Int32) (x2 : Int32) (x3 : Int32) (x4 : Int32), k10 x1 x2 x3 x4 → ∀ (H : Heap) (locs : List Loc), mk_V D cI cZ am σ H → va_S (mk_A am s.heap.size) s.heap H locs → ∀ (ls : Array Slot), lv_has ls 5 [(0, .ref (am 38)), (1, .int x1), (2, .int x2), (3, .int x3), (4, .int x4)] → W p l e rmX9_firstOf s m args below meth c H locs 0 0 (MQ below (va_Qi (fun r u => u = σ ∧ Q r) (mk_B (mk_V D cI cZ am)) (mk_A am s.heap.size)) args s 0 0 (mk_A am s.heap.size)) (F0 m 10 ls [])) : ∀ (x1 : Int32) (x2 : Int32) (x4 : Int32), wJ_X9_firstOf_50 σ k10 x1 x2 x4 → ∀ (H : Heap) (locs : List Loc), mk_V D cI cZ am σ H → va_S (mk_A am s.heap.size) s.heap H locs → ∀ (ls : Array Slot), lv_has ls 5 [(0, .ref (am 38)), (1, .int x1), (2, .int x2), (4, .int x4)] → W p l e rmX9_firstOf s m args below meth c H locs 0 0 (MQ below (va_Qi (fun r u => u = σ ∧ Q r) (mk_B (mk_V D cI cZ am)) (mk_A am s.heap.size)) args s 0 0 (mk_A am s.heap.size)) (F0 m 50 ls []) := by
  obtain ⟨hx, hb, hml, hown, hts, hr, hlocks⟩ := id C0
  intro x1 x2 x4 hw H locs hW hS  ls hl
  refine lv_iload hx hb dX9_firstOf_50 (lv_at hl 3 rfl) ?_
  refine lv_istore_n (lv' := [(3, .int x4), (0, .ref (am 38)), (1, .int x1), (2, .int x2), (4, .int x4)]) hx hb dX9_firstOf_52 rfl hl (by decide) rfl (fun ls hl => ?_)
  refine lv_iinc (v := (x4 + (-1))) (lv' := [(4, .int (x4 + (-1))), (3, .int x4), (0, .ref (am 38)), (1, .int x1), (2, .int x2)]) hx hb dX9_firstOf_53 hl (k := 4) rfl rfl (by decide) rfl (fun ls hl => ?_)
  refine lv_goto (tgt := 10) hx hb dX9_firstOf_56 (by decide) ?_
  exact hk10 x1 x2 x4 (x4 + (-1)) hw _ _ hW hS  _ (lv_sub hl [2, 3, 4, 1, 0] rfl)
set_option maxHeartbeats 4000000 in
set_option maxRecDepth 100000 in
theorem tL_X9_firstOf_10 {p : Program} {l : Launch} {e : Env} {s : State} {m : MethodId} {args : Array Value} {below : List Frame} {meth : Method} {c : Code} {D : va_G} {cI cZ cG cL : ClassId} {am : Nat → Nat} (C0 : gk_F p s m args meth c cX9_firstOf 5 (some .int) RX9) (hK : gk_K D cI cZ cG cL s) {σ : gk_C} {Q : Int32 → Prop} : ∀ (n : Nat) (x1 : Int32) (x2 : Int32) (x3 : Int32) (x4 : Int32), wL_X9_firstOf_10 σ Q n x1 x2 x3 x4 → ∀ (H : Heap) (locs : List Loc), mk_V D cI cZ am σ H → va_S (mk_A am s.heap.size) s.heap H locs → ∀ (ls : Array Slot), lv_has ls 5 [(0, .ref (am 38)), (1, .int x1), (2, .int x2), (3, .int x3), (4, .int x4)] → W p l e rmX9_firstOf s m args below meth c H locs 0 0 (MQ below (va_Qi (fun r u => u = σ ∧ Q r) (mk_B (mk_V D cI cZ am)) (mk_A am s.heap.size)) args s 0 0 (mk_A am s.heap.size)) (F0 m 10 ls []) := by
  obtain ⟨hx, hb, hml, hown, hts, hr, hlocks⟩ := id C0
  intro n
  induction n with
  | zero => exact fun _ _ _ _ hw => False.elim hw
  | succ n ih =>
    intro x1 x2 x3 x4 hw H locs hW hS  ls hl
    refine lv_iload hx hb dX9_firstOf_10 (lv_at hl 4 rfl) ?_
    refine lv_if_lt (tgt := 59) hx hb dX9_firstOf_12 (by decide) (fun c12 => ?_) (fun c12 => ?_)
    · have hw := hw.1 c12
      refine lv_iload_n hx hb dX9_firstOf_59 rfl (lv_at hl 3 rfl) ?_
      refine W.widen (k := 0) (n := 0) (Nat.le_of_ble_eq_true rfl) (Nat.le_of_ble_eq_true rfl) ?_
      exact mk_reti C0 ⟨rfl, hw⟩ hW hS dX9_firstOf_60
    · have hw := hw.2 c12
      refine lv_iload_n hx hb dX9_firstOf_15 rfl (lv_at hl 1 rfl) ?_
      refine lv_iload hx hb dX9_firstOf_16 (lv_at hl 4 rfl) ?_
      refine lv_ishr hx hb dX9_firstOf_18 ?_
      refine lv_iconst (v := 1) hx hb dX9_firstOf_19 (by decide) ?_
      refine lv_iand hx hb dX9_firstOf_20 ?_
      refine lv_if_eq (tgt := 53) hx hb dX9_firstOf_21 (by decide) (fun c21 => ?_) (fun c21 => ?_)
      · have hw := hw.1 c21
        refine lv_iinc (v := (x4 + (-1))) (lv' := [(4, .int (x4 + (-1))), (0, .ref (am 38)), (1, .int x1), (2, .int x2), (3, .int x3)]) hx hb dX9_firstOf_53 hl (k := 4) rfl rfl (by decide) rfl (fun ls hl => ?_)
        refine lv_goto (tgt := 10) hx hb dX9_firstOf_56 (by decide) ?_
        exact ih x1 x2 x3 (x4 + (-1)) hw _ _ hW hS  _ (lv_sub hl [1, 2, 3, 4, 0] rfl)
      · have hw := hw.2 c21
        refine lv_iload_n hx hb dX9_firstOf_24 rfl (lv_at hl 3 rfl) ?_
        refine lv_iconst (v := (-1)) hx hb dX9_firstOf_25 (by decide) ?_
        refine lv_icmp_eq (tgt := 50) hx hb dX9_firstOf_26 (by decide) (fun c26 => ?_) (fun c26 => ?_)
        · have hw := hw.1 c26
          refine tJ_X9_firstOf_50 C0 hK (hk10 := ih) x1 x2 x4 hw _ _ hW hS  _ (lv_sub hl [0, 1, 2, 4] rfl)
        · have hw := hw.2 c26
          refine lv_aload_n hx hb dX9_firstOf_29 rfl (lv_at hl 0 rfl) ?_
          refine gk_get hx hb hts iwX9 hown hK.1 (mk_obj hW) rfl 17 (by decide) (hts _ fl_X9_41) (fun _ h9 => h9) rfl dX9_firstOf_30 ?_
          refine lv_iload hx hb dX9_firstOf_33 (lv_at hl 4 rfl) ?_
          obtain ⟨hin, hw⟩ := hw
          refine gk_zald hx hb hK.1 1 (mk_arr hW (k := 17) (by decide) (by decide) (by decide)) rfl hin dX9_firstOf_35 ?_
          refine lv_iload_n hx hb dX9_firstOf_36 rfl (lv_at hl 2 rfl) ?_
          refine lv_icmp_eq (tgt := 50) hx hb dX9_firstOf_37 (by decide) (fun c37 => ?_) (fun c37 => ?_)
          · have hw := hw.1 c37
            refine tJ_X9_firstOf_50 C0 hK (hk10 := ih) x1 x2 x4 hw _ _ hW hS  _ (lv_sub hl [0, 1, 2, 4] rfl)
          · have hw := hw.2 c37
            refine lv_aload_n hx hb dX9_firstOf_40 rfl (lv_at hl 0 rfl) ?_
            refine gk_get hx hb hts iwX9 hown hK.1 (mk_obj hW) rfl 17 (by decide) (hts _ fl_X9_41) (fun _ h9 => h9) rfl dX9_firstOf_41 ?_
            refine lv_iload_n hx hb dX9_firstOf_44 rfl (lv_at hl 3 rfl) ?_
            obtain ⟨hin, hw⟩ := hw
            refine gk_zald hx hb hK.1 1 (mk_arr hW (k := 17) (by decide) (by decide) (by decide)) rfl hin dX9_firstOf_45 ?_
            refine lv_iload_n hx hb dX9_firstOf_46 rfl (lv_at hl 2 rfl) ?_
            refine lv_icmp_eq (tgt := 53) hx hb dX9_firstOf_47 (by decide) (fun c47 => ?_) (fun c47 => ?_)
            · have hw := hw.1 c47
              refine lv_iinc (v := (x4 + (-1))) (lv' := [(4, .int (x4 + (-1))), (0, .ref (am 38)), (1, .int x1), (2, .int x2), (3, .int x3)]) hx hb dX9_firstOf_53 hl (k := 4) rfl rfl (by decide) rfl (fun ls hl => ?_)
              refine lv_goto (tgt := 10) hx hb dX9_firstOf_56 (by decide) ?_
              exact ih x1 x2 x3 (x4 + (-1)) hw _ _ hW hS  _ (lv_sub hl [1, 2, 3, 4, 0] rfl)
            · have hw := hw.2 c47
              refine tJ_X9_firstOf_50 C0 hK (hk10 := ih) x1 x2 x4 hw _ _ hW hS  _ (lv_sub hl [0, 1, 2, 4] rfl)
set_option maxHeartbeats 4000000 in
set_option maxRecDepth 100000 in
theorem c_X9_firstOf (l : Launch) (D : va_G) (cI cZ cG cL : ClassId) (am : Nat → Nat) {σ : gk_C} {a0 : Int32} {a1 : Int32} {Q : Int32 → Prop} {sz : Nat} (hw : w_X9_firstOf σ a0 a1 Q) : Met l yX9_firstOf wsX9_firstOf rmX9_firstOf (mk_Pc (mk_V D cI cZ am) D cI cZ cG cL [.ref (am 38), .int a0, .int a1] sz σ (fun _ => True)) (va_Qi (fun r u => u = σ ∧ Q r) (mk_B (mk_V D cI cZ am)) (mk_A am sz)) 0 0 (mk_A am sz) := by
  refine Met.ofW (cc := cX9_firstOf) (maxL := 5) (ret := (some .int)) (by decide) rfl ?_
  intro p e s m args below meth c s₁ B hml0 hv0
  obtain ⟨rfl, hsz, hW, hK, hX⟩ := hv0
  subst hsz
  have C0 : gk_F p s m ([.ref (am 38), .int a0, .int a1] : List Value).toArray meth c cX9_firstOf 5 (some .int) RX9 := ⟨B.exec, B.bytes, hml0, findClass_of_methodNamed B.named, fun w hw => atoms_spec (ws := wsX9_firstOf) B.pre w (List.mem_cons_of_mem _ hw), B.returns, B.notSynchronized⟩
  obtain ⟨hx, hb, hml, hown, hts, hr, hlocks⟩ := id C0
  have hS : va_S (mk_A am s.heap.size) s.heap s.heap [] := va_S.rf
  have hl := lv_entry ([.ref (am 38), .int a0, .int a1]) (n := 5) (Nat.le_of_ble_eq_true rfl)
  rw [lg_entry_eq]
  generalize (lg_sl ([.ref (am 38), .int a0, .int a1]) ++ List.replicate (5 - (lg_sl ([.ref (am 38), .int a0, .int a1])).length) Slot.unset).toArray = ls at hl ⊢
  have hl : lv_has ls 5 [(0, .ref (am 38)), (1, .int a0), (2, .int a1)] := hl
  show W p l e rmX9_firstOf s m _ below meth c s.heap [] 0 0 _ _
  refine lv_iconst (v := (-1)) hx hb dX9_firstOf_0 (by decide) ?_
  refine lv_istore_n (lv' := [(3, .int (-1)), (0, .ref (am 38)), (1, .int a0), (2, .int a1)]) hx hb dX9_firstOf_1 rfl hl (by decide) rfl (fun ls hl => ?_)
  refine lv_aload_n hx hb dX9_firstOf_2 rfl (lv_at hl 1 rfl) ?_
  refine gk_get hx hb hts iwX9 hown hK.1 (mk_obj hW) rfl 16 (by decide) (hts _ fl_X9_165) (fun _ h9 => h9) rfl dX9_firstOf_3 ?_
  refine lv_iconst (v := 1) hx hb dX9_firstOf_6 (by decide) ?_
  refine lv_isub hx hb dX9_firstOf_7 ?_
  refine lv_istore (lv' := [(4, .int ((σ.2 16) - 1)), (3, .int (-1)), (0, .ref (am 38)), (1, .int a0), (2, .int a1)]) hx hb dX9_firstOf_8 hl (by decide) rfl (fun ls hl => ?_)
  obtain ⟨n10, hw⟩ := hw
  refine tL_X9_firstOf_10 C0 hK  n10 a0 a1 (-1) ((σ.2 16) - 1) hw _ _ hW hS  _ (lv_sub hl [2, 3, 4, 1, 0] rfl)

abbrev rmX9_firstOfW : Room := { frames := 0, cells := 0, slots := 0, locals := 0 }
set_option maxHeartbeats 4000000 in
set_option maxRecDepth 100000 in
theorem tJ_X9_firstOf_50W {p : Program} {l : Launch} {e : Env} {s : State} {m : MethodId} {args : Array Value} {below : List Frame} {meth : Method} {c : Code} {D : va_G} {cI cZ cG cL : ClassId} {am : Nat → Nat} (C0 : gk_F p s m args meth c cX9_firstOf 5 (some .int) RX9) (hK : gk_K D cI cZ cG cL s) {σ : gk_C} {Q : Int32 → Prop} {k10 : Int32 → Int32 → Int32 → Int32 → Prop} (hk10 : ∀ (x1 : Int32) (x2 : Int32) (x3 : Int32) (x4 : Int32), k10 x1 x2 x3 x4 → ∀ (H : Heap) (locs : List Loc), mk_W D cI cZ am σ H → va_S (mk_A am s.heap.size) s.heap H locs → ∀ (ls : Array Slot), lv_has ls 5 [(0, .ref (am 38)), (1, .int x1), (2, .int x2), (3, .int x3), (4, .int x4)] → W p l e rmX9_firstOfW s m args below meth c H locs 0 0 (MQ below (va_Qi (fun r u => u = σ ∧ Q r) (mk_B (mk_W D cI cZ am)) (mk_A am s.heap.size)) args s 0 0 (mk_A am s.heap.size)) (F0 m 10 ls [])) : ∀ (x1 : Int32) (x2 : Int32) (x4 : Int32), wJ_X9_firstOf_50 σ k10 x1 x2 x4 → ∀ (H : Heap) (locs : List Loc), mk_W D cI cZ am σ H → va_S (mk_A am s.heap.size) s.heap H locs → ∀ (ls : Array Slot), lv_has ls 5 [(0, .ref (am 38)), (1, .int x1), (2, .int x2), (4, .int x4)] → W p l e rmX9_firstOfW s m args below meth c H locs 0 0 (MQ below (va_Qi (fun r u => u = σ ∧ Q r) (mk_B (mk_W D cI cZ am)) (mk_A am s.heap.size)) args s 0 0 (mk_A am s.heap.size)) (F0 m 50 ls []) := by
  obtain ⟨hx, hb, hml, hown, hts, hr, hlocks⟩ := id C0
  intro x1 x2 x4 hw H locs hW hS  ls hl
  refine lv_iload hx hb dX9_firstOf_50 (lv_at hl 3 rfl) ?_
  refine lv_istore_n (lv' := [(3, .int x4), (0, .ref (am 38)), (1, .int x1), (2, .int x2), (4, .int x4)]) hx hb dX9_firstOf_52 rfl hl (by decide) rfl (fun ls hl => ?_)
  refine lv_iinc (v := (x4 + (-1))) (lv' := [(4, .int (x4 + (-1))), (3, .int x4), (0, .ref (am 38)), (1, .int x1), (2, .int x2)]) hx hb dX9_firstOf_53 hl (k := 4) rfl rfl (by decide) rfl (fun ls hl => ?_)
  refine lv_goto (tgt := 10) hx hb dX9_firstOf_56 (by decide) ?_
  exact hk10 x1 x2 x4 (x4 + (-1)) hw _ _ hW hS  _ (lv_sub hl [2, 3, 4, 1, 0] rfl)
set_option maxHeartbeats 4000000 in
set_option maxRecDepth 100000 in
theorem tL_X9_firstOf_10W {p : Program} {l : Launch} {e : Env} {s : State} {m : MethodId} {args : Array Value} {below : List Frame} {meth : Method} {c : Code} {D : va_G} {cI cZ cG cL : ClassId} {am : Nat → Nat} (C0 : gk_F p s m args meth c cX9_firstOf 5 (some .int) RX9) (hK : gk_K D cI cZ cG cL s) {σ : gk_C} {Q : Int32 → Prop} : ∀ (n : Nat) (x1 : Int32) (x2 : Int32) (x3 : Int32) (x4 : Int32), wL_X9_firstOf_10 σ Q n x1 x2 x3 x4 → ∀ (H : Heap) (locs : List Loc), mk_W D cI cZ am σ H → va_S (mk_A am s.heap.size) s.heap H locs → ∀ (ls : Array Slot), lv_has ls 5 [(0, .ref (am 38)), (1, .int x1), (2, .int x2), (3, .int x3), (4, .int x4)] → W p l e rmX9_firstOfW s m args below meth c H locs 0 0 (MQ below (va_Qi (fun r u => u = σ ∧ Q r) (mk_B (mk_W D cI cZ am)) (mk_A am s.heap.size)) args s 0 0 (mk_A am s.heap.size)) (F0 m 10 ls []) := by
  obtain ⟨hx, hb, hml, hown, hts, hr, hlocks⟩ := id C0
  intro n
  induction n with
  | zero => exact fun _ _ _ _ hw => False.elim hw
  | succ n ih =>
    intro x1 x2 x3 x4 hw H locs hW hS  ls hl
    refine lv_iload hx hb dX9_firstOf_10 (lv_at hl 4 rfl) ?_
    refine lv_if_lt (tgt := 59) hx hb dX9_firstOf_12 (by decide) (fun c12 => ?_) (fun c12 => ?_)
    · have hw := hw.1 c12
      refine lv_iload_n hx hb dX9_firstOf_59 rfl (lv_at hl 3 rfl) ?_
      refine W.widen (k := 0) (n := 0) (Nat.le_of_ble_eq_true rfl) (Nat.le_of_ble_eq_true rfl) ?_
      exact mk_reti C0 ⟨rfl, hw⟩ hW hS dX9_firstOf_60
    · have hw := hw.2 c12
      refine lv_iload_n hx hb dX9_firstOf_15 rfl (lv_at hl 1 rfl) ?_
      refine lv_iload hx hb dX9_firstOf_16 (lv_at hl 4 rfl) ?_
      refine lv_ishr hx hb dX9_firstOf_18 ?_
      refine lv_iconst (v := 1) hx hb dX9_firstOf_19 (by decide) ?_
      refine lv_iand hx hb dX9_firstOf_20 ?_
      refine lv_if_eq (tgt := 53) hx hb dX9_firstOf_21 (by decide) (fun c21 => ?_) (fun c21 => ?_)
      · have hw := hw.1 c21
        refine lv_iinc (v := (x4 + (-1))) (lv' := [(4, .int (x4 + (-1))), (0, .ref (am 38)), (1, .int x1), (2, .int x2), (3, .int x3)]) hx hb dX9_firstOf_53 hl (k := 4) rfl rfl (by decide) rfl (fun ls hl => ?_)
        refine lv_goto (tgt := 10) hx hb dX9_firstOf_56 (by decide) ?_
        exact ih x1 x2 x3 (x4 + (-1)) hw _ _ hW hS  _ (lv_sub hl [1, 2, 3, 4, 0] rfl)
      · have hw := hw.2 c21
        refine lv_iload_n hx hb dX9_firstOf_24 rfl (lv_at hl 3 rfl) ?_
        refine lv_iconst (v := (-1)) hx hb dX9_firstOf_25 (by decide) ?_
        refine lv_icmp_eq (tgt := 50) hx hb dX9_firstOf_26 (by decide) (fun c26 => ?_) (fun c26 => ?_)
        · have hw := hw.1 c26
          refine tJ_X9_firstOf_50W C0 hK (hk10 := ih) x1 x2 x4 hw _ _ hW hS  _ (lv_sub hl [0, 1, 2, 4] rfl)
        · have hw := hw.2 c26
          refine lv_aload_n hx hb dX9_firstOf_29 rfl (lv_at hl 0 rfl) ?_
          refine gk_get hx hb hts iwX9 hown hK.1 (mk_objW hW) rfl 17 (by decide) (hts _ fl_X9_41) (fun _ h9 => h9) rfl dX9_firstOf_30 ?_
          refine lv_iload hx hb dX9_firstOf_33 (lv_at hl 4 rfl) ?_
          obtain ⟨hin, hw⟩ := hw
          refine gk_zald hx hb hK.1 1 (mk_arrW hW (k := 17) (by decide)) rfl hin dX9_firstOf_35 ?_
          refine lv_iload_n hx hb dX9_firstOf_36 rfl (lv_at hl 2 rfl) ?_
          refine lv_icmp_eq (tgt := 50) hx hb dX9_firstOf_37 (by decide) (fun c37 => ?_) (fun c37 => ?_)
          · have hw := hw.1 c37
            refine tJ_X9_firstOf_50W C0 hK (hk10 := ih) x1 x2 x4 hw _ _ hW hS  _ (lv_sub hl [0, 1, 2, 4] rfl)
          · have hw := hw.2 c37
            refine lv_aload_n hx hb dX9_firstOf_40 rfl (lv_at hl 0 rfl) ?_
            refine gk_get hx hb hts iwX9 hown hK.1 (mk_objW hW) rfl 17 (by decide) (hts _ fl_X9_41) (fun _ h9 => h9) rfl dX9_firstOf_41 ?_
            refine lv_iload_n hx hb dX9_firstOf_44 rfl (lv_at hl 3 rfl) ?_
            obtain ⟨hin, hw⟩ := hw
            refine gk_zald hx hb hK.1 1 (mk_arrW hW (k := 17) (by decide)) rfl hin dX9_firstOf_45 ?_
            refine lv_iload_n hx hb dX9_firstOf_46 rfl (lv_at hl 2 rfl) ?_
            refine lv_icmp_eq (tgt := 53) hx hb dX9_firstOf_47 (by decide) (fun c47 => ?_) (fun c47 => ?_)
            · have hw := hw.1 c47
              refine lv_iinc (v := (x4 + (-1))) (lv' := [(4, .int (x4 + (-1))), (0, .ref (am 38)), (1, .int x1), (2, .int x2), (3, .int x3)]) hx hb dX9_firstOf_53 hl (k := 4) rfl rfl (by decide) rfl (fun ls hl => ?_)
              refine lv_goto (tgt := 10) hx hb dX9_firstOf_56 (by decide) ?_
              exact ih x1 x2 x3 (x4 + (-1)) hw _ _ hW hS  _ (lv_sub hl [1, 2, 3, 4, 0] rfl)
            · have hw := hw.2 c47
              refine tJ_X9_firstOf_50W C0 hK (hk10 := ih) x1 x2 x4 hw _ _ hW hS  _ (lv_sub hl [0, 1, 2, 4] rfl)
set_option maxHeartbeats 4000000 in
set_option maxRecDepth 100000 in
theorem c_X9_firstOfW (l : Launch) (D : va_G) (cI cZ cG cL : ClassId) (am : Nat → Nat) {σ : gk_C} {a0 : Int32} {a1 : Int32} {Q : Int32 → Prop} {sz : Nat} (hw : w_X9_firstOf σ a0 a1 Q) : Met l yX9_firstOf wsX9_firstOf rmX9_firstOfW (mk_Pc (mk_W D cI cZ am) D cI cZ cG cL [.ref (am 38), .int a0, .int a1] sz σ (fun _ => True)) (va_Qi (fun r u => u = σ ∧ Q r) (mk_B (mk_W D cI cZ am)) (mk_A am sz)) 0 0 (mk_A am sz) := by
  refine Met.ofW (cc := cX9_firstOf) (maxL := 5) (ret := (some .int)) (by decide) rfl ?_
  intro p e s m args below meth c s₁ B hml0 hv0
  obtain ⟨rfl, hsz, hW, hK, hX⟩ := hv0
  subst hsz
  have C0 : gk_F p s m ([.ref (am 38), .int a0, .int a1] : List Value).toArray meth c cX9_firstOf 5 (some .int) RX9 := ⟨B.exec, B.bytes, hml0, findClass_of_methodNamed B.named, fun w hw => atoms_spec (ws := wsX9_firstOf) B.pre w (List.mem_cons_of_mem _ hw), B.returns, B.notSynchronized⟩
  obtain ⟨hx, hb, hml, hown, hts, hr, hlocks⟩ := id C0
  have hS : va_S (mk_A am s.heap.size) s.heap s.heap [] := va_S.rf
  have hl := lv_entry ([.ref (am 38), .int a0, .int a1]) (n := 5) (Nat.le_of_ble_eq_true rfl)
  rw [lg_entry_eq]
  generalize (lg_sl ([.ref (am 38), .int a0, .int a1]) ++ List.replicate (5 - (lg_sl ([.ref (am 38), .int a0, .int a1])).length) Slot.unset).toArray = ls at hl ⊢
  have hl : lv_has ls 5 [(0, .ref (am 38)), (1, .int a0), (2, .int a1)] := hl
  show W p l e rmX9_firstOfW s m _ below meth c s.heap [] 0 0 _ _
  refine lv_iconst (v := (-1)) hx hb dX9_firstOf_0 (by decide) ?_
  refine lv_istore_n (lv' := [(3, .int (-1)), (0, .ref (am 38)), (1, .int a0), (2, .int a1)]) hx hb dX9_firstOf_1 rfl hl (by decide) rfl (fun ls hl => ?_)
  refine lv_aload_n hx hb dX9_firstOf_2 rfl (lv_at hl 1 rfl) ?_
  refine gk_get hx hb hts iwX9 hown hK.1 (mk_objW hW) rfl 16 (by decide) (hts _ fl_X9_165) (fun _ h9 => h9) rfl dX9_firstOf_3 ?_
  refine lv_iconst (v := 1) hx hb dX9_firstOf_6 (by decide) ?_
  refine lv_isub hx hb dX9_firstOf_7 ?_
  refine lv_istore (lv' := [(4, .int ((σ.2 16) - 1)), (3, .int (-1)), (0, .ref (am 38)), (1, .int a0), (2, .int a1)]) hx hb dX9_firstOf_8 hl (by decide) rfl (fun ls hl => ?_)
  obtain ⟨n10, hw⟩ := hw
  refine tL_X9_firstOf_10W C0 hK  n10 a0 a1 (-1) ((σ.2 16) - 1) hw _ _ hW hS  _ (lv_sub hl [2, 3, 4, 1, 0] rfl)
def wL_X9_isWalled_2 (σ : gk_C) (Q : Int32 → Prop) : Nat → Int32 → Int32 → Int32 → Prop
  | 0 => fun _ _ _ => False
  | n + 1 => fun x1 x2 x3 => ((((σ.2 11) ≤ x3) → (Q 0)) ∧ ((¬ (σ.2 11) ≤ x3) → (vp_in ((x1 * 24) + x3) 288 ∧ (((σ.1 34 ((x1 * 24) + x3).toNatClampNeg) = 0) → (wL_X9_isWalled_2 σ Q n x1 x2 (x3 + 1))) ∧ ((¬ (σ.1 34 ((x1 * 24) + x3).toNatClampNeg) = 0) → (vp_in x2 24 ∧ (((σ.1 14 x2.toNatClampNeg) = (-1)) → (wL_X9_isWalled_2 σ Q n x1 x2 (x3 + 1))) ∧ ((¬ (σ.1 14 x2.toNatClampNeg) = (-1)) → (vp_in x3 24 ∧ vp_in x2 24 ∧ ((¬ (σ.1 14 x3.toNatClampNeg) = (σ.1 14 x2.toNatClampNeg)) → (wL_X9_isWalled_2 σ Q n x1 x2 (x3 + 1))) ∧ (((σ.1 14 x3.toNatClampNeg) = (σ.1 14 x2.toNatClampNeg)) → (vp_in x3 24 ∧ vp_in x2 24 ∧ (((σ.1 15 x3.toNatClampNeg) = (σ.1 15 x2.toNatClampNeg)) → (wL_X9_isWalled_2 σ Q n x1 x2 (x3 + 1))) ∧ ((¬ (σ.1 15 x3.toNatClampNeg) = (σ.1 15 x2.toNatClampNeg)) → (Q 1)))))))))))
def w_X9_isWalled (σ : gk_C) (a0 : Int32) (a1 : Int32) (Q : Int32 → Prop) : Prop := (∃ n2, wL_X9_isWalled_2 σ Q n2 a0 a1 0)
abbrev rmX9_isWalled : Room := { frames := 0, cells := 0, slots := 0, locals := 0 }
set_option maxHeartbeats 4000000 in
set_option maxRecDepth 100000 in
theorem tL_X9_isWalled_2 {p : Program} {l : Launch} {e : Env} {s : State} {m : MethodId} {args : Array Value} {below : List Frame} {meth : Method} {c : Code} {D : va_G} {cI cZ cG cL : ClassId} {am : Nat → Nat} (C0 : gk_F p s m args meth c cX9_isWalled 4 (some .boolean) RX9) (hK : gk_K D cI cZ cG cL s) {σ : gk_C} {Q : Int32 → Prop} : ∀ (n : Nat) (x1 : Int32) (x2 : Int32) (x3 : Int32), wL_X9_isWalled_2 σ Q n x1 x2 x3 → ∀ (H : Heap) (locs : List Loc), mk_V D cI cZ am σ H → va_S (mk_A am s.heap.size) s.heap H locs → ∀ (ls : Array Slot), lv_has ls 4 [(0, .ref (am 38)), (1, .int x1), (2, .int x2), (3, .int x3)] → W p l e rmX9_isWalled s m args below meth c H locs 0 0 (MQ below (va_Qi (fun r u => u = σ ∧ Q r) (mk_B (mk_V D cI cZ am)) (mk_A am s.heap.size)) args s 0 0 (mk_A am s.heap.size)) (F0 m 2 ls []) := by
  obtain ⟨hx, hb, hml, hown, hts, hr, hlocks⟩ := id C0
  intro n
  induction n with
  | zero => exact fun _ _ _ hw => False.elim hw
  | succ n ih =>
    intro x1 x2 x3 hw H locs hW hS  ls hl
    refine lv_iload_n hx hb dX9_isWalled_2 rfl (lv_at hl 3 rfl) ?_
    refine lv_aload_n hx hb dX9_isWalled_3 rfl (lv_at hl 0 rfl) ?_
    refine gk_get hx hb hts iwX9 hown hK.1 (mk_obj hW) rfl 11 (by decide) (hts _ fl_X9_25) (fun _ h9 => h9) rfl dX9_isWalled_4 ?_
    refine lv_icmp_ge (tgt := 72) hx hb dX9_isWalled_7 (by decide) (fun c7 => ?_) (fun c7 => ?_)
    · have hw := hw.1 c7
      refine lv_iconst (v := 0) hx hb dX9_isWalled_72 (by decide) ?_
      refine W.widen (k := 0) (n := 0) (Nat.le_of_ble_eq_true rfl) (Nat.le_of_ble_eq_true rfl) ?_
      exact mk_retz C0 (by decide) ⟨rfl, hw⟩ hW hS dX9_isWalled_73
    · have hw := hw.2 c7
      refine lv_aload_n hx hb dX9_isWalled_10 rfl (lv_at hl 0 rfl) ?_
      refine gk_get hx hb hts iwX9 hown hK.1 (mk_obj hW) rfl 34 (by decide) (hts _ fl_X9_90) (fun _ h9 => h9) rfl dX9_isWalled_11 ?_
      refine lv_iload_n hx hb dX9_isWalled_14 rfl (lv_at hl 1 rfl) ?_
      refine lv_bipush (v := 24) hx hb dX9_isWalled_15 (by decide) ?_
      refine lv_imul hx hb dX9_isWalled_17 ?_
      refine lv_iload_n hx hb dX9_isWalled_18 rfl (lv_at hl 3 rfl) ?_
      refine lv_iadd hx hb dX9_isWalled_19 ?_
      obtain ⟨hin, hw⟩ := hw
      refine gk_iald hx hb hK.1 0 (mk_arr hW (k := 34) (by decide) (by decide) (by decide)) rfl hin dX9_isWalled_20 ?_
      refine lv_if_eq (tgt := 66) hx hb dX9_isWalled_21 (by decide) (fun c21 => ?_) (fun c21 => ?_)
      · have hw := hw.1 c21
        refine lv_iinc (v := (x3 + 1)) (lv' := [(3, .int (x3 + 1)), (0, .ref (am 38)), (1, .int x1), (2, .int x2)]) hx hb dX9_isWalled_66 hl (k := 3) rfl rfl (by decide) rfl (fun ls hl => ?_)
        refine lv_goto (tgt := 2) hx hb dX9_isWalled_69 (by decide) ?_
        exact ih x1 x2 (x3 + 1) hw _ _ hW hS  _ (lv_sub hl [1, 2, 3, 0] rfl)
      · have hw := hw.2 c21
        refine lv_aload_n hx hb dX9_isWalled_24 rfl (lv_at hl 0 rfl) ?_
        refine gk_get hx hb hts iwX9 hown hK.1 (mk_obj hW) rfl 14 (by decide) (hts _ fl_X9_35) (fun _ h9 => h9) rfl dX9_isWalled_25 ?_
        refine lv_iload_n hx hb dX9_isWalled_28 rfl (lv_at hl 2 rfl) ?_
        obtain ⟨hin, hw⟩ := hw
        refine gk_iald hx hb hK.1 0 (mk_arr hW (k := 14) (by decide) (by decide) (by decide)) rfl hin dX9_isWalled_29 ?_
        refine lv_iconst (v := (-1)) hx hb dX9_isWalled_30 (by decide) ?_
        refine lv_icmp_eq (tgt := 66) hx hb dX9_isWalled_31 (by decide) (fun c31 => ?_) (fun c31 => ?_)
        · have hw := hw.1 c31
          refine lv_iinc (v := (x3 + 1)) (lv' := [(3, .int (x3 + 1)), (0, .ref (am 38)), (1, .int x1), (2, .int x2)]) hx hb dX9_isWalled_66 hl (k := 3) rfl rfl (by decide) rfl (fun ls hl => ?_)
          refine lv_goto (tgt := 2) hx hb dX9_isWalled_69 (by decide) ?_
          exact ih x1 x2 (x3 + 1) hw _ _ hW hS  _ (lv_sub hl [1, 2, 3, 0] rfl)
        · have hw := hw.2 c31
          refine lv_aload_n hx hb dX9_isWalled_34 rfl (lv_at hl 0 rfl) ?_
          refine gk_get hx hb hts iwX9 hown hK.1 (mk_obj hW) rfl 14 (by decide) (hts _ fl_X9_35) (fun _ h9 => h9) rfl dX9_isWalled_35 ?_
          refine lv_iload_n hx hb dX9_isWalled_38 rfl (lv_at hl 3 rfl) ?_
          obtain ⟨hin, hw⟩ := hw
          refine gk_iald hx hb hK.1 0 (mk_arr hW (k := 14) (by decide) (by decide) (by decide)) rfl hin dX9_isWalled_39 ?_
          refine lv_aload_n hx hb dX9_isWalled_40 rfl (lv_at hl 0 rfl) ?_
          refine gk_get hx hb hts iwX9 hown hK.1 (mk_obj hW) rfl 14 (by decide) (hts _ fl_X9_35) (fun _ h9 => h9) rfl dX9_isWalled_41 ?_
          refine lv_iload_n hx hb dX9_isWalled_44 rfl (lv_at hl 2 rfl) ?_
          obtain ⟨hin, hw⟩ := hw
          refine gk_iald hx hb hK.1 0 (mk_arr hW (k := 14) (by decide) (by decide) (by decide)) rfl hin dX9_isWalled_45 ?_
          refine lv_icmp_ne (tgt := 66) hx hb dX9_isWalled_46 (by decide) (fun c46 => ?_) (fun c46 => ?_)
          · have hw := hw.1 c46
            refine lv_iinc (v := (x3 + 1)) (lv' := [(3, .int (x3 + 1)), (0, .ref (am 38)), (1, .int x1), (2, .int x2)]) hx hb dX9_isWalled_66 hl (k := 3) rfl rfl (by decide) rfl (fun ls hl => ?_)
            refine lv_goto (tgt := 2) hx hb dX9_isWalled_69 (by decide) ?_
            exact ih x1 x2 (x3 + 1) hw _ _ hW hS  _ (lv_sub hl [1, 2, 3, 0] rfl)
          · have hw := hw.2 c46
            refine lv_aload_n hx hb dX9_isWalled_49 rfl (lv_at hl 0 rfl) ?_
            refine gk_get hx hb hts iwX9 hown hK.1 (mk_obj hW) rfl 15 (by decide) (hts _ fl_X9_38) (fun _ h9 => h9) rfl dX9_isWalled_50 ?_
            refine lv_iload_n hx hb dX9_isWalled_53 rfl (lv_at hl 3 rfl) ?_
            obtain ⟨hin, hw⟩ := hw
            refine gk_iald hx hb hK.1 0 (mk_arr hW (k := 15) (by decide) (by decide) (by decide)) rfl hin dX9_isWalled_54 ?_
            refine lv_aload_n hx hb dX9_isWalled_55 rfl (lv_at hl 0 rfl) ?_
            refine gk_get hx hb hts iwX9 hown hK.1 (mk_obj hW) rfl 15 (by decide) (hts _ fl_X9_38) (fun _ h9 => h9) rfl dX9_isWalled_56 ?_
            refine lv_iload_n hx hb dX9_isWalled_59 rfl (lv_at hl 2 rfl) ?_
            obtain ⟨hin, hw⟩ := hw
            refine gk_iald hx hb hK.1 0 (mk_arr hW (k := 15) (by decide) (by decide) (by decide)) rfl hin dX9_isWalled_60 ?_
            refine lv_icmp_eq (tgt := 66) hx hb dX9_isWalled_61 (by decide) (fun c61 => ?_) (fun c61 => ?_)
            · have hw := hw.1 c61
              refine lv_iinc (v := (x3 + 1)) (lv' := [(3, .int (x3 + 1)), (0, .ref (am 38)), (1, .int x1), (2, .int x2)]) hx hb dX9_isWalled_66 hl (k := 3) rfl rfl (by decide) rfl (fun ls hl => ?_)
              refine lv_goto (tgt := 2) hx hb dX9_isWalled_69 (by decide) ?_
              exact ih x1 x2 (x3 + 1) hw _ _ hW hS  _ (lv_sub hl [1, 2, 3, 0] rfl)
            · have hw := hw.2 c61
              refine lv_iconst (v := 1) hx hb dX9_isWalled_64 (by decide) ?_
              refine W.widen (k := 0) (n := 0) (Nat.le_of_ble_eq_true rfl) (Nat.le_of_ble_eq_true rfl) ?_
              exact mk_retz C0 (by decide) ⟨rfl, hw⟩ hW hS dX9_isWalled_65
set_option maxHeartbeats 4000000 in
set_option maxRecDepth 100000 in
theorem c_X9_isWalled (l : Launch) (D : va_G) (cI cZ cG cL : ClassId) (am : Nat → Nat) {σ : gk_C} {a0 : Int32} {a1 : Int32} {Q : Int32 → Prop} {sz : Nat} (hw : w_X9_isWalled σ a0 a1 Q) : Met l yX9_isWalled wsX9_isWalled rmX9_isWalled (mk_Pc (mk_V D cI cZ am) D cI cZ cG cL [.ref (am 38), .int a0, .int a1] sz σ (fun _ => True)) (va_Qi (fun r u => u = σ ∧ Q r) (mk_B (mk_V D cI cZ am)) (mk_A am sz)) 0 0 (mk_A am sz) := by
  refine Met.ofW (cc := cX9_isWalled) (maxL := 4) (ret := (some .boolean)) (by decide) rfl ?_
  intro p e s m args below meth c s₁ B hml0 hv0
  obtain ⟨rfl, hsz, hW, hK, hX⟩ := hv0
  subst hsz
  have C0 : gk_F p s m ([.ref (am 38), .int a0, .int a1] : List Value).toArray meth c cX9_isWalled 4 (some .boolean) RX9 := ⟨B.exec, B.bytes, hml0, findClass_of_methodNamed B.named, fun w hw => atoms_spec (ws := wsX9_isWalled) B.pre w (List.mem_cons_of_mem _ hw), B.returns, B.notSynchronized⟩
  obtain ⟨hx, hb, hml, hown, hts, hr, hlocks⟩ := id C0
  have hS : va_S (mk_A am s.heap.size) s.heap s.heap [] := va_S.rf
  have hl := lv_entry ([.ref (am 38), .int a0, .int a1]) (n := 4) (Nat.le_of_ble_eq_true rfl)
  rw [lg_entry_eq]
  generalize (lg_sl ([.ref (am 38), .int a0, .int a1]) ++ List.replicate (4 - (lg_sl ([.ref (am 38), .int a0, .int a1])).length) Slot.unset).toArray = ls at hl ⊢
  have hl : lv_has ls 4 [(0, .ref (am 38)), (1, .int a0), (2, .int a1)] := hl
  show W p l e rmX9_isWalled s m _ below meth c s.heap [] 0 0 _ _
  refine lv_iconst (v := 0) hx hb dX9_isWalled_0 (by decide) ?_
  refine lv_istore_n (lv' := [(3, .int 0), (0, .ref (am 38)), (1, .int a0), (2, .int a1)]) hx hb dX9_isWalled_1 rfl hl (by decide) rfl (fun ls hl => ?_)
  obtain ⟨n2, hw⟩ := hw
  refine tL_X9_isWalled_2 C0 hK  n2 a0 a1 0 hw _ _ hW hS  _ (lv_sub hl [1, 2, 3, 0] rfl)
def wJ_X9_barred_45 (σ : gk_C) (Q : Int32 → Prop) (x1 : Int32) (x3 : Int32) : Prop := (w_X9_isWalled σ x1 x3 (fun r48 => ((r48 = 0) → (Q 0)) ∧ ((¬ r48 = 0) → (Q 5))))
def wJ_X9_barred_19 (σ : gk_C) (Q : Int32 → Prop) (x1 : Int32) (x2 : Int32) (x3 : Int32) : Prop := (w_X9_isIn x2 1 3 (fun r22 => ((r22 = 0) → (wJ_X9_barred_45 σ Q x1 x3)) ∧ ((¬ r22 = 0) → (vp_in x3 24 ∧ vp_in x1 12 ∧ (((σ.1 5 x1.toNatClampNeg) ≤ (σ.1 13 x3.toNatClampNeg)) → (wJ_X9_barred_45 σ Q x1 x3)) ∧ ((¬ (σ.1 5 x1.toNatClampNeg) ≤ (σ.1 13 x3.toNatClampNeg)) → (Q 4))))))
def w_X9_barred (σ : gk_C) (a0 : Int32) (a1 : Int32) (a2 : Int32) (Q : Int32 → Prop) : Prop := (((¬ a1 = 0) → (wJ_X9_barred_19 σ Q a0 a1 a2)) ∧ ((a1 = 0) → (vp_in a2 24 ∧ vp_in a0 12 ∧ (((σ.1 5 a0.toNatClampNeg) < (σ.1 13 a2.toNatClampNeg)) → (Q 4)) ∧ ((¬ (σ.1 5 a0.toNatClampNeg) < (σ.1 13 a2.toNatClampNeg)) → (wJ_X9_barred_19 σ Q a0 a1 a2)))))
abbrev rmX9_barred : Room := { frames := 1, cells := 0, slots := 0, locals := 23 }
set_option maxHeartbeats 4000000 in
set_option maxRecDepth 100000 in
theorem tJ_X9_barred_45 {p : Program} {l : Launch} {e : Env} {s : State} {m : MethodId} {args : Array Value} {below : List Frame} {meth : Method} {c : Code} {D : va_G} {cI cZ cG cL : ClassId} {am : Nat → Nat} (C0 : gk_F p s m args meth c cX9_barred 4 (some .int) RX9) (hK : gk_K D cI cZ cG cL s) {σ : gk_C} {Q : Int32 → Prop} : ∀ (x1 : Int32) (x3 : Int32), wJ_X9_barred_45 σ Q x1 x3 → ∀ (H : Heap) (locs : List Loc), mk_V D cI cZ am σ H → va_S (mk_A am s.heap.size) s.heap H locs → ∀ (ls : Array Slot), lv_has ls 4 [(0, .ref (am 38)), (1, .int x1), (3, .int x3)] → W p l e rmX9_barred s m args below meth c H locs 0 0 (MQ below (va_Qi (fun r u => u = σ ∧ Q r) (mk_B (mk_V D cI cZ am)) (mk_A am s.heap.size)) args s 0 0 (mk_A am s.heap.size)) (F0 m 45 ls []) := by
  obtain ⟨hx, hb, hml, hown, hts, hr, hlocks⟩ := id C0
  intro x1 x3 hw H locs hW hS  ls hl
  refine lv_aload_n hx hb dX9_barred_45 rfl (lv_at hl 0 rfl) ?_
  refine lv_iload_n hx hb dX9_barred_46 rfl (lv_at hl 1 rfl) ?_
  refine lv_iload_n hx hb dX9_barred_47 rfl (lv_at hl 2 rfl) ?_
  refine mk_callRi ⟨hx, hb, hml, hown, hts⟩ (c_X9_isWalled l D cI cZ cG cL am hw) (cwV 2 hts (gk_gV ml_X9_218 im_X9_isWalled se_X9_isWalled in_X9 co_X9_isWalled) rfl rfl rfl (by decide +kernel) ⟨Nat.le_of_ble_eq_true rfl, Nat.le_of_ble_eq_true rfl⟩) (gk_recv hK.1 (mk_obj hW) rfl) hW hK trivial hS rfl hl.1 (rest := []) rfl (lv_room (Nat.le_of_ble_eq_true rfl)) dX9_barred_48 ⟨Nat.le_of_ble_eq_true rfl, Nat.le_of_ble_eq_true rfl⟩ (fun r48 H locs hw hW _ hk hS => ?_)
  refine lv_if_eq (tgt := 58) hx hb dX9_barred_51 (by decide) (fun c51 => ?_) (fun c51 => ?_)
  · have hw := hw.1 c51
    refine lv_iconst (v := 0) hx hb dX9_barred_58 (by decide) ?_
    refine W.widen (k := 0) (n := 0) (Nat.le_of_ble_eq_true rfl) (Nat.le_of_ble_eq_true rfl) ?_
    exact mk_reti C0 ⟨rfl, hw⟩ hW hS dX9_barred_59
  · have hw := hw.2 c51
    refine lv_iconst (v := 5) hx hb dX9_barred_54 (by decide) ?_
    refine lv_goto (tgt := 59) hx hb dX9_barred_55 (by decide) ?_
    refine W.widen (k := 0) (n := 0) (Nat.le_of_ble_eq_true rfl) (Nat.le_of_ble_eq_true rfl) ?_
    exact mk_reti C0 ⟨rfl, hw⟩ hW hS dX9_barred_59
set_option maxHeartbeats 4000000 in
set_option maxRecDepth 100000 in
theorem tJ_X9_barred_19 {p : Program} {l : Launch} {e : Env} {s : State} {m : MethodId} {args : Array Value} {below : List Frame} {meth : Method} {c : Code} {D : va_G} {cI cZ cG cL : ClassId} {am : Nat → Nat} (C0 : gk_F p s m args meth c cX9_barred 4 (some .int) RX9) (hK : gk_K D cI cZ cG cL s) {σ : gk_C} {Q : Int32 → Prop} : ∀ (x1 : Int32) (x2 : Int32) (x3 : Int32), wJ_X9_barred_19 σ Q x1 x2 x3 → ∀ (H : Heap) (locs : List Loc), mk_V D cI cZ am σ H → va_S (mk_A am s.heap.size) s.heap H locs → ∀ (ls : Array Slot), lv_has ls 4 [(0, .ref (am 38)), (1, .int x1), (2, .int x2), (3, .int x3)] → W p l e rmX9_barred s m args below meth c H locs 0 0 (MQ below (va_Qi (fun r u => u = σ ∧ Q r) (mk_B (mk_V D cI cZ am)) (mk_A am s.heap.size)) args s 0 0 (mk_A am s.heap.size)) (F0 m 19 ls []) := by
  obtain ⟨hx, hb, hml, hown, hts, hr, hlocks⟩ := id C0
  intro x1 x2 x3 hw H locs hW hS  ls hl
  refine lv_iload_n hx hb dX9_barred_19 rfl (lv_at hl 2 rfl) ?_
  refine lv_iconst (v := 1) hx hb dX9_barred_20 (by decide) ?_
  refine lv_iconst (v := 3) hx hb dX9_barred_21 (by decide) ?_
  refine gk_callSi ⟨hx, hb, hml, hown, hts⟩ (c_X9_isIn l hw) (va_cwS 3 hts (gk_gS ml_X9_108 st_X9_isIn in_X9 co_X9_isIn) rfl rfl rfl (by decide +kernel) ⟨Nat.le_of_ble_eq_true rfl, Nat.le_of_ble_eq_true rfl⟩) hS rfl hl.1 (rest := []) rfl (lv_room (Nat.le_of_ble_eq_true rfl)) dX9_barred_22 ⟨Nat.le_of_ble_eq_true rfl, Nat.le_of_ble_eq_true rfl⟩ (fun r22 H locs hw _ hk hS => ?_)
  have hW := hW.keptAll hk
  refine lv_if_eq (tgt := 45) hx hb dX9_barred_25 (by decide) (fun c25 => ?_) (fun c25 => ?_)
  · have hw := hw.1 c25
    refine tJ_X9_barred_45 C0 hK  x1 x3 hw _ _ hW hS  _ (lv_sub hl [0, 1, 3] rfl)
  · have hw := hw.2 c25
    refine lv_aload_n hx hb dX9_barred_28 rfl (lv_at hl 0 rfl) ?_
    refine gk_get hx hb hts iwX9 hown hK.1 (mk_obj hW) rfl 13 (by decide) (hts _ fl_X9_32) (fun _ h9 => h9) rfl dX9_barred_29 ?_
    refine lv_iload_n hx hb dX9_barred_32 rfl (lv_at hl 3 rfl) ?_
    obtain ⟨hin, hw⟩ := hw
    refine gk_iald hx hb hK.1 0 (mk_arr hW (k := 13) (by decide) (by decide) (by decide)) rfl hin dX9_barred_33 ?_
    refine lv_aload_n hx hb dX9_barred_34 rfl (lv_at hl 0 rfl) ?_
    refine gk_get hx hb hts iwX9 hown hK.1 (mk_obj hW) rfl 5 (by decide) (hts _ fl_X9_13) (fun _ h9 => h9) rfl dX9_barred_35 ?_
    refine lv_iload_n hx hb dX9_barred_38 rfl (lv_at hl 1 rfl) ?_
    obtain ⟨hin, hw⟩ := hw
    refine gk_iald hx hb hK.1 0 (mk_arr hW (k := 5) (by decide) (by decide) (by decide)) rfl hin dX9_barred_39 ?_
    refine lv_icmp_ge (tgt := 45) hx hb dX9_barred_40 (by decide) (fun c40 => ?_) (fun c40 => ?_)
    · have hw := hw.1 c40
      refine tJ_X9_barred_45 C0 hK  x1 x3 hw _ _ hW hS  _ (lv_sub hl [0, 1, 3] rfl)
    · have hw := hw.2 c40
      refine lv_iconst (v := 4) hx hb dX9_barred_43 (by decide) ?_
      refine W.widen (k := 0) (n := 0) (Nat.le_of_ble_eq_true rfl) (Nat.le_of_ble_eq_true rfl) ?_
      exact mk_reti C0 ⟨rfl, hw⟩ hW hS dX9_barred_44
set_option maxHeartbeats 4000000 in
set_option maxRecDepth 100000 in
theorem c_X9_barred (l : Launch) (D : va_G) (cI cZ cG cL : ClassId) (am : Nat → Nat) {σ : gk_C} {a0 : Int32} {a1 : Int32} {a2 : Int32} {Q : Int32 → Prop} {sz : Nat} (hw : w_X9_barred σ a0 a1 a2 Q) : Met l yX9_barred wsX9_barred rmX9_barred (mk_Pc (mk_V D cI cZ am) D cI cZ cG cL [.ref (am 38), .int a0, .int a1, .int a2] sz σ (fun _ => True)) (va_Qi (fun r u => u = σ ∧ Q r) (mk_B (mk_V D cI cZ am)) (mk_A am sz)) 0 0 (mk_A am sz) := by
  refine Met.ofW (cc := cX9_barred) (maxL := 4) (ret := (some .int)) (by decide) rfl ?_
  intro p e s m args below meth c s₁ B hml0 hv0
  obtain ⟨rfl, hsz, hW, hK, hX⟩ := hv0
  subst hsz
  have C0 : gk_F p s m ([.ref (am 38), .int a0, .int a1, .int a2] : List Value).toArray meth c cX9_barred 4 (some .int) RX9 := ⟨B.exec, B.bytes, hml0, findClass_of_methodNamed B.named, fun w hw => atoms_spec (ws := wsX9_barred) B.pre w (List.mem_cons_of_mem _ hw), B.returns, B.notSynchronized⟩
  obtain ⟨hx, hb, hml, hown, hts, hr, hlocks⟩ := id C0
  have hS : va_S (mk_A am s.heap.size) s.heap s.heap [] := va_S.rf
  have hl := lv_entry ([.ref (am 38), .int a0, .int a1, .int a2]) (n := 4) (Nat.le_of_ble_eq_true rfl)
  rw [lg_entry_eq]
  generalize (lg_sl ([.ref (am 38), .int a0, .int a1, .int a2]) ++ List.replicate (4 - (lg_sl ([.ref (am 38), .int a0, .int a1, .int a2])).length) Slot.unset).toArray = ls at hl ⊢
  have hl : lv_has ls 4 [(0, .ref (am 38)), (1, .int a0), (2, .int a1), (3, .int a2)] := hl
  show W p l e rmX9_barred s m _ below meth c s.heap [] 0 0 _ _
  refine lv_iload_n hx hb dX9_barred_0 rfl (lv_at hl 2 rfl) ?_
  refine lv_if_ne (tgt := 19) hx hb dX9_barred_1 (by decide) (fun c1 => ?_) (fun c1 => ?_)
  · have hw := hw.1 c1
    refine tJ_X9_barred_19 C0 hK  a0 a1 a2 hw _ _ hW hS  _ hl
  · have hw := hw.2 c1
    refine lv_aload_n hx hb dX9_barred_4 rfl (lv_at hl 0 rfl) ?_
    refine gk_get hx hb hts iwX9 hown hK.1 (mk_obj hW) rfl 13 (by decide) (hts _ fl_X9_32) (fun _ h9 => h9) rfl dX9_barred_5 ?_
    refine lv_iload_n hx hb dX9_barred_8 rfl (lv_at hl 3 rfl) ?_
    obtain ⟨hin, hw⟩ := hw
    refine gk_iald hx hb hK.1 0 (mk_arr hW (k := 13) (by decide) (by decide) (by decide)) rfl hin dX9_barred_9 ?_
    refine lv_aload_n hx hb dX9_barred_10 rfl (lv_at hl 0 rfl) ?_
    refine gk_get hx hb hts iwX9 hown hK.1 (mk_obj hW) rfl 5 (by decide) (hts _ fl_X9_13) (fun _ h9 => h9) rfl dX9_barred_11 ?_
    refine lv_iload_n hx hb dX9_barred_14 rfl (lv_at hl 1 rfl) ?_
    obtain ⟨hin, hw⟩ := hw
    refine gk_iald hx hb hK.1 0 (mk_arr hW (k := 5) (by decide) (by decide) (by decide)) rfl hin dX9_barred_15 ?_
    refine lv_icmp_gt (tgt := 43) hx hb dX9_barred_16 (by decide) (fun c16 => ?_) (fun c16 => ?_)
    · have hw := hw.1 c16
      refine lv_iconst (v := 4) hx hb dX9_barred_43 (by decide) ?_
      refine W.widen (k := 0) (n := 0) (Nat.le_of_ble_eq_true rfl) (Nat.le_of_ble_eq_true rfl) ?_
      exact mk_reti C0 ⟨rfl, hw⟩ hW hS dX9_barred_44
    · have hw := hw.2 c16
      refine tJ_X9_barred_19 C0 hK  a0 a1 a2 hw _ _ hW hS  _ hl
def wJ_X9_grant_37 (Q : Int32 → gk_C → Prop) (σ : gk_C) : Prop := (w_X9_no σ 1 (fun r39 σ39 => Q r39 σ39))
def wJ_X9_grant_70 (Q : Int32 → gk_C → Prop) (σ : gk_C) : Prop := (w_X9_no σ 2 (fun r72 σ72 => Q r72 σ72))
def w_X9_grant (σ : gk_C) (a0 : Int32) (a1 : Int32) (a2 : Int32) (a3 : Int32) (a4 : Int32) (a5 : Int32) (Q : Int32 → gk_C → Prop) : Prop := (w_X9_isUser (gk_s σ 0 0) a0 (fun r7 => ((r7 = 0) → (wJ_X9_grant_37 Q (gk_s σ 0 0))) ∧ ((¬ r7 = 0) → (w_X9_isUser (gk_s σ 0 0) a1 (fun r15 => ((r15 = 0) → (wJ_X9_grant_37 Q (gk_s σ 0 0))) ∧ ((¬ r15 = 0) → (w_X9_isAction a2 (fun r22 => ((r22 = 0) → (wJ_X9_grant_37 Q (gk_s σ 0 0))) ∧ ((¬ r22 = 0) → (w_X9_isResource (gk_s σ 0 0) a3 (fun r31 => ((¬ r31 = 0) → (((a0 = a1) → (wJ_X9_grant_70 Q (gk_s σ 0 0))) ∧ ((¬ a0 = a1) → (w_X9_isIn a4 0 3 (fun r52 => ((r52 = 0) → (wJ_X9_grant_70 Q (gk_s σ 0 0))) ∧ ((¬ r52 = 0) → (w_X9_isIn a5 1 10000 (fun r64 => ((¬ r64 = 0) → (((¬ ((gk_s σ 0 0).2 26) = 30) → (vp_in ((gk_s σ 0 0).2 26) 30 ∧ ∀ σ100 : gk_C, σ100 = mk_st (gk_s σ 0 0) 27 ((gk_s σ 0 0).2 26) a0 → vp_in (σ100.2 26) 30 ∧ ∀ σ110 : gk_C, σ110 = mk_st σ100 28 (σ100.2 26) a1 → vp_in (σ110.2 26) 30 ∧ ∀ σ120 : gk_C, σ120 = mk_st σ110 29 (σ110.2 26) a2 → vp_in (σ120.2 26) 30 ∧ ∀ σ131 : gk_C, σ131 = mk_st σ120 30 (σ120.2 26) a3 → vp_in (σ131.2 26) 30 ∧ ∀ σ142 : gk_C, σ142 = mk_st σ131 31 (σ131.2 26) a4 → vp_in (σ142.2 26) 30 ∧ ∀ σ158 : gk_C, σ158 = mk_st σ142 32 (σ142.2 26) ((σ142.2 1) + a5) → Q (σ158.2 26) (gk_s σ158 26 ((σ158.2 26) + 1)))) ∧ ((((gk_s σ 0 0).2 26) = 30) → (w_X9_no (gk_s σ 0 0) 3 (fun r87 σ87 => Q r87 σ87))))) ∧ ((r64 = 0) → (wJ_X9_grant_70 Q (gk_s σ 0 0))))))))))) ∧ ((r31 = 0) → (wJ_X9_grant_37 Q (gk_s σ 0 0))))))))))))))
abbrev rmX9_grant : Room := { frames := 2, cells := 0, slots := 0, locals := 43 }
set_option maxHeartbeats 4000000 in
set_option maxRecDepth 100000 in
theorem tJ_X9_grant_37 {p : Program} {l : Launch} {e : Env} {s : State} {m : MethodId} {args : Array Value} {below : List Frame} {meth : Method} {c : Code} {D : va_G} {cI cZ cG cL : ClassId} {am : Nat → Nat} (C0 : gk_F p s m args meth c cX9_grant 7 (some .int) RX9) (hK : gk_K D cI cZ cG cL s) {Q : Int32 → gk_C → Prop} : ∀ (σ : gk_C), wJ_X9_grant_37 Q σ → ∀ (H : Heap) (locs : List Loc), mk_V D cI cZ am σ H → va_S (mk_A am s.heap.size) s.heap H locs → ∀ (ls : Array Slot), lv_has ls 7 [(0, .ref (am 38))] → W p l e rmX9_grant s m args below meth c H locs 0 0 (MQ below (va_Qi (fun r u => Q r u) (mk_B (mk_V D cI cZ am)) (mk_A am s.heap.size)) args s 0 0 (mk_A am s.heap.size)) (F0 m 37 ls []) := by
  obtain ⟨hx, hb, hml, hown, hts, hr, hlocks⟩ := id C0
  intro σ hw H locs hW hS  ls hl
  refine lv_aload_n hx hb dX9_grant_37 rfl (lv_at hl 0 rfl) ?_
  refine lv_iconst (v := 1) hx hb dX9_grant_38 (by decide) ?_
  refine mk_callVi ⟨hx, hb, hml, hown, hts⟩ (c_X9_no l D cI cZ cG cL am hw) (cwV 1 hts (gk_gV ml_X9_139 im_X9_no se_X9_no in_X9 co_X9_no) rfl rfl rfl (by decide +kernel) ⟨Nat.le_of_ble_eq_true rfl, Nat.le_of_ble_eq_true rfl⟩) (gk_recv hK.1 (mk_obj hW) rfl) hW hK trivial hS rfl hl.1 (rest := []) rfl (lv_room (Nat.le_of_ble_eq_true rfl)) dX9_grant_39 ⟨Nat.le_of_ble_eq_true rfl, Nat.le_of_ble_eq_true rfl⟩ (fun r39 σ39 H locs hw hW _ hk hS => ?_)
  refine W.widen (k := 0) (n := 0) (Nat.le_of_ble_eq_true rfl) (Nat.le_of_ble_eq_true rfl) ?_
  exact mk_reti C0 hw hW hS dX9_grant_42
set_option maxHeartbeats 4000000 in
set_option maxRecDepth 100000 in
theorem tJ_X9_grant_70 {p : Program} {l : Launch} {e : Env} {s : State} {m : MethodId} {args : Array Value} {below : List Frame} {meth : Method} {c : Code} {D : va_G} {cI cZ cG cL : ClassId} {am : Nat → Nat} (C0 : gk_F p s m args meth c cX9_grant 7 (some .int) RX9) (hK : gk_K D cI cZ cG cL s) {Q : Int32 → gk_C → Prop} : ∀ (σ : gk_C), wJ_X9_grant_70 Q σ → ∀ (H : Heap) (locs : List Loc), mk_V D cI cZ am σ H → va_S (mk_A am s.heap.size) s.heap H locs → ∀ (ls : Array Slot), lv_has ls 7 [(0, .ref (am 38))] → W p l e rmX9_grant s m args below meth c H locs 0 0 (MQ below (va_Qi (fun r u => Q r u) (mk_B (mk_V D cI cZ am)) (mk_A am s.heap.size)) args s 0 0 (mk_A am s.heap.size)) (F0 m 70 ls []) := by
  obtain ⟨hx, hb, hml, hown, hts, hr, hlocks⟩ := id C0
  intro σ hw H locs hW hS  ls hl
  refine lv_aload_n hx hb dX9_grant_70 rfl (lv_at hl 0 rfl) ?_
  refine lv_iconst (v := 2) hx hb dX9_grant_71 (by decide) ?_
  refine mk_callVi ⟨hx, hb, hml, hown, hts⟩ (c_X9_no l D cI cZ cG cL am hw) (cwV 1 hts (gk_gV ml_X9_139 im_X9_no se_X9_no in_X9 co_X9_no) rfl rfl rfl (by decide +kernel) ⟨Nat.le_of_ble_eq_true rfl, Nat.le_of_ble_eq_true rfl⟩) (gk_recv hK.1 (mk_obj hW) rfl) hW hK trivial hS rfl hl.1 (rest := []) rfl (lv_room (Nat.le_of_ble_eq_true rfl)) dX9_grant_72 ⟨Nat.le_of_ble_eq_true rfl, Nat.le_of_ble_eq_true rfl⟩ (fun r72 σ72 H locs hw hW _ hk hS => ?_)
  refine W.widen (k := 0) (n := 0) (Nat.le_of_ble_eq_true rfl) (Nat.le_of_ble_eq_true rfl) ?_
  exact mk_reti C0 hw hW hS dX9_grant_75
set_option maxHeartbeats 4000000 in
set_option maxRecDepth 100000 in
theorem c_X9_grant (l : Launch) (D : va_G) (cI cZ cG cL : ClassId) (am : Nat → Nat) {σ : gk_C} {a0 : Int32} {a1 : Int32} {a2 : Int32} {a3 : Int32} {a4 : Int32} {a5 : Int32} {Q : Int32 → gk_C → Prop} {sz : Nat} (hw : w_X9_grant σ a0 a1 a2 a3 a4 a5 Q) : Met l yX9_grant wsX9_grant rmX9_grant (mk_Pc (mk_V D cI cZ am) D cI cZ cG cL [.ref (am 38), .int a0, .int a1, .int a2, .int a3, .int a4, .int a5] sz σ (fun _ => True)) (va_Qi (fun r u => Q r u) (mk_B (mk_V D cI cZ am)) (mk_A am sz)) 0 0 (mk_A am sz) := by
  refine Met.ofW (cc := cX9_grant) (maxL := 7) (ret := (some .int)) (by decide) rfl ?_
  intro p e s m args below meth c s₁ B hml0 hv0
  obtain ⟨rfl, hsz, hW, hK, hX⟩ := hv0
  subst hsz
  have C0 : gk_F p s m ([.ref (am 38), .int a0, .int a1, .int a2, .int a3, .int a4, .int a5] : List Value).toArray meth c cX9_grant 7 (some .int) RX9 := ⟨B.exec, B.bytes, hml0, findClass_of_methodNamed B.named, fun w hw => atoms_spec (ws := wsX9_grant) B.pre w (List.mem_cons_of_mem _ hw), B.returns, B.notSynchronized⟩
  obtain ⟨hx, hb, hml, hown, hts, hr, hlocks⟩ := id C0
  have hS : va_S (mk_A am s.heap.size) s.heap s.heap [] := va_S.rf
  have hl := lv_entry ([.ref (am 38), .int a0, .int a1, .int a2, .int a3, .int a4, .int a5]) (n := 7) (Nat.le_of_ble_eq_true rfl)
  rw [lg_entry_eq]
  generalize (lg_sl ([.ref (am 38), .int a0, .int a1, .int a2, .int a3, .int a4, .int a5]) ++ List.replicate (7 - (lg_sl ([.ref (am 38), .int a0, .int a1, .int a2, .int a3, .int a4, .int a5])).length) Slot.unset).toArray = ls at hl ⊢
  have hl : lv_has ls 7 [(0, .ref (am 38)), (1, .int a0), (2, .int a1), (3, .int a2), (4, .int a3), (5, .int a4), (6, .int a5)] := hl
  show W p l e rmX9_grant s m _ below meth c s.heap [] 0 0 _ _
  refine lv_aload_n hx hb dX9_grant_0 rfl (lv_at hl 0 rfl) ?_
  refine lv_iconst (v := 0) hx hb dX9_grant_1 (by decide) ?_
  refine gk_putf (ty := .int) (v := .int 0) hx hb hts iwX9 tyX9 tyX9_ok nmX9 hown hK.1 hS (mk_A.in List.mem_cons_self) (mk_obj hW) rfl 0 (by decide) (hts _ fl_X9_102) (fun _ h9 => h9) rfl (by decide +kernel) rfl rfl (Nat.le_of_ble_eq_true rfl) dX9_grant_2 (fun H locs h1 _ oq hS => ?_)
  have hW := hW.setS (i := 0) (v := 0) h1 oq
  refine lv_aload_n hx hb dX9_grant_5 rfl (lv_at hl 0 rfl) ?_
  refine lv_iload_n hx hb dX9_grant_6 rfl (lv_at hl 1 rfl) ?_
  refine mk_callRi ⟨hx, hb, hml, hown, hts⟩ (c_X9_isUser l D cI cZ cG cL am hw) (cwV 1 hts (gk_gV ml_X9_115 im_X9_isUser se_X9_isUser in_X9 co_X9_isUser) rfl rfl rfl (by decide +kernel) ⟨Nat.le_of_ble_eq_true rfl, Nat.le_of_ble_eq_true rfl⟩) (gk_recv hK.1 (mk_obj hW) rfl) hW hK trivial hS rfl hl.1 (rest := []) rfl (lv_room (Nat.le_of_ble_eq_true rfl)) dX9_grant_7 ⟨Nat.le_of_ble_eq_true rfl, Nat.le_of_ble_eq_true rfl⟩ (fun r7 H locs hw hW _ hk hS => ?_)
  refine lv_if_eq (tgt := 37) hx hb dX9_grant_10 (by decide) (fun c10 => ?_) (fun c10 => ?_)
  · have hw := hw.1 c10
    refine tJ_X9_grant_37 C0 hK  (gk_s σ 0 0) hw _ _ hW hS  _ (lv_sub hl [0] rfl)
  · have hw := hw.2 c10
    refine lv_aload_n hx hb dX9_grant_13 rfl (lv_at hl 0 rfl) ?_
    refine lv_iload_n hx hb dX9_grant_14 rfl (lv_at hl 2 rfl) ?_
    refine mk_callRi ⟨hx, hb, hml, hown, hts⟩ (c_X9_isUser l D cI cZ cG cL am hw) (cwV 1 hts (gk_gV ml_X9_115 im_X9_isUser se_X9_isUser in_X9 co_X9_isUser) rfl rfl rfl (by decide +kernel) ⟨Nat.le_of_ble_eq_true rfl, Nat.le_of_ble_eq_true rfl⟩) (gk_recv hK.1 (mk_obj hW) rfl) hW hK trivial hS rfl hl.1 (rest := []) rfl (lv_room (Nat.le_of_ble_eq_true rfl)) dX9_grant_15 ⟨Nat.le_of_ble_eq_true rfl, Nat.le_of_ble_eq_true rfl⟩ (fun r15 H locs hw hW _ hk hS => ?_)
    refine lv_if_eq (tgt := 37) hx hb dX9_grant_18 (by decide) (fun c18 => ?_) (fun c18 => ?_)
    · have hw := hw.1 c18
      refine tJ_X9_grant_37 C0 hK  (gk_s σ 0 0) hw _ _ hW hS  _ (lv_sub hl [0] rfl)
    · have hw := hw.2 c18
      refine lv_iload_n hx hb dX9_grant_21 rfl (lv_at hl 3 rfl) ?_
      refine gk_callSi ⟨hx, hb, hml, hown, hts⟩ (c_X9_isAction l hw) (va_cwS 1 hts (gk_gS ml_X9_119 st_X9_isAction in_X9 co_X9_isAction) rfl rfl rfl (by decide +kernel) ⟨Nat.le_of_ble_eq_true rfl, Nat.le_of_ble_eq_true rfl⟩) hS rfl hl.1 (rest := []) rfl (lv_room (Nat.le_of_ble_eq_true rfl)) dX9_grant_22 ⟨Nat.le_of_ble_eq_true rfl, Nat.le_of_ble_eq_true rfl⟩ (fun r22 H locs hw _ hk hS => ?_)
      have hW := hW.keptAll hk
      refine lv_if_eq (tgt := 37) hx hb dX9_grant_25 (by decide) (fun c25 => ?_) (fun c25 => ?_)
      · have hw := hw.1 c25
        refine tJ_X9_grant_37 C0 hK  (gk_s σ 0 0) hw _ _ hW hS  _ (lv_sub hl [0] rfl)
      · have hw := hw.2 c25
        refine lv_aload_n hx hb dX9_grant_28 rfl (lv_at hl 0 rfl) ?_
        refine lv_iload hx hb dX9_grant_29 (lv_at hl 4 rfl) ?_
        refine mk_callRi ⟨hx, hb, hml, hown, hts⟩ (c_X9_isResource l D cI cZ cG cL am hw) (cwV 1 hts (gk_gV ml_X9_122 im_X9_isResource se_X9_isResource in_X9 co_X9_isResource) rfl rfl rfl (by decide +kernel) ⟨Nat.le_of_ble_eq_true rfl, Nat.le_of_ble_eq_true rfl⟩) (gk_recv hK.1 (mk_obj hW) rfl) hW hK trivial hS rfl hl.1 (rest := []) rfl (lv_room (Nat.le_of_ble_eq_true rfl)) dX9_grant_31 ⟨Nat.le_of_ble_eq_true rfl, Nat.le_of_ble_eq_true rfl⟩ (fun r31 H locs hw hW _ hk hS => ?_)
        refine lv_if_ne (tgt := 43) hx hb dX9_grant_34 (by decide) (fun c34 => ?_) (fun c34 => ?_)
        · have hw := hw.1 c34
          refine lv_iload_n hx hb dX9_grant_43 rfl (lv_at hl 1 rfl) ?_
          refine lv_iload_n hx hb dX9_grant_44 rfl (lv_at hl 2 rfl) ?_
          refine lv_icmp_eq (tgt := 70) hx hb dX9_grant_45 (by decide) (fun c45 => ?_) (fun c45 => ?_)
          · have hw := hw.1 c45
            refine tJ_X9_grant_70 C0 hK  (gk_s σ 0 0) hw _ _ hW hS  _ (lv_sub hl [0] rfl)
          · have hw := hw.2 c45
            refine lv_iload hx hb dX9_grant_48 (lv_at hl 5 rfl) ?_
            refine lv_iconst (v := 0) hx hb dX9_grant_50 (by decide) ?_
            refine lv_iconst (v := 3) hx hb dX9_grant_51 (by decide) ?_
            refine gk_callSi ⟨hx, hb, hml, hown, hts⟩ (c_X9_isIn l hw) (va_cwS 3 hts (gk_gS ml_X9_108 st_X9_isIn in_X9 co_X9_isIn) rfl rfl rfl (by decide +kernel) ⟨Nat.le_of_ble_eq_true rfl, Nat.le_of_ble_eq_true rfl⟩) hS rfl hl.1 (rest := []) rfl (lv_room (Nat.le_of_ble_eq_true rfl)) dX9_grant_52 ⟨Nat.le_of_ble_eq_true rfl, Nat.le_of_ble_eq_true rfl⟩ (fun r52 H locs hw _ hk hS => ?_)
            have hW := hW.keptAll hk
            refine lv_if_eq (tgt := 70) hx hb dX9_grant_55 (by decide) (fun c55 => ?_) (fun c55 => ?_)
            · have hw := hw.1 c55
              refine tJ_X9_grant_70 C0 hK  (gk_s σ 0 0) hw _ _ hW hS  _ (lv_sub hl [0] rfl)
            · have hw := hw.2 c55
              refine lv_iload hx hb dX9_grant_58 (lv_at hl 6 rfl) ?_
              refine lv_iconst (v := 1) hx hb dX9_grant_60 (by decide) ?_
              refine lv_sipush (v := 10000) hx hb dX9_grant_61 (by decide) ?_
              refine gk_callSi ⟨hx, hb, hml, hown, hts⟩ (c_X9_isIn l hw) (va_cwS 3 hts (gk_gS ml_X9_108 st_X9_isIn in_X9 co_X9_isIn) rfl rfl rfl (by decide +kernel) ⟨Nat.le_of_ble_eq_true rfl, Nat.le_of_ble_eq_true rfl⟩) hS rfl hl.1 (rest := []) rfl (lv_room (Nat.le_of_ble_eq_true rfl)) dX9_grant_64 ⟨Nat.le_of_ble_eq_true rfl, Nat.le_of_ble_eq_true rfl⟩ (fun r64 H locs hw _ hk hS => ?_)
              have hW := hW.keptAll hk
              refine lv_if_ne (tgt := 76) hx hb dX9_grant_67 (by decide) (fun c67 => ?_) (fun c67 => ?_)
              · have hw := hw.1 c67
                refine lv_aload_n hx hb dX9_grant_76 rfl (lv_at hl 0 rfl) ?_
                refine gk_get hx hb hts iwX9 hown hK.1 (mk_obj hW) rfl 26 (by decide) (hts _ fl_X9_233) (fun _ h9 => h9) rfl dX9_grant_77 ?_
                refine lv_bipush (v := 30) hx hb dX9_grant_80 (by decide) ?_
                refine lv_icmp_ne (tgt := 91) hx hb dX9_grant_82 (by decide) (fun c82 => ?_) (fun c82 => ?_)
                · have hw := hw.1 c82
                  refine lv_aload_n hx hb dX9_grant_91 rfl (lv_at hl 0 rfl) ?_
                  refine gk_get hx hb hts iwX9 hown hK.1 (mk_obj hW) rfl 27 (by decide) (hts _ fl_X9_69) (fun _ h9 => h9) rfl dX9_grant_92 ?_
                  refine lv_aload_n hx hb dX9_grant_95 rfl (lv_at hl 0 rfl) ?_
                  refine gk_get hx hb hts iwX9 hown hK.1 (mk_obj hW) rfl 26 (by decide) (hts _ fl_X9_233) (fun _ h9 => h9) rfl dX9_grant_96 ?_
                  refine lv_iload_n hx hb dX9_grant_99 rfl (lv_at hl 1 rfl) ?_
                  obtain ⟨hin, hw⟩ := hw
                  refine gk_iast hx hb hK.1 hS (mk_A.in (k := 27) (by decide)) 0 (mk_arr hW (k := 27) (by decide) (by decide) (by decide)) rfl hin dX9_grant_100 (fun H locs h1 _ oq hS => ?_)
                  have hW := hW.setR (k := 27) (by decide) (by decide) (by decide) h1 oq
                  obtain ⟨σ100, eσ100⟩ : ∃ z, z = mk_st (gk_s σ 0 0) 27 ((gk_s σ 0 0).2 26) a0 := ⟨_, rfl⟩
                  have hW := mk_stW (Wd := mk_V D cI cZ am) eσ100 hW
                  have hw := hw σ100 eσ100
                  refine lv_aload_n hx hb dX9_grant_101 rfl (lv_at hl 0 rfl) ?_
                  refine gk_get hx hb hts iwX9 hown hK.1 (mk_obj hW) rfl 28 (by decide) (hts _ fl_X9_72) (fun _ h9 => h9) rfl dX9_grant_102 ?_
                  refine lv_aload_n hx hb dX9_grant_105 rfl (lv_at hl 0 rfl) ?_
                  refine gk_get hx hb hts iwX9 hown hK.1 (mk_obj hW) rfl 26 (by decide) (hts _ fl_X9_233) (fun _ h9 => h9) rfl dX9_grant_106 ?_
                  refine lv_iload_n hx hb dX9_grant_109 rfl (lv_at hl 2 rfl) ?_
                  obtain ⟨hin, hw⟩ := hw
                  refine gk_iast hx hb hK.1 hS (mk_A.in (k := 28) (by decide)) 0 (mk_arr hW (k := 28) (by decide) (by decide) (by decide)) rfl hin dX9_grant_110 (fun H locs h1 _ oq hS => ?_)
                  have hW := hW.setR (k := 28) (by decide) (by decide) (by decide) h1 oq
                  obtain ⟨σ110, eσ110⟩ : ∃ z, z = mk_st σ100 28 (σ100.2 26) a1 := ⟨_, rfl⟩
                  have hW := mk_stW (Wd := mk_V D cI cZ am) eσ110 hW
                  have hw := hw σ110 eσ110
                  refine lv_aload_n hx hb dX9_grant_111 rfl (lv_at hl 0 rfl) ?_
                  refine gk_get hx hb hts iwX9 hown hK.1 (mk_obj hW) rfl 29 (by decide) (hts _ fl_X9_75) (fun _ h9 => h9) rfl dX9_grant_112 ?_
                  refine lv_aload_n hx hb dX9_grant_115 rfl (lv_at hl 0 rfl) ?_
                  refine gk_get hx hb hts iwX9 hown hK.1 (mk_obj hW) rfl 26 (by decide) (hts _ fl_X9_233) (fun _ h9 => h9) rfl dX9_grant_116 ?_
                  refine lv_iload_n hx hb dX9_grant_119 rfl (lv_at hl 3 rfl) ?_
                  obtain ⟨hin, hw⟩ := hw
                  refine gk_iast hx hb hK.1 hS (mk_A.in (k := 29) (by decide)) 0 (mk_arr hW (k := 29) (by decide) (by decide) (by decide)) rfl hin dX9_grant_120 (fun H locs h1 _ oq hS => ?_)
                  have hW := hW.setR (k := 29) (by decide) (by decide) (by decide) h1 oq
                  obtain ⟨σ120, eσ120⟩ : ∃ z, z = mk_st σ110 29 (σ110.2 26) a2 := ⟨_, rfl⟩
                  have hW := mk_stW (Wd := mk_V D cI cZ am) eσ120 hW
                  have hw := hw σ120 eσ120
                  refine lv_aload_n hx hb dX9_grant_121 rfl (lv_at hl 0 rfl) ?_
                  refine gk_get hx hb hts iwX9 hown hK.1 (mk_obj hW) rfl 30 (by decide) (hts _ fl_X9_78) (fun _ h9 => h9) rfl dX9_grant_122 ?_
                  refine lv_aload_n hx hb dX9_grant_125 rfl (lv_at hl 0 rfl) ?_
                  refine gk_get hx hb hts iwX9 hown hK.1 (mk_obj hW) rfl 26 (by decide) (hts _ fl_X9_233) (fun _ h9 => h9) rfl dX9_grant_126 ?_
                  refine lv_iload hx hb dX9_grant_129 (lv_at hl 4 rfl) ?_
                  obtain ⟨hin, hw⟩ := hw
                  refine gk_iast hx hb hK.1 hS (mk_A.in (k := 30) (by decide)) 0 (mk_arr hW (k := 30) (by decide) (by decide) (by decide)) rfl hin dX9_grant_131 (fun H locs h1 _ oq hS => ?_)
                  have hW := hW.setR (k := 30) (by decide) (by decide) (by decide) h1 oq
                  obtain ⟨σ131, eσ131⟩ : ∃ z, z = mk_st σ120 30 (σ120.2 26) a3 := ⟨_, rfl⟩
                  have hW := mk_stW (Wd := mk_V D cI cZ am) eσ131 hW
                  have hw := hw σ131 eσ131
                  refine lv_aload_n hx hb dX9_grant_132 rfl (lv_at hl 0 rfl) ?_
                  refine gk_get hx hb hts iwX9 hown hK.1 (mk_obj hW) rfl 31 (by decide) (hts _ fl_X9_81) (fun _ h9 => h9) rfl dX9_grant_133 ?_
                  refine lv_aload_n hx hb dX9_grant_136 rfl (lv_at hl 0 rfl) ?_
                  refine gk_get hx hb hts iwX9 hown hK.1 (mk_obj hW) rfl 26 (by decide) (hts _ fl_X9_233) (fun _ h9 => h9) rfl dX9_grant_137 ?_
                  refine lv_iload hx hb dX9_grant_140 (lv_at hl 5 rfl) ?_
                  obtain ⟨hin, hw⟩ := hw
                  refine gk_iast hx hb hK.1 hS (mk_A.in (k := 31) (by decide)) 0 (mk_arr hW (k := 31) (by decide) (by decide) (by decide)) rfl hin dX9_grant_142 (fun H locs h1 _ oq hS => ?_)
                  have hW := hW.setR (k := 31) (by decide) (by decide) (by decide) h1 oq
                  obtain ⟨σ142, eσ142⟩ : ∃ z, z = mk_st σ131 31 (σ131.2 26) a4 := ⟨_, rfl⟩
                  have hW := mk_stW (Wd := mk_V D cI cZ am) eσ142 hW
                  have hw := hw σ142 eσ142
                  refine lv_aload_n hx hb dX9_grant_143 rfl (lv_at hl 0 rfl) ?_
                  refine gk_get hx hb hts iwX9 hown hK.1 (mk_obj hW) rfl 32 (by decide) (hts _ fl_X9_84) (fun _ h9 => h9) rfl dX9_grant_144 ?_
                  refine lv_aload_n hx hb dX9_grant_147 rfl (lv_at hl 0 rfl) ?_
                  refine gk_get hx hb hts iwX9 hown hK.1 (mk_obj hW) rfl 26 (by decide) (hts _ fl_X9_233) (fun _ h9 => h9) rfl dX9_grant_148 ?_
                  refine lv_aload_n hx hb dX9_grant_151 rfl (lv_at hl 0 rfl) ?_
                  refine gk_get hx hb hts iwX9 hown hK.1 (mk_obj hW) rfl 1 (by decide) (hts _ fl_X9_174) (fun _ h9 => h9) rfl dX9_grant_152 ?_
                  refine lv_iload hx hb dX9_grant_155 (lv_at hl 6 rfl) ?_
                  refine lv_iadd hx hb dX9_grant_157 ?_
                  obtain ⟨hin, hw⟩ := hw
                  refine gk_iast hx hb hK.1 hS (mk_A.in (k := 32) (by decide)) 0 (mk_arr hW (k := 32) (by decide) (by decide) (by decide)) rfl hin dX9_grant_158 (fun H locs h1 _ oq hS => ?_)
                  have hW := hW.setR (k := 32) (by decide) (by decide) (by decide) h1 oq
                  obtain ⟨σ158, eσ158⟩ : ∃ z, z = mk_st σ142 32 (σ142.2 26) ((σ142.2 1) + a5) := ⟨_, rfl⟩
                  have hW := mk_stW (Wd := mk_V D cI cZ am) eσ158 hW
                  have hw := hw σ158 eσ158
                  refine lv_aload_n hx hb dX9_grant_159 rfl (lv_at hl 0 rfl) ?_
                  refine lv_dup hx hb dX9_grant_160 rfl ?_
                  refine gk_get hx hb hts iwX9 hown hK.1 (mk_obj hW) rfl 26 (by decide) (hts _ fl_X9_233) (fun _ h9 => h9) rfl dX9_grant_161 ?_
                  refine lv_dup_x1 hx hb dX9_grant_164 rfl rfl ?_
                  refine lv_iconst (v := 1) hx hb dX9_grant_165 (by decide) ?_
                  refine lv_iadd hx hb dX9_grant_166 ?_
                  refine gk_putf (ty := .int) (v := .int ((σ158.2 26) + 1)) hx hb hts iwX9 tyX9 tyX9_ok nmX9 hown hK.1 hS (mk_A.in List.mem_cons_self) (mk_obj hW) rfl 26 (by decide) (hts _ fl_X9_233) (fun _ h9 => h9) rfl (by decide +kernel) rfl rfl (Nat.le_of_ble_eq_true rfl) dX9_grant_167 (fun H locs h1 _ oq hS => ?_)
                  have hW := hW.setS (i := 26) (v := ((σ158.2 26) + 1)) h1 oq
                  refine W.widen (k := 0) (n := 0) (Nat.le_of_ble_eq_true rfl) (Nat.le_of_ble_eq_true rfl) ?_
                  exact mk_reti C0 hw hW hS dX9_grant_170
                · have hw := hw.2 c82
                  refine lv_aload_n hx hb dX9_grant_85 rfl (lv_at hl 0 rfl) ?_
                  refine lv_iconst (v := 3) hx hb dX9_grant_86 (by decide) ?_
                  refine mk_callVi ⟨hx, hb, hml, hown, hts⟩ (c_X9_no l D cI cZ cG cL am hw) (cwV 1 hts (gk_gV ml_X9_139 im_X9_no se_X9_no in_X9 co_X9_no) rfl rfl rfl (by decide +kernel) ⟨Nat.le_of_ble_eq_true rfl, Nat.le_of_ble_eq_true rfl⟩) (gk_recv hK.1 (mk_obj hW) rfl) hW hK trivial hS rfl hl.1 (rest := []) rfl (lv_room (Nat.le_of_ble_eq_true rfl)) dX9_grant_87 ⟨Nat.le_of_ble_eq_true rfl, Nat.le_of_ble_eq_true rfl⟩ (fun r87 σ87 H locs hw hW _ hk hS => ?_)
                  refine W.widen (k := 0) (n := 0) (Nat.le_of_ble_eq_true rfl) (Nat.le_of_ble_eq_true rfl) ?_
                  exact mk_reti C0 hw hW hS dX9_grant_90
              · have hw := hw.2 c67
                refine tJ_X9_grant_70 C0 hK  (gk_s σ 0 0) hw _ _ hW hS  _ (lv_sub hl [0] rfl)
        · have hw := hw.2 c34
          refine tJ_X9_grant_37 C0 hK  (gk_s σ 0 0) hw _ _ hW hS  _ (lv_sub hl [0] rfl)
def wJ_X9_revoke_37 (Q : Int32 → gk_C → Prop) (σ : gk_C) (x1 : Int32) (t0 : Int32) : Prop := (((t0 = 0) → (gk_z t0 ∧ Q t0 σ)) ∧ ((¬ t0 = 0) → (vp_in x1 30 ∧ ∀ σ51 : gk_C, σ51 = mk_st σ 32 x1 (σ.2 1) → gk_z t0 ∧ Q t0 σ51)))
def w_X9_revoke (σ : gk_C) (a0 : Int32) (Q : Int32 → gk_C → Prop) : Prop := (w_X9_isGrant (gk_s σ 0 0) a0 (fun r7 => ((¬ r7 = 0) → (vp_in a0 30 ∧ ((((gk_s σ 0 0).1 32 a0.toNatClampNeg) ≤ ((gk_s σ 0 0).2 1)) → (wJ_X9_revoke_37 Q (gk_s σ 0 0) a0 0)) ∧ ((¬ ((gk_s σ 0 0).1 32 a0.toNatClampNeg) ≤ ((gk_s σ 0 0).2 1)) → (wJ_X9_revoke_37 Q (gk_s σ 0 0) a0 1)))) ∧ ((r7 = 0) → (w_X9_isNot (gk_s σ 0 0) 1 (fun r15 σ15 => gk_z r15 ∧ Q r15 σ15)))))
abbrev rmX9_revoke : Room := { frames := 2, cells := 0, slots := 0, locals := 43 }
set_option maxHeartbeats 4000000 in
set_option maxRecDepth 100000 in
theorem tJ_X9_revoke_37 {p : Program} {l : Launch} {e : Env} {s : State} {m : MethodId} {args : Array Value} {below : List Frame} {meth : Method} {c : Code} {D : va_G} {cI cZ cG cL : ClassId} {am : Nat → Nat} (C0 : gk_F p s m args meth c cX9_revoke 3 (some .boolean) RX9) (hK : gk_K D cI cZ cG cL s) {Q : Int32 → gk_C → Prop} : ∀ (σ : gk_C) (x1 : Int32) (t0 : Int32), wJ_X9_revoke_37 Q σ x1 t0 → ∀ (H : Heap) (locs : List Loc), mk_V D cI cZ am σ H → va_S (mk_A am s.heap.size) s.heap H locs → ∀ (ls : Array Slot), lv_has ls 3 [(0, .ref (am 38)), (1, .int x1)] → W p l e rmX9_revoke s m args below meth c H locs 0 0 (MQ below (va_Qi (fun r u => Q r u) (mk_B (mk_V D cI cZ am)) (mk_A am s.heap.size)) args s 0 0 (mk_A am s.heap.size)) (F0 m 37 ls [.int t0]) := by
  obtain ⟨hx, hb, hml, hown, hts, hr, hlocks⟩ := id C0
  intro σ x1 t0 hw H locs hW hS  ls hl
  refine lv_istore_n (lv' := [(2, .int t0), (0, .ref (am 38)), (1, .int x1)]) hx hb dX9_revoke_37 rfl hl (by decide) rfl (fun ls hl => ?_)
  refine lv_iload_n hx hb dX9_revoke_38 rfl (lv_at hl 0 rfl) ?_
  refine lv_if_eq (tgt := 52) hx hb dX9_revoke_39 (by decide) (fun c39 => ?_) (fun c39 => ?_)
  · have hw := hw.1 c39
    refine lv_iload_n hx hb dX9_revoke_52 rfl (lv_at hl 0 rfl) ?_
    refine W.widen (k := 0) (n := 0) (Nat.le_of_ble_eq_true rfl) (Nat.le_of_ble_eq_true rfl) ?_
    obtain ⟨hz, hw⟩ := hw
    exact mk_retz C0 hz hw hW hS dX9_revoke_53
  · have hw := hw.2 c39
    refine lv_aload_n hx hb dX9_revoke_42 rfl (lv_at hl 1 rfl) ?_
    refine gk_get hx hb hts iwX9 hown hK.1 (mk_obj hW) rfl 32 (by decide) (hts _ fl_X9_84) (fun _ h9 => h9) rfl dX9_revoke_43 ?_
    refine lv_iload_n hx hb dX9_revoke_46 rfl (lv_at hl 2 rfl) ?_
    refine lv_aload_n hx hb dX9_revoke_47 rfl (lv_at hl 1 rfl) ?_
    refine gk_get hx hb hts iwX9 hown hK.1 (mk_obj hW) rfl 1 (by decide) (hts _ fl_X9_174) (fun _ h9 => h9) rfl dX9_revoke_48 ?_
    obtain ⟨hin, hw⟩ := hw
    refine gk_iast hx hb hK.1 hS (mk_A.in (k := 32) (by decide)) 0 (mk_arr hW (k := 32) (by decide) (by decide) (by decide)) rfl hin dX9_revoke_51 (fun H locs h1 _ oq hS => ?_)
    have hW := hW.setR (k := 32) (by decide) (by decide) (by decide) h1 oq
    obtain ⟨σ51, eσ51⟩ : ∃ z, z = mk_st σ 32 x1 (σ.2 1) := ⟨_, rfl⟩
    have hW := mk_stW (Wd := mk_V D cI cZ am) eσ51 hW
    have hw := hw σ51 eσ51
    refine lv_iload_n hx hb dX9_revoke_52 rfl (lv_at hl 0 rfl) ?_
    refine W.widen (k := 0) (n := 0) (Nat.le_of_ble_eq_true rfl) (Nat.le_of_ble_eq_true rfl) ?_
    obtain ⟨hz, hw⟩ := hw
    exact mk_retz C0 hz hw hW hS dX9_revoke_53
set_option maxHeartbeats 4000000 in
set_option maxRecDepth 100000 in
theorem c_X9_revoke (l : Launch) (D : va_G) (cI cZ cG cL : ClassId) (am : Nat → Nat) {σ : gk_C} {a0 : Int32} {Q : Int32 → gk_C → Prop} {sz : Nat} (hw : w_X9_revoke σ a0 Q) : Met l yX9_revoke wsX9_revoke rmX9_revoke (mk_Pc (mk_V D cI cZ am) D cI cZ cG cL [.ref (am 38), .int a0] sz σ (fun _ => True)) (va_Qi (fun r u => Q r u) (mk_B (mk_V D cI cZ am)) (mk_A am sz)) 0 0 (mk_A am sz) := by
  refine Met.ofW (cc := cX9_revoke) (maxL := 3) (ret := (some .boolean)) (by decide) rfl ?_
  intro p e s m args below meth c s₁ B hml0 hv0
  obtain ⟨rfl, hsz, hW, hK, hX⟩ := hv0
  subst hsz
  have C0 : gk_F p s m ([.ref (am 38), .int a0] : List Value).toArray meth c cX9_revoke 3 (some .boolean) RX9 := ⟨B.exec, B.bytes, hml0, findClass_of_methodNamed B.named, fun w hw => atoms_spec (ws := wsX9_revoke) B.pre w (List.mem_cons_of_mem _ hw), B.returns, B.notSynchronized⟩
  obtain ⟨hx, hb, hml, hown, hts, hr, hlocks⟩ := id C0
  have hS : va_S (mk_A am s.heap.size) s.heap s.heap [] := va_S.rf
  have hl := lv_entry ([.ref (am 38), .int a0]) (n := 3) (Nat.le_of_ble_eq_true rfl)
  rw [lg_entry_eq]
  generalize (lg_sl ([.ref (am 38), .int a0]) ++ List.replicate (3 - (lg_sl ([.ref (am 38), .int a0])).length) Slot.unset).toArray = ls at hl ⊢
  have hl : lv_has ls 3 [(0, .ref (am 38)), (1, .int a0)] := hl
  show W p l e rmX9_revoke s m _ below meth c s.heap [] 0 0 _ _
  refine lv_aload_n hx hb dX9_revoke_0 rfl (lv_at hl 0 rfl) ?_
  refine lv_iconst (v := 0) hx hb dX9_revoke_1 (by decide) ?_
  refine gk_putf (ty := .int) (v := .int 0) hx hb hts iwX9 tyX9 tyX9_ok nmX9 hown hK.1 hS (mk_A.in List.mem_cons_self) (mk_obj hW) rfl 0 (by decide) (hts _ fl_X9_102) (fun _ h9 => h9) rfl (by decide +kernel) rfl rfl (Nat.le_of_ble_eq_true rfl) dX9_revoke_2 (fun H locs h1 _ oq hS => ?_)
  have hW := hW.setS (i := 0) (v := 0) h1 oq
  refine lv_aload_n hx hb dX9_revoke_5 rfl (lv_at hl 0 rfl) ?_
  refine lv_iload_n hx hb dX9_revoke_6 rfl (lv_at hl 1 rfl) ?_
  refine mk_callRi ⟨hx, hb, hml, hown, hts⟩ (c_X9_isGrant l D cI cZ cG cL am hw) (cwV 1 hts (gk_gV ml_X9_259 im_X9_isGrant se_X9_isGrant in_X9 co_X9_isGrant) rfl rfl rfl (by decide +kernel) ⟨Nat.le_of_ble_eq_true rfl, Nat.le_of_ble_eq_true rfl⟩) (gk_recv hK.1 (mk_obj hW) rfl) hW hK trivial hS rfl hl.1 (rest := []) rfl (lv_room (Nat.le_of_ble_eq_true rfl)) dX9_revoke_7 ⟨Nat.le_of_ble_eq_true rfl, Nat.le_of_ble_eq_true rfl⟩ (fun r7 H locs hw hW _ hk hS => ?_)
  refine lv_if_ne (tgt := 19) hx hb dX9_revoke_10 (by decide) (fun c10 => ?_) (fun c10 => ?_)
  · have hw := hw.1 c10
    refine lv_aload_n hx hb dX9_revoke_19 rfl (lv_at hl 0 rfl) ?_
    refine gk_get hx hb hts iwX9 hown hK.1 (mk_obj hW) rfl 32 (by decide) (hts _ fl_X9_84) (fun _ h9 => h9) rfl dX9_revoke_20 ?_
    refine lv_iload_n hx hb dX9_revoke_23 rfl (lv_at hl 1 rfl) ?_
    obtain ⟨hin, hw⟩ := hw
    refine gk_iald hx hb hK.1 0 (mk_arr hW (k := 32) (by decide) (by decide) (by decide)) rfl hin dX9_revoke_24 ?_
    refine lv_aload_n hx hb dX9_revoke_25 rfl (lv_at hl 0 rfl) ?_
    refine gk_get hx hb hts iwX9 hown hK.1 (mk_obj hW) rfl 1 (by decide) (hts _ fl_X9_174) (fun _ h9 => h9) rfl dX9_revoke_26 ?_
    refine lv_icmp_le (tgt := 36) hx hb dX9_revoke_29 (by decide) (fun c29 => ?_) (fun c29 => ?_)
    · have hw := hw.1 c29
      refine lv_iconst (v := 0) hx hb dX9_revoke_36 (by decide) ?_
      refine tJ_X9_revoke_37 C0 hK  (gk_s σ 0 0) a0 0 hw _ _ hW hS  _ hl
    · have hw := hw.2 c29
      refine lv_iconst (v := 1) hx hb dX9_revoke_32 (by decide) ?_
      refine lv_goto (tgt := 37) hx hb dX9_revoke_33 (by decide) ?_
      refine tJ_X9_revoke_37 C0 hK  (gk_s σ 0 0) a0 1 hw _ _ hW hS  _ hl
  · have hw := hw.2 c10
    refine lv_aload_n hx hb dX9_revoke_13 rfl (lv_at hl 0 rfl) ?_
    refine lv_iconst (v := 1) hx hb dX9_revoke_14 (by decide) ?_
    refine mk_callVi ⟨hx, hb, hml, hown, hts⟩ (c_X9_isNot l D cI cZ cG cL am hw) (cwV 1 hts (gk_gV ml_X9_145 im_X9_isNot se_X9_isNot in_X9 co_X9_isNot) rfl rfl rfl (by decide +kernel) ⟨Nat.le_of_ble_eq_true rfl, Nat.le_of_ble_eq_true rfl⟩) (gk_recv hK.1 (mk_obj hW) rfl) hW hK trivial hS rfl hl.1 (rest := []) rfl (lv_room (Nat.le_of_ble_eq_true rfl)) dX9_revoke_15 ⟨Nat.le_of_ble_eq_true rfl, Nat.le_of_ble_eq_true rfl⟩ (fun r15 σ15 H locs hw hW _ hk hS => ?_)
    refine W.widen (k := 0) (n := 0) (Nat.le_of_ble_eq_true rfl) (Nat.le_of_ble_eq_true rfl) ?_
    obtain ⟨hz, hw⟩ := hw
    exact mk_retz C0 hz hw hW hS dX9_revoke_18
def w_X9_grants (σ : gk_C)  (Q : Int32 → gk_C → Prop) : Prop := (w_X9_ok σ (σ.2 26) (fun r5 σ5 => Q r5 σ5))
abbrev rmX9_grants : Room := { frames := 1, cells := 0, slots := 0, locals := 21 }
set_option maxHeartbeats 4000000 in
set_option maxRecDepth 100000 in
theorem c_X9_grants (l : Launch) (D : va_G) (cI cZ cG cL : ClassId) (am : Nat → Nat) {σ : gk_C} {Q : Int32 → gk_C → Prop} {sz : Nat} (hw : w_X9_grants σ  Q) : Met l yX9_grants wsX9_grants rmX9_grants (mk_Pc (mk_V D cI cZ am) D cI cZ cG cL [.ref (am 38)] sz σ (fun _ => True)) (va_Qi (fun r u => Q r u) (mk_B (mk_V D cI cZ am)) (mk_A am sz)) 0 0 (mk_A am sz) := by
  refine Met.ofW (cc := cX9_grants) (maxL := 1) (ret := (some .int)) (by decide) rfl ?_
  intro p e s m args below meth c s₁ B hml0 hv0
  obtain ⟨rfl, hsz, hW, hK, hX⟩ := hv0
  subst hsz
  have C0 : gk_F p s m ([.ref (am 38)] : List Value).toArray meth c cX9_grants 1 (some .int) RX9 := ⟨B.exec, B.bytes, hml0, findClass_of_methodNamed B.named, fun w hw => atoms_spec (ws := wsX9_grants) B.pre w (List.mem_cons_of_mem _ hw), B.returns, B.notSynchronized⟩
  obtain ⟨hx, hb, hml, hown, hts, hr, hlocks⟩ := id C0
  have hS : va_S (mk_A am s.heap.size) s.heap s.heap [] := va_S.rf
  have hl := lv_entry ([.ref (am 38)]) (n := 1) (Nat.le_of_ble_eq_true rfl)
  rw [lg_entry_eq]
  generalize (lg_sl ([.ref (am 38)]) ++ List.replicate (1 - (lg_sl ([.ref (am 38)])).length) Slot.unset).toArray = ls at hl ⊢
  have hl : lv_has ls 1 [(0, .ref (am 38))] := hl
  show W p l e rmX9_grants s m _ below meth c s.heap [] 0 0 _ _
  refine lv_aload_n hx hb dX9_grants_0 rfl (lv_at hl 0 rfl) ?_
  refine lv_aload_n hx hb dX9_grants_1 rfl (lv_at hl 0 rfl) ?_
  refine gk_get hx hb hts iwX9 hown hK.1 (mk_obj hW) rfl 26 (by decide) (hts _ fl_X9_233) (fun _ h9 => h9) rfl dX9_grants_2 ?_
  refine mk_callVi ⟨hx, hb, hml, hown, hts⟩ (c_X9_ok l D cI cZ cG cL am hw) (cwV 1 hts (gk_gV ml_X9_152 im_X9_ok se_X9_ok in_X9 co_X9_ok) rfl rfl rfl (by decide +kernel) ⟨Nat.le_of_ble_eq_true rfl, Nat.le_of_ble_eq_true rfl⟩) (gk_recv hK.1 (mk_obj hW) rfl) hW hK trivial hS rfl hl.1 (rest := []) rfl (lv_room (Nat.le_of_ble_eq_true rfl)) dX9_grants_5 ⟨Nat.le_of_ble_eq_true rfl, Nat.le_of_ble_eq_true rfl⟩ (fun r5 σ5 H locs hw hW _ hk hS => ?_)
  refine W.widen (k := 0) (n := 0) (Nat.le_of_ble_eq_true rfl) (Nat.le_of_ble_eq_true rfl) ?_
  exact mk_reti C0 hw hW hS dX9_grants_8
def w_X9_counted (σ : gk_C) (a0 : Int32) (Q : Int32 → gk_C → Prop) : Prop := (w_X9_isIn a0 0 5 (fun r8 => ((r8 = 0) → (w_X9_no (gk_s σ 0 0) 1 (fun r25 σ25 => Q r25 σ25))) ∧ ((¬ r8 = 0) → (vp_in a0 6 ∧ Q ((gk_s σ 0 0).1 33 a0.toNatClampNeg) (gk_s σ 0 0)))))
abbrev rmX9_counted : Room := { frames := 1, cells := 0, slots := 0, locals := 22 }
set_option maxHeartbeats 4000000 in
set_option maxRecDepth 100000 in
theorem c_X9_counted (l : Launch) (D : va_G) (cI cZ cG cL : ClassId) (am : Nat → Nat) {σ : gk_C} {a0 : Int32} {Q : Int32 → gk_C → Prop} {sz : Nat} (hw : w_X9_counted σ a0 Q) : Met l yX9_counted wsX9_counted rmX9_counted (mk_Pc (mk_V D cI cZ am) D cI cZ cG cL [.ref (am 38), .int a0] sz σ (fun _ => True)) (va_Qi (fun r u => Q r u) (mk_B (mk_V D cI cZ am)) (mk_A am sz)) 0 0 (mk_A am sz) := by
  refine Met.ofW (cc := cX9_counted) (maxL := 2) (ret := (some .int)) (by decide) rfl ?_
  intro p e s m args below meth c s₁ B hml0 hv0
  obtain ⟨rfl, hsz, hW, hK, hX⟩ := hv0
  subst hsz
  have C0 : gk_F p s m ([.ref (am 38), .int a0] : List Value).toArray meth c cX9_counted 2 (some .int) RX9 := ⟨B.exec, B.bytes, hml0, findClass_of_methodNamed B.named, fun w hw => atoms_spec (ws := wsX9_counted) B.pre w (List.mem_cons_of_mem _ hw), B.returns, B.notSynchronized⟩
  obtain ⟨hx, hb, hml, hown, hts, hr, hlocks⟩ := id C0
  have hS : va_S (mk_A am s.heap.size) s.heap s.heap [] := va_S.rf
  have hl := lv_entry ([.ref (am 38), .int a0]) (n := 2) (Nat.le_of_ble_eq_true rfl)
  rw [lg_entry_eq]
  generalize (lg_sl ([.ref (am 38), .int a0]) ++ List.replicate (2 - (lg_sl ([.ref (am 38), .int a0])).length) Slot.unset).toArray = ls at hl ⊢
  have hl : lv_has ls 2 [(0, .ref (am 38)), (1, .int a0)] := hl
  show W p l e rmX9_counted s m _ below meth c s.heap [] 0 0 _ _
  refine lv_aload_n hx hb dX9_counted_0 rfl (lv_at hl 0 rfl) ?_
  refine lv_iconst (v := 0) hx hb dX9_counted_1 (by decide) ?_
  refine gk_putf (ty := .int) (v := .int 0) hx hb hts iwX9 tyX9 tyX9_ok nmX9 hown hK.1 hS (mk_A.in List.mem_cons_self) (mk_obj hW) rfl 0 (by decide) (hts _ fl_X9_102) (fun _ h9 => h9) rfl (by decide +kernel) rfl rfl (Nat.le_of_ble_eq_true rfl) dX9_counted_2 (fun H locs h1 _ oq hS => ?_)
  have hW := hW.setS (i := 0) (v := 0) h1 oq
  refine lv_iload_n hx hb dX9_counted_5 rfl (lv_at hl 1 rfl) ?_
  refine lv_iconst (v := 0) hx hb dX9_counted_6 (by decide) ?_
  refine lv_iconst (v := 5) hx hb dX9_counted_7 (by decide) ?_
  refine gk_callSi ⟨hx, hb, hml, hown, hts⟩ (c_X9_isIn l hw) (va_cwS 3 hts (gk_gS ml_X9_108 st_X9_isIn in_X9 co_X9_isIn) rfl rfl rfl (by decide +kernel) ⟨Nat.le_of_ble_eq_true rfl, Nat.le_of_ble_eq_true rfl⟩) hS rfl hl.1 (rest := []) rfl (lv_room (Nat.le_of_ble_eq_true rfl)) dX9_counted_8 ⟨Nat.le_of_ble_eq_true rfl, Nat.le_of_ble_eq_true rfl⟩ (fun r8 H locs hw _ hk hS => ?_)
  have hW := hW.keptAll hk
  refine lv_if_eq (tgt := 23) hx hb dX9_counted_11 (by decide) (fun c11 => ?_) (fun c11 => ?_)
  · have hw := hw.1 c11
    refine lv_aload_n hx hb dX9_counted_23 rfl (lv_at hl 0 rfl) ?_
    refine lv_iconst (v := 1) hx hb dX9_counted_24 (by decide) ?_
    refine mk_callVi ⟨hx, hb, hml, hown, hts⟩ (c_X9_no l D cI cZ cG cL am hw) (cwV 1 hts (gk_gV ml_X9_139 im_X9_no se_X9_no in_X9 co_X9_no) rfl rfl rfl (by decide +kernel) ⟨Nat.le_of_ble_eq_true rfl, Nat.le_of_ble_eq_true rfl⟩) (gk_recv hK.1 (mk_obj hW) rfl) hW hK trivial hS rfl hl.1 (rest := []) rfl (lv_room (Nat.le_of_ble_eq_true rfl)) dX9_counted_25 ⟨Nat.le_of_ble_eq_true rfl, Nat.le_of_ble_eq_true rfl⟩ (fun r25 σ25 H locs hw hW _ hk hS => ?_)
    refine W.widen (k := 0) (n := 0) (Nat.le_of_ble_eq_true rfl) (Nat.le_of_ble_eq_true rfl) ?_
    exact mk_reti C0 hw hW hS dX9_counted_28
  · have hw := hw.2 c11
    refine lv_aload_n hx hb dX9_counted_14 rfl (lv_at hl 0 rfl) ?_
    refine gk_get hx hb hts iwX9 hown hK.1 (mk_obj hW) rfl 33 (by decide) (hts _ fl_X9_87) (fun _ h9 => h9) rfl dX9_counted_15 ?_
    refine lv_iload_n hx hb dX9_counted_18 rfl (lv_at hl 1 rfl) ?_
    obtain ⟨hin, hw⟩ := hw
    refine gk_iald hx hb hK.1 0 (mk_arr hW (k := 33) (by decide) (by decide) (by decide)) rfl hin dX9_counted_19 ?_
    refine lv_goto (tgt := 28) hx hb dX9_counted_20 (by decide) ?_
    refine W.widen (k := 0) (n := 0) (Nat.le_of_ble_eq_true rfl) (Nat.le_of_ble_eq_true rfl) ?_
    exact mk_reti C0 hw hW hS dX9_counted_28
def wJ_X9_done_35 (Q : Int32 → gk_C → Prop) (σ : gk_C) : Prop := (w_X9_no σ 1 (fun r37 σ37 => Q r37 σ37))
def w_X9_done (σ : gk_C) (a0 : Int32) (a1 : Int32) (Q : Int32 → gk_C → Prop) : Prop := (w_X9_isUser (gk_s σ 0 0) a0 (fun r7 => ((r7 = 0) → (wJ_X9_done_35 Q (gk_s σ 0 0))) ∧ ((¬ r7 = 0) → (w_X9_isResource (gk_s σ 0 0) a1 (fun r15 => ((r15 = 0) → (wJ_X9_done_35 Q (gk_s σ 0 0))) ∧ ((¬ r15 = 0) → (vp_in ((a0 * 24) + a1) 288 ∧ Q ((gk_s σ 0 0).1 34 ((a0 * 24) + a1).toNatClampNeg) (gk_s σ 0 0))))))))
abbrev rmX9_done : Room := { frames := 2, cells := 0, slots := 0, locals := 43 }
set_option maxHeartbeats 4000000 in
set_option maxRecDepth 100000 in
theorem tJ_X9_done_35 {p : Program} {l : Launch} {e : Env} {s : State} {m : MethodId} {args : Array Value} {below : List Frame} {meth : Method} {c : Code} {D : va_G} {cI cZ cG cL : ClassId} {am : Nat → Nat} (C0 : gk_F p s m args meth c cX9_done 3 (some .int) RX9) (hK : gk_K D cI cZ cG cL s) {Q : Int32 → gk_C → Prop} : ∀ (σ : gk_C), wJ_X9_done_35 Q σ → ∀ (H : Heap) (locs : List Loc), mk_V D cI cZ am σ H → va_S (mk_A am s.heap.size) s.heap H locs → ∀ (ls : Array Slot), lv_has ls 3 [(0, .ref (am 38))] → W p l e rmX9_done s m args below meth c H locs 0 0 (MQ below (va_Qi (fun r u => Q r u) (mk_B (mk_V D cI cZ am)) (mk_A am s.heap.size)) args s 0 0 (mk_A am s.heap.size)) (F0 m 35 ls []) := by
  obtain ⟨hx, hb, hml, hown, hts, hr, hlocks⟩ := id C0
  intro σ hw H locs hW hS  ls hl
  refine lv_aload_n hx hb dX9_done_35 rfl (lv_at hl 0 rfl) ?_
  refine lv_iconst (v := 1) hx hb dX9_done_36 (by decide) ?_
  refine mk_callVi ⟨hx, hb, hml, hown, hts⟩ (c_X9_no l D cI cZ cG cL am hw) (cwV 1 hts (gk_gV ml_X9_139 im_X9_no se_X9_no in_X9 co_X9_no) rfl rfl rfl (by decide +kernel) ⟨Nat.le_of_ble_eq_true rfl, Nat.le_of_ble_eq_true rfl⟩) (gk_recv hK.1 (mk_obj hW) rfl) hW hK trivial hS rfl hl.1 (rest := []) rfl (lv_room (Nat.le_of_ble_eq_true rfl)) dX9_done_37 ⟨Nat.le_of_ble_eq_true rfl, Nat.le_of_ble_eq_true rfl⟩ (fun r37 σ37 H locs hw hW _ hk hS => ?_)
  refine W.widen (k := 0) (n := 0) (Nat.le_of_ble_eq_true rfl) (Nat.le_of_ble_eq_true rfl) ?_
  exact mk_reti C0 hw hW hS dX9_done_40
set_option maxHeartbeats 4000000 in
set_option maxRecDepth 100000 in
theorem c_X9_done (l : Launch) (D : va_G) (cI cZ cG cL : ClassId) (am : Nat → Nat) {σ : gk_C} {a0 : Int32} {a1 : Int32} {Q : Int32 → gk_C → Prop} {sz : Nat} (hw : w_X9_done σ a0 a1 Q) : Met l yX9_done wsX9_done rmX9_done (mk_Pc (mk_V D cI cZ am) D cI cZ cG cL [.ref (am 38), .int a0, .int a1] sz σ (fun _ => True)) (va_Qi (fun r u => Q r u) (mk_B (mk_V D cI cZ am)) (mk_A am sz)) 0 0 (mk_A am sz) := by
  refine Met.ofW (cc := cX9_done) (maxL := 3) (ret := (some .int)) (by decide) rfl ?_
  intro p e s m args below meth c s₁ B hml0 hv0
  obtain ⟨rfl, hsz, hW, hK, hX⟩ := hv0
  subst hsz
  have C0 : gk_F p s m ([.ref (am 38), .int a0, .int a1] : List Value).toArray meth c cX9_done 3 (some .int) RX9 := ⟨B.exec, B.bytes, hml0, findClass_of_methodNamed B.named, fun w hw => atoms_spec (ws := wsX9_done) B.pre w (List.mem_cons_of_mem _ hw), B.returns, B.notSynchronized⟩
  obtain ⟨hx, hb, hml, hown, hts, hr, hlocks⟩ := id C0
  have hS : va_S (mk_A am s.heap.size) s.heap s.heap [] := va_S.rf
  have hl := lv_entry ([.ref (am 38), .int a0, .int a1]) (n := 3) (Nat.le_of_ble_eq_true rfl)
  rw [lg_entry_eq]
  generalize (lg_sl ([.ref (am 38), .int a0, .int a1]) ++ List.replicate (3 - (lg_sl ([.ref (am 38), .int a0, .int a1])).length) Slot.unset).toArray = ls at hl ⊢
  have hl : lv_has ls 3 [(0, .ref (am 38)), (1, .int a0), (2, .int a1)] := hl
  show W p l e rmX9_done s m _ below meth c s.heap [] 0 0 _ _
  refine lv_aload_n hx hb dX9_done_0 rfl (lv_at hl 0 rfl) ?_
  refine lv_iconst (v := 0) hx hb dX9_done_1 (by decide) ?_
  refine gk_putf (ty := .int) (v := .int 0) hx hb hts iwX9 tyX9 tyX9_ok nmX9 hown hK.1 hS (mk_A.in List.mem_cons_self) (mk_obj hW) rfl 0 (by decide) (hts _ fl_X9_102) (fun _ h9 => h9) rfl (by decide +kernel) rfl rfl (Nat.le_of_ble_eq_true rfl) dX9_done_2 (fun H locs h1 _ oq hS => ?_)
  have hW := hW.setS (i := 0) (v := 0) h1 oq
  refine lv_aload_n hx hb dX9_done_5 rfl (lv_at hl 0 rfl) ?_
  refine lv_iload_n hx hb dX9_done_6 rfl (lv_at hl 1 rfl) ?_
  refine mk_callRi ⟨hx, hb, hml, hown, hts⟩ (c_X9_isUser l D cI cZ cG cL am hw) (cwV 1 hts (gk_gV ml_X9_115 im_X9_isUser se_X9_isUser in_X9 co_X9_isUser) rfl rfl rfl (by decide +kernel) ⟨Nat.le_of_ble_eq_true rfl, Nat.le_of_ble_eq_true rfl⟩) (gk_recv hK.1 (mk_obj hW) rfl) hW hK trivial hS rfl hl.1 (rest := []) rfl (lv_room (Nat.le_of_ble_eq_true rfl)) dX9_done_7 ⟨Nat.le_of_ble_eq_true rfl, Nat.le_of_ble_eq_true rfl⟩ (fun r7 H locs hw hW _ hk hS => ?_)
  refine lv_if_eq (tgt := 35) hx hb dX9_done_10 (by decide) (fun c10 => ?_) (fun c10 => ?_)
  · have hw := hw.1 c10
    refine tJ_X9_done_35 C0 hK  (gk_s σ 0 0) hw _ _ hW hS  _ (lv_sub hl [0] rfl)
  · have hw := hw.2 c10
    refine lv_aload_n hx hb dX9_done_13 rfl (lv_at hl 0 rfl) ?_
    refine lv_iload_n hx hb dX9_done_14 rfl (lv_at hl 2 rfl) ?_
    refine mk_callRi ⟨hx, hb, hml, hown, hts⟩ (c_X9_isResource l D cI cZ cG cL am hw) (cwV 1 hts (gk_gV ml_X9_122 im_X9_isResource se_X9_isResource in_X9 co_X9_isResource) rfl rfl rfl (by decide +kernel) ⟨Nat.le_of_ble_eq_true rfl, Nat.le_of_ble_eq_true rfl⟩) (gk_recv hK.1 (mk_obj hW) rfl) hW hK trivial hS rfl hl.1 (rest := []) rfl (lv_room (Nat.le_of_ble_eq_true rfl)) dX9_done_15 ⟨Nat.le_of_ble_eq_true rfl, Nat.le_of_ble_eq_true rfl⟩ (fun r15 H locs hw hW _ hk hS => ?_)
    refine lv_if_eq (tgt := 35) hx hb dX9_done_18 (by decide) (fun c18 => ?_) (fun c18 => ?_)
    · have hw := hw.1 c18
      refine tJ_X9_done_35 C0 hK  (gk_s σ 0 0) hw _ _ hW hS  _ (lv_sub hl [0] rfl)
    · have hw := hw.2 c18
      refine lv_aload_n hx hb dX9_done_21 rfl (lv_at hl 0 rfl) ?_
      refine gk_get hx hb hts iwX9 hown hK.1 (mk_obj hW) rfl 34 (by decide) (hts _ fl_X9_90) (fun _ h9 => h9) rfl dX9_done_22 ?_
      refine lv_iload_n hx hb dX9_done_25 rfl (lv_at hl 1 rfl) ?_
      refine lv_bipush (v := 24) hx hb dX9_done_26 (by decide) ?_
      refine lv_imul hx hb dX9_done_28 ?_
      refine lv_iload_n hx hb dX9_done_29 rfl (lv_at hl 2 rfl) ?_
      refine lv_iadd hx hb dX9_done_30 ?_
      obtain ⟨hin, hw⟩ := hw
      refine gk_iald hx hb hK.1 0 (mk_arr hW (k := 34) (by decide) (by decide) (by decide)) rfl hin dX9_done_31 ?_
      refine lv_goto (tgt := 40) hx hb dX9_done_32 (by decide) ?_
      refine W.widen (k := 0) (n := 0) (Nat.le_of_ble_eq_true rfl) (Nat.le_of_ble_eq_true rfl) ?_
      exact mk_reti C0 hw hW hS dX9_done_40
def wJ_X9_leaning_123 (σ : gk_C) (k30 : Int32 → Int32 → Int32 → Int32 → Int32 → Prop) (x1 : Int32) (x2 : Int32) (x3 : Int32) (x5 : Int32) : Prop := (k30 x1 x2 x3 0 (x5 + 1))
def wL_X9_leaning_30 (σ : gk_C) (k132 : Int32 → Int32 → Int32 → Int32 → Prop) : Nat → Int32 → Int32 → Int32 → Int32 → Int32 → Prop
  | 0 => fun _ _ _ _ _ => False
  | n + 1 => fun x1 x2 x3 x4 x5 => (((x3 ≤ x5) → (k132 x1 x2 x3 x4)) ∧ ((¬ x3 ≤ x5) → (((¬ x4 = 0) → (k132 x1 x2 x3 x4)) ∧ ((x4 = 0) → (((((x2 >>> (x5 &&& 31)) &&& 1) = 0) → (wJ_X9_leaning_123 σ (fun x1 x2 x3 x4 x5 => wL_X9_leaning_30 σ k132 n x1 x2 x3 x4 x5) x1 x2 x3 x5)) ∧ ((¬ ((x2 >>> (x5 &&& 31)) &&& 1) = 0) → (vp_in x5 30 ∧ vp_in x3 30 ∧ ((¬ (σ.1 28 x5.toNatClampNeg) = (σ.1 27 x3.toNatClampNeg)) → (wJ_X9_leaning_123 σ (fun x1 x2 x3 x4 x5 => wL_X9_leaning_30 σ k132 n x1 x2 x3 x4 x5) x1 x2 x3 x5)) ∧ (((σ.1 28 x5.toNatClampNeg) = (σ.1 27 x3.toNatClampNeg)) → (vp_in x5 30 ∧ vp_in x3 30 ∧ ((¬ (σ.1 29 x5.toNatClampNeg) = (σ.1 29 x3.toNatClampNeg)) → (wJ_X9_leaning_123 σ (fun x1 x2 x3 x4 x5 => wL_X9_leaning_30 σ k132 n x1 x2 x3 x4 x5) x1 x2 x3 x5)) ∧ (((σ.1 29 x5.toNatClampNeg) = (σ.1 29 x3.toNatClampNeg)) → (vp_in x5 30 ∧ vp_in x3 30 ∧ (((σ.1 31 x5.toNatClampNeg) ≤ (σ.1 31 x3.toNatClampNeg)) → (wJ_X9_leaning_123 σ (fun x1 x2 x3 x4 x5 => wL_X9_leaning_30 σ k132 n x1 x2 x3 x4 x5) x1 x2 x3 x5)) ∧ ((¬ (σ.1 31 x5.toNatClampNeg) ≤ (σ.1 31 x3.toNatClampNeg)) → (vp_in x3 30 ∧ vp_in x5 30 ∧ w_X9_farNow σ (σ.1 30 x3.toNatClampNeg) (σ.1 30 x5.toNatClampNeg) (fun r112 => ((r112 = (-1)) → (wJ_X9_leaning_123 σ (fun x1 x2 x3 x4 x5 => wL_X9_leaning_30 σ k132 n x1 x2 x3 x4 x5) x1 x2 x3 x5)) ∧ ((¬ r112 = (-1)) → (wL_X9_leaning_30 σ k132 n x1 x2 x3 1 (x5 + 1)))))))))))))))))
def wJ_X9_leaning_157 (σ : gk_C) (k158 : Int32 → Int32 → Int32 → Int32 → Prop) (x1 : Int32) (x3 : Int32) (t0 : Int32) : Prop := (k158 x1 x3 t0 0)
def wJ_X9_leaning_158 (σ : gk_C) (k4 : Int32 → Int32 → Int32 → Prop) (x1 : Int32) (x3 : Int32) (t0 : Int32) (t1 : Int32) : Prop := (k4 x1 (t0 ||| t1) (x3 + 1))
def wJ_X9_leaning_132 (σ : gk_C) (k4 : Int32 → Int32 → Int32 → Prop) (x1 : Int32) (x2 : Int32) (x3 : Int32) (x4 : Int32) : Prop := (((x4 = 0) → (wJ_X9_leaning_157 σ (fun x1 x3 t0 t1 => (wJ_X9_leaning_158 σ k4 x1 x3 t0 t1)) x1 x3 x2)) ∧ ((¬ x4 = 0) → (vp_in x3 30 ∧ (((σ.1 32 x3.toNatClampNeg) ≤ (σ.2 1)) → (wJ_X9_leaning_157 σ (fun x1 x3 t0 t1 => (wJ_X9_leaning_158 σ k4 x1 x3 t0 t1)) x1 x3 x2)) ∧ ((¬ (σ.1 32 x3.toNatClampNeg) ≤ (σ.2 1)) → (wJ_X9_leaning_158 σ k4 x1 x3 x2 (1 <<< (x3 &&& 31)))))))
def wL_X9_leaning_4 (σ : gk_C) (Q : Int32 → Prop) : Nat → Int32 → Int32 → Int32 → Prop
  | 0 => fun _ _ _ => False
  | n + 1 => fun x1 x2 x3 => ((((σ.2 26) ≤ x3) → (Q x2)) ∧ ((¬ (σ.2 26) ≤ x3) → (((((x1 >>> (x3 &&& 31)) &&& 1) = 0) → (∃ n30, wL_X9_leaning_30 σ (fun x1 x2 x3 x4 => (wJ_X9_leaning_132 σ (fun x1 x2 x3 => wL_X9_leaning_4 σ Q n x1 x2 x3) x1 x2 x3 x4)) n30 x1 x2 x3 0 0)) ∧ ((¬ ((x1 >>> (x3 &&& 31)) &&& 1) = 0) → (∃ n30, wL_X9_leaning_30 σ (fun x1 x2 x3 x4 => (wJ_X9_leaning_132 σ (fun x1 x2 x3 => wL_X9_leaning_4 σ Q n x1 x2 x3) x1 x2 x3 x4)) n30 x1 x2 x3 1 0)))))
def w_X9_leaning (σ : gk_C) (a0 : Int32) (Q : Int32 → Prop) : Prop := (∃ n4, wL_X9_leaning_4 σ Q n4 a0 0 0)
abbrev rmX9_leaning : Room := { frames := 1, cells := 0, slots := 0, locals := 24 }
set_option maxHeartbeats 4000000 in
set_option maxRecDepth 100000 in
theorem tJ_X9_leaning_123 {p : Program} {l : Launch} {e : Env} {s : State} {m : MethodId} {args : Array Value} {below : List Frame} {meth : Method} {c : Code} {D : va_G} {cI cZ cG cL : ClassId} {am : Nat → Nat} (C0 : gk_F p s m args meth c cX9_leaning 6 (some .int) RX9) (hK : gk_K D cI cZ cG cL s) {σ : gk_C} {Q : Int32 → Prop} {k30 : Int32 → Int32 → Int32 → Int32 → Int32 → Prop} (hk30 : ∀ (x1 : Int32) (x2 : Int32) (x3 : Int32) (x4 : Int32) (x5 : Int32), k30 x1 x2 x3 x4 x5 → ∀ (H : Heap) (locs : List Loc), mk_V D cI cZ am σ H → va_S (mk_A am s.heap.size) s.heap H locs → ∀ (ls : Array Slot), lv_has ls 6 [(0, .ref (am 38)), (1, .int x1), (2, .int x2), (3, .int x3), (4, .int x4), (5, .int x5)] → W p l e rmX9_leaning s m args below meth c H locs 0 0 (MQ below (va_Qi (fun r u => u = σ ∧ Q r) (mk_B (mk_V D cI cZ am)) (mk_A am s.heap.size)) args s 0 0 (mk_A am s.heap.size)) (F0 m 30 ls [])) : ∀ (x1 : Int32) (x2 : Int32) (x3 : Int32) (x5 : Int32), wJ_X9_leaning_123 σ k30 x1 x2 x3 x5 → ∀ (H : Heap) (locs : List Loc), mk_V D cI cZ am σ H → va_S (mk_A am s.heap.size) s.heap H locs → ∀ (ls : Array Slot), lv_has ls 6 [(0, .ref (am 38)), (1, .int x1), (2, .int x2), (3, .int x3), (5, .int x5)] → W p l e rmX9_leaning s m args below meth c H locs 0 0 (MQ below (va_Qi (fun r u => u = σ ∧ Q r) (mk_B (mk_V D cI cZ am)) (mk_A am s.heap.size)) args s 0 0 (mk_A am s.heap.size)) (F0 m 123 ls []) := by
  obtain ⟨hx, hb, hml, hown, hts, hr, hlocks⟩ := id C0
  intro x1 x2 x3 x5 hw H locs hW hS  ls hl
  refine lv_iconst (v := 0) hx hb dX9_leaning_123 (by decide) ?_
  refine lv_istore (lv' := [(4, .int 0), (0, .ref (am 38)), (1, .int x1), (2, .int x2), (3, .int x3), (5, .int x5)]) hx hb dX9_leaning_124 hl (by decide) rfl (fun ls hl => ?_)
  refine lv_iinc (v := (x5 + 1)) (lv' := [(5, .int (x5 + 1)), (4, .int 0), (0, .ref (am 38)), (1, .int x1), (2, .int x2), (3, .int x3)]) hx hb dX9_leaning_126 hl (k := 5) rfl rfl (by decide) rfl (fun ls hl => ?_)
  refine lv_goto (tgt := 30) hx hb dX9_leaning_129 (by decide) ?_
  exact hk30 x1 x2 x3 0 (x5 + 1) hw _ _ hW hS  _ (lv_sub hl [2, 3, 4, 5, 1, 0] rfl)
set_option maxHeartbeats 4000000 in
set_option maxRecDepth 100000 in
theorem tL_X9_leaning_30 {p : Program} {l : Launch} {e : Env} {s : State} {m : MethodId} {args : Array Value} {below : List Frame} {meth : Method} {c : Code} {D : va_G} {cI cZ cG cL : ClassId} {am : Nat → Nat} (C0 : gk_F p s m args meth c cX9_leaning 6 (some .int) RX9) (hK : gk_K D cI cZ cG cL s) {σ : gk_C} {Q : Int32 → Prop} {k132 : Int32 → Int32 → Int32 → Int32 → Prop} (hk132 : ∀ (x1 : Int32) (x2 : Int32) (x3 : Int32) (x4 : Int32), k132 x1 x2 x3 x4 → ∀ (H : Heap) (locs : List Loc), mk_V D cI cZ am σ H → va_S (mk_A am s.heap.size) s.heap H locs → ∀ (ls : Array Slot), lv_has ls 6 [(0, .ref (am 38)), (1, .int x1), (2, .int x2), (3, .int x3), (4, .int x4)] → W p l e rmX9_leaning s m args below meth c H locs 0 0 (MQ below (va_Qi (fun r u => u = σ ∧ Q r) (mk_B (mk_V D cI cZ am)) (mk_A am s.heap.size)) args s 0 0 (mk_A am s.heap.size)) (F0 m 132 ls [])) : ∀ (n : Nat) (x1 : Int32) (x2 : Int32) (x3 : Int32) (x4 : Int32) (x5 : Int32), wL_X9_leaning_30 σ k132 n x1 x2 x3 x4 x5 → ∀ (H : Heap) (locs : List Loc), mk_V D cI cZ am σ H → va_S (mk_A am s.heap.size) s.heap H locs → ∀ (ls : Array Slot), lv_has ls 6 [(0, .ref (am 38)), (1, .int x1), (2, .int x2), (3, .int x3), (4, .int x4), (5, .int x5)] → W p l e rmX9_leaning s m args below meth c H locs 0 0 (MQ below (va_Qi (fun r u => u = σ ∧ Q r) (mk_B (mk_V D cI cZ am)) (mk_A am s.heap.size)) args s 0 0 (mk_A am s.heap.size)) (F0 m 30 ls []) := by
  obtain ⟨hx, hb, hml, hown, hts, hr, hlocks⟩ := id C0
  intro n
  induction n with
  | zero => exact fun _ _ _ _ _ hw => False.elim hw
  | succ n ih =>
    intro x1 x2 x3 x4 x5 hw H locs hW hS  ls hl
    refine lv_iload hx hb dX9_leaning_30 (lv_at hl 5 rfl) ?_
    refine lv_iload_n hx hb dX9_leaning_32 rfl (lv_at hl 3 rfl) ?_
    refine lv_icmp_ge (tgt := 132) hx hb dX9_leaning_33 (by decide) (fun c33 => ?_) (fun c33 => ?_)
    · have hw := hw.1 c33
      exact hk132 x1 x2 x3 x4 hw _ _ hW hS  _ (lv_sub hl [0, 1, 2, 3, 4] rfl)
    · have hw := hw.2 c33
      refine lv_iload hx hb dX9_leaning_36 (lv_at hl 4 rfl) ?_
      refine lv_if_ne (tgt := 132) hx hb dX9_leaning_38 (by decide) (fun c38 => ?_) (fun c38 => ?_)
      · have hw := hw.1 c38
        exact hk132 x1 x2 x3 x4 hw _ _ hW hS  _ (lv_sub hl [0, 1, 2, 3, 4] rfl)
      · have hw := hw.2 c38
        refine lv_iload_n hx hb dX9_leaning_41 rfl (lv_at hl 2 rfl) ?_
        refine lv_iload hx hb dX9_leaning_42 (lv_at hl 5 rfl) ?_
        refine lv_ishr hx hb dX9_leaning_44 ?_
        refine lv_iconst (v := 1) hx hb dX9_leaning_45 (by decide) ?_
        refine lv_iand hx hb dX9_leaning_46 ?_
        refine lv_if_eq (tgt := 123) hx hb dX9_leaning_47 (by decide) (fun c47 => ?_) (fun c47 => ?_)
        · have hw := hw.1 c47
          refine tJ_X9_leaning_123 C0 hK (hk30 := ih) x1 x2 x3 x5 hw _ _ hW hS  _ (lv_sub hl [0, 1, 2, 3, 5] rfl)
        · have hw := hw.2 c47
          refine lv_aload_n hx hb dX9_leaning_50 rfl (lv_at hl 0 rfl) ?_
          refine gk_get hx hb hts iwX9 hown hK.1 (mk_obj hW) rfl 28 (by decide) (hts _ fl_X9_72) (fun _ h9 => h9) rfl dX9_leaning_51 ?_
          refine lv_iload hx hb dX9_leaning_54 (lv_at hl 5 rfl) ?_
          obtain ⟨hin, hw⟩ := hw
          refine gk_iald hx hb hK.1 0 (mk_arr hW (k := 28) (by decide) (by decide) (by decide)) rfl hin dX9_leaning_56 ?_
          refine lv_aload_n hx hb dX9_leaning_57 rfl (lv_at hl 0 rfl) ?_
          refine gk_get hx hb hts iwX9 hown hK.1 (mk_obj hW) rfl 27 (by decide) (hts _ fl_X9_69) (fun _ h9 => h9) rfl dX9_leaning_58 ?_
          refine lv_iload_n hx hb dX9_leaning_61 rfl (lv_at hl 3 rfl) ?_
          obtain ⟨hin, hw⟩ := hw
          refine gk_iald hx hb hK.1 0 (mk_arr hW (k := 27) (by decide) (by decide) (by decide)) rfl hin dX9_leaning_62 ?_
          refine lv_icmp_ne (tgt := 123) hx hb dX9_leaning_63 (by decide) (fun c63 => ?_) (fun c63 => ?_)
          · have hw := hw.1 c63
            refine tJ_X9_leaning_123 C0 hK (hk30 := ih) x1 x2 x3 x5 hw _ _ hW hS  _ (lv_sub hl [0, 1, 2, 3, 5] rfl)
          · have hw := hw.2 c63
            refine lv_aload_n hx hb dX9_leaning_66 rfl (lv_at hl 0 rfl) ?_
            refine gk_get hx hb hts iwX9 hown hK.1 (mk_obj hW) rfl 29 (by decide) (hts _ fl_X9_75) (fun _ h9 => h9) rfl dX9_leaning_67 ?_
            refine lv_iload hx hb dX9_leaning_70 (lv_at hl 5 rfl) ?_
            obtain ⟨hin, hw⟩ := hw
            refine gk_iald hx hb hK.1 0 (mk_arr hW (k := 29) (by decide) (by decide) (by decide)) rfl hin dX9_leaning_72 ?_
            refine lv_aload_n hx hb dX9_leaning_73 rfl (lv_at hl 0 rfl) ?_
            refine gk_get hx hb hts iwX9 hown hK.1 (mk_obj hW) rfl 29 (by decide) (hts _ fl_X9_75) (fun _ h9 => h9) rfl dX9_leaning_74 ?_
            refine lv_iload_n hx hb dX9_leaning_77 rfl (lv_at hl 3 rfl) ?_
            obtain ⟨hin, hw⟩ := hw
            refine gk_iald hx hb hK.1 0 (mk_arr hW (k := 29) (by decide) (by decide) (by decide)) rfl hin dX9_leaning_78 ?_
            refine lv_icmp_ne (tgt := 123) hx hb dX9_leaning_79 (by decide) (fun c79 => ?_) (fun c79 => ?_)
            · have hw := hw.1 c79
              refine tJ_X9_leaning_123 C0 hK (hk30 := ih) x1 x2 x3 x5 hw _ _ hW hS  _ (lv_sub hl [0, 1, 2, 3, 5] rfl)
            · have hw := hw.2 c79
              refine lv_aload_n hx hb dX9_leaning_82 rfl (lv_at hl 0 rfl) ?_
              refine gk_get hx hb hts iwX9 hown hK.1 (mk_obj hW) rfl 31 (by decide) (hts _ fl_X9_81) (fun _ h9 => h9) rfl dX9_leaning_83 ?_
              refine lv_iload hx hb dX9_leaning_86 (lv_at hl 5 rfl) ?_
              obtain ⟨hin, hw⟩ := hw
              refine gk_iald hx hb hK.1 0 (mk_arr hW (k := 31) (by decide) (by decide) (by decide)) rfl hin dX9_leaning_88 ?_
              refine lv_aload_n hx hb dX9_leaning_89 rfl (lv_at hl 0 rfl) ?_
              refine gk_get hx hb hts iwX9 hown hK.1 (mk_obj hW) rfl 31 (by decide) (hts _ fl_X9_81) (fun _ h9 => h9) rfl dX9_leaning_90 ?_
              refine lv_iload_n hx hb dX9_leaning_93 rfl (lv_at hl 3 rfl) ?_
              obtain ⟨hin, hw⟩ := hw
              refine gk_iald hx hb hK.1 0 (mk_arr hW (k := 31) (by decide) (by decide) (by decide)) rfl hin dX9_leaning_94 ?_
              refine lv_icmp_le (tgt := 123) hx hb dX9_leaning_95 (by decide) (fun c95 => ?_) (fun c95 => ?_)
              · have hw := hw.1 c95
                refine tJ_X9_leaning_123 C0 hK (hk30 := ih) x1 x2 x3 x5 hw _ _ hW hS  _ (lv_sub hl [0, 1, 2, 3, 5] rfl)
              · have hw := hw.2 c95
                refine lv_aload_n hx hb dX9_leaning_98 rfl (lv_at hl 0 rfl) ?_
                refine lv_aload_n hx hb dX9_leaning_99 rfl (lv_at hl 0 rfl) ?_
                refine gk_get hx hb hts iwX9 hown hK.1 (mk_obj hW) rfl 30 (by decide) (hts _ fl_X9_78) (fun _ h9 => h9) rfl dX9_leaning_100 ?_
                refine lv_iload_n hx hb dX9_leaning_103 rfl (lv_at hl 3 rfl) ?_
                obtain ⟨hin, hw⟩ := hw
                refine gk_iald hx hb hK.1 0 (mk_arr hW (k := 30) (by decide) (by decide) (by decide)) rfl hin dX9_leaning_104 ?_
                refine lv_aload_n hx hb dX9_leaning_105 rfl (lv_at hl 0 rfl) ?_
                refine gk_get hx hb hts iwX9 hown hK.1 (mk_obj hW) rfl 30 (by decide) (hts _ fl_X9_78) (fun _ h9 => h9) rfl dX9_leaning_106 ?_
                refine lv_iload hx hb dX9_leaning_109 (lv_at hl 5 rfl) ?_
                obtain ⟨hin, hw⟩ := hw
                refine gk_iald hx hb hK.1 0 (mk_arr hW (k := 30) (by decide) (by decide) (by decide)) rfl hin dX9_leaning_111 ?_
                refine mk_callRi ⟨hx, hb, hml, hown, hts⟩ (c_X9_farNow l D cI cZ cG cL am hw) (cwV 2 hts (gk_gV ml_X9_161 im_X9_farNow se_X9_farNow in_X9 co_X9_farNow) rfl rfl rfl (by decide +kernel) ⟨Nat.le_of_ble_eq_true rfl, Nat.le_of_ble_eq_true rfl⟩) (gk_recv hK.1 (mk_obj hW) rfl) hW hK trivial hS rfl hl.1 (rest := []) rfl (lv_room (Nat.le_of_ble_eq_true rfl)) dX9_leaning_112 ⟨Nat.le_of_ble_eq_true rfl, Nat.le_of_ble_eq_true rfl⟩ (fun r112 H locs hw hW _ hk hS => ?_)
                refine lv_iconst (v := (-1)) hx hb dX9_leaning_115 (by decide) ?_
                refine lv_icmp_eq (tgt := 123) hx hb dX9_leaning_116 (by decide) (fun c116 => ?_) (fun c116 => ?_)
                · have hw := hw.1 c116
                  refine tJ_X9_leaning_123 C0 hK (hk30 := ih) x1 x2 x3 x5 hw _ _ hW hS  _ (lv_sub hl [0, 1, 2, 3, 5] rfl)
                · have hw := hw.2 c116
                  refine lv_iconst (v := 1) hx hb dX9_leaning_119 (by decide) ?_
                  refine lv_goto (tgt := 124) hx hb dX9_leaning_120 (by decide) ?_
                  refine lv_istore (lv' := [(4, .int 1), (0, .ref (am 38)), (1, .int x1), (2, .int x2), (3, .int x3), (5, .int x5)]) hx hb dX9_leaning_124 hl (by decide) rfl (fun ls hl => ?_)
                  refine lv_iinc (v := (x5 + 1)) (lv' := [(5, .int (x5 + 1)), (4, .int 1), (0, .ref (am 38)), (1, .int x1), (2, .int x2), (3, .int x3)]) hx hb dX9_leaning_126 hl (k := 5) rfl rfl (by decide) rfl (fun ls hl => ?_)
                  refine lv_goto (tgt := 30) hx hb dX9_leaning_129 (by decide) ?_
                  exact ih x1 x2 x3 1 (x5 + 1) hw _ _ hW hS  _ (lv_sub hl [2, 3, 4, 5, 1, 0] rfl)
set_option maxHeartbeats 4000000 in
set_option maxRecDepth 100000 in
theorem tJ_X9_leaning_157 {p : Program} {l : Launch} {e : Env} {s : State} {m : MethodId} {args : Array Value} {below : List Frame} {meth : Method} {c : Code} {D : va_G} {cI cZ cG cL : ClassId} {am : Nat → Nat} (C0 : gk_F p s m args meth c cX9_leaning 6 (some .int) RX9) (hK : gk_K D cI cZ cG cL s) {σ : gk_C} {Q : Int32 → Prop} {k158 : Int32 → Int32 → Int32 → Int32 → Prop} (hk158 : ∀ (x1 : Int32) (x3 : Int32) (t0 : Int32) (t1 : Int32), k158 x1 x3 t0 t1 → ∀ (H : Heap) (locs : List Loc), mk_V D cI cZ am σ H → va_S (mk_A am s.heap.size) s.heap H locs → ∀ (ls : Array Slot), lv_has ls 6 [(0, .ref (am 38)), (1, .int x1), (3, .int x3)] → W p l e rmX9_leaning s m args below meth c H locs 0 0 (MQ below (va_Qi (fun r u => u = σ ∧ Q r) (mk_B (mk_V D cI cZ am)) (mk_A am s.heap.size)) args s 0 0 (mk_A am s.heap.size)) (F0 m 158 ls [.int t1, .int t0])) : ∀ (x1 : Int32) (x3 : Int32) (t0 : Int32), wJ_X9_leaning_157 σ k158 x1 x3 t0 → ∀ (H : Heap) (locs : List Loc), mk_V D cI cZ am σ H → va_S (mk_A am s.heap.size) s.heap H locs → ∀ (ls : Array Slot), lv_has ls 6 [(0, .ref (am 38)), (1, .int x1), (3, .int x3)] → W p l e rmX9_leaning s m args below meth c H locs 0 0 (MQ below (va_Qi (fun r u => u = σ ∧ Q r) (mk_B (mk_V D cI cZ am)) (mk_A am s.heap.size)) args s 0 0 (mk_A am s.heap.size)) (F0 m 157 ls [.int t0]) := by
  obtain ⟨hx, hb, hml, hown, hts, hr, hlocks⟩ := id C0
  intro x1 x3 t0 hw H locs hW hS  ls hl
  refine lv_iconst (v := 0) hx hb dX9_leaning_157 (by decide) ?_
  exact hk158 x1 x3 t0 0 hw _ _ hW hS  _ hl
set_option maxHeartbeats 4000000 in
set_option maxRecDepth 100000 in
theorem tJ_X9_leaning_158 {p : Program} {l : Launch} {e : Env} {s : State} {m : MethodId} {args : Array Value} {below : List Frame} {meth : Method} {c : Code} {D : va_G} {cI cZ cG cL : ClassId} {am : Nat → Nat} (C0 : gk_F p s m args meth c cX9_leaning 6 (some .int) RX9) (hK : gk_K D cI cZ cG cL s) {σ : gk_C} {Q : Int32 → Prop} {k4 : Int32 → Int32 → Int32 → Prop} (hk4 : ∀ (x1 : Int32) (x2 : Int32) (x3 : Int32), k4 x1 x2 x3 → ∀ (H : Heap) (locs : List Loc), mk_V D cI cZ am σ H → va_S (mk_A am s.heap.size) s.heap H locs → ∀ (ls : Array Slot), lv_has ls 6 [(0, .ref (am 38)), (1, .int x1), (2, .int x2), (3, .int x3)] → W p l e rmX9_leaning s m args below meth c H locs 0 0 (MQ below (va_Qi (fun r u => u = σ ∧ Q r) (mk_B (mk_V D cI cZ am)) (mk_A am s.heap.size)) args s 0 0 (mk_A am s.heap.size)) (F0 m 4 ls [])) : ∀ (x1 : Int32) (x3 : Int32) (t0 : Int32) (t1 : Int32), wJ_X9_leaning_158 σ k4 x1 x3 t0 t1 → ∀ (H : Heap) (locs : List Loc), mk_V D cI cZ am σ H → va_S (mk_A am s.heap.size) s.heap H locs → ∀ (ls : Array Slot), lv_has ls 6 [(0, .ref (am 38)), (1, .int x1), (3, .int x3)] → W p l e rmX9_leaning s m args below meth c H locs 0 0 (MQ below (va_Qi (fun r u => u = σ ∧ Q r) (mk_B (mk_V D cI cZ am)) (mk_A am s.heap.size)) args s 0 0 (mk_A am s.heap.size)) (F0 m 158 ls [.int t1, .int t0]) := by
  obtain ⟨hx, hb, hml, hown, hts, hr, hlocks⟩ := id C0
  intro x1 x3 t0 t1 hw H locs hW hS  ls hl
  refine lv_ior hx hb dX9_leaning_158 ?_
  refine lv_istore_n (lv' := [(2, .int (t0 ||| t1)), (0, .ref (am 38)), (1, .int x1), (3, .int x3)]) hx hb dX9_leaning_159 rfl hl (by decide) rfl (fun ls hl => ?_)
  refine lv_iinc (v := (x3 + 1)) (lv' := [(3, .int (x3 + 1)), (2, .int (t0 ||| t1)), (0, .ref (am 38)), (1, .int x1)]) hx hb dX9_leaning_160 hl (k := 3) rfl rfl (by decide) rfl (fun ls hl => ?_)
  refine lv_goto (tgt := 4) hx hb dX9_leaning_163 (by decide) ?_
  exact hk4 x1 (t0 ||| t1) (x3 + 1) hw _ _ hW hS  _ (lv_sub hl [2, 3, 1, 0] rfl)
set_option maxHeartbeats 4000000 in
set_option maxRecDepth 100000 in
theorem tJ_X9_leaning_132 {p : Program} {l : Launch} {e : Env} {s : State} {m : MethodId} {args : Array Value} {below : List Frame} {meth : Method} {c : Code} {D : va_G} {cI cZ cG cL : ClassId} {am : Nat → Nat} (C0 : gk_F p s m args meth c cX9_leaning 6 (some .int) RX9) (hK : gk_K D cI cZ cG cL s) {σ : gk_C} {Q : Int32 → Prop} {k4 : Int32 → Int32 → Int32 → Prop} (hk4 : ∀ (x1 : Int32) (x2 : Int32) (x3 : Int32), k4 x1 x2 x3 → ∀ (H : Heap) (locs : List Loc), mk_V D cI cZ am σ H → va_S (mk_A am s.heap.size) s.heap H locs → ∀ (ls : Array Slot), lv_has ls 6 [(0, .ref (am 38)), (1, .int x1), (2, .int x2), (3, .int x3)] → W p l e rmX9_leaning s m args below meth c H locs 0 0 (MQ below (va_Qi (fun r u => u = σ ∧ Q r) (mk_B (mk_V D cI cZ am)) (mk_A am s.heap.size)) args s 0 0 (mk_A am s.heap.size)) (F0 m 4 ls [])) : ∀ (x1 : Int32) (x2 : Int32) (x3 : Int32) (x4 : Int32), wJ_X9_leaning_132 σ k4 x1 x2 x3 x4 → ∀ (H : Heap) (locs : List Loc), mk_V D cI cZ am σ H → va_S (mk_A am s.heap.size) s.heap H locs → ∀ (ls : Array Slot), lv_has ls 6 [(0, .ref (am 38)), (1, .int x1), (2, .int x2), (3, .int x3), (4, .int x4)] → W p l e rmX9_leaning s m args below meth c H locs 0 0 (MQ below (va_Qi (fun r u => u = σ ∧ Q r) (mk_B (mk_V D cI cZ am)) (mk_A am s.heap.size)) args s 0 0 (mk_A am s.heap.size)) (F0 m 132 ls []) := by
  obtain ⟨hx, hb, hml, hown, hts, hr, hlocks⟩ := id C0
  intro x1 x2 x3 x4 hw H locs hW hS  ls hl
  refine lv_iload_n hx hb dX9_leaning_132 rfl (lv_at hl 2 rfl) ?_
  refine lv_iload hx hb dX9_leaning_133 (lv_at hl 4 rfl) ?_
  refine lv_if_eq (tgt := 157) hx hb dX9_leaning_135 (by decide) (fun c135 => ?_) (fun c135 => ?_)
  · have hw := hw.1 c135
    refine tJ_X9_leaning_157 C0 hK (hk158 := ?_) x1 x3 x2 hw _ _ hW hS  _ (lv_sub hl [0, 1, 3] rfl)
    · intro x1 x3 t0 t1 hw H locs hW hS  ls hl
      refine tJ_X9_leaning_158 C0 hK (hk4 := hk4) x1 x3 t0 t1 hw _ _ hW hS  _ hl
  · have hw := hw.2 c135
    refine lv_aload_n hx hb dX9_leaning_138 rfl (lv_at hl 0 rfl) ?_
    refine gk_get hx hb hts iwX9 hown hK.1 (mk_obj hW) rfl 32 (by decide) (hts _ fl_X9_84) (fun _ h9 => h9) rfl dX9_leaning_139 ?_
    refine lv_iload_n hx hb dX9_leaning_142 rfl (lv_at hl 3 rfl) ?_
    obtain ⟨hin, hw⟩ := hw
    refine gk_iald hx hb hK.1 0 (mk_arr hW (k := 32) (by decide) (by decide) (by decide)) rfl hin dX9_leaning_143 ?_
    refine lv_aload_n hx hb dX9_leaning_144 rfl (lv_at hl 0 rfl) ?_
    refine gk_get hx hb hts iwX9 hown hK.1 (mk_obj hW) rfl 1 (by decide) (hts _ fl_X9_174) (fun _ h9 => h9) rfl dX9_leaning_145 ?_
    refine lv_icmp_le (tgt := 157) hx hb dX9_leaning_148 (by decide) (fun c148 => ?_) (fun c148 => ?_)
    · have hw := hw.1 c148
      refine tJ_X9_leaning_157 C0 hK (hk158 := ?_) x1 x3 x2 hw _ _ hW hS  _ (lv_sub hl [0, 1, 3] rfl)
      · intro x1 x3 t0 t1 hw H locs hW hS  ls hl
        refine tJ_X9_leaning_158 C0 hK (hk4 := hk4) x1 x3 t0 t1 hw _ _ hW hS  _ hl
    · have hw := hw.2 c148
      refine lv_iconst (v := 1) hx hb dX9_leaning_151 (by decide) ?_
      refine lv_iload_n hx hb dX9_leaning_152 rfl (lv_at hl 3 rfl) ?_
      refine lv_ishl hx hb dX9_leaning_153 ?_
      refine lv_goto (tgt := 158) hx hb dX9_leaning_154 (by decide) ?_
      refine tJ_X9_leaning_158 C0 hK (hk4 := hk4) x1 x3 x2 (1 <<< (x3 &&& 31)) hw _ _ hW hS  _ (lv_sub hl [0, 1, 3] rfl)
set_option maxHeartbeats 4000000 in
set_option maxRecDepth 100000 in
theorem tL_X9_leaning_4 {p : Program} {l : Launch} {e : Env} {s : State} {m : MethodId} {args : Array Value} {below : List Frame} {meth : Method} {c : Code} {D : va_G} {cI cZ cG cL : ClassId} {am : Nat → Nat} (C0 : gk_F p s m args meth c cX9_leaning 6 (some .int) RX9) (hK : gk_K D cI cZ cG cL s) {σ : gk_C} {Q : Int32 → Prop} : ∀ (n : Nat) (x1 : Int32) (x2 : Int32) (x3 : Int32), wL_X9_leaning_4 σ Q n x1 x2 x3 → ∀ (H : Heap) (locs : List Loc), mk_V D cI cZ am σ H → va_S (mk_A am s.heap.size) s.heap H locs → ∀ (ls : Array Slot), lv_has ls 6 [(0, .ref (am 38)), (1, .int x1), (2, .int x2), (3, .int x3)] → W p l e rmX9_leaning s m args below meth c H locs 0 0 (MQ below (va_Qi (fun r u => u = σ ∧ Q r) (mk_B (mk_V D cI cZ am)) (mk_A am s.heap.size)) args s 0 0 (mk_A am s.heap.size)) (F0 m 4 ls []) := by
  obtain ⟨hx, hb, hml, hown, hts, hr, hlocks⟩ := id C0
  intro n
  induction n with
  | zero => exact fun _ _ _ hw => False.elim hw
  | succ n ih =>
    intro x1 x2 x3 hw H locs hW hS  ls hl
    refine lv_iload_n hx hb dX9_leaning_4 rfl (lv_at hl 3 rfl) ?_
    refine lv_aload_n hx hb dX9_leaning_5 rfl (lv_at hl 0 rfl) ?_
    refine gk_get hx hb hts iwX9 hown hK.1 (mk_obj hW) rfl 26 (by decide) (hts _ fl_X9_233) (fun _ h9 => h9) rfl dX9_leaning_6 ?_
    refine lv_icmp_ge (tgt := 166) hx hb dX9_leaning_9 (by decide) (fun c9 => ?_) (fun c9 => ?_)
    · have hw := hw.1 c9
      refine lv_iload_n hx hb dX9_leaning_166 rfl (lv_at hl 2 rfl) ?_
      refine W.widen (k := 0) (n := 0) (Nat.le_of_ble_eq_true rfl) (Nat.le_of_ble_eq_true rfl) ?_
      exact mk_reti C0 ⟨rfl, hw⟩ hW hS dX9_leaning_167
    · have hw := hw.2 c9
      refine lv_iload_n hx hb dX9_leaning_12 rfl (lv_at hl 1 rfl) ?_
      refine lv_iload_n hx hb dX9_leaning_13 rfl (lv_at hl 3 rfl) ?_
      refine lv_ishr hx hb dX9_leaning_14 ?_
      refine lv_iconst (v := 1) hx hb dX9_leaning_15 (by decide) ?_
      refine lv_iand hx hb dX9_leaning_16 ?_
      refine lv_if_eq (tgt := 24) hx hb dX9_leaning_17 (by decide) (fun c17 => ?_) (fun c17 => ?_)
      · have hw := hw.1 c17
        refine lv_iconst (v := 0) hx hb dX9_leaning_24 (by decide) ?_
        refine lv_istore (lv' := [(4, .int 0), (0, .ref (am 38)), (1, .int x1), (2, .int x2), (3, .int x3)]) hx hb dX9_leaning_25 hl (by decide) rfl (fun ls hl => ?_)
        refine lv_iconst (v := 0) hx hb dX9_leaning_27 (by decide) ?_
        refine lv_istore (lv' := [(5, .int 0), (4, .int 0), (0, .ref (am 38)), (1, .int x1), (2, .int x2), (3, .int x3)]) hx hb dX9_leaning_28 hl (by decide) rfl (fun ls hl => ?_)
        obtain ⟨n30, hw⟩ := hw
        refine tL_X9_leaning_30 C0 hK (hk132 := ?_) n30 x1 x2 x3 0 0 hw _ _ hW hS  _ (lv_sub hl [2, 3, 4, 5, 1, 0] rfl)
        · intro x1 x2 x3 x4 hw H locs hW hS  ls hl
          refine tJ_X9_leaning_132 C0 hK (hk4 := ih) x1 x2 x3 x4 hw _ _ hW hS  _ hl
      · have hw := hw.2 c17
        refine lv_iconst (v := 1) hx hb dX9_leaning_20 (by decide) ?_
        refine lv_goto (tgt := 25) hx hb dX9_leaning_21 (by decide) ?_
        refine lv_istore (lv' := [(4, .int 1), (0, .ref (am 38)), (1, .int x1), (2, .int x2), (3, .int x3)]) hx hb dX9_leaning_25 hl (by decide) rfl (fun ls hl => ?_)
        refine lv_iconst (v := 0) hx hb dX9_leaning_27 (by decide) ?_
        refine lv_istore (lv' := [(5, .int 0), (4, .int 1), (0, .ref (am 38)), (1, .int x1), (2, .int x2), (3, .int x3)]) hx hb dX9_leaning_28 hl (by decide) rfl (fun ls hl => ?_)
        obtain ⟨n30, hw⟩ := hw
        refine tL_X9_leaning_30 C0 hK (hk132 := ?_) n30 x1 x2 x3 1 0 hw _ _ hW hS  _ (lv_sub hl [2, 3, 4, 5, 1, 0] rfl)
        · intro x1 x2 x3 x4 hw H locs hW hS  ls hl
          refine tJ_X9_leaning_132 C0 hK (hk4 := ih) x1 x2 x3 x4 hw _ _ hW hS  _ hl
set_option maxHeartbeats 4000000 in
set_option maxRecDepth 100000 in
theorem c_X9_leaning (l : Launch) (D : va_G) (cI cZ cG cL : ClassId) (am : Nat → Nat) {σ : gk_C} {a0 : Int32} {Q : Int32 → Prop} {sz : Nat} (hw : w_X9_leaning σ a0 Q) : Met l yX9_leaning wsX9_leaning rmX9_leaning (mk_Pc (mk_V D cI cZ am) D cI cZ cG cL [.ref (am 38), .int a0] sz σ (fun _ => True)) (va_Qi (fun r u => u = σ ∧ Q r) (mk_B (mk_V D cI cZ am)) (mk_A am sz)) 0 0 (mk_A am sz) := by
  refine Met.ofW (cc := cX9_leaning) (maxL := 6) (ret := (some .int)) (by decide) rfl ?_
  intro p e s m args below meth c s₁ B hml0 hv0
  obtain ⟨rfl, hsz, hW, hK, hX⟩ := hv0
  subst hsz
  have C0 : gk_F p s m ([.ref (am 38), .int a0] : List Value).toArray meth c cX9_leaning 6 (some .int) RX9 := ⟨B.exec, B.bytes, hml0, findClass_of_methodNamed B.named, fun w hw => atoms_spec (ws := wsX9_leaning) B.pre w (List.mem_cons_of_mem _ hw), B.returns, B.notSynchronized⟩
  obtain ⟨hx, hb, hml, hown, hts, hr, hlocks⟩ := id C0
  have hS : va_S (mk_A am s.heap.size) s.heap s.heap [] := va_S.rf
  have hl := lv_entry ([.ref (am 38), .int a0]) (n := 6) (Nat.le_of_ble_eq_true rfl)
  rw [lg_entry_eq]
  generalize (lg_sl ([.ref (am 38), .int a0]) ++ List.replicate (6 - (lg_sl ([.ref (am 38), .int a0])).length) Slot.unset).toArray = ls at hl ⊢
  have hl : lv_has ls 6 [(0, .ref (am 38)), (1, .int a0)] := hl
  show W p l e rmX9_leaning s m _ below meth c s.heap [] 0 0 _ _
  refine lv_iconst (v := 0) hx hb dX9_leaning_0 (by decide) ?_
  refine lv_istore_n (lv' := [(2, .int 0), (0, .ref (am 38)), (1, .int a0)]) hx hb dX9_leaning_1 rfl hl (by decide) rfl (fun ls hl => ?_)
  refine lv_iconst (v := 0) hx hb dX9_leaning_2 (by decide) ?_
  refine lv_istore_n (lv' := [(3, .int 0), (2, .int 0), (0, .ref (am 38)), (1, .int a0)]) hx hb dX9_leaning_3 rfl hl (by decide) rfl (fun ls hl => ?_)
  obtain ⟨n4, hw⟩ := hw
  refine tL_X9_leaning_4 C0 hK  n4 a0 0 0 hw _ _ hW hS  _ (lv_sub hl [2, 3, 1, 0] rfl)
def wL_X9_granting_3 (σ : gk_C) (Q : Int32 → Prop) : Nat → Int32 → Int32 → Int32 → Int32 → Int32 → Prop
  | 0 => fun _ _ _ _ _ => False
  | n + 1 => fun x1 x2 x3 x4 x5 => ((((σ.2 26) ≤ x5) → (Q (-1))) ∧ ((¬ (σ.2 26) ≤ x5) → (((((x1 >>> (x5 &&& 31)) &&& 1) = 0) → (wL_X9_granting_3 σ Q n x1 x2 x3 x4 (x5 + 1))) ∧ ((¬ ((x1 >>> (x5 &&& 31)) &&& 1) = 0) → (vp_in x5 30 ∧ ((¬ (σ.1 28 x5.toNatClampNeg) = x2) → (wL_X9_granting_3 σ Q n x1 x2 x3 x4 (x5 + 1))) ∧ (((σ.1 28 x5.toNatClampNeg) = x2) → (vp_in x5 30 ∧ ((¬ (σ.1 29 x5.toNatClampNeg) = x3) → (wL_X9_granting_3 σ Q n x1 x2 x3 x4 (x5 + 1))) ∧ (((σ.1 29 x5.toNatClampNeg) = x3) → (vp_in x5 30 ∧ w_X9_farNow σ x4 (σ.1 30 x5.toNatClampNeg) (fun r53 => ((r53 = (-1)) → (wL_X9_granting_3 σ Q n x1 x2 x3 x4 (x5 + 1))) ∧ ((¬ r53 = (-1)) → (Q x5))))))))))))
def w_X9_granting (σ : gk_C) (a0 : Int32) (a1 : Int32) (a2 : Int32) (a3 : Int32) (Q : Int32 → Prop) : Prop := (∃ n3, wL_X9_granting_3 σ Q n3 a0 a1 a2 a3 0)
abbrev rmX9_granting : Room := { frames := 1, cells := 0, slots := 0, locals := 24 }
set_option maxHeartbeats 4000000 in
set_option maxRecDepth 100000 in
theorem tL_X9_granting_3 {p : Program} {l : Launch} {e : Env} {s : State} {m : MethodId} {args : Array Value} {below : List Frame} {meth : Method} {c : Code} {D : va_G} {cI cZ cG cL : ClassId} {am : Nat → Nat} (C0 : gk_F p s m args meth c cX9_granting 6 (some .int) RX9) (hK : gk_K D cI cZ cG cL s) {σ : gk_C} {Q : Int32 → Prop} : ∀ (n : Nat) (x1 : Int32) (x2 : Int32) (x3 : Int32) (x4 : Int32) (x5 : Int32), wL_X9_granting_3 σ Q n x1 x2 x3 x4 x5 → ∀ (H : Heap) (locs : List Loc), mk_V D cI cZ am σ H → va_S (mk_A am s.heap.size) s.heap H locs → ∀ (ls : Array Slot), lv_has ls 6 [(0, .ref (am 38)), (1, .int x1), (2, .int x2), (3, .int x3), (4, .int x4), (5, .int x5)] → W p l e rmX9_granting s m args below meth c H locs 0 0 (MQ below (va_Qi (fun r u => u = σ ∧ Q r) (mk_B (mk_V D cI cZ am)) (mk_A am s.heap.size)) args s 0 0 (mk_A am s.heap.size)) (F0 m 3 ls []) := by
  obtain ⟨hx, hb, hml, hown, hts, hr, hlocks⟩ := id C0
  intro n
  induction n with
  | zero => exact fun _ _ _ _ _ hw => False.elim hw
  | succ n ih =>
    intro x1 x2 x3 x4 x5 hw H locs hW hS  ls hl
    refine lv_iload hx hb dX9_granting_3 (lv_at hl 5 rfl) ?_
    refine lv_aload_n hx hb dX9_granting_5 rfl (lv_at hl 0 rfl) ?_
    refine gk_get hx hb hts iwX9 hown hK.1 (mk_obj hW) rfl 26 (by decide) (hts _ fl_X9_233) (fun _ h9 => h9) rfl dX9_granting_6 ?_
    refine lv_icmp_ge (tgt := 69) hx hb dX9_granting_9 (by decide) (fun c9 => ?_) (fun c9 => ?_)
    · have hw := hw.1 c9
      refine lv_iconst (v := (-1)) hx hb dX9_granting_69 (by decide) ?_
      refine W.widen (k := 0) (n := 0) (Nat.le_of_ble_eq_true rfl) (Nat.le_of_ble_eq_true rfl) ?_
      exact mk_reti C0 ⟨rfl, hw⟩ hW hS dX9_granting_70
    · have hw := hw.2 c9
      refine lv_iload_n hx hb dX9_granting_12 rfl (lv_at hl 1 rfl) ?_
      refine lv_iload hx hb dX9_granting_13 (lv_at hl 5 rfl) ?_
      refine lv_ishr hx hb dX9_granting_15 ?_
      refine lv_iconst (v := 1) hx hb dX9_granting_16 (by decide) ?_
      refine lv_iand hx hb dX9_granting_17 ?_
      refine lv_if_eq (tgt := 63) hx hb dX9_granting_18 (by decide) (fun c18 => ?_) (fun c18 => ?_)
      · have hw := hw.1 c18
        refine lv_iinc (v := (x5 + 1)) (lv' := [(5, .int (x5 + 1)), (0, .ref (am 38)), (1, .int x1), (2, .int x2), (3, .int x3), (4, .int x4)]) hx hb dX9_granting_63 hl (k := 5) rfl rfl (by decide) rfl (fun ls hl => ?_)
        refine lv_goto (tgt := 3) hx hb dX9_granting_66 (by decide) ?_
        exact ih x1 x2 x3 x4 (x5 + 1) hw _ _ hW hS  _ (lv_sub hl [1, 2, 3, 4, 5, 0] rfl)
      · have hw := hw.2 c18
        refine lv_aload_n hx hb dX9_granting_21 rfl (lv_at hl 0 rfl) ?_
        refine gk_get hx hb hts iwX9 hown hK.1 (mk_obj hW) rfl 28 (by decide) (hts _ fl_X9_72) (fun _ h9 => h9) rfl dX9_granting_22 ?_
        refine lv_iload hx hb dX9_granting_25 (lv_at hl 5 rfl) ?_
        obtain ⟨hin, hw⟩ := hw
        refine gk_iald hx hb hK.1 0 (mk_arr hW (k := 28) (by decide) (by decide) (by decide)) rfl hin dX9_granting_27 ?_
        refine lv_iload_n hx hb dX9_granting_28 rfl (lv_at hl 2 rfl) ?_
        refine lv_icmp_ne (tgt := 63) hx hb dX9_granting_29 (by decide) (fun c29 => ?_) (fun c29 => ?_)
        · have hw := hw.1 c29
          refine lv_iinc (v := (x5 + 1)) (lv' := [(5, .int (x5 + 1)), (0, .ref (am 38)), (1, .int x1), (2, .int x2), (3, .int x3), (4, .int x4)]) hx hb dX9_granting_63 hl (k := 5) rfl rfl (by decide) rfl (fun ls hl => ?_)
          refine lv_goto (tgt := 3) hx hb dX9_granting_66 (by decide) ?_
          exact ih x1 x2 x3 x4 (x5 + 1) hw _ _ hW hS  _ (lv_sub hl [1, 2, 3, 4, 5, 0] rfl)
        · have hw := hw.2 c29
          refine lv_aload_n hx hb dX9_granting_32 rfl (lv_at hl 0 rfl) ?_
          refine gk_get hx hb hts iwX9 hown hK.1 (mk_obj hW) rfl 29 (by decide) (hts _ fl_X9_75) (fun _ h9 => h9) rfl dX9_granting_33 ?_
          refine lv_iload hx hb dX9_granting_36 (lv_at hl 5 rfl) ?_
          obtain ⟨hin, hw⟩ := hw
          refine gk_iald hx hb hK.1 0 (mk_arr hW (k := 29) (by decide) (by decide) (by decide)) rfl hin dX9_granting_38 ?_
          refine lv_iload_n hx hb dX9_granting_39 rfl (lv_at hl 3 rfl) ?_
          refine lv_icmp_ne (tgt := 63) hx hb dX9_granting_40 (by decide) (fun c40 => ?_) (fun c40 => ?_)
          · have hw := hw.1 c40
            refine lv_iinc (v := (x5 + 1)) (lv' := [(5, .int (x5 + 1)), (0, .ref (am 38)), (1, .int x1), (2, .int x2), (3, .int x3), (4, .int x4)]) hx hb dX9_granting_63 hl (k := 5) rfl rfl (by decide) rfl (fun ls hl => ?_)
            refine lv_goto (tgt := 3) hx hb dX9_granting_66 (by decide) ?_
            exact ih x1 x2 x3 x4 (x5 + 1) hw _ _ hW hS  _ (lv_sub hl [1, 2, 3, 4, 5, 0] rfl)
          · have hw := hw.2 c40
            refine lv_aload_n hx hb dX9_granting_43 rfl (lv_at hl 0 rfl) ?_
            refine lv_iload hx hb dX9_granting_44 (lv_at hl 4 rfl) ?_
            refine lv_aload_n hx hb dX9_granting_46 rfl (lv_at hl 0 rfl) ?_
            refine gk_get hx hb hts iwX9 hown hK.1 (mk_obj hW) rfl 30 (by decide) (hts _ fl_X9_78) (fun _ h9 => h9) rfl dX9_granting_47 ?_
            refine lv_iload hx hb dX9_granting_50 (lv_at hl 5 rfl) ?_
            obtain ⟨hin, hw⟩ := hw
            refine gk_iald hx hb hK.1 0 (mk_arr hW (k := 30) (by decide) (by decide) (by decide)) rfl hin dX9_granting_52 ?_
            refine mk_callRi ⟨hx, hb, hml, hown, hts⟩ (c_X9_farNow l D cI cZ cG cL am hw) (cwV 2 hts (gk_gV ml_X9_161 im_X9_farNow se_X9_farNow in_X9 co_X9_farNow) rfl rfl rfl (by decide +kernel) ⟨Nat.le_of_ble_eq_true rfl, Nat.le_of_ble_eq_true rfl⟩) (gk_recv hK.1 (mk_obj hW) rfl) hW hK trivial hS rfl hl.1 (rest := []) rfl (lv_room (Nat.le_of_ble_eq_true rfl)) dX9_granting_53 ⟨Nat.le_of_ble_eq_true rfl, Nat.le_of_ble_eq_true rfl⟩ (fun r53 H locs hw hW _ hk hS => ?_)
            refine lv_iconst (v := (-1)) hx hb dX9_granting_56 (by decide) ?_
            refine lv_icmp_eq (tgt := 63) hx hb dX9_granting_57 (by decide) (fun c57 => ?_) (fun c57 => ?_)
            · have hw := hw.1 c57
              refine lv_iinc (v := (x5 + 1)) (lv' := [(5, .int (x5 + 1)), (0, .ref (am 38)), (1, .int x1), (2, .int x2), (3, .int x3), (4, .int x4)]) hx hb dX9_granting_63 hl (k := 5) rfl rfl (by decide) rfl (fun ls hl => ?_)
              refine lv_goto (tgt := 3) hx hb dX9_granting_66 (by decide) ?_
              exact ih x1 x2 x3 x4 (x5 + 1) hw _ _ hW hS  _ (lv_sub hl [1, 2, 3, 4, 5, 0] rfl)
            · have hw := hw.2 c57
              refine lv_iload hx hb dX9_granting_60 (lv_at hl 5 rfl) ?_
              refine W.widen (k := 0) (n := 0) (Nat.le_of_ble_eq_true rfl) (Nat.le_of_ble_eq_true rfl) ?_
              exact mk_reti C0 ⟨rfl, hw⟩ hW hS dX9_granting_62
set_option maxHeartbeats 4000000 in
set_option maxRecDepth 100000 in
theorem c_X9_granting (l : Launch) (D : va_G) (cI cZ cG cL : ClassId) (am : Nat → Nat) {σ : gk_C} {a0 : Int32} {a1 : Int32} {a2 : Int32} {a3 : Int32} {Q : Int32 → Prop} {sz : Nat} (hw : w_X9_granting σ a0 a1 a2 a3 Q) : Met l yX9_granting wsX9_granting rmX9_granting (mk_Pc (mk_V D cI cZ am) D cI cZ cG cL [.ref (am 38), .int a0, .int a1, .int a2, .int a3] sz σ (fun _ => True)) (va_Qi (fun r u => u = σ ∧ Q r) (mk_B (mk_V D cI cZ am)) (mk_A am sz)) 0 0 (mk_A am sz) := by
  refine Met.ofW (cc := cX9_granting) (maxL := 6) (ret := (some .int)) (by decide) rfl ?_
  intro p e s m args below meth c s₁ B hml0 hv0
  obtain ⟨rfl, hsz, hW, hK, hX⟩ := hv0
  subst hsz
  have C0 : gk_F p s m ([.ref (am 38), .int a0, .int a1, .int a2, .int a3] : List Value).toArray meth c cX9_granting 6 (some .int) RX9 := ⟨B.exec, B.bytes, hml0, findClass_of_methodNamed B.named, fun w hw => atoms_spec (ws := wsX9_granting) B.pre w (List.mem_cons_of_mem _ hw), B.returns, B.notSynchronized⟩
  obtain ⟨hx, hb, hml, hown, hts, hr, hlocks⟩ := id C0
  have hS : va_S (mk_A am s.heap.size) s.heap s.heap [] := va_S.rf
  have hl := lv_entry ([.ref (am 38), .int a0, .int a1, .int a2, .int a3]) (n := 6) (Nat.le_of_ble_eq_true rfl)
  rw [lg_entry_eq]
  generalize (lg_sl ([.ref (am 38), .int a0, .int a1, .int a2, .int a3]) ++ List.replicate (6 - (lg_sl ([.ref (am 38), .int a0, .int a1, .int a2, .int a3])).length) Slot.unset).toArray = ls at hl ⊢
  have hl : lv_has ls 6 [(0, .ref (am 38)), (1, .int a0), (2, .int a1), (3, .int a2), (4, .int a3)] := hl
  show W p l e rmX9_granting s m _ below meth c s.heap [] 0 0 _ _
  refine lv_iconst (v := 0) hx hb dX9_granting_0 (by decide) ?_
  refine lv_istore (lv' := [(5, .int 0), (0, .ref (am 38)), (1, .int a0), (2, .int a1), (3, .int a2), (4, .int a3)]) hx hb dX9_granting_1 hl (by decide) rfl (fun ls hl => ?_)
  obtain ⟨n3, hw⟩ := hw
  refine tL_X9_granting_3 C0 hK  n3 a0 a1 a2 a3 0 hw _ _ hW hS  _ (lv_sub hl [1, 2, 3, 4, 5, 0] rfl)
def w_X9_isFor (σ : gk_C) (a0 : Int32) (a1 : Int32) (fP2 : Nat → Int32) (Q : Int32 → Prop) : Prop := (vp_in a0 30 ∧ (((σ.1 19 a0.toNatClampNeg) < 12) → (vp_in a0 30 ∧ ((¬ (σ.1 19 a0.toNatClampNeg) = a1) → (Q 0)) ∧ (((σ.1 19 a0.toNatClampNeg) = a1) → (Q 1)))) ∧ ((¬ (σ.1 19 a0.toNatClampNeg) < 12) → (vp_in a0 30 ∧ vp_in ((σ.1 19 a0.toNatClampNeg) - 12) 12 ∧ ((99 ≤ (fP2 ((σ.1 19 a0.toNatClampNeg) - 12).toNatClampNeg)) → (Q 0)) ∧ ((¬ 99 ≤ (fP2 ((σ.1 19 a0.toNatClampNeg) - 12).toNatClampNeg)) → (Q 1)))))
abbrev rmX9_isFor : Room := { frames := 0, cells := 0, slots := 0, locals := 0 }
set_option maxHeartbeats 4000000 in
set_option maxRecDepth 100000 in
theorem c_X9_isFor (l : Launch) (D : va_G) (cI cZ cG cL : ClassId) (am : Nat → Nat) {σ : gk_C} {a0 : Int32} {a1 : Int32} {fP2 : Nat → Int32} {qP2 : Nat} {Q : Int32 → Prop} {sz : Nat} (hw : w_X9_isFor σ a0 a1 fP2 Q) : Met l yX9_isFor wsX9_isFor rmX9_isFor (mk_Pc (mk_V D cI cZ am) D cI cZ cG cL [.ref (am 38), .int a0, .int a1, .ref qP2] sz σ (fun H => mk_D D cI am qP2 12 fP2 H ∧ True)) (va_Qi (fun r u => u = σ ∧ Q r) (mk_B (mk_V D cI cZ am)) (mk_A am sz)) 0 0 (mk_A am sz) := by
  refine Met.ofW (cc := cX9_isFor) (maxL := 4) (ret := (some .boolean)) (by decide) rfl ?_
  intro p e s m args below meth c s₁ B hml0 hv0
  obtain ⟨rfl, hsz, hW, hK, hX⟩ := hv0
  subst hsz
  obtain ⟨hxP2, _⟩ := hX
  have C0 : gk_F p s m ([.ref (am 38), .int a0, .int a1, .ref qP2] : List Value).toArray meth c cX9_isFor 4 (some .boolean) RX9 := ⟨B.exec, B.bytes, hml0, findClass_of_methodNamed B.named, fun w hw => atoms_spec (ws := wsX9_isFor) B.pre w (List.mem_cons_of_mem _ hw), B.returns, B.notSynchronized⟩
  obtain ⟨hx, hb, hml, hown, hts, hr, hlocks⟩ := id C0
  have hS : va_S (mk_A am s.heap.size) s.heap s.heap [] := va_S.rf
  have hl := lv_entry ([.ref (am 38), .int a0, .int a1, .ref qP2]) (n := 4) (Nat.le_of_ble_eq_true rfl)
  rw [lg_entry_eq]
  generalize (lg_sl ([.ref (am 38), .int a0, .int a1, .ref qP2]) ++ List.replicate (4 - (lg_sl ([.ref (am 38), .int a0, .int a1, .ref qP2])).length) Slot.unset).toArray = ls at hl ⊢
  have hl : lv_has ls 4 [(0, .ref (am 38)), (1, .int a0), (2, .int a1), (3, .ref qP2)] := hl
  show W p l e rmX9_isFor s m _ below meth c s.heap [] 0 0 _ _
  refine lv_aload_n hx hb dX9_isFor_0 rfl (lv_at hl 0 rfl) ?_
  refine gk_get hx hb hts iwX9 hown hK.1 (mk_obj hW) rfl 19 (by decide) (hts _ fl_X9_48) (fun _ h9 => h9) rfl dX9_isFor_1 ?_
  refine lv_iload_n hx hb dX9_isFor_4 rfl (lv_at hl 1 rfl) ?_
  obtain ⟨hin, hw⟩ := hw
  refine gk_iald hx hb hK.1 0 (mk_arr hW (k := 19) (by decide) (by decide) (by decide)) rfl hin dX9_isFor_5 ?_
  refine lv_bipush (v := 12) hx hb dX9_isFor_6 (by decide) ?_
  refine lv_icmp_lt (tgt := 35) hx hb dX9_isFor_8 (by decide) (fun c8 => ?_) (fun c8 => ?_)
  · have hw := hw.1 c8
    refine lv_aload_n hx hb dX9_isFor_35 rfl (lv_at hl 0 rfl) ?_
    refine gk_get hx hb hts iwX9 hown hK.1 (mk_obj hW) rfl 19 (by decide) (hts _ fl_X9_48) (fun _ h9 => h9) rfl dX9_isFor_36 ?_
    refine lv_iload_n hx hb dX9_isFor_39 rfl (lv_at hl 1 rfl) ?_
    obtain ⟨hin, hw⟩ := hw
    refine gk_iald hx hb hK.1 0 (mk_arr hW (k := 19) (by decide) (by decide) (by decide)) rfl hin dX9_isFor_40 ?_
    refine lv_iload_n hx hb dX9_isFor_41 rfl (lv_at hl 2 rfl) ?_
    refine lv_icmp_ne (tgt := 49) hx hb dX9_isFor_42 (by decide) (fun c42 => ?_) (fun c42 => ?_)
    · have hw := hw.1 c42
      refine lv_iconst (v := 0) hx hb dX9_isFor_49 (by decide) ?_
      refine W.widen (k := 0) (n := 0) (Nat.le_of_ble_eq_true rfl) (Nat.le_of_ble_eq_true rfl) ?_
      exact mk_retz C0 (by decide) ⟨rfl, hw⟩ hW hS dX9_isFor_50
    · have hw := hw.2 c42
      refine lv_iconst (v := 1) hx hb dX9_isFor_45 (by decide) ?_
      refine lv_goto (tgt := 50) hx hb dX9_isFor_46 (by decide) ?_
      refine W.widen (k := 0) (n := 0) (Nat.le_of_ble_eq_true rfl) (Nat.le_of_ble_eq_true rfl) ?_
      exact mk_retz C0 (by decide) ⟨rfl, hw⟩ hW hS dX9_isFor_50
  · have hw := hw.2 c8
    refine lv_aload_n hx hb dX9_isFor_11 rfl (lv_at hl 3 rfl) ?_
    refine lv_aload_n hx hb dX9_isFor_12 rfl (lv_at hl 0 rfl) ?_
    refine gk_get hx hb hts iwX9 hown hK.1 (mk_obj hW) rfl 19 (by decide) (hts _ fl_X9_48) (fun _ h9 => h9) rfl dX9_isFor_13 ?_
    refine lv_iload_n hx hb dX9_isFor_16 rfl (lv_at hl 1 rfl) ?_
    obtain ⟨hin, hw⟩ := hw
    refine gk_iald hx hb hK.1 0 (mk_arr hW (k := 19) (by decide) (by decide) (by decide)) rfl hin dX9_isFor_17 ?_
    refine lv_bipush (v := 12) hx hb dX9_isFor_18 (by decide) ?_
    refine lv_isub hx hb dX9_isFor_20 ?_
    obtain ⟨hin, hw⟩ := hw
    refine gk_iald hx hb hK.1 0 (hxP2.S hS).1 rfl hin dX9_isFor_21 ?_
    refine lv_bipush (v := 99) hx hb dX9_isFor_22 (by decide) ?_
    refine lv_icmp_ge (tgt := 31) hx hb dX9_isFor_24 (by decide) (fun c24 => ?_) (fun c24 => ?_)
    · have hw := hw.1 c24
      refine lv_iconst (v := 0) hx hb dX9_isFor_31 (by decide) ?_
      refine lv_goto (tgt := 50) hx hb dX9_isFor_32 (by decide) ?_
      refine W.widen (k := 0) (n := 0) (Nat.le_of_ble_eq_true rfl) (Nat.le_of_ble_eq_true rfl) ?_
      exact mk_retz C0 (by decide) ⟨rfl, hw⟩ hW hS dX9_isFor_50
    · have hw := hw.2 c24
      refine lv_iconst (v := 1) hx hb dX9_isFor_27 (by decide) ?_
      refine lv_goto (tgt := 50) hx hb dX9_isFor_28 (by decide) ?_
      refine W.widen (k := 0) (n := 0) (Nat.le_of_ble_eq_true rfl) (Nat.le_of_ble_eq_true rfl) ?_
      exact mk_retz C0 (by decide) ⟨rfl, hw⟩ hW hS dX9_isFor_50
def wJ_X9_own_44 (σ : gk_C) (fP2 : Nat → Int32) (k45 : Int32 → Int32 → Int32 → Int32 → Int32 → Prop) (x1 : Int32) (x2 : Int32) (x5 : Int32) (t0 : Int32) : Prop := (k45 x1 x2 x5 t0 0)
def wJ_X9_own_45 (σ : gk_C) (fP2 : Nat → Int32) (k6 : Int32 → Int32 → Int32 → Int32 → Prop) (x1 : Int32) (x2 : Int32) (x5 : Int32) (t0 : Int32) (t1 : Int32) : Prop := (k6 x1 x2 (t0 ||| t1) (x5 + 1))
def wL_X9_own_6 (σ : gk_C) (fP2 : Nat → Int32) (Q : Int32 → Prop) : Nat → Int32 → Int32 → Int32 → Int32 → Prop
  | 0 => fun _ _ _ _ => False
  | n + 1 => fun x1 x2 x4 x5 => ((((σ.2 16) ≤ x5) → (Q x4)) ∧ ((¬ (σ.2 16) ≤ x5) → (((((x1 >>> (x5 &&& 31)) &&& 1) = 0) → (wJ_X9_own_44 σ fP2 (fun x1 x2 x5 t0 t1 => (wJ_X9_own_45 σ fP2 (fun x1 x2 x4 x5 => wL_X9_own_6 σ fP2 Q n x1 x2 x4 x5) x1 x2 x5 t0 t1)) x1 x2 x5 x4)) ∧ ((¬ ((x1 >>> (x5 &&& 31)) &&& 1) = 0) → (w_X9_isFor σ x5 x2 fP2 (fun r31 => ((r31 = 0) → (wJ_X9_own_44 σ fP2 (fun x1 x2 x5 t0 t1 => (wJ_X9_own_45 σ fP2 (fun x1 x2 x4 x5 => wL_X9_own_6 σ fP2 Q n x1 x2 x4 x5) x1 x2 x5 t0 t1)) x1 x2 x5 x4)) ∧ ((¬ r31 = 0) → (wJ_X9_own_45 σ fP2 (fun x1 x2 x4 x5 => wL_X9_own_6 σ fP2 Q n x1 x2 x4 x5) x1 x2 x5 x4 (1 <<< (x5 &&& 31))))))))))
def w_X9_own (σ : gk_C) (a0 : Int32) (a1 : Int32) (fP2 : Nat → Int32) (Q : Int32 → Prop) : Prop := (∃ n6, wL_X9_own_6 σ fP2 Q n6 a0 a1 0 0)
abbrev rmX9_own : Room := { frames := 1, cells := 0, slots := 0, locals := 23 }
set_option maxHeartbeats 4000000 in
set_option maxRecDepth 100000 in
theorem tJ_X9_own_44 {p : Program} {l : Launch} {e : Env} {s : State} {m : MethodId} {args : Array Value} {below : List Frame} {meth : Method} {c : Code} {D : va_G} {cI cZ cG cL : ClassId} {am : Nat → Nat} (C0 : gk_F p s m args meth c cX9_own 6 (some .int) RX9) (hK : gk_K D cI cZ cG cL s) {σ : gk_C} {fP2 : Nat → Int32} {qP2 : Nat} (hxP2 : mk_D D cI am qP2 12 fP2 s.heap) {Q : Int32 → Prop} {k45 : Int32 → Int32 → Int32 → Int32 → Int32 → Prop} (hk45 : ∀ (x1 : Int32) (x2 : Int32) (x5 : Int32) (t0 : Int32) (t1 : Int32), k45 x1 x2 x5 t0 t1 → ∀ (H : Heap) (locs : List Loc), mk_V D cI cZ am σ H → va_S (mk_A am s.heap.size) s.heap H locs → ∀ (ls : Array Slot), lv_has ls 6 [(0, .ref (am 38)), (1, .int x1), (2, .int x2), (3, .ref qP2), (5, .int x5)] → W p l e rmX9_own s m args below meth c H locs 0 0 (MQ below (va_Qi (fun r u => u = σ ∧ Q r) (mk_B (mk_V D cI cZ am)) (mk_A am s.heap.size)) args s 0 0 (mk_A am s.heap.size)) (F0 m 45 ls [.int t1, .int t0])) : ∀ (x1 : Int32) (x2 : Int32) (x5 : Int32) (t0 : Int32), wJ_X9_own_44 σ fP2 k45 x1 x2 x5 t0 → ∀ (H : Heap) (locs : List Loc), mk_V D cI cZ am σ H → va_S (mk_A am s.heap.size) s.heap H locs → ∀ (ls : Array Slot), lv_has ls 6 [(0, .ref (am 38)), (1, .int x1), (2, .int x2), (3, .ref qP2), (5, .int x5)] → W p l e rmX9_own s m args below meth c H locs 0 0 (MQ below (va_Qi (fun r u => u = σ ∧ Q r) (mk_B (mk_V D cI cZ am)) (mk_A am s.heap.size)) args s 0 0 (mk_A am s.heap.size)) (F0 m 44 ls [.int t0]) := by
  obtain ⟨hx, hb, hml, hown, hts, hr, hlocks⟩ := id C0
  intro x1 x2 x5 t0 hw H locs hW hS  ls hl
  refine lv_iconst (v := 0) hx hb dX9_own_44 (by decide) ?_
  exact hk45 x1 x2 x5 t0 0 hw _ _ hW hS  _ hl
set_option maxHeartbeats 4000000 in
set_option maxRecDepth 100000 in
theorem tJ_X9_own_45 {p : Program} {l : Launch} {e : Env} {s : State} {m : MethodId} {args : Array Value} {below : List Frame} {meth : Method} {c : Code} {D : va_G} {cI cZ cG cL : ClassId} {am : Nat → Nat} (C0 : gk_F p s m args meth c cX9_own 6 (some .int) RX9) (hK : gk_K D cI cZ cG cL s) {σ : gk_C} {fP2 : Nat → Int32} {qP2 : Nat} (hxP2 : mk_D D cI am qP2 12 fP2 s.heap) {Q : Int32 → Prop} {k6 : Int32 → Int32 → Int32 → Int32 → Prop} (hk6 : ∀ (x1 : Int32) (x2 : Int32) (x4 : Int32) (x5 : Int32), k6 x1 x2 x4 x5 → ∀ (H : Heap) (locs : List Loc), mk_V D cI cZ am σ H → va_S (mk_A am s.heap.size) s.heap H locs → ∀ (ls : Array Slot), lv_has ls 6 [(0, .ref (am 38)), (1, .int x1), (2, .int x2), (3, .ref qP2), (4, .int x4), (5, .int x5)] → W p l e rmX9_own s m args below meth c H locs 0 0 (MQ below (va_Qi (fun r u => u = σ ∧ Q r) (mk_B (mk_V D cI cZ am)) (mk_A am s.heap.size)) args s 0 0 (mk_A am s.heap.size)) (F0 m 6 ls [])) : ∀ (x1 : Int32) (x2 : Int32) (x5 : Int32) (t0 : Int32) (t1 : Int32), wJ_X9_own_45 σ fP2 k6 x1 x2 x5 t0 t1 → ∀ (H : Heap) (locs : List Loc), mk_V D cI cZ am σ H → va_S (mk_A am s.heap.size) s.heap H locs → ∀ (ls : Array Slot), lv_has ls 6 [(0, .ref (am 38)), (1, .int x1), (2, .int x2), (3, .ref qP2), (5, .int x5)] → W p l e rmX9_own s m args below meth c H locs 0 0 (MQ below (va_Qi (fun r u => u = σ ∧ Q r) (mk_B (mk_V D cI cZ am)) (mk_A am s.heap.size)) args s 0 0 (mk_A am s.heap.size)) (F0 m 45 ls [.int t1, .int t0]) := by
  obtain ⟨hx, hb, hml, hown, hts, hr, hlocks⟩ := id C0
  intro x1 x2 x5 t0 t1 hw H locs hW hS  ls hl
  refine lv_ior hx hb dX9_own_45 ?_
  refine lv_istore (lv' := [(4, .int (t0 ||| t1)), (0, .ref (am 38)), (1, .int x1), (2, .int x2), (3, .ref qP2), (5, .int x5)]) hx hb dX9_own_46 hl (by decide) rfl (fun ls hl => ?_)
  refine lv_iinc (v := (x5 + 1)) (lv' := [(5, .int (x5 + 1)), (4, .int (t0 ||| t1)), (0, .ref (am 38)), (1, .int x1), (2, .int x2), (3, .ref qP2)]) hx hb dX9_own_48 hl (k := 5) rfl rfl (by decide) rfl (fun ls hl => ?_)
  refine lv_goto (tgt := 6) hx hb dX9_own_51 (by decide) ?_
  exact hk6 x1 x2 (t0 ||| t1) (x5 + 1) hw _ _ hW hS  _ (lv_sub hl [2, 3, 4, 5, 1, 0] rfl)
set_option maxHeartbeats 4000000 in
set_option maxRecDepth 100000 in
theorem tL_X9_own_6 {p : Program} {l : Launch} {e : Env} {s : State} {m : MethodId} {args : Array Value} {below : List Frame} {meth : Method} {c : Code} {D : va_G} {cI cZ cG cL : ClassId} {am : Nat → Nat} (C0 : gk_F p s m args meth c cX9_own 6 (some .int) RX9) (hK : gk_K D cI cZ cG cL s) {σ : gk_C} {fP2 : Nat → Int32} {qP2 : Nat} (hxP2 : mk_D D cI am qP2 12 fP2 s.heap) {Q : Int32 → Prop} : ∀ (n : Nat) (x1 : Int32) (x2 : Int32) (x4 : Int32) (x5 : Int32), wL_X9_own_6 σ fP2 Q n x1 x2 x4 x5 → ∀ (H : Heap) (locs : List Loc), mk_V D cI cZ am σ H → va_S (mk_A am s.heap.size) s.heap H locs → ∀ (ls : Array Slot), lv_has ls 6 [(0, .ref (am 38)), (1, .int x1), (2, .int x2), (3, .ref qP2), (4, .int x4), (5, .int x5)] → W p l e rmX9_own s m args below meth c H locs 0 0 (MQ below (va_Qi (fun r u => u = σ ∧ Q r) (mk_B (mk_V D cI cZ am)) (mk_A am s.heap.size)) args s 0 0 (mk_A am s.heap.size)) (F0 m 6 ls []) := by
  obtain ⟨hx, hb, hml, hown, hts, hr, hlocks⟩ := id C0
  intro n
  induction n with
  | zero => exact fun _ _ _ _ hw => False.elim hw
  | succ n ih =>
    intro x1 x2 x4 x5 hw H locs hW hS  ls hl
    refine lv_iload hx hb dX9_own_6 (lv_at hl 5 rfl) ?_
    refine lv_aload_n hx hb dX9_own_8 rfl (lv_at hl 0 rfl) ?_
    refine gk_get hx hb hts iwX9 hown hK.1 (mk_obj hW) rfl 16 (by decide) (hts _ fl_X9_165) (fun _ h9 => h9) rfl dX9_own_9 ?_
    refine lv_icmp_ge (tgt := 54) hx hb dX9_own_12 (by decide) (fun c12 => ?_) (fun c12 => ?_)
    · have hw := hw.1 c12
      refine lv_iload hx hb dX9_own_54 (lv_at hl 4 rfl) ?_
      refine W.widen (k := 0) (n := 0) (Nat.le_of_ble_eq_true rfl) (Nat.le_of_ble_eq_true rfl) ?_
      exact mk_reti C0 ⟨rfl, hw⟩ hW hS dX9_own_56
    · have hw := hw.2 c12
      refine lv_iload hx hb dX9_own_15 (lv_at hl 4 rfl) ?_
      refine lv_iload_n hx hb dX9_own_17 rfl (lv_at hl 1 rfl) ?_
      refine lv_iload hx hb dX9_own_18 (lv_at hl 5 rfl) ?_
      refine lv_ishr hx hb dX9_own_20 ?_
      refine lv_iconst (v := 1) hx hb dX9_own_21 (by decide) ?_
      refine lv_iand hx hb dX9_own_22 ?_
      refine lv_if_eq (tgt := 44) hx hb dX9_own_23 (by decide) (fun c23 => ?_) (fun c23 => ?_)
      · have hw := hw.1 c23
        refine tJ_X9_own_44 C0 hK hxP2 (hk45 := ?_) x1 x2 x5 x4 hw _ _ hW hS  _ (lv_sub hl [0, 1, 2, 3, 5] rfl)
        · intro x1 x2 x5 t0 t1 hw H locs hW hS  ls hl
          refine tJ_X9_own_45 C0 hK hxP2 (hk6 := ih) x1 x2 x5 t0 t1 hw _ _ hW hS  _ hl
      · have hw := hw.2 c23
        refine lv_aload_n hx hb dX9_own_26 rfl (lv_at hl 0 rfl) ?_
        refine lv_iload hx hb dX9_own_27 (lv_at hl 5 rfl) ?_
        refine lv_iload_n hx hb dX9_own_29 rfl (lv_at hl 2 rfl) ?_
        refine lv_aload_n hx hb dX9_own_30 rfl (lv_at hl 3 rfl) ?_
        refine mk_callRi ⟨hx, hb, hml, hown, hts⟩ (c_X9_isFor l D cI cZ cG cL am hw) (cwV 3 hts (gk_gV ml_X9_184 im_X9_isFor se_X9_isFor in_X9 co_X9_isFor) rfl rfl rfl (by decide +kernel) ⟨Nat.le_of_ble_eq_true rfl, Nat.le_of_ble_eq_true rfl⟩) (gk_recv hK.1 (mk_obj hW) rfl) hW hK ⟨(hxP2.S hS), trivial⟩ hS rfl hl.1 (rest := [.int x4]) rfl (lv_room (Nat.le_of_ble_eq_true rfl)) dX9_own_31 ⟨Nat.le_of_ble_eq_true rfl, Nat.le_of_ble_eq_true rfl⟩ (fun r31 H locs hw hW _ hk hS => ?_)
        refine lv_if_eq (tgt := 44) hx hb dX9_own_34 (by decide) (fun c34 => ?_) (fun c34 => ?_)
        · have hw := hw.1 c34
          refine tJ_X9_own_44 C0 hK hxP2 (hk45 := ?_) x1 x2 x5 x4 hw _ _ hW hS  _ (lv_sub hl [0, 1, 2, 3, 5] rfl)
          · intro x1 x2 x5 t0 t1 hw H locs hW hS  ls hl
            refine tJ_X9_own_45 C0 hK hxP2 (hk6 := ih) x1 x2 x5 t0 t1 hw _ _ hW hS  _ hl
        · have hw := hw.2 c34
          refine lv_iconst (v := 1) hx hb dX9_own_37 (by decide) ?_
          refine lv_iload hx hb dX9_own_38 (lv_at hl 5 rfl) ?_
          refine lv_ishl hx hb dX9_own_40 ?_
          refine lv_goto (tgt := 45) hx hb dX9_own_41 (by decide) ?_
          refine tJ_X9_own_45 C0 hK hxP2 (hk6 := ih) x1 x2 x5 x4 (1 <<< (x5 &&& 31)) hw _ _ hW hS  _ (lv_sub hl [0, 1, 2, 3, 5] rfl)
set_option maxHeartbeats 4000000 in
set_option maxRecDepth 100000 in
theorem c_X9_own (l : Launch) (D : va_G) (cI cZ cG cL : ClassId) (am : Nat → Nat) {σ : gk_C} {a0 : Int32} {a1 : Int32} {fP2 : Nat → Int32} {qP2 : Nat} {Q : Int32 → Prop} {sz : Nat} (hw : w_X9_own σ a0 a1 fP2 Q) : Met l yX9_own wsX9_own rmX9_own (mk_Pc (mk_V D cI cZ am) D cI cZ cG cL [.ref (am 38), .int a0, .int a1, .ref qP2] sz σ (fun H => mk_D D cI am qP2 12 fP2 H ∧ True)) (va_Qi (fun r u => u = σ ∧ Q r) (mk_B (mk_V D cI cZ am)) (mk_A am sz)) 0 0 (mk_A am sz) := by
  refine Met.ofW (cc := cX9_own) (maxL := 6) (ret := (some .int)) (by decide) rfl ?_
  intro p e s m args below meth c s₁ B hml0 hv0
  obtain ⟨rfl, hsz, hW, hK, hX⟩ := hv0
  subst hsz
  obtain ⟨hxP2, _⟩ := hX
  have C0 : gk_F p s m ([.ref (am 38), .int a0, .int a1, .ref qP2] : List Value).toArray meth c cX9_own 6 (some .int) RX9 := ⟨B.exec, B.bytes, hml0, findClass_of_methodNamed B.named, fun w hw => atoms_spec (ws := wsX9_own) B.pre w (List.mem_cons_of_mem _ hw), B.returns, B.notSynchronized⟩
  obtain ⟨hx, hb, hml, hown, hts, hr, hlocks⟩ := id C0
  have hS : va_S (mk_A am s.heap.size) s.heap s.heap [] := va_S.rf
  have hl := lv_entry ([.ref (am 38), .int a0, .int a1, .ref qP2]) (n := 6) (Nat.le_of_ble_eq_true rfl)
  rw [lg_entry_eq]
  generalize (lg_sl ([.ref (am 38), .int a0, .int a1, .ref qP2]) ++ List.replicate (6 - (lg_sl ([.ref (am 38), .int a0, .int a1, .ref qP2])).length) Slot.unset).toArray = ls at hl ⊢
  have hl : lv_has ls 6 [(0, .ref (am 38)), (1, .int a0), (2, .int a1), (3, .ref qP2)] := hl
  show W p l e rmX9_own s m _ below meth c s.heap [] 0 0 _ _
  refine lv_iconst (v := 0) hx hb dX9_own_0 (by decide) ?_
  refine lv_istore (lv' := [(4, .int 0), (0, .ref (am 38)), (1, .int a0), (2, .int a1), (3, .ref qP2)]) hx hb dX9_own_1 hl (by decide) rfl (fun ls hl => ?_)
  refine lv_iconst (v := 0) hx hb dX9_own_3 (by decide) ?_
  refine lv_istore (lv' := [(5, .int 0), (4, .int 0), (0, .ref (am 38)), (1, .int a0), (2, .int a1), (3, .ref qP2)]) hx hb dX9_own_4 hl (by decide) rfl (fun ls hl => ?_)
  obtain ⟨n6, hw⟩ := hw
  refine tL_X9_own_6 C0 hK hxP2  n6 a0 a1 0 0 hw _ _ hW hS  _ (lv_sub hl [2, 3, 4, 5, 1, 0] rfl)
def w_X9_matching (σ : gk_C) (a0 : Int32) (fP1 : Nat → Int32) (a2 : Int32) (a3 : Int32) (Q : Int32 → Prop) : Prop := (w_X9_fitting σ a0 a2 a3 (fun r6 => w_X9_own σ r6 a0 fP1 (fun r11 => Q r11)))
abbrev rmX9_matching : Room := { frames := 3, cells := 0, slots := 0, locals := 70 }
set_option maxHeartbeats 4000000 in
set_option maxRecDepth 100000 in
theorem c_X9_matching (l : Launch) (D : va_G) (cI cZ cG cL : ClassId) (am : Nat → Nat) {σ : gk_C} {a0 : Int32} {fP1 : Nat → Int32} {a2 : Int32} {a3 : Int32} {qP1 : Nat} {Q : Int32 → Prop} {sz : Nat} (hw : w_X9_matching σ a0 fP1 a2 a3 Q) : Met l yX9_matching wsX9_matching rmX9_matching (mk_Pc (mk_V D cI cZ am) D cI cZ cG cL [.ref (am 38), .int a0, .ref qP1, .int a2, .int a3] sz σ (fun H => mk_D D cI am qP1 12 fP1 H ∧ True)) (va_Qi (fun r u => u = σ ∧ Q r) (mk_B (mk_V D cI cZ am)) (mk_A am sz)) 0 0 (mk_A am sz) := by
  refine Met.ofW (cc := cX9_matching) (maxL := 5) (ret := (some .int)) (by decide) rfl ?_
  intro p e s m args below meth c s₁ B hml0 hv0
  obtain ⟨rfl, hsz, hW, hK, hX⟩ := hv0
  subst hsz
  obtain ⟨hxP1, _⟩ := hX
  have C0 : gk_F p s m ([.ref (am 38), .int a0, .ref qP1, .int a2, .int a3] : List Value).toArray meth c cX9_matching 5 (some .int) RX9 := ⟨B.exec, B.bytes, hml0, findClass_of_methodNamed B.named, fun w hw => atoms_spec (ws := wsX9_matching) B.pre w (List.mem_cons_of_mem _ hw), B.returns, B.notSynchronized⟩
  obtain ⟨hx, hb, hml, hown, hts, hr, hlocks⟩ := id C0
  have hS : va_S (mk_A am s.heap.size) s.heap s.heap [] := va_S.rf
  have hl := lv_entry ([.ref (am 38), .int a0, .ref qP1, .int a2, .int a3]) (n := 5) (Nat.le_of_ble_eq_true rfl)
  rw [lg_entry_eq]
  generalize (lg_sl ([.ref (am 38), .int a0, .ref qP1, .int a2, .int a3]) ++ List.replicate (5 - (lg_sl ([.ref (am 38), .int a0, .ref qP1, .int a2, .int a3])).length) Slot.unset).toArray = ls at hl ⊢
  have hl : lv_has ls 5 [(0, .ref (am 38)), (1, .int a0), (2, .ref qP1), (3, .int a2), (4, .int a3)] := hl
  show W p l e rmX9_matching s m _ below meth c s.heap [] 0 0 _ _
  refine lv_aload_n hx hb dX9_matching_0 rfl (lv_at hl 0 rfl) ?_
  refine lv_aload_n hx hb dX9_matching_1 rfl (lv_at hl 0 rfl) ?_
  refine lv_iload_n hx hb dX9_matching_2 rfl (lv_at hl 1 rfl) ?_
  refine lv_iload_n hx hb dX9_matching_3 rfl (lv_at hl 3 rfl) ?_
  refine lv_iload hx hb dX9_matching_4 (lv_at hl 4 rfl) ?_
  refine mk_callRi ⟨hx, hb, hml, hown, hts⟩ (c_X9_fitting l D cI cZ cG cL am hw) (cwV 3 hts (gk_gV ml_X9_188 im_X9_fitting se_X9_fitting in_X9 co_X9_fitting) rfl rfl rfl (by decide +kernel) ⟨Nat.le_of_ble_eq_true rfl, Nat.le_of_ble_eq_true rfl⟩) (gk_recv hK.1 (mk_obj hW) rfl) hW hK trivial hS rfl hl.1 (rest := [.ref (am 38)]) rfl (lv_room (Nat.le_of_ble_eq_true rfl)) dX9_matching_6 ⟨Nat.le_of_ble_eq_true rfl, Nat.le_of_ble_eq_true rfl⟩ (fun r6 H locs hw hW _ hk hS => ?_)
  refine lv_iload_n hx hb dX9_matching_9 rfl (lv_at hl 1 rfl) ?_
  refine lv_aload_n hx hb dX9_matching_10 rfl (lv_at hl 2 rfl) ?_
  refine mk_callRi ⟨hx, hb, hml, hown, hts⟩ (c_X9_own l D cI cZ cG cL am hw) (cwV 3 hts (gk_gV ml_X9_192 im_X9_own se_X9_own in_X9 co_X9_own) rfl rfl rfl (by decide +kernel) ⟨Nat.le_of_ble_eq_true rfl, Nat.le_of_ble_eq_true rfl⟩) (gk_recv hK.1 (mk_obj hW) rfl) hW hK ⟨(hxP1.S hS), trivial⟩ hS rfl hl.1 (rest := []) rfl (lv_room (Nat.le_of_ble_eq_true rfl)) dX9_matching_11 ⟨Nat.le_of_ble_eq_true rfl, Nat.le_of_ble_eq_true rfl⟩ (fun r11 H locs hw hW _ hk hS => ?_)
  refine W.widen (k := 0) (n := 0) (Nat.le_of_ble_eq_true rfl) (Nat.le_of_ble_eq_true rfl) ?_
  exact mk_reti C0 ⟨rfl, hw⟩ hW hS dX9_matching_14
