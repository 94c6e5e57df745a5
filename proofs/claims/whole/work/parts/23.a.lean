/-! laid by wip/whole/model1.py: wp predicates and walks -/
def wL_X9_hasApart_8 (σ : gk_C) (Q : Int32 → Prop) : Nat → Int32 → Int32 → Prop
  | 0 => fun _ _ => False
  | n + 1 => fun x2 x3 => ((((σ.2 9) ≤ x3) → (Q 0)) ∧ ((¬ (σ.2 9) ≤ x3) → (vp_in x3 10 ∧ vp_in x3 10 ∧ ((¬ (x2 &&& (σ.1 10 x3.toNatClampNeg)) = (σ.1 10 x3.toNatClampNeg)) → (wL_X9_hasApart_8 σ Q n x2 (x3 + 1))) ∧ (((x2 &&& (σ.1 10 x3.toNatClampNeg)) = (σ.1 10 x3.toNatClampNeg)) → (Q 1)))))
def w_X9_hasApart (σ : gk_C) (a0 : Int32) (Q : Int32 → Prop) : Prop := (wv_X9_had σ a0 (fun r2 => ∃ n8, wL_X9_hasApart_8 σ Q n8 r2 0))
abbrev rmX9_hasApart : Room := { frames := 2, cells := 0, slots := 0, locals := 51 }
set_option maxHeartbeats 4000000 in
set_option maxRecDepth 100000 in
theorem tL_X9_hasApart_8 {p : Program} {l : Launch} {e : Env} {s : State} {m : MethodId} {args : Array Value} {below : List Frame} {meth : Method} {c : Code} {D : va_G} {cI cZ cG cL : ClassId} {am : Nat → Nat} (C0 : gk_F p s m args meth c cX9_hasApart 4 (some .boolean) RX9) (hK : gk_K D cI cZ cG cL s) {σ : gk_C} {Q : Int32 → Prop} : ∀ (n : Nat) (x2 : Int32) (x3 : Int32), wL_X9_hasApart_8 σ Q n x2 x3 → ∀ (H : Heap) (locs : List Loc), mk_V D cI cZ am σ H → va_S (mk_A am s.heap.size) s.heap H locs → ∀ (ls : Array Slot), lv_has ls 4 [(0, .ref (am 38)), (2, .int x2), (3, .int x3)] → W p l e rmX9_hasApart s m args below meth c H locs 0 0 (MQ below (va_Qi (fun r u => u = σ ∧ Q r) (mk_B (mk_V D cI cZ am)) (mk_A am s.heap.size)) args s 0 0 (mk_A am s.heap.size)) (F0 m 8 ls []) := by
  obtain ⟨hx, hb, hml, hown, hts, hr, hlocks⟩ := id C0
  intro n
  induction n with
  | zero => exact fun _ _ hw => False.elim hw
  | succ n ih =>
    intro x2 x3 hw H locs hW hS  ls hl
    refine lv_iload_n hx hb dX9_hasApart_8 rfl (lv_at hl 2 rfl) ?_
    refine lv_aload_n hx hb dX9_hasApart_9 rfl (lv_at hl 0 rfl) ?_
    refine gk_get hx hb hts iwX9 hown hK.1 (mk_obj hW) rfl 9 (by decide) (hts _ fl_X9_133) (fun _ h9 => h9) rfl dX9_hasApart_10 ?_
    refine lv_icmp_ge (tgt := 41) hx hb dX9_hasApart_13 (by decide) (fun c13 => ?_) (fun c13 => ?_)
    · have hw := hw.1 c13
      refine lv_iconst (v := 0) hx hb dX9_hasApart_41 (by decide) ?_
      refine W.widen (k := 0) (n := 0) (Nat.le_of_ble_eq_true rfl) (Nat.le_of_ble_eq_true rfl) ?_
      exact mk_retz C0 (by decide) ⟨rfl, hw⟩ hW hS dX9_hasApart_42
    · have hw := hw.2 c13
      refine lv_iload_n hx hb dX9_hasApart_16 rfl (lv_at hl 1 rfl) ?_
      refine lv_aload_n hx hb dX9_hasApart_17 rfl (lv_at hl 0 rfl) ?_
      refine gk_get hx hb hts iwX9 hown hK.1 (mk_obj hW) rfl 10 (by decide) (hts _ fl_X9_22) (fun _ h9 => h9) rfl dX9_hasApart_18 ?_
      refine lv_iload_n hx hb dX9_hasApart_21 rfl (lv_at hl 2 rfl) ?_
      obtain ⟨hin, hw⟩ := hw
      refine gk_iald hx hb hK.1 0 (mk_arr hW (k := 10) (by decide) (by decide) (by decide)) rfl hin dX9_hasApart_22 ?_
      refine lv_iand hx hb dX9_hasApart_23 ?_
      refine lv_aload_n hx hb dX9_hasApart_24 rfl (lv_at hl 0 rfl) ?_
      refine gk_get hx hb hts iwX9 hown hK.1 (mk_obj hW) rfl 10 (by decide) (hts _ fl_X9_22) (fun _ h9 => h9) rfl dX9_hasApart_25 ?_
      refine lv_iload_n hx hb dX9_hasApart_28 rfl (lv_at hl 2 rfl) ?_
      obtain ⟨hin, hw⟩ := hw
      refine gk_iald hx hb hK.1 0 (mk_arr hW (k := 10) (by decide) (by decide) (by decide)) rfl hin dX9_hasApart_29 ?_
      refine lv_icmp_ne (tgt := 35) hx hb dX9_hasApart_30 (by decide) (fun c30 => ?_) (fun c30 => ?_)
      · have hw := hw.1 c30
        refine lv_iinc (v := (x3 + 1)) (lv' := [(3, .int (x3 + 1)), (0, .ref (am 38)), (2, .int x2)]) hx hb dX9_hasApart_35 hl (k := 2) rfl rfl (by decide) rfl (fun ls hl => ?_)
        refine lv_goto (tgt := 8) hx hb dX9_hasApart_38 (by decide) ?_
        exact ih x2 (x3 + 1) hw _ _ hW hS  _ (lv_sub hl [1, 2, 0] rfl)
      · have hw := hw.2 c30
        refine lv_iconst (v := 1) hx hb dX9_hasApart_33 (by decide) ?_
        refine W.widen (k := 0) (n := 0) (Nat.le_of_ble_eq_true rfl) (Nat.le_of_ble_eq_true rfl) ?_
        exact mk_retz C0 (by decide) ⟨rfl, hw⟩ hW hS dX9_hasApart_34
set_option maxHeartbeats 4000000 in
set_option maxRecDepth 100000 in
theorem c_X9_hasApart (l : Launch) (D : va_G) (cI cZ cG cL : ClassId) (am : Nat → Nat) {σ : gk_C} {a0 : Int32} {Q : Int32 → Prop} {sz : Nat} (hw : w_X9_hasApart σ a0 Q) : Met l yX9_hasApart wsX9_hasApart rmX9_hasApart (mk_Pc (mk_V D cI cZ am) D cI cZ cG cL [.ref (am 38), .int a0] sz σ (fun _ => True)) (va_Qi (fun r u => u = σ ∧ Q r) (mk_B (mk_V D cI cZ am)) (mk_A am sz)) 0 0 (mk_A am sz) := by
  refine Met.ofW (cc := cX9_hasApart) (maxL := 4) (ret := (some .boolean)) (by decide) rfl ?_
  intro p e s m args below meth c s₁ B hml0 hv0
  obtain ⟨rfl, hsz, hW, hK, hX⟩ := hv0
  subst hsz
  have C0 : gk_F p s m ([.ref (am 38), .int a0] : List Value).toArray meth c cX9_hasApart 4 (some .boolean) RX9 := ⟨B.exec, B.bytes, hml0, findClass_of_methodNamed B.named, fun w hw => atoms_spec (ws := wsX9_hasApart) B.pre w (List.mem_cons_of_mem _ hw), B.returns, B.notSynchronized⟩
  obtain ⟨hx, hb, hml, hown, hts, hr, hlocks⟩ := id C0
  have hS : va_S (mk_A am s.heap.size) s.heap s.heap [] := va_S.rf
  have hl := lv_entry ([.ref (am 38), .int a0]) (n := 4) (Nat.le_of_ble_eq_true rfl)
  rw [lg_entry_eq]
  generalize (lg_sl ([.ref (am 38), .int a0]) ++ List.replicate (4 - (lg_sl ([.ref (am 38), .int a0])).length) Slot.unset).toArray = ls at hl ⊢
  have hl : lv_has ls 4 [(0, .ref (am 38)), (1, .int a0)] := hl
  show W p l e rmX9_hasApart s m _ below meth c s.heap [] 0 0 _ _
  refine lv_aload_n hx hb dX9_hasApart_0 rfl (lv_at hl 0 rfl) ?_
  refine lv_iload_n hx hb dX9_hasApart_1 rfl (lv_at hl 1 rfl) ?_
  refine mk_callRi ⟨hx, hb, hml, hown, hts⟩ (c_X9_hadV l D cI cZ cG cL am hw) (cwV 1 hts (gk_gV ml_X9_129 im_X9_had se_X9_had in_X9 co_X9_had) rfl rfl rfl (by decide +kernel) ⟨Nat.le_of_ble_eq_true rfl, Nat.le_of_ble_eq_true rfl⟩) (gk_recv hK.1 (mk_obj hW) rfl) hW hK trivial hS rfl hl.1 (rest := []) rfl (lv_room (Nat.le_of_ble_eq_true rfl)) dX9_hasApart_2 ⟨Nat.le_of_ble_eq_true rfl, Nat.le_of_ble_eq_true rfl⟩ (fun r2 H locs hw hW _ hk hS => ?_)
  refine lv_istore_n (lv' := [(2, .int r2), (0, .ref (am 38)), (1, .int a0)]) hx hb dX9_hasApart_5 rfl hl (by decide) rfl (fun ls hl => ?_)
  refine lv_iconst (v := 0) hx hb dX9_hasApart_6 (by decide) ?_
  refine lv_istore_n (lv' := [(3, .int 0), (2, .int r2), (0, .ref (am 38)), (1, .int a0)]) hx hb dX9_hasApart_7 rfl hl (by decide) rfl (fun ls hl => ?_)
  obtain ⟨n8, hw⟩ := hw
  refine tL_X9_hasApart_8 C0 hK  n8 r2 0 hw _ _ hW hS  _ (lv_sub hl [2, 1, 0] rfl)
def wL_X9_areAllRight_2 (σ : gk_C) (Q : Int32 → Prop) : Nat → Int32 → Prop
  | 0 => fun _ => False
  | n + 1 => fun x1 => ((((σ.2 3) ≤ x1) → (Q 1)) ∧ ((¬ (σ.2 3) ≤ x1) → (vp_in x1 12 ∧ w_X9_hasApart σ (σ.1 4 x1.toNatClampNeg) (fun r17 => ((r17 = 0) → (wL_X9_areAllRight_2 σ Q n (x1 + 1))) ∧ ((¬ r17 = 0) → (Q 0))))))
def w_X9_areAllRight (σ : gk_C)  (Q : Int32 → Prop) : Prop := (∃ n2, wL_X9_areAllRight_2 σ Q n2 0)
abbrev rmX9_areAllRight : Room := { frames := 3, cells := 0, slots := 0, locals := 74 }
set_option maxHeartbeats 4000000 in
set_option maxRecDepth 100000 in
theorem tL_X9_areAllRight_2 {p : Program} {l : Launch} {e : Env} {s : State} {m : MethodId} {args : Array Value} {below : List Frame} {meth : Method} {c : Code} {D : va_G} {cI cZ cG cL : ClassId} {am : Nat → Nat} (C0 : gk_F p s m args meth c cX9_areAllRight 2 (some .boolean) RX9) (hK : gk_K D cI cZ cG cL s) {σ : gk_C} {Q : Int32 → Prop} : ∀ (n : Nat) (x1 : Int32), wL_X9_areAllRight_2 σ Q n x1 → ∀ (H : Heap) (locs : List Loc), mk_V D cI cZ am σ H → va_S (mk_A am s.heap.size) s.heap H locs → ∀ (ls : Array Slot), lv_has ls 2 [(0, .ref (am 38)), (1, .int x1)] → W p l e rmX9_areAllRight s m args below meth c H locs 0 0 (MQ below (va_Qi (fun r u => u = σ ∧ Q r) (mk_B (mk_V D cI cZ am)) (mk_A am s.heap.size)) args s 0 0 (mk_A am s.heap.size)) (F0 m 2 ls []) := by
  obtain ⟨hx, hb, hml, hown, hts, hr, hlocks⟩ := id C0
  intro n
  induction n with
  | zero => exact fun _ hw => False.elim hw
  | succ n ih =>
    intro x1 hw H locs hW hS  ls hl
    refine lv_iload_n hx hb dX9_areAllRight_2 rfl (lv_at hl 1 rfl) ?_
    refine lv_aload_n hx hb dX9_areAllRight_3 rfl (lv_at hl 0 rfl) ?_
    refine gk_get hx hb hts iwX9 hown hK.1 (mk_obj hW) rfl 3 (by decide) (hts _ fl_X9_105) (fun _ h9 => h9) rfl dX9_areAllRight_4 ?_
    refine lv_icmp_ge (tgt := 31) hx hb dX9_areAllRight_7 (by decide) (fun c7 => ?_) (fun c7 => ?_)
    · have hw := hw.1 c7
      refine lv_iconst (v := 1) hx hb dX9_areAllRight_31 (by decide) ?_
      refine W.widen (k := 0) (n := 0) (Nat.le_of_ble_eq_true rfl) (Nat.le_of_ble_eq_true rfl) ?_
      exact mk_retz C0 (by decide) ⟨rfl, hw⟩ hW hS dX9_areAllRight_32
    · have hw := hw.2 c7
      refine lv_aload_n hx hb dX9_areAllRight_10 rfl (lv_at hl 0 rfl) ?_
      refine lv_aload_n hx hb dX9_areAllRight_11 rfl (lv_at hl 0 rfl) ?_
      refine gk_get hx hb hts iwX9 hown hK.1 (mk_obj hW) rfl 4 (by decide) (hts _ fl_X9_9) (fun _ h9 => h9) rfl dX9_areAllRight_12 ?_
      refine lv_iload_n hx hb dX9_areAllRight_15 rfl (lv_at hl 1 rfl) ?_
      obtain ⟨hin, hw⟩ := hw
      refine gk_iald hx hb hK.1 0 (mk_arr hW (k := 4) (by decide) (by decide) (by decide)) rfl hin dX9_areAllRight_16 ?_
      refine mk_callRi ⟨hx, hb, hml, hown, hts⟩ (c_X9_hasApart l D cI cZ cG cL am hw) (cwV 1 hts (gk_gV ml_X9_136 im_X9_hasApart se_X9_hasApart in_X9 co_X9_hasApart) rfl rfl rfl (by decide +kernel) ⟨Nat.le_of_ble_eq_true rfl, Nat.le_of_ble_eq_true rfl⟩) (gk_recv hK.1 (mk_obj hW) rfl) hW hK trivial hS rfl hl.1 (rest := []) rfl (lv_room (Nat.le_of_ble_eq_true rfl)) dX9_areAllRight_17 ⟨Nat.le_of_ble_eq_true rfl, Nat.le_of_ble_eq_true rfl⟩ (fun r17 H locs hw hW _ hk hS => ?_)
      refine lv_if_eq (tgt := 25) hx hb dX9_areAllRight_20 (by decide) (fun c20 => ?_) (fun c20 => ?_)
      · have hw := hw.1 c20
        refine lv_iinc (v := (x1 + 1)) (lv' := [(1, .int (x1 + 1)), (0, .ref (am 38))]) hx hb dX9_areAllRight_25 hl (k := 1) rfl rfl (by decide) rfl (fun ls hl => ?_)
        refine lv_goto (tgt := 2) hx hb dX9_areAllRight_28 (by decide) ?_
        exact ih (x1 + 1) hw _ _ hW hS  _ (lv_sub hl [1, 0] rfl)
      · have hw := hw.2 c20
        refine lv_iconst (v := 0) hx hb dX9_areAllRight_23 (by decide) ?_
        refine W.widen (k := 0) (n := 0) (Nat.le_of_ble_eq_true rfl) (Nat.le_of_ble_eq_true rfl) ?_
        exact mk_retz C0 (by decide) ⟨rfl, hw⟩ hW hS dX9_areAllRight_24
set_option maxHeartbeats 4000000 in
set_option maxRecDepth 100000 in
theorem c_X9_areAllRight (l : Launch) (D : va_G) (cI cZ cG cL : ClassId) (am : Nat → Nat) {σ : gk_C} {Q : Int32 → Prop} {sz : Nat} (hw : w_X9_areAllRight σ  Q) : Met l yX9_areAllRight wsX9_areAllRight rmX9_areAllRight (mk_Pc (mk_V D cI cZ am) D cI cZ cG cL [.ref (am 38)] sz σ (fun _ => True)) (va_Qi (fun r u => u = σ ∧ Q r) (mk_B (mk_V D cI cZ am)) (mk_A am sz)) 0 0 (mk_A am sz) := by
  refine Met.ofW (cc := cX9_areAllRight) (maxL := 2) (ret := (some .boolean)) (by decide) rfl ?_
  intro p e s m args below meth c s₁ B hml0 hv0
  obtain ⟨rfl, hsz, hW, hK, hX⟩ := hv0
  subst hsz
  have C0 : gk_F p s m ([.ref (am 38)] : List Value).toArray meth c cX9_areAllRight 2 (some .boolean) RX9 := ⟨B.exec, B.bytes, hml0, findClass_of_methodNamed B.named, fun w hw => atoms_spec (ws := wsX9_areAllRight) B.pre w (List.mem_cons_of_mem _ hw), B.returns, B.notSynchronized⟩
  obtain ⟨hx, hb, hml, hown, hts, hr, hlocks⟩ := id C0
  have hS : va_S (mk_A am s.heap.size) s.heap s.heap [] := va_S.rf
  have hl := lv_entry ([.ref (am 38)]) (n := 2) (Nat.le_of_ble_eq_true rfl)
  rw [lg_entry_eq]
  generalize (lg_sl ([.ref (am 38)]) ++ List.replicate (2 - (lg_sl ([.ref (am 38)])).length) Slot.unset).toArray = ls at hl ⊢
  have hl : lv_has ls 2 [(0, .ref (am 38))] := hl
  show W p l e rmX9_areAllRight s m _ below meth c s.heap [] 0 0 _ _
  refine lv_iconst (v := 0) hx hb dX9_areAllRight_0 (by decide) ?_
  refine lv_istore_n (lv' := [(1, .int 0), (0, .ref (am 38))]) hx hb dX9_areAllRight_1 rfl hl (by decide) rfl (fun ls hl => ?_)
  obtain ⟨n2, hw⟩ := hw
  refine tL_X9_areAllRight_2 C0 hK  n2 0 hw _ _ hW hS  _ (lv_sub hl [1, 0] rfl)
def wJ_X9_setRole_21 (Q : Int32 → gk_C → Prop) (σ : gk_C) : Prop := (w_X9_isNot σ 1 (fun r23 σ23 => gk_z r23 ∧ Q r23 σ23))
def wJ_X9_setRole_97 (Q : Int32 → gk_C → Prop) (σ : gk_C) (x1 : Int32) (x4 : Int32) (x5 : Int32) : Prop := (vp_in x1 12 ∧ ∀ σ104 : gk_C, σ104 = mk_st σ 4 x1 x5 → gk_z x4 ∧ Q x4 σ104)
def wJ_X9_setRole_76 (Q : Int32 → gk_C → Prop) (σ : gk_C) (x1 : Int32) (x3 : Int32) (x4 : Int32) (t0 : Int32) : Prop := (((x3 = 0) → (wJ_X9_setRole_97 Q σ x1 x4 t0)) ∧ ((¬ x3 = 0) → (w_X9_hasApart σ t0 (fun r85 => ((r85 = 0) → (wJ_X9_setRole_97 Q σ x1 x4 t0)) ∧ ((¬ r85 = 0) → (w_X9_isNot σ 2 (fun r93 σ93 => gk_z r93 ∧ Q r93 σ93)))))))
def wJ_X9_setRole_45 (Q : Int32 → gk_C → Prop) (σ : gk_C) (x1 : Int32) (x2 : Int32) (x3 : Int32) (t0 : Int32) : Prop := (((x3 = 0) → (vp_in x1 12 ∧ wJ_X9_setRole_76 Q σ x1 x3 t0 ((σ.1 4 x1.toNatClampNeg) &&& ((1 <<< (x2 &&& 31)) ^^^ (-1))))) ∧ ((¬ x3 = 0) → (vp_in x1 12 ∧ wJ_X9_setRole_76 Q σ x1 x3 t0 ((σ.1 4 x1.toNatClampNeg) ||| (1 <<< (x2 &&& 31))))))
def w_X9_setRole (σ : gk_C) (a0 : Int32) (a1 : Int32) (a2 : Int32) (Q : Int32 → gk_C → Prop) : Prop := (w_X9_isUser (gk_s σ 0 0) a0 (fun r7 => ((r7 = 0) → (wJ_X9_setRole_21 Q (gk_s σ 0 0))) ∧ ((¬ r7 = 0) → (w_X9_isRole (gk_s σ 0 0) a1 (fun r15 => ((¬ r15 = 0) → (vp_in a0 12 ∧ ((((((gk_s σ 0 0).1 4 a0.toNatClampNeg) >>> (a1 &&& 31)) &&& 1) = 0) → (wJ_X9_setRole_45 Q (gk_s σ 0 0) a0 a1 a2 0)) ∧ ((¬ ((((gk_s σ 0 0).1 4 a0.toNatClampNeg) >>> (a1 &&& 31)) &&& 1) = 0) → (wJ_X9_setRole_45 Q (gk_s σ 0 0) a0 a1 a2 1)))) ∧ ((r15 = 0) → (wJ_X9_setRole_21 Q (gk_s σ 0 0))))))))
abbrev rmX9_setRole : Room := { frames := 3, cells := 0, slots := 0, locals := 74 }
set_option maxHeartbeats 4000000 in
set_option maxRecDepth 100000 in
theorem tJ_X9_setRole_21 {p : Program} {l : Launch} {e : Env} {s : State} {m : MethodId} {args : Array Value} {below : List Frame} {meth : Method} {c : Code} {D : va_G} {cI cZ cG cL : ClassId} {am : Nat → Nat} (C0 : gk_F p s m args meth c cX9_setRole 6 (some .boolean) RX9) (hK : gk_K D cI cZ cG cL s) {Q : Int32 → gk_C → Prop} : ∀ (σ : gk_C), wJ_X9_setRole_21 Q σ → ∀ (H : Heap) (locs : List Loc), mk_V D cI cZ am σ H → va_S (mk_A am s.heap.size) s.heap H locs → ∀ (ls : Array Slot), lv_has ls 6 [(0, .ref (am 38))] → W p l e rmX9_setRole s m args below meth c H locs 0 0 (MQ below (va_Qi (fun r u => Q r u) (mk_B (mk_V D cI cZ am)) (mk_A am s.heap.size)) args s 0 0 (mk_A am s.heap.size)) (F0 m 21 ls []) := by
  obtain ⟨hx, hb, hml, hown, hts, hr, hlocks⟩ := id C0
  intro σ hw H locs hW hS  ls hl
  refine lv_aload_n hx hb dX9_setRole_21 rfl (lv_at hl 0 rfl) ?_
  refine lv_iconst (v := 1) hx hb dX9_setRole_22 (by decide) ?_
  refine mk_callVi ⟨hx, hb, hml, hown, hts⟩ (c_X9_isNot l D cI cZ cG cL am hw) (cwV 1 hts (gk_gV ml_X9_145 im_X9_isNot se_X9_isNot in_X9 co_X9_isNot) rfl rfl rfl (by decide +kernel) ⟨Nat.le_of_ble_eq_true rfl, Nat.le_of_ble_eq_true rfl⟩) (gk_recv hK.1 (mk_obj hW) rfl) hW hK trivial hS rfl hl.1 (rest := []) rfl (lv_room (Nat.le_of_ble_eq_true rfl)) dX9_setRole_23 ⟨Nat.le_of_ble_eq_true rfl, Nat.le_of_ble_eq_true rfl⟩ (fun r23 σ23 H locs hw hW _ hk hS => ?_)
  refine W.widen (k := 0) (n := 0) (Nat.le_of_ble_eq_true rfl) (Nat.le_of_ble_eq_true rfl) ?_
  obtain ⟨hz, hw⟩ := hw
  exact mk_retz C0 hz hw hW hS dX9_setRole_26
set_option maxHeartbeats 4000000 in
set_option maxRecDepth 100000 in
theorem tJ_X9_setRole_97 {p : Program} {l : Launch} {e : Env} {s : State} {m : MethodId} {args : Array Value} {below : List Frame} {meth : Method} {c : Code} {D : va_G} {cI cZ cG cL : ClassId} {am : Nat → Nat} (C0 : gk_F p s m args meth c cX9_setRole 6 (some .boolean) RX9) (hK : gk_K D cI cZ cG cL s) {Q : Int32 → gk_C → Prop} : ∀ (σ : gk_C) (x1 : Int32) (x4 : Int32) (x5 : Int32), wJ_X9_setRole_97 Q σ x1 x4 x5 → ∀ (H : Heap) (locs : List Loc), mk_V D cI cZ am σ H → va_S (mk_A am s.heap.size) s.heap H locs → ∀ (ls : Array Slot), lv_has ls 6 [(0, .ref (am 38)), (1, .int x1), (4, .int x4), (5, .int x5)] → W p l e rmX9_setRole s m args below meth c H locs 0 0 (MQ below (va_Qi (fun r u => Q r u) (mk_B (mk_V D cI cZ am)) (mk_A am s.heap.size)) args s 0 0 (mk_A am s.heap.size)) (F0 m 97 ls []) := by
  obtain ⟨hx, hb, hml, hown, hts, hr, hlocks⟩ := id C0
  intro σ x1 x4 x5 hw H locs hW hS  ls hl
  refine lv_aload_n hx hb dX9_setRole_97 rfl (lv_at hl 0 rfl) ?_
  refine gk_get hx hb hts iwX9 hown hK.1 (mk_obj hW) rfl 4 (by decide) (hts _ fl_X9_9) (fun _ h9 => h9) rfl dX9_setRole_98 ?_
  refine lv_iload_n hx hb dX9_setRole_101 rfl (lv_at hl 1 rfl) ?_
  refine lv_iload hx hb dX9_setRole_102 (lv_at hl 3 rfl) ?_
  obtain ⟨hin, hw⟩ := hw
  refine gk_iast hx hb hK.1 hS (mk_A.in (k := 4) (by decide)) 0 (mk_arr hW (k := 4) (by decide) (by decide) (by decide)) rfl hin dX9_setRole_104 (fun H locs h1 _ oq hS => ?_)
  have hW := hW.setR (k := 4) (by decide) (by decide) (by decide) h1 oq
  obtain ⟨σ104, eσ104⟩ : ∃ z, z = mk_st σ 4 x1 x5 := ⟨_, rfl⟩
  have hW := mk_stW (Wd := mk_V D cI cZ am) eσ104 hW
  have hw := hw σ104 eσ104
  refine lv_iload hx hb dX9_setRole_105 (lv_at hl 2 rfl) ?_
  refine W.widen (k := 0) (n := 0) (Nat.le_of_ble_eq_true rfl) (Nat.le_of_ble_eq_true rfl) ?_
  obtain ⟨hz, hw⟩ := hw
  exact mk_retz C0 hz hw hW hS dX9_setRole_107
set_option maxHeartbeats 4000000 in
set_option maxRecDepth 100000 in
theorem tJ_X9_setRole_76 {p : Program} {l : Launch} {e : Env} {s : State} {m : MethodId} {args : Array Value} {below : List Frame} {meth : Method} {c : Code} {D : va_G} {cI cZ cG cL : ClassId} {am : Nat → Nat} (C0 : gk_F p s m args meth c cX9_setRole 6 (some .boolean) RX9) (hK : gk_K D cI cZ cG cL s) {Q : Int32 → gk_C → Prop} : ∀ (σ : gk_C) (x1 : Int32) (x3 : Int32) (x4 : Int32) (t0 : Int32), wJ_X9_setRole_76 Q σ x1 x3 x4 t0 → ∀ (H : Heap) (locs : List Loc), mk_V D cI cZ am σ H → va_S (mk_A am s.heap.size) s.heap H locs → ∀ (ls : Array Slot), lv_has ls 6 [(0, .ref (am 38)), (1, .int x1), (3, .int x3), (4, .int x4)] → W p l e rmX9_setRole s m args below meth c H locs 0 0 (MQ below (va_Qi (fun r u => Q r u) (mk_B (mk_V D cI cZ am)) (mk_A am s.heap.size)) args s 0 0 (mk_A am s.heap.size)) (F0 m 76 ls [.int t0]) := by
  obtain ⟨hx, hb, hml, hown, hts, hr, hlocks⟩ := id C0
  intro σ x1 x3 x4 t0 hw H locs hW hS  ls hl
  refine lv_istore (lv' := [(5, .int t0), (0, .ref (am 38)), (1, .int x1), (3, .int x3), (4, .int x4)]) hx hb dX9_setRole_76 hl (by decide) rfl (fun ls hl => ?_)
  refine lv_iload_n hx hb dX9_setRole_78 rfl (lv_at hl 3 rfl) ?_
  refine lv_if_eq (tgt := 97) hx hb dX9_setRole_79 (by decide) (fun c79 => ?_) (fun c79 => ?_)
  · have hw := hw.1 c79
    refine tJ_X9_setRole_97 C0 hK  σ x1 x4 t0 hw _ _ hW hS  _ (lv_sub hl [1, 2, 4, 0] rfl)
  · have hw := hw.2 c79
    refine lv_aload_n hx hb dX9_setRole_82 rfl (lv_at hl 1 rfl) ?_
    refine lv_iload hx hb dX9_setRole_83 (lv_at hl 0 rfl) ?_
    refine mk_callRi ⟨hx, hb, hml, hown, hts⟩ (c_X9_hasApart l D cI cZ cG cL am hw) (cwV 1 hts (gk_gV ml_X9_136 im_X9_hasApart se_X9_hasApart in_X9 co_X9_hasApart) rfl rfl rfl (by decide +kernel) ⟨Nat.le_of_ble_eq_true rfl, Nat.le_of_ble_eq_true rfl⟩) (gk_recv hK.1 (mk_obj hW) rfl) hW hK trivial hS rfl hl.1 (rest := []) rfl (lv_room (Nat.le_of_ble_eq_true rfl)) dX9_setRole_85 ⟨Nat.le_of_ble_eq_true rfl, Nat.le_of_ble_eq_true rfl⟩ (fun r85 H locs hw hW _ hk hS => ?_)
    refine lv_if_eq (tgt := 97) hx hb dX9_setRole_88 (by decide) (fun c88 => ?_) (fun c88 => ?_)
    · have hw := hw.1 c88
      refine tJ_X9_setRole_97 C0 hK  σ x1 x4 t0 hw _ _ hW hS  _ (lv_sub hl [1, 2, 4, 0] rfl)
    · have hw := hw.2 c88
      refine lv_aload_n hx hb dX9_setRole_91 rfl (lv_at hl 1 rfl) ?_
      refine lv_iconst (v := 2) hx hb dX9_setRole_92 (by decide) ?_
      refine mk_callVi ⟨hx, hb, hml, hown, hts⟩ (c_X9_isNot l D cI cZ cG cL am hw) (cwV 1 hts (gk_gV ml_X9_145 im_X9_isNot se_X9_isNot in_X9 co_X9_isNot) rfl rfl rfl (by decide +kernel) ⟨Nat.le_of_ble_eq_true rfl, Nat.le_of_ble_eq_true rfl⟩) (gk_recv hK.1 (mk_obj hW) rfl) hW hK trivial hS rfl hl.1 (rest := []) rfl (lv_room (Nat.le_of_ble_eq_true rfl)) dX9_setRole_93 ⟨Nat.le_of_ble_eq_true rfl, Nat.le_of_ble_eq_true rfl⟩ (fun r93 σ93 H locs hw hW _ hk hS => ?_)
      refine W.widen (k := 0) (n := 0) (Nat.le_of_ble_eq_true rfl) (Nat.le_of_ble_eq_true rfl) ?_
      obtain ⟨hz, hw⟩ := hw
      exact mk_retz C0 hz hw hW hS dX9_setRole_96
set_option maxHeartbeats 4000000 in
set_option maxRecDepth 100000 in
theorem tJ_X9_setRole_45 {p : Program} {l : Launch} {e : Env} {s : State} {m : MethodId} {args : Array Value} {below : List Frame} {meth : Method} {c : Code} {D : va_G} {cI cZ cG cL : ClassId} {am : Nat → Nat} (C0 : gk_F p s m args meth c cX9_setRole 6 (some .boolean) RX9) (hK : gk_K D cI cZ cG cL s) {Q : Int32 → gk_C → Prop} : ∀ (σ : gk_C) (x1 : Int32) (x2 : Int32) (x3 : Int32) (t0 : Int32), wJ_X9_setRole_45 Q σ x1 x2 x3 t0 → ∀ (H : Heap) (locs : List Loc), mk_V D cI cZ am σ H → va_S (mk_A am s.heap.size) s.heap H locs → ∀ (ls : Array Slot), lv_has ls 6 [(0, .ref (am 38)), (1, .int x1), (2, .int x2), (3, .int x3)] → W p l e rmX9_setRole s m args below meth c H locs 0 0 (MQ below (va_Qi (fun r u => Q r u) (mk_B (mk_V D cI cZ am)) (mk_A am s.heap.size)) args s 0 0 (mk_A am s.heap.size)) (F0 m 45 ls [.int t0]) := by
  obtain ⟨hx, hb, hml, hown, hts, hr, hlocks⟩ := id C0
  intro σ x1 x2 x3 t0 hw H locs hW hS  ls hl
  refine lv_istore (lv' := [(4, .int t0), (0, .ref (am 38)), (1, .int x1), (2, .int x2), (3, .int x3)]) hx hb dX9_setRole_45 hl (by decide) rfl (fun ls hl => ?_)
  refine lv_iload_n hx hb dX9_setRole_47 rfl (lv_at hl 4 rfl) ?_
  refine lv_if_eq (tgt := 64) hx hb dX9_setRole_48 (by decide) (fun c48 => ?_) (fun c48 => ?_)
  · have hw := hw.1 c48
    refine lv_aload_n hx hb dX9_setRole_64 rfl (lv_at hl 1 rfl) ?_
    refine gk_get hx hb hts iwX9 hown hK.1 (mk_obj hW) rfl 4 (by decide) (hts _ fl_X9_9) (fun _ h9 => h9) rfl dX9_setRole_65 ?_
    refine lv_iload_n hx hb dX9_setRole_68 rfl (lv_at hl 2 rfl) ?_
    obtain ⟨hin, hw⟩ := hw
    refine gk_iald hx hb hK.1 0 (mk_arr hW (k := 4) (by decide) (by decide) (by decide)) rfl hin dX9_setRole_69 ?_
    refine lv_iconst (v := 1) hx hb dX9_setRole_70 (by decide) ?_
    refine lv_iload_n hx hb dX9_setRole_71 rfl (lv_at hl 3 rfl) ?_
    refine lv_ishl hx hb dX9_setRole_72 ?_
    refine lv_iconst (v := (-1)) hx hb dX9_setRole_73 (by decide) ?_
    refine lv_ixor hx hb dX9_setRole_74 ?_
    refine lv_iand hx hb dX9_setRole_75 ?_
    refine tJ_X9_setRole_76 C0 hK  σ x1 x3 t0 ((σ.1 4 x1.toNatClampNeg) &&& ((1 <<< (x2 &&& 31)) ^^^ (-1))) hw _ _ hW hS  _ (lv_sub hl [1, 2, 4, 0] rfl)
  · have hw := hw.2 c48
    refine lv_aload_n hx hb dX9_setRole_51 rfl (lv_at hl 1 rfl) ?_
    refine gk_get hx hb hts iwX9 hown hK.1 (mk_obj hW) rfl 4 (by decide) (hts _ fl_X9_9) (fun _ h9 => h9) rfl dX9_setRole_52 ?_
    refine lv_iload_n hx hb dX9_setRole_55 rfl (lv_at hl 2 rfl) ?_
    obtain ⟨hin, hw⟩ := hw
    refine gk_iald hx hb hK.1 0 (mk_arr hW (k := 4) (by decide) (by decide) (by decide)) rfl hin dX9_setRole_56 ?_
    refine lv_iconst (v := 1) hx hb dX9_setRole_57 (by decide) ?_
    refine lv_iload_n hx hb dX9_setRole_58 rfl (lv_at hl 3 rfl) ?_
    refine lv_ishl hx hb dX9_setRole_59 ?_
    refine lv_ior hx hb dX9_setRole_60 ?_
    refine lv_goto (tgt := 76) hx hb dX9_setRole_61 (by decide) ?_
    refine tJ_X9_setRole_76 C0 hK  σ x1 x3 t0 ((σ.1 4 x1.toNatClampNeg) ||| (1 <<< (x2 &&& 31))) hw _ _ hW hS  _ (lv_sub hl [1, 2, 4, 0] rfl)
set_option maxHeartbeats 4000000 in
set_option maxRecDepth 100000 in
theorem c_X9_setRole (l : Launch) (D : va_G) (cI cZ cG cL : ClassId) (am : Nat → Nat) {σ : gk_C} {a0 : Int32} {a1 : Int32} {a2 : Int32} {Q : Int32 → gk_C → Prop} {sz : Nat} (hw : w_X9_setRole σ a0 a1 a2 Q) : Met l yX9_setRole wsX9_setRole rmX9_setRole (mk_Pc (mk_V D cI cZ am) D cI cZ cG cL [.ref (am 38), .int a0, .int a1, .int a2] sz σ (fun _ => True)) (va_Qi (fun r u => Q r u) (mk_B (mk_V D cI cZ am)) (mk_A am sz)) 0 0 (mk_A am sz) := by
  refine Met.ofW (cc := cX9_setRole) (maxL := 6) (ret := (some .boolean)) (by decide) rfl ?_
  intro p e s m args below meth c s₁ B hml0 hv0
  obtain ⟨rfl, hsz, hW, hK, hX⟩ := hv0
  subst hsz
  have C0 : gk_F p s m ([.ref (am 38), .int a0, .int a1, .int a2] : List Value).toArray meth c cX9_setRole 6 (some .boolean) RX9 := ⟨B.exec, B.bytes, hml0, findClass_of_methodNamed B.named, fun w hw => atoms_spec (ws := wsX9_setRole) B.pre w (List.mem_cons_of_mem _ hw), B.returns, B.notSynchronized⟩
  obtain ⟨hx, hb, hml, hown, hts, hr, hlocks⟩ := id C0
  have hS : va_S (mk_A am s.heap.size) s.heap s.heap [] := va_S.rf
  have hl := lv_entry ([.ref (am 38), .int a0, .int a1, .int a2]) (n := 6) (Nat.le_of_ble_eq_true rfl)
  rw [lg_entry_eq]
  generalize (lg_sl ([.ref (am 38), .int a0, .int a1, .int a2]) ++ List.replicate (6 - (lg_sl ([.ref (am 38), .int a0, .int a1, .int a2])).length) Slot.unset).toArray = ls at hl ⊢
  have hl : lv_has ls 6 [(0, .ref (am 38)), (1, .int a0), (2, .int a1), (3, .int a2)] := hl
  show W p l e rmX9_setRole s m _ below meth c s.heap [] 0 0 _ _
  refine lv_aload_n hx hb dX9_setRole_0 rfl (lv_at hl 0 rfl) ?_
  refine lv_iconst (v := 0) hx hb dX9_setRole_1 (by decide) ?_
  refine gk_putf (ty := .int) (v := .int 0) hx hb hts iwX9 tyX9 tyX9_ok nmX9 hown hK.1 hS (mk_A.in List.mem_cons_self) (mk_obj hW) rfl 0 (by decide) (hts _ fl_X9_102) (fun _ h9 => h9) rfl (by decide +kernel) rfl rfl (Nat.le_of_ble_eq_true rfl) dX9_setRole_2 (fun H locs h1 _ oq hS => ?_)
  have hW := hW.setS (i := 0) (v := 0) h1 oq
  refine lv_aload_n hx hb dX9_setRole_5 rfl (lv_at hl 0 rfl) ?_
  refine lv_iload_n hx hb dX9_setRole_6 rfl (lv_at hl 1 rfl) ?_
  refine mk_callRi ⟨hx, hb, hml, hown, hts⟩ (c_X9_isUser l D cI cZ cG cL am hw) (cwV 1 hts (gk_gV ml_X9_115 im_X9_isUser se_X9_isUser in_X9 co_X9_isUser) rfl rfl rfl (by decide +kernel) ⟨Nat.le_of_ble_eq_true rfl, Nat.le_of_ble_eq_true rfl⟩) (gk_recv hK.1 (mk_obj hW) rfl) hW hK trivial hS rfl hl.1 (rest := []) rfl (lv_room (Nat.le_of_ble_eq_true rfl)) dX9_setRole_7 ⟨Nat.le_of_ble_eq_true rfl, Nat.le_of_ble_eq_true rfl⟩ (fun r7 H locs hw hW _ hk hS => ?_)
  refine lv_if_eq (tgt := 21) hx hb dX9_setRole_10 (by decide) (fun c10 => ?_) (fun c10 => ?_)
  · have hw := hw.1 c10
    refine tJ_X9_setRole_21 C0 hK  (gk_s σ 0 0) hw _ _ hW hS  _ (lv_sub hl [0] rfl)
  · have hw := hw.2 c10
    refine lv_aload_n hx hb dX9_setRole_13 rfl (lv_at hl 0 rfl) ?_
    refine lv_iload_n hx hb dX9_setRole_14 rfl (lv_at hl 2 rfl) ?_
    refine mk_callRi ⟨hx, hb, hml, hown, hts⟩ (c_X9_isRole l D cI cZ cG cL am hw) (cwV 1 hts (gk_gV ml_X9_142 im_X9_isRole se_X9_isRole in_X9 co_X9_isRole) rfl rfl rfl (by decide +kernel) ⟨Nat.le_of_ble_eq_true rfl, Nat.le_of_ble_eq_true rfl⟩) (gk_recv hK.1 (mk_obj hW) rfl) hW hK trivial hS rfl hl.1 (rest := []) rfl (lv_room (Nat.le_of_ble_eq_true rfl)) dX9_setRole_15 ⟨Nat.le_of_ble_eq_true rfl, Nat.le_of_ble_eq_true rfl⟩ (fun r15 H locs hw hW _ hk hS => ?_)
    refine lv_if_ne (tgt := 27) hx hb dX9_setRole_18 (by decide) (fun c18 => ?_) (fun c18 => ?_)
    · have hw := hw.1 c18
      refine lv_aload_n hx hb dX9_setRole_27 rfl (lv_at hl 0 rfl) ?_
      refine gk_get hx hb hts iwX9 hown hK.1 (mk_obj hW) rfl 4 (by decide) (hts _ fl_X9_9) (fun _ h9 => h9) rfl dX9_setRole_28 ?_
      refine lv_iload_n hx hb dX9_setRole_31 rfl (lv_at hl 1 rfl) ?_
      obtain ⟨hin, hw⟩ := hw
      refine gk_iald hx hb hK.1 0 (mk_arr hW (k := 4) (by decide) (by decide) (by decide)) rfl hin dX9_setRole_32 ?_
      refine lv_iload_n hx hb dX9_setRole_33 rfl (lv_at hl 2 rfl) ?_
      refine lv_ishr hx hb dX9_setRole_34 ?_
      refine lv_iconst (v := 1) hx hb dX9_setRole_35 (by decide) ?_
      refine lv_iand hx hb dX9_setRole_36 ?_
      refine lv_if_eq (tgt := 44) hx hb dX9_setRole_37 (by decide) (fun c37 => ?_) (fun c37 => ?_)
      · have hw := hw.1 c37
        refine lv_iconst (v := 0) hx hb dX9_setRole_44 (by decide) ?_
        refine tJ_X9_setRole_45 C0 hK  (gk_s σ 0 0) a0 a1 a2 0 hw _ _ hW hS  _ hl
      · have hw := hw.2 c37
        refine lv_iconst (v := 1) hx hb dX9_setRole_40 (by decide) ?_
        refine lv_goto (tgt := 45) hx hb dX9_setRole_41 (by decide) ?_
        refine tJ_X9_setRole_45 C0 hK  (gk_s σ 0 0) a0 a1 a2 1 hw _ _ hW hS  _ hl
    · have hw := hw.2 c18
      refine tJ_X9_setRole_21 C0 hK  (gk_s σ 0 0) hw _ _ hW hS  _ (lv_sub hl [0] rfl)
def wJ_X9_setHolds_21 (Q : Int32 → gk_C → Prop) (σ : gk_C) : Prop := (w_X9_isNot σ 1 (fun r23 σ23 => gk_z r23 ∧ Q r23 σ23))
def wJ_X9_setHolds_50 (Q : Int32 → gk_C → Prop) (σ : gk_C) : Prop := (w_X9_isNot σ 2 (fun r52 σ52 => gk_z r52 ∧ Q r52 σ52))
def wJ_X9_setHolds_110 (Q : Int32 → gk_C → Prop) (σ : gk_C) (x1 : Int32) (x3 : Int32) (x4 : Int32) (x5 : Int32) (t1 : Int32) (t2 : Int32) : Prop := (vp_in t1 12 ∧ ∀ σ110 : gk_C, σ110 = mk_st σ 8 t1 t2 → ((x3 = 0) → (gk_z x4 ∧ Q x4 σ110)) ∧ ((¬ x3 = 0) → (w_X9_areAllRight σ110 (fun r116 => ((¬ r116 = 0) → (gk_z x4 ∧ Q x4 σ110)) ∧ ((r116 = 0) → (vp_in x1 12 ∧ ∀ σ129 : gk_C, σ129 = mk_st σ110 8 x1 x5 → w_X9_isNot σ129 3 (fun r132 σ132 => gk_z r132 ∧ Q r132 σ132)))))))
def wJ_X9_setHolds_74 (Q : Int32 → gk_C → Prop) (σ : gk_C) (x1 : Int32) (x2 : Int32) (x3 : Int32) (t0 : Int32) : Prop := (vp_in x1 12 ∧ ((x3 = 0) → (wJ_X9_setHolds_110 Q σ x1 x3 t0 (σ.1 8 x1.toNatClampNeg) x1 ((σ.1 8 x1.toNatClampNeg) &&& ((1 <<< (x2 &&& 31)) ^^^ (-1))))) ∧ ((¬ x3 = 0) → (wJ_X9_setHolds_110 Q σ x1 x3 t0 (σ.1 8 x1.toNatClampNeg) x1 ((σ.1 8 x1.toNatClampNeg) ||| (1 <<< (x2 &&& 31))))))
def wJ_X9_setHolds_56 (Q : Int32 → gk_C → Prop) (σ : gk_C) (x1 : Int32) (x2 : Int32) (x3 : Int32) : Prop := (vp_in x1 12 ∧ (((((σ.1 8 x1.toNatClampNeg) >>> (x2 &&& 31)) &&& 1) = 0) → (wJ_X9_setHolds_74 Q σ x1 x2 x3 0)) ∧ ((¬ (((σ.1 8 x1.toNatClampNeg) >>> (x2 &&& 31)) &&& 1) = 0) → (wJ_X9_setHolds_74 Q σ x1 x2 x3 1)))
def w_X9_setHolds (σ : gk_C) (a0 : Int32) (a1 : Int32) (a2 : Int32) (Q : Int32 → gk_C → Prop) : Prop := (w_X9_isRole (gk_s σ 0 0) a0 (fun r7 => ((r7 = 0) → (wJ_X9_setHolds_21 Q (gk_s σ 0 0))) ∧ ((¬ r7 = 0) → (w_X9_isRole (gk_s σ 0 0) a1 (fun r15 => ((¬ r15 = 0) → (((a0 = a1) → (wJ_X9_setHolds_50 Q (gk_s σ 0 0))) ∧ ((¬ a0 = a1) → (((a2 = 0) → (wJ_X9_setHolds_56 Q (gk_s σ 0 0) a0 a1 a2)) ∧ ((¬ a2 = 0) → (wv_X9_had (gk_s σ 0 0) (1 <<< (a1 &&& 31)) (fun r40 => ((((r40 >>> (a0 &&& 31)) &&& 1) = 0) → (wJ_X9_setHolds_56 Q (gk_s σ 0 0) a0 a1 a2)) ∧ ((¬ ((r40 >>> (a0 &&& 31)) &&& 1) = 0) → (wJ_X9_setHolds_50 Q (gk_s σ 0 0)))))))))) ∧ ((r15 = 0) → (wJ_X9_setHolds_21 Q (gk_s σ 0 0))))))))
abbrev rmX9_setHolds : Room := { frames := 4, cells := 0, slots := 0, locals := 95 }
set_option maxHeartbeats 4000000 in
set_option maxRecDepth 100000 in
theorem tJ_X9_setHolds_21 {p : Program} {l : Launch} {e : Env} {s : State} {m : MethodId} {args : Array Value} {below : List Frame} {meth : Method} {c : Code} {D : va_G} {cI cZ cG cL : ClassId} {am : Nat → Nat} (C0 : gk_F p s m args meth c cX9_setHolds 6 (some .boolean) RX9) (hK : gk_K D cI cZ cG cL s) {Q : Int32 → gk_C → Prop} : ∀ (σ : gk_C), wJ_X9_setHolds_21 Q σ → ∀ (H : Heap) (locs : List Loc), mk_V D cI cZ am σ H → va_S (mk_A am s.heap.size) s.heap H locs → ∀ (ls : Array Slot), lv_has ls 6 [(0, .ref (am 38))] → W p l e rmX9_setHolds s m args below meth c H locs 0 0 (MQ below (va_Qi (fun r u => Q r u) (mk_B (mk_V D cI cZ am)) (mk_A am s.heap.size)) args s 0 0 (mk_A am s.heap.size)) (F0 m 21 ls []) := by
  obtain ⟨hx, hb, hml, hown, hts, hr, hlocks⟩ := id C0
  intro σ hw H locs hW hS  ls hl
  refine lv_aload_n hx hb dX9_setHolds_21 rfl (lv_at hl 0 rfl) ?_
  refine lv_iconst (v := 1) hx hb dX9_setHolds_22 (by decide) ?_
  refine mk_callVi ⟨hx, hb, hml, hown, hts⟩ (c_X9_isNot l D cI cZ cG cL am hw) (cwV 1 hts (gk_gV ml_X9_145 im_X9_isNot se_X9_isNot in_X9 co_X9_isNot) rfl rfl rfl (by decide +kernel) ⟨Nat.le_of_ble_eq_true rfl, Nat.le_of_ble_eq_true rfl⟩) (gk_recv hK.1 (mk_obj hW) rfl) hW hK trivial hS rfl hl.1 (rest := []) rfl (lv_room (Nat.le_of_ble_eq_true rfl)) dX9_setHolds_23 ⟨Nat.le_of_ble_eq_true rfl, Nat.le_of_ble_eq_true rfl⟩ (fun r23 σ23 H locs hw hW _ hk hS => ?_)
  refine W.widen (k := 0) (n := 0) (Nat.le_of_ble_eq_true rfl) (Nat.le_of_ble_eq_true rfl) ?_
  obtain ⟨hz, hw⟩ := hw
  exact mk_retz C0 hz hw hW hS dX9_setHolds_26
set_option maxHeartbeats 4000000 in
set_option maxRecDepth 100000 in
theorem tJ_X9_setHolds_50 {p : Program} {l : Launch} {e : Env} {s : State} {m : MethodId} {args : Array Value} {below : List Frame} {meth : Method} {c : Code} {D : va_G} {cI cZ cG cL : ClassId} {am : Nat → Nat} (C0 : gk_F p s m args meth c cX9_setHolds 6 (some .boolean) RX9) (hK : gk_K D cI cZ cG cL s) {Q : Int32 → gk_C → Prop} : ∀ (σ : gk_C), wJ_X9_setHolds_50 Q σ → ∀ (H : Heap) (locs : List Loc), mk_V D cI cZ am σ H → va_S (mk_A am s.heap.size) s.heap H locs → ∀ (ls : Array Slot), lv_has ls 6 [(0, .ref (am 38))] → W p l e rmX9_setHolds s m args below meth c H locs 0 0 (MQ below (va_Qi (fun r u => Q r u) (mk_B (mk_V D cI cZ am)) (mk_A am s.heap.size)) args s 0 0 (mk_A am s.heap.size)) (F0 m 50 ls []) := by
  obtain ⟨hx, hb, hml, hown, hts, hr, hlocks⟩ := id C0
  intro σ hw H locs hW hS  ls hl
  refine lv_aload_n hx hb dX9_setHolds_50 rfl (lv_at hl 0 rfl) ?_
  refine lv_iconst (v := 2) hx hb dX9_setHolds_51 (by decide) ?_
  refine mk_callVi ⟨hx, hb, hml, hown, hts⟩ (c_X9_isNot l D cI cZ cG cL am hw) (cwV 1 hts (gk_gV ml_X9_145 im_X9_isNot se_X9_isNot in_X9 co_X9_isNot) rfl rfl rfl (by decide +kernel) ⟨Nat.le_of_ble_eq_true rfl, Nat.le_of_ble_eq_true rfl⟩) (gk_recv hK.1 (mk_obj hW) rfl) hW hK trivial hS rfl hl.1 (rest := []) rfl (lv_room (Nat.le_of_ble_eq_true rfl)) dX9_setHolds_52 ⟨Nat.le_of_ble_eq_true rfl, Nat.le_of_ble_eq_true rfl⟩ (fun r52 σ52 H locs hw hW _ hk hS => ?_)
  refine W.widen (k := 0) (n := 0) (Nat.le_of_ble_eq_true rfl) (Nat.le_of_ble_eq_true rfl) ?_
  obtain ⟨hz, hw⟩ := hw
  exact mk_retz C0 hz hw hW hS dX9_setHolds_55
set_option maxHeartbeats 4000000 in
set_option maxRecDepth 100000 in
theorem tJ_X9_setHolds_110 {p : Program} {l : Launch} {e : Env} {s : State} {m : MethodId} {args : Array Value} {below : List Frame} {meth : Method} {c : Code} {D : va_G} {cI cZ cG cL : ClassId} {am : Nat → Nat} (C0 : gk_F p s m args meth c cX9_setHolds 6 (some .boolean) RX9) (hK : gk_K D cI cZ cG cL s) {Q : Int32 → gk_C → Prop} : ∀ (σ : gk_C) (x1 : Int32) (x3 : Int32) (x4 : Int32) (x5 : Int32) (t1 : Int32) (t2 : Int32), wJ_X9_setHolds_110 Q σ x1 x3 x4 x5 t1 t2 → ∀ (H : Heap) (locs : List Loc), mk_V D cI cZ am σ H → va_S (mk_A am s.heap.size) s.heap H locs → ∀ (ls : Array Slot), lv_has ls 6 [(0, .ref (am 38)), (1, .int x1), (3, .int x3), (4, .int x4), (5, .int x5)] → W p l e rmX9_setHolds s m args below meth c H locs 0 0 (MQ below (va_Qi (fun r u => Q r u) (mk_B (mk_V D cI cZ am)) (mk_A am s.heap.size)) args s 0 0 (mk_A am s.heap.size)) (F0 m 110 ls [.int t2, .int t1, .ref (am 8)]) := by
  obtain ⟨hx, hb, hml, hown, hts, hr, hlocks⟩ := id C0
  intro σ x1 x3 x4 x5 t1 t2 hw H locs hW hS  ls hl
  obtain ⟨hin, hw⟩ := hw
  refine gk_iast hx hb hK.1 hS (mk_A.in (k := 8) (by decide)) 0 (mk_arr hW (k := 8) (by decide) (by decide) (by decide)) rfl hin dX9_setHolds_110 (fun H locs h1 _ oq hS => ?_)
  have hW := hW.setR (k := 8) (by decide) (by decide) (by decide) h1 oq
  obtain ⟨σ110, eσ110⟩ : ∃ z, z = mk_st σ 8 t1 t2 := ⟨_, rfl⟩
  have hW := mk_stW (Wd := mk_V D cI cZ am) eσ110 hW
  have hw := hw σ110 eσ110
  refine lv_iload_n hx hb dX9_setHolds_111 rfl (lv_at hl 2 rfl) ?_
  refine lv_if_eq (tgt := 136) hx hb dX9_setHolds_112 (by decide) (fun c112 => ?_) (fun c112 => ?_)
  · have hw := hw.1 c112
    refine lv_iload hx hb dX9_setHolds_136 (lv_at hl 3 rfl) ?_
    refine W.widen (k := 0) (n := 0) (Nat.le_of_ble_eq_true rfl) (Nat.le_of_ble_eq_true rfl) ?_
    obtain ⟨hz, hw⟩ := hw
    exact mk_retz C0 hz hw hW hS dX9_setHolds_138
  · have hw := hw.2 c112
    refine lv_aload_n hx hb dX9_setHolds_115 rfl (lv_at hl 0 rfl) ?_
    refine mk_callRi ⟨hx, hb, hml, hown, hts⟩ (c_X9_areAllRight l D cI cZ cG cL am hw) (cwV 0 hts (gk_gV ml_X9_148 im_X9_areAllRight se_X9_areAllRight in_X9 co_X9_areAllRight) rfl rfl rfl (by decide +kernel) ⟨Nat.le_of_ble_eq_true rfl, Nat.le_of_ble_eq_true rfl⟩) (gk_recv hK.1 (mk_obj hW) rfl) hW hK trivial hS rfl hl.1 (rest := []) rfl (lv_room (Nat.le_of_ble_eq_true rfl)) dX9_setHolds_116 ⟨Nat.le_of_ble_eq_true rfl, Nat.le_of_ble_eq_true rfl⟩ (fun r116 H locs hw hW _ hk hS => ?_)
    refine lv_if_ne (tgt := 136) hx hb dX9_setHolds_119 (by decide) (fun c119 => ?_) (fun c119 => ?_)
    · have hw := hw.1 c119
      refine lv_iload hx hb dX9_setHolds_136 (lv_at hl 3 rfl) ?_
      refine W.widen (k := 0) (n := 0) (Nat.le_of_ble_eq_true rfl) (Nat.le_of_ble_eq_true rfl) ?_
      obtain ⟨hz, hw⟩ := hw
      exact mk_retz C0 hz hw hW hS dX9_setHolds_138
    · have hw := hw.2 c119
      refine lv_aload_n hx hb dX9_setHolds_122 rfl (lv_at hl 0 rfl) ?_
      refine gk_get hx hb hts iwX9 hown hK.1 (mk_obj hW) rfl 8 (by decide) (hts _ fl_X9_19) (fun _ h9 => h9) rfl dX9_setHolds_123 ?_
      refine lv_iload_n hx hb dX9_setHolds_126 rfl (lv_at hl 1 rfl) ?_
      refine lv_iload hx hb dX9_setHolds_127 (lv_at hl 4 rfl) ?_
      obtain ⟨hin, hw⟩ := hw
      refine gk_iast hx hb hK.1 hS (mk_A.in (k := 8) (by decide)) 0 (mk_arr hW (k := 8) (by decide) (by decide) (by decide)) rfl hin dX9_setHolds_129 (fun H locs h1 _ oq hS => ?_)
      have hW := hW.setR (k := 8) (by decide) (by decide) (by decide) h1 oq
      obtain ⟨σ129, eσ129⟩ : ∃ z, z = mk_st σ110 8 x1 x5 := ⟨_, rfl⟩
      have hW := mk_stW (Wd := mk_V D cI cZ am) eσ129 hW
      have hw := hw σ129 eσ129
      refine lv_aload_n hx hb dX9_setHolds_130 rfl (lv_at hl 0 rfl) ?_
      refine lv_iconst (v := 3) hx hb dX9_setHolds_131 (by decide) ?_
      refine mk_callVi ⟨hx, hb, hml, hown, hts⟩ (c_X9_isNot l D cI cZ cG cL am hw) (cwV 1 hts (gk_gV ml_X9_145 im_X9_isNot se_X9_isNot in_X9 co_X9_isNot) rfl rfl rfl (by decide +kernel) ⟨Nat.le_of_ble_eq_true rfl, Nat.le_of_ble_eq_true rfl⟩) (gk_recv hK.1 (mk_obj hW) rfl) hW hK trivial hS rfl hl.1 (rest := []) rfl (lv_room (Nat.le_of_ble_eq_true rfl)) dX9_setHolds_132 ⟨Nat.le_of_ble_eq_true rfl, Nat.le_of_ble_eq_true rfl⟩ (fun r132 σ132 H locs hw hW _ hk hS => ?_)
      refine W.widen (k := 0) (n := 0) (Nat.le_of_ble_eq_true rfl) (Nat.le_of_ble_eq_true rfl) ?_
      obtain ⟨hz, hw⟩ := hw
      exact mk_retz C0 hz hw hW hS dX9_setHolds_135
set_option maxHeartbeats 4000000 in
set_option maxRecDepth 100000 in
theorem tJ_X9_setHolds_74 {p : Program} {l : Launch} {e : Env} {s : State} {m : MethodId} {args : Array Value} {below : List Frame} {meth : Method} {c : Code} {D : va_G} {cI cZ cG cL : ClassId} {am : Nat → Nat} (C0 : gk_F p s m args meth c cX9_setHolds 6 (some .boolean) RX9) (hK : gk_K D cI cZ cG cL s) {Q : Int32 → gk_C → Prop} : ∀ (σ : gk_C) (x1 : Int32) (x2 : Int32) (x3 : Int32) (t0 : Int32), wJ_X9_setHolds_74 Q σ x1 x2 x3 t0 → ∀ (H : Heap) (locs : List Loc), mk_V D cI cZ am σ H → va_S (mk_A am s.heap.size) s.heap H locs → ∀ (ls : Array Slot), lv_has ls 6 [(0, .ref (am 38)), (1, .int x1), (2, .int x2), (3, .int x3)] → W p l e rmX9_setHolds s m args below meth c H locs 0 0 (MQ below (va_Qi (fun r u => Q r u) (mk_B (mk_V D cI cZ am)) (mk_A am s.heap.size)) args s 0 0 (mk_A am s.heap.size)) (F0 m 74 ls [.int t0]) := by
  obtain ⟨hx, hb, hml, hown, hts, hr, hlocks⟩ := id C0
  intro σ x1 x2 x3 t0 hw H locs hW hS  ls hl
  refine lv_istore (lv' := [(4, .int t0), (0, .ref (am 38)), (1, .int x1), (2, .int x2), (3, .int x3)]) hx hb dX9_setHolds_74 hl (by decide) rfl (fun ls hl => ?_)
  refine lv_aload_n hx hb dX9_setHolds_76 rfl (lv_at hl 1 rfl) ?_
  refine gk_get hx hb hts iwX9 hown hK.1 (mk_obj hW) rfl 8 (by decide) (hts _ fl_X9_19) (fun _ h9 => h9) rfl dX9_setHolds_77 ?_
  refine lv_iload_n hx hb dX9_setHolds_80 rfl (lv_at hl 2 rfl) ?_
  obtain ⟨hin, hw⟩ := hw
  refine gk_iald hx hb hK.1 0 (mk_arr hW (k := 8) (by decide) (by decide) (by decide)) rfl hin dX9_setHolds_81 ?_
  refine lv_istore (lv' := [(5, .int (σ.1 8 x1.toNatClampNeg)), (4, .int t0), (0, .ref (am 38)), (1, .int x1), (2, .int x2), (3, .int x3)]) hx hb dX9_setHolds_82 hl (by decide) rfl (fun ls hl => ?_)
  refine lv_aload_n hx hb dX9_setHolds_84 rfl (lv_at hl 2 rfl) ?_
  refine gk_get hx hb hts iwX9 hown hK.1 (mk_obj hW) rfl 8 (by decide) (hts _ fl_X9_19) (fun _ h9 => h9) rfl dX9_setHolds_85 ?_
  refine lv_iload_n hx hb dX9_setHolds_88 rfl (lv_at hl 3 rfl) ?_
  refine lv_iload_n hx hb dX9_setHolds_89 rfl (lv_at hl 5 rfl) ?_
  refine lv_if_eq (tgt := 102) hx hb dX9_setHolds_90 (by decide) (fun c90 => ?_) (fun c90 => ?_)
  · have hw := hw.1 c90
    refine lv_iload hx hb dX9_setHolds_102 (lv_at hl 0 rfl) ?_
    refine lv_iconst (v := 1) hx hb dX9_setHolds_104 (by decide) ?_
    refine lv_iload_n hx hb dX9_setHolds_105 rfl (lv_at hl 4 rfl) ?_
    refine lv_ishl hx hb dX9_setHolds_106 ?_
    refine lv_iconst (v := (-1)) hx hb dX9_setHolds_107 (by decide) ?_
    refine lv_ixor hx hb dX9_setHolds_108 ?_
    refine lv_iand hx hb dX9_setHolds_109 ?_
    refine tJ_X9_setHolds_110 C0 hK  σ x1 x3 t0 (σ.1 8 x1.toNatClampNeg) x1 ((σ.1 8 x1.toNatClampNeg) &&& ((1 <<< (x2 &&& 31)) ^^^ (-1))) hw _ _ hW hS  _ (lv_sub hl [2, 3, 5, 1, 0] rfl)
  · have hw := hw.2 c90
    refine lv_iload hx hb dX9_setHolds_93 (lv_at hl 0 rfl) ?_
    refine lv_iconst (v := 1) hx hb dX9_setHolds_95 (by decide) ?_
    refine lv_iload_n hx hb dX9_setHolds_96 rfl (lv_at hl 4 rfl) ?_
    refine lv_ishl hx hb dX9_setHolds_97 ?_
    refine lv_ior hx hb dX9_setHolds_98 ?_
    refine lv_goto (tgt := 110) hx hb dX9_setHolds_99 (by decide) ?_
    refine tJ_X9_setHolds_110 C0 hK  σ x1 x3 t0 (σ.1 8 x1.toNatClampNeg) x1 ((σ.1 8 x1.toNatClampNeg) ||| (1 <<< (x2 &&& 31))) hw _ _ hW hS  _ (lv_sub hl [2, 3, 5, 1, 0] rfl)
set_option maxHeartbeats 4000000 in
set_option maxRecDepth 100000 in
theorem tJ_X9_setHolds_56 {p : Program} {l : Launch} {e : Env} {s : State} {m : MethodId} {args : Array Value} {below : List Frame} {meth : Method} {c : Code} {D : va_G} {cI cZ cG cL : ClassId} {am : Nat → Nat} (C0 : gk_F p s m args meth c cX9_setHolds 6 (some .boolean) RX9) (hK : gk_K D cI cZ cG cL s) {Q : Int32 → gk_C → Prop} : ∀ (σ : gk_C) (x1 : Int32) (x2 : Int32) (x3 : Int32), wJ_X9_setHolds_56 Q σ x1 x2 x3 → ∀ (H : Heap) (locs : List Loc), mk_V D cI cZ am σ H → va_S (mk_A am s.heap.size) s.heap H locs → ∀ (ls : Array Slot), lv_has ls 6 [(0, .ref (am 38)), (1, .int x1), (2, .int x2), (3, .int x3)] → W p l e rmX9_setHolds s m args below meth c H locs 0 0 (MQ below (va_Qi (fun r u => Q r u) (mk_B (mk_V D cI cZ am)) (mk_A am s.heap.size)) args s 0 0 (mk_A am s.heap.size)) (F0 m 56 ls []) := by
  obtain ⟨hx, hb, hml, hown, hts, hr, hlocks⟩ := id C0
  intro σ x1 x2 x3 hw H locs hW hS  ls hl
  refine lv_aload_n hx hb dX9_setHolds_56 rfl (lv_at hl 0 rfl) ?_
  refine gk_get hx hb hts iwX9 hown hK.1 (mk_obj hW) rfl 8 (by decide) (hts _ fl_X9_19) (fun _ h9 => h9) rfl dX9_setHolds_57 ?_
  refine lv_iload_n hx hb dX9_setHolds_60 rfl (lv_at hl 1 rfl) ?_
  obtain ⟨hin, hw⟩ := hw
  refine gk_iald hx hb hK.1 0 (mk_arr hW (k := 8) (by decide) (by decide) (by decide)) rfl hin dX9_setHolds_61 ?_
  refine lv_iload_n hx hb dX9_setHolds_62 rfl (lv_at hl 2 rfl) ?_
  refine lv_ishr hx hb dX9_setHolds_63 ?_
  refine lv_iconst (v := 1) hx hb dX9_setHolds_64 (by decide) ?_
  refine lv_iand hx hb dX9_setHolds_65 ?_
  refine lv_if_eq (tgt := 73) hx hb dX9_setHolds_66 (by decide) (fun c66 => ?_) (fun c66 => ?_)
  · have hw := hw.1 c66
    refine lv_iconst (v := 0) hx hb dX9_setHolds_73 (by decide) ?_
    refine tJ_X9_setHolds_74 C0 hK  σ x1 x2 x3 0 hw _ _ hW hS  _ hl
  · have hw := hw.2 c66
    refine lv_iconst (v := 1) hx hb dX9_setHolds_69 (by decide) ?_
    refine lv_goto (tgt := 74) hx hb dX9_setHolds_70 (by decide) ?_
    refine tJ_X9_setHolds_74 C0 hK  σ x1 x2 x3 1 hw _ _ hW hS  _ hl
set_option maxHeartbeats 4000000 in
set_option maxRecDepth 100000 in
theorem c_X9_setHolds (l : Launch) (D : va_G) (cI cZ cG cL : ClassId) (am : Nat → Nat) {σ : gk_C} {a0 : Int32} {a1 : Int32} {a2 : Int32} {Q : Int32 → gk_C → Prop} {sz : Nat} (hw : w_X9_setHolds σ a0 a1 a2 Q) : Met l yX9_setHolds wsX9_setHolds rmX9_setHolds (mk_Pc (mk_V D cI cZ am) D cI cZ cG cL [.ref (am 38), .int a0, .int a1, .int a2] sz σ (fun _ => True)) (va_Qi (fun r u => Q r u) (mk_B (mk_V D cI cZ am)) (mk_A am sz)) 0 0 (mk_A am sz) := by
  refine Met.ofW (cc := cX9_setHolds) (maxL := 6) (ret := (some .boolean)) (by decide) rfl ?_
  intro p e s m args below meth c s₁ B hml0 hv0
  obtain ⟨rfl, hsz, hW, hK, hX⟩ := hv0
  subst hsz
  have C0 : gk_F p s m ([.ref (am 38), .int a0, .int a1, .int a2] : List Value).toArray meth c cX9_setHolds 6 (some .boolean) RX9 := ⟨B.exec, B.bytes, hml0, findClass_of_methodNamed B.named, fun w hw => atoms_spec (ws := wsX9_setHolds) B.pre w (List.mem_cons_of_mem _ hw), B.returns, B.notSynchronized⟩
  obtain ⟨hx, hb, hml, hown, hts, hr, hlocks⟩ := id C0
  have hS : va_S (mk_A am s.heap.size) s.heap s.heap [] := va_S.rf
  have hl := lv_entry ([.ref (am 38), .int a0, .int a1, .int a2]) (n := 6) (Nat.le_of_ble_eq_true rfl)
  rw [lg_entry_eq]
  generalize (lg_sl ([.ref (am 38), .int a0, .int a1, .int a2]) ++ List.replicate (6 - (lg_sl ([.ref (am 38), .int a0, .int a1, .int a2])).length) Slot.unset).toArray = ls at hl ⊢
  have hl : lv_has ls 6 [(0, .ref (am 38)), (1, .int a0), (2, .int a1), (3, .int a2)] := hl
  show W p l e rmX9_setHolds s m _ below meth c s.heap [] 0 0 _ _
  refine lv_aload_n hx hb dX9_setHolds_0 rfl (lv_at hl 0 rfl) ?_
  refine lv_iconst (v := 0) hx hb dX9_setHolds_1 (by decide) ?_
  refine gk_putf (ty := .int) (v := .int 0) hx hb hts iwX9 tyX9 tyX9_ok nmX9 hown hK.1 hS (mk_A.in List.mem_cons_self) (mk_obj hW) rfl 0 (by decide) (hts _ fl_X9_102) (fun _ h9 => h9) rfl (by decide +kernel) rfl rfl (Nat.le_of_ble_eq_true rfl) dX9_setHolds_2 (fun H locs h1 _ oq hS => ?_)
  have hW := hW.setS (i := 0) (v := 0) h1 oq
  refine lv_aload_n hx hb dX9_setHolds_5 rfl (lv_at hl 0 rfl) ?_
  refine lv_iload_n hx hb dX9_setHolds_6 rfl (lv_at hl 1 rfl) ?_
  refine mk_callRi ⟨hx, hb, hml, hown, hts⟩ (c_X9_isRole l D cI cZ cG cL am hw) (cwV 1 hts (gk_gV ml_X9_142 im_X9_isRole se_X9_isRole in_X9 co_X9_isRole) rfl rfl rfl (by decide +kernel) ⟨Nat.le_of_ble_eq_true rfl, Nat.le_of_ble_eq_true rfl⟩) (gk_recv hK.1 (mk_obj hW) rfl) hW hK trivial hS rfl hl.1 (rest := []) rfl (lv_room (Nat.le_of_ble_eq_true rfl)) dX9_setHolds_7 ⟨Nat.le_of_ble_eq_true rfl, Nat.le_of_ble_eq_true rfl⟩ (fun r7 H locs hw hW _ hk hS => ?_)
  refine lv_if_eq (tgt := 21) hx hb dX9_setHolds_10 (by decide) (fun c10 => ?_) (fun c10 => ?_)
  · have hw := hw.1 c10
    refine tJ_X9_setHolds_21 C0 hK  (gk_s σ 0 0) hw _ _ hW hS  _ (lv_sub hl [0] rfl)
  · have hw := hw.2 c10
    refine lv_aload_n hx hb dX9_setHolds_13 rfl (lv_at hl 0 rfl) ?_
    refine lv_iload_n hx hb dX9_setHolds_14 rfl (lv_at hl 2 rfl) ?_
    refine mk_callRi ⟨hx, hb, hml, hown, hts⟩ (c_X9_isRole l D cI cZ cG cL am hw) (cwV 1 hts (gk_gV ml_X9_142 im_X9_isRole se_X9_isRole in_X9 co_X9_isRole) rfl rfl rfl (by decide +kernel) ⟨Nat.le_of_ble_eq_true rfl, Nat.le_of_ble_eq_true rfl⟩) (gk_recv hK.1 (mk_obj hW) rfl) hW hK trivial hS rfl hl.1 (rest := []) rfl (lv_room (Nat.le_of_ble_eq_true rfl)) dX9_setHolds_15 ⟨Nat.le_of_ble_eq_true rfl, Nat.le_of_ble_eq_true rfl⟩ (fun r15 H locs hw hW _ hk hS => ?_)
    refine lv_if_ne (tgt := 27) hx hb dX9_setHolds_18 (by decide) (fun c18 => ?_) (fun c18 => ?_)
    · have hw := hw.1 c18
      refine lv_iload_n hx hb dX9_setHolds_27 rfl (lv_at hl 1 rfl) ?_
      refine lv_iload_n hx hb dX9_setHolds_28 rfl (lv_at hl 2 rfl) ?_
      refine lv_icmp_eq (tgt := 50) hx hb dX9_setHolds_29 (by decide) (fun c29 => ?_) (fun c29 => ?_)
      · have hw := hw.1 c29
        refine tJ_X9_setHolds_50 C0 hK  (gk_s σ 0 0) hw _ _ hW hS  _ (lv_sub hl [0] rfl)
      · have hw := hw.2 c29
        refine lv_iload_n hx hb dX9_setHolds_32 rfl (lv_at hl 3 rfl) ?_
        refine lv_if_eq (tgt := 56) hx hb dX9_setHolds_33 (by decide) (fun c33 => ?_) (fun c33 => ?_)
        · have hw := hw.1 c33
          refine tJ_X9_setHolds_56 C0 hK  (gk_s σ 0 0) a0 a1 a2 hw _ _ hW hS  _ hl
        · have hw := hw.2 c33
          refine lv_aload_n hx hb dX9_setHolds_36 rfl (lv_at hl 0 rfl) ?_
          refine lv_iconst (v := 1) hx hb dX9_setHolds_37 (by decide) ?_
          refine lv_iload_n hx hb dX9_setHolds_38 rfl (lv_at hl 2 rfl) ?_
          refine lv_ishl hx hb dX9_setHolds_39 ?_
          refine mk_callRi ⟨hx, hb, hml, hown, hts⟩ (c_X9_hadV l D cI cZ cG cL am hw) (cwV 1 hts (gk_gV ml_X9_129 im_X9_had se_X9_had in_X9 co_X9_had) rfl rfl rfl (by decide +kernel) ⟨Nat.le_of_ble_eq_true rfl, Nat.le_of_ble_eq_true rfl⟩) (gk_recv hK.1 (mk_obj hW) rfl) hW hK trivial hS rfl hl.1 (rest := []) rfl (lv_room (Nat.le_of_ble_eq_true rfl)) dX9_setHolds_40 ⟨Nat.le_of_ble_eq_true rfl, Nat.le_of_ble_eq_true rfl⟩ (fun r40 H locs hw hW _ hk hS => ?_)
          refine lv_iload_n hx hb dX9_setHolds_43 rfl (lv_at hl 1 rfl) ?_
          refine lv_ishr hx hb dX9_setHolds_44 ?_
          refine lv_iconst (v := 1) hx hb dX9_setHolds_45 (by decide) ?_
          refine lv_iand hx hb dX9_setHolds_46 ?_
          refine lv_if_eq (tgt := 56) hx hb dX9_setHolds_47 (by decide) (fun c47 => ?_) (fun c47 => ?_)
          · have hw := hw.1 c47
            refine tJ_X9_setHolds_56 C0 hK  (gk_s σ 0 0) a0 a1 a2 hw _ _ hW hS  _ hl
          · have hw := hw.2 c47
            refine tJ_X9_setHolds_50 C0 hK  (gk_s σ 0 0) hw _ _ hW hS  _ (lv_sub hl [0] rfl)
    · have hw := hw.2 c18
      refine tJ_X9_setHolds_21 C0 hK  (gk_s σ 0 0) hw _ _ hW hS  _ (lv_sub hl [0] rfl)
def wJ_X9_setApart_21 (Q : Int32 → gk_C → Prop) (σ : gk_C) : Prop := (w_X9_no σ 1 (fun r23 σ23 => Q r23 σ23))
def wJ_X9_setApart_92 (k65 : gk_C → Int32 → Int32 → Int32 → Prop) (σ : gk_C) (x3 : Int32) (x5 : Int32) (t0 : Int32) (t1 : Int32) : Prop := (k65 σ x3 (t0 ||| t1) (x5 + 1))
def wL_X9_setApart_65 (k101 : gk_C → Int32 → Int32 → Prop) : Nat → gk_C → Int32 → Int32 → Int32 → Prop
  | 0 => fun _ _ _ _ => False
  | n + 1 => fun σ x3 x4 x5 => ((((σ.2 9) ≤ x5) → (k101 σ x3 x4)) ∧ ((¬ (σ.2 9) ≤ x5) → (vp_in x5 10 ∧ ((¬ (σ.1 10 x5.toNatClampNeg) = x3) → (wJ_X9_setApart_92 (fun σ x3 x4 x5 => wL_X9_setApart_65 k101 n σ x3 x4 x5) σ x3 x5 x4 0)) ∧ (((σ.1 10 x5.toNatClampNeg) = x3) → (wJ_X9_setApart_92 (fun σ x3 x4 x5 => wL_X9_setApart_65 k101 n σ x3 x4 x5) σ x3 x5 x4 1)))))
def wJ_X9_setApart_137 (k104 : gk_C → Int32 → Int32 → Int32 → Prop) (σ : gk_C) (x3 : Int32) (x5 : Int32) (t0 : Int32) (t1 : Int32) : Prop := (k104 σ x3 (t0 ||| t1) (x5 + 1))
def wL_X9_setApart_104 (k146 : gk_C → Int32 → Int32 → Prop) : Nat → gk_C → Int32 → Int32 → Int32 → Prop
  | 0 => fun _ _ _ _ => False
  | n + 1 => fun σ x3 x4 x5 => ((((σ.2 3) ≤ x5) → (k146 σ x3 x4)) ∧ ((¬ (σ.2 3) ≤ x5) → (vp_in x5 12 ∧ wv_X9_had σ (σ.1 4 x5.toNatClampNeg) (fun r123 => ((¬ (r123 &&& x3) = x3) → (wJ_X9_setApart_137 (fun σ x3 x4 x5 => wL_X9_setApart_104 k146 n σ x3 x4 x5) σ x3 x5 x4 0)) ∧ (((r123 &&& x3) = x3) → (wJ_X9_setApart_137 (fun σ x3 x4 x5 => wL_X9_setApart_104 k146 n σ x3 x4 x5) σ x3 x5 x4 1))))))
def w_X9_setApart (σ : gk_C) (a0 : Int32) (a1 : Int32) (Q : Int32 → gk_C → Prop) : Prop := (w_X9_isRole (gk_s σ 0 0) a0 (fun r7 => ((r7 = 0) → (wJ_X9_setApart_21 Q (gk_s σ 0 0))) ∧ ((¬ r7 = 0) → (w_X9_isRole (gk_s σ 0 0) a1 (fun r15 => ((¬ r15 = 0) → (((¬ a0 = a1) → (((¬ ((gk_s σ 0 0).2 9) = 10) → (∃ n65, wL_X9_setApart_65 (fun σ x3 x4 => (∃ n104, wL_X9_setApart_104 (fun σ x3 x4 => (((x4 = 0) → (vp_in (σ.2 9) 10 ∧ ∀ σ173 : gk_C, σ173 = mk_st (gk_s σ 9 ((σ.2 9) + 1)) 10 (σ.2 9) x3 → Q (σ173.2 9) σ173)) ∧ ((¬ x4 = 0) → (w_X9_no σ 3 (fun r153 σ153 => Q r153 σ153))))) n104 σ x3 x4 0)) n65 (gk_s σ 0 0) ((1 <<< (a0 &&& 31)) ||| (1 <<< (a1 &&& 31))) 0 0)) ∧ ((((gk_s σ 0 0).2 9) = 10) → (∃ n65, wL_X9_setApart_65 (fun σ x3 x4 => (∃ n104, wL_X9_setApart_104 (fun σ x3 x4 => (((x4 = 0) → (vp_in (σ.2 9) 10 ∧ ∀ σ173 : gk_C, σ173 = mk_st (gk_s σ 9 ((σ.2 9) + 1)) 10 (σ.2 9) x3 → Q (σ173.2 9) σ173)) ∧ ((¬ x4 = 0) → (w_X9_no σ 3 (fun r153 σ153 => Q r153 σ153))))) n104 σ x3 x4 0)) n65 (gk_s σ 0 0) ((1 <<< (a0 &&& 31)) ||| (1 <<< (a1 &&& 31))) 1 0)))) ∧ ((a0 = a1) → (w_X9_no (gk_s σ 0 0) 2 (fun r34 σ34 => Q r34 σ34))))) ∧ ((r15 = 0) → (wJ_X9_setApart_21 Q (gk_s σ 0 0))))))))
abbrev rmX9_setApart : Room := { frames := 2, cells := 0, slots := 0, locals := 51 }
set_option maxHeartbeats 4000000 in
set_option maxRecDepth 100000 in
theorem tJ_X9_setApart_21 {p : Program} {l : Launch} {e : Env} {s : State} {m : MethodId} {args : Array Value} {below : List Frame} {meth : Method} {c : Code} {D : va_G} {cI cZ cG cL : ClassId} {am : Nat → Nat} (C0 : gk_F p s m args meth c cX9_setApart 6 (some .int) RX9) (hK : gk_K D cI cZ cG cL s) {Q : Int32 → gk_C → Prop} : ∀ (σ : gk_C), wJ_X9_setApart_21 Q σ → ∀ (H : Heap) (locs : List Loc), mk_V D cI cZ am σ H → va_S (mk_A am s.heap.size) s.heap H locs → ∀ (ls : Array Slot), lv_has ls 6 [(0, .ref (am 38))] → W p l e rmX9_setApart s m args below meth c H locs 0 0 (MQ below (va_Qi (fun r u => Q r u) (mk_B (mk_V D cI cZ am)) (mk_A am s.heap.size)) args s 0 0 (mk_A am s.heap.size)) (F0 m 21 ls []) := by
  obtain ⟨hx, hb, hml, hown, hts, hr, hlocks⟩ := id C0
  intro σ hw H locs hW hS  ls hl
  refine lv_aload_n hx hb dX9_setApart_21 rfl (lv_at hl 0 rfl) ?_
  refine lv_iconst (v := 1) hx hb dX9_setApart_22 (by decide) ?_
  refine mk_callVi ⟨hx, hb, hml, hown, hts⟩ (c_X9_no l D cI cZ cG cL am hw) (cwV 1 hts (gk_gV ml_X9_139 im_X9_no se_X9_no in_X9 co_X9_no) rfl rfl rfl (by decide +kernel) ⟨Nat.le_of_ble_eq_true rfl, Nat.le_of_ble_eq_true rfl⟩) (gk_recv hK.1 (mk_obj hW) rfl) hW hK trivial hS rfl hl.1 (rest := []) rfl (lv_room (Nat.le_of_ble_eq_true rfl)) dX9_setApart_23 ⟨Nat.le_of_ble_eq_true rfl, Nat.le_of_ble_eq_true rfl⟩ (fun r23 σ23 H locs hw hW _ hk hS => ?_)
  refine W.widen (k := 0) (n := 0) (Nat.le_of_ble_eq_true rfl) (Nat.le_of_ble_eq_true rfl) ?_
  exact mk_reti C0 hw hW hS dX9_setApart_26
set_option maxHeartbeats 4000000 in
set_option maxRecDepth 100000 in
theorem tJ_X9_setApart_92 {p : Program} {l : Launch} {e : Env} {s : State} {m : MethodId} {args : Array Value} {below : List Frame} {meth : Method} {c : Code} {D : va_G} {cI cZ cG cL : ClassId} {am : Nat → Nat} (C0 : gk_F p s m args meth c cX9_setApart 6 (some .int) RX9) (hK : gk_K D cI cZ cG cL s) {Q : Int32 → gk_C → Prop} {k65 : gk_C → Int32 → Int32 → Int32 → Prop} (hk65 : ∀ (σ : gk_C) (x3 : Int32) (x4 : Int32) (x5 : Int32), k65 σ x3 x4 x5 → ∀ (H : Heap) (locs : List Loc), mk_V D cI cZ am σ H → va_S (mk_A am s.heap.size) s.heap H locs → ∀ (ls : Array Slot), lv_has ls 6 [(0, .ref (am 38)), (3, .int x3), (4, .int x4), (5, .int x5)] → W p l e rmX9_setApart s m args below meth c H locs 0 0 (MQ below (va_Qi (fun r u => Q r u) (mk_B (mk_V D cI cZ am)) (mk_A am s.heap.size)) args s 0 0 (mk_A am s.heap.size)) (F0 m 65 ls [])) : ∀ (σ : gk_C) (x3 : Int32) (x5 : Int32) (t0 : Int32) (t1 : Int32), wJ_X9_setApart_92 k65 σ x3 x5 t0 t1 → ∀ (H : Heap) (locs : List Loc), mk_V D cI cZ am σ H → va_S (mk_A am s.heap.size) s.heap H locs → ∀ (ls : Array Slot), lv_has ls 6 [(0, .ref (am 38)), (3, .int x3), (5, .int x5)] → W p l e rmX9_setApart s m args below meth c H locs 0 0 (MQ below (va_Qi (fun r u => Q r u) (mk_B (mk_V D cI cZ am)) (mk_A am s.heap.size)) args s 0 0 (mk_A am s.heap.size)) (F0 m 92 ls [.int t1, .int t0]) := by
  obtain ⟨hx, hb, hml, hown, hts, hr, hlocks⟩ := id C0
  intro σ x3 x5 t0 t1 hw H locs hW hS  ls hl
  refine lv_ior hx hb dX9_setApart_92 ?_
  refine lv_istore (lv' := [(4, .int (t0 ||| t1)), (0, .ref (am 38)), (3, .int x3), (5, .int x5)]) hx hb dX9_setApart_93 hl (by decide) rfl (fun ls hl => ?_)
  refine lv_iinc (v := (x5 + 1)) (lv' := [(5, .int (x5 + 1)), (4, .int (t0 ||| t1)), (0, .ref (am 38)), (3, .int x3)]) hx hb dX9_setApart_95 hl (k := 3) rfl rfl (by decide) rfl (fun ls hl => ?_)
  refine lv_goto (tgt := 65) hx hb dX9_setApart_98 (by decide) ?_
  exact hk65 σ x3 (t0 ||| t1) (x5 + 1) hw _ _ hW hS  _ (lv_sub hl [2, 3, 1, 0] rfl)
set_option maxHeartbeats 4000000 in
set_option maxRecDepth 100000 in
theorem tL_X9_setApart_65 {p : Program} {l : Launch} {e : Env} {s : State} {m : MethodId} {args : Array Value} {below : List Frame} {meth : Method} {c : Code} {D : va_G} {cI cZ cG cL : ClassId} {am : Nat → Nat} (C0 : gk_F p s m args meth c cX9_setApart 6 (some .int) RX9) (hK : gk_K D cI cZ cG cL s) {Q : Int32 → gk_C → Prop} {k101 : gk_C → Int32 → Int32 → Prop} (hk101 : ∀ (σ : gk_C) (x3 : Int32) (x4 : Int32), k101 σ x3 x4 → ∀ (H : Heap) (locs : List Loc), mk_V D cI cZ am σ H → va_S (mk_A am s.heap.size) s.heap H locs → ∀ (ls : Array Slot), lv_has ls 6 [(0, .ref (am 38)), (3, .int x3), (4, .int x4)] → W p l e rmX9_setApart s m args below meth c H locs 0 0 (MQ below (va_Qi (fun r u => Q r u) (mk_B (mk_V D cI cZ am)) (mk_A am s.heap.size)) args s 0 0 (mk_A am s.heap.size)) (F0 m 101 ls [])) : ∀ (n : Nat) (σ : gk_C) (x3 : Int32) (x4 : Int32) (x5 : Int32), wL_X9_setApart_65 k101 n σ x3 x4 x5 → ∀ (H : Heap) (locs : List Loc), mk_V D cI cZ am σ H → va_S (mk_A am s.heap.size) s.heap H locs → ∀ (ls : Array Slot), lv_has ls 6 [(0, .ref (am 38)), (3, .int x3), (4, .int x4), (5, .int x5)] → W p l e rmX9_setApart s m args below meth c H locs 0 0 (MQ below (va_Qi (fun r u => Q r u) (mk_B (mk_V D cI cZ am)) (mk_A am s.heap.size)) args s 0 0 (mk_A am s.heap.size)) (F0 m 65 ls []) := by
  obtain ⟨hx, hb, hml, hown, hts, hr, hlocks⟩ := id C0
  intro n
  induction n with
  | zero => exact fun _ _ _ _ hw => False.elim hw
  | succ n ih =>
    intro σ x3 x4 x5 hw H locs hW hS  ls hl
    refine lv_iload hx hb dX9_setApart_65 (lv_at hl 3 rfl) ?_
    refine lv_aload_n hx hb dX9_setApart_67 rfl (lv_at hl 0 rfl) ?_
    refine gk_get hx hb hts iwX9 hown hK.1 (mk_obj hW) rfl 9 (by decide) (hts _ fl_X9_133) (fun _ h9 => h9) rfl dX9_setApart_68 ?_
    refine lv_icmp_ge (tgt := 101) hx hb dX9_setApart_71 (by decide) (fun c71 => ?_) (fun c71 => ?_)
    · have hw := hw.1 c71
      exact hk101 σ x3 x4 hw _ _ hW hS  _ (lv_sub hl [0, 1, 2] rfl)
    · have hw := hw.2 c71
      refine lv_iload hx hb dX9_setApart_74 (lv_at hl 2 rfl) ?_
      refine lv_aload_n hx hb dX9_setApart_76 rfl (lv_at hl 0 rfl) ?_
      refine gk_get hx hb hts iwX9 hown hK.1 (mk_obj hW) rfl 10 (by decide) (hts _ fl_X9_22) (fun _ h9 => h9) rfl dX9_setApart_77 ?_
      refine lv_iload hx hb dX9_setApart_80 (lv_at hl 3 rfl) ?_
      obtain ⟨hin, hw⟩ := hw
      refine gk_iald hx hb hK.1 0 (mk_arr hW (k := 10) (by decide) (by decide) (by decide)) rfl hin dX9_setApart_82 ?_
      refine lv_iload_n hx hb dX9_setApart_83 rfl (lv_at hl 1 rfl) ?_
      refine lv_icmp_ne (tgt := 91) hx hb dX9_setApart_84 (by decide) (fun c84 => ?_) (fun c84 => ?_)
      · have hw := hw.1 c84
        refine lv_iconst (v := 0) hx hb dX9_setApart_91 (by decide) ?_
        refine tJ_X9_setApart_92 C0 hK (hk65 := ih) σ x3 x5 x4 0 hw _ _ hW hS  _ (lv_sub hl [0, 1, 3] rfl)
      · have hw := hw.2 c84
        refine lv_iconst (v := 1) hx hb dX9_setApart_87 (by decide) ?_
        refine lv_goto (tgt := 92) hx hb dX9_setApart_88 (by decide) ?_
        refine tJ_X9_setApart_92 C0 hK (hk65 := ih) σ x3 x5 x4 1 hw _ _ hW hS  _ (lv_sub hl [0, 1, 3] rfl)
set_option maxHeartbeats 4000000 in
set_option maxRecDepth 100000 in
theorem tJ_X9_setApart_137 {p : Program} {l : Launch} {e : Env} {s : State} {m : MethodId} {args : Array Value} {below : List Frame} {meth : Method} {c : Code} {D : va_G} {cI cZ cG cL : ClassId} {am : Nat → Nat} (C0 : gk_F p s m args meth c cX9_setApart 6 (some .int) RX9) (hK : gk_K D cI cZ cG cL s) {Q : Int32 → gk_C → Prop} {k104 : gk_C → Int32 → Int32 → Int32 → Prop} (hk104 : ∀ (σ : gk_C) (x3 : Int32) (x4 : Int32) (x5 : Int32), k104 σ x3 x4 x5 → ∀ (H : Heap) (locs : List Loc), mk_V D cI cZ am σ H → va_S (mk_A am s.heap.size) s.heap H locs → ∀ (ls : Array Slot), lv_has ls 6 [(0, .ref (am 38)), (3, .int x3), (4, .int x4), (5, .int x5)] → W p l e rmX9_setApart s m args below meth c H locs 0 0 (MQ below (va_Qi (fun r u => Q r u) (mk_B (mk_V D cI cZ am)) (mk_A am s.heap.size)) args s 0 0 (mk_A am s.heap.size)) (F0 m 104 ls [])) : ∀ (σ : gk_C) (x3 : Int32) (x5 : Int32) (t0 : Int32) (t1 : Int32), wJ_X9_setApart_137 k104 σ x3 x5 t0 t1 → ∀ (H : Heap) (locs : List Loc), mk_V D cI cZ am σ H → va_S (mk_A am s.heap.size) s.heap H locs → ∀ (ls : Array Slot), lv_has ls 6 [(0, .ref (am 38)), (3, .int x3), (5, .int x5)] → W p l e rmX9_setApart s m args below meth c H locs 0 0 (MQ below (va_Qi (fun r u => Q r u) (mk_B (mk_V D cI cZ am)) (mk_A am s.heap.size)) args s 0 0 (mk_A am s.heap.size)) (F0 m 137 ls [.int t1, .int t0]) := by
  obtain ⟨hx, hb, hml, hown, hts, hr, hlocks⟩ := id C0
  intro σ x3 x5 t0 t1 hw H locs hW hS  ls hl
  refine lv_ior hx hb dX9_setApart_137 ?_
  refine lv_istore (lv' := [(4, .int (t0 ||| t1)), (0, .ref (am 38)), (3, .int x3), (5, .int x5)]) hx hb dX9_setApart_138 hl (by decide) rfl (fun ls hl => ?_)
  refine lv_iinc (v := (x5 + 1)) (lv' := [(5, .int (x5 + 1)), (4, .int (t0 ||| t1)), (0, .ref (am 38)), (3, .int x3)]) hx hb dX9_setApart_140 hl (k := 3) rfl rfl (by decide) rfl (fun ls hl => ?_)
  refine lv_goto (tgt := 104) hx hb dX9_setApart_143 (by decide) ?_
  exact hk104 σ x3 (t0 ||| t1) (x5 + 1) hw _ _ hW hS  _ (lv_sub hl [2, 3, 1, 0] rfl)
set_option maxHeartbeats 4000000 in
set_option maxRecDepth 100000 in
theorem tL_X9_setApart_104 {p : Program} {l : Launch} {e : Env} {s : State} {m : MethodId} {args : Array Value} {below : List Frame} {meth : Method} {c : Code} {D : va_G} {cI cZ cG cL : ClassId} {am : Nat → Nat} (C0 : gk_F p s m args meth c cX9_setApart 6 (some .int) RX9) (hK : gk_K D cI cZ cG cL s) {Q : Int32 → gk_C → Prop} {k146 : gk_C → Int32 → Int32 → Prop} (hk146 : ∀ (σ : gk_C) (x3 : Int32) (x4 : Int32), k146 σ x3 x4 → ∀ (H : Heap) (locs : List Loc), mk_V D cI cZ am σ H → va_S (mk_A am s.heap.size) s.heap H locs → ∀ (ls : Array Slot), lv_has ls 6 [(0, .ref (am 38)), (3, .int x3), (4, .int x4)] → W p l e rmX9_setApart s m args below meth c H locs 0 0 (MQ below (va_Qi (fun r u => Q r u) (mk_B (mk_V D cI cZ am)) (mk_A am s.heap.size)) args s 0 0 (mk_A am s.heap.size)) (F0 m 146 ls [])) : ∀ (n : Nat) (σ : gk_C) (x3 : Int32) (x4 : Int32) (x5 : Int32), wL_X9_setApart_104 k146 n σ x3 x4 x5 → ∀ (H : Heap) (locs : List Loc), mk_V D cI cZ am σ H → va_S (mk_A am s.heap.size) s.heap H locs → ∀ (ls : Array Slot), lv_has ls 6 [(0, .ref (am 38)), (3, .int x3), (4, .int x4), (5, .int x5)] → W p l e rmX9_setApart s m args below meth c H locs 0 0 (MQ below (va_Qi (fun r u => Q r u) (mk_B (mk_V D cI cZ am)) (mk_A am s.heap.size)) args s 0 0 (mk_A am s.heap.size)) (F0 m 104 ls []) := by
  obtain ⟨hx, hb, hml, hown, hts, hr, hlocks⟩ := id C0
  intro n
  induction n with
  | zero => exact fun _ _ _ _ hw => False.elim hw
  | succ n ih =>
    intro σ x3 x4 x5 hw H locs hW hS  ls hl
    refine lv_iload hx hb dX9_setApart_104 (lv_at hl 3 rfl) ?_
    refine lv_aload_n hx hb dX9_setApart_106 rfl (lv_at hl 0 rfl) ?_
    refine gk_get hx hb hts iwX9 hown hK.1 (mk_obj hW) rfl 3 (by decide) (hts _ fl_X9_105) (fun _ h9 => h9) rfl dX9_setApart_107 ?_
    refine lv_icmp_ge (tgt := 146) hx hb dX9_setApart_110 (by decide) (fun c110 => ?_) (fun c110 => ?_)
    · have hw := hw.1 c110
      exact hk146 σ x3 x4 hw _ _ hW hS  _ (lv_sub hl [0, 1, 2] rfl)
    · have hw := hw.2 c110
      refine lv_iload hx hb dX9_setApart_113 (lv_at hl 2 rfl) ?_
      refine lv_aload_n hx hb dX9_setApart_115 rfl (lv_at hl 0 rfl) ?_
      refine lv_aload_n hx hb dX9_setApart_116 rfl (lv_at hl 0 rfl) ?_
      refine gk_get hx hb hts iwX9 hown hK.1 (mk_obj hW) rfl 4 (by decide) (hts _ fl_X9_9) (fun _ h9 => h9) rfl dX9_setApart_117 ?_
      refine lv_iload hx hb dX9_setApart_120 (lv_at hl 3 rfl) ?_
      obtain ⟨hin, hw⟩ := hw
      refine gk_iald hx hb hK.1 0 (mk_arr hW (k := 4) (by decide) (by decide) (by decide)) rfl hin dX9_setApart_122 ?_
      refine mk_callRi ⟨hx, hb, hml, hown, hts⟩ (c_X9_hadV l D cI cZ cG cL am hw) (cwV 1 hts (gk_gV ml_X9_129 im_X9_had se_X9_had in_X9 co_X9_had) rfl rfl rfl (by decide +kernel) ⟨Nat.le_of_ble_eq_true rfl, Nat.le_of_ble_eq_true rfl⟩) (gk_recv hK.1 (mk_obj hW) rfl) hW hK trivial hS rfl hl.1 (rest := [.int x4]) rfl (lv_room (Nat.le_of_ble_eq_true rfl)) dX9_setApart_123 ⟨Nat.le_of_ble_eq_true rfl, Nat.le_of_ble_eq_true rfl⟩ (fun r123 H locs hw hW _ hk hS => ?_)
      refine lv_iload_n hx hb dX9_setApart_126 rfl (lv_at hl 1 rfl) ?_
      refine lv_iand hx hb dX9_setApart_127 ?_
      refine lv_iload_n hx hb dX9_setApart_128 rfl (lv_at hl 1 rfl) ?_
      refine lv_icmp_ne (tgt := 136) hx hb dX9_setApart_129 (by decide) (fun c129 => ?_) (fun c129 => ?_)
      · have hw := hw.1 c129
        refine lv_iconst (v := 0) hx hb dX9_setApart_136 (by decide) ?_
        refine tJ_X9_setApart_137 C0 hK (hk104 := ih) σ x3 x5 x4 0 hw _ _ hW hS  _ (lv_sub hl [0, 1, 3] rfl)
      · have hw := hw.2 c129
        refine lv_iconst (v := 1) hx hb dX9_setApart_132 (by decide) ?_
        refine lv_goto (tgt := 137) hx hb dX9_setApart_133 (by decide) ?_
        refine tJ_X9_setApart_137 C0 hK (hk104 := ih) σ x3 x5 x4 1 hw _ _ hW hS  _ (lv_sub hl [0, 1, 3] rfl)
set_option maxHeartbeats 4000000 in
set_option maxRecDepth 100000 in
theorem c_X9_setApart (l : Launch) (D : va_G) (cI cZ cG cL : ClassId) (am : Nat → Nat) {σ : gk_C} {a0 : Int32} {a1 : Int32} {Q : Int32 → gk_C → Prop} {sz : Nat} (hw : w_X9_setApart σ a0 a1 Q) : Met l yX9_setApart wsX9_setApart rmX9_setApart (mk_Pc (mk_V D cI cZ am) D cI cZ cG cL [.ref (am 38), .int a0, .int a1] sz σ (fun _ => True)) (va_Qi (fun r u => Q r u) (mk_B (mk_V D cI cZ am)) (mk_A am sz)) 0 0 (mk_A am sz) := by
  refine Met.ofW (cc := cX9_setApart) (maxL := 6) (ret := (some .int)) (by decide) rfl ?_
  intro p e s m args below meth c s₁ B hml0 hv0
  obtain ⟨rfl, hsz, hW, hK, hX⟩ := hv0
  subst hsz
  have C0 : gk_F p s m ([.ref (am 38), .int a0, .int a1] : List Value).toArray meth c cX9_setApart 6 (some .int) RX9 := ⟨B.exec, B.bytes, hml0, findClass_of_methodNamed B.named, fun w hw => atoms_spec (ws := wsX9_setApart) B.pre w (List.mem_cons_of_mem _ hw), B.returns, B.notSynchronized⟩
  obtain ⟨hx, hb, hml, hown, hts, hr, hlocks⟩ := id C0
  have hS : va_S (mk_A am s.heap.size) s.heap s.heap [] := va_S.rf
  have hl := lv_entry ([.ref (am 38), .int a0, .int a1]) (n := 6) (Nat.le_of_ble_eq_true rfl)
  rw [lg_entry_eq]
  generalize (lg_sl ([.ref (am 38), .int a0, .int a1]) ++ List.replicate (6 - (lg_sl ([.ref (am 38), .int a0, .int a1])).length) Slot.unset).toArray = ls at hl ⊢
  have hl : lv_has ls 6 [(0, .ref (am 38)), (1, .int a0), (2, .int a1)] := hl
  show W p l e rmX9_setApart s m _ below meth c s.heap [] 0 0 _ _
  refine lv_aload_n hx hb dX9_setApart_0 rfl (lv_at hl 0 rfl) ?_
  refine lv_iconst (v := 0) hx hb dX9_setApart_1 (by decide) ?_
  refine gk_putf (ty := .int) (v := .int 0) hx hb hts iwX9 tyX9 tyX9_ok nmX9 hown hK.1 hS (mk_A.in List.mem_cons_self) (mk_obj hW) rfl 0 (by decide) (hts _ fl_X9_102) (fun _ h9 => h9) rfl (by decide +kernel) rfl rfl (Nat.le_of_ble_eq_true rfl) dX9_setApart_2 (fun H locs h1 _ oq hS => ?_)
  have hW := hW.setS (i := 0) (v := 0) h1 oq
  refine lv_aload_n hx hb dX9_setApart_5 rfl (lv_at hl 0 rfl) ?_
  refine lv_iload_n hx hb dX9_setApart_6 rfl (lv_at hl 1 rfl) ?_
  refine mk_callRi ⟨hx, hb, hml, hown, hts⟩ (c_X9_isRole l D cI cZ cG cL am hw) (cwV 1 hts (gk_gV ml_X9_142 im_X9_isRole se_X9_isRole in_X9 co_X9_isRole) rfl rfl rfl (by decide +kernel) ⟨Nat.le_of_ble_eq_true rfl, Nat.le_of_ble_eq_true rfl⟩) (gk_recv hK.1 (mk_obj hW) rfl) hW hK trivial hS rfl hl.1 (rest := []) rfl (lv_room (Nat.le_of_ble_eq_true rfl)) dX9_setApart_7 ⟨Nat.le_of_ble_eq_true rfl, Nat.le_of_ble_eq_true rfl⟩ (fun r7 H locs hw hW _ hk hS => ?_)
  refine lv_if_eq (tgt := 21) hx hb dX9_setApart_10 (by decide) (fun c10 => ?_) (fun c10 => ?_)
  · have hw := hw.1 c10
    refine tJ_X9_setApart_21 C0 hK  (gk_s σ 0 0) hw _ _ hW hS  _ (lv_sub hl [0] rfl)
  · have hw := hw.2 c10
    refine lv_aload_n hx hb dX9_setApart_13 rfl (lv_at hl 0 rfl) ?_
    refine lv_iload_n hx hb dX9_setApart_14 rfl (lv_at hl 2 rfl) ?_
    refine mk_callRi ⟨hx, hb, hml, hown, hts⟩ (c_X9_isRole l D cI cZ cG cL am hw) (cwV 1 hts (gk_gV ml_X9_142 im_X9_isRole se_X9_isRole in_X9 co_X9_isRole) rfl rfl rfl (by decide +kernel) ⟨Nat.le_of_ble_eq_true rfl, Nat.le_of_ble_eq_true rfl⟩) (gk_recv hK.1 (mk_obj hW) rfl) hW hK trivial hS rfl hl.1 (rest := []) rfl (lv_room (Nat.le_of_ble_eq_true rfl)) dX9_setApart_15 ⟨Nat.le_of_ble_eq_true rfl, Nat.le_of_ble_eq_true rfl⟩ (fun r15 H locs hw hW _ hk hS => ?_)
    refine lv_if_ne (tgt := 27) hx hb dX9_setApart_18 (by decide) (fun c18 => ?_) (fun c18 => ?_)
    · have hw := hw.1 c18
      refine lv_iload_n hx hb dX9_setApart_27 rfl (lv_at hl 1 rfl) ?_
      refine lv_iload_n hx hb dX9_setApart_28 rfl (lv_at hl 2 rfl) ?_
      refine lv_icmp_ne (tgt := 38) hx hb dX9_setApart_29 (by decide) (fun c29 => ?_) (fun c29 => ?_)
      · have hw := hw.1 c29
        refine lv_iconst (v := 1) hx hb dX9_setApart_38 (by decide) ?_
        refine lv_iload_n hx hb dX9_setApart_39 rfl (lv_at hl 1 rfl) ?_
        refine lv_ishl hx hb dX9_setApart_40 ?_
        refine lv_iconst (v := 1) hx hb dX9_setApart_41 (by decide) ?_
        refine lv_iload_n hx hb dX9_setApart_42 rfl (lv_at hl 2 rfl) ?_
        refine lv_ishl hx hb dX9_setApart_43 ?_
        refine lv_ior hx hb dX9_setApart_44 ?_
        refine lv_istore_n (lv' := [(3, .int ((1 <<< (a0 &&& 31)) ||| (1 <<< (a1 &&& 31)))), (0, .ref (am 38)), (1, .int a0), (2, .int a1)]) hx hb dX9_setApart_45 rfl hl (by decide) rfl (fun ls hl => ?_)
        refine lv_aload_n hx hb dX9_setApart_46 rfl (lv_at hl 1 rfl) ?_
        refine gk_get hx hb hts iwX9 hown hK.1 (mk_obj hW) rfl 9 (by decide) (hts _ fl_X9_133) (fun _ h9 => h9) rfl dX9_setApart_47 ?_
        refine lv_bipush (v := 10) hx hb dX9_setApart_50 (by decide) ?_
        refine lv_icmp_ne (tgt := 59) hx hb dX9_setApart_52 (by decide) (fun c52 => ?_) (fun c52 => ?_)
        · have hw := hw.1 c52
          refine lv_iconst (v := 0) hx hb dX9_setApart_59 (by decide) ?_
          refine lv_istore (lv' := [(4, .int 0), (3, .int ((1 <<< (a0 &&& 31)) ||| (1 <<< (a1 &&& 31)))), (0, .ref (am 38)), (1, .int a0), (2, .int a1)]) hx hb dX9_setApart_60 hl (by decide) rfl (fun ls hl => ?_)
          refine lv_iconst (v := 0) hx hb dX9_setApart_62 (by decide) ?_
          refine lv_istore (lv' := [(5, .int 0), (4, .int 0), (3, .int ((1 <<< (a0 &&& 31)) ||| (1 <<< (a1 &&& 31)))), (0, .ref (am 38)), (1, .int a0), (2, .int a1)]) hx hb dX9_setApart_63 hl (by decide) rfl (fun ls hl => ?_)
          obtain ⟨n65, hw⟩ := hw
          refine tL_X9_setApart_65 C0 hK (hk101 := ?_) n65 (gk_s σ 0 0) ((1 <<< (a0 &&& 31)) ||| (1 <<< (a1 &&& 31))) 0 0 hw _ _ hW hS  _ (lv_sub hl [3, 2, 1, 0] rfl)
          · intro σ x3 x4 hw H locs hW hS  ls hl
            refine lv_iconst (v := 0) hx hb dX9_setApart_101 (by decide) ?_
            refine lv_istore (lv' := [(5, .int 0), (0, .ref (am 38)), (3, .int x3), (4, .int x4)]) hx hb dX9_setApart_102 hl (by decide) rfl (fun ls hl => ?_)
            obtain ⟨n104, hw⟩ := hw
            refine tL_X9_setApart_104 C0 hK (hk146 := ?_) n104 σ x3 x4 0 hw _ _ hW hS  _ (lv_sub hl [1, 2, 3, 0] rfl)
            · intro σ x3 x4 hw H locs hW hS  ls hl
              refine lv_iload hx hb dX9_setApart_146 (lv_at hl 2 rfl) ?_
              refine lv_if_eq (tgt := 157) hx hb dX9_setApart_148 (by decide) (fun c148 => ?_) (fun c148 => ?_)
              · have hw := hw.1 c148
                refine lv_aload_n hx hb dX9_setApart_157 rfl (lv_at hl 0 rfl) ?_
                refine gk_get hx hb hts iwX9 hown hK.1 (mk_obj hW) rfl 10 (by decide) (hts _ fl_X9_22) (fun _ h9 => h9) rfl dX9_setApart_158 ?_
                refine lv_aload_n hx hb dX9_setApart_161 rfl (lv_at hl 0 rfl) ?_
                refine lv_dup hx hb dX9_setApart_162 rfl ?_
                refine gk_get hx hb hts iwX9 hown hK.1 (mk_obj hW) rfl 9 (by decide) (hts _ fl_X9_133) (fun _ h9 => h9) rfl dX9_setApart_163 ?_
                refine lv_dup_x1 hx hb dX9_setApart_166 rfl rfl ?_
                refine lv_iconst (v := 1) hx hb dX9_setApart_167 (by decide) ?_
                refine lv_iadd hx hb dX9_setApart_168 ?_
                refine gk_putf (ty := .int) (v := .int ((σ.2 9) + 1)) hx hb hts iwX9 tyX9 tyX9_ok nmX9 hown hK.1 hS (mk_A.in List.mem_cons_self) (mk_obj hW) rfl 9 (by decide) (hts _ fl_X9_133) (fun _ h9 => h9) rfl (by decide +kernel) rfl rfl (Nat.le_of_ble_eq_true rfl) dX9_setApart_169 (fun H locs h1 _ oq hS => ?_)
                have hW := hW.setS (i := 9) (v := ((σ.2 9) + 1)) h1 oq
                refine lv_iload_n hx hb dX9_setApart_172 rfl (lv_at hl 1 rfl) ?_
                obtain ⟨hin, hw⟩ := hw
                refine gk_iast hx hb hK.1 hS (mk_A.in (k := 10) (by decide)) 0 (mk_arr hW (k := 10) (by decide) (by decide) (by decide)) rfl hin dX9_setApart_173 (fun H locs h1 _ oq hS => ?_)
                have hW := hW.setR (k := 10) (by decide) (by decide) (by decide) h1 oq
                obtain ⟨σ173, eσ173⟩ : ∃ z, z = mk_st (gk_s σ 9 ((σ.2 9) + 1)) 10 (σ.2 9) x3 := ⟨_, rfl⟩
                have hW := mk_stW (Wd := mk_V D cI cZ am) eσ173 hW
                have hw := hw σ173 eσ173
                refine lv_aload_n hx hb dX9_setApart_174 rfl (lv_at hl 0 rfl) ?_
                refine gk_get hx hb hts iwX9 hown hK.1 (mk_obj hW) rfl 9 (by decide) (hts _ fl_X9_133) (fun _ h9 => h9) rfl dX9_setApart_175 ?_
                refine W.widen (k := 0) (n := 0) (Nat.le_of_ble_eq_true rfl) (Nat.le_of_ble_eq_true rfl) ?_
                exact mk_reti C0 hw hW hS dX9_setApart_178
              · have hw := hw.2 c148
                refine lv_aload_n hx hb dX9_setApart_151 rfl (lv_at hl 0 rfl) ?_
                refine lv_iconst (v := 3) hx hb dX9_setApart_152 (by decide) ?_
                refine mk_callVi ⟨hx, hb, hml, hown, hts⟩ (c_X9_no l D cI cZ cG cL am hw) (cwV 1 hts (gk_gV ml_X9_139 im_X9_no se_X9_no in_X9 co_X9_no) rfl rfl rfl (by decide +kernel) ⟨Nat.le_of_ble_eq_true rfl, Nat.le_of_ble_eq_true rfl⟩) (gk_recv hK.1 (mk_obj hW) rfl) hW hK trivial hS rfl hl.1 (rest := []) rfl (lv_room (Nat.le_of_ble_eq_true rfl)) dX9_setApart_153 ⟨Nat.le_of_ble_eq_true rfl, Nat.le_of_ble_eq_true rfl⟩ (fun r153 σ153 H locs hw hW _ hk hS => ?_)
                refine W.widen (k := 0) (n := 0) (Nat.le_of_ble_eq_true rfl) (Nat.le_of_ble_eq_true rfl) ?_
                exact mk_reti C0 hw hW hS dX9_setApart_156
        · have hw := hw.2 c52
          refine lv_iconst (v := 1) hx hb dX9_setApart_55 (by decide) ?_
          refine lv_goto (tgt := 60) hx hb dX9_setApart_56 (by decide) ?_
          refine lv_istore (lv' := [(4, .int 1), (3, .int ((1 <<< (a0 &&& 31)) ||| (1 <<< (a1 &&& 31)))), (0, .ref (am 38)), (1, .int a0), (2, .int a1)]) hx hb dX9_setApart_60 hl (by decide) rfl (fun ls hl => ?_)
          refine lv_iconst (v := 0) hx hb dX9_setApart_62 (by decide) ?_
          refine lv_istore (lv' := [(5, .int 0), (4, .int 1), (3, .int ((1 <<< (a0 &&& 31)) ||| (1 <<< (a1 &&& 31)))), (0, .ref (am 38)), (1, .int a0), (2, .int a1)]) hx hb dX9_setApart_63 hl (by decide) rfl (fun ls hl => ?_)
          obtain ⟨n65, hw⟩ := hw
          refine tL_X9_setApart_65 C0 hK (hk101 := ?_) n65 (gk_s σ 0 0) ((1 <<< (a0 &&& 31)) ||| (1 <<< (a1 &&& 31))) 1 0 hw _ _ hW hS  _ (lv_sub hl [3, 2, 1, 0] rfl)
          · intro σ x3 x4 hw H locs hW hS  ls hl
            refine lv_iconst (v := 0) hx hb dX9_setApart_101 (by decide) ?_
            refine lv_istore (lv' := [(5, .int 0), (0, .ref (am 38)), (3, .int x3), (4, .int x4)]) hx hb dX9_setApart_102 hl (by decide) rfl (fun ls hl => ?_)
            obtain ⟨n104, hw⟩ := hw
            refine tL_X9_setApart_104 C0 hK (hk146 := ?_) n104 σ x3 x4 0 hw _ _ hW hS  _ (lv_sub hl [1, 2, 3, 0] rfl)
            · intro σ x3 x4 hw H locs hW hS  ls hl
              refine lv_iload hx hb dX9_setApart_146 (lv_at hl 2 rfl) ?_
              refine lv_if_eq (tgt := 157) hx hb dX9_setApart_148 (by decide) (fun c148 => ?_) (fun c148 => ?_)
              · have hw := hw.1 c148
                refine lv_aload_n hx hb dX9_setApart_157 rfl (lv_at hl 0 rfl) ?_
                refine gk_get hx hb hts iwX9 hown hK.1 (mk_obj hW) rfl 10 (by decide) (hts _ fl_X9_22) (fun _ h9 => h9) rfl dX9_setApart_158 ?_
                refine lv_aload_n hx hb dX9_setApart_161 rfl (lv_at hl 0 rfl) ?_
                refine lv_dup hx hb dX9_setApart_162 rfl ?_
                refine gk_get hx hb hts iwX9 hown hK.1 (mk_obj hW) rfl 9 (by decide) (hts _ fl_X9_133) (fun _ h9 => h9) rfl dX9_setApart_163 ?_
                refine lv_dup_x1 hx hb dX9_setApart_166 rfl rfl ?_
                refine lv_iconst (v := 1) hx hb dX9_setApart_167 (by decide) ?_
                refine lv_iadd hx hb dX9_setApart_168 ?_
                refine gk_putf (ty := .int) (v := .int ((σ.2 9) + 1)) hx hb hts iwX9 tyX9 tyX9_ok nmX9 hown hK.1 hS (mk_A.in List.mem_cons_self) (mk_obj hW) rfl 9 (by decide) (hts _ fl_X9_133) (fun _ h9 => h9) rfl (by decide +kernel) rfl rfl (Nat.le_of_ble_eq_true rfl) dX9_setApart_169 (fun H locs h1 _ oq hS => ?_)
                have hW := hW.setS (i := 9) (v := ((σ.2 9) + 1)) h1 oq
                refine lv_iload_n hx hb dX9_setApart_172 rfl (lv_at hl 1 rfl) ?_
                obtain ⟨hin, hw⟩ := hw
                refine gk_iast hx hb hK.1 hS (mk_A.in (k := 10) (by decide)) 0 (mk_arr hW (k := 10) (by decide) (by decide) (by decide)) rfl hin dX9_setApart_173 (fun H locs h1 _ oq hS => ?_)
                have hW := hW.setR (k := 10) (by decide) (by decide) (by decide) h1 oq
                obtain ⟨σ173, eσ173⟩ : ∃ z, z = mk_st (gk_s σ 9 ((σ.2 9) + 1)) 10 (σ.2 9) x3 := ⟨_, rfl⟩
                have hW := mk_stW (Wd := mk_V D cI cZ am) eσ173 hW
                have hw := hw σ173 eσ173
                refine lv_aload_n hx hb dX9_setApart_174 rfl (lv_at hl 0 rfl) ?_
                refine gk_get hx hb hts iwX9 hown hK.1 (mk_obj hW) rfl 9 (by decide) (hts _ fl_X9_133) (fun _ h9 => h9) rfl dX9_setApart_175 ?_
                refine W.widen (k := 0) (n := 0) (Nat.le_of_ble_eq_true rfl) (Nat.le_of_ble_eq_true rfl) ?_
                exact mk_reti C0 hw hW hS dX9_setApart_178
              · have hw := hw.2 c148
                refine lv_aload_n hx hb dX9_setApart_151 rfl (lv_at hl 0 rfl) ?_
                refine lv_iconst (v := 3) hx hb dX9_setApart_152 (by decide) ?_
                refine mk_callVi ⟨hx, hb, hml, hown, hts⟩ (c_X9_no l D cI cZ cG cL am hw) (cwV 1 hts (gk_gV ml_X9_139 im_X9_no se_X9_no in_X9 co_X9_no) rfl rfl rfl (by decide +kernel) ⟨Nat.le_of_ble_eq_true rfl, Nat.le_of_ble_eq_true rfl⟩) (gk_recv hK.1 (mk_obj hW) rfl) hW hK trivial hS rfl hl.1 (rest := []) rfl (lv_room (Nat.le_of_ble_eq_true rfl)) dX9_setApart_153 ⟨Nat.le_of_ble_eq_true rfl, Nat.le_of_ble_eq_true rfl⟩ (fun r153 σ153 H locs hw hW _ hk hS => ?_)
                refine W.widen (k := 0) (n := 0) (Nat.le_of_ble_eq_true rfl) (Nat.le_of_ble_eq_true rfl) ?_
                exact mk_reti C0 hw hW hS dX9_setApart_156
      · have hw := hw.2 c29
        refine lv_aload_n hx hb dX9_setApart_32 rfl (lv_at hl 0 rfl) ?_
        refine lv_iconst (v := 2) hx hb dX9_setApart_33 (by decide) ?_
        refine mk_callVi ⟨hx, hb, hml, hown, hts⟩ (c_X9_no l D cI cZ cG cL am hw) (cwV 1 hts (gk_gV ml_X9_139 im_X9_no se_X9_no in_X9 co_X9_no) rfl rfl rfl (by decide +kernel) ⟨Nat.le_of_ble_eq_true rfl, Nat.le_of_ble_eq_true rfl⟩) (gk_recv hK.1 (mk_obj hW) rfl) hW hK trivial hS rfl hl.1 (rest := []) rfl (lv_room (Nat.le_of_ble_eq_true rfl)) dX9_setApart_34 ⟨Nat.le_of_ble_eq_true rfl, Nat.le_of_ble_eq_true rfl⟩ (fun r34 σ34 H locs hw hW _ hk hS => ?_)
        refine W.widen (k := 0) (n := 0) (Nat.le_of_ble_eq_true rfl) (Nat.le_of_ble_eq_true rfl) ?_
        exact mk_reti C0 hw hW hS dX9_setApart_37
    · have hw := hw.2 c18
      refine tJ_X9_setApart_21 C0 hK  (gk_s σ 0 0) hw _ _ hW hS  _ (lv_sub hl [0] rfl)
def wJ_X9_near_39 (Q : Int32 → gk_C → Prop) (σ : gk_C) : Prop := (w_X9_no σ 1 (fun r41 σ41 => Q r41 σ41))
def w_X9_near (σ : gk_C) (a0 : Int32) (a1 : Int32) (Q : Int32 → gk_C → Prop) : Prop := (w_X9_isUser (gk_s σ 0 0) a0 (fun r7 => ((r7 = 0) → (wJ_X9_near_39 Q (gk_s σ 0 0))) ∧ ((¬ r7 = 0) → (w_X9_isRole (gk_s σ 0 0) a1 (fun r15 => ((r15 = 0) → (wJ_X9_near_39 Q (gk_s σ 0 0))) ∧ ((¬ r15 = 0) → (vp_in a0 12 ∧ w_X9_nears (gk_s σ 0 0) ((gk_s σ 0 0).1 4 a0.toNatClampNeg) (fun fc28 => vp_in a1 12 ∧ w_X9_orNone (fc28 a1.toNatClampNeg) (fun r33 => Q r33 (gk_s σ 0 0))))))))))
abbrev rmX9_near : Room := { frames := 2, cells := 1, slots := 12, locals := 48 }
set_option maxHeartbeats 4000000 in
set_option maxRecDepth 100000 in
theorem tJ_X9_near_39 {p : Program} {l : Launch} {e : Env} {s : State} {m : MethodId} {args : Array Value} {below : List Frame} {meth : Method} {c : Code} {D : va_G} {cI cZ cG cL : ClassId} {am : Nat → Nat} (C0 : gk_F p s m args meth c cX9_near 3 (some .int) RX9) (hK : gk_K D cI cZ cG cL s) {Q : Int32 → gk_C → Prop} : ∀ (σ : gk_C), wJ_X9_near_39 Q σ → ∀ (H : Heap) (locs : List Loc), mk_V D cI cZ am σ H → va_S (mk_A am s.heap.size) s.heap H locs → ∀ (ls : Array Slot), lv_has ls 3 [(0, .ref (am 38))] → W p l e rmX9_near s m args below meth c H locs 0 0 (MQ below (va_Qi (fun r u => Q r u) (mk_B (mk_V D cI cZ am)) (mk_A am s.heap.size)) args s 1 12 (mk_A am s.heap.size)) (F0 m 39 ls []) := by
  obtain ⟨hx, hb, hml, hown, hts, hr, hlocks⟩ := id C0
  intro σ hw H locs hW hS  ls hl
  refine lv_aload_n hx hb dX9_near_39 rfl (lv_at hl 0 rfl) ?_
  refine lv_iconst (v := 1) hx hb dX9_near_40 (by decide) ?_
  refine mk_callVi ⟨hx, hb, hml, hown, hts⟩ (c_X9_no l D cI cZ cG cL am hw) (cwV 1 hts (gk_gV ml_X9_139 im_X9_no se_X9_no in_X9 co_X9_no) rfl rfl rfl (by decide +kernel) ⟨Nat.le_of_ble_eq_true rfl, Nat.le_of_ble_eq_true rfl⟩) (gk_recv hK.1 (mk_obj hW) rfl) hW hK trivial hS rfl hl.1 (rest := []) rfl (lv_room (Nat.le_of_ble_eq_true rfl)) dX9_near_41 ⟨Nat.le_of_ble_eq_true rfl, Nat.le_of_ble_eq_true rfl⟩ (fun r41 σ41 H locs hw hW _ hk hS => ?_)
  refine W.widen (k := 1) (n := 12) (Nat.le_of_ble_eq_true rfl) (Nat.le_of_ble_eq_true rfl) ?_
  exact mk_reti C0 hw hW hS dX9_near_44
set_option maxHeartbeats 4000000 in
set_option maxRecDepth 100000 in
theorem c_X9_near (l : Launch) (D : va_G) (cI cZ cG cL : ClassId) (am : Nat → Nat) {σ : gk_C} {a0 : Int32} {a1 : Int32} {Q : Int32 → gk_C → Prop} {sz : Nat} (hw : w_X9_near σ a0 a1 Q) : Met l yX9_near wsX9_near rmX9_near (mk_Pc (mk_V D cI cZ am) D cI cZ cG cL [.ref (am 38), .int a0, .int a1] sz σ (fun _ => True)) (va_Qi (fun r u => Q r u) (mk_B (mk_V D cI cZ am)) (mk_A am sz)) 1 12 (mk_A am sz) := by
  refine Met.ofW (cc := cX9_near) (maxL := 3) (ret := (some .int)) (by decide) rfl ?_
  intro p e s m args below meth c s₁ B hml0 hv0
  obtain ⟨rfl, hsz, hW, hK, hX⟩ := hv0
  subst hsz
  have C0 : gk_F p s m ([.ref (am 38), .int a0, .int a1] : List Value).toArray meth c cX9_near 3 (some .int) RX9 := ⟨B.exec, B.bytes, hml0, findClass_of_methodNamed B.named, fun w hw => atoms_spec (ws := wsX9_near) B.pre w (List.mem_cons_of_mem _ hw), B.returns, B.notSynchronized⟩
  obtain ⟨hx, hb, hml, hown, hts, hr, hlocks⟩ := id C0
  have hS : va_S (mk_A am s.heap.size) s.heap s.heap [] := va_S.rf
  have hl := lv_entry ([.ref (am 38), .int a0, .int a1]) (n := 3) (Nat.le_of_ble_eq_true rfl)
  rw [lg_entry_eq]
  generalize (lg_sl ([.ref (am 38), .int a0, .int a1]) ++ List.replicate (3 - (lg_sl ([.ref (am 38), .int a0, .int a1])).length) Slot.unset).toArray = ls at hl ⊢
  have hl : lv_has ls 3 [(0, .ref (am 38)), (1, .int a0), (2, .int a1)] := hl
  show W p l e rmX9_near s m _ below meth c s.heap [] 0 0 _ _
  refine lv_aload_n hx hb dX9_near_0 rfl (lv_at hl 0 rfl) ?_
  refine lv_iconst (v := 0) hx hb dX9_near_1 (by decide) ?_
  refine gk_putf (ty := .int) (v := .int 0) hx hb hts iwX9 tyX9 tyX9_ok nmX9 hown hK.1 hS (mk_A.in List.mem_cons_self) (mk_obj hW) rfl 0 (by decide) (hts _ fl_X9_102) (fun _ h9 => h9) rfl (by decide +kernel) rfl rfl (Nat.le_of_ble_eq_true rfl) dX9_near_2 (fun H locs h1 _ oq hS => ?_)
  have hW := hW.setS (i := 0) (v := 0) h1 oq
  refine lv_aload_n hx hb dX9_near_5 rfl (lv_at hl 0 rfl) ?_
  refine lv_iload_n hx hb dX9_near_6 rfl (lv_at hl 1 rfl) ?_
  refine mk_callRi ⟨hx, hb, hml, hown, hts⟩ (c_X9_isUser l D cI cZ cG cL am hw) (cwV 1 hts (gk_gV ml_X9_115 im_X9_isUser se_X9_isUser in_X9 co_X9_isUser) rfl rfl rfl (by decide +kernel) ⟨Nat.le_of_ble_eq_true rfl, Nat.le_of_ble_eq_true rfl⟩) (gk_recv hK.1 (mk_obj hW) rfl) hW hK trivial hS rfl hl.1 (rest := []) rfl (lv_room (Nat.le_of_ble_eq_true rfl)) dX9_near_7 ⟨Nat.le_of_ble_eq_true rfl, Nat.le_of_ble_eq_true rfl⟩ (fun r7 H locs hw hW _ hk hS => ?_)
  refine lv_if_eq (tgt := 39) hx hb dX9_near_10 (by decide) (fun c10 => ?_) (fun c10 => ?_)
  · have hw := hw.1 c10
    refine tJ_X9_near_39 C0 hK  (gk_s σ 0 0) hw _ _ hW hS  _ (lv_sub hl [0] rfl)
  · have hw := hw.2 c10
    refine lv_aload_n hx hb dX9_near_13 rfl (lv_at hl 0 rfl) ?_
    refine lv_iload_n hx hb dX9_near_14 rfl (lv_at hl 2 rfl) ?_
    refine mk_callRi ⟨hx, hb, hml, hown, hts⟩ (c_X9_isRole l D cI cZ cG cL am hw) (cwV 1 hts (gk_gV ml_X9_142 im_X9_isRole se_X9_isRole in_X9 co_X9_isRole) rfl rfl rfl (by decide +kernel) ⟨Nat.le_of_ble_eq_true rfl, Nat.le_of_ble_eq_true rfl⟩) (gk_recv hK.1 (mk_obj hW) rfl) hW hK trivial hS rfl hl.1 (rest := []) rfl (lv_room (Nat.le_of_ble_eq_true rfl)) dX9_near_15 ⟨Nat.le_of_ble_eq_true rfl, Nat.le_of_ble_eq_true rfl⟩ (fun r15 H locs hw hW _ hk hS => ?_)
    refine lv_if_eq (tgt := 39) hx hb dX9_near_18 (by decide) (fun c18 => ?_) (fun c18 => ?_)
    · have hw := hw.1 c18
      refine tJ_X9_near_39 C0 hK  (gk_s σ 0 0) hw _ _ hW hS  _ (lv_sub hl [0] rfl)
    · have hw := hw.2 c18
      refine lv_aload_n hx hb dX9_near_21 rfl (lv_at hl 0 rfl) ?_
      refine lv_aload_n hx hb dX9_near_22 rfl (lv_at hl 0 rfl) ?_
      refine gk_get hx hb hts iwX9 hown hK.1 (mk_obj hW) rfl 4 (by decide) (hts _ fl_X9_9) (fun _ h9 => h9) rfl dX9_near_23 ?_
      refine lv_iload_n hx hb dX9_near_26 rfl (lv_at hl 1 rfl) ?_
      obtain ⟨hin, hw⟩ := hw
      refine gk_iald hx hb hK.1 0 (mk_arr hW (k := 4) (by decide) (by decide) (by decide)) rfl hin dX9_near_27 ?_
      refine mk_callVa ⟨hx, hb, hml, hown, hts⟩ (c_X9_nears l D cI cZ cG cL am hw) (cwV 1 hts (gk_gV ml_X9_155 im_X9_nears se_X9_nears in_X9 co_X9_nears) rfl rfl rfl (by decide +kernel) ⟨Nat.le_of_ble_eq_true rfl, Nat.le_of_ble_eq_true rfl⟩) (gk_recv hK.1 (mk_obj hW) rfl) hW hK trivial hS rfl hl.1 (rest := []) rfl (lv_room (Nat.le_of_ble_eq_true rfl)) dX9_near_28 ⟨Nat.le_of_ble_eq_true rfl, Nat.le_of_ble_eq_true rfl⟩ (fun fc28 qc28 H locs hw hW hdc28 hb0 hgc28 _ hk hS => ?_)
      refine lv_iload_n hx hb dX9_near_31 rfl (lv_at hl 2 rfl) ?_
      obtain ⟨hin, hw⟩ := hw
      refine gk_iald hx hb hK.1 0 hdc28.1 rfl hin dX9_near_32 ?_
      refine gk_callSi ⟨hx, hb, hml, hown, hts⟩ (c_X9_orNone l hw) (va_cwS 1 hts (gk_gS ml_X9_158 st_X9_orNone in_X9 co_X9_orNone) rfl rfl rfl (by decide +kernel) ⟨Nat.le_of_ble_eq_true rfl, Nat.le_of_ble_eq_true rfl⟩) hS rfl hl.1 (rest := []) rfl (lv_room (Nat.le_of_ble_eq_true rfl)) dX9_near_33 ⟨Nat.le_of_ble_eq_true rfl, Nat.le_of_ble_eq_true rfl⟩ (fun r33 H locs hw _ hk hS => ?_)
      have hW := hW.keptAll hk
      refine lv_goto (tgt := 44) hx hb dX9_near_36 (by decide) ?_
      refine W.widen (k := 1) (n := 12) (Nat.le_of_ble_eq_true rfl) (Nat.le_of_ble_eq_true rfl) ?_
      exact mk_reti C0 hw hW hS dX9_near_44
def wJ_X9_matches_57 (Q : Int32 → gk_C → Prop) (σ : gk_C) : Prop := (w_X9_isNot σ 1 (fun r59 σ59 => gk_z r59 ∧ Q r59 σ59))
def w_X9_matches (σ : gk_C) (a0 : Int32) (a1 : Int32) (a2 : Int32) (a3 : Int32) (Q : Int32 → gk_C → Prop) : Prop := (w_X9_isRule (gk_s σ 0 0) a0 (fun r7 => ((r7 = 0) → (wJ_X9_matches_57 Q (gk_s σ 0 0))) ∧ ((¬ r7 = 0) → (w_X9_isQuestion (gk_s σ 0 0) a1 a2 a3 (fun r18 => ((r18 = 0) → (wJ_X9_matches_57 Q (gk_s σ 0 0))) ∧ ((¬ r18 = 0) → (vp_in a1 12 ∧ w_X9_nears (gk_s σ 0 0) ((gk_s σ 0 0).1 4 a1.toNatClampNeg) (fun fc33 => w_X9_matching (gk_s σ 0 0) a1 fc33 a2 a3 (fun r39 => ((((r39 >>> (a0 &&& 31)) &&& 1) = 0) → (Q 0 (gk_s σ 0 0))) ∧ ((¬ ((r39 >>> (a0 &&& 31)) &&& 1) = 0) → (Q 1 (gk_s σ 0 0))))))))))))
abbrev rmX9_matches : Room := { frames := 4, cells := 1, slots := 12, locals := 94 }
set_option maxHeartbeats 4000000 in
set_option maxRecDepth 100000 in
theorem tJ_X9_matches_57 {p : Program} {l : Launch} {e : Env} {s : State} {m : MethodId} {args : Array Value} {below : List Frame} {meth : Method} {c : Code} {D : va_G} {cI cZ cG cL : ClassId} {am : Nat → Nat} (C0 : gk_F p s m args meth c cX9_matches 5 (some .boolean) RX9) (hK : gk_K D cI cZ cG cL s) {Q : Int32 → gk_C → Prop} : ∀ (σ : gk_C), wJ_X9_matches_57 Q σ → ∀ (H : Heap) (locs : List Loc), mk_V D cI cZ am σ H → va_S (mk_A am s.heap.size) s.heap H locs → ∀ (ls : Array Slot), lv_has ls 5 [(0, .ref (am 38))] → W p l e rmX9_matches s m args below meth c H locs 0 0 (MQ below (va_Qi (fun r u => Q r u) (mk_B (mk_V D cI cZ am)) (mk_A am s.heap.size)) args s 1 12 (mk_A am s.heap.size)) (F0 m 57 ls []) := by
  obtain ⟨hx, hb, hml, hown, hts, hr, hlocks⟩ := id C0
  intro σ hw H locs hW hS  ls hl
  refine lv_aload_n hx hb dX9_matches_57 rfl (lv_at hl 0 rfl) ?_
  refine lv_iconst (v := 1) hx hb dX9_matches_58 (by decide) ?_
  refine mk_callVi ⟨hx, hb, hml, hown, hts⟩ (c_X9_isNot l D cI cZ cG cL am hw) (cwV 1 hts (gk_gV ml_X9_145 im_X9_isNot se_X9_isNot in_X9 co_X9_isNot) rfl rfl rfl (by decide +kernel) ⟨Nat.le_of_ble_eq_true rfl, Nat.le_of_ble_eq_true rfl⟩) (gk_recv hK.1 (mk_obj hW) rfl) hW hK trivial hS rfl hl.1 (rest := []) rfl (lv_room (Nat.le_of_ble_eq_true rfl)) dX9_matches_59 ⟨Nat.le_of_ble_eq_true rfl, Nat.le_of_ble_eq_true rfl⟩ (fun r59 σ59 H locs hw hW _ hk hS => ?_)
  refine W.widen (k := 1) (n := 12) (Nat.le_of_ble_eq_true rfl) (Nat.le_of_ble_eq_true rfl) ?_
  obtain ⟨hz, hw⟩ := hw
  exact mk_retz C0 hz hw hW hS dX9_matches_62
set_option maxHeartbeats 4000000 in
set_option maxRecDepth 100000 in
theorem c_X9_matches (l : Launch) (D : va_G) (cI cZ cG cL : ClassId) (am : Nat → Nat) {σ : gk_C} {a0 : Int32} {a1 : Int32} {a2 : Int32} {a3 : Int32} {Q : Int32 → gk_C → Prop} {sz : Nat} (hw : w_X9_matches σ a0 a1 a2 a3 Q) : Met l yX9_matches wsX9_matches rmX9_matches (mk_Pc (mk_V D cI cZ am) D cI cZ cG cL [.ref (am 38), .int a0, .int a1, .int a2, .int a3] sz σ (fun _ => True)) (va_Qi (fun r u => Q r u) (mk_B (mk_V D cI cZ am)) (mk_A am sz)) 1 12 (mk_A am sz) := by
  refine Met.ofW (cc := cX9_matches) (maxL := 5) (ret := (some .boolean)) (by decide) rfl ?_
  intro p e s m args below meth c s₁ B hml0 hv0
  obtain ⟨rfl, hsz, hW, hK, hX⟩ := hv0
  subst hsz
  have C0 : gk_F p s m ([.ref (am 38), .int a0, .int a1, .int a2, .int a3] : List Value).toArray meth c cX9_matches 5 (some .boolean) RX9 := ⟨B.exec, B.bytes, hml0, findClass_of_methodNamed B.named, fun w hw => atoms_spec (ws := wsX9_matches) B.pre w (List.mem_cons_of_mem _ hw), B.returns, B.notSynchronized⟩
  obtain ⟨hx, hb, hml, hown, hts, hr, hlocks⟩ := id C0
  have hS : va_S (mk_A am s.heap.size) s.heap s.heap [] := va_S.rf
  have hl := lv_entry ([.ref (am 38), .int a0, .int a1, .int a2, .int a3]) (n := 5) (Nat.le_of_ble_eq_true rfl)
  rw [lg_entry_eq]
  generalize (lg_sl ([.ref (am 38), .int a0, .int a1, .int a2, .int a3]) ++ List.replicate (5 - (lg_sl ([.ref (am 38), .int a0, .int a1, .int a2, .int a3])).length) Slot.unset).toArray = ls at hl ⊢
  have hl : lv_has ls 5 [(0, .ref (am 38)), (1, .int a0), (2, .int a1), (3, .int a2), (4, .int a3)] := hl
  show W p l e rmX9_matches s m _ below meth c s.heap [] 0 0 _ _
  refine lv_aload_n hx hb dX9_matches_0 rfl (lv_at hl 0 rfl) ?_
  refine lv_iconst (v := 0) hx hb dX9_matches_1 (by decide) ?_
  refine gk_putf (ty := .int) (v := .int 0) hx hb hts iwX9 tyX9 tyX9_ok nmX9 hown hK.1 hS (mk_A.in List.mem_cons_self) (mk_obj hW) rfl 0 (by decide) (hts _ fl_X9_102) (fun _ h9 => h9) rfl (by decide +kernel) rfl rfl (Nat.le_of_ble_eq_true rfl) dX9_matches_2 (fun H locs h1 _ oq hS => ?_)
  have hW := hW.setS (i := 0) (v := 0) h1 oq
  refine lv_aload_n hx hb dX9_matches_5 rfl (lv_at hl 0 rfl) ?_
  refine lv_iload_n hx hb dX9_matches_6 rfl (lv_at hl 1 rfl) ?_
  refine mk_callRi ⟨hx, hb, hml, hown, hts⟩ (c_X9_isRule l D cI cZ cG cL am hw) (cwV 1 hts (gk_gV ml_X9_168 im_X9_isRule se_X9_isRule in_X9 co_X9_isRule) rfl rfl rfl (by decide +kernel) ⟨Nat.le_of_ble_eq_true rfl, Nat.le_of_ble_eq_true rfl⟩) (gk_recv hK.1 (mk_obj hW) rfl) hW hK trivial hS rfl hl.1 (rest := []) rfl (lv_room (Nat.le_of_ble_eq_true rfl)) dX9_matches_7 ⟨Nat.le_of_ble_eq_true rfl, Nat.le_of_ble_eq_true rfl⟩ (fun r7 H locs hw hW _ hk hS => ?_)
  refine lv_if_eq (tgt := 57) hx hb dX9_matches_10 (by decide) (fun c10 => ?_) (fun c10 => ?_)
  · have hw := hw.1 c10
    refine tJ_X9_matches_57 C0 hK  (gk_s σ 0 0) hw _ _ hW hS  _ (lv_sub hl [0] rfl)
  · have hw := hw.2 c10
    refine lv_aload_n hx hb dX9_matches_13 rfl (lv_at hl 0 rfl) ?_
    refine lv_iload_n hx hb dX9_matches_14 rfl (lv_at hl 2 rfl) ?_
    refine lv_iload_n hx hb dX9_matches_15 rfl (lv_at hl 3 rfl) ?_
    refine lv_iload hx hb dX9_matches_16 (lv_at hl 4 rfl) ?_
    refine mk_callRi ⟨hx, hb, hml, hown, hts⟩ (c_X9_isQuestion l D cI cZ cG cL am hw) (cwV 3 hts (gk_gV ml_X9_196 im_X9_isQuestion se_X9_isQuestion in_X9 co_X9_isQuestion) rfl rfl rfl (by decide +kernel) ⟨Nat.le_of_ble_eq_true rfl, Nat.le_of_ble_eq_true rfl⟩) (gk_recv hK.1 (mk_obj hW) rfl) hW hK trivial hS rfl hl.1 (rest := []) rfl (lv_room (Nat.le_of_ble_eq_true rfl)) dX9_matches_18 ⟨Nat.le_of_ble_eq_true rfl, Nat.le_of_ble_eq_true rfl⟩ (fun r18 H locs hw hW _ hk hS => ?_)
    refine lv_if_eq (tgt := 57) hx hb dX9_matches_21 (by decide) (fun c21 => ?_) (fun c21 => ?_)
    · have hw := hw.1 c21
      refine tJ_X9_matches_57 C0 hK  (gk_s σ 0 0) hw _ _ hW hS  _ (lv_sub hl [0] rfl)
    · have hw := hw.2 c21
      refine lv_aload_n hx hb dX9_matches_24 rfl (lv_at hl 0 rfl) ?_
      refine lv_iload_n hx hb dX9_matches_25 rfl (lv_at hl 2 rfl) ?_
      refine lv_aload_n hx hb dX9_matches_26 rfl (lv_at hl 0 rfl) ?_
      refine lv_aload_n hx hb dX9_matches_27 rfl (lv_at hl 0 rfl) ?_
      refine gk_get hx hb hts iwX9 hown hK.1 (mk_obj hW) rfl 4 (by decide) (hts _ fl_X9_9) (fun _ h9 => h9) rfl dX9_matches_28 ?_
      refine lv_iload_n hx hb dX9_matches_31 rfl (lv_at hl 2 rfl) ?_
      obtain ⟨hin, hw⟩ := hw
      refine gk_iald hx hb hK.1 0 (mk_arr hW (k := 4) (by decide) (by decide) (by decide)) rfl hin dX9_matches_32 ?_
      refine mk_callVa ⟨hx, hb, hml, hown, hts⟩ (c_X9_nears l D cI cZ cG cL am hw) (cwV 1 hts (gk_gV ml_X9_155 im_X9_nears se_X9_nears in_X9 co_X9_nears) rfl rfl rfl (by decide +kernel) ⟨Nat.le_of_ble_eq_true rfl, Nat.le_of_ble_eq_true rfl⟩) (gk_recv hK.1 (mk_obj hW) rfl) hW hK trivial hS rfl hl.1 (rest := [.int a1, .ref (am 38)]) rfl (lv_room (Nat.le_of_ble_eq_true rfl)) dX9_matches_33 ⟨Nat.le_of_ble_eq_true rfl, Nat.le_of_ble_eq_true rfl⟩ (fun fc33 qc33 H locs hw hW hdc33 hb0 hgc33 _ hk hS => ?_)
      refine lv_iload_n hx hb dX9_matches_36 rfl (lv_at hl 3 rfl) ?_
      refine lv_iload hx hb dX9_matches_37 (lv_at hl 4 rfl) ?_
      refine mk_callRi ⟨hx, hb, hml, hown, hts⟩ (c_X9_matching l D cI cZ cG cL am hw) (cwV 4 hts (gk_gV ml_X9_199 im_X9_matching se_X9_matching in_X9 co_X9_matching) rfl rfl rfl (by decide +kernel) ⟨Nat.le_of_ble_eq_true rfl, Nat.le_of_ble_eq_true rfl⟩) (gk_recv hK.1 (mk_obj hW) rfl) hW hK ⟨hdc33, trivial⟩ hS rfl hl.1 (rest := []) rfl (lv_room (Nat.le_of_ble_eq_true rfl)) dX9_matches_39 ⟨Nat.le_of_ble_eq_true rfl, Nat.le_of_ble_eq_true rfl⟩ (fun r39 H locs hw hW _ hk hS => ?_)
      refine lv_iload_n hx hb dX9_matches_42 rfl (lv_at hl 1 rfl) ?_
      refine lv_ishr hx hb dX9_matches_43 ?_
      refine lv_iconst (v := 1) hx hb dX9_matches_44 (by decide) ?_
      refine lv_iand hx hb dX9_matches_45 ?_
      refine lv_if_eq (tgt := 53) hx hb dX9_matches_46 (by decide) (fun c46 => ?_) (fun c46 => ?_)
      · have hw := hw.1 c46
        refine lv_iconst (v := 0) hx hb dX9_matches_53 (by decide) ?_
        refine lv_goto (tgt := 62) hx hb dX9_matches_54 (by decide) ?_
        refine W.widen (k := 1) (n := 12) (Nat.le_of_ble_eq_true rfl) (Nat.le_of_ble_eq_true rfl) ?_
        exact mk_retz C0 (by decide) hw hW hS dX9_matches_62
      · have hw := hw.2 c46
        refine lv_iconst (v := 1) hx hb dX9_matches_49 (by decide) ?_
        refine lv_goto (tgt := 62) hx hb dX9_matches_50 (by decide) ?_
        refine W.widen (k := 1) (n := 12) (Nat.le_of_ble_eq_true rfl) (Nat.le_of_ble_eq_true rfl) ?_
        exact mk_retz C0 (by decide) hw hW hS dX9_matches_62
def w_X9_deciding (σ : gk_C) (a0 : Int32) (fP1 : Nat → Int32) (a2 : Int32) (a3 : Int32) (a4 : Int32) (Q : Int32 → Prop) : Prop := (w_X9_matching σ a0 fP1 a2 a3 (fun r7 => wv_X9_weigh σ r7 fP1 a3 a4 (fun r15 => Q r15)))
abbrev rmX9_deciding : Room := { frames := 4, cells := 0, slots := 0, locals := 94 }
set_option maxHeartbeats 4000000 in
set_option maxRecDepth 100000 in
theorem c_X9_deciding (l : Launch) (D : va_G) (cI cZ cG cL : ClassId) (am : Nat → Nat) {σ : gk_C} {a0 : Int32} {fP1 : Nat → Int32} {a2 : Int32} {a3 : Int32} {a4 : Int32} {qP1 : Nat} {Q : Int32 → Prop} {sz : Nat} (hw : w_X9_deciding σ a0 fP1 a2 a3 a4 Q) : Met l yX9_deciding wsX9_deciding rmX9_deciding (mk_Pc (mk_V D cI cZ am) D cI cZ cG cL [.ref (am 38), .int a0, .ref qP1, .int a2, .int a3, .int a4] sz σ (fun H => mk_D D cI am qP1 12 fP1 H ∧ True)) (va_Qi (fun r u => u = σ ∧ Q r) (mk_B (mk_V D cI cZ am)) (mk_A am sz)) 0 0 (mk_A am sz) := by
  refine Met.ofW (cc := cX9_deciding) (maxL := 6) (ret := (some .int)) (by decide) rfl ?_
  intro p e s m args below meth c s₁ B hml0 hv0
  obtain ⟨rfl, hsz, hW, hK, hX⟩ := hv0
  subst hsz
  obtain ⟨hxP1, _⟩ := hX
  have C0 : gk_F p s m ([.ref (am 38), .int a0, .ref qP1, .int a2, .int a3, .int a4] : List Value).toArray meth c cX9_deciding 6 (some .int) RX9 := ⟨B.exec, B.bytes, hml0, findClass_of_methodNamed B.named, fun w hw => atoms_spec (ws := wsX9_deciding) B.pre w (List.mem_cons_of_mem _ hw), B.returns, B.notSynchronized⟩
  obtain ⟨hx, hb, hml, hown, hts, hr, hlocks⟩ := id C0
  have hS : va_S (mk_A am s.heap.size) s.heap s.heap [] := va_S.rf
  have hl := lv_entry ([.ref (am 38), .int a0, .ref qP1, .int a2, .int a3, .int a4]) (n := 6) (Nat.le_of_ble_eq_true rfl)
  rw [lg_entry_eq]
  generalize (lg_sl ([.ref (am 38), .int a0, .ref qP1, .int a2, .int a3, .int a4]) ++ List.replicate (6 - (lg_sl ([.ref (am 38), .int a0, .ref qP1, .int a2, .int a3, .int a4])).length) Slot.unset).toArray = ls at hl ⊢
  have hl : lv_has ls 6 [(0, .ref (am 38)), (1, .int a0), (2, .ref qP1), (3, .int a2), (4, .int a3), (5, .int a4)] := hl
  show W p l e rmX9_deciding s m _ below meth c s.heap [] 0 0 _ _
  refine lv_aload_n hx hb dX9_deciding_0 rfl (lv_at hl 0 rfl) ?_
  refine lv_aload_n hx hb dX9_deciding_1 rfl (lv_at hl 0 rfl) ?_
  refine lv_iload_n hx hb dX9_deciding_2 rfl (lv_at hl 1 rfl) ?_
  refine lv_aload_n hx hb dX9_deciding_3 rfl (lv_at hl 2 rfl) ?_
  refine lv_iload_n hx hb dX9_deciding_4 rfl (lv_at hl 3 rfl) ?_
  refine lv_iload hx hb dX9_deciding_5 (lv_at hl 4 rfl) ?_
  refine mk_callRi ⟨hx, hb, hml, hown, hts⟩ (c_X9_matching l D cI cZ cG cL am hw) (cwV 4 hts (gk_gV ml_X9_199 im_X9_matching se_X9_matching in_X9 co_X9_matching) rfl rfl rfl (by decide +kernel) ⟨Nat.le_of_ble_eq_true rfl, Nat.le_of_ble_eq_true rfl⟩) (gk_recv hK.1 (mk_obj hW) rfl) hW hK ⟨(hxP1.S hS), trivial⟩ hS rfl hl.1 (rest := [.ref (am 38)]) rfl (lv_room (Nat.le_of_ble_eq_true rfl)) dX9_deciding_7 ⟨Nat.le_of_ble_eq_true rfl, Nat.le_of_ble_eq_true rfl⟩ (fun r7 H locs hw hW _ hk hS => ?_)
  refine lv_aload_n hx hb dX9_deciding_10 rfl (lv_at hl 2 rfl) ?_
  refine lv_iload hx hb dX9_deciding_11 (lv_at hl 4 rfl) ?_
  refine lv_iload hx hb dX9_deciding_13 (lv_at hl 5 rfl) ?_
  refine mk_callRi ⟨hx, hb, hml, hown, hts⟩ (c_X9_weighV l D cI cZ cG cL am hw) (cwV 4 hts (gk_gV ml_X9_215 im_X9_weigh se_X9_weigh in_X9 co_X9_weigh) rfl rfl rfl (by decide +kernel) ⟨Nat.le_of_ble_eq_true rfl, Nat.le_of_ble_eq_true rfl⟩) (gk_recv hK.1 (mk_obj hW) rfl) hW hK ⟨(hxP1.S hS), trivial⟩ hS rfl hl.1 (rest := []) rfl (lv_room (Nat.le_of_ble_eq_true rfl)) dX9_deciding_15 ⟨Nat.le_of_ble_eq_true rfl, Nat.le_of_ble_eq_true rfl⟩ (fun r15 H locs hw hW _ hk hS => ?_)
  refine W.widen (k := 0) (n := 0) (Nat.le_of_ble_eq_true rfl) (Nat.le_of_ble_eq_true rfl) ?_
  exact mk_reti C0 ⟨rfl, hw⟩ hW hS dX9_deciding_18
def w_X9_byRules (σ : gk_C) (a0 : Int32) (fP1 : Nat → Int32) (a2 : Int32) (a3 : Int32) (a4 : Int32) (Q : Int32 → Prop) : Prop := (w_X9_barred σ a0 a2 a3 (fun r5 => ((r5 = 0) → (w_X9_deciding σ a0 fP1 a2 a3 a4 (fun r26 => ((¬ r26 = (-1)) → (vp_in r26 30 ∧ (((σ.1 17 r26.toNatClampNeg) = 0) → (Q 2)) ∧ ((¬ (σ.1 17 r26.toNatClampNeg) = 0) → (Q 1)))) ∧ ((r26 = (-1)) → (Q 0))))) ∧ ((¬ r5 = 0) → (Q r5))))
abbrev rmX9_byRules : Room := { frames := 5, cells := 0, slots := 0, locals := 119 }
set_option maxHeartbeats 4000000 in
set_option maxRecDepth 100000 in
theorem c_X9_byRules (l : Launch) (D : va_G) (cI cZ cG cL : ClassId) (am : Nat → Nat) {σ : gk_C} {a0 : Int32} {fP1 : Nat → Int32} {a2 : Int32} {a3 : Int32} {a4 : Int32} {qP1 : Nat} {Q : Int32 → Prop} {sz : Nat} (hw : w_X9_byRules σ a0 fP1 a2 a3 a4 Q) : Met l yX9_byRules wsX9_byRules rmX9_byRules (mk_Pc (mk_V D cI cZ am) D cI cZ cG cL [.ref (am 38), .int a0, .ref qP1, .int a2, .int a3, .int a4] sz σ (fun H => mk_D D cI am qP1 12 fP1 H ∧ True)) (va_Qi (fun r u => u = σ ∧ Q r) (mk_B (mk_V D cI cZ am)) (mk_A am sz)) 0 0 (mk_A am sz) := by
  refine Met.ofW (cc := cX9_byRules) (maxL := 8) (ret := (some .int)) (by decide) rfl ?_
  intro p e s m args below meth c s₁ B hml0 hv0
  obtain ⟨rfl, hsz, hW, hK, hX⟩ := hv0
  subst hsz
  obtain ⟨hxP1, _⟩ := hX
  have C0 : gk_F p s m ([.ref (am 38), .int a0, .ref qP1, .int a2, .int a3, .int a4] : List Value).toArray meth c cX9_byRules 8 (some .int) RX9 := ⟨B.exec, B.bytes, hml0, findClass_of_methodNamed B.named, fun w hw => atoms_spec (ws := wsX9_byRules) B.pre w (List.mem_cons_of_mem _ hw), B.returns, B.notSynchronized⟩
  obtain ⟨hx, hb, hml, hown, hts, hr, hlocks⟩ := id C0
  have hS : va_S (mk_A am s.heap.size) s.heap s.heap [] := va_S.rf
  have hl := lv_entry ([.ref (am 38), .int a0, .ref qP1, .int a2, .int a3, .int a4]) (n := 8) (Nat.le_of_ble_eq_true rfl)
  rw [lg_entry_eq]
  generalize (lg_sl ([.ref (am 38), .int a0, .ref qP1, .int a2, .int a3, .int a4]) ++ List.replicate (8 - (lg_sl ([.ref (am 38), .int a0, .ref qP1, .int a2, .int a3, .int a4])).length) Slot.unset).toArray = ls at hl ⊢
  have hl : lv_has ls 8 [(0, .ref (am 38)), (1, .int a0), (2, .ref qP1), (3, .int a2), (4, .int a3), (5, .int a4)] := hl
  show W p l e rmX9_byRules s m _ below meth c s.heap [] 0 0 _ _
  refine lv_aload_n hx hb dX9_byRules_0 rfl (lv_at hl 0 rfl) ?_
  refine lv_iload_n hx hb dX9_byRules_1 rfl (lv_at hl 1 rfl) ?_
  refine lv_iload_n hx hb dX9_byRules_2 rfl (lv_at hl 3 rfl) ?_
  refine lv_iload hx hb dX9_byRules_3 (lv_at hl 4 rfl) ?_
  refine mk_callRi ⟨hx, hb, hml, hown, hts⟩ (c_X9_barred l D cI cZ cG cL am hw) (cwV 3 hts (gk_gV ml_X9_222 im_X9_barred se_X9_barred in_X9 co_X9_barred) rfl rfl rfl (by decide +kernel) ⟨Nat.le_of_ble_eq_true rfl, Nat.le_of_ble_eq_true rfl⟩) (gk_recv hK.1 (mk_obj hW) rfl) hW hK trivial hS rfl hl.1 (rest := []) rfl (lv_room (Nat.le_of_ble_eq_true rfl)) dX9_byRules_5 ⟨Nat.le_of_ble_eq_true rfl, Nat.le_of_ble_eq_true rfl⟩ (fun r5 H locs hw hW _ hk hS => ?_)
  refine lv_istore (lv' := [(6, .int r5), (0, .ref (am 38)), (1, .int a0), (2, .ref qP1), (3, .int a2), (4, .int a3), (5, .int a4)]) hx hb dX9_byRules_8 hl (by decide) rfl (fun ls hl => ?_)
  refine lv_iload hx hb dX9_byRules_10 (lv_at hl 0 rfl) ?_
  refine lv_if_eq (tgt := 18) hx hb dX9_byRules_12 (by decide) (fun c12 => ?_) (fun c12 => ?_)
  · have hw := hw.1 c12
    refine lv_aload_n hx hb dX9_byRules_18 rfl (lv_at hl 1 rfl) ?_
    refine lv_iload_n hx hb dX9_byRules_19 rfl (lv_at hl 2 rfl) ?_
    refine lv_aload_n hx hb dX9_byRules_20 rfl (lv_at hl 3 rfl) ?_
    refine lv_iload_n hx hb dX9_byRules_21 rfl (lv_at hl 4 rfl) ?_
    refine lv_iload hx hb dX9_byRules_22 (lv_at hl 5 rfl) ?_
    refine lv_iload hx hb dX9_byRules_24 (lv_at hl 6 rfl) ?_
    refine mk_callRi ⟨hx, hb, hml, hown, hts⟩ (c_X9_deciding l D cI cZ cG cL am hw) (cwV 5 hts (gk_gV ml_X9_225 im_X9_deciding se_X9_deciding in_X9 co_X9_deciding) rfl rfl rfl (by decide +kernel) ⟨Nat.le_of_ble_eq_true rfl, Nat.le_of_ble_eq_true rfl⟩) (gk_recv hK.1 (mk_obj hW) rfl) hW hK ⟨(hxP1.S hS), trivial⟩ hS rfl hl.1 (rest := []) rfl (lv_room (Nat.le_of_ble_eq_true rfl)) dX9_byRules_26 ⟨Nat.le_of_ble_eq_true rfl, Nat.le_of_ble_eq_true rfl⟩ (fun r26 H locs hw hW _ hk hS => ?_)
    refine lv_istore (lv' := [(7, .int r26), (6, .int r5), (0, .ref (am 38)), (1, .int a0), (2, .ref qP1), (3, .int a2), (4, .int a3), (5, .int a4)]) hx hb dX9_byRules_29 hl (by decide) rfl (fun ls hl => ?_)
    refine lv_iload hx hb dX9_byRules_31 (lv_at hl 0 rfl) ?_
    refine lv_iconst (v := (-1)) hx hb dX9_byRules_33 (by decide) ?_
    refine lv_icmp_ne (tgt := 41) hx hb dX9_byRules_34 (by decide) (fun c34 => ?_) (fun c34 => ?_)
    · have hw := hw.1 c34
      refine lv_aload_n hx hb dX9_byRules_41 rfl (lv_at hl 2 rfl) ?_
      refine gk_get hx hb hts iwX9 hown hK.1 (mk_obj hW) rfl 17 (by decide) (hts _ fl_X9_41) (fun _ h9 => h9) rfl dX9_byRules_42 ?_
      refine lv_iload hx hb dX9_byRules_45 (lv_at hl 0 rfl) ?_
      obtain ⟨hin, hw⟩ := hw
      refine gk_zald hx hb hK.1 1 (mk_arr hW (k := 17) (by decide) (by decide) (by decide)) rfl hin dX9_byRules_47 ?_
      refine lv_if_eq (tgt := 55) hx hb dX9_byRules_48 (by decide) (fun c48 => ?_) (fun c48 => ?_)
      · have hw := hw.1 c48
        refine lv_iconst (v := 2) hx hb dX9_byRules_55 (by decide) ?_
        refine W.widen (k := 0) (n := 0) (Nat.le_of_ble_eq_true rfl) (Nat.le_of_ble_eq_true rfl) ?_
        exact mk_reti C0 ⟨rfl, hw⟩ hW hS dX9_byRules_56
      · have hw := hw.2 c48
        refine lv_iconst (v := 1) hx hb dX9_byRules_51 (by decide) ?_
        refine lv_goto (tgt := 56) hx hb dX9_byRules_52 (by decide) ?_
        refine W.widen (k := 0) (n := 0) (Nat.le_of_ble_eq_true rfl) (Nat.le_of_ble_eq_true rfl) ?_
        exact mk_reti C0 ⟨rfl, hw⟩ hW hS dX9_byRules_56
    · have hw := hw.2 c34
      refine lv_iconst (v := 0) hx hb dX9_byRules_37 (by decide) ?_
      refine lv_goto (tgt := 56) hx hb dX9_byRules_38 (by decide) ?_
      refine W.widen (k := 0) (n := 0) (Nat.le_of_ble_eq_true rfl) (Nat.le_of_ble_eq_true rfl) ?_
      exact mk_reti C0 ⟨rfl, hw⟩ hW hS dX9_byRules_56
  · have hw := hw.2 c12
    refine lv_iload hx hb dX9_byRules_15 (lv_at hl 0 rfl) ?_
    refine W.widen (k := 0) (n := 0) (Nat.le_of_ble_eq_true rfl) (Nat.le_of_ble_eq_true rfl) ?_
    exact mk_reti C0 ⟨rfl, hw⟩ hW hS dX9_byRules_17
def w_X9_isByRules (σ : gk_C) (a0 : Int32) (fP1 : Nat → Int32) (a2 : Int32) (Q : Int32 → Prop) : Prop := (vp_in a0 30 ∧ vp_in a0 30 ∧ vp_in a0 30 ∧ w_X9_byRules σ (σ.1 27 a0.toNatClampNeg) fP1 (σ.1 29 a0.toNatClampNeg) (σ.1 30 a0.toNatClampNeg) a2 (fun r21 => ((¬ r21 = 1) → (Q 0)) ∧ ((r21 = 1) → (vp_in a0 30 ∧ vp_in a0 30 ∧ w_X9_byRules σ (σ.1 27 a0.toNatClampNeg) fP1 4 (σ.1 30 a0.toNatClampNeg) a2 (fun r44 => ((¬ r44 = 1) → (Q 0)) ∧ ((r44 = 1) → (Q 1)))))))
abbrev rmX9_isByRules : Room := { frames := 6, cells := 0, slots := 0, locals := 146 }
set_option maxHeartbeats 4000000 in
set_option maxRecDepth 100000 in
theorem c_X9_isByRules (l : Launch) (D : va_G) (cI cZ cG cL : ClassId) (am : Nat → Nat) {σ : gk_C} {a0 : Int32} {fP1 : Nat → Int32} {a2 : Int32} {qP1 : Nat} {Q : Int32 → Prop} {sz : Nat} (hw : w_X9_isByRules σ a0 fP1 a2 Q) : Met l yX9_isByRules wsX9_isByRules rmX9_isByRules (mk_Pc (mk_V D cI cZ am) D cI cZ cG cL [.ref (am 38), .int a0, .ref qP1, .int a2] sz σ (fun H => mk_D D cI am qP1 12 fP1 H ∧ True)) (va_Qi (fun r u => u = σ ∧ Q r) (mk_B (mk_V D cI cZ am)) (mk_A am sz)) 0 0 (mk_A am sz) := by
  refine Met.ofW (cc := cX9_isByRules) (maxL := 4) (ret := (some .boolean)) (by decide) rfl ?_
  intro p e s m args below meth c s₁ B hml0 hv0
  obtain ⟨rfl, hsz, hW, hK, hX⟩ := hv0
  subst hsz
  obtain ⟨hxP1, _⟩ := hX
  have C0 : gk_F p s m ([.ref (am 38), .int a0, .ref qP1, .int a2] : List Value).toArray meth c cX9_isByRules 4 (some .boolean) RX9 := ⟨B.exec, B.bytes, hml0, findClass_of_methodNamed B.named, fun w hw => atoms_spec (ws := wsX9_isByRules) B.pre w (List.mem_cons_of_mem _ hw), B.returns, B.notSynchronized⟩
  obtain ⟨hx, hb, hml, hown, hts, hr, hlocks⟩ := id C0
  have hS : va_S (mk_A am s.heap.size) s.heap s.heap [] := va_S.rf
  have hl := lv_entry ([.ref (am 38), .int a0, .ref qP1, .int a2]) (n := 4) (Nat.le_of_ble_eq_true rfl)
  rw [lg_entry_eq]
  generalize (lg_sl ([.ref (am 38), .int a0, .ref qP1, .int a2]) ++ List.replicate (4 - (lg_sl ([.ref (am 38), .int a0, .ref qP1, .int a2])).length) Slot.unset).toArray = ls at hl ⊢
  have hl : lv_has ls 4 [(0, .ref (am 38)), (1, .int a0), (2, .ref qP1), (3, .int a2)] := hl
  show W p l e rmX9_isByRules s m _ below meth c s.heap [] 0 0 _ _
  refine lv_aload_n hx hb dX9_isByRules_0 rfl (lv_at hl 0 rfl) ?_
  refine lv_aload_n hx hb dX9_isByRules_1 rfl (lv_at hl 0 rfl) ?_
  refine gk_get hx hb hts iwX9 hown hK.1 (mk_obj hW) rfl 27 (by decide) (hts _ fl_X9_69) (fun _ h9 => h9) rfl dX9_isByRules_2 ?_
  refine lv_iload_n hx hb dX9_isByRules_5 rfl (lv_at hl 1 rfl) ?_
  obtain ⟨hin, hw⟩ := hw
  refine gk_iald hx hb hK.1 0 (mk_arr hW (k := 27) (by decide) (by decide) (by decide)) rfl hin dX9_isByRules_6 ?_
  refine lv_aload_n hx hb dX9_isByRules_7 rfl (lv_at hl 2 rfl) ?_
  refine lv_aload_n hx hb dX9_isByRules_8 rfl (lv_at hl 0 rfl) ?_
  refine gk_get hx hb hts iwX9 hown hK.1 (mk_obj hW) rfl 29 (by decide) (hts _ fl_X9_75) (fun _ h9 => h9) rfl dX9_isByRules_9 ?_
  refine lv_iload_n hx hb dX9_isByRules_12 rfl (lv_at hl 1 rfl) ?_
  obtain ⟨hin, hw⟩ := hw
  refine gk_iald hx hb hK.1 0 (mk_arr hW (k := 29) (by decide) (by decide) (by decide)) rfl hin dX9_isByRules_13 ?_
  refine lv_aload_n hx hb dX9_isByRules_14 rfl (lv_at hl 0 rfl) ?_
  refine gk_get hx hb hts iwX9 hown hK.1 (mk_obj hW) rfl 30 (by decide) (hts _ fl_X9_78) (fun _ h9 => h9) rfl dX9_isByRules_15 ?_
  refine lv_iload_n hx hb dX9_isByRules_18 rfl (lv_at hl 1 rfl) ?_
  obtain ⟨hin, hw⟩ := hw
  refine gk_iald hx hb hK.1 0 (mk_arr hW (k := 30) (by decide) (by decide) (by decide)) rfl hin dX9_isByRules_19 ?_
  refine lv_iload_n hx hb dX9_isByRules_20 rfl (lv_at hl 3 rfl) ?_
  refine mk_callRi ⟨hx, hb, hml, hown, hts⟩ (c_X9_byRules l D cI cZ cG cL am hw) (cwV 5 hts (gk_gV ml_X9_230 im_X9_byRules se_X9_byRules in_X9 co_X9_byRules) rfl rfl rfl (by decide +kernel) ⟨Nat.le_of_ble_eq_true rfl, Nat.le_of_ble_eq_true rfl⟩) (gk_recv hK.1 (mk_obj hW) rfl) hW hK ⟨(hxP1.S hS), trivial⟩ hS rfl hl.1 (rest := []) rfl (lv_room (Nat.le_of_ble_eq_true rfl)) dX9_isByRules_21 ⟨Nat.le_of_ble_eq_true rfl, Nat.le_of_ble_eq_true rfl⟩ (fun r21 H locs hw hW _ hk hS => ?_)
  refine lv_iconst (v := 1) hx hb dX9_isByRules_24 (by decide) ?_
  refine lv_icmp_ne (tgt := 55) hx hb dX9_isByRules_25 (by decide) (fun c25 => ?_) (fun c25 => ?_)
  · have hw := hw.1 c25
    refine lv_iconst (v := 0) hx hb dX9_isByRules_55 (by decide) ?_
    refine W.widen (k := 0) (n := 0) (Nat.le_of_ble_eq_true rfl) (Nat.le_of_ble_eq_true rfl) ?_
    exact mk_retz C0 (by decide) ⟨rfl, hw⟩ hW hS dX9_isByRules_56
  · have hw := hw.2 c25
    refine lv_aload_n hx hb dX9_isByRules_28 rfl (lv_at hl 0 rfl) ?_
    refine lv_aload_n hx hb dX9_isByRules_29 rfl (lv_at hl 0 rfl) ?_
    refine gk_get hx hb hts iwX9 hown hK.1 (mk_obj hW) rfl 27 (by decide) (hts _ fl_X9_69) (fun _ h9 => h9) rfl dX9_isByRules_30 ?_
    refine lv_iload_n hx hb dX9_isByRules_33 rfl (lv_at hl 1 rfl) ?_
    obtain ⟨hin, hw⟩ := hw
    refine gk_iald hx hb hK.1 0 (mk_arr hW (k := 27) (by decide) (by decide) (by decide)) rfl hin dX9_isByRules_34 ?_
    refine lv_aload_n hx hb dX9_isByRules_35 rfl (lv_at hl 2 rfl) ?_
    refine lv_iconst (v := 4) hx hb dX9_isByRules_36 (by decide) ?_
    refine lv_aload_n hx hb dX9_isByRules_37 rfl (lv_at hl 0 rfl) ?_
    refine gk_get hx hb hts iwX9 hown hK.1 (mk_obj hW) rfl 30 (by decide) (hts _ fl_X9_78) (fun _ h9 => h9) rfl dX9_isByRules_38 ?_
    refine lv_iload_n hx hb dX9_isByRules_41 rfl (lv_at hl 1 rfl) ?_
    obtain ⟨hin, hw⟩ := hw
    refine gk_iald hx hb hK.1 0 (mk_arr hW (k := 30) (by decide) (by decide) (by decide)) rfl hin dX9_isByRules_42 ?_
    refine lv_iload_n hx hb dX9_isByRules_43 rfl (lv_at hl 3 rfl) ?_
    refine mk_callRi ⟨hx, hb, hml, hown, hts⟩ (c_X9_byRules l D cI cZ cG cL am hw) (cwV 5 hts (gk_gV ml_X9_230 im_X9_byRules se_X9_byRules in_X9 co_X9_byRules) rfl rfl rfl (by decide +kernel) ⟨Nat.le_of_ble_eq_true rfl, Nat.le_of_ble_eq_true rfl⟩) (gk_recv hK.1 (mk_obj hW) rfl) hW hK ⟨(hxP1.S hS), trivial⟩ hS rfl hl.1 (rest := []) rfl (lv_room (Nat.le_of_ble_eq_true rfl)) dX9_isByRules_44 ⟨Nat.le_of_ble_eq_true rfl, Nat.le_of_ble_eq_true rfl⟩ (fun r44 H locs hw hW _ hk hS => ?_)
    refine lv_iconst (v := 1) hx hb dX9_isByRules_47 (by decide) ?_
    refine lv_icmp_ne (tgt := 55) hx hb dX9_isByRules_48 (by decide) (fun c48 => ?_) (fun c48 => ?_)
    · have hw := hw.1 c48
      refine lv_iconst (v := 0) hx hb dX9_isByRules_55 (by decide) ?_
      refine W.widen (k := 0) (n := 0) (Nat.le_of_ble_eq_true rfl) (Nat.le_of_ble_eq_true rfl) ?_
      exact mk_retz C0 (by decide) ⟨rfl, hw⟩ hW hS dX9_isByRules_56
    · have hw := hw.2 c48
      refine lv_iconst (v := 1) hx hb dX9_isByRules_51 (by decide) ?_
      refine lv_goto (tgt := 56) hx hb dX9_isByRules_52 (by decide) ?_
      refine W.widen (k := 0) (n := 0) (Nat.le_of_ble_eq_true rfl) (Nat.le_of_ble_eq_true rfl) ?_
      exact mk_retz C0 (by decide) ⟨rfl, hw⟩ hW hS dX9_isByRules_56
def wJ_X9_good_55 (σ : gk_C) (NP0 : Nat → Option (Nat → Int32)) (k56 : Int32 → Int32 → Int32 → Int32 → Prop) (x2 : Int32) (x4 : Int32) (t0 : Int32) : Prop := (k56 x2 x4 t0 0)
def wJ_X9_good_56 (σ : gk_C) (NP0 : Nat → Option (Nat → Int32)) (k5 : Int32 → Int32 → Int32 → Prop) (x2 : Int32) (x4 : Int32) (t0 : Int32) (t1 : Int32) : Prop := (k5 x2 (t0 ||| t1) (x4 + 1))
def wL_X9_good_5 (σ : gk_C) (NP0 : Nat → Option (Nat → Int32)) (k64 : Int32 → Prop) : Nat → Int32 → Int32 → Int32 → Prop
  | 0 => fun _ _ _ => False
  | n + 1 => fun x2 x3 x4 => ((((σ.2 26) ≤ x4) → (k64 x3)) ∧ ((¬ (σ.2 26) ≤ x4) → (vp_in x4 30 ∧ (((σ.1 32 x4.toNatClampNeg) ≤ (σ.2 1)) → (wJ_X9_good_55 σ NP0 (fun x2 x4 t0 t1 => (wJ_X9_good_56 σ NP0 (fun x2 x3 x4 => wL_X9_good_5 σ NP0 k64 n x2 x3 x4) x2 x4 t0 t1)) x2 x4 x3)) ∧ ((¬ (σ.1 32 x4.toNatClampNeg) ≤ (σ.2 1)) → (vp_in x4 30 ∧ vp_in (σ.1 27 x4.toNatClampNeg) 12 ∧ ∃ fe40, NP0 (σ.1 27 x4.toNatClampNeg).toNatClampNeg = some fe40 ∧ w_X9_isByRules σ x4 fe40 x2 (fun r42 => ((r42 = 0) → (wJ_X9_good_55 σ NP0 (fun x2 x4 t0 t1 => (wJ_X9_good_56 σ NP0 (fun x2 x3 x4 => wL_X9_good_5 σ NP0 k64 n x2 x3 x4) x2 x4 t0 t1)) x2 x4 x3)) ∧ ((¬ r42 = 0) → (wJ_X9_good_56 σ NP0 (fun x2 x3 x4 => wL_X9_good_5 σ NP0 k64 n x2 x3 x4) x2 x4 x3 (1 <<< (x4 &&& 31))))))))))
def w_X9_good (σ : gk_C) (NP0 : Nat → Option (Nat → Int32)) (a1 : Int32) (Q : Int32 → Prop) : Prop := (∃ n5, wL_X9_good_5 σ NP0 (fun x3 => (w_X9_leaning σ x3 (fun r66 => Q r66))) n5 a1 0 0)
abbrev rmX9_good : Room := { frames := 7, cells := 0, slots := 0, locals := 169 }
set_option maxHeartbeats 4000000 in
set_option maxRecDepth 100000 in
theorem tJ_X9_good_55 {p : Program} {l : Launch} {e : Env} {s : State} {m : MethodId} {args : Array Value} {below : List Frame} {meth : Method} {c : Code} {D : va_G} {cI cZ cG cL : ClassId} {am : Nat → Nat} (C0 : gk_F p s m args meth c cX9_good 5 (some .int) RX9) (hK : gk_K D cI cZ cG cL s) {σ : gk_C} {NP0 : Nat → Option (Nat → Int32)} {qP0 BP0 : Nat} (hxP0 : mk_N D cI cG am qP0 BP0 NP0 s.heap) {Q : Int32 → Prop} {k56 : Int32 → Int32 → Int32 → Int32 → Prop} (hk56 : ∀ (x2 : Int32) (x4 : Int32) (t0 : Int32) (t1 : Int32), k56 x2 x4 t0 t1 → ∀ (H : Heap) (locs : List Loc), mk_V D cI cZ am σ H → va_S (mk_A am s.heap.size) s.heap H locs → ∀ (ls : Array Slot), lv_has ls 5 [(0, .ref (am 38)), (1, .ref qP0), (2, .int x2), (4, .int x4)] → W p l e rmX9_good s m args below meth c H locs 0 0 (MQ below (va_Qi (fun r u => u = σ ∧ Q r) (mk_B (mk_V D cI cZ am)) (mk_A am s.heap.size)) args s 0 0 (mk_A am s.heap.size)) (F0 m 56 ls [.int t1, .int t0])) : ∀ (x2 : Int32) (x4 : Int32) (t0 : Int32), wJ_X9_good_55 σ NP0 k56 x2 x4 t0 → ∀ (H : Heap) (locs : List Loc), mk_V D cI cZ am σ H → va_S (mk_A am s.heap.size) s.heap H locs → ∀ (ls : Array Slot), lv_has ls 5 [(0, .ref (am 38)), (1, .ref qP0), (2, .int x2), (4, .int x4)] → W p l e rmX9_good s m args below meth c H locs 0 0 (MQ below (va_Qi (fun r u => u = σ ∧ Q r) (mk_B (mk_V D cI cZ am)) (mk_A am s.heap.size)) args s 0 0 (mk_A am s.heap.size)) (F0 m 55 ls [.int t0]) := by
  obtain ⟨hx, hb, hml, hown, hts, hr, hlocks⟩ := id C0
  intro x2 x4 t0 hw H locs hW hS  ls hl
  refine lv_iconst (v := 0) hx hb dX9_good_55 (by decide) ?_
  exact hk56 x2 x4 t0 0 hw _ _ hW hS  _ hl
set_option maxHeartbeats 4000000 in
set_option maxRecDepth 100000 in
theorem tJ_X9_good_56 {p : Program} {l : Launch} {e : Env} {s : State} {m : MethodId} {args : Array Value} {below : List Frame} {meth : Method} {c : Code} {D : va_G} {cI cZ cG cL : ClassId} {am : Nat → Nat} (C0 : gk_F p s m args meth c cX9_good 5 (some .int) RX9) (hK : gk_K D cI cZ cG cL s) {σ : gk_C} {NP0 : Nat → Option (Nat → Int32)} {qP0 BP0 : Nat} (hxP0 : mk_N D cI cG am qP0 BP0 NP0 s.heap) {Q : Int32 → Prop} {k5 : Int32 → Int32 → Int32 → Prop} (hk5 : ∀ (x2 : Int32) (x3 : Int32) (x4 : Int32), k5 x2 x3 x4 → ∀ (H : Heap) (locs : List Loc), mk_V D cI cZ am σ H → va_S (mk_A am s.heap.size) s.heap H locs → ∀ (ls : Array Slot), lv_has ls 5 [(0, .ref (am 38)), (1, .ref qP0), (2, .int x2), (3, .int x3), (4, .int x4)] → W p l e rmX9_good s m args below meth c H locs 0 0 (MQ below (va_Qi (fun r u => u = σ ∧ Q r) (mk_B (mk_V D cI cZ am)) (mk_A am s.heap.size)) args s 0 0 (mk_A am s.heap.size)) (F0 m 5 ls [])) : ∀ (x2 : Int32) (x4 : Int32) (t0 : Int32) (t1 : Int32), wJ_X9_good_56 σ NP0 k5 x2 x4 t0 t1 → ∀ (H : Heap) (locs : List Loc), mk_V D cI cZ am σ H → va_S (mk_A am s.heap.size) s.heap H locs → ∀ (ls : Array Slot), lv_has ls 5 [(0, .ref (am 38)), (1, .ref qP0), (2, .int x2), (4, .int x4)] → W p l e rmX9_good s m args below meth c H locs 0 0 (MQ below (va_Qi (fun r u => u = σ ∧ Q r) (mk_B (mk_V D cI cZ am)) (mk_A am s.heap.size)) args s 0 0 (mk_A am s.heap.size)) (F0 m 56 ls [.int t1, .int t0]) := by
  obtain ⟨hx, hb, hml, hown, hts, hr, hlocks⟩ := id C0
  intro x2 x4 t0 t1 hw H locs hW hS  ls hl
  refine lv_ior hx hb dX9_good_56 ?_
  refine lv_istore_n (lv' := [(3, .int (t0 ||| t1)), (0, .ref (am 38)), (1, .ref qP0), (2, .int x2), (4, .int x4)]) hx hb dX9_good_57 rfl hl (by decide) rfl (fun ls hl => ?_)
  refine lv_iinc (v := (x4 + 1)) (lv' := [(4, .int (x4 + 1)), (3, .int (t0 ||| t1)), (0, .ref (am 38)), (1, .ref qP0), (2, .int x2)]) hx hb dX9_good_58 hl (k := 4) rfl rfl (by decide) rfl (fun ls hl => ?_)
  refine lv_goto (tgt := 5) hx hb dX9_good_61 (by decide) ?_
  exact hk5 x2 (t0 ||| t1) (x4 + 1) hw _ _ hW hS  _ (lv_sub hl [2, 3, 4, 1, 0] rfl)
set_option maxHeartbeats 4000000 in
set_option maxRecDepth 100000 in
theorem tL_X9_good_5 {p : Program} {l : Launch} {e : Env} {s : State} {m : MethodId} {args : Array Value} {below : List Frame} {meth : Method} {c : Code} {D : va_G} {cI cZ cG cL : ClassId} {am : Nat → Nat} (C0 : gk_F p s m args meth c cX9_good 5 (some .int) RX9) (hK : gk_K D cI cZ cG cL s) {σ : gk_C} {NP0 : Nat → Option (Nat → Int32)} {qP0 BP0 : Nat} (hxP0 : mk_N D cI cG am qP0 BP0 NP0 s.heap) {Q : Int32 → Prop} {k64 : Int32 → Prop} (hk64 : ∀ (x3 : Int32), k64 x3 → ∀ (H : Heap) (locs : List Loc), mk_V D cI cZ am σ H → va_S (mk_A am s.heap.size) s.heap H locs → ∀ (ls : Array Slot), lv_has ls 5 [(0, .ref (am 38)), (3, .int x3)] → W p l e rmX9_good s m args below meth c H locs 0 0 (MQ below (va_Qi (fun r u => u = σ ∧ Q r) (mk_B (mk_V D cI cZ am)) (mk_A am s.heap.size)) args s 0 0 (mk_A am s.heap.size)) (F0 m 64 ls [])) : ∀ (n : Nat) (x2 : Int32) (x3 : Int32) (x4 : Int32), wL_X9_good_5 σ NP0 k64 n x2 x3 x4 → ∀ (H : Heap) (locs : List Loc), mk_V D cI cZ am σ H → va_S (mk_A am s.heap.size) s.heap H locs → ∀ (ls : Array Slot), lv_has ls 5 [(0, .ref (am 38)), (1, .ref qP0), (2, .int x2), (3, .int x3), (4, .int x4)] → W p l e rmX9_good s m args below meth c H locs 0 0 (MQ below (va_Qi (fun r u => u = σ ∧ Q r) (mk_B (mk_V D cI cZ am)) (mk_A am s.heap.size)) args s 0 0 (mk_A am s.heap.size)) (F0 m 5 ls []) := by
  obtain ⟨hx, hb, hml, hown, hts, hr, hlocks⟩ := id C0
  intro n
  induction n with
  | zero => exact fun _ _ _ hw => False.elim hw
  | succ n ih =>
    intro x2 x3 x4 hw H locs hW hS  ls hl
    refine lv_iload hx hb dX9_good_5 (lv_at hl 4 rfl) ?_
    refine lv_aload_n hx hb dX9_good_7 rfl (lv_at hl 0 rfl) ?_
    refine gk_get hx hb hts iwX9 hown hK.1 (mk_obj hW) rfl 26 (by decide) (hts _ fl_X9_233) (fun _ h9 => h9) rfl dX9_good_8 ?_
    refine lv_icmp_ge (tgt := 64) hx hb dX9_good_11 (by decide) (fun c11 => ?_) (fun c11 => ?_)
    · have hw := hw.1 c11
      exact hk64 x3 hw _ _ hW hS  _ (lv_sub hl [0, 3] rfl)
    · have hw := hw.2 c11
      refine lv_iload_n hx hb dX9_good_14 rfl (lv_at hl 3 rfl) ?_
      refine lv_aload_n hx hb dX9_good_15 rfl (lv_at hl 0 rfl) ?_
      refine gk_get hx hb hts iwX9 hown hK.1 (mk_obj hW) rfl 32 (by decide) (hts _ fl_X9_84) (fun _ h9 => h9) rfl dX9_good_16 ?_
      refine lv_iload hx hb dX9_good_19 (lv_at hl 4 rfl) ?_
      obtain ⟨hin, hw⟩ := hw
      refine gk_iald hx hb hK.1 0 (mk_arr hW (k := 32) (by decide) (by decide) (by decide)) rfl hin dX9_good_21 ?_
      refine lv_aload_n hx hb dX9_good_22 rfl (lv_at hl 0 rfl) ?_
      refine gk_get hx hb hts iwX9 hown hK.1 (mk_obj hW) rfl 1 (by decide) (hts _ fl_X9_174) (fun _ h9 => h9) rfl dX9_good_23 ?_
      refine lv_icmp_le (tgt := 55) hx hb dX9_good_26 (by decide) (fun c26 => ?_) (fun c26 => ?_)
      · have hw := hw.1 c26
        refine tJ_X9_good_55 C0 hK hxP0 (hk56 := ?_) x2 x4 x3 hw _ _ hW hS  _ (lv_sub hl [0, 1, 2, 4] rfl)
        · intro x2 x4 t0 t1 hw H locs hW hS  ls hl
          refine tJ_X9_good_56 C0 hK hxP0 (hk5 := ih) x2 x4 t0 t1 hw _ _ hW hS  _ hl
      · have hw := hw.2 c26
        refine lv_aload_n hx hb dX9_good_29 rfl (lv_at hl 0 rfl) ?_
        refine lv_iload hx hb dX9_good_30 (lv_at hl 4 rfl) ?_
        refine lv_aload_n hx hb dX9_good_32 rfl (lv_at hl 1 rfl) ?_
        refine lv_aload_n hx hb dX9_good_33 rfl (lv_at hl 0 rfl) ?_
        refine gk_get hx hb hts iwX9 hown hK.1 (mk_obj hW) rfl 27 (by decide) (hts _ fl_X9_69) (fun _ h9 => h9) rfl dX9_good_34 ?_
        refine lv_iload hx hb dX9_good_37 (lv_at hl 4 rfl) ?_
        obtain ⟨hin, hw⟩ := hw
        refine gk_iald hx hb hK.1 0 (mk_arr hW (k := 27) (by decide) (by decide) (by decide)) rfl hin dX9_good_39 ?_
        obtain ⟨hin, fe40, hfe40, hw⟩ := hw
        refine mk_aald hx hb hK.1 2 (hxP0.S hS) rfl hin hfe40 dX9_good_40 (fun qe40 hde40 _ _ => ?_)
        refine lv_iload_n hx hb dX9_good_41 rfl (lv_at hl 2 rfl) ?_
        refine mk_callRi ⟨hx, hb, hml, hown, hts⟩ (c_X9_isByRules l D cI cZ cG cL am hw) (cwV 3 hts (gk_gV ml_X9_236 im_X9_isByRules se_X9_isByRules in_X9 co_X9_isByRules) rfl rfl rfl (by decide +kernel) ⟨Nat.le_of_ble_eq_true rfl, Nat.le_of_ble_eq_true rfl⟩) (gk_recv hK.1 (mk_obj hW) rfl) hW hK ⟨hde40, trivial⟩ hS rfl hl.1 (rest := [.int x3]) rfl (lv_room (Nat.le_of_ble_eq_true rfl)) dX9_good_42 ⟨Nat.le_of_ble_eq_true rfl, Nat.le_of_ble_eq_true rfl⟩ (fun r42 H locs hw hW _ hk hS => ?_)
        refine lv_if_eq (tgt := 55) hx hb dX9_good_45 (by decide) (fun c45 => ?_) (fun c45 => ?_)
        · have hw := hw.1 c45
          refine tJ_X9_good_55 C0 hK hxP0 (hk56 := ?_) x2 x4 x3 hw _ _ hW hS  _ (lv_sub hl [0, 1, 2, 4] rfl)
          · intro x2 x4 t0 t1 hw H locs hW hS  ls hl
            refine tJ_X9_good_56 C0 hK hxP0 (hk5 := ih) x2 x4 t0 t1 hw _ _ hW hS  _ hl
        · have hw := hw.2 c45
          refine lv_iconst (v := 1) hx hb dX9_good_48 (by decide) ?_
          refine lv_iload hx hb dX9_good_49 (lv_at hl 4 rfl) ?_
          refine lv_ishl hx hb dX9_good_51 ?_
          refine lv_goto (tgt := 56) hx hb dX9_good_52 (by decide) ?_
          refine tJ_X9_good_56 C0 hK hxP0 (hk5 := ih) x2 x4 x3 (1 <<< (x4 &&& 31)) hw _ _ hW hS  _ (lv_sub hl [0, 1, 2, 4] rfl)
set_option maxHeartbeats 4000000 in
set_option maxRecDepth 100000 in
theorem c_X9_good (l : Launch) (D : va_G) (cI cZ cG cL : ClassId) (am : Nat → Nat) {σ : gk_C} {NP0 : Nat → Option (Nat → Int32)} {a1 : Int32} {qP0 BP0 : Nat} {Q : Int32 → Prop} {sz : Nat} (hw : w_X9_good σ NP0 a1 Q) : Met l yX9_good wsX9_good rmX9_good (mk_Pc (mk_V D cI cZ am) D cI cZ cG cL [.ref (am 38), .ref qP0, .int a1] sz σ (fun H => mk_N D cI cG am qP0 BP0 NP0 H ∧ True)) (va_Qi (fun r u => u = σ ∧ Q r) (mk_B (mk_V D cI cZ am)) (mk_A am sz)) 0 0 (mk_A am sz) := by
  refine Met.ofW (cc := cX9_good) (maxL := 5) (ret := (some .int)) (by decide) rfl ?_
  intro p e s m args below meth c s₁ B hml0 hv0
  obtain ⟨rfl, hsz, hW, hK, hX⟩ := hv0
  subst hsz
  obtain ⟨hxP0, _⟩ := hX
  have C0 : gk_F p s m ([.ref (am 38), .ref qP0, .int a1] : List Value).toArray meth c cX9_good 5 (some .int) RX9 := ⟨B.exec, B.bytes, hml0, findClass_of_methodNamed B.named, fun w hw => atoms_spec (ws := wsX9_good) B.pre w (List.mem_cons_of_mem _ hw), B.returns, B.notSynchronized⟩
  obtain ⟨hx, hb, hml, hown, hts, hr, hlocks⟩ := id C0
  have hS : va_S (mk_A am s.heap.size) s.heap s.heap [] := va_S.rf
  have hl := lv_entry ([.ref (am 38), .ref qP0, .int a1]) (n := 5) (Nat.le_of_ble_eq_true rfl)
  rw [lg_entry_eq]
  generalize (lg_sl ([.ref (am 38), .ref qP0, .int a1]) ++ List.replicate (5 - (lg_sl ([.ref (am 38), .ref qP0, .int a1])).length) Slot.unset).toArray = ls at hl ⊢
  have hl : lv_has ls 5 [(0, .ref (am 38)), (1, .ref qP0), (2, .int a1)] := hl
  show W p l e rmX9_good s m _ below meth c s.heap [] 0 0 _ _
  refine lv_iconst (v := 0) hx hb dX9_good_0 (by decide) ?_
  refine lv_istore_n (lv' := [(3, .int 0), (0, .ref (am 38)), (1, .ref qP0), (2, .int a1)]) hx hb dX9_good_1 rfl hl (by decide) rfl (fun ls hl => ?_)
  refine lv_iconst (v := 0) hx hb dX9_good_2 (by decide) ?_
  refine lv_istore (lv' := [(4, .int 0), (3, .int 0), (0, .ref (am 38)), (1, .ref qP0), (2, .int a1)]) hx hb dX9_good_3 hl (by decide) rfl (fun ls hl => ?_)
  obtain ⟨n5, hw⟩ := hw
  refine tL_X9_good_5 C0 hK hxP0 (hk64 := ?_) n5 a1 0 0 hw _ _ hW hS  _ (lv_sub hl [2, 3, 4, 1, 0] rfl)
  · intro x3 hw H locs hW hS  ls hl
    refine lv_aload_n hx hb dX9_good_64 rfl (lv_at hl 0 rfl) ?_
    refine lv_iload_n hx hb dX9_good_65 rfl (lv_at hl 1 rfl) ?_
    refine mk_callRi ⟨hx, hb, hml, hown, hts⟩ (c_X9_leaning l D cI cZ cG cL am hw) (cwV 1 hts (gk_gV ml_X9_240 im_X9_leaning se_X9_leaning in_X9 co_X9_leaning) rfl rfl rfl (by decide +kernel) ⟨Nat.le_of_ble_eq_true rfl, Nat.le_of_ble_eq_true rfl⟩) (gk_recv hK.1 (mk_obj hW) rfl) hW hK trivial hS rfl hl.1 (rest := []) rfl (lv_room (Nat.le_of_ble_eq_true rfl)) dX9_good_66 ⟨Nat.le_of_ble_eq_true rfl, Nat.le_of_ble_eq_true rfl⟩ (fun r66 H locs hw hW _ hk hS => ?_)
    refine W.widen (k := 0) (n := 0) (Nat.le_of_ble_eq_true rfl) (Nat.le_of_ble_eq_true rfl) ?_
    exact mk_reti C0 ⟨rfl, hw⟩ hW hS dX9_good_69
def w_X9_decided (σ : gk_C) (a0 : Int32) (a1 : Int32) (a2 : Int32) (NP3 : Nat → Option (Nat → Int32)) (a4 : Int32) (a5 : Int32) (Q : Int32 → Prop) : Prop := (vp_in a0 12 ∧ ∃ fe5, NP3 a0.toNatClampNeg = some fe5 ∧ w_X9_byRules σ a0 fe5 a1 a2 a5 (fun r10 => ((¬ r10 = 0) → (Q r10)) ∧ ((r10 = 0) → (w_X9_granting σ a4 a0 a1 a2 (fun r26 => ((r26 = (-1)) → (Q r10)) ∧ ((¬ r26 = (-1)) → (Q 3)))))))
abbrev rmX9_decided : Room := { frames := 6, cells := 0, slots := 0, locals := 146 }
set_option maxHeartbeats 4000000 in
set_option maxRecDepth 100000 in
theorem c_X9_decided (l : Launch) (D : va_G) (cI cZ cG cL : ClassId) (am : Nat → Nat) {σ : gk_C} {a0 : Int32} {a1 : Int32} {a2 : Int32} {NP3 : Nat → Option (Nat → Int32)} {a4 : Int32} {a5 : Int32} {qP3 BP3 : Nat} {Q : Int32 → Prop} {sz : Nat} (hw : w_X9_decided σ a0 a1 a2 NP3 a4 a5 Q) : Met l yX9_decided wsX9_decided rmX9_decided (mk_Pc (mk_V D cI cZ am) D cI cZ cG cL [.ref (am 38), .int a0, .int a1, .int a2, .ref qP3, .int a4, .int a5] sz σ (fun H => mk_N D cI cG am qP3 BP3 NP3 H ∧ True)) (va_Qi (fun r u => u = σ ∧ Q r) (mk_B (mk_V D cI cZ am)) (mk_A am sz)) 0 0 (mk_A am sz) := by
  refine Met.ofW (cc := cX9_decided) (maxL := 8) (ret := (some .int)) (by decide) rfl ?_
  intro p e s m args below meth c s₁ B hml0 hv0
  obtain ⟨rfl, hsz, hW, hK, hX⟩ := hv0
  subst hsz
  obtain ⟨hxP3, _⟩ := hX
  have C0 : gk_F p s m ([.ref (am 38), .int a0, .int a1, .int a2, .ref qP3, .int a4, .int a5] : List Value).toArray meth c cX9_decided 8 (some .int) RX9 := ⟨B.exec, B.bytes, hml0, findClass_of_methodNamed B.named, fun w hw => atoms_spec (ws := wsX9_decided) B.pre w (List.mem_cons_of_mem _ hw), B.returns, B.notSynchronized⟩
  obtain ⟨hx, hb, hml, hown, hts, hr, hlocks⟩ := id C0
  have hS : va_S (mk_A am s.heap.size) s.heap s.heap [] := va_S.rf
  have hl := lv_entry ([.ref (am 38), .int a0, .int a1, .int a2, .ref qP3, .int a4, .int a5]) (n := 8) (Nat.le_of_ble_eq_true rfl)
  rw [lg_entry_eq]
  generalize (lg_sl ([.ref (am 38), .int a0, .int a1, .int a2, .ref qP3, .int a4, .int a5]) ++ List.replicate (8 - (lg_sl ([.ref (am 38), .int a0, .int a1, .int a2, .ref qP3, .int a4, .int a5])).length) Slot.unset).toArray = ls at hl ⊢
  have hl : lv_has ls 8 [(0, .ref (am 38)), (1, .int a0), (2, .int a1), (3, .int a2), (4, .ref qP3), (5, .int a4), (6, .int a5)] := hl
  show W p l e rmX9_decided s m _ below meth c s.heap [] 0 0 _ _
  refine lv_aload_n hx hb dX9_decided_0 rfl (lv_at hl 0 rfl) ?_
  refine lv_iload_n hx hb dX9_decided_1 rfl (lv_at hl 1 rfl) ?_
  refine lv_aload hx hb dX9_decided_2 (lv_at hl 4 rfl) ?_
  refine lv_iload_n hx hb dX9_decided_4 rfl (lv_at hl 1 rfl) ?_
  obtain ⟨hin, fe5, hfe5, hw⟩ := hw
  refine mk_aald hx hb hK.1 2 (hxP3.S hS) rfl hin hfe5 dX9_decided_5 (fun qe5 hde5 _ _ => ?_)
  refine lv_iload_n hx hb dX9_decided_6 rfl (lv_at hl 2 rfl) ?_
  refine lv_iload_n hx hb dX9_decided_7 rfl (lv_at hl 3 rfl) ?_
  refine lv_iload hx hb dX9_decided_8 (lv_at hl 6 rfl) ?_
  refine mk_callRi ⟨hx, hb, hml, hown, hts⟩ (c_X9_byRules l D cI cZ cG cL am hw) (cwV 5 hts (gk_gV ml_X9_230 im_X9_byRules se_X9_byRules in_X9 co_X9_byRules) rfl rfl rfl (by decide +kernel) ⟨Nat.le_of_ble_eq_true rfl, Nat.le_of_ble_eq_true rfl⟩) (gk_recv hK.1 (mk_obj hW) rfl) hW hK ⟨hde5, trivial⟩ hS rfl hl.1 (rest := []) rfl (lv_room (Nat.le_of_ble_eq_true rfl)) dX9_decided_10 ⟨Nat.le_of_ble_eq_true rfl, Nat.le_of_ble_eq_true rfl⟩ (fun r10 H locs hw hW _ hk hS => ?_)
  refine lv_istore (lv' := [(7, .int r10), (0, .ref (am 38)), (1, .int a0), (2, .int a1), (3, .int a2), (4, .ref qP3), (5, .int a4), (6, .int a5)]) hx hb dX9_decided_13 hl (by decide) rfl (fun ls hl => ?_)
  refine lv_iload hx hb dX9_decided_15 (lv_at hl 0 rfl) ?_
  refine lv_if_ne (tgt := 37) hx hb dX9_decided_17 (by decide) (fun c17 => ?_) (fun c17 => ?_)
  · have hw := hw.1 c17
    refine lv_iload hx hb dX9_decided_37 (lv_at hl 0 rfl) ?_
    refine W.widen (k := 0) (n := 0) (Nat.le_of_ble_eq_true rfl) (Nat.le_of_ble_eq_true rfl) ?_
    exact mk_reti C0 ⟨rfl, hw⟩ hW hS dX9_decided_39
  · have hw := hw.2 c17
    refine lv_aload_n hx hb dX9_decided_20 rfl (lv_at hl 1 rfl) ?_
    refine lv_iload hx hb dX9_decided_21 (lv_at hl 6 rfl) ?_
    refine lv_iload_n hx hb dX9_decided_23 rfl (lv_at hl 2 rfl) ?_
    refine lv_iload_n hx hb dX9_decided_24 rfl (lv_at hl 3 rfl) ?_
    refine lv_iload_n hx hb dX9_decided_25 rfl (lv_at hl 4 rfl) ?_
    refine mk_callRi ⟨hx, hb, hml, hown, hts⟩ (c_X9_granting l D cI cZ cG cL am hw) (cwV 4 hts (gk_gV ml_X9_243 im_X9_granting se_X9_granting in_X9 co_X9_granting) rfl rfl rfl (by decide +kernel) ⟨Nat.le_of_ble_eq_true rfl, Nat.le_of_ble_eq_true rfl⟩) (gk_recv hK.1 (mk_obj hW) rfl) hW hK trivial hS rfl hl.1 (rest := []) rfl (lv_room (Nat.le_of_ble_eq_true rfl)) dX9_decided_26 ⟨Nat.le_of_ble_eq_true rfl, Nat.le_of_ble_eq_true rfl⟩ (fun r26 H locs hw hW _ hk hS => ?_)
    refine lv_iconst (v := (-1)) hx hb dX9_decided_29 (by decide) ?_
    refine lv_icmp_eq (tgt := 37) hx hb dX9_decided_30 (by decide) (fun c30 => ?_) (fun c30 => ?_)
    · have hw := hw.1 c30
      refine lv_iload hx hb dX9_decided_37 (lv_at hl 0 rfl) ?_
      refine W.widen (k := 0) (n := 0) (Nat.le_of_ble_eq_true rfl) (Nat.le_of_ble_eq_true rfl) ?_
      exact mk_reti C0 ⟨rfl, hw⟩ hW hS dX9_decided_39
    · have hw := hw.2 c30
      refine lv_iconst (v := 3) hx hb dX9_decided_33 (by decide) ?_
      refine lv_goto (tgt := 39) hx hb dX9_decided_34 (by decide) ?_
      refine W.widen (k := 0) (n := 0) (Nat.le_of_ble_eq_true rfl) (Nat.le_of_ble_eq_true rfl) ?_
      exact mk_reti C0 ⟨rfl, hw⟩ hW hS dX9_decided_39
def w_X9_decideNow (σ : gk_C) (a0 : Int32) (a1 : Int32) (a2 : Int32) (Q : Int32 → Prop) : Prop := (w_X9_allNears σ (fun Nc1 => w_X9_good σ Nc1 (σ.2 2) (fun r19 => w_X9_decided σ a0 a1 a2 Nc1 r19 (σ.2 2) (fun r26 => Q r26))))
abbrev rmX9_decideNow : Room := { frames := 8, cells := 13, slots := 156, locals := 193 }
set_option maxHeartbeats 4000000 in
set_option maxRecDepth 100000 in
theorem c_X9_decideNow (l : Launch) (D : va_G) (cI cZ cG cL : ClassId) (am : Nat → Nat) {σ : gk_C} {a0 : Int32} {a1 : Int32} {a2 : Int32} {Q : Int32 → Prop} {sz : Nat} (hw : w_X9_decideNow σ a0 a1 a2 Q) : Met l yX9_decideNow wsX9_decideNow rmX9_decideNow (mk_Pc (mk_V D cI cZ am) D cI cZ cG cL [.ref (am 38), .int a0, .int a1, .int a2] sz σ (fun _ => True)) (va_Qi (fun r u => u = σ ∧ Q r) (mk_B (mk_V D cI cZ am)) (mk_A am sz)) 13 156 (mk_A am sz) := by
  refine Met.ofW (cc := cX9_decideNow) (maxL := 5) (ret := (some .int)) (by decide) rfl ?_
  intro p e s m args below meth c s₁ B hml0 hv0
  obtain ⟨rfl, hsz, hW, hK, hX⟩ := hv0
  subst hsz
  have C0 : gk_F p s m ([.ref (am 38), .int a0, .int a1, .int a2] : List Value).toArray meth c cX9_decideNow 5 (some .int) RX9 := ⟨B.exec, B.bytes, hml0, findClass_of_methodNamed B.named, fun w hw => atoms_spec (ws := wsX9_decideNow) B.pre w (List.mem_cons_of_mem _ hw), B.returns, B.notSynchronized⟩
  obtain ⟨hx, hb, hml, hown, hts, hr, hlocks⟩ := id C0
  have hS : va_S (mk_A am s.heap.size) s.heap s.heap [] := va_S.rf
  have hl := lv_entry ([.ref (am 38), .int a0, .int a1, .int a2]) (n := 5) (Nat.le_of_ble_eq_true rfl)
  rw [lg_entry_eq]
  generalize (lg_sl ([.ref (am 38), .int a0, .int a1, .int a2]) ++ List.replicate (5 - (lg_sl ([.ref (am 38), .int a0, .int a1, .int a2])).length) Slot.unset).toArray = ls at hl ⊢
  have hl : lv_has ls 5 [(0, .ref (am 38)), (1, .int a0), (2, .int a1), (3, .int a2)] := hl
  show W p l e rmX9_decideNow s m _ below meth c s.heap [] 0 0 _ _
  refine lv_aload_n hx hb dX9_decideNow_0 rfl (lv_at hl 0 rfl) ?_
  refine mk_callVb ⟨hx, hb, hml, hown, hts⟩ (c_X9_allNears l D cI cZ cG cL am hw) (cwV 0 hts (gk_gV ml_X9_247 im_X9_allNears se_X9_allNears in_X9 co_X9_allNears) rfl rfl rfl (by decide +kernel) ⟨Nat.le_of_ble_eq_true rfl, Nat.le_of_ble_eq_true rfl⟩) (gk_recv hK.1 (mk_obj hW) rfl) hW hK trivial hS rfl hl.1 (rest := []) rfl (lv_room (Nat.le_of_ble_eq_true rfl)) dX9_decideNow_1 ⟨Nat.le_of_ble_eq_true rfl, Nat.le_of_ble_eq_true rfl⟩ (fun Nc1 qc1 H locs hw hW hdc1 hb0 hgc1 _ hk hS => ?_)
  refine lv_astore (lv' := [(4, .ref qc1), (0, .ref (am 38)), (1, .int a0), (2, .int a1), (3, .int a2)]) hx hb dX9_decideNow_4 hl (by decide) rfl (fun ls hl => ?_)
  refine lv_aload_n hx hb dX9_decideNow_6 rfl (lv_at hl 1 rfl) ?_
  refine lv_iload_n hx hb dX9_decideNow_7 rfl (lv_at hl 2 rfl) ?_
  refine lv_iload_n hx hb dX9_decideNow_8 rfl (lv_at hl 3 rfl) ?_
  refine lv_iload_n hx hb dX9_decideNow_9 rfl (lv_at hl 4 rfl) ?_
  refine lv_aload hx hb dX9_decideNow_10 (lv_at hl 0 rfl) ?_
  refine lv_aload_n hx hb dX9_decideNow_12 rfl (lv_at hl 1 rfl) ?_
  refine lv_aload hx hb dX9_decideNow_13 (lv_at hl 0 rfl) ?_
  refine lv_aload_n hx hb dX9_decideNow_15 rfl (lv_at hl 1 rfl) ?_
  refine gk_get hx hb hts iwX9 hown hK.1 (mk_obj hW) rfl 2 (by decide) (hts _ fl_X9_171) (fun _ h9 => h9) rfl dX9_decideNow_16 ?_
  refine mk_callRi ⟨hx, hb, hml, hown, hts⟩ (c_X9_good l D cI cZ cG cL am hw) (cwV 2 hts (gk_gV ml_X9_251 im_X9_good se_X9_good in_X9 co_X9_good) rfl rfl rfl (by decide +kernel) ⟨Nat.le_of_ble_eq_true rfl, Nat.le_of_ble_eq_true rfl⟩) (gk_recv hK.1 (mk_obj hW) rfl) hW hK ⟨hdc1, trivial⟩ hS rfl hl.1 (rest := [.ref qc1, .int a2, .int a1, .int a0, .ref (am 38)]) rfl (lv_room (Nat.le_of_ble_eq_true rfl)) dX9_decideNow_19 ⟨Nat.le_of_ble_eq_true rfl, Nat.le_of_ble_eq_true rfl⟩ (fun r19 H locs hw hW _ hk hS => ?_)
  have hdc1 := hdc1.kept hk
  refine lv_aload_n hx hb dX9_decideNow_22 rfl (lv_at hl 1 rfl) ?_
  refine gk_get hx hb hts iwX9 hown hK.1 (mk_obj hW) rfl 2 (by decide) (hts _ fl_X9_171) (fun _ h9 => h9) rfl dX9_decideNow_23 ?_
  refine mk_callRi ⟨hx, hb, hml, hown, hts⟩ (c_X9_decided l D cI cZ cG cL am hw) (cwV 6 hts (gk_gV ml_X9_255 im_X9_decided se_X9_decided in_X9 co_X9_decided) rfl rfl rfl (by decide +kernel) ⟨Nat.le_of_ble_eq_true rfl, Nat.le_of_ble_eq_true rfl⟩) (gk_recv hK.1 (mk_obj hW) rfl) hW hK ⟨hdc1, trivial⟩ hS rfl hl.1 (rest := []) rfl (lv_room (Nat.le_of_ble_eq_true rfl)) dX9_decideNow_26 ⟨Nat.le_of_ble_eq_true rfl, Nat.le_of_ble_eq_true rfl⟩ (fun r26 H locs hw hW _ hk hS => ?_)
  have hdc1 := hdc1.kept hk
  refine W.widen (k := 13) (n := 156) (Nat.le_of_ble_eq_true rfl) (Nat.le_of_ble_eq_true rfl) ?_
  exact mk_reti C0 ⟨rfl, hw⟩ hW hS dX9_decideNow_29
def wL_X9_table_49 (σ : gk_C) (NP0 : Nat → Option (Nat → Int32)) (k85 : Int32 → Int32 → Int32 → Int32 → Int32 → (Nat → Int32) → Nat → Prop) : Nat → Int32 → Int32 → Int32 → Int32 → Int32 → Int32 → (Nat → Int32) → Nat → Prop
  | 0 => fun _ _ _ _ _ _ _ _ => False
  | n + 1 => fun x2 x4 x5 x6 x7 x8 fn11 nn11 => ((((σ.2 11) ≤ x8) → (k85 x2 x4 x5 x6 x7 fn11 nn11)) ∧ ((¬ (σ.2 11) ≤ x8) → (w_X9_decided σ x6 x7 x8 NP0 x4 x2 (fun r75 => vp_in x5 nn11 ∧ wL_X9_table_49 σ NP0 k85 n x2 x4 (x5 + 1) x6 x7 (x8 + 1) (upd fn11 x5.toNatClampNeg r75) nn11))))
def wL_X9_table_40 (σ : gk_C) (NP0 : Nat → Option (Nat → Int32)) (k91 : Int32 → Int32 → Int32 → Int32 → (Nat → Int32) → Nat → Prop) : Nat → Int32 → Int32 → Int32 → Int32 → Int32 → (Nat → Int32) → Nat → Prop
  | 0 => fun _ _ _ _ _ _ _ => False
  | n + 1 => fun x2 x4 x5 x6 x7 fn11 nn11 => (((5 ≤ x7) → (k91 x2 x4 x5 x6 fn11 nn11)) ∧ ((¬ 5 ≤ x7) → (∃ n49, wL_X9_table_49 σ NP0 (fun x2 x4 x5 x6 x7 fn11 nn11 => (wL_X9_table_40 σ NP0 k91 n x2 x4 x5 x6 (x7 + 1) fn11 nn11)) n49 x2 x4 x5 x6 x7 0 fn11 nn11)))
def wL_X9_table_28 (σ : gk_C) (NP0 : Nat → Option (Nat → Int32)) (Q : Nat → (Nat → Int32) → Prop) : Nat → Int32 → Int32 → Int32 → Int32 → (Nat → Int32) → Nat → Prop
  | 0 => fun _ _ _ _ _ _ => False
  | n + 1 => fun x2 x4 x5 x6 fn11 nn11 => ((((σ.2 3) ≤ x6) → (Q nn11 fn11)) ∧ ((¬ (σ.2 3) ≤ x6) → (∃ n40, wL_X9_table_40 σ NP0 (fun x2 x4 x5 x6 fn11 nn11 => (wL_X9_table_28 σ NP0 Q n x2 x4 x5 (x6 + 1) fn11 nn11)) n40 x2 x4 x5 x6 0 fn11 nn11)))
def w_X9_table (σ : gk_C) (NP0 : Nat → Option (Nat → Int32)) (a1 : Int32) (Q : Nat → (Nat → Int32) → Prop) : Prop := (((¬ (((σ.2 3) * 5) * (σ.2 11)) < 0) ∧ (((σ.2 3) * 5) * (σ.2 11)).toNatClampNeg ≤ 1440) ∧ w_X9_good σ NP0 a1 (fun r17 => ∃ n28, wL_X9_table_28 σ NP0 Q n28 a1 r17 0 0 (fun _ => 0) ((((σ.2 3) * 5) * (σ.2 11)).toNatClampNeg)))
abbrev rmX9_table : Room := { frames := 8, cells := 1, slots := 1440, locals := 193 }
set_option maxHeartbeats 4000000 in
set_option maxRecDepth 100000 in
theorem tL_X9_table_49 {p : Program} {l : Launch} {e : Env} {s : State} {m : MethodId} {args : Array Value} {below : List Frame} {meth : Method} {c : Code} {D : va_G} {cI cZ cG cL : ClassId} {am : Nat → Nat} (C0 : gk_F p s m args meth c cX9_table 9 (some (.array .int)) RX9) (hK : gk_K D cI cZ cG cL s) {σ : gk_C} {NP0 : Nat → Option (Nat → Int32)} {qP0 BP0 : Nat} (hxP0 : mk_N D cI cG am qP0 BP0 NP0 s.heap) {Q : Nat → (Nat → Int32) → Prop} {k85 : Int32 → Int32 → Int32 → Int32 → Int32 → (Nat → Int32) → Nat → Prop} (hk85 : ∀ (x2 : Int32) (x4 : Int32) (x5 : Int32) (x6 : Int32) (x7 : Int32) (fn11 : Nat → Int32) (nn11 : Nat), k85 x2 x4 x5 x6 x7 fn11 nn11 → ∀ (H : Heap) (locs : List Loc), mk_V D cI cZ am σ H → va_S (mk_A am s.heap.size) s.heap H locs → ∀ (qn11 : Nat), s.heap.size ≤ qn11 → mk_D D cI am qn11 nn11 fn11 H → ∀ (ls : Array Slot), lv_has ls 9 [(0, .ref (am 38)), (1, .ref qP0), (2, .int x2), (3, .ref qn11), (4, .int x4), (5, .int x5), (6, .int x6), (7, .int x7)] → W p l e rmX9_table s m args below meth c H locs 1 1440 (MQ below (va_Qr (fun (u : gk_C × Nat × (Nat → Int32)) => u.1 = σ ∧ Q u.2.1 u.2.2) (fun u a t => mk_V D cI cZ am u.1 t.heap ∧ mk_D D cI am a u.2.1 u.2.2 t.heap ∧ s.heap.size ≤ a) (mk_A am s.heap.size)) args s 1 1440 (mk_A am s.heap.size)) (F0 m 85 ls [])) : ∀ (n : Nat) (x2 : Int32) (x4 : Int32) (x5 : Int32) (x6 : Int32) (x7 : Int32) (x8 : Int32) (fn11 : Nat → Int32) (nn11 : Nat), wL_X9_table_49 σ NP0 k85 n x2 x4 x5 x6 x7 x8 fn11 nn11 → ∀ (H : Heap) (locs : List Loc), mk_V D cI cZ am σ H → va_S (mk_A am s.heap.size) s.heap H locs → ∀ (qn11 : Nat), s.heap.size ≤ qn11 → mk_D D cI am qn11 nn11 fn11 H → ∀ (ls : Array Slot), lv_has ls 9 [(0, .ref (am 38)), (1, .ref qP0), (2, .int x2), (3, .ref qn11), (4, .int x4), (5, .int x5), (6, .int x6), (7, .int x7), (8, .int x8)] → W p l e rmX9_table s m args below meth c H locs 1 1440 (MQ below (va_Qr (fun (u : gk_C × Nat × (Nat → Int32)) => u.1 = σ ∧ Q u.2.1 u.2.2) (fun u a t => mk_V D cI cZ am u.1 t.heap ∧ mk_D D cI am a u.2.1 u.2.2 t.heap ∧ s.heap.size ≤ a) (mk_A am s.heap.size)) args s 1 1440 (mk_A am s.heap.size)) (F0 m 49 ls []) := by
  obtain ⟨hx, hb, hml, hown, hts, hr, hlocks⟩ := id C0
  intro n
  induction n with
  | zero => exact fun _ _ _ _ _ _ _ _ hw => False.elim hw
  | succ n ih =>
    intro x2 x4 x5 x6 x7 x8 fn11 nn11 hw H locs hW hS qn11 hgn11 hdn11 ls hl
    refine lv_iload hx hb dX9_table_49 (lv_at hl 8 rfl) ?_
    refine lv_aload_n hx hb dX9_table_51 rfl (lv_at hl 0 rfl) ?_
    refine gk_get hx hb hts iwX9 hown hK.1 (mk_obj hW) rfl 11 (by decide) (hts _ fl_X9_25) (fun _ h9 => h9) rfl dX9_table_52 ?_
    refine lv_icmp_ge (tgt := 85) hx hb dX9_table_55 (by decide) (fun c55 => ?_) (fun c55 => ?_)
    · have hw := hw.1 c55
      exact hk85 x2 x4 x5 x6 x7 fn11 nn11 hw _ _ hW hS _ hgn11 hdn11 _ (lv_sub hl [0, 1, 2, 3, 4, 5, 6, 7] rfl)
    · have hw := hw.2 c55
      refine lv_aload_n hx hb dX9_table_58 rfl (lv_at hl 3 rfl) ?_
      refine lv_iload hx hb dX9_table_59 (lv_at hl 5 rfl) ?_
      refine lv_iinc (v := (x5 + 1)) (lv' := [(5, .int (x5 + 1)), (0, .ref (am 38)), (1, .ref qP0), (2, .int x2), (3, .ref qn11), (4, .int x4), (6, .int x6), (7, .int x7), (8, .int x8)]) hx hb dX9_table_61 hl (k := 5) rfl rfl (by decide) rfl (fun ls hl => ?_)
      refine lv_aload_n hx hb dX9_table_64 rfl (lv_at hl 1 rfl) ?_
      refine lv_iload hx hb dX9_table_65 (lv_at hl 6 rfl) ?_
      refine lv_iload hx hb dX9_table_67 (lv_at hl 7 rfl) ?_
      refine lv_iload hx hb dX9_table_69 (lv_at hl 8 rfl) ?_
      refine lv_aload_n hx hb dX9_table_71 rfl (lv_at hl 2 rfl) ?_
      refine lv_iload hx hb dX9_table_72 (lv_at hl 5 rfl) ?_
      refine lv_iload_n hx hb dX9_table_74 rfl (lv_at hl 3 rfl) ?_
      refine mk_callRi ⟨hx, hb, hml, hown, hts⟩ (c_X9_decided l D cI cZ cG cL am hw) (cwV 6 hts (gk_gV ml_X9_255 im_X9_decided se_X9_decided in_X9 co_X9_decided) rfl rfl rfl (by decide +kernel) ⟨Nat.le_of_ble_eq_true rfl, Nat.le_of_ble_eq_true rfl⟩) (gk_recv hK.1 (mk_obj hW) rfl) hW hK ⟨(hxP0.S hS), trivial⟩ hS rfl hl.1 (rest := [.int x5, .ref qn11]) rfl (lv_room (Nat.le_of_ble_eq_true rfl)) dX9_table_75 ⟨Nat.le_of_ble_eq_true rfl, Nat.le_of_ble_eq_true rfl⟩ (fun r75 H locs hw hW _ hk hS => ?_)
      have hdn11 := hdn11.kept hk
      obtain ⟨hin, hw⟩ := hw
      refine gk_iast hx hb hK.1 hS (Or.inr hgn11) 0 hdn11.1 rfl hin dX9_table_78 (fun H locs h1 _ oq hS => ?_)
      have hW := hW.keptN hdn11.2 oq
      have hdn11 : mk_D D cI am qn11 nn11 (upd fn11 x5.toNatClampNeg r75) H := ⟨h1, hdn11.2⟩
      refine lv_iinc (v := (x8 + 1)) (lv' := [(8, .int (x8 + 1)), (5, .int (x5 + 1)), (0, .ref (am 38)), (1, .ref qP0), (2, .int x2), (3, .ref qn11), (4, .int x4), (6, .int x6), (7, .int x7)]) hx hb dX9_table_79 hl (k := 8) rfl rfl (by decide) rfl (fun ls hl => ?_)
      refine lv_goto (tgt := 49) hx hb dX9_table_82 (by decide) ?_
      exact ih x2 x4 (x5 + 1) x6 x7 (x8 + 1) (upd fn11 x5.toNatClampNeg r75) nn11 hw _ _ hW hS _ hgn11 hdn11 _ (lv_sub hl [2, 3, 4, 5, 6, 1, 7, 8, 0] rfl)
set_option maxHeartbeats 4000000 in
set_option maxRecDepth 100000 in
theorem tL_X9_table_40 {p : Program} {l : Launch} {e : Env} {s : State} {m : MethodId} {args : Array Value} {below : List Frame} {meth : Method} {c : Code} {D : va_G} {cI cZ cG cL : ClassId} {am : Nat → Nat} (C0 : gk_F p s m args meth c cX9_table 9 (some (.array .int)) RX9) (hK : gk_K D cI cZ cG cL s) {σ : gk_C} {NP0 : Nat → Option (Nat → Int32)} {qP0 BP0 : Nat} (hxP0 : mk_N D cI cG am qP0 BP0 NP0 s.heap) {Q : Nat → (Nat → Int32) → Prop} {k91 : Int32 → Int32 → Int32 → Int32 → (Nat → Int32) → Nat → Prop} (hk91 : ∀ (x2 : Int32) (x4 : Int32) (x5 : Int32) (x6 : Int32) (fn11 : Nat → Int32) (nn11 : Nat), k91 x2 x4 x5 x6 fn11 nn11 → ∀ (H : Heap) (locs : List Loc), mk_V D cI cZ am σ H → va_S (mk_A am s.heap.size) s.heap H locs → ∀ (qn11 : Nat), s.heap.size ≤ qn11 → mk_D D cI am qn11 nn11 fn11 H → ∀ (ls : Array Slot), lv_has ls 9 [(0, .ref (am 38)), (1, .ref qP0), (2, .int x2), (3, .ref qn11), (4, .int x4), (5, .int x5), (6, .int x6)] → W p l e rmX9_table s m args below meth c H locs 1 1440 (MQ below (va_Qr (fun (u : gk_C × Nat × (Nat → Int32)) => u.1 = σ ∧ Q u.2.1 u.2.2) (fun u a t => mk_V D cI cZ am u.1 t.heap ∧ mk_D D cI am a u.2.1 u.2.2 t.heap ∧ s.heap.size ≤ a) (mk_A am s.heap.size)) args s 1 1440 (mk_A am s.heap.size)) (F0 m 91 ls [])) : ∀ (n : Nat) (x2 : Int32) (x4 : Int32) (x5 : Int32) (x6 : Int32) (x7 : Int32) (fn11 : Nat → Int32) (nn11 : Nat), wL_X9_table_40 σ NP0 k91 n x2 x4 x5 x6 x7 fn11 nn11 → ∀ (H : Heap) (locs : List Loc), mk_V D cI cZ am σ H → va_S (mk_A am s.heap.size) s.heap H locs → ∀ (qn11 : Nat), s.heap.size ≤ qn11 → mk_D D cI am qn11 nn11 fn11 H → ∀ (ls : Array Slot), lv_has ls 9 [(0, .ref (am 38)), (1, .ref qP0), (2, .int x2), (3, .ref qn11), (4, .int x4), (5, .int x5), (6, .int x6), (7, .int x7)] → W p l e rmX9_table s m args below meth c H locs 1 1440 (MQ below (va_Qr (fun (u : gk_C × Nat × (Nat → Int32)) => u.1 = σ ∧ Q u.2.1 u.2.2) (fun u a t => mk_V D cI cZ am u.1 t.heap ∧ mk_D D cI am a u.2.1 u.2.2 t.heap ∧ s.heap.size ≤ a) (mk_A am s.heap.size)) args s 1 1440 (mk_A am s.heap.size)) (F0 m 40 ls []) := by
  obtain ⟨hx, hb, hml, hown, hts, hr, hlocks⟩ := id C0
  intro n
  induction n with
  | zero => exact fun _ _ _ _ _ _ _ hw => False.elim hw
  | succ n ih =>
    intro x2 x4 x5 x6 x7 fn11 nn11 hw H locs hW hS qn11 hgn11 hdn11 ls hl
    refine lv_iload hx hb dX9_table_40 (lv_at hl 7 rfl) ?_
    refine lv_iconst (v := 5) hx hb dX9_table_42 (by decide) ?_
    refine lv_icmp_ge (tgt := 91) hx hb dX9_table_43 (by decide) (fun c43 => ?_) (fun c43 => ?_)
    · have hw := hw.1 c43
      exact hk91 x2 x4 x5 x6 fn11 nn11 hw _ _ hW hS _ hgn11 hdn11 _ (lv_sub hl [0, 1, 2, 3, 4, 5, 6] rfl)
    · have hw := hw.2 c43
      refine lv_iconst (v := 0) hx hb dX9_table_46 (by decide) ?_
      refine lv_istore (lv' := [(8, .int 0), (0, .ref (am 38)), (1, .ref qP0), (2, .int x2), (3, .ref qn11), (4, .int x4), (5, .int x5), (6, .int x6), (7, .int x7)]) hx hb dX9_table_47 hl (by decide) rfl (fun ls hl => ?_)
      obtain ⟨n49, hw⟩ := hw
      refine tL_X9_table_49 C0 hK hxP0 (hk85 := ?_) n49 x2 x4 x5 x6 x7 0 fn11 nn11 hw _ _ hW hS _ hgn11 hdn11 _ (lv_sub hl [1, 2, 3, 4, 5, 6, 7, 8, 0] rfl)
      · intro x2 x4 x5 x6 x7 fn11 nn11 hw H locs hW hS qn11 hgn11 hdn11 ls hl
        refine lv_iinc (v := (x7 + 1)) (lv' := [(7, .int (x7 + 1)), (0, .ref (am 38)), (1, .ref qP0), (2, .int x2), (3, .ref qn11), (4, .int x4), (5, .int x5), (6, .int x6)]) hx hb dX9_table_85 hl (k := 7) rfl rfl (by decide) rfl (fun ls hl => ?_)
        refine lv_goto (tgt := 40) hx hb dX9_table_88 (by decide) ?_
        exact ih x2 x4 x5 x6 (x7 + 1) fn11 nn11 hw _ _ hW hS _ hgn11 hdn11 _ (lv_sub hl [1, 2, 3, 4, 5, 6, 7, 0] rfl)
set_option maxHeartbeats 4000000 in
set_option maxRecDepth 100000 in
theorem tL_X9_table_28 {p : Program} {l : Launch} {e : Env} {s : State} {m : MethodId} {args : Array Value} {below : List Frame} {meth : Method} {c : Code} {D : va_G} {cI cZ cG cL : ClassId} {am : Nat → Nat} (C0 : gk_F p s m args meth c cX9_table 9 (some (.array .int)) RX9) (hK : gk_K D cI cZ cG cL s) {σ : gk_C} {NP0 : Nat → Option (Nat → Int32)} {qP0 BP0 : Nat} (hxP0 : mk_N D cI cG am qP0 BP0 NP0 s.heap) {Q : Nat → (Nat → Int32) → Prop} : ∀ (n : Nat) (x2 : Int32) (x4 : Int32) (x5 : Int32) (x6 : Int32) (fn11 : Nat → Int32) (nn11 : Nat), wL_X9_table_28 σ NP0 Q n x2 x4 x5 x6 fn11 nn11 → ∀ (H : Heap) (locs : List Loc), mk_V D cI cZ am σ H → va_S (mk_A am s.heap.size) s.heap H locs → ∀ (qn11 : Nat), s.heap.size ≤ qn11 → mk_D D cI am qn11 nn11 fn11 H → ∀ (ls : Array Slot), lv_has ls 9 [(0, .ref (am 38)), (1, .ref qP0), (2, .int x2), (3, .ref qn11), (4, .int x4), (5, .int x5), (6, .int x6)] → W p l e rmX9_table s m args below meth c H locs 1 1440 (MQ below (va_Qr (fun (u : gk_C × Nat × (Nat → Int32)) => u.1 = σ ∧ Q u.2.1 u.2.2) (fun u a t => mk_V D cI cZ am u.1 t.heap ∧ mk_D D cI am a u.2.1 u.2.2 t.heap ∧ s.heap.size ≤ a) (mk_A am s.heap.size)) args s 1 1440 (mk_A am s.heap.size)) (F0 m 28 ls []) := by
  obtain ⟨hx, hb, hml, hown, hts, hr, hlocks⟩ := id C0
  intro n
  induction n with
  | zero => exact fun _ _ _ _ _ _ hw => False.elim hw
  | succ n ih =>
    intro x2 x4 x5 x6 fn11 nn11 hw H locs hW hS qn11 hgn11 hdn11 ls hl
    refine lv_iload hx hb dX9_table_28 (lv_at hl 6 rfl) ?_
    refine lv_aload_n hx hb dX9_table_30 rfl (lv_at hl 0 rfl) ?_
    refine gk_get hx hb hts iwX9 hown hK.1 (mk_obj hW) rfl 3 (by decide) (hts _ fl_X9_105) (fun _ h9 => h9) rfl dX9_table_31 ?_
    refine lv_icmp_ge (tgt := 97) hx hb dX9_table_34 (by decide) (fun c34 => ?_) (fun c34 => ?_)
    · have hw := hw.1 c34
      refine lv_aload_n hx hb dX9_table_97 rfl (lv_at hl 3 rfl) ?_
      refine W.widen (k := 1) (n := 1440) (Nat.le_of_ble_eq_true rfl) (Nat.le_of_ble_eq_true rfl) ?_
      exact mk_reta (σ, nn11, fn11) C0 (Or.inr ⟨_, rfl⟩) ⟨rfl, hw⟩ (fun t ht => by subst ht; exact ⟨hW, hdn11, hgn11⟩) hS dX9_table_98
    · have hw := hw.2 c34
      refine lv_iconst (v := 0) hx hb dX9_table_37 (by decide) ?_
      refine lv_istore (lv' := [(7, .int 0), (0, .ref (am 38)), (1, .ref qP0), (2, .int x2), (3, .ref qn11), (4, .int x4), (5, .int x5), (6, .int x6)]) hx hb dX9_table_38 hl (by decide) rfl (fun ls hl => ?_)
      obtain ⟨n40, hw⟩ := hw
      refine tL_X9_table_40 C0 hK hxP0 (hk91 := ?_) n40 x2 x4 x5 x6 0 fn11 nn11 hw _ _ hW hS _ hgn11 hdn11 _ (lv_sub hl [1, 2, 3, 4, 5, 6, 7, 0] rfl)
      · intro x2 x4 x5 x6 fn11 nn11 hw H locs hW hS qn11 hgn11 hdn11 ls hl
        refine lv_iinc (v := (x6 + 1)) (lv' := [(6, .int (x6 + 1)), (0, .ref (am 38)), (1, .ref qP0), (2, .int x2), (3, .ref qn11), (4, .int x4), (5, .int x5)]) hx hb dX9_table_91 hl (k := 6) rfl rfl (by decide) rfl (fun ls hl => ?_)
        refine lv_goto (tgt := 28) hx hb dX9_table_94 (by decide) ?_
        exact ih x2 x4 x5 (x6 + 1) fn11 nn11 hw _ _ hW hS _ hgn11 hdn11 _ (lv_sub hl [1, 2, 3, 4, 5, 6, 0] rfl)
set_option maxHeartbeats 4000000 in
set_option maxRecDepth 100000 in
theorem c_X9_table (l : Launch) (D : va_G) (cI cZ cG cL : ClassId) (am : Nat → Nat) {σ : gk_C} {NP0 : Nat → Option (Nat → Int32)} {a1 : Int32} {qP0 BP0 : Nat} {Q : Nat → (Nat → Int32) → Prop} {sz : Nat} (hw : w_X9_table σ NP0 a1 Q) : Met l yX9_table wsX9_table rmX9_table (mk_Pc (mk_V D cI cZ am) D cI cZ cG cL [.ref (am 38), .ref qP0, .int a1] sz σ (fun H => mk_N D cI cG am qP0 BP0 NP0 H ∧ True)) (va_Qr (fun (u : gk_C × Nat × (Nat → Int32)) => u.1 = σ ∧ Q u.2.1 u.2.2) (fun u a t => mk_V D cI cZ am u.1 t.heap ∧ mk_D D cI am a u.2.1 u.2.2 t.heap ∧ sz ≤ a) (mk_A am sz)) 1 1440 (mk_A am sz) := by
  refine Met.ofW (cc := cX9_table) (maxL := 9) (ret := (some (.array .int))) (by decide) rfl ?_
  intro p e s m args below meth c s₁ B hml0 hv0
  obtain ⟨rfl, hsz, hW, hK, hX⟩ := hv0
  subst hsz
  obtain ⟨hxP0, _⟩ := hX
  have C0 : gk_F p s m ([.ref (am 38), .ref qP0, .int a1] : List Value).toArray meth c cX9_table 9 (some (.array .int)) RX9 := ⟨B.exec, B.bytes, hml0, findClass_of_methodNamed B.named, fun w hw => atoms_spec (ws := wsX9_table) B.pre w (List.mem_cons_of_mem _ hw), B.returns, B.notSynchronized⟩
  obtain ⟨hx, hb, hml, hown, hts, hr, hlocks⟩ := id C0
  have hS : va_S (mk_A am s.heap.size) s.heap s.heap [] := va_S.rf
  have hl := lv_entry ([.ref (am 38), .ref qP0, .int a1]) (n := 9) (Nat.le_of_ble_eq_true rfl)
  rw [lg_entry_eq]
  generalize (lg_sl ([.ref (am 38), .ref qP0, .int a1]) ++ List.replicate (9 - (lg_sl ([.ref (am 38), .ref qP0, .int a1])).length) Slot.unset).toArray = ls at hl ⊢
  have hl : lv_has ls 9 [(0, .ref (am 38)), (1, .ref qP0), (2, .int a1)] := hl
  show W p l e rmX9_table s m _ below meth c s.heap [] 0 0 _ _
  refine lv_aload_n hx hb dX9_table_0 rfl (lv_at hl 0 rfl) ?_
  refine gk_get hx hb hts iwX9 hown hK.1 (mk_obj hW) rfl 3 (by decide) (hts _ fl_X9_105) (fun _ h9 => h9) rfl dX9_table_1 ?_
  refine lv_iconst (v := 5) hx hb dX9_table_4 (by decide) ?_
  refine lv_imul hx hb dX9_table_5 ?_
  refine lv_aload_n hx hb dX9_table_6 rfl (lv_at hl 0 rfl) ?_
  refine gk_get hx hb hts iwX9 hown hK.1 (mk_obj hW) rfl 11 (by decide) (hts _ fl_X9_25) (fun _ h9 => h9) rfl dX9_table_7 ?_
  refine lv_imul hx hb dX9_table_10 ?_
  obtain ⟨⟨hn0, hn1⟩, hw⟩ := hw
  refine mk_newi (N' := (((σ.2 3) * 5) * (σ.2 11)).toNatClampNeg) hx hb (hts _ ac_int) hK (fun k hk => hW.lt hk) hS hn0 rfl (by omega) ⟨Nat.le_of_ble_eq_true rfl, by show 0 + _ ≤ 1440; omega⟩ dX9_table_11 (fun qn11 H hdn11 hqn11 hgn11 hk hS => ?_)
  have hW := hW.keptAll hk
  refine W.widen (k := 1) (n := 1440) (by omega) (by omega) ?_
  refine lv_astore_n (lv' := [(3, .ref qn11), (0, .ref (am 38)), (1, .ref qP0), (2, .int a1)]) hx hb dX9_table_13 rfl hl (by decide) rfl (fun ls hl => ?_)
  refine lv_aload_n hx hb dX9_table_14 rfl (lv_at hl 1 rfl) ?_
  refine lv_aload_n hx hb dX9_table_15 rfl (lv_at hl 2 rfl) ?_
  refine lv_iload_n hx hb dX9_table_16 rfl (lv_at hl 3 rfl) ?_
  refine mk_callRi ⟨hx, hb, hml, hown, hts⟩ (c_X9_good l D cI cZ cG cL am hw) (cwV 2 hts (gk_gV ml_X9_251 im_X9_good se_X9_good in_X9 co_X9_good) rfl rfl rfl (by decide +kernel) ⟨Nat.le_of_ble_eq_true rfl, Nat.le_of_ble_eq_true rfl⟩) (gk_recv hK.1 (mk_obj hW) rfl) hW hK ⟨(hxP0.S hS), trivial⟩ hS rfl hl.1 (rest := []) rfl (lv_room (Nat.le_of_ble_eq_true rfl)) dX9_table_17 ⟨Nat.le_of_ble_eq_true rfl, Nat.le_of_ble_eq_true rfl⟩ (fun r17 H locs hw hW _ hk hS => ?_)
  have hdn11 := hdn11.kept hk
  refine lv_istore (lv' := [(4, .int r17), (3, .ref qn11), (0, .ref (am 38)), (1, .ref qP0), (2, .int a1)]) hx hb dX9_table_20 hl (by decide) rfl (fun ls hl => ?_)
  refine lv_iconst (v := 0) hx hb dX9_table_22 (by decide) ?_
  refine lv_istore (lv' := [(5, .int 0), (4, .int r17), (3, .ref qn11), (0, .ref (am 38)), (1, .ref qP0), (2, .int a1)]) hx hb dX9_table_23 hl (by decide) rfl (fun ls hl => ?_)
  refine lv_iconst (v := 0) hx hb dX9_table_25 (by decide) ?_
  refine lv_istore (lv' := [(6, .int 0), (5, .int 0), (4, .int r17), (3, .ref qn11), (0, .ref (am 38)), (1, .ref qP0), (2, .int a1)]) hx hb dX9_table_26 hl (by decide) rfl (fun ls hl => ?_)
  obtain ⟨n28, hw⟩ := hw
  refine tL_X9_table_28 C0 hK hxP0  n28 a1 r17 0 0 (fun _ => 0) ((((σ.2 3) * 5) * (σ.2 11)).toNatClampNeg) hw _ _ hW hS _ hgn11 hdn11 _ (lv_sub hl [4, 5, 6, 3, 2, 1, 0] rfl)
