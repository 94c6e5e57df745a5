/-! laid by wip/whole/model1.py: wp predicates and walks -/
def w_X9_isIn (a0 : Int32) (a1 : Int32) (a2 : Int32) (Q : Int32 → Prop) : Prop := (((a0 < a1) → (Q 0)) ∧ ((¬ a0 < a1) → (((a2 < a0) → (Q 0)) ∧ ((¬ a2 < a0) → (Q 1)))))
abbrev rmX9_isIn : Room := { frames := 0, cells := 0, slots := 0, locals := 0 }
set_option maxHeartbeats 4000000 in
set_option maxRecDepth 100000 in
theorem c_X9_isIn (l : Launch) {a0 : Int32} {a1 : Int32} {a2 : Int32} {Q : Int32 → Prop} (hw : w_X9_isIn a0 a1 a2 Q) : Met l yX9_isIn wsX9_isIn rmX9_isIn (gk_Pn [.int a0, .int a1, .int a2]) (va_Qi (fun r _ => Q r) gk_Bn gk_An) 0 0 gk_An := by
  refine Met.ofW (cc := cX9_isIn) (maxL := 3) (ret := (some .boolean)) (by decide) rfl ?_
  intro p e s m args below meth c s₁ B hml0 hv0
  obtain ⟨rfl, _⟩ := hv0
  have C0 : gk_F p s m ([.int a0, .int a1, .int a2] : List Value).toArray meth c cX9_isIn 3 (some .boolean) RX9 := ⟨B.exec, B.bytes, hml0, findClass_of_methodNamed B.named, fun w hw => atoms_spec (ws := wsX9_isIn) B.pre w (List.mem_cons_of_mem _ hw), B.returns, B.notSynchronized⟩
  obtain ⟨hx, hb, hml, hown, hts, hr, hlocks⟩ := id C0
  have hS : va_S gk_An s.heap s.heap [] := va_S.rf
  have hl := lv_entry ([.int a0, .int a1, .int a2]) (n := 3) (Nat.le_of_ble_eq_true rfl)
  rw [lg_entry_eq]
  generalize (lg_sl ([.int a0, .int a1, .int a2]) ++ List.replicate (3 - (lg_sl ([.int a0, .int a1, .int a2])).length) Slot.unset).toArray = ls at hl ⊢
  have hl : lv_has ls 3 [(0, .int a0), (1, .int a1), (2, .int a2)] := hl
  show W p l e rmX9_isIn s m _ below meth c s.heap [] 0 0 _ _
  refine lv_iload_n hx hb dX9_isIn_0 rfl (lv_at hl 0 rfl) ?_
  refine lv_iload_n hx hb dX9_isIn_1 rfl (lv_at hl 1 rfl) ?_
  refine lv_icmp_lt (tgt := 14) hx hb dX9_isIn_2 (by decide) (fun c2 => ?_) (fun c2 => ?_)
  · have hw := hw.1 c2
    refine lv_iconst (v := 0) hx hb dX9_isIn_14 (by decide) ?_
    exact gk_retnz C0 (by decide) hw hS (fun _ h => h) dX9_isIn_15
  · have hw := hw.2 c2
    refine lv_iload_n hx hb dX9_isIn_5 rfl (lv_at hl 0 rfl) ?_
    refine lv_iload_n hx hb dX9_isIn_6 rfl (lv_at hl 2 rfl) ?_
    refine lv_icmp_gt (tgt := 14) hx hb dX9_isIn_7 (by decide) (fun c7 => ?_) (fun c7 => ?_)
    · have hw := hw.1 c7
      refine lv_iconst (v := 0) hx hb dX9_isIn_14 (by decide) ?_
      exact gk_retnz C0 (by decide) hw hS (fun _ h => h) dX9_isIn_15
    · have hw := hw.2 c7
      refine lv_iconst (v := 1) hx hb dX9_isIn_10 (by decide) ?_
      refine lv_goto (tgt := 15) hx hb dX9_isIn_11 (by decide) ?_
      exact gk_retnz C0 (by decide) hw hS (fun _ h => h) dX9_isIn_15
def w_X9_isAction (a0 : Int32) (Q : Int32 → Prop) : Prop := (w_X9_isIn a0 0 4 (fun r3 => gk_z r3 ∧ Q r3))
abbrev rmX9_isAction : Room := { frames := 1, cells := 0, slots := 0, locals := 22 }
set_option maxHeartbeats 4000000 in
set_option maxRecDepth 100000 in
theorem c_X9_isAction (l : Launch) {a0 : Int32} {Q : Int32 → Prop} (hw : w_X9_isAction a0 Q) : Met l yX9_isAction wsX9_isAction rmX9_isAction (gk_Pn [.int a0]) (va_Qi (fun r _ => Q r) gk_Bn gk_An) 0 0 gk_An := by
  refine Met.ofW (cc := cX9_isAction) (maxL := 1) (ret := (some .boolean)) (by decide) rfl ?_
  intro p e s m args below meth c s₁ B hml0 hv0
  obtain ⟨rfl, _⟩ := hv0
  have C0 : gk_F p s m ([.int a0] : List Value).toArray meth c cX9_isAction 1 (some .boolean) RX9 := ⟨B.exec, B.bytes, hml0, findClass_of_methodNamed B.named, fun w hw => atoms_spec (ws := wsX9_isAction) B.pre w (List.mem_cons_of_mem _ hw), B.returns, B.notSynchronized⟩
  obtain ⟨hx, hb, hml, hown, hts, hr, hlocks⟩ := id C0
  have hS : va_S gk_An s.heap s.heap [] := va_S.rf
  have hl := lv_entry ([.int a0]) (n := 1) (Nat.le_of_ble_eq_true rfl)
  rw [lg_entry_eq]
  generalize (lg_sl ([.int a0]) ++ List.replicate (1 - (lg_sl ([.int a0])).length) Slot.unset).toArray = ls at hl ⊢
  have hl : lv_has ls 1 [(0, .int a0)] := hl
  show W p l e rmX9_isAction s m _ below meth c s.heap [] 0 0 _ _
  refine lv_iload_n hx hb dX9_isAction_0 rfl (lv_at hl 0 rfl) ?_
  refine lv_iconst (v := 0) hx hb dX9_isAction_1 (by decide) ?_
  refine lv_iconst (v := 4) hx hb dX9_isAction_2 (by decide) ?_
  refine gk_callSi ⟨hx, hb, hml, hown, hts⟩ (c_X9_isIn l hw) (va_cwS 3 hts (gk_gS ml_X9_108 st_X9_isIn in_X9 co_X9_isIn) rfl rfl rfl (by decide +kernel) ⟨Nat.le_of_ble_eq_true rfl, Nat.le_of_ble_eq_true rfl⟩) hS rfl hl.1 (rest := []) rfl (lv_room (Nat.le_of_ble_eq_true rfl)) dX9_isAction_3 ⟨Nat.zero_le _, Nat.zero_le _⟩ (fun r3 H locs hw _ hk hS => ?_)
  obtain ⟨hz, hw⟩ := hw
  exact gk_retnz C0 hz hw hS (fun _ h => h) dX9_isAction_6
def w_X9_orNone (a0 : Int32) (Q : Int32 → Prop) : Prop := (((¬ a0 = 99) → (Q a0)) ∧ ((a0 = 99) → (Q (-1))))
abbrev rmX9_orNone : Room := { frames := 0, cells := 0, slots := 0, locals := 0 }
set_option maxHeartbeats 4000000 in
set_option maxRecDepth 100000 in
theorem c_X9_orNone (l : Launch) {a0 : Int32} {Q : Int32 → Prop} (hw : w_X9_orNone a0 Q) : Met l yX9_orNone wsX9_orNone rmX9_orNone (gk_Pn [.int a0]) (va_Qi (fun r _ => Q r) gk_Bn gk_An) 0 0 gk_An := by
  refine Met.ofW (cc := cX9_orNone) (maxL := 1) (ret := (some .int)) (by decide) rfl ?_
  intro p e s m args below meth c s₁ B hml0 hv0
  obtain ⟨rfl, _⟩ := hv0
  have C0 : gk_F p s m ([.int a0] : List Value).toArray meth c cX9_orNone 1 (some .int) RX9 := ⟨B.exec, B.bytes, hml0, findClass_of_methodNamed B.named, fun w hw => atoms_spec (ws := wsX9_orNone) B.pre w (List.mem_cons_of_mem _ hw), B.returns, B.notSynchronized⟩
  obtain ⟨hx, hb, hml, hown, hts, hr, hlocks⟩ := id C0
  have hS : va_S gk_An s.heap s.heap [] := va_S.rf
  have hl := lv_entry ([.int a0]) (n := 1) (Nat.le_of_ble_eq_true rfl)
  rw [lg_entry_eq]
  generalize (lg_sl ([.int a0]) ++ List.replicate (1 - (lg_sl ([.int a0])).length) Slot.unset).toArray = ls at hl ⊢
  have hl : lv_has ls 1 [(0, .int a0)] := hl
  show W p l e rmX9_orNone s m _ below meth c s.heap [] 0 0 _ _
  refine lv_iload_n hx hb dX9_orNone_0 rfl (lv_at hl 0 rfl) ?_
  refine lv_bipush (v := 99) hx hb dX9_orNone_1 (by decide) ?_
  refine lv_icmp_ne (tgt := 10) hx hb dX9_orNone_3 (by decide) (fun c3 => ?_) (fun c3 => ?_)
  · have hw := hw.1 c3
    refine lv_iload_n hx hb dX9_orNone_10 rfl (lv_at hl 0 rfl) ?_
    exact gk_retn C0 hw hS (fun _ h => h) dX9_orNone_11
  · have hw := hw.2 c3
    refine lv_iconst (v := (-1)) hx hb dX9_orNone_6 (by decide) ?_
    refine lv_goto (tgt := 11) hx hb dX9_orNone_7 (by decide) ?_
    exact gk_retn C0 hw hS (fun _ h => h) dX9_orNone_11
def w_X9_isAllowed (a0 : Int32) (Q : Int32 → Prop) : Prop := (((a0 = 1) → (Q 1)) ∧ ((¬ a0 = 1) → (((¬ a0 = 3) → (Q 0)) ∧ ((a0 = 3) → (Q 1)))))
abbrev rmX9_isAllowed : Room := { frames := 0, cells := 0, slots := 0, locals := 0 }
set_option maxHeartbeats 4000000 in
set_option maxRecDepth 100000 in
theorem c_X9_isAllowed (l : Launch) {a0 : Int32} {Q : Int32 → Prop} (hw : w_X9_isAllowed a0 Q) : Met l yX9_isAllowed wsX9_isAllowed rmX9_isAllowed (gk_Pn [.int a0]) (va_Qi (fun r _ => Q r) gk_Bn gk_An) 0 0 gk_An := by
  refine Met.ofW (cc := cX9_isAllowed) (maxL := 1) (ret := (some .boolean)) (by decide) rfl ?_
  intro p e s m args below meth c s₁ B hml0 hv0
  obtain ⟨rfl, _⟩ := hv0
  have C0 : gk_F p s m ([.int a0] : List Value).toArray meth c cX9_isAllowed 1 (some .boolean) RX9 := ⟨B.exec, B.bytes, hml0, findClass_of_methodNamed B.named, fun w hw => atoms_spec (ws := wsX9_isAllowed) B.pre w (List.mem_cons_of_mem _ hw), B.returns, B.notSynchronized⟩
  obtain ⟨hx, hb, hml, hown, hts, hr, hlocks⟩ := id C0
  have hS : va_S gk_An s.heap s.heap [] := va_S.rf
  have hl := lv_entry ([.int a0]) (n := 1) (Nat.le_of_ble_eq_true rfl)
  rw [lg_entry_eq]
  generalize (lg_sl ([.int a0]) ++ List.replicate (1 - (lg_sl ([.int a0])).length) Slot.unset).toArray = ls at hl ⊢
  have hl : lv_has ls 1 [(0, .int a0)] := hl
  show W p l e rmX9_isAllowed s m _ below meth c s.heap [] 0 0 _ _
  refine lv_iload_n hx hb dX9_isAllowed_0 rfl (lv_at hl 0 rfl) ?_
  refine lv_iconst (v := 1) hx hb dX9_isAllowed_1 (by decide) ?_
  refine lv_icmp_eq (tgt := 10) hx hb dX9_isAllowed_2 (by decide) (fun c2 => ?_) (fun c2 => ?_)
  · have hw := hw.1 c2
    refine lv_iconst (v := 1) hx hb dX9_isAllowed_10 (by decide) ?_
    refine lv_goto (tgt := 15) hx hb dX9_isAllowed_11 (by decide) ?_
    exact gk_retnz C0 (by decide) hw hS (fun _ h => h) dX9_isAllowed_15
  · have hw := hw.2 c2
    refine lv_iload_n hx hb dX9_isAllowed_5 rfl (lv_at hl 0 rfl) ?_
    refine lv_iconst (v := 3) hx hb dX9_isAllowed_6 (by decide) ?_
    refine lv_icmp_ne (tgt := 14) hx hb dX9_isAllowed_7 (by decide) (fun c7 => ?_) (fun c7 => ?_)
    · have hw := hw.1 c7
      refine lv_iconst (v := 0) hx hb dX9_isAllowed_14 (by decide) ?_
      exact gk_retnz C0 (by decide) hw hS (fun _ h => h) dX9_isAllowed_15
    · have hw := hw.2 c7
      refine lv_iconst (v := 1) hx hb dX9_isAllowed_10 (by decide) ?_
      refine lv_goto (tgt := 15) hx hb dX9_isAllowed_11 (by decide) ?_
      exact gk_retnz C0 (by decide) hw hS (fun _ h => h) dX9_isAllowed_15
def wL_X9_many_4 (Q : Int32 → Prop) : Nat → Int32 → Int32 → Int32 → Prop
  | 0 => fun _ _ _ => False
  | n + 1 => fun x0 x1 x2 => (((12 ≤ x2) → (Q x1)) ∧ ((¬ 12 ≤ x2) → (wL_X9_many_4 Q n x0 (x1 + ((x0 >>> (x2 &&& 31)) &&& 1)) (x2 + 1))))
def w_X9_many (a0 : Int32) (Q : Int32 → Prop) : Prop := (∃ n4, wL_X9_many_4 Q n4 a0 0 0)
abbrev rmX9_many : Room := { frames := 0, cells := 0, slots := 0, locals := 0 }
set_option maxHeartbeats 4000000 in
set_option maxRecDepth 100000 in
theorem tL_X9_many_4 {p : Program} {l : Launch} {e : Env} {s : State} {m : MethodId} {args : Array Value} {below : List Frame} {meth : Method} {c : Code} (C0 : gk_F p s m args meth c cX9_many 3 (some .int) RX9) {Q : Int32 → Prop} : ∀ (n : Nat) (x0 : Int32) (x1 : Int32) (x2 : Int32), wL_X9_many_4 Q n x0 x1 x2 → ∀ (H : Heap) (locs : List Loc), va_S gk_An s.heap H locs → ∀ (ls : Array Slot), lv_has ls 3 [(0, .int x0), (1, .int x1), (2, .int x2)] → W p l e rmX9_many s m args below meth c H locs 0 0 (MQ below (va_Qi (fun r _ => Q r) gk_Bn gk_An) args s 0 0 gk_An) (F0 m 4 ls []) := by
  obtain ⟨hx, hb, hml, hown, hts, hr, hlocks⟩ := id C0
  intro n
  induction n with
  | zero => exact fun _ _ _ hw => False.elim hw
  | succ n ih =>
    intro x0 x1 x2 hw H locs hS ls hl
    refine lv_iload_n hx hb dX9_many_4 rfl (lv_at hl 2 rfl) ?_
    refine lv_bipush (v := 12) hx hb dX9_many_5 (by decide) ?_
    refine lv_icmp_ge (tgt := 24) hx hb dX9_many_7 (by decide) (fun c7 => ?_) (fun c7 => ?_)
    · have hw := hw.1 c7
      refine lv_iload_n hx hb dX9_many_24 rfl (lv_at hl 1 rfl) ?_
      exact gk_retn C0 hw hS (fun _ h => h) dX9_many_25
    · have hw := hw.2 c7
      refine lv_iload_n hx hb dX9_many_10 rfl (lv_at hl 1 rfl) ?_
      refine lv_iload_n hx hb dX9_many_11 rfl (lv_at hl 0 rfl) ?_
      refine lv_iload_n hx hb dX9_many_12 rfl (lv_at hl 2 rfl) ?_
      refine lv_ishr hx hb dX9_many_13 ?_
      refine lv_iconst (v := 1) hx hb dX9_many_14 (by decide) ?_
      refine lv_iand hx hb dX9_many_15 ?_
      refine lv_iadd hx hb dX9_many_16 ?_
      refine lv_istore_n (lv' := [(1, .int (x1 + ((x0 >>> (x2 &&& 31)) &&& 1))), (0, .int x0), (2, .int x2)]) hx hb dX9_many_17 rfl hl (by decide) rfl (fun ls hl => ?_)
      refine lv_iinc (v := (x2 + 1)) (lv' := [(2, .int (x2 + 1)), (1, .int (x1 + ((x0 >>> (x2 &&& 31)) &&& 1))), (0, .int x0)]) hx hb dX9_many_18 hl (k := 2) rfl rfl (by decide) rfl (fun ls hl => ?_)
      refine lv_goto (tgt := 4) hx hb dX9_many_21 (by decide) ?_
      exact ih x0 (x1 + ((x0 >>> (x2 &&& 31)) &&& 1)) (x2 + 1) hw _ _ hS _ (lv_sub hl [2, 1, 0] rfl)
set_option maxHeartbeats 4000000 in
set_option maxRecDepth 100000 in
theorem c_X9_many (l : Launch) {a0 : Int32} {Q : Int32 → Prop} (hw : w_X9_many a0 Q) : Met l yX9_many wsX9_many rmX9_many (gk_Pn [.int a0]) (va_Qi (fun r _ => Q r) gk_Bn gk_An) 0 0 gk_An := by
  refine Met.ofW (cc := cX9_many) (maxL := 3) (ret := (some .int)) (by decide) rfl ?_
  intro p e s m args below meth c s₁ B hml0 hv0
  obtain ⟨rfl, _⟩ := hv0
  have C0 : gk_F p s m ([.int a0] : List Value).toArray meth c cX9_many 3 (some .int) RX9 := ⟨B.exec, B.bytes, hml0, findClass_of_methodNamed B.named, fun w hw => atoms_spec (ws := wsX9_many) B.pre w (List.mem_cons_of_mem _ hw), B.returns, B.notSynchronized⟩
  obtain ⟨hx, hb, hml, hown, hts, hr, hlocks⟩ := id C0
  have hS : va_S gk_An s.heap s.heap [] := va_S.rf
  have hl := lv_entry ([.int a0]) (n := 3) (Nat.le_of_ble_eq_true rfl)
  rw [lg_entry_eq]
  generalize (lg_sl ([.int a0]) ++ List.replicate (3 - (lg_sl ([.int a0])).length) Slot.unset).toArray = ls at hl ⊢
  have hl : lv_has ls 3 [(0, .int a0)] := hl
  show W p l e rmX9_many s m _ below meth c s.heap [] 0 0 _ _
  refine lv_iconst (v := 0) hx hb dX9_many_0 (by decide) ?_
  refine lv_istore_n (lv' := [(1, .int 0), (0, .int a0)]) hx hb dX9_many_1 rfl hl (by decide) rfl (fun ls hl => ?_)
  refine lv_iconst (v := 0) hx hb dX9_many_2 (by decide) ?_
  refine lv_istore_n (lv' := [(2, .int 0), (1, .int 0), (0, .int a0)]) hx hb dX9_many_3 rfl hl (by decide) rfl (fun ls hl => ?_)
  obtain ⟨n4, hw⟩ := hw
  refine tL_X9_many_4 C0  n4 a0 0 0 hw _ _ hS _ (lv_sub hl [2, 1, 0] rfl)
def w_X9_thrown (σ : gk_C)  (Q : Int32 → Prop) : Prop := (Q (σ.2 0))
abbrev rmX9_thrown : Room := { frames := 0, cells := 0, slots := 0, locals := 0 }
set_option maxHeartbeats 4000000 in
set_option maxRecDepth 100000 in
theorem c_X9_thrown (l : Launch) (D : va_G) (cI cZ cG cL : ClassId) (am : Nat → Nat) {σ : gk_C} {Q : Int32 → Prop} {sz : Nat} (hw : w_X9_thrown σ  Q) : Met l yX9_thrown wsX9_thrown rmX9_thrown (mk_Pc (mk_V D cI cZ am) D cI cZ cG cL [.ref (am 38)] sz σ (fun _ => True)) (va_Qi (fun r u => u = σ ∧ Q r) (mk_B (mk_V D cI cZ am)) (mk_A am sz)) 0 0 (mk_A am sz) := by
  refine Met.ofW (cc := cX9_thrown) (maxL := 1) (ret := (some .int)) (by decide) rfl ?_
  intro p e s m args below meth c s₁ B hml0 hv0
  obtain ⟨rfl, hsz, hW, hK, hX⟩ := hv0
  subst hsz
  have C0 : gk_F p s m ([.ref (am 38)] : List Value).toArray meth c cX9_thrown 1 (some .int) RX9 := ⟨B.exec, B.bytes, hml0, findClass_of_methodNamed B.named, fun w hw => atoms_spec (ws := wsX9_thrown) B.pre w (List.mem_cons_of_mem _ hw), B.returns, B.notSynchronized⟩
  obtain ⟨hx, hb, hml, hown, hts, hr, hlocks⟩ := id C0
  have hS : va_S (mk_A am s.heap.size) s.heap s.heap [] := va_S.rf
  have hl := lv_entry ([.ref (am 38)]) (n := 1) (Nat.le_of_ble_eq_true rfl)
  rw [lg_entry_eq]
  generalize (lg_sl ([.ref (am 38)]) ++ List.replicate (1 - (lg_sl ([.ref (am 38)])).length) Slot.unset).toArray = ls at hl ⊢
  have hl : lv_has ls 1 [(0, .ref (am 38))] := hl
  show W p l e rmX9_thrown s m _ below meth c s.heap [] 0 0 _ _
  refine lv_aload_n hx hb dX9_thrown_0 rfl (lv_at hl 0 rfl) ?_
  refine gk_get hx hb hts iwX9 hown hK.1 (mk_obj hW) rfl 0 (by decide) (hts _ fl_X9_102) (fun _ h9 => h9) rfl dX9_thrown_1 ?_
  refine W.widen (k := 0) (n := 0) (Nat.le_of_ble_eq_true rfl) (Nat.le_of_ble_eq_true rfl) ?_
  exact mk_reti C0 ⟨rfl, hw⟩ hW hS dX9_thrown_4
def w_X9_no (σ : gk_C) (a0 : Int32) (Q : Int32 → gk_C → Prop) : Prop := (Q 0 (gk_s σ 0 a0))
abbrev rmX9_no : Room := { frames := 0, cells := 0, slots := 0, locals := 0 }
set_option maxHeartbeats 4000000 in
set_option maxRecDepth 100000 in
theorem c_X9_no (l : Launch) (D : va_G) (cI cZ cG cL : ClassId) (am : Nat → Nat) {σ : gk_C} {a0 : Int32} {Q : Int32 → gk_C → Prop} {sz : Nat} (hw : w_X9_no σ a0 Q) : Met l yX9_no wsX9_no rmX9_no (mk_Pc (mk_V D cI cZ am) D cI cZ cG cL [.ref (am 38), .int a0] sz σ (fun _ => True)) (va_Qi (fun r u => Q r u) (mk_B (mk_V D cI cZ am)) (mk_A am sz)) 0 0 (mk_A am sz) := by
  refine Met.ofW (cc := cX9_no) (maxL := 2) (ret := (some .int)) (by decide) rfl ?_
  intro p e s m args below meth c s₁ B hml0 hv0
  obtain ⟨rfl, hsz, hW, hK, hX⟩ := hv0
  subst hsz
  have C0 : gk_F p s m ([.ref (am 38), .int a0] : List Value).toArray meth c cX9_no 2 (some .int) RX9 := ⟨B.exec, B.bytes, hml0, findClass_of_methodNamed B.named, fun w hw => atoms_spec (ws := wsX9_no) B.pre w (List.mem_cons_of_mem _ hw), B.returns, B.notSynchronized⟩
  obtain ⟨hx, hb, hml, hown, hts, hr, hlocks⟩ := id C0
  have hS : va_S (mk_A am s.heap.size) s.heap s.heap [] := va_S.rf
  have hl := lv_entry ([.ref (am 38), .int a0]) (n := 2) (Nat.le_of_ble_eq_true rfl)
  rw [lg_entry_eq]
  generalize (lg_sl ([.ref (am 38), .int a0]) ++ List.replicate (2 - (lg_sl ([.ref (am 38), .int a0])).length) Slot.unset).toArray = ls at hl ⊢
  have hl : lv_has ls 2 [(0, .ref (am 38)), (1, .int a0)] := hl
  show W p l e rmX9_no s m _ below meth c s.heap [] 0 0 _ _
  refine lv_aload_n hx hb dX9_no_0 rfl (lv_at hl 0 rfl) ?_
  refine lv_iload_n hx hb dX9_no_1 rfl (lv_at hl 1 rfl) ?_
  refine gk_putf (ty := .int) (v := .int a0) hx hb hts iwX9 tyX9 tyX9_ok nmX9 hown hK.1 hS (mk_A.in List.mem_cons_self) (mk_obj hW) rfl 0 (by decide) (hts _ fl_X9_102) (fun _ h9 => h9) rfl (by decide +kernel) rfl rfl (Nat.le_of_ble_eq_true rfl) dX9_no_2 (fun H locs h1 _ oq hS => ?_)
  have hW := hW.setS (i := 0) (v := a0) h1 oq
  refine lv_iconst (v := 0) hx hb dX9_no_5 (by decide) ?_
  refine W.widen (k := 0) (n := 0) (Nat.le_of_ble_eq_true rfl) (Nat.le_of_ble_eq_true rfl) ?_
  exact mk_reti C0 hw hW hS dX9_no_6
def w_X9_isNot (σ : gk_C) (a0 : Int32) (Q : Int32 → gk_C → Prop) : Prop := (Q 0 (gk_s σ 0 a0))
abbrev rmX9_isNot : Room := { frames := 0, cells := 0, slots := 0, locals := 0 }
set_option maxHeartbeats 4000000 in
set_option maxRecDepth 100000 in
theorem c_X9_isNot (l : Launch) (D : va_G) (cI cZ cG cL : ClassId) (am : Nat → Nat) {σ : gk_C} {a0 : Int32} {Q : Int32 → gk_C → Prop} {sz : Nat} (hw : w_X9_isNot σ a0 Q) : Met l yX9_isNot wsX9_isNot rmX9_isNot (mk_Pc (mk_V D cI cZ am) D cI cZ cG cL [.ref (am 38), .int a0] sz σ (fun _ => True)) (va_Qi (fun r u => Q r u) (mk_B (mk_V D cI cZ am)) (mk_A am sz)) 0 0 (mk_A am sz) := by
  refine Met.ofW (cc := cX9_isNot) (maxL := 2) (ret := (some .boolean)) (by decide) rfl ?_
  intro p e s m args below meth c s₁ B hml0 hv0
  obtain ⟨rfl, hsz, hW, hK, hX⟩ := hv0
  subst hsz
  have C0 : gk_F p s m ([.ref (am 38), .int a0] : List Value).toArray meth c cX9_isNot 2 (some .boolean) RX9 := ⟨B.exec, B.bytes, hml0, findClass_of_methodNamed B.named, fun w hw => atoms_spec (ws := wsX9_isNot) B.pre w (List.mem_cons_of_mem _ hw), B.returns, B.notSynchronized⟩
  obtain ⟨hx, hb, hml, hown, hts, hr, hlocks⟩ := id C0
  have hS : va_S (mk_A am s.heap.size) s.heap s.heap [] := va_S.rf
  have hl := lv_entry ([.ref (am 38), .int a0]) (n := 2) (Nat.le_of_ble_eq_true rfl)
  rw [lg_entry_eq]
  generalize (lg_sl ([.ref (am 38), .int a0]) ++ List.replicate (2 - (lg_sl ([.ref (am 38), .int a0])).length) Slot.unset).toArray = ls at hl ⊢
  have hl : lv_has ls 2 [(0, .ref (am 38)), (1, .int a0)] := hl
  show W p l e rmX9_isNot s m _ below meth c s.heap [] 0 0 _ _
  refine lv_aload_n hx hb dX9_isNot_0 rfl (lv_at hl 0 rfl) ?_
  refine lv_iload_n hx hb dX9_isNot_1 rfl (lv_at hl 1 rfl) ?_
  refine gk_putf (ty := .int) (v := .int a0) hx hb hts iwX9 tyX9 tyX9_ok nmX9 hown hK.1 hS (mk_A.in List.mem_cons_self) (mk_obj hW) rfl 0 (by decide) (hts _ fl_X9_102) (fun _ h9 => h9) rfl (by decide +kernel) rfl rfl (Nat.le_of_ble_eq_true rfl) dX9_isNot_2 (fun H locs h1 _ oq hS => ?_)
  have hW := hW.setS (i := 0) (v := a0) h1 oq
  refine lv_iconst (v := 0) hx hb dX9_isNot_5 (by decide) ?_
  refine W.widen (k := 0) (n := 0) (Nat.le_of_ble_eq_true rfl) (Nat.le_of_ble_eq_true rfl) ?_
  exact mk_retz C0 (by decide) hw hW hS dX9_isNot_6
def w_X9_ok (σ : gk_C) (a0 : Int32) (Q : Int32 → gk_C → Prop) : Prop := (Q a0 (gk_s σ 0 0))
abbrev rmX9_ok : Room := { frames := 0, cells := 0, slots := 0, locals := 0 }
set_option maxHeartbeats 4000000 in
set_option maxRecDepth 100000 in
theorem c_X9_ok (l : Launch) (D : va_G) (cI cZ cG cL : ClassId) (am : Nat → Nat) {σ : gk_C} {a0 : Int32} {Q : Int32 → gk_C → Prop} {sz : Nat} (hw : w_X9_ok σ a0 Q) : Met l yX9_ok wsX9_ok rmX9_ok (mk_Pc (mk_V D cI cZ am) D cI cZ cG cL [.ref (am 38), .int a0] sz σ (fun _ => True)) (va_Qi (fun r u => Q r u) (mk_B (mk_V D cI cZ am)) (mk_A am sz)) 0 0 (mk_A am sz) := by
  refine Met.ofW (cc := cX9_ok) (maxL := 2) (ret := (some .int)) (by decide) rfl ?_
  intro p e s m args below meth c s₁ B hml0 hv0
  obtain ⟨rfl, hsz, hW, hK, hX⟩ := hv0
  subst hsz
  have C0 : gk_F p s m ([.ref (am 38), .int a0] : List Value).toArray meth c cX9_ok 2 (some .int) RX9 := ⟨B.exec, B.bytes, hml0, findClass_of_methodNamed B.named, fun w hw => atoms_spec (ws := wsX9_ok) B.pre w (List.mem_cons_of_mem _ hw), B.returns, B.notSynchronized⟩
  obtain ⟨hx, hb, hml, hown, hts, hr, hlocks⟩ := id C0
  have hS : va_S (mk_A am s.heap.size) s.heap s.heap [] := va_S.rf
  have hl := lv_entry ([.ref (am 38), .int a0]) (n := 2) (Nat.le_of_ble_eq_true rfl)
  rw [lg_entry_eq]
  generalize (lg_sl ([.ref (am 38), .int a0]) ++ List.replicate (2 - (lg_sl ([.ref (am 38), .int a0])).length) Slot.unset).toArray = ls at hl ⊢
  have hl : lv_has ls 2 [(0, .ref (am 38)), (1, .int a0)] := hl
  show W p l e rmX9_ok s m _ below meth c s.heap [] 0 0 _ _
  refine lv_aload_n hx hb dX9_ok_0 rfl (lv_at hl 0 rfl) ?_
  refine lv_iconst (v := 0) hx hb dX9_ok_1 (by decide) ?_
  refine gk_putf (ty := .int) (v := .int 0) hx hb hts iwX9 tyX9 tyX9_ok nmX9 hown hK.1 hS (mk_A.in List.mem_cons_self) (mk_obj hW) rfl 0 (by decide) (hts _ fl_X9_102) (fun _ h9 => h9) rfl (by decide +kernel) rfl rfl (Nat.le_of_ble_eq_true rfl) dX9_ok_2 (fun H locs h1 _ oq hS => ?_)
  have hW := hW.setS (i := 0) (v := 0) h1 oq
  refine lv_iload_n hx hb dX9_ok_5 rfl (lv_at hl 1 rfl) ?_
  refine W.widen (k := 0) (n := 0) (Nat.le_of_ble_eq_true rfl) (Nat.le_of_ble_eq_true rfl) ?_
  exact mk_reti C0 hw hW hS dX9_ok_6
def w_X9_isUser (σ : gk_C) (a0 : Int32) (Q : Int32 → Prop) : Prop := (w_X9_isIn a0 0 ((σ.2 3) - 1) (fun r8 => gk_z r8 ∧ Q r8))
abbrev rmX9_isUser : Room := { frames := 1, cells := 0, slots := 0, locals := 22 }
set_option maxHeartbeats 4000000 in
set_option maxRecDepth 100000 in
theorem c_X9_isUser (l : Launch) (D : va_G) (cI cZ cG cL : ClassId) (am : Nat → Nat) {σ : gk_C} {a0 : Int32} {Q : Int32 → Prop} {sz : Nat} (hw : w_X9_isUser σ a0 Q) : Met l yX9_isUser wsX9_isUser rmX9_isUser (mk_Pc (mk_V D cI cZ am) D cI cZ cG cL [.ref (am 38), .int a0] sz σ (fun _ => True)) (va_Qi (fun r u => u = σ ∧ Q r) (mk_B (mk_V D cI cZ am)) (mk_A am sz)) 0 0 (mk_A am sz) := by
  refine Met.ofW (cc := cX9_isUser) (maxL := 2) (ret := (some .boolean)) (by decide) rfl ?_
  intro p e s m args below meth c s₁ B hml0 hv0
  obtain ⟨rfl, hsz, hW, hK, hX⟩ := hv0
  subst hsz
  have C0 : gk_F p s m ([.ref (am 38), .int a0] : List Value).toArray meth c cX9_isUser 2 (some .boolean) RX9 := ⟨B.exec, B.bytes, hml0, findClass_of_methodNamed B.named, fun w hw => atoms_spec (ws := wsX9_isUser) B.pre w (List.mem_cons_of_mem _ hw), B.returns, B.notSynchronized⟩
  obtain ⟨hx, hb, hml, hown, hts, hr, hlocks⟩ := id C0
  have hS : va_S (mk_A am s.heap.size) s.heap s.heap [] := va_S.rf
  have hl := lv_entry ([.ref (am 38), .int a0]) (n := 2) (Nat.le_of_ble_eq_true rfl)
  rw [lg_entry_eq]
  generalize (lg_sl ([.ref (am 38), .int a0]) ++ List.replicate (2 - (lg_sl ([.ref (am 38), .int a0])).length) Slot.unset).toArray = ls at hl ⊢
  have hl : lv_has ls 2 [(0, .ref (am 38)), (1, .int a0)] := hl
  show W p l e rmX9_isUser s m _ below meth c s.heap [] 0 0 _ _
  refine lv_iload_n hx hb dX9_isUser_0 rfl (lv_at hl 1 rfl) ?_
  refine lv_iconst (v := 0) hx hb dX9_isUser_1 (by decide) ?_
  refine lv_aload_n hx hb dX9_isUser_2 rfl (lv_at hl 0 rfl) ?_
  refine gk_get hx hb hts iwX9 hown hK.1 (mk_obj hW) rfl 3 (by decide) (hts _ fl_X9_105) (fun _ h9 => h9) rfl dX9_isUser_3 ?_
  refine lv_iconst (v := 1) hx hb dX9_isUser_6 (by decide) ?_
  refine lv_isub hx hb dX9_isUser_7 ?_
  refine gk_callSi ⟨hx, hb, hml, hown, hts⟩ (c_X9_isIn l hw) (va_cwS 3 hts (gk_gS ml_X9_108 st_X9_isIn in_X9 co_X9_isIn) rfl rfl rfl (by decide +kernel) ⟨Nat.le_of_ble_eq_true rfl, Nat.le_of_ble_eq_true rfl⟩) hS rfl hl.1 (rest := []) rfl (lv_room (Nat.le_of_ble_eq_true rfl)) dX9_isUser_8 ⟨Nat.le_of_ble_eq_true rfl, Nat.le_of_ble_eq_true rfl⟩ (fun r8 H locs hw _ hk hS => ?_)
  have hW := hW.keptAll hk
  refine W.widen (k := 0) (n := 0) (Nat.le_of_ble_eq_true rfl) (Nat.le_of_ble_eq_true rfl) ?_
  obtain ⟨hz, hw⟩ := hw
  exact mk_retz C0 hz ⟨rfl, hw⟩ hW hS dX9_isUser_11
def w_X9_isRole (σ : gk_C) (a0 : Int32) (Q : Int32 → Prop) : Prop := (w_X9_isIn a0 0 ((σ.2 7) - 1) (fun r8 => gk_z r8 ∧ Q r8))
abbrev rmX9_isRole : Room := { frames := 1, cells := 0, slots := 0, locals := 22 }
set_option maxHeartbeats 4000000 in
set_option maxRecDepth 100000 in
theorem c_X9_isRole (l : Launch) (D : va_G) (cI cZ cG cL : ClassId) (am : Nat → Nat) {σ : gk_C} {a0 : Int32} {Q : Int32 → Prop} {sz : Nat} (hw : w_X9_isRole σ a0 Q) : Met l yX9_isRole wsX9_isRole rmX9_isRole (mk_Pc (mk_V D cI cZ am) D cI cZ cG cL [.ref (am 38), .int a0] sz σ (fun _ => True)) (va_Qi (fun r u => u = σ ∧ Q r) (mk_B (mk_V D cI cZ am)) (mk_A am sz)) 0 0 (mk_A am sz) := by
  refine Met.ofW (cc := cX9_isRole) (maxL := 2) (ret := (some .boolean)) (by decide) rfl ?_
  intro p e s m args below meth c s₁ B hml0 hv0
  obtain ⟨rfl, hsz, hW, hK, hX⟩ := hv0
  subst hsz
  have C0 : gk_F p s m ([.ref (am 38), .int a0] : List Value).toArray meth c cX9_isRole 2 (some .boolean) RX9 := ⟨B.exec, B.bytes, hml0, findClass_of_methodNamed B.named, fun w hw => atoms_spec (ws := wsX9_isRole) B.pre w (List.mem_cons_of_mem _ hw), B.returns, B.notSynchronized⟩
  obtain ⟨hx, hb, hml, hown, hts, hr, hlocks⟩ := id C0
  have hS : va_S (mk_A am s.heap.size) s.heap s.heap [] := va_S.rf
  have hl := lv_entry ([.ref (am 38), .int a0]) (n := 2) (Nat.le_of_ble_eq_true rfl)
  rw [lg_entry_eq]
  generalize (lg_sl ([.ref (am 38), .int a0]) ++ List.replicate (2 - (lg_sl ([.ref (am 38), .int a0])).length) Slot.unset).toArray = ls at hl ⊢
  have hl : lv_has ls 2 [(0, .ref (am 38)), (1, .int a0)] := hl
  show W p l e rmX9_isRole s m _ below meth c s.heap [] 0 0 _ _
  refine lv_iload_n hx hb dX9_isRole_0 rfl (lv_at hl 1 rfl) ?_
  refine lv_iconst (v := 0) hx hb dX9_isRole_1 (by decide) ?_
  refine lv_aload_n hx hb dX9_isRole_2 rfl (lv_at hl 0 rfl) ?_
  refine gk_get hx hb hts iwX9 hown hK.1 (mk_obj hW) rfl 7 (by decide) (hts _ fl_X9_112) (fun _ h9 => h9) rfl dX9_isRole_3 ?_
  refine lv_iconst (v := 1) hx hb dX9_isRole_6 (by decide) ?_
  refine lv_isub hx hb dX9_isRole_7 ?_
  refine gk_callSi ⟨hx, hb, hml, hown, hts⟩ (c_X9_isIn l hw) (va_cwS 3 hts (gk_gS ml_X9_108 st_X9_isIn in_X9 co_X9_isIn) rfl rfl rfl (by decide +kernel) ⟨Nat.le_of_ble_eq_true rfl, Nat.le_of_ble_eq_true rfl⟩) hS rfl hl.1 (rest := []) rfl (lv_room (Nat.le_of_ble_eq_true rfl)) dX9_isRole_8 ⟨Nat.le_of_ble_eq_true rfl, Nat.le_of_ble_eq_true rfl⟩ (fun r8 H locs hw _ hk hS => ?_)
  have hW := hW.keptAll hk
  refine W.widen (k := 0) (n := 0) (Nat.le_of_ble_eq_true rfl) (Nat.le_of_ble_eq_true rfl) ?_
  obtain ⟨hz, hw⟩ := hw
  exact mk_retz C0 hz ⟨rfl, hw⟩ hW hS dX9_isRole_11
def w_X9_isResource (σ : gk_C) (a0 : Int32) (Q : Int32 → Prop) : Prop := (w_X9_isIn a0 0 ((σ.2 11) - 1) (fun r8 => gk_z r8 ∧ Q r8))
abbrev rmX9_isResource : Room := { frames := 1, cells := 0, slots := 0, locals := 22 }
set_option maxHeartbeats 4000000 in
set_option maxRecDepth 100000 in
theorem c_X9_isResource (l : Launch) (D : va_G) (cI cZ cG cL : ClassId) (am : Nat → Nat) {σ : gk_C} {a0 : Int32} {Q : Int32 → Prop} {sz : Nat} (hw : w_X9_isResource σ a0 Q) : Met l yX9_isResource wsX9_isResource rmX9_isResource (mk_Pc (mk_V D cI cZ am) D cI cZ cG cL [.ref (am 38), .int a0] sz σ (fun _ => True)) (va_Qi (fun r u => u = σ ∧ Q r) (mk_B (mk_V D cI cZ am)) (mk_A am sz)) 0 0 (mk_A am sz) := by
  refine Met.ofW (cc := cX9_isResource) (maxL := 2) (ret := (some .boolean)) (by decide) rfl ?_
  intro p e s m args below meth c s₁ B hml0 hv0
  obtain ⟨rfl, hsz, hW, hK, hX⟩ := hv0
  subst hsz
  have C0 : gk_F p s m ([.ref (am 38), .int a0] : List Value).toArray meth c cX9_isResource 2 (some .boolean) RX9 := ⟨B.exec, B.bytes, hml0, findClass_of_methodNamed B.named, fun w hw => atoms_spec (ws := wsX9_isResource) B.pre w (List.mem_cons_of_mem _ hw), B.returns, B.notSynchronized⟩
  obtain ⟨hx, hb, hml, hown, hts, hr, hlocks⟩ := id C0
  have hS : va_S (mk_A am s.heap.size) s.heap s.heap [] := va_S.rf
  have hl := lv_entry ([.ref (am 38), .int a0]) (n := 2) (Nat.le_of_ble_eq_true rfl)
  rw [lg_entry_eq]
  generalize (lg_sl ([.ref (am 38), .int a0]) ++ List.replicate (2 - (lg_sl ([.ref (am 38), .int a0])).length) Slot.unset).toArray = ls at hl ⊢
  have hl : lv_has ls 2 [(0, .ref (am 38)), (1, .int a0)] := hl
  show W p l e rmX9_isResource s m _ below meth c s.heap [] 0 0 _ _
  refine lv_iload_n hx hb dX9_isResource_0 rfl (lv_at hl 1 rfl) ?_
  refine lv_iconst (v := 0) hx hb dX9_isResource_1 (by decide) ?_
  refine lv_aload_n hx hb dX9_isResource_2 rfl (lv_at hl 0 rfl) ?_
  refine gk_get hx hb hts iwX9 hown hK.1 (mk_obj hW) rfl 11 (by decide) (hts _ fl_X9_25) (fun _ h9 => h9) rfl dX9_isResource_3 ?_
  refine lv_iconst (v := 1) hx hb dX9_isResource_6 (by decide) ?_
  refine lv_isub hx hb dX9_isResource_7 ?_
  refine gk_callSi ⟨hx, hb, hml, hown, hts⟩ (c_X9_isIn l hw) (va_cwS 3 hts (gk_gS ml_X9_108 st_X9_isIn in_X9 co_X9_isIn) rfl rfl rfl (by decide +kernel) ⟨Nat.le_of_ble_eq_true rfl, Nat.le_of_ble_eq_true rfl⟩) hS rfl hl.1 (rest := []) rfl (lv_room (Nat.le_of_ble_eq_true rfl)) dX9_isResource_8 ⟨Nat.le_of_ble_eq_true rfl, Nat.le_of_ble_eq_true rfl⟩ (fun r8 H locs hw _ hk hS => ?_)
  have hW := hW.keptAll hk
  refine W.widen (k := 0) (n := 0) (Nat.le_of_ble_eq_true rfl) (Nat.le_of_ble_eq_true rfl) ?_
  obtain ⟨hz, hw⟩ := hw
  exact mk_retz C0 hz ⟨rfl, hw⟩ hW hS dX9_isResource_11
def w_X9_isQuestion (σ : gk_C) (a0 : Int32) (a1 : Int32) (a2 : Int32) (Q : Int32 → Prop) : Prop := (w_X9_isUser σ a0 (fun r2 => ((r2 = 0) → (Q 0)) ∧ ((¬ r2 = 0) → (w_X9_isAction a1 (fun r9 => ((r9 = 0) → (Q 0)) ∧ ((¬ r9 = 0) → (w_X9_isResource σ a2 (fun r17 => ((r17 = 0) → (Q 0)) ∧ ((¬ r17 = 0) → (Q 1))))))))))
abbrev rmX9_isQuestion : Room := { frames := 2, cells := 0, slots := 0, locals := 43 }
set_option maxHeartbeats 4000000 in
set_option maxRecDepth 100000 in
theorem c_X9_isQuestion (l : Launch) (D : va_G) (cI cZ cG cL : ClassId) (am : Nat → Nat) {σ : gk_C} {a0 : Int32} {a1 : Int32} {a2 : Int32} {Q : Int32 → Prop} {sz : Nat} (hw : w_X9_isQuestion σ a0 a1 a2 Q) : Met l yX9_isQuestion wsX9_isQuestion rmX9_isQuestion (mk_Pc (mk_V D cI cZ am) D cI cZ cG cL [.ref (am 38), .int a0, .int a1, .int a2] sz σ (fun _ => True)) (va_Qi (fun r u => u = σ ∧ Q r) (mk_B (mk_V D cI cZ am)) (mk_A am sz)) 0 0 (mk_A am sz) := by
  refine Met.ofW (cc := cX9_isQuestion) (maxL := 4) (ret := (some .boolean)) (by decide) rfl ?_
  intro p e s m args below meth c s₁ B hml0 hv0
  obtain ⟨rfl, hsz, hW, hK, hX⟩ := hv0
  subst hsz
  have C0 : gk_F p s m ([.ref (am 38), .int a0, .int a1, .int a2] : List Value).toArray meth c cX9_isQuestion 4 (some .boolean) RX9 := ⟨B.exec, B.bytes, hml0, findClass_of_methodNamed B.named, fun w hw => atoms_spec (ws := wsX9_isQuestion) B.pre w (List.mem_cons_of_mem _ hw), B.returns, B.notSynchronized⟩
  obtain ⟨hx, hb, hml, hown, hts, hr, hlocks⟩ := id C0
  have hS : va_S (mk_A am s.heap.size) s.heap s.heap [] := va_S.rf
  have hl := lv_entry ([.ref (am 38), .int a0, .int a1, .int a2]) (n := 4) (Nat.le_of_ble_eq_true rfl)
  rw [lg_entry_eq]
  generalize (lg_sl ([.ref (am 38), .int a0, .int a1, .int a2]) ++ List.replicate (4 - (lg_sl ([.ref (am 38), .int a0, .int a1, .int a2])).length) Slot.unset).toArray = ls at hl ⊢
  have hl : lv_has ls 4 [(0, .ref (am 38)), (1, .int a0), (2, .int a1), (3, .int a2)] := hl
  show W p l e rmX9_isQuestion s m _ below meth c s.heap [] 0 0 _ _
  refine lv_aload_n hx hb dX9_isQuestion_0 rfl (lv_at hl 0 rfl) ?_
  refine lv_iload_n hx hb dX9_isQuestion_1 rfl (lv_at hl 1 rfl) ?_
  refine mk_callRi ⟨hx, hb, hml, hown, hts⟩ (c_X9_isUser l D cI cZ cG cL am hw) (cwV 1 hts (gk_gV ml_X9_115 im_X9_isUser se_X9_isUser in_X9 co_X9_isUser) rfl rfl rfl (by decide +kernel) ⟨Nat.le_of_ble_eq_true rfl, Nat.le_of_ble_eq_true rfl⟩) (gk_recv hK.1 (mk_obj hW) rfl) hW hK trivial hS rfl hl.1 (rest := []) rfl (lv_room (Nat.le_of_ble_eq_true rfl)) dX9_isQuestion_2 ⟨Nat.le_of_ble_eq_true rfl, Nat.le_of_ble_eq_true rfl⟩ (fun r2 H locs hw hW _ hk hS => ?_)
  refine lv_if_eq (tgt := 27) hx hb dX9_isQuestion_5 (by decide) (fun c5 => ?_) (fun c5 => ?_)
  · have hw := hw.1 c5
    refine lv_iconst (v := 0) hx hb dX9_isQuestion_27 (by decide) ?_
    refine W.widen (k := 0) (n := 0) (Nat.le_of_ble_eq_true rfl) (Nat.le_of_ble_eq_true rfl) ?_
    exact mk_retz C0 (by decide) ⟨rfl, hw⟩ hW hS dX9_isQuestion_28
  · have hw := hw.2 c5
    refine lv_iload_n hx hb dX9_isQuestion_8 rfl (lv_at hl 2 rfl) ?_
    refine gk_callSi ⟨hx, hb, hml, hown, hts⟩ (c_X9_isAction l hw) (va_cwS 1 hts (gk_gS ml_X9_119 st_X9_isAction in_X9 co_X9_isAction) rfl rfl rfl (by decide +kernel) ⟨Nat.le_of_ble_eq_true rfl, Nat.le_of_ble_eq_true rfl⟩) hS rfl hl.1 (rest := []) rfl (lv_room (Nat.le_of_ble_eq_true rfl)) dX9_isQuestion_9 ⟨Nat.le_of_ble_eq_true rfl, Nat.le_of_ble_eq_true rfl⟩ (fun r9 H locs hw _ hk hS => ?_)
    have hW := hW.keptAll hk
    refine lv_if_eq (tgt := 27) hx hb dX9_isQuestion_12 (by decide) (fun c12 => ?_) (fun c12 => ?_)
    · have hw := hw.1 c12
      refine lv_iconst (v := 0) hx hb dX9_isQuestion_27 (by decide) ?_
      refine W.widen (k := 0) (n := 0) (Nat.le_of_ble_eq_true rfl) (Nat.le_of_ble_eq_true rfl) ?_
      exact mk_retz C0 (by decide) ⟨rfl, hw⟩ hW hS dX9_isQuestion_28
    · have hw := hw.2 c12
      refine lv_aload_n hx hb dX9_isQuestion_15 rfl (lv_at hl 0 rfl) ?_
      refine lv_iload_n hx hb dX9_isQuestion_16 rfl (lv_at hl 3 rfl) ?_
      refine mk_callRi ⟨hx, hb, hml, hown, hts⟩ (c_X9_isResource l D cI cZ cG cL am hw) (cwV 1 hts (gk_gV ml_X9_122 im_X9_isResource se_X9_isResource in_X9 co_X9_isResource) rfl rfl rfl (by decide +kernel) ⟨Nat.le_of_ble_eq_true rfl, Nat.le_of_ble_eq_true rfl⟩) (gk_recv hK.1 (mk_obj hW) rfl) hW hK trivial hS rfl hl.1 (rest := []) rfl (lv_room (Nat.le_of_ble_eq_true rfl)) dX9_isQuestion_17 ⟨Nat.le_of_ble_eq_true rfl, Nat.le_of_ble_eq_true rfl⟩ (fun r17 H locs hw hW _ hk hS => ?_)
      refine lv_if_eq (tgt := 27) hx hb dX9_isQuestion_20 (by decide) (fun c20 => ?_) (fun c20 => ?_)
      · have hw := hw.1 c20
        refine lv_iconst (v := 0) hx hb dX9_isQuestion_27 (by decide) ?_
        refine W.widen (k := 0) (n := 0) (Nat.le_of_ble_eq_true rfl) (Nat.le_of_ble_eq_true rfl) ?_
        exact mk_retz C0 (by decide) ⟨rfl, hw⟩ hW hS dX9_isQuestion_28
      · have hw := hw.2 c20
        refine lv_iconst (v := 1) hx hb dX9_isQuestion_23 (by decide) ?_
        refine lv_goto (tgt := 28) hx hb dX9_isQuestion_24 (by decide) ?_
        refine W.widen (k := 0) (n := 0) (Nat.le_of_ble_eq_true rfl) (Nat.le_of_ble_eq_true rfl) ?_
        exact mk_retz C0 (by decide) ⟨rfl, hw⟩ hW hS dX9_isQuestion_28
def w_X9_isRule (σ : gk_C) (a0 : Int32) (Q : Int32 → Prop) : Prop := (w_X9_isIn a0 0 ((σ.2 16) - 1) (fun r8 => gk_z r8 ∧ Q r8))
abbrev rmX9_isRule : Room := { frames := 1, cells := 0, slots := 0, locals := 22 }
set_option maxHeartbeats 4000000 in
set_option maxRecDepth 100000 in
theorem c_X9_isRule (l : Launch) (D : va_G) (cI cZ cG cL : ClassId) (am : Nat → Nat) {σ : gk_C} {a0 : Int32} {Q : Int32 → Prop} {sz : Nat} (hw : w_X9_isRule σ a0 Q) : Met l yX9_isRule wsX9_isRule rmX9_isRule (mk_Pc (mk_V D cI cZ am) D cI cZ cG cL [.ref (am 38), .int a0] sz σ (fun _ => True)) (va_Qi (fun r u => u = σ ∧ Q r) (mk_B (mk_V D cI cZ am)) (mk_A am sz)) 0 0 (mk_A am sz) := by
  refine Met.ofW (cc := cX9_isRule) (maxL := 2) (ret := (some .boolean)) (by decide) rfl ?_
  intro p e s m args below meth c s₁ B hml0 hv0
  obtain ⟨rfl, hsz, hW, hK, hX⟩ := hv0
  subst hsz
  have C0 : gk_F p s m ([.ref (am 38), .int a0] : List Value).toArray meth c cX9_isRule 2 (some .boolean) RX9 := ⟨B.exec, B.bytes, hml0, findClass_of_methodNamed B.named, fun w hw => atoms_spec (ws := wsX9_isRule) B.pre w (List.mem_cons_of_mem _ hw), B.returns, B.notSynchronized⟩
  obtain ⟨hx, hb, hml, hown, hts, hr, hlocks⟩ := id C0
  have hS : va_S (mk_A am s.heap.size) s.heap s.heap [] := va_S.rf
  have hl := lv_entry ([.ref (am 38), .int a0]) (n := 2) (Nat.le_of_ble_eq_true rfl)
  rw [lg_entry_eq]
  generalize (lg_sl ([.ref (am 38), .int a0]) ++ List.replicate (2 - (lg_sl ([.ref (am 38), .int a0])).length) Slot.unset).toArray = ls at hl ⊢
  have hl : lv_has ls 2 [(0, .ref (am 38)), (1, .int a0)] := hl
  show W p l e rmX9_isRule s m _ below meth c s.heap [] 0 0 _ _
  refine lv_iload_n hx hb dX9_isRule_0 rfl (lv_at hl 1 rfl) ?_
  refine lv_iconst (v := 0) hx hb dX9_isRule_1 (by decide) ?_
  refine lv_aload_n hx hb dX9_isRule_2 rfl (lv_at hl 0 rfl) ?_
  refine gk_get hx hb hts iwX9 hown hK.1 (mk_obj hW) rfl 16 (by decide) (hts _ fl_X9_165) (fun _ h9 => h9) rfl dX9_isRule_3 ?_
  refine lv_iconst (v := 1) hx hb dX9_isRule_6 (by decide) ?_
  refine lv_isub hx hb dX9_isRule_7 ?_
  refine gk_callSi ⟨hx, hb, hml, hown, hts⟩ (c_X9_isIn l hw) (va_cwS 3 hts (gk_gS ml_X9_108 st_X9_isIn in_X9 co_X9_isIn) rfl rfl rfl (by decide +kernel) ⟨Nat.le_of_ble_eq_true rfl, Nat.le_of_ble_eq_true rfl⟩) hS rfl hl.1 (rest := []) rfl (lv_room (Nat.le_of_ble_eq_true rfl)) dX9_isRule_8 ⟨Nat.le_of_ble_eq_true rfl, Nat.le_of_ble_eq_true rfl⟩ (fun r8 H locs hw _ hk hS => ?_)
  have hW := hW.keptAll hk
  refine W.widen (k := 0) (n := 0) (Nat.le_of_ble_eq_true rfl) (Nat.le_of_ble_eq_true rfl) ?_
  obtain ⟨hz, hw⟩ := hw
  exact mk_retz C0 hz ⟨rfl, hw⟩ hW hS dX9_isRule_11
def w_X9_isGrant (σ : gk_C) (a0 : Int32) (Q : Int32 → Prop) : Prop := (w_X9_isIn a0 0 ((σ.2 26) - 1) (fun r8 => gk_z r8 ∧ Q r8))
abbrev rmX9_isGrant : Room := { frames := 1, cells := 0, slots := 0, locals := 22 }
set_option maxHeartbeats 4000000 in
set_option maxRecDepth 100000 in
theorem c_X9_isGrant (l : Launch) (D : va_G) (cI cZ cG cL : ClassId) (am : Nat → Nat) {σ : gk_C} {a0 : Int32} {Q : Int32 → Prop} {sz : Nat} (hw : w_X9_isGrant σ a0 Q) : Met l yX9_isGrant wsX9_isGrant rmX9_isGrant (mk_Pc (mk_V D cI cZ am) D cI cZ cG cL [.ref (am 38), .int a0] sz σ (fun _ => True)) (va_Qi (fun r u => u = σ ∧ Q r) (mk_B (mk_V D cI cZ am)) (mk_A am sz)) 0 0 (mk_A am sz) := by
  refine Met.ofW (cc := cX9_isGrant) (maxL := 2) (ret := (some .boolean)) (by decide) rfl ?_
  intro p e s m args below meth c s₁ B hml0 hv0
  obtain ⟨rfl, hsz, hW, hK, hX⟩ := hv0
  subst hsz
  have C0 : gk_F p s m ([.ref (am 38), .int a0] : List Value).toArray meth c cX9_isGrant 2 (some .boolean) RX9 := ⟨B.exec, B.bytes, hml0, findClass_of_methodNamed B.named, fun w hw => atoms_spec (ws := wsX9_isGrant) B.pre w (List.mem_cons_of_mem _ hw), B.returns, B.notSynchronized⟩
  obtain ⟨hx, hb, hml, hown, hts, hr, hlocks⟩ := id C0
  have hS : va_S (mk_A am s.heap.size) s.heap s.heap [] := va_S.rf
  have hl := lv_entry ([.ref (am 38), .int a0]) (n := 2) (Nat.le_of_ble_eq_true rfl)
  rw [lg_entry_eq]
  generalize (lg_sl ([.ref (am 38), .int a0]) ++ List.replicate (2 - (lg_sl ([.ref (am 38), .int a0])).length) Slot.unset).toArray = ls at hl ⊢
  have hl : lv_has ls 2 [(0, .ref (am 38)), (1, .int a0)] := hl
  show W p l e rmX9_isGrant s m _ below meth c s.heap [] 0 0 _ _
  refine lv_iload_n hx hb dX9_isGrant_0 rfl (lv_at hl 1 rfl) ?_
  refine lv_iconst (v := 0) hx hb dX9_isGrant_1 (by decide) ?_
  refine lv_aload_n hx hb dX9_isGrant_2 rfl (lv_at hl 0 rfl) ?_
  refine gk_get hx hb hts iwX9 hown hK.1 (mk_obj hW) rfl 26 (by decide) (hts _ fl_X9_233) (fun _ h9 => h9) rfl dX9_isGrant_3 ?_
  refine lv_iconst (v := 1) hx hb dX9_isGrant_6 (by decide) ?_
  refine lv_isub hx hb dX9_isGrant_7 ?_
  refine gk_callSi ⟨hx, hb, hml, hown, hts⟩ (c_X9_isIn l hw) (va_cwS 3 hts (gk_gS ml_X9_108 st_X9_isIn in_X9 co_X9_isIn) rfl rfl rfl (by decide +kernel) ⟨Nat.le_of_ble_eq_true rfl, Nat.le_of_ble_eq_true rfl⟩) hS rfl hl.1 (rest := []) rfl (lv_room (Nat.le_of_ble_eq_true rfl)) dX9_isGrant_8 ⟨Nat.le_of_ble_eq_true rfl, Nat.le_of_ble_eq_true rfl⟩ (fun r8 H locs hw _ hk hS => ?_)
  have hW := hW.keptAll hk
  refine W.widen (k := 0) (n := 0) (Nat.le_of_ble_eq_true rfl) (Nat.le_of_ble_eq_true rfl) ?_
  obtain ⟨hz, hw⟩ := hw
  exact mk_retz C0 hz ⟨rfl, hw⟩ hW hS dX9_isGrant_11
def wJ_X9_addUser_25 (Q : Int32 → gk_C → Prop) (σ : gk_C) : Prop := (w_X9_no σ 1 (fun r27 σ27 => Q r27 σ27))
def w_X9_addUser (σ : gk_C) (a0 : Int32) (a1 : Int32) (Q : Int32 → gk_C → Prop) : Prop := (w_X9_isIn a0 0 3 (fun r8 => ((r8 = 0) → (wJ_X9_addUser_25 Q (gk_s σ 0 0))) ∧ ((¬ r8 = 0) → (w_X9_isIn a1 0 255 (fun r19 => ((¬ r19 = 0) → (((¬ ((gk_s σ 0 0).2 3) = 12) → (vp_in ((gk_s σ 0 0).2 3) 12 ∧ ∀ σ55 : gk_C, σ55 = mk_st (gk_s σ 0 0) 5 ((gk_s σ 0 0).2 3) a0 → vp_in (σ55.2 3) 12 ∧ ∀ σ65 : gk_C, σ65 = mk_st σ55 6 (σ55.2 3) a1 → Q (σ65.2 3) (gk_s σ65 3 ((σ65.2 3) + 1)))) ∧ ((((gk_s σ 0 0).2 3) = 12) → (w_X9_no (gk_s σ 0 0) 2 (fun r42 σ42 => Q r42 σ42))))) ∧ ((r19 = 0) → (wJ_X9_addUser_25 Q (gk_s σ 0 0))))))))
abbrev rmX9_addUser : Room := { frames := 1, cells := 0, slots := 0, locals := 22 }
set_option maxHeartbeats 4000000 in
set_option maxRecDepth 100000 in
theorem tJ_X9_addUser_25 {p : Program} {l : Launch} {e : Env} {s : State} {m : MethodId} {args : Array Value} {below : List Frame} {meth : Method} {c : Code} {D : va_G} {cI cZ cG cL : ClassId} {am : Nat → Nat} (C0 : gk_F p s m args meth c cX9_addUser 3 (some .int) RX9) (hK : gk_K D cI cZ cG cL s) {Q : Int32 → gk_C → Prop} : ∀ (σ : gk_C), wJ_X9_addUser_25 Q σ → ∀ (H : Heap) (locs : List Loc), mk_V D cI cZ am σ H → va_S (mk_A am s.heap.size) s.heap H locs → ∀ (ls : Array Slot), lv_has ls 3 [(0, .ref (am 38))] → W p l e rmX9_addUser s m args below meth c H locs 0 0 (MQ below (va_Qi (fun r u => Q r u) (mk_B (mk_V D cI cZ am)) (mk_A am s.heap.size)) args s 0 0 (mk_A am s.heap.size)) (F0 m 25 ls []) := by
  obtain ⟨hx, hb, hml, hown, hts, hr, hlocks⟩ := id C0
  intro σ hw H locs hW hS  ls hl
  refine lv_aload_n hx hb dX9_addUser_25 rfl (lv_at hl 0 rfl) ?_
  refine lv_iconst (v := 1) hx hb dX9_addUser_26 (by decide) ?_
  refine mk_callVi ⟨hx, hb, hml, hown, hts⟩ (c_X9_no l D cI cZ cG cL am hw) (cwV 1 hts (gk_gV ml_X9_139 im_X9_no se_X9_no in_X9 co_X9_no) rfl rfl rfl (by decide +kernel) ⟨Nat.le_of_ble_eq_true rfl, Nat.le_of_ble_eq_true rfl⟩) (gk_recv hK.1 (mk_obj hW) rfl) hW hK trivial hS rfl hl.1 (rest := []) rfl (lv_room (Nat.le_of_ble_eq_true rfl)) dX9_addUser_27 ⟨Nat.le_of_ble_eq_true rfl, Nat.le_of_ble_eq_true rfl⟩ (fun r27 σ27 H locs hw hW _ hk hS => ?_)
  refine W.widen (k := 0) (n := 0) (Nat.le_of_ble_eq_true rfl) (Nat.le_of_ble_eq_true rfl) ?_
  exact mk_reti C0 hw hW hS dX9_addUser_30
set_option maxHeartbeats 4000000 in
set_option maxRecDepth 100000 in
theorem c_X9_addUser (l : Launch) (D : va_G) (cI cZ cG cL : ClassId) (am : Nat → Nat) {σ : gk_C} {a0 : Int32} {a1 : Int32} {Q : Int32 → gk_C → Prop} {sz : Nat} (hw : w_X9_addUser σ a0 a1 Q) : Met l yX9_addUser wsX9_addUser rmX9_addUser (mk_Pc (mk_V D cI cZ am) D cI cZ cG cL [.ref (am 38), .int a0, .int a1] sz σ (fun _ => True)) (va_Qi (fun r u => Q r u) (mk_B (mk_V D cI cZ am)) (mk_A am sz)) 0 0 (mk_A am sz) := by
  refine Met.ofW (cc := cX9_addUser) (maxL := 3) (ret := (some .int)) (by decide) rfl ?_
  intro p e s m args below meth c s₁ B hml0 hv0
  obtain ⟨rfl, hsz, hW, hK, hX⟩ := hv0
  subst hsz
  have C0 : gk_F p s m ([.ref (am 38), .int a0, .int a1] : List Value).toArray meth c cX9_addUser 3 (some .int) RX9 := ⟨B.exec, B.bytes, hml0, findClass_of_methodNamed B.named, fun w hw => atoms_spec (ws := wsX9_addUser) B.pre w (List.mem_cons_of_mem _ hw), B.returns, B.notSynchronized⟩
  obtain ⟨hx, hb, hml, hown, hts, hr, hlocks⟩ := id C0
  have hS : va_S (mk_A am s.heap.size) s.heap s.heap [] := va_S.rf
  have hl := lv_entry ([.ref (am 38), .int a0, .int a1]) (n := 3) (Nat.le_of_ble_eq_true rfl)
  rw [lg_entry_eq]
  generalize (lg_sl ([.ref (am 38), .int a0, .int a1]) ++ List.replicate (3 - (lg_sl ([.ref (am 38), .int a0, .int a1])).length) Slot.unset).toArray = ls at hl ⊢
  have hl : lv_has ls 3 [(0, .ref (am 38)), (1, .int a0), (2, .int a1)] := hl
  show W p l e rmX9_addUser s m _ below meth c s.heap [] 0 0 _ _
  refine lv_aload_n hx hb dX9_addUser_0 rfl (lv_at hl 0 rfl) ?_
  refine lv_iconst (v := 0) hx hb dX9_addUser_1 (by decide) ?_
  refine gk_putf (ty := .int) (v := .int 0) hx hb hts iwX9 tyX9 tyX9_ok nmX9 hown hK.1 hS (mk_A.in List.mem_cons_self) (mk_obj hW) rfl 0 (by decide) (hts _ fl_X9_102) (fun _ h9 => h9) rfl (by decide +kernel) rfl rfl (Nat.le_of_ble_eq_true rfl) dX9_addUser_2 (fun H locs h1 _ oq hS => ?_)
  have hW := hW.setS (i := 0) (v := 0) h1 oq
  refine lv_iload_n hx hb dX9_addUser_5 rfl (lv_at hl 1 rfl) ?_
  refine lv_iconst (v := 0) hx hb dX9_addUser_6 (by decide) ?_
  refine lv_iconst (v := 3) hx hb dX9_addUser_7 (by decide) ?_
  refine gk_callSi ⟨hx, hb, hml, hown, hts⟩ (c_X9_isIn l hw) (va_cwS 3 hts (gk_gS ml_X9_108 st_X9_isIn in_X9 co_X9_isIn) rfl rfl rfl (by decide +kernel) ⟨Nat.le_of_ble_eq_true rfl, Nat.le_of_ble_eq_true rfl⟩) hS rfl hl.1 (rest := []) rfl (lv_room (Nat.le_of_ble_eq_true rfl)) dX9_addUser_8 ⟨Nat.le_of_ble_eq_true rfl, Nat.le_of_ble_eq_true rfl⟩ (fun r8 H locs hw _ hk hS => ?_)
  have hW := hW.keptAll hk
  refine lv_if_eq (tgt := 25) hx hb dX9_addUser_11 (by decide) (fun c11 => ?_) (fun c11 => ?_)
  · have hw := hw.1 c11
    refine tJ_X9_addUser_25 C0 hK  (gk_s σ 0 0) hw _ _ hW hS  _ (lv_sub hl [0] rfl)
  · have hw := hw.2 c11
    refine lv_iload_n hx hb dX9_addUser_14 rfl (lv_at hl 2 rfl) ?_
    refine lv_iconst (v := 0) hx hb dX9_addUser_15 (by decide) ?_
    refine lv_sipush (v := 255) hx hb dX9_addUser_16 (by decide) ?_
    refine gk_callSi ⟨hx, hb, hml, hown, hts⟩ (c_X9_isIn l hw) (va_cwS 3 hts (gk_gS ml_X9_108 st_X9_isIn in_X9 co_X9_isIn) rfl rfl rfl (by decide +kernel) ⟨Nat.le_of_ble_eq_true rfl, Nat.le_of_ble_eq_true rfl⟩) hS rfl hl.1 (rest := []) rfl (lv_room (Nat.le_of_ble_eq_true rfl)) dX9_addUser_19 ⟨Nat.le_of_ble_eq_true rfl, Nat.le_of_ble_eq_true rfl⟩ (fun r19 H locs hw _ hk hS => ?_)
    have hW := hW.keptAll hk
    refine lv_if_ne (tgt := 31) hx hb dX9_addUser_22 (by decide) (fun c22 => ?_) (fun c22 => ?_)
    · have hw := hw.1 c22
      refine lv_aload_n hx hb dX9_addUser_31 rfl (lv_at hl 0 rfl) ?_
      refine gk_get hx hb hts iwX9 hown hK.1 (mk_obj hW) rfl 3 (by decide) (hts _ fl_X9_105) (fun _ h9 => h9) rfl dX9_addUser_32 ?_
      refine lv_bipush (v := 12) hx hb dX9_addUser_35 (by decide) ?_
      refine lv_icmp_ne (tgt := 46) hx hb dX9_addUser_37 (by decide) (fun c37 => ?_) (fun c37 => ?_)
      · have hw := hw.1 c37
        refine lv_aload_n hx hb dX9_addUser_46 rfl (lv_at hl 0 rfl) ?_
        refine gk_get hx hb hts iwX9 hown hK.1 (mk_obj hW) rfl 5 (by decide) (hts _ fl_X9_13) (fun _ h9 => h9) rfl dX9_addUser_47 ?_
        refine lv_aload_n hx hb dX9_addUser_50 rfl (lv_at hl 0 rfl) ?_
        refine gk_get hx hb hts iwX9 hown hK.1 (mk_obj hW) rfl 3 (by decide) (hts _ fl_X9_105) (fun _ h9 => h9) rfl dX9_addUser_51 ?_
        refine lv_iload_n hx hb dX9_addUser_54 rfl (lv_at hl 1 rfl) ?_
        obtain ⟨hin, hw⟩ := hw
        refine gk_iast hx hb hK.1 hS (mk_A.in (k := 5) (by decide)) 0 (mk_arr hW (k := 5) (by decide) (by decide) (by decide)) rfl hin dX9_addUser_55 (fun H locs h1 _ oq hS => ?_)
        have hW := hW.setR (k := 5) (by decide) (by decide) (by decide) h1 oq
        obtain ⟨σ55, eσ55⟩ : ∃ z, z = mk_st (gk_s σ 0 0) 5 ((gk_s σ 0 0).2 3) a0 := ⟨_, rfl⟩
        have hW := mk_stW (Wd := mk_V D cI cZ am) eσ55 hW
        have hw := hw σ55 eσ55
        refine lv_aload_n hx hb dX9_addUser_56 rfl (lv_at hl 0 rfl) ?_
        refine gk_get hx hb hts iwX9 hown hK.1 (mk_obj hW) rfl 6 (by decide) (hts _ fl_X9_16) (fun _ h9 => h9) rfl dX9_addUser_57 ?_
        refine lv_aload_n hx hb dX9_addUser_60 rfl (lv_at hl 0 rfl) ?_
        refine gk_get hx hb hts iwX9 hown hK.1 (mk_obj hW) rfl 3 (by decide) (hts _ fl_X9_105) (fun _ h9 => h9) rfl dX9_addUser_61 ?_
        refine lv_iload_n hx hb dX9_addUser_64 rfl (lv_at hl 2 rfl) ?_
        obtain ⟨hin, hw⟩ := hw
        refine gk_iast hx hb hK.1 hS (mk_A.in (k := 6) (by decide)) 0 (mk_arr hW (k := 6) (by decide) (by decide) (by decide)) rfl hin dX9_addUser_65 (fun H locs h1 _ oq hS => ?_)
        have hW := hW.setR (k := 6) (by decide) (by decide) (by decide) h1 oq
        obtain ⟨σ65, eσ65⟩ : ∃ z, z = mk_st σ55 6 (σ55.2 3) a1 := ⟨_, rfl⟩
        have hW := mk_stW (Wd := mk_V D cI cZ am) eσ65 hW
        have hw := hw σ65 eσ65
        refine lv_aload_n hx hb dX9_addUser_66 rfl (lv_at hl 0 rfl) ?_
        refine lv_dup hx hb dX9_addUser_67 rfl ?_
        refine gk_get hx hb hts iwX9 hown hK.1 (mk_obj hW) rfl 3 (by decide) (hts _ fl_X9_105) (fun _ h9 => h9) rfl dX9_addUser_68 ?_
        refine lv_dup_x1 hx hb dX9_addUser_71 rfl rfl ?_
        refine lv_iconst (v := 1) hx hb dX9_addUser_72 (by decide) ?_
        refine lv_iadd hx hb dX9_addUser_73 ?_
        refine gk_putf (ty := .int) (v := .int ((σ65.2 3) + 1)) hx hb hts iwX9 tyX9 tyX9_ok nmX9 hown hK.1 hS (mk_A.in List.mem_cons_self) (mk_obj hW) rfl 3 (by decide) (hts _ fl_X9_105) (fun _ h9 => h9) rfl (by decide +kernel) rfl rfl (Nat.le_of_ble_eq_true rfl) dX9_addUser_74 (fun H locs h1 _ oq hS => ?_)
        have hW := hW.setS (i := 3) (v := ((σ65.2 3) + 1)) h1 oq
        refine W.widen (k := 0) (n := 0) (Nat.le_of_ble_eq_true rfl) (Nat.le_of_ble_eq_true rfl) ?_
        exact mk_reti C0 hw hW hS dX9_addUser_77
      · have hw := hw.2 c37
        refine lv_aload_n hx hb dX9_addUser_40 rfl (lv_at hl 0 rfl) ?_
        refine lv_iconst (v := 2) hx hb dX9_addUser_41 (by decide) ?_
        refine mk_callVi ⟨hx, hb, hml, hown, hts⟩ (c_X9_no l D cI cZ cG cL am hw) (cwV 1 hts (gk_gV ml_X9_139 im_X9_no se_X9_no in_X9 co_X9_no) rfl rfl rfl (by decide +kernel) ⟨Nat.le_of_ble_eq_true rfl, Nat.le_of_ble_eq_true rfl⟩) (gk_recv hK.1 (mk_obj hW) rfl) hW hK trivial hS rfl hl.1 (rest := []) rfl (lv_room (Nat.le_of_ble_eq_true rfl)) dX9_addUser_42 ⟨Nat.le_of_ble_eq_true rfl, Nat.le_of_ble_eq_true rfl⟩ (fun r42 σ42 H locs hw hW _ hk hS => ?_)
        refine W.widen (k := 0) (n := 0) (Nat.le_of_ble_eq_true rfl) (Nat.le_of_ble_eq_true rfl) ?_
        exact mk_reti C0 hw hW hS dX9_addUser_45
    · have hw := hw.2 c22
      refine tJ_X9_addUser_25 C0 hK  (gk_s σ 0 0) hw _ _ hW hS  _ (lv_sub hl [0] rfl)
def w_X9_addRole (σ : gk_C)  (Q : Int32 → gk_C → Prop) : Prop := (((¬ ((gk_s σ 0 0).2 7) = 12) → (Q ((gk_s σ 0 0).2 7) (gk_s (gk_s σ 0 0) 7 (((gk_s σ 0 0).2 7) + 1)))) ∧ ((((gk_s σ 0 0).2 7) = 12) → (w_X9_no (gk_s σ 0 0) 1 (fun r16 σ16 => Q r16 σ16))))
abbrev rmX9_addRole : Room := { frames := 1, cells := 0, slots := 0, locals := 21 }
set_option maxHeartbeats 4000000 in
set_option maxRecDepth 100000 in
theorem c_X9_addRole (l : Launch) (D : va_G) (cI cZ cG cL : ClassId) (am : Nat → Nat) {σ : gk_C} {Q : Int32 → gk_C → Prop} {sz : Nat} (hw : w_X9_addRole σ  Q) : Met l yX9_addRole wsX9_addRole rmX9_addRole (mk_Pc (mk_V D cI cZ am) D cI cZ cG cL [.ref (am 38)] sz σ (fun _ => True)) (va_Qi (fun r u => Q r u) (mk_B (mk_V D cI cZ am)) (mk_A am sz)) 0 0 (mk_A am sz) := by
  refine Met.ofW (cc := cX9_addRole) (maxL := 1) (ret := (some .int)) (by decide) rfl ?_
  intro p e s m args below meth c s₁ B hml0 hv0
  obtain ⟨rfl, hsz, hW, hK, hX⟩ := hv0
  subst hsz
  have C0 : gk_F p s m ([.ref (am 38)] : List Value).toArray meth c cX9_addRole 1 (some .int) RX9 := ⟨B.exec, B.bytes, hml0, findClass_of_methodNamed B.named, fun w hw => atoms_spec (ws := wsX9_addRole) B.pre w (List.mem_cons_of_mem _ hw), B.returns, B.notSynchronized⟩
  obtain ⟨hx, hb, hml, hown, hts, hr, hlocks⟩ := id C0
  have hS : va_S (mk_A am s.heap.size) s.heap s.heap [] := va_S.rf
  have hl := lv_entry ([.ref (am 38)]) (n := 1) (Nat.le_of_ble_eq_true rfl)
  rw [lg_entry_eq]
  generalize (lg_sl ([.ref (am 38)]) ++ List.replicate (1 - (lg_sl ([.ref (am 38)])).length) Slot.unset).toArray = ls at hl ⊢
  have hl : lv_has ls 1 [(0, .ref (am 38))] := hl
  show W p l e rmX9_addRole s m _ below meth c s.heap [] 0 0 _ _
  refine lv_aload_n hx hb dX9_addRole_0 rfl (lv_at hl 0 rfl) ?_
  refine lv_iconst (v := 0) hx hb dX9_addRole_1 (by decide) ?_
  refine gk_putf (ty := .int) (v := .int 0) hx hb hts iwX9 tyX9 tyX9_ok nmX9 hown hK.1 hS (mk_A.in List.mem_cons_self) (mk_obj hW) rfl 0 (by decide) (hts _ fl_X9_102) (fun _ h9 => h9) rfl (by decide +kernel) rfl rfl (Nat.le_of_ble_eq_true rfl) dX9_addRole_2 (fun H locs h1 _ oq hS => ?_)
  have hW := hW.setS (i := 0) (v := 0) h1 oq
  refine lv_aload_n hx hb dX9_addRole_5 rfl (lv_at hl 0 rfl) ?_
  refine gk_get hx hb hts iwX9 hown hK.1 (mk_obj hW) rfl 7 (by decide) (hts _ fl_X9_112) (fun _ h9 => h9) rfl dX9_addRole_6 ?_
  refine lv_bipush (v := 12) hx hb dX9_addRole_9 (by decide) ?_
  refine lv_icmp_ne (tgt := 22) hx hb dX9_addRole_11 (by decide) (fun c11 => ?_) (fun c11 => ?_)
  · have hw := hw.1 c11
    refine lv_aload_n hx hb dX9_addRole_22 rfl (lv_at hl 0 rfl) ?_
    refine lv_dup hx hb dX9_addRole_23 rfl ?_
    refine gk_get hx hb hts iwX9 hown hK.1 (mk_obj hW) rfl 7 (by decide) (hts _ fl_X9_112) (fun _ h9 => h9) rfl dX9_addRole_24 ?_
    refine lv_dup_x1 hx hb dX9_addRole_27 rfl rfl ?_
    refine lv_iconst (v := 1) hx hb dX9_addRole_28 (by decide) ?_
    refine lv_iadd hx hb dX9_addRole_29 ?_
    refine gk_putf (ty := .int) (v := .int (((gk_s σ 0 0).2 7) + 1)) hx hb hts iwX9 tyX9 tyX9_ok nmX9 hown hK.1 hS (mk_A.in List.mem_cons_self) (mk_obj hW) rfl 7 (by decide) (hts _ fl_X9_112) (fun _ h9 => h9) rfl (by decide +kernel) rfl rfl (Nat.le_of_ble_eq_true rfl) dX9_addRole_30 (fun H locs h1 _ oq hS => ?_)
    have hW := hW.setS (i := 7) (v := (((gk_s σ 0 0).2 7) + 1)) h1 oq
    refine W.widen (k := 0) (n := 0) (Nat.le_of_ble_eq_true rfl) (Nat.le_of_ble_eq_true rfl) ?_
    exact mk_reti C0 hw hW hS dX9_addRole_33
  · have hw := hw.2 c11
    refine lv_aload_n hx hb dX9_addRole_14 rfl (lv_at hl 0 rfl) ?_
    refine lv_iconst (v := 1) hx hb dX9_addRole_15 (by decide) ?_
    refine mk_callVi ⟨hx, hb, hml, hown, hts⟩ (c_X9_no l D cI cZ cG cL am hw) (cwV 1 hts (gk_gV ml_X9_139 im_X9_no se_X9_no in_X9 co_X9_no) rfl rfl rfl (by decide +kernel) ⟨Nat.le_of_ble_eq_true rfl, Nat.le_of_ble_eq_true rfl⟩) (gk_recv hK.1 (mk_obj hW) rfl) hW hK trivial hS rfl hl.1 (rest := []) rfl (lv_room (Nat.le_of_ble_eq_true rfl)) dX9_addRole_16 ⟨Nat.le_of_ble_eq_true rfl, Nat.le_of_ble_eq_true rfl⟩ (fun r16 σ16 H locs hw hW _ hk hS => ?_)
    refine lv_goto (tgt := 33) hx hb dX9_addRole_19 (by decide) ?_
    refine W.widen (k := 0) (n := 0) (Nat.le_of_ble_eq_true rfl) (Nat.le_of_ble_eq_true rfl) ?_
    exact mk_reti C0 hw hW hS dX9_addRole_33
def w_X9_addResource (σ : gk_C) (a0 : Int32) (Q : Int32 → gk_C → Prop) : Prop := (w_X9_isResource (gk_s σ 0 0) a0 (fun r7 => ((¬ r7 = 0) → (((¬ ((gk_s σ 0 0).2 11) = 24) → (vp_in ((gk_s σ 0 0).2 11) 24 ∧ ∀ σ43 : gk_C, σ43 = mk_st (gk_s σ 0 0) 12 ((gk_s σ 0 0).2 11) a0 → Q (σ43.2 11) (gk_s σ43 11 ((σ43.2 11) + 1)))) ∧ ((((gk_s σ 0 0).2 11) = 24) → (w_X9_no (gk_s σ 0 0) 2 (fun r30 σ30 => Q r30 σ30))))) ∧ ((r7 = 0) → (w_X9_no (gk_s σ 0 0) 1 (fun r15 σ15 => Q r15 σ15)))))
abbrev rmX9_addResource : Room := { frames := 2, cells := 0, slots := 0, locals := 43 }
set_option maxHeartbeats 4000000 in
set_option maxRecDepth 100000 in
theorem c_X9_addResource (l : Launch) (D : va_G) (cI cZ cG cL : ClassId) (am : Nat → Nat) {σ : gk_C} {a0 : Int32} {Q : Int32 → gk_C → Prop} {sz : Nat} (hw : w_X9_addResource σ a0 Q) : Met l yX9_addResource wsX9_addResource rmX9_addResource (mk_Pc (mk_V D cI cZ am) D cI cZ cG cL [.ref (am 38), .int a0] sz σ (fun _ => True)) (va_Qi (fun r u => Q r u) (mk_B (mk_V D cI cZ am)) (mk_A am sz)) 0 0 (mk_A am sz) := by
  refine Met.ofW (cc := cX9_addResource) (maxL := 2) (ret := (some .int)) (by decide) rfl ?_
  intro p e s m args below meth c s₁ B hml0 hv0
  obtain ⟨rfl, hsz, hW, hK, hX⟩ := hv0
  subst hsz
  have C0 : gk_F p s m ([.ref (am 38), .int a0] : List Value).toArray meth c cX9_addResource 2 (some .int) RX9 := ⟨B.exec, B.bytes, hml0, findClass_of_methodNamed B.named, fun w hw => atoms_spec (ws := wsX9_addResource) B.pre w (List.mem_cons_of_mem _ hw), B.returns, B.notSynchronized⟩
  obtain ⟨hx, hb, hml, hown, hts, hr, hlocks⟩ := id C0
  have hS : va_S (mk_A am s.heap.size) s.heap s.heap [] := va_S.rf
  have hl := lv_entry ([.ref (am 38), .int a0]) (n := 2) (Nat.le_of_ble_eq_true rfl)
  rw [lg_entry_eq]
  generalize (lg_sl ([.ref (am 38), .int a0]) ++ List.replicate (2 - (lg_sl ([.ref (am 38), .int a0])).length) Slot.unset).toArray = ls at hl ⊢
  have hl : lv_has ls 2 [(0, .ref (am 38)), (1, .int a0)] := hl
  show W p l e rmX9_addResource s m _ below meth c s.heap [] 0 0 _ _
  refine lv_aload_n hx hb dX9_addResource_0 rfl (lv_at hl 0 rfl) ?_
  refine lv_iconst (v := 0) hx hb dX9_addResource_1 (by decide) ?_
  refine gk_putf (ty := .int) (v := .int 0) hx hb hts iwX9 tyX9 tyX9_ok nmX9 hown hK.1 hS (mk_A.in List.mem_cons_self) (mk_obj hW) rfl 0 (by decide) (hts _ fl_X9_102) (fun _ h9 => h9) rfl (by decide +kernel) rfl rfl (Nat.le_of_ble_eq_true rfl) dX9_addResource_2 (fun H locs h1 _ oq hS => ?_)
  have hW := hW.setS (i := 0) (v := 0) h1 oq
  refine lv_aload_n hx hb dX9_addResource_5 rfl (lv_at hl 0 rfl) ?_
  refine lv_iload_n hx hb dX9_addResource_6 rfl (lv_at hl 1 rfl) ?_
  refine mk_callRi ⟨hx, hb, hml, hown, hts⟩ (c_X9_isResource l D cI cZ cG cL am hw) (cwV 1 hts (gk_gV ml_X9_122 im_X9_isResource se_X9_isResource in_X9 co_X9_isResource) rfl rfl rfl (by decide +kernel) ⟨Nat.le_of_ble_eq_true rfl, Nat.le_of_ble_eq_true rfl⟩) (gk_recv hK.1 (mk_obj hW) rfl) hW hK trivial hS rfl hl.1 (rest := []) rfl (lv_room (Nat.le_of_ble_eq_true rfl)) dX9_addResource_7 ⟨Nat.le_of_ble_eq_true rfl, Nat.le_of_ble_eq_true rfl⟩ (fun r7 H locs hw hW _ hk hS => ?_)
  refine lv_if_ne (tgt := 19) hx hb dX9_addResource_10 (by decide) (fun c10 => ?_) (fun c10 => ?_)
  · have hw := hw.1 c10
    refine lv_aload_n hx hb dX9_addResource_19 rfl (lv_at hl 0 rfl) ?_
    refine gk_get hx hb hts iwX9 hown hK.1 (mk_obj hW) rfl 11 (by decide) (hts _ fl_X9_25) (fun _ h9 => h9) rfl dX9_addResource_20 ?_
    refine lv_bipush (v := 24) hx hb dX9_addResource_23 (by decide) ?_
    refine lv_icmp_ne (tgt := 34) hx hb dX9_addResource_25 (by decide) (fun c25 => ?_) (fun c25 => ?_)
    · have hw := hw.1 c25
      refine lv_aload_n hx hb dX9_addResource_34 rfl (lv_at hl 0 rfl) ?_
      refine gk_get hx hb hts iwX9 hown hK.1 (mk_obj hW) rfl 12 (by decide) (hts _ fl_X9_29) (fun _ h9 => h9) rfl dX9_addResource_35 ?_
      refine lv_aload_n hx hb dX9_addResource_38 rfl (lv_at hl 0 rfl) ?_
      refine gk_get hx hb hts iwX9 hown hK.1 (mk_obj hW) rfl 11 (by decide) (hts _ fl_X9_25) (fun _ h9 => h9) rfl dX9_addResource_39 ?_
      refine lv_iload_n hx hb dX9_addResource_42 rfl (lv_at hl 1 rfl) ?_
      obtain ⟨hin, hw⟩ := hw
      refine gk_iast hx hb hK.1 hS (mk_A.in (k := 12) (by decide)) 0 (mk_arr hW (k := 12) (by decide) (by decide) (by decide)) rfl hin dX9_addResource_43 (fun H locs h1 _ oq hS => ?_)
      have hW := hW.setR (k := 12) (by decide) (by decide) (by decide) h1 oq
      obtain ⟨σ43, eσ43⟩ : ∃ z, z = mk_st (gk_s σ 0 0) 12 ((gk_s σ 0 0).2 11) a0 := ⟨_, rfl⟩
      have hW := mk_stW (Wd := mk_V D cI cZ am) eσ43 hW
      have hw := hw σ43 eσ43
      refine lv_aload_n hx hb dX9_addResource_44 rfl (lv_at hl 0 rfl) ?_
      refine lv_dup hx hb dX9_addResource_45 rfl ?_
      refine gk_get hx hb hts iwX9 hown hK.1 (mk_obj hW) rfl 11 (by decide) (hts _ fl_X9_25) (fun _ h9 => h9) rfl dX9_addResource_46 ?_
      refine lv_dup_x1 hx hb dX9_addResource_49 rfl rfl ?_
      refine lv_iconst (v := 1) hx hb dX9_addResource_50 (by decide) ?_
      refine lv_iadd hx hb dX9_addResource_51 ?_
      refine gk_putf (ty := .int) (v := .int ((σ43.2 11) + 1)) hx hb hts iwX9 tyX9 tyX9_ok nmX9 hown hK.1 hS (mk_A.in List.mem_cons_self) (mk_obj hW) rfl 11 (by decide) (hts _ fl_X9_25) (fun _ h9 => h9) rfl (by decide +kernel) rfl rfl (Nat.le_of_ble_eq_true rfl) dX9_addResource_52 (fun H locs h1 _ oq hS => ?_)
      have hW := hW.setS (i := 11) (v := ((σ43.2 11) + 1)) h1 oq
      refine W.widen (k := 0) (n := 0) (Nat.le_of_ble_eq_true rfl) (Nat.le_of_ble_eq_true rfl) ?_
      exact mk_reti C0 hw hW hS dX9_addResource_55
    · have hw := hw.2 c25
      refine lv_aload_n hx hb dX9_addResource_28 rfl (lv_at hl 0 rfl) ?_
      refine lv_iconst (v := 2) hx hb dX9_addResource_29 (by decide) ?_
      refine mk_callVi ⟨hx, hb, hml, hown, hts⟩ (c_X9_no l D cI cZ cG cL am hw) (cwV 1 hts (gk_gV ml_X9_139 im_X9_no se_X9_no in_X9 co_X9_no) rfl rfl rfl (by decide +kernel) ⟨Nat.le_of_ble_eq_true rfl, Nat.le_of_ble_eq_true rfl⟩) (gk_recv hK.1 (mk_obj hW) rfl) hW hK trivial hS rfl hl.1 (rest := []) rfl (lv_room (Nat.le_of_ble_eq_true rfl)) dX9_addResource_30 ⟨Nat.le_of_ble_eq_true rfl, Nat.le_of_ble_eq_true rfl⟩ (fun r30 σ30 H locs hw hW _ hk hS => ?_)
      refine W.widen (k := 0) (n := 0) (Nat.le_of_ble_eq_true rfl) (Nat.le_of_ble_eq_true rfl) ?_
      exact mk_reti C0 hw hW hS dX9_addResource_33
  · have hw := hw.2 c10
    refine lv_aload_n hx hb dX9_addResource_13 rfl (lv_at hl 0 rfl) ?_
    refine lv_iconst (v := 1) hx hb dX9_addResource_14 (by decide) ?_
    refine mk_callVi ⟨hx, hb, hml, hown, hts⟩ (c_X9_no l D cI cZ cG cL am hw) (cwV 1 hts (gk_gV ml_X9_139 im_X9_no se_X9_no in_X9 co_X9_no) rfl rfl rfl (by decide +kernel) ⟨Nat.le_of_ble_eq_true rfl, Nat.le_of_ble_eq_true rfl⟩) (gk_recv hK.1 (mk_obj hW) rfl) hW hK trivial hS rfl hl.1 (rest := []) rfl (lv_room (Nat.le_of_ble_eq_true rfl)) dX9_addResource_15 ⟨Nat.le_of_ble_eq_true rfl, Nat.le_of_ble_eq_true rfl⟩ (fun r15 σ15 H locs hw hW _ hk hS => ?_)
    refine W.widen (k := 0) (n := 0) (Nat.le_of_ble_eq_true rfl) (Nat.le_of_ble_eq_true rfl) ?_
    exact mk_reti C0 hw hW hS dX9_addResource_18
def wJ_X9_setUser_39 (Q : Int32 → gk_C → Prop) (σ : gk_C) : Prop := (w_X9_no σ 2 (fun r41 σ41 => Q r41 σ41))
def w_X9_setUser (σ : gk_C) (a0 : Int32) (a1 : Int32) (a2 : Int32) (Q : Int32 → gk_C → Prop) : Prop := (w_X9_isUser (gk_s σ 0 0) a0 (fun r7 => ((¬ r7 = 0) → (w_X9_isIn a1 0 3 (fun r22 => ((r22 = 0) → (wJ_X9_setUser_39 Q (gk_s σ 0 0))) ∧ ((¬ r22 = 0) → (w_X9_isIn a2 0 255 (fun r33 => ((¬ r33 = 0) → (vp_in a0 12 ∧ vp_in a0 12 ∧ ∀ σ59 : gk_C, σ59 = mk_st (gk_s σ 0 0) 5 a0 a1 → vp_in a0 12 ∧ ∀ σ66 : gk_C, σ66 = mk_st σ59 6 a0 a2 → Q ((gk_s σ 0 0).1 6 a0.toNatClampNeg) σ66)) ∧ ((r33 = 0) → (wJ_X9_setUser_39 Q (gk_s σ 0 0))))))))) ∧ ((r7 = 0) → (w_X9_no (gk_s σ 0 0) 1 (fun r15 σ15 => Q r15 σ15)))))
abbrev rmX9_setUser : Room := { frames := 2, cells := 0, slots := 0, locals := 43 }
set_option maxHeartbeats 4000000 in
set_option maxRecDepth 100000 in
theorem tJ_X9_setUser_39 {p : Program} {l : Launch} {e : Env} {s : State} {m : MethodId} {args : Array Value} {below : List Frame} {meth : Method} {c : Code} {D : va_G} {cI cZ cG cL : ClassId} {am : Nat → Nat} (C0 : gk_F p s m args meth c cX9_setUser 5 (some .int) RX9) (hK : gk_K D cI cZ cG cL s) {Q : Int32 → gk_C → Prop} : ∀ (σ : gk_C), wJ_X9_setUser_39 Q σ → ∀ (H : Heap) (locs : List Loc), mk_V D cI cZ am σ H → va_S (mk_A am s.heap.size) s.heap H locs → ∀ (ls : Array Slot), lv_has ls 5 [(0, .ref (am 38))] → W p l e rmX9_setUser s m args below meth c H locs 0 0 (MQ below (va_Qi (fun r u => Q r u) (mk_B (mk_V D cI cZ am)) (mk_A am s.heap.size)) args s 0 0 (mk_A am s.heap.size)) (F0 m 39 ls []) := by
  obtain ⟨hx, hb, hml, hown, hts, hr, hlocks⟩ := id C0
  intro σ hw H locs hW hS  ls hl
  refine lv_aload_n hx hb dX9_setUser_39 rfl (lv_at hl 0 rfl) ?_
  refine lv_iconst (v := 2) hx hb dX9_setUser_40 (by decide) ?_
  refine mk_callVi ⟨hx, hb, hml, hown, hts⟩ (c_X9_no l D cI cZ cG cL am hw) (cwV 1 hts (gk_gV ml_X9_139 im_X9_no se_X9_no in_X9 co_X9_no) rfl rfl rfl (by decide +kernel) ⟨Nat.le_of_ble_eq_true rfl, Nat.le_of_ble_eq_true rfl⟩) (gk_recv hK.1 (mk_obj hW) rfl) hW hK trivial hS rfl hl.1 (rest := []) rfl (lv_room (Nat.le_of_ble_eq_true rfl)) dX9_setUser_41 ⟨Nat.le_of_ble_eq_true rfl, Nat.le_of_ble_eq_true rfl⟩ (fun r41 σ41 H locs hw hW _ hk hS => ?_)
  refine W.widen (k := 0) (n := 0) (Nat.le_of_ble_eq_true rfl) (Nat.le_of_ble_eq_true rfl) ?_
  exact mk_reti C0 hw hW hS dX9_setUser_44
set_option maxHeartbeats 4000000 in
set_option maxRecDepth 100000 in
theorem c_X9_setUser (l : Launch) (D : va_G) (cI cZ cG cL : ClassId) (am : Nat → Nat) {σ : gk_C} {a0 : Int32} {a1 : Int32} {a2 : Int32} {Q : Int32 → gk_C → Prop} {sz : Nat} (hw : w_X9_setUser σ a0 a1 a2 Q) : Met l yX9_setUser wsX9_setUser rmX9_setUser (mk_Pc (mk_V D cI cZ am) D cI cZ cG cL [.ref (am 38), .int a0, .int a1, .int a2] sz σ (fun _ => True)) (va_Qi (fun r u => Q r u) (mk_B (mk_V D cI cZ am)) (mk_A am sz)) 0 0 (mk_A am sz) := by
  refine Met.ofW (cc := cX9_setUser) (maxL := 5) (ret := (some .int)) (by decide) rfl ?_
  intro p e s m args below meth c s₁ B hml0 hv0
  obtain ⟨rfl, hsz, hW, hK, hX⟩ := hv0
  subst hsz
  have C0 : gk_F p s m ([.ref (am 38), .int a0, .int a1, .int a2] : List Value).toArray meth c cX9_setUser 5 (some .int) RX9 := ⟨B.exec, B.bytes, hml0, findClass_of_methodNamed B.named, fun w hw => atoms_spec (ws := wsX9_setUser) B.pre w (List.mem_cons_of_mem _ hw), B.returns, B.notSynchronized⟩
  obtain ⟨hx, hb, hml, hown, hts, hr, hlocks⟩ := id C0
  have hS : va_S (mk_A am s.heap.size) s.heap s.heap [] := va_S.rf
  have hl := lv_entry ([.ref (am 38), .int a0, .int a1, .int a2]) (n := 5) (Nat.le_of_ble_eq_true rfl)
  rw [lg_entry_eq]
  generalize (lg_sl ([.ref (am 38), .int a0, .int a1, .int a2]) ++ List.replicate (5 - (lg_sl ([.ref (am 38), .int a0, .int a1, .int a2])).length) Slot.unset).toArray = ls at hl ⊢
  have hl : lv_has ls 5 [(0, .ref (am 38)), (1, .int a0), (2, .int a1), (3, .int a2)] := hl
  show W p l e rmX9_setUser s m _ below meth c s.heap [] 0 0 _ _
  refine lv_aload_n hx hb dX9_setUser_0 rfl (lv_at hl 0 rfl) ?_
  refine lv_iconst (v := 0) hx hb dX9_setUser_1 (by decide) ?_
  refine gk_putf (ty := .int) (v := .int 0) hx hb hts iwX9 tyX9 tyX9_ok nmX9 hown hK.1 hS (mk_A.in List.mem_cons_self) (mk_obj hW) rfl 0 (by decide) (hts _ fl_X9_102) (fun _ h9 => h9) rfl (by decide +kernel) rfl rfl (Nat.le_of_ble_eq_true rfl) dX9_setUser_2 (fun H locs h1 _ oq hS => ?_)
  have hW := hW.setS (i := 0) (v := 0) h1 oq
  refine lv_aload_n hx hb dX9_setUser_5 rfl (lv_at hl 0 rfl) ?_
  refine lv_iload_n hx hb dX9_setUser_6 rfl (lv_at hl 1 rfl) ?_
  refine mk_callRi ⟨hx, hb, hml, hown, hts⟩ (c_X9_isUser l D cI cZ cG cL am hw) (cwV 1 hts (gk_gV ml_X9_115 im_X9_isUser se_X9_isUser in_X9 co_X9_isUser) rfl rfl rfl (by decide +kernel) ⟨Nat.le_of_ble_eq_true rfl, Nat.le_of_ble_eq_true rfl⟩) (gk_recv hK.1 (mk_obj hW) rfl) hW hK trivial hS rfl hl.1 (rest := []) rfl (lv_room (Nat.le_of_ble_eq_true rfl)) dX9_setUser_7 ⟨Nat.le_of_ble_eq_true rfl, Nat.le_of_ble_eq_true rfl⟩ (fun r7 H locs hw hW _ hk hS => ?_)
  refine lv_if_ne (tgt := 19) hx hb dX9_setUser_10 (by decide) (fun c10 => ?_) (fun c10 => ?_)
  · have hw := hw.1 c10
    refine lv_iload_n hx hb dX9_setUser_19 rfl (lv_at hl 2 rfl) ?_
    refine lv_iconst (v := 0) hx hb dX9_setUser_20 (by decide) ?_
    refine lv_iconst (v := 3) hx hb dX9_setUser_21 (by decide) ?_
    refine gk_callSi ⟨hx, hb, hml, hown, hts⟩ (c_X9_isIn l hw) (va_cwS 3 hts (gk_gS ml_X9_108 st_X9_isIn in_X9 co_X9_isIn) rfl rfl rfl (by decide +kernel) ⟨Nat.le_of_ble_eq_true rfl, Nat.le_of_ble_eq_true rfl⟩) hS rfl hl.1 (rest := []) rfl (lv_room (Nat.le_of_ble_eq_true rfl)) dX9_setUser_22 ⟨Nat.le_of_ble_eq_true rfl, Nat.le_of_ble_eq_true rfl⟩ (fun r22 H locs hw _ hk hS => ?_)
    have hW := hW.keptAll hk
    refine lv_if_eq (tgt := 39) hx hb dX9_setUser_25 (by decide) (fun c25 => ?_) (fun c25 => ?_)
    · have hw := hw.1 c25
      refine tJ_X9_setUser_39 C0 hK  (gk_s σ 0 0) hw _ _ hW hS  _ (lv_sub hl [0] rfl)
    · have hw := hw.2 c25
      refine lv_iload_n hx hb dX9_setUser_28 rfl (lv_at hl 3 rfl) ?_
      refine lv_iconst (v := 0) hx hb dX9_setUser_29 (by decide) ?_
      refine lv_sipush (v := 255) hx hb dX9_setUser_30 (by decide) ?_
      refine gk_callSi ⟨hx, hb, hml, hown, hts⟩ (c_X9_isIn l hw) (va_cwS 3 hts (gk_gS ml_X9_108 st_X9_isIn in_X9 co_X9_isIn) rfl rfl rfl (by decide +kernel) ⟨Nat.le_of_ble_eq_true rfl, Nat.le_of_ble_eq_true rfl⟩) hS rfl hl.1 (rest := []) rfl (lv_room (Nat.le_of_ble_eq_true rfl)) dX9_setUser_33 ⟨Nat.le_of_ble_eq_true rfl, Nat.le_of_ble_eq_true rfl⟩ (fun r33 H locs hw _ hk hS => ?_)
      have hW := hW.keptAll hk
      refine lv_if_ne (tgt := 45) hx hb dX9_setUser_36 (by decide) (fun c36 => ?_) (fun c36 => ?_)
      · have hw := hw.1 c36
        refine lv_aload_n hx hb dX9_setUser_45 rfl (lv_at hl 0 rfl) ?_
        refine gk_get hx hb hts iwX9 hown hK.1 (mk_obj hW) rfl 6 (by decide) (hts _ fl_X9_16) (fun _ h9 => h9) rfl dX9_setUser_46 ?_
        refine lv_iload_n hx hb dX9_setUser_49 rfl (lv_at hl 1 rfl) ?_
        obtain ⟨hin, hw⟩ := hw
        refine gk_iald hx hb hK.1 0 (mk_arr hW (k := 6) (by decide) (by decide) (by decide)) rfl hin dX9_setUser_50 ?_
        refine lv_istore (lv' := [(4, .int ((gk_s σ 0 0).1 6 a0.toNatClampNeg)), (0, .ref (am 38)), (1, .int a0), (2, .int a1), (3, .int a2)]) hx hb dX9_setUser_51 hl (by decide) rfl (fun ls hl => ?_)
        refine lv_aload_n hx hb dX9_setUser_53 rfl (lv_at hl 1 rfl) ?_
        refine gk_get hx hb hts iwX9 hown hK.1 (mk_obj hW) rfl 5 (by decide) (hts _ fl_X9_13) (fun _ h9 => h9) rfl dX9_setUser_54 ?_
        refine lv_iload_n hx hb dX9_setUser_57 rfl (lv_at hl 2 rfl) ?_
        refine lv_iload_n hx hb dX9_setUser_58 rfl (lv_at hl 3 rfl) ?_
        obtain ⟨hin, hw⟩ := hw
        refine gk_iast hx hb hK.1 hS (mk_A.in (k := 5) (by decide)) 0 (mk_arr hW (k := 5) (by decide) (by decide) (by decide)) rfl hin dX9_setUser_59 (fun H locs h1 _ oq hS => ?_)
        have hW := hW.setR (k := 5) (by decide) (by decide) (by decide) h1 oq
        obtain ⟨σ59, eσ59⟩ : ∃ z, z = mk_st (gk_s σ 0 0) 5 a0 a1 := ⟨_, rfl⟩
        have hW := mk_stW (Wd := mk_V D cI cZ am) eσ59 hW
        have hw := hw σ59 eσ59
        refine lv_aload_n hx hb dX9_setUser_60 rfl (lv_at hl 1 rfl) ?_
        refine gk_get hx hb hts iwX9 hown hK.1 (mk_obj hW) rfl 6 (by decide) (hts _ fl_X9_16) (fun _ h9 => h9) rfl dX9_setUser_61 ?_
        refine lv_iload_n hx hb dX9_setUser_64 rfl (lv_at hl 2 rfl) ?_
        refine lv_iload_n hx hb dX9_setUser_65 rfl (lv_at hl 4 rfl) ?_
        obtain ⟨hin, hw⟩ := hw
        refine gk_iast hx hb hK.1 hS (mk_A.in (k := 6) (by decide)) 0 (mk_arr hW (k := 6) (by decide) (by decide) (by decide)) rfl hin dX9_setUser_66 (fun H locs h1 _ oq hS => ?_)
        have hW := hW.setR (k := 6) (by decide) (by decide) (by decide) h1 oq
        obtain ⟨σ66, eσ66⟩ : ∃ z, z = mk_st σ59 6 a0 a2 := ⟨_, rfl⟩
        have hW := mk_stW (Wd := mk_V D cI cZ am) eσ66 hW
        have hw := hw σ66 eσ66
        refine lv_iload hx hb dX9_setUser_67 (lv_at hl 0 rfl) ?_
        refine W.widen (k := 0) (n := 0) (Nat.le_of_ble_eq_true rfl) (Nat.le_of_ble_eq_true rfl) ?_
        exact mk_reti C0 hw hW hS dX9_setUser_69
      · have hw := hw.2 c36
        refine tJ_X9_setUser_39 C0 hK  (gk_s σ 0 0) hw _ _ hW hS  _ (lv_sub hl [0] rfl)
  · have hw := hw.2 c10
    refine lv_aload_n hx hb dX9_setUser_13 rfl (lv_at hl 0 rfl) ?_
    refine lv_iconst (v := 1) hx hb dX9_setUser_14 (by decide) ?_
    refine mk_callVi ⟨hx, hb, hml, hown, hts⟩ (c_X9_no l D cI cZ cG cL am hw) (cwV 1 hts (gk_gV ml_X9_139 im_X9_no se_X9_no in_X9 co_X9_no) rfl rfl rfl (by decide +kernel) ⟨Nat.le_of_ble_eq_true rfl, Nat.le_of_ble_eq_true rfl⟩) (gk_recv hK.1 (mk_obj hW) rfl) hW hK trivial hS rfl hl.1 (rest := []) rfl (lv_room (Nat.le_of_ble_eq_true rfl)) dX9_setUser_15 ⟨Nat.le_of_ble_eq_true rfl, Nat.le_of_ble_eq_true rfl⟩ (fun r15 σ15 H locs hw hW _ hk hS => ?_)
    refine W.widen (k := 0) (n := 0) (Nat.le_of_ble_eq_true rfl) (Nat.le_of_ble_eq_true rfl) ?_
    exact mk_reti C0 hw hW hS dX9_setUser_18
def w_X9_setLabel (σ : gk_C) (a0 : Int32) (a1 : Int32) (Q : Int32 → gk_C → Prop) : Prop := (w_X9_isResource (gk_s σ 0 0) a0 (fun r7 => ((¬ r7 = 0) → (w_X9_isIn a1 0 3 (fun r22 => ((¬ r22 = 0) → (vp_in a0 24 ∧ vp_in a0 24 ∧ ∀ σ47 : gk_C, σ47 = mk_st (gk_s σ 0 0) 13 a0 a1 → Q ((gk_s σ 0 0).1 13 a0.toNatClampNeg) σ47)) ∧ ((r22 = 0) → (w_X9_no (gk_s σ 0 0) 2 (fun r30 σ30 => Q r30 σ30)))))) ∧ ((r7 = 0) → (w_X9_no (gk_s σ 0 0) 1 (fun r15 σ15 => Q r15 σ15)))))
abbrev rmX9_setLabel : Room := { frames := 2, cells := 0, slots := 0, locals := 43 }
set_option maxHeartbeats 4000000 in
set_option maxRecDepth 100000 in
theorem c_X9_setLabel (l : Launch) (D : va_G) (cI cZ cG cL : ClassId) (am : Nat → Nat) {σ : gk_C} {a0 : Int32} {a1 : Int32} {Q : Int32 → gk_C → Prop} {sz : Nat} (hw : w_X9_setLabel σ a0 a1 Q) : Met l yX9_setLabel wsX9_setLabel rmX9_setLabel (mk_Pc (mk_V D cI cZ am) D cI cZ cG cL [.ref (am 38), .int a0, .int a1] sz σ (fun _ => True)) (va_Qi (fun r u => Q r u) (mk_B (mk_V D cI cZ am)) (mk_A am sz)) 0 0 (mk_A am sz) := by
  refine Met.ofW (cc := cX9_setLabel) (maxL := 4) (ret := (some .int)) (by decide) rfl ?_
  intro p e s m args below meth c s₁ B hml0 hv0
  obtain ⟨rfl, hsz, hW, hK, hX⟩ := hv0
  subst hsz
  have C0 : gk_F p s m ([.ref (am 38), .int a0, .int a1] : List Value).toArray meth c cX9_setLabel 4 (some .int) RX9 := ⟨B.exec, B.bytes, hml0, findClass_of_methodNamed B.named, fun w hw => atoms_spec (ws := wsX9_setLabel) B.pre w (List.mem_cons_of_mem _ hw), B.returns, B.notSynchronized⟩
  obtain ⟨hx, hb, hml, hown, hts, hr, hlocks⟩ := id C0
  have hS : va_S (mk_A am s.heap.size) s.heap s.heap [] := va_S.rf
  have hl := lv_entry ([.ref (am 38), .int a0, .int a1]) (n := 4) (Nat.le_of_ble_eq_true rfl)
  rw [lg_entry_eq]
  generalize (lg_sl ([.ref (am 38), .int a0, .int a1]) ++ List.replicate (4 - (lg_sl ([.ref (am 38), .int a0, .int a1])).length) Slot.unset).toArray = ls at hl ⊢
  have hl : lv_has ls 4 [(0, .ref (am 38)), (1, .int a0), (2, .int a1)] := hl
  show W p l e rmX9_setLabel s m _ below meth c s.heap [] 0 0 _ _
  refine lv_aload_n hx hb dX9_setLabel_0 rfl (lv_at hl 0 rfl) ?_
  refine lv_iconst (v := 0) hx hb dX9_setLabel_1 (by decide) ?_
  refine gk_putf (ty := .int) (v := .int 0) hx hb hts iwX9 tyX9 tyX9_ok nmX9 hown hK.1 hS (mk_A.in List.mem_cons_self) (mk_obj hW) rfl 0 (by decide) (hts _ fl_X9_102) (fun _ h9 => h9) rfl (by decide +kernel) rfl rfl (Nat.le_of_ble_eq_true rfl) dX9_setLabel_2 (fun H locs h1 _ oq hS => ?_)
  have hW := hW.setS (i := 0) (v := 0) h1 oq
  refine lv_aload_n hx hb dX9_setLabel_5 rfl (lv_at hl 0 rfl) ?_
  refine lv_iload_n hx hb dX9_setLabel_6 rfl (lv_at hl 1 rfl) ?_
  refine mk_callRi ⟨hx, hb, hml, hown, hts⟩ (c_X9_isResource l D cI cZ cG cL am hw) (cwV 1 hts (gk_gV ml_X9_122 im_X9_isResource se_X9_isResource in_X9 co_X9_isResource) rfl rfl rfl (by decide +kernel) ⟨Nat.le_of_ble_eq_true rfl, Nat.le_of_ble_eq_true rfl⟩) (gk_recv hK.1 (mk_obj hW) rfl) hW hK trivial hS rfl hl.1 (rest := []) rfl (lv_room (Nat.le_of_ble_eq_true rfl)) dX9_setLabel_7 ⟨Nat.le_of_ble_eq_true rfl, Nat.le_of_ble_eq_true rfl⟩ (fun r7 H locs hw hW _ hk hS => ?_)
  refine lv_if_ne (tgt := 19) hx hb dX9_setLabel_10 (by decide) (fun c10 => ?_) (fun c10 => ?_)
  · have hw := hw.1 c10
    refine lv_iload_n hx hb dX9_setLabel_19 rfl (lv_at hl 2 rfl) ?_
    refine lv_iconst (v := 0) hx hb dX9_setLabel_20 (by decide) ?_
    refine lv_iconst (v := 3) hx hb dX9_setLabel_21 (by decide) ?_
    refine gk_callSi ⟨hx, hb, hml, hown, hts⟩ (c_X9_isIn l hw) (va_cwS 3 hts (gk_gS ml_X9_108 st_X9_isIn in_X9 co_X9_isIn) rfl rfl rfl (by decide +kernel) ⟨Nat.le_of_ble_eq_true rfl, Nat.le_of_ble_eq_true rfl⟩) hS rfl hl.1 (rest := []) rfl (lv_room (Nat.le_of_ble_eq_true rfl)) dX9_setLabel_22 ⟨Nat.le_of_ble_eq_true rfl, Nat.le_of_ble_eq_true rfl⟩ (fun r22 H locs hw _ hk hS => ?_)
    have hW := hW.keptAll hk
    refine lv_if_ne (tgt := 34) hx hb dX9_setLabel_25 (by decide) (fun c25 => ?_) (fun c25 => ?_)
    · have hw := hw.1 c25
      refine lv_aload_n hx hb dX9_setLabel_34 rfl (lv_at hl 0 rfl) ?_
      refine gk_get hx hb hts iwX9 hown hK.1 (mk_obj hW) rfl 13 (by decide) (hts _ fl_X9_32) (fun _ h9 => h9) rfl dX9_setLabel_35 ?_
      refine lv_iload_n hx hb dX9_setLabel_38 rfl (lv_at hl 1 rfl) ?_
      obtain ⟨hin, hw⟩ := hw
      refine gk_iald hx hb hK.1 0 (mk_arr hW (k := 13) (by decide) (by decide) (by decide)) rfl hin dX9_setLabel_39 ?_
      refine lv_istore_n (lv' := [(3, .int ((gk_s σ 0 0).1 13 a0.toNatClampNeg)), (0, .ref (am 38)), (1, .int a0), (2, .int a1)]) hx hb dX9_setLabel_40 rfl hl (by decide) rfl (fun ls hl => ?_)
      refine lv_aload_n hx hb dX9_setLabel_41 rfl (lv_at hl 1 rfl) ?_
      refine gk_get hx hb hts iwX9 hown hK.1 (mk_obj hW) rfl 13 (by decide) (hts _ fl_X9_32) (fun _ h9 => h9) rfl dX9_setLabel_42 ?_
      refine lv_iload_n hx hb dX9_setLabel_45 rfl (lv_at hl 2 rfl) ?_
      refine lv_iload_n hx hb dX9_setLabel_46 rfl (lv_at hl 3 rfl) ?_
      obtain ⟨hin, hw⟩ := hw
      refine gk_iast hx hb hK.1 hS (mk_A.in (k := 13) (by decide)) 0 (mk_arr hW (k := 13) (by decide) (by decide) (by decide)) rfl hin dX9_setLabel_47 (fun H locs h1 _ oq hS => ?_)
      have hW := hW.setR (k := 13) (by decide) (by decide) (by decide) h1 oq
      obtain ⟨σ47, eσ47⟩ : ∃ z, z = mk_st (gk_s σ 0 0) 13 a0 a1 := ⟨_, rfl⟩
      have hW := mk_stW (Wd := mk_V D cI cZ am) eσ47 hW
      have hw := hw σ47 eσ47
      refine lv_iload_n hx hb dX9_setLabel_48 rfl (lv_at hl 0 rfl) ?_
      refine W.widen (k := 0) (n := 0) (Nat.le_of_ble_eq_true rfl) (Nat.le_of_ble_eq_true rfl) ?_
      exact mk_reti C0 hw hW hS dX9_setLabel_49
    · have hw := hw.2 c25
      refine lv_aload_n hx hb dX9_setLabel_28 rfl (lv_at hl 0 rfl) ?_
      refine lv_iconst (v := 2) hx hb dX9_setLabel_29 (by decide) ?_
      refine mk_callVi ⟨hx, hb, hml, hown, hts⟩ (c_X9_no l D cI cZ cG cL am hw) (cwV 1 hts (gk_gV ml_X9_139 im_X9_no se_X9_no in_X9 co_X9_no) rfl rfl rfl (by decide +kernel) ⟨Nat.le_of_ble_eq_true rfl, Nat.le_of_ble_eq_true rfl⟩) (gk_recv hK.1 (mk_obj hW) rfl) hW hK trivial hS rfl hl.1 (rest := []) rfl (lv_room (Nat.le_of_ble_eq_true rfl)) dX9_setLabel_30 ⟨Nat.le_of_ble_eq_true rfl, Nat.le_of_ble_eq_true rfl⟩ (fun r30 σ30 H locs hw hW _ hk hS => ?_)
      refine W.widen (k := 0) (n := 0) (Nat.le_of_ble_eq_true rfl) (Nat.le_of_ble_eq_true rfl) ?_
      exact mk_reti C0 hw hW hS dX9_setLabel_33
  · have hw := hw.2 c10
    refine lv_aload_n hx hb dX9_setLabel_13 rfl (lv_at hl 0 rfl) ?_
    refine lv_iconst (v := 1) hx hb dX9_setLabel_14 (by decide) ?_
    refine mk_callVi ⟨hx, hb, hml, hown, hts⟩ (c_X9_no l D cI cZ cG cL am hw) (cwV 1 hts (gk_gV ml_X9_139 im_X9_no se_X9_no in_X9 co_X9_no) rfl rfl rfl (by decide +kernel) ⟨Nat.le_of_ble_eq_true rfl, Nat.le_of_ble_eq_true rfl⟩) (gk_recv hK.1 (mk_obj hW) rfl) hW hK trivial hS rfl hl.1 (rest := []) rfl (lv_room (Nat.le_of_ble_eq_true rfl)) dX9_setLabel_15 ⟨Nat.le_of_ble_eq_true rfl, Nat.le_of_ble_eq_true rfl⟩ (fun r15 σ15 H locs hw hW _ hk hS => ?_)
    refine W.widen (k := 0) (n := 0) (Nat.le_of_ble_eq_true rfl) (Nat.le_of_ble_eq_true rfl) ?_
    exact mk_reti C0 hw hW hS dX9_setLabel_18
def wJ_X9_setWall_42 (Q : Int32 → gk_C → Prop) (σ : gk_C) : Prop := (w_X9_isNot σ 2 (fun r44 σ44 => gk_z r44 ∧ Q r44 σ44))
def wJ_X9_setWall_63 (Q : Int32 → gk_C → Prop) (σ : gk_C) (x1 : Int32) (x2 : Int32) (x3 : Int32) (t0 : Int32) : Prop := (vp_in x1 24 ∧ ∀ σ71 : gk_C, σ71 = mk_st σ 14 x1 x2 → vp_in x1 24 ∧ ∀ σ78 : gk_C, σ78 = mk_st σ71 15 x1 x3 → gk_z t0 ∧ Q t0 σ78)
def wJ_X9_setWall_48 (Q : Int32 → gk_C → Prop) (σ : gk_C) (x1 : Int32) (x2 : Int32) (x3 : Int32) : Prop := (vp_in x1 24 ∧ (((σ.1 14 x1.toNatClampNeg) = (-1)) → (wJ_X9_setWall_63 Q σ x1 x2 x3 0)) ∧ ((¬ (σ.1 14 x1.toNatClampNeg) = (-1)) → (wJ_X9_setWall_63 Q σ x1 x2 x3 1)))
def w_X9_setWall (σ : gk_C) (a0 : Int32) (a1 : Int32) (a2 : Int32) (Q : Int32 → gk_C → Prop) : Prop := (w_X9_isResource (gk_s σ 0 0) a0 (fun r7 => ((¬ r7 = 0) → (w_X9_isIn a1 (-1) 3 (fun r22 => ((r22 = 0) → (wJ_X9_setWall_42 Q (gk_s σ 0 0))) ∧ ((¬ r22 = 0) → (((a1 = (-1)) → (wJ_X9_setWall_48 Q (gk_s σ 0 0) a0 a1 a2)) ∧ ((¬ a1 = (-1)) → (w_X9_isIn a2 0 3 (fun r36 => ((¬ r36 = 0) → (wJ_X9_setWall_48 Q (gk_s σ 0 0) a0 a1 a2)) ∧ ((r36 = 0) → (wJ_X9_setWall_42 Q (gk_s σ 0 0))))))))))) ∧ ((r7 = 0) → (w_X9_isNot (gk_s σ 0 0) 1 (fun r15 σ15 => gk_z r15 ∧ Q r15 σ15)))))
abbrev rmX9_setWall : Room := { frames := 2, cells := 0, slots := 0, locals := 43 }
set_option maxHeartbeats 4000000 in
set_option maxRecDepth 100000 in
theorem tJ_X9_setWall_42 {p : Program} {l : Launch} {e : Env} {s : State} {m : MethodId} {args : Array Value} {below : List Frame} {meth : Method} {c : Code} {D : va_G} {cI cZ cG cL : ClassId} {am : Nat → Nat} (C0 : gk_F p s m args meth c cX9_setWall 5 (some .boolean) RX9) (hK : gk_K D cI cZ cG cL s) {Q : Int32 → gk_C → Prop} : ∀ (σ : gk_C), wJ_X9_setWall_42 Q σ → ∀ (H : Heap) (locs : List Loc), mk_V D cI cZ am σ H → va_S (mk_A am s.heap.size) s.heap H locs → ∀ (ls : Array Slot), lv_has ls 5 [(0, .ref (am 38))] → W p l e rmX9_setWall s m args below meth c H locs 0 0 (MQ below (va_Qi (fun r u => Q r u) (mk_B (mk_V D cI cZ am)) (mk_A am s.heap.size)) args s 0 0 (mk_A am s.heap.size)) (F0 m 42 ls []) := by
  obtain ⟨hx, hb, hml, hown, hts, hr, hlocks⟩ := id C0
  intro σ hw H locs hW hS  ls hl
  refine lv_aload_n hx hb dX9_setWall_42 rfl (lv_at hl 0 rfl) ?_
  refine lv_iconst (v := 2) hx hb dX9_setWall_43 (by decide) ?_
  refine mk_callVi ⟨hx, hb, hml, hown, hts⟩ (c_X9_isNot l D cI cZ cG cL am hw) (cwV 1 hts (gk_gV ml_X9_145 im_X9_isNot se_X9_isNot in_X9 co_X9_isNot) rfl rfl rfl (by decide +kernel) ⟨Nat.le_of_ble_eq_true rfl, Nat.le_of_ble_eq_true rfl⟩) (gk_recv hK.1 (mk_obj hW) rfl) hW hK trivial hS rfl hl.1 (rest := []) rfl (lv_room (Nat.le_of_ble_eq_true rfl)) dX9_setWall_44 ⟨Nat.le_of_ble_eq_true rfl, Nat.le_of_ble_eq_true rfl⟩ (fun r44 σ44 H locs hw hW _ hk hS => ?_)
  refine W.widen (k := 0) (n := 0) (Nat.le_of_ble_eq_true rfl) (Nat.le_of_ble_eq_true rfl) ?_
  obtain ⟨hz, hw⟩ := hw
  exact mk_retz C0 hz hw hW hS dX9_setWall_47
set_option maxHeartbeats 4000000 in
set_option maxRecDepth 100000 in
theorem tJ_X9_setWall_63 {p : Program} {l : Launch} {e : Env} {s : State} {m : MethodId} {args : Array Value} {below : List Frame} {meth : Method} {c : Code} {D : va_G} {cI cZ cG cL : ClassId} {am : Nat → Nat} (C0 : gk_F p s m args meth c cX9_setWall 5 (some .boolean) RX9) (hK : gk_K D cI cZ cG cL s) {Q : Int32 → gk_C → Prop} : ∀ (σ : gk_C) (x1 : Int32) (x2 : Int32) (x3 : Int32) (t0 : Int32), wJ_X9_setWall_63 Q σ x1 x2 x3 t0 → ∀ (H : Heap) (locs : List Loc), mk_V D cI cZ am σ H → va_S (mk_A am s.heap.size) s.heap H locs → ∀ (ls : Array Slot), lv_has ls 5 [(0, .ref (am 38)), (1, .int x1), (2, .int x2), (3, .int x3)] → W p l e rmX9_setWall s m args below meth c H locs 0 0 (MQ below (va_Qi (fun r u => Q r u) (mk_B (mk_V D cI cZ am)) (mk_A am s.heap.size)) args s 0 0 (mk_A am s.heap.size)) (F0 m 63 ls [.int t0]) := by
  obtain ⟨hx, hb, hml, hown, hts, hr, hlocks⟩ := id C0
  intro σ x1 x2 x3 t0 hw H locs hW hS  ls hl
  refine lv_istore (lv' := [(4, .int t0), (0, .ref (am 38)), (1, .int x1), (2, .int x2), (3, .int x3)]) hx hb dX9_setWall_63 hl (by decide) rfl (fun ls hl => ?_)
  refine lv_aload_n hx hb dX9_setWall_65 rfl (lv_at hl 1 rfl) ?_
  refine gk_get hx hb hts iwX9 hown hK.1 (mk_obj hW) rfl 14 (by decide) (hts _ fl_X9_35) (fun _ h9 => h9) rfl dX9_setWall_66 ?_
  refine lv_iload_n hx hb dX9_setWall_69 rfl (lv_at hl 2 rfl) ?_
  refine lv_iload_n hx hb dX9_setWall_70 rfl (lv_at hl 3 rfl) ?_
  obtain ⟨hin, hw⟩ := hw
  refine gk_iast hx hb hK.1 hS (mk_A.in (k := 14) (by decide)) 0 (mk_arr hW (k := 14) (by decide) (by decide) (by decide)) rfl hin dX9_setWall_71 (fun H locs h1 _ oq hS => ?_)
  have hW := hW.setR (k := 14) (by decide) (by decide) (by decide) h1 oq
  obtain ⟨σ71, eσ71⟩ : ∃ z, z = mk_st σ 14 x1 x2 := ⟨_, rfl⟩
  have hW := mk_stW (Wd := mk_V D cI cZ am) eσ71 hW
  have hw := hw σ71 eσ71
  refine lv_aload_n hx hb dX9_setWall_72 rfl (lv_at hl 1 rfl) ?_
  refine gk_get hx hb hts iwX9 hown hK.1 (mk_obj hW) rfl 15 (by decide) (hts _ fl_X9_38) (fun _ h9 => h9) rfl dX9_setWall_73 ?_
  refine lv_iload_n hx hb dX9_setWall_76 rfl (lv_at hl 2 rfl) ?_
  refine lv_iload_n hx hb dX9_setWall_77 rfl (lv_at hl 4 rfl) ?_
  obtain ⟨hin, hw⟩ := hw
  refine gk_iast hx hb hK.1 hS (mk_A.in (k := 15) (by decide)) 0 (mk_arr hW (k := 15) (by decide) (by decide) (by decide)) rfl hin dX9_setWall_78 (fun H locs h1 _ oq hS => ?_)
  have hW := hW.setR (k := 15) (by decide) (by decide) (by decide) h1 oq
  obtain ⟨σ78, eσ78⟩ : ∃ z, z = mk_st σ71 15 x1 x3 := ⟨_, rfl⟩
  have hW := mk_stW (Wd := mk_V D cI cZ am) eσ78 hW
  have hw := hw σ78 eσ78
  refine lv_iload hx hb dX9_setWall_79 (lv_at hl 0 rfl) ?_
  refine W.widen (k := 0) (n := 0) (Nat.le_of_ble_eq_true rfl) (Nat.le_of_ble_eq_true rfl) ?_
  obtain ⟨hz, hw⟩ := hw
  exact mk_retz C0 hz hw hW hS dX9_setWall_81
set_option maxHeartbeats 4000000 in
set_option maxRecDepth 100000 in
theorem tJ_X9_setWall_48 {p : Program} {l : Launch} {e : Env} {s : State} {m : MethodId} {args : Array Value} {below : List Frame} {meth : Method} {c : Code} {D : va_G} {cI cZ cG cL : ClassId} {am : Nat → Nat} (C0 : gk_F p s m args meth c cX9_setWall 5 (some .boolean) RX9) (hK : gk_K D cI cZ cG cL s) {Q : Int32 → gk_C → Prop} : ∀ (σ : gk_C) (x1 : Int32) (x2 : Int32) (x3 : Int32), wJ_X9_setWall_48 Q σ x1 x2 x3 → ∀ (H : Heap) (locs : List Loc), mk_V D cI cZ am σ H → va_S (mk_A am s.heap.size) s.heap H locs → ∀ (ls : Array Slot), lv_has ls 5 [(0, .ref (am 38)), (1, .int x1), (2, .int x2), (3, .int x3)] → W p l e rmX9_setWall s m args below meth c H locs 0 0 (MQ below (va_Qi (fun r u => Q r u) (mk_B (mk_V D cI cZ am)) (mk_A am s.heap.size)) args s 0 0 (mk_A am s.heap.size)) (F0 m 48 ls []) := by
  obtain ⟨hx, hb, hml, hown, hts, hr, hlocks⟩ := id C0
  intro σ x1 x2 x3 hw H locs hW hS  ls hl
  refine lv_aload_n hx hb dX9_setWall_48 rfl (lv_at hl 0 rfl) ?_
  refine gk_get hx hb hts iwX9 hown hK.1 (mk_obj hW) rfl 14 (by decide) (hts _ fl_X9_35) (fun _ h9 => h9) rfl dX9_setWall_49 ?_
  refine lv_iload_n hx hb dX9_setWall_52 rfl (lv_at hl 1 rfl) ?_
  obtain ⟨hin, hw⟩ := hw
  refine gk_iald hx hb hK.1 0 (mk_arr hW (k := 14) (by decide) (by decide) (by decide)) rfl hin dX9_setWall_53 ?_
  refine lv_iconst (v := (-1)) hx hb dX9_setWall_54 (by decide) ?_
  refine lv_icmp_eq (tgt := 62) hx hb dX9_setWall_55 (by decide) (fun c55 => ?_) (fun c55 => ?_)
  · have hw := hw.1 c55
    refine lv_iconst (v := 0) hx hb dX9_setWall_62 (by decide) ?_
    refine tJ_X9_setWall_63 C0 hK  σ x1 x2 x3 0 hw _ _ hW hS  _ hl
  · have hw := hw.2 c55
    refine lv_iconst (v := 1) hx hb dX9_setWall_58 (by decide) ?_
    refine lv_goto (tgt := 63) hx hb dX9_setWall_59 (by decide) ?_
    refine tJ_X9_setWall_63 C0 hK  σ x1 x2 x3 1 hw _ _ hW hS  _ hl
set_option maxHeartbeats 4000000 in
set_option maxRecDepth 100000 in
theorem c_X9_setWall (l : Launch) (D : va_G) (cI cZ cG cL : ClassId) (am : Nat → Nat) {σ : gk_C} {a0 : Int32} {a1 : Int32} {a2 : Int32} {Q : Int32 → gk_C → Prop} {sz : Nat} (hw : w_X9_setWall σ a0 a1 a2 Q) : Met l yX9_setWall wsX9_setWall rmX9_setWall (mk_Pc (mk_V D cI cZ am) D cI cZ cG cL [.ref (am 38), .int a0, .int a1, .int a2] sz σ (fun _ => True)) (va_Qi (fun r u => Q r u) (mk_B (mk_V D cI cZ am)) (mk_A am sz)) 0 0 (mk_A am sz) := by
  refine Met.ofW (cc := cX9_setWall) (maxL := 5) (ret := (some .boolean)) (by decide) rfl ?_
  intro p e s m args below meth c s₁ B hml0 hv0
  obtain ⟨rfl, hsz, hW, hK, hX⟩ := hv0
  subst hsz
  have C0 : gk_F p s m ([.ref (am 38), .int a0, .int a1, .int a2] : List Value).toArray meth c cX9_setWall 5 (some .boolean) RX9 := ⟨B.exec, B.bytes, hml0, findClass_of_methodNamed B.named, fun w hw => atoms_spec (ws := wsX9_setWall) B.pre w (List.mem_cons_of_mem _ hw), B.returns, B.notSynchronized⟩
  obtain ⟨hx, hb, hml, hown, hts, hr, hlocks⟩ := id C0
  have hS : va_S (mk_A am s.heap.size) s.heap s.heap [] := va_S.rf
  have hl := lv_entry ([.ref (am 38), .int a0, .int a1, .int a2]) (n := 5) (Nat.le_of_ble_eq_true rfl)
  rw [lg_entry_eq]
  generalize (lg_sl ([.ref (am 38), .int a0, .int a1, .int a2]) ++ List.replicate (5 - (lg_sl ([.ref (am 38), .int a0, .int a1, .int a2])).length) Slot.unset).toArray = ls at hl ⊢
  have hl : lv_has ls 5 [(0, .ref (am 38)), (1, .int a0), (2, .int a1), (3, .int a2)] := hl
  show W p l e rmX9_setWall s m _ below meth c s.heap [] 0 0 _ _
  refine lv_aload_n hx hb dX9_setWall_0 rfl (lv_at hl 0 rfl) ?_
  refine lv_iconst (v := 0) hx hb dX9_setWall_1 (by decide) ?_
  refine gk_putf (ty := .int) (v := .int 0) hx hb hts iwX9 tyX9 tyX9_ok nmX9 hown hK.1 hS (mk_A.in List.mem_cons_self) (mk_obj hW) rfl 0 (by decide) (hts _ fl_X9_102) (fun _ h9 => h9) rfl (by decide +kernel) rfl rfl (Nat.le_of_ble_eq_true rfl) dX9_setWall_2 (fun H locs h1 _ oq hS => ?_)
  have hW := hW.setS (i := 0) (v := 0) h1 oq
  refine lv_aload_n hx hb dX9_setWall_5 rfl (lv_at hl 0 rfl) ?_
  refine lv_iload_n hx hb dX9_setWall_6 rfl (lv_at hl 1 rfl) ?_
  refine mk_callRi ⟨hx, hb, hml, hown, hts⟩ (c_X9_isResource l D cI cZ cG cL am hw) (cwV 1 hts (gk_gV ml_X9_122 im_X9_isResource se_X9_isResource in_X9 co_X9_isResource) rfl rfl rfl (by decide +kernel) ⟨Nat.le_of_ble_eq_true rfl, Nat.le_of_ble_eq_true rfl⟩) (gk_recv hK.1 (mk_obj hW) rfl) hW hK trivial hS rfl hl.1 (rest := []) rfl (lv_room (Nat.le_of_ble_eq_true rfl)) dX9_setWall_7 ⟨Nat.le_of_ble_eq_true rfl, Nat.le_of_ble_eq_true rfl⟩ (fun r7 H locs hw hW _ hk hS => ?_)
  refine lv_if_ne (tgt := 19) hx hb dX9_setWall_10 (by decide) (fun c10 => ?_) (fun c10 => ?_)
  · have hw := hw.1 c10
    refine lv_iload_n hx hb dX9_setWall_19 rfl (lv_at hl 2 rfl) ?_
    refine lv_iconst (v := (-1)) hx hb dX9_setWall_20 (by decide) ?_
    refine lv_iconst (v := 3) hx hb dX9_setWall_21 (by decide) ?_
    refine gk_callSi ⟨hx, hb, hml, hown, hts⟩ (c_X9_isIn l hw) (va_cwS 3 hts (gk_gS ml_X9_108 st_X9_isIn in_X9 co_X9_isIn) rfl rfl rfl (by decide +kernel) ⟨Nat.le_of_ble_eq_true rfl, Nat.le_of_ble_eq_true rfl⟩) hS rfl hl.1 (rest := []) rfl (lv_room (Nat.le_of_ble_eq_true rfl)) dX9_setWall_22 ⟨Nat.le_of_ble_eq_true rfl, Nat.le_of_ble_eq_true rfl⟩ (fun r22 H locs hw _ hk hS => ?_)
    have hW := hW.keptAll hk
    refine lv_if_eq (tgt := 42) hx hb dX9_setWall_25 (by decide) (fun c25 => ?_) (fun c25 => ?_)
    · have hw := hw.1 c25
      refine tJ_X9_setWall_42 C0 hK  (gk_s σ 0 0) hw _ _ hW hS  _ (lv_sub hl [0] rfl)
    · have hw := hw.2 c25
      refine lv_iload_n hx hb dX9_setWall_28 rfl (lv_at hl 2 rfl) ?_
      refine lv_iconst (v := (-1)) hx hb dX9_setWall_29 (by decide) ?_
      refine lv_icmp_eq (tgt := 48) hx hb dX9_setWall_30 (by decide) (fun c30 => ?_) (fun c30 => ?_)
      · have hw := hw.1 c30
        refine tJ_X9_setWall_48 C0 hK  (gk_s σ 0 0) a0 a1 a2 hw _ _ hW hS  _ hl
      · have hw := hw.2 c30
        refine lv_iload_n hx hb dX9_setWall_33 rfl (lv_at hl 3 rfl) ?_
        refine lv_iconst (v := 0) hx hb dX9_setWall_34 (by decide) ?_
        refine lv_iconst (v := 3) hx hb dX9_setWall_35 (by decide) ?_
        refine gk_callSi ⟨hx, hb, hml, hown, hts⟩ (c_X9_isIn l hw) (va_cwS 3 hts (gk_gS ml_X9_108 st_X9_isIn in_X9 co_X9_isIn) rfl rfl rfl (by decide +kernel) ⟨Nat.le_of_ble_eq_true rfl, Nat.le_of_ble_eq_true rfl⟩) hS rfl hl.1 (rest := []) rfl (lv_room (Nat.le_of_ble_eq_true rfl)) dX9_setWall_36 ⟨Nat.le_of_ble_eq_true rfl, Nat.le_of_ble_eq_true rfl⟩ (fun r36 H locs hw _ hk hS => ?_)
        have hW := hW.keptAll hk
        refine lv_if_ne (tgt := 48) hx hb dX9_setWall_39 (by decide) (fun c39 => ?_) (fun c39 => ?_)
        · have hw := hw.1 c39
          refine tJ_X9_setWall_48 C0 hK  (gk_s σ 0 0) a0 a1 a2 hw _ _ hW hS  _ hl
        · have hw := hw.2 c39
          refine tJ_X9_setWall_42 C0 hK  (gk_s σ 0 0) hw _ _ hW hS  _ (lv_sub hl [0] rfl)
  · have hw := hw.2 c10
    refine lv_aload_n hx hb dX9_setWall_13 rfl (lv_at hl 0 rfl) ?_
    refine lv_iconst (v := 1) hx hb dX9_setWall_14 (by decide) ?_
    refine mk_callVi ⟨hx, hb, hml, hown, hts⟩ (c_X9_isNot l D cI cZ cG cL am hw) (cwV 1 hts (gk_gV ml_X9_145 im_X9_isNot se_X9_isNot in_X9 co_X9_isNot) rfl rfl rfl (by decide +kernel) ⟨Nat.le_of_ble_eq_true rfl, Nat.le_of_ble_eq_true rfl⟩) (gk_recv hK.1 (mk_obj hW) rfl) hW hK trivial hS rfl hl.1 (rest := []) rfl (lv_room (Nat.le_of_ble_eq_true rfl)) dX9_setWall_15 ⟨Nat.le_of_ble_eq_true rfl, Nat.le_of_ble_eq_true rfl⟩ (fun r15 σ15 H locs hw hW _ hk hS => ?_)
    refine W.widen (k := 0) (n := 0) (Nat.le_of_ble_eq_true rfl) (Nat.le_of_ble_eq_true rfl) ?_
    obtain ⟨hz, hw⟩ := hw
    exact mk_retz C0 hz hw hW hS dX9_setWall_18
def w_X9_users (σ : gk_C)  (Q : Int32 → gk_C → Prop) : Prop := (w_X9_ok σ (σ.2 3) (fun r5 σ5 => Q r5 σ5))
abbrev rmX9_users : Room := { frames := 1, cells := 0, slots := 0, locals := 21 }
set_option maxHeartbeats 4000000 in
set_option maxRecDepth 100000 in
theorem c_X9_users (l : Launch) (D : va_G) (cI cZ cG cL : ClassId) (am : Nat → Nat) {σ : gk_C} {Q : Int32 → gk_C → Prop} {sz : Nat} (hw : w_X9_users σ  Q) : Met l yX9_users wsX9_users rmX9_users (mk_Pc (mk_V D cI cZ am) D cI cZ cG cL [.ref (am 38)] sz σ (fun _ => True)) (va_Qi (fun r u => Q r u) (mk_B (mk_V D cI cZ am)) (mk_A am sz)) 0 0 (mk_A am sz) := by
  refine Met.ofW (cc := cX9_users) (maxL := 1) (ret := (some .int)) (by decide) rfl ?_
  intro p e s m args below meth c s₁ B hml0 hv0
  obtain ⟨rfl, hsz, hW, hK, hX⟩ := hv0
  subst hsz
  have C0 : gk_F p s m ([.ref (am 38)] : List Value).toArray meth c cX9_users 1 (some .int) RX9 := ⟨B.exec, B.bytes, hml0, findClass_of_methodNamed B.named, fun w hw => atoms_spec (ws := wsX9_users) B.pre w (List.mem_cons_of_mem _ hw), B.returns, B.notSynchronized⟩
  obtain ⟨hx, hb, hml, hown, hts, hr, hlocks⟩ := id C0
  have hS : va_S (mk_A am s.heap.size) s.heap s.heap [] := va_S.rf
  have hl := lv_entry ([.ref (am 38)]) (n := 1) (Nat.le_of_ble_eq_true rfl)
  rw [lg_entry_eq]
  generalize (lg_sl ([.ref (am 38)]) ++ List.replicate (1 - (lg_sl ([.ref (am 38)])).length) Slot.unset).toArray = ls at hl ⊢
  have hl : lv_has ls 1 [(0, .ref (am 38))] := hl
  show W p l e rmX9_users s m _ below meth c s.heap [] 0 0 _ _
  refine lv_aload_n hx hb dX9_users_0 rfl (lv_at hl 0 rfl) ?_
  refine lv_aload_n hx hb dX9_users_1 rfl (lv_at hl 0 rfl) ?_
  refine gk_get hx hb hts iwX9 hown hK.1 (mk_obj hW) rfl 3 (by decide) (hts _ fl_X9_105) (fun _ h9 => h9) rfl dX9_users_2 ?_
  refine mk_callVi ⟨hx, hb, hml, hown, hts⟩ (c_X9_ok l D cI cZ cG cL am hw) (cwV 1 hts (gk_gV ml_X9_152 im_X9_ok se_X9_ok in_X9 co_X9_ok) rfl rfl rfl (by decide +kernel) ⟨Nat.le_of_ble_eq_true rfl, Nat.le_of_ble_eq_true rfl⟩) (gk_recv hK.1 (mk_obj hW) rfl) hW hK trivial hS rfl hl.1 (rest := []) rfl (lv_room (Nat.le_of_ble_eq_true rfl)) dX9_users_5 ⟨Nat.le_of_ble_eq_true rfl, Nat.le_of_ble_eq_true rfl⟩ (fun r5 σ5 H locs hw hW _ hk hS => ?_)
  refine W.widen (k := 0) (n := 0) (Nat.le_of_ble_eq_true rfl) (Nat.le_of_ble_eq_true rfl) ?_
  exact mk_reti C0 hw hW hS dX9_users_8
def w_X9_roles (σ : gk_C)  (Q : Int32 → gk_C → Prop) : Prop := (w_X9_ok σ (σ.2 7) (fun r5 σ5 => Q r5 σ5))
abbrev rmX9_roles : Room := { frames := 1, cells := 0, slots := 0, locals := 21 }
set_option maxHeartbeats 4000000 in
set_option maxRecDepth 100000 in
theorem c_X9_roles (l : Launch) (D : va_G) (cI cZ cG cL : ClassId) (am : Nat → Nat) {σ : gk_C} {Q : Int32 → gk_C → Prop} {sz : Nat} (hw : w_X9_roles σ  Q) : Met l yX9_roles wsX9_roles rmX9_roles (mk_Pc (mk_V D cI cZ am) D cI cZ cG cL [.ref (am 38)] sz σ (fun _ => True)) (va_Qi (fun r u => Q r u) (mk_B (mk_V D cI cZ am)) (mk_A am sz)) 0 0 (mk_A am sz) := by
  refine Met.ofW (cc := cX9_roles) (maxL := 1) (ret := (some .int)) (by decide) rfl ?_
  intro p e s m args below meth c s₁ B hml0 hv0
  obtain ⟨rfl, hsz, hW, hK, hX⟩ := hv0
  subst hsz
  have C0 : gk_F p s m ([.ref (am 38)] : List Value).toArray meth c cX9_roles 1 (some .int) RX9 := ⟨B.exec, B.bytes, hml0, findClass_of_methodNamed B.named, fun w hw => atoms_spec (ws := wsX9_roles) B.pre w (List.mem_cons_of_mem _ hw), B.returns, B.notSynchronized⟩
  obtain ⟨hx, hb, hml, hown, hts, hr, hlocks⟩ := id C0
  have hS : va_S (mk_A am s.heap.size) s.heap s.heap [] := va_S.rf
  have hl := lv_entry ([.ref (am 38)]) (n := 1) (Nat.le_of_ble_eq_true rfl)
  rw [lg_entry_eq]
  generalize (lg_sl ([.ref (am 38)]) ++ List.replicate (1 - (lg_sl ([.ref (am 38)])).length) Slot.unset).toArray = ls at hl ⊢
  have hl : lv_has ls 1 [(0, .ref (am 38))] := hl
  show W p l e rmX9_roles s m _ below meth c s.heap [] 0 0 _ _
  refine lv_aload_n hx hb dX9_roles_0 rfl (lv_at hl 0 rfl) ?_
  refine lv_aload_n hx hb dX9_roles_1 rfl (lv_at hl 0 rfl) ?_
  refine gk_get hx hb hts iwX9 hown hK.1 (mk_obj hW) rfl 7 (by decide) (hts _ fl_X9_112) (fun _ h9 => h9) rfl dX9_roles_2 ?_
  refine mk_callVi ⟨hx, hb, hml, hown, hts⟩ (c_X9_ok l D cI cZ cG cL am hw) (cwV 1 hts (gk_gV ml_X9_152 im_X9_ok se_X9_ok in_X9 co_X9_ok) rfl rfl rfl (by decide +kernel) ⟨Nat.le_of_ble_eq_true rfl, Nat.le_of_ble_eq_true rfl⟩) (gk_recv hK.1 (mk_obj hW) rfl) hW hK trivial hS rfl hl.1 (rest := []) rfl (lv_room (Nat.le_of_ble_eq_true rfl)) dX9_roles_5 ⟨Nat.le_of_ble_eq_true rfl, Nat.le_of_ble_eq_true rfl⟩ (fun r5 σ5 H locs hw hW _ hk hS => ?_)
  refine W.widen (k := 0) (n := 0) (Nat.le_of_ble_eq_true rfl) (Nat.le_of_ble_eq_true rfl) ?_
  exact mk_reti C0 hw hW hS dX9_roles_8
def w_X9_resources (σ : gk_C)  (Q : Int32 → gk_C → Prop) : Prop := (w_X9_ok σ (σ.2 11) (fun r5 σ5 => Q r5 σ5))
abbrev rmX9_resources : Room := { frames := 1, cells := 0, slots := 0, locals := 21 }
set_option maxHeartbeats 4000000 in
set_option maxRecDepth 100000 in
theorem c_X9_resources (l : Launch) (D : va_G) (cI cZ cG cL : ClassId) (am : Nat → Nat) {σ : gk_C} {Q : Int32 → gk_C → Prop} {sz : Nat} (hw : w_X9_resources σ  Q) : Met l yX9_resources wsX9_resources rmX9_resources (mk_Pc (mk_V D cI cZ am) D cI cZ cG cL [.ref (am 38)] sz σ (fun _ => True)) (va_Qi (fun r u => Q r u) (mk_B (mk_V D cI cZ am)) (mk_A am sz)) 0 0 (mk_A am sz) := by
  refine Met.ofW (cc := cX9_resources) (maxL := 1) (ret := (some .int)) (by decide) rfl ?_
  intro p e s m args below meth c s₁ B hml0 hv0
  obtain ⟨rfl, hsz, hW, hK, hX⟩ := hv0
  subst hsz
  have C0 : gk_F p s m ([.ref (am 38)] : List Value).toArray meth c cX9_resources 1 (some .int) RX9 := ⟨B.exec, B.bytes, hml0, findClass_of_methodNamed B.named, fun w hw => atoms_spec (ws := wsX9_resources) B.pre w (List.mem_cons_of_mem _ hw), B.returns, B.notSynchronized⟩
  obtain ⟨hx, hb, hml, hown, hts, hr, hlocks⟩ := id C0
  have hS : va_S (mk_A am s.heap.size) s.heap s.heap [] := va_S.rf
  have hl := lv_entry ([.ref (am 38)]) (n := 1) (Nat.le_of_ble_eq_true rfl)
  rw [lg_entry_eq]
  generalize (lg_sl ([.ref (am 38)]) ++ List.replicate (1 - (lg_sl ([.ref (am 38)])).length) Slot.unset).toArray = ls at hl ⊢
  have hl : lv_has ls 1 [(0, .ref (am 38))] := hl
  show W p l e rmX9_resources s m _ below meth c s.heap [] 0 0 _ _
  refine lv_aload_n hx hb dX9_resources_0 rfl (lv_at hl 0 rfl) ?_
  refine lv_aload_n hx hb dX9_resources_1 rfl (lv_at hl 0 rfl) ?_
  refine gk_get hx hb hts iwX9 hown hK.1 (mk_obj hW) rfl 11 (by decide) (hts _ fl_X9_25) (fun _ h9 => h9) rfl dX9_resources_2 ?_
  refine mk_callVi ⟨hx, hb, hml, hown, hts⟩ (c_X9_ok l D cI cZ cG cL am hw) (cwV 1 hts (gk_gV ml_X9_152 im_X9_ok se_X9_ok in_X9 co_X9_ok) rfl rfl rfl (by decide +kernel) ⟨Nat.le_of_ble_eq_true rfl, Nat.le_of_ble_eq_true rfl⟩) (gk_recv hK.1 (mk_obj hW) rfl) hW hK trivial hS rfl hl.1 (rest := []) rfl (lv_room (Nat.le_of_ble_eq_true rfl)) dX9_resources_5 ⟨Nat.le_of_ble_eq_true rfl, Nat.le_of_ble_eq_true rfl⟩ (fun r5 σ5 H locs hw hW _ hk hS => ?_)
  refine W.widen (k := 0) (n := 0) (Nat.le_of_ble_eq_true rfl) (Nat.le_of_ble_eq_true rfl) ?_
  exact mk_reti C0 hw hW hS dX9_resources_8
def wL_X9_farNow_5 (σ : gk_C) (Q : Int32 → Prop) : Nat → Int32 → Int32 → Int32 → Prop
  | 0 => fun _ _ _ => False
  | n + 1 => fun x2 x3 x4 => (((x4 = (-1)) → (Q (-1))) ∧ ((¬ x4 = (-1)) → (((¬ x4 = x2) → (vp_in x4 24 ∧ wL_X9_farNow_5 σ Q n x2 (x3 + 1) (σ.1 12 x4.toNatClampNeg))) ∧ ((x4 = x2) → (Q x3)))))
def w_X9_farNow (σ : gk_C) (a0 : Int32) (a1 : Int32) (Q : Int32 → Prop) : Prop := (∃ n5, wL_X9_farNow_5 σ Q n5 a1 0 a0)
abbrev rmX9_farNow : Room := { frames := 0, cells := 0, slots := 0, locals := 0 }
set_option maxHeartbeats 4000000 in
set_option maxRecDepth 100000 in
theorem tL_X9_farNow_5 {p : Program} {l : Launch} {e : Env} {s : State} {m : MethodId} {args : Array Value} {below : List Frame} {meth : Method} {c : Code} {D : va_G} {cI cZ cG cL : ClassId} {am : Nat → Nat} (C0 : gk_F p s m args meth c cX9_farNow 5 (some .int) RX9) (hK : gk_K D cI cZ cG cL s) {σ : gk_C} {Q : Int32 → Prop} : ∀ (n : Nat) (x2 : Int32) (x3 : Int32) (x4 : Int32), wL_X9_farNow_5 σ Q n x2 x3 x4 → ∀ (H : Heap) (locs : List Loc), mk_V D cI cZ am σ H → va_S (mk_A am s.heap.size) s.heap H locs → ∀ (ls : Array Slot), lv_has ls 5 [(0, .ref (am 38)), (2, .int x2), (3, .int x3), (4, .int x4)] → W p l e rmX9_farNow s m args below meth c H locs 0 0 (MQ below (va_Qi (fun r u => u = σ ∧ Q r) (mk_B (mk_V D cI cZ am)) (mk_A am s.heap.size)) args s 0 0 (mk_A am s.heap.size)) (F0 m 5 ls []) := by
  obtain ⟨hx, hb, hml, hown, hts, hr, hlocks⟩ := id C0
  intro n
  induction n with
  | zero => exact fun _ _ _ hw => False.elim hw
  | succ n ih =>
    intro x2 x3 x4 hw H locs hW hS  ls hl
    refine lv_iload hx hb dX9_farNow_5 (lv_at hl 3 rfl) ?_
    refine lv_iconst (v := (-1)) hx hb dX9_farNow_7 (by decide) ?_
    refine lv_icmp_eq (tgt := 34) hx hb dX9_farNow_8 (by decide) (fun c8 => ?_) (fun c8 => ?_)
    · have hw := hw.1 c8
      refine lv_iconst (v := (-1)) hx hb dX9_farNow_34 (by decide) ?_
      refine W.widen (k := 0) (n := 0) (Nat.le_of_ble_eq_true rfl) (Nat.le_of_ble_eq_true rfl) ?_
      exact mk_reti C0 ⟨rfl, hw⟩ hW hS dX9_farNow_35
    · have hw := hw.2 c8
      refine lv_iload hx hb dX9_farNow_11 (lv_at hl 3 rfl) ?_
      refine lv_iload_n hx hb dX9_farNow_13 rfl (lv_at hl 1 rfl) ?_
      refine lv_icmp_ne (tgt := 19) hx hb dX9_farNow_14 (by decide) (fun c14 => ?_) (fun c14 => ?_)
      · have hw := hw.1 c14
        refine lv_iinc (v := (x3 + 1)) (lv' := [(3, .int (x3 + 1)), (0, .ref (am 38)), (2, .int x2), (4, .int x4)]) hx hb dX9_farNow_19 hl (k := 2) rfl rfl (by decide) rfl (fun ls hl => ?_)
        refine lv_aload_n hx hb dX9_farNow_22 rfl (lv_at hl 1 rfl) ?_
        refine gk_get hx hb hts iwX9 hown hK.1 (mk_obj hW) rfl 12 (by decide) (hts _ fl_X9_29) (fun _ h9 => h9) rfl dX9_farNow_23 ?_
        refine lv_iload hx hb dX9_farNow_26 (lv_at hl 3 rfl) ?_
        obtain ⟨hin, hw⟩ := hw
        refine gk_iald hx hb hK.1 0 (mk_arr hW (k := 12) (by decide) (by decide) (by decide)) rfl hin dX9_farNow_28 ?_
        refine lv_istore (lv' := [(4, .int (σ.1 12 x4.toNatClampNeg)), (3, .int (x3 + 1)), (0, .ref (am 38)), (2, .int x2)]) hx hb dX9_farNow_29 hl (by decide) rfl (fun ls hl => ?_)
        refine lv_goto (tgt := 5) hx hb dX9_farNow_31 (by decide) ?_
        exact ih x2 (x3 + 1) (σ.1 12 x4.toNatClampNeg) hw _ _ hW hS  _ (lv_sub hl [2, 3, 1, 0] rfl)
      · have hw := hw.2 c14
        refine lv_iload_n hx hb dX9_farNow_17 rfl (lv_at hl 2 rfl) ?_
        refine W.widen (k := 0) (n := 0) (Nat.le_of_ble_eq_true rfl) (Nat.le_of_ble_eq_true rfl) ?_
        exact mk_reti C0 ⟨rfl, hw⟩ hW hS dX9_farNow_18
set_option maxHeartbeats 4000000 in
set_option maxRecDepth 100000 in
theorem c_X9_farNow (l : Launch) (D : va_G) (cI cZ cG cL : ClassId) (am : Nat → Nat) {σ : gk_C} {a0 : Int32} {a1 : Int32} {Q : Int32 → Prop} {sz : Nat} (hw : w_X9_farNow σ a0 a1 Q) : Met l yX9_farNow wsX9_farNow rmX9_farNow (mk_Pc (mk_V D cI cZ am) D cI cZ cG cL [.ref (am 38), .int a0, .int a1] sz σ (fun _ => True)) (va_Qi (fun r u => u = σ ∧ Q r) (mk_B (mk_V D cI cZ am)) (mk_A am sz)) 0 0 (mk_A am sz) := by
  refine Met.ofW (cc := cX9_farNow) (maxL := 5) (ret := (some .int)) (by decide) rfl ?_
  intro p e s m args below meth c s₁ B hml0 hv0
  obtain ⟨rfl, hsz, hW, hK, hX⟩ := hv0
  subst hsz
  have C0 : gk_F p s m ([.ref (am 38), .int a0, .int a1] : List Value).toArray meth c cX9_farNow 5 (some .int) RX9 := ⟨B.exec, B.bytes, hml0, findClass_of_methodNamed B.named, fun w hw => atoms_spec (ws := wsX9_farNow) B.pre w (List.mem_cons_of_mem _ hw), B.returns, B.notSynchronized⟩
  obtain ⟨hx, hb, hml, hown, hts, hr, hlocks⟩ := id C0
  have hS : va_S (mk_A am s.heap.size) s.heap s.heap [] := va_S.rf
  have hl := lv_entry ([.ref (am 38), .int a0, .int a1]) (n := 5) (Nat.le_of_ble_eq_true rfl)
  rw [lg_entry_eq]
  generalize (lg_sl ([.ref (am 38), .int a0, .int a1]) ++ List.replicate (5 - (lg_sl ([.ref (am 38), .int a0, .int a1])).length) Slot.unset).toArray = ls at hl ⊢
  have hl : lv_has ls 5 [(0, .ref (am 38)), (1, .int a0), (2, .int a1)] := hl
  show W p l e rmX9_farNow s m _ below meth c s.heap [] 0 0 _ _
  refine lv_iconst (v := 0) hx hb dX9_farNow_0 (by decide) ?_
  refine lv_istore_n (lv' := [(3, .int 0), (0, .ref (am 38)), (1, .int a0), (2, .int a1)]) hx hb dX9_farNow_1 rfl hl (by decide) rfl (fun ls hl => ?_)
  refine lv_iload_n hx hb dX9_farNow_2 rfl (lv_at hl 2 rfl) ?_
  refine lv_istore (lv' := [(4, .int a0), (3, .int 0), (0, .ref (am 38)), (1, .int a0), (2, .int a1)]) hx hb dX9_farNow_3 hl (by decide) rfl (fun ls hl => ?_)
  obtain ⟨n5, hw⟩ := hw
  refine tL_X9_farNow_5 C0 hK  n5 a1 0 a0 hw _ _ hW hS  _ (lv_sub hl [2, 4, 1, 0] rfl)

abbrev rmX9_farNowW : Room := { frames := 0, cells := 0, slots := 0, locals := 0 }
set_option maxHeartbeats 4000000 in
set_option maxRecDepth 100000 in
theorem tL_X9_farNow_5W {p : Program} {l : Launch} {e : Env} {s : State} {m : MethodId} {args : Array Value} {below : List Frame} {meth : Method} {c : Code} {D : va_G} {cI cZ cG cL : ClassId} {am : Nat → Nat} (C0 : gk_F p s m args meth c cX9_farNow 5 (some .int) RX9) (hK : gk_K D cI cZ cG cL s) {σ : gk_C} {Q : Int32 → Prop} : ∀ (n : Nat) (x2 : Int32) (x3 : Int32) (x4 : Int32), wL_X9_farNow_5 σ Q n x2 x3 x4 → ∀ (H : Heap) (locs : List Loc), mk_W D cI cZ am σ H → va_S (mk_A am s.heap.size) s.heap H locs → ∀ (ls : Array Slot), lv_has ls 5 [(0, .ref (am 38)), (2, .int x2), (3, .int x3), (4, .int x4)] → W p l e rmX9_farNowW s m args below meth c H locs 0 0 (MQ below (va_Qi (fun r u => u = σ ∧ Q r) (mk_B (mk_W D cI cZ am)) (mk_A am s.heap.size)) args s 0 0 (mk_A am s.heap.size)) (F0 m 5 ls []) := by
  obtain ⟨hx, hb, hml, hown, hts, hr, hlocks⟩ := id C0
  intro n
  induction n with
  | zero => exact fun _ _ _ hw => False.elim hw
  | succ n ih =>
    intro x2 x3 x4 hw H locs hW hS  ls hl
    refine lv_iload hx hb dX9_farNow_5 (lv_at hl 3 rfl) ?_
    refine lv_iconst (v := (-1)) hx hb dX9_farNow_7 (by decide) ?_
    refine lv_icmp_eq (tgt := 34) hx hb dX9_farNow_8 (by decide) (fun c8 => ?_) (fun c8 => ?_)
    · have hw := hw.1 c8
      refine lv_iconst (v := (-1)) hx hb dX9_farNow_34 (by decide) ?_
      refine W.widen (k := 0) (n := 0) (Nat.le_of_ble_eq_true rfl) (Nat.le_of_ble_eq_true rfl) ?_
      exact mk_reti C0 ⟨rfl, hw⟩ hW hS dX9_farNow_35
    · have hw := hw.2 c8
      refine lv_iload hx hb dX9_farNow_11 (lv_at hl 3 rfl) ?_
      refine lv_iload_n hx hb dX9_farNow_13 rfl (lv_at hl 1 rfl) ?_
      refine lv_icmp_ne (tgt := 19) hx hb dX9_farNow_14 (by decide) (fun c14 => ?_) (fun c14 => ?_)
      · have hw := hw.1 c14
        refine lv_iinc (v := (x3 + 1)) (lv' := [(3, .int (x3 + 1)), (0, .ref (am 38)), (2, .int x2), (4, .int x4)]) hx hb dX9_farNow_19 hl (k := 2) rfl rfl (by decide) rfl (fun ls hl => ?_)
        refine lv_aload_n hx hb dX9_farNow_22 rfl (lv_at hl 1 rfl) ?_
        refine gk_get hx hb hts iwX9 hown hK.1 (mk_objW hW) rfl 12 (by decide) (hts _ fl_X9_29) (fun _ h9 => h9) rfl dX9_farNow_23 ?_
        refine lv_iload hx hb dX9_farNow_26 (lv_at hl 3 rfl) ?_
        obtain ⟨hin, hw⟩ := hw
        refine gk_iald hx hb hK.1 0 (mk_arrW hW (k := 12) (by decide)) rfl hin dX9_farNow_28 ?_
        refine lv_istore (lv' := [(4, .int (σ.1 12 x4.toNatClampNeg)), (3, .int (x3 + 1)), (0, .ref (am 38)), (2, .int x2)]) hx hb dX9_farNow_29 hl (by decide) rfl (fun ls hl => ?_)
        refine lv_goto (tgt := 5) hx hb dX9_farNow_31 (by decide) ?_
        exact ih x2 (x3 + 1) (σ.1 12 x4.toNatClampNeg) hw _ _ hW hS  _ (lv_sub hl [2, 3, 1, 0] rfl)
      · have hw := hw.2 c14
        refine lv_iload_n hx hb dX9_farNow_17 rfl (lv_at hl 2 rfl) ?_
        refine W.widen (k := 0) (n := 0) (Nat.le_of_ble_eq_true rfl) (Nat.le_of_ble_eq_true rfl) ?_
        exact mk_reti C0 ⟨rfl, hw⟩ hW hS dX9_farNow_18
set_option maxHeartbeats 4000000 in
set_option maxRecDepth 100000 in
theorem c_X9_farNowW (l : Launch) (D : va_G) (cI cZ cG cL : ClassId) (am : Nat → Nat) {σ : gk_C} {a0 : Int32} {a1 : Int32} {Q : Int32 → Prop} {sz : Nat} (hw : w_X9_farNow σ a0 a1 Q) : Met l yX9_farNow wsX9_farNow rmX9_farNowW (mk_Pc (mk_W D cI cZ am) D cI cZ cG cL [.ref (am 38), .int a0, .int a1] sz σ (fun _ => True)) (va_Qi (fun r u => u = σ ∧ Q r) (mk_B (mk_W D cI cZ am)) (mk_A am sz)) 0 0 (mk_A am sz) := by
  refine Met.ofW (cc := cX9_farNow) (maxL := 5) (ret := (some .int)) (by decide) rfl ?_
  intro p e s m args below meth c s₁ B hml0 hv0
  obtain ⟨rfl, hsz, hW, hK, hX⟩ := hv0
  subst hsz
  have C0 : gk_F p s m ([.ref (am 38), .int a0, .int a1] : List Value).toArray meth c cX9_farNow 5 (some .int) RX9 := ⟨B.exec, B.bytes, hml0, findClass_of_methodNamed B.named, fun w hw => atoms_spec (ws := wsX9_farNow) B.pre w (List.mem_cons_of_mem _ hw), B.returns, B.notSynchronized⟩
  obtain ⟨hx, hb, hml, hown, hts, hr, hlocks⟩ := id C0
  have hS : va_S (mk_A am s.heap.size) s.heap s.heap [] := va_S.rf
  have hl := lv_entry ([.ref (am 38), .int a0, .int a1]) (n := 5) (Nat.le_of_ble_eq_true rfl)
  rw [lg_entry_eq]
  generalize (lg_sl ([.ref (am 38), .int a0, .int a1]) ++ List.replicate (5 - (lg_sl ([.ref (am 38), .int a0, .int a1])).length) Slot.unset).toArray = ls at hl ⊢
  have hl : lv_has ls 5 [(0, .ref (am 38)), (1, .int a0), (2, .int a1)] := hl
  show W p l e rmX9_farNowW s m _ below meth c s.heap [] 0 0 _ _
  refine lv_iconst (v := 0) hx hb dX9_farNow_0 (by decide) ?_
  refine lv_istore_n (lv' := [(3, .int 0), (0, .ref (am 38)), (1, .int a0), (2, .int a1)]) hx hb dX9_farNow_1 rfl hl (by decide) rfl (fun ls hl => ?_)
  refine lv_iload_n hx hb dX9_farNow_2 rfl (lv_at hl 2 rfl) ?_
  refine lv_istore (lv' := [(4, .int a0), (3, .int 0), (0, .ref (am 38)), (1, .int a0), (2, .int a1)]) hx hb dX9_farNow_3 hl (by decide) rfl (fun ls hl => ?_)
  obtain ⟨n5, hw⟩ := hw
  refine tL_X9_farNow_5W C0 hK  n5 a1 0 a0 hw _ _ hW hS  _ (lv_sub hl [2, 4, 1, 0] rfl)
