/-! laid by wip/whole/model1.py: wp predicates and walks -/
def w_X9_isIn (a0 : Int32) (a1 : Int32) (a2 : Int32) (Q : Int32 → Prop) : Prop := (((a0 < a1) → (Q 0)) ∧ ((¬ a0 < a1) → (((a2 < a0) → (Q 0)) ∧ ((¬ a2 < a0) → (Q 1)))))
abbrev rmX9_isIn : Room := { frames := 0, cells := 0, slots := 0, locals := 0 }
set_option maxHeartbeats 4000000 in
set_option maxRecDepth 100000 in
theorem c_X9_isIn (l : Launch) {a0 : Int32} {a1 : Int32} {a2 : Int32} {Q : Int32 → Prop} (hw : w_X9_isIn a0 a1 a2 Q) : Met l yX9_isIn wsX9_isIn rmX9_isIn (gk_Pn [.int a0, .int a1, .int a2]) (va_Qi (fun r _ => Q r) gk_Bn gk_An) 0 0 gk_An := by
  refine Met.ofW (cc := cX9_isIn) (maxL := 3) (ret := (some .boolean)) (by decide) rfl ?_
  intro p e s m args below meth c s₁ B hml0 hv0
  obtain ⟨rfl, _⟩ := hv0
  have C0 : gk_F p s m ([.int a0, .int a1, .int a2] : List Value).toArray meth c cX9_isIn 3 (some .boolean) RX9 := ⟨B.exec, B.bytes, hml0, findClass_of_methodNamed B.named, fun w hw => atoms_spec (ws := wsX9_isIn) B.pre w (List.mem_cons_of_mem _ hw), B.returns, B.notSynchronized⟩
  obtain ⟨hx, hb, hml, hown, hts, hr, hlocks⟩ := id C0
  have hS : va_S gk_An s.heap s.heap [] := va_S.rf
  have hl := lv_entry ([.int a0, .int a1, .int a2]) (n := 3) (Nat.le_of_ble_eq_true rfl)
  rw [lg_entry_eq]
  generalize (lg_sl ([.int a0, .int a1, .int a2]) ++ List.replicate (3 - (lg_sl ([.int a0, .int a1, .int a2])).length) Slot.unset).toArray = ls at hl ⊢
  have hl : lv_has ls 3 [(0, .int a0), (1, .int a1), (2, .int a2)] := hl
  show W p l e rmX9_isIn s m _ below meth c s.heap [] 0 0 _ _
  refine lv_iload_n hx hb dX9_isIn_0 rfl (lv_at hl 0 rfl) ?_
  refine lv_iload_n hx hb dX9_isIn_1 rfl (lv_at hl 1 rfl) ?_
  refine lv_icmp_lt (tgt := 14) hx hb dX9_isIn_2 (by decide) (fun c2 => ?_) (fun c2 => ?_)
  · have hw := hw.1 c2
    refine lv_iconst (v := 0) hx hb dX9_isIn_14 (by decide) ?_
    exact gk_retnz C0 (by decide) hw hS (fun _ h => h) dX9_isIn_15
  · have hw := hw.2 c2
    refine lv_iload_n hx hb dX9_isIn_5 rfl (lv_at hl 0 rfl) ?_
    refine lv_iload_n hx hb dX9_isIn_6 rfl (lv_at hl 2 rfl) ?_
    refine lv_icmp_gt (tgt := 14) hx hb dX9_isIn_7 (by decide) (fun c7 => ?_) (fun c7 => ?_)
    · have hw := hw.1 c7
      refine lv_iconst (v := 0) hx hb dX9_isIn_14 (by decide) ?_
      exact gk_retnz C0 (by decide) hw hS (fun _ h => h) dX9_isIn_15
    · have hw := hw.2 c7
      refine lv_iconst (v := 1) hx hb dX9_isIn_10 (by decide) ?_
      refine lv_goto (tgt := 15) hx hb dX9_isIn_11 (by decide) ?_
      exact gk_retnz C0 (by decide) hw hS (fun _ h => h) dX9_isIn_15
def w_X9_isAction (a0 : Int32) (Q : Int32 → Prop) : Prop := (w_X9_isIn a0 0 4 (fun r3 => gk_z r3 ∧ Q r3))
abbrev rmX9_isAction : Room := { frames := 1, cells := 0, slots := 0, locals := 22 }
set_option maxHeartbeats 4000000 in
set_option maxRecDepth 100000 in
theorem c_X9_isAction (l : Launch) {a0 : Int32} {Q : Int32 → Prop} (hw : w_X9_isAction a0 Q) : Met l yX9_isAction wsX9_isAction rmX9_isAction (gk_Pn [.int a0]) (va_Qi (fun r _ => Q r) gk_Bn gk_An) 0 0 gk_An := by
  refine Met.ofW (cc := cX9_isAction) (maxL := 1) (ret := (some .boolean)) (by decide) rfl ?_
  intro p e s m args below meth c s₁ B hml0 hv0
  obtain ⟨rfl, _⟩ := hv0
  have C0 : gk_F p s m ([.int a0] : List Value).toArray meth c cX9_isAction 1 (some .boolean) RX9 := ⟨B.exec, B.bytes, hml0, findClass_of_methodNamed B.named, fun w hw => atoms_spec (ws := wsX9_isAction) B.pre w (List.mem_cons_of_mem _ hw), B.returns, B.notSynchronized⟩
  obtain ⟨hx, hb, hml, hown, hts, hr, hlocks⟩ := id C0
  have hS : va_S gk_An s.heap s.heap [] := va_S.rf
  have hl := lv_entry ([.int a0]) (n := 1) (Nat.le_of_ble_eq_true rfl)
  rw [lg_entry_eq]
  generalize (lg_sl ([.int a0]) ++ List.replicate (1 - (lg_sl ([.int a0])).length) Slot.unset).toArray = ls at hl ⊢
  have hl : lv_has ls 1 [(0, .int a0)] := hl
  show W p l e rmX9_isAction s m _ below meth c s.heap [] 0 0 _ _
  refine lv_iload_n hx hb dX9_isAction_0 rfl (lv_at hl 0 rfl) ?_
  refine lv_iconst (v := 0) hx hb dX9_isAction_1 (by decide) ?_
  refine lv_iconst (v := 4) hx hb dX9_isAction_2 (by decide) ?_
  refine gk_callSi ⟨hx, hb, hml, hown, hts⟩ (c_X9_isIn l hw) (va_cwS 3 hts (gk_gS ml_X9_108 st_X9_isIn in_X9 co_X9_isIn) rfl rfl rfl (by decide +kernel) ⟨Nat.le_of_ble_eq_true rfl, Nat.le_of_ble_eq_true rfl⟩) hS rfl hl.1 (rest := []) rfl (lv_room (Nat.le_of_ble_eq_true rfl)) dX9_isAction_3 ⟨Nat.zero_le _, Nat.zero_le _⟩ (fun r3 H locs hw _ hk hS => ?_)
  obtain ⟨hz, hw⟩ := hw
  exact gk_retnz C0 hz hw hS (fun _ h => h) dX9_isAction_6
def w_X9_orNone (a0 : Int32) (Q : Int32 → Prop) : Prop := (((¬ a0 = 99) → (Q a0)) ∧ ((a0 = 99) → (Q (-1))))
abbrev rmX9_orNone : Room := { frames := 0, cells := 0, slots := 0, locals := 0 }
set_option maxHeartbeats 4000000 in
set_option maxRecDepth 100000 in
theorem c_X9_orNone (l : Launch) {a0 : Int32} {Q : Int32 → Prop} (hw : w_X9_orNone a0 Q) : Met l yX9_orNone wsX9_orNone rmX9_orNone (gk_Pn [.int a0]) (va_Qi (fun r _ => Q r) gk_Bn gk_An) 0 0 gk_An := by
  refine Met.ofW (cc := cX9_orNone) (maxL := 1) (ret := (some .int)) (by decide) rfl ?_
  intro p e s m args below meth c s₁ B hml0 hv0
  obtain ⟨rfl, _⟩ := hv0
  have C0 : gk_F p s m ([.int a0] : List Value).toArray meth c cX9_orNone 1 (some .int) RX9 := ⟨B.exec, B.bytes, hml0, findClass_of_methodNamed B.named, fun w hw => atoms_spec (ws := wsX9_orNone) B.pre w (List.mem_cons_of_mem _ hw), B.returns, B.notSynchronized⟩
  obtain ⟨hx, hb, hml, hown, hts, hr, hlocks⟩ := id C0
  have hS : va_S gk_An s.heap s.heap [] := va_S.rf
  have hl := lv_entry ([.int a0]) (n := 1) (Nat.le_of_ble_eq_true rfl)
  rw [lg_entry_eq]
  generalize (lg_sl ([.int a0]) ++ List.replicate (1 - (lg_sl ([.int a0])).length) Slot.unset).toArray = ls at hl ⊢
  have hl : lv_has ls 1 [(0, .int a0)] := hl
  show W p l e rmX9_orNone s m _ below meth c s.heap [] 0 0 _ _
  refine lv_iload_n hx hb dX9_orNone_0 rfl (lv_at hl 0 rfl) ?_
  refine lv_bipush (v := 99) hx hb dX9_orNone_1 (by decide) ?_
  refine lv_icmp_ne (tgt := 10) hx hb dX9_orNone_3 (by decide) (fun c3 => ?_) (fun c3 => ?_)
  · have hw := hw.1 c3
    refine lv_iload_n hx hb dX9_orNone_10 rfl (lv_at hl 0 rfl) ?_
    exact gk_retn C0 hw hS (fun _ h => h) dX9_orNone_11
  · have hw := hw.2 c3
    refine lv_iconst (v := (-1)) hx hb dX9_orNone_6 (by decide) ?_
    refine lv_goto (tgt := 11) hx hb dX9_orNone_7 (by decide) ?_
    exact gk_retn C0 hw hS (fun _ h => h) dX9_orNone_11
def w_X9_isAllowed (a0 : Int32) (Q : Int32 → Prop) : Prop := (((a0 = 1) → (Q 1)) ∧ ((¬ a0 = 1) → (((¬ a0 = 3) → (Q 0)) ∧ ((a0 = 3) → (Q 1)))))
abbrev rmX9_isAllowed : Room := { frames := 0, cells := 0, slots := 0, locals := 0 }
set_option maxHeartbeats 4000000 in
set_option maxRecDepth 100000 in
theorem c_X9_isAllowed (l : Launch) {a0 : Int32} {Q : Int32 → Prop} (hw : w_X9_isAllowed a0 Q) : Met l yX9_isAllowed wsX9_isAllowed rmX9_isAllowed (gk_Pn [.int a0]) (va_Qi (fun r _ => Q r) gk_Bn gk_An) 0 0 gk_An := by
  refine Met.ofW (cc := cX9_isAllowed) (maxL := 1) (ret := (some .boolean)) (by decide) rfl ?_
  intro p e s m args below meth c s₁ B hml0 hv0
  obtain ⟨rfl, _⟩ := hv0
  have C0 : gk_F p s m ([.int a0] : List Value).toArray meth c cX9_isAllowed 1 (some .boolean) RX9 := ⟨B.exec, B.bytes, hml0, findClass_of_methodNamed B.named, fun w hw => atoms_spec (ws := wsX9_isAllowed) B.pre w (List.mem_cons_of_mem _ hw), B.returns, B.notSynchronized⟩
  obtain ⟨hx, hb, hml, hown, hts, hr, hlocks⟩ := id C0
  have hS : va_S gk_An s.heap s.heap [] := va_S.rf
  have hl := lv_entry ([.int a0]) (n := 1) (Nat.le_of_ble_eq_true rfl)
  rw [lg_entry_eq]
  generalize (lg_sl ([.int a0]) ++ List.replicate (1 - (lg_sl ([.int a0])).length) Slot.unset).toArray = ls at hl ⊢
  have hl : lv_has ls 1 [(0, .int a0)] := hl
  show W p l e rmX9_isAllowed s m _ below meth c s.heap [] 0 0 _ _
  refine lv_iload_n hx hb dX9_isAllowed_0 rfl (lv_at hl 0 rfl) ?_
  refine lv_iconst (v := 1) hx hb dX9_isAllowed_1 (by decide) ?_
  refine lv_icmp_eq (tgt := 10) hx hb dX9_isAllowed_2 (by decide) (fun c2 => ?_) (fun c2 => ?_)
  · have hw := hw.1 c2
    refine lv_iconst (v := 1) hx hb dX9_isAllowed_10 (by decide) ?_
    refine lv_goto (tgt := 15) hx hb dX9_isAllowed_11 (by decide) ?_
    exact gk_retnz C0 (by decide) hw hS (fun _ h => h) dX9_isAllowed_15
  · have hw := hw.2 c2
    refine lv_iload_n hx hb dX9_isAllowed_5 rfl (lv_at hl 0 rfl) ?_
    refine lv_iconst (v := 3) hx hb dX9_isAllowed_6 (by decide) ?_
    refine lv_icmp_ne (tgt := 14) hx hb dX9_isAllowed_7 (by decide) (fun c7 => ?_) (fun c7 => ?_)
    · have hw := hw.1 c7
      refine lv_iconst (v := 0) hx hb dX9_isAllowed_14 (by decide) ?_
      exact gk_retnz C0 (by decide) hw hS (fun _ h => h) dX9_isAllowed_15
    · have hw := hw.2 c7
      refine lv_iconst (v := 1) hx hb dX9_isAllowed_10 (by decide) ?_
      refine lv_goto (tgt := 15) hx hb dX9_isAllowed_11 (by decide) ?_
      exact gk_retnz C0 (by decide) hw hS (fun _ h => h) dX9_isAllowed_15
def wL_X9_many_4 (Q : Int32 → Prop) : Nat → Int32 → Int32 → Int32 → Prop
  | 0 => fun _ _ _ => False
  | n + 1 => fun x0 x1 x2 => (((12 ≤ x2) → (Q x1)) ∧ ((¬ 12 ≤ x2) → (wL_X9_many_4 Q n x0 (x1 + ((x0 >>> (x2 &&& 31)) &&& 1)) (x2 + 1))))
def w_X9_many (a0 : Int32) (Q : Int32 → Prop) : Prop := (∃ n4, wL_X9_many_4 Q n4 a0 0 0)
abbrev rmX9_many : Room := { frames := 0, cells := 0, slots := 0, locals := 0 }
set_option maxHeartbeats 4000000 in
set_option maxRecDepth 100000 in
theorem tL_X9_many_4 {p : Program} {l : Launch} {e : Env} {s : State} {m : MethodId} {args : Array Value} {below : List Frame} {meth : Method} {c : Code} {D : va_G} {cI cZ cG cL : ClassId} {ad : Nat → Nat} (C0 : gk_F p s m args meth c cX9_many 3 (some .int) RX9) (hK : gk_K D cI cZ cG cL s) {Q : Int32 → Prop} : ∀ (n : Nat) (x0 : Int32) (x1 : Int32) (x2 : Int32), wL_X9_many_4 Q n x0 x1 x2 → ∀ (H : Heap) (locs : List Loc), va_S gk_An s.heap H locs → ∀ (ls : Array Slot), lv_has ls 3 [(0, .int x0), (1, .int x1), (2, .int x2)] → W p l e rmX9_many s m args below meth c H locs 0 0 (MQ below (va_Qi (fun r _ => Q r) gk_Bn gk_An) args s 0 0 gk_An) (F0 m 4 ls []) := by
  obtain ⟨hx, hb, hml, hown, hts, hr, hlocks⟩ := id C0
  intro n
  induction n with
  | zero => exact fun _ _ _ hw => False.elim hw
  | succ n ih =>
    intro x0 x1 x2 hw H locs hS ls hl
    refine lv_iload_n hx hb dX9_many_4 rfl (lv_at hl 2 rfl) ?_
    refine lv_bipush (v := 12) hx hb dX9_many_5 (by decide) ?_
    refine lv_icmp_ge (tgt := 24) hx hb dX9_many_7 (by decide) (fun c7 => ?_) (fun c7 => ?_)
    · have hw := hw.1 c7
      refine lv_iload_n hx hb dX9_many_24 rfl (lv_at hl 1 rfl) ?_
      exact gk_retn C0 hw hS (fun _ h => h) dX9_many_25
    · have hw := hw.2 c7
      refine lv_iload_n hx hb dX9_many_10 rfl (lv_at hl 1 rfl) ?_
      refine lv_iload_n hx hb dX9_many_11 rfl (lv_at hl 0 rfl) ?_
      refine lv_iload_n hx hb dX9_many_12 rfl (lv_at hl 2 rfl) ?_
      refine lv_ishr hx hb dX9_many_13 ?_
      refine lv_iconst (v := 1) hx hb dX9_many_14 (by decide) ?_
      refine lv_iand hx hb dX9_many_15 ?_
      refine lv_iadd hx hb dX9_many_16 ?_
      refine lv_istore_n (lv' := [(1, .int (x1 + ((x0 >>> (x2 &&& 31)) &&& 1))), (0, .int x0), (2, .int x2)]) hx hb dX9_many_17 rfl hl (by decide) rfl (fun ls hl => ?_)
      refine lv_iinc (v := (x2 + 1)) (lv' := [(2, .int (x2 + 1)), (1, .int (x1 + ((x0 >>> (x2 &&& 31)) &&& 1))), (0, .int x0)]) hx hb dX9_many_18 hl (k := 2) rfl rfl (by decide) rfl (fun ls hl => ?_)
      refine lv_goto (tgt := 4) hx hb dX9_many_21 (by decide) ?_
      exact ih x0 (x1 + ((x0 >>> (x2 &&& 31)) &&& 1)) (x2 + 1) hw _ _ hS _ (lv_sub hl [2, 1, 0] rfl)
set_option maxHeartbeats 4000000 in
set_option maxRecDepth 100000 in
theorem c_X9_many (l : Launch) {a0 : Int32} {Q : Int32 → Prop} (hw : w_X9_many a0 Q) : Met l yX9_many wsX9_many rmX9_many (gk_Pn [.int a0]) (va_Qi (fun r _ => Q r) gk_Bn gk_An) 0 0 gk_An := by
  refine Met.ofW (cc := cX9_many) (maxL := 3) (ret := (some .int)) (by decide) rfl ?_
  intro p e s m args below meth c s₁ B hml0 hv0
  obtain ⟨rfl, _⟩ := hv0
  have C0 : gk_F p s m ([.int a0] : List Value).toArray meth c cX9_many 3 (some .int) RX9 := ⟨B.exec, B.bytes, hml0, findClass_of_methodNamed B.named, fun w hw => atoms_spec (ws := wsX9_many) B.pre w (List.mem_cons_of_mem _ hw), B.returns, B.notSynchronized⟩
  obtain ⟨hx, hb, hml, hown, hts, hr, hlocks⟩ := id C0
  have hS : va_S gk_An s.heap s.heap [] := va_S.rf
  have hl := lv_entry ([.int a0]) (n := 3) (Nat.le_of_ble_eq_true rfl)
  rw [lg_entry_eq]
  generalize (lg_sl ([.int a0]) ++ List.replicate (3 - (lg_sl ([.int a0])).length) Slot.unset).toArray = ls at hl ⊢
  have hl : lv_has ls 3 [(0, .int a0)] := hl
  show W p l e rmX9_many s m _ below meth c s.heap [] 0 0 _ _
  refine lv_iconst (v := 0) hx hb dX9_many_0 (by decide) ?_
  refine lv_istore_n (lv' := [(1, .int 0), (0, .int a0)]) hx hb dX9_many_1 rfl hl (by decide) rfl (fun ls hl => ?_)
  refine lv_iconst (v := 0) hx hb dX9_many_2 (by decide) ?_
  refine lv_istore_n (lv' := [(2, .int 0), (1, .int 0), (0, .int a0)]) hx hb dX9_many_3 rfl hl (by decide) rfl (fun ls hl => ?_)
  obtain ⟨n4, hw⟩ := hw
  refine tL_X9_many_4 C0 hK  n4 a0 0 0 hw _ _ hS _ (lv_sub hl [2, 1, 0] rfl)
def w_X9_thrown (σ : gk_C)  (Q : Int32 → Prop) : Prop := (Q (σ.2 0))
abbrev rmX9_thrown : Room := { frames := 0, cells := 0, slots := 0, locals := 0 }
set_option maxHeartbeats 4000000 in
set_option maxRecDepth 100000 in
theorem c_X9_thrown (l : Launch) (D : va_G) (cI cZ cG cL : ClassId) (am : Nat → Nat) {σ : gk_C} {Q : Int32 → Prop} {sz : Nat} (hw : w_X9_thrown σ  Q) : Met l yX9_thrown wsX9_thrown rmX9_thrown (mk_Pc (mk_V D cI cZ am) D cI cZ cG cL [.ref (am 38)] sz σ (fun _ => True)) (va_Qi (fun r u => u = σ ∧ Q r) (mk_B (mk_V D cI cZ am)) (mk_A am sz)) 0 0 (mk_A am sz) := by
  refine Met.ofW (cc := cX9_thrown) (maxL := 1) (ret := (some .int)) (by decide) rfl ?_
  intro p e s m args below meth c s₁ B hml0 hv0
  obtain ⟨rfl, hsz, hW, hK, hX⟩ := hv0
  subst hsz
  have C0 : gk_F p s m ([.ref (am 38)] : List Value).toArray meth c cX9_thrown 1 (some .int) RX9 := ⟨B.exec, B.bytes, hml0, findClass_of_methodNamed B.named, fun w hw => atoms_spec (ws := wsX9_thrown) B.pre w (List.mem_cons_of_mem _ hw), B.returns, B.notSynchronized⟩
  obtain ⟨hx, hb, hml, hown, hts, hr, hlocks⟩ := id C0
  have hS : va_S (mk_A am s.heap.size) s.heap s.heap [] := va_S.rf
  have hl := lv_entry ([.ref (am 38)]) (n := 1) (Nat.le_of_ble_eq_true rfl)
  rw [lg_entry_eq]
  generalize (lg_sl ([.ref (am 38)]) ++ List.replicate (1 - (lg_sl ([.ref (am 38)])).length) Slot.unset).toArray = ls at hl ⊢
  have hl : lv_has ls 1 [(0, .ref (am 38))] := hl
  show W p l e rmX9_thrown s m _ below meth c s.heap [] 0 0 _ _
  refine lv_aload_n hx hb dX9_thrown_0 rfl (lv_at hl 0 rfl) ?_
  refine gk_get hx hb hts iwX9 hown hK.1 (mk_obj hW) rfl 0 (by decide) (hts _ fl_X9_102) (fun _ h9 => h9) rfl dX9_thrown_1 ?_
  refine W.widen (k := 0) (n := 0) (Nat.le_of_ble_eq_true rfl) (Nat.le_of_ble_eq_true rfl) ?_
  exact mk_reti C0 ⟨rfl, hw⟩ hW hS dX9_thrown_4
def w_X9_no (σ : gk_C) (a0 : Int32) (Q : Int32 → gk_C → Prop) : Prop := (Q 0 (gk_s σ 0 a0))
abbrev rmX9_no : Room := { frames := 0, cells := 0, slots := 0, locals := 0 }
set_option maxHeartbeats 4000000 in
set_option maxRecDepth 100000 in
theorem c_X9_no (l : Launch) (D : va_G) (cI cZ cG cL : ClassId) (am : Nat → Nat) {σ : gk_C} {a0 : Int32} {Q : Int32 → gk_C → Prop} {sz : Nat} (hw : w_X9_no σ a0 Q) : Met l yX9_no wsX9_no rmX9_no (mk_Pc (mk_V D cI cZ am) D cI cZ cG cL [.ref (am 38), .int a0] sz σ (fun _ => True)) (va_Qi (fun r u => Q r u) (mk_B (mk_V D cI cZ am)) (mk_A am sz)) 0 0 (mk_A am sz) := by
  refine Met.ofW (cc := cX9_no) (maxL := 2) (ret := (some .int)) (by decide) rfl ?_
  intro p e s m args below meth c s₁ B hml0 hv0
  obtain ⟨rfl, hsz, hW, hK, hX⟩ := hv0
  subst hsz
  have C0 : gk_F p s m ([.ref (am 38), .int a0] : List Value).toArray meth c cX9_no 2 (some .int) RX9 := ⟨B.exec, B.bytes, hml0, findClass_of_methodNamed B.named, fun w hw => atoms_spec (ws := wsX9_no) B.pre w (List.mem_cons_of_mem _ hw), B.returns, B.notSynchronized⟩
  obtain ⟨hx, hb, hml, hown, hts, hr, hlocks⟩ := id C0
  have hS : va_S (mk_A am s.heap.size) s.heap s.heap [] := va_S.rf
  have hl := lv_entry ([.ref (am 38), .int a0]) (n := 2) (Nat.le_of_ble_eq_true rfl)
  rw [lg_entry_eq]
  generalize (lg_sl ([.ref (am 38), .int a0]) ++ List.replicate (2 - (lg_sl ([.ref (am 38), .int a0])).length) Slot.unset).toArray = ls at hl ⊢
  have hl : lv_has ls 2 [(0, .ref (am 38)), (1, .int a0)] := hl
  show W p l e rmX9_no s m _ below meth c s.heap [] 0 0 _ _
  refine lv_aload_n hx hb dX9_no_0 rfl (lv_at hl 0 rfl) ?_
  refine lv_iload_n hx hb dX9_no_1 rfl (lv_at hl 1 rfl) ?_
  refine gk_putf (ty := .int) (v := .int a0) hx hb hts iwX9 tyX9 tyX9_ok nmX9 hown hK.1 hS (mk_A.in List.mem_cons_self) (mk_obj hW) rfl 0 (by decide) (hts _ fl_X9_102) (fun _ h9 => h9) rfl (by decide +kernel) rfl rfl (Nat.le_of_ble_eq_true rfl) dX9_no_2 (fun H locs h1 _ oq hS => ?_)
  have hW := hW.setS (i := 0) (v := a0) h1 oq
  refine lv_iconst (v := 0) hx hb dX9_no_5 (by decide) ?_
  refine W.widen (k := 0) (n := 0) (Nat.le_of_ble_eq_true rfl) (Nat.le_of_ble_eq_true rfl) ?_
  exact mk_reti C0 hw hW hS dX9_no_6
def w_X9_isNot (σ : gk_C) (a0 : Int32) (Q : Int32 → gk_C → Prop) : Prop := (Q 0 (gk_s σ 0 a0))
abbrev rmX9_isNot : Room := { frames := 0, cells := 0, slots := 0, locals := 0 }
set_option maxHeartbeats 4000000 in
set_option maxRecDepth 100000 in
theorem c_X9_isNot (l : Launch) (D : va_G) (cI cZ cG cL : ClassId) (am : Nat → Nat) {σ : gk_C} {a0 : Int32} {Q : Int32 → gk_C → Prop} {sz : Nat} (hw : w_X9_isNot σ a0 Q) : Met l yX9_isNot wsX9_isNot rmX9_isNot (mk_Pc (mk_V D cI cZ am) D cI cZ cG cL [.ref (am 38), .int a0] sz σ (fun _ => True)) (va_Qi (fun r u => Q r u) (mk_B (mk_V D cI cZ am)) (mk_A am sz)) 0 0 (mk_A am sz) := by
  refine Met.ofW (cc := cX9_isNot) (maxL := 2) (ret := (some .boolean)) (by decide) rfl ?_
  intro p e s m args below meth c s₁ B hml0 hv0
  obtain ⟨rfl, hsz, hW, hK, hX⟩ := hv0
  subst hsz
  have C0 : gk_F p s m ([.ref (am 38), .int a0] : List Value).toArray meth c cX9_isNot 2 (some .boolean) RX9 := ⟨B.exec, B.bytes, hml0, findClass_of_methodNamed B.named, fun w hw => atoms_spec (ws := wsX9_isNot) B.pre w (List.mem_cons_of_mem _ hw), B.returns, B.notSynchronized⟩
  obtain ⟨hx, hb, hml, hown, hts, hr, hlocks⟩ := id C0
  have hS : va_S (mk_A am s.heap.size) s.heap s.heap [] := va_S.rf
  have hl := lv_entry ([.ref (am 38), .int a0]) (n := 2) (Nat.le_of_ble_eq_true rfl)
  rw [lg_entry_eq]
  generalize (lg_sl ([.ref (am 38), .int a0]) ++ List.replicate (2 - (lg_sl ([.ref (am 38), .int a0])).length) Slot.unset).toArray = ls at hl ⊢
  have hl : lv_has ls 2 [(0, .ref (am 38)), (1, .int a0)] := hl
  show W p l e rmX9_isNot s m _ below meth c s.heap [] 0 0 _ _
  refine lv_aload_n hx hb dX9_isNot_0 rfl (lv_at hl 0 rfl) ?_
  refine lv_iload_n hx hb dX9_isNot_1 rfl (lv_at hl 1 rfl) ?_
  refine gk_putf (ty := .int) (v := .int a0) hx hb hts iwX9 tyX9 tyX9_ok nmX9 hown hK.1 hS (mk_A.in List.mem_cons_self) (mk_obj hW) rfl 0 (by decide) (hts _ fl_X9_102) (fun _ h9 => h9) rfl (by decide +kernel) rfl rfl (Nat.le_of_ble_eq_true rfl) dX9_isNot_2 (fun H locs h1 _ oq hS => ?_)
  have hW := hW.setS (i := 0) (v := a0) h1 oq
  refine lv_iconst (v := 0) hx hb dX9_isNot_5 (by decide) ?_
  refine W.widen (k := 0) (n := 0) (Nat.le_of_ble_eq_true rfl) (Nat.le_of_ble_eq_true rfl) ?_
  exact mk_retz C0 (by decide) hw hW hS dX9_isNot_6
def w_X9_ok (σ : gk_C) (a0 : Int32) (Q : Int32 → gk_C → Prop) : Prop := (Q a0 (gk_s σ 0 0))
abbrev rmX9_ok : Room := { frames := 0, cells := 0, slots := 0, locals := 0 }
set_option maxHeartbeats 4000000 in
set_option maxRecDepth 100000 in
theorem c_X9_ok (l : Launch) (D : va_G) (cI cZ cG cL : ClassId) (am : Nat → Nat) {σ : gk_C} {a0 : Int32} {Q : Int32 → gk_C → Prop} {sz : Nat} (hw : w_X9_ok σ a0 Q) : Met l yX9_ok wsX9_ok rmX9_ok (mk_Pc (mk_V D cI cZ am) D cI cZ cG cL [.ref (am 38), .int a0] sz σ (fun _ => True)) (va_Qi (fun r u => Q r u) (mk_B (mk_V D cI cZ am)) (mk_A am sz)) 0 0 (mk_A am sz) := by
  refine Met.ofW (cc := cX9_ok) (maxL := 2) (ret := (some .int)) (by decide) rfl ?_
  intro p e s m args below meth c s₁ B hml0 hv0
  obtain ⟨rfl, hsz, hW, hK, hX⟩ := hv0
  subst hsz
  have C0 : gk_F p s m ([.ref (am 38), .int a0] : List Value).toArray meth c cX9_ok 2 (some .int) RX9 := ⟨B.exec, B.bytes, hml0, findClass_of_methodNamed B.named, fun w hw => atoms_spec (ws := wsX9_ok) B.pre w (List.mem_cons_of_mem _ hw), B.returns, B.notSynchronized⟩
  obtain ⟨hx, hb, hml, hown, hts, hr, hlocks⟩ := id C0
  have hS : va_S (mk_A am s.heap.size) s.heap s.heap [] := va_S.rf
  have hl := lv_entry ([.ref (am 38), .int a0]) (n := 2) (Nat.le_of_ble_eq_true rfl)
  rw [lg_entry_eq]
  generalize (lg_sl ([.ref (am 38), .int a0]) ++ List.replicate (2 - (lg_sl ([.ref (am 38), .int a0])).length) Slot.unset).toArray = ls at hl ⊢
  have hl : lv_has ls 2 [(0, .ref (am 38)), (1, .int a0)] := hl
  show W p l e rmX9_ok s m _ below meth c s.heap [] 0 0 _ _
  refine lv_aload_n hx hb dX9_ok_0 rfl (lv_at hl 0 rfl) ?_
  refine lv_iconst (v := 0) hx hb dX9_ok_1 (by decide) ?_
  refine gk_putf (ty := .int) (v := .int 0) hx hb hts iwX9 tyX9 tyX9_ok nmX9 hown hK.1 hS (mk_A.in List.mem_cons_self) (mk_obj hW) rfl 0 (by decide) (hts _ fl_X9_102) (fun _ h9 => h9) rfl (by decide +kernel) rfl rfl (Nat.le_of_ble_eq_true rfl) dX9_ok_2 (fun H locs h1 _ oq hS => ?_)
  have hW := hW.setS (i := 0) (v := 0) h1 oq
  refine lv_iload_n hx hb dX9_ok_5 rfl (lv_at hl 1 rfl) ?_
  refine W.widen (k := 0) (n := 0) (Nat.le_of_ble_eq_true rfl) (Nat.le_of_ble_eq_true rfl) ?_
  exact mk_reti C0 hw hW hS dX9_ok_6
def w_X9_isUser (σ : gk_C) (a0 : Int32) (Q : Int32 → Prop) : Prop := (w_X9_isIn a0 0 ((σ.2 3) - 1) (fun r8 => gk_z r8 ∧ Q r8))
abbrev rmX9_isUser : Room := { frames := 1, cells := 0, slots := 0, locals := 22 }
set_option maxHeartbeats 4000000 in
set_option maxRecDepth 100000 in
theorem c_X9_isUser (l : Launch) (D : va_G) (cI cZ cG cL : ClassId) (am : Nat → Nat) {σ : gk_C} {a0 : Int32} {Q : Int32 → Prop} {sz : Nat} (hw : w_X9_isUser σ a0 Q) : Met l yX9_isUser wsX9_isUser rmX9_isUser (mk_Pc (mk_V D cI cZ am) D cI cZ cG cL [.ref (am 38), .int a0] sz σ (fun _ => True)) (va_Qi (fun r u => u = σ ∧ Q r) (mk_B (mk_V D cI cZ am)) (mk_A am sz)) 0 0 (mk_A am sz) := by
  refine Met.ofW (cc := cX9_isUser) (maxL := 2) (ret := (some .boolean)) (by decide) rfl ?_
  intro p e s m args below meth c s₁ B hml0 hv0
  obtain ⟨rfl, hsz, hW, hK, hX⟩ := hv0
  subst hsz
  have C0 : gk_F p s m ([.ref (am 38), .int a0] : List Value).toArray meth c cX9_isUser 2 (some .boolean) RX9 := ⟨B.exec, B.bytes, hml0, findClass_of_methodNamed B.named, fun w hw => atoms_spec (ws := wsX9_isUser) B.pre w (List.mem_cons_of_mem _ hw), B.returns, B.notSynchronized⟩
  obtain ⟨hx, hb, hml, hown, hts, hr, hlocks⟩ := id C0
  have hS : va_S (mk_A am s.heap.size) s.heap s.heap [] := va_S.rf
  have hl := lv_entry ([.ref (am 38), .int a0]) (n := 2) (Nat.le_of_ble_eq_true rfl)
  rw [lg_entry_eq]
  generalize (lg_sl ([.ref (am 38), .int a0]) ++ List.replicate (2 - (lg_sl ([.ref (am 38), .int a0])).length) Slot.unset).toArray = ls at hl ⊢
  have hl : lv_has ls 2 [(0, .ref (am 38)), (1, .int a0)] := hl
  show W p l e rmX9_isUser s m _ below meth c s.heap [] 0 0 _ _
  refine lv_iload_n hx hb dX9_isUser_0 rfl (lv_at hl 1 rfl) ?_
  refine lv_iconst (v := 0) hx hb dX9_isUser_1 (by decide) ?_
  refine lv_aload_n hx hb dX9_isUser_2 rfl (lv_at hl 0 rfl) ?_
  refine gk_get hx hb hts iwX9 hown hK.1 (mk_obj hW) rfl 3 (by decide) (hts _ fl_X9_105) (fun _ h9 => h9) rfl dX9_isUser_3 ?_
  refine lv_iconst (v := 1) hx hb dX9_isUser_6 (by decide) ?_
  refine lv_isub hx hb dX9_isUser_7 ?_
  refine gk_callSi ⟨hx, hb, hml, hown, hts⟩ (c_X9_isIn l hw) (va_cwS 3 hts (gk_gS ml_X9_108 st_X9_isIn in_X9 co_X9_isIn) rfl rfl rfl (by decide +kernel) ⟨Nat.le_of_ble_eq_true rfl, Nat.le_of_ble_eq_true rfl⟩) hS rfl hl.1 (rest := []) rfl (lv_room (Nat.le_of_ble_eq_true rfl)) dX9_isUser_8 ⟨Nat.le_of_ble_eq_true rfl, Nat.le_of_ble_eq_true rfl⟩ (fun r8 H locs hw _ hk hS => ?_)
  have hW := hW.keptAll hk
  refine W.widen (k := 0) (n := 0) (Nat.le_of_ble_eq_true rfl) (Nat.le_of_ble_eq_true rfl) ?_
  obtain ⟨hz, hw⟩ := hw
  exact mk_retz C0 hz ⟨rfl, hw⟩ hW hS dX9_isUser_11
def w_X9_isRole (σ : gk_C) (a0 : Int32) (Q : Int32 → Prop) : Prop := (w_X9_isIn a0 0 ((σ.2 7) - 1) (fun r8 => gk_z r8 ∧ Q r8))
abbrev rmX9_isRole : Room := { frames := 1, cells := 0, slots := 0, locals := 22 }
set_option maxHeartbeats 4000000 in
set_option maxRecDepth 100000 in
theorem c_X9_isRole (l : Launch) (D : va_G) (cI cZ cG cL : ClassId) (am : Nat → Nat) {σ : gk_C} {a0 : Int32} {Q : Int32 → Prop} {sz : Nat} (hw : w_X9_isRole σ a0 Q) : Met l yX9_isRole wsX9_isRole rmX9_isRole (mk_Pc (mk_V D cI cZ am) D cI cZ cG cL [.ref (am 38), .int a0] sz σ (fun _ => True)) (va_Qi (fun r u => u = σ ∧ Q r) (mk_B (mk_V D cI cZ am)) (mk_A am sz)) 0 0 (mk_A am sz) := by
  refine Met.ofW (cc := cX9_isRole) (maxL := 2) (ret := (some .boolean)) (by decide) rfl ?_
  intro p e s m args below meth c s₁ B hml0 hv0
  obtain ⟨rfl, hsz, hW, hK, hX⟩ := hv0
  subst hsz
  have C0 : gk_F p s m ([.ref (am 38), .int a0] : List Value).toArray meth c cX9_isRole 2 (some .boolean) RX9 := ⟨B.exec, B.bytes, hml0, findClass_of_methodNamed B.named, fun w hw => atoms_spec (ws := wsX9_isRole) B.pre w (List.mem_cons_of_mem _ hw), B.returns, B.notSynchronized⟩
  obtain ⟨hx, hb, hml, hown, hts, hr, hlocks⟩ := id C0
  have hS : va_S (mk_A am s.heap.size) s.heap s.heap [] := va_S.rf
  have hl := lv_entry ([.ref (am 38), .int a0]) (n := 2) (Nat.le_of_ble_eq_true rfl)
  rw [lg_entry_eq]
  generalize (lg_sl ([.ref (am 38), .int a0]) ++ List.replicate (2 - (lg_sl ([.ref (am 38), .int a0])).length) Slot.unset).toArray = ls at hl ⊢
  have hl : lv_has ls 2 [(0, .ref (am 38)), (1, .int a0)] := hl
  show W p l e rmX9_isRole s m _ below meth c s.heap [] 0 0 _ _
  refine lv_iload_n hx hb dX9_isRole_0 rfl (lv_at hl 1 rfl) ?_
  refine lv_iconst (v := 0) hx hb dX9_isRole_1 (by decide) ?_
  refine lv_aload_n hx hb dX9_isRole_2 rfl (lv_at hl 0 rfl) ?_
  refine gk_get hx hb hts iwX9 hown hK.1 (mk_obj hW) rfl 7 (by decide) (hts _ fl_X9_112) (fun _ h9 => h9) rfl dX9_isRole_3 ?_
  refine lv_iconst (v := 1) hx hb dX9_isRole_6 (by decide) ?_
  refine lv_isub hx hb dX9_isRole_7 ?_
  refine gk_callSi ⟨hx, hb, hml, hown, hts⟩ (c_X9_isIn l hw) (va_cwS 3 hts (gk_gS ml_X9_108 st_X9_isIn in_X9 co_X9_isIn) rfl rfl rfl (by decide +kernel) ⟨Nat.le_of_ble_eq_true rfl, Nat.le_of_ble_eq_true rfl⟩) hS rfl hl.1 (rest := []) rfl (lv_room (Nat.le_of_ble_eq_true rfl)) dX9_isRole_8 ⟨Nat.le_of_ble_eq_true rfl, Nat.le_of_ble_eq_true rfl⟩ (fun r8 H locs hw _ hk hS => ?_)
  have hW := hW.keptAll hk
  refine W.widen (k := 0) (n := 0) (Nat.le_of_ble_eq_true rfl) (Nat.le_of_ble_eq_true rfl) ?_
  obtain ⟨hz, hw⟩ := hw
  exact mk_retz C0 hz ⟨rfl, hw⟩ hW hS dX9_isRole_11
def w_X9_isResource (σ : gk_C) (a0 : Int32) (Q : Int32 → Prop) : Prop := (w_X9_isIn a0 0 ((σ.2 11) - 1) (fun r8 => gk_z r8 ∧ Q r8))
abbrev rmX9_isResource : Room := { frames := 1, cells := 0, slots := 0, locals := 22 }
set_option maxHeartbeats 4000000 in
set_option maxRecDepth 100000 in
theorem c_X9_isResource (l : Launch) (D : va_G) (cI cZ cG cL : ClassId) (am : Nat → Nat) {σ : gk_C} {a0 : Int32} {Q : Int32 → Prop} {sz : Nat} (hw : w_X9_isResource σ a0 Q) : Met l yX9_isResource wsX9_isResource rmX9_isResource (mk_Pc (mk_V D cI cZ am) D cI cZ cG cL [.ref (am 38), .int a0] sz σ (fun _ => True)) (va_Qi (fun r u => u = σ ∧ Q r) (mk_B (mk_V D cI cZ am)) (mk_A am sz)) 0 0 (mk_A am sz) := by
  refine Met.ofW (cc := cX9_isResource) (maxL := 2) (ret := (some .boolean)) (by decide) rfl ?_
  intro p e s m args below meth c s₁ B hml0 hv0
  obtain ⟨rfl, hsz, hW, hK, hX⟩ := hv0
  subst hsz
  have C0 : gk_F p s m ([.ref (am 38), .int a0] : List Value).toArray meth c cX9_isResource 2 (some .boolean) RX9 := ⟨B.exec, B.bytes, hml0, findClass_of_methodNamed B.named, fun w hw => atoms_spec (ws := wsX9_isResource) B.pre w (List.mem_cons_of_mem _ hw), B.returns, B.notSynchronized⟩
  obtain ⟨hx, hb, hml, hown, hts, hr, hlocks⟩ := id C0
  have hS : va_S (mk_A am s.heap.size) s.heap s.heap [] := va_S.rf
  have hl := lv_entry ([.ref (am 38), .int a0]) (n := 2) (Nat.le_of_ble_eq_true rfl)
  rw [lg_entry_eq]
  generalize (lg_sl ([.ref (am 38), .int a0]) ++ List.replicate (2 - (lg_sl ([.ref (am 38), .int a0])).length) Slot.unset).toArray = ls at hl ⊢
  have hl : lv_has ls 2 [(0, .ref (am 38)), (1, .int a0)] := hl
  show W p l e rmX9_isResource s m _ below meth c s.heap [] 0 0 _ _
  refine lv_iload_n hx hb dX9_isResource_0 rfl (lv_at hl 1 rfl) ?_
  refine lv_iconst (v := 0) hx hb dX9_isResource_1 (by decide) ?_
  refine lv_aload_n hx hb dX9_isResource_2 rfl (lv_at hl 0 rfl) ?_
  refine gk_get hx hb hts iwX9 hown hK.1 (mk_obj hW) rfl 11 (by decide) (hts _ fl_X9_25) (fun _ h9 => h9) rfl dX9_isResource_3 ?_
  refine lv_iconst (v := 1) hx hb dX9_isResource_6 (by decide) ?_
  refine lv_isub hx hb dX9_isResource_7 ?_
  refine gk_callSi ⟨hx, hb, hml, hown, hts⟩ (c_X9_isIn l hw) (va_cwS 3 hts (gk_gS ml_X9_108 st_X9_isIn in_X9 co_X9_isIn) rfl rfl rfl (by decide +kernel) ⟨Nat.le_of_ble_eq_true rfl, Nat.le_of_ble_eq_true rfl⟩) hS rfl hl.1 (rest := []) rfl (lv_room (Nat.le_of_ble_eq_true rfl)) dX9_isResource_8 ⟨Nat.le_of_ble_eq_true rfl, Nat.le_of_ble_eq_true rfl⟩ (fun r8 H locs hw _ hk hS => ?_)
  have hW := hW.keptAll hk
  refine W.widen (k := 0) (n := 0) (Nat.le_of_ble_eq_true rfl) (Nat.le_of_ble_eq_true rfl) ?_
  obtain ⟨hz, hw⟩ := hw
  exact mk_retz C0 hz ⟨rfl, hw⟩ hW hS dX9_isResource_11
def w_X9_isQuestion (σ : gk_C) (a0 : Int32) (a1 : Int32) (a2 : Int32) (Q : Int32 → Prop) : Prop := (w_X9_isUser σ a0 (fun r2 => ((r2 = 0) → (Q 0)) ∧ ((¬ r2 = 0) → (w_X9_isAction a1 (fun r9 => ((r9 = 0) → (Q 0)) ∧ ((¬ r9 = 0) → (w_X9_isResource σ a2 (fun r17 => ((r17 = 0) → (Q 0)) ∧ ((¬ r17 = 0) → (Q 1))))))))))
abbrev rmX9_isQuestion : Room := { frames := 2, cells := 0, slots := 0, locals := 43 }
set_option maxHeartbeats 4000000 in
set_option maxRecDepth 100000 in
theorem c_X9_isQuestion (l : Launch) (D : va_G) (cI cZ cG cL : ClassId) (am : Nat → Nat) {σ : gk_C} {a0 : Int32} {a1 : Int32} {a2 : Int32} {Q : Int32 → Prop} {sz : Nat} (hw : w_X9_isQuestion σ a0 a1 a2 Q) : Met l yX9_isQuestion wsX9_isQuestion rmX9_isQuestion (mk_Pc (mk_V D cI cZ am) D cI cZ cG cL [.ref (am 38), .int a0, .int a1, .int a2] sz σ (fun _ => True)) (va_Qi (fun r u => u = σ ∧ Q r) (mk_B (mk_V D cI cZ am)) (mk_A am sz)) 0 0 (mk_A am sz) := by
  refine Met.ofW (cc := cX9_isQuestion) (maxL := 4) (ret := (some .boolean)) (by decide) rfl ?_
  intro p e s m args below meth c s₁ B hml0 hv0
  obtain ⟨rfl, hsz, hW, hK, hX⟩ := hv0
  subst hsz
  have C0 : gk_F p s m ([.ref (am 38), .int a0, .int a1, .int a2] : List Value).toArray meth c cX9_isQuestion 4 (some .boolean) RX9 := ⟨B.exec, B.bytes, hml0, findClass_of_methodNamed B.named, fun w hw => atoms_spec (ws := wsX9_isQuestion) B.pre w (List.mem_cons_of_mem _ hw), B.returns, B.notSynchronized⟩
  obtain ⟨hx, hb, hml, hown, hts, hr, hlocks⟩ := id C0
  have hS : va_S (mk_A am s.heap.size) s.heap s.heap [] := va_S.rf
  have hl := lv_entry ([.ref (am 38), .int a0, .int a1, .int a2]) (n := 4) (Nat.le_of_ble_eq_true rfl)
  rw [lg_entry_eq]
  generalize (lg_sl ([.ref (am 38), .int a0, .int a1, .int a2]) ++ List.replicate (4 - (lg_sl ([.ref (am 38), .int a0, .int a1, .int a2])).length) Slot.unset).toArray = ls at hl ⊢
  have hl : lv_has ls 4 [(0, .ref (am 38)), (1, .int a0), (2, .int a1), (3, .int a2)] := hl
  show W p l e rmX9_isQuestion s m _ below meth c s.heap [] 0 0 _ _
  refine lv_aload_n hx hb dX9_isQuestion_0 rfl (lv_at hl 0 rfl) ?_
  refine lv_iload_n hx hb dX9_isQuestion_1 rfl (lv_at hl 1 rfl) ?_
  refine mk_callRi ⟨hx, hb, hml, hown, hts⟩ (c_X9_isUser l D cI cZ cG cL am hw) (cwV 1 hts (gk_gV ml_X9_115 im_X9_isUser se_X9_isUser in_X9 co_X9_isUser) rfl rfl rfl (by decide +kernel) ⟨Nat.le_of_ble_eq_true rfl, Nat.le_of_ble_eq_true rfl⟩) (gk_recv hK.1 (mk_obj hW) rfl) hW hK ⟨trivial⟩ hS rfl hl.1 (rest := []) rfl (lv_room (Nat.le_of_ble_eq_true rfl)) dX9_isQuestion_2 ⟨Nat.le_of_ble_eq_true rfl, Nat.le_of_ble_eq_true rfl⟩ (fun r2 H locs hw hW _ hk hS => ?_)
  refine lv_if_eq (tgt := 27) hx hb dX9_isQuestion_5 (by decide) (fun c5 => ?_) (fun c5 => ?_)
  · have hw := hw.1 c5
    refine lv_iconst (v := 0) hx hb dX9_isQuestion_27 (by decide) ?_
    refine W.widen (k := 0) (n := 0) (Nat.le_of_ble_eq_true rfl) (Nat.le_of_ble_eq_true rfl) ?_
    exact mk_retz C0 (by decide) ⟨rfl, hw⟩ hW hS dX9_isQuestion_28
  · have hw := hw.2 c5
    refine lv_iload_n hx hb dX9_isQuestion_8 rfl (lv_at hl 2 rfl) ?_
    refine gk_callSi ⟨hx, hb, hml, hown, hts⟩ (c_X9_isAction l hw) (va_cwS 1 hts (gk_gS ml_X9_119 st_X9_isAction in_X9 co_X9_isAction) rfl rfl rfl (by decide +kernel) ⟨Nat.le_of_ble_eq_true rfl, Nat.le_of_ble_eq_true rfl⟩) hS rfl hl.1 (rest := []) rfl (lv_room (Nat.le_of_ble_eq_true rfl)) dX9_isQuestion_9 ⟨Nat.le_of_ble_eq_true rfl, Nat.le_of_ble_eq_true rfl⟩ (fun r9 H locs hw _ hk hS => ?_)
    have hW := hW.keptAll hk
    refine lv_if_eq (tgt := 27) hx hb dX9_isQuestion_12 (by decide) (fun c12 => ?_) (fun c12 => ?_)
    · have hw := hw.1 c12
      refine lv_iconst (v := 0) hx hb dX9_isQuestion_27 (by decide) ?_
      refine W.widen (k := 0) (n := 0) (Nat.le_of_ble_eq_true rfl) (Nat.le_of_ble_eq_true rfl) ?_
      exact mk_retz C0 (by decide) ⟨rfl, hw⟩ hW hS dX9_isQuestion_28
    · have hw := hw.2 c12
      refine lv_aload_n hx hb dX9_isQuestion_15 rfl (lv_at hl 0 rfl) ?_
      refine lv_iload_n hx hb dX9_isQuestion_16 rfl (lv_at hl 3 rfl) ?_
      refine mk_callRi ⟨hx, hb, hml, hown, hts⟩ (c_X9_isResource l D cI cZ cG cL am hw) (cwV 1 hts (gk_gV ml_X9_122 im_X9_isResource se_X9_isResource in_X9 co_X9_isResource) rfl rfl rfl (by decide +kernel) ⟨Nat.le_of_ble_eq_true rfl, Nat.le_of_ble_eq_true rfl⟩) (gk_recv hK.1 (mk_obj hW) rfl) hW hK ⟨trivial⟩ hS rfl hl.1 (rest := []) rfl (lv_room (Nat.le_of_ble_eq_true rfl)) dX9_isQuestion_17 ⟨Nat.le_of_ble_eq_true rfl, Nat.le_of_ble_eq_true rfl⟩ (fun r17 H locs hw hW _ hk hS => ?_)
      refine lv_if_eq (tgt := 27) hx hb dX9_isQuestion_20 (by decide) (fun c20 => ?_) (fun c20 => ?_)
      · have hw := hw.1 c20
        refine lv_iconst (v := 0) hx hb dX9_isQuestion_27 (by decide) ?_
        refine W.widen (k := 0) (n := 0) (Nat.le_of_ble_eq_true rfl) (Nat.le_of_ble_eq_true rfl) ?_
        exact mk_retz C0 (by decide) ⟨rfl, hw⟩ hW hS dX9_isQuestion_28
      · have hw := hw.2 c20
        refine lv_iconst (v := 1) hx hb dX9_isQuestion_23 (by decide) ?_
        refine lv_goto (tgt := 28) hx hb dX9_isQuestion_24 (by decide) ?_
        refine W.widen (k := 0) (n := 0) (Nat.le_of_ble_eq_true rfl) (Nat.le_of_ble_eq_true rfl) ?_
        exact mk_retz C0 (by decide) ⟨rfl, hw⟩ hW hS dX9_isQuestion_28
def w_X9_isRule (σ : gk_C) (a0 : Int32) (Q : Int32 → Prop) : Prop := (w_X9_isIn a0 0 ((σ.2 16) - 1) (fun r8 => gk_z r8 ∧ Q r8))
abbrev rmX9_isRule : Room := { frames := 1, cells := 0, slots := 0, locals := 22 }
set_option maxHeartbeats 4000000 in
set_option maxRecDepth 100000 in
theorem c_X9_isRule (l : Launch) (D : va_G) (cI cZ cG cL : ClassId) (am : Nat → Nat) {σ : gk_C} {a0 : Int32} {Q : Int32 → Prop} {sz : Nat} (hw : w_X9_isRule σ a0 Q) : Met l yX9_isRule wsX9_isRule rmX9_isRule (mk_Pc (mk_V D cI cZ am) D cI cZ cG cL [.ref (am 38), .int a0] sz σ (fun _ => True)) (va_Qi (fun r u => u = σ ∧ Q r) (mk_B (mk_V D cI cZ am)) (mk_A am sz)) 0 0 (mk_A am sz) := by
  refine Met.ofW (cc := cX9_isRule) (maxL := 2) (ret := (some .boolean)) (by decide) rfl ?_
  intro p e s m args below meth c s₁ B hml0 hv0
  obtain ⟨rfl, hsz, hW, hK, hX⟩ := hv0
  subst hsz
  have C0 : gk_F p s m ([.ref (am 38), .int a0] : List Value).toArray meth c cX9_isRule 2 (some .boolean) RX9 := ⟨B.exec, B.bytes, hml0, findClass_of_methodNamed B.named, fun w hw => atoms_spec (ws := wsX9_isRule) B.pre w (List.mem_cons_of_mem _ hw), B.returns, B.notSynchronized⟩
  obtain ⟨hx, hb, hml, hown, hts, hr, hlocks⟩ := id C0
  have hS : va_S (mk_A am s.heap.size) s.heap s.heap [] := va_S.rf
  have hl := lv_entry ([.ref (am 38), .int a0]) (n := 2) (Nat.le_of_ble_eq_true rfl)
  rw [lg_entry_eq]
  generalize (lg_sl ([.ref (am 38), .int a0]) ++ List.replicate (2 - (lg_sl ([.ref (am 38), .int a0])).length) Slot.unset).toArray = ls at hl ⊢
  have hl : lv_has ls 2 [(0, .ref (am 38)), (1, .int a0)] := hl
  show W p l e rmX9_isRule s m _ below meth c s.heap [] 0 0 _ _
  refine lv_iload_n hx hb dX9_isRule_0 rfl (lv_at hl 1 rfl) ?_
  refine lv_iconst (v := 0) hx hb dX9_isRule_1 (by decide) ?_
  refine lv_aload_n hx hb dX9_isRule_2 rfl (lv_at hl 0 rfl) ?_
  refine gk_get hx hb hts iwX9 hown hK.1 (mk_obj hW) rfl 16 (by decide) (hts _ fl_X9_165) (fun _ h9 => h9) rfl dX9_isRule_3 ?_
  refine lv_iconst (v := 1) hx hb dX9_isRule_6 (by decide) ?_
  refine lv_isub hx hb dX9_isRule_7 ?_
  refine gk_callSi ⟨hx, hb, hml, hown, hts⟩ (c_X9_isIn l hw) (va_cwS 3 hts (gk_gS ml_X9_108 st_X9_isIn in_X9 co_X9_isIn) rfl rfl rfl (by decide +kernel) ⟨Nat.le_of_ble_eq_true rfl, Nat.le_of_ble_eq_true rfl⟩) hS rfl hl.1 (rest := []) rfl (lv_room (Nat.le_of_ble_eq_true rfl)) dX9_isRule_8 ⟨Nat.le_of_ble_eq_true rfl, Nat.le_of_ble_eq_true rfl⟩ (fun r8 H locs hw _ hk hS => ?_)
  have hW := hW.keptAll hk
  refine W.widen (k := 0) (n := 0) (Nat.le_of_ble_eq_true rfl) (Nat.le_of_ble_eq_true rfl) ?_
  obtain ⟨hz, hw⟩ := hw
  exact mk_retz C0 hz ⟨rfl, hw⟩ hW hS dX9_isRule_11
def w_X9_isGrant (σ : gk_C) (a0 : Int32) (Q : Int32 → Prop) : Prop := (w_X9_isIn a0 0 ((σ.2 26) - 1) (fun r8 => gk_z r8 ∧ Q r8))
abbrev rmX9_isGrant : Room := { frames := 1, cells := 0, slots := 0, locals := 22 }
set_option maxHeartbeats 4000000 in
set_option maxRecDepth 100000 in
theorem c_X9_isGrant (l : Launch) (D : va_G) (cI cZ cG cL : ClassId) (am : Nat → Nat) {σ : gk_C} {a0 : Int32} {Q : Int32 → Prop} {sz : Nat} (hw : w_X9_isGrant σ a0 Q) : Met l yX9_isGrant wsX9_isGrant rmX9_isGrant (mk_Pc (mk_V D cI cZ am) D cI cZ cG cL [.ref (am 38), .int a0] sz σ (fun _ => True)) (va_Qi (fun r u => u = σ ∧ Q r) (mk_B (mk_V D cI cZ am)) (mk_A am sz)) 0 0 (mk_A am sz) := by
  refine Met.ofW (cc := cX9_isGrant) (maxL := 2) (ret := (some .boolean)) (by decide) rfl ?_
  intro p e s m args below meth c s₁ B hml0 hv0
  obtain ⟨rfl, hsz, hW, hK, hX⟩ := hv0
  subst hsz
  have C0 : gk_F p s m ([.ref (am 38), .int a0] : List Value).toArray meth c cX9_isGrant 2 (some .boolean) RX9 := ⟨B.exec, B.bytes, hml0, findClass_of_methodNamed B.named, fun w hw => atoms_spec (ws := wsX9_isGrant) B.pre w (List.mem_cons_of_mem _ hw), B.returns, B.notSynchronized⟩
  obtain ⟨hx, hb, hml, hown, hts, hr, hlocks⟩ := id C0
  have hS : va_S (mk_A am s.heap.size) s.heap s.heap [] := va_S.rf
  have hl := lv_entry ([.ref (am 38), .int a0]) (n := 2) (Nat.le_of_ble_eq_true rfl)
  rw [lg_entry_eq]
  generalize (lg_sl ([.ref (am 38), .int a0]) ++ List.replicate (2 - (lg_sl ([.ref (am 38), .int a0])).length) Slot.unset).toArray = ls at hl ⊢
  have hl : lv_has ls 2 [(0, .ref (am 38)), (1, .int a0)] := hl
  show W p l e rmX9_isGrant s m _ below meth c s.heap [] 0 0 _ _
  refine lv_iload_n hx hb dX9_isGrant_0 rfl (lv_at hl 1 rfl) ?_
  refine lv_iconst (v := 0) hx hb dX9_isGrant_1 (by decide) ?_
  refine lv_aload_n hx hb dX9_isGrant_2 rfl (lv_at hl 0 rfl) ?_
  refine gk_get hx hb hts iwX9 hown hK.1 (mk_obj hW) rfl 26 (by decide) (hts _ fl_X9_233) (fun _ h9 => h9) rfl dX9_isGrant_3 ?_
  refine lv_iconst (v := 1) hx hb dX9_isGrant_6 (by decide) ?_
  refine lv_isub hx hb dX9_isGrant_7 ?_
  refine gk_callSi ⟨hx, hb, hml, hown, hts⟩ (c_X9_isIn l hw) (va_cwS 3 hts (gk_gS ml_X9_108 st_X9_isIn in_X9 co_X9_isIn) rfl rfl rfl (by decide +kernel) ⟨Nat.le_of_ble_eq_true rfl, Nat.le_of_ble_eq_true rfl⟩) hS rfl hl.1 (rest := []) rfl (lv_room (Nat.le_of_ble_eq_true rfl)) dX9_isGrant_8 ⟨Nat.le_of_ble_eq_true rfl, Nat.le_of_ble_eq_true rfl⟩ (fun r8 H locs hw _ hk hS => ?_)
  have hW := hW.keptAll hk
  refine W.widen (k := 0) (n := 0) (Nat.le_of_ble_eq_true rfl) (Nat.le_of_ble_eq_true rfl) ?_
  obtain ⟨hz, hw⟩ := hw
  exact mk_retz C0 hz ⟨rfl, hw⟩ hW hS dX9_isGrant_11
def wJ_X9_addUser_25 (Q : Int32 → gk_C → Prop) (σ : gk_C) : Prop := (w_X9_no σ 1 (fun r27 σ27 => Q r27 σ27))
