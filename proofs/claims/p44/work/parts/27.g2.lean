/-! laid by wip/p44/class8.py: wp predicates and walks -/
def w_X8_matches (σ : gk_C) (a0 : Int32) (a1 : Int32) (a2 : Int32) (a3 : Int32) (Q : Int32 → gk_C → Prop) : Prop := (w_X8_isRule σ a0 (fun r2 => (¬ r2 = 0) ∧ w_X8_checkAsked σ a1 a2 a3 (w_X7_look 0 σ (σ.2 6) 0 (fun σ28 => w_X7_matching 0 σ28 a1 a2 a3 (fun r39 => w_X8_isIn r39 a0 (fun r43 => gk_z r43 ∧ Q r43 σ28))))))
abbrev rmX8_matches : Room := { frames := 6, cells := 0, slots := 0, locals := 142 }
set_option maxHeartbeats 4000000 in
set_option maxRecDepth 100000 in
theorem c_X8_matches (l : Launch) (D : va_G) (cI cZ cG cL : ClassId) (ad : Nat → Nat) {σ : gk_C} {a0 : Int32} {a1 : Int32} {a2 : Int32} {a3 : Int32} {Q : Int32 → gk_C → Prop} {sz : Nat} (hw : w_X8_matches σ a0 a1 a2 a3 Q) : Met l yX8_matches wsX8_matches rmX8_matches (gk_Pc D cI cZ cG cL ad [.ref (ad 0), .int a0, .int a1, .int a2, .int a3] sz σ) (va_Qi (fun r u => Q r u) (gk_B D cI ad) (gk_A ad sz)) 0 0 (gk_A ad sz) := by
  refine Met.ofW (cc := cX8_matches) (maxL := 5) (ret := (some .boolean)) (by decide) rfl ?_
  intro p e s m args below meth c s₁ B hml0 hv0
  obtain ⟨rfl, hsz, hW, hK⟩ := hv0
  subst hsz
  have C0 : gk_F p s m ([.ref (ad 0), .int a0, .int a1, .int a2, .int a3] : List Value).toArray meth c cX8_matches 5 (some .boolean) RX8 := ⟨B.exec, B.bytes, hml0, findClass_of_methodNamed B.named, fun w hw => atoms_spec (ws := wsX8_matches) B.pre w (List.mem_cons_of_mem _ hw), B.returns, B.notSynchronized⟩
  obtain ⟨hx, hb, hml, hown, hts, hr, hlocks⟩ := id C0
  have hS : va_S (gk_A ad s.heap.size) s.heap s.heap [] := va_S.rf
  have hl := lv_entry ([.ref (ad 0), .int a0, .int a1, .int a2, .int a3]) (n := 5) (Nat.le_of_ble_eq_true rfl)
  rw [lg_entry_eq]
  generalize (lg_sl ([.ref (ad 0), .int a0, .int a1, .int a2, .int a3]) ++ List.replicate (5 - (lg_sl ([.ref (ad 0), .int a0, .int a1, .int a2, .int a3])).length) Slot.unset).toArray = ls at hl ⊢
  have hl : lv_has ls 5 [(0, .ref (ad 0)), (1, .int a0), (2, .int a1), (3, .int a2), (4, .int a3)] := hl
  show W p l e rmX8_matches s m _ below meth c s.heap [] 0 0 _ _
  refine lv_aload_n hx hb dX8_matches_0 rfl (lv_at hl 0 rfl) ?_
  refine lv_iload_n hx hb dX8_matches_1 rfl (lv_at hl 1 rfl) ?_
  refine gk_callRi ⟨hx, hb, hml, hown, hts⟩ (c_X8_isRule l D cI cZ cG cL ad hw) (cwV 1 hts (gk_gV ml_X8_162 im_X8_isRule se_X8_isRule in_X8 co_X8_isRule) rfl rfl rfl (by decide +kernel) ⟨Nat.le_of_ble_eq_true rfl, Nat.le_of_ble_eq_true rfl⟩) (gk_recv hK.1 (gk_o0 hW) rfl) hW hK hS rfl hl.1 (rest := []) rfl (lv_room (Nat.le_of_ble_eq_true rfl)) dX8_matches_2 ⟨Nat.zero_le _, Nat.zero_le _⟩ (fun r2 H locs hw hW _ hS => ?_)
  obtain ⟨hc, hw⟩ := hw
  refine gk_callSv ⟨hx, hb, hml, hown, hts⟩ (c0_X8_checkThere l hc) (va_cwS 1 hts (gk_gS ml_X8_76 st_X8_checkThere in_X8 co_X8_checkThere) rfl rfl rfl (by decide +kernel) ⟨Nat.le_of_ble_eq_true rfl, Nat.le_of_ble_eq_true rfl⟩) hS rfl hl.1 (rest := []) rfl (lv_room (Nat.le_of_ble_eq_true rfl)) dX8_matches_5 ⟨Nat.zero_le _, Nat.zero_le _⟩ (fun H locs _ hk hS => ?_)
  have hW := hW.kept (fun k hk9 => hk _ (hW.lt hk9))
  refine lv_aload_n hx hb dX8_matches_8 rfl (lv_at hl 0 rfl) ?_
  refine lv_iload_n hx hb dX8_matches_9 rfl (lv_at hl 2 rfl) ?_
  refine lv_iload_n hx hb dX8_matches_10 rfl (lv_at hl 3 rfl) ?_
  refine lv_iload hx hb dX8_matches_11 (lv_at hl 4 rfl) ?_
  refine gk_callRv ⟨hx, hb, hml, hown, hts⟩ (c_X8_checkAsked l D cI cZ cG cL ad hw) (cwV 3 hts (gk_gV ml_X8_184 im_X8_checkAsked se_X8_checkAsked in_X8 co_X8_checkAsked) rfl rfl rfl (by decide +kernel) ⟨Nat.le_of_ble_eq_true rfl, Nat.le_of_ble_eq_true rfl⟩) (gk_recv hK.1 (gk_o0 hW) rfl) hW hK hS rfl hl.1 (rest := []) rfl (lv_room (Nat.le_of_ble_eq_true rfl)) dX8_matches_13 ⟨Nat.zero_le _, Nat.zero_le _⟩ (fun H locs hw hW _ hS => ?_)
  refine lv_aload_n hx hb dX8_matches_16 rfl (lv_at hl 0 rfl) ?_
  refine gk_get hx hb hts iwX8 hown hK.1 (gk_o0 hW) rfl 1 (by decide) (hts _ fl_X8_21) (fun _ h9 => h9) rfl dX8_matches_17 ?_
  refine lv_aload_n hx hb dX8_matches_20 rfl (lv_at hl 0 rfl) ?_
  refine gk_get hx hb hts iwX8 hown hK.1 (gk_o0 hW) rfl 0 (by decide) (hts _ fl_X8_10) (fun _ h9 => h9) rfl dX8_matches_21 ?_
  refine gk_getN hx hb hts iwX4 hown hK.1 (gk_o1 hW) rfl 5 (by decide) (gk_nw hK nf_X8_181) (fun _ h9 => h9) rfl dX8_matches_24 ?_
  refine lv_iconst (v := 0) hx hb dX8_matches_27 (by decide) ?_
  refine gk_callVv ⟨hx, hb, hml, hown, hts⟩ (c_X7_look l D cI cZ cG cL ad (by decide) hw) (cwV 2 hts (gk_gV ml_X8_188 im_X7_look se_X7_look in_X7 co_X7_look) rfl rfl rfl (by decide +kernel) ⟨Nat.le_of_ble_eq_true rfl, Nat.le_of_ble_eq_true rfl⟩) (gk_recv hK.1 (gk_ov hW (v := 0) (by decide)) rfl) hW hK hS rfl hl.1 (rest := []) rfl (lv_room (Nat.le_of_ble_eq_true rfl)) dX8_matches_28 ⟨Nat.zero_le _, Nat.zero_le _⟩ (fun σ28 H locs hw hW _ hS => ?_)
  refine lv_aload_n hx hb dX8_matches_31 rfl (lv_at hl 0 rfl) ?_
  refine gk_get hx hb hts iwX8 hown hK.1 (gk_o0 hW) rfl 1 (by decide) (hts _ fl_X8_21) (fun _ h9 => h9) rfl dX8_matches_32 ?_
  refine lv_iload_n hx hb dX8_matches_35 rfl (lv_at hl 2 rfl) ?_
  refine lv_iload_n hx hb dX8_matches_36 rfl (lv_at hl 3 rfl) ?_
  refine lv_iload hx hb dX8_matches_37 (lv_at hl 4 rfl) ?_
  refine gk_callRi ⟨hx, hb, hml, hown, hts⟩ (c_X7_matching l D cI cZ cG cL ad (by decide) hw) (cwV 3 hts (gk_gV ml_X8_191 im_X7_matching se_X7_matching in_X7 co_X7_matching) rfl rfl rfl (by decide +kernel) ⟨Nat.le_of_ble_eq_true rfl, Nat.le_of_ble_eq_true rfl⟩) (gk_recv hK.1 (gk_ov hW (v := 0) (by decide)) rfl) hW hK hS rfl hl.1 (rest := []) rfl (lv_room (Nat.le_of_ble_eq_true rfl)) dX8_matches_39 ⟨Nat.zero_le _, Nat.zero_le _⟩ (fun r39 H locs hw hW _ hS => ?_)
  refine lv_iload_n hx hb dX8_matches_42 rfl (lv_at hl 1 rfl) ?_
  refine gk_callSi ⟨hx, hb, hml, hown, hts⟩ (c_X8_isIn l hw) (va_cwS 2 hts (gk_gS ml_X8_110 st_X8_isIn in_X8 co_X8_isIn) rfl rfl rfl (by decide +kernel) ⟨Nat.le_of_ble_eq_true rfl, Nat.le_of_ble_eq_true rfl⟩) hS rfl hl.1 (rest := []) rfl (lv_room (Nat.le_of_ble_eq_true rfl)) dX8_matches_43 ⟨Nat.zero_le _, Nat.zero_le _⟩ (fun r43 H locs hw _ hk hS => ?_)
  have hW := hW.kept (fun k hk9 => hk _ (hW.lt hk9))
  obtain ⟨hz, hw⟩ := hw
  exact gk_retz C0 hz hw hW hS dX8_matches_46
def wJ_X8_goOn_16 (k17 : gk_C → Int32 → Int32 → Prop) (σ : gk_C) (x1 : Int32) : Prop := (k17 σ x1 0)
def wJ_X8_goOn_17 (Q : Int32 → gk_C → Prop) (σ : gk_C) (x1 : Int32) (t0 : Int32) : Prop := ((¬ t0 = 0) ∧ w_X4_hour (gk_s σ 7 ((σ.2 7) + x1)) (fun r37 => Q r37 (gk_s σ 7 ((σ.2 7) + x1))))
def w_X8_goOn (σ : gk_C) (a0 : Int32) (Q : Int32 → gk_C → Prop) : Prop := (((a0 < 1) → (wJ_X8_goOn_16 (fun σ x1 t0 => (wJ_X8_goOn_17 Q σ x1 t0)) σ a0)) ∧ ((¬ a0 < 1) → (((10000 < a0) → (wJ_X8_goOn_16 (fun σ x1 t0 => (wJ_X8_goOn_17 Q σ x1 t0)) σ a0)) ∧ ((¬ 10000 < a0) → (wJ_X8_goOn_17 Q σ a0 1)))))
abbrev rmX8_goOn : Room := { frames := 1, cells := 0, slots := 0, locals := 20 }
set_option maxHeartbeats 4000000 in
set_option maxRecDepth 100000 in
theorem tJ_X8_goOn_16 {p : Program} {l : Launch} {e : Env} {s : State} {m : MethodId} {args : Array Value} {below : List Frame} {meth : Method} {c : Code} {D : va_G} {cI cZ cG cL : ClassId} {ad : Nat → Nat} (C0 : gk_F p s m args meth c cX8_goOn 2 (some .int) RX8) (hK : gk_K D cI cZ cG cL s) {Q : Int32 → gk_C → Prop} {k17 : gk_C → Int32 → Int32 → Prop} (hk17 : ∀ (σ : gk_C) (x1 : Int32) (t0 : Int32), k17 σ x1 t0 → ∀ (H : Heap) (locs : List Loc), gk_W D cI ad σ H → va_S (gk_A ad s.heap.size) s.heap H locs → ∀ (ls : Array Slot), lv_has ls 2 [(0, .ref (ad 0)), (1, .int x1)] → W p l e rmX8_goOn s m args below meth c H locs 0 0 (MQ below (va_Qi (fun r u => Q r u) (gk_B D cI ad) (gk_A ad s.heap.size)) args s 0 0 (gk_A ad s.heap.size)) (F0 m 17 ls [.int t0])) : ∀ (σ : gk_C) (x1 : Int32), wJ_X8_goOn_16 k17 σ x1 → ∀ (H : Heap) (locs : List Loc), gk_W D cI ad σ H → va_S (gk_A ad s.heap.size) s.heap H locs → ∀ (ls : Array Slot), lv_has ls 2 [(0, .ref (ad 0)), (1, .int x1)] → W p l e rmX8_goOn s m args below meth c H locs 0 0 (MQ below (va_Qi (fun r u => Q r u) (gk_B D cI ad) (gk_A ad s.heap.size)) args s 0 0 (gk_A ad s.heap.size)) (F0 m 16 ls []) := by
  obtain ⟨hx, hb, hml, hown, hts, hr, hlocks⟩ := id C0
  intro σ x1 hw H locs hW hS ls hl
  refine lv_iconst (v := 0) hx hb dX8_goOn_16 (by decide) ?_
  exact hk17 σ x1 0 hw _ _ hW hS _ hl
set_option maxHeartbeats 4000000 in
set_option maxRecDepth 100000 in
theorem tJ_X8_goOn_17 {p : Program} {l : Launch} {e : Env} {s : State} {m : MethodId} {args : Array Value} {below : List Frame} {meth : Method} {c : Code} {D : va_G} {cI cZ cG cL : ClassId} {ad : Nat → Nat} (C0 : gk_F p s m args meth c cX8_goOn 2 (some .int) RX8) (hK : gk_K D cI cZ cG cL s) {Q : Int32 → gk_C → Prop} : ∀ (σ : gk_C) (x1 : Int32) (t0 : Int32), wJ_X8_goOn_17 Q σ x1 t0 → ∀ (H : Heap) (locs : List Loc), gk_W D cI ad σ H → va_S (gk_A ad s.heap.size) s.heap H locs → ∀ (ls : Array Slot), lv_has ls 2 [(0, .ref (ad 0)), (1, .int x1)] → W p l e rmX8_goOn s m args below meth c H locs 0 0 (MQ below (va_Qi (fun r u => Q r u) (gk_B D cI ad) (gk_A ad s.heap.size)) args s 0 0 (gk_A ad s.heap.size)) (F0 m 17 ls [.int t0]) := by
  obtain ⟨hx, hb, hml, hown, hts, hr, hlocks⟩ := id C0
  intro σ x1 t0 hw H locs hW hS ls hl
  obtain ⟨hc, hw⟩ := hw
  refine gk_callSv ⟨hx, hb, hml, hown, hts⟩ (c0_X8_checkArguments l hc) (va_cwS 1 hts (gk_gS ml_X8_41 st_X8_checkArguments in_X8 co_X8_checkArguments) rfl rfl rfl (by decide +kernel) ⟨Nat.le_of_ble_eq_true rfl, Nat.le_of_ble_eq_true rfl⟩) hS rfl hl.1 (rest := []) rfl (lv_room (Nat.le_of_ble_eq_true rfl)) dX8_goOn_17 ⟨Nat.zero_le _, Nat.zero_le _⟩ (fun H locs _ hk hS => ?_)
  have hW := hW.kept (fun k hk9 => hk _ (hW.lt hk9))
  refine lv_aload_n hx hb dX8_goOn_20 rfl (lv_at hl 0 rfl) ?_
  refine gk_get hx hb hts iwX8 hown hK.1 (gk_o0 hW) rfl 0 (by decide) (hts _ fl_X8_10) (fun _ h9 => h9) rfl dX8_goOn_21 ?_
  refine lv_dup hx hb dX8_goOn_24 rfl ?_
  refine gk_getN hx hb hts iwX4 hown hK.1 (gk_o1 hW) rfl 6 (by decide) (gk_nw hK nf_X8_195) (fun _ h9 => h9) rfl dX8_goOn_25 ?_
  refine lv_iload_n hx hb dX8_goOn_28 rfl (lv_at hl 1 rfl) ?_
  refine lv_iadd hx hb dX8_goOn_29 ?_
  refine gk_putN (ty := .int) (v := .int ((σ.2 7) + x1)) hx hb hts iwX4 tyX4 tyX4_ok nmX4 hown hK.1 hS (gk_A.in (by decide)) (gk_o1 hW) rfl 6 (by decide) (gk_nw hK nf_X8_195) (fun _ h9 => h9) rfl (by decide +kernel) rfl rfl (Nat.le_of_ble_eq_true rfl) dX8_goOn_30 (fun H locs h1 _ oq hS => ?_)
  have hW := gk_p7 hW h1 oq
  refine lv_aload_n hx hb dX8_goOn_33 rfl (lv_at hl 0 rfl) ?_
  refine gk_get hx hb hts iwX8 hown hK.1 (gk_o0 hW) rfl 0 (by decide) (hts _ fl_X8_10) (fun _ h9 => h9) rfl dX8_goOn_34 ?_
  refine gk_callRi ⟨hx, hb, hml, hown, hts⟩ (c_X4_hour l D cI cZ cG cL ad hw) (cwV 0 hts (gk_gV ml_X8_198 im_X4_hour se_X4_hour in_X4 co_X4_hour) rfl rfl rfl (by decide +kernel) ⟨Nat.le_of_ble_eq_true rfl, Nat.le_of_ble_eq_true rfl⟩) (gk_recv hK.1 (gk_o1 hW) rfl) hW hK hS rfl hl.1 (rest := []) rfl (lv_room (Nat.le_of_ble_eq_true rfl)) dX8_goOn_37 ⟨Nat.zero_le _, Nat.zero_le _⟩ (fun r37 H locs hw hW _ hS => ?_)
  exact gk_reti C0 hw hW hS dX8_goOn_40
set_option maxHeartbeats 4000000 in
set_option maxRecDepth 100000 in
theorem c_X8_goOn (l : Launch) (D : va_G) (cI cZ cG cL : ClassId) (ad : Nat → Nat) {σ : gk_C} {a0 : Int32} {Q : Int32 → gk_C → Prop} {sz : Nat} (hw : w_X8_goOn σ a0 Q) : Met l yX8_goOn wsX8_goOn rmX8_goOn (gk_Pc D cI cZ cG cL ad [.ref (ad 0), .int a0] sz σ) (va_Qi (fun r u => Q r u) (gk_B D cI ad) (gk_A ad sz)) 0 0 (gk_A ad sz) := by
  refine Met.ofW (cc := cX8_goOn) (maxL := 2) (ret := (some .int)) (by decide) rfl ?_
  intro p e s m args below meth c s₁ B hml0 hv0
  obtain ⟨rfl, hsz, hW, hK⟩ := hv0
  subst hsz
  have C0 : gk_F p s m ([.ref (ad 0), .int a0] : List Value).toArray meth c cX8_goOn 2 (some .int) RX8 := ⟨B.exec, B.bytes, hml0, findClass_of_methodNamed B.named, fun w hw => atoms_spec (ws := wsX8_goOn) B.pre w (List.mem_cons_of_mem _ hw), B.returns, B.notSynchronized⟩
  obtain ⟨hx, hb, hml, hown, hts, hr, hlocks⟩ := id C0
  have hS : va_S (gk_A ad s.heap.size) s.heap s.heap [] := va_S.rf
  have hl := lv_entry ([.ref (ad 0), .int a0]) (n := 2) (Nat.le_of_ble_eq_true rfl)
  rw [lg_entry_eq]
  generalize (lg_sl ([.ref (ad 0), .int a0]) ++ List.replicate (2 - (lg_sl ([.ref (ad 0), .int a0])).length) Slot.unset).toArray = ls at hl ⊢
  have hl : lv_has ls 2 [(0, .ref (ad 0)), (1, .int a0)] := hl
  show W p l e rmX8_goOn s m _ below meth c s.heap [] 0 0 _ _
  refine lv_iload_n hx hb dX8_goOn_0 rfl (lv_at hl 1 rfl) ?_
  refine lv_iconst (v := 1) hx hb dX8_goOn_1 (by decide) ?_
  refine lv_icmp_lt (tgt := 16) hx hb dX8_goOn_2 (by decide) (fun c2 => ?_) (fun c2 => ?_)
  · have hw := hw.1 c2
    refine tJ_X8_goOn_16 C0 hK (hk17 := ?_) σ a0 hw _ _ hW hS _ hl
    · intro σ x1 t0 hw H locs hW hS ls hl
      refine tJ_X8_goOn_17 C0 hK  σ x1 t0 hw _ _ hW hS _ hl
  · have hw := hw.2 c2
    refine lv_iload_n hx hb dX8_goOn_5 rfl (lv_at hl 1 rfl) ?_
    refine lv_sipush (v := 10000) hx hb dX8_goOn_6 (by decide) ?_
    refine lv_icmp_gt (tgt := 16) hx hb dX8_goOn_9 (by decide) (fun c9 => ?_) (fun c9 => ?_)
    · have hw := hw.1 c9
      refine tJ_X8_goOn_16 C0 hK (hk17 := ?_) σ a0 hw _ _ hW hS _ hl
      · intro σ x1 t0 hw H locs hW hS ls hl
        refine tJ_X8_goOn_17 C0 hK  σ x1 t0 hw _ _ hW hS _ hl
    · have hw := hw.2 c9
      refine lv_iconst (v := 1) hx hb dX8_goOn_12 (by decide) ?_
      refine lv_goto (tgt := 17) hx hb dX8_goOn_13 (by decide) ?_
      refine tJ_X8_goOn_17 C0 hK  σ a0 1 hw _ _ hW hS _ hl
def wJ_X8_grant_36 (k37 : gk_C → Int32 → Int32 → Int32 → Int32 → Int32 → Int32 → Int32 → Prop) (σ : gk_C) (x1 : Int32) (x2 : Int32) (x3 : Int32) (x4 : Int32) (x5 : Int32) (x6 : Int32) : Prop := (k37 σ x1 x2 x3 x4 x5 x6 0)
def wJ_X8_grant_72 (k73 : gk_C → Int32 → Int32 → Int32 → Int32 → Int32 → Int32 → Int32 → Prop) (σ : gk_C) (x1 : Int32) (x2 : Int32) (x3 : Int32) (x4 : Int32) (x5 : Int32) (x6 : Int32) : Prop := (k73 σ x1 x2 x3 x4 x5 x6 0)
def wJ_X8_grant_96 (Q : Int32 → gk_C → Prop) (σ : gk_C) (x1 : Int32) (x2 : Int32) (x3 : Int32) (x4 : Int32) (x5 : Int32) (x6 : Int32) (t0 : Int32) : Prop := ((¬ t0 = 0) ∧ w_X0_add σ x1 x2 x3 x4 x5 ((σ.2 7) + x6) (fun r123 σ123 => Q r123 σ123))
def wJ_X8_grant_73 (Q : Int32 → gk_C → Prop) (σ : gk_C) (x1 : Int32) (x2 : Int32) (x3 : Int32) (x4 : Int32) (x5 : Int32) (x6 : Int32) (t0 : Int32) : Prop := ((¬ t0 = 0) ∧ ((30 ≤ (σ.2 5)) → (wJ_X8_grant_96 Q σ x1 x2 x3 x4 x5 x6 0)) ∧ ((¬ 30 ≤ (σ.2 5)) → (wJ_X8_grant_96 Q σ x1 x2 x3 x4 x5 x6 1)))
def wJ_X8_grant_37 (Q : Int32 → gk_C → Prop) (σ : gk_C) (x1 : Int32) (x2 : Int32) (x3 : Int32) (x4 : Int32) (x5 : Int32) (x6 : Int32) (t0 : Int32) : Prop := ((¬ t0 = 0) ∧ ((x1 = x2) → (wJ_X8_grant_72 (fun σ x1 x2 x3 x4 x5 x6 t0 => (wJ_X8_grant_73 Q σ x1 x2 x3 x4 x5 x6 t0)) σ x1 x2 x3 x4 x5 x6)) ∧ ((¬ x1 = x2) → (w_X8_isUpTo x5 3 (fun r48 => ((r48 = 0) → (wJ_X8_grant_72 (fun σ x1 x2 x3 x4 x5 x6 t0 => (wJ_X8_grant_73 Q σ x1 x2 x3 x4 x5 x6 t0)) σ x1 x2 x3 x4 x5 x6)) ∧ ((¬ r48 = 0) → (((x6 < 1) → (wJ_X8_grant_72 (fun σ x1 x2 x3 x4 x5 x6 t0 => (wJ_X8_grant_73 Q σ x1 x2 x3 x4 x5 x6 t0)) σ x1 x2 x3 x4 x5 x6)) ∧ ((¬ x6 < 1) → (((10000 < x6) → (wJ_X8_grant_72 (fun σ x1 x2 x3 x4 x5 x6 t0 => (wJ_X8_grant_73 Q σ x1 x2 x3 x4 x5 x6 t0)) σ x1 x2 x3 x4 x5 x6)) ∧ ((¬ 10000 < x6) → (wJ_X8_grant_73 Q σ x1 x2 x3 x4 x5 x6 1))))))))))
def w_X8_grant (σ : gk_C) (a0 : Int32) (a1 : Int32) (a2 : Int32) (a3 : Int32) (a4 : Int32) (a5 : Int32) (Q : Int32 → gk_C → Prop) : Prop := (w_X8_isUser σ a0 (fun r2 => ((r2 = 0) → (wJ_X8_grant_36 (fun σ x1 x2 x3 x4 x5 x6 t0 => (wJ_X8_grant_37 Q σ x1 x2 x3 x4 x5 x6 t0)) σ a0 a1 a2 a3 a4 a5)) ∧ ((¬ r2 = 0) → (w_X8_isUser σ a1 (fun r10 => ((r10 = 0) → (wJ_X8_grant_36 (fun σ x1 x2 x3 x4 x5 x6 t0 => (wJ_X8_grant_37 Q σ x1 x2 x3 x4 x5 x6 t0)) σ a0 a1 a2 a3 a4 a5)) ∧ ((¬ r10 = 0) → (w_X8_isAction a2 (fun r17 => ((r17 = 0) → (wJ_X8_grant_36 (fun σ x1 x2 x3 x4 x5 x6 t0 => (wJ_X8_grant_37 Q σ x1 x2 x3 x4 x5 x6 t0)) σ a0 a1 a2 a3 a4 a5)) ∧ ((¬ r17 = 0) → (w_X8_isResource σ a3 (fun r26 => ((r26 = 0) → (wJ_X8_grant_36 (fun σ x1 x2 x3 x4 x5 x6 t0 => (wJ_X8_grant_37 Q σ x1 x2 x3 x4 x5 x6 t0)) σ a0 a1 a2 a3 a4 a5)) ∧ ((¬ r26 = 0) → (wJ_X8_grant_37 Q σ a0 a1 a2 a3 a4 a5 1)))))))))))))
abbrev rmX8_grant : Room := { frames := 2, cells := 0, slots := 0, locals := 49 }
set_option maxHeartbeats 4000000 in
set_option maxRecDepth 100000 in
theorem tJ_X8_grant_36 {p : Program} {l : Launch} {e : Env} {s : State} {m : MethodId} {args : Array Value} {below : List Frame} {meth : Method} {c : Code} {D : va_G} {cI cZ cG cL : ClassId} {ad : Nat → Nat} (C0 : gk_F p s m args meth c cX8_grant 7 (some .int) RX8) (hK : gk_K D cI cZ cG cL s) {Q : Int32 → gk_C → Prop} {k37 : gk_C → Int32 → Int32 → Int32 → Int32 → Int32 → Int32 → Int32 → Prop} (hk37 : ∀ (σ : gk_C) (x1 : Int32) (x2 : Int32) (x3 : Int32) (x4 : Int32) (x5 : Int32) (x6 : Int32) (t0 : Int32), k37 σ x1 x2 x3 x4 x5 x6 t0 → ∀ (H : Heap) (locs : List Loc), gk_W D cI ad σ H → va_S (gk_A ad s.heap.size) s.heap H locs → ∀ (ls : Array Slot), lv_has ls 7 [(0, .ref (ad 0)), (1, .int x1), (2, .int x2), (3, .int x3), (4, .int x4), (5, .int x5), (6, .int x6)] → W p l e rmX8_grant s m args below meth c H locs 0 0 (MQ below (va_Qi (fun r u => Q r u) (gk_B D cI ad) (gk_A ad s.heap.size)) args s 0 0 (gk_A ad s.heap.size)) (F0 m 37 ls [.int t0])) : ∀ (σ : gk_C) (x1 : Int32) (x2 : Int32) (x3 : Int32) (x4 : Int32) (x5 : Int32) (x6 : Int32), wJ_X8_grant_36 k37 σ x1 x2 x3 x4 x5 x6 → ∀ (H : Heap) (locs : List Loc), gk_W D cI ad σ H → va_S (gk_A ad s.heap.size) s.heap H locs → ∀ (ls : Array Slot), lv_has ls 7 [(0, .ref (ad 0)), (1, .int x1), (2, .int x2), (3, .int x3), (4, .int x4), (5, .int x5), (6, .int x6)] → W p l e rmX8_grant s m args below meth c H locs 0 0 (MQ below (va_Qi (fun r u => Q r u) (gk_B D cI ad) (gk_A ad s.heap.size)) args s 0 0 (gk_A ad s.heap.size)) (F0 m 36 ls []) := by
  obtain ⟨hx, hb, hml, hown, hts, hr, hlocks⟩ := id C0
  intro σ x1 x2 x3 x4 x5 x6 hw H locs hW hS ls hl
  refine lv_iconst (v := 0) hx hb dX8_grant_36 (by decide) ?_
  exact hk37 σ x1 x2 x3 x4 x5 x6 0 hw _ _ hW hS _ hl
set_option maxHeartbeats 4000000 in
set_option maxRecDepth 100000 in
theorem tJ_X8_grant_72 {p : Program} {l : Launch} {e : Env} {s : State} {m : MethodId} {args : Array Value} {below : List Frame} {meth : Method} {c : Code} {D : va_G} {cI cZ cG cL : ClassId} {ad : Nat → Nat} (C0 : gk_F p s m args meth c cX8_grant 7 (some .int) RX8) (hK : gk_K D cI cZ cG cL s) {Q : Int32 → gk_C → Prop} {k73 : gk_C → Int32 → Int32 → Int32 → Int32 → Int32 → Int32 → Int32 → Prop} (hk73 : ∀ (σ : gk_C) (x1 : Int32) (x2 : Int32) (x3 : Int32) (x4 : Int32) (x5 : Int32) (x6 : Int32) (t0 : Int32), k73 σ x1 x2 x3 x4 x5 x6 t0 → ∀ (H : Heap) (locs : List Loc), gk_W D cI ad σ H → va_S (gk_A ad s.heap.size) s.heap H locs → ∀ (ls : Array Slot), lv_has ls 7 [(0, .ref (ad 0)), (1, .int x1), (2, .int x2), (3, .int x3), (4, .int x4), (5, .int x5), (6, .int x6)] → W p l e rmX8_grant s m args below meth c H locs 0 0 (MQ below (va_Qi (fun r u => Q r u) (gk_B D cI ad) (gk_A ad s.heap.size)) args s 0 0 (gk_A ad s.heap.size)) (F0 m 73 ls [.int t0])) : ∀ (σ : gk_C) (x1 : Int32) (x2 : Int32) (x3 : Int32) (x4 : Int32) (x5 : Int32) (x6 : Int32), wJ_X8_grant_72 k73 σ x1 x2 x3 x4 x5 x6 → ∀ (H : Heap) (locs : List Loc), gk_W D cI ad σ H → va_S (gk_A ad s.heap.size) s.heap H locs → ∀ (ls : Array Slot), lv_has ls 7 [(0, .ref (ad 0)), (1, .int x1), (2, .int x2), (3, .int x3), (4, .int x4), (5, .int x5), (6, .int x6)] → W p l e rmX8_grant s m args below meth c H locs 0 0 (MQ below (va_Qi (fun r u => Q r u) (gk_B D cI ad) (gk_A ad s.heap.size)) args s 0 0 (gk_A ad s.heap.size)) (F0 m 72 ls []) := by
  obtain ⟨hx, hb, hml, hown, hts, hr, hlocks⟩ := id C0
  intro σ x1 x2 x3 x4 x5 x6 hw H locs hW hS ls hl
  refine lv_iconst (v := 0) hx hb dX8_grant_72 (by decide) ?_
  exact hk73 σ x1 x2 x3 x4 x5 x6 0 hw _ _ hW hS _ hl
set_option maxHeartbeats 4000000 in
set_option maxRecDepth 100000 in
theorem tJ_X8_grant_96 {p : Program} {l : Launch} {e : Env} {s : State} {m : MethodId} {args : Array Value} {below : List Frame} {meth : Method} {c : Code} {D : va_G} {cI cZ cG cL : ClassId} {ad : Nat → Nat} (C0 : gk_F p s m args meth c cX8_grant 7 (some .int) RX8) (hK : gk_K D cI cZ cG cL s) {Q : Int32 → gk_C → Prop} : ∀ (σ : gk_C) (x1 : Int32) (x2 : Int32) (x3 : Int32) (x4 : Int32) (x5 : Int32) (x6 : Int32) (t0 : Int32), wJ_X8_grant_96 Q σ x1 x2 x3 x4 x5 x6 t0 → ∀ (H : Heap) (locs : List Loc), gk_W D cI ad σ H → va_S (gk_A ad s.heap.size) s.heap H locs → ∀ (ls : Array Slot), lv_has ls 7 [(0, .ref (ad 0)), (1, .int x1), (2, .int x2), (3, .int x3), (4, .int x4), (5, .int x5), (6, .int x6)] → W p l e rmX8_grant s m args below meth c H locs 0 0 (MQ below (va_Qi (fun r u => Q r u) (gk_B D cI ad) (gk_A ad s.heap.size)) args s 0 0 (gk_A ad s.heap.size)) (F0 m 96 ls [.int t0]) := by
  obtain ⟨hx, hb, hml, hown, hts, hr, hlocks⟩ := id C0
  intro σ x1 x2 x3 x4 x5 x6 t0 hw H locs hW hS ls hl
  obtain ⟨hc, hw⟩ := hw
  refine gk_callSv ⟨hx, hb, hml, hown, hts⟩ (c0_X8_checkState l hc) (va_cwS 1 hts (gk_gS ml_X8_55 st_X8_checkState in_X8 co_X8_checkState) rfl rfl rfl (by decide +kernel) ⟨Nat.le_of_ble_eq_true rfl, Nat.le_of_ble_eq_true rfl⟩) hS rfl hl.1 (rest := []) rfl (lv_room (Nat.le_of_ble_eq_true rfl)) dX8_grant_96 ⟨Nat.zero_le _, Nat.zero_le _⟩ (fun H locs _ hk hS => ?_)
  have hW := hW.kept (fun k hk9 => hk _ (hW.lt hk9))
  refine lv_aload_n hx hb dX8_grant_99 rfl (lv_at hl 0 rfl) ?_
  refine gk_get hx hb hts iwX8 hown hK.1 (gk_o0 hW) rfl 0 (by decide) (hts _ fl_X8_10) (fun _ h9 => h9) rfl dX8_grant_100 ?_
  refine gk_getN hx hb hts iwX4 hown hK.1 (gk_o1 hW) rfl 4 (by decide) (gk_nw hK nf_X8_204) (fun _ h9 => h9) rfl dX8_grant_103 ?_
  refine lv_iload_n hx hb dX8_grant_106 rfl (lv_at hl 1 rfl) ?_
  refine lv_iload_n hx hb dX8_grant_107 rfl (lv_at hl 2 rfl) ?_
  refine lv_iload_n hx hb dX8_grant_108 rfl (lv_at hl 3 rfl) ?_
  refine lv_iload hx hb dX8_grant_109 (lv_at hl 4 rfl) ?_
  refine lv_iload hx hb dX8_grant_111 (lv_at hl 5 rfl) ?_
  refine lv_aload_n hx hb dX8_grant_113 rfl (lv_at hl 0 rfl) ?_
  refine gk_get hx hb hts iwX8 hown hK.1 (gk_o0 hW) rfl 0 (by decide) (hts _ fl_X8_10) (fun _ h9 => h9) rfl dX8_grant_114 ?_
  refine gk_getN hx hb hts iwX4 hown hK.1 (gk_o1 hW) rfl 6 (by decide) (gk_nw hK nf_X8_195) (fun _ h9 => h9) rfl dX8_grant_117 ?_
  refine lv_iload hx hb dX8_grant_120 (lv_at hl 6 rfl) ?_
  refine lv_iadd hx hb dX8_grant_122 ?_
  refine gk_callVi ⟨hx, hb, hml, hown, hts⟩ (c_X0_add l D cI cZ cG cL ad hw) (cwV 6 hts (gk_gV ml_X8_211 im_X0_add se_X0_add in_X0 co_X0_add) rfl rfl rfl (by decide +kernel) ⟨Nat.le_of_ble_eq_true rfl, Nat.le_of_ble_eq_true rfl⟩) (gk_recv hK.1 (gk_o6 hW) rfl) hW hK hS rfl hl.1 (rest := []) rfl (lv_room (Nat.le_of_ble_eq_true rfl)) dX8_grant_123 ⟨Nat.zero_le _, Nat.zero_le _⟩ (fun r123 σ123 H locs hw hW _ hS => ?_)
  exact gk_reti C0 hw hW hS dX8_grant_126
set_option maxHeartbeats 4000000 in
set_option maxRecDepth 100000 in
theorem tJ_X8_grant_73 {p : Program} {l : Launch} {e : Env} {s : State} {m : MethodId} {args : Array Value} {below : List Frame} {meth : Method} {c : Code} {D : va_G} {cI cZ cG cL : ClassId} {ad : Nat → Nat} (C0 : gk_F p s m args meth c cX8_grant 7 (some .int) RX8) (hK : gk_K D cI cZ cG cL s) {Q : Int32 → gk_C → Prop} : ∀ (σ : gk_C) (x1 : Int32) (x2 : Int32) (x3 : Int32) (x4 : Int32) (x5 : Int32) (x6 : Int32) (t0 : Int32), wJ_X8_grant_73 Q σ x1 x2 x3 x4 x5 x6 t0 → ∀ (H : Heap) (locs : List Loc), gk_W D cI ad σ H → va_S (gk_A ad s.heap.size) s.heap H locs → ∀ (ls : Array Slot), lv_has ls 7 [(0, .ref (ad 0)), (1, .int x1), (2, .int x2), (3, .int x3), (4, .int x4), (5, .int x5), (6, .int x6)] → W p l e rmX8_grant s m args below meth c H locs 0 0 (MQ below (va_Qi (fun r u => Q r u) (gk_B D cI ad) (gk_A ad s.heap.size)) args s 0 0 (gk_A ad s.heap.size)) (F0 m 73 ls [.int t0]) := by
  obtain ⟨hx, hb, hml, hown, hts, hr, hlocks⟩ := id C0
  intro σ x1 x2 x3 x4 x5 x6 t0 hw H locs hW hS ls hl
  obtain ⟨hc, hw⟩ := hw
  refine gk_callSv ⟨hx, hb, hml, hown, hts⟩ (c0_X8_checkArguments l hc) (va_cwS 1 hts (gk_gS ml_X8_41 st_X8_checkArguments in_X8 co_X8_checkArguments) rfl rfl rfl (by decide +kernel) ⟨Nat.le_of_ble_eq_true rfl, Nat.le_of_ble_eq_true rfl⟩) hS rfl hl.1 (rest := []) rfl (lv_room (Nat.le_of_ble_eq_true rfl)) dX8_grant_73 ⟨Nat.zero_le _, Nat.zero_le _⟩ (fun H locs _ hk hS => ?_)
  have hW := hW.kept (fun k hk9 => hk _ (hW.lt hk9))
  refine lv_aload_n hx hb dX8_grant_76 rfl (lv_at hl 0 rfl) ?_
  refine gk_get hx hb hts iwX8 hown hK.1 (gk_o0 hW) rfl 0 (by decide) (hts _ fl_X8_10) (fun _ h9 => h9) rfl dX8_grant_77 ?_
  refine gk_getN hx hb hts iwX4 hown hK.1 (gk_o1 hW) rfl 4 (by decide) (gk_nw hK nf_X8_204) (fun _ h9 => h9) rfl dX8_grant_80 ?_
  refine gk_getN hx hb hts iwX0 hown hK.1 (gk_o6 hW) rfl 0 (by decide) (gk_nw hK nf_X8_208) (fun _ h9 => h9) rfl dX8_grant_83 ?_
  refine lv_bipush (v := 30) hx hb dX8_grant_86 (by decide) ?_
  refine lv_icmp_ge (tgt := 95) hx hb dX8_grant_88 (by decide) (fun c88 => ?_) (fun c88 => ?_)
  · have hw := hw.1 c88
    refine lv_iconst (v := 0) hx hb dX8_grant_95 (by decide) ?_
    refine tJ_X8_grant_96 C0 hK  σ x1 x2 x3 x4 x5 x6 0 hw _ _ hW hS _ hl
  · have hw := hw.2 c88
    refine lv_iconst (v := 1) hx hb dX8_grant_91 (by decide) ?_
    refine lv_goto (tgt := 96) hx hb dX8_grant_92 (by decide) ?_
    refine tJ_X8_grant_96 C0 hK  σ x1 x2 x3 x4 x5 x6 1 hw _ _ hW hS _ hl
set_option maxHeartbeats 4000000 in
set_option maxRecDepth 100000 in
theorem tJ_X8_grant_37 {p : Program} {l : Launch} {e : Env} {s : State} {m : MethodId} {args : Array Value} {below : List Frame} {meth : Method} {c : Code} {D : va_G} {cI cZ cG cL : ClassId} {ad : Nat → Nat} (C0 : gk_F p s m args meth c cX8_grant 7 (some .int) RX8) (hK : gk_K D cI cZ cG cL s) {Q : Int32 → gk_C → Prop} : ∀ (σ : gk_C) (x1 : Int32) (x2 : Int32) (x3 : Int32) (x4 : Int32) (x5 : Int32) (x6 : Int32) (t0 : Int32), wJ_X8_grant_37 Q σ x1 x2 x3 x4 x5 x6 t0 → ∀ (H : Heap) (locs : List Loc), gk_W D cI ad σ H → va_S (gk_A ad s.heap.size) s.heap H locs → ∀ (ls : Array Slot), lv_has ls 7 [(0, .ref (ad 0)), (1, .int x1), (2, .int x2), (3, .int x3), (4, .int x4), (5, .int x5), (6, .int x6)] → W p l e rmX8_grant s m args below meth c H locs 0 0 (MQ below (va_Qi (fun r u => Q r u) (gk_B D cI ad) (gk_A ad s.heap.size)) args s 0 0 (gk_A ad s.heap.size)) (F0 m 37 ls [.int t0]) := by
  obtain ⟨hx, hb, hml, hown, hts, hr, hlocks⟩ := id C0
  intro σ x1 x2 x3 x4 x5 x6 t0 hw H locs hW hS ls hl
  obtain ⟨hc, hw⟩ := hw
  refine gk_callSv ⟨hx, hb, hml, hown, hts⟩ (c0_X8_checkThere l hc) (va_cwS 1 hts (gk_gS ml_X8_76 st_X8_checkThere in_X8 co_X8_checkThere) rfl rfl rfl (by decide +kernel) ⟨Nat.le_of_ble_eq_true rfl, Nat.le_of_ble_eq_true rfl⟩) hS rfl hl.1 (rest := []) rfl (lv_room (Nat.le_of_ble_eq_true rfl)) dX8_grant_37 ⟨Nat.zero_le _, Nat.zero_le _⟩ (fun H locs _ hk hS => ?_)
  have hW := hW.kept (fun k hk9 => hk _ (hW.lt hk9))
  refine lv_iload_n hx hb dX8_grant_40 rfl (lv_at hl 1 rfl) ?_
  refine lv_iload_n hx hb dX8_grant_41 rfl (lv_at hl 2 rfl) ?_
  refine lv_icmp_eq (tgt := 72) hx hb dX8_grant_42 (by decide) (fun c42 => ?_) (fun c42 => ?_)
  · have hw := hw.1 c42
    refine tJ_X8_grant_72 C0 hK (hk73 := ?_) σ x1 x2 x3 x4 x5 x6 hw _ _ hW hS _ hl
    · intro σ x1 x2 x3 x4 x5 x6 t0 hw H locs hW hS ls hl
      refine tJ_X8_grant_73 C0 hK  σ x1 x2 x3 x4 x5 x6 t0 hw _ _ hW hS _ hl
  · have hw := hw.2 c42
    refine lv_iload hx hb dX8_grant_45 (lv_at hl 5 rfl) ?_
    refine lv_iconst (v := 3) hx hb dX8_grant_47 (by decide) ?_
    refine gk_callSi ⟨hx, hb, hml, hown, hts⟩ (c_X8_isUpTo l hw) (va_cwS 2 hts (gk_gS ml_X8_37 st_X8_isUpTo in_X8 co_X8_isUpTo) rfl rfl rfl (by decide +kernel) ⟨Nat.le_of_ble_eq_true rfl, Nat.le_of_ble_eq_true rfl⟩) hS rfl hl.1 (rest := []) rfl (lv_room (Nat.le_of_ble_eq_true rfl)) dX8_grant_48 ⟨Nat.zero_le _, Nat.zero_le _⟩ (fun r48 H locs hw _ hk hS => ?_)
    have hW := hW.kept (fun k hk9 => hk _ (hW.lt hk9))
    refine lv_if_eq (tgt := 72) hx hb dX8_grant_51 (by decide) (fun c51 => ?_) (fun c51 => ?_)
    · have hw := hw.1 c51
      refine tJ_X8_grant_72 C0 hK (hk73 := ?_) σ x1 x2 x3 x4 x5 x6 hw _ _ hW hS _ hl
      · intro σ x1 x2 x3 x4 x5 x6 t0 hw H locs hW hS ls hl
        refine tJ_X8_grant_73 C0 hK  σ x1 x2 x3 x4 x5 x6 t0 hw _ _ hW hS _ hl
    · have hw := hw.2 c51
      refine lv_iload hx hb dX8_grant_54 (lv_at hl 6 rfl) ?_
      refine lv_iconst (v := 1) hx hb dX8_grant_56 (by decide) ?_
      refine lv_icmp_lt (tgt := 72) hx hb dX8_grant_57 (by decide) (fun c57 => ?_) (fun c57 => ?_)
      · have hw := hw.1 c57
        refine tJ_X8_grant_72 C0 hK (hk73 := ?_) σ x1 x2 x3 x4 x5 x6 hw _ _ hW hS _ hl
        · intro σ x1 x2 x3 x4 x5 x6 t0 hw H locs hW hS ls hl
          refine tJ_X8_grant_73 C0 hK  σ x1 x2 x3 x4 x5 x6 t0 hw _ _ hW hS _ hl
      · have hw := hw.2 c57
        refine lv_iload hx hb dX8_grant_60 (lv_at hl 6 rfl) ?_
        refine lv_sipush (v := 10000) hx hb dX8_grant_62 (by decide) ?_
        refine lv_icmp_gt (tgt := 72) hx hb dX8_grant_65 (by decide) (fun c65 => ?_) (fun c65 => ?_)
        · have hw := hw.1 c65
          refine tJ_X8_grant_72 C0 hK (hk73 := ?_) σ x1 x2 x3 x4 x5 x6 hw _ _ hW hS _ hl
          · intro σ x1 x2 x3 x4 x5 x6 t0 hw H locs hW hS ls hl
            refine tJ_X8_grant_73 C0 hK  σ x1 x2 x3 x4 x5 x6 t0 hw _ _ hW hS _ hl
        · have hw := hw.2 c65
          refine lv_iconst (v := 1) hx hb dX8_grant_68 (by decide) ?_
          refine lv_goto (tgt := 73) hx hb dX8_grant_69 (by decide) ?_
          refine tJ_X8_grant_73 C0 hK  σ x1 x2 x3 x4 x5 x6 1 hw _ _ hW hS _ hl
set_option maxHeartbeats 4000000 in
set_option maxRecDepth 100000 in
theorem c_X8_grant (l : Launch) (D : va_G) (cI cZ cG cL : ClassId) (ad : Nat → Nat) {σ : gk_C} {a0 : Int32} {a1 : Int32} {a2 : Int32} {a3 : Int32} {a4 : Int32} {a5 : Int32} {Q : Int32 → gk_C → Prop} {sz : Nat} (hw : w_X8_grant σ a0 a1 a2 a3 a4 a5 Q) : Met l yX8_grant wsX8_grant rmX8_grant (gk_Pc D cI cZ cG cL ad [.ref (ad 0), .int a0, .int a1, .int a2, .int a3, .int a4, .int a5] sz σ) (va_Qi (fun r u => Q r u) (gk_B D cI ad) (gk_A ad sz)) 0 0 (gk_A ad sz) := by
  refine Met.ofW (cc := cX8_grant) (maxL := 7) (ret := (some .int)) (by decide) rfl ?_
  intro p e s m args below meth c s₁ B hml0 hv0
  obtain ⟨rfl, hsz, hW, hK⟩ := hv0
  subst hsz
  have C0 : gk_F p s m ([.ref (ad 0), .int a0, .int a1, .int a2, .int a3, .int a4, .int a5] : List Value).toArray meth c cX8_grant 7 (some .int) RX8 := ⟨B.exec, B.bytes, hml0, findClass_of_methodNamed B.named, fun w hw => atoms_spec (ws := wsX8_grant) B.pre w (List.mem_cons_of_mem _ hw), B.returns, B.notSynchronized⟩
  obtain ⟨hx, hb, hml, hown, hts, hr, hlocks⟩ := id C0
  have hS : va_S (gk_A ad s.heap.size) s.heap s.heap [] := va_S.rf
  have hl := lv_entry ([.ref (ad 0), .int a0, .int a1, .int a2, .int a3, .int a4, .int a5]) (n := 7) (Nat.le_of_ble_eq_true rfl)
  rw [lg_entry_eq]
  generalize (lg_sl ([.ref (ad 0), .int a0, .int a1, .int a2, .int a3, .int a4, .int a5]) ++ List.replicate (7 - (lg_sl ([.ref (ad 0), .int a0, .int a1, .int a2, .int a3, .int a4, .int a5])).length) Slot.unset).toArray = ls at hl ⊢
  have hl : lv_has ls 7 [(0, .ref (ad 0)), (1, .int a0), (2, .int a1), (3, .int a2), (4, .int a3), (5, .int a4), (6, .int a5)] := hl
  show W p l e rmX8_grant s m _ below meth c s.heap [] 0 0 _ _
  refine lv_aload_n hx hb dX8_grant_0 rfl (lv_at hl 0 rfl) ?_
  refine lv_iload_n hx hb dX8_grant_1 rfl (lv_at hl 1 rfl) ?_
  refine gk_callRi ⟨hx, hb, hml, hown, hts⟩ (c_X8_isUser l D cI cZ cG cL ad hw) (cwV 1 hts (gk_gV ml_X8_89 im_X8_isUser se_X8_isUser in_X8 co_X8_isUser) rfl rfl rfl (by decide +kernel) ⟨Nat.le_of_ble_eq_true rfl, Nat.le_of_ble_eq_true rfl⟩) (gk_recv hK.1 (gk_o0 hW) rfl) hW hK hS rfl hl.1 (rest := []) rfl (lv_room (Nat.le_of_ble_eq_true rfl)) dX8_grant_2 ⟨Nat.zero_le _, Nat.zero_le _⟩ (fun r2 H locs hw hW _ hS => ?_)
  refine lv_if_eq (tgt := 36) hx hb dX8_grant_5 (by decide) (fun c5 => ?_) (fun c5 => ?_)
  · have hw := hw.1 c5
    refine tJ_X8_grant_36 C0 hK (hk37 := ?_) σ a0 a1 a2 a3 a4 a5 hw _ _ hW hS _ hl
    · intro σ x1 x2 x3 x4 x5 x6 t0 hw H locs hW hS ls hl
      refine tJ_X8_grant_37 C0 hK  σ x1 x2 x3 x4 x5 x6 t0 hw _ _ hW hS _ hl
  · have hw := hw.2 c5
    refine lv_aload_n hx hb dX8_grant_8 rfl (lv_at hl 0 rfl) ?_
    refine lv_iload_n hx hb dX8_grant_9 rfl (lv_at hl 2 rfl) ?_
    refine gk_callRi ⟨hx, hb, hml, hown, hts⟩ (c_X8_isUser l D cI cZ cG cL ad hw) (cwV 1 hts (gk_gV ml_X8_89 im_X8_isUser se_X8_isUser in_X8 co_X8_isUser) rfl rfl rfl (by decide +kernel) ⟨Nat.le_of_ble_eq_true rfl, Nat.le_of_ble_eq_true rfl⟩) (gk_recv hK.1 (gk_o0 hW) rfl) hW hK hS rfl hl.1 (rest := []) rfl (lv_room (Nat.le_of_ble_eq_true rfl)) dX8_grant_10 ⟨Nat.zero_le _, Nat.zero_le _⟩ (fun r10 H locs hw hW _ hS => ?_)
    refine lv_if_eq (tgt := 36) hx hb dX8_grant_13 (by decide) (fun c13 => ?_) (fun c13 => ?_)
    · have hw := hw.1 c13
      refine tJ_X8_grant_36 C0 hK (hk37 := ?_) σ a0 a1 a2 a3 a4 a5 hw _ _ hW hS _ hl
      · intro σ x1 x2 x3 x4 x5 x6 t0 hw H locs hW hS ls hl
        refine tJ_X8_grant_37 C0 hK  σ x1 x2 x3 x4 x5 x6 t0 hw _ _ hW hS _ hl
    · have hw := hw.2 c13
      refine lv_iload_n hx hb dX8_grant_16 rfl (lv_at hl 3 rfl) ?_
      refine gk_callSi ⟨hx, hb, hml, hown, hts⟩ (c_X8_isAction l hw) (va_cwS 1 hts (gk_gS ml_X8_201 st_X8_isAction in_X8 co_X8_isAction) rfl rfl rfl (by decide +kernel) ⟨Nat.le_of_ble_eq_true rfl, Nat.le_of_ble_eq_true rfl⟩) hS rfl hl.1 (rest := []) rfl (lv_room (Nat.le_of_ble_eq_true rfl)) dX8_grant_17 ⟨Nat.zero_le _, Nat.zero_le _⟩ (fun r17 H locs hw _ hk hS => ?_)
      have hW := hW.kept (fun k hk9 => hk _ (hW.lt hk9))
      refine lv_if_eq (tgt := 36) hx hb dX8_grant_20 (by decide) (fun c20 => ?_) (fun c20 => ?_)
      · have hw := hw.1 c20
        refine tJ_X8_grant_36 C0 hK (hk37 := ?_) σ a0 a1 a2 a3 a4 a5 hw _ _ hW hS _ hl
        · intro σ x1 x2 x3 x4 x5 x6 t0 hw H locs hW hS ls hl
          refine tJ_X8_grant_37 C0 hK  σ x1 x2 x3 x4 x5 x6 t0 hw _ _ hW hS _ hl
      · have hw := hw.2 c20
        refine lv_aload_n hx hb dX8_grant_23 rfl (lv_at hl 0 rfl) ?_
        refine lv_iload hx hb dX8_grant_24 (lv_at hl 4 rfl) ?_
        refine gk_callRi ⟨hx, hb, hml, hown, hts⟩ (c_X8_isResource l D cI cZ cG cL ad hw) (cwV 1 hts (gk_gV ml_X8_72 im_X8_isResource se_X8_isResource in_X8 co_X8_isResource) rfl rfl rfl (by decide +kernel) ⟨Nat.le_of_ble_eq_true rfl, Nat.le_of_ble_eq_true rfl⟩) (gk_recv hK.1 (gk_o0 hW) rfl) hW hK hS rfl hl.1 (rest := []) rfl (lv_room (Nat.le_of_ble_eq_true rfl)) dX8_grant_26 ⟨Nat.zero_le _, Nat.zero_le _⟩ (fun r26 H locs hw hW _ hS => ?_)
        refine lv_if_eq (tgt := 36) hx hb dX8_grant_29 (by decide) (fun c29 => ?_) (fun c29 => ?_)
        · have hw := hw.1 c29
          refine tJ_X8_grant_36 C0 hK (hk37 := ?_) σ a0 a1 a2 a3 a4 a5 hw _ _ hW hS _ hl
          · intro σ x1 x2 x3 x4 x5 x6 t0 hw H locs hW hS ls hl
            refine tJ_X8_grant_37 C0 hK  σ x1 x2 x3 x4 x5 x6 t0 hw _ _ hW hS _ hl
        · have hw := hw.2 c29
          refine lv_iconst (v := 1) hx hb dX8_grant_32 (by decide) ?_
          refine lv_goto (tgt := 37) hx hb dX8_grant_33 (by decide) ?_
          refine tJ_X8_grant_37 C0 hK  σ a0 a1 a2 a3 a4 a5 1 hw _ _ hW hS _ hl
def w_X8_isGood (σ : gk_C) (a0 : Int32) (Q : Int32 → gk_C → Prop) : Prop := (w_X8_isGrant σ a0 (fun r2 => (¬ r2 = 0) ∧ w_X7_look 0 σ (σ.2 6) 0 (fun σ20 => w_X8_isIn (σ20.2 (11 + 4 * 0)) a0 (fun r31 => gk_z r31 ∧ Q r31 σ20))))
abbrev rmX8_isGood : Room := { frames := 6, cells := 0, slots := 0, locals := 142 }
set_option maxHeartbeats 4000000 in
set_option maxRecDepth 100000 in
theorem c_X8_isGood (l : Launch) (D : va_G) (cI cZ cG cL : ClassId) (ad : Nat → Nat) {σ : gk_C} {a0 : Int32} {Q : Int32 → gk_C → Prop} {sz : Nat} (hw : w_X8_isGood σ a0 Q) : Met l yX8_isGood wsX8_isGood rmX8_isGood (gk_Pc D cI cZ cG cL ad [.ref (ad 0), .int a0] sz σ) (va_Qi (fun r u => Q r u) (gk_B D cI ad) (gk_A ad sz)) 0 0 (gk_A ad sz) := by
  refine Met.ofW (cc := cX8_isGood) (maxL := 2) (ret := (some .boolean)) (by decide) rfl ?_
  intro p e s m args below meth c s₁ B hml0 hv0
  obtain ⟨rfl, hsz, hW, hK⟩ := hv0
  subst hsz
  have C0 : gk_F p s m ([.ref (ad 0), .int a0] : List Value).toArray meth c cX8_isGood 2 (some .boolean) RX8 := ⟨B.exec, B.bytes, hml0, findClass_of_methodNamed B.named, fun w hw => atoms_spec (ws := wsX8_isGood) B.pre w (List.mem_cons_of_mem _ hw), B.returns, B.notSynchronized⟩
  obtain ⟨hx, hb, hml, hown, hts, hr, hlocks⟩ := id C0
  have hS : va_S (gk_A ad s.heap.size) s.heap s.heap [] := va_S.rf
  have hl := lv_entry ([.ref (ad 0), .int a0]) (n := 2) (Nat.le_of_ble_eq_true rfl)
  rw [lg_entry_eq]
  generalize (lg_sl ([.ref (ad 0), .int a0]) ++ List.replicate (2 - (lg_sl ([.ref (ad 0), .int a0])).length) Slot.unset).toArray = ls at hl ⊢
  have hl : lv_has ls 2 [(0, .ref (ad 0)), (1, .int a0)] := hl
  show W p l e rmX8_isGood s m _ below meth c s.heap [] 0 0 _ _
  refine lv_aload_n hx hb dX8_isGood_0 rfl (lv_at hl 0 rfl) ?_
  refine lv_iload_n hx hb dX8_isGood_1 rfl (lv_at hl 1 rfl) ?_
  refine gk_callRi ⟨hx, hb, hml, hown, hts⟩ (c_X8_isGrant l D cI cZ cG cL ad hw) (cwV 1 hts (gk_gV ml_X8_214 im_X8_isGrant se_X8_isGrant in_X8 co_X8_isGrant) rfl rfl rfl (by decide +kernel) ⟨Nat.le_of_ble_eq_true rfl, Nat.le_of_ble_eq_true rfl⟩) (gk_recv hK.1 (gk_o0 hW) rfl) hW hK hS rfl hl.1 (rest := []) rfl (lv_room (Nat.le_of_ble_eq_true rfl)) dX8_isGood_2 ⟨Nat.zero_le _, Nat.zero_le _⟩ (fun r2 H locs hw hW _ hS => ?_)
  obtain ⟨hc, hw⟩ := hw
  refine gk_callSv ⟨hx, hb, hml, hown, hts⟩ (c0_X8_checkThere l hc) (va_cwS 1 hts (gk_gS ml_X8_76 st_X8_checkThere in_X8 co_X8_checkThere) rfl rfl rfl (by decide +kernel) ⟨Nat.le_of_ble_eq_true rfl, Nat.le_of_ble_eq_true rfl⟩) hS rfl hl.1 (rest := []) rfl (lv_room (Nat.le_of_ble_eq_true rfl)) dX8_isGood_5 ⟨Nat.zero_le _, Nat.zero_le _⟩ (fun H locs _ hk hS => ?_)
  have hW := hW.kept (fun k hk9 => hk _ (hW.lt hk9))
  refine lv_aload_n hx hb dX8_isGood_8 rfl (lv_at hl 0 rfl) ?_
  refine gk_get hx hb hts iwX8 hown hK.1 (gk_o0 hW) rfl 1 (by decide) (hts _ fl_X8_21) (fun _ h9 => h9) rfl dX8_isGood_9 ?_
  refine lv_aload_n hx hb dX8_isGood_12 rfl (lv_at hl 0 rfl) ?_
  refine gk_get hx hb hts iwX8 hown hK.1 (gk_o0 hW) rfl 0 (by decide) (hts _ fl_X8_10) (fun _ h9 => h9) rfl dX8_isGood_13 ?_
  refine gk_getN hx hb hts iwX4 hown hK.1 (gk_o1 hW) rfl 5 (by decide) (gk_nw hK nf_X8_181) (fun _ h9 => h9) rfl dX8_isGood_16 ?_
  refine lv_iconst (v := 0) hx hb dX8_isGood_19 (by decide) ?_
  refine gk_callVv ⟨hx, hb, hml, hown, hts⟩ (c_X7_look l D cI cZ cG cL ad (by decide) hw) (cwV 2 hts (gk_gV ml_X8_188 im_X7_look se_X7_look in_X7 co_X7_look) rfl rfl rfl (by decide +kernel) ⟨Nat.le_of_ble_eq_true rfl, Nat.le_of_ble_eq_true rfl⟩) (gk_recv hK.1 (gk_ov hW (v := 0) (by decide)) rfl) hW hK hS rfl hl.1 (rest := []) rfl (lv_room (Nat.le_of_ble_eq_true rfl)) dX8_isGood_20 ⟨Nat.zero_le _, Nat.zero_le _⟩ (fun σ20 H locs hw hW _ hS => ?_)
  refine lv_aload_n hx hb dX8_isGood_23 rfl (lv_at hl 0 rfl) ?_
  refine gk_get hx hb hts iwX8 hown hK.1 (gk_o0 hW) rfl 1 (by decide) (hts _ fl_X8_21) (fun _ h9 => h9) rfl dX8_isGood_24 ?_
  refine gk_getN hx hb hts iwX7 hown hK.1 (gk_ov hW (v := 0) (by decide)) rfl 10 (by decide) (gk_nw hK nf_X8_223) (fun _ h9 => h9) rfl dX8_isGood_27 ?_
  refine lv_iload_n hx hb dX8_isGood_30 rfl (lv_at hl 1 rfl) ?_
  refine gk_callSi ⟨hx, hb, hml, hown, hts⟩ (c_X8_isIn l hw) (va_cwS 2 hts (gk_gS ml_X8_110 st_X8_isIn in_X8 co_X8_isIn) rfl rfl rfl (by decide +kernel) ⟨Nat.le_of_ble_eq_true rfl, Nat.le_of_ble_eq_true rfl⟩) hS rfl hl.1 (rest := []) rfl (lv_room (Nat.le_of_ble_eq_true rfl)) dX8_isGood_31 ⟨Nat.zero_le _, Nat.zero_le _⟩ (fun r31 H locs hw _ hk hS => ?_)
  have hW := hW.kept (fun k hk9 => hk _ (hW.lt hk9))
  obtain ⟨hz, hw⟩ := hw
  exact gk_retz C0 hz hw hW hS dX8_isGood_34
def w_X8_decide (σ : gk_C) (a0 : Int32) (a1 : Int32) (a2 : Int32) (Q : Int32 → gk_C → Prop) : Prop := (w_X8_checkAsked σ a0 a1 a2 (w_X7_look 0 σ (σ.2 6) 0 (fun σ19 => w_X7_decided 0 σ19 a0 a1 a2 (fun r29 => Q r29 σ19))))
abbrev rmX8_decide : Room := { frames := 6, cells := 0, slots := 0, locals := 142 }
set_option maxHeartbeats 4000000 in
set_option maxRecDepth 100000 in
theorem c_X8_decide (l : Launch) (D : va_G) (cI cZ cG cL : ClassId) (ad : Nat → Nat) {σ : gk_C} {a0 : Int32} {a1 : Int32} {a2 : Int32} {Q : Int32 → gk_C → Prop} {sz : Nat} (hw : w_X8_decide σ a0 a1 a2 Q) : Met l yX8_decide wsX8_decide rmX8_decide (gk_Pc D cI cZ cG cL ad [.ref (ad 0), .int a0, .int a1, .int a2] sz σ) (va_Qi (fun r u => Q r u) (gk_B D cI ad) (gk_A ad sz)) 0 0 (gk_A ad sz) := by
  refine Met.ofW (cc := cX8_decide) (maxL := 4) (ret := (some .int)) (by decide) rfl ?_
  intro p e s m args below meth c s₁ B hml0 hv0
  obtain ⟨rfl, hsz, hW, hK⟩ := hv0
  subst hsz
  have C0 : gk_F p s m ([.ref (ad 0), .int a0, .int a1, .int a2] : List Value).toArray meth c cX8_decide 4 (some .int) RX8 := ⟨B.exec, B.bytes, hml0, findClass_of_methodNamed B.named, fun w hw => atoms_spec (ws := wsX8_decide) B.pre w (List.mem_cons_of_mem _ hw), B.returns, B.notSynchronized⟩
  obtain ⟨hx, hb, hml, hown, hts, hr, hlocks⟩ := id C0
  have hS : va_S (gk_A ad s.heap.size) s.heap s.heap [] := va_S.rf
  have hl := lv_entry ([.ref (ad 0), .int a0, .int a1, .int a2]) (n := 4) (Nat.le_of_ble_eq_true rfl)
  rw [lg_entry_eq]
  generalize (lg_sl ([.ref (ad 0), .int a0, .int a1, .int a2]) ++ List.replicate (4 - (lg_sl ([.ref (ad 0), .int a0, .int a1, .int a2])).length) Slot.unset).toArray = ls at hl ⊢
  have hl : lv_has ls 4 [(0, .ref (ad 0)), (1, .int a0), (2, .int a1), (3, .int a2)] := hl
  show W p l e rmX8_decide s m _ below meth c s.heap [] 0 0 _ _
  refine lv_aload_n hx hb dX8_decide_0 rfl (lv_at hl 0 rfl) ?_
  refine lv_iload_n hx hb dX8_decide_1 rfl (lv_at hl 1 rfl) ?_
  refine lv_iload_n hx hb dX8_decide_2 rfl (lv_at hl 2 rfl) ?_
  refine lv_iload_n hx hb dX8_decide_3 rfl (lv_at hl 3 rfl) ?_
  refine gk_callRv ⟨hx, hb, hml, hown, hts⟩ (c_X8_checkAsked l D cI cZ cG cL ad hw) (cwV 3 hts (gk_gV ml_X8_184 im_X8_checkAsked se_X8_checkAsked in_X8 co_X8_checkAsked) rfl rfl rfl (by decide +kernel) ⟨Nat.le_of_ble_eq_true rfl, Nat.le_of_ble_eq_true rfl⟩) (gk_recv hK.1 (gk_o0 hW) rfl) hW hK hS rfl hl.1 (rest := []) rfl (lv_room (Nat.le_of_ble_eq_true rfl)) dX8_decide_4 ⟨Nat.zero_le _, Nat.zero_le _⟩ (fun H locs hw hW _ hS => ?_)
  refine lv_aload_n hx hb dX8_decide_7 rfl (lv_at hl 0 rfl) ?_
  refine gk_get hx hb hts iwX8 hown hK.1 (gk_o0 hW) rfl 1 (by decide) (hts _ fl_X8_21) (fun _ h9 => h9) rfl dX8_decide_8 ?_
  refine lv_aload_n hx hb dX8_decide_11 rfl (lv_at hl 0 rfl) ?_
  refine gk_get hx hb hts iwX8 hown hK.1 (gk_o0 hW) rfl 0 (by decide) (hts _ fl_X8_10) (fun _ h9 => h9) rfl dX8_decide_12 ?_
  refine gk_getN hx hb hts iwX4 hown hK.1 (gk_o1 hW) rfl 5 (by decide) (gk_nw hK nf_X8_181) (fun _ h9 => h9) rfl dX8_decide_15 ?_
  refine lv_iconst (v := 0) hx hb dX8_decide_18 (by decide) ?_
  refine gk_callVv ⟨hx, hb, hml, hown, hts⟩ (c_X7_look l D cI cZ cG cL ad (by decide) hw) (cwV 2 hts (gk_gV ml_X8_188 im_X7_look se_X7_look in_X7 co_X7_look) rfl rfl rfl (by decide +kernel) ⟨Nat.le_of_ble_eq_true rfl, Nat.le_of_ble_eq_true rfl⟩) (gk_recv hK.1 (gk_ov hW (v := 0) (by decide)) rfl) hW hK hS rfl hl.1 (rest := []) rfl (lv_room (Nat.le_of_ble_eq_true rfl)) dX8_decide_19 ⟨Nat.zero_le _, Nat.zero_le _⟩ (fun σ19 H locs hw hW _ hS => ?_)
  refine lv_aload_n hx hb dX8_decide_22 rfl (lv_at hl 0 rfl) ?_
  refine gk_get hx hb hts iwX8 hown hK.1 (gk_o0 hW) rfl 1 (by decide) (hts _ fl_X8_21) (fun _ h9 => h9) rfl dX8_decide_23 ?_
  refine lv_iload_n hx hb dX8_decide_26 rfl (lv_at hl 1 rfl) ?_
  refine lv_iload_n hx hb dX8_decide_27 rfl (lv_at hl 2 rfl) ?_
  refine lv_iload_n hx hb dX8_decide_28 rfl (lv_at hl 3 rfl) ?_
  refine gk_callRi ⟨hx, hb, hml, hown, hts⟩ (c_X7_decided l D cI cZ cG cL ad (by decide) hw) (cwV 3 hts (gk_gV ml_X8_226 im_X7_decided se_X7_decided in_X7 co_X7_decided) rfl rfl rfl (by decide +kernel) ⟨Nat.le_of_ble_eq_true rfl, Nat.le_of_ble_eq_true rfl⟩) (gk_recv hK.1 (gk_ov hW (v := 0) (by decide)) rfl) hW hK hS rfl hl.1 (rest := []) rfl (lv_room (Nat.le_of_ble_eq_true rfl)) dX8_decide_29 ⟨Nat.zero_le _, Nat.zero_le _⟩ (fun r29 H locs hw hW _ hS => ?_)
  exact gk_reti C0 hw hW hS dX8_decide_32
def w_X8_why (σ : gk_C) (a0 : Int32) (a1 : Int32) (a2 : Int32) (Q : Int32 → gk_C → Prop) : Prop := (w_X8_checkAsked σ a0 a1 a2 (w_X7_look 0 σ (σ.2 6) 0 (fun σ19 => w_X7_reason 0 σ19 a0 a1 a2 (fun r29 => Q r29 σ19))))
abbrev rmX8_why : Room := { frames := 6, cells := 0, slots := 0, locals := 142 }
set_option maxHeartbeats 4000000 in
set_option maxRecDepth 100000 in
theorem c_X8_why (l : Launch) (D : va_G) (cI cZ cG cL : ClassId) (ad : Nat → Nat) {σ : gk_C} {a0 : Int32} {a1 : Int32} {a2 : Int32} {Q : Int32 → gk_C → Prop} {sz : Nat} (hw : w_X8_why σ a0 a1 a2 Q) : Met l yX8_why wsX8_why rmX8_why (gk_Pc D cI cZ cG cL ad [.ref (ad 0), .int a0, .int a1, .int a2] sz σ) (va_Qi (fun r u => Q r u) (gk_B D cI ad) (gk_A ad sz)) 0 0 (gk_A ad sz) := by
  refine Met.ofW (cc := cX8_why) (maxL := 4) (ret := (some .int)) (by decide) rfl ?_
  intro p e s m args below meth c s₁ B hml0 hv0
  obtain ⟨rfl, hsz, hW, hK⟩ := hv0
  subst hsz
  have C0 : gk_F p s m ([.ref (ad 0), .int a0, .int a1, .int a2] : List Value).toArray meth c cX8_why 4 (some .int) RX8 := ⟨B.exec, B.bytes, hml0, findClass_of_methodNamed B.named, fun w hw => atoms_spec (ws := wsX8_why) B.pre w (List.mem_cons_of_mem _ hw), B.returns, B.notSynchronized⟩
  obtain ⟨hx, hb, hml, hown, hts, hr, hlocks⟩ := id C0
  have hS : va_S (gk_A ad s.heap.size) s.heap s.heap [] := va_S.rf
  have hl := lv_entry ([.ref (ad 0), .int a0, .int a1, .int a2]) (n := 4) (Nat.le_of_ble_eq_true rfl)
  rw [lg_entry_eq]
  generalize (lg_sl ([.ref (ad 0), .int a0, .int a1, .int a2]) ++ List.replicate (4 - (lg_sl ([.ref (ad 0), .int a0, .int a1, .int a2])).length) Slot.unset).toArray = ls at hl ⊢
  have hl : lv_has ls 4 [(0, .ref (ad 0)), (1, .int a0), (2, .int a1), (3, .int a2)] := hl
  show W p l e rmX8_why s m _ below meth c s.heap [] 0 0 _ _
  refine lv_aload_n hx hb dX8_why_0 rfl (lv_at hl 0 rfl) ?_
  refine lv_iload_n hx hb dX8_why_1 rfl (lv_at hl 1 rfl) ?_
  refine lv_iload_n hx hb dX8_why_2 rfl (lv_at hl 2 rfl) ?_
  refine lv_iload_n hx hb dX8_why_3 rfl (lv_at hl 3 rfl) ?_
  refine gk_callRv ⟨hx, hb, hml, hown, hts⟩ (c_X8_checkAsked l D cI cZ cG cL ad hw) (cwV 3 hts (gk_gV ml_X8_184 im_X8_checkAsked se_X8_checkAsked in_X8 co_X8_checkAsked) rfl rfl rfl (by decide +kernel) ⟨Nat.le_of_ble_eq_true rfl, Nat.le_of_ble_eq_true rfl⟩) (gk_recv hK.1 (gk_o0 hW) rfl) hW hK hS rfl hl.1 (rest := []) rfl (lv_room (Nat.le_of_ble_eq_true rfl)) dX8_why_4 ⟨Nat.zero_le _, Nat.zero_le _⟩ (fun H locs hw hW _ hS => ?_)
  refine lv_aload_n hx hb dX8_why_7 rfl (lv_at hl 0 rfl) ?_
  refine gk_get hx hb hts iwX8 hown hK.1 (gk_o0 hW) rfl 1 (by decide) (hts _ fl_X8_21) (fun _ h9 => h9) rfl dX8_why_8 ?_
  refine lv_aload_n hx hb dX8_why_11 rfl (lv_at hl 0 rfl) ?_
  refine gk_get hx hb hts iwX8 hown hK.1 (gk_o0 hW) rfl 0 (by decide) (hts _ fl_X8_10) (fun _ h9 => h9) rfl dX8_why_12 ?_
  refine gk_getN hx hb hts iwX4 hown hK.1 (gk_o1 hW) rfl 5 (by decide) (gk_nw hK nf_X8_181) (fun _ h9 => h9) rfl dX8_why_15 ?_
  refine lv_iconst (v := 0) hx hb dX8_why_18 (by decide) ?_
  refine gk_callVv ⟨hx, hb, hml, hown, hts⟩ (c_X7_look l D cI cZ cG cL ad (by decide) hw) (cwV 2 hts (gk_gV ml_X8_188 im_X7_look se_X7_look in_X7 co_X7_look) rfl rfl rfl (by decide +kernel) ⟨Nat.le_of_ble_eq_true rfl, Nat.le_of_ble_eq_true rfl⟩) (gk_recv hK.1 (gk_ov hW (v := 0) (by decide)) rfl) hW hK hS rfl hl.1 (rest := []) rfl (lv_room (Nat.le_of_ble_eq_true rfl)) dX8_why_19 ⟨Nat.zero_le _, Nat.zero_le _⟩ (fun σ19 H locs hw hW _ hS => ?_)
  refine lv_aload_n hx hb dX8_why_22 rfl (lv_at hl 0 rfl) ?_
  refine gk_get hx hb hts iwX8 hown hK.1 (gk_o0 hW) rfl 1 (by decide) (hts _ fl_X8_21) (fun _ h9 => h9) rfl dX8_why_23 ?_
  refine lv_iload_n hx hb dX8_why_26 rfl (lv_at hl 1 rfl) ?_
  refine lv_iload_n hx hb dX8_why_27 rfl (lv_at hl 2 rfl) ?_
  refine lv_iload_n hx hb dX8_why_28 rfl (lv_at hl 3 rfl) ?_
  refine gk_callRi ⟨hx, hb, hml, hown, hts⟩ (c_X7_reason l D cI cZ cG cL ad (by decide) hw) (cwV 3 hts (gk_gV ml_X8_229 im_X7_reason se_X7_reason in_X7 co_X7_reason) rfl rfl rfl (by decide +kernel) ⟨Nat.le_of_ble_eq_true rfl, Nat.le_of_ble_eq_true rfl⟩) (gk_recv hK.1 (gk_ov hW (v := 0) (by decide)) rfl) hW hK hS rfl hl.1 (rest := []) rfl (lv_room (Nat.le_of_ble_eq_true rfl)) dX8_why_29 ⟨Nat.zero_le _, Nat.zero_le _⟩ (fun r29 H locs hw hW _ hS => ?_)
  exact gk_reti C0 hw hW hS dX8_why_32
def wJ_X8_access_46 (k59 : gk_C → Int32 → Prop) (σ : gk_C) (x1 : Int32) (x2 : Int32) (x3 : Int32) (x4 : Int32) : Prop := (w_X6_note σ x1 x2 x3 (fun σ56 => k59 σ56 x4))
def wJ_X8_access_59 (Q : Int32 → gk_C → Prop) (σ : gk_C) (x4 : Int32) : Prop := (Q x4 (gk_put σ 38 x4 ((gk_at σ 38 x4) + 1)))
def w_X8_access (σ : gk_C) (a0 : Int32) (a1 : Int32) (a2 : Int32) (Q : Int32 → gk_C → Prop) : Prop := (w_X8_checkAsked σ a0 a1 a2 (w_X7_look 0 σ (σ.2 6) 0 (fun σ19 => w_X7_decided 0 σ19 a0 a1 a2 (fun r29 => ((r29 = 1) → (wJ_X8_access_46 (fun σ x4 => (wJ_X8_access_59 Q σ x4)) σ19 a0 a1 a2 r29)) ∧ ((¬ r29 = 1) → (((¬ r29 = 3) → (wJ_X8_access_59 Q σ19 r29)) ∧ ((r29 = 3) → (wJ_X8_access_46 (fun σ x4 => (wJ_X8_access_59 Q σ x4)) σ19 a0 a1 a2 r29))))))))
abbrev rmX8_access : Room := { frames := 6, cells := 0, slots := 0, locals := 142 }
set_option maxHeartbeats 4000000 in
set_option maxRecDepth 100000 in
theorem tJ_X8_access_46 {p : Program} {l : Launch} {e : Env} {s : State} {m : MethodId} {args : Array Value} {below : List Frame} {meth : Method} {c : Code} {D : va_G} {cI cZ cG cL : ClassId} {ad : Nat → Nat} (C0 : gk_F p s m args meth c cX8_access 5 (some .int) RX8) (hK : gk_K D cI cZ cG cL s) {Q : Int32 → gk_C → Prop} {k59 : gk_C → Int32 → Prop} (hk59 : ∀ (σ : gk_C) (x4 : Int32), k59 σ x4 → ∀ (H : Heap) (locs : List Loc), gk_W D cI ad σ H → va_S (gk_A ad s.heap.size) s.heap H locs → ∀ (ls : Array Slot), lv_has ls 5 [(0, .ref (ad 0)), (4, .int x4)] → W p l e rmX8_access s m args below meth c H locs 0 0 (MQ below (va_Qi (fun r u => Q r u) (gk_B D cI ad) (gk_A ad s.heap.size)) args s 0 0 (gk_A ad s.heap.size)) (F0 m 59 ls [])) : ∀ (σ : gk_C) (x1 : Int32) (x2 : Int32) (x3 : Int32) (x4 : Int32), wJ_X8_access_46 k59 σ x1 x2 x3 x4 → ∀ (H : Heap) (locs : List Loc), gk_W D cI ad σ H → va_S (gk_A ad s.heap.size) s.heap H locs → ∀ (ls : Array Slot), lv_has ls 5 [(0, .ref (ad 0)), (1, .int x1), (2, .int x2), (3, .int x3), (4, .int x4)] → W p l e rmX8_access s m args below meth c H locs 0 0 (MQ below (va_Qi (fun r u => Q r u) (gk_B D cI ad) (gk_A ad s.heap.size)) args s 0 0 (gk_A ad s.heap.size)) (F0 m 46 ls []) := by
  obtain ⟨hx, hb, hml, hown, hts, hr, hlocks⟩ := id C0
  intro σ x1 x2 x3 x4 hw H locs hW hS ls hl
  refine lv_aload_n hx hb dX8_access_46 rfl (lv_at hl 0 rfl) ?_
  refine gk_get hx hb hts iwX8 hown hK.1 (gk_o0 hW) rfl 0 (by decide) (hts _ fl_X8_10) (fun _ h9 => h9) rfl dX8_access_47 ?_
  refine gk_getN hx hb hts iwX4 hown hK.1 (gk_o1 hW) rfl 0 (by decide) (gk_nw hK nf_X8_45) (fun _ h9 => h9) rfl dX8_access_50 ?_
  refine lv_iload_n hx hb dX8_access_53 rfl (lv_at hl 1 rfl) ?_
  refine lv_iload_n hx hb dX8_access_54 rfl (lv_at hl 2 rfl) ?_
  refine lv_iload_n hx hb dX8_access_55 rfl (lv_at hl 3 rfl) ?_
  refine gk_callVv ⟨hx, hb, hml, hown, hts⟩ (c_X6_note l D cI cZ cG cL ad hw) (cwV 3 hts (gk_gV ml_X8_232 im_X6_note se_X6_note in_X6 co_X6_note) rfl rfl rfl (by decide +kernel) ⟨Nat.le_of_ble_eq_true rfl, Nat.le_of_ble_eq_true rfl⟩) (gk_recv hK.1 (gk_o2 hW) rfl) hW hK hS rfl hl.1 (rest := []) rfl (lv_room (Nat.le_of_ble_eq_true rfl)) dX8_access_56 ⟨Nat.zero_le _, Nat.zero_le _⟩ (fun σ56 H locs hw hW _ hS => ?_)
  exact hk59 σ56 x4 hw _ _ hW hS _ (lv_sub hl [0, 4] rfl)
set_option maxHeartbeats 4000000 in
set_option maxRecDepth 100000 in
theorem tJ_X8_access_59 {p : Program} {l : Launch} {e : Env} {s : State} {m : MethodId} {args : Array Value} {below : List Frame} {meth : Method} {c : Code} {D : va_G} {cI cZ cG cL : ClassId} {ad : Nat → Nat} (C0 : gk_F p s m args meth c cX8_access 5 (some .int) RX8) (hK : gk_K D cI cZ cG cL s) {Q : Int32 → gk_C → Prop} : ∀ (σ : gk_C) (x4 : Int32), wJ_X8_access_59 Q σ x4 → ∀ (H : Heap) (locs : List Loc), gk_W D cI ad σ H → va_S (gk_A ad s.heap.size) s.heap H locs → ∀ (ls : Array Slot), lv_has ls 5 [(0, .ref (ad 0)), (4, .int x4)] → W p l e rmX8_access s m args below meth c H locs 0 0 (MQ below (va_Qi (fun r u => Q r u) (gk_B D cI ad) (gk_A ad s.heap.size)) args s 0 0 (gk_A ad s.heap.size)) (F0 m 59 ls []) := by
  obtain ⟨hx, hb, hml, hown, hts, hr, hlocks⟩ := id C0
  intro σ x4 hw H locs hW hS ls hl
  refine lv_aload_n hx hb dX8_access_59 rfl (lv_at hl 0 rfl) ?_
  refine gk_get hx hb hts iwX8 hown hK.1 (gk_o0 hW) rfl 3 (by decide) (hts _ fl_X8_33) (fun _ h9 => h9) rfl dX8_access_60 ?_
  refine lv_iload hx hb dX8_access_63 (lv_at hl 1 rfl) ?_
  refine lv_aload_n hx hb dX8_access_65 rfl (lv_at hl 0 rfl) ?_
  refine gk_get hx hb hts iwX8 hown hK.1 (gk_o0 hW) rfl 3 (by decide) (hts _ fl_X8_33) (fun _ h9 => h9) rfl dX8_access_66 ?_
  refine lv_iload hx hb dX8_access_69 (lv_at hl 1 rfl) ?_
  refine gk_callRi ⟨hx, hb, hml, hown, hts⟩ (c_X2_at l D cI cZ cG cL ad (σ := σ) (r := 38) (i := x4) (by decide)) (cwV 1 hts (gk_gV ml_X8_98 im_X2_at se_X2_at in_X2 co_X2_at) rfl rfl rfl (by decide +kernel) ⟨Nat.le_of_ble_eq_true rfl, Nat.le_of_ble_eq_true rfl⟩) (gk_recv hK.1 (gk_or hW (r := 38) (by decide)) rfl) hW hK hS rfl hl.1 (rest := [.int x4, .ref (ad (9 + 38))]) rfl (lv_room (Nat.le_of_ble_eq_true rfl)) dX8_access_71 ⟨Nat.zero_le _, Nat.zero_le _⟩ (fun r71 H locs hq hW _ hS => ?_)
  obtain rfl := hq
  refine lv_iconst (v := 1) hx hb dX8_access_74 (by decide) ?_
  refine lv_iadd hx hb dX8_access_75 ?_
  refine gk_callVv ⟨hx, hb, hml, hown, hts⟩ (c_X2_put l D cI cZ cG cL ad (σ := σ) (r := 38) (i := x4) (x := ((gk_at σ 38 x4) + 1)) (by decide)) (cwV 2 hts (gk_gV ml_X8_107 im_X2_put se_X2_put in_X2 co_X2_put) rfl rfl rfl (by decide +kernel) ⟨Nat.le_of_ble_eq_true rfl, Nat.le_of_ble_eq_true rfl⟩) (gk_recv hK.1 (gk_or hW (r := 38) (by decide)) rfl) hW hK hS rfl hl.1 (rest := []) rfl (lv_room (Nat.le_of_ble_eq_true rfl)) dX8_access_76 ⟨Nat.zero_le _, Nat.zero_le _⟩ (fun u H locs hq hW _ hS => ?_)
  rw [hq] at hW
  refine lv_iload hx hb dX8_access_79 (lv_at hl 1 rfl) ?_
  exact gk_reti C0 hw hW hS dX8_access_81
set_option maxHeartbeats 4000000 in
set_option maxRecDepth 100000 in
theorem c_X8_access (l : Launch) (D : va_G) (cI cZ cG cL : ClassId) (ad : Nat → Nat) {σ : gk_C} {a0 : Int32} {a1 : Int32} {a2 : Int32} {Q : Int32 → gk_C → Prop} {sz : Nat} (hw : w_X8_access σ a0 a1 a2 Q) : Met l yX8_access wsX8_access rmX8_access (gk_Pc D cI cZ cG cL ad [.ref (ad 0), .int a0, .int a1, .int a2] sz σ) (va_Qi (fun r u => Q r u) (gk_B D cI ad) (gk_A ad sz)) 0 0 (gk_A ad sz) := by
  refine Met.ofW (cc := cX8_access) (maxL := 5) (ret := (some .int)) (by decide) rfl ?_
  intro p e s m args below meth c s₁ B hml0 hv0
  obtain ⟨rfl, hsz, hW, hK⟩ := hv0
  subst hsz
  have C0 : gk_F p s m ([.ref (ad 0), .int a0, .int a1, .int a2] : List Value).toArray meth c cX8_access 5 (some .int) RX8 := ⟨B.exec, B.bytes, hml0, findClass_of_methodNamed B.named, fun w hw => atoms_spec (ws := wsX8_access) B.pre w (List.mem_cons_of_mem _ hw), B.returns, B.notSynchronized⟩
  obtain ⟨hx, hb, hml, hown, hts, hr, hlocks⟩ := id C0
  have hS : va_S (gk_A ad s.heap.size) s.heap s.heap [] := va_S.rf
  have hl := lv_entry ([.ref (ad 0), .int a0, .int a1, .int a2]) (n := 5) (Nat.le_of_ble_eq_true rfl)
  rw [lg_entry_eq]
  generalize (lg_sl ([.ref (ad 0), .int a0, .int a1, .int a2]) ++ List.replicate (5 - (lg_sl ([.ref (ad 0), .int a0, .int a1, .int a2])).length) Slot.unset).toArray = ls at hl ⊢
  have hl : lv_has ls 5 [(0, .ref (ad 0)), (1, .int a0), (2, .int a1), (3, .int a2)] := hl
  show W p l e rmX8_access s m _ below meth c s.heap [] 0 0 _ _
  refine lv_aload_n hx hb dX8_access_0 rfl (lv_at hl 0 rfl) ?_
  refine lv_iload_n hx hb dX8_access_1 rfl (lv_at hl 1 rfl) ?_
  refine lv_iload_n hx hb dX8_access_2 rfl (lv_at hl 2 rfl) ?_
  refine lv_iload_n hx hb dX8_access_3 rfl (lv_at hl 3 rfl) ?_
  refine gk_callRv ⟨hx, hb, hml, hown, hts⟩ (c_X8_checkAsked l D cI cZ cG cL ad hw) (cwV 3 hts (gk_gV ml_X8_184 im_X8_checkAsked se_X8_checkAsked in_X8 co_X8_checkAsked) rfl rfl rfl (by decide +kernel) ⟨Nat.le_of_ble_eq_true rfl, Nat.le_of_ble_eq_true rfl⟩) (gk_recv hK.1 (gk_o0 hW) rfl) hW hK hS rfl hl.1 (rest := []) rfl (lv_room (Nat.le_of_ble_eq_true rfl)) dX8_access_4 ⟨Nat.zero_le _, Nat.zero_le _⟩ (fun H locs hw hW _ hS => ?_)
  refine lv_aload_n hx hb dX8_access_7 rfl (lv_at hl 0 rfl) ?_
  refine gk_get hx hb hts iwX8 hown hK.1 (gk_o0 hW) rfl 1 (by decide) (hts _ fl_X8_21) (fun _ h9 => h9) rfl dX8_access_8 ?_
  refine lv_aload_n hx hb dX8_access_11 rfl (lv_at hl 0 rfl) ?_
  refine gk_get hx hb hts iwX8 hown hK.1 (gk_o0 hW) rfl 0 (by decide) (hts _ fl_X8_10) (fun _ h9 => h9) rfl dX8_access_12 ?_
  refine gk_getN hx hb hts iwX4 hown hK.1 (gk_o1 hW) rfl 5 (by decide) (gk_nw hK nf_X8_181) (fun _ h9 => h9) rfl dX8_access_15 ?_
  refine lv_iconst (v := 0) hx hb dX8_access_18 (by decide) ?_
  refine gk_callVv ⟨hx, hb, hml, hown, hts⟩ (c_X7_look l D cI cZ cG cL ad (by decide) hw) (cwV 2 hts (gk_gV ml_X8_188 im_X7_look se_X7_look in_X7 co_X7_look) rfl rfl rfl (by decide +kernel) ⟨Nat.le_of_ble_eq_true rfl, Nat.le_of_ble_eq_true rfl⟩) (gk_recv hK.1 (gk_ov hW (v := 0) (by decide)) rfl) hW hK hS rfl hl.1 (rest := []) rfl (lv_room (Nat.le_of_ble_eq_true rfl)) dX8_access_19 ⟨Nat.zero_le _, Nat.zero_le _⟩ (fun σ19 H locs hw hW _ hS => ?_)
  refine lv_aload_n hx hb dX8_access_22 rfl (lv_at hl 0 rfl) ?_
  refine gk_get hx hb hts iwX8 hown hK.1 (gk_o0 hW) rfl 1 (by decide) (hts _ fl_X8_21) (fun _ h9 => h9) rfl dX8_access_23 ?_
  refine lv_iload_n hx hb dX8_access_26 rfl (lv_at hl 1 rfl) ?_
  refine lv_iload_n hx hb dX8_access_27 rfl (lv_at hl 2 rfl) ?_
  refine lv_iload_n hx hb dX8_access_28 rfl (lv_at hl 3 rfl) ?_
  refine gk_callRi ⟨hx, hb, hml, hown, hts⟩ (c_X7_decided l D cI cZ cG cL ad (by decide) hw) (cwV 3 hts (gk_gV ml_X8_226 im_X7_decided se_X7_decided in_X7 co_X7_decided) rfl rfl rfl (by decide +kernel) ⟨Nat.le_of_ble_eq_true rfl, Nat.le_of_ble_eq_true rfl⟩) (gk_recv hK.1 (gk_ov hW (v := 0) (by decide)) rfl) hW hK hS rfl hl.1 (rest := []) rfl (lv_room (Nat.le_of_ble_eq_true rfl)) dX8_access_29 ⟨Nat.zero_le _, Nat.zero_le _⟩ (fun r29 H locs hw hW _ hS => ?_)
  refine lv_istore (lv' := [(4, .int r29), (0, .ref (ad 0)), (1, .int a0), (2, .int a1), (3, .int a2)]) hx hb dX8_access_32 hl (by decide) rfl (fun ls hl => ?_)
  refine lv_iload hx hb dX8_access_34 (lv_at hl 0 rfl) ?_
  refine lv_iconst (v := 1) hx hb dX8_access_36 (by decide) ?_
  refine lv_icmp_eq (tgt := 46) hx hb dX8_access_37 (by decide) (fun c37 => ?_) (fun c37 => ?_)
  · have hw := hw.1 c37
    refine tJ_X8_access_46 C0 hK (hk59 := ?_) σ19 a0 a1 a2 r29 hw _ _ hW hS _ (lv_sub hl [1, 2, 3, 4, 0] rfl)
    · intro σ x4 hw H locs hW hS ls hl
      refine tJ_X8_access_59 C0 hK  σ x4 hw _ _ hW hS _ hl
  · have hw := hw.2 c37
    refine lv_iload hx hb dX8_access_40 (lv_at hl 0 rfl) ?_
    refine lv_iconst (v := 3) hx hb dX8_access_42 (by decide) ?_
    refine lv_icmp_ne (tgt := 59) hx hb dX8_access_43 (by decide) (fun c43 => ?_) (fun c43 => ?_)
    · have hw := hw.1 c43
      refine tJ_X8_access_59 C0 hK  σ19 r29 hw _ _ hW hS _ (lv_sub hl [1, 0] rfl)
    · have hw := hw.2 c43
      refine tJ_X8_access_46 C0 hK (hk59 := ?_) σ19 a0 a1 a2 r29 hw _ _ hW hS _ (lv_sub hl [1, 2, 3, 4, 0] rfl)
      · intro σ x4 hw H locs hW hS ls hl
        refine tJ_X8_access_59 C0 hK  σ x4 hw _ _ hW hS _ hl
def wJ_X8_done_20 (σ : gk_C) (k21 : Int32 → Int32 → Int32 → Prop) (x1 : Int32) (x2 : Int32) : Prop := (k21 x1 x2 0)
def wJ_X8_done_21 (σ : gk_C) (Q : Int32 → Prop) (x1 : Int32) (x2 : Int32) (t0 : Int32) : Prop := ((¬ t0 = 0) ∧ w_X6_doneOn σ x1 x2 (fun r33 => Q r33))
def w_X8_done (σ : gk_C) (a0 : Int32) (a1 : Int32) (Q : Int32 → Prop) : Prop := (w_X8_isUser σ a0 (fun r2 => ((r2 = 0) → (wJ_X8_done_20 σ (fun x1 x2 t0 => (wJ_X8_done_21 σ Q x1 x2 t0)) a0 a1)) ∧ ((¬ r2 = 0) → (w_X8_isResource σ a1 (fun r10 => ((r10 = 0) → (wJ_X8_done_20 σ (fun x1 x2 t0 => (wJ_X8_done_21 σ Q x1 x2 t0)) a0 a1)) ∧ ((¬ r10 = 0) → (wJ_X8_done_21 σ Q a0 a1 1)))))))
abbrev rmX8_done : Room := { frames := 2, cells := 0, slots := 0, locals := 43 }
set_option maxHeartbeats 4000000 in
set_option maxRecDepth 100000 in
theorem tJ_X8_done_20 {p : Program} {l : Launch} {e : Env} {s : State} {m : MethodId} {args : Array Value} {below : List Frame} {meth : Method} {c : Code} {D : va_G} {cI cZ cG cL : ClassId} {ad : Nat → Nat} (C0 : gk_F p s m args meth c cX8_done 3 (some .int) RX8) (hK : gk_K D cI cZ cG cL s) {σ : gk_C} {Q : Int32 → Prop} {k21 : Int32 → Int32 → Int32 → Prop} (hk21 : ∀ (x1 : Int32) (x2 : Int32) (t0 : Int32), k21 x1 x2 t0 → ∀ (H : Heap) (locs : List Loc), gk_W D cI ad σ H → va_S (gk_A ad s.heap.size) s.heap H locs → ∀ (ls : Array Slot), lv_has ls 3 [(0, .ref (ad 0)), (1, .int x1), (2, .int x2)] → W p l e rmX8_done s m args below meth c H locs 0 0 (MQ below (va_Qi (fun r u => u = σ ∧ Q r) (gk_B D cI ad) (gk_A ad s.heap.size)) args s 0 0 (gk_A ad s.heap.size)) (F0 m 21 ls [.int t0])) : ∀ (x1 : Int32) (x2 : Int32), wJ_X8_done_20 σ k21 x1 x2 → ∀ (H : Heap) (locs : List Loc), gk_W D cI ad σ H → va_S (gk_A ad s.heap.size) s.heap H locs → ∀ (ls : Array Slot), lv_has ls 3 [(0, .ref (ad 0)), (1, .int x1), (2, .int x2)] → W p l e rmX8_done s m args below meth c H locs 0 0 (MQ below (va_Qi (fun r u => u = σ ∧ Q r) (gk_B D cI ad) (gk_A ad s.heap.size)) args s 0 0 (gk_A ad s.heap.size)) (F0 m 20 ls []) := by
  obtain ⟨hx, hb, hml, hown, hts, hr, hlocks⟩ := id C0
  intro x1 x2 hw H locs hW hS ls hl
  refine lv_iconst (v := 0) hx hb dX8_done_20 (by decide) ?_
  exact hk21 x1 x2 0 hw _ _ hW hS _ hl
set_option maxHeartbeats 4000000 in
set_option maxRecDepth 100000 in
theorem tJ_X8_done_21 {p : Program} {l : Launch} {e : Env} {s : State} {m : MethodId} {args : Array Value} {below : List Frame} {meth : Method} {c : Code} {D : va_G} {cI cZ cG cL : ClassId} {ad : Nat → Nat} (C0 : gk_F p s m args meth c cX8_done 3 (some .int) RX8) (hK : gk_K D cI cZ cG cL s) {σ : gk_C} {Q : Int32 → Prop} : ∀ (x1 : Int32) (x2 : Int32) (t0 : Int32), wJ_X8_done_21 σ Q x1 x2 t0 → ∀ (H : Heap) (locs : List Loc), gk_W D cI ad σ H → va_S (gk_A ad s.heap.size) s.heap H locs → ∀ (ls : Array Slot), lv_has ls 3 [(0, .ref (ad 0)), (1, .int x1), (2, .int x2)] → W p l e rmX8_done s m args below meth c H locs 0 0 (MQ below (va_Qi (fun r u => u = σ ∧ Q r) (gk_B D cI ad) (gk_A ad s.heap.size)) args s 0 0 (gk_A ad s.heap.size)) (F0 m 21 ls [.int t0]) := by
  obtain ⟨hx, hb, hml, hown, hts, hr, hlocks⟩ := id C0
  intro x1 x2 t0 hw H locs hW hS ls hl
  obtain ⟨hc, hw⟩ := hw
  refine gk_callSv ⟨hx, hb, hml, hown, hts⟩ (c0_X8_checkThere l hc) (va_cwS 1 hts (gk_gS ml_X8_76 st_X8_checkThere in_X8 co_X8_checkThere) rfl rfl rfl (by decide +kernel) ⟨Nat.le_of_ble_eq_true rfl, Nat.le_of_ble_eq_true rfl⟩) hS rfl hl.1 (rest := []) rfl (lv_room (Nat.le_of_ble_eq_true rfl)) dX8_done_21 ⟨Nat.zero_le _, Nat.zero_le _⟩ (fun H locs _ hk hS => ?_)
  have hW := hW.kept (fun k hk9 => hk _ (hW.lt hk9))
  refine lv_aload_n hx hb dX8_done_24 rfl (lv_at hl 0 rfl) ?_
  refine gk_get hx hb hts iwX8 hown hK.1 (gk_o0 hW) rfl 0 (by decide) (hts _ fl_X8_10) (fun _ h9 => h9) rfl dX8_done_25 ?_
  refine gk_getN hx hb hts iwX4 hown hK.1 (gk_o1 hW) rfl 0 (by decide) (gk_nw hK nf_X8_45) (fun _ h9 => h9) rfl dX8_done_28 ?_
  refine lv_iload_n hx hb dX8_done_31 rfl (lv_at hl 1 rfl) ?_
  refine lv_iload_n hx hb dX8_done_32 rfl (lv_at hl 2 rfl) ?_
  refine gk_callRi ⟨hx, hb, hml, hown, hts⟩ (c_X6_doneOn l D cI cZ cG cL ad hw) (cwV 2 hts (gk_gV ml_X8_235 im_X6_doneOn se_X6_doneOn in_X6 co_X6_doneOn) rfl rfl rfl (by decide +kernel) ⟨Nat.le_of_ble_eq_true rfl, Nat.le_of_ble_eq_true rfl⟩) (gk_recv hK.1 (gk_o2 hW) rfl) hW hK hS rfl hl.1 (rest := []) rfl (lv_room (Nat.le_of_ble_eq_true rfl)) dX8_done_33 ⟨Nat.zero_le _, Nat.zero_le _⟩ (fun r33 H locs hw hW _ hS => ?_)
  exact gk_reti C0 ⟨rfl, hw⟩ hW hS dX8_done_36
set_option maxHeartbeats 4000000 in
set_option maxRecDepth 100000 in
theorem c_X8_done (l : Launch) (D : va_G) (cI cZ cG cL : ClassId) (ad : Nat → Nat) {σ : gk_C} {a0 : Int32} {a1 : Int32} {Q : Int32 → Prop} {sz : Nat} (hw : w_X8_done σ a0 a1 Q) : Met l yX8_done wsX8_done rmX8_done (gk_Pc D cI cZ cG cL ad [.ref (ad 0), .int a0, .int a1] sz σ) (va_Qi (fun r u => u = σ ∧ Q r) (gk_B D cI ad) (gk_A ad sz)) 0 0 (gk_A ad sz) := by
  refine Met.ofW (cc := cX8_done) (maxL := 3) (ret := (some .int)) (by decide) rfl ?_
  intro p e s m args below meth c s₁ B hml0 hv0
  obtain ⟨rfl, hsz, hW, hK⟩ := hv0
  subst hsz
  have C0 : gk_F p s m ([.ref (ad 0), .int a0, .int a1] : List Value).toArray meth c cX8_done 3 (some .int) RX8 := ⟨B.exec, B.bytes, hml0, findClass_of_methodNamed B.named, fun w hw => atoms_spec (ws := wsX8_done) B.pre w (List.mem_cons_of_mem _ hw), B.returns, B.notSynchronized⟩
  obtain ⟨hx, hb, hml, hown, hts, hr, hlocks⟩ := id C0
  have hS : va_S (gk_A ad s.heap.size) s.heap s.heap [] := va_S.rf
  have hl := lv_entry ([.ref (ad 0), .int a0, .int a1]) (n := 3) (Nat.le_of_ble_eq_true rfl)
  rw [lg_entry_eq]
  generalize (lg_sl ([.ref (ad 0), .int a0, .int a1]) ++ List.replicate (3 - (lg_sl ([.ref (ad 0), .int a0, .int a1])).length) Slot.unset).toArray = ls at hl ⊢
  have hl : lv_has ls 3 [(0, .ref (ad 0)), (1, .int a0), (2, .int a1)] := hl
  show W p l e rmX8_done s m _ below meth c s.heap [] 0 0 _ _
  refine lv_aload_n hx hb dX8_done_0 rfl (lv_at hl 0 rfl) ?_
  refine lv_iload_n hx hb dX8_done_1 rfl (lv_at hl 1 rfl) ?_
  refine gk_callRi ⟨hx, hb, hml, hown, hts⟩ (c_X8_isUser l D cI cZ cG cL ad hw) (cwV 1 hts (gk_gV ml_X8_89 im_X8_isUser se_X8_isUser in_X8 co_X8_isUser) rfl rfl rfl (by decide +kernel) ⟨Nat.le_of_ble_eq_true rfl, Nat.le_of_ble_eq_true rfl⟩) (gk_recv hK.1 (gk_o0 hW) rfl) hW hK hS rfl hl.1 (rest := []) rfl (lv_room (Nat.le_of_ble_eq_true rfl)) dX8_done_2 ⟨Nat.zero_le _, Nat.zero_le _⟩ (fun r2 H locs hw hW _ hS => ?_)
  refine lv_if_eq (tgt := 20) hx hb dX8_done_5 (by decide) (fun c5 => ?_) (fun c5 => ?_)
  · have hw := hw.1 c5
    refine tJ_X8_done_20 C0 hK (hk21 := ?_) a0 a1 hw _ _ hW hS _ hl
    · intro x1 x2 t0 hw H locs hW hS ls hl
      refine tJ_X8_done_21 C0 hK  x1 x2 t0 hw _ _ hW hS _ hl
  · have hw := hw.2 c5
    refine lv_aload_n hx hb dX8_done_8 rfl (lv_at hl 0 rfl) ?_
    refine lv_iload_n hx hb dX8_done_9 rfl (lv_at hl 2 rfl) ?_
    refine gk_callRi ⟨hx, hb, hml, hown, hts⟩ (c_X8_isResource l D cI cZ cG cL ad hw) (cwV 1 hts (gk_gV ml_X8_72 im_X8_isResource se_X8_isResource in_X8 co_X8_isResource) rfl rfl rfl (by decide +kernel) ⟨Nat.le_of_ble_eq_true rfl, Nat.le_of_ble_eq_true rfl⟩) (gk_recv hK.1 (gk_o0 hW) rfl) hW hK hS rfl hl.1 (rest := []) rfl (lv_room (Nat.le_of_ble_eq_true rfl)) dX8_done_10 ⟨Nat.zero_le _, Nat.zero_le _⟩ (fun r10 H locs hw hW _ hS => ?_)
    refine lv_if_eq (tgt := 20) hx hb dX8_done_13 (by decide) (fun c13 => ?_) (fun c13 => ?_)
    · have hw := hw.1 c13
      refine tJ_X8_done_20 C0 hK (hk21 := ?_) a0 a1 hw _ _ hW hS _ hl
      · intro x1 x2 t0 hw H locs hW hS ls hl
        refine tJ_X8_done_21 C0 hK  x1 x2 t0 hw _ _ hW hS _ hl
    · have hw := hw.2 c13
      refine lv_iconst (v := 1) hx hb dX8_done_16 (by decide) ?_
      refine lv_goto (tgt := 21) hx hb dX8_done_17 (by decide) ?_
      refine tJ_X8_done_21 C0 hK  a0 a1 1 hw _ _ hW hS _ hl
def wJ_X8_who_19 (k20 : gk_C → Int32 → Int32 → Int32 → Prop) (σ : gk_C) (x1 : Int32) (x2 : Int32) : Prop := (k20 σ x1 x2 0)
def wL_X8_who_43 (Q : Int32 → gk_C → Prop) : Nat → gk_C → Int32 → Int32 → Int32 → Int32 → Prop
  | 0 => fun _ _ _ _ _ => False
  | n + 1 => fun σ x1 x2 x3 x4 => ((((σ.2 0) ≤ x4) → (Q x3 σ)) ∧ ((¬ (σ.2 0) ≤ x4) → (w_X7_isAllowed 0 σ x4 x1 x2 (fun r66 => ((r66 = 0) → (wL_X8_who_43 Q n σ x1 x2 x3 (x4 + 1))) ∧ ((¬ r66 = 0) → (wL_X8_who_43 Q n σ x1 x2 (x3 ||| (1 <<< (x4 &&& 31))) (x4 + 1)))))))
def wJ_X8_who_20 (Q : Int32 → gk_C → Prop) (σ : gk_C) (x1 : Int32) (x2 : Int32) (t0 : Int32) : Prop := ((¬ t0 = 0) ∧ w_X7_look 0 σ (σ.2 6) 0 (fun σ35 => ∃ n43, wL_X8_who_43 Q n43 σ35 x1 x2 0 0))
def w_X8_who (σ : gk_C) (a0 : Int32) (a1 : Int32) (Q : Int32 → gk_C → Prop) : Prop := (w_X8_isAction a0 (fun r1 => ((r1 = 0) → (wJ_X8_who_19 (fun σ x1 x2 t0 => (wJ_X8_who_20 Q σ x1 x2 t0)) σ a0 a1)) ∧ ((¬ r1 = 0) → (w_X8_isResource σ a1 (fun r9 => ((r9 = 0) → (wJ_X8_who_19 (fun σ x1 x2 t0 => (wJ_X8_who_20 Q σ x1 x2 t0)) σ a0 a1)) ∧ ((¬ r9 = 0) → (wJ_X8_who_20 Q σ a0 a1 1)))))))
abbrev rmX8_who : Room := { frames := 6, cells := 0, slots := 0, locals := 142 }
set_option maxHeartbeats 4000000 in
set_option maxRecDepth 100000 in
theorem tJ_X8_who_19 {p : Program} {l : Launch} {e : Env} {s : State} {m : MethodId} {args : Array Value} {below : List Frame} {meth : Method} {c : Code} {D : va_G} {cI cZ cG cL : ClassId} {ad : Nat → Nat} (C0 : gk_F p s m args meth c cX8_who 5 (some .int) RX8) (hK : gk_K D cI cZ cG cL s) {Q : Int32 → gk_C → Prop} {k20 : gk_C → Int32 → Int32 → Int32 → Prop} (hk20 : ∀ (σ : gk_C) (x1 : Int32) (x2 : Int32) (t0 : Int32), k20 σ x1 x2 t0 → ∀ (H : Heap) (locs : List Loc), gk_W D cI ad σ H → va_S (gk_A ad s.heap.size) s.heap H locs → ∀ (ls : Array Slot), lv_has ls 5 [(0, .ref (ad 0)), (1, .int x1), (2, .int x2)] → W p l e rmX8_who s m args below meth c H locs 0 0 (MQ below (va_Qi (fun r u => Q r u) (gk_B D cI ad) (gk_A ad s.heap.size)) args s 0 0 (gk_A ad s.heap.size)) (F0 m 20 ls [.int t0])) : ∀ (σ : gk_C) (x1 : Int32) (x2 : Int32), wJ_X8_who_19 k20 σ x1 x2 → ∀ (H : Heap) (locs : List Loc), gk_W D cI ad σ H → va_S (gk_A ad s.heap.size) s.heap H locs → ∀ (ls : Array Slot), lv_has ls 5 [(0, .ref (ad 0)), (1, .int x1), (2, .int x2)] → W p l e rmX8_who s m args below meth c H locs 0 0 (MQ below (va_Qi (fun r u => Q r u) (gk_B D cI ad) (gk_A ad s.heap.size)) args s 0 0 (gk_A ad s.heap.size)) (F0 m 19 ls []) := by
  obtain ⟨hx, hb, hml, hown, hts, hr, hlocks⟩ := id C0
  intro σ x1 x2 hw H locs hW hS ls hl
  refine lv_iconst (v := 0) hx hb dX8_who_19 (by decide) ?_
  exact hk20 σ x1 x2 0 hw _ _ hW hS _ hl
set_option maxHeartbeats 4000000 in
set_option maxRecDepth 100000 in
theorem tL_X8_who_43 {p : Program} {l : Launch} {e : Env} {s : State} {m : MethodId} {args : Array Value} {below : List Frame} {meth : Method} {c : Code} {D : va_G} {cI cZ cG cL : ClassId} {ad : Nat → Nat} (C0 : gk_F p s m args meth c cX8_who 5 (some .int) RX8) (hK : gk_K D cI cZ cG cL s) {Q : Int32 → gk_C → Prop} : ∀ (n : Nat) (σ : gk_C) (x1 : Int32) (x2 : Int32) (x3 : Int32) (x4 : Int32), wL_X8_who_43 Q n σ x1 x2 x3 x4 → ∀ (H : Heap) (locs : List Loc), gk_W D cI ad σ H → va_S (gk_A ad s.heap.size) s.heap H locs → ∀ (ls : Array Slot), lv_has ls 5 [(0, .ref (ad 0)), (1, .int x1), (2, .int x2), (3, .int x3), (4, .int x4)] → W p l e rmX8_who s m args below meth c H locs 0 0 (MQ below (va_Qi (fun r u => Q r u) (gk_B D cI ad) (gk_A ad s.heap.size)) args s 0 0 (gk_A ad s.heap.size)) (F0 m 43 ls []) := by
  obtain ⟨hx, hb, hml, hown, hts, hr, hlocks⟩ := id C0
  intro n
  induction n with
  | zero => exact fun _ _ _ _ _ hw => False.elim hw
  | succ n ih =>
    intro σ x1 x2 x3 x4 hw H locs hW hS ls hl
    refine lv_iload hx hb dX8_who_43 (lv_at hl 4 rfl) ?_
    refine lv_aload_n hx hb dX8_who_45 rfl (lv_at hl 0 rfl) ?_
    refine gk_get hx hb hts iwX8 hown hK.1 (gk_o0 hW) rfl 0 (by decide) (hts _ fl_X8_10) (fun _ h9 => h9) rfl dX8_who_46 ?_
    refine gk_getN hx hb hts iwX4 hown hK.1 (gk_o1 hW) rfl 0 (by decide) (gk_nw hK nf_X8_45) (fun _ h9 => h9) rfl dX8_who_49 ?_
    refine gk_getN hx hb hts iwX6 hown hK.1 (gk_o2 hW) rfl 0 (by decide) (gk_nw hK nf_X8_49) (fun _ h9 => h9) rfl dX8_who_52 ?_
    refine lv_icmp_ge (tgt := 85) hx hb dX8_who_55 (by decide) (fun c55 => ?_) (fun c55 => ?_)
    · have hw := hw.1 c55
      refine lv_iload_n hx hb dX8_who_85 rfl (lv_at hl 3 rfl) ?_
      exact gk_reti C0 hw hW hS dX8_who_86
    · have hw := hw.2 c55
      refine lv_aload_n hx hb dX8_who_58 rfl (lv_at hl 0 rfl) ?_
      refine gk_get hx hb hts iwX8 hown hK.1 (gk_o0 hW) rfl 1 (by decide) (hts _ fl_X8_21) (fun _ h9 => h9) rfl dX8_who_59 ?_
      refine lv_iload hx hb dX8_who_62 (lv_at hl 4 rfl) ?_
      refine lv_iload_n hx hb dX8_who_64 rfl (lv_at hl 1 rfl) ?_
      refine lv_iload_n hx hb dX8_who_65 rfl (lv_at hl 2 rfl) ?_
      refine gk_callRi ⟨hx, hb, hml, hown, hts⟩ (c_X7_isAllowed l D cI cZ cG cL ad (by decide) hw) (cwV 3 hts (gk_gV ml_X8_238 im_X7_isAllowed se_X7_isAllowed in_X7 co_X7_isAllowed) rfl rfl rfl (by decide +kernel) ⟨Nat.le_of_ble_eq_true rfl, Nat.le_of_ble_eq_true rfl⟩) (gk_recv hK.1 (gk_ov hW (v := 0) (by decide)) rfl) hW hK hS rfl hl.1 (rest := []) rfl (lv_room (Nat.le_of_ble_eq_true rfl)) dX8_who_66 ⟨Nat.zero_le _, Nat.zero_le _⟩ (fun r66 H locs hw hW _ hS => ?_)
      refine lv_if_eq (tgt := 79) hx hb dX8_who_69 (by decide) (fun c69 => ?_) (fun c69 => ?_)
      · have hw := hw.1 c69
        refine lv_iinc (v := (x4 + 1)) (lv' := [(4, .int (x4 + 1)), (0, .ref (ad 0)), (1, .int x1), (2, .int x2), (3, .int x3)]) hx hb dX8_who_79 hl (k := 4) rfl rfl (by decide) rfl (fun ls hl => ?_)
        refine lv_goto (tgt := 43) hx hb dX8_who_82 (by decide) ?_
        exact ih σ x1 x2 x3 (x4 + 1) hw _ _ hW hS _ (lv_sub hl [1, 2, 3, 4, 0] rfl)
      · have hw := hw.2 c69
        refine lv_iload_n hx hb dX8_who_72 rfl (lv_at hl 3 rfl) ?_
        refine lv_iconst (v := 1) hx hb dX8_who_73 (by decide) ?_
        refine lv_iload hx hb dX8_who_74 (lv_at hl 4 rfl) ?_
        refine lv_ishl hx hb dX8_who_76 ?_
        refine lv_ior hx hb dX8_who_77 ?_
        refine lv_istore_n (lv' := [(3, .int (x3 ||| (1 <<< (x4 &&& 31)))), (0, .ref (ad 0)), (1, .int x1), (2, .int x2), (4, .int x4)]) hx hb dX8_who_78 rfl hl (by decide) rfl (fun ls hl => ?_)
        refine lv_iinc (v := (x4 + 1)) (lv' := [(4, .int (x4 + 1)), (3, .int (x3 ||| (1 <<< (x4 &&& 31)))), (0, .ref (ad 0)), (1, .int x1), (2, .int x2)]) hx hb dX8_who_79 hl (k := 4) rfl rfl (by decide) rfl (fun ls hl => ?_)
        refine lv_goto (tgt := 43) hx hb dX8_who_82 (by decide) ?_
        exact ih σ x1 x2 (x3 ||| (1 <<< (x4 &&& 31))) (x4 + 1) hw _ _ hW hS _ (lv_sub hl [2, 3, 4, 1, 0] rfl)
set_option maxHeartbeats 4000000 in
set_option maxRecDepth 100000 in
theorem tJ_X8_who_20 {p : Program} {l : Launch} {e : Env} {s : State} {m : MethodId} {args : Array Value} {below : List Frame} {meth : Method} {c : Code} {D : va_G} {cI cZ cG cL : ClassId} {ad : Nat → Nat} (C0 : gk_F p s m args meth c cX8_who 5 (some .int) RX8) (hK : gk_K D cI cZ cG cL s) {Q : Int32 → gk_C → Prop} : ∀ (σ : gk_C) (x1 : Int32) (x2 : Int32) (t0 : Int32), wJ_X8_who_20 Q σ x1 x2 t0 → ∀ (H : Heap) (locs : List Loc), gk_W D cI ad σ H → va_S (gk_A ad s.heap.size) s.heap H locs → ∀ (ls : Array Slot), lv_has ls 5 [(0, .ref (ad 0)), (1, .int x1), (2, .int x2)] → W p l e rmX8_who s m args below meth c H locs 0 0 (MQ below (va_Qi (fun r u => Q r u) (gk_B D cI ad) (gk_A ad s.heap.size)) args s 0 0 (gk_A ad s.heap.size)) (F0 m 20 ls [.int t0]) := by
  obtain ⟨hx, hb, hml, hown, hts, hr, hlocks⟩ := id C0
  intro σ x1 x2 t0 hw H locs hW hS ls hl
  obtain ⟨hc, hw⟩ := hw
  refine gk_callSv ⟨hx, hb, hml, hown, hts⟩ (c0_X8_checkThere l hc) (va_cwS 1 hts (gk_gS ml_X8_76 st_X8_checkThere in_X8 co_X8_checkThere) rfl rfl rfl (by decide +kernel) ⟨Nat.le_of_ble_eq_true rfl, Nat.le_of_ble_eq_true rfl⟩) hS rfl hl.1 (rest := []) rfl (lv_room (Nat.le_of_ble_eq_true rfl)) dX8_who_20 ⟨Nat.zero_le _, Nat.zero_le _⟩ (fun H locs _ hk hS => ?_)
  have hW := hW.kept (fun k hk9 => hk _ (hW.lt hk9))
  refine lv_aload_n hx hb dX8_who_23 rfl (lv_at hl 0 rfl) ?_
  refine gk_get hx hb hts iwX8 hown hK.1 (gk_o0 hW) rfl 1 (by decide) (hts _ fl_X8_21) (fun _ h9 => h9) rfl dX8_who_24 ?_
  refine lv_aload_n hx hb dX8_who_27 rfl (lv_at hl 0 rfl) ?_
  refine gk_get hx hb hts iwX8 hown hK.1 (gk_o0 hW) rfl 0 (by decide) (hts _ fl_X8_10) (fun _ h9 => h9) rfl dX8_who_28 ?_
  refine gk_getN hx hb hts iwX4 hown hK.1 (gk_o1 hW) rfl 5 (by decide) (gk_nw hK nf_X8_181) (fun _ h9 => h9) rfl dX8_who_31 ?_
  refine lv_iconst (v := 0) hx hb dX8_who_34 (by decide) ?_
  refine gk_callVv ⟨hx, hb, hml, hown, hts⟩ (c_X7_look l D cI cZ cG cL ad (by decide) hw) (cwV 2 hts (gk_gV ml_X8_188 im_X7_look se_X7_look in_X7 co_X7_look) rfl rfl rfl (by decide +kernel) ⟨Nat.le_of_ble_eq_true rfl, Nat.le_of_ble_eq_true rfl⟩) (gk_recv hK.1 (gk_ov hW (v := 0) (by decide)) rfl) hW hK hS rfl hl.1 (rest := []) rfl (lv_room (Nat.le_of_ble_eq_true rfl)) dX8_who_35 ⟨Nat.zero_le _, Nat.zero_le _⟩ (fun σ35 H locs hw hW _ hS => ?_)
  refine lv_iconst (v := 0) hx hb dX8_who_38 (by decide) ?_
  refine lv_istore_n (lv' := [(3, .int 0), (0, .ref (ad 0)), (1, .int x1), (2, .int x2)]) hx hb dX8_who_39 rfl hl (by decide) rfl (fun ls hl => ?_)
  refine lv_iconst (v := 0) hx hb dX8_who_40 (by decide) ?_
  refine lv_istore (lv' := [(4, .int 0), (3, .int 0), (0, .ref (ad 0)), (1, .int x1), (2, .int x2)]) hx hb dX8_who_41 hl (by decide) rfl (fun ls hl => ?_)
  obtain ⟨n43, hw⟩ := hw
  refine tL_X8_who_43 C0 hK  n43 σ35 x1 x2 0 0 hw _ _ hW hS _ (lv_sub hl [2, 3, 4, 1, 0] rfl)
set_option maxHeartbeats 4000000 in
set_option maxRecDepth 100000 in
theorem c_X8_who (l : Launch) (D : va_G) (cI cZ cG cL : ClassId) (ad : Nat → Nat) {σ : gk_C} {a0 : Int32} {a1 : Int32} {Q : Int32 → gk_C → Prop} {sz : Nat} (hw : w_X8_who σ a0 a1 Q) : Met l yX8_who wsX8_who rmX8_who (gk_Pc D cI cZ cG cL ad [.ref (ad 0), .int a0, .int a1] sz σ) (va_Qi (fun r u => Q r u) (gk_B D cI ad) (gk_A ad sz)) 0 0 (gk_A ad sz) := by
  refine Met.ofW (cc := cX8_who) (maxL := 5) (ret := (some .int)) (by decide) rfl ?_
  intro p e s m args below meth c s₁ B hml0 hv0
  obtain ⟨rfl, hsz, hW, hK⟩ := hv0
  subst hsz
  have C0 : gk_F p s m ([.ref (ad 0), .int a0, .int a1] : List Value).toArray meth c cX8_who 5 (some .int) RX8 := ⟨B.exec, B.bytes, hml0, findClass_of_methodNamed B.named, fun w hw => atoms_spec (ws := wsX8_who) B.pre w (List.mem_cons_of_mem _ hw), B.returns, B.notSynchronized⟩
  obtain ⟨hx, hb, hml, hown, hts, hr, hlocks⟩ := id C0
  have hS : va_S (gk_A ad s.heap.size) s.heap s.heap [] := va_S.rf
  have hl := lv_entry ([.ref (ad 0), .int a0, .int a1]) (n := 5) (Nat.le_of_ble_eq_true rfl)
  rw [lg_entry_eq]
  generalize (lg_sl ([.ref (ad 0), .int a0, .int a1]) ++ List.replicate (5 - (lg_sl ([.ref (ad 0), .int a0, .int a1])).length) Slot.unset).toArray = ls at hl ⊢
  have hl : lv_has ls 5 [(0, .ref (ad 0)), (1, .int a0), (2, .int a1)] := hl
  show W p l e rmX8_who s m _ below meth c s.heap [] 0 0 _ _
  refine lv_iload_n hx hb dX8_who_0 rfl (lv_at hl 1 rfl) ?_
  refine gk_callSi ⟨hx, hb, hml, hown, hts⟩ (c_X8_isAction l hw) (va_cwS 1 hts (gk_gS ml_X8_201 st_X8_isAction in_X8 co_X8_isAction) rfl rfl rfl (by decide +kernel) ⟨Nat.le_of_ble_eq_true rfl, Nat.le_of_ble_eq_true rfl⟩) hS rfl hl.1 (rest := []) rfl (lv_room (Nat.le_of_ble_eq_true rfl)) dX8_who_1 ⟨Nat.zero_le _, Nat.zero_le _⟩ (fun r1 H locs hw _ hk hS => ?_)
  have hW := hW.kept (fun k hk9 => hk _ (hW.lt hk9))
  refine lv_if_eq (tgt := 19) hx hb dX8_who_4 (by decide) (fun c4 => ?_) (fun c4 => ?_)
  · have hw := hw.1 c4
    refine tJ_X8_who_19 C0 hK (hk20 := ?_) σ a0 a1 hw _ _ hW hS _ hl
    · intro σ x1 x2 t0 hw H locs hW hS ls hl
      refine tJ_X8_who_20 C0 hK  σ x1 x2 t0 hw _ _ hW hS _ hl
  · have hw := hw.2 c4
    refine lv_aload_n hx hb dX8_who_7 rfl (lv_at hl 0 rfl) ?_
    refine lv_iload_n hx hb dX8_who_8 rfl (lv_at hl 2 rfl) ?_
    refine gk_callRi ⟨hx, hb, hml, hown, hts⟩ (c_X8_isResource l D cI cZ cG cL ad hw) (cwV 1 hts (gk_gV ml_X8_72 im_X8_isResource se_X8_isResource in_X8 co_X8_isResource) rfl rfl rfl (by decide +kernel) ⟨Nat.le_of_ble_eq_true rfl, Nat.le_of_ble_eq_true rfl⟩) (gk_recv hK.1 (gk_o0 hW) rfl) hW hK hS rfl hl.1 (rest := []) rfl (lv_room (Nat.le_of_ble_eq_true rfl)) dX8_who_9 ⟨Nat.zero_le _, Nat.zero_le _⟩ (fun r9 H locs hw hW _ hS => ?_)
    refine lv_if_eq (tgt := 19) hx hb dX8_who_12 (by decide) (fun c12 => ?_) (fun c12 => ?_)
    · have hw := hw.1 c12
      refine tJ_X8_who_19 C0 hK (hk20 := ?_) σ a0 a1 hw _ _ hW hS _ hl
      · intro σ x1 x2 t0 hw H locs hW hS ls hl
        refine tJ_X8_who_20 C0 hK  σ x1 x2 t0 hw _ _ hW hS _ hl
    · have hw := hw.2 c12
      refine lv_iconst (v := 1) hx hb dX8_who_15 (by decide) ?_
      refine lv_goto (tgt := 20) hx hb dX8_who_16 (by decide) ?_
      refine tJ_X8_who_20 C0 hK  σ a0 a1 1 hw _ _ hW hS _ hl
def wJ_X8_reach_19 (k20 : gk_C → Int32 → Int32 → Int32 → Prop) (σ : gk_C) (x1 : Int32) (x2 : Int32) : Prop := (k20 σ x1 x2 0)
def wJ_X8_reach_20 (Q : Int32 → gk_C → Prop) (σ : gk_C) (x1 : Int32) (x2 : Int32) (t0 : Int32) : Prop := ((¬ t0 = 0) ∧ w_X7_look 0 σ (σ.2 6) 0 (fun σ35 => w_X7_allowedTo 0 σ35 x1 x2 (fun r44 => Q r44 σ35)))
def w_X8_reach (σ : gk_C) (a0 : Int32) (a1 : Int32) (Q : Int32 → gk_C → Prop) : Prop := (w_X8_isUser σ a0 (fun r2 => ((r2 = 0) → (wJ_X8_reach_19 (fun σ x1 x2 t0 => (wJ_X8_reach_20 Q σ x1 x2 t0)) σ a0 a1)) ∧ ((¬ r2 = 0) → (w_X8_isAction a1 (fun r9 => ((r9 = 0) → (wJ_X8_reach_19 (fun σ x1 x2 t0 => (wJ_X8_reach_20 Q σ x1 x2 t0)) σ a0 a1)) ∧ ((¬ r9 = 0) → (wJ_X8_reach_20 Q σ a0 a1 1)))))))
abbrev rmX8_reach : Room := { frames := 7, cells := 0, slots := 0, locals := 163 }
set_option maxHeartbeats 4000000 in
set_option maxRecDepth 100000 in
theorem tJ_X8_reach_19 {p : Program} {l : Launch} {e : Env} {s : State} {m : MethodId} {args : Array Value} {below : List Frame} {meth : Method} {c : Code} {D : va_G} {cI cZ cG cL : ClassId} {ad : Nat → Nat} (C0 : gk_F p s m args meth c cX8_reach 3 (some .int) RX8) (hK : gk_K D cI cZ cG cL s) {Q : Int32 → gk_C → Prop} {k20 : gk_C → Int32 → Int32 → Int32 → Prop} (hk20 : ∀ (σ : gk_C) (x1 : Int32) (x2 : Int32) (t0 : Int32), k20 σ x1 x2 t0 → ∀ (H : Heap) (locs : List Loc), gk_W D cI ad σ H → va_S (gk_A ad s.heap.size) s.heap H locs → ∀ (ls : Array Slot), lv_has ls 3 [(0, .ref (ad 0)), (1, .int x1), (2, .int x2)] → W p l e rmX8_reach s m args below meth c H locs 0 0 (MQ below (va_Qi (fun r u => Q r u) (gk_B D cI ad) (gk_A ad s.heap.size)) args s 0 0 (gk_A ad s.heap.size)) (F0 m 20 ls [.int t0])) : ∀ (σ : gk_C) (x1 : Int32) (x2 : Int32), wJ_X8_reach_19 k20 σ x1 x2 → ∀ (H : Heap) (locs : List Loc), gk_W D cI ad σ H → va_S (gk_A ad s.heap.size) s.heap H locs → ∀ (ls : Array Slot), lv_has ls 3 [(0, .ref (ad 0)), (1, .int x1), (2, .int x2)] → W p l e rmX8_reach s m args below meth c H locs 0 0 (MQ below (va_Qi (fun r u => Q r u) (gk_B D cI ad) (gk_A ad s.heap.size)) args s 0 0 (gk_A ad s.heap.size)) (F0 m 19 ls []) := by
  obtain ⟨hx, hb, hml, hown, hts, hr, hlocks⟩ := id C0
  intro σ x1 x2 hw H locs hW hS ls hl
  refine lv_iconst (v := 0) hx hb dX8_reach_19 (by decide) ?_
  exact hk20 σ x1 x2 0 hw _ _ hW hS _ hl
set_option maxHeartbeats 4000000 in
set_option maxRecDepth 100000 in
theorem tJ_X8_reach_20 {p : Program} {l : Launch} {e : Env} {s : State} {m : MethodId} {args : Array Value} {below : List Frame} {meth : Method} {c : Code} {D : va_G} {cI cZ cG cL : ClassId} {ad : Nat → Nat} (C0 : gk_F p s m args meth c cX8_reach 3 (some .int) RX8) (hK : gk_K D cI cZ cG cL s) {Q : Int32 → gk_C → Prop} : ∀ (σ : gk_C) (x1 : Int32) (x2 : Int32) (t0 : Int32), wJ_X8_reach_20 Q σ x1 x2 t0 → ∀ (H : Heap) (locs : List Loc), gk_W D cI ad σ H → va_S (gk_A ad s.heap.size) s.heap H locs → ∀ (ls : Array Slot), lv_has ls 3 [(0, .ref (ad 0)), (1, .int x1), (2, .int x2)] → W p l e rmX8_reach s m args below meth c H locs 0 0 (MQ below (va_Qi (fun r u => Q r u) (gk_B D cI ad) (gk_A ad s.heap.size)) args s 0 0 (gk_A ad s.heap.size)) (F0 m 20 ls [.int t0]) := by
  obtain ⟨hx, hb, hml, hown, hts, hr, hlocks⟩ := id C0
  intro σ x1 x2 t0 hw H locs hW hS ls hl
  obtain ⟨hc, hw⟩ := hw
  refine gk_callSv ⟨hx, hb, hml, hown, hts⟩ (c0_X8_checkThere l hc) (va_cwS 1 hts (gk_gS ml_X8_76 st_X8_checkThere in_X8 co_X8_checkThere) rfl rfl rfl (by decide +kernel) ⟨Nat.le_of_ble_eq_true rfl, Nat.le_of_ble_eq_true rfl⟩) hS rfl hl.1 (rest := []) rfl (lv_room (Nat.le_of_ble_eq_true rfl)) dX8_reach_20 ⟨Nat.zero_le _, Nat.zero_le _⟩ (fun H locs _ hk hS => ?_)
  have hW := hW.kept (fun k hk9 => hk _ (hW.lt hk9))
  refine lv_aload_n hx hb dX8_reach_23 rfl (lv_at hl 0 rfl) ?_
  refine gk_get hx hb hts iwX8 hown hK.1 (gk_o0 hW) rfl 1 (by decide) (hts _ fl_X8_21) (fun _ h9 => h9) rfl dX8_reach_24 ?_
  refine lv_aload_n hx hb dX8_reach_27 rfl (lv_at hl 0 rfl) ?_
  refine gk_get hx hb hts iwX8 hown hK.1 (gk_o0 hW) rfl 0 (by decide) (hts _ fl_X8_10) (fun _ h9 => h9) rfl dX8_reach_28 ?_
  refine gk_getN hx hb hts iwX4 hown hK.1 (gk_o1 hW) rfl 5 (by decide) (gk_nw hK nf_X8_181) (fun _ h9 => h9) rfl dX8_reach_31 ?_
  refine lv_iconst (v := 0) hx hb dX8_reach_34 (by decide) ?_
  refine gk_callVv ⟨hx, hb, hml, hown, hts⟩ (c_X7_look l D cI cZ cG cL ad (by decide) hw) (cwV 2 hts (gk_gV ml_X8_188 im_X7_look se_X7_look in_X7 co_X7_look) rfl rfl rfl (by decide +kernel) ⟨Nat.le_of_ble_eq_true rfl, Nat.le_of_ble_eq_true rfl⟩) (gk_recv hK.1 (gk_ov hW (v := 0) (by decide)) rfl) hW hK hS rfl hl.1 (rest := []) rfl (lv_room (Nat.le_of_ble_eq_true rfl)) dX8_reach_35 ⟨Nat.zero_le _, Nat.zero_le _⟩ (fun σ35 H locs hw hW _ hS => ?_)
  refine lv_aload_n hx hb dX8_reach_38 rfl (lv_at hl 0 rfl) ?_
  refine gk_get hx hb hts iwX8 hown hK.1 (gk_o0 hW) rfl 1 (by decide) (hts _ fl_X8_21) (fun _ h9 => h9) rfl dX8_reach_39 ?_
  refine lv_iload_n hx hb dX8_reach_42 rfl (lv_at hl 1 rfl) ?_
  refine lv_iload_n hx hb dX8_reach_43 rfl (lv_at hl 2 rfl) ?_
  refine gk_callRi ⟨hx, hb, hml, hown, hts⟩ (c_X7_allowedTo l D cI cZ cG cL ad (by decide) hw) (cwV 2 hts (gk_gV ml_X8_242 im_X7_allowedTo se_X7_allowedTo in_X7 co_X7_allowedTo) rfl rfl rfl (by decide +kernel) ⟨Nat.le_of_ble_eq_true rfl, Nat.le_of_ble_eq_true rfl⟩) (gk_recv hK.1 (gk_ov hW (v := 0) (by decide)) rfl) hW hK hS rfl hl.1 (rest := []) rfl (lv_room (Nat.le_of_ble_eq_true rfl)) dX8_reach_44 ⟨Nat.zero_le _, Nat.zero_le _⟩ (fun r44 H locs hw hW _ hS => ?_)
  exact gk_reti C0 hw hW hS dX8_reach_47
set_option maxHeartbeats 4000000 in
set_option maxRecDepth 100000 in
theorem c_X8_reach (l : Launch) (D : va_G) (cI cZ cG cL : ClassId) (ad : Nat → Nat) {σ : gk_C} {a0 : Int32} {a1 : Int32} {Q : Int32 → gk_C → Prop} {sz : Nat} (hw : w_X8_reach σ a0 a1 Q) : Met l yX8_reach wsX8_reach rmX8_reach (gk_Pc D cI cZ cG cL ad [.ref (ad 0), .int a0, .int a1] sz σ) (va_Qi (fun r u => Q r u) (gk_B D cI ad) (gk_A ad sz)) 0 0 (gk_A ad sz) := by
  refine Met.ofW (cc := cX8_reach) (maxL := 3) (ret := (some .int)) (by decide) rfl ?_
  intro p e s m args below meth c s₁ B hml0 hv0
  obtain ⟨rfl, hsz, hW, hK⟩ := hv0
  subst hsz
  have C0 : gk_F p s m ([.ref (ad 0), .int a0, .int a1] : List Value).toArray meth c cX8_reach 3 (some .int) RX8 := ⟨B.exec, B.bytes, hml0, findClass_of_methodNamed B.named, fun w hw => atoms_spec (ws := wsX8_reach) B.pre w (List.mem_cons_of_mem _ hw), B.returns, B.notSynchronized⟩
  obtain ⟨hx, hb, hml, hown, hts, hr, hlocks⟩ := id C0
  have hS : va_S (gk_A ad s.heap.size) s.heap s.heap [] := va_S.rf
  have hl := lv_entry ([.ref (ad 0), .int a0, .int a1]) (n := 3) (Nat.le_of_ble_eq_true rfl)
  rw [lg_entry_eq]
  generalize (lg_sl ([.ref (ad 0), .int a0, .int a1]) ++ List.replicate (3 - (lg_sl ([.ref (ad 0), .int a0, .int a1])).length) Slot.unset).toArray = ls at hl ⊢
  have hl : lv_has ls 3 [(0, .ref (ad 0)), (1, .int a0), (2, .int a1)] := hl
  show W p l e rmX8_reach s m _ below meth c s.heap [] 0 0 _ _
  refine lv_aload_n hx hb dX8_reach_0 rfl (lv_at hl 0 rfl) ?_
  refine lv_iload_n hx hb dX8_reach_1 rfl (lv_at hl 1 rfl) ?_
  refine gk_callRi ⟨hx, hb, hml, hown, hts⟩ (c_X8_isUser l D cI cZ cG cL ad hw) (cwV 1 hts (gk_gV ml_X8_89 im_X8_isUser se_X8_isUser in_X8 co_X8_isUser) rfl rfl rfl (by decide +kernel) ⟨Nat.le_of_ble_eq_true rfl, Nat.le_of_ble_eq_true rfl⟩) (gk_recv hK.1 (gk_o0 hW) rfl) hW hK hS rfl hl.1 (rest := []) rfl (lv_room (Nat.le_of_ble_eq_true rfl)) dX8_reach_2 ⟨Nat.zero_le _, Nat.zero_le _⟩ (fun r2 H locs hw hW _ hS => ?_)
  refine lv_if_eq (tgt := 19) hx hb dX8_reach_5 (by decide) (fun c5 => ?_) (fun c5 => ?_)
  · have hw := hw.1 c5
    refine tJ_X8_reach_19 C0 hK (hk20 := ?_) σ a0 a1 hw _ _ hW hS _ hl
    · intro σ x1 x2 t0 hw H locs hW hS ls hl
      refine tJ_X8_reach_20 C0 hK  σ x1 x2 t0 hw _ _ hW hS _ hl
  · have hw := hw.2 c5
    refine lv_iload_n hx hb dX8_reach_8 rfl (lv_at hl 2 rfl) ?_
    refine gk_callSi ⟨hx, hb, hml, hown, hts⟩ (c_X8_isAction l hw) (va_cwS 1 hts (gk_gS ml_X8_201 st_X8_isAction in_X8 co_X8_isAction) rfl rfl rfl (by decide +kernel) ⟨Nat.le_of_ble_eq_true rfl, Nat.le_of_ble_eq_true rfl⟩) hS rfl hl.1 (rest := []) rfl (lv_room (Nat.le_of_ble_eq_true rfl)) dX8_reach_9 ⟨Nat.zero_le _, Nat.zero_le _⟩ (fun r9 H locs hw _ hk hS => ?_)
    have hW := hW.kept (fun k hk9 => hk _ (hW.lt hk9))
    refine lv_if_eq (tgt := 19) hx hb dX8_reach_12 (by decide) (fun c12 => ?_) (fun c12 => ?_)
    · have hw := hw.1 c12
      refine tJ_X8_reach_19 C0 hK (hk20 := ?_) σ a0 a1 hw _ _ hW hS _ hl
      · intro σ x1 x2 t0 hw H locs hW hS ls hl
        refine tJ_X8_reach_20 C0 hK  σ x1 x2 t0 hw _ _ hW hS _ hl
    · have hw := hw.2 c12
      refine lv_iconst (v := 1) hx hb dX8_reach_15 (by decide) ?_
      refine lv_goto (tgt := 20) hx hb dX8_reach_16 (by decide) ?_
      refine tJ_X8_reach_20 C0 hK  σ a0 a1 1 hw _ _ hW hS _ hl
def wJ_X8_rolesNeeded_131 (k132 : gk_C → Int32 → Int32 → Int32 → Int32 → Int32 → Int32 → Int32 → Int32 → Int32 → Int32 → Prop) (σ : gk_C) (x1 : Int32) (x2 : Int32) (x3 : Int32) (x4 : Int32) (x5 : Int32) (x6 : Int32) (x7 : Int32) (x8 : Int32) (x9 : Int32) : Prop := (k132 σ x1 x2 x3 x4 x5 x6 x7 x8 x9 0)
def wJ_X8_rolesNeeded_132 (k77 : gk_C → Int32 → Int32 → Int32 → Int32 → Int32 → Int32 → Int32 → Prop) (σ : gk_C) (x1 : Int32) (x2 : Int32) (x3 : Int32) (x4 : Int32) (x5 : Int32) (x6 : Int32) (x7 : Int32) (x8 : Int32) (x9 : Int32) (t0 : Int32) : Prop := (((t0 = 0) → (k77 σ x1 x2 x3 x4 x5 x6 (x7 + 1))) ∧ ((¬ t0 = 0) → (w_X8_wouldBeAllowed σ x1 x8 x2 x3 (fun r145 σ145 => ((r145 = 0) → (k77 σ145 x1 x2 x3 x4 x5 x6 (x7 + 1))) ∧ ((¬ r145 = 0) → (k77 σ145 x1 x2 x3 x4 x9 x6 (x7 + 1)))))))
def wJ_X8_rolesNeeded_127 (k132 : gk_C → Int32 → Int32 → Int32 → Int32 → Int32 → Int32 → Int32 → Int32 → Int32 → Int32 → Prop) (σ : gk_C) (x1 : Int32) (x2 : Int32) (x3 : Int32) (x4 : Int32) (x5 : Int32) (x6 : Int32) (x7 : Int32) (x8 : Int32) (x9 : Int32) : Prop := (k132 σ x1 x2 x3 x4 x5 x6 x7 x8 x9 1)
def wL_X8_rolesNeeded_77 (k161 : gk_C → Int32 → Int32 → Int32 → Int32 → Int32 → Int32 → Prop) : Nat → gk_C → Int32 → Int32 → Int32 → Int32 → Int32 → Int32 → Int32 → Prop
  | 0 => fun _ _ _ _ _ _ _ _ => False
  | n + 1 => fun σ x1 x2 x3 x4 x5 x6 x7 => (((x6 < x7) → (k161 σ x1 x2 x3 x4 x5 x6)) ∧ ((¬ x6 < x7) → (w_J6_bitCount_0f7a4 (((x4 ||| (1 <<< (x6 &&& 31))) ||| (1 <<< (x7 &&& 31))) &&& (x4 ^^^ (-1))) (fun r105 => ((r105 ≤ 0) → (wJ_X8_rolesNeeded_131 (fun σ x1 x2 x3 x4 x5 x6 x7 x8 x9 t0 => (wJ_X8_rolesNeeded_132 (fun σ x1 x2 x3 x4 x5 x6 x7 => wL_X8_rolesNeeded_77 k161 n σ x1 x2 x3 x4 x5 x6 x7) σ x1 x2 x3 x4 x5 x6 x7 x8 x9 t0)) σ x1 x2 x3 x4 x5 x6 x7 ((x4 ||| (1 <<< (x6 &&& 31))) ||| (1 <<< (x7 &&& 31))) r105)) ∧ ((¬ r105 ≤ 0) → (((x5 < 0) → (wJ_X8_rolesNeeded_127 (fun σ x1 x2 x3 x4 x5 x6 x7 x8 x9 t0 => (wJ_X8_rolesNeeded_132 (fun σ x1 x2 x3 x4 x5 x6 x7 => wL_X8_rolesNeeded_77 k161 n σ x1 x2 x3 x4 x5 x6 x7) σ x1 x2 x3 x4 x5 x6 x7 x8 x9 t0)) σ x1 x2 x3 x4 x5 x6 x7 ((x4 ||| (1 <<< (x6 &&& 31))) ||| (1 <<< (x7 &&& 31))) r105)) ∧ ((¬ x5 < 0) → (((x5 ≤ r105) → (wJ_X8_rolesNeeded_131 (fun σ x1 x2 x3 x4 x5 x6 x7 x8 x9 t0 => (wJ_X8_rolesNeeded_132 (fun σ x1 x2 x3 x4 x5 x6 x7 => wL_X8_rolesNeeded_77 k161 n σ x1 x2 x3 x4 x5 x6 x7) σ x1 x2 x3 x4 x5 x6 x7 x8 x9 t0)) σ x1 x2 x3 x4 x5 x6 x7 ((x4 ||| (1 <<< (x6 &&& 31))) ||| (1 <<< (x7 &&& 31))) r105)) ∧ ((¬ x5 ≤ r105) → (wJ_X8_rolesNeeded_127 (fun σ x1 x2 x3 x4 x5 x6 x7 x8 x9 t0 => (wJ_X8_rolesNeeded_132 (fun σ x1 x2 x3 x4 x5 x6 x7 => wL_X8_rolesNeeded_77 k161 n σ x1 x2 x3 x4 x5 x6 x7) σ x1 x2 x3 x4 x5 x6 x7 x8 x9 t0)) σ x1 x2 x3 x4 x5 x6 x7 ((x4 ||| (1 <<< (x6 &&& 31))) ||| (1 <<< (x7 &&& 31))) r105))))))))))
def wL_X8_rolesNeeded_59 (Q : Int32 → gk_C → Prop) : Nat → gk_C → Int32 → Int32 → Int32 → Int32 → Int32 → Int32 → Prop
  | 0 => fun _ _ _ _ _ _ _ => False
  | n + 1 => fun σ x1 x2 x3 x4 x5 x6 => ((((σ.2 1) ≤ x6) → (Q x5 σ)) ∧ ((¬ (σ.2 1) ≤ x6) → (∃ n77, wL_X8_rolesNeeded_77 (fun σ x1 x2 x3 x4 x5 x6 => (wL_X8_rolesNeeded_59 Q n σ x1 x2 x3 x4 x5 (x6 + 1))) n77 σ x1 x2 x3 x4 x5 x6 0)))
def w_X8_rolesNeeded (σ : gk_C) (a0 : Int32) (a1 : Int32) (a2 : Int32) (Q : Int32 → gk_C → Prop) : Prop := (w_X8_checkAsked σ a0 a1 a2 (w_X7_look 1 σ (σ.2 6) 0 (fun σ19 => w_X7_isAllowed 1 σ19 a0 a1 a2 (fun r29 => ((r29 = 0) → (∃ n59, wL_X8_rolesNeeded_59 Q n59 σ19 a0 a1 a2 (gk_at σ19 2 a0) (-1) 0)) ∧ ((¬ r29 = 0) → (Q 0 σ19))))))
abbrev rmX8_rolesNeeded : Room := { frames := 6, cells := 0, slots := 0, locals := 144 }
set_option maxHeartbeats 4000000 in
set_option maxRecDepth 100000 in
theorem tJ_X8_rolesNeeded_131 {p : Program} {l : Launch} {e : Env} {s : State} {m : MethodId} {args : Array Value} {below : List Frame} {meth : Method} {c : Code} {D : va_G} {cI cZ cG cL : ClassId} {ad : Nat → Nat} (C0 : gk_F p s m args meth c cX8_rolesNeeded 11 (some .int) RX8) (hK : gk_K D cI cZ cG cL s) {Q : Int32 → gk_C → Prop} {k132 : gk_C → Int32 → Int32 → Int32 → Int32 → Int32 → Int32 → Int32 → Int32 → Int32 → Int32 → Prop} (hk132 : ∀ (σ : gk_C) (x1 : Int32) (x2 : Int32) (x3 : Int32) (x4 : Int32) (x5 : Int32) (x6 : Int32) (x7 : Int32) (x8 : Int32) (x9 : Int32) (t0 : Int32), k132 σ x1 x2 x3 x4 x5 x6 x7 x8 x9 t0 → ∀ (H : Heap) (locs : List Loc), gk_W D cI ad σ H → va_S (gk_A ad s.heap.size) s.heap H locs → ∀ (ls : Array Slot), lv_has ls 11 [(0, .ref (ad 0)), (1, .int x1), (2, .int x2), (3, .int x3), (4, .int x4), (5, .int x5), (6, .int x6), (7, .int x7), (8, .int x8), (9, .int x9)] → W p l e rmX8_rolesNeeded s m args below meth c H locs 0 0 (MQ below (va_Qi (fun r u => Q r u) (gk_B D cI ad) (gk_A ad s.heap.size)) args s 0 0 (gk_A ad s.heap.size)) (F0 m 132 ls [.int t0])) : ∀ (σ : gk_C) (x1 : Int32) (x2 : Int32) (x3 : Int32) (x4 : Int32) (x5 : Int32) (x6 : Int32) (x7 : Int32) (x8 : Int32) (x9 : Int32), wJ_X8_rolesNeeded_131 k132 σ x1 x2 x3 x4 x5 x6 x7 x8 x9 → ∀ (H : Heap) (locs : List Loc), gk_W D cI ad σ H → va_S (gk_A ad s.heap.size) s.heap H locs → ∀ (ls : Array Slot), lv_has ls 11 [(0, .ref (ad 0)), (1, .int x1), (2, .int x2), (3, .int x3), (4, .int x4), (5, .int x5), (6, .int x6), (7, .int x7), (8, .int x8), (9, .int x9)] → W p l e rmX8_rolesNeeded s m args below meth c H locs 0 0 (MQ below (va_Qi (fun r u => Q r u) (gk_B D cI ad) (gk_A ad s.heap.size)) args s 0 0 (gk_A ad s.heap.size)) (F0 m 131 ls []) := by
  obtain ⟨hx, hb, hml, hown, hts, hr, hlocks⟩ := id C0
  intro σ x1 x2 x3 x4 x5 x6 x7 x8 x9 hw H locs hW hS ls hl
  refine lv_iconst (v := 0) hx hb dX8_rolesNeeded_131 (by decide) ?_
  exact hk132 σ x1 x2 x3 x4 x5 x6 x7 x8 x9 0 hw _ _ hW hS _ hl
set_option maxHeartbeats 4000000 in
set_option maxRecDepth 100000 in
theorem tJ_X8_rolesNeeded_132 {p : Program} {l : Launch} {e : Env} {s : State} {m : MethodId} {args : Array Value} {below : List Frame} {meth : Method} {c : Code} {D : va_G} {cI cZ cG cL : ClassId} {ad : Nat → Nat} (C0 : gk_F p s m args meth c cX8_rolesNeeded 11 (some .int) RX8) (hK : gk_K D cI cZ cG cL s) {Q : Int32 → gk_C → Prop} {k77 : gk_C → Int32 → Int32 → Int32 → Int32 → Int32 → Int32 → Int32 → Prop} (hk77 : ∀ (σ : gk_C) (x1 : Int32) (x2 : Int32) (x3 : Int32) (x4 : Int32) (x5 : Int32) (x6 : Int32) (x7 : Int32), k77 σ x1 x2 x3 x4 x5 x6 x7 → ∀ (H : Heap) (locs : List Loc), gk_W D cI ad σ H → va_S (gk_A ad s.heap.size) s.heap H locs → ∀ (ls : Array Slot), lv_has ls 11 [(0, .ref (ad 0)), (1, .int x1), (2, .int x2), (3, .int x3), (4, .int x4), (5, .int x5), (6, .int x6), (7, .int x7)] → W p l e rmX8_rolesNeeded s m args below meth c H locs 0 0 (MQ below (va_Qi (fun r u => Q r u) (gk_B D cI ad) (gk_A ad s.heap.size)) args s 0 0 (gk_A ad s.heap.size)) (F0 m 77 ls [])) : ∀ (σ : gk_C) (x1 : Int32) (x2 : Int32) (x3 : Int32) (x4 : Int32) (x5 : Int32) (x6 : Int32) (x7 : Int32) (x8 : Int32) (x9 : Int32) (t0 : Int32), wJ_X8_rolesNeeded_132 k77 σ x1 x2 x3 x4 x5 x6 x7 x8 x9 t0 → ∀ (H : Heap) (locs : List Loc), gk_W D cI ad σ H → va_S (gk_A ad s.heap.size) s.heap H locs → ∀ (ls : Array Slot), lv_has ls 11 [(0, .ref (ad 0)), (1, .int x1), (2, .int x2), (3, .int x3), (4, .int x4), (5, .int x5), (6, .int x6), (7, .int x7), (8, .int x8), (9, .int x9)] → W p l e rmX8_rolesNeeded s m args below meth c H locs 0 0 (MQ below (va_Qi (fun r u => Q r u) (gk_B D cI ad) (gk_A ad s.heap.size)) args s 0 0 (gk_A ad s.heap.size)) (F0 m 132 ls [.int t0]) := by
  obtain ⟨hx, hb, hml, hown, hts, hr, hlocks⟩ := id C0
  intro σ x1 x2 x3 x4 x5 x6 x7 x8 x9 t0 hw H locs hW hS ls hl
  refine lv_istore (lv' := [(10, .int t0), (0, .ref (ad 0)), (1, .int x1), (2, .int x2), (3, .int x3), (4, .int x4), (5, .int x5), (6, .int x6), (7, .int x7), (8, .int x8), (9, .int x9)]) hx hb dX8_rolesNeeded_132 hl (by decide) rfl (fun ls hl => ?_)
  refine lv_iload hx hb dX8_rolesNeeded_134 (lv_at hl 0 rfl) ?_
  refine lv_if_eq (tgt := 155) hx hb dX8_rolesNeeded_136 (by decide) (fun c136 => ?_) (fun c136 => ?_)
  · have hw := hw.1 c136
    refine lv_iinc (v := (x7 + 1)) (lv' := [(7, .int (x7 + 1)), (10, .int t0), (0, .ref (ad 0)), (1, .int x1), (2, .int x2), (3, .int x3), (4, .int x4), (5, .int x5), (6, .int x6), (8, .int x8), (9, .int x9)]) hx hb dX8_rolesNeeded_155 hl (k := 8) rfl rfl (by decide) rfl (fun ls hl => ?_)
    refine lv_goto (tgt := 77) hx hb dX8_rolesNeeded_158 (by decide) ?_
    exact hk77 σ x1 x2 x3 x4 x5 x6 (x7 + 1) hw _ _ hW hS _ (lv_sub hl [2, 3, 4, 5, 6, 7, 8, 0] rfl)
  · have hw := hw.2 c136
    refine lv_aload_n hx hb dX8_rolesNeeded_139 rfl (lv_at hl 1 rfl) ?_
    refine lv_iload_n hx hb dX8_rolesNeeded_140 rfl (lv_at hl 2 rfl) ?_
    refine lv_iload hx hb dX8_rolesNeeded_141 (lv_at hl 9 rfl) ?_
    refine lv_iload_n hx hb dX8_rolesNeeded_143 rfl (lv_at hl 3 rfl) ?_
    refine lv_iload_n hx hb dX8_rolesNeeded_144 rfl (lv_at hl 4 rfl) ?_
    refine gk_callVi ⟨hx, hb, hml, hown, hts⟩ (c_X8_wouldBeAllowed l D cI cZ cG cL ad hw) (cwV 4 hts (gk_gV ml_X8_250 im_X8_wouldBeAllowed se_X8_wouldBeAllowed in_X8 co_X8_wouldBeAllowed) rfl rfl rfl (by decide +kernel) ⟨Nat.le_of_ble_eq_true rfl, Nat.le_of_ble_eq_true rfl⟩) (gk_recv hK.1 (gk_o0 hW) rfl) hW hK hS rfl hl.1 (rest := []) rfl (lv_room (Nat.le_of_ble_eq_true rfl)) dX8_rolesNeeded_145 ⟨Nat.zero_le _, Nat.zero_le _⟩ (fun r145 σ145 H locs hw hW _ hS => ?_)
    refine lv_if_eq (tgt := 155) hx hb dX8_rolesNeeded_148 (by decide) (fun c148 => ?_) (fun c148 => ?_)
    · have hw := hw.1 c148
      refine lv_iinc (v := (x7 + 1)) (lv' := [(7, .int (x7 + 1)), (10, .int t0), (0, .ref (ad 0)), (1, .int x1), (2, .int x2), (3, .int x3), (4, .int x4), (5, .int x5), (6, .int x6), (8, .int x8), (9, .int x9)]) hx hb dX8_rolesNeeded_155 hl (k := 8) rfl rfl (by decide) rfl (fun ls hl => ?_)
      refine lv_goto (tgt := 77) hx hb dX8_rolesNeeded_158 (by decide) ?_
      exact hk77 σ145 x1 x2 x3 x4 x5 x6 (x7 + 1) hw _ _ hW hS _ (lv_sub hl [2, 3, 4, 5, 6, 7, 8, 0] rfl)
    · have hw := hw.2 c148
      refine lv_iload hx hb dX8_rolesNeeded_151 (lv_at hl 10 rfl) ?_
      refine lv_istore (lv' := [(5, .int x9), (10, .int t0), (0, .ref (ad 0)), (1, .int x1), (2, .int x2), (3, .int x3), (4, .int x4), (6, .int x6), (7, .int x7), (8, .int x8), (9, .int x9)]) hx hb dX8_rolesNeeded_153 hl (by decide) rfl (fun ls hl => ?_)
      refine lv_iinc (v := (x7 + 1)) (lv' := [(7, .int (x7 + 1)), (5, .int x9), (10, .int t0), (0, .ref (ad 0)), (1, .int x1), (2, .int x2), (3, .int x3), (4, .int x4), (6, .int x6), (8, .int x8), (9, .int x9)]) hx hb dX8_rolesNeeded_155 hl (k := 8) rfl rfl (by decide) rfl (fun ls hl => ?_)
      refine lv_goto (tgt := 77) hx hb dX8_rolesNeeded_158 (by decide) ?_
      exact hk77 σ145 x1 x2 x3 x4 x9 x6 (x7 + 1) hw _ _ hW hS _ (lv_sub hl [3, 4, 5, 6, 7, 1, 8, 0] rfl)
set_option maxHeartbeats 4000000 in
set_option maxRecDepth 100000 in
theorem tJ_X8_rolesNeeded_127 {p : Program} {l : Launch} {e : Env} {s : State} {m : MethodId} {args : Array Value} {below : List Frame} {meth : Method} {c : Code} {D : va_G} {cI cZ cG cL : ClassId} {ad : Nat → Nat} (C0 : gk_F p s m args meth c cX8_rolesNeeded 11 (some .int) RX8) (hK : gk_K D cI cZ cG cL s) {Q : Int32 → gk_C → Prop} {k132 : gk_C → Int32 → Int32 → Int32 → Int32 → Int32 → Int32 → Int32 → Int32 → Int32 → Int32 → Prop} (hk132 : ∀ (σ : gk_C) (x1 : Int32) (x2 : Int32) (x3 : Int32) (x4 : Int32) (x5 : Int32) (x6 : Int32) (x7 : Int32) (x8 : Int32) (x9 : Int32) (t0 : Int32), k132 σ x1 x2 x3 x4 x5 x6 x7 x8 x9 t0 → ∀ (H : Heap) (locs : List Loc), gk_W D cI ad σ H → va_S (gk_A ad s.heap.size) s.heap H locs → ∀ (ls : Array Slot), lv_has ls 11 [(0, .ref (ad 0)), (1, .int x1), (2, .int x2), (3, .int x3), (4, .int x4), (5, .int x5), (6, .int x6), (7, .int x7), (8, .int x8), (9, .int x9)] → W p l e rmX8_rolesNeeded s m args below meth c H locs 0 0 (MQ below (va_Qi (fun r u => Q r u) (gk_B D cI ad) (gk_A ad s.heap.size)) args s 0 0 (gk_A ad s.heap.size)) (F0 m 132 ls [.int t0])) : ∀ (σ : gk_C) (x1 : Int32) (x2 : Int32) (x3 : Int32) (x4 : Int32) (x5 : Int32) (x6 : Int32) (x7 : Int32) (x8 : Int32) (x9 : Int32), wJ_X8_rolesNeeded_127 k132 σ x1 x2 x3 x4 x5 x6 x7 x8 x9 → ∀ (H : Heap) (locs : List Loc), gk_W D cI ad σ H → va_S (gk_A ad s.heap.size) s.heap H locs → ∀ (ls : Array Slot), lv_has ls 11 [(0, .ref (ad 0)), (1, .int x1), (2, .int x2), (3, .int x3), (4, .int x4), (5, .int x5), (6, .int x6), (7, .int x7), (8, .int x8), (9, .int x9)] → W p l e rmX8_rolesNeeded s m args below meth c H locs 0 0 (MQ below (va_Qi (fun r u => Q r u) (gk_B D cI ad) (gk_A ad s.heap.size)) args s 0 0 (gk_A ad s.heap.size)) (F0 m 127 ls []) := by
  obtain ⟨hx, hb, hml, hown, hts, hr, hlocks⟩ := id C0
  intro σ x1 x2 x3 x4 x5 x6 x7 x8 x9 hw H locs hW hS ls hl
  refine lv_iconst (v := 1) hx hb dX8_rolesNeeded_127 (by decide) ?_
  refine lv_goto (tgt := 132) hx hb dX8_rolesNeeded_128 (by decide) ?_
  exact hk132 σ x1 x2 x3 x4 x5 x6 x7 x8 x9 1 hw _ _ hW hS _ hl
set_option maxHeartbeats 4000000 in
set_option maxRecDepth 100000 in
theorem tL_X8_rolesNeeded_77 {p : Program} {l : Launch} {e : Env} {s : State} {m : MethodId} {args : Array Value} {below : List Frame} {meth : Method} {c : Code} {D : va_G} {cI cZ cG cL : ClassId} {ad : Nat → Nat} (C0 : gk_F p s m args meth c cX8_rolesNeeded 11 (some .int) RX8) (hK : gk_K D cI cZ cG cL s) {Q : Int32 → gk_C → Prop} {k161 : gk_C → Int32 → Int32 → Int32 → Int32 → Int32 → Int32 → Prop} (hk161 : ∀ (σ : gk_C) (x1 : Int32) (x2 : Int32) (x3 : Int32) (x4 : Int32) (x5 : Int32) (x6 : Int32), k161 σ x1 x2 x3 x4 x5 x6 → ∀ (H : Heap) (locs : List Loc), gk_W D cI ad σ H → va_S (gk_A ad s.heap.size) s.heap H locs → ∀ (ls : Array Slot), lv_has ls 11 [(0, .ref (ad 0)), (1, .int x1), (2, .int x2), (3, .int x3), (4, .int x4), (5, .int x5), (6, .int x6)] → W p l e rmX8_rolesNeeded s m args below meth c H locs 0 0 (MQ below (va_Qi (fun r u => Q r u) (gk_B D cI ad) (gk_A ad s.heap.size)) args s 0 0 (gk_A ad s.heap.size)) (F0 m 161 ls [])) : ∀ (n : Nat) (σ : gk_C) (x1 : Int32) (x2 : Int32) (x3 : Int32) (x4 : Int32) (x5 : Int32) (x6 : Int32) (x7 : Int32), wL_X8_rolesNeeded_77 k161 n σ x1 x2 x3 x4 x5 x6 x7 → ∀ (H : Heap) (locs : List Loc), gk_W D cI ad σ H → va_S (gk_A ad s.heap.size) s.heap H locs → ∀ (ls : Array Slot), lv_has ls 11 [(0, .ref (ad 0)), (1, .int x1), (2, .int x2), (3, .int x3), (4, .int x4), (5, .int x5), (6, .int x6), (7, .int x7)] → W p l e rmX8_rolesNeeded s m args below meth c H locs 0 0 (MQ below (va_Qi (fun r u => Q r u) (gk_B D cI ad) (gk_A ad s.heap.size)) args s 0 0 (gk_A ad s.heap.size)) (F0 m 77 ls []) := by
  obtain ⟨hx, hb, hml, hown, hts, hr, hlocks⟩ := id C0
  intro n
  induction n with
  | zero => exact fun _ _ _ _ _ _ _ _ hw => False.elim hw
  | succ n ih =>
    intro σ x1 x2 x3 x4 x5 x6 x7 hw H locs hW hS ls hl
    refine lv_iload hx hb dX8_rolesNeeded_77 (lv_at hl 7 rfl) ?_
    refine lv_iload hx hb dX8_rolesNeeded_79 (lv_at hl 6 rfl) ?_
    refine lv_icmp_gt (tgt := 161) hx hb dX8_rolesNeeded_81 (by decide) (fun c81 => ?_) (fun c81 => ?_)
    · have hw := hw.1 c81
      exact hk161 σ x1 x2 x3 x4 x5 x6 hw _ _ hW hS _ (lv_sub hl [0, 1, 2, 3, 4, 5, 6] rfl)
    · have hw := hw.2 c81
      refine lv_iload hx hb dX8_rolesNeeded_84 (lv_at hl 4 rfl) ?_
      refine lv_iconst (v := 1) hx hb dX8_rolesNeeded_86 (by decide) ?_
      refine lv_iload hx hb dX8_rolesNeeded_87 (lv_at hl 6 rfl) ?_
      refine lv_ishl hx hb dX8_rolesNeeded_89 ?_
      refine lv_ior hx hb dX8_rolesNeeded_90 ?_
      refine lv_iconst (v := 1) hx hb dX8_rolesNeeded_91 (by decide) ?_
      refine lv_iload hx hb dX8_rolesNeeded_92 (lv_at hl 7 rfl) ?_
      refine lv_ishl hx hb dX8_rolesNeeded_94 ?_
      refine lv_ior hx hb dX8_rolesNeeded_95 ?_
      refine lv_istore (lv' := [(8, .int ((x4 ||| (1 <<< (x6 &&& 31))) ||| (1 <<< (x7 &&& 31)))), (0, .ref (ad 0)), (1, .int x1), (2, .int x2), (3, .int x3), (4, .int x4), (5, .int x5), (6, .int x6), (7, .int x7)]) hx hb dX8_rolesNeeded_96 hl (by decide) rfl (fun ls hl => ?_)
      refine lv_iload hx hb dX8_rolesNeeded_98 (lv_at hl 0 rfl) ?_
      refine lv_iload hx hb dX8_rolesNeeded_100 (lv_at hl 5 rfl) ?_
      refine lv_iconst (v := (-1)) hx hb dX8_rolesNeeded_102 (by decide) ?_
      refine lv_ixor hx hb dX8_rolesNeeded_103 ?_
      refine lv_iand hx hb dX8_rolesNeeded_104 ?_
      refine gk_callSi ⟨hx, hb, hml, hown, hts⟩ (c_J6_bitCount_0f7a4 l hw) (va_cwS 1 hts (gk_gS ml_X8_245 st_J6_bitCount_0f7a4 in_J6 co_J6_bitCount_0f7a4) rfl rfl rfl (by decide +kernel) ⟨Nat.le_of_ble_eq_true rfl, Nat.le_of_ble_eq_true rfl⟩) hS rfl hl.1 (rest := []) rfl (lv_room (Nat.le_of_ble_eq_true rfl)) dX8_rolesNeeded_105 ⟨Nat.zero_le _, Nat.zero_le _⟩ (fun r105 H locs hw _ hk hS => ?_)
      have hW := hW.kept (fun k hk9 => hk _ (hW.lt hk9))
      refine lv_istore (lv' := [(9, .int r105), (8, .int ((x4 ||| (1 <<< (x6 &&& 31))) ||| (1 <<< (x7 &&& 31)))), (0, .ref (ad 0)), (1, .int x1), (2, .int x2), (3, .int x3), (4, .int x4), (5, .int x5), (6, .int x6), (7, .int x7)]) hx hb dX8_rolesNeeded_108 hl (by decide) rfl (fun ls hl => ?_)
      refine lv_iload hx hb dX8_rolesNeeded_110 (lv_at hl 0 rfl) ?_
      refine lv_if_le (tgt := 131) hx hb dX8_rolesNeeded_112 (by decide) (fun c112 => ?_) (fun c112 => ?_)
      · have hw := hw.1 c112
        refine tJ_X8_rolesNeeded_131 C0 hK (hk132 := ?_) σ x1 x2 x3 x4 x5 x6 x7 ((x4 ||| (1 <<< (x6 &&& 31))) ||| (1 <<< (x7 &&& 31))) r105 hw _ _ hW hS _ (lv_sub hl [2, 3, 4, 5, 6, 7, 8, 9, 1, 0] rfl)
        · intro σ x1 x2 x3 x4 x5 x6 x7 x8 x9 t0 hw H locs hW hS ls hl
          refine tJ_X8_rolesNeeded_132 C0 hK (hk77 := ih) σ x1 x2 x3 x4 x5 x6 x7 x8 x9 t0 hw _ _ hW hS _ hl
      · have hw := hw.2 c112
        refine lv_iload hx hb dX8_rolesNeeded_115 (lv_at hl 7 rfl) ?_
        refine lv_if_lt (tgt := 127) hx hb dX8_rolesNeeded_117 (by decide) (fun c117 => ?_) (fun c117 => ?_)
        · have hw := hw.1 c117
          refine tJ_X8_rolesNeeded_127 C0 hK (hk132 := ?_) σ x1 x2 x3 x4 x5 x6 x7 ((x4 ||| (1 <<< (x6 &&& 31))) ||| (1 <<< (x7 &&& 31))) r105 hw _ _ hW hS _ (lv_sub hl [2, 3, 4, 5, 6, 7, 8, 9, 1, 0] rfl)
          · intro σ x1 x2 x3 x4 x5 x6 x7 x8 x9 t0 hw H locs hW hS ls hl
            refine tJ_X8_rolesNeeded_132 C0 hK (hk77 := ih) σ x1 x2 x3 x4 x5 x6 x7 x8 x9 t0 hw _ _ hW hS _ hl
        · have hw := hw.2 c117
          refine lv_iload hx hb dX8_rolesNeeded_120 (lv_at hl 0 rfl) ?_
          refine lv_iload hx hb dX8_rolesNeeded_122 (lv_at hl 7 rfl) ?_
          refine lv_icmp_ge (tgt := 131) hx hb dX8_rolesNeeded_124 (by decide) (fun c124 => ?_) (fun c124 => ?_)
          · have hw := hw.1 c124
            refine tJ_X8_rolesNeeded_131 C0 hK (hk132 := ?_) σ x1 x2 x3 x4 x5 x6 x7 ((x4 ||| (1 <<< (x6 &&& 31))) ||| (1 <<< (x7 &&& 31))) r105 hw _ _ hW hS _ (lv_sub hl [2, 3, 4, 5, 6, 7, 8, 9, 1, 0] rfl)
            · intro σ x1 x2 x3 x4 x5 x6 x7 x8 x9 t0 hw H locs hW hS ls hl
              refine tJ_X8_rolesNeeded_132 C0 hK (hk77 := ih) σ x1 x2 x3 x4 x5 x6 x7 x8 x9 t0 hw _ _ hW hS _ hl
          · have hw := hw.2 c124
            refine tJ_X8_rolesNeeded_127 C0 hK (hk132 := ?_) σ x1 x2 x3 x4 x5 x6 x7 ((x4 ||| (1 <<< (x6 &&& 31))) ||| (1 <<< (x7 &&& 31))) r105 hw _ _ hW hS _ (lv_sub hl [2, 3, 4, 5, 6, 7, 8, 9, 1, 0] rfl)
            · intro σ x1 x2 x3 x4 x5 x6 x7 x8 x9 t0 hw H locs hW hS ls hl
              refine tJ_X8_rolesNeeded_132 C0 hK (hk77 := ih) σ x1 x2 x3 x4 x5 x6 x7 x8 x9 t0 hw _ _ hW hS _ hl
set_option maxHeartbeats 4000000 in
set_option maxRecDepth 100000 in
theorem tL_X8_rolesNeeded_59 {p : Program} {l : Launch} {e : Env} {s : State} {m : MethodId} {args : Array Value} {below : List Frame} {meth : Method} {c : Code} {D : va_G} {cI cZ cG cL : ClassId} {ad : Nat → Nat} (C0 : gk_F p s m args meth c cX8_rolesNeeded 11 (some .int) RX8) (hK : gk_K D cI cZ cG cL s) {Q : Int32 → gk_C → Prop} : ∀ (n : Nat) (σ : gk_C) (x1 : Int32) (x2 : Int32) (x3 : Int32) (x4 : Int32) (x5 : Int32) (x6 : Int32), wL_X8_rolesNeeded_59 Q n σ x1 x2 x3 x4 x5 x6 → ∀ (H : Heap) (locs : List Loc), gk_W D cI ad σ H → va_S (gk_A ad s.heap.size) s.heap H locs → ∀ (ls : Array Slot), lv_has ls 11 [(0, .ref (ad 0)), (1, .int x1), (2, .int x2), (3, .int x3), (4, .int x4), (5, .int x5), (6, .int x6)] → W p l e rmX8_rolesNeeded s m args below meth c H locs 0 0 (MQ below (va_Qi (fun r u => Q r u) (gk_B D cI ad) (gk_A ad s.heap.size)) args s 0 0 (gk_A ad s.heap.size)) (F0 m 59 ls []) := by
  obtain ⟨hx, hb, hml, hown, hts, hr, hlocks⟩ := id C0
  intro n
  induction n with
  | zero => exact fun _ _ _ _ _ _ _ hw => False.elim hw
  | succ n ih =>
    intro σ x1 x2 x3 x4 x5 x6 hw H locs hW hS ls hl
    refine lv_iload hx hb dX8_rolesNeeded_59 (lv_at hl 6 rfl) ?_
    refine lv_aload_n hx hb dX8_rolesNeeded_61 rfl (lv_at hl 0 rfl) ?_
    refine gk_get hx hb hts iwX8 hown hK.1 (gk_o0 hW) rfl 0 (by decide) (hts _ fl_X8_10) (fun _ h9 => h9) rfl dX8_rolesNeeded_62 ?_
    refine gk_getN hx hb hts iwX4 hown hK.1 (gk_o1 hW) rfl 1 (by decide) (gk_nw hK nf_X8_62) (fun _ h9 => h9) rfl dX8_rolesNeeded_65 ?_
    refine gk_getN hx hb hts iwX1 hown hK.1 (gk_o3 hW) rfl 0 (by decide) (gk_nw hK nf_X8_66) (fun _ h9 => h9) rfl dX8_rolesNeeded_68 ?_
    refine lv_icmp_ge (tgt := 167) hx hb dX8_rolesNeeded_71 (by decide) (fun c71 => ?_) (fun c71 => ?_)
    · have hw := hw.1 c71
      refine lv_iload hx hb dX8_rolesNeeded_167 (lv_at hl 5 rfl) ?_
      exact gk_reti C0 hw hW hS dX8_rolesNeeded_169
    · have hw := hw.2 c71
      refine lv_iconst (v := 0) hx hb dX8_rolesNeeded_74 (by decide) ?_
      refine lv_istore (lv' := [(7, .int 0), (0, .ref (ad 0)), (1, .int x1), (2, .int x2), (3, .int x3), (4, .int x4), (5, .int x5), (6, .int x6)]) hx hb dX8_rolesNeeded_75 hl (by decide) rfl (fun ls hl => ?_)
      obtain ⟨n77, hw⟩ := hw
      refine tL_X8_rolesNeeded_77 C0 hK (hk161 := ?_) n77 σ x1 x2 x3 x4 x5 x6 0 hw _ _ hW hS _ (lv_sub hl [1, 2, 3, 4, 5, 6, 7, 0] rfl)
      · intro σ x1 x2 x3 x4 x5 x6 hw H locs hW hS ls hl
        refine lv_iinc (v := (x6 + 1)) (lv' := [(6, .int (x6 + 1)), (0, .ref (ad 0)), (1, .int x1), (2, .int x2), (3, .int x3), (4, .int x4), (5, .int x5)]) hx hb dX8_rolesNeeded_161 hl (k := 6) rfl rfl (by decide) rfl (fun ls hl => ?_)
        refine lv_goto (tgt := 59) hx hb dX8_rolesNeeded_164 (by decide) ?_
        exact ih σ x1 x2 x3 x4 x5 (x6 + 1) hw _ _ hW hS _ (lv_sub hl [1, 2, 3, 4, 5, 6, 0] rfl)
set_option maxHeartbeats 4000000 in
set_option maxRecDepth 100000 in
theorem c_X8_rolesNeeded (l : Launch) (D : va_G) (cI cZ cG cL : ClassId) (ad : Nat → Nat) {σ : gk_C} {a0 : Int32} {a1 : Int32} {a2 : Int32} {Q : Int32 → gk_C → Prop} {sz : Nat} (hw : w_X8_rolesNeeded σ a0 a1 a2 Q) : Met l yX8_rolesNeeded wsX8_rolesNeeded rmX8_rolesNeeded (gk_Pc D cI cZ cG cL ad [.ref (ad 0), .int a0, .int a1, .int a2] sz σ) (va_Qi (fun r u => Q r u) (gk_B D cI ad) (gk_A ad sz)) 0 0 (gk_A ad sz) := by
  refine Met.ofW (cc := cX8_rolesNeeded) (maxL := 11) (ret := (some .int)) (by decide) rfl ?_
  intro p e s m args below meth c s₁ B hml0 hv0
  obtain ⟨rfl, hsz, hW, hK⟩ := hv0
  subst hsz
  have C0 : gk_F p s m ([.ref (ad 0), .int a0, .int a1, .int a2] : List Value).toArray meth c cX8_rolesNeeded 11 (some .int) RX8 := ⟨B.exec, B.bytes, hml0, findClass_of_methodNamed B.named, fun w hw => atoms_spec (ws := wsX8_rolesNeeded) B.pre w (List.mem_cons_of_mem _ hw), B.returns, B.notSynchronized⟩
  obtain ⟨hx, hb, hml, hown, hts, hr, hlocks⟩ := id C0
  have hS : va_S (gk_A ad s.heap.size) s.heap s.heap [] := va_S.rf
  have hl := lv_entry ([.ref (ad 0), .int a0, .int a1, .int a2]) (n := 11) (Nat.le_of_ble_eq_true rfl)
  rw [lg_entry_eq]
  generalize (lg_sl ([.ref (ad 0), .int a0, .int a1, .int a2]) ++ List.replicate (11 - (lg_sl ([.ref (ad 0), .int a0, .int a1, .int a2])).length) Slot.unset).toArray = ls at hl ⊢
  have hl : lv_has ls 11 [(0, .ref (ad 0)), (1, .int a0), (2, .int a1), (3, .int a2)] := hl
  show W p l e rmX8_rolesNeeded s m _ below meth c s.heap [] 0 0 _ _
  refine lv_aload_n hx hb dX8_rolesNeeded_0 rfl (lv_at hl 0 rfl) ?_
  refine lv_iload_n hx hb dX8_rolesNeeded_1 rfl (lv_at hl 1 rfl) ?_
  refine lv_iload_n hx hb dX8_rolesNeeded_2 rfl (lv_at hl 2 rfl) ?_
  refine lv_iload_n hx hb dX8_rolesNeeded_3 rfl (lv_at hl 3 rfl) ?_
  refine gk_callRv ⟨hx, hb, hml, hown, hts⟩ (c_X8_checkAsked l D cI cZ cG cL ad hw) (cwV 3 hts (gk_gV ml_X8_184 im_X8_checkAsked se_X8_checkAsked in_X8 co_X8_checkAsked) rfl rfl rfl (by decide +kernel) ⟨Nat.le_of_ble_eq_true rfl, Nat.le_of_ble_eq_true rfl⟩) (gk_recv hK.1 (gk_o0 hW) rfl) hW hK hS rfl hl.1 (rest := []) rfl (lv_room (Nat.le_of_ble_eq_true rfl)) dX8_rolesNeeded_4 ⟨Nat.zero_le _, Nat.zero_le _⟩ (fun H locs hw hW _ hS => ?_)
  refine lv_aload_n hx hb dX8_rolesNeeded_7 rfl (lv_at hl 0 rfl) ?_
  refine gk_get hx hb hts iwX8 hown hK.1 (gk_o0 hW) rfl 2 (by decide) (hts _ fl_X8_25) (fun _ h9 => h9) rfl dX8_rolesNeeded_8 ?_
  refine lv_aload_n hx hb dX8_rolesNeeded_11 rfl (lv_at hl 0 rfl) ?_
  refine gk_get hx hb hts iwX8 hown hK.1 (gk_o0 hW) rfl 0 (by decide) (hts _ fl_X8_10) (fun _ h9 => h9) rfl dX8_rolesNeeded_12 ?_
  refine gk_getN hx hb hts iwX4 hown hK.1 (gk_o1 hW) rfl 5 (by decide) (gk_nw hK nf_X8_181) (fun _ h9 => h9) rfl dX8_rolesNeeded_15 ?_
  refine lv_iconst (v := 0) hx hb dX8_rolesNeeded_18 (by decide) ?_
  refine gk_callVv ⟨hx, hb, hml, hown, hts⟩ (c_X7_look l D cI cZ cG cL ad (by decide) hw) (cwV 2 hts (gk_gV ml_X8_188 im_X7_look se_X7_look in_X7 co_X7_look) rfl rfl rfl (by decide +kernel) ⟨Nat.le_of_ble_eq_true rfl, Nat.le_of_ble_eq_true rfl⟩) (gk_recv hK.1 (gk_ov hW (v := 1) (by decide)) rfl) hW hK hS rfl hl.1 (rest := []) rfl (lv_room (Nat.le_of_ble_eq_true rfl)) dX8_rolesNeeded_19 ⟨Nat.zero_le _, Nat.zero_le _⟩ (fun σ19 H locs hw hW _ hS => ?_)
  refine lv_aload_n hx hb dX8_rolesNeeded_22 rfl (lv_at hl 0 rfl) ?_
  refine gk_get hx hb hts iwX8 hown hK.1 (gk_o0 hW) rfl 2 (by decide) (hts _ fl_X8_25) (fun _ h9 => h9) rfl dX8_rolesNeeded_23 ?_
  refine lv_iload_n hx hb dX8_rolesNeeded_26 rfl (lv_at hl 1 rfl) ?_
  refine lv_iload_n hx hb dX8_rolesNeeded_27 rfl (lv_at hl 2 rfl) ?_
  refine lv_iload_n hx hb dX8_rolesNeeded_28 rfl (lv_at hl 3 rfl) ?_
  refine gk_callRi ⟨hx, hb, hml, hown, hts⟩ (c_X7_isAllowed l D cI cZ cG cL ad (by decide) hw) (cwV 3 hts (gk_gV ml_X8_238 im_X7_isAllowed se_X7_isAllowed in_X7 co_X7_isAllowed) rfl rfl rfl (by decide +kernel) ⟨Nat.le_of_ble_eq_true rfl, Nat.le_of_ble_eq_true rfl⟩) (gk_recv hK.1 (gk_ov hW (v := 1) (by decide)) rfl) hW hK hS rfl hl.1 (rest := []) rfl (lv_room (Nat.le_of_ble_eq_true rfl)) dX8_rolesNeeded_29 ⟨Nat.zero_le _, Nat.zero_le _⟩ (fun r29 H locs hw hW _ hS => ?_)
  refine lv_if_eq (tgt := 37) hx hb dX8_rolesNeeded_32 (by decide) (fun c32 => ?_) (fun c32 => ?_)
  · have hw := hw.1 c32
    refine lv_aload_n hx hb dX8_rolesNeeded_37 rfl (lv_at hl 0 rfl) ?_
    refine gk_get hx hb hts iwX8 hown hK.1 (gk_o0 hW) rfl 0 (by decide) (hts _ fl_X8_10) (fun _ h9 => h9) rfl dX8_rolesNeeded_38 ?_
    refine gk_getN hx hb hts iwX4 hown hK.1 (gk_o1 hW) rfl 0 (by decide) (gk_nw hK nf_X8_45) (fun _ h9 => h9) rfl dX8_rolesNeeded_41 ?_
    refine gk_getN hx hb hts iwX6 hown hK.1 (gk_o2 hW) rfl 3 (by decide) (gk_nw hK nf_X8_95) (fun _ h9 => h9) rfl dX8_rolesNeeded_44 ?_
    refine lv_iload_n hx hb dX8_rolesNeeded_47 rfl (lv_at hl 1 rfl) ?_
    refine gk_callRi ⟨hx, hb, hml, hown, hts⟩ (c_X2_at l D cI cZ cG cL ad (σ := σ19) (r := 2) (i := a0) (by decide)) (cwV 1 hts (gk_gV ml_X8_98 im_X2_at se_X2_at in_X2 co_X2_at) rfl rfl rfl (by decide +kernel) ⟨Nat.le_of_ble_eq_true rfl, Nat.le_of_ble_eq_true rfl⟩) (gk_recv hK.1 (gk_or hW (r := 2) (by decide)) rfl) hW hK hS rfl hl.1 (rest := []) rfl (lv_room (Nat.le_of_ble_eq_true rfl)) dX8_rolesNeeded_48 ⟨Nat.zero_le _, Nat.zero_le _⟩ (fun r48 H locs hq hW _ hS => ?_)
    obtain rfl := hq
    refine lv_istore (lv' := [(4, .int (gk_at σ19 2 a0)), (0, .ref (ad 0)), (1, .int a0), (2, .int a1), (3, .int a2)]) hx hb dX8_rolesNeeded_51 hl (by decide) rfl (fun ls hl => ?_)
    refine lv_iconst (v := (-1)) hx hb dX8_rolesNeeded_53 (by decide) ?_
    refine lv_istore (lv' := [(5, .int (-1)), (4, .int (gk_at σ19 2 a0)), (0, .ref (ad 0)), (1, .int a0), (2, .int a1), (3, .int a2)]) hx hb dX8_rolesNeeded_54 hl (by decide) rfl (fun ls hl => ?_)
    refine lv_iconst (v := 0) hx hb dX8_rolesNeeded_56 (by decide) ?_
    refine lv_istore (lv' := [(6, .int 0), (5, .int (-1)), (4, .int (gk_at σ19 2 a0)), (0, .ref (ad 0)), (1, .int a0), (2, .int a1), (3, .int a2)]) hx hb dX8_rolesNeeded_57 hl (by decide) rfl (fun ls hl => ?_)
    obtain ⟨n59, hw⟩ := hw
    refine tL_X8_rolesNeeded_59 C0 hK  n59 σ19 a0 a1 a2 (gk_at σ19 2 a0) (-1) 0 hw _ _ hW hS _ (lv_sub hl [3, 4, 5, 6, 2, 1, 0] rfl)
  · have hw := hw.2 c32
    refine lv_iconst (v := 0) hx hb dX8_rolesNeeded_35 (by decide) ?_
    exact gk_reti C0 hw hW hS dX8_rolesNeeded_36
def w_X8_isIdle (σ : gk_C) (a0 : Int32) (Q : Int32 → gk_C → Prop) : Prop := (w_X8_isRule σ a0 (fun r2 => (¬ r2 = 0) ∧ w_X7_look 0 σ (σ.2 6) 0 (fun σ20 => w_X7_look 1 σ20 (σ20.2 6) (1 <<< (a0 &&& 31)) (fun σ37 => w_X7_differences σ37 (fun r48 => ((¬ r48 = 0) → (Q 0 σ37)) ∧ ((r48 = 0) → (Q 1 σ37)))))))
abbrev rmX8_isIdle : Room := { frames := 6, cells := 0, slots := 0, locals := 142 }
set_option maxHeartbeats 4000000 in
set_option maxRecDepth 100000 in
theorem c_X8_isIdle (l : Launch) (D : va_G) (cI cZ cG cL : ClassId) (ad : Nat → Nat) {σ : gk_C} {a0 : Int32} {Q : Int32 → gk_C → Prop} {sz : Nat} (hw : w_X8_isIdle σ a0 Q) : Met l yX8_isIdle wsX8_isIdle rmX8_isIdle (gk_Pc D cI cZ cG cL ad [.ref (ad 0), .int a0] sz σ) (va_Qi (fun r u => Q r u) (gk_B D cI ad) (gk_A ad sz)) 0 0 (gk_A ad sz) := by
  refine Met.ofW (cc := cX8_isIdle) (maxL := 2) (ret := (some .boolean)) (by decide) rfl ?_
  intro p e s m args below meth c s₁ B hml0 hv0
  obtain ⟨rfl, hsz, hW, hK⟩ := hv0
  subst hsz
  have C0 : gk_F p s m ([.ref (ad 0), .int a0] : List Value).toArray meth c cX8_isIdle 2 (some .boolean) RX8 := ⟨B.exec, B.bytes, hml0, findClass_of_methodNamed B.named, fun w hw => atoms_spec (ws := wsX8_isIdle) B.pre w (List.mem_cons_of_mem _ hw), B.returns, B.notSynchronized⟩
  obtain ⟨hx, hb, hml, hown, hts, hr, hlocks⟩ := id C0
  have hS : va_S (gk_A ad s.heap.size) s.heap s.heap [] := va_S.rf
  have hl := lv_entry ([.ref (ad 0), .int a0]) (n := 2) (Nat.le_of_ble_eq_true rfl)
  rw [lg_entry_eq]
  generalize (lg_sl ([.ref (ad 0), .int a0]) ++ List.replicate (2 - (lg_sl ([.ref (ad 0), .int a0])).length) Slot.unset).toArray = ls at hl ⊢
  have hl : lv_has ls 2 [(0, .ref (ad 0)), (1, .int a0)] := hl
  show W p l e rmX8_isIdle s m _ below meth c s.heap [] 0 0 _ _
  refine lv_aload_n hx hb dX8_isIdle_0 rfl (lv_at hl 0 rfl) ?_
  refine lv_iload_n hx hb dX8_isIdle_1 rfl (lv_at hl 1 rfl) ?_
  refine gk_callRi ⟨hx, hb, hml, hown, hts⟩ (c_X8_isRule l D cI cZ cG cL ad hw) (cwV 1 hts (gk_gV ml_X8_162 im_X8_isRule se_X8_isRule in_X8 co_X8_isRule) rfl rfl rfl (by decide +kernel) ⟨Nat.le_of_ble_eq_true rfl, Nat.le_of_ble_eq_true rfl⟩) (gk_recv hK.1 (gk_o0 hW) rfl) hW hK hS rfl hl.1 (rest := []) rfl (lv_room (Nat.le_of_ble_eq_true rfl)) dX8_isIdle_2 ⟨Nat.zero_le _, Nat.zero_le _⟩ (fun r2 H locs hw hW _ hS => ?_)
  obtain ⟨hc, hw⟩ := hw
  refine gk_callSv ⟨hx, hb, hml, hown, hts⟩ (c0_X8_checkThere l hc) (va_cwS 1 hts (gk_gS ml_X8_76 st_X8_checkThere in_X8 co_X8_checkThere) rfl rfl rfl (by decide +kernel) ⟨Nat.le_of_ble_eq_true rfl, Nat.le_of_ble_eq_true rfl⟩) hS rfl hl.1 (rest := []) rfl (lv_room (Nat.le_of_ble_eq_true rfl)) dX8_isIdle_5 ⟨Nat.zero_le _, Nat.zero_le _⟩ (fun H locs _ hk hS => ?_)
  have hW := hW.kept (fun k hk9 => hk _ (hW.lt hk9))
  refine lv_aload_n hx hb dX8_isIdle_8 rfl (lv_at hl 0 rfl) ?_
  refine gk_get hx hb hts iwX8 hown hK.1 (gk_o0 hW) rfl 1 (by decide) (hts _ fl_X8_21) (fun _ h9 => h9) rfl dX8_isIdle_9 ?_
  refine lv_aload_n hx hb dX8_isIdle_12 rfl (lv_at hl 0 rfl) ?_
  refine gk_get hx hb hts iwX8 hown hK.1 (gk_o0 hW) rfl 0 (by decide) (hts _ fl_X8_10) (fun _ h9 => h9) rfl dX8_isIdle_13 ?_
  refine gk_getN hx hb hts iwX4 hown hK.1 (gk_o1 hW) rfl 5 (by decide) (gk_nw hK nf_X8_181) (fun _ h9 => h9) rfl dX8_isIdle_16 ?_
  refine lv_iconst (v := 0) hx hb dX8_isIdle_19 (by decide) ?_
  refine gk_callVv ⟨hx, hb, hml, hown, hts⟩ (c_X7_look l D cI cZ cG cL ad (by decide) hw) (cwV 2 hts (gk_gV ml_X8_188 im_X7_look se_X7_look in_X7 co_X7_look) rfl rfl rfl (by decide +kernel) ⟨Nat.le_of_ble_eq_true rfl, Nat.le_of_ble_eq_true rfl⟩) (gk_recv hK.1 (gk_ov hW (v := 0) (by decide)) rfl) hW hK hS rfl hl.1 (rest := []) rfl (lv_room (Nat.le_of_ble_eq_true rfl)) dX8_isIdle_20 ⟨Nat.zero_le _, Nat.zero_le _⟩ (fun σ20 H locs hw hW _ hS => ?_)
  refine lv_aload_n hx hb dX8_isIdle_23 rfl (lv_at hl 0 rfl) ?_
  refine gk_get hx hb hts iwX8 hown hK.1 (gk_o0 hW) rfl 2 (by decide) (hts _ fl_X8_25) (fun _ h9 => h9) rfl dX8_isIdle_24 ?_
  refine lv_aload_n hx hb dX8_isIdle_27 rfl (lv_at hl 0 rfl) ?_
  refine gk_get hx hb hts iwX8 hown hK.1 (gk_o0 hW) rfl 0 (by decide) (hts _ fl_X8_10) (fun _ h9 => h9) rfl dX8_isIdle_28 ?_
  refine gk_getN hx hb hts iwX4 hown hK.1 (gk_o1 hW) rfl 5 (by decide) (gk_nw hK nf_X8_181) (fun _ h9 => h9) rfl dX8_isIdle_31 ?_
  refine lv_iconst (v := 1) hx hb dX8_isIdle_34 (by decide) ?_
  refine lv_iload_n hx hb dX8_isIdle_35 rfl (lv_at hl 1 rfl) ?_
  refine lv_ishl hx hb dX8_isIdle_36 ?_
  refine gk_callVv ⟨hx, hb, hml, hown, hts⟩ (c_X7_look l D cI cZ cG cL ad (by decide) hw) (cwV 2 hts (gk_gV ml_X8_188 im_X7_look se_X7_look in_X7 co_X7_look) rfl rfl rfl (by decide +kernel) ⟨Nat.le_of_ble_eq_true rfl, Nat.le_of_ble_eq_true rfl⟩) (gk_recv hK.1 (gk_ov hW (v := 1) (by decide)) rfl) hW hK hS rfl hl.1 (rest := []) rfl (lv_room (Nat.le_of_ble_eq_true rfl)) dX8_isIdle_37 ⟨Nat.zero_le _, Nat.zero_le _⟩ (fun σ37 H locs hw hW _ hS => ?_)
  refine lv_aload_n hx hb dX8_isIdle_40 rfl (lv_at hl 0 rfl) ?_
  refine gk_get hx hb hts iwX8 hown hK.1 (gk_o0 hW) rfl 1 (by decide) (hts _ fl_X8_21) (fun _ h9 => h9) rfl dX8_isIdle_41 ?_
  refine lv_aload_n hx hb dX8_isIdle_44 rfl (lv_at hl 0 rfl) ?_
  refine gk_get hx hb hts iwX8 hown hK.1 (gk_o0 hW) rfl 2 (by decide) (hts _ fl_X8_25) (fun _ h9 => h9) rfl dX8_isIdle_45 ?_
  refine gk_callRi ⟨hx, hb, hml, hown, hts⟩ (c_X7_differences l D cI cZ cG cL ad hw) (cwV 1 hts (gk_gV ml_X8_257 im_X7_differences se_X7_differences in_X7 co_X7_differences) rfl rfl rfl (by decide +kernel) ⟨Nat.le_of_ble_eq_true rfl, Nat.le_of_ble_eq_true rfl⟩) (gk_recv hK.1 (gk_ov hW (v := 0) (by decide)) rfl) hW hK hS rfl hl.1 (rest := []) rfl (lv_room (Nat.le_of_ble_eq_true rfl)) dX8_isIdle_48 ⟨Nat.zero_le _, Nat.zero_le _⟩ (fun r48 H locs hw hW _ hS => ?_)
  refine lv_if_ne (tgt := 58) hx hb dX8_isIdle_51 (by decide) (fun c51 => ?_) (fun c51 => ?_)
  · have hw := hw.1 c51
    refine lv_iconst (v := 0) hx hb dX8_isIdle_58 (by decide) ?_
    exact gk_retz C0 (by decide) hw hW hS dX8_isIdle_59
  · have hw := hw.2 c51
    refine lv_iconst (v := 1) hx hb dX8_isIdle_54 (by decide) ?_
    refine lv_goto (tgt := 59) hx hb dX8_isIdle_55 (by decide) ?_
    exact gk_retz C0 (by decide) hw hW hS dX8_isIdle_59
def w_X8_withNumbers (σ : gk_C) (a0 : Int64) (Q : Int64 → Prop) : Prop := (Q ((((((((((((a0 * 31) + (((σ.2 0)).toInt64)) * 31) + (((σ.2 1)).toInt64)) * 31) + (((σ.2 3)).toInt64)) * 31) + (((σ.2 4)).toInt64)) * 31) + (((σ.2 5)).toInt64)) * 31) + (((σ.2 7)).toInt64)))
abbrev rmX8_withNumbers : Room := { frames := 0, cells := 0, slots := 0, locals := 0 }
set_option maxHeartbeats 4000000 in
set_option maxRecDepth 100000 in
theorem c_X8_withNumbers (l : Launch) (D : va_G) (cI cZ cG cL : ClassId) (ad : Nat → Nat) {σ : gk_C} {a0 : Int64} {Q : Int64 → Prop} {sz : Nat} (hw : w_X8_withNumbers σ a0 Q) : Met l yX8_withNumbers wsX8_withNumbers rmX8_withNumbers (gk_Pc D cI cZ cG cL ad [.ref (ad 0), .long a0] sz σ) (va_Ql (fun r u => u = σ ∧ Q r) (gk_B D cI ad) (gk_A ad sz)) 0 0 (gk_A ad sz) := by
  refine Met.ofW (cc := cX8_withNumbers) (maxL := 5) (ret := (some .long)) (by decide) rfl ?_
  intro p e s m args below meth c s₁ B hml0 hv0
  obtain ⟨rfl, hsz, hW, hK⟩ := hv0
  subst hsz
  have C0 : gk_F p s m ([.ref (ad 0), .long a0] : List Value).toArray meth c cX8_withNumbers 5 (some .long) RX8 := ⟨B.exec, B.bytes, hml0, findClass_of_methodNamed B.named, fun w hw => atoms_spec (ws := wsX8_withNumbers) B.pre w (List.mem_cons_of_mem _ hw), B.returns, B.notSynchronized⟩
  obtain ⟨hx, hb, hml, hown, hts, hr, hlocks⟩ := id C0
  have hS : va_S (gk_A ad s.heap.size) s.heap s.heap [] := va_S.rf
  have hl := lv_entry ([.ref (ad 0), .long a0]) (n := 5) (Nat.le_of_ble_eq_true rfl)
  rw [lg_entry_eq]
  generalize (lg_sl ([.ref (ad 0), .long a0]) ++ List.replicate (5 - (lg_sl ([.ref (ad 0), .long a0])).length) Slot.unset).toArray = ls at hl ⊢
  have hl : lv_has ls 5 [(0, .ref (ad 0)), (1, .long a0)] := hl
  show W p l e rmX8_withNumbers s m _ below meth c s.heap [] 0 0 _ _
  refine lv_lload_n hx hb dX8_withNumbers_0 rfl (lv_at hl 1 rfl) ?_
  refine lv_ldc2 (v := 31) hx hb hown (hts _ k_X8_276) dX8_withNumbers_1 ?_
  refine lv_lmul hx hb dX8_withNumbers_4 ?_
  refine lv_aload_n hx hb dX8_withNumbers_5 rfl (lv_at hl 0 rfl) ?_
  refine gk_get hx hb hts iwX8 hown hK.1 (gk_o0 hW) rfl 0 (by decide) (hts _ fl_X8_10) (fun _ h9 => h9) rfl dX8_withNumbers_6 ?_
  refine gk_getN hx hb hts iwX4 hown hK.1 (gk_o1 hW) rfl 0 (by decide) (gk_nw hK nf_X8_45) (fun _ h9 => h9) rfl dX8_withNumbers_9 ?_
  refine gk_getN hx hb hts iwX6 hown hK.1 (gk_o2 hW) rfl 0 (by decide) (gk_nw hK nf_X8_49) (fun _ h9 => h9) rfl dX8_withNumbers_12 ?_
  refine lv_i2l (v := ((σ.2 0)).toInt64) hx hb dX8_withNumbers_15 rfl ?_
  refine lv_ladd hx hb dX8_withNumbers_16 ?_
  refine lv_lstore_n (lv' := [(3, .long ((a0 * 31) + (((σ.2 0)).toInt64))), (0, .ref (ad 0)), (1, .long a0)]) hx hb dX8_withNumbers_17 rfl hl (by decide) rfl (fun ls hl => ?_)
  refine lv_lload_n hx hb dX8_withNumbers_18 rfl (lv_at hl 0 rfl) ?_
  refine lv_ldc2 (v := 31) hx hb hown (hts _ k_X8_276) dX8_withNumbers_19 ?_
  refine lv_lmul hx hb dX8_withNumbers_22 ?_
  refine lv_aload_n hx hb dX8_withNumbers_23 rfl (lv_at hl 1 rfl) ?_
  refine gk_get hx hb hts iwX8 hown hK.1 (gk_o0 hW) rfl 0 (by decide) (hts _ fl_X8_10) (fun _ h9 => h9) rfl dX8_withNumbers_24 ?_
  refine gk_getN hx hb hts iwX4 hown hK.1 (gk_o1 hW) rfl 1 (by decide) (gk_nw hK nf_X8_62) (fun _ h9 => h9) rfl dX8_withNumbers_27 ?_
  refine gk_getN hx hb hts iwX1 hown hK.1 (gk_o3 hW) rfl 0 (by decide) (gk_nw hK nf_X8_66) (fun _ h9 => h9) rfl dX8_withNumbers_30 ?_
  refine lv_i2l (v := ((σ.2 1)).toInt64) hx hb dX8_withNumbers_33 rfl ?_
  refine lv_ladd hx hb dX8_withNumbers_34 ?_
  refine lv_lstore_n (lv' := [(3, .long ((((a0 * 31) + (((σ.2 0)).toInt64)) * 31) + (((σ.2 1)).toInt64))), (0, .ref (ad 0)), (1, .long a0)]) hx hb dX8_withNumbers_35 rfl hl (by decide) rfl (fun ls hl => ?_)
  refine lv_lload_n hx hb dX8_withNumbers_36 rfl (lv_at hl 0 rfl) ?_
  refine lv_ldc2 (v := 31) hx hb hown (hts _ k_X8_276) dX8_withNumbers_37 ?_
  refine lv_lmul hx hb dX8_withNumbers_40 ?_
  refine lv_aload_n hx hb dX8_withNumbers_41 rfl (lv_at hl 1 rfl) ?_
  refine gk_get hx hb hts iwX8 hown hK.1 (gk_o0 hW) rfl 0 (by decide) (hts _ fl_X8_10) (fun _ h9 => h9) rfl dX8_withNumbers_42 ?_
  refine gk_getN hx hb hts iwX4 hown hK.1 (gk_o1 hW) rfl 2 (by decide) (gk_nw hK nf_X8_79) (fun _ h9 => h9) rfl dX8_withNumbers_45 ?_
  refine gk_getN hx hb hts iwX5 hown hK.1 (gk_o4 hW) rfl 0 (by decide) (gk_nw hK nf_X8_83) (fun _ h9 => h9) rfl dX8_withNumbers_48 ?_
  refine lv_i2l (v := ((σ.2 3)).toInt64) hx hb dX8_withNumbers_51 rfl ?_
  refine lv_ladd hx hb dX8_withNumbers_52 ?_
  refine lv_lstore_n (lv' := [(3, .long ((((((a0 * 31) + (((σ.2 0)).toInt64)) * 31) + (((σ.2 1)).toInt64)) * 31) + (((σ.2 3)).toInt64))), (0, .ref (ad 0)), (1, .long a0)]) hx hb dX8_withNumbers_53 rfl hl (by decide) rfl (fun ls hl => ?_)
  refine lv_lload_n hx hb dX8_withNumbers_54 rfl (lv_at hl 0 rfl) ?_
  refine lv_ldc2 (v := 31) hx hb hown (hts _ k_X8_276) dX8_withNumbers_55 ?_
  refine lv_lmul hx hb dX8_withNumbers_58 ?_
  refine lv_aload_n hx hb dX8_withNumbers_59 rfl (lv_at hl 1 rfl) ?_
  refine gk_get hx hb hts iwX8 hown hK.1 (gk_o0 hW) rfl 0 (by decide) (hts _ fl_X8_10) (fun _ h9 => h9) rfl dX8_withNumbers_60 ?_
  refine gk_getN hx hb hts iwX4 hown hK.1 (gk_o1 hW) rfl 3 (by decide) (gk_nw hK nf_X8_152) (fun _ h9 => h9) rfl dX8_withNumbers_63 ?_
  refine gk_getN hx hb hts iwX3 hown hK.1 (gk_o5 hW) rfl 0 (by decide) (gk_nw hK nf_X8_156) (fun _ h9 => h9) rfl dX8_withNumbers_66 ?_
  refine lv_i2l (v := ((σ.2 4)).toInt64) hx hb dX8_withNumbers_69 rfl ?_
  refine lv_ladd hx hb dX8_withNumbers_70 ?_
  refine lv_lstore_n (lv' := [(3, .long ((((((((a0 * 31) + (((σ.2 0)).toInt64)) * 31) + (((σ.2 1)).toInt64)) * 31) + (((σ.2 3)).toInt64)) * 31) + (((σ.2 4)).toInt64))), (0, .ref (ad 0)), (1, .long a0)]) hx hb dX8_withNumbers_71 rfl hl (by decide) rfl (fun ls hl => ?_)
  refine lv_lload_n hx hb dX8_withNumbers_72 rfl (lv_at hl 0 rfl) ?_
  refine lv_ldc2 (v := 31) hx hb hown (hts _ k_X8_276) dX8_withNumbers_73 ?_
  refine lv_lmul hx hb dX8_withNumbers_76 ?_
  refine lv_aload_n hx hb dX8_withNumbers_77 rfl (lv_at hl 1 rfl) ?_
  refine gk_get hx hb hts iwX8 hown hK.1 (gk_o0 hW) rfl 0 (by decide) (hts _ fl_X8_10) (fun _ h9 => h9) rfl dX8_withNumbers_78 ?_
  refine gk_getN hx hb hts iwX4 hown hK.1 (gk_o1 hW) rfl 4 (by decide) (gk_nw hK nf_X8_204) (fun _ h9 => h9) rfl dX8_withNumbers_81 ?_
  refine gk_getN hx hb hts iwX0 hown hK.1 (gk_o6 hW) rfl 0 (by decide) (gk_nw hK nf_X8_208) (fun _ h9 => h9) rfl dX8_withNumbers_84 ?_
  refine lv_i2l (v := ((σ.2 5)).toInt64) hx hb dX8_withNumbers_87 rfl ?_
  refine lv_ladd hx hb dX8_withNumbers_88 ?_
  refine lv_lstore_n (lv' := [(3, .long ((((((((((a0 * 31) + (((σ.2 0)).toInt64)) * 31) + (((σ.2 1)).toInt64)) * 31) + (((σ.2 3)).toInt64)) * 31) + (((σ.2 4)).toInt64)) * 31) + (((σ.2 5)).toInt64))), (0, .ref (ad 0)), (1, .long a0)]) hx hb dX8_withNumbers_89 rfl hl (by decide) rfl (fun ls hl => ?_)
  refine lv_lload_n hx hb dX8_withNumbers_90 rfl (lv_at hl 0 rfl) ?_
  refine lv_ldc2 (v := 31) hx hb hown (hts _ k_X8_276) dX8_withNumbers_91 ?_
  refine lv_lmul hx hb dX8_withNumbers_94 ?_
  refine lv_aload_n hx hb dX8_withNumbers_95 rfl (lv_at hl 1 rfl) ?_
  refine gk_get hx hb hts iwX8 hown hK.1 (gk_o0 hW) rfl 0 (by decide) (hts _ fl_X8_10) (fun _ h9 => h9) rfl dX8_withNumbers_96 ?_
  refine gk_getN hx hb hts iwX4 hown hK.1 (gk_o1 hW) rfl 6 (by decide) (gk_nw hK nf_X8_195) (fun _ h9 => h9) rfl dX8_withNumbers_99 ?_
  refine lv_i2l (v := ((σ.2 7)).toInt64) hx hb dX8_withNumbers_102 rfl ?_
  refine lv_ladd hx hb dX8_withNumbers_103 ?_
  exact gk_retl C0 ⟨rfl, hw⟩ hW hS dX8_withNumbers_104
def wL_X8_withNear_23 (σ : gk_C) (k79 : Int64 → Int32 → Prop) : Nat → Int64 → Int32 → Int32 → Prop
  | 0 => fun _ _ _ => False
  | n + 1 => fun x3 x5 x6 => ((((σ.2 1) ≤ x6) → (k79 x3 x5)) ∧ ((¬ (σ.2 1) ≤ x6) → (w_X1_nearBy σ (gk_at σ 2 x5) x6 (fun r67 => wL_X8_withNear_23 σ k79 n ((x3 * 31) + ((r67).toInt64)) x5 (x6 + 1)))))
def wL_X8_withNear_5 (σ : gk_C) (Q : Int64 → Prop) : Nat → Int64 → Int32 → Prop
  | 0 => fun _ _ => False
  | n + 1 => fun x3 x5 => ((((σ.2 0) ≤ x5) → (Q x3)) ∧ ((¬ (σ.2 0) ≤ x5) → (∃ n23, wL_X8_withNear_23 σ (fun x3 x5 => (wL_X8_withNear_5 σ Q n x3 (x5 + 1))) n23 x3 x5 0)))
def w_X8_withNear (σ : gk_C) (a0 : Int64) (Q : Int64 → Prop) : Prop := (∃ n5, wL_X8_withNear_5 σ Q n5 a0 0)
abbrev rmX8_withNear : Room := { frames := 3, cells := 0, slots := 0, locals := 68 }
set_option maxHeartbeats 4000000 in
set_option maxRecDepth 100000 in
theorem tL_X8_withNear_23 {p : Program} {l : Launch} {e : Env} {s : State} {m : MethodId} {args : Array Value} {below : List Frame} {meth : Method} {c : Code} {D : va_G} {cI cZ cG cL : ClassId} {ad : Nat → Nat} (C0 : gk_F p s m args meth c cX8_withNear 7 (some .long) RX8) (hK : gk_K D cI cZ cG cL s) {σ : gk_C} {Q : Int64 → Prop} {k79 : Int64 → Int32 → Prop} (hk79 : ∀ (x3 : Int64) (x5 : Int32), k79 x3 x5 → ∀ (H : Heap) (locs : List Loc), gk_W D cI ad σ H → va_S (gk_A ad s.heap.size) s.heap H locs → ∀ (ls : Array Slot), lv_has ls 7 [(0, .ref (ad 0)), (3, .long x3), (5, .int x5)] → W p l e rmX8_withNear s m args below meth c H locs 0 0 (MQ below (va_Ql (fun r u => u = σ ∧ Q r) (gk_B D cI ad) (gk_A ad s.heap.size)) args s 0 0 (gk_A ad s.heap.size)) (F0 m 79 ls [])) : ∀ (n : Nat) (x3 : Int64) (x5 : Int32) (x6 : Int32), wL_X8_withNear_23 σ k79 n x3 x5 x6 → ∀ (H : Heap) (locs : List Loc), gk_W D cI ad σ H → va_S (gk_A ad s.heap.size) s.heap H locs → ∀ (ls : Array Slot), lv_has ls 7 [(0, .ref (ad 0)), (3, .long x3), (5, .int x5), (6, .int x6)] → W p l e rmX8_withNear s m args below meth c H locs 0 0 (MQ below (va_Ql (fun r u => u = σ ∧ Q r) (gk_B D cI ad) (gk_A ad s.heap.size)) args s 0 0 (gk_A ad s.heap.size)) (F0 m 23 ls []) := by
  obtain ⟨hx, hb, hml, hown, hts, hr, hlocks⟩ := id C0
  intro n
  induction n with
  | zero => exact fun _ _ _ hw => False.elim hw
  | succ n ih =>
    intro x3 x5 x6 hw H locs hW hS ls hl
    refine lv_iload hx hb dX8_withNear_23 (lv_at hl 3 rfl) ?_
    refine lv_aload_n hx hb dX8_withNear_25 rfl (lv_at hl 0 rfl) ?_
    refine gk_get hx hb hts iwX8 hown hK.1 (gk_o0 hW) rfl 0 (by decide) (hts _ fl_X8_10) (fun _ h9 => h9) rfl dX8_withNear_26 ?_
    refine gk_getN hx hb hts iwX4 hown hK.1 (gk_o1 hW) rfl 1 (by decide) (gk_nw hK nf_X8_62) (fun _ h9 => h9) rfl dX8_withNear_29 ?_
    refine gk_getN hx hb hts iwX1 hown hK.1 (gk_o3 hW) rfl 0 (by decide) (gk_nw hK nf_X8_66) (fun _ h9 => h9) rfl dX8_withNear_32 ?_
    refine lv_icmp_ge (tgt := 79) hx hb dX8_withNear_35 (by decide) (fun c35 => ?_) (fun c35 => ?_)
    · have hw := hw.1 c35
      exact hk79 x3 x5 hw _ _ hW hS _ (lv_sub hl [0, 1, 2] rfl)
    · have hw := hw.2 c35
      refine lv_lload_n hx hb dX8_withNear_38 rfl (lv_at hl 1 rfl) ?_
      refine lv_ldc2 (v := 31) hx hb hown (hts _ k_X8_276) dX8_withNear_39 ?_
      refine lv_lmul hx hb dX8_withNear_42 ?_
      refine lv_aload_n hx hb dX8_withNear_43 rfl (lv_at hl 0 rfl) ?_
      refine gk_get hx hb hts iwX8 hown hK.1 (gk_o0 hW) rfl 0 (by decide) (hts _ fl_X8_10) (fun _ h9 => h9) rfl dX8_withNear_44 ?_
      refine gk_getN hx hb hts iwX4 hown hK.1 (gk_o1 hW) rfl 1 (by decide) (gk_nw hK nf_X8_62) (fun _ h9 => h9) rfl dX8_withNear_47 ?_
      refine lv_aload_n hx hb dX8_withNear_50 rfl (lv_at hl 0 rfl) ?_
      refine gk_get hx hb hts iwX8 hown hK.1 (gk_o0 hW) rfl 0 (by decide) (hts _ fl_X8_10) (fun _ h9 => h9) rfl dX8_withNear_51 ?_
      refine gk_getN hx hb hts iwX4 hown hK.1 (gk_o1 hW) rfl 0 (by decide) (gk_nw hK nf_X8_45) (fun _ h9 => h9) rfl dX8_withNear_54 ?_
      refine gk_getN hx hb hts iwX6 hown hK.1 (gk_o2 hW) rfl 3 (by decide) (gk_nw hK nf_X8_95) (fun _ h9 => h9) rfl dX8_withNear_57 ?_
      refine lv_iload hx hb dX8_withNear_60 (lv_at hl 2 rfl) ?_
      refine gk_callRi ⟨hx, hb, hml, hown, hts⟩ (c_X2_at l D cI cZ cG cL ad (σ := σ) (r := 2) (i := x5) (by decide)) (cwV 1 hts (gk_gV ml_X8_98 im_X2_at se_X2_at in_X2 co_X2_at) rfl rfl rfl (by decide +kernel) ⟨Nat.le_of_ble_eq_true rfl, Nat.le_of_ble_eq_true rfl⟩) (gk_recv hK.1 (gk_or hW (r := 2) (by decide)) rfl) hW hK hS rfl hl.1 (rest := [.ref (ad 3), .long (x3 * 31)]) rfl (lv_room (Nat.le_of_ble_eq_true rfl)) dX8_withNear_62 ⟨Nat.zero_le _, Nat.zero_le _⟩ (fun r62 H locs hq hW _ hS => ?_)
      obtain rfl := hq
      refine lv_iload hx hb dX8_withNear_65 (lv_at hl 3 rfl) ?_
      refine gk_callRi ⟨hx, hb, hml, hown, hts⟩ (c_X1_nearBy l D cI cZ cG cL ad hw) (cwV 2 hts (gk_gV ml_X8_146 im_X1_nearBy se_X1_nearBy in_X1 co_X1_nearBy) rfl rfl rfl (by decide +kernel) ⟨Nat.le_of_ble_eq_true rfl, Nat.le_of_ble_eq_true rfl⟩) (gk_recv hK.1 (gk_o3 hW) rfl) hW hK hS rfl hl.1 (rest := [.long (x3 * 31)]) rfl (lv_room (Nat.le_of_ble_eq_true rfl)) dX8_withNear_67 ⟨Nat.zero_le _, Nat.zero_le _⟩ (fun r67 H locs hw hW _ hS => ?_)
      refine lv_i2l (v := (r67).toInt64) hx hb dX8_withNear_70 rfl ?_
      refine lv_ladd hx hb dX8_withNear_71 ?_
      refine lv_lstore_n (lv' := [(3, .long ((x3 * 31) + ((r67).toInt64))), (0, .ref (ad 0)), (5, .int x5), (6, .int x6)]) hx hb dX8_withNear_72 rfl hl (by decide) rfl (fun ls hl => ?_)
      refine lv_iinc (v := (x6 + 1)) (lv' := [(6, .int (x6 + 1)), (3, .long ((x3 * 31) + ((r67).toInt64))), (0, .ref (ad 0)), (5, .int x5)]) hx hb dX8_withNear_73 hl (k := 3) rfl rfl (by decide) rfl (fun ls hl => ?_)
      refine lv_goto (tgt := 23) hx hb dX8_withNear_76 (by decide) ?_
      exact ih ((x3 * 31) + ((r67).toInt64)) x5 (x6 + 1) hw _ _ hW hS _ (lv_sub hl [2, 1, 3, 0] rfl)
set_option maxHeartbeats 4000000 in
set_option maxRecDepth 100000 in
theorem tL_X8_withNear_5 {p : Program} {l : Launch} {e : Env} {s : State} {m : MethodId} {args : Array Value} {below : List Frame} {meth : Method} {c : Code} {D : va_G} {cI cZ cG cL : ClassId} {ad : Nat → Nat} (C0 : gk_F p s m args meth c cX8_withNear 7 (some .long) RX8) (hK : gk_K D cI cZ cG cL s) {σ : gk_C} {Q : Int64 → Prop} : ∀ (n : Nat) (x3 : Int64) (x5 : Int32), wL_X8_withNear_5 σ Q n x3 x5 → ∀ (H : Heap) (locs : List Loc), gk_W D cI ad σ H → va_S (gk_A ad s.heap.size) s.heap H locs → ∀ (ls : Array Slot), lv_has ls 7 [(0, .ref (ad 0)), (3, .long x3), (5, .int x5)] → W p l e rmX8_withNear s m args below meth c H locs 0 0 (MQ below (va_Ql (fun r u => u = σ ∧ Q r) (gk_B D cI ad) (gk_A ad s.heap.size)) args s 0 0 (gk_A ad s.heap.size)) (F0 m 5 ls []) := by
  obtain ⟨hx, hb, hml, hown, hts, hr, hlocks⟩ := id C0
  intro n
  induction n with
  | zero => exact fun _ _ hw => False.elim hw
  | succ n ih =>
    intro x3 x5 hw H locs hW hS ls hl
    refine lv_iload hx hb dX8_withNear_5 (lv_at hl 2 rfl) ?_
    refine lv_aload_n hx hb dX8_withNear_7 rfl (lv_at hl 0 rfl) ?_
    refine gk_get hx hb hts iwX8 hown hK.1 (gk_o0 hW) rfl 0 (by decide) (hts _ fl_X8_10) (fun _ h9 => h9) rfl dX8_withNear_8 ?_
    refine gk_getN hx hb hts iwX4 hown hK.1 (gk_o1 hW) rfl 0 (by decide) (gk_nw hK nf_X8_45) (fun _ h9 => h9) rfl dX8_withNear_11 ?_
    refine gk_getN hx hb hts iwX6 hown hK.1 (gk_o2 hW) rfl 0 (by decide) (gk_nw hK nf_X8_49) (fun _ h9 => h9) rfl dX8_withNear_14 ?_
    refine lv_icmp_ge (tgt := 85) hx hb dX8_withNear_17 (by decide) (fun c17 => ?_) (fun c17 => ?_)
    · have hw := hw.1 c17
      refine lv_lload_n hx hb dX8_withNear_85 rfl (lv_at hl 1 rfl) ?_
      exact gk_retl C0 ⟨rfl, hw⟩ hW hS dX8_withNear_86
    · have hw := hw.2 c17
      refine lv_iconst (v := 0) hx hb dX8_withNear_20 (by decide) ?_
      refine lv_istore (lv' := [(6, .int 0), (0, .ref (ad 0)), (3, .long x3), (5, .int x5)]) hx hb dX8_withNear_21 hl (by decide) rfl (fun ls hl => ?_)
      obtain ⟨n23, hw⟩ := hw
      refine tL_X8_withNear_23 C0 hK (hk79 := ?_) n23 x3 x5 0 hw _ _ hW hS _ (lv_sub hl [1, 2, 3, 0] rfl)
      · intro x3 x5 hw H locs hW hS ls hl
        refine lv_iinc (v := (x5 + 1)) (lv' := [(5, .int (x5 + 1)), (0, .ref (ad 0)), (3, .long x3)]) hx hb dX8_withNear_79 hl (k := 2) rfl rfl (by decide) rfl (fun ls hl => ?_)
        refine lv_goto (tgt := 5) hx hb dX8_withNear_82 (by decide) ?_
        exact ih x3 (x5 + 1) hw _ _ hW hS _ (lv_sub hl [1, 2, 0] rfl)
set_option maxHeartbeats 4000000 in
set_option maxRecDepth 100000 in
theorem c_X8_withNear (l : Launch) (D : va_G) (cI cZ cG cL : ClassId) (ad : Nat → Nat) {σ : gk_C} {a0 : Int64} {Q : Int64 → Prop} {sz : Nat} (hw : w_X8_withNear σ a0 Q) : Met l yX8_withNear wsX8_withNear rmX8_withNear (gk_Pc D cI cZ cG cL ad [.ref (ad 0), .long a0] sz σ) (va_Ql (fun r u => u = σ ∧ Q r) (gk_B D cI ad) (gk_A ad sz)) 0 0 (gk_A ad sz) := by
  refine Met.ofW (cc := cX8_withNear) (maxL := 7) (ret := (some .long)) (by decide) rfl ?_
  intro p e s m args below meth c s₁ B hml0 hv0
  obtain ⟨rfl, hsz, hW, hK⟩ := hv0
  subst hsz
  have C0 : gk_F p s m ([.ref (ad 0), .long a0] : List Value).toArray meth c cX8_withNear 7 (some .long) RX8 := ⟨B.exec, B.bytes, hml0, findClass_of_methodNamed B.named, fun w hw => atoms_spec (ws := wsX8_withNear) B.pre w (List.mem_cons_of_mem _ hw), B.returns, B.notSynchronized⟩
  obtain ⟨hx, hb, hml, hown, hts, hr, hlocks⟩ := id C0
  have hS : va_S (gk_A ad s.heap.size) s.heap s.heap [] := va_S.rf
  have hl := lv_entry ([.ref (ad 0), .long a0]) (n := 7) (Nat.le_of_ble_eq_true rfl)
  rw [lg_entry_eq]
  generalize (lg_sl ([.ref (ad 0), .long a0]) ++ List.replicate (7 - (lg_sl ([.ref (ad 0), .long a0])).length) Slot.unset).toArray = ls at hl ⊢
  have hl : lv_has ls 7 [(0, .ref (ad 0)), (1, .long a0)] := hl
  show W p l e rmX8_withNear s m _ below meth c s.heap [] 0 0 _ _
  refine lv_lload_n hx hb dX8_withNear_0 rfl (lv_at hl 1 rfl) ?_
  refine lv_lstore_n (lv' := [(3, .long a0), (0, .ref (ad 0)), (1, .long a0)]) hx hb dX8_withNear_1 rfl hl (by decide) rfl (fun ls hl => ?_)
  refine lv_iconst (v := 0) hx hb dX8_withNear_2 (by decide) ?_
  refine lv_istore (lv' := [(5, .int 0), (3, .long a0), (0, .ref (ad 0)), (1, .long a0)]) hx hb dX8_withNear_3 hl (by decide) rfl (fun ls hl => ?_)
  obtain ⟨n5, hw⟩ := hw
  refine tL_X8_withNear_5 C0 hK  n5 a0 0 hw _ _ hW hS _ (lv_sub hl [2, 1, 0] rfl)
def wL_X8_withDone_23 (σ : gk_C) (k66 : Int64 → Int32 → Prop) : Nat → Int64 → Int32 → Int32 → Prop
  | 0 => fun _ _ _ => False
  | n + 1 => fun x3 x5 x6 => ((((σ.2 3) ≤ x6) → (k66 x3 x5)) ∧ ((¬ (σ.2 3) ≤ x6) → (w_X6_doneOn σ x5 x6 (fun r54 => wL_X8_withDone_23 σ k66 n ((x3 * 31) + ((r54).toInt64)) x5 (x6 + 1)))))
def wL_X8_withDone_5 (σ : gk_C) (Q : Int64 → Prop) : Nat → Int64 → Int32 → Prop
  | 0 => fun _ _ => False
  | n + 1 => fun x3 x5 => ((((σ.2 0) ≤ x5) → (Q x3)) ∧ ((¬ (σ.2 0) ≤ x5) → (∃ n23, wL_X8_withDone_23 σ (fun x3 x5 => (wL_X8_withDone_5 σ Q n x3 (x5 + 1))) n23 x3 x5 0)))
def w_X8_withDone (σ : gk_C) (a0 : Int64) (Q : Int64 → Prop) : Prop := (∃ n5, wL_X8_withDone_5 σ Q n5 a0 0)
abbrev rmX8_withDone : Room := { frames := 2, cells := 0, slots := 0, locals := 43 }
set_option maxHeartbeats 4000000 in
set_option maxRecDepth 100000 in
theorem tL_X8_withDone_23 {p : Program} {l : Launch} {e : Env} {s : State} {m : MethodId} {args : Array Value} {below : List Frame} {meth : Method} {c : Code} {D : va_G} {cI cZ cG cL : ClassId} {ad : Nat → Nat} (C0 : gk_F p s m args meth c cX8_withDone 7 (some .long) RX8) (hK : gk_K D cI cZ cG cL s) {σ : gk_C} {Q : Int64 → Prop} {k66 : Int64 → Int32 → Prop} (hk66 : ∀ (x3 : Int64) (x5 : Int32), k66 x3 x5 → ∀ (H : Heap) (locs : List Loc), gk_W D cI ad σ H → va_S (gk_A ad s.heap.size) s.heap H locs → ∀ (ls : Array Slot), lv_has ls 7 [(0, .ref (ad 0)), (3, .long x3), (5, .int x5)] → W p l e rmX8_withDone s m args below meth c H locs 0 0 (MQ below (va_Ql (fun r u => u = σ ∧ Q r) (gk_B D cI ad) (gk_A ad s.heap.size)) args s 0 0 (gk_A ad s.heap.size)) (F0 m 66 ls [])) : ∀ (n : Nat) (x3 : Int64) (x5 : Int32) (x6 : Int32), wL_X8_withDone_23 σ k66 n x3 x5 x6 → ∀ (H : Heap) (locs : List Loc), gk_W D cI ad σ H → va_S (gk_A ad s.heap.size) s.heap H locs → ∀ (ls : Array Slot), lv_has ls 7 [(0, .ref (ad 0)), (3, .long x3), (5, .int x5), (6, .int x6)] → W p l e rmX8_withDone s m args below meth c H locs 0 0 (MQ below (va_Ql (fun r u => u = σ ∧ Q r) (gk_B D cI ad) (gk_A ad s.heap.size)) args s 0 0 (gk_A ad s.heap.size)) (F0 m 23 ls []) := by
  obtain ⟨hx, hb, hml, hown, hts, hr, hlocks⟩ := id C0
  intro n
  induction n with
  | zero => exact fun _ _ _ hw => False.elim hw
  | succ n ih =>
    intro x3 x5 x6 hw H locs hW hS ls hl
    refine lv_iload hx hb dX8_withDone_23 (lv_at hl 3 rfl) ?_
    refine lv_aload_n hx hb dX8_withDone_25 rfl (lv_at hl 0 rfl) ?_
    refine gk_get hx hb hts iwX8 hown hK.1 (gk_o0 hW) rfl 0 (by decide) (hts _ fl_X8_10) (fun _ h9 => h9) rfl dX8_withDone_26 ?_
    refine gk_getN hx hb hts iwX4 hown hK.1 (gk_o1 hW) rfl 2 (by decide) (gk_nw hK nf_X8_79) (fun _ h9 => h9) rfl dX8_withDone_29 ?_
    refine gk_getN hx hb hts iwX5 hown hK.1 (gk_o4 hW) rfl 0 (by decide) (gk_nw hK nf_X8_83) (fun _ h9 => h9) rfl dX8_withDone_32 ?_
    refine lv_icmp_ge (tgt := 66) hx hb dX8_withDone_35 (by decide) (fun c35 => ?_) (fun c35 => ?_)
    · have hw := hw.1 c35
      exact hk66 x3 x5 hw _ _ hW hS _ (lv_sub hl [0, 1, 2] rfl)
    · have hw := hw.2 c35
      refine lv_lload_n hx hb dX8_withDone_38 rfl (lv_at hl 1 rfl) ?_
      refine lv_ldc2 (v := 31) hx hb hown (hts _ k_X8_276) dX8_withDone_39 ?_
      refine lv_lmul hx hb dX8_withDone_42 ?_
      refine lv_aload_n hx hb dX8_withDone_43 rfl (lv_at hl 0 rfl) ?_
      refine gk_get hx hb hts iwX8 hown hK.1 (gk_o0 hW) rfl 0 (by decide) (hts _ fl_X8_10) (fun _ h9 => h9) rfl dX8_withDone_44 ?_
      refine gk_getN hx hb hts iwX4 hown hK.1 (gk_o1 hW) rfl 0 (by decide) (gk_nw hK nf_X8_45) (fun _ h9 => h9) rfl dX8_withDone_47 ?_
      refine lv_iload hx hb dX8_withDone_50 (lv_at hl 2 rfl) ?_
      refine lv_iload hx hb dX8_withDone_52 (lv_at hl 3 rfl) ?_
      refine gk_callRi ⟨hx, hb, hml, hown, hts⟩ (c_X6_doneOn l D cI cZ cG cL ad hw) (cwV 2 hts (gk_gV ml_X8_235 im_X6_doneOn se_X6_doneOn in_X6 co_X6_doneOn) rfl rfl rfl (by decide +kernel) ⟨Nat.le_of_ble_eq_true rfl, Nat.le_of_ble_eq_true rfl⟩) (gk_recv hK.1 (gk_o2 hW) rfl) hW hK hS rfl hl.1 (rest := [.long (x3 * 31)]) rfl (lv_room (Nat.le_of_ble_eq_true rfl)) dX8_withDone_54 ⟨Nat.zero_le _, Nat.zero_le _⟩ (fun r54 H locs hw hW _ hS => ?_)
      refine lv_i2l (v := (r54).toInt64) hx hb dX8_withDone_57 rfl ?_
      refine lv_ladd hx hb dX8_withDone_58 ?_
      refine lv_lstore_n (lv' := [(3, .long ((x3 * 31) + ((r54).toInt64))), (0, .ref (ad 0)), (5, .int x5), (6, .int x6)]) hx hb dX8_withDone_59 rfl hl (by decide) rfl (fun ls hl => ?_)
      refine lv_iinc (v := (x6 + 1)) (lv' := [(6, .int (x6 + 1)), (3, .long ((x3 * 31) + ((r54).toInt64))), (0, .ref (ad 0)), (5, .int x5)]) hx hb dX8_withDone_60 hl (k := 3) rfl rfl (by decide) rfl (fun ls hl => ?_)
      refine lv_goto (tgt := 23) hx hb dX8_withDone_63 (by decide) ?_
      exact ih ((x3 * 31) + ((r54).toInt64)) x5 (x6 + 1) hw _ _ hW hS _ (lv_sub hl [2, 1, 3, 0] rfl)
set_option maxHeartbeats 4000000 in
set_option maxRecDepth 100000 in
theorem tL_X8_withDone_5 {p : Program} {l : Launch} {e : Env} {s : State} {m : MethodId} {args : Array Value} {below : List Frame} {meth : Method} {c : Code} {D : va_G} {cI cZ cG cL : ClassId} {ad : Nat → Nat} (C0 : gk_F p s m args meth c cX8_withDone 7 (some .long) RX8) (hK : gk_K D cI cZ cG cL s) {σ : gk_C} {Q : Int64 → Prop} : ∀ (n : Nat) (x3 : Int64) (x5 : Int32), wL_X8_withDone_5 σ Q n x3 x5 → ∀ (H : Heap) (locs : List Loc), gk_W D cI ad σ H → va_S (gk_A ad s.heap.size) s.heap H locs → ∀ (ls : Array Slot), lv_has ls 7 [(0, .ref (ad 0)), (3, .long x3), (5, .int x5)] → W p l e rmX8_withDone s m args below meth c H locs 0 0 (MQ below (va_Ql (fun r u => u = σ ∧ Q r) (gk_B D cI ad) (gk_A ad s.heap.size)) args s 0 0 (gk_A ad s.heap.size)) (F0 m 5 ls []) := by
  obtain ⟨hx, hb, hml, hown, hts, hr, hlocks⟩ := id C0
  intro n
  induction n with
  | zero => exact fun _ _ hw => False.elim hw
  | succ n ih =>
    intro x3 x5 hw H locs hW hS ls hl
    refine lv_iload hx hb dX8_withDone_5 (lv_at hl 2 rfl) ?_
    refine lv_aload_n hx hb dX8_withDone_7 rfl (lv_at hl 0 rfl) ?_
    refine gk_get hx hb hts iwX8 hown hK.1 (gk_o0 hW) rfl 0 (by decide) (hts _ fl_X8_10) (fun _ h9 => h9) rfl dX8_withDone_8 ?_
    refine gk_getN hx hb hts iwX4 hown hK.1 (gk_o1 hW) rfl 0 (by decide) (gk_nw hK nf_X8_45) (fun _ h9 => h9) rfl dX8_withDone_11 ?_
    refine gk_getN hx hb hts iwX6 hown hK.1 (gk_o2 hW) rfl 0 (by decide) (gk_nw hK nf_X8_49) (fun _ h9 => h9) rfl dX8_withDone_14 ?_
    refine lv_icmp_ge (tgt := 72) hx hb dX8_withDone_17 (by decide) (fun c17 => ?_) (fun c17 => ?_)
    · have hw := hw.1 c17
      refine lv_lload_n hx hb dX8_withDone_72 rfl (lv_at hl 1 rfl) ?_
      exact gk_retl C0 ⟨rfl, hw⟩ hW hS dX8_withDone_73
    · have hw := hw.2 c17
      refine lv_iconst (v := 0) hx hb dX8_withDone_20 (by decide) ?_
      refine lv_istore (lv' := [(6, .int 0), (0, .ref (ad 0)), (3, .long x3), (5, .int x5)]) hx hb dX8_withDone_21 hl (by decide) rfl (fun ls hl => ?_)
      obtain ⟨n23, hw⟩ := hw
      refine tL_X8_withDone_23 C0 hK (hk66 := ?_) n23 x3 x5 0 hw _ _ hW hS _ (lv_sub hl [1, 2, 3, 0] rfl)
      · intro x3 x5 hw H locs hW hS ls hl
        refine lv_iinc (v := (x5 + 1)) (lv' := [(5, .int (x5 + 1)), (0, .ref (ad 0)), (3, .long x3)]) hx hb dX8_withDone_66 hl (k := 2) rfl rfl (by decide) rfl (fun ls hl => ?_)
        refine lv_goto (tgt := 5) hx hb dX8_withDone_69 (by decide) ?_
        exact ih x3 (x5 + 1) hw _ _ hW hS _ (lv_sub hl [1, 2, 0] rfl)
set_option maxHeartbeats 4000000 in
set_option maxRecDepth 100000 in
theorem c_X8_withDone (l : Launch) (D : va_G) (cI cZ cG cL : ClassId) (ad : Nat → Nat) {σ : gk_C} {a0 : Int64} {Q : Int64 → Prop} {sz : Nat} (hw : w_X8_withDone σ a0 Q) : Met l yX8_withDone wsX8_withDone rmX8_withDone (gk_Pc D cI cZ cG cL ad [.ref (ad 0), .long a0] sz σ) (va_Ql (fun r u => u = σ ∧ Q r) (gk_B D cI ad) (gk_A ad sz)) 0 0 (gk_A ad sz) := by
  refine Met.ofW (cc := cX8_withDone) (maxL := 7) (ret := (some .long)) (by decide) rfl ?_
  intro p e s m args below meth c s₁ B hml0 hv0
  obtain ⟨rfl, hsz, hW, hK⟩ := hv0
  subst hsz
  have C0 : gk_F p s m ([.ref (ad 0), .long a0] : List Value).toArray meth c cX8_withDone 7 (some .long) RX8 := ⟨B.exec, B.bytes, hml0, findClass_of_methodNamed B.named, fun w hw => atoms_spec (ws := wsX8_withDone) B.pre w (List.mem_cons_of_mem _ hw), B.returns, B.notSynchronized⟩
  obtain ⟨hx, hb, hml, hown, hts, hr, hlocks⟩ := id C0
  have hS : va_S (gk_A ad s.heap.size) s.heap s.heap [] := va_S.rf
  have hl := lv_entry ([.ref (ad 0), .long a0]) (n := 7) (Nat.le_of_ble_eq_true rfl)
  rw [lg_entry_eq]
  generalize (lg_sl ([.ref (ad 0), .long a0]) ++ List.replicate (7 - (lg_sl ([.ref (ad 0), .long a0])).length) Slot.unset).toArray = ls at hl ⊢
  have hl : lv_has ls 7 [(0, .ref (ad 0)), (1, .long a0)] := hl
  show W p l e rmX8_withDone s m _ below meth c s.heap [] 0 0 _ _
  refine lv_lload_n hx hb dX8_withDone_0 rfl (lv_at hl 1 rfl) ?_
  refine lv_lstore_n (lv' := [(3, .long a0), (0, .ref (ad 0)), (1, .long a0)]) hx hb dX8_withDone_1 rfl hl (by decide) rfl (fun ls hl => ?_)
  refine lv_iconst (v := 0) hx hb dX8_withDone_2 (by decide) ?_
  refine lv_istore (lv' := [(5, .int 0), (3, .long a0), (0, .ref (ad 0)), (1, .long a0)]) hx hb dX8_withDone_3 hl (by decide) rfl (fun ls hl => ?_)
  obtain ⟨n5, hw⟩ := hw
  refine tL_X8_withDone_5 C0 hK  n5 a0 0 hw _ _ hW hS _ (lv_sub hl [2, 1, 0] rfl)
def wL_X8_withDecisions_32 (k74 : gk_C → Int64 → Int32 → Int32 → Prop) : Nat → gk_C → Int64 → Int32 → Int32 → Int32 → Prop
  | 0 => fun _ _ _ _ _ => False
  | n + 1 => fun σ x3 x5 x6 x7 => ((((σ.2 3) ≤ x7) → (k74 σ x3 x5 x6)) ∧ ((¬ (σ.2 3) ≤ x7) → (w_X7_decided 0 σ x5 x6 x7 (fun r62 => wL_X8_withDecisions_32 k74 n σ ((x3 * 31) + ((r62).toInt64)) x5 x6 (x7 + 1)))))
def wL_X8_withDecisions_23 (k80 : gk_C → Int64 → Int32 → Prop) : Nat → gk_C → Int64 → Int32 → Int32 → Prop
  | 0 => fun _ _ _ _ => False
  | n + 1 => fun σ x3 x5 x6 => (((5 ≤ x6) → (k80 σ x3 x5)) ∧ ((¬ 5 ≤ x6) → (∃ n32, wL_X8_withDecisions_32 (fun σ x3 x5 x6 => (wL_X8_withDecisions_23 k80 n σ x3 x5 (x6 + 1))) n32 σ x3 x5 x6 0)))
def wL_X8_withDecisions_5 (Q : Int64 → gk_C → Prop) : Nat → gk_C → Int64 → Int32 → Prop
  | 0 => fun _ _ _ => False
  | n + 1 => fun σ x3 x5 => ((((σ.2 0) ≤ x5) → (Q x3 σ)) ∧ ((¬ (σ.2 0) ≤ x5) → (∃ n23, wL_X8_withDecisions_23 (fun σ x3 x5 => (wL_X8_withDecisions_5 Q n σ x3 (x5 + 1))) n23 σ x3 x5 0)))
def w_X8_withDecisions (σ : gk_C) (a0 : Int64) (Q : Int64 → gk_C → Prop) : Prop := (∃ n5, wL_X8_withDecisions_5 Q n5 σ a0 0)
abbrev rmX8_withDecisions : Room := { frames := 5, cells := 0, slots := 0, locals := 115 }
set_option maxHeartbeats 4000000 in
set_option maxRecDepth 100000 in
theorem tL_X8_withDecisions_32 {p : Program} {l : Launch} {e : Env} {s : State} {m : MethodId} {args : Array Value} {below : List Frame} {meth : Method} {c : Code} {D : va_G} {cI cZ cG cL : ClassId} {ad : Nat → Nat} (C0 : gk_F p s m args meth c cX8_withDecisions 8 (some .long) RX8) (hK : gk_K D cI cZ cG cL s) {Q : Int64 → gk_C → Prop} {k74 : gk_C → Int64 → Int32 → Int32 → Prop} (hk74 : ∀ (σ : gk_C) (x3 : Int64) (x5 : Int32) (x6 : Int32), k74 σ x3 x5 x6 → ∀ (H : Heap) (locs : List Loc), gk_W D cI ad σ H → va_S (gk_A ad s.heap.size) s.heap H locs → ∀ (ls : Array Slot), lv_has ls 8 [(0, .ref (ad 0)), (3, .long x3), (5, .int x5), (6, .int x6)] → W p l e rmX8_withDecisions s m args below meth c H locs 0 0 (MQ below (va_Ql (fun r u => Q r u) (gk_B D cI ad) (gk_A ad s.heap.size)) args s 0 0 (gk_A ad s.heap.size)) (F0 m 74 ls [])) : ∀ (n : Nat) (σ : gk_C) (x3 : Int64) (x5 : Int32) (x6 : Int32) (x7 : Int32), wL_X8_withDecisions_32 k74 n σ x3 x5 x6 x7 → ∀ (H : Heap) (locs : List Loc), gk_W D cI ad σ H → va_S (gk_A ad s.heap.size) s.heap H locs → ∀ (ls : Array Slot), lv_has ls 8 [(0, .ref (ad 0)), (3, .long x3), (5, .int x5), (6, .int x6), (7, .int x7)] → W p l e rmX8_withDecisions s m args below meth c H locs 0 0 (MQ below (va_Ql (fun r u => Q r u) (gk_B D cI ad) (gk_A ad s.heap.size)) args s 0 0 (gk_A ad s.heap.size)) (F0 m 32 ls []) := by
  obtain ⟨hx, hb, hml, hown, hts, hr, hlocks⟩ := id C0
  intro n
  induction n with
  | zero => exact fun _ _ _ _ _ hw => False.elim hw
  | succ n ih =>
    intro σ x3 x5 x6 x7 hw H locs hW hS ls hl
    refine lv_iload hx hb dX8_withDecisions_32 (lv_at hl 4 rfl) ?_
    refine lv_aload_n hx hb dX8_withDecisions_34 rfl (lv_at hl 0 rfl) ?_
    refine gk_get hx hb hts iwX8 hown hK.1 (gk_o0 hW) rfl 0 (by decide) (hts _ fl_X8_10) (fun _ h9 => h9) rfl dX8_withDecisions_35 ?_
    refine gk_getN hx hb hts iwX4 hown hK.1 (gk_o1 hW) rfl 2 (by decide) (gk_nw hK nf_X8_79) (fun _ h9 => h9) rfl dX8_withDecisions_38 ?_
    refine gk_getN hx hb hts iwX5 hown hK.1 (gk_o4 hW) rfl 0 (by decide) (gk_nw hK nf_X8_83) (fun _ h9 => h9) rfl dX8_withDecisions_41 ?_
    refine lv_icmp_ge (tgt := 74) hx hb dX8_withDecisions_44 (by decide) (fun c44 => ?_) (fun c44 => ?_)
    · have hw := hw.1 c44
      exact hk74 σ x3 x5 x6 hw _ _ hW hS _ (lv_sub hl [0, 1, 2, 3] rfl)
    · have hw := hw.2 c44
      refine lv_lload_n hx hb dX8_withDecisions_47 rfl (lv_at hl 1 rfl) ?_
      refine lv_ldc2 (v := 31) hx hb hown (hts _ k_X8_276) dX8_withDecisions_48 ?_
      refine lv_lmul hx hb dX8_withDecisions_51 ?_
      refine lv_aload_n hx hb dX8_withDecisions_52 rfl (lv_at hl 0 rfl) ?_
      refine gk_get hx hb hts iwX8 hown hK.1 (gk_o0 hW) rfl 1 (by decide) (hts _ fl_X8_21) (fun _ h9 => h9) rfl dX8_withDecisions_53 ?_
      refine lv_iload hx hb dX8_withDecisions_56 (lv_at hl 2 rfl) ?_
      refine lv_iload hx hb dX8_withDecisions_58 (lv_at hl 3 rfl) ?_
      refine lv_iload hx hb dX8_withDecisions_60 (lv_at hl 4 rfl) ?_
      refine gk_callRi ⟨hx, hb, hml, hown, hts⟩ (c_X7_decided l D cI cZ cG cL ad (by decide) hw) (cwV 3 hts (gk_gV ml_X8_226 im_X7_decided se_X7_decided in_X7 co_X7_decided) rfl rfl rfl (by decide +kernel) ⟨Nat.le_of_ble_eq_true rfl, Nat.le_of_ble_eq_true rfl⟩) (gk_recv hK.1 (gk_ov hW (v := 0) (by decide)) rfl) hW hK hS rfl hl.1 (rest := [.long (x3 * 31)]) rfl (lv_room (Nat.le_of_ble_eq_true rfl)) dX8_withDecisions_62 ⟨Nat.zero_le _, Nat.zero_le _⟩ (fun r62 H locs hw hW _ hS => ?_)
      refine lv_i2l (v := (r62).toInt64) hx hb dX8_withDecisions_65 rfl ?_
      refine lv_ladd hx hb dX8_withDecisions_66 ?_
      refine lv_lstore_n (lv' := [(3, .long ((x3 * 31) + ((r62).toInt64))), (0, .ref (ad 0)), (5, .int x5), (6, .int x6), (7, .int x7)]) hx hb dX8_withDecisions_67 rfl hl (by decide) rfl (fun ls hl => ?_)
      refine lv_iinc (v := (x7 + 1)) (lv' := [(7, .int (x7 + 1)), (3, .long ((x3 * 31) + ((r62).toInt64))), (0, .ref (ad 0)), (5, .int x5), (6, .int x6)]) hx hb dX8_withDecisions_68 hl (k := 4) rfl rfl (by decide) rfl (fun ls hl => ?_)
      refine lv_goto (tgt := 32) hx hb dX8_withDecisions_71 (by decide) ?_
      exact ih σ ((x3 * 31) + ((r62).toInt64)) x5 x6 (x7 + 1) hw _ _ hW hS _ (lv_sub hl [2, 1, 3, 4, 0] rfl)
set_option maxHeartbeats 4000000 in
set_option maxRecDepth 100000 in
theorem tL_X8_withDecisions_23 {p : Program} {l : Launch} {e : Env} {s : State} {m : MethodId} {args : Array Value} {below : List Frame} {meth : Method} {c : Code} {D : va_G} {cI cZ cG cL : ClassId} {ad : Nat → Nat} (C0 : gk_F p s m args meth c cX8_withDecisions 8 (some .long) RX8) (hK : gk_K D cI cZ cG cL s) {Q : Int64 → gk_C → Prop} {k80 : gk_C → Int64 → Int32 → Prop} (hk80 : ∀ (σ : gk_C) (x3 : Int64) (x5 : Int32), k80 σ x3 x5 → ∀ (H : Heap) (locs : List Loc), gk_W D cI ad σ H → va_S (gk_A ad s.heap.size) s.heap H locs → ∀ (ls : Array Slot), lv_has ls 8 [(0, .ref (ad 0)), (3, .long x3), (5, .int x5)] → W p l e rmX8_withDecisions s m args below meth c H locs 0 0 (MQ below (va_Ql (fun r u => Q r u) (gk_B D cI ad) (gk_A ad s.heap.size)) args s 0 0 (gk_A ad s.heap.size)) (F0 m 80 ls [])) : ∀ (n : Nat) (σ : gk_C) (x3 : Int64) (x5 : Int32) (x6 : Int32), wL_X8_withDecisions_23 k80 n σ x3 x5 x6 → ∀ (H : Heap) (locs : List Loc), gk_W D cI ad σ H → va_S (gk_A ad s.heap.size) s.heap H locs → ∀ (ls : Array Slot), lv_has ls 8 [(0, .ref (ad 0)), (3, .long x3), (5, .int x5), (6, .int x6)] → W p l e rmX8_withDecisions s m args below meth c H locs 0 0 (MQ below (va_Ql (fun r u => Q r u) (gk_B D cI ad) (gk_A ad s.heap.size)) args s 0 0 (gk_A ad s.heap.size)) (F0 m 23 ls []) := by
  obtain ⟨hx, hb, hml, hown, hts, hr, hlocks⟩ := id C0
  intro n
  induction n with
  | zero => exact fun _ _ _ _ hw => False.elim hw
  | succ n ih =>
    intro σ x3 x5 x6 hw H locs hW hS ls hl
    refine lv_iload hx hb dX8_withDecisions_23 (lv_at hl 3 rfl) ?_
    refine lv_iconst (v := 5) hx hb dX8_withDecisions_25 (by decide) ?_
    refine lv_icmp_ge (tgt := 80) hx hb dX8_withDecisions_26 (by decide) (fun c26 => ?_) (fun c26 => ?_)
    · have hw := hw.1 c26
      exact hk80 σ x3 x5 hw _ _ hW hS _ (lv_sub hl [0, 1, 2] rfl)
    · have hw := hw.2 c26
      refine lv_iconst (v := 0) hx hb dX8_withDecisions_29 (by decide) ?_
      refine lv_istore (lv' := [(7, .int 0), (0, .ref (ad 0)), (3, .long x3), (5, .int x5), (6, .int x6)]) hx hb dX8_withDecisions_30 hl (by decide) rfl (fun ls hl => ?_)
      obtain ⟨n32, hw⟩ := hw
      refine tL_X8_withDecisions_32 C0 hK (hk74 := ?_) n32 σ x3 x5 x6 0 hw _ _ hW hS _ (lv_sub hl [1, 2, 3, 4, 0] rfl)
      · intro σ x3 x5 x6 hw H locs hW hS ls hl
        refine lv_iinc (v := (x6 + 1)) (lv' := [(6, .int (x6 + 1)), (0, .ref (ad 0)), (3, .long x3), (5, .int x5)]) hx hb dX8_withDecisions_74 hl (k := 3) rfl rfl (by decide) rfl (fun ls hl => ?_)
        refine lv_goto (tgt := 23) hx hb dX8_withDecisions_77 (by decide) ?_
        exact ih σ x3 x5 (x6 + 1) hw _ _ hW hS _ (lv_sub hl [1, 2, 3, 0] rfl)
set_option maxHeartbeats 4000000 in
set_option maxRecDepth 100000 in
theorem tL_X8_withDecisions_5 {p : Program} {l : Launch} {e : Env} {s : State} {m : MethodId} {args : Array Value} {below : List Frame} {meth : Method} {c : Code} {D : va_G} {cI cZ cG cL : ClassId} {ad : Nat → Nat} (C0 : gk_F p s m args meth c cX8_withDecisions 8 (some .long) RX8) (hK : gk_K D cI cZ cG cL s) {Q : Int64 → gk_C → Prop} : ∀ (n : Nat) (σ : gk_C) (x3 : Int64) (x5 : Int32), wL_X8_withDecisions_5 Q n σ x3 x5 → ∀ (H : Heap) (locs : List Loc), gk_W D cI ad σ H → va_S (gk_A ad s.heap.size) s.heap H locs → ∀ (ls : Array Slot), lv_has ls 8 [(0, .ref (ad 0)), (3, .long x3), (5, .int x5)] → W p l e rmX8_withDecisions s m args below meth c H locs 0 0 (MQ below (va_Ql (fun r u => Q r u) (gk_B D cI ad) (gk_A ad s.heap.size)) args s 0 0 (gk_A ad s.heap.size)) (F0 m 5 ls []) := by
  obtain ⟨hx, hb, hml, hown, hts, hr, hlocks⟩ := id C0
  intro n
  induction n with
  | zero => exact fun _ _ _ hw => False.elim hw
  | succ n ih =>
    intro σ x3 x5 hw H locs hW hS ls hl
    refine lv_iload hx hb dX8_withDecisions_5 (lv_at hl 2 rfl) ?_
    refine lv_aload_n hx hb dX8_withDecisions_7 rfl (lv_at hl 0 rfl) ?_
    refine gk_get hx hb hts iwX8 hown hK.1 (gk_o0 hW) rfl 0 (by decide) (hts _ fl_X8_10) (fun _ h9 => h9) rfl dX8_withDecisions_8 ?_
    refine gk_getN hx hb hts iwX4 hown hK.1 (gk_o1 hW) rfl 0 (by decide) (gk_nw hK nf_X8_45) (fun _ h9 => h9) rfl dX8_withDecisions_11 ?_
    refine gk_getN hx hb hts iwX6 hown hK.1 (gk_o2 hW) rfl 0 (by decide) (gk_nw hK nf_X8_49) (fun _ h9 => h9) rfl dX8_withDecisions_14 ?_
    refine lv_icmp_ge (tgt := 86) hx hb dX8_withDecisions_17 (by decide) (fun c17 => ?_) (fun c17 => ?_)
    · have hw := hw.1 c17
      refine lv_lload_n hx hb dX8_withDecisions_86 rfl (lv_at hl 1 rfl) ?_
      exact gk_retl C0 hw hW hS dX8_withDecisions_87
    · have hw := hw.2 c17
      refine lv_iconst (v := 0) hx hb dX8_withDecisions_20 (by decide) ?_
      refine lv_istore (lv' := [(6, .int 0), (0, .ref (ad 0)), (3, .long x3), (5, .int x5)]) hx hb dX8_withDecisions_21 hl (by decide) rfl (fun ls hl => ?_)
      obtain ⟨n23, hw⟩ := hw
      refine tL_X8_withDecisions_23 C0 hK (hk80 := ?_) n23 σ x3 x5 0 hw _ _ hW hS _ (lv_sub hl [1, 2, 3, 0] rfl)
      · intro σ x3 x5 hw H locs hW hS ls hl
        refine lv_iinc (v := (x5 + 1)) (lv' := [(5, .int (x5 + 1)), (0, .ref (ad 0)), (3, .long x3)]) hx hb dX8_withDecisions_80 hl (k := 2) rfl rfl (by decide) rfl (fun ls hl => ?_)
        refine lv_goto (tgt := 5) hx hb dX8_withDecisions_83 (by decide) ?_
        exact ih σ x3 (x5 + 1) hw _ _ hW hS _ (lv_sub hl [1, 2, 0] rfl)
set_option maxHeartbeats 4000000 in
set_option maxRecDepth 100000 in
theorem c_X8_withDecisions (l : Launch) (D : va_G) (cI cZ cG cL : ClassId) (ad : Nat → Nat) {σ : gk_C} {a0 : Int64} {Q : Int64 → gk_C → Prop} {sz : Nat} (hw : w_X8_withDecisions σ a0 Q) : Met l yX8_withDecisions wsX8_withDecisions rmX8_withDecisions (gk_Pc D cI cZ cG cL ad [.ref (ad 0), .long a0] sz σ) (va_Ql (fun r u => Q r u) (gk_B D cI ad) (gk_A ad sz)) 0 0 (gk_A ad sz) := by
  refine Met.ofW (cc := cX8_withDecisions) (maxL := 8) (ret := (some .long)) (by decide) rfl ?_
  intro p e s m args below meth c s₁ B hml0 hv0
  obtain ⟨rfl, hsz, hW, hK⟩ := hv0
  subst hsz
  have C0 : gk_F p s m ([.ref (ad 0), .long a0] : List Value).toArray meth c cX8_withDecisions 8 (some .long) RX8 := ⟨B.exec, B.bytes, hml0, findClass_of_methodNamed B.named, fun w hw => atoms_spec (ws := wsX8_withDecisions) B.pre w (List.mem_cons_of_mem _ hw), B.returns, B.notSynchronized⟩
  obtain ⟨hx, hb, hml, hown, hts, hr, hlocks⟩ := id C0
  have hS : va_S (gk_A ad s.heap.size) s.heap s.heap [] := va_S.rf
  have hl := lv_entry ([.ref (ad 0), .long a0]) (n := 8) (Nat.le_of_ble_eq_true rfl)
  rw [lg_entry_eq]
  generalize (lg_sl ([.ref (ad 0), .long a0]) ++ List.replicate (8 - (lg_sl ([.ref (ad 0), .long a0])).length) Slot.unset).toArray = ls at hl ⊢
  have hl : lv_has ls 8 [(0, .ref (ad 0)), (1, .long a0)] := hl
  show W p l e rmX8_withDecisions s m _ below meth c s.heap [] 0 0 _ _
  refine lv_lload_n hx hb dX8_withDecisions_0 rfl (lv_at hl 1 rfl) ?_
  refine lv_lstore_n (lv' := [(3, .long a0), (0, .ref (ad 0)), (1, .long a0)]) hx hb dX8_withDecisions_1 rfl hl (by decide) rfl (fun ls hl => ?_)
  refine lv_iconst (v := 0) hx hb dX8_withDecisions_2 (by decide) ?_
  refine lv_istore (lv' := [(5, .int 0), (3, .long a0), (0, .ref (ad 0)), (1, .long a0)]) hx hb dX8_withDecisions_3 hl (by decide) rfl (fun ls hl => ?_)
  obtain ⟨n5, hw⟩ := hw
  refine tL_X8_withDecisions_5 C0 hK  n5 σ a0 0 hw _ _ hW hS _ (lv_sub hl [2, 1, 0] rfl)
def wL_X8_withReasons_32 (k74 : gk_C → Int64 → Int32 → Int32 → Prop) : Nat → gk_C → Int64 → Int32 → Int32 → Int32 → Prop
  | 0 => fun _ _ _ _ _ => False
  | n + 1 => fun σ x3 x5 x6 x7 => ((((σ.2 3) ≤ x7) → (k74 σ x3 x5 x6)) ∧ ((¬ (σ.2 3) ≤ x7) → (w_X7_reason 0 σ x5 x6 x7 (fun r62 => wL_X8_withReasons_32 k74 n σ ((x3 * 31) + ((r62).toInt64)) x5 x6 (x7 + 1)))))
def wL_X8_withReasons_23 (k80 : gk_C → Int64 → Int32 → Prop) : Nat → gk_C → Int64 → Int32 → Int32 → Prop
  | 0 => fun _ _ _ _ => False
  | n + 1 => fun σ x3 x5 x6 => (((5 ≤ x6) → (k80 σ x3 x5)) ∧ ((¬ 5 ≤ x6) → (∃ n32, wL_X8_withReasons_32 (fun σ x3 x5 x6 => (wL_X8_withReasons_23 k80 n σ x3 x5 (x6 + 1))) n32 σ x3 x5 x6 0)))
def wL_X8_withReasons_5 (Q : Int64 → gk_C → Prop) : Nat → gk_C → Int64 → Int32 → Prop
  | 0 => fun _ _ _ => False
  | n + 1 => fun σ x3 x5 => ((((σ.2 0) ≤ x5) → (Q x3 σ)) ∧ ((¬ (σ.2 0) ≤ x5) → (∃ n23, wL_X8_withReasons_23 (fun σ x3 x5 => (wL_X8_withReasons_5 Q n σ x3 (x5 + 1))) n23 σ x3 x5 0)))
def w_X8_withReasons (σ : gk_C) (a0 : Int64) (Q : Int64 → gk_C → Prop) : Prop := (∃ n5, wL_X8_withReasons_5 Q n5 σ a0 0)
abbrev rmX8_withReasons : Room := { frames := 5, cells := 0, slots := 0, locals := 115 }
set_option maxHeartbeats 4000000 in
set_option maxRecDepth 100000 in
theorem tL_X8_withReasons_32 {p : Program} {l : Launch} {e : Env} {s : State} {m : MethodId} {args : Array Value} {below : List Frame} {meth : Method} {c : Code} {D : va_G} {cI cZ cG cL : ClassId} {ad : Nat → Nat} (C0 : gk_F p s m args meth c cX8_withReasons 8 (some .long) RX8) (hK : gk_K D cI cZ cG cL s) {Q : Int64 → gk_C → Prop} {k74 : gk_C → Int64 → Int32 → Int32 → Prop} (hk74 : ∀ (σ : gk_C) (x3 : Int64) (x5 : Int32) (x6 : Int32), k74 σ x3 x5 x6 → ∀ (H : Heap) (locs : List Loc), gk_W D cI ad σ H → va_S (gk_A ad s.heap.size) s.heap H locs → ∀ (ls : Array Slot), lv_has ls 8 [(0, .ref (ad 0)), (3, .long x3), (5, .int x5), (6, .int x6)] → W p l e rmX8_withReasons s m args below meth c H locs 0 0 (MQ below (va_Ql (fun r u => Q r u) (gk_B D cI ad) (gk_A ad s.heap.size)) args s 0 0 (gk_A ad s.heap.size)) (F0 m 74 ls [])) : ∀ (n : Nat) (σ : gk_C) (x3 : Int64) (x5 : Int32) (x6 : Int32) (x7 : Int32), wL_X8_withReasons_32 k74 n σ x3 x5 x6 x7 → ∀ (H : Heap) (locs : List Loc), gk_W D cI ad σ H → va_S (gk_A ad s.heap.size) s.heap H locs → ∀ (ls : Array Slot), lv_has ls 8 [(0, .ref (ad 0)), (3, .long x3), (5, .int x5), (6, .int x6), (7, .int x7)] → W p l e rmX8_withReasons s m args below meth c H locs 0 0 (MQ below (va_Ql (fun r u => Q r u) (gk_B D cI ad) (gk_A ad s.heap.size)) args s 0 0 (gk_A ad s.heap.size)) (F0 m 32 ls []) := by
  obtain ⟨hx, hb, hml, hown, hts, hr, hlocks⟩ := id C0
  intro n
  induction n with
  | zero => exact fun _ _ _ _ _ hw => False.elim hw
  | succ n ih =>
    intro σ x3 x5 x6 x7 hw H locs hW hS ls hl
    refine lv_iload hx hb dX8_withReasons_32 (lv_at hl 4 rfl) ?_
    refine lv_aload_n hx hb dX8_withReasons_34 rfl (lv_at hl 0 rfl) ?_
    refine gk_get hx hb hts iwX8 hown hK.1 (gk_o0 hW) rfl 0 (by decide) (hts _ fl_X8_10) (fun _ h9 => h9) rfl dX8_withReasons_35 ?_
    refine gk_getN hx hb hts iwX4 hown hK.1 (gk_o1 hW) rfl 2 (by decide) (gk_nw hK nf_X8_79) (fun _ h9 => h9) rfl dX8_withReasons_38 ?_
    refine gk_getN hx hb hts iwX5 hown hK.1 (gk_o4 hW) rfl 0 (by decide) (gk_nw hK nf_X8_83) (fun _ h9 => h9) rfl dX8_withReasons_41 ?_
    refine lv_icmp_ge (tgt := 74) hx hb dX8_withReasons_44 (by decide) (fun c44 => ?_) (fun c44 => ?_)
    · have hw := hw.1 c44
      exact hk74 σ x3 x5 x6 hw _ _ hW hS _ (lv_sub hl [0, 1, 2, 3] rfl)
    · have hw := hw.2 c44
      refine lv_lload_n hx hb dX8_withReasons_47 rfl (lv_at hl 1 rfl) ?_
      refine lv_ldc2 (v := 31) hx hb hown (hts _ k_X8_276) dX8_withReasons_48 ?_
      refine lv_lmul hx hb dX8_withReasons_51 ?_
      refine lv_aload_n hx hb dX8_withReasons_52 rfl (lv_at hl 0 rfl) ?_
      refine gk_get hx hb hts iwX8 hown hK.1 (gk_o0 hW) rfl 1 (by decide) (hts _ fl_X8_21) (fun _ h9 => h9) rfl dX8_withReasons_53 ?_
      refine lv_iload hx hb dX8_withReasons_56 (lv_at hl 2 rfl) ?_
      refine lv_iload hx hb dX8_withReasons_58 (lv_at hl 3 rfl) ?_
      refine lv_iload hx hb dX8_withReasons_60 (lv_at hl 4 rfl) ?_
      refine gk_callRi ⟨hx, hb, hml, hown, hts⟩ (c_X7_reason l D cI cZ cG cL ad (by decide) hw) (cwV 3 hts (gk_gV ml_X8_229 im_X7_reason se_X7_reason in_X7 co_X7_reason) rfl rfl rfl (by decide +kernel) ⟨Nat.le_of_ble_eq_true rfl, Nat.le_of_ble_eq_true rfl⟩) (gk_recv hK.1 (gk_ov hW (v := 0) (by decide)) rfl) hW hK hS rfl hl.1 (rest := [.long (x3 * 31)]) rfl (lv_room (Nat.le_of_ble_eq_true rfl)) dX8_withReasons_62 ⟨Nat.zero_le _, Nat.zero_le _⟩ (fun r62 H locs hw hW _ hS => ?_)
      refine lv_i2l (v := (r62).toInt64) hx hb dX8_withReasons_65 rfl ?_
      refine lv_ladd hx hb dX8_withReasons_66 ?_
      refine lv_lstore_n (lv' := [(3, .long ((x3 * 31) + ((r62).toInt64))), (0, .ref (ad 0)), (5, .int x5), (6, .int x6), (7, .int x7)]) hx hb dX8_withReasons_67 rfl hl (by decide) rfl (fun ls hl => ?_)
      refine lv_iinc (v := (x7 + 1)) (lv' := [(7, .int (x7 + 1)), (3, .long ((x3 * 31) + ((r62).toInt64))), (0, .ref (ad 0)), (5, .int x5), (6, .int x6)]) hx hb dX8_withReasons_68 hl (k := 4) rfl rfl (by decide) rfl (fun ls hl => ?_)
      refine lv_goto (tgt := 32) hx hb dX8_withReasons_71 (by decide) ?_
      exact ih σ ((x3 * 31) + ((r62).toInt64)) x5 x6 (x7 + 1) hw _ _ hW hS _ (lv_sub hl [2, 1, 3, 4, 0] rfl)
set_option maxHeartbeats 4000000 in
set_option maxRecDepth 100000 in
theorem tL_X8_withReasons_23 {p : Program} {l : Launch} {e : Env} {s : State} {m : MethodId} {args : Array Value} {below : List Frame} {meth : Method} {c : Code} {D : va_G} {cI cZ cG cL : ClassId} {ad : Nat → Nat} (C0 : gk_F p s m args meth c cX8_withReasons 8 (some .long) RX8) (hK : gk_K D cI cZ cG cL s) {Q : Int64 → gk_C → Prop} {k80 : gk_C → Int64 → Int32 → Prop} (hk80 : ∀ (σ : gk_C) (x3 : Int64) (x5 : Int32), k80 σ x3 x5 → ∀ (H : Heap) (locs : List Loc), gk_W D cI ad σ H → va_S (gk_A ad s.heap.size) s.heap H locs → ∀ (ls : Array Slot), lv_has ls 8 [(0, .ref (ad 0)), (3, .long x3), (5, .int x5)] → W p l e rmX8_withReasons s m args below meth c H locs 0 0 (MQ below (va_Ql (fun r u => Q r u) (gk_B D cI ad) (gk_A ad s.heap.size)) args s 0 0 (gk_A ad s.heap.size)) (F0 m 80 ls [])) : ∀ (n : Nat) (σ : gk_C) (x3 : Int64) (x5 : Int32) (x6 : Int32), wL_X8_withReasons_23 k80 n σ x3 x5 x6 → ∀ (H : Heap) (locs : List Loc), gk_W D cI ad σ H → va_S (gk_A ad s.heap.size) s.heap H locs → ∀ (ls : Array Slot), lv_has ls 8 [(0, .ref (ad 0)), (3, .long x3), (5, .int x5), (6, .int x6)] → W p l e rmX8_withReasons s m args below meth c H locs 0 0 (MQ below (va_Ql (fun r u => Q r u) (gk_B D cI ad) (gk_A ad s.heap.size)) args s 0 0 (gk_A ad s.heap.size)) (F0 m 23 ls []) := by
  obtain ⟨hx, hb, hml, hown, hts, hr, hlocks⟩ := id C0
  intro n
  induction n with
  | zero => exact fun _ _ _ _ hw => False.elim hw
  | succ n ih =>
    intro σ x3 x5 x6 hw H locs hW hS ls hl
    refine lv_iload hx hb dX8_withReasons_23 (lv_at hl 3 rfl) ?_
    refine lv_iconst (v := 5) hx hb dX8_withReasons_25 (by decide) ?_
    refine lv_icmp_ge (tgt := 80) hx hb dX8_withReasons_26 (by decide) (fun c26 => ?_) (fun c26 => ?_)
    · have hw := hw.1 c26
      exact hk80 σ x3 x5 hw _ _ hW hS _ (lv_sub hl [0, 1, 2] rfl)
    · have hw := hw.2 c26
      refine lv_iconst (v := 0) hx hb dX8_withReasons_29 (by decide) ?_
      refine lv_istore (lv' := [(7, .int 0), (0, .ref (ad 0)), (3, .long x3), (5, .int x5), (6, .int x6)]) hx hb dX8_withReasons_30 hl (by decide) rfl (fun ls hl => ?_)
      obtain ⟨n32, hw⟩ := hw
      refine tL_X8_withReasons_32 C0 hK (hk74 := ?_) n32 σ x3 x5 x6 0 hw _ _ hW hS _ (lv_sub hl [1, 2, 3, 4, 0] rfl)
      · intro σ x3 x5 x6 hw H locs hW hS ls hl
        refine lv_iinc (v := (x6 + 1)) (lv' := [(6, .int (x6 + 1)), (0, .ref (ad 0)), (3, .long x3), (5, .int x5)]) hx hb dX8_withReasons_74 hl (k := 3) rfl rfl (by decide) rfl (fun ls hl => ?_)
        refine lv_goto (tgt := 23) hx hb dX8_withReasons_77 (by decide) ?_
        exact ih σ x3 x5 (x6 + 1) hw _ _ hW hS _ (lv_sub hl [1, 2, 3, 0] rfl)
set_option maxHeartbeats 4000000 in
set_option maxRecDepth 100000 in
theorem tL_X8_withReasons_5 {p : Program} {l : Launch} {e : Env} {s : State} {m : MethodId} {args : Array Value} {below : List Frame} {meth : Method} {c : Code} {D : va_G} {cI cZ cG cL : ClassId} {ad : Nat → Nat} (C0 : gk_F p s m args meth c cX8_withReasons 8 (some .long) RX8) (hK : gk_K D cI cZ cG cL s) {Q : Int64 → gk_C → Prop} : ∀ (n : Nat) (σ : gk_C) (x3 : Int64) (x5 : Int32), wL_X8_withReasons_5 Q n σ x3 x5 → ∀ (H : Heap) (locs : List Loc), gk_W D cI ad σ H → va_S (gk_A ad s.heap.size) s.heap H locs → ∀ (ls : Array Slot), lv_has ls 8 [(0, .ref (ad 0)), (3, .long x3), (5, .int x5)] → W p l e rmX8_withReasons s m args below meth c H locs 0 0 (MQ below (va_Ql (fun r u => Q r u) (gk_B D cI ad) (gk_A ad s.heap.size)) args s 0 0 (gk_A ad s.heap.size)) (F0 m 5 ls []) := by
  obtain ⟨hx, hb, hml, hown, hts, hr, hlocks⟩ := id C0
  intro n
  induction n with
  | zero => exact fun _ _ _ hw => False.elim hw
  | succ n ih =>
    intro σ x3 x5 hw H locs hW hS ls hl
    refine lv_iload hx hb dX8_withReasons_5 (lv_at hl 2 rfl) ?_
    refine lv_aload_n hx hb dX8_withReasons_7 rfl (lv_at hl 0 rfl) ?_
    refine gk_get hx hb hts iwX8 hown hK.1 (gk_o0 hW) rfl 0 (by decide) (hts _ fl_X8_10) (fun _ h9 => h9) rfl dX8_withReasons_8 ?_
    refine gk_getN hx hb hts iwX4 hown hK.1 (gk_o1 hW) rfl 0 (by decide) (gk_nw hK nf_X8_45) (fun _ h9 => h9) rfl dX8_withReasons_11 ?_
    refine gk_getN hx hb hts iwX6 hown hK.1 (gk_o2 hW) rfl 0 (by decide) (gk_nw hK nf_X8_49) (fun _ h9 => h9) rfl dX8_withReasons_14 ?_
    refine lv_icmp_ge (tgt := 86) hx hb dX8_withReasons_17 (by decide) (fun c17 => ?_) (fun c17 => ?_)
    · have hw := hw.1 c17
      refine lv_lload_n hx hb dX8_withReasons_86 rfl (lv_at hl 1 rfl) ?_
      exact gk_retl C0 hw hW hS dX8_withReasons_87
    · have hw := hw.2 c17
      refine lv_iconst (v := 0) hx hb dX8_withReasons_20 (by decide) ?_
      refine lv_istore (lv' := [(6, .int 0), (0, .ref (ad 0)), (3, .long x3), (5, .int x5)]) hx hb dX8_withReasons_21 hl (by decide) rfl (fun ls hl => ?_)
      obtain ⟨n23, hw⟩ := hw
      refine tL_X8_withReasons_23 C0 hK (hk80 := ?_) n23 σ x3 x5 0 hw _ _ hW hS _ (lv_sub hl [1, 2, 3, 0] rfl)
      · intro σ x3 x5 hw H locs hW hS ls hl
        refine lv_iinc (v := (x5 + 1)) (lv' := [(5, .int (x5 + 1)), (0, .ref (ad 0)), (3, .long x3)]) hx hb dX8_withReasons_80 hl (k := 2) rfl rfl (by decide) rfl (fun ls hl => ?_)
        refine lv_goto (tgt := 5) hx hb dX8_withReasons_83 (by decide) ?_
        exact ih σ x3 (x5 + 1) hw _ _ hW hS _ (lv_sub hl [1, 2, 0] rfl)
set_option maxHeartbeats 4000000 in
set_option maxRecDepth 100000 in
theorem c_X8_withReasons (l : Launch) (D : va_G) (cI cZ cG cL : ClassId) (ad : Nat → Nat) {σ : gk_C} {a0 : Int64} {Q : Int64 → gk_C → Prop} {sz : Nat} (hw : w_X8_withReasons σ a0 Q) : Met l yX8_withReasons wsX8_withReasons rmX8_withReasons (gk_Pc D cI cZ cG cL ad [.ref (ad 0), .long a0] sz σ) (va_Ql (fun r u => Q r u) (gk_B D cI ad) (gk_A ad sz)) 0 0 (gk_A ad sz) := by
  refine Met.ofW (cc := cX8_withReasons) (maxL := 8) (ret := (some .long)) (by decide) rfl ?_
  intro p e s m args below meth c s₁ B hml0 hv0
  obtain ⟨rfl, hsz, hW, hK⟩ := hv0
  subst hsz
  have C0 : gk_F p s m ([.ref (ad 0), .long a0] : List Value).toArray meth c cX8_withReasons 8 (some .long) RX8 := ⟨B.exec, B.bytes, hml0, findClass_of_methodNamed B.named, fun w hw => atoms_spec (ws := wsX8_withReasons) B.pre w (List.mem_cons_of_mem _ hw), B.returns, B.notSynchronized⟩
  obtain ⟨hx, hb, hml, hown, hts, hr, hlocks⟩ := id C0
  have hS : va_S (gk_A ad s.heap.size) s.heap s.heap [] := va_S.rf
  have hl := lv_entry ([.ref (ad 0), .long a0]) (n := 8) (Nat.le_of_ble_eq_true rfl)
  rw [lg_entry_eq]
  generalize (lg_sl ([.ref (ad 0), .long a0]) ++ List.replicate (8 - (lg_sl ([.ref (ad 0), .long a0])).length) Slot.unset).toArray = ls at hl ⊢
  have hl : lv_has ls 8 [(0, .ref (ad 0)), (1, .long a0)] := hl
  show W p l e rmX8_withReasons s m _ below meth c s.heap [] 0 0 _ _
  refine lv_lload_n hx hb dX8_withReasons_0 rfl (lv_at hl 1 rfl) ?_
  refine lv_lstore_n (lv' := [(3, .long a0), (0, .ref (ad 0)), (1, .long a0)]) hx hb dX8_withReasons_1 rfl hl (by decide) rfl (fun ls hl => ?_)
  refine lv_iconst (v := 0) hx hb dX8_withReasons_2 (by decide) ?_
  refine lv_istore (lv' := [(5, .int 0), (3, .long a0), (0, .ref (ad 0)), (1, .long a0)]) hx hb dX8_withReasons_3 hl (by decide) rfl (fun ls hl => ?_)
  obtain ⟨n5, hw⟩ := hw
  refine tL_X8_withReasons_5 C0 hK  n5 σ a0 0 hw _ _ hW hS _ (lv_sub hl [2, 1, 0] rfl)
def wL_X8_digest_31 (k71 : gk_C → Int64 → Prop) : Nat → gk_C → Int64 → Int32 → Prop
  | 0 => fun _ _ _ => False
  | n + 1 => fun σ x1 x3 => ((((σ.2 3) ≤ x3) → (k71 σ x1)) ∧ ((¬ (σ.2 3) ≤ x3) → (w_X5_farUp σ x3 0 (fun r59 => wL_X8_digest_31 k71 n σ ((x1 * 31) + ((r59).toInt64)) (x3 + 1)))))
def wJ_X8_digest_111 (k73 : gk_C → Int64 → Int32 → Prop) (σ : gk_C) (x3 : Int32) (t0 : Int64) (t1 : Int32) : Prop := (k73 σ (t0 + ((t1).toInt64)) (x3 + 1))
def wL_X8_digest_73 (k120 : gk_C → Int64 → Prop) : Nat → gk_C → Int64 → Int32 → Prop
  | 0 => fun _ _ _ => False
  | n + 1 => fun σ x1 x3 => ((((σ.2 5) ≤ x3) → (k120 σ x1)) ∧ ((¬ (σ.2 5) ≤ x3) → (w_X8_isIn (σ.2 (11 + 4 * 0)) x3 (fun r100 => ((r100 = 0) → (wJ_X8_digest_111 (fun σ x1 x3 => wL_X8_digest_73 k120 n σ x1 x3) σ x3 (x1 * 31) 0)) ∧ ((¬ r100 = 0) → (wJ_X8_digest_111 (fun σ x1 x3 => wL_X8_digest_73 k120 n σ x1 x3) σ x3 (x1 * 31) 1))))))
def wL_X8_digest_134 (k162 : gk_C → Int64 → Prop) : Nat → gk_C → Int64 → Int32 → Prop
  | 0 => fun _ _ _ => False
  | n + 1 => fun σ x1 x3 => (((6 ≤ x3) → (k162 σ x1)) ∧ ((¬ 6 ≤ x3) → (wL_X8_digest_134 k162 n σ ((x1 * 31) + (((gk_at σ 38 x3)).toInt64)) (x3 + 1))))
def w_X8_digest (σ : gk_C)  (Q : Int64 → gk_C → Prop) : Prop := (w_X7_look 0 σ (σ.2 6) 0 (fun σ12 => w_X8_withNumbers σ12 2579 (fun r19 => w_X8_withNear σ12 r19 (fun r25 => ∃ n31, wL_X8_digest_31 (fun σ x1 => (∃ n73, wL_X8_digest_73 (fun σ x1 => (w_X8_withDecisions σ x1 (fun r122 σ122 => w_X8_withReasons σ122 r122 (fun r128 σ128 => ∃ n134, wL_X8_digest_134 (fun σ x1 => (w_X8_withDone σ x1 (fun r164 => w_X7_opposedPairs 0 σ (fun r177 σ177 => Q ((r164 * 31) + ((r177).toInt64)) σ177)))) n134 σ128 r128 0)))) n73 σ x1 0)) n31 σ12 r25 0))))
abbrev rmX8_digest : Room := { frames := 6, cells := 0, slots := 0, locals := 142 }
set_option maxHeartbeats 4000000 in
set_option maxRecDepth 100000 in
theorem tL_X8_digest_31 {p : Program} {l : Launch} {e : Env} {s : State} {m : MethodId} {args : Array Value} {below : List Frame} {meth : Method} {c : Code} {D : va_G} {cI cZ cG cL : ClassId} {ad : Nat → Nat} (C0 : gk_F p s m args meth c cX8_digest 4 (some .long) RX8) (hK : gk_K D cI cZ cG cL s) {Q : Int64 → gk_C → Prop} {k71 : gk_C → Int64 → Prop} (hk71 : ∀ (σ : gk_C) (x1 : Int64), k71 σ x1 → ∀ (H : Heap) (locs : List Loc), gk_W D cI ad σ H → va_S (gk_A ad s.heap.size) s.heap H locs → ∀ (ls : Array Slot), lv_has ls 4 [(0, .ref (ad 0)), (1, .long x1)] → W p l e rmX8_digest s m args below meth c H locs 0 0 (MQ below (va_Ql (fun r u => Q r u) (gk_B D cI ad) (gk_A ad s.heap.size)) args s 0 0 (gk_A ad s.heap.size)) (F0 m 71 ls [])) : ∀ (n : Nat) (σ : gk_C) (x1 : Int64) (x3 : Int32), wL_X8_digest_31 k71 n σ x1 x3 → ∀ (H : Heap) (locs : List Loc), gk_W D cI ad σ H → va_S (gk_A ad s.heap.size) s.heap H locs → ∀ (ls : Array Slot), lv_has ls 4 [(0, .ref (ad 0)), (1, .long x1), (3, .int x3)] → W p l e rmX8_digest s m args below meth c H locs 0 0 (MQ below (va_Ql (fun r u => Q r u) (gk_B D cI ad) (gk_A ad s.heap.size)) args s 0 0 (gk_A ad s.heap.size)) (F0 m 31 ls []) := by
  obtain ⟨hx, hb, hml, hown, hts, hr, hlocks⟩ := id C0
  intro n
  induction n with
  | zero => exact fun _ _ _ hw => False.elim hw
  | succ n ih =>
    intro σ x1 x3 hw H locs hW hS ls hl
    refine lv_iload_n hx hb dX8_digest_31 rfl (lv_at hl 2 rfl) ?_
    refine lv_aload_n hx hb dX8_digest_32 rfl (lv_at hl 0 rfl) ?_
    refine gk_get hx hb hts iwX8 hown hK.1 (gk_o0 hW) rfl 0 (by decide) (hts _ fl_X8_10) (fun _ h9 => h9) rfl dX8_digest_33 ?_
    refine gk_getN hx hb hts iwX4 hown hK.1 (gk_o1 hW) rfl 2 (by decide) (gk_nw hK nf_X8_79) (fun _ h9 => h9) rfl dX8_digest_36 ?_
    refine gk_getN hx hb hts iwX5 hown hK.1 (gk_o4 hW) rfl 0 (by decide) (gk_nw hK nf_X8_83) (fun _ h9 => h9) rfl dX8_digest_39 ?_
    refine lv_icmp_ge (tgt := 71) hx hb dX8_digest_42 (by decide) (fun c42 => ?_) (fun c42 => ?_)
    · have hw := hw.1 c42
      exact hk71 σ x1 hw _ _ hW hS _ (lv_sub hl [0, 1] rfl)
    · have hw := hw.2 c42
      refine lv_lload_n hx hb dX8_digest_45 rfl (lv_at hl 1 rfl) ?_
      refine lv_ldc2 (v := 31) hx hb hown (hts _ k_X8_276) dX8_digest_46 ?_
      refine lv_lmul hx hb dX8_digest_49 ?_
      refine lv_aload_n hx hb dX8_digest_50 rfl (lv_at hl 0 rfl) ?_
      refine gk_get hx hb hts iwX8 hown hK.1 (gk_o0 hW) rfl 0 (by decide) (hts _ fl_X8_10) (fun _ h9 => h9) rfl dX8_digest_51 ?_
      refine gk_getN hx hb hts iwX4 hown hK.1 (gk_o1 hW) rfl 2 (by decide) (gk_nw hK nf_X8_79) (fun _ h9 => h9) rfl dX8_digest_54 ?_
      refine lv_iload_n hx hb dX8_digest_57 rfl (lv_at hl 2 rfl) ?_
      refine lv_iconst (v := 0) hx hb dX8_digest_58 (by decide) ?_
      refine gk_callRi ⟨hx, hb, hml, hown, hts⟩ (c_X5_farUp l D cI cZ cG cL ad hw) (cwV 2 hts (gk_gV ml_X8_149 im_X5_farUp se_X5_farUp in_X5 co_X5_farUp) rfl rfl rfl (by decide +kernel) ⟨Nat.le_of_ble_eq_true rfl, Nat.le_of_ble_eq_true rfl⟩) (gk_recv hK.1 (gk_o4 hW) rfl) hW hK hS rfl hl.1 (rest := [.long (x1 * 31)]) rfl (lv_room (Nat.le_of_ble_eq_true rfl)) dX8_digest_59 ⟨Nat.zero_le _, Nat.zero_le _⟩ (fun r59 H locs hw hW _ hS => ?_)
      refine lv_i2l (v := (r59).toInt64) hx hb dX8_digest_62 rfl ?_
      refine lv_ladd hx hb dX8_digest_63 ?_
      refine lv_lstore_n (lv' := [(1, .long ((x1 * 31) + ((r59).toInt64))), (0, .ref (ad 0)), (3, .int x3)]) hx hb dX8_digest_64 rfl hl (by decide) rfl (fun ls hl => ?_)
      refine lv_iinc (v := (x3 + 1)) (lv' := [(3, .int (x3 + 1)), (1, .long ((x1 * 31) + ((r59).toInt64))), (0, .ref (ad 0))]) hx hb dX8_digest_65 hl (k := 2) rfl rfl (by decide) rfl (fun ls hl => ?_)
      refine lv_goto (tgt := 31) hx hb dX8_digest_68 (by decide) ?_
      exact ih σ ((x1 * 31) + ((r59).toInt64)) (x3 + 1) hw _ _ hW hS _ (lv_sub hl [2, 1, 0] rfl)
set_option maxHeartbeats 4000000 in
set_option maxRecDepth 100000 in
theorem tJ_X8_digest_111 {p : Program} {l : Launch} {e : Env} {s : State} {m : MethodId} {args : Array Value} {below : List Frame} {meth : Method} {c : Code} {D : va_G} {cI cZ cG cL : ClassId} {ad : Nat → Nat} (C0 : gk_F p s m args meth c cX8_digest 4 (some .long) RX8) (hK : gk_K D cI cZ cG cL s) {Q : Int64 → gk_C → Prop} {k73 : gk_C → Int64 → Int32 → Prop} (hk73 : ∀ (σ : gk_C) (x1 : Int64) (x3 : Int32), k73 σ x1 x3 → ∀ (H : Heap) (locs : List Loc), gk_W D cI ad σ H → va_S (gk_A ad s.heap.size) s.heap H locs → ∀ (ls : Array Slot), lv_has ls 4 [(0, .ref (ad 0)), (1, .long x1), (3, .int x3)] → W p l e rmX8_digest s m args below meth c H locs 0 0 (MQ below (va_Ql (fun r u => Q r u) (gk_B D cI ad) (gk_A ad s.heap.size)) args s 0 0 (gk_A ad s.heap.size)) (F0 m 73 ls [])) : ∀ (σ : gk_C) (x3 : Int32) (t0 : Int64) (t1 : Int32), wJ_X8_digest_111 k73 σ x3 t0 t1 → ∀ (H : Heap) (locs : List Loc), gk_W D cI ad σ H → va_S (gk_A ad s.heap.size) s.heap H locs → ∀ (ls : Array Slot), lv_has ls 4 [(0, .ref (ad 0)), (3, .int x3)] → W p l e rmX8_digest s m args below meth c H locs 0 0 (MQ below (va_Ql (fun r u => Q r u) (gk_B D cI ad) (gk_A ad s.heap.size)) args s 0 0 (gk_A ad s.heap.size)) (F0 m 111 ls [.int t1, .long t0]) := by
  obtain ⟨hx, hb, hml, hown, hts, hr, hlocks⟩ := id C0
  intro σ x3 t0 t1 hw H locs hW hS ls hl
  refine lv_i2l (v := (t1).toInt64) hx hb dX8_digest_111 rfl ?_
  refine lv_ladd hx hb dX8_digest_112 ?_
  refine lv_lstore_n (lv' := [(1, .long (t0 + ((t1).toInt64))), (0, .ref (ad 0)), (3, .int x3)]) hx hb dX8_digest_113 rfl hl (by decide) rfl (fun ls hl => ?_)
  refine lv_iinc (v := (x3 + 1)) (lv' := [(3, .int (x3 + 1)), (1, .long (t0 + ((t1).toInt64))), (0, .ref (ad 0))]) hx hb dX8_digest_114 hl (k := 2) rfl rfl (by decide) rfl (fun ls hl => ?_)
  refine lv_goto (tgt := 73) hx hb dX8_digest_117 (by decide) ?_
  exact hk73 σ (t0 + ((t1).toInt64)) (x3 + 1) hw _ _ hW hS _ (lv_sub hl [2, 1, 0] rfl)
set_option maxHeartbeats 4000000 in
set_option maxRecDepth 100000 in
theorem tL_X8_digest_73 {p : Program} {l : Launch} {e : Env} {s : State} {m : MethodId} {args : Array Value} {below : List Frame} {meth : Method} {c : Code} {D : va_G} {cI cZ cG cL : ClassId} {ad : Nat → Nat} (C0 : gk_F p s m args meth c cX8_digest 4 (some .long) RX8) (hK : gk_K D cI cZ cG cL s) {Q : Int64 → gk_C → Prop} {k120 : gk_C → Int64 → Prop} (hk120 : ∀ (σ : gk_C) (x1 : Int64), k120 σ x1 → ∀ (H : Heap) (locs : List Loc), gk_W D cI ad σ H → va_S (gk_A ad s.heap.size) s.heap H locs → ∀ (ls : Array Slot), lv_has ls 4 [(0, .ref (ad 0)), (1, .long x1)] → W p l e rmX8_digest s m args below meth c H locs 0 0 (MQ below (va_Ql (fun r u => Q r u) (gk_B D cI ad) (gk_A ad s.heap.size)) args s 0 0 (gk_A ad s.heap.size)) (F0 m 120 ls [])) : ∀ (n : Nat) (σ : gk_C) (x1 : Int64) (x3 : Int32), wL_X8_digest_73 k120 n σ x1 x3 → ∀ (H : Heap) (locs : List Loc), gk_W D cI ad σ H → va_S (gk_A ad s.heap.size) s.heap H locs → ∀ (ls : Array Slot), lv_has ls 4 [(0, .ref (ad 0)), (1, .long x1), (3, .int x3)] → W p l e rmX8_digest s m args below meth c H locs 0 0 (MQ below (va_Ql (fun r u => Q r u) (gk_B D cI ad) (gk_A ad s.heap.size)) args s 0 0 (gk_A ad s.heap.size)) (F0 m 73 ls []) := by
  obtain ⟨hx, hb, hml, hown, hts, hr, hlocks⟩ := id C0
  intro n
  induction n with
  | zero => exact fun _ _ _ hw => False.elim hw
  | succ n ih =>
    intro σ x1 x3 hw H locs hW hS ls hl
    refine lv_iload_n hx hb dX8_digest_73 rfl (lv_at hl 2 rfl) ?_
    refine lv_aload_n hx hb dX8_digest_74 rfl (lv_at hl 0 rfl) ?_
    refine gk_get hx hb hts iwX8 hown hK.1 (gk_o0 hW) rfl 0 (by decide) (hts _ fl_X8_10) (fun _ h9 => h9) rfl dX8_digest_75 ?_
    refine gk_getN hx hb hts iwX4 hown hK.1 (gk_o1 hW) rfl 4 (by decide) (gk_nw hK nf_X8_204) (fun _ h9 => h9) rfl dX8_digest_78 ?_
    refine gk_getN hx hb hts iwX0 hown hK.1 (gk_o6 hW) rfl 0 (by decide) (gk_nw hK nf_X8_208) (fun _ h9 => h9) rfl dX8_digest_81 ?_
    refine lv_icmp_ge (tgt := 120) hx hb dX8_digest_84 (by decide) (fun c84 => ?_) (fun c84 => ?_)
    · have hw := hw.1 c84
      exact hk120 σ x1 hw _ _ hW hS _ (lv_sub hl [0, 1] rfl)
    · have hw := hw.2 c84
      refine lv_lload_n hx hb dX8_digest_87 rfl (lv_at hl 1 rfl) ?_
      refine lv_ldc2 (v := 31) hx hb hown (hts _ k_X8_276) dX8_digest_88 ?_
      refine lv_lmul hx hb dX8_digest_91 ?_
      refine lv_aload_n hx hb dX8_digest_92 rfl (lv_at hl 0 rfl) ?_
      refine gk_get hx hb hts iwX8 hown hK.1 (gk_o0 hW) rfl 1 (by decide) (hts _ fl_X8_21) (fun _ h9 => h9) rfl dX8_digest_93 ?_
      refine gk_getN hx hb hts iwX7 hown hK.1 (gk_ov hW (v := 0) (by decide)) rfl 10 (by decide) (gk_nw hK nf_X8_223) (fun _ h9 => h9) rfl dX8_digest_96 ?_
      refine lv_iload_n hx hb dX8_digest_99 rfl (lv_at hl 2 rfl) ?_
      refine gk_callSi ⟨hx, hb, hml, hown, hts⟩ (c_X8_isIn l hw) (va_cwS 2 hts (gk_gS ml_X8_110 st_X8_isIn in_X8 co_X8_isIn) rfl rfl rfl (by decide +kernel) ⟨Nat.le_of_ble_eq_true rfl, Nat.le_of_ble_eq_true rfl⟩) hS rfl hl.1 (rest := [.long (x1 * 31)]) rfl (lv_room (Nat.le_of_ble_eq_true rfl)) dX8_digest_100 ⟨Nat.zero_le _, Nat.zero_le _⟩ (fun r100 H locs hw _ hk hS => ?_)
      have hW := hW.kept (fun k hk9 => hk _ (hW.lt hk9))
      refine lv_if_eq (tgt := 110) hx hb dX8_digest_103 (by decide) (fun c103 => ?_) (fun c103 => ?_)
      · have hw := hw.1 c103
        refine lv_iconst (v := 0) hx hb dX8_digest_110 (by decide) ?_
        refine tJ_X8_digest_111 C0 hK (hk73 := ih) σ x3 (x1 * 31) 0 hw _ _ hW hS _ (lv_sub hl [0, 2] rfl)
      · have hw := hw.2 c103
        refine lv_iconst (v := 1) hx hb dX8_digest_106 (by decide) ?_
        refine lv_goto (tgt := 111) hx hb dX8_digest_107 (by decide) ?_
        refine tJ_X8_digest_111 C0 hK (hk73 := ih) σ x3 (x1 * 31) 1 hw _ _ hW hS _ (lv_sub hl [0, 2] rfl)
set_option maxHeartbeats 4000000 in
set_option maxRecDepth 100000 in
theorem tL_X8_digest_134 {p : Program} {l : Launch} {e : Env} {s : State} {m : MethodId} {args : Array Value} {below : List Frame} {meth : Method} {c : Code} {D : va_G} {cI cZ cG cL : ClassId} {ad : Nat → Nat} (C0 : gk_F p s m args meth c cX8_digest 4 (some .long) RX8) (hK : gk_K D cI cZ cG cL s) {Q : Int64 → gk_C → Prop} {k162 : gk_C → Int64 → Prop} (hk162 : ∀ (σ : gk_C) (x1 : Int64), k162 σ x1 → ∀ (H : Heap) (locs : List Loc), gk_W D cI ad σ H → va_S (gk_A ad s.heap.size) s.heap H locs → ∀ (ls : Array Slot), lv_has ls 4 [(0, .ref (ad 0)), (1, .long x1)] → W p l e rmX8_digest s m args below meth c H locs 0 0 (MQ below (va_Ql (fun r u => Q r u) (gk_B D cI ad) (gk_A ad s.heap.size)) args s 0 0 (gk_A ad s.heap.size)) (F0 m 162 ls [])) : ∀ (n : Nat) (σ : gk_C) (x1 : Int64) (x3 : Int32), wL_X8_digest_134 k162 n σ x1 x3 → ∀ (H : Heap) (locs : List Loc), gk_W D cI ad σ H → va_S (gk_A ad s.heap.size) s.heap H locs → ∀ (ls : Array Slot), lv_has ls 4 [(0, .ref (ad 0)), (1, .long x1), (3, .int x3)] → W p l e rmX8_digest s m args below meth c H locs 0 0 (MQ below (va_Ql (fun r u => Q r u) (gk_B D cI ad) (gk_A ad s.heap.size)) args s 0 0 (gk_A ad s.heap.size)) (F0 m 134 ls []) := by
  obtain ⟨hx, hb, hml, hown, hts, hr, hlocks⟩ := id C0
  intro n
  induction n with
  | zero => exact fun _ _ _ hw => False.elim hw
  | succ n ih =>
    intro σ x1 x3 hw H locs hW hS ls hl
    refine lv_iload_n hx hb dX8_digest_134 rfl (lv_at hl 2 rfl) ?_
    refine lv_bipush (v := 6) hx hb dX8_digest_135 (by decide) ?_
    refine lv_icmp_ge (tgt := 162) hx hb dX8_digest_137 (by decide) (fun c137 => ?_) (fun c137 => ?_)
    · have hw := hw.1 c137
      exact hk162 σ x1 hw _ _ hW hS _ (lv_sub hl [0, 1] rfl)
    · have hw := hw.2 c137
      refine lv_lload_n hx hb dX8_digest_140 rfl (lv_at hl 1 rfl) ?_
      refine lv_ldc2 (v := 31) hx hb hown (hts _ k_X8_276) dX8_digest_141 ?_
      refine lv_lmul hx hb dX8_digest_144 ?_
      refine lv_aload_n hx hb dX8_digest_145 rfl (lv_at hl 0 rfl) ?_
      refine gk_get hx hb hts iwX8 hown hK.1 (gk_o0 hW) rfl 3 (by decide) (hts _ fl_X8_33) (fun _ h9 => h9) rfl dX8_digest_146 ?_
      refine lv_iload_n hx hb dX8_digest_149 rfl (lv_at hl 2 rfl) ?_
      refine gk_callRi ⟨hx, hb, hml, hown, hts⟩ (c_X2_at l D cI cZ cG cL ad (σ := σ) (r := 38) (i := x3) (by decide)) (cwV 1 hts (gk_gV ml_X8_98 im_X2_at se_X2_at in_X2 co_X2_at) rfl rfl rfl (by decide +kernel) ⟨Nat.le_of_ble_eq_true rfl, Nat.le_of_ble_eq_true rfl⟩) (gk_recv hK.1 (gk_or hW (r := 38) (by decide)) rfl) hW hK hS rfl hl.1 (rest := [.long (x1 * 31)]) rfl (lv_room (Nat.le_of_ble_eq_true rfl)) dX8_digest_150 ⟨Nat.zero_le _, Nat.zero_le _⟩ (fun r150 H locs hq hW _ hS => ?_)
      obtain rfl := hq
      refine lv_i2l (v := ((gk_at σ 38 x3)).toInt64) hx hb dX8_digest_153 rfl ?_
      refine lv_ladd hx hb dX8_digest_154 ?_
      refine lv_lstore_n (lv' := [(1, .long ((x1 * 31) + (((gk_at σ 38 x3)).toInt64))), (0, .ref (ad 0)), (3, .int x3)]) hx hb dX8_digest_155 rfl hl (by decide) rfl (fun ls hl => ?_)
      refine lv_iinc (v := (x3 + 1)) (lv' := [(3, .int (x3 + 1)), (1, .long ((x1 * 31) + (((gk_at σ 38 x3)).toInt64))), (0, .ref (ad 0))]) hx hb dX8_digest_156 hl (k := 2) rfl rfl (by decide) rfl (fun ls hl => ?_)
      refine lv_goto (tgt := 134) hx hb dX8_digest_159 (by decide) ?_
      exact ih σ ((x1 * 31) + (((gk_at σ 38 x3)).toInt64)) (x3 + 1) hw _ _ hW hS _ (lv_sub hl [2, 1, 0] rfl)
set_option maxHeartbeats 4000000 in
set_option maxRecDepth 100000 in
theorem c_X8_digest (l : Launch) (D : va_G) (cI cZ cG cL : ClassId) (ad : Nat → Nat) {σ : gk_C} {Q : Int64 → gk_C → Prop} {sz : Nat} (hw : w_X8_digest σ  Q) : Met l yX8_digest wsX8_digest rmX8_digest (gk_Pc D cI cZ cG cL ad [.ref (ad 0)] sz σ) (va_Ql (fun r u => Q r u) (gk_B D cI ad) (gk_A ad sz)) 0 0 (gk_A ad sz) := by
  refine Met.ofW (cc := cX8_digest) (maxL := 4) (ret := (some .long)) (by decide) rfl ?_
  intro p e s m args below meth c s₁ B hml0 hv0
  obtain ⟨rfl, hsz, hW, hK⟩ := hv0
  subst hsz
  have C0 : gk_F p s m ([.ref (ad 0)] : List Value).toArray meth c cX8_digest 4 (some .long) RX8 := ⟨B.exec, B.bytes, hml0, findClass_of_methodNamed B.named, fun w hw => atoms_spec (ws := wsX8_digest) B.pre w (List.mem_cons_of_mem _ hw), B.returns, B.notSynchronized⟩
  obtain ⟨hx, hb, hml, hown, hts, hr, hlocks⟩ := id C0
  have hS : va_S (gk_A ad s.heap.size) s.heap s.heap [] := va_S.rf
  have hl := lv_entry ([.ref (ad 0)]) (n := 4) (Nat.le_of_ble_eq_true rfl)
  rw [lg_entry_eq]
  generalize (lg_sl ([.ref (ad 0)]) ++ List.replicate (4 - (lg_sl ([.ref (ad 0)])).length) Slot.unset).toArray = ls at hl ⊢
  have hl : lv_has ls 4 [(0, .ref (ad 0))] := hl
  show W p l e rmX8_digest s m _ below meth c s.heap [] 0 0 _ _
  refine lv_aload_n hx hb dX8_digest_0 rfl (lv_at hl 0 rfl) ?_
  refine gk_get hx hb hts iwX8 hown hK.1 (gk_o0 hW) rfl 1 (by decide) (hts _ fl_X8_21) (fun _ h9 => h9) rfl dX8_digest_1 ?_
  refine lv_aload_n hx hb dX8_digest_4 rfl (lv_at hl 0 rfl) ?_
  refine gk_get hx hb hts iwX8 hown hK.1 (gk_o0 hW) rfl 0 (by decide) (hts _ fl_X8_10) (fun _ h9 => h9) rfl dX8_digest_5 ?_
  refine gk_getN hx hb hts iwX4 hown hK.1 (gk_o1 hW) rfl 5 (by decide) (gk_nw hK nf_X8_181) (fun _ h9 => h9) rfl dX8_digest_8 ?_
  refine lv_iconst (v := 0) hx hb dX8_digest_11 (by decide) ?_
  refine gk_callVv ⟨hx, hb, hml, hown, hts⟩ (c_X7_look l D cI cZ cG cL ad (by decide) hw) (cwV 2 hts (gk_gV ml_X8_188 im_X7_look se_X7_look in_X7 co_X7_look) rfl rfl rfl (by decide +kernel) ⟨Nat.le_of_ble_eq_true rfl, Nat.le_of_ble_eq_true rfl⟩) (gk_recv hK.1 (gk_ov hW (v := 0) (by decide)) rfl) hW hK hS rfl hl.1 (rest := []) rfl (lv_room (Nat.le_of_ble_eq_true rfl)) dX8_digest_12 ⟨Nat.zero_le _, Nat.zero_le _⟩ (fun σ12 H locs hw hW _ hS => ?_)
  refine lv_aload_n hx hb dX8_digest_15 rfl (lv_at hl 0 rfl) ?_
  refine lv_ldc2 (v := 2579) hx hb hown (hts _ k_X8_267) dX8_digest_16 ?_
  refine gk_callRl ⟨hx, hb, hml, hown, hts⟩ (c_X8_withNumbers l D cI cZ cG cL ad hw) (cwV 1 hts (gk_gV ml_X8_269 im_X8_withNumbers se_X8_withNumbers in_X8 co_X8_withNumbers) rfl rfl rfl (by decide +kernel) ⟨Nat.le_of_ble_eq_true rfl, Nat.le_of_ble_eq_true rfl⟩) (gk_recv hK.1 (gk_o0 hW) rfl) hW hK hS rfl hl.1 (rest := []) rfl (lv_room (Nat.le_of_ble_eq_true rfl)) dX8_digest_19 ⟨Nat.zero_le _, Nat.zero_le _⟩ (fun r19 H locs hw hW _ hS => ?_)
  refine lv_lstore_n (lv' := [(1, .long r19), (0, .ref (ad 0))]) hx hb dX8_digest_22 rfl hl (by decide) rfl (fun ls hl => ?_)
  refine lv_aload_n hx hb dX8_digest_23 rfl (lv_at hl 1 rfl) ?_
  refine lv_lload_n hx hb dX8_digest_24 rfl (lv_at hl 0 rfl) ?_
  refine gk_callRl ⟨hx, hb, hml, hown, hts⟩ (c_X8_withNear l D cI cZ cG cL ad hw) (cwV 1 hts (gk_gV ml_X8_273 im_X8_withNear se_X8_withNear in_X8 co_X8_withNear) rfl rfl rfl (by decide +kernel) ⟨Nat.le_of_ble_eq_true rfl, Nat.le_of_ble_eq_true rfl⟩) (gk_recv hK.1 (gk_o0 hW) rfl) hW hK hS rfl hl.1 (rest := []) rfl (lv_room (Nat.le_of_ble_eq_true rfl)) dX8_digest_25 ⟨Nat.zero_le _, Nat.zero_le _⟩ (fun r25 H locs hw hW _ hS => ?_)
  refine lv_lstore_n (lv' := [(1, .long r25), (0, .ref (ad 0))]) hx hb dX8_digest_28 rfl hl (by decide) rfl (fun ls hl => ?_)
  refine lv_iconst (v := 0) hx hb dX8_digest_29 (by decide) ?_
  refine lv_istore_n (lv' := [(3, .int 0), (1, .long r25), (0, .ref (ad 0))]) hx hb dX8_digest_30 rfl hl (by decide) rfl (fun ls hl => ?_)
  obtain ⟨n31, hw⟩ := hw
  refine tL_X8_digest_31 C0 hK (hk71 := ?_) n31 σ12 r25 0 hw _ _ hW hS _ (lv_sub hl [2, 1, 0] rfl)
  · intro σ x1 hw H locs hW hS ls hl
    refine lv_iconst (v := 0) hx hb dX8_digest_71 (by decide) ?_
    refine lv_istore_n (lv' := [(3, .int 0), (0, .ref (ad 0)), (1, .long x1)]) hx hb dX8_digest_72 rfl hl (by decide) rfl (fun ls hl => ?_)
    obtain ⟨n73, hw⟩ := hw
    refine tL_X8_digest_73 C0 hK (hk120 := ?_) n73 σ x1 0 hw _ _ hW hS _ (lv_sub hl [1, 2, 0] rfl)
    · intro σ x1 hw H locs hW hS ls hl
      refine lv_aload_n hx hb dX8_digest_120 rfl (lv_at hl 0 rfl) ?_
      refine lv_lload_n hx hb dX8_digest_121 rfl (lv_at hl 1 rfl) ?_
      refine gk_callVl ⟨hx, hb, hml, hown, hts⟩ (c_X8_withDecisions l D cI cZ cG cL ad hw) (cwV 1 hts (gk_gV ml_X8_278 im_X8_withDecisions se_X8_withDecisions in_X8 co_X8_withDecisions) rfl rfl rfl (by decide +kernel) ⟨Nat.le_of_ble_eq_true rfl, Nat.le_of_ble_eq_true rfl⟩) (gk_recv hK.1 (gk_o0 hW) rfl) hW hK hS rfl hl.1 (rest := []) rfl (lv_room (Nat.le_of_ble_eq_true rfl)) dX8_digest_122 ⟨Nat.zero_le _, Nat.zero_le _⟩ (fun r122 σ122 H locs hw hW _ hS => ?_)
      refine lv_lstore_n (lv' := [(1, .long r122), (0, .ref (ad 0))]) hx hb dX8_digest_125 rfl hl (by decide) rfl (fun ls hl => ?_)
      refine lv_aload_n hx hb dX8_digest_126 rfl (lv_at hl 1 rfl) ?_
      refine lv_lload_n hx hb dX8_digest_127 rfl (lv_at hl 0 rfl) ?_
      refine gk_callVl ⟨hx, hb, hml, hown, hts⟩ (c_X8_withReasons l D cI cZ cG cL ad hw) (cwV 1 hts (gk_gV ml_X8_281 im_X8_withReasons se_X8_withReasons in_X8 co_X8_withReasons) rfl rfl rfl (by decide +kernel) ⟨Nat.le_of_ble_eq_true rfl, Nat.le_of_ble_eq_true rfl⟩) (gk_recv hK.1 (gk_o0 hW) rfl) hW hK hS rfl hl.1 (rest := []) rfl (lv_room (Nat.le_of_ble_eq_true rfl)) dX8_digest_128 ⟨Nat.zero_le _, Nat.zero_le _⟩ (fun r128 σ128 H locs hw hW _ hS => ?_)
      refine lv_lstore_n (lv' := [(1, .long r128), (0, .ref (ad 0))]) hx hb dX8_digest_131 rfl hl (by decide) rfl (fun ls hl => ?_)
      refine lv_iconst (v := 0) hx hb dX8_digest_132 (by decide) ?_
      refine lv_istore_n (lv' := [(3, .int 0), (1, .long r128), (0, .ref (ad 0))]) hx hb dX8_digest_133 rfl hl (by decide) rfl (fun ls hl => ?_)
      obtain ⟨n134, hw⟩ := hw
      refine tL_X8_digest_134 C0 hK (hk162 := ?_) n134 σ128 r128 0 hw _ _ hW hS _ (lv_sub hl [2, 1, 0] rfl)
      · intro σ x1 hw H locs hW hS ls hl
        refine lv_aload_n hx hb dX8_digest_162 rfl (lv_at hl 0 rfl) ?_
        refine lv_lload_n hx hb dX8_digest_163 rfl (lv_at hl 1 rfl) ?_
        refine gk_callRl ⟨hx, hb, hml, hown, hts⟩ (c_X8_withDone l D cI cZ cG cL ad hw) (cwV 1 hts (gk_gV ml_X8_284 im_X8_withDone se_X8_withDone in_X8 co_X8_withDone) rfl rfl rfl (by decide +kernel) ⟨Nat.le_of_ble_eq_true rfl, Nat.le_of_ble_eq_true rfl⟩) (gk_recv hK.1 (gk_o0 hW) rfl) hW hK hS rfl hl.1 (rest := []) rfl (lv_room (Nat.le_of_ble_eq_true rfl)) dX8_digest_164 ⟨Nat.zero_le _, Nat.zero_le _⟩ (fun r164 H locs hw hW _ hS => ?_)
        refine lv_lstore_n (lv' := [(1, .long r164), (0, .ref (ad 0))]) hx hb dX8_digest_167 rfl hl (by decide) rfl (fun ls hl => ?_)
        refine lv_lload_n hx hb dX8_digest_168 rfl (lv_at hl 0 rfl) ?_
        refine lv_ldc2 (v := 31) hx hb hown (hts _ k_X8_276) dX8_digest_169 ?_
        refine lv_lmul hx hb dX8_digest_172 ?_
        refine lv_aload_n hx hb dX8_digest_173 rfl (lv_at hl 1 rfl) ?_
        refine gk_get hx hb hts iwX8 hown hK.1 (gk_o0 hW) rfl 1 (by decide) (hts _ fl_X8_21) (fun _ h9 => h9) rfl dX8_digest_174 ?_
        refine gk_callVi ⟨hx, hb, hml, hown, hts⟩ (c_X7_opposedPairs l D cI cZ cG cL ad (by decide) hw) (cwV 0 hts (gk_gV ml_X8_254 im_X7_opposedPairs se_X7_opposedPairs in_X7 co_X7_opposedPairs) rfl rfl rfl (by decide +kernel) ⟨Nat.le_of_ble_eq_true rfl, Nat.le_of_ble_eq_true rfl⟩) (gk_recv hK.1 (gk_ov hW (v := 0) (by decide)) rfl) hW hK hS rfl hl.1 (rest := [.long (r164 * 31)]) rfl (lv_room (Nat.le_of_ble_eq_true rfl)) dX8_digest_177 ⟨Nat.zero_le _, Nat.zero_le _⟩ (fun r177 σ177 H locs hw hW _ hS => ?_)
        refine lv_i2l (v := (r177).toInt64) hx hb dX8_digest_180 rfl ?_
        refine lv_ladd hx hb dX8_digest_181 ?_
        exact gk_retl C0 hw hW hS dX8_digest_182
